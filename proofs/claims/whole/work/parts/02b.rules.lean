section RULES
variable {p : Program} {l : Launch} {e : Env} {R : Room} {s : State} {m : MethodId} {args : Array Value} {below : List Frame} {meth : Method} {c : Code} {cells slots : Nat} {Q : State → Prop} {A : Nat → Prop} {E : Ev} {ρ : Rh} {own : String} {cc : ByteArray} {nL : Nat} {Ts : List Cond} {pc q : Nat} {lv lv' : List (Option Value)} {st : List Value} {σ σ' : Sg}
theorem A_iconst (cx : Cx p s m args c E A own cc nL Ts) {n : Int} {v : Int32} (hd : decode cc pc = .ok (.iconst n, 1)) (hv : Int32.ofInt n = v) (hq : pc + 1 = q) (k : AW p l e R s m args below meth c cells slots Q A E ρ q lv (.int v :: st) σ) : AW p l e R s m args below meth c cells slots Q A E ρ pc lv st σ := fun H locs ls hP hS hl => by subst hq; exact lv_iconst cx.1.1 cx.1.2.1 hd hv (k H locs ls hP hS hl)
theorem A_bipush (cx : Cx p s m args c E A own cc nL Ts) {n : Int} {v : Int32} (hd : decode cc pc = .ok (.bipush n, 2)) (hv : (Int8.ofInt n).toInt32 = v) (hq : pc + 2 = q) (k : AW p l e R s m args below meth c cells slots Q A E ρ q lv (.int v :: st) σ) : AW p l e R s m args below meth c cells slots Q A E ρ pc lv st σ := fun H locs ls hP hS hl => by subst hq; exact lv_bipush cx.1.1 cx.1.2.1 hd hv (k H locs ls hP hS hl)
theorem A_sipush (cx : Cx p s m args c E A own cc nL Ts) {n : Int} {v : Int32} (hd : decode cc pc = .ok (.sipush n, 3)) (hv : (Int16.ofInt n).toInt32 = v) (hq : pc + 3 = q) (k : AW p l e R s m args below meth c cells slots Q A E ρ q lv (.int v :: st) σ) : AW p l e R s m args below meth c cells slots Q A E ρ pc lv st σ := fun H locs ls hP hS hl => by subst hq; exact lv_sipush cx.1.1 cx.1.2.1 hd hv (k H locs ls hP hS hl)
theorem A_iload_n (cx : Cx p s m args c E A own cc nL Ts) {k : Fin 4} {x : Int32} (hd : decode cc pc = .ok (.iload_n k, 1)) (hx : lv[(k : Nat)]? = some (some (.int x))) (hq : pc + 1 = q) (kk : AW p l e R s m args below meth c cells slots Q A E ρ q lv (.int x :: st) σ) : AW p l e R s m args below meth c cells slots Q A E ρ pc lv st σ := fun H locs ls hP hS hl => by subst hq; exact lv_iload_n cx.1.1 cx.1.2.1 hd rfl (hl.at hx) (kk H locs ls hP hS hl)
theorem A_iload (cx : Cx p s m args c E A own cc nL Ts) {i : Nat} {x : Int32} (hd : decode cc pc = .ok (.iload i, 2)) (hx : lv[i]? = some (some (.int x))) (hq : pc + 2 = q) (kk : AW p l e R s m args below meth c cells slots Q A E ρ q lv (.int x :: st) σ) : AW p l e R s m args below meth c cells slots Q A E ρ pc lv st σ := fun H locs ls hP hS hl => by subst hq; exact lv_iload cx.1.1 cx.1.2.1 hd (hl.at hx) (kk H locs ls hP hS hl)
theorem A_aload_n (cx : Cx p s m args c E A own cc nL Ts) {k : Fin 4} {v : Value} (hd : decode cc pc = .ok (.aload_n k, 1)) (hx : lv[(k : Nat)]? = some (some v)) (hv : isR v = true) (hq : pc + 1 = q) (kk : AW p l e R s m args below meth c cells slots Q A E ρ q lv (v :: st) σ) : AW p l e R s m args below meth c cells slots Q A E ρ pc lv st σ := fun H locs ls hP hS hl => by
  subst hq
  rcases isR_of hv with rfl | ⟨a, rfl⟩
  · exact lv_aload_nN cx.1.1 cx.1.2.1 hd rfl (hl.at hx) (kk H locs ls hP hS hl)
  · exact lv_aload_n cx.1.1 cx.1.2.1 hd rfl (hl.at hx) (kk H locs ls hP hS hl)
theorem A_aload (cx : Cx p s m args c E A own cc nL Ts) {i : Nat} {v : Value} (hd : decode cc pc = .ok (.aload i, 2)) (hx : lv[i]? = some (some v)) (hv : isR v = true) (hq : pc + 2 = q) (kk : AW p l e R s m args below meth c cells slots Q A E ρ q lv (v :: st) σ) : AW p l e R s m args below meth c cells slots Q A E ρ pc lv st σ := fun H locs ls hP hS hl => by
  subst hq
  rcases isR_of hv with rfl | ⟨a, rfl⟩
  · exact lv_aloadN cx.1.1 cx.1.2.1 hd (hl.at hx) (kk H locs ls hP hS hl)
  · exact lv_aload cx.1.1 cx.1.2.1 hd (hl.at hx) (kk H locs ls hP hS hl)
theorem A_istore_n (cx : Cx p s m args c E A own cc nL Ts) {k : Fin 4} {x : Int32} (hd : decode cc pc = .ok (.istore_n k, 1)) (hn : (k : Nat) < lv.length) (he : lv.set (k : Nat) (some (.int x)) = lv') (hq : pc + 1 = q) (kk : AW p l e R s m args below meth c cells slots Q A E ρ q lv' st σ) : AW p l e R s m args below meth c cells slots Q A E ρ pc lv (.int x :: st) σ := fun H locs ls hP hS hl => by
  subst hq
  exact lv_istore_n cx.1.1 cx.1.2.1 hd rfl hl.has hn rfl (fun ls' h' => kk H locs ls' hP hS (hl.store rfl he h'))
theorem A_istore (cx : Cx p s m args c E A own cc nL Ts) {k : Nat} {x : Int32} (hd : decode cc pc = .ok (.istore k, 2)) (hn : k < lv.length) (he : lv.set k (some (.int x)) = lv') (hq : pc + 2 = q) (kk : AW p l e R s m args below meth c cells slots Q A E ρ q lv' st σ) : AW p l e R s m args below meth c cells slots Q A E ρ pc lv (.int x :: st) σ := fun H locs ls hP hS hl => by
  subst hq
  exact lv_istore cx.1.1 cx.1.2.1 hd hl.has hn rfl (fun ls' h' => kk H locs ls' hP hS (hl.store rfl he h'))
theorem A_astore_n (cx : Cx p s m args c E A own cc nL Ts) {k : Fin 4} {v : Value} (hd : decode cc pc = .ok (.astore_n k, 1)) (hn : (k : Nat) < lv.length) (hv : isR v = true) (he : lv.set (k : Nat) (some v) = lv') (hq : pc + 1 = q) (kk : AW p l e R s m args below meth c cells slots Q A E ρ q lv' st σ) : AW p l e R s m args below meth c cells slots Q A E ρ pc lv (v :: st) σ := fun H locs ls hP hS hl => by
  subst hq
  rcases isR_of hv with rfl | ⟨a, rfl⟩
  · exact lv_astore_nN cx.1.1 cx.1.2.1 hd rfl hl.has hn rfl (fun ls' h' => kk H locs ls' hP hS (hl.store rfl he h'))
  · exact lv_astore_n cx.1.1 cx.1.2.1 hd rfl hl.has hn rfl (fun ls' h' => kk H locs ls' hP hS (hl.store rfl he h'))
theorem A_astore (cx : Cx p s m args c E A own cc nL Ts) {k : Nat} {v : Value} (hd : decode cc pc = .ok (.astore k, 2)) (hn : k < lv.length) (hv : isR v = true) (he : lv.set k (some v) = lv') (hq : pc + 2 = q) (kk : AW p l e R s m args below meth c cells slots Q A E ρ q lv' st σ) : AW p l e R s m args below meth c cells slots Q A E ρ pc lv (v :: st) σ := fun H locs ls hP hS hl => by
  subst hq
  rcases isR_of hv with rfl | ⟨a, rfl⟩
  · exact lv_astoreN cx.1.1 cx.1.2.1 hd hl.has hn rfl (fun ls' h' => kk H locs ls' hP hS (hl.store rfl he h'))
  · exact lv_astore cx.1.1 cx.1.2.1 hd hl.has hn rfl (fun ls' h' => kk H locs ls' hP hS (hl.store rfl he h'))
theorem A_iinc (cx : Cx p s m args c E A own cc nL Ts) {i : Nat} {n : Int} {x v : Int32} (hd : decode cc pc = .ok (.iinc i n, 3)) (hx : lv[i]? = some (some (.int x))) (hv : x + Int32.ofInt n = v) (he : lv.set i (some (.int v)) = lv') (hq : pc + 3 = q) (kk : AW p l e R s m args below meth c cells slots Q A E ρ q lv' st σ) : AW p l e R s m args below meth c cells slots Q A E ρ pc lv st σ := fun H locs ls hP hS hl => by
  subst hq
  obtain ⟨k, hk⟩ := List.getElem?_of_mem (mem_toP.mpr hx)
  exact lv_iinc cx.1.1 cx.1.2.1 hd hl.has hk hv (List.getElem?_eq_some_iff.mp hx).1 rfl (fun ls' h' => kk H locs ls' hP hS (hl.store rfl he h'))
theorem A_iadd (cx : Cx p s m args c E A own cc nL Ts) {x y : Int32} (hd : decode cc pc = .ok (.iadd, 1)) (hq : pc + 1 = q) (kk : AW p l e R s m args below meth c cells slots Q A E ρ q lv (.int (x + y) :: st) σ) : AW p l e R s m args below meth c cells slots Q A E ρ pc lv (.int y :: .int x :: st) σ := fun H locs ls hP hS hl => by subst hq; exact lv_iadd cx.1.1 cx.1.2.1 hd (kk H locs ls hP hS hl)
theorem A_isub (cx : Cx p s m args c E A own cc nL Ts) {x y : Int32} (hd : decode cc pc = .ok (.isub, 1)) (hq : pc + 1 = q) (kk : AW p l e R s m args below meth c cells slots Q A E ρ q lv (.int (x - y) :: st) σ) : AW p l e R s m args below meth c cells slots Q A E ρ pc lv (.int y :: .int x :: st) σ := fun H locs ls hP hS hl => by subst hq; exact lv_isub cx.1.1 cx.1.2.1 hd (kk H locs ls hP hS hl)
theorem A_imul (cx : Cx p s m args c E A own cc nL Ts) {x y : Int32} (hd : decode cc pc = .ok (.imul, 1)) (hq : pc + 1 = q) (kk : AW p l e R s m args below meth c cells slots Q A E ρ q lv (.int (x * y) :: st) σ) : AW p l e R s m args below meth c cells slots Q A E ρ pc lv (.int y :: .int x :: st) σ := fun H locs ls hP hS hl => by subst hq; exact lv_imul cx.1.1 cx.1.2.1 hd (kk H locs ls hP hS hl)
theorem A_iand (cx : Cx p s m args c E A own cc nL Ts) {x y : Int32} (hd : decode cc pc = .ok (.iand, 1)) (hq : pc + 1 = q) (kk : AW p l e R s m args below meth c cells slots Q A E ρ q lv (.int (x &&& y) :: st) σ) : AW p l e R s m args below meth c cells slots Q A E ρ pc lv (.int y :: .int x :: st) σ := fun H locs ls hP hS hl => by subst hq; exact lv_iand cx.1.1 cx.1.2.1 hd (kk H locs ls hP hS hl)
theorem A_ior (cx : Cx p s m args c E A own cc nL Ts) {x y : Int32} (hd : decode cc pc = .ok (.ior, 1)) (hq : pc + 1 = q) (kk : AW p l e R s m args below meth c cells slots Q A E ρ q lv (.int (x ||| y) :: st) σ) : AW p l e R s m args below meth c cells slots Q A E ρ pc lv (.int y :: .int x :: st) σ := fun H locs ls hP hS hl => by subst hq; exact lv_ior cx.1.1 cx.1.2.1 hd (kk H locs ls hP hS hl)
theorem A_ishl (cx : Cx p s m args c E A own cc nL Ts) {x y : Int32} (hd : decode cc pc = .ok (.ishl, 1)) (hq : pc + 1 = q) (kk : AW p l e R s m args below meth c cells slots Q A E ρ q lv (.int (x <<< (y &&& 31)) :: st) σ) : AW p l e R s m args below meth c cells slots Q A E ρ pc lv (.int y :: .int x :: st) σ := fun H locs ls hP hS hl => by subst hq; exact lv_ishl cx.1.1 cx.1.2.1 hd (kk H locs ls hP hS hl)
theorem A_idiv (cx : Cx p s m args c E A own cc nL Ts) {x y : Int32} (hd : decode cc pc = .ok (.idiv, 1)) (hne : ¬ y = 0) (hq : pc + 1 = q) (kk : AW p l e R s m args below meth c cells slots Q A E ρ q lv (.int (x / y) :: st) σ) : AW p l e R s m args below meth c cells slots Q A E ρ pc lv (.int y :: .int x :: st) σ := fun H locs ls hP hS hl => by subst hq; exact lv_idiv cx.1.1 cx.1.2.1 hd hne (kk H locs ls hP hS hl)
theorem A_irem (cx : Cx p s m args c E A own cc nL Ts) {x y : Int32} (hd : decode cc pc = .ok (.irem, 1)) (hne : ¬ y = 0) (hq : pc + 1 = q) (kk : AW p l e R s m args below meth c cells slots Q A E ρ q lv (.int (x - x / y * y) :: st) σ) : AW p l e R s m args below meth c cells slots Q A E ρ pc lv (.int y :: .int x :: st) σ := fun H locs ls hP hS hl => by subst hq; exact lv_irem cx.1.1 cx.1.2.1 hd hne (kk H locs ls hP hS hl)
theorem A_dup (cx : Cx p s m args c E A own cc nL Ts) {v : Value} (hd : decode cc pc = .ok (.dup, 1)) (hv : v.category = 1) (hq : pc + 1 = q) (kk : AW p l e R s m args below meth c cells slots Q A E ρ q lv (v :: v :: st) σ) : AW p l e R s m args below meth c cells slots Q A E ρ pc lv (v :: st) σ := fun H locs ls hP hS hl => by subst hq; exact lv_dup cx.1.1 cx.1.2.1 hd hv (kk H locs ls hP hS hl)
theorem A_dup2 (cx : Cx p s m args c E A own cc nL Ts) {v w : Value} (hd : decode cc pc = .ok (.dup2, 1)) (hv : v.category = 1) (hw : w.category = 1) (hq : pc + 1 = q) (kk : AW p l e R s m args below meth c cells slots Q A E ρ q lv (v :: w :: v :: w :: st) σ) : AW p l e R s m args below meth c cells slots Q A E ρ pc lv (v :: w :: st) σ := fun H locs ls hP hS hl => by subst hq; exact lv_dup2_11 cx.1.1 cx.1.2.1 hd hv hw (kk H locs ls hP hS hl)
theorem A_pop (cx : Cx p s m args c E A own cc nL Ts) {v : Value} (hd : decode cc pc = .ok (.pop, 1)) (hv : v.category = 1) (hq : pc + 1 = q) (kk : AW p l e R s m args below meth c cells slots Q A E ρ q lv st σ) : AW p l e R s m args below meth c cells slots Q A E ρ pc lv (v :: st) σ := fun H locs ls hP hS hl => by subst hq; exact lv_pop cx.1.1 cx.1.2.1 hd hv (kk H locs ls hP hS hl)
theorem A_goto (cx : Cx p s m args c E A own cc nL Ts) {off : Int} (hd : decode cc pc = .ok (.goto off, 3)) (ht : (pc : Int) + off = (q : Int)) (kk : AW p l e R s m args below meth c cells slots Q A E ρ q lv st σ) : AW p l e R s m args below meth c cells slots Q A E ρ pc lv st σ := fun H locs ls hP hS hl => lv_goto cx.1.1 cx.1.2.1 hd ht (kk H locs ls hP hS hl)
theorem A_if_eq (cx : Cx p s m args c E A own cc nL Ts) {x : Int32} {off : Int} {tgt : Nat} (hd : decode cc pc = .ok (.ifCond .eq off, 3)) (ht : (pc : Int) + off = (tgt : Int)) (hq : pc + 3 = q) (kt : x = 0 → AW p l e R s m args below meth c cells slots Q A E ρ tgt lv st σ) (kf : ¬ x = 0 → AW p l e R s m args below meth c cells slots Q A E ρ q lv st σ) : AW p l e R s m args below meth c cells slots Q A E ρ pc lv (.int x :: st) σ := fun H locs ls hP hS hl => by subst hq; exact lv_if_eq cx.1.1 cx.1.2.1 hd ht (fun h => kt h H locs ls hP hS hl) (fun h => kf h H locs ls hP hS hl)
theorem A_icmp_eq (cx : Cx p s m args c E A own cc nL Ts) {x y : Int32} {off : Int} {tgt : Nat} (hd : decode cc pc = .ok (.if_icmp .eq off, 3)) (ht : (pc : Int) + off = (tgt : Int)) (hq : pc + 3 = q) (kt : x = y → AW p l e R s m args below meth c cells slots Q A E ρ tgt lv st σ) (kf : ¬ x = y → AW p l e R s m args below meth c cells slots Q A E ρ q lv st σ) : AW p l e R s m args below meth c cells slots Q A E ρ pc lv (.int y :: .int x :: st) σ := fun H locs ls hP hS hl => by subst hq; exact lv_icmp_eq cx.1.1 cx.1.2.1 hd ht (fun h => kt h H locs ls hP hS hl) (fun h => kf h H locs ls hP hS hl)
theorem A_if_ne (cx : Cx p s m args c E A own cc nL Ts) {x : Int32} {off : Int} {tgt : Nat} (hd : decode cc pc = .ok (.ifCond .ne off, 3)) (ht : (pc : Int) + off = (tgt : Int)) (hq : pc + 3 = q) (kt : ¬ x = 0 → AW p l e R s m args below meth c cells slots Q A E ρ tgt lv st σ) (kf : x = 0 → AW p l e R s m args below meth c cells slots Q A E ρ q lv st σ) : AW p l e R s m args below meth c cells slots Q A E ρ pc lv (.int x :: st) σ := fun H locs ls hP hS hl => by subst hq; exact lv_if_ne cx.1.1 cx.1.2.1 hd ht (fun h => kt h H locs ls hP hS hl) (fun h => kf h H locs ls hP hS hl)
theorem A_icmp_ne (cx : Cx p s m args c E A own cc nL Ts) {x y : Int32} {off : Int} {tgt : Nat} (hd : decode cc pc = .ok (.if_icmp .ne off, 3)) (ht : (pc : Int) + off = (tgt : Int)) (hq : pc + 3 = q) (kt : ¬ x = y → AW p l e R s m args below meth c cells slots Q A E ρ tgt lv st σ) (kf : x = y → AW p l e R s m args below meth c cells slots Q A E ρ q lv st σ) : AW p l e R s m args below meth c cells slots Q A E ρ pc lv (.int y :: .int x :: st) σ := fun H locs ls hP hS hl => by subst hq; exact lv_icmp_ne cx.1.1 cx.1.2.1 hd ht (fun h => kt h H locs ls hP hS hl) (fun h => kf h H locs ls hP hS hl)
theorem A_if_lt (cx : Cx p s m args c E A own cc nL Ts) {x : Int32} {off : Int} {tgt : Nat} (hd : decode cc pc = .ok (.ifCond .lt off, 3)) (ht : (pc : Int) + off = (tgt : Int)) (hq : pc + 3 = q) (kt : x < 0 → AW p l e R s m args below meth c cells slots Q A E ρ tgt lv st σ) (kf : ¬ x < 0 → AW p l e R s m args below meth c cells slots Q A E ρ q lv st σ) : AW p l e R s m args below meth c cells slots Q A E ρ pc lv (.int x :: st) σ := fun H locs ls hP hS hl => by subst hq; exact lv_if_lt cx.1.1 cx.1.2.1 hd ht (fun h => kt h H locs ls hP hS hl) (fun h => kf h H locs ls hP hS hl)
theorem A_icmp_lt (cx : Cx p s m args c E A own cc nL Ts) {x y : Int32} {off : Int} {tgt : Nat} (hd : decode cc pc = .ok (.if_icmp .lt off, 3)) (ht : (pc : Int) + off = (tgt : Int)) (hq : pc + 3 = q) (kt : x < y → AW p l e R s m args below meth c cells slots Q A E ρ tgt lv st σ) (kf : ¬ x < y → AW p l e R s m args below meth c cells slots Q A E ρ q lv st σ) : AW p l e R s m args below meth c cells slots Q A E ρ pc lv (.int y :: .int x :: st) σ := fun H locs ls hP hS hl => by subst hq; exact lv_icmp_lt cx.1.1 cx.1.2.1 hd ht (fun h => kt h H locs ls hP hS hl) (fun h => kf h H locs ls hP hS hl)
theorem A_if_ge (cx : Cx p s m args c E A own cc nL Ts) {x : Int32} {off : Int} {tgt : Nat} (hd : decode cc pc = .ok (.ifCond .ge off, 3)) (ht : (pc : Int) + off = (tgt : Int)) (hq : pc + 3 = q) (kt : 0 ≤ x → AW p l e R s m args below meth c cells slots Q A E ρ tgt lv st σ) (kf : ¬ 0 ≤ x → AW p l e R s m args below meth c cells slots Q A E ρ q lv st σ) : AW p l e R s m args below meth c cells slots Q A E ρ pc lv (.int x :: st) σ := fun H locs ls hP hS hl => by subst hq; exact lv_if_ge cx.1.1 cx.1.2.1 hd ht (fun h => kt h H locs ls hP hS hl) (fun h => kf h H locs ls hP hS hl)
theorem A_icmp_ge (cx : Cx p s m args c E A own cc nL Ts) {x y : Int32} {off : Int} {tgt : Nat} (hd : decode cc pc = .ok (.if_icmp .ge off, 3)) (ht : (pc : Int) + off = (tgt : Int)) (hq : pc + 3 = q) (kt : y ≤ x → AW p l e R s m args below meth c cells slots Q A E ρ tgt lv st σ) (kf : ¬ y ≤ x → AW p l e R s m args below meth c cells slots Q A E ρ q lv st σ) : AW p l e R s m args below meth c cells slots Q A E ρ pc lv (.int y :: .int x :: st) σ := fun H locs ls hP hS hl => by subst hq; exact lv_icmp_ge cx.1.1 cx.1.2.1 hd ht (fun h => kt h H locs ls hP hS hl) (fun h => kf h H locs ls hP hS hl)
theorem A_if_gt (cx : Cx p s m args c E A own cc nL Ts) {x : Int32} {off : Int} {tgt : Nat} (hd : decode cc pc = .ok (.ifCond .gt off, 3)) (ht : (pc : Int) + off = (tgt : Int)) (hq : pc + 3 = q) (kt : 0 < x → AW p l e R s m args below meth c cells slots Q A E ρ tgt lv st σ) (kf : ¬ 0 < x → AW p l e R s m args below meth c cells slots Q A E ρ q lv st σ) : AW p l e R s m args below meth c cells slots Q A E ρ pc lv (.int x :: st) σ := fun H locs ls hP hS hl => by subst hq; exact lv_if_gt cx.1.1 cx.1.2.1 hd ht (fun h => kt h H locs ls hP hS hl) (fun h => kf h H locs ls hP hS hl)
theorem A_icmp_gt (cx : Cx p s m args c E A own cc nL Ts) {x y : Int32} {off : Int} {tgt : Nat} (hd : decode cc pc = .ok (.if_icmp .gt off, 3)) (ht : (pc : Int) + off = (tgt : Int)) (hq : pc + 3 = q) (kt : y < x → AW p l e R s m args below meth c cells slots Q A E ρ tgt lv st σ) (kf : ¬ y < x → AW p l e R s m args below meth c cells slots Q A E ρ q lv st σ) : AW p l e R s m args below meth c cells slots Q A E ρ pc lv (.int y :: .int x :: st) σ := fun H locs ls hP hS hl => by subst hq; exact lv_icmp_gt cx.1.1 cx.1.2.1 hd ht (fun h => kt h H locs ls hP hS hl) (fun h => kf h H locs ls hP hS hl)
theorem A_if_le (cx : Cx p s m args c E A own cc nL Ts) {x : Int32} {off : Int} {tgt : Nat} (hd : decode cc pc = .ok (.ifCond .le off, 3)) (ht : (pc : Int) + off = (tgt : Int)) (hq : pc + 3 = q) (kt : x ≤ 0 → AW p l e R s m args below meth c cells slots Q A E ρ tgt lv st σ) (kf : ¬ x ≤ 0 → AW p l e R s m args below meth c cells slots Q A E ρ q lv st σ) : AW p l e R s m args below meth c cells slots Q A E ρ pc lv (.int x :: st) σ := fun H locs ls hP hS hl => by subst hq; exact lv_if_le cx.1.1 cx.1.2.1 hd ht (fun h => kt h H locs ls hP hS hl) (fun h => kf h H locs ls hP hS hl)
theorem A_icmp_le (cx : Cx p s m args c E A own cc nL Ts) {x y : Int32} {off : Int} {tgt : Nat} (hd : decode cc pc = .ok (.if_icmp .le off, 3)) (ht : (pc : Int) + off = (tgt : Int)) (hq : pc + 3 = q) (kt : x ≤ y → AW p l e R s m args below meth c cells slots Q A E ρ tgt lv st σ) (kf : ¬ x ≤ y → AW p l e R s m args below meth c cells slots Q A E ρ q lv st σ) : AW p l e R s m args below meth c cells slots Q A E ρ pc lv (.int y :: .int x :: st) σ := fun H locs ls hP hS hl => by subst hq; exact lv_icmp_le cx.1.1 cx.1.2.1 hd ht (fun h => kt h H locs ls hP hS hl) (fun h => kf h H locs ls hP hS hl)
theorem A_null (cx : Cx p s m args c E A own cc nL Ts) (hd : decode cc pc = .ok (.aconst_null, 1)) (hq : pc + 1 = q) (kk : AW p l e R s m args below meth c cells slots Q A E ρ q lv (.null :: st) σ) : AW p l e R s m args below meth c cells slots Q A E ρ pc lv st σ := fun H locs ls hP hS hl => by subst hq; exact lv_null cx.1.1 cx.1.2.1 hd (kk H locs ls hP hS hl)
theorem A_ifnull_R (cx : Cx p s m args c E A own cc nL Ts) {a : Nat} {off : Int} (hd : decode cc pc = .ok (.ifnull off, 3)) (hq : pc + 3 = q) (kk : AW p l e R s m args below meth c cells slots Q A E ρ q lv st σ) : AW p l e R s m args below meth c cells slots Q A E ρ pc lv (.ref a :: st) σ := fun H locs ls hP hS hl => by subst hq; exact lv_ifnull cx.1.1 cx.1.2.1 hd (kk H locs ls hP hS hl)
theorem A_ifnull_N (cx : Cx p s m args c E A own cc nL Ts) {off : Int} {tgt : Nat} (hd : decode cc pc = .ok (.ifnull off, 3)) (ht : (pc : Int) + off = (tgt : Int)) (kk : AW p l e R s m args below meth c cells slots Q A E ρ tgt lv st σ) : AW p l e R s m args below meth c cells slots Q A E ρ pc lv (.null :: st) σ := fun H locs ls hP hS hl => lv_ifnullN cx.1.1 cx.1.2.1 hd ht (kk H locs ls hP hS hl)
theorem A_ifnull_O (cx : Cx p s m args c E A own cc nL Ts) {r : Option Ky} {off : Int} {tgt : Nat} (hd : decode cc pc = .ok (.ifnull off, 3)) (ht : (pc : Int) + off = (tgt : Int)) (hq : pc + 3 = q) (kt : r = none → AW p l e R s m args below meth c cells slots Q A E ρ tgt lv st σ) (kf : ∀ k, r = some k → AW p l e R s m args below meth c cells slots Q A E ρ q lv st σ) : AW p l e R s m args below meth c cells slots Q A E ρ pc lv (rv E r :: st) σ := by
  cases r with
  | none => exact A_ifnull_N cx hd ht (kt rfl)
  | some k => exact A_ifnull_R cx hd hq (kf k rfl)
theorem A_ifnonnull_N (cx : Cx p s m args c E A own cc nL Ts) {off : Int} (hd : decode cc pc = .ok (.ifnonnull off, 3)) (hq : pc + 3 = q) (kk : AW p l e R s m args below meth c cells slots Q A E ρ q lv st σ) : AW p l e R s m args below meth c cells slots Q A E ρ pc lv (.null :: st) σ := fun H locs ls hP hS hl => by subst hq; exact lv_ifnonnullN cx.1.1 cx.1.2.1 hd (kk H locs ls hP hS hl)
theorem A_ifnonnull_R (cx : Cx p s m args c E A own cc nL Ts) {a : Nat} {off : Int} {tgt : Nat} (hd : decode cc pc = .ok (.ifnonnull off, 3)) (ht : (pc : Int) + off = (tgt : Int)) (kk : AW p l e R s m args below meth c cells slots Q A E ρ tgt lv st σ) : AW p l e R s m args below meth c cells slots Q A E ρ pc lv (.ref a :: st) σ := fun H locs ls hP hS hl => lv_ifnonnull cx.1.1 cx.1.2.1 hd ht (kk H locs ls hP hS hl)
theorem A_ifnonnull_O (cx : Cx p s m args c E A own cc nL Ts) {r : Option Ky} {off : Int} {tgt : Nat} (hd : decode cc pc = .ok (.ifnonnull off, 3)) (ht : (pc : Int) + off = (tgt : Int)) (hq : pc + 3 = q) (kt : ∀ k, r = some k → AW p l e R s m args below meth c cells slots Q A E ρ tgt lv st σ) (kf : r = none → AW p l e R s m args below meth c cells slots Q A E ρ q lv st σ) : AW p l e R s m args below meth c cells slots Q A E ρ pc lv (rv E r :: st) σ := by
  cases r with
  | none => exact A_ifnonnull_N cx hd hq (kf rfl)
  | some k => exact A_ifnonnull_R cx hd ht (kt k rfl)
theorem A_tableOut (cx : Cx p s m args c E A own cc nL Ts) {dflt lo hi : Int} {offs : Array Int} {len : Nat} {x : Int32} {tgt : Nat} (hd : decode cc pc = .ok (.tableswitch dflt lo hi offs, len)) (h : x.toInt < lo ∨ hi < x.toInt) (ht : (pc : Int) + dflt = (tgt : Int)) (kk : AW p l e R s m args below meth c cells slots Q A E ρ tgt lv st σ) : AW p l e R s m args below meth c cells slots Q A E ρ pc lv (.int x :: st) σ := fun H locs ls hP hS hl => lv_tableOut cx.1.1 cx.1.2.1 hd h ht (kk H locs ls hP hS hl)
theorem A_tableIn (cx : Cx p s m args c E A own cc nL Ts) {dflt lo hi : Int} {offs : Array Int} {len : Nat} {x : Int32} {off : Int} {tgt : Nat} (hd : decode cc pc = .ok (.tableswitch dflt lo hi offs, len)) (h1 : ¬ x.toInt < lo) (h2 : ¬ hi < x.toInt) (ho : offs[(x.toInt - lo).toNat]? = some off) (ht : (pc : Int) + off = (tgt : Int)) (kk : AW p l e R s m args below meth c cells slots Q A E ρ tgt lv st σ) : AW p l e R s m args below meth c cells slots Q A E ρ pc lv (.int x :: st) σ := fun H locs ls hP hS hl => lv_tableIn cx.1.1 cx.1.2.1 hd h1 h2 ho ht (kk H locs ls hP hS hl)
theorem A_lookup (cx : Cx p s m args c E A own cc nL Ts) {dflt : Int} {ps : Array (Int × Int)} {len : Nat} {x : Int32} {off : Int} {tgt : Nat} (hd : decode cc pc = .ok (.lookupswitch dflt ps, len)) (hp : (ps.toList.zip (ps.toList.drop 1)).all (fun (a, next) => a.1 < next.1) = true) (ho : Op.lookupswitch.offset ps.toList dflt x.toInt = off) (ht : (pc : Int) + off = (tgt : Int)) (kk : AW p l e R s m args below meth c cells slots Q A E ρ tgt lv st σ) : AW p l e R s m args below meth c cells slots Q A E ρ pc lv (.int x :: st) σ := fun H locs ls hP hS hl => lv_lookup cx.1.1 cx.1.2.1 hd hp ho ht (kk H locs ls hP hS hl)
theorem A_alen9 (cx : Cx p s m args c E A own cc nL Ts) {k : Ky} {v : Int32} (hd : decode cc pc = .ok (.arraylength, 1)) (hk : kc k = 9) (hm : k ∈ ks E) (hv : Int32.ofNat (al k) = v) (hq : pc + 1 = q) (kk : AW p l e R s m args below meth c cells slots Q A E ρ q lv (.int v :: st) σ) : AW p l e R s m args below meth c cells slots Q A E ρ pc lv (.ref (ad E k) :: st) σ := fun H locs ls hP hS hl => by
  subst hq
  obtain ⟨i, hi⟩ := ks_at hm
  have he := wl_at ρ σ hi
  unfold en at he
  rw [hk] at he
  exact va_alen cx.1.1 cx.1.2.1 cx.2.1.1 hP i 0 he rfl hv hd (kk H locs ls hP hS hl)
theorem A_alen10 (cx : Cx p s m args c E A own cc nL Ts) {k : Ky} {v : Int32} (hd : decode cc pc = .ok (.arraylength, 1)) (hk : kc k = 10) (hm : k ∈ ks E) (hv : Int32.ofNat (al k) = v) (hq : pc + 1 = q) (kk : AW p l e R s m args below meth c cells slots Q A E ρ q lv (.int v :: st) σ) : AW p l e R s m args below meth c cells slots Q A E ρ pc lv (.ref (ad E k) :: st) σ := fun H locs ls hP hS hl => by
  subst hq
  obtain ⟨i, hi⟩ := ks_at hm
  have he := wl_at ρ σ hi
  unfold en at he
  rw [hk] at he
  exact va_alen cx.1.1 cx.1.2.1 cx.2.1.1 hP i 1 he rfl hv hd (kk H locs ls hP hS hl)
theorem A_alen11 (cx : Cx p s m args c E A own cc nL Ts) {k : Ky} {v : Int32} (hd : decode cc pc = .ok (.arraylength, 1)) (hk : kc k = 11) (hm : k ∈ ks E) (hv : Int32.ofNat (al k) = v) (hq : pc + 1 = q) (kk : AW p l e R s m args below meth c cells slots Q A E ρ q lv (.int v :: st) σ) : AW p l e R s m args below meth c cells slots Q A E ρ pc lv (.ref (ad E k) :: st) σ := fun H locs ls hP hS hl => by
  subst hq
  obtain ⟨i, hi⟩ := ks_at hm
  have he := wl_at ρ σ hi
  unfold en at he
  rw [hk] at he
  exact va_alen cx.1.1 cx.1.2.1 cx.2.1.1 hP i 2 he rfl hv hd (kk H locs ls hP hS hl)
theorem A_alen12 (cx : Cx p s m args c E A own cc nL Ts) {k : Ky} {v : Int32} (hd : decode cc pc = .ok (.arraylength, 1)) (hk : kc k = 12) (hm : k ∈ ks E) (hv : Int32.ofNat (al k) = v) (hq : pc + 1 = q) (kk : AW p l e R s m args below meth c cells slots Q A E ρ q lv (.int v :: st) σ) : AW p l e R s m args below meth c cells slots Q A E ρ pc lv (.ref (ad E k) :: st) σ := fun H locs ls hP hS hl => by
  subst hq
  obtain ⟨i, hi⟩ := ks_at hm
  have he := wl_at ρ σ hi
  unfold en at he
  rw [hk] at he
  exact va_alen cx.1.1 cx.1.2.1 cx.2.1.1 hP i 3 he rfl hv hd (kk H locs ls hP hS hl)
theorem A_alen13 (cx : Cx p s m args c E A own cc nL Ts) {k : Ky} {v : Int32} (hd : decode cc pc = .ok (.arraylength, 1)) (hk : kc k = 13) (hm : k ∈ ks E) (hv : Int32.ofNat (al k) = v) (hq : pc + 1 = q) (kk : AW p l e R s m args below meth c cells slots Q A E ρ q lv (.int v :: st) σ) : AW p l e R s m args below meth c cells slots Q A E ρ pc lv (.ref (ad E k) :: st) σ := fun H locs ls hP hS hl => by
  subst hq
  obtain ⟨i, hi⟩ := ks_at hm
  have he := wl_at ρ σ hi
  unfold en at he
  rw [hk] at he
  exact va_alen cx.1.1 cx.1.2.1 cx.2.1.1 hP i 4 he rfl hv hd (kk H locs ls hP hS hl)
theorem A_iaload (cx : Cx p s m args c E A own cc nL Ts) {k : Ky} {j : Nat} {i : Int32} (hd : decode cc pc = .ok (.iaload, 1)) (hk : kc k = 9) (hm : k ∈ ks E) (hi : i = nI j) (hj : j < al k) (hq : pc + 1 = q) (kk : AW p l e R s m args below meth c cells slots Q A E ρ q lv (.int (σ k j) :: st) σ) : AW p l e R s m args below meth c cells slots Q A E ρ pc lv (.int i :: .ref (ad E k) :: st) σ := fun H locs ls hP hS hl => by
  subst hq hi
  obtain ⟨i, hi⟩ := ks_at hm
  have he := wl_at ρ σ hi
  unfold en at he
  rw [hk] at he
  have hb : al k < 2 ^ 31 := al_lt k
  have h0 := kk H locs ls hP hS hl
  rw [← nI_clamp (Nat.lt_trans hj hb)] at h0
  exact va_iald cx.1.1 cx.1.2.1 cx.2.1.1 hP i 0 he rfl (vp_in_nI hj hb) hd h0
theorem A_baload (cx : Cx p s m args c E A own cc nL Ts) {k : Ky} {j : Nat} {i : Int32} (hd : decode cc pc = .ok (.baload, 1)) (hk : kc k = 10) (hm : k ∈ ks E) (hi : i = nI j) (hj : j < al k) (hq : pc + 1 = q) (kk : AW p l e R s m args below meth c cells slots Q A E ρ q lv (.int (σ k j) :: st) σ) : AW p l e R s m args below meth c cells slots Q A E ρ pc lv (.int i :: .ref (ad E k) :: st) σ := fun H locs ls hP hS hl => by
  subst hq hi
  obtain ⟨i, hi⟩ := ks_at hm
  have he := wl_at ρ σ hi
  unfold en at he
  rw [hk] at he
  have hb : al k < 2 ^ 31 := al_lt k
  have h0 := kk H locs ls hP hS hl
  rw [← nI_clamp (Nat.lt_trans hj hb)] at h0
  exact va_zald cx.1.1 cx.1.2.1 cx.2.1.1 hP i 1 he rfl (vp_in_nI hj hb) hd h0
theorem A_iastore (cx : Cx p s m args c E A own cc nL Ts) {k : Ky} {j : Nat} {i x : Int32} (hd : decode cc pc = .ok (.iastore, 1)) (hk : kc k = 9) (hm : k ∈ ks E) (hi : i = nI j) (hj : j < al k) (hq : pc + 1 = q) (kk : AW p l e R s m args below meth c cells slots Q A E ρ q lv st (up2 σ k j x)) : AW p l e R s m args below meth c cells slots Q A E ρ pc lv (.int x :: .int i :: .ref (ad E k) :: st) σ := fun H locs ls hP hS hl => by
  subst hq hi
  obtain ⟨i, hi⟩ := ks_at hm
  have he := wl_at ρ σ hi
  unfold en at he
  rw [hk] at he
  have hb : al k < 2 ^ 31 := al_lt k
  refine va_iast cx.1.1 cx.1.2.1 cx.2.1.1 hP (wl_D cx.2.2.1 cx.2.2.2 ρ σ) hS i 0 he rfl (vp_in_nI hj hb) hd (fun H1 locs1 hP1 _ hS1 => ?_)
  rw [nI_clamp (Nat.lt_trans hj hb)] at hP1
  have hx : en E ρ (up2 σ k j x) k = .inl (E.2.1 0, al k, .inl (upd (σ k) j x)) := by unfold en; rw [hk, up2_row]; rfl
  rw [← hx, wl_set ρ cx.2.2.1.1 hi (fun k' h' => en_nk E ρ σ k j x h')] at hP1
  exact kk H1 locs1 ls hP1 hS1 hl
theorem A_bastore (cx : Cx p s m args c E A own cc nL Ts) {k : Ky} {j : Nat} {i x : Int32} (hd : decode cc pc = .ok (.bastore, 1)) (hk : kc k = 10) (hm : k ∈ ks E) (hi : i = nI j) (hj : j < al k) (hz : x = 0 ∨ x = 1) (hq : pc + 1 = q) (kk : AW p l e R s m args below meth c cells slots Q A E ρ q lv st (up2 σ k j x)) : AW p l e R s m args below meth c cells slots Q A E ρ pc lv (.int x :: .int i :: .ref (ad E k) :: st) σ := fun H locs ls hP hS hl => by
  subst hq hi
  obtain ⟨i, hi⟩ := ks_at hm
  have he := wl_at ρ σ hi
  unfold en at he
  rw [hk] at he
  have hb : al k < 2 ^ 31 := al_lt k
  have hv : vp_nar .boolean x = x := by rcases hz with rfl | rfl <;> decide
  refine va_zast cx.1.1 cx.1.2.1 cx.2.1.1 hP (wl_D cx.2.2.1 cx.2.2.2 ρ σ) hS i 1 he rfl (vp_in_nI hj hb) hd (fun H1 locs1 hP1 _ hS1 => ?_)
  rw [nI_clamp (Nat.lt_trans hj hb), hv] at hP1
  have hx : en E ρ (up2 σ k j x) k = .inl (E.2.1 1, al k, .inl (upd (σ k) j x)) := by unfold en; rw [hk, up2_row]; rfl
  rw [← hx, wl_set ρ cx.2.2.1.1 hi (fun k' h' => en_nk E ρ σ k j x h')] at hP1
  exact kk H1 locs1 ls hP1 hS1 hl
theorem A_aaload11 (cx : Cx p s m args c E A own cc nL Ts) {k t : Ky} {j : Nat} {i : Int32} (hd : decode cc pc = .ok (.aaload, 1)) (hk : kc k = 11) (hm : k ∈ ks E) (hi : i = nI j) (hj : j < al k) (ht : ρ k j = some t) (hq : pc + 1 = q) (kk : AW p l e R s m args below meth c cells slots Q A E ρ q lv (.ref (ad E t) :: st) σ) : AW p l e R s m args below meth c cells slots Q A E ρ pc lv (.int i :: .ref (ad E k) :: st) σ := fun H locs ls hP hS hl => by
  subst hq hi
  obtain ⟨i, hi⟩ := ks_at hm
  have he := wl_at ρ σ hi
  unfold en at he
  rw [hk] at he
  have hb : al k < 2 ^ 31 := al_lt k
  have h0 := kk H locs ls hP hS hl
  have hv : va_rf ((fun i => (ρ k i).map (ad E)) (nI j).toNatClampNeg) = .ref (ad E t) := by rw [nI_clamp (Nat.lt_trans hj hb)]; show va_rf ((ρ k j).map (ad E)) = _; rw [ht]; rfl
  rw [← hv] at h0
  exact va_aldq cx.1.1 cx.1.2.1 cx.2.1.1 hP i 2 he rfl (vp_in_nI hj hb) hd h0
theorem A_aaload12 (cx : Cx p s m args c E A own cc nL Ts) {k t : Ky} {j : Nat} {i : Int32} (hd : decode cc pc = .ok (.aaload, 1)) (hk : kc k = 12) (hm : k ∈ ks E) (hi : i = nI j) (hj : j < al k) (ht : ρ k j = some t) (hq : pc + 1 = q) (kk : AW p l e R s m args below meth c cells slots Q A E ρ q lv (.ref (ad E t) :: st) σ) : AW p l e R s m args below meth c cells slots Q A E ρ pc lv (.int i :: .ref (ad E k) :: st) σ := fun H locs ls hP hS hl => by
  subst hq hi
  obtain ⟨i, hi⟩ := ks_at hm
  have he := wl_at ρ σ hi
  unfold en at he
  rw [hk] at he
  have hb : al k < 2 ^ 31 := al_lt k
  have h0 := kk H locs ls hP hS hl
  have hv : va_rf ((fun i => (ρ k i).map (ad E)) (nI j).toNatClampNeg) = .ref (ad E t) := by rw [nI_clamp (Nat.lt_trans hj hb)]; show va_rf ((ρ k j).map (ad E)) = _; rw [ht]; rfl
  rw [← hv] at h0
  exact va_aldq cx.1.1 cx.1.2.1 cx.2.1.1 hP i 3 he rfl (vp_in_nI hj hb) hd h0
theorem A_aaload13 (cx : Cx p s m args c E A own cc nL Ts) {k t : Ky} {j : Nat} {i : Int32} (hd : decode cc pc = .ok (.aaload, 1)) (hk : kc k = 13) (hm : k ∈ ks E) (hi : i = nI j) (hj : j < al k) (ht : ρ k j = some t) (hq : pc + 1 = q) (kk : AW p l e R s m args below meth c cells slots Q A E ρ q lv (.ref (ad E t) :: st) σ) : AW p l e R s m args below meth c cells slots Q A E ρ pc lv (.int i :: .ref (ad E k) :: st) σ := fun H locs ls hP hS hl => by
  subst hq hi
  obtain ⟨i, hi⟩ := ks_at hm
  have he := wl_at ρ σ hi
  unfold en at he
  rw [hk] at he
  have hb : al k < 2 ^ 31 := al_lt k
  have h0 := kk H locs ls hP hS hl
  have hv : va_rf ((fun i => (ρ k i).map (ad E)) (nI j).toNatClampNeg) = .ref (ad E t) := by rw [nI_clamp (Nat.lt_trans hj hb)]; show va_rf ((ρ k j).map (ad E)) = _; rw [ht]; rfl
  rw [← hv] at h0
  exact va_aldq cx.1.1 cx.1.2.1 cx.2.1.1 hP i 4 he rfl (vp_in_nI hj hb) hd h0
theorem gX0_0 (cx : Cx p s m args c E A own cc nL Ts) {k : Ky} {idx : Nat} (hin : ∀ w ∈ u_ws RX0 TX0 4, w ∈ Ts) (hf : Cond.fieldLink own idx (TX0 0).1 (TX0 0).2.1 (TX0 0).2.2.1 ∈ Ts) (hd : decode cc pc = .ok (.getfield idx, 3)) (hk : kc k = 0) (hm : k ∈ ks E) (hq : pc + 3 = q) (kk : AW p l e R s m args below meth c cells slots Q A E ρ q lv (.int (σ k 0) :: st) σ) : AW p l e R s m args below meth c cells slots Q A E ρ pc lv (.ref (ad E k) :: st) σ := fun H locs ls hP hS hl => by
  subst hq
  obtain ⟨i, hi⟩ := ks_at hm
  have he := wl_at ρ σ hi
  unfold en at he
  rw [hk] at he
  exact va_get (T := TX0) (N := 4) (ci := 0) cx.1.1 cx.1.2.1 cx.1.2.2.2.2 hin cx.1.2.2.2.1 cx.2.1.1 hP i he rfl 0 (by decide) (cx.1.2.2.2.2 _ hf) (fun _ h => h) rfl hd (kk H locs ls hP hS hl)
theorem gX0_1 (cx : Cx p s m args c E A own cc nL Ts) {k : Ky} {idx : Nat} (hin : ∀ w ∈ u_ws RX0 TX0 4, w ∈ Ts) (hf : Cond.fieldLink own idx (TX0 1).1 (TX0 1).2.1 (TX0 1).2.2.1 ∈ Ts) (hd : decode cc pc = .ok (.getfield idx, 3)) (hk : kc k = 0) (hm : k ∈ ks E) (hq : pc + 3 = q) (kk : AW p l e R s m args below meth c cells slots Q A E ρ q lv (.int (σ k 1) :: st) σ) : AW p l e R s m args below meth c cells slots Q A E ρ pc lv (.ref (ad E k) :: st) σ := fun H locs ls hP hS hl => by
  subst hq
  obtain ⟨i, hi⟩ := ks_at hm
  have he := wl_at ρ σ hi
  unfold en at he
  rw [hk] at he
  exact va_get (T := TX0) (N := 4) (ci := 0) cx.1.1 cx.1.2.1 cx.1.2.2.2.2 hin cx.1.2.2.2.1 cx.2.1.1 hP i he rfl 1 (by decide) (cx.1.2.2.2.2 _ hf) (fun _ h => h) rfl hd (kk H locs ls hP hS hl)
theorem pX0_1 (cx : Cx p s m args c E A own cc nL Ts) {k : Ky} {idx : Nat} {x : Int32} (hin : ∀ w ∈ u_ws RX0 TX0 4, w ∈ Ts) (hf : Cond.fieldLink own idx (TX0 1).1 (TX0 1).2.1 (TX0 1).2.2.1 ∈ Ts) (hd : decode cc pc = .ok (.putfield idx, 3)) (hk : kc k = 0) (hm : k ∈ ks E) (hq : pc + 3 = q) (kk : AW p l e R s m args below meth c cells slots Q A E ρ q lv st (up2 σ k 1 x)) : AW p l e R s m args below meth c cells slots Q A E ρ pc lv (.int x :: .ref (ad E k) :: st) σ := fun H locs ls hP hS hl => by
  subst hq
  obtain ⟨i, hi⟩ := ks_at hm
  have he := wl_at ρ σ hi
  unfold en at he
  rw [hk] at he
  refine va_put (T := TX0) (N := 4) (ci := 0) cx.1.1 cx.1.2.1 cx.1.2.2.2.2 hin tyX0 tyX0_ok nmX0 cx.1.2.2.2.1 cx.2.1.1 hP (wl_D cx.2.2.1 cx.2.2.2 ρ σ) hS i he rfl 1 (by decide) (cx.1.2.2.2.2 _ hf) (fun _ h => h) rfl (ty := .int) (by decide +kernel) rfl rfl (Nat.le_of_ble_eq_true rfl) hd (fun H1 locs1 hP1 _ hS1 => ?_)
  have hx : en E ρ (up2 σ k 1 x) k = .inr (0, [.int (σ k 0), .int x, rv E (ρ k 2), rv E (ρ k 3)]) := by unfold en; rw [hk, up2_row]; simp [ec, upd]
  have hP2 : va_P E.1 vwCl ((wl E ρ σ).set i (ad E k, .inr (0, [.int (σ k 0), .int x, rv E (ρ k 2), rv E (ρ k 3)]))) H1 := hP1
  rw [← hx, wl_set ρ cx.2.2.1.1 hi (fun k' h' => en_nk E ρ σ k 1 x h')] at hP2
  exact kk H1 locs1 ls hP2 hS1 hl
theorem gX0_2 (cx : Cx p s m args c E A own cc nL Ts) {k t : Ky} {idx : Nat} (hin : ∀ w ∈ u_ws RX0 TX0 4, w ∈ Ts) (hf : Cond.fieldLink own idx (TX0 2).1 (TX0 2).2.1 (TX0 2).2.2.1 ∈ Ts) (hd : decode cc pc = .ok (.getfield idx, 3)) (hk : kc k = 0) (hm : k ∈ ks E) (ht : ρ k 2 = some t) (hq : pc + 3 = q) (kk : AW p l e R s m args below meth c cells slots Q A E ρ q lv (.ref (ad E t) :: st) σ) : AW p l e R s m args below meth c cells slots Q A E ρ pc lv (.ref (ad E k) :: st) σ := fun H locs ls hP hS hl => by
  subst hq
  obtain ⟨i, hi⟩ := ks_at hm
  have he := wl_at ρ σ hi
  unfold en at he
  rw [hk] at he
  have h0 := kk H locs ls hP hS hl
  have hv : rv E (ρ k 2) = .ref (ad E t) := by rw [ht]; rfl
  rw [← hv] at h0
  exact va_get (T := TX0) (N := 4) (ci := 0) cx.1.1 cx.1.2.1 cx.1.2.2.2.2 hin cx.1.2.2.2.1 cx.2.1.1 hP i he rfl 2 (by decide) (cx.1.2.2.2.2 _ hf) (fun _ h => h) rfl hd h0
theorem gX0_3 (cx : Cx p s m args c E A own cc nL Ts) {k t : Ky} {idx : Nat} (hin : ∀ w ∈ u_ws RX0 TX0 4, w ∈ Ts) (hf : Cond.fieldLink own idx (TX0 3).1 (TX0 3).2.1 (TX0 3).2.2.1 ∈ Ts) (hd : decode cc pc = .ok (.getfield idx, 3)) (hk : kc k = 0) (hm : k ∈ ks E) (ht : ρ k 3 = some t) (hq : pc + 3 = q) (kk : AW p l e R s m args below meth c cells slots Q A E ρ q lv (.ref (ad E t) :: st) σ) : AW p l e R s m args below meth c cells slots Q A E ρ pc lv (.ref (ad E k) :: st) σ := fun H locs ls hP hS hl => by
  subst hq
  obtain ⟨i, hi⟩ := ks_at hm
  have he := wl_at ρ σ hi
  unfold en at he
  rw [hk] at he
  have h0 := kk H locs ls hP hS hl
  have hv : rv E (ρ k 3) = .ref (ad E t) := by rw [ht]; rfl
  rw [← hv] at h0
  exact va_get (T := TX0) (N := 4) (ci := 0) cx.1.1 cx.1.2.1 cx.1.2.2.2.2 hin cx.1.2.2.2.1 cx.2.1.1 hP i he rfl 3 (by decide) (cx.1.2.2.2.2 _ hf) (fun _ h => h) rfl hd h0
theorem gX1_0 (cx : Cx p s m args c E A own cc nL Ts) {k : Ky} {idx : Nat} (hin : ∀ w ∈ u_ws RX1 TX1 2, w ∈ Ts) (hf : Cond.fieldLink own idx (TX1 0).1 (TX1 0).2.1 (TX1 0).2.2.1 ∈ Ts) (hd : decode cc pc = .ok (.getfield idx, 3)) (hk : kc k = 1) (hm : k ∈ ks E) (hq : pc + 3 = q) (kk : AW p l e R s m args below meth c cells slots Q A E ρ q lv (.int (σ k 0) :: st) σ) : AW p l e R s m args below meth c cells slots Q A E ρ pc lv (.ref (ad E k) :: st) σ := fun H locs ls hP hS hl => by
  subst hq
  obtain ⟨i, hi⟩ := ks_at hm
  have he := wl_at ρ σ hi
  unfold en at he
  rw [hk] at he
  exact va_get (T := TX1) (N := 2) (ci := 1) cx.1.1 cx.1.2.1 cx.1.2.2.2.2 hin cx.1.2.2.2.1 cx.2.1.1 hP i he rfl 0 (by decide) (cx.1.2.2.2.2 _ hf) (fun _ h => h) rfl hd (kk H locs ls hP hS hl)
theorem pX1_0 (cx : Cx p s m args c E A own cc nL Ts) {k : Ky} {idx : Nat} {x : Int32} (hin : ∀ w ∈ u_ws RX1 TX1 2, w ∈ Ts) (hf : Cond.fieldLink own idx (TX1 0).1 (TX1 0).2.1 (TX1 0).2.2.1 ∈ Ts) (hd : decode cc pc = .ok (.putfield idx, 3)) (hk : kc k = 1) (hm : k ∈ ks E) (hq : pc + 3 = q) (kk : AW p l e R s m args below meth c cells slots Q A E ρ q lv st (up2 σ k 0 x)) : AW p l e R s m args below meth c cells slots Q A E ρ pc lv (.int x :: .ref (ad E k) :: st) σ := fun H locs ls hP hS hl => by
  subst hq
  obtain ⟨i, hi⟩ := ks_at hm
  have he := wl_at ρ σ hi
  unfold en at he
  rw [hk] at he
  refine va_put (T := TX1) (N := 2) (ci := 1) cx.1.1 cx.1.2.1 cx.1.2.2.2.2 hin tyX1 tyX1_ok nmX1 cx.1.2.2.2.1 cx.2.1.1 hP (wl_D cx.2.2.1 cx.2.2.2 ρ σ) hS i he rfl 0 (by decide) (cx.1.2.2.2.2 _ hf) (fun _ h => h) rfl (ty := .int) (by decide +kernel) rfl rfl (Nat.le_of_ble_eq_true rfl) hd (fun H1 locs1 hP1 _ hS1 => ?_)
  have hx : en E ρ (up2 σ k 0 x) k = .inr (1, [.int x, .int (σ k 1)]) := by unfold en; rw [hk, up2_row]; simp [ec, upd]
  have hP2 : va_P E.1 vwCl ((wl E ρ σ).set i (ad E k, .inr (1, [.int x, .int (σ k 1)]))) H1 := hP1
  rw [← hx, wl_set ρ cx.2.2.1.1 hi (fun k' h' => en_nk E ρ σ k 0 x h')] at hP2
  exact kk H1 locs1 ls hP2 hS1 hl
theorem gX1_1 (cx : Cx p s m args c E A own cc nL Ts) {k : Ky} {idx : Nat} (hin : ∀ w ∈ u_ws RX1 TX1 2, w ∈ Ts) (hf : Cond.fieldLink own idx (TX1 1).1 (TX1 1).2.1 (TX1 1).2.2.1 ∈ Ts) (hd : decode cc pc = .ok (.getfield idx, 3)) (hk : kc k = 1) (hm : k ∈ ks E) (hq : pc + 3 = q) (kk : AW p l e R s m args below meth c cells slots Q A E ρ q lv (.int (σ k 1) :: st) σ) : AW p l e R s m args below meth c cells slots Q A E ρ pc lv (.ref (ad E k) :: st) σ := fun H locs ls hP hS hl => by
  subst hq
  obtain ⟨i, hi⟩ := ks_at hm
  have he := wl_at ρ σ hi
  unfold en at he
  rw [hk] at he
  exact va_get (T := TX1) (N := 2) (ci := 1) cx.1.1 cx.1.2.1 cx.1.2.2.2.2 hin cx.1.2.2.2.1 cx.2.1.1 hP i he rfl 1 (by decide) (cx.1.2.2.2.2 _ hf) (fun _ h => h) rfl hd (kk H locs ls hP hS hl)
theorem pX1_1 (cx : Cx p s m args c E A own cc nL Ts) {k : Ky} {idx : Nat} {x : Int32} (hin : ∀ w ∈ u_ws RX1 TX1 2, w ∈ Ts) (hf : Cond.fieldLink own idx (TX1 1).1 (TX1 1).2.1 (TX1 1).2.2.1 ∈ Ts) (hd : decode cc pc = .ok (.putfield idx, 3)) (hk : kc k = 1) (hm : k ∈ ks E) (hq : pc + 3 = q) (kk : AW p l e R s m args below meth c cells slots Q A E ρ q lv st (up2 σ k 1 x)) : AW p l e R s m args below meth c cells slots Q A E ρ pc lv (.int x :: .ref (ad E k) :: st) σ := fun H locs ls hP hS hl => by
  subst hq
  obtain ⟨i, hi⟩ := ks_at hm
  have he := wl_at ρ σ hi
  unfold en at he
  rw [hk] at he
  refine va_put (T := TX1) (N := 2) (ci := 1) cx.1.1 cx.1.2.1 cx.1.2.2.2.2 hin tyX1 tyX1_ok nmX1 cx.1.2.2.2.1 cx.2.1.1 hP (wl_D cx.2.2.1 cx.2.2.2 ρ σ) hS i he rfl 1 (by decide) (cx.1.2.2.2.2 _ hf) (fun _ h => h) rfl (ty := .int) (by decide +kernel) rfl rfl (Nat.le_of_ble_eq_true rfl) hd (fun H1 locs1 hP1 _ hS1 => ?_)
  have hx : en E ρ (up2 σ k 1 x) k = .inr (1, [.int (σ k 0), .int x]) := by unfold en; rw [hk, up2_row]; simp [ec, upd]
  have hP2 : va_P E.1 vwCl ((wl E ρ σ).set i (ad E k, .inr (1, [.int (σ k 0), .int x]))) H1 := hP1
  rw [← hx, wl_set ρ cx.2.2.1.1 hi (fun k' h' => en_nk E ρ σ k 1 x h')] at hP2
  exact kk H1 locs1 ls hP2 hS1 hl
theorem gX2_0 (cx : Cx p s m args c E A own cc nL Ts) {k t : Ky} {idx : Nat} (hin : ∀ w ∈ u_ws RX2 TX2 3, w ∈ Ts) (hf : Cond.fieldLink own idx (TX2 0).1 (TX2 0).2.1 (TX2 0).2.2.1 ∈ Ts) (hd : decode cc pc = .ok (.getfield idx, 3)) (hk : kc k = 2) (hm : k ∈ ks E) (ht : ρ k 0 = some t) (hq : pc + 3 = q) (kk : AW p l e R s m args below meth c cells slots Q A E ρ q lv (.ref (ad E t) :: st) σ) : AW p l e R s m args below meth c cells slots Q A E ρ pc lv (.ref (ad E k) :: st) σ := fun H locs ls hP hS hl => by
  subst hq
  obtain ⟨i, hi⟩ := ks_at hm
  have he := wl_at ρ σ hi
  unfold en at he
  rw [hk] at he
  have h0 := kk H locs ls hP hS hl
  have hv : rv E (ρ k 0) = .ref (ad E t) := by rw [ht]; rfl
  rw [← hv] at h0
  exact va_get (T := TX2) (N := 3) (ci := 2) cx.1.1 cx.1.2.1 cx.1.2.2.2.2 hin cx.1.2.2.2.1 cx.2.1.1 hP i he rfl 0 (by decide) (cx.1.2.2.2.2 _ hf) (fun _ h => h) rfl hd h0
theorem gX2_1 (cx : Cx p s m args c E A own cc nL Ts) {k : Ky} {idx : Nat} (hin : ∀ w ∈ u_ws RX2 TX2 3, w ∈ Ts) (hf : Cond.fieldLink own idx (TX2 1).1 (TX2 1).2.1 (TX2 1).2.2.1 ∈ Ts) (hd : decode cc pc = .ok (.getfield idx, 3)) (hk : kc k = 2) (hm : k ∈ ks E) (hq : pc + 3 = q) (kk : AW p l e R s m args below meth c cells slots Q A E ρ q lv (.int (σ k 1) :: st) σ) : AW p l e R s m args below meth c cells slots Q A E ρ pc lv (.ref (ad E k) :: st) σ := fun H locs ls hP hS hl => by
  subst hq
  obtain ⟨i, hi⟩ := ks_at hm
  have he := wl_at ρ σ hi
  unfold en at he
  rw [hk] at he
  exact va_get (T := TX2) (N := 3) (ci := 2) cx.1.1 cx.1.2.1 cx.1.2.2.2.2 hin cx.1.2.2.2.1 cx.2.1.1 hP i he rfl 1 (by decide) (cx.1.2.2.2.2 _ hf) (fun _ h => h) rfl hd (kk H locs ls hP hS hl)
theorem pX2_1 (cx : Cx p s m args c E A own cc nL Ts) {k : Ky} {idx : Nat} {x : Int32} (hin : ∀ w ∈ u_ws RX2 TX2 3, w ∈ Ts) (hf : Cond.fieldLink own idx (TX2 1).1 (TX2 1).2.1 (TX2 1).2.2.1 ∈ Ts) (hd : decode cc pc = .ok (.putfield idx, 3)) (hk : kc k = 2) (hm : k ∈ ks E) (hq : pc + 3 = q) (kk : AW p l e R s m args below meth c cells slots Q A E ρ q lv st (up2 σ k 1 x)) : AW p l e R s m args below meth c cells slots Q A E ρ pc lv (.int x :: .ref (ad E k) :: st) σ := fun H locs ls hP hS hl => by
  subst hq
  obtain ⟨i, hi⟩ := ks_at hm
  have he := wl_at ρ σ hi
  unfold en at he
  rw [hk] at he
  refine va_put (T := TX2) (N := 3) (ci := 2) cx.1.1 cx.1.2.1 cx.1.2.2.2.2 hin tyX2 tyX2_ok nmX2 cx.1.2.2.2.1 cx.2.1.1 hP (wl_D cx.2.2.1 cx.2.2.2 ρ σ) hS i he rfl 1 (by decide) (cx.1.2.2.2.2 _ hf) (fun _ h => h) rfl (ty := .int) (by decide +kernel) rfl rfl (Nat.le_of_ble_eq_true rfl) hd (fun H1 locs1 hP1 _ hS1 => ?_)
  have hx : en E ρ (up2 σ k 1 x) k = .inr (2, [rv E (ρ k 0), .int x, .int (σ k 2)]) := by unfold en; rw [hk, up2_row]; simp [ec, upd]
  have hP2 : va_P E.1 vwCl ((wl E ρ σ).set i (ad E k, .inr (2, [rv E (ρ k 0), .int x, .int (σ k 2)]))) H1 := hP1
  rw [← hx, wl_set ρ cx.2.2.1.1 hi (fun k' h' => en_nk E ρ σ k 1 x h')] at hP2
  exact kk H1 locs1 ls hP2 hS1 hl
theorem gX2_2 (cx : Cx p s m args c E A own cc nL Ts) {k : Ky} {idx : Nat} (hin : ∀ w ∈ u_ws RX2 TX2 3, w ∈ Ts) (hf : Cond.fieldLink own idx (TX2 2).1 (TX2 2).2.1 (TX2 2).2.2.1 ∈ Ts) (hd : decode cc pc = .ok (.getfield idx, 3)) (hk : kc k = 2) (hm : k ∈ ks E) (hq : pc + 3 = q) (kk : AW p l e R s m args below meth c cells slots Q A E ρ q lv (.int (σ k 2) :: st) σ) : AW p l e R s m args below meth c cells slots Q A E ρ pc lv (.ref (ad E k) :: st) σ := fun H locs ls hP hS hl => by
  subst hq
  obtain ⟨i, hi⟩ := ks_at hm
  have he := wl_at ρ σ hi
  unfold en at he
  rw [hk] at he
  exact va_get (T := TX2) (N := 3) (ci := 2) cx.1.1 cx.1.2.1 cx.1.2.2.2.2 hin cx.1.2.2.2.1 cx.2.1.1 hP i he rfl 2 (by decide) (cx.1.2.2.2.2 _ hf) (fun _ h => h) rfl hd (kk H locs ls hP hS hl)
theorem pX2_2 (cx : Cx p s m args c E A own cc nL Ts) {k : Ky} {idx : Nat} {x : Int32} (hin : ∀ w ∈ u_ws RX2 TX2 3, w ∈ Ts) (hf : Cond.fieldLink own idx (TX2 2).1 (TX2 2).2.1 (TX2 2).2.2.1 ∈ Ts) (hd : decode cc pc = .ok (.putfield idx, 3)) (hk : kc k = 2) (hm : k ∈ ks E) (hq : pc + 3 = q) (kk : AW p l e R s m args below meth c cells slots Q A E ρ q lv st (up2 σ k 2 x)) : AW p l e R s m args below meth c cells slots Q A E ρ pc lv (.int x :: .ref (ad E k) :: st) σ := fun H locs ls hP hS hl => by
  subst hq
  obtain ⟨i, hi⟩ := ks_at hm
  have he := wl_at ρ σ hi
  unfold en at he
  rw [hk] at he
  refine va_put (T := TX2) (N := 3) (ci := 2) cx.1.1 cx.1.2.1 cx.1.2.2.2.2 hin tyX2 tyX2_ok nmX2 cx.1.2.2.2.1 cx.2.1.1 hP (wl_D cx.2.2.1 cx.2.2.2 ρ σ) hS i he rfl 2 (by decide) (cx.1.2.2.2.2 _ hf) (fun _ h => h) rfl (ty := .int) (by decide +kernel) rfl rfl (Nat.le_of_ble_eq_true rfl) hd (fun H1 locs1 hP1 _ hS1 => ?_)
  have hx : en E ρ (up2 σ k 2 x) k = .inr (2, [rv E (ρ k 0), .int (σ k 1), .int x]) := by unfold en; rw [hk, up2_row]; simp [ec, upd]
  have hP2 : va_P E.1 vwCl ((wl E ρ σ).set i (ad E k, .inr (2, [rv E (ρ k 0), .int (σ k 1), .int x]))) H1 := hP1
  rw [← hx, wl_set ρ cx.2.2.1.1 hi (fun k' h' => en_nk E ρ σ k 2 x h')] at hP2
  exact kk H1 locs1 ls hP2 hS1 hl
theorem gX3_0 (cx : Cx p s m args c E A own cc nL Ts) {k : Ky} {idx : Nat} (hin : ∀ w ∈ u_ws RX3 TX3 5, w ∈ Ts) (hf : Cond.fieldLink own idx (TX3 0).1 (TX3 0).2.1 (TX3 0).2.2.1 ∈ Ts) (hd : decode cc pc = .ok (.getfield idx, 3)) (hk : kc k = 3) (hm : k ∈ ks E) (hq : pc + 3 = q) (kk : AW p l e R s m args below meth c cells slots Q A E ρ q lv (.int (b01 (σ k 0)) :: st) σ) : AW p l e R s m args below meth c cells slots Q A E ρ pc lv (.ref (ad E k) :: st) σ := fun H locs ls hP hS hl => by
  subst hq
  obtain ⟨i, hi⟩ := ks_at hm
  have he := wl_at ρ σ hi
  unfold en at he
  rw [hk] at he
  exact va_get (T := TX3) (N := 5) (ci := 3) cx.1.1 cx.1.2.1 cx.1.2.2.2.2 hin cx.1.2.2.2.1 cx.2.1.1 hP i he rfl 0 (by decide) (cx.1.2.2.2.2 _ hf) (fun _ h => h) rfl hd (kk H locs ls hP hS hl)
theorem pX3_0 (cx : Cx p s m args c E A own cc nL Ts) {k : Ky} {idx : Nat} {x : Int32} (hin : ∀ w ∈ u_ws RX3 TX3 5, w ∈ Ts) (hf : Cond.fieldLink own idx (TX3 0).1 (TX3 0).2.1 (TX3 0).2.2.1 ∈ Ts) (hd : decode cc pc = .ok (.putfield idx, 3)) (hk : kc k = 3) (hm : k ∈ ks E) (hz : x = 0 ∨ x = 1) (hq : pc + 3 = q) (kk : AW p l e R s m args below meth c cells slots Q A E ρ q lv st (up2 σ k 0 x)) : AW p l e R s m args below meth c cells slots Q A E ρ pc lv (.int x :: .ref (ad E k) :: st) σ := fun H locs ls hP hS hl => by
  subst hq
  obtain ⟨i, hi⟩ := ks_at hm
  have he := wl_at ρ σ hi
  unfold en at he
  rw [hk] at he
  refine va_put (T := TX3) (N := 5) (ci := 3) cx.1.1 cx.1.2.1 cx.1.2.2.2.2 hin tyX3 tyX3_ok nmX3 cx.1.2.2.2.1 cx.2.1.1 hP (wl_D cx.2.2.1 cx.2.2.2 ρ σ) hS i he rfl 0 (by decide) (cx.1.2.2.2.2 _ hf) (fun _ h => h) rfl (ty := .boolean) (by decide +kernel) (by rcases hz with rfl | rfl <;> rfl) (by rcases hz with rfl | rfl <;> rfl) (Nat.le_of_ble_eq_true rfl) hd (fun H1 locs1 hP1 _ hS1 => ?_)
  have hx : en E ρ (up2 σ k 0 x) k = .inr (3, [.int x, .int (σ k 1), .int (σ k 2), .int (σ k 3), .int (b01 (σ k 4))]) := by unfold en; rw [hk, up2_row]; simp [ec, upd, b01_of hz]
  have hP2 : va_P E.1 vwCl ((wl E ρ σ).set i (ad E k, .inr (3, [.int x, .int (σ k 1), .int (σ k 2), .int (σ k 3), .int (b01 (σ k 4))]))) H1 := hP1
  rw [← hx, wl_set ρ cx.2.2.1.1 hi (fun k' h' => en_nk E ρ σ k 0 x h')] at hP2
  exact kk H1 locs1 ls hP2 hS1 hl
theorem gX3_1 (cx : Cx p s m args c E A own cc nL Ts) {k : Ky} {idx : Nat} (hin : ∀ w ∈ u_ws RX3 TX3 5, w ∈ Ts) (hf : Cond.fieldLink own idx (TX3 1).1 (TX3 1).2.1 (TX3 1).2.2.1 ∈ Ts) (hd : decode cc pc = .ok (.getfield idx, 3)) (hk : kc k = 3) (hm : k ∈ ks E) (hq : pc + 3 = q) (kk : AW p l e R s m args below meth c cells slots Q A E ρ q lv (.int (σ k 1) :: st) σ) : AW p l e R s m args below meth c cells slots Q A E ρ pc lv (.ref (ad E k) :: st) σ := fun H locs ls hP hS hl => by
  subst hq
  obtain ⟨i, hi⟩ := ks_at hm
  have he := wl_at ρ σ hi
  unfold en at he
  rw [hk] at he
  exact va_get (T := TX3) (N := 5) (ci := 3) cx.1.1 cx.1.2.1 cx.1.2.2.2.2 hin cx.1.2.2.2.1 cx.2.1.1 hP i he rfl 1 (by decide) (cx.1.2.2.2.2 _ hf) (fun _ h => h) rfl hd (kk H locs ls hP hS hl)
theorem pX3_1 (cx : Cx p s m args c E A own cc nL Ts) {k : Ky} {idx : Nat} {x : Int32} (hin : ∀ w ∈ u_ws RX3 TX3 5, w ∈ Ts) (hf : Cond.fieldLink own idx (TX3 1).1 (TX3 1).2.1 (TX3 1).2.2.1 ∈ Ts) (hd : decode cc pc = .ok (.putfield idx, 3)) (hk : kc k = 3) (hm : k ∈ ks E) (hq : pc + 3 = q) (kk : AW p l e R s m args below meth c cells slots Q A E ρ q lv st (up2 σ k 1 x)) : AW p l e R s m args below meth c cells slots Q A E ρ pc lv (.int x :: .ref (ad E k) :: st) σ := fun H locs ls hP hS hl => by
  subst hq
  obtain ⟨i, hi⟩ := ks_at hm
  have he := wl_at ρ σ hi
  unfold en at he
  rw [hk] at he
  refine va_put (T := TX3) (N := 5) (ci := 3) cx.1.1 cx.1.2.1 cx.1.2.2.2.2 hin tyX3 tyX3_ok nmX3 cx.1.2.2.2.1 cx.2.1.1 hP (wl_D cx.2.2.1 cx.2.2.2 ρ σ) hS i he rfl 1 (by decide) (cx.1.2.2.2.2 _ hf) (fun _ h => h) rfl (ty := .int) (by decide +kernel) rfl rfl (Nat.le_of_ble_eq_true rfl) hd (fun H1 locs1 hP1 _ hS1 => ?_)
  have hx : en E ρ (up2 σ k 1 x) k = .inr (3, [.int (b01 (σ k 0)), .int x, .int (σ k 2), .int (σ k 3), .int (b01 (σ k 4))]) := by unfold en; rw [hk, up2_row]; simp [ec, upd]
  have hP2 : va_P E.1 vwCl ((wl E ρ σ).set i (ad E k, .inr (3, [.int (b01 (σ k 0)), .int x, .int (σ k 2), .int (σ k 3), .int (b01 (σ k 4))]))) H1 := hP1
  rw [← hx, wl_set ρ cx.2.2.1.1 hi (fun k' h' => en_nk E ρ σ k 1 x h')] at hP2
  exact kk H1 locs1 ls hP2 hS1 hl
theorem gX3_2 (cx : Cx p s m args c E A own cc nL Ts) {k : Ky} {idx : Nat} (hin : ∀ w ∈ u_ws RX3 TX3 5, w ∈ Ts) (hf : Cond.fieldLink own idx (TX3 2).1 (TX3 2).2.1 (TX3 2).2.2.1 ∈ Ts) (hd : decode cc pc = .ok (.getfield idx, 3)) (hk : kc k = 3) (hm : k ∈ ks E) (hq : pc + 3 = q) (kk : AW p l e R s m args below meth c cells slots Q A E ρ q lv (.int (σ k 2) :: st) σ) : AW p l e R s m args below meth c cells slots Q A E ρ pc lv (.ref (ad E k) :: st) σ := fun H locs ls hP hS hl => by
  subst hq
  obtain ⟨i, hi⟩ := ks_at hm
  have he := wl_at ρ σ hi
  unfold en at he
  rw [hk] at he
  exact va_get (T := TX3) (N := 5) (ci := 3) cx.1.1 cx.1.2.1 cx.1.2.2.2.2 hin cx.1.2.2.2.1 cx.2.1.1 hP i he rfl 2 (by decide) (cx.1.2.2.2.2 _ hf) (fun _ h => h) rfl hd (kk H locs ls hP hS hl)
theorem pX3_2 (cx : Cx p s m args c E A own cc nL Ts) {k : Ky} {idx : Nat} {x : Int32} (hin : ∀ w ∈ u_ws RX3 TX3 5, w ∈ Ts) (hf : Cond.fieldLink own idx (TX3 2).1 (TX3 2).2.1 (TX3 2).2.2.1 ∈ Ts) (hd : decode cc pc = .ok (.putfield idx, 3)) (hk : kc k = 3) (hm : k ∈ ks E) (hq : pc + 3 = q) (kk : AW p l e R s m args below meth c cells slots Q A E ρ q lv st (up2 σ k 2 x)) : AW p l e R s m args below meth c cells slots Q A E ρ pc lv (.int x :: .ref (ad E k) :: st) σ := fun H locs ls hP hS hl => by
  subst hq
  obtain ⟨i, hi⟩ := ks_at hm
  have he := wl_at ρ σ hi
  unfold en at he
  rw [hk] at he
  refine va_put (T := TX3) (N := 5) (ci := 3) cx.1.1 cx.1.2.1 cx.1.2.2.2.2 hin tyX3 tyX3_ok nmX3 cx.1.2.2.2.1 cx.2.1.1 hP (wl_D cx.2.2.1 cx.2.2.2 ρ σ) hS i he rfl 2 (by decide) (cx.1.2.2.2.2 _ hf) (fun _ h => h) rfl (ty := .int) (by decide +kernel) rfl rfl (Nat.le_of_ble_eq_true rfl) hd (fun H1 locs1 hP1 _ hS1 => ?_)
  have hx : en E ρ (up2 σ k 2 x) k = .inr (3, [.int (b01 (σ k 0)), .int (σ k 1), .int x, .int (σ k 3), .int (b01 (σ k 4))]) := by unfold en; rw [hk, up2_row]; simp [ec, upd]
  have hP2 : va_P E.1 vwCl ((wl E ρ σ).set i (ad E k, .inr (3, [.int (b01 (σ k 0)), .int (σ k 1), .int x, .int (σ k 3), .int (b01 (σ k 4))]))) H1 := hP1
  rw [← hx, wl_set ρ cx.2.2.1.1 hi (fun k' h' => en_nk E ρ σ k 2 x h')] at hP2
  exact kk H1 locs1 ls hP2 hS1 hl
theorem gX3_3 (cx : Cx p s m args c E A own cc nL Ts) {k : Ky} {idx : Nat} (hin : ∀ w ∈ u_ws RX3 TX3 5, w ∈ Ts) (hf : Cond.fieldLink own idx (TX3 3).1 (TX3 3).2.1 (TX3 3).2.2.1 ∈ Ts) (hd : decode cc pc = .ok (.getfield idx, 3)) (hk : kc k = 3) (hm : k ∈ ks E) (hq : pc + 3 = q) (kk : AW p l e R s m args below meth c cells slots Q A E ρ q lv (.int (σ k 3) :: st) σ) : AW p l e R s m args below meth c cells slots Q A E ρ pc lv (.ref (ad E k) :: st) σ := fun H locs ls hP hS hl => by
  subst hq
  obtain ⟨i, hi⟩ := ks_at hm
  have he := wl_at ρ σ hi
  unfold en at he
  rw [hk] at he
  exact va_get (T := TX3) (N := 5) (ci := 3) cx.1.1 cx.1.2.1 cx.1.2.2.2.2 hin cx.1.2.2.2.1 cx.2.1.1 hP i he rfl 3 (by decide) (cx.1.2.2.2.2 _ hf) (fun _ h => h) rfl hd (kk H locs ls hP hS hl)
theorem pX3_3 (cx : Cx p s m args c E A own cc nL Ts) {k : Ky} {idx : Nat} {x : Int32} (hin : ∀ w ∈ u_ws RX3 TX3 5, w ∈ Ts) (hf : Cond.fieldLink own idx (TX3 3).1 (TX3 3).2.1 (TX3 3).2.2.1 ∈ Ts) (hd : decode cc pc = .ok (.putfield idx, 3)) (hk : kc k = 3) (hm : k ∈ ks E) (hq : pc + 3 = q) (kk : AW p l e R s m args below meth c cells slots Q A E ρ q lv st (up2 σ k 3 x)) : AW p l e R s m args below meth c cells slots Q A E ρ pc lv (.int x :: .ref (ad E k) :: st) σ := fun H locs ls hP hS hl => by
  subst hq
  obtain ⟨i, hi⟩ := ks_at hm
  have he := wl_at ρ σ hi
  unfold en at he
  rw [hk] at he
  refine va_put (T := TX3) (N := 5) (ci := 3) cx.1.1 cx.1.2.1 cx.1.2.2.2.2 hin tyX3 tyX3_ok nmX3 cx.1.2.2.2.1 cx.2.1.1 hP (wl_D cx.2.2.1 cx.2.2.2 ρ σ) hS i he rfl 3 (by decide) (cx.1.2.2.2.2 _ hf) (fun _ h => h) rfl (ty := .int) (by decide +kernel) rfl rfl (Nat.le_of_ble_eq_true rfl) hd (fun H1 locs1 hP1 _ hS1 => ?_)
  have hx : en E ρ (up2 σ k 3 x) k = .inr (3, [.int (b01 (σ k 0)), .int (σ k 1), .int (σ k 2), .int x, .int (b01 (σ k 4))]) := by unfold en; rw [hk, up2_row]; simp [ec, upd]
  have hP2 : va_P E.1 vwCl ((wl E ρ σ).set i (ad E k, .inr (3, [.int (b01 (σ k 0)), .int (σ k 1), .int (σ k 2), .int x, .int (b01 (σ k 4))]))) H1 := hP1
  rw [← hx, wl_set ρ cx.2.2.1.1 hi (fun k' h' => en_nk E ρ σ k 3 x h')] at hP2
  exact kk H1 locs1 ls hP2 hS1 hl
theorem gX3_4 (cx : Cx p s m args c E A own cc nL Ts) {k : Ky} {idx : Nat} (hin : ∀ w ∈ u_ws RX3 TX3 5, w ∈ Ts) (hf : Cond.fieldLink own idx (TX3 4).1 (TX3 4).2.1 (TX3 4).2.2.1 ∈ Ts) (hd : decode cc pc = .ok (.getfield idx, 3)) (hk : kc k = 3) (hm : k ∈ ks E) (hq : pc + 3 = q) (kk : AW p l e R s m args below meth c cells slots Q A E ρ q lv (.int (b01 (σ k 4)) :: st) σ) : AW p l e R s m args below meth c cells slots Q A E ρ pc lv (.ref (ad E k) :: st) σ := fun H locs ls hP hS hl => by
  subst hq
  obtain ⟨i, hi⟩ := ks_at hm
  have he := wl_at ρ σ hi
  unfold en at he
  rw [hk] at he
  exact va_get (T := TX3) (N := 5) (ci := 3) cx.1.1 cx.1.2.1 cx.1.2.2.2.2 hin cx.1.2.2.2.1 cx.2.1.1 hP i he rfl 4 (by decide) (cx.1.2.2.2.2 _ hf) (fun _ h => h) rfl hd (kk H locs ls hP hS hl)
theorem pX3_4 (cx : Cx p s m args c E A own cc nL Ts) {k : Ky} {idx : Nat} {x : Int32} (hin : ∀ w ∈ u_ws RX3 TX3 5, w ∈ Ts) (hf : Cond.fieldLink own idx (TX3 4).1 (TX3 4).2.1 (TX3 4).2.2.1 ∈ Ts) (hd : decode cc pc = .ok (.putfield idx, 3)) (hk : kc k = 3) (hm : k ∈ ks E) (hz : x = 0 ∨ x = 1) (hq : pc + 3 = q) (kk : AW p l e R s m args below meth c cells slots Q A E ρ q lv st (up2 σ k 4 x)) : AW p l e R s m args below meth c cells slots Q A E ρ pc lv (.int x :: .ref (ad E k) :: st) σ := fun H locs ls hP hS hl => by
  subst hq
  obtain ⟨i, hi⟩ := ks_at hm
  have he := wl_at ρ σ hi
  unfold en at he
  rw [hk] at he
  refine va_put (T := TX3) (N := 5) (ci := 3) cx.1.1 cx.1.2.1 cx.1.2.2.2.2 hin tyX3 tyX3_ok nmX3 cx.1.2.2.2.1 cx.2.1.1 hP (wl_D cx.2.2.1 cx.2.2.2 ρ σ) hS i he rfl 4 (by decide) (cx.1.2.2.2.2 _ hf) (fun _ h => h) rfl (ty := .boolean) (by decide +kernel) (by rcases hz with rfl | rfl <;> rfl) (by rcases hz with rfl | rfl <;> rfl) (Nat.le_of_ble_eq_true rfl) hd (fun H1 locs1 hP1 _ hS1 => ?_)
  have hx : en E ρ (up2 σ k 4 x) k = .inr (3, [.int (b01 (σ k 0)), .int (σ k 1), .int (σ k 2), .int (σ k 3), .int x]) := by unfold en; rw [hk, up2_row]; simp [ec, upd, b01_of hz]
  have hP2 : va_P E.1 vwCl ((wl E ρ σ).set i (ad E k, .inr (3, [.int (b01 (σ k 0)), .int (σ k 1), .int (σ k 2), .int (σ k 3), .int x]))) H1 := hP1
  rw [← hx, wl_set ρ cx.2.2.1.1 hi (fun k' h' => en_nk E ρ σ k 4 x h')] at hP2
  exact kk H1 locs1 ls hP2 hS1 hl
theorem gX4_0 (cx : Cx p s m args c E A own cc nL Ts) {k t : Ky} {idx : Nat} (hin : ∀ w ∈ u_ws RX4 TX4 7, w ∈ Ts) (hf : Cond.fieldLink own idx (TX4 0).1 (TX4 0).2.1 (TX4 0).2.2.1 ∈ Ts) (hd : decode cc pc = .ok (.getfield idx, 3)) (hk : kc k = 4) (hm : k ∈ ks E) (ht : ρ k 0 = some t) (hq : pc + 3 = q) (kk : AW p l e R s m args below meth c cells slots Q A E ρ q lv (.ref (ad E t) :: st) σ) : AW p l e R s m args below meth c cells slots Q A E ρ pc lv (.ref (ad E k) :: st) σ := fun H locs ls hP hS hl => by
  subst hq
  obtain ⟨i, hi⟩ := ks_at hm
  have he := wl_at ρ σ hi
  unfold en at he
  rw [hk] at he
  have h0 := kk H locs ls hP hS hl
  have hv : rv E (ρ k 0) = .ref (ad E t) := by rw [ht]; rfl
  rw [← hv] at h0
  exact va_get (T := TX4) (N := 7) (ci := 4) cx.1.1 cx.1.2.1 cx.1.2.2.2.2 hin cx.1.2.2.2.1 cx.2.1.1 hP i he rfl 0 (by decide) (cx.1.2.2.2.2 _ hf) (fun _ h => h) rfl hd h0
theorem gX4_1 (cx : Cx p s m args c E A own cc nL Ts) {k t : Ky} {idx : Nat} (hin : ∀ w ∈ u_ws RX4 TX4 7, w ∈ Ts) (hf : Cond.fieldLink own idx (TX4 1).1 (TX4 1).2.1 (TX4 1).2.2.1 ∈ Ts) (hd : decode cc pc = .ok (.getfield idx, 3)) (hk : kc k = 4) (hm : k ∈ ks E) (ht : ρ k 1 = some t) (hq : pc + 3 = q) (kk : AW p l e R s m args below meth c cells slots Q A E ρ q lv (.ref (ad E t) :: st) σ) : AW p l e R s m args below meth c cells slots Q A E ρ pc lv (.ref (ad E k) :: st) σ := fun H locs ls hP hS hl => by
  subst hq
  obtain ⟨i, hi⟩ := ks_at hm
  have he := wl_at ρ σ hi
  unfold en at he
  rw [hk] at he
  have h0 := kk H locs ls hP hS hl
  have hv : rv E (ρ k 1) = .ref (ad E t) := by rw [ht]; rfl
  rw [← hv] at h0
  exact va_get (T := TX4) (N := 7) (ci := 4) cx.1.1 cx.1.2.1 cx.1.2.2.2.2 hin cx.1.2.2.2.1 cx.2.1.1 hP i he rfl 1 (by decide) (cx.1.2.2.2.2 _ hf) (fun _ h => h) rfl hd h0
theorem gX4_2 (cx : Cx p s m args c E A own cc nL Ts) {k : Ky} {idx : Nat} (hin : ∀ w ∈ u_ws RX4 TX4 7, w ∈ Ts) (hf : Cond.fieldLink own idx (TX4 2).1 (TX4 2).2.1 (TX4 2).2.2.1 ∈ Ts) (hd : decode cc pc = .ok (.getfield idx, 3)) (hk : kc k = 4) (hm : k ∈ ks E) (hq : pc + 3 = q) (kk : AW p l e R s m args below meth c cells slots Q A E ρ q lv (.int (σ k 2) :: st) σ) : AW p l e R s m args below meth c cells slots Q A E ρ pc lv (.ref (ad E k) :: st) σ := fun H locs ls hP hS hl => by
  subst hq
  obtain ⟨i, hi⟩ := ks_at hm
  have he := wl_at ρ σ hi
  unfold en at he
  rw [hk] at he
  exact va_get (T := TX4) (N := 7) (ci := 4) cx.1.1 cx.1.2.1 cx.1.2.2.2.2 hin cx.1.2.2.2.1 cx.2.1.1 hP i he rfl 2 (by decide) (cx.1.2.2.2.2 _ hf) (fun _ h => h) rfl hd (kk H locs ls hP hS hl)
theorem pX4_2 (cx : Cx p s m args c E A own cc nL Ts) {k : Ky} {idx : Nat} {x : Int32} (hin : ∀ w ∈ u_ws RX4 TX4 7, w ∈ Ts) (hf : Cond.fieldLink own idx (TX4 2).1 (TX4 2).2.1 (TX4 2).2.2.1 ∈ Ts) (hd : decode cc pc = .ok (.putfield idx, 3)) (hk : kc k = 4) (hm : k ∈ ks E) (hq : pc + 3 = q) (kk : AW p l e R s m args below meth c cells slots Q A E ρ q lv st (up2 σ k 2 x)) : AW p l e R s m args below meth c cells slots Q A E ρ pc lv (.int x :: .ref (ad E k) :: st) σ := fun H locs ls hP hS hl => by
  subst hq
  obtain ⟨i, hi⟩ := ks_at hm
  have he := wl_at ρ σ hi
  unfold en at he
  rw [hk] at he
  refine va_put (T := TX4) (N := 7) (ci := 4) cx.1.1 cx.1.2.1 cx.1.2.2.2.2 hin tyX4 tyX4_ok nmX4 cx.1.2.2.2.1 cx.2.1.1 hP (wl_D cx.2.2.1 cx.2.2.2 ρ σ) hS i he rfl 2 (by decide) (cx.1.2.2.2.2 _ hf) (fun _ h => h) rfl (ty := .int) (by decide +kernel) rfl rfl (Nat.le_of_ble_eq_true rfl) hd (fun H1 locs1 hP1 _ hS1 => ?_)
  have hx : en E ρ (up2 σ k 2 x) k = .inr (4, [rv E (ρ k 0), rv E (ρ k 1), .int x, .int (σ k 3), .int (σ k 4), .int (σ k 5), .int (σ k 6)]) := by unfold en; rw [hk, up2_row]; simp [ec, upd]
  have hP2 : va_P E.1 vwCl ((wl E ρ σ).set i (ad E k, .inr (4, [rv E (ρ k 0), rv E (ρ k 1), .int x, .int (σ k 3), .int (σ k 4), .int (σ k 5), .int (σ k 6)]))) H1 := hP1
  rw [← hx, wl_set ρ cx.2.2.1.1 hi (fun k' h' => en_nk E ρ σ k 2 x h')] at hP2
  exact kk H1 locs1 ls hP2 hS1 hl
theorem gX4_3 (cx : Cx p s m args c E A own cc nL Ts) {k : Ky} {idx : Nat} (hin : ∀ w ∈ u_ws RX4 TX4 7, w ∈ Ts) (hf : Cond.fieldLink own idx (TX4 3).1 (TX4 3).2.1 (TX4 3).2.2.1 ∈ Ts) (hd : decode cc pc = .ok (.getfield idx, 3)) (hk : kc k = 4) (hm : k ∈ ks E) (hq : pc + 3 = q) (kk : AW p l e R s m args below meth c cells slots Q A E ρ q lv (.int (σ k 3) :: st) σ) : AW p l e R s m args below meth c cells slots Q A E ρ pc lv (.ref (ad E k) :: st) σ := fun H locs ls hP hS hl => by
  subst hq
  obtain ⟨i, hi⟩ := ks_at hm
  have he := wl_at ρ σ hi
  unfold en at he
  rw [hk] at he
  exact va_get (T := TX4) (N := 7) (ci := 4) cx.1.1 cx.1.2.1 cx.1.2.2.2.2 hin cx.1.2.2.2.1 cx.2.1.1 hP i he rfl 3 (by decide) (cx.1.2.2.2.2 _ hf) (fun _ h => h) rfl hd (kk H locs ls hP hS hl)
theorem pX4_3 (cx : Cx p s m args c E A own cc nL Ts) {k : Ky} {idx : Nat} {x : Int32} (hin : ∀ w ∈ u_ws RX4 TX4 7, w ∈ Ts) (hf : Cond.fieldLink own idx (TX4 3).1 (TX4 3).2.1 (TX4 3).2.2.1 ∈ Ts) (hd : decode cc pc = .ok (.putfield idx, 3)) (hk : kc k = 4) (hm : k ∈ ks E) (hq : pc + 3 = q) (kk : AW p l e R s m args below meth c cells slots Q A E ρ q lv st (up2 σ k 3 x)) : AW p l e R s m args below meth c cells slots Q A E ρ pc lv (.int x :: .ref (ad E k) :: st) σ := fun H locs ls hP hS hl => by
  subst hq
  obtain ⟨i, hi⟩ := ks_at hm
  have he := wl_at ρ σ hi
  unfold en at he
  rw [hk] at he
  refine va_put (T := TX4) (N := 7) (ci := 4) cx.1.1 cx.1.2.1 cx.1.2.2.2.2 hin tyX4 tyX4_ok nmX4 cx.1.2.2.2.1 cx.2.1.1 hP (wl_D cx.2.2.1 cx.2.2.2 ρ σ) hS i he rfl 3 (by decide) (cx.1.2.2.2.2 _ hf) (fun _ h => h) rfl (ty := .int) (by decide +kernel) rfl rfl (Nat.le_of_ble_eq_true rfl) hd (fun H1 locs1 hP1 _ hS1 => ?_)
  have hx : en E ρ (up2 σ k 3 x) k = .inr (4, [rv E (ρ k 0), rv E (ρ k 1), .int (σ k 2), .int x, .int (σ k 4), .int (σ k 5), .int (σ k 6)]) := by unfold en; rw [hk, up2_row]; simp [ec, upd]
  have hP2 : va_P E.1 vwCl ((wl E ρ σ).set i (ad E k, .inr (4, [rv E (ρ k 0), rv E (ρ k 1), .int (σ k 2), .int x, .int (σ k 4), .int (σ k 5), .int (σ k 6)]))) H1 := hP1
  rw [← hx, wl_set ρ cx.2.2.1.1 hi (fun k' h' => en_nk E ρ σ k 3 x h')] at hP2
  exact kk H1 locs1 ls hP2 hS1 hl
theorem gX4_4 (cx : Cx p s m args c E A own cc nL Ts) {k : Ky} {idx : Nat} (hin : ∀ w ∈ u_ws RX4 TX4 7, w ∈ Ts) (hf : Cond.fieldLink own idx (TX4 4).1 (TX4 4).2.1 (TX4 4).2.2.1 ∈ Ts) (hd : decode cc pc = .ok (.getfield idx, 3)) (hk : kc k = 4) (hm : k ∈ ks E) (hq : pc + 3 = q) (kk : AW p l e R s m args below meth c cells slots Q A E ρ q lv (.int (σ k 4) :: st) σ) : AW p l e R s m args below meth c cells slots Q A E ρ pc lv (.ref (ad E k) :: st) σ := fun H locs ls hP hS hl => by
  subst hq
  obtain ⟨i, hi⟩ := ks_at hm
  have he := wl_at ρ σ hi
  unfold en at he
  rw [hk] at he
  exact va_get (T := TX4) (N := 7) (ci := 4) cx.1.1 cx.1.2.1 cx.1.2.2.2.2 hin cx.1.2.2.2.1 cx.2.1.1 hP i he rfl 4 (by decide) (cx.1.2.2.2.2 _ hf) (fun _ h => h) rfl hd (kk H locs ls hP hS hl)
theorem pX4_4 (cx : Cx p s m args c E A own cc nL Ts) {k : Ky} {idx : Nat} {x : Int32} (hin : ∀ w ∈ u_ws RX4 TX4 7, w ∈ Ts) (hf : Cond.fieldLink own idx (TX4 4).1 (TX4 4).2.1 (TX4 4).2.2.1 ∈ Ts) (hd : decode cc pc = .ok (.putfield idx, 3)) (hk : kc k = 4) (hm : k ∈ ks E) (hq : pc + 3 = q) (kk : AW p l e R s m args below meth c cells slots Q A E ρ q lv st (up2 σ k 4 x)) : AW p l e R s m args below meth c cells slots Q A E ρ pc lv (.int x :: .ref (ad E k) :: st) σ := fun H locs ls hP hS hl => by
  subst hq
  obtain ⟨i, hi⟩ := ks_at hm
  have he := wl_at ρ σ hi
  unfold en at he
  rw [hk] at he
  refine va_put (T := TX4) (N := 7) (ci := 4) cx.1.1 cx.1.2.1 cx.1.2.2.2.2 hin tyX4 tyX4_ok nmX4 cx.1.2.2.2.1 cx.2.1.1 hP (wl_D cx.2.2.1 cx.2.2.2 ρ σ) hS i he rfl 4 (by decide) (cx.1.2.2.2.2 _ hf) (fun _ h => h) rfl (ty := .int) (by decide +kernel) rfl rfl (Nat.le_of_ble_eq_true rfl) hd (fun H1 locs1 hP1 _ hS1 => ?_)
  have hx : en E ρ (up2 σ k 4 x) k = .inr (4, [rv E (ρ k 0), rv E (ρ k 1), .int (σ k 2), .int (σ k 3), .int x, .int (σ k 5), .int (σ k 6)]) := by unfold en; rw [hk, up2_row]; simp [ec, upd]
  have hP2 : va_P E.1 vwCl ((wl E ρ σ).set i (ad E k, .inr (4, [rv E (ρ k 0), rv E (ρ k 1), .int (σ k 2), .int (σ k 3), .int x, .int (σ k 5), .int (σ k 6)]))) H1 := hP1
  rw [← hx, wl_set ρ cx.2.2.1.1 hi (fun k' h' => en_nk E ρ σ k 4 x h')] at hP2
  exact kk H1 locs1 ls hP2 hS1 hl
theorem gX4_5 (cx : Cx p s m args c E A own cc nL Ts) {k : Ky} {idx : Nat} (hin : ∀ w ∈ u_ws RX4 TX4 7, w ∈ Ts) (hf : Cond.fieldLink own idx (TX4 5).1 (TX4 5).2.1 (TX4 5).2.2.1 ∈ Ts) (hd : decode cc pc = .ok (.getfield idx, 3)) (hk : kc k = 4) (hm : k ∈ ks E) (hq : pc + 3 = q) (kk : AW p l e R s m args below meth c cells slots Q A E ρ q lv (.int (σ k 5) :: st) σ) : AW p l e R s m args below meth c cells slots Q A E ρ pc lv (.ref (ad E k) :: st) σ := fun H locs ls hP hS hl => by
  subst hq
  obtain ⟨i, hi⟩ := ks_at hm
  have he := wl_at ρ σ hi
  unfold en at he
  rw [hk] at he
  exact va_get (T := TX4) (N := 7) (ci := 4) cx.1.1 cx.1.2.1 cx.1.2.2.2.2 hin cx.1.2.2.2.1 cx.2.1.1 hP i he rfl 5 (by decide) (cx.1.2.2.2.2 _ hf) (fun _ h => h) rfl hd (kk H locs ls hP hS hl)
theorem pX4_5 (cx : Cx p s m args c E A own cc nL Ts) {k : Ky} {idx : Nat} {x : Int32} (hin : ∀ w ∈ u_ws RX4 TX4 7, w ∈ Ts) (hf : Cond.fieldLink own idx (TX4 5).1 (TX4 5).2.1 (TX4 5).2.2.1 ∈ Ts) (hd : decode cc pc = .ok (.putfield idx, 3)) (hk : kc k = 4) (hm : k ∈ ks E) (hq : pc + 3 = q) (kk : AW p l e R s m args below meth c cells slots Q A E ρ q lv st (up2 σ k 5 x)) : AW p l e R s m args below meth c cells slots Q A E ρ pc lv (.int x :: .ref (ad E k) :: st) σ := fun H locs ls hP hS hl => by
  subst hq
  obtain ⟨i, hi⟩ := ks_at hm
  have he := wl_at ρ σ hi
  unfold en at he
  rw [hk] at he
  refine va_put (T := TX4) (N := 7) (ci := 4) cx.1.1 cx.1.2.1 cx.1.2.2.2.2 hin tyX4 tyX4_ok nmX4 cx.1.2.2.2.1 cx.2.1.1 hP (wl_D cx.2.2.1 cx.2.2.2 ρ σ) hS i he rfl 5 (by decide) (cx.1.2.2.2.2 _ hf) (fun _ h => h) rfl (ty := .int) (by decide +kernel) rfl rfl (Nat.le_of_ble_eq_true rfl) hd (fun H1 locs1 hP1 _ hS1 => ?_)
  have hx : en E ρ (up2 σ k 5 x) k = .inr (4, [rv E (ρ k 0), rv E (ρ k 1), .int (σ k 2), .int (σ k 3), .int (σ k 4), .int x, .int (σ k 6)]) := by unfold en; rw [hk, up2_row]; simp [ec, upd]
  have hP2 : va_P E.1 vwCl ((wl E ρ σ).set i (ad E k, .inr (4, [rv E (ρ k 0), rv E (ρ k 1), .int (σ k 2), .int (σ k 3), .int (σ k 4), .int x, .int (σ k 6)]))) H1 := hP1
  rw [← hx, wl_set ρ cx.2.2.1.1 hi (fun k' h' => en_nk E ρ σ k 5 x h')] at hP2
  exact kk H1 locs1 ls hP2 hS1 hl
theorem gX4_6 (cx : Cx p s m args c E A own cc nL Ts) {k : Ky} {idx : Nat} (hin : ∀ w ∈ u_ws RX4 TX4 7, w ∈ Ts) (hf : Cond.fieldLink own idx (TX4 6).1 (TX4 6).2.1 (TX4 6).2.2.1 ∈ Ts) (hd : decode cc pc = .ok (.getfield idx, 3)) (hk : kc k = 4) (hm : k ∈ ks E) (hq : pc + 3 = q) (kk : AW p l e R s m args below meth c cells slots Q A E ρ q lv (.int (σ k 6) :: st) σ) : AW p l e R s m args below meth c cells slots Q A E ρ pc lv (.ref (ad E k) :: st) σ := fun H locs ls hP hS hl => by
  subst hq
  obtain ⟨i, hi⟩ := ks_at hm
  have he := wl_at ρ σ hi
  unfold en at he
  rw [hk] at he
  exact va_get (T := TX4) (N := 7) (ci := 4) cx.1.1 cx.1.2.1 cx.1.2.2.2.2 hin cx.1.2.2.2.1 cx.2.1.1 hP i he rfl 6 (by decide) (cx.1.2.2.2.2 _ hf) (fun _ h => h) rfl hd (kk H locs ls hP hS hl)
theorem pX4_6 (cx : Cx p s m args c E A own cc nL Ts) {k : Ky} {idx : Nat} {x : Int32} (hin : ∀ w ∈ u_ws RX4 TX4 7, w ∈ Ts) (hf : Cond.fieldLink own idx (TX4 6).1 (TX4 6).2.1 (TX4 6).2.2.1 ∈ Ts) (hd : decode cc pc = .ok (.putfield idx, 3)) (hk : kc k = 4) (hm : k ∈ ks E) (hq : pc + 3 = q) (kk : AW p l e R s m args below meth c cells slots Q A E ρ q lv st (up2 σ k 6 x)) : AW p l e R s m args below meth c cells slots Q A E ρ pc lv (.int x :: .ref (ad E k) :: st) σ := fun H locs ls hP hS hl => by
  subst hq
  obtain ⟨i, hi⟩ := ks_at hm
  have he := wl_at ρ σ hi
  unfold en at he
  rw [hk] at he
  refine va_put (T := TX4) (N := 7) (ci := 4) cx.1.1 cx.1.2.1 cx.1.2.2.2.2 hin tyX4 tyX4_ok nmX4 cx.1.2.2.2.1 cx.2.1.1 hP (wl_D cx.2.2.1 cx.2.2.2 ρ σ) hS i he rfl 6 (by decide) (cx.1.2.2.2.2 _ hf) (fun _ h => h) rfl (ty := .int) (by decide +kernel) rfl rfl (Nat.le_of_ble_eq_true rfl) hd (fun H1 locs1 hP1 _ hS1 => ?_)
  have hx : en E ρ (up2 σ k 6 x) k = .inr (4, [rv E (ρ k 0), rv E (ρ k 1), .int (σ k 2), .int (σ k 3), .int (σ k 4), .int (σ k 5), .int x]) := by unfold en; rw [hk, up2_row]; simp [ec, upd]
  have hP2 : va_P E.1 vwCl ((wl E ρ σ).set i (ad E k, .inr (4, [rv E (ρ k 0), rv E (ρ k 1), .int (σ k 2), .int (σ k 3), .int (σ k 4), .int (σ k 5), .int x]))) H1 := hP1
  rw [← hx, wl_set ρ cx.2.2.1.1 hi (fun k' h' => en_nk E ρ σ k 6 x h')] at hP2
  exact kk H1 locs1 ls hP2 hS1 hl
theorem gX5_0 (cx : Cx p s m args c E A own cc nL Ts) {k : Ky} {idx : Nat} (hin : ∀ w ∈ u_ws RX5 TX5 11, w ∈ Ts) (hf : Cond.fieldLink own idx (TX5 0).1 (TX5 0).2.1 (TX5 0).2.2.1 ∈ Ts) (hd : decode cc pc = .ok (.getfield idx, 3)) (hk : kc k = 5) (hm : k ∈ ks E) (hq : pc + 3 = q) (kk : AW p l e R s m args below meth c cells slots Q A E ρ q lv (.int (b01 (σ k 0)) :: st) σ) : AW p l e R s m args below meth c cells slots Q A E ρ pc lv (.ref (ad E k) :: st) σ := fun H locs ls hP hS hl => by
  subst hq
  obtain ⟨i, hi⟩ := ks_at hm
  have he := wl_at ρ σ hi
  unfold en at he
  rw [hk] at he
  exact va_get (T := TX5) (N := 11) (ci := 5) cx.1.1 cx.1.2.1 cx.1.2.2.2.2 hin cx.1.2.2.2.1 cx.2.1.1 hP i he rfl 0 (by decide) (cx.1.2.2.2.2 _ hf) (fun _ h => h) rfl hd (kk H locs ls hP hS hl)
theorem pX5_0 (cx : Cx p s m args c E A own cc nL Ts) {k : Ky} {idx : Nat} {x : Int32} (hin : ∀ w ∈ u_ws RX5 TX5 11, w ∈ Ts) (hf : Cond.fieldLink own idx (TX5 0).1 (TX5 0).2.1 (TX5 0).2.2.1 ∈ Ts) (hd : decode cc pc = .ok (.putfield idx, 3)) (hk : kc k = 5) (hm : k ∈ ks E) (hz : x = 0 ∨ x = 1) (hq : pc + 3 = q) (kk : AW p l e R s m args below meth c cells slots Q A E ρ q lv st (up2 σ k 0 x)) : AW p l e R s m args below meth c cells slots Q A E ρ pc lv (.int x :: .ref (ad E k) :: st) σ := fun H locs ls hP hS hl => by
  subst hq
  obtain ⟨i, hi⟩ := ks_at hm
  have he := wl_at ρ σ hi
  unfold en at he
  rw [hk] at he
  refine va_put (T := TX5) (N := 11) (ci := 5) cx.1.1 cx.1.2.1 cx.1.2.2.2.2 hin tyX5 tyX5_ok nmX5 cx.1.2.2.2.1 cx.2.1.1 hP (wl_D cx.2.2.1 cx.2.2.2 ρ σ) hS i he rfl 0 (by decide) (cx.1.2.2.2.2 _ hf) (fun _ h => h) rfl (ty := .boolean) (by decide +kernel) (by rcases hz with rfl | rfl <;> rfl) (by rcases hz with rfl | rfl <;> rfl) (Nat.le_of_ble_eq_true rfl) hd (fun H1 locs1 hP1 _ hS1 => ?_)
  have hx : en E ρ (up2 σ k 0 x) k = .inr (5, [.int x, .int (b01 (σ k 1)), .int (σ k 2), .int (σ k 3), rv E (ρ k 4), rv E (ρ k 5), .int (σ k 6), .int (σ k 7), .int (b01 (σ k 8)), .int (σ k 9), .int (σ k 10)]) := by unfold en; rw [hk, up2_row]; simp [ec, upd, b01_of hz]
  have hP2 : va_P E.1 vwCl ((wl E ρ σ).set i (ad E k, .inr (5, [.int x, .int (b01 (σ k 1)), .int (σ k 2), .int (σ k 3), rv E (ρ k 4), rv E (ρ k 5), .int (σ k 6), .int (σ k 7), .int (b01 (σ k 8)), .int (σ k 9), .int (σ k 10)]))) H1 := hP1
  rw [← hx, wl_set ρ cx.2.2.1.1 hi (fun k' h' => en_nk E ρ σ k 0 x h')] at hP2
  exact kk H1 locs1 ls hP2 hS1 hl
theorem gX5_1 (cx : Cx p s m args c E A own cc nL Ts) {k : Ky} {idx : Nat} (hin : ∀ w ∈ u_ws RX5 TX5 11, w ∈ Ts) (hf : Cond.fieldLink own idx (TX5 1).1 (TX5 1).2.1 (TX5 1).2.2.1 ∈ Ts) (hd : decode cc pc = .ok (.getfield idx, 3)) (hk : kc k = 5) (hm : k ∈ ks E) (hq : pc + 3 = q) (kk : AW p l e R s m args below meth c cells slots Q A E ρ q lv (.int (b01 (σ k 1)) :: st) σ) : AW p l e R s m args below meth c cells slots Q A E ρ pc lv (.ref (ad E k) :: st) σ := fun H locs ls hP hS hl => by
  subst hq
  obtain ⟨i, hi⟩ := ks_at hm
  have he := wl_at ρ σ hi
  unfold en at he
  rw [hk] at he
  exact va_get (T := TX5) (N := 11) (ci := 5) cx.1.1 cx.1.2.1 cx.1.2.2.2.2 hin cx.1.2.2.2.1 cx.2.1.1 hP i he rfl 1 (by decide) (cx.1.2.2.2.2 _ hf) (fun _ h => h) rfl hd (kk H locs ls hP hS hl)
theorem pX5_1 (cx : Cx p s m args c E A own cc nL Ts) {k : Ky} {idx : Nat} {x : Int32} (hin : ∀ w ∈ u_ws RX5 TX5 11, w ∈ Ts) (hf : Cond.fieldLink own idx (TX5 1).1 (TX5 1).2.1 (TX5 1).2.2.1 ∈ Ts) (hd : decode cc pc = .ok (.putfield idx, 3)) (hk : kc k = 5) (hm : k ∈ ks E) (hz : x = 0 ∨ x = 1) (hq : pc + 3 = q) (kk : AW p l e R s m args below meth c cells slots Q A E ρ q lv st (up2 σ k 1 x)) : AW p l e R s m args below meth c cells slots Q A E ρ pc lv (.int x :: .ref (ad E k) :: st) σ := fun H locs ls hP hS hl => by
  subst hq
  obtain ⟨i, hi⟩ := ks_at hm
  have he := wl_at ρ σ hi
  unfold en at he
  rw [hk] at he
  refine va_put (T := TX5) (N := 11) (ci := 5) cx.1.1 cx.1.2.1 cx.1.2.2.2.2 hin tyX5 tyX5_ok nmX5 cx.1.2.2.2.1 cx.2.1.1 hP (wl_D cx.2.2.1 cx.2.2.2 ρ σ) hS i he rfl 1 (by decide) (cx.1.2.2.2.2 _ hf) (fun _ h => h) rfl (ty := .boolean) (by decide +kernel) (by rcases hz with rfl | rfl <;> rfl) (by rcases hz with rfl | rfl <;> rfl) (Nat.le_of_ble_eq_true rfl) hd (fun H1 locs1 hP1 _ hS1 => ?_)
  have hx : en E ρ (up2 σ k 1 x) k = .inr (5, [.int (b01 (σ k 0)), .int x, .int (σ k 2), .int (σ k 3), rv E (ρ k 4), rv E (ρ k 5), .int (σ k 6), .int (σ k 7), .int (b01 (σ k 8)), .int (σ k 9), .int (σ k 10)]) := by unfold en; rw [hk, up2_row]; simp [ec, upd, b01_of hz]
  have hP2 : va_P E.1 vwCl ((wl E ρ σ).set i (ad E k, .inr (5, [.int (b01 (σ k 0)), .int x, .int (σ k 2), .int (σ k 3), rv E (ρ k 4), rv E (ρ k 5), .int (σ k 6), .int (σ k 7), .int (b01 (σ k 8)), .int (σ k 9), .int (σ k 10)]))) H1 := hP1
  rw [← hx, wl_set ρ cx.2.2.1.1 hi (fun k' h' => en_nk E ρ σ k 1 x h')] at hP2
  exact kk H1 locs1 ls hP2 hS1 hl
theorem gX5_2 (cx : Cx p s m args c E A own cc nL Ts) {k : Ky} {idx : Nat} (hin : ∀ w ∈ u_ws RX5 TX5 11, w ∈ Ts) (hf : Cond.fieldLink own idx (TX5 2).1 (TX5 2).2.1 (TX5 2).2.2.1 ∈ Ts) (hd : decode cc pc = .ok (.getfield idx, 3)) (hk : kc k = 5) (hm : k ∈ ks E) (hq : pc + 3 = q) (kk : AW p l e R s m args below meth c cells slots Q A E ρ q lv (.int (σ k 2) :: st) σ) : AW p l e R s m args below meth c cells slots Q A E ρ pc lv (.ref (ad E k) :: st) σ := fun H locs ls hP hS hl => by
  subst hq
  obtain ⟨i, hi⟩ := ks_at hm
  have he := wl_at ρ σ hi
  unfold en at he
  rw [hk] at he
  exact va_get (T := TX5) (N := 11) (ci := 5) cx.1.1 cx.1.2.1 cx.1.2.2.2.2 hin cx.1.2.2.2.1 cx.2.1.1 hP i he rfl 2 (by decide) (cx.1.2.2.2.2 _ hf) (fun _ h => h) rfl hd (kk H locs ls hP hS hl)
theorem pX5_2 (cx : Cx p s m args c E A own cc nL Ts) {k : Ky} {idx : Nat} {x : Int32} (hin : ∀ w ∈ u_ws RX5 TX5 11, w ∈ Ts) (hf : Cond.fieldLink own idx (TX5 2).1 (TX5 2).2.1 (TX5 2).2.2.1 ∈ Ts) (hd : decode cc pc = .ok (.putfield idx, 3)) (hk : kc k = 5) (hm : k ∈ ks E) (hq : pc + 3 = q) (kk : AW p l e R s m args below meth c cells slots Q A E ρ q lv st (up2 σ k 2 x)) : AW p l e R s m args below meth c cells slots Q A E ρ pc lv (.int x :: .ref (ad E k) :: st) σ := fun H locs ls hP hS hl => by
  subst hq
  obtain ⟨i, hi⟩ := ks_at hm
  have he := wl_at ρ σ hi
  unfold en at he
  rw [hk] at he
  refine va_put (T := TX5) (N := 11) (ci := 5) cx.1.1 cx.1.2.1 cx.1.2.2.2.2 hin tyX5 tyX5_ok nmX5 cx.1.2.2.2.1 cx.2.1.1 hP (wl_D cx.2.2.1 cx.2.2.2 ρ σ) hS i he rfl 2 (by decide) (cx.1.2.2.2.2 _ hf) (fun _ h => h) rfl (ty := .int) (by decide +kernel) rfl rfl (Nat.le_of_ble_eq_true rfl) hd (fun H1 locs1 hP1 _ hS1 => ?_)
  have hx : en E ρ (up2 σ k 2 x) k = .inr (5, [.int (b01 (σ k 0)), .int (b01 (σ k 1)), .int x, .int (σ k 3), rv E (ρ k 4), rv E (ρ k 5), .int (σ k 6), .int (σ k 7), .int (b01 (σ k 8)), .int (σ k 9), .int (σ k 10)]) := by unfold en; rw [hk, up2_row]; simp [ec, upd]
  have hP2 : va_P E.1 vwCl ((wl E ρ σ).set i (ad E k, .inr (5, [.int (b01 (σ k 0)), .int (b01 (σ k 1)), .int x, .int (σ k 3), rv E (ρ k 4), rv E (ρ k 5), .int (σ k 6), .int (σ k 7), .int (b01 (σ k 8)), .int (σ k 9), .int (σ k 10)]))) H1 := hP1
  rw [← hx, wl_set ρ cx.2.2.1.1 hi (fun k' h' => en_nk E ρ σ k 2 x h')] at hP2
  exact kk H1 locs1 ls hP2 hS1 hl
theorem gX5_3 (cx : Cx p s m args c E A own cc nL Ts) {k : Ky} {idx : Nat} (hin : ∀ w ∈ u_ws RX5 TX5 11, w ∈ Ts) (hf : Cond.fieldLink own idx (TX5 3).1 (TX5 3).2.1 (TX5 3).2.2.1 ∈ Ts) (hd : decode cc pc = .ok (.getfield idx, 3)) (hk : kc k = 5) (hm : k ∈ ks E) (hq : pc + 3 = q) (kk : AW p l e R s m args below meth c cells slots Q A E ρ q lv (.int (σ k 3) :: st) σ) : AW p l e R s m args below meth c cells slots Q A E ρ pc lv (.ref (ad E k) :: st) σ := fun H locs ls hP hS hl => by
  subst hq
  obtain ⟨i, hi⟩ := ks_at hm
  have he := wl_at ρ σ hi
  unfold en at he
  rw [hk] at he
  exact va_get (T := TX5) (N := 11) (ci := 5) cx.1.1 cx.1.2.1 cx.1.2.2.2.2 hin cx.1.2.2.2.1 cx.2.1.1 hP i he rfl 3 (by decide) (cx.1.2.2.2.2 _ hf) (fun _ h => h) rfl hd (kk H locs ls hP hS hl)
theorem pX5_3 (cx : Cx p s m args c E A own cc nL Ts) {k : Ky} {idx : Nat} {x : Int32} (hin : ∀ w ∈ u_ws RX5 TX5 11, w ∈ Ts) (hf : Cond.fieldLink own idx (TX5 3).1 (TX5 3).2.1 (TX5 3).2.2.1 ∈ Ts) (hd : decode cc pc = .ok (.putfield idx, 3)) (hk : kc k = 5) (hm : k ∈ ks E) (hq : pc + 3 = q) (kk : AW p l e R s m args below meth c cells slots Q A E ρ q lv st (up2 σ k 3 x)) : AW p l e R s m args below meth c cells slots Q A E ρ pc lv (.int x :: .ref (ad E k) :: st) σ := fun H locs ls hP hS hl => by
  subst hq
  obtain ⟨i, hi⟩ := ks_at hm
  have he := wl_at ρ σ hi
  unfold en at he
  rw [hk] at he
  refine va_put (T := TX5) (N := 11) (ci := 5) cx.1.1 cx.1.2.1 cx.1.2.2.2.2 hin tyX5 tyX5_ok nmX5 cx.1.2.2.2.1 cx.2.1.1 hP (wl_D cx.2.2.1 cx.2.2.2 ρ σ) hS i he rfl 3 (by decide) (cx.1.2.2.2.2 _ hf) (fun _ h => h) rfl (ty := .int) (by decide +kernel) rfl rfl (Nat.le_of_ble_eq_true rfl) hd (fun H1 locs1 hP1 _ hS1 => ?_)
  have hx : en E ρ (up2 σ k 3 x) k = .inr (5, [.int (b01 (σ k 0)), .int (b01 (σ k 1)), .int (σ k 2), .int x, rv E (ρ k 4), rv E (ρ k 5), .int (σ k 6), .int (σ k 7), .int (b01 (σ k 8)), .int (σ k 9), .int (σ k 10)]) := by unfold en; rw [hk, up2_row]; simp [ec, upd]
  have hP2 : va_P E.1 vwCl ((wl E ρ σ).set i (ad E k, .inr (5, [.int (b01 (σ k 0)), .int (b01 (σ k 1)), .int (σ k 2), .int x, rv E (ρ k 4), rv E (ρ k 5), .int (σ k 6), .int (σ k 7), .int (b01 (σ k 8)), .int (σ k 9), .int (σ k 10)]))) H1 := hP1
  rw [← hx, wl_set ρ cx.2.2.1.1 hi (fun k' h' => en_nk E ρ σ k 3 x h')] at hP2
  exact kk H1 locs1 ls hP2 hS1 hl
theorem gX5_4 (cx : Cx p s m args c E A own cc nL Ts) {k t : Ky} {idx : Nat} (hin : ∀ w ∈ u_ws RX5 TX5 11, w ∈ Ts) (hf : Cond.fieldLink own idx (TX5 4).1 (TX5 4).2.1 (TX5 4).2.2.1 ∈ Ts) (hd : decode cc pc = .ok (.getfield idx, 3)) (hk : kc k = 5) (hm : k ∈ ks E) (ht : ρ k 4 = some t) (hq : pc + 3 = q) (kk : AW p l e R s m args below meth c cells slots Q A E ρ q lv (.ref (ad E t) :: st) σ) : AW p l e R s m args below meth c cells slots Q A E ρ pc lv (.ref (ad E k) :: st) σ := fun H locs ls hP hS hl => by
  subst hq
  obtain ⟨i, hi⟩ := ks_at hm
  have he := wl_at ρ σ hi
  unfold en at he
  rw [hk] at he
  have h0 := kk H locs ls hP hS hl
  have hv : rv E (ρ k 4) = .ref (ad E t) := by rw [ht]; rfl
  rw [← hv] at h0
  exact va_get (T := TX5) (N := 11) (ci := 5) cx.1.1 cx.1.2.1 cx.1.2.2.2.2 hin cx.1.2.2.2.1 cx.2.1.1 hP i he rfl 4 (by decide) (cx.1.2.2.2.2 _ hf) (fun _ h => h) rfl hd h0
theorem gX5_5 (cx : Cx p s m args c E A own cc nL Ts) {k t : Ky} {idx : Nat} (hin : ∀ w ∈ u_ws RX5 TX5 11, w ∈ Ts) (hf : Cond.fieldLink own idx (TX5 5).1 (TX5 5).2.1 (TX5 5).2.2.1 ∈ Ts) (hd : decode cc pc = .ok (.getfield idx, 3)) (hk : kc k = 5) (hm : k ∈ ks E) (ht : ρ k 5 = some t) (hq : pc + 3 = q) (kk : AW p l e R s m args below meth c cells slots Q A E ρ q lv (.ref (ad E t) :: st) σ) : AW p l e R s m args below meth c cells slots Q A E ρ pc lv (.ref (ad E k) :: st) σ := fun H locs ls hP hS hl => by
  subst hq
  obtain ⟨i, hi⟩ := ks_at hm
  have he := wl_at ρ σ hi
  unfold en at he
  rw [hk] at he
  have h0 := kk H locs ls hP hS hl
  have hv : rv E (ρ k 5) = .ref (ad E t) := by rw [ht]; rfl
  rw [← hv] at h0
  exact va_get (T := TX5) (N := 11) (ci := 5) cx.1.1 cx.1.2.1 cx.1.2.2.2.2 hin cx.1.2.2.2.1 cx.2.1.1 hP i he rfl 5 (by decide) (cx.1.2.2.2.2 _ hf) (fun _ h => h) rfl hd h0
theorem gX5_6 (cx : Cx p s m args c E A own cc nL Ts) {k : Ky} {idx : Nat} (hin : ∀ w ∈ u_ws RX5 TX5 11, w ∈ Ts) (hf : Cond.fieldLink own idx (TX5 6).1 (TX5 6).2.1 (TX5 6).2.2.1 ∈ Ts) (hd : decode cc pc = .ok (.getfield idx, 3)) (hk : kc k = 5) (hm : k ∈ ks E) (hq : pc + 3 = q) (kk : AW p l e R s m args below meth c cells slots Q A E ρ q lv (.int (σ k 6) :: st) σ) : AW p l e R s m args below meth c cells slots Q A E ρ pc lv (.ref (ad E k) :: st) σ := fun H locs ls hP hS hl => by
  subst hq
  obtain ⟨i, hi⟩ := ks_at hm
  have he := wl_at ρ σ hi
  unfold en at he
  rw [hk] at he
  exact va_get (T := TX5) (N := 11) (ci := 5) cx.1.1 cx.1.2.1 cx.1.2.2.2.2 hin cx.1.2.2.2.1 cx.2.1.1 hP i he rfl 6 (by decide) (cx.1.2.2.2.2 _ hf) (fun _ h => h) rfl hd (kk H locs ls hP hS hl)
theorem pX5_6 (cx : Cx p s m args c E A own cc nL Ts) {k : Ky} {idx : Nat} {x : Int32} (hin : ∀ w ∈ u_ws RX5 TX5 11, w ∈ Ts) (hf : Cond.fieldLink own idx (TX5 6).1 (TX5 6).2.1 (TX5 6).2.2.1 ∈ Ts) (hd : decode cc pc = .ok (.putfield idx, 3)) (hk : kc k = 5) (hm : k ∈ ks E) (hq : pc + 3 = q) (kk : AW p l e R s m args below meth c cells slots Q A E ρ q lv st (up2 σ k 6 x)) : AW p l e R s m args below meth c cells slots Q A E ρ pc lv (.int x :: .ref (ad E k) :: st) σ := fun H locs ls hP hS hl => by
  subst hq
  obtain ⟨i, hi⟩ := ks_at hm
  have he := wl_at ρ σ hi
  unfold en at he
  rw [hk] at he
  refine va_put (T := TX5) (N := 11) (ci := 5) cx.1.1 cx.1.2.1 cx.1.2.2.2.2 hin tyX5 tyX5_ok nmX5 cx.1.2.2.2.1 cx.2.1.1 hP (wl_D cx.2.2.1 cx.2.2.2 ρ σ) hS i he rfl 6 (by decide) (cx.1.2.2.2.2 _ hf) (fun _ h => h) rfl (ty := .int) (by decide +kernel) rfl rfl (Nat.le_of_ble_eq_true rfl) hd (fun H1 locs1 hP1 _ hS1 => ?_)
  have hx : en E ρ (up2 σ k 6 x) k = .inr (5, [.int (b01 (σ k 0)), .int (b01 (σ k 1)), .int (σ k 2), .int (σ k 3), rv E (ρ k 4), rv E (ρ k 5), .int x, .int (σ k 7), .int (b01 (σ k 8)), .int (σ k 9), .int (σ k 10)]) := by unfold en; rw [hk, up2_row]; simp [ec, upd]
  have hP2 : va_P E.1 vwCl ((wl E ρ σ).set i (ad E k, .inr (5, [.int (b01 (σ k 0)), .int (b01 (σ k 1)), .int (σ k 2), .int (σ k 3), rv E (ρ k 4), rv E (ρ k 5), .int x, .int (σ k 7), .int (b01 (σ k 8)), .int (σ k 9), .int (σ k 10)]))) H1 := hP1
  rw [← hx, wl_set ρ cx.2.2.1.1 hi (fun k' h' => en_nk E ρ σ k 6 x h')] at hP2
  exact kk H1 locs1 ls hP2 hS1 hl
theorem gX5_7 (cx : Cx p s m args c E A own cc nL Ts) {k : Ky} {idx : Nat} (hin : ∀ w ∈ u_ws RX5 TX5 11, w ∈ Ts) (hf : Cond.fieldLink own idx (TX5 7).1 (TX5 7).2.1 (TX5 7).2.2.1 ∈ Ts) (hd : decode cc pc = .ok (.getfield idx, 3)) (hk : kc k = 5) (hm : k ∈ ks E) (hq : pc + 3 = q) (kk : AW p l e R s m args below meth c cells slots Q A E ρ q lv (.int (σ k 7) :: st) σ) : AW p l e R s m args below meth c cells slots Q A E ρ pc lv (.ref (ad E k) :: st) σ := fun H locs ls hP hS hl => by
  subst hq
  obtain ⟨i, hi⟩ := ks_at hm
  have he := wl_at ρ σ hi
  unfold en at he
  rw [hk] at he
  exact va_get (T := TX5) (N := 11) (ci := 5) cx.1.1 cx.1.2.1 cx.1.2.2.2.2 hin cx.1.2.2.2.1 cx.2.1.1 hP i he rfl 7 (by decide) (cx.1.2.2.2.2 _ hf) (fun _ h => h) rfl hd (kk H locs ls hP hS hl)
theorem pX5_7 (cx : Cx p s m args c E A own cc nL Ts) {k : Ky} {idx : Nat} {x : Int32} (hin : ∀ w ∈ u_ws RX5 TX5 11, w ∈ Ts) (hf : Cond.fieldLink own idx (TX5 7).1 (TX5 7).2.1 (TX5 7).2.2.1 ∈ Ts) (hd : decode cc pc = .ok (.putfield idx, 3)) (hk : kc k = 5) (hm : k ∈ ks E) (hq : pc + 3 = q) (kk : AW p l e R s m args below meth c cells slots Q A E ρ q lv st (up2 σ k 7 x)) : AW p l e R s m args below meth c cells slots Q A E ρ pc lv (.int x :: .ref (ad E k) :: st) σ := fun H locs ls hP hS hl => by
  subst hq
  obtain ⟨i, hi⟩ := ks_at hm
  have he := wl_at ρ σ hi
  unfold en at he
  rw [hk] at he
  refine va_put (T := TX5) (N := 11) (ci := 5) cx.1.1 cx.1.2.1 cx.1.2.2.2.2 hin tyX5 tyX5_ok nmX5 cx.1.2.2.2.1 cx.2.1.1 hP (wl_D cx.2.2.1 cx.2.2.2 ρ σ) hS i he rfl 7 (by decide) (cx.1.2.2.2.2 _ hf) (fun _ h => h) rfl (ty := .int) (by decide +kernel) rfl rfl (Nat.le_of_ble_eq_true rfl) hd (fun H1 locs1 hP1 _ hS1 => ?_)
  have hx : en E ρ (up2 σ k 7 x) k = .inr (5, [.int (b01 (σ k 0)), .int (b01 (σ k 1)), .int (σ k 2), .int (σ k 3), rv E (ρ k 4), rv E (ρ k 5), .int (σ k 6), .int x, .int (b01 (σ k 8)), .int (σ k 9), .int (σ k 10)]) := by unfold en; rw [hk, up2_row]; simp [ec, upd]
  have hP2 : va_P E.1 vwCl ((wl E ρ σ).set i (ad E k, .inr (5, [.int (b01 (σ k 0)), .int (b01 (σ k 1)), .int (σ k 2), .int (σ k 3), rv E (ρ k 4), rv E (ρ k 5), .int (σ k 6), .int x, .int (b01 (σ k 8)), .int (σ k 9), .int (σ k 10)]))) H1 := hP1
  rw [← hx, wl_set ρ cx.2.2.1.1 hi (fun k' h' => en_nk E ρ σ k 7 x h')] at hP2
  exact kk H1 locs1 ls hP2 hS1 hl
theorem gX5_8 (cx : Cx p s m args c E A own cc nL Ts) {k : Ky} {idx : Nat} (hin : ∀ w ∈ u_ws RX5 TX5 11, w ∈ Ts) (hf : Cond.fieldLink own idx (TX5 8).1 (TX5 8).2.1 (TX5 8).2.2.1 ∈ Ts) (hd : decode cc pc = .ok (.getfield idx, 3)) (hk : kc k = 5) (hm : k ∈ ks E) (hq : pc + 3 = q) (kk : AW p l e R s m args below meth c cells slots Q A E ρ q lv (.int (b01 (σ k 8)) :: st) σ) : AW p l e R s m args below meth c cells slots Q A E ρ pc lv (.ref (ad E k) :: st) σ := fun H locs ls hP hS hl => by
  subst hq
  obtain ⟨i, hi⟩ := ks_at hm
  have he := wl_at ρ σ hi
  unfold en at he
  rw [hk] at he
  exact va_get (T := TX5) (N := 11) (ci := 5) cx.1.1 cx.1.2.1 cx.1.2.2.2.2 hin cx.1.2.2.2.1 cx.2.1.1 hP i he rfl 8 (by decide) (cx.1.2.2.2.2 _ hf) (fun _ h => h) rfl hd (kk H locs ls hP hS hl)
theorem pX5_8 (cx : Cx p s m args c E A own cc nL Ts) {k : Ky} {idx : Nat} {x : Int32} (hin : ∀ w ∈ u_ws RX5 TX5 11, w ∈ Ts) (hf : Cond.fieldLink own idx (TX5 8).1 (TX5 8).2.1 (TX5 8).2.2.1 ∈ Ts) (hd : decode cc pc = .ok (.putfield idx, 3)) (hk : kc k = 5) (hm : k ∈ ks E) (hz : x = 0 ∨ x = 1) (hq : pc + 3 = q) (kk : AW p l e R s m args below meth c cells slots Q A E ρ q lv st (up2 σ k 8 x)) : AW p l e R s m args below meth c cells slots Q A E ρ pc lv (.int x :: .ref (ad E k) :: st) σ := fun H locs ls hP hS hl => by
  subst hq
  obtain ⟨i, hi⟩ := ks_at hm
  have he := wl_at ρ σ hi
  unfold en at he
  rw [hk] at he
  refine va_put (T := TX5) (N := 11) (ci := 5) cx.1.1 cx.1.2.1 cx.1.2.2.2.2 hin tyX5 tyX5_ok nmX5 cx.1.2.2.2.1 cx.2.1.1 hP (wl_D cx.2.2.1 cx.2.2.2 ρ σ) hS i he rfl 8 (by decide) (cx.1.2.2.2.2 _ hf) (fun _ h => h) rfl (ty := .boolean) (by decide +kernel) (by rcases hz with rfl | rfl <;> rfl) (by rcases hz with rfl | rfl <;> rfl) (Nat.le_of_ble_eq_true rfl) hd (fun H1 locs1 hP1 _ hS1 => ?_)
  have hx : en E ρ (up2 σ k 8 x) k = .inr (5, [.int (b01 (σ k 0)), .int (b01 (σ k 1)), .int (σ k 2), .int (σ k 3), rv E (ρ k 4), rv E (ρ k 5), .int (σ k 6), .int (σ k 7), .int x, .int (σ k 9), .int (σ k 10)]) := by unfold en; rw [hk, up2_row]; simp [ec, upd, b01_of hz]
  have hP2 : va_P E.1 vwCl ((wl E ρ σ).set i (ad E k, .inr (5, [.int (b01 (σ k 0)), .int (b01 (σ k 1)), .int (σ k 2), .int (σ k 3), rv E (ρ k 4), rv E (ρ k 5), .int (σ k 6), .int (σ k 7), .int x, .int (σ k 9), .int (σ k 10)]))) H1 := hP1
  rw [← hx, wl_set ρ cx.2.2.1.1 hi (fun k' h' => en_nk E ρ σ k 8 x h')] at hP2
  exact kk H1 locs1 ls hP2 hS1 hl
theorem gX5_9 (cx : Cx p s m args c E A own cc nL Ts) {k : Ky} {idx : Nat} (hin : ∀ w ∈ u_ws RX5 TX5 11, w ∈ Ts) (hf : Cond.fieldLink own idx (TX5 9).1 (TX5 9).2.1 (TX5 9).2.2.1 ∈ Ts) (hd : decode cc pc = .ok (.getfield idx, 3)) (hk : kc k = 5) (hm : k ∈ ks E) (hq : pc + 3 = q) (kk : AW p l e R s m args below meth c cells slots Q A E ρ q lv (.int (σ k 9) :: st) σ) : AW p l e R s m args below meth c cells slots Q A E ρ pc lv (.ref (ad E k) :: st) σ := fun H locs ls hP hS hl => by
  subst hq
  obtain ⟨i, hi⟩ := ks_at hm
  have he := wl_at ρ σ hi
  unfold en at he
  rw [hk] at he
  exact va_get (T := TX5) (N := 11) (ci := 5) cx.1.1 cx.1.2.1 cx.1.2.2.2.2 hin cx.1.2.2.2.1 cx.2.1.1 hP i he rfl 9 (by decide) (cx.1.2.2.2.2 _ hf) (fun _ h => h) rfl hd (kk H locs ls hP hS hl)
theorem pX5_9 (cx : Cx p s m args c E A own cc nL Ts) {k : Ky} {idx : Nat} {x : Int32} (hin : ∀ w ∈ u_ws RX5 TX5 11, w ∈ Ts) (hf : Cond.fieldLink own idx (TX5 9).1 (TX5 9).2.1 (TX5 9).2.2.1 ∈ Ts) (hd : decode cc pc = .ok (.putfield idx, 3)) (hk : kc k = 5) (hm : k ∈ ks E) (hq : pc + 3 = q) (kk : AW p l e R s m args below meth c cells slots Q A E ρ q lv st (up2 σ k 9 x)) : AW p l e R s m args below meth c cells slots Q A E ρ pc lv (.int x :: .ref (ad E k) :: st) σ := fun H locs ls hP hS hl => by
  subst hq
  obtain ⟨i, hi⟩ := ks_at hm
  have he := wl_at ρ σ hi
  unfold en at he
  rw [hk] at he
  refine va_put (T := TX5) (N := 11) (ci := 5) cx.1.1 cx.1.2.1 cx.1.2.2.2.2 hin tyX5 tyX5_ok nmX5 cx.1.2.2.2.1 cx.2.1.1 hP (wl_D cx.2.2.1 cx.2.2.2 ρ σ) hS i he rfl 9 (by decide) (cx.1.2.2.2.2 _ hf) (fun _ h => h) rfl (ty := .int) (by decide +kernel) rfl rfl (Nat.le_of_ble_eq_true rfl) hd (fun H1 locs1 hP1 _ hS1 => ?_)
  have hx : en E ρ (up2 σ k 9 x) k = .inr (5, [.int (b01 (σ k 0)), .int (b01 (σ k 1)), .int (σ k 2), .int (σ k 3), rv E (ρ k 4), rv E (ρ k 5), .int (σ k 6), .int (σ k 7), .int (b01 (σ k 8)), .int x, .int (σ k 10)]) := by unfold en; rw [hk, up2_row]; simp [ec, upd]
  have hP2 : va_P E.1 vwCl ((wl E ρ σ).set i (ad E k, .inr (5, [.int (b01 (σ k 0)), .int (b01 (σ k 1)), .int (σ k 2), .int (σ k 3), rv E (ρ k 4), rv E (ρ k 5), .int (σ k 6), .int (σ k 7), .int (b01 (σ k 8)), .int x, .int (σ k 10)]))) H1 := hP1
  rw [← hx, wl_set ρ cx.2.2.1.1 hi (fun k' h' => en_nk E ρ σ k 9 x h')] at hP2
  exact kk H1 locs1 ls hP2 hS1 hl
theorem gX5_10 (cx : Cx p s m args c E A own cc nL Ts) {k : Ky} {idx : Nat} (hin : ∀ w ∈ u_ws RX5 TX5 11, w ∈ Ts) (hf : Cond.fieldLink own idx (TX5 10).1 (TX5 10).2.1 (TX5 10).2.2.1 ∈ Ts) (hd : decode cc pc = .ok (.getfield idx, 3)) (hk : kc k = 5) (hm : k ∈ ks E) (hq : pc + 3 = q) (kk : AW p l e R s m args below meth c cells slots Q A E ρ q lv (.int (σ k 10) :: st) σ) : AW p l e R s m args below meth c cells slots Q A E ρ pc lv (.ref (ad E k) :: st) σ := fun H locs ls hP hS hl => by
  subst hq
  obtain ⟨i, hi⟩ := ks_at hm
  have he := wl_at ρ σ hi
  unfold en at he
  rw [hk] at he
  exact va_get (T := TX5) (N := 11) (ci := 5) cx.1.1 cx.1.2.1 cx.1.2.2.2.2 hin cx.1.2.2.2.1 cx.2.1.1 hP i he rfl 10 (by decide) (cx.1.2.2.2.2 _ hf) (fun _ h => h) rfl hd (kk H locs ls hP hS hl)
theorem pX5_10 (cx : Cx p s m args c E A own cc nL Ts) {k : Ky} {idx : Nat} {x : Int32} (hin : ∀ w ∈ u_ws RX5 TX5 11, w ∈ Ts) (hf : Cond.fieldLink own idx (TX5 10).1 (TX5 10).2.1 (TX5 10).2.2.1 ∈ Ts) (hd : decode cc pc = .ok (.putfield idx, 3)) (hk : kc k = 5) (hm : k ∈ ks E) (hq : pc + 3 = q) (kk : AW p l e R s m args below meth c cells slots Q A E ρ q lv st (up2 σ k 10 x)) : AW p l e R s m args below meth c cells slots Q A E ρ pc lv (.int x :: .ref (ad E k) :: st) σ := fun H locs ls hP hS hl => by
  subst hq
  obtain ⟨i, hi⟩ := ks_at hm
  have he := wl_at ρ σ hi
  unfold en at he
  rw [hk] at he
  refine va_put (T := TX5) (N := 11) (ci := 5) cx.1.1 cx.1.2.1 cx.1.2.2.2.2 hin tyX5 tyX5_ok nmX5 cx.1.2.2.2.1 cx.2.1.1 hP (wl_D cx.2.2.1 cx.2.2.2 ρ σ) hS i he rfl 10 (by decide) (cx.1.2.2.2.2 _ hf) (fun _ h => h) rfl (ty := .int) (by decide +kernel) rfl rfl (Nat.le_of_ble_eq_true rfl) hd (fun H1 locs1 hP1 _ hS1 => ?_)
  have hx : en E ρ (up2 σ k 10 x) k = .inr (5, [.int (b01 (σ k 0)), .int (b01 (σ k 1)), .int (σ k 2), .int (σ k 3), rv E (ρ k 4), rv E (ρ k 5), .int (σ k 6), .int (σ k 7), .int (b01 (σ k 8)), .int (σ k 9), .int x]) := by unfold en; rw [hk, up2_row]; simp [ec, upd]
  have hP2 : va_P E.1 vwCl ((wl E ρ σ).set i (ad E k, .inr (5, [.int (b01 (σ k 0)), .int (b01 (σ k 1)), .int (σ k 2), .int (σ k 3), rv E (ρ k 4), rv E (ρ k 5), .int (σ k 6), .int (σ k 7), .int (b01 (σ k 8)), .int (σ k 9), .int x]))) H1 := hP1
  rw [← hx, wl_set ρ cx.2.2.1.1 hi (fun k' h' => en_nk E ρ σ k 10 x h')] at hP2
  exact kk H1 locs1 ls hP2 hS1 hl
theorem gX6_0 (cx : Cx p s m args c E A own cc nL Ts) {k t : Ky} {idx : Nat} (hin : ∀ w ∈ u_ws RX6 TX6 2, w ∈ Ts) (hf : Cond.fieldLink own idx (TX6 0).1 (TX6 0).2.1 (TX6 0).2.2.1 ∈ Ts) (hd : decode cc pc = .ok (.getfield idx, 3)) (hk : kc k = 6) (hm : k ∈ ks E) (ht : ρ k 0 = some t) (hq : pc + 3 = q) (kk : AW p l e R s m args below meth c cells slots Q A E ρ q lv (.ref (ad E t) :: st) σ) : AW p l e R s m args below meth c cells slots Q A E ρ pc lv (.ref (ad E k) :: st) σ := fun H locs ls hP hS hl => by
  subst hq
  obtain ⟨i, hi⟩ := ks_at hm
  have he := wl_at ρ σ hi
  unfold en at he
  rw [hk] at he
  have h0 := kk H locs ls hP hS hl
  have hv : rv E (ρ k 0) = .ref (ad E t) := by rw [ht]; rfl
  rw [← hv] at h0
  exact va_get (T := TX6) (N := 2) (ci := 6) cx.1.1 cx.1.2.1 cx.1.2.2.2.2 hin cx.1.2.2.2.1 cx.2.1.1 hP i he rfl 0 (by decide) (cx.1.2.2.2.2 _ hf) (fun _ h => h) rfl hd h0
theorem gX6_1 (cx : Cx p s m args c E A own cc nL Ts) {k : Ky} {idx : Nat} (hin : ∀ w ∈ u_ws RX6 TX6 2, w ∈ Ts) (hf : Cond.fieldLink own idx (TX6 1).1 (TX6 1).2.1 (TX6 1).2.2.1 ∈ Ts) (hd : decode cc pc = .ok (.getfield idx, 3)) (hk : kc k = 6) (hm : k ∈ ks E) (hq : pc + 3 = q) (kk : AW p l e R s m args below meth c cells slots Q A E ρ q lv (.int (σ k 1) :: st) σ) : AW p l e R s m args below meth c cells slots Q A E ρ pc lv (.ref (ad E k) :: st) σ := fun H locs ls hP hS hl => by
  subst hq
  obtain ⟨i, hi⟩ := ks_at hm
  have he := wl_at ρ σ hi
  unfold en at he
  rw [hk] at he
  exact va_get (T := TX6) (N := 2) (ci := 6) cx.1.1 cx.1.2.1 cx.1.2.2.2.2 hin cx.1.2.2.2.1 cx.2.1.1 hP i he rfl 1 (by decide) (cx.1.2.2.2.2 _ hf) (fun _ h => h) rfl hd (kk H locs ls hP hS hl)
theorem pX6_1 (cx : Cx p s m args c E A own cc nL Ts) {k : Ky} {idx : Nat} {x : Int32} (hin : ∀ w ∈ u_ws RX6 TX6 2, w ∈ Ts) (hf : Cond.fieldLink own idx (TX6 1).1 (TX6 1).2.1 (TX6 1).2.2.1 ∈ Ts) (hd : decode cc pc = .ok (.putfield idx, 3)) (hk : kc k = 6) (hm : k ∈ ks E) (hq : pc + 3 = q) (kk : AW p l e R s m args below meth c cells slots Q A E ρ q lv st (up2 σ k 1 x)) : AW p l e R s m args below meth c cells slots Q A E ρ pc lv (.int x :: .ref (ad E k) :: st) σ := fun H locs ls hP hS hl => by
  subst hq
  obtain ⟨i, hi⟩ := ks_at hm
  have he := wl_at ρ σ hi
  unfold en at he
  rw [hk] at he
  refine va_put (T := TX6) (N := 2) (ci := 6) cx.1.1 cx.1.2.1 cx.1.2.2.2.2 hin tyX6 tyX6_ok nmX6 cx.1.2.2.2.1 cx.2.1.1 hP (wl_D cx.2.2.1 cx.2.2.2 ρ σ) hS i he rfl 1 (by decide) (cx.1.2.2.2.2 _ hf) (fun _ h => h) rfl (ty := .int) (by decide +kernel) rfl rfl (Nat.le_of_ble_eq_true rfl) hd (fun H1 locs1 hP1 _ hS1 => ?_)
  have hx : en E ρ (up2 σ k 1 x) k = .inr (6, [rv E (ρ k 0), .int x]) := by unfold en; rw [hk, up2_row]; simp [ec, upd]
  have hP2 : va_P E.1 vwCl ((wl E ρ σ).set i (ad E k, .inr (6, [rv E (ρ k 0), .int x]))) H1 := hP1
  rw [← hx, wl_set ρ cx.2.2.1.1 hi (fun k' h' => en_nk E ρ σ k 1 x h')] at hP2
  exact kk H1 locs1 ls hP2 hS1 hl
theorem gX7_0 (cx : Cx p s m args c E A own cc nL Ts) {k t : Ky} {idx : Nat} (hin : ∀ w ∈ u_ws RX7 TX7 6, w ∈ Ts) (hf : Cond.fieldLink own idx (TX7 0).1 (TX7 0).2.1 (TX7 0).2.2.1 ∈ Ts) (hd : decode cc pc = .ok (.getfield idx, 3)) (hk : kc k = 7) (hm : k ∈ ks E) (ht : ρ k 0 = some t) (hq : pc + 3 = q) (kk : AW p l e R s m args below meth c cells slots Q A E ρ q lv (.ref (ad E t) :: st) σ) : AW p l e R s m args below meth c cells slots Q A E ρ pc lv (.ref (ad E k) :: st) σ := fun H locs ls hP hS hl => by
  subst hq
  obtain ⟨i, hi⟩ := ks_at hm
  have he := wl_at ρ σ hi
  unfold en at he
  rw [hk] at he
  have h0 := kk H locs ls hP hS hl
  have hv : rv E (ρ k 0) = .ref (ad E t) := by rw [ht]; rfl
  rw [← hv] at h0
  exact va_get (T := TX7) (N := 6) (ci := 7) cx.1.1 cx.1.2.1 cx.1.2.2.2.2 hin cx.1.2.2.2.1 cx.2.1.1 hP i he rfl 0 (by decide) (cx.1.2.2.2.2 _ hf) (fun _ h => h) rfl hd h0
theorem gX7_1 (cx : Cx p s m args c E A own cc nL Ts) {k t : Ky} {idx : Nat} (hin : ∀ w ∈ u_ws RX7 TX7 6, w ∈ Ts) (hf : Cond.fieldLink own idx (TX7 1).1 (TX7 1).2.1 (TX7 1).2.2.1 ∈ Ts) (hd : decode cc pc = .ok (.getfield idx, 3)) (hk : kc k = 7) (hm : k ∈ ks E) (ht : ρ k 1 = some t) (hq : pc + 3 = q) (kk : AW p l e R s m args below meth c cells slots Q A E ρ q lv (.ref (ad E t) :: st) σ) : AW p l e R s m args below meth c cells slots Q A E ρ pc lv (.ref (ad E k) :: st) σ := fun H locs ls hP hS hl => by
  subst hq
  obtain ⟨i, hi⟩ := ks_at hm
  have he := wl_at ρ σ hi
  unfold en at he
  rw [hk] at he
  have h0 := kk H locs ls hP hS hl
  have hv : rv E (ρ k 1) = .ref (ad E t) := by rw [ht]; rfl
  rw [← hv] at h0
  exact va_get (T := TX7) (N := 6) (ci := 7) cx.1.1 cx.1.2.1 cx.1.2.2.2.2 hin cx.1.2.2.2.1 cx.2.1.1 hP i he rfl 1 (by decide) (cx.1.2.2.2.2 _ hf) (fun _ h => h) rfl hd h0
theorem gX7_2 (cx : Cx p s m args c E A own cc nL Ts) {k t : Ky} {idx : Nat} (hin : ∀ w ∈ u_ws RX7 TX7 6, w ∈ Ts) (hf : Cond.fieldLink own idx (TX7 2).1 (TX7 2).2.1 (TX7 2).2.2.1 ∈ Ts) (hd : decode cc pc = .ok (.getfield idx, 3)) (hk : kc k = 7) (hm : k ∈ ks E) (ht : ρ k 2 = some t) (hq : pc + 3 = q) (kk : AW p l e R s m args below meth c cells slots Q A E ρ q lv (.ref (ad E t) :: st) σ) : AW p l e R s m args below meth c cells slots Q A E ρ pc lv (.ref (ad E k) :: st) σ := fun H locs ls hP hS hl => by
  subst hq
  obtain ⟨i, hi⟩ := ks_at hm
  have he := wl_at ρ σ hi
  unfold en at he
  rw [hk] at he
  have h0 := kk H locs ls hP hS hl
  have hv : rv E (ρ k 2) = .ref (ad E t) := by rw [ht]; rfl
  rw [← hv] at h0
  exact va_get (T := TX7) (N := 6) (ci := 7) cx.1.1 cx.1.2.1 cx.1.2.2.2.2 hin cx.1.2.2.2.1 cx.2.1.1 hP i he rfl 2 (by decide) (cx.1.2.2.2.2 _ hf) (fun _ h => h) rfl hd h0
theorem gX7_3 (cx : Cx p s m args c E A own cc nL Ts) {k t : Ky} {idx : Nat} (hin : ∀ w ∈ u_ws RX7 TX7 6, w ∈ Ts) (hf : Cond.fieldLink own idx (TX7 3).1 (TX7 3).2.1 (TX7 3).2.2.1 ∈ Ts) (hd : decode cc pc = .ok (.getfield idx, 3)) (hk : kc k = 7) (hm : k ∈ ks E) (ht : ρ k 3 = some t) (hq : pc + 3 = q) (kk : AW p l e R s m args below meth c cells slots Q A E ρ q lv (.ref (ad E t) :: st) σ) : AW p l e R s m args below meth c cells slots Q A E ρ pc lv (.ref (ad E k) :: st) σ := fun H locs ls hP hS hl => by
  subst hq
  obtain ⟨i, hi⟩ := ks_at hm
  have he := wl_at ρ σ hi
  unfold en at he
  rw [hk] at he
  have h0 := kk H locs ls hP hS hl
  have hv : rv E (ρ k 3) = .ref (ad E t) := by rw [ht]; rfl
  rw [← hv] at h0
  exact va_get (T := TX7) (N := 6) (ci := 7) cx.1.1 cx.1.2.1 cx.1.2.2.2.2 hin cx.1.2.2.2.1 cx.2.1.1 hP i he rfl 3 (by decide) (cx.1.2.2.2.2 _ hf) (fun _ h => h) rfl hd h0
theorem gX7_4 (cx : Cx p s m args c E A own cc nL Ts) {k t : Ky} {idx : Nat} (hin : ∀ w ∈ u_ws RX7 TX7 6, w ∈ Ts) (hf : Cond.fieldLink own idx (TX7 4).1 (TX7 4).2.1 (TX7 4).2.2.1 ∈ Ts) (hd : decode cc pc = .ok (.getfield idx, 3)) (hk : kc k = 7) (hm : k ∈ ks E) (ht : ρ k 4 = some t) (hq : pc + 3 = q) (kk : AW p l e R s m args below meth c cells slots Q A E ρ q lv (.ref (ad E t) :: st) σ) : AW p l e R s m args below meth c cells slots Q A E ρ pc lv (.ref (ad E k) :: st) σ := fun H locs ls hP hS hl => by
  subst hq
  obtain ⟨i, hi⟩ := ks_at hm
  have he := wl_at ρ σ hi
  unfold en at he
  rw [hk] at he
  have h0 := kk H locs ls hP hS hl
  have hv : rv E (ρ k 4) = .ref (ad E t) := by rw [ht]; rfl
  rw [← hv] at h0
  exact va_get (T := TX7) (N := 6) (ci := 7) cx.1.1 cx.1.2.1 cx.1.2.2.2.2 hin cx.1.2.2.2.1 cx.2.1.1 hP i he rfl 4 (by decide) (cx.1.2.2.2.2 _ hf) (fun _ h => h) rfl hd h0
theorem gX7_5 (cx : Cx p s m args c E A own cc nL Ts) {k t : Ky} {idx : Nat} (hin : ∀ w ∈ u_ws RX7 TX7 6, w ∈ Ts) (hf : Cond.fieldLink own idx (TX7 5).1 (TX7 5).2.1 (TX7 5).2.2.1 ∈ Ts) (hd : decode cc pc = .ok (.getfield idx, 3)) (hk : kc k = 7) (hm : k ∈ ks E) (ht : ρ k 5 = some t) (hq : pc + 3 = q) (kk : AW p l e R s m args below meth c cells slots Q A E ρ q lv (.ref (ad E t) :: st) σ) : AW p l e R s m args below meth c cells slots Q A E ρ pc lv (.ref (ad E k) :: st) σ := fun H locs ls hP hS hl => by
  subst hq
  obtain ⟨i, hi⟩ := ks_at hm
  have he := wl_at ρ σ hi
  unfold en at he
  rw [hk] at he
  have h0 := kk H locs ls hP hS hl
  have hv : rv E (ρ k 5) = .ref (ad E t) := by rw [ht]; rfl
  rw [← hv] at h0
  exact va_get (T := TX7) (N := 6) (ci := 7) cx.1.1 cx.1.2.1 cx.1.2.2.2.2 hin cx.1.2.2.2.1 cx.2.1.1 hP i he rfl 5 (by decide) (cx.1.2.2.2.2 _ hf) (fun _ h => h) rfl hd h0
theorem gX8_0 (cx : Cx p s m args c E A own cc nL Ts) {k : Ky} {idx : Nat} (hin : ∀ w ∈ u_ws RX8 TX8 18, w ∈ Ts) (hf : Cond.fieldLink own idx (TX8 0).1 (TX8 0).2.1 (TX8 0).2.2.1 ∈ Ts) (hd : decode cc pc = .ok (.getfield idx, 3)) (hk : kc k = 8) (hm : k ∈ ks E) (hq : pc + 3 = q) (kk : AW p l e R s m args below meth c cells slots Q A E ρ q lv (.int (σ k 0) :: st) σ) : AW p l e R s m args below meth c cells slots Q A E ρ pc lv (.ref (ad E k) :: st) σ := fun H locs ls hP hS hl => by
  subst hq
  obtain ⟨i, hi⟩ := ks_at hm
  have he := wl_at ρ σ hi
  unfold en at he
  rw [hk] at he
  exact va_get (T := TX8) (N := 18) (ci := 8) cx.1.1 cx.1.2.1 cx.1.2.2.2.2 hin cx.1.2.2.2.1 cx.2.1.1 hP i he rfl 0 (by decide) (cx.1.2.2.2.2 _ hf) (fun _ h => h) rfl hd (kk H locs ls hP hS hl)
theorem pX8_0 (cx : Cx p s m args c E A own cc nL Ts) {k : Ky} {idx : Nat} {x : Int32} (hin : ∀ w ∈ u_ws RX8 TX8 18, w ∈ Ts) (hf : Cond.fieldLink own idx (TX8 0).1 (TX8 0).2.1 (TX8 0).2.2.1 ∈ Ts) (hd : decode cc pc = .ok (.putfield idx, 3)) (hk : kc k = 8) (hm : k ∈ ks E) (hq : pc + 3 = q) (kk : AW p l e R s m args below meth c cells slots Q A E ρ q lv st (up2 σ k 0 x)) : AW p l e R s m args below meth c cells slots Q A E ρ pc lv (.int x :: .ref (ad E k) :: st) σ := fun H locs ls hP hS hl => by
  subst hq
  obtain ⟨i, hi⟩ := ks_at hm
  have he := wl_at ρ σ hi
  unfold en at he
  rw [hk] at he
  refine va_put (T := TX8) (N := 18) (ci := 8) cx.1.1 cx.1.2.1 cx.1.2.2.2.2 hin tyX8 tyX8_ok nmX8 cx.1.2.2.2.1 cx.2.1.1 hP (wl_D cx.2.2.1 cx.2.2.2 ρ σ) hS i he rfl 0 (by decide) (cx.1.2.2.2.2 _ hf) (fun _ h => h) rfl (ty := .int) (by decide +kernel) rfl rfl (Nat.le_of_ble_eq_true rfl) hd (fun H1 locs1 hP1 _ hS1 => ?_)
  have hx : en E ρ (up2 σ k 0 x) k = .inr (8, [.int x, .int (σ k 1), .int (σ k 2), rv E (ρ k 3), rv E (ρ k 4), rv E (ρ k 5), .int (σ k 6), rv E (ρ k 7), rv E (ρ k 8), .int (σ k 9), .int (σ k 10), rv E (ρ k 11), rv E (ρ k 12), rv E (ρ k 13), rv E (ρ k 14), .int (σ k 15), rv E (ρ k 16), rv E (ρ k 17)]) := by unfold en; rw [hk, up2_row]; simp [ec, upd]
  have hP2 : va_P E.1 vwCl ((wl E ρ σ).set i (ad E k, .inr (8, [.int x, .int (σ k 1), .int (σ k 2), rv E (ρ k 3), rv E (ρ k 4), rv E (ρ k 5), .int (σ k 6), rv E (ρ k 7), rv E (ρ k 8), .int (σ k 9), .int (σ k 10), rv E (ρ k 11), rv E (ρ k 12), rv E (ρ k 13), rv E (ρ k 14), .int (σ k 15), rv E (ρ k 16), rv E (ρ k 17)]))) H1 := hP1
  rw [← hx, wl_set ρ cx.2.2.1.1 hi (fun k' h' => en_nk E ρ σ k 0 x h')] at hP2
  exact kk H1 locs1 ls hP2 hS1 hl
theorem gX8_1 (cx : Cx p s m args c E A own cc nL Ts) {k : Ky} {idx : Nat} (hin : ∀ w ∈ u_ws RX8 TX8 18, w ∈ Ts) (hf : Cond.fieldLink own idx (TX8 1).1 (TX8 1).2.1 (TX8 1).2.2.1 ∈ Ts) (hd : decode cc pc = .ok (.getfield idx, 3)) (hk : kc k = 8) (hm : k ∈ ks E) (hq : pc + 3 = q) (kk : AW p l e R s m args below meth c cells slots Q A E ρ q lv (.int (σ k 1) :: st) σ) : AW p l e R s m args below meth c cells slots Q A E ρ pc lv (.ref (ad E k) :: st) σ := fun H locs ls hP hS hl => by
  subst hq
  obtain ⟨i, hi⟩ := ks_at hm
  have he := wl_at ρ σ hi
  unfold en at he
  rw [hk] at he
  exact va_get (T := TX8) (N := 18) (ci := 8) cx.1.1 cx.1.2.1 cx.1.2.2.2.2 hin cx.1.2.2.2.1 cx.2.1.1 hP i he rfl 1 (by decide) (cx.1.2.2.2.2 _ hf) (fun _ h => h) rfl hd (kk H locs ls hP hS hl)
theorem pX8_1 (cx : Cx p s m args c E A own cc nL Ts) {k : Ky} {idx : Nat} {x : Int32} (hin : ∀ w ∈ u_ws RX8 TX8 18, w ∈ Ts) (hf : Cond.fieldLink own idx (TX8 1).1 (TX8 1).2.1 (TX8 1).2.2.1 ∈ Ts) (hd : decode cc pc = .ok (.putfield idx, 3)) (hk : kc k = 8) (hm : k ∈ ks E) (hq : pc + 3 = q) (kk : AW p l e R s m args below meth c cells slots Q A E ρ q lv st (up2 σ k 1 x)) : AW p l e R s m args below meth c cells slots Q A E ρ pc lv (.int x :: .ref (ad E k) :: st) σ := fun H locs ls hP hS hl => by
  subst hq
  obtain ⟨i, hi⟩ := ks_at hm
  have he := wl_at ρ σ hi
  unfold en at he
  rw [hk] at he
  refine va_put (T := TX8) (N := 18) (ci := 8) cx.1.1 cx.1.2.1 cx.1.2.2.2.2 hin tyX8 tyX8_ok nmX8 cx.1.2.2.2.1 cx.2.1.1 hP (wl_D cx.2.2.1 cx.2.2.2 ρ σ) hS i he rfl 1 (by decide) (cx.1.2.2.2.2 _ hf) (fun _ h => h) rfl (ty := .int) (by decide +kernel) rfl rfl (Nat.le_of_ble_eq_true rfl) hd (fun H1 locs1 hP1 _ hS1 => ?_)
  have hx : en E ρ (up2 σ k 1 x) k = .inr (8, [.int (σ k 0), .int x, .int (σ k 2), rv E (ρ k 3), rv E (ρ k 4), rv E (ρ k 5), .int (σ k 6), rv E (ρ k 7), rv E (ρ k 8), .int (σ k 9), .int (σ k 10), rv E (ρ k 11), rv E (ρ k 12), rv E (ρ k 13), rv E (ρ k 14), .int (σ k 15), rv E (ρ k 16), rv E (ρ k 17)]) := by unfold en; rw [hk, up2_row]; simp [ec, upd]
  have hP2 : va_P E.1 vwCl ((wl E ρ σ).set i (ad E k, .inr (8, [.int (σ k 0), .int x, .int (σ k 2), rv E (ρ k 3), rv E (ρ k 4), rv E (ρ k 5), .int (σ k 6), rv E (ρ k 7), rv E (ρ k 8), .int (σ k 9), .int (σ k 10), rv E (ρ k 11), rv E (ρ k 12), rv E (ρ k 13), rv E (ρ k 14), .int (σ k 15), rv E (ρ k 16), rv E (ρ k 17)]))) H1 := hP1
  rw [← hx, wl_set ρ cx.2.2.1.1 hi (fun k' h' => en_nk E ρ σ k 1 x h')] at hP2
  exact kk H1 locs1 ls hP2 hS1 hl
theorem gX8_2 (cx : Cx p s m args c E A own cc nL Ts) {k : Ky} {idx : Nat} (hin : ∀ w ∈ u_ws RX8 TX8 18, w ∈ Ts) (hf : Cond.fieldLink own idx (TX8 2).1 (TX8 2).2.1 (TX8 2).2.2.1 ∈ Ts) (hd : decode cc pc = .ok (.getfield idx, 3)) (hk : kc k = 8) (hm : k ∈ ks E) (hq : pc + 3 = q) (kk : AW p l e R s m args below meth c cells slots Q A E ρ q lv (.int (σ k 2) :: st) σ) : AW p l e R s m args below meth c cells slots Q A E ρ pc lv (.ref (ad E k) :: st) σ := fun H locs ls hP hS hl => by
  subst hq
  obtain ⟨i, hi⟩ := ks_at hm
  have he := wl_at ρ σ hi
  unfold en at he
  rw [hk] at he
  exact va_get (T := TX8) (N := 18) (ci := 8) cx.1.1 cx.1.2.1 cx.1.2.2.2.2 hin cx.1.2.2.2.1 cx.2.1.1 hP i he rfl 2 (by decide) (cx.1.2.2.2.2 _ hf) (fun _ h => h) rfl hd (kk H locs ls hP hS hl)
theorem pX8_2 (cx : Cx p s m args c E A own cc nL Ts) {k : Ky} {idx : Nat} {x : Int32} (hin : ∀ w ∈ u_ws RX8 TX8 18, w ∈ Ts) (hf : Cond.fieldLink own idx (TX8 2).1 (TX8 2).2.1 (TX8 2).2.2.1 ∈ Ts) (hd : decode cc pc = .ok (.putfield idx, 3)) (hk : kc k = 8) (hm : k ∈ ks E) (hq : pc + 3 = q) (kk : AW p l e R s m args below meth c cells slots Q A E ρ q lv st (up2 σ k 2 x)) : AW p l e R s m args below meth c cells slots Q A E ρ pc lv (.int x :: .ref (ad E k) :: st) σ := fun H locs ls hP hS hl => by
  subst hq
  obtain ⟨i, hi⟩ := ks_at hm
  have he := wl_at ρ σ hi
  unfold en at he
  rw [hk] at he
  refine va_put (T := TX8) (N := 18) (ci := 8) cx.1.1 cx.1.2.1 cx.1.2.2.2.2 hin tyX8 tyX8_ok nmX8 cx.1.2.2.2.1 cx.2.1.1 hP (wl_D cx.2.2.1 cx.2.2.2 ρ σ) hS i he rfl 2 (by decide) (cx.1.2.2.2.2 _ hf) (fun _ h => h) rfl (ty := .int) (by decide +kernel) rfl rfl (Nat.le_of_ble_eq_true rfl) hd (fun H1 locs1 hP1 _ hS1 => ?_)
  have hx : en E ρ (up2 σ k 2 x) k = .inr (8, [.int (σ k 0), .int (σ k 1), .int x, rv E (ρ k 3), rv E (ρ k 4), rv E (ρ k 5), .int (σ k 6), rv E (ρ k 7), rv E (ρ k 8), .int (σ k 9), .int (σ k 10), rv E (ρ k 11), rv E (ρ k 12), rv E (ρ k 13), rv E (ρ k 14), .int (σ k 15), rv E (ρ k 16), rv E (ρ k 17)]) := by unfold en; rw [hk, up2_row]; simp [ec, upd]
  have hP2 : va_P E.1 vwCl ((wl E ρ σ).set i (ad E k, .inr (8, [.int (σ k 0), .int (σ k 1), .int x, rv E (ρ k 3), rv E (ρ k 4), rv E (ρ k 5), .int (σ k 6), rv E (ρ k 7), rv E (ρ k 8), .int (σ k 9), .int (σ k 10), rv E (ρ k 11), rv E (ρ k 12), rv E (ρ k 13), rv E (ρ k 14), .int (σ k 15), rv E (ρ k 16), rv E (ρ k 17)]))) H1 := hP1
  rw [← hx, wl_set ρ cx.2.2.1.1 hi (fun k' h' => en_nk E ρ σ k 2 x h')] at hP2
  exact kk H1 locs1 ls hP2 hS1 hl
theorem gX8_3 (cx : Cx p s m args c E A own cc nL Ts) {k t : Ky} {idx : Nat} (hin : ∀ w ∈ u_ws RX8 TX8 18, w ∈ Ts) (hf : Cond.fieldLink own idx (TX8 3).1 (TX8 3).2.1 (TX8 3).2.2.1 ∈ Ts) (hd : decode cc pc = .ok (.getfield idx, 3)) (hk : kc k = 8) (hm : k ∈ ks E) (ht : ρ k 3 = some t) (hq : pc + 3 = q) (kk : AW p l e R s m args below meth c cells slots Q A E ρ q lv (.ref (ad E t) :: st) σ) : AW p l e R s m args below meth c cells slots Q A E ρ pc lv (.ref (ad E k) :: st) σ := fun H locs ls hP hS hl => by
  subst hq
  obtain ⟨i, hi⟩ := ks_at hm
  have he := wl_at ρ σ hi
  unfold en at he
  rw [hk] at he
  have h0 := kk H locs ls hP hS hl
  have hv : rv E (ρ k 3) = .ref (ad E t) := by rw [ht]; rfl
  rw [← hv] at h0
  exact va_get (T := TX8) (N := 18) (ci := 8) cx.1.1 cx.1.2.1 cx.1.2.2.2.2 hin cx.1.2.2.2.1 cx.2.1.1 hP i he rfl 3 (by decide) (cx.1.2.2.2.2 _ hf) (fun _ h => h) rfl hd h0
theorem gX8_4 (cx : Cx p s m args c E A own cc nL Ts) {k t : Ky} {idx : Nat} (hin : ∀ w ∈ u_ws RX8 TX8 18, w ∈ Ts) (hf : Cond.fieldLink own idx (TX8 4).1 (TX8 4).2.1 (TX8 4).2.2.1 ∈ Ts) (hd : decode cc pc = .ok (.getfield idx, 3)) (hk : kc k = 8) (hm : k ∈ ks E) (ht : ρ k 4 = some t) (hq : pc + 3 = q) (kk : AW p l e R s m args below meth c cells slots Q A E ρ q lv (.ref (ad E t) :: st) σ) : AW p l e R s m args below meth c cells slots Q A E ρ pc lv (.ref (ad E k) :: st) σ := fun H locs ls hP hS hl => by
  subst hq
  obtain ⟨i, hi⟩ := ks_at hm
  have he := wl_at ρ σ hi
  unfold en at he
  rw [hk] at he
  have h0 := kk H locs ls hP hS hl
  have hv : rv E (ρ k 4) = .ref (ad E t) := by rw [ht]; rfl
  rw [← hv] at h0
  exact va_get (T := TX8) (N := 18) (ci := 8) cx.1.1 cx.1.2.1 cx.1.2.2.2.2 hin cx.1.2.2.2.1 cx.2.1.1 hP i he rfl 4 (by decide) (cx.1.2.2.2.2 _ hf) (fun _ h => h) rfl hd h0
theorem gX8_5 (cx : Cx p s m args c E A own cc nL Ts) {k t : Ky} {idx : Nat} (hin : ∀ w ∈ u_ws RX8 TX8 18, w ∈ Ts) (hf : Cond.fieldLink own idx (TX8 5).1 (TX8 5).2.1 (TX8 5).2.2.1 ∈ Ts) (hd : decode cc pc = .ok (.getfield idx, 3)) (hk : kc k = 8) (hm : k ∈ ks E) (ht : ρ k 5 = some t) (hq : pc + 3 = q) (kk : AW p l e R s m args below meth c cells slots Q A E ρ q lv (.ref (ad E t) :: st) σ) : AW p l e R s m args below meth c cells slots Q A E ρ pc lv (.ref (ad E k) :: st) σ := fun H locs ls hP hS hl => by
  subst hq
  obtain ⟨i, hi⟩ := ks_at hm
  have he := wl_at ρ σ hi
  unfold en at he
  rw [hk] at he
  have h0 := kk H locs ls hP hS hl
  have hv : rv E (ρ k 5) = .ref (ad E t) := by rw [ht]; rfl
  rw [← hv] at h0
  exact va_get (T := TX8) (N := 18) (ci := 8) cx.1.1 cx.1.2.1 cx.1.2.2.2.2 hin cx.1.2.2.2.1 cx.2.1.1 hP i he rfl 5 (by decide) (cx.1.2.2.2.2 _ hf) (fun _ h => h) rfl hd h0
theorem gX8_6 (cx : Cx p s m args c E A own cc nL Ts) {k : Ky} {idx : Nat} (hin : ∀ w ∈ u_ws RX8 TX8 18, w ∈ Ts) (hf : Cond.fieldLink own idx (TX8 6).1 (TX8 6).2.1 (TX8 6).2.2.1 ∈ Ts) (hd : decode cc pc = .ok (.getfield idx, 3)) (hk : kc k = 8) (hm : k ∈ ks E) (hq : pc + 3 = q) (kk : AW p l e R s m args below meth c cells slots Q A E ρ q lv (.int (σ k 6) :: st) σ) : AW p l e R s m args below meth c cells slots Q A E ρ pc lv (.ref (ad E k) :: st) σ := fun H locs ls hP hS hl => by
  subst hq
  obtain ⟨i, hi⟩ := ks_at hm
  have he := wl_at ρ σ hi
  unfold en at he
  rw [hk] at he
  exact va_get (T := TX8) (N := 18) (ci := 8) cx.1.1 cx.1.2.1 cx.1.2.2.2.2 hin cx.1.2.2.2.1 cx.2.1.1 hP i he rfl 6 (by decide) (cx.1.2.2.2.2 _ hf) (fun _ h => h) rfl hd (kk H locs ls hP hS hl)
theorem pX8_6 (cx : Cx p s m args c E A own cc nL Ts) {k : Ky} {idx : Nat} {x : Int32} (hin : ∀ w ∈ u_ws RX8 TX8 18, w ∈ Ts) (hf : Cond.fieldLink own idx (TX8 6).1 (TX8 6).2.1 (TX8 6).2.2.1 ∈ Ts) (hd : decode cc pc = .ok (.putfield idx, 3)) (hk : kc k = 8) (hm : k ∈ ks E) (hq : pc + 3 = q) (kk : AW p l e R s m args below meth c cells slots Q A E ρ q lv st (up2 σ k 6 x)) : AW p l e R s m args below meth c cells slots Q A E ρ pc lv (.int x :: .ref (ad E k) :: st) σ := fun H locs ls hP hS hl => by
  subst hq
  obtain ⟨i, hi⟩ := ks_at hm
  have he := wl_at ρ σ hi
  unfold en at he
  rw [hk] at he
  refine va_put (T := TX8) (N := 18) (ci := 8) cx.1.1 cx.1.2.1 cx.1.2.2.2.2 hin tyX8 tyX8_ok nmX8 cx.1.2.2.2.1 cx.2.1.1 hP (wl_D cx.2.2.1 cx.2.2.2 ρ σ) hS i he rfl 6 (by decide) (cx.1.2.2.2.2 _ hf) (fun _ h => h) rfl (ty := .int) (by decide +kernel) rfl rfl (Nat.le_of_ble_eq_true rfl) hd (fun H1 locs1 hP1 _ hS1 => ?_)
  have hx : en E ρ (up2 σ k 6 x) k = .inr (8, [.int (σ k 0), .int (σ k 1), .int (σ k 2), rv E (ρ k 3), rv E (ρ k 4), rv E (ρ k 5), .int x, rv E (ρ k 7), rv E (ρ k 8), .int (σ k 9), .int (σ k 10), rv E (ρ k 11), rv E (ρ k 12), rv E (ρ k 13), rv E (ρ k 14), .int (σ k 15), rv E (ρ k 16), rv E (ρ k 17)]) := by unfold en; rw [hk, up2_row]; simp [ec, upd]
  have hP2 : va_P E.1 vwCl ((wl E ρ σ).set i (ad E k, .inr (8, [.int (σ k 0), .int (σ k 1), .int (σ k 2), rv E (ρ k 3), rv E (ρ k 4), rv E (ρ k 5), .int x, rv E (ρ k 7), rv E (ρ k 8), .int (σ k 9), .int (σ k 10), rv E (ρ k 11), rv E (ρ k 12), rv E (ρ k 13), rv E (ρ k 14), .int (σ k 15), rv E (ρ k 16), rv E (ρ k 17)]))) H1 := hP1
  rw [← hx, wl_set ρ cx.2.2.1.1 hi (fun k' h' => en_nk E ρ σ k 6 x h')] at hP2
  exact kk H1 locs1 ls hP2 hS1 hl
theorem gX8_7 (cx : Cx p s m args c E A own cc nL Ts) {k t : Ky} {idx : Nat} (hin : ∀ w ∈ u_ws RX8 TX8 18, w ∈ Ts) (hf : Cond.fieldLink own idx (TX8 7).1 (TX8 7).2.1 (TX8 7).2.2.1 ∈ Ts) (hd : decode cc pc = .ok (.getfield idx, 3)) (hk : kc k = 8) (hm : k ∈ ks E) (ht : ρ k 7 = some t) (hq : pc + 3 = q) (kk : AW p l e R s m args below meth c cells slots Q A E ρ q lv (.ref (ad E t) :: st) σ) : AW p l e R s m args below meth c cells slots Q A E ρ pc lv (.ref (ad E k) :: st) σ := fun H locs ls hP hS hl => by
  subst hq
  obtain ⟨i, hi⟩ := ks_at hm
  have he := wl_at ρ σ hi
  unfold en at he
  rw [hk] at he
  have h0 := kk H locs ls hP hS hl
  have hv : rv E (ρ k 7) = .ref (ad E t) := by rw [ht]; rfl
  rw [← hv] at h0
  exact va_get (T := TX8) (N := 18) (ci := 8) cx.1.1 cx.1.2.1 cx.1.2.2.2.2 hin cx.1.2.2.2.1 cx.2.1.1 hP i he rfl 7 (by decide) (cx.1.2.2.2.2 _ hf) (fun _ h => h) rfl hd h0
theorem gX8_8 (cx : Cx p s m args c E A own cc nL Ts) {k t : Ky} {idx : Nat} (hin : ∀ w ∈ u_ws RX8 TX8 18, w ∈ Ts) (hf : Cond.fieldLink own idx (TX8 8).1 (TX8 8).2.1 (TX8 8).2.2.1 ∈ Ts) (hd : decode cc pc = .ok (.getfield idx, 3)) (hk : kc k = 8) (hm : k ∈ ks E) (ht : ρ k 8 = some t) (hq : pc + 3 = q) (kk : AW p l e R s m args below meth c cells slots Q A E ρ q lv (.ref (ad E t) :: st) σ) : AW p l e R s m args below meth c cells slots Q A E ρ pc lv (.ref (ad E k) :: st) σ := fun H locs ls hP hS hl => by
  subst hq
  obtain ⟨i, hi⟩ := ks_at hm
  have he := wl_at ρ σ hi
  unfold en at he
  rw [hk] at he
  have h0 := kk H locs ls hP hS hl
  have hv : rv E (ρ k 8) = .ref (ad E t) := by rw [ht]; rfl
  rw [← hv] at h0
  exact va_get (T := TX8) (N := 18) (ci := 8) cx.1.1 cx.1.2.1 cx.1.2.2.2.2 hin cx.1.2.2.2.1 cx.2.1.1 hP i he rfl 8 (by decide) (cx.1.2.2.2.2 _ hf) (fun _ h => h) rfl hd h0
theorem gX8_9 (cx : Cx p s m args c E A own cc nL Ts) {k : Ky} {idx : Nat} (hin : ∀ w ∈ u_ws RX8 TX8 18, w ∈ Ts) (hf : Cond.fieldLink own idx (TX8 9).1 (TX8 9).2.1 (TX8 9).2.2.1 ∈ Ts) (hd : decode cc pc = .ok (.getfield idx, 3)) (hk : kc k = 8) (hm : k ∈ ks E) (hq : pc + 3 = q) (kk : AW p l e R s m args below meth c cells slots Q A E ρ q lv (.int (σ k 9) :: st) σ) : AW p l e R s m args below meth c cells slots Q A E ρ pc lv (.ref (ad E k) :: st) σ := fun H locs ls hP hS hl => by
  subst hq
  obtain ⟨i, hi⟩ := ks_at hm
  have he := wl_at ρ σ hi
  unfold en at he
  rw [hk] at he
  exact va_get (T := TX8) (N := 18) (ci := 8) cx.1.1 cx.1.2.1 cx.1.2.2.2.2 hin cx.1.2.2.2.1 cx.2.1.1 hP i he rfl 9 (by decide) (cx.1.2.2.2.2 _ hf) (fun _ h => h) rfl hd (kk H locs ls hP hS hl)
theorem pX8_9 (cx : Cx p s m args c E A own cc nL Ts) {k : Ky} {idx : Nat} {x : Int32} (hin : ∀ w ∈ u_ws RX8 TX8 18, w ∈ Ts) (hf : Cond.fieldLink own idx (TX8 9).1 (TX8 9).2.1 (TX8 9).2.2.1 ∈ Ts) (hd : decode cc pc = .ok (.putfield idx, 3)) (hk : kc k = 8) (hm : k ∈ ks E) (hq : pc + 3 = q) (kk : AW p l e R s m args below meth c cells slots Q A E ρ q lv st (up2 σ k 9 x)) : AW p l e R s m args below meth c cells slots Q A E ρ pc lv (.int x :: .ref (ad E k) :: st) σ := fun H locs ls hP hS hl => by
  subst hq
  obtain ⟨i, hi⟩ := ks_at hm
  have he := wl_at ρ σ hi
  unfold en at he
  rw [hk] at he
  refine va_put (T := TX8) (N := 18) (ci := 8) cx.1.1 cx.1.2.1 cx.1.2.2.2.2 hin tyX8 tyX8_ok nmX8 cx.1.2.2.2.1 cx.2.1.1 hP (wl_D cx.2.2.1 cx.2.2.2 ρ σ) hS i he rfl 9 (by decide) (cx.1.2.2.2.2 _ hf) (fun _ h => h) rfl (ty := .int) (by decide +kernel) rfl rfl (Nat.le_of_ble_eq_true rfl) hd (fun H1 locs1 hP1 _ hS1 => ?_)
  have hx : en E ρ (up2 σ k 9 x) k = .inr (8, [.int (σ k 0), .int (σ k 1), .int (σ k 2), rv E (ρ k 3), rv E (ρ k 4), rv E (ρ k 5), .int (σ k 6), rv E (ρ k 7), rv E (ρ k 8), .int x, .int (σ k 10), rv E (ρ k 11), rv E (ρ k 12), rv E (ρ k 13), rv E (ρ k 14), .int (σ k 15), rv E (ρ k 16), rv E (ρ k 17)]) := by unfold en; rw [hk, up2_row]; simp [ec, upd]
  have hP2 : va_P E.1 vwCl ((wl E ρ σ).set i (ad E k, .inr (8, [.int (σ k 0), .int (σ k 1), .int (σ k 2), rv E (ρ k 3), rv E (ρ k 4), rv E (ρ k 5), .int (σ k 6), rv E (ρ k 7), rv E (ρ k 8), .int x, .int (σ k 10), rv E (ρ k 11), rv E (ρ k 12), rv E (ρ k 13), rv E (ρ k 14), .int (σ k 15), rv E (ρ k 16), rv E (ρ k 17)]))) H1 := hP1
  rw [← hx, wl_set ρ cx.2.2.1.1 hi (fun k' h' => en_nk E ρ σ k 9 x h')] at hP2
  exact kk H1 locs1 ls hP2 hS1 hl
theorem gX8_10 (cx : Cx p s m args c E A own cc nL Ts) {k : Ky} {idx : Nat} (hin : ∀ w ∈ u_ws RX8 TX8 18, w ∈ Ts) (hf : Cond.fieldLink own idx (TX8 10).1 (TX8 10).2.1 (TX8 10).2.2.1 ∈ Ts) (hd : decode cc pc = .ok (.getfield idx, 3)) (hk : kc k = 8) (hm : k ∈ ks E) (hq : pc + 3 = q) (kk : AW p l e R s m args below meth c cells slots Q A E ρ q lv (.int (σ k 10) :: st) σ) : AW p l e R s m args below meth c cells slots Q A E ρ pc lv (.ref (ad E k) :: st) σ := fun H locs ls hP hS hl => by
  subst hq
  obtain ⟨i, hi⟩ := ks_at hm
  have he := wl_at ρ σ hi
  unfold en at he
  rw [hk] at he
  exact va_get (T := TX8) (N := 18) (ci := 8) cx.1.1 cx.1.2.1 cx.1.2.2.2.2 hin cx.1.2.2.2.1 cx.2.1.1 hP i he rfl 10 (by decide) (cx.1.2.2.2.2 _ hf) (fun _ h => h) rfl hd (kk H locs ls hP hS hl)
theorem pX8_10 (cx : Cx p s m args c E A own cc nL Ts) {k : Ky} {idx : Nat} {x : Int32} (hin : ∀ w ∈ u_ws RX8 TX8 18, w ∈ Ts) (hf : Cond.fieldLink own idx (TX8 10).1 (TX8 10).2.1 (TX8 10).2.2.1 ∈ Ts) (hd : decode cc pc = .ok (.putfield idx, 3)) (hk : kc k = 8) (hm : k ∈ ks E) (hq : pc + 3 = q) (kk : AW p l e R s m args below meth c cells slots Q A E ρ q lv st (up2 σ k 10 x)) : AW p l e R s m args below meth c cells slots Q A E ρ pc lv (.int x :: .ref (ad E k) :: st) σ := fun H locs ls hP hS hl => by
  subst hq
  obtain ⟨i, hi⟩ := ks_at hm
  have he := wl_at ρ σ hi
  unfold en at he
  rw [hk] at he
  refine va_put (T := TX8) (N := 18) (ci := 8) cx.1.1 cx.1.2.1 cx.1.2.2.2.2 hin tyX8 tyX8_ok nmX8 cx.1.2.2.2.1 cx.2.1.1 hP (wl_D cx.2.2.1 cx.2.2.2 ρ σ) hS i he rfl 10 (by decide) (cx.1.2.2.2.2 _ hf) (fun _ h => h) rfl (ty := .int) (by decide +kernel) rfl rfl (Nat.le_of_ble_eq_true rfl) hd (fun H1 locs1 hP1 _ hS1 => ?_)
  have hx : en E ρ (up2 σ k 10 x) k = .inr (8, [.int (σ k 0), .int (σ k 1), .int (σ k 2), rv E (ρ k 3), rv E (ρ k 4), rv E (ρ k 5), .int (σ k 6), rv E (ρ k 7), rv E (ρ k 8), .int (σ k 9), .int x, rv E (ρ k 11), rv E (ρ k 12), rv E (ρ k 13), rv E (ρ k 14), .int (σ k 15), rv E (ρ k 16), rv E (ρ k 17)]) := by unfold en; rw [hk, up2_row]; simp [ec, upd]
  have hP2 : va_P E.1 vwCl ((wl E ρ σ).set i (ad E k, .inr (8, [.int (σ k 0), .int (σ k 1), .int (σ k 2), rv E (ρ k 3), rv E (ρ k 4), rv E (ρ k 5), .int (σ k 6), rv E (ρ k 7), rv E (ρ k 8), .int (σ k 9), .int x, rv E (ρ k 11), rv E (ρ k 12), rv E (ρ k 13), rv E (ρ k 14), .int (σ k 15), rv E (ρ k 16), rv E (ρ k 17)]))) H1 := hP1
  rw [← hx, wl_set ρ cx.2.2.1.1 hi (fun k' h' => en_nk E ρ σ k 10 x h')] at hP2
  exact kk H1 locs1 ls hP2 hS1 hl
theorem gX8_11 (cx : Cx p s m args c E A own cc nL Ts) {k t : Ky} {idx : Nat} (hin : ∀ w ∈ u_ws RX8 TX8 18, w ∈ Ts) (hf : Cond.fieldLink own idx (TX8 11).1 (TX8 11).2.1 (TX8 11).2.2.1 ∈ Ts) (hd : decode cc pc = .ok (.getfield idx, 3)) (hk : kc k = 8) (hm : k ∈ ks E) (ht : ρ k 11 = some t) (hq : pc + 3 = q) (kk : AW p l e R s m args below meth c cells slots Q A E ρ q lv (.ref (ad E t) :: st) σ) : AW p l e R s m args below meth c cells slots Q A E ρ pc lv (.ref (ad E k) :: st) σ := fun H locs ls hP hS hl => by
  subst hq
  obtain ⟨i, hi⟩ := ks_at hm
  have he := wl_at ρ σ hi
  unfold en at he
  rw [hk] at he
  have h0 := kk H locs ls hP hS hl
  have hv : rv E (ρ k 11) = .ref (ad E t) := by rw [ht]; rfl
  rw [← hv] at h0
  exact va_get (T := TX8) (N := 18) (ci := 8) cx.1.1 cx.1.2.1 cx.1.2.2.2.2 hin cx.1.2.2.2.1 cx.2.1.1 hP i he rfl 11 (by decide) (cx.1.2.2.2.2 _ hf) (fun _ h => h) rfl hd h0
theorem gX8_12 (cx : Cx p s m args c E A own cc nL Ts) {k t : Ky} {idx : Nat} (hin : ∀ w ∈ u_ws RX8 TX8 18, w ∈ Ts) (hf : Cond.fieldLink own idx (TX8 12).1 (TX8 12).2.1 (TX8 12).2.2.1 ∈ Ts) (hd : decode cc pc = .ok (.getfield idx, 3)) (hk : kc k = 8) (hm : k ∈ ks E) (ht : ρ k 12 = some t) (hq : pc + 3 = q) (kk : AW p l e R s m args below meth c cells slots Q A E ρ q lv (.ref (ad E t) :: st) σ) : AW p l e R s m args below meth c cells slots Q A E ρ pc lv (.ref (ad E k) :: st) σ := fun H locs ls hP hS hl => by
  subst hq
  obtain ⟨i, hi⟩ := ks_at hm
  have he := wl_at ρ σ hi
  unfold en at he
  rw [hk] at he
  have h0 := kk H locs ls hP hS hl
  have hv : rv E (ρ k 12) = .ref (ad E t) := by rw [ht]; rfl
  rw [← hv] at h0
  exact va_get (T := TX8) (N := 18) (ci := 8) cx.1.1 cx.1.2.1 cx.1.2.2.2.2 hin cx.1.2.2.2.1 cx.2.1.1 hP i he rfl 12 (by decide) (cx.1.2.2.2.2 _ hf) (fun _ h => h) rfl hd h0
theorem gX8_13 (cx : Cx p s m args c E A own cc nL Ts) {k t : Ky} {idx : Nat} (hin : ∀ w ∈ u_ws RX8 TX8 18, w ∈ Ts) (hf : Cond.fieldLink own idx (TX8 13).1 (TX8 13).2.1 (TX8 13).2.2.1 ∈ Ts) (hd : decode cc pc = .ok (.getfield idx, 3)) (hk : kc k = 8) (hm : k ∈ ks E) (ht : ρ k 13 = some t) (hq : pc + 3 = q) (kk : AW p l e R s m args below meth c cells slots Q A E ρ q lv (.ref (ad E t) :: st) σ) : AW p l e R s m args below meth c cells slots Q A E ρ pc lv (.ref (ad E k) :: st) σ := fun H locs ls hP hS hl => by
  subst hq
  obtain ⟨i, hi⟩ := ks_at hm
  have he := wl_at ρ σ hi
  unfold en at he
  rw [hk] at he
  have h0 := kk H locs ls hP hS hl
  have hv : rv E (ρ k 13) = .ref (ad E t) := by rw [ht]; rfl
  rw [← hv] at h0
  exact va_get (T := TX8) (N := 18) (ci := 8) cx.1.1 cx.1.2.1 cx.1.2.2.2.2 hin cx.1.2.2.2.1 cx.2.1.1 hP i he rfl 13 (by decide) (cx.1.2.2.2.2 _ hf) (fun _ h => h) rfl hd h0
theorem gX8_14 (cx : Cx p s m args c E A own cc nL Ts) {k t : Ky} {idx : Nat} (hin : ∀ w ∈ u_ws RX8 TX8 18, w ∈ Ts) (hf : Cond.fieldLink own idx (TX8 14).1 (TX8 14).2.1 (TX8 14).2.2.1 ∈ Ts) (hd : decode cc pc = .ok (.getfield idx, 3)) (hk : kc k = 8) (hm : k ∈ ks E) (ht : ρ k 14 = some t) (hq : pc + 3 = q) (kk : AW p l e R s m args below meth c cells slots Q A E ρ q lv (.ref (ad E t) :: st) σ) : AW p l e R s m args below meth c cells slots Q A E ρ pc lv (.ref (ad E k) :: st) σ := fun H locs ls hP hS hl => by
  subst hq
  obtain ⟨i, hi⟩ := ks_at hm
  have he := wl_at ρ σ hi
  unfold en at he
  rw [hk] at he
  have h0 := kk H locs ls hP hS hl
  have hv : rv E (ρ k 14) = .ref (ad E t) := by rw [ht]; rfl
  rw [← hv] at h0
  exact va_get (T := TX8) (N := 18) (ci := 8) cx.1.1 cx.1.2.1 cx.1.2.2.2.2 hin cx.1.2.2.2.1 cx.2.1.1 hP i he rfl 14 (by decide) (cx.1.2.2.2.2 _ hf) (fun _ h => h) rfl hd h0
theorem gX8_15 (cx : Cx p s m args c E A own cc nL Ts) {k : Ky} {idx : Nat} (hin : ∀ w ∈ u_ws RX8 TX8 18, w ∈ Ts) (hf : Cond.fieldLink own idx (TX8 15).1 (TX8 15).2.1 (TX8 15).2.2.1 ∈ Ts) (hd : decode cc pc = .ok (.getfield idx, 3)) (hk : kc k = 8) (hm : k ∈ ks E) (hq : pc + 3 = q) (kk : AW p l e R s m args below meth c cells slots Q A E ρ q lv (.int (σ k 15) :: st) σ) : AW p l e R s m args below meth c cells slots Q A E ρ pc lv (.ref (ad E k) :: st) σ := fun H locs ls hP hS hl => by
  subst hq
  obtain ⟨i, hi⟩ := ks_at hm
  have he := wl_at ρ σ hi
  unfold en at he
  rw [hk] at he
  exact va_get (T := TX8) (N := 18) (ci := 8) cx.1.1 cx.1.2.1 cx.1.2.2.2.2 hin cx.1.2.2.2.1 cx.2.1.1 hP i he rfl 15 (by decide) (cx.1.2.2.2.2 _ hf) (fun _ h => h) rfl hd (kk H locs ls hP hS hl)
theorem pX8_15 (cx : Cx p s m args c E A own cc nL Ts) {k : Ky} {idx : Nat} {x : Int32} (hin : ∀ w ∈ u_ws RX8 TX8 18, w ∈ Ts) (hf : Cond.fieldLink own idx (TX8 15).1 (TX8 15).2.1 (TX8 15).2.2.1 ∈ Ts) (hd : decode cc pc = .ok (.putfield idx, 3)) (hk : kc k = 8) (hm : k ∈ ks E) (hq : pc + 3 = q) (kk : AW p l e R s m args below meth c cells slots Q A E ρ q lv st (up2 σ k 15 x)) : AW p l e R s m args below meth c cells slots Q A E ρ pc lv (.int x :: .ref (ad E k) :: st) σ := fun H locs ls hP hS hl => by
  subst hq
  obtain ⟨i, hi⟩ := ks_at hm
  have he := wl_at ρ σ hi
  unfold en at he
  rw [hk] at he
  refine va_put (T := TX8) (N := 18) (ci := 8) cx.1.1 cx.1.2.1 cx.1.2.2.2.2 hin tyX8 tyX8_ok nmX8 cx.1.2.2.2.1 cx.2.1.1 hP (wl_D cx.2.2.1 cx.2.2.2 ρ σ) hS i he rfl 15 (by decide) (cx.1.2.2.2.2 _ hf) (fun _ h => h) rfl (ty := .int) (by decide +kernel) rfl rfl (Nat.le_of_ble_eq_true rfl) hd (fun H1 locs1 hP1 _ hS1 => ?_)
  have hx : en E ρ (up2 σ k 15 x) k = .inr (8, [.int (σ k 0), .int (σ k 1), .int (σ k 2), rv E (ρ k 3), rv E (ρ k 4), rv E (ρ k 5), .int (σ k 6), rv E (ρ k 7), rv E (ρ k 8), .int (σ k 9), .int (σ k 10), rv E (ρ k 11), rv E (ρ k 12), rv E (ρ k 13), rv E (ρ k 14), .int x, rv E (ρ k 16), rv E (ρ k 17)]) := by unfold en; rw [hk, up2_row]; simp [ec, upd]
  have hP2 : va_P E.1 vwCl ((wl E ρ σ).set i (ad E k, .inr (8, [.int (σ k 0), .int (σ k 1), .int (σ k 2), rv E (ρ k 3), rv E (ρ k 4), rv E (ρ k 5), .int (σ k 6), rv E (ρ k 7), rv E (ρ k 8), .int (σ k 9), .int (σ k 10), rv E (ρ k 11), rv E (ρ k 12), rv E (ρ k 13), rv E (ρ k 14), .int x, rv E (ρ k 16), rv E (ρ k 17)]))) H1 := hP1
  rw [← hx, wl_set ρ cx.2.2.1.1 hi (fun k' h' => en_nk E ρ σ k 15 x h')] at hP2
  exact kk H1 locs1 ls hP2 hS1 hl
theorem gX8_16 (cx : Cx p s m args c E A own cc nL Ts) {k t : Ky} {idx : Nat} (hin : ∀ w ∈ u_ws RX8 TX8 18, w ∈ Ts) (hf : Cond.fieldLink own idx (TX8 16).1 (TX8 16).2.1 (TX8 16).2.2.1 ∈ Ts) (hd : decode cc pc = .ok (.getfield idx, 3)) (hk : kc k = 8) (hm : k ∈ ks E) (ht : ρ k 16 = some t) (hq : pc + 3 = q) (kk : AW p l e R s m args below meth c cells slots Q A E ρ q lv (.ref (ad E t) :: st) σ) : AW p l e R s m args below meth c cells slots Q A E ρ pc lv (.ref (ad E k) :: st) σ := fun H locs ls hP hS hl => by
  subst hq
  obtain ⟨i, hi⟩ := ks_at hm
  have he := wl_at ρ σ hi
  unfold en at he
  rw [hk] at he
  have h0 := kk H locs ls hP hS hl
  have hv : rv E (ρ k 16) = .ref (ad E t) := by rw [ht]; rfl
  rw [← hv] at h0
  exact va_get (T := TX8) (N := 18) (ci := 8) cx.1.1 cx.1.2.1 cx.1.2.2.2.2 hin cx.1.2.2.2.1 cx.2.1.1 hP i he rfl 16 (by decide) (cx.1.2.2.2.2 _ hf) (fun _ h => h) rfl hd h0
theorem gX8_17 (cx : Cx p s m args c E A own cc nL Ts) {k t : Ky} {idx : Nat} (hin : ∀ w ∈ u_ws RX8 TX8 18, w ∈ Ts) (hf : Cond.fieldLink own idx (TX8 17).1 (TX8 17).2.1 (TX8 17).2.2.1 ∈ Ts) (hd : decode cc pc = .ok (.getfield idx, 3)) (hk : kc k = 8) (hm : k ∈ ks E) (ht : ρ k 17 = some t) (hq : pc + 3 = q) (kk : AW p l e R s m args below meth c cells slots Q A E ρ q lv (.ref (ad E t) :: st) σ) : AW p l e R s m args below meth c cells slots Q A E ρ pc lv (.ref (ad E k) :: st) σ := fun H locs ls hP hS hl => by
  subst hq
  obtain ⟨i, hi⟩ := ks_at hm
  have he := wl_at ρ σ hi
  unfold en at he
  rw [hk] at he
  have h0 := kk H locs ls hP hS hl
  have hv : rv E (ρ k 17) = .ref (ad E t) := by rw [ht]; rfl
  rw [← hv] at h0
  exact va_get (T := TX8) (N := 18) (ci := 8) cx.1.1 cx.1.2.1 cx.1.2.2.2.2 hin cx.1.2.2.2.1 cx.2.1.1 hP i he rfl 17 (by decide) (cx.1.2.2.2.2 _ hf) (fun _ h => h) rfl hd h0
end RULES
