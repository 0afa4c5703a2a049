/-! THE FIRST TEXT: String.length, String.charAt over the one constant -/
def strB : List Int32 := [108, 49, 44, 53, 44, 50, 44, 53, 59, 108, 49, 44, 51, 44, 50, 44, 52, 59, 108, 49, 44, 53, 44, 50, 44, 49, 59, 108, 49, 44, 53, 44, 51, 44, 53, 59, 108, 49, 44, 54, 44, 50, 44, 54, 59, 120, 52, 44, 53, 59, 109, 50, 44, 50, 44, 49, 59]
def sB (k : Nat) : Int32 := strB.getD k 0
def SE (aK aV : Nat) (A : Nat → Prop) (U : State) (H : Heap) : Prop := va_O "java/lang/String" aK A U H ∧ va_OF "java/lang/String" "coder" "B" (.int 0) aK A U H ∧ va_OF "java/lang/String" "value" "[B" (.ref aV) aK A U H ∧ va_T .byte aV 57 (fun j => .int (sB j)) A U H ∧ va_Z "java/lang/String" "COMPACT_STRINGS" "Z" (.int 1) A U H ∧ va_Zq "jdk/internal/util/Preconditions" "SIOOBE_FORMATTER" "Ljava/util/function/BiFunction;" A U H
theorem zq_moved {C n d : String} {A : Nat → Prop} {u U : State} {H : Heap} (hvm : u.vm.Alike U.vm) (h : va_Zq C n d A u H) : va_Zq C n d A U H := h.elim (fun h => Or.inl (h.moved hvm)) (fun ⟨t, h⟩ => Or.inr ⟨t, h.moved hvm⟩)
theorem zq_kept {C n d : String} {A : Nat → Prop} {U : State} {H H1 : Heap} (h : va_Zq C n d A U H) (hq : ∀ a : Nat, a < H.size → ¬ A a → H1[a]? = H[a]?) : va_Zq C n d A U H1 := h.elim (fun h => Or.inl (h.kept hq)) (fun ⟨t, h⟩ => Or.inr ⟨t, h.kept hq⟩)
theorem zq_narrow {C n d : String} {A B : Nat → Prop} {U : State} {H : Heap} (h : va_Zq C n d A U H) (hAB : ∀ q, B q → A q) : va_Zq C n d B U H := h.elim (fun h => Or.inl (h.narrow hAB)) (fun ⟨t, h⟩ => Or.inr ⟨t, h.narrow hAB⟩)
theorem SE.moved {aK aV : Nat} {A : Nat → Prop} {u U : State} {H : Heap} (hvm : u.vm.Alike U.vm) (h : SE aK aV A u H) : SE aK aV A U H := ⟨h.1.moved hvm, h.2.1.moved hvm, h.2.2.1.moved hvm, h.2.2.2.1.moved hvm, h.2.2.2.2.1.moved hvm, zq_moved hvm h.2.2.2.2.2⟩
theorem SE.kept {aK aV : Nat} {A : Nat → Prop} {U : State} {H H1 : Heap} (h : SE aK aV A U H) (hq : ∀ a : Nat, a < H.size → ¬ A a → H1[a]? = H[a]?) : SE aK aV A U H1 := ⟨h.1.kept hq, h.2.1.kept hq, h.2.2.1.kept hq, h.2.2.2.1.kept hq, h.2.2.2.2.1.kept hq, zq_kept h.2.2.2.2.2 hq⟩
theorem SE.narrow {aK aV : Nat} {A B : Nat → Prop} {U : State} {H : Heap} (h : SE aK aV A U H) (hAB : ∀ q, B q → A q) : SE aK aV B U H := ⟨h.1.narrow hAB, h.2.1.narrow hAB, h.2.2.1.narrow hAB, h.2.2.2.1.narrow hAB, h.2.2.2.2.1.narrow hAB, zq_narrow h.2.2.2.2.2 hAB⟩
def PWS (aK aV : Nat) (E : Ev) (ρ : Rh) (σ : Sg) (as : List Value) : Array Value → State → Prop := va_Pc as (fun U => va_P E.1 vwCl (wl E ρ σ) U.heap ∧ sw E U ∧ SE aK aV (AL E) U U.heap)
def JI (aK aV : Nat) (l : Launch) (y : MethodName) (ws : List Cond) (fr lc : Nat) (E : Ev) (ρ : Rh) (as : List Value) (σ : Sg) (r : Int32) : Prop := Met l y ws (rmm fr lc) (PWS aK aV E ρ σ as) (QI E ρ r σ) 0 0 (AL E)
def JV (aK aV : Nat) (l : Launch) (y : MethodName) (ws : List Cond) (fr lc : Nat) (E : Ev) (ρ : Rh) (as : List Value) (σ : Sg) : Prop := Met l y ws (rmm fr lc) (PWS aK aV E ρ σ as) (QV E ρ σ) 0 0 (AL E)
theorem pws_blind (aK aV : Nat) (E : Ev) (ρ : Rh) (σ : Sg) (as : List Value) : FrameBlind (PWS aK aV E ρ σ as) := by
  intro a U g mk h
  obtain ⟨h1, h2, ⟨h3, h4, h5⟩, h6⟩ := h
  exact ⟨h1, h2, ⟨va_K.moved (u := U) (U := U.calling g mk a) (Vm.Alike.refl U.vm) h3, va_Nw.same rfl rfl h4, va_Nw.same rfl rfl h5⟩, SE.moved (u := U) (U := U.calling g mk a) (Vm.Alike.refl U.vm) h6⟩
theorem met_ofS {aK aV : Nat} {l : Launch} {y : MethodName} {ws ws' : List Cond} {fr lc : Nat} {E : Ev} {ρ : Rh} {as : List Value} {σ : Sg} {Qc : Array Value → State → Outcome → State → Prop} {cc : ByteArray} {maxL : Nat} {ret : Option FieldType} {lv : List (Option Value)} (own : String) (hy : plainName y.cls = true) (ho : y.cls = own) (hlv : lv0 as maxL = lv) (hw : ws = Cond.code y cc maxL ret :: ws') (hE : okE E) (hc : argsOk as) (hn : as.length ≤ maxL)
    (body : ∀ (p : Program) (e : Env) (s : State) (m : MethodId) (args : Array Value) (below : List Frame) (meth : Method) (c : Code) (Q : State → Prop), Cx p s m args c E (AL E) own cc maxL ws → SE aK aV (AL E) s s.heap → meth.locks = false → meth.sig.returnType = ret → Q = MQ below Qc args s 0 0 (AL E) → AW p l e (rmm fr lc) s m args below meth c 0 0 Q (AL E) E ρ 0 lv [] σ) : Met l y ws (rmm fr lc) (PWS aK aV E ρ σ as) Qc 0 0 (AL E) := by
  have hl : (lg_sl as).length ≤ maxL := by rw [lg_len hc]; exact hn
  refine Met.ofW (cc := cc) (maxL := maxL) (ret := ret) hy hw ?_
  intro p e s m args below meth c s₁ B hml hv
  obtain ⟨rfl, hP, hsw, hse⟩ := hv
  subst ho hlv
  rw [lg_entry_eq]
  exact body p e s m _ below meth c _ ⟨⟨B.exec, B.bytes, hml, findClass_of_methodNamed B.named, atoms_spec (ws := ws) B.pre⟩, hsw, hE, fun k hk => ⟨k, hk, rfl⟩⟩ hse B.notSynchronized B.returns rfl s.heap [] _ hP va_S.rf (hs_entry hc hn hl)
section STR
variable {aK aV : Nat} {p : Program} {l : Launch} {e : Env} {R : Room} {s : State} {m : MethodId} {args : Array Value} {below : List Frame} {meth : Method} {c : Code} {cells slots : Nat} {Q : State → Prop} {A : Nat → Prop} {E : Ev} {ρ : Rh} {σ σ' : Sg} {pc q : Nat} {lv : List (Option Value)} {st : List Value} {own : String} {cc : ByteArray} {nL : Nat} {Ts : List Cond}
variable {y : MethodName} {ws : List Cond} {fr lc idx maxL : Nat} {bytes : ByteArray} {ret : Option FieldType}
theorem J_coder (cx : Cx p s m args c E A own cc nL Ts) (hs : SE aK aV A s s.heap) (hf : Cond.fieldLink own idx "java/lang/String" "coder" "B" ∈ Ts) (hd : decode cc pc = .ok (.getfield idx, 3)) (hq : pc + 3 = q) (kk : AW p l e R s m args below meth c cells slots Q A E ρ q lv (.int 0 :: st) σ) : AW p l e R s m args below meth c cells slots Q A E ρ pc lv (.ref aK :: st) σ := fun H locs ls hP hS hl => by
  subst hq
  exact vk_getf cx.1.1 cx.1.2.1 hs.2.1 hS cx.1.2.2.2.1 (cx.1.2.2.2.2 _ hf) (fun _ h => h) hd (kk H locs ls hP hS hl)
theorem J_value (cx : Cx p s m args c E A own cc nL Ts) (hs : SE aK aV A s s.heap) (hf : Cond.fieldLink own idx "java/lang/String" "value" "[B" ∈ Ts) (hd : decode cc pc = .ok (.getfield idx, 3)) (hq : pc + 3 = q) (kk : AW p l e R s m args below meth c cells slots Q A E ρ q lv (.ref aV :: st) σ) : AW p l e R s m args below meth c cells slots Q A E ρ pc lv (.ref aK :: st) σ := fun H locs ls hP hS hl => by
  subst hq
  exact vk_getf cx.1.1 cx.1.2.1 hs.2.2.1 hS cx.1.2.2.2.1 (cx.1.2.2.2.2 _ hf) (fun _ h => h) hd (kk H locs ls hP hS hl)
theorem J_compact (cx : Cx p s m args c E A own cc nL Ts) (hs : SE aK aV A s s.heap) (hf : Cond.fieldLink own idx "java/lang/String" "COMPACT_STRINGS" "Z" ∈ Ts) (hd : decode cc pc = .ok (.getstatic idx, 3)) (hq : pc + 3 = q) (kk : AW p l e R s m args below meth c cells slots Q A E ρ q lv (.int 1 :: st) σ) : AW p l e R s m args below meth c cells slots Q A E ρ pc lv st σ := fun H locs ls hP hS hl => by
  subst hq
  exact va_gets cx.1.1 cx.1.2.1 hs.2.2.2.2.1 hS cx.1.2.2.2.1 (cx.1.2.2.2.2 _ hf) (fun _ h => h) hd (kk H locs ls hP hS hl)
theorem J_former (cx : Cx p s m args c E A own cc nL Ts) (hs : SE aK aV A s s.heap) (hf : Cond.fieldLink own idx "jdk/internal/util/Preconditions" "SIOOBE_FORMATTER" "Ljava/util/function/BiFunction;" ∈ Ts) (hd : decode cc pc = .ok (.getstatic idx, 3)) (hq : pc + 3 = q) (kk : ∀ v : Value, v.category = 1 → AW p l e R s m args below meth c cells slots Q A E ρ q lv (v :: st) σ) : AW p l e R s m args below meth c cells slots Q A E ρ pc lv st σ := fun H locs ls hP hS hl => by
  subst hq
  rcases hs.2.2.2.2.2 with h | ⟨t, h⟩
  · exact va_gets cx.1.1 cx.1.2.1 h hS cx.1.2.2.2.1 (cx.1.2.2.2.2 _ hf) (fun _ h => h) hd (kk _ rfl H locs ls hP hS hl)
  · exact va_gets cx.1.1 cx.1.2.1 h hS cx.1.2.2.2.1 (cx.1.2.2.2.2 _ hf) (fun _ h => h) hd (kk _ rfl H locs ls hP hS hl)
theorem J_len (cx : Cx p s m args c E A own cc nL Ts) (hs : SE aK aV A s s.heap) (hd : decode cc pc = .ok (.arraylength, 1)) (hq : pc + 1 = q) (kk : AW p l e R s m args below meth c cells slots Q A E ρ q lv (.int 57 :: st) σ) : AW p l e R s m args below meth c cells slots Q A E ρ pc lv (.ref aV :: st) σ := fun H locs ls hP hS hl => by
  subst hq
  exact va_tlen cx.1.1 cx.1.2.1 hs.2.2.2.1 hS rfl hd (kk H locs ls hP hS hl)
theorem J_byte (cx : Cx p s m args c E A own cc nL Ts) (hs : SE aK aV A s s.heap) {k : Nat} (hk : k < 57) (hd : decode cc pc = .ok (.baload, 1)) (hq : pc + 1 = q) (kk : AW p l e R s m args below meth c cells slots Q A E ρ q lv (.int (sB k) :: st) σ) : AW p l e R s m args below meth c cells slots Q A E ρ pc lv (.int (nI k) :: .ref aV :: st) σ := fun H locs ls hP hS hl => by
  subst hq
  have hc : (nI k).toNatClampNeg = k := nI_clamp (by omega)
  exact va_tb cx.1.1 cx.1.2.1 hs.2.2.2.1 hS (i := nI k) (fun h => by rcases h with h | h; exact nI_pos (by omega) h; omega) (v := .int (sB k)) (by show Value.int (sB (nI k).toNatClampNeg) = _; rw [hc]) hd (kk H locs ls hP hS hl)
theorem A_i2c (cx : Cx p s m args c E A own cc nL Ts) {x v : Int32} (hd : decode cc pc = .ok (.i2c, 1)) (hv : (x.toUInt32 % 65536).toInt32 = v) (hq : pc + 1 = q) (kk : AW p l e R s m args below meth c cells slots Q A E ρ q lv (.int v :: st) σ) : AW p l e R s m args below meth c cells slots Q A E ρ pc lv (.int x :: st) σ := fun H locs ls hP hS hl => by subst hq; exact lv_i2c cx.1.1 cx.1.2.1 hd hv (kk H locs ls hP hS hl)
theorem A_ishr (cx : Cx p s m args c E A own cc nL Ts) {x y : Int32} (hd : decode cc pc = .ok (.ishr, 1)) (hq : pc + 1 = q) (kk : AW p l e R s m args below meth c cells slots Q A E ρ q lv (.int (x >>> (y &&& 31)) :: st) σ) : AW p l e R s m args below meth c cells slots Q A E ρ pc lv (.int y :: .int x :: st) σ := fun H locs ls hP hS hl => by subst hq; exact lv_ishr cx.1.1 cx.1.2.1 hd (kk H locs ls hP hS hl)
theorem A_nret (cx : Cx p s m args c E (AL E) own cc nL Ts) (hlk : meth.locks = false) {x r : Int32} {ty : FieldType} (hr : meth.sig.returnType = some ty) (hQ : Q = MQ below (QI E ρ r σ') args s 0 0 (AL E)) (hd : decode cc pc = .ok (.ireturn, 1)) (hn : narrow ty (.int x) = .int x) (h1 : x = r) (h2 : σ = σ') : AW p l e R s m args below meth c 0 0 Q (AL E) E ρ pc lv [.int x] σ := by
  subst hQ
  subst h1 h2
  intro H locs ls hP hS hl
  exact W.zret cx.1.1 cx.1.2.1 hr hn (fun t ht hW => ⟨⟨x, σ, rfl, ⟨rfl, rfl⟩, by show va_P _ _ _ t.heap; rw [ht]; exact hP⟩, hS.F ht⟩) hS.2.2 hd hlk
theorem se_pre (cx : Cx p s m args c E A own cc nL Ts) (hs : SE aK aV A s s.heap) {H : Heap} {locs : List Loc} (hS : va_S A s.heap H locs) {U : State} (hU : U.heap = H) (hW : s.WarmedH U.vm) : SE aK aV (AL E) U U.heap := by
  rw [hU]
  exact ((hs.kept hS.2.1).moved hW.alike).narrow (al_sub cx)
theorem JV_I0 (cx : Cx p s m args c E A own cc nL Ts) (hs : SE aK aV A s s.heap) {r : Int32} (hM : JI aK aV l y ws fr lc E ρ [.ref aK] σ r) (cw : CallW R s args own "java/lang/String" idx y bytes maxL ret ws (rmm fr lc) 0 0 0) (hd : decode cc pc = .ok (.invokevirtual idx, 3)) (hlv : lv.length = nL) (hcat : (st.map fun v => v.category).sum ≤ 8) (hcs : cells ≤ R.cells ∧ slots ≤ R.slots) (hq : pc + 3 = q) (kk : AW p l e R s m args below meth c cells slots Q A E ρ q lv (.int r :: st) σ) : AW p l e R s m args below meth c cells slots Q A E ρ pc lv (.ref aK :: st) σ := by
  subst hq
  intro H locs ls hP hS hl
  refine va_calli (va_runV (As := []) (rest := st) cx.1 hM cw ⟨pws_blind aK aV E ρ σ _, ?_, fun U hU hW => ⟨rfl, by rw [hU]; exact hP, cx.2.1.warm hW, se_pre cx hs hS hU hW⟩⟩ rfl rfl (hl.1.trans hlv) rfl (lv_room hcat) hd hcs) hS (fun q _ h => al_sub cx q h) (al_sub cx) (fun r' u t H1 locs1 ht hvm hw hB hz hk hS1 => ?_)
  · obtain ⟨cell, h1, h2, h3, -⟩ := hs.1.kept hS.2.1
    exact ⟨cell, h1, h2, h3⟩
  · obtain ⟨rfl, rfl⟩ := hw
    rw [ht] at hB
    exact kk H1 locs1 ls hB hS1 hl
theorem JV_I1 (cx : Cx p s m args c E A own cc nL Ts) (hs : SE aK aV A s s.heap) {a1 : Value} {r : Int32} (hM : JI aK aV l y ws fr lc E ρ [.ref aK, a1] σ r) (cw : CallW R s args own "java/lang/String" idx y bytes maxL ret ws (rmm fr lc) 0 0 1) (hd : decode cc pc = .ok (.invokevirtual idx, 3)) (hlv : lv.length = nL) (hcat : (st.map fun v => v.category).sum ≤ 8) (hcs : cells ≤ R.cells ∧ slots ≤ R.slots) (hq : pc + 3 = q) (kk : AW p l e R s m args below meth c cells slots Q A E ρ q lv (.int r :: st) σ) : AW p l e R s m args below meth c cells slots Q A E ρ pc lv (a1 :: .ref aK :: st) σ := by
  subst hq
  intro H locs ls hP hS hl
  refine va_calli (va_runV (As := [a1]) (rest := st) cx.1 hM cw ⟨pws_blind aK aV E ρ σ _, ?_, fun U hU hW => ⟨rfl, by rw [hU]; exact hP, cx.2.1.warm hW, se_pre cx hs hS hU hW⟩⟩ rfl rfl (hl.1.trans hlv) rfl (lv_room hcat) hd hcs) hS (fun q _ h => al_sub cx q h) (al_sub cx) (fun r' u t H1 locs1 ht hvm hw hB hz hk hS1 => ?_)
  · obtain ⟨cell, h1, h2, h3, -⟩ := hs.1.kept hS.2.1
    exact ⟨cell, h1, h2, h3⟩
  · obtain ⟨rfl, rfl⟩ := hw
    rw [ht] at hB
    exact kk H1 locs1 ls hB hS1 hl
theorem JS_I (cx : Cx p s m args c E A own cc nL Ts) (hs : SE aK aV A s s.heap) (as : List Value) {k : Nat} (hk : as.length = k) {st0 : List Value} (h0 : st0 = as.reverse ++ st) {r : Int32} (hM : JI aK aV l y ws fr lc E ρ as σ r) (cw : CallB R s args own idx y bytes maxL ret ws (rmm fr lc) 0 0 k ∧ (Cond.static y).before args s = true) (hd : decode cc pc = .ok (.invokestatic idx, 3)) (hlv : lv.length = nL) (hcat : (st.map fun v => v.category).sum ≤ 8) (hcs : cells ≤ R.cells ∧ slots ≤ R.slots) (hq : pc + 3 = q) (kk : AW p l e R s m args below meth c cells slots Q A E ρ q lv (.int r :: st) σ) : AW p l e R s m args below meth c cells slots Q A E ρ pc lv st0 σ := by
  subst hq
  intro H locs ls hP hS hl
  refine va_calli (va_runS (As := as) (rest := st) cx.1 hM cw ⟨pws_blind aK aV E ρ σ _, fun U hU hW => ⟨rfl, by rw [hU]; exact hP, cx.2.1.warm hW, se_pre cx hs hS hU hW⟩⟩ rfl hk (hl.1.trans hlv) h0 (lv_room hcat) hd hcs) hS (fun q _ h => al_sub cx q h) (al_sub cx) (fun r' u t H1 locs1 ht hvm hw hB hz hk hS1 => ?_)
  obtain ⟨rfl, rfl⟩ := hw
  rw [ht] at hB
  exact kk H1 locs1 ls hB hS1 hl
theorem JS_V (cx : Cx p s m args c E A own cc nL Ts) (hs : SE aK aV A s s.heap) (as : List Value) {k : Nat} (hk : as.length = k) {st0 : List Value} (h0 : st0 = as.reverse ++ st) (hM : JV aK aV l y ws fr lc E ρ as σ) (cw : CallB R s args own idx y bytes maxL ret ws (rmm fr lc) 0 0 k ∧ (Cond.static y).before args s = true) (hd : decode cc pc = .ok (.invokestatic idx, 3)) (hlv : lv.length = nL) (hcat : (st.map fun v => v.category).sum ≤ 8) (hcs : cells ≤ R.cells ∧ slots ≤ R.slots) (hq : pc + 3 = q) (kk : AW p l e R s m args below meth c cells slots Q A E ρ q lv st σ) : AW p l e R s m args below meth c cells slots Q A E ρ pc lv st0 σ := by
  subst hq
  intro H locs ls hP hS hl
  refine va_callv (va_runS (As := as) (rest := st) cx.1 hM cw ⟨pws_blind aK aV E ρ σ _, fun U hU hW => ⟨rfl, by rw [hU]; exact hP, cx.2.1.warm hW, se_pre cx hs hS hU hW⟩⟩ rfl hk (hl.1.trans hlv) h0 (lv_room hcat) hd hcs) hS (fun q _ h => al_sub cx q h) (al_sub cx) (fun u t H1 locs1 ht hvm hw hB hz hk hS1 => ?_)
  obtain rfl := hw
  rw [ht] at hB
  exact kk H1 locs1 ls hB hS1 hl
end STR
theorem sB_char : ∀ k, k < 57 → ((sB k &&& 255).toUInt32 % 65536).toInt32 = sB k := by decide +kernel
theorem sB_nar : ∀ k, k < 57 → narrow .char (.int (sB k)) = .int (sB k) := by decide +kernel
theorem ct_coder {aK aV : Nat} {la : Launch} {E : Ev} {ρ : Rh} {σ : Sg} (hE : okE E) : JI aK aV la yJ0_coder_7d493 wsJ0_coder_7d493 0 0 E ρ [.ref aK] σ 0 := by
  refine met_ofS (lv := [some _]) RJ0 (by decide) rfl rfl rfl hE (ok1 rfl) (Nat.le_of_ble_eq_true rfl) (fun p ev s m args below meth c Q cx hs hlk hr hQ => ?_)
  refine J_compact (q := 3) cx hs (by decide +kernel) dJ0_coder_7d493_0 rfl ?_
  refine A_if_eq (tgt := 13) (q := 6) cx dJ0_coder_7d493_3 (by decide) rfl (fun h => absurd h (by decide)) (fun _ => ?_)
  refine A_aload_n (q := 7) cx dJ0_coder_7d493_6 rfl rfl rfl ?_
  refine J_coder (q := 10) cx hs (by decide +kernel) dJ0_coder_7d493_7 rfl ?_
  refine A_goto (q := 14) cx dJ0_coder_7d493_10 (by decide) ?_
  exact A_nret cx hlk hr hQ dJ0_coder_7d493_14 rfl rfl rfl
theorem ct_isLatin1 {aK aV : Nat} {la : Launch} {E : Ev} {ρ : Rh} {σ : Sg} (hE : okE E) : JI aK aV la yJ0_isLatin1_aae02 wsJ0_isLatin1_aae02 0 0 E ρ [.ref aK] σ 1 := by
  refine met_ofS (lv := [some _]) RJ0 (by decide) rfl rfl rfl hE (ok1 rfl) (Nat.le_of_ble_eq_true rfl) (fun p ev s m args below meth c Q cx hs hlk hr hQ => ?_)
  refine J_compact (q := 3) cx hs (by decide +kernel) dJ0_isLatin1_aae02_0 rfl ?_
  refine A_if_eq (tgt := 17) (q := 6) cx dJ0_isLatin1_aae02_3 (by decide) rfl (fun h => absurd h (by decide)) (fun _ => ?_)
  refine A_aload_n (q := 7) cx dJ0_isLatin1_aae02_6 rfl rfl rfl ?_
  refine J_coder (q := 10) cx hs (by decide +kernel) dJ0_isLatin1_aae02_7 rfl ?_
  refine A_if_ne (tgt := 17) (q := 13) cx dJ0_isLatin1_aae02_10 (by decide) rfl (fun h => absurd rfl h) (fun _ => ?_)
  refine A_iconst (v := 1) (q := 14) cx dJ0_isLatin1_aae02_13 (by decide) rfl ?_
  refine A_goto (q := 18) cx dJ0_isLatin1_aae02_14 (by decide) ?_
  exact A_nret cx hlk hr hQ dJ0_isLatin1_aae02_18 rfl rfl rfl
theorem ct_length {aK aV : Nat} {la : Launch} {E : Ev} {ρ : Rh} {σ : Sg} (hE : okE E) : JI aK aV la yJ0_length_8abf5 wsJ0_length_8abf5 1 20 E ρ [.ref aK] σ 57 := by
  refine met_ofS (lv := [some _]) RJ0 (by decide) rfl rfl rfl hE (ok1 rfl) (Nat.le_of_ble_eq_true rfl) (fun p ev s m args below meth c Q cx hs hlk hr hQ => ?_)
  refine A_aload_n (q := 1) cx dJ0_length_8abf5_0 rfl rfl rfl ?_
  refine J_value (q := 4) cx hs (by decide +kernel) dJ0_length_8abf5_1 rfl ?_
  refine J_len (q := 5) cx hs dJ0_length_8abf5_4 rfl ?_
  refine A_aload_n (q := 6) cx dJ0_length_8abf5_5 rfl rfl rfl ?_
  refine JV_I0 (q := 9) cx hs (ct_coder hE) (cwV 0 cx.1.2.2.2.2 gJ0_length_8abf5_J0_coder_7d493 rfl rfl rfl (by decide +kernel) ⟨Nat.le_of_ble_eq_true rfl, Nat.le_of_ble_eq_true rfl⟩) dJ0_length_8abf5_6 rfl (Nat.le_of_ble_eq_true rfl) ⟨Nat.zero_le _, Nat.zero_le _⟩ rfl ?_
  refine A_ishr (q := 10) cx dJ0_length_8abf5_9 rfl ?_
  exact A_nret cx hlk hr hQ dJ0_length_8abf5_10 rfl (by decide) rfl
theorem ct_checkIndex3 {aK aV : Nat} {la : Launch} {E : Ev} {ρ : Rh} {σ : Sg} (hE : okE E) {k : Nat} (hk : k < 57) {v : Value} (hv : v.category = 1) : JI aK aV la yJ3_checkIndex_8e157 wsJ3_checkIndex_8e157 0 0 E ρ [.int (nI k), .int 57, v] σ (nI k) := by
  refine met_ofS (lv := [some _, some _, some _]) RJ3 (by decide) rfl rfl rfl hE (ok3 rfl rfl hv) (Nat.le_of_ble_eq_true rfl) (fun p ev s m args below meth c Q cx hs hlk hr hQ => ?_)
  refine A_iload_n (q := 1) cx dJ3_checkIndex_8e157_0 rfl rfl ?_
  refine A_if_lt (tgt := 9) (q := 4) cx dJ3_checkIndex_8e157_1 (by decide) rfl (fun h => absurd h (nI_pos (by omega))) (fun _ => ?_)
  refine A_iload_n (q := 5) cx dJ3_checkIndex_8e157_4 rfl rfl ?_
  refine A_iload_n (q := 6) cx dJ3_checkIndex_8e157_5 rfl rfl ?_
  refine A_icmp_lt (tgt := 16) (q := 9) cx dJ3_checkIndex_8e157_6 (by decide) rfl (fun _ => ?_) (fun h => absurd (show nI k < nI 57 from nI_lt hk (by decide)) h)
  refine A_iload_n (q := 17) cx dJ3_checkIndex_8e157_16 rfl rfl ?_
  exact A_nret cx hlk hr hQ dJ3_checkIndex_8e157_17 rfl rfl rfl
theorem ct_checkIndex0 {aK aV : Nat} {la : Launch} {E : Ev} {ρ : Rh} {σ : Sg} (hE : okE E) {k : Nat} (hk : k < 57) : JV aK aV la yJ0_checkIndex_df160 wsJ0_checkIndex_df160 1 22 E ρ [.int (nI k), .int 57] σ := by
  refine met_ofS (lv := [some _, some _]) RJ0 (by decide) rfl rfl rfl hE (ok2 rfl rfl) (Nat.le_of_ble_eq_true rfl) (fun p ev s m args below meth c Q cx hs hlk hr hQ => ?_)
  refine A_iload_n (q := 1) cx dJ0_checkIndex_df160_0 rfl rfl ?_
  refine A_iload_n (q := 2) cx dJ0_checkIndex_df160_1 rfl rfl ?_
  refine J_former (q := 5) cx hs (by decide +kernel) dJ0_checkIndex_df160_2 rfl (fun v hv => ?_)
  refine JS_I (q := 8) (st := []) cx hs [.int (nI k), .int 57, v] rfl rfl (ct_checkIndex3 hE hk hv) (va_cwS 3 cx.1.2.2.2.2 gJ0_checkIndex_df160_J3_checkIndex_8e157 rfl rfl rfl (by decide +kernel) ⟨Nat.le_of_ble_eq_true rfl, Nat.le_of_ble_eq_true rfl⟩) dJ0_checkIndex_df160_5 rfl (Nat.le_of_ble_eq_true rfl) ⟨Nat.zero_le _, Nat.zero_le _⟩ rfl ?_
  refine A_pop (q := 9) cx dJ0_checkIndex_df160_8 rfl rfl ?_
  exact A_vret cx hlk hr hQ dJ0_checkIndex_df160_9 rfl
theorem ct_charAt1 {aK aV : Nat} {la : Launch} {E : Ev} {ρ : Rh} {σ : Sg} (hE : okE E) {k : Nat} (hk : k < 57) : JI aK aV la yJ1_charAt_3b067 wsJ1_charAt_3b067 2 43 E ρ [.ref aV, .int (nI k)] σ (sB k) := by
  refine met_ofS (lv := [some _, some _]) RJ1 (by decide) rfl rfl rfl hE (ok2 rfl rfl) (Nat.le_of_ble_eq_true rfl) (fun p ev s m args below meth c Q cx hs hlk hr hQ => ?_)
  refine A_iload_n (q := 1) cx dJ1_charAt_3b067_0 rfl rfl ?_
  refine A_aload_n (q := 2) cx dJ1_charAt_3b067_1 rfl rfl rfl ?_
  refine J_len (q := 3) cx hs dJ1_charAt_3b067_2 rfl ?_
  refine JS_V (q := 6) (st := []) cx hs [.int (nI k), .int 57] rfl rfl (ct_checkIndex0 hE hk) (va_cwS 2 cx.1.2.2.2.2 gJ1_charAt_3b067_J0_checkIndex_df160 rfl rfl rfl (by decide +kernel) ⟨Nat.le_of_ble_eq_true rfl, Nat.le_of_ble_eq_true rfl⟩) dJ1_charAt_3b067_3 rfl (Nat.le_of_ble_eq_true rfl) ⟨Nat.zero_le _, Nat.zero_le _⟩ rfl ?_
  refine A_aload_n (q := 7) cx dJ1_charAt_3b067_6 rfl rfl rfl ?_
  refine A_iload_n (q := 8) cx dJ1_charAt_3b067_7 rfl rfl ?_
  refine J_byte (q := 9) cx hs hk dJ1_charAt_3b067_8 rfl ?_
  refine A_sipush (v := 255) (q := 12) cx dJ1_charAt_3b067_9 (by decide) rfl ?_
  refine A_iand (q := 13) cx dJ1_charAt_3b067_12 rfl ?_
  refine A_i2c (q := 14) cx dJ1_charAt_3b067_13 (sB_char k hk) rfl ?_
  exact A_nret cx hlk hr hQ dJ1_charAt_3b067_14 (sB_nar k hk) rfl rfl
theorem ct_charAt {aK aV : Nat} {la : Launch} {E : Ev} {ρ : Rh} {σ : Sg} (hE : okE E) {k : Nat} (hk : k < 57) : JI aK aV la yJ0_charAt_5068e wsJ0_charAt_5068e 3 64 E ρ [.ref aK, .int (nI k)] σ (sB k) := by
  refine met_ofS (lv := [some _, some _]) RJ0 (by decide) rfl rfl rfl hE (ok2 rfl rfl) (Nat.le_of_ble_eq_true rfl) (fun p ev s m args below meth c Q cx hs hlk hr hQ => ?_)
  refine A_aload_n (q := 1) cx dJ0_charAt_5068e_0 rfl rfl rfl ?_
  refine JV_I0 (q := 4) cx hs (ct_isLatin1 hE) (cwV 0 cx.1.2.2.2.2 gJ0_charAt_5068e_J0_isLatin1_aae02 rfl rfl rfl (by decide +kernel) ⟨Nat.le_of_ble_eq_true rfl, Nat.le_of_ble_eq_true rfl⟩) dJ0_charAt_5068e_1 rfl (Nat.le_of_ble_eq_true rfl) ⟨Nat.zero_le _, Nat.zero_le _⟩ rfl ?_
  refine A_if_eq (tgt := 16) (q := 7) cx dJ0_charAt_5068e_4 (by decide) rfl (fun h => absurd h (by decide)) (fun _ => ?_)
  refine A_aload_n (q := 8) cx dJ0_charAt_5068e_7 rfl rfl rfl ?_
  refine J_value (q := 11) cx hs (by decide +kernel) dJ0_charAt_5068e_8 rfl ?_
  refine A_iload_n (q := 12) cx dJ0_charAt_5068e_11 rfl rfl ?_
  refine JS_I (q := 15) (st := []) cx hs [.ref aV, .int (nI k)] rfl rfl (ct_charAt1 hE hk) (va_cwS 2 cx.1.2.2.2.2 gJ0_charAt_5068e_J1_charAt_3b067 rfl rfl rfl (by decide +kernel) ⟨Nat.le_of_ble_eq_true rfl, Nat.le_of_ble_eq_true rfl⟩) dJ0_charAt_5068e_12 rfl (Nat.le_of_ble_eq_true rfl) ⟨Nat.zero_le _, Nat.zero_le _⟩ rfl ?_
  exact A_nret cx hlk hr hQ dJ0_charAt_5068e_15 (sB_nar k hk) rfl rfl
