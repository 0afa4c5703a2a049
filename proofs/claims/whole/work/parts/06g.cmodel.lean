section EXT
variable {p : Program} {l : Launch} {e : Env} {R : Room} {s : State} {m : MethodId} {args : Array Value} {below : List Frame} {meth : Method} {c : Code} {cells slots : Nat} {Q : State → Prop} {A : Nat → Prop}
theorem A_ext {E : Ev} {ρ ρ' : Rh} {σ σ' : Sg} {pc : Nat} {lv : List (Option Value)} {st : List Value} (hkc : ∀ k ∈ ks E, kc k ≤ 13) (h : ∀ k ∈ ks E, ∀ j, j < wd k → (isRf k j = true → ρ k j = ρ' k j) ∧ σ k j = σ' k j) (kk : AW p l e R s m args below meth c cells slots Q A E ρ' pc lv st σ') : AW p l e R s m args below meth c cells slots Q A E ρ pc lv st σ :=
  fun H locs ls hP hS hl => kk H locs ls (va_ext hkc h hP) hS hl
/-- forget how the world came about -/
theorem A_abs {P : St3 → Prop} {k : Ky} {tl : List (Option Value)} {pc : Nat} (b : St3) (h : P b) (kk : ∀ b, P b → AW p l e R s m args below meth c cells slots Q A b.1 b.2.1 pc (some (.ref (ad b.1 k)) :: tl) [] b.2.2) : AW p l e R s m args below meth c cells slots Q A b.1 b.2.1 pc (some (.ref (ad b.1 k)) :: tl) [] b.2.2 := kk b h
end EXT
theorem kcX {k : Ky} (h : kvX k) : kc k ≤ 13 := by
  obtain ⟨t, n, e, l⟩ := k
  unfold kvX at h
  split at h <;> first | (rename_i q; cases q; simp [kc]) | exact h.elim
theorem kcM {k : Ky} (h : kvM k) : kc k ≤ 13 := by
  obtain ⟨t, n, e, l⟩ := k
  unfold kvM at h
  split at h <;> first | (rename_i q; cases q; simp [kc]) | exact h.elim
/-- the reference's cells as new; the class's as they are -/
def zM (σ : Sg) : Sg := fun k j => if k.1 = 8 ∨ k.1 = 10 ∨ (k.1 = 9 ∧ 2 ≤ k.2.1) then 0 else σ k j
theorem zM_X {σ : Sg} {k : Ky} (h : kvX k) : zM σ k = σ k := by
  funext j
  unfold zM
  rw [if_neg]
  obtain ⟨t, n, e, l⟩ := k
  unfold kvX at h
  split at h <;> first | (rename_i q; cases q; simp <;> omega) | exact h.elim
theorem zM_M {σ : Sg} {k : Ky} (h : kvM k) : zM σ k = fun _ => 0 := by
  funext j
  unfold zM
  rw [if_pos]
  obtain ⟨t, n, e, l⟩ := k
  unfold kvM at h
  split at h <;> first | (rename_i q; cases q; simp <;> omega) | exact h.elim
def sM (k : Ky) : Prop := (((((((((((False ∨ k = (9, 2, 0, 0)) ∨ k = (9, 3, 0, 0)) ∨ k = (9, 4, 0, 0)) ∨ k = (9, 5, 0, 0)) ∨ k = (9, 6, 0, 0)) ∨ k = (9, 7, 0, 0)) ∨ k = (9, 8, 0, 0)) ∨ k = (9, 9, 0, 0)) ∨ k = (9, 10, 0, 0)) ∨ k = (10, 0, 0, 0)) ∨ k = (9, 11, 0, 0))
theorem kvM_iff (k : Ky) : kvM k ↔ (k = (8, 0, 0, 0) ∨ sM k) := by
  obtain ⟨t, n, e, l⟩ := k
  constructor
  · intro h
    unfold kvM at h
    split at h
    · rename_i q; cases q; obtain ⟨rfl, rfl, rfl⟩ := h; exact Or.inl rfl
    · rename_i q; cases q; obtain ⟨h1, rfl, rfl⟩ := h
      have : n = 2 ∨ n = 3 ∨ n = 4 ∨ n = 5 ∨ n = 6 ∨ n = 7 ∨ n = 8 ∨ n = 9 ∨ n = 10 ∨ n = 11 := by omega
      unfold sM
      rcases this with rfl | rfl | rfl | rfl | rfl | rfl | rfl | rfl | rfl | rfl <;> simp
    · rename_i q; cases q; obtain ⟨rfl, rfl, rfl⟩ := h; unfold sM; simp
    · exact h.elim
  · unfold sM
    rintro (h | ((((((((((h | h) | h) | h) | h) | h) | h) | h) | h) | h) | h) | h) <;> first | exact h.elim | (cases h; simp [kvM])
theorem kvX_not_M {k : Ky} (h : kvX k) : ¬ kvM k := by
  obtain ⟨t, n, e, l⟩ := k
  unfold kvX at h
  split at h <;> first | (rename_i q; cases q; simp [kvM] <;> omega) | exact h.elim
def mFirst (σ : Sg) : Sg := mLays (up2 (up2 (mAdds (mAdds (mAdds (mAdds (mAdds (mPlan σ) 0 1 5 2 5) 1 1 3 2 4) 2 1 5 2 1) 3 1 5 3 5) 4 1 6 2 6) (9, 8, 0, 0) 0 4) (9, 9, 0, 0) 0 2)
theorem mPlan_10 (σ : Sg) : mPlan σ (8, 0, 0, 0) 10 = nI 0 := by simp [mPlan, up2, kM]; rfl
theorem mAdds_10 {σ : Sg} {N : Nat} {a b c d : Int32} (h : σ (8, 0, 0, 0) 10 = nI N) : mAdds σ N a b c d (8, 0, 0, 0) 10 = nI (N + 1) := by
  simp only [mAdds, kM]
  rw [h]
  simp only [up2, and_self, if_true]
  exact nI_1 N
def YP (a : St3) (A : Nat → Prop) (b : St3) : Prop := ((b.1.1 = a.1.1 ∧ b.1.2.1 = a.1.2.1) ∧ (∀ k, k ∈ ks b.1 ↔ (k ∈ ks a.1 ∨ sM k)) ∧ (∀ k ∈ ks a.1, ad b.1 k = ad a.1 k)) ∧ okE b.1 ∧ (∀ k ∈ ks b.1, A (ad b.1 k)) ∧ b.2.1 = rh0 ∧ b.2.2 = mFirst (zM a.2.2)
theorem wc_X8_init_ari : Cond.arrayClass (newarray.typeOf .int) ∈ wsX8_init := by decide +kernel
theorem wc_X8_init_arb : Cond.arrayClass (newarray.typeOf .boolean) ∈ wsX8_init := by decide +kernel
theorem wc_X8_init_oi : Cond.methodLink RX8 1 objectInit ∈ wsX8_init := by decide +kernel
theorem wc_X8_init_oj : Cond.instanceMethod objectInit ∈ wsX8_init := by decide +kernel
theorem wi_X8_init_X8 : ∀ w ∈ u_ws RX8 TX8 18, w ∈ wsX8_init := by decide +kernel
theorem wf_X8_init_7 : Cond.fieldLink RX8 7 (TX8 3).1 (TX8 3).2.1 (TX8 3).2.2.1 ∈ wsX8_init := by decide +kernel
theorem wf_X8_init_13 : Cond.fieldLink RX8 13 (TX8 4).1 (TX8 4).2.1 (TX8 4).2.2.1 ∈ wsX8_init := by decide +kernel
theorem wf_X8_init_16 : Cond.fieldLink RX8 16 (TX8 5).1 (TX8 5).2.1 (TX8 5).2.2.1 ∈ wsX8_init := by decide +kernel
theorem wf_X8_init_19 : Cond.fieldLink RX8 19 (TX8 7).1 (TX8 7).2.1 (TX8 7).2.2.1 ∈ wsX8_init := by decide +kernel
theorem wf_X8_init_22 : Cond.fieldLink RX8 22 (TX8 8).1 (TX8 8).2.1 (TX8 8).2.2.1 ∈ wsX8_init := by decide +kernel
theorem wf_X8_init_25 : Cond.fieldLink RX8 25 (TX8 11).1 (TX8 11).2.1 (TX8 11).2.2.1 ∈ wsX8_init := by decide +kernel
theorem wf_X8_init_28 : Cond.fieldLink RX8 28 (TX8 12).1 (TX8 12).2.1 (TX8 12).2.2.1 ∈ wsX8_init := by decide +kernel
theorem wf_X8_init_31 : Cond.fieldLink RX8 31 (TX8 13).1 (TX8 13).2.1 (TX8 13).2.2.1 ∈ wsX8_init := by decide +kernel
theorem wf_X8_init_34 : Cond.fieldLink RX8 34 (TX8 14).1 (TX8 14).2.1 (TX8 14).2.2.1 ∈ wsX8_init := by decide +kernel
theorem wf_X8_init_37 : Cond.fieldLink RX8 37 (TX8 16).1 (TX8 16).2.1 (TX8 16).2.2.1 ∈ wsX8_init := by decide +kernel
theorem wf_X8_init_41 : Cond.fieldLink RX8 41 (TX8 17).1 (TX8 17).2.1 (TX8 17).2.2.1 ∈ wsX8_init := by decide +kernel
set_option maxHeartbeats 1000000 in
set_option maxRecDepth 100000 in
theorem ct_X8_init {la : Launch} {E : Ev} {ρ : Rh} {σ : Sg} (hE : okE E) (hclo : clo E ρ) (h8 : (8, 0, 0, 0) ∈ ks E) (hcl : ∀ k ∈ ks E, k = (8, 0, 0, 0) ∨ kvX k) (hnew : ∀ k, sM k → k ∉ ks E) (hρ : ∀ k ∈ ks E, kvX k → ∀ j, j < wd k → isRf k j = true → ρ k j = rh0 k j) (hσ : σ (8, 0, 0, 0) = fun _ => 0) : CN la yX8_init wsX8_init 2 61 11 2159 (E, ρ, σ) [.ref (ad E (8, 0, 0, 0))] (fun sz => YP (E, ρ, σ) (AN E sz)) := by
  refine cn_of (lv := [some _]) RX8 (by decide) rfl rfl rfl rfl hE (ok1 rfl) (Nat.le_of_ble_eq_true rfl) (fun sz p ev s m args below meth c Q hsz cx hn2 hnm hlk hr hQ => ?_)
  have hA : ∀ q, s.heap.size ≤ q → AN E sz q := fun q hq => Or.inr (by omega)
  have A0 : Acc (8, 0, 0, 0) (fun _ => False) (ρ (8, 0, 0, 0)) (E, ρ, σ) (AN E sz) (E, ρ, σ) := acc_0 ⟨hE, hclo⟩ cx.2.2.2
  have m0 := h8
  refine A_aload_n (q := 1) cx dX8_init_0 rfl rfl rfl ?_
  refine A_objInit (q := 4) cx wc_X8_init_oi wc_X8_init_oj (List.mem_of_getElem? (i := 3) rfl) dX8_init_1 rfl ⟨Nat.le_of_ble_eq_true rfl, Nat.le_of_ble_eq_true rfl⟩ rfl ?_
  refine A_aload_n (q := 5) cx dX8_init_4 rfl rfl rfl ?_
  refine A_sipush (v := 235) (q := 8) cx dX8_init_5 (by decide) rfl ?_
  have n0 : (9, 2, 0, 0) ∉ ks _ := fun h => ((A0.1.2.1 _).mp h).elim (hnew (9, 2, 0, 0) (by simp [sM])) (fun q => by simp at q)
  refine A_newarr (q := 10) cx (9, 2, 0, 0) 0 wc_X8_init_ari rfl rfl rfl rfl dX8_init_8 hA n0 A0.2.1.2 (by decide) (show Int32.toNatClampNeg 235 = 235 from by decide) (Nat.le_of_ble_eq_true rfl) (Nat.le_of_ble_eq_true rfl) (Nat.le_of_ble_eq_true rfl) rfl (fun z0 cx => ?_)
  rw [← ad_addK_ne E (9, 2, 0, 0) z0 (show (8, 0, 0, 0) ≠ (9, 2, 0, 0) by simp)]
  refine fX8_3 (q := 13) cx hnm wi_X8_init_X8 wf_X8_init_7 dX8_init_10 rfl (List.mem_append_left _ m0) rfl ?_
  refine A_abs (P := fun b => Acc (8, 0, 0, 0) (fun k => False ∨ k = (9, 2, 0, 0)) (upf (ρ (8, 0, 0, 0)) 3 (9, 2, 0, 0)) (E, ρ, σ) (AN E sz) b ∧ Cx p s m args c b.1 (AN E sz) RX8 cX8_init 1 wsX8_init ∧ (8, 0, 0, 0) ∈ ks b.1) (k := (8, 0, 0, 0)) (tl := []) (addK E (9, 2, 0, 0) z0, _, _) ⟨acc_leaf 3 A0 m0 n0 cx.2.2.1 cx.2.2.2 fi_arr, cx, List.mem_append_left _ m0⟩ (fun b1 ⟨A1, cx, m1⟩ => ?_)
  refine A_aload_n (q := 14) cx dX8_init_13 rfl rfl rfl ?_
  refine A_sipush (v := 235) (q := 17) cx dX8_init_14 (by decide) rfl ?_
  have n1 : (9, 3, 0, 0) ∉ ks _ := fun h => ((A1.1.2.1 _).mp h).elim (hnew (9, 3, 0, 0) (by simp [sM])) (fun q => by simp at q)
  refine A_newarr (q := 19) cx (9, 3, 0, 0) 0 wc_X8_init_ari rfl rfl rfl rfl dX8_init_17 hA n1 A1.2.1.2 (by decide) (show Int32.toNatClampNeg 235 = 235 from by decide) (Nat.le_of_ble_eq_true rfl) (Nat.le_of_ble_eq_true rfl) (Nat.le_of_ble_eq_true rfl) rfl (fun z1 cx => ?_)
  rw [← ad_addK_ne b1.1 (9, 3, 0, 0) z1 (show (8, 0, 0, 0) ≠ (9, 3, 0, 0) by simp)]
  refine fX8_4 (q := 22) cx hnm wi_X8_init_X8 wf_X8_init_13 dX8_init_19 rfl (List.mem_append_left _ m1) rfl ?_
  refine A_abs (P := fun b => Acc (8, 0, 0, 0) (fun k => (False ∨ k = (9, 2, 0, 0)) ∨ k = (9, 3, 0, 0)) (upf (upf (ρ (8, 0, 0, 0)) 3 (9, 2, 0, 0)) 4 (9, 3, 0, 0)) (E, ρ, σ) (AN E sz) b ∧ Cx p s m args c b.1 (AN E sz) RX8 cX8_init 1 wsX8_init ∧ (8, 0, 0, 0) ∈ ks b.1) (k := (8, 0, 0, 0)) (tl := []) (addK b1.1 (9, 3, 0, 0) z1, _, _) ⟨acc_leaf 4 A1 m1 n1 cx.2.2.1 cx.2.2.2 fi_arr, cx, List.mem_append_left _ m1⟩ (fun b2 ⟨A2, cx, m2⟩ => ?_)
  refine A_aload_n (q := 23) cx dX8_init_22 rfl rfl rfl ?_
  refine A_sipush (v := 1410) (q := 26) cx dX8_init_23 (by decide) rfl ?_
  have n2 : (9, 4, 0, 0) ∉ ks _ := fun h => ((A2.1.2.1 _).mp h).elim (hnew (9, 4, 0, 0) (by simp [sM])) (fun q => by simp at q)
  refine A_newarr (q := 28) cx (9, 4, 0, 0) 0 wc_X8_init_ari rfl rfl rfl rfl dX8_init_26 hA n2 A2.2.1.2 (by decide) (show Int32.toNatClampNeg 1410 = 1410 from by decide) (Nat.le_of_ble_eq_true rfl) (Nat.le_of_ble_eq_true rfl) (Nat.le_of_ble_eq_true rfl) rfl (fun z2 cx => ?_)
  rw [← ad_addK_ne b2.1 (9, 4, 0, 0) z2 (show (8, 0, 0, 0) ≠ (9, 4, 0, 0) by simp)]
  refine fX8_5 (q := 31) cx hnm wi_X8_init_X8 wf_X8_init_16 dX8_init_28 rfl (List.mem_append_left _ m2) rfl ?_
  refine A_abs (P := fun b => Acc (8, 0, 0, 0) (fun k => ((False ∨ k = (9, 2, 0, 0)) ∨ k = (9, 3, 0, 0)) ∨ k = (9, 4, 0, 0)) (upf (upf (upf (ρ (8, 0, 0, 0)) 3 (9, 2, 0, 0)) 4 (9, 3, 0, 0)) 5 (9, 4, 0, 0)) (E, ρ, σ) (AN E sz) b ∧ Cx p s m args c b.1 (AN E sz) RX8 cX8_init 1 wsX8_init ∧ (8, 0, 0, 0) ∈ ks b.1) (k := (8, 0, 0, 0)) (tl := []) (addK b2.1 (9, 4, 0, 0) z2, _, _) ⟨acc_leaf 5 A2 m2 n2 cx.2.2.1 cx.2.2.2 fi_arr, cx, List.mem_append_left _ m2⟩ (fun b3 ⟨A3, cx, m3⟩ => ?_)
  refine A_aload_n (q := 32) cx dX8_init_31 rfl rfl rfl ?_
  refine A_bipush (v := 12) (q := 34) cx dX8_init_32 (by decide) rfl ?_
  have n3 : (9, 5, 0, 0) ∉ ks _ := fun h => ((A3.1.2.1 _).mp h).elim (hnew (9, 5, 0, 0) (by simp [sM])) (fun q => by simp at q)
  refine A_newarr (q := 36) cx (9, 5, 0, 0) 0 wc_X8_init_ari rfl rfl rfl rfl dX8_init_34 hA n3 A3.2.1.2 (by decide) (show Int32.toNatClampNeg 12 = 12 from by decide) (Nat.le_of_ble_eq_true rfl) (Nat.le_of_ble_eq_true rfl) (Nat.le_of_ble_eq_true rfl) rfl (fun z3 cx => ?_)
  rw [← ad_addK_ne b3.1 (9, 5, 0, 0) z3 (show (8, 0, 0, 0) ≠ (9, 5, 0, 0) by simp)]
  refine fX8_7 (q := 39) cx hnm wi_X8_init_X8 wf_X8_init_19 dX8_init_36 rfl (List.mem_append_left _ m3) rfl ?_
  refine A_abs (P := fun b => Acc (8, 0, 0, 0) (fun k => (((False ∨ k = (9, 2, 0, 0)) ∨ k = (9, 3, 0, 0)) ∨ k = (9, 4, 0, 0)) ∨ k = (9, 5, 0, 0)) (upf (upf (upf (upf (ρ (8, 0, 0, 0)) 3 (9, 2, 0, 0)) 4 (9, 3, 0, 0)) 5 (9, 4, 0, 0)) 7 (9, 5, 0, 0)) (E, ρ, σ) (AN E sz) b ∧ Cx p s m args c b.1 (AN E sz) RX8 cX8_init 1 wsX8_init ∧ (8, 0, 0, 0) ∈ ks b.1) (k := (8, 0, 0, 0)) (tl := []) (addK b3.1 (9, 5, 0, 0) z3, _, _) ⟨acc_leaf 7 A3 m3 n3 cx.2.2.1 cx.2.2.2 fi_arr, cx, List.mem_append_left _ m3⟩ (fun b4 ⟨A4, cx, m4⟩ => ?_)
  refine A_aload_n (q := 40) cx dX8_init_39 rfl rfl rfl ?_
  refine A_sipush (v := 200) (q := 43) cx dX8_init_40 (by decide) rfl ?_
  have n4 : (9, 6, 0, 0) ∉ ks _ := fun h => ((A4.1.2.1 _).mp h).elim (hnew (9, 6, 0, 0) (by simp [sM])) (fun q => by simp at q)
  refine A_newarr (q := 45) cx (9, 6, 0, 0) 0 wc_X8_init_ari rfl rfl rfl rfl dX8_init_43 hA n4 A4.2.1.2 (by decide) (show Int32.toNatClampNeg 200 = 200 from by decide) (Nat.le_of_ble_eq_true rfl) (Nat.le_of_ble_eq_true rfl) (Nat.le_of_ble_eq_true rfl) rfl (fun z4 cx => ?_)
  rw [← ad_addK_ne b4.1 (9, 6, 0, 0) z4 (show (8, 0, 0, 0) ≠ (9, 6, 0, 0) by simp)]
  refine fX8_8 (q := 48) cx hnm wi_X8_init_X8 wf_X8_init_22 dX8_init_45 rfl (List.mem_append_left _ m4) rfl ?_
  refine A_abs (P := fun b => Acc (8, 0, 0, 0) (fun k => ((((False ∨ k = (9, 2, 0, 0)) ∨ k = (9, 3, 0, 0)) ∨ k = (9, 4, 0, 0)) ∨ k = (9, 5, 0, 0)) ∨ k = (9, 6, 0, 0)) (upf (upf (upf (upf (upf (ρ (8, 0, 0, 0)) 3 (9, 2, 0, 0)) 4 (9, 3, 0, 0)) 5 (9, 4, 0, 0)) 7 (9, 5, 0, 0)) 8 (9, 6, 0, 0)) (E, ρ, σ) (AN E sz) b ∧ Cx p s m args c b.1 (AN E sz) RX8 cX8_init 1 wsX8_init ∧ (8, 0, 0, 0) ∈ ks b.1) (k := (8, 0, 0, 0)) (tl := []) (addK b4.1 (9, 6, 0, 0) z4, _, _) ⟨acc_leaf 8 A4 m4 n4 cx.2.2.1 cx.2.2.2 fi_arr, cx, List.mem_append_left _ m4⟩ (fun b5 ⟨A5, cx, m5⟩ => ?_)
  refine A_aload_n (q := 49) cx dX8_init_48 rfl rfl rfl ?_
  refine A_bipush (v := 24) (q := 51) cx dX8_init_49 (by decide) rfl ?_
  have n5 : (9, 7, 0, 0) ∉ ks _ := fun h => ((A5.1.2.1 _).mp h).elim (hnew (9, 7, 0, 0) (by simp [sM])) (fun q => by simp at q)
  refine A_newarr (q := 53) cx (9, 7, 0, 0) 0 wc_X8_init_ari rfl rfl rfl rfl dX8_init_51 hA n5 A5.2.1.2 (by decide) (show Int32.toNatClampNeg 24 = 24 from by decide) (Nat.le_of_ble_eq_true rfl) (Nat.le_of_ble_eq_true rfl) (Nat.le_of_ble_eq_true rfl) rfl (fun z5 cx => ?_)
  rw [← ad_addK_ne b5.1 (9, 7, 0, 0) z5 (show (8, 0, 0, 0) ≠ (9, 7, 0, 0) by simp)]
  refine fX8_11 (q := 56) cx hnm wi_X8_init_X8 wf_X8_init_25 dX8_init_53 rfl (List.mem_append_left _ m5) rfl ?_
  refine A_abs (P := fun b => Acc (8, 0, 0, 0) (fun k => (((((False ∨ k = (9, 2, 0, 0)) ∨ k = (9, 3, 0, 0)) ∨ k = (9, 4, 0, 0)) ∨ k = (9, 5, 0, 0)) ∨ k = (9, 6, 0, 0)) ∨ k = (9, 7, 0, 0)) (upf (upf (upf (upf (upf (upf (ρ (8, 0, 0, 0)) 3 (9, 2, 0, 0)) 4 (9, 3, 0, 0)) 5 (9, 4, 0, 0)) 7 (9, 5, 0, 0)) 8 (9, 6, 0, 0)) 11 (9, 7, 0, 0)) (E, ρ, σ) (AN E sz) b ∧ Cx p s m args c b.1 (AN E sz) RX8 cX8_init 1 wsX8_init ∧ (8, 0, 0, 0) ∈ ks b.1) (k := (8, 0, 0, 0)) (tl := []) (addK b5.1 (9, 7, 0, 0) z5, _, _) ⟨acc_leaf 11 A5 m5 n5 cx.2.2.1 cx.2.2.2 fi_arr, cx, List.mem_append_left _ m5⟩ (fun b6 ⟨A6, cx, m6⟩ => ?_)
  refine A_aload_n (q := 57) cx dX8_init_56 rfl rfl rfl ?_
  refine A_iconst (v := 2) (q := 58) cx dX8_init_57 (by decide) rfl ?_
  have n6 : (9, 8, 0, 0) ∉ ks _ := fun h => ((A6.1.2.1 _).mp h).elim (hnew (9, 8, 0, 0) (by simp [sM])) (fun q => by simp at q)
  refine A_newarr (q := 60) cx (9, 8, 0, 0) 0 wc_X8_init_ari rfl rfl rfl rfl dX8_init_58 hA n6 A6.2.1.2 (by decide) (show Int32.toNatClampNeg 2 = 2 from by decide) (Nat.le_of_ble_eq_true rfl) (Nat.le_of_ble_eq_true rfl) (Nat.le_of_ble_eq_true rfl) rfl (fun z6 cx => ?_)
  rw [← ad_addK_ne b6.1 (9, 8, 0, 0) z6 (show (8, 0, 0, 0) ≠ (9, 8, 0, 0) by simp)]
  refine fX8_12 (q := 63) cx hnm wi_X8_init_X8 wf_X8_init_28 dX8_init_60 rfl (List.mem_append_left _ m6) rfl ?_
  refine A_abs (P := fun b => Acc (8, 0, 0, 0) (fun k => ((((((False ∨ k = (9, 2, 0, 0)) ∨ k = (9, 3, 0, 0)) ∨ k = (9, 4, 0, 0)) ∨ k = (9, 5, 0, 0)) ∨ k = (9, 6, 0, 0)) ∨ k = (9, 7, 0, 0)) ∨ k = (9, 8, 0, 0)) (upf (upf (upf (upf (upf (upf (upf (ρ (8, 0, 0, 0)) 3 (9, 2, 0, 0)) 4 (9, 3, 0, 0)) 5 (9, 4, 0, 0)) 7 (9, 5, 0, 0)) 8 (9, 6, 0, 0)) 11 (9, 7, 0, 0)) 12 (9, 8, 0, 0)) (E, ρ, σ) (AN E sz) b ∧ Cx p s m args c b.1 (AN E sz) RX8 cX8_init 1 wsX8_init ∧ (8, 0, 0, 0) ∈ ks b.1) (k := (8, 0, 0, 0)) (tl := []) (addK b6.1 (9, 8, 0, 0) z6, _, _) ⟨acc_leaf 12 A6 m6 n6 cx.2.2.1 cx.2.2.2 fi_arr, cx, List.mem_append_left _ m6⟩ (fun b7 ⟨A7, cx, m7⟩ => ?_)
  refine A_aload_n (q := 64) cx dX8_init_63 rfl rfl rfl ?_
  refine A_iconst (v := 3) (q := 65) cx dX8_init_64 (by decide) rfl ?_
  have n7 : (9, 9, 0, 0) ∉ ks _ := fun h => ((A7.1.2.1 _).mp h).elim (hnew (9, 9, 0, 0) (by simp [sM])) (fun q => by simp at q)
  refine A_newarr (q := 67) cx (9, 9, 0, 0) 0 wc_X8_init_ari rfl rfl rfl rfl dX8_init_65 hA n7 A7.2.1.2 (by decide) (show Int32.toNatClampNeg 3 = 3 from by decide) (Nat.le_of_ble_eq_true rfl) (Nat.le_of_ble_eq_true rfl) (Nat.le_of_ble_eq_true rfl) rfl (fun z7 cx => ?_)
  rw [← ad_addK_ne b7.1 (9, 9, 0, 0) z7 (show (8, 0, 0, 0) ≠ (9, 9, 0, 0) by simp)]
  refine fX8_13 (q := 70) cx hnm wi_X8_init_X8 wf_X8_init_31 dX8_init_67 rfl (List.mem_append_left _ m7) rfl ?_
  refine A_abs (P := fun b => Acc (8, 0, 0, 0) (fun k => (((((((False ∨ k = (9, 2, 0, 0)) ∨ k = (9, 3, 0, 0)) ∨ k = (9, 4, 0, 0)) ∨ k = (9, 5, 0, 0)) ∨ k = (9, 6, 0, 0)) ∨ k = (9, 7, 0, 0)) ∨ k = (9, 8, 0, 0)) ∨ k = (9, 9, 0, 0)) (upf (upf (upf (upf (upf (upf (upf (upf (ρ (8, 0, 0, 0)) 3 (9, 2, 0, 0)) 4 (9, 3, 0, 0)) 5 (9, 4, 0, 0)) 7 (9, 5, 0, 0)) 8 (9, 6, 0, 0)) 11 (9, 7, 0, 0)) 12 (9, 8, 0, 0)) 13 (9, 9, 0, 0)) (E, ρ, σ) (AN E sz) b ∧ Cx p s m args c b.1 (AN E sz) RX8 cX8_init 1 wsX8_init ∧ (8, 0, 0, 0) ∈ ks b.1) (k := (8, 0, 0, 0)) (tl := []) (addK b7.1 (9, 9, 0, 0) z7, _, _) ⟨acc_leaf 13 A7 m7 n7 cx.2.2.1 cx.2.2.2 fi_arr, cx, List.mem_append_left _ m7⟩ (fun b8 ⟨A8, cx, m8⟩ => ?_)
  refine A_aload_n (q := 71) cx dX8_init_70 rfl rfl rfl ?_
  refine A_iconst (v := 4) (q := 72) cx dX8_init_71 (by decide) rfl ?_
  have n8 : (9, 10, 0, 0) ∉ ks _ := fun h => ((A8.1.2.1 _).mp h).elim (hnew (9, 10, 0, 0) (by simp [sM])) (fun q => by simp at q)
  refine A_newarr (q := 74) cx (9, 10, 0, 0) 0 wc_X8_init_ari rfl rfl rfl rfl dX8_init_72 hA n8 A8.2.1.2 (by decide) (show Int32.toNatClampNeg 4 = 4 from by decide) (Nat.le_of_ble_eq_true rfl) (Nat.le_of_ble_eq_true rfl) (Nat.le_of_ble_eq_true rfl) rfl (fun z8 cx => ?_)
  rw [← ad_addK_ne b8.1 (9, 10, 0, 0) z8 (show (8, 0, 0, 0) ≠ (9, 10, 0, 0) by simp)]
  refine fX8_14 (q := 77) cx hnm wi_X8_init_X8 wf_X8_init_34 dX8_init_74 rfl (List.mem_append_left _ m8) rfl ?_
  refine A_abs (P := fun b => Acc (8, 0, 0, 0) (fun k => ((((((((False ∨ k = (9, 2, 0, 0)) ∨ k = (9, 3, 0, 0)) ∨ k = (9, 4, 0, 0)) ∨ k = (9, 5, 0, 0)) ∨ k = (9, 6, 0, 0)) ∨ k = (9, 7, 0, 0)) ∨ k = (9, 8, 0, 0)) ∨ k = (9, 9, 0, 0)) ∨ k = (9, 10, 0, 0)) (upf (upf (upf (upf (upf (upf (upf (upf (upf (ρ (8, 0, 0, 0)) 3 (9, 2, 0, 0)) 4 (9, 3, 0, 0)) 5 (9, 4, 0, 0)) 7 (9, 5, 0, 0)) 8 (9, 6, 0, 0)) 11 (9, 7, 0, 0)) 12 (9, 8, 0, 0)) 13 (9, 9, 0, 0)) 14 (9, 10, 0, 0)) (E, ρ, σ) (AN E sz) b ∧ Cx p s m args c b.1 (AN E sz) RX8 cX8_init 1 wsX8_init ∧ (8, 0, 0, 0) ∈ ks b.1) (k := (8, 0, 0, 0)) (tl := []) (addK b8.1 (9, 10, 0, 0) z8, _, _) ⟨acc_leaf 14 A8 m8 n8 cx.2.2.1 cx.2.2.2 fi_arr, cx, List.mem_append_left _ m8⟩ (fun b9 ⟨A9, cx, m9⟩ => ?_)
  refine A_aload_n (q := 78) cx dX8_init_77 rfl rfl rfl ?_
  refine A_bipush (v := 6) (q := 80) cx dX8_init_78 (by decide) rfl ?_
  have n9 : (10, 0, 0, 0) ∉ ks _ := fun h => ((A9.1.2.1 _).mp h).elim (hnew (10, 0, 0, 0) (by simp [sM])) (fun q => by simp at q)
  refine A_newarr (q := 82) cx (10, 0, 0, 0) 1 wc_X8_init_arb rfl rfl rfl rfl dX8_init_80 hA n9 A9.2.1.2 (by decide) (show Int32.toNatClampNeg 6 = 6 from by decide) (Nat.le_of_ble_eq_true rfl) (Nat.le_of_ble_eq_true rfl) (Nat.le_of_ble_eq_true rfl) rfl (fun z9 cx => ?_)
  rw [← ad_addK_ne b9.1 (10, 0, 0, 0) z9 (show (8, 0, 0, 0) ≠ (10, 0, 0, 0) by simp)]
  refine fX8_16 (q := 85) cx hnm wi_X8_init_X8 wf_X8_init_37 dX8_init_82 rfl (List.mem_append_left _ m9) rfl ?_
  refine A_abs (P := fun b => Acc (8, 0, 0, 0) (fun k => (((((((((False ∨ k = (9, 2, 0, 0)) ∨ k = (9, 3, 0, 0)) ∨ k = (9, 4, 0, 0)) ∨ k = (9, 5, 0, 0)) ∨ k = (9, 6, 0, 0)) ∨ k = (9, 7, 0, 0)) ∨ k = (9, 8, 0, 0)) ∨ k = (9, 9, 0, 0)) ∨ k = (9, 10, 0, 0)) ∨ k = (10, 0, 0, 0)) (upf (upf (upf (upf (upf (upf (upf (upf (upf (upf (ρ (8, 0, 0, 0)) 3 (9, 2, 0, 0)) 4 (9, 3, 0, 0)) 5 (9, 4, 0, 0)) 7 (9, 5, 0, 0)) 8 (9, 6, 0, 0)) 11 (9, 7, 0, 0)) 12 (9, 8, 0, 0)) 13 (9, 9, 0, 0)) 14 (9, 10, 0, 0)) 16 (10, 0, 0, 0)) (E, ρ, σ) (AN E sz) b ∧ Cx p s m args c b.1 (AN E sz) RX8 cX8_init 1 wsX8_init ∧ (8, 0, 0, 0) ∈ ks b.1) (k := (8, 0, 0, 0)) (tl := []) (addK b9.1 (10, 0, 0, 0) z9, _, _) ⟨acc_leaf 16 A9 m9 n9 cx.2.2.1 cx.2.2.2 fi_bool, cx, List.mem_append_left _ m9⟩ (fun b10 ⟨A10, cx, m10⟩ => ?_)
  refine A_aload_n (q := 86) cx dX8_init_85 rfl rfl rfl ?_
  refine A_bipush (v := 28) (q := 88) cx dX8_init_86 (by decide) rfl ?_
  have n10 : (9, 11, 0, 0) ∉ ks _ := fun h => ((A10.1.2.1 _).mp h).elim (hnew (9, 11, 0, 0) (by simp [sM])) (fun q => by simp at q)
  refine A_newarr (q := 90) cx (9, 11, 0, 0) 0 wc_X8_init_ari rfl rfl rfl rfl dX8_init_88 hA n10 A10.2.1.2 (by decide) (show Int32.toNatClampNeg 28 = 28 from by decide) (Nat.le_of_ble_eq_true rfl) (Nat.le_of_ble_eq_true rfl) (Nat.le_of_ble_eq_true rfl) rfl (fun z10 cx => ?_)
  rw [← ad_addK_ne b10.1 (9, 11, 0, 0) z10 (show (8, 0, 0, 0) ≠ (9, 11, 0, 0) by simp)]
  refine fX8_17 (q := 93) cx hnm wi_X8_init_X8 wf_X8_init_41 dX8_init_90 rfl (List.mem_append_left _ m10) rfl ?_
  refine A_abs (P := fun b => Acc (8, 0, 0, 0) (fun k => ((((((((((False ∨ k = (9, 2, 0, 0)) ∨ k = (9, 3, 0, 0)) ∨ k = (9, 4, 0, 0)) ∨ k = (9, 5, 0, 0)) ∨ k = (9, 6, 0, 0)) ∨ k = (9, 7, 0, 0)) ∨ k = (9, 8, 0, 0)) ∨ k = (9, 9, 0, 0)) ∨ k = (9, 10, 0, 0)) ∨ k = (10, 0, 0, 0)) ∨ k = (9, 11, 0, 0)) (upf (upf (upf (upf (upf (upf (upf (upf (upf (upf (upf (ρ (8, 0, 0, 0)) 3 (9, 2, 0, 0)) 4 (9, 3, 0, 0)) 5 (9, 4, 0, 0)) 7 (9, 5, 0, 0)) 8 (9, 6, 0, 0)) 11 (9, 7, 0, 0)) 12 (9, 8, 0, 0)) 13 (9, 9, 0, 0)) 14 (9, 10, 0, 0)) 16 (10, 0, 0, 0)) 17 (9, 11, 0, 0)) (E, ρ, σ) (AN E sz) b ∧ Cx p s m args c b.1 (AN E sz) RX8 cX8_init 1 wsX8_init ∧ (8, 0, 0, 0) ∈ ks b.1) (k := (8, 0, 0, 0)) (tl := []) (addK b10.1 (9, 11, 0, 0) z10, _, _) ⟨acc_leaf 17 A10 m10 n10 cx.2.2.1 cx.2.2.2 fi_arr, cx, List.mem_append_left _ m10⟩ (fun b11 ⟨A11, cx, m11⟩ => ?_)
  have hX : yin b11.1 := fun k hk => (A11.1.2.1 k).mpr (((kvM_iff k).mp hk).elim (fun q => Or.inl (q ▸ h8)) Or.inr)
  have hE := cx.2.2.1
  have AA := A11
  refine A_ext (ρ' := rh0) (σ' := zM σ) (fun k hk => ?_) (fun k hk j hj => ?_) ?_
  · rcases (AA.1.2.1 k).mp hk with q | q
    · rcases hcl k q with q | q
      · rw [q]; decide
      · exact kcX q
    · exact kcM ((kvM_iff k).mpr (Or.inr q))
  · rcases (AA.1.2.1 k).mp hk with q | q
    · rcases hcl k q with q | q2
      · subst q
        rw [zM_M ((kvM_iff _).mpr (Or.inl rfl))]
        refine ⟨fun hrf => ?_, ?_⟩
        · have hr := AA.2.2.2.2.1
          rw [hr]
          have hj18 : j < 18 := hj
          match j, hj18, hrf with
          | 3, _, _ => simp [upf, rh0]
          | 4, _, _ => simp [upf, rh0]
          | 5, _, _ => simp [upf, rh0]
          | 7, _, _ => simp [upf, rh0]
          | 8, _, _ => simp [upf, rh0]
          | 11, _, _ => simp [upf, rh0]
          | 12, _, _ => simp [upf, rh0]
          | 13, _, _ => simp [upf, rh0]
          | 14, _, _ => simp [upf, rh0]
          | 16, _, _ => simp [upf, rh0]
          | 17, _, _ => simp [upf, rh0]
        · rw [AA.2.2.2.2.2.1]; show σ (8, 0, 0, 0) j = 0; rw [hσ]
      · rw [zM_X q2]
        have hr := AA.1.2.2.2 k (fun q => kvX_not_M q2 ((kvM_iff k).mpr (Or.inr q))) (fun q => kvX_not_M q2 ((kvM_iff k).mpr (Or.inl q)))
        rw [hr.1, hr.2]
        exact ⟨fun hrf => hρ k q q2 j hj hrf, rfl⟩
    · have hM : kvM k := (kvM_iff k).mpr (Or.inr q)
      rw [zM_M hM]
      have hf := AA.2.2.2.1 k q j hj
      refine ⟨hf.1, hf.2.trans ?_⟩
      obtain ⟨t, n, e, l⟩ := k
      unfold kvM at hM
      split at hM <;> first | (rename_i q; cases q; rfl) | exact hM.elim
  refine A_aload_n (q := 94) cx dX8_init_93 rfl rfl rfl ?_
  refine VV0 (q := 97) cx (ct_X8_clearsPlan hE hX) (cwV 0 cx.1.2.2.2.2 gX8_init_X8_clearsPlan rfl rfl rfl (by decide +kernel) ⟨Nat.le_of_ble_eq_true rfl, Nat.le_of_ble_eq_true rfl⟩) dX8_init_94 rfl rfl (in8 hX) rfl (Nat.le_of_ble_eq_true rfl) ⟨Nat.le_of_ble_eq_true rfl, Nat.le_of_ble_eq_true rfl⟩ rfl ?_
  refine A_aload_n (q := 98) cx dX8_init_97 rfl rfl rfl ?_
  refine A_iconst (v := 1) (q := 99) cx dX8_init_98 (by decide) rfl ?_
  refine A_iconst (v := 5) (q := 100) cx dX8_init_99 (by decide) rfl ?_
  refine A_iconst (v := 2) (q := 101) cx dX8_init_100 (by decide) rfl ?_
  refine A_iconst (v := 5) (q := 102) cx dX8_init_101 (by decide) rfl ?_
  refine VV4 (q := 105) cx (ct_X8_adds hE hX (N := 0) (mPlan_10 _) (by decide)) (cwV 4 cx.1.2.2.2.2 gX8_init_X8_adds rfl rfl rfl (by decide +kernel) ⟨Nat.le_of_ble_eq_true rfl, Nat.le_of_ble_eq_true rfl⟩) dX8_init_102 rfl rfl (in8 hX) rfl (Nat.le_of_ble_eq_true rfl) ⟨Nat.le_of_ble_eq_true rfl, Nat.le_of_ble_eq_true rfl⟩ rfl ?_
  refine A_aload_n (q := 106) cx dX8_init_105 rfl rfl rfl ?_
  refine A_iconst (v := 1) (q := 107) cx dX8_init_106 (by decide) rfl ?_
  refine A_iconst (v := 3) (q := 108) cx dX8_init_107 (by decide) rfl ?_
  refine A_iconst (v := 2) (q := 109) cx dX8_init_108 (by decide) rfl ?_
  refine A_iconst (v := 4) (q := 110) cx dX8_init_109 (by decide) rfl ?_
  refine VV4 (q := 113) cx (ct_X8_adds hE hX (N := 1) (mAdds_10 (N := 0) (mPlan_10 _)) (by decide)) (cwV 4 cx.1.2.2.2.2 gX8_init_X8_adds rfl rfl rfl (by decide +kernel) ⟨Nat.le_of_ble_eq_true rfl, Nat.le_of_ble_eq_true rfl⟩) dX8_init_110 rfl rfl (in8 hX) rfl (Nat.le_of_ble_eq_true rfl) ⟨Nat.le_of_ble_eq_true rfl, Nat.le_of_ble_eq_true rfl⟩ rfl ?_
  refine A_aload_n (q := 114) cx dX8_init_113 rfl rfl rfl ?_
  refine A_iconst (v := 1) (q := 115) cx dX8_init_114 (by decide) rfl ?_
  refine A_iconst (v := 5) (q := 116) cx dX8_init_115 (by decide) rfl ?_
  refine A_iconst (v := 2) (q := 117) cx dX8_init_116 (by decide) rfl ?_
  refine A_iconst (v := 1) (q := 118) cx dX8_init_117 (by decide) rfl ?_
  refine VV4 (q := 121) cx (ct_X8_adds hE hX (N := 2) (mAdds_10 (N := 1) (mAdds_10 (N := 0) (mPlan_10 _))) (by decide)) (cwV 4 cx.1.2.2.2.2 gX8_init_X8_adds rfl rfl rfl (by decide +kernel) ⟨Nat.le_of_ble_eq_true rfl, Nat.le_of_ble_eq_true rfl⟩) dX8_init_118 rfl rfl (in8 hX) rfl (Nat.le_of_ble_eq_true rfl) ⟨Nat.le_of_ble_eq_true rfl, Nat.le_of_ble_eq_true rfl⟩ rfl ?_
  refine A_aload_n (q := 122) cx dX8_init_121 rfl rfl rfl ?_
  refine A_iconst (v := 1) (q := 123) cx dX8_init_122 (by decide) rfl ?_
  refine A_iconst (v := 5) (q := 124) cx dX8_init_123 (by decide) rfl ?_
  refine A_iconst (v := 3) (q := 125) cx dX8_init_124 (by decide) rfl ?_
  refine A_iconst (v := 5) (q := 126) cx dX8_init_125 (by decide) rfl ?_
  refine VV4 (q := 129) cx (ct_X8_adds hE hX (N := 3) (mAdds_10 (N := 2) (mAdds_10 (N := 1) (mAdds_10 (N := 0) (mPlan_10 _)))) (by decide)) (cwV 4 cx.1.2.2.2.2 gX8_init_X8_adds rfl rfl rfl (by decide +kernel) ⟨Nat.le_of_ble_eq_true rfl, Nat.le_of_ble_eq_true rfl⟩) dX8_init_126 rfl rfl (in8 hX) rfl (Nat.le_of_ble_eq_true rfl) ⟨Nat.le_of_ble_eq_true rfl, Nat.le_of_ble_eq_true rfl⟩ rfl ?_
  refine A_aload_n (q := 130) cx dX8_init_129 rfl rfl rfl ?_
  refine A_iconst (v := 1) (q := 131) cx dX8_init_130 (by decide) rfl ?_
  refine A_bipush (v := 6) (q := 133) cx dX8_init_131 (by decide) rfl ?_
  refine A_iconst (v := 2) (q := 134) cx dX8_init_133 (by decide) rfl ?_
  refine A_bipush (v := 6) (q := 136) cx dX8_init_134 (by decide) rfl ?_
  refine VV4 (q := 139) cx (ct_X8_adds hE hX (N := 4) (mAdds_10 (N := 3) (mAdds_10 (N := 2) (mAdds_10 (N := 1) (mAdds_10 (N := 0) (mPlan_10 _))))) (by decide)) (cwV 4 cx.1.2.2.2.2 gX8_init_X8_adds rfl rfl rfl (by decide +kernel) ⟨Nat.le_of_ble_eq_true rfl, Nat.le_of_ble_eq_true rfl⟩) dX8_init_136 rfl rfl (in8 hX) rfl (Nat.le_of_ble_eq_true rfl) ⟨Nat.le_of_ble_eq_true rfl, Nat.le_of_ble_eq_true rfl⟩ rfl ?_
  refine A_aload_n (q := 140) cx dX8_init_139 rfl rfl rfl ?_
  refine gX8_12 (q := 143) cx wi_X8_init_X8 wf_X8_init_28 dX8_init_140 rfl (in8 hX) rfl rfl ?_
  refine A_iconst (v := 0) (q := 144) cx dX8_init_143 (by decide) rfl ?_
  refine A_iconst (v := 4) (q := 145) cx dX8_init_144 (by decide) rfl ?_
  refine A_iastore (q := 146) cx dX8_init_145 rfl (in9 hX (by decide)) (ixc 0) (by show _ < 2; omega) rfl ?_
  refine A_aload_n (q := 147) cx dX8_init_146 rfl rfl rfl ?_
  refine gX8_13 (q := 150) cx wi_X8_init_X8 wf_X8_init_31 dX8_init_147 rfl (in8 hX) rfl rfl ?_
  refine A_iconst (v := 0) (q := 151) cx dX8_init_150 (by decide) rfl ?_
  refine A_iconst (v := 2) (q := 152) cx dX8_init_151 (by decide) rfl ?_
  refine A_iastore (q := 153) cx dX8_init_152 rfl (in9 hX (by decide)) (ixc 0) (by show _ < 3; omega) rfl ?_
  refine A_aload_n (q := 154) cx dX8_init_153 rfl rfl rfl ?_
  refine VV0 (q := 157) cx (ct_X8_lays hE hX) (cwV 0 cx.1.2.2.2.2 gX8_init_X8_lays rfl rfl rfl (by decide +kernel) ⟨Nat.le_of_ble_eq_true rfl, Nat.le_of_ble_eq_true rfl⟩) dX8_init_154 rfl rfl (in8 hX) rfl (Nat.le_of_ble_eq_true rfl) ⟨Nat.le_of_ble_eq_true rfl, Nat.le_of_ble_eq_true rfl⟩ rfl ?_
  refine A_cret (a := (E, ρ, σ)) (sz := sz) (post := fun sz => YP (E, ρ, σ) (AN E sz)) cx hlk hr hQ dX8_init_157 (Nat.le_of_ble_eq_true rfl) (Nat.le_of_ble_eq_true rfl) ⟨⟨AA.1.1, fun k => AA.1.2.1 k, AA.1.2.2.1⟩, AA.2.1.1, AA.2.2.1, rfl, rfl⟩ AA.1.1.1.symm
