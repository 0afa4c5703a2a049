theorem wc_X3_init_oi : Cond.methodLink RX3 1 objectInit ∈ wsX3_init := by decide +kernel
theorem wc_X3_init_oj : Cond.instanceMethod objectInit ∈ wsX3_init := by decide +kernel
set_option maxHeartbeats 1000000 in
set_option maxRecDepth 100000 in
theorem ct_X3_init {la : Launch} {a : St3} {k : Ky} (hE : okE a.1) : CN la yX3_init wsX3_init 1 12 0 0 a [.ref (ad a.1 k)] (fun _ b => b = a) := by
  refine cn_of (lv := [some _]) RX3 (by decide) rfl rfl rfl rfl hE (ok1 rfl) (Nat.le_of_ble_eq_true rfl) (fun sz p ev s m args below meth c Q hsz cx hn2 hnm hlk hr hQ => ?_)
  refine A_aload_n (q := 1) cx dX3_init_0 rfl rfl rfl ?_
  refine A_objInit (q := 4) cx wc_X3_init_oi wc_X3_init_oj (List.mem_of_getElem? (i := 3) rfl) dX3_init_1 rfl ⟨Nat.le_of_ble_eq_true rfl, Nat.le_of_ble_eq_true rfl⟩ rfl ?_
  exact A_cret (a := a) (sz := sz) (post := fun _ b => b = a) cx hlk hr hQ dX3_init_4 (Nat.le_refl _) (Nat.le_refl _) rfl rfl
theorem wc_X1_init_oi : Cond.methodLink RX1 3 objectInit ∈ wsX1_init := by decide +kernel
theorem wc_X1_init_oj : Cond.instanceMethod objectInit ∈ wsX1_init := by decide +kernel
set_option maxHeartbeats 1000000 in
set_option maxRecDepth 100000 in
theorem ct_X1_init {la : Launch} {a : St3} {k : Ky} (hE : okE a.1) : CN la yX1_init wsX1_init 1 12 0 0 a [.ref (ad a.1 k)] (fun _ b => b = a) := by
  refine cn_of (lv := [some _]) RX1 (by decide) rfl rfl rfl rfl hE (ok1 rfl) (Nat.le_of_ble_eq_true rfl) (fun sz p ev s m args below meth c Q hsz cx hn2 hnm hlk hr hQ => ?_)
  refine A_aload_n (q := 1) cx dX1_init_0 rfl rfl rfl ?_
  refine A_objInit (q := 4) cx wc_X1_init_oi wc_X1_init_oj (List.mem_of_getElem? (i := 3) rfl) dX1_init_1 rfl ⟨Nat.le_of_ble_eq_true rfl, Nat.le_of_ble_eq_true rfl⟩ rfl ?_
  exact A_cret (a := a) (sz := sz) (post := fun _ b => b = a) cx hlk hr hQ dX1_init_4 (Nat.le_refl _) (Nat.le_refl _) rfl rfl
def sP (n e l : Nat) (k : Ky) : Prop := k = (3, n, e, l) ∨ k = (14, n, e, l)
theorem port_post {n e l : Nat} {E : Ev} {ρ : Rh} {σ : Sg} {A : Nat → Prop} {z1 z2 : Nat} (hρ : ρ (5, n, e, l) = fun _ => none) (hσ : σ (5, n, e, l) = fun _ => 0) (h5 : (5, n, e, l) ∈ ks E) (h3 : (3, n, e, l) ∉ ks E) (h14 : (14, n, e, l) ∉ ks E) (hclo : clo E ρ) (hok : okE (addK (addK E (3, n, e, l) z1) (14, n, e, l) z2)) (hA : ∀ k ∈ ks (addK (addK E (3, n, e, l) z1) (14, n, e, l) z2), A (ad (addK (addK E (3, n, e, l) z1) (14, n, e, l) z2) k)) :
    PP (sP n e l) (fun k => k = (5, n, e, l)) (E, ρ, σ) A (addK (addK E (3, n, e, l) z1) (14, n, e, l) z2, upr (srr (upr (srr ρ (3, n, e, l) (fun _ => none)) (5, n, e, l) 4 (3, n, e, l)) (14, n, e, l) (fun _ => none)) (5, n, e, l) 5 (14, n, e, l), sr (sr σ (3, n, e, l) (fun _ => 0)) (14, n, e, l) (fun _ => 0)) := by
  refine ⟨⟨⟨rfl, rfl⟩, fun k => ?_, fun k hk => ?_, fun k h1 h2 => ?_⟩, ⟨hok, ?_⟩, hA, fun k hk => ?_⟩
  · show k ∈ (ks E ++ [(3, n, e, l)]) ++ [(14, n, e, l)] ↔ _
    simp [sP, or_assoc]
  · show ad (addK (addK E (3, n, e, l) z1) (14, n, e, l) z2) k = ad E k
    rw [ad_addK_ne _ _ _ (fun q => h14 (by rw [← q]; exact hk)), ad_addK_ne _ _ _ (fun q => h3 (by rw [← q]; exact hk))]
  · have a1 : k ≠ (3, n, e, l) := fun q => h1 (Or.inl q)
    have a2 : k ≠ (14, n, e, l) := fun q => h1 (Or.inr q)
    exact ⟨by show upr _ _ _ _ k = ρ k; rw [upr_nk _ _ _ _ h2, srr_ne _ _ _ a2, upr_nk _ _ _ _ h2, srr_ne _ _ _ a1], by show sr _ _ _ k = σ k; rw [sr_ne _ _ _ a2, sr_ne _ _ _ a1]⟩
  · exact clo_upr (clo_addK z2 (clo_upr (clo_addK z1 hclo) (List.mem_append_right _ (List.mem_singleton.mpr rfl)))) (List.mem_append_right _ (List.mem_singleton.mpr rfl))
  · rcases hk with (rfl | rfl) | rfl
    · intro j hj
      exact ⟨fun h => (by cases h), by simp [sr, ini0]⟩
    · intro j hj
      exact ⟨fun h => (by cases h), by simp [sr, ini0]⟩
    · intro j hj
      have hj : j < 11 := hj
      refine ⟨fun h => ?_, by simp [sr, ini0, hσ]⟩
      have hj2 : j = 4 ∨ j = 5 := by
        match j, hj, h with
        | 4, _, _ => exact Or.inl rfl
        | 5, _, _ => exact Or.inr rfl
      rcases hj2 with rfl | rfl
      · simp [upr, srr, rh0]
      · simp [upr, srr, rh0]
theorem wc_X5_init_oi : Cond.methodLink RX5 3 objectInit ∈ wsX5_init := by decide +kernel
theorem wc_X5_init_oj : Cond.instanceMethod objectInit ∈ wsX5_init := by decide +kernel
theorem wc_X5_init_cl9 : Cond.classLink RX5 9 RX3 ∈ wsX5_init := by decide +kernel
theorem wc_X5_init_isX3 : Cond.instantiable RX3 5 ∈ wsX5_init := by decide +kernel
theorem wc_X5_init_inX3 : Cond.initialized RX3 ∈ wsX5_init := by decide +kernel
theorem wi_X5_init_X3 : ∀ w ∈ u_ws RX3 TX3 5, w ∈ wsX5_init := by decide +kernel
theorem wc_X5_init_imX3_init : Cond.instanceMethod yX3_init ∈ wsX5_init := by decide +kernel
theorem wi_X5_init_X5 : ∀ w ∈ u_ws RX5 TX5 11, w ∈ wsX5_init := by decide +kernel
theorem wf_X5_init_12 : Cond.fieldLink RX5 12 (TX5 4).1 (TX5 4).2.1 (TX5 4).2.2.1 ∈ wsX5_init := by decide +kernel
theorem wf_X5_init_18 : Cond.fieldLink RX5 18 (TX5 5).1 (TX5 5).2.1 (TX5 5).2.2.1 ∈ wsX5_init := by decide +kernel
set_option maxHeartbeats 1000000 in
set_option maxRecDepth 100000 in
theorem ct_X5_init {la : Launch} {n e l : Nat} {E : Ev} {ρ : Rh} {σ : Sg} (hE : okE E) (hclo : clo E ρ) (h5 : (5, n, e, l) ∈ ks E) (h3 : (3, n, e, l) ∉ ks E) (h14 : (14, n, e, l) ∉ ks E) (hρ : ρ (5, n, e, l) = fun _ => none) (hσ : σ (5, n, e, l) = fun _ => 0) : CN la yX5_init wsX5_init 2 32 2 10 (E, ρ, σ) [.ref (ad E (5, n, e, l))] (fun sz => PP (sP n e l) (fun k => k = (5, n, e, l)) (E, ρ, σ) (AN E sz)) := by
  refine cn_of (lv := [some _]) RX5 (by decide) rfl rfl rfl rfl hE (ok1 rfl) (Nat.le_of_ble_eq_true rfl) (fun sz p ev s m args below meth c Q hsz cx hn2 hnm hlk hr hQ => ?_)
  have hA : ∀ q, s.heap.size ≤ q → AN E sz q := fun q hq => Or.inr (by omega)
  refine A_aload_n (q := 1) cx dX5_init_0 rfl rfl rfl ?_
  refine A_objInit (q := 4) cx wc_X5_init_oi wc_X5_init_oj (List.mem_of_getElem? (i := 3) rfl) dX5_init_1 rfl ⟨Nat.le_of_ble_eq_true rfl, Nat.le_of_ble_eq_true rfl⟩ rfl ?_
  refine A_aload_n (q := 5) cx dX5_init_4 rfl rfl rfl ?_
  refine A_new (q := 8) (ci := 3) (fs := [.int 0, .int 0, .int 0, .int 0, .int 0]) cx (3, n, e, l) tyX3 tyX3_ok wi_X5_init_X3 wc_X5_init_cl9 wc_X5_init_isX3 wc_X5_init_inX3 rfl dX5_init_5 hA h3 hclo rfl (fun j hj => by match j, hj with | 0, _ | 1, _ | 2, _ | 3, _ | 4, _ => rfl) (Nat.le_of_ble_eq_true rfl) (Nat.le_of_ble_eq_true rfl) rfl (fun z_5 cx => ?_)
  refine A_dup (q := 9) cx dX5_init_8 rfl rfl ?_
  refine TN0 (q := 12) cx hn2 (ct_X3_init (a := (_, _, _)) cx.2.2.1) ⟨va_cnB 0 cx.1.2.2.2.2 gX5_init_X3_init_n11 rfl rfl rfl hn2.1.2.2.1 (cx.1.2.2.2.2 _ wc_X5_init_inX3) (by decide +kernel) ⟨Nat.le_of_ble_eq_true rfl, Nat.le_of_ble_eq_true rfl⟩, rfl, cx.1.2.2.2.2 _ wc_X5_init_imX3_init⟩ dX5_init_9 hA rfl (Nat.le_of_ble_eq_true rfl) ⟨Nat.le_of_ble_eq_true rfl, Nat.le_of_ble_eq_true rfl⟩ rfl (fun sz1 b hb hb1 hAN => ?_)
  subst hb
  refine fX5_4 (q := 15) cx hnm wi_X5_init_X5 wf_X5_init_12 dX5_init_12 rfl (List.mem_append_left _ h5) rfl ?_
  refine A_aload_n (q := 16) cx dX5_init_15 rfl rfl rfl ?_
  have h14b : (14, n, e, l) ∉ ks (addK E (3, n, e, l) z_5) := fun h => (List.mem_append.mp h).elim h14 (fun q => by cases List.mem_singleton.mp q)
  have hclo2 : clo (addK E (3, n, e, l) z_5) (upr (srr ρ (3, n, e, l) (fun _ => none)) (5, n, e, l) 4 (3, n, e, l)) := clo_upr (clo_addK z_5 hclo) (List.mem_append_right _ (List.mem_singleton.mpr rfl))
  refine A_new (q := 19) (ci := 3) (fs := [.int 0, .int 0, .int 0, .int 0, .int 0]) cx (14, n, e, l) tyX3 tyX3_ok wi_X5_init_X3 wc_X5_init_cl9 wc_X5_init_isX3 wc_X5_init_inX3 rfl dX5_init_16 hA h14b hclo2 rfl (fun j hj => by match j, hj with | 0, _ | 1, _ | 2, _ | 3, _ | 4, _ => rfl) (Nat.le_of_ble_eq_true rfl) (Nat.le_of_ble_eq_true rfl) rfl (fun z_16 cx => ?_)
  refine A_dup (q := 20) cx dX5_init_19 rfl rfl ?_
  refine TN0 (q := 23) cx hn2 (ct_X3_init (a := (_, _, _)) cx.2.2.1) ⟨va_cnB 0 cx.1.2.2.2.2 gX5_init_X3_init_n11 rfl rfl rfl hn2.1.2.2.1 (cx.1.2.2.2.2 _ wc_X5_init_inX3) (by decide +kernel) ⟨Nat.le_of_ble_eq_true rfl, Nat.le_of_ble_eq_true rfl⟩, rfl, cx.1.2.2.2.2 _ wc_X5_init_imX3_init⟩ dX5_init_20 hA rfl (Nat.le_of_ble_eq_true rfl) ⟨Nat.le_of_ble_eq_true rfl, Nat.le_of_ble_eq_true rfl⟩ rfl (fun sz1 b hb hb1 hAN => ?_)
  subst hb
  refine fX5_5 (q := 26) cx hnm wi_X5_init_X5 wf_X5_init_18 dX5_init_23 rfl (List.mem_append_left _ (List.mem_append_left _ h5)) rfl ?_
  exact A_cret (a := (E, ρ, σ)) (sz := sz) (post := fun sz => PP (sP n e l) (fun k => k = (5, n, e, l)) (E, ρ, σ) (AN E sz)) cx hlk hr hQ dX5_init_26 (Nat.le_refl _) (Nat.le_refl _) (port_post hρ hσ h5 h3 h14 hclo cx.2.2.1 cx.2.2.2) rfl
