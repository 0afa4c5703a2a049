/-! one cell after the other is made and put into the cell kt -/
def Acc (kt : Ky) (S : Ky → Prop) (r : Nat → Option Ky) (a : St3) (A : Nat → Prop) (b : St3) : Prop :=
  Gr S (fun k => k = kt) a b ∧ Ok3 b ∧ (∀ k ∈ ks b.1, A (ad b.1 k)) ∧ (∀ k, S k → Fi k b) ∧ b.2.1 kt = r ∧ b.2.2 kt = a.2.2 kt ∧ ¬ S kt
def upf (r : Nat → Option Ky) (j : Nat) (k : Ky) : Nat → Option Ky := fun j' => if j' = j then some k else r j'
theorem acc_0 {kt : Ky} {a : St3} {A : Nat → Prop} (hok : Ok3 a) (hA : ∀ k ∈ ks a.1, A (ad a.1 k)) : Acc kt (fun _ => False) (a.2.1 kt) a A a :=
  ⟨Gr.rf _ _ (fun _ => id) a, hok, hA, fun _ h => h.elim, rfl, rfl, id⟩
theorem acc_step {kt k0 : Ky} {S S' : Ky → Prop} {r : Nat → Option Ky} {a b d : St3} {A A' : Nat → Prop} {z : Nat} (j : Nat) (h : Acc kt S r a A b) (hkt : kt ∈ ks b.1) (hnk : ∀ k, (S' k ∨ k = k0) → k ∉ ks b.1) (hp : PP S' (fun k => k = k0) (addK b.1 k0 z, srr b.2.1 k0 (fun _ => none), sr b.2.2 k0 (fun _ => 0)) A' d) (hA : ∀ z, A' z → A z) : Acc kt (fun k => S k ∨ (S' k ∨ k = k0)) (upf r j k0) a A (d.1, upr d.2.1 kt j k0, d.2.2) := by
  obtain ⟨g, ok, hAd, hfi, hr, hs, hnS⟩ := h
  have hk0 : k0 ∉ ks b.1 := hnk k0 (Or.inr rfl)
  have g1 := add_gr z hk0 (fun _ => False)
  have g2 := hp.1
  have row : ∀ k, ¬ S' k → k ≠ k0 → d.2.1 k = b.2.1 k ∧ d.2.2 k = b.2.2 k := by
    intro k q1 q2
    obtain ⟨x1, x2⟩ := g2.row (k := k) q1 q2
    obtain ⟨y1, y2⟩ := g1.row (k := k) q2 id
    exact ⟨x1.trans y1, x2.trans y2⟩
  have m0 : k0 ∈ ks d.1 := (g2.2.1 _).mpr (Or.inl ((g1.2.1 _).mpr (Or.inr rfl)))
  have nS' : ¬ S' kt := fun q => hnk kt (Or.inl q) hkt
  have n0 : kt ≠ k0 := fun q => hnk kt (Or.inr q) hkt
  obtain ⟨t1, t2⟩ := row kt nS' n0
  refine ⟨?_, ⟨hp.2.1.1, clo_upr hp.2.1.2 m0⟩, fun k hk => hA _ (hp.2.2.1 k hk), fun k hk => ?_, ?_, ?_, fun q => q.elim hnS (fun q => hnk kt q hkt)⟩
  · have g3 : Gr (fun k => S k ∨ (k = k0 ∨ S' k)) (fun k => k = kt ∨ k = k0) a d := g.tr (g1.tr g2 (S := fun k => k = k0 ∨ S' k) (T := fun k => k = k0) (fun k => Iff.rfl) (fun k q => q.elim (fun f => f.elim) (fun q => Or.inr q))) (fun k => Iff.rfl) (fun k q => q.elim (fun q => Or.inr (Or.inl q)) (fun q => Or.inr (Or.inr q)))
    refine g3.tr (Gr.put (a := d) (k := kt) (j := j) (t := k0)) (fun k => ?_) (fun k q => ?_)
    · exact ⟨fun q => Or.inl (q.elim Or.inl (fun q => Or.inr (q.elim Or.inr Or.inl))), fun q => q.elim (fun q => q.elim Or.inl (fun q => Or.inr (q.elim Or.inr Or.inl))) (fun f => f.elim)⟩
    · rcases q with (q | q) | q
      · exact Or.inr q
      · exact Or.inl (Or.inr (Or.inr q))
      · exact Or.inr q
  · by_cases hkk : k = kt
    · subst hkk
      rcases hk with q | q
      · exact absurd q hnS
      · exact absurd hkt (hnk k q)
    · have hu : (upr d.2.1 kt j k0) k = d.2.1 k := upr_nk _ _ _ _ hkk
      rcases hk with q | q
      · have kb : k ∈ ks b.1 := (g.2.1 k).mpr (Or.inr q)
        obtain ⟨x1, x2⟩ := row k (fun w => hnk k (Or.inl w) kb) (fun w => hnk k (Or.inr w) kb)
        exact ((hfi k q).keep x1 x2).keep hu rfl
      · exact (hp.2.2.2 k q).keep hu rfl
  · show upr d.2.1 kt j k0 kt = _
    funext j'
    unfold upf
    by_cases hj : j' = j
    · subst hj; rw [upr_at, if_pos rfl]
    · rw [upr_nj _ _ _ _ hj, if_neg hj, t1, hr]
  · show d.2.2 kt = _
    rw [t2, hs]
theorem pp_self {a : St3} {k0 : Ky} {A : Nat → Prop} (hok : Ok3 a) (hA : ∀ k ∈ ks a.1, A (ad a.1 k)) (hf : Fi k0 a) : PP (fun _ => False) (fun k => k = k0) a A a :=
  ⟨Gr.rf _ _ (fun _ => id) a, hok, hA, fun k hk => hk.elim (fun f => f.elim) (fun q => by rw [q]; exact hf)⟩
/-- Net -/
def sN (n : Nat) (k : Ky) : Prop := (sE n 0 k ∨ k = (0, n, 0, 0)) ∨ (sE n 1 k ∨ k = (0, n, 1, 0))
theorem sE_keys {n e : Nat} {k : Ky} (h : sE n e k) : k.2.1 = n ∧ k.2.2.1 = e ∧ (k.1 = 13 ∨ k.1 = 11 ∨ k.1 = 5 ∨ k.1 = 3 ∨ k.1 = 14 ∨ k.1 = 1) := by
  rcases h with (rfl | ⟨l, _, rfl | rfl | rfl⟩) | rfl | ⟨f, _, rfl⟩ <;> simp
theorem sN_keys {n : Nat} {k : Ky} (h : sN n k) : k.2.1 = n ∧ (k.1 = 13 ∨ k.1 = 11 ∨ k.1 = 5 ∨ k.1 = 3 ∨ k.1 = 14 ∨ k.1 = 1 ∨ k.1 = 0) := by
  rcases h with (h | rfl) | (h | rfl)
  · obtain ⟨h1, -, h2⟩ := sE_keys h; refine ⟨h1, ?_⟩; omega
  · simp
  · obtain ⟨h1, -, h2⟩ := sE_keys h; refine ⟨h1, ?_⟩; omega
  · simp
theorem pp_of_acc {kt : Ky} {S S2 : Ky → Prop} {r : Nat → Option Ky} {a b : St3} {A : Nat → Prop} (h : Acc kt S r a A b) (hS : ∀ k, S2 k ↔ S k) (hf : Fi kt b) : PP S2 (fun k => k = kt) a A b := by
  obtain ⟨g, ok, hAd, hfi, hr, hs, -⟩ := h
  refine ⟨⟨g.1, fun k => by rw [g.2.1 k, hS k], g.2.2.1, fun k h1 h2 => g.2.2.2 k (fun q => h1 ((hS k).mpr q)) h2⟩, ok, hAd, fun k hk => ?_⟩
  rcases hk with q | q
  · exact hfi k ((hS k).mp q)
  · rw [q]; exact hf
theorem acc_cx {p : Program} {s : State} {m : MethodId} {args : Array Value} {c : Code} {own : String} {cc : ByteArray} {nL : Nat} {Ts : List Cond} {kt : Ky} {S : Ky → Prop} {r : Nat → Option Ky} {A : Nat → Prop} {a b : St3} (cx : Cx p s m args c a.1 A own cc nL Ts) (h : Acc kt S r a A b) : Cx p s m args c b.1 A own cc nL Ts := by
  refine ⟨cx.1, ?_, h.2.1.1, h.2.2.1⟩
  obtain ⟨h1, h2⟩ := h.1.1
  have := cx.2.1
  unfold sw tys at this ⊢
  rw [h1, h2]; exact this
theorem wc_X4_init_oi : Cond.methodLink RX4 3 objectInit ∈ wsX4_init := by decide +kernel
theorem wc_X4_init_oj : Cond.instanceMethod objectInit ∈ wsX4_init := by decide +kernel
theorem wc_X4_init_cl9 : Cond.classLink RX4 9 RX0 ∈ wsX4_init := by decide +kernel
theorem wc_X4_init_isX0 : Cond.instantiable RX0 4 ∈ wsX4_init := by decide +kernel
theorem wc_X4_init_inX0 : Cond.initialized RX0 ∈ wsX4_init := by decide +kernel
theorem wi_X4_init_X0 : ∀ w ∈ u_ws RX0 TX0 4, w ∈ wsX4_init := by decide +kernel
theorem wc_X4_init_imX0_init : Cond.instanceMethod yX0_init ∈ wsX4_init := by decide +kernel
theorem wc_X4_init_ml11 : Cond.methodLink RX4 11 yX0_init ∈ wsX4_init := by decide +kernel
theorem wi_X4_init_X4 : ∀ w ∈ u_ws RX4 TX4 7, w ∈ wsX4_init := by decide +kernel
theorem wf_X4_init_14 : Cond.fieldLink RX4 14 (TX4 0).1 (TX4 0).2.1 (TX4 0).2.2.1 ∈ wsX4_init := by decide +kernel
theorem wf_X4_init_20 : Cond.fieldLink RX4 20 (TX4 1).1 (TX4 1).2.1 (TX4 1).2.2.1 ∈ wsX4_init := by decide +kernel
set_option maxHeartbeats 1000000 in
set_option maxRecDepth 100000 in
theorem ct_X4_init {la : Launch} {n : Nat} {E : Ev} {ρ : Rh} {σ : Sg} (hE : okE E) (hclo : clo E ρ) (h4 : (4, n, 0, 0) ∈ ks E) (hnew : ∀ k, sN n k → k ∉ ks E) (hσ : σ (4, n, 0, 0) = fun _ => 0) : CN la yX4_init wsX4_init 4 74 58 320 (E, ρ, σ) [.ref (ad E (4, n, 0, 0))] (fun sz => PP (sN n) (fun k => k = (4, n, 0, 0)) (E, ρ, σ) (AN E sz)) := by
  refine cn_of (lv := [some _]) RX4 (by decide) rfl rfl rfl rfl hE (ok1 rfl) (Nat.le_of_ble_eq_true rfl) (fun sz p ev s m args below meth c Q hsz cx hn2 hnm hlk hr hQ => ?_)
  have hA : ∀ q, s.heap.size ≤ q → AN E sz q := fun q hq => Or.inr (by omega)
  have A0 : Acc (4, n, 0, 0) (fun _ => False) (ρ (4, n, 0, 0)) (E, ρ, σ) (AN E sz) (E, ρ, σ) := acc_0 ⟨hE, hclo⟩ cx.2.2.2
  refine A_aload_n (q := 1) cx dX4_init_0 rfl rfl rfl ?_
  refine A_objInit (q := 4) cx wc_X4_init_oi wc_X4_init_oj (List.mem_of_getElem? (i := 3) rfl) dX4_init_1 rfl ⟨Nat.le_of_ble_eq_true rfl, Nat.le_of_ble_eq_true rfl⟩ rfl ?_
  refine A_aload_n (q := 5) cx dX4_init_4 rfl rfl rfl ?_
  have hnk0 : ∀ k, (sE n 0 k ∨ k = (0, n, 0, 0)) → k ∉ ks ((E, ρ, σ) : St3).1 := fun k hk => hnew k (Or.inl hk)
  refine A_new (q := 8) (ci := 0) (fs := [.int 0, .int 0, .null, .null]) cx (0, n, 0, 0) tyX0 tyX0_ok wi_X4_init_X0 wc_X4_init_cl9 wc_X4_init_isX0 wc_X4_init_inX0 rfl dX4_init_5 hA (hnk0 _ (Or.inr rfl)) A0.2.1.2 rfl (fun j hj => by match j, hj with | 0, _ | 1, _ | 2, _ | 3, _ => rfl) (Nat.le_of_ble_eq_true rfl) (Nat.le_of_ble_eq_true rfl) rfl (fun z_5 cx => ?_)
  refine A_dup (q := 9) cx dX4_init_8 rfl rfl ?_
  refine A_iconst (v := 0) (q := 10) cx dX4_init_9 (by decide) rfl ?_
  have nn0 : ∀ k, sE n 0 k → k ∉ ks (addK ((E, ρ, σ) : St3).1 (0, n, 0, 0) z_5) := fun k hk h => (List.mem_append.mp h).elim (hnk0 k (Or.inl hk)) (fun q => by have h1 := (sE_keys hk).2.2; rw [List.mem_singleton.mp q] at h1; simp at h1)
  refine TI1 (q := 13) cx hn2 (ct_X0_init (n := n) (e := 0) cx.2.2.1 (clo_addK z_5 A0.2.1.2) (List.mem_append_right _ (List.mem_singleton.mpr rfl)) (nn0 _ (Or.inl (Or.inl rfl))) (nn0 _ (Or.inr (Or.inl rfl))) (fun l hl => nn0 _ (Or.inl (Or.inr ⟨l, hl, Or.inl rfl⟩))) (fun l hl => nn0 _ (Or.inl (Or.inr ⟨l, hl, Or.inr (Or.inl rfl)⟩))) (fun l hl => nn0 _ (Or.inl (Or.inr ⟨l, hl, Or.inr (Or.inr rfl)⟩))) (fun f hf => nn0 _ (Or.inr (Or.inr ⟨f, hf, rfl⟩))) (sr_at _ _ _)) (cwI 1 cx.1.2.2.2.2 gX4_init_X0_init rfl rfl rfl (cx.1.2.2.2.2 _ wc_X4_init_inX0) (cx.1.2.2.2.2 _ wc_X4_init_ml11) (cx.1.2.2.2.2 _ wc_X4_init_imX0_init) rfl (by decide +kernel) ⟨Nat.le_of_ble_eq_true rfl, Nat.le_of_ble_eq_true rfl⟩) dX4_init_10 hA rfl (Nat.le_of_ble_eq_true rfl) ⟨Nat.le_of_ble_eq_true rfl, Nat.le_of_ble_eq_true rfl⟩ rfl (fun sz0 d0 hb0 hbb0 hAN0 => ?_)
  have cx := cx_gr (a := (addK ((E, ρ, σ) : St3).1 (0, n, 0, 0) z_5, _, _)) cx hb0 hAN0
  have e0_0 := hb0.1.2.2.1 (0, n, 0, 0) (List.mem_append_right _ (List.mem_singleton.mpr rfl))
  have e4_0 := (hb0.1.2.2.1 (4, n, 0, 0) (List.mem_append_left _ h4)).trans (ad_addK_ne ((E, ρ, σ) : St3).1 (0, n, 0, 0) z_5 (by simp))
  dsimp only at e0_0 e4_0
  rw [← e0_0, ← e4_0]
  refine fX4_0 (q := 16) cx hnm wi_X4_init_X4 wf_X4_init_14 dX4_init_13 rfl ((hb0.1.2.1 _).mpr (Or.inl (List.mem_append_left _ h4))) rfl ?_
  have A1 := acc_step 0 A0 h4 hnk0 hb0 hAN0
  refine A_aload_n (q := 17) cx dX4_init_16 rfl rfl rfl ?_
  have m4 : (4, n, 0, 0) ∈ ks d0.1 := (A1.1.2.1 _).mpr (Or.inl h4)
  have hnk1 : ∀ k, (sE n 1 k ∨ k = (0, n, 1, 0)) → k ∉ ks d0.1 := fun k hk h => ((A1.1.2.1 k).mp h).elim (hnew k (Or.inr hk)) (fun q => by have h1 := q.resolve_left id; rcases hk with hk | rfl <;> rcases h1 with h1 | h1 <;> first | (have x := (sE_keys hk).2.1; have y := (sE_keys h1).2.1; omega) | (have x := (sE_keys hk).2; rw [h1] at x; simp at x) | (have x := (sE_keys h1).2; simp at x) | (cases h1))
  refine A_new (q := 20) (ci := 0) (fs := [.int 0, .int 0, .null, .null]) cx (0, n, 1, 0) tyX0 tyX0_ok wi_X4_init_X0 wc_X4_init_cl9 wc_X4_init_isX0 wc_X4_init_inX0 rfl dX4_init_17 hA (hnk1 _ (Or.inr rfl)) A1.2.1.2 rfl (fun j hj => by match j, hj with | 0, _ | 1, _ | 2, _ | 3, _ => rfl) (Nat.le_of_ble_eq_true rfl) (Nat.le_of_ble_eq_true rfl) rfl (fun z_17 cx => ?_)
  refine A_dup (q := 21) cx dX4_init_20 rfl rfl ?_
  refine A_iconst (v := 1) (q := 22) cx dX4_init_21 (by decide) rfl ?_
  have nn1 : ∀ k, sE n 1 k → k ∉ ks (addK d0.1 (0, n, 1, 0) z_17) := fun k hk h => (List.mem_append.mp h).elim (hnk1 k (Or.inl hk)) (fun q => by have h1 := (sE_keys hk).2.2; rw [List.mem_singleton.mp q] at h1; simp at h1)
  refine TI1 (q := 25) cx hn2 (ct_X0_init (n := n) (e := 1) cx.2.2.1 (clo_addK z_17 A1.2.1.2) (List.mem_append_right _ (List.mem_singleton.mpr rfl)) (nn1 _ (Or.inl (Or.inl rfl))) (nn1 _ (Or.inr (Or.inl rfl))) (fun l hl => nn1 _ (Or.inl (Or.inr ⟨l, hl, Or.inl rfl⟩))) (fun l hl => nn1 _ (Or.inl (Or.inr ⟨l, hl, Or.inr (Or.inl rfl)⟩))) (fun l hl => nn1 _ (Or.inl (Or.inr ⟨l, hl, Or.inr (Or.inr rfl)⟩))) (fun f hf => nn1 _ (Or.inr (Or.inr ⟨f, hf, rfl⟩))) (sr_at _ _ _)) (cwI 1 cx.1.2.2.2.2 gX4_init_X0_init rfl rfl rfl (cx.1.2.2.2.2 _ wc_X4_init_inX0) (cx.1.2.2.2.2 _ wc_X4_init_ml11) (cx.1.2.2.2.2 _ wc_X4_init_imX0_init) rfl (by decide +kernel) ⟨Nat.le_of_ble_eq_true rfl, Nat.le_of_ble_eq_true rfl⟩) dX4_init_22 hA rfl (Nat.le_of_ble_eq_true rfl) ⟨Nat.le_of_ble_eq_true rfl, Nat.le_of_ble_eq_true rfl⟩ rfl (fun sz1 d1 hb1 hbb1 hAN1 => ?_)
  have cx := cx_gr (a := (addK d0.1 (0, n, 1, 0) z_17, _, _)) cx hb1 hAN1
  have e0_1 := hb1.1.2.2.1 (0, n, 1, 0) (List.mem_append_right _ (List.mem_singleton.mpr rfl))
  have e4_1 := (hb1.1.2.2.1 (4, n, 0, 0) (List.mem_append_left _ m4)).trans (ad_addK_ne d0.1 (0, n, 1, 0) z_17 (by simp))
  dsimp only at e0_1 e4_1
  rw [← e0_1, ← e4_1]
  refine fX4_1 (q := 28) cx hnm wi_X4_init_X4 wf_X4_init_20 dX4_init_25 rfl ((hb1.1.2.1 _).mpr (Or.inl (List.mem_append_left _ m4))) rfl ?_
  have A2 := acc_step 1 A1 m4 hnk1 hb1 hAN1
  refine A_cret (a := (E, ρ, σ)) (sz := sz) (post := fun sz => PP (sN n) (fun k => k = (4, n, 0, 0)) (E, ρ, σ) (AN E sz)) cx hlk hr hQ dX4_init_28 (Nat.le_of_ble_eq_true rfl) (Nat.le_of_ble_eq_true rfl) (pp_of_acc A2 (fun k => ?_) (fun j hj => ?_)) A2.1.1.1.symm
  · exact ⟨fun q => q.elim (fun q => Or.inl (Or.inr q)) Or.inr, fun q => q.elim (fun q => Or.inl (q.resolve_left id)) Or.inr⟩
  · have hj7 : j < 7 := hj
    refine ⟨fun hrf => ?_, ?_⟩
    · rw [A2.2.2.2.2.1]
      have hj2 : j = 0 ∨ j = 1 := by
        match j, hj7, hrf with
        | 0, _, _ => exact Or.inl rfl
        | 1, _, _ => exact Or.inr rfl
      rcases hj2 with rfl | rfl <;> simp [upf, rh0]
    · rw [A2.2.2.2.2.2.1]; show σ (4, n, 0, 0) j = _; rw [hσ]; rfl
