theorem acc_congr {kt : Ky} {S S' : Ky → Prop} {r r' : Nat → Option Ky} {a b : St3} {A : Nat → Prop} (h : Acc kt S r a A b) (hS : ∀ k, S' k ↔ S k) (hr : r' = r) : Acc kt S' r' a A b := by
  subst hr
  obtain ⟨g, ok, hA, hf, h1, h2, h3⟩ := h
  exact ⟨⟨g.1, fun k => by rw [g.2.1 k, hS k], g.2.2.1, fun k q1 q2 => g.2.2.2 k (fun q => q1 ((hS k).mpr q)) q2⟩, ok, hA, fun k hk => hf k ((hS k).mp hk), h1, h2, fun q => h3 ((hS kt).mp q)⟩
theorem fi_arr {n : Nat} {a : St3} {z : Nat} : Fi (9, n, 0, 0) (addK a.1 (9, n, 0, 0) z, srr a.2.1 (9, n, 0, 0) (fun _ => none), sr a.2.2 (9, n, 0, 0) (fun _ => 0)) := by
  intro j hj
  exact ⟨fun h => (by cases h), by simp [sr, ini0]⟩
theorem fi_bool {n : Nat} {a : St3} {z : Nat} : Fi (10, n, 0, 0) (addK a.1 (10, n, 0, 0) z, srr a.2.1 (10, n, 0, 0) (fun _ => none), sr a.2.2 (10, n, 0, 0) (fun _ => 0)) := by
  intro j hj
  exact ⟨fun h => (by cases h), by simp [sr, ini0]⟩
/-- a cell with nothing below it is made and put -/
theorem acc_leaf {kt k0 : Ky} {S : Ky → Prop} {r : Nat → Option Ky} {a b : St3} {A : Nat → Prop} {z : Nat} (j : Nat) (h : Acc kt S r a A b) (hkt : kt ∈ ks b.1) (hnk : k0 ∉ ks b.1) (hok : okE (addK b.1 k0 z)) (hA : ∀ k ∈ ks (addK b.1 k0 z), A (ad (addK b.1 k0 z) k)) (hf : Fi k0 (addK b.1 k0 z, srr b.2.1 k0 (fun _ => none), sr b.2.2 k0 (fun _ => 0))) : Acc kt (fun k => S k ∨ k = k0) (upf r j k0) a A (addK b.1 k0 z, upr (srr b.2.1 k0 (fun _ => none)) kt j k0, sr b.2.2 k0 (fun _ => 0)) :=
  acc_congr (acc_step j h hkt (fun k q => q.elim (fun f => f.elim) (fun q => q ▸ hnk)) (pp_self ⟨hok, clo_addK z h.2.1.2⟩ hA hf) (fun _ => id)) (fun k => ⟨fun q => q.elim Or.inl (fun q => Or.inr (Or.inr q)), fun q => q.elim Or.inl (fun q => q.elim (fun f => f.elim) Or.inr)⟩) rfl
theorem pp_arr {a d : St3} {kt k0 : Ky} {S : Ky → Prop} {A : Nat → Prop} {j z : Nat} (hk0 : k0 ∉ ks a.1) (hp : PP S (fun k => k = k0) (addK a.1 k0 z, upr (srr a.2.1 k0 (fun _ => none)) kt j k0, sr a.2.2 k0 (fun _ => 0)) A d) (hfi : Fi kt d) : PP (fun k => S k ∨ k = k0) (fun k => k = kt) a A d := by
  obtain ⟨g, ok, hA, hf⟩ := hp
  refine ⟨⟨g.1, fun k => ?_, fun k hk => ?_, fun k q1 q2 => ?_⟩, ok, hA, fun k hk => ?_⟩
  · rw [g.2.1 k]
    show (k ∈ ks a.1 ++ [k0] ∨ S k) ↔ _
    rw [List.mem_append, List.mem_singleton, or_assoc, or_comm (a := k = k0)]
  · rw [g.2.2.1 k (List.mem_append_left _ hk)]
    exact ad_addK_ne _ _ _ (fun q => hk0 (q ▸ hk))
  · obtain ⟨x1, x2⟩ := g.2.2.2 k (fun q => q1 (Or.inl q)) (fun q => q1 (Or.inr q))
    rw [x1, x2]
    exact ⟨by show upr _ _ _ _ k = _; rw [upr_nk _ _ _ _ q2, srr_ne _ _ _ (fun q => q1 (Or.inr q))], by show sr _ _ _ k = _; rw [sr_ne _ _ _ (fun q => q1 (Or.inr q))]⟩
  · rcases hk with (q | q) | q
    · exact hf k (Or.inl q)
    · exact hf k (Or.inr q)
    · rw [q]; exact hfi
/-- History -/
def sH (i : Nat) (k : Ky) : Prop := ∃ n, n < i ∧ (sN (n + 1) k ∨ k = (4, n + 1, 0, 0))
theorem sH_keys {i : Nat} {k : Ky} (h : sH i k) : (0 < k.2.1 ∧ k.2.1 < i + 1) ∧ (k.1 = 13 ∨ k.1 = 11 ∨ k.1 = 5 ∨ k.1 = 3 ∨ k.1 = 14 ∨ k.1 = 1 ∨ k.1 = 0 ∨ k.1 = 4) := by
  obtain ⟨n, hn, h | rfl⟩ := h
  · obtain ⟨h1, h2⟩ := sN_keys h; refine ⟨?_, ?_⟩ <;> omega
  · refine ⟨⟨?_, ?_⟩, ?_⟩ <;> simp; omega
theorem sH_succ (i : Nat) (k : Ky) : sH (i + 1) k ↔ (sH i k ∨ (sN (i + 1) k ∨ k = (4, i + 1, 0, 0))) := by
  constructor
  · rintro ⟨n, hn, h⟩
    by_cases hi : n < i
    · exact Or.inl ⟨n, hi, h⟩
    · obtain rfl : n = i := by omega
      exact Or.inr h
  · rintro (⟨n, hn, h⟩ | h)
    · exact ⟨n, by omega, h⟩
    · exact ⟨i, by omega, h⟩
theorem sN_cell {n : Nat} {k : Ky} (h : sN n k ∨ k = (4, n, 0, 0)) : k.2.1 = n := by
  rcases h with h | rfl
  · exact (sN_keys h).1
  · rfl
def rrH (i : Nat) : Nat → Option Ky := fun j => if j < i then some (4, j + 1, 0, 0) else none
theorem rrH_succ (i : Nat) : rrH (i + 1) = upf (rrH i) i (4, i + 1, 0, 0) := by
  funext j
  simp only [rrH, upf]
  by_cases h : j = i
  · subst h; simp
  · by_cases h2 : j < i
    · rw [if_pos (by omega), if_neg h, if_pos h2]
    · rw [if_neg (by omega), if_neg h, if_neg h2]
theorem wc_X6_init_ar : Cond.arrayClass (newarray.typeOf .int) ∈ wsX6_init := by decide +kernel
theorem wc_X6_init_oi : Cond.methodLink RX6 3 objectInit ∈ wsX6_init := by decide +kernel
theorem wc_X6_init_oj : Cond.instanceMethod objectInit ∈ wsX6_init := by decide +kernel
theorem wi_X6_init_X6 : ∀ w ∈ u_ws RX6 TX6 2, w ∈ wsX6_init := by decide +kernel
theorem wf_X6_init_9 : Cond.fieldLink RX6 9 (TX6 0).1 (TX6 0).2.1 (TX6 0).2.2.1 ∈ wsX6_init := by decide +kernel
set_option maxHeartbeats 1000000 in
set_option maxRecDepth 100000 in
theorem ct_X6_init {la : Launch} {E : Ev} {ρ : Rh} {σ : Sg} (hE : okE E) (hclo : clo E ρ) (h6 : (6, 0, 0, 0) ∈ ks E) (h9 : (9, 0, 0, 0) ∉ ks E) (hσ : σ (6, 0, 0, 0) = fun _ => 0) : CN la yX6_init wsX6_init 1 12 1 200 (E, ρ, σ) [.ref (ad E (6, 0, 0, 0))] (fun sz => PP (fun k => k = (9, 0, 0, 0)) (fun k => k = (6, 0, 0, 0)) (E, ρ, σ) (AN E sz)) := by
  refine cn_of (lv := [some _]) RX6 (by decide) rfl rfl rfl rfl hE (ok1 rfl) (Nat.le_of_ble_eq_true rfl) (fun sz p ev s m args below meth c Q hsz cx hn2 hnm hlk hr hQ => ?_)
  have hA : ∀ q, s.heap.size ≤ q → AN E sz q := fun q hq => Or.inr (by omega)
  have A0 : Acc (6, 0, 0, 0) (fun _ => False) (ρ (6, 0, 0, 0)) (E, ρ, σ) (AN E sz) (E, ρ, σ) := acc_0 ⟨hE, hclo⟩ cx.2.2.2
  refine A_aload_n (q := 1) cx dX6_init_0 rfl rfl rfl ?_
  refine A_objInit (q := 4) cx wc_X6_init_oi wc_X6_init_oj (List.mem_of_getElem? (i := 3) rfl) dX6_init_1 rfl ⟨Nat.le_of_ble_eq_true rfl, Nat.le_of_ble_eq_true rfl⟩ rfl ?_
  refine A_aload_n (q := 5) cx dX6_init_4 rfl rfl rfl ?_
  refine A_sipush (v := 200) (q := 8) cx dX6_init_5 (by decide) rfl ?_
  refine A_newarr (q := 10) cx (9, 0, 0, 0) 0 wc_X6_init_ar rfl rfl rfl rfl dX6_init_8 hA h9 hclo (by decide) (show Int32.toNatClampNeg 200 = 200 from by decide) (Nat.le_of_ble_eq_true rfl) (Nat.le_of_ble_eq_true rfl) (Nat.le_of_ble_eq_true rfl) rfl (fun z_8 cx => ?_)
  refine fX6_0 (q := 13) cx hnm wi_X6_init_X6 wf_X6_init_9 dX6_init_10 rfl (List.mem_append_left _ h6) rfl ?_
  have A1 := acc_leaf 0 A0 h6 h9 cx.2.2.1 cx.2.2.2 fi_arr
  refine A_cret (a := (E, ρ, σ)) (sz := sz) (post := fun sz => PP (fun k => k = (9, 0, 0, 0)) (fun k => k = (6, 0, 0, 0)) (E, ρ, σ) (AN E sz)) cx hlk hr hQ dX6_init_13 (Nat.le_refl _) (Nat.le_refl _) (pp_of_acc A1 (fun k => ⟨Or.inr, fun q => q.resolve_left id⟩) (fun j hj => ?_)) A1.1.1.1.symm
  have hj2 : j < 2 := hj
  refine ⟨fun hrf => ?_, ?_⟩
  · rw [A1.2.2.2.2.1]
    obtain rfl : j = 0 := by
      match j, hj2, hrf with
      | 0, _, _ => rfl
    simp [upf, rh0]
  · rw [A1.2.2.2.2.2.1]; show σ (6, 0, 0, 0) j = _; rw [hσ]; rfl
theorem wi_X2_init_X2 : ∀ w ∈ u_ws RX2 TX2 3, w ∈ wsX2_init := by decide +kernel
theorem wf_X2_init_11 : Cond.fieldLink RX2 11 (TX2 0).1 (TX2 0).2.1 (TX2 0).2.2.1 ∈ wsX2_init := by decide +kernel
theorem wc_X2_init_cl9 : Cond.classLink RX2 9 RX4 ∈ wsX2_init := by decide +kernel
theorem wc_X2_init_isX4 : Cond.instantiable RX4 7 ∈ wsX2_init := by decide +kernel
theorem wc_X2_init_inX4 : Cond.initialized RX4 ∈ wsX2_init := by decide +kernel
theorem wi_X2_init_X4 : ∀ w ∈ u_ws RX4 TX4 7, w ∈ wsX2_init := by decide +kernel
theorem wc_X2_init_imX4_init : Cond.instanceMethod yX4_init ∈ wsX2_init := by decide +kernel
theorem wc_X2_init_oi : Cond.methodLink RX2 3 objectInit ∈ wsX2_init := by decide +kernel
theorem wc_X2_init_oj : Cond.instanceMethod objectInit ∈ wsX2_init := by decide +kernel
set_option maxHeartbeats 1000000 in
set_option maxRecDepth 100000 in
theorem ct_X2_init {la : Launch} {E : Ev} {ρ : Rh} {σ : Sg} (hE : okE E) (hclo : clo E ρ) (h2 : (2, 0, 0, 0) ∈ ks E) (h12 : (12, 0, 0, 0) ∉ ks E) (hnew : ∀ k, sH 6 k → k ∉ ks E) (hσ : σ (2, 0, 0, 0) = fun _ => 0) : CN la yX2_init wsX2_init 5 94 355 1968 (E, ρ, σ) [.ref (ad E (2, 0, 0, 0))] (fun sz => PP (fun k => sH 6 k ∨ k = (12, 0, 0, 0)) (fun k => k = (2, 0, 0, 0)) (E, ρ, σ) (AN E sz)) := by
  refine cn_of (lv := [some _, none]) RX2 (by decide) rfl rfl rfl rfl hE (ok1 rfl) (Nat.le_of_ble_eq_true rfl) (fun sz p ev s m args below meth c Q hsz cx hn2 hnm hlk hr hQ => ?_)
  have hA : ∀ q, s.heap.size ≤ q → AN E sz q := fun q hq => Or.inr (by omega)
  have l1 : ∀ (z d i : Nat) (b : St3), i + d = 6 → Acc (12, 0, 0, 0) (sH i) (rrH i) (addK E (12, 0, 0, 0) z, upr (srr ρ (12, 0, 0, 0) (fun _ => none)) (2, 0, 0, 0) 0 (12, 0, 0, 0), sr σ (12, 0, 0, 0) (fun _ => 0)) (AN E sz) b → Cx p s m args c b.1 (AN E sz) RX2 cX2_init 2 wsX2_init → AW p la ev { frames := 5, cells := 355, slots := 1968, locals := 94 } s m args below meth c (1 + 59 * i) (6 + 327 * i) Q (AN E sz) b.1 b.2.1 15 [some (.ref (ad b.1 (2, 0, 0, 0))), some (.int (nI i))] [] b.2.2 := by
    intro z d
    induction d with
    | zero =>
      intro i b hi hI cx
      obtain rfl : i = 6 := by omega
      have m2 : (2, 0, 0, 0) ∈ ks b.1 := (hI.1.2.1 _).mpr (Or.inl (List.mem_append_left _ h2))
      have m12 : (12, 0, 0, 0) ∈ ks b.1 := (hI.1.2.1 _).mpr (Or.inl (List.mem_append_right _ (List.mem_singleton.mpr rfl)))
      have r2 : b.2.1 (2, 0, 0, 0) 0 = some (12, 0, 0, 0) := by rw [(hI.1.2.2.2 (2, 0, 0, 0) (fun q => by have := (sH_keys q).2; simp at this) (by simp)).1]; dsimp only; exact upr_at _ _ _ _
      refine A_iload_n (q := 16) cx dX2_init_15 rfl rfl ?_
      refine A_aload_n (q := 17) cx dX2_init_16 rfl rfl rfl ?_
      refine gX2_0 (q := 20) cx wi_X2_init_X2 wf_X2_init_11 dX2_init_17 rfl m2 r2 rfl ?_
      refine A_alen12 (v := 6) (q := 21) cx dX2_init_20 rfl m12 rfl rfl ?_
      refine A_icmp_ge (tgt := 43) (q := 24) cx dX2_init_21 (by decide) rfl (fun c_1 => ?_) (fun c_1 => ?_)
      · have fi12 : Fi (12, 0, 0, 0) b := fun j hj => ⟨fun _ => by rw [hI.2.2.2.2.1]; show rrH 6 j = some _; rw [rrH, if_pos (show j < 6 from hj)], by rw [hI.2.2.2.2.2.1]; dsimp only; rw [sr_at]; rfl⟩
        have fi2 : Fi (2, 0, 0, 0) b := fun j hj => ⟨fun hrf => by
          obtain rfl : j = 0 := by
            match j, (show j < 3 from hj), hrf with
            | 0, _, _ => rfl
          exact r2, by rw [(hI.1.2.2.2 (2, 0, 0, 0) (fun q => by have := (sH_keys q).2; simp at this) (by simp)).2]; dsimp only; rw [sr_ne _ _ _ (by simp), hσ]; rfl⟩
        exact A_cret (a := (E, ρ, σ)) (sz := sz) (post := fun sz => PP (fun k => sH 6 k ∨ k = (12, 0, 0, 0)) (fun k => k = (2, 0, 0, 0)) (E, ρ, σ) (AN E sz)) cx hlk hr hQ dX2_init_43 (by omega) (by omega) (pp_arr (a := (E, ρ, σ)) h12 (pp_of_acc hI (fun _ => Iff.rfl) fi12) fi2) hI.1.1.1.symm
      · exact absurd (by decide) c_1
    | succ d ih =>
      intro i b hi hI cx
      have m2 : (2, 0, 0, 0) ∈ ks b.1 := (hI.1.2.1 _).mpr (Or.inl (List.mem_append_left _ h2))
      have m12 : (12, 0, 0, 0) ∈ ks b.1 := (hI.1.2.1 _).mpr (Or.inl (List.mem_append_right _ (List.mem_singleton.mpr rfl)))
      have r2 : b.2.1 (2, 0, 0, 0) 0 = some (12, 0, 0, 0) := by rw [(hI.1.2.2.2 (2, 0, 0, 0) (fun q => by have := (sH_keys q).2; simp at this) (by simp)).1]; dsimp only; exact upr_at _ _ _ _
      refine A_iload_n (q := 16) cx dX2_init_15 rfl rfl ?_
      refine A_aload_n (q := 17) cx dX2_init_16 rfl rfl rfl ?_
      refine gX2_0 (q := 20) cx wi_X2_init_X2 wf_X2_init_11 dX2_init_17 rfl m2 r2 rfl ?_
      refine A_alen12 (v := 6) (q := 21) cx dX2_init_20 rfl m12 rfl rfl ?_
      refine A_icmp_ge (tgt := 43) (q := 24) cx dX2_init_21 (by decide) rfl (fun c_1 => ?_) (fun c_1 => ?_)
      · exact absurd c_1 (not_ge (i := i) (b := 6) (by omega) (by decide))
      · refine A_aload_n (q := 25) cx dX2_init_24 rfl rfl rfl ?_
        refine gX2_0 (q := 28) cx wi_X2_init_X2 wf_X2_init_11 dX2_init_25 rfl m2 r2 rfl ?_
        refine A_iload_n (q := 29) cx dX2_init_28 rfl rfl ?_
        have hnk : ∀ k, (sN (i + 1) k ∨ k = (4, i + 1, 0, 0)) → k ∉ ks b.1 := fun k hk h => by
          rcases (hI.1.2.1 k).mp h with q | q
          · rcases List.mem_append.mp q with q | q
            · exact hnew k ⟨i, by omega, hk⟩ q
            · rw [List.mem_singleton.mp q] at hk
              have := sN_cell hk
              simp at this
          · have q1 := sN_cell hk
            have q2 := (sH_keys q).1
            omega
        refine A_new (q := 32) (ci := 4) (fs := [.null, .null, .int 0, .int 0, .int 0, .int 0, .int 0]) cx (4, i + 1, 0, 0) tyX4 tyX4_ok wi_X2_init_X4 wc_X2_init_cl9 wc_X2_init_isX4 wc_X2_init_inX4 rfl dX2_init_29 hA (hnk _ (Or.inr rfl)) hI.2.1.2 rfl (fun j hj => by match j, hj with | 0, _ | 1, _ | 2, _ | 3, _ | 4, _ | 5, _ | 6, _ => rfl) (by show _ ≤ 355; omega) (by show _ ≤ 1968; omega) rfl (fun z_29 cx => ?_)
        refine A_dup (q := 33) cx dX2_init_32 rfl rfl ?_
        have m4 : (4, i + 1, 0, 0) ∈ ks (addK b.1 (4, i + 1, 0, 0) z_29) := List.mem_append_right _ (List.mem_singleton.mpr rfl)
        have hnn : ∀ k, sN (i + 1) k → k ∉ ks (addK b.1 (4, i + 1, 0, 0) z_29) := fun k hk h => (List.mem_append.mp h).elim (hnk k (Or.inl hk)) (fun q => by have := (sN_keys hk).2; rw [List.mem_singleton.mp q] at this; simp at this)
        refine TN0 (q := 36) cx hn2 (ct_X4_init (n := i + 1) cx.2.2.1 (clo_addK z_29 hI.2.1.2) m4 hnn (sr_at _ _ _)) ⟨va_cnB 0 cx.1.2.2.2.2 gX2_init_X4_init_n17 rfl rfl rfl hn2.1.2.2.2.1 (cx.1.2.2.2.2 _ wc_X2_init_inX4) (by decide +kernel) ⟨Nat.le_of_ble_eq_true rfl, Nat.le_of_ble_eq_true rfl⟩, rfl, cx.1.2.2.2.2 _ wc_X2_init_imX4_init⟩ dX2_init_33 hA rfl (Nat.le_of_ble_eq_true rfl) ⟨by show _ ≤ 355; omega, by show _ ≤ 1968; omega⟩ rfl (fun sz1 b2 hb hb1 hAN => ?_)
        have cx2 := cx_gr (a := (addK b.1 (4, i + 1, 0, 0) z_29, _, _)) cx hb hAN
        have e4 := hb.1.2.2.1 (4, i + 1, 0, 0) m4
        have e12 := (hb.1.2.2.1 (12, 0, 0, 0) (List.mem_append_left _ m12)).trans (ad_addK_ne b.1 (4, i + 1, 0, 0) z_29 (by simp))
        have e2 := (hb.1.2.2.1 (2, 0, 0, 0) (List.mem_append_left _ m2)).trans (ad_addK_ne b.1 (4, i + 1, 0, 0) z_29 (by simp))
        dsimp only at e4 e12 e2
        rw [← e4, ← e12, ← e2]
        refine A_aastore (q := 37) (k := (12, 0, 0, 0)) (t := (4, i + 1, 0, 0)) (j := i) (t0 := 3) (ci := 4) cx2 dX2_init_36 ((hb.1.2.1 _).mpr (Or.inl (List.mem_append_left _ m12))) ((hb.1.2.1 _).mpr (Or.inl m4)) rfl rfl rfl (fun _ _ => rfl) rfl (by show i < 6; omega) rfl ?_
        refine A_iinc (lv' := [some _, some _]) (q := 40) cx2 dX2_init_37 rfl (nI_1 i) rfl rfl ?_
        refine A_goto (q := 15) cx2 dX2_init_40 (by decide) ?_
        refine A_widen (k := 1 + 59 * (i + 1)) (n := 6 + 327 * (i + 1)) (by omega) (by omega) ?_
        exact ih (i + 1) (b2.1, _, _) (by omega) (acc_congr (acc_step i hI m12 hnk hb hAN) (sH_succ i) (rrH_succ i)) cx2
  refine A_aload_n (q := 1) cx dX2_init_0 rfl rfl rfl ?_
  refine A_objInit (q := 4) cx wc_X2_init_oi wc_X2_init_oj (List.mem_of_getElem? (i := 3) rfl) dX2_init_1 rfl ⟨Nat.le_of_ble_eq_true rfl, Nat.le_of_ble_eq_true rfl⟩ rfl ?_
  refine A_aload_n (q := 5) cx dX2_init_4 rfl rfl rfl ?_
  refine A_bipush (v := 6) (q := 7) cx dX2_init_5 (by decide) rfl ?_
  refine A_anew (q := 10) cx (12, 0, 0, 0) 3 wc_X2_init_cl9 hn2.2.2.2 rfl rfl dX2_init_7 hA h12 hclo (by decide) (show Int32.toNatClampNeg 6 = 6 from by decide) (Nat.le_of_ble_eq_true rfl) (Nat.le_of_ble_eq_true rfl) (Nat.le_of_ble_eq_true rfl) rfl (fun z cx => ?_)
  refine fX2_0 (q := 13) cx hnm wi_X2_init_X2 wf_X2_init_11 dX2_init_10 rfl (List.mem_append_left _ h2) rfl ?_
  refine A_iconst (v := 0) (q := 14) cx dX2_init_13 (by decide) rfl ?_
  refine A_istore_n (lv' := [some _, some _]) (q := 15) cx dX2_init_14 (Nat.le_of_ble_eq_true rfl) rfl rfl ?_
  refine A_widen (k := 1 + 59 * 0) (n := 6 + 327 * 0) (Nat.le_of_ble_eq_true rfl) (Nat.le_of_ble_eq_true rfl) ?_
  refine l1 z 6 0 (addK E (12, 0, 0, 0) z, upr (srr ρ (12, 0, 0, 0) (fun _ => none)) (2, 0, 0, 0) 0 (12, 0, 0, 0), sr σ (12, 0, 0, 0) (fun _ => 0)) rfl (acc_congr (acc_0 (kt := (12, 0, 0, 0)) ⟨cx.2.2.1, clo_upr (clo_addK z hclo) (List.mem_append_right _ (List.mem_singleton.mpr rfl))⟩ cx.2.2.2) (fun k => ⟨fun ⟨_, h, _⟩ => by omega, fun h => h.elim⟩) ?_) cx
  dsimp only
  rw [upr_nk _ _ _ _ (by simp), srr_at]; funext j; simp [rrH]
