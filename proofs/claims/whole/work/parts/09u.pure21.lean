/-! PURE PART 21: settled. -/
theorem nCopy_how {x : Sg} {n n2 : Nat} (hn : n2 ≠ n) {e l : Nat} (he : e < 2) (hl : l < 6) : nCopy x n n2 (5, n, e, l) 7 = x (5, n2, e, l) 7 := by
  have q4 : ∀ σ : Sg, ∀ j, cpI σ (4, n, 0, 0) (4, n2, 0, 0) j (5, n, e, l) = σ (5, n, e, l) := fun σ j => cpI_ne (by simp)
  unfold nCopy
  rw [q4, q4, q4, q4, q4]
  have hee : e = 0 ∨ e = 1 := by omega
  rcases hee with rfl | rfl
  · rw [(eCopy_rows 1 hn _).2.2.2 _ (by simp), ((eCopy_rows 0 hn x).1 l hl).1]; rfl
  · rw [((eCopy_rows 1 hn _).1 l hl).1, (eCopy_rows 0 hn x).2.2.2 (5, n2, 1, l) (by simp)]; rfl
theorem nCopy_fl {x : Sg} {n n2 : Nat} (hn : n2 ≠ n) {e f : Nat} (he : e < 2) (hf : f < 8) : nCopy x n n2 (1, n, e, f) 0 = x (1, n2, e, f) 0 := by
  have q4 : ∀ σ : Sg, ∀ j, cpI σ (4, n, 0, 0) (4, n2, 0, 0) j (1, n, e, f) = σ (1, n, e, f) := fun σ j => cpI_ne (by simp)
  unfold nCopy
  rw [q4, q4, q4, q4, q4]
  have hee : e = 0 ∨ e = 1 := by omega
  rcases hee with rfl | rfl
  · rw [(eCopy_rows 1 hn _).2.2.2 _ (by simp), (eCopy_rows 0 hn x).2.1 f hf]; rfl
  · rw [(eCopy_rows 1 hn _).2.1 f hf, (eCopy_rows 0 hn x).2.2.2 (1, n2, 1, f) (by simp)]; rfl
theorem mOs_0 {σ : Sg} {js jn : Nat} {is : Int32} : mOs σ js jn is = 0 ↔ is = 0 ∧ σ kNow jn = σ kSeen js := by
  unfold mOs
  by_cases h : is = 0
  · rw [if_pos h]
    by_cases q : σ kNow jn = σ kSeen js
    · rw [if_pos q]; exact ⟨fun _ => ⟨h, q⟩, fun _ => rfl⟩
    · rw [if_neg q]; exact ⟨fun g => absurd g (by decide), fun g => absurd g.2 q⟩
  · rw [if_neg h]; exact ⟨fun g => absurd g (by decide), fun g => absurd g.1 h⟩
theorem mOt2_at : ∀ (d k : Nat) (is : Int32) (σ : Sg), ((mOt2 d k is σ).1 = 0 ↔ is = 0 ∧ ∀ i, k ≤ i → i < k + d → σ kNow (10 + 2 * i) = σ kSeen (12 + i)) ∧ (∀ i, k ≤ i → i < k + d → (mOt2 d k is σ).2 kSeen (12 + i) = σ kNow (10 + 2 * i)) ∧ ∀ j, j < 12 + k → (mOt2 d k is σ).2 kSeen j = σ kSeen j
  | 0, k, is, σ => ⟨⟨fun h => ⟨h, fun i h1 h2 => by omega⟩, fun h => h.1⟩, fun i h1 h2 => by omega, fun j _ => rfl⟩
  | d + 1, k, is, σ => by
    obtain ⟨h1, h2, h3⟩ := mOt2_at d (k + 1) (mOs σ (12 + k) (10 + 2 * k) is) (up2 σ kSeen (12 + k) (σ kNow (10 + 2 * k)))
    have hn : up2 σ kSeen (12 + k) (σ kNow (10 + 2 * k)) kNow = σ kNow := up2_nk _ _ _ _ (by decide)
    rw [hn] at h1 h2
    rw [mOt2]
    refine ⟨?_, fun i g1 g2 => ?_, fun j hj => ?_⟩
    · rw [h1, mOs_0]
      constructor
      · rintro ⟨⟨a, b⟩, c⟩
        refine ⟨a, fun i g1 g2 => ?_⟩
        by_cases q : i = k
        · subst q; exact b
        · have := c i (by omega) (by omega)
          rwa [up2_ne _ _ _ _ (by omega)] at this
      · rintro ⟨a, c⟩
        refine ⟨⟨a, c k (by omega) (by omega)⟩, fun i g1 g2 => ?_⟩
        rw [up2_ne _ _ _ _ (by omega)]
        exact c i (by omega) (by omega)
    · by_cases q : i = k
      · subst q; rw [h3 _ (by omega), up2_at]
      · exact h2 i (by omega) (by omega)
    · rw [h3 j (by omega), up2_ne _ _ _ _ (by omega)]
theorem mOt1_at : ∀ (d k : Nat) (is : Int32) (σ : Sg), k + d ≤ 12 → ((mOt1 d k is σ).1 = 0 ↔ is = 0 ∧ (∀ i, k ≤ i → i < k + d → σ kNow (42 + 16 * i + 14) = σ kSeen i) ∧ ∀ i, i < 16 → σ kNow (10 + 2 * i) = σ kSeen (12 + i)) ∧ (∀ i, k ≤ i → i < k + d → (mOt1 d k is σ).2 kSeen i = σ kNow (42 + 16 * i + 14)) ∧ (∀ i, i < 16 → (mOt1 d k is σ).2 kSeen (12 + i) = σ kNow (10 + 2 * i)) ∧ ∀ j, j < k → (mOt1 d k is σ).2 kSeen j = σ kSeen j
  | 0, k, is, σ, hk => by
    obtain ⟨h1, h2, h3⟩ := mOt2_at 16 0 is σ
    rw [mOt1]
    refine ⟨?_, fun i g1 g2 => by omega, fun i hi => h2 i (by omega) (by omega), fun j hj => h3 j (by omega)⟩
    rw [h1]
    exact ⟨fun g => ⟨g.1, fun i g1 g2 => by omega, fun i hi => g.2 i (by omega) (by omega)⟩, fun g => ⟨g.1, fun i _ hi => g.2.2 i (by omega)⟩⟩
  | d + 1, k, is, σ, hk => by
    obtain ⟨h1, h2, h3, h4⟩ := mOt1_at d (k + 1) (mOs σ k (42 + 16 * k + 14) is) (up2 σ kSeen k (σ kNow (42 + 16 * k + 14))) (by omega)
    have hn : up2 σ kSeen k (σ kNow (42 + 16 * k + 14)) kNow = σ kNow := up2_nk _ _ _ _ (by decide)
    rw [hn] at h1 h2 h3
    rw [mOt1]
    refine ⟨?_, fun i g1 g2 => ?_, h3, fun j hj => ?_⟩
    · rw [h1, mOs_0]
      constructor
      · rintro ⟨⟨a, b⟩, c, c2⟩
        refine ⟨a, fun i g1 g2 => ?_, fun i hi => ?_⟩
        · by_cases q : i = k
          · subst q; exact b
          · have := c i (by omega) (by omega)
            rwa [up2_ne _ _ _ _ (by omega)] at this
        · have := c2 i hi
          rwa [up2_ne _ _ _ _ (by omega)] at this
      · rintro ⟨a, c, c2⟩
        refine ⟨⟨a, c k (by omega) (by omega)⟩, fun i g1 g2 => ?_, fun i hi => ?_⟩
        · rw [up2_ne _ _ _ _ (by omega)]
          exact c i (by omega) (by omega)
        · rw [up2_ne _ _ _ _ (by omega)]; exact c2 i hi
    · by_cases q : i = k
      · subst q; rw [h4 _ (by omega), up2_at]
      · exact h2 i (by omega) (by omega)
    · rw [h4 j (by omega), up2_ne _ _ _ _ (by omega)]
theorem likeF_iff {σ : Sg} {n e n2 e2 : Nat} : ∀ (d i : Nat), (¬ eLikeF σ n e n2 e2 d i = 0) ↔ ∀ j, i ≤ j → j < i + d → σ (1, n, e, j) 0 = σ (1, n2, e2, j) 0
  | 0, i => ⟨fun _ j h1 h2 => by omega, fun _ => by rw [eLikeF]; decide⟩
  | d + 1, i => by
    have ih := likeF_iff (σ := σ) (n := n) (e := e) (n2 := n2) (e2 := e2) d (i + 1)
    rw [eLikeF]
    by_cases q : σ (1, n, e, i) 0 = σ (1, n2, e2, i) 0
    · rw [if_pos q, ih]
      refine ⟨fun g j h1 h2 => ?_, fun g j h1 h2 => g j (by omega) (by omega)⟩
      by_cases hj : j = i
      · rw [hj]; exact q
      · exact g j (by omega) (by omega)
    · rw [if_neg q]
      exact ⟨fun g => absurd rfl g, fun g => absurd (g i (by omega) (by omega)) q⟩
theorem likeP_iff {σ : Sg} {n e n2 e2 : Nat} : ∀ (d i : Nat), (¬ eLikeP σ n e n2 e2 d i = 0) ↔ (∀ j, i ≤ j → j < i + d → σ (5, n, e, j) 7 = σ (5, n2, e2, j) 7) ∧ ∀ f, f < 8 → σ (1, n, e, f) 0 = σ (1, n2, e2, f) 0
  | 0, i => by
    rw [eLikeP, likeF_iff]
    exact ⟨fun g => ⟨fun j h1 h2 => by omega, fun f hf => g f (by omega) (by omega)⟩, fun g j _ h2 => g.2 j (by omega)⟩
  | d + 1, i => by
    have ih := likeP_iff (σ := σ) (n := n) (e := e) (n2 := n2) (e2 := e2) d (i + 1)
    rw [eLikeP]
    by_cases q : σ (5, n, e, i) 7 = σ (5, n2, e2, i) 7
    · rw [if_pos q, ih]
      refine ⟨fun g => ⟨fun j h1 h2 => ?_, g.2⟩, fun g => ⟨fun j h1 h2 => g.1 j (by omega) (by omega), g.2⟩⟩
      by_cases hj : j = i
      · rw [hj]; exact q
      · exact g.1 j (by omega) (by omega)
    · rw [if_neg q]
      exact ⟨fun g => absurd rfl g, fun g => absurd (g.1 i (by omega) (by omega)) q⟩
theorem like_iff {y : Sg} : (¬ nLike y 7 8 = 0) ↔ ∀ e, e < 2 → (∀ l, l < 6 → y (5, 7, e, l) 7 = y (5, 8, e, l) 7) ∧ ∀ f, f < 8 → y (1, 7, e, f) 0 = y (1, 8, e, f) 0 := by
  have h0 := likeP_iff (σ := y) (n := 7) (e := 0) (n2 := 8) (e2 := 0) 6 0
  have h1 := likeP_iff (σ := y) (n := 7) (e := 1) (n2 := 8) (e2 := 1) 6 0
  unfold nLike
  constructor
  · intro g e he
    by_cases q0 : eLikeP y 7 0 8 0 6 0 = 0
    · rw [if_pos q0] at g; exact absurd rfl g
    · rw [if_neg q0] at g
      by_cases q1 : eLikeP y 7 1 8 1 6 0 = 0
      · rw [if_pos q1] at g; exact absurd rfl g
      · have hee : e = 0 ∨ e = 1 := by omega
        rcases hee with rfl | rfl
        · exact ⟨fun l hl => (h0.mp q0).1 l (by omega) (by omega), (h0.mp q0).2⟩
        · exact ⟨fun l hl => (h1.mp q1).1 l (by omega) (by omega), (h1.mp q1).2⟩
  · intro g
    rw [if_neg (h0.mpr ⟨fun l _ hl => (g 0 (by decide)).1 l (by omega), (g 0 (by decide)).2⟩), if_neg (h1.mpr ⟨fun l _ hl => (g 1 (by decide)).1 l (by omega), (g 1 (by decide)).2⟩)]
    decide
/-- what was seen last, against the mark -/
def VS (x m : Sg) (L : Nat) : Prop := (∀ e l, e < 2 → l < L → x (5, 8, e, l) 7 = m kSeen (6 * e + l)) ∧ (∀ e l, e < 2 → L ≤ l → l < 6 → x (5, 8, e, l) 7 = 0 ∧ m kSeen (6 * e + l) = 1) ∧ ∀ e f, e < 2 → f < 8 → x (1, 8, e, f) 0 = m kSeen (12 + (8 * e + f))
theorem VS_of {z y w w' : Sg} {n L t : Nat} {wt dr : Int32} (hL : L ≤ 6) (hN : NR y n (w kNow) L wt dr t) (h5 : ∀ e l, e < 2 → l < 6 → z (5, 8, e, l) 7 = y (5, n, e, l) 7) (h1 : ∀ e f, e < 2 → f < 8 → z (1, 8, e, f) 0 = y (1, n, e, f) 0) (hs : w' = (mOther w).2) : VS z w' L := by
  obtain ⟨-, s1, s2, -⟩ := mOt1_at 12 0 0 w (by decide)
  have hs' : w' = (mOt1 12 0 0 w).2 := hs
  refine ⟨fun e l he hl => ?_, fun e l he hl hl6 => ⟨?_, ?_⟩, fun e f he hf => ?_⟩
  · rw [h5 e l he (by omega), hs', s1 _ (by omega) (by omega)]
    exact (hN.2.2.1 e l he hl).1.2.2.2.2.1
  · rw [h5 e l he hl6]; exact (hN.2.2.2.1 e l he hl hl6).1.2.2.2.2
  · rw [hs', s1 _ (by omega) (by omega)]; exact (hN.2.2.2.1 e l he hl hl6).2
  · rw [h1 e f he hf, hs', s2 _ (by omega)]; exact (hN.2.2.2.2 e f he hf).1
theorem other_iff {y w : Sg} {L t : Nat} {wt dr : Int32} (hL : L ≤ 6) (hN : NR y 7 (w kNow) L wt dr t) (hV : VS y w L) : (mOther w).1 = 0 ↔ ¬ nLike y 7 8 = 0 := by
  obtain ⟨s0, -⟩ := mOt1_at 12 0 0 w (by decide)
  unfold mOther
  rw [s0, like_iff]
  obtain ⟨v1, v2, v3⟩ := hV
  constructor
  · rintro ⟨-, g1, g2⟩ e he
    refine ⟨fun l hl => ?_, fun f hf => ?_⟩
    · by_cases q : l < L
      · rw [v1 e l he q, ← g1 (6 * e + l) (by omega) (by omega)]
        exact (hN.2.2.1 e l he q).1.2.2.2.2.1
      · rw [(v2 e l he (by omega) hl).1]; exact (hN.2.2.2.1 e l he (by omega) hl).1.2.2.2.2
    · rw [v3 e f he hf, ← g2 (8 * e + f) (by omega)]
      exact (hN.2.2.2.2 e f he hf).1
  · intro g
    refine ⟨rfl, fun i _ hi => ?_, fun i hi => ?_⟩
    · have he : i / 6 < 2 := by omega
      have hl : i % 6 < 6 := by omega
      have hi6 : 6 * (i / 6) + i % 6 = i := by omega
      have hp : 42 + 16 * i + 14 = pl (i / 6) (i % 6) + 14 := by unfold pl; omega
      rw [hp]
      by_cases q : i % 6 < L
      · have a1 := v1 _ _ he q
        have a2 := (g _ he).1 _ hl
        have a3 : y (5, 7, i / 6, i % 6) 7 = w kNow (pl (i / 6) (i % 6) + 14) := (hN.2.2.1 _ _ he q).1.2.2.2.2.1
        rw [hi6] at a1
        rw [← a3, a2, a1]
      · have a1 := (v2 _ _ he (by omega) hl).2
        rw [hi6] at a1
        rw [a1]; exact (hN.2.2.2.1 _ _ he (by omega) hl).2
    · have he : i / 8 < 2 := by omega
      have hf : i % 8 < 8 := by omega
      have hi8 : 8 * (i / 8) + i % 8 = i := by omega
      have a1 := v3 _ _ he hf
      have a2 := (g _ he).2 _ hf
      have a3 : y (1, 7, i / 8, i % 8) 0 = w kNow (fp (i / 8) (i % 8) + 0) := (hN.2.2.2.2 _ _ he hf).1
      have hp : fp (i / 8) (i % 8) + 0 = 10 + 2 * i := by unfold fp; omega
      rw [hi8] at a1
      rw [hp] at a3
      rw [← a3, a2, a1]
theorem set_loop {L : Nat} (hL : L ≤ 6) {wt dr : Int32} : ∀ (d t s tt : Nat) (x m : Sg), t + d ≤ 47 → s < t → t ≤ s + 6 → tt < 2 ^ 20 + t → m kM 1 = wt → m kM 2 = dr → NR x 7 (m kNow) L wt dr tt → VS x m L → (xSetR d t (nI s) x).1 = (mFewR L d t (nI s) m).1
  | 0, t, s, tt, x, m, _, _, _, _, _, _, _, _ => rfl
  | d + 1, t, s, tt, x, m, hd, hs, hs6, htt, hw, hr, hN, hV => by
    have nM : mTicks m L kM = m kM := mag_ticks (mag.rf m) kM okM
    have nS : mTicks m L kSeen = m kSeen := mag_ticks (mag.rf m) kSeen ⟨by decide, by decide⟩
    have N1 : NR (nStep x 7) 7 (mTicks m L kNow) L wt dr (tt + 1) := tick_eq hL (by omega) hN hw hr
    have V1 : VS (nStep x 7) (mTicks m L) L := by
      have q : ∀ t e l, nStep x 7 (t, 8, e, l) = x (t, 8, e, l) := fun t e l => nStep_agr x 7 _ (fun q => by cases q.1)
      obtain ⟨v1, v2, v3⟩ := hV
      refine ⟨fun e l he hl => ?_, fun e l he hl hl6 => ?_, fun e f he hf => ?_⟩
      · rw [q, nS]; exact v1 e l he hl
      · rw [q, nS]; exact v2 e l he hl hl6
      · rw [q, nS]; exact v3 e f he hf
    have hO := other_iff hL N1 V1
    rw [xSetR, mFewR]
    generalize hy : nStep x 7 = y at *
    generalize hw1 : mTicks m L = w at *
    have oN : (mOther w).2 kNow = w kNow := other_M (by decide) w
    have oM : (mOther w).2 kM = m kM := (other_M (by decide) w).trans nM
    by_cases q : nLike y 7 8 = 0
    · have q' : ¬ (mOther w).1 = 0 := fun g => (hO.mp g) q
      rw [if_pos q, if_neg q', pk_sub (Nat.le_refl t), Nat.sub_self, if_neg (show ¬ nI 0 = 6 by decide)]
      refine set_loop (wt := wt) (dr := dr) hL d (t + 1) t (tt + 1) _ _ (by omega) (by omega) (by omega) (by omega) (by rw [oM]; exact hw) (by rw [oM]; exact hr) ?_ ?_
      · rw [oN]
        exact NR_congr hL N1 (fun k hk => agr_nCopy (agr.rf 8 y) k (fun g => by have := hk.1.symm.trans g.1; omega)) (fun _ _ => rfl)
      · exact VS_of hL N1 (fun e l he hl => nCopy_how (by decide) he hl) (fun e f he hf => nCopy_fl (by decide) he hf) rfl
    · have q' : (mOther w).1 = 0 := hO.mpr q
      rw [if_neg q, if_pos q', pk_sub (by omega)]
      have V2 : VS y (mOther w).2 L := VS_of hL N1 (fun e l he hl => ((like_iff.mp q e he).1 l hl).symm) (fun e f he hf => ((like_iff.mp q e he).2 f hf).symm) rfl
      by_cases g : t - s < 6
      · rw [if_pos (show nI (t - s) < 6 from nI_lt (b := 6) g (by decide)), if_neg (show ¬ nI (t - s) = 6 from fun z => by have := (nI_eq (a := t - s) (b := 6) (by omega) (by decide)).mp z; omega)]
        exact set_loop (wt := wt) (dr := dr) hL d (t + 1) s (tt + 1) _ _ (by omega) (by omega) (by omega) (by omega) (by rw [oM]; exact hw) (by rw [oM]; exact hr) (by rw [oN]; exact N1) V2
      · rw [if_neg (show ¬ nI (t - s) < 6 from nI_nlt (b := 6) (by omega) (by omega)), show t - s = 6 by omega, if_pos (show nI 6 = 6 from rfl)]
theorem setR_fr {k : Ky} (h7 : ¬ inN 7 k) (h8 : ¬ inN 8 k) : ∀ (d t : Nat) (s : Int32) (x : Sg), (xSetR d t s x).2 k = x k
  | 0, _, _, _ => rfl
  | d + 1, t, s, x => by
    have h1 : nStep x 7 k = x k := nStep_agr x 7 k h7
    rw [xSetR]
    split
    · rw [setR_fr h7 h8 d, agr_nCopy (agr.rf 8 _) k h8, h1]
    · split
      · rw [setR_fr h7 h8 d, h1]
      · exact h1
theorem setR_num {n e : Nat} (he : e < 2) : ∀ (d t : Nat) (s : Int32) (x : Sg), (xSetR d t s x).2 (0, n, e, 0) 0 = x (0, n, e, 0) 0
  | 0, _, _, _ => rfl
  | d + 1, t, s, x => by
    have h1 : nStep x 7 (0, n, e, 0) 0 = x (0, n, e, 0) 0 := by
      by_cases q : n = 7
      · subst q; rw [nStep_num]
      · rw [nStep_agr x 7 _ (fun g => q g.1)]
    have h2 : ∀ y : Sg, nCopy y 8 7 (0, n, e, 0) 0 = y (0, n, e, 0) 0 := fun y => by
      by_cases q : n = 8
      · subst q; rw [nCopy_num (by decide) he]
      · rw [agr_nCopy (agr.rf 8 y) _ (fun g => q g.1)]
    rw [xSetR]
    split
    · rw [setR_num he d, h2, h1]
    · split
      · rw [setR_num he d, h1]
      · dsimp only; rw [h1]
theorem few_fr {k : Ky} (h1 : okk k) (h2 : k ≠ kSeen) (L : Nat) : ∀ (d t : Nat) (s : Int32) (σ : Sg), (mFewR L d t s σ).2 k = σ k
  | 0, _, _, _ => by rw [mFewR]
  | d + 1, t, s, σ => by
    have h0 : (mOther (mTicks σ L)).2 k = σ k := (other_M h2 _).trans (mag_ticks (mag.rf σ) k h1)
    rw [mFewR]
    generalize (if (mOther (mTicks σ L)).1 = 0 then s else nI t) = s'
    by_cases h : nI t - s' = 6
    · rw [if_pos h]; dsimp only; rw [h0]
    · rw [if_neg h, few_fr h1 h2 L d, h0]
theorem mK1_at : ∀ (d k : Nat) (σ : Sg) (j : Nat), mK1 d k σ kKept j = if k ≤ j ∧ j < k + d then σ kNow j else σ kKept j
  | 0, k, σ, j => by rw [mK1, if_neg (by omega)]
  | d + 1, k, σ, j => by
    rw [mK1, mK1_at d (k + 1)]
    by_cases h : k = j
    · subst h
      rw [if_neg (by omega), if_pos (by omega), up2_at]
    · by_cases h2 : k + 1 ≤ j ∧ j < k + 1 + d
      · rw [if_pos h2, if_pos (by omega), up2_nk _ _ _ _ (by decide)]
      · rw [if_neg h2, if_neg (by omega), up2_ne _ _ _ _ (by omega)]
theorem mK2_at : ∀ (d k : Nat) (σ : Sg) (j : Nat), mK2 d k σ kNow j = if k ≤ j ∧ j < k + d then σ kKept j else σ kNow j
  | 0, k, σ, j => by rw [mK2, if_neg (by omega)]
  | d + 1, k, σ, j => by
    rw [mK2, mK2_at d (k + 1)]
    by_cases h : k = j
    · subst h
      rw [if_neg (by omega), if_pos (by omega), up2_at]
    · by_cases h2 : k + 1 ≤ j ∧ j < k + 1 + d
      · rw [if_pos h2, if_pos (by omega), up2_nk _ _ _ _ (by decide)]
      · rw [if_neg h2, if_neg (by omega), up2_ne _ _ _ _ (by omega)]
theorem k2_M {k : Ky} (hk : k ≠ kNow) : ∀ (d i : Nat) (σ : Sg), mK2 d i σ k = σ k
  | 0, _, _ => rfl
  | d + 1, i, σ => by rw [mK2, k2_M hk d, up2_nk _ _ _ _ hk]
theorem settled_k {m : Sg} {L : Nat} {k : Ky} (h0 : k ≠ kNow) (h1 : k ≠ (10, 0, 0, 0)) (h2 : k ≠ kSeen) (h3 : k ≠ kKept) : (mSettled m L).2 k = m k := by
  show mK2 235 0 (mFew (mK1 235 0 m) L).2 k = m k
  rw [k2_M h0]
  unfold mFew
  rw [few_fr ⟨h0, h1⟩ h2, other_M h2, k1_M h3]
theorem settled_now {m : Sg} {L j : Nat} (hj : j < 235) : (mSettled m L).2 kNow j = m kNow j := by
  show mK2 235 0 (mFew (mK1 235 0 m) L).2 kNow j = m kNow j
  rw [mK2_at, if_pos (by omega)]
  unfold mFew
  rw [few_fr ⟨by decide, by decide⟩ (by decide), other_M (by decide), mK1_at, if_pos (by omega)]
theorem settled_fr {x : Sg} {k : Ky} (h7 : ¬ inN 7 k) (h8 : ¬ inN 8 k) : (xSettled x).2 k = x k := by
  unfold xSettled
  rw [setR_fr h7 h8, agr_nCopy (agr.rf 8 _) k h8, agr_nCopy (agr.rf 7 _) k h7]
theorem settled_eq {x m : Sg} (h : RR x m) {L : Nat} (hm : m kM 0 = nI L) (hL : L ≤ 6) : (xSettled x).1 = (mSettled m L).1 ∧ RR (xSettled x).2 (mSettled m L).2 := by
  refine ⟨?_, ?_⟩
  · obtain ⟨L', T, t, nx, u, ⟨hL', ht, hm', hN⟩, -, -, hW⟩ := h
    obtain rfl : L = L' := (nI_eq (by omega) (by omega)).mp (hm.symm.trans hm')
    unfold xSettled mSettled mFew
    dsimp only
    rw [show (0 : Int32) = nI 0 from rfl]
    have hk : mK1 235 0 m kNow = m kNow := k1_M (by decide) 235 0 m
    have hkM : mK1 235 0 m kM = m kM := k1_M (by decide) 235 0 m
    have oN : (mOther (mK1 235 0 m)).2 kNow = m kNow := (other_M (by decide) _).trans hk
    have oM : (mOther (mK1 235 0 m)).2 kM = m kM := (other_M (by decide) _).trans hkM
    refine set_loop hL 46 1 0 t _ _ (by decide) (by decide) (by decide) (by omega) (by rw [oM]) (by rw [oM]) ?_ ?_
    · rw [oN]
      have g := nCopy_NR (n := 7) (by decide) (fun e he => hW.2 7 e (by decide) he) hL hN
      exact NR_congr hL g (fun k hk => agr_nCopy (agr.rf 8 _) k (fun q => by have := hk.1.symm.trans q.1; omega)) (fun _ _ => rfl)
    · refine VS_of (y := x) (n := 0) (w := mK1 235 0 m) hL (by rw [hk]; exact hN) (fun e l he hl => ?_) (fun e f he hf => ?_) rfl
      · rw [nCopy_how (by decide) he hl, agr_nCopy (agr.rf 7 x) _ (fun q => by cases q.1)]
      · rw [nCopy_fl (by decide) he hf, agr_nCopy (agr.rf 7 x) _ (fun q => by cases q.1)]
  · refine RR_congr h ⟨fun n hn k hk => settled_fr (fun q => by have := hk.1.symm.trans q.1; omega) (fun q => by have := hk.1.symm.trans q.1; omega), ?_, ?_, ?_, ?_, fun n e hn he => ?_⟩ ⟨fun j hj => settled_now hj, settled_k (by decide) (by decide) (by decide) (by decide), settled_k (by decide) (by decide) (by decide) (by decide), settled_k (by decide) (by decide) (by decide) (by decide), fun j _ => by rw [settled_k (by decide) (by decide) (by decide) (by decide)]⟩
    · exact settled_fr (fun q => by cases q.1) (fun q => by cases q.1)
    · exact settled_fr (fun q => by cases q.1) (fun q => by cases q.1)
    · exact settled_fr (fun q => by cases q.1) (fun q => by cases q.1)
    · exact settled_fr (fun q => by cases q.1) (fun q => by cases q.1)
    · unfold xSettled
      rw [setR_num he]
      have h2 : ∀ (y : Sg) (q : Nat), (0 : Nat) ≠ q → nCopy y q 0 (0, n, e, 0) 0 = y (0, n, e, 0) 0 := fun y q hq => by
        by_cases g : n = q
        · subst g; rw [nCopy_num hq he]
        · rw [agr_nCopy (agr.rf q y) _ (fun z => g z.1)]
      rw [h2 _ 8 (by decide), h2 _ 7 (by decide)]
theorem settled_x (x : Sg) : xF x (xSettled x).2 := fun k hk => settled_fr (fun q => inN_yk q hk) (fun q => inN_yk q hk)
theorem settled_m (m : Sg) (L : Nat) : mF m (mSettled m L).2 := fun k hk => settled_k (fun q => hk (by rw [q]; exact yk_9 (by decide))) (fun q => hk (by rw [q]; exact Or.inr (Or.inl rfl))) (fun q => hk (by rw [q]; exact yk_9 (by decide))) (fun q => hk (by rw [q]; exact yk_9 (by decide)))
