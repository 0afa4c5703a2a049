/-! PURE PART 9: the choice is the same. -/
theorem mPair_iff {m : Sg} {e i j : Nat} : (¬ mPair m e i j = 0) ↔ (m kNow (pl e i + 0) = m kNow (pl e j + 0) ∧ m kNow (pl e i + 9) = m kNow (pl e j + 9)) := by
  unfold mPair
  by_cases h : m kNow (pl e i + 0) = m kNow (pl e j + 0) ∧ m kNow (pl e i + 9) = m kNow (pl e j + 9)
  · rw [if_pos h]; exact ⟨fun _ => h, fun _ => by decide⟩
  · rw [if_neg h]; exact ⟨fun q => absurd rfl q, fun q => absurd q h⟩
theorem pPair_iff {x : Sg} {n e i j : Nat} : (¬ pPair x n e i n e j = 0) ↔ (x (5, n, e, i) 2 = x (5, n, e, j) 2 ∧ x (3, n, e, i) 1 = x (3, n, e, j) 1) := by
  unfold pPair
  by_cases h : x (5, n, e, i) 2 = x (5, n, e, j) 2 ∧ x (3, n, e, i) 1 = x (3, n, e, j) 1
  · rw [if_pos h]; exact ⟨fun _ => h, fun _ => by decide⟩
  · rw [if_neg h]; exact ⟨fun q => absurd rfl q, fun q => absurd q h⟩
theorem choice_eq {x m : Sg} {n e L M : Nat} (he : e < 2) (hL : L ≤ 6) (hM : M ≤ 6) (hm2 : m kNow 2 = nI M) (h : ER x n e L m) (h0 : ∀ i, i < 6 → fl x n e i = 0) (i : Nat) (hi : i < 6) :
    (¬ fl (eChoose1 x n e M) n e i = 0) ↔ (i < L ∧ ¬ mChs m e (mBy m e L) L ((mFst m e (mBy m e L) L).getD 0) i = 0) := by
  have hdec : eDec x n e = mDec m e L := by
    have := dec_eq he hL h 6 0 rfl
    unfold eDec mDec
    rw [this, Nat.sub_zero]
  obtain ⟨h1, h2, h3, h4⟩ := h
  rw [eChoose1_ok h0 i hi, hdec]
  generalize hw : mDec m e L = w
  have hby : mBy m e L = if w = 0 then 10 else 1 := by unfold mBy; rw [hw]
  generalize hb : mBy m e L = b at hby ⊢
  have hv : ∀ j, j < L → ¬ mOpen m e j = 0 → cv x n e w j = vm m e b j := by
    intro j hj ho
    show pPrio x n e j w = m kNow (pl e j + b)
    unfold pPrio
    rw [hby]
    by_cases hw0 : w = 0
    · rw [if_pos hw0, if_pos hw0]; exact (h2 j hj ho).2.1
    · rw [if_neg hw0, if_neg hw0]; exact (h2 j hj ho).2.2.2.2
  have hbf : ∀ j k, j < L → k < L → ¬ mOpen m e j = 0 → ¬ mOpen m e k = 0 → bf (cv x n e w) j k = bf (vm m e b) j k := by
    intro j k hj hk oj ok
    unfold bf
    rw [hv j hj oj, hv k hk ok]
  have hpr : ∀ j k, j < L → k < L → ¬ mOpen m e j = 0 → ¬ mOpen m e k = 0 → ((¬ pPair x n e j n e k = 0) ↔ (¬ mPair m e j k = 0)) := by
    intro j k hj hk oj ok
    rw [pPair_iff, mPair_iff, (h2 j hj oj).2.2.2.1, (h2 k hk ok).2.2.2.1, (h2 j hj oj).1, (h2 k hk ok).1]
  have hbest := eBest_ok x n e w none
  have hfit : ∀ j, j < 6 → (eFit x n e none j = true ↔ (j < L ∧ ¬ mOpen m e j = 0)) := by
    intro j hj
    rw [← h1 j hj]
    unfold eFit
    have := h0 j hj
    unfold fl at this
    simp [this]
  cases hf : eBest x n e w none with
  | none =>
    rw [hf] at hbest
    constructor
    · rintro ⟨f, q, -⟩; cases q
    · rintro ⟨hiL, hc⟩
      exfalso
      apply hc
      unfold mChs
      have : mOpen m e i = 0 := Classical.byContradiction (fun q => by
        have g := hbest i hi
        rw [(hfit i hi).mpr ⟨hiL, q⟩] at g
        cases g)
      rw [if_pos this]
  | some f =>
    rw [hf] at hbest
    obtain ⟨hf6, hff, hmin⟩ := hbest
    obtain ⟨hfL, hfo⟩ := (hfit f hf6).mp hff
    have hz : ∀ j, j < L → ¬ mOpen m e j = 0 → (mAh m e j b 1 L = 0 ↔ j = f) := by
      intro j hj ho
      rw [mAh_1 (by omega) hL]
      constructor
      · intro q
        have hn : nc (fun k => om m e k && bf (vm m e b) k j) L = 0 := by
          have hle := nc_le (fun k => om m e k && bf (vm m e b) k j) L
          exact (nI_eq (by omega) (by decide)).mp (q.trans (show (0 : Int32) = nI 0 from rfl))
        rcases bf_tot (vm m e b) f j with g | g | g
        · exfalso
          have := nc_mono (P := fun k => decide (k = f)) (P' := fun k => om m e k && bf (vm m e b) k j) (d := L) (fun k hk hkf => by
            rw [decide_eq_true_eq] at hkf
            rw [hkf, g]; simp [hfo])
          have h1' : nc (fun k => decide (k = f)) L = nc (fun _ => false) L + 1 := nc_one (p := f) hfL rfl (by simp) (fun k hk hkf => by simp [hkf])
          omega
        · exact g.symm
        · exact absurd ((hbf j f hj hfL ho hfo).trans g) (hmin j (by omega) ((hfit j (by omega)).mpr ⟨hj, ho⟩))
      · intro q
        subst q
        rw [nc_zero (fun k hk => ?_)]
        · rfl
        · by_cases ok : mOpen m e k = 0
          · simp [ok]
          · have := hmin k (by omega) ((hfit k (by omega)).mpr ⟨hk, ok⟩)
            rw [hbf k j hk hj ok ho] at this
            simp [this]
    have hF : mFst m e b L = some f := by
      unfold mFst
      exact mFstR_is (fun k hk ok q => (hz k hk ok).mp q) hfo ((hz f hfL hfo).mpr rfl) L 0 none (by omega) (Or.inr ⟨by omega, by omega⟩)
    rw [hF]
    show _ ↔ (i < L ∧ ¬ mChs m e b L f i = 0)
    have hT : ∀ j, j < 6 → (cT x n e f j = true ↔ (j < L ∧ ¬ mOpen m e j = 0 ∧ ¬ mPair m e j f = 0)) := by
      intro j hj
      unfold cT
      rw [Bool.and_eq_true, decide_eq_true_eq, decide_eq_true_eq, h1 j hj]
      constructor
      · rintro ⟨⟨a, c⟩, d⟩; exact ⟨a, c, (hpr j f a hfL c hfo).mp d⟩
      · rintro ⟨a, c, d⟩; exact ⟨⟨a, c⟩, (hpr j f a hfL c hfo).mpr d⟩
    have hrk : i < L → ¬ mOpen m e i = 0 → ¬ mPair m e i f = 0 → mAh m e i b 0 L = nI (rk (cv x n e w) (cT x n e f) 6 i) := by
      intro hiL ho hp
      rw [mAh_0 hi hL]
      congr 1
      unfold rk
      rw [show 6 = L + (6 - L) by omega, nc_cut (6 - L) (fun j g1 g2 => by
        cases hc : cT x n e f j
        · rfl
        · exact absurd ((hT j (by omega)).mp hc).1 (by omega))]
      refine nc_congr (fun j hj => ?_)
      cases hc : cT x n e f j
      · rw [Bool.false_and]
        have nT : ¬ (¬ mOpen m e j = 0 ∧ ¬ mPair m e j f = 0) := fun q => by
          have := (hT j (by omega)).mpr ⟨hj, q.1, q.2⟩
          rw [hc] at this; cases this
        by_cases oj : mOpen m e j = 0
        · simp [oj]
        · have np : mPair m e j f = 0 := Classical.byContradiction (fun q => nT ⟨oj, q⟩)
          have : mPair m e i j = 0 := Classical.byContradiction (fun q => by
            have q1 := mPair_iff.mp q
            have q2 := mPair_iff.mp hp
            exact (mPair_iff.mpr ⟨q1.1.symm.trans q2.1, q1.2.symm.trans q2.2⟩) np)
          simp [this]
      · obtain ⟨-, oj, pj⟩ := (hT j (by omega)).mp hc
        have q1 := mPair_iff.mp hp
        have q2 := mPair_iff.mp pj
        have pij : ¬ mPair m e i j = 0 := mPair_iff.mpr ⟨q1.1.trans q2.1.symm, q1.2.trans q2.2.symm⟩
        rw [hbf j i hj hiL oj ho]
        simp [oj, pij]
    have hr6 : rk (cv x n e w) (cT x n e f) 6 i ≤ 6 := nc_le _ 6
    constructor
    · rintro ⟨f', q, hTi, hr⟩
      cases q
      obtain ⟨a, c, d⟩ := (hT i hi).mp hTi
      refine ⟨a, ?_⟩
      unfold mChs
      rw [if_neg c, if_neg d, hrk a c d, hm2, if_neg (fun g => by have := (nI_lei (by omega) (by omega)).mp g; omega)]
      decide
    · rintro ⟨a, hc⟩
      unfold mChs at hc
      by_cases c : mOpen m e i = 0
      · rw [if_pos c] at hc; exact absurd rfl hc
      · rw [if_neg c] at hc
        by_cases d : mPair m e i f = 0
        · rw [if_pos d] at hc; exact absurd rfl hc
        · rw [if_neg d, hrk a c d, hm2] at hc
          refine ⟨f, rfl, (hT i hi).mpr ⟨a, c, d⟩, ?_⟩
          by_cases g : nI M ≤ nI (rk (cv x n e w) (cT x n e f) 6 i)
          · rw [if_pos g] at hc; exact absurd rfl hc
          · rcases Nat.lt_or_ge (rk (cv x n e w) (cT x n e f) 6 i) M with q | q
            · exact q
            · exact absurd ((nI_lei (by omega) (by omega)).mpr q) g
