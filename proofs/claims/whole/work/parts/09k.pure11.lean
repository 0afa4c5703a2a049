/-! PURE PART 11: an end's step on both sides. -/
abbrev chM (m : Sg) (e L i : Nat) : Int32 := mChs m e (mBy m e L) L ((mFst m e (mBy m e L) L).getD 0) i
theorem mBec_at {m : Sg} {e L : Nat} (he : e < 2) (hL : L ≤ 6) : (∀ l, l < L → ∀ j, j < 16 → mBec m e L kNow (pl e l + j) = bhR (rw_ m e l) (m kNow (4 + l)) (chM m e L l) (m kM 1) j) ∧ (∀ k j, k ≠ (10, 0, 0, 0) → (∀ l, l < L → ¬ (k = kNow ∧ pl e l ≤ j ∧ j < pl e l + 16)) → mBec m e L k j = m k j) := by
  obtain ⟨c1, c2⟩ := mChR_at e (mBy m e L) L ((mFst m e (mBy m e L) L).getD 0) L 0 m
  obtain ⟨b1, b2⟩ := mBhR_at (σ := mCh m e L) he hL
  have hn : ∀ j, mCh m e L kNow j = m kNow j := fun j => c2 kNow j (fun q => by cases q.1)
  have hM : mCh m e L kM 1 = m kM 1 := c2 kM 1 (fun q => by cases q.1)
  refine ⟨fun l hl j hj => ?_, fun k j hk h => ?_⟩
  · unfold mBec
    rw [b1 l hl j hj, hM, hn (4 + l)]
    have hr : rw_ (mCh m e L) e l = rw_ m e l := funext (fun j => hn _)
    rw [hr]
    have hc : mCh m e L (10, 0, 0, 0) l = chM m e L l := c1 l (by omega) (by omega)
    rw [hc]
  · unfold mBec
    rw [b2 k j h]
    exact c2 k j (fun q => hk q.1)
/-- what holds of an end between hearing and choosing -/
def EH (x : Sg) (n e L : Nat) (m : Sg) (t : Nat) : Prop :=
  (∀ l, l < L → OR (x (5, n, e, l)) (rw_ m e l) (m kNow (4 + l)) ∧ HR (x (5, n, e, l)) (x (3, n, e, l)) (rw_ m e l) ∧ CM (x (5, n, e, l)) (rw_ m e l) t) ∧
  (∀ l, L ≤ l → l < 6 → b01 (x (5, n, e, l) 0) = 0 ∧ b01 (x (5, n, e, l) 1) = 0 ∧ b01 (x (3, n, e, l) 0) = 0) ∧
  x (0, n, e, 0) 0 = nI e ∧ x (0, n, e, 0) 1 = m kNow (0 + e)
theorem HR_open {p5 p3 b : Nat → Int32} (h : HR p5 p3 b) : (¬ b01 (p3 0) = 0) ↔ ¬ b 8 = -4 := by
  rcases h with ⟨g1, g2⟩ | ⟨g1, g2, g3, -⟩
  · exact ⟨fun q => absurd g1 q, fun q => absurd g2 q⟩
  · exact ⟨fun _ q => by rw [g2] at q; rcases g3 with g | g | g <;> rw [g] at q <;> exact absurd q (by decide), fun _ => g1⟩
theorem mOpen_iff {m : Sg} {e i : Nat} : (¬ mOpen m e i = 0) ↔ ¬ m kNow (pl e i + 8) = -4 := by
  unfold mOpen
  by_cases h : m kNow (pl e i + 8) = -4
  · rw [if_pos h]; exact ⟨fun q => absurd rfl q, fun q => absurd h q⟩
  · rw [if_neg h]; exact ⟨fun _ => h, fun _ => by decide⟩
theorem EH_ER {x : Sg} {n e L : Nat} {m : Sg} {t : Nat} (h : EH x n e L m t) : ER x n e L m := by
  obtain ⟨h1, h2, h3, h4⟩ := h
  refine ⟨fun i hi => ?_, fun i hi ho => ?_, h4, h3⟩
  · by_cases hL : i < L
    · rw [HR_open (h1 i hL).2.1, mOpen_iff]
      exact ⟨fun q => ⟨hL, q⟩, fun q => q.2⟩
    · have := (h2 i (by omega) hi).2.2
      exact ⟨fun q => absurd this q, fun q => absurd q.1 hL⟩
  · obtain ⟨⟨-, -, o3, o4, -, -⟩, hh, -⟩ := h1 i hi
    rcases hh with ⟨-, g2⟩ | ⟨-, -, -, g4, g5, g6, -⟩
    · exact absurd g2 (mOpen_iff.mp ho)
    · exact ⟨g4, g5, g6, o3, o4⟩
/-- unchosen first: the relation doesn't read the flag -/
theorem ER_unch {x : Sg} {n e L : Nat} {m : Sg} (h : ER x n e L m) : ER (eUnch n e 6 0 x) n e L m := by
  have r : ∀ k j, ¬ (j = 8 ∧ ∃ i, k = (5, n, e, i)) → eUnch n e 6 0 x k j = x k j := fun k j q => eUnch_ne n e 6 0 x k j (fun ⟨a, i, _, _, g⟩ => q ⟨a, i, g⟩)
  obtain ⟨h1, h2, h3, h4⟩ := h
  refine ⟨fun i hi => ?_, fun i hi ho => ?_, ?_, ?_⟩
  · rw [r (3, n, e, i) 0 (by simp)]; exact h1 i hi
  · rw [r (3, n, e, i) 1 (by simp), r (3, n, e, i) 2 (by simp), r (3, n, e, i) 3 (by simp), r (5, n, e, i) 2 (by simp), r (5, n, e, i) 3 (by simp)]; exact h2 i hi ho
  · rw [r (0, n, e, 0) 1 (by simp)]; exact h3
  · rw [r (0, n, e, 0) 0 (by simp)]; exact h4
theorem flag_eq {x : Sg} {n e L M : Nat} {m : Sg} (he : e < 2) (hL : L ≤ 6) (hM : M ≤ 6) (hm2 : m kNow 2 = nI M) (h : ER x n e L m) {i : Nat} (hi : i < 6) : (¬ b01 (eChoose x n e M (5, n, e, i) 8) = 0) ↔ (i < L ∧ ¬ chM m e L i = 0) := by
  have h0 : ∀ i, i < 6 → fl (eUnch n e 6 0 x) n e i = 0 := fun i hi => by unfold fl; rw [eUnch_at n e 6 0 x i (by omega) (by omega)]; rfl
  exact choice_eq he hL hM hm2 (ER_unch h) h0 i hi
/-- an end's step keeps the ports alike (sends laid at once) -/
theorem end_step {x : Sg} {n e L M : Nat} {m : Sg} {t : Nat} (he : e < 2) (hL : L ≤ 6) (hM : M ≤ 6) (ht : t < 2 ^ 30) (hm2 : m kNow 2 = nI M) (hx3 : x (4, n, 0, 0) 3 = nI M) (hx4 : x (4, n, 0, 0) 4 = m kM 1) (h : EH x n e L m t) :
    (∀ l, l < L → PR (nStepOf x n e (5, n, e, l)) (nStepOf x n e (3, n, e, l)) (nStepOf x n e (14, n, e, l)) (m kNow (4 + l)) (sR (bhR (rw_ m e l) (m kNow (4 + l)) (chM m e L l) (m kM 1)) (m kNow (4 + l)) (m kNow (0 + e))) (t + 1)) ∧
    (∀ l, L ≤ l → l < 6 → DP (nStepOf x n e (5, n, e, l)) (nStepOf x n e (3, n, e, l))) := by
  obtain ⟨s1, s2, s3⟩ := stepOf_rows x n e
  have hcl : (x (4, n, 0, 0) 3).toNatClampNeg = M := by rw [hx3]; exact nI_clamp (by omega)
  rw [hcl] at s1
  have e3 : ∀ l, nStepOf x n e (3, n, e, l) = x (3, n, e, l) := fun l => s3 _ (fun i hi => by simp) (fun i hi => by simp) (fun i => by simp)
  have q : ∀ l j, j ≠ 8 → eChoose x n e M (5, n, e, l) j = x (5, n, e, l) j := fun l j hj => eChoose_row x n e M (fun g => hj g.1)
  have hER := EH_ER h
  obtain ⟨h1, h2, h3, h4⟩ := h
  refine ⟨fun l hl => ?_, fun l hl hl6 => ?_⟩
  · obtain ⟨g5, g14⟩ := s1 l (by omega)
    obtain ⟨⟨o1, o2, o3, o4, o5, o6⟩, hh, hc⟩ := h1 l hl
    rw [g5, g14, e3, hx4, h4]
    refine PR_judge ht ?_ ?_ ?_ ?_
    · exact ⟨by rw [q l 0 (by decide)]; exact o1, by rw [q l 1 (by decide)]; exact o2, by rw [q l 2 (by decide)]; exact o3, by rw [q l 3 (by decide)]; exact o4, by rw [q l 7 (by decide)]; exact o5, by rw [q l 10 (by decide)]; exact o6⟩
    · unfold HR at hh ⊢; rw [q l 6 (by decide)]; exact hh
    · unfold CM at hc ⊢; rw [q l 9 (by decide)]; exact hc
    · rw [flag_eq he hL hM hm2 hER (by omega)]
      exact ⟨fun g => g.2, fun g => ⟨hl, g⟩⟩
  · obtain ⟨g5, -⟩ := s1 l hl6
    obtain ⟨d1, d2, d3⟩ := h2 l hl hl6
    have f8 : b01 (eChoose x n e M (5, n, e, l) 8) = 0 := Classical.byContradiction (fun g => by have := ((flag_eq he hL hM hm2 hER hl6).mp g).1; omega)
    have c0 : b01 (eChoose x n e M (5, n, e, l) 0) = 0 := by rw [q l 0 (by decide)]; exact d1
    have c1 : b01 (eChoose x n e M (5, n, e, l) 1) = 0 := by rw [q l 1 (by decide)]; exact d2
    rw [g5, e3]
    generalize eChoose x n e M (5, n, e, l) = p at f8 c0 c1
    have hw : howR (j5a p) (x (3, n, e, l)) (x (4, n, 0, 0) 4) = 0 := by
      unfold howR
      rw [if_pos (by simpa [j5a, upd] using c0)]
    have hj : j5 p (x (3, n, e, l)) (x (4, n, 0, 0) 4) = j5b p (x (3, n, e, l)) (x (4, n, 0, 0) 4) := by
      unfold j5; rw [hw, if_neg (fun g => absurd g.1 (by decide))]
    rw [hj]
    refine ⟨?_, ?_, d3, ?_, ?_⟩
    · simpa [j5b, j5a, upd] using c0
    · simpa [j5b, j5a, upd] using c1
    · simpa [j5b, j5a, upd] using f8
    · simp [j5b, upd, hw]
