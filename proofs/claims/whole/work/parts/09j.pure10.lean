/-! PURE PART 10: a net against the reference's array; a tick of the class, row by row. -/
def DP (p5 p3 : Nat → Int32) : Prop := b01 (p5 0) = 0 ∧ b01 (p5 1) = 0 ∧ b01 (p3 0) = 0 ∧ b01 (p5 8) = 0 ∧ p5 7 = 0
def FR (r : Nat → Int32) (c d : Int32) : Prop := r 0 = c ∧ r 1 = d ∧ (c = -4 ∨ ∃ j, j < 6 ∧ c = nI j)
def NR (x : Sg) (n : Nat) (a : Nat → Int32) (L : Nat) (wt dr : Int32) (t : Nat) : Prop :=
  (∀ e, e < 2 → x (0, n, e, 0) 0 = nI e ∧ x (0, n, e, 0) 1 = a (0 + e)) ∧
  (x (4, n, 0, 0) 2 = nI L ∧ x (4, n, 0, 0) 4 = wt ∧ x (4, n, 0, 0) 5 = dr ∧ x (4, n, 0, 0) 6 = nI t ∧ a 3 = nI t ∧ x (4, n, 0, 0) 3 = a 2 ∧ ∃ M, M ≤ 6 ∧ a 2 = nI M) ∧
  (∀ e l, e < 2 → l < L → PR (x (5, n, e, l)) (x (3, n, e, l)) (x (14, n, e, l)) (a (4 + l)) (fun j => a (pl e l + j)) t) ∧
  (∀ e l, e < 2 → L ≤ l → l < 6 → DP (x (5, n, e, l)) (x (3, n, e, l)) ∧ a (pl e l + 14) = 1) ∧
  (∀ e f, e < 2 → f < 8 → FR (x (1, n, e, f)) (a (fp e f + 0)) (a (fp e f + 1)))
theorem hear_both (x : Sg) (n : Nat) : (∀ e i, e < 2 → i < 6 → eHear n 1 n 0 6 0 (eHear n 0 n 1 6 0 x) (5, n, e, i) = h5 (x (5, n, e, i)) (x (3, n, e, i)) (x (14, n, 1 - e, i)) ∧ eHear n 1 n 0 6 0 (eHear n 0 n 1 6 0 x) (3, n, e, i) = h3 (x (5, n, e, i)) (x (3, n, e, i)) (x (14, n, 1 - e, i))) ∧ ∀ k : Ky, (∀ e i, e < 2 → i < 6 → k ≠ (5, n, e, i) ∧ k ≠ (3, n, e, i)) → eHear n 1 n 0 6 0 (eHear n 0 n 1 6 0 x) k = x k := by
  obtain ⟨a1, a2⟩ := eHear_rows n 0 n 1 x
  obtain ⟨b1, b2⟩ := eHear_rows n 1 n 0 (eHear n 0 n 1 6 0 x)
  refine ⟨fun e i he hi => ?_, fun k hk => ?_⟩
  · have hee : e = 0 ∨ e = 1 := by omega
    rcases hee with rfl | rfl
    · rw [b2 (5, n, 0, i) (fun j hj => by simp), b2 (3, n, 0, i) (fun j hj => by simp)]
      exact a1 i hi
    · have c5 := a2 (5, n, 1, i) (fun j hj => by simp)
      have c3 := a2 (3, n, 1, i) (fun j hj => by simp)
      have c14 := a2 (14, n, 0, i) (fun j hj => by simp)
      have := b1 i hi
      rw [c5, c3, c14] at this
      exact this
  · rw [b2 k (fun i hi => hk 1 i (by decide) hi), a2 k (fun i hi => hk 0 i (by decide) hi)]
/-- the choice: rows but for the flag -/
theorem eChoose_row (x : Sg) (n e M : Nat) {k : Ky} {j : Nat} (h : ¬ (j = 8 ∧ ∃ i, k = (5, n, e, i))) : eChoose x n e M k j = x k j := by
  unfold eChoose eChoose1
  rw [eTake_fr n e _ _ M _ _ k j h, eUnch_ne n e 6 0 x k j (fun ⟨q, i, _, _, g⟩ => h ⟨q, i, g⟩)]
theorem eChoose_oth (x : Sg) (n e M : Nat) {k : Ky} (h : ∀ i, k ≠ (5, n, e, i)) : eChoose x n e M k = x k := by
  funext j
  exact eChoose_row x n e M (fun q => by obtain ⟨-, i, g⟩ := q; exact h i g)
/-- an end's step -/
theorem stepOf_rows (x : Sg) (n e : Nat) : (∀ i, i < 6 → nStepOf x n e (5, n, e, i) = j5 (eChoose x n e (x (4, n, 0, 0) 3).toNatClampNeg (5, n, e, i)) (x (3, n, e, i)) (x (4, n, 0, 0) 4) ∧ nStepOf x n e (14, n, e, i) = s14 (j5 (eChoose x n e (x (4, n, 0, 0) 3).toNatClampNeg (5, n, e, i)) (x (3, n, e, i)) (x (4, n, 0, 0) 4)) (x (14, n, e, i)) (x (0, n, e, 0) 1)) ∧
    (∀ i, i < 8 → nStepOf x n e (1, n, e, i) = dl (x (1, n, e, i)) (eWant (nStepOf x n e) n e (nI i) (eSend (nStepOf x n e) n e)) (x (4, n, 0, 0) 5)) ∧
    ∀ k : Ky, (∀ i, i < 6 → k ≠ (5, n, e, i) ∧ k ≠ (14, n, e, i)) → (∀ i, i < 8 → k ≠ (1, n, e, i)) → (∀ i, k ≠ (5, n, e, i)) → nStepOf x n e k = x k := by
  generalize hM : (x (4, n, 0, 0) 3).toNatClampNeg = M
  have y1 : nStepOf1 x n e = eChoose x n e M := by unfold nStepOf1; rw [hM]
  have o1 : ∀ k : Ky, (∀ i, k ≠ (5, n, e, i)) → eChoose x n e M k = x k := fun k h => eChoose_oth x n e M h
  have w4 : eChoose x n e M (4, n, 0, 0) = x (4, n, 0, 0) := o1 _ (fun i => by simp)
  obtain ⟨j1, j2⟩ := eJudge_rows n e (x (4, n, 0, 0) 4) (eChoose x n e M)
  have y2 : nStepOf2 (nStepOf1 x n e) n e = eJudge n e (x (4, n, 0, 0) 4) 6 0 (eChoose x n e M) := by unfold nStepOf2; rw [y1, w4]
  generalize hz : eJudge n e (x (4, n, 0, 0) 4) 6 0 (eChoose x n e M) = z at j1 j2 y2
  have z4 : z (4, n, 0, 0) = x (4, n, 0, 0) := (j2 _ (fun i hi => by simp)).trans w4
  obtain ⟨d1, d2⟩ := eDealR_rows n e (eSend z n e) (x (4, n, 0, 0) 5) z
  have y3 : nStepOf x n e = eDealR n e (eSend z n e) (x (4, n, 0, 0) 5) 8 0 z := by unfold nStepOf nStepOf3 eDeal; rw [y2, z4]
  have z5 : ∀ i, nStepOf x n e (5, n, e, i) = z (5, n, e, i) := fun i => by rw [y3]; exact d2 _ (fun i hi => by simp)
  have es : eSend (nStepOf x n e) n e = eSend z n e := by
    unfold eSend
    have : (fun i => if nStepOf x n e (5, n, e, i) 7 = 5 then (1 : Int32) else 0) = (fun i => if z (5, n, e, i) 7 = 5 then (1 : Int32) else 0) := by funext i; rw [z5 i]
    rw [this]
  refine ⟨fun i hi => ?_, fun i hi => ?_, fun k h1 h2 h3 => ?_⟩
  · obtain ⟨g1, g2⟩ := j1 i hi
    rw [o1 (3, n, e, i) (fun i => by simp)] at g1 g2
    rw [o1 (14, n, e, i) (fun i => by simp), o1 (0, n, e, 0) (fun i => by simp)] at g2
    refine ⟨(z5 i).trans g1, ?_⟩
    rw [y3, d2 _ (fun i hi => by simp)]
    exact g2
  · rw [es, eWant_c (σ := z) z5, y3, d1 i hi, j2 (1, n, e, i) (fun i hi => by simp), o1 (1, n, e, i) (fun i => by simp)]
  · rw [y3, d2 k h2, j2 k h1, o1 k h3]
