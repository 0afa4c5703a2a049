/-! PURE PART 15: a copy keeps the relation. -/
theorem eCopy_rows {n n2 : Nat} (e : Nat) (hn : n2 ≠ n) (σ : Sg) : (∀ i, i < 6 → eCopy σ n e n2 e (5, n, e, i) = c5 (σ (5, n, e, i)) (σ (5, n2, e, i)) ∧ eCopy σ n e n2 e (3, n, e, i) = m3 (σ (3, n, e, i)) (σ (3, n2, e, i)) ∧ eCopy σ n e n2 e (14, n, e, i) = m3 (σ (14, n, e, i)) (σ (14, n2, e, i))) ∧
    (∀ i, i < 8 → eCopy σ n e n2 e (1, n, e, i) = upd (upd (σ (1, n, e, i)) 0 (σ (1, n2, e, i) 0)) 1 (σ (1, n2, e, i) 1)) ∧
    eCopy σ n e n2 e (0, n, e, 0) = upd (σ (0, n, e, 0)) 1 (σ (0, n2, e, 0) 1) ∧
    ∀ k : Ky, ¬ (k.2.1 = n ∧ k.2.2.1 = e ∧ (k.1 = 0 ∨ k.1 = 1 ∨ k.1 = 3 ∨ k.1 = 5 ∨ k.1 = 14)) → eCopy σ n e n2 e k = σ k := by
  obtain ⟨p1, p2⟩ := eCopyP_rows e hn (up2 σ (0, n, e, 0) 1 (σ (0, n2, e, 0) 1))
  obtain ⟨f1, f2⟩ := eCopyF_rows e hn (eCopyP n e n2 e 6 0 (up2 σ (0, n, e, 0) 1 (σ (0, n2, e, 0) 1)))
  have u : ∀ k : Ky, k ≠ (0, n, e, 0) → up2 σ (0, n, e, 0) 1 (σ (0, n2, e, 0) 1) k = σ k := fun k hk => up2_nk _ _ _ _ hk
  refine ⟨fun i hi => ?_, fun i hi => ?_, ?_, fun k hk => ?_⟩
  · obtain ⟨a, b, c⟩ := p1 i hi
    rw [u _ (by simp), u _ (by simp)] at a b c
    unfold eCopy
    rw [f2 _ (fun j hj => by simp), f2 _ (fun j hj => by simp), f2 _ (fun j hj => by simp)]
    exact ⟨a, b, c⟩
  · unfold eCopy
    rw [f1 i hi, p2 (1, n, e, i) (fun j hj => by simp), p2 (1, n2, e, i) (fun j hj => by simp), u _ (by simp), u _ (by simp)]
  · unfold eCopy
    rw [f2 _ (fun j hj => by simp), p2 _ (fun j hj => by simp), up2_row]
  · unfold eCopy
    rw [f2 k (fun j hj q => hk (by rw [q]; simp)), p2 k (fun j hj => ⟨fun q => hk (by rw [q]; simp), fun q => hk (by rw [q]; simp), fun q => hk (by rw [q]; simp)⟩), u k (fun q => hk (by rw [q]; simp))]
