/-! PURE PART 14: a net is copied. -/
def c5 (p q : Nat → Int32) : Nat → Int32 := upd (upd (upd (upd (upd (upd (upd (upd (upd p 0 (b01 (q 0))) 1 (b01 (q 1))) 2 (q 2)) 3 (q 3)) 6 (q 6)) 7 (q 7)) 8 (b01 (q 8))) 9 (q 9)) 10 (q 10)
theorem cpI_at {σ : Sg} {k k2 : Ky} {j : Nat} : cpI σ k k2 j k = upd (σ k) j (σ k2 j) := by unfold cpI; rw [up2_row]
theorem cpZ_at {σ : Sg} {k k2 : Ky} {j : Nat} : cpZ σ k k2 j k = upd (σ k) j (b01 (σ k2 j)) := by unfold cpZ; rw [up2_row]
theorem cpI_ne {σ : Sg} {k k2 q : Ky} {j : Nat} (h : q ≠ k) : cpI σ k k2 j q = σ q := by unfold cpI; rw [up2_nk _ _ _ _ h]
theorem cpZ_ne {σ : Sg} {k k2 q : Ky} {j : Nat} (h : q ≠ k) : cpZ σ k k2 j q = σ q := by unfold cpZ; rw [up2_nk _ _ _ _ h]
theorem pCopyA_at {σ : Sg} {k k2 : Ky} (h : k2 ≠ k) : pCopyA σ k k2 k = upd (upd (upd (upd (σ k) 0 (b01 (σ k2 0))) 1 (b01 (σ k2 1))) 2 (σ k2 2)) 3 (σ k2 3) := by
  unfold pCopyA; simp only [cpI_at, cpZ_at, cpI_ne h, cpZ_ne h]
theorem pCopyA_ne {σ : Sg} {k k2 q : Ky} (h : q ≠ k) : pCopyA σ k k2 q = σ q := by
  unfold pCopyA; rw [cpI_ne h, cpI_ne h, cpZ_ne h, cpZ_ne h]
theorem pCopyB_at {σ : Sg} {k k2 : Ky} (h : k2 ≠ k) : pCopyB σ k k2 k = upd (upd (upd (upd (upd (σ k) 6 (σ k2 6)) 7 (σ k2 7)) 8 (b01 (σ k2 8))) 9 (σ k2 9)) 10 (σ k2 10) := by
  unfold pCopyB; simp only [cpI_at, cpZ_at, cpI_ne h, cpZ_ne h]
theorem pCopyB_ne {σ : Sg} {k k2 q : Ky} (h : q ≠ k) : pCopyB σ k k2 q = σ q := by
  unfold pCopyB; rw [cpI_ne h, cpI_ne h, cpZ_ne h, cpI_ne h, cpI_ne h]
theorem pCopy_5 {σ : Sg} {n e l n2 : Nat} (h : n2 ≠ n) : pCopy σ n e l n2 e l (5, n, e, l) = c5 (σ (5, n, e, l)) (σ (5, n2, e, l)) := by
  have h5 : ((5, n2, e, l) : Ky) ≠ (5, n, e, l) := by simp [h]
  unfold pCopy
  rw [pCopyB_at h5]
  simp only [mCopy_ne (show ((5, n, e, l) : Ky) ≠ (14, n, e, l) by simp), mCopy_ne (show ((5, n, e, l) : Ky) ≠ (3, n, e, l) by simp), mCopy_ne (show ((5, n2, e, l) : Ky) ≠ (14, n, e, l) by simp), mCopy_ne (show ((5, n2, e, l) : Ky) ≠ (3, n, e, l) by simp), pCopyA_at h5, pCopyA_ne h5]
  rfl
theorem pCopy_3 {σ : Sg} {n e l n2 : Nat} (h : n2 ≠ n) : pCopy σ n e l n2 e l (3, n, e, l) = m3 (σ (3, n, e, l)) (σ (3, n2, e, l)) := by
  unfold pCopy
  rw [pCopyB_ne (by simp), mCopy_ne (by simp), mCopy_at (by simp [h]), pCopyA_ne (by simp), pCopyA_ne (by simp)]
theorem pCopy_14 {σ : Sg} {n e l n2 : Nat} (h : n2 ≠ n) : pCopy σ n e l n2 e l (14, n, e, l) = m3 (σ (14, n, e, l)) (σ (14, n2, e, l)) := by
  unfold pCopy
  rw [pCopyB_ne (by simp), mCopy_at (by simp [h]), mCopy_ne (by simp), mCopy_ne (by simp), pCopyA_ne (by simp), pCopyA_ne (by simp)]
theorem pCopy_ne {σ : Sg} {n e l n2 : Nat} {k : Ky} (h5 : k ≠ (5, n, e, l)) (h3 : k ≠ (3, n, e, l)) (h14 : k ≠ (14, n, e, l)) : pCopy σ n e l n2 e l k = σ k := by
  unfold pCopy
  rw [pCopyB_ne h5, mCopy_ne h14, mCopy_ne h3, pCopyA_ne h5]
theorem eCopyP_iter (n e n2 : Nat) : ∀ (d i : Nat) (σ : Sg), eCopyP n e n2 e d i σ = iter (fun i σ => pCopy σ n e i n2 e i) d i σ
  | 0, _, _ => rfl
  | d + 1, i, σ => by rw [eCopyP, iter]; exact eCopyP_iter n e n2 d (i + 1) _
theorem eCopyP_rows {n n2 : Nat} (e : Nat) (hn : n2 ≠ n) (σ : Sg) : (∀ i, i < 6 → eCopyP n e n2 e 6 0 σ (5, n, e, i) = c5 (σ (5, n, e, i)) (σ (5, n2, e, i)) ∧ eCopyP n e n2 e 6 0 σ (3, n, e, i) = m3 (σ (3, n, e, i)) (σ (3, n2, e, i)) ∧ eCopyP n e n2 e 6 0 σ (14, n, e, i) = m3 (σ (14, n, e, i)) (σ (14, n2, e, i))) ∧ ∀ k : Ky, (∀ i, i < 6 → k ≠ (5, n, e, i) ∧ k ≠ (3, n, e, i) ∧ k ≠ (14, n, e, i)) → eCopyP n e n2 e 6 0 σ k = σ k := by
  have h := iter_row (f := fun i σ => pCopy σ n e i n2 e i) (K := fun i k => k = (5, n, e, i) ∨ k = (3, n, e, i) ∨ k = (14, n, e, i)) (D := fun i k => k = (5, n, e, i) ∨ k = (3, n, e, i) ∨ k = (14, n, e, i) ∨ k = (5, n2, e, i) ∨ k = (3, n2, e, i) ∨ k = (14, n2, e, i))
    (fun i σ k q => pCopy_ne (fun g => q (Or.inl g)) (fun g => q (Or.inr (Or.inl g))) (fun g => q (Or.inr (Or.inr g))))
    (fun i σ σ' q k hk => by
      have a := q (5, n, e, i) (by simp)
      have b := q (3, n, e, i) (by simp)
      have c := q (14, n, e, i) (by simp)
      have a2 := q (5, n2, e, i) (by simp)
      have b2 := q (3, n2, e, i) (by simp)
      have c2 := q (14, n2, e, i) (by simp)
      rcases hk with rfl | rfl | rfl
      · rw [pCopy_5 hn, pCopy_5 hn, a, a2]
      · rw [pCopy_3 hn, pCopy_3 hn, b, b2]
      · rw [pCopy_14 hn, pCopy_14 hn, c, c2])
    (fun i i' hne k hk => by rcases hk with rfl | rfl | rfl <;> simp [hne, Ne.symm hn]) 6 0 σ
  rw [eCopyP_iter]
  refine ⟨fun i hi => ⟨?_, ?_, ?_⟩, fun k hk => h.2 k (fun i _ hi q => ?_)⟩
  · rw [h.1 i (by omega) (by omega) _ (Or.inl rfl)]; exact pCopy_5 hn
  · rw [h.1 i (by omega) (by omega) _ (Or.inr (Or.inl rfl))]; exact pCopy_3 hn
  · rw [h.1 i (by omega) (by omega) _ (Or.inr (Or.inr rfl))]; exact pCopy_14 hn
  · obtain ⟨a, b, c⟩ := hk i (by omega)
    rcases q with q | q | q
    · exact a q
    · exact b q
    · exact c q
theorem fCopy_at {σ : Sg} {k k2 : Ky} (h : k2 ≠ k) : fCopy σ k k2 k = upd (upd (σ k) 0 (σ k2 0)) 1 (σ k2 1) := by
  unfold fCopy; rw [up2_row, up2_row, up2_nk _ _ _ _ h]
theorem fCopy_ne {σ : Sg} {k k2 q : Ky} (h : q ≠ k) : fCopy σ k k2 q = σ q := by
  unfold fCopy; rw [up2_nk _ _ _ _ h, up2_nk _ _ _ _ h]
theorem eCopyF_iter (n e n2 : Nat) : ∀ (d i : Nat) (σ : Sg), eCopyF n e n2 e d i σ = iter (fun i σ => fCopy σ (1, n, e, i) (1, n2, e, i)) d i σ
  | 0, _, _ => rfl
  | d + 1, i, σ => by rw [eCopyF, iter]; exact eCopyF_iter n e n2 d (i + 1) _
theorem eCopyF_rows {n n2 : Nat} (e : Nat) (hn : n2 ≠ n) (σ : Sg) : (∀ i, i < 8 → eCopyF n e n2 e 8 0 σ (1, n, e, i) = upd (upd (σ (1, n, e, i)) 0 (σ (1, n2, e, i) 0)) 1 (σ (1, n2, e, i) 1)) ∧ ∀ k : Ky, (∀ i, i < 8 → k ≠ (1, n, e, i)) → eCopyF n e n2 e 8 0 σ k = σ k := by
  have hk2 : ∀ i, ((1, n2, e, i) : Ky) ≠ (1, n, e, i) := fun i => by simp [hn]
  have h := iter_row (f := fun i σ => fCopy σ (1, n, e, i) (1, n2, e, i)) (K := fun i k => k = (1, n, e, i)) (D := fun i k => k = (1, n, e, i) ∨ k = (1, n2, e, i))
    (fun i σ k q => fCopy_ne q)
    (fun i σ σ' q k hk => by
      have a := q (1, n, e, i) (Or.inl rfl)
      have b := q (1, n2, e, i) (Or.inr rfl)
      rw [hk]
      rw [fCopy_at (hk2 i), fCopy_at (hk2 i), a, b])
    (fun i i' hne k hk => by rw [hk]; simp [hne, Ne.symm hn]) 8 0 σ
  rw [eCopyF_iter]
  refine ⟨fun i hi => ?_, fun k hk => h.2 k (fun i _ hi q => hk i (by omega) q)⟩
  rw [h.1 i (by omega) (by omega) _ rfl]
  exact fCopy_at (hk2 i)
