/-! PURE PART 14: a net is copied. -/
def c5 (p q : Nat → Int32) : Nat → Int32 := upd (upd (upd (upd (upd (upd (upd (upd (upd p 0 (b01 (q 0))) 1 (b01 (q 1))) 2 (q 2)) 3 (q 3)) 6 (q 6)) 7 (q 7)) 8 (b01 (q 8))) 9 (q 9)) 10 (q 10)
theorem cpI_at {σ : Sg} {k k2 : Ky} {j : Nat} : cpI σ k k2 j k = upd (σ k) j (σ k2 j) := by unfold cpI; rw [up2_row]
theorem cpZ_at {σ : Sg} {k k2 : Ky} {j : Nat} : cpZ σ k k2 j k = upd (σ k) j (b01 (σ k2 j)) := by unfold cpZ; rw [up2_row]
theorem cpI_ne {σ : Sg} {k k2 q : Ky} {j : Nat} (h : q ≠ k) : cpI σ k k2 j q = σ q := by unfold cpI; rw [up2_nk _ _ _ _ h]
theorem cpZ_ne {σ : Sg} {k k2 q : Ky} {j : Nat} (h : q ≠ k) : cpZ σ k k2 j q = σ q := by unfold cpZ; rw [up2_nk _ _ _ _ h]
theorem pCopyA_at {σ : Sg} {k k2 : Ky} (h : k2 ≠ k) : pCopyA σ k k2 k = upd (upd (upd (upd (σ k) 0 (b01 (σ k2 0))) 1 (b01 (σ k2 1))) 2 (σ k2 2)) 3 (σ k2 3) := by
  unfold pCopyA; simp only [cpI_at, cpZ_at, cpI_ne h, cpZ_ne h]
theorem pCopyA_ne {σ : Sg} {k k2 q : Ky} (h : q ≠ k) : pCopyA σ k k2 q = σ q := by
  unfold pCopyA; rw [cpI_ne h, cpI_ne h, cpZ_ne h, cpZ_ne h]
theorem pCopyB_at {σ : Sg} {k k2 : Ky} (h : k2 ≠ k) : pCopyB σ k k2 k = upd (upd (upd (upd (upd (σ k) 6 (σ k2 6)) 7 (σ k2 7)) 8 (b01 (σ k2 8))) 9 (σ k2 9)) 10 (σ k2 10) := by
  unfold pCopyB; simp only [cpI_at, cpZ_at, cpI_ne h, cpZ_ne h]
theorem pCopyB_ne {σ : Sg} {k k2 q : Ky} (h : q ≠ k) : pCopyB σ k k2 q = σ q := by
  unfold pCopyB; rw [cpI_ne h, cpI_ne h, cpZ_ne h, cpI_ne h, cpI_ne h]
