/-! PURE PART 7: a port is judged and says, on both sides. -/
def CM (p5 b : Nat → Int32) (t : Nat) : Prop := (b 13 = -4 ∧ p5 9 = -1) ∨ (b 13 = p5 9 ∧ ∃ c, c ≤ t ∧ p5 9 = nI c)
theorem CR_CM {p5 b : Nat → Int32} {t : Nat} (h : CR p5 b t) : CM p5 b t := by
  rcases h with ⟨-, h2⟩ | ⟨-, h2⟩
  · exact Or.inl h2
  · exact Or.inr h2
theorem nI_n4 {c : Nat} (h : c < 2 ^ 31) : ¬ nI c = -4 := fun q => by
  have := nI_toInt h
  rw [q] at this
  have h4 : ((-4 : Int32)).toInt = -4 := by decide
  omega
theorem howR_eq {p5 p3 b : Nat → Int32} {up ch wt : Int32} {t : Nat} (ht : t < 2 ^ 30) (o1 : b01 (p5 0) = up) (hh : HR p5 p3 b) (hc : CM p5 b t) (hch : ¬ b01 (p5 8) = 0 ↔ ¬ ch = 0) :
    howR (j5a p5) p3 wt = mhow (bh1 b ch) up wt ∧ CR (j5a p5) (bh1 b ch) (t + 1) := by
  have hcr : CR (j5a p5) (bh1 b ch) (t + 1) := by
    by_cases f : b01 (p5 8) = 0
    · have c0 : ch = 0 := Classical.byContradiction (fun q => (hch.mpr q) f)
      left
      simp [j5a, bh1, upd, f, c0]
    · have c0 : ¬ ch = 0 := hch.mp f
      right
      refine ⟨by simpa [j5a, upd] using f, ?_⟩
      rcases hc with ⟨g1, g2⟩ | ⟨g1, c, g2, g3⟩
      · refine ⟨?_, 0, by omega, ?_⟩
        · simp [j5a, bh1, upd, f, c0, g1, g2]
        · simp [j5a, upd, f, g2]; rfl
      · have n4 : ¬ b 13 = -4 := by rw [g1, g3]; exact nI_n4 (by omega)
        refine ⟨?_, c + 1, by omega, ?_⟩
        · simp only [j5a, bh1, upd, if_true, if_neg f, if_neg c0, if_neg n4]; rw [g1]
        · simp only [j5a, upd, if_true, if_neg f]
          rw [g3]; exact nI_1 c
  refine ⟨?_, hcr⟩
  unfold howR mhow
  have e0 : j5a p5 0 = p5 0 := by simp [j5a, upd]
  have e8 : j5a p5 8 = p5 8 := by simp [j5a, upd]
  have f8 : bh1 b ch 8 = b 8 := by simp [bh1, upd]
  have f12 : bh1 b ch 12 = b 12 := by simp [bh1, upd]
  rw [e0, f8, f12]
  by_cases a : b01 (p5 0) = 0
  · rw [if_pos a, if_pos (o1.symm.trans a)]
  · rw [if_neg a, if_neg (fun q => a (o1.trans q))]
    rcases hh with ⟨g1, g2⟩ | ⟨g1, g2, g3, -, -, -, g4⟩
    · rw [if_pos g1, if_pos g2]
    · have n4 : ¬ b 8 = -4 := fun q => by rw [g2] at q; rcases g3 with g | g | g <;> rw [g] at q <;> exact absurd q (by decide)
      rw [if_neg g1, if_neg n4]
      rcases hcr with ⟨k1, k2, -⟩ | ⟨k1, k2, c, k3, k4⟩
      · rw [if_pos k1, if_pos k2]
      · have n5 : ¬ bh1 b ch 13 = -4 := by rw [k2, k4]; exact nI_n4 (by omega)
        rw [if_neg k1, if_neg n5, k2, g4]
theorem mhow_rg (b : Nat → Int32) (up wt : Int32) : mhow b up wt = 0 ∨ mhow b up wt = 1 ∨ mhow b up wt = 2 ∨ mhow b up wt = 3 ∨ mhow b up wt = 4 ∨ mhow b up wt = 5 := by
  unfold mhow; (repeat' split) <;> simp
theorem PR_judge {p5 p3 p14 b : Nat → Int32} {up ch wt rk : Int32} {t : Nat} (ht : t < 2 ^ 30) (ho : OR p5 b up) (hh : HR p5 p3 b) (hc : CM p5 b t) (hch : ¬ b01 (p5 8) = 0 ↔ ¬ ch = 0) :
    PR (j5 p5 p3 wt) p3 (s14 (j5 p5 p3 wt) p14 rk) up (sR (bhR b up ch wt) up rk) (t + 1) := by
  obtain ⟨o1, o2, o3, o4, o5, o6⟩ := ho
  obtain ⟨hw, hcr⟩ := howR_eq (wt := wt) ht o1 hh hc hch
  have v : ∀ j, j ≠ 7 → j ≠ 10 → j5 p5 p3 wt j = j5a p5 j := fun j a c => by
    unfold j5 j5b; split <;> simp [upd, a, c]
  have v7 : j5 p5 p3 wt 7 = mhow (bh1 b ch) up wt := by
    unfold j5 j5b; rw [hw]; split <;> simp [upd]
  have v0 : ∀ j, j ≠ 7 → j ≠ 10 → j ≠ 9 → j5 p5 p3 wt j = p5 j := fun j a c d => by rw [v j a c]; simp [j5a, upd, d]
  have w14 : bhR b up ch wt 14 = mhow (bh1 b ch) up wt := by simp [bhR, upd]
  have w : ∀ j, j < 13 → bhR b up ch wt j = b j := fun j hj => bhR_lo (by omega)
  have w13 : bhR b up ch wt 13 = bh1 b ch 13 := by simp [bhR, upd]
  have u : ∀ j, ¬ (3 ≤ j ∧ j ≤ 7) → sR (bhR b up ch wt) up rk j = bhR b up ch wt j := fun j hj => sR_lo hj
  have u10 : j5 p5 p3 wt 10 = bhR b up ch wt 15 := by
    have : bhR b up ch wt 15 = b 15 + (if mhow (bh1 b ch) up wt = 5 then (if b 14 = 5 then 0 else 1) else 0) := by simp [bhR, upd]
    rw [this]
    unfold j5 j5b
    rw [hw, o5, ← o6]
    by_cases a : mhow (bh1 b ch) up wt = 5
    · by_cases c : b 14 = 5
      · rw [if_neg (fun q => q.2 c), if_pos a, if_pos c]; simp [upd, j5a]
      · rw [if_pos ⟨a, c⟩, if_pos a, if_neg c]; simp [upd]
    · rw [if_neg (fun q => a q.1), if_neg a]; simp [upd, j5a]
  refine ⟨⟨?_, ?_, ?_, ?_, ?_, ?_⟩, ⟨?_, ?_, ?_, ?_, ?_⟩, ?_, ?_⟩
  · rw [v0 0 (by decide) (by decide) (by decide)]; exact o1
  · rw [v0 1 (by decide) (by decide) (by decide), u 2 (by omega), w 2 (by omega)]; exact o2
  · rw [v0 2 (by decide) (by decide) (by decide), u 0 (by omega), w 0 (by omega)]; exact o3
  · rw [v0 3 (by decide) (by decide) (by decide), u 1 (by omega), w 1 (by omega)]; exact o4
  · rw [v7, u 14 (by omega), w14]
  · rw [u10, u 15 (by omega)]
  · have l : s14 (j5 p5 p3 wt) p14 rk 0 = if b01 (j5 p5 p3 wt 0) = 0 then 0 else if b01 (j5 p5 p3 wt 1) = 0 then 1 else 0 := by simp [s14, upd]
    have r : sR (bhR b up ch wt) up rk 3 = if up = 1 then (if bhR b up ch wt 2 = 0 then 1 else 0) else 0 := by simp [sR, upd]
    rw [l, r, v0 0 (by decide) (by decide) (by decide), v0 1 (by decide) (by decide) (by decide), w 2 (by omega), o1, o2]
    rcases b01_or2 (p5 0) with a | a
    · rw [o1] at a; rw [a]; rfl
    · rw [o1] at a; rw [a, if_neg (by decide), if_pos rfl]
      split <;> rfl
  · have l : s14 (j5 p5 p3 wt) p14 rk 1 = j5 p5 p3 wt 2 := by simp [s14, upd]
    have r : sR (bhR b up ch wt) up rk 4 = bhR b up ch wt 0 := by simp [sR, upd]
    rw [l, r, v0 2 (by decide) (by decide) (by decide), w 0 (by omega)]; exact o3
  · have l : s14 (j5 p5 p3 wt) p14 rk 2 = j5 p5 p3 wt 3 := by simp [s14, upd]
    have r : sR (bhR b up ch wt) up rk 5 = bhR b up ch wt 1 := by simp [sR, upd]
    rw [l, r, v0 3 (by decide) (by decide) (by decide), w 1 (by omega)]; exact o4
  · simp [s14, sR, upd]
  · have l : s14 (j5 p5 p3 wt) p14 rk 4 = if j5 p5 p3 wt 7 = 4 ∨ j5 p5 p3 wt 7 = 5 then 1 else 0 := by simp [s14, upd]
    have r : sR (bhR b up ch wt) up rk 7 = if bhR b up ch wt 14 < 4 then 0 else 1 := by simp [sR, upd]
    rw [l, r, v7, w14]
    rcases mhow_rg (bh1 b ch) up wt with a | a | a | a | a | a <;> rw [a] <;> decide
  · rcases hh with ⟨g1, g2⟩ | ⟨g1, g2, g3, g4, g5, g6, g7⟩
    · exact Or.inl ⟨g1, by rw [u 8 (by omega), w 8 (by omega)]; exact g2⟩
    · refine Or.inr ⟨g1, ?_, ?_, ?_, ?_, ?_, ?_⟩
      · rw [u 8 (by omega), w 8 (by omega), v0 6 (by decide) (by decide) (by decide)]; exact g2
      · rw [v0 6 (by decide) (by decide) (by decide)]; exact g3
      · rw [u 9 (by omega), w 9 (by omega)]; exact g4
      · rw [u 10 (by omega), w 10 (by omega)]; exact g5
      · rw [u 11 (by omega), w 11 (by omega)]; exact g6
      · rw [u 12 (by omega), w 12 (by omega)]; exact g7
  · have e13 : sR (bhR b up ch wt) up rk 13 = bh1 b ch 13 := by rw [u 13 (by omega), w13]
    unfold CR at hcr ⊢
    rw [v 8 (by decide) (by decide), v 9 (by decide) (by decide), e13]
    exact hcr
