/-! PURE PART 4: what a turn does to the places of the reference's array. -/
theorem up2n (σ : Sg) (i : Nat) (v : Int32) (j : Nat) : up2 σ kNow i v kNow j = if j = i then v else σ kNow j := by simp [up2]
theorem pl_ne {e l e' l' : Nat} (he : e < 2) (hl : l < 6) (he' : e' < 2) (hl' : l' < 6) (h : ¬ (e = e' ∧ l = l')) : pl e l + 16 ≤ pl e' l' ∨ pl e' l' + 16 ≤ pl e l := by unfold pl; omega
theorem pl_ge (e l : Nat) : 42 ≤ pl e l := by unfold pl; omega
theorem pl_lt {e l : Nat} (he : e < 2) (hl : l < 6) : pl e l + 16 ≤ 234 := by unfold pl; omega
/-- comes -/
def cR (b : Nat → Int32) (up : Int32) (b2 : Nat → Int32) : Nat → Int32 :=
  if up = 0 then upd b 8 (-4)
  else if b2 3 = 1 then upd (upd (upd (upd (upd b 9 (b2 4)) 10 (b2 5)) 11 (b2 6)) 12 (b2 7)) 8 0
  else if b 8 = -4 then b else if b 8 + 1 = 3 then upd b 8 (-4) else upd b 8 (b 8 + 1)
theorem cR_congr {b b' b2 b2' : Nat → Int32} {up : Int32} (hb : ∀ m, 8 ≤ m → m ≤ 12 → b' m = b m) (h2 : ∀ m, 3 ≤ m → m ≤ 7 → b2' m = b2 m) {m : Nat} (h8 : 8 ≤ m) (h12 : m ≤ 12) : cR b' up b2' m = cR b up b2 m := by
  have g8 := hb 8 (by omega) (by omega)
  have g3 := h2 3 (by omega) (by omega)
  have gm := hb m h8 h12
  unfold cR
  by_cases a : up = 0
  · rw [if_pos a, if_pos a]; unfold upd; split <;> first | rfl | exact gm
  · rw [if_neg a, if_neg a]
    by_cases c : b2 3 = 1
    · rw [if_pos c, if_pos (g3.trans c)]
      unfold upd
      rw [h2 4 (by omega) (by omega), h2 5 (by omega) (by omega), h2 6 (by omega) (by omega), h2 7 (by omega) (by omega)]
      (repeat' split) <;> first | rfl | exact gm
    · rw [if_neg c, if_neg (fun q => c (g3.symm.trans q))]
      by_cases d : b 8 = -4
      · rw [if_pos d, if_pos (g8.trans d)]; exact gm
      · rw [if_neg d, if_neg (fun q => d (g8.symm.trans q))]
        by_cases f : b 8 + 1 = 3
        · rw [if_pos f, if_pos (by rw [g8]; exact f)]; unfold upd; split <;> first | rfl | exact gm
        · rw [if_neg f, if_neg (by rw [g8]; exact f)]; unfold upd; rw [g8]; split <;> first | rfl | exact gm
theorem mCp_at {σ : Sg} {P q : Nat} (h : P + 16 ≤ q ∨ q + 16 ≤ P) (j : Nat) : mCp P q 4 0 σ kNow j = if j = P + 12 then σ kNow (q + 7) else if j = P + 11 then σ kNow (q + 6) else if j = P + 10 then σ kNow (q + 5) else if j = P + 9 then σ kNow (q + 4) else σ kNow j := by
  simp only [mCp, up2n]
  (repeat' split) <;> first | rfl | omega
theorem mComes_at {σ : Sg} {e l j : Nat} (he : e < 2) (hl : l < 6) : mComes σ e l kNow (pl e l + j) = cR (fun j => σ kNow (pl e l + j)) (σ kNow (4 + l)) (fun j => σ kNow (pl (1 - e) l + j)) j := by
  have hd := pl_ne (e := e) (l := l) (e' := 1 - e) (l' := l) he hl (by omega) hl (by omega)
  unfold mComes cR
  by_cases a : σ kNow (4 + l) = 0
  · rw [if_pos a, if_pos a, up2n]; unfold upd; (repeat' split) <;> first | rfl | omega
  · rw [if_neg a, if_neg a]
    by_cases b : σ kNow (pl (1 - e) l + 3) = 1
    · rw [if_pos b, if_pos b, up2n, mCp_at hd]; unfold upd; (repeat' split) <;> first | rfl | omega
    · rw [if_neg b, if_neg b]
      by_cases c : σ kNow (pl e l + 8) = -4
      · rw [if_pos c, if_pos c]
      · rw [if_neg c, if_neg c]
        have m8 : mAge1 σ e l kNow (pl e l + 8) = σ kNow (pl e l + 8) + 1 := by unfold mAge1; rw [up2n, if_pos rfl]
        rw [m8]
        by_cases d : σ kNow (pl e l + 8) + 1 = 3
        · rw [if_pos d, if_pos d, up2n]; unfold mAge1 upd; rw [up2n]; (repeat' split) <;> first | rfl | omega
        · rw [if_neg d, if_neg d]; unfold mAge1 upd; rw [up2n]; (repeat' split) <;> first | rfl | omega
theorem mComes_ne {σ : Sg} {e l j : Nat} {k : Ky} (he : e < 2) (hl : l < 6) (h : ¬ (k = kNow ∧ pl e l + 8 ≤ j ∧ j ≤ pl e l + 12)) : mComes σ e l k j = σ k j := by
  by_cases hk : k = kNow
  · subst hk
    have h2 : ¬ (pl e l + 8 ≤ j ∧ j ≤ pl e l + 12) := fun q => h ⟨rfl, q⟩
    have hd := pl_ne (e := e) (l := l) (e' := 1 - e) (l' := l) he hl (by omega) hl (by omega)
    unfold mComes
    (repeat' split) <;> (try unfold mAge1) <;> (try rw [up2n]) <;> (try rw [mCp_at hd]) <;> (try rw [up2n]) <;> (repeat' split) <;> first | rfl | omega
  · have : ∀ (d a : Nat) (P q : Nat) (σ : Sg), mCp P q d a σ k = σ k := by
      intro d
      induction d with
      | zero => intro a P q σ; rfl
      | succ d ih => intro a P q σ; rw [mCp, ih, up2_nk _ _ _ _ hk]
    unfold mComes mAge1
    (repeat' split) <;> (try rw [up2_nk _ _ _ _ hk]) <;> (try rw [this]) <;> (try rw [up2_nk _ _ _ _ hk]) <;> rfl
theorem mT1_iter : ∀ (d k : Nat) (σ : Sg), mT1 d k σ = iter (fun k σ => mComes σ (k % 2) (k / 2)) d k σ
  | 0, _, _ => rfl
  | d + 1, k, σ => by rw [mT1, iter]; exact mT1_iter d (k + 1) _
theorem mT1_at {σ : Sg} {L : Nat} (hL : L ≤ 6) : (∀ e l, e < 2 → l < L → ∀ j, j < 16 → mT1 (2 * L) 0 σ kNow (pl e l + j) = cR (fun j => σ kNow (pl e l + j)) (σ kNow (4 + l)) (fun j => σ kNow (pl (1 - e) l + j)) j) ∧ (∀ k j, (∀ e l, e < 2 → l < L → ¬ (k = kNow ∧ pl e l ≤ j ∧ j < pl e l + 16)) → mT1 (2 * L) 0 σ k j = σ k j) := by
  have h := iter_loc (f := fun k σ => mComes σ (k % 2) (k / 2)) (K := fun i k j => k = kNow ∧ pl (i % 2) (i / 2) + 8 ≤ j ∧ j ≤ pl (i % 2) (i / 2) + 12)
    (D := fun i k j => k = kNow ∧ ((pl (i % 2) (i / 2) + 8 ≤ j ∧ j ≤ pl (i % 2) (i / 2) + 12) ∨ j = 4 + i / 2 ∨ (pl (1 - i % 2) (i / 2) + 3 ≤ j ∧ j ≤ pl (1 - i % 2) (i / 2) + 7))) 12
    (fun i σ k j hi q => mComes_ne (by omega) (by omega) q)
    (fun i σ σ' hi q k j hk => by
      obtain ⟨rfl, h1, h2⟩ := hk
      obtain ⟨m, rfl⟩ : ∃ m, j = pl (i % 2) (i / 2) + m := ⟨j - pl (i % 2) (i / 2), by omega⟩
      rw [mComes_at (by omega) (by omega), mComes_at (by omega) (by omega)]
      have g1 : ∀ m, 8 ≤ m → m ≤ 12 → σ' kNow (pl (i % 2) (i / 2) + m) = σ kNow (pl (i % 2) (i / 2) + m) := fun m a b => q kNow _ ⟨rfl, Or.inl ⟨by omega, by omega⟩⟩
      have g2 : σ' kNow (4 + i / 2) = σ kNow (4 + i / 2) := q kNow _ ⟨rfl, Or.inr (Or.inl rfl)⟩
      have g3 : ∀ m, 3 ≤ m → m ≤ 7 → σ' kNow (pl (1 - i % 2) (i / 2) + m) = σ kNow (pl (1 - i % 2) (i / 2) + m) := fun m a b => q kNow _ ⟨rfl, Or.inr (Or.inr ⟨by omega, by omega⟩)⟩
      rw [g2]
      exact cR_congr g1 g3 (by omega) (by omega))
    (fun i i' hi hi' hne k j hk => by
      obtain ⟨rfl, h1, h2⟩ := hk
      have a := pl_ne (e := i % 2) (l := i / 2) (e' := i' % 2) (l' := i' / 2) (by omega) (by omega) (by omega) (by omega) (by omega)
      have c := pl_ge (i % 2) (i / 2)
      constructor
      · rintro ⟨-, q | q | q⟩
        · omega
        · omega
        · by_cases hh : i % 2 = 1 - i' % 2 ∧ i / 2 = i' / 2
          · rw [hh.1, hh.2] at h1 h2; omega
          · have b := pl_ne (e := i % 2) (l := i / 2) (e' := 1 - i' % 2) (l' := i' / 2) (by omega) (by omega) (by omega) (by omega) hh
            omega
      · rintro ⟨-, q⟩; omega) (2 * L) 0 σ (by omega)
  rw [mT1_iter]
  refine ⟨fun e l he hl j hj => ?_, fun k j q => h.2 k j (fun i _ hi g => q (i % 2) (i / 2) (by omega) (by omega) ⟨g.1, by omega, by omega⟩)⟩
  have e1 : (2 * l + e) % 2 = e := by omega
  have e2 : (2 * l + e) / 2 = l := by omega
  by_cases hk : 8 ≤ j ∧ j ≤ 12
  · have := h.1 (2 * l + e) (by omega) (by omega) kNow (pl e l + j) (by rw [e1, e2]; exact ⟨rfl, by omega, by omega⟩)
    rw [this, e1, e2, mComes_at he (by omega)]
  · rw [h.2 kNow (pl e l + j) (fun i _ hi g => by
      obtain ⟨-, g1, g2⟩ := g
      by_cases hh : e = i % 2 ∧ l = i / 2
      · rw [← hh.1, ← hh.2] at g1 g2; omega
      · have a := pl_ne (e := e) (l := l) (e' := i % 2) (l' := i / 2) he (by omega) (by omega) (by omega) hh
        omega)]
    unfold cR upd
    (repeat' split) <;> (try dsimp only) <;> (repeat' split) <;> first | rfl | omega
