/-! PURE PART 5: becomesHow, sends, deals of the reference. -/
def mhow (b : Nat → Int32) (up wt : Int32) : Int32 := if up = 0 then 0 else if b 8 = -4 then 1 else if b 13 = -4 then 2 else if wt ≤ b 13 then (if b 12 = 0 then 4 else 5) else 3
def bh1 (b : Nat → Int32) (ch : Int32) : Nat → Int32 := upd b 13 (if ch = 0 then -4 else if b 13 = -4 then 0 else b 13 + 1)
def bhR (b : Nat → Int32) (up ch wt : Int32) : Nat → Int32 := upd (upd (bh1 b ch) 14 (mhow (bh1 b ch) up wt)) 15 (b 15 + (if mhow (bh1 b ch) up wt = 5 then (if b 14 = 5 then 0 else 1) else 0))
abbrev rw_ (σ : Sg) (e l : Nat) : Nat → Int32 := fun j => σ kNow (pl e l + j)
theorem mBh1_row (σ : Sg) (e i : Nat) : rw_ (mBh1 σ e i) e i = bh1 (rw_ σ e i) (σ (10, 0, 0, 0) i) := by
  funext j
  show mBh1 σ e i kNow (pl e i + j) = _
  unfold mBh1 bh1 upd
  rw [up2n]
  (repeat' split) <;> first | rfl | omega
theorem mBh1_o (σ : Sg) (e i : Nat) {j : Nat} (h : j ≠ pl e i + 13) : mBh1 σ e i kNow j = σ kNow j := by unfold mBh1; rw [up2n, if_neg h]
theorem mHow_row (σ : Sg) (e i : Nat) : mHow σ (pl e i) i = mhow (rw_ σ e i) (σ kNow (4 + i)) (σ kM 1) := rfl
theorem mBh_at (σ : Sg) (e i j : Nat) : mBh σ e i kNow (pl e i + j) = bhR (rw_ σ e i) (σ kNow (4 + i)) (σ (10, 0, 0, 0) i) (σ kM 1) j := by
  have hM : mBh1 σ e i kM 1 = σ kM 1 := by unfold mBh1; rw [up2_nk _ _ _ _ (by decide)]
  have hu : mBh1 σ e i kNow (4 + i) = σ kNow (4 + i) := mBh1_o σ e i (by unfold pl; omega)
  have hh : mHow (mBh1 σ e i) (pl e i) i = mhow (bh1 (rw_ σ e i) (σ (10, 0, 0, 0) i)) (σ kNow (4 + i)) (σ kM 1) := by rw [mHow_row, mBh1_row, hM, hu]
  have h14 : mBh1 σ e i kNow (pl e i + 14) = σ kNow (pl e i + 14) := mBh1_o σ e i (by omega)
  have h15 : mBh1 σ e i kNow (pl e i + 15) = σ kNow (pl e i + 15) := mBh1_o σ e i (by omega)
  have hr : mBh1 σ e i kNow (pl e i + j) = bh1 (rw_ σ e i) (σ (10, 0, 0, 0) i) j := congrFun (mBh1_row σ e i) j
  unfold mBh mBh3 mBh2 bhR
  rw [up2n, up2n, up2n, up2n, hh, h14, h15, if_neg (show ¬ pl e i + 15 = pl e i + 14 by omega), if_pos rfl, hr]
  simp only [upd, Nat.add_left_cancel_iff]
theorem mBh_ne {σ : Sg} {e i j : Nat} {k : Ky} (h : ¬ (k = kNow ∧ pl e i + 13 ≤ j ∧ j ≤ pl e i + 15)) : mBh σ e i k j = σ k j := by
  unfold mBh mBh3 mBh2 mBh1
  by_cases hk : k = kNow
  · subst hk
    have h2 : ¬ (pl e i + 13 ≤ j ∧ j ≤ pl e i + 15) := fun q => h ⟨rfl, q⟩
    rw [up2n, if_neg (by omega), up2n, if_neg (by omega), up2n, if_neg (by omega)]
  · rw [up2_nk _ _ _ _ hk, up2_nk _ _ _ _ hk, up2_nk _ _ _ _ hk]
theorem mBhR_iter (e : Nat) : ∀ (d i : Nat) (σ : Sg), mBhR e d i σ = iter (fun i σ => mBh σ e i) d i σ
  | 0, _, _ => rfl
  | d + 1, i, σ => by rw [mBhR, iter]; exact mBhR_iter e d (i + 1) _
theorem mhow_c {b b' : Nat → Int32} {up wt : Int32} (h8 : b' 8 = b 8) (h12 : b' 12 = b 12) (h13 : b' 13 = b 13) : mhow b' up wt = mhow b up wt := by unfold mhow; rw [h8, h12, h13]
theorem bhR_c {b b' : Nat → Int32} {up ch wt : Int32} (h8 : b' 8 = b 8) (h12 : b' 12 = b 12) (h13 : b' 13 = b 13) (h14 : b' 14 = b 14) (h15 : b' 15 = b 15) {j : Nat} (h1 : 13 ≤ j) (h2 : j ≤ 15) : bhR b' up ch wt j = bhR b up ch wt j := by
  have hh : mhow (bh1 b' ch) up wt = mhow (bh1 b ch) up wt := mhow_c (by simp [bh1, upd, h8]) (by simp [bh1, upd, h12]) (by simp [bh1, upd, h13])
  unfold bhR
  rw [hh, h14, h15]
  have : j = 13 ∨ j = 14 ∨ j = 15 := by omega
  rcases this with rfl | rfl | rfl
  · simp [upd, bh1, h13]
  · simp [upd]
  · simp [upd]
theorem bhR_lo {b : Nat → Int32} {up ch wt : Int32} {j : Nat} (h : ¬ (13 ≤ j ∧ j ≤ 15)) : bhR b up ch wt j = b j := by
  unfold bhR bh1 upd
  rw [if_neg (by omega), if_neg (by omega), if_neg (by omega)]
theorem mBhR_at {σ : Sg} {e L : Nat} (he : e < 2) (hL : L ≤ 6) : (∀ l, l < L → ∀ j, j < 16 → mBhR e L 0 σ kNow (pl e l + j) = bhR (rw_ σ e l) (σ kNow (4 + l)) (σ (10, 0, 0, 0) l) (σ kM 1) j) ∧ (∀ k j, (∀ l, l < L → ¬ (k = kNow ∧ pl e l ≤ j ∧ j < pl e l + 16)) → mBhR e L 0 σ k j = σ k j) := by
  have h := iter_loc (f := fun i σ => mBh σ e i) (K := fun i k j => k = kNow ∧ pl e i + 13 ≤ j ∧ j ≤ pl e i + 15)
    (D := fun i k j => (k = kNow ∧ ((pl e i + 13 ≤ j ∧ j ≤ pl e i + 15) ∨ j = 4 + i ∨ j = pl e i + 8 ∨ j = pl e i + 12)) ∨ (k = (10, 0, 0, 0) ∧ j = i) ∨ k = kM) 6
    (fun i σ k j hi q => mBh_ne q)
    (fun i σ σ' hi q k j hk => by
      obtain ⟨rfl, h1, h2⟩ := hk
      obtain ⟨m, rfl⟩ : ∃ m, j = pl e i + m := ⟨j - pl e i, by omega⟩
      rw [mBh_at, mBh_at]
      rw [q kNow (4 + i) (Or.inl ⟨rfl, Or.inr (Or.inl rfl)⟩), q (10, 0, 0, 0) i (Or.inr (Or.inl ⟨rfl, rfl⟩)), q kM 1 (Or.inr (Or.inr rfl))]
      exact bhR_c (q kNow (pl e i + 8) (Or.inl ⟨rfl, Or.inr (Or.inr (Or.inl rfl))⟩)) (q kNow (pl e i + 12) (Or.inl ⟨rfl, Or.inr (Or.inr (Or.inr rfl))⟩)) (q kNow (pl e i + 13) (Or.inl ⟨rfl, Or.inl ⟨by omega, by omega⟩⟩)) (q kNow (pl e i + 14) (Or.inl ⟨rfl, Or.inl ⟨by omega, by omega⟩⟩)) (q kNow (pl e i + 15) (Or.inl ⟨rfl, Or.inl ⟨by omega, by omega⟩⟩)) (by omega) (by omega))
    (fun i i' hi hi' hne k j hk => by
      obtain ⟨rfl, h1, h2⟩ := hk
      have a := pl_ne (e := e) (l := i) (e' := e) (l' := i') he (by omega) he (by omega) (by omega)
      have c := pl_ge e i
      constructor
      · rintro (⟨-, q | q | q | q⟩ | ⟨q, -⟩ | q)
        · omega
        · omega
        · omega
        · omega
        · cases q
        · cases q
      · rintro ⟨-, q⟩; omega) L 0 σ (by omega)
  rw [mBhR_iter]
  refine ⟨fun l hl j hj => ?_, fun k j q => h.2 k j (fun i _ hi g => q i (by omega) ⟨g.1, by omega, by omega⟩)⟩
  by_cases hk : 13 ≤ j ∧ j ≤ 15
  · rw [h.1 l (by omega) (by omega) kNow (pl e l + j) ⟨rfl, by omega, by omega⟩]
    exact mBh_at σ e l j
  · rw [h.2 kNow (pl e l + j) (fun i _ hi g => by
      obtain ⟨-, g1, g2⟩ := g
      by_cases hh : l = i
      · rw [← hh] at g1 g2; omega
      · have a := pl_ne (e := e) (l := l) (e' := e) (l' := i) he (by omega) he (by omega) (by omega)
        omega), bhR_lo hk]
/-- who is chosen -/
theorem mOpen_c {σ σ' : Sg} (h : σ' kNow = σ kNow) (e i : Nat) : mOpen σ' e i = mOpen σ e i := by unfold mOpen; rw [h]
theorem mPair_c {σ σ' : Sg} (h : σ' kNow = σ kNow) (e i j : Nat) : mPair σ' e i j = mPair σ e i j := by unfold mPair; rw [h]
theorem mAh_c {σ σ' : Sg} (h : σ' kNow = σ kNow) (e i b : Nat) (any : Int32) (L : Nat) : mAh σ' e i b any L = mAh σ e i b any L := by
  unfold mAh
  have : mAh1 σ' e i b any = mAh1 σ e i b any := by funext j; unfold mAh1 mBef; rw [mOpen_c h, mPair_c h, h]
  rw [this]
theorem mChs_c {σ σ' : Sg} (h : σ' kNow = σ kNow) (e b L f i : Nat) : mChs σ' e b L f i = mChs σ e b L f i := by
  unfold mChs; rw [mOpen_c h, mPair_c h, mAh_c h, h]
theorem mChR_at (e b L f : Nat) : ∀ (d a : Nat) (σ : Sg), (∀ i, a ≤ i → i < a + d → mChR e b L f d a σ (10, 0, 0, 0) i = mChs σ e b L f i) ∧ ∀ k j, ¬ (k = (10, 0, 0, 0) ∧ a ≤ j ∧ j < a + d) → mChR e b L f d a σ k j = σ k j
  | 0, a, σ => ⟨fun i h1 h2 => by omega, fun _ _ _ => rfl⟩
  | d + 1, a, σ => by
    obtain ⟨h1, h2⟩ := mChR_at e b L f d (a + 1) (up2 σ (10, 0, 0, 0) a (mChs σ e b L f a))
    have hn : up2 σ (10, 0, 0, 0) a (mChs σ e b L f a) kNow = σ kNow := up2_nk _ _ _ _ (by decide)
    refine ⟨fun i g1 g2 => ?_, fun k j g => ?_⟩
    · rw [mChR]
      by_cases hi : i = a
      · subst hi
        rw [h2 _ _ (by omega), up2_at]
      · rw [h1 i (by omega) (by omega), mChs_c hn]
    · rw [mChR, h2 k j (fun q => g ⟨q.1, by omega, by omega⟩)]
      unfold up2
      rw [if_neg (fun q => g ⟨q.1, by omega, by omega⟩)]
/-- sends -/
def sR (b : Nat → Int32) (up rk : Int32) : Nat → Int32 := upd (upd (upd (upd (upd b 3 (if up = 1 then (if b 2 = 0 then 1 else 0) else 0)) 4 (b 0)) 5 (b 1)) 6 rk) 7 (if b 14 < 4 then 0 else 1)
theorem mSends_at (σ : Sg) {e l : Nat} (he : e < 2) (j : Nat) : mSends σ e l kNow (pl e l + j) = sR (rw_ σ e l) (σ kNow (4 + l)) (σ kNow (0 + e)) j := by
  have hp := pl_ge e l
  unfold mSends mSd5 mSd4 mSd3 mSd2 mSd1 sR
  simp only [up2n, Nat.add_left_cancel_iff]
  rw [if_neg (show ¬ 0 + e = pl e l + 5 by omega), if_neg (show ¬ 0 + e = pl e l + 4 by omega), if_neg (show ¬ 0 + e = pl e l + 3 by omega)]
  simp [upd]
  rfl
theorem mSends_ne {σ : Sg} {e l j : Nat} {k : Ky} (h : ¬ (k = kNow ∧ pl e l + 3 ≤ j ∧ j ≤ pl e l + 7)) : mSends σ e l k j = σ k j := by
  unfold mSends mSd5 mSd4 mSd3 mSd2 mSd1
  by_cases hk : k = kNow
  · subst hk
    have h2 : ¬ (pl e l + 3 ≤ j ∧ j ≤ pl e l + 7) := fun q => h ⟨rfl, q⟩
    rw [up2n, if_neg (by omega), up2n, if_neg (by omega), up2n, if_neg (by omega), up2n, if_neg (by omega), up2n, if_neg (by omega)]
  · rw [up2_nk _ _ _ _ hk, up2_nk _ _ _ _ hk, up2_nk _ _ _ _ hk, up2_nk _ _ _ _ hk, up2_nk _ _ _ _ hk]
theorem mT2_iter : ∀ (d k : Nat) (σ : Sg), mT2 d k σ = iter (fun k σ => mSends σ (k % 2) (k / 2)) d k σ
  | 0, _, _ => rfl
  | d + 1, k, σ => by rw [mT2, iter]; exact mT2_iter d (k + 1) _
theorem sR_c {b b' : Nat → Int32} {up rk : Int32} (h0 : b' 0 = b 0) (h1 : b' 1 = b 1) (h2 : b' 2 = b 2) (h14 : b' 14 = b 14) {j : Nat} (g1 : 3 ≤ j) (g2 : j ≤ 7) : sR b' up rk j = sR b up rk j := by
  unfold sR
  rw [h0, h1, h2, h14]
  have : j = 3 ∨ j = 4 ∨ j = 5 ∨ j = 6 ∨ j = 7 := by omega
  rcases this with rfl | rfl | rfl | rfl | rfl <;> simp [upd]
theorem sR_lo {b : Nat → Int32} {up rk : Int32} {j : Nat} (h : ¬ (3 ≤ j ∧ j ≤ 7)) : sR b up rk j = b j := by
  unfold sR upd
  rw [if_neg (by omega), if_neg (by omega), if_neg (by omega), if_neg (by omega), if_neg (by omega)]
theorem mT2_at {σ : Sg} {L : Nat} (hL : L ≤ 6) : (∀ e l, e < 2 → l < L → ∀ j, j < 16 → mT2 (2 * L) 0 σ kNow (pl e l + j) = sR (rw_ σ e l) (σ kNow (4 + l)) (σ kNow (0 + e)) j) ∧ (∀ k j, (∀ e l, e < 2 → l < L → ¬ (k = kNow ∧ pl e l ≤ j ∧ j < pl e l + 16)) → mT2 (2 * L) 0 σ k j = σ k j) := by
  have h := iter_loc (f := fun k σ => mSends σ (k % 2) (k / 2)) (K := fun i k j => k = kNow ∧ pl (i % 2) (i / 2) + 3 ≤ j ∧ j ≤ pl (i % 2) (i / 2) + 7)
    (D := fun i k j => k = kNow ∧ (j = pl (i % 2) (i / 2) + 0 ∨ j = pl (i % 2) (i / 2) + 1 ∨ j = pl (i % 2) (i / 2) + 2 ∨ j = pl (i % 2) (i / 2) + 14 ∨ j < 42)) 12
    (fun i σ k j hi q => mSends_ne q)
    (fun i σ σ' hi q k j hk => by
      obtain ⟨rfl, h1, h2⟩ := hk
      obtain ⟨m, rfl⟩ : ∃ m, j = pl (i % 2) (i / 2) + m := ⟨j - pl (i % 2) (i / 2), by omega⟩
      rw [mSends_at σ' (by omega), mSends_at σ (by omega)]
      rw [q kNow (4 + i / 2) ⟨rfl, by omega⟩, q kNow (0 + i % 2) ⟨rfl, by omega⟩]
      exact sR_c (q kNow (pl (i % 2) (i / 2) + 0) ⟨rfl, Or.inl rfl⟩) (q kNow (pl (i % 2) (i / 2) + 1) ⟨rfl, Or.inr (Or.inl rfl)⟩) (q kNow (pl (i % 2) (i / 2) + 2) ⟨rfl, Or.inr (Or.inr (Or.inl rfl))⟩) (q kNow (pl (i % 2) (i / 2) + 14) ⟨rfl, Or.inr (Or.inr (Or.inr (Or.inl rfl)))⟩) (by omega) (by omega))
    (fun i i' hi hi' hne k j hk => by
      obtain ⟨rfl, h1, h2⟩ := hk
      have a := pl_ne (e := i % 2) (l := i / 2) (e' := i' % 2) (l' := i' / 2) (by omega) (by omega) (by omega) (by omega) (by omega)
      have c := pl_ge (i % 2) (i / 2)
      constructor
      · rintro ⟨-, q⟩; omega
      · rintro ⟨-, q⟩; omega) (2 * L) 0 σ (by omega)
  rw [mT2_iter]
  refine ⟨fun e l he hl j hj => ?_, fun k j q => h.2 k j (fun i _ hi g => q (i % 2) (i / 2) (by omega) (by omega) ⟨g.1, by omega, by omega⟩)⟩
  have e1 : (2 * l + e) % 2 = e := by omega
  have e2 : (2 * l + e) / 2 = l := by omega
  by_cases hk : 3 ≤ j ∧ j ≤ 7
  · have := h.1 (2 * l + e) (by omega) (by omega) kNow (pl e l + j) (by rw [e1, e2]; exact ⟨rfl, by omega, by omega⟩)
    rw [this, e1, e2, mSends_at σ he]
  · rw [h.2 kNow (pl e l + j) (fun i _ hi g => by
      obtain ⟨-, g1, g2⟩ := g
      by_cases hh : e = i % 2 ∧ l = i / 2
      · rw [← hh.1, ← hh.2] at g1 g2; omega
      · have a := pl_ne (e := e) (l := l) (e' := i % 2) (l' := i / 2) he (by omega) (by omega) (by omega) hh
        omega), sR_lo hk]
/-- deals -/
theorem mDeal_at (σ : Sg) (P : Nat) (to : Int32) {j : Nat} (hj : j < 2) : mDeal σ P to kNow (P + j) = dl (fun j => σ kNow (P + j)) to (σ kM 2) j := by
  have hjj : j = 0 ∨ j = 1 := by omega
  unfold mDeal dl
  have h1 : mHl σ P kNow (P + 1) = σ kNow (P + 1) - 1 := by unfold mHl; rw [up2n, if_pos rfl]
  have h0 : mHl σ P kNow P = σ kNow P := by unfold mHl; rw [up2n, if_neg (by omega)]
  rw [h1, h0]
  rcases hjj with rfl | rfl
  · by_cases a : σ kNow (P + 1) ≤ 0
    · rw [if_pos a, if_pos a]
      (repeat' split) <;> simp_all [up2, upd]
    · rw [if_neg a, if_neg a]
      (repeat' split) <;> simp_all [up2, upd, mHl]
  · by_cases a : σ kNow (P + 1) ≤ 0
    · rw [if_pos a, if_pos a]
      (repeat' split) <;> simp_all [up2, upd]
    · rw [if_neg a, if_neg a]
      (repeat' split) <;> simp_all [up2, upd, mHl]
