/-! PURE PART 12: whom a flow wants; the flows. -/
def HW (y : Sg) (n e L : Nat) (m : Sg) : Prop := (∀ l, l < L → y (5, n, e, l) 7 = m kNow (pl e l + 14)) ∧ ∀ l, L ≤ l → l < 6 → y (5, n, e, l) 7 = 0
theorem mSnd_iff {m : Sg} {e i : Nat} : (mSnd m e i = 0) ↔ ¬ m kNow (pl e i + 14) = 5 := by
  unfold mSnd
  by_cases h : m kNow (pl e i + 14) = 5
  · rw [if_pos h]; exact ⟨fun q => absurd q (by decide), fun q => absurd h q⟩
  · rw [if_neg h]; exact ⟨fun _ => h, fun _ => rfl⟩
theorem send_eq {y m : Sg} {n e L : Nat} (hL : L ≤ 6) (h : HW y n e L m) : ∃ c, c ≤ 6 ∧ eSend y n e = nI c ∧ mCntS m e L = nI c ∧ (c = 0 → ∀ i, i < L → mSnd m e i = 0) := by
  refine ⟨nc (fun i => decide (m kNow (pl e i + 14) = 5)) L, Nat.le_trans (nc_le _ _) hL, ?_, ?_, ?_⟩
  · unfold eSend
    rw [cnt_bool (P := fun i => decide (y (5, n, e, i) 7 = 5)) (fun j hj => by by_cases q : y (5, n, e, j) 7 = 5 <;> simp [q])]
    rw [show (6 : Nat) = L + (6 - L) by omega, nc_cut (6 - L) (fun j h1 h2 => by rw [h.2 j h1 (by omega)]; decide)]
    rw [nc_congr (fun i hi => by rw [h.1 i hi])]
  · unfold mCntS
    exact cnt_bool (fun j hj => by
      by_cases q : m kNow (pl e j + 14) = 5
      · rw [if_neg (fun g => (mSnd_iff.mp g) q)]; simp [q]
      · rw [if_pos (mSnd_iff.mpr q)]; simp [q])
  · intro h0 i hi
    refine mSnd_iff.mpr (fun q => ?_)
    have h1 : nc (fun k => decide (k = i)) L = nc (fun _ => false) L + 1 := nc_one (p := i) hi rfl (by simp) (fun k hk hki => by simp [hki])
    have h2 := nc_mono (P := fun k => decide (k = i)) (P' := fun i => decide (m kNow (pl e i + 14) = 5)) (d := L) (fun k hk hki => by
      rw [decide_eq_true_eq] at hki
      rw [hki, q]; rfl)
    omega
theorem wantR_eq {y m : Sg} {n e L : Nat} (hL : L ≤ 6) (h : HW y n e L m) : ∀ (d i : Nat) (a : Int32), i + d = 6 → eWantR y n e d i a = mWantR m e (L - i) i a
  | 0, i, a, hi => by rw [show L - i = 0 by omega]; rfl
  | d + 1, i, a, hi => by
    have ih := fun a => wantR_eq hL h d (i + 1) a (by omega)
    by_cases hiL : i < L
    · rw [show L - i = (L - (i + 1)) + 1 by omega, mWantR, eWantR, h.1 i hiL, ih, ih]
      by_cases q : m kNow (pl e i + 14) = 5
      · rw [if_pos q, if_neg (fun g => (mSnd_iff.mp g) q)]
      · rw [if_neg q, if_pos (mSnd_iff.mpr q)]
    · rw [eWantR, h.2 i (by omega) (by omega), if_neg (by decide), ih, show L - (i + 1) = 0 by omega, show L - i = 0 by omega]; rfl
theorem mWantR_none {m : Sg} {e : Nat} : ∀ (d i : Nat) (a : Int32), (∀ j, i ≤ j → j < i + d → mSnd m e j = 0) → mWantR m e d i a = -4
  | 0, _, _, _ => rfl
  | d + 1, i, a, h => by rw [mWantR, if_pos (h i (Nat.le_refl _) (by omega))]; exact mWantR_none d (i + 1) a (fun j h1 h2 => h j (by omega) (by omega))
theorem mWantR_rg {m : Sg} {e : Nat} : ∀ (d i : Nat) (a : Int32), mWantR m e d i a = -4 ∨ ∃ j, j < i + d ∧ mWantR m e d i a = nI j
  | 0, _, _ => Or.inl rfl
  | d + 1, i, a => by
    rw [mWantR]
    have ih := fun a => mWantR_rg (m := m) (e := e) d (i + 1) a
    have go : ∀ a, mWantR m e d (i + 1) a = -4 ∨ ∃ j, j < i + (d + 1) ∧ mWantR m e d (i + 1) a = nI j := fun a => (ih a).elim Or.inl (fun ⟨j, h1, h2⟩ => Or.inr ⟨j, by omega, h2⟩)
    split
    · exact go a
    · split
      · exact Or.inr ⟨i, by omega, rfl⟩
      · exact go _
theorem want_eq {y m : Sg} {n e L : Nat} (hL : L ≤ 6) (h : HW y n e L m) (f : Int32) : eWant y n e f (eSend y n e) = mWant m e L f ∧ (mWant m e L f = -4 ∨ ∃ j, j < 6 ∧ mWant m e L f = nI j) := by
  obtain ⟨c, hc, e1, e2, e3⟩ := send_eq hL h
  constructor
  · unfold eWant mWant mLeft
    rw [e1, e2]
    by_cases h0 : c = 0
    · subst h0
      rw [if_neg (show ¬ (0 : Int32) < nI 0 by decide), if_pos (show nI 0 = 0 from rfl)]
      exact (mWantR_none L 0 0 (fun j _ hj => e3 rfl j (by omega))).symm
    · have hp : (0 : Int32) < nI c := nI_lt (a := 0) (by omega) (by omega)
      rw [if_pos hp, if_neg (nI_ne0 (by omega) (by omega)), wantR_eq hL h 6 0 _ rfl, Nat.sub_zero]
  · unfold mWant
    rcases mWantR_rg (m := m) (e := e) L 0 (mLeft f (mCntS m e L)) with g | ⟨j, h1, h2⟩
    · exact Or.inl g
    · exact Or.inr ⟨j, by omega, h2⟩
theorem FR_dl {r b : Nat → Int32} {wn dr : Int32} (h : FR r (b 0) (b 1)) (hw : wn = -4 ∨ ∃ j, j < 6 ∧ wn = nI j) : FR (dl r wn dr) (dl b wn dr 0) (dl b wn dr 1) := by
  obtain ⟨h0, h1, h2⟩ := h
  refine ⟨dl_c h0 h1 (by decide), dl_c h0 h1 (by decide), ?_⟩
  unfold dl
  (repeat' split) <;> first | exact h2 | exact hw
