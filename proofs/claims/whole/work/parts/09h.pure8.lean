/-! PURE PART 8: both sides choose the same. -/
theorem cnt_congr {f g : Nat → Int32} : ∀ (d i : Nat) (a : Int32), (∀ j, i ≤ j → j < i + d → f j = g j) → cnt f d i a = cnt g d i a
  | 0, _, _, _ => rfl
  | d + 1, i, a, h => by rw [cnt, cnt, h i (Nat.le_refl _) (by omega)]; exact cnt_congr d (i + 1) _ (fun j h1 h2 => h j (by omega) (by omega))
theorem cnt_bool {f : Nat → Int32} {P : Nat → Bool} {d : Nat} (h : ∀ j, j < d → f j = if P j then 1 else 0) : cnt f d 0 0 = nI (nc P d) := by
  rw [cnt_congr d 0 0 (fun j _ hj => h j (by omega))]
  refine cnt_nc _ P (fun i => ?_) d
  cases P i
  · exact Or.inl ⟨rfl, rfl⟩
  · exact Or.inr ⟨rfl, rfl⟩
theorem nc_cut {P : Nat → Bool} {L : Nat} : ∀ (m : Nat), (∀ j, L ≤ j → j < L + m → P j = false) → nc P (L + m) = nc P L
  | 0, _ => rfl
  | m + 1, h => by
    show nc P (L + m) + (if P (L + m) then 1 else 0) = _
    rw [nc_cut m (fun j h1 h2 => h j h1 (by omega)), h (L + m) (by omega) (by omega)]; rfl
theorem nI_lei {a b : Nat} (ha : a < 2 ^ 31) (hb : b < 2 ^ 31) : nI a ≤ nI b ↔ a ≤ b := by
  constructor
  · intro h
    rcases Nat.lt_or_ge b a with q | q
    · exact absurd h (nI_ge q ha)
    · exact q
  · intro h; exact nI_le h hb
/-- the class's end e of net n against the reference's places -/
def ER (x : Sg) (n e L : Nat) (m : Sg) : Prop :=
  (∀ i, i < 6 → (¬ b01 (x (3, n, e, i) 0) = 0 ↔ (i < L ∧ ¬ mOpen m e i = 0))) ∧
  (∀ i, i < L → ¬ mOpen m e i = 0 → x (3, n, e, i) 1 = m kNow (pl e i + 9) ∧ x (3, n, e, i) 2 = m kNow (pl e i + 10) ∧ x (3, n, e, i) 3 = m kNow (pl e i + 11) ∧ x (5, n, e, i) 2 = m kNow (pl e i + 0) ∧ x (5, n, e, i) 3 = m kNow (pl e i + 1)) ∧
  x (0, n, e, 0) 1 = m kNow (0 + e) ∧ x (0, n, e, 0) 0 = nI e
theorem dec_eq {x m : Sg} {n e L : Nat} (he : e < 2) (hL : L ≤ 6) (h : ER x n e L m) : ∀ (d i : Nat), i + d = 6 → eDecR x n e d i = mDecR m e (L - i) i
  | 0, i, hi => by rw [show L - i = 0 by omega]; rfl
  | d + 1, i, hi => by
    obtain ⟨h1, h2, h3, h4⟩ := h
    have ih := dec_eq he hL ⟨h1, h2, h3, h4⟩ d (i + 1) (by omega)
    by_cases hiL : i < L
    · rw [show L - i = (L - (i + 1)) + 1 by omega, mDecR, eDecR]
      by_cases ho : mOpen m e i = 0
      · have hb : b01 (x (3, n, e, i) 0) = 0 := Classical.byContradiction (fun q => ((h1 i (by omega)).mp q).2 ho)
        rw [if_pos ho, if_pos hb]; exact ih
      · have hb : ¬ b01 (x (3, n, e, i) 0) = 0 := (h1 i (by omega)).mpr ⟨hiL, ho⟩
        rw [if_neg ho, if_neg hb, h4, h3, (h2 i hiL ho).2.2.1]
        have hee : e = 0 ∨ e = 1 := by omega
        generalize m kNow (0 + e) = a
        generalize m kNow (pl e i + 11) = c
        rcases hee with rfl | rfl
        · rw [show nI 0 = 0 from rfl, if_pos rfl, if_pos rfl]
          rcases i32_total a c with q | q | q
          · rw [if_pos q, if_neg (fun g => i32_lt_irrefl (i32_lt_trans q g))]
          · subst q; rw [if_neg i32_lt_irrefl, if_neg i32_lt_irrefl, if_pos rfl]
          · rw [if_pos q, if_neg (fun g => i32_lt_irrefl (i32_lt_trans q g)), if_neg (fun g => by rw [g] at q; exact i32_lt_irrefl q)]
        · rw [if_neg (show ¬ nI 1 = 0 by decide), if_neg (show ¬ nI 1 = 0 by decide)]
          rcases i32_total a c with q | q | q
          · rw [if_pos q, if_neg (fun g => i32_le_irr g q)]
          · subst q; rw [if_neg i32_lt_irrefl, if_pos (by rw [Int32.le_iff_toInt_le]; omega), if_pos rfl]
          · rw [if_pos (by rw [Int32.le_iff_toInt_le]; rw [Int32.lt_iff_toInt_lt] at q; omega), if_neg (fun g => i32_lt_irrefl (i32_lt_trans q g)), if_neg (fun g => by rw [g] at q; exact i32_lt_irrefl q)]
    · have hb : b01 (x (3, n, e, i) 0) = 0 := Classical.byContradiction (fun q => hiL ((h1 i (by omega)).mp q).1)
      rw [eDecR, if_pos hb, ih, show L - (i + 1) = 0 by omega, show L - i = 0 by omega]; rfl
/-- the reference's order -/
abbrev vm (m : Sg) (e b : Nat) : Nat → Int32 := fun i => m kNow (pl e i + b)
abbrev om (m : Sg) (e i : Nat) : Bool := decide (¬ mOpen m e i = 0)
abbrev pm (m : Sg) (e i j : Nat) : Bool := decide (¬ mPair m e i j = 0)
theorem mBef_bf {m : Sg} {e b l i : Nat} (hl : l < 6) (hi : i < 6) : mBef m e l b i = if om m e i && bf (vm m e b) i l then 1 else 0 := by
  unfold mBef om
  by_cases ho : mOpen m e i = 0
  · simp [ho]
  · rw [if_neg ho]
    simp only [ho, not_false_eq_true, decide_true, Bool.true_and]
    rcases i32_total (m kNow (pl e i + b)) (m kNow (pl e l + b)) with q | q | q
    · rw [if_pos q, if_pos (show bf (vm m e b) i l = true from bf_iff.mpr (Or.inl q))]
    · have nq : ¬ m kNow (pl e i + b) < m kNow (pl e l + b) := fun g => by rw [q] at g; exact i32_lt_irrefl g
      rw [if_neg nq, if_pos q]
      by_cases hil : i < l
      · rw [if_pos (show bf (vm m e b) i l = true from bf_iff.mpr (Or.inr ⟨q, hil⟩)), if_neg (nI_ge hil (by omega))]
      · have nb : ¬ bf (vm m e b) i l = true := fun g => by
          rcases bf_iff.mp g with g | g
          · exact nq g
          · exact hil g.2
        rw [if_pos (nI_le (show l ≤ i by omega) (by omega)), if_neg nb]
    · have n1 : ¬ m kNow (pl e i + b) < m kNow (pl e l + b) := fun g => i32_lt_irrefl (i32_lt_trans q g)
      have n2 : ¬ m kNow (pl e i + b) = m kNow (pl e l + b) := fun g => by rw [g] at q; exact i32_lt_irrefl q
      have nb : ¬ bf (vm m e b) i l = true := fun g => by
        rcases bf_iff.mp g with g | g
        · exact n1 g
        · exact n2 g.1
      rw [if_neg n1, if_neg n2, if_neg nb]
theorem mAh_1 {m : Sg} {e b l L : Nat} (hl : l < 6) (hL : L ≤ 6) : mAh m e l b 1 L = nI (nc (fun j => om m e j && bf (vm m e b) j l) L) := by
  unfold mAh
  refine cnt_bool (fun j hj => ?_)
  unfold mAh1
  rw [mBef_bf hl (by omega)]
  cases om m e j && bf (vm m e b) j l
  · rfl
  · rfl
theorem mAh_0 {m : Sg} {e b l L : Nat} (hl : l < 6) (hL : L ≤ 6) : mAh m e l b 0 L = nI (nc (fun j => (om m e j && bf (vm m e b) j l) && pm m e l j) L) := by
  unfold mAh
  refine cnt_bool (fun j hj => ?_)
  unfold mAh1
  rw [mBef_bf hl (by omega)]
  cases om m e j && bf (vm m e b) j l
  · rfl
  · rw [if_pos rfl, if_neg (by decide), if_pos rfl, Bool.true_and]
    unfold pm
    by_cases h : mPair m e l j = 0
    · rw [if_pos h]; simp [h]
    · rw [if_neg h]; simp [h]
theorem mFstR_is {m : Sg} {e b L f : Nat} (hu : ∀ i, i < L → ¬ mOpen m e i = 0 → mAh m e i b 1 L = 0 → i = f) (hf : ¬ mOpen m e f = 0) (hf2 : mAh m e f b 1 L = 0) : ∀ (d i : Nat) (r : Option Nat), i + d ≤ L → (r = some f ∨ (i ≤ f ∧ f < i + d)) → mFstR m e b L d i r = some f
  | 0, i, r, _, h => by rcases h with h | h; exact h; omega
  | d + 1, i, r, hL, h => by
    rw [mFstR]
    refine mFstR_is hu hf hf2 d (i + 1) _ (by omega) ?_
    by_cases hi : i = f
    · subst hi
      left
      rw [if_neg hf, if_pos hf2]
    · rcases h with h | h
      · left
        by_cases ho : mOpen m e i = 0
        · rw [if_pos ho]; exact h
        · rw [if_neg ho, if_neg (fun q => hi (hu i (by omega) ho q))]; exact h
      · right; omega
