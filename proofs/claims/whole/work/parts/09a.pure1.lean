/-! PURE PART 1: loops whose turns don't touch one another; counting; choosing. -/
def iter (f : Nat → Sg → Sg) : Nat → Nat → Sg → Sg
  | 0, _, σ => σ
  | d + 1, i, σ => iter f d (i + 1) (f i σ)
theorem iter_loc {f : Nat → Sg → Sg} {K D : Nat → Ky → Nat → Prop} (N : Nat) (hK : ∀ i σ k j, i < N → ¬ K i k j → f i σ k j = σ k j) (hD : ∀ i σ σ', i < N → (∀ k j, D i k j → σ' k j = σ k j) → ∀ k j, K i k j → f i σ' k j = f i σ k j) (hx : ∀ i i', i < N → i' < N → i ≠ i' → ∀ k j, K i k j → ¬ D i' k j ∧ ¬ K i' k j) :
    ∀ (d a : Nat) (σ : Sg), a + d ≤ N → (∀ i, a ≤ i → i < a + d → ∀ k j, K i k j → iter f d a σ k j = f i σ k j) ∧ ∀ k j, (∀ i, a ≤ i → i < a + d → ¬ K i k j) → iter f d a σ k j = σ k j
  | 0, a, σ, _ => ⟨fun i h1 h2 => by omega, fun k j _ => rfl⟩
  | d + 1, a, σ, hN => by
    obtain ⟨h1, h2⟩ := iter_loc N hK hD hx d (a + 1) (f a σ) (by omega)
    refine ⟨fun i hi1 hi2 k j hk => ?_, fun k j h => ?_⟩
    · rw [iter]
      by_cases ha : i = a
      · subst ha
        exact h2 k j (fun i' g1 g2 => (hx i i' (by omega) (by omega) (by omega) k j hk).2)
      · rw [h1 i (by omega) (by omega) k j hk]
        refine hD i σ (f a σ) (by omega) (fun k' j' hd => ?_) k j hk
        refine hK a σ k' j' (by omega) (fun q => ?_)
        exact (hx a i (by omega) (by omega) (by omega) k' j' q).1 hd
    · rw [iter, h2 k j (fun i g1 g2 => h i (by omega) (by omega))]
      exact hK a σ k j (by omega) (h a (by omega) (by omega))
/-- how many of the first d have P -/
def nc (P : Nat → Bool) : Nat → Nat
  | 0 => 0
  | d + 1 => nc P d + (if P d then 1 else 0)
theorem nc_le (P : Nat → Bool) : ∀ d, nc P d ≤ d
  | 0 => Nat.le_refl _
  | d + 1 => by have := nc_le P d; unfold nc; split <;> omega
theorem nc_congr {P P' : Nat → Bool} : ∀ {d : Nat}, (∀ i, i < d → P i = P' i) → nc P d = nc P' d
  | 0, _ => rfl
  | d + 1, h => by unfold nc; rw [nc_congr (fun i hi => h i (by omega)), h d (by omega)]
theorem nc_zero {P : Nat → Bool} {d : Nat} (h : ∀ i, i < d → P i = false) : nc P d = 0 := by
  induction d with
  | zero => rfl
  | succ d ih => unfold nc; rw [ih (fun i hi => h i (by omega)), h d (by omega)]; rfl
theorem nc_mono {P P' : Nat → Bool} : ∀ {d : Nat}, (∀ i, i < d → P i = true → P' i = true) → nc P d ≤ nc P' d
  | 0, _ => Nat.le_refl _
  | d + 1, h => by
    have h1 := nc_mono (P := P) (P' := P') (d := d) (fun i hi => h i (by omega))
    have h2 := h d (by omega)
    unfold nc
    cases hp : P d
    · simp; omega
    · rw [h2 hp]; omega
/-- one more -/
theorem nc_one {P P' : Nat → Bool} {p : Nat} : ∀ {d : Nat}, p < d → P p = false → P' p = true → (∀ i, i < d → i ≠ p → P' i = P i) → nc P' d = nc P d + 1
  | 0, h, _, _, _ => by omega
  | d + 1, h, h1, h2, h3 => by
    unfold nc
    by_cases hp : p = d
    · subst hp
      rw [nc_congr (P := P') (P' := P) (fun i hi => h3 i (by omega) (by omega)), h1, h2]
      rfl
    · rw [nc_one (P := P) (P' := P') (p := p) (d := d) (by omega) h1 h2 (fun i hi hn => h3 i (by omega) hn), h3 d (by omega) (fun q => hp q.symm)]
      omega
theorem nc_add (P : Nat → Bool) (i : Nat) : ∀ m, nc P i ≤ nc P (i + m)
  | 0 => Nat.le_refl _
  | m + 1 => by have := nc_add P i m; show _ ≤ nc P (i + m) + _; omega
theorem cnt_nc0 (f : Nat → Int32) (P : Nat → Bool) (h : ∀ i, (f i = 0 ∧ P i = false) ∨ (f i = 1 ∧ P i = true)) : ∀ (d i a : Nat), cnt f d i (nI a) = nI (a + (nc P (i + d) - nc P i))
  | 0, i, a => by show nI a = _; rw [Nat.add_zero, Nat.sub_self, Nat.add_zero]
  | d + 1, i, a => by
    have h1 : nc P (i + 1) = nc P i + (if P i then 1 else 0) := rfl
    have h3 := nc_add P (i + 1) d
    rw [cnt, show i + (d + 1) = i + 1 + d by omega]
    rcases h i with ⟨hf, hp⟩ | ⟨hf, hp⟩
    · rw [hp, if_neg Bool.false_ne_true] at h1
      rw [hf, Int32.add_zero, cnt_nc0 f P h d]
      rw [show a + (nc P (i + 1 + d) - nc P (i + 1)) = a + (nc P (i + 1 + d) - nc P i) by omega]
    · rw [hp, if_pos rfl] at h1
      rw [hf, show nI a + 1 = nI (a + 1) from nI_1 a, cnt_nc0 f P h d]
      rw [show a + 1 + (nc P (i + 1 + d) - nc P (i + 1)) = a + (nc P (i + 1 + d) - nc P i) by omega]
theorem cnt_nc (f : Nat → Int32) (P : Nat → Bool) (h : ∀ i, (f i = 0 ∧ P i = false) ∨ (f i = 1 ∧ P i = true)) (d : Nat) : cnt f d 0 0 = nI (nc P d) := by
  have := cnt_nc0 f P h d 0 0
  rw [show (0 : Int32) = nI 0 from rfl, this]
  show nI (0 + (nc P (0 + d) - 0)) = _
  rw [Nat.zero_add, Nat.zero_add, Nat.sub_zero]
/-! choosing: v the figures, C who may be chosen; the order is by figure, then by place -/
def bf (v : Nat → Int32) (j i : Nat) : Bool := decide (v j < v i) || (decide (v j = v i) && decide (j < i))
theorem i32_lt_trans {a b c : Int32} (h1 : a < b) (h2 : b < c) : a < c := by
  rw [Int32.lt_iff_toInt_lt] at *; omega
theorem i32_lt_irrefl {a : Int32} (h : a < a) : False := by rw [Int32.lt_iff_toInt_lt] at h; omega
theorem i32_total (a b : Int32) : a < b ∨ a = b ∨ b < a := by
  rw [Int32.lt_iff_toInt_lt, Int32.lt_iff_toInt_lt, ← Int32.toInt_inj]; omega
theorem bf_iff {v : Nat → Int32} {j i : Nat} : bf v j i = true ↔ (v j < v i ∨ (v j = v i ∧ j < i)) := by simp [bf]
theorem bf_trans {v : Nat → Int32} {a b c : Nat} (h1 : bf v a b = true) (h2 : bf v b c = true) : bf v a c = true := by
  rw [bf_iff] at *
  rcases h1 with h1 | ⟨h1, h1'⟩ <;> rcases h2 with h2 | ⟨h2, h2'⟩
  · exact Or.inl (i32_lt_trans h1 h2)
  · exact Or.inl (h2 ▸ h1)
  · exact Or.inl (h1 ▸ h2)
  · exact Or.inr ⟨h1.trans h2, by omega⟩
theorem bf_irr {v : Nat → Int32} {a : Nat} (h : bf v a a = true) : False := by
  rw [bf_iff] at h
  rcases h with h | h
  · exact i32_lt_irrefl h
  · omega
theorem bf_tot (v : Nat → Int32) (a b : Nat) : bf v a b = true ∨ a = b ∨ bf v b a = true := by
  rw [bf_iff, bf_iff]
  rcases i32_total (v a) (v b) with h | h | h
  · exact Or.inl (Or.inl h)
  · rcases Nat.lt_trichotomy a b with q | q | q
    · exact Or.inl (Or.inr ⟨h, q⟩)
    · exact Or.inr (Or.inl q)
    · exact Or.inr (Or.inr (Or.inr ⟨h.symm, q⟩))
  · exact Or.inr (Or.inr (Or.inl h))
/-- how many of them stand before i -/
def rk (v : Nat → Int32) (C : Nat → Bool) (d i : Nat) : Nat := nc (fun j => C j && bf v j i) d
theorem rk_lt {v : Nat → Int32} {C : Nat → Bool} {d p i : Nat} (hp : p < d) (hC : C p = true) (h : bf v p i = true) : rk v C d p < rk v C d i := by
  have h1 : nc (fun j => (C j && bf v j p) || decide (j = p)) d = rk v C d p + 1 := by
    refine nc_one (p := p) hp ?_ (by simp) (fun j hj hn => by simp [hn])
    cases hb : bf v p p
    · simp
    · exact (bf_irr hb).elim
  have h2 : nc (fun j => (C j && bf v j p) || decide (j = p)) d ≤ rk v C d i := by
    refine nc_mono (fun j hj q => ?_)
    simp only [Bool.or_eq_true, Bool.and_eq_true, decide_eq_true_eq] at q ⊢
    rcases q with ⟨q1, q2⟩ | q
    · exact ⟨q1, bf_trans q2 h⟩
    · rw [q]; exact ⟨hC, h⟩
  omega
/-- the next one behind p -/
theorem rk_next {v : Nat → Int32} {C : Nat → Bool} {d p i : Nat} (hp : p < d) (hCp : C p = true) (h : bf v p i = true) (hmin : ∀ j, j < d → C j = true → bf v p j = true → ¬ bf v j i = true) : rk v C d i = rk v C d p + 1 := by
  unfold rk
  refine nc_one (p := p) hp ?_ ?_ (fun j hj hn => ?_)
  · cases hb : bf v p p
    · simp
    · exact (bf_irr hb).elim
  · simp [hCp, h]
  · cases hc : C j
    · simp
    · simp only [Bool.true_and]
      rcases bf_tot v j p with q | q | q
      · rw [q, bf_trans q h]
      · exact absurd q hn
      · have h1 : bf v j i = false := by
          cases hb : bf v j i
          · rfl
          · exact absurd hb (hmin j hj hc q)
        have h2 : bf v j p = false := by
          cases hb : bf v j p
          · rfl
          · exact (bf_irr (bf_trans hb q)).elim
        rw [h1, h2]
theorem rk_first {v : Nat → Int32} {C : Nat → Bool} {d i : Nat} (hmin : ∀ j, j < d → C j = true → ¬ bf v j i = true) : rk v C d i = 0 := by
  unfold rk
  refine nc_zero (fun j hj => ?_)
  cases hc : C j
  · rfl
  · cases hb : bf v j i
    · rfl
    · exact absurd hb (hmin j hj hc)
