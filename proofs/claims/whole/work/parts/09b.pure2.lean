/-! PURE PART 2: what the class chooses. -/
theorem i32_le_lt {a b c : Int32} (h1 : a ≤ b) (h2 : b < c) : a < c := by
  rw [Int32.lt_iff_toInt_lt] at *; rw [Int32.le_iff_toInt_le] at h1; omega
theorem i32_not_le {a b : Int32} (h : ¬ a ≤ b) : b < a := by
  rw [Int32.le_iff_toInt_le] at h; rw [Int32.lt_iff_toInt_lt]; omega
theorem i32_le_irr {a b : Int32} (h : a ≤ b) (h2 : b < a) : False := by
  rw [Int32.lt_iff_toInt_lt] at h2; rw [Int32.le_iff_toInt_le] at h; omega
def bestOk (v : Nat → Int32) (C : Nat → Bool) (i : Nat) : Option Nat → Prop
  | none => ∀ j, j < i → C j = false
  | some b => b < i ∧ C b = true ∧ ∀ j, j < i → C j = true → ¬ bf v j b = true
theorem eBestR_ok (σ : Sg) (n e : Nat) (w : Int32) (like : Option Nat) : ∀ (d i : Nat) (best : Option Nat), bestOk (fun i => pPrio σ n e i w) (eFit σ n e like) i best → bestOk (fun i => pPrio σ n e i w) (eFit σ n e like) (i + d) (eBestR σ n e w like d i best)
  | 0, i, best, h => h
  | d + 1, i, best, h => by
    rw [eBestR, show i + (d + 1) = i + 1 + d by omega]
    refine eBestR_ok σ n e w like d (i + 1) _ ?_
    cases hf : eFit σ n e like i
    · rw [Bool.false_and, if_neg Bool.false_ne_true]
      cases best with
      | none => intro j hj; rcases Nat.lt_succ_iff_lt_or_eq.mp hj with q | q; exact h j q; rw [q]; exact hf
      | some b =>
        refine ⟨by have := h.1; omega, h.2.1, fun j hj hc => ?_⟩
        rcases Nat.lt_succ_iff_lt_or_eq.mp hj with q | q
        · exact h.2.2 j q hc
        · rw [q, hf] at hc; cases hc
    · rw [Bool.true_and]
      cases best with
      | none =>
        rw [show eBet σ n e w none i = true from rfl, if_pos rfl]
        refine ⟨by omega, hf, fun j hj hc => ?_⟩
        rcases Nat.lt_succ_iff_lt_or_eq.mp hj with q | q
        · rw [h j q] at hc; cases hc
        · rw [q]; exact bf_irr
      | some b =>
        obtain ⟨h1, h2, h3⟩ := h
        by_cases hb : pPrio σ n e b w ≤ pPrio σ n e i w
        · have : eBet σ n e w (some b) i = false := by simp [eBet, hb]
          rw [this, if_neg Bool.false_ne_true]
          refine ⟨by omega, h2, fun j hj hc => ?_⟩
          rcases Nat.lt_succ_iff_lt_or_eq.mp hj with q | q
          · exact h3 j q hc
          · rw [q, bf_iff]
            rintro (g | ⟨g, g2⟩)
            · exact i32_le_irr hb g
            · omega
        · have : eBet σ n e w (some b) i = true := by simp [eBet, hb]
          rw [this, if_pos rfl]
          have hlt := i32_not_le hb
          refine ⟨by omega, hf, fun j hj hc g => ?_⟩
          rcases Nat.lt_succ_iff_lt_or_eq.mp hj with q | q
          · refine h3 j q hc ?_
            rw [bf_iff] at g ⊢
            rcases g with g | ⟨g, -⟩
            · exact Or.inl (i32_lt_trans g hlt)
            · exact Or.inl (by rw [g]; exact hlt)
          · rw [q] at g; exact bf_irr g
theorem eBest_ok (σ : Sg) (n e : Nat) (w : Int32) (like : Option Nat) : bestOk (fun i => pPrio σ n e i w) (eFit σ n e like) 6 (eBest σ n e w like) := by
  have := eBestR_ok σ n e w like 6 0 none (fun j hj => by omega)
  exact this
/-! what a flag doesn't touch -/
abbrev fl (σ : Sg) (n e i : Nat) : Int32 := b01 (σ (5, n, e, i) 8)
theorem prio_fl (σ : Sg) (n e l : Nat) (x : Int32) (i : Nat) (w : Int32) : pPrio (up2 σ (5, n, e, l) 8 x) n e i w = pPrio σ n e i w := by
  unfold pPrio
  rw [up2_nk σ (5, n, e, l) 8 x (show ((3, n, e, i) : Ky) ≠ (5, n, e, l) by simp)]
  rw [show up2 σ (5, n, e, l) 8 x (5, n, e, i) 3 = σ (5, n, e, i) 3 by simp [up2]]
theorem pair_fl (σ : Sg) (n e l : Nat) (x : Int32) (i q : Nat) : pPair (up2 σ (5, n, e, l) 8 x) n e i n e q = pPair σ n e i n e q := by
  unfold pPair
  simp [up2]
theorem there_fl (σ : Sg) (n e l : Nat) (x : Int32) (i j : Nat) : up2 σ (5, n, e, l) 8 x (3, n, e, i) j = σ (3, n, e, i) j := by simp [up2]
theorem fl_at (σ : Sg) (n e l : Nat) : fl (up2 σ (5, n, e, l) 8 1) n e l = 1 := by unfold fl; rw [up2_at]; rfl
theorem fl_ne (σ : Sg) (n e l : Nat) (x : Int32) {i : Nat} (h : i ≠ l) : fl (up2 σ (5, n, e, l) 8 x) n e i = fl σ n e i := by
  unfold fl
  rw [up2_nk σ (5, n, e, l) 8 x (show ((5, n, e, i) : Ky) ≠ (5, n, e, l) by simp [h])]
def cT (σ : Sg) (n e f i : Nat) : Bool := decide (¬ b01 (σ (3, n, e, i) 0) = 0) && decide (¬ pPair σ n e i n e f = 0)
abbrev cv (σ : Sg) (n e : Nat) (w : Int32) : Nat → Int32 := fun i => pPrio σ n e i w
theorem cT_fl (σ : Sg) (n e l : Nat) (x : Int32) (f : Nat) : cT (up2 σ (5, n, e, l) 8 x) n e f = cT σ n e f := by
  funext i; unfold cT; rw [there_fl, pair_fl]
theorem cv_fl (σ : Sg) (n e l : Nat) (x w : Int32) : cv (up2 σ (5, n, e, l) 8 x) n e w = cv σ n e w := by
  funext i; exact prio_fl σ n e l x i w
theorem eFit_some (σ : Sg) (n e f i : Nat) : eFit σ n e (some f) i = (cT σ n e f i && decide (fl σ n e i = 0)) := by
  unfold eFit cT fl
  cases decide (¬ b01 (σ (3, n, e, i) 0) = 0) <;> cases decide (b01 (σ (5, n, e, i) 8) = 0) <;> cases hd : decide (¬ pPair σ n e i n e f = 0) <;> simp_all
theorem eTake_ok (n e : Nat) (w : Int32) (f : Nat) : ∀ (d : Nat) (σ : Sg) (p : Nat), p < 6 → cT σ n e f p = true → (∀ i, i < 6 → (¬ fl σ n e i = 0 ↔ (cT σ n e f i = true ∧ (bf (cv σ n e w) i p = true ∨ i = p)))) →
    (∀ i, i < 6 → (¬ fl (eTake n e w (some f) d (eBest σ n e w (some f)) σ) n e i = 0 ↔ (cT σ n e f i = true ∧ rk (cv σ n e w) (cT σ n e f) 6 i < rk (cv σ n e w) (cT σ n e f) 6 p + 1 + d)))
  | 0, σ, p, hp, hT, h, i, hi => by
    rw [eTake, h i hi]
    constructor
    · rintro ⟨h1, h2 | h2⟩
      · exact ⟨h1, by have := rk_lt hi h1 h2; omega⟩
      · rw [h2]; exact ⟨hT, by omega⟩
    · rintro ⟨h1, h2⟩
      refine ⟨h1, ?_⟩
      rcases bf_tot (cv σ n e w) i p with q | q | q
      · exact Or.inl q
      · exact Or.inr q
      · have := rk_lt hp hT q; omega
  | d + 1, σ, p, hp, hT, h, i, hi => by
    have hb := eBest_ok σ n e w (some f)
    cases hn : eBest σ n e w (some f) with
    | none =>
      rw [hn] at hb
      rw [eTake]
      rw [h i hi]
      constructor
      · rintro ⟨h1, h2 | h2⟩
        · exact ⟨h1, by have := rk_lt hi h1 h2; omega⟩
        · rw [h2]; exact ⟨hT, by omega⟩
      · rintro ⟨h1, -⟩
        have h2 := hb i hi
        rw [eFit_some, h1, Bool.true_and, decide_eq_false_iff_not] at h2
        exact (h i hi).mp h2
    | some l =>
      rw [hn] at hb
      obtain ⟨hl, hfit, hmin⟩ := hb
      rw [eFit_some, Bool.and_eq_true, decide_eq_true_eq] at hfit
      obtain ⟨hTl, hfl⟩ := hfit
      have hfits : ∀ j, j < 6 → cT σ n e f j = true → bf (cv σ n e w) p j = true → eFit σ n e (some f) j = true := by
        intro j hj hTj hb
        rw [eFit_some, hTj, Bool.true_and, decide_eq_true_eq]
        cases Decidable.em (fl σ n e j = 0) with
        | inl q => exact q
        | inr q =>
          rcases ((h j hj).mp q).2 with g | g
          · exact (bf_irr (bf_trans hb g)).elim
          · rw [g] at hb; exact (bf_irr hb).elim
      have hpl : bf (cv σ n e w) p l = true := by
        rcases bf_tot (cv σ n e w) p l with q | q | q
        · exact q
        · exact absurd hfl ((h l hl).mpr ⟨hTl, Or.inr q.symm⟩)
        · exact absurd hfl ((h l hl).mpr ⟨hTl, Or.inl q⟩)
      have hrk : rk (cv σ n e w) (cT σ n e f) 6 l = rk (cv σ n e w) (cT σ n e f) 6 p + 1 := rk_next hp hT hpl (fun j hj hTj hb => hmin j hj (hfits j hj hTj hb))
      rw [eTake]
      have ih := eTake_ok n e w f d (up2 σ (5, n, e, l) 8 1) l hl (by rw [cT_fl]; exact hTl) (fun j hj => by
        rw [cT_fl, cv_fl]
        by_cases hjl : j = l
        · subst hjl
          rw [fl_at]
          exact ⟨fun _ => ⟨hTl, Or.inr rfl⟩, fun _ => by decide⟩
        · rw [fl_ne σ n e l 1 hjl, h j hj]
          constructor
          · rintro ⟨h1, h2 | h2⟩
            · exact ⟨h1, Or.inl (bf_trans h2 hpl)⟩
            · rw [h2]; exact ⟨hT, Or.inl hpl⟩
          · rintro ⟨h1, h2⟩
            have h2 := h2.resolve_right hjl
            refine ⟨h1, ?_⟩
            rcases bf_tot (cv σ n e w) j p with q | q | q
            · exact Or.inl q
            · exact Or.inr q
            · exact absurd h2 (hmin j hj (hfits j hj h1 q))) i hi
      rw [ih, cT_fl, cv_fl, hrk]
      constructor <;> rintro ⟨h1, h2⟩ <;> exact ⟨h1, by omega⟩
theorem eTake_fr (n e : Nat) (w : Int32) (f : Option Nat) : ∀ (d : Nat) (nx : Option Nat) (σ : Sg) (k : Ky) (j : Nat), ¬ (j = 8 ∧ ∃ i, k = (5, n, e, i)) → eTake n e w f d nx σ k j = σ k j
  | 0, _, _, _, _, _ => by rw [eTake]
  | d + 1, none, _, _, _, _ => by rw [eTake]
  | d + 1, some l, σ, k, j, h => by
    rw [eTake, eTake_fr n e w f d _ _ k j h]
    unfold up2
    rw [if_neg (fun q => h ⟨q.2, l, q.1⟩)]
theorem eUnch_ne (n e : Nat) : ∀ (d i : Nat) (σ : Sg) (k : Ky) (j : Nat), ¬ (j = 8 ∧ ∃ q, i ≤ q ∧ q < i + d ∧ k = (5, n, e, q)) → eUnch n e d i σ k j = σ k j
  | 0, _, _, _, _, _ => rfl
  | d + 1, i, σ, k, j, h => by
    rw [eUnch, eUnch_ne n e d (i + 1) _ k j (fun ⟨h1, q, h2, h3, h4⟩ => h ⟨h1, q, by omega, by omega, h4⟩)]
    unfold up2
    rw [if_neg (fun q => h ⟨q.2, i, by omega, by omega, q.1⟩)]
theorem eUnch_at (n e : Nat) : ∀ (d i : Nat) (σ : Sg) (q : Nat), i ≤ q → q < i + d → eUnch n e d i σ (5, n, e, q) 8 = 0
  | 0, i, _, q, h1, h2 => by omega
  | d + 1, i, σ, q, h1, h2 => by
    rw [eUnch]
    by_cases hq : q = i
    · subst hq
      rw [eUnch_ne n e d (q + 1) _ _ _ (fun ⟨_, r, g1, g2, g3⟩ => by simp at g3; omega), up2_at]
    · exact eUnch_at n e d (i + 1) _ q (by omega) (by omega)
/-- the class's choice -/
theorem eChoose1_ok {σ : Sg} {n e M : Nat} (h0 : ∀ i, i < 6 → fl σ n e i = 0) : ∀ i, i < 6 → (¬ fl (eChoose1 σ n e M) n e i = 0 ↔ ∃ f, eBest σ n e (eDec σ n e) none = some f ∧ cT σ n e f i = true ∧ rk (cv σ n e (eDec σ n e)) (cT σ n e f) 6 i < M) := by
  intro i hi
  unfold eChoose1
  generalize eDec σ n e = w
  have hb := eBest_ok σ n e w none
  cases hf : eBest σ n e w none with
  | none =>
    have : eTake n e w none M none σ = σ := by cases M <;> rw [eTake]
    rw [this, h0 i hi]
    constructor
    · intro h; exact absurd rfl h
    · rintro ⟨f, h, -⟩; cases h
  | some f =>
    rw [hf] at hb
    obtain ⟨hf6, hfit, hmin⟩ := hb
    cases M with
    | zero =>
      rw [eTake, h0 i hi]
      constructor
      · intro h; exact absurd rfl h
      · rintro ⟨_, -, -, h⟩; omega
    | succ M =>
      rw [eTake]
      have hth : ¬ b01 (σ (3, n, e, f) 0) = 0 := by
        unfold eFit at hfit
        simp only [Bool.and_eq_true, decide_eq_true_eq] at hfit
        exact hfit.1.1
      have hTf : cT σ n e f f = true := by
        unfold cT pPair
        simp [hth]
      have hm2 : ∀ j, j < 6 → cT σ n e f j = true → ¬ bf (cv σ n e w) j f = true := by
        intro j hj hTj
        refine hmin j hj ?_
        unfold cT at hTj
        rw [Bool.and_eq_true, decide_eq_true_eq, decide_eq_true_eq] at hTj
        unfold eFit
        simp only [Bool.and_eq_true, decide_eq_true_eq, and_true]
        exact ⟨hTj.1, h0 j hj⟩
      have hr0 : rk (cv σ n e w) (cT σ n e f) 6 f = 0 := rk_first hm2
      have key := eTake_ok n e w f M (up2 σ (5, n, e, f) 8 1) f hf6 (by rw [cT_fl]; exact hTf) (fun j hj => by
        rw [cT_fl, cv_fl]
        by_cases hjf : j = f
        · subst hjf
          rw [fl_at]
          exact ⟨fun _ => ⟨hTf, Or.inr rfl⟩, fun _ => by decide⟩
        · rw [fl_ne σ n e f 1 hjf, h0 j hj]
          constructor
          · intro h; exact absurd rfl h
          · rintro ⟨h1, h2⟩
            exact absurd (h2.resolve_right hjf) (hm2 j hj h1)) i hi
      rw [key, cT_fl, cv_fl, hr0]
      constructor
      · rintro ⟨h1, h2⟩; exact ⟨f, rfl, h1, by omega⟩
      · rintro ⟨f', h, h1, h2⟩; cases h; exact ⟨h1, by omega⟩
