/-! PURE PART 3: what a turn does to the rows of the class's cells. -/
theorem iter_row {f : Nat → Sg → Sg} {K D : Nat → Ky → Prop} (hK : ∀ i σ k, ¬ K i k → f i σ k = σ k) (hD : ∀ i σ σ', (∀ k, D i k → σ' k = σ k) → ∀ k, K i k → f i σ' k = f i σ k) (hx : ∀ i i', i ≠ i' → ∀ k, K i k → ¬ D i' k ∧ ¬ K i' k) (d a : Nat) (σ : Sg) : (∀ i, a ≤ i → i < a + d → ∀ k, K i k → iter f d a σ k = f i σ k) ∧ ∀ k, (∀ i, a ≤ i → i < a + d → ¬ K i k) → iter f d a σ k = σ k := by
  have h := iter_loc (f := f) (K := fun i k _ => K i k) (D := fun i k _ => D i k) (a + d) (fun i σ k j _ q => by rw [hK i σ k q]) (fun i σ σ' _ q k j hk => by rw [hD i σ σ' (fun k' hd => funext (fun j' => q k' j' hd)) k hk]) (fun i i' _ _ q k _ hk => hx i i' q k hk) d a σ (Nat.le_refl _)
  exact ⟨fun i h1 h2 k hk => funext (fun j => h.1 i h1 h2 k j hk), fun k q => funext (fun j => h.2 k j q)⟩
/-- hear -/
def h5 (p5 p3 m : Nat → Int32) : Nat → Int32 := if b01 (p5 0) = 0 then p5 else if b01 (m 0) = 0 then (if b01 (p3 0) = 0 then p5 else upd p5 6 (p5 6 + 1)) else upd p5 6 0
def m3 (p3 m : Nat → Int32) : Nat → Int32 := upd (upd (upd (upd (upd p3 0 (b01 (m 0))) 1 (m 1)) 2 (m 2)) 3 (m 3)) 4 (b01 (m 4))
def h3 (p5 p3 m : Nat → Int32) : Nat → Int32 := if b01 (p5 0) = 0 then upd p3 0 0 else if b01 (m 0) = 0 then (if b01 (p3 0) = 0 then p3 else upd p3 0 (if 3 ≤ p5 6 + 1 then 0 else 1)) else m3 p3 m
theorem mCopy_at {σ : Sg} {k k2 : Ky} (h : k2 ≠ k) : mCopy σ k k2 k = m3 (σ k) (σ k2) := by
  funext j
  simp only [mCopy, mCopy4, mCopy3, mCopy2, mCopy1, m3, up2, upd, h, true_and, false_and, if_false]
theorem mCopy_ne {σ : Sg} {k k2 q : Ky} (h : q ≠ k) : mCopy σ k k2 q = σ q := by
  unfold mCopy mCopy4 mCopy3 mCopy2 mCopy1
  rw [up2_nk _ _ _ _ h, up2_nk _ _ _ _ h, up2_nk _ _ _ _ h, up2_nk _ _ _ _ h, up2_nk _ _ _ _ h]
theorem pHear_5 (σ : Sg) (n e l n2 e2 l2 : Nat) : pHear σ n e l (14, n2, e2, l2) (5, n, e, l) = h5 (σ (5, n, e, l)) (σ (3, n, e, l)) (σ (14, n2, e2, l2)) := by
  unfold pHear h5
  by_cases a : b01 (σ (5, n, e, l) 0) = 0
  · rw [if_pos a, if_pos a, up2_nk _ _ _ _ (by simp)]
  · rw [if_neg a, if_neg a]
    by_cases b : b01 (σ (14, n2, e2, l2) 0) = 0
    · rw [if_pos b, if_pos b]
      by_cases c : b01 (σ (3, n, e, l) 0) = 0
      · rw [if_pos c, if_pos c]
      · rw [if_neg c, if_neg c, up2_nk _ _ _ _ (by simp), up2_row]
    · rw [if_neg b, if_neg b, up2_row, mCopy_ne (by simp)]
theorem pHear_3 (σ : Sg) (n e l n2 e2 l2 : Nat) : pHear σ n e l (14, n2, e2, l2) (3, n, e, l) = h3 (σ (5, n, e, l)) (σ (3, n, e, l)) (σ (14, n2, e2, l2)) := by
  unfold pHear h3
  by_cases a : b01 (σ (5, n, e, l) 0) = 0
  · rw [if_pos a, if_pos a, up2_row]
  · rw [if_neg a, if_neg a]
    by_cases b : b01 (σ (14, n2, e2, l2) 0) = 0
    · rw [if_pos b, if_pos b]
      by_cases c : b01 (σ (3, n, e, l) 0) = 0
      · rw [if_pos c, if_pos c]
      · rw [if_neg c, if_neg c, up2_row, up2_at, up2_nk _ _ _ _ (by simp)]
    · rw [if_neg b, if_neg b, up2_nk _ _ _ _ (by simp), mCopy_at (by simp)]
theorem pHear_ne {σ : Sg} {n e l : Nat} {k2 k : Ky} (h1 : k ≠ (5, n, e, l)) (h2 : k ≠ (3, n, e, l)) : pHear σ n e l k2 k = σ k := by
  unfold pHear
  (repeat' split) <;> first | rfl | rw [up2_nk _ _ _ _ h2, up2_nk _ _ _ _ h1] | rw [up2_nk _ _ _ _ h1, mCopy_ne h2] | rw [up2_nk _ _ _ _ h2]
theorem eHear_iter (n e n2 e2 : Nat) : ∀ (d i : Nat) (σ : Sg), eHear n e n2 e2 d i σ = iter (fun i σ => pHear σ n e i (14, n2, e2, i)) d i σ
  | 0, _, _ => rfl
  | d + 1, i, σ => by rw [eHear, iter]; exact eHear_iter n e n2 e2 d (i + 1) _
theorem eHear_rows (n e n2 e2 : Nat) (σ : Sg) : (∀ i, i < 6 → eHear n e n2 e2 6 0 σ (5, n, e, i) = h5 (σ (5, n, e, i)) (σ (3, n, e, i)) (σ (14, n2, e2, i)) ∧ eHear n e n2 e2 6 0 σ (3, n, e, i) = h3 (σ (5, n, e, i)) (σ (3, n, e, i)) (σ (14, n2, e2, i))) ∧ ∀ k : Ky, (∀ i, i < 6 → k ≠ (5, n, e, i) ∧ k ≠ (3, n, e, i)) → eHear n e n2 e2 6 0 σ k = σ k := by
  have h := iter_row (f := fun i σ => pHear σ n e i (14, n2, e2, i)) (K := fun i k => k = (5, n, e, i) ∨ k = (3, n, e, i)) (D := fun i k => k = (5, n, e, i) ∨ k = (3, n, e, i) ∨ k = (14, n2, e2, i))
    (fun i σ k q => pHear_ne (fun g => q (Or.inl g)) (fun g => q (Or.inr g)))
    (fun i σ σ' q k hk => by
      have a := q (5, n, e, i) (Or.inl rfl)
      have b := q (3, n, e, i) (Or.inr (Or.inl rfl))
      have c := q (14, n2, e2, i) (Or.inr (Or.inr rfl))
      rcases hk with rfl | rfl
      · rw [pHear_5, pHear_5, a, b, c]
      · rw [pHear_3, pHear_3, a, b, c])
    (fun i i' hne k hk => by rcases hk with rfl | rfl <;> simp [hne]) 6 0 σ
  rw [eHear_iter]
  refine ⟨fun i hi => ⟨?_, ?_⟩, fun k hk => h.2 k (fun i _ hi q => q.elim (hk i (by omega)).1 (hk i (by omega)).2)⟩
  · rw [h.1 i (by omega) (by omega) _ (Or.inl rfl)]; exact pHear_5 σ n e i n2 e2 i
  · rw [h.1 i (by omega) (by omega) _ (Or.inr rfl)]; exact pHear_3 σ n e i n2 e2 i
/-- judge and say -/
def howR (p5 p3 : Nat → Int32) (wt : Int32) : Int32 := if b01 (p5 0) = 0 then 0 else if b01 (p3 0) = 0 then 1 else if b01 (p5 8) = 0 then 2 else if wt ≤ p5 9 then (if b01 (p3 4) = 0 then 4 else 5) else 3
def j5a (p5 : Nat → Int32) : Nat → Int32 := upd p5 9 (if b01 (p5 8) = 0 then -1 else p5 9 + 1)
def j5b (p5 p3 : Nat → Int32) (wt : Int32) : Nat → Int32 := upd (j5a p5) 7 (howR (j5a p5) p3 wt)
def j5 (p5 p3 : Nat → Int32) (wt : Int32) : Nat → Int32 := if howR (j5a p5) p3 wt = 5 ∧ p5 7 ≠ 5 then upd (j5b p5 p3 wt) 10 (p5 10 + 1) else j5b p5 p3 wt
def s14 (p5 p14 : Nat → Int32) (rk : Int32) : Nat → Int32 := upd (upd (upd (upd (upd p14 0 (if b01 (p5 0) = 0 then 0 else if b01 (p5 1) = 0 then 1 else 0)) 1 (p5 2)) 2 (p5 3)) 3 rk) 4 (if p5 7 = 4 ∨ p5 7 = 5 then 1 else 0)
theorem pJudge1_5 (σ : Sg) (n e l : Nat) : pJudge1 σ n e l (5, n, e, l) = j5a (σ (5, n, e, l)) := by unfold pJudge1 j5a; rw [up2_row]
theorem pJudge1_ne (σ : Sg) {n e l : Nat} {k : Ky} (h : k ≠ (5, n, e, l)) : pJudge1 σ n e l k = σ k := by unfold pJudge1; rw [up2_nk _ _ _ _ h]
theorem pHow_rows (σ : Sg) (n e l : Nat) (wt : Int32) : pHow σ n e l wt = howR (σ (5, n, e, l)) (σ (3, n, e, l)) wt := rfl
theorem pJudge2_5 (σ : Sg) (n e l : Nat) (wt : Int32) : pJudge2 σ n e l wt (5, n, e, l) = j5b (σ (5, n, e, l)) (σ (3, n, e, l)) wt := by
  unfold pJudge2 j5b; rw [up2_row, pHow_rows, pJudge1_5, pJudge1_ne σ (show ((3, n, e, l) : Ky) ≠ (5, n, e, l) by simp)]
theorem pJudge_5 (σ : Sg) (n e l : Nat) (wt : Int32) : pJudge σ n e l wt (5, n, e, l) = j5 (σ (5, n, e, l)) (σ (3, n, e, l)) wt := by
  unfold pJudge j5
  have a : pJudge2 σ n e l wt (5, n, e, l) 7 = howR (j5a (σ (5, n, e, l))) (σ (3, n, e, l)) wt := by rw [pJudge2_5]; simp [j5b, upd]
  have b : pJudge1 σ n e l (5, n, e, l) 7 = σ (5, n, e, l) 7 := by rw [pJudge1_5]; simp [j5a, upd]
  have c : pJudge2 σ n e l wt (5, n, e, l) 10 = σ (5, n, e, l) 10 := by rw [pJudge2_5]; simp [j5b, j5a, upd]
  rw [a, b, c]
  by_cases h : howR (j5a (σ (5, n, e, l))) (σ (3, n, e, l)) wt = 5 ∧ σ (5, n, e, l) 7 ≠ 5
  · rw [if_pos h, if_pos h, up2_row, pJudge2_5]
  · rw [if_neg h, if_neg h, pJudge2_5]
theorem pJudge_ne (σ : Sg) {n e l : Nat} {k : Ky} (wt : Int32) (h : k ≠ (5, n, e, l)) : pJudge σ n e l wt k = σ k := by
  unfold pJudge
  split
  · rw [up2_nk _ _ _ _ h]; unfold pJudge2; rw [up2_nk _ _ _ _ h, pJudge1_ne σ h]
  · unfold pJudge2; rw [up2_nk _ _ _ _ h, pJudge1_ne σ h]
theorem pSay_ne (σ : Sg) {n e l : Nat} {k : Ky} (rk : Int32) (h : k ≠ (14, n, e, l)) : pSay σ n e l rk k = σ k := by
  unfold pSay pSay3 pSay2 pSay1
  rw [up2_nk _ _ _ _ h, up2_nk _ _ _ _ h, up2_nk _ _ _ _ h, up2_nk _ _ _ _ h, up2_nk _ _ _ _ h]
theorem pSay_14 (σ : Sg) (n e l : Nat) (rk : Int32) : pSay σ n e l rk (14, n, e, l) = s14 (σ (5, n, e, l)) (σ (14, n, e, l)) rk := by
  funext j
  simp [pSay, pSay3, pSay2, pSay1, s14, up2, upd]
def tJ (n e : Nat) (wt : Int32) (i : Nat) (σ : Sg) : Sg := pSay (pJudge σ n e i wt) n e i (pJudge σ n e i wt (0, n, e, 0) 1)
theorem tJ_5 (n e : Nat) (wt : Int32) (i : Nat) (σ : Sg) : tJ n e wt i σ (5, n, e, i) = j5 (σ (5, n, e, i)) (σ (3, n, e, i)) wt := by
  unfold tJ; rw [pSay_ne _ _ (by simp), pJudge_5]
theorem tJ_14 (n e : Nat) (wt : Int32) (i : Nat) (σ : Sg) : tJ n e wt i σ (14, n, e, i) = s14 (j5 (σ (5, n, e, i)) (σ (3, n, e, i)) wt) (σ (14, n, e, i)) (σ (0, n, e, 0) 1) := by
  unfold tJ; rw [pSay_14, pJudge_5, pJudge_ne σ wt (show ((14, n, e, i) : Ky) ≠ (5, n, e, i) by simp), pJudge_ne σ wt (show ((0, n, e, 0) : Ky) ≠ (5, n, e, i) by simp)]
theorem tJ_ne {n e : Nat} {wt : Int32} {i : Nat} {σ : Sg} {k : Ky} (h1 : k ≠ (5, n, e, i)) (h2 : k ≠ (14, n, e, i)) : tJ n e wt i σ k = σ k := by
  unfold tJ; rw [pSay_ne _ _ h2, pJudge_ne σ wt h1]
theorem eJudge_iter (n e : Nat) (wt : Int32) : ∀ (d i : Nat) (σ : Sg), eJudge n e wt d i σ = iter (tJ n e wt) d i σ
  | 0, _, _ => rfl
  | d + 1, i, σ => by rw [eJudge, iter]; exact eJudge_iter n e wt d (i + 1) _
theorem eJudge_rows (n e : Nat) (wt : Int32) (σ : Sg) : (∀ i, i < 6 → eJudge n e wt 6 0 σ (5, n, e, i) = j5 (σ (5, n, e, i)) (σ (3, n, e, i)) wt ∧ eJudge n e wt 6 0 σ (14, n, e, i) = s14 (j5 (σ (5, n, e, i)) (σ (3, n, e, i)) wt) (σ (14, n, e, i)) (σ (0, n, e, 0) 1)) ∧ ∀ k : Ky, (∀ i, i < 6 → k ≠ (5, n, e, i) ∧ k ≠ (14, n, e, i)) → eJudge n e wt 6 0 σ k = σ k := by
  have h := iter_row (f := tJ n e wt) (K := fun i k => k = (5, n, e, i) ∨ k = (14, n, e, i)) (D := fun i k => k = (5, n, e, i) ∨ k = (3, n, e, i) ∨ k = (14, n, e, i) ∨ k = (0, n, e, 0))
    (fun i σ k q => tJ_ne (fun g => q (Or.inl g)) (fun g => q (Or.inr g)))
    (fun i σ σ' q k hk => by
      have a := q (5, n, e, i) (Or.inl rfl)
      have b := q (3, n, e, i) (Or.inr (Or.inl rfl))
      have c := q (14, n, e, i) (Or.inr (Or.inr (Or.inl rfl)))
      have d := q (0, n, e, 0) (Or.inr (Or.inr (Or.inr rfl)))
      rcases hk with rfl | rfl
      · rw [tJ_5, tJ_5, a, b]
      · rw [tJ_14, tJ_14, a, b, c, d])
    (fun i i' hne k hk => by rcases hk with rfl | rfl <;> simp [hne]) 6 0 σ
  rw [eJudge_iter]
  refine ⟨fun i hi => ⟨?_, ?_⟩, fun k hk => h.2 k (fun i _ hi q => q.elim (hk i (by omega)).1 (hk i (by omega)).2)⟩
  · rw [h.1 i (by omega) (by omega) _ (Or.inl rfl)]; exact tJ_5 n e wt i σ
  · rw [h.1 i (by omega) (by omega) _ (Or.inr rfl)]; exact tJ_14 n e wt i σ
/-- deal -/
def dl (r : Nat → Int32) (wn dr : Int32) : Nat → Int32 :=
  if r 1 ≤ 0 then (if wn = r 0 then r else if r 0 = -4 ∨ wn = -4 ∨ dr = 0 then upd r 0 wn else upd r 1 dr)
  else if r 1 - 1 = 0 then upd (upd r 1 (r 1 - 1)) 0 wn else upd r 1 (r 1 - 1)
theorem fDeal_at (σ : Sg) (k : Ky) (wn dr : Int32) : fDeal σ k wn dr k = dl (σ k) wn dr := by
  unfold fDeal dl
  rw [up2_at]
  (repeat' split) <;> first | rfl | rw [up2_row, up2_row] | rw [up2_row]
theorem fDeal_ne {σ : Sg} {k q : Ky} (wn dr : Int32) (h : q ≠ k) : fDeal σ k wn dr q = σ q := by
  unfold fDeal
  (repeat' split) <;> first | rfl | rw [up2_nk _ _ _ _ h, up2_nk _ _ _ _ h] | rw [up2_nk _ _ _ _ h]
theorem eWantR_c {σ σ' : Sg} {n e : Nat} (h : ∀ i, σ' (5, n, e, i) = σ (5, n, e, i)) : ∀ (d i : Nat) (a : Int32), eWantR σ' n e d i a = eWantR σ n e d i a
  | 0, _, _ => rfl
  | d + 1, i, a => by rw [eWantR, eWantR, h i, eWantR_c h d (i + 1), eWantR_c h d (i + 1)]
theorem eWant_c {σ σ' : Sg} {n e : Nat} (h : ∀ i, σ' (5, n, e, i) = σ (5, n, e, i)) (f m : Int32) : eWant σ' n e f m = eWant σ n e f m := by
  unfold eWant; rw [eWantR_c h]
theorem eDealR_iter (n e : Nat) (m dr : Int32) : ∀ (d i : Nat) (σ : Sg), eDealR n e m dr d i σ = iter (fun i σ => fDeal σ (1, n, e, i) (eWant σ n e (nI i) m) dr) d i σ
  | 0, _, _ => rfl
  | d + 1, i, σ => by rw [eDealR, iter]; exact eDealR_iter n e m dr d (i + 1) _
theorem eDealR_rows (n e : Nat) (m dr : Int32) (σ : Sg) : (∀ i, i < 8 → eDealR n e m dr 8 0 σ (1, n, e, i) = dl (σ (1, n, e, i)) (eWant σ n e (nI i) m) dr) ∧ ∀ k : Ky, (∀ i, i < 8 → k ≠ (1, n, e, i)) → eDealR n e m dr 8 0 σ k = σ k := by
  have h := iter_row (f := fun i σ => fDeal σ (1, n, e, i) (eWant σ n e (nI i) m) dr) (K := fun i k => k = (1, n, e, i)) (D := fun i k => k = (1, n, e, i) ∨ ∃ l, k = (5, n, e, l))
    (fun i σ k q => fDeal_ne _ _ q)
    (fun i σ σ' q k hk => by
      have a := q (1, n, e, i) (Or.inl rfl)
      have b : ∀ l, σ' (5, n, e, l) = σ (5, n, e, l) := fun l => q _ (Or.inr ⟨l, rfl⟩)
      rw [hk]
      rw [fDeal_at, fDeal_at, a, eWant_c b])
    (fun i i' hne k hk => by rw [hk]; simp [hne]) 8 0 σ
  rw [eDealR_iter]
  refine ⟨fun i hi => ?_, fun k hk => h.2 k (fun i _ hi q => hk i (by omega) q)⟩
  rw [h.1 i (by omega) (by omega) _ rfl]
  exact fDeal_at _ _ _ _
