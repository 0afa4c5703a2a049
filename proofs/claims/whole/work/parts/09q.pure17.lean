/-! PURE PART 17: a state is kept; a change is undone. -/
theorem eAt_nI {L j : Nat} (hL : L < 2 ^ 31) (hj : j < L) : eAt L (nI j) = some j := eAt_of2 (nI_pos (by omega)) (nI_ge hj hL) (nI_clamp (by omega))
theorem up2_o {σ : Sg} {k : Ky} {j : Nat} {v : Int32} {k' : Ky} {j' : Nat} (h : ¬ (k' = k ∧ j' = j)) : up2 σ k j v k' j' = σ k' j' := by unfold up2; rw [if_neg h]
theorem hKeep_rows {x : Sg} {nx u : Nat} (hn : nx < 6) (hu : u ≤ 6) (h1 : x (2, 0, 0, 0) 1 = nI nx) (h2 : x (2, 0, 0, 0) 2 = nI u) :
    (hKeep x 0 (2, 0, 0, 0) 1 = nI ((nx + 1) % 6) ∧ hKeep x 0 (2, 0, 0, 0) 2 = nI (if u < 6 then u + 1 else 6)) ∧ ∀ k, k ≠ (2, 0, 0, 0) → hKeep x 0 k = nCopy x (nx + 1) 0 k := by
  have he : hKeep x 0 = hMin (hNext (nCopy x (nx + 1) 0)) := by
    unfold hKeep; rw [h1, eAt_nI (by decide) hn]
  have hc : nCopy x (nx + 1) 0 (2, 0, 0, 0) = x (2, 0, 0, 0) := agr_nCopy (agr.rf _ _) _ (fun q => by have := q.2; simp at this)
  rw [he]
  refine ⟨⟨?_, ?_⟩, fun k hk => ?_⟩
  · unfold hMin
    rw [up2_ne _ _ _ _ (by decide)]
    unfold hNext
    rw [up2_at, hc, h1, nI_1, show (6 : Int32) = nI 6 from rfl]
    by_cases h : 6 ≤ nx + 1
    · rw [if_pos (nI_le h (by omega)), show (nx + 1) % 6 = 0 by omega]; rfl
    · rw [if_neg (nI_ge (by omega) (by decide)), show (nx + 1) % 6 = nx + 1 by omega]
  · unfold hMin
    rw [up2_at]
    unfold hNext
    rw [up2_ne _ _ _ _ (by decide), hc, h2, nI_1, show (6 : Int32) = nI 6 from rfl]
    by_cases h : u < 6
    · rw [if_neg (nI_nlt (by omega) (by decide)), if_pos h]
    · rw [if_pos (nI_lt (by omega) (by omega)), if_neg h]
  · unfold hMin hNext
    rw [up2_nk _ _ _ _ hk, up2_nk _ _ _ _ hk]
theorem mShR_at : ∀ (d k : Nat) (σ : Sg) (j : Nat), mShR d k σ kPast j = if k ≤ j ∧ j < k + d then σ kPast (j + 235) else σ kPast j
  | 0, k, σ, j => by rw [mShR, if_neg (by omega)]
  | d + 1, k, σ, j => by
    rw [mShR, mShR_at d (k + 1)]
    by_cases h : k = j
    · subst h
      rw [if_neg (by omega), if_pos (by omega), up2_at]
    · by_cases h2 : k + 1 ≤ j ∧ j < k + 1 + d
      · rw [if_pos h2, if_pos (by omega), up2_ne _ _ _ _ (by omega)]
      · rw [if_neg h2, if_neg (by omega), up2_ne _ _ _ _ (by omega)]
theorem mSvR_at (u : Nat) : ∀ (d k : Nat) (σ : Sg) (j : Nat), mSvR u d k σ kPast j = if 235 * u + k ≤ j ∧ j < 235 * u + k + d then σ kNow (j - 235 * u) else σ kPast j
  | 0, k, σ, j => by rw [mSvR, if_neg (by omega)]
  | d + 1, k, σ, j => by
    rw [mSvR, mSvR_at u d (k + 1)]
    by_cases h : j = 235 * u + k
    · subst h
      rw [if_neg (by omega), if_pos (by omega), up2_at, show 235 * u + k - 235 * u = k by omega]
    · by_cases h2 : 235 * u + (k + 1) ≤ j ∧ j < 235 * u + (k + 1) + d
      · rw [if_pos h2, if_pos (by omega), up2_nk _ _ _ _ (by decide)]
      · rw [if_neg h2, if_neg (by omega), up2_ne _ _ _ _ h]
theorem keep_6 {m : Sg} {u : Nat} (hu : u ≤ 6) (h : m kM 6 = nI u) : mKeep m u kM 6 = nI (if u < 6 then u + 1 else 6) := by
  have hs : ∀ (u d k : Nat) (σ : Sg), mSvR u d k σ kM = σ kM := fun u d => by
    induction d with
    | zero => intro k σ; rfl
    | succ d ih => intro k σ; rw [mSvR, ih, up2_nk _ _ _ _ (by decide)]
  have hh : ∀ (d k : Nat) (σ : Sg), mShR d k σ kM = σ kM := fun d => by
    induction d with
    | zero => intro k σ; rfl
    | succ d ih => intro k σ; rw [mShR, ih, up2_nk _ _ _ _ (by decide)]
  unfold mKeep
  by_cases h6 : u = 6
  · rw [if_pos h6, if_neg (by omega)]
    unfold mKeep1 mKeep0
    rw [up2_at, hs, up2_at, hh, h, h6, nI_pred, nI_1]
  · rw [if_neg h6, if_pos (by omega)]
    unfold mKeep1
    rw [up2_at, hs, h, nI_1]
theorem keep_past {m : Sg} {u : Nat} (hu : u ≤ 6) {i j : Nat} (hj : j < 235) :
    (u < 6 → i ≤ u → mKeep m u kPast (235 * i + j) = if i = u then m kNow j else m kPast (235 * i + j)) ∧ (u = 6 → i ≤ 5 → mKeep m u kPast (235 * i + j) = if i = 5 then m kNow j else m kPast (235 * (i + 1) + j)) := by
  have hn : ∀ (d k : Nat) (σ : Sg), mShR d k σ kNow = σ kNow := fun d => by
    induction d with
    | zero => intro k σ; rfl
    | succ d ih => intro k σ; rw [mShR, ih, up2_nk _ _ _ _ (by decide)]
  constructor
  · intro h hi
    unfold mKeep
    rw [if_neg (by omega)]
    unfold mKeep1
    rw [up2_nk _ _ _ _ (by decide), mSvR_at]
    by_cases q : i = u
    · subst q
      rw [if_pos (by omega), if_pos rfl, show 235 * i + j - 235 * i = j by omega]
    · rw [if_neg (by omega), if_neg q]
  · intro h hi
    unfold mKeep
    rw [if_pos h]
    unfold mKeep1
    rw [up2_nk _ _ _ _ (by decide), mSvR_at]
    by_cases q : i = 5
    · subst q
      rw [if_pos (by omega), if_pos rfl, show 235 * 5 + j - 235 * 5 = j by omega]
      unfold mKeep0
      rw [up2_nk _ _ _ _ (by decide), hn]
    · rw [if_neg (by omega), if_neg q]
      unfold mKeep0
      rw [up2_nk _ _ _ _ (by decide), mShR_at, if_pos (by omega), show 235 * i + j + 235 = 235 * (i + 1) + j by omega]
theorem keep_all {x m : Sg} {L t nx u : Nat} (hN : NW x m L t) (hH : HI x m L nx u) (hW : WE x m) :
    NW (hKeep x 0) (mKeep m u) L t ∧ HI (hKeep x 0) (mKeep m u) L ((nx + 1) % 6) (if u < 6 then u + 1 else 6) ∧ WE (hKeep x 0) (mKeep m u) ∧ ∀ T, TX x m T → TX (hKeep x 0) (mKeep m u) T := by
  obtain ⟨⟨a1, a2, a3, a4, a5⟩, hh⟩ := hH
  obtain ⟨⟨r1, r2⟩, r3⟩ := hKeep_rows a1 a2 a3 a4
  obtain ⟨hL, ht, hm0, hNR⟩ := id hN
  have oth : ∀ n, n ≠ nx + 1 → ∀ k, inN n k → hKeep x 0 k = x k := fun n hn k hk => by
    rw [r3 k (fun q => by have := hk.2; rw [q] at this; simp at this)]
    exact agr_nCopy (agr.rf _ _) k (fun q => hn (hk.1.symm.trans q.1))
  have row : ∀ k : Ky, k ≠ (2, 0, 0, 0) → (∀ n, ¬ inN n k) → hKeep x 0 k = x k := fun k h1 h2 => by
    rw [r3 k h1]; exact agr_nCopy (agr.rf _ _) k (h2 _)
  have kM_ : ∀ j, j ≠ 6 → mKeep m u kM j = m kM j := fun j hj => kag_keep m u kM j (by decide) (fun q => hj q.2)
  have hcp : NR (hKeep x 0) (nx + 1) (m kNow) L (m kM 1) (m kM 2) t := by
    refine NR_congr hL (nCopy_NR (n := nx + 1) (by omega) (fun e he => hW.2 _ e (by omega) he) hL hNR) (fun k hk => r3 k (fun q => by have := hk.2; rw [q] at this; simp at this)) (fun _ _ => rfl)
  refine ⟨NW_congr hN (oth 0 (by omega)) ⟨fun j _ => by rw [keep_now], fun j hj => kM_ j (by omega)⟩, ⟨⟨by omega, by split <;> omega, r1, r2, keep_6 a2 a5⟩, fun i hi => ?_⟩, ⟨fun i hi => ?_, fun n e hn he => ?_⟩, fun T hT => ?_⟩
  · rw [kM_ 1 (by decide), kM_ 2 (by decide)]
    by_cases h6 : u < 6
    · rw [if_pos h6] at hi ⊢
      by_cases hiu : i = u
      · refine ⟨t, ht, ?_⟩
        rw [show 1 + ((nx + 1) % 6 + 6 - (u + 1) + i) % 6 = nx + 1 by omega]
        refine NR_congr hL hcp (fun _ _ => rfl) (fun j hj => ?_)
        rw [(keep_past a2 hj).1 h6 (by omega), if_pos hiu]
      · obtain ⟨t', ht', g⟩ := hh i (by omega)
        refine ⟨t', ht', ?_⟩
        rw [show 1 + ((nx + 1) % 6 + 6 - (u + 1) + i) % 6 = 1 + (nx + 6 - u + i) % 6 by omega]
        refine NR_congr hL g (oth _ (by omega)) (fun j hj => ?_)
        rw [(keep_past a2 hj).1 h6 (by omega), if_neg hiu]
    · rw [if_neg h6] at hi ⊢
      by_cases hiu : i = 5
      · refine ⟨t, ht, ?_⟩
        rw [show 1 + ((nx + 1) % 6 + 6 - 6 + i) % 6 = nx + 1 by omega]
        refine NR_congr hL hcp (fun _ _ => rfl) (fun j hj => ?_)
        rw [(keep_past a2 hj).2 (by omega) (by omega), if_pos hiu]
      · obtain ⟨t', ht', g⟩ := hh (i + 1) (by omega)
        refine ⟨t', ht', ?_⟩
        rw [show 1 + ((nx + 1) % 6 + 6 - 6 + i) % 6 = 1 + (nx + 6 - u + (i + 1)) % 6 by omega]
        refine NR_congr hL g (oth _ (by omega)) (fun j hj => ?_)
        rw [(keep_past a2 hj).2 (by omega) (by omega), if_neg hiu]
  · rw [row _ (by simp) (fun n q => by have := q.2; simp at this), kag_keep m u (9, 5, 0, 0) i (by decide) (fun q => by cases q.1)]; exact hW.1 i hi
  · by_cases hnn : n = nx + 1
    · rw [r3 _ (by simp), hnn, nCopy_num (by omega) he, hW.2 _ e (by omega) he]
    · rw [oth n hnn _ (i0 n e 0)]; exact hW.2 n e hn he
  · obtain ⟨t1, t2, t3, t4⟩ := hT
    refine ⟨?_, ?_, t3, fun i hi => ?_⟩
    · rw [row _ (by simp) (fun n q => by have := q.2; simp at this)]; exact t1
    · rw [kM_ 9 (by decide)]; exact t2
    · rw [row _ (by simp) (fun n q => by have := q.2; simp at this), kag_keep m u kTx i (by decide) (fun q => by cases q.1)]; exact t4 i hi
theorem hKeep_x (x : Sg) : xF x (hKeep x 0) := fun k hk => by
  cases he : eAt 6 (x (2, 0, 0, 0) 1) with
  | none => simp only [hKeep, he]
  | some j =>
    simp only [hKeep, he]
    have hne : k ≠ (2, 0, 0, 0) := fun e => by rw [e] at hk; simp [yk] at hk
    unfold hMin hNext
    rw [up2_nk _ _ _ _ hne, up2_nk _ _ _ _ hne]
    exact (agr_nCopy (agr.rf (j + 1) x)).x k hk
theorem mKeep_m (m : Sg) (u : Nat) : mF m (mKeep m u) := fun k hk => by
  funext j
  exact kag_keep m u k j (fun q => hk (by rw [q]; exact yk_9 (by decide))) (fun q => hk (by rw [q.1]; exact yk_M))
/-- behind a change of the net alone -/
theorem RR_chg {x m y w : Sg} {L T t nx u : Nat} (hT : TX x m T) (hH : HI x m L nx u) (hW : WE x m) (hN : NW y w L t) (hx : agr 0 x y) (hm : mag m w) : RR y w := by
  obtain ⟨⟨a1, a2, a3, a4, a5⟩, hh⟩ := hH
  obtain ⟨t1, t2, t3, t4⟩ := hT
  have x0 : ∀ k : Ky, (∀ n, ¬ inN n k) → y k = x k := fun k hk => hx k (hk 0)
  have mM : ∀ j, w kM j = m kM j := fun j => by rw [hm kM okM]
  refine ⟨L, T, t, nx, u, hN, ⟨?_, ?_, t3, fun i hi => ?_⟩, ⟨⟨a1, a2, ?_, ?_, ?_⟩, HN_congr hN.1 a2 hh (fun n h1 _ k hk => hx k (fun q => by have := hk.1.symm.trans q.1; omega)) (fun j => by rw [hm kPast ⟨by decide, by decide⟩]) (fun j _ => mM j)⟩, fun i hi => ?_, fun n e hn he => ?_⟩
  · rw [x0 _ (fun n q => by have := q.2; simp at this)]; exact t1
  · rw [mM]; exact t2
  · rw [x0 _ (fun n q => by have := q.2; simp at this), hm kTx ⟨by decide, by decide⟩]; exact t4 i hi
  · rw [x0 _ (fun n q => by have := q.2; simp at this)]; exact a3
  · rw [x0 _ (fun n q => by have := q.2; simp at this)]; exact a4
  · rw [mM]; exact a5
  · rw [x0 _ (fun n q => by have := q.2; simp at this), hm (9, 5, 0, 0) ⟨by decide, by decide⟩]; exact hW.1 i hi
  · by_cases hn0 : n = 0
    · subst hn0; exact (hN.2.2.2.1 e he).1
    · rw [hx _ (fun q => hn0 q.1)]; exact hW.2 n e hn he
theorem mLdR_at (u : Nat) : ∀ (d k : Nat) (σ : Sg) (j : Nat), mLdR u d k σ kNow j = if k ≤ j ∧ j < k + d then σ kPast (235 * u + j) else σ kNow j
  | 0, k, σ, j => by rw [mLdR, if_neg (by omega)]
  | d + 1, k, σ, j => by
    rw [mLdR, mLdR_at u d (k + 1)]
    by_cases h : k = j
    · subst h
      rw [if_neg (by omega), if_pos (by omega), up2_at]
    · by_cases h2 : k + 1 ≤ j ∧ j < k + 1 + d
      · rw [if_pos h2, if_pos (by omega), up2_nk _ _ _ _ (by decide)]
      · rw [if_neg h2, if_neg (by omega), up2_ne _ _ _ _ (by omega)]
theorem mLdR_ne {u : Nat} {k : Ky} (hk : k ≠ kNow) : ∀ (d i : Nat) (σ : Sg), mLdR u d i σ k = σ k
  | 0, _, _ => rfl
  | d + 1, i, σ => by rw [mLdR, mLdR_ne hk d, up2_nk _ _ _ _ hk]
theorem undo_eq {x m : Sg} (h : RR x m) {u : Nat} (hu : m kM 6 = nI u) (hu6 : u ≤ 6) : (xUndo x).1 = (mUndo m u).1 ∧ RR (xUndo x).2 (mUndo m u).2 := by
  obtain ⟨L, T, t, nx, u', hN, hT, hH, hW⟩ := id h
  obtain ⟨⟨a1, a2, a3, a4, a5⟩, hh⟩ := hH
  obtain rfl : u = u' := (nI_eq (by omega) (by omega)).mp (hu.symm.trans a5)
  by_cases h0 : u = 0
  · subst h0
    have e1 : hTakeR x = none := by unfold hTakeR; rw [a4, if_pos (show nI 0 = 0 from rfl)]
    have e2 : xUndo x = (-2, x) := by unfold xUndo hTake; rw [e1]
    have e3 : mUndo m 0 = (-2, m) := by unfold mUndo; rw [a5, if_pos (show nI 0 = 0 from rfl)]
    rw [e2, e3]; exact ⟨rfl, h⟩
  · have hne : ¬ nI u = 0 := nI_ne0 (by omega) (by omega)
    have hl : hLast x = nI ((nx + 5) % 6) := by
      unfold hLast
      rw [a3]
      by_cases q : nx = 0
      · subst q; rw [if_pos (by decide)]; rfl
      · rw [if_neg (nI_nle (by omega) (by omega)), show (1 : Int32) = nI 1 from rfl, pk_sub (by omega), show (nx + 5) % 6 = nx - 1 by omega]
    have e1 : hTakeR x = some ((nx + 5) % 6) := by
      unfold hTakeR; rw [a4, if_neg hne, hl, eAt_nI (by decide) (by omega)]
    have e2 : hTake x = up2 (up2 x (2, 0, 0, 0) 1 (nI ((nx + 5) % 6))) (2, 0, 0, 0) 2 (nI (u - 1)) := by
      unfold hTake; rw [e1]
      show up2 (up2 x (2, 0, 0, 0) 1 (hLast x)) (2, 0, 0, 0) 2 (up2 x (2, 0, 0, 0) 1 (hLast x) (2, 0, 0, 0) 2 - 1) = _
      rw [hl, up2_ne _ _ _ _ (by decide), a4, show (1 : Int32) = nI 1 from rfl, pk_sub (by omega)]
    have e3 : xUndo x = (nCopy (hTake x) 0 ((nx + 5) % 6 + 1) (2, 0, 0, 0) 2, nCopy (hTake x) 0 ((nx + 5) % 6 + 1)) := by unfold xUndo; rw [e1]
    have e4 : mUndo m u = (mUndo1 m u kM 6, mUndo1 m u) := by unfold mUndo; rw [a5, if_neg hne]
    obtain ⟨y, hy⟩ : ∃ y, y = nCopy (hTake x) 0 ((nx + 5) % 6 + 1) := ⟨_, rfl⟩
    obtain ⟨w, hw⟩ : ∃ w, w = mUndo1 m u := ⟨_, rfl⟩
    rw [e3, e4, ← hy, ← hw]
    show y (2, 0, 0, 0) 2 = w kM 6 ∧ RR y w
    have tk : ∀ k, k ≠ (2, 0, 0, 0) → hTake x k = x k := fun k hk => by rw [e2, up2_nk _ _ _ _ hk, up2_nk _ _ _ _ hk]
    have ya : agr 0 (hTake x) y := by rw [hy]; exact agr_nCopy (agr.rf _ _)
    have y2 : y (2, 0, 0, 0) = hTake x (2, 0, 0, 0) := ya _ (fun q => by have := q.2; simp at this)
    have yr : ∀ k : Ky, k ≠ (2, 0, 0, 0) → (∀ n, ¬ inN n k) → y k = x k := fun k h1 h2 => by rw [ya k (h2 0), tk k h1]
    have w6 : w kM 6 = nI (u - 1) := by
      rw [hw]; unfold mUndo1
      rw [mLdR_ne (by decide), up2_at, a5, show (1 : Int32) = nI 1 from rfl, pk_sub (by omega)]
    have wM : ∀ j, j ≠ 6 → w kM j = m kM j := fun j hj => by
      rw [hw]; unfold mUndo1
      rw [mLdR_ne (by decide), up2_ne _ _ _ _ hj]
    have wo : ∀ k, k ≠ kNow → k ≠ kM → w k = m k := fun k h1 h2 => by
      rw [hw]; unfold mUndo1
      rw [mLdR_ne h1, up2_nk _ _ _ _ h2]
    have wn : ∀ j, j < 235 → w kNow j = m kPast (235 * (u - 1) + j) := fun j hj => by
      rw [hw]; unfold mUndo1
      rw [mLdR_at, if_pos (by omega), up2_nk _ _ _ _ (by decide)]
    obtain ⟨t', ht', g⟩ := hh (u - 1) (by omega)
    rw [show 1 + (nx + 6 - u + (u - 1)) % 6 = (nx + 5) % 6 + 1 by omega] at g
    have tkN : ∀ n k, inN n k → hTake x k = x k := fun n k hk => tk k (fun q => by have := hk.2; rw [q] at this; simp at this)
    have hc : NR y 0 (w kNow) L (m kM 1) (m kM 2) t' := by
      rw [hy]
      have g2 : NR (hTake x) ((nx + 5) % 6 + 1) (fun j => m kPast (235 * (u - 1) + j)) L (m kM 1) (m kM 2) t' := NR_congr hN.1 g (tkN _) (fun _ _ => rfl)
      refine NR_congr hN.1 (nCopy_NR (n := 0) (by omega) (fun e he => ?_) hN.1 g2) (fun _ _ => rfl) wn
      rw [tkN 0 _ (i0 0 e 0)]; exact hW.2 0 e (by decide) he
    obtain ⟨t1, t2, t3, t4⟩ := hT
    refine ⟨by rw [y2, e2, up2_at, w6], L, T, t', (nx + 5) % 6, u - 1, ⟨hN.1, ht', ?_, ?_⟩, ⟨?_, ?_, t3, fun i hi => ?_⟩, ⟨⟨by omega, by omega, ?_, ?_, w6⟩, fun i hi => ?_⟩, fun i hi => ?_, fun n e hn he => ?_⟩
    · rw [wM 0 (by decide)]; exact hN.2.2.1
    · rw [wM 1 (by decide), wM 2 (by decide)]; exact hc
    · rw [yr _ (by simp) (fun n q => by have := q.2; simp at this)]; exact t1
    · rw [wM 9 (by decide)]; exact t2
    · rw [yr _ (by simp) (fun n q => by have := q.2; simp at this), wo kTx (by decide) (by decide)]; exact t4 i hi
    · rw [y2, e2, up2_ne _ _ _ _ (by decide), up2_at]
    · rw [y2, e2, up2_at]
    · obtain ⟨t'', h'', g'⟩ := hh i (by omega)
      refine ⟨t'', h'', ?_⟩
      rw [wM 1 (by decide), wM 2 (by decide), show 1 + ((nx + 5) % 6 + 6 - (u - 1) + i) % 6 = 1 + (nx + 6 - u + i) % 6 by omega]
      refine NR_congr hN.1 g' (fun k hk => ?_) (fun j _ => by rw [wo kPast (by decide) (by decide)])
      rw [ya k (fun q => by have := hk.1.symm.trans q.1; omega)]
      exact tkN _ k hk
    · rw [yr _ (by simp) (fun n q => by have := q.2; simp at this), wo (9, 5, 0, 0) (by decide) (by decide)]; exact hW.1 i hi
    · by_cases hn0 : n = 0
      · subst hn0; exact (hc.1 e he).1
      · rw [ya _ (fun q => hn0 q.1), tkN n _ (i0 n e 0)]; exact hW.2 n e hn he
theorem undo_x (x : Sg) : xF x (xUndo x).2 := by
  have h2 : ¬ yk (2, 0, 0, 0) := by simp [yk]
  have ht : xF x (hTake x) := by
    cases he : hTakeR x with
    | none => simp only [hTake, he]; exact .rf x
    | some j => simp only [hTake, he]; exact .up h2 (.up h2 (.rf x))
  cases he : hTakeR x with
  | none => simp only [xUndo, he]; exact ht
  | some j => simp only [xUndo, he]; exact ht.tr (agr_nCopy (agr.rf _ _)).x
theorem undo_m (m : Sg) (u : Nat) : mF m (mUndo m u).2 := by
  unfold mUndo
  split
  · exact .rf m
  · intro k hk
    show mUndo1 m u k = m k
    unfold mUndo1
    rw [mLdR_ne (fun q => hk (by rw [q]; exact yk_9 (by decide))), up2_nk _ _ _ _ (fun q => hk (by rw [q]; exact yk_M))]
