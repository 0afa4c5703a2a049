/-! PURE PART 18: what is looked at. -/
theorem mWi_le {j n : Nat} (h : j ≤ n) (hn : n < 2 ^ 31) : mWi (nI j) 0 (nI n) = 1 := by
  unfold mWi
  rw [if_neg (nI_pos (by omega)), if_neg (nI_nlt h hn)]
theorem mWi_yes {l L : Nat} (h : l < L) (hL : L < 2 ^ 31) : mWi (nI l) 0 (nI L - 1) = 1 := by
  cases L with
  | zero => omega
  | succ L => rw [nI_pred]; exact mWi_le (by omega) (by omega)
theorem bit_wi (v : Int32) : mWi v 0 1 = 0 ↔ zBit v = 0 := by
  by_cases h : zBit v = 0
  · refine ⟨fun _ => h, fun _ => ?_⟩
    by_cases q : mWi v 0 1 = 0
    · exact q
    · obtain ⟨j, hj, rfl⟩ := mWi_at (x := v) 1 (by decide) q
      have : j = 0 ∨ j = 1 := by omega
      rcases this with rfl | rfl <;> exact absurd h (by decide)
  · refine ⟨fun q => ?_, fun q => absurd q h⟩
    obtain ⟨a, ha, rfl⟩ := zBit_in h
    rw [show (1 : Int32) = nI 1 from rfl, mWi_le (by omega) (by decide)] at q
    exact absurd q (by decide)
theorem zBit_nI {e : Nat} (he : e < 2) : ¬ zBit (nI e) = 0 := by
  have : e = 0 ∨ e = 1 := by omega
  rcases this with rfl | rfl <;> decide
theorem eOf_nI {e : Nat} (he : e < 2) : eOf (nI e) = some e := by
  have : e = 0 ∨ e = 1 := by omega
  rcases this with rfl | rfl <;> decide
theorem eOf_no {a : Int32} (h : zBit a = 0) : eOf a = none := by
  unfold zBit at h
  unfold eOf
  by_cases h1 : a = 0
  · rw [if_pos h1] at h; exact absurd h (by decide)
  · rw [if_neg h1] at h ⊢
    by_cases h2 : a = 1
    · rw [if_pos h2] at h; exact absurd h (by decide)
    · rw [if_neg h2]
theorem cl_nI {j : Nat} (h : j < 2 ^ 31) : cl (nI j) = j := nI_clamp h
theorem port_dec {x : Sg} {L : Nat} {q : Int32} (hx : x (4, 0, 0, 0) 2 = nI L) (hq : q = nI L) (hL : L ≤ 6) (a y : Int32) :
    (nPort x 0 a y = none ∧ (zBit a = 0 ∨ (¬ zBit a = 0 ∧ mWi y 0 (q - 1) = 0))) ∨ ∃ e l, e < 2 ∧ l < L ∧ a = nI e ∧ y = nI l ∧ nPort x 0 a y = some (5, 0, e, l) ∧ ¬ zBit a = 0 ∧ ¬ mWi y 0 (q - 1) = 0 := by
  subst hq
  by_cases h : zBit a = 0
  · left
    refine ⟨?_, Or.inl h⟩
    unfold nPort; rw [eOf_no h]
  · obtain ⟨e, he, rfl⟩ := zBit_in h
    by_cases h2 : mWi y 0 (nI L - 1) = 0
    · left
      refine ⟨?_, Or.inr ⟨h, h2⟩⟩
      cases hp : nPort x 0 (nI e) y with
      | none => rfl
      | some k =>
        obtain ⟨e', j, g1, g2, g3, -, -, hj⟩ := nPort_inv hp
        obtain ⟨-, rfl⟩ := eAt_lt (by decide) g3
        rw [hx, nI_ltI (by omega) (by omega)] at g2
        rw [mWi_yes g2 (by omega)] at h2
        exact absurd h2 (by decide)
    · right
      obtain ⟨l, hl, rfl⟩ := mWi_in (by omega) h2
      exact ⟨e, l, he, hl, rfl, rfl, nPort_ok (eOf_nI he) (by rw [hx]; exact nI_lt hl (by omega)) (eAt_nI (by decide) (by omega)), h, h2⟩
theorem flow_dec (a y : Int32) : (nFlow 0 a y = none ∧ (zBit a = 0 ∨ (¬ zBit a = 0 ∧ mWi y 0 7 = 0))) ∨ ∃ e f, e < 2 ∧ f < 8 ∧ a = nI e ∧ y = nI f ∧ nFlow 0 a y = some (1, 0, e, f) ∧ ¬ zBit a = 0 ∧ ¬ mWi y 0 7 = 0 := by
  by_cases h : zBit a = 0
  · left
    refine ⟨?_, Or.inl h⟩
    unfold nFlow; rw [eOf_no h]
  · obtain ⟨e, he, rfl⟩ := zBit_in h
    by_cases h2 : mWi y 0 7 = 0
    · left
      refine ⟨?_, Or.inr ⟨h, h2⟩⟩
      cases hp : nFlow 0 (nI e) y with
      | none => rfl
      | some k =>
        obtain ⟨e', j, g1, g3, -, -, hj⟩ := nFlow_inv hp
        obtain ⟨-, rfl⟩ := eAt_lt (by decide) g3
        rw [show (7 : Int32) = nI 7 from rfl, mWi_le (by omega) (by decide)] at h2
        exact absurd h2 (by decide)
    · right
      obtain ⟨f, hf, rfl⟩ := mWi_at (x := y) 7 (by decide) h2
      refine ⟨e, f, he, hf, rfl, rfl, ?_, h, h2⟩
      unfold nFlow; rw [eOf_nI he]
      show (eAt 8 (nI f)).map _ = _
      rw [eAt_nI (by decide) hf]; rfl
theorem b01_if (v : Int32) : (if b01 v = 0 then (0 : Int32) else 1) = b01 v := by
  rcases b01_or v with h | h <;> rw [h] <;> rfl
theorem known_eq {x m : Sg} {e l : Nat} {v : Int32} {j : Nat} (hh : HR (x (5, 0, e, l)) (x (3, 0, e, l)) (fun j => m kNow (pl e l + j))) (hv : ¬ b01 (x (3, 0, e, l) 0) = 0 → v = m kNow j) : pKnown x 0 e l v = if m kNow (pl e l + 8) = -4 then -4 else m kNow j := by
  unfold pKnown
  have ho := HR_open hh
  by_cases q : b01 (x (3, 0, e, l) 0) = 0
  · rw [if_pos q]
    by_cases g : m kNow (pl e l + 8) = -4
    · rw [if_pos g]
    · exact absurd q (ho.mpr g)
  · rw [if_neg q, if_neg (ho.mp q)]; exact hv q
theorem look_eq {x m : Sg} {e l t : Nat} {up : Int32} (h : PR (x (5, 0, e, l)) (x (3, 0, e, l)) (x (14, 0, e, l)) up (fun j => m kNow (pl e l + j)) t) (w : Int32) : pLook x 0 e l w = if mWi w 0 10 = 0 then -1 else mTl m (pl e l) w := by
  obtain ⟨⟨o1, o2, o3, o4, o5, o6⟩, -, hh, hc⟩ := h
  by_cases h0 : mWi w 0 10 = 0
  · rw [if_pos h0]
    have hn : ∀ j, j ≤ 10 → ¬ w = nI j := fun j hj q => by
      rw [q, show (10 : Int32) = nI 10 from rfl, mWi_le hj (by decide)] at h0
      exact absurd h0 (by decide)
    unfold pLook
    rw [if_neg (show ¬ w = 0 from hn 0 (by decide)), if_neg (show ¬ w = 1 from hn 1 (by decide)), if_neg (show ¬ w = 2 from hn 2 (by decide)), if_neg (show ¬ w = 3 from hn 3 (by decide)), if_neg (show ¬ w = 4 from hn 4 (by decide)), if_neg (show ¬ w = 5 from hn 5 (by decide)), if_neg (show ¬ w = 6 from hn 6 (by decide)), if_neg (show ¬ w = 7 from hn 7 (by decide)), if_neg (show ¬ w = 8 from hn 8 (by decide)), if_neg (show ¬ w = 9 from hn 9 (by decide)), if_neg (show ¬ w = 10 from hn 10 (by decide))]
  · rw [if_neg h0]
    have hk : ¬ b01 (x (3, 0, e, l) 0) = 0 → x (5, 0, e, l) 6 = m kNow (pl e l + 8) ∧ x (3, 0, e, l) 1 = m kNow (pl e l + 9) ∧ x (3, 0, e, l) 2 = m kNow (pl e l + 10) ∧ x (3, 0, e, l) 3 = m kNow (pl e l + 11) ∧ b01 (x (3, 0, e, l) 4) = m kNow (pl e l + 12) := fun q => by
      rcases hh with ⟨g, -⟩ | ⟨-, g2, -, g4, g5, g6, g7⟩
      · exact absurd g q
      · exact ⟨g2.symm, g4, g5, g6, g7⟩
    obtain ⟨j, hj, rfl⟩ := mWi_at (x := w) 10 (by decide) h0
    match j, hj with
    | 0, _ => exact o3
    | 1, _ => exact o4
    | 2, _ => exact o5
    | 3, _ =>
      show pKnown x 0 e l (x (5, 0, e, l) 6) = m kNow (pl e l + 8)
      rw [known_eq (j := pl e l + 8) hh (fun q => (hk q).1)]
      by_cases g : m kNow (pl e l + 8) = -4
      · rw [if_pos g, g]
      · rw [if_neg g]
    | 4, _ => exact known_eq (j := pl e l + 9) hh (fun q => (hk q).2.1)
    | 5, _ => exact known_eq (j := pl e l + 10) hh (fun q => (hk q).2.2.1)
    | 6, _ => exact known_eq (j := pl e l + 11) hh (fun q => (hk q).2.2.2.1)
    | 7, _ =>
      refine known_eq (j := pl e l + 12) (v := if b01 (x (3, 0, e, l) 4) = 0 then 0 else 1) hh (fun q => ?_)
      rw [b01_if]; exact (hk q).2.2.2.2
    | 8, _ =>
      show (if b01 (x (5, 0, e, l) 8) = 0 then (-4 : Int32) else x (5, 0, e, l) 9) = m kNow (pl e l + 13)
      rcases hc with ⟨g1, g2, -⟩ | ⟨g1, g2, -⟩
      · rw [if_pos g1]; exact g2.symm
      · rw [if_neg g1]; exact g2.symm
    | 9, _ => exact o6
    | 10, _ =>
      show (if b01 (x (5, 0, e, l) 1) = 0 then (0 : Int32) else 1) = m kNow (pl e l + 2)
      rw [b01_if]; exact o2
    | j + 11, hj => omega
theorem link_eq {x m : Sg} (h : RR x m) (a y w : Int32) : xLink x a y w = mLink m a y w := by
  obtain ⟨L, T, t, nx, u, ⟨hL, ht, hm, hN⟩, -⟩ := h
  unfold xLink mLink
  rcases port_dec hN.2.1.1 hm hL a y with ⟨g1, g2 | ⟨g2, g3⟩⟩ | ⟨e, l, he, hl, rfl, rfl, g1, g2, g3⟩
  · rw [g1, if_pos g2]
  · rw [g1, if_neg g2, if_pos g3]
  · rw [g1, if_neg g2, if_neg g3, cl_nI (by omega), cl_nI (by omega)]
    exact look_eq (hN.2.2.1 e l he hl) w
theorem or_eq {f g : Nat → Int32} {L : Nat} (h1 : ∀ j, j < L → (f j = 0 ↔ g j = 0)) (h2 : ∀ j, L ≤ j → j < 6 → f j = 0) (hL : L ≤ 6) : ∀ (d i : Nat) (a : Int32), i + d = 6 → orr f d i a = orS g (L - i) i a
  | 0, i, a, hi => by rw [show L - i = 0 by omega]; rfl
  | d + 1, i, a, hi => by
    have ih := fun a => or_eq h1 h2 hL d (i + 1) a (by omega)
    by_cases hiL : i < L
    · rw [show L - i = (L - (i + 1)) + 1 by omega, orr, orS, ih]
      by_cases q : f i = 0
      · rw [if_pos q, if_pos ((h1 i hiL).mp q), Int32.or_zero]
      · rw [if_neg q, if_neg (fun g => q ((h1 i hiL).mpr g))]
    · rw [orr, if_pos (h2 i (by omega) (by omega)), ih, show L - (i + 1) = 0 by omega, show L - i = 0 by omega]; rfl
theorem or_bit : ∀ (n : Fin 64) (i : Fin 6), (nI n.val ||| 1 <<< (nI i.val &&& 31)) = nI (nI n.val ||| 1 <<< (nI i.val &&& 31)).toNatClampNeg ∧ (nI n.val ||| 1 <<< (nI i.val &&& 31)).toNatClampNeg < 64 := by decide +kernel
theorem orS_rg (g : Nat → Int32) : ∀ (d i n : Nat), i + d ≤ 6 → n < 64 → ∃ k, k < 64 ∧ orS g d i (nI n) = nI k
  | 0, i, n, _, hn => ⟨n, hn, rfl⟩
  | d + 1, i, n, hi, hn => by
    rw [orS]
    by_cases q : g i = 0
    · rw [if_pos q, Int32.or_zero]; exact orS_rg g d (i + 1) n (by omega) hn
    · rw [if_neg q]
      obtain ⟨h1, h2⟩ := or_bit ⟨n, hn⟩ ⟨i, by omega⟩
      dsimp only at h1 h2
      rw [h1]
      exact orS_rg g d (i + 1) _ (by omega) h2
theorem bits_eq {x m : Sg} {L t : Nat} {wt dr : Int32} (hL : L ≤ 6) (ht : t ≤ 9999) (hN : NR x 0 (m kNow) L wt dr t) {e : Nat} (he : e < 2) {w : Nat} (hw : w < 3) : eBits x 0 e (nI w) = orS (mBs m e (nI w)) L 0 0 := by
  unfold eBits
  have key : ∀ j, j < L → (pIsOf x 0 e j (nI w) = 0 ↔ mBs m e (nI w) j = 0) := fun j hj => by
    obtain ⟨⟨o1, o2, o3, o4, o5, o6⟩, -, hh, hc⟩ := hN.2.2.1 e j he hj
    have ho := HR_open hh
    match w, hw with
    | 0, _ =>
      show b01 (x (3, 0, e, j) 0) = 0 ↔ (if m kNow (pl e j + 8) = -4 then (0 : Int32) else 1) = 0
      by_cases g : m kNow (pl e j + 8) = -4
      · rw [if_pos g]; exact ⟨fun _ => rfl, fun _ => Decidable.byContradiction (fun q => (ho.mp q) g)⟩
      · rw [if_neg g]; exact ⟨fun q => absurd q (ho.mpr g), fun q => absurd q (by decide)⟩
    | 1, _ =>
      show b01 (x (5, 0, e, j) 8) = 0 ↔ (if m kNow (pl e j + 13) = -4 then (0 : Int32) else 1) = 0
      rcases hc with ⟨g1, g2, -⟩ | ⟨g1, g2, c, hct, g3⟩
      · rw [if_pos g2]; exact ⟨fun _ => rfl, fun _ => g1⟩
      · rw [if_neg (show ¬ m kNow (pl e j + 13) = -4 from fun q => nI_n4 (by omega) (g3.symm.trans (g2.symm.trans q)))]
        exact ⟨fun q => absurd q g1, fun q => absurd q (by decide)⟩
    | 2, _ =>
      show (if x (5, 0, e, j) 7 = 5 then (1 : Int32) else 0) = 0 ↔ mSnd m e j = 0
      rw [mSnd_iff, show m kNow (pl e j + 14) = x (5, 0, e, j) 7 from o5.symm]
      by_cases g : x (5, 0, e, j) 7 = 5
      · rw [if_pos g]; exact ⟨fun q => absurd q (by decide), fun q => absurd g q⟩
      · rw [if_neg g]; exact ⟨fun _ => g, fun _ => rfl⟩
    | w + 3, hw => omega
  have dead : ∀ j, L ≤ j → j < 6 → pIsOf x 0 e j (nI w) = 0 := fun j h1 h2 => by
    obtain ⟨⟨d1, d2, d3, d4, d5⟩, -⟩ := hN.2.2.2.1 e j he h1 h2
    match w, hw with
    | 0, _ => exact d3
    | 1, _ => exact d4
    | 2, _ =>
      show (if x (5, 0, e, j) 7 = 5 then (1 : Int32) else 0) = 0
      rw [d5]; rfl
    | w + 3, hw => omega
  exact or_eq key dead hL 6 0 0 rfl
theorem bundle_eq {x m : Sg} (h : RR x m) {L : Nat} (hm : m kM 0 = nI L) (hL : L ≤ 6) (a w : Int32) : xBundle x a w = mBundle m L a w := by
  obtain ⟨L', T, t, nx, u, ⟨hL', ht, hm', hN⟩, -⟩ := h
  obtain rfl : L = L' := (nI_eq (by omega) (by omega)).mp (hm.symm.trans hm')
  unfold xBundle mBundle
  by_cases h1 : zBit a = 0
  · rw [eOf_no h1, if_pos h1]
  · obtain ⟨e, he, rfl⟩ := zBit_in h1
    rw [eOf_nI he, if_neg h1]
    show (if w < 0 then (-1 : Int32) else if w ≤ 2 then eBits x 0 e w else -1) = _
    by_cases h2 : mWi w 0 2 = 0
    · rw [if_pos h2]
      unfold mWi at h2
      by_cases g : w < 0
      · rw [if_pos g]
      · rw [if_neg g] at h2 ⊢
        by_cases g2 : (2 : Int32) < w
        · rw [if_neg (fun q => i32_le_irr q g2)]
        · rw [if_neg g2] at h2; exact absurd h2 (by decide)
    · rw [if_neg h2]
      obtain ⟨j, hj, rfl⟩ := mWi_at (x := w) 2 (by decide) h2
      rw [if_neg (nI_pos (by omega)), show (2 : Int32) = nI 2 from rfl, if_pos (nI_le (by omega) (by decide)), cl_nI (by omega)]
      exact bits_eq hL ht hN he hj
theorem agree_eq {x m : Sg} {L t : Nat} {wt dr : Int32} (hL : L ≤ 6) (ht : t ≤ 9999) (hN : NR x 0 (m kNow) L wt dr t) : xAgree x = mAgree m L := by
  have b : ∀ e, e < 2 → eBits x 0 e 2 = mSndSet m e L := fun e he => by
    have := bits_eq hL ht hN he (w := 2) (by decide)
    rw [show (2 : Int32) = nI 2 from rfl, this]
    unfold mSndSet
    have : mBs m e (nI 2) = mSnd m e := rfl
    rw [this]
  unfold xAgree mAgree
  rw [b 0 (by decide), b 1 (by decide)]
  obtain ⟨k, hk, g⟩ : ∃ k, k < 64 ∧ mSndSet m 0 L = nI k := orS_rg (mSnd m 0) L 0 0 (by omega) (by decide)
  by_cases q : k = 0
  · subst q
    rw [if_pos (show mSndSet m 0 L = 0 from g), if_pos (show mSndSet m 0 L ≤ 0 by rw [g]; decide)]
  · rw [if_neg (show ¬ mSndSet m 0 L = 0 by rw [g]; exact nI_ne0 (by omega) (by omega)), if_neg (show ¬ mSndSet m 0 L ≤ 0 by rw [g]; exact nI_nle (by omega) (by omega))]
theorem NR_HW {x m : Sg} {L t : Nat} {wt dr : Int32} (hN : NR x 0 (m kNow) L wt dr t) {e : Nat} (he : e < 2) : HW x 0 e L m := ⟨fun l hl => (hN.2.2.1 e l he hl).1.2.2.2.2.1, fun l hl hl6 => (hN.2.2.2.1 e l he hl hl6).1.2.2.2.2⟩
theorem flow_eq {x m : Sg} (h : RR x m) {L : Nat} (hm : m kM 0 = nI L) (hL : L ≤ 6) (a y w : Int32) : xFlow x a y w = mFlow m L a y w := by
  obtain ⟨L', T, t, nx, u, ⟨hL', ht, hm', hN⟩, -⟩ := h
  obtain rfl : L = L' := (nI_eq (by omega) (by omega)).mp (hm.symm.trans hm')
  unfold xFlow mFlow
  rcases flow_dec a y with ⟨g1, g2 | ⟨g2, g3⟩⟩ | ⟨e, f, he, hf, rfl, rfl, g1, g2, g3⟩
  · rw [g1, if_pos g2]
  · rw [g1, if_neg g2, if_pos g3]
  · rw [g1, if_neg g2, if_neg g3, cl_nI (by omega), cl_nI (by omega)]
    obtain ⟨f1, f2, -⟩ := hN.2.2.2.2 e f he hf
    show (if w = 0 then x (1, 0, e, f) 0 else if w = 1 then x (1, 0, e, f) 1 else if w = 2 then eWant x 0 e (nI f) (eSend x 0 e) else -1) = _
    by_cases h2 : mWi w 0 2 = 0
    · have hn : ∀ j, j ≤ 2 → ¬ w = nI j := fun j hj q => by
        rw [q, show (2 : Int32) = nI 2 from rfl, mWi_le hj (by decide)] at h2
        exact absurd h2 (by decide)
      rw [if_pos h2, if_neg (show ¬ w = 0 from hn 0 (by decide)), if_neg (show ¬ w = 1 from hn 1 (by decide)), if_neg (show ¬ w = 2 from hn 2 (by decide))]
    · rw [if_neg h2]
      obtain ⟨j, hj, rfl⟩ := mWi_at (x := w) 2 (by decide) h2
      match j, hj with
      | 0, _ => exact f1
      | 1, _ => exact f2
      | 2, _ => exact (want_eq hL (NR_HW hN he) (nI f)).1
      | j + 3, hj => omega
theorem zPl_dec {x : Sg} {L : Nat} {q : Int32} (hx : x (4, 0, 0, 0) 2 = nI L) (hq : q = nI L) (hL : L ≤ 6) (a y : Int32) :
    (zPl x a y = -4 ∧ (zBit a = 0 ∨ (¬ zBit a = 0 ∧ mWi y 0 (q - 1) = 0))) ∨ ∃ e l, e < 2 ∧ l < L ∧ a = nI e ∧ y = nI l ∧ zPl x a y = nI (6 * e + l) ∧ ¬ zBit a = 0 ∧ ¬ mWi y 0 (q - 1) = 0 := by
  subst hq
  by_cases h : zPl x a y = -4
  · left
    refine ⟨h, ?_⟩
    by_cases h1 : zBit a = 0
    · exact Or.inl h1
    · refine Or.inr ⟨h1, ?_⟩
      obtain ⟨e, he, rfl⟩ := zBit_in h1
      by_cases h2 : mWi y 0 (nI L - 1) = 0
      · exact h2
      · obtain ⟨l, hl, rfl⟩ := mWi_in (by omega) h2
        exfalso
        have e1 : zPl x (nI e) (nI l) = nI (6 * e + l) := by
          unfold zPl
          have e2 : nI e * 6 + nI l = nI (6 * e + l) := by rw [show (6 : Int32) = nI 6 from rfl, pk_mul, nI_add, Nat.mul_comm]
          rw [if_neg (nI_pos (by omega)), show (1 : Int32) = nI 1 from rfl, if_neg (nI_nlt (by omega) (by decide)), if_neg (nI_pos (by omega)), hx, if_pos (nI_lt hl (by omega)), e2, show (12 : Int32) = nI 12 from rfl, if_neg (nI_ge (by omega) (by decide))]
        exact nI_n4 (show 6 * e + l < 2 ^ 31 by omega) (e1.symm.trans h)
  · right
    obtain ⟨e, l, he, hl, rfl, rfl, g⟩ := zPl_in hx hL h
    refine ⟨e, l, he, hl, rfl, rfl, g, zBit_nI he, ?_⟩
    rw [mWi_yes hl (by omega)]; decide
theorem frames_eq {x m : Sg} (h : RR x m) (a y : Int32) : xFrames x a y = mFrames m a y := by
  obtain ⟨L, T, t, nx, u, ⟨hL, ht, hm, hN⟩, -, -, hW⟩ := h
  unfold xFrames mFrames
  rcases zPl_dec hN.2.1.1 hm hL a y with ⟨g1, g2 | ⟨g2, g3⟩⟩ | ⟨e, l, he, hl, rfl, rfl, g1, g2, g3⟩
  · rw [if_pos g1, if_pos g2]
  · rw [if_pos g1, if_neg g2, if_pos g3]
  · rw [if_neg (by rw [g1]; exact nI_n4 (by omega)), if_neg g2, if_neg g3, g1, cl_nI (by omega), cl_nI (by omega), nI_clamp (by omega)]
    exact hW.1 _ (by omega)
theorem up_eq {x m : Sg} {L t : Nat} {wt dr : Int32} (hL : L ≤ 6) (hN : NR x 0 (m kNow) L wt dr t) : eUp x 0 0 = mUp m L := by
  unfold eUp mUp
  have h1 : ∀ l, l < L → b01 (x (5, 0, 0, l) 0) = m kNow (4 + l) := fun l hl => (hN.2.2.1 0 l (by decide) hl).1.1
  rw [cnt_bool (d := 6) (P := fun i => decide (¬ b01 (x (5, 0, 0, i) 0) = 0)) (fun j hj => by by_cases q : b01 (x (5, 0, 0, j) 0) = 0 <;> simp [q])]
  rw [show (6 : Nat) = L + (6 - L) by omega, nc_cut (6 - L) (fun j g1 g2 => by rw [(hN.2.2.2.1 0 j (by decide) g1 (by omega)).1.1]; rfl)]
  rw [cnt_bool (d := L) (P := fun i => decide (¬ b01 (x (5, 0, 0, i) 0) = 0)) (fun j hj => by
    rw [← h1 j hj]
    rcases b01_or (x (5, 0, 0, j) 0) with q | q <;> rw [q] <;> rfl)]
theorem mut_eq {x m : Sg} {L t : Nat} {wt dr : Int32} (hL : L ≤ 6) (hN : NR x 0 (m kNow) L wt dr t) {e : Nat} (he : e < 2) : eMut x 0 e = mMut m e L := by
  unfold eMut mMut
  have h1 : ∀ l, l < L → b01 (x (5, 0, e, l) 1) = m kNow (pl e l + 2) := fun l hl => (hN.2.2.1 e l he hl).1.2.1
  rw [cnt_bool (d := 6) (P := fun i => decide (¬ b01 (x (5, 0, e, i) 1) = 0)) (fun j hj => by by_cases q : b01 (x (5, 0, e, j) 1) = 0 <;> simp [q])]
  rw [show (6 : Nat) = L + (6 - L) by omega, nc_cut (6 - L) (fun j g1 g2 => by rw [(hN.2.2.2.1 e j he g1 (by omega)).1.2.1]; rfl)]
  rw [cnt_bool (d := L) (P := fun i => decide (¬ b01 (x (5, 0, e, i) 1) = 0)) (fun j hj => by
    rw [← h1 j hj]
    rcases b01_or (x (5, 0, e, j) 1) with q | q <;> rw [q] <;> rfl)]
theorem count_eq {x m : Sg} (h : RR x m) {L : Nat} (hm : m kM 0 = nI L) (hL : L ≤ 6) (w : Int32) : xCount x w = mCount m L w := by
  obtain ⟨L', T, t, nx, u, ⟨hL', ht, hm', hN⟩, ⟨t1, t2, -, -⟩, ⟨⟨-, -, a3, a4, a5⟩, -⟩, -⟩ := h
  obtain rfl : L = L' := (nI_eq (by omega) (by omega)).mp (hm.symm.trans hm')
  obtain ⟨hE, ⟨c2, c4, c5, c6, ca3, c3, -⟩, -⟩ := id hN
  unfold xCount mCount nSet
  rw [up_eq hL hN, c2, c4, c5, c6, c3, ca3, hm, a4, a5, t1, t2, (hE 0 (by decide)).2, (hE 1 (by decide)).2]
  rfl
theorem frame_eq {x m : Sg} (h : RR x m) (a y : Int32) : (xFrame x a y).1 = (mFrame m a y).1 ∧ RR (xFrame x a y).2 (mFrame m a y).2 := by
  obtain ⟨L, T, t, nx, u, hN0, hT, hH, hW⟩ := id h
  obtain ⟨hL, ht, hm, hN⟩ := id hN0
  rcases flow_dec a y with ⟨g1, g2 | ⟨g2, g3⟩⟩ | ⟨e, f, he, hf, rfl, rfl, g1, g2, g3⟩
  · have e1 : xFrame x a y = (-1, x) := by unfold xFrame; rw [g1]
    have e2 : mFrame m a y = (-1, m) := by unfold mFrame; rw [if_pos g2]
    rw [e1, e2]; exact ⟨rfl, h⟩
  · have e1 : xFrame x a y = (-1, x) := by unfold xFrame; rw [g1]
    have e2 : mFrame m a y = (-1, m) := by unfold mFrame; rw [if_neg g2, if_pos g3]
    rw [e1, e2]; exact ⟨rfl, h⟩
  · obtain ⟨f1, f2, f3⟩ := hN.2.2.2.2 e f he hf
    have q1 : m kNow (10 + 2 * (8 * e + f)) = x (1, 0, e, f) 0 := f1.symm
    have q2 : m kNow (10 + 2 * (8 * e + f) + 1) = x (1, 0, e, f) 1 := f2.symm
    have f3' : x (1, 0, e, f) 0 = -4 ∨ ∃ j, j < 6 ∧ x (1, 0, e, f) 0 = nI j := by rw [f1]; exact f3
    have e1 : xFrame x (nI e) (nI f) = if x (1, 0, e, f) 1 ≤ 0 then (match nPort x 0 (nI e) (x (1, 0, e, f) 0) with
      | none => (-4, x)
      | some q => if x q 7 = 5 then (if zPl x (nI e) (x (1, 0, e, f) 0) = -4 then (-4, x) else (x (1, 0, e, f) 0, up2 x (9, 1, 0, 0) (zPl x (nI e) (x (1, 0, e, f) 0)).toNatClampNeg (x (9, 1, 0, 0) (zPl x (nI e) (x (1, 0, e, f) 0)).toNatClampNeg + 1))) else (-4, x)) else (-2, x) := by unfold xFrame; rw [g1]; rfl
    have e2 : mFrame m (nI e) (nI f) = if x (1, 0, e, f) 1 ≤ 0 then (if x (1, 0, e, f) 0 = -4 then (-4, m) else if mSnd m e (cl (x (1, 0, e, f) 0)) = 0 then (-4, m)
      else (x (1, 0, e, f) 0, up2 m (9, 5, 0, 0) (6 * e + cl (x (1, 0, e, f) 0)) (m (9, 5, 0, 0) (6 * e + cl (x (1, 0, e, f) 0)) + 1))) else (-2, m) := by
      unfold mFrame; rw [if_neg g2, if_neg g3, cl_nI (by omega), cl_nI (by omega), q1, q2]
    rw [e1, e2]
    by_cases hh : x (1, 0, e, f) 1 ≤ 0
    · rw [if_pos hh, if_pos hh]
      rcases f3' with k1 | ⟨j, hj, k1⟩
      · rw [k1, if_pos rfl]
        have : nPort x 0 (nI e) (-4) = none := by
          unfold nPort; rw [eOf_nI he]
          show (if (-4 : Int32) < x (4, 0, 0, 0) 2 then (eAt 6 (-4)).map _ else none) = none
          rw [show eAt 6 (-4) = none by decide]; split <;> rfl
        rw [this]; exact ⟨rfl, h⟩
      · rw [k1, if_neg (nI_n4 (by omega)), cl_nI (by omega)]
        by_cases hjL : j < L
        · rw [nPort_ok (eOf_nI he) (by rw [hN.2.1.1]; exact nI_lt hjL (by omega)) (eAt_nI (by decide) (by omega))]
          have o5 : x (5, 0, e, j) 7 = m kNow (pl e j + 14) := (hN.2.2.1 e j he hjL).1.2.2.2.2.1
          dsimp only
          by_cases h5 : x (5, 0, e, j) 7 = 5
          · have hz : zPl x (nI e) (nI j) = nI (6 * e + j) := by
              rcases zPl_dec hN.2.1.1 hm hL (nI e) (nI j) with ⟨-, k2 | ⟨-, k3⟩⟩ | ⟨e', l', he', hl', k4, k5, k6, -⟩
              · exact absurd k2 (zBit_nI he)
              · rw [hm, mWi_yes hjL (by omega)] at k3; exact absurd k3 (by decide)
              · rw [k6, (nI_eq (by omega) (by omega)).mp k4, (nI_eq (by omega) (by omega)).mp k5]
            rw [if_pos h5, if_neg (show ¬ mSnd m e j = 0 from fun q => (mSnd_iff.mp q) (by rw [← o5]; exact h5)), hz, if_neg (nI_n4 (by omega)), nI_clamp (by omega)]
            dsimp only
            refine ⟨rfl, L, T, t, nx, u, NW_congr hN0 (fun k hk => up2_nk _ _ _ _ (fun q => by have := hk.2; rw [q] at this; simp at this)) ⟨fun j _ => up2_o (fun q => by cases q.1), fun j _ => up2_o (fun q => by cases q.1)⟩, ⟨?_, ?_, hT.2.2.1, fun i hi => ?_⟩, ⟨⟨hH.1.1, hH.1.2.1, ?_, ?_, ?_⟩, ?_⟩, fun i hi => ?_, fun n e' hn he' => ?_⟩
            · rw [up2_o (fun q => by cases q.1)]; exact hT.1
            · rw [up2_o (fun q => by cases q.1)]; exact hT.2.1
            · rw [up2_o (fun q => by cases q.1), up2_o (fun q => by cases q.1)]; exact hT.2.2.2 i hi
            · rw [up2_o (fun q => by cases q.1)]; exact hH.1.2.2.1
            · rw [up2_o (fun q => by cases q.1)]; exact hH.1.2.2.2.1
            · rw [up2_o (fun q => by cases q.1)]; exact hH.1.2.2.2.2
            · exact HN_congr hL hH.1.2.1 hH.2 (fun n _ _ k hk => up2_nk _ _ _ _ (fun q => by have := hk.2; rw [q] at this; simp at this)) (fun j => up2_o (fun q => by cases q.1)) (fun j _ => up2_o (fun q => by cases q.1))
            · by_cases hi2 : i = 6 * e + j
              · rw [hi2, up2_at, up2_at, hW.1 _ (by omega)]
              · rw [up2_ne _ _ _ _ hi2, up2_ne _ _ _ _ hi2]; exact hW.1 i hi
            · rw [up2_o (fun q => by cases q.1)]; exact hW.2 n e' hn he'
          · rw [if_neg h5, if_pos (mSnd_iff.mpr (fun q => h5 (by rw [o5]; exact q)))]
            exact ⟨rfl, h⟩
        · have : nPort x 0 (nI e) (nI j) = none := by
            unfold nPort; rw [eOf_nI he]
            show (if nI j < x (4, 0, 0, 0) 2 then _ else none) = none
            rw [hN.2.1.1, if_neg (nI_nlt (by omega) (by omega))]
          have hd := (hN.2.2.2.1 e j he (by omega) hj).2
          rw [this, if_pos (mSnd_iff.mpr (fun q => by rw [hd] at q; exact absurd q (by decide)))]
          exact ⟨rfl, h⟩
    · rw [if_neg hh, if_neg hh]; exact ⟨rfl, h⟩
theorem frame_x (x : Sg) (a y : Int32) : xF x (xFrame x a y).2 := by
  have h9 : ¬ yk (9, 1, 0, 0) := by simp [yk]
  unfold xFrame
  (repeat' split) <;> first | exact .rf x | exact .up h9 (.rf x)
theorem frame_m (m : Sg) (a y : Int32) : mF m (mFrame m a y).2 := by
  unfold mFrame
  (repeat' split) <;> first | exact .rf m | exact .up (yk_9 (by decide)) (.rf m)
theorem RR_okF {x m : Sg} (h : RR x m) : okF m := by
  obtain ⟨L, T, t, nx, u, ⟨hL, ht, hm, hN⟩, -⟩ := h
  intro e f he hf
  exact (hN.2.2.2.2 e f he hf).2.2
