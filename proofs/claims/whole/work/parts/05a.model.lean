/-! WHAT THE REFERENCE'S METHODS DO, as functions of the ints of the world: part 1, what a tick needs. -/
abbrev kM : Ky := (8, 0, 0, 0)
abbrev kNow : Ky := (9, 2, 0, 0)
theorem ixc (n : Nat) : (OfNat.ofNat n : Int32) = nI n := rfl
theorem ixA {x y : Int32} {a b : Nat} (hx : x = nI a) (hy : y = nI b) : x + y = nI (a + b) := by rw [hx, hy]; exact nI_add a b
theorem ixM {x y : Int32} {a b : Nat} (hx : x = nI a) (hy : y = nI b) : x * y = nI (a * b) := by rw [hx, hy]; exact pk_mul a b
theorem ixS {x y : Int32} {a b : Nat} (hx : x = nI a) (hy : y = nI b) (h : b ≤ a) : x - y = nI (a - b) := by rw [hx, hy]; exact pk_sub h
theorem ixD {x y : Int32} {a b : Nat} (hx : x = nI a) (hy : y = nI b) (ha : a < 2 ^ 31) (h0 : 0 < b) (hb : b < 2 ^ 31) : x / y = nI (a / b) := by rw [hx, hy]; exact pk_div ha h0 hb
theorem ixR {x y : Int32} {a b : Nat} (hx : x = nI a) (hy : y = nI b) (ha : a < 2 ^ 31) (h0 : 0 < b) (hb : b < 2 ^ 31) : x - x / y * y = nI (a % b) := by rw [hx, hy]; exact pk_rem ha h0 hb
theorem lge {x : Int32} {L i : Nat} (h : x = nI L) (hi : i = L) (hL : L < 2 ^ 31) : x ≤ nI i := by rw [h, hi]; exact nI_le (Nat.le_refl _) hL
theorem lnge {x : Int32} {L i : Nat} (h : x = nI L) (hi : i < L) (hL : L < 2 ^ 31) : ¬ x ≤ nI i := by rw [h]; exact nI_ge hi hL
def pl (e l : Nat) : Nat := 42 + 16 * (6 * e + l)
def mWi (v lo hi : Int32) : Int32 := if v < lo then 0 else if hi < v then 0 else 1
theorem mWi_or (v lo hi : Int32) : mWi v lo hi = 0 ∨ mWi v lo hi = 1 := by unfold mWi; (repeat' split) <;> simp
def mCp (P q : Nat) : Nat → Nat → Sg → Sg
  | 0, _, σ => σ
  | d + 1, k, σ => mCp P q d (k + 1) (up2 σ kNow (P + 9 + k) (σ kNow (q + 4 + k)))
def mAge1 (σ : Sg) (e l : Nat) : Sg := up2 σ kNow (pl e l + 8) (σ kNow (pl e l + 8) + 1)
def mComes (σ : Sg) (e l : Nat) : Sg :=
  if σ kNow (4 + l) = 0 then up2 σ kNow (pl e l + 8) (-4)
  else if σ kNow (pl (1 - e) l + 3) = 1 then up2 (mCp (pl e l) (pl (1 - e) l) 4 0 σ) kNow (pl e l + 8) 0
  else if σ kNow (pl e l + 8) = -4 then σ
  else if mAge1 σ e l kNow (pl e l + 8) = 3 then up2 (mAge1 σ e l) kNow (pl e l + 8) (-4) else mAge1 σ e l
def mOpen (σ : Sg) (e l : Nat) : Int32 := if σ kNow (pl e l + 8) = -4 then 0 else 1
def mDecR (σ : Sg) (e : Nat) : Nat → Nat → Int32
  | 0, _ => 1
  | d + 1, i => if mOpen σ e i = 0 then mDecR σ e d (i + 1)
    else if σ kNow (0 + e) < σ kNow (pl e i + 11) then 1 else if σ kNow (0 + e) = σ kNow (pl e i + 11) then (if nI e = 0 then 1 else 0) else 0
def mDec (σ : Sg) (e L : Nat) : Int32 := mDecR σ e L 0
def mPair (σ : Sg) (e l m : Nat) : Int32 := if σ kNow (pl e l + 0) = σ kNow (pl e m + 0) ∧ σ kNow (pl e l + 9) = σ kNow (pl e m + 9) then 1 else 0
def mBef (σ : Sg) (e l b i : Nat) : Int32 := if mOpen σ e i = 0 then 0 else if σ kNow (pl e i + b) < σ kNow (pl e l + b) then 1 else if σ kNow (pl e i + b) = σ kNow (pl e l + b) then (if nI l ≤ nI i then 0 else 1) else 0
def mAh1 (σ : Sg) (e l b : Nat) (any : Int32) (i : Nat) : Int32 := if mBef σ e l b i = 0 then 0 else if any = 0 then (if mPair σ e l i = 0 then 0 else 1) else 1
def mAh (σ : Sg) (e l b : Nat) (any : Int32) (L : Nat) : Int32 := cnt (mAh1 σ e l b any) L 0 0
def fo (r : Option Nat) : Int32 := match r with
  | none => -4
  | some f => nI f
def mFstR (σ : Sg) (e b L : Nat) : Nat → Nat → Option Nat → Option Nat
  | 0, _, r => r
  | d + 1, i, r => mFstR σ e b L d (i + 1) (if mOpen σ e i = 0 then r else if mAh σ e i b 1 L = 0 then some i else r)
def mFst (σ : Sg) (e b L : Nat) : Option Nat := mFstR σ e b L L 0 none
def mChs (σ : Sg) (e b L f i : Nat) : Int32 := if mOpen σ e i = 0 then 0 else if mPair σ e i f = 0 then 0 else if σ kNow 2 ≤ mAh σ e i b 0 L then 0 else 1
def mChR (e b L f : Nat) : Nat → Nat → Sg → Sg
  | 0, _, σ => σ
  | d + 1, i, σ => mChR e b L f d (i + 1) (up2 σ (10, 0, 0, 0) i (mChs σ e b L f i))
def mBy (σ : Sg) (e L : Nat) : Nat := if mDec σ e L = 0 then 10 else 1
def mCh (σ : Sg) (e L : Nat) : Sg := mChR e (mBy σ e L) L ((mFst σ e (mBy σ e L) L).getD 0) L 0 σ
def mHow (σ : Sg) (P l : Nat) : Int32 :=
  if σ kNow (4 + l) = 0 then 0 else if σ kNow (P + 8) = -4 then 1 else if σ kNow (P + 13) = -4 then 2
  else if σ kM 1 ≤ σ kNow (P + 13) then (if σ kNow (P + 12) = 0 then 4 else 5) else 3
def mBh1 (σ : Sg) (e i : Nat) : Sg := up2 σ kNow (pl e i + 13) (if σ (10, 0, 0, 0) i = 0 then -4 else if σ kNow (pl e i + 13) = -4 then 0 else σ kNow (pl e i + 13) + 1)
def mBh2 (σ : Sg) (e i : Nat) : Sg := up2 σ kNow (pl e i + 14) (mHow σ (pl e i) i)
def mBh3 (σ : Sg) (e i : Nat) (was : Int32) : Sg := up2 σ kNow (pl e i + 15) (σ kNow (pl e i + 15) + (if σ kNow (pl e i + 14) = 5 then (if was = 5 then 0 else 1) else 0))
def mBh (σ : Sg) (e i : Nat) : Sg := mBh3 (mBh2 (mBh1 σ e i) e i) e i (mBh1 σ e i kNow (pl e i + 14))
def mBhR (e : Nat) : Nat → Nat → Sg → Sg
  | 0, _, σ => σ
  | d + 1, i, σ => mBhR e d (i + 1) (mBh σ e i)
def mBec (σ : Sg) (e L : Nat) : Sg := mBhR e L 0 (mCh σ e L)
def mSd1 (σ : Sg) (e l : Nat) : Sg := up2 σ kNow (pl e l + 3) (if σ kNow (4 + l) = 1 then (if σ kNow (pl e l + 2) = 0 then 1 else 0) else 0)
def mSd2 (σ : Sg) (e l : Nat) : Sg := up2 σ kNow (pl e l + 4) (σ kNow (pl e l + 0))
def mSd3 (σ : Sg) (e l : Nat) : Sg := up2 σ kNow (pl e l + 5) (σ kNow (pl e l + 1))
def mSd4 (σ : Sg) (e l : Nat) : Sg := up2 σ kNow (pl e l + 6) (σ kNow (0 + e))
def mSd5 (σ : Sg) (e l : Nat) : Sg := up2 σ kNow (pl e l + 7) (if σ kNow (pl e l + 14) < 4 then 0 else 1)
def mSends (σ : Sg) (e l : Nat) : Sg := mSd5 (mSd4 (mSd3 (mSd2 (mSd1 σ e l) e l) e l) e l) e l
def mSnd (σ : Sg) (e l : Nat) : Int32 := if σ kNow (pl e l + 14) = 5 then 1 else 0
def mCntS (σ : Sg) (e L : Nat) : Int32 := cnt (fun i => if mSnd σ e i = 0 then 0 else 1) L 0 0
def mWantR (σ : Sg) (e : Nat) : Nat → Nat → Int32 → Int32
  | 0, _, _ => -4
  | d + 1, i, a => if mSnd σ e i = 0 then mWantR σ e d (i + 1) a else if a = 0 then nI i else mWantR σ e d (i + 1) (a + -1)
def mLeft (f n : Int32) : Int32 := if n = 0 then 0 else (7 * f + 3) - (7 * f + 3) / n * n
def mWant (σ : Sg) (e L : Nat) (f : Int32) : Int32 := mWantR σ e L 0 (mLeft f (mCntS σ e L))
def fp (e f : Nat) : Nat := 10 + 2 * (8 * e + f)
def mHl (σ : Sg) (P : Nat) : Sg := up2 σ kNow (P + 1) (σ kNow (P + 1) - 1)
def mDeal (σ : Sg) (P : Nat) (to : Int32) : Sg :=
  if σ kNow (P + 1) ≤ 0 then (if to = σ kNow P then σ else if σ kNow P = -4 ∨ to = -4 ∨ σ kM 2 = 0 then up2 σ kNow P to else up2 σ kNow (P + 1) (σ kM 2))
  else up2 (mHl σ P) kNow P (if mHl σ P kNow (P + 1) = 0 then to else mHl σ P kNow P)
def mDeals (σ : Sg) (e f L : Nat) : Sg := mDeal σ (fp e f) (mWant σ e L (nI f))
def mT1 : Nat → Nat → Sg → Sg
  | 0, _, σ => σ
  | d + 1, k, σ => mT1 d (k + 1) (mComes σ (k % 2) (k / 2))
def mT2 : Nat → Nat → Sg → Sg
  | 0, _, σ => σ
  | d + 1, k, σ => mT2 d (k + 1) (mSends σ (k % 2) (k / 2))
def mT3 (L : Nat) : Nat → Nat → Sg → Sg
  | 0, _, σ => σ
  | d + 1, k, σ => mT3 L d (k + 1) (mDeals σ (k / 8) (k % 8) L)
def mTick0 (σ : Sg) : Sg := up2 σ kNow 3 (σ kNow 3 + 1)
def mTicks (σ : Sg) (L : Nat) : Sg := mT3 L 16 0 (mT2 (2 * L) 0 (mBec (mBec (mT1 (2 * L) 0 (mTick0 σ)) 0 L) 1 L))
/-! the rows that a tick doesn't change -/
def okk (k : Ky) : Prop := k ≠ kNow ∧ k ≠ (10, 0, 0, 0)
def mag (σ σ' : Sg) : Prop := ∀ k, okk k → σ' k = σ k
theorem mag.rf (σ : Sg) : mag σ σ := fun _ _ => rfl
theorem mag.n {σ σ' : Sg} {j : Nat} {v : Int32} (h : mag σ σ') : mag σ (up2 σ' kNow j v) := fun k hk => (up2_nk _ _ _ _ hk.1).trans (h k hk)
theorem mag.c {σ σ' : Sg} {j : Nat} {v : Int32} (h : mag σ σ') : mag σ (up2 σ' (10, 0, 0, 0) j v) := fun k hk => (up2_nk _ _ _ _ hk.2).trans (h k hk)
theorem mag_cp {P q : Nat} {σ : Sg} : ∀ (d k : Nat) {σ' : Sg}, mag σ σ' → mag σ (mCp P q d k σ')
  | 0, _, _, h => h
  | d + 1, k, _, h => mag_cp d (k + 1) h.n
theorem mag_comes {σ σ' : Sg} {e l : Nat} (h : mag σ σ') : mag σ (mComes σ' e l) := by
  unfold mComes
  (repeat' split) <;> first | exact h | exact h.n | exact h.n.n | exact (mag_cp 4 0 h).n
theorem mag_chR {e b L f : Nat} {σ : Sg} : ∀ (d i : Nat) {σ' : Sg}, mag σ σ' → mag σ (mChR e b L f d i σ')
  | 0, _, _, h => h
  | d + 1, i, _, h => mag_chR d (i + 1) h.c
theorem mag_bhR {e : Nat} {σ : Sg} : ∀ (d i : Nat) {σ' : Sg}, mag σ σ' → mag σ (mBhR e d i σ')
  | 0, _, _, h => h
  | d + 1, i, _, h => mag_bhR d (i + 1) (h.n.n.n)
theorem mag_bec {e L : Nat} {σ σ' : Sg} (h : mag σ σ') : mag σ (mBec σ' e L) := mag_bhR L 0 (mag_chR L 0 h)
theorem mag_sends {e l : Nat} {σ σ' : Sg} (h : mag σ σ') : mag σ (mSends σ' e l) := h.n.n.n.n.n
theorem mag_deals {e f L : Nat} {σ σ' : Sg} (h : mag σ σ') : mag σ (mDeals σ' e f L) := by
  unfold mDeals mDeal
  (repeat' split) <;> first | exact h | exact h.n | exact h.n.n
theorem mag_t1 {σ : Sg} : ∀ (d k : Nat) {σ' : Sg}, mag σ σ' → mag σ (mT1 d k σ')
  | 0, _, _, h => h
  | d + 1, k, _, h => mag_t1 d (k + 1) (mag_comes h)
theorem mag_t2 {σ : Sg} : ∀ (d k : Nat) {σ' : Sg}, mag σ σ' → mag σ (mT2 d k σ')
  | 0, _, _, h => h
  | d + 1, k, _, h => mag_t2 d (k + 1) (mag_sends h)
theorem mag_t3 {σ : Sg} {L : Nat} : ∀ (d k : Nat) {σ' : Sg}, mag σ σ' → mag σ (mT3 L d k σ')
  | 0, _, _, h => h
  | d + 1, k, _, h => mag_t3 d (k + 1) (mag_deals h)
theorem mag_ticks {σ σ' : Sg} {L : Nat} (h : mag σ σ') : mag σ (mTicks σ' L) := mag_t3 16 0 (mag_t2 _ 0 (mag_bec (mag_bec (mag_t1 _ 0 h.n))))
theorem okM : okk kM := ⟨by decide, by decide⟩
theorem mag.m {σ σ' : Sg} (h : mag σ σ') (j : Nat) {v : Int32} (hv : σ kM j = v) : σ' kM j = v := by rw [h kM okM]; exact hv
set_option maxHeartbeats 1000000 in
set_option maxRecDepth 100000 in
theorem ct_X8_within {la : Launch} {E : Ev} (hE : okE E) (hX : yin E) {σ : Sg} {v lo hi : Int32} : CI la yX8_within wsX8_within 0 0 E rh0 [.int v, .int lo, .int hi] σ (mWi v lo hi) σ := by
  refine met_of (lv := [some _, some _, some _]) RX8 (by decide) rfl rfl rfl hE (ok3 rfl rfl rfl) (Nat.le_of_ble_eq_true rfl) (fun p ev s m args below meth c Q cx hlk hr hQ => ?_)
  refine A_iload_n (q := 1) cx dX8_within_0 rfl rfl ?_
  refine A_iload_n (q := 2) cx dX8_within_1 rfl rfl ?_
  refine A_icmp_lt (tgt := 14) (q := 5) cx dX8_within_2 (by decide) rfl (fun c_2 => ?_) (fun c_2 => ?_)
  · refine A_iconst (v := 0) (q := 15) cx dX8_within_14 (by decide) rfl ?_
    exact A_zret cx hlk hr hQ dX8_within_15 (by first | exact Or.inl rfl | exact Or.inr rfl | exact b01_or _ | assumption) (by first | (simp only [mWi, *, if_true, if_false, ite_true, ite_false, true_or, or_true, false_or, or_false, and_true, true_and, and_false, false_and, and_self, or_self, not_true_eq_false, not_false_eq_true, ne_eq, reduceIte, decide_true, decide_false, Bool.and_true, Bool.true_and, Bool.and_false, Bool.false_and]; done) | (simp [mWi, *]; done) | (simp_all [mWi]; done)) rfl
  · refine A_iload_n (q := 6) cx dX8_within_5 rfl rfl ?_
    refine A_iload_n (q := 7) cx dX8_within_6 rfl rfl ?_
    refine A_icmp_gt (tgt := 14) (q := 10) cx dX8_within_7 (by decide) rfl (fun c_7 => ?_) (fun c_7 => ?_)
    · refine A_iconst (v := 0) (q := 15) cx dX8_within_14 (by decide) rfl ?_
      exact A_zret cx hlk hr hQ dX8_within_15 (by first | exact Or.inl rfl | exact Or.inr rfl | exact b01_or _ | assumption) (by first | (simp only [mWi, *, if_true, if_false, ite_true, ite_false, true_or, or_true, false_or, or_false, and_true, true_and, and_false, false_and, and_self, or_self, not_true_eq_false, not_false_eq_true, ne_eq, reduceIte, decide_true, decide_false, Bool.and_true, Bool.true_and, Bool.and_false, Bool.false_and]; done) | (simp [mWi, *]; done) | (simp_all [mWi]; done)) rfl
    · refine A_iconst (v := 1) (q := 11) cx dX8_within_10 (by decide) rfl ?_
      refine A_goto (q := 15) cx dX8_within_11 (by decide) ?_
      exact A_zret cx hlk hr hQ dX8_within_15 (by first | exact Or.inl rfl | exact Or.inr rfl | exact b01_or _ | assumption) (by first | (simp only [mWi, *, if_true, if_false, ite_true, ite_false, true_or, or_true, false_or, or_false, and_true, true_and, and_false, false_and, and_self, or_self, not_true_eq_false, not_false_eq_true, ne_eq, reduceIte, decide_true, decide_false, Bool.and_true, Bool.true_and, Bool.and_false, Bool.false_and]; done) | (simp [mWi, *]; done) | (simp_all [mWi]; done)) rfl
set_option maxHeartbeats 1000000 in
set_option maxRecDepth 100000 in
theorem ct_X8_place {la : Launch} {E : Ev} (hE : okE E) (hX : yin E) {σ : Sg} {e l : Nat} : CI la yX8_place wsX8_place 0 0 E rh0 [.int (nI e), .int (nI l)] σ (nI (pl e l)) σ := by
  refine met_of (lv := [some _, some _]) RX8 (by decide) rfl rfl rfl hE (ok2 rfl rfl) (Nat.le_of_ble_eq_true rfl) (fun p ev s m args below meth c Q cx hlk hr hQ => ?_)
  refine A_bipush (v := 42) (q := 2) cx dX8_place_0 (by decide) rfl ?_
  refine A_bipush (v := 16) (q := 4) cx dX8_place_2 (by decide) rfl ?_
  refine A_bipush (v := 6) (q := 6) cx dX8_place_4 (by decide) rfl ?_
  refine A_iload_n (q := 7) cx dX8_place_6 rfl rfl ?_
  refine A_imul (q := 8) cx dX8_place_7 rfl ?_
  refine A_iload_n (q := 9) cx dX8_place_8 rfl rfl ?_
  refine A_iadd (q := 10) cx dX8_place_9 rfl ?_
  refine A_imul (q := 11) cx dX8_place_10 rfl ?_
  refine A_iadd (q := 12) cx dX8_place_11 rfl ?_
  exact A_iret cx hlk hr hQ dX8_place_12 (ixA (ixc 42) (ixM (ixc 16) (ixA (ixM (ixc 6) rfl) rfl))) rfl
set_option maxHeartbeats 1000000 in
set_option maxRecDepth 100000 in
theorem ct_X8_isEnd {la : Launch} {E : Ev} (hE : okE E) (hX : yin E) {σ : Sg} {v : Int32} : CI la yX8_isEnd wsX8_isEnd 0 0 E rh0 [.int v] σ (zBit v) σ := by
  refine met_of (lv := [some _]) RX8 (by decide) rfl rfl rfl hE (ok1 rfl) (Nat.le_of_ble_eq_true rfl) (fun p ev s m args below meth c Q cx hlk hr hQ => ?_)
  refine A_iload_n (q := 1) cx dX8_isEnd_0 rfl rfl ?_
  refine A_if_eq (tgt := 9) (q := 4) cx dX8_isEnd_1 (by decide) rfl (fun c_1 => ?_) (fun c_1 => ?_)
  · refine A_iconst (v := 1) (q := 10) cx dX8_isEnd_9 (by decide) rfl ?_
    refine A_goto (q := 14) cx dX8_isEnd_10 (by decide) ?_
    exact A_zret cx hlk hr hQ dX8_isEnd_14 (by first | exact Or.inl rfl | exact Or.inr rfl | exact b01_or _ | assumption) (by first | (simp only [zBit, *, if_true, if_false, ite_true, ite_false, true_or, or_true, false_or, or_false, and_true, true_and, and_false, false_and, and_self, or_self, not_true_eq_false, not_false_eq_true, ne_eq, reduceIte, decide_true, decide_false, Bool.and_true, Bool.true_and, Bool.and_false, Bool.false_and]; done) | (simp [zBit, *]; done) | (simp_all [zBit]; done)) rfl
  · refine A_iload_n (q := 5) cx dX8_isEnd_4 rfl rfl ?_
    refine A_iconst (v := 1) (q := 6) cx dX8_isEnd_5 (by decide) rfl ?_
    refine A_icmp_ne (tgt := 13) (q := 9) cx dX8_isEnd_6 (by decide) rfl (fun c_6 => ?_) (fun c_6 => ?_)
    · refine A_iconst (v := 0) (q := 14) cx dX8_isEnd_13 (by decide) rfl ?_
      exact A_zret cx hlk hr hQ dX8_isEnd_14 (by first | exact Or.inl rfl | exact Or.inr rfl | exact b01_or _ | assumption) (by first | (simp only [zBit, *, if_true, if_false, ite_true, ite_false, true_or, or_true, false_or, or_false, and_true, true_and, and_false, false_and, and_self, or_self, not_true_eq_false, not_false_eq_true, ne_eq, reduceIte, decide_true, decide_false, Bool.and_true, Bool.true_and, Bool.and_false, Bool.false_and]; done) | (simp [zBit, *]; done) | (simp_all [zBit]; done)) rfl
    · refine A_iconst (v := 1) (q := 10) cx dX8_isEnd_9 (by decide) rfl ?_
      refine A_goto (q := 14) cx dX8_isEnd_10 (by decide) ?_
      exact A_zret cx hlk hr hQ dX8_isEnd_14 (by first | exact Or.inl rfl | exact Or.inr rfl | exact b01_or _ | assumption) (by first | (simp only [zBit, *, if_true, if_false, ite_true, ite_false, true_or, or_true, false_or, or_false, and_true, true_and, and_false, false_and, and_self, or_self, not_true_eq_false, not_false_eq_true, ne_eq, reduceIte, decide_true, decide_false, Bool.and_true, Bool.true_and, Bool.and_false, Bool.false_and]; done) | (simp [zBit, *]; done) | (simp_all [zBit]; done)) rfl
theorem wi_X8_isLink_X8 : ∀ w ∈ u_ws RX8 TX8 18, w ∈ wsX8_isLink := by decide +kernel
theorem wf_X8_isLink_83 : Cond.fieldLink RX8 83 (TX8 0).1 (TX8 0).2.1 (TX8 0).2.2.1 ∈ wsX8_isLink := by decide +kernel
set_option maxHeartbeats 1000000 in
set_option maxRecDepth 100000 in
theorem ct_X8_isLink {la : Launch} {E : Ev} (hE : okE E) (hX : yin E) {σ : Sg} {v : Int32} : CI la yX8_isLink wsX8_isLink 1 22 E rh0 [.ref (ad E (8, 0, 0, 0)), .int v] σ (mWi v 0 (σ (8, 0, 0, 0) 0 - 1)) σ := by
  refine met_of (lv := [some _, some _]) RX8 (by decide) rfl rfl rfl hE (ok2 rfl rfl) (Nat.le_of_ble_eq_true rfl) (fun p ev s m args below meth c Q cx hlk hr hQ => ?_)
  refine A_iload_n (q := 1) cx dX8_isLink_0 rfl rfl ?_
  refine A_iconst (v := 0) (q := 2) cx dX8_isLink_1 (by decide) rfl ?_
  refine A_aload_n (q := 3) cx dX8_isLink_2 rfl rfl rfl ?_
  refine gX8_0 (q := 6) cx wi_X8_isLink_X8 wf_X8_isLink_83 dX8_isLink_3 rfl (in8 hX) rfl ?_
  refine A_iconst (v := 1) (q := 7) cx dX8_isLink_6 (by decide) rfl ?_
  refine A_isub (q := 8) cx dX8_isLink_7 rfl ?_
  refine SI3 (q := 11) cx (ct_X8_within hE hX) (cwS 3 cx.1.2.2.2.2 gX8_isLink_X8_within rfl rfl rfl (by decide +kernel) ⟨Nat.le_of_ble_eq_true rfl, Nat.le_of_ble_eq_true rfl⟩) dX8_isLink_8 rfl (Nat.le_of_ble_eq_true rfl) ⟨Nat.zero_le _, Nat.zero_le _⟩ rfl ?_
  exact A_zret cx hlk hr hQ dX8_isLink_11 (mWi_or _ _ _) rfl rfl
set_option maxHeartbeats 1000000 in
set_option maxRecDepth 100000 in
theorem ct_X8_isFlow {la : Launch} {E : Ev} (hE : okE E) (hX : yin E) {σ : Sg} {v : Int32} : CI la yX8_isFlow wsX8_isFlow 1 22 E rh0 [.int v] σ (mWi v 0 7) σ := by
  refine met_of (lv := [some _]) RX8 (by decide) rfl rfl rfl hE (ok1 rfl) (Nat.le_of_ble_eq_true rfl) (fun p ev s m args below meth c Q cx hlk hr hQ => ?_)
  refine A_iload_n (q := 1) cx dX8_isFlow_0 rfl rfl ?_
  refine A_iconst (v := 0) (q := 2) cx dX8_isFlow_1 (by decide) rfl ?_
  refine A_bipush (v := 7) (q := 4) cx dX8_isFlow_2 (by decide) rfl ?_
  refine SI3 (q := 7) cx (ct_X8_within hE hX) (cwS 3 cx.1.2.2.2.2 gX8_isFlow_X8_within rfl rfl rfl (by decide +kernel) ⟨Nat.le_of_ble_eq_true rfl, Nat.le_of_ble_eq_true rfl⟩) dX8_isFlow_4 rfl (Nat.le_of_ble_eq_true rfl) ⟨Nat.zero_le _, Nat.zero_le _⟩ rfl ?_
  exact A_zret cx hlk hr hQ dX8_isFlow_7 (mWi_or _ _ _) rfl rfl
theorem wi_X8_knowsNothing_X8 : ∀ w ∈ u_ws RX8 TX8 18, w ∈ wsX8_knowsNothing := by decide +kernel
theorem wf_X8_knowsNothing_7 : Cond.fieldLink RX8 7 (TX8 3).1 (TX8 3).2.1 (TX8 3).2.2.1 ∈ wsX8_knowsNothing := by decide +kernel
set_option maxHeartbeats 1000000 in
set_option maxRecDepth 100000 in
theorem ct_X8_knowsNothing {la : Launch} {E : Ev} (hE : okE E) (hX : yin E) {σ : Sg} {P : Nat} (hP : P + 8 < 235 := by omega) : CV la yX8_knowsNothing wsX8_knowsNothing 0 0 E rh0 [.ref (ad E (8, 0, 0, 0)), .int (nI P)] σ (up2 σ (9, 2, 0, 0) (P + 8) (-4)) := by
  refine met_of (lv := [some _, some _]) RX8 (by decide) rfl rfl rfl hE (ok2 rfl rfl) (Nat.le_of_ble_eq_true rfl) (fun p ev s m args below meth c Q cx hlk hr hQ => ?_)
  refine A_aload_n (q := 1) cx dX8_knowsNothing_0 rfl rfl rfl ?_
  refine gX8_3 (q := 4) cx wi_X8_knowsNothing_X8 wf_X8_knowsNothing_7 dX8_knowsNothing_1 rfl (in8 hX) rfl rfl ?_
  refine A_iload_n (q := 5) cx dX8_knowsNothing_4 rfl rfl ?_
  refine A_bipush (v := 8) (q := 7) cx dX8_knowsNothing_5 (by decide) rfl ?_
  refine A_iadd (q := 8) cx dX8_knowsNothing_7 rfl ?_
  refine A_bipush (v := -4) (q := 10) cx dX8_knowsNothing_8 (by decide) rfl ?_
  refine A_iastore (q := 11) cx dX8_knowsNothing_10 rfl (in9 hX (by decide)) (ixA rfl (ixc 8)) (by show _ < 235; omega) rfl ?_
  exact A_vret cx hlk hr hQ dX8_knowsNothing_11 rfl
theorem wi_X8_comes_X8 : ∀ w ∈ u_ws RX8 TX8 18, w ∈ wsX8_comes := by decide +kernel
theorem wf_X8_comes_7 : Cond.fieldLink RX8 7 (TX8 3).1 (TX8 3).2.1 (TX8 3).2.2.1 ∈ wsX8_comes := by decide +kernel
set_option maxHeartbeats 1000000 in
set_option maxRecDepth 100000 in
theorem ct_X8_comes {la : Launch} {E : Ev} (hE : okE E) (hX : yin E) {σ0 : Sg} {e l : Nat} (hel : e < 2 ∧ l < 6 := by omega) : CV la yX8_comes wsX8_comes 1 21 E rh0 [.ref (ad E (8, 0, 0, 0)), .int (nI e), .int (nI l)] σ0 (mComes σ0 e l) := by
  refine met_of (lv := [some _, some _, some _, none, none, none]) RX8 (by decide) rfl rfl rfl hE (ok3 rfl rfl rfl) (Nat.le_of_ble_eq_true rfl) (fun p ev s m args below meth c Q cx hlk hr hQ => ?_)
  have l1 : ∀ (d i : Nat) (σ : Sg), i + d = 4 → up2 (mCp (pl e l) (pl (1 - e) l) d i σ) (9, 2, 0, 0) (pl e l + 8) 0 = mComes σ0 e l → AW p la ev (rmm 1 21) s m args below meth c 0 0 Q (AL E) E rh0 50 [some (.ref (ad E (8, 0, 0, 0))), some (.int (nI e)), some (.int (nI l)), some (.int (nI (pl e l))), some (.int (nI (pl (1 - e) l))), some (.int (nI i))] [] σ := by
    intro d
    induction d with
    | zero =>
      intro i σ  hi hF
      obtain rfl : i = 4 := by omega
      refine A_iload (q := 52) cx dX8_comes_50 rfl rfl ?_
      refine A_iconst (v := 4) (q := 53) cx dX8_comes_52 (by decide) rfl ?_
      refine A_icmp_ge (tgt := 86) (q := 56) cx dX8_comes_53 (by decide) rfl (fun c_53 => ?_) (fun c_53 => ?_)
      · refine A_aload_n (q := 87) cx dX8_comes_86 rfl rfl rfl ?_
        refine gX8_3 (q := 90) cx wi_X8_comes_X8 wf_X8_comes_7 dX8_comes_87 rfl (in8 hX) rfl rfl ?_
        refine A_iload_n (q := 91) cx dX8_comes_90 rfl rfl ?_
        refine A_bipush (v := 8) (q := 93) cx dX8_comes_91 (by decide) rfl ?_
        refine A_iadd (q := 94) cx dX8_comes_93 rfl ?_
        refine A_iconst (v := 0) (q := 95) cx dX8_comes_94 (by decide) rfl ?_
        refine A_iastore (q := 96) cx dX8_comes_95 rfl (in9 hX (by decide)) (ixA rfl (ixc 8)) (by show _ < 235; first | omega | (simp only [pl]; omega)) rfl ?_
        refine A_goto (q := 144) cx dX8_comes_96 (by decide) ?_
        exact A_vret cx hlk hr hQ dX8_comes_144 hF
      · exact absurd (by decide) c_53
    | succ d ih =>
      intro i σ  hi hF
      refine A_iload (q := 52) cx dX8_comes_50 rfl rfl ?_
      refine A_iconst (v := 4) (q := 53) cx dX8_comes_52 (by decide) rfl ?_
      refine A_icmp_ge (tgt := 86) (q := 56) cx dX8_comes_53 (by decide) rfl (fun c_53 => ?_) (fun c_53 => ?_)
      · exact absurd c_53 (not_ge (i := i) (b := 4) (by omega) (by decide))
      · refine A_aload_n (q := 57) cx dX8_comes_56 rfl rfl rfl ?_
        refine gX8_3 (q := 60) cx wi_X8_comes_X8 wf_X8_comes_7 dX8_comes_57 rfl (in8 hX) rfl rfl ?_
        refine A_iload_n (q := 61) cx dX8_comes_60 rfl rfl ?_
        refine A_bipush (v := 9) (q := 63) cx dX8_comes_61 (by decide) rfl ?_
        refine A_iadd (q := 64) cx dX8_comes_63 rfl ?_
        refine A_iload (q := 66) cx dX8_comes_64 rfl rfl ?_
        refine A_iadd (q := 67) cx dX8_comes_66 rfl ?_
        refine A_aload_n (q := 68) cx dX8_comes_67 rfl rfl rfl ?_
        refine gX8_3 (q := 71) cx wi_X8_comes_X8 wf_X8_comes_7 dX8_comes_68 rfl (in8 hX) rfl rfl ?_
        refine A_iload (q := 73) cx dX8_comes_71 rfl rfl ?_
        refine A_iconst (v := 4) (q := 74) cx dX8_comes_73 (by decide) rfl ?_
        refine A_iadd (q := 75) cx dX8_comes_74 rfl ?_
        refine A_iload (q := 77) cx dX8_comes_75 rfl rfl ?_
        refine A_iadd (q := 78) cx dX8_comes_77 rfl ?_
        refine A_iaload (q := 79) cx dX8_comes_78 rfl (in9 hX (by decide)) (ixA (ixA rfl (ixc 4)) rfl) (by show _ < 235; first | omega | (simp only [pl]; omega)) rfl ?_
        refine A_iastore (q := 80) cx dX8_comes_79 rfl (in9 hX (by decide)) (ixA (ixA rfl (ixc 9)) rfl) (by show _ < 235; first | omega | (simp only [pl]; omega)) rfl ?_
        refine A_iinc (lv' := [some _, some _, some _, some _, some _, some _]) (q := 83) cx dX8_comes_80 rfl (nI_1 i) rfl rfl ?_
        refine A_goto (q := 50) cx dX8_comes_83 (by decide) ?_
        exact ih (i + 1) _ (by omega) hF
  refine A_iload_n (q := 1) cx dX8_comes_0 rfl rfl ?_
  refine A_iload_n (q := 2) cx dX8_comes_1 rfl rfl ?_
  refine SI2 (q := 5) cx (ct_X8_place hE hX) (cwS 2 cx.1.2.2.2.2 gX8_comes_X8_place rfl rfl rfl (by decide +kernel) ⟨Nat.le_of_ble_eq_true rfl, Nat.le_of_ble_eq_true rfl⟩) dX8_comes_2 rfl (Nat.le_of_ble_eq_true rfl) ⟨Nat.zero_le _, Nat.zero_le _⟩ rfl ?_
  refine A_istore_n (lv' := [some _, some _, some _, some _, none, none]) (q := 6) cx dX8_comes_5 (Nat.le_of_ble_eq_true rfl) rfl rfl ?_
  refine A_iconst (v := 1) (q := 7) cx dX8_comes_6 (by decide) rfl ?_
  refine A_iload_n (q := 8) cx dX8_comes_7 rfl rfl ?_
  refine A_isub (q := 9) cx dX8_comes_8 rfl ?_
  refine A_iload_n (q := 10) cx dX8_comes_9 rfl rfl ?_
  refine SI2 (q := 13) cx (by have h := ct_X8_place (la := la) (e := 1 - e) (l := l) hE hX (σ := σ0); rw [← ixS (x := 1) (y := nI e) (ixc 1) rfl (by omega)] at h; exact h) (cwS 2 cx.1.2.2.2.2 gX8_comes_X8_place rfl rfl rfl (by decide +kernel) ⟨Nat.le_of_ble_eq_true rfl, Nat.le_of_ble_eq_true rfl⟩) dX8_comes_10 rfl (Nat.le_of_ble_eq_true rfl) ⟨Nat.zero_le _, Nat.zero_le _⟩ rfl ?_
  refine A_istore (lv' := [some _, some _, some _, some _, some _, none]) (q := 15) cx dX8_comes_13 (Nat.le_of_ble_eq_true rfl) rfl rfl ?_
  refine A_aload_n (q := 16) cx dX8_comes_15 rfl rfl rfl ?_
  refine gX8_3 (q := 19) cx wi_X8_comes_X8 wf_X8_comes_7 dX8_comes_16 rfl (in8 hX) rfl rfl ?_
  refine A_iconst (v := 4) (q := 20) cx dX8_comes_19 (by decide) rfl ?_
  refine A_iload_n (q := 21) cx dX8_comes_20 rfl rfl ?_
  refine A_iadd (q := 22) cx dX8_comes_21 rfl ?_
  refine A_iaload (q := 23) cx dX8_comes_22 rfl (in9 hX (by decide)) (ixA (ixc 4) rfl) (by show _ < 235; first | omega | (simp only [pl]; omega)) rfl ?_
  refine A_if_ne (tgt := 34) (q := 26) cx dX8_comes_23 (by decide) rfl (fun c_23 => ?_) (fun c_23 => ?_)
  · refine A_aload_n (q := 35) cx dX8_comes_34 rfl rfl rfl ?_
    refine gX8_3 (q := 38) cx wi_X8_comes_X8 wf_X8_comes_7 dX8_comes_35 rfl (in8 hX) rfl rfl ?_
    refine A_iload (q := 40) cx dX8_comes_38 rfl rfl ?_
    refine A_iconst (v := 3) (q := 41) cx dX8_comes_40 (by decide) rfl ?_
    refine A_iadd (q := 42) cx dX8_comes_41 rfl ?_
    refine A_iaload (q := 43) cx dX8_comes_42 rfl (in9 hX (by decide)) (ixA rfl (ixc 3)) (by show _ < 235; first | omega | (simp only [pl]; omega)) rfl ?_
    refine A_iconst (v := 1) (q := 44) cx dX8_comes_43 (by decide) rfl ?_
    refine A_icmp_ne (tgt := 99) (q := 47) cx dX8_comes_44 (by decide) rfl (fun c_44 => ?_) (fun c_44 => ?_)
    · refine A_aload_n (q := 100) cx dX8_comes_99 rfl rfl rfl ?_
      refine gX8_3 (q := 103) cx wi_X8_comes_X8 wf_X8_comes_7 dX8_comes_100 rfl (in8 hX) rfl rfl ?_
      refine A_iload_n (q := 104) cx dX8_comes_103 rfl rfl ?_
      refine A_bipush (v := 8) (q := 106) cx dX8_comes_104 (by decide) rfl ?_
      refine A_iadd (q := 107) cx dX8_comes_106 rfl ?_
      refine A_iaload (q := 108) cx dX8_comes_107 rfl (in9 hX (by decide)) (ixA rfl (ixc 8)) (by show _ < 235; first | omega | (simp only [pl]; omega)) rfl ?_
      refine A_bipush (v := -4) (q := 110) cx dX8_comes_108 (by decide) rfl ?_
      refine A_icmp_eq (tgt := 144) (q := 113) cx dX8_comes_110 (by decide) rfl (fun c_110 => ?_) (fun c_110 => ?_)
      · exact A_vret cx hlk hr hQ dX8_comes_144 (by unfold mComes; first | (rw [if_pos c_23]; done) | (rw [if_neg c_23, if_neg c_44, if_pos c_110]; done) | (rw [if_neg c_23, if_neg c_44, if_neg c_110]; first | (exact (if_neg c_136).symm) | (exact (if_pos c_136).symm)))
      · refine A_aload_n (q := 114) cx dX8_comes_113 rfl rfl rfl ?_
        refine gX8_3 (q := 117) cx wi_X8_comes_X8 wf_X8_comes_7 dX8_comes_114 rfl (in8 hX) rfl rfl ?_
        refine A_iload_n (q := 118) cx dX8_comes_117 rfl rfl ?_
        refine A_bipush (v := 8) (q := 120) cx dX8_comes_118 (by decide) rfl ?_
        refine A_iadd (q := 121) cx dX8_comes_120 rfl ?_
        refine A_dup2 (q := 122) cx dX8_comes_121 rfl rfl rfl ?_
        refine A_iaload (q := 123) cx dX8_comes_122 rfl (in9 hX (by decide)) (ixA rfl (ixc 8)) (by show _ < 235; first | omega | (simp only [pl]; omega)) rfl ?_
        refine A_iconst (v := 1) (q := 124) cx dX8_comes_123 (by decide) rfl ?_
        refine A_iadd (q := 125) cx dX8_comes_124 rfl ?_
        refine A_iastore (q := 126) cx dX8_comes_125 rfl (in9 hX (by decide)) (ixA rfl (ixc 8)) (by show _ < 235; first | omega | (simp only [pl]; omega)) rfl ?_
        refine A_aload_n (q := 127) cx dX8_comes_126 rfl rfl rfl ?_
        refine gX8_3 (q := 130) cx wi_X8_comes_X8 wf_X8_comes_7 dX8_comes_127 rfl (in8 hX) rfl rfl ?_
        refine A_iload_n (q := 131) cx dX8_comes_130 rfl rfl ?_
        refine A_bipush (v := 8) (q := 133) cx dX8_comes_131 (by decide) rfl ?_
        refine A_iadd (q := 134) cx dX8_comes_133 rfl ?_
        refine A_iaload (q := 135) cx dX8_comes_134 rfl (in9 hX (by decide)) (ixA rfl (ixc 8)) (by show _ < 235; first | omega | (simp only [pl]; omega)) rfl ?_
        refine A_iconst (v := 3) (q := 136) cx dX8_comes_135 (by decide) rfl ?_
        refine A_icmp_ne (tgt := 144) (q := 139) cx dX8_comes_136 (by decide) rfl (fun c_136 => ?_) (fun c_136 => ?_)
        · exact A_vret cx hlk hr hQ dX8_comes_144 (by unfold mComes; first | (rw [if_pos c_23]; done) | (rw [if_neg c_23, if_neg c_44, if_pos c_110]; done) | (rw [if_neg c_23, if_neg c_44, if_neg c_110]; first | (exact (if_neg c_136).symm) | (exact (if_pos c_136).symm)))
        · refine A_aload_n (q := 140) cx dX8_comes_139 rfl rfl rfl ?_
          refine A_iload_n (q := 141) cx dX8_comes_140 rfl rfl ?_
          refine VV1 (q := 144) cx (ct_X8_knowsNothing hE hX (by simp only [pl]; omega)) (cwV 1 cx.1.2.2.2.2 gX8_comes_X8_knowsNothing rfl rfl rfl (by decide +kernel) ⟨Nat.le_of_ble_eq_true rfl, Nat.le_of_ble_eq_true rfl⟩) dX8_comes_141 rfl rfl (in8 hX) rfl (Nat.le_of_ble_eq_true rfl) ⟨Nat.zero_le _, Nat.zero_le _⟩ rfl ?_
          exact A_vret cx hlk hr hQ dX8_comes_144 (by unfold mComes; first | (rw [if_pos c_23]; done) | (rw [if_neg c_23, if_neg c_44, if_pos c_110]; done) | (rw [if_neg c_23, if_neg c_44, if_neg c_110]; first | (exact (if_neg c_136).symm) | (exact (if_pos c_136).symm)))
    · refine A_iconst (v := 0) (q := 48) cx dX8_comes_47 (by decide) rfl ?_
      refine A_istore (lv' := [some _, some _, some _, some _, some _, some _]) (q := 50) cx dX8_comes_48 (Nat.le_of_ble_eq_true rfl) rfl rfl ?_
      exact l1 4 0 _ rfl (by unfold mComes; rw [if_neg c_23, if_pos c_44])
  · refine A_aload_n (q := 27) cx dX8_comes_26 rfl rfl rfl ?_
    refine A_iload_n (q := 28) cx dX8_comes_27 rfl rfl ?_
    refine VV1 (q := 31) cx (ct_X8_knowsNothing hE hX (by simp only [pl]; omega)) (cwV 1 cx.1.2.2.2.2 gX8_comes_X8_knowsNothing rfl rfl rfl (by decide +kernel) ⟨Nat.le_of_ble_eq_true rfl, Nat.le_of_ble_eq_true rfl⟩) dX8_comes_28 rfl rfl (in8 hX) rfl (Nat.le_of_ble_eq_true rfl) ⟨Nat.zero_le _, Nat.zero_le _⟩ rfl ?_
    refine A_goto (q := 144) cx dX8_comes_31 (by decide) ?_
    exact A_vret cx hlk hr hQ dX8_comes_144 (by unfold mComes; first | (rw [if_pos c_23]; done) | (rw [if_neg c_23, if_neg c_44, if_pos c_110]; done) | (rw [if_neg c_23, if_neg c_44, if_neg c_110]; first | (exact (if_neg c_136).symm) | (exact (if_pos c_136).symm)))
theorem wi_X8_isOpen_X8 : ∀ w ∈ u_ws RX8 TX8 18, w ∈ wsX8_isOpen := by decide +kernel
theorem wf_X8_isOpen_7 : Cond.fieldLink RX8 7 (TX8 3).1 (TX8 3).2.1 (TX8 3).2.2.1 ∈ wsX8_isOpen := by decide +kernel
set_option maxHeartbeats 1000000 in
set_option maxRecDepth 100000 in
theorem ct_X8_isOpen {la : Launch} {E : Ev} (hE : okE E) (hX : yin E) {σ : Sg} {e l : Nat} (hel : e < 2 ∧ l < 6 := by omega) : CI la yX8_isOpen wsX8_isOpen 1 21 E rh0 [.ref (ad E (8, 0, 0, 0)), .int (nI e), .int (nI l)] σ (mOpen σ e l) σ := by
  refine met_of (lv := [some _, some _, some _]) RX8 (by decide) rfl rfl rfl hE (ok3 rfl rfl rfl) (Nat.le_of_ble_eq_true rfl) (fun p ev s m args below meth c Q cx hlk hr hQ => ?_)
  refine A_aload_n (q := 1) cx dX8_isOpen_0 rfl rfl rfl ?_
  refine gX8_3 (q := 4) cx wi_X8_isOpen_X8 wf_X8_isOpen_7 dX8_isOpen_1 rfl (in8 hX) rfl rfl ?_
  refine A_iload_n (q := 5) cx dX8_isOpen_4 rfl rfl ?_
  refine A_iload_n (q := 6) cx dX8_isOpen_5 rfl rfl ?_
  refine SI2 (q := 9) cx (ct_X8_place hE hX) (cwS 2 cx.1.2.2.2.2 gX8_isOpen_X8_place rfl rfl rfl (by decide +kernel) ⟨Nat.le_of_ble_eq_true rfl, Nat.le_of_ble_eq_true rfl⟩) dX8_isOpen_6 rfl (Nat.le_of_ble_eq_true rfl) ⟨Nat.zero_le _, Nat.zero_le _⟩ rfl ?_
  refine A_bipush (v := 8) (q := 11) cx dX8_isOpen_9 (by decide) rfl ?_
  refine A_iadd (q := 12) cx dX8_isOpen_11 rfl ?_
  refine A_iaload (q := 13) cx dX8_isOpen_12 rfl (in9 hX (by decide)) (ixA rfl (ixc 8)) (by show _ < 235; first | omega | (simp only [pl]; omega)) rfl ?_
  refine A_bipush (v := -4) (q := 15) cx dX8_isOpen_13 (by decide) rfl ?_
  refine A_icmp_eq (tgt := 22) (q := 18) cx dX8_isOpen_15 (by decide) rfl (fun c_15 => ?_) (fun c_15 => ?_)
  · refine A_iconst (v := 0) (q := 23) cx dX8_isOpen_22 (by decide) rfl ?_
    exact A_zret cx hlk hr hQ dX8_isOpen_23 (by first | exact Or.inl rfl | exact Or.inr rfl | exact b01_or _ | assumption) (by first | (simp only [mOpen, *, if_true, if_false, ite_true, ite_false, true_or, or_true, false_or, or_false, and_true, true_and, and_false, false_and, and_self, or_self, not_true_eq_false, not_false_eq_true, ne_eq, reduceIte, decide_true, decide_false, Bool.and_true, Bool.true_and, Bool.and_false, Bool.false_and]; done) | (simp [mOpen, *]; done) | (simp_all [mOpen]; done)) rfl
  · refine A_iconst (v := 1) (q := 19) cx dX8_isOpen_18 (by decide) rfl ?_
    refine A_goto (q := 23) cx dX8_isOpen_19 (by decide) ?_
    exact A_zret cx hlk hr hQ dX8_isOpen_23 (by first | exact Or.inl rfl | exact Or.inr rfl | exact b01_or _ | assumption) (by first | (simp only [mOpen, *, if_true, if_false, ite_true, ite_false, true_or, or_true, false_or, or_false, and_true, true_and, and_false, false_and, and_self, or_self, not_true_eq_false, not_false_eq_true, ne_eq, reduceIte, decide_true, decide_false, Bool.and_true, Bool.true_and, Bool.and_false, Bool.false_and]; done) | (simp [mOpen, *]; done) | (simp_all [mOpen]; done)) rfl
theorem wi_X8_isSending_X8 : ∀ w ∈ u_ws RX8 TX8 18, w ∈ wsX8_isSending := by decide +kernel
theorem wf_X8_isSending_7 : Cond.fieldLink RX8 7 (TX8 3).1 (TX8 3).2.1 (TX8 3).2.2.1 ∈ wsX8_isSending := by decide +kernel
set_option maxHeartbeats 1000000 in
set_option maxRecDepth 100000 in
theorem ct_X8_isSending {la : Launch} {E : Ev} (hE : okE E) (hX : yin E) {σ : Sg} {e l : Nat} (hel : e < 2 ∧ l < 6 := by omega) : CI la yX8_isSending wsX8_isSending 1 21 E rh0 [.ref (ad E (8, 0, 0, 0)), .int (nI e), .int (nI l)] σ (mSnd σ e l) σ := by
  refine met_of (lv := [some _, some _, some _]) RX8 (by decide) rfl rfl rfl hE (ok3 rfl rfl rfl) (Nat.le_of_ble_eq_true rfl) (fun p ev s m args below meth c Q cx hlk hr hQ => ?_)
  refine A_aload_n (q := 1) cx dX8_isSending_0 rfl rfl rfl ?_
  refine gX8_3 (q := 4) cx wi_X8_isSending_X8 wf_X8_isSending_7 dX8_isSending_1 rfl (in8 hX) rfl rfl ?_
  refine A_iload_n (q := 5) cx dX8_isSending_4 rfl rfl ?_
  refine A_iload_n (q := 6) cx dX8_isSending_5 rfl rfl ?_
  refine SI2 (q := 9) cx (ct_X8_place hE hX) (cwS 2 cx.1.2.2.2.2 gX8_isSending_X8_place rfl rfl rfl (by decide +kernel) ⟨Nat.le_of_ble_eq_true rfl, Nat.le_of_ble_eq_true rfl⟩) dX8_isSending_6 rfl (Nat.le_of_ble_eq_true rfl) ⟨Nat.zero_le _, Nat.zero_le _⟩ rfl ?_
  refine A_bipush (v := 14) (q := 11) cx dX8_isSending_9 (by decide) rfl ?_
  refine A_iadd (q := 12) cx dX8_isSending_11 rfl ?_
  refine A_iaload (q := 13) cx dX8_isSending_12 rfl (in9 hX (by decide)) (ixA rfl (ixc 14)) (by show _ < 235; first | omega | (simp only [pl]; omega)) rfl ?_
  refine A_iconst (v := 5) (q := 14) cx dX8_isSending_13 (by decide) rfl ?_
  refine A_icmp_ne (tgt := 21) (q := 17) cx dX8_isSending_14 (by decide) rfl (fun c_14 => ?_) (fun c_14 => ?_)
  · refine A_iconst (v := 0) (q := 22) cx dX8_isSending_21 (by decide) rfl ?_
    exact A_zret cx hlk hr hQ dX8_isSending_22 (by first | exact Or.inl rfl | exact Or.inr rfl | exact b01_or _ | assumption) (by first | (simp only [mSnd, *, if_true, if_false, ite_true, ite_false, true_or, or_true, false_or, or_false, and_true, true_and, and_false, false_and, and_self, or_self, not_true_eq_false, not_false_eq_true, ne_eq, reduceIte, decide_true, decide_false, Bool.and_true, Bool.true_and, Bool.and_false, Bool.false_and]; done) | (simp [mSnd, *]; done) | (simp_all [mSnd]; done)) rfl
  · refine A_iconst (v := 1) (q := 18) cx dX8_isSending_17 (by decide) rfl ?_
    refine A_goto (q := 22) cx dX8_isSending_18 (by decide) ?_
    exact A_zret cx hlk hr hQ dX8_isSending_22 (by first | exact Or.inl rfl | exact Or.inr rfl | exact b01_or _ | assumption) (by first | (simp only [mSnd, *, if_true, if_false, ite_true, ite_false, true_or, or_true, false_or, or_false, and_true, true_and, and_false, false_and, and_self, or_self, not_true_eq_false, not_false_eq_true, ne_eq, reduceIte, decide_true, decide_false, Bool.and_true, Bool.true_and, Bool.and_false, Bool.false_and]; done) | (simp [mSnd, *]; done) | (simp_all [mSnd]; done)) rfl
theorem wi_X8_isPair_X8 : ∀ w ∈ u_ws RX8 TX8 18, w ∈ wsX8_isPair := by decide +kernel
theorem wf_X8_isPair_7 : Cond.fieldLink RX8 7 (TX8 3).1 (TX8 3).2.1 (TX8 3).2.2.1 ∈ wsX8_isPair := by decide +kernel
set_option maxHeartbeats 1000000 in
set_option maxRecDepth 100000 in
theorem ct_X8_isPair {la : Launch} {E : Ev} (hE : okE E) (hX : yin E) {σ : Sg} {e l k : Nat} (hel : e < 2 ∧ l < 6 ∧ k < 6 := by omega) : CI la yX8_isPair wsX8_isPair 1 21 E rh0 [.ref (ad E (8, 0, 0, 0)), .int (nI e), .int (nI l), .int (nI k)] σ (mPair σ e l k) σ := by
  refine met_of (lv := [some _, some _, some _, some _]) RX8 (by decide) rfl rfl rfl hE (ok4 rfl rfl rfl rfl) (Nat.le_of_ble_eq_true rfl) (fun p ev s m args below meth c Q cx hlk hr hQ => ?_)
  refine A_aload_n (q := 1) cx dX8_isPair_0 rfl rfl rfl ?_
  refine gX8_3 (q := 4) cx wi_X8_isPair_X8 wf_X8_isPair_7 dX8_isPair_1 rfl (in8 hX) rfl rfl ?_
  refine A_iload_n (q := 5) cx dX8_isPair_4 rfl rfl ?_
  refine A_iload_n (q := 6) cx dX8_isPair_5 rfl rfl ?_
  refine SI2 (q := 9) cx (ct_X8_place hE hX) (cwS 2 cx.1.2.2.2.2 gX8_isPair_X8_place rfl rfl rfl (by decide +kernel) ⟨Nat.le_of_ble_eq_true rfl, Nat.le_of_ble_eq_true rfl⟩) dX8_isPair_6 rfl (Nat.le_of_ble_eq_true rfl) ⟨Nat.zero_le _, Nat.zero_le _⟩ rfl ?_
  refine A_iconst (v := 0) (q := 10) cx dX8_isPair_9 (by decide) rfl ?_
  refine A_iadd (q := 11) cx dX8_isPair_10 rfl ?_
  refine A_iaload (q := 12) cx dX8_isPair_11 rfl (in9 hX (by decide)) (ixA rfl (ixc 0)) (by show _ < 235; first | omega | (simp only [pl]; omega)) rfl ?_
  refine A_aload_n (q := 13) cx dX8_isPair_12 rfl rfl rfl ?_
  refine gX8_3 (q := 16) cx wi_X8_isPair_X8 wf_X8_isPair_7 dX8_isPair_13 rfl (in8 hX) rfl rfl ?_
  refine A_iload_n (q := 17) cx dX8_isPair_16 rfl rfl ?_
  refine A_iload_n (q := 18) cx dX8_isPair_17 rfl rfl ?_
  refine SI2 (q := 21) cx (ct_X8_place hE hX) (cwS 2 cx.1.2.2.2.2 gX8_isPair_X8_place rfl rfl rfl (by decide +kernel) ⟨Nat.le_of_ble_eq_true rfl, Nat.le_of_ble_eq_true rfl⟩) dX8_isPair_18 rfl (Nat.le_of_ble_eq_true rfl) ⟨Nat.zero_le _, Nat.zero_le _⟩ rfl ?_
  refine A_iconst (v := 0) (q := 22) cx dX8_isPair_21 (by decide) rfl ?_
  refine A_iadd (q := 23) cx dX8_isPair_22 rfl ?_
  refine A_iaload (q := 24) cx dX8_isPair_23 rfl (in9 hX (by decide)) (ixA rfl (ixc 0)) (by show _ < 235; first | omega | (simp only [pl]; omega)) rfl ?_
  refine A_icmp_ne (tgt := 60) (q := 27) cx dX8_isPair_24 (by decide) rfl (fun c_24 => ?_) (fun c_24 => ?_)
  · refine A_iconst (v := 0) (q := 61) cx dX8_isPair_60 (by decide) rfl ?_
    exact A_zret cx hlk hr hQ dX8_isPair_61 (by first | exact Or.inl rfl | exact Or.inr rfl | exact b01_or _ | assumption) (by unfold mPair; first | (rw [if_pos ⟨c_24, c_53⟩]; done) | (rw [if_neg (fun h => c_24 h.1)]; done) | (rw [if_neg (fun h => c_53 h.2)]; done)) rfl
  · refine A_aload_n (q := 28) cx dX8_isPair_27 rfl rfl rfl ?_
    refine gX8_3 (q := 31) cx wi_X8_isPair_X8 wf_X8_isPair_7 dX8_isPair_28 rfl (in8 hX) rfl rfl ?_
    refine A_iload_n (q := 32) cx dX8_isPair_31 rfl rfl ?_
    refine A_iload_n (q := 33) cx dX8_isPair_32 rfl rfl ?_
    refine SI2 (q := 36) cx (ct_X8_place hE hX) (cwS 2 cx.1.2.2.2.2 gX8_isPair_X8_place rfl rfl rfl (by decide +kernel) ⟨Nat.le_of_ble_eq_true rfl, Nat.le_of_ble_eq_true rfl⟩) dX8_isPair_33 rfl (Nat.le_of_ble_eq_true rfl) ⟨Nat.zero_le _, Nat.zero_le _⟩ rfl ?_
    refine A_bipush (v := 9) (q := 38) cx dX8_isPair_36 (by decide) rfl ?_
    refine A_iadd (q := 39) cx dX8_isPair_38 rfl ?_
    refine A_iaload (q := 40) cx dX8_isPair_39 rfl (in9 hX (by decide)) (ixA rfl (ixc 9)) (by show _ < 235; first | omega | (simp only [pl]; omega)) rfl ?_
    refine A_aload_n (q := 41) cx dX8_isPair_40 rfl rfl rfl ?_
    refine gX8_3 (q := 44) cx wi_X8_isPair_X8 wf_X8_isPair_7 dX8_isPair_41 rfl (in8 hX) rfl rfl ?_
    refine A_iload_n (q := 45) cx dX8_isPair_44 rfl rfl ?_
    refine A_iload_n (q := 46) cx dX8_isPair_45 rfl rfl ?_
    refine SI2 (q := 49) cx (ct_X8_place hE hX) (cwS 2 cx.1.2.2.2.2 gX8_isPair_X8_place rfl rfl rfl (by decide +kernel) ⟨Nat.le_of_ble_eq_true rfl, Nat.le_of_ble_eq_true rfl⟩) dX8_isPair_46 rfl (Nat.le_of_ble_eq_true rfl) ⟨Nat.zero_le _, Nat.zero_le _⟩ rfl ?_
    refine A_bipush (v := 9) (q := 51) cx dX8_isPair_49 (by decide) rfl ?_
    refine A_iadd (q := 52) cx dX8_isPair_51 rfl ?_
    refine A_iaload (q := 53) cx dX8_isPair_52 rfl (in9 hX (by decide)) (ixA rfl (ixc 9)) (by show _ < 235; first | omega | (simp only [pl]; omega)) rfl ?_
    refine A_icmp_ne (tgt := 60) (q := 56) cx dX8_isPair_53 (by decide) rfl (fun c_53 => ?_) (fun c_53 => ?_)
    · refine A_iconst (v := 0) (q := 61) cx dX8_isPair_60 (by decide) rfl ?_
      exact A_zret cx hlk hr hQ dX8_isPair_61 (by first | exact Or.inl rfl | exact Or.inr rfl | exact b01_or _ | assumption) (by unfold mPair; first | (rw [if_pos ⟨c_24, c_53⟩]; done) | (rw [if_neg (fun h => c_24 h.1)]; done) | (rw [if_neg (fun h => c_53 h.2)]; done)) rfl
    · refine A_iconst (v := 1) (q := 57) cx dX8_isPair_56 (by decide) rfl ?_
      refine A_goto (q := 61) cx dX8_isPair_57 (by decide) ?_
      exact A_zret cx hlk hr hQ dX8_isPair_61 (by first | exact Or.inl rfl | exact Or.inr rfl | exact b01_or _ | assumption) (by unfold mPair; first | (rw [if_pos ⟨c_24, c_53⟩]; done) | (rw [if_neg (fun h => c_24 h.1)]; done) | (rw [if_neg (fun h => c_53 h.2)]; done)) rfl
theorem wi_X8_doesDecide_X8 : ∀ w ∈ u_ws RX8 TX8 18, w ∈ wsX8_doesDecide := by decide +kernel
theorem wf_X8_doesDecide_83 : Cond.fieldLink RX8 83 (TX8 0).1 (TX8 0).2.1 (TX8 0).2.2.1 ∈ wsX8_doesDecide := by decide +kernel
theorem wf_X8_doesDecide_7 : Cond.fieldLink RX8 7 (TX8 3).1 (TX8 3).2.1 (TX8 3).2.2.1 ∈ wsX8_doesDecide := by decide +kernel
set_option maxHeartbeats 1000000 in
set_option maxRecDepth 100000 in
theorem ct_X8_doesDecide {la : Launch} {E : Ev} (hE : okE E) (hX : yin E) {σ0 : Sg} {e L : Nat} (hL : σ0 (8, 0, 0, 0) 0 = nI L) (hL6 : L ≤ 6) (he : e < 2 := by omega) : CI la yX8_doesDecide wsX8_doesDecide 2 43 E rh0 [.ref (ad E (8, 0, 0, 0)), .int (nI e)] σ0 (mDec σ0 e L) σ0 := by
  refine met_of (lv := [some _, some _, none, none, none]) RX8 (by decide) rfl rfl rfl hE (ok2 rfl rfl) (Nat.le_of_ble_eq_true rfl) (fun p ev s m args below meth c Q cx hlk hr hQ => ?_)
  have l1 : ∀ (d i : Nat), i + d = L → mDecR σ0 e d i = mDec σ0 e L → AW p la ev (rmm 2 43) s m args below meth c 0 0 Q (AL E) E rh0 2 [some (.ref (ad E (8, 0, 0, 0))), some (.int (nI e)), some (.int (nI i)), none, none] [] σ0 := by
    intro d
    induction d with
    | zero =>
      intro i  hi hF
      refine A_iload_n (q := 3) cx dX8_doesDecide_2 rfl rfl ?_
      refine A_aload_n (q := 4) cx dX8_doesDecide_3 rfl rfl rfl ?_
      refine gX8_0 (q := 7) cx wi_X8_doesDecide_X8 wf_X8_doesDecide_83 dX8_doesDecide_4 rfl (in8 hX) rfl ?_
      refine A_icmp_ge (tgt := 71) (q := 10) cx dX8_doesDecide_7 (by decide) rfl (fun c_7 => ?_) (fun c_7 => ?_)
      · refine A_iconst (v := 1) (q := 72) cx dX8_doesDecide_71 (by decide) rfl ?_
        exact A_zret cx hlk hr hQ dX8_doesDecide_72 (by first | exact Or.inl rfl | exact Or.inr rfl | exact b01_or _ | assumption) hF rfl
      · exact absurd (lge hL (by omega) (by omega)) c_7
    | succ d ih =>
      intro i  hi hF
      refine A_iload_n (q := 3) cx dX8_doesDecide_2 rfl rfl ?_
      refine A_aload_n (q := 4) cx dX8_doesDecide_3 rfl rfl rfl ?_
      refine gX8_0 (q := 7) cx wi_X8_doesDecide_X8 wf_X8_doesDecide_83 dX8_doesDecide_4 rfl (in8 hX) rfl ?_
      refine A_icmp_ge (tgt := 71) (q := 10) cx dX8_doesDecide_7 (by decide) rfl (fun c_7 => ?_) (fun c_7 => ?_)
      · exact absurd c_7 (lnge hL (by omega) (by omega))
      · refine A_aload_n (q := 11) cx dX8_doesDecide_10 rfl rfl rfl ?_
        refine A_iload_n (q := 12) cx dX8_doesDecide_11 rfl rfl ?_
        refine A_iload_n (q := 13) cx dX8_doesDecide_12 rfl rfl ?_
        refine VI2 (q := 16) cx (ct_X8_isOpen hE hX) (cwV 2 cx.1.2.2.2.2 gX8_doesDecide_X8_isOpen rfl rfl rfl (by decide +kernel) ⟨Nat.le_of_ble_eq_true rfl, Nat.le_of_ble_eq_true rfl⟩) dX8_doesDecide_13 rfl rfl (in8 hX) rfl (Nat.le_of_ble_eq_true rfl) ⟨Nat.zero_le _, Nat.zero_le _⟩ rfl ?_
        refine A_if_eq (tgt := 65) (q := 19) cx dX8_doesDecide_16 (by decide) rfl (fun c_16 => ?_) (fun c_16 => ?_)
        · refine A_iinc (lv' := [some _, some _, some _, none, none]) (q := 68) cx dX8_doesDecide_65 rfl (nI_1 i) rfl rfl ?_
          refine A_goto (q := 2) cx dX8_doesDecide_68 (by decide) ?_
          exact ih (i + 1) (by omega) (by rw [← hF, mDecR, if_pos c_16])
        · refine A_aload_n (q := 20) cx dX8_doesDecide_19 rfl rfl rfl ?_
          refine gX8_3 (q := 23) cx wi_X8_doesDecide_X8 wf_X8_doesDecide_7 dX8_doesDecide_20 rfl (in8 hX) rfl rfl ?_
          refine A_iconst (v := 0) (q := 24) cx dX8_doesDecide_23 (by decide) rfl ?_
          refine A_iload_n (q := 25) cx dX8_doesDecide_24 rfl rfl ?_
          refine A_iadd (q := 26) cx dX8_doesDecide_25 rfl ?_
          refine A_iaload (q := 27) cx dX8_doesDecide_26 rfl (in9 hX (by decide)) (ixA (ixc 0) rfl) (by show _ < 235; first | omega | (simp only [pl]; omega)) rfl ?_
          refine A_istore_n (lv' := [some _, some _, some _, some _, none]) (q := 28) cx dX8_doesDecide_27 (Nat.le_of_ble_eq_true rfl) rfl rfl ?_
          refine A_aload_n (q := 29) cx dX8_doesDecide_28 rfl rfl rfl ?_
          refine gX8_3 (q := 32) cx wi_X8_doesDecide_X8 wf_X8_doesDecide_7 dX8_doesDecide_29 rfl (in8 hX) rfl rfl ?_
          refine A_iload_n (q := 33) cx dX8_doesDecide_32 rfl rfl ?_
          refine A_iload_n (q := 34) cx dX8_doesDecide_33 rfl rfl ?_
          refine SI2 (q := 37) cx (ct_X8_place hE hX) (cwS 2 cx.1.2.2.2.2 gX8_doesDecide_X8_place rfl rfl rfl (by decide +kernel) ⟨Nat.le_of_ble_eq_true rfl, Nat.le_of_ble_eq_true rfl⟩) dX8_doesDecide_34 rfl (Nat.le_of_ble_eq_true rfl) ⟨Nat.zero_le _, Nat.zero_le _⟩ rfl ?_
          refine A_bipush (v := 11) (q := 39) cx dX8_doesDecide_37 (by decide) rfl ?_
          refine A_iadd (q := 40) cx dX8_doesDecide_39 rfl ?_
          refine A_iaload (q := 41) cx dX8_doesDecide_40 rfl (in9 hX (by decide)) (ixA rfl (ixc 11)) (by show _ < 235; first | omega | (simp only [pl]; omega)) rfl ?_
          refine A_istore (lv' := [some _, some _, some _, some _, some _]) (q := 43) cx dX8_doesDecide_41 (Nat.le_of_ble_eq_true rfl) rfl rfl ?_
          refine A_iload_n (q := 44) cx dX8_doesDecide_43 rfl rfl ?_
          refine A_iload (q := 46) cx dX8_doesDecide_44 rfl rfl ?_
          refine A_icmp_lt (tgt := 59) (q := 49) cx dX8_doesDecide_46 (by decide) rfl (fun c_46 => ?_) (fun c_46 => ?_)
          · refine A_iconst (v := 1) (q := 60) cx dX8_doesDecide_59 (by decide) rfl ?_
            refine A_goto (q := 64) cx dX8_doesDecide_60 (by decide) ?_
            exact A_zret cx hlk hr hQ dX8_doesDecide_64 (by first | exact Or.inl rfl | exact Or.inr rfl | exact b01_or _ | assumption) (by first | exact hF | (rw [← hF, mDecR, if_neg c_16]; first | (rw [if_pos c_46]; done) | (rw [if_neg c_46, if_pos c_52, if_pos c_56]; done) | (rw [if_neg c_46, if_pos c_52, if_neg c_56]; done) | (rw [if_neg c_46, if_neg c_52]; done))) rfl
          · refine A_iload_n (q := 50) cx dX8_doesDecide_49 rfl rfl ?_
            refine A_iload (q := 52) cx dX8_doesDecide_50 rfl rfl ?_
            refine A_icmp_ne (tgt := 63) (q := 55) cx dX8_doesDecide_52 (by decide) rfl (fun c_52 => ?_) (fun c_52 => ?_)
            · refine A_iconst (v := 0) (q := 64) cx dX8_doesDecide_63 (by decide) rfl ?_
              exact A_zret cx hlk hr hQ dX8_doesDecide_64 (by first | exact Or.inl rfl | exact Or.inr rfl | exact b01_or _ | assumption) (by first | exact hF | (rw [← hF, mDecR, if_neg c_16]; first | (rw [if_pos c_46]; done) | (rw [if_neg c_46, if_pos c_52, if_pos c_56]; done) | (rw [if_neg c_46, if_pos c_52, if_neg c_56]; done) | (rw [if_neg c_46, if_neg c_52]; done))) rfl
            · refine A_iload_n (q := 56) cx dX8_doesDecide_55 rfl rfl ?_
              refine A_if_ne (tgt := 63) (q := 59) cx dX8_doesDecide_56 (by decide) rfl (fun c_56 => ?_) (fun c_56 => ?_)
              · refine A_iconst (v := 0) (q := 64) cx dX8_doesDecide_63 (by decide) rfl ?_
                exact A_zret cx hlk hr hQ dX8_doesDecide_64 (by first | exact Or.inl rfl | exact Or.inr rfl | exact b01_or _ | assumption) (by first | exact hF | (rw [← hF, mDecR, if_neg c_16]; first | (rw [if_pos c_46]; done) | (rw [if_neg c_46, if_pos c_52, if_pos c_56]; done) | (rw [if_neg c_46, if_pos c_52, if_neg c_56]; done) | (rw [if_neg c_46, if_neg c_52]; done))) rfl
              · refine A_iconst (v := 1) (q := 60) cx dX8_doesDecide_59 (by decide) rfl ?_
                refine A_goto (q := 64) cx dX8_doesDecide_60 (by decide) ?_
                exact A_zret cx hlk hr hQ dX8_doesDecide_64 (by first | exact Or.inl rfl | exact Or.inr rfl | exact b01_or _ | assumption) (by first | exact hF | (rw [← hF, mDecR, if_neg c_16]; first | (rw [if_pos c_46]; done) | (rw [if_neg c_46, if_pos c_52, if_pos c_56]; done) | (rw [if_neg c_46, if_pos c_52, if_neg c_56]; done) | (rw [if_neg c_46, if_neg c_52]; done))) rfl
  refine A_iconst (v := 0) (q := 1) cx dX8_doesDecide_0 (by decide) rfl ?_
  refine A_istore_n (lv' := [some _, some _, some _, none, none]) (q := 2) cx dX8_doesDecide_1 (Nat.le_of_ble_eq_true rfl) rfl rfl ?_
  exact l1 L 0 (by omega) rfl
theorem wi_X8_ahead_X8 : ∀ w ∈ u_ws RX8 TX8 18, w ∈ wsX8_ahead := by decide +kernel
theorem wf_X8_ahead_83 : Cond.fieldLink RX8 83 (TX8 0).1 (TX8 0).2.1 (TX8 0).2.2.1 ∈ wsX8_ahead := by decide +kernel
theorem wf_X8_ahead_7 : Cond.fieldLink RX8 7 (TX8 3).1 (TX8 3).2.1 (TX8 3).2.2.1 ∈ wsX8_ahead := by decide +kernel
set_option maxHeartbeats 1000000 in
set_option maxRecDepth 100000 in
theorem ct_X8_ahead {la : Launch} {E : Ev} (hE : okE E) (hX : yin E) {σ0 : Sg} {e l b L : Nat} {any : Int32} (hL : σ0 (8, 0, 0, 0) 0 = nI L) (hL6 : L ≤ 6) (hel : e < 2 ∧ l < 6 ∧ b < 11 := by omega) : CI la yX8_ahead wsX8_ahead 2 44 E rh0 [.ref (ad E (8, 0, 0, 0)), .int (nI e), .int (nI l), .int (nI b), .int any] σ0 (mAh σ0 e l b any L) σ0 := by
  refine met_of (lv := [some _, some _, some _, some _, some _, none, none, none, none, none]) RX8 (by decide) rfl rfl rfl hE (ok5 rfl rfl rfl rfl rfl) (Nat.le_of_ble_eq_true rfl) (fun p ev s m args below meth c Q cx hlk hr hQ => ?_)
  have l1 : ∀ (d i : Nat) (a : Int32), i + d = L → cnt (mAh1 σ0 e l b any) d i a = mAh σ0 e l b any L → AW p la ev (rmm 2 44) s m args below meth c 0 0 Q (AL E) E rh0 20 [some (.ref (ad E (8, 0, 0, 0))), some (.int (nI e)), some (.int (nI l)), some (.int (nI b)), some (.int any), some (.int a), some (.int (σ0 (9, 2, 0, 0) (pl e l + b))), some (.int (nI i)), none, none] [] σ0 := by
    intro d
    induction d with
    | zero =>
      intro i a hi hF
      refine A_iload (q := 22) cx dX8_ahead_20 rfl rfl ?_
      refine A_aload_n (q := 23) cx dX8_ahead_22 rfl rfl rfl ?_
      refine gX8_0 (q := 26) cx wi_X8_ahead_X8 wf_X8_ahead_83 dX8_ahead_23 rfl (in8 hX) rfl ?_
      refine A_icmp_ge (tgt := 118) (q := 29) cx dX8_ahead_26 (by decide) rfl (fun c_26 => ?_) (fun c_26 => ?_)
      · refine A_iload (q := 120) cx dX8_ahead_118 rfl rfl ?_
        exact A_iret cx hlk hr hQ dX8_ahead_120 hF rfl
      · exact absurd (lge hL (by omega) (by omega)) c_26
    | succ d ih =>
      intro i a hi hF
      refine A_iload (q := 22) cx dX8_ahead_20 rfl rfl ?_
      refine A_aload_n (q := 23) cx dX8_ahead_22 rfl rfl rfl ?_
      refine gX8_0 (q := 26) cx wi_X8_ahead_X8 wf_X8_ahead_83 dX8_ahead_23 rfl (in8 hX) rfl ?_
      refine A_icmp_ge (tgt := 118) (q := 29) cx dX8_ahead_26 (by decide) rfl (fun c_26 => ?_) (fun c_26 => ?_)
      · exact absurd c_26 (lnge hL (by omega) (by omega))
      · refine A_aload_n (q := 30) cx dX8_ahead_29 rfl rfl rfl ?_
        refine gX8_3 (q := 33) cx wi_X8_ahead_X8 wf_X8_ahead_7 dX8_ahead_30 rfl (in8 hX) rfl rfl ?_
        refine A_iload_n (q := 34) cx dX8_ahead_33 rfl rfl ?_
        refine A_iload (q := 36) cx dX8_ahead_34 rfl rfl ?_
        refine SI2 (q := 39) cx (ct_X8_place hE hX) (cwS 2 cx.1.2.2.2.2 gX8_ahead_X8_place rfl rfl rfl (by decide +kernel) ⟨Nat.le_of_ble_eq_true rfl, Nat.le_of_ble_eq_true rfl⟩) dX8_ahead_36 rfl (Nat.le_of_ble_eq_true rfl) ⟨Nat.zero_le _, Nat.zero_le _⟩ rfl ?_
        refine A_iload_n (q := 40) cx dX8_ahead_39 rfl rfl ?_
        refine A_iadd (q := 41) cx dX8_ahead_40 rfl ?_
        refine A_iaload (q := 42) cx dX8_ahead_41 rfl (in9 hX (by decide)) (ixA rfl rfl) (by show _ < 235; first | omega | (simp only [pl]; omega)) rfl ?_
        refine A_istore (lv' := [some _, some _, some _, some _, some _, some _, some _, some _, some _, none]) (q := 44) cx dX8_ahead_42 (Nat.le_of_ble_eq_true rfl) rfl rfl ?_
        refine A_aload_n (q := 45) cx dX8_ahead_44 rfl rfl rfl ?_
        refine A_iload_n (q := 46) cx dX8_ahead_45 rfl rfl ?_
        refine A_iload (q := 48) cx dX8_ahead_46 rfl rfl ?_
        refine VI2 (q := 51) cx (ct_X8_isOpen hE hX) (cwV 2 cx.1.2.2.2.2 gX8_ahead_X8_isOpen rfl rfl rfl (by decide +kernel) ⟨Nat.le_of_ble_eq_true rfl, Nat.le_of_ble_eq_true rfl⟩) dX8_ahead_48 rfl rfl (in8 hX) rfl (Nat.le_of_ble_eq_true rfl) ⟨Nat.zero_le _, Nat.zero_le _⟩ rfl ?_
        refine A_if_eq (tgt := 78) (q := 54) cx dX8_ahead_51 (by decide) rfl (fun c_51 => ?_) (fun c_51 => ?_)
        · refine A_iconst (v := 0) (q := 79) cx dX8_ahead_78 (by decide) rfl ?_
          refine A_istore (lv' := [some _, some _, some _, some _, some _, some _, some _, some _, some _, some _]) (q := 81) cx dX8_ahead_79 (Nat.le_of_ble_eq_true rfl) rfl rfl ?_
          refine A_iload (q := 83) cx dX8_ahead_81 rfl rfl ?_
          refine A_iload (q := 85) cx dX8_ahead_83 rfl rfl ?_
          refine A_if_eq (tgt := 108) (q := 88) cx dX8_ahead_85 (by decide) rfl (fun c_85 => ?_) (fun c_85 => ?_)
          · refine A_iconst (v := 0) (q := 109) cx dX8_ahead_108 (by decide) rfl ?_
            refine A_iadd (q := 110) cx dX8_ahead_109 rfl ?_
            refine A_istore (lv' := [some _, some _, some _, some _, some _, some _, some _, some _, some _, some _]) (q := 112) cx dX8_ahead_110 (Nat.le_of_ble_eq_true rfl) rfl rfl ?_
            refine A_iinc (lv' := [some _, some _, some _, some _, some _, some _, some _, some _, some _, some _]) (q := 115) cx dX8_ahead_112 rfl (nI_1 i) rfl rfl ?_
            refine A_goto (q := 20) cx dX8_ahead_115 (by decide) ?_
            exact A_drop 8 rfl (A_drop 9 rfl (ih (i + 1) _ (by omega) (by rw [← hF, cnt]; first | (simp only [mAh1, mBef, *, if_true, if_false]; done) | (simp [mAh1, mBef, *]; done))))
          · exact absurd (by decide) c_85
        · refine A_iload (q := 56) cx dX8_ahead_54 rfl rfl ?_
          refine A_iload (q := 58) cx dX8_ahead_56 rfl rfl ?_
          refine A_icmp_lt (tgt := 74) (q := 61) cx dX8_ahead_58 (by decide) rfl (fun c_58 => ?_) (fun c_58 => ?_)
          · refine A_iconst (v := 1) (q := 75) cx dX8_ahead_74 (by decide) rfl ?_
            refine A_goto (q := 79) cx dX8_ahead_75 (by decide) ?_
            refine A_istore (lv' := [some _, some _, some _, some _, some _, some _, some _, some _, some _, some _]) (q := 81) cx dX8_ahead_79 (Nat.le_of_ble_eq_true rfl) rfl rfl ?_
            refine A_iload (q := 83) cx dX8_ahead_81 rfl rfl ?_
            refine A_iload (q := 85) cx dX8_ahead_83 rfl rfl ?_
            refine A_if_eq (tgt := 108) (q := 88) cx dX8_ahead_85 (by decide) rfl (fun c_85 => ?_) (fun c_85 => ?_)
            · exact absurd c_85 (by decide)
            · refine A_iload (q := 90) cx dX8_ahead_88 rfl rfl ?_
              refine A_if_ne (tgt := 104) (q := 93) cx dX8_ahead_90 (by decide) rfl (fun c_90 => ?_) (fun c_90 => ?_)
              · refine A_iconst (v := 1) (q := 105) cx dX8_ahead_104 (by decide) rfl ?_
                refine A_goto (q := 109) cx dX8_ahead_105 (by decide) ?_
                refine A_iadd (q := 110) cx dX8_ahead_109 rfl ?_
                refine A_istore (lv' := [some _, some _, some _, some _, some _, some _, some _, some _, some _, some _]) (q := 112) cx dX8_ahead_110 (Nat.le_of_ble_eq_true rfl) rfl rfl ?_
                refine A_iinc (lv' := [some _, some _, some _, some _, some _, some _, some _, some _, some _, some _]) (q := 115) cx dX8_ahead_112 rfl (nI_1 i) rfl rfl ?_
                refine A_goto (q := 20) cx dX8_ahead_115 (by decide) ?_
                exact A_drop 8 rfl (A_drop 9 rfl (ih (i + 1) _ (by omega) (by rw [← hF, cnt]; first | (simp only [mAh1, mBef, *, if_true, if_false]; done) | (simp [mAh1, mBef, *]; done))))
              · refine A_aload_n (q := 94) cx dX8_ahead_93 rfl rfl rfl ?_
                refine A_iload_n (q := 95) cx dX8_ahead_94 rfl rfl ?_
                refine A_iload_n (q := 96) cx dX8_ahead_95 rfl rfl ?_
                refine A_iload (q := 98) cx dX8_ahead_96 rfl rfl ?_
                refine VI3 (q := 101) cx (ct_X8_isPair hE hX) (cwV 3 cx.1.2.2.2.2 gX8_ahead_X8_isPair rfl rfl rfl (by decide +kernel) ⟨Nat.le_of_ble_eq_true rfl, Nat.le_of_ble_eq_true rfl⟩) dX8_ahead_98 rfl rfl (in8 hX) rfl (Nat.le_of_ble_eq_true rfl) ⟨Nat.zero_le _, Nat.zero_le _⟩ rfl ?_
                refine A_if_eq (tgt := 108) (q := 104) cx dX8_ahead_101 (by decide) rfl (fun c_101 => ?_) (fun c_101 => ?_)
                · refine A_iconst (v := 0) (q := 109) cx dX8_ahead_108 (by decide) rfl ?_
                  refine A_iadd (q := 110) cx dX8_ahead_109 rfl ?_
                  refine A_istore (lv' := [some _, some _, some _, some _, some _, some _, some _, some _, some _, some _]) (q := 112) cx dX8_ahead_110 (Nat.le_of_ble_eq_true rfl) rfl rfl ?_
                  refine A_iinc (lv' := [some _, some _, some _, some _, some _, some _, some _, some _, some _, some _]) (q := 115) cx dX8_ahead_112 rfl (nI_1 i) rfl rfl ?_
                  refine A_goto (q := 20) cx dX8_ahead_115 (by decide) ?_
                  exact A_drop 8 rfl (A_drop 9 rfl (ih (i + 1) _ (by omega) (by rw [← hF, cnt]; first | (simp only [mAh1, mBef, *, if_true, if_false]; done) | (simp [mAh1, mBef, *]; done))))
                · refine A_iconst (v := 1) (q := 105) cx dX8_ahead_104 (by decide) rfl ?_
                  refine A_goto (q := 109) cx dX8_ahead_105 (by decide) ?_
                  refine A_iadd (q := 110) cx dX8_ahead_109 rfl ?_
                  refine A_istore (lv' := [some _, some _, some _, some _, some _, some _, some _, some _, some _, some _]) (q := 112) cx dX8_ahead_110 (Nat.le_of_ble_eq_true rfl) rfl rfl ?_
                  refine A_iinc (lv' := [some _, some _, some _, some _, some _, some _, some _, some _, some _, some _]) (q := 115) cx dX8_ahead_112 rfl (nI_1 i) rfl rfl ?_
                  refine A_goto (q := 20) cx dX8_ahead_115 (by decide) ?_
                  exact A_drop 8 rfl (A_drop 9 rfl (ih (i + 1) _ (by omega) (by rw [← hF, cnt]; first | (simp only [mAh1, mBef, *, if_true, if_false]; done) | (simp [mAh1, mBef, *]; done))))
          · refine A_iload (q := 63) cx dX8_ahead_61 rfl rfl ?_
            refine A_iload (q := 65) cx dX8_ahead_63 rfl rfl ?_
            refine A_icmp_ne (tgt := 78) (q := 68) cx dX8_ahead_65 (by decide) rfl (fun c_65 => ?_) (fun c_65 => ?_)
            · refine A_iconst (v := 0) (q := 79) cx dX8_ahead_78 (by decide) rfl ?_
              refine A_istore (lv' := [some _, some _, some _, some _, some _, some _, some _, some _, some _, some _]) (q := 81) cx dX8_ahead_79 (Nat.le_of_ble_eq_true rfl) rfl rfl ?_
              refine A_iload (q := 83) cx dX8_ahead_81 rfl rfl ?_
              refine A_iload (q := 85) cx dX8_ahead_83 rfl rfl ?_
              refine A_if_eq (tgt := 108) (q := 88) cx dX8_ahead_85 (by decide) rfl (fun c_85 => ?_) (fun c_85 => ?_)
              · refine A_iconst (v := 0) (q := 109) cx dX8_ahead_108 (by decide) rfl ?_
                refine A_iadd (q := 110) cx dX8_ahead_109 rfl ?_
                refine A_istore (lv' := [some _, some _, some _, some _, some _, some _, some _, some _, some _, some _]) (q := 112) cx dX8_ahead_110 (Nat.le_of_ble_eq_true rfl) rfl rfl ?_
                refine A_iinc (lv' := [some _, some _, some _, some _, some _, some _, some _, some _, some _, some _]) (q := 115) cx dX8_ahead_112 rfl (nI_1 i) rfl rfl ?_
                refine A_goto (q := 20) cx dX8_ahead_115 (by decide) ?_
                exact A_drop 8 rfl (A_drop 9 rfl (ih (i + 1) _ (by omega) (by rw [← hF, cnt]; first | (simp only [mAh1, mBef, *, if_true, if_false]; done) | (simp [mAh1, mBef, *]; done))))
              · exact absurd (by decide) c_85
            · refine A_iload (q := 70) cx dX8_ahead_68 rfl rfl ?_
              refine A_iload_n (q := 71) cx dX8_ahead_70 rfl rfl ?_
              refine A_icmp_ge (tgt := 78) (q := 74) cx dX8_ahead_71 (by decide) rfl (fun c_71 => ?_) (fun c_71 => ?_)
              · refine A_iconst (v := 0) (q := 79) cx dX8_ahead_78 (by decide) rfl ?_
                refine A_istore (lv' := [some _, some _, some _, some _, some _, some _, some _, some _, some _, some _]) (q := 81) cx dX8_ahead_79 (Nat.le_of_ble_eq_true rfl) rfl rfl ?_
                refine A_iload (q := 83) cx dX8_ahead_81 rfl rfl ?_
                refine A_iload (q := 85) cx dX8_ahead_83 rfl rfl ?_
                refine A_if_eq (tgt := 108) (q := 88) cx dX8_ahead_85 (by decide) rfl (fun c_85 => ?_) (fun c_85 => ?_)
                · refine A_iconst (v := 0) (q := 109) cx dX8_ahead_108 (by decide) rfl ?_
                  refine A_iadd (q := 110) cx dX8_ahead_109 rfl ?_
                  refine A_istore (lv' := [some _, some _, some _, some _, some _, some _, some _, some _, some _, some _]) (q := 112) cx dX8_ahead_110 (Nat.le_of_ble_eq_true rfl) rfl rfl ?_
                  refine A_iinc (lv' := [some _, some _, some _, some _, some _, some _, some _, some _, some _, some _]) (q := 115) cx dX8_ahead_112 rfl (nI_1 i) rfl rfl ?_
                  refine A_goto (q := 20) cx dX8_ahead_115 (by decide) ?_
                  exact A_drop 8 rfl (A_drop 9 rfl (ih (i + 1) _ (by omega) (by rw [← hF, cnt]; first | (simp only [mAh1, mBef, *, if_true, if_false]; done) | (simp [mAh1, mBef, *]; done))))
                · exact absurd (by decide) c_85
              · refine A_iconst (v := 1) (q := 75) cx dX8_ahead_74 (by decide) rfl ?_
                refine A_goto (q := 79) cx dX8_ahead_75 (by decide) ?_
                refine A_istore (lv' := [some _, some _, some _, some _, some _, some _, some _, some _, some _, some _]) (q := 81) cx dX8_ahead_79 (Nat.le_of_ble_eq_true rfl) rfl rfl ?_
                refine A_iload (q := 83) cx dX8_ahead_81 rfl rfl ?_
                refine A_iload (q := 85) cx dX8_ahead_83 rfl rfl ?_
                refine A_if_eq (tgt := 108) (q := 88) cx dX8_ahead_85 (by decide) rfl (fun c_85 => ?_) (fun c_85 => ?_)
                · exact absurd c_85 (by decide)
                · refine A_iload (q := 90) cx dX8_ahead_88 rfl rfl ?_
                  refine A_if_ne (tgt := 104) (q := 93) cx dX8_ahead_90 (by decide) rfl (fun c_90 => ?_) (fun c_90 => ?_)
                  · refine A_iconst (v := 1) (q := 105) cx dX8_ahead_104 (by decide) rfl ?_
                    refine A_goto (q := 109) cx dX8_ahead_105 (by decide) ?_
                    refine A_iadd (q := 110) cx dX8_ahead_109 rfl ?_
                    refine A_istore (lv' := [some _, some _, some _, some _, some _, some _, some _, some _, some _, some _]) (q := 112) cx dX8_ahead_110 (Nat.le_of_ble_eq_true rfl) rfl rfl ?_
                    refine A_iinc (lv' := [some _, some _, some _, some _, some _, some _, some _, some _, some _, some _]) (q := 115) cx dX8_ahead_112 rfl (nI_1 i) rfl rfl ?_
                    refine A_goto (q := 20) cx dX8_ahead_115 (by decide) ?_
                    exact A_drop 8 rfl (A_drop 9 rfl (ih (i + 1) _ (by omega) (by rw [← hF, cnt]; first | (simp only [mAh1, mBef, *, if_true, if_false]; done) | (simp [mAh1, mBef, *]; done))))
                  · refine A_aload_n (q := 94) cx dX8_ahead_93 rfl rfl rfl ?_
                    refine A_iload_n (q := 95) cx dX8_ahead_94 rfl rfl ?_
                    refine A_iload_n (q := 96) cx dX8_ahead_95 rfl rfl ?_
                    refine A_iload (q := 98) cx dX8_ahead_96 rfl rfl ?_
                    refine VI3 (q := 101) cx (ct_X8_isPair hE hX) (cwV 3 cx.1.2.2.2.2 gX8_ahead_X8_isPair rfl rfl rfl (by decide +kernel) ⟨Nat.le_of_ble_eq_true rfl, Nat.le_of_ble_eq_true rfl⟩) dX8_ahead_98 rfl rfl (in8 hX) rfl (Nat.le_of_ble_eq_true rfl) ⟨Nat.zero_le _, Nat.zero_le _⟩ rfl ?_
                    refine A_if_eq (tgt := 108) (q := 104) cx dX8_ahead_101 (by decide) rfl (fun c_101 => ?_) (fun c_101 => ?_)
                    · refine A_iconst (v := 0) (q := 109) cx dX8_ahead_108 (by decide) rfl ?_
                      refine A_iadd (q := 110) cx dX8_ahead_109 rfl ?_
                      refine A_istore (lv' := [some _, some _, some _, some _, some _, some _, some _, some _, some _, some _]) (q := 112) cx dX8_ahead_110 (Nat.le_of_ble_eq_true rfl) rfl rfl ?_
                      refine A_iinc (lv' := [some _, some _, some _, some _, some _, some _, some _, some _, some _, some _]) (q := 115) cx dX8_ahead_112 rfl (nI_1 i) rfl rfl ?_
                      refine A_goto (q := 20) cx dX8_ahead_115 (by decide) ?_
                      exact A_drop 8 rfl (A_drop 9 rfl (ih (i + 1) _ (by omega) (by rw [← hF, cnt]; first | (simp only [mAh1, mBef, *, if_true, if_false]; done) | (simp [mAh1, mBef, *]; done))))
                    · refine A_iconst (v := 1) (q := 105) cx dX8_ahead_104 (by decide) rfl ?_
                      refine A_goto (q := 109) cx dX8_ahead_105 (by decide) ?_
                      refine A_iadd (q := 110) cx dX8_ahead_109 rfl ?_
                      refine A_istore (lv' := [some _, some _, some _, some _, some _, some _, some _, some _, some _, some _]) (q := 112) cx dX8_ahead_110 (Nat.le_of_ble_eq_true rfl) rfl rfl ?_
                      refine A_iinc (lv' := [some _, some _, some _, some _, some _, some _, some _, some _, some _, some _]) (q := 115) cx dX8_ahead_112 rfl (nI_1 i) rfl rfl ?_
                      refine A_goto (q := 20) cx dX8_ahead_115 (by decide) ?_
                      exact A_drop 8 rfl (A_drop 9 rfl (ih (i + 1) _ (by omega) (by rw [← hF, cnt]; first | (simp only [mAh1, mBef, *, if_true, if_false]; done) | (simp [mAh1, mBef, *]; done))))
  refine A_iconst (v := 0) (q := 1) cx dX8_ahead_0 (by decide) rfl ?_
  refine A_istore (lv' := [some _, some _, some _, some _, some _, some _, none, none, none, none]) (q := 3) cx dX8_ahead_1 (Nat.le_of_ble_eq_true rfl) rfl rfl ?_
  refine A_aload_n (q := 4) cx dX8_ahead_3 rfl rfl rfl ?_
  refine gX8_3 (q := 7) cx wi_X8_ahead_X8 wf_X8_ahead_7 dX8_ahead_4 rfl (in8 hX) rfl rfl ?_
  refine A_iload_n (q := 8) cx dX8_ahead_7 rfl rfl ?_
  refine A_iload_n (q := 9) cx dX8_ahead_8 rfl rfl ?_
  refine SI2 (q := 12) cx (ct_X8_place hE hX) (cwS 2 cx.1.2.2.2.2 gX8_ahead_X8_place rfl rfl rfl (by decide +kernel) ⟨Nat.le_of_ble_eq_true rfl, Nat.le_of_ble_eq_true rfl⟩) dX8_ahead_9 rfl (Nat.le_of_ble_eq_true rfl) ⟨Nat.zero_le _, Nat.zero_le _⟩ rfl ?_
  refine A_iload_n (q := 13) cx dX8_ahead_12 rfl rfl ?_
  refine A_iadd (q := 14) cx dX8_ahead_13 rfl ?_
  refine A_iaload (q := 15) cx dX8_ahead_14 rfl (in9 hX (by decide)) (ixA rfl rfl) (by show _ < 235; first | omega | (simp only [pl]; omega)) rfl ?_
  refine A_istore (lv' := [some _, some _, some _, some _, some _, some _, some _, none, none, none]) (q := 17) cx dX8_ahead_15 (Nat.le_of_ble_eq_true rfl) rfl rfl ?_
  refine A_iconst (v := 0) (q := 18) cx dX8_ahead_17 (by decide) rfl ?_
  refine A_istore (lv' := [some _, some _, some _, some _, some _, some _, some _, some _, none, none]) (q := 20) cx dX8_ahead_18 (Nat.le_of_ble_eq_true rfl) rfl rfl ?_
  exact l1 L 0 _ (by omega) rfl
