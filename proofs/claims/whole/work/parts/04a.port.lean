/-! WHAT THE CLASS'S METHODS DO, as functions of the ints of the world: Flow, Message, Port. -/
def fClear (σ : Sg) (k : Ky) : Sg := up2 (up2 σ k 0 (-4)) k 1 0
def fCopy (σ : Sg) (k k2 : Ky) : Sg := up2 (up2 σ k 0 (σ k2 0)) k 1 (up2 σ k 0 (σ k2 0) k2 1)
def fDeal (σ : Sg) (k : Ky) (wn dr : Int32) : Sg :=
  if σ k 1 ≤ 0 then (if wn = σ k 0 then σ else if σ k 0 = -4 ∨ wn = -4 ∨ dr = 0 then up2 σ k 0 wn else up2 σ k 1 dr)
  else if up2 σ k 1 (σ k 1 - 1) k 1 = 0 then up2 (up2 σ k 1 (σ k 1 - 1)) k 0 wn else up2 σ k 1 (σ k 1 - 1)
def mClear (σ : Sg) (k : Ky) : Sg := up2 (up2 (up2 (up2 (up2 σ k 0 0) k 1 0) k 2 0) k 3 0) k 4 0
def mCopy1 (σ : Sg) (k k2 : Ky) : Sg := up2 σ k 0 (b01 (σ k2 0))
def mCopy2 (σ : Sg) (k k2 : Ky) : Sg := up2 (mCopy1 σ k k2) k 1 (mCopy1 σ k k2 k2 1)
def mCopy3 (σ : Sg) (k k2 : Ky) : Sg := up2 (mCopy2 σ k k2) k 2 (mCopy2 σ k k2 k2 2)
def mCopy4 (σ : Sg) (k k2 : Ky) : Sg := up2 (mCopy3 σ k k2) k 3 (mCopy3 σ k k2 k2 3)
def mCopy (σ : Sg) (k k2 : Ky) : Sg := up2 (mCopy4 σ k k2) k 4 (b01 (mCopy4 σ k k2 k2 4))
def pClear (σ : Sg) (n e l : Nat) : Sg :=
  up2 (up2 (up2 (up2 (up2 (mClear (mClear (up2 (up2 (up2 (up2 σ (5, n, e, l) 0 0) (5, n, e, l) 1 0) (5, n, e, l) 2 0) (5, n, e, l) 3 0) (3, n, e, l)) (14, n, e, l)) (5, n, e, l) 6 0) (5, n, e, l) 7 0) (5, n, e, l) 8 0) (5, n, e, l) 9 (-1)) (5, n, e, l) 10 0
def pBegin (σ : Sg) (n e l : Nat) (ky pr : Int32) : Sg := up2 (up2 (up2 (up2 σ (5, n, e, l) 0 1) (5, n, e, l) 7 1) (5, n, e, l) 2 ky) (5, n, e, l) 3 pr
def cpZ (σ : Sg) (k k2 : Ky) (j : Nat) : Sg := up2 σ k j (b01 (σ k2 j))
def cpI (σ : Sg) (k k2 : Ky) (j : Nat) : Sg := up2 σ k j (σ k2 j)
def pCopyA (σ : Sg) (k k2 : Ky) : Sg := cpI (cpI (cpZ (cpZ σ k k2 0) k k2 1) k k2 2) k k2 3
def pCopyB (σ : Sg) (k k2 : Ky) : Sg := cpI (cpI (cpZ (cpI (cpI σ k k2 6) k k2 7) k k2 8) k k2 9) k k2 10
def pCopy (σ : Sg) (n e l n2 e2 l2 : Nat) : Sg := pCopyB (mCopy (mCopy (pCopyA σ (5, n, e, l) (5, n2, e2, l2)) (3, n, e, l) (3, n2, e2, l2)) (14, n, e, l) (14, n2, e2, l2)) (5, n, e, l) (5, n2, e2, l2)
def pHear (σ : Sg) (n e l : Nat) (k2 : Ky) : Sg :=
  if b01 (σ (5, n, e, l) 0) = 0 then up2 σ (3, n, e, l) 0 0
  else if b01 (σ k2 0) = 0 then
    (if b01 (σ (3, n, e, l) 0) = 0 then σ else up2 (up2 σ (5, n, e, l) 6 (σ (5, n, e, l) 6 + 1)) (3, n, e, l) 0 (if 3 ≤ up2 σ (5, n, e, l) 6 (σ (5, n, e, l) 6 + 1) (5, n, e, l) 6 then 0 else 1))
  else up2 (mCopy σ (3, n, e, l) k2) (5, n, e, l) 6 0
def pPrio (σ : Sg) (n e l : Nat) (w : Int32) : Int32 := if w = 0 then σ (3, n, e, l) 2 else σ (5, n, e, l) 3
def pPair (σ : Sg) (n e l n2 e2 l2 : Nat) : Int32 := if σ (5, n, e, l) 2 = σ (5, n2, e2, l2) 2 ∧ σ (3, n, e, l) 1 = σ (3, n2, e2, l2) 1 then 1 else 0
def pHow (σ : Sg) (n e l : Nat) (wt : Int32) : Int32 :=
  if b01 (σ (5, n, e, l) 0) = 0 then 0 else if b01 (σ (3, n, e, l) 0) = 0 then 1 else if b01 (σ (5, n, e, l) 8) = 0 then 2
  else if wt ≤ σ (5, n, e, l) 9 then (if b01 (σ (3, n, e, l) 4) = 0 then 4 else 5) else 3
def pJudge1 (σ : Sg) (n e l : Nat) : Sg := up2 σ (5, n, e, l) 9 (if b01 (σ (5, n, e, l) 8) = 0 then -1 else σ (5, n, e, l) 9 + 1)
def pJudge2 (σ : Sg) (n e l : Nat) (wt : Int32) : Sg := up2 (pJudge1 σ n e l) (5, n, e, l) 7 (pHow (pJudge1 σ n e l) n e l wt)
def pJudge (σ : Sg) (n e l : Nat) (wt : Int32) : Sg :=
  if pJudge2 σ n e l wt (5, n, e, l) 7 = 5 ∧ pJudge1 σ n e l (5, n, e, l) 7 ≠ 5 then up2 (pJudge2 σ n e l wt) (5, n, e, l) 10 (pJudge2 σ n e l wt (5, n, e, l) 10 + 1) else pJudge2 σ n e l wt
def pSay1 (σ : Sg) (n e l : Nat) : Sg := up2 σ (14, n, e, l) 0 (if b01 (σ (5, n, e, l) 0) = 0 then 0 else if b01 (σ (5, n, e, l) 1) = 0 then 1 else 0)
def pSay2 (σ : Sg) (n e l : Nat) (rk : Int32) : Sg := up2 (up2 (up2 σ (14, n, e, l) 1 (σ (5, n, e, l) 2)) (14, n, e, l) 2 (up2 σ (14, n, e, l) 1 (σ (5, n, e, l) 2) (5, n, e, l) 3)) (14, n, e, l) 3 rk
def pSay3 (σ : Sg) (n e l : Nat) : Sg := up2 σ (14, n, e, l) 4 (if σ (5, n, e, l) 7 = 4 ∨ σ (5, n, e, l) 7 = 5 then 1 else 0)
def pSay (σ : Sg) (n e l : Nat) (rk : Int32) : Sg := pSay3 (pSay2 (pSay1 σ n e l) n e l rk) n e l
def pKnown (σ : Sg) (n e l : Nat) (v : Int32) : Int32 := if b01 (σ (3, n, e, l) 0) = 0 then -4 else v
def pLook (σ : Sg) (n e l : Nat) (w : Int32) : Int32 :=
  if w = 0 then σ (5, n, e, l) 2 else if w = 1 then σ (5, n, e, l) 3 else if w = 2 then σ (5, n, e, l) 7 else if w = 3 then pKnown σ n e l (σ (5, n, e, l) 6)
  else if w = 4 then pKnown σ n e l (σ (3, n, e, l) 1) else if w = 5 then pKnown σ n e l (σ (3, n, e, l) 2) else if w = 6 then pKnown σ n e l (σ (3, n, e, l) 3)
  else if w = 7 then pKnown σ n e l (if b01 (σ (3, n, e, l) 4) = 0 then 0 else 1) else if w = 8 then (if b01 (σ (5, n, e, l) 8) = 0 then -4 else σ (5, n, e, l) 9)
  else if w = 9 then σ (5, n, e, l) 10 else if w = 10 then (if b01 (σ (5, n, e, l) 1) = 0 then 0 else 1) else -1
def pIsOf (σ : Sg) (n e l : Nat) (w : Int32) : Int32 := if w = 0 then b01 (σ (3, n, e, l) 0) else if w = 1 then b01 (σ (5, n, e, l) 8) else if σ (5, n, e, l) 7 = 5 then 1 else 0
theorem wi_X1_clear_X1 : ∀ w ∈ u_ws RX1 TX1 2, w ∈ wsX1_clear := by decide +kernel
theorem wf_X1_clear_9 : Cond.fieldLink RX1 9 (TX1 0).1 (TX1 0).2.1 (TX1 0).2.2.1 ∈ wsX1_clear := by decide +kernel
theorem wf_X1_clear_15 : Cond.fieldLink RX1 15 (TX1 1).1 (TX1 1).2.1 (TX1 1).2.2.1 ∈ wsX1_clear := by decide +kernel
set_option maxHeartbeats 4000000 in
set_option maxRecDepth 100000 in
theorem ct_X1_clear {la : Launch} {E : Ev} (hE : okE E) (hX : xin E) {σ : Sg} {k : Ky} (hk : kc k = 1) (hm : k ∈ ks E) : CV la yX1_clear wsX1_clear 0 0 E rh0 [.ref (ad E k)] σ (fClear σ k) := by
  refine met_of (lv := [some _]) RX1 (by decide) rfl rfl rfl hE (ok1 rfl) (Nat.le_of_ble_eq_true rfl) (fun p ev s m args below meth c Q cx hlk hr hQ => ?_)
  refine A_aload_n (q := 1) cx dX1_clear_0 rfl rfl rfl ?_
  refine A_bipush (v := -4) (q := 3) cx dX1_clear_1 (by decide) rfl ?_
  refine pX1_0 (q := 6) cx wi_X1_clear_X1 wf_X1_clear_9 dX1_clear_3 (by assumption) (by assumption) rfl ?_
  refine A_aload_n (q := 7) cx dX1_clear_6 rfl rfl rfl ?_
  refine A_iconst (v := 0) (q := 8) cx dX1_clear_7 (by decide) rfl ?_
  refine pX1_1 (q := 11) cx wi_X1_clear_X1 wf_X1_clear_15 dX1_clear_8 (by assumption) (by assumption) rfl ?_
  exact A_vret cx hlk hr hQ dX1_clear_11 rfl
theorem wi_X1_copyFrom_X1 : ∀ w ∈ u_ws RX1 TX1 2, w ∈ wsX1_copyFrom := by decide +kernel
theorem wf_X1_copyFrom_9 : Cond.fieldLink RX1 9 (TX1 0).1 (TX1 0).2.1 (TX1 0).2.2.1 ∈ wsX1_copyFrom := by decide +kernel
theorem wf_X1_copyFrom_15 : Cond.fieldLink RX1 15 (TX1 1).1 (TX1 1).2.1 (TX1 1).2.2.1 ∈ wsX1_copyFrom := by decide +kernel
set_option maxHeartbeats 4000000 in
set_option maxRecDepth 100000 in
theorem ct_X1_copyFrom {la : Launch} {E : Ev} (hE : okE E) (hX : xin E) {σ : Sg} {k k2 : Ky} (hk : kc k = 1) (hm : k ∈ ks E) (hk2 : kc k2 = 1) (hm2 : k2 ∈ ks E) : CV la yX1_copyFrom wsX1_copyFrom 0 0 E rh0 [.ref (ad E k), .ref (ad E k2)] σ (fCopy σ k k2) := by
  refine met_of (lv := [some _, some _]) RX1 (by decide) rfl rfl rfl hE (ok2 rfl rfl) (Nat.le_of_ble_eq_true rfl) (fun p ev s m args below meth c Q cx hlk hr hQ => ?_)
  refine A_aload_n (q := 1) cx dX1_copyFrom_0 rfl rfl rfl ?_
  refine A_aload_n (q := 2) cx dX1_copyFrom_1 rfl rfl rfl ?_
  refine gX1_0 (q := 5) cx wi_X1_copyFrom_X1 wf_X1_copyFrom_9 dX1_copyFrom_2 (by assumption) (by assumption) rfl ?_
  refine pX1_0 (q := 8) cx wi_X1_copyFrom_X1 wf_X1_copyFrom_9 dX1_copyFrom_5 (by assumption) (by assumption) rfl ?_
  refine A_aload_n (q := 9) cx dX1_copyFrom_8 rfl rfl rfl ?_
  refine A_aload_n (q := 10) cx dX1_copyFrom_9 rfl rfl rfl ?_
  refine gX1_1 (q := 13) cx wi_X1_copyFrom_X1 wf_X1_copyFrom_15 dX1_copyFrom_10 (by assumption) (by assumption) rfl ?_
  refine pX1_1 (q := 16) cx wi_X1_copyFrom_X1 wf_X1_copyFrom_15 dX1_copyFrom_13 (by assumption) (by assumption) rfl ?_
  exact A_vret cx hlk hr hQ dX1_copyFrom_16 rfl
theorem wi_X1_deal_X1 : ∀ w ∈ u_ws RX1 TX1 2, w ∈ wsX1_deal := by decide +kernel
theorem wf_X1_deal_15 : Cond.fieldLink RX1 15 (TX1 1).1 (TX1 1).2.1 (TX1 1).2.2.1 ∈ wsX1_deal := by decide +kernel
theorem wf_X1_deal_9 : Cond.fieldLink RX1 9 (TX1 0).1 (TX1 0).2.1 (TX1 0).2.2.1 ∈ wsX1_deal := by decide +kernel
set_option maxHeartbeats 4000000 in
set_option maxRecDepth 100000 in
theorem ct_X1_deal {la : Launch} {E : Ev} (hE : okE E) (hX : xin E) {σ : Sg} {k : Ky} {wn dr : Int32} (hk : kc k = 1) (hm : k ∈ ks E) : CV la yX1_deal wsX1_deal 0 0 E rh0 [.ref (ad E k), .int wn, .int dr] σ (fDeal σ k wn dr) := by
  refine met_of (lv := [some _, some _, some _]) RX1 (by decide) rfl rfl rfl hE (ok3 rfl rfl rfl) (Nat.le_of_ble_eq_true rfl) (fun p ev s m args below meth c Q cx hlk hr hQ => ?_)
  refine A_aload_n (q := 1) cx dX1_deal_0 rfl rfl rfl ?_
  refine gX1_1 (q := 4) cx wi_X1_deal_X1 wf_X1_deal_15 dX1_deal_1 (by assumption) (by assumption) rfl ?_
  refine A_if_le (tgt := 32) (q := 7) cx dX1_deal_4 (by decide) rfl (fun c_4 => ?_) (fun c_4 => ?_)
  · refine A_iload_n (q := 33) cx dX1_deal_32 rfl rfl ?_
    refine A_aload_n (q := 34) cx dX1_deal_33 rfl rfl rfl ?_
    refine gX1_0 (q := 37) cx wi_X1_deal_X1 wf_X1_deal_9 dX1_deal_34 (by assumption) (by assumption) rfl ?_
    refine A_icmp_eq (tgt := 72) (q := 40) cx dX1_deal_37 (by decide) rfl (fun c_37 => ?_) (fun c_37 => ?_)
    · exact A_vret cx hlk hr hQ dX1_deal_72 (by first | (simp only [fDeal, *, if_true, if_false, ite_true, ite_false, true_or, or_true, false_or, or_false, and_true, true_and, and_false, false_and, and_self, or_self, not_true_eq_false, not_false_eq_true, ne_eq, reduceIte, decide_true, decide_false, Bool.and_true, Bool.true_and, Bool.and_false, Bool.false_and]; done) | (simp [fDeal, *]; done) | (simp_all [fDeal]; done))
    · refine A_aload_n (q := 41) cx dX1_deal_40 rfl rfl rfl ?_
      refine gX1_0 (q := 44) cx wi_X1_deal_X1 wf_X1_deal_9 dX1_deal_41 (by assumption) (by assumption) rfl ?_
      refine A_bipush (v := -4) (q := 46) cx dX1_deal_44 (by decide) rfl ?_
      refine A_icmp_eq (tgt := 59) (q := 49) cx dX1_deal_46 (by decide) rfl (fun c_46 => ?_) (fun c_46 => ?_)
      · refine A_aload_n (q := 60) cx dX1_deal_59 rfl rfl rfl ?_
        refine A_iload_n (q := 61) cx dX1_deal_60 rfl rfl ?_
        refine pX1_0 (q := 64) cx wi_X1_deal_X1 wf_X1_deal_9 dX1_deal_61 (by assumption) (by assumption) rfl ?_
        refine A_goto (q := 72) cx dX1_deal_64 (by decide) ?_
        exact A_vret cx hlk hr hQ dX1_deal_72 (by first | (simp only [fDeal, *, if_true, if_false, ite_true, ite_false, true_or, or_true, false_or, or_false, and_true, true_and, and_false, false_and, and_self, or_self, not_true_eq_false, not_false_eq_true, ne_eq, reduceIte, decide_true, decide_false, Bool.and_true, Bool.true_and, Bool.and_false, Bool.false_and]; done) | (simp [fDeal, *]; done) | (simp_all [fDeal]; done))
      · refine A_iload_n (q := 50) cx dX1_deal_49 rfl rfl ?_
        refine A_bipush (v := -4) (q := 52) cx dX1_deal_50 (by decide) rfl ?_
        refine A_icmp_eq (tgt := 59) (q := 55) cx dX1_deal_52 (by decide) rfl (fun c_52 => ?_) (fun c_52 => ?_)
        · refine A_aload_n (q := 60) cx dX1_deal_59 rfl rfl rfl ?_
          refine A_iload_n (q := 61) cx dX1_deal_60 rfl rfl ?_
          refine pX1_0 (q := 64) cx wi_X1_deal_X1 wf_X1_deal_9 dX1_deal_61 (by assumption) (by assumption) rfl ?_
          refine A_goto (q := 72) cx dX1_deal_64 (by decide) ?_
          exact A_vret cx hlk hr hQ dX1_deal_72 (by first | (simp only [fDeal, *, if_true, if_false, ite_true, ite_false, true_or, or_true, false_or, or_false, and_true, true_and, and_false, false_and, and_self, or_self, not_true_eq_false, not_false_eq_true, ne_eq, reduceIte, decide_true, decide_false, Bool.and_true, Bool.true_and, Bool.and_false, Bool.false_and]; done) | (simp [fDeal, *]; done) | (simp_all [fDeal]; done))
        · refine A_iload_n (q := 56) cx dX1_deal_55 rfl rfl ?_
          refine A_if_ne (tgt := 67) (q := 59) cx dX1_deal_56 (by decide) rfl (fun c_56 => ?_) (fun c_56 => ?_)
          · refine A_aload_n (q := 68) cx dX1_deal_67 rfl rfl rfl ?_
            refine A_iload_n (q := 69) cx dX1_deal_68 rfl rfl ?_
            refine pX1_1 (q := 72) cx wi_X1_deal_X1 wf_X1_deal_15 dX1_deal_69 (by assumption) (by assumption) rfl ?_
            exact A_vret cx hlk hr hQ dX1_deal_72 (by first | (simp only [fDeal, *, if_true, if_false, ite_true, ite_false, true_or, or_true, false_or, or_false, and_true, true_and, and_false, false_and, and_self, or_self, not_true_eq_false, not_false_eq_true, ne_eq, reduceIte, decide_true, decide_false, Bool.and_true, Bool.true_and, Bool.and_false, Bool.false_and]; done) | (simp [fDeal, *]; done) | (simp_all [fDeal]; done))
          · refine A_aload_n (q := 60) cx dX1_deal_59 rfl rfl rfl ?_
            refine A_iload_n (q := 61) cx dX1_deal_60 rfl rfl ?_
            refine pX1_0 (q := 64) cx wi_X1_deal_X1 wf_X1_deal_9 dX1_deal_61 (by assumption) (by assumption) rfl ?_
            refine A_goto (q := 72) cx dX1_deal_64 (by decide) ?_
            exact A_vret cx hlk hr hQ dX1_deal_72 (by first | (simp only [fDeal, *, if_true, if_false, ite_true, ite_false, true_or, or_true, false_or, or_false, and_true, true_and, and_false, false_and, and_self, or_self, not_true_eq_false, not_false_eq_true, ne_eq, reduceIte, decide_true, decide_false, Bool.and_true, Bool.true_and, Bool.and_false, Bool.false_and]; done) | (simp [fDeal, *]; done) | (simp_all [fDeal]; done))
  · refine A_aload_n (q := 8) cx dX1_deal_7 rfl rfl rfl ?_
    refine A_dup (q := 9) cx dX1_deal_8 rfl rfl ?_
    refine gX1_1 (q := 12) cx wi_X1_deal_X1 wf_X1_deal_15 dX1_deal_9 (by assumption) (by assumption) rfl ?_
    refine A_iconst (v := 1) (q := 13) cx dX1_deal_12 (by decide) rfl ?_
    refine A_isub (q := 14) cx dX1_deal_13 rfl ?_
    refine pX1_1 (q := 17) cx wi_X1_deal_X1 wf_X1_deal_15 dX1_deal_14 (by assumption) (by assumption) rfl ?_
    refine A_aload_n (q := 18) cx dX1_deal_17 rfl rfl rfl ?_
    refine gX1_1 (q := 21) cx wi_X1_deal_X1 wf_X1_deal_15 dX1_deal_18 (by assumption) (by assumption) rfl ?_
    refine A_if_ne (tgt := 72) (q := 24) cx dX1_deal_21 (by decide) rfl (fun c_21 => ?_) (fun c_21 => ?_)
    · exact A_vret cx hlk hr hQ dX1_deal_72 (by first | (simp only [fDeal, *, if_true, if_false, ite_true, ite_false, true_or, or_true, false_or, or_false, and_true, true_and, and_false, false_and, and_self, or_self, not_true_eq_false, not_false_eq_true, ne_eq, reduceIte, decide_true, decide_false, Bool.and_true, Bool.true_and, Bool.and_false, Bool.false_and]; done) | (simp [fDeal, *]; done) | (simp_all [fDeal]; done))
    · refine A_aload_n (q := 25) cx dX1_deal_24 rfl rfl rfl ?_
      refine A_iload_n (q := 26) cx dX1_deal_25 rfl rfl ?_
      refine pX1_0 (q := 29) cx wi_X1_deal_X1 wf_X1_deal_9 dX1_deal_26 (by assumption) (by assumption) rfl ?_
      refine A_goto (q := 72) cx dX1_deal_29 (by decide) ?_
      exact A_vret cx hlk hr hQ dX1_deal_72 (by first | (simp only [fDeal, *, if_true, if_false, ite_true, ite_false, true_or, or_true, false_or, or_false, and_true, true_and, and_false, false_and, and_self, or_self, not_true_eq_false, not_false_eq_true, ne_eq, reduceIte, decide_true, decide_false, Bool.and_true, Bool.true_and, Bool.and_false, Bool.false_and]; done) | (simp [fDeal, *]; done) | (simp_all [fDeal]; done))
theorem wi_X3_clear_X3 : ∀ w ∈ u_ws RX3 TX3 5, w ∈ wsX3_clear := by decide +kernel
theorem wf_X3_clear_7 : Cond.fieldLink RX3 7 (TX3 0).1 (TX3 0).2.1 (TX3 0).2.2.1 ∈ wsX3_clear := by decide +kernel
theorem wf_X3_clear_13 : Cond.fieldLink RX3 13 (TX3 1).1 (TX3 1).2.1 (TX3 1).2.2.1 ∈ wsX3_clear := by decide +kernel
theorem wf_X3_clear_17 : Cond.fieldLink RX3 17 (TX3 2).1 (TX3 2).2.1 (TX3 2).2.2.1 ∈ wsX3_clear := by decide +kernel
theorem wf_X3_clear_20 : Cond.fieldLink RX3 20 (TX3 3).1 (TX3 3).2.1 (TX3 3).2.2.1 ∈ wsX3_clear := by decide +kernel
theorem wf_X3_clear_23 : Cond.fieldLink RX3 23 (TX3 4).1 (TX3 4).2.1 (TX3 4).2.2.1 ∈ wsX3_clear := by decide +kernel
set_option maxHeartbeats 4000000 in
set_option maxRecDepth 100000 in
theorem ct_X3_clear {la : Launch} {E : Ev} (hE : okE E) (hX : xin E) {σ : Sg} {k : Ky} (hk : kc k = 3) (hm : k ∈ ks E) : CV la yX3_clear wsX3_clear 0 0 E rh0 [.ref (ad E k)] σ (mClear σ k) := by
  refine met_of (lv := [some _]) RX3 (by decide) rfl rfl rfl hE (ok1 rfl) (Nat.le_of_ble_eq_true rfl) (fun p ev s m args below meth c Q cx hlk hr hQ => ?_)
  refine A_aload_n (q := 1) cx dX3_clear_0 rfl rfl rfl ?_
  refine A_iconst (v := 0) (q := 2) cx dX3_clear_1 (by decide) rfl ?_
  refine pX3_0 (q := 5) cx wi_X3_clear_X3 wf_X3_clear_7 dX3_clear_2 (by assumption) (by assumption) (by first | exact Or.inl rfl | exact Or.inr rfl | exact b01_or _ | assumption) rfl ?_
  refine A_aload_n (q := 6) cx dX3_clear_5 rfl rfl rfl ?_
  refine A_iconst (v := 0) (q := 7) cx dX3_clear_6 (by decide) rfl ?_
  refine pX3_1 (q := 10) cx wi_X3_clear_X3 wf_X3_clear_13 dX3_clear_7 (by assumption) (by assumption) rfl ?_
  refine A_aload_n (q := 11) cx dX3_clear_10 rfl rfl rfl ?_
  refine A_iconst (v := 0) (q := 12) cx dX3_clear_11 (by decide) rfl ?_
  refine pX3_2 (q := 15) cx wi_X3_clear_X3 wf_X3_clear_17 dX3_clear_12 (by assumption) (by assumption) rfl ?_
  refine A_aload_n (q := 16) cx dX3_clear_15 rfl rfl rfl ?_
  refine A_iconst (v := 0) (q := 17) cx dX3_clear_16 (by decide) rfl ?_
  refine pX3_3 (q := 20) cx wi_X3_clear_X3 wf_X3_clear_20 dX3_clear_17 (by assumption) (by assumption) rfl ?_
  refine A_aload_n (q := 21) cx dX3_clear_20 rfl rfl rfl ?_
  refine A_iconst (v := 0) (q := 22) cx dX3_clear_21 (by decide) rfl ?_
  refine pX3_4 (q := 25) cx wi_X3_clear_X3 wf_X3_clear_23 dX3_clear_22 (by assumption) (by assumption) (by first | exact Or.inl rfl | exact Or.inr rfl | exact b01_or _ | assumption) rfl ?_
  exact A_vret cx hlk hr hQ dX3_clear_25 rfl
theorem wi_X3_copyFrom_X3 : ∀ w ∈ u_ws RX3 TX3 5, w ∈ wsX3_copyFrom := by decide +kernel
theorem wf_X3_copyFrom_7 : Cond.fieldLink RX3 7 (TX3 0).1 (TX3 0).2.1 (TX3 0).2.2.1 ∈ wsX3_copyFrom := by decide +kernel
theorem wf_X3_copyFrom_13 : Cond.fieldLink RX3 13 (TX3 1).1 (TX3 1).2.1 (TX3 1).2.2.1 ∈ wsX3_copyFrom := by decide +kernel
theorem wf_X3_copyFrom_17 : Cond.fieldLink RX3 17 (TX3 2).1 (TX3 2).2.1 (TX3 2).2.2.1 ∈ wsX3_copyFrom := by decide +kernel
theorem wf_X3_copyFrom_20 : Cond.fieldLink RX3 20 (TX3 3).1 (TX3 3).2.1 (TX3 3).2.2.1 ∈ wsX3_copyFrom := by decide +kernel
theorem wf_X3_copyFrom_23 : Cond.fieldLink RX3 23 (TX3 4).1 (TX3 4).2.1 (TX3 4).2.2.1 ∈ wsX3_copyFrom := by decide +kernel
set_option maxHeartbeats 4000000 in
set_option maxRecDepth 100000 in
theorem ct_X3_copyFrom {la : Launch} {E : Ev} (hE : okE E) (hX : xin E) {σ : Sg} {k k2 : Ky} (hk : kc k = 3) (hm : k ∈ ks E) (hk2 : kc k2 = 3) (hm2 : k2 ∈ ks E) : CV la yX3_copyFrom wsX3_copyFrom 0 0 E rh0 [.ref (ad E k), .ref (ad E k2)] σ (mCopy σ k k2) := by
  refine met_of (lv := [some _, some _]) RX3 (by decide) rfl rfl rfl hE (ok2 rfl rfl) (Nat.le_of_ble_eq_true rfl) (fun p ev s m args below meth c Q cx hlk hr hQ => ?_)
  refine A_aload_n (q := 1) cx dX3_copyFrom_0 rfl rfl rfl ?_
  refine A_aload_n (q := 2) cx dX3_copyFrom_1 rfl rfl rfl ?_
  refine gX3_0 (q := 5) cx wi_X3_copyFrom_X3 wf_X3_copyFrom_7 dX3_copyFrom_2 (by assumption) (by assumption) rfl ?_
  refine pX3_0 (q := 8) cx wi_X3_copyFrom_X3 wf_X3_copyFrom_7 dX3_copyFrom_5 (by assumption) (by assumption) (by first | exact Or.inl rfl | exact Or.inr rfl | exact b01_or _ | assumption) rfl ?_
  refine A_aload_n (q := 9) cx dX3_copyFrom_8 rfl rfl rfl ?_
  refine A_aload_n (q := 10) cx dX3_copyFrom_9 rfl rfl rfl ?_
  refine gX3_1 (q := 13) cx wi_X3_copyFrom_X3 wf_X3_copyFrom_13 dX3_copyFrom_10 (by assumption) (by assumption) rfl ?_
  refine pX3_1 (q := 16) cx wi_X3_copyFrom_X3 wf_X3_copyFrom_13 dX3_copyFrom_13 (by assumption) (by assumption) rfl ?_
  refine A_aload_n (q := 17) cx dX3_copyFrom_16 rfl rfl rfl ?_
  refine A_aload_n (q := 18) cx dX3_copyFrom_17 rfl rfl rfl ?_
  refine gX3_2 (q := 21) cx wi_X3_copyFrom_X3 wf_X3_copyFrom_17 dX3_copyFrom_18 (by assumption) (by assumption) rfl ?_
  refine pX3_2 (q := 24) cx wi_X3_copyFrom_X3 wf_X3_copyFrom_17 dX3_copyFrom_21 (by assumption) (by assumption) rfl ?_
  refine A_aload_n (q := 25) cx dX3_copyFrom_24 rfl rfl rfl ?_
  refine A_aload_n (q := 26) cx dX3_copyFrom_25 rfl rfl rfl ?_
  refine gX3_3 (q := 29) cx wi_X3_copyFrom_X3 wf_X3_copyFrom_20 dX3_copyFrom_26 (by assumption) (by assumption) rfl ?_
  refine pX3_3 (q := 32) cx wi_X3_copyFrom_X3 wf_X3_copyFrom_20 dX3_copyFrom_29 (by assumption) (by assumption) rfl ?_
  refine A_aload_n (q := 33) cx dX3_copyFrom_32 rfl rfl rfl ?_
  refine A_aload_n (q := 34) cx dX3_copyFrom_33 rfl rfl rfl ?_
  refine gX3_4 (q := 37) cx wi_X3_copyFrom_X3 wf_X3_copyFrom_23 dX3_copyFrom_34 (by assumption) (by assumption) rfl ?_
  refine pX3_4 (q := 40) cx wi_X3_copyFrom_X3 wf_X3_copyFrom_23 dX3_copyFrom_37 (by assumption) (by assumption) (by first | exact Or.inl rfl | exact Or.inr rfl | exact b01_or _ | assumption) rfl ?_
  exact A_vret cx hlk hr hQ dX3_copyFrom_40 rfl
theorem wi_X5_clear_X5 : ∀ w ∈ u_ws RX5 TX5 11, w ∈ wsX5_clear := by decide +kernel
theorem wf_X5_clear_21 : Cond.fieldLink RX5 21 (TX5 0).1 (TX5 0).2.1 (TX5 0).2.2.1 ∈ wsX5_clear := by decide +kernel
theorem wf_X5_clear_25 : Cond.fieldLink RX5 25 (TX5 1).1 (TX5 1).2.1 (TX5 1).2.2.1 ∈ wsX5_clear := by decide +kernel
theorem wf_X5_clear_28 : Cond.fieldLink RX5 28 (TX5 2).1 (TX5 2).2.1 (TX5 2).2.2.1 ∈ wsX5_clear := by decide +kernel
theorem wf_X5_clear_32 : Cond.fieldLink RX5 32 (TX5 3).1 (TX5 3).2.1 (TX5 3).2.2.1 ∈ wsX5_clear := by decide +kernel
theorem wf_X5_clear_12 : Cond.fieldLink RX5 12 (TX5 4).1 (TX5 4).2.1 (TX5 4).2.2.1 ∈ wsX5_clear := by decide +kernel
theorem wf_X5_clear_18 : Cond.fieldLink RX5 18 (TX5 5).1 (TX5 5).2.1 (TX5 5).2.2.1 ∈ wsX5_clear := by decide +kernel
theorem wf_X5_clear_38 : Cond.fieldLink RX5 38 (TX5 6).1 (TX5 6).2.1 (TX5 6).2.2.1 ∈ wsX5_clear := by decide +kernel
theorem wf_X5_clear_41 : Cond.fieldLink RX5 41 (TX5 7).1 (TX5 7).2.1 (TX5 7).2.2.1 ∈ wsX5_clear := by decide +kernel
theorem wf_X5_clear_44 : Cond.fieldLink RX5 44 (TX5 8).1 (TX5 8).2.1 (TX5 8).2.2.1 ∈ wsX5_clear := by decide +kernel
theorem wf_X5_clear_47 : Cond.fieldLink RX5 47 (TX5 9).1 (TX5 9).2.1 (TX5 9).2.2.1 ∈ wsX5_clear := by decide +kernel
theorem wf_X5_clear_50 : Cond.fieldLink RX5 50 (TX5 10).1 (TX5 10).2.1 (TX5 10).2.2.1 ∈ wsX5_clear := by decide +kernel
set_option maxHeartbeats 4000000 in
set_option maxRecDepth 100000 in
theorem ct_X5_clear {la : Launch} {E : Ev} (hE : okE E) (hX : xin E) {σ : Sg} {n e l : Nat} (hn : n < 9 ∧ e < 2 ∧ l < 6 := by omega) : CV la yX5_clear wsX5_clear 1 20 E rh0 [.ref (ad E (5, n, e, l))] σ (pClear σ n e l) := by
  refine met_of (lv := [some _]) RX5 (by decide) rfl rfl rfl hE (ok1 rfl) (Nat.le_of_ble_eq_true rfl) (fun p ev s m args below meth c Q cx hlk hr hQ => ?_)
  refine A_aload_n (q := 1) cx dX5_clear_0 rfl rfl rfl ?_
  refine A_iconst (v := 0) (q := 2) cx dX5_clear_1 (by decide) rfl ?_
  refine pX5_0 (q := 5) cx wi_X5_clear_X5 wf_X5_clear_21 dX5_clear_2 rfl (in5 hX (by omega)) (by first | exact Or.inl rfl | exact Or.inr rfl | exact b01_or _ | assumption) rfl ?_
  refine A_aload_n (q := 6) cx dX5_clear_5 rfl rfl rfl ?_
  refine A_iconst (v := 0) (q := 7) cx dX5_clear_6 (by decide) rfl ?_
  refine pX5_1 (q := 10) cx wi_X5_clear_X5 wf_X5_clear_25 dX5_clear_7 rfl (in5 hX (by omega)) (by first | exact Or.inl rfl | exact Or.inr rfl | exact b01_or _ | assumption) rfl ?_
  refine A_aload_n (q := 11) cx dX5_clear_10 rfl rfl rfl ?_
  refine A_iconst (v := 0) (q := 12) cx dX5_clear_11 (by decide) rfl ?_
  refine pX5_2 (q := 15) cx wi_X5_clear_X5 wf_X5_clear_28 dX5_clear_12 rfl (in5 hX (by omega)) rfl ?_
  refine A_aload_n (q := 16) cx dX5_clear_15 rfl rfl rfl ?_
  refine A_iconst (v := 0) (q := 17) cx dX5_clear_16 (by decide) rfl ?_
  refine pX5_3 (q := 20) cx wi_X5_clear_X5 wf_X5_clear_32 dX5_clear_17 rfl (in5 hX (by omega)) rfl ?_
  refine A_aload_n (q := 21) cx dX5_clear_20 rfl rfl rfl ?_
  refine gX5_4 (q := 24) cx wi_X5_clear_X5 wf_X5_clear_12 dX5_clear_21 rfl (in5 hX (by omega)) rfl rfl ?_
  refine VV0 (q := 27) cx (ct_X3_clear hE hX rfl (by first | exact in3 hX hn | exact in14 hX hn)) (cwV 0 cx.1.2.2.2.2 gX5_clear_X3_clear rfl rfl rfl (by decide +kernel) ⟨Nat.le_of_ble_eq_true rfl, Nat.le_of_ble_eq_true rfl⟩) dX5_clear_24 rfl rfl (by first | assumption | exact in3 hX (by omega) | exact in14 hX (by omega)) rfl (Nat.le_of_ble_eq_true rfl) ⟨Nat.zero_le _, Nat.zero_le _⟩ rfl ?_
  refine A_aload_n (q := 28) cx dX5_clear_27 rfl rfl rfl ?_
  refine gX5_5 (q := 31) cx wi_X5_clear_X5 wf_X5_clear_18 dX5_clear_28 rfl (in5 hX (by omega)) rfl rfl ?_
  refine VV0 (q := 34) cx (ct_X3_clear hE hX rfl (by first | exact in3 hX hn | exact in14 hX hn)) (cwV 0 cx.1.2.2.2.2 gX5_clear_X3_clear rfl rfl rfl (by decide +kernel) ⟨Nat.le_of_ble_eq_true rfl, Nat.le_of_ble_eq_true rfl⟩) dX5_clear_31 rfl rfl (by first | assumption | exact in3 hX (by omega) | exact in14 hX (by omega)) rfl (Nat.le_of_ble_eq_true rfl) ⟨Nat.zero_le _, Nat.zero_le _⟩ rfl ?_
  refine A_aload_n (q := 35) cx dX5_clear_34 rfl rfl rfl ?_
  refine A_iconst (v := 0) (q := 36) cx dX5_clear_35 (by decide) rfl ?_
  refine pX5_6 (q := 39) cx wi_X5_clear_X5 wf_X5_clear_38 dX5_clear_36 rfl (in5 hX (by omega)) rfl ?_
  refine A_aload_n (q := 40) cx dX5_clear_39 rfl rfl rfl ?_
  refine A_iconst (v := 0) (q := 41) cx dX5_clear_40 (by decide) rfl ?_
  refine pX5_7 (q := 44) cx wi_X5_clear_X5 wf_X5_clear_41 dX5_clear_41 rfl (in5 hX (by omega)) rfl ?_
  refine A_aload_n (q := 45) cx dX5_clear_44 rfl rfl rfl ?_
  refine A_iconst (v := 0) (q := 46) cx dX5_clear_45 (by decide) rfl ?_
  refine pX5_8 (q := 49) cx wi_X5_clear_X5 wf_X5_clear_44 dX5_clear_46 rfl (in5 hX (by omega)) (by first | exact Or.inl rfl | exact Or.inr rfl | exact b01_or _ | assumption) rfl ?_
  refine A_aload_n (q := 50) cx dX5_clear_49 rfl rfl rfl ?_
  refine A_iconst (v := -1) (q := 51) cx dX5_clear_50 (by decide) rfl ?_
  refine pX5_9 (q := 54) cx wi_X5_clear_X5 wf_X5_clear_47 dX5_clear_51 rfl (in5 hX (by omega)) rfl ?_
  refine A_aload_n (q := 55) cx dX5_clear_54 rfl rfl rfl ?_
  refine A_iconst (v := 0) (q := 56) cx dX5_clear_55 (by decide) rfl ?_
  refine pX5_10 (q := 59) cx wi_X5_clear_X5 wf_X5_clear_50 dX5_clear_56 rfl (in5 hX (by omega)) rfl ?_
  exact A_vret cx hlk hr hQ dX5_clear_59 rfl
theorem wi_X5_begin_X5 : ∀ w ∈ u_ws RX5 TX5 11, w ∈ wsX5_begin := by decide +kernel
theorem wf_X5_begin_21 : Cond.fieldLink RX5 21 (TX5 0).1 (TX5 0).2.1 (TX5 0).2.2.1 ∈ wsX5_begin := by decide +kernel
theorem wf_X5_begin_41 : Cond.fieldLink RX5 41 (TX5 7).1 (TX5 7).2.1 (TX5 7).2.2.1 ∈ wsX5_begin := by decide +kernel
theorem wf_X5_begin_28 : Cond.fieldLink RX5 28 (TX5 2).1 (TX5 2).2.1 (TX5 2).2.2.1 ∈ wsX5_begin := by decide +kernel
theorem wf_X5_begin_32 : Cond.fieldLink RX5 32 (TX5 3).1 (TX5 3).2.1 (TX5 3).2.2.1 ∈ wsX5_begin := by decide +kernel
set_option maxHeartbeats 4000000 in
set_option maxRecDepth 100000 in
theorem ct_X5_begin {la : Launch} {E : Ev} (hE : okE E) (hX : xin E) {σ : Sg} {n e l : Nat} {ky pr : Int32} (hn : n < 9 ∧ e < 2 ∧ l < 6 := by omega) : CV la yX5_begin wsX5_begin 0 0 E rh0 [.ref (ad E (5, n, e, l)), .int ky, .int pr] σ (pBegin σ n e l ky pr) := by
  refine met_of (lv := [some _, some _, some _]) RX5 (by decide) rfl rfl rfl hE (ok3 rfl rfl rfl) (Nat.le_of_ble_eq_true rfl) (fun p ev s m args below meth c Q cx hlk hr hQ => ?_)
  refine A_aload_n (q := 1) cx dX5_begin_0 rfl rfl rfl ?_
  refine A_iconst (v := 1) (q := 2) cx dX5_begin_1 (by decide) rfl ?_
  refine pX5_0 (q := 5) cx wi_X5_begin_X5 wf_X5_begin_21 dX5_begin_2 rfl (in5 hX (by omega)) (by first | exact Or.inl rfl | exact Or.inr rfl | exact b01_or _ | assumption) rfl ?_
  refine A_aload_n (q := 6) cx dX5_begin_5 rfl rfl rfl ?_
  refine A_iconst (v := 1) (q := 7) cx dX5_begin_6 (by decide) rfl ?_
  refine pX5_7 (q := 10) cx wi_X5_begin_X5 wf_X5_begin_41 dX5_begin_7 rfl (in5 hX (by omega)) rfl ?_
  refine A_aload_n (q := 11) cx dX5_begin_10 rfl rfl rfl ?_
  refine A_iload_n (q := 12) cx dX5_begin_11 rfl rfl ?_
  refine pX5_2 (q := 15) cx wi_X5_begin_X5 wf_X5_begin_28 dX5_begin_12 rfl (in5 hX (by omega)) rfl ?_
  refine A_aload_n (q := 16) cx dX5_begin_15 rfl rfl rfl ?_
  refine A_iload_n (q := 17) cx dX5_begin_16 rfl rfl ?_
  refine pX5_3 (q := 20) cx wi_X5_begin_X5 wf_X5_begin_32 dX5_begin_17 rfl (in5 hX (by omega)) rfl ?_
  exact A_vret cx hlk hr hQ dX5_begin_20 rfl
theorem wi_X5_copyFrom_X5 : ∀ w ∈ u_ws RX5 TX5 11, w ∈ wsX5_copyFrom := by decide +kernel
theorem wf_X5_copyFrom_21 : Cond.fieldLink RX5 21 (TX5 0).1 (TX5 0).2.1 (TX5 0).2.2.1 ∈ wsX5_copyFrom := by decide +kernel
theorem wf_X5_copyFrom_25 : Cond.fieldLink RX5 25 (TX5 1).1 (TX5 1).2.1 (TX5 1).2.2.1 ∈ wsX5_copyFrom := by decide +kernel
theorem wf_X5_copyFrom_28 : Cond.fieldLink RX5 28 (TX5 2).1 (TX5 2).2.1 (TX5 2).2.2.1 ∈ wsX5_copyFrom := by decide +kernel
theorem wf_X5_copyFrom_32 : Cond.fieldLink RX5 32 (TX5 3).1 (TX5 3).2.1 (TX5 3).2.2.1 ∈ wsX5_copyFrom := by decide +kernel
theorem wf_X5_copyFrom_12 : Cond.fieldLink RX5 12 (TX5 4).1 (TX5 4).2.1 (TX5 4).2.2.1 ∈ wsX5_copyFrom := by decide +kernel
theorem wf_X5_copyFrom_18 : Cond.fieldLink RX5 18 (TX5 5).1 (TX5 5).2.1 (TX5 5).2.2.1 ∈ wsX5_copyFrom := by decide +kernel
theorem wf_X5_copyFrom_38 : Cond.fieldLink RX5 38 (TX5 6).1 (TX5 6).2.1 (TX5 6).2.2.1 ∈ wsX5_copyFrom := by decide +kernel
theorem wf_X5_copyFrom_41 : Cond.fieldLink RX5 41 (TX5 7).1 (TX5 7).2.1 (TX5 7).2.2.1 ∈ wsX5_copyFrom := by decide +kernel
theorem wf_X5_copyFrom_44 : Cond.fieldLink RX5 44 (TX5 8).1 (TX5 8).2.1 (TX5 8).2.2.1 ∈ wsX5_copyFrom := by decide +kernel
theorem wf_X5_copyFrom_47 : Cond.fieldLink RX5 47 (TX5 9).1 (TX5 9).2.1 (TX5 9).2.2.1 ∈ wsX5_copyFrom := by decide +kernel
theorem wf_X5_copyFrom_50 : Cond.fieldLink RX5 50 (TX5 10).1 (TX5 10).2.1 (TX5 10).2.2.1 ∈ wsX5_copyFrom := by decide +kernel
set_option maxHeartbeats 4000000 in
set_option maxRecDepth 100000 in
theorem ct_X5_copyFrom {la : Launch} {E : Ev} (hE : okE E) (hX : xin E) {σ : Sg} {n e l : Nat} (hn : n < 9 ∧ e < 2 ∧ l < 6 := by omega) {n2 e2 l2 : Nat} (hn2 : n2 < 9 ∧ e2 < 2 ∧ l2 < 6 := by omega) : CV la yX5_copyFrom wsX5_copyFrom 1 21 E rh0 [.ref (ad E (5, n, e, l)), .ref (ad E (5, n2, e2, l2))] σ (pCopy σ n e l n2 e2 l2) := by
  refine met_of (lv := [some _, some _]) RX5 (by decide) rfl rfl rfl hE (ok2 rfl rfl) (Nat.le_of_ble_eq_true rfl) (fun p ev s m args below meth c Q cx hlk hr hQ => ?_)
  refine A_aload_n (q := 1) cx dX5_copyFrom_0 rfl rfl rfl ?_
  refine A_aload_n (q := 2) cx dX5_copyFrom_1 rfl rfl rfl ?_
  refine gX5_0 (q := 5) cx wi_X5_copyFrom_X5 wf_X5_copyFrom_21 dX5_copyFrom_2 rfl (in5 hX (by omega)) rfl ?_
  refine pX5_0 (q := 8) cx wi_X5_copyFrom_X5 wf_X5_copyFrom_21 dX5_copyFrom_5 rfl (in5 hX (by omega)) (by first | exact Or.inl rfl | exact Or.inr rfl | exact b01_or _ | assumption) rfl ?_
  refine A_aload_n (q := 9) cx dX5_copyFrom_8 rfl rfl rfl ?_
  refine A_aload_n (q := 10) cx dX5_copyFrom_9 rfl rfl rfl ?_
  refine gX5_1 (q := 13) cx wi_X5_copyFrom_X5 wf_X5_copyFrom_25 dX5_copyFrom_10 rfl (in5 hX (by omega)) rfl ?_
  refine pX5_1 (q := 16) cx wi_X5_copyFrom_X5 wf_X5_copyFrom_25 dX5_copyFrom_13 rfl (in5 hX (by omega)) (by first | exact Or.inl rfl | exact Or.inr rfl | exact b01_or _ | assumption) rfl ?_
  refine A_aload_n (q := 17) cx dX5_copyFrom_16 rfl rfl rfl ?_
  refine A_aload_n (q := 18) cx dX5_copyFrom_17 rfl rfl rfl ?_
  refine gX5_2 (q := 21) cx wi_X5_copyFrom_X5 wf_X5_copyFrom_28 dX5_copyFrom_18 rfl (in5 hX (by omega)) rfl ?_
  refine pX5_2 (q := 24) cx wi_X5_copyFrom_X5 wf_X5_copyFrom_28 dX5_copyFrom_21 rfl (in5 hX (by omega)) rfl ?_
  refine A_aload_n (q := 25) cx dX5_copyFrom_24 rfl rfl rfl ?_
  refine A_aload_n (q := 26) cx dX5_copyFrom_25 rfl rfl rfl ?_
  refine gX5_3 (q := 29) cx wi_X5_copyFrom_X5 wf_X5_copyFrom_32 dX5_copyFrom_26 rfl (in5 hX (by omega)) rfl ?_
  refine pX5_3 (q := 32) cx wi_X5_copyFrom_X5 wf_X5_copyFrom_32 dX5_copyFrom_29 rfl (in5 hX (by omega)) rfl ?_
  refine A_aload_n (q := 33) cx dX5_copyFrom_32 rfl rfl rfl ?_
  refine gX5_4 (q := 36) cx wi_X5_copyFrom_X5 wf_X5_copyFrom_12 dX5_copyFrom_33 rfl (in5 hX (by omega)) rfl rfl ?_
  refine A_aload_n (q := 37) cx dX5_copyFrom_36 rfl rfl rfl ?_
  refine gX5_4 (q := 40) cx wi_X5_copyFrom_X5 wf_X5_copyFrom_12 dX5_copyFrom_37 rfl (in5 hX (by omega)) rfl rfl ?_
  refine VV1 (q := 43) cx (ct_X3_copyFrom hE hX rfl (by first | exact in3 hX hn | exact in14 hX hn) rfl (by first | exact in3 hX hn2 | exact in14 hX hn2)) (cwV 1 cx.1.2.2.2.2 gX5_copyFrom_X3_copyFrom rfl rfl rfl (by decide +kernel) ⟨Nat.le_of_ble_eq_true rfl, Nat.le_of_ble_eq_true rfl⟩) dX5_copyFrom_40 rfl rfl (by first | assumption | exact in3 hX (by omega) | exact in14 hX (by omega)) rfl (Nat.le_of_ble_eq_true rfl) ⟨Nat.zero_le _, Nat.zero_le _⟩ rfl ?_
  refine A_aload_n (q := 44) cx dX5_copyFrom_43 rfl rfl rfl ?_
  refine gX5_5 (q := 47) cx wi_X5_copyFrom_X5 wf_X5_copyFrom_18 dX5_copyFrom_44 rfl (in5 hX (by omega)) rfl rfl ?_
  refine A_aload_n (q := 48) cx dX5_copyFrom_47 rfl rfl rfl ?_
  refine gX5_5 (q := 51) cx wi_X5_copyFrom_X5 wf_X5_copyFrom_18 dX5_copyFrom_48 rfl (in5 hX (by omega)) rfl rfl ?_
  refine VV1 (q := 54) cx (ct_X3_copyFrom hE hX rfl (by first | exact in3 hX hn | exact in14 hX hn) rfl (by first | exact in3 hX hn2 | exact in14 hX hn2)) (cwV 1 cx.1.2.2.2.2 gX5_copyFrom_X3_copyFrom rfl rfl rfl (by decide +kernel) ⟨Nat.le_of_ble_eq_true rfl, Nat.le_of_ble_eq_true rfl⟩) dX5_copyFrom_51 rfl rfl (by first | assumption | exact in3 hX (by omega) | exact in14 hX (by omega)) rfl (Nat.le_of_ble_eq_true rfl) ⟨Nat.zero_le _, Nat.zero_le _⟩ rfl ?_
  refine A_aload_n (q := 55) cx dX5_copyFrom_54 rfl rfl rfl ?_
  refine A_aload_n (q := 56) cx dX5_copyFrom_55 rfl rfl rfl ?_
  refine gX5_6 (q := 59) cx wi_X5_copyFrom_X5 wf_X5_copyFrom_38 dX5_copyFrom_56 rfl (in5 hX (by omega)) rfl ?_
  refine pX5_6 (q := 62) cx wi_X5_copyFrom_X5 wf_X5_copyFrom_38 dX5_copyFrom_59 rfl (in5 hX (by omega)) rfl ?_
  refine A_aload_n (q := 63) cx dX5_copyFrom_62 rfl rfl rfl ?_
  refine A_aload_n (q := 64) cx dX5_copyFrom_63 rfl rfl rfl ?_
  refine gX5_7 (q := 67) cx wi_X5_copyFrom_X5 wf_X5_copyFrom_41 dX5_copyFrom_64 rfl (in5 hX (by omega)) rfl ?_
  refine pX5_7 (q := 70) cx wi_X5_copyFrom_X5 wf_X5_copyFrom_41 dX5_copyFrom_67 rfl (in5 hX (by omega)) rfl ?_
  refine A_aload_n (q := 71) cx dX5_copyFrom_70 rfl rfl rfl ?_
  refine A_aload_n (q := 72) cx dX5_copyFrom_71 rfl rfl rfl ?_
  refine gX5_8 (q := 75) cx wi_X5_copyFrom_X5 wf_X5_copyFrom_44 dX5_copyFrom_72 rfl (in5 hX (by omega)) rfl ?_
  refine pX5_8 (q := 78) cx wi_X5_copyFrom_X5 wf_X5_copyFrom_44 dX5_copyFrom_75 rfl (in5 hX (by omega)) (by first | exact Or.inl rfl | exact Or.inr rfl | exact b01_or _ | assumption) rfl ?_
  refine A_aload_n (q := 79) cx dX5_copyFrom_78 rfl rfl rfl ?_
  refine A_aload_n (q := 80) cx dX5_copyFrom_79 rfl rfl rfl ?_
  refine gX5_9 (q := 83) cx wi_X5_copyFrom_X5 wf_X5_copyFrom_47 dX5_copyFrom_80 rfl (in5 hX (by omega)) rfl ?_
  refine pX5_9 (q := 86) cx wi_X5_copyFrom_X5 wf_X5_copyFrom_47 dX5_copyFrom_83 rfl (in5 hX (by omega)) rfl ?_
  refine A_aload_n (q := 87) cx dX5_copyFrom_86 rfl rfl rfl ?_
  refine A_aload_n (q := 88) cx dX5_copyFrom_87 rfl rfl rfl ?_
  refine gX5_10 (q := 91) cx wi_X5_copyFrom_X5 wf_X5_copyFrom_50 dX5_copyFrom_88 rfl (in5 hX (by omega)) rfl ?_
  refine pX5_10 (q := 94) cx wi_X5_copyFrom_X5 wf_X5_copyFrom_50 dX5_copyFrom_91 rfl (in5 hX (by omega)) rfl ?_
  exact A_vret cx hlk hr hQ dX5_copyFrom_94 rfl
theorem wi_X5_hear_X5 : ∀ w ∈ u_ws RX5 TX5 11, w ∈ wsX5_hear := by decide +kernel
theorem wf_X5_hear_21 : Cond.fieldLink RX5 21 (TX5 0).1 (TX5 0).2.1 (TX5 0).2.2.1 ∈ wsX5_hear := by decide +kernel
theorem wi_X5_hear_X3 : ∀ w ∈ u_ws RX3 TX3 5, w ∈ wsX5_hear := by decide +kernel
theorem wf_X5_hear_57 : Cond.fieldLink RX5 57 (TX3 0).1 (TX3 0).2.1 (TX3 0).2.2.1 ∈ wsX5_hear := by decide +kernel
theorem wf_X5_hear_12 : Cond.fieldLink RX5 12 (TX5 4).1 (TX5 4).2.1 (TX5 4).2.2.1 ∈ wsX5_hear := by decide +kernel
theorem wf_X5_hear_38 : Cond.fieldLink RX5 38 (TX5 6).1 (TX5 6).2.1 (TX5 6).2.2.1 ∈ wsX5_hear := by decide +kernel
set_option maxHeartbeats 4000000 in
set_option maxRecDepth 100000 in
theorem ct_X5_hear {la : Launch} {E : Ev} (hE : okE E) (hX : xin E) {σ : Sg} {n e l : Nat} {k2 : Ky} (hk2 : kc k2 = 3) (hm2 : k2 ∈ ks E) (hn : n < 9 ∧ e < 2 ∧ l < 6 := by omega) : CV la yX5_hear wsX5_hear 1 21 E rh0 [.ref (ad E (5, n, e, l)), .ref (ad E k2)] σ (pHear σ n e l k2) := by
  refine met_of (lv := [some _, some _]) RX5 (by decide) rfl rfl rfl hE (ok2 rfl rfl) (Nat.le_of_ble_eq_true rfl) (fun p ev s m args below meth c Q cx hlk hr hQ => ?_)
  refine A_aload_n (q := 1) cx dX5_hear_0 rfl rfl rfl ?_
  refine gX5_0 (q := 4) cx wi_X5_hear_X5 wf_X5_hear_21 dX5_hear_1 rfl (in5 hX (by omega)) rfl ?_
  refine A_if_ne (tgt := 18) (q := 7) cx dX5_hear_4 (by decide) rfl (fun c_4 => ?_) (fun c_4 => ?_)
  · refine A_aload_n (q := 19) cx dX5_hear_18 rfl rfl rfl ?_
    refine gX3_0 (q := 22) cx wi_X5_hear_X3 wf_X5_hear_57 dX5_hear_19 hk2 hm2 rfl ?_
    refine A_if_eq (tgt := 41) (q := 25) cx dX5_hear_22 (by decide) rfl (fun c_22 => ?_) (fun c_22 => ?_)
    · refine A_aload_n (q := 42) cx dX5_hear_41 rfl rfl rfl ?_
      refine gX5_4 (q := 45) cx wi_X5_hear_X5 wf_X5_hear_12 dX5_hear_42 rfl (in5 hX (by omega)) rfl rfl ?_
      refine gX3_0 (q := 48) cx wi_X5_hear_X3 wf_X5_hear_57 dX5_hear_45 rfl (by first | assumption | exact in3 hX (by omega) | exact in14 hX (by omega)) rfl ?_
      refine A_if_eq (tgt := 81) (q := 51) cx dX5_hear_48 (by decide) rfl (fun c_48 => ?_) (fun c_48 => ?_)
      · exact A_vret cx hlk hr hQ dX5_hear_81 (by first | (simp only [pHear, *, if_true, if_false, ite_true, ite_false, true_or, or_true, false_or, or_false, and_true, true_and, and_false, false_and, and_self, or_self, not_true_eq_false, not_false_eq_true, ne_eq, reduceIte, decide_true, decide_false, Bool.and_true, Bool.true_and, Bool.and_false, Bool.false_and]; done) | (simp [pHear, *]; done) | (simp_all [pHear]; done))
      · refine A_aload_n (q := 52) cx dX5_hear_51 rfl rfl rfl ?_
        refine A_dup (q := 53) cx dX5_hear_52 rfl rfl ?_
        refine gX5_6 (q := 56) cx wi_X5_hear_X5 wf_X5_hear_38 dX5_hear_53 rfl (in5 hX (by omega)) rfl ?_
        refine A_iconst (v := 1) (q := 57) cx dX5_hear_56 (by decide) rfl ?_
        refine A_iadd (q := 58) cx dX5_hear_57 rfl ?_
        refine pX5_6 (q := 61) cx wi_X5_hear_X5 wf_X5_hear_38 dX5_hear_58 rfl (in5 hX (by omega)) rfl ?_
        refine A_aload_n (q := 62) cx dX5_hear_61 rfl rfl rfl ?_
        refine gX5_4 (q := 65) cx wi_X5_hear_X5 wf_X5_hear_12 dX5_hear_62 rfl (in5 hX (by omega)) rfl rfl ?_
        refine A_aload_n (q := 66) cx dX5_hear_65 rfl rfl rfl ?_
        refine gX5_6 (q := 69) cx wi_X5_hear_X5 wf_X5_hear_38 dX5_hear_66 rfl (in5 hX (by omega)) rfl ?_
        refine A_iconst (v := 3) (q := 70) cx dX5_hear_69 (by decide) rfl ?_
        refine A_icmp_ge (tgt := 77) (q := 73) cx dX5_hear_70 (by decide) rfl (fun c_70 => ?_) (fun c_70 => ?_)
        · refine A_iconst (v := 0) (q := 78) cx dX5_hear_77 (by decide) rfl ?_
          refine pX3_0 (q := 81) cx wi_X5_hear_X3 wf_X5_hear_57 dX5_hear_78 rfl (by first | assumption | exact in3 hX (by omega) | exact in14 hX (by omega)) (by first | exact Or.inl rfl | exact Or.inr rfl | exact b01_or _ | assumption) rfl ?_
          exact A_vret cx hlk hr hQ dX5_hear_81 (by first | (simp only [pHear, *, if_true, if_false, ite_true, ite_false, true_or, or_true, false_or, or_false, and_true, true_and, and_false, false_and, and_self, or_self, not_true_eq_false, not_false_eq_true, ne_eq, reduceIte, decide_true, decide_false, Bool.and_true, Bool.true_and, Bool.and_false, Bool.false_and]; done) | (simp [pHear, *]; done) | (simp_all [pHear]; done))
        · refine A_iconst (v := 1) (q := 74) cx dX5_hear_73 (by decide) rfl ?_
          refine A_goto (q := 78) cx dX5_hear_74 (by decide) ?_
          refine pX3_0 (q := 81) cx wi_X5_hear_X3 wf_X5_hear_57 dX5_hear_78 rfl (by first | assumption | exact in3 hX (by omega) | exact in14 hX (by omega)) (by first | exact Or.inl rfl | exact Or.inr rfl | exact b01_or _ | assumption) rfl ?_
          exact A_vret cx hlk hr hQ dX5_hear_81 (by first | (simp only [pHear, *, if_true, if_false, ite_true, ite_false, true_or, or_true, false_or, or_false, and_true, true_and, and_false, false_and, and_self, or_self, not_true_eq_false, not_false_eq_true, ne_eq, reduceIte, decide_true, decide_false, Bool.and_true, Bool.true_and, Bool.and_false, Bool.false_and]; done) | (simp [pHear, *]; done) | (simp_all [pHear]; done))
    · refine A_aload_n (q := 26) cx dX5_hear_25 rfl rfl rfl ?_
      refine gX5_4 (q := 29) cx wi_X5_hear_X5 wf_X5_hear_12 dX5_hear_26 rfl (in5 hX (by omega)) rfl rfl ?_
      refine A_aload_n (q := 30) cx dX5_hear_29 rfl rfl rfl ?_
      refine VV1 (q := 33) cx (ct_X3_copyFrom hE hX rfl (in3 hX hn) hk2 hm2) (cwV 1 cx.1.2.2.2.2 gX5_hear_X3_copyFrom rfl rfl rfl (by decide +kernel) ⟨Nat.le_of_ble_eq_true rfl, Nat.le_of_ble_eq_true rfl⟩) dX5_hear_30 rfl rfl (by first | assumption | exact in3 hX (by omega) | exact in14 hX (by omega)) rfl (Nat.le_of_ble_eq_true rfl) ⟨Nat.zero_le _, Nat.zero_le _⟩ rfl ?_
      refine A_aload_n (q := 34) cx dX5_hear_33 rfl rfl rfl ?_
      refine A_iconst (v := 0) (q := 35) cx dX5_hear_34 (by decide) rfl ?_
      refine pX5_6 (q := 38) cx wi_X5_hear_X5 wf_X5_hear_38 dX5_hear_35 rfl (in5 hX (by omega)) rfl ?_
      refine A_goto (q := 81) cx dX5_hear_38 (by decide) ?_
      exact A_vret cx hlk hr hQ dX5_hear_81 (by first | (simp only [pHear, *, if_true, if_false, ite_true, ite_false, true_or, or_true, false_or, or_false, and_true, true_and, and_false, false_and, and_self, or_self, not_true_eq_false, not_false_eq_true, ne_eq, reduceIte, decide_true, decide_false, Bool.and_true, Bool.true_and, Bool.and_false, Bool.false_and]; done) | (simp [pHear, *]; done) | (simp_all [pHear]; done))
  · refine A_aload_n (q := 8) cx dX5_hear_7 rfl rfl rfl ?_
    refine gX5_4 (q := 11) cx wi_X5_hear_X5 wf_X5_hear_12 dX5_hear_8 rfl (in5 hX (by omega)) rfl rfl ?_
    refine A_iconst (v := 0) (q := 12) cx dX5_hear_11 (by decide) rfl ?_
    refine pX3_0 (q := 15) cx wi_X5_hear_X3 wf_X5_hear_57 dX5_hear_12 rfl (by first | assumption | exact in3 hX (by omega) | exact in14 hX (by omega)) (by first | exact Or.inl rfl | exact Or.inr rfl | exact b01_or _ | assumption) rfl ?_
    refine A_goto (q := 81) cx dX5_hear_15 (by decide) ?_
    exact A_vret cx hlk hr hQ dX5_hear_81 (by first | (simp only [pHear, *, if_true, if_false, ite_true, ite_false, true_or, or_true, false_or, or_false, and_true, true_and, and_false, false_and, and_self, or_self, not_true_eq_false, not_false_eq_true, ne_eq, reduceIte, decide_true, decide_false, Bool.and_true, Bool.true_and, Bool.and_false, Bool.false_and]; done) | (simp [pHear, *]; done) | (simp_all [pHear]; done))
theorem wi_X5_priorityBy_X5 : ∀ w ∈ u_ws RX5 TX5 11, w ∈ wsX5_priorityBy := by decide +kernel
theorem wf_X5_priorityBy_12 : Cond.fieldLink RX5 12 (TX5 4).1 (TX5 4).2.1 (TX5 4).2.2.1 ∈ wsX5_priorityBy := by decide +kernel
theorem wi_X5_priorityBy_X3 : ∀ w ∈ u_ws RX3 TX3 5, w ∈ wsX5_priorityBy := by decide +kernel
theorem wf_X5_priorityBy_60 : Cond.fieldLink RX5 60 (TX3 2).1 (TX3 2).2.1 (TX3 2).2.2.1 ∈ wsX5_priorityBy := by decide +kernel
theorem wf_X5_priorityBy_32 : Cond.fieldLink RX5 32 (TX5 3).1 (TX5 3).2.1 (TX5 3).2.2.1 ∈ wsX5_priorityBy := by decide +kernel
set_option maxHeartbeats 4000000 in
set_option maxRecDepth 100000 in
theorem ct_X5_priorityBy {la : Launch} {E : Ev} (hE : okE E) (hX : xin E) {σ : Sg} {n e l : Nat} {w : Int32} (hn : n < 9 ∧ e < 2 ∧ l < 6 := by omega) : CI la yX5_priorityBy wsX5_priorityBy 0 0 E rh0 [.ref (ad E (5, n, e, l)), .int w] σ (pPrio σ n e l w) σ := by
  refine met_of (lv := [some _, some _]) RX5 (by decide) rfl rfl rfl hE (ok2 rfl rfl) (Nat.le_of_ble_eq_true rfl) (fun p ev s m args below meth c Q cx hlk hr hQ => ?_)
  refine A_iload_n (q := 1) cx dX5_priorityBy_0 rfl rfl ?_
  refine A_if_eq (tgt := 11) (q := 4) cx dX5_priorityBy_1 (by decide) rfl (fun c_1 => ?_) (fun c_1 => ?_)
  · refine A_aload_n (q := 12) cx dX5_priorityBy_11 rfl rfl rfl ?_
    refine gX5_4 (q := 15) cx wi_X5_priorityBy_X5 wf_X5_priorityBy_12 dX5_priorityBy_12 rfl (in5 hX (by omega)) rfl rfl ?_
    refine gX3_2 (q := 18) cx wi_X5_priorityBy_X3 wf_X5_priorityBy_60 dX5_priorityBy_15 rfl (by first | assumption | exact in3 hX (by omega) | exact in14 hX (by omega)) rfl ?_
    exact A_iret cx hlk hr hQ dX5_priorityBy_18 (by first | (simp only [pPrio, *, if_true, if_false, ite_true, ite_false, true_or, or_true, false_or, or_false, and_true, true_and, and_false, false_and, and_self, or_self, not_true_eq_false, not_false_eq_true, ne_eq, reduceIte, decide_true, decide_false, Bool.and_true, Bool.true_and, Bool.and_false, Bool.false_and]; done) | (simp [pPrio, *]; done) | (simp_all [pPrio]; done)) rfl
  · refine A_aload_n (q := 5) cx dX5_priorityBy_4 rfl rfl rfl ?_
    refine gX5_3 (q := 8) cx wi_X5_priorityBy_X5 wf_X5_priorityBy_32 dX5_priorityBy_5 rfl (in5 hX (by omega)) rfl ?_
    refine A_goto (q := 18) cx dX5_priorityBy_8 (by decide) ?_
    exact A_iret cx hlk hr hQ dX5_priorityBy_18 (by first | (simp only [pPrio, *, if_true, if_false, ite_true, ite_false, true_or, or_true, false_or, or_false, and_true, true_and, and_false, false_and, and_self, or_self, not_true_eq_false, not_false_eq_true, ne_eq, reduceIte, decide_true, decide_false, Bool.and_true, Bool.true_and, Bool.and_false, Bool.false_and]; done) | (simp [pPrio, *]; done) | (simp_all [pPrio]; done)) rfl
theorem wi_X5_hasPairOf_X5 : ∀ w ∈ u_ws RX5 TX5 11, w ∈ wsX5_hasPairOf := by decide +kernel
theorem wf_X5_hasPairOf_28 : Cond.fieldLink RX5 28 (TX5 2).1 (TX5 2).2.1 (TX5 2).2.2.1 ∈ wsX5_hasPairOf := by decide +kernel
theorem wf_X5_hasPairOf_12 : Cond.fieldLink RX5 12 (TX5 4).1 (TX5 4).2.1 (TX5 4).2.2.1 ∈ wsX5_hasPairOf := by decide +kernel
theorem wi_X5_hasPairOf_X3 : ∀ w ∈ u_ws RX3 TX3 5, w ∈ wsX5_hasPairOf := by decide +kernel
theorem wf_X5_hasPairOf_61 : Cond.fieldLink RX5 61 (TX3 1).1 (TX3 1).2.1 (TX3 1).2.2.1 ∈ wsX5_hasPairOf := by decide +kernel
set_option maxHeartbeats 4000000 in
set_option maxRecDepth 100000 in
theorem ct_X5_hasPairOf {la : Launch} {E : Ev} (hE : okE E) (hX : xin E) {σ : Sg} {n e l : Nat} (hn : n < 9 ∧ e < 2 ∧ l < 6 := by omega) {n2 e2 l2 : Nat} (hn2 : n2 < 9 ∧ e2 < 2 ∧ l2 < 6 := by omega) : CI la yX5_hasPairOf wsX5_hasPairOf 0 0 E rh0 [.ref (ad E (5, n, e, l)), .ref (ad E (5, n2, e2, l2))] σ (pPair σ n e l n2 e2 l2) σ := by
  refine met_of (lv := [some _, some _]) RX5 (by decide) rfl rfl rfl hE (ok2 rfl rfl) (Nat.le_of_ble_eq_true rfl) (fun p ev s m args below meth c Q cx hlk hr hQ => ?_)
  refine A_aload_n (q := 1) cx dX5_hasPairOf_0 rfl rfl rfl ?_
  refine gX5_2 (q := 4) cx wi_X5_hasPairOf_X5 wf_X5_hasPairOf_28 dX5_hasPairOf_1 rfl (in5 hX (by omega)) rfl ?_
  refine A_aload_n (q := 5) cx dX5_hasPairOf_4 rfl rfl rfl ?_
  refine gX5_2 (q := 8) cx wi_X5_hasPairOf_X5 wf_X5_hasPairOf_28 dX5_hasPairOf_5 rfl (in5 hX (by omega)) rfl ?_
  refine A_icmp_ne (tgt := 32) (q := 11) cx dX5_hasPairOf_8 (by decide) rfl (fun c_8 => ?_) (fun c_8 => ?_)
  · refine A_iconst (v := 0) (q := 33) cx dX5_hasPairOf_32 (by decide) rfl ?_
    exact A_zret cx hlk hr hQ dX5_hasPairOf_33 (by first | exact Or.inl rfl | exact Or.inr rfl | exact b01_or _ | assumption) (by first | (simp only [pPair, *, if_true, if_false, ite_true, ite_false, true_or, or_true, false_or, or_false, and_true, true_and, and_false, false_and, and_self, or_self, not_true_eq_false, not_false_eq_true, ne_eq, reduceIte, decide_true, decide_false, Bool.and_true, Bool.true_and, Bool.and_false, Bool.false_and]; done) | (simp [pPair, *]; done) | (simp_all [pPair]; done)) rfl
  · refine A_aload_n (q := 12) cx dX5_hasPairOf_11 rfl rfl rfl ?_
    refine gX5_4 (q := 15) cx wi_X5_hasPairOf_X5 wf_X5_hasPairOf_12 dX5_hasPairOf_12 rfl (in5 hX (by omega)) rfl rfl ?_
    refine gX3_1 (q := 18) cx wi_X5_hasPairOf_X3 wf_X5_hasPairOf_61 dX5_hasPairOf_15 rfl (by first | assumption | exact in3 hX (by omega) | exact in14 hX (by omega)) rfl ?_
    refine A_aload_n (q := 19) cx dX5_hasPairOf_18 rfl rfl rfl ?_
    refine gX5_4 (q := 22) cx wi_X5_hasPairOf_X5 wf_X5_hasPairOf_12 dX5_hasPairOf_19 rfl (in5 hX (by omega)) rfl rfl ?_
    refine gX3_1 (q := 25) cx wi_X5_hasPairOf_X3 wf_X5_hasPairOf_61 dX5_hasPairOf_22 rfl (by first | assumption | exact in3 hX (by omega) | exact in14 hX (by omega)) rfl ?_
    refine A_icmp_ne (tgt := 32) (q := 28) cx dX5_hasPairOf_25 (by decide) rfl (fun c_25 => ?_) (fun c_25 => ?_)
    · refine A_iconst (v := 0) (q := 33) cx dX5_hasPairOf_32 (by decide) rfl ?_
      exact A_zret cx hlk hr hQ dX5_hasPairOf_33 (by first | exact Or.inl rfl | exact Or.inr rfl | exact b01_or _ | assumption) (by first | (simp only [pPair, *, if_true, if_false, ite_true, ite_false, true_or, or_true, false_or, or_false, and_true, true_and, and_false, false_and, and_self, or_self, not_true_eq_false, not_false_eq_true, ne_eq, reduceIte, decide_true, decide_false, Bool.and_true, Bool.true_and, Bool.and_false, Bool.false_and]; done) | (simp [pPair, *]; done) | (simp_all [pPair]; done)) rfl
    · refine A_iconst (v := 1) (q := 29) cx dX5_hasPairOf_28 (by decide) rfl ?_
      refine A_goto (q := 33) cx dX5_hasPairOf_29 (by decide) ?_
      exact A_zret cx hlk hr hQ dX5_hasPairOf_33 (by first | exact Or.inl rfl | exact Or.inr rfl | exact b01_or _ | assumption) (by first | (simp only [pPair, *, if_true, if_false, ite_true, ite_false, true_or, or_true, false_or, or_false, and_true, true_and, and_false, false_and, and_self, or_self, not_true_eq_false, not_false_eq_true, ne_eq, reduceIte, decide_true, decide_false, Bool.and_true, Bool.true_and, Bool.and_false, Bool.false_and]; done) | (simp [pPair, *]; done) | (simp_all [pPair]; done)) rfl
theorem wi_X5_howNow_X5 : ∀ w ∈ u_ws RX5 TX5 11, w ∈ wsX5_howNow := by decide +kernel
theorem wf_X5_howNow_21 : Cond.fieldLink RX5 21 (TX5 0).1 (TX5 0).2.1 (TX5 0).2.2.1 ∈ wsX5_howNow := by decide +kernel
theorem wf_X5_howNow_12 : Cond.fieldLink RX5 12 (TX5 4).1 (TX5 4).2.1 (TX5 4).2.2.1 ∈ wsX5_howNow := by decide +kernel
theorem wi_X5_howNow_X3 : ∀ w ∈ u_ws RX3 TX3 5, w ∈ wsX5_howNow := by decide +kernel
theorem wf_X5_howNow_57 : Cond.fieldLink RX5 57 (TX3 0).1 (TX3 0).2.1 (TX3 0).2.2.1 ∈ wsX5_howNow := by decide +kernel
theorem wf_X5_howNow_44 : Cond.fieldLink RX5 44 (TX5 8).1 (TX5 8).2.1 (TX5 8).2.2.1 ∈ wsX5_howNow := by decide +kernel
theorem wf_X5_howNow_47 : Cond.fieldLink RX5 47 (TX5 9).1 (TX5 9).2.1 (TX5 9).2.2.1 ∈ wsX5_howNow := by decide +kernel
theorem wf_X5_howNow_66 : Cond.fieldLink RX5 66 (TX3 4).1 (TX3 4).2.1 (TX3 4).2.2.1 ∈ wsX5_howNow := by decide +kernel
set_option maxHeartbeats 4000000 in
set_option maxRecDepth 100000 in
theorem ct_X5_howNow {la : Launch} {E : Ev} (hE : okE E) (hX : xin E) {σ : Sg} {n e l : Nat} {wt : Int32} (hn : n < 9 ∧ e < 2 ∧ l < 6 := by omega) : CI la yX5_howNow wsX5_howNow 0 0 E rh0 [.ref (ad E (5, n, e, l)), .int wt] σ (pHow σ n e l wt) σ := by
  refine met_of (lv := [some _, some _]) RX5 (by decide) rfl rfl rfl hE (ok2 rfl rfl) (Nat.le_of_ble_eq_true rfl) (fun p ev s m args below meth c Q cx hlk hr hQ => ?_)
  refine A_aload_n (q := 1) cx dX5_howNow_0 rfl rfl rfl ?_
  refine gX5_0 (q := 4) cx wi_X5_howNow_X5 wf_X5_howNow_21 dX5_howNow_1 rfl (in5 hX (by omega)) rfl ?_
  refine A_if_ne (tgt := 9) (q := 7) cx dX5_howNow_4 (by decide) rfl (fun c_4 => ?_) (fun c_4 => ?_)
  · refine A_aload_n (q := 10) cx dX5_howNow_9 rfl rfl rfl ?_
    refine gX5_4 (q := 13) cx wi_X5_howNow_X5 wf_X5_howNow_12 dX5_howNow_10 rfl (in5 hX (by omega)) rfl rfl ?_
    refine gX3_0 (q := 16) cx wi_X5_howNow_X3 wf_X5_howNow_57 dX5_howNow_13 rfl (by first | assumption | exact in3 hX (by omega) | exact in14 hX (by omega)) rfl ?_
    refine A_if_ne (tgt := 21) (q := 19) cx dX5_howNow_16 (by decide) rfl (fun c_16 => ?_) (fun c_16 => ?_)
    · refine A_aload_n (q := 22) cx dX5_howNow_21 rfl rfl rfl ?_
      refine gX5_8 (q := 25) cx wi_X5_howNow_X5 wf_X5_howNow_44 dX5_howNow_22 rfl (in5 hX (by omega)) rfl ?_
      refine A_if_ne (tgt := 30) (q := 28) cx dX5_howNow_25 (by decide) rfl (fun c_25 => ?_) (fun c_25 => ?_)
      · refine A_aload_n (q := 31) cx dX5_howNow_30 rfl rfl rfl ?_
        refine gX5_9 (q := 34) cx wi_X5_howNow_X5 wf_X5_howNow_47 dX5_howNow_31 rfl (in5 hX (by omega)) rfl ?_
        refine A_iload_n (q := 35) cx dX5_howNow_34 rfl rfl ?_
        refine A_icmp_ge (tgt := 40) (q := 38) cx dX5_howNow_35 (by decide) rfl (fun c_35 => ?_) (fun c_35 => ?_)
        · refine A_aload_n (q := 41) cx dX5_howNow_40 rfl rfl rfl ?_
          refine gX5_4 (q := 44) cx wi_X5_howNow_X5 wf_X5_howNow_12 dX5_howNow_41 rfl (in5 hX (by omega)) rfl rfl ?_
          refine gX3_4 (q := 47) cx wi_X5_howNow_X3 wf_X5_howNow_66 dX5_howNow_44 rfl (by first | assumption | exact in3 hX (by omega) | exact in14 hX (by omega)) rfl ?_
          refine A_if_eq (tgt := 54) (q := 50) cx dX5_howNow_47 (by decide) rfl (fun c_47 => ?_) (fun c_47 => ?_)
          · refine A_iconst (v := 4) (q := 55) cx dX5_howNow_54 (by decide) rfl ?_
            exact A_iret cx hlk hr hQ dX5_howNow_55 (by first | (simp only [pHow, *, if_true, if_false, ite_true, ite_false, true_or, or_true, false_or, or_false, and_true, true_and, and_false, false_and, and_self, or_self, not_true_eq_false, not_false_eq_true, ne_eq, reduceIte, decide_true, decide_false, Bool.and_true, Bool.true_and, Bool.and_false, Bool.false_and]; done) | (simp [pHow, *]; done) | (simp_all [pHow]; done)) rfl
          · refine A_iconst (v := 5) (q := 51) cx dX5_howNow_50 (by decide) rfl ?_
            refine A_goto (q := 55) cx dX5_howNow_51 (by decide) ?_
            exact A_iret cx hlk hr hQ dX5_howNow_55 (by first | (simp only [pHow, *, if_true, if_false, ite_true, ite_false, true_or, or_true, false_or, or_false, and_true, true_and, and_false, false_and, and_self, or_self, not_true_eq_false, not_false_eq_true, ne_eq, reduceIte, decide_true, decide_false, Bool.and_true, Bool.true_and, Bool.and_false, Bool.false_and]; done) | (simp [pHow, *]; done) | (simp_all [pHow]; done)) rfl
        · refine A_iconst (v := 3) (q := 39) cx dX5_howNow_38 (by decide) rfl ?_
          exact A_iret cx hlk hr hQ dX5_howNow_39 (by first | (simp only [pHow, *, if_true, if_false, ite_true, ite_false, true_or, or_true, false_or, or_false, and_true, true_and, and_false, false_and, and_self, or_self, not_true_eq_false, not_false_eq_true, ne_eq, reduceIte, decide_true, decide_false, Bool.and_true, Bool.true_and, Bool.and_false, Bool.false_and]; done) | (simp [pHow, *]; done) | (simp_all [pHow]; done)) rfl
      · refine A_iconst (v := 2) (q := 29) cx dX5_howNow_28 (by decide) rfl ?_
        exact A_iret cx hlk hr hQ dX5_howNow_29 (by first | (simp only [pHow, *, if_true, if_false, ite_true, ite_false, true_or, or_true, false_or, or_false, and_true, true_and, and_false, false_and, and_self, or_self, not_true_eq_false, not_false_eq_true, ne_eq, reduceIte, decide_true, decide_false, Bool.and_true, Bool.true_and, Bool.and_false, Bool.false_and]; done) | (simp [pHow, *]; done) | (simp_all [pHow]; done)) rfl
    · refine A_iconst (v := 1) (q := 20) cx dX5_howNow_19 (by decide) rfl ?_
      exact A_iret cx hlk hr hQ dX5_howNow_20 (by first | (simp only [pHow, *, if_true, if_false, ite_true, ite_false, true_or, or_true, false_or, or_false, and_true, true_and, and_false, false_and, and_self, or_self, not_true_eq_false, not_false_eq_true, ne_eq, reduceIte, decide_true, decide_false, Bool.and_true, Bool.true_and, Bool.and_false, Bool.false_and]; done) | (simp [pHow, *]; done) | (simp_all [pHow]; done)) rfl
  · refine A_iconst (v := 0) (q := 8) cx dX5_howNow_7 (by decide) rfl ?_
    exact A_iret cx hlk hr hQ dX5_howNow_8 (by first | (simp only [pHow, *, if_true, if_false, ite_true, ite_false, true_or, or_true, false_or, or_false, and_true, true_and, and_false, false_and, and_self, or_self, not_true_eq_false, not_false_eq_true, ne_eq, reduceIte, decide_true, decide_false, Bool.and_true, Bool.true_and, Bool.and_false, Bool.false_and]; done) | (simp [pHow, *]; done) | (simp_all [pHow]; done)) rfl
theorem wi_X5_judge_X5 : ∀ w ∈ u_ws RX5 TX5 11, w ∈ wsX5_judge := by decide +kernel
theorem wf_X5_judge_44 : Cond.fieldLink RX5 44 (TX5 8).1 (TX5 8).2.1 (TX5 8).2.2.1 ∈ wsX5_judge := by decide +kernel
theorem wf_X5_judge_47 : Cond.fieldLink RX5 47 (TX5 9).1 (TX5 9).2.1 (TX5 9).2.2.1 ∈ wsX5_judge := by decide +kernel
theorem wf_X5_judge_41 : Cond.fieldLink RX5 41 (TX5 7).1 (TX5 7).2.1 (TX5 7).2.2.1 ∈ wsX5_judge := by decide +kernel
theorem wf_X5_judge_50 : Cond.fieldLink RX5 50 (TX5 10).1 (TX5 10).2.1 (TX5 10).2.2.1 ∈ wsX5_judge := by decide +kernel
set_option maxHeartbeats 4000000 in
set_option maxRecDepth 100000 in
theorem ct_X5_judge {la : Launch} {E : Ev} (hE : okE E) (hX : xin E) {σ : Sg} {n e l : Nat} {wt : Int32} (hn : n < 9 ∧ e < 2 ∧ l < 6 := by omega) : CV la yX5_judge wsX5_judge 1 21 E rh0 [.ref (ad E (5, n, e, l)), .int wt] σ (pJudge σ n e l wt) := by
  refine met_of (lv := [some _, some _, none]) RX5 (by decide) rfl rfl rfl hE (ok2 rfl rfl) (Nat.le_of_ble_eq_true rfl) (fun p ev s m args below meth c Q cx hlk hr hQ => ?_)
  refine A_aload_n (q := 1) cx dX5_judge_0 rfl rfl rfl ?_
  refine A_aload_n (q := 2) cx dX5_judge_1 rfl rfl rfl ?_
  refine gX5_8 (q := 5) cx wi_X5_judge_X5 wf_X5_judge_44 dX5_judge_2 rfl (in5 hX (by omega)) rfl ?_
  refine A_if_eq (tgt := 17) (q := 8) cx dX5_judge_5 (by decide) rfl (fun c_5 => ?_) (fun c_5 => ?_)
  · refine A_iconst (v := -1) (q := 18) cx dX5_judge_17 (by decide) rfl ?_
    refine pX5_9 (q := 21) cx wi_X5_judge_X5 wf_X5_judge_47 dX5_judge_18 rfl (in5 hX (by omega)) rfl ?_
    refine A_aload_n (q := 22) cx dX5_judge_21 rfl rfl rfl ?_
    refine gX5_7 (q := 25) cx wi_X5_judge_X5 wf_X5_judge_41 dX5_judge_22 rfl (in5 hX (by omega)) rfl ?_
    refine A_istore_n (lv' := [some _, some _, some _]) (q := 26) cx dX5_judge_25 (Nat.le_of_ble_eq_true rfl) rfl rfl ?_
    refine A_aload_n (q := 27) cx dX5_judge_26 rfl rfl rfl ?_
    refine A_aload_n (q := 28) cx dX5_judge_27 rfl rfl rfl ?_
    refine A_iload_n (q := 29) cx dX5_judge_28 rfl rfl ?_
    refine VI1 (q := 32) cx (ct_X5_howNow hE hX) (cwV 1 cx.1.2.2.2.2 gX5_judge_X5_howNow rfl rfl rfl (by decide +kernel) ⟨Nat.le_of_ble_eq_true rfl, Nat.le_of_ble_eq_true rfl⟩) dX5_judge_29 rfl rfl (in5 hX (by omega)) rfl (Nat.le_of_ble_eq_true rfl) ⟨Nat.zero_le _, Nat.zero_le _⟩ rfl ?_
    refine pX5_7 (q := 35) cx wi_X5_judge_X5 wf_X5_judge_41 dX5_judge_32 rfl (in5 hX (by omega)) rfl ?_
    refine A_aload_n (q := 36) cx dX5_judge_35 rfl rfl rfl ?_
    refine gX5_7 (q := 39) cx wi_X5_judge_X5 wf_X5_judge_41 dX5_judge_36 rfl (in5 hX (by omega)) rfl ?_
    refine A_iconst (v := 5) (q := 40) cx dX5_judge_39 (by decide) rfl ?_
    refine A_icmp_ne (tgt := 58) (q := 43) cx dX5_judge_40 (by decide) rfl (fun c_40 => ?_) (fun c_40 => ?_)
    · exact A_vret cx hlk hr hQ dX5_judge_58 (by first | (simp only [pJudge, pJudge2, pJudge1, *, if_true, if_false, ite_true, ite_false, true_or, or_true, false_or, or_false, and_true, true_and, and_false, false_and, and_self, or_self, not_true_eq_false, not_false_eq_true, ne_eq, reduceIte, decide_true, decide_false, Bool.and_true, Bool.true_and, Bool.and_false, Bool.false_and]; done) | (simp [pJudge, pJudge2, pJudge1, *]; done) | (simp_all [pJudge, pJudge2, pJudge1]; done))
    · refine A_iload_n (q := 44) cx dX5_judge_43 rfl rfl ?_
      refine A_iconst (v := 5) (q := 45) cx dX5_judge_44 (by decide) rfl ?_
      refine A_icmp_eq (tgt := 58) (q := 48) cx dX5_judge_45 (by decide) rfl (fun c_45 => ?_) (fun c_45 => ?_)
      · exact A_vret cx hlk hr hQ dX5_judge_58 (by first | (simp only [pJudge, pJudge2, pJudge1, *, if_true, if_false, ite_true, ite_false, true_or, or_true, false_or, or_false, and_true, true_and, and_false, false_and, and_self, or_self, not_true_eq_false, not_false_eq_true, ne_eq, reduceIte, decide_true, decide_false, Bool.and_true, Bool.true_and, Bool.and_false, Bool.false_and]; done) | (simp [pJudge, pJudge2, pJudge1, *]; done) | (simp_all [pJudge, pJudge2, pJudge1]; done))
      · refine A_aload_n (q := 49) cx dX5_judge_48 rfl rfl rfl ?_
        refine A_dup (q := 50) cx dX5_judge_49 rfl rfl ?_
        refine gX5_10 (q := 53) cx wi_X5_judge_X5 wf_X5_judge_50 dX5_judge_50 rfl (in5 hX (by omega)) rfl ?_
        refine A_iconst (v := 1) (q := 54) cx dX5_judge_53 (by decide) rfl ?_
        refine A_iadd (q := 55) cx dX5_judge_54 rfl ?_
        refine pX5_10 (q := 58) cx wi_X5_judge_X5 wf_X5_judge_50 dX5_judge_55 rfl (in5 hX (by omega)) rfl ?_
        exact A_vret cx hlk hr hQ dX5_judge_58 (by first | (simp only [pJudge, pJudge2, pJudge1, *, if_true, if_false, ite_true, ite_false, true_or, or_true, false_or, or_false, and_true, true_and, and_false, false_and, and_self, or_self, not_true_eq_false, not_false_eq_true, ne_eq, reduceIte, decide_true, decide_false, Bool.and_true, Bool.true_and, Bool.and_false, Bool.false_and]; done) | (simp [pJudge, pJudge2, pJudge1, *]; done) | (simp_all [pJudge, pJudge2, pJudge1]; done))
  · refine A_aload_n (q := 9) cx dX5_judge_8 rfl rfl rfl ?_
    refine gX5_9 (q := 12) cx wi_X5_judge_X5 wf_X5_judge_47 dX5_judge_9 rfl (in5 hX (by omega)) rfl ?_
    refine A_iconst (v := 1) (q := 13) cx dX5_judge_12 (by decide) rfl ?_
    refine A_iadd (q := 14) cx dX5_judge_13 rfl ?_
    refine A_goto (q := 18) cx dX5_judge_14 (by decide) ?_
    refine pX5_9 (q := 21) cx wi_X5_judge_X5 wf_X5_judge_47 dX5_judge_18 rfl (in5 hX (by omega)) rfl ?_
    refine A_aload_n (q := 22) cx dX5_judge_21 rfl rfl rfl ?_
    refine gX5_7 (q := 25) cx wi_X5_judge_X5 wf_X5_judge_41 dX5_judge_22 rfl (in5 hX (by omega)) rfl ?_
    refine A_istore_n (lv' := [some _, some _, some _]) (q := 26) cx dX5_judge_25 (Nat.le_of_ble_eq_true rfl) rfl rfl ?_
    refine A_aload_n (q := 27) cx dX5_judge_26 rfl rfl rfl ?_
    refine A_aload_n (q := 28) cx dX5_judge_27 rfl rfl rfl ?_
    refine A_iload_n (q := 29) cx dX5_judge_28 rfl rfl ?_
    refine VI1 (q := 32) cx (ct_X5_howNow hE hX) (cwV 1 cx.1.2.2.2.2 gX5_judge_X5_howNow rfl rfl rfl (by decide +kernel) ⟨Nat.le_of_ble_eq_true rfl, Nat.le_of_ble_eq_true rfl⟩) dX5_judge_29 rfl rfl (in5 hX (by omega)) rfl (Nat.le_of_ble_eq_true rfl) ⟨Nat.zero_le _, Nat.zero_le _⟩ rfl ?_
    refine pX5_7 (q := 35) cx wi_X5_judge_X5 wf_X5_judge_41 dX5_judge_32 rfl (in5 hX (by omega)) rfl ?_
    refine A_aload_n (q := 36) cx dX5_judge_35 rfl rfl rfl ?_
    refine gX5_7 (q := 39) cx wi_X5_judge_X5 wf_X5_judge_41 dX5_judge_36 rfl (in5 hX (by omega)) rfl ?_
    refine A_iconst (v := 5) (q := 40) cx dX5_judge_39 (by decide) rfl ?_
    refine A_icmp_ne (tgt := 58) (q := 43) cx dX5_judge_40 (by decide) rfl (fun c_40 => ?_) (fun c_40 => ?_)
    · exact A_vret cx hlk hr hQ dX5_judge_58 (by first | (simp only [pJudge, pJudge2, pJudge1, *, if_true, if_false, ite_true, ite_false, true_or, or_true, false_or, or_false, and_true, true_and, and_false, false_and, and_self, or_self, not_true_eq_false, not_false_eq_true, ne_eq, reduceIte, decide_true, decide_false, Bool.and_true, Bool.true_and, Bool.and_false, Bool.false_and]; done) | (simp [pJudge, pJudge2, pJudge1, *]; done) | (simp_all [pJudge, pJudge2, pJudge1]; done))
    · refine A_iload_n (q := 44) cx dX5_judge_43 rfl rfl ?_
      refine A_iconst (v := 5) (q := 45) cx dX5_judge_44 (by decide) rfl ?_
      refine A_icmp_eq (tgt := 58) (q := 48) cx dX5_judge_45 (by decide) rfl (fun c_45 => ?_) (fun c_45 => ?_)
      · exact A_vret cx hlk hr hQ dX5_judge_58 (by first | (simp only [pJudge, pJudge2, pJudge1, *, if_true, if_false, ite_true, ite_false, true_or, or_true, false_or, or_false, and_true, true_and, and_false, false_and, and_self, or_self, not_true_eq_false, not_false_eq_true, ne_eq, reduceIte, decide_true, decide_false, Bool.and_true, Bool.true_and, Bool.and_false, Bool.false_and]; done) | (simp [pJudge, pJudge2, pJudge1, *]; done) | (simp_all [pJudge, pJudge2, pJudge1]; done))
      · refine A_aload_n (q := 49) cx dX5_judge_48 rfl rfl rfl ?_
        refine A_dup (q := 50) cx dX5_judge_49 rfl rfl ?_
        refine gX5_10 (q := 53) cx wi_X5_judge_X5 wf_X5_judge_50 dX5_judge_50 rfl (in5 hX (by omega)) rfl ?_
        refine A_iconst (v := 1) (q := 54) cx dX5_judge_53 (by decide) rfl ?_
        refine A_iadd (q := 55) cx dX5_judge_54 rfl ?_
        refine pX5_10 (q := 58) cx wi_X5_judge_X5 wf_X5_judge_50 dX5_judge_55 rfl (in5 hX (by omega)) rfl ?_
        exact A_vret cx hlk hr hQ dX5_judge_58 (by first | (simp only [pJudge, pJudge2, pJudge1, *, if_true, if_false, ite_true, ite_false, true_or, or_true, false_or, or_false, and_true, true_and, and_false, false_and, and_self, or_self, not_true_eq_false, not_false_eq_true, ne_eq, reduceIte, decide_true, decide_false, Bool.and_true, Bool.true_and, Bool.and_false, Bool.false_and]; done) | (simp [pJudge, pJudge2, pJudge1, *]; done) | (simp_all [pJudge, pJudge2, pJudge1]; done))
theorem wi_X5_say_X5 : ∀ w ∈ u_ws RX5 TX5 11, w ∈ wsX5_say := by decide +kernel
theorem wf_X5_say_18 : Cond.fieldLink RX5 18 (TX5 5).1 (TX5 5).2.1 (TX5 5).2.2.1 ∈ wsX5_say := by decide +kernel
theorem wf_X5_say_21 : Cond.fieldLink RX5 21 (TX5 0).1 (TX5 0).2.1 (TX5 0).2.2.1 ∈ wsX5_say := by decide +kernel
theorem wi_X5_say_X3 : ∀ w ∈ u_ws RX3 TX3 5, w ∈ wsX5_say := by decide +kernel
theorem wf_X5_say_57 : Cond.fieldLink RX5 57 (TX3 0).1 (TX3 0).2.1 (TX3 0).2.2.1 ∈ wsX5_say := by decide +kernel
theorem wf_X5_say_28 : Cond.fieldLink RX5 28 (TX5 2).1 (TX5 2).2.1 (TX5 2).2.2.1 ∈ wsX5_say := by decide +kernel
theorem wf_X5_say_61 : Cond.fieldLink RX5 61 (TX3 1).1 (TX3 1).2.1 (TX3 1).2.2.1 ∈ wsX5_say := by decide +kernel
theorem wf_X5_say_32 : Cond.fieldLink RX5 32 (TX5 3).1 (TX5 3).2.1 (TX5 3).2.2.1 ∈ wsX5_say := by decide +kernel
theorem wf_X5_say_60 : Cond.fieldLink RX5 60 (TX3 2).1 (TX3 2).2.1 (TX3 2).2.2.1 ∈ wsX5_say := by decide +kernel
theorem wf_X5_say_69 : Cond.fieldLink RX5 69 (TX3 3).1 (TX3 3).2.1 (TX3 3).2.2.1 ∈ wsX5_say := by decide +kernel
theorem wf_X5_say_41 : Cond.fieldLink RX5 41 (TX5 7).1 (TX5 7).2.1 (TX5 7).2.2.1 ∈ wsX5_say := by decide +kernel
theorem wf_X5_say_66 : Cond.fieldLink RX5 66 (TX3 4).1 (TX3 4).2.1 (TX3 4).2.2.1 ∈ wsX5_say := by decide +kernel
theorem wf_X5_say_25 : Cond.fieldLink RX5 25 (TX5 1).1 (TX5 1).2.1 (TX5 1).2.2.1 ∈ wsX5_say := by decide +kernel
set_option maxHeartbeats 4000000 in
set_option maxRecDepth 100000 in
theorem ct_X5_say {la : Launch} {E : Ev} (hE : okE E) (hX : xin E) {σ : Sg} {n e l : Nat} {rk : Int32} (hn : n < 9 ∧ e < 2 ∧ l < 6 := by omega) : CV la yX5_say wsX5_say 0 0 E rh0 [.ref (ad E (5, n, e, l)), .int rk] σ (pSay σ n e l rk) := by
  refine met_of (lv := [some _, some _]) RX5 (by decide) rfl rfl rfl hE (ok2 rfl rfl) (Nat.le_of_ble_eq_true rfl) (fun p ev s m args below meth c Q cx hlk hr hQ => ?_)
  refine A_aload_n (q := 1) cx dX5_say_0 rfl rfl rfl ?_
  refine gX5_5 (q := 4) cx wi_X5_say_X5 wf_X5_say_18 dX5_say_1 rfl (in5 hX (by omega)) rfl rfl ?_
  refine A_aload_n (q := 5) cx dX5_say_4 rfl rfl rfl ?_
  refine gX5_0 (q := 8) cx wi_X5_say_X5 wf_X5_say_21 dX5_say_5 rfl (in5 hX (by omega)) rfl ?_
  refine A_if_eq (tgt := 22) (q := 11) cx dX5_say_8 (by decide) rfl (fun c_8 => ?_) (fun c_8 => ?_)
  · refine A_iconst (v := 0) (q := 23) cx dX5_say_22 (by decide) rfl ?_
    refine pX3_0 (q := 26) cx wi_X5_say_X3 wf_X5_say_57 dX5_say_23 rfl (by first | assumption | exact in3 hX (by omega) | exact in14 hX (by omega)) (by first | exact Or.inl rfl | exact Or.inr rfl | exact b01_or _ | assumption) rfl ?_
    refine A_aload_n (q := 27) cx dX5_say_26 rfl rfl rfl ?_
    refine gX5_5 (q := 30) cx wi_X5_say_X5 wf_X5_say_18 dX5_say_27 rfl (in5 hX (by omega)) rfl rfl ?_
    refine A_aload_n (q := 31) cx dX5_say_30 rfl rfl rfl ?_
    refine gX5_2 (q := 34) cx wi_X5_say_X5 wf_X5_say_28 dX5_say_31 rfl (in5 hX (by omega)) rfl ?_
    refine pX3_1 (q := 37) cx wi_X5_say_X3 wf_X5_say_61 dX5_say_34 rfl (by first | assumption | exact in3 hX (by omega) | exact in14 hX (by omega)) rfl ?_
    refine A_aload_n (q := 38) cx dX5_say_37 rfl rfl rfl ?_
    refine gX5_5 (q := 41) cx wi_X5_say_X5 wf_X5_say_18 dX5_say_38 rfl (in5 hX (by omega)) rfl rfl ?_
    refine A_aload_n (q := 42) cx dX5_say_41 rfl rfl rfl ?_
    refine gX5_3 (q := 45) cx wi_X5_say_X5 wf_X5_say_32 dX5_say_42 rfl (in5 hX (by omega)) rfl ?_
    refine pX3_2 (q := 48) cx wi_X5_say_X3 wf_X5_say_60 dX5_say_45 rfl (by first | assumption | exact in3 hX (by omega) | exact in14 hX (by omega)) rfl ?_
    refine A_aload_n (q := 49) cx dX5_say_48 rfl rfl rfl ?_
    refine gX5_5 (q := 52) cx wi_X5_say_X5 wf_X5_say_18 dX5_say_49 rfl (in5 hX (by omega)) rfl rfl ?_
    refine A_iload_n (q := 53) cx dX5_say_52 rfl rfl ?_
    refine pX3_3 (q := 56) cx wi_X5_say_X3 wf_X5_say_69 dX5_say_53 rfl (by first | assumption | exact in3 hX (by omega) | exact in14 hX (by omega)) rfl ?_
    refine A_aload_n (q := 57) cx dX5_say_56 rfl rfl rfl ?_
    refine gX5_5 (q := 60) cx wi_X5_say_X5 wf_X5_say_18 dX5_say_57 rfl (in5 hX (by omega)) rfl rfl ?_
    refine A_aload_n (q := 61) cx dX5_say_60 rfl rfl rfl ?_
    refine gX5_7 (q := 64) cx wi_X5_say_X5 wf_X5_say_41 dX5_say_61 rfl (in5 hX (by omega)) rfl ?_
    refine A_iconst (v := 4) (q := 65) cx dX5_say_64 (by decide) rfl ?_
    refine A_icmp_eq (tgt := 76) (q := 68) cx dX5_say_65 (by decide) rfl (fun c_65 => ?_) (fun c_65 => ?_)
    · refine A_iconst (v := 1) (q := 77) cx dX5_say_76 (by decide) rfl ?_
      refine A_goto (q := 81) cx dX5_say_77 (by decide) ?_
      refine pX3_4 (q := 84) cx wi_X5_say_X3 wf_X5_say_66 dX5_say_81 rfl (by first | assumption | exact in3 hX (by omega) | exact in14 hX (by omega)) (by first | exact Or.inl rfl | exact Or.inr rfl | exact b01_or _ | assumption) rfl ?_
      exact A_vret cx hlk hr hQ dX5_say_84 (by first | (simp only [pSay, pSay3, pSay2, pSay1, *, if_true, if_false, ite_true, ite_false, true_or, or_true, false_or, or_false, and_true, true_and, and_false, false_and, and_self, or_self, not_true_eq_false, not_false_eq_true, ne_eq, reduceIte, decide_true, decide_false, Bool.and_true, Bool.true_and, Bool.and_false, Bool.false_and]; done) | (simp [pSay, pSay3, pSay2, pSay1, *]; done) | (simp_all [pSay, pSay3, pSay2, pSay1]; done))
    · refine A_aload_n (q := 69) cx dX5_say_68 rfl rfl rfl ?_
      refine gX5_7 (q := 72) cx wi_X5_say_X5 wf_X5_say_41 dX5_say_69 rfl (in5 hX (by omega)) rfl ?_
      refine A_iconst (v := 5) (q := 73) cx dX5_say_72 (by decide) rfl ?_
      refine A_icmp_ne (tgt := 80) (q := 76) cx dX5_say_73 (by decide) rfl (fun c_73 => ?_) (fun c_73 => ?_)
      · refine A_iconst (v := 0) (q := 81) cx dX5_say_80 (by decide) rfl ?_
        refine pX3_4 (q := 84) cx wi_X5_say_X3 wf_X5_say_66 dX5_say_81 rfl (by first | assumption | exact in3 hX (by omega) | exact in14 hX (by omega)) (by first | exact Or.inl rfl | exact Or.inr rfl | exact b01_or _ | assumption) rfl ?_
        exact A_vret cx hlk hr hQ dX5_say_84 (by first | (simp only [pSay, pSay3, pSay2, pSay1, *, if_true, if_false, ite_true, ite_false, true_or, or_true, false_or, or_false, and_true, true_and, and_false, false_and, and_self, or_self, not_true_eq_false, not_false_eq_true, ne_eq, reduceIte, decide_true, decide_false, Bool.and_true, Bool.true_and, Bool.and_false, Bool.false_and]; done) | (simp [pSay, pSay3, pSay2, pSay1, *]; done) | (simp_all [pSay, pSay3, pSay2, pSay1]; done))
      · refine A_iconst (v := 1) (q := 77) cx dX5_say_76 (by decide) rfl ?_
        refine A_goto (q := 81) cx dX5_say_77 (by decide) ?_
        refine pX3_4 (q := 84) cx wi_X5_say_X3 wf_X5_say_66 dX5_say_81 rfl (by first | assumption | exact in3 hX (by omega) | exact in14 hX (by omega)) (by first | exact Or.inl rfl | exact Or.inr rfl | exact b01_or _ | assumption) rfl ?_
        exact A_vret cx hlk hr hQ dX5_say_84 (by first | (simp only [pSay, pSay3, pSay2, pSay1, *, if_true, if_false, ite_true, ite_false, true_or, or_true, false_or, or_false, and_true, true_and, and_false, false_and, and_self, or_self, not_true_eq_false, not_false_eq_true, ne_eq, reduceIte, decide_true, decide_false, Bool.and_true, Bool.true_and, Bool.and_false, Bool.false_and]; done) | (simp [pSay, pSay3, pSay2, pSay1, *]; done) | (simp_all [pSay, pSay3, pSay2, pSay1]; done))
  · refine A_aload_n (q := 12) cx dX5_say_11 rfl rfl rfl ?_
    refine gX5_1 (q := 15) cx wi_X5_say_X5 wf_X5_say_25 dX5_say_12 rfl (in5 hX (by omega)) rfl ?_
    refine A_if_ne (tgt := 22) (q := 18) cx dX5_say_15 (by decide) rfl (fun c_15 => ?_) (fun c_15 => ?_)
    · refine A_iconst (v := 0) (q := 23) cx dX5_say_22 (by decide) rfl ?_
      refine pX3_0 (q := 26) cx wi_X5_say_X3 wf_X5_say_57 dX5_say_23 rfl (by first | assumption | exact in3 hX (by omega) | exact in14 hX (by omega)) (by first | exact Or.inl rfl | exact Or.inr rfl | exact b01_or _ | assumption) rfl ?_
      refine A_aload_n (q := 27) cx dX5_say_26 rfl rfl rfl ?_
      refine gX5_5 (q := 30) cx wi_X5_say_X5 wf_X5_say_18 dX5_say_27 rfl (in5 hX (by omega)) rfl rfl ?_
      refine A_aload_n (q := 31) cx dX5_say_30 rfl rfl rfl ?_
      refine gX5_2 (q := 34) cx wi_X5_say_X5 wf_X5_say_28 dX5_say_31 rfl (in5 hX (by omega)) rfl ?_
      refine pX3_1 (q := 37) cx wi_X5_say_X3 wf_X5_say_61 dX5_say_34 rfl (by first | assumption | exact in3 hX (by omega) | exact in14 hX (by omega)) rfl ?_
      refine A_aload_n (q := 38) cx dX5_say_37 rfl rfl rfl ?_
      refine gX5_5 (q := 41) cx wi_X5_say_X5 wf_X5_say_18 dX5_say_38 rfl (in5 hX (by omega)) rfl rfl ?_
      refine A_aload_n (q := 42) cx dX5_say_41 rfl rfl rfl ?_
      refine gX5_3 (q := 45) cx wi_X5_say_X5 wf_X5_say_32 dX5_say_42 rfl (in5 hX (by omega)) rfl ?_
      refine pX3_2 (q := 48) cx wi_X5_say_X3 wf_X5_say_60 dX5_say_45 rfl (by first | assumption | exact in3 hX (by omega) | exact in14 hX (by omega)) rfl ?_
      refine A_aload_n (q := 49) cx dX5_say_48 rfl rfl rfl ?_
      refine gX5_5 (q := 52) cx wi_X5_say_X5 wf_X5_say_18 dX5_say_49 rfl (in5 hX (by omega)) rfl rfl ?_
      refine A_iload_n (q := 53) cx dX5_say_52 rfl rfl ?_
      refine pX3_3 (q := 56) cx wi_X5_say_X3 wf_X5_say_69 dX5_say_53 rfl (by first | assumption | exact in3 hX (by omega) | exact in14 hX (by omega)) rfl ?_
      refine A_aload_n (q := 57) cx dX5_say_56 rfl rfl rfl ?_
      refine gX5_5 (q := 60) cx wi_X5_say_X5 wf_X5_say_18 dX5_say_57 rfl (in5 hX (by omega)) rfl rfl ?_
      refine A_aload_n (q := 61) cx dX5_say_60 rfl rfl rfl ?_
      refine gX5_7 (q := 64) cx wi_X5_say_X5 wf_X5_say_41 dX5_say_61 rfl (in5 hX (by omega)) rfl ?_
      refine A_iconst (v := 4) (q := 65) cx dX5_say_64 (by decide) rfl ?_
      refine A_icmp_eq (tgt := 76) (q := 68) cx dX5_say_65 (by decide) rfl (fun c_65 => ?_) (fun c_65 => ?_)
      · refine A_iconst (v := 1) (q := 77) cx dX5_say_76 (by decide) rfl ?_
        refine A_goto (q := 81) cx dX5_say_77 (by decide) ?_
        refine pX3_4 (q := 84) cx wi_X5_say_X3 wf_X5_say_66 dX5_say_81 rfl (by first | assumption | exact in3 hX (by omega) | exact in14 hX (by omega)) (by first | exact Or.inl rfl | exact Or.inr rfl | exact b01_or _ | assumption) rfl ?_
        exact A_vret cx hlk hr hQ dX5_say_84 (by first | (simp only [pSay, pSay3, pSay2, pSay1, *, if_true, if_false, ite_true, ite_false, true_or, or_true, false_or, or_false, and_true, true_and, and_false, false_and, and_self, or_self, not_true_eq_false, not_false_eq_true, ne_eq, reduceIte, decide_true, decide_false, Bool.and_true, Bool.true_and, Bool.and_false, Bool.false_and]; done) | (simp [pSay, pSay3, pSay2, pSay1, *]; done) | (simp_all [pSay, pSay3, pSay2, pSay1]; done))
      · refine A_aload_n (q := 69) cx dX5_say_68 rfl rfl rfl ?_
        refine gX5_7 (q := 72) cx wi_X5_say_X5 wf_X5_say_41 dX5_say_69 rfl (in5 hX (by omega)) rfl ?_
        refine A_iconst (v := 5) (q := 73) cx dX5_say_72 (by decide) rfl ?_
        refine A_icmp_ne (tgt := 80) (q := 76) cx dX5_say_73 (by decide) rfl (fun c_73 => ?_) (fun c_73 => ?_)
        · refine A_iconst (v := 0) (q := 81) cx dX5_say_80 (by decide) rfl ?_
          refine pX3_4 (q := 84) cx wi_X5_say_X3 wf_X5_say_66 dX5_say_81 rfl (by first | assumption | exact in3 hX (by omega) | exact in14 hX (by omega)) (by first | exact Or.inl rfl | exact Or.inr rfl | exact b01_or _ | assumption) rfl ?_
          exact A_vret cx hlk hr hQ dX5_say_84 (by first | (simp only [pSay, pSay3, pSay2, pSay1, *, if_true, if_false, ite_true, ite_false, true_or, or_true, false_or, or_false, and_true, true_and, and_false, false_and, and_self, or_self, not_true_eq_false, not_false_eq_true, ne_eq, reduceIte, decide_true, decide_false, Bool.and_true, Bool.true_and, Bool.and_false, Bool.false_and]; done) | (simp [pSay, pSay3, pSay2, pSay1, *]; done) | (simp_all [pSay, pSay3, pSay2, pSay1]; done))
        · refine A_iconst (v := 1) (q := 77) cx dX5_say_76 (by decide) rfl ?_
          refine A_goto (q := 81) cx dX5_say_77 (by decide) ?_
          refine pX3_4 (q := 84) cx wi_X5_say_X3 wf_X5_say_66 dX5_say_81 rfl (by first | assumption | exact in3 hX (by omega) | exact in14 hX (by omega)) (by first | exact Or.inl rfl | exact Or.inr rfl | exact b01_or _ | assumption) rfl ?_
          exact A_vret cx hlk hr hQ dX5_say_84 (by first | (simp only [pSay, pSay3, pSay2, pSay1, *, if_true, if_false, ite_true, ite_false, true_or, or_true, false_or, or_false, and_true, true_and, and_false, false_and, and_self, or_self, not_true_eq_false, not_false_eq_true, ne_eq, reduceIte, decide_true, decide_false, Bool.and_true, Bool.true_and, Bool.and_false, Bool.false_and]; done) | (simp [pSay, pSay3, pSay2, pSay1, *]; done) | (simp_all [pSay, pSay3, pSay2, pSay1]; done))
    · refine A_iconst (v := 1) (q := 19) cx dX5_say_18 (by decide) rfl ?_
      refine A_goto (q := 23) cx dX5_say_19 (by decide) ?_
      refine pX3_0 (q := 26) cx wi_X5_say_X3 wf_X5_say_57 dX5_say_23 rfl (by first | assumption | exact in3 hX (by omega) | exact in14 hX (by omega)) (by first | exact Or.inl rfl | exact Or.inr rfl | exact b01_or _ | assumption) rfl ?_
      refine A_aload_n (q := 27) cx dX5_say_26 rfl rfl rfl ?_
      refine gX5_5 (q := 30) cx wi_X5_say_X5 wf_X5_say_18 dX5_say_27 rfl (in5 hX (by omega)) rfl rfl ?_
      refine A_aload_n (q := 31) cx dX5_say_30 rfl rfl rfl ?_
      refine gX5_2 (q := 34) cx wi_X5_say_X5 wf_X5_say_28 dX5_say_31 rfl (in5 hX (by omega)) rfl ?_
      refine pX3_1 (q := 37) cx wi_X5_say_X3 wf_X5_say_61 dX5_say_34 rfl (by first | assumption | exact in3 hX (by omega) | exact in14 hX (by omega)) rfl ?_
      refine A_aload_n (q := 38) cx dX5_say_37 rfl rfl rfl ?_
      refine gX5_5 (q := 41) cx wi_X5_say_X5 wf_X5_say_18 dX5_say_38 rfl (in5 hX (by omega)) rfl rfl ?_
      refine A_aload_n (q := 42) cx dX5_say_41 rfl rfl rfl ?_
      refine gX5_3 (q := 45) cx wi_X5_say_X5 wf_X5_say_32 dX5_say_42 rfl (in5 hX (by omega)) rfl ?_
      refine pX3_2 (q := 48) cx wi_X5_say_X3 wf_X5_say_60 dX5_say_45 rfl (by first | assumption | exact in3 hX (by omega) | exact in14 hX (by omega)) rfl ?_
      refine A_aload_n (q := 49) cx dX5_say_48 rfl rfl rfl ?_
      refine gX5_5 (q := 52) cx wi_X5_say_X5 wf_X5_say_18 dX5_say_49 rfl (in5 hX (by omega)) rfl rfl ?_
      refine A_iload_n (q := 53) cx dX5_say_52 rfl rfl ?_
      refine pX3_3 (q := 56) cx wi_X5_say_X3 wf_X5_say_69 dX5_say_53 rfl (by first | assumption | exact in3 hX (by omega) | exact in14 hX (by omega)) rfl ?_
      refine A_aload_n (q := 57) cx dX5_say_56 rfl rfl rfl ?_
      refine gX5_5 (q := 60) cx wi_X5_say_X5 wf_X5_say_18 dX5_say_57 rfl (in5 hX (by omega)) rfl rfl ?_
      refine A_aload_n (q := 61) cx dX5_say_60 rfl rfl rfl ?_
      refine gX5_7 (q := 64) cx wi_X5_say_X5 wf_X5_say_41 dX5_say_61 rfl (in5 hX (by omega)) rfl ?_
      refine A_iconst (v := 4) (q := 65) cx dX5_say_64 (by decide) rfl ?_
      refine A_icmp_eq (tgt := 76) (q := 68) cx dX5_say_65 (by decide) rfl (fun c_65 => ?_) (fun c_65 => ?_)
      · refine A_iconst (v := 1) (q := 77) cx dX5_say_76 (by decide) rfl ?_
        refine A_goto (q := 81) cx dX5_say_77 (by decide) ?_
        refine pX3_4 (q := 84) cx wi_X5_say_X3 wf_X5_say_66 dX5_say_81 rfl (by first | assumption | exact in3 hX (by omega) | exact in14 hX (by omega)) (by first | exact Or.inl rfl | exact Or.inr rfl | exact b01_or _ | assumption) rfl ?_
        exact A_vret cx hlk hr hQ dX5_say_84 (by first | (simp only [pSay, pSay3, pSay2, pSay1, *, if_true, if_false, ite_true, ite_false, true_or, or_true, false_or, or_false, and_true, true_and, and_false, false_and, and_self, or_self, not_true_eq_false, not_false_eq_true, ne_eq, reduceIte, decide_true, decide_false, Bool.and_true, Bool.true_and, Bool.and_false, Bool.false_and]; done) | (simp [pSay, pSay3, pSay2, pSay1, *]; done) | (simp_all [pSay, pSay3, pSay2, pSay1]; done))
      · refine A_aload_n (q := 69) cx dX5_say_68 rfl rfl rfl ?_
        refine gX5_7 (q := 72) cx wi_X5_say_X5 wf_X5_say_41 dX5_say_69 rfl (in5 hX (by omega)) rfl ?_
        refine A_iconst (v := 5) (q := 73) cx dX5_say_72 (by decide) rfl ?_
        refine A_icmp_ne (tgt := 80) (q := 76) cx dX5_say_73 (by decide) rfl (fun c_73 => ?_) (fun c_73 => ?_)
        · refine A_iconst (v := 0) (q := 81) cx dX5_say_80 (by decide) rfl ?_
          refine pX3_4 (q := 84) cx wi_X5_say_X3 wf_X5_say_66 dX5_say_81 rfl (by first | assumption | exact in3 hX (by omega) | exact in14 hX (by omega)) (by first | exact Or.inl rfl | exact Or.inr rfl | exact b01_or _ | assumption) rfl ?_
          exact A_vret cx hlk hr hQ dX5_say_84 (by first | (simp only [pSay, pSay3, pSay2, pSay1, *, if_true, if_false, ite_true, ite_false, true_or, or_true, false_or, or_false, and_true, true_and, and_false, false_and, and_self, or_self, not_true_eq_false, not_false_eq_true, ne_eq, reduceIte, decide_true, decide_false, Bool.and_true, Bool.true_and, Bool.and_false, Bool.false_and]; done) | (simp [pSay, pSay3, pSay2, pSay1, *]; done) | (simp_all [pSay, pSay3, pSay2, pSay1]; done))
        · refine A_iconst (v := 1) (q := 77) cx dX5_say_76 (by decide) rfl ?_
          refine A_goto (q := 81) cx dX5_say_77 (by decide) ?_
          refine pX3_4 (q := 84) cx wi_X5_say_X3 wf_X5_say_66 dX5_say_81 rfl (by first | assumption | exact in3 hX (by omega) | exact in14 hX (by omega)) (by first | exact Or.inl rfl | exact Or.inr rfl | exact b01_or _ | assumption) rfl ?_
          exact A_vret cx hlk hr hQ dX5_say_84 (by first | (simp only [pSay, pSay3, pSay2, pSay1, *, if_true, if_false, ite_true, ite_false, true_or, or_true, false_or, or_false, and_true, true_and, and_false, false_and, and_self, or_self, not_true_eq_false, not_false_eq_true, ne_eq, reduceIte, decide_true, decide_false, Bool.and_true, Bool.true_and, Bool.and_false, Bool.false_and]; done) | (simp [pSay, pSay3, pSay2, pSay1, *]; done) | (simp_all [pSay, pSay3, pSay2, pSay1]; done))
theorem wi_X5_known_X5 : ∀ w ∈ u_ws RX5 TX5 11, w ∈ wsX5_known := by decide +kernel
theorem wf_X5_known_12 : Cond.fieldLink RX5 12 (TX5 4).1 (TX5 4).2.1 (TX5 4).2.2.1 ∈ wsX5_known := by decide +kernel
theorem wi_X5_known_X3 : ∀ w ∈ u_ws RX3 TX3 5, w ∈ wsX5_known := by decide +kernel
theorem wf_X5_known_57 : Cond.fieldLink RX5 57 (TX3 0).1 (TX3 0).2.1 (TX3 0).2.2.1 ∈ wsX5_known := by decide +kernel
set_option maxHeartbeats 4000000 in
set_option maxRecDepth 100000 in
theorem ct_X5_known {la : Launch} {E : Ev} (hE : okE E) (hX : xin E) {σ : Sg} {n e l : Nat} {v : Int32} (hn : n < 9 ∧ e < 2 ∧ l < 6 := by omega) : CI la yX5_known wsX5_known 0 0 E rh0 [.ref (ad E (5, n, e, l)), .int v] σ (pKnown σ n e l v) σ := by
  refine met_of (lv := [some _, some _]) RX5 (by decide) rfl rfl rfl hE (ok2 rfl rfl) (Nat.le_of_ble_eq_true rfl) (fun p ev s m args below meth c Q cx hlk hr hQ => ?_)
  refine A_aload_n (q := 1) cx dX5_known_0 rfl rfl rfl ?_
  refine gX5_4 (q := 4) cx wi_X5_known_X5 wf_X5_known_12 dX5_known_1 rfl (in5 hX (by omega)) rfl rfl ?_
  refine gX3_0 (q := 7) cx wi_X5_known_X3 wf_X5_known_57 dX5_known_4 rfl (by first | assumption | exact in3 hX (by omega) | exact in14 hX (by omega)) rfl ?_
  refine A_if_eq (tgt := 14) (q := 10) cx dX5_known_7 (by decide) rfl (fun c_7 => ?_) (fun c_7 => ?_)
  · refine A_bipush (v := -4) (q := 16) cx dX5_known_14 (by decide) rfl ?_
    exact A_iret cx hlk hr hQ dX5_known_16 (by first | (simp only [pKnown, *, if_true, if_false, ite_true, ite_false, true_or, or_true, false_or, or_false, and_true, true_and, and_false, false_and, and_self, or_self, not_true_eq_false, not_false_eq_true, ne_eq, reduceIte, decide_true, decide_false, Bool.and_true, Bool.true_and, Bool.and_false, Bool.false_and]; done) | (simp [pKnown, *]; done) | (simp_all [pKnown]; done)) rfl
  · refine A_iload_n (q := 11) cx dX5_known_10 rfl rfl ?_
    refine A_goto (q := 16) cx dX5_known_11 (by decide) ?_
    exact A_iret cx hlk hr hQ dX5_known_16 (by first | (simp only [pKnown, *, if_true, if_false, ite_true, ite_false, true_or, or_true, false_or, or_false, and_true, true_and, and_false, false_and, and_self, or_self, not_true_eq_false, not_false_eq_true, ne_eq, reduceIte, decide_true, decide_false, Bool.and_true, Bool.true_and, Bool.and_false, Bool.false_and]; done) | (simp [pKnown, *]; done) | (simp_all [pKnown]; done)) rfl
theorem wi_X5_look_X5 : ∀ w ∈ u_ws RX5 TX5 11, w ∈ wsX5_look := by decide +kernel
theorem wf_X5_look_28 : Cond.fieldLink RX5 28 (TX5 2).1 (TX5 2).2.1 (TX5 2).2.2.1 ∈ wsX5_look := by decide +kernel
theorem wf_X5_look_32 : Cond.fieldLink RX5 32 (TX5 3).1 (TX5 3).2.1 (TX5 3).2.2.1 ∈ wsX5_look := by decide +kernel
theorem wf_X5_look_41 : Cond.fieldLink RX5 41 (TX5 7).1 (TX5 7).2.1 (TX5 7).2.2.1 ∈ wsX5_look := by decide +kernel
theorem wf_X5_look_38 : Cond.fieldLink RX5 38 (TX5 6).1 (TX5 6).2.1 (TX5 6).2.2.1 ∈ wsX5_look := by decide +kernel
theorem wf_X5_look_12 : Cond.fieldLink RX5 12 (TX5 4).1 (TX5 4).2.1 (TX5 4).2.2.1 ∈ wsX5_look := by decide +kernel
theorem wi_X5_look_X3 : ∀ w ∈ u_ws RX3 TX3 5, w ∈ wsX5_look := by decide +kernel
theorem wf_X5_look_61 : Cond.fieldLink RX5 61 (TX3 1).1 (TX3 1).2.1 (TX3 1).2.2.1 ∈ wsX5_look := by decide +kernel
theorem wf_X5_look_60 : Cond.fieldLink RX5 60 (TX3 2).1 (TX3 2).2.1 (TX3 2).2.2.1 ∈ wsX5_look := by decide +kernel
theorem wf_X5_look_69 : Cond.fieldLink RX5 69 (TX3 3).1 (TX3 3).2.1 (TX3 3).2.2.1 ∈ wsX5_look := by decide +kernel
theorem wf_X5_look_66 : Cond.fieldLink RX5 66 (TX3 4).1 (TX3 4).2.1 (TX3 4).2.2.1 ∈ wsX5_look := by decide +kernel
theorem wf_X5_look_44 : Cond.fieldLink RX5 44 (TX5 8).1 (TX5 8).2.1 (TX5 8).2.2.1 ∈ wsX5_look := by decide +kernel
theorem wf_X5_look_47 : Cond.fieldLink RX5 47 (TX5 9).1 (TX5 9).2.1 (TX5 9).2.2.1 ∈ wsX5_look := by decide +kernel
theorem wf_X5_look_50 : Cond.fieldLink RX5 50 (TX5 10).1 (TX5 10).2.1 (TX5 10).2.2.1 ∈ wsX5_look := by decide +kernel
theorem wf_X5_look_25 : Cond.fieldLink RX5 25 (TX5 1).1 (TX5 1).2.1 (TX5 1).2.2.1 ∈ wsX5_look := by decide +kernel
set_option maxHeartbeats 4000000 in
set_option maxRecDepth 100000 in
theorem ct_X5_look {la : Launch} {E : Ev} (hE : okE E) (hX : xin E) {σ : Sg} {n e l : Nat} {w : Int32} (hn : n < 9 ∧ e < 2 ∧ l < 6 := by omega) : CI la yX5_look wsX5_look 1 21 E rh0 [.ref (ad E (5, n, e, l)), .int w] σ (pLook σ n e l w) σ := by
  refine met_of (lv := [some _, some _]) RX5 (by decide) rfl rfl rfl hE (ok2 rfl rfl) (Nat.le_of_ble_eq_true rfl) (fun p ev s m args below meth c Q cx hlk hr hQ => ?_)
  refine A_iload_n (q := 1) cx dX5_look_0 rfl rfl ?_
  by_cases s_1_0 : w = 0
  · refine A_tableIn (tgt := 60) cx dX5_look_1 (by rw [s_1_0]; decide) (by rw [s_1_0]; decide) (by rw [s_1_0]; rfl) (by decide) ?_
    refine A_aload_n (q := 61) cx dX5_look_60 rfl rfl rfl ?_
    refine gX5_2 (q := 64) cx wi_X5_look_X5 wf_X5_look_28 dX5_look_61 rfl (in5 hX (by omega)) rfl ?_
    exact A_iret cx hlk hr hQ dX5_look_64 (by first | (simp only [pLook, *, if_true, if_false, ite_true, ite_false, true_or, or_true, false_or, or_false, and_true, true_and, and_false, false_and, and_self, or_self, not_true_eq_false, not_false_eq_true, ne_eq, reduceIte, decide_true, decide_false, Bool.and_true, Bool.true_and, Bool.and_false, Bool.false_and]; done) | (simp [pLook, *]; done) | (simp_all [pLook]; done)) rfl
  by_cases s_1_1 : w = 1
  · refine A_tableIn (tgt := 65) cx dX5_look_1 (by rw [s_1_1]; decide) (by rw [s_1_1]; decide) (by rw [s_1_1]; rfl) (by decide) ?_
    refine A_aload_n (q := 66) cx dX5_look_65 rfl rfl rfl ?_
    refine gX5_3 (q := 69) cx wi_X5_look_X5 wf_X5_look_32 dX5_look_66 rfl (in5 hX (by omega)) rfl ?_
    exact A_iret cx hlk hr hQ dX5_look_69 (by first | (simp only [pLook, *, if_true, if_false, ite_true, ite_false, true_or, or_true, false_or, or_false, and_true, true_and, and_false, false_and, and_self, or_self, not_true_eq_false, not_false_eq_true, ne_eq, reduceIte, decide_true, decide_false, Bool.and_true, Bool.true_and, Bool.and_false, Bool.false_and]; done) | (simp [pLook, *]; done) | (simp_all [pLook]; done)) rfl
  by_cases s_1_2 : w = 2
  · refine A_tableIn (tgt := 70) cx dX5_look_1 (by rw [s_1_2]; decide) (by rw [s_1_2]; decide) (by rw [s_1_2]; rfl) (by decide) ?_
    refine A_aload_n (q := 71) cx dX5_look_70 rfl rfl rfl ?_
    refine gX5_7 (q := 74) cx wi_X5_look_X5 wf_X5_look_41 dX5_look_71 rfl (in5 hX (by omega)) rfl ?_
    exact A_iret cx hlk hr hQ dX5_look_74 (by first | (simp only [pLook, *, if_true, if_false, ite_true, ite_false, true_or, or_true, false_or, or_false, and_true, true_and, and_false, false_and, and_self, or_self, not_true_eq_false, not_false_eq_true, ne_eq, reduceIte, decide_true, decide_false, Bool.and_true, Bool.true_and, Bool.and_false, Bool.false_and]; done) | (simp [pLook, *]; done) | (simp_all [pLook]; done)) rfl
  by_cases s_1_3 : w = 3
  · refine A_tableIn (tgt := 75) cx dX5_look_1 (by rw [s_1_3]; decide) (by rw [s_1_3]; decide) (by rw [s_1_3]; rfl) (by decide) ?_
    refine A_aload_n (q := 76) cx dX5_look_75 rfl rfl rfl ?_
    refine A_aload_n (q := 77) cx dX5_look_76 rfl rfl rfl ?_
    refine gX5_6 (q := 80) cx wi_X5_look_X5 wf_X5_look_38 dX5_look_77 rfl (in5 hX (by omega)) rfl ?_
    refine VI1 (q := 83) cx (ct_X5_known hE hX) (cwV 1 cx.1.2.2.2.2 gX5_look_X5_known rfl rfl rfl (by decide +kernel) ⟨Nat.le_of_ble_eq_true rfl, Nat.le_of_ble_eq_true rfl⟩) dX5_look_80 rfl rfl (in5 hX (by omega)) rfl (Nat.le_of_ble_eq_true rfl) ⟨Nat.zero_le _, Nat.zero_le _⟩ rfl ?_
    exact A_iret cx hlk hr hQ dX5_look_83 (by first | (simp only [pLook, *, if_true, if_false, ite_true, ite_false, true_or, or_true, false_or, or_false, and_true, true_and, and_false, false_and, and_self, or_self, not_true_eq_false, not_false_eq_true, ne_eq, reduceIte, decide_true, decide_false, Bool.and_true, Bool.true_and, Bool.and_false, Bool.false_and]; done) | (simp [pLook, *]; done) | (simp_all [pLook]; done)) rfl
  by_cases s_1_4 : w = 4
  · refine A_tableIn (tgt := 84) cx dX5_look_1 (by rw [s_1_4]; decide) (by rw [s_1_4]; decide) (by rw [s_1_4]; rfl) (by decide) ?_
    refine A_aload_n (q := 85) cx dX5_look_84 rfl rfl rfl ?_
    refine A_aload_n (q := 86) cx dX5_look_85 rfl rfl rfl ?_
    refine gX5_4 (q := 89) cx wi_X5_look_X5 wf_X5_look_12 dX5_look_86 rfl (in5 hX (by omega)) rfl rfl ?_
    refine gX3_1 (q := 92) cx wi_X5_look_X3 wf_X5_look_61 dX5_look_89 rfl (by first | assumption | exact in3 hX (by omega) | exact in14 hX (by omega)) rfl ?_
    refine VI1 (q := 95) cx (ct_X5_known hE hX) (cwV 1 cx.1.2.2.2.2 gX5_look_X5_known rfl rfl rfl (by decide +kernel) ⟨Nat.le_of_ble_eq_true rfl, Nat.le_of_ble_eq_true rfl⟩) dX5_look_92 rfl rfl (in5 hX (by omega)) rfl (Nat.le_of_ble_eq_true rfl) ⟨Nat.zero_le _, Nat.zero_le _⟩ rfl ?_
    exact A_iret cx hlk hr hQ dX5_look_95 (by first | (simp only [pLook, *, if_true, if_false, ite_true, ite_false, true_or, or_true, false_or, or_false, and_true, true_and, and_false, false_and, and_self, or_self, not_true_eq_false, not_false_eq_true, ne_eq, reduceIte, decide_true, decide_false, Bool.and_true, Bool.true_and, Bool.and_false, Bool.false_and]; done) | (simp [pLook, *]; done) | (simp_all [pLook]; done)) rfl
  by_cases s_1_5 : w = 5
  · refine A_tableIn (tgt := 96) cx dX5_look_1 (by rw [s_1_5]; decide) (by rw [s_1_5]; decide) (by rw [s_1_5]; rfl) (by decide) ?_
    refine A_aload_n (q := 97) cx dX5_look_96 rfl rfl rfl ?_
    refine A_aload_n (q := 98) cx dX5_look_97 rfl rfl rfl ?_
    refine gX5_4 (q := 101) cx wi_X5_look_X5 wf_X5_look_12 dX5_look_98 rfl (in5 hX (by omega)) rfl rfl ?_
    refine gX3_2 (q := 104) cx wi_X5_look_X3 wf_X5_look_60 dX5_look_101 rfl (by first | assumption | exact in3 hX (by omega) | exact in14 hX (by omega)) rfl ?_
    refine VI1 (q := 107) cx (ct_X5_known hE hX) (cwV 1 cx.1.2.2.2.2 gX5_look_X5_known rfl rfl rfl (by decide +kernel) ⟨Nat.le_of_ble_eq_true rfl, Nat.le_of_ble_eq_true rfl⟩) dX5_look_104 rfl rfl (in5 hX (by omega)) rfl (Nat.le_of_ble_eq_true rfl) ⟨Nat.zero_le _, Nat.zero_le _⟩ rfl ?_
    exact A_iret cx hlk hr hQ dX5_look_107 (by first | (simp only [pLook, *, if_true, if_false, ite_true, ite_false, true_or, or_true, false_or, or_false, and_true, true_and, and_false, false_and, and_self, or_self, not_true_eq_false, not_false_eq_true, ne_eq, reduceIte, decide_true, decide_false, Bool.and_true, Bool.true_and, Bool.and_false, Bool.false_and]; done) | (simp [pLook, *]; done) | (simp_all [pLook]; done)) rfl
  by_cases s_1_6 : w = 6
  · refine A_tableIn (tgt := 108) cx dX5_look_1 (by rw [s_1_6]; decide) (by rw [s_1_6]; decide) (by rw [s_1_6]; rfl) (by decide) ?_
    refine A_aload_n (q := 109) cx dX5_look_108 rfl rfl rfl ?_
    refine A_aload_n (q := 110) cx dX5_look_109 rfl rfl rfl ?_
    refine gX5_4 (q := 113) cx wi_X5_look_X5 wf_X5_look_12 dX5_look_110 rfl (in5 hX (by omega)) rfl rfl ?_
    refine gX3_3 (q := 116) cx wi_X5_look_X3 wf_X5_look_69 dX5_look_113 rfl (by first | assumption | exact in3 hX (by omega) | exact in14 hX (by omega)) rfl ?_
    refine VI1 (q := 119) cx (ct_X5_known hE hX) (cwV 1 cx.1.2.2.2.2 gX5_look_X5_known rfl rfl rfl (by decide +kernel) ⟨Nat.le_of_ble_eq_true rfl, Nat.le_of_ble_eq_true rfl⟩) dX5_look_116 rfl rfl (in5 hX (by omega)) rfl (Nat.le_of_ble_eq_true rfl) ⟨Nat.zero_le _, Nat.zero_le _⟩ rfl ?_
    exact A_iret cx hlk hr hQ dX5_look_119 (by first | (simp only [pLook, *, if_true, if_false, ite_true, ite_false, true_or, or_true, false_or, or_false, and_true, true_and, and_false, false_and, and_self, or_self, not_true_eq_false, not_false_eq_true, ne_eq, reduceIte, decide_true, decide_false, Bool.and_true, Bool.true_and, Bool.and_false, Bool.false_and]; done) | (simp [pLook, *]; done) | (simp_all [pLook]; done)) rfl
  by_cases s_1_7 : w = 7
  · refine A_tableIn (tgt := 120) cx dX5_look_1 (by rw [s_1_7]; decide) (by rw [s_1_7]; decide) (by rw [s_1_7]; rfl) (by decide) ?_
    refine A_aload_n (q := 121) cx dX5_look_120 rfl rfl rfl ?_
    refine A_aload_n (q := 122) cx dX5_look_121 rfl rfl rfl ?_
    refine gX5_4 (q := 125) cx wi_X5_look_X5 wf_X5_look_12 dX5_look_122 rfl (in5 hX (by omega)) rfl rfl ?_
    refine gX3_4 (q := 128) cx wi_X5_look_X3 wf_X5_look_66 dX5_look_125 rfl (by first | assumption | exact in3 hX (by omega) | exact in14 hX (by omega)) rfl ?_
    refine A_if_eq (tgt := 135) (q := 131) cx dX5_look_128 (by decide) rfl (fun c_128 => ?_) (fun c_128 => ?_)
    · refine A_iconst (v := 0) (q := 136) cx dX5_look_135 (by decide) rfl ?_
      refine VI1 (q := 139) cx (ct_X5_known hE hX) (cwV 1 cx.1.2.2.2.2 gX5_look_X5_known rfl rfl rfl (by decide +kernel) ⟨Nat.le_of_ble_eq_true rfl, Nat.le_of_ble_eq_true rfl⟩) dX5_look_136 rfl rfl (in5 hX (by omega)) rfl (Nat.le_of_ble_eq_true rfl) ⟨Nat.zero_le _, Nat.zero_le _⟩ rfl ?_
      exact A_iret cx hlk hr hQ dX5_look_139 (by first | (simp only [pLook, *, if_true, if_false, ite_true, ite_false, true_or, or_true, false_or, or_false, and_true, true_and, and_false, false_and, and_self, or_self, not_true_eq_false, not_false_eq_true, ne_eq, reduceIte, decide_true, decide_false, Bool.and_true, Bool.true_and, Bool.and_false, Bool.false_and]; done) | (simp [pLook, *]; done) | (simp_all [pLook]; done)) rfl
    · refine A_iconst (v := 1) (q := 132) cx dX5_look_131 (by decide) rfl ?_
      refine A_goto (q := 136) cx dX5_look_132 (by decide) ?_
      refine VI1 (q := 139) cx (ct_X5_known hE hX) (cwV 1 cx.1.2.2.2.2 gX5_look_X5_known rfl rfl rfl (by decide +kernel) ⟨Nat.le_of_ble_eq_true rfl, Nat.le_of_ble_eq_true rfl⟩) dX5_look_136 rfl rfl (in5 hX (by omega)) rfl (Nat.le_of_ble_eq_true rfl) ⟨Nat.zero_le _, Nat.zero_le _⟩ rfl ?_
      exact A_iret cx hlk hr hQ dX5_look_139 (by first | (simp only [pLook, *, if_true, if_false, ite_true, ite_false, true_or, or_true, false_or, or_false, and_true, true_and, and_false, false_and, and_self, or_self, not_true_eq_false, not_false_eq_true, ne_eq, reduceIte, decide_true, decide_false, Bool.and_true, Bool.true_and, Bool.and_false, Bool.false_and]; done) | (simp [pLook, *]; done) | (simp_all [pLook]; done)) rfl
  by_cases s_1_8 : w = 8
  · refine A_tableIn (tgt := 140) cx dX5_look_1 (by rw [s_1_8]; decide) (by rw [s_1_8]; decide) (by rw [s_1_8]; rfl) (by decide) ?_
    refine A_aload_n (q := 141) cx dX5_look_140 rfl rfl rfl ?_
    refine gX5_8 (q := 144) cx wi_X5_look_X5 wf_X5_look_44 dX5_look_141 rfl (in5 hX (by omega)) rfl ?_
    refine A_if_eq (tgt := 154) (q := 147) cx dX5_look_144 (by decide) rfl (fun c_144 => ?_) (fun c_144 => ?_)
    · refine A_bipush (v := -4) (q := 156) cx dX5_look_154 (by decide) rfl ?_
      exact A_iret cx hlk hr hQ dX5_look_156 (by first | (simp only [pLook, *, if_true, if_false, ite_true, ite_false, true_or, or_true, false_or, or_false, and_true, true_and, and_false, false_and, and_self, or_self, not_true_eq_false, not_false_eq_true, ne_eq, reduceIte, decide_true, decide_false, Bool.and_true, Bool.true_and, Bool.and_false, Bool.false_and]; done) | (simp [pLook, *]; done) | (simp_all [pLook]; done)) rfl
    · refine A_aload_n (q := 148) cx dX5_look_147 rfl rfl rfl ?_
      refine gX5_9 (q := 151) cx wi_X5_look_X5 wf_X5_look_47 dX5_look_148 rfl (in5 hX (by omega)) rfl ?_
      refine A_goto (q := 156) cx dX5_look_151 (by decide) ?_
      exact A_iret cx hlk hr hQ dX5_look_156 (by first | (simp only [pLook, *, if_true, if_false, ite_true, ite_false, true_or, or_true, false_or, or_false, and_true, true_and, and_false, false_and, and_self, or_self, not_true_eq_false, not_false_eq_true, ne_eq, reduceIte, decide_true, decide_false, Bool.and_true, Bool.true_and, Bool.and_false, Bool.false_and]; done) | (simp [pLook, *]; done) | (simp_all [pLook]; done)) rfl
  by_cases s_1_9 : w = 9
  · refine A_tableIn (tgt := 157) cx dX5_look_1 (by rw [s_1_9]; decide) (by rw [s_1_9]; decide) (by rw [s_1_9]; rfl) (by decide) ?_
    refine A_aload_n (q := 158) cx dX5_look_157 rfl rfl rfl ?_
    refine gX5_10 (q := 161) cx wi_X5_look_X5 wf_X5_look_50 dX5_look_158 rfl (in5 hX (by omega)) rfl ?_
    exact A_iret cx hlk hr hQ dX5_look_161 (by first | (simp only [pLook, *, if_true, if_false, ite_true, ite_false, true_or, or_true, false_or, or_false, and_true, true_and, and_false, false_and, and_self, or_self, not_true_eq_false, not_false_eq_true, ne_eq, reduceIte, decide_true, decide_false, Bool.and_true, Bool.true_and, Bool.and_false, Bool.false_and]; done) | (simp [pLook, *]; done) | (simp_all [pLook]; done)) rfl
  by_cases s_1_10 : w = 10
  · refine A_tableIn (tgt := 162) cx dX5_look_1 (by rw [s_1_10]; decide) (by rw [s_1_10]; decide) (by rw [s_1_10]; rfl) (by decide) ?_
    refine A_aload_n (q := 163) cx dX5_look_162 rfl rfl rfl ?_
    refine gX5_1 (q := 166) cx wi_X5_look_X5 wf_X5_look_25 dX5_look_163 rfl (in5 hX (by omega)) rfl ?_
    refine A_if_eq (tgt := 173) (q := 169) cx dX5_look_166 (by decide) rfl (fun c_166 => ?_) (fun c_166 => ?_)
    · refine A_iconst (v := 0) (q := 174) cx dX5_look_173 (by decide) rfl ?_
      exact A_iret cx hlk hr hQ dX5_look_174 (by first | (simp only [pLook, *, if_true, if_false, ite_true, ite_false, true_or, or_true, false_or, or_false, and_true, true_and, and_false, false_and, and_self, or_self, not_true_eq_false, not_false_eq_true, ne_eq, reduceIte, decide_true, decide_false, Bool.and_true, Bool.true_and, Bool.and_false, Bool.false_and]; done) | (simp [pLook, *]; done) | (simp_all [pLook]; done)) rfl
    · refine A_iconst (v := 1) (q := 170) cx dX5_look_169 (by decide) rfl ?_
      refine A_goto (q := 174) cx dX5_look_170 (by decide) ?_
      exact A_iret cx hlk hr hQ dX5_look_174 (by first | (simp only [pLook, *, if_true, if_false, ite_true, ite_false, true_or, or_true, false_or, or_false, and_true, true_and, and_false, false_and, and_self, or_self, not_true_eq_false, not_false_eq_true, ne_eq, reduceIte, decide_true, decide_false, Bool.and_true, Bool.true_and, Bool.and_false, Bool.false_and]; done) | (simp [pLook, *]; done) | (simp_all [pLook]; done)) rfl
  refine A_tableOut (tgt := 175) cx dX5_look_1 (by have n_0 := lv_neT s_1_0 (a := 0) rfl; have n_1 := lv_neT s_1_1 (a := 1) rfl; have n_2 := lv_neT s_1_2 (a := 2) rfl; have n_3 := lv_neT s_1_3 (a := 3) rfl; have n_4 := lv_neT s_1_4 (a := 4) rfl; have n_5 := lv_neT s_1_5 (a := 5) rfl; have n_6 := lv_neT s_1_6 (a := 6) rfl; have n_7 := lv_neT s_1_7 (a := 7) rfl; have n_8 := lv_neT s_1_8 (a := 8) rfl; have n_9 := lv_neT s_1_9 (a := 9) rfl; have n_10 := lv_neT s_1_10 (a := 10) rfl; omega) (by decide) ?_
  refine A_iconst (v := -1) (q := 176) cx dX5_look_175 (by decide) rfl ?_
  exact A_iret cx hlk hr hQ dX5_look_176 (by first | (simp only [pLook, *, if_true, if_false, ite_true, ite_false, true_or, or_true, false_or, or_false, and_true, true_and, and_false, false_and, and_self, or_self, not_true_eq_false, not_false_eq_true, ne_eq, reduceIte, decide_true, decide_false, Bool.and_true, Bool.true_and, Bool.and_false, Bool.false_and]; done) | (simp [pLook, *]; done) | (simp_all [pLook]; done)) rfl
theorem wi_X5_isOf_X5 : ∀ w ∈ u_ws RX5 TX5 11, w ∈ wsX5_isOf := by decide +kernel
theorem wf_X5_isOf_12 : Cond.fieldLink RX5 12 (TX5 4).1 (TX5 4).2.1 (TX5 4).2.2.1 ∈ wsX5_isOf := by decide +kernel
theorem wi_X5_isOf_X3 : ∀ w ∈ u_ws RX3 TX3 5, w ∈ wsX5_isOf := by decide +kernel
theorem wf_X5_isOf_57 : Cond.fieldLink RX5 57 (TX3 0).1 (TX3 0).2.1 (TX3 0).2.2.1 ∈ wsX5_isOf := by decide +kernel
theorem wf_X5_isOf_44 : Cond.fieldLink RX5 44 (TX5 8).1 (TX5 8).2.1 (TX5 8).2.2.1 ∈ wsX5_isOf := by decide +kernel
theorem wf_X5_isOf_41 : Cond.fieldLink RX5 41 (TX5 7).1 (TX5 7).2.1 (TX5 7).2.2.1 ∈ wsX5_isOf := by decide +kernel
set_option maxHeartbeats 4000000 in
set_option maxRecDepth 100000 in
theorem ct_X5_isOf {la : Launch} {E : Ev} (hE : okE E) (hX : xin E) {σ : Sg} {n e l : Nat} {w : Int32} (hn : n < 9 ∧ e < 2 ∧ l < 6 := by omega) : CI la yX5_isOf wsX5_isOf 0 0 E rh0 [.ref (ad E (5, n, e, l)), .int w] σ (pIsOf σ n e l w) σ := by
  refine met_of (lv := [some _, some _]) RX5 (by decide) rfl rfl rfl hE (ok2 rfl rfl) (Nat.le_of_ble_eq_true rfl) (fun p ev s m args below meth c Q cx hlk hr hQ => ?_)
  refine A_iload_n (q := 1) cx dX5_isOf_0 rfl rfl ?_
  by_cases s_1_0 : w = 0
  · refine A_lookup (off := 27) (tgt := 28) cx dX5_isOf_1 (by decide) (by rw [s_1_0]; decide) (by decide) ?_
    refine A_aload_n (q := 29) cx dX5_isOf_28 rfl rfl rfl ?_
    refine gX5_4 (q := 32) cx wi_X5_isOf_X5 wf_X5_isOf_12 dX5_isOf_29 rfl (in5 hX (by omega)) rfl rfl ?_
    refine gX3_0 (q := 35) cx wi_X5_isOf_X3 wf_X5_isOf_57 dX5_isOf_32 rfl (by first | assumption | exact in3 hX (by omega) | exact in14 hX (by omega)) rfl ?_
    exact A_zret cx hlk hr hQ dX5_isOf_35 (by first | exact Or.inl rfl | exact Or.inr rfl | exact b01_or _ | assumption) (by first | (simp only [pIsOf, *, if_true, if_false, ite_true, ite_false, true_or, or_true, false_or, or_false, and_true, true_and, and_false, false_and, and_self, or_self, not_true_eq_false, not_false_eq_true, ne_eq, reduceIte, decide_true, decide_false, Bool.and_true, Bool.true_and, Bool.and_false, Bool.false_and]; done) | (simp [pIsOf, *]; done) | (simp_all [pIsOf]; done)) rfl
  by_cases s_1_1 : w = 1
  · refine A_lookup (off := 35) (tgt := 36) cx dX5_isOf_1 (by decide) (by rw [s_1_1]; decide) (by decide) ?_
    refine A_aload_n (q := 37) cx dX5_isOf_36 rfl rfl rfl ?_
    refine gX5_8 (q := 40) cx wi_X5_isOf_X5 wf_X5_isOf_44 dX5_isOf_37 rfl (in5 hX (by omega)) rfl ?_
    exact A_zret cx hlk hr hQ dX5_isOf_40 (by first | exact Or.inl rfl | exact Or.inr rfl | exact b01_or _ | assumption) (by first | (simp only [pIsOf, *, if_true, if_false, ite_true, ite_false, true_or, or_true, false_or, or_false, and_true, true_and, and_false, false_and, and_self, or_self, not_true_eq_false, not_false_eq_true, ne_eq, reduceIte, decide_true, decide_false, Bool.and_true, Bool.true_and, Bool.and_false, Bool.false_and]; done) | (simp [pIsOf, *]; done) | (simp_all [pIsOf]; done)) rfl
  refine A_lookup (off := 40) (tgt := 41) cx dX5_isOf_1 (by decide) (by show Op.lookupswitch.offset [(0, 27), (1, 35)] 40 _ = 40; rw [lv_osw s_1_0 (a := 0) rfl, lv_osw s_1_1 (a := 1) rfl]; rfl) (by decide) ?_
  refine A_aload_n (q := 42) cx dX5_isOf_41 rfl rfl rfl ?_
  refine gX5_7 (q := 45) cx wi_X5_isOf_X5 wf_X5_isOf_41 dX5_isOf_42 rfl (in5 hX (by omega)) rfl ?_
  refine A_iconst (v := 5) (q := 46) cx dX5_isOf_45 (by decide) rfl ?_
  refine A_icmp_ne (tgt := 53) (q := 49) cx dX5_isOf_46 (by decide) rfl (fun c_46 => ?_) (fun c_46 => ?_)
  · refine A_iconst (v := 0) (q := 54) cx dX5_isOf_53 (by decide) rfl ?_
    exact A_zret cx hlk hr hQ dX5_isOf_54 (by first | exact Or.inl rfl | exact Or.inr rfl | exact b01_or _ | assumption) (by first | (simp only [pIsOf, *, if_true, if_false, ite_true, ite_false, true_or, or_true, false_or, or_false, and_true, true_and, and_false, false_and, and_self, or_self, not_true_eq_false, not_false_eq_true, ne_eq, reduceIte, decide_true, decide_false, Bool.and_true, Bool.true_and, Bool.and_false, Bool.false_and]; done) | (simp [pIsOf, *]; done) | (simp_all [pIsOf]; done)) rfl
  · refine A_iconst (v := 1) (q := 50) cx dX5_isOf_49 (by decide) rfl ?_
    refine A_goto (q := 54) cx dX5_isOf_50 (by decide) ?_
    exact A_zret cx hlk hr hQ dX5_isOf_54 (by first | exact Or.inl rfl | exact Or.inr rfl | exact b01_or _ | assumption) (by first | (simp only [pIsOf, *, if_true, if_false, ite_true, ite_false, true_or, or_true, false_or, or_false, and_true, true_and, and_false, false_and, and_self, or_self, not_true_eq_false, not_false_eq_true, ne_eq, reduceIte, decide_true, decide_false, Bool.and_true, Bool.true_and, Bool.and_false, Bool.false_and]; done) | (simp [pIsOf, *]; done) | (simp_all [pIsOf]; done)) rfl
