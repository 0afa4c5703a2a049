/-! WHAT THE CLASS'S METHODS DO: Text, Net, History. -/
def zFig (v : Int32) : Int32 := if v < 0 then 0 else if 9 < v then 0 else 1
def zMost (v : Int32) : Int32 := if v < 1 then 0 else if 6 < v then 0 else 1
def zBit (v : Int32) : Int32 := if v = 0 then 1 else if v = 1 then 1 else 0
theorem zFig_or (v : Int32) : zFig v = 0 ∨ zFig v = 1 := by unfold zFig; (repeat' split) <;> simp
def tLet (σ : Sg) (x : Int32) : Int32 := if x < 0 then 0 else if σ (6, 0, 0, 0) 1 ≤ x then 0 else if 200 ≤ x then 0 else σ (9, 0, 0, 0) x.toNatClampNeg
def tOk (σ : Sg) : Bool := decide (¬ σ (6, 0, 0, 0) 1 < 0) && decide (σ (6, 0, 0, 0) 1 < 200)
def tAdd (σ : Sg) (x : Int32) : Sg := if tOk σ then up2 (up2 σ (9, 0, 0, 0) (σ (6, 0, 0, 0) 1).toNatClampNeg x) (6, 0, 0, 0) 1 (up2 σ (9, 0, 0, 0) (σ (6, 0, 0, 0) 1).toNatClampNeg x (6, 0, 0, 0) 1 + 1) else σ
def tN (σ : Sg) (p : Int32) : Nat := if tLet σ p = 108 then 4 else if tLet σ p = 109 then 3 else if tLet σ p = 120 then 2 else 0
theorem tN_le (σ : Sg) (p : Int32) : tN σ p ≤ 4 := by unfold tN; (repeat' split) <;> omega
def tNum (σ : Sg) (p i : Int32) : Int32 := tLet σ (p + 2 * i + 1) - 48
def tItemR (σ : Sg) (p : Int32) (N : Nat) : Nat → Nat → Int32
  | 0, _ => if nI N ≤ 0 then 0 else if tLet σ p = 109 then (if zMost (tNum σ p 0) = 0 then 0 else 1) else 1
  | d + 1, i => if zFig (tNum σ p (nI i)) = 0 then 0 else if tLet σ (p + 2 * nI i + 2) = (if nI N ≤ nI i + 1 then 59 else 44) then tItemR σ p N d (i + 1) else 0
def tItem (σ : Sg) (p : Int32) : Int32 := tItemR σ p (tN σ p) (tN σ p) 0
def tLen (σ : Sg) (p : Int32) : Int32 := 1 + 2 * nI (tN σ p)
def tFaultR (σ : Sg) : Nat → Int32 → Int32 → Int32
  | 0, _, _ => -4
  | d + 1, lk, p => if σ (6, 0, 0, 0) 1 ≤ p then -4 else if tItem σ p = 0 then p else if (if tLet σ p = 108 then lk + 1 else lk) ≤ 6 then tFaultR σ d (if tLet σ p = 108 then lk + 1 else lk) (p + tLen σ p) else p
def tFault (σ : Sg) : Int32 := tFaultR σ 200 0 0
def tTellR (σ : Sg) : Nat → Nat → Int32
  | 0, _ => 0
  | d + 1, i => if tLet σ (nI i) = 108 then 1 else tTellR σ d (i + 1)
def tTell (σ : Sg) (S : Nat) : Int32 := tTellR σ S 0
def nClear (σ : Sg) (n : Nat) : Sg := up2 (up2 (up2 (up2 (up2 (eClear (eClear σ n 0) n 1) (4, n, 0, 0) 2 0) (4, n, 0, 0) 3 4) (4, n, 0, 0) 4 2) (4, n, 0, 0) 5 1) (4, n, 0, 0) 6 0
def nCopy (σ : Sg) (n n2 : Nat) : Sg := cpI (cpI (cpI (cpI (cpI (eCopy (eCopy σ n 0 n2 0) n 1 n2 1) (4, n, 0, 0) (4, n2, 0, 0) 2) (4, n, 0, 0) (4, n2, 0, 0) 3) (4, n, 0, 0) (4, n2, 0, 0) 4) (4, n, 0, 0) (4, n2, 0, 0) 5) (4, n, 0, 0) (4, n2, 0, 0) 6
def nLike (σ : Sg) (n n2 : Nat) : Int32 := if eLikeP σ n 0 n2 0 6 0 = 0 then 0 else if eLikeP σ n 1 n2 1 6 0 = 0 then 0 else 1
def eOf (x : Int32) : Option Nat := if x = 0 then some 0 else if x = 1 then some 1 else none
theorem eOf_lt {x : Int32} {j : Nat} (h : eOf x = some j) : j < 2 := by
  unfold eOf at h
  split at h
  · cases h; decide
  · split at h
    · cases h; decide
    · cases h
def nPort (σ : Sg) (n : Nat) (x y : Int32) : Option Ky := match eOf x with
  | none => none
  | some e => if y < σ (4, n, 0, 0) 2 then (eAt 6 y).map (fun l => (5, n, e, l)) else none
def nFlow (n : Nat) (x y : Int32) : Option Ky := match eOf x with
  | none => none
  | some e => (eAt 8 y).map (fun l => (1, n, e, l))
theorem nPort_ok {σ : Sg} {n e j : Nat} {x y : Int32} (hx : eOf x = some e) (hy : y < σ (4, n, 0, 0) 2) (hj : eAt 6 y = some j) : nPort σ n x y = some (5, n, e, j) := by
  unfold nPort; rw [hx]; simp [hy, hj]
def nPlug (σ : Sg) (n j : Nat) (v : Int32) : Sg := up2 (up2 σ (5, n, 0, j) 0 v) (5, n, 1, j) 0 v
def nSet (σ : Sg) (n : Nat) (w : Int32) : Int32 := if w = 0 then σ (0, n, 0, 0) 1 else if w = 1 then σ (0, n, 1, 0) 1 else σ (4, n, 0, 0) 3
def nChg (σ : Sg) (n : Nat) (w v : Int32) : Sg := if w = 0 then up2 σ (0, n, 0, 0) 1 v else if w = 1 then up2 σ (0, n, 1, 0) 1 v else up2 σ (4, n, 0, 0) 3 v
def nStepOf1 (σ : Sg) (n e : Nat) : Sg := eChoose σ n e (σ (4, n, 0, 0) 3).toNatClampNeg
def nStepOf2 (σ : Sg) (n e : Nat) : Sg := eJudge n e (σ (4, n, 0, 0) 4) 6 0 σ
def nStepOf3 (σ : Sg) (n e : Nat) : Sg := eDeal σ n e (σ (4, n, 0, 0) 5)
def nStepOf (σ : Sg) (n e : Nat) : Sg := nStepOf3 (nStepOf2 (nStepOf1 σ n e) n e) n e
def nStep1 (σ : Sg) (n : Nat) : Sg := nStepOf (nStepOf (eHear n 1 n 0 6 0 (eHear n 0 n 1 6 0 σ)) n 0) n 1
def nStep (σ : Sg) (n : Nat) : Sg := up2 (nStep1 σ n) (4, n, 0, 0) 6 (nStep1 σ n (4, n, 0, 0) 6 + 1)
def nAdd1 (σ : Sg) (n j : Nat) (p : Int32) : Sg := pBegin σ n 0 j (tNum σ p 0) (tNum σ p 1)
def nAdd2 (σ : Sg) (n j : Nat) (p : Int32) : Sg := pBegin σ n 1 j (tNum σ p 2) (tNum σ p 3)
def nAdd3 (σ : Sg) (n j : Nat) (p : Int32) : Sg := nAdd2 (nAdd1 σ n j p) n j p
def nAdd (σ : Sg) (n : Nat) (p : Int32) : Sg := match eAt 6 (σ (4, n, 0, 0) 2) with
  | none => σ
  | some j => up2 (nAdd3 σ n j p) (4, n, 0, 0) 2 (nAdd3 σ n j p (4, n, 0, 0) 2 + 1)
def nRk (σ : Sg) (n e : Nat) (p i : Int32) : Sg := up2 σ (0, n, e, 0) 1 (tNum σ p i)
def nMs (σ : Sg) (n j : Nat) (p i : Int32) : Sg := up2 σ (4, n, 0, 0) j (tNum σ p i)
def nItem (σ : Sg) (n : Nat) (p : Int32) : Sg :=
  if tLet σ p = 108 then nAdd σ n p else if tLet σ p = 109 then nMs (nMs (nMs σ n 3 p 0) n 4 p 1) n 5 p 2 else if tLet σ p = 120 then nRk (nRk σ n 0 p 0) n 1 p 1 else σ
def nLayR (n : Nat) : Nat → Int32 → Sg → Sg
  | 0, _, σ => σ
  | d + 1, p, σ => if σ (6, 0, 0, 0) 1 ≤ p then σ else nLayR n d (p + tLen (nItem σ n p) p) (nItem σ n p)
def nLay (σ : Sg) (n : Nat) : Sg := nLayR n 200 0 (nClear σ n)
def hNext (σ : Sg) : Sg := up2 σ (2, 0, 0, 0) 1 (if 6 ≤ σ (2, 0, 0, 0) 1 + 1 then 0 else σ (2, 0, 0, 0) 1 + 1)
def hMin (σ : Sg) : Sg := up2 σ (2, 0, 0, 0) 2 (if 6 < σ (2, 0, 0, 0) 2 + 1 then 6 else σ (2, 0, 0, 0) 2 + 1)
def hKeep (σ : Sg) (n : Nat) : Sg := match eAt 6 (σ (2, 0, 0, 0) 1) with
  | none => σ
  | some j => hMin (hNext (nCopy σ (j + 1) n))
def hLast (σ : Sg) : Int32 := if σ (2, 0, 0, 0) 1 ≤ 0 then 6 - 1 else σ (2, 0, 0, 0) 1 - 1
def hTakeR (σ : Sg) : Option Nat := if σ (2, 0, 0, 0) 2 = 0 then none else eAt 6 (hLast σ)
def hTake (σ : Sg) : Sg := match hTakeR σ with
  | none => σ
  | some _ => up2 (up2 σ (2, 0, 0, 0) 1 (hLast σ)) (2, 0, 0, 0) 2 (up2 σ (2, 0, 0, 0) 1 (hLast σ) (2, 0, 0, 0) 2 - 1)
theorem eAt_no {L : Nat} {x : Int32} (h : x < 0 ∨ ¬ x < nI L) : eAt L x = none := by
  unfold eAt
  rcases h with h | h
  · rw [if_pos h]
  · split
    · rfl
    · rw [if_pos (Int32.not_lt.mp h)]
theorem eAt_of {L : Nat} {x : Int32} {j : Nat} (h0 : ¬ x < 0) (h : x < nI L) (hj : x.toNatClampNeg = j) : eAt L x = some j := by
  unfold eAt; rw [if_neg h0, if_neg (Int32.not_le.mpr h), hj]
set_option maxHeartbeats 4000000 in
set_option maxRecDepth 100000 in
theorem ct_X7_isFigure {la : Launch} {E : Ev} (hE : okE E) (hX : xin E) {σ : Sg} {v : Int32} : CI la yX7_isFigure wsX7_isFigure 0 0 E rh0 [.int v] σ (zFig v) σ := by
  refine met_of (lv := [some _]) RX7 (by decide) rfl rfl rfl hE (ok1 rfl) (Nat.le_of_ble_eq_true rfl) (fun p ev s m args below meth c Q cx hlk hr hQ => ?_)
  refine A_iload_n (q := 1) cx dX7_isFigure_0 rfl rfl ?_
  refine A_if_lt (tgt := 14) (q := 4) cx dX7_isFigure_1 (by decide) rfl (fun c_1 => ?_) (fun c_1 => ?_)
  · refine A_iconst (v := 0) (q := 15) cx dX7_isFigure_14 (by decide) rfl ?_
    exact A_zret cx hlk hr hQ dX7_isFigure_15 (by first | exact Or.inl rfl | exact Or.inr rfl | exact b01_or _ | assumption) (by first | (simp only [zFig, *, if_true, if_false, ite_true, ite_false, true_or, or_true, false_or, or_false, and_true, true_and, and_false, false_and, and_self, or_self, not_true_eq_false, not_false_eq_true, ne_eq, reduceIte, decide_true, decide_false, Bool.and_true, Bool.true_and, Bool.and_false, Bool.false_and]; done) | (simp [zFig, *]; done) | (simp_all [zFig]; done)) rfl
  · refine A_iload_n (q := 5) cx dX7_isFigure_4 rfl rfl ?_
    refine A_bipush (v := 9) (q := 7) cx dX7_isFigure_5 (by decide) rfl ?_
    refine A_icmp_gt (tgt := 14) (q := 10) cx dX7_isFigure_7 (by decide) rfl (fun c_7 => ?_) (fun c_7 => ?_)
    · refine A_iconst (v := 0) (q := 15) cx dX7_isFigure_14 (by decide) rfl ?_
      exact A_zret cx hlk hr hQ dX7_isFigure_15 (by first | exact Or.inl rfl | exact Or.inr rfl | exact b01_or _ | assumption) (by first | (simp only [zFig, *, if_true, if_false, ite_true, ite_false, true_or, or_true, false_or, or_false, and_true, true_and, and_false, false_and, and_self, or_self, not_true_eq_false, not_false_eq_true, ne_eq, reduceIte, decide_true, decide_false, Bool.and_true, Bool.true_and, Bool.and_false, Bool.false_and]; done) | (simp [zFig, *]; done) | (simp_all [zFig]; done)) rfl
    · refine A_iconst (v := 1) (q := 11) cx dX7_isFigure_10 (by decide) rfl ?_
      refine A_goto (q := 15) cx dX7_isFigure_11 (by decide) ?_
      exact A_zret cx hlk hr hQ dX7_isFigure_15 (by first | exact Or.inl rfl | exact Or.inr rfl | exact b01_or _ | assumption) (by first | (simp only [zFig, *, if_true, if_false, ite_true, ite_false, true_or, or_true, false_or, or_false, and_true, true_and, and_false, false_and, and_self, or_self, not_true_eq_false, not_false_eq_true, ne_eq, reduceIte, decide_true, decide_false, Bool.and_true, Bool.true_and, Bool.and_false, Bool.false_and]; done) | (simp [zFig, *]; done) | (simp_all [zFig]; done)) rfl
set_option maxHeartbeats 4000000 in
set_option maxRecDepth 100000 in
theorem ct_X7_isMost {la : Launch} {E : Ev} (hE : okE E) (hX : xin E) {σ : Sg} {v : Int32} : CI la yX7_isMost wsX7_isMost 0 0 E rh0 [.int v] σ (zMost v) σ := by
  refine met_of (lv := [some _]) RX7 (by decide) rfl rfl rfl hE (ok1 rfl) (Nat.le_of_ble_eq_true rfl) (fun p ev s m args below meth c Q cx hlk hr hQ => ?_)
  refine A_iload_n (q := 1) cx dX7_isMost_0 rfl rfl ?_
  refine A_iconst (v := 1) (q := 2) cx dX7_isMost_1 (by decide) rfl ?_
  refine A_icmp_lt (tgt := 15) (q := 5) cx dX7_isMost_2 (by decide) rfl (fun c_2 => ?_) (fun c_2 => ?_)
  · refine A_iconst (v := 0) (q := 16) cx dX7_isMost_15 (by decide) rfl ?_
    exact A_zret cx hlk hr hQ dX7_isMost_16 (by first | exact Or.inl rfl | exact Or.inr rfl | exact b01_or _ | assumption) (by first | (simp only [zMost, *, if_true, if_false, ite_true, ite_false, true_or, or_true, false_or, or_false, and_true, true_and, and_false, false_and, and_self, or_self, not_true_eq_false, not_false_eq_true, ne_eq, reduceIte, decide_true, decide_false, Bool.and_true, Bool.true_and, Bool.and_false, Bool.false_and]; done) | (simp [zMost, *]; done) | (simp_all [zMost]; done)) rfl
  · refine A_iload_n (q := 6) cx dX7_isMost_5 rfl rfl ?_
    refine A_bipush (v := 6) (q := 8) cx dX7_isMost_6 (by decide) rfl ?_
    refine A_icmp_gt (tgt := 15) (q := 11) cx dX7_isMost_8 (by decide) rfl (fun c_8 => ?_) (fun c_8 => ?_)
    · refine A_iconst (v := 0) (q := 16) cx dX7_isMost_15 (by decide) rfl ?_
      exact A_zret cx hlk hr hQ dX7_isMost_16 (by first | exact Or.inl rfl | exact Or.inr rfl | exact b01_or _ | assumption) (by first | (simp only [zMost, *, if_true, if_false, ite_true, ite_false, true_or, or_true, false_or, or_false, and_true, true_and, and_false, false_and, and_self, or_self, not_true_eq_false, not_false_eq_true, ne_eq, reduceIte, decide_true, decide_false, Bool.and_true, Bool.true_and, Bool.and_false, Bool.false_and]; done) | (simp [zMost, *]; done) | (simp_all [zMost]; done)) rfl
    · refine A_iconst (v := 1) (q := 12) cx dX7_isMost_11 (by decide) rfl ?_
      refine A_goto (q := 16) cx dX7_isMost_12 (by decide) ?_
      exact A_zret cx hlk hr hQ dX7_isMost_16 (by first | exact Or.inl rfl | exact Or.inr rfl | exact b01_or _ | assumption) (by first | (simp only [zMost, *, if_true, if_false, ite_true, ite_false, true_or, or_true, false_or, or_false, and_true, true_and, and_false, false_and, and_self, or_self, not_true_eq_false, not_false_eq_true, ne_eq, reduceIte, decide_true, decide_false, Bool.and_true, Bool.true_and, Bool.and_false, Bool.false_and]; done) | (simp [zMost, *]; done) | (simp_all [zMost]; done)) rfl
set_option maxHeartbeats 4000000 in
set_option maxRecDepth 100000 in
theorem ct_X7_isZeroOrOne {la : Launch} {E : Ev} (hE : okE E) (hX : xin E) {σ : Sg} {v : Int32} : CI la yX7_isZeroOrOne wsX7_isZeroOrOne 0 0 E rh0 [.int v] σ (zBit v) σ := by
  refine met_of (lv := [some _]) RX7 (by decide) rfl rfl rfl hE (ok1 rfl) (Nat.le_of_ble_eq_true rfl) (fun p ev s m args below meth c Q cx hlk hr hQ => ?_)
  refine A_iload_n (q := 1) cx dX7_isZeroOrOne_0 rfl rfl ?_
  refine A_if_eq (tgt := 9) (q := 4) cx dX7_isZeroOrOne_1 (by decide) rfl (fun c_1 => ?_) (fun c_1 => ?_)
  · refine A_iconst (v := 1) (q := 10) cx dX7_isZeroOrOne_9 (by decide) rfl ?_
    refine A_goto (q := 14) cx dX7_isZeroOrOne_10 (by decide) ?_
    exact A_zret cx hlk hr hQ dX7_isZeroOrOne_14 (by first | exact Or.inl rfl | exact Or.inr rfl | exact b01_or _ | assumption) (by first | (simp only [zBit, *, if_true, if_false, ite_true, ite_false, true_or, or_true, false_or, or_false, and_true, true_and, and_false, false_and, and_self, or_self, not_true_eq_false, not_false_eq_true, ne_eq, reduceIte, decide_true, decide_false, Bool.and_true, Bool.true_and, Bool.and_false, Bool.false_and]; done) | (simp [zBit, *]; done) | (simp_all [zBit]; done)) rfl
  · refine A_iload_n (q := 5) cx dX7_isZeroOrOne_4 rfl rfl ?_
    refine A_iconst (v := 1) (q := 6) cx dX7_isZeroOrOne_5 (by decide) rfl ?_
    refine A_icmp_ne (tgt := 13) (q := 9) cx dX7_isZeroOrOne_6 (by decide) rfl (fun c_6 => ?_) (fun c_6 => ?_)
    · refine A_iconst (v := 0) (q := 14) cx dX7_isZeroOrOne_13 (by decide) rfl ?_
      exact A_zret cx hlk hr hQ dX7_isZeroOrOne_14 (by first | exact Or.inl rfl | exact Or.inr rfl | exact b01_or _ | assumption) (by first | (simp only [zBit, *, if_true, if_false, ite_true, ite_false, true_or, or_true, false_or, or_false, and_true, true_and, and_false, false_and, and_self, or_self, not_true_eq_false, not_false_eq_true, ne_eq, reduceIte, decide_true, decide_false, Bool.and_true, Bool.true_and, Bool.and_false, Bool.false_and]; done) | (simp [zBit, *]; done) | (simp_all [zBit]; done)) rfl
    · refine A_iconst (v := 1) (q := 10) cx dX7_isZeroOrOne_9 (by decide) rfl ?_
      refine A_goto (q := 14) cx dX7_isZeroOrOne_10 (by decide) ?_
      exact A_zret cx hlk hr hQ dX7_isZeroOrOne_14 (by first | exact Or.inl rfl | exact Or.inr rfl | exact b01_or _ | assumption) (by first | (simp only [zBit, *, if_true, if_false, ite_true, ite_false, true_or, or_true, false_or, or_false, and_true, true_and, and_false, false_and, and_self, or_self, not_true_eq_false, not_false_eq_true, ne_eq, reduceIte, decide_true, decide_false, Bool.and_true, Bool.true_and, Bool.and_false, Bool.false_and]; done) | (simp [zBit, *]; done) | (simp_all [zBit]; done)) rfl
theorem wi_X6_clear_X6 : ∀ w ∈ u_ws RX6 TX6 2, w ∈ wsX6_clear := by decide +kernel
theorem wf_X6_clear_15 : Cond.fieldLink RX6 15 (TX6 1).1 (TX6 1).2.1 (TX6 1).2.2.1 ∈ wsX6_clear := by decide +kernel
set_option maxHeartbeats 4000000 in
set_option maxRecDepth 100000 in
theorem ct_X6_clear {la : Launch} {E : Ev} (hE : okE E) (hX : xin E) {σ : Sg}  : CV la yX6_clear wsX6_clear 0 0 E rh0 [.ref (ad E (6, 0, 0, 0))] σ (up2 σ (6, 0, 0, 0) 1 0) := by
  refine met_of (lv := [some _]) RX6 (by decide) rfl rfl rfl hE (ok1 rfl) (Nat.le_of_ble_eq_true rfl) (fun p ev s m args below meth c Q cx hlk hr hQ => ?_)
  refine A_aload_n (q := 1) cx dX6_clear_0 rfl rfl rfl ?_
  refine A_iconst (v := 0) (q := 2) cx dX6_clear_1 (by decide) rfl ?_
  refine pX6_1 (q := 5) cx wi_X6_clear_X6 wf_X6_clear_15 dX6_clear_2 rfl (in6 hX) rfl ?_
  exact A_vret cx hlk hr hQ dX6_clear_5 rfl
theorem wi_X6_letterAt_X6 : ∀ w ∈ u_ws RX6 TX6 2, w ∈ wsX6_letterAt := by decide +kernel
theorem wf_X6_letterAt_15 : Cond.fieldLink RX6 15 (TX6 1).1 (TX6 1).2.1 (TX6 1).2.2.1 ∈ wsX6_letterAt := by decide +kernel
theorem wf_X6_letterAt_9 : Cond.fieldLink RX6 9 (TX6 0).1 (TX6 0).2.1 (TX6 0).2.2.1 ∈ wsX6_letterAt := by decide +kernel
set_option maxHeartbeats 4000000 in
set_option maxRecDepth 100000 in
theorem ct_X6_letterAt {la : Launch} {E : Ev} (hE : okE E) (hX : xin E) {σ : Sg} {x : Int32} : CI la yX6_letterAt wsX6_letterAt 0 0 E rh0 [.ref (ad E (6, 0, 0, 0)), .int x] σ (tLet σ x) σ := by
  refine met_of (lv := [some _, some _]) RX6 (by decide) rfl rfl rfl hE (ok2 rfl rfl) (Nat.le_of_ble_eq_true rfl) (fun p ev s m args below meth c Q cx hlk hr hQ => ?_)
  refine A_iload_n (q := 1) cx dX6_letterAt_0 rfl rfl ?_
  refine A_if_lt (tgt := 30) (q := 4) cx dX6_letterAt_1 (by decide) rfl (fun c_1 => ?_) (fun c_1 => ?_)
  · refine A_iconst (v := 0) (q := 31) cx dX6_letterAt_30 (by decide) rfl ?_
    exact A_iret cx hlk hr hQ dX6_letterAt_31 (by first | (unfold tLet; rw [if_neg c_1, if_neg c_9, if_neg c_18, hcl]; done) | (simp [tLet, *]; done)) rfl
  · refine A_iload_n (q := 5) cx dX6_letterAt_4 rfl rfl ?_
    refine A_aload_n (q := 6) cx dX6_letterAt_5 rfl rfl rfl ?_
    refine gX6_1 (q := 9) cx wi_X6_letterAt_X6 wf_X6_letterAt_15 dX6_letterAt_6 rfl (in6 hX) rfl ?_
    refine A_icmp_ge (tgt := 30) (q := 12) cx dX6_letterAt_9 (by decide) rfl (fun c_9 => ?_) (fun c_9 => ?_)
    · refine A_iconst (v := 0) (q := 31) cx dX6_letterAt_30 (by decide) rfl ?_
      exact A_iret cx hlk hr hQ dX6_letterAt_31 (by first | (unfold tLet; rw [if_neg c_1, if_neg c_9, if_neg c_18, hcl]; done) | (simp [tLet, *]; done)) rfl
    · refine A_iload_n (q := 13) cx dX6_letterAt_12 rfl rfl ?_
      refine A_aload_n (q := 14) cx dX6_letterAt_13 rfl rfl rfl ?_
      refine gX6_0 (q := 17) cx wi_X6_letterAt_X6 wf_X6_letterAt_9 dX6_letterAt_14 rfl (in6 hX) rfl rfl ?_
      refine A_alen9 (v := 200) (q := 18) cx dX6_letterAt_17 rfl (in90 hX) rfl rfl ?_
      refine A_icmp_ge (tgt := 30) (q := 21) cx dX6_letterAt_18 (by decide) rfl (fun c_18 => ?_) (fun c_18 => ?_)
      · refine A_iconst (v := 0) (q := 31) cx dX6_letterAt_30 (by decide) rfl ?_
        exact A_iret cx hlk hr hQ dX6_letterAt_31 (by first | (unfold tLet; rw [if_neg c_1, if_neg c_9, if_neg c_18, hcl]; done) | (simp [tLet, *]; done)) rfl
      · obtain ⟨j, hj, hx, -, hcl, -⟩ := pk_mu (L := 200) c_1 c_18 (by decide)
        refine A_aload_n (q := 22) cx dX6_letterAt_21 rfl rfl rfl ?_
        refine gX6_0 (q := 25) cx wi_X6_letterAt_X6 wf_X6_letterAt_9 dX6_letterAt_22 rfl (in6 hX) rfl rfl ?_
        refine A_iload_n (q := 26) cx dX6_letterAt_25 rfl rfl ?_
        refine A_iaload (q := 27) cx dX6_letterAt_26 rfl (in90 hX) hx hj rfl ?_
        refine A_goto (q := 31) cx dX6_letterAt_27 (by decide) ?_
        exact A_iret cx hlk hr hQ dX6_letterAt_31 (by first | (unfold tLet; rw [if_neg c_1, if_neg c_9, if_neg c_18, hcl]; done) | (simp [tLet, *]; done)) rfl
theorem wi_X6_add_X6 : ∀ w ∈ u_ws RX6 TX6 2, w ∈ wsX6_add := by decide +kernel
theorem wf_X6_add_15 : Cond.fieldLink RX6 15 (TX6 1).1 (TX6 1).2.1 (TX6 1).2.2.1 ∈ wsX6_add := by decide +kernel
theorem wf_X6_add_9 : Cond.fieldLink RX6 9 (TX6 0).1 (TX6 0).2.1 (TX6 0).2.2.1 ∈ wsX6_add := by decide +kernel
set_option maxHeartbeats 4000000 in
set_option maxRecDepth 100000 in
theorem ct_X6_add {la : Launch} {E : Ev} (hE : okE E) (hX : xin E) {σ : Sg} {x : Int32} : CI la yX6_add wsX6_add 0 0 E rh0 [.ref (ad E (6, 0, 0, 0)), .int x] σ (if tOk σ then 1 else 0) (tAdd σ x) := by
  refine met_of (lv := [some _, some _]) RX6 (by decide) rfl rfl rfl hE (ok2 rfl rfl) (Nat.le_of_ble_eq_true rfl) (fun p ev s m args below meth c Q cx hlk hr hQ => ?_)
  refine A_aload_n (q := 1) cx dX6_add_0 rfl rfl rfl ?_
  refine gX6_1 (q := 4) cx wi_X6_add_X6 wf_X6_add_15 dX6_add_1 rfl (in6 hX) rfl ?_
  refine A_if_lt (tgt := 19) (q := 7) cx dX6_add_4 (by decide) rfl (fun c_4 => ?_) (fun c_4 => ?_)
  · refine A_iconst (v := 0) (q := 20) cx dX6_add_19 (by decide) rfl ?_
    exact A_zret cx hlk hr hQ dX6_add_20 (by first | exact Or.inl rfl | exact Or.inr rfl | exact b01_or _ | assumption) (by first | (simp only [tOk, *, if_true, if_false, ite_true, ite_false, true_or, or_true, false_or, or_false, and_true, true_and, and_false, false_and, and_self, or_self, not_true_eq_false, not_false_eq_true, ne_eq, reduceIte, decide_true, decide_false, Bool.and_true, Bool.true_and, Bool.and_false, Bool.false_and]; done) | (simp [tOk, *]; done) | (simp_all [tOk]; done)) (by first | (simp only [tAdd, tOk, *, if_true, if_false, ite_true, ite_false, true_or, or_true, false_or, or_false, and_true, true_and, and_false, false_and, and_self, or_self, not_true_eq_false, not_false_eq_true, ne_eq, reduceIte, decide_true, decide_false, Bool.and_true, Bool.true_and, Bool.and_false, Bool.false_and]; done) | (simp [tAdd, tOk, *]; done) | (simp_all [tAdd, tOk]; done))
  · refine A_aload_n (q := 8) cx dX6_add_7 rfl rfl rfl ?_
    refine gX6_1 (q := 11) cx wi_X6_add_X6 wf_X6_add_15 dX6_add_8 rfl (in6 hX) rfl ?_
    refine A_aload_n (q := 12) cx dX6_add_11 rfl rfl rfl ?_
    refine gX6_0 (q := 15) cx wi_X6_add_X6 wf_X6_add_9 dX6_add_12 rfl (in6 hX) rfl rfl ?_
    refine A_alen9 (v := 200) (q := 16) cx dX6_add_15 rfl (in90 hX) rfl rfl ?_
    refine A_icmp_lt (tgt := 21) (q := 19) cx dX6_add_16 (by decide) rfl (fun c_16 => ?_) (fun c_16 => ?_)
    · obtain ⟨j, hj, hx, hcl⟩ := ix_lt (L := 200) c_4 c_16 (by decide)
      refine A_aload_n (q := 22) cx dX6_add_21 rfl rfl rfl ?_
      refine gX6_0 (q := 25) cx wi_X6_add_X6 wf_X6_add_9 dX6_add_22 rfl (in6 hX) rfl rfl ?_
      refine A_aload_n (q := 26) cx dX6_add_25 rfl rfl rfl ?_
      refine gX6_1 (q := 29) cx wi_X6_add_X6 wf_X6_add_15 dX6_add_26 rfl (in6 hX) rfl ?_
      refine A_iload_n (q := 30) cx dX6_add_29 rfl rfl ?_
      refine A_iastore (q := 31) cx dX6_add_30 rfl (in90 hX) hx hj rfl ?_
      refine A_aload_n (q := 32) cx dX6_add_31 rfl rfl rfl ?_
      refine A_dup (q := 33) cx dX6_add_32 rfl rfl ?_
      refine gX6_1 (q := 36) cx wi_X6_add_X6 wf_X6_add_15 dX6_add_33 rfl (in6 hX) rfl ?_
      refine A_iconst (v := 1) (q := 37) cx dX6_add_36 (by decide) rfl ?_
      refine A_iadd (q := 38) cx dX6_add_37 rfl ?_
      refine pX6_1 (q := 41) cx wi_X6_add_X6 wf_X6_add_15 dX6_add_38 rfl (in6 hX) rfl ?_
      refine A_iconst (v := 1) (q := 42) cx dX6_add_41 (by decide) rfl ?_
      exact A_zret cx hlk hr hQ dX6_add_42 (by first | exact Or.inl rfl | exact Or.inr rfl | exact b01_or _ | assumption) (by first | (simp only [tOk, c_4, c_16, *, if_true, if_false, ite_true, ite_false, true_or, or_true, false_or, or_false, and_true, true_and, and_false, false_and, and_self, or_self, not_true_eq_false, not_false_eq_true, ne_eq, reduceIte, decide_true, decide_false, Bool.and_true, Bool.true_and, Bool.and_false, Bool.false_and]; done) | (simp [tOk, c_4, c_16, *]; done) | (simp_all [tOk, c_4, c_16]; done)) (by simp only [tAdd, tOk, c_4, c_16, hcl]; rfl)
    · refine A_iconst (v := 0) (q := 20) cx dX6_add_19 (by decide) rfl ?_
      exact A_zret cx hlk hr hQ dX6_add_20 (by first | exact Or.inl rfl | exact Or.inr rfl | exact b01_or _ | assumption) (by first | (simp only [tOk, *, if_true, if_false, ite_true, ite_false, true_or, or_true, false_or, or_false, and_true, true_and, and_false, false_and, and_self, or_self, not_true_eq_false, not_false_eq_true, ne_eq, reduceIte, decide_true, decide_false, Bool.and_true, Bool.true_and, Bool.and_false, Bool.false_and]; done) | (simp [tOk, *]; done) | (simp_all [tOk]; done)) (by first | (simp only [tAdd, tOk, *, if_true, if_false, ite_true, ite_false, true_or, or_true, false_or, or_false, and_true, true_and, and_false, false_and, and_self, or_self, not_true_eq_false, not_false_eq_true, ne_eq, reduceIte, decide_true, decide_false, Bool.and_true, Bool.true_and, Bool.and_false, Bool.false_and]; done) | (simp [tAdd, tOk, *]; done) | (simp_all [tAdd, tOk]; done))
set_option maxHeartbeats 4000000 in
set_option maxRecDepth 100000 in
theorem ct_X6_numbersOfItem {la : Launch} {E : Ev} (hE : okE E) (hX : xin E) {σ : Sg} {x : Int32} : CI la yX6_numbersOfItem wsX6_numbersOfItem 1 21 E rh0 [.ref (ad E (6, 0, 0, 0)), .int x] σ (nI (tN σ x)) σ := by
  refine met_of (lv := [some _, some _]) RX6 (by decide) rfl rfl rfl hE (ok2 rfl rfl) (Nat.le_of_ble_eq_true rfl) (fun p ev s m args below meth c Q cx hlk hr hQ => ?_)
  refine A_aload_n (q := 1) cx dX6_numbersOfItem_0 rfl rfl rfl ?_
  refine A_iload_n (q := 2) cx dX6_numbersOfItem_1 rfl rfl ?_
  refine VI1 (q := 5) cx (ct_X6_letterAt hE hX) (cwV 1 cx.1.2.2.2.2 gX6_numbersOfItem_X6_letterAt rfl rfl rfl (by decide +kernel) ⟨Nat.le_of_ble_eq_true rfl, Nat.le_of_ble_eq_true rfl⟩) dX6_numbersOfItem_2 rfl rfl (in6 hX) rfl (Nat.le_of_ble_eq_true rfl) ⟨Nat.zero_le _, Nat.zero_le _⟩ rfl ?_
  by_cases s_5_108 : tLet σ x = 108
  · refine A_lookup (off := 35) (tgt := 40) cx dX6_numbersOfItem_5 (by decide) (by rw [s_5_108]; decide) (by decide) ?_
    refine A_iconst (v := 4) (q := 41) cx dX6_numbersOfItem_40 (by decide) rfl ?_
    exact A_iret cx hlk hr hQ dX6_numbersOfItem_41 (by simp only [tN, *]; rfl) rfl
  by_cases s_5_109 : tLet σ x = 109
  · refine A_lookup (off := 39) (tgt := 44) cx dX6_numbersOfItem_5 (by decide) (by rw [s_5_109]; decide) (by decide) ?_
    refine A_iconst (v := 3) (q := 45) cx dX6_numbersOfItem_44 (by decide) rfl ?_
    exact A_iret cx hlk hr hQ dX6_numbersOfItem_45 (by simp only [tN, *]; rfl) rfl
  by_cases s_5_120 : tLet σ x = 120
  · refine A_lookup (off := 37) (tgt := 42) cx dX6_numbersOfItem_5 (by decide) (by rw [s_5_120]; decide) (by decide) ?_
    refine A_iconst (v := 2) (q := 43) cx dX6_numbersOfItem_42 (by decide) rfl ?_
    exact A_iret cx hlk hr hQ dX6_numbersOfItem_43 (by simp only [tN, *]; rfl) rfl
  refine A_lookup (off := 41) (tgt := 46) cx dX6_numbersOfItem_5 (by decide) (by show Op.lookupswitch.offset [(108, 35), (109, 39), (120, 37)] 41 _ = 41; rw [lv_osw s_5_108 (a := 108) rfl, lv_osw s_5_109 (a := 109) rfl, lv_osw s_5_120 (a := 120) rfl]; rfl) (by decide) ?_
  refine A_iconst (v := 0) (q := 47) cx dX6_numbersOfItem_46 (by decide) rfl ?_
  exact A_iret cx hlk hr hQ dX6_numbersOfItem_47 (by simp only [tN, *]; rfl) rfl
set_option maxHeartbeats 4000000 in
set_option maxRecDepth 100000 in
theorem ct_X6_lengthOfItem {la : Launch} {E : Ev} (hE : okE E) (hX : xin E) {σ : Sg} {x : Int32} : CI la yX6_lengthOfItem wsX6_lengthOfItem 2 42 E rh0 [.ref (ad E (6, 0, 0, 0)), .int x] σ (tLen σ x) σ := by
  refine met_of (lv := [some _, some _]) RX6 (by decide) rfl rfl rfl hE (ok2 rfl rfl) (Nat.le_of_ble_eq_true rfl) (fun p ev s m args below meth c Q cx hlk hr hQ => ?_)
  refine A_iconst (v := 1) (q := 1) cx dX6_lengthOfItem_0 (by decide) rfl ?_
  refine A_iconst (v := 2) (q := 2) cx dX6_lengthOfItem_1 (by decide) rfl ?_
  refine A_aload_n (q := 3) cx dX6_lengthOfItem_2 rfl rfl rfl ?_
  refine A_iload_n (q := 4) cx dX6_lengthOfItem_3 rfl rfl ?_
  refine VI1 (q := 7) cx (ct_X6_numbersOfItem hE hX) (cwV 1 cx.1.2.2.2.2 gX6_lengthOfItem_X6_numbersOfItem rfl rfl rfl (by decide +kernel) ⟨Nat.le_of_ble_eq_true rfl, Nat.le_of_ble_eq_true rfl⟩) dX6_lengthOfItem_4 rfl rfl (in6 hX) rfl (Nat.le_of_ble_eq_true rfl) ⟨Nat.zero_le _, Nat.zero_le _⟩ rfl ?_
  refine A_imul (q := 8) cx dX6_lengthOfItem_7 rfl ?_
  refine A_iadd (q := 9) cx dX6_lengthOfItem_8 rfl ?_
  exact A_iret cx hlk hr hQ dX6_lengthOfItem_9 rfl rfl
set_option maxHeartbeats 4000000 in
set_option maxRecDepth 100000 in
theorem ct_X6_number {la : Launch} {E : Ev} (hE : okE E) (hX : xin E) {σ : Sg} {x y : Int32} : CI la yX6_number wsX6_number 1 21 E rh0 [.ref (ad E (6, 0, 0, 0)), .int x, .int y] σ (tNum σ x y) σ := by
  refine met_of (lv := [some _, some _, some _]) RX6 (by decide) rfl rfl rfl hE (ok3 rfl rfl rfl) (Nat.le_of_ble_eq_true rfl) (fun p ev s m args below meth c Q cx hlk hr hQ => ?_)
  refine A_aload_n (q := 1) cx dX6_number_0 rfl rfl rfl ?_
  refine A_iload_n (q := 2) cx dX6_number_1 rfl rfl ?_
  refine A_iconst (v := 2) (q := 3) cx dX6_number_2 (by decide) rfl ?_
  refine A_iload_n (q := 4) cx dX6_number_3 rfl rfl ?_
  refine A_imul (q := 5) cx dX6_number_4 rfl ?_
  refine A_iadd (q := 6) cx dX6_number_5 rfl ?_
  refine A_iconst (v := 1) (q := 7) cx dX6_number_6 (by decide) rfl ?_
  refine A_iadd (q := 8) cx dX6_number_7 rfl ?_
  refine VI1 (q := 11) cx (ct_X6_letterAt hE hX) (cwV 1 cx.1.2.2.2.2 gX6_number_X6_letterAt rfl rfl rfl (by decide +kernel) ⟨Nat.le_of_ble_eq_true rfl, Nat.le_of_ble_eq_true rfl⟩) dX6_number_8 rfl rfl (in6 hX) rfl (Nat.le_of_ble_eq_true rfl) ⟨Nat.zero_le _, Nat.zero_le _⟩ rfl ?_
  refine A_bipush (v := 48) (q := 13) cx dX6_number_11 (by decide) rfl ?_
  refine A_isub (q := 14) cx dX6_number_13 rfl ?_
  exact A_iret cx hlk hr hQ dX6_number_14 rfl rfl
theorem ws_X6_isItem_40 : Cond.static yX7_isMost ∈ wsX6_isItem := by decide +kernel
theorem wz_X6_isItem_40 : Cond.initialized RX7 ∈ wsX6_isItem := by decide +kernel
theorem ws_X6_isItem_37 : Cond.static yX7_isFigure ∈ wsX6_isItem := by decide +kernel
theorem wz_X6_isItem_37 : Cond.initialized RX7 ∈ wsX6_isItem := by decide +kernel
set_option maxHeartbeats 4000000 in
set_option maxRecDepth 100000 in
theorem ct_X6_isItem {la : Launch} {E : Ev} (hE : okE E) (hX : xin E) {σ0 : Sg} {x : Int32} : CI la yX6_isItem wsX6_isItem 2 43 E rh0 [.ref (ad E (6, 0, 0, 0)), .int x] σ0 (tItem σ0 x) σ0 := by
  refine met_of (lv := [some _, some _, none, none, none]) RX6 (by decide) rfl rfl rfl hE (ok2 rfl rfl) (Nat.le_of_ble_eq_true rfl) (fun p ev s m args below meth c Q cx hlk hr hQ => ?_)
  have hN := tN_le σ0 x
  have l1 : ∀ (d i : Nat), i + d = tN σ0 x → tItemR σ0 x (tN σ0 x) d i = tItem σ0 x → AW p la ev (rmm 2 43) s m args below meth c 0 0 Q (AL E) E rh0 8 [some (.ref (ad E (6, 0, 0, 0))), some (.int x), some (.int (nI (tN σ0 x))), some (.int (nI i)), none] [] σ0 := by
    intro d
    induction d with
    | zero =>
      intro i  hi hF
      refine A_iload_n (q := 9) cx dX6_isItem_8 rfl rfl ?_
      refine A_iload_n (q := 10) cx dX6_isItem_9 rfl rfl ?_
      refine A_icmp_ge (tgt := 65) (q := 13) cx dX6_isItem_10 (by decide) rfl (fun c_10 => ?_) (fun c_10 => ?_)
      · refine A_iload_n (q := 66) cx dX6_isItem_65 rfl rfl ?_
        refine A_if_le (tgt := 95) (q := 69) cx dX6_isItem_66 (by decide) rfl (fun c_66 => ?_) (fun c_66 => ?_)
        · refine A_iconst (v := 0) (q := 96) cx dX6_isItem_95 (by decide) rfl ?_
          exact A_zret cx hlk hr hQ dX6_isItem_96 (by first | exact Or.inl rfl | exact Or.inr rfl | exact b01_or _ | assumption) (by rw [← hF, tItemR]; simp [*]) rfl
        · refine A_aload_n (q := 70) cx dX6_isItem_69 rfl rfl rfl ?_
          refine A_iload_n (q := 71) cx dX6_isItem_70 rfl rfl ?_
          refine VI1 (q := 74) cx (ct_X6_letterAt hE hX) (cwV 1 cx.1.2.2.2.2 gX6_isItem_X6_letterAt rfl rfl rfl (by decide +kernel) ⟨Nat.le_of_ble_eq_true rfl, Nat.le_of_ble_eq_true rfl⟩) dX6_isItem_71 rfl rfl (in6 hX) rfl (Nat.le_of_ble_eq_true rfl) ⟨Nat.zero_le _, Nat.zero_le _⟩ rfl ?_
          refine A_bipush (v := 109) (q := 76) cx dX6_isItem_74 (by decide) rfl ?_
          refine A_icmp_ne (tgt := 91) (q := 79) cx dX6_isItem_76 (by decide) rfl (fun c_76 => ?_) (fun c_76 => ?_)
          · refine A_iconst (v := 1) (q := 92) cx dX6_isItem_91 (by decide) rfl ?_
            refine A_goto (q := 96) cx dX6_isItem_92 (by decide) ?_
            exact A_zret cx hlk hr hQ dX6_isItem_96 (by first | exact Or.inl rfl | exact Or.inr rfl | exact b01_or _ | assumption) (by rw [← hF, tItemR]; simp [*]) rfl
          · refine A_aload_n (q := 80) cx dX6_isItem_79 rfl rfl rfl ?_
            refine A_iload_n (q := 81) cx dX6_isItem_80 rfl rfl ?_
            refine A_iconst (v := 0) (q := 82) cx dX6_isItem_81 (by decide) rfl ?_
            refine VI2 (q := 85) cx (ct_X6_number hE hX) (cwV 2 cx.1.2.2.2.2 gX6_isItem_X6_number rfl rfl rfl (by decide +kernel) ⟨Nat.le_of_ble_eq_true rfl, Nat.le_of_ble_eq_true rfl⟩) dX6_isItem_82 rfl rfl (in6 hX) rfl (Nat.le_of_ble_eq_true rfl) ⟨Nat.zero_le _, Nat.zero_le _⟩ rfl ?_
            refine NI1 (q := 88) cx (ct_X7_isMost hE hX) ⟨va_cnB 1 cx.1.2.2.2.2 gX6_isItem_X7_isMost_n40 rfl rfl rfl cx.2.1.2.2 (cx.1.2.2.2.2 _ wz_X6_isItem_40) (by decide +kernel) ⟨Nat.le_of_ble_eq_true rfl, Nat.le_of_ble_eq_true rfl⟩, cx.1.2.2.2.2 _ ws_X6_isItem_40, trivial⟩ dX6_isItem_85 rfl (Nat.le_of_ble_eq_true rfl) ⟨Nat.zero_le _, Nat.zero_le _⟩ rfl ?_
            refine A_if_eq (tgt := 95) (q := 91) cx dX6_isItem_88 (by decide) rfl (fun c_88 => ?_) (fun c_88 => ?_)
            · refine A_iconst (v := 0) (q := 96) cx dX6_isItem_95 (by decide) rfl ?_
              exact A_zret cx hlk hr hQ dX6_isItem_96 (by first | exact Or.inl rfl | exact Or.inr rfl | exact b01_or _ | assumption) (by rw [← hF, tItemR]; simp [*]) rfl
            · refine A_iconst (v := 1) (q := 92) cx dX6_isItem_91 (by decide) rfl ?_
              refine A_goto (q := 96) cx dX6_isItem_92 (by decide) ?_
              exact A_zret cx hlk hr hQ dX6_isItem_96 (by first | exact Or.inl rfl | exact Or.inr rfl | exact b01_or _ | assumption) (by rw [← hF, tItemR]; simp [*]) rfl
      · exact absurd (nI_le (Nat.le_of_eq (by omega)) (by omega)) c_10
    | succ d ih =>
      intro i  hi hF
      refine A_iload_n (q := 9) cx dX6_isItem_8 rfl rfl ?_
      refine A_iload_n (q := 10) cx dX6_isItem_9 rfl rfl ?_
      refine A_icmp_ge (tgt := 65) (q := 13) cx dX6_isItem_10 (by decide) rfl (fun c_10 => ?_) (fun c_10 => ?_)
      · exact absurd c_10 (not_ge (by omega) (by omega))
      · refine A_aload_n (q := 14) cx dX6_isItem_13 rfl rfl rfl ?_
        refine A_iload_n (q := 15) cx dX6_isItem_14 rfl rfl ?_
        refine A_iconst (v := 2) (q := 16) cx dX6_isItem_15 (by decide) rfl ?_
        refine A_iload_n (q := 17) cx dX6_isItem_16 rfl rfl ?_
        refine A_imul (q := 18) cx dX6_isItem_17 rfl ?_
        refine A_iadd (q := 19) cx dX6_isItem_18 rfl ?_
        refine A_iconst (v := 2) (q := 20) cx dX6_isItem_19 (by decide) rfl ?_
        refine A_iadd (q := 21) cx dX6_isItem_20 rfl ?_
        refine VI1 (q := 24) cx (ct_X6_letterAt hE hX) (cwV 1 cx.1.2.2.2.2 gX6_isItem_X6_letterAt rfl rfl rfl (by decide +kernel) ⟨Nat.le_of_ble_eq_true rfl, Nat.le_of_ble_eq_true rfl⟩) dX6_isItem_21 rfl rfl (in6 hX) rfl (Nat.le_of_ble_eq_true rfl) ⟨Nat.zero_le _, Nat.zero_le _⟩ rfl ?_
        refine A_istore (lv' := [some _, some _, some _, some _, some _]) (q := 26) cx dX6_isItem_24 (Nat.le_of_ble_eq_true rfl) rfl rfl ?_
        refine A_aload_n (q := 27) cx dX6_isItem_26 rfl rfl rfl ?_
        refine A_iload_n (q := 28) cx dX6_isItem_27 rfl rfl ?_
        refine A_iload_n (q := 29) cx dX6_isItem_28 rfl rfl ?_
        refine VI2 (q := 32) cx (ct_X6_number hE hX) (cwV 2 cx.1.2.2.2.2 gX6_isItem_X6_number rfl rfl rfl (by decide +kernel) ⟨Nat.le_of_ble_eq_true rfl, Nat.le_of_ble_eq_true rfl⟩) dX6_isItem_29 rfl rfl (in6 hX) rfl (Nat.le_of_ble_eq_true rfl) ⟨Nat.zero_le _, Nat.zero_le _⟩ rfl ?_
        refine NI1 (q := 35) cx (ct_X7_isFigure hE hX) ⟨va_cnB 1 cx.1.2.2.2.2 gX6_isItem_X7_isFigure_n37 rfl rfl rfl cx.2.1.2.1 (cx.1.2.2.2.2 _ wz_X6_isItem_37) (by decide +kernel) ⟨Nat.le_of_ble_eq_true rfl, Nat.le_of_ble_eq_true rfl⟩, cx.1.2.2.2.2 _ ws_X6_isItem_37, trivial⟩ dX6_isItem_32 rfl (Nat.le_of_ble_eq_true rfl) ⟨Nat.zero_le _, Nat.zero_le _⟩ rfl ?_
        refine A_if_eq (tgt := 57) (q := 38) cx dX6_isItem_35 (by decide) rfl (fun c_35 => ?_) (fun c_35 => ?_)
        · refine A_iconst (v := 0) (q := 58) cx dX6_isItem_57 (by decide) rfl ?_
          exact A_zret cx hlk hr hQ dX6_isItem_58 (by first | exact Or.inl rfl | exact Or.inr rfl | exact b01_or _ | assumption) (by rw [← hF, tItemR]; simp [*]) rfl
        · refine A_iload (q := 40) cx dX6_isItem_38 rfl rfl ?_
          refine A_iload_n (q := 41) cx dX6_isItem_40 rfl rfl ?_
          refine A_iconst (v := 1) (q := 42) cx dX6_isItem_41 (by decide) rfl ?_
          refine A_iadd (q := 43) cx dX6_isItem_42 rfl ?_
          refine A_iload_n (q := 44) cx dX6_isItem_43 rfl rfl ?_
          refine A_icmp_ge (tgt := 52) (q := 47) cx dX6_isItem_44 (by decide) rfl (fun c_44 => ?_) (fun c_44 => ?_)
          · refine A_bipush (v := 59) (q := 54) cx dX6_isItem_52 (by decide) rfl ?_
            refine A_icmp_eq (tgt := 59) (q := 57) cx dX6_isItem_54 (by decide) rfl (fun c_54 => ?_) (fun c_54 => ?_)
            · refine A_iinc (lv' := [some _, some _, some _, some _, some _]) (q := 62) cx dX6_isItem_59 rfl (nI_1 i) rfl rfl ?_
              refine A_goto (q := 8) cx dX6_isItem_62 (by decide) ?_
              exact A_drop 4 rfl (ih (i + 1) (by omega) (by rw [← hF, tItemR]; simp [*]))
            · refine A_iconst (v := 0) (q := 58) cx dX6_isItem_57 (by decide) rfl ?_
              exact A_zret cx hlk hr hQ dX6_isItem_58 (by first | exact Or.inl rfl | exact Or.inr rfl | exact b01_or _ | assumption) (by rw [← hF, tItemR]; simp [*]) rfl
          · refine A_bipush (v := 44) (q := 49) cx dX6_isItem_47 (by decide) rfl ?_
            refine A_goto (q := 54) cx dX6_isItem_49 (by decide) ?_
            refine A_icmp_eq (tgt := 59) (q := 57) cx dX6_isItem_54 (by decide) rfl (fun c_54 => ?_) (fun c_54 => ?_)
            · refine A_iinc (lv' := [some _, some _, some _, some _, some _]) (q := 62) cx dX6_isItem_59 rfl (nI_1 i) rfl rfl ?_
              refine A_goto (q := 8) cx dX6_isItem_62 (by decide) ?_
              exact A_drop 4 rfl (ih (i + 1) (by omega) (by rw [← hF, tItemR]; simp [*]))
            · refine A_iconst (v := 0) (q := 58) cx dX6_isItem_57 (by decide) rfl ?_
              exact A_zret cx hlk hr hQ dX6_isItem_58 (by first | exact Or.inl rfl | exact Or.inr rfl | exact b01_or _ | assumption) (by rw [← hF, tItemR]; simp [*]) rfl
  refine A_aload_n (q := 1) cx dX6_isItem_0 rfl rfl rfl ?_
  refine A_iload_n (q := 2) cx dX6_isItem_1 rfl rfl ?_
  refine VI1 (q := 5) cx (ct_X6_numbersOfItem hE hX) (cwV 1 cx.1.2.2.2.2 gX6_isItem_X6_numbersOfItem rfl rfl rfl (by decide +kernel) ⟨Nat.le_of_ble_eq_true rfl, Nat.le_of_ble_eq_true rfl⟩) dX6_isItem_2 rfl rfl (in6 hX) rfl (Nat.le_of_ble_eq_true rfl) ⟨Nat.zero_le _, Nat.zero_le _⟩ rfl ?_
  refine A_istore_n (lv' := [some _, some _, some _, none, none]) (q := 6) cx dX6_isItem_5 (Nat.le_of_ble_eq_true rfl) rfl rfl ?_
  refine A_iconst (v := 0) (q := 7) cx dX6_isItem_6 (by decide) rfl ?_
  refine A_istore_n (lv' := [some _, some _, some _, some _, none]) (q := 8) cx dX6_isItem_7 (Nat.le_of_ble_eq_true rfl) rfl rfl ?_
  exact l1 _ 0 (by omega) rfl
theorem wi_X6_firstFault_X6 : ∀ w ∈ u_ws RX6 TX6 2, w ∈ wsX6_firstFault := by decide +kernel
theorem wf_X6_firstFault_15 : Cond.fieldLink RX6 15 (TX6 1).1 (TX6 1).2.1 (TX6 1).2.2.1 ∈ wsX6_firstFault := by decide +kernel
set_option maxHeartbeats 4000000 in
set_option maxRecDepth 100000 in
theorem ct_X6_firstFault {la : Launch} {E : Ev} (hE : okE E) (hX : xin E) {σ0 : Sg}  : CI la yX6_firstFault wsX6_firstFault 3 67 E rh0 [.ref (ad E (6, 0, 0, 0))] σ0 (tFault σ0) σ0 := by
  refine met_of (lv := [some _, none, none, none]) RX6 (by decide) rfl rfl rfl hE (ok1 rfl) (Nat.le_of_ble_eq_true rfl) (fun p ev s m args below meth c Q cx hlk hr hQ => ?_)
  have l1 : ∀ (d i : Nat) (lk pl : Int32), i + d = 200 → tFaultR σ0 d lk pl = tFault σ0 → AW p la ev (rmm 3 67) s m args below meth c 0 0 Q (AL E) E rh0 6 [some (.ref (ad E (6, 0, 0, 0))), some (.int lk), some (.int pl), some (.int (nI i))] [] σ0 := by
    intro d
    induction d with
    | zero =>
      intro i lk pl hi hF
      obtain rfl : i = 200 := by omega
      refine A_iload_n (q := 7) cx dX6_firstFault_6 rfl rfl ?_
      refine A_sipush (v := 200) (q := 10) cx dX6_firstFault_7 (by decide) rfl ?_
      refine A_icmp_ge (tgt := 64) (q := 13) cx dX6_firstFault_10 (by decide) rfl (fun c_10 => ?_) (fun c_10 => ?_)
      · refine A_bipush (v := -4) (q := 66) cx dX6_firstFault_64 (by decide) rfl ?_
        exact A_iret cx hlk hr hQ dX6_firstFault_66 (by first | exact hF | (rw [← hF, tFaultR]; simp [*])) rfl
      · exact absurd (by decide) c_10
    | succ d ih =>
      intro i lk pl hi hF
      refine A_iload_n (q := 7) cx dX6_firstFault_6 rfl rfl ?_
      refine A_sipush (v := 200) (q := 10) cx dX6_firstFault_7 (by decide) rfl ?_
      refine A_icmp_ge (tgt := 64) (q := 13) cx dX6_firstFault_10 (by decide) rfl (fun c_10 => ?_) (fun c_10 => ?_)
      · exact absurd c_10 (not_ge (i := i) (b := 200) (by omega) (by decide))
      · refine A_iload_n (q := 14) cx dX6_firstFault_13 rfl rfl ?_
        refine A_aload_n (q := 15) cx dX6_firstFault_14 rfl rfl rfl ?_
        refine gX6_1 (q := 18) cx wi_X6_firstFault_X6 wf_X6_firstFault_15 dX6_firstFault_15 rfl (in6 hX) rfl ?_
        refine A_icmp_ge (tgt := 64) (q := 21) cx dX6_firstFault_18 (by decide) rfl (fun c_18 => ?_) (fun c_18 => ?_)
        · refine A_bipush (v := -4) (q := 66) cx dX6_firstFault_64 (by decide) rfl ?_
          exact A_iret cx hlk hr hQ dX6_firstFault_66 (by first | exact hF | (rw [← hF, tFaultR]; simp [*])) rfl
        · refine A_aload_n (q := 22) cx dX6_firstFault_21 rfl rfl rfl ?_
          refine A_iload_n (q := 23) cx dX6_firstFault_22 rfl rfl ?_
          refine VI1 (q := 26) cx (ct_X6_letterAt hE hX) (cwV 1 cx.1.2.2.2.2 gX6_firstFault_X6_letterAt rfl rfl rfl (by decide +kernel) ⟨Nat.le_of_ble_eq_true rfl, Nat.le_of_ble_eq_true rfl⟩) dX6_firstFault_23 rfl rfl (in6 hX) rfl (Nat.le_of_ble_eq_true rfl) ⟨Nat.zero_le _, Nat.zero_le _⟩ rfl ?_
          refine A_bipush (v := 108) (q := 28) cx dX6_firstFault_26 (by decide) rfl ?_
          refine A_icmp_ne (tgt := 34) (q := 31) cx dX6_firstFault_28 (by decide) rfl (fun c_28 => ?_) (fun c_28 => ?_)
          · refine A_aload_n (q := 35) cx dX6_firstFault_34 rfl rfl rfl ?_
            refine A_iload_n (q := 36) cx dX6_firstFault_35 rfl rfl ?_
            refine VI1 (q := 39) cx (ct_X6_isItem hE hX) (cwV 1 cx.1.2.2.2.2 gX6_firstFault_X6_isItem rfl rfl rfl (by decide +kernel) ⟨Nat.le_of_ble_eq_true rfl, Nat.le_of_ble_eq_true rfl⟩) dX6_firstFault_36 rfl rfl (in6 hX) rfl (Nat.le_of_ble_eq_true rfl) ⟨Nat.zero_le _, Nat.zero_le _⟩ rfl ?_
            refine A_if_eq (tgt := 48) (q := 42) cx dX6_firstFault_39 (by decide) rfl (fun c_39 => ?_) (fun c_39 => ?_)
            · refine A_iload_n (q := 49) cx dX6_firstFault_48 rfl rfl ?_
              exact A_iret cx hlk hr hQ dX6_firstFault_49 (by first | exact hF | (rw [← hF, tFaultR]; simp [*])) rfl
            · refine A_iload_n (q := 43) cx dX6_firstFault_42 rfl rfl ?_
              refine A_bipush (v := 6) (q := 45) cx dX6_firstFault_43 (by decide) rfl ?_
              refine A_icmp_le (tgt := 50) (q := 48) cx dX6_firstFault_45 (by decide) rfl (fun c_45 => ?_) (fun c_45 => ?_)
              · refine A_iload_n (q := 51) cx dX6_firstFault_50 rfl rfl ?_
                refine A_aload_n (q := 52) cx dX6_firstFault_51 rfl rfl rfl ?_
                refine A_iload_n (q := 53) cx dX6_firstFault_52 rfl rfl ?_
                refine VI1 (q := 56) cx (ct_X6_lengthOfItem hE hX) (cwV 1 cx.1.2.2.2.2 gX6_firstFault_X6_lengthOfItem rfl rfl rfl (by decide +kernel) ⟨Nat.le_of_ble_eq_true rfl, Nat.le_of_ble_eq_true rfl⟩) dX6_firstFault_53 rfl rfl (in6 hX) rfl (Nat.le_of_ble_eq_true rfl) ⟨Nat.zero_le _, Nat.zero_le _⟩ rfl ?_
                refine A_iadd (q := 57) cx dX6_firstFault_56 rfl ?_
                refine A_istore_n (lv' := [some _, some _, some _, some _]) (q := 58) cx dX6_firstFault_57 (Nat.le_of_ble_eq_true rfl) rfl rfl ?_
                refine A_iinc (lv' := [some _, some _, some _, some _]) (q := 61) cx dX6_firstFault_58 rfl (nI_1 i) rfl rfl ?_
                refine A_goto (q := 6) cx dX6_firstFault_61 (by decide) ?_
                exact ih (i + 1) _ _ (by omega) (by rw [← hF, tFaultR]; simp [*])
              · refine A_iload_n (q := 49) cx dX6_firstFault_48 rfl rfl ?_
                exact A_iret cx hlk hr hQ dX6_firstFault_49 (by first | exact hF | (rw [← hF, tFaultR]; simp [*])) rfl
          · refine A_iinc (lv' := [some _, some _, some _, some _]) (q := 34) cx dX6_firstFault_31 rfl (inc1 _) rfl rfl ?_
            refine A_aload_n (q := 35) cx dX6_firstFault_34 rfl rfl rfl ?_
            refine A_iload_n (q := 36) cx dX6_firstFault_35 rfl rfl ?_
            refine VI1 (q := 39) cx (ct_X6_isItem hE hX) (cwV 1 cx.1.2.2.2.2 gX6_firstFault_X6_isItem rfl rfl rfl (by decide +kernel) ⟨Nat.le_of_ble_eq_true rfl, Nat.le_of_ble_eq_true rfl⟩) dX6_firstFault_36 rfl rfl (in6 hX) rfl (Nat.le_of_ble_eq_true rfl) ⟨Nat.zero_le _, Nat.zero_le _⟩ rfl ?_
            refine A_if_eq (tgt := 48) (q := 42) cx dX6_firstFault_39 (by decide) rfl (fun c_39 => ?_) (fun c_39 => ?_)
            · refine A_iload_n (q := 49) cx dX6_firstFault_48 rfl rfl ?_
              exact A_iret cx hlk hr hQ dX6_firstFault_49 (by first | exact hF | (rw [← hF, tFaultR]; simp [*])) rfl
            · refine A_iload_n (q := 43) cx dX6_firstFault_42 rfl rfl ?_
              refine A_bipush (v := 6) (q := 45) cx dX6_firstFault_43 (by decide) rfl ?_
              refine A_icmp_le (tgt := 50) (q := 48) cx dX6_firstFault_45 (by decide) rfl (fun c_45 => ?_) (fun c_45 => ?_)
              · refine A_iload_n (q := 51) cx dX6_firstFault_50 rfl rfl ?_
                refine A_aload_n (q := 52) cx dX6_firstFault_51 rfl rfl rfl ?_
                refine A_iload_n (q := 53) cx dX6_firstFault_52 rfl rfl ?_
                refine VI1 (q := 56) cx (ct_X6_lengthOfItem hE hX) (cwV 1 cx.1.2.2.2.2 gX6_firstFault_X6_lengthOfItem rfl rfl rfl (by decide +kernel) ⟨Nat.le_of_ble_eq_true rfl, Nat.le_of_ble_eq_true rfl⟩) dX6_firstFault_53 rfl rfl (in6 hX) rfl (Nat.le_of_ble_eq_true rfl) ⟨Nat.zero_le _, Nat.zero_le _⟩ rfl ?_
                refine A_iadd (q := 57) cx dX6_firstFault_56 rfl ?_
                refine A_istore_n (lv' := [some _, some _, some _, some _]) (q := 58) cx dX6_firstFault_57 (Nat.le_of_ble_eq_true rfl) rfl rfl ?_
                refine A_iinc (lv' := [some _, some _, some _, some _]) (q := 61) cx dX6_firstFault_58 rfl (nI_1 i) rfl rfl ?_
                refine A_goto (q := 6) cx dX6_firstFault_61 (by decide) ?_
                exact ih (i + 1) _ _ (by omega) (by rw [← hF, tFaultR]; simp [*])
              · refine A_iload_n (q := 49) cx dX6_firstFault_48 rfl rfl ?_
                exact A_iret cx hlk hr hQ dX6_firstFault_49 (by first | exact hF | (rw [← hF, tFaultR]; simp [*])) rfl
  refine A_iconst (v := 0) (q := 1) cx dX6_firstFault_0 (by decide) rfl ?_
  refine A_istore_n (lv' := [some _, some _, none, none]) (q := 2) cx dX6_firstFault_1 (Nat.le_of_ble_eq_true rfl) rfl rfl ?_
  refine A_iconst (v := 0) (q := 3) cx dX6_firstFault_2 (by decide) rfl ?_
  refine A_istore_n (lv' := [some _, some _, some _, none]) (q := 4) cx dX6_firstFault_3 (Nat.le_of_ble_eq_true rfl) rfl rfl ?_
  refine A_iconst (v := 0) (q := 5) cx dX6_firstFault_4 (by decide) rfl ?_
  refine A_istore_n (lv' := [some _, some _, some _, some _]) (q := 6) cx dX6_firstFault_5 (Nat.le_of_ble_eq_true rfl) rfl rfl ?_
  exact l1 200 0 _ _ rfl rfl
theorem wi_X6_tellsLink_X6 : ∀ w ∈ u_ws RX6 TX6 2, w ∈ wsX6_tellsLink := by decide +kernel
theorem wf_X6_tellsLink_15 : Cond.fieldLink RX6 15 (TX6 1).1 (TX6 1).2.1 (TX6 1).2.2.1 ∈ wsX6_tellsLink := by decide +kernel
set_option maxHeartbeats 4000000 in
set_option maxRecDepth 100000 in
theorem ct_X6_tellsLink {la : Launch} {E : Ev} (hE : okE E) (hX : xin E) {σ0 : Sg} {S : Nat} (hS : σ0 (6, 0, 0, 0) 1 = nI S) (hS2 : S ≤ 200) : CI la yX6_tellsLink wsX6_tellsLink 1 21 E rh0 [.ref (ad E (6, 0, 0, 0))] σ0 (tTell σ0 S) σ0 := by
  refine met_of (lv := [some _, none]) RX6 (by decide) rfl rfl rfl hE (ok1 rfl) (Nat.le_of_ble_eq_true rfl) (fun p ev s m args below meth c Q cx hlk hr hQ => ?_)
  have l1 : ∀ (d i : Nat), i + d = S → tTellR σ0 d i = tTell σ0 S → AW p la ev (rmm 1 21) s m args below meth c 0 0 Q (AL E) E rh0 2 [some (.ref (ad E (6, 0, 0, 0))), some (.int (nI i))] [] σ0 := by
    intro d
    induction d with
    | zero =>
      intro i  hi hF
      refine A_iload_n (q := 3) cx dX6_tellsLink_2 rfl rfl ?_
      refine A_aload_n (q := 4) cx dX6_tellsLink_3 rfl rfl rfl ?_
      refine gX6_1 (q := 7) cx wi_X6_tellsLink_X6 wf_X6_tellsLink_15 dX6_tellsLink_4 rfl (in6 hX) rfl ?_
      refine A_icmp_ge (tgt := 28) (q := 10) cx dX6_tellsLink_7 (by decide) rfl (fun c_7 => ?_) (fun c_7 => ?_)
      · refine A_iconst (v := 0) (q := 29) cx dX6_tellsLink_28 (by decide) rfl ?_
        exact A_zret cx hlk hr hQ dX6_tellsLink_29 (by first | exact Or.inl rfl | exact Or.inr rfl | exact b01_or _ | assumption) (by first | exact hF | (rw [← hF, tTellR]; simp [*])) rfl
      · exact absurd (by rw [hS]; exact nI_le (Nat.le_of_eq (by omega)) (by omega)) c_7
    | succ d ih =>
      intro i  hi hF
      refine A_iload_n (q := 3) cx dX6_tellsLink_2 rfl rfl ?_
      refine A_aload_n (q := 4) cx dX6_tellsLink_3 rfl rfl rfl ?_
      refine gX6_1 (q := 7) cx wi_X6_tellsLink_X6 wf_X6_tellsLink_15 dX6_tellsLink_4 rfl (in6 hX) rfl ?_
      refine A_icmp_ge (tgt := 28) (q := 10) cx dX6_tellsLink_7 (by decide) rfl (fun c_7 => ?_) (fun c_7 => ?_)
      · exact absurd c_7 (by rw [hS]; exact not_ge (by omega) (by omega))
      · refine A_aload_n (q := 11) cx dX6_tellsLink_10 rfl rfl rfl ?_
        refine A_iload_n (q := 12) cx dX6_tellsLink_11 rfl rfl ?_
        refine VI1 (q := 15) cx (ct_X6_letterAt hE hX) (cwV 1 cx.1.2.2.2.2 gX6_tellsLink_X6_letterAt rfl rfl rfl (by decide +kernel) ⟨Nat.le_of_ble_eq_true rfl, Nat.le_of_ble_eq_true rfl⟩) dX6_tellsLink_12 rfl rfl (in6 hX) rfl (Nat.le_of_ble_eq_true rfl) ⟨Nat.zero_le _, Nat.zero_le _⟩ rfl ?_
        refine A_bipush (v := 108) (q := 17) cx dX6_tellsLink_15 (by decide) rfl ?_
        refine A_icmp_ne (tgt := 22) (q := 20) cx dX6_tellsLink_17 (by decide) rfl (fun c_17 => ?_) (fun c_17 => ?_)
        · refine A_iinc (lv' := [some _, some _]) (q := 25) cx dX6_tellsLink_22 rfl (nI_1 i) rfl rfl ?_
          refine A_goto (q := 2) cx dX6_tellsLink_25 (by decide) ?_
          exact ih (i + 1) (by omega) (by rw [← hF, tTellR]; simp [*])
        · refine A_iconst (v := 1) (q := 21) cx dX6_tellsLink_20 (by decide) rfl ?_
          exact A_zret cx hlk hr hQ dX6_tellsLink_21 (by first | exact Or.inl rfl | exact Or.inr rfl | exact b01_or _ | assumption) (by first | exact hF | (rw [← hF, tTellR]; simp [*])) rfl
  refine A_iconst (v := 0) (q := 1) cx dX6_tellsLink_0 (by decide) rfl ?_
  refine A_istore_n (lv' := [some _, some _]) (q := 2) cx dX6_tellsLink_1 (Nat.le_of_ble_eq_true rfl) rfl rfl ?_
  exact l1 S 0 (by omega) rfl
theorem wi_X4_clear_X4 : ∀ w ∈ u_ws RX4 TX4 7, w ∈ wsX4_clear := by decide +kernel
theorem wf_X4_clear_14 : Cond.fieldLink RX4 14 (TX4 0).1 (TX4 0).2.1 (TX4 0).2.2.1 ∈ wsX4_clear := by decide +kernel
theorem wf_X4_clear_20 : Cond.fieldLink RX4 20 (TX4 1).1 (TX4 1).2.1 (TX4 1).2.2.1 ∈ wsX4_clear := by decide +kernel
theorem wf_X4_clear_26 : Cond.fieldLink RX4 26 (TX4 2).1 (TX4 2).2.1 (TX4 2).2.2.1 ∈ wsX4_clear := by decide +kernel
theorem wf_X4_clear_30 : Cond.fieldLink RX4 30 (TX4 3).1 (TX4 3).2.1 (TX4 3).2.2.1 ∈ wsX4_clear := by decide +kernel
theorem wf_X4_clear_33 : Cond.fieldLink RX4 33 (TX4 4).1 (TX4 4).2.1 (TX4 4).2.2.1 ∈ wsX4_clear := by decide +kernel
theorem wf_X4_clear_36 : Cond.fieldLink RX4 36 (TX4 5).1 (TX4 5).2.1 (TX4 5).2.2.1 ∈ wsX4_clear := by decide +kernel
theorem wf_X4_clear_39 : Cond.fieldLink RX4 39 (TX4 6).1 (TX4 6).2.1 (TX4 6).2.2.1 ∈ wsX4_clear := by decide +kernel
set_option maxHeartbeats 4000000 in
set_option maxRecDepth 100000 in
theorem ct_X4_clear {la : Launch} {E : Ev} (hE : okE E) (hX : xin E) {σ : Sg} {n : Nat} (hn : n < 9 := by omega) : CV la yX4_clear wsX4_clear 3 64 E rh0 [.ref (ad E (4, n, 0, 0))] σ (nClear σ n) := by
  refine met_of (lv := [some _]) RX4 (by decide) rfl rfl rfl hE (ok1 rfl) (Nat.le_of_ble_eq_true rfl) (fun p ev s m args below meth c Q cx hlk hr hQ => ?_)
  refine A_aload_n (q := 1) cx dX4_clear_0 rfl rfl rfl ?_
  refine gX4_0 (q := 4) cx wi_X4_clear_X4 wf_X4_clear_14 dX4_clear_1 rfl (in4 hX (by omega)) rfl rfl ?_
  refine VV0 (q := 7) cx (ct_X0_clear hE hX) (cwV 0 cx.1.2.2.2.2 gX4_clear_X0_clear rfl rfl rfl (by decide +kernel) ⟨Nat.le_of_ble_eq_true rfl, Nat.le_of_ble_eq_true rfl⟩) dX4_clear_4 rfl rfl (in0 hX (by omega)) rfl (Nat.le_of_ble_eq_true rfl) ⟨Nat.zero_le _, Nat.zero_le _⟩ rfl ?_
  refine A_aload_n (q := 8) cx dX4_clear_7 rfl rfl rfl ?_
  refine gX4_1 (q := 11) cx wi_X4_clear_X4 wf_X4_clear_20 dX4_clear_8 rfl (in4 hX (by omega)) rfl rfl ?_
  refine VV0 (q := 14) cx (ct_X0_clear hE hX) (cwV 0 cx.1.2.2.2.2 gX4_clear_X0_clear rfl rfl rfl (by decide +kernel) ⟨Nat.le_of_ble_eq_true rfl, Nat.le_of_ble_eq_true rfl⟩) dX4_clear_11 rfl rfl (in0 hX (by omega)) rfl (Nat.le_of_ble_eq_true rfl) ⟨Nat.zero_le _, Nat.zero_le _⟩ rfl ?_
  refine A_aload_n (q := 15) cx dX4_clear_14 rfl rfl rfl ?_
  refine A_iconst (v := 0) (q := 16) cx dX4_clear_15 (by decide) rfl ?_
  refine pX4_2 (q := 19) cx wi_X4_clear_X4 wf_X4_clear_26 dX4_clear_16 rfl (in4 hX (by omega)) rfl ?_
  refine A_aload_n (q := 20) cx dX4_clear_19 rfl rfl rfl ?_
  refine A_iconst (v := 4) (q := 21) cx dX4_clear_20 (by decide) rfl ?_
  refine pX4_3 (q := 24) cx wi_X4_clear_X4 wf_X4_clear_30 dX4_clear_21 rfl (in4 hX (by omega)) rfl ?_
  refine A_aload_n (q := 25) cx dX4_clear_24 rfl rfl rfl ?_
  refine A_iconst (v := 2) (q := 26) cx dX4_clear_25 (by decide) rfl ?_
  refine pX4_4 (q := 29) cx wi_X4_clear_X4 wf_X4_clear_33 dX4_clear_26 rfl (in4 hX (by omega)) rfl ?_
  refine A_aload_n (q := 30) cx dX4_clear_29 rfl rfl rfl ?_
  refine A_iconst (v := 1) (q := 31) cx dX4_clear_30 (by decide) rfl ?_
  refine pX4_5 (q := 34) cx wi_X4_clear_X4 wf_X4_clear_36 dX4_clear_31 rfl (in4 hX (by omega)) rfl ?_
  refine A_aload_n (q := 35) cx dX4_clear_34 rfl rfl rfl ?_
  refine A_iconst (v := 0) (q := 36) cx dX4_clear_35 (by decide) rfl ?_
  refine pX4_6 (q := 39) cx wi_X4_clear_X4 wf_X4_clear_39 dX4_clear_36 rfl (in4 hX (by omega)) rfl ?_
  exact A_vret cx hlk hr hQ dX4_clear_39 rfl
theorem wi_X4_copyFrom_X4 : ∀ w ∈ u_ws RX4 TX4 7, w ∈ wsX4_copyFrom := by decide +kernel
theorem wf_X4_copyFrom_14 : Cond.fieldLink RX4 14 (TX4 0).1 (TX4 0).2.1 (TX4 0).2.2.1 ∈ wsX4_copyFrom := by decide +kernel
theorem wf_X4_copyFrom_20 : Cond.fieldLink RX4 20 (TX4 1).1 (TX4 1).2.1 (TX4 1).2.2.1 ∈ wsX4_copyFrom := by decide +kernel
theorem wf_X4_copyFrom_26 : Cond.fieldLink RX4 26 (TX4 2).1 (TX4 2).2.1 (TX4 2).2.2.1 ∈ wsX4_copyFrom := by decide +kernel
theorem wf_X4_copyFrom_30 : Cond.fieldLink RX4 30 (TX4 3).1 (TX4 3).2.1 (TX4 3).2.2.1 ∈ wsX4_copyFrom := by decide +kernel
theorem wf_X4_copyFrom_33 : Cond.fieldLink RX4 33 (TX4 4).1 (TX4 4).2.1 (TX4 4).2.2.1 ∈ wsX4_copyFrom := by decide +kernel
theorem wf_X4_copyFrom_36 : Cond.fieldLink RX4 36 (TX4 5).1 (TX4 5).2.1 (TX4 5).2.2.1 ∈ wsX4_copyFrom := by decide +kernel
theorem wf_X4_copyFrom_39 : Cond.fieldLink RX4 39 (TX4 6).1 (TX4 6).2.1 (TX4 6).2.2.1 ∈ wsX4_copyFrom := by decide +kernel
set_option maxHeartbeats 4000000 in
set_option maxRecDepth 100000 in
theorem ct_X4_copyFrom {la : Launch} {E : Ev} (hE : okE E) (hX : xin E) {σ : Sg} {n : Nat} (hn : n < 9 := by omega) {n2 : Nat} (hn2 : n2 < 9 := by omega) : CV la yX4_copyFrom wsX4_copyFrom 3 64 E rh0 [.ref (ad E (4, n, 0, 0)), .ref (ad E (4, n2, 0, 0))] σ (nCopy σ n n2) := by
  refine met_of (lv := [some _, some _]) RX4 (by decide) rfl rfl rfl hE (ok2 rfl rfl) (Nat.le_of_ble_eq_true rfl) (fun p ev s m args below meth c Q cx hlk hr hQ => ?_)
  refine A_aload_n (q := 1) cx dX4_copyFrom_0 rfl rfl rfl ?_
  refine gX4_0 (q := 4) cx wi_X4_copyFrom_X4 wf_X4_copyFrom_14 dX4_copyFrom_1 rfl (in4 hX (by omega)) rfl rfl ?_
  refine A_aload_n (q := 5) cx dX4_copyFrom_4 rfl rfl rfl ?_
  refine gX4_0 (q := 8) cx wi_X4_copyFrom_X4 wf_X4_copyFrom_14 dX4_copyFrom_5 rfl (in4 hX (by omega)) rfl rfl ?_
  refine VV1 (q := 11) cx (ct_X0_copyFrom hE hX) (cwV 1 cx.1.2.2.2.2 gX4_copyFrom_X0_copyFrom rfl rfl rfl (by decide +kernel) ⟨Nat.le_of_ble_eq_true rfl, Nat.le_of_ble_eq_true rfl⟩) dX4_copyFrom_8 rfl rfl (in0 hX (by omega)) rfl (Nat.le_of_ble_eq_true rfl) ⟨Nat.zero_le _, Nat.zero_le _⟩ rfl ?_
  refine A_aload_n (q := 12) cx dX4_copyFrom_11 rfl rfl rfl ?_
  refine gX4_1 (q := 15) cx wi_X4_copyFrom_X4 wf_X4_copyFrom_20 dX4_copyFrom_12 rfl (in4 hX (by omega)) rfl rfl ?_
  refine A_aload_n (q := 16) cx dX4_copyFrom_15 rfl rfl rfl ?_
  refine gX4_1 (q := 19) cx wi_X4_copyFrom_X4 wf_X4_copyFrom_20 dX4_copyFrom_16 rfl (in4 hX (by omega)) rfl rfl ?_
  refine VV1 (q := 22) cx (ct_X0_copyFrom hE hX) (cwV 1 cx.1.2.2.2.2 gX4_copyFrom_X0_copyFrom rfl rfl rfl (by decide +kernel) ⟨Nat.le_of_ble_eq_true rfl, Nat.le_of_ble_eq_true rfl⟩) dX4_copyFrom_19 rfl rfl (in0 hX (by omega)) rfl (Nat.le_of_ble_eq_true rfl) ⟨Nat.zero_le _, Nat.zero_le _⟩ rfl ?_
  refine A_aload_n (q := 23) cx dX4_copyFrom_22 rfl rfl rfl ?_
  refine A_aload_n (q := 24) cx dX4_copyFrom_23 rfl rfl rfl ?_
  refine gX4_2 (q := 27) cx wi_X4_copyFrom_X4 wf_X4_copyFrom_26 dX4_copyFrom_24 rfl (in4 hX (by omega)) rfl ?_
  refine pX4_2 (q := 30) cx wi_X4_copyFrom_X4 wf_X4_copyFrom_26 dX4_copyFrom_27 rfl (in4 hX (by omega)) rfl ?_
  refine A_aload_n (q := 31) cx dX4_copyFrom_30 rfl rfl rfl ?_
  refine A_aload_n (q := 32) cx dX4_copyFrom_31 rfl rfl rfl ?_
  refine gX4_3 (q := 35) cx wi_X4_copyFrom_X4 wf_X4_copyFrom_30 dX4_copyFrom_32 rfl (in4 hX (by omega)) rfl ?_
  refine pX4_3 (q := 38) cx wi_X4_copyFrom_X4 wf_X4_copyFrom_30 dX4_copyFrom_35 rfl (in4 hX (by omega)) rfl ?_
  refine A_aload_n (q := 39) cx dX4_copyFrom_38 rfl rfl rfl ?_
  refine A_aload_n (q := 40) cx dX4_copyFrom_39 rfl rfl rfl ?_
  refine gX4_4 (q := 43) cx wi_X4_copyFrom_X4 wf_X4_copyFrom_33 dX4_copyFrom_40 rfl (in4 hX (by omega)) rfl ?_
  refine pX4_4 (q := 46) cx wi_X4_copyFrom_X4 wf_X4_copyFrom_33 dX4_copyFrom_43 rfl (in4 hX (by omega)) rfl ?_
  refine A_aload_n (q := 47) cx dX4_copyFrom_46 rfl rfl rfl ?_
  refine A_aload_n (q := 48) cx dX4_copyFrom_47 rfl rfl rfl ?_
  refine gX4_5 (q := 51) cx wi_X4_copyFrom_X4 wf_X4_copyFrom_36 dX4_copyFrom_48 rfl (in4 hX (by omega)) rfl ?_
  refine pX4_5 (q := 54) cx wi_X4_copyFrom_X4 wf_X4_copyFrom_36 dX4_copyFrom_51 rfl (in4 hX (by omega)) rfl ?_
  refine A_aload_n (q := 55) cx dX4_copyFrom_54 rfl rfl rfl ?_
  refine A_aload_n (q := 56) cx dX4_copyFrom_55 rfl rfl rfl ?_
  refine gX4_6 (q := 59) cx wi_X4_copyFrom_X4 wf_X4_copyFrom_39 dX4_copyFrom_56 rfl (in4 hX (by omega)) rfl ?_
  refine pX4_6 (q := 62) cx wi_X4_copyFrom_X4 wf_X4_copyFrom_39 dX4_copyFrom_59 rfl (in4 hX (by omega)) rfl ?_
  exact A_vret cx hlk hr hQ dX4_copyFrom_62 rfl
theorem wi_X4_looksLike_X4 : ∀ w ∈ u_ws RX4 TX4 7, w ∈ wsX4_looksLike := by decide +kernel
theorem wf_X4_looksLike_14 : Cond.fieldLink RX4 14 (TX4 0).1 (TX4 0).2.1 (TX4 0).2.2.1 ∈ wsX4_looksLike := by decide +kernel
theorem wf_X4_looksLike_20 : Cond.fieldLink RX4 20 (TX4 1).1 (TX4 1).2.1 (TX4 1).2.2.1 ∈ wsX4_looksLike := by decide +kernel
set_option maxHeartbeats 4000000 in
set_option maxRecDepth 100000 in
theorem ct_X4_looksLike {la : Launch} {E : Ev} (hE : okE E) (hX : xin E) {σ : Sg} {n : Nat} (hn : n < 9 := by omega) {n2 : Nat} (hn2 : n2 < 9 := by omega) : CI la yX4_looksLike wsX4_looksLike 1 22 E rh0 [.ref (ad E (4, n, 0, 0)), .ref (ad E (4, n2, 0, 0))] σ (nLike σ n n2) σ := by
  refine met_of (lv := [some _, some _]) RX4 (by decide) rfl rfl rfl hE (ok2 rfl rfl) (Nat.le_of_ble_eq_true rfl) (fun p ev s m args below meth c Q cx hlk hr hQ => ?_)
  refine A_aload_n (q := 1) cx dX4_looksLike_0 rfl rfl rfl ?_
  refine gX4_0 (q := 4) cx wi_X4_looksLike_X4 wf_X4_looksLike_14 dX4_looksLike_1 rfl (in4 hX (by omega)) rfl rfl ?_
  refine A_aload_n (q := 5) cx dX4_looksLike_4 rfl rfl rfl ?_
  refine gX4_0 (q := 8) cx wi_X4_looksLike_X4 wf_X4_looksLike_14 dX4_looksLike_5 rfl (in4 hX (by omega)) rfl rfl ?_
  refine VI1 (q := 11) cx (ct_X0_looksLike hE hX) (cwV 1 cx.1.2.2.2.2 gX4_looksLike_X0_looksLike rfl rfl rfl (by decide +kernel) ⟨Nat.le_of_ble_eq_true rfl, Nat.le_of_ble_eq_true rfl⟩) dX4_looksLike_8 rfl rfl (in0 hX (by omega)) rfl (Nat.le_of_ble_eq_true rfl) ⟨Nat.zero_le _, Nat.zero_le _⟩ rfl ?_
  refine A_if_eq (tgt := 32) (q := 14) cx dX4_looksLike_11 (by decide) rfl (fun c_11 => ?_) (fun c_11 => ?_)
  · refine A_iconst (v := 0) (q := 33) cx dX4_looksLike_32 (by decide) rfl ?_
    exact A_zret cx hlk hr hQ dX4_looksLike_33 (by first | exact Or.inl rfl | exact Or.inr rfl | exact b01_or _ | assumption) (by first | (simp only [nLike, *, if_true, if_false, ite_true, ite_false, true_or, or_true, false_or, or_false, and_true, true_and, and_false, false_and, and_self, or_self, not_true_eq_false, not_false_eq_true, ne_eq, reduceIte, decide_true, decide_false, Bool.and_true, Bool.true_and, Bool.and_false, Bool.false_and]; done) | (simp [nLike, *]; done) | (simp_all [nLike]; done)) rfl
  · refine A_aload_n (q := 15) cx dX4_looksLike_14 rfl rfl rfl ?_
    refine gX4_1 (q := 18) cx wi_X4_looksLike_X4 wf_X4_looksLike_20 dX4_looksLike_15 rfl (in4 hX (by omega)) rfl rfl ?_
    refine A_aload_n (q := 19) cx dX4_looksLike_18 rfl rfl rfl ?_
    refine gX4_1 (q := 22) cx wi_X4_looksLike_X4 wf_X4_looksLike_20 dX4_looksLike_19 rfl (in4 hX (by omega)) rfl rfl ?_
    refine VI1 (q := 25) cx (ct_X0_looksLike hE hX) (cwV 1 cx.1.2.2.2.2 gX4_looksLike_X0_looksLike rfl rfl rfl (by decide +kernel) ⟨Nat.le_of_ble_eq_true rfl, Nat.le_of_ble_eq_true rfl⟩) dX4_looksLike_22 rfl rfl (in0 hX (by omega)) rfl (Nat.le_of_ble_eq_true rfl) ⟨Nat.zero_le _, Nat.zero_le _⟩ rfl ?_
    refine A_if_eq (tgt := 32) (q := 28) cx dX4_looksLike_25 (by decide) rfl (fun c_25 => ?_) (fun c_25 => ?_)
    · refine A_iconst (v := 0) (q := 33) cx dX4_looksLike_32 (by decide) rfl ?_
      exact A_zret cx hlk hr hQ dX4_looksLike_33 (by first | exact Or.inl rfl | exact Or.inr rfl | exact b01_or _ | assumption) (by first | (simp only [nLike, *, if_true, if_false, ite_true, ite_false, true_or, or_true, false_or, or_false, and_true, true_and, and_false, false_and, and_self, or_self, not_true_eq_false, not_false_eq_true, ne_eq, reduceIte, decide_true, decide_false, Bool.and_true, Bool.true_and, Bool.and_false, Bool.false_and]; done) | (simp [nLike, *]; done) | (simp_all [nLike]; done)) rfl
    · refine A_iconst (v := 1) (q := 29) cx dX4_looksLike_28 (by decide) rfl ?_
      refine A_goto (q := 33) cx dX4_looksLike_29 (by decide) ?_
      exact A_zret cx hlk hr hQ dX4_looksLike_33 (by first | exact Or.inl rfl | exact Or.inr rfl | exact b01_or _ | assumption) (by first | (simp only [nLike, *, if_true, if_false, ite_true, ite_false, true_or, or_true, false_or, or_false, and_true, true_and, and_false, false_and, and_self, or_self, not_true_eq_false, not_false_eq_true, ne_eq, reduceIte, decide_true, decide_false, Bool.and_true, Bool.true_and, Bool.and_false, Bool.false_and]; done) | (simp [nLike, *]; done) | (simp_all [nLike]; done)) rfl
theorem wi_X4_endOf_X4 : ∀ w ∈ u_ws RX4 TX4 7, w ∈ wsX4_endOf := by decide +kernel
theorem wf_X4_endOf_20 : Cond.fieldLink RX4 20 (TX4 1).1 (TX4 1).2.1 (TX4 1).2.2.1 ∈ wsX4_endOf := by decide +kernel
theorem wf_X4_endOf_14 : Cond.fieldLink RX4 14 (TX4 0).1 (TX4 0).2.1 (TX4 0).2.2.1 ∈ wsX4_endOf := by decide +kernel
set_option maxHeartbeats 4000000 in
set_option maxRecDepth 100000 in
theorem ct_X4_endOf {la : Launch} {E : Ev} (hE : okE E) (hX : xin E) {σ : Sg} {n : Nat} (hn : n < 9 := by omega) {x : Int32} : CQ la yX4_endOf wsX4_endOf 0 0 E rh0 [.ref (ad E (4, n, 0, 0)), .int x] σ ((eOf x).map (fun e => (0, n, e, 0))) σ := by
  refine met_of (lv := [some _, some _]) RX4 (by decide) rfl rfl rfl hE (ok2 rfl rfl) (Nat.le_of_ble_eq_true rfl) (fun p ev s m args below meth c Q cx hlk hr hQ => ?_)
  refine A_iload_n (q := 1) cx dX4_endOf_0 rfl rfl ?_
  refine A_if_ne (tgt := 9) (q := 4) cx dX4_endOf_1 (by decide) rfl (fun c_1 => ?_) (fun c_1 => ?_)
  · refine A_iload_n (q := 10) cx dX4_endOf_9 rfl rfl ?_
    refine A_iconst (v := 1) (q := 11) cx dX4_endOf_10 (by decide) rfl ?_
    refine A_icmp_ne (tgt := 21) (q := 14) cx dX4_endOf_11 (by decide) rfl (fun c_11 => ?_) (fun c_11 => ?_)
    · refine A_null (q := 22) cx dX4_endOf_21 rfl ?_
      exact A_aret cx hlk hr hQ dX4_endOf_22 (by first | (simp only [eOf, rv, va_rf, *, if_true, if_false, ite_true, ite_false, true_or, or_true, false_or, or_false, and_true, true_and, and_false, false_and, and_self, or_self, not_true_eq_false, not_false_eq_true, ne_eq, reduceIte, decide_true, decide_false, Bool.and_true, Bool.true_and, Bool.and_false, Bool.false_and]; done) | (simp [eOf, rv, va_rf, *]; done) | (simp_all [eOf, rv, va_rf]; done)) rfl
    · refine A_aload_n (q := 15) cx dX4_endOf_14 rfl rfl rfl ?_
      refine gX4_1 (q := 18) cx wi_X4_endOf_X4 wf_X4_endOf_20 dX4_endOf_15 rfl (in4 hX (by omega)) rfl rfl ?_
      refine A_goto (q := 22) cx dX4_endOf_18 (by decide) ?_
      exact A_aret cx hlk hr hQ dX4_endOf_22 (by first | (simp only [eOf, rv, va_rf, *, if_true, if_false, ite_true, ite_false, true_or, or_true, false_or, or_false, and_true, true_and, and_false, false_and, and_self, or_self, not_true_eq_false, not_false_eq_true, ne_eq, reduceIte, decide_true, decide_false, Bool.and_true, Bool.true_and, Bool.and_false, Bool.false_and]; done) | (simp [eOf, rv, va_rf, *]; done) | (simp_all [eOf, rv, va_rf]; done)) rfl
  · refine A_aload_n (q := 5) cx dX4_endOf_4 rfl rfl rfl ?_
    refine gX4_0 (q := 8) cx wi_X4_endOf_X4 wf_X4_endOf_14 dX4_endOf_5 rfl (in4 hX (by omega)) rfl rfl ?_
    exact A_aret cx hlk hr hQ dX4_endOf_8 (by first | (simp only [eOf, rv, va_rf, *, if_true, if_false, ite_true, ite_false, true_or, or_true, false_or, or_false, and_true, true_and, and_false, false_and, and_self, or_self, not_true_eq_false, not_false_eq_true, ne_eq, reduceIte, decide_true, decide_false, Bool.and_true, Bool.true_and, Bool.and_false, Bool.false_and]; done) | (simp [eOf, rv, va_rf, *]; done) | (simp_all [eOf, rv, va_rf]; done)) rfl
theorem wi_X4_portOf_X4 : ∀ w ∈ u_ws RX4 TX4 7, w ∈ wsX4_portOf := by decide +kernel
theorem wf_X4_portOf_26 : Cond.fieldLink RX4 26 (TX4 2).1 (TX4 2).2.1 (TX4 2).2.2.1 ∈ wsX4_portOf := by decide +kernel
set_option maxHeartbeats 4000000 in
set_option maxRecDepth 100000 in
theorem ct_X4_portOf {la : Launch} {E : Ev} (hE : okE E) (hX : xin E) {σ : Sg} {n : Nat} (hn : n < 9 := by omega) {x y : Int32} : CQ la yX4_portOf wsX4_portOf 1 21 E rh0 [.ref (ad E (4, n, 0, 0)), .int x, .int y] σ (nPort σ n x y) σ := by
  refine met_of (lv := [some _, some _, some _, none]) RX4 (by decide) rfl rfl rfl hE (ok3 rfl rfl rfl) (Nat.le_of_ble_eq_true rfl) (fun p ev s m args below meth c Q cx hlk hr hQ => ?_)
  rcases he : eOf x with _ | j
  · refine A_aload_n (q := 1) cx dX4_portOf_0 rfl rfl rfl ?_
    refine A_iload_n (q := 2) cx dX4_portOf_1 rfl rfl ?_
    refine VQ1 (q := 5) cx (ct_X4_endOf hE hX) (cwV 1 cx.1.2.2.2.2 gX4_portOf_X4_endOf rfl rfl rfl (by decide +kernel) ⟨Nat.le_of_ble_eq_true rfl, Nat.le_of_ble_eq_true rfl⟩) dX4_portOf_2 rfl rfl (in4 hX (by omega)) rfl (Nat.le_of_ble_eq_true rfl) ⟨Nat.zero_le _, Nat.zero_le _⟩ rfl ?_
    simp only [he, Option.map_some, Option.map_none, rv_some, rv_none]
    refine A_astore_n (lv' := [some _, some _, some _, some _]) (q := 6) cx dX4_portOf_5 (Nat.le_of_ble_eq_true rfl) rfl rfl rfl ?_
    refine A_aload_n (q := 7) cx dX4_portOf_6 rfl rfl rfl ?_
    refine A_ifnull_N (tgt := 18) cx dX4_portOf_7 (by decide) ?_
    refine A_null (q := 19) cx dX4_portOf_18 rfl ?_
    refine A_goto (q := 27) cx dX4_portOf_19 (by decide) ?_
    exact A_aret cx hlk hr hQ dX4_portOf_27 (by first | (simp only [nPort, he, rv, va_rf, *, if_true, if_false, ite_true, ite_false, true_or, or_true, false_or, or_false, and_true, true_and, and_false, false_and, and_self, or_self, not_true_eq_false, not_false_eq_true, ne_eq, reduceIte, decide_true, decide_false, Bool.and_true, Bool.true_and, Bool.and_false, Bool.false_and]; done) | (simp [nPort, he, rv, va_rf, *]; done) | (simp_all [nPort, he, rv, va_rf]; done)) rfl
  · have hj := eOf_lt he
    refine A_aload_n (q := 1) cx dX4_portOf_0 rfl rfl rfl ?_
    refine A_iload_n (q := 2) cx dX4_portOf_1 rfl rfl ?_
    refine VQ1 (q := 5) cx (ct_X4_endOf hE hX) (cwV 1 cx.1.2.2.2.2 gX4_portOf_X4_endOf rfl rfl rfl (by decide +kernel) ⟨Nat.le_of_ble_eq_true rfl, Nat.le_of_ble_eq_true rfl⟩) dX4_portOf_2 rfl rfl (in4 hX (by omega)) rfl (Nat.le_of_ble_eq_true rfl) ⟨Nat.zero_le _, Nat.zero_le _⟩ rfl ?_
    simp only [he, Option.map_some, Option.map_none, rv_some, rv_none]
    refine A_astore_n (lv' := [some _, some _, some _, some _]) (q := 6) cx dX4_portOf_5 (Nat.le_of_ble_eq_true rfl) rfl rfl rfl ?_
    refine A_aload_n (q := 7) cx dX4_portOf_6 rfl rfl rfl ?_
    refine A_ifnull_R (q := 10) cx dX4_portOf_7 rfl ?_
    refine A_iload_n (q := 11) cx dX4_portOf_10 rfl rfl ?_
    refine A_aload_n (q := 12) cx dX4_portOf_11 rfl rfl rfl ?_
    refine gX4_2 (q := 15) cx wi_X4_portOf_X4 wf_X4_portOf_26 dX4_portOf_12 rfl (in4 hX (by omega)) rfl ?_
    refine A_icmp_lt (tgt := 22) (q := 18) cx dX4_portOf_15 (by decide) rfl (fun c_15 => ?_) (fun c_15 => ?_)
    · refine A_aload_n (q := 23) cx dX4_portOf_22 rfl rfl rfl ?_
      refine A_iload_n (q := 24) cx dX4_portOf_23 rfl rfl ?_
      refine VQ1 (q := 27) cx (ct_X0_portAt hE hX) (cwV 1 cx.1.2.2.2.2 gX4_portOf_X0_portAt rfl rfl rfl (by decide +kernel) ⟨Nat.le_of_ble_eq_true rfl, Nat.le_of_ble_eq_true rfl⟩) dX4_portOf_24 rfl rfl (in0 hX (by omega)) rfl (Nat.le_of_ble_eq_true rfl) ⟨Nat.zero_le _, Nat.zero_le _⟩ rfl ?_
      exact A_aret cx hlk hr hQ dX4_portOf_27 (by first | (simp only [nPort, he, rv, va_rf, *, if_true, if_false, ite_true, ite_false, true_or, or_true, false_or, or_false, and_true, true_and, and_false, false_and, and_self, or_self, not_true_eq_false, not_false_eq_true, ne_eq, reduceIte, decide_true, decide_false, Bool.and_true, Bool.true_and, Bool.and_false, Bool.false_and]; done) | (simp [nPort, he, rv, va_rf, *]; done) | (simp_all [nPort, he, rv, va_rf]; done)) rfl
    · refine A_null (q := 19) cx dX4_portOf_18 rfl ?_
      refine A_goto (q := 27) cx dX4_portOf_19 (by decide) ?_
      exact A_aret cx hlk hr hQ dX4_portOf_27 (by first | (simp only [nPort, he, rv, va_rf, *, if_true, if_false, ite_true, ite_false, true_or, or_true, false_or, or_false, and_true, true_and, and_false, false_and, and_self, or_self, not_true_eq_false, not_false_eq_true, ne_eq, reduceIte, decide_true, decide_false, Bool.and_true, Bool.true_and, Bool.and_false, Bool.false_and]; done) | (simp [nPort, he, rv, va_rf, *]; done) | (simp_all [nPort, he, rv, va_rf]; done)) rfl
set_option maxHeartbeats 4000000 in
set_option maxRecDepth 100000 in
theorem ct_X4_flowOf {la : Launch} {E : Ev} (hE : okE E) (hX : xin E) {σ : Sg} {n : Nat} (hn : n < 9 := by omega) {x y : Int32} : CQ la yX4_flowOf wsX4_flowOf 1 21 E rh0 [.ref (ad E (4, n, 0, 0)), .int x, .int y] σ (nFlow n x y) σ := by
  refine met_of (lv := [some _, some _, some _, none]) RX4 (by decide) rfl rfl rfl hE (ok3 rfl rfl rfl) (Nat.le_of_ble_eq_true rfl) (fun p ev s m args below meth c Q cx hlk hr hQ => ?_)
  rcases he : eOf x with _ | j
  · refine A_aload_n (q := 1) cx dX4_flowOf_0 rfl rfl rfl ?_
    refine A_iload_n (q := 2) cx dX4_flowOf_1 rfl rfl ?_
    refine VQ1 (q := 5) cx (ct_X4_endOf hE hX) (cwV 1 cx.1.2.2.2.2 gX4_flowOf_X4_endOf rfl rfl rfl (by decide +kernel) ⟨Nat.le_of_ble_eq_true rfl, Nat.le_of_ble_eq_true rfl⟩) dX4_flowOf_2 rfl rfl (in4 hX (by omega)) rfl (Nat.le_of_ble_eq_true rfl) ⟨Nat.zero_le _, Nat.zero_le _⟩ rfl ?_
    simp only [he, Option.map_some, Option.map_none, rv_some, rv_none]
    refine A_astore_n (lv' := [some _, some _, some _, some _]) (q := 6) cx dX4_flowOf_5 (Nat.le_of_ble_eq_true rfl) rfl rfl rfl ?_
    refine A_aload_n (q := 7) cx dX4_flowOf_6 rfl rfl rfl ?_
    refine A_ifnonnull_N (q := 10) cx dX4_flowOf_7 rfl ?_
    refine A_null (q := 11) cx dX4_flowOf_10 rfl ?_
    refine A_goto (q := 19) cx dX4_flowOf_11 (by decide) ?_
    exact A_aret cx hlk hr hQ dX4_flowOf_19 (by first | (simp only [nFlow, he, rv, va_rf, *, if_true, if_false, ite_true, ite_false, true_or, or_true, false_or, or_false, and_true, true_and, and_false, false_and, and_self, or_self, not_true_eq_false, not_false_eq_true, ne_eq, reduceIte, decide_true, decide_false, Bool.and_true, Bool.true_and, Bool.and_false, Bool.false_and]; done) | (simp [nFlow, he, rv, va_rf, *]; done) | (simp_all [nFlow, he, rv, va_rf]; done)) rfl
  · have hj := eOf_lt he
    refine A_aload_n (q := 1) cx dX4_flowOf_0 rfl rfl rfl ?_
    refine A_iload_n (q := 2) cx dX4_flowOf_1 rfl rfl ?_
    refine VQ1 (q := 5) cx (ct_X4_endOf hE hX) (cwV 1 cx.1.2.2.2.2 gX4_flowOf_X4_endOf rfl rfl rfl (by decide +kernel) ⟨Nat.le_of_ble_eq_true rfl, Nat.le_of_ble_eq_true rfl⟩) dX4_flowOf_2 rfl rfl (in4 hX (by omega)) rfl (Nat.le_of_ble_eq_true rfl) ⟨Nat.zero_le _, Nat.zero_le _⟩ rfl ?_
    simp only [he, Option.map_some, Option.map_none, rv_some, rv_none]
    refine A_astore_n (lv' := [some _, some _, some _, some _]) (q := 6) cx dX4_flowOf_5 (Nat.le_of_ble_eq_true rfl) rfl rfl rfl ?_
    refine A_aload_n (q := 7) cx dX4_flowOf_6 rfl rfl rfl ?_
    refine A_ifnonnull_R (tgt := 14) cx dX4_flowOf_7 (by decide) ?_
    refine A_aload_n (q := 15) cx dX4_flowOf_14 rfl rfl rfl ?_
    refine A_iload_n (q := 16) cx dX4_flowOf_15 rfl rfl ?_
    refine VQ1 (q := 19) cx (ct_X0_flowAt hE hX) (cwV 1 cx.1.2.2.2.2 gX4_flowOf_X0_flowAt rfl rfl rfl (by decide +kernel) ⟨Nat.le_of_ble_eq_true rfl, Nat.le_of_ble_eq_true rfl⟩) dX4_flowOf_16 rfl rfl (in0 hX (by omega)) rfl (Nat.le_of_ble_eq_true rfl) ⟨Nat.zero_le _, Nat.zero_le _⟩ rfl ?_
    exact A_aret cx hlk hr hQ dX4_flowOf_19 (by first | (simp only [nFlow, he, rv, va_rf, *, if_true, if_false, ite_true, ite_false, true_or, or_true, false_or, or_false, and_true, true_and, and_false, false_and, and_self, or_self, not_true_eq_false, not_false_eq_true, ne_eq, reduceIte, decide_true, decide_false, Bool.and_true, Bool.true_and, Bool.and_false, Bool.false_and]; done) | (simp [nFlow, he, rv, va_rf, *]; done) | (simp_all [nFlow, he, rv, va_rf]; done)) rfl
theorem wi_X4_plugLink_X5 : ∀ w ∈ u_ws RX5 TX5 11, w ∈ wsX4_plugLink := by decide +kernel
theorem wf_X4_plugLink_66 : Cond.fieldLink RX4 66 (TX5 0).1 (TX5 0).2.1 (TX5 0).2.2.1 ∈ wsX4_plugLink := by decide +kernel
set_option maxHeartbeats 4000000 in
set_option maxRecDepth 100000 in
theorem ct_X4_plugLink {la : Launch} {E : Ev} (hE : okE E) (hX : xin E) {σ : Sg} {n : Nat} {j : Nat} {x v : Int32} (hv : v = 0 ∨ v = 1) (hx : x < σ (4, n, 0, 0) 2) (hj : eAt 6 x = some j) (hn : n < 9 := by omega) : CV la yX4_plugLink wsX4_plugLink 2 44 E rh0 [.ref (ad E (4, n, 0, 0)), .int x, .int v] σ (nPlug σ n j v) := by
  refine met_of (lv := [some _, some _, some _, none, none]) RX4 (by decide) rfl rfl rfl hE (ok3 rfl rfl rfl) (Nat.le_of_ble_eq_true rfl) (fun p ev s m args below meth c Q cx hlk hr hQ => ?_)
  have hj6 := (eAt_lt (by decide) hj).1
  refine A_aload_n (q := 1) cx dX4_plugLink_0 rfl rfl rfl ?_
  refine A_iconst (v := 0) (q := 2) cx dX4_plugLink_1 (by decide) rfl ?_
  refine A_iload_n (q := 3) cx dX4_plugLink_2 rfl rfl ?_
  refine VQ2 (q := 6) cx (ct_X4_portOf hE hX) (cwV 2 cx.1.2.2.2.2 gX4_plugLink_X4_portOf rfl rfl rfl (by decide +kernel) ⟨Nat.le_of_ble_eq_true rfl, Nat.le_of_ble_eq_true rfl⟩) dX4_plugLink_3 rfl rfl (in4 hX (by omega)) rfl (Nat.le_of_ble_eq_true rfl) ⟨Nat.zero_le _, Nat.zero_le _⟩ rfl ?_
  rw [nPort_ok (e := 0) rfl hx hj, rv_some]
  refine A_astore_n (lv' := [some _, some _, some _, some _, none]) (q := 7) cx dX4_plugLink_6 (Nat.le_of_ble_eq_true rfl) rfl rfl rfl ?_
  refine A_aload_n (q := 8) cx dX4_plugLink_7 rfl rfl rfl ?_
  refine A_iconst (v := 1) (q := 9) cx dX4_plugLink_8 (by decide) rfl ?_
  refine A_iload_n (q := 10) cx dX4_plugLink_9 rfl rfl ?_
  refine VQ2 (q := 13) cx (ct_X4_portOf hE hX) (cwV 2 cx.1.2.2.2.2 gX4_plugLink_X4_portOf rfl rfl rfl (by decide +kernel) ⟨Nat.le_of_ble_eq_true rfl, Nat.le_of_ble_eq_true rfl⟩) dX4_plugLink_10 rfl rfl (in4 hX (by omega)) rfl (Nat.le_of_ble_eq_true rfl) ⟨Nat.zero_le _, Nat.zero_le _⟩ rfl ?_
  rw [nPort_ok (e := 1) rfl hx hj, rv_some]
  refine A_astore (lv' := [some _, some _, some _, some _, some _]) (q := 15) cx dX4_plugLink_13 (Nat.le_of_ble_eq_true rfl) rfl rfl rfl ?_
  refine A_aload_n (q := 16) cx dX4_plugLink_15 rfl rfl rfl ?_
  refine A_ifnull_R (q := 19) cx dX4_plugLink_16 rfl ?_
  refine A_aload (q := 21) cx dX4_plugLink_19 rfl rfl rfl ?_
  refine A_ifnull_R (q := 24) cx dX4_plugLink_21 rfl ?_
  refine A_aload_n (q := 25) cx dX4_plugLink_24 rfl rfl rfl ?_
  refine A_iload_n (q := 26) cx dX4_plugLink_25 rfl rfl ?_
  refine pX5_0 (q := 29) cx wi_X4_plugLink_X5 wf_X4_plugLink_66 dX4_plugLink_26 rfl (in5 hX (by omega)) (by first | exact Or.inl rfl | exact Or.inr rfl | exact b01_or _ | assumption) rfl ?_
  refine A_aload (q := 31) cx dX4_plugLink_29 rfl rfl rfl ?_
  refine A_iload_n (q := 32) cx dX4_plugLink_31 rfl rfl ?_
  refine pX5_0 (q := 35) cx wi_X4_plugLink_X5 wf_X4_plugLink_66 dX4_plugLink_32 rfl (in5 hX (by omega)) (by first | exact Or.inl rfl | exact Or.inr rfl | exact b01_or _ | assumption) rfl ?_
  exact A_vret cx hlk hr hQ dX4_plugLink_35 rfl
theorem wi_X4_setting_X4 : ∀ w ∈ u_ws RX4 TX4 7, w ∈ wsX4_setting := by decide +kernel
theorem wf_X4_setting_14 : Cond.fieldLink RX4 14 (TX4 0).1 (TX4 0).2.1 (TX4 0).2.2.1 ∈ wsX4_setting := by decide +kernel
theorem wi_X4_setting_X0 : ∀ w ∈ u_ws RX0 TX0 4, w ∈ wsX4_setting := by decide +kernel
theorem wf_X4_setting_72 : Cond.fieldLink RX4 72 (TX0 1).1 (TX0 1).2.1 (TX0 1).2.2.1 ∈ wsX4_setting := by decide +kernel
theorem wf_X4_setting_20 : Cond.fieldLink RX4 20 (TX4 1).1 (TX4 1).2.1 (TX4 1).2.2.1 ∈ wsX4_setting := by decide +kernel
theorem wf_X4_setting_30 : Cond.fieldLink RX4 30 (TX4 3).1 (TX4 3).2.1 (TX4 3).2.2.1 ∈ wsX4_setting := by decide +kernel
set_option maxHeartbeats 4000000 in
set_option maxRecDepth 100000 in
theorem ct_X4_setting {la : Launch} {E : Ev} (hE : okE E) (hX : xin E) {σ : Sg} {n : Nat} (hn : n < 9 := by omega) {w : Int32} : CI la yX4_setting wsX4_setting 0 0 E rh0 [.ref (ad E (4, n, 0, 0)), .int w] σ (nSet σ n w) σ := by
  refine met_of (lv := [some _, some _]) RX4 (by decide) rfl rfl rfl hE (ok2 rfl rfl) (Nat.le_of_ble_eq_true rfl) (fun p ev s m args below meth c Q cx hlk hr hQ => ?_)
  refine A_iload_n (q := 1) cx dX4_setting_0 rfl rfl ?_
  by_cases s_1_0 : w = 0
  · refine A_lookup (off := 27) (tgt := 28) cx dX4_setting_1 (by decide) (by rw [s_1_0]; decide) (by decide) ?_
    refine A_aload_n (q := 29) cx dX4_setting_28 rfl rfl rfl ?_
    refine gX4_0 (q := 32) cx wi_X4_setting_X4 wf_X4_setting_14 dX4_setting_29 rfl (in4 hX (by omega)) rfl rfl ?_
    refine gX0_1 (q := 35) cx wi_X4_setting_X0 wf_X4_setting_72 dX4_setting_32 rfl (in0 hX (by omega)) rfl ?_
    exact A_iret cx hlk hr hQ dX4_setting_35 (by first | (simp only [nSet, *, if_true, if_false, ite_true, ite_false, true_or, or_true, false_or, or_false, and_true, true_and, and_false, false_and, and_self, or_self, not_true_eq_false, not_false_eq_true, ne_eq, reduceIte, decide_true, decide_false, Bool.and_true, Bool.true_and, Bool.and_false, Bool.false_and]; done) | (simp [nSet, *]; done) | (simp_all [nSet]; done)) rfl
  by_cases s_1_1 : w = 1
  · refine A_lookup (off := 35) (tgt := 36) cx dX4_setting_1 (by decide) (by rw [s_1_1]; decide) (by decide) ?_
    refine A_aload_n (q := 37) cx dX4_setting_36 rfl rfl rfl ?_
    refine gX4_1 (q := 40) cx wi_X4_setting_X4 wf_X4_setting_20 dX4_setting_37 rfl (in4 hX (by omega)) rfl rfl ?_
    refine gX0_1 (q := 43) cx wi_X4_setting_X0 wf_X4_setting_72 dX4_setting_40 rfl (in0 hX (by omega)) rfl ?_
    exact A_iret cx hlk hr hQ dX4_setting_43 (by first | (simp only [nSet, *, if_true, if_false, ite_true, ite_false, true_or, or_true, false_or, or_false, and_true, true_and, and_false, false_and, and_self, or_self, not_true_eq_false, not_false_eq_true, ne_eq, reduceIte, decide_true, decide_false, Bool.and_true, Bool.true_and, Bool.and_false, Bool.false_and]; done) | (simp [nSet, *]; done) | (simp_all [nSet]; done)) rfl
  refine A_lookup (off := 43) (tgt := 44) cx dX4_setting_1 (by decide) (by show Op.lookupswitch.offset [(0, 27), (1, 35)] 43 _ = 43; rw [lv_osw s_1_0 (a := 0) rfl, lv_osw s_1_1 (a := 1) rfl]; rfl) (by decide) ?_
  refine A_aload_n (q := 45) cx dX4_setting_44 rfl rfl rfl ?_
  refine gX4_3 (q := 48) cx wi_X4_setting_X4 wf_X4_setting_30 dX4_setting_45 rfl (in4 hX (by omega)) rfl ?_
  exact A_iret cx hlk hr hQ dX4_setting_48 (by first | (simp only [nSet, *, if_true, if_false, ite_true, ite_false, true_or, or_true, false_or, or_false, and_true, true_and, and_false, false_and, and_self, or_self, not_true_eq_false, not_false_eq_true, ne_eq, reduceIte, decide_true, decide_false, Bool.and_true, Bool.true_and, Bool.and_false, Bool.false_and]; done) | (simp [nSet, *]; done) | (simp_all [nSet]; done)) rfl
theorem wi_X4_changeSetting_X4 : ∀ w ∈ u_ws RX4 TX4 7, w ∈ wsX4_changeSetting := by decide +kernel
theorem wf_X4_changeSetting_14 : Cond.fieldLink RX4 14 (TX4 0).1 (TX4 0).2.1 (TX4 0).2.2.1 ∈ wsX4_changeSetting := by decide +kernel
theorem wi_X4_changeSetting_X0 : ∀ w ∈ u_ws RX0 TX0 4, w ∈ wsX4_changeSetting := by decide +kernel
theorem wf_X4_changeSetting_72 : Cond.fieldLink RX4 72 (TX0 1).1 (TX0 1).2.1 (TX0 1).2.2.1 ∈ wsX4_changeSetting := by decide +kernel
theorem wf_X4_changeSetting_20 : Cond.fieldLink RX4 20 (TX4 1).1 (TX4 1).2.1 (TX4 1).2.2.1 ∈ wsX4_changeSetting := by decide +kernel
theorem wf_X4_changeSetting_30 : Cond.fieldLink RX4 30 (TX4 3).1 (TX4 3).2.1 (TX4 3).2.2.1 ∈ wsX4_changeSetting := by decide +kernel
set_option maxHeartbeats 4000000 in
set_option maxRecDepth 100000 in
theorem ct_X4_changeSetting {la : Launch} {E : Ev} (hE : okE E) (hX : xin E) {σ : Sg} {n : Nat} (hn : n < 9 := by omega) {w v : Int32} : CV la yX4_changeSetting wsX4_changeSetting 0 0 E rh0 [.ref (ad E (4, n, 0, 0)), .int w, .int v] σ (nChg σ n w v) := by
  refine met_of (lv := [some _, some _, some _]) RX4 (by decide) rfl rfl rfl hE (ok3 rfl rfl rfl) (Nat.le_of_ble_eq_true rfl) (fun p ev s m args below meth c Q cx hlk hr hQ => ?_)
  refine A_iload_n (q := 1) cx dX4_changeSetting_0 rfl rfl ?_
  by_cases s_1_0 : w = 0
  · refine A_lookup (off := 27) (tgt := 28) cx dX4_changeSetting_1 (by decide) (by rw [s_1_0]; decide) (by decide) ?_
    refine A_aload_n (q := 29) cx dX4_changeSetting_28 rfl rfl rfl ?_
    refine gX4_0 (q := 32) cx wi_X4_changeSetting_X4 wf_X4_changeSetting_14 dX4_changeSetting_29 rfl (in4 hX (by omega)) rfl rfl ?_
    refine A_iload_n (q := 33) cx dX4_changeSetting_32 rfl rfl ?_
    refine pX0_1 (q := 36) cx wi_X4_changeSetting_X0 wf_X4_changeSetting_72 dX4_changeSetting_33 rfl (in0 hX (by omega)) rfl ?_
    refine A_goto (q := 55) cx dX4_changeSetting_36 (by decide) ?_
    exact A_vret cx hlk hr hQ dX4_changeSetting_55 (by first | (simp only [nChg, *, if_true, if_false, ite_true, ite_false, true_or, or_true, false_or, or_false, and_true, true_and, and_false, false_and, and_self, or_self, not_true_eq_false, not_false_eq_true, ne_eq, reduceIte, decide_true, decide_false, Bool.and_true, Bool.true_and, Bool.and_false, Bool.false_and]; done) | (simp [nChg, *]; done) | (simp_all [nChg]; done))
  by_cases s_1_1 : w = 1
  · refine A_lookup (off := 38) (tgt := 39) cx dX4_changeSetting_1 (by decide) (by rw [s_1_1]; decide) (by decide) ?_
    refine A_aload_n (q := 40) cx dX4_changeSetting_39 rfl rfl rfl ?_
    refine gX4_1 (q := 43) cx wi_X4_changeSetting_X4 wf_X4_changeSetting_20 dX4_changeSetting_40 rfl (in4 hX (by omega)) rfl rfl ?_
    refine A_iload_n (q := 44) cx dX4_changeSetting_43 rfl rfl ?_
    refine pX0_1 (q := 47) cx wi_X4_changeSetting_X0 wf_X4_changeSetting_72 dX4_changeSetting_44 rfl (in0 hX (by omega)) rfl ?_
    refine A_goto (q := 55) cx dX4_changeSetting_47 (by decide) ?_
    exact A_vret cx hlk hr hQ dX4_changeSetting_55 (by first | (simp only [nChg, *, if_true, if_false, ite_true, ite_false, true_or, or_true, false_or, or_false, and_true, true_and, and_false, false_and, and_self, or_self, not_true_eq_false, not_false_eq_true, ne_eq, reduceIte, decide_true, decide_false, Bool.and_true, Bool.true_and, Bool.and_false, Bool.false_and]; done) | (simp [nChg, *]; done) | (simp_all [nChg]; done))
  refine A_lookup (off := 49) (tgt := 50) cx dX4_changeSetting_1 (by decide) (by show Op.lookupswitch.offset [(0, 27), (1, 38)] 49 _ = 49; rw [lv_osw s_1_0 (a := 0) rfl, lv_osw s_1_1 (a := 1) rfl]; rfl) (by decide) ?_
  refine A_aload_n (q := 51) cx dX4_changeSetting_50 rfl rfl rfl ?_
  refine A_iload_n (q := 52) cx dX4_changeSetting_51 rfl rfl ?_
  refine pX4_3 (q := 55) cx wi_X4_changeSetting_X4 wf_X4_changeSetting_30 dX4_changeSetting_52 rfl (in4 hX (by omega)) rfl ?_
  exact A_vret cx hlk hr hQ dX4_changeSetting_55 (by first | (simp only [nChg, *, if_true, if_false, ite_true, ite_false, true_or, or_true, false_or, or_false, and_true, true_and, and_false, false_and, and_self, or_self, not_true_eq_false, not_false_eq_true, ne_eq, reduceIte, decide_true, decide_false, Bool.and_true, Bool.true_and, Bool.and_false, Bool.false_and]; done) | (simp [nChg, *]; done) | (simp_all [nChg]; done))
theorem wi_X4_stepOf_X4 : ∀ w ∈ u_ws RX4 TX4 7, w ∈ wsX4_stepOf := by decide +kernel
theorem wf_X4_stepOf_30 : Cond.fieldLink RX4 30 (TX4 3).1 (TX4 3).2.1 (TX4 3).2.2.1 ∈ wsX4_stepOf := by decide +kernel
theorem wf_X4_stepOf_33 : Cond.fieldLink RX4 33 (TX4 4).1 (TX4 4).2.1 (TX4 4).2.2.1 ∈ wsX4_stepOf := by decide +kernel
theorem wf_X4_stepOf_36 : Cond.fieldLink RX4 36 (TX4 5).1 (TX4 5).2.1 (TX4 5).2.2.1 ∈ wsX4_stepOf := by decide +kernel
set_option maxHeartbeats 4000000 in
set_option maxRecDepth 100000 in
theorem ct_X4_stepOf {la : Launch} {E : Ev} (hE : okE E) (hX : xin E) {σ : Sg} {n e : Nat} (hn : n < 9 ∧ e < 2 := by omega) : CV la yX4_stepOf wsX4_stepOf 3 74 E rh0 [.ref (ad E (4, n, 0, 0)), .ref (ad E (0, n, e, 0))] σ (nStepOf σ n e) := by
  refine met_of (lv := [some _, some _]) RX4 (by decide) rfl rfl rfl hE (ok2 rfl rfl) (Nat.le_of_ble_eq_true rfl) (fun p ev s m args below meth c Q cx hlk hr hQ => ?_)
  refine A_aload_n (q := 1) cx dX4_stepOf_0 rfl rfl rfl ?_
  refine A_aload_n (q := 2) cx dX4_stepOf_1 rfl rfl rfl ?_
  refine gX4_3 (q := 5) cx wi_X4_stepOf_X4 wf_X4_stepOf_30 dX4_stepOf_2 rfl (in4 hX (by omega)) rfl ?_
  refine VV1 (q := 8) cx (ct_X0_choose hE hX) (cwV 1 cx.1.2.2.2.2 gX4_stepOf_X0_choose rfl rfl rfl (by decide +kernel) ⟨Nat.le_of_ble_eq_true rfl, Nat.le_of_ble_eq_true rfl⟩) dX4_stepOf_5 rfl rfl (in0 hX (by omega)) rfl (Nat.le_of_ble_eq_true rfl) ⟨Nat.zero_le _, Nat.zero_le _⟩ rfl ?_
  refine A_aload_n (q := 9) cx dX4_stepOf_8 rfl rfl rfl ?_
  refine A_aload_n (q := 10) cx dX4_stepOf_9 rfl rfl rfl ?_
  refine gX4_4 (q := 13) cx wi_X4_stepOf_X4 wf_X4_stepOf_33 dX4_stepOf_10 rfl (in4 hX (by omega)) rfl ?_
  refine VV1 (q := 16) cx (ct_X0_judgeAndSay hE hX) (cwV 1 cx.1.2.2.2.2 gX4_stepOf_X0_judgeAndSay rfl rfl rfl (by decide +kernel) ⟨Nat.le_of_ble_eq_true rfl, Nat.le_of_ble_eq_true rfl⟩) dX4_stepOf_13 rfl rfl (in0 hX (by omega)) rfl (Nat.le_of_ble_eq_true rfl) ⟨Nat.zero_le _, Nat.zero_le _⟩ rfl ?_
  refine A_aload_n (q := 17) cx dX4_stepOf_16 rfl rfl rfl ?_
  refine A_aload_n (q := 18) cx dX4_stepOf_17 rfl rfl rfl ?_
  refine gX4_5 (q := 21) cx wi_X4_stepOf_X4 wf_X4_stepOf_36 dX4_stepOf_18 rfl (in4 hX (by omega)) rfl ?_
  refine VV1 (q := 24) cx (ct_X0_dealFlows hE hX) (cwV 1 cx.1.2.2.2.2 gX4_stepOf_X0_dealFlows rfl rfl rfl (by decide +kernel) ⟨Nat.le_of_ble_eq_true rfl, Nat.le_of_ble_eq_true rfl⟩) dX4_stepOf_21 rfl rfl (in0 hX (by omega)) rfl (Nat.le_of_ble_eq_true rfl) ⟨Nat.zero_le _, Nat.zero_le _⟩ rfl ?_
  exact A_vret cx hlk hr hQ dX4_stepOf_24 rfl
theorem wi_X4_step_X4 : ∀ w ∈ u_ws RX4 TX4 7, w ∈ wsX4_step := by decide +kernel
theorem wf_X4_step_14 : Cond.fieldLink RX4 14 (TX4 0).1 (TX4 0).2.1 (TX4 0).2.2.1 ∈ wsX4_step := by decide +kernel
theorem wf_X4_step_20 : Cond.fieldLink RX4 20 (TX4 1).1 (TX4 1).2.1 (TX4 1).2.2.1 ∈ wsX4_step := by decide +kernel
theorem wf_X4_step_39 : Cond.fieldLink RX4 39 (TX4 6).1 (TX4 6).2.1 (TX4 6).2.2.1 ∈ wsX4_step := by decide +kernel
set_option maxHeartbeats 4000000 in
set_option maxRecDepth 100000 in
theorem ct_X4_step {la : Launch} {E : Ev} (hE : okE E) (hX : xin E) {σ : Sg} {n : Nat} (hn : n < 9 := by omega) : CV la yX4_step wsX4_step 4 95 E rh0 [.ref (ad E (4, n, 0, 0))] σ (nStep σ n) := by
  refine met_of (lv := [some _]) RX4 (by decide) rfl rfl rfl hE (ok1 rfl) (Nat.le_of_ble_eq_true rfl) (fun p ev s m args below meth c Q cx hlk hr hQ => ?_)
  refine A_aload_n (q := 1) cx dX4_step_0 rfl rfl rfl ?_
  refine gX4_0 (q := 4) cx wi_X4_step_X4 wf_X4_step_14 dX4_step_1 rfl (in4 hX (by omega)) rfl rfl ?_
  refine A_aload_n (q := 5) cx dX4_step_4 rfl rfl rfl ?_
  refine gX4_1 (q := 8) cx wi_X4_step_X4 wf_X4_step_20 dX4_step_5 rfl (in4 hX (by omega)) rfl rfl ?_
  refine VV1 (q := 11) cx (ct_X0_hearFrom hE hX) (cwV 1 cx.1.2.2.2.2 gX4_step_X0_hearFrom rfl rfl rfl (by decide +kernel) ⟨Nat.le_of_ble_eq_true rfl, Nat.le_of_ble_eq_true rfl⟩) dX4_step_8 rfl rfl (in0 hX (by omega)) rfl (Nat.le_of_ble_eq_true rfl) ⟨Nat.zero_le _, Nat.zero_le _⟩ rfl ?_
  refine A_aload_n (q := 12) cx dX4_step_11 rfl rfl rfl ?_
  refine gX4_1 (q := 15) cx wi_X4_step_X4 wf_X4_step_20 dX4_step_12 rfl (in4 hX (by omega)) rfl rfl ?_
  refine A_aload_n (q := 16) cx dX4_step_15 rfl rfl rfl ?_
  refine gX4_0 (q := 19) cx wi_X4_step_X4 wf_X4_step_14 dX4_step_16 rfl (in4 hX (by omega)) rfl rfl ?_
  refine VV1 (q := 22) cx (ct_X0_hearFrom hE hX) (cwV 1 cx.1.2.2.2.2 gX4_step_X0_hearFrom rfl rfl rfl (by decide +kernel) ⟨Nat.le_of_ble_eq_true rfl, Nat.le_of_ble_eq_true rfl⟩) dX4_step_19 rfl rfl (in0 hX (by omega)) rfl (Nat.le_of_ble_eq_true rfl) ⟨Nat.zero_le _, Nat.zero_le _⟩ rfl ?_
  refine A_aload_n (q := 23) cx dX4_step_22 rfl rfl rfl ?_
  refine A_aload_n (q := 24) cx dX4_step_23 rfl rfl rfl ?_
  refine gX4_0 (q := 27) cx wi_X4_step_X4 wf_X4_step_14 dX4_step_24 rfl (in4 hX (by omega)) rfl rfl ?_
  refine VV1 (q := 30) cx (ct_X4_stepOf hE hX) (cwV 1 cx.1.2.2.2.2 gX4_step_X4_stepOf rfl rfl rfl (by decide +kernel) ⟨Nat.le_of_ble_eq_true rfl, Nat.le_of_ble_eq_true rfl⟩) dX4_step_27 rfl rfl (in4 hX (by omega)) rfl (Nat.le_of_ble_eq_true rfl) ⟨Nat.zero_le _, Nat.zero_le _⟩ rfl ?_
  refine A_aload_n (q := 31) cx dX4_step_30 rfl rfl rfl ?_
  refine A_aload_n (q := 32) cx dX4_step_31 rfl rfl rfl ?_
  refine gX4_1 (q := 35) cx wi_X4_step_X4 wf_X4_step_20 dX4_step_32 rfl (in4 hX (by omega)) rfl rfl ?_
  refine VV1 (q := 38) cx (ct_X4_stepOf hE hX) (cwV 1 cx.1.2.2.2.2 gX4_step_X4_stepOf rfl rfl rfl (by decide +kernel) ⟨Nat.le_of_ble_eq_true rfl, Nat.le_of_ble_eq_true rfl⟩) dX4_step_35 rfl rfl (in4 hX (by omega)) rfl (Nat.le_of_ble_eq_true rfl) ⟨Nat.zero_le _, Nat.zero_le _⟩ rfl ?_
  refine A_aload_n (q := 39) cx dX4_step_38 rfl rfl rfl ?_
  refine A_dup (q := 40) cx dX4_step_39 rfl rfl ?_
  refine gX4_6 (q := 43) cx wi_X4_step_X4 wf_X4_step_39 dX4_step_40 rfl (in4 hX (by omega)) rfl ?_
  refine A_iconst (v := 1) (q := 44) cx dX4_step_43 (by decide) rfl ?_
  refine A_iadd (q := 45) cx dX4_step_44 rfl ?_
  refine pX4_6 (q := 48) cx wi_X4_step_X4 wf_X4_step_39 dX4_step_45 rfl (in4 hX (by omega)) rfl ?_
  exact A_vret cx hlk hr hQ dX4_step_48 rfl
theorem wi_X4_addLink_X4 : ∀ w ∈ u_ws RX4 TX4 7, w ∈ wsX4_addLink := by decide +kernel
theorem wf_X4_addLink_14 : Cond.fieldLink RX4 14 (TX4 0).1 (TX4 0).2.1 (TX4 0).2.2.1 ∈ wsX4_addLink := by decide +kernel
theorem wf_X4_addLink_26 : Cond.fieldLink RX4 26 (TX4 2).1 (TX4 2).2.1 (TX4 2).2.2.1 ∈ wsX4_addLink := by decide +kernel
theorem wf_X4_addLink_20 : Cond.fieldLink RX4 20 (TX4 1).1 (TX4 1).2.1 (TX4 1).2.2.1 ∈ wsX4_addLink := by decide +kernel
set_option maxHeartbeats 4000000 in
set_option maxRecDepth 100000 in
theorem ct_X4_addLink {la : Launch} {E : Ev} (hE : okE E) (hX : xin E) {σ : Sg} {n : Nat} (hn : n < 9 := by omega) {x : Int32} : CV la yX4_addLink wsX4_addLink 2 43 E rh0 [.ref (ad E (4, n, 0, 0)), .ref (ad E (6, 0, 0, 0)), .int x] σ (nAdd σ n x) := by
  refine met_of (lv := [some _, some _, some _, none, none]) RX4 (by decide) rfl rfl rfl hE (ok3 rfl rfl rfl) (Nat.le_of_ble_eq_true rfl) (fun p ev s m args below meth c Q cx hlk hr hQ => ?_)
  rcases he : eAt 6 (σ (4, n, 0, 0) 2) with _ | j
  · refine A_aload_n (q := 1) cx dX4_addLink_0 rfl rfl rfl ?_
    refine gX4_0 (q := 4) cx wi_X4_addLink_X4 wf_X4_addLink_14 dX4_addLink_1 rfl (in4 hX (by omega)) rfl rfl ?_
    refine A_aload_n (q := 5) cx dX4_addLink_4 rfl rfl rfl ?_
    refine gX4_2 (q := 8) cx wi_X4_addLink_X4 wf_X4_addLink_26 dX4_addLink_5 rfl (in4 hX (by omega)) rfl ?_
    refine VQ1 (q := 11) cx (ct_X0_portAt hE hX) (cwV 1 cx.1.2.2.2.2 gX4_addLink_X0_portAt rfl rfl rfl (by decide +kernel) ⟨Nat.le_of_ble_eq_true rfl, Nat.le_of_ble_eq_true rfl⟩) dX4_addLink_8 rfl rfl (in0 hX (by omega)) rfl (Nat.le_of_ble_eq_true rfl) ⟨Nat.zero_le _, Nat.zero_le _⟩ rfl ?_
    simp only [he, Option.map_some, Option.map_none, rv_some, rv_none]
    refine A_astore_n (lv' := [some _, some _, some _, some _, none]) (q := 12) cx dX4_addLink_11 (Nat.le_of_ble_eq_true rfl) rfl rfl rfl ?_
    refine A_aload_n (q := 13) cx dX4_addLink_12 rfl rfl rfl ?_
    refine gX4_1 (q := 16) cx wi_X4_addLink_X4 wf_X4_addLink_20 dX4_addLink_13 rfl (in4 hX (by omega)) rfl rfl ?_
    refine A_aload_n (q := 17) cx dX4_addLink_16 rfl rfl rfl ?_
    refine gX4_2 (q := 20) cx wi_X4_addLink_X4 wf_X4_addLink_26 dX4_addLink_17 rfl (in4 hX (by omega)) rfl ?_
    refine VQ1 (q := 23) cx (ct_X0_portAt hE hX) (cwV 1 cx.1.2.2.2.2 gX4_addLink_X0_portAt rfl rfl rfl (by decide +kernel) ⟨Nat.le_of_ble_eq_true rfl, Nat.le_of_ble_eq_true rfl⟩) dX4_addLink_20 rfl rfl (in0 hX (by omega)) rfl (Nat.le_of_ble_eq_true rfl) ⟨Nat.zero_le _, Nat.zero_le _⟩ rfl ?_
    simp only [he, Option.map_some, Option.map_none, rv_some, rv_none]
    refine A_astore (lv' := [some _, some _, some _, some _, some _]) (q := 25) cx dX4_addLink_23 (Nat.le_of_ble_eq_true rfl) rfl rfl rfl ?_
    refine A_aload_n (q := 26) cx dX4_addLink_25 rfl rfl rfl ?_
    refine A_ifnull_N (tgt := 77) cx dX4_addLink_26 (by decide) ?_
    exact A_vret cx hlk hr hQ dX4_addLink_77 (by unfold nAdd; rw [he])
  · have hj := (eAt_lt (by decide) he).1
    refine A_aload_n (q := 1) cx dX4_addLink_0 rfl rfl rfl ?_
    refine gX4_0 (q := 4) cx wi_X4_addLink_X4 wf_X4_addLink_14 dX4_addLink_1 rfl (in4 hX (by omega)) rfl rfl ?_
    refine A_aload_n (q := 5) cx dX4_addLink_4 rfl rfl rfl ?_
    refine gX4_2 (q := 8) cx wi_X4_addLink_X4 wf_X4_addLink_26 dX4_addLink_5 rfl (in4 hX (by omega)) rfl ?_
    refine VQ1 (q := 11) cx (ct_X0_portAt hE hX) (cwV 1 cx.1.2.2.2.2 gX4_addLink_X0_portAt rfl rfl rfl (by decide +kernel) ⟨Nat.le_of_ble_eq_true rfl, Nat.le_of_ble_eq_true rfl⟩) dX4_addLink_8 rfl rfl (in0 hX (by omega)) rfl (Nat.le_of_ble_eq_true rfl) ⟨Nat.zero_le _, Nat.zero_le _⟩ rfl ?_
    simp only [he, Option.map_some, Option.map_none, rv_some, rv_none]
    refine A_astore_n (lv' := [some _, some _, some _, some _, none]) (q := 12) cx dX4_addLink_11 (Nat.le_of_ble_eq_true rfl) rfl rfl rfl ?_
    refine A_aload_n (q := 13) cx dX4_addLink_12 rfl rfl rfl ?_
    refine gX4_1 (q := 16) cx wi_X4_addLink_X4 wf_X4_addLink_20 dX4_addLink_13 rfl (in4 hX (by omega)) rfl rfl ?_
    refine A_aload_n (q := 17) cx dX4_addLink_16 rfl rfl rfl ?_
    refine gX4_2 (q := 20) cx wi_X4_addLink_X4 wf_X4_addLink_26 dX4_addLink_17 rfl (in4 hX (by omega)) rfl ?_
    refine VQ1 (q := 23) cx (ct_X0_portAt hE hX) (cwV 1 cx.1.2.2.2.2 gX4_addLink_X0_portAt rfl rfl rfl (by decide +kernel) ⟨Nat.le_of_ble_eq_true rfl, Nat.le_of_ble_eq_true rfl⟩) dX4_addLink_20 rfl rfl (in0 hX (by omega)) rfl (Nat.le_of_ble_eq_true rfl) ⟨Nat.zero_le _, Nat.zero_le _⟩ rfl ?_
    simp only [he, Option.map_some, Option.map_none, rv_some, rv_none]
    refine A_astore (lv' := [some _, some _, some _, some _, some _]) (q := 25) cx dX4_addLink_23 (Nat.le_of_ble_eq_true rfl) rfl rfl rfl ?_
    refine A_aload_n (q := 26) cx dX4_addLink_25 rfl rfl rfl ?_
    refine A_ifnull_R (q := 29) cx dX4_addLink_26 rfl ?_
    refine A_aload (q := 31) cx dX4_addLink_29 rfl rfl rfl ?_
    refine A_ifnull_R (q := 34) cx dX4_addLink_31 rfl ?_
    refine A_aload_n (q := 35) cx dX4_addLink_34 rfl rfl rfl ?_
    refine A_aload_n (q := 36) cx dX4_addLink_35 rfl rfl rfl ?_
    refine A_iload_n (q := 37) cx dX4_addLink_36 rfl rfl ?_
    refine A_iconst (v := 0) (q := 38) cx dX4_addLink_37 (by decide) rfl ?_
    refine VI2 (q := 41) cx (ct_X6_number hE hX) (cwV 2 cx.1.2.2.2.2 gX4_addLink_X6_number rfl rfl rfl (by decide +kernel) ⟨Nat.le_of_ble_eq_true rfl, Nat.le_of_ble_eq_true rfl⟩) dX4_addLink_38 rfl rfl (in6 hX) rfl (Nat.le_of_ble_eq_true rfl) ⟨Nat.zero_le _, Nat.zero_le _⟩ rfl ?_
    refine A_aload_n (q := 42) cx dX4_addLink_41 rfl rfl rfl ?_
    refine A_iload_n (q := 43) cx dX4_addLink_42 rfl rfl ?_
    refine A_iconst (v := 1) (q := 44) cx dX4_addLink_43 (by decide) rfl ?_
    refine VI2 (q := 47) cx (ct_X6_number hE hX) (cwV 2 cx.1.2.2.2.2 gX4_addLink_X6_number rfl rfl rfl (by decide +kernel) ⟨Nat.le_of_ble_eq_true rfl, Nat.le_of_ble_eq_true rfl⟩) dX4_addLink_44 rfl rfl (in6 hX) rfl (Nat.le_of_ble_eq_true rfl) ⟨Nat.zero_le _, Nat.zero_le _⟩ rfl ?_
    refine VV2 (q := 50) cx (ct_X5_begin hE hX) (cwV 2 cx.1.2.2.2.2 gX4_addLink_X5_begin rfl rfl rfl (by decide +kernel) ⟨Nat.le_of_ble_eq_true rfl, Nat.le_of_ble_eq_true rfl⟩) dX4_addLink_47 rfl rfl (in5 hX (by omega)) rfl (Nat.le_of_ble_eq_true rfl) ⟨Nat.zero_le _, Nat.zero_le _⟩ rfl ?_
    refine A_aload (q := 52) cx dX4_addLink_50 rfl rfl rfl ?_
    refine A_aload_n (q := 53) cx dX4_addLink_52 rfl rfl rfl ?_
    refine A_iload_n (q := 54) cx dX4_addLink_53 rfl rfl ?_
    refine A_iconst (v := 2) (q := 55) cx dX4_addLink_54 (by decide) rfl ?_
    refine VI2 (q := 58) cx (ct_X6_number hE hX) (cwV 2 cx.1.2.2.2.2 gX4_addLink_X6_number rfl rfl rfl (by decide +kernel) ⟨Nat.le_of_ble_eq_true rfl, Nat.le_of_ble_eq_true rfl⟩) dX4_addLink_55 rfl rfl (in6 hX) rfl (Nat.le_of_ble_eq_true rfl) ⟨Nat.zero_le _, Nat.zero_le _⟩ rfl ?_
    refine A_aload_n (q := 59) cx dX4_addLink_58 rfl rfl rfl ?_
    refine A_iload_n (q := 60) cx dX4_addLink_59 rfl rfl ?_
    refine A_iconst (v := 3) (q := 61) cx dX4_addLink_60 (by decide) rfl ?_
    refine VI2 (q := 64) cx (ct_X6_number hE hX) (cwV 2 cx.1.2.2.2.2 gX4_addLink_X6_number rfl rfl rfl (by decide +kernel) ⟨Nat.le_of_ble_eq_true rfl, Nat.le_of_ble_eq_true rfl⟩) dX4_addLink_61 rfl rfl (in6 hX) rfl (Nat.le_of_ble_eq_true rfl) ⟨Nat.zero_le _, Nat.zero_le _⟩ rfl ?_
    refine VV2 (q := 67) cx (ct_X5_begin hE hX) (cwV 2 cx.1.2.2.2.2 gX4_addLink_X5_begin rfl rfl rfl (by decide +kernel) ⟨Nat.le_of_ble_eq_true rfl, Nat.le_of_ble_eq_true rfl⟩) dX4_addLink_64 rfl rfl (in5 hX (by omega)) rfl (Nat.le_of_ble_eq_true rfl) ⟨Nat.zero_le _, Nat.zero_le _⟩ rfl ?_
    refine A_aload_n (q := 68) cx dX4_addLink_67 rfl rfl rfl ?_
    refine A_dup (q := 69) cx dX4_addLink_68 rfl rfl ?_
    refine gX4_2 (q := 72) cx wi_X4_addLink_X4 wf_X4_addLink_26 dX4_addLink_69 rfl (in4 hX (by omega)) rfl ?_
    refine A_iconst (v := 1) (q := 73) cx dX4_addLink_72 (by decide) rfl ?_
    refine A_iadd (q := 74) cx dX4_addLink_73 rfl ?_
    refine pX4_2 (q := 77) cx wi_X4_addLink_X4 wf_X4_addLink_26 dX4_addLink_74 rfl (in4 hX (by omega)) rfl ?_
    exact A_vret cx hlk hr hQ dX4_addLink_77 (by unfold nAdd; rw [he]; rfl)
theorem wi_X4_layItem_X4 : ∀ w ∈ u_ws RX4 TX4 7, w ∈ wsX4_layItem := by decide +kernel
theorem wf_X4_layItem_30 : Cond.fieldLink RX4 30 (TX4 3).1 (TX4 3).2.1 (TX4 3).2.2.1 ∈ wsX4_layItem := by decide +kernel
theorem wf_X4_layItem_33 : Cond.fieldLink RX4 33 (TX4 4).1 (TX4 4).2.1 (TX4 4).2.2.1 ∈ wsX4_layItem := by decide +kernel
theorem wf_X4_layItem_36 : Cond.fieldLink RX4 36 (TX4 5).1 (TX4 5).2.1 (TX4 5).2.2.1 ∈ wsX4_layItem := by decide +kernel
theorem wf_X4_layItem_14 : Cond.fieldLink RX4 14 (TX4 0).1 (TX4 0).2.1 (TX4 0).2.2.1 ∈ wsX4_layItem := by decide +kernel
theorem wi_X4_layItem_X0 : ∀ w ∈ u_ws RX0 TX0 4, w ∈ wsX4_layItem := by decide +kernel
theorem wf_X4_layItem_72 : Cond.fieldLink RX4 72 (TX0 1).1 (TX0 1).2.1 (TX0 1).2.2.1 ∈ wsX4_layItem := by decide +kernel
theorem wf_X4_layItem_20 : Cond.fieldLink RX4 20 (TX4 1).1 (TX4 1).2.1 (TX4 1).2.2.1 ∈ wsX4_layItem := by decide +kernel
set_option maxHeartbeats 4000000 in
set_option maxRecDepth 100000 in
theorem ct_X4_layItem {la : Launch} {E : Ev} (hE : okE E) (hX : xin E) {σ : Sg} {n : Nat} (hn : n < 9 := by omega) {x : Int32} : CV la yX4_layItem wsX4_layItem 3 67 E rh0 [.ref (ad E (4, n, 0, 0)), .ref (ad E (6, 0, 0, 0)), .int x] σ (nItem σ n x) := by
  refine met_of (lv := [some _, some _, some _]) RX4 (by decide) rfl rfl rfl hE (ok3 rfl rfl rfl) (Nat.le_of_ble_eq_true rfl) (fun p ev s m args below meth c Q cx hlk hr hQ => ?_)
  refine A_aload_n (q := 1) cx dX4_layItem_0 rfl rfl rfl ?_
  refine A_iload_n (q := 2) cx dX4_layItem_1 rfl rfl ?_
  refine VI1 (q := 5) cx (ct_X6_letterAt hE hX) (cwV 1 cx.1.2.2.2.2 gX4_layItem_X6_letterAt rfl rfl rfl (by decide +kernel) ⟨Nat.le_of_ble_eq_true rfl, Nat.le_of_ble_eq_true rfl⟩) dX4_layItem_2 rfl rfl (in6 hX) rfl (Nat.le_of_ble_eq_true rfl) ⟨Nat.zero_le _, Nat.zero_le _⟩ rfl ?_
  by_cases s_5_108 : tLet σ x = 108
  · refine A_lookup (off := 35) (tgt := 40) cx dX4_layItem_5 (by decide) (by rw [s_5_108]; decide) (by decide) ?_
    refine A_aload_n (q := 41) cx dX4_layItem_40 rfl rfl rfl ?_
    refine A_aload_n (q := 42) cx dX4_layItem_41 rfl rfl rfl ?_
    refine A_iload_n (q := 43) cx dX4_layItem_42 rfl rfl ?_
    refine VV2 (q := 46) cx (ct_X4_addLink hE hX) (cwV 2 cx.1.2.2.2.2 gX4_layItem_X4_addLink rfl rfl rfl (by decide +kernel) ⟨Nat.le_of_ble_eq_true rfl, Nat.le_of_ble_eq_true rfl⟩) dX4_layItem_43 rfl rfl (in4 hX (by omega)) rfl (Nat.le_of_ble_eq_true rfl) ⟨Nat.zero_le _, Nat.zero_le _⟩ rfl ?_
    refine A_goto (q := 111) cx dX4_layItem_46 (by decide) ?_
    exact A_vret cx hlk hr hQ dX4_layItem_111 (by simp only [nItem, *]; rfl)
  by_cases s_5_109 : tLet σ x = 109
  · refine A_lookup (off := 73) (tgt := 78) cx dX4_layItem_5 (by decide) (by rw [s_5_109]; decide) (by decide) ?_
    refine A_aload_n (q := 79) cx dX4_layItem_78 rfl rfl rfl ?_
    refine A_aload_n (q := 80) cx dX4_layItem_79 rfl rfl rfl ?_
    refine A_iload_n (q := 81) cx dX4_layItem_80 rfl rfl ?_
    refine A_iconst (v := 0) (q := 82) cx dX4_layItem_81 (by decide) rfl ?_
    refine VI2 (q := 85) cx (ct_X6_number hE hX) (cwV 2 cx.1.2.2.2.2 gX4_layItem_X6_number rfl rfl rfl (by decide +kernel) ⟨Nat.le_of_ble_eq_true rfl, Nat.le_of_ble_eq_true rfl⟩) dX4_layItem_82 rfl rfl (in6 hX) rfl (Nat.le_of_ble_eq_true rfl) ⟨Nat.zero_le _, Nat.zero_le _⟩ rfl ?_
    refine pX4_3 (q := 88) cx wi_X4_layItem_X4 wf_X4_layItem_30 dX4_layItem_85 rfl (in4 hX (by omega)) rfl ?_
    refine A_aload_n (q := 89) cx dX4_layItem_88 rfl rfl rfl ?_
    refine A_aload_n (q := 90) cx dX4_layItem_89 rfl rfl rfl ?_
    refine A_iload_n (q := 91) cx dX4_layItem_90 rfl rfl ?_
    refine A_iconst (v := 1) (q := 92) cx dX4_layItem_91 (by decide) rfl ?_
    refine VI2 (q := 95) cx (ct_X6_number hE hX) (cwV 2 cx.1.2.2.2.2 gX4_layItem_X6_number rfl rfl rfl (by decide +kernel) ⟨Nat.le_of_ble_eq_true rfl, Nat.le_of_ble_eq_true rfl⟩) dX4_layItem_92 rfl rfl (in6 hX) rfl (Nat.le_of_ble_eq_true rfl) ⟨Nat.zero_le _, Nat.zero_le _⟩ rfl ?_
    refine pX4_4 (q := 98) cx wi_X4_layItem_X4 wf_X4_layItem_33 dX4_layItem_95 rfl (in4 hX (by omega)) rfl ?_
    refine A_aload_n (q := 99) cx dX4_layItem_98 rfl rfl rfl ?_
    refine A_aload_n (q := 100) cx dX4_layItem_99 rfl rfl rfl ?_
    refine A_iload_n (q := 101) cx dX4_layItem_100 rfl rfl ?_
    refine A_iconst (v := 2) (q := 102) cx dX4_layItem_101 (by decide) rfl ?_
    refine VI2 (q := 105) cx (ct_X6_number hE hX) (cwV 2 cx.1.2.2.2.2 gX4_layItem_X6_number rfl rfl rfl (by decide +kernel) ⟨Nat.le_of_ble_eq_true rfl, Nat.le_of_ble_eq_true rfl⟩) dX4_layItem_102 rfl rfl (in6 hX) rfl (Nat.le_of_ble_eq_true rfl) ⟨Nat.zero_le _, Nat.zero_le _⟩ rfl ?_
    refine pX4_5 (q := 108) cx wi_X4_layItem_X4 wf_X4_layItem_36 dX4_layItem_105 rfl (in4 hX (by omega)) rfl ?_
    refine A_goto (q := 111) cx dX4_layItem_108 (by decide) ?_
    exact A_vret cx hlk hr hQ dX4_layItem_111 (by simp only [nItem, *]; rfl)
  by_cases s_5_120 : tLet σ x = 120
  · refine A_lookup (off := 44) (tgt := 49) cx dX4_layItem_5 (by decide) (by rw [s_5_120]; decide) (by decide) ?_
    refine A_aload_n (q := 50) cx dX4_layItem_49 rfl rfl rfl ?_
    refine gX4_0 (q := 53) cx wi_X4_layItem_X4 wf_X4_layItem_14 dX4_layItem_50 rfl (in4 hX (by omega)) rfl rfl ?_
    refine A_aload_n (q := 54) cx dX4_layItem_53 rfl rfl rfl ?_
    refine A_iload_n (q := 55) cx dX4_layItem_54 rfl rfl ?_
    refine A_iconst (v := 0) (q := 56) cx dX4_layItem_55 (by decide) rfl ?_
    refine VI2 (q := 59) cx (ct_X6_number hE hX) (cwV 2 cx.1.2.2.2.2 gX4_layItem_X6_number rfl rfl rfl (by decide +kernel) ⟨Nat.le_of_ble_eq_true rfl, Nat.le_of_ble_eq_true rfl⟩) dX4_layItem_56 rfl rfl (in6 hX) rfl (Nat.le_of_ble_eq_true rfl) ⟨Nat.zero_le _, Nat.zero_le _⟩ rfl ?_
    refine pX0_1 (q := 62) cx wi_X4_layItem_X0 wf_X4_layItem_72 dX4_layItem_59 rfl (in0 hX (by omega)) rfl ?_
    refine A_aload_n (q := 63) cx dX4_layItem_62 rfl rfl rfl ?_
    refine gX4_1 (q := 66) cx wi_X4_layItem_X4 wf_X4_layItem_20 dX4_layItem_63 rfl (in4 hX (by omega)) rfl rfl ?_
    refine A_aload_n (q := 67) cx dX4_layItem_66 rfl rfl rfl ?_
    refine A_iload_n (q := 68) cx dX4_layItem_67 rfl rfl ?_
    refine A_iconst (v := 1) (q := 69) cx dX4_layItem_68 (by decide) rfl ?_
    refine VI2 (q := 72) cx (ct_X6_number hE hX) (cwV 2 cx.1.2.2.2.2 gX4_layItem_X6_number rfl rfl rfl (by decide +kernel) ⟨Nat.le_of_ble_eq_true rfl, Nat.le_of_ble_eq_true rfl⟩) dX4_layItem_69 rfl rfl (in6 hX) rfl (Nat.le_of_ble_eq_true rfl) ⟨Nat.zero_le _, Nat.zero_le _⟩ rfl ?_
    refine pX0_1 (q := 75) cx wi_X4_layItem_X0 wf_X4_layItem_72 dX4_layItem_72 rfl (in0 hX (by omega)) rfl ?_
    refine A_goto (q := 111) cx dX4_layItem_75 (by decide) ?_
    exact A_vret cx hlk hr hQ dX4_layItem_111 (by simp only [nItem, *]; rfl)
  refine A_lookup (off := 106) (tgt := 111) cx dX4_layItem_5 (by decide) (by show Op.lookupswitch.offset [(108, 35), (109, 73), (120, 44)] 106 _ = 106; rw [lv_osw s_5_108 (a := 108) rfl, lv_osw s_5_109 (a := 109) rfl, lv_osw s_5_120 (a := 120) rfl]; rfl) (by decide) ?_
  exact A_vret cx hlk hr hQ dX4_layItem_111 (by simp only [nItem, *]; rfl)
theorem wi_X4_layOut_X6 : ∀ w ∈ u_ws RX6 TX6 2, w ∈ wsX4_layOut := by decide +kernel
theorem wf_X4_layOut_91 : Cond.fieldLink RX4 91 (TX6 1).1 (TX6 1).2.1 (TX6 1).2.2.1 ∈ wsX4_layOut := by decide +kernel
set_option maxHeartbeats 4000000 in
set_option maxRecDepth 100000 in
theorem ct_X4_layOut {la : Launch} {E : Ev} (hE : okE E) (hX : xin E) {σ0 : Sg} {n : Nat} (hn : n < 9 := by omega) : CV la yX4_layOut wsX4_layOut 4 89 E rh0 [.ref (ad E (4, n, 0, 0)), .ref (ad E (6, 0, 0, 0))] σ0 (nLay σ0 n) := by
  refine met_of (lv := [some _, some _, none, none]) RX4 (by decide) rfl rfl rfl hE (ok2 rfl rfl) (Nat.le_of_ble_eq_true rfl) (fun p ev s m args below meth c Q cx hlk hr hQ => ?_)
  have l1 : ∀ (d i : Nat) (σ : Sg) (pl : Int32), i + d = 200 → nLayR n d pl σ = nLay σ0 n → AW p la ev (rmm 4 89) s m args below meth c 0 0 Q (AL E) E rh0 8 [some (.ref (ad E (4, n, 0, 0))), some (.ref (ad E (6, 0, 0, 0))), some (.int pl), some (.int (nI i))] [] σ := by
    intro d
    induction d with
    | zero =>
      intro i σ pl hi hF
      obtain rfl : i = 200 := by omega
      refine A_iload_n (q := 9) cx dX4_layOut_8 rfl rfl ?_
      refine A_sipush (v := 200) (q := 12) cx dX4_layOut_9 (by decide) rfl ?_
      refine A_icmp_ge (tgt := 43) (q := 15) cx dX4_layOut_12 (by decide) rfl (fun c_12 => ?_) (fun c_12 => ?_)
      · exact A_vret cx hlk hr hQ dX4_layOut_43 (by first | exact hF | rw [← hF, nLayR, if_pos c_20])
      · exact absurd (by decide) c_12
    | succ d ih =>
      intro i σ pl hi hF
      refine A_iload_n (q := 9) cx dX4_layOut_8 rfl rfl ?_
      refine A_sipush (v := 200) (q := 12) cx dX4_layOut_9 (by decide) rfl ?_
      refine A_icmp_ge (tgt := 43) (q := 15) cx dX4_layOut_12 (by decide) rfl (fun c_12 => ?_) (fun c_12 => ?_)
      · exact absurd c_12 (not_ge (i := i) (b := 200) (by omega) (by decide))
      · refine A_iload_n (q := 16) cx dX4_layOut_15 rfl rfl ?_
        refine A_aload_n (q := 17) cx dX4_layOut_16 rfl rfl rfl ?_
        refine gX6_1 (q := 20) cx wi_X4_layOut_X6 wf_X4_layOut_91 dX4_layOut_17 rfl (in6 hX) rfl ?_
        refine A_icmp_ge (tgt := 43) (q := 23) cx dX4_layOut_20 (by decide) rfl (fun c_20 => ?_) (fun c_20 => ?_)
        · exact A_vret cx hlk hr hQ dX4_layOut_43 (by first | exact hF | rw [← hF, nLayR, if_pos c_20])
        · refine A_aload_n (q := 24) cx dX4_layOut_23 rfl rfl rfl ?_
          refine A_aload_n (q := 25) cx dX4_layOut_24 rfl rfl rfl ?_
          refine A_iload_n (q := 26) cx dX4_layOut_25 rfl rfl ?_
          refine VV2 (q := 29) cx (ct_X4_layItem hE hX) (cwV 2 cx.1.2.2.2.2 gX4_layOut_X4_layItem rfl rfl rfl (by decide +kernel) ⟨Nat.le_of_ble_eq_true rfl, Nat.le_of_ble_eq_true rfl⟩) dX4_layOut_26 rfl rfl (in4 hX (by omega)) rfl (Nat.le_of_ble_eq_true rfl) ⟨Nat.zero_le _, Nat.zero_le _⟩ rfl ?_
          refine A_iload_n (q := 30) cx dX4_layOut_29 rfl rfl ?_
          refine A_aload_n (q := 31) cx dX4_layOut_30 rfl rfl rfl ?_
          refine A_iload_n (q := 32) cx dX4_layOut_31 rfl rfl ?_
          refine VI1 (q := 35) cx (ct_X6_lengthOfItem hE hX) (cwV 1 cx.1.2.2.2.2 gX4_layOut_X6_lengthOfItem rfl rfl rfl (by decide +kernel) ⟨Nat.le_of_ble_eq_true rfl, Nat.le_of_ble_eq_true rfl⟩) dX4_layOut_32 rfl rfl (in6 hX) rfl (Nat.le_of_ble_eq_true rfl) ⟨Nat.zero_le _, Nat.zero_le _⟩ rfl ?_
          refine A_iadd (q := 36) cx dX4_layOut_35 rfl ?_
          refine A_istore_n (lv' := [some _, some _, some _, some _]) (q := 37) cx dX4_layOut_36 (Nat.le_of_ble_eq_true rfl) rfl rfl ?_
          refine A_iinc (lv' := [some _, some _, some _, some _]) (q := 40) cx dX4_layOut_37 rfl (nI_1 i) rfl rfl ?_
          refine A_goto (q := 8) cx dX4_layOut_40 (by decide) ?_
          exact ih (i + 1) _ _ (by omega) (by rw [← hF, nLayR, if_neg c_20])
  refine A_aload_n (q := 1) cx dX4_layOut_0 rfl rfl rfl ?_
  refine VV0 (q := 4) cx (ct_X4_clear hE hX) (cwV 0 cx.1.2.2.2.2 gX4_layOut_X4_clear rfl rfl rfl (by decide +kernel) ⟨Nat.le_of_ble_eq_true rfl, Nat.le_of_ble_eq_true rfl⟩) dX4_layOut_1 rfl rfl (in4 hX (by omega)) rfl (Nat.le_of_ble_eq_true rfl) ⟨Nat.zero_le _, Nat.zero_le _⟩ rfl ?_
  refine A_iconst (v := 0) (q := 5) cx dX4_layOut_4 (by decide) rfl ?_
  refine A_istore_n (lv' := [some _, some _, some _, none]) (q := 6) cx dX4_layOut_5 (Nat.le_of_ble_eq_true rfl) rfl rfl ?_
  refine A_iconst (v := 0) (q := 7) cx dX4_layOut_6 (by decide) rfl ?_
  refine A_istore_n (lv' := [some _, some _, some _, some _]) (q := 8) cx dX4_layOut_7 (Nat.le_of_ble_eq_true rfl) rfl rfl ?_
  exact l1 200 0 _ _ rfl rfl
theorem wi_X2_clear_X2 : ∀ w ∈ u_ws RX2 TX2 3, w ∈ wsX2_clear := by decide +kernel
theorem wf_X2_clear_18 : Cond.fieldLink RX2 18 (TX2 1).1 (TX2 1).2.1 (TX2 1).2.2.1 ∈ wsX2_clear := by decide +kernel
theorem wf_X2_clear_22 : Cond.fieldLink RX2 22 (TX2 2).1 (TX2 2).2.1 (TX2 2).2.2.1 ∈ wsX2_clear := by decide +kernel
set_option maxHeartbeats 4000000 in
set_option maxRecDepth 100000 in
theorem ct_X2_clear {la : Launch} {E : Ev} (hE : okE E) (hX : xin E) {σ : Sg}  : CV la yX2_clear wsX2_clear 0 0 E rh0 [.ref (ad E (2, 0, 0, 0))] σ (up2 (up2 σ (2, 0, 0, 0) 1 0) (2, 0, 0, 0) 2 0) := by
  refine met_of (lv := [some _]) RX2 (by decide) rfl rfl rfl hE (ok1 rfl) (Nat.le_of_ble_eq_true rfl) (fun p ev s m args below meth c Q cx hlk hr hQ => ?_)
  refine A_aload_n (q := 1) cx dX2_clear_0 rfl rfl rfl ?_
  refine A_iconst (v := 0) (q := 2) cx dX2_clear_1 (by decide) rfl ?_
  refine pX2_1 (q := 5) cx wi_X2_clear_X2 wf_X2_clear_18 dX2_clear_2 rfl (in2 hX) rfl ?_
  refine A_aload_n (q := 6) cx dX2_clear_5 rfl rfl rfl ?_
  refine A_iconst (v := 0) (q := 7) cx dX2_clear_6 (by decide) rfl ?_
  refine pX2_2 (q := 10) cx wi_X2_clear_X2 wf_X2_clear_22 dX2_clear_7 rfl (in2 hX) rfl ?_
  exact A_vret cx hlk hr hQ dX2_clear_10 rfl
theorem wm1_X2_keep : Cond.methodLink RX2 29 Lib.Math.min.name ∈ wsX2_keep := by decide +kernel
theorem wm2_X2_keep : Cond.static Lib.Math.min.name ∈ wsX2_keep := by decide +kernel
theorem wm3_X2_keep : Cond.initialized "java/lang/Math" ∈ wsX2_keep := by decide +kernel
theorem wi_X2_keep_X2 : ∀ w ∈ u_ws RX2 TX2 3, w ∈ wsX2_keep := by decide +kernel
theorem wf_X2_keep_18 : Cond.fieldLink RX2 18 (TX2 1).1 (TX2 1).2.1 (TX2 1).2.2.1 ∈ wsX2_keep := by decide +kernel
theorem wf_X2_keep_11 : Cond.fieldLink RX2 11 (TX2 0).1 (TX2 0).2.1 (TX2 0).2.2.1 ∈ wsX2_keep := by decide +kernel
theorem wf_X2_keep_22 : Cond.fieldLink RX2 22 (TX2 2).1 (TX2 2).2.1 (TX2 2).2.2.1 ∈ wsX2_keep := by decide +kernel
set_option maxHeartbeats 4000000 in
set_option maxRecDepth 100000 in
theorem ct_X2_keep {la : Launch} {E : Ev} (hE : okE E) (hX : xin E) {σ : Sg} {n : Nat} (hn : n < 9 := by omega) : CV la yX2_keep wsX2_keep 4 85 E rh0 [.ref (ad E (2, 0, 0, 0)), .ref (ad E (4, n, 0, 0))] σ (hKeep σ n) := by
  refine met_of (lv := [some _, some _]) RX2 (by decide) rfl rfl rfl hE (ok2 rfl rfl) (Nat.le_of_ble_eq_true rfl) (fun p ev s m args below meth c Q cx hlk hr hQ => ?_)
  refine A_aload_n (q := 1) cx dX2_keep_0 rfl rfl rfl ?_
  refine gX2_1 (q := 4) cx wi_X2_keep_X2 wf_X2_keep_18 dX2_keep_1 rfl (in2 hX) rfl ?_
  refine A_if_lt (tgt := 19) (q := 7) cx dX2_keep_4 (by decide) rfl (fun c_4 => ?_) (fun c_4 => ?_)
  · exact A_vret cx hlk hr hQ dX2_keep_19 (by have he : eAt 6 (σ (2, 0, 0, 0) 1) = none := eAt_no (by first | exact Or.inl c_4 | exact Or.inr c_16); unfold hKeep; rw [he])
  · refine A_aload_n (q := 8) cx dX2_keep_7 rfl rfl rfl ?_
    refine gX2_1 (q := 11) cx wi_X2_keep_X2 wf_X2_keep_18 dX2_keep_8 rfl (in2 hX) rfl ?_
    refine A_aload_n (q := 12) cx dX2_keep_11 rfl rfl rfl ?_
    refine gX2_0 (q := 15) cx wi_X2_keep_X2 wf_X2_keep_11 dX2_keep_12 rfl (in2 hX) rfl rfl ?_
    refine A_alen12 (v := 6) (q := 16) cx dX2_keep_15 rfl (in12 hX) rfl rfl ?_
    refine A_icmp_lt (tgt := 20) (q := 19) cx dX2_keep_16 (by decide) rfl (fun c_16 => ?_) (fun c_16 => ?_)
    · obtain ⟨j, hj, hx, hcl⟩ := ix_lt (L := 6) c_4 c_16 (by decide)
      refine A_aload_n (q := 21) cx dX2_keep_20 rfl rfl rfl ?_
      refine gX2_0 (q := 24) cx wi_X2_keep_X2 wf_X2_keep_11 dX2_keep_21 rfl (in2 hX) rfl rfl ?_
      refine A_aload_n (q := 25) cx dX2_keep_24 rfl rfl rfl ?_
      refine gX2_1 (q := 28) cx wi_X2_keep_X2 wf_X2_keep_18 dX2_keep_25 rfl (in2 hX) rfl ?_
      refine A_aaload12 (q := 29) cx dX2_keep_28 rfl (in12 hX) hx (by show _ < 6; omega) rfl rfl ?_
      refine A_aload_n (q := 30) cx dX2_keep_29 rfl rfl rfl ?_
      refine VV1 (q := 33) cx (ct_X4_copyFrom hE hX) (cwV 1 cx.1.2.2.2.2 gX2_keep_X4_copyFrom rfl rfl rfl (by decide +kernel) ⟨Nat.le_of_ble_eq_true rfl, Nat.le_of_ble_eq_true rfl⟩) dX2_keep_30 rfl rfl (in4 hX (by omega)) rfl (Nat.le_of_ble_eq_true rfl) ⟨Nat.zero_le _, Nat.zero_le _⟩ rfl ?_
      refine A_aload_n (q := 34) cx dX2_keep_33 rfl rfl rfl ?_
      refine A_aload_n (q := 35) cx dX2_keep_34 rfl rfl rfl ?_
      refine gX2_1 (q := 38) cx wi_X2_keep_X2 wf_X2_keep_18 dX2_keep_35 rfl (in2 hX) rfl ?_
      refine A_iconst (v := 1) (q := 39) cx dX2_keep_38 (by decide) rfl ?_
      refine A_iadd (q := 40) cx dX2_keep_39 rfl ?_
      refine A_aload_n (q := 41) cx dX2_keep_40 rfl rfl rfl ?_
      refine gX2_0 (q := 44) cx wi_X2_keep_X2 wf_X2_keep_11 dX2_keep_41 rfl (in2 hX) rfl rfl ?_
      refine A_alen12 (v := 6) (q := 45) cx dX2_keep_44 rfl (in12 hX) rfl rfl ?_
      refine A_icmp_ge (tgt := 57) (q := 48) cx dX2_keep_45 (by decide) rfl (fun c_45 => ?_) (fun c_45 => ?_)
      · refine A_iconst (v := 0) (q := 58) cx dX2_keep_57 (by decide) rfl ?_
        refine pX2_1 (q := 61) cx wi_X2_keep_X2 wf_X2_keep_18 dX2_keep_58 rfl (in2 hX) rfl ?_
        refine A_aload_n (q := 62) cx dX2_keep_61 rfl rfl rfl ?_
        refine A_aload_n (q := 63) cx dX2_keep_62 rfl rfl rfl ?_
        refine gX2_2 (q := 66) cx wi_X2_keep_X2 wf_X2_keep_22 dX2_keep_63 rfl (in2 hX) rfl ?_
        refine A_iconst (v := 1) (q := 67) cx dX2_keep_66 (by decide) rfl ?_
        refine A_iadd (q := 68) cx dX2_keep_67 rfl ?_
        refine A_aload_n (q := 69) cx dX2_keep_68 rfl rfl rfl ?_
        refine gX2_0 (q := 72) cx wi_X2_keep_X2 wf_X2_keep_11 dX2_keep_69 rfl (in2 hX) rfl rfl ?_
        refine A_alen12 (v := 6) (q := 73) cx dX2_keep_72 rfl (in12 hX) rfl rfl ?_
        refine A_mmin (q := 76) cx wm1_X2_keep wm2_X2_keep wm3_X2_keep (List.mem_of_getElem? (i := 7) rfl) dX2_keep_73 rfl ⟨Nat.le_of_ble_eq_true rfl, Nat.le_of_ble_eq_true rfl⟩ ⟨Nat.zero_le _, Nat.zero_le _⟩ rfl ?_
        refine pX2_2 (q := 79) cx wi_X2_keep_X2 wf_X2_keep_22 dX2_keep_76 rfl (in2 hX) rfl ?_
        exact A_vret cx hlk hr hQ dX2_keep_79 (by have he : eAt 6 (σ (2, 0, 0, 0) 1) = some j := eAt_of c_4 c_16 hcl; unfold hKeep; rw [he]; show _ = hMin (hNext _); unfold hMin hNext; first | rw [if_pos c_45] | rw [if_neg c_45])
      · refine A_aload_n (q := 49) cx dX2_keep_48 rfl rfl rfl ?_
        refine gX2_1 (q := 52) cx wi_X2_keep_X2 wf_X2_keep_18 dX2_keep_49 rfl (in2 hX) rfl ?_
        refine A_iconst (v := 1) (q := 53) cx dX2_keep_52 (by decide) rfl ?_
        refine A_iadd (q := 54) cx dX2_keep_53 rfl ?_
        refine A_goto (q := 58) cx dX2_keep_54 (by decide) ?_
        refine pX2_1 (q := 61) cx wi_X2_keep_X2 wf_X2_keep_18 dX2_keep_58 rfl (in2 hX) rfl ?_
        refine A_aload_n (q := 62) cx dX2_keep_61 rfl rfl rfl ?_
        refine A_aload_n (q := 63) cx dX2_keep_62 rfl rfl rfl ?_
        refine gX2_2 (q := 66) cx wi_X2_keep_X2 wf_X2_keep_22 dX2_keep_63 rfl (in2 hX) rfl ?_
        refine A_iconst (v := 1) (q := 67) cx dX2_keep_66 (by decide) rfl ?_
        refine A_iadd (q := 68) cx dX2_keep_67 rfl ?_
        refine A_aload_n (q := 69) cx dX2_keep_68 rfl rfl rfl ?_
        refine gX2_0 (q := 72) cx wi_X2_keep_X2 wf_X2_keep_11 dX2_keep_69 rfl (in2 hX) rfl rfl ?_
        refine A_alen12 (v := 6) (q := 73) cx dX2_keep_72 rfl (in12 hX) rfl rfl ?_
        refine A_mmin (q := 76) cx wm1_X2_keep wm2_X2_keep wm3_X2_keep (List.mem_of_getElem? (i := 7) rfl) dX2_keep_73 rfl ⟨Nat.le_of_ble_eq_true rfl, Nat.le_of_ble_eq_true rfl⟩ ⟨Nat.zero_le _, Nat.zero_le _⟩ rfl ?_
        refine pX2_2 (q := 79) cx wi_X2_keep_X2 wf_X2_keep_22 dX2_keep_76 rfl (in2 hX) rfl ?_
        exact A_vret cx hlk hr hQ dX2_keep_79 (by have he : eAt 6 (σ (2, 0, 0, 0) 1) = some j := eAt_of c_4 c_16 hcl; unfold hKeep; rw [he]; show _ = hMin (hNext _); unfold hMin hNext; first | rw [if_pos c_45] | rw [if_neg c_45])
    · exact A_vret cx hlk hr hQ dX2_keep_19 (by have he : eAt 6 (σ (2, 0, 0, 0) 1) = none := eAt_no (by first | exact Or.inl c_4 | exact Or.inr c_16); unfold hKeep; rw [he])
theorem wi_X2_takeLatest_X2 : ∀ w ∈ u_ws RX2 TX2 3, w ∈ wsX2_takeLatest := by decide +kernel
theorem wf_X2_takeLatest_18 : Cond.fieldLink RX2 18 (TX2 1).1 (TX2 1).2.1 (TX2 1).2.2.1 ∈ wsX2_takeLatest := by decide +kernel
theorem wf_X2_takeLatest_11 : Cond.fieldLink RX2 11 (TX2 0).1 (TX2 0).2.1 (TX2 0).2.2.1 ∈ wsX2_takeLatest := by decide +kernel
theorem wf_X2_takeLatest_22 : Cond.fieldLink RX2 22 (TX2 2).1 (TX2 2).2.1 (TX2 2).2.2.1 ∈ wsX2_takeLatest := by decide +kernel
set_option maxHeartbeats 4000000 in
set_option maxRecDepth 100000 in
theorem ct_X2_takeLatest {la : Launch} {E : Ev} (hE : okE E) (hX : xin E) {σ : Sg}  : CQ la yX2_takeLatest wsX2_takeLatest 0 0 E rh0 [.ref (ad E (2, 0, 0, 0))] σ ((hTakeR σ).map (fun j => (4, j + 1, 0, 0))) (hTake σ) := by
  refine met_of (lv := [some _, none]) RX2 (by decide) rfl rfl rfl hE (ok1 rfl) (Nat.le_of_ble_eq_true rfl) (fun p ev s m args below meth c Q cx hlk hr hQ => ?_)
  refine A_aload_n (q := 1) cx dX2_takeLatest_0 rfl rfl rfl ?_
  refine gX2_1 (q := 4) cx wi_X2_takeLatest_X2 wf_X2_takeLatest_18 dX2_takeLatest_1 rfl (in2 hX) rfl ?_
  refine A_if_le (tgt := 16) (q := 7) cx dX2_takeLatest_4 (by decide) rfl (fun c_4 => ?_) (fun c_4 => ?_)
  · refine A_aload_n (q := 17) cx dX2_takeLatest_16 rfl rfl rfl ?_
    refine gX2_0 (q := 20) cx wi_X2_takeLatest_X2 wf_X2_takeLatest_11 dX2_takeLatest_17 rfl (in2 hX) rfl rfl ?_
    refine A_alen12 (v := 6) (q := 21) cx dX2_takeLatest_20 rfl (in12 hX) rfl rfl ?_
    refine A_iconst (v := 1) (q := 22) cx dX2_takeLatest_21 (by decide) rfl ?_
    refine A_isub (q := 23) cx dX2_takeLatest_22 rfl ?_
    refine A_istore_n (lv' := [some _, some _]) (q := 24) cx dX2_takeLatest_23 (Nat.le_of_ble_eq_true rfl) rfl rfl ?_
    refine A_aload_n (q := 25) cx dX2_takeLatest_24 rfl rfl rfl ?_
    refine gX2_2 (q := 28) cx wi_X2_takeLatest_X2 wf_X2_takeLatest_22 dX2_takeLatest_25 rfl (in2 hX) rfl ?_
    refine A_if_eq (tgt := 44) (q := 31) cx dX2_takeLatest_28 (by decide) rfl (fun c_28 => ?_) (fun c_28 => ?_)
    · refine A_null (q := 45) cx dX2_takeLatest_44 rfl ?_
      exact A_aret cx hlk hr hQ dX2_takeLatest_45 (by have hz : hTakeR σ = none := (by unfold hTakeR hLast; first | (rw [if_pos c_28]; done) | (rw [if_neg c_28, if_pos c_4]; exact eAt_no (by first | exact Or.inl c_32 | exact Or.inr c_41)) | (rw [if_neg c_28, if_neg c_4]; exact eAt_no (by first | exact Or.inl c_32 | exact Or.inr c_41))); rw [hz]; rfl) (by have hz : hTakeR σ = none := (by unfold hTakeR hLast; first | (rw [if_pos c_28]; done) | (rw [if_neg c_28, if_pos c_4]; exact eAt_no (by first | exact Or.inl c_32 | exact Or.inr c_41)) | (rw [if_neg c_28, if_neg c_4]; exact eAt_no (by first | exact Or.inl c_32 | exact Or.inr c_41))); unfold hTake; rw [hz])
    · refine A_iload_n (q := 32) cx dX2_takeLatest_31 rfl rfl ?_
      refine A_if_lt (tgt := 44) (q := 35) cx dX2_takeLatest_32 (by decide) rfl (fun c_32 => ?_) (fun c_32 => ?_)
      · refine A_null (q := 45) cx dX2_takeLatest_44 rfl ?_
        exact A_aret cx hlk hr hQ dX2_takeLatest_45 (by have hz : hTakeR σ = none := (by unfold hTakeR hLast; first | (rw [if_pos c_28]; done) | (rw [if_neg c_28, if_pos c_4]; exact eAt_no (by first | exact Or.inl c_32 | exact Or.inr c_41)) | (rw [if_neg c_28, if_neg c_4]; exact eAt_no (by first | exact Or.inl c_32 | exact Or.inr c_41))); rw [hz]; rfl) (by have hz : hTakeR σ = none := (by unfold hTakeR hLast; first | (rw [if_pos c_28]; done) | (rw [if_neg c_28, if_pos c_4]; exact eAt_no (by first | exact Or.inl c_32 | exact Or.inr c_41)) | (rw [if_neg c_28, if_neg c_4]; exact eAt_no (by first | exact Or.inl c_32 | exact Or.inr c_41))); unfold hTake; rw [hz])
      · refine A_iload_n (q := 36) cx dX2_takeLatest_35 rfl rfl ?_
        refine A_aload_n (q := 37) cx dX2_takeLatest_36 rfl rfl rfl ?_
        refine gX2_0 (q := 40) cx wi_X2_takeLatest_X2 wf_X2_takeLatest_11 dX2_takeLatest_37 rfl (in2 hX) rfl rfl ?_
        refine A_alen12 (v := 6) (q := 41) cx dX2_takeLatest_40 rfl (in12 hX) rfl rfl ?_
        refine A_icmp_lt (tgt := 46) (q := 44) cx dX2_takeLatest_41 (by decide) rfl (fun c_41 => ?_) (fun c_41 => ?_)
        · obtain ⟨j, hj, hx, hcl⟩ := ix_lt (L := 6) c_32 c_41 (by decide)
          refine A_aload_n (q := 47) cx dX2_takeLatest_46 rfl rfl rfl ?_
          refine A_iload_n (q := 48) cx dX2_takeLatest_47 rfl rfl ?_
          refine pX2_1 (q := 51) cx wi_X2_takeLatest_X2 wf_X2_takeLatest_18 dX2_takeLatest_48 rfl (in2 hX) rfl ?_
          refine A_aload_n (q := 52) cx dX2_takeLatest_51 rfl rfl rfl ?_
          refine A_dup (q := 53) cx dX2_takeLatest_52 rfl rfl ?_
          refine gX2_2 (q := 56) cx wi_X2_takeLatest_X2 wf_X2_takeLatest_22 dX2_takeLatest_53 rfl (in2 hX) rfl ?_
          refine A_iconst (v := 1) (q := 57) cx dX2_takeLatest_56 (by decide) rfl ?_
          refine A_isub (q := 58) cx dX2_takeLatest_57 rfl ?_
          refine pX2_2 (q := 61) cx wi_X2_takeLatest_X2 wf_X2_takeLatest_22 dX2_takeLatest_58 rfl (in2 hX) rfl ?_
          refine A_aload_n (q := 62) cx dX2_takeLatest_61 rfl rfl rfl ?_
          refine gX2_0 (q := 65) cx wi_X2_takeLatest_X2 wf_X2_takeLatest_11 dX2_takeLatest_62 rfl (in2 hX) rfl rfl ?_
          refine A_iload_n (q := 66) cx dX2_takeLatest_65 rfl rfl ?_
          refine A_aaload12 (q := 67) cx dX2_takeLatest_66 rfl (in12 hX) hx (by show _ < 6; omega) rfl rfl ?_
          exact A_aret cx hlk hr hQ dX2_takeLatest_67 (by have he : eAt 6 _ = some j := eAt_of c_32 c_41 hcl; unfold hTakeR hLast; rw [if_neg c_28]; first | (rw [if_pos c_4, he]; rfl) | (rw [if_neg c_4, he]; rfl)) (by have he : eAt 6 _ = some j := eAt_of c_32 c_41 hcl; unfold hTake hTakeR hLast; rw [if_neg c_28]; first | (rw [if_pos c_4, he]) | (rw [if_neg c_4, he]))
        · refine A_null (q := 45) cx dX2_takeLatest_44 rfl ?_
          exact A_aret cx hlk hr hQ dX2_takeLatest_45 (by have hz : hTakeR σ = none := (by unfold hTakeR hLast; first | (rw [if_pos c_28]; done) | (rw [if_neg c_28, if_pos c_4]; exact eAt_no (by first | exact Or.inl c_32 | exact Or.inr c_41)) | (rw [if_neg c_28, if_neg c_4]; exact eAt_no (by first | exact Or.inl c_32 | exact Or.inr c_41))); rw [hz]; rfl) (by have hz : hTakeR σ = none := (by unfold hTakeR hLast; first | (rw [if_pos c_28]; done) | (rw [if_neg c_28, if_pos c_4]; exact eAt_no (by first | exact Or.inl c_32 | exact Or.inr c_41)) | (rw [if_neg c_28, if_neg c_4]; exact eAt_no (by first | exact Or.inl c_32 | exact Or.inr c_41))); unfold hTake; rw [hz])
  · refine A_aload_n (q := 8) cx dX2_takeLatest_7 rfl rfl rfl ?_
    refine gX2_1 (q := 11) cx wi_X2_takeLatest_X2 wf_X2_takeLatest_18 dX2_takeLatest_8 rfl (in2 hX) rfl ?_
    refine A_iconst (v := 1) (q := 12) cx dX2_takeLatest_11 (by decide) rfl ?_
    refine A_isub (q := 13) cx dX2_takeLatest_12 rfl ?_
    refine A_goto (q := 23) cx dX2_takeLatest_13 (by decide) ?_
    refine A_istore_n (lv' := [some _, some _]) (q := 24) cx dX2_takeLatest_23 (Nat.le_of_ble_eq_true rfl) rfl rfl ?_
    refine A_aload_n (q := 25) cx dX2_takeLatest_24 rfl rfl rfl ?_
    refine gX2_2 (q := 28) cx wi_X2_takeLatest_X2 wf_X2_takeLatest_22 dX2_takeLatest_25 rfl (in2 hX) rfl ?_
    refine A_if_eq (tgt := 44) (q := 31) cx dX2_takeLatest_28 (by decide) rfl (fun c_28 => ?_) (fun c_28 => ?_)
    · refine A_null (q := 45) cx dX2_takeLatest_44 rfl ?_
      exact A_aret cx hlk hr hQ dX2_takeLatest_45 (by have hz : hTakeR σ = none := (by unfold hTakeR hLast; first | (rw [if_pos c_28]; done) | (rw [if_neg c_28, if_pos c_4]; exact eAt_no (by first | exact Or.inl c_32 | exact Or.inr c_41)) | (rw [if_neg c_28, if_neg c_4]; exact eAt_no (by first | exact Or.inl c_32 | exact Or.inr c_41))); rw [hz]; rfl) (by have hz : hTakeR σ = none := (by unfold hTakeR hLast; first | (rw [if_pos c_28]; done) | (rw [if_neg c_28, if_pos c_4]; exact eAt_no (by first | exact Or.inl c_32 | exact Or.inr c_41)) | (rw [if_neg c_28, if_neg c_4]; exact eAt_no (by first | exact Or.inl c_32 | exact Or.inr c_41))); unfold hTake; rw [hz])
    · refine A_iload_n (q := 32) cx dX2_takeLatest_31 rfl rfl ?_
      refine A_if_lt (tgt := 44) (q := 35) cx dX2_takeLatest_32 (by decide) rfl (fun c_32 => ?_) (fun c_32 => ?_)
      · refine A_null (q := 45) cx dX2_takeLatest_44 rfl ?_
        exact A_aret cx hlk hr hQ dX2_takeLatest_45 (by have hz : hTakeR σ = none := (by unfold hTakeR hLast; first | (rw [if_pos c_28]; done) | (rw [if_neg c_28, if_pos c_4]; exact eAt_no (by first | exact Or.inl c_32 | exact Or.inr c_41)) | (rw [if_neg c_28, if_neg c_4]; exact eAt_no (by first | exact Or.inl c_32 | exact Or.inr c_41))); rw [hz]; rfl) (by have hz : hTakeR σ = none := (by unfold hTakeR hLast; first | (rw [if_pos c_28]; done) | (rw [if_neg c_28, if_pos c_4]; exact eAt_no (by first | exact Or.inl c_32 | exact Or.inr c_41)) | (rw [if_neg c_28, if_neg c_4]; exact eAt_no (by first | exact Or.inl c_32 | exact Or.inr c_41))); unfold hTake; rw [hz])
      · refine A_iload_n (q := 36) cx dX2_takeLatest_35 rfl rfl ?_
        refine A_aload_n (q := 37) cx dX2_takeLatest_36 rfl rfl rfl ?_
        refine gX2_0 (q := 40) cx wi_X2_takeLatest_X2 wf_X2_takeLatest_11 dX2_takeLatest_37 rfl (in2 hX) rfl rfl ?_
        refine A_alen12 (v := 6) (q := 41) cx dX2_takeLatest_40 rfl (in12 hX) rfl rfl ?_
        refine A_icmp_lt (tgt := 46) (q := 44) cx dX2_takeLatest_41 (by decide) rfl (fun c_41 => ?_) (fun c_41 => ?_)
        · obtain ⟨j, hj, hx, hcl⟩ := ix_lt (L := 6) c_32 c_41 (by decide)
          refine A_aload_n (q := 47) cx dX2_takeLatest_46 rfl rfl rfl ?_
          refine A_iload_n (q := 48) cx dX2_takeLatest_47 rfl rfl ?_
          refine pX2_1 (q := 51) cx wi_X2_takeLatest_X2 wf_X2_takeLatest_18 dX2_takeLatest_48 rfl (in2 hX) rfl ?_
          refine A_aload_n (q := 52) cx dX2_takeLatest_51 rfl rfl rfl ?_
          refine A_dup (q := 53) cx dX2_takeLatest_52 rfl rfl ?_
          refine gX2_2 (q := 56) cx wi_X2_takeLatest_X2 wf_X2_takeLatest_22 dX2_takeLatest_53 rfl (in2 hX) rfl ?_
          refine A_iconst (v := 1) (q := 57) cx dX2_takeLatest_56 (by decide) rfl ?_
          refine A_isub (q := 58) cx dX2_takeLatest_57 rfl ?_
          refine pX2_2 (q := 61) cx wi_X2_takeLatest_X2 wf_X2_takeLatest_22 dX2_takeLatest_58 rfl (in2 hX) rfl ?_
          refine A_aload_n (q := 62) cx dX2_takeLatest_61 rfl rfl rfl ?_
          refine gX2_0 (q := 65) cx wi_X2_takeLatest_X2 wf_X2_takeLatest_11 dX2_takeLatest_62 rfl (in2 hX) rfl rfl ?_
          refine A_iload_n (q := 66) cx dX2_takeLatest_65 rfl rfl ?_
          refine A_aaload12 (q := 67) cx dX2_takeLatest_66 rfl (in12 hX) hx (by show _ < 6; omega) rfl rfl ?_
          exact A_aret cx hlk hr hQ dX2_takeLatest_67 (by have he : eAt 6 _ = some j := eAt_of c_32 c_41 hcl; unfold hTakeR hLast; rw [if_neg c_28]; first | (rw [if_pos c_4, he]; rfl) | (rw [if_neg c_4, he]; rfl)) (by have he : eAt 6 _ = some j := eAt_of c_32 c_41 hcl; unfold hTake hTakeR hLast; rw [if_neg c_28]; first | (rw [if_pos c_4, he]) | (rw [if_neg c_4, he]))
        · refine A_null (q := 45) cx dX2_takeLatest_44 rfl ?_
          exact A_aret cx hlk hr hQ dX2_takeLatest_45 (by have hz : hTakeR σ = none := (by unfold hTakeR hLast; first | (rw [if_pos c_28]; done) | (rw [if_neg c_28, if_pos c_4]; exact eAt_no (by first | exact Or.inl c_32 | exact Or.inr c_41)) | (rw [if_neg c_28, if_neg c_4]; exact eAt_no (by first | exact Or.inl c_32 | exact Or.inr c_41))); rw [hz]; rfl) (by have hz : hTakeR σ = none := (by unfold hTakeR hLast; first | (rw [if_pos c_28]; done) | (rw [if_neg c_28, if_pos c_4]; exact eAt_no (by first | exact Or.inl c_32 | exact Or.inr c_41)) | (rw [if_neg c_28, if_neg c_4]; exact eAt_no (by first | exact Or.inl c_32 | exact Or.inr c_41))); unfold hTake; rw [hz])
