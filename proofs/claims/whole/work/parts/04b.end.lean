/-! WHAT THE CLASS'S METHODS DO: End. d: how many turns are left, i: the place. -/
abbrev kp (n e l : Nat) : Ky := (5, n, e, l)
def eClearP (n e : Nat) : Nat → Nat → Sg → Sg
  | 0, _, σ => σ
  | d + 1, i, σ => eClearP n e d (i + 1) (pClear σ n e i)
def eClearF (n e : Nat) : Nat → Nat → Sg → Sg
  | 0, _, σ => σ
  | d + 1, i, σ => eClearF n e d (i + 1) (fClear σ (1, n, e, i))
def eClear (σ : Sg) (n e : Nat) : Sg := eClearF n e 8 0 (eClearP n e 6 0 (up2 σ (0, n, e, 0) 1 5))
def eCopyP (n e n2 e2 : Nat) : Nat → Nat → Sg → Sg
  | 0, _, σ => σ
  | d + 1, i, σ => eCopyP n e n2 e2 d (i + 1) (pCopy σ n e i n2 e2 i)
def eCopyF (n e n2 e2 : Nat) : Nat → Nat → Sg → Sg
  | 0, _, σ => σ
  | d + 1, i, σ => eCopyF n e n2 e2 d (i + 1) (fCopy σ (1, n, e, i) (1, n2, e2, i))
def eCopy (σ : Sg) (n e n2 e2 : Nat) : Sg := eCopyF n e n2 e2 8 0 (eCopyP n e n2 e2 6 0 (up2 σ (0, n, e, 0) 1 (σ (0, n2, e2, 0) 1)))
def eLikeF (σ : Sg) (n e n2 e2 : Nat) : Nat → Nat → Int32
  | 0, _ => 1
  | d + 1, i => if σ (1, n, e, i) 0 = σ (1, n2, e2, i) 0 then eLikeF σ n e n2 e2 d (i + 1) else 0
def eLikeP (σ : Sg) (n e n2 e2 : Nat) : Nat → Nat → Int32
  | 0, _ => eLikeF σ n e n2 e2 8 0
  | d + 1, i => if σ (5, n, e, i) 7 = σ (5, n2, e2, i) 7 then eLikeP σ n e n2 e2 d (i + 1) else 0
def eAt (L : Nat) (x : Int32) : Option Nat := if x < 0 then none else if nI L ≤ x then none else some x.toNatClampNeg
theorem eAt_lt {L : Nat} {x : Int32} {j : Nat} (hL : L < 2 ^ 31) (h : eAt L x = some j) : j < L ∧ x = nI j := by
  unfold eAt at h
  split at h
  · cases h
  · split at h
    · cases h
    · next h1 h2 =>
      obtain ⟨j', a, b, -, c, -⟩ := pk_mu h1 h2 hL
      rw [c] at h; cases h
      exact ⟨a, b⟩
theorem eAt_of2 {L : Nat} {x : Int32} {j : Nat} (h0 : ¬ x < 0) (h : ¬ nI L ≤ x) (hj : x.toNatClampNeg = j) : eAt L x = some j := by
  unfold eAt; rw [if_neg h0, if_neg h, hj]
def eHear (n e n2 e2 : Nat) : Nat → Nat → Sg → Sg
  | 0, _, σ => σ
  | d + 1, i, σ => eHear n e n2 e2 d (i + 1) (pHear σ n e i (14, n2, e2, i))
def eDecR (σ : Sg) (n e : Nat) : Nat → Nat → Int32
  | 0, _ => 1
  | d + 1, i => if b01 (σ (3, n, e, i) 0) = 0 then eDecR σ n e d (i + 1)
    else if σ (0, n, e, 0) 0 = 0 then (if σ (3, n, e, i) 3 < σ (0, n, e, 0) 1 then 0 else 1) else (if σ (3, n, e, i) 3 ≤ σ (0, n, e, 0) 1 then 0 else 1)
def eDec (σ : Sg) (n e : Nat) : Int32 := eDecR σ n e 6 0
def eFit (σ : Sg) (n e : Nat) (like : Option Nat) (i : Nat) : Bool :=
  decide (¬ b01 (σ (3, n, e, i) 0) = 0) && decide (b01 (σ (5, n, e, i) 8) = 0) && (match like with | none => true | some q => decide (¬ pPair σ n e i n e q = 0))
def eBet (σ : Sg) (n e : Nat) (w : Int32) (best : Option Nat) (i : Nat) : Bool := match best with
  | none => true
  | some b => decide (¬ pPrio σ n e b w ≤ pPrio σ n e i w)
def eBestR (σ : Sg) (n e : Nat) (w : Int32) (like : Option Nat) : Nat → Nat → Option Nat → Option Nat
  | 0, _, best => best
  | d + 1, i, best => eBestR σ n e w like d (i + 1) (if eFit σ n e like i && eBet σ n e w best i then some i else best)
def eBest (σ : Sg) (n e : Nat) (w : Int32) (like : Option Nat) : Option Nat := eBestR σ n e w like 6 0 none
theorem eBestR_lt (σ : Sg) (n e : Nat) (w : Int32) (like : Option Nat) : ∀ (d i : Nat) (best : Option Nat), (∀ b, best = some b → b < i + d) → ∀ l, eBestR σ n e w like d i best = some l → l < i + d
  | 0, i, best, h, l, hl => h l hl
  | d + 1, i, best, h, l, hl => by
    have := eBestR_lt σ n e w like d (i + 1) _ (fun b hb => ?_) l hl
    · omega
    · split at hb
      · cases hb; omega
      · have := h b hb; omega
theorem eBest_lt {σ : Sg} {n e : Nat} {w : Int32} {like : Option Nat} {l : Nat} (h : eBest σ n e w like = some l) : l < 6 := by
  have := eBestR_lt σ n e w like 6 0 none (fun b hb => by cases hb) l h
  omega
def eUnch (n e : Nat) : Nat → Nat → Sg → Sg
  | 0, _, σ => σ
  | d + 1, i, σ => eUnch n e d (i + 1) (up2 σ (5, n, e, i) 8 0)
def eTake (n e : Nat) (w : Int32) (first : Option Nat) : Nat → Option Nat → Sg → Sg
  | 0, _, σ => σ
  | d + 1, next, σ => match next with
    | none => σ
    | some l => eTake n e w first d (eBest (up2 σ (5, n, e, l) 8 1) n e w first) (up2 σ (5, n, e, l) 8 1)
def eChoose1 (σ : Sg) (n e M : Nat) : Sg := eTake n e (eDec σ n e) (eBest σ n e (eDec σ n e) none) M (eBest σ n e (eDec σ n e) none) σ
def eChoose (σ : Sg) (n e M : Nat) : Sg := eChoose1 (eUnch n e 6 0 σ) n e M
def eJudge (n e : Nat) (wt : Int32) : Nat → Nat → Sg → Sg
  | 0, _, σ => σ
  | d + 1, i, σ => eJudge n e wt d (i + 1) (pSay (pJudge σ n e i wt) n e i (pJudge σ n e i wt (0, n, e, 0) 1))
def cnt (f : Nat → Int32) : Nat → Nat → Int32 → Int32
  | 0, _, a => a
  | d + 1, i, a => cnt f d (i + 1) (a + f i)
def orr (f : Nat → Int32) : Nat → Nat → Int32 → Int32
  | 0, _, a => a
  | d + 1, i, a => orr f d (i + 1) (if f i = 0 then a else a ||| 1 <<< (nI i &&& 31))
def eSend (σ : Sg) (n e : Nat) : Int32 := cnt (fun i => if σ (5, n, e, i) 7 = 5 then 1 else 0) 6 0 0
def eUp (σ : Sg) (n e : Nat) : Int32 := cnt (fun i => if b01 (σ (5, n, e, i) 0) = 0 then 0 else 1) 6 0 0
def eMut (σ : Sg) (n e : Nat) : Int32 := cnt (fun i => if b01 (σ (5, n, e, i) 1) = 0 then 0 else 1) 6 0 0
def eBits (σ : Sg) (n e : Nat) (w : Int32) : Int32 := orr (fun i => pIsOf σ n e i w) 6 0 0
def eWantR (σ : Sg) (n e : Nat) : Nat → Nat → Int32 → Int32
  | 0, _, _ => -4
  | d + 1, i, a => if σ (5, n, e, i) 7 = 5 then (if a = 0 then nI i else eWantR σ n e d (i + 1) (a + -1)) else eWantR σ n e d (i + 1) a
def eWant (σ : Sg) (n e : Nat) (f mem : Int32) : Int32 := if 0 < mem then eWantR σ n e 6 0 ((7 * f + 3) - (7 * f + 3) / mem * mem) else -4
def eDealR (n e : Nat) (mem dr : Int32) : Nat → Nat → Sg → Sg
  | 0, _, σ => σ
  | d + 1, i, σ => eDealR n e mem dr d (i + 1) (fDeal σ (1, n, e, i) (eWant σ n e (nI i) mem) dr)
def eDeal (σ : Sg) (n e : Nat) (dr : Int32) : Sg := eDealR n e (eSend σ n e) dr 8 0 σ
theorem wi_X0_clear_X0 : ∀ w ∈ u_ws RX0 TX0 4, w ∈ wsX0_clear := by decide +kernel
theorem wf_X0_clear_24 : Cond.fieldLink RX0 24 (TX0 3).1 (TX0 3).2.1 (TX0 3).2.2.1 ∈ wsX0_clear := by decide +kernel
theorem wf_X0_clear_29 : Cond.fieldLink RX0 29 (TX0 1).1 (TX0 1).2.1 (TX0 1).2.2.1 ∈ wsX0_clear := by decide +kernel
theorem wf_X0_clear_17 : Cond.fieldLink RX0 17 (TX0 2).1 (TX0 2).2.1 (TX0 2).2.2.1 ∈ wsX0_clear := by decide +kernel
set_option maxHeartbeats 4000000 in
set_option maxRecDepth 100000 in
theorem ct_X0_clear {la : Launch} {E : Ev} (hE : okE E) (hX : xin E) {σ0 : Sg} {n e : Nat} (hn : n < 9 ∧ e < 2 := by omega) : CV la yX0_clear wsX0_clear 2 40 E rh0 [.ref (ad E (0, n, e, 0))] σ0 (eClear σ0 n e) := by
  refine met_of (lv := [some _, none, none, none, none]) RX0 (by decide) rfl rfl rfl hE (ok1 rfl) (Nat.le_of_ble_eq_true rfl) (fun p ev s m args below meth c Q cx hlk hr hQ => ?_)
  have l2 : ∀ (d i : Nat) (σ : Sg), i + d = 8 → eClearF n e d i σ = eClear σ0 n e → AW p la ev (rmm 2 40) s m args below meth c 0 0 Q (AL E) E rh0 46 [some (.ref (ad E (0, n, e, 0))), some (.ref (ad E (11, n, e, 0))), some (.int 8), some (.int (nI i)), none] [] σ := by
    intro d
    induction d with
    | zero =>
      intro i σ  hi hF
      obtain rfl : i = 8 := by omega
      refine A_iload_n (q := 47) cx dX0_clear_46 rfl rfl ?_
      refine A_iload_n (q := 48) cx dX0_clear_47 rfl rfl ?_
      refine A_icmp_ge (tgt := 67) (q := 51) cx dX0_clear_48 (by decide) rfl (fun c_48 => ?_) (fun c_48 => ?_)
      · exact A_vret cx hlk hr hQ dX0_clear_67 hF
      · exact absurd (by decide) c_48
    | succ d ih =>
      intro i σ  hi hF
      refine A_iload_n (q := 47) cx dX0_clear_46 rfl rfl ?_
      refine A_iload_n (q := 48) cx dX0_clear_47 rfl rfl ?_
      refine A_icmp_ge (tgt := 67) (q := 51) cx dX0_clear_48 (by decide) rfl (fun c_48 => ?_) (fun c_48 => ?_)
      · exact absurd c_48 (not_ge (i := i) (b := 8) (by omega) (by decide))
      · refine A_aload_n (q := 52) cx dX0_clear_51 rfl rfl rfl ?_
        refine A_iload_n (q := 53) cx dX0_clear_52 rfl rfl ?_
        refine A_aaload11 (q := 54) cx dX0_clear_53 rfl (in11 hX (by omega)) rfl (by show _ < 8; omega) rfl rfl ?_
        refine A_astore (lv' := [some _, some _, some _, some _, some _]) (q := 56) cx dX0_clear_54 (Nat.le_of_ble_eq_true rfl) rfl rfl rfl ?_
        refine A_aload (q := 58) cx dX0_clear_56 rfl rfl rfl ?_
        refine VV0 (q := 61) cx (ct_X1_clear hE hX rfl (in1 hX (by omega))) (cwV 0 cx.1.2.2.2.2 gX0_clear_X1_clear rfl rfl rfl (by decide +kernel) ⟨Nat.le_of_ble_eq_true rfl, Nat.le_of_ble_eq_true rfl⟩) dX0_clear_58 rfl rfl (in1 hX (by omega)) rfl (Nat.le_of_ble_eq_true rfl) ⟨Nat.zero_le _, Nat.zero_le _⟩ rfl ?_
        refine A_iinc (lv' := [some _, some _, some _, some _, some _]) (q := 64) cx dX0_clear_61 rfl (nI_1 i) rfl rfl ?_
        refine A_goto (q := 46) cx dX0_clear_64 (by decide) ?_
        exact A_drop 4 rfl (ih (i + 1) _ (by omega) hF)
  have l1 : ∀ (d i : Nat) (σ : Sg), i + d = 6 → eClearF n e 8 0 (eClearP n e d i σ) = eClear σ0 n e → AW p la ev (rmm 2 40) s m args below meth c 0 0 Q (AL E) E rh0 15 [some (.ref (ad E (0, n, e, 0))), some (.ref (ad E (13, n, e, 0))), some (.int 6), some (.int (nI i)), none] [] σ := by
    intro d
    induction d with
    | zero =>
      intro i σ  hi hF
      obtain rfl : i = 6 := by omega
      refine A_iload_n (q := 16) cx dX0_clear_15 rfl rfl ?_
      refine A_iload_n (q := 17) cx dX0_clear_16 rfl rfl ?_
      refine A_icmp_ge (tgt := 36) (q := 20) cx dX0_clear_17 (by decide) rfl (fun c_17 => ?_) (fun c_17 => ?_)
      · refine A_aload_n (q := 37) cx dX0_clear_36 rfl rfl rfl ?_
        refine gX0_3 (q := 40) cx wi_X0_clear_X0 wf_X0_clear_24 dX0_clear_37 rfl (in0 hX (by omega)) rfl rfl ?_
        refine A_astore_n (lv' := [some _, some _, some _, some _, none]) (q := 41) cx dX0_clear_40 (Nat.le_of_ble_eq_true rfl) rfl rfl rfl ?_
        refine A_aload_n (q := 42) cx dX0_clear_41 rfl rfl rfl ?_
        refine A_alen11 (v := 8) (q := 43) cx dX0_clear_42 rfl (in11 hX (by omega)) rfl rfl ?_
        refine A_istore_n (lv' := [some _, some _, some _, some _, none]) (q := 44) cx dX0_clear_43 (Nat.le_of_ble_eq_true rfl) rfl rfl ?_
        refine A_iconst (v := 0) (q := 45) cx dX0_clear_44 (by decide) rfl ?_
        refine A_istore_n (lv' := [some _, some _, some _, some _, none]) (q := 46) cx dX0_clear_45 (Nat.le_of_ble_eq_true rfl) rfl rfl ?_
        exact l2 8 0 σ rfl hF
      · exact absurd (by decide) c_17
    | succ d ih =>
      intro i σ  hi hF
      refine A_iload_n (q := 16) cx dX0_clear_15 rfl rfl ?_
      refine A_iload_n (q := 17) cx dX0_clear_16 rfl rfl ?_
      refine A_icmp_ge (tgt := 36) (q := 20) cx dX0_clear_17 (by decide) rfl (fun c_17 => ?_) (fun c_17 => ?_)
      · exact absurd c_17 (not_ge (i := i) (b := 6) (by omega) (by decide))
      · refine A_aload_n (q := 21) cx dX0_clear_20 rfl rfl rfl ?_
        refine A_iload_n (q := 22) cx dX0_clear_21 rfl rfl ?_
        refine A_aaload13 (q := 23) cx dX0_clear_22 rfl (in13 hX (by omega)) rfl (by show _ < 6; omega) rfl rfl ?_
        refine A_astore (lv' := [some _, some _, some _, some _, some _]) (q := 25) cx dX0_clear_23 (Nat.le_of_ble_eq_true rfl) rfl rfl rfl ?_
        refine A_aload (q := 27) cx dX0_clear_25 rfl rfl rfl ?_
        refine VV0 (q := 30) cx (ct_X5_clear hE hX) (cwV 0 cx.1.2.2.2.2 gX0_clear_X5_clear rfl rfl rfl (by decide +kernel) ⟨Nat.le_of_ble_eq_true rfl, Nat.le_of_ble_eq_true rfl⟩) dX0_clear_27 rfl rfl (in5 hX (by omega)) rfl (Nat.le_of_ble_eq_true rfl) ⟨Nat.zero_le _, Nat.zero_le _⟩ rfl ?_
        refine A_iinc (lv' := [some _, some _, some _, some _, some _]) (q := 33) cx dX0_clear_30 rfl (nI_1 i) rfl rfl ?_
        refine A_goto (q := 15) cx dX0_clear_33 (by decide) ?_
        exact A_drop 4 rfl (ih (i + 1) _ (by omega) hF)
  refine A_aload_n (q := 1) cx dX0_clear_0 rfl rfl rfl ?_
  refine A_iconst (v := 5) (q := 2) cx dX0_clear_1 (by decide) rfl ?_
  refine pX0_1 (q := 5) cx wi_X0_clear_X0 wf_X0_clear_29 dX0_clear_2 rfl (in0 hX (by omega)) rfl ?_
  refine A_aload_n (q := 6) cx dX0_clear_5 rfl rfl rfl ?_
  refine gX0_2 (q := 9) cx wi_X0_clear_X0 wf_X0_clear_17 dX0_clear_6 rfl (in0 hX (by omega)) rfl rfl ?_
  refine A_astore_n (lv' := [some _, some _, none, none, none]) (q := 10) cx dX0_clear_9 (Nat.le_of_ble_eq_true rfl) rfl rfl rfl ?_
  refine A_aload_n (q := 11) cx dX0_clear_10 rfl rfl rfl ?_
  refine A_alen13 (v := 6) (q := 12) cx dX0_clear_11 rfl (in13 hX (by omega)) rfl rfl ?_
  refine A_istore_n (lv' := [some _, some _, some _, none, none]) (q := 13) cx dX0_clear_12 (Nat.le_of_ble_eq_true rfl) rfl rfl ?_
  refine A_iconst (v := 0) (q := 14) cx dX0_clear_13 (by decide) rfl ?_
  refine A_istore_n (lv' := [some _, some _, some _, some _, none]) (q := 15) cx dX0_clear_14 (Nat.le_of_ble_eq_true rfl) rfl rfl ?_
  exact l1 6 0 _ rfl rfl
theorem wi_X0_copyFrom_X0 : ∀ w ∈ u_ws RX0 TX0 4, w ∈ wsX0_copyFrom := by decide +kernel
theorem wf_X0_copyFrom_24 : Cond.fieldLink RX0 24 (TX0 3).1 (TX0 3).2.1 (TX0 3).2.2.1 ∈ wsX0_copyFrom := by decide +kernel
theorem wf_X0_copyFrom_17 : Cond.fieldLink RX0 17 (TX0 2).1 (TX0 2).2.1 (TX0 2).2.2.1 ∈ wsX0_copyFrom := by decide +kernel
theorem wf_X0_copyFrom_29 : Cond.fieldLink RX0 29 (TX0 1).1 (TX0 1).2.1 (TX0 1).2.2.1 ∈ wsX0_copyFrom := by decide +kernel
set_option maxHeartbeats 4000000 in
set_option maxRecDepth 100000 in
theorem ct_X0_copyFrom {la : Launch} {E : Ev} (hE : okE E) (hX : xin E) {σ0 : Sg} {n e : Nat} (hn : n < 9 ∧ e < 2 := by omega) {n2 e2 : Nat} (hn2 : n2 < 9 ∧ e2 < 2 := by omega) : CV la yX0_copyFrom wsX0_copyFrom 2 42 E rh0 [.ref (ad E (0, n, e, 0)), .ref (ad E (0, n2, e2, 0))] σ0 (eCopy σ0 n e n2 e2) := by
  refine met_of (lv := [some _, some _, none]) RX0 (by decide) rfl rfl rfl hE (ok2 rfl rfl) (Nat.le_of_ble_eq_true rfl) (fun p ev s m args below meth c Q cx hlk hr hQ => ?_)
  have l2 : ∀ (d i : Nat) (σ : Sg), i + d = 8 → eCopyF n e n2 e2 d i σ = eCopy σ0 n e n2 e2 → AW p la ev (rmm 2 42) s m args below meth c 0 0 Q (AL E) E rh0 51 [some (.ref (ad E (0, n, e, 0))), some (.ref (ad E (0, n2, e2, 0))), some (.int (nI i))] [] σ := by
    intro d
    induction d with
    | zero =>
      intro i σ  hi hF
      obtain rfl : i = 8 := by omega
      refine A_iload_n (q := 52) cx dX0_copyFrom_51 rfl rfl ?_
      refine A_aload_n (q := 53) cx dX0_copyFrom_52 rfl rfl rfl ?_
      refine gX0_3 (q := 56) cx wi_X0_copyFrom_X0 wf_X0_copyFrom_24 dX0_copyFrom_53 rfl (in0 hX (by omega)) rfl rfl ?_
      refine A_alen11 (v := 8) (q := 57) cx dX0_copyFrom_56 rfl (in11 hX (by omega)) rfl rfl ?_
      refine A_icmp_ge (tgt := 90) (q := 60) cx dX0_copyFrom_57 (by decide) rfl (fun c_57 => ?_) (fun c_57 => ?_)
      · exact A_vret cx hlk hr hQ dX0_copyFrom_90 hF
      · exact absurd (by decide) c_57
    | succ d ih =>
      intro i σ  hi hF
      refine A_iload_n (q := 52) cx dX0_copyFrom_51 rfl rfl ?_
      refine A_aload_n (q := 53) cx dX0_copyFrom_52 rfl rfl rfl ?_
      refine gX0_3 (q := 56) cx wi_X0_copyFrom_X0 wf_X0_copyFrom_24 dX0_copyFrom_53 rfl (in0 hX (by omega)) rfl rfl ?_
      refine A_alen11 (v := 8) (q := 57) cx dX0_copyFrom_56 rfl (in11 hX (by omega)) rfl rfl ?_
      refine A_icmp_ge (tgt := 90) (q := 60) cx dX0_copyFrom_57 (by decide) rfl (fun c_57 => ?_) (fun c_57 => ?_)
      · exact absurd c_57 (not_ge (i := i) (b := 8) (by omega) (by decide))
      · refine A_iload_n (q := 61) cx dX0_copyFrom_60 rfl rfl ?_
        refine A_aload_n (q := 62) cx dX0_copyFrom_61 rfl rfl rfl ?_
        refine gX0_3 (q := 65) cx wi_X0_copyFrom_X0 wf_X0_copyFrom_24 dX0_copyFrom_62 rfl (in0 hX (by omega)) rfl rfl ?_
        refine A_alen11 (v := 8) (q := 66) cx dX0_copyFrom_65 rfl (in11 hX (by omega)) rfl rfl ?_
        refine A_icmp_ge (tgt := 90) (q := 69) cx dX0_copyFrom_66 (by decide) rfl (fun c_66 => ?_) (fun c_66 => ?_)
        · exact absurd c_66 (not_ge (i := i) (b := 8) (by omega) (by decide))
        · refine A_aload_n (q := 70) cx dX0_copyFrom_69 rfl rfl rfl ?_
          refine gX0_3 (q := 73) cx wi_X0_copyFrom_X0 wf_X0_copyFrom_24 dX0_copyFrom_70 rfl (in0 hX (by omega)) rfl rfl ?_
          refine A_iload_n (q := 74) cx dX0_copyFrom_73 rfl rfl ?_
          refine A_aaload11 (q := 75) cx dX0_copyFrom_74 rfl (in11 hX (by omega)) rfl (by show _ < 8; omega) rfl rfl ?_
          refine A_aload_n (q := 76) cx dX0_copyFrom_75 rfl rfl rfl ?_
          refine gX0_3 (q := 79) cx wi_X0_copyFrom_X0 wf_X0_copyFrom_24 dX0_copyFrom_76 rfl (in0 hX (by omega)) rfl rfl ?_
          refine A_iload_n (q := 80) cx dX0_copyFrom_79 rfl rfl ?_
          refine A_aaload11 (q := 81) cx dX0_copyFrom_80 rfl (in11 hX (by omega)) rfl (by show _ < 8; omega) rfl rfl ?_
          refine VV1 (q := 84) cx (ct_X1_copyFrom hE hX rfl (in1 hX (by omega)) rfl (in1 hX (by omega))) (cwV 1 cx.1.2.2.2.2 gX0_copyFrom_X1_copyFrom rfl rfl rfl (by decide +kernel) ⟨Nat.le_of_ble_eq_true rfl, Nat.le_of_ble_eq_true rfl⟩) dX0_copyFrom_81 rfl rfl (in1 hX (by omega)) rfl (Nat.le_of_ble_eq_true rfl) ⟨Nat.zero_le _, Nat.zero_le _⟩ rfl ?_
          refine A_iinc (lv' := [some _, some _, some _]) (q := 87) cx dX0_copyFrom_84 rfl (nI_1 i) rfl rfl ?_
          refine A_goto (q := 51) cx dX0_copyFrom_87 (by decide) ?_
          exact ih (i + 1) _ (by omega) hF
  have l1 : ∀ (d i : Nat) (σ : Sg), i + d = 6 → eCopyF n e n2 e2 8 0 (eCopyP n e n2 e2 d i σ) = eCopy σ0 n e n2 e2 → AW p la ev (rmm 2 42) s m args below meth c 0 0 Q (AL E) E rh0 10 [some (.ref (ad E (0, n, e, 0))), some (.ref (ad E (0, n2, e2, 0))), some (.int (nI i))] [] σ := by
    intro d
    induction d with
    | zero =>
      intro i σ  hi hF
      obtain rfl : i = 6 := by omega
      refine A_iload_n (q := 11) cx dX0_copyFrom_10 rfl rfl ?_
      refine A_aload_n (q := 12) cx dX0_copyFrom_11 rfl rfl rfl ?_
      refine gX0_2 (q := 15) cx wi_X0_copyFrom_X0 wf_X0_copyFrom_17 dX0_copyFrom_12 rfl (in0 hX (by omega)) rfl rfl ?_
      refine A_alen13 (v := 6) (q := 16) cx dX0_copyFrom_15 rfl (in13 hX (by omega)) rfl rfl ?_
      refine A_icmp_ge (tgt := 49) (q := 19) cx dX0_copyFrom_16 (by decide) rfl (fun c_16 => ?_) (fun c_16 => ?_)
      · refine A_iconst (v := 0) (q := 50) cx dX0_copyFrom_49 (by decide) rfl ?_
        refine A_istore_n (lv' := [some _, some _, some _]) (q := 51) cx dX0_copyFrom_50 (Nat.le_of_ble_eq_true rfl) rfl rfl ?_
        exact l2 8 0 σ rfl hF
      · exact absurd (by decide) c_16
    | succ d ih =>
      intro i σ  hi hF
      refine A_iload_n (q := 11) cx dX0_copyFrom_10 rfl rfl ?_
      refine A_aload_n (q := 12) cx dX0_copyFrom_11 rfl rfl rfl ?_
      refine gX0_2 (q := 15) cx wi_X0_copyFrom_X0 wf_X0_copyFrom_17 dX0_copyFrom_12 rfl (in0 hX (by omega)) rfl rfl ?_
      refine A_alen13 (v := 6) (q := 16) cx dX0_copyFrom_15 rfl (in13 hX (by omega)) rfl rfl ?_
      refine A_icmp_ge (tgt := 49) (q := 19) cx dX0_copyFrom_16 (by decide) rfl (fun c_16 => ?_) (fun c_16 => ?_)
      · exact absurd c_16 (not_ge (i := i) (b := 6) (by omega) (by decide))
      · refine A_iload_n (q := 20) cx dX0_copyFrom_19 rfl rfl ?_
        refine A_aload_n (q := 21) cx dX0_copyFrom_20 rfl rfl rfl ?_
        refine gX0_2 (q := 24) cx wi_X0_copyFrom_X0 wf_X0_copyFrom_17 dX0_copyFrom_21 rfl (in0 hX (by omega)) rfl rfl ?_
        refine A_alen13 (v := 6) (q := 25) cx dX0_copyFrom_24 rfl (in13 hX (by omega)) rfl rfl ?_
        refine A_icmp_ge (tgt := 49) (q := 28) cx dX0_copyFrom_25 (by decide) rfl (fun c_25 => ?_) (fun c_25 => ?_)
        · exact absurd c_25 (not_ge (i := i) (b := 6) (by omega) (by decide))
        · refine A_aload_n (q := 29) cx dX0_copyFrom_28 rfl rfl rfl ?_
          refine gX0_2 (q := 32) cx wi_X0_copyFrom_X0 wf_X0_copyFrom_17 dX0_copyFrom_29 rfl (in0 hX (by omega)) rfl rfl ?_
          refine A_iload_n (q := 33) cx dX0_copyFrom_32 rfl rfl ?_
          refine A_aaload13 (q := 34) cx dX0_copyFrom_33 rfl (in13 hX (by omega)) rfl (by show _ < 6; omega) rfl rfl ?_
          refine A_aload_n (q := 35) cx dX0_copyFrom_34 rfl rfl rfl ?_
          refine gX0_2 (q := 38) cx wi_X0_copyFrom_X0 wf_X0_copyFrom_17 dX0_copyFrom_35 rfl (in0 hX (by omega)) rfl rfl ?_
          refine A_iload_n (q := 39) cx dX0_copyFrom_38 rfl rfl ?_
          refine A_aaload13 (q := 40) cx dX0_copyFrom_39 rfl (in13 hX (by omega)) rfl (by show _ < 6; omega) rfl rfl ?_
          refine VV1 (q := 43) cx (ct_X5_copyFrom hE hX) (cwV 1 cx.1.2.2.2.2 gX0_copyFrom_X5_copyFrom rfl rfl rfl (by decide +kernel) ⟨Nat.le_of_ble_eq_true rfl, Nat.le_of_ble_eq_true rfl⟩) dX0_copyFrom_40 rfl rfl (in5 hX (by omega)) rfl (Nat.le_of_ble_eq_true rfl) ⟨Nat.zero_le _, Nat.zero_le _⟩ rfl ?_
          refine A_iinc (lv' := [some _, some _, some _]) (q := 46) cx dX0_copyFrom_43 rfl (nI_1 i) rfl rfl ?_
          refine A_goto (q := 10) cx dX0_copyFrom_46 (by decide) ?_
          exact ih (i + 1) _ (by omega) hF
  refine A_aload_n (q := 1) cx dX0_copyFrom_0 rfl rfl rfl ?_
  refine A_aload_n (q := 2) cx dX0_copyFrom_1 rfl rfl rfl ?_
  refine gX0_1 (q := 5) cx wi_X0_copyFrom_X0 wf_X0_copyFrom_29 dX0_copyFrom_2 rfl (in0 hX (by omega)) rfl ?_
  refine pX0_1 (q := 8) cx wi_X0_copyFrom_X0 wf_X0_copyFrom_29 dX0_copyFrom_5 rfl (in0 hX (by omega)) rfl ?_
  refine A_iconst (v := 0) (q := 9) cx dX0_copyFrom_8 (by decide) rfl ?_
  refine A_istore_n (lv' := [some _, some _, some _]) (q := 10) cx dX0_copyFrom_9 (Nat.le_of_ble_eq_true rfl) rfl rfl ?_
  exact l1 6 0 _ rfl rfl
theorem wi_X0_looksLike_X0 : ∀ w ∈ u_ws RX0 TX0 4, w ∈ wsX0_looksLike := by decide +kernel
theorem wf_X0_looksLike_24 : Cond.fieldLink RX0 24 (TX0 3).1 (TX0 3).2.1 (TX0 3).2.2.1 ∈ wsX0_looksLike := by decide +kernel
theorem wi_X0_looksLike_X1 : ∀ w ∈ u_ws RX1 TX1 2, w ∈ wsX0_looksLike := by decide +kernel
theorem wf_X0_looksLike_46 : Cond.fieldLink RX0 46 (TX1 0).1 (TX1 0).2.1 (TX1 0).2.2.1 ∈ wsX0_looksLike := by decide +kernel
theorem wf_X0_looksLike_17 : Cond.fieldLink RX0 17 (TX0 2).1 (TX0 2).2.1 (TX0 2).2.2.1 ∈ wsX0_looksLike := by decide +kernel
theorem wi_X0_looksLike_X5 : ∀ w ∈ u_ws RX5 TX5 11, w ∈ wsX0_looksLike := by decide +kernel
theorem wf_X0_looksLike_43 : Cond.fieldLink RX0 43 (TX5 7).1 (TX5 7).2.1 (TX5 7).2.2.1 ∈ wsX0_looksLike := by decide +kernel
set_option maxHeartbeats 4000000 in
set_option maxRecDepth 100000 in
theorem ct_X0_looksLike {la : Launch} {E : Ev} (hE : okE E) (hX : xin E) {σ0 : Sg} {n e : Nat} (hn : n < 9 ∧ e < 2 := by omega) {n2 e2 : Nat} (hn2 : n2 < 9 ∧ e2 < 2 := by omega) : CI la yX0_looksLike wsX0_looksLike 0 0 E rh0 [.ref (ad E (0, n, e, 0)), .ref (ad E (0, n2, e2, 0))] σ0 (eLikeP σ0 n e n2 e2 6 0) σ0 := by
  refine met_of (lv := [some _, some _, none]) RX0 (by decide) rfl rfl rfl hE (ok2 rfl rfl) (Nat.le_of_ble_eq_true rfl) (fun p ev s m args below meth c Q cx hlk hr hQ => ?_)
  have l2 : ∀ (d i : Nat), i + d = 8 → eLikeF σ0 n e n2 e2 d i = eLikeP σ0 n e n2 e2 6 0 → AW p la ev (rmm 0 0) s m args below meth c 0 0 Q (AL E) E rh0 51 [some (.ref (ad E (0, n, e, 0))), some (.ref (ad E (0, n2, e2, 0))), some (.int (nI i))] [] σ0 := by
    intro d
    induction d with
    | zero =>
      intro i  hi hF
      obtain rfl : i = 8 := by omega
      refine A_iload_n (q := 52) cx dX0_looksLike_51 rfl rfl ?_
      refine A_aload_n (q := 53) cx dX0_looksLike_52 rfl rfl rfl ?_
      refine gX0_3 (q := 56) cx wi_X0_looksLike_X0 wf_X0_looksLike_24 dX0_looksLike_53 rfl (in0 hX (by omega)) rfl rfl ?_
      refine A_alen11 (v := 8) (q := 57) cx dX0_looksLike_56 rfl (in11 hX (by omega)) rfl rfl ?_
      refine A_icmp_ge (tgt := 98) (q := 60) cx dX0_looksLike_57 (by decide) rfl (fun c_57 => ?_) (fun c_57 => ?_)
      · refine A_iconst (v := 1) (q := 99) cx dX0_looksLike_98 (by decide) rfl ?_
        exact A_zret cx hlk hr hQ dX0_looksLike_99 (by first | exact Or.inl rfl | exact Or.inr rfl | exact b01_or _ | assumption) hF rfl
      · exact absurd (by decide) c_57
    | succ d ih =>
      intro i  hi hF
      refine A_iload_n (q := 52) cx dX0_looksLike_51 rfl rfl ?_
      refine A_aload_n (q := 53) cx dX0_looksLike_52 rfl rfl rfl ?_
      refine gX0_3 (q := 56) cx wi_X0_looksLike_X0 wf_X0_looksLike_24 dX0_looksLike_53 rfl (in0 hX (by omega)) rfl rfl ?_
      refine A_alen11 (v := 8) (q := 57) cx dX0_looksLike_56 rfl (in11 hX (by omega)) rfl rfl ?_
      refine A_icmp_ge (tgt := 98) (q := 60) cx dX0_looksLike_57 (by decide) rfl (fun c_57 => ?_) (fun c_57 => ?_)
      · exact absurd c_57 (not_ge (i := i) (b := 8) (by omega) (by decide))
      · refine A_iload_n (q := 61) cx dX0_looksLike_60 rfl rfl ?_
        refine A_aload_n (q := 62) cx dX0_looksLike_61 rfl rfl rfl ?_
        refine gX0_3 (q := 65) cx wi_X0_looksLike_X0 wf_X0_looksLike_24 dX0_looksLike_62 rfl (in0 hX (by omega)) rfl rfl ?_
        refine A_alen11 (v := 8) (q := 66) cx dX0_looksLike_65 rfl (in11 hX (by omega)) rfl rfl ?_
        refine A_icmp_ge (tgt := 98) (q := 69) cx dX0_looksLike_66 (by decide) rfl (fun c_66 => ?_) (fun c_66 => ?_)
        · exact absurd c_66 (not_ge (i := i) (b := 8) (by omega) (by decide))
        · refine A_aload_n (q := 70) cx dX0_looksLike_69 rfl rfl rfl ?_
          refine gX0_3 (q := 73) cx wi_X0_looksLike_X0 wf_X0_looksLike_24 dX0_looksLike_70 rfl (in0 hX (by omega)) rfl rfl ?_
          refine A_iload_n (q := 74) cx dX0_looksLike_73 rfl rfl ?_
          refine A_aaload11 (q := 75) cx dX0_looksLike_74 rfl (in11 hX (by omega)) rfl (by show _ < 8; omega) rfl rfl ?_
          refine gX1_0 (q := 78) cx wi_X0_looksLike_X1 wf_X0_looksLike_46 dX0_looksLike_75 rfl (in1 hX (by omega)) rfl ?_
          refine A_aload_n (q := 79) cx dX0_looksLike_78 rfl rfl rfl ?_
          refine gX0_3 (q := 82) cx wi_X0_looksLike_X0 wf_X0_looksLike_24 dX0_looksLike_79 rfl (in0 hX (by omega)) rfl rfl ?_
          refine A_iload_n (q := 83) cx dX0_looksLike_82 rfl rfl ?_
          refine A_aaload11 (q := 84) cx dX0_looksLike_83 rfl (in11 hX (by omega)) rfl (by show _ < 8; omega) rfl rfl ?_
          refine gX1_0 (q := 87) cx wi_X0_looksLike_X1 wf_X0_looksLike_46 dX0_looksLike_84 rfl (in1 hX (by omega)) rfl ?_
          refine A_icmp_eq (tgt := 92) (q := 90) cx dX0_looksLike_87 (by decide) rfl (fun c_87 => ?_) (fun c_87 => ?_)
          · refine A_iinc (lv' := [some _, some _, some _]) (q := 95) cx dX0_looksLike_92 rfl (nI_1 i) rfl rfl ?_
            refine A_goto (q := 51) cx dX0_looksLike_95 (by decide) ?_
            exact ih (i + 1) (by omega) (by rw [← hF, eLikeF, if_pos c_87])
          · refine A_iconst (v := 0) (q := 91) cx dX0_looksLike_90 (by decide) rfl ?_
            exact A_zret cx hlk hr hQ dX0_looksLike_91 (by first | exact Or.inl rfl | exact Or.inr rfl | exact b01_or _ | assumption) (by rw [← hF, eLikeF, if_neg c_87]) rfl
  have l1 : ∀ (d i : Nat), i + d = 6 → eLikeP σ0 n e n2 e2 d i = eLikeP σ0 n e n2 e2 6 0 → AW p la ev (rmm 0 0) s m args below meth c 0 0 Q (AL E) E rh0 2 [some (.ref (ad E (0, n, e, 0))), some (.ref (ad E (0, n2, e2, 0))), some (.int (nI i))] [] σ0 := by
    intro d
    induction d with
    | zero =>
      intro i  hi hF
      obtain rfl : i = 6 := by omega
      refine A_iload_n (q := 3) cx dX0_looksLike_2 rfl rfl ?_
      refine A_aload_n (q := 4) cx dX0_looksLike_3 rfl rfl rfl ?_
      refine gX0_2 (q := 7) cx wi_X0_looksLike_X0 wf_X0_looksLike_17 dX0_looksLike_4 rfl (in0 hX (by omega)) rfl rfl ?_
      refine A_alen13 (v := 6) (q := 8) cx dX0_looksLike_7 rfl (in13 hX (by omega)) rfl rfl ?_
      refine A_icmp_ge (tgt := 49) (q := 11) cx dX0_looksLike_8 (by decide) rfl (fun c_8 => ?_) (fun c_8 => ?_)
      · refine A_iconst (v := 0) (q := 50) cx dX0_looksLike_49 (by decide) rfl ?_
        refine A_istore_n (lv' := [some _, some _, some _]) (q := 51) cx dX0_looksLike_50 (Nat.le_of_ble_eq_true rfl) rfl rfl ?_
        exact l2 8 0 rfl hF
      · exact absurd (by decide) c_8
    | succ d ih =>
      intro i  hi hF
      refine A_iload_n (q := 3) cx dX0_looksLike_2 rfl rfl ?_
      refine A_aload_n (q := 4) cx dX0_looksLike_3 rfl rfl rfl ?_
      refine gX0_2 (q := 7) cx wi_X0_looksLike_X0 wf_X0_looksLike_17 dX0_looksLike_4 rfl (in0 hX (by omega)) rfl rfl ?_
      refine A_alen13 (v := 6) (q := 8) cx dX0_looksLike_7 rfl (in13 hX (by omega)) rfl rfl ?_
      refine A_icmp_ge (tgt := 49) (q := 11) cx dX0_looksLike_8 (by decide) rfl (fun c_8 => ?_) (fun c_8 => ?_)
      · exact absurd c_8 (not_ge (i := i) (b := 6) (by omega) (by decide))
      · refine A_iload_n (q := 12) cx dX0_looksLike_11 rfl rfl ?_
        refine A_aload_n (q := 13) cx dX0_looksLike_12 rfl rfl rfl ?_
        refine gX0_2 (q := 16) cx wi_X0_looksLike_X0 wf_X0_looksLike_17 dX0_looksLike_13 rfl (in0 hX (by omega)) rfl rfl ?_
        refine A_alen13 (v := 6) (q := 17) cx dX0_looksLike_16 rfl (in13 hX (by omega)) rfl rfl ?_
        refine A_icmp_ge (tgt := 49) (q := 20) cx dX0_looksLike_17 (by decide) rfl (fun c_17 => ?_) (fun c_17 => ?_)
        · exact absurd c_17 (not_ge (i := i) (b := 6) (by omega) (by decide))
        · refine A_aload_n (q := 21) cx dX0_looksLike_20 rfl rfl rfl ?_
          refine gX0_2 (q := 24) cx wi_X0_looksLike_X0 wf_X0_looksLike_17 dX0_looksLike_21 rfl (in0 hX (by omega)) rfl rfl ?_
          refine A_iload_n (q := 25) cx dX0_looksLike_24 rfl rfl ?_
          refine A_aaload13 (q := 26) cx dX0_looksLike_25 rfl (in13 hX (by omega)) rfl (by show _ < 6; omega) rfl rfl ?_
          refine gX5_7 (q := 29) cx wi_X0_looksLike_X5 wf_X0_looksLike_43 dX0_looksLike_26 rfl (in5 hX (by omega)) rfl ?_
          refine A_aload_n (q := 30) cx dX0_looksLike_29 rfl rfl rfl ?_
          refine gX0_2 (q := 33) cx wi_X0_looksLike_X0 wf_X0_looksLike_17 dX0_looksLike_30 rfl (in0 hX (by omega)) rfl rfl ?_
          refine A_iload_n (q := 34) cx dX0_looksLike_33 rfl rfl ?_
          refine A_aaload13 (q := 35) cx dX0_looksLike_34 rfl (in13 hX (by omega)) rfl (by show _ < 6; omega) rfl rfl ?_
          refine gX5_7 (q := 38) cx wi_X0_looksLike_X5 wf_X0_looksLike_43 dX0_looksLike_35 rfl (in5 hX (by omega)) rfl ?_
          refine A_icmp_eq (tgt := 43) (q := 41) cx dX0_looksLike_38 (by decide) rfl (fun c_38 => ?_) (fun c_38 => ?_)
          · refine A_iinc (lv' := [some _, some _, some _]) (q := 46) cx dX0_looksLike_43 rfl (nI_1 i) rfl rfl ?_
            refine A_goto (q := 2) cx dX0_looksLike_46 (by decide) ?_
            exact ih (i + 1) (by omega) (by rw [← hF, eLikeP, if_pos c_38])
          · refine A_iconst (v := 0) (q := 42) cx dX0_looksLike_41 (by decide) rfl ?_
            exact A_zret cx hlk hr hQ dX0_looksLike_42 (by first | exact Or.inl rfl | exact Or.inr rfl | exact b01_or _ | assumption) (by rw [← hF, eLikeP, if_neg c_38]) rfl
  refine A_iconst (v := 0) (q := 1) cx dX0_looksLike_0 (by decide) rfl ?_
  refine A_istore_n (lv' := [some _, some _, some _]) (q := 2) cx dX0_looksLike_1 (Nat.le_of_ble_eq_true rfl) rfl rfl ?_
  exact l1 6 0 rfl rfl
theorem wi_X0_portAt_X0 : ∀ w ∈ u_ws RX0 TX0 4, w ∈ wsX0_portAt := by decide +kernel
theorem wf_X0_portAt_17 : Cond.fieldLink RX0 17 (TX0 2).1 (TX0 2).2.1 (TX0 2).2.2.1 ∈ wsX0_portAt := by decide +kernel
set_option maxHeartbeats 4000000 in
set_option maxRecDepth 100000 in
theorem ct_X0_portAt {la : Launch} {E : Ev} (hE : okE E) (hX : xin E) {σ : Sg} {n e : Nat} {x : Int32} (hn : n < 9 ∧ e < 2 := by omega) : CQ la yX0_portAt wsX0_portAt 0 0 E rh0 [.ref (ad E (0, n, e, 0)), .int x] σ ((eAt 6 x).map (fun l => (5, n, e, l))) σ := by
  refine met_of (lv := [some _, some _]) RX0 (by decide) rfl rfl rfl hE (ok2 rfl rfl) (Nat.le_of_ble_eq_true rfl) (fun p ev s m args below meth c Q cx hlk hr hQ => ?_)
  refine A_iload_n (q := 1) cx dX0_portAt_0 rfl rfl ?_
  refine A_if_lt (tgt := 22) (q := 4) cx dX0_portAt_1 (by decide) rfl (fun c_1 => ?_) (fun c_1 => ?_)
  · refine A_null (q := 23) cx dX0_portAt_22 rfl ?_
    exact A_aret cx hlk hr hQ dX0_portAt_23 (by first | (have he : eAt 6 x = some j := eAt_of2 c_1 c_10 hcl; rw [he]; rfl) | simp [eAt, rv, va_rf, show nI 6 = (6 : Int32) from rfl, *]) rfl
  · refine A_iload_n (q := 5) cx dX0_portAt_4 rfl rfl ?_
    refine A_aload_n (q := 6) cx dX0_portAt_5 rfl rfl rfl ?_
    refine gX0_2 (q := 9) cx wi_X0_portAt_X0 wf_X0_portAt_17 dX0_portAt_6 rfl (in0 hX (by omega)) rfl rfl ?_
    refine A_alen13 (v := 6) (q := 10) cx dX0_portAt_9 rfl (in13 hX (by omega)) rfl rfl ?_
    refine A_icmp_ge (tgt := 22) (q := 13) cx dX0_portAt_10 (by decide) rfl (fun c_10 => ?_) (fun c_10 => ?_)
    · refine A_null (q := 23) cx dX0_portAt_22 rfl ?_
      exact A_aret cx hlk hr hQ dX0_portAt_23 (by first | (have he : eAt 6 x = some j := eAt_of2 c_1 c_10 hcl; rw [he]; rfl) | simp [eAt, rv, va_rf, show nI 6 = (6 : Int32) from rfl, *]) rfl
    · obtain ⟨j, hj, hx, -, hcl, -⟩ := pk_mu (L := 6) c_1 c_10 (by decide)
      refine A_aload_n (q := 14) cx dX0_portAt_13 rfl rfl rfl ?_
      refine gX0_2 (q := 17) cx wi_X0_portAt_X0 wf_X0_portAt_17 dX0_portAt_14 rfl (in0 hX (by omega)) rfl rfl ?_
      refine A_iload_n (q := 18) cx dX0_portAt_17 rfl rfl ?_
      refine A_aaload13 (q := 19) cx dX0_portAt_18 rfl (in13 hX (by omega)) hx (by show _ < 6; omega) rfl rfl ?_
      refine A_goto (q := 23) cx dX0_portAt_19 (by decide) ?_
      exact A_aret cx hlk hr hQ dX0_portAt_23 (by first | (have he : eAt 6 x = some j := eAt_of2 c_1 c_10 hcl; rw [he]; rfl) | simp [eAt, rv, va_rf, show nI 6 = (6 : Int32) from rfl, *]) rfl
theorem wi_X0_flowAt_X0 : ∀ w ∈ u_ws RX0 TX0 4, w ∈ wsX0_flowAt := by decide +kernel
theorem wf_X0_flowAt_24 : Cond.fieldLink RX0 24 (TX0 3).1 (TX0 3).2.1 (TX0 3).2.2.1 ∈ wsX0_flowAt := by decide +kernel
set_option maxHeartbeats 4000000 in
set_option maxRecDepth 100000 in
theorem ct_X0_flowAt {la : Launch} {E : Ev} (hE : okE E) (hX : xin E) {σ : Sg} {n e : Nat} {x : Int32} (hn : n < 9 ∧ e < 2 := by omega) : CQ la yX0_flowAt wsX0_flowAt 0 0 E rh0 [.ref (ad E (0, n, e, 0)), .int x] σ ((eAt 8 x).map (fun l => (1, n, e, l))) σ := by
  refine met_of (lv := [some _, some _]) RX0 (by decide) rfl rfl rfl hE (ok2 rfl rfl) (Nat.le_of_ble_eq_true rfl) (fun p ev s m args below meth c Q cx hlk hr hQ => ?_)
  refine A_iload_n (q := 1) cx dX0_flowAt_0 rfl rfl ?_
  refine A_if_lt (tgt := 22) (q := 4) cx dX0_flowAt_1 (by decide) rfl (fun c_1 => ?_) (fun c_1 => ?_)
  · refine A_null (q := 23) cx dX0_flowAt_22 rfl ?_
    exact A_aret cx hlk hr hQ dX0_flowAt_23 (by first | (have he : eAt 8 x = some j := eAt_of2 c_1 c_10 hcl; rw [he]; rfl) | simp [eAt, rv, va_rf, show nI 8 = (8 : Int32) from rfl, *]) rfl
  · refine A_iload_n (q := 5) cx dX0_flowAt_4 rfl rfl ?_
    refine A_aload_n (q := 6) cx dX0_flowAt_5 rfl rfl rfl ?_
    refine gX0_3 (q := 9) cx wi_X0_flowAt_X0 wf_X0_flowAt_24 dX0_flowAt_6 rfl (in0 hX (by omega)) rfl rfl ?_
    refine A_alen11 (v := 8) (q := 10) cx dX0_flowAt_9 rfl (in11 hX (by omega)) rfl rfl ?_
    refine A_icmp_ge (tgt := 22) (q := 13) cx dX0_flowAt_10 (by decide) rfl (fun c_10 => ?_) (fun c_10 => ?_)
    · refine A_null (q := 23) cx dX0_flowAt_22 rfl ?_
      exact A_aret cx hlk hr hQ dX0_flowAt_23 (by first | (have he : eAt 8 x = some j := eAt_of2 c_1 c_10 hcl; rw [he]; rfl) | simp [eAt, rv, va_rf, show nI 8 = (8 : Int32) from rfl, *]) rfl
    · obtain ⟨j, hj, hx, -, hcl, -⟩ := pk_mu (L := 8) c_1 c_10 (by decide)
      refine A_aload_n (q := 14) cx dX0_flowAt_13 rfl rfl rfl ?_
      refine gX0_3 (q := 17) cx wi_X0_flowAt_X0 wf_X0_flowAt_24 dX0_flowAt_14 rfl (in0 hX (by omega)) rfl rfl ?_
      refine A_iload_n (q := 18) cx dX0_flowAt_17 rfl rfl ?_
      refine A_aaload11 (q := 19) cx dX0_flowAt_18 rfl (in11 hX (by omega)) hx (by show _ < 8; omega) rfl rfl ?_
      refine A_goto (q := 23) cx dX0_flowAt_19 (by decide) ?_
      exact A_aret cx hlk hr hQ dX0_flowAt_23 (by first | (have he : eAt 8 x = some j := eAt_of2 c_1 c_10 hcl; rw [he]; rfl) | simp [eAt, rv, va_rf, show nI 8 = (8 : Int32) from rfl, *]) rfl
theorem wi_X0_hearFrom_X0 : ∀ w ∈ u_ws RX0 TX0 4, w ∈ wsX0_hearFrom := by decide +kernel
theorem wf_X0_hearFrom_17 : Cond.fieldLink RX0 17 (TX0 2).1 (TX0 2).2.1 (TX0 2).2.2.1 ∈ wsX0_hearFrom := by decide +kernel
theorem wi_X0_hearFrom_X5 : ∀ w ∈ u_ws RX5 TX5 11, w ∈ wsX0_hearFrom := by decide +kernel
theorem wf_X0_hearFrom_49 : Cond.fieldLink RX0 49 (TX5 5).1 (TX5 5).2.1 (TX5 5).2.2.1 ∈ wsX0_hearFrom := by decide +kernel
set_option maxHeartbeats 4000000 in
set_option maxRecDepth 100000 in
theorem ct_X0_hearFrom {la : Launch} {E : Ev} (hE : okE E) (hX : xin E) {σ0 : Sg} {n e : Nat} (hn : n < 9 ∧ e < 2 := by omega) {n2 e2 : Nat} (hn2 : n2 < 9 ∧ e2 < 2 := by omega) : CV la yX0_hearFrom wsX0_hearFrom 2 42 E rh0 [.ref (ad E (0, n, e, 0)), .ref (ad E (0, n2, e2, 0))] σ0 (eHear n e n2 e2 6 0 σ0) := by
  refine met_of (lv := [some _, some _, none]) RX0 (by decide) rfl rfl rfl hE (ok2 rfl rfl) (Nat.le_of_ble_eq_true rfl) (fun p ev s m args below meth c Q cx hlk hr hQ => ?_)
  have l1 : ∀ (d i : Nat) (σ : Sg), i + d = 6 → eHear n e n2 e2 d i σ = eHear n e n2 e2 6 0 σ0 → AW p la ev (rmm 2 42) s m args below meth c 0 0 Q (AL E) E rh0 2 [some (.ref (ad E (0, n, e, 0))), some (.ref (ad E (0, n2, e2, 0))), some (.int (nI i))] [] σ := by
    intro d
    induction d with
    | zero =>
      intro i σ  hi hF
      obtain rfl : i = 6 := by omega
      refine A_iload_n (q := 3) cx dX0_hearFrom_2 rfl rfl ?_
      refine A_aload_n (q := 4) cx dX0_hearFrom_3 rfl rfl rfl ?_
      refine gX0_2 (q := 7) cx wi_X0_hearFrom_X0 wf_X0_hearFrom_17 dX0_hearFrom_4 rfl (in0 hX (by omega)) rfl rfl ?_
      refine A_alen13 (v := 6) (q := 8) cx dX0_hearFrom_7 rfl (in13 hX (by omega)) rfl rfl ?_
      refine A_icmp_ge (tgt := 44) (q := 11) cx dX0_hearFrom_8 (by decide) rfl (fun c_8 => ?_) (fun c_8 => ?_)
      · exact A_vret cx hlk hr hQ dX0_hearFrom_44 hF
      · exact absurd (by decide) c_8
    | succ d ih =>
      intro i σ  hi hF
      refine A_iload_n (q := 3) cx dX0_hearFrom_2 rfl rfl ?_
      refine A_aload_n (q := 4) cx dX0_hearFrom_3 rfl rfl rfl ?_
      refine gX0_2 (q := 7) cx wi_X0_hearFrom_X0 wf_X0_hearFrom_17 dX0_hearFrom_4 rfl (in0 hX (by omega)) rfl rfl ?_
      refine A_alen13 (v := 6) (q := 8) cx dX0_hearFrom_7 rfl (in13 hX (by omega)) rfl rfl ?_
      refine A_icmp_ge (tgt := 44) (q := 11) cx dX0_hearFrom_8 (by decide) rfl (fun c_8 => ?_) (fun c_8 => ?_)
      · exact absurd c_8 (not_ge (i := i) (b := 6) (by omega) (by decide))
      · refine A_iload_n (q := 12) cx dX0_hearFrom_11 rfl rfl ?_
        refine A_aload_n (q := 13) cx dX0_hearFrom_12 rfl rfl rfl ?_
        refine gX0_2 (q := 16) cx wi_X0_hearFrom_X0 wf_X0_hearFrom_17 dX0_hearFrom_13 rfl (in0 hX (by omega)) rfl rfl ?_
        refine A_alen13 (v := 6) (q := 17) cx dX0_hearFrom_16 rfl (in13 hX (by omega)) rfl rfl ?_
        refine A_icmp_ge (tgt := 44) (q := 20) cx dX0_hearFrom_17 (by decide) rfl (fun c_17 => ?_) (fun c_17 => ?_)
        · exact absurd c_17 (not_ge (i := i) (b := 6) (by omega) (by decide))
        · refine A_aload_n (q := 21) cx dX0_hearFrom_20 rfl rfl rfl ?_
          refine gX0_2 (q := 24) cx wi_X0_hearFrom_X0 wf_X0_hearFrom_17 dX0_hearFrom_21 rfl (in0 hX (by omega)) rfl rfl ?_
          refine A_iload_n (q := 25) cx dX0_hearFrom_24 rfl rfl ?_
          refine A_aaload13 (q := 26) cx dX0_hearFrom_25 rfl (in13 hX (by omega)) rfl (by show _ < 6; omega) rfl rfl ?_
          refine A_aload_n (q := 27) cx dX0_hearFrom_26 rfl rfl rfl ?_
          refine gX0_2 (q := 30) cx wi_X0_hearFrom_X0 wf_X0_hearFrom_17 dX0_hearFrom_27 rfl (in0 hX (by omega)) rfl rfl ?_
          refine A_iload_n (q := 31) cx dX0_hearFrom_30 rfl rfl ?_
          refine A_aaload13 (q := 32) cx dX0_hearFrom_31 rfl (in13 hX (by omega)) rfl (by show _ < 6; omega) rfl rfl ?_
          refine gX5_5 (q := 35) cx wi_X0_hearFrom_X5 wf_X0_hearFrom_49 dX0_hearFrom_32 rfl (in5 hX (by omega)) rfl rfl ?_
          refine VV1 (q := 38) cx (ct_X5_hear hE hX rfl (in14 hX (by omega))) (cwV 1 cx.1.2.2.2.2 gX0_hearFrom_X5_hear rfl rfl rfl (by decide +kernel) ⟨Nat.le_of_ble_eq_true rfl, Nat.le_of_ble_eq_true rfl⟩) dX0_hearFrom_35 rfl rfl (in5 hX (by omega)) rfl (Nat.le_of_ble_eq_true rfl) ⟨Nat.zero_le _, Nat.zero_le _⟩ rfl ?_
          refine A_iinc (lv' := [some _, some _, some _]) (q := 41) cx dX0_hearFrom_38 rfl (nI_1 i) rfl rfl ?_
          refine A_goto (q := 2) cx dX0_hearFrom_41 (by decide) ?_
          exact ih (i + 1) _ (by omega) hF
  refine A_iconst (v := 0) (q := 1) cx dX0_hearFrom_0 (by decide) rfl ?_
  refine A_istore_n (lv' := [some _, some _, some _]) (q := 2) cx dX0_hearFrom_1 (Nat.le_of_ble_eq_true rfl) rfl rfl ?_
  exact l1 6 0 _ rfl rfl
theorem wi_X0_decides_X5 : ∀ w ∈ u_ws RX5 TX5 11, w ∈ wsX0_decides := by decide +kernel
theorem wf_X0_decides_69 : Cond.fieldLink RX0 69 (TX5 4).1 (TX5 4).2.1 (TX5 4).2.2.1 ∈ wsX0_decides := by decide +kernel
theorem wi_X0_decides_X3 : ∀ w ∈ u_ws RX3 TX3 5, w ∈ wsX0_decides := by decide +kernel
theorem wf_X0_decides_72 : Cond.fieldLink RX0 72 (TX3 0).1 (TX3 0).2.1 (TX3 0).2.2.1 ∈ wsX0_decides := by decide +kernel
theorem wf_X0_decides_77 : Cond.fieldLink RX0 77 (TX3 3).1 (TX3 3).2.1 (TX3 3).2.2.1 ∈ wsX0_decides := by decide +kernel
theorem wi_X0_decides_X0 : ∀ w ∈ u_ws RX0 TX0 4, w ∈ wsX0_decides := by decide +kernel
theorem wf_X0_decides_9 : Cond.fieldLink RX0 9 (TX0 0).1 (TX0 0).2.1 (TX0 0).2.2.1 ∈ wsX0_decides := by decide +kernel
theorem wf_X0_decides_29 : Cond.fieldLink RX0 29 (TX0 1).1 (TX0 1).2.1 (TX0 1).2.2.1 ∈ wsX0_decides := by decide +kernel
theorem wf_X0_decides_17 : Cond.fieldLink RX0 17 (TX0 2).1 (TX0 2).2.1 (TX0 2).2.2.1 ∈ wsX0_decides := by decide +kernel
set_option maxHeartbeats 4000000 in
set_option maxRecDepth 100000 in
theorem ct_X0_decides {la : Launch} {E : Ev} (hE : okE E) (hX : xin E) {σ0 : Sg} {n e : Nat} (hn : n < 9 ∧ e < 2 := by omega) : CI la yX0_decides wsX0_decides 0 0 E rh0 [.ref (ad E (0, n, e, 0))] σ0 (eDec σ0 n e) σ0 := by
  refine met_of (lv := [some _, none, none, none, none, none]) RX0 (by decide) rfl rfl rfl hE (ok1 rfl) (Nat.le_of_ble_eq_true rfl) (fun p ev s m args below meth c Q cx hlk hr hQ => ?_)
  have l1 : ∀ (d i : Nat), i + d = 6 → eDecR σ0 n e d i = eDec σ0 n e → AW p la ev (rmm 0 0) s m args below meth c 0 0 Q (AL E) E rh0 10 [some (.ref (ad E (0, n, e, 0))), some (.ref (ad E (13, n, e, 0))), some (.int 6), some (.int (nI i)), none, none] [] σ0 := by
    intro d
    induction d with
    | zero =>
      intro i  hi hF
      obtain rfl : i = 6 := by omega
      refine A_iload_n (q := 11) cx dX0_decides_10 rfl rfl ?_
      refine A_iload_n (q := 12) cx dX0_decides_11 rfl rfl ?_
      refine A_icmp_ge (tgt := 86) (q := 15) cx dX0_decides_12 (by decide) rfl (fun c_12 => ?_) (fun c_12 => ?_)
      · refine A_iconst (v := 1) (q := 87) cx dX0_decides_86 (by decide) rfl ?_
        exact A_zret cx hlk hr hQ dX0_decides_87 (by first | exact Or.inl rfl | exact Or.inr rfl | exact b01_or _ | assumption) hF rfl
      · exact absurd (by decide) c_12
    | succ d ih =>
      intro i  hi hF
      refine A_iload_n (q := 11) cx dX0_decides_10 rfl rfl ?_
      refine A_iload_n (q := 12) cx dX0_decides_11 rfl rfl ?_
      refine A_icmp_ge (tgt := 86) (q := 15) cx dX0_decides_12 (by decide) rfl (fun c_12 => ?_) (fun c_12 => ?_)
      · exact absurd c_12 (not_ge (i := i) (b := 6) (by omega) (by decide))
      · refine A_aload_n (q := 16) cx dX0_decides_15 rfl rfl rfl ?_
        refine A_iload_n (q := 17) cx dX0_decides_16 rfl rfl ?_
        refine A_aaload13 (q := 18) cx dX0_decides_17 rfl (in13 hX (by omega)) rfl (by show _ < 6; omega) rfl rfl ?_
        refine A_astore (lv' := [some _, some _, some _, some _, some _, none]) (q := 20) cx dX0_decides_18 (Nat.le_of_ble_eq_true rfl) rfl rfl rfl ?_
        refine A_aload (q := 22) cx dX0_decides_20 rfl rfl rfl ?_
        refine gX5_4 (q := 25) cx wi_X0_decides_X5 wf_X0_decides_69 dX0_decides_22 rfl (in5 hX (by omega)) rfl rfl ?_
        refine gX3_0 (q := 28) cx wi_X0_decides_X3 wf_X0_decides_72 dX0_decides_25 rfl (by first | assumption | exact in3 hX (by omega) | exact in14 hX (by omega)) rfl ?_
        refine A_if_eq (tgt := 80) (q := 31) cx dX0_decides_28 (by decide) rfl (fun c_28 => ?_) (fun c_28 => ?_)
        · refine A_iinc (lv' := [some _, some _, some _, some _, some _, none]) (q := 83) cx dX0_decides_80 rfl (nI_1 i) rfl rfl ?_
          refine A_goto (q := 10) cx dX0_decides_83 (by decide) ?_
          exact A_drop 4 rfl (ih (i + 1) (by omega) (by rw [← hF, eDecR, if_pos c_28]))
        · refine A_aload (q := 33) cx dX0_decides_31 rfl rfl rfl ?_
          refine gX5_4 (q := 36) cx wi_X0_decides_X5 wf_X0_decides_69 dX0_decides_33 rfl (in5 hX (by omega)) rfl rfl ?_
          refine gX3_3 (q := 39) cx wi_X0_decides_X3 wf_X0_decides_77 dX0_decides_36 rfl (by first | assumption | exact in3 hX (by omega) | exact in14 hX (by omega)) rfl ?_
          refine A_istore (lv' := [some _, some _, some _, some _, some _, some _]) (q := 41) cx dX0_decides_39 (Nat.le_of_ble_eq_true rfl) rfl rfl ?_
          refine A_aload_n (q := 42) cx dX0_decides_41 rfl rfl rfl ?_
          refine gX0_0 (q := 45) cx wi_X0_decides_X0 wf_X0_decides_9 dX0_decides_42 rfl (in0 hX (by omega)) rfl ?_
          refine A_if_ne (tgt := 65) (q := 48) cx dX0_decides_45 (by decide) rfl (fun c_45 => ?_) (fun c_45 => ?_)
          · refine A_aload_n (q := 66) cx dX0_decides_65 rfl rfl rfl ?_
            refine gX0_1 (q := 69) cx wi_X0_decides_X0 wf_X0_decides_29 dX0_decides_66 rfl (in0 hX (by omega)) rfl ?_
            refine A_iload (q := 71) cx dX0_decides_69 rfl rfl ?_
            refine A_icmp_ge (tgt := 78) (q := 74) cx dX0_decides_71 (by decide) rfl (fun c_71 => ?_) (fun c_71 => ?_)
            · refine A_iconst (v := 0) (q := 79) cx dX0_decides_78 (by decide) rfl ?_
              exact A_zret cx hlk hr hQ dX0_decides_79 (by first | exact Or.inl rfl | exact Or.inr rfl | exact b01_or _ | assumption) (by rw [← hF, eDecR]; simp [*]) rfl
            · refine A_iconst (v := 1) (q := 75) cx dX0_decides_74 (by decide) rfl ?_
              refine A_goto (q := 79) cx dX0_decides_75 (by decide) ?_
              exact A_zret cx hlk hr hQ dX0_decides_79 (by first | exact Or.inl rfl | exact Or.inr rfl | exact b01_or _ | assumption) (by rw [← hF, eDecR]; simp [*]) rfl
          · refine A_aload_n (q := 49) cx dX0_decides_48 rfl rfl rfl ?_
            refine gX0_1 (q := 52) cx wi_X0_decides_X0 wf_X0_decides_29 dX0_decides_49 rfl (in0 hX (by omega)) rfl ?_
            refine A_iload (q := 54) cx dX0_decides_52 rfl rfl ?_
            refine A_icmp_gt (tgt := 61) (q := 57) cx dX0_decides_54 (by decide) rfl (fun c_54 => ?_) (fun c_54 => ?_)
            · refine A_iconst (v := 0) (q := 62) cx dX0_decides_61 (by decide) rfl ?_
              refine A_goto (q := 79) cx dX0_decides_62 (by decide) ?_
              exact A_zret cx hlk hr hQ dX0_decides_79 (by first | exact Or.inl rfl | exact Or.inr rfl | exact b01_or _ | assumption) (by rw [← hF, eDecR]; simp [*]) rfl
            · refine A_iconst (v := 1) (q := 58) cx dX0_decides_57 (by decide) rfl ?_
              refine A_goto (q := 79) cx dX0_decides_58 (by decide) ?_
              exact A_zret cx hlk hr hQ dX0_decides_79 (by first | exact Or.inl rfl | exact Or.inr rfl | exact b01_or _ | assumption) (by rw [← hF, eDecR]; simp [*]) rfl
  refine A_aload_n (q := 1) cx dX0_decides_0 rfl rfl rfl ?_
  refine gX0_2 (q := 4) cx wi_X0_decides_X0 wf_X0_decides_17 dX0_decides_1 rfl (in0 hX (by omega)) rfl rfl ?_
  refine A_astore_n (lv' := [some _, some _, none, none, none, none]) (q := 5) cx dX0_decides_4 (Nat.le_of_ble_eq_true rfl) rfl rfl rfl ?_
  refine A_aload_n (q := 6) cx dX0_decides_5 rfl rfl rfl ?_
  refine A_alen13 (v := 6) (q := 7) cx dX0_decides_6 rfl (in13 hX (by omega)) rfl rfl ?_
  refine A_istore_n (lv' := [some _, some _, some _, none, none, none]) (q := 8) cx dX0_decides_7 (Nat.le_of_ble_eq_true rfl) rfl rfl ?_
  refine A_iconst (v := 0) (q := 9) cx dX0_decides_8 (by decide) rfl ?_
  refine A_istore_n (lv' := [some _, some _, some _, some _, none, none]) (q := 10) cx dX0_decides_9 (Nat.le_of_ble_eq_true rfl) rfl rfl ?_
  exact l1 6 0 rfl rfl
theorem wi_X0_howManySending_X5 : ∀ w ∈ u_ws RX5 TX5 11, w ∈ wsX0_howManySending := by decide +kernel
theorem wf_X0_howManySending_43 : Cond.fieldLink RX0 43 (TX5 7).1 (TX5 7).2.1 (TX5 7).2.2.1 ∈ wsX0_howManySending := by decide +kernel
theorem wi_X0_howManySending_X0 : ∀ w ∈ u_ws RX0 TX0 4, w ∈ wsX0_howManySending := by decide +kernel
theorem wf_X0_howManySending_17 : Cond.fieldLink RX0 17 (TX0 2).1 (TX0 2).2.1 (TX0 2).2.2.1 ∈ wsX0_howManySending := by decide +kernel
set_option maxHeartbeats 4000000 in
set_option maxRecDepth 100000 in
theorem ct_X0_howManySending {la : Launch} {E : Ev} (hE : okE E) (hX : xin E) {σ0 : Sg} {n e : Nat} (hn : n < 9 ∧ e < 2 := by omega) : CI la yX0_howManySending wsX0_howManySending 0 0 E rh0 [.ref (ad E (0, n, e, 0))] σ0 (eSend σ0 n e) σ0 := by
  refine met_of (lv := [some _, none, none, none, none, none]) RX0 (by decide) rfl rfl rfl hE (ok1 rfl) (Nat.le_of_ble_eq_true rfl) (fun p ev s m args below meth c Q cx hlk hr hQ => ?_)
  have l1 : ∀ (d i : Nat) (a : Int32), i + d = 6 → cnt (fun i => if σ0 (5, n, e, i) 7 = 5 then 1 else 0) d i a = eSend σ0 n e → AW p la ev (rmm 0 0) s m args below meth c 0 0 Q (AL E) E rh0 13 [some (.ref (ad E (0, n, e, 0))), some (.int a), some (.ref (ad E (13, n, e, 0))), some (.int 6), some (.int (nI i)), none] [] σ0 := by
    intro d
    induction d with
    | zero =>
      intro i a hi hF
      obtain rfl : i = 6 := by omega
      refine A_iload (q := 15) cx dX0_howManySending_13 rfl rfl ?_
      refine A_iload_n (q := 16) cx dX0_howManySending_15 rfl rfl ?_
      refine A_icmp_ge (tgt := 48) (q := 19) cx dX0_howManySending_16 (by decide) rfl (fun c_16 => ?_) (fun c_16 => ?_)
      · refine A_iload_n (q := 49) cx dX0_howManySending_48 rfl rfl ?_
        exact A_iret cx hlk hr hQ dX0_howManySending_49 hF rfl
      · exact absurd (by decide) c_16
    | succ d ih =>
      intro i a hi hF
      refine A_iload (q := 15) cx dX0_howManySending_13 rfl rfl ?_
      refine A_iload_n (q := 16) cx dX0_howManySending_15 rfl rfl ?_
      refine A_icmp_ge (tgt := 48) (q := 19) cx dX0_howManySending_16 (by decide) rfl (fun c_16 => ?_) (fun c_16 => ?_)
      · exact absurd c_16 (not_ge (i := i) (b := 6) (by omega) (by decide))
      · refine A_aload_n (q := 20) cx dX0_howManySending_19 rfl rfl rfl ?_
        refine A_iload (q := 22) cx dX0_howManySending_20 rfl rfl ?_
        refine A_aaload13 (q := 23) cx dX0_howManySending_22 rfl (in13 hX (by omega)) rfl (by show _ < 6; omega) rfl rfl ?_
        refine A_astore (lv' := [some _, some _, some _, some _, some _, some _]) (q := 25) cx dX0_howManySending_23 (Nat.le_of_ble_eq_true rfl) rfl rfl rfl ?_
        refine A_iload_n (q := 26) cx dX0_howManySending_25 rfl rfl ?_
        refine A_aload (q := 28) cx dX0_howManySending_26 rfl rfl rfl ?_
        refine gX5_7 (q := 31) cx wi_X0_howManySending_X5 wf_X0_howManySending_43 dX0_howManySending_28 rfl (in5 hX (by omega)) rfl ?_
        refine A_iconst (v := 5) (q := 32) cx dX0_howManySending_31 (by decide) rfl ?_
        refine A_icmp_ne (tgt := 39) (q := 35) cx dX0_howManySending_32 (by decide) rfl (fun c_32 => ?_) (fun c_32 => ?_)
        · refine A_iconst (v := 0) (q := 40) cx dX0_howManySending_39 (by decide) rfl ?_
          refine A_iadd (q := 41) cx dX0_howManySending_40 rfl ?_
          refine A_istore_n (lv' := [some _, some _, some _, some _, some _, some _]) (q := 42) cx dX0_howManySending_41 (Nat.le_of_ble_eq_true rfl) rfl rfl ?_
          refine A_iinc (lv' := [some _, some _, some _, some _, some _, some _]) (q := 45) cx dX0_howManySending_42 rfl (nI_1 i) rfl rfl ?_
          refine A_goto (q := 13) cx dX0_howManySending_45 (by decide) ?_
          exact A_drop 5 rfl (ih (i + 1) _ (by omega) (by rw [← hF, cnt]; simp [*]))
        · refine A_iconst (v := 1) (q := 36) cx dX0_howManySending_35 (by decide) rfl ?_
          refine A_goto (q := 40) cx dX0_howManySending_36 (by decide) ?_
          refine A_iadd (q := 41) cx dX0_howManySending_40 rfl ?_
          refine A_istore_n (lv' := [some _, some _, some _, some _, some _, some _]) (q := 42) cx dX0_howManySending_41 (Nat.le_of_ble_eq_true rfl) rfl rfl ?_
          refine A_iinc (lv' := [some _, some _, some _, some _, some _, some _]) (q := 45) cx dX0_howManySending_42 rfl (nI_1 i) rfl rfl ?_
          refine A_goto (q := 13) cx dX0_howManySending_45 (by decide) ?_
          exact A_drop 5 rfl (ih (i + 1) _ (by omega) (by rw [← hF, cnt]; simp [*]))
  refine A_iconst (v := 0) (q := 1) cx dX0_howManySending_0 (by decide) rfl ?_
  refine A_istore_n (lv' := [some _, some _, none, none, none, none]) (q := 2) cx dX0_howManySending_1 (Nat.le_of_ble_eq_true rfl) rfl rfl ?_
  refine A_aload_n (q := 3) cx dX0_howManySending_2 rfl rfl rfl ?_
  refine gX0_2 (q := 6) cx wi_X0_howManySending_X0 wf_X0_howManySending_17 dX0_howManySending_3 rfl (in0 hX (by omega)) rfl rfl ?_
  refine A_astore_n (lv' := [some _, some _, some _, none, none, none]) (q := 7) cx dX0_howManySending_6 (Nat.le_of_ble_eq_true rfl) rfl rfl rfl ?_
  refine A_aload_n (q := 8) cx dX0_howManySending_7 rfl rfl rfl ?_
  refine A_alen13 (v := 6) (q := 9) cx dX0_howManySending_8 rfl (in13 hX (by omega)) rfl rfl ?_
  refine A_istore_n (lv' := [some _, some _, some _, some _, none, none]) (q := 10) cx dX0_howManySending_9 (Nat.le_of_ble_eq_true rfl) rfl rfl ?_
  refine A_iconst (v := 0) (q := 11) cx dX0_howManySending_10 (by decide) rfl ?_
  refine A_istore (lv' := [some _, some _, some _, some _, some _, none]) (q := 13) cx dX0_howManySending_11 (Nat.le_of_ble_eq_true rfl) rfl rfl ?_
  exact l1 6 0 _ rfl rfl
theorem wi_X0_howManyUp_X5 : ∀ w ∈ u_ws RX5 TX5 11, w ∈ wsX0_howManyUp := by decide +kernel
theorem wf_X0_howManyUp_105 : Cond.fieldLink RX0 105 (TX5 0).1 (TX5 0).2.1 (TX5 0).2.2.1 ∈ wsX0_howManyUp := by decide +kernel
theorem wi_X0_howManyUp_X0 : ∀ w ∈ u_ws RX0 TX0 4, w ∈ wsX0_howManyUp := by decide +kernel
theorem wf_X0_howManyUp_17 : Cond.fieldLink RX0 17 (TX0 2).1 (TX0 2).2.1 (TX0 2).2.2.1 ∈ wsX0_howManyUp := by decide +kernel
set_option maxHeartbeats 4000000 in
set_option maxRecDepth 100000 in
theorem ct_X0_howManyUp {la : Launch} {E : Ev} (hE : okE E) (hX : xin E) {σ0 : Sg} {n e : Nat} (hn : n < 9 ∧ e < 2 := by omega) : CI la yX0_howManyUp wsX0_howManyUp 0 0 E rh0 [.ref (ad E (0, n, e, 0))] σ0 (eUp σ0 n e) σ0 := by
  refine met_of (lv := [some _, none, none, none, none, none]) RX0 (by decide) rfl rfl rfl hE (ok1 rfl) (Nat.le_of_ble_eq_true rfl) (fun p ev s m args below meth c Q cx hlk hr hQ => ?_)
  have l1 : ∀ (d i : Nat) (a : Int32), i + d = 6 → cnt (fun i => if b01 (σ0 (5, n, e, i) 0) = 0 then 0 else 1) d i a = eUp σ0 n e → AW p la ev (rmm 0 0) s m args below meth c 0 0 Q (AL E) E rh0 13 [some (.ref (ad E (0, n, e, 0))), some (.int a), some (.ref (ad E (13, n, e, 0))), some (.int 6), some (.int (nI i)), none] [] σ0 := by
    intro d
    induction d with
    | zero =>
      intro i a hi hF
      obtain rfl : i = 6 := by omega
      refine A_iload (q := 15) cx dX0_howManyUp_13 rfl rfl ?_
      refine A_iload_n (q := 16) cx dX0_howManyUp_15 rfl rfl ?_
      refine A_icmp_ge (tgt := 47) (q := 19) cx dX0_howManyUp_16 (by decide) rfl (fun c_16 => ?_) (fun c_16 => ?_)
      · refine A_iload_n (q := 48) cx dX0_howManyUp_47 rfl rfl ?_
        exact A_iret cx hlk hr hQ dX0_howManyUp_48 hF rfl
      · exact absurd (by decide) c_16
    | succ d ih =>
      intro i a hi hF
      refine A_iload (q := 15) cx dX0_howManyUp_13 rfl rfl ?_
      refine A_iload_n (q := 16) cx dX0_howManyUp_15 rfl rfl ?_
      refine A_icmp_ge (tgt := 47) (q := 19) cx dX0_howManyUp_16 (by decide) rfl (fun c_16 => ?_) (fun c_16 => ?_)
      · exact absurd c_16 (not_ge (i := i) (b := 6) (by omega) (by decide))
      · refine A_aload_n (q := 20) cx dX0_howManyUp_19 rfl rfl rfl ?_
        refine A_iload (q := 22) cx dX0_howManyUp_20 rfl rfl ?_
        refine A_aaload13 (q := 23) cx dX0_howManyUp_22 rfl (in13 hX (by omega)) rfl (by show _ < 6; omega) rfl rfl ?_
        refine A_astore (lv' := [some _, some _, some _, some _, some _, some _]) (q := 25) cx dX0_howManyUp_23 (Nat.le_of_ble_eq_true rfl) rfl rfl rfl ?_
        refine A_iload_n (q := 26) cx dX0_howManyUp_25 rfl rfl ?_
        refine A_aload (q := 28) cx dX0_howManyUp_26 rfl rfl rfl ?_
        refine gX5_0 (q := 31) cx wi_X0_howManyUp_X5 wf_X0_howManyUp_105 dX0_howManyUp_28 rfl (in5 hX (by omega)) rfl ?_
        refine A_if_eq (tgt := 38) (q := 34) cx dX0_howManyUp_31 (by decide) rfl (fun c_31 => ?_) (fun c_31 => ?_)
        · refine A_iconst (v := 0) (q := 39) cx dX0_howManyUp_38 (by decide) rfl ?_
          refine A_iadd (q := 40) cx dX0_howManyUp_39 rfl ?_
          refine A_istore_n (lv' := [some _, some _, some _, some _, some _, some _]) (q := 41) cx dX0_howManyUp_40 (Nat.le_of_ble_eq_true rfl) rfl rfl ?_
          refine A_iinc (lv' := [some _, some _, some _, some _, some _, some _]) (q := 44) cx dX0_howManyUp_41 rfl (nI_1 i) rfl rfl ?_
          refine A_goto (q := 13) cx dX0_howManyUp_44 (by decide) ?_
          exact A_drop 5 rfl (ih (i + 1) _ (by omega) (by rw [← hF, cnt]; simp [*]))
        · refine A_iconst (v := 1) (q := 35) cx dX0_howManyUp_34 (by decide) rfl ?_
          refine A_goto (q := 39) cx dX0_howManyUp_35 (by decide) ?_
          refine A_iadd (q := 40) cx dX0_howManyUp_39 rfl ?_
          refine A_istore_n (lv' := [some _, some _, some _, some _, some _, some _]) (q := 41) cx dX0_howManyUp_40 (Nat.le_of_ble_eq_true rfl) rfl rfl ?_
          refine A_iinc (lv' := [some _, some _, some _, some _, some _, some _]) (q := 44) cx dX0_howManyUp_41 rfl (nI_1 i) rfl rfl ?_
          refine A_goto (q := 13) cx dX0_howManyUp_44 (by decide) ?_
          exact A_drop 5 rfl (ih (i + 1) _ (by omega) (by rw [← hF, cnt]; simp [*]))
  refine A_iconst (v := 0) (q := 1) cx dX0_howManyUp_0 (by decide) rfl ?_
  refine A_istore_n (lv' := [some _, some _, none, none, none, none]) (q := 2) cx dX0_howManyUp_1 (Nat.le_of_ble_eq_true rfl) rfl rfl ?_
  refine A_aload_n (q := 3) cx dX0_howManyUp_2 rfl rfl rfl ?_
  refine gX0_2 (q := 6) cx wi_X0_howManyUp_X0 wf_X0_howManyUp_17 dX0_howManyUp_3 rfl (in0 hX (by omega)) rfl rfl ?_
  refine A_astore_n (lv' := [some _, some _, some _, none, none, none]) (q := 7) cx dX0_howManyUp_6 (Nat.le_of_ble_eq_true rfl) rfl rfl rfl ?_
  refine A_aload_n (q := 8) cx dX0_howManyUp_7 rfl rfl rfl ?_
  refine A_alen13 (v := 6) (q := 9) cx dX0_howManyUp_8 rfl (in13 hX (by omega)) rfl rfl ?_
  refine A_istore_n (lv' := [some _, some _, some _, some _, none, none]) (q := 10) cx dX0_howManyUp_9 (Nat.le_of_ble_eq_true rfl) rfl rfl ?_
  refine A_iconst (v := 0) (q := 11) cx dX0_howManyUp_10 (by decide) rfl ?_
  refine A_istore (lv' := [some _, some _, some _, some _, some _, none]) (q := 13) cx dX0_howManyUp_11 (Nat.le_of_ble_eq_true rfl) rfl rfl ?_
  exact l1 6 0 _ rfl rfl
theorem wi_X0_howManyMuted_X5 : ∀ w ∈ u_ws RX5 TX5 11, w ∈ wsX0_howManyMuted := by decide +kernel
theorem wf_X0_howManyMuted_108 : Cond.fieldLink RX0 108 (TX5 1).1 (TX5 1).2.1 (TX5 1).2.2.1 ∈ wsX0_howManyMuted := by decide +kernel
theorem wi_X0_howManyMuted_X0 : ∀ w ∈ u_ws RX0 TX0 4, w ∈ wsX0_howManyMuted := by decide +kernel
theorem wf_X0_howManyMuted_17 : Cond.fieldLink RX0 17 (TX0 2).1 (TX0 2).2.1 (TX0 2).2.2.1 ∈ wsX0_howManyMuted := by decide +kernel
set_option maxHeartbeats 4000000 in
set_option maxRecDepth 100000 in
theorem ct_X0_howManyMuted {la : Launch} {E : Ev} (hE : okE E) (hX : xin E) {σ0 : Sg} {n e : Nat} (hn : n < 9 ∧ e < 2 := by omega) : CI la yX0_howManyMuted wsX0_howManyMuted 0 0 E rh0 [.ref (ad E (0, n, e, 0))] σ0 (eMut σ0 n e) σ0 := by
  refine met_of (lv := [some _, none, none, none, none, none]) RX0 (by decide) rfl rfl rfl hE (ok1 rfl) (Nat.le_of_ble_eq_true rfl) (fun p ev s m args below meth c Q cx hlk hr hQ => ?_)
  have l1 : ∀ (d i : Nat) (a : Int32), i + d = 6 → cnt (fun i => if b01 (σ0 (5, n, e, i) 1) = 0 then 0 else 1) d i a = eMut σ0 n e → AW p la ev (rmm 0 0) s m args below meth c 0 0 Q (AL E) E rh0 13 [some (.ref (ad E (0, n, e, 0))), some (.int a), some (.ref (ad E (13, n, e, 0))), some (.int 6), some (.int (nI i)), none] [] σ0 := by
    intro d
    induction d with
    | zero =>
      intro i a hi hF
      obtain rfl : i = 6 := by omega
      refine A_iload (q := 15) cx dX0_howManyMuted_13 rfl rfl ?_
      refine A_iload_n (q := 16) cx dX0_howManyMuted_15 rfl rfl ?_
      refine A_icmp_ge (tgt := 47) (q := 19) cx dX0_howManyMuted_16 (by decide) rfl (fun c_16 => ?_) (fun c_16 => ?_)
      · refine A_iload_n (q := 48) cx dX0_howManyMuted_47 rfl rfl ?_
        exact A_iret cx hlk hr hQ dX0_howManyMuted_48 hF rfl
      · exact absurd (by decide) c_16
    | succ d ih =>
      intro i a hi hF
      refine A_iload (q := 15) cx dX0_howManyMuted_13 rfl rfl ?_
      refine A_iload_n (q := 16) cx dX0_howManyMuted_15 rfl rfl ?_
      refine A_icmp_ge (tgt := 47) (q := 19) cx dX0_howManyMuted_16 (by decide) rfl (fun c_16 => ?_) (fun c_16 => ?_)
      · exact absurd c_16 (not_ge (i := i) (b := 6) (by omega) (by decide))
      · refine A_aload_n (q := 20) cx dX0_howManyMuted_19 rfl rfl rfl ?_
        refine A_iload (q := 22) cx dX0_howManyMuted_20 rfl rfl ?_
        refine A_aaload13 (q := 23) cx dX0_howManyMuted_22 rfl (in13 hX (by omega)) rfl (by show _ < 6; omega) rfl rfl ?_
        refine A_astore (lv' := [some _, some _, some _, some _, some _, some _]) (q := 25) cx dX0_howManyMuted_23 (Nat.le_of_ble_eq_true rfl) rfl rfl rfl ?_
        refine A_iload_n (q := 26) cx dX0_howManyMuted_25 rfl rfl ?_
        refine A_aload (q := 28) cx dX0_howManyMuted_26 rfl rfl rfl ?_
        refine gX5_1 (q := 31) cx wi_X0_howManyMuted_X5 wf_X0_howManyMuted_108 dX0_howManyMuted_28 rfl (in5 hX (by omega)) rfl ?_
        refine A_if_eq (tgt := 38) (q := 34) cx dX0_howManyMuted_31 (by decide) rfl (fun c_31 => ?_) (fun c_31 => ?_)
        · refine A_iconst (v := 0) (q := 39) cx dX0_howManyMuted_38 (by decide) rfl ?_
          refine A_iadd (q := 40) cx dX0_howManyMuted_39 rfl ?_
          refine A_istore_n (lv' := [some _, some _, some _, some _, some _, some _]) (q := 41) cx dX0_howManyMuted_40 (Nat.le_of_ble_eq_true rfl) rfl rfl ?_
          refine A_iinc (lv' := [some _, some _, some _, some _, some _, some _]) (q := 44) cx dX0_howManyMuted_41 rfl (nI_1 i) rfl rfl ?_
          refine A_goto (q := 13) cx dX0_howManyMuted_44 (by decide) ?_
          exact A_drop 5 rfl (ih (i + 1) _ (by omega) (by rw [← hF, cnt]; simp [*]))
        · refine A_iconst (v := 1) (q := 35) cx dX0_howManyMuted_34 (by decide) rfl ?_
          refine A_goto (q := 39) cx dX0_howManyMuted_35 (by decide) ?_
          refine A_iadd (q := 40) cx dX0_howManyMuted_39 rfl ?_
          refine A_istore_n (lv' := [some _, some _, some _, some _, some _, some _]) (q := 41) cx dX0_howManyMuted_40 (Nat.le_of_ble_eq_true rfl) rfl rfl ?_
          refine A_iinc (lv' := [some _, some _, some _, some _, some _, some _]) (q := 44) cx dX0_howManyMuted_41 rfl (nI_1 i) rfl rfl ?_
          refine A_goto (q := 13) cx dX0_howManyMuted_44 (by decide) ?_
          exact A_drop 5 rfl (ih (i + 1) _ (by omega) (by rw [← hF, cnt]; simp [*]))
  refine A_iconst (v := 0) (q := 1) cx dX0_howManyMuted_0 (by decide) rfl ?_
  refine A_istore_n (lv' := [some _, some _, none, none, none, none]) (q := 2) cx dX0_howManyMuted_1 (Nat.le_of_ble_eq_true rfl) rfl rfl ?_
  refine A_aload_n (q := 3) cx dX0_howManyMuted_2 rfl rfl rfl ?_
  refine gX0_2 (q := 6) cx wi_X0_howManyMuted_X0 wf_X0_howManyMuted_17 dX0_howManyMuted_3 rfl (in0 hX (by omega)) rfl rfl ?_
  refine A_astore_n (lv' := [some _, some _, some _, none, none, none]) (q := 7) cx dX0_howManyMuted_6 (Nat.le_of_ble_eq_true rfl) rfl rfl rfl ?_
  refine A_aload_n (q := 8) cx dX0_howManyMuted_7 rfl rfl rfl ?_
  refine A_alen13 (v := 6) (q := 9) cx dX0_howManyMuted_8 rfl (in13 hX (by omega)) rfl rfl ?_
  refine A_istore_n (lv' := [some _, some _, some _, some _, none, none]) (q := 10) cx dX0_howManyMuted_9 (Nat.le_of_ble_eq_true rfl) rfl rfl ?_
  refine A_iconst (v := 0) (q := 11) cx dX0_howManyMuted_10 (by decide) rfl ?_
  refine A_istore (lv' := [some _, some _, some _, some _, some _, none]) (q := 13) cx dX0_howManyMuted_11 (Nat.le_of_ble_eq_true rfl) rfl rfl ?_
  exact l1 6 0 _ rfl rfl
theorem wi_X0_bits_X0 : ∀ w ∈ u_ws RX0 TX0 4, w ∈ wsX0_bits := by decide +kernel
theorem wf_X0_bits_17 : Cond.fieldLink RX0 17 (TX0 2).1 (TX0 2).2.1 (TX0 2).2.2.1 ∈ wsX0_bits := by decide +kernel
set_option maxHeartbeats 4000000 in
set_option maxRecDepth 100000 in
theorem ct_X0_bits {la : Launch} {E : Ev} (hE : okE E) (hX : xin E) {σ0 : Sg} {n e : Nat} {w : Int32} (hn : n < 9 ∧ e < 2 := by omega) : CI la yX0_bits wsX0_bits 1 21 E rh0 [.ref (ad E (0, n, e, 0)), .int w] σ0 (eBits σ0 n e w) σ0 := by
  refine met_of (lv := [some _, some _, none, none]) RX0 (by decide) rfl rfl rfl hE (ok2 rfl rfl) (Nat.le_of_ble_eq_true rfl) (fun p ev s m args below meth c Q cx hlk hr hQ => ?_)
  have l1 : ∀ (d i : Nat) (a : Int32), i + d = 6 → orr (fun i => pIsOf σ0 n e i w) d i a = eBits σ0 n e w → AW p la ev (rmm 1 21) s m args below meth c 0 0 Q (AL E) E rh0 4 [some (.ref (ad E (0, n, e, 0))), some (.int w), some (.int a), some (.int (nI i))] [] σ0 := by
    intro d
    induction d with
    | zero =>
      intro i a hi hF
      obtain rfl : i = 6 := by omega
      refine A_iload_n (q := 5) cx dX0_bits_4 rfl rfl ?_
      refine A_aload_n (q := 6) cx dX0_bits_5 rfl rfl rfl ?_
      refine gX0_2 (q := 9) cx wi_X0_bits_X0 wf_X0_bits_17 dX0_bits_6 rfl (in0 hX (by omega)) rfl rfl ?_
      refine A_alen13 (v := 6) (q := 10) cx dX0_bits_9 rfl (in13 hX (by omega)) rfl rfl ?_
      refine A_icmp_ge (tgt := 38) (q := 13) cx dX0_bits_10 (by decide) rfl (fun c_10 => ?_) (fun c_10 => ?_)
      · refine A_iload_n (q := 39) cx dX0_bits_38 rfl rfl ?_
        exact A_iret cx hlk hr hQ dX0_bits_39 hF rfl
      · exact absurd (by decide) c_10
    | succ d ih =>
      intro i a hi hF
      refine A_iload_n (q := 5) cx dX0_bits_4 rfl rfl ?_
      refine A_aload_n (q := 6) cx dX0_bits_5 rfl rfl rfl ?_
      refine gX0_2 (q := 9) cx wi_X0_bits_X0 wf_X0_bits_17 dX0_bits_6 rfl (in0 hX (by omega)) rfl rfl ?_
      refine A_alen13 (v := 6) (q := 10) cx dX0_bits_9 rfl (in13 hX (by omega)) rfl rfl ?_
      refine A_icmp_ge (tgt := 38) (q := 13) cx dX0_bits_10 (by decide) rfl (fun c_10 => ?_) (fun c_10 => ?_)
      · exact absurd c_10 (not_ge (i := i) (b := 6) (by omega) (by decide))
      · refine A_aload_n (q := 14) cx dX0_bits_13 rfl rfl rfl ?_
        refine gX0_2 (q := 17) cx wi_X0_bits_X0 wf_X0_bits_17 dX0_bits_14 rfl (in0 hX (by omega)) rfl rfl ?_
        refine A_iload_n (q := 18) cx dX0_bits_17 rfl rfl ?_
        refine A_aaload13 (q := 19) cx dX0_bits_18 rfl (in13 hX (by omega)) rfl (by show _ < 6; omega) rfl rfl ?_
        refine A_iload_n (q := 20) cx dX0_bits_19 rfl rfl ?_
        refine VI1 (q := 23) cx (ct_X5_isOf hE hX) (cwV 1 cx.1.2.2.2.2 gX0_bits_X5_isOf rfl rfl rfl (by decide +kernel) ⟨Nat.le_of_ble_eq_true rfl, Nat.le_of_ble_eq_true rfl⟩) dX0_bits_20 rfl rfl (in5 hX (by omega)) rfl (Nat.le_of_ble_eq_true rfl) ⟨Nat.zero_le _, Nat.zero_le _⟩ rfl ?_
        refine A_if_eq (tgt := 32) (q := 26) cx dX0_bits_23 (by decide) rfl (fun c_23 => ?_) (fun c_23 => ?_)
        · refine A_iinc (lv' := [some _, some _, some _, some _]) (q := 35) cx dX0_bits_32 rfl (nI_1 i) rfl rfl ?_
          refine A_goto (q := 4) cx dX0_bits_35 (by decide) ?_
          exact ih (i + 1) _ (by omega) (by rw [← hF, orr]; simp [*])
        · refine A_iload_n (q := 27) cx dX0_bits_26 rfl rfl ?_
          refine A_iconst (v := 1) (q := 28) cx dX0_bits_27 (by decide) rfl ?_
          refine A_iload_n (q := 29) cx dX0_bits_28 rfl rfl ?_
          refine A_ishl (q := 30) cx dX0_bits_29 rfl ?_
          refine A_ior (q := 31) cx dX0_bits_30 rfl ?_
          refine A_istore_n (lv' := [some _, some _, some _, some _]) (q := 32) cx dX0_bits_31 (Nat.le_of_ble_eq_true rfl) rfl rfl ?_
          refine A_iinc (lv' := [some _, some _, some _, some _]) (q := 35) cx dX0_bits_32 rfl (nI_1 i) rfl rfl ?_
          refine A_goto (q := 4) cx dX0_bits_35 (by decide) ?_
          exact ih (i + 1) _ (by omega) (by rw [← hF, orr]; simp [*])
  refine A_iconst (v := 0) (q := 1) cx dX0_bits_0 (by decide) rfl ?_
  refine A_istore_n (lv' := [some _, some _, some _, none]) (q := 2) cx dX0_bits_1 (Nat.le_of_ble_eq_true rfl) rfl rfl ?_
  refine A_iconst (v := 0) (q := 3) cx dX0_bits_2 (by decide) rfl ?_
  refine A_istore_n (lv' := [some _, some _, some _, some _]) (q := 4) cx dX0_bits_3 (Nat.le_of_ble_eq_true rfl) rfl rfl ?_
  exact l1 6 0 _ rfl rfl
theorem wi_X0_wantedBy_X0 : ∀ w ∈ u_ws RX0 TX0 4, w ∈ wsX0_wantedBy := by decide +kernel
theorem wf_X0_wantedBy_17 : Cond.fieldLink RX0 17 (TX0 2).1 (TX0 2).2.1 (TX0 2).2.2.1 ∈ wsX0_wantedBy := by decide +kernel
theorem wi_X0_wantedBy_X5 : ∀ w ∈ u_ws RX5 TX5 11, w ∈ wsX0_wantedBy := by decide +kernel
theorem wf_X0_wantedBy_43 : Cond.fieldLink RX0 43 (TX5 7).1 (TX5 7).2.1 (TX5 7).2.2.1 ∈ wsX0_wantedBy := by decide +kernel
set_option maxHeartbeats 4000000 in
set_option maxRecDepth 100000 in
theorem ct_X0_wantedBy {la : Launch} {E : Ev} (hE : okE E) (hX : xin E) {σ0 : Sg} {n e : Nat} {f mem : Int32} (hn : n < 9 ∧ e < 2 := by omega) : CI la yX0_wantedBy wsX0_wantedBy 0 0 E rh0 [.ref (ad E (0, n, e, 0)), .int f, .int mem] σ0 (eWant σ0 n e f mem) σ0 := by
  refine met_of (lv := [some _, some _, some _, none, none]) RX0 (by decide) rfl rfl rfl hE (ok3 rfl rfl rfl) (Nat.le_of_ble_eq_true rfl) (fun p ev s m args below meth c Q cx hlk hr hQ => ?_)
  have l1 : ∀ (d i : Nat) (a : Int32), i + d = 6 → eWantR σ0 n e d i a = eWant σ0 n e f mem → AW p la ev (rmm 0 0) s m args below meth c 0 0 Q (AL E) E rh0 19 [some (.ref (ad E (0, n, e, 0))), some (.int f), some (.int mem), some (.int a), some (.int (nI i))] [] σ0 := by
    intro d
    induction d with
    | zero =>
      intro i a hi hF
      obtain rfl : i = 6 := by omega
      refine A_iload (q := 21) cx dX0_wantedBy_19 rfl rfl ?_
      refine A_aload_n (q := 22) cx dX0_wantedBy_21 rfl rfl rfl ?_
      refine gX0_2 (q := 25) cx wi_X0_wantedBy_X0 wf_X0_wantedBy_17 dX0_wantedBy_22 rfl (in0 hX (by omega)) rfl rfl ?_
      refine A_alen13 (v := 6) (q := 26) cx dX0_wantedBy_25 rfl (in13 hX (by omega)) rfl rfl ?_
      refine A_icmp_ge (tgt := 59) (q := 29) cx dX0_wantedBy_26 (by decide) rfl (fun c_26 => ?_) (fun c_26 => ?_)
      · refine A_bipush (v := -4) (q := 61) cx dX0_wantedBy_59 (by decide) rfl ?_
        exact A_iret cx hlk hr hQ dX0_wantedBy_61 hF rfl
      · exact absurd (by decide) c_26
    | succ d ih =>
      intro i a hi hF
      refine A_iload (q := 21) cx dX0_wantedBy_19 rfl rfl ?_
      refine A_aload_n (q := 22) cx dX0_wantedBy_21 rfl rfl rfl ?_
      refine gX0_2 (q := 25) cx wi_X0_wantedBy_X0 wf_X0_wantedBy_17 dX0_wantedBy_22 rfl (in0 hX (by omega)) rfl rfl ?_
      refine A_alen13 (v := 6) (q := 26) cx dX0_wantedBy_25 rfl (in13 hX (by omega)) rfl rfl ?_
      refine A_icmp_ge (tgt := 59) (q := 29) cx dX0_wantedBy_26 (by decide) rfl (fun c_26 => ?_) (fun c_26 => ?_)
      · exact absurd c_26 (not_ge (i := i) (b := 6) (by omega) (by decide))
      · refine A_aload_n (q := 30) cx dX0_wantedBy_29 rfl rfl rfl ?_
        refine gX0_2 (q := 33) cx wi_X0_wantedBy_X0 wf_X0_wantedBy_17 dX0_wantedBy_30 rfl (in0 hX (by omega)) rfl rfl ?_
        refine A_iload (q := 35) cx dX0_wantedBy_33 rfl rfl ?_
        refine A_aaload13 (q := 36) cx dX0_wantedBy_35 rfl (in13 hX (by omega)) rfl (by show _ < 6; omega) rfl rfl ?_
        refine gX5_7 (q := 39) cx wi_X0_wantedBy_X5 wf_X0_wantedBy_43 dX0_wantedBy_36 rfl (in5 hX (by omega)) rfl ?_
        refine A_iconst (v := 5) (q := 40) cx dX0_wantedBy_39 (by decide) rfl ?_
        refine A_icmp_ne (tgt := 53) (q := 43) cx dX0_wantedBy_40 (by decide) rfl (fun c_40 => ?_) (fun c_40 => ?_)
        · refine A_iinc (lv' := [some _, some _, some _, some _, some _]) (q := 56) cx dX0_wantedBy_53 rfl (nI_1 i) rfl rfl ?_
          refine A_goto (q := 19) cx dX0_wantedBy_56 (by decide) ?_
          exact ih (i + 1) _ (by omega) (by rw [← hF, eWantR]; simp [*])
        · refine A_iload_n (q := 44) cx dX0_wantedBy_43 rfl rfl ?_
          refine A_if_ne (tgt := 50) (q := 47) cx dX0_wantedBy_44 (by decide) rfl (fun c_44 => ?_) (fun c_44 => ?_)
          · refine A_iinc (lv' := [some _, some _, some _, some _, some _]) (q := 53) cx dX0_wantedBy_50 rfl rfl rfl rfl ?_
            refine A_iinc (lv' := [some _, some _, some _, some _, some _]) (q := 56) cx dX0_wantedBy_53 rfl (nI_1 i) rfl rfl ?_
            refine A_goto (q := 19) cx dX0_wantedBy_56 (by decide) ?_
            exact ih (i + 1) _ (by omega) (by rw [← hF, eWantR]; simp [*])
          · refine A_iload (q := 49) cx dX0_wantedBy_47 rfl rfl ?_
            exact A_iret cx hlk hr hQ dX0_wantedBy_49 (by rw [← hF, eWantR]; simp [*]) rfl
  refine A_iload_n (q := 1) cx dX0_wantedBy_0 rfl rfl ?_
  refine A_if_gt (tgt := 7) (q := 4) cx dX0_wantedBy_1 (by decide) rfl (fun c_1 => ?_) (fun c_1 => ?_)
  · refine A_bipush (v := 7) (q := 9) cx dX0_wantedBy_7 (by decide) rfl ?_
    refine A_iload_n (q := 10) cx dX0_wantedBy_9 rfl rfl ?_
    refine A_imul (q := 11) cx dX0_wantedBy_10 rfl ?_
    refine A_iconst (v := 3) (q := 12) cx dX0_wantedBy_11 (by decide) rfl ?_
    refine A_iadd (q := 13) cx dX0_wantedBy_12 rfl ?_
    refine A_iload_n (q := 14) cx dX0_wantedBy_13 rfl rfl ?_
    refine A_irem (q := 15) cx dX0_wantedBy_14 (fun h => by rw [h] at c_1; exact absurd c_1 (by decide)) rfl ?_
    refine A_istore_n (lv' := [some _, some _, some _, some _, none]) (q := 16) cx dX0_wantedBy_15 (Nat.le_of_ble_eq_true rfl) rfl rfl ?_
    refine A_iconst (v := 0) (q := 17) cx dX0_wantedBy_16 (by decide) rfl ?_
    refine A_istore (lv' := [some _, some _, some _, some _, some _]) (q := 19) cx dX0_wantedBy_17 (Nat.le_of_ble_eq_true rfl) rfl rfl ?_
    exact l1 6 0 _ rfl (by simp [eWant, *])
  · refine A_bipush (v := -4) (q := 6) cx dX0_wantedBy_4 (by decide) rfl ?_
    exact A_iret cx hlk hr hQ dX0_wantedBy_6 (by first | (simp only [eWant, *, if_true, if_false, ite_true, ite_false, true_or, or_true, false_or, or_false, and_true, true_and, and_false, false_and, and_self, or_self, not_true_eq_false, not_false_eq_true, ne_eq, reduceIte, decide_true, decide_false, Bool.and_true, Bool.true_and, Bool.and_false, Bool.false_and]; done) | (simp [eWant, *]; done) | (simp_all [eWant]; done)) rfl
theorem wi_X0_judgeAndSay_X0 : ∀ w ∈ u_ws RX0 TX0 4, w ∈ wsX0_judgeAndSay := by decide +kernel
theorem wf_X0_judgeAndSay_29 : Cond.fieldLink RX0 29 (TX0 1).1 (TX0 1).2.1 (TX0 1).2.2.1 ∈ wsX0_judgeAndSay := by decide +kernel
theorem wf_X0_judgeAndSay_17 : Cond.fieldLink RX0 17 (TX0 2).1 (TX0 2).2.1 (TX0 2).2.2.1 ∈ wsX0_judgeAndSay := by decide +kernel
set_option maxHeartbeats 4000000 in
set_option maxRecDepth 100000 in
theorem ct_X0_judgeAndSay {la : Launch} {E : Ev} (hE : okE E) (hX : xin E) {σ0 : Sg} {n e : Nat} {wt : Int32} (hn : n < 9 ∧ e < 2 := by omega) : CV la yX0_judgeAndSay wsX0_judgeAndSay 2 43 E rh0 [.ref (ad E (0, n, e, 0)), .int wt] σ0 (eJudge n e wt 6 0 σ0) := by
  refine met_of (lv := [some _, some _, none, none, none, none]) RX0 (by decide) rfl rfl rfl hE (ok2 rfl rfl) (Nat.le_of_ble_eq_true rfl) (fun p ev s m args below meth c Q cx hlk hr hQ => ?_)
  have l1 : ∀ (d i : Nat) (σ : Sg), i + d = 6 → eJudge n e wt d i σ = eJudge n e wt 6 0 σ0 → AW p la ev (rmm 2 43) s m args below meth c 0 0 Q (AL E) E rh0 11 [some (.ref (ad E (0, n, e, 0))), some (.int wt), some (.ref (ad E (13, n, e, 0))), some (.int 6), some (.int (nI i)), none] [] σ := by
    intro d
    induction d with
    | zero =>
      intro i σ  hi hF
      obtain rfl : i = 6 := by omega
      refine A_iload (q := 13) cx dX0_judgeAndSay_11 rfl rfl ?_
      refine A_iload_n (q := 14) cx dX0_judgeAndSay_13 rfl rfl ?_
      refine A_icmp_ge (tgt := 44) (q := 17) cx dX0_judgeAndSay_14 (by decide) rfl (fun c_14 => ?_) (fun c_14 => ?_)
      · exact A_vret cx hlk hr hQ dX0_judgeAndSay_44 hF
      · exact absurd (by decide) c_14
    | succ d ih =>
      intro i σ  hi hF
      refine A_iload (q := 13) cx dX0_judgeAndSay_11 rfl rfl ?_
      refine A_iload_n (q := 14) cx dX0_judgeAndSay_13 rfl rfl ?_
      refine A_icmp_ge (tgt := 44) (q := 17) cx dX0_judgeAndSay_14 (by decide) rfl (fun c_14 => ?_) (fun c_14 => ?_)
      · exact absurd c_14 (not_ge (i := i) (b := 6) (by omega) (by decide))
      · refine A_aload_n (q := 18) cx dX0_judgeAndSay_17 rfl rfl rfl ?_
        refine A_iload (q := 20) cx dX0_judgeAndSay_18 rfl rfl ?_
        refine A_aaload13 (q := 21) cx dX0_judgeAndSay_20 rfl (in13 hX (by omega)) rfl (by show _ < 6; omega) rfl rfl ?_
        refine A_astore (lv' := [some _, some _, some _, some _, some _, some _]) (q := 23) cx dX0_judgeAndSay_21 (Nat.le_of_ble_eq_true rfl) rfl rfl rfl ?_
        refine A_aload (q := 25) cx dX0_judgeAndSay_23 rfl rfl rfl ?_
        refine A_iload_n (q := 26) cx dX0_judgeAndSay_25 rfl rfl ?_
        refine VV1 (q := 29) cx (ct_X5_judge hE hX) (cwV 1 cx.1.2.2.2.2 gX0_judgeAndSay_X5_judge rfl rfl rfl (by decide +kernel) ⟨Nat.le_of_ble_eq_true rfl, Nat.le_of_ble_eq_true rfl⟩) dX0_judgeAndSay_26 rfl rfl (in5 hX (by omega)) rfl (Nat.le_of_ble_eq_true rfl) ⟨Nat.zero_le _, Nat.zero_le _⟩ rfl ?_
        refine A_aload (q := 31) cx dX0_judgeAndSay_29 rfl rfl rfl ?_
        refine A_aload_n (q := 32) cx dX0_judgeAndSay_31 rfl rfl rfl ?_
        refine gX0_1 (q := 35) cx wi_X0_judgeAndSay_X0 wf_X0_judgeAndSay_29 dX0_judgeAndSay_32 rfl (in0 hX (by omega)) rfl ?_
        refine VV1 (q := 38) cx (ct_X5_say hE hX) (cwV 1 cx.1.2.2.2.2 gX0_judgeAndSay_X5_say rfl rfl rfl (by decide +kernel) ⟨Nat.le_of_ble_eq_true rfl, Nat.le_of_ble_eq_true rfl⟩) dX0_judgeAndSay_35 rfl rfl (in5 hX (by omega)) rfl (Nat.le_of_ble_eq_true rfl) ⟨Nat.zero_le _, Nat.zero_le _⟩ rfl ?_
        refine A_iinc (lv' := [some _, some _, some _, some _, some _, some _]) (q := 41) cx dX0_judgeAndSay_38 rfl (nI_1 i) rfl rfl ?_
        refine A_goto (q := 11) cx dX0_judgeAndSay_41 (by decide) ?_
        exact A_drop 5 rfl (ih (i + 1) _ (by omega) hF)
  refine A_aload_n (q := 1) cx dX0_judgeAndSay_0 rfl rfl rfl ?_
  refine gX0_2 (q := 4) cx wi_X0_judgeAndSay_X0 wf_X0_judgeAndSay_17 dX0_judgeAndSay_1 rfl (in0 hX (by omega)) rfl rfl ?_
  refine A_astore_n (lv' := [some _, some _, some _, none, none, none]) (q := 5) cx dX0_judgeAndSay_4 (Nat.le_of_ble_eq_true rfl) rfl rfl rfl ?_
  refine A_aload_n (q := 6) cx dX0_judgeAndSay_5 rfl rfl rfl ?_
  refine A_alen13 (v := 6) (q := 7) cx dX0_judgeAndSay_6 rfl (in13 hX (by omega)) rfl rfl ?_
  refine A_istore_n (lv' := [some _, some _, some _, some _, none, none]) (q := 8) cx dX0_judgeAndSay_7 (Nat.le_of_ble_eq_true rfl) rfl rfl ?_
  refine A_iconst (v := 0) (q := 9) cx dX0_judgeAndSay_8 (by decide) rfl ?_
  refine A_istore (lv' := [some _, some _, some _, some _, some _, none]) (q := 11) cx dX0_judgeAndSay_9 (Nat.le_of_ble_eq_true rfl) rfl rfl ?_
  exact l1 6 0 _ rfl rfl
theorem wi_X0_dealFlows_X0 : ∀ w ∈ u_ws RX0 TX0 4, w ∈ wsX0_dealFlows := by decide +kernel
theorem wf_X0_dealFlows_24 : Cond.fieldLink RX0 24 (TX0 3).1 (TX0 3).2.1 (TX0 3).2.2.1 ∈ wsX0_dealFlows := by decide +kernel
set_option maxHeartbeats 4000000 in
set_option maxRecDepth 100000 in
theorem ct_X0_dealFlows {la : Launch} {E : Ev} (hE : okE E) (hX : xin E) {σ0 : Sg} {n e : Nat} {dr : Int32} (hn : n < 9 ∧ e < 2 := by omega) : CV la yX0_dealFlows wsX0_dealFlows 1 25 E rh0 [.ref (ad E (0, n, e, 0)), .int dr] σ0 (eDeal σ0 n e dr) := by
  refine met_of (lv := [some _, some _, none, none]) RX0 (by decide) rfl rfl rfl hE (ok2 rfl rfl) (Nat.le_of_ble_eq_true rfl) (fun p ev s m args below meth c Q cx hlk hr hQ => ?_)
  have l1 : ∀ (d i : Nat) (σ : Sg), i + d = 8 → eDealR n e (eSend σ0 n e) dr d i σ = eDeal σ0 n e dr → AW p la ev (rmm 1 25) s m args below meth c 0 0 Q (AL E) E rh0 7 [some (.ref (ad E (0, n, e, 0))), some (.int dr), some (.int (eSend σ0 n e)), some (.int (nI i))] [] σ := by
    intro d
    induction d with
    | zero =>
      intro i σ  hi hF
      obtain rfl : i = 8 := by omega
      refine A_iload_n (q := 8) cx dX0_dealFlows_7 rfl rfl ?_
      refine A_aload_n (q := 9) cx dX0_dealFlows_8 rfl rfl rfl ?_
      refine gX0_3 (q := 12) cx wi_X0_dealFlows_X0 wf_X0_dealFlows_24 dX0_dealFlows_9 rfl (in0 hX (by omega)) rfl rfl ?_
      refine A_alen11 (v := 8) (q := 13) cx dX0_dealFlows_12 rfl (in11 hX (by omega)) rfl rfl ?_
      refine A_icmp_ge (tgt := 38) (q := 16) cx dX0_dealFlows_13 (by decide) rfl (fun c_13 => ?_) (fun c_13 => ?_)
      · exact A_vret cx hlk hr hQ dX0_dealFlows_38 hF
      · exact absurd (by decide) c_13
    | succ d ih =>
      intro i σ  hi hF
      refine A_iload_n (q := 8) cx dX0_dealFlows_7 rfl rfl ?_
      refine A_aload_n (q := 9) cx dX0_dealFlows_8 rfl rfl rfl ?_
      refine gX0_3 (q := 12) cx wi_X0_dealFlows_X0 wf_X0_dealFlows_24 dX0_dealFlows_9 rfl (in0 hX (by omega)) rfl rfl ?_
      refine A_alen11 (v := 8) (q := 13) cx dX0_dealFlows_12 rfl (in11 hX (by omega)) rfl rfl ?_
      refine A_icmp_ge (tgt := 38) (q := 16) cx dX0_dealFlows_13 (by decide) rfl (fun c_13 => ?_) (fun c_13 => ?_)
      · exact absurd c_13 (not_ge (i := i) (b := 8) (by omega) (by decide))
      · refine A_aload_n (q := 17) cx dX0_dealFlows_16 rfl rfl rfl ?_
        refine gX0_3 (q := 20) cx wi_X0_dealFlows_X0 wf_X0_dealFlows_24 dX0_dealFlows_17 rfl (in0 hX (by omega)) rfl rfl ?_
        refine A_iload_n (q := 21) cx dX0_dealFlows_20 rfl rfl ?_
        refine A_aaload11 (q := 22) cx dX0_dealFlows_21 rfl (in11 hX (by omega)) rfl (by show _ < 8; omega) rfl rfl ?_
        refine A_aload_n (q := 23) cx dX0_dealFlows_22 rfl rfl rfl ?_
        refine A_iload_n (q := 24) cx dX0_dealFlows_23 rfl rfl ?_
        refine A_iload_n (q := 25) cx dX0_dealFlows_24 rfl rfl ?_
        refine VI2 (q := 28) cx (ct_X0_wantedBy hE hX) (cwV 2 cx.1.2.2.2.2 gX0_dealFlows_X0_wantedBy rfl rfl rfl (by decide +kernel) ⟨Nat.le_of_ble_eq_true rfl, Nat.le_of_ble_eq_true rfl⟩) dX0_dealFlows_25 rfl rfl (in0 hX (by omega)) rfl (Nat.le_of_ble_eq_true rfl) ⟨Nat.zero_le _, Nat.zero_le _⟩ rfl ?_
        refine A_iload_n (q := 29) cx dX0_dealFlows_28 rfl rfl ?_
        refine VV2 (q := 32) cx (ct_X1_deal hE hX rfl (in1 hX (by omega))) (cwV 2 cx.1.2.2.2.2 gX0_dealFlows_X1_deal rfl rfl rfl (by decide +kernel) ⟨Nat.le_of_ble_eq_true rfl, Nat.le_of_ble_eq_true rfl⟩) dX0_dealFlows_29 rfl rfl (in1 hX (by omega)) rfl (Nat.le_of_ble_eq_true rfl) ⟨Nat.zero_le _, Nat.zero_le _⟩ rfl ?_
        refine A_iinc (lv' := [some _, some _, some _, some _]) (q := 35) cx dX0_dealFlows_32 rfl (nI_1 i) rfl rfl ?_
        refine A_goto (q := 7) cx dX0_dealFlows_35 (by decide) ?_
        exact ih (i + 1) _ (by omega) hF
  refine A_aload_n (q := 1) cx dX0_dealFlows_0 rfl rfl rfl ?_
  refine VI0 (q := 4) cx (ct_X0_howManySending hE hX) (cwV 0 cx.1.2.2.2.2 gX0_dealFlows_X0_howManySending rfl rfl rfl (by decide +kernel) ⟨Nat.le_of_ble_eq_true rfl, Nat.le_of_ble_eq_true rfl⟩) dX0_dealFlows_1 rfl rfl (in0 hX (by omega)) rfl (Nat.le_of_ble_eq_true rfl) ⟨Nat.zero_le _, Nat.zero_le _⟩ rfl ?_
  refine A_istore_n (lv' := [some _, some _, some _, none]) (q := 5) cx dX0_dealFlows_4 (Nat.le_of_ble_eq_true rfl) rfl rfl ?_
  refine A_iconst (v := 0) (q := 6) cx dX0_dealFlows_5 (by decide) rfl ?_
  refine A_istore_n (lv' := [some _, some _, some _, some _]) (q := 7) cx dX0_dealFlows_6 (Nat.le_of_ble_eq_true rfl) rfl rfl ?_
  exact l1 8 0 _ rfl rfl
