/-! WHAT THE CLASS'S METHODS DO: BundledLinks; an answer and the ints behind it. -/
def inN (n : Nat) (k : Ky) : Prop := k.2.1 = n ∧ (k.1 = 0 ∨ k.1 = 1 ∨ k.1 = 3 ∨ k.1 = 4 ∨ k.1 = 5 ∨ k.1 = 14)
/-- σ and σ' are alike but for the net n -/
def agr (n : Nat) (σ σ' : Sg) : Prop := ∀ k, ¬ inN n k → σ' k = σ k
theorem agr.rf (n : Nat) (σ : Sg) : agr n σ σ := fun _ _ => rfl
theorem agr.tr {n : Nat} {a b c : Sg} (h : agr n a b) (h2 : agr n b c) : agr n a c := fun k hk => (h2 k hk).trans (h k hk)
theorem agr.up {n : Nat} {σ σ' : Sg} {k : Ky} {j : Nat} {v : Int32} (hk : inN n k) (h : agr n σ σ') : agr n σ (up2 σ' k j v) := fun k' h' => by
  rw [up2_nk σ' k j v (fun e => h' (by rw [e]; exact hk))]; exact h k' h'
theorem i0 (n e l : Nat) : inN n (0, n, e, l) := ⟨rfl, by simp⟩
theorem i1 (n e l : Nat) : inN n (1, n, e, l) := ⟨rfl, by simp⟩
theorem i3 (n e l : Nat) : inN n (3, n, e, l) := ⟨rfl, by simp⟩
theorem i4 (n e l : Nat) : inN n (4, n, e, l) := ⟨rfl, by simp⟩
theorem i5 (n e l : Nat) : inN n (5, n, e, l) := ⟨rfl, by simp⟩
theorem i14 (n e l : Nat) : inN n (14, n, e, l) := ⟨rfl, by simp⟩
theorem agr_mClear {n : Nat} {σ σ' : Sg} {k : Ky} (hk : inN n k) (h : agr n σ σ') : agr n σ (mClear σ' k) := .up hk (.up hk (.up hk (.up hk (.up hk h))))
theorem agr_mCopy {n : Nat} {σ σ' : Sg} {k k2 : Ky} (hk : inN n k) (h : agr n σ σ') : agr n σ (mCopy σ' k k2) := .up hk (.up hk (.up hk (.up hk (.up hk h))))
theorem agr_fClear {n : Nat} {σ σ' : Sg} {k : Ky} (hk : inN n k) (h : agr n σ σ') : agr n σ (fClear σ' k) := .up hk (.up hk h)
theorem agr_fCopy {n : Nat} {σ σ' : Sg} {k k2 : Ky} (hk : inN n k) (h : agr n σ σ') : agr n σ (fCopy σ' k k2) := .up hk (.up hk h)
theorem agr_pClear {n : Nat} {σ σ' : Sg} {e l : Nat} (h : agr n σ σ') : agr n σ (pClear σ' n e l) :=
  .up (i5 n e l) (.up (i5 n e l) (.up (i5 n e l) (.up (i5 n e l) (.up (i5 n e l) (agr_mClear (i14 n e l) (agr_mClear (i3 n e l) (.up (i5 n e l) (.up (i5 n e l) (.up (i5 n e l) (.up (i5 n e l) h))))))))))
theorem agr_pCopy {n : Nat} {σ σ' : Sg} {e l n2 e2 l2 : Nat} (h : agr n σ σ') : agr n σ (pCopy σ' n e l n2 e2 l2) :=
  .up (i5 n e l) (.up (i5 n e l) (.up (i5 n e l) (.up (i5 n e l) (.up (i5 n e l) (agr_mCopy (i14 n e l) (agr_mCopy (i3 n e l) (.up (i5 n e l) (.up (i5 n e l) (.up (i5 n e l) (.up (i5 n e l) h))))))))))
theorem agr_eCopyP {n : Nat} {σ : Sg} {e n2 e2 : Nat} : ∀ (d i : Nat) {σ' : Sg}, agr n σ σ' → agr n σ (eCopyP n e n2 e2 d i σ')
  | 0, _, _, h => h
  | d + 1, i, _, h => agr_eCopyP d (i + 1) (agr_pCopy h)
theorem agr_eCopyF {n : Nat} {σ : Sg} {e n2 e2 : Nat} : ∀ (d i : Nat) {σ' : Sg}, agr n σ σ' → agr n σ (eCopyF n e n2 e2 d i σ')
  | 0, _, _, h => h
  | d + 1, i, _, h => agr_eCopyF d (i + 1) (agr_fCopy (i1 n e i) h)
theorem agr_eCopy {n : Nat} {σ σ' : Sg} {e n2 e2 : Nat} (h : agr n σ σ') : agr n σ (eCopy σ' n e n2 e2) := agr_eCopyF 8 0 (agr_eCopyP 6 0 (.up (i0 n e 0) h))
theorem agr_nCopy {n : Nat} {σ σ' : Sg} {n2 : Nat} (h : agr n σ σ') : agr n σ (nCopy σ' n n2) :=
  .up (i4 n 0 0) (.up (i4 n 0 0) (.up (i4 n 0 0) (.up (i4 n 0 0) (.up (i4 n 0 0) (agr_eCopy (agr_eCopy h))))))
theorem hKeep_0 (σ : Sg) (n : Nat) {k : Ky} (hk : k.2.1 = 0) (hk2 : k.1 ≠ 2) : hKeep σ n k = σ k := by
  cases he : eAt 6 (σ (2, 0, 0, 0) 1) with
  | none => simp only [hKeep, he]
  | some j =>
    simp only [hKeep, he]
    have hne : k ≠ (2, 0, 0, 0) := fun e => hk2 (by rw [e])
    unfold hMin hNext
    rw [up2_nk _ _ _ _ hne, up2_nk _ _ _ _ hne]
    exact agr_nCopy (agr.rf _ _) k (fun h => by have := h.1; omega)
theorem nPort_inv {σ : Sg} {n : Nat} {x y : Int32} {k : Ky} (h : nPort σ n x y = some k) : ∃ e j, eOf x = some e ∧ y < σ (4, n, 0, 0) 2 ∧ eAt 6 y = some j ∧ k = (5, n, e, j) ∧ e < 2 ∧ j < 6 := by
  unfold nPort at h
  split at h
  · cases h
  · next e he =>
    split at h
    · next hy =>
      cases hj : eAt 6 y with
      | none => rw [hj] at h; cases h
      | some j => rw [hj] at h; cases h; exact ⟨e, j, he, hy, rfl, rfl, eOf_lt he, (eAt_lt (by decide) hj).1⟩
    · cases h
theorem nFlow_inv {n : Nat} {x y : Int32} {k : Ky} (h : nFlow n x y = some k) : ∃ e j, eOf x = some e ∧ eAt 8 y = some j ∧ k = (1, n, e, j) ∧ e < 2 ∧ j < 8 := by
  unfold nFlow at h
  split at h
  · cases h
  · next e he =>
    cases hj : eAt 8 y with
    | none => rw [hj] at h; cases h
    | some j => rw [hj] at h; cases h; exact ⟨e, j, he, rfl, rfl, eOf_lt he, (eAt_lt (by decide) hj).1⟩
def xWrite (σ : Sg) (v : Int32) : Int32 × Sg := if v < 32 then (-1, σ) else if v ≤ 126 then (if tOk σ then (tAdd σ v (6, 0, 0, 0) 1, tAdd σ v) else (-3, tAdd σ v)) else (-1, σ)
def xZero : Nat → Nat → Sg → Sg
  | 0, _, σ => σ
  | d + 1, i, σ => xZero d (i + 1) (up2 σ (9, 1, 0, 0) i 0)
def xLay1 (σ : Sg) : Sg := xZero 12 0 (up2 (up2 (nLay σ 0) (2, 0, 0, 0) 1 0) (2, 0, 0, 0) 2 0)
def xLay (σ : Sg) (S : Nat) : Int32 × Sg := if tFault σ = -4 then (if tTell σ S = 0 then (-2, σ) else (xLay1 σ (4, 0, 0, 0) 2, xLay1 σ)) else (-2, σ)
def zOne (v : Int32) : Int32 := if v = 1 then 1 else 0
theorem zOne_or (v : Int32) : zOne v = 0 ∨ zOne v = 1 := by unfold zOne; split <;> simp
def xPlug (σ : Sg) (x v : Int32) : Int32 × Sg := match nPort σ 0 0 x with
  | none => (-1, σ)
  | some k => if zBit v = 0 then (-1, σ) else if b01 (σ k 0) = zOne v then (-2, σ) else (eUp (nPlug (hKeep σ 0) 0 k.2.2.2 (zOne v)) 0 0, nPlug (hKeep σ 0) 0 k.2.2.2 (zOne v))
def xMute (σ : Sg) (x y v : Int32) : Int32 × Sg := match nPort σ 0 x y with
  | none => (-1, σ)
  | some k => if zBit v = 0 then (-1, σ) else if b01 (σ k 1) = zOne v then (-2, σ) else (eMut (up2 (hKeep σ 0) k 1 (zOne v)) 0 k.2.2.1, up2 (hKeep σ 0) k 1 (zOne v))
def xTell (σ : Sg) (x y w v : Int32) : Int32 × Sg := match nPort σ 0 x y with
  | none => (-1, σ)
  | some k => if zBit w = 0 then (-1, σ) else if zFig v = 0 then (-1, σ)
    else if w = 0 then (if σ k 2 = v then (-2, σ) else (σ k 2, up2 (hKeep σ 0) k 2 v)) else (if σ k 3 = v then (-2, σ) else (σ k 3, up2 (hKeep σ 0) k 3 v))
def xSetOk (w v : Int32) : Int32 := if w < 0 then 0 else if 2 < w then 0 else if w = 2 then zMost v else zFig v
def xSet (σ : Sg) (w v : Int32) : Int32 × Sg := if xSetOk w v = 0 then (-1, σ) else if nSet σ 0 w = v then (-2, σ) else (nSet σ 0 w, nChg (hKeep σ 0) 0 w v)
def xAgree (σ : Sg) : Int32 := if eBits σ 0 0 2 = 0 then 0 else if eBits σ 0 0 2 = eBits σ 0 1 2 then 1 else 0
def nSteps (n : Nat) : Nat → Sg → Sg
  | 0, σ => σ
  | d + 1, σ => nSteps n d (nStep σ n)
def xTick (σ : Sg) (v : Int32) : Int32 × Sg := if v < 1 then (-1, σ) else if v ≤ 40 then (if σ (4, 0, 0, 0) 6 + v ≤ 9999 then (xAgree (nSteps 0 v.toNatClampNeg (hKeep σ 0)), nSteps 0 v.toNatClampNeg (hKeep σ 0)) else (-2, σ)) else (-1, σ)
def xUndo (σ : Sg) : Int32 × Sg := match hTakeR σ with
  | none => (-2, hTake σ)
  | some j => (nCopy (hTake σ) 0 (j + 1) (2, 0, 0, 0) 2, nCopy (hTake σ) 0 (j + 1))
def xLink (σ : Sg) (x y w : Int32) : Int32 := match nPort σ 0 x y with
  | none => -1
  | some k => pLook σ 0 k.2.2.1 k.2.2.2 w
def xBundle (σ : Sg) (x w : Int32) : Int32 := match eOf x with
  | none => -1
  | some e => if w < 0 then -1 else if w ≤ 2 then eBits σ 0 e w else -1
def xFlow (σ : Sg) (x y w : Int32) : Int32 := match nFlow 0 x y with
  | none => -1
  | some k => if w = 0 then σ k 0 else if w = 1 then σ k 1 else if w = 2 then eWant σ 0 k.2.2.1 y (eSend σ 0 k.2.2.1) else -1
def zPl (σ : Sg) (x y : Int32) : Int32 := if x < 0 then -4 else if 1 < x then -4 else if y < 0 then -4 else if y < σ (4, 0, 0, 0) 2 then (if 12 ≤ x * 6 + y then -4 else x * 6 + y) else -4
theorem zPl_in {σ : Sg} {x y : Int32} {L : Nat} (hL : σ (4, 0, 0, 0) 2 = nI L) (hL6 : L ≤ 6) (h : ¬ zPl σ x y = -4) : ∃ a b : Nat, a < 2 ∧ b < L ∧ x = nI a ∧ y = nI b ∧ zPl σ x y = nI (6 * a + b) := by
  unfold zPl at h ⊢
  by_cases h1 : x < 0
  · rw [if_pos h1] at h; exact absurd rfl h
  rw [if_neg h1] at h ⊢
  by_cases h2 : 1 < x
  · rw [if_pos h2] at h; exact absurd rfl h
  rw [if_neg h2] at h ⊢
  by_cases h3 : y < 0
  · rw [if_pos h3] at h; exact absurd rfl h
  rw [if_neg h3] at h ⊢
  by_cases h4 : y < σ (4, 0, 0, 0) 2
  · rw [if_pos h4] at h ⊢
    rw [hL] at h4
    obtain ⟨b, hb, rfl, -⟩ := ix_lt h3 h4 (by omega)
    obtain ⟨a, ha, rfl⟩ := nI_of h1
    have ha2 : a < 2 := by
      rcases Nat.lt_or_ge a 2 with q | q
      · exact q
      · exact absurd (nI_lt (a := 1) (b := a) (by omega) ha) h2
    have e : nI a * 6 + nI b = nI (6 * a + b) := by
      rw [show (6 : Int32) = nI 6 from rfl, pk_mul, nI_add, Nat.mul_comm]
    rw [e] at h ⊢
    have h5 : ¬ (12 : Int32) ≤ nI (6 * a + b) := nI_ge (a := 6 * a + b) (b := 12) (by omega) (by decide)
    rw [if_neg h5]
    exact ⟨a, b, ha2, hb, rfl, rfl, rfl⟩
  · rw [if_neg h4] at h; exact absurd rfl h
def xFrame (σ : Sg) (x y : Int32) : Int32 × Sg := match nFlow 0 x y with
  | none => (-1, σ)
  | some k => if σ k 1 ≤ 0 then (match nPort σ 0 x (σ k 0) with
      | none => (-4, σ)
      | some q => if σ q 7 = 5 then (if zPl σ x (σ k 0) = -4 then (-4, σ) else (σ k 0, up2 σ (9, 1, 0, 0) (zPl σ x (σ k 0)).toNatClampNeg (σ (9, 1, 0, 0) (zPl σ x (σ k 0)).toNatClampNeg + 1))) else (-4, σ))
    else (-2, σ)
def xFrames (σ : Sg) (x y : Int32) : Int32 := if zPl σ x y = -4 then -1 else σ (9, 1, 0, 0) (zPl σ x y).toNatClampNeg
/-- settled: t the turn, s since when -/
def xSetR : Nat → Nat → Int32 → Sg → Int32 × Sg
  | 0, _, _, σ => (-4, σ)
  | d + 1, t, s, σ => if nLike (nStep σ 7) 7 8 = 0 then xSetR d (t + 1) (nI t) (nCopy (nStep σ 7) 8 7)
    else if nI t - s < 6 then xSetR d (t + 1) s (nStep σ 7) else (s, nStep σ 7)
def xSettled (σ : Sg) : Int32 × Sg := xSetR 46 1 0 (nCopy (nCopy σ 7 0) 8 0)
def xCount (σ : Sg) (w : Int32) : Int32 := if w = 0 then σ (4, 0, 0, 0) 2 else if w = 1 then eUp σ 0 0 else if w = 2 then nSet σ 0 0 else if w = 3 then nSet σ 0 1 else if w = 4 then nSet σ 0 2
  else if w = 5 then σ (4, 0, 0, 0) 4 else if w = 6 then σ (4, 0, 0, 0) 5 else if w = 7 then σ (4, 0, 0, 0) 6 else if w = 8 then σ (2, 0, 0, 0) 2 else if w = 9 then σ (6, 0, 0, 0) 1 else -1
theorem hTakeR_lt {σ : Sg} {j : Nat} (h : hTakeR σ = some j) : j < 6 := by
  unfold hTakeR at h
  split at h
  · cases h
  · exact (eAt_lt (by decide) h).1
theorem wi_X7_wipe_X7 : ∀ w ∈ u_ws RX7 TX7 6, w ∈ wsX7_wipe := by decide +kernel
theorem wf_X7_wipe_10 : Cond.fieldLink RX7 10 (TX7 0).1 (TX7 0).2.1 (TX7 0).2.2.1 ∈ wsX7_wipe := by decide +kernel
theorem wi_X7_wipe_X6 : ∀ w ∈ u_ws RX6 TX6 2, w ∈ wsX7_wipe := by decide +kernel
theorem wf_X7_wipe_63 : Cond.fieldLink RX7 63 (TX6 1).1 (TX6 1).2.1 (TX6 1).2.2.1 ∈ wsX7_wipe := by decide +kernel
set_option maxHeartbeats 1000000 in
set_option maxRecDepth 100000 in
theorem ct_X7_wipe {la : Launch} {E : Ev} (hE : okE E) (hX : xin E) {σ : Sg}  : CI la yX7_wipe wsX7_wipe 1 20 E rh0 [.ref (ad E (7, 0, 0, 0))] σ (σ (6, 0, 0, 0) 1) (up2 σ (6, 0, 0, 0) 1 0) := by
  refine met_of (lv := [some _, none]) RX7 (by decide) rfl rfl rfl hE (ok1 rfl) (Nat.le_of_ble_eq_true rfl) (fun p ev s m args below meth c Q cx hlk hr hQ => ?_)
  refine A_aload_n (q := 1) cx dX7_wipe_0 rfl rfl rfl ?_
  refine gX7_0 (q := 4) cx wi_X7_wipe_X7 wf_X7_wipe_10 dX7_wipe_1 rfl (in7 hX) rfl rfl ?_
  refine gX6_1 (q := 7) cx wi_X7_wipe_X6 wf_X7_wipe_63 dX7_wipe_4 rfl (in6 hX) rfl ?_
  refine A_istore_n (lv' := [some _, some _]) (q := 8) cx dX7_wipe_7 (Nat.le_of_ble_eq_true rfl) rfl rfl ?_
  refine A_aload_n (q := 9) cx dX7_wipe_8 rfl rfl rfl ?_
  refine gX7_0 (q := 12) cx wi_X7_wipe_X7 wf_X7_wipe_10 dX7_wipe_9 rfl (in7 hX) rfl rfl ?_
  refine VV0 (q := 15) cx (ct_X6_clear hE hX) (cwV 0 cx.1.2.2.2.2 gX7_wipe_X6_clear rfl rfl rfl (by decide +kernel) ⟨Nat.le_of_ble_eq_true rfl, Nat.le_of_ble_eq_true rfl⟩) dX7_wipe_12 rfl rfl (in6 hX) rfl (Nat.le_of_ble_eq_true rfl) ⟨Nat.zero_le _, Nat.zero_le _⟩ rfl ?_
  refine A_iload_n (q := 16) cx dX7_wipe_15 rfl rfl ?_
  exact A_iret cx hlk hr hQ dX7_wipe_16 rfl rfl
theorem wi_X7_fault_X7 : ∀ w ∈ u_ws RX7 TX7 6, w ∈ wsX7_fault := by decide +kernel
theorem wf_X7_fault_10 : Cond.fieldLink RX7 10 (TX7 0).1 (TX7 0).2.1 (TX7 0).2.2.1 ∈ wsX7_fault := by decide +kernel
set_option maxHeartbeats 1000000 in
set_option maxRecDepth 100000 in
theorem ct_X7_fault {la : Launch} {E : Ev} (hE : okE E) (hX : xin E) {σ : Sg}  : CI la yX7_fault wsX7_fault 4 90 E rh0 [.ref (ad E (7, 0, 0, 0))] σ (tFault σ) σ := by
  refine met_of (lv := [some _]) RX7 (by decide) rfl rfl rfl hE (ok1 rfl) (Nat.le_of_ble_eq_true rfl) (fun p ev s m args below meth c Q cx hlk hr hQ => ?_)
  refine A_aload_n (q := 1) cx dX7_fault_0 rfl rfl rfl ?_
  refine gX7_0 (q := 4) cx wi_X7_fault_X7 wf_X7_fault_10 dX7_fault_1 rfl (in7 hX) rfl rfl ?_
  refine VI0 (q := 7) cx (ct_X6_firstFault hE hX) (cwV 0 cx.1.2.2.2.2 gX7_fault_X6_firstFault rfl rfl rfl (by decide +kernel) ⟨Nat.le_of_ble_eq_true rfl, Nat.le_of_ble_eq_true rfl⟩) dX7_fault_4 rfl rfl (in6 hX) rfl (Nat.le_of_ble_eq_true rfl) ⟨Nat.zero_le _, Nat.zero_le _⟩ rfl ?_
  exact A_iret cx hlk hr hQ dX7_fault_7 rfl rfl
theorem wi_X7_write_X7 : ∀ w ∈ u_ws RX7 TX7 6, w ∈ wsX7_write := by decide +kernel
theorem wf_X7_write_10 : Cond.fieldLink RX7 10 (TX7 0).1 (TX7 0).2.1 (TX7 0).2.2.1 ∈ wsX7_write := by decide +kernel
theorem wi_X7_write_X6 : ∀ w ∈ u_ws RX6 TX6 2, w ∈ wsX7_write := by decide +kernel
theorem wf_X7_write_63 : Cond.fieldLink RX7 63 (TX6 1).1 (TX6 1).2.1 (TX6 1).2.2.1 ∈ wsX7_write := by decide +kernel
set_option maxHeartbeats 1000000 in
set_option maxRecDepth 100000 in
theorem ct_X7_write {la : Launch} {E : Ev} (hE : okE E) (hX : xin E) {σ : Sg} {v : Int32} : CI la yX7_write wsX7_write 1 21 E rh0 [.ref (ad E (7, 0, 0, 0)), .int v] σ (xWrite σ v).1 (xWrite σ v).2 := by
  refine met_of (lv := [some _, some _]) RX7 (by decide) rfl rfl rfl hE (ok2 rfl rfl) (Nat.le_of_ble_eq_true rfl) (fun p ev s m args below meth c Q cx hlk hr hQ => ?_)
  refine A_iload_n (q := 1) cx dX7_write_0 rfl rfl ?_
  refine A_bipush (v := 32) (q := 3) cx dX7_write_1 (by decide) rfl ?_
  refine A_icmp_lt (tgt := 12) (q := 6) cx dX7_write_3 (by decide) rfl (fun c_3 => ?_) (fun c_3 => ?_)
  · refine A_iconst (v := -1) (q := 13) cx dX7_write_12 (by decide) rfl ?_
    exact A_iret cx hlk hr hQ dX7_write_13 (by unfold xWrite; first | (rw [if_pos c_3]; done) | (rw [if_neg c_3, if_neg c_9]; done)) (by unfold xWrite; first | (rw [if_pos c_3]; done) | (rw [if_neg c_3, if_neg c_9]; done))
  · refine A_iload_n (q := 7) cx dX7_write_6 rfl rfl ?_
    refine A_bipush (v := 126) (q := 9) cx dX7_write_7 (by decide) rfl ?_
    refine A_icmp_le (tgt := 14) (q := 12) cx dX7_write_9 (by decide) rfl (fun c_9 => ?_) (fun c_9 => ?_)
    · refine A_aload_n (q := 15) cx dX7_write_14 rfl rfl rfl ?_
      refine gX7_0 (q := 18) cx wi_X7_write_X7 wf_X7_write_10 dX7_write_15 rfl (in7 hX) rfl rfl ?_
      refine A_iload_n (q := 19) cx dX7_write_18 rfl rfl ?_
      refine VI1 (q := 22) cx (ct_X6_add hE hX) (cwV 1 cx.1.2.2.2.2 gX7_write_X6_add rfl rfl rfl (by decide +kernel) ⟨Nat.le_of_ble_eq_true rfl, Nat.le_of_ble_eq_true rfl⟩) dX7_write_19 rfl rfl (in6 hX) rfl (Nat.le_of_ble_eq_true rfl) ⟨Nat.zero_le _, Nat.zero_le _⟩ rfl ?_
      refine A_if_eq (tgt := 35) (q := 25) cx dX7_write_22 (by decide) rfl (fun c_22 => ?_) (fun c_22 => ?_)
      · refine A_bipush (v := -3) (q := 37) cx dX7_write_35 (by decide) rfl ?_
        exact A_iret cx hlk hr hQ dX7_write_37 (by unfold xWrite; rw [if_neg c_3, if_pos c_9]; cases h : tOk σ <;> simp [h] at c_22 ⊢) (by unfold xWrite; rw [if_neg c_3, if_pos c_9]; cases h : tOk σ <;> simp [h] at c_22 ⊢)
      · refine A_aload_n (q := 26) cx dX7_write_25 rfl rfl rfl ?_
        refine gX7_0 (q := 29) cx wi_X7_write_X7 wf_X7_write_10 dX7_write_26 rfl (in7 hX) rfl rfl ?_
        refine gX6_1 (q := 32) cx wi_X7_write_X6 wf_X7_write_63 dX7_write_29 rfl (in6 hX) rfl ?_
        refine A_goto (q := 37) cx dX7_write_32 (by decide) ?_
        exact A_iret cx hlk hr hQ dX7_write_37 (by unfold xWrite; rw [if_neg c_3, if_pos c_9]; cases h : tOk σ <;> simp [h] at c_22 ⊢) (by unfold xWrite; rw [if_neg c_3, if_pos c_9]; cases h : tOk σ <;> simp [h] at c_22 ⊢)
    · refine A_iconst (v := -1) (q := 13) cx dX7_write_12 (by decide) rfl ?_
      exact A_iret cx hlk hr hQ dX7_write_13 (by unfold xWrite; first | (rw [if_pos c_3]; done) | (rw [if_neg c_3, if_neg c_9]; done)) (by unfold xWrite; first | (rw [if_pos c_3]; done) | (rw [if_neg c_3, if_neg c_9]; done))
theorem wi_X7_lay_X7 : ∀ w ∈ u_ws RX7 TX7 6, w ∈ wsX7_lay := by decide +kernel
theorem wf_X7_lay_30 : Cond.fieldLink RX7 30 (TX7 3).1 (TX7 3).2.1 (TX7 3).2.2.1 ∈ wsX7_lay := by decide +kernel
theorem wf_X7_lay_19 : Cond.fieldLink RX7 19 (TX7 1).1 (TX7 1).2.1 (TX7 1).2.2.1 ∈ wsX7_lay := by decide +kernel
theorem wi_X7_lay_X4 : ∀ w ∈ u_ws RX4 TX4 7, w ∈ wsX7_lay := by decide +kernel
theorem wf_X7_lay_75 : Cond.fieldLink RX7 75 (TX4 2).1 (TX4 2).2.1 (TX4 2).2.2.1 ∈ wsX7_lay := by decide +kernel
theorem wf_X7_lay_10 : Cond.fieldLink RX7 10 (TX7 0).1 (TX7 0).2.1 (TX7 0).2.2.1 ∈ wsX7_lay := by decide +kernel
theorem wf_X7_lay_26 : Cond.fieldLink RX7 26 (TX7 2).1 (TX7 2).2.1 (TX7 2).2.2.1 ∈ wsX7_lay := by decide +kernel
set_option maxHeartbeats 1000000 in
set_option maxRecDepth 100000 in
theorem ct_X7_lay {la : Launch} {E : Ev} (hE : okE E) (hX : xin E) {σ0 : Sg} {S : Nat} (hS : σ0 (6, 0, 0, 0) 1 = nI S) (hS2 : S ≤ 200) : CI la yX7_lay wsX7_lay 5 112 E rh0 [.ref (ad E (7, 0, 0, 0))] σ0 (xLay σ0 S).1 (xLay σ0 S).2 := by
  refine met_of (lv := [some _, none]) RX7 (by decide) rfl rfl rfl hE (ok1 rfl) (Nat.le_of_ble_eq_true rfl) (fun p ev s m args below meth c Q cx hlk hr hQ => ?_)
  have l1 : ∀ (d i : Nat) (σ : Sg), i + d = 12 → xZero d i σ = xLay1 σ0 → xLay σ0 S = (xLay1 σ0 (4, 0, 0, 0) 2, xLay1 σ0) → AW p la ev (rmm 5 112) s m args below meth c 0 0 Q (AL E) E rh0 45 [some (.ref (ad E (7, 0, 0, 0))), some (.int (nI i))] [] σ := by
    intro d
    induction d with
    | zero =>
      intro i σ hi hF hX1
      obtain rfl : i = 12 := by omega
      refine A_iload_n (q := 46) cx dX7_lay_45 rfl rfl ?_
      refine A_aload_n (q := 47) cx dX7_lay_46 rfl rfl rfl ?_
      refine gX7_3 (q := 50) cx wi_X7_lay_X7 wf_X7_lay_30 dX7_lay_47 rfl (in7 hX) rfl rfl ?_
      refine A_alen9 (v := 12) (q := 51) cx dX7_lay_50 rfl (in91 hX) rfl rfl ?_
      refine A_icmp_ge (tgt := 67) (q := 54) cx dX7_lay_51 (by decide) rfl (fun c_51 => ?_) (fun c_51 => ?_)
      · refine A_aload_n (q := 68) cx dX7_lay_67 rfl rfl rfl ?_
        refine gX7_1 (q := 71) cx wi_X7_lay_X7 wf_X7_lay_19 dX7_lay_68 rfl (in7 hX) rfl rfl ?_
        refine gX4_2 (q := 74) cx wi_X7_lay_X4 wf_X7_lay_75 dX7_lay_71 rfl (in4 hX (by omega)) rfl ?_
        exact A_iret cx hlk hr hQ dX7_lay_74 (by rw [hX1, ← hF]; rfl) (by rw [hX1]; exact hF)
      · exact absurd (by decide) c_51
    | succ d ih =>
      intro i σ hi hF hX1
      refine A_iload_n (q := 46) cx dX7_lay_45 rfl rfl ?_
      refine A_aload_n (q := 47) cx dX7_lay_46 rfl rfl rfl ?_
      refine gX7_3 (q := 50) cx wi_X7_lay_X7 wf_X7_lay_30 dX7_lay_47 rfl (in7 hX) rfl rfl ?_
      refine A_alen9 (v := 12) (q := 51) cx dX7_lay_50 rfl (in91 hX) rfl rfl ?_
      refine A_icmp_ge (tgt := 67) (q := 54) cx dX7_lay_51 (by decide) rfl (fun c_51 => ?_) (fun c_51 => ?_)
      · exact absurd c_51 (not_ge (i := i) (b := 12) (by omega) (by decide))
      · refine A_aload_n (q := 55) cx dX7_lay_54 rfl rfl rfl ?_
        refine gX7_3 (q := 58) cx wi_X7_lay_X7 wf_X7_lay_30 dX7_lay_55 rfl (in7 hX) rfl rfl ?_
        refine A_iload_n (q := 59) cx dX7_lay_58 rfl rfl ?_
        refine A_iconst (v := 0) (q := 60) cx dX7_lay_59 (by decide) rfl ?_
        refine A_iastore (q := 61) cx dX7_lay_60 rfl (in91 hX) rfl (by show _ < 12; omega) rfl ?_
        refine A_iinc (lv' := [some _, some _]) (q := 64) cx dX7_lay_61 rfl (nI_1 i) rfl rfl ?_
        refine A_goto (q := 45) cx dX7_lay_64 (by decide) ?_
        exact ih (i + 1) _ (by omega) hF hX1
  refine A_aload_n (q := 1) cx dX7_lay_0 rfl rfl rfl ?_
  refine gX7_0 (q := 4) cx wi_X7_lay_X7 wf_X7_lay_10 dX7_lay_1 rfl (in7 hX) rfl rfl ?_
  refine VI0 (q := 7) cx (ct_X6_firstFault hE hX) (cwV 0 cx.1.2.2.2.2 gX7_lay_X6_firstFault rfl rfl rfl (by decide +kernel) ⟨Nat.le_of_ble_eq_true rfl, Nat.le_of_ble_eq_true rfl⟩) dX7_lay_4 rfl rfl (in6 hX) rfl (Nat.le_of_ble_eq_true rfl) ⟨Nat.zero_le _, Nat.zero_le _⟩ rfl ?_
  refine A_bipush (v := -4) (q := 9) cx dX7_lay_7 (by decide) rfl ?_
  refine A_icmp_ne (tgt := 22) (q := 12) cx dX7_lay_9 (by decide) rfl (fun c_9 => ?_) (fun c_9 => ?_)
  · refine A_bipush (v := -2) (q := 24) cx dX7_lay_22 (by decide) rfl ?_
    exact A_iret cx hlk hr hQ dX7_lay_24 (by unfold xLay; first | (rw [if_neg c_9]; done) | rw [if_pos c_9, if_pos c_19]) (by unfold xLay; first | (rw [if_neg c_9]; done) | rw [if_pos c_9, if_pos c_19])
  · refine A_aload_n (q := 13) cx dX7_lay_12 rfl rfl rfl ?_
    refine gX7_0 (q := 16) cx wi_X7_lay_X7 wf_X7_lay_10 dX7_lay_13 rfl (in7 hX) rfl rfl ?_
    refine VI0 (q := 19) cx (ct_X6_tellsLink hE hX hS hS2) (cwV 0 cx.1.2.2.2.2 gX7_lay_X6_tellsLink rfl rfl rfl (by decide +kernel) ⟨Nat.le_of_ble_eq_true rfl, Nat.le_of_ble_eq_true rfl⟩) dX7_lay_16 rfl rfl (in6 hX) rfl (Nat.le_of_ble_eq_true rfl) ⟨Nat.zero_le _, Nat.zero_le _⟩ rfl ?_
    refine A_if_ne (tgt := 25) (q := 22) cx dX7_lay_19 (by decide) rfl (fun c_19 => ?_) (fun c_19 => ?_)
    · refine A_aload_n (q := 26) cx dX7_lay_25 rfl rfl rfl ?_
      refine gX7_1 (q := 29) cx wi_X7_lay_X7 wf_X7_lay_19 dX7_lay_26 rfl (in7 hX) rfl rfl ?_
      refine A_aload_n (q := 30) cx dX7_lay_29 rfl rfl rfl ?_
      refine gX7_0 (q := 33) cx wi_X7_lay_X7 wf_X7_lay_10 dX7_lay_30 rfl (in7 hX) rfl rfl ?_
      refine VV1 (q := 36) cx (ct_X4_layOut hE hX) (cwV 1 cx.1.2.2.2.2 gX7_lay_X4_layOut rfl rfl rfl (by decide +kernel) ⟨Nat.le_of_ble_eq_true rfl, Nat.le_of_ble_eq_true rfl⟩) dX7_lay_33 rfl rfl (in4 hX (by omega)) rfl (Nat.le_of_ble_eq_true rfl) ⟨Nat.zero_le _, Nat.zero_le _⟩ rfl ?_
      refine A_aload_n (q := 37) cx dX7_lay_36 rfl rfl rfl ?_
      refine gX7_2 (q := 40) cx wi_X7_lay_X7 wf_X7_lay_26 dX7_lay_37 rfl (in7 hX) rfl rfl ?_
      refine VV0 (q := 43) cx (ct_X2_clear hE hX) (cwV 0 cx.1.2.2.2.2 gX7_lay_X2_clear rfl rfl rfl (by decide +kernel) ⟨Nat.le_of_ble_eq_true rfl, Nat.le_of_ble_eq_true rfl⟩) dX7_lay_40 rfl rfl (in2 hX) rfl (Nat.le_of_ble_eq_true rfl) ⟨Nat.zero_le _, Nat.zero_le _⟩ rfl ?_
      refine A_iconst (v := 0) (q := 44) cx dX7_lay_43 (by decide) rfl ?_
      refine A_istore_n (lv' := [some _, some _]) (q := 45) cx dX7_lay_44 (Nat.le_of_ble_eq_true rfl) rfl rfl ?_
      exact l1 12 0 _ rfl rfl (by unfold xLay; rw [if_pos c_9, if_neg c_19])
    · refine A_bipush (v := -2) (q := 24) cx dX7_lay_22 (by decide) rfl ?_
      exact A_iret cx hlk hr hQ dX7_lay_24 (by unfold xLay; first | (rw [if_neg c_9]; done) | rw [if_pos c_9, if_pos c_19]) (by unfold xLay; first | (rw [if_neg c_9]; done) | rw [if_pos c_9, if_pos c_19])
theorem wi_X7_plug_X7 : ∀ w ∈ u_ws RX7 TX7 6, w ∈ wsX7_plug := by decide +kernel
theorem wf_X7_plug_19 : Cond.fieldLink RX7 19 (TX7 1).1 (TX7 1).2.1 (TX7 1).2.2.1 ∈ wsX7_plug := by decide +kernel
theorem wi_X7_plug_X5 : ∀ w ∈ u_ws RX5 TX5 11, w ∈ wsX7_plug := by decide +kernel
theorem wf_X7_plug_85 : Cond.fieldLink RX7 85 (TX5 0).1 (TX5 0).2.1 (TX5 0).2.2.1 ∈ wsX7_plug := by decide +kernel
theorem wf_X7_plug_26 : Cond.fieldLink RX7 26 (TX7 2).1 (TX7 2).2.1 (TX7 2).2.2.1 ∈ wsX7_plug := by decide +kernel
theorem wi_X7_plug_X4 : ∀ w ∈ u_ws RX4 TX4 7, w ∈ wsX7_plug := by decide +kernel
theorem wf_X7_plug_99 : Cond.fieldLink RX7 99 (TX4 0).1 (TX4 0).2.1 (TX4 0).2.2.1 ∈ wsX7_plug := by decide +kernel
set_option maxHeartbeats 1000000 in
set_option maxRecDepth 100000 in
theorem ct_X7_plug {la : Launch} {E : Ev} (hE : okE E) (hX : xin E) {σ : Sg} {x v : Int32} : CI la yX7_plug wsX7_plug 5 106 E rh0 [.ref (ad E (7, 0, 0, 0)), .int x, .int v] σ (xPlug σ x v).1 (xPlug σ x v).2 := by
  refine met_of (lv := [some _, some _, some _, none, none]) RX7 (by decide) rfl rfl rfl hE (ok3 rfl rfl rfl) (Nat.le_of_ble_eq_true rfl) (fun p ev s m args below meth c Q cx hlk hr hQ => ?_)
  rcases hp : nPort σ 0 0 x with _ | k
  · refine A_aload_n (q := 1) cx dX7_plug_0 rfl rfl rfl ?_
    refine gX7_1 (q := 4) cx wi_X7_plug_X7 wf_X7_plug_19 dX7_plug_1 rfl (in7 hX) rfl rfl ?_
    refine A_iconst (v := 0) (q := 5) cx dX7_plug_4 (by decide) rfl ?_
    refine A_iload_n (q := 6) cx dX7_plug_5 rfl rfl ?_
    refine VQ2 (q := 9) cx (ct_X4_portOf hE hX) (cwV 2 cx.1.2.2.2.2 gX7_plug_X4_portOf rfl rfl rfl (by decide +kernel) ⟨Nat.le_of_ble_eq_true rfl, Nat.le_of_ble_eq_true rfl⟩) dX7_plug_6 rfl rfl (in4 hX (by omega)) rfl (Nat.le_of_ble_eq_true rfl) ⟨Nat.zero_le _, Nat.zero_le _⟩ rfl ?_
    simp only [hp, Option.map_some, Option.map_none, rv_some, rv_none]
    refine A_astore_n (lv' := [some _, some _, some _, some _, none]) (q := 10) cx dX7_plug_9 (Nat.le_of_ble_eq_true rfl) rfl rfl rfl ?_
    refine A_aload_n (q := 11) cx dX7_plug_10 rfl rfl rfl ?_
    refine A_ifnull_N (tgt := 21) cx dX7_plug_11 (by decide) ?_
    refine A_iconst (v := -1) (q := 22) cx dX7_plug_21 (by decide) rfl ?_
    exact A_iret cx hlk hr hQ dX7_plug_22 (by first | (simp only [xPlug, hp, *, if_true, if_false, ite_true, ite_false, true_or, or_true, false_or, or_false, and_true, true_and, and_false, false_and, and_self, or_self, not_true_eq_false, not_false_eq_true, ne_eq, reduceIte, decide_true, decide_false, Bool.and_true, Bool.true_and, Bool.and_false, Bool.false_and]; done) | (simp [xPlug, hp, *]; done) | (simp_all [xPlug, hp]; done)) (by first | (simp only [xPlug, hp, *, if_true, if_false, ite_true, ite_false, true_or, or_true, false_or, or_false, and_true, true_and, and_false, false_and, and_self, or_self, not_true_eq_false, not_false_eq_true, ne_eq, reduceIte, decide_true, decide_false, Bool.and_true, Bool.true_and, Bool.and_false, Bool.false_and]; done) | (simp [xPlug, hp, *]; done) | (simp_all [xPlug, hp]; done))
  · obtain ⟨e, j, he, hy, hj, rfl, he2, hj6⟩ := nPort_inv hp
    obtain rfl : 0 = e := Option.some.inj he
    refine A_aload_n (q := 1) cx dX7_plug_0 rfl rfl rfl ?_
    refine gX7_1 (q := 4) cx wi_X7_plug_X7 wf_X7_plug_19 dX7_plug_1 rfl (in7 hX) rfl rfl ?_
    refine A_iconst (v := 0) (q := 5) cx dX7_plug_4 (by decide) rfl ?_
    refine A_iload_n (q := 6) cx dX7_plug_5 rfl rfl ?_
    refine VQ2 (q := 9) cx (ct_X4_portOf hE hX) (cwV 2 cx.1.2.2.2.2 gX7_plug_X4_portOf rfl rfl rfl (by decide +kernel) ⟨Nat.le_of_ble_eq_true rfl, Nat.le_of_ble_eq_true rfl⟩) dX7_plug_6 rfl rfl (in4 hX (by omega)) rfl (Nat.le_of_ble_eq_true rfl) ⟨Nat.zero_le _, Nat.zero_le _⟩ rfl ?_
    simp only [hp, Option.map_some, Option.map_none, rv_some, rv_none]
    refine A_astore_n (lv' := [some _, some _, some _, some _, none]) (q := 10) cx dX7_plug_9 (Nat.le_of_ble_eq_true rfl) rfl rfl rfl ?_
    refine A_aload_n (q := 11) cx dX7_plug_10 rfl rfl rfl ?_
    refine A_ifnull_R (q := 14) cx dX7_plug_11 rfl ?_
    refine A_iload_n (q := 15) cx dX7_plug_14 rfl rfl ?_
    refine SI1 (q := 18) cx (ct_X7_isZeroOrOne hE hX) (cwS 1 cx.1.2.2.2.2 gX7_plug_X7_isZeroOrOne rfl rfl rfl (by decide +kernel) ⟨Nat.le_of_ble_eq_true rfl, Nat.le_of_ble_eq_true rfl⟩) dX7_plug_15 rfl (Nat.le_of_ble_eq_true rfl) ⟨Nat.zero_le _, Nat.zero_le _⟩ rfl ?_
    refine A_if_ne (tgt := 23) (q := 21) cx dX7_plug_18 (by decide) rfl (fun c_18 => ?_) (fun c_18 => ?_)
    · refine A_iload_n (q := 24) cx dX7_plug_23 rfl rfl ?_
      refine A_iconst (v := 1) (q := 25) cx dX7_plug_24 (by decide) rfl ?_
      refine A_icmp_ne (tgt := 32) (q := 28) cx dX7_plug_25 (by decide) rfl (fun c_25 => ?_) (fun c_25 => ?_)
      · refine A_iconst (v := 0) (q := 33) cx dX7_plug_32 (by decide) rfl ?_
        refine A_istore (lv' := [some _, some _, some _, some _, some _]) (q := 35) cx dX7_plug_33 (Nat.le_of_ble_eq_true rfl) rfl rfl ?_
        refine A_aload_n (q := 36) cx dX7_plug_35 rfl rfl rfl ?_
        refine gX5_0 (q := 39) cx wi_X7_plug_X5 wf_X7_plug_85 dX7_plug_36 rfl (in5 hX (by omega)) rfl ?_
        refine A_iload (q := 41) cx dX7_plug_39 rfl rfl ?_
        refine A_icmp_ne (tgt := 47) (q := 44) cx dX7_plug_41 (by decide) rfl (fun c_41 => ?_) (fun c_41 => ?_)
        · refine A_aload_n (q := 48) cx dX7_plug_47 rfl rfl rfl ?_
          refine gX7_2 (q := 51) cx wi_X7_plug_X7 wf_X7_plug_26 dX7_plug_48 rfl (in7 hX) rfl rfl ?_
          refine A_aload_n (q := 52) cx dX7_plug_51 rfl rfl rfl ?_
          refine gX7_1 (q := 55) cx wi_X7_plug_X7 wf_X7_plug_19 dX7_plug_52 rfl (in7 hX) rfl rfl ?_
          refine VV1 (q := 58) cx (ct_X2_keep hE hX) (cwV 1 cx.1.2.2.2.2 gX7_plug_X2_keep rfl rfl rfl (by decide +kernel) ⟨Nat.le_of_ble_eq_true rfl, Nat.le_of_ble_eq_true rfl⟩) dX7_plug_55 rfl rfl (in2 hX) rfl (Nat.le_of_ble_eq_true rfl) ⟨Nat.zero_le _, Nat.zero_le _⟩ rfl ?_
          refine A_aload_n (q := 59) cx dX7_plug_58 rfl rfl rfl ?_
          refine gX7_1 (q := 62) cx wi_X7_plug_X7 wf_X7_plug_19 dX7_plug_59 rfl (in7 hX) rfl rfl ?_
          refine A_iload_n (q := 63) cx dX7_plug_62 rfl rfl ?_
          refine A_iload (q := 65) cx dX7_plug_63 rfl rfl ?_
          refine VV2 (q := 68) cx (ct_X4_plugLink hE hX (j := j) (by first | exact Or.inl rfl | exact Or.inr rfl) (by rw [hKeep_0 σ 0 rfl (by decide)]; exact hy) hj) (cwV 2 cx.1.2.2.2.2 gX7_plug_X4_plugLink rfl rfl rfl (by decide +kernel) ⟨Nat.le_of_ble_eq_true rfl, Nat.le_of_ble_eq_true rfl⟩) dX7_plug_65 rfl rfl (in4 hX (by omega)) rfl (Nat.le_of_ble_eq_true rfl) ⟨Nat.zero_le _, Nat.zero_le _⟩ rfl ?_
          refine A_aload_n (q := 69) cx dX7_plug_68 rfl rfl rfl ?_
          refine gX7_1 (q := 72) cx wi_X7_plug_X7 wf_X7_plug_19 dX7_plug_69 rfl (in7 hX) rfl rfl ?_
          refine gX4_0 (q := 75) cx wi_X7_plug_X4 wf_X7_plug_99 dX7_plug_72 rfl (in4 hX (by omega)) rfl rfl ?_
          refine VI0 (q := 78) cx (ct_X0_howManyUp hE hX) (cwV 0 cx.1.2.2.2.2 gX7_plug_X0_howManyUp rfl rfl rfl (by decide +kernel) ⟨Nat.le_of_ble_eq_true rfl, Nat.le_of_ble_eq_true rfl⟩) dX7_plug_75 rfl rfl (in0 hX (by omega)) rfl (Nat.le_of_ble_eq_true rfl) ⟨Nat.zero_le _, Nat.zero_le _⟩ rfl ?_
          exact A_iret cx hlk hr hQ dX7_plug_78 (by first | (simp only [xPlug, zOne, hp, *, if_true, if_false, ite_true, ite_false, true_or, or_true, false_or, or_false, and_true, true_and, and_false, false_and, and_self, or_self, not_true_eq_false, not_false_eq_true, ne_eq, reduceIte, decide_true, decide_false, Bool.and_true, Bool.true_and, Bool.and_false, Bool.false_and]; done) | (simp [xPlug, zOne, hp, *]; done) | (simp_all [xPlug, zOne, hp]; done)) (by first | (simp only [xPlug, zOne, hp, *, if_true, if_false, ite_true, ite_false, true_or, or_true, false_or, or_false, and_true, true_and, and_false, false_and, and_self, or_self, not_true_eq_false, not_false_eq_true, ne_eq, reduceIte, decide_true, decide_false, Bool.and_true, Bool.true_and, Bool.and_false, Bool.false_and]; done) | (simp [xPlug, zOne, hp, *]; done) | (simp_all [xPlug, zOne, hp]; done))
        · refine A_bipush (v := -2) (q := 46) cx dX7_plug_44 (by decide) rfl ?_
          exact A_iret cx hlk hr hQ dX7_plug_46 (by first | (simp only [xPlug, zOne, hp, *, if_true, if_false, ite_true, ite_false, true_or, or_true, false_or, or_false, and_true, true_and, and_false, false_and, and_self, or_self, not_true_eq_false, not_false_eq_true, ne_eq, reduceIte, decide_true, decide_false, Bool.and_true, Bool.true_and, Bool.and_false, Bool.false_and]; done) | (simp [xPlug, zOne, hp, *]; done) | (simp_all [xPlug, zOne, hp]; done)) (by first | (simp only [xPlug, zOne, hp, *, if_true, if_false, ite_true, ite_false, true_or, or_true, false_or, or_false, and_true, true_and, and_false, false_and, and_self, or_self, not_true_eq_false, not_false_eq_true, ne_eq, reduceIte, decide_true, decide_false, Bool.and_true, Bool.true_and, Bool.and_false, Bool.false_and]; done) | (simp [xPlug, zOne, hp, *]; done) | (simp_all [xPlug, zOne, hp]; done))
      · refine A_iconst (v := 1) (q := 29) cx dX7_plug_28 (by decide) rfl ?_
        refine A_goto (q := 33) cx dX7_plug_29 (by decide) ?_
        refine A_istore (lv' := [some _, some _, some _, some _, some _]) (q := 35) cx dX7_plug_33 (Nat.le_of_ble_eq_true rfl) rfl rfl ?_
        refine A_aload_n (q := 36) cx dX7_plug_35 rfl rfl rfl ?_
        refine gX5_0 (q := 39) cx wi_X7_plug_X5 wf_X7_plug_85 dX7_plug_36 rfl (in5 hX (by omega)) rfl ?_
        refine A_iload (q := 41) cx dX7_plug_39 rfl rfl ?_
        refine A_icmp_ne (tgt := 47) (q := 44) cx dX7_plug_41 (by decide) rfl (fun c_41 => ?_) (fun c_41 => ?_)
        · refine A_aload_n (q := 48) cx dX7_plug_47 rfl rfl rfl ?_
          refine gX7_2 (q := 51) cx wi_X7_plug_X7 wf_X7_plug_26 dX7_plug_48 rfl (in7 hX) rfl rfl ?_
          refine A_aload_n (q := 52) cx dX7_plug_51 rfl rfl rfl ?_
          refine gX7_1 (q := 55) cx wi_X7_plug_X7 wf_X7_plug_19 dX7_plug_52 rfl (in7 hX) rfl rfl ?_
          refine VV1 (q := 58) cx (ct_X2_keep hE hX) (cwV 1 cx.1.2.2.2.2 gX7_plug_X2_keep rfl rfl rfl (by decide +kernel) ⟨Nat.le_of_ble_eq_true rfl, Nat.le_of_ble_eq_true rfl⟩) dX7_plug_55 rfl rfl (in2 hX) rfl (Nat.le_of_ble_eq_true rfl) ⟨Nat.zero_le _, Nat.zero_le _⟩ rfl ?_
          refine A_aload_n (q := 59) cx dX7_plug_58 rfl rfl rfl ?_
          refine gX7_1 (q := 62) cx wi_X7_plug_X7 wf_X7_plug_19 dX7_plug_59 rfl (in7 hX) rfl rfl ?_
          refine A_iload_n (q := 63) cx dX7_plug_62 rfl rfl ?_
          refine A_iload (q := 65) cx dX7_plug_63 rfl rfl ?_
          refine VV2 (q := 68) cx (ct_X4_plugLink hE hX (j := j) (by first | exact Or.inl rfl | exact Or.inr rfl) (by rw [hKeep_0 σ 0 rfl (by decide)]; exact hy) hj) (cwV 2 cx.1.2.2.2.2 gX7_plug_X4_plugLink rfl rfl rfl (by decide +kernel) ⟨Nat.le_of_ble_eq_true rfl, Nat.le_of_ble_eq_true rfl⟩) dX7_plug_65 rfl rfl (in4 hX (by omega)) rfl (Nat.le_of_ble_eq_true rfl) ⟨Nat.zero_le _, Nat.zero_le _⟩ rfl ?_
          refine A_aload_n (q := 69) cx dX7_plug_68 rfl rfl rfl ?_
          refine gX7_1 (q := 72) cx wi_X7_plug_X7 wf_X7_plug_19 dX7_plug_69 rfl (in7 hX) rfl rfl ?_
          refine gX4_0 (q := 75) cx wi_X7_plug_X4 wf_X7_plug_99 dX7_plug_72 rfl (in4 hX (by omega)) rfl rfl ?_
          refine VI0 (q := 78) cx (ct_X0_howManyUp hE hX) (cwV 0 cx.1.2.2.2.2 gX7_plug_X0_howManyUp rfl rfl rfl (by decide +kernel) ⟨Nat.le_of_ble_eq_true rfl, Nat.le_of_ble_eq_true rfl⟩) dX7_plug_75 rfl rfl (in0 hX (by omega)) rfl (Nat.le_of_ble_eq_true rfl) ⟨Nat.zero_le _, Nat.zero_le _⟩ rfl ?_
          exact A_iret cx hlk hr hQ dX7_plug_78 (by first | (simp only [xPlug, zOne, hp, *, if_true, if_false, ite_true, ite_false, true_or, or_true, false_or, or_false, and_true, true_and, and_false, false_and, and_self, or_self, not_true_eq_false, not_false_eq_true, ne_eq, reduceIte, decide_true, decide_false, Bool.and_true, Bool.true_and, Bool.and_false, Bool.false_and]; done) | (simp [xPlug, zOne, hp, *]; done) | (simp_all [xPlug, zOne, hp]; done)) (by first | (simp only [xPlug, zOne, hp, *, if_true, if_false, ite_true, ite_false, true_or, or_true, false_or, or_false, and_true, true_and, and_false, false_and, and_self, or_self, not_true_eq_false, not_false_eq_true, ne_eq, reduceIte, decide_true, decide_false, Bool.and_true, Bool.true_and, Bool.and_false, Bool.false_and]; done) | (simp [xPlug, zOne, hp, *]; done) | (simp_all [xPlug, zOne, hp]; done))
        · refine A_bipush (v := -2) (q := 46) cx dX7_plug_44 (by decide) rfl ?_
          exact A_iret cx hlk hr hQ dX7_plug_46 (by first | (simp only [xPlug, zOne, hp, *, if_true, if_false, ite_true, ite_false, true_or, or_true, false_or, or_false, and_true, true_and, and_false, false_and, and_self, or_self, not_true_eq_false, not_false_eq_true, ne_eq, reduceIte, decide_true, decide_false, Bool.and_true, Bool.true_and, Bool.and_false, Bool.false_and]; done) | (simp [xPlug, zOne, hp, *]; done) | (simp_all [xPlug, zOne, hp]; done)) (by first | (simp only [xPlug, zOne, hp, *, if_true, if_false, ite_true, ite_false, true_or, or_true, false_or, or_false, and_true, true_and, and_false, false_and, and_self, or_self, not_true_eq_false, not_false_eq_true, ne_eq, reduceIte, decide_true, decide_false, Bool.and_true, Bool.true_and, Bool.and_false, Bool.false_and]; done) | (simp [xPlug, zOne, hp, *]; done) | (simp_all [xPlug, zOne, hp]; done))
    · refine A_iconst (v := -1) (q := 22) cx dX7_plug_21 (by decide) rfl ?_
      exact A_iret cx hlk hr hQ dX7_plug_22 (by first | (simp only [xPlug, zOne, hp, *, if_true, if_false, ite_true, ite_false, true_or, or_true, false_or, or_false, and_true, true_and, and_false, false_and, and_self, or_self, not_true_eq_false, not_false_eq_true, ne_eq, reduceIte, decide_true, decide_false, Bool.and_true, Bool.true_and, Bool.and_false, Bool.false_and]; done) | (simp [xPlug, zOne, hp, *]; done) | (simp_all [xPlug, zOne, hp]; done)) (by first | (simp only [xPlug, zOne, hp, *, if_true, if_false, ite_true, ite_false, true_or, or_true, false_or, or_false, and_true, true_and, and_false, false_and, and_self, or_self, not_true_eq_false, not_false_eq_true, ne_eq, reduceIte, decide_true, decide_false, Bool.and_true, Bool.true_and, Bool.and_false, Bool.false_and]; done) | (simp [xPlug, zOne, hp, *]; done) | (simp_all [xPlug, zOne, hp]; done))
theorem wi_X7_mute_X7 : ∀ w ∈ u_ws RX7 TX7 6, w ∈ wsX7_mute := by decide +kernel
theorem wf_X7_mute_19 : Cond.fieldLink RX7 19 (TX7 1).1 (TX7 1).2.1 (TX7 1).2.2.1 ∈ wsX7_mute := by decide +kernel
theorem wi_X7_mute_X5 : ∀ w ∈ u_ws RX5 TX5 11, w ∈ wsX7_mute := by decide +kernel
theorem wf_X7_mute_112 : Cond.fieldLink RX7 112 (TX5 1).1 (TX5 1).2.1 (TX5 1).2.2.1 ∈ wsX7_mute := by decide +kernel
theorem wf_X7_mute_26 : Cond.fieldLink RX7 26 (TX7 2).1 (TX7 2).2.1 (TX7 2).2.2.1 ∈ wsX7_mute := by decide +kernel
set_option maxHeartbeats 1000000 in
set_option maxRecDepth 100000 in
theorem ct_X7_mute {la : Launch} {E : Ev} (hE : okE E) (hX : xin E) {σ : Sg} {x y v : Int32} : CI la yX7_mute wsX7_mute 5 106 E rh0 [.ref (ad E (7, 0, 0, 0)), .int x, .int y, .int v] σ (xMute σ x y v).1 (xMute σ x y v).2 := by
  refine met_of (lv := [some _, some _, some _, some _, none, none, none]) RX7 (by decide) rfl rfl rfl hE (ok4 rfl rfl rfl rfl) (Nat.le_of_ble_eq_true rfl) (fun p ev s m args below meth c Q cx hlk hr hQ => ?_)
  rcases hp : nPort σ 0 x y with _ | k
  · rcases he : eOf x with _ | e
    · skip
      refine A_aload_n (q := 1) cx dX7_mute_0 rfl rfl rfl ?_
      refine gX7_1 (q := 4) cx wi_X7_mute_X7 wf_X7_mute_19 dX7_mute_1 rfl (in7 hX) rfl rfl ?_
      refine A_iload_n (q := 5) cx dX7_mute_4 rfl rfl ?_
      refine VQ1 (q := 8) cx (ct_X4_endOf hE hX) (cwV 1 cx.1.2.2.2.2 gX7_mute_X4_endOf rfl rfl rfl (by decide +kernel) ⟨Nat.le_of_ble_eq_true rfl, Nat.le_of_ble_eq_true rfl⟩) dX7_mute_5 rfl rfl (in4 hX (by omega)) rfl (Nat.le_of_ble_eq_true rfl) ⟨Nat.zero_le _, Nat.zero_le _⟩ rfl ?_
      simp only [he, Option.map_some, Option.map_none, rv_some, rv_none]
      refine A_astore (lv' := [some _, some _, some _, some _, some _, none, none]) (q := 10) cx dX7_mute_8 (Nat.le_of_ble_eq_true rfl) rfl rfl rfl ?_
      refine A_aload_n (q := 11) cx dX7_mute_10 rfl rfl rfl ?_
      refine gX7_1 (q := 14) cx wi_X7_mute_X7 wf_X7_mute_19 dX7_mute_11 rfl (in7 hX) rfl rfl ?_
      refine A_iload_n (q := 15) cx dX7_mute_14 rfl rfl ?_
      refine A_iload_n (q := 16) cx dX7_mute_15 rfl rfl ?_
      refine VQ2 (q := 19) cx (ct_X4_portOf hE hX) (cwV 2 cx.1.2.2.2.2 gX7_mute_X4_portOf rfl rfl rfl (by decide +kernel) ⟨Nat.le_of_ble_eq_true rfl, Nat.le_of_ble_eq_true rfl⟩) dX7_mute_16 rfl rfl (in4 hX (by omega)) rfl (Nat.le_of_ble_eq_true rfl) ⟨Nat.zero_le _, Nat.zero_le _⟩ rfl ?_
      simp only [hp, Option.map_some, Option.map_none, rv_some, rv_none]
      refine A_astore (lv' := [some _, some _, some _, some _, some _, some _, none]) (q := 21) cx dX7_mute_19 (Nat.le_of_ble_eq_true rfl) rfl rfl rfl ?_
      refine A_aload (q := 23) cx dX7_mute_21 rfl rfl rfl ?_
      refine A_ifnull_N (tgt := 38) cx dX7_mute_23 (by decide) ?_
      refine A_iconst (v := -1) (q := 39) cx dX7_mute_38 (by decide) rfl ?_
      exact A_iret cx hlk hr hQ dX7_mute_39 (by first | (simp only [xMute, hp, *, if_true, if_false, ite_true, ite_false, true_or, or_true, false_or, or_false, and_true, true_and, and_false, false_and, and_self, or_self, not_true_eq_false, not_false_eq_true, ne_eq, reduceIte, decide_true, decide_false, Bool.and_true, Bool.true_and, Bool.and_false, Bool.false_and]; done) | (simp [xMute, hp, *]; done) | (simp_all [xMute, hp]; done)) (by first | (simp only [xMute, hp, *, if_true, if_false, ite_true, ite_false, true_or, or_true, false_or, or_false, and_true, true_and, and_false, false_and, and_self, or_self, not_true_eq_false, not_false_eq_true, ne_eq, reduceIte, decide_true, decide_false, Bool.and_true, Bool.true_and, Bool.and_false, Bool.false_and]; done) | (simp [xMute, hp, *]; done) | (simp_all [xMute, hp]; done))
    · have he2 := eOf_lt he
      refine A_aload_n (q := 1) cx dX7_mute_0 rfl rfl rfl ?_
      refine gX7_1 (q := 4) cx wi_X7_mute_X7 wf_X7_mute_19 dX7_mute_1 rfl (in7 hX) rfl rfl ?_
      refine A_iload_n (q := 5) cx dX7_mute_4 rfl rfl ?_
      refine VQ1 (q := 8) cx (ct_X4_endOf hE hX) (cwV 1 cx.1.2.2.2.2 gX7_mute_X4_endOf rfl rfl rfl (by decide +kernel) ⟨Nat.le_of_ble_eq_true rfl, Nat.le_of_ble_eq_true rfl⟩) dX7_mute_5 rfl rfl (in4 hX (by omega)) rfl (Nat.le_of_ble_eq_true rfl) ⟨Nat.zero_le _, Nat.zero_le _⟩ rfl ?_
      simp only [he, Option.map_some, Option.map_none, rv_some, rv_none]
      refine A_astore (lv' := [some _, some _, some _, some _, some _, none, none]) (q := 10) cx dX7_mute_8 (Nat.le_of_ble_eq_true rfl) rfl rfl rfl ?_
      refine A_aload_n (q := 11) cx dX7_mute_10 rfl rfl rfl ?_
      refine gX7_1 (q := 14) cx wi_X7_mute_X7 wf_X7_mute_19 dX7_mute_11 rfl (in7 hX) rfl rfl ?_
      refine A_iload_n (q := 15) cx dX7_mute_14 rfl rfl ?_
      refine A_iload_n (q := 16) cx dX7_mute_15 rfl rfl ?_
      refine VQ2 (q := 19) cx (ct_X4_portOf hE hX) (cwV 2 cx.1.2.2.2.2 gX7_mute_X4_portOf rfl rfl rfl (by decide +kernel) ⟨Nat.le_of_ble_eq_true rfl, Nat.le_of_ble_eq_true rfl⟩) dX7_mute_16 rfl rfl (in4 hX (by omega)) rfl (Nat.le_of_ble_eq_true rfl) ⟨Nat.zero_le _, Nat.zero_le _⟩ rfl ?_
      simp only [hp, Option.map_some, Option.map_none, rv_some, rv_none]
      refine A_astore (lv' := [some _, some _, some _, some _, some _, some _, none]) (q := 21) cx dX7_mute_19 (Nat.le_of_ble_eq_true rfl) rfl rfl rfl ?_
      refine A_aload (q := 23) cx dX7_mute_21 rfl rfl rfl ?_
      refine A_ifnull_R (q := 26) cx dX7_mute_23 rfl ?_
      refine A_aload (q := 28) cx dX7_mute_26 rfl rfl rfl ?_
      refine A_ifnull_N (tgt := 38) cx dX7_mute_28 (by decide) ?_
      refine A_iconst (v := -1) (q := 39) cx dX7_mute_38 (by decide) rfl ?_
      exact A_iret cx hlk hr hQ dX7_mute_39 (by first | (simp only [xMute, hp, *, if_true, if_false, ite_true, ite_false, true_or, or_true, false_or, or_false, and_true, true_and, and_false, false_and, and_self, or_self, not_true_eq_false, not_false_eq_true, ne_eq, reduceIte, decide_true, decide_false, Bool.and_true, Bool.true_and, Bool.and_false, Bool.false_and]; done) | (simp [xMute, hp, *]; done) | (simp_all [xMute, hp]; done)) (by first | (simp only [xMute, hp, *, if_true, if_false, ite_true, ite_false, true_or, or_true, false_or, or_false, and_true, true_and, and_false, false_and, and_self, or_self, not_true_eq_false, not_false_eq_true, ne_eq, reduceIte, decide_true, decide_false, Bool.and_true, Bool.true_and, Bool.and_false, Bool.false_and]; done) | (simp [xMute, hp, *]; done) | (simp_all [xMute, hp]; done))
  · obtain ⟨e, j, he, hy, hj, rfl, he2, hj6⟩ := nPort_inv hp
    refine A_aload_n (q := 1) cx dX7_mute_0 rfl rfl rfl ?_
    refine gX7_1 (q := 4) cx wi_X7_mute_X7 wf_X7_mute_19 dX7_mute_1 rfl (in7 hX) rfl rfl ?_
    refine A_iload_n (q := 5) cx dX7_mute_4 rfl rfl ?_
    refine VQ1 (q := 8) cx (ct_X4_endOf hE hX) (cwV 1 cx.1.2.2.2.2 gX7_mute_X4_endOf rfl rfl rfl (by decide +kernel) ⟨Nat.le_of_ble_eq_true rfl, Nat.le_of_ble_eq_true rfl⟩) dX7_mute_5 rfl rfl (in4 hX (by omega)) rfl (Nat.le_of_ble_eq_true rfl) ⟨Nat.zero_le _, Nat.zero_le _⟩ rfl ?_
    simp only [he, Option.map_some, Option.map_none, rv_some, rv_none]
    refine A_astore (lv' := [some _, some _, some _, some _, some _, none, none]) (q := 10) cx dX7_mute_8 (Nat.le_of_ble_eq_true rfl) rfl rfl rfl ?_
    refine A_aload_n (q := 11) cx dX7_mute_10 rfl rfl rfl ?_
    refine gX7_1 (q := 14) cx wi_X7_mute_X7 wf_X7_mute_19 dX7_mute_11 rfl (in7 hX) rfl rfl ?_
    refine A_iload_n (q := 15) cx dX7_mute_14 rfl rfl ?_
    refine A_iload_n (q := 16) cx dX7_mute_15 rfl rfl ?_
    refine VQ2 (q := 19) cx (ct_X4_portOf hE hX) (cwV 2 cx.1.2.2.2.2 gX7_mute_X4_portOf rfl rfl rfl (by decide +kernel) ⟨Nat.le_of_ble_eq_true rfl, Nat.le_of_ble_eq_true rfl⟩) dX7_mute_16 rfl rfl (in4 hX (by omega)) rfl (Nat.le_of_ble_eq_true rfl) ⟨Nat.zero_le _, Nat.zero_le _⟩ rfl ?_
    simp only [hp, Option.map_some, Option.map_none, rv_some, rv_none]
    refine A_astore (lv' := [some _, some _, some _, some _, some _, some _, none]) (q := 21) cx dX7_mute_19 (Nat.le_of_ble_eq_true rfl) rfl rfl rfl ?_
    refine A_aload (q := 23) cx dX7_mute_21 rfl rfl rfl ?_
    refine A_ifnull_R (q := 26) cx dX7_mute_23 rfl ?_
    refine A_aload (q := 28) cx dX7_mute_26 rfl rfl rfl ?_
    refine A_ifnull_R (q := 31) cx dX7_mute_28 rfl ?_
    refine A_iload_n (q := 32) cx dX7_mute_31 rfl rfl ?_
    refine SI1 (q := 35) cx (ct_X7_isZeroOrOne hE hX) (cwS 1 cx.1.2.2.2.2 gX7_mute_X7_isZeroOrOne rfl rfl rfl (by decide +kernel) ⟨Nat.le_of_ble_eq_true rfl, Nat.le_of_ble_eq_true rfl⟩) dX7_mute_32 rfl (Nat.le_of_ble_eq_true rfl) ⟨Nat.zero_le _, Nat.zero_le _⟩ rfl ?_
    refine A_if_ne (tgt := 40) (q := 38) cx dX7_mute_35 (by decide) rfl (fun c_35 => ?_) (fun c_35 => ?_)
    · refine A_iload_n (q := 41) cx dX7_mute_40 rfl rfl ?_
      refine A_iconst (v := 1) (q := 42) cx dX7_mute_41 (by decide) rfl ?_
      refine A_icmp_ne (tgt := 49) (q := 45) cx dX7_mute_42 (by decide) rfl (fun c_42 => ?_) (fun c_42 => ?_)
      · refine A_iconst (v := 0) (q := 50) cx dX7_mute_49 (by decide) rfl ?_
        refine A_istore (lv' := [some _, some _, some _, some _, some _, some _, some _]) (q := 52) cx dX7_mute_50 (Nat.le_of_ble_eq_true rfl) rfl rfl ?_
        refine A_aload (q := 54) cx dX7_mute_52 rfl rfl rfl ?_
        refine gX5_1 (q := 57) cx wi_X7_mute_X5 wf_X7_mute_112 dX7_mute_54 rfl (in5 hX (by omega)) rfl ?_
        refine A_iload (q := 59) cx dX7_mute_57 rfl rfl ?_
        refine A_icmp_ne (tgt := 65) (q := 62) cx dX7_mute_59 (by decide) rfl (fun c_59 => ?_) (fun c_59 => ?_)
        · refine A_aload_n (q := 66) cx dX7_mute_65 rfl rfl rfl ?_
          refine gX7_2 (q := 69) cx wi_X7_mute_X7 wf_X7_mute_26 dX7_mute_66 rfl (in7 hX) rfl rfl ?_
          refine A_aload_n (q := 70) cx dX7_mute_69 rfl rfl rfl ?_
          refine gX7_1 (q := 73) cx wi_X7_mute_X7 wf_X7_mute_19 dX7_mute_70 rfl (in7 hX) rfl rfl ?_
          refine VV1 (q := 76) cx (ct_X2_keep hE hX) (cwV 1 cx.1.2.2.2.2 gX7_mute_X2_keep rfl rfl rfl (by decide +kernel) ⟨Nat.le_of_ble_eq_true rfl, Nat.le_of_ble_eq_true rfl⟩) dX7_mute_73 rfl rfl (in2 hX) rfl (Nat.le_of_ble_eq_true rfl) ⟨Nat.zero_le _, Nat.zero_le _⟩ rfl ?_
          refine A_aload (q := 78) cx dX7_mute_76 rfl rfl rfl ?_
          refine A_iload (q := 80) cx dX7_mute_78 rfl rfl ?_
          refine pX5_1 (q := 83) cx wi_X7_mute_X5 wf_X7_mute_112 dX7_mute_80 rfl (in5 hX (by omega)) (by first | exact Or.inl rfl | exact Or.inr rfl | exact b01_or _ | assumption) rfl ?_
          refine A_aload (q := 85) cx dX7_mute_83 rfl rfl rfl ?_
          refine VI0 (q := 88) cx (ct_X0_howManyMuted hE hX) (cwV 0 cx.1.2.2.2.2 gX7_mute_X0_howManyMuted rfl rfl rfl (by decide +kernel) ⟨Nat.le_of_ble_eq_true rfl, Nat.le_of_ble_eq_true rfl⟩) dX7_mute_85 rfl rfl (in0 hX (by omega)) rfl (Nat.le_of_ble_eq_true rfl) ⟨Nat.zero_le _, Nat.zero_le _⟩ rfl ?_
          exact A_iret cx hlk hr hQ dX7_mute_88 (by first | (simp only [xMute, zOne, hp, *, if_true, if_false, ite_true, ite_false, true_or, or_true, false_or, or_false, and_true, true_and, and_false, false_and, and_self, or_self, not_true_eq_false, not_false_eq_true, ne_eq, reduceIte, decide_true, decide_false, Bool.and_true, Bool.true_and, Bool.and_false, Bool.false_and]; done) | (simp [xMute, zOne, hp, *]; done) | (simp_all [xMute, zOne, hp]; done)) (by first | (simp only [xMute, zOne, hp, *, if_true, if_false, ite_true, ite_false, true_or, or_true, false_or, or_false, and_true, true_and, and_false, false_and, and_self, or_self, not_true_eq_false, not_false_eq_true, ne_eq, reduceIte, decide_true, decide_false, Bool.and_true, Bool.true_and, Bool.and_false, Bool.false_and]; done) | (simp [xMute, zOne, hp, *]; done) | (simp_all [xMute, zOne, hp]; done))
        · refine A_bipush (v := -2) (q := 64) cx dX7_mute_62 (by decide) rfl ?_
          exact A_iret cx hlk hr hQ dX7_mute_64 (by first | (simp only [xMute, zOne, hp, *, if_true, if_false, ite_true, ite_false, true_or, or_true, false_or, or_false, and_true, true_and, and_false, false_and, and_self, or_self, not_true_eq_false, not_false_eq_true, ne_eq, reduceIte, decide_true, decide_false, Bool.and_true, Bool.true_and, Bool.and_false, Bool.false_and]; done) | (simp [xMute, zOne, hp, *]; done) | (simp_all [xMute, zOne, hp]; done)) (by first | (simp only [xMute, zOne, hp, *, if_true, if_false, ite_true, ite_false, true_or, or_true, false_or, or_false, and_true, true_and, and_false, false_and, and_self, or_self, not_true_eq_false, not_false_eq_true, ne_eq, reduceIte, decide_true, decide_false, Bool.and_true, Bool.true_and, Bool.and_false, Bool.false_and]; done) | (simp [xMute, zOne, hp, *]; done) | (simp_all [xMute, zOne, hp]; done))
      · refine A_iconst (v := 1) (q := 46) cx dX7_mute_45 (by decide) rfl ?_
        refine A_goto (q := 50) cx dX7_mute_46 (by decide) ?_
        refine A_istore (lv' := [some _, some _, some _, some _, some _, some _, some _]) (q := 52) cx dX7_mute_50 (Nat.le_of_ble_eq_true rfl) rfl rfl ?_
        refine A_aload (q := 54) cx dX7_mute_52 rfl rfl rfl ?_
        refine gX5_1 (q := 57) cx wi_X7_mute_X5 wf_X7_mute_112 dX7_mute_54 rfl (in5 hX (by omega)) rfl ?_
        refine A_iload (q := 59) cx dX7_mute_57 rfl rfl ?_
        refine A_icmp_ne (tgt := 65) (q := 62) cx dX7_mute_59 (by decide) rfl (fun c_59 => ?_) (fun c_59 => ?_)
        · refine A_aload_n (q := 66) cx dX7_mute_65 rfl rfl rfl ?_
          refine gX7_2 (q := 69) cx wi_X7_mute_X7 wf_X7_mute_26 dX7_mute_66 rfl (in7 hX) rfl rfl ?_
          refine A_aload_n (q := 70) cx dX7_mute_69 rfl rfl rfl ?_
          refine gX7_1 (q := 73) cx wi_X7_mute_X7 wf_X7_mute_19 dX7_mute_70 rfl (in7 hX) rfl rfl ?_
          refine VV1 (q := 76) cx (ct_X2_keep hE hX) (cwV 1 cx.1.2.2.2.2 gX7_mute_X2_keep rfl rfl rfl (by decide +kernel) ⟨Nat.le_of_ble_eq_true rfl, Nat.le_of_ble_eq_true rfl⟩) dX7_mute_73 rfl rfl (in2 hX) rfl (Nat.le_of_ble_eq_true rfl) ⟨Nat.zero_le _, Nat.zero_le _⟩ rfl ?_
          refine A_aload (q := 78) cx dX7_mute_76 rfl rfl rfl ?_
          refine A_iload (q := 80) cx dX7_mute_78 rfl rfl ?_
          refine pX5_1 (q := 83) cx wi_X7_mute_X5 wf_X7_mute_112 dX7_mute_80 rfl (in5 hX (by omega)) (by first | exact Or.inl rfl | exact Or.inr rfl | exact b01_or _ | assumption) rfl ?_
          refine A_aload (q := 85) cx dX7_mute_83 rfl rfl rfl ?_
          refine VI0 (q := 88) cx (ct_X0_howManyMuted hE hX) (cwV 0 cx.1.2.2.2.2 gX7_mute_X0_howManyMuted rfl rfl rfl (by decide +kernel) ⟨Nat.le_of_ble_eq_true rfl, Nat.le_of_ble_eq_true rfl⟩) dX7_mute_85 rfl rfl (in0 hX (by omega)) rfl (Nat.le_of_ble_eq_true rfl) ⟨Nat.zero_le _, Nat.zero_le _⟩ rfl ?_
          exact A_iret cx hlk hr hQ dX7_mute_88 (by first | (simp only [xMute, zOne, hp, *, if_true, if_false, ite_true, ite_false, true_or, or_true, false_or, or_false, and_true, true_and, and_false, false_and, and_self, or_self, not_true_eq_false, not_false_eq_true, ne_eq, reduceIte, decide_true, decide_false, Bool.and_true, Bool.true_and, Bool.and_false, Bool.false_and]; done) | (simp [xMute, zOne, hp, *]; done) | (simp_all [xMute, zOne, hp]; done)) (by first | (simp only [xMute, zOne, hp, *, if_true, if_false, ite_true, ite_false, true_or, or_true, false_or, or_false, and_true, true_and, and_false, false_and, and_self, or_self, not_true_eq_false, not_false_eq_true, ne_eq, reduceIte, decide_true, decide_false, Bool.and_true, Bool.true_and, Bool.and_false, Bool.false_and]; done) | (simp [xMute, zOne, hp, *]; done) | (simp_all [xMute, zOne, hp]; done))
        · refine A_bipush (v := -2) (q := 64) cx dX7_mute_62 (by decide) rfl ?_
          exact A_iret cx hlk hr hQ dX7_mute_64 (by first | (simp only [xMute, zOne, hp, *, if_true, if_false, ite_true, ite_false, true_or, or_true, false_or, or_false, and_true, true_and, and_false, false_and, and_self, or_self, not_true_eq_false, not_false_eq_true, ne_eq, reduceIte, decide_true, decide_false, Bool.and_true, Bool.true_and, Bool.and_false, Bool.false_and]; done) | (simp [xMute, zOne, hp, *]; done) | (simp_all [xMute, zOne, hp]; done)) (by first | (simp only [xMute, zOne, hp, *, if_true, if_false, ite_true, ite_false, true_or, or_true, false_or, or_false, and_true, true_and, and_false, false_and, and_self, or_self, not_true_eq_false, not_false_eq_true, ne_eq, reduceIte, decide_true, decide_false, Bool.and_true, Bool.true_and, Bool.and_false, Bool.false_and]; done) | (simp [xMute, zOne, hp, *]; done) | (simp_all [xMute, zOne, hp]; done))
    · refine A_iconst (v := -1) (q := 39) cx dX7_mute_38 (by decide) rfl ?_
      exact A_iret cx hlk hr hQ dX7_mute_39 (by first | (simp only [xMute, zOne, hp, *, if_true, if_false, ite_true, ite_false, true_or, or_true, false_or, or_false, and_true, true_and, and_false, false_and, and_self, or_self, not_true_eq_false, not_false_eq_true, ne_eq, reduceIte, decide_true, decide_false, Bool.and_true, Bool.true_and, Bool.and_false, Bool.false_and]; done) | (simp [xMute, zOne, hp, *]; done) | (simp_all [xMute, zOne, hp]; done)) (by first | (simp only [xMute, zOne, hp, *, if_true, if_false, ite_true, ite_false, true_or, or_true, false_or, or_false, and_true, true_and, and_false, false_and, and_self, or_self, not_true_eq_false, not_false_eq_true, ne_eq, reduceIte, decide_true, decide_false, Bool.and_true, Bool.true_and, Bool.and_false, Bool.false_and]; done) | (simp [xMute, zOne, hp, *]; done) | (simp_all [xMute, zOne, hp]; done))
theorem wi_X7_tell_X7 : ∀ w ∈ u_ws RX7 TX7 6, w ∈ wsX7_tell := by decide +kernel
theorem wf_X7_tell_19 : Cond.fieldLink RX7 19 (TX7 1).1 (TX7 1).2.1 (TX7 1).2.2.1 ∈ wsX7_tell := by decide +kernel
theorem wi_X7_tell_X5 : ∀ w ∈ u_ws RX5 TX5 11, w ∈ wsX7_tell := by decide +kernel
theorem wf_X7_tell_124 : Cond.fieldLink RX7 124 (TX5 3).1 (TX5 3).2.1 (TX5 3).2.2.1 ∈ wsX7_tell := by decide +kernel
theorem wf_X7_tell_26 : Cond.fieldLink RX7 26 (TX7 2).1 (TX7 2).2.1 (TX7 2).2.2.1 ∈ wsX7_tell := by decide +kernel
theorem wf_X7_tell_121 : Cond.fieldLink RX7 121 (TX5 2).1 (TX5 2).2.1 (TX5 2).2.2.1 ∈ wsX7_tell := by decide +kernel
set_option maxHeartbeats 1000000 in
set_option maxRecDepth 100000 in
theorem ct_X7_tell {la : Launch} {E : Ev} (hE : okE E) (hX : xin E) {σ : Sg} {x y w v : Int32} : CI la yX7_tell wsX7_tell 5 106 E rh0 [.ref (ad E (7, 0, 0, 0)), .int x, .int y, .int w, .int v] σ (xTell σ x y w v).1 (xTell σ x y w v).2 := by
  refine met_of (lv := [some _, some _, some _, some _, some _, none, none]) RX7 (by decide) rfl rfl rfl hE (ok5 rfl rfl rfl rfl rfl) (Nat.le_of_ble_eq_true rfl) (fun p ev s m args below meth c Q cx hlk hr hQ => ?_)
  rcases hp : nPort σ 0 x y with _ | k
  · refine A_aload_n (q := 1) cx dX7_tell_0 rfl rfl rfl ?_
    refine gX7_1 (q := 4) cx wi_X7_tell_X7 wf_X7_tell_19 dX7_tell_1 rfl (in7 hX) rfl rfl ?_
    refine A_iload_n (q := 5) cx dX7_tell_4 rfl rfl ?_
    refine A_iload_n (q := 6) cx dX7_tell_5 rfl rfl ?_
    refine VQ2 (q := 9) cx (ct_X4_portOf hE hX) (cwV 2 cx.1.2.2.2.2 gX7_tell_X4_portOf rfl rfl rfl (by decide +kernel) ⟨Nat.le_of_ble_eq_true rfl, Nat.le_of_ble_eq_true rfl⟩) dX7_tell_6 rfl rfl (in4 hX (by omega)) rfl (Nat.le_of_ble_eq_true rfl) ⟨Nat.zero_le _, Nat.zero_le _⟩ rfl ?_
    simp only [hp, Option.map_some, Option.map_none, rv_some, rv_none]
    refine A_astore (lv' := [some _, some _, some _, some _, some _, some _, none]) (q := 11) cx dX7_tell_9 (Nat.le_of_ble_eq_true rfl) rfl rfl rfl ?_
    refine A_aload (q := 13) cx dX7_tell_11 rfl rfl rfl ?_
    refine A_ifnull_N (tgt := 31) cx dX7_tell_13 (by decide) ?_
    refine A_iconst (v := -1) (q := 32) cx dX7_tell_31 (by decide) rfl ?_
    exact A_iret cx hlk hr hQ dX7_tell_32 (by first | (simp only [xTell, hp, *, if_true, if_false, ite_true, ite_false, true_or, or_true, false_or, or_false, and_true, true_and, and_false, false_and, and_self, or_self, not_true_eq_false, not_false_eq_true, ne_eq, reduceIte, decide_true, decide_false, Bool.and_true, Bool.true_and, Bool.and_false, Bool.false_and]; done) | (simp [xTell, hp, *]; done) | (simp_all [xTell, hp]; done)) (by first | (simp only [xTell, hp, *, if_true, if_false, ite_true, ite_false, true_or, or_true, false_or, or_false, and_true, true_and, and_false, false_and, and_self, or_self, not_true_eq_false, not_false_eq_true, ne_eq, reduceIte, decide_true, decide_false, Bool.and_true, Bool.true_and, Bool.and_false, Bool.false_and]; done) | (simp [xTell, hp, *]; done) | (simp_all [xTell, hp]; done))
  · obtain ⟨e, j, he, hy, hj, rfl, he2, hj6⟩ := nPort_inv hp
    refine A_aload_n (q := 1) cx dX7_tell_0 rfl rfl rfl ?_
    refine gX7_1 (q := 4) cx wi_X7_tell_X7 wf_X7_tell_19 dX7_tell_1 rfl (in7 hX) rfl rfl ?_
    refine A_iload_n (q := 5) cx dX7_tell_4 rfl rfl ?_
    refine A_iload_n (q := 6) cx dX7_tell_5 rfl rfl ?_
    refine VQ2 (q := 9) cx (ct_X4_portOf hE hX) (cwV 2 cx.1.2.2.2.2 gX7_tell_X4_portOf rfl rfl rfl (by decide +kernel) ⟨Nat.le_of_ble_eq_true rfl, Nat.le_of_ble_eq_true rfl⟩) dX7_tell_6 rfl rfl (in4 hX (by omega)) rfl (Nat.le_of_ble_eq_true rfl) ⟨Nat.zero_le _, Nat.zero_le _⟩ rfl ?_
    simp only [hp, Option.map_some, Option.map_none, rv_some, rv_none]
    refine A_astore (lv' := [some _, some _, some _, some _, some _, some _, none]) (q := 11) cx dX7_tell_9 (Nat.le_of_ble_eq_true rfl) rfl rfl rfl ?_
    refine A_aload (q := 13) cx dX7_tell_11 rfl rfl rfl ?_
    refine A_ifnull_R (q := 16) cx dX7_tell_13 rfl ?_
    refine A_iload_n (q := 17) cx dX7_tell_16 rfl rfl ?_
    refine SI1 (q := 20) cx (ct_X7_isZeroOrOne hE hX) (cwS 1 cx.1.2.2.2.2 gX7_tell_X7_isZeroOrOne rfl rfl rfl (by decide +kernel) ⟨Nat.le_of_ble_eq_true rfl, Nat.le_of_ble_eq_true rfl⟩) dX7_tell_17 rfl (Nat.le_of_ble_eq_true rfl) ⟨Nat.zero_le _, Nat.zero_le _⟩ rfl ?_
    refine A_if_eq (tgt := 31) (q := 23) cx dX7_tell_20 (by decide) rfl (fun c_20 => ?_) (fun c_20 => ?_)
    · refine A_iconst (v := -1) (q := 32) cx dX7_tell_31 (by decide) rfl ?_
      exact A_iret cx hlk hr hQ dX7_tell_32 (by first | (simp only [xTell, hp, *, if_true, if_false, ite_true, ite_false, true_or, or_true, false_or, or_false, and_true, true_and, and_false, false_and, and_self, or_self, not_true_eq_false, not_false_eq_true, ne_eq, reduceIte, decide_true, decide_false, Bool.and_true, Bool.true_and, Bool.and_false, Bool.false_and]; done) | (simp [xTell, hp, *]; done) | (simp_all [xTell, hp]; done)) (by first | (simp only [xTell, hp, *, if_true, if_false, ite_true, ite_false, true_or, or_true, false_or, or_false, and_true, true_and, and_false, false_and, and_self, or_self, not_true_eq_false, not_false_eq_true, ne_eq, reduceIte, decide_true, decide_false, Bool.and_true, Bool.true_and, Bool.and_false, Bool.false_and]; done) | (simp [xTell, hp, *]; done) | (simp_all [xTell, hp]; done))
    · refine A_iload (q := 25) cx dX7_tell_23 rfl rfl ?_
      refine SI1 (q := 28) cx (ct_X7_isFigure hE hX) (cwS 1 cx.1.2.2.2.2 gX7_tell_X7_isFigure rfl rfl rfl (by decide +kernel) ⟨Nat.le_of_ble_eq_true rfl, Nat.le_of_ble_eq_true rfl⟩) dX7_tell_25 rfl (Nat.le_of_ble_eq_true rfl) ⟨Nat.zero_le _, Nat.zero_le _⟩ rfl ?_
      refine A_if_ne (tgt := 33) (q := 31) cx dX7_tell_28 (by decide) rfl (fun c_28 => ?_) (fun c_28 => ?_)
      · refine A_iload_n (q := 34) cx dX7_tell_33 rfl rfl ?_
        refine A_if_ne (tgt := 45) (q := 37) cx dX7_tell_34 (by decide) rfl (fun c_34 => ?_) (fun c_34 => ?_)
        · refine A_aload (q := 47) cx dX7_tell_45 rfl rfl rfl ?_
          refine gX5_3 (q := 50) cx wi_X7_tell_X5 wf_X7_tell_124 dX7_tell_47 rfl (in5 hX (by omega)) rfl ?_
          refine A_istore (lv' := [some _, some _, some _, some _, some _, some _, some _]) (q := 52) cx dX7_tell_50 (Nat.le_of_ble_eq_true rfl) rfl rfl ?_
          refine A_iload (q := 54) cx dX7_tell_52 rfl rfl ?_
          refine A_iload (q := 56) cx dX7_tell_54 rfl rfl ?_
          refine A_icmp_ne (tgt := 62) (q := 59) cx dX7_tell_56 (by decide) rfl (fun c_56 => ?_) (fun c_56 => ?_)
          · refine A_aload_n (q := 63) cx dX7_tell_62 rfl rfl rfl ?_
            refine gX7_2 (q := 66) cx wi_X7_tell_X7 wf_X7_tell_26 dX7_tell_63 rfl (in7 hX) rfl rfl ?_
            refine A_aload_n (q := 67) cx dX7_tell_66 rfl rfl rfl ?_
            refine gX7_1 (q := 70) cx wi_X7_tell_X7 wf_X7_tell_19 dX7_tell_67 rfl (in7 hX) rfl rfl ?_
            refine VV1 (q := 73) cx (ct_X2_keep hE hX) (cwV 1 cx.1.2.2.2.2 gX7_tell_X2_keep rfl rfl rfl (by decide +kernel) ⟨Nat.le_of_ble_eq_true rfl, Nat.le_of_ble_eq_true rfl⟩) dX7_tell_70 rfl rfl (in2 hX) rfl (Nat.le_of_ble_eq_true rfl) ⟨Nat.zero_le _, Nat.zero_le _⟩ rfl ?_
            refine A_iload_n (q := 74) cx dX7_tell_73 rfl rfl ?_
            refine A_if_ne (tgt := 87) (q := 77) cx dX7_tell_74 (by decide) rfl (fun c_74 => ?_) (fun c_74 => ?_)
            · refine A_aload (q := 89) cx dX7_tell_87 rfl rfl rfl ?_
              refine A_iload (q := 91) cx dX7_tell_89 rfl rfl ?_
              refine pX5_3 (q := 94) cx wi_X7_tell_X5 wf_X7_tell_124 dX7_tell_91 rfl (in5 hX (by omega)) rfl ?_
              refine A_iload (q := 96) cx dX7_tell_94 rfl rfl ?_
              exact A_iret cx hlk hr hQ dX7_tell_96 (by first | (simp only [xTell, hp, *, if_true, if_false, ite_true, ite_false, true_or, or_true, false_or, or_false, and_true, true_and, and_false, false_and, and_self, or_self, not_true_eq_false, not_false_eq_true, ne_eq, reduceIte, decide_true, decide_false, Bool.and_true, Bool.true_and, Bool.and_false, Bool.false_and]; done) | (simp [xTell, hp, *]; done) | (simp_all [xTell, hp]; done)) (by first | (simp only [xTell, hp, *, if_true, if_false, ite_true, ite_false, true_or, or_true, false_or, or_false, and_true, true_and, and_false, false_and, and_self, or_self, not_true_eq_false, not_false_eq_true, ne_eq, reduceIte, decide_true, decide_false, Bool.and_true, Bool.true_and, Bool.and_false, Bool.false_and]; done) | (simp [xTell, hp, *]; done) | (simp_all [xTell, hp]; done))
            · refine A_aload (q := 79) cx dX7_tell_77 rfl rfl rfl ?_
              refine A_iload (q := 81) cx dX7_tell_79 rfl rfl ?_
              refine pX5_2 (q := 84) cx wi_X7_tell_X5 wf_X7_tell_121 dX7_tell_81 rfl (in5 hX (by omega)) rfl ?_
              refine A_goto (q := 94) cx dX7_tell_84 (by decide) ?_
              refine A_iload (q := 96) cx dX7_tell_94 rfl rfl ?_
              exact A_iret cx hlk hr hQ dX7_tell_96 (by first | (simp only [xTell, hp, *, if_true, if_false, ite_true, ite_false, true_or, or_true, false_or, or_false, and_true, true_and, and_false, false_and, and_self, or_self, not_true_eq_false, not_false_eq_true, ne_eq, reduceIte, decide_true, decide_false, Bool.and_true, Bool.true_and, Bool.and_false, Bool.false_and]; done) | (simp [xTell, hp, *]; done) | (simp_all [xTell, hp]; done)) (by first | (simp only [xTell, hp, *, if_true, if_false, ite_true, ite_false, true_or, or_true, false_or, or_false, and_true, true_and, and_false, false_and, and_self, or_self, not_true_eq_false, not_false_eq_true, ne_eq, reduceIte, decide_true, decide_false, Bool.and_true, Bool.true_and, Bool.and_false, Bool.false_and]; done) | (simp [xTell, hp, *]; done) | (simp_all [xTell, hp]; done))
          · refine A_bipush (v := -2) (q := 61) cx dX7_tell_59 (by decide) rfl ?_
            exact A_iret cx hlk hr hQ dX7_tell_61 (by first | (simp only [xTell, hp, *, if_true, if_false, ite_true, ite_false, true_or, or_true, false_or, or_false, and_true, true_and, and_false, false_and, and_self, or_self, not_true_eq_false, not_false_eq_true, ne_eq, reduceIte, decide_true, decide_false, Bool.and_true, Bool.true_and, Bool.and_false, Bool.false_and]; done) | (simp [xTell, hp, *]; done) | (simp_all [xTell, hp]; done)) (by first | (simp only [xTell, hp, *, if_true, if_false, ite_true, ite_false, true_or, or_true, false_or, or_false, and_true, true_and, and_false, false_and, and_self, or_self, not_true_eq_false, not_false_eq_true, ne_eq, reduceIte, decide_true, decide_false, Bool.and_true, Bool.true_and, Bool.and_false, Bool.false_and]; done) | (simp [xTell, hp, *]; done) | (simp_all [xTell, hp]; done))
        · refine A_aload (q := 39) cx dX7_tell_37 rfl rfl rfl ?_
          refine gX5_2 (q := 42) cx wi_X7_tell_X5 wf_X7_tell_121 dX7_tell_39 rfl (in5 hX (by omega)) rfl ?_
          refine A_goto (q := 50) cx dX7_tell_42 (by decide) ?_
          refine A_istore (lv' := [some _, some _, some _, some _, some _, some _, some _]) (q := 52) cx dX7_tell_50 (Nat.le_of_ble_eq_true rfl) rfl rfl ?_
          refine A_iload (q := 54) cx dX7_tell_52 rfl rfl ?_
          refine A_iload (q := 56) cx dX7_tell_54 rfl rfl ?_
          refine A_icmp_ne (tgt := 62) (q := 59) cx dX7_tell_56 (by decide) rfl (fun c_56 => ?_) (fun c_56 => ?_)
          · refine A_aload_n (q := 63) cx dX7_tell_62 rfl rfl rfl ?_
            refine gX7_2 (q := 66) cx wi_X7_tell_X7 wf_X7_tell_26 dX7_tell_63 rfl (in7 hX) rfl rfl ?_
            refine A_aload_n (q := 67) cx dX7_tell_66 rfl rfl rfl ?_
            refine gX7_1 (q := 70) cx wi_X7_tell_X7 wf_X7_tell_19 dX7_tell_67 rfl (in7 hX) rfl rfl ?_
            refine VV1 (q := 73) cx (ct_X2_keep hE hX) (cwV 1 cx.1.2.2.2.2 gX7_tell_X2_keep rfl rfl rfl (by decide +kernel) ⟨Nat.le_of_ble_eq_true rfl, Nat.le_of_ble_eq_true rfl⟩) dX7_tell_70 rfl rfl (in2 hX) rfl (Nat.le_of_ble_eq_true rfl) ⟨Nat.zero_le _, Nat.zero_le _⟩ rfl ?_
            refine A_iload_n (q := 74) cx dX7_tell_73 rfl rfl ?_
            refine A_if_ne (tgt := 87) (q := 77) cx dX7_tell_74 (by decide) rfl (fun c_74 => ?_) (fun c_74 => ?_)
            · refine A_aload (q := 89) cx dX7_tell_87 rfl rfl rfl ?_
              refine A_iload (q := 91) cx dX7_tell_89 rfl rfl ?_
              refine pX5_3 (q := 94) cx wi_X7_tell_X5 wf_X7_tell_124 dX7_tell_91 rfl (in5 hX (by omega)) rfl ?_
              refine A_iload (q := 96) cx dX7_tell_94 rfl rfl ?_
              exact A_iret cx hlk hr hQ dX7_tell_96 (by first | (simp only [xTell, hp, *, if_true, if_false, ite_true, ite_false, true_or, or_true, false_or, or_false, and_true, true_and, and_false, false_and, and_self, or_self, not_true_eq_false, not_false_eq_true, ne_eq, reduceIte, decide_true, decide_false, Bool.and_true, Bool.true_and, Bool.and_false, Bool.false_and]; done) | (simp [xTell, hp, *]; done) | (simp_all [xTell, hp]; done)) (by first | (simp only [xTell, hp, *, if_true, if_false, ite_true, ite_false, true_or, or_true, false_or, or_false, and_true, true_and, and_false, false_and, and_self, or_self, not_true_eq_false, not_false_eq_true, ne_eq, reduceIte, decide_true, decide_false, Bool.and_true, Bool.true_and, Bool.and_false, Bool.false_and]; done) | (simp [xTell, hp, *]; done) | (simp_all [xTell, hp]; done))
            · refine A_aload (q := 79) cx dX7_tell_77 rfl rfl rfl ?_
              refine A_iload (q := 81) cx dX7_tell_79 rfl rfl ?_
              refine pX5_2 (q := 84) cx wi_X7_tell_X5 wf_X7_tell_121 dX7_tell_81 rfl (in5 hX (by omega)) rfl ?_
              refine A_goto (q := 94) cx dX7_tell_84 (by decide) ?_
              refine A_iload (q := 96) cx dX7_tell_94 rfl rfl ?_
              exact A_iret cx hlk hr hQ dX7_tell_96 (by first | (simp only [xTell, hp, *, if_true, if_false, ite_true, ite_false, true_or, or_true, false_or, or_false, and_true, true_and, and_false, false_and, and_self, or_self, not_true_eq_false, not_false_eq_true, ne_eq, reduceIte, decide_true, decide_false, Bool.and_true, Bool.true_and, Bool.and_false, Bool.false_and]; done) | (simp [xTell, hp, *]; done) | (simp_all [xTell, hp]; done)) (by first | (simp only [xTell, hp, *, if_true, if_false, ite_true, ite_false, true_or, or_true, false_or, or_false, and_true, true_and, and_false, false_and, and_self, or_self, not_true_eq_false, not_false_eq_true, ne_eq, reduceIte, decide_true, decide_false, Bool.and_true, Bool.true_and, Bool.and_false, Bool.false_and]; done) | (simp [xTell, hp, *]; done) | (simp_all [xTell, hp]; done))
          · refine A_bipush (v := -2) (q := 61) cx dX7_tell_59 (by decide) rfl ?_
            exact A_iret cx hlk hr hQ dX7_tell_61 (by first | (simp only [xTell, hp, *, if_true, if_false, ite_true, ite_false, true_or, or_true, false_or, or_false, and_true, true_and, and_false, false_and, and_self, or_self, not_true_eq_false, not_false_eq_true, ne_eq, reduceIte, decide_true, decide_false, Bool.and_true, Bool.true_and, Bool.and_false, Bool.false_and]; done) | (simp [xTell, hp, *]; done) | (simp_all [xTell, hp]; done)) (by first | (simp only [xTell, hp, *, if_true, if_false, ite_true, ite_false, true_or, or_true, false_or, or_false, and_true, true_and, and_false, false_and, and_self, or_self, not_true_eq_false, not_false_eq_true, ne_eq, reduceIte, decide_true, decide_false, Bool.and_true, Bool.true_and, Bool.and_false, Bool.false_and]; done) | (simp [xTell, hp, *]; done) | (simp_all [xTell, hp]; done))
      · refine A_iconst (v := -1) (q := 32) cx dX7_tell_31 (by decide) rfl ?_
        exact A_iret cx hlk hr hQ dX7_tell_32 (by first | (simp only [xTell, hp, *, if_true, if_false, ite_true, ite_false, true_or, or_true, false_or, or_false, and_true, true_and, and_false, false_and, and_self, or_self, not_true_eq_false, not_false_eq_true, ne_eq, reduceIte, decide_true, decide_false, Bool.and_true, Bool.true_and, Bool.and_false, Bool.false_and]; done) | (simp [xTell, hp, *]; done) | (simp_all [xTell, hp]; done)) (by first | (simp only [xTell, hp, *, if_true, if_false, ite_true, ite_false, true_or, or_true, false_or, or_false, and_true, true_and, and_false, false_and, and_self, or_self, not_true_eq_false, not_false_eq_true, ne_eq, reduceIte, decide_true, decide_false, Bool.and_true, Bool.true_and, Bool.and_false, Bool.false_and]; done) | (simp [xTell, hp, *]; done) | (simp_all [xTell, hp]; done))
theorem wi_X7_set_X7 : ∀ w ∈ u_ws RX7 TX7 6, w ∈ wsX7_set := by decide +kernel
theorem wf_X7_set_19 : Cond.fieldLink RX7 19 (TX7 1).1 (TX7 1).2.1 (TX7 1).2.2.1 ∈ wsX7_set := by decide +kernel
theorem wf_X7_set_26 : Cond.fieldLink RX7 26 (TX7 2).1 (TX7 2).2.1 (TX7 2).2.2.1 ∈ wsX7_set := by decide +kernel
set_option maxHeartbeats 1000000 in
set_option maxRecDepth 100000 in
theorem ct_X7_set {la : Launch} {E : Ev} (hE : okE E) (hX : xin E) {σ : Sg} {w v : Int32} : CI la yX7_set wsX7_set 5 106 E rh0 [.ref (ad E (7, 0, 0, 0)), .int w, .int v] σ (xSet σ w v).1 (xSet σ w v).2 := by
  refine met_of (lv := [some _, some _, some _, none]) RX7 (by decide) rfl rfl rfl hE (ok3 rfl rfl rfl) (Nat.le_of_ble_eq_true rfl) (fun p ev s m args below meth c Q cx hlk hr hQ => ?_)
  refine A_iload_n (q := 1) cx dX7_set_0 rfl rfl ?_
  refine A_if_lt (tgt := 31) (q := 4) cx dX7_set_1 (by decide) rfl (fun c_1 => ?_) (fun c_1 => ?_)
  · refine A_iconst (v := -1) (q := 32) cx dX7_set_31 (by decide) rfl ?_
    exact A_iret cx hlk hr hQ dX7_set_32 (by first | (simp only [xSet, xSetOk, *, if_true, if_false, ite_true, ite_false, true_or, or_true, false_or, or_false, and_true, true_and, and_false, false_and, and_self, or_self, not_true_eq_false, not_false_eq_true, ne_eq, reduceIte, decide_true, decide_false, Bool.and_true, Bool.true_and, Bool.and_false, Bool.false_and]; done) | (simp [xSet, xSetOk, *]; done) | (simp_all [xSet, xSetOk]; done)) (by first | (simp only [xSet, xSetOk, *, if_true, if_false, ite_true, ite_false, true_or, or_true, false_or, or_false, and_true, true_and, and_false, false_and, and_self, or_self, not_true_eq_false, not_false_eq_true, ne_eq, reduceIte, decide_true, decide_false, Bool.and_true, Bool.true_and, Bool.and_false, Bool.false_and]; done) | (simp [xSet, xSetOk, *]; done) | (simp_all [xSet, xSetOk]; done))
  · refine A_iload_n (q := 5) cx dX7_set_4 rfl rfl ?_
    refine A_iconst (v := 2) (q := 6) cx dX7_set_5 (by decide) rfl ?_
    refine A_icmp_gt (tgt := 31) (q := 9) cx dX7_set_6 (by decide) rfl (fun c_6 => ?_) (fun c_6 => ?_)
    · refine A_iconst (v := -1) (q := 32) cx dX7_set_31 (by decide) rfl ?_
      exact A_iret cx hlk hr hQ dX7_set_32 (by first | (simp only [xSet, xSetOk, *, if_true, if_false, ite_true, ite_false, true_or, or_true, false_or, or_false, and_true, true_and, and_false, false_and, and_self, or_self, not_true_eq_false, not_false_eq_true, ne_eq, reduceIte, decide_true, decide_false, Bool.and_true, Bool.true_and, Bool.and_false, Bool.false_and]; done) | (simp [xSet, xSetOk, *]; done) | (simp_all [xSet, xSetOk]; done)) (by first | (simp only [xSet, xSetOk, *, if_true, if_false, ite_true, ite_false, true_or, or_true, false_or, or_false, and_true, true_and, and_false, false_and, and_self, or_self, not_true_eq_false, not_false_eq_true, ne_eq, reduceIte, decide_true, decide_false, Bool.and_true, Bool.true_and, Bool.and_false, Bool.false_and]; done) | (simp [xSet, xSetOk, *]; done) | (simp_all [xSet, xSetOk]; done))
    · refine A_iload_n (q := 10) cx dX7_set_9 rfl rfl ?_
      refine A_iconst (v := 2) (q := 11) cx dX7_set_10 (by decide) rfl ?_
      refine A_icmp_ne (tgt := 24) (q := 14) cx dX7_set_11 (by decide) rfl (fun c_11 => ?_) (fun c_11 => ?_)
      · refine A_iload_n (q := 25) cx dX7_set_24 rfl rfl ?_
        refine SI1 (q := 28) cx (ct_X7_isFigure hE hX) (cwS 1 cx.1.2.2.2.2 gX7_set_X7_isFigure rfl rfl rfl (by decide +kernel) ⟨Nat.le_of_ble_eq_true rfl, Nat.le_of_ble_eq_true rfl⟩) dX7_set_25 rfl (Nat.le_of_ble_eq_true rfl) ⟨Nat.zero_le _, Nat.zero_le _⟩ rfl ?_
        refine A_if_ne (tgt := 33) (q := 31) cx dX7_set_28 (by decide) rfl (fun c_28 => ?_) (fun c_28 => ?_)
        · refine A_aload_n (q := 34) cx dX7_set_33 rfl rfl rfl ?_
          refine gX7_1 (q := 37) cx wi_X7_set_X7 wf_X7_set_19 dX7_set_34 rfl (in7 hX) rfl rfl ?_
          refine A_iload_n (q := 38) cx dX7_set_37 rfl rfl ?_
          refine VI1 (q := 41) cx (ct_X4_setting hE hX) (cwV 1 cx.1.2.2.2.2 gX7_set_X4_setting rfl rfl rfl (by decide +kernel) ⟨Nat.le_of_ble_eq_true rfl, Nat.le_of_ble_eq_true rfl⟩) dX7_set_38 rfl rfl (in4 hX (by omega)) rfl (Nat.le_of_ble_eq_true rfl) ⟨Nat.zero_le _, Nat.zero_le _⟩ rfl ?_
          refine A_istore_n (lv' := [some _, some _, some _, some _]) (q := 42) cx dX7_set_41 (Nat.le_of_ble_eq_true rfl) rfl rfl ?_
          refine A_iload_n (q := 43) cx dX7_set_42 rfl rfl ?_
          refine A_iload_n (q := 44) cx dX7_set_43 rfl rfl ?_
          refine A_icmp_ne (tgt := 50) (q := 47) cx dX7_set_44 (by decide) rfl (fun c_44 => ?_) (fun c_44 => ?_)
          · refine A_aload_n (q := 51) cx dX7_set_50 rfl rfl rfl ?_
            refine gX7_2 (q := 54) cx wi_X7_set_X7 wf_X7_set_26 dX7_set_51 rfl (in7 hX) rfl rfl ?_
            refine A_aload_n (q := 55) cx dX7_set_54 rfl rfl rfl ?_
            refine gX7_1 (q := 58) cx wi_X7_set_X7 wf_X7_set_19 dX7_set_55 rfl (in7 hX) rfl rfl ?_
            refine VV1 (q := 61) cx (ct_X2_keep hE hX) (cwV 1 cx.1.2.2.2.2 gX7_set_X2_keep rfl rfl rfl (by decide +kernel) ⟨Nat.le_of_ble_eq_true rfl, Nat.le_of_ble_eq_true rfl⟩) dX7_set_58 rfl rfl (in2 hX) rfl (Nat.le_of_ble_eq_true rfl) ⟨Nat.zero_le _, Nat.zero_le _⟩ rfl ?_
            refine A_aload_n (q := 62) cx dX7_set_61 rfl rfl rfl ?_
            refine gX7_1 (q := 65) cx wi_X7_set_X7 wf_X7_set_19 dX7_set_62 rfl (in7 hX) rfl rfl ?_
            refine A_iload_n (q := 66) cx dX7_set_65 rfl rfl ?_
            refine A_iload_n (q := 67) cx dX7_set_66 rfl rfl ?_
            refine VV2 (q := 70) cx (ct_X4_changeSetting hE hX) (cwV 2 cx.1.2.2.2.2 gX7_set_X4_changeSetting rfl rfl rfl (by decide +kernel) ⟨Nat.le_of_ble_eq_true rfl, Nat.le_of_ble_eq_true rfl⟩) dX7_set_67 rfl rfl (in4 hX (by omega)) rfl (Nat.le_of_ble_eq_true rfl) ⟨Nat.zero_le _, Nat.zero_le _⟩ rfl ?_
            refine A_iload_n (q := 71) cx dX7_set_70 rfl rfl ?_
            exact A_iret cx hlk hr hQ dX7_set_71 (by first | (simp only [xSet, xSetOk, *, if_true, if_false, ite_true, ite_false, true_or, or_true, false_or, or_false, and_true, true_and, and_false, false_and, and_self, or_self, not_true_eq_false, not_false_eq_true, ne_eq, reduceIte, decide_true, decide_false, Bool.and_true, Bool.true_and, Bool.and_false, Bool.false_and]; done) | (simp [xSet, xSetOk, *]; done) | (simp_all [xSet, xSetOk]; done)) (by first | (simp only [xSet, xSetOk, *, if_true, if_false, ite_true, ite_false, true_or, or_true, false_or, or_false, and_true, true_and, and_false, false_and, and_self, or_self, not_true_eq_false, not_false_eq_true, ne_eq, reduceIte, decide_true, decide_false, Bool.and_true, Bool.true_and, Bool.and_false, Bool.false_and]; done) | (simp [xSet, xSetOk, *]; done) | (simp_all [xSet, xSetOk]; done))
          · refine A_bipush (v := -2) (q := 49) cx dX7_set_47 (by decide) rfl ?_
            exact A_iret cx hlk hr hQ dX7_set_49 (by first | (simp only [xSet, xSetOk, *, if_true, if_false, ite_true, ite_false, true_or, or_true, false_or, or_false, and_true, true_and, and_false, false_and, and_self, or_self, not_true_eq_false, not_false_eq_true, ne_eq, reduceIte, decide_true, decide_false, Bool.and_true, Bool.true_and, Bool.and_false, Bool.false_and]; done) | (simp [xSet, xSetOk, *]; done) | (simp_all [xSet, xSetOk]; done)) (by first | (simp only [xSet, xSetOk, *, if_true, if_false, ite_true, ite_false, true_or, or_true, false_or, or_false, and_true, true_and, and_false, false_and, and_self, or_self, not_true_eq_false, not_false_eq_true, ne_eq, reduceIte, decide_true, decide_false, Bool.and_true, Bool.true_and, Bool.and_false, Bool.false_and]; done) | (simp [xSet, xSetOk, *]; done) | (simp_all [xSet, xSetOk]; done))
        · refine A_iconst (v := -1) (q := 32) cx dX7_set_31 (by decide) rfl ?_
          exact A_iret cx hlk hr hQ dX7_set_32 (by first | (simp only [xSet, xSetOk, *, if_true, if_false, ite_true, ite_false, true_or, or_true, false_or, or_false, and_true, true_and, and_false, false_and, and_self, or_self, not_true_eq_false, not_false_eq_true, ne_eq, reduceIte, decide_true, decide_false, Bool.and_true, Bool.true_and, Bool.and_false, Bool.false_and]; done) | (simp [xSet, xSetOk, *]; done) | (simp_all [xSet, xSetOk]; done)) (by first | (simp only [xSet, xSetOk, *, if_true, if_false, ite_true, ite_false, true_or, or_true, false_or, or_false, and_true, true_and, and_false, false_and, and_self, or_self, not_true_eq_false, not_false_eq_true, ne_eq, reduceIte, decide_true, decide_false, Bool.and_true, Bool.true_and, Bool.and_false, Bool.false_and]; done) | (simp [xSet, xSetOk, *]; done) | (simp_all [xSet, xSetOk]; done))
      · refine A_iload_n (q := 15) cx dX7_set_14 rfl rfl ?_
        refine SI1 (q := 18) cx (ct_X7_isMost hE hX) (cwS 1 cx.1.2.2.2.2 gX7_set_X7_isMost rfl rfl rfl (by decide +kernel) ⟨Nat.le_of_ble_eq_true rfl, Nat.le_of_ble_eq_true rfl⟩) dX7_set_15 rfl (Nat.le_of_ble_eq_true rfl) ⟨Nat.zero_le _, Nat.zero_le _⟩ rfl ?_
        refine A_if_ne (tgt := 33) (q := 21) cx dX7_set_18 (by decide) rfl (fun c_18 => ?_) (fun c_18 => ?_)
        · refine A_aload_n (q := 34) cx dX7_set_33 rfl rfl rfl ?_
          refine gX7_1 (q := 37) cx wi_X7_set_X7 wf_X7_set_19 dX7_set_34 rfl (in7 hX) rfl rfl ?_
          refine A_iload_n (q := 38) cx dX7_set_37 rfl rfl ?_
          refine VI1 (q := 41) cx (ct_X4_setting hE hX) (cwV 1 cx.1.2.2.2.2 gX7_set_X4_setting rfl rfl rfl (by decide +kernel) ⟨Nat.le_of_ble_eq_true rfl, Nat.le_of_ble_eq_true rfl⟩) dX7_set_38 rfl rfl (in4 hX (by omega)) rfl (Nat.le_of_ble_eq_true rfl) ⟨Nat.zero_le _, Nat.zero_le _⟩ rfl ?_
          refine A_istore_n (lv' := [some _, some _, some _, some _]) (q := 42) cx dX7_set_41 (Nat.le_of_ble_eq_true rfl) rfl rfl ?_
          refine A_iload_n (q := 43) cx dX7_set_42 rfl rfl ?_
          refine A_iload_n (q := 44) cx dX7_set_43 rfl rfl ?_
          refine A_icmp_ne (tgt := 50) (q := 47) cx dX7_set_44 (by decide) rfl (fun c_44 => ?_) (fun c_44 => ?_)
          · refine A_aload_n (q := 51) cx dX7_set_50 rfl rfl rfl ?_
            refine gX7_2 (q := 54) cx wi_X7_set_X7 wf_X7_set_26 dX7_set_51 rfl (in7 hX) rfl rfl ?_
            refine A_aload_n (q := 55) cx dX7_set_54 rfl rfl rfl ?_
            refine gX7_1 (q := 58) cx wi_X7_set_X7 wf_X7_set_19 dX7_set_55 rfl (in7 hX) rfl rfl ?_
            refine VV1 (q := 61) cx (ct_X2_keep hE hX) (cwV 1 cx.1.2.2.2.2 gX7_set_X2_keep rfl rfl rfl (by decide +kernel) ⟨Nat.le_of_ble_eq_true rfl, Nat.le_of_ble_eq_true rfl⟩) dX7_set_58 rfl rfl (in2 hX) rfl (Nat.le_of_ble_eq_true rfl) ⟨Nat.zero_le _, Nat.zero_le _⟩ rfl ?_
            refine A_aload_n (q := 62) cx dX7_set_61 rfl rfl rfl ?_
            refine gX7_1 (q := 65) cx wi_X7_set_X7 wf_X7_set_19 dX7_set_62 rfl (in7 hX) rfl rfl ?_
            refine A_iload_n (q := 66) cx dX7_set_65 rfl rfl ?_
            refine A_iload_n (q := 67) cx dX7_set_66 rfl rfl ?_
            refine VV2 (q := 70) cx (ct_X4_changeSetting hE hX) (cwV 2 cx.1.2.2.2.2 gX7_set_X4_changeSetting rfl rfl rfl (by decide +kernel) ⟨Nat.le_of_ble_eq_true rfl, Nat.le_of_ble_eq_true rfl⟩) dX7_set_67 rfl rfl (in4 hX (by omega)) rfl (Nat.le_of_ble_eq_true rfl) ⟨Nat.zero_le _, Nat.zero_le _⟩ rfl ?_
            refine A_iload_n (q := 71) cx dX7_set_70 rfl rfl ?_
            exact A_iret cx hlk hr hQ dX7_set_71 (by first | (simp only [xSet, xSetOk, *, if_true, if_false, ite_true, ite_false, true_or, or_true, false_or, or_false, and_true, true_and, and_false, false_and, and_self, or_self, not_true_eq_false, not_false_eq_true, ne_eq, reduceIte, decide_true, decide_false, Bool.and_true, Bool.true_and, Bool.and_false, Bool.false_and]; done) | (simp [xSet, xSetOk, *]; done) | (simp_all [xSet, xSetOk]; done)) (by first | (simp only [xSet, xSetOk, *, if_true, if_false, ite_true, ite_false, true_or, or_true, false_or, or_false, and_true, true_and, and_false, false_and, and_self, or_self, not_true_eq_false, not_false_eq_true, ne_eq, reduceIte, decide_true, decide_false, Bool.and_true, Bool.true_and, Bool.and_false, Bool.false_and]; done) | (simp [xSet, xSetOk, *]; done) | (simp_all [xSet, xSetOk]; done))
          · refine A_bipush (v := -2) (q := 49) cx dX7_set_47 (by decide) rfl ?_
            exact A_iret cx hlk hr hQ dX7_set_49 (by first | (simp only [xSet, xSetOk, *, if_true, if_false, ite_true, ite_false, true_or, or_true, false_or, or_false, and_true, true_and, and_false, false_and, and_self, or_self, not_true_eq_false, not_false_eq_true, ne_eq, reduceIte, decide_true, decide_false, Bool.and_true, Bool.true_and, Bool.and_false, Bool.false_and]; done) | (simp [xSet, xSetOk, *]; done) | (simp_all [xSet, xSetOk]; done)) (by first | (simp only [xSet, xSetOk, *, if_true, if_false, ite_true, ite_false, true_or, or_true, false_or, or_false, and_true, true_and, and_false, false_and, and_self, or_self, not_true_eq_false, not_false_eq_true, ne_eq, reduceIte, decide_true, decide_false, Bool.and_true, Bool.true_and, Bool.and_false, Bool.false_and]; done) | (simp [xSet, xSetOk, *]; done) | (simp_all [xSet, xSetOk]; done))
        · refine A_goto (q := 31) cx dX7_set_21 (by decide) ?_
          refine A_iconst (v := -1) (q := 32) cx dX7_set_31 (by decide) rfl ?_
          exact A_iret cx hlk hr hQ dX7_set_32 (by first | (simp only [xSet, xSetOk, *, if_true, if_false, ite_true, ite_false, true_or, or_true, false_or, or_false, and_true, true_and, and_false, false_and, and_self, or_self, not_true_eq_false, not_false_eq_true, ne_eq, reduceIte, decide_true, decide_false, Bool.and_true, Bool.true_and, Bool.and_false, Bool.false_and]; done) | (simp [xSet, xSetOk, *]; done) | (simp_all [xSet, xSetOk]; done)) (by first | (simp only [xSet, xSetOk, *, if_true, if_false, ite_true, ite_false, true_or, or_true, false_or, or_false, and_true, true_and, and_false, false_and, and_self, or_self, not_true_eq_false, not_false_eq_true, ne_eq, reduceIte, decide_true, decide_false, Bool.and_true, Bool.true_and, Bool.and_false, Bool.false_and]; done) | (simp [xSet, xSetOk, *]; done) | (simp_all [xSet, xSetOk]; done))
theorem wi_X7_agreed_X7 : ∀ w ∈ u_ws RX7 TX7 6, w ∈ wsX7_agreed := by decide +kernel
theorem wf_X7_agreed_19 : Cond.fieldLink RX7 19 (TX7 1).1 (TX7 1).2.1 (TX7 1).2.2.1 ∈ wsX7_agreed := by decide +kernel
theorem wi_X7_agreed_X4 : ∀ w ∈ u_ws RX4 TX4 7, w ∈ wsX7_agreed := by decide +kernel
theorem wf_X7_agreed_99 : Cond.fieldLink RX7 99 (TX4 0).1 (TX4 0).2.1 (TX4 0).2.2.1 ∈ wsX7_agreed := by decide +kernel
theorem wf_X7_agreed_186 : Cond.fieldLink RX7 186 (TX4 1).1 (TX4 1).2.1 (TX4 1).2.2.1 ∈ wsX7_agreed := by decide +kernel
set_option maxHeartbeats 1000000 in
set_option maxRecDepth 100000 in
theorem ct_X7_agreed {la : Launch} {E : Ev} (hE : okE E) (hX : xin E) {σ : Sg}  : CI la yX7_agreed wsX7_agreed 2 44 E rh0 [.ref (ad E (7, 0, 0, 0))] σ (xAgree σ) σ := by
  refine met_of (lv := [some _, none]) RX7 (by decide) rfl rfl rfl hE (ok1 rfl) (Nat.le_of_ble_eq_true rfl) (fun p ev s m args below meth c Q cx hlk hr hQ => ?_)
  refine A_aload_n (q := 1) cx dX7_agreed_0 rfl rfl rfl ?_
  refine gX7_1 (q := 4) cx wi_X7_agreed_X7 wf_X7_agreed_19 dX7_agreed_1 rfl (in7 hX) rfl rfl ?_
  refine gX4_0 (q := 7) cx wi_X7_agreed_X4 wf_X7_agreed_99 dX7_agreed_4 rfl (in4 hX (by omega)) rfl rfl ?_
  refine A_iconst (v := 2) (q := 8) cx dX7_agreed_7 (by decide) rfl ?_
  refine VI1 (q := 11) cx (ct_X0_bits hE hX) (cwV 1 cx.1.2.2.2.2 gX7_agreed_X0_bits rfl rfl rfl (by decide +kernel) ⟨Nat.le_of_ble_eq_true rfl, Nat.le_of_ble_eq_true rfl⟩) dX7_agreed_8 rfl rfl (in0 hX (by omega)) rfl (Nat.le_of_ble_eq_true rfl) ⟨Nat.zero_le _, Nat.zero_le _⟩ rfl ?_
  refine A_istore_n (lv' := [some _, some _]) (q := 12) cx dX7_agreed_11 (Nat.le_of_ble_eq_true rfl) rfl rfl ?_
  refine A_iload_n (q := 13) cx dX7_agreed_12 rfl rfl ?_
  refine A_if_eq (tgt := 35) (q := 16) cx dX7_agreed_13 (by decide) rfl (fun c_13 => ?_) (fun c_13 => ?_)
  · refine A_iconst (v := 0) (q := 36) cx dX7_agreed_35 (by decide) rfl ?_
    exact A_iret cx hlk hr hQ dX7_agreed_36 (by first | (simp only [xAgree, *, if_true, if_false, ite_true, ite_false, true_or, or_true, false_or, or_false, and_true, true_and, and_false, false_and, and_self, or_self, not_true_eq_false, not_false_eq_true, ne_eq, reduceIte, decide_true, decide_false, Bool.and_true, Bool.true_and, Bool.and_false, Bool.false_and]; done) | (simp [xAgree, *]; done) | (simp_all [xAgree]; done)) rfl
  · refine A_iload_n (q := 17) cx dX7_agreed_16 rfl rfl ?_
    refine A_aload_n (q := 18) cx dX7_agreed_17 rfl rfl rfl ?_
    refine gX7_1 (q := 21) cx wi_X7_agreed_X7 wf_X7_agreed_19 dX7_agreed_18 rfl (in7 hX) rfl rfl ?_
    refine gX4_1 (q := 24) cx wi_X7_agreed_X4 wf_X7_agreed_186 dX7_agreed_21 rfl (in4 hX (by omega)) rfl rfl ?_
    refine A_iconst (v := 2) (q := 25) cx dX7_agreed_24 (by decide) rfl ?_
    refine VI1 (q := 28) cx (ct_X0_bits hE hX) (cwV 1 cx.1.2.2.2.2 gX7_agreed_X0_bits rfl rfl rfl (by decide +kernel) ⟨Nat.le_of_ble_eq_true rfl, Nat.le_of_ble_eq_true rfl⟩) dX7_agreed_25 rfl rfl (in0 hX (by omega)) rfl (Nat.le_of_ble_eq_true rfl) ⟨Nat.zero_le _, Nat.zero_le _⟩ rfl ?_
    refine A_icmp_ne (tgt := 35) (q := 31) cx dX7_agreed_28 (by decide) rfl (fun c_28 => ?_) (fun c_28 => ?_)
    · refine A_iconst (v := 0) (q := 36) cx dX7_agreed_35 (by decide) rfl ?_
      exact A_iret cx hlk hr hQ dX7_agreed_36 (by first | (simp only [xAgree, *, if_true, if_false, ite_true, ite_false, true_or, or_true, false_or, or_false, and_true, true_and, and_false, false_and, and_self, or_self, not_true_eq_false, not_false_eq_true, ne_eq, reduceIte, decide_true, decide_false, Bool.and_true, Bool.true_and, Bool.and_false, Bool.false_and]; done) | (simp [xAgree, *]; done) | (simp_all [xAgree]; done)) rfl
    · refine A_iconst (v := 1) (q := 32) cx dX7_agreed_31 (by decide) rfl ?_
      refine A_goto (q := 36) cx dX7_agreed_32 (by decide) ?_
      exact A_iret cx hlk hr hQ dX7_agreed_36 (by first | (simp only [xAgree, *, if_true, if_false, ite_true, ite_false, true_or, or_true, false_or, or_false, and_true, true_and, and_false, false_and, and_self, or_self, not_true_eq_false, not_false_eq_true, ne_eq, reduceIte, decide_true, decide_false, Bool.and_true, Bool.true_and, Bool.and_false, Bool.false_and]; done) | (simp [xAgree, *]; done) | (simp_all [xAgree]; done)) rfl
theorem wi_X7_tick_X7 : ∀ w ∈ u_ws RX7 TX7 6, w ∈ wsX7_tick := by decide +kernel
theorem wf_X7_tick_19 : Cond.fieldLink RX7 19 (TX7 1).1 (TX7 1).2.1 (TX7 1).2.2.1 ∈ wsX7_tick := by decide +kernel
theorem wi_X7_tick_X4 : ∀ w ∈ u_ws RX4 TX4 7, w ∈ wsX7_tick := by decide +kernel
theorem wf_X7_tick_138 : Cond.fieldLink RX7 138 (TX4 6).1 (TX4 6).2.1 (TX4 6).2.2.1 ∈ wsX7_tick := by decide +kernel
theorem wf_X7_tick_26 : Cond.fieldLink RX7 26 (TX7 2).1 (TX7 2).2.1 (TX7 2).2.2.1 ∈ wsX7_tick := by decide +kernel
set_option maxHeartbeats 1000000 in
set_option maxRecDepth 100000 in
theorem ct_X7_tick {la : Launch} {E : Ev} (hE : okE E) (hX : xin E) {σ0 : Sg} {v : Int32} : CI la yX7_tick wsX7_tick 5 115 E rh0 [.ref (ad E (7, 0, 0, 0)), .int v] σ0 (xTick σ0 v).1 (xTick σ0 v).2 := by
  refine met_of (lv := [some _, some _, none]) RX7 (by decide) rfl rfl rfl hE (ok2 rfl rfl) (Nat.le_of_ble_eq_true rfl) (fun p ev s m args below meth c Q cx hlk hr hQ => ?_)
  have l1 : ∀ (d i : Nat) (σ : Sg), i + d = v.toNatClampNeg → (xAgree (nSteps 0 d σ), nSteps 0 d σ) = xTick σ0 v → AW p la ev (rmm 5 115) s m args below meth c 0 0 Q (AL E) E rh0 44 [some (.ref (ad E (7, 0, 0, 0))), some (.int v), some (.int (nI i))] [] σ := by
    intro d
    induction d with
    | zero =>
      intro i σ  hi hF
      refine A_iload_n (q := 45) cx dX7_tick_44 rfl rfl ?_
      refine A_iload_n (q := 46) cx dX7_tick_45 rfl rfl ?_
      refine A_icmp_ge (tgt := 62) (q := 49) cx dX7_tick_46 (by decide) rfl (fun c_46 => ?_) (fun c_46 => ?_)
      · refine A_aload_n (q := 63) cx dX7_tick_62 rfl rfl rfl ?_
        refine VI0 (q := 66) cx (ct_X7_agreed hE hX) (cwV 0 cx.1.2.2.2.2 gX7_tick_X7_agreed rfl rfl rfl (by decide +kernel) ⟨Nat.le_of_ble_eq_true rfl, Nat.le_of_ble_eq_true rfl⟩) dX7_tick_63 rfl rfl (in7 hX) rfl (Nat.le_of_ble_eq_true rfl) ⟨Nat.zero_le _, Nat.zero_le _⟩ rfl ?_
        exact A_iret cx hlk hr hQ dX7_tick_66 (by rw [← hF]; rfl) (by rw [← hF]; rfl)
      · exact absurd (by rw [show i = v.toNatClampNeg by omega]; exact clamp_ge v) c_46
    | succ d ih =>
      intro i σ  hi hF
      refine A_iload_n (q := 45) cx dX7_tick_44 rfl rfl ?_
      refine A_iload_n (q := 46) cx dX7_tick_45 rfl rfl ?_
      refine A_icmp_ge (tgt := 62) (q := 49) cx dX7_tick_46 (by decide) rfl (fun c_46 => ?_) (fun c_46 => ?_)
      · exact absurd c_46 (clamp_lt (by omega))
      · refine A_aload_n (q := 50) cx dX7_tick_49 rfl rfl rfl ?_
        refine gX7_1 (q := 53) cx wi_X7_tick_X7 wf_X7_tick_19 dX7_tick_50 rfl (in7 hX) rfl rfl ?_
        refine VV0 (q := 56) cx (ct_X4_step hE hX) (cwV 0 cx.1.2.2.2.2 gX7_tick_X4_step rfl rfl rfl (by decide +kernel) ⟨Nat.le_of_ble_eq_true rfl, Nat.le_of_ble_eq_true rfl⟩) dX7_tick_53 rfl rfl (in4 hX (by omega)) rfl (Nat.le_of_ble_eq_true rfl) ⟨Nat.zero_le _, Nat.zero_le _⟩ rfl ?_
        refine A_iinc (lv' := [some _, some _, some _]) (q := 59) cx dX7_tick_56 rfl (nI_1 i) rfl rfl ?_
        refine A_goto (q := 44) cx dX7_tick_59 (by decide) ?_
        exact ih (i + 1) _ (by omega) hF
  refine A_iload_n (q := 1) cx dX7_tick_0 rfl rfl ?_
  refine A_iconst (v := 1) (q := 2) cx dX7_tick_1 (by decide) rfl ?_
  refine A_icmp_lt (tgt := 11) (q := 5) cx dX7_tick_2 (by decide) rfl (fun c_2 => ?_) (fun c_2 => ?_)
  · refine A_iconst (v := -1) (q := 12) cx dX7_tick_11 (by decide) rfl ?_
    exact A_iret cx hlk hr hQ dX7_tick_12 (by unfold xTick; first | (rw [if_pos c_2]; done) | (rw [if_neg c_2, if_neg c_8]; done) | (rw [if_neg c_2, if_pos c_8, if_neg c_25]; done)) (by unfold xTick; first | (rw [if_pos c_2]; done) | (rw [if_neg c_2, if_neg c_8]; done) | (rw [if_neg c_2, if_pos c_8, if_neg c_25]; done))
  · refine A_iload_n (q := 6) cx dX7_tick_5 rfl rfl ?_
    refine A_bipush (v := 40) (q := 8) cx dX7_tick_6 (by decide) rfl ?_
    refine A_icmp_le (tgt := 13) (q := 11) cx dX7_tick_8 (by decide) rfl (fun c_8 => ?_) (fun c_8 => ?_)
    · refine A_aload_n (q := 14) cx dX7_tick_13 rfl rfl rfl ?_
      refine gX7_1 (q := 17) cx wi_X7_tick_X7 wf_X7_tick_19 dX7_tick_14 rfl (in7 hX) rfl rfl ?_
      refine gX4_6 (q := 20) cx wi_X7_tick_X4 wf_X7_tick_138 dX7_tick_17 rfl (in4 hX (by omega)) rfl ?_
      refine A_iload_n (q := 21) cx dX7_tick_20 rfl rfl ?_
      refine A_iadd (q := 22) cx dX7_tick_21 rfl ?_
      refine A_sipush (v := 9999) (q := 25) cx dX7_tick_22 (by decide) rfl ?_
      refine A_icmp_le (tgt := 31) (q := 28) cx dX7_tick_25 (by decide) rfl (fun c_25 => ?_) (fun c_25 => ?_)
      · refine A_aload_n (q := 32) cx dX7_tick_31 rfl rfl rfl ?_
        refine gX7_2 (q := 35) cx wi_X7_tick_X7 wf_X7_tick_26 dX7_tick_32 rfl (in7 hX) rfl rfl ?_
        refine A_aload_n (q := 36) cx dX7_tick_35 rfl rfl rfl ?_
        refine gX7_1 (q := 39) cx wi_X7_tick_X7 wf_X7_tick_19 dX7_tick_36 rfl (in7 hX) rfl rfl ?_
        refine VV1 (q := 42) cx (ct_X2_keep hE hX) (cwV 1 cx.1.2.2.2.2 gX7_tick_X2_keep rfl rfl rfl (by decide +kernel) ⟨Nat.le_of_ble_eq_true rfl, Nat.le_of_ble_eq_true rfl⟩) dX7_tick_39 rfl rfl (in2 hX) rfl (Nat.le_of_ble_eq_true rfl) ⟨Nat.zero_le _, Nat.zero_le _⟩ rfl ?_
        refine A_iconst (v := 0) (q := 43) cx dX7_tick_42 (by decide) rfl ?_
        refine A_istore_n (lv' := [some _, some _, some _]) (q := 44) cx dX7_tick_43 (Nat.le_of_ble_eq_true rfl) rfl rfl ?_
        exact l1 v.toNatClampNeg 0 _ (by omega) (by unfold xTick; rw [if_neg c_2, if_pos c_8, if_pos c_25])
      · refine A_bipush (v := -2) (q := 30) cx dX7_tick_28 (by decide) rfl ?_
        exact A_iret cx hlk hr hQ dX7_tick_30 (by unfold xTick; first | (rw [if_pos c_2]; done) | (rw [if_neg c_2, if_neg c_8]; done) | (rw [if_neg c_2, if_pos c_8, if_neg c_25]; done)) (by unfold xTick; first | (rw [if_pos c_2]; done) | (rw [if_neg c_2, if_neg c_8]; done) | (rw [if_neg c_2, if_pos c_8, if_neg c_25]; done))
    · refine A_iconst (v := -1) (q := 12) cx dX7_tick_11 (by decide) rfl ?_
      exact A_iret cx hlk hr hQ dX7_tick_12 (by unfold xTick; first | (rw [if_pos c_2]; done) | (rw [if_neg c_2, if_neg c_8]; done) | (rw [if_neg c_2, if_pos c_8, if_neg c_25]; done)) (by unfold xTick; first | (rw [if_pos c_2]; done) | (rw [if_neg c_2, if_neg c_8]; done) | (rw [if_neg c_2, if_pos c_8, if_neg c_25]; done))
theorem wi_X7_undo_X7 : ∀ w ∈ u_ws RX7 TX7 6, w ∈ wsX7_undo := by decide +kernel
theorem wf_X7_undo_26 : Cond.fieldLink RX7 26 (TX7 2).1 (TX7 2).2.1 (TX7 2).2.2.1 ∈ wsX7_undo := by decide +kernel
theorem wf_X7_undo_19 : Cond.fieldLink RX7 19 (TX7 1).1 (TX7 1).2.1 (TX7 1).2.2.1 ∈ wsX7_undo := by decide +kernel
theorem wi_X7_undo_X2 : ∀ w ∈ u_ws RX2 TX2 3, w ∈ wsX7_undo := by decide +kernel
theorem wf_X7_undo_154 : Cond.fieldLink RX7 154 (TX2 2).1 (TX2 2).2.1 (TX2 2).2.2.1 ∈ wsX7_undo := by decide +kernel
set_option maxHeartbeats 1000000 in
set_option maxRecDepth 100000 in
theorem ct_X7_undo {la : Launch} {E : Ev} (hE : okE E) (hX : xin E) {σ : Sg}  : CI la yX7_undo wsX7_undo 4 85 E rh0 [.ref (ad E (7, 0, 0, 0))] σ (xUndo σ).1 (xUndo σ).2 := by
  refine met_of (lv := [some _, none]) RX7 (by decide) rfl rfl rfl hE (ok1 rfl) (Nat.le_of_ble_eq_true rfl) (fun p ev s m args below meth c Q cx hlk hr hQ => ?_)
  rcases hp : hTakeR σ with _ | j
  · refine A_aload_n (q := 1) cx dX7_undo_0 rfl rfl rfl ?_
    refine gX7_2 (q := 4) cx wi_X7_undo_X7 wf_X7_undo_26 dX7_undo_1 rfl (in7 hX) rfl rfl ?_
    refine VQ0 (q := 7) cx (ct_X2_takeLatest hE hX) (cwV 0 cx.1.2.2.2.2 gX7_undo_X2_takeLatest rfl rfl rfl (by decide +kernel) ⟨Nat.le_of_ble_eq_true rfl, Nat.le_of_ble_eq_true rfl⟩) dX7_undo_4 rfl rfl (in2 hX) rfl (Nat.le_of_ble_eq_true rfl) ⟨Nat.zero_le _, Nat.zero_le _⟩ rfl ?_
    simp only [hp, Option.map_some, Option.map_none, rv_some, rv_none]
    refine A_astore_n (lv' := [some _, some _]) (q := 8) cx dX7_undo_7 (Nat.le_of_ble_eq_true rfl) rfl rfl rfl ?_
    refine A_aload_n (q := 9) cx dX7_undo_8 rfl rfl rfl ?_
    refine A_ifnonnull_N (q := 12) cx dX7_undo_9 rfl ?_
    refine A_bipush (v := -2) (q := 14) cx dX7_undo_12 (by decide) rfl ?_
    exact A_iret cx hlk hr hQ dX7_undo_14 (by unfold xUndo; rw [hp]) (by unfold xUndo; rw [hp])
  · have hj : j < 6 := hTakeR_lt hp
    refine A_aload_n (q := 1) cx dX7_undo_0 rfl rfl rfl ?_
    refine gX7_2 (q := 4) cx wi_X7_undo_X7 wf_X7_undo_26 dX7_undo_1 rfl (in7 hX) rfl rfl ?_
    refine VQ0 (q := 7) cx (ct_X2_takeLatest hE hX) (cwV 0 cx.1.2.2.2.2 gX7_undo_X2_takeLatest rfl rfl rfl (by decide +kernel) ⟨Nat.le_of_ble_eq_true rfl, Nat.le_of_ble_eq_true rfl⟩) dX7_undo_4 rfl rfl (in2 hX) rfl (Nat.le_of_ble_eq_true rfl) ⟨Nat.zero_le _, Nat.zero_le _⟩ rfl ?_
    simp only [hp, Option.map_some, Option.map_none, rv_some, rv_none]
    refine A_astore_n (lv' := [some _, some _]) (q := 8) cx dX7_undo_7 (Nat.le_of_ble_eq_true rfl) rfl rfl rfl ?_
    refine A_aload_n (q := 9) cx dX7_undo_8 rfl rfl rfl ?_
    refine A_ifnonnull_R (tgt := 15) cx dX7_undo_9 (by decide) ?_
    refine A_aload_n (q := 16) cx dX7_undo_15 rfl rfl rfl ?_
    refine gX7_1 (q := 19) cx wi_X7_undo_X7 wf_X7_undo_19 dX7_undo_16 rfl (in7 hX) rfl rfl ?_
    refine A_aload_n (q := 20) cx dX7_undo_19 rfl rfl rfl ?_
    refine VV1 (q := 23) cx (ct_X4_copyFrom hE hX) (cwV 1 cx.1.2.2.2.2 gX7_undo_X4_copyFrom rfl rfl rfl (by decide +kernel) ⟨Nat.le_of_ble_eq_true rfl, Nat.le_of_ble_eq_true rfl⟩) dX7_undo_20 rfl rfl (in4 hX (by omega)) rfl (Nat.le_of_ble_eq_true rfl) ⟨Nat.zero_le _, Nat.zero_le _⟩ rfl ?_
    refine A_aload_n (q := 24) cx dX7_undo_23 rfl rfl rfl ?_
    refine gX7_2 (q := 27) cx wi_X7_undo_X7 wf_X7_undo_26 dX7_undo_24 rfl (in7 hX) rfl rfl ?_
    refine gX2_2 (q := 30) cx wi_X7_undo_X2 wf_X7_undo_154 dX7_undo_27 rfl (in2 hX) rfl ?_
    exact A_iret cx hlk hr hQ dX7_undo_30 (by unfold xUndo; rw [hp]) (by unfold xUndo; rw [hp])
theorem wi_X7_link_X7 : ∀ w ∈ u_ws RX7 TX7 6, w ∈ wsX7_link := by decide +kernel
theorem wf_X7_link_19 : Cond.fieldLink RX7 19 (TX7 1).1 (TX7 1).2.1 (TX7 1).2.2.1 ∈ wsX7_link := by decide +kernel
set_option maxHeartbeats 1000000 in
set_option maxRecDepth 100000 in
theorem ct_X7_link {la : Launch} {E : Ev} (hE : okE E) (hX : xin E) {σ : Sg} {x y w : Int32} : CI la yX7_link wsX7_link 2 44 E rh0 [.ref (ad E (7, 0, 0, 0)), .int x, .int y, .int w] σ (xLink σ x y w) σ := by
  refine met_of (lv := [some _, some _, some _, some _, none]) RX7 (by decide) rfl rfl rfl hE (ok4 rfl rfl rfl rfl) (Nat.le_of_ble_eq_true rfl) (fun p ev s m args below meth c Q cx hlk hr hQ => ?_)
  rcases hp : nPort σ 0 x y with _ | k
  · refine A_aload_n (q := 1) cx dX7_link_0 rfl rfl rfl ?_
    refine gX7_1 (q := 4) cx wi_X7_link_X7 wf_X7_link_19 dX7_link_1 rfl (in7 hX) rfl rfl ?_
    refine A_iload_n (q := 5) cx dX7_link_4 rfl rfl ?_
    refine A_iload_n (q := 6) cx dX7_link_5 rfl rfl ?_
    refine VQ2 (q := 9) cx (ct_X4_portOf hE hX) (cwV 2 cx.1.2.2.2.2 gX7_link_X4_portOf rfl rfl rfl (by decide +kernel) ⟨Nat.le_of_ble_eq_true rfl, Nat.le_of_ble_eq_true rfl⟩) dX7_link_6 rfl rfl (in4 hX (by omega)) rfl (Nat.le_of_ble_eq_true rfl) ⟨Nat.zero_le _, Nat.zero_le _⟩ rfl ?_
    simp only [hp, Option.map_some, Option.map_none, rv_some, rv_none]
    refine A_astore (lv' := [some _, some _, some _, some _, some _]) (q := 11) cx dX7_link_9 (Nat.le_of_ble_eq_true rfl) rfl rfl rfl ?_
    refine A_aload (q := 13) cx dX7_link_11 rfl rfl rfl ?_
    refine A_ifnonnull_N (q := 16) cx dX7_link_13 rfl ?_
    refine A_iconst (v := -1) (q := 17) cx dX7_link_16 (by decide) rfl ?_
    refine A_goto (q := 26) cx dX7_link_17 (by decide) ?_
    exact A_iret cx hlk hr hQ dX7_link_26 (by unfold xLink; rw [hp]) rfl
  · obtain ⟨e, j, he, hy, hj, rfl, he2, hj6⟩ := nPort_inv hp
    refine A_aload_n (q := 1) cx dX7_link_0 rfl rfl rfl ?_
    refine gX7_1 (q := 4) cx wi_X7_link_X7 wf_X7_link_19 dX7_link_1 rfl (in7 hX) rfl rfl ?_
    refine A_iload_n (q := 5) cx dX7_link_4 rfl rfl ?_
    refine A_iload_n (q := 6) cx dX7_link_5 rfl rfl ?_
    refine VQ2 (q := 9) cx (ct_X4_portOf hE hX) (cwV 2 cx.1.2.2.2.2 gX7_link_X4_portOf rfl rfl rfl (by decide +kernel) ⟨Nat.le_of_ble_eq_true rfl, Nat.le_of_ble_eq_true rfl⟩) dX7_link_6 rfl rfl (in4 hX (by omega)) rfl (Nat.le_of_ble_eq_true rfl) ⟨Nat.zero_le _, Nat.zero_le _⟩ rfl ?_
    simp only [hp, Option.map_some, Option.map_none, rv_some, rv_none]
    refine A_astore (lv' := [some _, some _, some _, some _, some _]) (q := 11) cx dX7_link_9 (Nat.le_of_ble_eq_true rfl) rfl rfl rfl ?_
    refine A_aload (q := 13) cx dX7_link_11 rfl rfl rfl ?_
    refine A_ifnonnull_R (tgt := 20) cx dX7_link_13 (by decide) ?_
    refine A_aload (q := 22) cx dX7_link_20 rfl rfl rfl ?_
    refine A_iload_n (q := 23) cx dX7_link_22 rfl rfl ?_
    refine VI1 (q := 26) cx (ct_X5_look hE hX) (cwV 1 cx.1.2.2.2.2 gX7_link_X5_look rfl rfl rfl (by decide +kernel) ⟨Nat.le_of_ble_eq_true rfl, Nat.le_of_ble_eq_true rfl⟩) dX7_link_23 rfl rfl (in5 hX (by omega)) rfl (Nat.le_of_ble_eq_true rfl) ⟨Nat.zero_le _, Nat.zero_le _⟩ rfl ?_
    exact A_iret cx hlk hr hQ dX7_link_26 (by unfold xLink; rw [hp]) rfl
theorem wi_X7_bundle_X7 : ∀ w ∈ u_ws RX7 TX7 6, w ∈ wsX7_bundle := by decide +kernel
theorem wf_X7_bundle_19 : Cond.fieldLink RX7 19 (TX7 1).1 (TX7 1).2.1 (TX7 1).2.2.1 ∈ wsX7_bundle := by decide +kernel
set_option maxHeartbeats 1000000 in
set_option maxRecDepth 100000 in
theorem ct_X7_bundle {la : Launch} {E : Ev} (hE : okE E) (hX : xin E) {σ : Sg} {x w : Int32} : CI la yX7_bundle wsX7_bundle 2 44 E rh0 [.ref (ad E (7, 0, 0, 0)), .int x, .int w] σ (xBundle σ x w) σ := by
  refine met_of (lv := [some _, some _, some _, none]) RX7 (by decide) rfl rfl rfl hE (ok3 rfl rfl rfl) (Nat.le_of_ble_eq_true rfl) (fun p ev s m args below meth c Q cx hlk hr hQ => ?_)
  rcases he : eOf x with _ | e
  · refine A_aload_n (q := 1) cx dX7_bundle_0 rfl rfl rfl ?_
    refine gX7_1 (q := 4) cx wi_X7_bundle_X7 wf_X7_bundle_19 dX7_bundle_1 rfl (in7 hX) rfl rfl ?_
    refine A_iload_n (q := 5) cx dX7_bundle_4 rfl rfl ?_
    refine VQ1 (q := 8) cx (ct_X4_endOf hE hX) (cwV 1 cx.1.2.2.2.2 gX7_bundle_X4_endOf rfl rfl rfl (by decide +kernel) ⟨Nat.le_of_ble_eq_true rfl, Nat.le_of_ble_eq_true rfl⟩) dX7_bundle_5 rfl rfl (in4 hX (by omega)) rfl (Nat.le_of_ble_eq_true rfl) ⟨Nat.zero_le _, Nat.zero_le _⟩ rfl ?_
    simp only [he, Option.map_some, Option.map_none, rv_some, rv_none]
    refine A_astore_n (lv' := [some _, some _, some _, some _]) (q := 9) cx dX7_bundle_8 (Nat.le_of_ble_eq_true rfl) rfl rfl rfl ?_
    refine A_aload_n (q := 10) cx dX7_bundle_9 rfl rfl rfl ?_
    refine A_ifnull_N (tgt := 22) cx dX7_bundle_10 (by decide) ?_
    refine A_iconst (v := -1) (q := 23) cx dX7_bundle_22 (by decide) rfl ?_
    refine A_goto (q := 31) cx dX7_bundle_23 (by decide) ?_
    exact A_iret cx hlk hr hQ dX7_bundle_31 (by unfold xBundle; rw [he] <;> (first | rfl | (simp only [*, if_true, if_false]; done) | (simp [*]; done))) rfl
  · have he2 := eOf_lt he
    refine A_aload_n (q := 1) cx dX7_bundle_0 rfl rfl rfl ?_
    refine gX7_1 (q := 4) cx wi_X7_bundle_X7 wf_X7_bundle_19 dX7_bundle_1 rfl (in7 hX) rfl rfl ?_
    refine A_iload_n (q := 5) cx dX7_bundle_4 rfl rfl ?_
    refine VQ1 (q := 8) cx (ct_X4_endOf hE hX) (cwV 1 cx.1.2.2.2.2 gX7_bundle_X4_endOf rfl rfl rfl (by decide +kernel) ⟨Nat.le_of_ble_eq_true rfl, Nat.le_of_ble_eq_true rfl⟩) dX7_bundle_5 rfl rfl (in4 hX (by omega)) rfl (Nat.le_of_ble_eq_true rfl) ⟨Nat.zero_le _, Nat.zero_le _⟩ rfl ?_
    simp only [he, Option.map_some, Option.map_none, rv_some, rv_none]
    refine A_astore_n (lv' := [some _, some _, some _, some _]) (q := 9) cx dX7_bundle_8 (Nat.le_of_ble_eq_true rfl) rfl rfl rfl ?_
    refine A_aload_n (q := 10) cx dX7_bundle_9 rfl rfl rfl ?_
    refine A_ifnull_R (q := 13) cx dX7_bundle_10 rfl ?_
    refine A_iload_n (q := 14) cx dX7_bundle_13 rfl rfl ?_
    refine A_if_lt (tgt := 22) (q := 17) cx dX7_bundle_14 (by decide) rfl (fun c_14 => ?_) (fun c_14 => ?_)
    · refine A_iconst (v := -1) (q := 23) cx dX7_bundle_22 (by decide) rfl ?_
      refine A_goto (q := 31) cx dX7_bundle_23 (by decide) ?_
      exact A_iret cx hlk hr hQ dX7_bundle_31 (by unfold xBundle; rw [he] <;> (first | rfl | (simp only [*, if_true, if_false]; done) | (simp [*]; done))) rfl
    · refine A_iload_n (q := 18) cx dX7_bundle_17 rfl rfl ?_
      refine A_iconst (v := 2) (q := 19) cx dX7_bundle_18 (by decide) rfl ?_
      refine A_icmp_le (tgt := 26) (q := 22) cx dX7_bundle_19 (by decide) rfl (fun c_19 => ?_) (fun c_19 => ?_)
      · refine A_aload_n (q := 27) cx dX7_bundle_26 rfl rfl rfl ?_
        refine A_iload_n (q := 28) cx dX7_bundle_27 rfl rfl ?_
        refine VI1 (q := 31) cx (ct_X0_bits hE hX) (cwV 1 cx.1.2.2.2.2 gX7_bundle_X0_bits rfl rfl rfl (by decide +kernel) ⟨Nat.le_of_ble_eq_true rfl, Nat.le_of_ble_eq_true rfl⟩) dX7_bundle_28 rfl rfl (in0 hX (by omega)) rfl (Nat.le_of_ble_eq_true rfl) ⟨Nat.zero_le _, Nat.zero_le _⟩ rfl ?_
        exact A_iret cx hlk hr hQ dX7_bundle_31 (by unfold xBundle; rw [he] <;> (first | rfl | (simp only [*, if_true, if_false]; done) | (simp [*]; done))) rfl
      · refine A_iconst (v := -1) (q := 23) cx dX7_bundle_22 (by decide) rfl ?_
        refine A_goto (q := 31) cx dX7_bundle_23 (by decide) ?_
        exact A_iret cx hlk hr hQ dX7_bundle_31 (by unfold xBundle; rw [he] <;> (first | rfl | (simp only [*, if_true, if_false]; done) | (simp [*]; done))) rfl
theorem wi_X7_flow_X7 : ∀ w ∈ u_ws RX7 TX7 6, w ∈ wsX7_flow := by decide +kernel
theorem wf_X7_flow_19 : Cond.fieldLink RX7 19 (TX7 1).1 (TX7 1).2.1 (TX7 1).2.2.1 ∈ wsX7_flow := by decide +kernel
theorem wi_X7_flow_X1 : ∀ w ∈ u_ws RX1 TX1 2, w ∈ wsX7_flow := by decide +kernel
theorem wf_X7_flow_165 : Cond.fieldLink RX7 165 (TX1 0).1 (TX1 0).2.1 (TX1 0).2.2.1 ∈ wsX7_flow := by decide +kernel
theorem wf_X7_flow_170 : Cond.fieldLink RX7 170 (TX1 1).1 (TX1 1).2.1 (TX1 1).2.2.1 ∈ wsX7_flow := by decide +kernel
set_option maxHeartbeats 1000000 in
set_option maxRecDepth 100000 in
theorem ct_X7_flow {la : Launch} {E : Ev} (hE : okE E) (hX : xin E) {σ : Sg} {x y w : Int32} : CI la yX7_flow wsX7_flow 2 44 E rh0 [.ref (ad E (7, 0, 0, 0)), .int x, .int y, .int w] σ (xFlow σ x y w) σ := by
  refine met_of (lv := [some _, some _, some _, some _, none, none]) RX7 (by decide) rfl rfl rfl hE (ok4 rfl rfl rfl rfl) (Nat.le_of_ble_eq_true rfl) (fun p ev s m args below meth c Q cx hlk hr hQ => ?_)
  rcases hp : nFlow 0 x y with _ | k
  · rcases he : eOf x with _ | e
    · skip
      refine A_aload_n (q := 1) cx dX7_flow_0 rfl rfl rfl ?_
      refine gX7_1 (q := 4) cx wi_X7_flow_X7 wf_X7_flow_19 dX7_flow_1 rfl (in7 hX) rfl rfl ?_
      refine A_iload_n (q := 5) cx dX7_flow_4 rfl rfl ?_
      refine VQ1 (q := 8) cx (ct_X4_endOf hE hX) (cwV 1 cx.1.2.2.2.2 gX7_flow_X4_endOf rfl rfl rfl (by decide +kernel) ⟨Nat.le_of_ble_eq_true rfl, Nat.le_of_ble_eq_true rfl⟩) dX7_flow_5 rfl rfl (in4 hX (by omega)) rfl (Nat.le_of_ble_eq_true rfl) ⟨Nat.zero_le _, Nat.zero_le _⟩ rfl ?_
      simp only [he, Option.map_some, Option.map_none, rv_some, rv_none]
      refine A_astore (lv' := [some _, some _, some _, some _, some _, none]) (q := 10) cx dX7_flow_8 (Nat.le_of_ble_eq_true rfl) rfl rfl rfl ?_
      refine A_aload_n (q := 11) cx dX7_flow_10 rfl rfl rfl ?_
      refine gX7_1 (q := 14) cx wi_X7_flow_X7 wf_X7_flow_19 dX7_flow_11 rfl (in7 hX) rfl rfl ?_
      refine A_iload_n (q := 15) cx dX7_flow_14 rfl rfl ?_
      refine A_iload_n (q := 16) cx dX7_flow_15 rfl rfl ?_
      refine VQ2 (q := 19) cx (ct_X4_flowOf hE hX) (cwV 2 cx.1.2.2.2.2 gX7_flow_X4_flowOf rfl rfl rfl (by decide +kernel) ⟨Nat.le_of_ble_eq_true rfl, Nat.le_of_ble_eq_true rfl⟩) dX7_flow_16 rfl rfl (in4 hX (by omega)) rfl (Nat.le_of_ble_eq_true rfl) ⟨Nat.zero_le _, Nat.zero_le _⟩ rfl ?_
      simp only [hp, Option.map_some, Option.map_none, rv_some, rv_none]
      refine A_astore (lv' := [some _, some _, some _, some _, some _, some _]) (q := 21) cx dX7_flow_19 (Nat.le_of_ble_eq_true rfl) rfl rfl rfl ?_
      refine A_aload (q := 23) cx dX7_flow_21 rfl rfl rfl ?_
      refine A_ifnull_N (tgt := 31) cx dX7_flow_23 (by decide) ?_
      refine A_iconst (v := -1) (q := 32) cx dX7_flow_31 (by decide) rfl ?_
      exact A_iret cx hlk hr hQ dX7_flow_32 (by unfold xFlow; rw [hp] <;> (first | rfl | (simp only [*, if_true, if_false]; done) | (simp [*]; done))) rfl
    · have he2 := eOf_lt he
      refine A_aload_n (q := 1) cx dX7_flow_0 rfl rfl rfl ?_
      refine gX7_1 (q := 4) cx wi_X7_flow_X7 wf_X7_flow_19 dX7_flow_1 rfl (in7 hX) rfl rfl ?_
      refine A_iload_n (q := 5) cx dX7_flow_4 rfl rfl ?_
      refine VQ1 (q := 8) cx (ct_X4_endOf hE hX) (cwV 1 cx.1.2.2.2.2 gX7_flow_X4_endOf rfl rfl rfl (by decide +kernel) ⟨Nat.le_of_ble_eq_true rfl, Nat.le_of_ble_eq_true rfl⟩) dX7_flow_5 rfl rfl (in4 hX (by omega)) rfl (Nat.le_of_ble_eq_true rfl) ⟨Nat.zero_le _, Nat.zero_le _⟩ rfl ?_
      simp only [he, Option.map_some, Option.map_none, rv_some, rv_none]
      refine A_astore (lv' := [some _, some _, some _, some _, some _, none]) (q := 10) cx dX7_flow_8 (Nat.le_of_ble_eq_true rfl) rfl rfl rfl ?_
      refine A_aload_n (q := 11) cx dX7_flow_10 rfl rfl rfl ?_
      refine gX7_1 (q := 14) cx wi_X7_flow_X7 wf_X7_flow_19 dX7_flow_11 rfl (in7 hX) rfl rfl ?_
      refine A_iload_n (q := 15) cx dX7_flow_14 rfl rfl ?_
      refine A_iload_n (q := 16) cx dX7_flow_15 rfl rfl ?_
      refine VQ2 (q := 19) cx (ct_X4_flowOf hE hX) (cwV 2 cx.1.2.2.2.2 gX7_flow_X4_flowOf rfl rfl rfl (by decide +kernel) ⟨Nat.le_of_ble_eq_true rfl, Nat.le_of_ble_eq_true rfl⟩) dX7_flow_16 rfl rfl (in4 hX (by omega)) rfl (Nat.le_of_ble_eq_true rfl) ⟨Nat.zero_le _, Nat.zero_le _⟩ rfl ?_
      simp only [hp, Option.map_some, Option.map_none, rv_some, rv_none]
      refine A_astore (lv' := [some _, some _, some _, some _, some _, some _]) (q := 21) cx dX7_flow_19 (Nat.le_of_ble_eq_true rfl) rfl rfl rfl ?_
      refine A_aload (q := 23) cx dX7_flow_21 rfl rfl rfl ?_
      refine A_ifnull_R (q := 26) cx dX7_flow_23 rfl ?_
      refine A_aload (q := 28) cx dX7_flow_26 rfl rfl rfl ?_
      refine A_ifnonnull_N (q := 31) cx dX7_flow_28 rfl ?_
      refine A_iconst (v := -1) (q := 32) cx dX7_flow_31 (by decide) rfl ?_
      exact A_iret cx hlk hr hQ dX7_flow_32 (by unfold xFlow; rw [hp] <;> (first | rfl | (simp only [*, if_true, if_false]; done) | (simp [*]; done))) rfl
  · obtain ⟨e, j, he, hj, rfl, he2, hj8⟩ := nFlow_inv hp
    refine A_aload_n (q := 1) cx dX7_flow_0 rfl rfl rfl ?_
    refine gX7_1 (q := 4) cx wi_X7_flow_X7 wf_X7_flow_19 dX7_flow_1 rfl (in7 hX) rfl rfl ?_
    refine A_iload_n (q := 5) cx dX7_flow_4 rfl rfl ?_
    refine VQ1 (q := 8) cx (ct_X4_endOf hE hX) (cwV 1 cx.1.2.2.2.2 gX7_flow_X4_endOf rfl rfl rfl (by decide +kernel) ⟨Nat.le_of_ble_eq_true rfl, Nat.le_of_ble_eq_true rfl⟩) dX7_flow_5 rfl rfl (in4 hX (by omega)) rfl (Nat.le_of_ble_eq_true rfl) ⟨Nat.zero_le _, Nat.zero_le _⟩ rfl ?_
    simp only [he, Option.map_some, Option.map_none, rv_some, rv_none]
    refine A_astore (lv' := [some _, some _, some _, some _, some _, none]) (q := 10) cx dX7_flow_8 (Nat.le_of_ble_eq_true rfl) rfl rfl rfl ?_
    refine A_aload_n (q := 11) cx dX7_flow_10 rfl rfl rfl ?_
    refine gX7_1 (q := 14) cx wi_X7_flow_X7 wf_X7_flow_19 dX7_flow_11 rfl (in7 hX) rfl rfl ?_
    refine A_iload_n (q := 15) cx dX7_flow_14 rfl rfl ?_
    refine A_iload_n (q := 16) cx dX7_flow_15 rfl rfl ?_
    refine VQ2 (q := 19) cx (ct_X4_flowOf hE hX) (cwV 2 cx.1.2.2.2.2 gX7_flow_X4_flowOf rfl rfl rfl (by decide +kernel) ⟨Nat.le_of_ble_eq_true rfl, Nat.le_of_ble_eq_true rfl⟩) dX7_flow_16 rfl rfl (in4 hX (by omega)) rfl (Nat.le_of_ble_eq_true rfl) ⟨Nat.zero_le _, Nat.zero_le _⟩ rfl ?_
    simp only [hp, Option.map_some, Option.map_none, rv_some, rv_none]
    refine A_astore (lv' := [some _, some _, some _, some _, some _, some _]) (q := 21) cx dX7_flow_19 (Nat.le_of_ble_eq_true rfl) rfl rfl rfl ?_
    refine A_aload (q := 23) cx dX7_flow_21 rfl rfl rfl ?_
    refine A_ifnull_R (q := 26) cx dX7_flow_23 rfl ?_
    refine A_aload (q := 28) cx dX7_flow_26 rfl rfl rfl ?_
    refine A_ifnonnull_R (tgt := 33) cx dX7_flow_28 (by decide) ?_
    refine A_iload_n (q := 34) cx dX7_flow_33 rfl rfl ?_
    by_cases s_34_0 : w = 0
    · refine A_tableIn (tgt := 60) cx dX7_flow_34 (by rw [s_34_0]; decide) (by rw [s_34_0]; decide) (by rw [s_34_0]; rfl) (by decide) ?_
      refine A_aload (q := 62) cx dX7_flow_60 rfl rfl rfl ?_
      refine gX1_0 (q := 65) cx wi_X7_flow_X1 wf_X7_flow_165 dX7_flow_62 rfl (in1 hX (by omega)) rfl ?_
      exact A_iret cx hlk hr hQ dX7_flow_65 (by unfold xFlow; rw [hp] <;> (first | rfl | (simp only [*, if_true, if_false]; done) | (simp [*]; done))) rfl
    by_cases s_34_1 : w = 1
    · refine A_tableIn (tgt := 66) cx dX7_flow_34 (by rw [s_34_1]; decide) (by rw [s_34_1]; decide) (by rw [s_34_1]; rfl) (by decide) ?_
      refine A_aload (q := 68) cx dX7_flow_66 rfl rfl rfl ?_
      refine gX1_1 (q := 71) cx wi_X7_flow_X1 wf_X7_flow_170 dX7_flow_68 rfl (in1 hX (by omega)) rfl ?_
      exact A_iret cx hlk hr hQ dX7_flow_71 (by unfold xFlow; rw [hp] <;> (first | rfl | (simp only [*, if_true, if_false]; done) | (simp [*]; done))) rfl
    by_cases s_34_2 : w = 2
    · refine A_tableIn (tgt := 72) cx dX7_flow_34 (by rw [s_34_2]; decide) (by rw [s_34_2]; decide) (by rw [s_34_2]; rfl) (by decide) ?_
      refine A_aload (q := 74) cx dX7_flow_72 rfl rfl rfl ?_
      refine A_iload_n (q := 75) cx dX7_flow_74 rfl rfl ?_
      refine A_aload (q := 77) cx dX7_flow_75 rfl rfl rfl ?_
      refine VI0 (q := 80) cx (ct_X0_howManySending hE hX) (cwV 0 cx.1.2.2.2.2 gX7_flow_X0_howManySending rfl rfl rfl (by decide +kernel) ⟨Nat.le_of_ble_eq_true rfl, Nat.le_of_ble_eq_true rfl⟩) dX7_flow_77 rfl rfl (in0 hX (by omega)) rfl (Nat.le_of_ble_eq_true rfl) ⟨Nat.zero_le _, Nat.zero_le _⟩ rfl ?_
      refine VI2 (q := 83) cx (ct_X0_wantedBy hE hX) (cwV 2 cx.1.2.2.2.2 gX7_flow_X0_wantedBy rfl rfl rfl (by decide +kernel) ⟨Nat.le_of_ble_eq_true rfl, Nat.le_of_ble_eq_true rfl⟩) dX7_flow_80 rfl rfl (in0 hX (by omega)) rfl (Nat.le_of_ble_eq_true rfl) ⟨Nat.zero_le _, Nat.zero_le _⟩ rfl ?_
      exact A_iret cx hlk hr hQ dX7_flow_83 (by unfold xFlow; rw [hp] <;> (first | rfl | (simp only [*, if_true, if_false]; done) | (simp [*]; done))) rfl
    refine A_tableOut (tgt := 84) cx dX7_flow_34 (by have n_0 := lv_neT s_34_0 (a := 0) rfl; have n_1 := lv_neT s_34_1 (a := 1) rfl; have n_2 := lv_neT s_34_2 (a := 2) rfl; omega) (by decide) ?_
    refine A_iconst (v := -1) (q := 85) cx dX7_flow_84 (by decide) rfl ?_
    exact A_iret cx hlk hr hQ dX7_flow_85 (by unfold xFlow; rw [hp] <;> (first | rfl | (simp only [*, if_true, if_false]; done) | (simp [*]; done))) rfl
theorem wi_X7_placeOfFrames_X7 : ∀ w ∈ u_ws RX7 TX7 6, w ∈ wsX7_placeOfFrames := by decide +kernel
theorem wf_X7_placeOfFrames_19 : Cond.fieldLink RX7 19 (TX7 1).1 (TX7 1).2.1 (TX7 1).2.2.1 ∈ wsX7_placeOfFrames := by decide +kernel
theorem wi_X7_placeOfFrames_X4 : ∀ w ∈ u_ws RX4 TX4 7, w ∈ wsX7_placeOfFrames := by decide +kernel
theorem wf_X7_placeOfFrames_75 : Cond.fieldLink RX7 75 (TX4 2).1 (TX4 2).2.1 (TX4 2).2.2.1 ∈ wsX7_placeOfFrames := by decide +kernel
theorem wf_X7_placeOfFrames_30 : Cond.fieldLink RX7 30 (TX7 3).1 (TX7 3).2.1 (TX7 3).2.2.1 ∈ wsX7_placeOfFrames := by decide +kernel
set_option maxHeartbeats 1000000 in
set_option maxRecDepth 100000 in
theorem ct_X7_placeOfFrames {la : Launch} {E : Ev} (hE : okE E) (hX : xin E) {σ : Sg} {x y : Int32} : CI la yX7_placeOfFrames wsX7_placeOfFrames 0 0 E rh0 [.ref (ad E (7, 0, 0, 0)), .int x, .int y] σ (zPl σ x y) σ := by
  refine met_of (lv := [some _, some _, some _, none]) RX7 (by decide) rfl rfl rfl hE (ok3 rfl rfl rfl) (Nat.le_of_ble_eq_true rfl) (fun p ev s m args below meth c Q cx hlk hr hQ => ?_)
  refine A_iload_n (q := 1) cx dX7_placeOfFrames_0 rfl rfl ?_
  refine A_if_lt (tgt := 24) (q := 4) cx dX7_placeOfFrames_1 (by decide) rfl (fun c_1 => ?_) (fun c_1 => ?_)
  · refine A_bipush (v := -4) (q := 26) cx dX7_placeOfFrames_24 (by decide) rfl ?_
    exact A_iret cx hlk hr hQ dX7_placeOfFrames_26 (by unfold zPl; simp only [*, if_true, if_false]) rfl
  · refine A_iload_n (q := 5) cx dX7_placeOfFrames_4 rfl rfl ?_
    refine A_iconst (v := 1) (q := 6) cx dX7_placeOfFrames_5 (by decide) rfl ?_
    refine A_icmp_gt (tgt := 24) (q := 9) cx dX7_placeOfFrames_6 (by decide) rfl (fun c_6 => ?_) (fun c_6 => ?_)
    · refine A_bipush (v := -4) (q := 26) cx dX7_placeOfFrames_24 (by decide) rfl ?_
      exact A_iret cx hlk hr hQ dX7_placeOfFrames_26 (by unfold zPl; simp only [*, if_true, if_false]) rfl
    · refine A_iload_n (q := 10) cx dX7_placeOfFrames_9 rfl rfl ?_
      refine A_if_lt (tgt := 24) (q := 13) cx dX7_placeOfFrames_10 (by decide) rfl (fun c_10 => ?_) (fun c_10 => ?_)
      · refine A_bipush (v := -4) (q := 26) cx dX7_placeOfFrames_24 (by decide) rfl ?_
        exact A_iret cx hlk hr hQ dX7_placeOfFrames_26 (by unfold zPl; simp only [*, if_true, if_false]) rfl
      · refine A_iload_n (q := 14) cx dX7_placeOfFrames_13 rfl rfl ?_
        refine A_aload_n (q := 15) cx dX7_placeOfFrames_14 rfl rfl rfl ?_
        refine gX7_1 (q := 18) cx wi_X7_placeOfFrames_X7 wf_X7_placeOfFrames_19 dX7_placeOfFrames_15 rfl (in7 hX) rfl rfl ?_
        refine gX4_2 (q := 21) cx wi_X7_placeOfFrames_X4 wf_X7_placeOfFrames_75 dX7_placeOfFrames_18 rfl (in4 hX (by omega)) rfl ?_
        refine A_icmp_lt (tgt := 27) (q := 24) cx dX7_placeOfFrames_21 (by decide) rfl (fun c_21 => ?_) (fun c_21 => ?_)
        · refine A_iload_n (q := 28) cx dX7_placeOfFrames_27 rfl rfl ?_
          refine A_bipush (v := 6) (q := 30) cx dX7_placeOfFrames_28 (by decide) rfl ?_
          refine A_imul (q := 31) cx dX7_placeOfFrames_30 rfl ?_
          refine A_iload_n (q := 32) cx dX7_placeOfFrames_31 rfl rfl ?_
          refine A_iadd (q := 33) cx dX7_placeOfFrames_32 rfl ?_
          refine A_istore_n (lv' := [some _, some _, some _, some _]) (q := 34) cx dX7_placeOfFrames_33 (Nat.le_of_ble_eq_true rfl) rfl rfl ?_
          refine A_iload_n (q := 35) cx dX7_placeOfFrames_34 rfl rfl ?_
          refine A_aload_n (q := 36) cx dX7_placeOfFrames_35 rfl rfl rfl ?_
          refine gX7_3 (q := 39) cx wi_X7_placeOfFrames_X7 wf_X7_placeOfFrames_30 dX7_placeOfFrames_36 rfl (in7 hX) rfl rfl ?_
          refine A_alen9 (v := 12) (q := 40) cx dX7_placeOfFrames_39 rfl (in91 hX) rfl rfl ?_
          refine A_icmp_ge (tgt := 47) (q := 43) cx dX7_placeOfFrames_40 (by decide) rfl (fun c_40 => ?_) (fun c_40 => ?_)
          · refine A_bipush (v := -4) (q := 49) cx dX7_placeOfFrames_47 (by decide) rfl ?_
            exact A_iret cx hlk hr hQ dX7_placeOfFrames_49 (by unfold zPl; simp only [*, if_true, if_false]) rfl
          · refine A_iload_n (q := 44) cx dX7_placeOfFrames_43 rfl rfl ?_
            refine A_goto (q := 49) cx dX7_placeOfFrames_44 (by decide) ?_
            exact A_iret cx hlk hr hQ dX7_placeOfFrames_49 (by unfold zPl; simp only [*, if_true, if_false]) rfl
        · refine A_bipush (v := -4) (q := 26) cx dX7_placeOfFrames_24 (by decide) rfl ?_
          exact A_iret cx hlk hr hQ dX7_placeOfFrames_26 (by unfold zPl; simp only [*, if_true, if_false]) rfl
theorem wi_X7_frames_X7 : ∀ w ∈ u_ws RX7 TX7 6, w ∈ wsX7_frames := by decide +kernel
theorem wf_X7_frames_30 : Cond.fieldLink RX7 30 (TX7 3).1 (TX7 3).2.1 (TX7 3).2.2.1 ∈ wsX7_frames := by decide +kernel
set_option maxHeartbeats 1000000 in
set_option maxRecDepth 100000 in
theorem ct_X7_frames {la : Launch} {E : Ev} (hE : okE E) (hX : xin E) {σ : Sg} {x y : Int32} {L : Nat} (hL : σ (4, 0, 0, 0) 2 = nI L) (hL6 : L ≤ 6) : CI la yX7_frames wsX7_frames 1 23 E rh0 [.ref (ad E (7, 0, 0, 0)), .int x, .int y] σ (xFrames σ x y) σ := by
  refine met_of (lv := [some _, some _, some _, none]) RX7 (by decide) rfl rfl rfl hE (ok3 rfl rfl rfl) (Nat.le_of_ble_eq_true rfl) (fun p ev s m args below meth c Q cx hlk hr hQ => ?_)
  refine A_aload_n (q := 1) cx dX7_frames_0 rfl rfl rfl ?_
  refine A_iload_n (q := 2) cx dX7_frames_1 rfl rfl ?_
  refine A_iload_n (q := 3) cx dX7_frames_2 rfl rfl ?_
  refine VI2 (q := 6) cx (ct_X7_placeOfFrames hE hX) (cwV 2 cx.1.2.2.2.2 gX7_frames_X7_placeOfFrames rfl rfl rfl (by decide +kernel) ⟨Nat.le_of_ble_eq_true rfl, Nat.le_of_ble_eq_true rfl⟩) dX7_frames_3 rfl rfl (in7 hX) rfl (Nat.le_of_ble_eq_true rfl) ⟨Nat.zero_le _, Nat.zero_le _⟩ rfl ?_
  refine A_istore_n (lv' := [some _, some _, some _, some _]) (q := 7) cx dX7_frames_6 (Nat.le_of_ble_eq_true rfl) rfl rfl ?_
  refine A_iload_n (q := 8) cx dX7_frames_7 rfl rfl ?_
  refine A_bipush (v := -4) (q := 10) cx dX7_frames_8 (by decide) rfl ?_
  refine A_icmp_ne (tgt := 17) (q := 13) cx dX7_frames_10 (by decide) rfl (fun c_10 => ?_) (fun c_10 => ?_)
  · obtain ⟨a, b, ha, hb, -, -, hz⟩ := zPl_in hL hL6 c_10
    refine A_aload_n (q := 18) cx dX7_frames_17 rfl rfl rfl ?_
    refine gX7_3 (q := 21) cx wi_X7_frames_X7 wf_X7_frames_30 dX7_frames_18 rfl (in7 hX) rfl rfl ?_
    refine A_iload_n (q := 22) cx dX7_frames_21 rfl rfl ?_
    refine A_iaload (q := 23) cx dX7_frames_22 rfl (in91 hX) hz (by show _ < 12; omega) rfl ?_
    exact A_iret cx hlk hr hQ dX7_frames_23 (by unfold xFrames; first | (rw [if_pos c_10]; done) | (rw [if_neg c_10, hz, nI_clamp (by omega)]; done)) rfl
  · refine A_iconst (v := -1) (q := 14) cx dX7_frames_13 (by decide) rfl ?_
    refine A_goto (q := 23) cx dX7_frames_14 (by decide) ?_
    exact A_iret cx hlk hr hQ dX7_frames_23 (by unfold xFrames; first | (rw [if_pos c_10]; done) | (rw [if_neg c_10, hz, nI_clamp (by omega)]; done)) rfl
theorem wi_X7_frame_X7 : ∀ w ∈ u_ws RX7 TX7 6, w ∈ wsX7_frame := by decide +kernel
theorem wf_X7_frame_19 : Cond.fieldLink RX7 19 (TX7 1).1 (TX7 1).2.1 (TX7 1).2.2.1 ∈ wsX7_frame := by decide +kernel
theorem wi_X7_frame_X1 : ∀ w ∈ u_ws RX1 TX1 2, w ∈ wsX7_frame := by decide +kernel
theorem wf_X7_frame_170 : Cond.fieldLink RX7 170 (TX1 1).1 (TX1 1).2.1 (TX1 1).2.2.1 ∈ wsX7_frame := by decide +kernel
theorem wf_X7_frame_165 : Cond.fieldLink RX7 165 (TX1 0).1 (TX1 0).2.1 (TX1 0).2.2.1 ∈ wsX7_frame := by decide +kernel
theorem wi_X7_frame_X5 : ∀ w ∈ u_ws RX5 TX5 11, w ∈ wsX7_frame := by decide +kernel
theorem wf_X7_frame_183 : Cond.fieldLink RX7 183 (TX5 7).1 (TX5 7).2.1 (TX5 7).2.2.1 ∈ wsX7_frame := by decide +kernel
theorem wf_X7_frame_30 : Cond.fieldLink RX7 30 (TX7 3).1 (TX7 3).2.1 (TX7 3).2.2.1 ∈ wsX7_frame := by decide +kernel
set_option maxHeartbeats 1000000 in
set_option maxRecDepth 100000 in
theorem ct_X7_frame {la : Launch} {E : Ev} (hE : okE E) (hX : xin E) {σ : Sg} {x y : Int32} {L : Nat} (hL : σ (4, 0, 0, 0) 2 = nI L) (hL6 : L ≤ 6) : CI la yX7_frame wsX7_frame 2 44 E rh0 [.ref (ad E (7, 0, 0, 0)), .int x, .int y] σ (xFrame σ x y).1 (xFrame σ x y).2 := by
  refine met_of (lv := [some _, some _, some _, none, none, none]) RX7 (by decide) rfl rfl rfl hE (ok3 rfl rfl rfl) (Nat.le_of_ble_eq_true rfl) (fun p ev s m args below meth c Q cx hlk hr hQ => ?_)
  rcases hp : nFlow 0 x y with _ | k
  · refine A_aload_n (q := 1) cx dX7_frame_0 rfl rfl rfl ?_
    refine gX7_1 (q := 4) cx wi_X7_frame_X7 wf_X7_frame_19 dX7_frame_1 rfl (in7 hX) rfl rfl ?_
    refine A_iload_n (q := 5) cx dX7_frame_4 rfl rfl ?_
    refine A_iload_n (q := 6) cx dX7_frame_5 rfl rfl ?_
    refine VQ2 (q := 9) cx (ct_X4_flowOf hE hX) (cwV 2 cx.1.2.2.2.2 gX7_frame_X4_flowOf rfl rfl rfl (by decide +kernel) ⟨Nat.le_of_ble_eq_true rfl, Nat.le_of_ble_eq_true rfl⟩) dX7_frame_6 rfl rfl (in4 hX (by omega)) rfl (Nat.le_of_ble_eq_true rfl) ⟨Nat.zero_le _, Nat.zero_le _⟩ rfl ?_
    simp only [hp, Option.map_some, Option.map_none, rv_some, rv_none]
    refine A_astore_n (lv' := [some _, some _, some _, some _, none, none]) (q := 10) cx dX7_frame_9 (Nat.le_of_ble_eq_true rfl) rfl rfl rfl ?_
    refine A_aload_n (q := 11) cx dX7_frame_10 rfl rfl rfl ?_
    refine A_ifnonnull_N (q := 14) cx dX7_frame_11 rfl ?_
    refine A_iconst (v := -1) (q := 15) cx dX7_frame_14 (by decide) rfl ?_
    exact A_iret cx hlk hr hQ dX7_frame_15 (by unfold xFrame; rw [hp]) (by unfold xFrame; rw [hp])
  · obtain ⟨e, j, he, hj, rfl, he2, hj8⟩ := nFlow_inv hp
    rcases hq : nPort σ 0 x (σ (1, 0, e, j) 0) with _ | r
    · skip
      refine A_aload_n (q := 1) cx dX7_frame_0 rfl rfl rfl ?_
      refine gX7_1 (q := 4) cx wi_X7_frame_X7 wf_X7_frame_19 dX7_frame_1 rfl (in7 hX) rfl rfl ?_
      refine A_iload_n (q := 5) cx dX7_frame_4 rfl rfl ?_
      refine A_iload_n (q := 6) cx dX7_frame_5 rfl rfl ?_
      refine VQ2 (q := 9) cx (ct_X4_flowOf hE hX) (cwV 2 cx.1.2.2.2.2 gX7_frame_X4_flowOf rfl rfl rfl (by decide +kernel) ⟨Nat.le_of_ble_eq_true rfl, Nat.le_of_ble_eq_true rfl⟩) dX7_frame_6 rfl rfl (in4 hX (by omega)) rfl (Nat.le_of_ble_eq_true rfl) ⟨Nat.zero_le _, Nat.zero_le _⟩ rfl ?_
      simp only [hp, Option.map_some, Option.map_none, rv_some, rv_none]
      refine A_astore_n (lv' := [some _, some _, some _, some _, none, none]) (q := 10) cx dX7_frame_9 (Nat.le_of_ble_eq_true rfl) rfl rfl rfl ?_
      refine A_aload_n (q := 11) cx dX7_frame_10 rfl rfl rfl ?_
      refine A_ifnonnull_R (tgt := 16) cx dX7_frame_11 (by decide) ?_
      refine A_aload_n (q := 17) cx dX7_frame_16 rfl rfl rfl ?_
      refine gX1_1 (q := 20) cx wi_X7_frame_X1 wf_X7_frame_170 dX7_frame_17 rfl (in1 hX (by omega)) rfl ?_
      refine A_if_le (tgt := 26) (q := 23) cx dX7_frame_20 (by decide) rfl (fun c_20 => ?_) (fun c_20 => ?_)
      · refine A_aload_n (q := 27) cx dX7_frame_26 rfl rfl rfl ?_
        refine gX7_1 (q := 30) cx wi_X7_frame_X7 wf_X7_frame_19 dX7_frame_27 rfl (in7 hX) rfl rfl ?_
        refine A_iload_n (q := 31) cx dX7_frame_30 rfl rfl ?_
        refine A_aload_n (q := 32) cx dX7_frame_31 rfl rfl rfl ?_
        refine gX1_0 (q := 35) cx wi_X7_frame_X1 wf_X7_frame_165 dX7_frame_32 rfl (in1 hX (by omega)) rfl ?_
        refine VQ2 (q := 38) cx (ct_X4_portOf hE hX) (cwV 2 cx.1.2.2.2.2 gX7_frame_X4_portOf rfl rfl rfl (by decide +kernel) ⟨Nat.le_of_ble_eq_true rfl, Nat.le_of_ble_eq_true rfl⟩) dX7_frame_35 rfl rfl (in4 hX (by omega)) rfl (Nat.le_of_ble_eq_true rfl) ⟨Nat.zero_le _, Nat.zero_le _⟩ rfl ?_
        simp only [hq, Option.map_some, Option.map_none, rv_some, rv_none]
        refine A_astore (lv' := [some _, some _, some _, some _, some _, none]) (q := 40) cx dX7_frame_38 (Nat.le_of_ble_eq_true rfl) rfl rfl rfl ?_
        refine A_aload_n (q := 41) cx dX7_frame_40 rfl rfl rfl ?_
        refine A_iload_n (q := 42) cx dX7_frame_41 rfl rfl ?_
        refine A_aload_n (q := 43) cx dX7_frame_42 rfl rfl rfl ?_
        refine gX1_0 (q := 46) cx wi_X7_frame_X1 wf_X7_frame_165 dX7_frame_43 rfl (in1 hX (by omega)) rfl ?_
        refine VI2 (q := 49) cx (ct_X7_placeOfFrames hE hX) (cwV 2 cx.1.2.2.2.2 gX7_frame_X7_placeOfFrames rfl rfl rfl (by decide +kernel) ⟨Nat.le_of_ble_eq_true rfl, Nat.le_of_ble_eq_true rfl⟩) dX7_frame_46 rfl rfl (in7 hX) rfl (Nat.le_of_ble_eq_true rfl) ⟨Nat.zero_le _, Nat.zero_le _⟩ rfl ?_
        refine A_istore (lv' := [some _, some _, some _, some _, some _, some _]) (q := 51) cx dX7_frame_49 (Nat.le_of_ble_eq_true rfl) rfl rfl ?_
        refine A_aload (q := 53) cx dX7_frame_51 rfl rfl rfl ?_
        refine A_ifnull_N (tgt := 72) cx dX7_frame_53 (by decide) ?_
        refine A_bipush (v := -4) (q := 74) cx dX7_frame_72 (by decide) rfl ?_
        exact A_iret cx hlk hr hQ dX7_frame_74 (by unfold xFrame; rw [hp]; (try dsimp only); first | (rw [if_neg c_20]; done) | (rw [if_pos c_20, hq]; done) | (rw [if_pos c_20, hq]; (try dsimp only); first | (rw [if_neg c_62]; done) | (rw [if_pos c_62]; (try dsimp only); first | (rw [if_pos c_69]; done) | (rw [if_neg c_69, hz, nI_clamp (by omega)]; done) | (rw [if_neg c_69]; rfl)))) (by unfold xFrame; rw [hp]; (try dsimp only); first | (rw [if_neg c_20]; done) | (rw [if_pos c_20, hq]; done) | (rw [if_pos c_20, hq]; (try dsimp only); first | (rw [if_neg c_62]; done) | (rw [if_pos c_62]; (try dsimp only); first | (rw [if_pos c_69]; done) | (rw [if_neg c_69, hz, nI_clamp (by omega)]; done) | (rw [if_neg c_69]; rfl))))
      · refine A_bipush (v := -2) (q := 25) cx dX7_frame_23 (by decide) rfl ?_
        exact A_iret cx hlk hr hQ dX7_frame_25 (by unfold xFrame; rw [hp]; (try dsimp only); first | (rw [if_neg c_20]; done) | (rw [if_pos c_20, hq]; done) | (rw [if_pos c_20, hq]; (try dsimp only); first | (rw [if_neg c_62]; done) | (rw [if_pos c_62]; (try dsimp only); first | (rw [if_pos c_69]; done) | (rw [if_neg c_69, hz, nI_clamp (by omega)]; done) | (rw [if_neg c_69]; rfl)))) (by unfold xFrame; rw [hp]; (try dsimp only); first | (rw [if_neg c_20]; done) | (rw [if_pos c_20, hq]; done) | (rw [if_pos c_20, hq]; (try dsimp only); first | (rw [if_neg c_62]; done) | (rw [if_pos c_62]; (try dsimp only); first | (rw [if_pos c_69]; done) | (rw [if_neg c_69, hz, nI_clamp (by omega)]; done) | (rw [if_neg c_69]; rfl))))
    · obtain ⟨e3, j3, he3, hy3, hj3, rfl, he32, hj36⟩ := nPort_inv hq
      refine A_aload_n (q := 1) cx dX7_frame_0 rfl rfl rfl ?_
      refine gX7_1 (q := 4) cx wi_X7_frame_X7 wf_X7_frame_19 dX7_frame_1 rfl (in7 hX) rfl rfl ?_
      refine A_iload_n (q := 5) cx dX7_frame_4 rfl rfl ?_
      refine A_iload_n (q := 6) cx dX7_frame_5 rfl rfl ?_
      refine VQ2 (q := 9) cx (ct_X4_flowOf hE hX) (cwV 2 cx.1.2.2.2.2 gX7_frame_X4_flowOf rfl rfl rfl (by decide +kernel) ⟨Nat.le_of_ble_eq_true rfl, Nat.le_of_ble_eq_true rfl⟩) dX7_frame_6 rfl rfl (in4 hX (by omega)) rfl (Nat.le_of_ble_eq_true rfl) ⟨Nat.zero_le _, Nat.zero_le _⟩ rfl ?_
      simp only [hp, Option.map_some, Option.map_none, rv_some, rv_none]
      refine A_astore_n (lv' := [some _, some _, some _, some _, none, none]) (q := 10) cx dX7_frame_9 (Nat.le_of_ble_eq_true rfl) rfl rfl rfl ?_
      refine A_aload_n (q := 11) cx dX7_frame_10 rfl rfl rfl ?_
      refine A_ifnonnull_R (tgt := 16) cx dX7_frame_11 (by decide) ?_
      refine A_aload_n (q := 17) cx dX7_frame_16 rfl rfl rfl ?_
      refine gX1_1 (q := 20) cx wi_X7_frame_X1 wf_X7_frame_170 dX7_frame_17 rfl (in1 hX (by omega)) rfl ?_
      refine A_if_le (tgt := 26) (q := 23) cx dX7_frame_20 (by decide) rfl (fun c_20 => ?_) (fun c_20 => ?_)
      · refine A_aload_n (q := 27) cx dX7_frame_26 rfl rfl rfl ?_
        refine gX7_1 (q := 30) cx wi_X7_frame_X7 wf_X7_frame_19 dX7_frame_27 rfl (in7 hX) rfl rfl ?_
        refine A_iload_n (q := 31) cx dX7_frame_30 rfl rfl ?_
        refine A_aload_n (q := 32) cx dX7_frame_31 rfl rfl rfl ?_
        refine gX1_0 (q := 35) cx wi_X7_frame_X1 wf_X7_frame_165 dX7_frame_32 rfl (in1 hX (by omega)) rfl ?_
        refine VQ2 (q := 38) cx (ct_X4_portOf hE hX) (cwV 2 cx.1.2.2.2.2 gX7_frame_X4_portOf rfl rfl rfl (by decide +kernel) ⟨Nat.le_of_ble_eq_true rfl, Nat.le_of_ble_eq_true rfl⟩) dX7_frame_35 rfl rfl (in4 hX (by omega)) rfl (Nat.le_of_ble_eq_true rfl) ⟨Nat.zero_le _, Nat.zero_le _⟩ rfl ?_
        simp only [hq, Option.map_some, Option.map_none, rv_some, rv_none]
        refine A_astore (lv' := [some _, some _, some _, some _, some _, none]) (q := 40) cx dX7_frame_38 (Nat.le_of_ble_eq_true rfl) rfl rfl rfl ?_
        refine A_aload_n (q := 41) cx dX7_frame_40 rfl rfl rfl ?_
        refine A_iload_n (q := 42) cx dX7_frame_41 rfl rfl ?_
        refine A_aload_n (q := 43) cx dX7_frame_42 rfl rfl rfl ?_
        refine gX1_0 (q := 46) cx wi_X7_frame_X1 wf_X7_frame_165 dX7_frame_43 rfl (in1 hX (by omega)) rfl ?_
        refine VI2 (q := 49) cx (ct_X7_placeOfFrames hE hX) (cwV 2 cx.1.2.2.2.2 gX7_frame_X7_placeOfFrames rfl rfl rfl (by decide +kernel) ⟨Nat.le_of_ble_eq_true rfl, Nat.le_of_ble_eq_true rfl⟩) dX7_frame_46 rfl rfl (in7 hX) rfl (Nat.le_of_ble_eq_true rfl) ⟨Nat.zero_le _, Nat.zero_le _⟩ rfl ?_
        refine A_istore (lv' := [some _, some _, some _, some _, some _, some _]) (q := 51) cx dX7_frame_49 (Nat.le_of_ble_eq_true rfl) rfl rfl ?_
        refine A_aload (q := 53) cx dX7_frame_51 rfl rfl rfl ?_
        refine A_ifnull_R (q := 56) cx dX7_frame_53 rfl ?_
        refine A_aload (q := 58) cx dX7_frame_56 rfl rfl rfl ?_
        refine gX5_7 (q := 61) cx wi_X7_frame_X5 wf_X7_frame_183 dX7_frame_58 rfl (in5 hX (by omega)) rfl ?_
        refine A_iconst (v := 5) (q := 62) cx dX7_frame_61 (by decide) rfl ?_
        refine A_icmp_ne (tgt := 72) (q := 65) cx dX7_frame_62 (by decide) rfl (fun c_62 => ?_) (fun c_62 => ?_)
        · refine A_bipush (v := -4) (q := 74) cx dX7_frame_72 (by decide) rfl ?_
          exact A_iret cx hlk hr hQ dX7_frame_74 (by unfold xFrame; rw [hp]; (try dsimp only); first | (rw [if_neg c_20]; done) | (rw [if_pos c_20, hq]; done) | (rw [if_pos c_20, hq]; (try dsimp only); first | (rw [if_neg c_62]; done) | (rw [if_pos c_62]; (try dsimp only); first | (rw [if_pos c_69]; done) | (rw [if_neg c_69, hz, nI_clamp (by omega)]; done) | (rw [if_neg c_69]; rfl)))) (by unfold xFrame; rw [hp]; (try dsimp only); first | (rw [if_neg c_20]; done) | (rw [if_pos c_20, hq]; done) | (rw [if_pos c_20, hq]; (try dsimp only); first | (rw [if_neg c_62]; done) | (rw [if_pos c_62]; (try dsimp only); first | (rw [if_pos c_69]; done) | (rw [if_neg c_69, hz, nI_clamp (by omega)]; done) | (rw [if_neg c_69]; rfl))))
        · refine A_iload (q := 67) cx dX7_frame_65 rfl rfl ?_
          refine A_bipush (v := -4) (q := 69) cx dX7_frame_67 (by decide) rfl ?_
          refine A_icmp_ne (tgt := 75) (q := 72) cx dX7_frame_69 (by decide) rfl (fun c_69 => ?_) (fun c_69 => ?_)
          · obtain ⟨a, b, ha, hb, -, -, hz⟩ := zPl_in hL hL6 c_69
            refine A_aload_n (q := 76) cx dX7_frame_75 rfl rfl rfl ?_
            refine gX7_3 (q := 79) cx wi_X7_frame_X7 wf_X7_frame_30 dX7_frame_76 rfl (in7 hX) rfl rfl ?_
            refine A_iload (q := 81) cx dX7_frame_79 rfl rfl ?_
            refine A_dup2 (q := 82) cx dX7_frame_81 rfl rfl rfl ?_
            refine A_iaload (q := 83) cx dX7_frame_82 rfl (in91 hX) hz (by show _ < 12; omega) rfl ?_
            refine A_iconst (v := 1) (q := 84) cx dX7_frame_83 (by decide) rfl ?_
            refine A_iadd (q := 85) cx dX7_frame_84 rfl ?_
            refine A_iastore (q := 86) cx dX7_frame_85 rfl (in91 hX) hz (by show _ < 12; omega) rfl ?_
            refine A_aload_n (q := 87) cx dX7_frame_86 rfl rfl rfl ?_
            refine gX1_0 (q := 90) cx wi_X7_frame_X1 wf_X7_frame_165 dX7_frame_87 rfl (in1 hX (by omega)) rfl ?_
            exact A_iret cx hlk hr hQ dX7_frame_90 (by unfold xFrame; rw [hp]; (try dsimp only); first | (rw [if_neg c_20]; done) | (rw [if_pos c_20, hq]; done) | (rw [if_pos c_20, hq]; (try dsimp only); first | (rw [if_neg c_62]; done) | (rw [if_pos c_62]; (try dsimp only); first | (rw [if_pos c_69]; done) | (rw [if_neg c_69, hz, nI_clamp (by omega)]; done) | (rw [if_neg c_69]; rfl)))) (by unfold xFrame; rw [hp]; (try dsimp only); first | (rw [if_neg c_20]; done) | (rw [if_pos c_20, hq]; done) | (rw [if_pos c_20, hq]; (try dsimp only); first | (rw [if_neg c_62]; done) | (rw [if_pos c_62]; (try dsimp only); first | (rw [if_pos c_69]; done) | (rw [if_neg c_69, hz, nI_clamp (by omega)]; done) | (rw [if_neg c_69]; rfl))))
          · refine A_bipush (v := -4) (q := 74) cx dX7_frame_72 (by decide) rfl ?_
            exact A_iret cx hlk hr hQ dX7_frame_74 (by unfold xFrame; rw [hp]; (try dsimp only); first | (rw [if_neg c_20]; done) | (rw [if_pos c_20, hq]; done) | (rw [if_pos c_20, hq]; (try dsimp only); first | (rw [if_neg c_62]; done) | (rw [if_pos c_62]; (try dsimp only); first | (rw [if_pos c_69]; done) | (rw [if_neg c_69, hz, nI_clamp (by omega)]; done) | (rw [if_neg c_69]; rfl)))) (by unfold xFrame; rw [hp]; (try dsimp only); first | (rw [if_neg c_20]; done) | (rw [if_pos c_20, hq]; done) | (rw [if_pos c_20, hq]; (try dsimp only); first | (rw [if_neg c_62]; done) | (rw [if_pos c_62]; (try dsimp only); first | (rw [if_pos c_69]; done) | (rw [if_neg c_69, hz, nI_clamp (by omega)]; done) | (rw [if_neg c_69]; rfl))))
      · refine A_bipush (v := -2) (q := 25) cx dX7_frame_23 (by decide) rfl ?_
        exact A_iret cx hlk hr hQ dX7_frame_25 (by unfold xFrame; rw [hp]; (try dsimp only); first | (rw [if_neg c_20]; done) | (rw [if_pos c_20, hq]; done) | (rw [if_pos c_20, hq]; (try dsimp only); first | (rw [if_neg c_62]; done) | (rw [if_pos c_62]; (try dsimp only); first | (rw [if_pos c_69]; done) | (rw [if_neg c_69, hz, nI_clamp (by omega)]; done) | (rw [if_neg c_69]; rfl)))) (by unfold xFrame; rw [hp]; (try dsimp only); first | (rw [if_neg c_20]; done) | (rw [if_pos c_20, hq]; done) | (rw [if_pos c_20, hq]; (try dsimp only); first | (rw [if_neg c_62]; done) | (rw [if_pos c_62]; (try dsimp only); first | (rw [if_pos c_69]; done) | (rw [if_neg c_69, hz, nI_clamp (by omega)]; done) | (rw [if_neg c_69]; rfl))))
theorem wi_X7_settled_X7 : ∀ w ∈ u_ws RX7 TX7 6, w ∈ wsX7_settled := by decide +kernel
theorem wf_X7_settled_34 : Cond.fieldLink RX7 34 (TX7 4).1 (TX7 4).2.1 (TX7 4).2.2.1 ∈ wsX7_settled := by decide +kernel
theorem wf_X7_settled_37 : Cond.fieldLink RX7 37 (TX7 5).1 (TX7 5).2.1 (TX7 5).2.2.1 ∈ wsX7_settled := by decide +kernel
theorem wf_X7_settled_19 : Cond.fieldLink RX7 19 (TX7 1).1 (TX7 1).2.1 (TX7 1).2.2.1 ∈ wsX7_settled := by decide +kernel
set_option maxHeartbeats 1000000 in
set_option maxRecDepth 100000 in
theorem ct_X7_settled {la : Launch} {E : Ev} (hE : okE E) (hX : xin E) {σ0 : Sg}  : CI la yX7_settled wsX7_settled 5 115 E rh0 [.ref (ad E (7, 0, 0, 0))] σ0 (xSettled σ0).1 (xSettled σ0).2 := by
  refine met_of (lv := [some _, none, none]) RX7 (by decide) rfl rfl rfl hE (ok1 rfl) (Nat.le_of_ble_eq_true rfl) (fun p ev s m args below meth c Q cx hlk hr hQ => ?_)
  have l1 : ∀ (d i : Nat) (σ : Sg) (sn : Int32), i + d = 47 → xSetR d i sn σ = xSettled σ0 → AW p la ev (rmm 5 115) s m args below meth c 0 0 Q (AL E) E rh0 26 [some (.ref (ad E (7, 0, 0, 0))), some (.int sn), some (.int (nI i))] [] σ := by
    intro d
    induction d with
    | zero =>
      intro i σ sn hi hF
      obtain rfl : i = 47 := by omega
      refine A_iload_n (q := 27) cx dX7_settled_26 rfl rfl ?_
      refine A_bipush (v := 46) (q := 29) cx dX7_settled_27 (by decide) rfl ?_
      refine A_icmp_gt (tgt := 85) (q := 32) cx dX7_settled_29 (by decide) rfl (fun c_29 => ?_) (fun c_29 => ?_)
      · refine A_bipush (v := -4) (q := 87) cx dX7_settled_85 (by decide) rfl ?_
        exact A_iret cx hlk hr hQ dX7_settled_87 (by rw [← hF, xSetR]) (by rw [← hF, xSetR])
      · exact absurd (by decide) c_29
    | succ d ih =>
      intro i σ sn hi hF
      refine A_iload_n (q := 27) cx dX7_settled_26 rfl rfl ?_
      refine A_bipush (v := 46) (q := 29) cx dX7_settled_27 (by decide) rfl ?_
      refine A_icmp_gt (tgt := 85) (q := 32) cx dX7_settled_29 (by decide) rfl (fun c_29 => ?_) (fun c_29 => ?_)
      · exact absurd c_29 (by exact Int32.not_lt.mpr (nI_le (a := i) (b := 46) (by omega) (by decide)))
      · refine A_aload_n (q := 33) cx dX7_settled_32 rfl rfl rfl ?_
        refine gX7_4 (q := 36) cx wi_X7_settled_X7 wf_X7_settled_34 dX7_settled_33 rfl (in7 hX) rfl rfl ?_
        refine VV0 (q := 39) cx (ct_X4_step hE hX) (cwV 0 cx.1.2.2.2.2 gX7_settled_X4_step rfl rfl rfl (by decide +kernel) ⟨Nat.le_of_ble_eq_true rfl, Nat.le_of_ble_eq_true rfl⟩) dX7_settled_36 rfl rfl (in4 hX (by omega)) rfl (Nat.le_of_ble_eq_true rfl) ⟨Nat.zero_le _, Nat.zero_le _⟩ rfl ?_
        refine A_aload_n (q := 40) cx dX7_settled_39 rfl rfl rfl ?_
        refine gX7_4 (q := 43) cx wi_X7_settled_X7 wf_X7_settled_34 dX7_settled_40 rfl (in7 hX) rfl rfl ?_
        refine A_aload_n (q := 44) cx dX7_settled_43 rfl rfl rfl ?_
        refine gX7_5 (q := 47) cx wi_X7_settled_X7 wf_X7_settled_37 dX7_settled_44 rfl (in7 hX) rfl rfl ?_
        refine VI1 (q := 50) cx (ct_X4_looksLike hE hX) (cwV 1 cx.1.2.2.2.2 gX7_settled_X4_looksLike rfl rfl rfl (by decide +kernel) ⟨Nat.le_of_ble_eq_true rfl, Nat.le_of_ble_eq_true rfl⟩) dX7_settled_47 rfl rfl (in4 hX (by omega)) rfl (Nat.le_of_ble_eq_true rfl) ⟨Nat.zero_le _, Nat.zero_le _⟩ rfl ?_
        refine A_if_ne (tgt := 69) (q := 53) cx dX7_settled_50 (by decide) rfl (fun c_50 => ?_) (fun c_50 => ?_)
        · refine A_iload_n (q := 70) cx dX7_settled_69 rfl rfl ?_
          refine A_iload_n (q := 71) cx dX7_settled_70 rfl rfl ?_
          refine A_isub (q := 72) cx dX7_settled_71 rfl ?_
          refine A_bipush (v := 6) (q := 74) cx dX7_settled_72 (by decide) rfl ?_
          refine A_icmp_lt (tgt := 79) (q := 77) cx dX7_settled_74 (by decide) rfl (fun c_74 => ?_) (fun c_74 => ?_)
          · refine A_iinc (lv' := [some _, some _, some _]) (q := 82) cx dX7_settled_79 rfl (nI_1 i) rfl rfl ?_
            refine A_goto (q := 26) cx dX7_settled_82 (by decide) ?_
            exact ih (i + 1) _ _ (by omega) (by first | rw [← hF, xSetR, if_pos c_50] | rw [← hF, xSetR, if_neg c_50, if_pos c_74])
          · refine A_iload_n (q := 78) cx dX7_settled_77 rfl rfl ?_
            exact A_iret cx hlk hr hQ dX7_settled_78 (by rw [← hF, xSetR, if_neg c_50, if_neg c_74]) (by rw [← hF, xSetR, if_neg c_50, if_neg c_74])
        · refine A_aload_n (q := 54) cx dX7_settled_53 rfl rfl rfl ?_
          refine gX7_5 (q := 57) cx wi_X7_settled_X7 wf_X7_settled_37 dX7_settled_54 rfl (in7 hX) rfl rfl ?_
          refine A_aload_n (q := 58) cx dX7_settled_57 rfl rfl rfl ?_
          refine gX7_4 (q := 61) cx wi_X7_settled_X7 wf_X7_settled_34 dX7_settled_58 rfl (in7 hX) rfl rfl ?_
          refine VV1 (q := 64) cx (ct_X4_copyFrom hE hX) (cwV 1 cx.1.2.2.2.2 gX7_settled_X4_copyFrom rfl rfl rfl (by decide +kernel) ⟨Nat.le_of_ble_eq_true rfl, Nat.le_of_ble_eq_true rfl⟩) dX7_settled_61 rfl rfl (in4 hX (by omega)) rfl (Nat.le_of_ble_eq_true rfl) ⟨Nat.zero_le _, Nat.zero_le _⟩ rfl ?_
          refine A_iload_n (q := 65) cx dX7_settled_64 rfl rfl ?_
          refine A_istore_n (lv' := [some _, some _, some _]) (q := 66) cx dX7_settled_65 (Nat.le_of_ble_eq_true rfl) rfl rfl ?_
          refine A_goto (q := 79) cx dX7_settled_66 (by decide) ?_
          refine A_iinc (lv' := [some _, some _, some _]) (q := 82) cx dX7_settled_79 rfl (nI_1 i) rfl rfl ?_
          refine A_goto (q := 26) cx dX7_settled_82 (by decide) ?_
          exact ih (i + 1) _ _ (by omega) (by first | rw [← hF, xSetR, if_pos c_50] | rw [← hF, xSetR, if_neg c_50, if_pos c_74])
  refine A_aload_n (q := 1) cx dX7_settled_0 rfl rfl rfl ?_
  refine gX7_4 (q := 4) cx wi_X7_settled_X7 wf_X7_settled_34 dX7_settled_1 rfl (in7 hX) rfl rfl ?_
  refine A_aload_n (q := 5) cx dX7_settled_4 rfl rfl rfl ?_
  refine gX7_1 (q := 8) cx wi_X7_settled_X7 wf_X7_settled_19 dX7_settled_5 rfl (in7 hX) rfl rfl ?_
  refine VV1 (q := 11) cx (ct_X4_copyFrom hE hX) (cwV 1 cx.1.2.2.2.2 gX7_settled_X4_copyFrom rfl rfl rfl (by decide +kernel) ⟨Nat.le_of_ble_eq_true rfl, Nat.le_of_ble_eq_true rfl⟩) dX7_settled_8 rfl rfl (in4 hX (by omega)) rfl (Nat.le_of_ble_eq_true rfl) ⟨Nat.zero_le _, Nat.zero_le _⟩ rfl ?_
  refine A_aload_n (q := 12) cx dX7_settled_11 rfl rfl rfl ?_
  refine gX7_5 (q := 15) cx wi_X7_settled_X7 wf_X7_settled_37 dX7_settled_12 rfl (in7 hX) rfl rfl ?_
  refine A_aload_n (q := 16) cx dX7_settled_15 rfl rfl rfl ?_
  refine gX7_1 (q := 19) cx wi_X7_settled_X7 wf_X7_settled_19 dX7_settled_16 rfl (in7 hX) rfl rfl ?_
  refine VV1 (q := 22) cx (ct_X4_copyFrom hE hX) (cwV 1 cx.1.2.2.2.2 gX7_settled_X4_copyFrom rfl rfl rfl (by decide +kernel) ⟨Nat.le_of_ble_eq_true rfl, Nat.le_of_ble_eq_true rfl⟩) dX7_settled_19 rfl rfl (in4 hX (by omega)) rfl (Nat.le_of_ble_eq_true rfl) ⟨Nat.zero_le _, Nat.zero_le _⟩ rfl ?_
  refine A_iconst (v := 0) (q := 23) cx dX7_settled_22 (by decide) rfl ?_
  refine A_istore_n (lv' := [some _, some _, none]) (q := 24) cx dX7_settled_23 (Nat.le_of_ble_eq_true rfl) rfl rfl ?_
  refine A_iconst (v := 1) (q := 25) cx dX7_settled_24 (by decide) rfl ?_
  refine A_istore_n (lv' := [some _, some _, some _]) (q := 26) cx dX7_settled_25 (Nat.le_of_ble_eq_true rfl) rfl rfl ?_
  exact l1 46 1 _ _ rfl rfl
theorem wi_X7_count_X7 : ∀ w ∈ u_ws RX7 TX7 6, w ∈ wsX7_count := by decide +kernel
theorem wf_X7_count_19 : Cond.fieldLink RX7 19 (TX7 1).1 (TX7 1).2.1 (TX7 1).2.2.1 ∈ wsX7_count := by decide +kernel
theorem wi_X7_count_X4 : ∀ w ∈ u_ws RX4 TX4 7, w ∈ wsX7_count := by decide +kernel
theorem wf_X7_count_75 : Cond.fieldLink RX7 75 (TX4 2).1 (TX4 2).2.1 (TX4 2).2.2.1 ∈ wsX7_count := by decide +kernel
theorem wf_X7_count_99 : Cond.fieldLink RX7 99 (TX4 0).1 (TX4 0).2.1 (TX4 0).2.2.1 ∈ wsX7_count := by decide +kernel
theorem wf_X7_count_193 : Cond.fieldLink RX7 193 (TX4 4).1 (TX4 4).2.1 (TX4 4).2.2.1 ∈ wsX7_count := by decide +kernel
theorem wf_X7_count_196 : Cond.fieldLink RX7 196 (TX4 5).1 (TX4 5).2.1 (TX4 5).2.2.1 ∈ wsX7_count := by decide +kernel
theorem wf_X7_count_138 : Cond.fieldLink RX7 138 (TX4 6).1 (TX4 6).2.1 (TX4 6).2.2.1 ∈ wsX7_count := by decide +kernel
theorem wf_X7_count_26 : Cond.fieldLink RX7 26 (TX7 2).1 (TX7 2).2.1 (TX7 2).2.2.1 ∈ wsX7_count := by decide +kernel
theorem wi_X7_count_X2 : ∀ w ∈ u_ws RX2 TX2 3, w ∈ wsX7_count := by decide +kernel
theorem wf_X7_count_154 : Cond.fieldLink RX7 154 (TX2 2).1 (TX2 2).2.1 (TX2 2).2.2.1 ∈ wsX7_count := by decide +kernel
theorem wf_X7_count_10 : Cond.fieldLink RX7 10 (TX7 0).1 (TX7 0).2.1 (TX7 0).2.2.1 ∈ wsX7_count := by decide +kernel
theorem wi_X7_count_X6 : ∀ w ∈ u_ws RX6 TX6 2, w ∈ wsX7_count := by decide +kernel
theorem wf_X7_count_63 : Cond.fieldLink RX7 63 (TX6 1).1 (TX6 1).2.1 (TX6 1).2.2.1 ∈ wsX7_count := by decide +kernel
set_option maxHeartbeats 1000000 in
set_option maxRecDepth 100000 in
theorem ct_X7_count {la : Launch} {E : Ev} (hE : okE E) (hX : xin E) {σ : Sg} {w : Int32} : CI la yX7_count wsX7_count 1 25 E rh0 [.ref (ad E (7, 0, 0, 0)), .int w] σ (xCount σ w) σ := by
  refine met_of (lv := [some _, some _]) RX7 (by decide) rfl rfl rfl hE (ok2 rfl rfl) (Nat.le_of_ble_eq_true rfl) (fun p ev s m args below meth c Q cx hlk hr hQ => ?_)
  refine A_iload_n (q := 1) cx dX7_count_0 rfl rfl ?_
  by_cases s_1_0 : w = 0
  · refine A_tableIn (tgt := 56) cx dX7_count_1 (by rw [s_1_0]; decide) (by rw [s_1_0]; decide) (by rw [s_1_0]; rfl) (by decide) ?_
    refine A_aload_n (q := 57) cx dX7_count_56 rfl rfl rfl ?_
    refine gX7_1 (q := 60) cx wi_X7_count_X7 wf_X7_count_19 dX7_count_57 rfl (in7 hX) rfl rfl ?_
    refine gX4_2 (q := 63) cx wi_X7_count_X4 wf_X7_count_75 dX7_count_60 rfl (in4 hX (by omega)) rfl ?_
    exact A_iret cx hlk hr hQ dX7_count_63 (by first | (simp only [xCount, *, if_true, if_false, ite_true, ite_false, true_or, or_true, false_or, or_false, and_true, true_and, and_false, false_and, and_self, or_self, not_true_eq_false, not_false_eq_true, ne_eq, reduceIte, decide_true, decide_false, Bool.and_true, Bool.true_and, Bool.and_false, Bool.false_and]; done) | (simp [xCount, *]; done) | (simp_all [xCount]; done)) rfl
  by_cases s_1_1 : w = 1
  · refine A_tableIn (tgt := 64) cx dX7_count_1 (by rw [s_1_1]; decide) (by rw [s_1_1]; decide) (by rw [s_1_1]; rfl) (by decide) ?_
    refine A_aload_n (q := 65) cx dX7_count_64 rfl rfl rfl ?_
    refine gX7_1 (q := 68) cx wi_X7_count_X7 wf_X7_count_19 dX7_count_65 rfl (in7 hX) rfl rfl ?_
    refine gX4_0 (q := 71) cx wi_X7_count_X4 wf_X7_count_99 dX7_count_68 rfl (in4 hX (by omega)) rfl rfl ?_
    refine VI0 (q := 74) cx (ct_X0_howManyUp hE hX) (cwV 0 cx.1.2.2.2.2 gX7_count_X0_howManyUp rfl rfl rfl (by decide +kernel) ⟨Nat.le_of_ble_eq_true rfl, Nat.le_of_ble_eq_true rfl⟩) dX7_count_71 rfl rfl (in0 hX (by omega)) rfl (Nat.le_of_ble_eq_true rfl) ⟨Nat.zero_le _, Nat.zero_le _⟩ rfl ?_
    exact A_iret cx hlk hr hQ dX7_count_74 (by first | (simp only [xCount, *, if_true, if_false, ite_true, ite_false, true_or, or_true, false_or, or_false, and_true, true_and, and_false, false_and, and_self, or_self, not_true_eq_false, not_false_eq_true, ne_eq, reduceIte, decide_true, decide_false, Bool.and_true, Bool.true_and, Bool.and_false, Bool.false_and]; done) | (simp [xCount, *]; done) | (simp_all [xCount]; done)) rfl
  by_cases s_1_2 : w = 2
  · refine A_tableIn (tgt := 75) cx dX7_count_1 (by rw [s_1_2]; decide) (by rw [s_1_2]; decide) (by rw [s_1_2]; rfl) (by decide) ?_
    refine A_aload_n (q := 76) cx dX7_count_75 rfl rfl rfl ?_
    refine gX7_1 (q := 79) cx wi_X7_count_X7 wf_X7_count_19 dX7_count_76 rfl (in7 hX) rfl rfl ?_
    refine A_iconst (v := 0) (q := 80) cx dX7_count_79 (by decide) rfl ?_
    refine VI1 (q := 83) cx (ct_X4_setting hE hX) (cwV 1 cx.1.2.2.2.2 gX7_count_X4_setting rfl rfl rfl (by decide +kernel) ⟨Nat.le_of_ble_eq_true rfl, Nat.le_of_ble_eq_true rfl⟩) dX7_count_80 rfl rfl (in4 hX (by omega)) rfl (Nat.le_of_ble_eq_true rfl) ⟨Nat.zero_le _, Nat.zero_le _⟩ rfl ?_
    exact A_iret cx hlk hr hQ dX7_count_83 (by first | (simp only [xCount, *, if_true, if_false, ite_true, ite_false, true_or, or_true, false_or, or_false, and_true, true_and, and_false, false_and, and_self, or_self, not_true_eq_false, not_false_eq_true, ne_eq, reduceIte, decide_true, decide_false, Bool.and_true, Bool.true_and, Bool.and_false, Bool.false_and]; done) | (simp [xCount, *]; done) | (simp_all [xCount]; done)) rfl
  by_cases s_1_3 : w = 3
  · refine A_tableIn (tgt := 84) cx dX7_count_1 (by rw [s_1_3]; decide) (by rw [s_1_3]; decide) (by rw [s_1_3]; rfl) (by decide) ?_
    refine A_aload_n (q := 85) cx dX7_count_84 rfl rfl rfl ?_
    refine gX7_1 (q := 88) cx wi_X7_count_X7 wf_X7_count_19 dX7_count_85 rfl (in7 hX) rfl rfl ?_
    refine A_iconst (v := 1) (q := 89) cx dX7_count_88 (by decide) rfl ?_
    refine VI1 (q := 92) cx (ct_X4_setting hE hX) (cwV 1 cx.1.2.2.2.2 gX7_count_X4_setting rfl rfl rfl (by decide +kernel) ⟨Nat.le_of_ble_eq_true rfl, Nat.le_of_ble_eq_true rfl⟩) dX7_count_89 rfl rfl (in4 hX (by omega)) rfl (Nat.le_of_ble_eq_true rfl) ⟨Nat.zero_le _, Nat.zero_le _⟩ rfl ?_
    exact A_iret cx hlk hr hQ dX7_count_92 (by first | (simp only [xCount, *, if_true, if_false, ite_true, ite_false, true_or, or_true, false_or, or_false, and_true, true_and, and_false, false_and, and_self, or_self, not_true_eq_false, not_false_eq_true, ne_eq, reduceIte, decide_true, decide_false, Bool.and_true, Bool.true_and, Bool.and_false, Bool.false_and]; done) | (simp [xCount, *]; done) | (simp_all [xCount]; done)) rfl
  by_cases s_1_4 : w = 4
  · refine A_tableIn (tgt := 93) cx dX7_count_1 (by rw [s_1_4]; decide) (by rw [s_1_4]; decide) (by rw [s_1_4]; rfl) (by decide) ?_
    refine A_aload_n (q := 94) cx dX7_count_93 rfl rfl rfl ?_
    refine gX7_1 (q := 97) cx wi_X7_count_X7 wf_X7_count_19 dX7_count_94 rfl (in7 hX) rfl rfl ?_
    refine A_iconst (v := 2) (q := 98) cx dX7_count_97 (by decide) rfl ?_
    refine VI1 (q := 101) cx (ct_X4_setting hE hX) (cwV 1 cx.1.2.2.2.2 gX7_count_X4_setting rfl rfl rfl (by decide +kernel) ⟨Nat.le_of_ble_eq_true rfl, Nat.le_of_ble_eq_true rfl⟩) dX7_count_98 rfl rfl (in4 hX (by omega)) rfl (Nat.le_of_ble_eq_true rfl) ⟨Nat.zero_le _, Nat.zero_le _⟩ rfl ?_
    exact A_iret cx hlk hr hQ dX7_count_101 (by first | (simp only [xCount, *, if_true, if_false, ite_true, ite_false, true_or, or_true, false_or, or_false, and_true, true_and, and_false, false_and, and_self, or_self, not_true_eq_false, not_false_eq_true, ne_eq, reduceIte, decide_true, decide_false, Bool.and_true, Bool.true_and, Bool.and_false, Bool.false_and]; done) | (simp [xCount, *]; done) | (simp_all [xCount]; done)) rfl
  by_cases s_1_5 : w = 5
  · refine A_tableIn (tgt := 102) cx dX7_count_1 (by rw [s_1_5]; decide) (by rw [s_1_5]; decide) (by rw [s_1_5]; rfl) (by decide) ?_
    refine A_aload_n (q := 103) cx dX7_count_102 rfl rfl rfl ?_
    refine gX7_1 (q := 106) cx wi_X7_count_X7 wf_X7_count_19 dX7_count_103 rfl (in7 hX) rfl rfl ?_
    refine gX4_4 (q := 109) cx wi_X7_count_X4 wf_X7_count_193 dX7_count_106 rfl (in4 hX (by omega)) rfl ?_
    exact A_iret cx hlk hr hQ dX7_count_109 (by first | (simp only [xCount, *, if_true, if_false, ite_true, ite_false, true_or, or_true, false_or, or_false, and_true, true_and, and_false, false_and, and_self, or_self, not_true_eq_false, not_false_eq_true, ne_eq, reduceIte, decide_true, decide_false, Bool.and_true, Bool.true_and, Bool.and_false, Bool.false_and]; done) | (simp [xCount, *]; done) | (simp_all [xCount]; done)) rfl
  by_cases s_1_6 : w = 6
  · refine A_tableIn (tgt := 110) cx dX7_count_1 (by rw [s_1_6]; decide) (by rw [s_1_6]; decide) (by rw [s_1_6]; rfl) (by decide) ?_
    refine A_aload_n (q := 111) cx dX7_count_110 rfl rfl rfl ?_
    refine gX7_1 (q := 114) cx wi_X7_count_X7 wf_X7_count_19 dX7_count_111 rfl (in7 hX) rfl rfl ?_
    refine gX4_5 (q := 117) cx wi_X7_count_X4 wf_X7_count_196 dX7_count_114 rfl (in4 hX (by omega)) rfl ?_
    exact A_iret cx hlk hr hQ dX7_count_117 (by first | (simp only [xCount, *, if_true, if_false, ite_true, ite_false, true_or, or_true, false_or, or_false, and_true, true_and, and_false, false_and, and_self, or_self, not_true_eq_false, not_false_eq_true, ne_eq, reduceIte, decide_true, decide_false, Bool.and_true, Bool.true_and, Bool.and_false, Bool.false_and]; done) | (simp [xCount, *]; done) | (simp_all [xCount]; done)) rfl
  by_cases s_1_7 : w = 7
  · refine A_tableIn (tgt := 118) cx dX7_count_1 (by rw [s_1_7]; decide) (by rw [s_1_7]; decide) (by rw [s_1_7]; rfl) (by decide) ?_
    refine A_aload_n (q := 119) cx dX7_count_118 rfl rfl rfl ?_
    refine gX7_1 (q := 122) cx wi_X7_count_X7 wf_X7_count_19 dX7_count_119 rfl (in7 hX) rfl rfl ?_
    refine gX4_6 (q := 125) cx wi_X7_count_X4 wf_X7_count_138 dX7_count_122 rfl (in4 hX (by omega)) rfl ?_
    exact A_iret cx hlk hr hQ dX7_count_125 (by first | (simp only [xCount, *, if_true, if_false, ite_true, ite_false, true_or, or_true, false_or, or_false, and_true, true_and, and_false, false_and, and_self, or_self, not_true_eq_false, not_false_eq_true, ne_eq, reduceIte, decide_true, decide_false, Bool.and_true, Bool.true_and, Bool.and_false, Bool.false_and]; done) | (simp [xCount, *]; done) | (simp_all [xCount]; done)) rfl
  by_cases s_1_8 : w = 8
  · refine A_tableIn (tgt := 126) cx dX7_count_1 (by rw [s_1_8]; decide) (by rw [s_1_8]; decide) (by rw [s_1_8]; rfl) (by decide) ?_
    refine A_aload_n (q := 127) cx dX7_count_126 rfl rfl rfl ?_
    refine gX7_2 (q := 130) cx wi_X7_count_X7 wf_X7_count_26 dX7_count_127 rfl (in7 hX) rfl rfl ?_
    refine gX2_2 (q := 133) cx wi_X7_count_X2 wf_X7_count_154 dX7_count_130 rfl (in2 hX) rfl ?_
    exact A_iret cx hlk hr hQ dX7_count_133 (by first | (simp only [xCount, *, if_true, if_false, ite_true, ite_false, true_or, or_true, false_or, or_false, and_true, true_and, and_false, false_and, and_self, or_self, not_true_eq_false, not_false_eq_true, ne_eq, reduceIte, decide_true, decide_false, Bool.and_true, Bool.true_and, Bool.and_false, Bool.false_and]; done) | (simp [xCount, *]; done) | (simp_all [xCount]; done)) rfl
  by_cases s_1_9 : w = 9
  · refine A_tableIn (tgt := 134) cx dX7_count_1 (by rw [s_1_9]; decide) (by rw [s_1_9]; decide) (by rw [s_1_9]; rfl) (by decide) ?_
    refine A_aload_n (q := 135) cx dX7_count_134 rfl rfl rfl ?_
    refine gX7_0 (q := 138) cx wi_X7_count_X7 wf_X7_count_10 dX7_count_135 rfl (in7 hX) rfl rfl ?_
    refine gX6_1 (q := 141) cx wi_X7_count_X6 wf_X7_count_63 dX7_count_138 rfl (in6 hX) rfl ?_
    exact A_iret cx hlk hr hQ dX7_count_141 (by first | (simp only [xCount, *, if_true, if_false, ite_true, ite_false, true_or, or_true, false_or, or_false, and_true, true_and, and_false, false_and, and_self, or_self, not_true_eq_false, not_false_eq_true, ne_eq, reduceIte, decide_true, decide_false, Bool.and_true, Bool.true_and, Bool.and_false, Bool.false_and]; done) | (simp [xCount, *]; done) | (simp_all [xCount]; done)) rfl
  refine A_tableOut (tgt := 142) cx dX7_count_1 (by have n_0 := lv_neT s_1_0 (a := 0) rfl; have n_1 := lv_neT s_1_1 (a := 1) rfl; have n_2 := lv_neT s_1_2 (a := 2) rfl; have n_3 := lv_neT s_1_3 (a := 3) rfl; have n_4 := lv_neT s_1_4 (a := 4) rfl; have n_5 := lv_neT s_1_5 (a := 5) rfl; have n_6 := lv_neT s_1_6 (a := 6) rfl; have n_7 := lv_neT s_1_7 (a := 7) rfl; have n_8 := lv_neT s_1_8 (a := 8) rfl; have n_9 := lv_neT s_1_9 (a := 9) rfl; omega) (by decide) ?_
  refine A_iconst (v := -1) (q := 143) cx dX7_count_142 (by decide) rfl ?_
  exact A_iret cx hlk hr hQ dX7_count_143 (by first | (simp only [xCount, *, if_true, if_false, ite_true, ite_false, true_or, or_true, false_or, or_false, and_true, true_and, and_false, false_and, and_self, or_self, not_true_eq_false, not_false_eq_true, ne_eq, reduceIte, decide_true, decide_false, Bool.and_true, Bool.true_and, Bool.and_false, Bool.false_and]; done) | (simp [xCount, *]; done) | (simp_all [xCount]; done)) rfl
