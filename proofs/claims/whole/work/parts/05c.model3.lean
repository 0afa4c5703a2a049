/-! WHAT THE REFERENCE'S METHODS DO: part 3, changes and looks. -/
abbrev kPast : Ky := (9, 4, 0, 0)
abbrev kKept : Ky := (9, 3, 0, 0)
abbrev kSeen : Ky := (9, 11, 0, 0)
abbrev cl (x : Int32) : Nat := x.toNatClampNeg
def mShR : Nat → Nat → Sg → Sg
  | 0, _, σ => σ
  | d + 1, k, σ => mShR d (k + 1) (up2 σ kPast k (σ kPast (k + 235)))
def mSvR (u : Nat) : Nat → Nat → Sg → Sg
  | 0, _, σ => σ
  | d + 1, k, σ => mSvR u d (k + 1) (up2 σ kPast (235 * u + k) (σ kNow k))
def mKeep0 (σ : Sg) : Sg := up2 (mShR 1175 0 σ) kM 6 (mShR 1175 0 σ kM 6 - 1)
def mKeep1 (σ : Sg) (u : Nat) : Sg := up2 (mSvR u 235 0 σ) kM 6 (mSvR u 235 0 σ kM 6 + 1)
def mKeep (σ : Sg) (u : Nat) : Sg := if u = 6 then mKeep1 (mKeep0 σ) 5 else mKeep1 σ u
/-- what keeps() leaves: all but past and undos -/
def kag (σ σ' : Sg) : Prop := ∀ k j, k ≠ kPast → ¬ (k = kM ∧ j = 6) → σ' k j = σ k j
theorem kag_sh {σ : Sg} : ∀ (d k : Nat) {σ' : Sg}, kag σ σ' → kag σ (mShR d k σ')
  | 0, _, _, h => h
  | d + 1, k, _, h => kag_sh d (k + 1) (fun q j h1 h2 => by rw [up2_nk _ _ _ _ h1]; exact h q j h1 h2)
theorem kag_sv {σ : Sg} {u : Nat} : ∀ (d k : Nat) {σ' : Sg}, kag σ σ' → kag σ (mSvR u d k σ')
  | 0, _, _, h => h
  | d + 1, k, _, h => kag_sv d (k + 1) (fun q j h1 h2 => by rw [up2_nk _ _ _ _ h1]; exact h q j h1 h2)
theorem kag_u {σ σ' : Sg} {v : Int32} (h : kag σ σ') : kag σ (up2 σ' kM 6 v) := fun q j h1 h2 => by
  have : up2 σ' kM 6 v q j = σ' q j := by unfold up2; rw [if_neg h2]
  rw [this]; exact h q j h1 h2
theorem kag_keep (σ : Sg) (u : Nat) : kag σ (mKeep σ u) := by
  have r : kag σ σ := fun _ _ _ _ => rfl
  unfold mKeep
  split
  · exact kag_u (kag_sv 235 0 (kag_u (kag_sh 1175 0 r)))
  · exact kag_u (kag_sv 235 0 r)
theorem keep_now (σ : Sg) (u : Nat) : mKeep σ u kNow = σ kNow := by funext j; exact kag_keep σ u kNow j (by decide) (fun h => absurd h.1 (by decide))
theorem keep_L (σ : Sg) (u : Nat) : mKeep σ u kM 0 = σ kM 0 := kag_keep σ u kM 0 (by decide) (fun h => absurd h.2 (by decide))
def mUp (σ : Sg) (L : Nat) : Int32 := cnt (fun i => σ kNow (4 + i)) L 0 0
def mMut (σ : Sg) (e L : Nat) : Int32 := cnt (fun i => σ kNow (pl e i + 2)) L 0 0
theorem mWi_in {x : Int32} {L : Nat} (hL : L < 2 ^ 31) (h : ¬ mWi x 0 (nI L - 1) = 0) : ∃ j, j < L ∧ x = nI j := by
  unfold mWi at h
  by_cases h1 : x < 0
  · rw [if_pos h1] at h; exact absurd rfl h
  rw [if_neg h1] at h
  by_cases h2 : nI L - 1 < x
  · rw [if_pos h2] at h; exact absurd rfl h
  obtain ⟨j, hj, rfl⟩ := nI_of h1
  refine ⟨j, ?_, rfl⟩
  rcases Nat.lt_or_ge j L with q | q
  · exact q
  · exfalso
    apply h2
    cases L with
    | zero =>
      refine Int32.lt_iff_toInt_lt.mpr ?_
      rw [nI_toInt hj, show (nI 0 - 1 : Int32).toInt = -1 from by decide]
      omega
    | succ L =>
      rw [nI_pred]
      exact nI_lt (by omega) hj
theorem mWi_in2 {x : Int32} {L : Nat} {y : Int32} (hy : y = nI L) (hL : L < 2 ^ 31) (h : ¬ mWi x 0 (y - 1) = 0) : ∃ j, j < L ∧ x = nI j := by
  rw [hy] at h; exact mWi_in hL h
theorem mWi_at {x : Int32} (n : Nat) (hn : n + 1 < 2 ^ 31) (h : ¬ mWi x 0 (nI n) = 0) : ∃ j, j < n + 1 ∧ x = nI j := by
  rw [← nI_pred n] at h; exact mWi_in hn h
theorem zBit_in {x : Int32} (h : ¬ zBit x = 0) : ∃ a, a < 2 ∧ x = nI a := by
  unfold zBit at h
  by_cases h1 : x = 0
  · exact ⟨0, by decide, h1⟩
  · rw [if_neg h1] at h
    by_cases h2 : x = 1
    · exact ⟨1, by decide, h2⟩
    · rw [if_neg h2] at h; exact absurd rfl h
def mPlug (σ : Sg) (L u : Nat) (x v : Int32) : Int32 × Sg :=
  if mWi x 0 (σ kM 0 - 1) = 0 then (-1, σ) else if mWi v 0 1 = 0 then (-1, σ) else if σ kNow (4 + cl x) = v then (-2, σ)
  else (mUp (up2 (mKeep σ u) kNow (4 + cl x) v) L, up2 (mKeep σ u) kNow (4 + cl x) v)
def mMute (σ : Sg) (L u : Nat) (x y v : Int32) : Int32 × Sg :=
  if zBit x = 0 then (-1, σ) else if mWi y 0 (σ kM 0 - 1) = 0 then (-1, σ) else if mWi v 0 1 = 0 then (-1, σ) else if σ kNow (pl (cl x) (cl y) + 2) = v then (-2, σ)
  else (mMut (up2 (mKeep σ u) kNow (pl (cl x) (cl y) + 2) v) (cl x) L, up2 (mKeep σ u) kNow (pl (cl x) (cl y) + 2) v)
def mBcm (σ : Sg) (u j : Nat) (v : Int32) : Int32 × Sg := if σ kNow j = v then (-2, σ) else (σ kNow j, up2 (mKeep σ u) kNow j v)
def mTell (σ : Sg) (u : Nat) (x y w v : Int32) : Int32 × Sg :=
  if zBit x = 0 then (-1, σ) else if mWi y 0 (σ kM 0 - 1) = 0 then (-1, σ) else if mWi w 0 1 = 0 then (-1, σ) else if mWi v 0 9 = 0 then (-1, σ) else mBcm σ u (pl (cl x) (cl y) + cl w) v
def mSet (σ : Sg) (u : Nat) (w v : Int32) : Int32 × Sg :=
  if mWi w 0 2 = 0 then (-1, σ) else if mWi v (if w = 2 then 1 else 0) (if w = 2 then 6 else 9) = 0 then (-1, σ) else mBcm σ u (cl w) v
def mLdR (u : Nat) : Nat → Nat → Sg → Sg
  | 0, _, σ => σ
  | d + 1, k, σ => mLdR u d (k + 1) (up2 σ kNow k (σ kPast (235 * u + k)))
def mUndo1 (σ : Sg) (u : Nat) : Sg := mLdR (u - 1) 235 0 (up2 σ kM 6 (σ kM 6 - 1))
def mUndo (σ : Sg) (u : Nat) : Int32 × Sg := if σ kM 6 = 0 then (-2, σ) else (mUndo1 σ u kM 6, mUndo1 σ u)
def orS (f : Nat → Int32) : Nat → Nat → Int32 → Int32
  | 0, _, a => a
  | d + 1, i, a => orS f d (i + 1) (a ||| (if f i = 0 then (0 : Int32) else (1 : Int32) <<< (nI i &&& 31)))
def mSndSet (σ : Sg) (e L : Nat) : Int32 := orS (mSnd σ e) L 0 0
def mAgree (σ : Sg) (L : Nat) : Int32 := if mSndSet σ 0 L ≤ 0 then 0 else if mSndSet σ 0 L = mSndSet σ 1 L then 1 else 0
def mTs (L : Nat) : Nat → Sg → Sg
  | 0, σ => σ
  | d + 1, σ => mTs L d (mTicks σ L)
theorem mag_ts {σ : Sg} {L : Nat} : ∀ (d : Nat) {σ' : Sg}, mag σ σ' → mag σ (mTs L d σ')
  | 0, _, h => h
  | d + 1, _, h => mag_ts d (mag_ticks h)
def mTick (σ : Sg) (L u : Nat) (v : Int32) : Int32 × Sg :=
  if mWi v 1 40 = 0 then (-1, σ) else if σ kNow 3 + v ≤ 9999 then (mAgree (mTs L (cl v) (mKeep σ u)) L, mTs L (cl v) (mKeep σ u)) else (-2, σ)
def mTl (σ : Sg) (P : Nat) (w : Int32) : Int32 :=
  if w = 2 then σ kNow (P + 14) else if w = 3 then σ kNow (P + 8)
  else if w = 4 then (if σ kNow (P + 8) = -4 then -4 else σ kNow (P + 9 + cl w - 4)) else if w = 5 then (if σ kNow (P + 8) = -4 then -4 else σ kNow (P + 9 + cl w - 4))
  else if w = 6 then (if σ kNow (P + 8) = -4 then -4 else σ kNow (P + 9 + cl w - 4)) else if w = 7 then (if σ kNow (P + 8) = -4 then -4 else σ kNow (P + 9 + cl w - 4))
  else if w = 8 then σ kNow (P + 13) else if w = 9 then σ kNow (P + 15) else if w = 10 then σ kNow (P + 2) else σ kNow (P + cl w)
def mLink (σ : Sg) (x y w : Int32) : Int32 :=
  if zBit x = 0 then -1 else if mWi y 0 (σ kM 0 - 1) = 0 then -1 else if mWi w 0 10 = 0 then -1 else mTl σ (pl (cl x) (cl y)) w
def mBs (σ : Sg) (e : Nat) (w : Int32) (i : Nat) : Int32 := if w = 0 then (if σ kNow (pl e i + 8) = -4 then 0 else 1) else if w = 1 then (if σ kNow (pl e i + 13) = -4 then 0 else 1) else mSnd σ e i
def mBundle (σ : Sg) (L : Nat) (x w : Int32) : Int32 := if zBit x = 0 then -1 else if mWi w 0 2 = 0 then -1 else orS (mBs σ (cl x) w) L 0 0
def mFlow (σ : Sg) (L : Nat) (x y w : Int32) : Int32 :=
  if zBit x = 0 then -1 else if mWi y 0 7 = 0 then -1 else if mWi w 0 2 = 0 then -1 else if 2 ≤ w then mWant σ (cl x) L y else σ kNow (10 + 2 * (8 * cl x + cl y) + cl w)
def okF (σ : Sg) : Prop := ∀ e f, e < 2 → f < 8 → σ kNow (10 + 2 * (8 * e + f)) = -4 ∨ ∃ j, j < 6 ∧ σ kNow (10 + 2 * (8 * e + f)) = nI j
def mFrame (σ : Sg) (x y : Int32) : Int32 × Sg :=
  if zBit x = 0 then (-1, σ) else if mWi y 0 7 = 0 then (-1, σ) else if σ kNow (10 + 2 * (8 * cl x + cl y) + 1) ≤ 0 then
    (if σ kNow (10 + 2 * (8 * cl x + cl y)) = -4 then (-4, σ) else if mSnd σ (cl x) (cl (σ kNow (10 + 2 * (8 * cl x + cl y)))) = 0 then (-4, σ)
     else (σ kNow (10 + 2 * (8 * cl x + cl y)), up2 σ (9, 5, 0, 0) (6 * cl x + cl (σ kNow (10 + 2 * (8 * cl x + cl y)))) (σ (9, 5, 0, 0) (6 * cl x + cl (σ kNow (10 + 2 * (8 * cl x + cl y)))) + 1)))
  else (-2, σ)
def mFrames (σ : Sg) (x y : Int32) : Int32 := if zBit x = 0 then -1 else if mWi y 0 (σ kM 0 - 1) = 0 then -1 else σ (9, 5, 0, 0) (6 * cl x + cl y)
def mOs (σ : Sg) (js jn : Nat) (is : Int32) : Int32 := if is = 0 then (if σ kNow jn = σ kSeen js then 0 else 1) else 1
def mOt2 : Nat → Nat → Int32 → Sg → Int32 × Sg
  | 0, _, is, σ => (is, σ)
  | d + 1, k, is, σ => mOt2 d (k + 1) (mOs σ (12 + k) (10 + 2 * k) is) (up2 σ kSeen (12 + k) (σ kNow (10 + 2 * k)))
def mOt1 : Nat → Nat → Int32 → Sg → Int32 × Sg
  | 0, _, is, σ => mOt2 16 0 is σ
  | d + 1, k, is, σ => mOt1 d (k + 1) (mOs σ k (42 + 16 * k + 14) is) (up2 σ kSeen k (σ kNow (42 + 16 * k + 14)))
def mOther (σ : Sg) : Int32 × Sg := mOt1 12 0 0 σ
def mFewR (L : Nat) : Nat → Nat → Int32 → Sg → Int32 × Sg
  | 0, _, _, σ => (-4, σ)
  | d + 1, t, s, σ =>
    if nI t - (if (mOther (mTicks σ L)).1 = 0 then s else nI t) = 6 then (if (mOther (mTicks σ L)).1 = 0 then s else nI t, (mOther (mTicks σ L)).2)
    else mFewR L d (t + 1) (if (mOther (mTicks σ L)).1 = 0 then s else nI t) (mOther (mTicks σ L)).2
def mFew (σ : Sg) (L : Nat) : Int32 × Sg := mFewR L 46 1 0 (mOther σ).2
def mK1 : Nat → Nat → Sg → Sg
  | 0, _, σ => σ
  | d + 1, k, σ => mK1 d (k + 1) (up2 σ kKept k (σ kNow k))
def mK2 : Nat → Nat → Sg → Sg
  | 0, _, σ => σ
  | d + 1, k, σ => mK2 d (k + 1) (up2 σ kNow k (σ kKept k))
def mSettled (σ : Sg) (L : Nat) : Int32 × Sg := ((mFew (mK1 235 0 σ) L).1, mK2 235 0 (mFew (mK1 235 0 σ) L).2)
def mCount (σ : Sg) (L : Nat) (w : Int32) : Int32 := if w = 0 then σ kM 0 else if w = 1 then mUp σ L else if w = 2 then σ kNow 0 else if w = 3 then σ kNow 1 else if w = 4 then σ kNow 2
  else if w = 5 then σ kM 1 else if w = 6 then σ kM 2 else if w = 7 then σ kNow 3 else if w = 8 then σ kM 6 else if w = 9 then σ kM 9 else -1
theorem ot_M {k : Ky} (hk : k ≠ kSeen) : ∀ (d i : Nat) (is : Int32) (σ : Sg), (mOt1 d i is σ).2 k = σ k
  | 0, _, is, σ => by
    have h2 : ∀ (d i : Nat) (is : Int32) (σ : Sg), (mOt2 d i is σ).2 k = σ k := by
      intro d
      induction d with
      | zero => intro i is σ; rfl
      | succ d ih => intro i is σ; rw [mOt2, ih, up2_nk _ _ _ _ hk]
    exact h2 16 0 is σ
  | d + 1, i, is, σ => by rw [mOt1, ot_M hk d, up2_nk _ _ _ _ hk]
theorem k1_M {k : Ky} (hk : k ≠ kKept) : ∀ (d i : Nat) (σ : Sg), mK1 d i σ k = σ k
  | 0, _, _ => rfl
  | d + 1, i, σ => by rw [mK1, k1_M hk d, up2_nk _ _ _ _ hk]
theorem other_M {k : Ky} (hk : k ≠ kSeen) (σ : Sg) : (mOther σ).2 k = σ k := by unfold mOther; exact ot_M hk 12 0 0 σ
set_option maxRecDepth 10000 in
theorem few_M (L : Nat) : ∀ (d t : Nat) (s : Int32) (σ : Sg), (mFewR L d t s σ).2 kM = σ kM
  | 0, _, _, _ => by rw [mFewR]
  | d + 1, t, s, σ => by
    have h0 : (mOther (mTicks σ L)).2 kM = σ kM := (other_M (by decide) _).trans (mag_ticks (mag.rf σ) kM okM)
    rw [mFewR]
    generalize (if (mOther (mTicks σ L)).1 = 0 then s else nI t) = s'
    by_cases h : nI t - s' = 6
    · rw [if_pos h]; dsimp only; rw [h0]
    · rw [if_neg h, few_M L d, h0]
theorem wi_X8_keeps_X8 : ∀ w ∈ u_ws RX8 TX8 18, w ∈ wsX8_keeps := by decide +kernel
theorem wf_X8_keeps_96 : Cond.fieldLink RX8 96 (TX8 6).1 (TX8 6).2.1 (TX8 6).2.2.1 ∈ wsX8_keeps := by decide +kernel
theorem wf_X8_keeps_16 : Cond.fieldLink RX8 16 (TX8 5).1 (TX8 5).2.1 (TX8 5).2.2.1 ∈ wsX8_keeps := by decide +kernel
theorem wf_X8_keeps_7 : Cond.fieldLink RX8 7 (TX8 3).1 (TX8 3).2.1 (TX8 3).2.2.1 ∈ wsX8_keeps := by decide +kernel
set_option maxHeartbeats 1000000 in
set_option maxRecDepth 100000 in
theorem ct_X8_keeps {la : Launch} {E : Ev} (hE : okE E) (hX : yin E) {σ0 : Sg} {u : Nat} (hU : σ0 (8, 0, 0, 0) 6 = nI u) (hu : u ≤ 6) : CV la yX8_keeps wsX8_keeps 0 0 E rh0 [.ref (ad E (8, 0, 0, 0))] σ0 (mKeep σ0 u) := by
  refine met_of (lv := [some _, none]) RX8 (by decide) rfl rfl rfl hE (ok1 rfl) (Nat.le_of_ble_eq_true rfl) (fun p ev s m args below meth c Q cx hlk hr hQ => ?_)
  have l2 : ∀ (w : Nat), w < 6 → ∀ (d i : Nat) (σ : Sg), i + d = 235 → σ (8, 0, 0, 0) 6 = nI w → up2 (mSvR w d i σ) (8, 0, 0, 0) 6 (mSvR w d i σ (8, 0, 0, 0) 6 + 1) = mKeep σ0 u → AW p la ev (rmm 0 0) s m args below meth c 0 0 Q (AL E) E rh0 52 [some (.ref (ad E (8, 0, 0, 0))), some (.int (nI i))] [] σ := by
    intro w hw d
    induction d with
    | zero =>
      intro i σ hi hU2 hF
      obtain rfl : i = 235 := by omega
      refine A_iload_n (q := 53) cx dX8_keeps_52 rfl rfl ?_
      refine A_sipush (v := 235) (q := 56) cx dX8_keeps_53 (by decide) rfl ?_
      refine A_icmp_ge (tgt := 86) (q := 59) cx dX8_keeps_56 (by decide) rfl (fun c_56 => ?_) (fun c_56 => ?_)
      · refine A_aload_n (q := 87) cx dX8_keeps_86 rfl rfl rfl ?_
        refine A_dup (q := 88) cx dX8_keeps_87 rfl rfl ?_
        refine gX8_6 (q := 91) cx wi_X8_keeps_X8 wf_X8_keeps_96 dX8_keeps_88 rfl (in8 hX) rfl ?_
        refine A_iconst (v := 1) (q := 92) cx dX8_keeps_91 (by decide) rfl ?_
        refine A_iadd (q := 93) cx dX8_keeps_92 rfl ?_
        refine pX8_6 (q := 96) cx wi_X8_keeps_X8 wf_X8_keeps_96 dX8_keeps_93 rfl (in8 hX) rfl ?_
        exact A_vret cx hlk hr hQ dX8_keeps_96 hF
      · exact absurd (by decide) c_56
    | succ d ih =>
      intro i σ hi hU2 hF
      refine A_iload_n (q := 53) cx dX8_keeps_52 rfl rfl ?_
      refine A_sipush (v := 235) (q := 56) cx dX8_keeps_53 (by decide) rfl ?_
      refine A_icmp_ge (tgt := 86) (q := 59) cx dX8_keeps_56 (by decide) rfl (fun c_56 => ?_) (fun c_56 => ?_)
      · exact absurd c_56 (not_ge (i := i) (b := 235) (by omega) (by decide))
      · refine A_aload_n (q := 60) cx dX8_keeps_59 rfl rfl rfl ?_
        refine gX8_5 (q := 63) cx wi_X8_keeps_X8 wf_X8_keeps_16 dX8_keeps_60 rfl (in8 hX) rfl rfl ?_
        refine A_sipush (v := 235) (q := 66) cx dX8_keeps_63 (by decide) rfl ?_
        refine A_aload_n (q := 67) cx dX8_keeps_66 rfl rfl rfl ?_
        refine gX8_6 (q := 70) cx wi_X8_keeps_X8 wf_X8_keeps_96 dX8_keeps_67 rfl (in8 hX) rfl ?_
        refine A_imul (q := 71) cx dX8_keeps_70 rfl ?_
        refine A_iload_n (q := 72) cx dX8_keeps_71 rfl rfl ?_
        refine A_iadd (q := 73) cx dX8_keeps_72 rfl ?_
        refine A_aload_n (q := 74) cx dX8_keeps_73 rfl rfl rfl ?_
        refine gX8_3 (q := 77) cx wi_X8_keeps_X8 wf_X8_keeps_7 dX8_keeps_74 rfl (in8 hX) rfl rfl ?_
        refine A_iload_n (q := 78) cx dX8_keeps_77 rfl rfl ?_
        refine A_iaload (q := 79) cx dX8_keeps_78 rfl (in9 hX (by decide)) rfl (by show _ < 235; omega) rfl ?_
        refine A_iastore (q := 80) cx dX8_keeps_79 rfl (in9 hX (by decide)) (ixA (ixM (ixc 235) hU2) rfl) (by show _ < 1410; omega) rfl ?_
        refine A_iinc (lv' := [some _, some _]) (q := 83) cx dX8_keeps_80 rfl (nI_1 i) rfl rfl ?_
        refine A_goto (q := 52) cx dX8_keeps_83 (by decide) ?_
        exact ih (i + 1) _ (by omega) hU2 hF
  have l1 : ∀ (d i : Nat) (σ : Sg), i + d = 1175 → σ (8, 0, 0, 0) 6 = nI 6 → mKeep1 (up2 (mShR d i σ) (8, 0, 0, 0) 6 (mShR d i σ (8, 0, 0, 0) 6 - 1)) 5 = mKeep σ0 u → AW p la ev (rmm 0 0) s m args below meth c 0 0 Q (AL E) E rh0 11 [some (.ref (ad E (8, 0, 0, 0))), some (.int (nI i))] [] σ := by
    intro d
    induction d with
    | zero =>
      intro i σ hi hU2 hF
      obtain rfl : i = 1175 := by omega
      refine A_iload_n (q := 12) cx dX8_keeps_11 rfl rfl ?_
      refine A_sipush (v := 1175) (q := 15) cx dX8_keeps_12 (by decide) rfl ?_
      refine A_icmp_ge (tgt := 40) (q := 18) cx dX8_keeps_15 (by decide) rfl (fun c_15 => ?_) (fun c_15 => ?_)
      · refine A_aload_n (q := 41) cx dX8_keeps_40 rfl rfl rfl ?_
        refine A_dup (q := 42) cx dX8_keeps_41 rfl rfl ?_
        refine gX8_6 (q := 45) cx wi_X8_keeps_X8 wf_X8_keeps_96 dX8_keeps_42 rfl (in8 hX) rfl ?_
        refine A_iconst (v := 1) (q := 46) cx dX8_keeps_45 (by decide) rfl ?_
        refine A_isub (q := 47) cx dX8_keeps_46 rfl ?_
        refine pX8_6 (q := 50) cx wi_X8_keeps_X8 wf_X8_keeps_96 dX8_keeps_47 rfl (in8 hX) rfl ?_
        refine A_iconst (v := 0) (q := 51) cx dX8_keeps_50 (by decide) rfl ?_
        refine A_istore_n (lv' := [some _, some _]) (q := 52) cx dX8_keeps_51 (Nat.le_of_ble_eq_true rfl) rfl rfl ?_
        exact l2 5 (by decide) 235 0 _ rfl (by rw [up2_at, hU2]; rfl) hF
      · exact absurd (by decide) c_15
    | succ d ih =>
      intro i σ hi hU2 hF
      refine A_iload_n (q := 12) cx dX8_keeps_11 rfl rfl ?_
      refine A_sipush (v := 1175) (q := 15) cx dX8_keeps_12 (by decide) rfl ?_
      refine A_icmp_ge (tgt := 40) (q := 18) cx dX8_keeps_15 (by decide) rfl (fun c_15 => ?_) (fun c_15 => ?_)
      · exact absurd c_15 (not_ge (i := i) (b := 1175) (by omega) (by decide))
      · refine A_aload_n (q := 19) cx dX8_keeps_18 rfl rfl rfl ?_
        refine gX8_5 (q := 22) cx wi_X8_keeps_X8 wf_X8_keeps_16 dX8_keeps_19 rfl (in8 hX) rfl rfl ?_
        refine A_iload_n (q := 23) cx dX8_keeps_22 rfl rfl ?_
        refine A_aload_n (q := 24) cx dX8_keeps_23 rfl rfl rfl ?_
        refine gX8_5 (q := 27) cx wi_X8_keeps_X8 wf_X8_keeps_16 dX8_keeps_24 rfl (in8 hX) rfl rfl ?_
        refine A_iload_n (q := 28) cx dX8_keeps_27 rfl rfl ?_
        refine A_sipush (v := 235) (q := 31) cx dX8_keeps_28 (by decide) rfl ?_
        refine A_iadd (q := 32) cx dX8_keeps_31 rfl ?_
        refine A_iaload (q := 33) cx dX8_keeps_32 rfl (in9 hX (by decide)) (ixA rfl (ixc 235)) (by show _ < 1410; omega) rfl ?_
        refine A_iastore (q := 34) cx dX8_keeps_33 rfl (in9 hX (by decide)) rfl (by show _ < 1410; omega) rfl ?_
        refine A_iinc (lv' := [some _, some _]) (q := 37) cx dX8_keeps_34 rfl (nI_1 i) rfl rfl ?_
        refine A_goto (q := 11) cx dX8_keeps_37 (by decide) ?_
        exact ih (i + 1) _ (by omega) hU2 hF
  refine A_aload_n (q := 1) cx dX8_keeps_0 rfl rfl rfl ?_
  refine gX8_6 (q := 4) cx wi_X8_keeps_X8 wf_X8_keeps_96 dX8_keeps_1 rfl (in8 hX) rfl ?_
  refine A_bipush (v := 6) (q := 6) cx dX8_keeps_4 (by decide) rfl ?_
  refine A_icmp_ne (tgt := 50) (q := 9) cx dX8_keeps_6 (by decide) rfl (fun c_6 => ?_) (fun c_6 => ?_)
  · have hu6 : u ≠ 6 := fun h => c_6 (by rw [hU, h]; rfl)
    refine A_iconst (v := 0) (q := 51) cx dX8_keeps_50 (by decide) rfl ?_
    refine A_istore_n (lv' := [some _, some _]) (q := 52) cx dX8_keeps_51 (Nat.le_of_ble_eq_true rfl) rfl rfl ?_
    exact l2 u (by omega) 235 0 _ rfl hU (by unfold mKeep; rw [if_neg hu6]; rfl)
  · have hu6 : u = 6 := (nI_eq (by omega) (by decide)).mp (hU.symm.trans c_6)
    refine A_iconst (v := 0) (q := 10) cx dX8_keeps_9 (by decide) rfl ?_
    refine A_istore_n (lv' := [some _, some _]) (q := 11) cx dX8_keeps_10 (Nat.le_of_ble_eq_true rfl) rfl rfl ?_
    exact l1 1175 0 _ rfl c_6 (by unfold mKeep; rw [if_pos hu6]; rfl)
theorem wi_X8_upMany_X8 : ∀ w ∈ u_ws RX8 TX8 18, w ∈ wsX8_upMany := by decide +kernel
theorem wf_X8_upMany_83 : Cond.fieldLink RX8 83 (TX8 0).1 (TX8 0).2.1 (TX8 0).2.2.1 ∈ wsX8_upMany := by decide +kernel
theorem wf_X8_upMany_7 : Cond.fieldLink RX8 7 (TX8 3).1 (TX8 3).2.1 (TX8 3).2.2.1 ∈ wsX8_upMany := by decide +kernel
set_option maxHeartbeats 1000000 in
set_option maxRecDepth 100000 in
theorem ct_X8_upMany {la : Launch} {E : Ev} (hE : okE E) (hX : yin E) {σ0 : Sg} {L : Nat} (hL : σ0 (8, 0, 0, 0) 0 = nI L) (hL6 : L ≤ 6) : CI la yX8_upMany wsX8_upMany 0 0 E rh0 [.ref (ad E (8, 0, 0, 0))] σ0 (mUp σ0 L) σ0 := by
  refine met_of (lv := [some _, none, none]) RX8 (by decide) rfl rfl rfl hE (ok1 rfl) (Nat.le_of_ble_eq_true rfl) (fun p ev s m args below meth c Q cx hlk hr hQ => ?_)
  have l1 : ∀ (d i : Nat) (a : Int32), i + d = L → cnt (fun i => σ0 (9, 2, 0, 0) (4 + i)) d i a = mUp σ0 L → AW p la ev (rmm 0 0) s m args below meth c 0 0 Q (AL E) E rh0 4 [some (.ref (ad E (8, 0, 0, 0))), some (.int a), some (.int (nI i))] [] σ0 := by
    intro d
    induction d with
    | zero =>
      intro i a hi hF
      refine A_iload_n (q := 5) cx dX8_upMany_4 rfl rfl ?_
      refine A_aload_n (q := 6) cx dX8_upMany_5 rfl rfl rfl ?_
      refine gX8_0 (q := 9) cx wi_X8_upMany_X8 wf_X8_upMany_83 dX8_upMany_6 rfl (in8 hX) rfl ?_
      refine A_icmp_ge (tgt := 29) (q := 12) cx dX8_upMany_9 (by decide) rfl (fun c_9 => ?_) (fun c_9 => ?_)
      · refine A_iload_n (q := 30) cx dX8_upMany_29 rfl rfl ?_
        exact A_iret cx hlk hr hQ dX8_upMany_30 hF rfl
      · exact absurd (lge hL (by omega) (by omega)) c_9
    | succ d ih =>
      intro i a hi hF
      refine A_iload_n (q := 5) cx dX8_upMany_4 rfl rfl ?_
      refine A_aload_n (q := 6) cx dX8_upMany_5 rfl rfl rfl ?_
      refine gX8_0 (q := 9) cx wi_X8_upMany_X8 wf_X8_upMany_83 dX8_upMany_6 rfl (in8 hX) rfl ?_
      refine A_icmp_ge (tgt := 29) (q := 12) cx dX8_upMany_9 (by decide) rfl (fun c_9 => ?_) (fun c_9 => ?_)
      · exact absurd c_9 (lnge hL (by omega) (by omega))
      · refine A_iload_n (q := 13) cx dX8_upMany_12 rfl rfl ?_
        refine A_aload_n (q := 14) cx dX8_upMany_13 rfl rfl rfl ?_
        refine gX8_3 (q := 17) cx wi_X8_upMany_X8 wf_X8_upMany_7 dX8_upMany_14 rfl (in8 hX) rfl rfl ?_
        refine A_iconst (v := 4) (q := 18) cx dX8_upMany_17 (by decide) rfl ?_
        refine A_iload_n (q := 19) cx dX8_upMany_18 rfl rfl ?_
        refine A_iadd (q := 20) cx dX8_upMany_19 rfl ?_
        refine A_iaload (q := 21) cx dX8_upMany_20 rfl (in9 hX (by decide)) (ixA (ixc 4) rfl) (by show _ < 235; omega) rfl ?_
        refine A_iadd (q := 22) cx dX8_upMany_21 rfl ?_
        refine A_istore_n (lv' := [some _, some _, some _]) (q := 23) cx dX8_upMany_22 (Nat.le_of_ble_eq_true rfl) rfl rfl ?_
        refine A_iinc (lv' := [some _, some _, some _]) (q := 26) cx dX8_upMany_23 rfl (nI_1 i) rfl rfl ?_
        refine A_goto (q := 4) cx dX8_upMany_26 (by decide) ?_
        exact ih (i + 1) _ (by omega) hF
  refine A_iconst (v := 0) (q := 1) cx dX8_upMany_0 (by decide) rfl ?_
  refine A_istore_n (lv' := [some _, some _, none]) (q := 2) cx dX8_upMany_1 (Nat.le_of_ble_eq_true rfl) rfl rfl ?_
  refine A_iconst (v := 0) (q := 3) cx dX8_upMany_2 (by decide) rfl ?_
  refine A_istore_n (lv' := [some _, some _, some _]) (q := 4) cx dX8_upMany_3 (Nat.le_of_ble_eq_true rfl) rfl rfl ?_
  exact l1 L 0 _ (by omega) rfl
theorem wi_X8_plug_X8 : ∀ w ∈ u_ws RX8 TX8 18, w ∈ wsX8_plug := by decide +kernel
theorem wf_X8_plug_7 : Cond.fieldLink RX8 7 (TX8 3).1 (TX8 3).2.1 (TX8 3).2.2.1 ∈ wsX8_plug := by decide +kernel
set_option maxHeartbeats 1000000 in
set_option maxRecDepth 100000 in
theorem ct_X8_plug {la : Launch} {E : Ev} (hE : okE E) (hX : yin E) {σ : Sg} {L u : Nat} {x v : Int32} (hL : σ (8, 0, 0, 0) 0 = nI L) (hL6 : L ≤ 6) (hU : σ (8, 0, 0, 0) 6 = nI u) (hu : u ≤ 6) : CI la yX8_plug wsX8_plug 2 43 E rh0 [.ref (ad E (8, 0, 0, 0)), .int x, .int v] σ (mPlug σ L u x v).1 (mPlug σ L u x v).2 := by
  refine met_of (lv := [some _, some _, some _]) RX8 (by decide) rfl rfl rfl hE (ok3 rfl rfl rfl) (Nat.le_of_ble_eq_true rfl) (fun p ev s m args below meth c Q cx hlk hr hQ => ?_)
  refine A_aload_n (q := 1) cx dX8_plug_0 rfl rfl rfl ?_
  refine A_iload_n (q := 2) cx dX8_plug_1 rfl rfl ?_
  refine VI1 (q := 5) cx (ct_X8_isLink hE hX) (cwV 1 cx.1.2.2.2.2 gX8_plug_X8_isLink rfl rfl rfl (by decide +kernel) ⟨Nat.le_of_ble_eq_true rfl, Nat.le_of_ble_eq_true rfl⟩) dX8_plug_2 rfl rfl (in8 hX) rfl (Nat.le_of_ble_eq_true rfl) ⟨Nat.zero_le _, Nat.zero_le _⟩ rfl ?_
  refine A_if_eq (tgt := 17) (q := 8) cx dX8_plug_5 (by decide) rfl (fun c_5 => ?_) (fun c_5 => ?_)
  · refine A_iconst (v := -1) (q := 18) cx dX8_plug_17 (by decide) rfl ?_
    exact A_iret cx hlk hr hQ dX8_plug_18 (by unfold mPlug; first | (rw [if_pos c_5]; done) | (simp only [cl, hcj]; rw [if_pos c_5]; done)) (by unfold mPlug; first | (rw [if_pos c_5]; done) | (simp only [cl, hcj]; rw [if_pos c_5]; done))
  · obtain ⟨j, hj, rfl⟩ := mWi_in2 hL (by omega) c_5
    have hcj : (nI j).toNatClampNeg = j := nI_clamp (by omega)
    refine A_iload_n (q := 9) cx dX8_plug_8 rfl rfl ?_
    refine A_iconst (v := 0) (q := 10) cx dX8_plug_9 (by decide) rfl ?_
    refine A_iconst (v := 1) (q := 11) cx dX8_plug_10 (by decide) rfl ?_
    refine SI3 (q := 14) cx (ct_X8_within hE hX) (cwS 3 cx.1.2.2.2.2 gX8_plug_X8_within rfl rfl rfl (by decide +kernel) ⟨Nat.le_of_ble_eq_true rfl, Nat.le_of_ble_eq_true rfl⟩) dX8_plug_11 rfl (Nat.le_of_ble_eq_true rfl) ⟨Nat.zero_le _, Nat.zero_le _⟩ rfl ?_
    refine A_if_ne (tgt := 19) (q := 17) cx dX8_plug_14 (by decide) rfl (fun c_14 => ?_) (fun c_14 => ?_)
    · refine A_aload_n (q := 20) cx dX8_plug_19 rfl rfl rfl ?_
      refine gX8_3 (q := 23) cx wi_X8_plug_X8 wf_X8_plug_7 dX8_plug_20 rfl (in8 hX) rfl rfl ?_
      refine A_iconst (v := 4) (q := 24) cx dX8_plug_23 (by decide) rfl ?_
      refine A_iload_n (q := 25) cx dX8_plug_24 rfl rfl ?_
      refine A_iadd (q := 26) cx dX8_plug_25 rfl ?_
      refine A_iaload (q := 27) cx dX8_plug_26 rfl (in9 hX (by decide)) (ixA (ixc 4) rfl) (by show _ < 235; omega) rfl ?_
      refine A_iload_n (q := 28) cx dX8_plug_27 rfl rfl ?_
      refine A_icmp_ne (tgt := 34) (q := 31) cx dX8_plug_28 (by decide) rfl (fun c_28 => ?_) (fun c_28 => ?_)
      · refine A_aload_n (q := 35) cx dX8_plug_34 rfl rfl rfl ?_
        refine VV0 (q := 38) cx (ct_X8_keeps hE hX hU hu) (cwV 0 cx.1.2.2.2.2 gX8_plug_X8_keeps rfl rfl rfl (by decide +kernel) ⟨Nat.le_of_ble_eq_true rfl, Nat.le_of_ble_eq_true rfl⟩) dX8_plug_35 rfl rfl (in8 hX) rfl (Nat.le_of_ble_eq_true rfl) ⟨Nat.zero_le _, Nat.zero_le _⟩ rfl ?_
        refine A_aload_n (q := 39) cx dX8_plug_38 rfl rfl rfl ?_
        refine gX8_3 (q := 42) cx wi_X8_plug_X8 wf_X8_plug_7 dX8_plug_39 rfl (in8 hX) rfl rfl ?_
        refine A_iconst (v := 4) (q := 43) cx dX8_plug_42 (by decide) rfl ?_
        refine A_iload_n (q := 44) cx dX8_plug_43 rfl rfl ?_
        refine A_iadd (q := 45) cx dX8_plug_44 rfl ?_
        refine A_iload_n (q := 46) cx dX8_plug_45 rfl rfl ?_
        refine A_iastore (q := 47) cx dX8_plug_46 rfl (in9 hX (by decide)) (ixA (ixc 4) rfl) (by show _ < 235; omega) rfl ?_
        refine A_aload_n (q := 48) cx dX8_plug_47 rfl rfl rfl ?_
        refine VI0 (q := 51) cx (ct_X8_upMany hE hX (by show up2 _ _ _ _ _ _ = _; rw [up2_nk _ _ _ _ (by decide), keep_L]; exact hL) hL6) (cwV 0 cx.1.2.2.2.2 gX8_plug_X8_upMany rfl rfl rfl (by decide +kernel) ⟨Nat.le_of_ble_eq_true rfl, Nat.le_of_ble_eq_true rfl⟩) dX8_plug_48 rfl rfl (in8 hX) rfl (Nat.le_of_ble_eq_true rfl) ⟨Nat.zero_le _, Nat.zero_le _⟩ rfl ?_
        exact A_iret cx hlk hr hQ dX8_plug_51 (by unfold mPlug; first | (rw [if_neg c_5, if_neg c_14, if_neg c_28]; done) | (simp only [cl, hcj]; rw [if_neg c_5, if_neg c_14, if_neg c_28]; done)) (by unfold mPlug; first | (rw [if_neg c_5, if_neg c_14, if_neg c_28]; done) | (simp only [cl, hcj]; rw [if_neg c_5, if_neg c_14, if_neg c_28]; done))
      · refine A_bipush (v := -2) (q := 33) cx dX8_plug_31 (by decide) rfl ?_
        exact A_iret cx hlk hr hQ dX8_plug_33 (by unfold mPlug; first | (rw [if_neg c_5, if_neg c_14, if_pos c_28]; done) | (simp only [cl, hcj]; rw [if_neg c_5, if_neg c_14, if_pos c_28]; done)) (by unfold mPlug; first | (rw [if_neg c_5, if_neg c_14, if_pos c_28]; done) | (simp only [cl, hcj]; rw [if_neg c_5, if_neg c_14, if_pos c_28]; done))
    · refine A_iconst (v := -1) (q := 18) cx dX8_plug_17 (by decide) rfl ?_
      exact A_iret cx hlk hr hQ dX8_plug_18 (by unfold mPlug; first | (rw [if_neg c_5, if_pos c_14]; done) | (simp only [cl, hcj]; rw [if_neg c_5, if_pos c_14]; done)) (by unfold mPlug; first | (rw [if_neg c_5, if_pos c_14]; done) | (simp only [cl, hcj]; rw [if_neg c_5, if_pos c_14]; done))
theorem wi_X8_mute_X8 : ∀ w ∈ u_ws RX8 TX8 18, w ∈ wsX8_mute := by decide +kernel
theorem wf_X8_mute_83 : Cond.fieldLink RX8 83 (TX8 0).1 (TX8 0).2.1 (TX8 0).2.2.1 ∈ wsX8_mute := by decide +kernel
theorem wf_X8_mute_7 : Cond.fieldLink RX8 7 (TX8 3).1 (TX8 3).2.1 (TX8 3).2.2.1 ∈ wsX8_mute := by decide +kernel
set_option maxHeartbeats 1000000 in
set_option maxRecDepth 100000 in
theorem ct_X8_mute {la : Launch} {E : Ev} (hE : okE E) (hX : yin E) {σ0 : Sg} {L u : Nat} {x y v : Int32} (hL : σ0 (8, 0, 0, 0) 0 = nI L) (hL6 : L ≤ 6) (hU : σ0 (8, 0, 0, 0) 6 = nI u) (hu : u ≤ 6) : CI la yX8_mute wsX8_mute 2 43 E rh0 [.ref (ad E (8, 0, 0, 0)), .int x, .int y, .int v] σ0 (mMute σ0 L u x y v).1 (mMute σ0 L u x y v).2 := by
  refine met_of (lv := [some _, some _, some _, some _, none, none]) RX8 (by decide) rfl rfl rfl hE (ok4 rfl rfl rfl rfl) (Nat.le_of_ble_eq_true rfl) (fun p ev s m args below meth c Q cx hlk hr hQ => ?_)
  have l1 : ∀ (a : Nat), a < 2 → ∀ (y : Int32) (σ : Sg), σ (8, 0, 0, 0) 0 = nI L → ∀ (Q : State → Prop), Q = MQ below (QI E rh0 (mMute σ0 L u (nI a) y v).1 (mMute σ0 L u (nI a) y v).2) args s 0 0 (AL E) → ∀ (d i : Nat) (acc : Int32), i + d = L → (cnt (fun i => σ (9, 2, 0, 0) (pl a i + 2)) d i acc, σ) = mMute σ0 L u (nI a) y v → AW p la ev (rmm 2 43) s m args below meth c 0 0 Q (AL E) E rh0 68 [some (.ref (ad E (8, 0, 0, 0))), some (.int (nI a)), some (.int y), some (.int v), some (.int acc), some (.int (nI i))] [] σ := by
    intro a ha y σ hL2 Q hQ d
    induction d with
    | zero =>
      intro i acc hi hF
      refine A_iload (q := 70) cx dX8_mute_68 rfl rfl ?_
      refine A_aload_n (q := 71) cx dX8_mute_70 rfl rfl rfl ?_
      refine gX8_0 (q := 74) cx wi_X8_mute_X8 wf_X8_mute_83 dX8_mute_71 rfl (in8 hX) rfl ?_
      refine A_icmp_ge (tgt := 101) (q := 77) cx dX8_mute_74 (by decide) rfl (fun c_74 => ?_) (fun c_74 => ?_)
      · refine A_iload (q := 103) cx dX8_mute_101 rfl rfl ?_
        exact A_iret cx hlk hr hQ dX8_mute_103 (by rw [← hF]; rfl) (by rw [← hF])
      · exact absurd (lge hL2 (by omega) (by omega)) c_74
    | succ d ih =>
      intro i acc hi hF
      refine A_iload (q := 70) cx dX8_mute_68 rfl rfl ?_
      refine A_aload_n (q := 71) cx dX8_mute_70 rfl rfl rfl ?_
      refine gX8_0 (q := 74) cx wi_X8_mute_X8 wf_X8_mute_83 dX8_mute_71 rfl (in8 hX) rfl ?_
      refine A_icmp_ge (tgt := 101) (q := 77) cx dX8_mute_74 (by decide) rfl (fun c_74 => ?_) (fun c_74 => ?_)
      · exact absurd c_74 (lnge hL2 (by omega) (by omega))
      · refine A_iload (q := 79) cx dX8_mute_77 rfl rfl ?_
        refine A_aload_n (q := 80) cx dX8_mute_79 rfl rfl rfl ?_
        refine gX8_3 (q := 83) cx wi_X8_mute_X8 wf_X8_mute_7 dX8_mute_80 rfl (in8 hX) rfl rfl ?_
        refine A_iload_n (q := 84) cx dX8_mute_83 rfl rfl ?_
        refine A_iload (q := 86) cx dX8_mute_84 rfl rfl ?_
        refine SI2 (q := 89) cx (ct_X8_place hE hX) (cwS 2 cx.1.2.2.2.2 gX8_mute_X8_place rfl rfl rfl (by decide +kernel) ⟨Nat.le_of_ble_eq_true rfl, Nat.le_of_ble_eq_true rfl⟩) dX8_mute_86 rfl (Nat.le_of_ble_eq_true rfl) ⟨Nat.zero_le _, Nat.zero_le _⟩ rfl ?_
        refine A_iconst (v := 2) (q := 90) cx dX8_mute_89 (by decide) rfl ?_
        refine A_iadd (q := 91) cx dX8_mute_90 rfl ?_
        refine A_iaload (q := 92) cx dX8_mute_91 rfl (in9 hX (by decide)) (ixA rfl (ixc 2)) (by show _ < 235; first | omega | (simp only [pl]; omega)) rfl ?_
        refine A_iadd (q := 93) cx dX8_mute_92 rfl ?_
        refine A_istore (lv' := [some _, some _, some _, some _, some _, some _]) (q := 95) cx dX8_mute_93 (Nat.le_of_ble_eq_true rfl) rfl rfl ?_
        refine A_iinc (lv' := [some _, some _, some _, some _, some _, some _]) (q := 98) cx dX8_mute_95 rfl (nI_1 i) rfl rfl ?_
        refine A_goto (q := 68) cx dX8_mute_98 (by decide) ?_
        exact ih (i + 1) _ (by omega) hF
  refine A_iload_n (q := 1) cx dX8_mute_0 rfl rfl ?_
  refine SI1 (q := 4) cx (ct_X8_isEnd hE hX) (cwS 1 cx.1.2.2.2.2 gX8_mute_X8_isEnd rfl rfl rfl (by decide +kernel) ⟨Nat.le_of_ble_eq_true rfl, Nat.le_of_ble_eq_true rfl⟩) dX8_mute_1 rfl (Nat.le_of_ble_eq_true rfl) ⟨Nat.zero_le _, Nat.zero_le _⟩ rfl ?_
  refine A_if_eq (tgt := 24) (q := 7) cx dX8_mute_4 (by decide) rfl (fun c_4 => ?_) (fun c_4 => ?_)
  · refine A_iconst (v := -1) (q := 25) cx dX8_mute_24 (by decide) rfl ?_
    exact A_iret cx hlk hr hQ dX8_mute_25 (by unfold mMute; first | (rw [if_pos c_4]; done) | (simp only [cl, hca, hcj]; rw [if_pos c_4]; done) | (simp only [cl, hca]; rw [if_pos c_4]; done)) (by unfold mMute; first | (rw [if_pos c_4]; done) | (simp only [cl, hca, hcj]; rw [if_pos c_4]; done) | (simp only [cl, hca]; rw [if_pos c_4]; done))
  · obtain ⟨a, ha, rfl⟩ := zBit_in c_4
    have hca : (nI a).toNatClampNeg = a := nI_clamp (by omega)
    refine A_aload_n (q := 8) cx dX8_mute_7 rfl rfl rfl ?_
    refine A_iload_n (q := 9) cx dX8_mute_8 rfl rfl ?_
    refine VI1 (q := 12) cx (ct_X8_isLink hE hX) (cwV 1 cx.1.2.2.2.2 gX8_mute_X8_isLink rfl rfl rfl (by decide +kernel) ⟨Nat.le_of_ble_eq_true rfl, Nat.le_of_ble_eq_true rfl⟩) dX8_mute_9 rfl rfl (in8 hX) rfl (Nat.le_of_ble_eq_true rfl) ⟨Nat.zero_le _, Nat.zero_le _⟩ rfl ?_
    refine A_if_eq (tgt := 24) (q := 15) cx dX8_mute_12 (by decide) rfl (fun c_12 => ?_) (fun c_12 => ?_)
    · refine A_iconst (v := -1) (q := 25) cx dX8_mute_24 (by decide) rfl ?_
      exact A_iret cx hlk hr hQ dX8_mute_25 (by unfold mMute; first | (rw [if_neg c_4, if_pos c_12]; done) | (simp only [cl, hca, hcj]; rw [if_neg c_4, if_pos c_12]; done) | (simp only [cl, hca]; rw [if_neg c_4, if_pos c_12]; done)) (by unfold mMute; first | (rw [if_neg c_4, if_pos c_12]; done) | (simp only [cl, hca, hcj]; rw [if_neg c_4, if_pos c_12]; done) | (simp only [cl, hca]; rw [if_neg c_4, if_pos c_12]; done))
    · obtain ⟨j, hj, rfl⟩ := mWi_in2 hL (by omega) c_12
      have hcj : (nI j).toNatClampNeg = j := nI_clamp (by omega)
      refine A_iload_n (q := 16) cx dX8_mute_15 rfl rfl ?_
      refine A_iconst (v := 0) (q := 17) cx dX8_mute_16 (by decide) rfl ?_
      refine A_iconst (v := 1) (q := 18) cx dX8_mute_17 (by decide) rfl ?_
      refine SI3 (q := 21) cx (ct_X8_within hE hX) (cwS 3 cx.1.2.2.2.2 gX8_mute_X8_within rfl rfl rfl (by decide +kernel) ⟨Nat.le_of_ble_eq_true rfl, Nat.le_of_ble_eq_true rfl⟩) dX8_mute_18 rfl (Nat.le_of_ble_eq_true rfl) ⟨Nat.zero_le _, Nat.zero_le _⟩ rfl ?_
      refine A_if_ne (tgt := 26) (q := 24) cx dX8_mute_21 (by decide) rfl (fun c_21 => ?_) (fun c_21 => ?_)
      · refine A_aload_n (q := 27) cx dX8_mute_26 rfl rfl rfl ?_
        refine gX8_3 (q := 30) cx wi_X8_mute_X8 wf_X8_mute_7 dX8_mute_27 rfl (in8 hX) rfl rfl ?_
        refine A_iload_n (q := 31) cx dX8_mute_30 rfl rfl ?_
        refine A_iload_n (q := 32) cx dX8_mute_31 rfl rfl ?_
        refine SI2 (q := 35) cx (ct_X8_place hE hX) (cwS 2 cx.1.2.2.2.2 gX8_mute_X8_place rfl rfl rfl (by decide +kernel) ⟨Nat.le_of_ble_eq_true rfl, Nat.le_of_ble_eq_true rfl⟩) dX8_mute_32 rfl (Nat.le_of_ble_eq_true rfl) ⟨Nat.zero_le _, Nat.zero_le _⟩ rfl ?_
        refine A_iconst (v := 2) (q := 36) cx dX8_mute_35 (by decide) rfl ?_
        refine A_iadd (q := 37) cx dX8_mute_36 rfl ?_
        refine A_iaload (q := 38) cx dX8_mute_37 rfl (in9 hX (by decide)) (ixA rfl (ixc 2)) (by show _ < 235; first | omega | (simp only [pl]; omega)) rfl ?_
        refine A_iload_n (q := 39) cx dX8_mute_38 rfl rfl ?_
        refine A_icmp_ne (tgt := 45) (q := 42) cx dX8_mute_39 (by decide) rfl (fun c_39 => ?_) (fun c_39 => ?_)
        · refine A_aload_n (q := 46) cx dX8_mute_45 rfl rfl rfl ?_
          refine VV0 (q := 49) cx (ct_X8_keeps hE hX hU hu) (cwV 0 cx.1.2.2.2.2 gX8_mute_X8_keeps rfl rfl rfl (by decide +kernel) ⟨Nat.le_of_ble_eq_true rfl, Nat.le_of_ble_eq_true rfl⟩) dX8_mute_46 rfl rfl (in8 hX) rfl (Nat.le_of_ble_eq_true rfl) ⟨Nat.zero_le _, Nat.zero_le _⟩ rfl ?_
          refine A_aload_n (q := 50) cx dX8_mute_49 rfl rfl rfl ?_
          refine gX8_3 (q := 53) cx wi_X8_mute_X8 wf_X8_mute_7 dX8_mute_50 rfl (in8 hX) rfl rfl ?_
          refine A_iload_n (q := 54) cx dX8_mute_53 rfl rfl ?_
          refine A_iload_n (q := 55) cx dX8_mute_54 rfl rfl ?_
          refine SI2 (q := 58) cx (ct_X8_place hE hX) (cwS 2 cx.1.2.2.2.2 gX8_mute_X8_place rfl rfl rfl (by decide +kernel) ⟨Nat.le_of_ble_eq_true rfl, Nat.le_of_ble_eq_true rfl⟩) dX8_mute_55 rfl (Nat.le_of_ble_eq_true rfl) ⟨Nat.zero_le _, Nat.zero_le _⟩ rfl ?_
          refine A_iconst (v := 2) (q := 59) cx dX8_mute_58 (by decide) rfl ?_
          refine A_iadd (q := 60) cx dX8_mute_59 rfl ?_
          refine A_iload_n (q := 61) cx dX8_mute_60 rfl rfl ?_
          refine A_iastore (q := 62) cx dX8_mute_61 rfl (in9 hX (by decide)) (ixA rfl (ixc 2)) (by show _ < 235; first | omega | (simp only [pl]; omega)) rfl ?_
          refine A_iconst (v := 0) (q := 63) cx dX8_mute_62 (by decide) rfl ?_
          refine A_istore (lv' := [some _, some _, some _, some _, some _, none]) (q := 65) cx dX8_mute_63 (Nat.le_of_ble_eq_true rfl) rfl rfl ?_
          refine A_iconst (v := 0) (q := 66) cx dX8_mute_65 (by decide) rfl ?_
          refine A_istore (lv' := [some _, some _, some _, some _, some _, some _]) (q := 68) cx dX8_mute_66 (Nat.le_of_ble_eq_true rfl) rfl rfl ?_
          exact l1 a ha _ _ (by show up2 _ _ _ _ _ _ = _; rw [up2_nk _ _ _ _ (by decide), keep_L]; exact hL) Q hQ L 0 _ (by omega) (by unfold mMute; simp only [cl, hca, hcj]; rw [if_neg c_4, if_neg c_12, if_neg c_21, if_neg c_39]; rfl)
        · refine A_bipush (v := -2) (q := 44) cx dX8_mute_42 (by decide) rfl ?_
          exact A_iret cx hlk hr hQ dX8_mute_44 (by unfold mMute; first | (rw [if_neg c_4, if_neg c_12, if_neg c_21, if_pos c_39]; done) | (simp only [cl, hca, hcj]; rw [if_neg c_4, if_neg c_12, if_neg c_21, if_pos c_39]; done) | (simp only [cl, hca]; rw [if_neg c_4, if_neg c_12, if_neg c_21, if_pos c_39]; done)) (by unfold mMute; first | (rw [if_neg c_4, if_neg c_12, if_neg c_21, if_pos c_39]; done) | (simp only [cl, hca, hcj]; rw [if_neg c_4, if_neg c_12, if_neg c_21, if_pos c_39]; done) | (simp only [cl, hca]; rw [if_neg c_4, if_neg c_12, if_neg c_21, if_pos c_39]; done))
      · refine A_iconst (v := -1) (q := 25) cx dX8_mute_24 (by decide) rfl ?_
        exact A_iret cx hlk hr hQ dX8_mute_25 (by unfold mMute; first | (rw [if_neg c_4, if_neg c_12, if_pos c_21]; done) | (simp only [cl, hca, hcj]; rw [if_neg c_4, if_neg c_12, if_pos c_21]; done) | (simp only [cl, hca]; rw [if_neg c_4, if_neg c_12, if_pos c_21]; done)) (by unfold mMute; first | (rw [if_neg c_4, if_neg c_12, if_pos c_21]; done) | (simp only [cl, hca, hcj]; rw [if_neg c_4, if_neg c_12, if_pos c_21]; done) | (simp only [cl, hca]; rw [if_neg c_4, if_neg c_12, if_pos c_21]; done))
theorem wi_X8_becomes_X8 : ∀ w ∈ u_ws RX8 TX8 18, w ∈ wsX8_becomes := by decide +kernel
theorem wf_X8_becomes_7 : Cond.fieldLink RX8 7 (TX8 3).1 (TX8 3).2.1 (TX8 3).2.2.1 ∈ wsX8_becomes := by decide +kernel
set_option maxHeartbeats 1000000 in
set_option maxRecDepth 100000 in
theorem ct_X8_becomes {la : Launch} {E : Ev} (hE : okE E) (hX : yin E) {σ : Sg} {u j : Nat} {v : Int32} (hU : σ (8, 0, 0, 0) 6 = nI u) (hu : u ≤ 6) (hj : j < 235) : CI la yX8_becomes wsX8_becomes 1 21 E rh0 [.ref (ad E (8, 0, 0, 0)), .int (nI j), .int v] σ (mBcm σ u j v).1 (mBcm σ u j v).2 := by
  refine met_of (lv := [some _, some _, some _, none]) RX8 (by decide) rfl rfl rfl hE (ok3 rfl rfl rfl) (Nat.le_of_ble_eq_true rfl) (fun p ev s m args below meth c Q cx hlk hr hQ => ?_)
  refine A_aload_n (q := 1) cx dX8_becomes_0 rfl rfl rfl ?_
  refine gX8_3 (q := 4) cx wi_X8_becomes_X8 wf_X8_becomes_7 dX8_becomes_1 rfl (in8 hX) rfl rfl ?_
  refine A_iload_n (q := 5) cx dX8_becomes_4 rfl rfl ?_
  refine A_iaload (q := 6) cx dX8_becomes_5 rfl (in9 hX (by decide)) rfl (by show _ < 235; omega) rfl ?_
  refine A_istore_n (lv' := [some _, some _, some _, some _]) (q := 7) cx dX8_becomes_6 (Nat.le_of_ble_eq_true rfl) rfl rfl ?_
  refine A_iload_n (q := 8) cx dX8_becomes_7 rfl rfl ?_
  refine A_iload_n (q := 9) cx dX8_becomes_8 rfl rfl ?_
  refine A_icmp_ne (tgt := 15) (q := 12) cx dX8_becomes_9 (by decide) rfl (fun c_9 => ?_) (fun c_9 => ?_)
  · refine A_aload_n (q := 16) cx dX8_becomes_15 rfl rfl rfl ?_
    refine VV0 (q := 19) cx (ct_X8_keeps hE hX hU hu) (cwV 0 cx.1.2.2.2.2 gX8_becomes_X8_keeps rfl rfl rfl (by decide +kernel) ⟨Nat.le_of_ble_eq_true rfl, Nat.le_of_ble_eq_true rfl⟩) dX8_becomes_16 rfl rfl (in8 hX) rfl (Nat.le_of_ble_eq_true rfl) ⟨Nat.zero_le _, Nat.zero_le _⟩ rfl ?_
    refine A_aload_n (q := 20) cx dX8_becomes_19 rfl rfl rfl ?_
    refine gX8_3 (q := 23) cx wi_X8_becomes_X8 wf_X8_becomes_7 dX8_becomes_20 rfl (in8 hX) rfl rfl ?_
    refine A_iload_n (q := 24) cx dX8_becomes_23 rfl rfl ?_
    refine A_iload_n (q := 25) cx dX8_becomes_24 rfl rfl ?_
    refine A_iastore (q := 26) cx dX8_becomes_25 rfl (in9 hX (by decide)) rfl (by show _ < 235; omega) rfl ?_
    refine A_iload_n (q := 27) cx dX8_becomes_26 rfl rfl ?_
    exact A_iret cx hlk hr hQ dX8_becomes_27 (by unfold mBcm; rw [if_neg c_9]) (by unfold mBcm; rw [if_neg c_9])
  · refine A_bipush (v := -2) (q := 14) cx dX8_becomes_12 (by decide) rfl ?_
    exact A_iret cx hlk hr hQ dX8_becomes_14 (by unfold mBcm; rw [if_pos c_9]) (by unfold mBcm; rw [if_pos c_9])
set_option maxHeartbeats 1000000 in
set_option maxRecDepth 100000 in
theorem ct_X8_tell {la : Launch} {E : Ev} (hE : okE E) (hX : yin E) {σ : Sg} {L u : Nat} {x y w v : Int32} (hL : σ (8, 0, 0, 0) 0 = nI L) (hL6 : L ≤ 6) (hU : σ (8, 0, 0, 0) 6 = nI u) (hu : u ≤ 6) : CI la yX8_tell wsX8_tell 2 44 E rh0 [.ref (ad E (8, 0, 0, 0)), .int x, .int y, .int w, .int v] σ (mTell σ u x y w v).1 (mTell σ u x y w v).2 := by
  refine met_of (lv := [some _, some _, some _, some _, some _]) RX8 (by decide) rfl rfl rfl hE (ok5 rfl rfl rfl rfl rfl) (Nat.le_of_ble_eq_true rfl) (fun p ev s m args below meth c Q cx hlk hr hQ => ?_)
  refine A_iload_n (q := 1) cx dX8_tell_0 rfl rfl ?_
  refine SI1 (q := 4) cx (ct_X8_isEnd hE hX) (cwS 1 cx.1.2.2.2.2 gX8_tell_X8_isEnd rfl rfl rfl (by decide +kernel) ⟨Nat.le_of_ble_eq_true rfl, Nat.le_of_ble_eq_true rfl⟩) dX8_tell_1 rfl (Nat.le_of_ble_eq_true rfl) ⟨Nat.zero_le _, Nat.zero_le _⟩ rfl ?_
  refine A_if_eq (tgt := 35) (q := 7) cx dX8_tell_4 (by decide) rfl (fun c_4 => ?_) (fun c_4 => ?_)
  · refine A_iconst (v := -1) (q := 36) cx dX8_tell_35 (by decide) rfl ?_
    exact A_iret cx hlk hr hQ dX8_tell_36 (by unfold mTell; first | (rw [if_pos c_4]; done) | (simp only [cl, hca, hcj, hcw]; rw [if_pos c_4]; done) | (simp only [cl, hca, hcj]; rw [if_pos c_4]; done) | (simp only [cl, hca]; rw [if_pos c_4]; done)) (by unfold mTell; first | (rw [if_pos c_4]; done) | (simp only [cl, hca, hcj, hcw]; rw [if_pos c_4]; done) | (simp only [cl, hca, hcj]; rw [if_pos c_4]; done) | (simp only [cl, hca]; rw [if_pos c_4]; done))
  · obtain ⟨a, ha, rfl⟩ := zBit_in c_4
    have hca : (nI a).toNatClampNeg = a := nI_clamp (by omega)
    refine A_aload_n (q := 8) cx dX8_tell_7 rfl rfl rfl ?_
    refine A_iload_n (q := 9) cx dX8_tell_8 rfl rfl ?_
    refine VI1 (q := 12) cx (ct_X8_isLink hE hX) (cwV 1 cx.1.2.2.2.2 gX8_tell_X8_isLink rfl rfl rfl (by decide +kernel) ⟨Nat.le_of_ble_eq_true rfl, Nat.le_of_ble_eq_true rfl⟩) dX8_tell_9 rfl rfl (in8 hX) rfl (Nat.le_of_ble_eq_true rfl) ⟨Nat.zero_le _, Nat.zero_le _⟩ rfl ?_
    refine A_if_eq (tgt := 35) (q := 15) cx dX8_tell_12 (by decide) rfl (fun c_12 => ?_) (fun c_12 => ?_)
    · refine A_iconst (v := -1) (q := 36) cx dX8_tell_35 (by decide) rfl ?_
      exact A_iret cx hlk hr hQ dX8_tell_36 (by unfold mTell; first | (rw [if_neg c_4, if_pos c_12]; done) | (simp only [cl, hca, hcj, hcw]; rw [if_neg c_4, if_pos c_12]; done) | (simp only [cl, hca, hcj]; rw [if_neg c_4, if_pos c_12]; done) | (simp only [cl, hca]; rw [if_neg c_4, if_pos c_12]; done)) (by unfold mTell; first | (rw [if_neg c_4, if_pos c_12]; done) | (simp only [cl, hca, hcj, hcw]; rw [if_neg c_4, if_pos c_12]; done) | (simp only [cl, hca, hcj]; rw [if_neg c_4, if_pos c_12]; done) | (simp only [cl, hca]; rw [if_neg c_4, if_pos c_12]; done))
    · obtain ⟨j, hj, rfl⟩ := mWi_in2 hL (by omega) c_12
      have hcj : (nI j).toNatClampNeg = j := nI_clamp (by omega)
      refine A_iload_n (q := 16) cx dX8_tell_15 rfl rfl ?_
      refine A_iconst (v := 0) (q := 17) cx dX8_tell_16 (by decide) rfl ?_
      refine A_iconst (v := 1) (q := 18) cx dX8_tell_17 (by decide) rfl ?_
      refine SI3 (q := 21) cx (ct_X8_within hE hX) (cwS 3 cx.1.2.2.2.2 gX8_tell_X8_within rfl rfl rfl (by decide +kernel) ⟨Nat.le_of_ble_eq_true rfl, Nat.le_of_ble_eq_true rfl⟩) dX8_tell_18 rfl (Nat.le_of_ble_eq_true rfl) ⟨Nat.zero_le _, Nat.zero_le _⟩ rfl ?_
      refine A_if_eq (tgt := 35) (q := 24) cx dX8_tell_21 (by decide) rfl (fun c_21 => ?_) (fun c_21 => ?_)
      · refine A_iconst (v := -1) (q := 36) cx dX8_tell_35 (by decide) rfl ?_
        exact A_iret cx hlk hr hQ dX8_tell_36 (by unfold mTell; first | (rw [if_neg c_4, if_neg c_12, if_pos c_21]; done) | (simp only [cl, hca, hcj, hcw]; rw [if_neg c_4, if_neg c_12, if_pos c_21]; done) | (simp only [cl, hca, hcj]; rw [if_neg c_4, if_neg c_12, if_pos c_21]; done) | (simp only [cl, hca]; rw [if_neg c_4, if_neg c_12, if_pos c_21]; done)) (by unfold mTell; first | (rw [if_neg c_4, if_neg c_12, if_pos c_21]; done) | (simp only [cl, hca, hcj, hcw]; rw [if_neg c_4, if_neg c_12, if_pos c_21]; done) | (simp only [cl, hca, hcj]; rw [if_neg c_4, if_neg c_12, if_pos c_21]; done) | (simp only [cl, hca]; rw [if_neg c_4, if_neg c_12, if_pos c_21]; done))
      · obtain ⟨w, hw, rfl⟩ := mWi_at 1 (by decide) c_21
        have hcw : (nI w).toNatClampNeg = w := nI_clamp (by omega)
        refine A_iload (q := 26) cx dX8_tell_24 rfl rfl ?_
        refine A_iconst (v := 0) (q := 27) cx dX8_tell_26 (by decide) rfl ?_
        refine A_bipush (v := 9) (q := 29) cx dX8_tell_27 (by decide) rfl ?_
        refine SI3 (q := 32) cx (ct_X8_within hE hX) (cwS 3 cx.1.2.2.2.2 gX8_tell_X8_within rfl rfl rfl (by decide +kernel) ⟨Nat.le_of_ble_eq_true rfl, Nat.le_of_ble_eq_true rfl⟩) dX8_tell_29 rfl (Nat.le_of_ble_eq_true rfl) ⟨Nat.zero_le _, Nat.zero_le _⟩ rfl ?_
        refine A_if_ne (tgt := 37) (q := 35) cx dX8_tell_32 (by decide) rfl (fun c_32 => ?_) (fun c_32 => ?_)
        · refine A_aload_n (q := 38) cx dX8_tell_37 rfl rfl rfl ?_
          refine A_iload_n (q := 39) cx dX8_tell_38 rfl rfl ?_
          refine A_iload_n (q := 40) cx dX8_tell_39 rfl rfl ?_
          refine SI2 (q := 43) cx (ct_X8_place hE hX) (cwS 2 cx.1.2.2.2.2 gX8_tell_X8_place rfl rfl rfl (by decide +kernel) ⟨Nat.le_of_ble_eq_true rfl, Nat.le_of_ble_eq_true rfl⟩) dX8_tell_40 rfl (Nat.le_of_ble_eq_true rfl) ⟨Nat.zero_le _, Nat.zero_le _⟩ rfl ?_
          refine A_iload_n (q := 44) cx dX8_tell_43 rfl rfl ?_
          refine A_iadd (q := 45) cx dX8_tell_44 rfl ?_
          rw [nI_add]
          refine A_iload (q := 47) cx dX8_tell_45 rfl rfl ?_
          refine VI2 (q := 50) cx (ct_X8_becomes hE hX hU hu (by simp only [pl]; omega)) (cwV 2 cx.1.2.2.2.2 gX8_tell_X8_becomes rfl rfl rfl (by decide +kernel) ⟨Nat.le_of_ble_eq_true rfl, Nat.le_of_ble_eq_true rfl⟩) dX8_tell_47 rfl rfl (in8 hX) rfl (Nat.le_of_ble_eq_true rfl) ⟨Nat.zero_le _, Nat.zero_le _⟩ rfl ?_
          exact A_iret cx hlk hr hQ dX8_tell_50 (by unfold mTell; first | (rw [if_neg c_4, if_neg c_12, if_neg c_21, if_neg c_32]; done) | (simp only [cl, hca, hcj, hcw]; rw [if_neg c_4, if_neg c_12, if_neg c_21, if_neg c_32]; done) | (simp only [cl, hca, hcj]; rw [if_neg c_4, if_neg c_12, if_neg c_21, if_neg c_32]; done) | (simp only [cl, hca]; rw [if_neg c_4, if_neg c_12, if_neg c_21, if_neg c_32]; done)) (by unfold mTell; first | (rw [if_neg c_4, if_neg c_12, if_neg c_21, if_neg c_32]; done) | (simp only [cl, hca, hcj, hcw]; rw [if_neg c_4, if_neg c_12, if_neg c_21, if_neg c_32]; done) | (simp only [cl, hca, hcj]; rw [if_neg c_4, if_neg c_12, if_neg c_21, if_neg c_32]; done) | (simp only [cl, hca]; rw [if_neg c_4, if_neg c_12, if_neg c_21, if_neg c_32]; done))
        · refine A_iconst (v := -1) (q := 36) cx dX8_tell_35 (by decide) rfl ?_
          exact A_iret cx hlk hr hQ dX8_tell_36 (by unfold mTell; first | (rw [if_neg c_4, if_neg c_12, if_neg c_21, if_pos c_32]; done) | (simp only [cl, hca, hcj, hcw]; rw [if_neg c_4, if_neg c_12, if_neg c_21, if_pos c_32]; done) | (simp only [cl, hca, hcj]; rw [if_neg c_4, if_neg c_12, if_neg c_21, if_pos c_32]; done) | (simp only [cl, hca]; rw [if_neg c_4, if_neg c_12, if_neg c_21, if_pos c_32]; done)) (by unfold mTell; first | (rw [if_neg c_4, if_neg c_12, if_neg c_21, if_pos c_32]; done) | (simp only [cl, hca, hcj, hcw]; rw [if_neg c_4, if_neg c_12, if_neg c_21, if_pos c_32]; done) | (simp only [cl, hca, hcj]; rw [if_neg c_4, if_neg c_12, if_neg c_21, if_pos c_32]; done) | (simp only [cl, hca]; rw [if_neg c_4, if_neg c_12, if_neg c_21, if_pos c_32]; done))
set_option maxHeartbeats 1000000 in
set_option maxRecDepth 100000 in
theorem ct_X8_set {la : Launch} {E : Ev} (hE : okE E) (hX : yin E) {σ : Sg} {u : Nat} {w v : Int32} (hU : σ (8, 0, 0, 0) 6 = nI u) (hu : u ≤ 6) : CI la yX8_set wsX8_set 2 44 E rh0 [.ref (ad E (8, 0, 0, 0)), .int w, .int v] σ (mSet σ u w v).1 (mSet σ u w v).2 := by
  refine met_of (lv := [some _, some _, some _]) RX8 (by decide) rfl rfl rfl hE (ok3 rfl rfl rfl) (Nat.le_of_ble_eq_true rfl) (fun p ev s m args below meth c Q cx hlk hr hQ => ?_)
  refine A_iload_n (q := 1) cx dX8_set_0 rfl rfl ?_
  refine A_iconst (v := 0) (q := 2) cx dX8_set_1 (by decide) rfl ?_
  refine A_iconst (v := 2) (q := 3) cx dX8_set_2 (by decide) rfl ?_
  refine SI3 (q := 6) cx (ct_X8_within hE hX) (cwS 3 cx.1.2.2.2.2 gX8_set_X8_within rfl rfl rfl (by decide +kernel) ⟨Nat.le_of_ble_eq_true rfl, Nat.le_of_ble_eq_true rfl⟩) dX8_set_3 rfl (Nat.le_of_ble_eq_true rfl) ⟨Nat.zero_le _, Nat.zero_le _⟩ rfl ?_
  refine A_if_eq (tgt := 38) (q := 9) cx dX8_set_6 (by decide) rfl (fun c_6 => ?_) (fun c_6 => ?_)
  · refine A_iconst (v := -1) (q := 39) cx dX8_set_38 (by decide) rfl ?_
    exact A_iret cx hlk hr hQ dX8_set_39 (by first | exact absurd c_22 c_12 | exact absurd c_12 c_22 | (unfold mSet; rw [if_pos c_6]; done) | (unfold mSet; simp only [if_neg c_6, if_pos c_12, if_pos c_35]; done) | (unfold mSet; simp only [if_neg c_6, if_pos c_12, if_neg c_35, cl, hcw]; done) | (unfold mSet; simp only [if_neg c_6, if_neg c_12, if_pos c_35]; done) | (unfold mSet; simp only [if_neg c_6, if_neg c_12, if_neg c_35, cl, hcw]; done) ) (by first | exact absurd c_22 c_12 | exact absurd c_12 c_22 | (unfold mSet; rw [if_pos c_6]; done) | (unfold mSet; simp only [if_neg c_6, if_pos c_12, if_pos c_35]; done) | (unfold mSet; simp only [if_neg c_6, if_pos c_12, if_neg c_35, cl, hcw]; done) | (unfold mSet; simp only [if_neg c_6, if_neg c_12, if_pos c_35]; done) | (unfold mSet; simp only [if_neg c_6, if_neg c_12, if_neg c_35, cl, hcw]; done) )
  · obtain ⟨w2, hw, hw2⟩ := mWi_at 2 (by decide) c_6
    have hcw : w.toNatClampNeg = w2 := by rw [hw2]; exact nI_clamp (by omega)
    refine A_iload_n (q := 10) cx dX8_set_9 rfl rfl ?_
    refine A_iload_n (q := 11) cx dX8_set_10 rfl rfl ?_
    refine A_iconst (v := 2) (q := 12) cx dX8_set_11 (by decide) rfl ?_
    refine A_icmp_ne (tgt := 19) (q := 15) cx dX8_set_12 (by decide) rfl (fun c_12 => ?_) (fun c_12 => ?_)
    · refine A_iconst (v := 0) (q := 20) cx dX8_set_19 (by decide) rfl ?_
      refine A_iload_n (q := 21) cx dX8_set_20 rfl rfl ?_
      refine A_iconst (v := 2) (q := 22) cx dX8_set_21 (by decide) rfl ?_
      refine A_icmp_ne (tgt := 30) (q := 25) cx dX8_set_22 (by decide) rfl (fun c_22 => ?_) (fun c_22 => ?_)
      · refine A_bipush (v := 9) (q := 32) cx dX8_set_30 (by decide) rfl ?_
        refine SI3 (q := 35) cx (ct_X8_within hE hX) (cwS 3 cx.1.2.2.2.2 gX8_set_X8_within rfl rfl rfl (by decide +kernel) ⟨Nat.le_of_ble_eq_true rfl, Nat.le_of_ble_eq_true rfl⟩) dX8_set_32 rfl (Nat.le_of_ble_eq_true rfl) ⟨Nat.zero_le _, Nat.zero_le _⟩ rfl ?_
        refine A_if_ne (tgt := 40) (q := 38) cx dX8_set_35 (by decide) rfl (fun c_35 => ?_) (fun c_35 => ?_)
        · refine A_aload_n (q := 41) cx dX8_set_40 rfl rfl rfl ?_
          refine A_iload_n (q := 42) cx dX8_set_41 rfl rfl ?_
          refine A_iload_n (q := 43) cx dX8_set_42 rfl rfl ?_
          rw [hw2]
          refine VI2 (q := 46) cx (ct_X8_becomes hE hX hU hu (by omega)) (cwV 2 cx.1.2.2.2.2 gX8_set_X8_becomes rfl rfl rfl (by decide +kernel) ⟨Nat.le_of_ble_eq_true rfl, Nat.le_of_ble_eq_true rfl⟩) dX8_set_43 rfl rfl (in8 hX) rfl (Nat.le_of_ble_eq_true rfl) ⟨Nat.zero_le _, Nat.zero_le _⟩ rfl ?_
          exact A_iret cx hlk hr hQ dX8_set_46 (by first | exact absurd c_22 c_12 | exact absurd c_12 c_22 | (unfold mSet; rw [if_pos c_6]; done) | (unfold mSet; simp only [if_neg c_6, if_pos c_12, if_pos c_35]; done) | (unfold mSet; simp only [if_neg c_6, if_pos c_12, if_neg c_35, cl, hcw]; done) | (unfold mSet; simp only [if_neg c_6, if_neg c_12, if_pos c_35]; done) | (unfold mSet; simp only [if_neg c_6, if_neg c_12, if_neg c_35, cl, hcw]; done) ) (by first | exact absurd c_22 c_12 | exact absurd c_12 c_22 | (unfold mSet; rw [if_pos c_6]; done) | (unfold mSet; simp only [if_neg c_6, if_pos c_12, if_pos c_35]; done) | (unfold mSet; simp only [if_neg c_6, if_pos c_12, if_neg c_35, cl, hcw]; done) | (unfold mSet; simp only [if_neg c_6, if_neg c_12, if_pos c_35]; done) | (unfold mSet; simp only [if_neg c_6, if_neg c_12, if_neg c_35, cl, hcw]; done) )
        · refine A_iconst (v := -1) (q := 39) cx dX8_set_38 (by decide) rfl ?_
          exact A_iret cx hlk hr hQ dX8_set_39 (by first | exact absurd c_22 c_12 | exact absurd c_12 c_22 | (unfold mSet; rw [if_pos c_6]; done) | (unfold mSet; simp only [if_neg c_6, if_pos c_12, if_pos c_35]; done) | (unfold mSet; simp only [if_neg c_6, if_pos c_12, if_neg c_35, cl, hcw]; done) | (unfold mSet; simp only [if_neg c_6, if_neg c_12, if_pos c_35]; done) | (unfold mSet; simp only [if_neg c_6, if_neg c_12, if_neg c_35, cl, hcw]; done) ) (by first | exact absurd c_22 c_12 | exact absurd c_12 c_22 | (unfold mSet; rw [if_pos c_6]; done) | (unfold mSet; simp only [if_neg c_6, if_pos c_12, if_pos c_35]; done) | (unfold mSet; simp only [if_neg c_6, if_pos c_12, if_neg c_35, cl, hcw]; done) | (unfold mSet; simp only [if_neg c_6, if_neg c_12, if_pos c_35]; done) | (unfold mSet; simp only [if_neg c_6, if_neg c_12, if_neg c_35, cl, hcw]; done) )
      · refine A_bipush (v := 6) (q := 27) cx dX8_set_25 (by decide) rfl ?_
        refine A_goto (q := 32) cx dX8_set_27 (by decide) ?_
        refine SI3 (q := 35) cx (ct_X8_within hE hX) (cwS 3 cx.1.2.2.2.2 gX8_set_X8_within rfl rfl rfl (by decide +kernel) ⟨Nat.le_of_ble_eq_true rfl, Nat.le_of_ble_eq_true rfl⟩) dX8_set_32 rfl (Nat.le_of_ble_eq_true rfl) ⟨Nat.zero_le _, Nat.zero_le _⟩ rfl ?_
        refine A_if_ne (tgt := 40) (q := 38) cx dX8_set_35 (by decide) rfl (fun c_35 => ?_) (fun c_35 => ?_)
        · refine A_aload_n (q := 41) cx dX8_set_40 rfl rfl rfl ?_
          refine A_iload_n (q := 42) cx dX8_set_41 rfl rfl ?_
          refine A_iload_n (q := 43) cx dX8_set_42 rfl rfl ?_
          rw [hw2]
          refine VI2 (q := 46) cx (ct_X8_becomes hE hX hU hu (by omega)) (cwV 2 cx.1.2.2.2.2 gX8_set_X8_becomes rfl rfl rfl (by decide +kernel) ⟨Nat.le_of_ble_eq_true rfl, Nat.le_of_ble_eq_true rfl⟩) dX8_set_43 rfl rfl (in8 hX) rfl (Nat.le_of_ble_eq_true rfl) ⟨Nat.zero_le _, Nat.zero_le _⟩ rfl ?_
          exact A_iret cx hlk hr hQ dX8_set_46 (by first | exact absurd c_22 c_12 | exact absurd c_12 c_22 | (unfold mSet; rw [if_pos c_6]; done) | (unfold mSet; simp only [if_neg c_6, if_pos c_12, if_pos c_35]; done) | (unfold mSet; simp only [if_neg c_6, if_pos c_12, if_neg c_35, cl, hcw]; done) | (unfold mSet; simp only [if_neg c_6, if_neg c_12, if_pos c_35]; done) | (unfold mSet; simp only [if_neg c_6, if_neg c_12, if_neg c_35, cl, hcw]; done) ) (by first | exact absurd c_22 c_12 | exact absurd c_12 c_22 | (unfold mSet; rw [if_pos c_6]; done) | (unfold mSet; simp only [if_neg c_6, if_pos c_12, if_pos c_35]; done) | (unfold mSet; simp only [if_neg c_6, if_pos c_12, if_neg c_35, cl, hcw]; done) | (unfold mSet; simp only [if_neg c_6, if_neg c_12, if_pos c_35]; done) | (unfold mSet; simp only [if_neg c_6, if_neg c_12, if_neg c_35, cl, hcw]; done) )
        · refine A_iconst (v := -1) (q := 39) cx dX8_set_38 (by decide) rfl ?_
          exact A_iret cx hlk hr hQ dX8_set_39 (by first | exact absurd c_22 c_12 | exact absurd c_12 c_22 | (unfold mSet; rw [if_pos c_6]; done) | (unfold mSet; simp only [if_neg c_6, if_pos c_12, if_pos c_35]; done) | (unfold mSet; simp only [if_neg c_6, if_pos c_12, if_neg c_35, cl, hcw]; done) | (unfold mSet; simp only [if_neg c_6, if_neg c_12, if_pos c_35]; done) | (unfold mSet; simp only [if_neg c_6, if_neg c_12, if_neg c_35, cl, hcw]; done) ) (by first | exact absurd c_22 c_12 | exact absurd c_12 c_22 | (unfold mSet; rw [if_pos c_6]; done) | (unfold mSet; simp only [if_neg c_6, if_pos c_12, if_pos c_35]; done) | (unfold mSet; simp only [if_neg c_6, if_pos c_12, if_neg c_35, cl, hcw]; done) | (unfold mSet; simp only [if_neg c_6, if_neg c_12, if_pos c_35]; done) | (unfold mSet; simp only [if_neg c_6, if_neg c_12, if_neg c_35, cl, hcw]; done) )
    · refine A_iconst (v := 1) (q := 16) cx dX8_set_15 (by decide) rfl ?_
      refine A_goto (q := 20) cx dX8_set_16 (by decide) ?_
      refine A_iload_n (q := 21) cx dX8_set_20 rfl rfl ?_
      refine A_iconst (v := 2) (q := 22) cx dX8_set_21 (by decide) rfl ?_
      refine A_icmp_ne (tgt := 30) (q := 25) cx dX8_set_22 (by decide) rfl (fun c_22 => ?_) (fun c_22 => ?_)
      · refine A_bipush (v := 9) (q := 32) cx dX8_set_30 (by decide) rfl ?_
        refine SI3 (q := 35) cx (ct_X8_within hE hX) (cwS 3 cx.1.2.2.2.2 gX8_set_X8_within rfl rfl rfl (by decide +kernel) ⟨Nat.le_of_ble_eq_true rfl, Nat.le_of_ble_eq_true rfl⟩) dX8_set_32 rfl (Nat.le_of_ble_eq_true rfl) ⟨Nat.zero_le _, Nat.zero_le _⟩ rfl ?_
        refine A_if_ne (tgt := 40) (q := 38) cx dX8_set_35 (by decide) rfl (fun c_35 => ?_) (fun c_35 => ?_)
        · refine A_aload_n (q := 41) cx dX8_set_40 rfl rfl rfl ?_
          refine A_iload_n (q := 42) cx dX8_set_41 rfl rfl ?_
          refine A_iload_n (q := 43) cx dX8_set_42 rfl rfl ?_
          rw [hw2]
          refine VI2 (q := 46) cx (ct_X8_becomes hE hX hU hu (by omega)) (cwV 2 cx.1.2.2.2.2 gX8_set_X8_becomes rfl rfl rfl (by decide +kernel) ⟨Nat.le_of_ble_eq_true rfl, Nat.le_of_ble_eq_true rfl⟩) dX8_set_43 rfl rfl (in8 hX) rfl (Nat.le_of_ble_eq_true rfl) ⟨Nat.zero_le _, Nat.zero_le _⟩ rfl ?_
          exact A_iret cx hlk hr hQ dX8_set_46 (by first | exact absurd c_22 c_12 | exact absurd c_12 c_22 | (unfold mSet; rw [if_pos c_6]; done) | (unfold mSet; simp only [if_neg c_6, if_pos c_12, if_pos c_35]; done) | (unfold mSet; simp only [if_neg c_6, if_pos c_12, if_neg c_35, cl, hcw]; done) | (unfold mSet; simp only [if_neg c_6, if_neg c_12, if_pos c_35]; done) | (unfold mSet; simp only [if_neg c_6, if_neg c_12, if_neg c_35, cl, hcw]; done) ) (by first | exact absurd c_22 c_12 | exact absurd c_12 c_22 | (unfold mSet; rw [if_pos c_6]; done) | (unfold mSet; simp only [if_neg c_6, if_pos c_12, if_pos c_35]; done) | (unfold mSet; simp only [if_neg c_6, if_pos c_12, if_neg c_35, cl, hcw]; done) | (unfold mSet; simp only [if_neg c_6, if_neg c_12, if_pos c_35]; done) | (unfold mSet; simp only [if_neg c_6, if_neg c_12, if_neg c_35, cl, hcw]; done) )
        · refine A_iconst (v := -1) (q := 39) cx dX8_set_38 (by decide) rfl ?_
          exact A_iret cx hlk hr hQ dX8_set_39 (by first | exact absurd c_22 c_12 | exact absurd c_12 c_22 | (unfold mSet; rw [if_pos c_6]; done) | (unfold mSet; simp only [if_neg c_6, if_pos c_12, if_pos c_35]; done) | (unfold mSet; simp only [if_neg c_6, if_pos c_12, if_neg c_35, cl, hcw]; done) | (unfold mSet; simp only [if_neg c_6, if_neg c_12, if_pos c_35]; done) | (unfold mSet; simp only [if_neg c_6, if_neg c_12, if_neg c_35, cl, hcw]; done) ) (by first | exact absurd c_22 c_12 | exact absurd c_12 c_22 | (unfold mSet; rw [if_pos c_6]; done) | (unfold mSet; simp only [if_neg c_6, if_pos c_12, if_pos c_35]; done) | (unfold mSet; simp only [if_neg c_6, if_pos c_12, if_neg c_35, cl, hcw]; done) | (unfold mSet; simp only [if_neg c_6, if_neg c_12, if_pos c_35]; done) | (unfold mSet; simp only [if_neg c_6, if_neg c_12, if_neg c_35, cl, hcw]; done) )
      · refine A_bipush (v := 6) (q := 27) cx dX8_set_25 (by decide) rfl ?_
        refine A_goto (q := 32) cx dX8_set_27 (by decide) ?_
        refine SI3 (q := 35) cx (ct_X8_within hE hX) (cwS 3 cx.1.2.2.2.2 gX8_set_X8_within rfl rfl rfl (by decide +kernel) ⟨Nat.le_of_ble_eq_true rfl, Nat.le_of_ble_eq_true rfl⟩) dX8_set_32 rfl (Nat.le_of_ble_eq_true rfl) ⟨Nat.zero_le _, Nat.zero_le _⟩ rfl ?_
        refine A_if_ne (tgt := 40) (q := 38) cx dX8_set_35 (by decide) rfl (fun c_35 => ?_) (fun c_35 => ?_)
        · refine A_aload_n (q := 41) cx dX8_set_40 rfl rfl rfl ?_
          refine A_iload_n (q := 42) cx dX8_set_41 rfl rfl ?_
          refine A_iload_n (q := 43) cx dX8_set_42 rfl rfl ?_
          rw [hw2]
          refine VI2 (q := 46) cx (ct_X8_becomes hE hX hU hu (by omega)) (cwV 2 cx.1.2.2.2.2 gX8_set_X8_becomes rfl rfl rfl (by decide +kernel) ⟨Nat.le_of_ble_eq_true rfl, Nat.le_of_ble_eq_true rfl⟩) dX8_set_43 rfl rfl (in8 hX) rfl (Nat.le_of_ble_eq_true rfl) ⟨Nat.zero_le _, Nat.zero_le _⟩ rfl ?_
          exact A_iret cx hlk hr hQ dX8_set_46 (by first | exact absurd c_22 c_12 | exact absurd c_12 c_22 | (unfold mSet; rw [if_pos c_6]; done) | (unfold mSet; simp only [if_neg c_6, if_pos c_12, if_pos c_35]; done) | (unfold mSet; simp only [if_neg c_6, if_pos c_12, if_neg c_35, cl, hcw]; done) | (unfold mSet; simp only [if_neg c_6, if_neg c_12, if_pos c_35]; done) | (unfold mSet; simp only [if_neg c_6, if_neg c_12, if_neg c_35, cl, hcw]; done) ) (by first | exact absurd c_22 c_12 | exact absurd c_12 c_22 | (unfold mSet; rw [if_pos c_6]; done) | (unfold mSet; simp only [if_neg c_6, if_pos c_12, if_pos c_35]; done) | (unfold mSet; simp only [if_neg c_6, if_pos c_12, if_neg c_35, cl, hcw]; done) | (unfold mSet; simp only [if_neg c_6, if_neg c_12, if_pos c_35]; done) | (unfold mSet; simp only [if_neg c_6, if_neg c_12, if_neg c_35, cl, hcw]; done) )
        · refine A_iconst (v := -1) (q := 39) cx dX8_set_38 (by decide) rfl ?_
          exact A_iret cx hlk hr hQ dX8_set_39 (by first | exact absurd c_22 c_12 | exact absurd c_12 c_22 | (unfold mSet; rw [if_pos c_6]; done) | (unfold mSet; simp only [if_neg c_6, if_pos c_12, if_pos c_35]; done) | (unfold mSet; simp only [if_neg c_6, if_pos c_12, if_neg c_35, cl, hcw]; done) | (unfold mSet; simp only [if_neg c_6, if_neg c_12, if_pos c_35]; done) | (unfold mSet; simp only [if_neg c_6, if_neg c_12, if_neg c_35, cl, hcw]; done) ) (by first | exact absurd c_22 c_12 | exact absurd c_12 c_22 | (unfold mSet; rw [if_pos c_6]; done) | (unfold mSet; simp only [if_neg c_6, if_pos c_12, if_pos c_35]; done) | (unfold mSet; simp only [if_neg c_6, if_pos c_12, if_neg c_35, cl, hcw]; done) | (unfold mSet; simp only [if_neg c_6, if_neg c_12, if_pos c_35]; done) | (unfold mSet; simp only [if_neg c_6, if_neg c_12, if_neg c_35, cl, hcw]; done) )
theorem wi_X8_undo_X8 : ∀ w ∈ u_ws RX8 TX8 18, w ∈ wsX8_undo := by decide +kernel
theorem wf_X8_undo_96 : Cond.fieldLink RX8 96 (TX8 6).1 (TX8 6).2.1 (TX8 6).2.2.1 ∈ wsX8_undo := by decide +kernel
theorem wf_X8_undo_7 : Cond.fieldLink RX8 7 (TX8 3).1 (TX8 3).2.1 (TX8 3).2.2.1 ∈ wsX8_undo := by decide +kernel
theorem wf_X8_undo_16 : Cond.fieldLink RX8 16 (TX8 5).1 (TX8 5).2.1 (TX8 5).2.2.1 ∈ wsX8_undo := by decide +kernel
set_option maxHeartbeats 1000000 in
set_option maxRecDepth 100000 in
theorem ct_X8_undo {la : Launch} {E : Ev} (hE : okE E) (hX : yin E) {σ0 : Sg} {u : Nat} (hU : σ0 (8, 0, 0, 0) 6 = nI u) (hu : u ≤ 6) : CI la yX8_undo wsX8_undo 0 0 E rh0 [.ref (ad E (8, 0, 0, 0))] σ0 (mUndo σ0 u).1 (mUndo σ0 u).2 := by
  refine met_of (lv := [some _, none]) RX8 (by decide) rfl rfl rfl hE (ok1 rfl) (Nat.le_of_ble_eq_true rfl) (fun p ev s m args below meth c Q cx hlk hr hQ => ?_)
  have l1 : ∀ (w : Nat), w < 6 → ∀ (d i : Nat) (σ : Sg), i + d = 235 → σ (8, 0, 0, 0) 6 = nI w → mLdR w d i σ = mUndo1 σ0 u → mUndo σ0 u = (mUndo1 σ0 u (8, 0, 0, 0) 6, mUndo1 σ0 u) → AW p la ev (rmm 0 0) s m args below meth c 0 0 Q (AL E) E rh0 22 [some (.ref (ad E (8, 0, 0, 0))), some (.int (nI i))] [] σ := by
    intro w hw d
    induction d with
    | zero =>
      intro i σ hi hU2 hF hF2
      obtain rfl : i = 235 := by omega
      refine A_iload_n (q := 23) cx dX8_undo_22 rfl rfl ?_
      refine A_sipush (v := 235) (q := 26) cx dX8_undo_23 (by decide) rfl ?_
      refine A_icmp_ge (tgt := 56) (q := 29) cx dX8_undo_26 (by decide) rfl (fun c_26 => ?_) (fun c_26 => ?_)
      · refine A_aload_n (q := 57) cx dX8_undo_56 rfl rfl rfl ?_
        refine gX8_6 (q := 60) cx wi_X8_undo_X8 wf_X8_undo_96 dX8_undo_57 rfl (in8 hX) rfl ?_
        exact A_iret cx hlk hr hQ dX8_undo_60 (by rw [hF2, ← hF]; rfl) (by rw [hF2, ← hF]; rfl)
      · exact absurd (by decide) c_26
    | succ d ih =>
      intro i σ hi hU2 hF hF2
      refine A_iload_n (q := 23) cx dX8_undo_22 rfl rfl ?_
      refine A_sipush (v := 235) (q := 26) cx dX8_undo_23 (by decide) rfl ?_
      refine A_icmp_ge (tgt := 56) (q := 29) cx dX8_undo_26 (by decide) rfl (fun c_26 => ?_) (fun c_26 => ?_)
      · exact absurd c_26 (not_ge (i := i) (b := 235) (by omega) (by decide))
      · refine A_aload_n (q := 30) cx dX8_undo_29 rfl rfl rfl ?_
        refine gX8_3 (q := 33) cx wi_X8_undo_X8 wf_X8_undo_7 dX8_undo_30 rfl (in8 hX) rfl rfl ?_
        refine A_iload_n (q := 34) cx dX8_undo_33 rfl rfl ?_
        refine A_aload_n (q := 35) cx dX8_undo_34 rfl rfl rfl ?_
        refine gX8_5 (q := 38) cx wi_X8_undo_X8 wf_X8_undo_16 dX8_undo_35 rfl (in8 hX) rfl rfl ?_
        refine A_sipush (v := 235) (q := 41) cx dX8_undo_38 (by decide) rfl ?_
        refine A_aload_n (q := 42) cx dX8_undo_41 rfl rfl rfl ?_
        refine gX8_6 (q := 45) cx wi_X8_undo_X8 wf_X8_undo_96 dX8_undo_42 rfl (in8 hX) rfl ?_
        refine A_imul (q := 46) cx dX8_undo_45 rfl ?_
        refine A_iload_n (q := 47) cx dX8_undo_46 rfl rfl ?_
        refine A_iadd (q := 48) cx dX8_undo_47 rfl ?_
        refine A_iaload (q := 49) cx dX8_undo_48 rfl (in9 hX (by decide)) (ixA (ixM (ixc 235) hU2) rfl) (by show _ < 1410; omega) rfl ?_
        refine A_iastore (q := 50) cx dX8_undo_49 rfl (in9 hX (by decide)) rfl (by show _ < 235; omega) rfl ?_
        refine A_iinc (lv' := [some _, some _]) (q := 53) cx dX8_undo_50 rfl (nI_1 i) rfl rfl ?_
        refine A_goto (q := 22) cx dX8_undo_53 (by decide) ?_
        exact ih (i + 1) _ (by omega) hU2 hF hF2
  refine A_aload_n (q := 1) cx dX8_undo_0 rfl rfl rfl ?_
  refine gX8_6 (q := 4) cx wi_X8_undo_X8 wf_X8_undo_96 dX8_undo_1 rfl (in8 hX) rfl ?_
  refine A_if_ne (tgt := 10) (q := 7) cx dX8_undo_4 (by decide) rfl (fun c_4 => ?_) (fun c_4 => ?_)
  · have hu0 : u ≠ 0 := fun h => c_4 (by rw [hU, h]; rfl)
    refine A_aload_n (q := 11) cx dX8_undo_10 rfl rfl rfl ?_
    refine A_dup (q := 12) cx dX8_undo_11 rfl rfl ?_
    refine gX8_6 (q := 15) cx wi_X8_undo_X8 wf_X8_undo_96 dX8_undo_12 rfl (in8 hX) rfl ?_
    refine A_iconst (v := 1) (q := 16) cx dX8_undo_15 (by decide) rfl ?_
    refine A_isub (q := 17) cx dX8_undo_16 rfl ?_
    refine pX8_6 (q := 20) cx wi_X8_undo_X8 wf_X8_undo_96 dX8_undo_17 rfl (in8 hX) rfl ?_
    refine A_iconst (v := 0) (q := 21) cx dX8_undo_20 (by decide) rfl ?_
    refine A_istore_n (lv' := [some _, some _]) (q := 22) cx dX8_undo_21 (Nat.le_of_ble_eq_true rfl) rfl rfl ?_
    exact l1 (u - 1) (by omega) 235 0 _ rfl (by rw [up2_at, hU]; exact ixS rfl (ixc 1) (by omega)) rfl (by unfold mUndo; rw [if_neg c_4])
  · refine A_bipush (v := -2) (q := 9) cx dX8_undo_7 (by decide) rfl ?_
    exact A_iret cx hlk hr hQ dX8_undo_9 (by unfold mUndo; rw [if_pos c_4]) (by unfold mUndo; rw [if_pos c_4])
theorem wi_X8_sendingSet_X8 : ∀ w ∈ u_ws RX8 TX8 18, w ∈ wsX8_sendingSet := by decide +kernel
theorem wf_X8_sendingSet_83 : Cond.fieldLink RX8 83 (TX8 0).1 (TX8 0).2.1 (TX8 0).2.2.1 ∈ wsX8_sendingSet := by decide +kernel
set_option maxHeartbeats 1000000 in
set_option maxRecDepth 100000 in
theorem ct_X8_sendingSet {la : Launch} {E : Ev} (hE : okE E) (hX : yin E) {σ0 : Sg} {e L : Nat} (hL : σ0 (8, 0, 0, 0) 0 = nI L) (hL6 : L ≤ 6) (he : e < 2 := by omega) : CI la yX8_sendingSet wsX8_sendingSet 2 43 E rh0 [.ref (ad E (8, 0, 0, 0)), .int (nI e)] σ0 (mSndSet σ0 e L) σ0 := by
  refine met_of (lv := [some _, some _, none, none]) RX8 (by decide) rfl rfl rfl hE (ok2 rfl rfl) (Nat.le_of_ble_eq_true rfl) (fun p ev s m args below meth c Q cx hlk hr hQ => ?_)
  have l1 : ∀ (d i : Nat) (a : Int32), i + d = L → orS (mSnd σ0 e) d i a = mSndSet σ0 e L → AW p la ev (rmm 2 43) s m args below meth c 0 0 Q (AL E) E rh0 4 [some (.ref (ad E (8, 0, 0, 0))), some (.int (nI e)), some (.int a), some (.int (nI i))] [] σ0 := by
    intro d
    induction d with
    | zero =>
      intro i a hi hF
      refine A_iload_n (q := 5) cx dX8_sendingSet_4 rfl rfl ?_
      refine A_aload_n (q := 6) cx dX8_sendingSet_5 rfl rfl rfl ?_
      refine gX8_0 (q := 9) cx wi_X8_sendingSet_X8 wf_X8_sendingSet_83 dX8_sendingSet_6 rfl (in8 hX) rfl ?_
      refine A_icmp_ge (tgt := 37) (q := 12) cx dX8_sendingSet_9 (by decide) rfl (fun c_9 => ?_) (fun c_9 => ?_)
      · refine A_iload_n (q := 38) cx dX8_sendingSet_37 rfl rfl ?_
        exact A_iret cx hlk hr hQ dX8_sendingSet_38 hF rfl
      · exact absurd (lge hL (by omega) (by omega)) c_9
    | succ d ih =>
      intro i a hi hF
      refine A_iload_n (q := 5) cx dX8_sendingSet_4 rfl rfl ?_
      refine A_aload_n (q := 6) cx dX8_sendingSet_5 rfl rfl rfl ?_
      refine gX8_0 (q := 9) cx wi_X8_sendingSet_X8 wf_X8_sendingSet_83 dX8_sendingSet_6 rfl (in8 hX) rfl ?_
      refine A_icmp_ge (tgt := 37) (q := 12) cx dX8_sendingSet_9 (by decide) rfl (fun c_9 => ?_) (fun c_9 => ?_)
      · exact absurd c_9 (lnge hL (by omega) (by omega))
      · refine A_iload_n (q := 13) cx dX8_sendingSet_12 rfl rfl ?_
        refine A_aload_n (q := 14) cx dX8_sendingSet_13 rfl rfl rfl ?_
        refine A_iload_n (q := 15) cx dX8_sendingSet_14 rfl rfl ?_
        refine A_iload_n (q := 16) cx dX8_sendingSet_15 rfl rfl ?_
        refine VI2 (q := 19) cx (ct_X8_isSending hE hX) (cwV 2 cx.1.2.2.2.2 gX8_sendingSet_X8_isSending rfl rfl rfl (by decide +kernel) ⟨Nat.le_of_ble_eq_true rfl, Nat.le_of_ble_eq_true rfl⟩) dX8_sendingSet_16 rfl rfl (in8 hX) rfl (Nat.le_of_ble_eq_true rfl) ⟨Nat.zero_le _, Nat.zero_le _⟩ rfl ?_
        refine A_if_eq (tgt := 28) (q := 22) cx dX8_sendingSet_19 (by decide) rfl (fun c_19 => ?_) (fun c_19 => ?_)
        · refine A_iconst (v := 0) (q := 29) cx dX8_sendingSet_28 (by decide) rfl ?_
          refine A_ior (q := 30) cx dX8_sendingSet_29 rfl ?_
          refine A_istore_n (lv' := [some _, some _, some _, some _]) (q := 31) cx dX8_sendingSet_30 (Nat.le_of_ble_eq_true rfl) rfl rfl ?_
          refine A_iinc (lv' := [some _, some _, some _, some _]) (q := 34) cx dX8_sendingSet_31 rfl (nI_1 i) rfl rfl ?_
          refine A_goto (q := 4) cx dX8_sendingSet_34 (by decide) ?_
          exact ih (i + 1) _ (by omega) (by rw [← hF, orS]; first | rw [if_pos c_19] | rw [if_neg c_19])
        · refine A_iconst (v := 1) (q := 23) cx dX8_sendingSet_22 (by decide) rfl ?_
          refine A_iload_n (q := 24) cx dX8_sendingSet_23 rfl rfl ?_
          refine A_ishl (q := 25) cx dX8_sendingSet_24 rfl ?_
          refine A_goto (q := 29) cx dX8_sendingSet_25 (by decide) ?_
          refine A_ior (q := 30) cx dX8_sendingSet_29 rfl ?_
          refine A_istore_n (lv' := [some _, some _, some _, some _]) (q := 31) cx dX8_sendingSet_30 (Nat.le_of_ble_eq_true rfl) rfl rfl ?_
          refine A_iinc (lv' := [some _, some _, some _, some _]) (q := 34) cx dX8_sendingSet_31 rfl (nI_1 i) rfl rfl ?_
          refine A_goto (q := 4) cx dX8_sendingSet_34 (by decide) ?_
          exact ih (i + 1) _ (by omega) (by rw [← hF, orS]; first | rw [if_pos c_19] | rw [if_neg c_19])
  refine A_iconst (v := 0) (q := 1) cx dX8_sendingSet_0 (by decide) rfl ?_
  refine A_istore_n (lv' := [some _, some _, some _, none]) (q := 2) cx dX8_sendingSet_1 (Nat.le_of_ble_eq_true rfl) rfl rfl ?_
  refine A_iconst (v := 0) (q := 3) cx dX8_sendingSet_2 (by decide) rfl ?_
  refine A_istore_n (lv' := [some _, some _, some _, some _]) (q := 4) cx dX8_sendingSet_3 (Nat.le_of_ble_eq_true rfl) rfl rfl ?_
  exact l1 L 0 _ (by omega) rfl
set_option maxHeartbeats 1000000 in
set_option maxRecDepth 100000 in
theorem ct_X8_agreed {la : Launch} {E : Ev} (hE : okE E) (hX : yin E) {σ : Sg} {L : Nat} (hL : σ (8, 0, 0, 0) 0 = nI L) (hL6 : L ≤ 6) : CI la yX8_agreed wsX8_agreed 3 66 E rh0 [.ref (ad E (8, 0, 0, 0))] σ (mAgree σ L) σ := by
  refine met_of (lv := [some _, none]) RX8 (by decide) rfl rfl rfl hE (ok1 rfl) (Nat.le_of_ble_eq_true rfl) (fun p ev s m args below meth c Q cx hlk hr hQ => ?_)
  refine A_aload_n (q := 1) cx dX8_agreed_0 rfl rfl rfl ?_
  refine A_iconst (v := 0) (q := 2) cx dX8_agreed_1 (by decide) rfl ?_
  refine VI1 (q := 5) cx (ct_X8_sendingSet (e := 0) hE hX hL hL6) (cwV 1 cx.1.2.2.2.2 gX8_agreed_X8_sendingSet rfl rfl rfl (by decide +kernel) ⟨Nat.le_of_ble_eq_true rfl, Nat.le_of_ble_eq_true rfl⟩) dX8_agreed_2 rfl rfl (in8 hX) rfl (Nat.le_of_ble_eq_true rfl) ⟨Nat.zero_le _, Nat.zero_le _⟩ rfl ?_
  refine A_istore_n (lv' := [some _, some _]) (q := 6) cx dX8_agreed_5 (Nat.le_of_ble_eq_true rfl) rfl rfl ?_
  refine A_iload_n (q := 7) cx dX8_agreed_6 rfl rfl ?_
  refine A_if_le (tgt := 23) (q := 10) cx dX8_agreed_7 (by decide) rfl (fun c_7 => ?_) (fun c_7 => ?_)
  · refine A_iconst (v := 0) (q := 24) cx dX8_agreed_23 (by decide) rfl ?_
    exact A_iret cx hlk hr hQ dX8_agreed_24 (by unfold mAgree; rw [if_pos c_7]) rfl
  · refine A_iload_n (q := 11) cx dX8_agreed_10 rfl rfl ?_
    refine A_aload_n (q := 12) cx dX8_agreed_11 rfl rfl rfl ?_
    refine A_iconst (v := 1) (q := 13) cx dX8_agreed_12 (by decide) rfl ?_
    refine VI1 (q := 16) cx (ct_X8_sendingSet (e := 1) hE hX hL hL6) (cwV 1 cx.1.2.2.2.2 gX8_agreed_X8_sendingSet rfl rfl rfl (by decide +kernel) ⟨Nat.le_of_ble_eq_true rfl, Nat.le_of_ble_eq_true rfl⟩) dX8_agreed_13 rfl rfl (in8 hX) rfl (Nat.le_of_ble_eq_true rfl) ⟨Nat.zero_le _, Nat.zero_le _⟩ rfl ?_
    refine A_icmp_ne (tgt := 23) (q := 19) cx dX8_agreed_16 (by decide) rfl (fun c_16 => ?_) (fun c_16 => ?_)
    · refine A_iconst (v := 0) (q := 24) cx dX8_agreed_23 (by decide) rfl ?_
      exact A_iret cx hlk hr hQ dX8_agreed_24 (by unfold mAgree; rw [if_neg c_7, if_neg c_16]) rfl
    · refine A_iconst (v := 1) (q := 20) cx dX8_agreed_19 (by decide) rfl ?_
      refine A_goto (q := 24) cx dX8_agreed_20 (by decide) ?_
      exact A_iret cx hlk hr hQ dX8_agreed_24 (by unfold mAgree; rw [if_neg c_7, if_pos c_16]) rfl
theorem wi_X8_tick_X8 : ∀ w ∈ u_ws RX8 TX8 18, w ∈ wsX8_tick := by decide +kernel
theorem wf_X8_tick_7 : Cond.fieldLink RX8 7 (TX8 3).1 (TX8 3).2.1 (TX8 3).2.2.1 ∈ wsX8_tick := by decide +kernel
set_option maxHeartbeats 1000000 in
set_option maxRecDepth 100000 in
theorem ct_X8_tick {la : Launch} {E : Ev} (hE : okE E) (hX : yin E) {σ0 : Sg} {L u : Nat} {v : Int32} (hL : σ0 (8, 0, 0, 0) 0 = nI L) (hL6 : L ≤ 6) (hU : σ0 (8, 0, 0, 0) 6 = nI u) (hu : u ≤ 6) : CI la yX8_tick wsX8_tick 6 142 E rh0 [.ref (ad E (8, 0, 0, 0)), .int v] σ0 (mTick σ0 L u v).1 (mTick σ0 L u v).2 := by
  refine met_of (lv := [some _, some _, none]) RX8 (by decide) rfl rfl rfl hE (ok2 rfl rfl) (Nat.le_of_ble_eq_true rfl) (fun p ev s m args below meth c Q cx hlk hr hQ => ?_)
  have l1 : ∀ (d i : Nat) (σ : Sg), i + d = v.toNatClampNeg → σ (8, 0, 0, 0) 0 = nI L → (mAgree (mTs L d σ) L, mTs L d σ) = mTick σ0 L u v → AW p la ev (rmm 6 142) s m args below meth c 0 0 Q (AL E) E rh0 35 [some (.ref (ad E (8, 0, 0, 0))), some (.int v), some (.int (nI i))] [] σ := by
    intro d
    induction d with
    | zero =>
      intro i σ hi hL2 hF
      refine A_iload_n (q := 36) cx dX8_tick_35 rfl rfl ?_
      refine A_iload_n (q := 37) cx dX8_tick_36 rfl rfl ?_
      refine A_icmp_ge (tgt := 50) (q := 40) cx dX8_tick_37 (by decide) rfl (fun c_37 => ?_) (fun c_37 => ?_)
      · refine A_aload_n (q := 51) cx dX8_tick_50 rfl rfl rfl ?_
        refine VI0 (q := 54) cx (ct_X8_agreed hE hX hL2 hL6) (cwV 0 cx.1.2.2.2.2 gX8_tick_X8_agreed rfl rfl rfl (by decide +kernel) ⟨Nat.le_of_ble_eq_true rfl, Nat.le_of_ble_eq_true rfl⟩) dX8_tick_51 rfl rfl (in8 hX) rfl (Nat.le_of_ble_eq_true rfl) ⟨Nat.zero_le _, Nat.zero_le _⟩ rfl ?_
        exact A_iret cx hlk hr hQ dX8_tick_54 (by rw [← hF]; rfl) (by rw [← hF]; rfl)
      · exact absurd (by rw [show i = v.toNatClampNeg by omega]; exact clamp_ge v) c_37
    | succ d ih =>
      intro i σ hi hL2 hF
      refine A_iload_n (q := 36) cx dX8_tick_35 rfl rfl ?_
      refine A_iload_n (q := 37) cx dX8_tick_36 rfl rfl ?_
      refine A_icmp_ge (tgt := 50) (q := 40) cx dX8_tick_37 (by decide) rfl (fun c_37 => ?_) (fun c_37 => ?_)
      · exact absurd c_37 (clamp_lt (by omega))
      · refine A_aload_n (q := 41) cx dX8_tick_40 rfl rfl rfl ?_
        refine VV0 (q := 44) cx (ct_X8_ticks hE hX hL2 hL6) (cwV 0 cx.1.2.2.2.2 gX8_tick_X8_ticks rfl rfl rfl (by decide +kernel) ⟨Nat.le_of_ble_eq_true rfl, Nat.le_of_ble_eq_true rfl⟩) dX8_tick_41 rfl rfl (in8 hX) rfl (Nat.le_of_ble_eq_true rfl) ⟨Nat.zero_le _, Nat.zero_le _⟩ rfl ?_
        refine A_iinc (lv' := [some _, some _, some _]) (q := 47) cx dX8_tick_44 rfl (nI_1 i) rfl rfl ?_
        refine A_goto (q := 35) cx dX8_tick_47 (by decide) ?_
        exact ih (i + 1) _ (by omega) ((mag_ticks (mag.rf _)).m 0 hL2) hF
  refine A_iload_n (q := 1) cx dX8_tick_0 rfl rfl ?_
  refine A_iconst (v := 1) (q := 2) cx dX8_tick_1 (by decide) rfl ?_
  refine A_bipush (v := 40) (q := 4) cx dX8_tick_2 (by decide) rfl ?_
  refine SI3 (q := 7) cx (ct_X8_within hE hX) (cwS 3 cx.1.2.2.2.2 gX8_tick_X8_within rfl rfl rfl (by decide +kernel) ⟨Nat.le_of_ble_eq_true rfl, Nat.le_of_ble_eq_true rfl⟩) dX8_tick_4 rfl (Nat.le_of_ble_eq_true rfl) ⟨Nat.zero_le _, Nat.zero_le _⟩ rfl ?_
  refine A_if_ne (tgt := 12) (q := 10) cx dX8_tick_7 (by decide) rfl (fun c_7 => ?_) (fun c_7 => ?_)
  · refine A_aload_n (q := 13) cx dX8_tick_12 rfl rfl rfl ?_
    refine gX8_3 (q := 16) cx wi_X8_tick_X8 wf_X8_tick_7 dX8_tick_13 rfl (in8 hX) rfl rfl ?_
    refine A_iconst (v := 3) (q := 17) cx dX8_tick_16 (by decide) rfl ?_
    refine A_iaload (q := 18) cx dX8_tick_17 rfl (in9 hX (by decide)) (ixc 3) (by show _ < 235; first | omega | (simp only [pl]; omega)) rfl ?_
    refine A_iload_n (q := 19) cx dX8_tick_18 rfl rfl ?_
    refine A_iadd (q := 20) cx dX8_tick_19 rfl ?_
    refine A_sipush (v := 9999) (q := 23) cx dX8_tick_20 (by decide) rfl ?_
    refine A_icmp_le (tgt := 29) (q := 26) cx dX8_tick_23 (by decide) rfl (fun c_23 => ?_) (fun c_23 => ?_)
    · refine A_aload_n (q := 30) cx dX8_tick_29 rfl rfl rfl ?_
      refine VV0 (q := 33) cx (ct_X8_keeps hE hX hU hu) (cwV 0 cx.1.2.2.2.2 gX8_tick_X8_keeps rfl rfl rfl (by decide +kernel) ⟨Nat.le_of_ble_eq_true rfl, Nat.le_of_ble_eq_true rfl⟩) dX8_tick_30 rfl rfl (in8 hX) rfl (Nat.le_of_ble_eq_true rfl) ⟨Nat.zero_le _, Nat.zero_le _⟩ rfl ?_
      refine A_iconst (v := 0) (q := 34) cx dX8_tick_33 (by decide) rfl ?_
      refine A_istore_n (lv' := [some _, some _, some _]) (q := 35) cx dX8_tick_34 (Nat.le_of_ble_eq_true rfl) rfl rfl ?_
      exact l1 v.toNatClampNeg 0 _ (by omega) (by rw [keep_L]; exact hL) (by unfold mTick; rw [if_neg c_7, if_pos c_23])
    · refine A_bipush (v := -2) (q := 28) cx dX8_tick_26 (by decide) rfl ?_
      exact A_iret cx hlk hr hQ dX8_tick_28 (by unfold mTick; rw [if_neg c_7, if_neg c_23]) (by unfold mTick; rw [if_neg c_7, if_neg c_23])
  · refine A_iconst (v := -1) (q := 11) cx dX8_tick_10 (by decide) rfl ?_
    exact A_iret cx hlk hr hQ dX8_tick_11 (by unfold mTick; rw [if_pos c_7]) (by unfold mTick; rw [if_pos c_7])
theorem wi_X8_tellLink_X8 : ∀ w ∈ u_ws RX8 TX8 18, w ∈ wsX8_tellLink := by decide +kernel
theorem wf_X8_tellLink_7 : Cond.fieldLink RX8 7 (TX8 3).1 (TX8 3).2.1 (TX8 3).2.2.1 ∈ wsX8_tellLink := by decide +kernel
set_option maxHeartbeats 1000000 in
set_option maxRecDepth 100000 in
theorem ct_X8_tellLink {la : Launch} {E : Ev} (hE : okE E) (hX : yin E) {σ : Sg} {P w : Nat} (hP : P + 15 < 235) (hw : w < 11) : CI la yX8_tellLink wsX8_tellLink 0 0 E rh0 [.ref (ad E (8, 0, 0, 0)), .int (nI P), .int (nI w)] σ (mTl σ P (nI w)) σ := by
  refine met_of (lv := [some _, some _, some _]) RX8 (by decide) rfl rfl rfl hE (ok3 rfl rfl rfl) (Nat.le_of_ble_eq_true rfl) (fun p ev s m args below meth c Q cx hlk hr hQ => ?_)
  have hcw : (nI w).toNatClampNeg = w := nI_clamp (by omega)
  refine A_iload_n (q := 1) cx dX8_tellLink_0 rfl rfl ?_
  by_cases s_1_2 : nI w = 2
  · refine A_tableIn (tgt := 52) cx dX8_tellLink_1 (by rw [s_1_2]; decide) (by rw [s_1_2]; decide) (by rw [s_1_2]; rfl) (by decide) ?_
    refine A_aload_n (q := 53) cx dX8_tellLink_52 rfl rfl rfl ?_
    refine gX8_3 (q := 56) cx wi_X8_tellLink_X8 wf_X8_tellLink_7 dX8_tellLink_53 rfl (in8 hX) rfl rfl ?_
    refine A_iload_n (q := 57) cx dX8_tellLink_56 rfl rfl ?_
    refine A_bipush (v := 14) (q := 59) cx dX8_tellLink_57 (by decide) rfl ?_
    refine A_iadd (q := 60) cx dX8_tellLink_59 rfl ?_
    refine A_iaload (q := 61) cx dX8_tellLink_60 rfl (in9 hX (by decide)) (ixA rfl (ixc 14)) (by show _ < 235; omega) rfl ?_
    exact A_iret cx hlk hr hQ dX8_tellLink_61 (by unfold mTl; simp only [cl, hcw]; rw [if_pos s_1_2]) rfl
  by_cases s_1_3 : nI w = 3
  · refine A_tableIn (tgt := 62) cx dX8_tellLink_1 (by rw [s_1_3]; decide) (by rw [s_1_3]; decide) (by rw [s_1_3]; rfl) (by decide) ?_
    refine A_aload_n (q := 63) cx dX8_tellLink_62 rfl rfl rfl ?_
    refine gX8_3 (q := 66) cx wi_X8_tellLink_X8 wf_X8_tellLink_7 dX8_tellLink_63 rfl (in8 hX) rfl rfl ?_
    refine A_iload_n (q := 67) cx dX8_tellLink_66 rfl rfl ?_
    refine A_bipush (v := 8) (q := 69) cx dX8_tellLink_67 (by decide) rfl ?_
    refine A_iadd (q := 70) cx dX8_tellLink_69 rfl ?_
    refine A_iaload (q := 71) cx dX8_tellLink_70 rfl (in9 hX (by decide)) (ixA rfl (ixc 8)) (by show _ < 235; omega) rfl ?_
    exact A_iret cx hlk hr hQ dX8_tellLink_71 (by unfold mTl; simp only [cl, hcw]; rw [if_neg s_1_2, if_pos s_1_3]) rfl
  by_cases s_1_4 : nI w = 4
  · refine A_tableIn (tgt := 72) cx dX8_tellLink_1 (by rw [s_1_4]; decide) (by rw [s_1_4]; decide) (by rw [s_1_4]; rfl) (by decide) ?_
    refine A_aload_n (q := 73) cx dX8_tellLink_72 rfl rfl rfl ?_
    refine gX8_3 (q := 76) cx wi_X8_tellLink_X8 wf_X8_tellLink_7 dX8_tellLink_73 rfl (in8 hX) rfl rfl ?_
    refine A_iload_n (q := 77) cx dX8_tellLink_76 rfl rfl ?_
    refine A_bipush (v := 8) (q := 79) cx dX8_tellLink_77 (by decide) rfl ?_
    refine A_iadd (q := 80) cx dX8_tellLink_79 rfl ?_
    refine A_iaload (q := 81) cx dX8_tellLink_80 rfl (in9 hX (by decide)) (ixA rfl (ixc 8)) (by show _ < 235; omega) rfl ?_
    refine A_bipush (v := -4) (q := 83) cx dX8_tellLink_81 (by decide) rfl ?_
    refine A_icmp_ne (tgt := 91) (q := 86) cx dX8_tellLink_83 (by decide) rfl (fun c_83 => ?_) (fun c_83 => ?_)
    · refine A_aload_n (q := 92) cx dX8_tellLink_91 rfl rfl rfl ?_
      refine gX8_3 (q := 95) cx wi_X8_tellLink_X8 wf_X8_tellLink_7 dX8_tellLink_92 rfl (in8 hX) rfl rfl ?_
      refine A_iload_n (q := 96) cx dX8_tellLink_95 rfl rfl ?_
      refine A_bipush (v := 9) (q := 98) cx dX8_tellLink_96 (by decide) rfl ?_
      refine A_iadd (q := 99) cx dX8_tellLink_98 rfl ?_
      refine A_iload_n (q := 100) cx dX8_tellLink_99 rfl rfl ?_
      refine A_iadd (q := 101) cx dX8_tellLink_100 rfl ?_
      refine A_iconst (v := 4) (q := 102) cx dX8_tellLink_101 (by decide) rfl ?_
      refine A_isub (q := 103) cx dX8_tellLink_102 rfl ?_
      refine A_iaload (q := 104) cx dX8_tellLink_103 rfl (in9 hX (by decide)) (ixS (ixA (ixA rfl (ixc 9)) rfl) (ixc 4) (by omega)) (by show _ < 235; omega) rfl ?_
      exact A_iret cx hlk hr hQ dX8_tellLink_104 (by unfold mTl; simp only [cl, hcw]; rw [if_neg s_1_2, if_neg s_1_3, if_pos s_1_4, if_neg c_83]) rfl
    · refine A_bipush (v := -4) (q := 88) cx dX8_tellLink_86 (by decide) rfl ?_
      refine A_goto (q := 104) cx dX8_tellLink_88 (by decide) ?_
      exact A_iret cx hlk hr hQ dX8_tellLink_104 (by unfold mTl; simp only [cl, hcw]; rw [if_neg s_1_2, if_neg s_1_3, if_pos s_1_4, if_pos c_83]) rfl
  by_cases s_1_5 : nI w = 5
  · refine A_tableIn (tgt := 72) cx dX8_tellLink_1 (by rw [s_1_5]; decide) (by rw [s_1_5]; decide) (by rw [s_1_5]; rfl) (by decide) ?_
    refine A_aload_n (q := 73) cx dX8_tellLink_72 rfl rfl rfl ?_
    refine gX8_3 (q := 76) cx wi_X8_tellLink_X8 wf_X8_tellLink_7 dX8_tellLink_73 rfl (in8 hX) rfl rfl ?_
    refine A_iload_n (q := 77) cx dX8_tellLink_76 rfl rfl ?_
    refine A_bipush (v := 8) (q := 79) cx dX8_tellLink_77 (by decide) rfl ?_
    refine A_iadd (q := 80) cx dX8_tellLink_79 rfl ?_
    refine A_iaload (q := 81) cx dX8_tellLink_80 rfl (in9 hX (by decide)) (ixA rfl (ixc 8)) (by show _ < 235; omega) rfl ?_
    refine A_bipush (v := -4) (q := 83) cx dX8_tellLink_81 (by decide) rfl ?_
    refine A_icmp_ne (tgt := 91) (q := 86) cx dX8_tellLink_83 (by decide) rfl (fun c_83 => ?_) (fun c_83 => ?_)
    · refine A_aload_n (q := 92) cx dX8_tellLink_91 rfl rfl rfl ?_
      refine gX8_3 (q := 95) cx wi_X8_tellLink_X8 wf_X8_tellLink_7 dX8_tellLink_92 rfl (in8 hX) rfl rfl ?_
      refine A_iload_n (q := 96) cx dX8_tellLink_95 rfl rfl ?_
      refine A_bipush (v := 9) (q := 98) cx dX8_tellLink_96 (by decide) rfl ?_
      refine A_iadd (q := 99) cx dX8_tellLink_98 rfl ?_
      refine A_iload_n (q := 100) cx dX8_tellLink_99 rfl rfl ?_
      refine A_iadd (q := 101) cx dX8_tellLink_100 rfl ?_
      refine A_iconst (v := 4) (q := 102) cx dX8_tellLink_101 (by decide) rfl ?_
      refine A_isub (q := 103) cx dX8_tellLink_102 rfl ?_
      refine A_iaload (q := 104) cx dX8_tellLink_103 rfl (in9 hX (by decide)) (ixS (ixA (ixA rfl (ixc 9)) rfl) (ixc 4) (by omega)) (by show _ < 235; omega) rfl ?_
      exact A_iret cx hlk hr hQ dX8_tellLink_104 (by unfold mTl; simp only [cl, hcw]; rw [if_neg s_1_2, if_neg s_1_3, if_neg s_1_4, if_pos s_1_5, if_neg c_83]) rfl
    · refine A_bipush (v := -4) (q := 88) cx dX8_tellLink_86 (by decide) rfl ?_
      refine A_goto (q := 104) cx dX8_tellLink_88 (by decide) ?_
      exact A_iret cx hlk hr hQ dX8_tellLink_104 (by unfold mTl; simp only [cl, hcw]; rw [if_neg s_1_2, if_neg s_1_3, if_neg s_1_4, if_pos s_1_5, if_pos c_83]) rfl
  by_cases s_1_6 : nI w = 6
  · refine A_tableIn (tgt := 72) cx dX8_tellLink_1 (by rw [s_1_6]; decide) (by rw [s_1_6]; decide) (by rw [s_1_6]; rfl) (by decide) ?_
    refine A_aload_n (q := 73) cx dX8_tellLink_72 rfl rfl rfl ?_
    refine gX8_3 (q := 76) cx wi_X8_tellLink_X8 wf_X8_tellLink_7 dX8_tellLink_73 rfl (in8 hX) rfl rfl ?_
    refine A_iload_n (q := 77) cx dX8_tellLink_76 rfl rfl ?_
    refine A_bipush (v := 8) (q := 79) cx dX8_tellLink_77 (by decide) rfl ?_
    refine A_iadd (q := 80) cx dX8_tellLink_79 rfl ?_
    refine A_iaload (q := 81) cx dX8_tellLink_80 rfl (in9 hX (by decide)) (ixA rfl (ixc 8)) (by show _ < 235; omega) rfl ?_
    refine A_bipush (v := -4) (q := 83) cx dX8_tellLink_81 (by decide) rfl ?_
    refine A_icmp_ne (tgt := 91) (q := 86) cx dX8_tellLink_83 (by decide) rfl (fun c_83 => ?_) (fun c_83 => ?_)
    · refine A_aload_n (q := 92) cx dX8_tellLink_91 rfl rfl rfl ?_
      refine gX8_3 (q := 95) cx wi_X8_tellLink_X8 wf_X8_tellLink_7 dX8_tellLink_92 rfl (in8 hX) rfl rfl ?_
      refine A_iload_n (q := 96) cx dX8_tellLink_95 rfl rfl ?_
      refine A_bipush (v := 9) (q := 98) cx dX8_tellLink_96 (by decide) rfl ?_
      refine A_iadd (q := 99) cx dX8_tellLink_98 rfl ?_
      refine A_iload_n (q := 100) cx dX8_tellLink_99 rfl rfl ?_
      refine A_iadd (q := 101) cx dX8_tellLink_100 rfl ?_
      refine A_iconst (v := 4) (q := 102) cx dX8_tellLink_101 (by decide) rfl ?_
      refine A_isub (q := 103) cx dX8_tellLink_102 rfl ?_
      refine A_iaload (q := 104) cx dX8_tellLink_103 rfl (in9 hX (by decide)) (ixS (ixA (ixA rfl (ixc 9)) rfl) (ixc 4) (by omega)) (by show _ < 235; omega) rfl ?_
      exact A_iret cx hlk hr hQ dX8_tellLink_104 (by unfold mTl; simp only [cl, hcw]; rw [if_neg s_1_2, if_neg s_1_3, if_neg s_1_4, if_neg s_1_5, if_pos s_1_6, if_neg c_83]) rfl
    · refine A_bipush (v := -4) (q := 88) cx dX8_tellLink_86 (by decide) rfl ?_
      refine A_goto (q := 104) cx dX8_tellLink_88 (by decide) ?_
      exact A_iret cx hlk hr hQ dX8_tellLink_104 (by unfold mTl; simp only [cl, hcw]; rw [if_neg s_1_2, if_neg s_1_3, if_neg s_1_4, if_neg s_1_5, if_pos s_1_6, if_pos c_83]) rfl
  by_cases s_1_7 : nI w = 7
  · refine A_tableIn (tgt := 72) cx dX8_tellLink_1 (by rw [s_1_7]; decide) (by rw [s_1_7]; decide) (by rw [s_1_7]; rfl) (by decide) ?_
    refine A_aload_n (q := 73) cx dX8_tellLink_72 rfl rfl rfl ?_
    refine gX8_3 (q := 76) cx wi_X8_tellLink_X8 wf_X8_tellLink_7 dX8_tellLink_73 rfl (in8 hX) rfl rfl ?_
    refine A_iload_n (q := 77) cx dX8_tellLink_76 rfl rfl ?_
    refine A_bipush (v := 8) (q := 79) cx dX8_tellLink_77 (by decide) rfl ?_
    refine A_iadd (q := 80) cx dX8_tellLink_79 rfl ?_
    refine A_iaload (q := 81) cx dX8_tellLink_80 rfl (in9 hX (by decide)) (ixA rfl (ixc 8)) (by show _ < 235; omega) rfl ?_
    refine A_bipush (v := -4) (q := 83) cx dX8_tellLink_81 (by decide) rfl ?_
    refine A_icmp_ne (tgt := 91) (q := 86) cx dX8_tellLink_83 (by decide) rfl (fun c_83 => ?_) (fun c_83 => ?_)
    · refine A_aload_n (q := 92) cx dX8_tellLink_91 rfl rfl rfl ?_
      refine gX8_3 (q := 95) cx wi_X8_tellLink_X8 wf_X8_tellLink_7 dX8_tellLink_92 rfl (in8 hX) rfl rfl ?_
      refine A_iload_n (q := 96) cx dX8_tellLink_95 rfl rfl ?_
      refine A_bipush (v := 9) (q := 98) cx dX8_tellLink_96 (by decide) rfl ?_
      refine A_iadd (q := 99) cx dX8_tellLink_98 rfl ?_
      refine A_iload_n (q := 100) cx dX8_tellLink_99 rfl rfl ?_
      refine A_iadd (q := 101) cx dX8_tellLink_100 rfl ?_
      refine A_iconst (v := 4) (q := 102) cx dX8_tellLink_101 (by decide) rfl ?_
      refine A_isub (q := 103) cx dX8_tellLink_102 rfl ?_
      refine A_iaload (q := 104) cx dX8_tellLink_103 rfl (in9 hX (by decide)) (ixS (ixA (ixA rfl (ixc 9)) rfl) (ixc 4) (by omega)) (by show _ < 235; omega) rfl ?_
      exact A_iret cx hlk hr hQ dX8_tellLink_104 (by unfold mTl; simp only [cl, hcw]; rw [if_neg s_1_2, if_neg s_1_3, if_neg s_1_4, if_neg s_1_5, if_neg s_1_6, if_pos s_1_7, if_neg c_83]) rfl
    · refine A_bipush (v := -4) (q := 88) cx dX8_tellLink_86 (by decide) rfl ?_
      refine A_goto (q := 104) cx dX8_tellLink_88 (by decide) ?_
      exact A_iret cx hlk hr hQ dX8_tellLink_104 (by unfold mTl; simp only [cl, hcw]; rw [if_neg s_1_2, if_neg s_1_3, if_neg s_1_4, if_neg s_1_5, if_neg s_1_6, if_pos s_1_7, if_pos c_83]) rfl
  by_cases s_1_8 : nI w = 8
  · refine A_tableIn (tgt := 105) cx dX8_tellLink_1 (by rw [s_1_8]; decide) (by rw [s_1_8]; decide) (by rw [s_1_8]; rfl) (by decide) ?_
    refine A_aload_n (q := 106) cx dX8_tellLink_105 rfl rfl rfl ?_
    refine gX8_3 (q := 109) cx wi_X8_tellLink_X8 wf_X8_tellLink_7 dX8_tellLink_106 rfl (in8 hX) rfl rfl ?_
    refine A_iload_n (q := 110) cx dX8_tellLink_109 rfl rfl ?_
    refine A_bipush (v := 13) (q := 112) cx dX8_tellLink_110 (by decide) rfl ?_
    refine A_iadd (q := 113) cx dX8_tellLink_112 rfl ?_
    refine A_iaload (q := 114) cx dX8_tellLink_113 rfl (in9 hX (by decide)) (ixA rfl (ixc 13)) (by show _ < 235; omega) rfl ?_
    exact A_iret cx hlk hr hQ dX8_tellLink_114 (by unfold mTl; simp only [cl, hcw]; rw [if_neg s_1_2, if_neg s_1_3, if_neg s_1_4, if_neg s_1_5, if_neg s_1_6, if_neg s_1_7, if_pos s_1_8]) rfl
  by_cases s_1_9 : nI w = 9
  · refine A_tableIn (tgt := 115) cx dX8_tellLink_1 (by rw [s_1_9]; decide) (by rw [s_1_9]; decide) (by rw [s_1_9]; rfl) (by decide) ?_
    refine A_aload_n (q := 116) cx dX8_tellLink_115 rfl rfl rfl ?_
    refine gX8_3 (q := 119) cx wi_X8_tellLink_X8 wf_X8_tellLink_7 dX8_tellLink_116 rfl (in8 hX) rfl rfl ?_
    refine A_iload_n (q := 120) cx dX8_tellLink_119 rfl rfl ?_
    refine A_bipush (v := 15) (q := 122) cx dX8_tellLink_120 (by decide) rfl ?_
    refine A_iadd (q := 123) cx dX8_tellLink_122 rfl ?_
    refine A_iaload (q := 124) cx dX8_tellLink_123 rfl (in9 hX (by decide)) (ixA rfl (ixc 15)) (by show _ < 235; omega) rfl ?_
    exact A_iret cx hlk hr hQ dX8_tellLink_124 (by unfold mTl; simp only [cl, hcw]; rw [if_neg s_1_2, if_neg s_1_3, if_neg s_1_4, if_neg s_1_5, if_neg s_1_6, if_neg s_1_7, if_neg s_1_8, if_pos s_1_9]) rfl
  by_cases s_1_10 : nI w = 10
  · refine A_tableIn (tgt := 125) cx dX8_tellLink_1 (by rw [s_1_10]; decide) (by rw [s_1_10]; decide) (by rw [s_1_10]; rfl) (by decide) ?_
    refine A_aload_n (q := 126) cx dX8_tellLink_125 rfl rfl rfl ?_
    refine gX8_3 (q := 129) cx wi_X8_tellLink_X8 wf_X8_tellLink_7 dX8_tellLink_126 rfl (in8 hX) rfl rfl ?_
    refine A_iload_n (q := 130) cx dX8_tellLink_129 rfl rfl ?_
    refine A_iconst (v := 2) (q := 131) cx dX8_tellLink_130 (by decide) rfl ?_
    refine A_iadd (q := 132) cx dX8_tellLink_131 rfl ?_
    refine A_iaload (q := 133) cx dX8_tellLink_132 rfl (in9 hX (by decide)) (ixA rfl (ixc 2)) (by show _ < 235; omega) rfl ?_
    exact A_iret cx hlk hr hQ dX8_tellLink_133 (by unfold mTl; simp only [cl, hcw]; rw [if_neg s_1_2, if_neg s_1_3, if_neg s_1_4, if_neg s_1_5, if_neg s_1_6, if_neg s_1_7, if_neg s_1_8, if_neg s_1_9, if_pos s_1_10]) rfl
  refine A_tableOut (tgt := 134) cx dX8_tellLink_1 (by have n_2 := lv_neT s_1_2 (a := 2) rfl; have n_3 := lv_neT s_1_3 (a := 3) rfl; have n_4 := lv_neT s_1_4 (a := 4) rfl; have n_5 := lv_neT s_1_5 (a := 5) rfl; have n_6 := lv_neT s_1_6 (a := 6) rfl; have n_7 := lv_neT s_1_7 (a := 7) rfl; have n_8 := lv_neT s_1_8 (a := 8) rfl; have n_9 := lv_neT s_1_9 (a := 9) rfl; have n_10 := lv_neT s_1_10 (a := 10) rfl; omega) (by decide) ?_
  refine A_aload_n (q := 135) cx dX8_tellLink_134 rfl rfl rfl ?_
  refine gX8_3 (q := 138) cx wi_X8_tellLink_X8 wf_X8_tellLink_7 dX8_tellLink_135 rfl (in8 hX) rfl rfl ?_
  refine A_iload_n (q := 139) cx dX8_tellLink_138 rfl rfl ?_
  refine A_iload_n (q := 140) cx dX8_tellLink_139 rfl rfl ?_
  refine A_iadd (q := 141) cx dX8_tellLink_140 rfl ?_
  refine A_iaload (q := 142) cx dX8_tellLink_141 rfl (in9 hX (by decide)) (ixA rfl rfl) (by show _ < 235; omega) rfl ?_
  exact A_iret cx hlk hr hQ dX8_tellLink_142 (by unfold mTl; simp only [cl, hcw]; rw [if_neg s_1_2, if_neg s_1_3, if_neg s_1_4, if_neg s_1_5, if_neg s_1_6, if_neg s_1_7, if_neg s_1_8, if_neg s_1_9, if_neg s_1_10]) rfl
set_option maxHeartbeats 1000000 in
set_option maxRecDepth 100000 in
theorem ct_X8_link {la : Launch} {E : Ev} (hE : okE E) (hX : yin E) {σ : Sg} {L : Nat} {x y w : Int32} (hL : σ (8, 0, 0, 0) 0 = nI L) (hL6 : L ≤ 6) : CI la yX8_link wsX8_link 2 43 E rh0 [.ref (ad E (8, 0, 0, 0)), .int x, .int y, .int w] σ (mLink σ x y w) σ := by
  refine met_of (lv := [some _, some _, some _, some _]) RX8 (by decide) rfl rfl rfl hE (ok4 rfl rfl rfl rfl) (Nat.le_of_ble_eq_true rfl) (fun p ev s m args below meth c Q cx hlk hr hQ => ?_)
  refine A_iload_n (q := 1) cx dX8_link_0 rfl rfl ?_
  refine SI1 (q := 4) cx (ct_X8_isEnd hE hX) (cwS 1 cx.1.2.2.2.2 gX8_link_X8_isEnd rfl rfl rfl (by decide +kernel) ⟨Nat.le_of_ble_eq_true rfl, Nat.le_of_ble_eq_true rfl⟩) dX8_link_1 rfl (Nat.le_of_ble_eq_true rfl) ⟨Nat.zero_le _, Nat.zero_le _⟩ rfl ?_
  refine A_if_eq (tgt := 38) (q := 7) cx dX8_link_4 (by decide) rfl (fun c_4 => ?_) (fun c_4 => ?_)
  · refine A_iconst (v := -1) (q := 39) cx dX8_link_38 (by decide) rfl ?_
    exact A_iret cx hlk hr hQ dX8_link_39 (by unfold mLink; first | (rw [if_pos c_4]; done) | (simp only [cl, hca, hcj]; rw [if_pos c_4]; done) | (simp only [cl, hca]; rw [if_pos c_4]; done)) rfl
  · obtain ⟨a, ha, rfl⟩ := zBit_in c_4
    have hca : (nI a).toNatClampNeg = a := nI_clamp (by omega)
    refine A_aload_n (q := 8) cx dX8_link_7 rfl rfl rfl ?_
    refine A_iload_n (q := 9) cx dX8_link_8 rfl rfl ?_
    refine VI1 (q := 12) cx (ct_X8_isLink hE hX) (cwV 1 cx.1.2.2.2.2 gX8_link_X8_isLink rfl rfl rfl (by decide +kernel) ⟨Nat.le_of_ble_eq_true rfl, Nat.le_of_ble_eq_true rfl⟩) dX8_link_9 rfl rfl (in8 hX) rfl (Nat.le_of_ble_eq_true rfl) ⟨Nat.zero_le _, Nat.zero_le _⟩ rfl ?_
    refine A_if_eq (tgt := 38) (q := 15) cx dX8_link_12 (by decide) rfl (fun c_12 => ?_) (fun c_12 => ?_)
    · refine A_iconst (v := -1) (q := 39) cx dX8_link_38 (by decide) rfl ?_
      exact A_iret cx hlk hr hQ dX8_link_39 (by unfold mLink; first | (rw [if_neg c_4, if_pos c_12]; done) | (simp only [cl, hca, hcj]; rw [if_neg c_4, if_pos c_12]; done) | (simp only [cl, hca]; rw [if_neg c_4, if_pos c_12]; done)) rfl
    · obtain ⟨j, hj, rfl⟩ := mWi_in2 hL (by omega) c_12
      have hcj : (nI j).toNatClampNeg = j := nI_clamp (by omega)
      refine A_iload_n (q := 16) cx dX8_link_15 rfl rfl ?_
      refine A_iconst (v := 0) (q := 17) cx dX8_link_16 (by decide) rfl ?_
      refine A_bipush (v := 10) (q := 19) cx dX8_link_17 (by decide) rfl ?_
      refine SI3 (q := 22) cx (ct_X8_within hE hX) (cwS 3 cx.1.2.2.2.2 gX8_link_X8_within rfl rfl rfl (by decide +kernel) ⟨Nat.le_of_ble_eq_true rfl, Nat.le_of_ble_eq_true rfl⟩) dX8_link_19 rfl (Nat.le_of_ble_eq_true rfl) ⟨Nat.zero_le _, Nat.zero_le _⟩ rfl ?_
      refine A_if_eq (tgt := 38) (q := 25) cx dX8_link_22 (by decide) rfl (fun c_22 => ?_) (fun c_22 => ?_)
      · refine A_iconst (v := -1) (q := 39) cx dX8_link_38 (by decide) rfl ?_
        exact A_iret cx hlk hr hQ dX8_link_39 (by unfold mLink; first | (rw [if_neg c_4, if_neg c_12, if_pos c_22]; done) | (simp only [cl, hca, hcj]; rw [if_neg c_4, if_neg c_12, if_pos c_22]; done) | (simp only [cl, hca]; rw [if_neg c_4, if_neg c_12, if_pos c_22]; done)) rfl
      · obtain ⟨w, hw, rfl⟩ := mWi_at 10 (by decide) c_22
        have hcw : (nI w).toNatClampNeg = w := nI_clamp (by omega)
        refine A_aload_n (q := 26) cx dX8_link_25 rfl rfl rfl ?_
        refine A_iload_n (q := 27) cx dX8_link_26 rfl rfl ?_
        refine A_iload_n (q := 28) cx dX8_link_27 rfl rfl ?_
        refine SI2 (q := 31) cx (ct_X8_place hE hX) (cwS 2 cx.1.2.2.2.2 gX8_link_X8_place rfl rfl rfl (by decide +kernel) ⟨Nat.le_of_ble_eq_true rfl, Nat.le_of_ble_eq_true rfl⟩) dX8_link_28 rfl (Nat.le_of_ble_eq_true rfl) ⟨Nat.zero_le _, Nat.zero_le _⟩ rfl ?_
        refine A_iload_n (q := 32) cx dX8_link_31 rfl rfl ?_
        refine VI2 (q := 35) cx (ct_X8_tellLink hE hX (by simp only [pl]; omega) (by omega)) (cwV 2 cx.1.2.2.2.2 gX8_link_X8_tellLink rfl rfl rfl (by decide +kernel) ⟨Nat.le_of_ble_eq_true rfl, Nat.le_of_ble_eq_true rfl⟩) dX8_link_32 rfl rfl (in8 hX) rfl (Nat.le_of_ble_eq_true rfl) ⟨Nat.zero_le _, Nat.zero_le _⟩ rfl ?_
        refine A_goto (q := 39) cx dX8_link_35 (by decide) ?_
        exact A_iret cx hlk hr hQ dX8_link_39 (by unfold mLink; first | (rw [if_neg c_4, if_neg c_12, if_neg c_22]; done) | (simp only [cl, hca, hcj]; rw [if_neg c_4, if_neg c_12, if_neg c_22]; done) | (simp only [cl, hca]; rw [if_neg c_4, if_neg c_12, if_neg c_22]; done)) rfl
theorem wi_X8_bundle_X8 : ∀ w ∈ u_ws RX8 TX8 18, w ∈ wsX8_bundle := by decide +kernel
theorem wf_X8_bundle_83 : Cond.fieldLink RX8 83 (TX8 0).1 (TX8 0).2.1 (TX8 0).2.2.1 ∈ wsX8_bundle := by decide +kernel
theorem wf_X8_bundle_7 : Cond.fieldLink RX8 7 (TX8 3).1 (TX8 3).2.1 (TX8 3).2.2.1 ∈ wsX8_bundle := by decide +kernel
set_option maxHeartbeats 1000000 in
set_option maxRecDepth 100000 in
theorem ct_X8_bundle {la : Launch} {E : Ev} (hE : okE E) (hX : yin E) {σ0 : Sg} {L : Nat} {x w : Int32} (hL : σ0 (8, 0, 0, 0) 0 = nI L) (hL6 : L ≤ 6) : CI la yX8_bundle wsX8_bundle 2 43 E rh0 [.ref (ad E (8, 0, 0, 0)), .int x, .int w] σ0 (mBundle σ0 L x w) σ0 := by
  refine met_of (lv := [some _, some _, some _, none, none, none, none]) RX8 (by decide) rfl rfl rfl hE (ok3 rfl rfl rfl) (Nat.le_of_ble_eq_true rfl) (fun p ev s m args below meth c Q cx hlk hr hQ => ?_)
  have l1 : ∀ (a : Nat), a < 2 → ∀ (Q : State → Prop), Q = MQ below (QI E rh0 (mBundle σ0 L (nI a) w) σ0) args s 0 0 (AL E) → ∀ (d i : Nat) (acc : Int32), i + d = L → orS (mBs σ0 a w) d i acc = mBundle σ0 L (nI a) w → AW p la ev (rmm 2 43) s m args below meth c 0 0 Q (AL E) E rh0 23 [some (.ref (ad E (8, 0, 0, 0))), some (.int (nI a)), some (.int w), some (.int acc), some (.int (nI i)), none, none] [] σ0 := by
    intro a ha Q hQ d
    induction d with
    | zero =>
      intro i acc hi hF
      refine A_iload (q := 25) cx dX8_bundle_23 rfl rfl ?_
      refine A_aload_n (q := 26) cx dX8_bundle_25 rfl rfl rfl ?_
      refine gX8_0 (q := 29) cx wi_X8_bundle_X8 wf_X8_bundle_83 dX8_bundle_26 rfl (in8 hX) rfl ?_
      refine A_icmp_ge (tgt := 126) (q := 32) cx dX8_bundle_29 (by decide) rfl (fun c_29 => ?_) (fun c_29 => ?_)
      · refine A_iload_n (q := 127) cx dX8_bundle_126 rfl rfl ?_
        exact A_iret cx hlk hr hQ dX8_bundle_127 hF rfl
      · exact absurd (lge hL (by omega) (by omega)) c_29
    | succ d ih =>
      intro i acc hi hF
      refine A_iload (q := 25) cx dX8_bundle_23 rfl rfl ?_
      refine A_aload_n (q := 26) cx dX8_bundle_25 rfl rfl rfl ?_
      refine gX8_0 (q := 29) cx wi_X8_bundle_X8 wf_X8_bundle_83 dX8_bundle_26 rfl (in8 hX) rfl ?_
      refine A_icmp_ge (tgt := 126) (q := 32) cx dX8_bundle_29 (by decide) rfl (fun c_29 => ?_) (fun c_29 => ?_)
      · exact absurd c_29 (lnge hL (by omega) (by omega))
      · refine A_iload_n (q := 33) cx dX8_bundle_32 rfl rfl ?_
        refine A_iload (q := 35) cx dX8_bundle_33 rfl rfl ?_
        refine SI2 (q := 38) cx (ct_X8_place hE hX) (cwS 2 cx.1.2.2.2.2 gX8_bundle_X8_place rfl rfl rfl (by decide +kernel) ⟨Nat.le_of_ble_eq_true rfl, Nat.le_of_ble_eq_true rfl⟩) dX8_bundle_35 rfl (Nat.le_of_ble_eq_true rfl) ⟨Nat.zero_le _, Nat.zero_le _⟩ rfl ?_
        refine A_istore (lv' := [some _, some _, some _, some _, some _, some _, none]) (q := 40) cx dX8_bundle_38 (Nat.le_of_ble_eq_true rfl) rfl rfl ?_
        refine A_iload_n (q := 41) cx dX8_bundle_40 rfl rfl ?_
        refine A_if_ne (tgt := 67) (q := 44) cx dX8_bundle_41 (by decide) rfl (fun c_41 => ?_) (fun c_41 => ?_)
        · refine A_iload_n (q := 68) cx dX8_bundle_67 rfl rfl ?_
          refine A_iconst (v := 1) (q := 69) cx dX8_bundle_68 (by decide) rfl ?_
          refine A_icmp_ne (tgt := 95) (q := 72) cx dX8_bundle_69 (by decide) rfl (fun c_69 => ?_) (fun c_69 => ?_)
          · refine A_aload_n (q := 96) cx dX8_bundle_95 rfl rfl rfl ?_
            refine A_iload_n (q := 97) cx dX8_bundle_96 rfl rfl ?_
            refine A_iload (q := 99) cx dX8_bundle_97 rfl rfl ?_
            refine VI2 (q := 102) cx (ct_X8_isSending hE hX) (cwV 2 cx.1.2.2.2.2 gX8_bundle_X8_isSending rfl rfl rfl (by decide +kernel) ⟨Nat.le_of_ble_eq_true rfl, Nat.le_of_ble_eq_true rfl⟩) dX8_bundle_99 rfl rfl (in8 hX) rfl (Nat.le_of_ble_eq_true rfl) ⟨Nat.zero_le _, Nat.zero_le _⟩ rfl ?_
            refine A_istore (lv' := [some _, some _, some _, some _, some _, some _, some _]) (q := 104) cx dX8_bundle_102 (Nat.le_of_ble_eq_true rfl) rfl rfl ?_
            refine A_iload_n (q := 105) cx dX8_bundle_104 rfl rfl ?_
            refine A_iload (q := 107) cx dX8_bundle_105 rfl rfl ?_
            refine A_if_eq (tgt := 117) (q := 110) cx dX8_bundle_107 (by decide) rfl (fun c_107 => ?_) (fun c_107 => ?_)
            · refine A_iconst (v := 0) (q := 118) cx dX8_bundle_117 (by decide) rfl ?_
              refine A_ior (q := 119) cx dX8_bundle_118 rfl ?_
              refine A_istore_n (lv' := [some _, some _, some _, some _, some _, some _, some _]) (q := 120) cx dX8_bundle_119 (Nat.le_of_ble_eq_true rfl) rfl rfl ?_
              refine A_iinc (lv' := [some _, some _, some _, some _, some _, some _, some _]) (q := 123) cx dX8_bundle_120 rfl (nI_1 i) rfl rfl ?_
              refine A_goto (q := 23) cx dX8_bundle_123 (by decide) ?_
              exact A_drop 5 rfl (A_drop 6 rfl (ih (i + 1) _ (by omega) (by rw [← hF, orS]; first | (simp only [mBs, *, if_true, if_false]; done) | (simp [mBs, *]; done))))
            · refine A_iconst (v := 1) (q := 111) cx dX8_bundle_110 (by decide) rfl ?_
              refine A_iload (q := 113) cx dX8_bundle_111 rfl rfl ?_
              refine A_ishl (q := 114) cx dX8_bundle_113 rfl ?_
              refine A_goto (q := 118) cx dX8_bundle_114 (by decide) ?_
              refine A_ior (q := 119) cx dX8_bundle_118 rfl ?_
              refine A_istore_n (lv' := [some _, some _, some _, some _, some _, some _, some _]) (q := 120) cx dX8_bundle_119 (Nat.le_of_ble_eq_true rfl) rfl rfl ?_
              refine A_iinc (lv' := [some _, some _, some _, some _, some _, some _, some _]) (q := 123) cx dX8_bundle_120 rfl (nI_1 i) rfl rfl ?_
              refine A_goto (q := 23) cx dX8_bundle_123 (by decide) ?_
              exact A_drop 5 rfl (A_drop 6 rfl (ih (i + 1) _ (by omega) (by rw [← hF, orS]; first | (simp only [mBs, *, if_true, if_false]; done) | (simp [mBs, *]; done))))
          · refine A_aload_n (q := 73) cx dX8_bundle_72 rfl rfl rfl ?_
            refine gX8_3 (q := 76) cx wi_X8_bundle_X8 wf_X8_bundle_7 dX8_bundle_73 rfl (in8 hX) rfl rfl ?_
            refine A_iload (q := 78) cx dX8_bundle_76 rfl rfl ?_
            refine A_bipush (v := 13) (q := 80) cx dX8_bundle_78 (by decide) rfl ?_
            refine A_iadd (q := 81) cx dX8_bundle_80 rfl ?_
            refine A_iaload (q := 82) cx dX8_bundle_81 rfl (in9 hX (by decide)) (ixA rfl (ixc 13)) (by show _ < 235; first | omega | (simp only [pl]; omega)) rfl ?_
            refine A_bipush (v := -4) (q := 84) cx dX8_bundle_82 (by decide) rfl ?_
            refine A_icmp_eq (tgt := 91) (q := 87) cx dX8_bundle_84 (by decide) rfl (fun c_84 => ?_) (fun c_84 => ?_)
            · refine A_iconst (v := 0) (q := 92) cx dX8_bundle_91 (by decide) rfl ?_
              refine A_goto (q := 102) cx dX8_bundle_92 (by decide) ?_
              refine A_istore (lv' := [some _, some _, some _, some _, some _, some _, some _]) (q := 104) cx dX8_bundle_102 (Nat.le_of_ble_eq_true rfl) rfl rfl ?_
              refine A_iload_n (q := 105) cx dX8_bundle_104 rfl rfl ?_
              refine A_iload (q := 107) cx dX8_bundle_105 rfl rfl ?_
              refine A_if_eq (tgt := 117) (q := 110) cx dX8_bundle_107 (by decide) rfl (fun c_107 => ?_) (fun c_107 => ?_)
              · refine A_iconst (v := 0) (q := 118) cx dX8_bundle_117 (by decide) rfl ?_
                refine A_ior (q := 119) cx dX8_bundle_118 rfl ?_
                refine A_istore_n (lv' := [some _, some _, some _, some _, some _, some _, some _]) (q := 120) cx dX8_bundle_119 (Nat.le_of_ble_eq_true rfl) rfl rfl ?_
                refine A_iinc (lv' := [some _, some _, some _, some _, some _, some _, some _]) (q := 123) cx dX8_bundle_120 rfl (nI_1 i) rfl rfl ?_
                refine A_goto (q := 23) cx dX8_bundle_123 (by decide) ?_
                exact A_drop 5 rfl (A_drop 6 rfl (ih (i + 1) _ (by omega) (by rw [← hF, orS]; first | (simp only [mBs, *, if_true, if_false]; done) | (simp [mBs, *]; done))))
              · exact absurd (by decide) c_107
            · refine A_iconst (v := 1) (q := 88) cx dX8_bundle_87 (by decide) rfl ?_
              refine A_goto (q := 102) cx dX8_bundle_88 (by decide) ?_
              refine A_istore (lv' := [some _, some _, some _, some _, some _, some _, some _]) (q := 104) cx dX8_bundle_102 (Nat.le_of_ble_eq_true rfl) rfl rfl ?_
              refine A_iload_n (q := 105) cx dX8_bundle_104 rfl rfl ?_
              refine A_iload (q := 107) cx dX8_bundle_105 rfl rfl ?_
              refine A_if_eq (tgt := 117) (q := 110) cx dX8_bundle_107 (by decide) rfl (fun c_107 => ?_) (fun c_107 => ?_)
              · exact absurd c_107 (by decide)
              · refine A_iconst (v := 1) (q := 111) cx dX8_bundle_110 (by decide) rfl ?_
                refine A_iload (q := 113) cx dX8_bundle_111 rfl rfl ?_
                refine A_ishl (q := 114) cx dX8_bundle_113 rfl ?_
                refine A_goto (q := 118) cx dX8_bundle_114 (by decide) ?_
                refine A_ior (q := 119) cx dX8_bundle_118 rfl ?_
                refine A_istore_n (lv' := [some _, some _, some _, some _, some _, some _, some _]) (q := 120) cx dX8_bundle_119 (Nat.le_of_ble_eq_true rfl) rfl rfl ?_
                refine A_iinc (lv' := [some _, some _, some _, some _, some _, some _, some _]) (q := 123) cx dX8_bundle_120 rfl (nI_1 i) rfl rfl ?_
                refine A_goto (q := 23) cx dX8_bundle_123 (by decide) ?_
                exact A_drop 5 rfl (A_drop 6 rfl (ih (i + 1) _ (by omega) (by rw [← hF, orS]; first | (simp only [mBs, *, if_true, if_false]; done) | (simp [mBs, *]; done))))
        · refine A_aload_n (q := 45) cx dX8_bundle_44 rfl rfl rfl ?_
          refine gX8_3 (q := 48) cx wi_X8_bundle_X8 wf_X8_bundle_7 dX8_bundle_45 rfl (in8 hX) rfl rfl ?_
          refine A_iload (q := 50) cx dX8_bundle_48 rfl rfl ?_
          refine A_bipush (v := 8) (q := 52) cx dX8_bundle_50 (by decide) rfl ?_
          refine A_iadd (q := 53) cx dX8_bundle_52 rfl ?_
          refine A_iaload (q := 54) cx dX8_bundle_53 rfl (in9 hX (by decide)) (ixA rfl (ixc 8)) (by show _ < 235; first | omega | (simp only [pl]; omega)) rfl ?_
          refine A_bipush (v := -4) (q := 56) cx dX8_bundle_54 (by decide) rfl ?_
          refine A_icmp_eq (tgt := 63) (q := 59) cx dX8_bundle_56 (by decide) rfl (fun c_56 => ?_) (fun c_56 => ?_)
          · refine A_iconst (v := 0) (q := 64) cx dX8_bundle_63 (by decide) rfl ?_
            refine A_goto (q := 102) cx dX8_bundle_64 (by decide) ?_
            refine A_istore (lv' := [some _, some _, some _, some _, some _, some _, some _]) (q := 104) cx dX8_bundle_102 (Nat.le_of_ble_eq_true rfl) rfl rfl ?_
            refine A_iload_n (q := 105) cx dX8_bundle_104 rfl rfl ?_
            refine A_iload (q := 107) cx dX8_bundle_105 rfl rfl ?_
            refine A_if_eq (tgt := 117) (q := 110) cx dX8_bundle_107 (by decide) rfl (fun c_107 => ?_) (fun c_107 => ?_)
            · refine A_iconst (v := 0) (q := 118) cx dX8_bundle_117 (by decide) rfl ?_
              refine A_ior (q := 119) cx dX8_bundle_118 rfl ?_
              refine A_istore_n (lv' := [some _, some _, some _, some _, some _, some _, some _]) (q := 120) cx dX8_bundle_119 (Nat.le_of_ble_eq_true rfl) rfl rfl ?_
              refine A_iinc (lv' := [some _, some _, some _, some _, some _, some _, some _]) (q := 123) cx dX8_bundle_120 rfl (nI_1 i) rfl rfl ?_
              refine A_goto (q := 23) cx dX8_bundle_123 (by decide) ?_
              exact A_drop 5 rfl (A_drop 6 rfl (ih (i + 1) _ (by omega) (by rw [← hF, orS]; first | (simp only [mBs, *, if_true, if_false]; done) | (simp [mBs, *]; done))))
            · exact absurd (by decide) c_107
          · refine A_iconst (v := 1) (q := 60) cx dX8_bundle_59 (by decide) rfl ?_
            refine A_goto (q := 102) cx dX8_bundle_60 (by decide) ?_
            refine A_istore (lv' := [some _, some _, some _, some _, some _, some _, some _]) (q := 104) cx dX8_bundle_102 (Nat.le_of_ble_eq_true rfl) rfl rfl ?_
            refine A_iload_n (q := 105) cx dX8_bundle_104 rfl rfl ?_
            refine A_iload (q := 107) cx dX8_bundle_105 rfl rfl ?_
            refine A_if_eq (tgt := 117) (q := 110) cx dX8_bundle_107 (by decide) rfl (fun c_107 => ?_) (fun c_107 => ?_)
            · exact absurd c_107 (by decide)
            · refine A_iconst (v := 1) (q := 111) cx dX8_bundle_110 (by decide) rfl ?_
              refine A_iload (q := 113) cx dX8_bundle_111 rfl rfl ?_
              refine A_ishl (q := 114) cx dX8_bundle_113 rfl ?_
              refine A_goto (q := 118) cx dX8_bundle_114 (by decide) ?_
              refine A_ior (q := 119) cx dX8_bundle_118 rfl ?_
              refine A_istore_n (lv' := [some _, some _, some _, some _, some _, some _, some _]) (q := 120) cx dX8_bundle_119 (Nat.le_of_ble_eq_true rfl) rfl rfl ?_
              refine A_iinc (lv' := [some _, some _, some _, some _, some _, some _, some _]) (q := 123) cx dX8_bundle_120 rfl (nI_1 i) rfl rfl ?_
              refine A_goto (q := 23) cx dX8_bundle_123 (by decide) ?_
              exact A_drop 5 rfl (A_drop 6 rfl (ih (i + 1) _ (by omega) (by rw [← hF, orS]; first | (simp only [mBs, *, if_true, if_false]; done) | (simp [mBs, *]; done))))
  refine A_iload_n (q := 1) cx dX8_bundle_0 rfl rfl ?_
  refine SI1 (q := 4) cx (ct_X8_isEnd hE hX) (cwS 1 cx.1.2.2.2.2 gX8_bundle_X8_isEnd rfl rfl rfl (by decide +kernel) ⟨Nat.le_of_ble_eq_true rfl, Nat.le_of_ble_eq_true rfl⟩) dX8_bundle_1 rfl (Nat.le_of_ble_eq_true rfl) ⟨Nat.zero_le _, Nat.zero_le _⟩ rfl ?_
  refine A_if_eq (tgt := 16) (q := 7) cx dX8_bundle_4 (by decide) rfl (fun c_4 => ?_) (fun c_4 => ?_)
  · refine A_iconst (v := -1) (q := 17) cx dX8_bundle_16 (by decide) rfl ?_
    exact A_iret cx hlk hr hQ dX8_bundle_17 (by unfold mBundle; rw [if_pos c_4]) rfl
  · obtain ⟨a, ha, rfl⟩ := zBit_in c_4
    have hca : (nI a).toNatClampNeg = a := nI_clamp (by omega)
    refine A_iload_n (q := 8) cx dX8_bundle_7 rfl rfl ?_
    refine A_iconst (v := 0) (q := 9) cx dX8_bundle_8 (by decide) rfl ?_
    refine A_iconst (v := 2) (q := 10) cx dX8_bundle_9 (by decide) rfl ?_
    refine SI3 (q := 13) cx (ct_X8_within hE hX) (cwS 3 cx.1.2.2.2.2 gX8_bundle_X8_within rfl rfl rfl (by decide +kernel) ⟨Nat.le_of_ble_eq_true rfl, Nat.le_of_ble_eq_true rfl⟩) dX8_bundle_10 rfl (Nat.le_of_ble_eq_true rfl) ⟨Nat.zero_le _, Nat.zero_le _⟩ rfl ?_
    refine A_if_ne (tgt := 18) (q := 16) cx dX8_bundle_13 (by decide) rfl (fun c_13 => ?_) (fun c_13 => ?_)
    · refine A_iconst (v := 0) (q := 19) cx dX8_bundle_18 (by decide) rfl ?_
      refine A_istore_n (lv' := [some _, some _, some _, some _, none, none, none]) (q := 20) cx dX8_bundle_19 (Nat.le_of_ble_eq_true rfl) rfl rfl ?_
      refine A_iconst (v := 0) (q := 21) cx dX8_bundle_20 (by decide) rfl ?_
      refine A_istore (lv' := [some _, some _, some _, some _, some _, none, none]) (q := 23) cx dX8_bundle_21 (Nat.le_of_ble_eq_true rfl) rfl rfl ?_
      exact l1 a ha Q hQ L 0 _ (by omega) (by unfold mBundle; simp only [cl, hca]; rw [if_neg c_4, if_neg c_13])
    · refine A_iconst (v := -1) (q := 17) cx dX8_bundle_16 (by decide) rfl ?_
      exact A_iret cx hlk hr hQ dX8_bundle_17 (by unfold mBundle; rw [if_neg c_4, if_pos c_13]) rfl
theorem wi_X8_flow_X8 : ∀ w ∈ u_ws RX8 TX8 18, w ∈ wsX8_flow := by decide +kernel
theorem wf_X8_flow_7 : Cond.fieldLink RX8 7 (TX8 3).1 (TX8 3).2.1 (TX8 3).2.2.1 ∈ wsX8_flow := by decide +kernel
set_option maxHeartbeats 1000000 in
set_option maxRecDepth 100000 in
theorem ct_X8_flow {la : Launch} {E : Ev} (hE : okE E) (hX : yin E) {σ : Sg} {L : Nat} {x y w : Int32} (hL : σ (8, 0, 0, 0) 0 = nI L) (hL6 : L ≤ 6) : CI la yX8_flow wsX8_flow 3 68 E rh0 [.ref (ad E (8, 0, 0, 0)), .int x, .int y, .int w] σ (mFlow σ L x y w) σ := by
  refine met_of (lv := [some _, some _, some _, some _]) RX8 (by decide) rfl rfl rfl hE (ok4 rfl rfl rfl rfl) (Nat.le_of_ble_eq_true rfl) (fun p ev s m args below meth c Q cx hlk hr hQ => ?_)
  refine A_iload_n (q := 1) cx dX8_flow_0 rfl rfl ?_
  refine SI1 (q := 4) cx (ct_X8_isEnd hE hX) (cwS 1 cx.1.2.2.2.2 gX8_flow_X8_isEnd rfl rfl rfl (by decide +kernel) ⟨Nat.le_of_ble_eq_true rfl, Nat.le_of_ble_eq_true rfl⟩) dX8_flow_1 rfl (Nat.le_of_ble_eq_true rfl) ⟨Nat.zero_le _, Nat.zero_le _⟩ rfl ?_
  refine A_if_eq (tgt := 23) (q := 7) cx dX8_flow_4 (by decide) rfl (fun c_4 => ?_) (fun c_4 => ?_)
  · refine A_iconst (v := -1) (q := 24) cx dX8_flow_23 (by decide) rfl ?_
    exact A_iret cx hlk hr hQ dX8_flow_24 (by unfold mFlow; first | (rw [if_pos c_4]; done) | (simp only [cl, hca, hcf, hcw]; rw [if_pos c_4]; done) | (simp only [cl, hca, hcf]; rw [if_pos c_4]; done) | (simp only [cl, hca]; rw [if_pos c_4]; done)) rfl
  · obtain ⟨a, ha, rfl⟩ := zBit_in c_4
    have hca : (nI a).toNatClampNeg = a := nI_clamp (by omega)
    refine A_iload_n (q := 8) cx dX8_flow_7 rfl rfl ?_
    refine SI1 (q := 11) cx (ct_X8_isFlow hE hX) (cwS 1 cx.1.2.2.2.2 gX8_flow_X8_isFlow rfl rfl rfl (by decide +kernel) ⟨Nat.le_of_ble_eq_true rfl, Nat.le_of_ble_eq_true rfl⟩) dX8_flow_8 rfl (Nat.le_of_ble_eq_true rfl) ⟨Nat.zero_le _, Nat.zero_le _⟩ rfl ?_
    refine A_if_eq (tgt := 23) (q := 14) cx dX8_flow_11 (by decide) rfl (fun c_11 => ?_) (fun c_11 => ?_)
    · refine A_iconst (v := -1) (q := 24) cx dX8_flow_23 (by decide) rfl ?_
      exact A_iret cx hlk hr hQ dX8_flow_24 (by unfold mFlow; first | (rw [if_neg c_4, if_pos c_11]; done) | (simp only [cl, hca, hcf, hcw]; rw [if_neg c_4, if_pos c_11]; done) | (simp only [cl, hca, hcf]; rw [if_neg c_4, if_pos c_11]; done) | (simp only [cl, hca]; rw [if_neg c_4, if_pos c_11]; done)) rfl
    · obtain ⟨f, hf, rfl⟩ := mWi_at 7 (by decide) c_11
      have hcf : (nI f).toNatClampNeg = f := nI_clamp (by omega)
      refine A_iload_n (q := 15) cx dX8_flow_14 rfl rfl ?_
      refine A_iconst (v := 0) (q := 16) cx dX8_flow_15 (by decide) rfl ?_
      refine A_iconst (v := 2) (q := 17) cx dX8_flow_16 (by decide) rfl ?_
      refine SI3 (q := 20) cx (ct_X8_within hE hX) (cwS 3 cx.1.2.2.2.2 gX8_flow_X8_within rfl rfl rfl (by decide +kernel) ⟨Nat.le_of_ble_eq_true rfl, Nat.le_of_ble_eq_true rfl⟩) dX8_flow_17 rfl (Nat.le_of_ble_eq_true rfl) ⟨Nat.zero_le _, Nat.zero_le _⟩ rfl ?_
      refine A_if_ne (tgt := 25) (q := 23) cx dX8_flow_20 (by decide) rfl (fun c_20 => ?_) (fun c_20 => ?_)
      · obtain ⟨w, hw, rfl⟩ := mWi_at 2 (by decide) c_20
        have hcw : (nI w).toNatClampNeg = w := nI_clamp (by omega)
        refine A_iload_n (q := 26) cx dX8_flow_25 rfl rfl ?_
        refine A_iconst (v := 2) (q := 27) cx dX8_flow_26 (by decide) rfl ?_
        refine A_icmp_ge (tgt := 51) (q := 30) cx dX8_flow_27 (by decide) rfl (fun c_27 => ?_) (fun c_27 => ?_)
        · refine A_aload_n (q := 52) cx dX8_flow_51 rfl rfl rfl ?_
          refine A_iload_n (q := 53) cx dX8_flow_52 rfl rfl ?_
          refine A_iload_n (q := 54) cx dX8_flow_53 rfl rfl ?_
          refine VI2 (q := 57) cx (ct_X8_wants hE hX hL hL6) (cwV 2 cx.1.2.2.2.2 gX8_flow_X8_wants rfl rfl rfl (by decide +kernel) ⟨Nat.le_of_ble_eq_true rfl, Nat.le_of_ble_eq_true rfl⟩) dX8_flow_54 rfl rfl (in8 hX) rfl (Nat.le_of_ble_eq_true rfl) ⟨Nat.zero_le _, Nat.zero_le _⟩ rfl ?_
          exact A_iret cx hlk hr hQ dX8_flow_57 (by unfold mFlow; first | (rw [if_neg c_4, if_neg c_11, if_neg c_20, if_pos c_27]; done) | (simp only [cl, hca, hcf, hcw]; rw [if_neg c_4, if_neg c_11, if_neg c_20, if_pos c_27]; done) | (simp only [cl, hca, hcf]; rw [if_neg c_4, if_neg c_11, if_neg c_20, if_pos c_27]; done) | (simp only [cl, hca]; rw [if_neg c_4, if_neg c_11, if_neg c_20, if_pos c_27]; done)) rfl
        · refine A_aload_n (q := 31) cx dX8_flow_30 rfl rfl rfl ?_
          refine gX8_3 (q := 34) cx wi_X8_flow_X8 wf_X8_flow_7 dX8_flow_31 rfl (in8 hX) rfl rfl ?_
          refine A_bipush (v := 10) (q := 36) cx dX8_flow_34 (by decide) rfl ?_
          refine A_iconst (v := 2) (q := 37) cx dX8_flow_36 (by decide) rfl ?_
          refine A_bipush (v := 8) (q := 39) cx dX8_flow_37 (by decide) rfl ?_
          refine A_iload_n (q := 40) cx dX8_flow_39 rfl rfl ?_
          refine A_imul (q := 41) cx dX8_flow_40 rfl ?_
          refine A_iload_n (q := 42) cx dX8_flow_41 rfl rfl ?_
          refine A_iadd (q := 43) cx dX8_flow_42 rfl ?_
          refine A_imul (q := 44) cx dX8_flow_43 rfl ?_
          refine A_iadd (q := 45) cx dX8_flow_44 rfl ?_
          refine A_iload_n (q := 46) cx dX8_flow_45 rfl rfl ?_
          refine A_iadd (q := 47) cx dX8_flow_46 rfl ?_
          refine A_iaload (q := 48) cx dX8_flow_47 rfl (in9 hX (by decide)) (ixA (ixA (ixc 10) (ixM (ixc 2) (ixA (ixM (ixc 8) rfl) rfl))) rfl) (by show _ < 235; omega) rfl ?_
          refine A_goto (q := 57) cx dX8_flow_48 (by decide) ?_
          exact A_iret cx hlk hr hQ dX8_flow_57 (by unfold mFlow; first | (rw [if_neg c_4, if_neg c_11, if_neg c_20, if_neg c_27]; done) | (simp only [cl, hca, hcf, hcw]; rw [if_neg c_4, if_neg c_11, if_neg c_20, if_neg c_27]; done) | (simp only [cl, hca, hcf]; rw [if_neg c_4, if_neg c_11, if_neg c_20, if_neg c_27]; done) | (simp only [cl, hca]; rw [if_neg c_4, if_neg c_11, if_neg c_20, if_neg c_27]; done)) rfl
      · refine A_iconst (v := -1) (q := 24) cx dX8_flow_23 (by decide) rfl ?_
        exact A_iret cx hlk hr hQ dX8_flow_24 (by unfold mFlow; first | (rw [if_neg c_4, if_neg c_11, if_pos c_20]; done) | (simp only [cl, hca, hcf, hcw]; rw [if_neg c_4, if_neg c_11, if_pos c_20]; done) | (simp only [cl, hca, hcf]; rw [if_neg c_4, if_neg c_11, if_pos c_20]; done) | (simp only [cl, hca]; rw [if_neg c_4, if_neg c_11, if_pos c_20]; done)) rfl
theorem wi_X8_frames_X8 : ∀ w ∈ u_ws RX8 TX8 18, w ∈ wsX8_frames := by decide +kernel
theorem wf_X8_frames_19 : Cond.fieldLink RX8 19 (TX8 7).1 (TX8 7).2.1 (TX8 7).2.2.1 ∈ wsX8_frames := by decide +kernel
set_option maxHeartbeats 1000000 in
set_option maxRecDepth 100000 in
theorem ct_X8_frames {la : Launch} {E : Ev} (hE : okE E) (hX : yin E) {σ : Sg} {L : Nat} {x y : Int32} (hL : σ (8, 0, 0, 0) 0 = nI L) (hL6 : L ≤ 6) : CI la yX8_frames wsX8_frames 2 43 E rh0 [.ref (ad E (8, 0, 0, 0)), .int x, .int y] σ (mFrames σ x y) σ := by
  refine met_of (lv := [some _, some _, some _]) RX8 (by decide) rfl rfl rfl hE (ok3 rfl rfl rfl) (Nat.le_of_ble_eq_true rfl) (fun p ev s m args below meth c Q cx hlk hr hQ => ?_)
  refine A_iload_n (q := 1) cx dX8_frames_0 rfl rfl ?_
  refine SI1 (q := 4) cx (ct_X8_isEnd hE hX) (cwS 1 cx.1.2.2.2.2 gX8_frames_X8_isEnd rfl rfl rfl (by decide +kernel) ⟨Nat.le_of_ble_eq_true rfl, Nat.le_of_ble_eq_true rfl⟩) dX8_frames_1 rfl (Nat.le_of_ble_eq_true rfl) ⟨Nat.zero_le _, Nat.zero_le _⟩ rfl ?_
  refine A_if_eq (tgt := 29) (q := 7) cx dX8_frames_4 (by decide) rfl (fun c_4 => ?_) (fun c_4 => ?_)
  · refine A_iconst (v := -1) (q := 30) cx dX8_frames_29 (by decide) rfl ?_
    exact A_iret cx hlk hr hQ dX8_frames_30 (by unfold mFrames; first | (rw [if_pos c_4]; done) | (simp only [cl, hca, hcj]; rw [if_pos c_4]; done) | (simp only [cl, hca]; rw [if_pos c_4]; done)) rfl
  · obtain ⟨a, ha, rfl⟩ := zBit_in c_4
    have hca : (nI a).toNatClampNeg = a := nI_clamp (by omega)
    refine A_aload_n (q := 8) cx dX8_frames_7 rfl rfl rfl ?_
    refine A_iload_n (q := 9) cx dX8_frames_8 rfl rfl ?_
    refine VI1 (q := 12) cx (ct_X8_isLink hE hX) (cwV 1 cx.1.2.2.2.2 gX8_frames_X8_isLink rfl rfl rfl (by decide +kernel) ⟨Nat.le_of_ble_eq_true rfl, Nat.le_of_ble_eq_true rfl⟩) dX8_frames_9 rfl rfl (in8 hX) rfl (Nat.le_of_ble_eq_true rfl) ⟨Nat.zero_le _, Nat.zero_le _⟩ rfl ?_
    refine A_if_eq (tgt := 29) (q := 15) cx dX8_frames_12 (by decide) rfl (fun c_12 => ?_) (fun c_12 => ?_)
    · refine A_iconst (v := -1) (q := 30) cx dX8_frames_29 (by decide) rfl ?_
      exact A_iret cx hlk hr hQ dX8_frames_30 (by unfold mFrames; first | (rw [if_neg c_4, if_pos c_12]; done) | (simp only [cl, hca, hcj]; rw [if_neg c_4, if_pos c_12]; done) | (simp only [cl, hca]; rw [if_neg c_4, if_pos c_12]; done)) rfl
    · obtain ⟨j, hj, rfl⟩ := mWi_in2 hL (by omega) c_12
      have hcj : (nI j).toNatClampNeg = j := nI_clamp (by omega)
      refine A_aload_n (q := 16) cx dX8_frames_15 rfl rfl rfl ?_
      refine gX8_7 (q := 19) cx wi_X8_frames_X8 wf_X8_frames_19 dX8_frames_16 rfl (in8 hX) rfl rfl ?_
      refine A_bipush (v := 6) (q := 21) cx dX8_frames_19 (by decide) rfl ?_
      refine A_iload_n (q := 22) cx dX8_frames_21 rfl rfl ?_
      refine A_imul (q := 23) cx dX8_frames_22 rfl ?_
      refine A_iload_n (q := 24) cx dX8_frames_23 rfl rfl ?_
      refine A_iadd (q := 25) cx dX8_frames_24 rfl ?_
      refine A_iaload (q := 26) cx dX8_frames_25 rfl (in9 hX (by decide)) (ixA (ixM (ixc 6) rfl) rfl) (by show _ < 12; omega) rfl ?_
      refine A_goto (q := 30) cx dX8_frames_26 (by decide) ?_
      exact A_iret cx hlk hr hQ dX8_frames_30 (by unfold mFrames; first | (rw [if_neg c_4, if_neg c_12]; done) | (simp only [cl, hca, hcj]; rw [if_neg c_4, if_neg c_12]; done) | (simp only [cl, hca]; rw [if_neg c_4, if_neg c_12]; done)) rfl
theorem wi_X8_frame_X8 : ∀ w ∈ u_ws RX8 TX8 18, w ∈ wsX8_frame := by decide +kernel
theorem wf_X8_frame_7 : Cond.fieldLink RX8 7 (TX8 3).1 (TX8 3).2.1 (TX8 3).2.2.1 ∈ wsX8_frame := by decide +kernel
theorem wf_X8_frame_19 : Cond.fieldLink RX8 19 (TX8 7).1 (TX8 7).2.1 (TX8 7).2.2.1 ∈ wsX8_frame := by decide +kernel
set_option maxHeartbeats 1000000 in
set_option maxRecDepth 100000 in
theorem ct_X8_frame {la : Launch} {E : Ev} (hE : okE E) (hX : yin E) {σ : Sg} {x y : Int32} (hFl : okF σ) : CI la yX8_frame wsX8_frame 2 43 E rh0 [.ref (ad E (8, 0, 0, 0)), .int x, .int y] σ (mFrame σ x y).1 (mFrame σ x y).2 := by
  refine met_of (lv := [some _, some _, some _, none, none]) RX8 (by decide) rfl rfl rfl hE (ok3 rfl rfl rfl) (Nat.le_of_ble_eq_true rfl) (fun p ev s m args below meth c Q cx hlk hr hQ => ?_)
  refine A_iload_n (q := 1) cx dX8_frame_0 rfl rfl ?_
  refine SI1 (q := 4) cx (ct_X8_isEnd hE hX) (cwS 1 cx.1.2.2.2.2 gX8_frame_X8_isEnd rfl rfl rfl (by decide +kernel) ⟨Nat.le_of_ble_eq_true rfl, Nat.le_of_ble_eq_true rfl⟩) dX8_frame_1 rfl (Nat.le_of_ble_eq_true rfl) ⟨Nat.zero_le _, Nat.zero_le _⟩ rfl ?_
  refine A_if_eq (tgt := 14) (q := 7) cx dX8_frame_4 (by decide) rfl (fun c_4 => ?_) (fun c_4 => ?_)
  · refine A_iconst (v := -1) (q := 15) cx dX8_frame_14 (by decide) rfl ?_
    exact A_iret cx hlk hr hQ dX8_frame_15 (by unfold mFrame; first | (rw [if_pos c_4]; done) | (simp only [cl, hca, hcf, hcl2]; rw [if_pos c_4]; done) | (simp only [cl, hca, hcf]; rw [if_pos c_4]; done) | (simp only [cl, hca]; rw [if_pos c_4]; done)) (by unfold mFrame; first | (rw [if_pos c_4]; done) | (simp only [cl, hca, hcf, hcl2]; rw [if_pos c_4]; done) | (simp only [cl, hca, hcf]; rw [if_pos c_4]; done) | (simp only [cl, hca]; rw [if_pos c_4]; done))
  · obtain ⟨a, ha, rfl⟩ := zBit_in c_4
    have hca : (nI a).toNatClampNeg = a := nI_clamp (by omega)
    refine A_iload_n (q := 8) cx dX8_frame_7 rfl rfl ?_
    refine SI1 (q := 11) cx (ct_X8_isFlow hE hX) (cwS 1 cx.1.2.2.2.2 gX8_frame_X8_isFlow rfl rfl rfl (by decide +kernel) ⟨Nat.le_of_ble_eq_true rfl, Nat.le_of_ble_eq_true rfl⟩) dX8_frame_8 rfl (Nat.le_of_ble_eq_true rfl) ⟨Nat.zero_le _, Nat.zero_le _⟩ rfl ?_
    refine A_if_ne (tgt := 16) (q := 14) cx dX8_frame_11 (by decide) rfl (fun c_11 => ?_) (fun c_11 => ?_)
    · obtain ⟨f, hf, rfl⟩ := mWi_at 7 (by decide) c_11
      have hcf : (nI f).toNatClampNeg = f := nI_clamp (by omega)
      refine A_bipush (v := 10) (q := 18) cx dX8_frame_16 (by decide) rfl ?_
      refine A_iconst (v := 2) (q := 19) cx dX8_frame_18 (by decide) rfl ?_
      refine A_bipush (v := 8) (q := 21) cx dX8_frame_19 (by decide) rfl ?_
      refine A_iload_n (q := 22) cx dX8_frame_21 rfl rfl ?_
      refine A_imul (q := 23) cx dX8_frame_22 rfl ?_
      refine A_iload_n (q := 24) cx dX8_frame_23 rfl rfl ?_
      refine A_iadd (q := 25) cx dX8_frame_24 rfl ?_
      refine A_imul (q := 26) cx dX8_frame_25 rfl ?_
      refine A_iadd (q := 27) cx dX8_frame_26 rfl ?_
      refine A_istore_n (lv' := [some _, some _, some _, some _, none]) (q := 28) cx dX8_frame_27 (Nat.le_of_ble_eq_true rfl) rfl rfl ?_
      refine A_aload_n (q := 29) cx dX8_frame_28 rfl rfl rfl ?_
      refine gX8_3 (q := 32) cx wi_X8_frame_X8 wf_X8_frame_7 dX8_frame_29 rfl (in8 hX) rfl rfl ?_
      refine A_iload_n (q := 33) cx dX8_frame_32 rfl rfl ?_
      refine A_iconst (v := 1) (q := 34) cx dX8_frame_33 (by decide) rfl ?_
      refine A_iadd (q := 35) cx dX8_frame_34 rfl ?_
      refine A_iaload (q := 36) cx dX8_frame_35 rfl (in9 hX (by decide)) (ixA (ixA (ixc 10) (ixM (ixc 2) (ixA (ixM (ixc 8) rfl) rfl))) (ixc 1)) (by show _ < 235; omega) rfl ?_
      refine A_if_le (tgt := 42) (q := 39) cx dX8_frame_36 (by decide) rfl (fun c_36 => ?_) (fun c_36 => ?_)
      · refine A_aload_n (q := 43) cx dX8_frame_42 rfl rfl rfl ?_
        refine gX8_3 (q := 46) cx wi_X8_frame_X8 wf_X8_frame_7 dX8_frame_43 rfl (in8 hX) rfl rfl ?_
        refine A_iload_n (q := 47) cx dX8_frame_46 rfl rfl ?_
        refine A_iaload (q := 48) cx dX8_frame_47 rfl (in9 hX (by decide)) (ixA (ixc 10) (ixM (ixc 2) (ixA (ixM (ixc 8) rfl) rfl))) (by show _ < 235; omega) rfl ?_
        refine A_istore (lv' := [some _, some _, some _, some _, some _]) (q := 50) cx dX8_frame_48 (Nat.le_of_ble_eq_true rfl) rfl rfl ?_
        refine A_iload (q := 52) cx dX8_frame_50 rfl rfl ?_
        refine A_bipush (v := -4) (q := 54) cx dX8_frame_52 (by decide) rfl ?_
        refine A_icmp_eq (tgt := 67) (q := 57) cx dX8_frame_54 (by decide) rfl (fun c_54 => ?_) (fun c_54 => ?_)
        · refine A_bipush (v := -4) (q := 69) cx dX8_frame_67 (by decide) rfl ?_
          exact A_iret cx hlk hr hQ dX8_frame_69 (by unfold mFrame; first | (rw [if_neg c_4, if_neg c_11, if_pos c_36, if_pos c_54]; done) | (simp only [cl, hca, hcf, hcl2]; rw [if_neg c_4, if_neg c_11, if_pos c_36, if_pos c_54]; done) | (simp only [cl, hca, hcf]; rw [if_neg c_4, if_neg c_11, if_pos c_36, if_pos c_54]; done) | (simp only [cl, hca]; rw [if_neg c_4, if_neg c_11, if_pos c_36, if_pos c_54]; done)) (by unfold mFrame; first | (rw [if_neg c_4, if_neg c_11, if_pos c_36, if_pos c_54]; done) | (simp only [cl, hca, hcf, hcl2]; rw [if_neg c_4, if_neg c_11, if_pos c_36, if_pos c_54]; done) | (simp only [cl, hca, hcf]; rw [if_neg c_4, if_neg c_11, if_pos c_36, if_pos c_54]; done) | (simp only [cl, hca]; rw [if_neg c_4, if_neg c_11, if_pos c_36, if_pos c_54]; done))
        · obtain ⟨j, hj, hjl⟩ : ∃ j, j < 6 ∧ σ (9, 2, 0, 0) (10 + 2 * (8 * a + f)) = nI j := (hFl a f (by omega) (by omega)).resolve_left c_54
          have hcl2 : (σ (9, 2, 0, 0) (10 + 2 * (8 * a + f))).toNatClampNeg = j := by rw [hjl]; exact nI_clamp (by omega)
          refine A_aload_n (q := 58) cx dX8_frame_57 rfl rfl rfl ?_
          refine A_iload_n (q := 59) cx dX8_frame_58 rfl rfl ?_
          refine A_iload (q := 61) cx dX8_frame_59 rfl rfl ?_
          refine VI2 (q := 64) cx (by have h := ct_X8_isSending (la := la) (e := a) (l := j) hE hX (σ := σ); rw [← hjl] at h; exact h) (cwV 2 cx.1.2.2.2.2 gX8_frame_X8_isSending rfl rfl rfl (by decide +kernel) ⟨Nat.le_of_ble_eq_true rfl, Nat.le_of_ble_eq_true rfl⟩) dX8_frame_61 rfl rfl (in8 hX) rfl (Nat.le_of_ble_eq_true rfl) ⟨Nat.zero_le _, Nat.zero_le _⟩ rfl ?_
          refine A_if_ne (tgt := 70) (q := 67) cx dX8_frame_64 (by decide) rfl (fun c_64 => ?_) (fun c_64 => ?_)
          · refine A_aload_n (q := 71) cx dX8_frame_70 rfl rfl rfl ?_
            refine gX8_7 (q := 74) cx wi_X8_frame_X8 wf_X8_frame_19 dX8_frame_71 rfl (in8 hX) rfl rfl ?_
            refine A_bipush (v := 6) (q := 76) cx dX8_frame_74 (by decide) rfl ?_
            refine A_iload_n (q := 77) cx dX8_frame_76 rfl rfl ?_
            refine A_imul (q := 78) cx dX8_frame_77 rfl ?_
            refine A_iload (q := 80) cx dX8_frame_78 rfl rfl ?_
            refine A_iadd (q := 81) cx dX8_frame_80 rfl ?_
            refine A_dup2 (q := 82) cx dX8_frame_81 rfl rfl rfl ?_
            refine A_iaload (q := 83) cx dX8_frame_82 rfl (in9 hX (by decide)) (ixA (ixM (ixc 6) rfl) hjl) (by show _ < 12; omega) rfl ?_
            refine A_iconst (v := 1) (q := 84) cx dX8_frame_83 (by decide) rfl ?_
            refine A_iadd (q := 85) cx dX8_frame_84 rfl ?_
            refine A_iastore (q := 86) cx dX8_frame_85 rfl (in9 hX (by decide)) (ixA (ixM (ixc 6) rfl) hjl) (by show _ < 12; omega) rfl ?_
            refine A_iload (q := 88) cx dX8_frame_86 rfl rfl ?_
            exact A_iret cx hlk hr hQ dX8_frame_88 (by unfold mFrame; first | (rw [if_neg c_4, if_neg c_11, if_pos c_36, if_neg c_54, if_neg c_64]; done) | (simp only [cl, hca, hcf, hcl2]; rw [if_neg c_4, if_neg c_11, if_pos c_36, if_neg c_54, if_neg c_64]; done) | (simp only [cl, hca, hcf]; rw [if_neg c_4, if_neg c_11, if_pos c_36, if_neg c_54, if_neg c_64]; done) | (simp only [cl, hca]; rw [if_neg c_4, if_neg c_11, if_pos c_36, if_neg c_54, if_neg c_64]; done)) (by unfold mFrame; first | (rw [if_neg c_4, if_neg c_11, if_pos c_36, if_neg c_54, if_neg c_64]; done) | (simp only [cl, hca, hcf, hcl2]; rw [if_neg c_4, if_neg c_11, if_pos c_36, if_neg c_54, if_neg c_64]; done) | (simp only [cl, hca, hcf]; rw [if_neg c_4, if_neg c_11, if_pos c_36, if_neg c_54, if_neg c_64]; done) | (simp only [cl, hca]; rw [if_neg c_4, if_neg c_11, if_pos c_36, if_neg c_54, if_neg c_64]; done))
          · refine A_bipush (v := -4) (q := 69) cx dX8_frame_67 (by decide) rfl ?_
            exact A_iret cx hlk hr hQ dX8_frame_69 (by unfold mFrame; first | (rw [if_neg c_4, if_neg c_11, if_pos c_36, if_neg c_54, if_pos c_64]; done) | (simp only [cl, hca, hcf, hcl2]; rw [if_neg c_4, if_neg c_11, if_pos c_36, if_neg c_54, if_pos c_64]; done) | (simp only [cl, hca, hcf]; rw [if_neg c_4, if_neg c_11, if_pos c_36, if_neg c_54, if_pos c_64]; done) | (simp only [cl, hca]; rw [if_neg c_4, if_neg c_11, if_pos c_36, if_neg c_54, if_pos c_64]; done)) (by unfold mFrame; first | (rw [if_neg c_4, if_neg c_11, if_pos c_36, if_neg c_54, if_pos c_64]; done) | (simp only [cl, hca, hcf, hcl2]; rw [if_neg c_4, if_neg c_11, if_pos c_36, if_neg c_54, if_pos c_64]; done) | (simp only [cl, hca, hcf]; rw [if_neg c_4, if_neg c_11, if_pos c_36, if_neg c_54, if_pos c_64]; done) | (simp only [cl, hca]; rw [if_neg c_4, if_neg c_11, if_pos c_36, if_neg c_54, if_pos c_64]; done))
      · refine A_bipush (v := -2) (q := 41) cx dX8_frame_39 (by decide) rfl ?_
        exact A_iret cx hlk hr hQ dX8_frame_41 (by unfold mFrame; first | (rw [if_neg c_4, if_neg c_11, if_neg c_36]; done) | (simp only [cl, hca, hcf, hcl2]; rw [if_neg c_4, if_neg c_11, if_neg c_36]; done) | (simp only [cl, hca, hcf]; rw [if_neg c_4, if_neg c_11, if_neg c_36]; done) | (simp only [cl, hca]; rw [if_neg c_4, if_neg c_11, if_neg c_36]; done)) (by unfold mFrame; first | (rw [if_neg c_4, if_neg c_11, if_neg c_36]; done) | (simp only [cl, hca, hcf, hcl2]; rw [if_neg c_4, if_neg c_11, if_neg c_36]; done) | (simp only [cl, hca, hcf]; rw [if_neg c_4, if_neg c_11, if_neg c_36]; done) | (simp only [cl, hca]; rw [if_neg c_4, if_neg c_11, if_neg c_36]; done))
    · refine A_iconst (v := -1) (q := 15) cx dX8_frame_14 (by decide) rfl ?_
      exact A_iret cx hlk hr hQ dX8_frame_15 (by unfold mFrame; first | (rw [if_neg c_4, if_pos c_11]; done) | (simp only [cl, hca, hcf, hcl2]; rw [if_neg c_4, if_pos c_11]; done) | (simp only [cl, hca, hcf]; rw [if_neg c_4, if_pos c_11]; done) | (simp only [cl, hca]; rw [if_neg c_4, if_pos c_11]; done)) (by unfold mFrame; first | (rw [if_neg c_4, if_pos c_11]; done) | (simp only [cl, hca, hcf, hcl2]; rw [if_neg c_4, if_pos c_11]; done) | (simp only [cl, hca, hcf]; rw [if_neg c_4, if_pos c_11]; done) | (simp only [cl, hca]; rw [if_neg c_4, if_pos c_11]; done))
theorem wi_X8_isOther_X8 : ∀ w ∈ u_ws RX8 TX8 18, w ∈ wsX8_isOther := by decide +kernel
theorem wf_X8_isOther_7 : Cond.fieldLink RX8 7 (TX8 3).1 (TX8 3).2.1 (TX8 3).2.2.1 ∈ wsX8_isOther := by decide +kernel
theorem wf_X8_isOther_41 : Cond.fieldLink RX8 41 (TX8 17).1 (TX8 17).2.1 (TX8 17).2.2.1 ∈ wsX8_isOther := by decide +kernel
set_option maxHeartbeats 1000000 in
set_option maxRecDepth 100000 in
theorem ct_X8_isOther {la : Launch} {E : Ev} (hE : okE E) (hX : yin E) {σ0 : Sg}  : CI la yX8_isOther wsX8_isOther 0 0 E rh0 [.ref (ad E (8, 0, 0, 0))] σ0 (mOther σ0).1 (mOther σ0).2 := by
  refine met_of (lv := [some _, none, none, none]) RX8 (by decide) rfl rfl rfl hE (ok1 rfl) (Nat.le_of_ble_eq_true rfl) (fun p ev s m args below meth c Q cx hlk hr hQ => ?_)
  have l2 : ∀ (d i : Nat) (σ : Sg) (is : Int32), i + d = 16 → (is = 0 ∨ is = 1) → mOt2 d i is σ = mOther σ0 → AW p la ev (rmm 0 0) s m args below meth c 0 0 Q (AL E) E rh0 61 [some (.ref (ad E (8, 0, 0, 0))), some (.int is), some (.int (nI i)), none] [] σ := by
    intro d
    induction d with
    | zero =>
      intro i σ is hi hz hF
      obtain rfl : i = 16 := by omega
      refine A_iload_n (q := 62) cx dX8_isOther_61 rfl rfl ?_
      refine A_bipush (v := 16) (q := 64) cx dX8_isOther_62 (by decide) rfl ?_
      refine A_icmp_ge (tgt := 118) (q := 67) cx dX8_isOther_64 (by decide) rfl (fun c_64 => ?_) (fun c_64 => ?_)
      · refine A_iload_n (q := 119) cx dX8_isOther_118 rfl rfl ?_
        exact A_zret cx hlk hr hQ dX8_isOther_119 hz (by rw [← hF]; rfl) (by rw [← hF]; rfl)
      · exact absurd (by decide) c_64
    | succ d ih =>
      intro i σ is hi hz hF
      refine A_iload_n (q := 62) cx dX8_isOther_61 rfl rfl ?_
      refine A_bipush (v := 16) (q := 64) cx dX8_isOther_62 (by decide) rfl ?_
      refine A_icmp_ge (tgt := 118) (q := 67) cx dX8_isOther_64 (by decide) rfl (fun c_64 => ?_) (fun c_64 => ?_)
      · exact absurd c_64 (not_ge (i := i) (b := 16) (by omega) (by decide))
      · refine A_aload_n (q := 68) cx dX8_isOther_67 rfl rfl rfl ?_
        refine gX8_3 (q := 71) cx wi_X8_isOther_X8 wf_X8_isOther_7 dX8_isOther_68 rfl (in8 hX) rfl rfl ?_
        refine A_bipush (v := 10) (q := 73) cx dX8_isOther_71 (by decide) rfl ?_
        refine A_iconst (v := 2) (q := 74) cx dX8_isOther_73 (by decide) rfl ?_
        refine A_iload_n (q := 75) cx dX8_isOther_74 rfl rfl ?_
        refine A_imul (q := 76) cx dX8_isOther_75 rfl ?_
        refine A_iadd (q := 77) cx dX8_isOther_76 rfl ?_
        refine A_iaload (q := 78) cx dX8_isOther_77 rfl (in9 hX (by decide)) (ixA (ixc 10) (ixM (ixc 2) rfl)) (by show _ < 235; omega) rfl ?_
        refine A_istore_n (lv' := [some _, some _, some _, some _]) (q := 79) cx dX8_isOther_78 (Nat.le_of_ble_eq_true rfl) rfl rfl ?_
        refine A_iload_n (q := 80) cx dX8_isOther_79 rfl rfl ?_
        refine A_if_ne (tgt := 96) (q := 83) cx dX8_isOther_80 (by decide) rfl (fun c_80 => ?_) (fun c_80 => ?_)
        · refine A_iconst (v := 1) (q := 97) cx dX8_isOther_96 (by decide) rfl ?_
          refine A_goto (q := 101) cx dX8_isOther_97 (by decide) ?_
          refine A_istore_n (lv' := [some _, some _, some _, some _]) (q := 102) cx dX8_isOther_101 (Nat.le_of_ble_eq_true rfl) rfl rfl ?_
          refine A_aload_n (q := 103) cx dX8_isOther_102 rfl rfl rfl ?_
          refine gX8_17 (q := 106) cx wi_X8_isOther_X8 wf_X8_isOther_41 dX8_isOther_103 rfl (in8 hX) rfl rfl ?_
          refine A_bipush (v := 12) (q := 108) cx dX8_isOther_106 (by decide) rfl ?_
          refine A_iload_n (q := 109) cx dX8_isOther_108 rfl rfl ?_
          refine A_iadd (q := 110) cx dX8_isOther_109 rfl ?_
          refine A_iload_n (q := 111) cx dX8_isOther_110 rfl rfl ?_
          refine A_iastore (q := 112) cx dX8_isOther_111 rfl (in9 hX (by decide)) (ixA (ixc 12) rfl) (by show _ < 28; omega) rfl ?_
          refine A_iinc (lv' := [some _, some _, some _, some _]) (q := 115) cx dX8_isOther_112 rfl (nI_1 i) rfl rfl ?_
          refine A_goto (q := 61) cx dX8_isOther_115 (by decide) ?_
          exact A_drop 3 rfl (ih (i + 1) _ _ (by omega) (by first | exact Or.inl rfl | exact Or.inr rfl) (by rw [← hF, mOt2]; simp only [mOs, *, if_true, if_false]))
        · refine A_iload_n (q := 84) cx dX8_isOther_83 rfl rfl ?_
          refine A_aload_n (q := 85) cx dX8_isOther_84 rfl rfl rfl ?_
          refine gX8_17 (q := 88) cx wi_X8_isOther_X8 wf_X8_isOther_41 dX8_isOther_85 rfl (in8 hX) rfl rfl ?_
          refine A_bipush (v := 12) (q := 90) cx dX8_isOther_88 (by decide) rfl ?_
          refine A_iload_n (q := 91) cx dX8_isOther_90 rfl rfl ?_
          refine A_iadd (q := 92) cx dX8_isOther_91 rfl ?_
          refine A_iaload (q := 93) cx dX8_isOther_92 rfl (in9 hX (by decide)) (ixA (ixc 12) rfl) (by show _ < 28; omega) rfl ?_
          refine A_icmp_eq (tgt := 100) (q := 96) cx dX8_isOther_93 (by decide) rfl (fun c_93 => ?_) (fun c_93 => ?_)
          · refine A_iconst (v := 0) (q := 101) cx dX8_isOther_100 (by decide) rfl ?_
            refine A_istore_n (lv' := [some _, some _, some _, some _]) (q := 102) cx dX8_isOther_101 (Nat.le_of_ble_eq_true rfl) rfl rfl ?_
            refine A_aload_n (q := 103) cx dX8_isOther_102 rfl rfl rfl ?_
            refine gX8_17 (q := 106) cx wi_X8_isOther_X8 wf_X8_isOther_41 dX8_isOther_103 rfl (in8 hX) rfl rfl ?_
            refine A_bipush (v := 12) (q := 108) cx dX8_isOther_106 (by decide) rfl ?_
            refine A_iload_n (q := 109) cx dX8_isOther_108 rfl rfl ?_
            refine A_iadd (q := 110) cx dX8_isOther_109 rfl ?_
            refine A_iload_n (q := 111) cx dX8_isOther_110 rfl rfl ?_
            refine A_iastore (q := 112) cx dX8_isOther_111 rfl (in9 hX (by decide)) (ixA (ixc 12) rfl) (by show _ < 28; omega) rfl ?_
            refine A_iinc (lv' := [some _, some _, some _, some _]) (q := 115) cx dX8_isOther_112 rfl (nI_1 i) rfl rfl ?_
            refine A_goto (q := 61) cx dX8_isOther_115 (by decide) ?_
            exact A_drop 3 rfl (ih (i + 1) _ _ (by omega) (by first | exact Or.inl rfl | exact Or.inr rfl) (by rw [← hF, mOt2]; simp only [mOs, *, if_true, if_false]))
          · refine A_iconst (v := 1) (q := 97) cx dX8_isOther_96 (by decide) rfl ?_
            refine A_goto (q := 101) cx dX8_isOther_97 (by decide) ?_
            refine A_istore_n (lv' := [some _, some _, some _, some _]) (q := 102) cx dX8_isOther_101 (Nat.le_of_ble_eq_true rfl) rfl rfl ?_
            refine A_aload_n (q := 103) cx dX8_isOther_102 rfl rfl rfl ?_
            refine gX8_17 (q := 106) cx wi_X8_isOther_X8 wf_X8_isOther_41 dX8_isOther_103 rfl (in8 hX) rfl rfl ?_
            refine A_bipush (v := 12) (q := 108) cx dX8_isOther_106 (by decide) rfl ?_
            refine A_iload_n (q := 109) cx dX8_isOther_108 rfl rfl ?_
            refine A_iadd (q := 110) cx dX8_isOther_109 rfl ?_
            refine A_iload_n (q := 111) cx dX8_isOther_110 rfl rfl ?_
            refine A_iastore (q := 112) cx dX8_isOther_111 rfl (in9 hX (by decide)) (ixA (ixc 12) rfl) (by show _ < 28; omega) rfl ?_
            refine A_iinc (lv' := [some _, some _, some _, some _]) (q := 115) cx dX8_isOther_112 rfl (nI_1 i) rfl rfl ?_
            refine A_goto (q := 61) cx dX8_isOther_115 (by decide) ?_
            exact A_drop 3 rfl (ih (i + 1) _ _ (by omega) (by first | exact Or.inl rfl | exact Or.inr rfl) (by rw [← hF, mOt2]; simp only [mOs, *, if_true, if_false]))
  have l1 : ∀ (d i : Nat) (σ : Sg) (is : Int32), i + d = 12 → (is = 0 ∨ is = 1) → mOt1 d i is σ = mOther σ0 → AW p la ev (rmm 0 0) s m args below meth c 0 0 Q (AL E) E rh0 4 [some (.ref (ad E (8, 0, 0, 0))), some (.int is), some (.int (nI i)), none] [] σ := by
    intro d
    induction d with
    | zero =>
      intro i σ is hi hz hF
      obtain rfl : i = 12 := by omega
      refine A_iload_n (q := 5) cx dX8_isOther_4 rfl rfl ?_
      refine A_bipush (v := 12) (q := 7) cx dX8_isOther_5 (by decide) rfl ?_
      refine A_icmp_ge (tgt := 59) (q := 10) cx dX8_isOther_7 (by decide) rfl (fun c_7 => ?_) (fun c_7 => ?_)
      · refine A_iconst (v := 0) (q := 60) cx dX8_isOther_59 (by decide) rfl ?_
        refine A_istore_n (lv' := [some _, some _, some _, none]) (q := 61) cx dX8_isOther_60 (Nat.le_of_ble_eq_true rfl) rfl rfl ?_
        exact l2 16 0 _ _ rfl hz hF
      · exact absurd (by decide) c_7
    | succ d ih =>
      intro i σ is hi hz hF
      refine A_iload_n (q := 5) cx dX8_isOther_4 rfl rfl ?_
      refine A_bipush (v := 12) (q := 7) cx dX8_isOther_5 (by decide) rfl ?_
      refine A_icmp_ge (tgt := 59) (q := 10) cx dX8_isOther_7 (by decide) rfl (fun c_7 => ?_) (fun c_7 => ?_)
      · exact absurd c_7 (not_ge (i := i) (b := 12) (by omega) (by decide))
      · refine A_aload_n (q := 11) cx dX8_isOther_10 rfl rfl rfl ?_
        refine gX8_3 (q := 14) cx wi_X8_isOther_X8 wf_X8_isOther_7 dX8_isOther_11 rfl (in8 hX) rfl rfl ?_
        refine A_bipush (v := 42) (q := 16) cx dX8_isOther_14 (by decide) rfl ?_
        refine A_bipush (v := 16) (q := 18) cx dX8_isOther_16 (by decide) rfl ?_
        refine A_iload_n (q := 19) cx dX8_isOther_18 rfl rfl ?_
        refine A_imul (q := 20) cx dX8_isOther_19 rfl ?_
        refine A_iadd (q := 21) cx dX8_isOther_20 rfl ?_
        refine A_bipush (v := 14) (q := 23) cx dX8_isOther_21 (by decide) rfl ?_
        refine A_iadd (q := 24) cx dX8_isOther_23 rfl ?_
        refine A_iaload (q := 25) cx dX8_isOther_24 rfl (in9 hX (by decide)) (ixA (ixA (ixc 42) (ixM (ixc 16) rfl)) (ixc 14)) (by show _ < 235; omega) rfl ?_
        refine A_istore_n (lv' := [some _, some _, some _, some _]) (q := 26) cx dX8_isOther_25 (Nat.le_of_ble_eq_true rfl) rfl rfl ?_
        refine A_iload_n (q := 27) cx dX8_isOther_26 rfl rfl ?_
        refine A_if_ne (tgt := 40) (q := 30) cx dX8_isOther_27 (by decide) rfl (fun c_27 => ?_) (fun c_27 => ?_)
        · refine A_iconst (v := 1) (q := 41) cx dX8_isOther_40 (by decide) rfl ?_
          refine A_goto (q := 45) cx dX8_isOther_41 (by decide) ?_
          refine A_istore_n (lv' := [some _, some _, some _, some _]) (q := 46) cx dX8_isOther_45 (Nat.le_of_ble_eq_true rfl) rfl rfl ?_
          refine A_aload_n (q := 47) cx dX8_isOther_46 rfl rfl rfl ?_
          refine gX8_17 (q := 50) cx wi_X8_isOther_X8 wf_X8_isOther_41 dX8_isOther_47 rfl (in8 hX) rfl rfl ?_
          refine A_iload_n (q := 51) cx dX8_isOther_50 rfl rfl ?_
          refine A_iload_n (q := 52) cx dX8_isOther_51 rfl rfl ?_
          refine A_iastore (q := 53) cx dX8_isOther_52 rfl (in9 hX (by decide)) rfl (by show _ < 28; omega) rfl ?_
          refine A_iinc (lv' := [some _, some _, some _, some _]) (q := 56) cx dX8_isOther_53 rfl (nI_1 i) rfl rfl ?_
          refine A_goto (q := 4) cx dX8_isOther_56 (by decide) ?_
          exact A_drop 3 rfl (ih (i + 1) _ _ (by omega) (by first | exact Or.inl rfl | exact Or.inr rfl) (by rw [← hF, mOt1]; simp only [mOs, *, if_true, if_false]))
        · refine A_iload_n (q := 31) cx dX8_isOther_30 rfl rfl ?_
          refine A_aload_n (q := 32) cx dX8_isOther_31 rfl rfl rfl ?_
          refine gX8_17 (q := 35) cx wi_X8_isOther_X8 wf_X8_isOther_41 dX8_isOther_32 rfl (in8 hX) rfl rfl ?_
          refine A_iload_n (q := 36) cx dX8_isOther_35 rfl rfl ?_
          refine A_iaload (q := 37) cx dX8_isOther_36 rfl (in9 hX (by decide)) rfl (by show _ < 28; omega) rfl ?_
          refine A_icmp_eq (tgt := 44) (q := 40) cx dX8_isOther_37 (by decide) rfl (fun c_37 => ?_) (fun c_37 => ?_)
          · refine A_iconst (v := 0) (q := 45) cx dX8_isOther_44 (by decide) rfl ?_
            refine A_istore_n (lv' := [some _, some _, some _, some _]) (q := 46) cx dX8_isOther_45 (Nat.le_of_ble_eq_true rfl) rfl rfl ?_
            refine A_aload_n (q := 47) cx dX8_isOther_46 rfl rfl rfl ?_
            refine gX8_17 (q := 50) cx wi_X8_isOther_X8 wf_X8_isOther_41 dX8_isOther_47 rfl (in8 hX) rfl rfl ?_
            refine A_iload_n (q := 51) cx dX8_isOther_50 rfl rfl ?_
            refine A_iload_n (q := 52) cx dX8_isOther_51 rfl rfl ?_
            refine A_iastore (q := 53) cx dX8_isOther_52 rfl (in9 hX (by decide)) rfl (by show _ < 28; omega) rfl ?_
            refine A_iinc (lv' := [some _, some _, some _, some _]) (q := 56) cx dX8_isOther_53 rfl (nI_1 i) rfl rfl ?_
            refine A_goto (q := 4) cx dX8_isOther_56 (by decide) ?_
            exact A_drop 3 rfl (ih (i + 1) _ _ (by omega) (by first | exact Or.inl rfl | exact Or.inr rfl) (by rw [← hF, mOt1]; simp only [mOs, *, if_true, if_false]))
          · refine A_iconst (v := 1) (q := 41) cx dX8_isOther_40 (by decide) rfl ?_
            refine A_goto (q := 45) cx dX8_isOther_41 (by decide) ?_
            refine A_istore_n (lv' := [some _, some _, some _, some _]) (q := 46) cx dX8_isOther_45 (Nat.le_of_ble_eq_true rfl) rfl rfl ?_
            refine A_aload_n (q := 47) cx dX8_isOther_46 rfl rfl rfl ?_
            refine gX8_17 (q := 50) cx wi_X8_isOther_X8 wf_X8_isOther_41 dX8_isOther_47 rfl (in8 hX) rfl rfl ?_
            refine A_iload_n (q := 51) cx dX8_isOther_50 rfl rfl ?_
            refine A_iload_n (q := 52) cx dX8_isOther_51 rfl rfl ?_
            refine A_iastore (q := 53) cx dX8_isOther_52 rfl (in9 hX (by decide)) rfl (by show _ < 28; omega) rfl ?_
            refine A_iinc (lv' := [some _, some _, some _, some _]) (q := 56) cx dX8_isOther_53 rfl (nI_1 i) rfl rfl ?_
            refine A_goto (q := 4) cx dX8_isOther_56 (by decide) ?_
            exact A_drop 3 rfl (ih (i + 1) _ _ (by omega) (by first | exact Or.inl rfl | exact Or.inr rfl) (by rw [← hF, mOt1]; simp only [mOs, *, if_true, if_false]))
  refine A_iconst (v := 0) (q := 1) cx dX8_isOther_0 (by decide) rfl ?_
  refine A_istore_n (lv' := [some _, some _, none, none]) (q := 2) cx dX8_isOther_1 (Nat.le_of_ble_eq_true rfl) rfl rfl ?_
  refine A_iconst (v := 0) (q := 3) cx dX8_isOther_2 (by decide) rfl ?_
  refine A_istore_n (lv' := [some _, some _, some _, none]) (q := 4) cx dX8_isOther_3 (Nat.le_of_ble_eq_true rfl) rfl rfl ?_
  exact l1 12 0 _ _ rfl (Or.inl rfl) rfl
set_option maxHeartbeats 1000000 in
set_option maxRecDepth 100000 in
theorem ct_X8_fewest {la : Launch} {E : Ev} (hE : okE E) (hX : yin E) {σ0 : Sg} {L : Nat} (hL : σ0 (8, 0, 0, 0) 0 = nI L) (hL6 : L ≤ 6) : CI la yX8_fewest wsX8_fewest 6 142 E rh0 [.ref (ad E (8, 0, 0, 0))] σ0 (mFew σ0 L).1 (mFew σ0 L).2 := by
  refine met_of (lv := [some _, none, none, none]) RX8 (by decide) rfl rfl rfl hE (ok1 rfl) (Nat.le_of_ble_eq_true rfl) (fun p ev s m args below meth c Q cx hlk hr hQ => ?_)
  have l1 : ∀ (d i : Nat) (σ : Sg) (sn is : Int32), i + d = 47 → σ (8, 0, 0, 0) 0 = nI L → mFewR L d i sn σ = mFew σ0 L → AW p la ev (rmm 6 142) s m args below meth c 0 0 Q (AL E) E rh0 9 [some (.ref (ad E (8, 0, 0, 0))), some (.int sn), some (.int is), some (.int (nI i))] [] σ := by
    intro d
    induction d with
    | zero =>
      intro i σ sn is hi hL2 hF
      obtain rfl : i = 47 := by omega
      refine A_iload_n (q := 10) cx dX8_fewest_9 rfl rfl ?_
      refine A_bipush (v := 46) (q := 12) cx dX8_fewest_10 (by decide) rfl ?_
      refine A_icmp_gt (tgt := 50) (q := 15) cx dX8_fewest_12 (by decide) rfl (fun c_12 => ?_) (fun c_12 => ?_)
      · refine A_bipush (v := -4) (q := 52) cx dX8_fewest_50 (by decide) rfl ?_
        exact A_iret cx hlk hr hQ dX8_fewest_52 (by rw [← hF, mFewR]) (by rw [← hF, mFewR])
      · exact absurd (by decide) c_12
    | succ d ih =>
      intro i σ sn is hi hL2 hF
      refine A_iload_n (q := 10) cx dX8_fewest_9 rfl rfl ?_
      refine A_bipush (v := 46) (q := 12) cx dX8_fewest_10 (by decide) rfl ?_
      refine A_icmp_gt (tgt := 50) (q := 15) cx dX8_fewest_12 (by decide) rfl (fun c_12 => ?_) (fun c_12 => ?_)
      · exact absurd c_12 (by exact Int32.not_lt.mpr (nI_le (a := i) (b := 46) (by omega) (by decide)))
      · refine A_aload_n (q := 16) cx dX8_fewest_15 rfl rfl rfl ?_
        refine VV0 (q := 19) cx (ct_X8_ticks hE hX hL2 hL6) (cwV 0 cx.1.2.2.2.2 gX8_fewest_X8_ticks rfl rfl rfl (by decide +kernel) ⟨Nat.le_of_ble_eq_true rfl, Nat.le_of_ble_eq_true rfl⟩) dX8_fewest_16 rfl rfl (in8 hX) rfl (Nat.le_of_ble_eq_true rfl) ⟨Nat.zero_le _, Nat.zero_le _⟩ rfl ?_
        refine A_aload_n (q := 20) cx dX8_fewest_19 rfl rfl rfl ?_
        refine VI0 (q := 23) cx (ct_X8_isOther hE hX) (cwV 0 cx.1.2.2.2.2 gX8_fewest_X8_isOther rfl rfl rfl (by decide +kernel) ⟨Nat.le_of_ble_eq_true rfl, Nat.le_of_ble_eq_true rfl⟩) dX8_fewest_20 rfl rfl (in8 hX) rfl (Nat.le_of_ble_eq_true rfl) ⟨Nat.zero_le _, Nat.zero_le _⟩ rfl ?_
        refine A_istore_n (lv' := [some _, some _, some _, some _]) (q := 24) cx dX8_fewest_23 (Nat.le_of_ble_eq_true rfl) rfl rfl ?_
        refine A_iload_n (q := 25) cx dX8_fewest_24 rfl rfl ?_
        refine A_if_eq (tgt := 32) (q := 28) cx dX8_fewest_25 (by decide) rfl (fun c_25 => ?_) (fun c_25 => ?_)
        · refine A_iload_n (q := 33) cx dX8_fewest_32 rfl rfl ?_
          refine A_istore_n (lv' := [some _, some _, some _, some _]) (q := 34) cx dX8_fewest_33 (Nat.le_of_ble_eq_true rfl) rfl rfl ?_
          refine A_iload_n (q := 35) cx dX8_fewest_34 rfl rfl ?_
          refine A_iload_n (q := 36) cx dX8_fewest_35 rfl rfl ?_
          refine A_isub (q := 37) cx dX8_fewest_36 rfl ?_
          refine A_bipush (v := 6) (q := 39) cx dX8_fewest_37 (by decide) rfl ?_
          refine A_icmp_ne (tgt := 44) (q := 42) cx dX8_fewest_39 (by decide) rfl (fun c_39 => ?_) (fun c_39 => ?_)
          · refine A_iinc (lv' := [some _, some _, some _, some _]) (q := 47) cx dX8_fewest_44 rfl (nI_1 i) rfl rfl ?_
            refine A_goto (q := 9) cx dX8_fewest_47 (by decide) ?_
            exact ih (i + 1) _ _ _ (by omega) (by rw [show (mOther (mTicks σ L)).2 (8, 0, 0, 0) = σ (8, 0, 0, 0) from (other_M (by decide) _).trans (mag_ticks (mag.rf σ) kM okM)]; exact hL2) (by rw [← hF, mFewR]; first | (simp only [if_pos c_25]; rw [if_neg c_39]; done) | (simp only [if_neg c_25]; rw [if_neg c_39]; done))
          · refine A_iload_n (q := 43) cx dX8_fewest_42 rfl rfl ?_
            exact A_iret cx hlk hr hQ dX8_fewest_43 (by rw [← hF, mFewR]; first | (simp only [if_pos c_25]; rw [if_pos c_39]; done) | (simp only [if_neg c_25]; rw [if_pos c_39]; done)) (by rw [← hF, mFewR]; first | (simp only [if_pos c_25]; rw [if_pos c_39]; done) | (simp only [if_neg c_25]; rw [if_pos c_39]; done))
        · refine A_iload_n (q := 29) cx dX8_fewest_28 rfl rfl ?_
          refine A_goto (q := 33) cx dX8_fewest_29 (by decide) ?_
          refine A_istore_n (lv' := [some _, some _, some _, some _]) (q := 34) cx dX8_fewest_33 (Nat.le_of_ble_eq_true rfl) rfl rfl ?_
          refine A_iload_n (q := 35) cx dX8_fewest_34 rfl rfl ?_
          refine A_iload_n (q := 36) cx dX8_fewest_35 rfl rfl ?_
          refine A_isub (q := 37) cx dX8_fewest_36 rfl ?_
          refine A_bipush (v := 6) (q := 39) cx dX8_fewest_37 (by decide) rfl ?_
          refine A_icmp_ne (tgt := 44) (q := 42) cx dX8_fewest_39 (by decide) rfl (fun c_39 => ?_) (fun c_39 => ?_)
          · refine A_iinc (lv' := [some _, some _, some _, some _]) (q := 47) cx dX8_fewest_44 rfl (nI_1 i) rfl rfl ?_
            refine A_goto (q := 9) cx dX8_fewest_47 (by decide) ?_
            exact ih (i + 1) _ _ _ (by omega) (by rw [show (mOther (mTicks σ L)).2 (8, 0, 0, 0) = σ (8, 0, 0, 0) from (other_M (by decide) _).trans (mag_ticks (mag.rf σ) kM okM)]; exact hL2) (by rw [← hF, mFewR]; first | (simp only [if_pos c_25]; rw [if_neg c_39]; done) | (simp only [if_neg c_25]; rw [if_neg c_39]; done))
          · refine A_iload_n (q := 43) cx dX8_fewest_42 rfl rfl ?_
            exact A_iret cx hlk hr hQ dX8_fewest_43 (by rw [← hF, mFewR]; first | (simp only [if_pos c_25]; rw [if_pos c_39]; done) | (simp only [if_neg c_25]; rw [if_pos c_39]; done)) (by rw [← hF, mFewR]; first | (simp only [if_pos c_25]; rw [if_pos c_39]; done) | (simp only [if_neg c_25]; rw [if_pos c_39]; done))
  refine A_iconst (v := 0) (q := 1) cx dX8_fewest_0 (by decide) rfl ?_
  refine A_istore_n (lv' := [some _, some _, none, none]) (q := 2) cx dX8_fewest_1 (Nat.le_of_ble_eq_true rfl) rfl rfl ?_
  refine A_aload_n (q := 3) cx dX8_fewest_2 rfl rfl rfl ?_
  refine VI0 (q := 6) cx (ct_X8_isOther hE hX) (cwV 0 cx.1.2.2.2.2 gX8_fewest_X8_isOther rfl rfl rfl (by decide +kernel) ⟨Nat.le_of_ble_eq_true rfl, Nat.le_of_ble_eq_true rfl⟩) dX8_fewest_3 rfl rfl (in8 hX) rfl (Nat.le_of_ble_eq_true rfl) ⟨Nat.zero_le _, Nat.zero_le _⟩ rfl ?_
  refine A_istore_n (lv' := [some _, some _, some _, none]) (q := 7) cx dX8_fewest_6 (Nat.le_of_ble_eq_true rfl) rfl rfl ?_
  refine A_iconst (v := 1) (q := 8) cx dX8_fewest_7 (by decide) rfl ?_
  refine A_istore_n (lv' := [some _, some _, some _, some _]) (q := 9) cx dX8_fewest_8 (Nat.le_of_ble_eq_true rfl) rfl rfl ?_
  exact l1 46 1 _ _ _ rfl (by rw [other_M (by decide)]; exact hL) rfl
theorem wi_X8_settled_X8 : ∀ w ∈ u_ws RX8 TX8 18, w ∈ wsX8_settled := by decide +kernel
theorem wf_X8_settled_7 : Cond.fieldLink RX8 7 (TX8 3).1 (TX8 3).2.1 (TX8 3).2.2.1 ∈ wsX8_settled := by decide +kernel
theorem wf_X8_settled_13 : Cond.fieldLink RX8 13 (TX8 4).1 (TX8 4).2.1 (TX8 4).2.2.1 ∈ wsX8_settled := by decide +kernel
set_option maxHeartbeats 1000000 in
set_option maxRecDepth 100000 in
theorem ct_X8_settled {la : Launch} {E : Ev} (hE : okE E) (hX : yin E) {σ0 : Sg} {L : Nat} (hL : σ0 (8, 0, 0, 0) 0 = nI L) (hL6 : L ≤ 6) : CI la yX8_settled wsX8_settled 7 165 E rh0 [.ref (ad E (8, 0, 0, 0))] σ0 (mSettled σ0 L).1 (mSettled σ0 L).2 := by
  refine met_of (lv := [some _, none, none]) RX8 (by decide) rfl rfl rfl hE (ok1 rfl) (Nat.le_of_ble_eq_true rfl) (fun p ev s m args below meth c Q cx hlk hr hQ => ?_)
  have l2 : ∀ (d i : Nat) (σ : Sg) (r : Int32), i + d = 235 → (r, mK2 d i σ) = mSettled σ0 L → AW p la ev (rmm 7 165) s m args below meth c 0 0 Q (AL E) E rh0 34 [some (.ref (ad E (8, 0, 0, 0))), some (.int r), some (.int (nI i))] [] σ := by
    intro d
    induction d with
    | zero =>
      intro i σ r hi hF
      obtain rfl : i = 235 := by omega
      refine A_iload_n (q := 35) cx dX8_settled_34 rfl rfl ?_
      refine A_sipush (v := 235) (q := 38) cx dX8_settled_35 (by decide) rfl ?_
      refine A_icmp_ge (tgt := 59) (q := 41) cx dX8_settled_38 (by decide) rfl (fun c_38 => ?_) (fun c_38 => ?_)
      · refine A_iload_n (q := 60) cx dX8_settled_59 rfl rfl ?_
        exact A_iret cx hlk hr hQ dX8_settled_60 (by rw [← hF]) (by rw [← hF]; rfl)
      · exact absurd (by decide) c_38
    | succ d ih =>
      intro i σ r hi hF
      refine A_iload_n (q := 35) cx dX8_settled_34 rfl rfl ?_
      refine A_sipush (v := 235) (q := 38) cx dX8_settled_35 (by decide) rfl ?_
      refine A_icmp_ge (tgt := 59) (q := 41) cx dX8_settled_38 (by decide) rfl (fun c_38 => ?_) (fun c_38 => ?_)
      · exact absurd c_38 (not_ge (i := i) (b := 235) (by omega) (by decide))
      · refine A_aload_n (q := 42) cx dX8_settled_41 rfl rfl rfl ?_
        refine gX8_3 (q := 45) cx wi_X8_settled_X8 wf_X8_settled_7 dX8_settled_42 rfl (in8 hX) rfl rfl ?_
        refine A_iload_n (q := 46) cx dX8_settled_45 rfl rfl ?_
        refine A_aload_n (q := 47) cx dX8_settled_46 rfl rfl rfl ?_
        refine gX8_4 (q := 50) cx wi_X8_settled_X8 wf_X8_settled_13 dX8_settled_47 rfl (in8 hX) rfl rfl ?_
        refine A_iload_n (q := 51) cx dX8_settled_50 rfl rfl ?_
        refine A_iaload (q := 52) cx dX8_settled_51 rfl (in9 hX (by decide)) rfl (by show _ < 235; omega) rfl ?_
        refine A_iastore (q := 53) cx dX8_settled_52 rfl (in9 hX (by decide)) rfl (by show _ < 235; omega) rfl ?_
        refine A_iinc (lv' := [some _, some _, some _]) (q := 56) cx dX8_settled_53 rfl (nI_1 i) rfl rfl ?_
        refine A_goto (q := 34) cx dX8_settled_56 (by decide) ?_
        exact ih (i + 1) _ _ (by omega) hF
  have l1 : ∀ (d i : Nat) (σ : Sg), i + d = 235 → σ (8, 0, 0, 0) 0 = nI L → ((mFew (mK1 d i σ) L).1, mK2 235 0 (mFew (mK1 d i σ) L).2) = mSettled σ0 L → AW p la ev (rmm 7 165) s m args below meth c 0 0 Q (AL E) E rh0 2 [some (.ref (ad E (8, 0, 0, 0))), some (.int (nI i)), none] [] σ := by
    intro d
    induction d with
    | zero =>
      intro i σ hi hL2 hF
      obtain rfl : i = 235 := by omega
      refine A_iload_n (q := 3) cx dX8_settled_2 rfl rfl ?_
      refine A_sipush (v := 235) (q := 6) cx dX8_settled_3 (by decide) rfl ?_
      refine A_icmp_ge (tgt := 27) (q := 9) cx dX8_settled_6 (by decide) rfl (fun c_6 => ?_) (fun c_6 => ?_)
      · refine A_aload_n (q := 28) cx dX8_settled_27 rfl rfl rfl ?_
        refine VI0 (q := 31) cx (ct_X8_fewest hE hX hL2 hL6) (cwV 0 cx.1.2.2.2.2 gX8_settled_X8_fewest rfl rfl rfl (by decide +kernel) ⟨Nat.le_of_ble_eq_true rfl, Nat.le_of_ble_eq_true rfl⟩) dX8_settled_28 rfl rfl (in8 hX) rfl (Nat.le_of_ble_eq_true rfl) ⟨Nat.zero_le _, Nat.zero_le _⟩ rfl ?_
        refine A_istore_n (lv' := [some _, some _, none]) (q := 32) cx dX8_settled_31 (Nat.le_of_ble_eq_true rfl) rfl rfl ?_
        refine A_iconst (v := 0) (q := 33) cx dX8_settled_32 (by decide) rfl ?_
        refine A_istore_n (lv' := [some _, some _, some _]) (q := 34) cx dX8_settled_33 (Nat.le_of_ble_eq_true rfl) rfl rfl ?_
        exact l2 235 0 _ _ rfl hF
      · exact absurd (by decide) c_6
    | succ d ih =>
      intro i σ hi hL2 hF
      refine A_iload_n (q := 3) cx dX8_settled_2 rfl rfl ?_
      refine A_sipush (v := 235) (q := 6) cx dX8_settled_3 (by decide) rfl ?_
      refine A_icmp_ge (tgt := 27) (q := 9) cx dX8_settled_6 (by decide) rfl (fun c_6 => ?_) (fun c_6 => ?_)
      · exact absurd c_6 (not_ge (i := i) (b := 235) (by omega) (by decide))
      · refine A_aload_n (q := 10) cx dX8_settled_9 rfl rfl rfl ?_
        refine gX8_4 (q := 13) cx wi_X8_settled_X8 wf_X8_settled_13 dX8_settled_10 rfl (in8 hX) rfl rfl ?_
        refine A_iload_n (q := 14) cx dX8_settled_13 rfl rfl ?_
        refine A_aload_n (q := 15) cx dX8_settled_14 rfl rfl rfl ?_
        refine gX8_3 (q := 18) cx wi_X8_settled_X8 wf_X8_settled_7 dX8_settled_15 rfl (in8 hX) rfl rfl ?_
        refine A_iload_n (q := 19) cx dX8_settled_18 rfl rfl ?_
        refine A_iaload (q := 20) cx dX8_settled_19 rfl (in9 hX (by decide)) rfl (by show _ < 235; omega) rfl ?_
        refine A_iastore (q := 21) cx dX8_settled_20 rfl (in9 hX (by decide)) rfl (by show _ < 235; omega) rfl ?_
        refine A_iinc (lv' := [some _, some _, none]) (q := 24) cx dX8_settled_21 rfl (nI_1 i) rfl rfl ?_
        refine A_goto (q := 2) cx dX8_settled_24 (by decide) ?_
        exact ih (i + 1) _ (by omega) hL2 hF
  refine A_iconst (v := 0) (q := 1) cx dX8_settled_0 (by decide) rfl ?_
  refine A_istore_n (lv' := [some _, some _, none]) (q := 2) cx dX8_settled_1 (Nat.le_of_ble_eq_true rfl) rfl rfl ?_
  exact l1 235 0 _ rfl hL rfl
theorem wi_X8_count_X8 : ∀ w ∈ u_ws RX8 TX8 18, w ∈ wsX8_count := by decide +kernel
theorem wf_X8_count_83 : Cond.fieldLink RX8 83 (TX8 0).1 (TX8 0).2.1 (TX8 0).2.2.1 ∈ wsX8_count := by decide +kernel
theorem wf_X8_count_7 : Cond.fieldLink RX8 7 (TX8 3).1 (TX8 3).2.1 (TX8 3).2.2.1 ∈ wsX8_count := by decide +kernel
theorem wf_X8_count_86 : Cond.fieldLink RX8 86 (TX8 1).1 (TX8 1).2.1 (TX8 1).2.2.1 ∈ wsX8_count := by decide +kernel
theorem wf_X8_count_89 : Cond.fieldLink RX8 89 (TX8 2).1 (TX8 2).2.1 (TX8 2).2.2.1 ∈ wsX8_count := by decide +kernel
theorem wf_X8_count_96 : Cond.fieldLink RX8 96 (TX8 6).1 (TX8 6).2.1 (TX8 6).2.2.1 ∈ wsX8_count := by decide +kernel
theorem wf_X8_count_61 : Cond.fieldLink RX8 61 (TX8 9).1 (TX8 9).2.1 (TX8 9).2.2.1 ∈ wsX8_count := by decide +kernel
set_option maxHeartbeats 1000000 in
set_option maxRecDepth 100000 in
theorem ct_X8_count {la : Launch} {E : Ev} (hE : okE E) (hX : yin E) {σ : Sg} {L : Nat} {w : Int32} (hL : σ (8, 0, 0, 0) 0 = nI L) (hL6 : L ≤ 6) : CI la yX8_count wsX8_count 1 22 E rh0 [.ref (ad E (8, 0, 0, 0)), .int w] σ (mCount σ L w) σ := by
  refine met_of (lv := [some _, some _]) RX8 (by decide) rfl rfl rfl hE (ok2 rfl rfl) (Nat.le_of_ble_eq_true rfl) (fun p ev s m args below meth c Q cx hlk hr hQ => ?_)
  refine A_iload_n (q := 1) cx dX8_count_0 rfl rfl ?_
  by_cases s_1_0 : w = 0
  · refine A_tableIn (tgt := 56) cx dX8_count_1 (by rw [s_1_0]; decide) (by rw [s_1_0]; decide) (by rw [s_1_0]; rfl) (by decide) ?_
    refine A_aload_n (q := 57) cx dX8_count_56 rfl rfl rfl ?_
    refine gX8_0 (q := 60) cx wi_X8_count_X8 wf_X8_count_83 dX8_count_57 rfl (in8 hX) rfl ?_
    exact A_iret cx hlk hr hQ dX8_count_60 (by unfold mCount; rw [if_pos s_1_0]) rfl
  by_cases s_1_1 : w = 1
  · refine A_tableIn (tgt := 61) cx dX8_count_1 (by rw [s_1_1]; decide) (by rw [s_1_1]; decide) (by rw [s_1_1]; rfl) (by decide) ?_
    refine A_aload_n (q := 62) cx dX8_count_61 rfl rfl rfl ?_
    refine VI0 (q := 65) cx (ct_X8_upMany hE hX hL hL6) (cwV 0 cx.1.2.2.2.2 gX8_count_X8_upMany rfl rfl rfl (by decide +kernel) ⟨Nat.le_of_ble_eq_true rfl, Nat.le_of_ble_eq_true rfl⟩) dX8_count_62 rfl rfl (in8 hX) rfl (Nat.le_of_ble_eq_true rfl) ⟨Nat.zero_le _, Nat.zero_le _⟩ rfl ?_
    exact A_iret cx hlk hr hQ dX8_count_65 (by unfold mCount; rw [if_neg s_1_0, if_pos s_1_1]) rfl
  by_cases s_1_2 : w = 2
  · refine A_tableIn (tgt := 66) cx dX8_count_1 (by rw [s_1_2]; decide) (by rw [s_1_2]; decide) (by rw [s_1_2]; rfl) (by decide) ?_
    refine A_aload_n (q := 67) cx dX8_count_66 rfl rfl rfl ?_
    refine gX8_3 (q := 70) cx wi_X8_count_X8 wf_X8_count_7 dX8_count_67 rfl (in8 hX) rfl rfl ?_
    refine A_iconst (v := 0) (q := 71) cx dX8_count_70 (by decide) rfl ?_
    refine A_iaload (q := 72) cx dX8_count_71 rfl (in9 hX (by decide)) (ixc 0) (by show _ < 235; omega) rfl ?_
    exact A_iret cx hlk hr hQ dX8_count_72 (by unfold mCount; rw [if_neg s_1_0, if_neg s_1_1, if_pos s_1_2]) rfl
  by_cases s_1_3 : w = 3
  · refine A_tableIn (tgt := 73) cx dX8_count_1 (by rw [s_1_3]; decide) (by rw [s_1_3]; decide) (by rw [s_1_3]; rfl) (by decide) ?_
    refine A_aload_n (q := 74) cx dX8_count_73 rfl rfl rfl ?_
    refine gX8_3 (q := 77) cx wi_X8_count_X8 wf_X8_count_7 dX8_count_74 rfl (in8 hX) rfl rfl ?_
    refine A_iconst (v := 1) (q := 78) cx dX8_count_77 (by decide) rfl ?_
    refine A_iaload (q := 79) cx dX8_count_78 rfl (in9 hX (by decide)) (ixc 1) (by show _ < 235; omega) rfl ?_
    exact A_iret cx hlk hr hQ dX8_count_79 (by unfold mCount; rw [if_neg s_1_0, if_neg s_1_1, if_neg s_1_2, if_pos s_1_3]) rfl
  by_cases s_1_4 : w = 4
  · refine A_tableIn (tgt := 80) cx dX8_count_1 (by rw [s_1_4]; decide) (by rw [s_1_4]; decide) (by rw [s_1_4]; rfl) (by decide) ?_
    refine A_aload_n (q := 81) cx dX8_count_80 rfl rfl rfl ?_
    refine gX8_3 (q := 84) cx wi_X8_count_X8 wf_X8_count_7 dX8_count_81 rfl (in8 hX) rfl rfl ?_
    refine A_iconst (v := 2) (q := 85) cx dX8_count_84 (by decide) rfl ?_
    refine A_iaload (q := 86) cx dX8_count_85 rfl (in9 hX (by decide)) (ixc 2) (by show _ < 235; omega) rfl ?_
    exact A_iret cx hlk hr hQ dX8_count_86 (by unfold mCount; rw [if_neg s_1_0, if_neg s_1_1, if_neg s_1_2, if_neg s_1_3, if_pos s_1_4]) rfl
  by_cases s_1_5 : w = 5
  · refine A_tableIn (tgt := 87) cx dX8_count_1 (by rw [s_1_5]; decide) (by rw [s_1_5]; decide) (by rw [s_1_5]; rfl) (by decide) ?_
    refine A_aload_n (q := 88) cx dX8_count_87 rfl rfl rfl ?_
    refine gX8_1 (q := 91) cx wi_X8_count_X8 wf_X8_count_86 dX8_count_88 rfl (in8 hX) rfl ?_
    exact A_iret cx hlk hr hQ dX8_count_91 (by unfold mCount; rw [if_neg s_1_0, if_neg s_1_1, if_neg s_1_2, if_neg s_1_3, if_neg s_1_4, if_pos s_1_5]) rfl
  by_cases s_1_6 : w = 6
  · refine A_tableIn (tgt := 92) cx dX8_count_1 (by rw [s_1_6]; decide) (by rw [s_1_6]; decide) (by rw [s_1_6]; rfl) (by decide) ?_
    refine A_aload_n (q := 93) cx dX8_count_92 rfl rfl rfl ?_
    refine gX8_2 (q := 96) cx wi_X8_count_X8 wf_X8_count_89 dX8_count_93 rfl (in8 hX) rfl ?_
    exact A_iret cx hlk hr hQ dX8_count_96 (by unfold mCount; rw [if_neg s_1_0, if_neg s_1_1, if_neg s_1_2, if_neg s_1_3, if_neg s_1_4, if_neg s_1_5, if_pos s_1_6]) rfl
  by_cases s_1_7 : w = 7
  · refine A_tableIn (tgt := 97) cx dX8_count_1 (by rw [s_1_7]; decide) (by rw [s_1_7]; decide) (by rw [s_1_7]; rfl) (by decide) ?_
    refine A_aload_n (q := 98) cx dX8_count_97 rfl rfl rfl ?_
    refine gX8_3 (q := 101) cx wi_X8_count_X8 wf_X8_count_7 dX8_count_98 rfl (in8 hX) rfl rfl ?_
    refine A_iconst (v := 3) (q := 102) cx dX8_count_101 (by decide) rfl ?_
    refine A_iaload (q := 103) cx dX8_count_102 rfl (in9 hX (by decide)) (ixc 3) (by show _ < 235; omega) rfl ?_
    exact A_iret cx hlk hr hQ dX8_count_103 (by unfold mCount; rw [if_neg s_1_0, if_neg s_1_1, if_neg s_1_2, if_neg s_1_3, if_neg s_1_4, if_neg s_1_5, if_neg s_1_6, if_pos s_1_7]) rfl
  by_cases s_1_8 : w = 8
  · refine A_tableIn (tgt := 104) cx dX8_count_1 (by rw [s_1_8]; decide) (by rw [s_1_8]; decide) (by rw [s_1_8]; rfl) (by decide) ?_
    refine A_aload_n (q := 105) cx dX8_count_104 rfl rfl rfl ?_
    refine gX8_6 (q := 108) cx wi_X8_count_X8 wf_X8_count_96 dX8_count_105 rfl (in8 hX) rfl ?_
    exact A_iret cx hlk hr hQ dX8_count_108 (by unfold mCount; rw [if_neg s_1_0, if_neg s_1_1, if_neg s_1_2, if_neg s_1_3, if_neg s_1_4, if_neg s_1_5, if_neg s_1_6, if_neg s_1_7, if_pos s_1_8]) rfl
  by_cases s_1_9 : w = 9
  · refine A_tableIn (tgt := 109) cx dX8_count_1 (by rw [s_1_9]; decide) (by rw [s_1_9]; decide) (by rw [s_1_9]; rfl) (by decide) ?_
    refine A_aload_n (q := 110) cx dX8_count_109 rfl rfl rfl ?_
    refine gX8_9 (q := 113) cx wi_X8_count_X8 wf_X8_count_61 dX8_count_110 rfl (in8 hX) rfl ?_
    exact A_iret cx hlk hr hQ dX8_count_113 (by unfold mCount; rw [if_neg s_1_0, if_neg s_1_1, if_neg s_1_2, if_neg s_1_3, if_neg s_1_4, if_neg s_1_5, if_neg s_1_6, if_neg s_1_7, if_neg s_1_8, if_pos s_1_9]) rfl
  refine A_tableOut (tgt := 114) cx dX8_count_1 (by have n_0 := lv_neT s_1_0 (a := 0) rfl; have n_1 := lv_neT s_1_1 (a := 1) rfl; have n_2 := lv_neT s_1_2 (a := 2) rfl; have n_3 := lv_neT s_1_3 (a := 3) rfl; have n_4 := lv_neT s_1_4 (a := 4) rfl; have n_5 := lv_neT s_1_5 (a := 5) rfl; have n_6 := lv_neT s_1_6 (a := 6) rfl; have n_7 := lv_neT s_1_7 (a := 7) rfl; have n_8 := lv_neT s_1_8 (a := 8) rfl; have n_9 := lv_neT s_1_9 (a := 9) rfl; omega) (by decide) ?_
  refine A_iconst (v := -1) (q := 115) cx dX8_count_114 (by decide) rfl ?_
  exact A_iret cx hlk hr hQ dX8_count_115 (by unfold mCount; rw [if_neg s_1_0, if_neg s_1_1, if_neg s_1_2, if_neg s_1_3, if_neg s_1_4, if_neg s_1_5, if_neg s_1_6, if_neg s_1_7, if_neg s_1_8, if_neg s_1_9]) rfl
