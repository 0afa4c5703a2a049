/-! PURE PART 20: ticks; letters; which rows they leave. -/
theorem tick1 {y w : Sg} {L t : Nat} (h : NW y w L t) (ht : t + 1 ≤ 9999) : NW (nStep y 0) (mTicks w L) L (t + 1) := by
  obtain ⟨hL, -, hm, hN⟩ := h
  have hM : mTicks w L kM = w kM := mag_ticks (mag.rf w) kM okM
  refine ⟨hL, ht, by rw [hM]; exact hm, ?_⟩
  rw [hM]
  exact tick_eq hL (by omega) hN rfl rfl
theorem ticksN {L : Nat} : ∀ (d : Nat) {y w : Sg} {t : Nat}, NW y w L t → t + d ≤ 9999 → NW (nSteps 0 d y) (mTs L d w) L (t + d)
  | 0, _, _, _, h, _ => h
  | d + 1, y, w, t, h, hd => by
    have := ticksN d (tick1 h (by omega)) (by omega)
    rw [nSteps, mTs, show t + (d + 1) = t + 1 + d by omega]
    exact this
theorem nSteps_agr (n : Nat) : ∀ (d : Nat) {σ σ' : Sg}, agr n σ σ' → agr n σ (nSteps n d σ')
  | 0, _, _, h => h
  | d + 1, _, σ', h => nSteps_agr n d (h.tr (nStep_agr σ' n))
theorem tickc_eq {x m : Sg} (h : RR x m) {L u : Nat} (hm : m kM 0 = nI L) (hL : L ≤ 6) (hu : m kM 6 = nI u) (hu6 : u ≤ 6) (v : Int32) : (xTick x v).1 = (mTick m L u v).1 ∧ RR (xTick x v).2 (mTick m L u v).2 := by
  obtain ⟨L', T, t, nx, u', hN, hT, hH, hW⟩ := id h
  obtain rfl : L = L' := (nI_eq (by omega) (by have := hN.1; omega)).mp (hm.symm.trans hN.2.2.1)
  obtain rfl : u = u' := (nI_eq (by omega) (by have := hH.1.2.1; omega)).mp (hu.symm.trans hH.1.2.2.2.2)
  unfold xTick mTick
  by_cases hv : mWi v 1 40 = 0
  · rw [if_pos hv]
    unfold mWi at hv
    by_cases q : v < 1
    · rw [if_pos q]; exact ⟨rfl, h⟩
    · rw [if_neg q] at hv ⊢
      by_cases q2 : (40 : Int32) < v
      · rw [if_neg (fun g => i32_le_irr g q2)]; exact ⟨rfl, h⟩
      · rw [if_neg q2] at hv; exact absurd hv (by decide)
  · rw [if_neg hv]
    obtain ⟨d, hd1, hd, rfl⟩ : ∃ d, 1 ≤ d ∧ d ≤ 40 ∧ v = nI d := by
      unfold mWi at hv
      by_cases q : v < 1
      · rw [if_pos q] at hv; exact absurd rfl hv
      · rw [if_neg q] at hv
        by_cases q2 : (40 : Int32) < v
        · rw [if_pos q2] at hv; exact absurd rfl hv
        · obtain ⟨d, hd, rfl⟩ := nI_of (x := v) (fun g => q (i32_lt_trans g (by decide)))
          refine ⟨d, ?_, ?_, rfl⟩
          · rcases Nat.lt_or_ge d 1 with z | z
            · exact absurd (nI_lt (a := d) (b := 1) z (by decide)) q
            · exact z
          · rcases Nat.lt_or_ge 40 d with z | z
            · exact absurd (nI_lt (a := 40) z hd) q2
            · exact z
    rw [if_neg (show ¬ nI d < 1 from nI_nlt (b := 1) hd1 (by omega)), if_pos (show nI d ≤ 40 from nI_le (b := 40) hd (by decide)), cl_nI (by omega), nI_clamp (n := d) (by omega), hN.2.2.2.2.1.2.2.2.1, hN.2.2.2.2.1.2.2.2.2.1, nI_add]
    by_cases hs : t + d ≤ 9999
    · rw [if_pos (show nI (t + d) ≤ 9999 from nI_le (b := 9999) hs (by decide)), if_pos (show nI (t + d) ≤ 9999 from nI_le (b := 9999) hs (by decide))]
      obtain ⟨k1, k2, k3, k4⟩ := keep_all hN hH hW
      have g := ticksN d k1 hs
      exact ⟨agree_eq hL g.2.1 g.2.2.2, RR_chg (k4 T hT) k2 k3 g (nSteps_agr 0 d (agr.rf _ _)) (mag_ts d (mag.rf _))⟩
    · have ht := hN.2.1
      rw [if_neg (show ¬ nI (t + d) ≤ 9999 from nI_ge (a := 9999) (b := t + d) (by omega) (by omega)), if_neg (show ¬ nI (t + d) ≤ 9999 from nI_ge (a := 9999) (b := t + d) (by omega) (by omega))]
      exact ⟨rfl, h⟩
theorem RR_text {x m y w : Sg} (h : RR x m) {T' : Nat} (hx : ∀ k, k ≠ (6, 0, 0, 0) → k ≠ (9, 0, 0, 0) → y k = x k) (hm : ∀ k j, k ≠ kTx → ¬ (k = kM ∧ j = 9) → w k j = m k j) (hT : TX y w T') : RR y w := by
  obtain ⟨L, T, t, nx, u, hN, -, ⟨⟨a1, a2, a3, a4, a5⟩, hh⟩, hW⟩ := h
  have xi : ∀ n k, inN n k → y k = x k := fun n k hk => hx k (fun q => by have := hk.2; rw [q] at this; simp at this) (fun q => by have := hk.2; rw [q] at this; simp at this)
  have mM : ∀ j, j ≠ 9 → w kM j = m kM j := fun j hj => hm kM j (by decide) (fun q => hj q.2)
  refine ⟨L, T', t, nx, u, NW_congr hN (xi 0) ⟨fun j _ => hm kNow j (by decide) (fun q => by cases q.1), fun j hj => mM j (by omega)⟩, hT, ⟨⟨a1, a2, ?_, ?_, ?_⟩, HN_congr hN.1 a2 hh (fun n _ _ => xi n) (fun j => hm kPast j (by decide) (fun q => by cases q.1)) (fun j hj => mM j (by omega))⟩, fun i hi => ?_, fun n e hn he => ?_⟩
  · rw [hx _ (by simp) (by simp)]; exact a3
  · rw [hx _ (by simp) (by simp)]; exact a4
  · rw [mM 6 (by decide)]; exact a5
  · rw [hx _ (by simp) (by simp), hm (9, 5, 0, 0) i (by decide) (fun q => by cases q.1)]; exact hW.1 i hi
  · rw [xi n _ (i0 n e 0)]; exact hW.2 n e hn he
theorem wipe_eq {x m : Sg} (h : RR x m) : x (6, 0, 0, 0) 1 = m kM 9 ∧ RR (up2 x (6, 0, 0, 0) 1 0) (up2 m kM 9 0) := by
  obtain ⟨L, T, t, nx, u, hN, ⟨t1, t2, t3, t4⟩, hH, hW⟩ := id h
  refine ⟨by rw [t1, t2], RR_text (T' := 0) h (fun k h1 h2 => up2_nk _ _ _ _ h1) (fun k j h1 h2 => up2_o h2) ⟨by rw [up2_at]; rfl, by rw [up2_at]; rfl, by decide, fun i hi => by omega⟩⟩
theorem write_eq {x m : Sg} (h : RR x m) {T : Nat} (hT : m kM 9 = nI T) (hT2 : T ≤ 200) (v : Int32) : (xWrite x v).1 = (mWrite m T v).1 ∧ RR (xWrite x v).2 (mWrite m T v).2 := by
  obtain ⟨L, T', t, nx, u, hN, ⟨t1, t2, t3, t4⟩, hH, hW⟩ := id h
  obtain rfl : T = T' := (nI_eq (by omega) (by omega)).mp (hT.symm.trans t2)
  unfold xWrite mWrite
  by_cases hv : mWi v 32 126 = 0
  · rw [if_pos hv]
    unfold mWi at hv
    by_cases q : v < 32
    · rw [if_pos q]; exact ⟨rfl, h⟩
    · rw [if_neg q] at hv ⊢
      by_cases q2 : (126 : Int32) < v
      · rw [if_neg (fun g => i32_le_irr g q2)]; exact ⟨rfl, h⟩
      · rw [if_neg q2] at hv; exact absurd hv (by decide)
  · rw [if_neg hv]
    unfold mWi at hv
    by_cases q : v < 32
    · rw [if_pos q] at hv; exact absurd rfl hv
    rw [if_neg q] at hv ⊢
    by_cases q2 : (126 : Int32) < v
    · rw [if_pos q2] at hv; exact absurd rfl hv
    have q3 : v ≤ 126 := by
      rw [Int32.le_iff_toInt_le]; rw [Int32.lt_iff_toInt_lt] at q2; omega
    rw [if_pos q3, t2]
    by_cases hf : T = 200
    · have e1 : tOk x = false := by unfold tOk; rw [t1, hf]; decide
      have e2 : tAdd x v = x := by unfold tAdd; rw [e1]; rfl
      rw [e2, e1, if_neg Bool.false_ne_true, if_pos (show nI T = 200 by rw [hf]; rfl)]
      exact ⟨rfl, h⟩
    · have e1 : tOk x = true := by
        unfold tOk
        rw [t1]
        have a1 : ¬ nI T < 0 := nI_pos (by omega)
        have a2 : nI T < 200 := nI_lt (b := 200) (by omega) (by decide)
        simp [a1, a2]
      have e2 : tAdd x v = up2 (up2 x (9, 0, 0, 0) T v) (6, 0, 0, 0) 1 (nI (T + 1)) := by
        unfold tAdd
        rw [if_pos e1, up2_nk _ _ _ _ (show ((6, 0, 0, 0) : Ky) ≠ (9, 0, 0, 0) by decide), t1, nI_clamp (by omega), nI_1]
      rw [e2, e1, if_pos rfl, if_neg (show ¬ nI T = 200 from fun g => hf ((nI_eq (a := T) (b := 200) (by omega) (by decide)).mp g)), nI_1]
      refine ⟨by dsimp only; rw [up2_at, up2_at], RR_text (T' := T + 1) h (fun k h1 h2 => by dsimp only; rw [up2_nk _ _ _ _ h1, up2_nk _ _ _ _ h2]) (fun k j h1 h2 => by dsimp only; rw [up2_o h2, up2_nk _ _ _ _ h1]) ⟨by dsimp only; rw [up2_at], by dsimp only; rw [up2_at], by omega, fun i hi => ?_⟩⟩
      dsimp only
      rw [up2_nk _ _ _ _ (show ((9, 0, 0, 0) : Ky) ≠ (6, 0, 0, 0) by decide), up2_nk _ _ _ _ (show kTx ≠ kM by decide)]
      by_cases hi2 : i = T
      · rw [hi2, up2_at, up2_at]
      · rw [up2_ne _ _ _ _ hi2, up2_ne _ _ _ _ hi2]; exact t4 i (by omega)
theorem tAdd_x (x : Sg) (v : Int32) : xF x (tAdd x v) := by
  unfold tAdd
  split
  · exact .up (by simp [yk]) (.up (by simp [yk]) (.rf x))
  · exact .rf x
theorem write_x (x : Sg) (v : Int32) : xF x (xWrite x v).2 := by
  unfold xWrite
  (repeat' split) <;> first | exact .rf x | exact tAdd_x x v
theorem write_m (m : Sg) (T : Nat) (v : Int32) : mF m (mWrite m T v).2 := by
  unfold mWrite
  (repeat' split) <;> first | exact .rf m | exact .up yk_M (.up (yk_9 (by decide)) (.rf m))
theorem yk_5 (e l : Nat) : ¬ yk (5, 0, e, l) := by simp [yk]
theorem plug_x (x : Sg) (a v : Int32) : xF x (xPlug x a v).2 := by
  cases hp : nPort x 0 0 a with
  | none => simp only [xPlug, hp]; exact .rf x
  | some k =>
    simp only [xPlug, hp]
    (repeat' split) <;> first | exact .rf x | exact .up (yk_5 _ _) (.up (yk_5 _ _) (hKeep_x x))
theorem mute_x (x : Sg) (a y v : Int32) : xF x (xMute x a y v).2 := by
  cases hp : nPort x 0 a y with
  | none => simp only [xMute, hp]; exact .rf x
  | some k =>
    obtain ⟨e, j, -, -, -, rfl, -, -⟩ := nPort_inv hp
    simp only [xMute, hp]
    (repeat' split) <;> first | exact .rf x | exact .up (yk_5 _ _) (hKeep_x x)
theorem tell_x (x : Sg) (a y w v : Int32) : xF x (xTell x a y w v).2 := by
  cases hp : nPort x 0 a y with
  | none => simp only [xTell, hp]; exact .rf x
  | some k =>
    obtain ⟨e, j, -, -, -, rfl, -, -⟩ := nPort_inv hp
    simp only [xTell, hp]
    (repeat' split) <;> first | exact .rf x | exact .up (yk_5 _ _) (hKeep_x x)
theorem set_x (x : Sg) (w v : Int32) : xF x (xSet x w v).2 := by
  unfold xSet nChg
  (repeat' split) <;> first | exact .rf x | exact .up (by simp [yk]) (hKeep_x x)
theorem tick_x (x : Sg) (v : Int32) : xF x (xTick x v).2 := by
  unfold xTick
  (repeat' split) <;> first | exact .rf x | exact (hKeep_x x).tr (nSteps_agr 0 _ (agr.rf _ _)).x
theorem mag.f {m w : Sg} (h : mag m w) : mF m w := fun k hk => h k ⟨fun q => hk (by rw [q]; exact yk_9 (by decide)), fun q => hk (by rw [q]; exact Or.inr (Or.inl rfl))⟩
theorem plug_m (m : Sg) (L u : Nat) (a v : Int32) : mF m (mPlug m L u a v).2 := by
  unfold mPlug
  (repeat' split) <;> first | exact .rf m | exact .up (yk_9 (by decide)) (mKeep_m m u)
theorem mute_m (m : Sg) (L u : Nat) (a y v : Int32) : mF m (mMute m L u a y v).2 := by
  unfold mMute
  (repeat' split) <;> first | exact .rf m | exact .up (yk_9 (by decide)) (mKeep_m m u)
theorem tell_m (m : Sg) (u : Nat) (a y w v : Int32) : mF m (mTell m u a y w v).2 := by
  unfold mTell mBcm
  (repeat' split) <;> first | exact .rf m | exact .up (yk_9 (by decide)) (mKeep_m m u)
theorem set_m (m : Sg) (u : Nat) (w v : Int32) : mF m (mSet m u w v).2 := by
  unfold mSet mBcm
  (repeat' split) <;> first | exact .rf m | exact .up (yk_9 (by decide)) (mKeep_m m u)
theorem tick_m (m : Sg) (L u : Nat) (v : Int32) : mF m (mTick m L u v).2 := by
  unfold mTick
  (repeat' split) <;> first | exact .rf m | exact (mKeep_m m u).tr (mag_ts _ (mag.rf _)).f
