/-! PURE PART 27: laid on both sides. -/
theorem xZero_at : ∀ (d i : Nat) (σ : Sg) (j : Nat), xZero d i σ (9, 1, 0, 0) j = if i ≤ j ∧ j < i + d then 0 else σ (9, 1, 0, 0) j
  | 0, i, σ, j => by rw [xZero, if_neg (by omega)]
  | d + 1, i, σ, j => by
    rw [xZero, xZero_at d (i + 1)]
    by_cases h : i = j
    · subst h
      rw [if_neg (by omega), if_pos (by omega), up2_at]
    · by_cases h2 : i + 1 ≤ j ∧ j < i + 1 + d
      · rw [if_pos h2, if_pos (by omega)]
      · rw [if_neg h2, if_neg (by omega), up2_ne _ _ _ _ (by omega)]
theorem xZero_ne {k : Ky} (hk : k ≠ (9, 1, 0, 0)) : ∀ (d i : Nat) (σ : Sg), xZero d i σ k = σ k
  | 0, _, _ => rfl
  | d + 1, i, σ => by rw [xZero, xZero_ne hk d, up2_nk _ _ _ _ hk]
theorem RR_new {y w : Sg} {N T : Nat} (hN6 : N ≤ 6) (hw0 : w kM 0 = nI N) (hNR : NR y 0 (w kNow) N (w kM 1) (w kM 2) 0) (hTX : TX y w T) (h21 : y (2, 0, 0, 0) 1 = 0) (h22 : y (2, 0, 0, 0) 2 = 0) (h6 : w kM 6 = 0) (hW : WE y w) : RR y w :=
  ⟨N, T, 0, 0, 0, ⟨hN6, by omega, hw0, hNR⟩, hTX, ⟨⟨by decide, by decide, h21, h22, h6⟩, fun i hi => by omega⟩, hW⟩
theorem mPlan_8 (m : Sg) : up2 (mPlan m) kM 15 0 (9, 8, 0, 0) = upd (upd (m (9, 8, 0, 0)) 0 5) 1 5 := by
  unfold mPlan
  rw [up2_nk _ _ _ _ (by decide), up2_nk _ _ _ _ (by decide), up2_nk _ _ _ _ (by decide), up2_nk _ _ _ _ (by decide), up2_row, up2_row, up2_nk _ _ _ _ (by decide)]
theorem mPlan_9 (m : Sg) : up2 (mPlan m) kM 15 0 (9, 9, 0, 0) = upd (upd (upd (m (9, 9, 0, 0)) 0 4) 1 2) 2 1 := by
  unfold mPlan
  rw [up2_nk _ _ _ _ (by decide), up2_row, up2_row, up2_row, up2_nk _ _ _ _ (by decide), up2_nk _ _ _ _ (by decide), up2_nk _ _ _ _ (by decide)]
theorem lay_eq {x m : Sg} (h : RR x m) {T : Nat} (hT : m kM 9 = nI T) (hT2 : T ≤ 200) : (xLay x T).1 = (mLay m T).1 ∧ RR (xLay x T).2 (mLay m T).2 := by
  obtain ⟨L, T', t, nx, u, hN, hTX, hH, hW⟩ := id h
  obtain rfl : T = T' := (nI_eq (by omega) (by have := hTX.2.2.1; omega)).mp (hT.symm.trans hTX.2.1)
  have hLC := TX_LC hTX
  have hgw := gw_fault m T
  unfold xLay mLay
  rw [fault_eq hTX]
  by_cases hf : (gFault m T).1 = -4
  · rw [if_pos hf, if_pos hf]
    have hc0 : up2 (mPlan m) kM 15 0 kTx = m kTx := (gw_plan (σ := m)).k (by decide) (by decide) (by decide) (by decide) (by decide)
    have hTI : TI (up2 (mPlan m) kM 15 0) 0 T 0 := ⟨by rw [up2_at]; rfl, by rw [(gw_plan (σ := m)).M (by decide) (by decide)]; exact hT, by rw [up2_ne _ _ _ _ (by decide), mPlan_10], by omega, hT2, by omega⟩
    have hp0 : PN (nClear x 0) 0 (up2 (mPlan m) kM 15 0 (9, 7, 0, 0)) (up2 (mPlan m) kM 15 0 (9, 8, 0, 0)) (up2 (mPlan m) kM 15 0 (9, 9, 0, 0)) := by
      rw [mPlan_8, mPlan_9]
      refine PN_clear (fun e he => hW.2 0 e (by decide) he) (fun e he => ?_) rfl rfl rfl
      have hee : e = 0 ∨ e = 1 := by omega
      rcases hee with rfl | rfl <;> rfl
    obtain ⟨N', j1, j2, j3⟩ := lay_loop 200 T 0 0 _ (nClear x 0) (LC_agr hLC (agr_nClear (agr.rf 0 x))) hc0 (by omega) (by omega) hTI hp0 hf
    have e0 : gFl T (T + 1) 0 0 (up2 (mPlan m) kM 15 0) = gFault m T := rfl
    rw [e0] at j1 j2
    have e1 : nLayR 0 200 (nI 0) (nClear x 0) = nLay x 0 := rfl
    rw [e1] at j2
    have ht : tTell x T = 0 ↔ N' = 0 := by
      unfold tTell
      rw [tell_iff hLC T 0 (by omega), j3]
      exact ⟨fun g => ⟨rfl, fun i h1 h2 => g i (by omega) (by omega)⟩, fun g i h1 h2 => g.2 i (by omega) (by omega)⟩
    have hN6 := j2.1.1
    rw [j1]
    by_cases h0 : N' = 0
    · rw [if_pos (ht.mpr h0), if_pos (show nI N' = 0 by rw [h0]; rfl)]
      exact ⟨rfl, RR_congr h (xLk.rf x) hgw.l⟩
    · rw [if_neg (fun q => h0 (ht.mp q)), if_neg (nI_ne0 (by omega) (by omega))]
      dsimp only
      have ya : agr 0 x (nLay x 0) := agr_nLay x
      have yn : ∀ k : Ky, k ≠ (9, 1, 0, 0) → k ≠ (2, 0, 0, 0) → xLay1 x k = nLay x 0 k := fun k h1 h2 => by
        unfold xLay1; rw [xZero_ne h1, up2_nk _ _ _ _ h2, up2_nk _ _ _ _ h2]
      obtain ⟨w0, w1, w2, w6, w9⟩ := mLays_M (gFault m T).2
      refine ⟨?_, RR_new (N := N') (T := T) hN6 (by rw [w0, j1]) ?_ ⟨?_, ?_, hT2, fun i hi => ?_⟩ ?_ ?_ w6 ⟨fun i hi => ?_, fun n e hn he => ?_⟩⟩
      · rw [yn _ (by simp) (by simp), j2.1.2.1, w0, j1]
      · exact NR_congr hN6 (PN_NR j1 j2) (fun k hk => yn k (fun q => by have := hk.2; rw [q] at this; simp at this) (fun q => by have := hk.2; rw [q] at this; simp at this)) (fun _ _ => rfl)
      · rw [yn _ (by simp) (by simp), ya _ (fun q => by have := q.2; simp at this)]; exact hTX.1
      · rw [w9, hgw.M (by decide) (by decide)]; exact hT
      · rw [yn _ (by simp) (by simp), ya _ (fun q => by have := q.2; simp at this), mLays_ne (by decide) (by decide) (by decide), hgw.k (by decide) (by decide) (by decide) (by decide) (by decide)]; exact hTX.2.2.2 i hi
      · unfold xLay1; rw [xZero_ne (by decide), up2_ne _ _ _ _ (by decide), up2_at]
      · unfold xLay1; rw [xZero_ne (by decide), up2_at]
      · rw [mLays_95 _ hi]; unfold xLay1; rw [xZero_at, if_pos (by omega)]
      · rw [yn _ (by simp) (by simp)]
        by_cases hn0 : n = 0
        · subst hn0; exact (j2.2.1 e he).1
        · rw [ya _ (fun q => hn0 q.1)]; exact hW.2 n e hn he
  · rw [if_neg hf, if_neg hf]; exact ⟨rfl, RR_congr h (xLk.rf x) hgw.l⟩
theorem lay1_x (x : Sg) : xF x (xLay1 x) := fun k hk => by
  unfold xLay1
  rw [xZero_ne (fun q => by rw [q] at hk; simp [yk] at hk), up2_nk _ _ _ _ (fun q => by rw [q] at hk; simp [yk] at hk), up2_nk _ _ _ _ (fun q => by rw [q] at hk; simp [yk] at hk)]
  exact (agr_nLay x).x k hk
theorem lay_x (x : Sg) (S : Nat) : xF x (xLay x S).2 := by
  unfold xLay
  (repeat' split) <;> first | exact .rf x | exact lay1_x x
theorem mLays_m (m : Sg) : mF m (mLays m) := fun k hk => mLays_ne (fun q => hk (by rw [q]; exact yk_9 (by decide))) (fun q => hk (by rw [q]; exact yk_M)) (fun q => hk (by rw [q]; exact yk_9 (by decide)))
theorem lay_m (m : Sg) (T : Nat) : mF m (mLay m T).2 := by
  unfold mLay
  (repeat' split) <;> first | exact (gw_fault m T).f | exact (gw_fault m T).f.tr (mLays_m _)
