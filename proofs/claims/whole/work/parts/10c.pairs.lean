/-! THE PAIRS: each call keeps the relation, and both answer alike. -/
theorem RR_T {x m : Sg} (h : RR x m) : ∃ T, m kM 9 = nI T ∧ T ≤ 200 := by
  obtain ⟨L, T, t, nx, u, hN, hT, hH, hW⟩ := h
  exact ⟨T, hT.2.1, hT.2.2.1⟩
theorem RR_S {x m : Sg} (h : RR x m) {T : Nat} (hT : m kM 9 = nI T) (hT2 : T ≤ 200) : x (6, 0, 0, 0) 1 = nI T := by
  obtain ⟨L, T', t, nx, u, hN, hTX, hH, hW⟩ := h
  obtain rfl : T = T' := (nI_eq (by omega) (by have := hTX.2.2.1; omega)).mp (hT.symm.trans hTX.2.1)
  exact hTX.1
theorem RR_L {x m : Sg} (h : RR x m) : ∃ L, m kM 0 = nI L ∧ L ≤ 6 ∧ x (4, 0, 0, 0) 2 = nI L := by
  obtain ⟨L, T, t, nx, u, hN, hT, hH, hW⟩ := h
  exact ⟨L, hN.2.2.1, hN.1, hN.2.2.2.2.1.1⟩
theorem RR_u {x m : Sg} (h : RR x m) : ∃ u, m kM 6 = nI u ∧ u ≤ 6 := by
  obtain ⟨L, T, t, nx, u, hN, hT, hH, hW⟩ := h
  exact ⟨u, hH.1.2.2.2.2, hH.1.2.1⟩
section PAIRS
variable {la : Launch} {E : Ev}
theorem pr_write (hE : okE E) (hX : xin E) (hY : yin E) : Pr_write la E (fun σ => RR σ σ) := fun σ v h => by
  have h1 := RR_mid h (write_x σ v)
  obtain ⟨T, hT, hT2⟩ := RR_T h1
  obtain ⟨e1, e2⟩ := write_eq h1 hT hT2 v
  exact ⟨_, _, (mWrite (xWrite σ v).2 T v).2, ct_X7_write hE hX, by rw [e1]; exact ct_X8_write hE hY hT hT2, RR_end e2 (write_m _ T v)⟩
theorem pr_wipe (hE : okE E) (hX : xin E) (hY : yin E) : Pr_wipe la E (fun σ => RR σ σ) := fun σ h => by
  have hx : xF σ (up2 σ (6, 0, 0, 0) 1 0) := .up (by simp [yk]) (.rf σ)
  have h1 := RR_mid h hx
  obtain ⟨e1, e2⟩ := wipe_eq h1
  exact ⟨_, _, up2 (up2 σ (6, 0, 0, 0) 1 0) kM 9 0, ct_X7_wipe hE hX, by rw [e1]; exact ct_X8_wipe hE hY, RR_end e2 (.up yk_M (.rf _))⟩
theorem pr_fault (hE : okE E) (hX : xin E) (hY : yin E) : Pr_fault la E (fun σ => RR σ σ) := fun σ h => by
  obtain ⟨T, hT, hT2⟩ := RR_T h
  have e1 : tFault σ = (gFault σ T).1 := by
    obtain ⟨L, T', t, nx, u, hN, hTX, hH, hW⟩ := id h
    obtain rfl : T = T' := (nI_eq (by omega) (by have := hTX.2.2.1; omega)).mp (hT.symm.trans hTX.2.1)
    exact fault_eq hTX
  exact ⟨_, _, (gFault σ T).2, ct_X7_fault hE hX, by rw [e1]; exact ct_X8_fault hE hY hT hT2, RR_end (RR_congr h (xLk.rf σ) (gw_fault σ T).l) (gw_fault σ T).f⟩
theorem pr_lay (hE : okE E) (hX : xin E) (hY : yin E) : Pr_lay la E (fun σ => RR σ σ) := fun σ h => by
  obtain ⟨T, hT, hT2⟩ := RR_T h
  have hS := RR_S h hT hT2
  have h1 := RR_mid h (lay_x σ T)
  have hT' : (xLay σ T).2 kM 9 = nI T := by rw [lay_x σ T kM yk_M]; exact hT
  obtain ⟨e1, e2⟩ := lay_eq h1 hT' hT2
  exact ⟨_, _, (mLay (xLay σ T).2 T).2, ct_X7_lay hE hX hS hT2, by rw [e1]; exact ct_X8_lay hE hY hT' hT2, RR_end e2 (lay_m _ T)⟩
theorem pr_plug (hE : okE E) (hX : xin E) (hY : yin E) : Pr_plug la E (fun σ => RR σ σ) := fun σ a v h => by
  have h1 := RR_mid h (plug_x σ a v)
  obtain ⟨L, hm, hL, -⟩ := RR_L h1
  obtain ⟨u, hu, hu6⟩ := RR_u h1
  obtain ⟨e1, e2⟩ := plug_eq h1 hm hL hu hu6 a v
  exact ⟨_, _, (mPlug (xPlug σ a v).2 L u a v).2, ct_X7_plug hE hX, by rw [e1]; exact ct_X8_plug hE hY hm hL hu hu6, RR_end e2 (plug_m _ L u a v)⟩
theorem pr_mute (hE : okE E) (hX : xin E) (hY : yin E) : Pr_mute la E (fun σ => RR σ σ) := fun σ a b v h => by
  have h1 := RR_mid h (mute_x σ a b v)
  obtain ⟨L, hm, hL, -⟩ := RR_L h1
  obtain ⟨u, hu, hu6⟩ := RR_u h1
  obtain ⟨e1, e2⟩ := mute_eq h1 hm hL hu hu6 a b v
  exact ⟨_, _, (mMute (xMute σ a b v).2 L u a b v).2, ct_X7_mute hE hX, by rw [e1]; exact ct_X8_mute hE hY hm hL hu hu6, RR_end e2 (mute_m _ L u a b v)⟩
theorem pr_set (hE : okE E) (hX : xin E) (hY : yin E) : Pr_set la E (fun σ => RR σ σ) := fun σ a v h => by
  have h1 := RR_mid h (set_x σ a v)
  obtain ⟨u, hu, hu6⟩ := RR_u h1
  obtain ⟨e1, e2⟩ := set_eq h1 hu hu6 a v
  exact ⟨_, _, (mSet (xSet σ a v).2 u a v).2, ct_X7_set hE hX, by rw [e1]; exact ct_X8_set hE hY hu hu6, RR_end e2 (set_m _ u a v)⟩
theorem pr_tick (hE : okE E) (hX : xin E) (hY : yin E) : Pr_tick la E (fun σ => RR σ σ) := fun σ v h => by
  have h1 := RR_mid h (tick_x σ v)
  obtain ⟨L, hm, hL, -⟩ := RR_L h1
  obtain ⟨u, hu, hu6⟩ := RR_u h1
  obtain ⟨e1, e2⟩ := tickc_eq h1 hm hL hu hu6 v
  exact ⟨_, _, (mTick (xTick σ v).2 L u v).2, ct_X7_tick hE hX, by rw [e1]; exact ct_X8_tick hE hY hm hL hu hu6, RR_end e2 (tick_m _ L u v)⟩
theorem pr_tell (hE : okE E) (hX : xin E) (hY : yin E) : Pr_tell la E (fun σ => RR σ σ) := fun σ a b c v h => by
  have h1 := RR_mid h (tell_x σ a b c v)
  obtain ⟨L, hm, hL, -⟩ := RR_L h1
  obtain ⟨u, hu, hu6⟩ := RR_u h1
  obtain ⟨e1, e2⟩ := tell_eq h1 hu hu6 a b c v
  exact ⟨_, _, (mTell (xTell σ a b c v).2 u a b c v).2, ct_X7_tell hE hX, by rw [e1]; exact ct_X8_tell hE hY hm hL hu hu6, RR_end e2 (tell_m _ u a b c v)⟩
theorem pr_undo (hE : okE E) (hX : xin E) (hY : yin E) : Pr_undo la E (fun σ => RR σ σ) := fun σ h => by
  have h1 := RR_mid h (undo_x σ)
  obtain ⟨u, hu, hu6⟩ := RR_u h1
  obtain ⟨e1, e2⟩ := undo_eq h1 hu hu6
  exact ⟨_, _, (mUndo (xUndo σ).2 u).2, ct_X7_undo hE hX, by rw [e1]; exact ct_X8_undo hE hY hu hu6, RR_end e2 (undo_m _ u)⟩
theorem pr_link (hE : okE E) (hX : xin E) (hY : yin E) : Pr_link la E (fun σ => RR σ σ) := fun σ a b c h => by
  obtain ⟨L, hm, hL, -⟩ := RR_L h
  exact ⟨_, σ, σ, ct_X7_link hE hX, by rw [link_eq h]; exact ct_X8_link hE hY hm hL, h⟩
theorem pr_bundle (hE : okE E) (hX : xin E) (hY : yin E) : Pr_bundle la E (fun σ => RR σ σ) := fun σ a b h => by
  obtain ⟨L, hm, hL, -⟩ := RR_L h
  exact ⟨_, σ, σ, ct_X7_bundle hE hX, by rw [bundle_eq h hm hL]; exact ct_X8_bundle hE hY hm hL, h⟩
theorem pr_flow (hE : okE E) (hX : xin E) (hY : yin E) : Pr_flow la E (fun σ => RR σ σ) := fun σ a b c h => by
  obtain ⟨L, hm, hL, -⟩ := RR_L h
  exact ⟨_, σ, σ, ct_X7_flow hE hX, by rw [flow_eq h hm hL]; exact ct_X8_flow hE hY hm hL, h⟩
theorem pr_frame (hE : okE E) (hX : xin E) (hY : yin E) : Pr_frame la E (fun σ => RR σ σ) := fun σ a b h => by
  obtain ⟨L, hm, hL, h4⟩ := RR_L h
  have h1 := RR_mid h (frame_x σ a b)
  obtain ⟨e1, e2⟩ := frame_eq h1 a b
  exact ⟨_, _, (mFrame (xFrame σ a b).2 a b).2, ct_X7_frame hE hX h4 hL, by rw [e1]; exact ct_X8_frame hE hY (RR_okF h1), RR_end e2 (frame_m _ a b)⟩
theorem pr_frames (hE : okE E) (hX : xin E) (hY : yin E) : Pr_frames la E (fun σ => RR σ σ) := fun σ a b h => by
  obtain ⟨L, hm, hL, h4⟩ := RR_L h
  exact ⟨_, σ, σ, ct_X7_frames hE hX h4 hL, by rw [frames_eq h]; exact ct_X8_frames hE hY hm hL, h⟩
theorem pr_agreed (hE : okE E) (hX : xin E) (hY : yin E) : Pr_agreed la E (fun σ => RR σ σ) := fun σ h => by
  obtain ⟨L, hm, hL, h4⟩ := RR_L h
  have e1 : xAgree σ = mAgree σ L := by
    obtain ⟨L', T, t, nx, u, hN, -⟩ := h
    obtain rfl : L = L' := (nI_eq (by omega) (by have := hN.1; omega)).mp (hm.symm.trans hN.2.2.1)
    exact agree_eq hL hN.2.1 hN.2.2.2
  exact ⟨_, σ, σ, ct_X7_agreed hE hX, by rw [e1]; exact ct_X8_agreed hE hY hm hL, h⟩
theorem pr_settled (hE : okE E) (hX : xin E) (hY : yin E) : Pr_settled la E (fun σ => RR σ σ) := fun σ h => by
  obtain ⟨y, hy⟩ : ∃ y, y = (xSettled σ).2 := ⟨_, rfl⟩
  have h1 : RR σ y := by rw [hy]; exact RR_mid h (settled_x σ)
  obtain ⟨L, hm, hL, -⟩ := RR_L h1
  obtain ⟨e1, e2⟩ := settled_eq h1 hm hL
  rw [← hy] at e2
  have c8 := ct_X8_settled (la := la) (σ0 := y) (L := L) hE hY hm hL
  rw [← e1] at c8
  have c7 := ct_X7_settled (la := la) (σ0 := σ) hE hX
  rw [← hy] at c7
  exact ⟨(xSettled σ).1, y, (mSettled y L).2, c7, c8, RR_end e2 (settled_m y L)⟩
theorem pr_count (hE : okE E) (hX : xin E) (hY : yin E) : Pr_count la E (fun σ => RR σ σ) := fun σ a h => by
  obtain ⟨L, hm, hL, -⟩ := RR_L h
  exact ⟨_, σ, σ, ct_X7_count hE hX, by rw [count_eq h hm hL]; exact ct_X8_count hE hY hm hL, h⟩
end PAIRS
