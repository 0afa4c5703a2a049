/-! PURE PART 28: the first object. -/
theorem tAdd_at {x : Sg} {T : Nat} (h : x (6, 0, 0, 0) 1 = nI T) (hT : T < 200) (v : Int32) : tAdd x v = up2 (up2 x (9, 0, 0, 0) T v) (6, 0, 0, 0) 1 (nI (T + 1)) := by
  have e1 : tOk x = true := by
    unfold tOk
    rw [h]
    have a1 : ¬ nI T < 0 := nI_pos (by omega)
    have a2 : nI T < 200 := nI_lt (b := 200) (by omega) (by decide)
    simp [a1, a2]
  unfold tAdd
  rw [if_pos e1, up2_nk _ _ _ _ (show ((6, 0, 0, 0) : Ky) ≠ (9, 0, 0, 0) by decide), h, nI_clamp (by omega), nI_1]
theorem xTx_at : ∀ (d i : Nat) (σ : Sg), σ (6, 0, 0, 0) 1 = nI i → i + d ≤ 200 → xTx d i σ (6, 0, 0, 0) 1 = nI (i + d) ∧ (∀ j, i ≤ j → j < i + d → xTx d i σ (9, 0, 0, 0) j = sB j) ∧ (∀ j, j < i → xTx d i σ (9, 0, 0, 0) j = σ (9, 0, 0, 0) j) ∧ ∀ k : Ky, k ≠ (6, 0, 0, 0) → k ≠ (9, 0, 0, 0) → xTx d i σ k = σ k
  | 0, i, σ, h, _ => ⟨h, fun j h1 h2 => by omega, fun j _ => rfl, fun k _ _ => rfl⟩
  | d + 1, i, σ, h, hd => by
    have e := tAdd_at h (by omega) (sB i)
    obtain ⟨r1, r2, r3, r4⟩ := xTx_at d (i + 1) (tAdd σ (sB i)) (by rw [e, up2_at]) (by omega)
    have e9 : ∀ j, tAdd σ (sB i) (9, 0, 0, 0) j = up2 σ (9, 0, 0, 0) i (sB i) (9, 0, 0, 0) j := fun j => by rw [e, up2_nk _ _ _ _ (by decide)]
    rw [xTx]
    refine ⟨by rw [r1, show i + 1 + d = i + (d + 1) by omega], fun j h1 h2 => ?_, fun j hj => ?_, fun k h1 h2 => ?_⟩
    · by_cases q : j = i
      · rw [q, r3 i (by omega), e9, up2_at]
      · exact r2 j (by omega) (by omega)
    · rw [r3 j (by omega), e9, up2_ne _ _ _ _ (by omega)]
    · rw [r4 k h1 h2, e, up2_nk _ _ _ _ h1, up2_nk _ _ _ _ h2]
theorem lay_step {z : Sg} {c : Nat → Int32} {T a a' d : Nat} (hz : LC z c T) (ha : a < T) (h : a + 1 + 2 * nn (lt_ c T a) = a') : nLayR 0 (d + 1) (nI a) z = nLayR 0 d (nI a') (nItem z 0 (nI a)) := by
  subst h
  rw [nLayR, hz.2.1, if_neg (nI_ge ha (by have := hz.1; omega)), (LC_agr hz (agr_item (agr.rf 0 z))).len (by have := hz.1; omega)]
theorem lay_stop {z : Sg} {c : Nat → Int32} {T d : Nat} (hz : LC z c T) : nLayR 0 (d + 1) (nI T) z = z := by
  rw [nLayR, hz.2.1, if_pos (nI_le (Nat.le_refl _) (by have := hz.1; omega))]
theorem PN_congr {z : Sg} {N : Nat} {td rk mo td' rk' mo' : Nat → Int32} (h : PN z N td rk mo) (ht : ∀ i, i < 4 * N → td' i = td i) (hr : ∀ e, e < 2 → rk' e = rk e) (hm : ∀ i, i < 3 → mo' i = mo i) : PN z N td' rk' mo' := by
  obtain ⟨⟨p1, p2, p3, p4, p5, p6, pM⟩, hE, hC, hU, hD, hF⟩ := h
  refine ⟨⟨p1, p2, by rw [hm 0 (by decide)]; exact p3, by rw [hm 1 (by decide)]; exact p4, by rw [hm 2 (by decide)]; exact p5, p6, by rw [hm 0 (by decide)]; exact pM⟩, fun e he => by rw [hr e he]; exact hE e he, hC, fun e l he hl => ?_, hD, hF⟩
  rw [ht _ (by omega), ht _ (by omega)]
  exact hU e l he hl
def fT (a0 a1 a2 a3 : Int32) (N : Nat) (td : Nat → Int32) : Nat → Int32 := upd (upd (upd (upd td (4 * N) a0) (4 * N + 1) a1) (4 * N + 2) a2) (4 * N + 3) a3
theorem x0_LC : LC (xTx 57 0 ini0) sB 57 := by
  obtain ⟨r1, r2, -, -⟩ := xTx_at 57 0 ini0 rfl (by decide)
  exact ⟨by decide, r1, fun i hi => r2 i (by omega) (by omega)⟩
theorem first_PN : PN (nLay (xTx 57 0 ini0) 0) 5 (fT 1 6 2 6 4 (fT 1 5 3 5 3 (fT 1 5 2 1 2 (fT 1 3 2 4 1 (fT 1 5 2 5 0 (fun _ => 0)))))) (upd (upd (fun _ => 5) 0 4) 1 5) (upd (upd (upd (fun j => if j = 0 then 4 else if j = 1 then 2 else 1) 0 2) 1 2) 2 1) := by
  have hx : ∀ k : Ky, k ≠ (6, 0, 0, 0) → k ≠ (9, 0, 0, 0) → xTx 57 0 ini0 k = ini0 k := (xTx_at 57 0 ini0 rfl (by decide)).2.2.2
  obtain ⟨z0, hz0⟩ : ∃ z, z = nClear (xTx 57 0 ini0) 0 := ⟨_, rfl⟩
  have c0 : LC z0 sB 57 := by rw [hz0]; exact LC_agr x0_LC (agr_nClear (agr.rf 0 _))
  have p0 : PN z0 0 (fun _ => 0) (fun _ => 5) (fun j => if j = 0 then 4 else if j = 1 then 2 else 1) := by
    rw [hz0]
    exact PN_clear (fun e he => by rw [hx _ (by simp) (by simp)]; rfl) (fun e he => rfl) rfl rfl rfl
  have e0 : nLay (xTx 57 0 ini0) 0 = nLayR 0 200 (nI 0) z0 := by rw [hz0]; rfl
  obtain ⟨z1, hz1⟩ : ∃ z, z = nItem z0 0 (nI 0) := ⟨_, rfl⟩
  have c1 : LC z1 sB 57 := by rw [hz1]; exact LC_agr c0 (agr_item (agr.rf 0 _))
  have s0 : nLayR 0 200 (nI 0) z0 = nLayR 0 199 (nI 9) z1 := by rw [hz1]; exact lay_step (d := 199) c0 (by decide) (by decide)
  have t0 : lt_ sB 57 0 = 108 := by decide
  have n0_0 : nm (lt_ sB 57) 0 0 = 1 := by decide
  have n0_1 : nm (lt_ sB 57) 0 1 = 5 := by decide
  have n0_2 : nm (lt_ sB 57) 0 2 = 2 := by decide
  have n0_3 : nm (lt_ sB 57) 0 3 = 5 := by decide
  have p1 := PN_l c0 (a := 0) (by decide) p0 t0 (by decide)
  unfold plT at p1
  rw [if_pos t0, n0_0, n0_1, n0_2, n0_3, ← hz1] at p1
  obtain ⟨z2, hz2⟩ : ∃ z, z = nItem z1 0 (nI 9) := ⟨_, rfl⟩
  have c2 : LC z2 sB 57 := by rw [hz2]; exact LC_agr c1 (agr_item (agr.rf 0 _))
  have s1 : nLayR 0 199 (nI 9) z1 = nLayR 0 198 (nI 18) z2 := by rw [hz2]; exact lay_step (d := 198) c1 (by decide) (by decide)
  have t1 : lt_ sB 57 9 = 108 := by decide
  have n1_0 : nm (lt_ sB 57) 9 0 = 1 := by decide
  have n1_1 : nm (lt_ sB 57) 9 1 = 3 := by decide
  have n1_2 : nm (lt_ sB 57) 9 2 = 2 := by decide
  have n1_3 : nm (lt_ sB 57) 9 3 = 4 := by decide
  have p2 := PN_l c1 (a := 9) (by decide) p1 t1 (by decide)
  unfold plT at p2
  rw [if_pos t1, n1_0, n1_1, n1_2, n1_3, ← hz2] at p2
  obtain ⟨z3, hz3⟩ : ∃ z, z = nItem z2 0 (nI 18) := ⟨_, rfl⟩
  have c3 : LC z3 sB 57 := by rw [hz3]; exact LC_agr c2 (agr_item (agr.rf 0 _))
  have s2 : nLayR 0 198 (nI 18) z2 = nLayR 0 197 (nI 27) z3 := by rw [hz3]; exact lay_step (d := 197) c2 (by decide) (by decide)
  have t2 : lt_ sB 57 18 = 108 := by decide
  have n2_0 : nm (lt_ sB 57) 18 0 = 1 := by decide
  have n2_1 : nm (lt_ sB 57) 18 1 = 5 := by decide
  have n2_2 : nm (lt_ sB 57) 18 2 = 2 := by decide
  have n2_3 : nm (lt_ sB 57) 18 3 = 1 := by decide
  have p3 := PN_l c2 (a := 18) (by decide) p2 t2 (by decide)
  unfold plT at p3
  rw [if_pos t2, n2_0, n2_1, n2_2, n2_3, ← hz3] at p3
  obtain ⟨z4, hz4⟩ : ∃ z, z = nItem z3 0 (nI 27) := ⟨_, rfl⟩
  have c4 : LC z4 sB 57 := by rw [hz4]; exact LC_agr c3 (agr_item (agr.rf 0 _))
  have s3 : nLayR 0 197 (nI 27) z3 = nLayR 0 196 (nI 36) z4 := by rw [hz4]; exact lay_step (d := 196) c3 (by decide) (by decide)
  have t3 : lt_ sB 57 27 = 108 := by decide
  have n3_0 : nm (lt_ sB 57) 27 0 = 1 := by decide
  have n3_1 : nm (lt_ sB 57) 27 1 = 5 := by decide
  have n3_2 : nm (lt_ sB 57) 27 2 = 3 := by decide
  have n3_3 : nm (lt_ sB 57) 27 3 = 5 := by decide
  have p4 := PN_l c3 (a := 27) (by decide) p3 t3 (by decide)
  unfold plT at p4
  rw [if_pos t3, n3_0, n3_1, n3_2, n3_3, ← hz4] at p4
  obtain ⟨z5, hz5⟩ : ∃ z, z = nItem z4 0 (nI 36) := ⟨_, rfl⟩
  have c5 : LC z5 sB 57 := by rw [hz5]; exact LC_agr c4 (agr_item (agr.rf 0 _))
  have s4 : nLayR 0 196 (nI 36) z4 = nLayR 0 195 (nI 45) z5 := by rw [hz5]; exact lay_step (d := 195) c4 (by decide) (by decide)
  have t4 : lt_ sB 57 36 = 108 := by decide
  have n4_0 : nm (lt_ sB 57) 36 0 = 1 := by decide
  have n4_1 : nm (lt_ sB 57) 36 1 = 6 := by decide
  have n4_2 : nm (lt_ sB 57) 36 2 = 2 := by decide
  have n4_3 : nm (lt_ sB 57) 36 3 = 6 := by decide
  have p5 := PN_l c4 (a := 36) (by decide) p4 t4 (by decide)
  unfold plT at p5
  rw [if_pos t4, n4_0, n4_1, n4_2, n4_3, ← hz5] at p5
  obtain ⟨z6, hz6⟩ : ∃ z, z = nItem z5 0 (nI 45) := ⟨_, rfl⟩
  have c6 : LC z6 sB 57 := by rw [hz6]; exact LC_agr c5 (agr_item (agr.rf 0 _))
  have s5 : nLayR 0 195 (nI 45) z5 = nLayR 0 194 (nI 50) z6 := by rw [hz6]; exact lay_step (d := 194) c5 (by decide) (by decide)
  have t5 : lt_ sB 57 45 = 120 := by decide
  have n5_0 : nm (lt_ sB 57) 45 0 = 4 := by decide
  have n5_1 : nm (lt_ sB 57) 45 1 = 5 := by decide
  have p6 := PN_x c5 (a := 45) (by decide) p5 t5
  unfold plR at p6
  rw [if_pos t5, n5_0, n5_1, ← hz6] at p6
  obtain ⟨z7, hz7⟩ : ∃ z, z = nItem z6 0 (nI 50) := ⟨_, rfl⟩
  have c7 : LC z7 sB 57 := by rw [hz7]; exact LC_agr c6 (agr_item (agr.rf 0 _))
  have s6 : nLayR 0 194 (nI 50) z6 = nLayR 0 193 (nI 57) z7 := by rw [hz7]; exact lay_step (d := 193) c6 (by decide) (by decide)
  have t6 : lt_ sB 57 50 = 109 := by decide
  have n6_0 : nm (lt_ sB 57) 50 0 = 2 := by decide
  have n6_1 : nm (lt_ sB 57) 50 1 = 2 := by decide
  have n6_2 : nm (lt_ sB 57) 50 2 = 1 := by decide
  have p7 := PN_m c6 (a := 50) (by decide) p6 t6 (by rw [n6_0]; decide)
  unfold plM at p7
  rw [if_pos t6, n6_0, n6_1, n6_2, ← hz7] at p7
  rw [e0, s0, s1, s2, s3, s4, s5, s6, lay_stop (d := 192) c7]
  exact p7
/-- the reference's first plan -/
def mP0 (σ : Sg) : Sg := up2 (up2 (mAdds (mAdds (mAdds (mAdds (mAdds (mPlan σ) 0 1 5 2 5) 1 1 3 2 4) 2 1 5 2 1) 3 1 5 3 5) 4 1 6 2 6) (9, 8, 0, 0) 0 4) (9, 9, 0, 0) 0 2
theorem mAdds_7 (σ : Sg) (N : Nat) (a b c d : Int32) : mAdds σ N a b c d (9, 7, 0, 0) = fT a b c d N (σ (9, 7, 0, 0)) := by
  unfold mAdds fT; rw [up2_nk _ _ _ _ (by decide), up2_row, up2_row, up2_row, up2_row]
theorem mAdds_c (σ : Sg) (N : Nat) (a b c d : Int32) : mAdds σ N a b c d kM 10 = σ kM 10 + 1 := by unfold mAdds; rw [up2_at]
theorem mAdds_o {σ : Sg} {N : Nat} {a b c d : Int32} {k : Ky} {j : Nat} (h1 : k ≠ (9, 7, 0, 0)) (h2 : ¬ (k = kM ∧ j = 10)) : mAdds σ N a b c d k j = σ k j := by
  unfold mAdds; rw [up2_o h2, up2_nk _ _ _ _ h1, up2_nk _ _ _ _ h1, up2_nk _ _ _ _ h1, up2_nk _ _ _ _ h1]
theorem mP0_o {σ : Sg} {k : Ky} {j : Nat} (h1 : k ≠ (9, 7, 0, 0)) (h2 : ¬ (k = kM ∧ j = 10)) (h3 : k ≠ (9, 8, 0, 0)) (h4 : k ≠ (9, 9, 0, 0)) : mP0 σ k j = σ k j := by
  unfold mP0
  rw [up2_nk _ _ _ _ h4, up2_nk _ _ _ _ h3, mAdds_o h1 h2, mAdds_o h1 h2, mAdds_o h1 h2, mAdds_o h1 h2, mAdds_o h1 h2]
  unfold mPlan
  rw [up2_nk _ _ _ _ h4, up2_nk _ _ _ _ h4, up2_nk _ _ _ _ h4, up2_nk _ _ _ _ h3, up2_nk _ _ _ _ h3, up2_o h2]
theorem mP0_10 (σ : Sg) : mP0 σ kM 10 = nI 5 := by
  unfold mP0
  rw [up2_nk _ _ _ _ (by decide), up2_nk _ _ _ _ (by decide), mAdds_c, mAdds_c, mAdds_c, mAdds_c, mAdds_c, mPlan_10, nI_1, nI_1, nI_1, nI_1, nI_1]
theorem mP0_7 (σ : Sg) : mP0 σ (9, 7, 0, 0) = fT 1 6 2 6 4 (fT 1 5 3 5 3 (fT 1 5 2 1 2 (fT 1 3 2 4 1 (fT 1 5 2 5 0 (mPlan σ (9, 7, 0, 0)))))) := by
  unfold mP0
  rw [up2_nk _ _ _ _ (by decide), up2_nk _ _ _ _ (by decide), mAdds_7, mAdds_7, mAdds_7, mAdds_7, mAdds_7]
theorem fT_c {a b c d : Int32} {N : Nat} {td td' : Nat → Int32} (h : ∀ i, i < 4 * N → td' i = td i) : ∀ i, i < 4 * (N + 1) → fT a b c d N td' i = fT a b c d N td i := fun i hi => by
  unfold fT
  by_cases q3 : i = 4 * N + 3
  · rw [q3, pk_us, pk_us]
  rw [pk_un q3, pk_un q3]
  by_cases q2 : i = 4 * N + 2
  · rw [q2, pk_us, pk_us]
  rw [pk_un q2, pk_un q2]
  by_cases q1 : i = 4 * N + 1
  · rw [q1, pk_us, pk_us]
  rw [pk_un q1, pk_un q1]
  by_cases q0 : i = 4 * N
  · rw [q0, pk_us, pk_us]
  rw [pk_un q0, pk_un q0]
  exact h i (by omega)
theorem mP0_8 (σ : Sg) {e : Nat} (he : e < 2) : mP0 σ (9, 8, 0, 0) e = upd (upd (fun _ => 5) 0 4) 1 5 e := by
  have h : mP0 σ (9, 8, 0, 0) = upd (mPlan σ (9, 8, 0, 0)) 0 4 := by
    unfold mP0
    rw [up2_nk _ _ _ _ (by decide), up2_row]
    congr 1
  have h2 : mPlan σ (9, 8, 0, 0) = upd (upd (σ (9, 8, 0, 0)) 0 5) 1 5 := by
    have := mPlan_8 σ
    rw [up2_nk _ _ _ _ (by decide)] at this
    exact this
  rw [h, h2]
  have hee : e = 0 ∨ e = 1 := by omega
  rcases hee with rfl | rfl <;> rfl
theorem mP0_9 (σ : Sg) {i : Nat} (hi : i < 3) : mP0 σ (9, 9, 0, 0) i = upd (upd (upd (fun j => if j = 0 then 4 else if j = 1 then 2 else 1) 0 2) 1 2) 2 1 i := by
  have h : mP0 σ (9, 9, 0, 0) = upd (mPlan σ (9, 9, 0, 0)) 0 2 := by
    unfold mP0
    rw [up2_row]
    congr 1
  have h2 : mPlan σ (9, 9, 0, 0) = upd (upd (upd (σ (9, 9, 0, 0)) 0 4) 1 2) 2 1 := by
    have := mPlan_9 σ
    rw [up2_nk _ _ _ _ (by decide)] at this
    exact this
  rw [h, h2]
  have hee : i = 0 ∨ i = 1 ∨ i = 2 := by omega
  rcases hee with rfl | rfl | rfl <;> rfl
theorem first_RR : RR (mFirst (zM xFirst)) (mFirst (zM xFirst)) := by
  have hF : mFirst (zM xFirst) = mLays (mP0 (zM xFirst)) := rfl
  have hz : ∀ k : Ky, ¬ yk k → zM xFirst k = xFirst k := fun k hk => by
    funext j; exact if_neg hk
  have hz0 : ∀ (k : Ky) (j : Nat), yk k → zM xFirst k j = 0 := fun k j hk => if_pos hk
  have hmF : mF xFirst (mFirst (zM xFirst)) := by
    rw [hF]
    intro k hk
    rw [mLays_m _ k hk, ← hz k hk]
    funext j
    exact mP0_o (fun q => hk (by rw [q]; exact yk_9 (by decide))) (fun q => hk (by rw [q.1]; exact yk_M)) (fun q => hk (by rw [q]; exact yk_9 (by decide))) (fun q => hk (by rw [q]; exact yk_9 (by decide)))
  refine RR_congr ?_ hmF.x (mLk.rf _)
  rw [hF]
  have hp : PN (nLay (xTx 57 0 ini0) 0) 5 (mP0 (zM xFirst) (9, 7, 0, 0)) (mP0 (zM xFirst) (9, 8, 0, 0)) (mP0 (zM xFirst) (9, 9, 0, 0)) := by
    refine PN_congr first_PN (fun i hi => ?_) (fun e he => mP0_8 _ he) (fun i hi => mP0_9 _ hi)
    rw [mP0_7]
    exact fT_c (fT_c (fT_c (fT_c (fT_c (fun i hi => by omega))))) i hi
  have hx : ∀ k : Ky, k ≠ (6, 0, 0, 0) → k ≠ (9, 0, 0, 0) → xTx 57 0 ini0 k = ini0 k := (xTx_at 57 0 ini0 rfl (by decide)).2.2.2
  have xf : ∀ k : Ky, k ≠ (6, 0, 0, 0) → xFirst k = nLay (xTx 57 0 ini0) 0 k := fun k hk => by unfold xFirst; rw [up2_nk _ _ _ _ hk]
  have xg : ∀ k : Ky, ¬ inN 0 k → k ≠ (6, 0, 0, 0) → k ≠ (9, 0, 0, 0) → xFirst k = ini0 k := fun k h0 h1 h2 => by rw [xf k h1, agr_nLay _ k h0, hx k h1 h2]
  obtain ⟨w0, w1, w2, w6, w9⟩ := mLays_M (mP0 (zM xFirst))
  refine RR_new (N := 5) (T := 0) (by decide) (by rw [w0, mP0_10]) ?_ ⟨?_, ?_, by decide, fun i hi => by omega⟩ ?_ ?_ w6 ⟨fun i hi => ?_, fun n e hn he => ?_⟩
  · exact NR_congr (by decide) (PN_NR (mP0_10 _) hp) (fun k hk => xf k (fun q => by have := hk.2; rw [q] at this; simp at this)) (fun _ _ => rfl)
  · unfold xFirst; rw [up2_at]; rfl
  · rw [w9, mP0_o (by decide) (fun q => by omega) (by decide) (by decide), hz0 _ _ yk_M]; rfl
  · rw [xg _ (fun q => by have := q.2; simp at this) (by decide) (by decide)]; rfl
  · rw [xg _ (fun q => by have := q.2; simp at this) (by decide) (by decide)]; rfl
  · rw [mLays_95 _ hi, xg _ (fun q => by have := q.2; simp at this) (by decide) (by decide)]; rfl
  · by_cases hn0 : n = 0
    · subst hn0
      rw [xf _ (by simp)]; exact (hp.2.1 e he).1
    · rw [xg _ (fun q => hn0 q.1) (by simp) (by simp)]; rfl
