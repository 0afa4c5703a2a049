set_option maxHeartbeats 4000000 in
set_option maxRecDepth 100000 in
theorem law_start {p : Program} {e : Env} {s : State} {m : MethodId} {below : List Frame} {meth : Method} {c : Code} (l : Launch) {b L : Nat} {xs : Nat → Int32} (hL : L ≤ 2560) (C0 : lw_At p s m meth c b L xs) {Inv : Sg → Prop} (hI0 : Inv (mFirst (zM xFirst))) (p0 : ∀ E : Ev, okE E → xin E → yin E → Pr_write l E Inv) (p1 : ∀ E : Ev, okE E → xin E → yin E → Pr_wipe l E Inv) (p2 : ∀ E : Ev, okE E → xin E → yin E → Pr_fault l E Inv) (p3 : ∀ E : Ev, okE E → xin E → yin E → Pr_lay l E Inv) (p4 : ∀ E : Ev, okE E → xin E → yin E → Pr_plug l E Inv) (p5 : ∀ E : Ev, okE E → xin E → yin E → Pr_mute l E Inv) (p6 : ∀ E : Ev, okE E → xin E → yin E → Pr_tell l E Inv) (p7 : ∀ E : Ev, okE E → xin E → yin E → Pr_set l E Inv) (p8 : ∀ E : Ev, okE E → xin E → yin E → Pr_tick l E Inv) (p9 : ∀ E : Ev, okE E → xin E → yin E → Pr_undo l E Inv) (p10 : ∀ E : Ev, okE E → xin E → yin E → Pr_link l E Inv) (p11 : ∀ E : Ev, okE E → xin E → yin E → Pr_bundle l E Inv) (p12 : ∀ E : Ev, okE E → xin E → yin E → Pr_flow l E Inv) (p13 : ∀ E : Ev, okE E → xin E → yin E → Pr_frame l E Inv) (p14 : ∀ E : Ev, okE E → xin E → yin E → Pr_frames l E Inv) (p15 : ∀ E : Ev, okE E → xin E → yin E → Pr_agreed l E Inv) (p16 : ∀ E : Ev, okE E → xin E → yin E → Pr_settled l E Inv) (p17 : ∀ E : Ev, okE E → xin E → yin E → Pr_count l E Inv) : W p l e room_1 s m #[Value.ref b] below meth c s.heap [] 0 0 (lw_Z below #[Value.ref b] s) (entryFrame m ([Value.ref b] : List Value).toArray 4) := by
  obtain ⟨hx, hb, hr, hml, hown, hts, hXs, hbl, hlocks, hgv⟩ := id C0
  have hA : ∀ q : Nat, s.heap.size ≤ q → (fun q : Nat => s.heap.size ≤ q) q := fun _ h => h
  have ht2 : ∀ w ∈ wsL_law, w.before #[Value.ref b] s = true := fun w hw => hts w (wsL_law_in w hw)
  obtain ⟨c0, i0, hk0⟩ := u_known (C := RX0) (T := TX0) (N := 4) (n := 4) ht2 wiL_X0 (ht2 _ wnL_X0)
  obtain ⟨c1, i1, hk1⟩ := u_known (C := RX1) (T := TX1) (N := 2) (n := 2) ht2 wiL_X1 (ht2 _ wnL_X1)
  obtain ⟨c2, i2, hk2⟩ := u_known (C := RX2) (T := TX2) (N := 3) (n := 3) ht2 wiL_X2 (ht2 _ wnL_X2)
  obtain ⟨c3, i3, hk3⟩ := u_known (C := RX3) (T := TX3) (N := 5) (n := 5) ht2 wiL_X3 (ht2 _ wnL_X3)
  obtain ⟨c4, i4, hk4⟩ := u_known (C := RX4) (T := TX4) (N := 7) (n := 7) ht2 wiL_X4 (ht2 _ wnL_X4)
  obtain ⟨c5, i5, hk5⟩ := u_known (C := RX5) (T := TX5) (N := 11) (n := 11) ht2 wiL_X5 (ht2 _ wnL_X5)
  obtain ⟨c6, i6, hk6⟩ := u_known (C := RX6) (T := TX6) (N := 2) (n := 2) ht2 wiL_X6 (ht2 _ wnL_X6)
  obtain ⟨c7, i7, hk7⟩ := u_known (C := RX7) (T := TX7) (N := 6) (n := 6) ht2 wiL_X7 (ht2 _ wnL_X7)
  obtain ⟨c8, i8, hk8⟩ := u_known (C := RX8) (T := TX8) (N := 18) (n := 18) ht2 wiL_X8 (ht2 _ wnL_X8)
  obtain ⟨a0, ha0⟩ := arr_int (hts _ wt_ta0)
  obtain ⟨a1, ha1⟩ := arr_bool (hts _ wt_ta1)
  obtain ⟨a2, ha2⟩ := arr_known (hts _ wt_to1)
  obtain ⟨a3, ha3⟩ := arr_known (hts _ wt_to4)
  obtain ⟨a4, ha4⟩ := arr_known (hts _ wt_to5)
  obtain ⟨D, hKc⟩ : ∃ D : va_G, ∀ (k : Nat) (q : vw_C), vwCl[k]? = some q → u_Kn s q.1 q.2.1 q.2.2 (D.1 k) (D.2 k) := by
    refine ⟨(fun k => if k = 0 then c0 else if k = 1 then c1 else if k = 2 then c2 else if k = 3 then c3 else if k = 4 then c4 else if k = 5 then c5 else if k = 6 then c6 else if k = 7 then c7 else c8, fun k => if k = 0 then i0 else if k = 1 then i1 else if k = 2 then i2 else if k = 3 then i3 else if k = 4 then i4 else if k = 5 then i5 else if k = 6 then i6 else if k = 7 then i7 else i8), ?_⟩
    intro k q hq
    match k, hq with
    | 0, hq => cases hq; exact hk0
    | 1, hq => cases hq; exact hk1
    | 2, hq => cases hq; exact hk2
    | 3, hq => cases hq; exact hk3
    | 4, hq => cases hq; exact hk4
    | 5, hq => cases hq; exact hk5
    | 6, hq => cases hq; exact hk6
    | 7, hq => cases hq; exact hk7
    | 8, hq => cases hq; exact hk8
    | k + 9, hq => simp [vwCl] at hq
  obtain ⟨ar, har⟩ : ∃ ar : Nat → ClassId, (ArrOfT s (ar 0) .int ∧ va_RA s (ar 0) .int) ∧ (ArrOfT s (ar 1) .boolean ∧ va_RA s (ar 1) .boolean) ∧ (ArrOfT s (ar 2) (.object RX1) ∧ va_RA s (ar 2) (.object RX1)) ∧ (ArrOfT s (ar 3) (.object RX4) ∧ va_RA s (ar 3) (.object RX4)) ∧ (ArrOfT s (ar 4) (.object RX5) ∧ va_RA s (ar 4) (.object RX5)) := ⟨fun k => if k = 0 then a0 else if k = 1 then a1 else if k = 2 then a2 else if k = 3 then a3 else a4, ha0, ha1, ha2, ha3, ha4⟩
  obtain ⟨E, hEd⟩ : ∃ E : Ev, E = (D, ar, [], fun _ => 0) := ⟨_, rfl⟩
  have hsw : sw E s := by
    subst hEd
    refine ⟨⟨hKc, fun k q hq => ?_⟩, va_Nw.of rfl (hts _ wt_tn7), va_Nw.of rfl (hts _ wt_tn8)⟩
    match k, hq with
    | 0, hq => cases hq; exact har.1
    | 1, hq => cases hq; exact har.2.1
    | 2, hq => cases hq; exact har.2.2.1
    | 3, hq => cases hq; exact har.2.2.2.1
    | 4, hq => cases hq; exact har.2.2.2.2
    | k + 5, hq => simp [tys] at hq
  have hn2 : nst2 s := ⟨⟨va_Nw.of rfl (hts _ wt_tn1), va_Nw.of rfl (hts _ wt_tn2), va_Nw.of rfl (hts _ wt_tn3), va_Nw.of rfl (hts _ wt_tn4), va_Nw.of rfl (hts _ wt_tn5), va_Nw.of rfl (hts _ wt_tn6)⟩, va_AO.of (hts _ wt_to5), va_AO.of (hts _ wt_to1), va_AO.of (hts _ wt_to4)⟩
  have hfl := flat_of_before _ hgv
  have hnA : ∀ a : Nat, a < s.heap.size → ¬ (fun q : Nat => s.heap.size ≤ q) a := fun a h => Nat.not_le.mpr h
  have z1 : ∀ i : Nat, i < 1 → ([57] : List Nat).getD i 0 < 2 ^ 31 := fun i hi => by
    obtain rfl : i = 0 := by omega
    decide
  have z2 : ∀ i : Nat, i < 1 → (Cond.eq (.length (.field (Term.string "BundledLinks" 40) "java/lang/String" "value" "[B")) (.int (Int32.ofNat (([57] : List Nat).getD i 0)))).before #[Value.ref b] s = true := fun i hi => by
    obtain rfl : i = 0 := by omega
    exact hfl _ flat_12
  have z3 : ∀ i : Nat, i < 1 → ∀ j : Nat, j < ([57] : List Nat).getD i 0 → (Cond.eq (.elem (.field (Term.string "BundledLinks" 40) "java/lang/String" "value" "[B") (.int (Int32.ofNat j))) (.int (([strB].getD i []).getD j 0))).before #[Value.ref b] s = true := fun i hi j hj => by
    obtain rfl : i = 0 := by omega
    exact hfl _ (flat_el j hj)
  obtain ⟨adK, adV, hvs, hve⟩ := vk_Sof (args := #[Value.ref b]) (s := s) (N := 1) (tm := fun _ => (Term.string "BundledLinks" 40)) (len := [57]) (byt := [strB]) (A := fun q : Nat => s.heap.size ≤ q) z1 (fun i hi => hfl _ flat_9) (fun i hi => hfl _ flat_10) (fun i hi => hfl _ flat_11) z2 z3 (fun i j hi hj h => absurd (show i = j by omega) h) hnA
  have hv0 := hvs.1 0 (by decide)
  have hse : SE (adK 0) (adV 0) (fun q : Nat => s.heap.size ≤ q) s s.heap := ⟨hv0.1, hv0.2.1, hv0.2.2.1, hv0.2.2.2, va_Zof (hts _ wt_tl1) (hts _ wt_tz1) (va_eqt (hfl _ flat_4)) hnA, va_Zqof (hts _ wt_tl2) (hts _ wt_tz2) (hfl _ flat_5) hnA⟩
  have hvr : vk_R RX7 40 strT (adK 0) s := vk_R.of (hts _ wt_ts1) (hve 0 (by decide))
  have hks0 : ks E = [] := by rw [hEd]; rfl
  have hE0 : okE E := ⟨by rw [hks0]; exact List.nodup_nil, fun k hk => by rw [hks0] at hk; cases hk⟩
  have cx : Cx p s m #[Value.ref b] c E (fun q : Nat => s.heap.size ≤ q) RL code 4 wsL_law := ⟨⟨hx, hb, hml, hown, ht2⟩, hsw, hE0, fun k hk => by rw [hks0] at hk; cases hk⟩
  have hclo0 : clo E (fun _ _ => none) := fun k hk => by rw [hks0] at hk; cases hk
  have K : AW p l e room_1 s m #[Value.ref b] below meth c 0 0 (lw_Z below #[Value.ref b] s) (fun q : Nat => s.heap.size ≤ q) E (fun _ _ => none) 0 (lv0 [.ref b] 4) [] (fun _ _ => 0) := by
    have hn7 : (7, 0, 0, 0) ∉ ks E := by rw [hks0]; exact List.not_mem_nil
    refine A_new (q := 3) (ci := 7) (fs := [.null, .null, .null, .null, .null, .null]) cx (7, 0, 0, 0) tyX7 tyX7_ok wiL_X7 wcL_7 wnL_X7 wzL_X7 rfl dL_law_0 hA hn7 hclo0 rfl (fun j hj => by match j, hj with | 0, _ | 1, _ | 2, _ | 3, _ | 4, _ | 5, _ => rfl | n + 6, hj => exact absurd hj (by omega)) (Nat.le_of_ble_eq_true rfl) (Nat.le_of_ble_eq_true rfl) rfl (fun z7 cx => ?_)
    refine A_dup (q := 4) cx dL_law_3 rfl rfl ?_
    have hk7 : ∀ k ∈ ks (addK E (7, 0, 0, 0) z7), k = (7, 0, 0, 0) := fun k hk => by rw [ks_addK, hks0] at hk; exact List.mem_singleton.mp hk
    have m7 : (7, 0, 0, 0) ∈ ks (addK E (7, 0, 0, 0) z7) := List.mem_append_right _ (List.mem_singleton.mpr rfl)
    refine T7 (q := 7) cx hn2 hse hvr (ct_X7_init cx.2.2.1 (clo_addK z7 hclo0) m7 hk7 (sr_at _ _ _)) (cwI 0 cx.1.2.2.2.2 gL_law_X7_init rfl rfl rfl (cx.1.2.2.2.2 _ wzL_X7) (cx.1.2.2.2.2 _ wlL_7) (cx.1.2.2.2.2 _ wmL_X7) rfl (by decide +kernel) ⟨Nat.le_of_ble_eq_true rfl, Nat.le_of_ble_eq_true rfl⟩) dL_law_4 hA rfl (Nat.le_of_ble_eq_true rfl) ⟨Nat.le_of_ble_eq_true rfl, Nat.le_of_ble_eq_true rfl⟩ rfl (fun sz1 b1 hb1 hbb1 hAN1 => ?_)
    obtain ⟨⟨q1, hks1, had1⟩, hE1, hA1, hρ1, hσ1⟩ := hb1
    obtain ⟨E1, ρ1, σ1⟩ := b1
    dsimp only at q1 hks1 had1 hE1 hA1 hρ1 hσ1 ⊢
    subst hρ1 hσ1
    have cx1 : Cx p s m #[Value.ref b] c E1 (fun q : Nat => s.heap.size ≤ q) RL code 4 wsL_law := ⟨cx.1, by have h := cx.2.1; unfold sw tys at h ⊢; rw [q1.1, q1.2]; exact h, hE1, fun k hk => hAN1 _ (hA1 k hk)⟩
    have e7 := had1 (7, 0, 0, 0) m7
    rw [← e7]
    refine A_ext (ρ' := rh1) (σ' := xFirst) (fun k hk => kcX ((hks1 k).mp hk)) (fun k hk j hj => ⟨fun hrf => by unfold rh1; rw [if_pos ⟨hj, hrf⟩], rfl⟩) ?_
    have hclo1 : clo E1 rh1 := fun k hk j t ht => (hks1 t).mpr (rh1_X ((hks1 k).mp hk) ht)
    refine A_astore_n (lv' := [some _, some _, none, none]) (q := 8) cx1 dL_law_7 (Nat.le_of_ble_eq_true rfl) rfl rfl rfl ?_
    have hn8 : (8, 0, 0, 0) ∉ ks E1 := fun h => (hks1 _).mp h
    refine A_new (q := 11) (ci := 8) (fs := [.int 0, .int 0, .int 0, .null, .null, .null, .int 0, .null, .null, .int 0, .int 0, .null, .null, .null, .null, .int 0, .null, .null]) cx1 (8, 0, 0, 0) tyX8 tyX8_ok wiL_X8 wcL_8 wnL_X8 wzL_X8 rfl dL_law_8 hA hn8 hclo1 rfl (fun j hj => by match j, hj with | 0, _ | 1, _ | 2, _ | 3, _ | 4, _ | 5, _ | 6, _ | 7, _ | 8, _ | 9, _ | 10, _ | 11, _ | 12, _ | 13, _ | 14, _ | 15, _ | 16, _ | 17, _ => rfl | n + 18, hj => exact absurd hj (by omega)) (Nat.le_of_ble_eq_true rfl) (Nat.le_of_ble_eq_true rfl) rfl (fun z8 cx => ?_)
    refine A_dup (q := 12) cx dL_law_11 rfl rfl ?_
    have m8 : (8, 0, 0, 0) ∈ ks (addK E1 (8, 0, 0, 0) z8) := List.mem_append_right _ (List.mem_singleton.mpr rfl)
    have hcl8 : ∀ k ∈ ks (addK E1 (8, 0, 0, 0) z8), k = (8, 0, 0, 0) ∨ kvX k := fun k hk => (List.mem_append.mp hk).elim (fun q => Or.inr ((hks1 k).mp q)) (fun q => Or.inl (List.mem_singleton.mp q))
    have hnw8 : ∀ k, sM k → k ∉ ks (addK E1 (8, 0, 0, 0) z8) := fun k hk h => by
      rcases hcl8 k h with q | q
      · rw [q] at hk; simp [sM] at hk
      · exact kvX_not_M q ((kvM_iff k).mpr (Or.inr hk))
    have hrr8 : ∀ k ∈ ks (addK E1 (8, 0, 0, 0) z8), kvX k → ∀ j, j < wd k → isRf k j = true → srr rh1 (8, 0, 0, 0) (fun _ => none) k j = rh0 k j := fun k hk hX j hj hrf => by
      rw [srr_ne _ _ _ (fun q => by rw [q] at hX; exact hX)]; unfold rh1; rw [if_pos ⟨hj, hrf⟩]
    refine TI0 (q := 15) cx hn2 (ct_X8_init cx.2.2.1 (clo_addK z8 hclo1) m8 hcl8 hnw8 hrr8 (sr_at _ _ _)) (cwI 0 cx.1.2.2.2.2 gL_law_X8_init rfl rfl rfl (cx.1.2.2.2.2 _ wzL_X8) (cx.1.2.2.2.2 _ wlL_8) (cx.1.2.2.2.2 _ wmL_X8) rfl (by decide +kernel) ⟨Nat.le_of_ble_eq_true rfl, Nat.le_of_ble_eq_true rfl⟩) dL_law_12 hA rfl (Nat.le_of_ble_eq_true rfl) ⟨Nat.le_of_ble_eq_true rfl, Nat.le_of_ble_eq_true rfl⟩ rfl (fun sz2 b2 hb2 hbb2 hAN2 => ?_)
    obtain ⟨⟨q2, hks2, had2⟩, hE2, hA2, hρ2, hσ2⟩ := hb2
    obtain ⟨E2, ρ2, σ2⟩ := b2
    dsimp only at q2 hks2 had2 hE2 hA2 hρ2 hσ2 ⊢
    subst hρ2 hσ2
    have cx2 : Cx p s m #[Value.ref b] c E2 (fun q : Nat => s.heap.size ≤ q) RL code 4 wsL_law := ⟨cx.1, by have h := cx.2.1; unfold sw tys at h ⊢; rw [q2.1, q2.2]; exact h, hE2, fun k hk => hAN2 _ (hA2 k hk)⟩
    have e8 := had2 (8, 0, 0, 0) m8
    have m71 : (7, 0, 0, 0) ∈ ks E1 := (hks1 _).mpr ⟨rfl, rfl, rfl⟩
    have e72 := (had2 (7, 0, 0, 0) (List.mem_append_left _ m71)).trans (ad_addK_ne E1 (8, 0, 0, 0) z8 (by simp))
    rw [← e8, ← e72]
    refine A_astore_n (lv' := [some _, some _, some _, none]) (q := 16) cx2 dL_law_15 (Nat.le_of_ble_eq_true rfl) rfl rfl rfl ?_
    refine A_iconst (v := 0) (q := 17) cx2 dL_law_16 (by decide) rfl ?_
    refine A_istore_n (lv' := [some _, some _, some _, some _]) (q := 18) cx2 dL_law_17 (Nat.le_of_ble_eq_true rfl) rfl rfl ?_
    have hX2 : xin E2 := fun k hk => (hks2 k).mpr (Or.inl (List.mem_append_left _ ((hks1 k).mpr hk)))
    have hY2 : yin E2 := fun k hk => (hks2 k).mpr (((kvM_iff k).mp hk).elim (fun q => Or.inl (q ▸ m8)) Or.inr)
    rw [zM_sr]
    refine A_widen (k := 549) (n := 5349) (Nat.le_of_ble_eq_true rfl) (Nat.le_of_ble_eq_true rfl) ?_
    exact law_loop hL C0 cx2 hX2 hY2 (p0 E2 hE2 hX2 hY2) (p1 E2 hE2 hX2 hY2) (p2 E2 hE2 hX2 hY2) (p3 E2 hE2 hX2 hY2) (p4 E2 hE2 hX2 hY2) (p5 E2 hE2 hX2 hY2) (p6 E2 hE2 hX2 hY2) (p7 E2 hE2 hX2 hY2) (p8 E2 hE2 hX2 hY2) (p9 E2 hE2 hX2 hY2) (p10 E2 hE2 hX2 hY2) (p11 E2 hE2 hX2 hY2) (p12 E2 hE2 hX2 hY2) (p13 E2 hE2 hX2 hY2) (p14 E2 hE2 hX2 hY2) (p15 E2 hE2 hX2 hY2) (p16 E2 hE2 hX2 hY2) (p17 E2 hE2 hX2 hY2) (L + 1) 0 _ (by omega) (by omega) hI0
  rw [lg_entry_eq]
  exact K s.heap [] _ (fun k q hq => by unfold wl at hq; rw [hks0] at hq; simp at hq) va_S.rf (hs_entry (ok1 rfl) (Nat.le_of_ble_eq_true rfl) (Nat.le_of_ble_eq_true rfl))
