theorem wi_X0_init_X0 : ∀ w ∈ u_ws RX0 TX0 4, w ∈ wsX0_init := by decide +kernel
theorem wf_X0_init_24 : Cond.fieldLink RX0 24 (TX0 3).1 (TX0 3).2.1 (TX0 3).2.2.1 ∈ wsX0_init := by decide +kernel
theorem wc_X0_init_cl22 : Cond.classLink RX0 22 RX1 ∈ wsX0_init := by decide +kernel
theorem wc_X0_init_isX1 : Cond.instantiable RX1 2 ∈ wsX0_init := by decide +kernel
theorem wc_X0_init_inX1 : Cond.initialized RX1 ∈ wsX0_init := by decide +kernel
theorem wi_X0_init_X1 : ∀ w ∈ u_ws RX1 TX1 2, w ∈ wsX0_init := by decide +kernel
theorem wc_X0_init_imX1_init : Cond.instanceMethod yX1_init ∈ wsX0_init := by decide +kernel
theorem wf_X0_init_17 : Cond.fieldLink RX0 17 (TX0 2).1 (TX0 2).2.1 (TX0 2).2.2.1 ∈ wsX0_init := by decide +kernel
theorem wc_X0_init_cl15 : Cond.classLink RX0 15 RX5 ∈ wsX0_init := by decide +kernel
theorem wc_X0_init_isX5 : Cond.instantiable RX5 11 ∈ wsX0_init := by decide +kernel
theorem wc_X0_init_inX5 : Cond.initialized RX5 ∈ wsX0_init := by decide +kernel
theorem wi_X0_init_X5 : ∀ w ∈ u_ws RX5 TX5 11, w ∈ wsX0_init := by decide +kernel
theorem wc_X0_init_imX5_init : Cond.instanceMethod yX5_init ∈ wsX0_init := by decide +kernel
theorem wc_X0_init_oi : Cond.methodLink RX0 3 objectInit ∈ wsX0_init := by decide +kernel
theorem wc_X0_init_oj : Cond.instanceMethod objectInit ∈ wsX0_init := by decide +kernel
theorem wf_X0_init_9 : Cond.fieldLink RX0 9 (TX0 0).1 (TX0 0).2.1 (TX0 0).2.2.1 ∈ wsX0_init := by decide +kernel
set_option maxHeartbeats 1000000 in
set_option maxRecDepth 100000 in
theorem ct_X0_init {la : Launch} {n e : Nat} {E : Ev} {ρ : Rh} {σ : Sg} (hE : okE E) (hclo : clo E ρ) (h0 : (0, n, e, 0) ∈ ks E) (h13 : (13, n, e, 0) ∉ ks E) (h11 : (11, n, e, 0) ∉ ks E) (hp5 : ∀ l, l < 6 → (5, n, e, l) ∉ ks E) (hp3 : ∀ l, l < 6 → (3, n, e, l) ∉ ks E) (hp14 : ∀ l, l < 6 → (14, n, e, l) ∉ ks E) (hf1 : ∀ f, f < 8 → (1, n, e, f) ∉ ks E) (hσ : σ (0, n, e, 0) = fun _ => 0) : CN la yX0_init wsX0_init 3 52 28 156 (E, ρ, σ) [.ref (ad E (0, n, e, 0)), .int (nI e)] (fun sz => PP (sE n e) (tE n e) (E, ρ, σ) (AN E sz)) := by
  refine cn_of (lv := [some _, some _, none]) RX0 (by decide) rfl rfl rfl rfl hE (ok2 rfl rfl) (Nat.le_of_ble_eq_true rfl) (fun sz p ev s m args below meth c Q hsz cx hn2 hnm hlk hr hQ => ?_)
  have hA : ∀ q, s.heap.size ≤ q → AN E sz q := fun q hq => Or.inr (by omega)
  have nP : ∀ {i : Nat} {b : St3} {S : Ky → Prop} (t l : Nat), Gr S (tE n e) (E, ρ, σ) b → (t, n, e, l) ∉ ks E → ¬ S (t, n, e, l) → (t, n, e, l) ∉ ks b.1 := fun t l g h1 h2 h3 => ((g.2.1 _).mp h3).elim h1 h2
  have l2 : ∀ (d i : Nat) (b : St3), i + d = 8 → I2 n e (E, ρ, σ) (AN E sz) i b → Cx p s m args c b.1 (AN E sz) RX0 cX0_init 3 wsX0_init → AW p la ev { frames := 3, cells := 28, slots := 156, locals := 52 } s m args below meth c (20 + i) (140 + 2 * i) Q (AN E sz) b.1 b.2.1 59 [some (.ref (ad b.1 (0, n, e, 0))), some (.int (nI e)), some (.int (nI i))] [] b.2.2 := by
    intro d
    induction d with
    | zero =>
      intro i b hi hI cx
      obtain rfl : i = 8 := by omega
      refine A_iload_n (q := 60) cx dX0_init_59 rfl rfl ?_
      refine A_aload_n (q := 61) cx dX0_init_60 rfl rfl rfl ?_
      refine gX0_3 (q := 64) cx wi_X0_init_X0 wf_X0_init_24 dX0_init_61 rfl ((hI.1.2.1 _).mpr (Or.inl h0)) hI.2.2.2.2.1.2.1 rfl ?_
      refine A_alen11 (v := 8) (q := 65) cx dX0_init_64 rfl ((hI.1.2.1 _).mpr (Or.inr (Or.inr (Or.inl rfl)))) rfl rfl ?_
      refine A_icmp_ge (tgt := 87) (q := 68) cx dX0_init_65 (by decide) rfl (fun c_1 => ?_) (fun c_1 => ?_)
      · exact A_cret (a := (E, ρ, σ)) (sz := sz) (post := fun sz => PP (sE n e) (tE n e) (E, ρ, σ) (AN E sz)) cx hlk hr hQ dX0_init_87 (by omega) (by omega) (end_post hI) hI.1.1.1.symm
      · exact absurd (by decide) c_1
    | succ d ih =>
      intro i b hi hI cx
      refine A_iload_n (q := 60) cx dX0_init_59 rfl rfl ?_
      refine A_aload_n (q := 61) cx dX0_init_60 rfl rfl rfl ?_
      refine gX0_3 (q := 64) cx wi_X0_init_X0 wf_X0_init_24 dX0_init_61 rfl ((hI.1.2.1 _).mpr (Or.inl h0)) hI.2.2.2.2.1.2.1 rfl ?_
      refine A_alen11 (v := 8) (q := 65) cx dX0_init_64 rfl ((hI.1.2.1 _).mpr (Or.inr (Or.inr (Or.inl rfl)))) rfl rfl ?_
      refine A_icmp_ge (tgt := 87) (q := 68) cx dX0_init_65 (by decide) rfl (fun c_1 => ?_) (fun c_1 => ?_)
      · exact absurd c_1 (not_ge (i := i) (b := 8) (by omega) (by decide))
      · refine A_aload_n (q := 69) cx dX0_init_68 rfl rfl rfl ?_
        refine gX0_3 (q := 72) cx wi_X0_init_X0 wf_X0_init_24 dX0_init_69 rfl ((hI.1.2.1 _).mpr (Or.inl h0)) hI.2.2.2.2.1.2.1 rfl ?_
        refine A_iload_n (q := 73) cx dX0_init_72 rfl rfl ?_
        have hnk : (1, n, e, i) ∉ ks b.1 := nP (i := 0) 1 i hI.1 (hf1 i (by omega)) (fun q => by rcases q with (q | ⟨_, _, q | q | q⟩) | q | ⟨f, hf, q⟩ <;> cases q; omega)
        refine A_new (q := 76) (ci := 1) (fs := [.int 0, .int 0]) cx (1, n, e, i) tyX1 tyX1_ok wi_X0_init_X1 wc_X0_init_cl22 wc_X0_init_isX1 wc_X0_init_inX1 rfl dX0_init_73 hA hnk hI.2.1.2 rfl (fun j hj => by match j, hj with | 0, _ | 1, _ => rfl) (by show _ ≤ 28; omega) (by show _ ≤ 156; omega) rfl (fun z_73 cx => ?_)
        refine A_dup (q := 77) cx dX0_init_76 rfl rfl ?_
        refine TN0 (q := 80) cx hn2 (ct_X1_init (a := (_, _, _)) cx.2.2.1) ⟨va_cnB 0 cx.1.2.2.2.2 gX0_init_X1_init_n28 rfl rfl rfl hn2.1.2.1 (cx.1.2.2.2.2 _ wc_X0_init_inX1) (by decide +kernel) ⟨Nat.le_of_ble_eq_true rfl, Nat.le_of_ble_eq_true rfl⟩, rfl, cx.1.2.2.2.2 _ wc_X0_init_imX1_init⟩ dX0_init_77 hA rfl (Nat.le_of_ble_eq_true rfl) ⟨by show _ ≤ 28; omega, by show _ ≤ 156; omega⟩ rfl (fun sz1 b2 hb hb1 hAN => ?_)
        subst hb
        refine A_aastore (q := 81) (k := (11, n, e, 0)) (t := (1, n, e, i)) (j := i) (t0 := 2) (ci := 1) cx dX0_init_80 (List.mem_append_left _ ((hI.1.2.1 _).mpr (Or.inr (Or.inr (Or.inl rfl))))) (List.mem_append_right _ (List.mem_singleton.mpr rfl)) rfl rfl rfl (fun _ _ => rfl) rfl (by show i < 8; omega) rfl ?_
        refine A_iinc (lv' := [some _, some _, some _]) (q := 84) cx dX0_init_81 rfl (nI_1 i) rfl rfl ?_
        refine A_goto (q := 59) cx dX0_init_84 (by decide) ?_
        refine A_widen (k := 20 + (i + 1)) (n := 140 + 2 * (i + 1)) (by omega) (by omega) ?_
        exact ih (i + 1) (addK b.1 (1, n, e, i) z_73, _, _) (by omega) (I2_step hI hnk cx.2.2.1 cx.2.2.2) cx
  have l1 : ∀ (d i : Nat) (b : St3), i + d = 6 → I1 n e (E, ρ, σ) (AN E sz) i b → Cx p s m args c b.1 (AN E sz) RX0 cX0_init 3 wsX0_init → AW p la ev { frames := 3, cells := 28, slots := 156, locals := 52 } s m args below meth c (1 + 3 * i) (6 + 21 * i) Q (AN E sz) b.1 b.2.1 20 [some (.ref (ad b.1 (0, n, e, 0))), some (.int (nI e)), some (.int (nI i))] [] b.2.2 := by
    intro d
    induction d with
    | zero =>
      intro i b hi hI cx
      obtain rfl : i = 6 := by omega
      refine A_iload_n (q := 21) cx dX0_init_20 rfl rfl ?_
      refine A_aload_n (q := 22) cx dX0_init_21 rfl rfl rfl ?_
      refine gX0_2 (q := 25) cx wi_X0_init_X0 wf_X0_init_17 dX0_init_22 rfl ((hI.1.2.1 _).mpr (Or.inl h0)) hI.2.2.2.2.1.1 rfl ?_
      refine A_alen13 (v := 6) (q := 26) cx dX0_init_25 rfl ((hI.1.2.1 _).mpr (Or.inr (Or.inl rfl))) rfl rfl ?_
      refine A_icmp_ge (tgt := 48) (q := 29) cx dX0_init_26 (by decide) rfl (fun c_1 => ?_) (fun c_1 => ?_)
      · refine A_aload_n (q := 49) cx dX0_init_48 rfl rfl rfl ?_
        refine A_bipush (v := 8) (q := 51) cx dX0_init_49 (by decide) rfl ?_
        have hnk : (11, n, e, 0) ∉ ks b.1 := nP (i := 0) 11 0 hI.1 h11 (fun q => by rcases q with q | ⟨_, _, q | q | q⟩ <;> cases q)
        refine A_anew (q := 54) cx (11, n, e, 0) 2 wc_X0_init_cl22 hn2.2.2.1 rfl rfl dX0_init_51 hA hnk hI.2.1.2 (by decide) (show Int32.toNatClampNeg 8 = 8 from by decide) (Nat.le_of_ble_eq_true rfl) (by show _ ≤ 28; omega) (by show _ + 8 ≤ 156; omega) rfl (fun z_51 cx => ?_)
        refine fX0_3 (q := 57) cx hnm wi_X0_init_X0 wf_X0_init_24 dX0_init_54 rfl (List.mem_append_left _ ((hI.1.2.1 _).mpr (Or.inl h0))) rfl ?_
        refine A_iconst (v := 0) (q := 58) cx dX0_init_57 (by decide) rfl ?_
        refine A_istore_n (lv' := [some _, some _, some _]) (q := 59) cx dX0_init_58 (Nat.le_of_ble_eq_true rfl) rfl rfl ?_
        refine A_widen (k := 20 + 0) (n := 140 + 2 * 0) (by omega) (by show _ + 8 ≤ _; omega) ?_
        exact l2 8 0 (addK b.1 (11, n, e, 0) z_51, _, _) rfl (I2_0 hI hnk cx.2.2.1 cx.2.2.2) cx
      · exact absurd (by decide) c_1
    | succ d ih =>
      intro i b hi hI cx
      refine A_iload_n (q := 21) cx dX0_init_20 rfl rfl ?_
      refine A_aload_n (q := 22) cx dX0_init_21 rfl rfl rfl ?_
      refine gX0_2 (q := 25) cx wi_X0_init_X0 wf_X0_init_17 dX0_init_22 rfl ((hI.1.2.1 _).mpr (Or.inl h0)) hI.2.2.2.2.1.1 rfl ?_
      refine A_alen13 (v := 6) (q := 26) cx dX0_init_25 rfl ((hI.1.2.1 _).mpr (Or.inr (Or.inl rfl))) rfl rfl ?_
      refine A_icmp_ge (tgt := 48) (q := 29) cx dX0_init_26 (by decide) rfl (fun c_1 => ?_) (fun c_1 => ?_)
      · exact absurd c_1 (not_ge (i := i) (b := 6) (by omega) (by decide))
      · refine A_aload_n (q := 30) cx dX0_init_29 rfl rfl rfl ?_
        refine gX0_2 (q := 33) cx wi_X0_init_X0 wf_X0_init_17 dX0_init_30 rfl ((hI.1.2.1 _).mpr (Or.inl h0)) hI.2.2.2.2.1.1 rfl ?_
        refine A_iload_n (q := 34) cx dX0_init_33 rfl rfl ?_
        have hk5 : (5, n, e, i) ∉ ks b.1 := nP (i := 0) 5 i hI.1 (hp5 i (by omega)) (fun q => by rcases q with q | ⟨l, hl, q | q | q⟩ <;> cases q; omega)
        have hk3 : (3, n, e, i) ∉ ks b.1 := nP (i := 0) 3 i hI.1 (hp3 i (by omega)) (fun q => by rcases q with q | ⟨l, hl, q | q | q⟩ <;> cases q; omega)
        have hk14 : (14, n, e, i) ∉ ks b.1 := nP (i := 0) 14 i hI.1 (hp14 i (by omega)) (fun q => by rcases q with q | ⟨l, hl, q | q | q⟩ <;> cases q; omega)
        refine A_new (q := 37) (ci := 5) (fs := [.int 0, .int 0, .int 0, .int 0, .null, .null, .int 0, .int 0, .int 0, .int 0, .int 0]) cx (5, n, e, i) tyX5 tyX5_ok wi_X0_init_X5 wc_X0_init_cl15 wc_X0_init_isX5 wc_X0_init_inX5 rfl dX0_init_34 hA hk5 hI.2.1.2 rfl (fun j hj => by match j, hj with | 0, _ | 1, _ | 2, _ | 3, _ | 4, _ | 5, _ | 6, _ | 7, _ | 8, _ | 9, _ | 10, _ => rfl) (by show _ ≤ 28; omega) (by show _ ≤ 156; omega) rfl (fun z_34 cx => ?_)
        refine A_dup (q := 38) cx dX0_init_37 rfl rfl ?_
        have m5 : (5, n, e, i) ∈ ks (addK b.1 (5, n, e, i) z_34) := List.mem_append_right _ (List.mem_singleton.mpr rfl)
        have q3 : (3, n, e, i) ∉ ks (addK b.1 (5, n, e, i) z_34) := fun h => (List.mem_append.mp h).elim hk3 (fun q => by cases List.mem_singleton.mp q)
        have q14 : (14, n, e, i) ∉ ks (addK b.1 (5, n, e, i) z_34) := fun h => (List.mem_append.mp h).elim hk14 (fun q => by cases List.mem_singleton.mp q)
        refine TN0 (q := 41) cx hn2 (ct_X5_init cx.2.2.1 (clo_addK z_34 hI.2.1.2) m5 q3 q14 (srr_at _ _ _) (sr_at _ _ _)) ⟨va_cnB 0 cx.1.2.2.2.2 gX0_init_X5_init_n21 rfl rfl rfl hn2.1.1 (cx.1.2.2.2.2 _ wc_X0_init_inX5) (by decide +kernel) ⟨Nat.le_of_ble_eq_true rfl, Nat.le_of_ble_eq_true rfl⟩, rfl, cx.1.2.2.2.2 _ wc_X0_init_imX5_init⟩ dX0_init_38 hA rfl (Nat.le_of_ble_eq_true rfl) ⟨by show _ ≤ 28; omega, by show _ ≤ 156; omega⟩ rfl (fun sz1 b2 hb hb1 hAN => ?_)
        have cx2 := cx_gr (a := (addK b.1 (5, n, e, i) z_34, _, _)) cx hb hAN
        have e5 := hb.1.2.2.1 (5, n, e, i) m5
        have e13 := (hb.1.2.2.1 (13, n, e, 0) (List.mem_append_left _ ((hI.1.2.1 _).mpr (Or.inr (Or.inl rfl))))).trans (ad_addK_ne b.1 (5, n, e, i) z_34 (by simp))
        have e0 := (hb.1.2.2.1 (0, n, e, 0) (List.mem_append_left _ ((hI.1.2.1 _).mpr (Or.inl h0)))).trans (ad_addK_ne b.1 (5, n, e, i) z_34 (by simp))
        dsimp only at e5
        rw [← e5, ← e13, ← e0]
        refine A_aastore (q := 42) (k := (13, n, e, 0)) (t := (5, n, e, i)) (j := i) (t0 := 4) (ci := 5) cx2 dX0_init_41 ((hb.1.2.1 _).mpr (Or.inl (List.mem_append_left _ ((hI.1.2.1 _).mpr (Or.inr (Or.inl rfl)))))) ((hb.1.2.1 _).mpr (Or.inl m5)) rfl rfl rfl (fun _ _ => rfl) rfl (by show i < 6; omega) rfl ?_
        refine A_iinc (lv' := [some _, some _, some _]) (q := 45) cx2 dX0_init_42 rfl (nI_1 i) rfl rfl ?_
        refine A_goto (q := 20) cx2 dX0_init_45 (by decide) ?_
        refine A_widen (k := 1 + 3 * (i + 1)) (n := 6 + 21 * (i + 1)) (by omega) (by omega) ?_
        exact ih (i + 1) (b2.1, _, _) (by omega) (I1_step hI hk5 hb hAN) cx2
  refine A_aload_n (q := 1) cx dX0_init_0 rfl rfl rfl ?_
  refine A_objInit (q := 4) cx wc_X0_init_oi wc_X0_init_oj (List.mem_of_getElem? (i := 3) rfl) dX0_init_1 rfl ⟨Nat.le_of_ble_eq_true rfl, Nat.le_of_ble_eq_true rfl⟩ rfl ?_
  refine A_aload_n (q := 5) cx dX0_init_4 rfl rfl rfl ?_
  refine A_iload_n (q := 6) cx dX0_init_5 rfl rfl ?_
  refine fX0_0 (q := 9) cx hnm wi_X0_init_X0 wf_X0_init_9 dX0_init_6 rfl h0 rfl ?_
  refine A_aload_n (q := 10) cx dX0_init_9 rfl rfl rfl ?_
  refine A_bipush (v := 6) (q := 12) cx dX0_init_10 (by decide) rfl ?_
  refine A_anew (q := 15) cx (13, n, e, 0) 4 wc_X0_init_cl15 hn2.2.1 rfl rfl dX0_init_12 hA h13 hclo (by decide) (show Int32.toNatClampNeg 6 = 6 from by decide) (Nat.le_of_ble_eq_true rfl) (Nat.le_of_ble_eq_true rfl) (Nat.le_of_ble_eq_true rfl) rfl (fun z_12 cx => ?_)
  refine fX0_2 (q := 18) cx hnm wi_X0_init_X0 wf_X0_init_17 dX0_init_15 rfl (List.mem_append_left _ h0) rfl ?_
  refine A_iconst (v := 0) (q := 19) cx dX0_init_18 (by decide) rfl ?_
  refine A_istore_n (lv' := [some _, some _, some _]) (q := 20) cx dX0_init_19 (Nat.le_of_ble_eq_true rfl) rfl rfl ?_
  refine A_widen (k := 1 + 3 * 0) (n := 6 + 21 * 0) (Nat.le_of_ble_eq_true rfl) (Nat.le_of_ble_eq_true rfl) ?_
  exact l1 6 0 (addK E (13, n, e, 0) z_12, _, _) rfl (I1_0 (a := (E, ρ, σ)) cx.2.2.1 hclo h0 h13 cx.2.2.2 hσ) cx
