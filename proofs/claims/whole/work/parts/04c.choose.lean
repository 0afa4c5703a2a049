theorem wi_X0_bestOpen_X5 : ∀ w ∈ u_ws RX5 TX5 11, w ∈ wsX0_bestOpen := by decide +kernel
theorem wf_X0_bestOpen_69 : Cond.fieldLink RX0 69 (TX5 4).1 (TX5 4).2.1 (TX5 4).2.2.1 ∈ wsX0_bestOpen := by decide +kernel
theorem wi_X0_bestOpen_X3 : ∀ w ∈ u_ws RX3 TX3 5, w ∈ wsX0_bestOpen := by decide +kernel
theorem wf_X0_bestOpen_72 : Cond.fieldLink RX0 72 (TX3 0).1 (TX3 0).2.1 (TX3 0).2.2.1 ∈ wsX0_bestOpen := by decide +kernel
theorem wf_X0_bestOpen_57 : Cond.fieldLink RX0 57 (TX5 8).1 (TX5 8).2.1 (TX5 8).2.2.1 ∈ wsX0_bestOpen := by decide +kernel
theorem wi_X0_bestOpen_X0 : ∀ w ∈ u_ws RX0 TX0 4, w ∈ wsX0_bestOpen := by decide +kernel
theorem wf_X0_bestOpen_17 : Cond.fieldLink RX0 17 (TX0 2).1 (TX0 2).2.1 (TX0 2).2.2.1 ∈ wsX0_bestOpen := by decide +kernel
set_option maxHeartbeats 4000000 in
set_option maxRecDepth 100000 in
theorem ct_X0_bestOpen_N {la : Launch} {E : Ev} (hE : okE E) (hX : xin E) {σ0 : Sg} {n e : Nat} {w : Int32} (hn : n < 9 ∧ e < 2 := by omega) : CQ la yX0_bestOpen wsX0_bestOpen 1 21 E rh0 [.ref (ad E (0, n, e, 0)), .int w, .null] σ0 ((eBest σ0 n e w none).map (kp n e)) σ0 := by
  refine met_of (lv := [some _, some _, some _, none, none, none, none, none, none]) RX0 (by decide) rfl rfl rfl hE (ok3 rfl rfl rfl) (Nat.le_of_ble_eq_true rfl) (fun p ev s m args below meth c Q cx hlk hr hQ => ?_)
  have l1 : ∀ (d i : Nat) (best : Option Nat), i + d = 6 → (∀ b, best = some b → b < 6) → eBestR σ0 n e w none d i best = eBest σ0 n e w none → AW p la ev (rmm 1 21) s m args below meth c 0 0 Q (AL E) E rh0 16 [some (.ref (ad E (0, n, e, 0))), some (.int w), some (.null), some (rv E (best.map (kp n e))), some (.ref (ad E (13, n, e, 0))), some (.int 6), some (.int (nI i)), none, none] [] σ0 := by
    intro d
    induction d with
    | zero =>
      intro i best hi hb hF
      obtain rfl : i = 6 := by omega
      refine A_iload (q := 18) cx dX0_bestOpen_16 rfl rfl ?_
      refine A_iload (q := 20) cx dX0_bestOpen_18 rfl rfl ?_
      refine A_icmp_ge (tgt := 101) (q := 23) cx dX0_bestOpen_20 (by decide) rfl (fun c_20 => ?_) (fun c_20 => ?_)
      · refine A_aload_n (q := 102) cx dX0_bestOpen_101 rfl (isR_rv E _) rfl ?_
        exact A_aret cx hlk hr hQ dX0_bestOpen_102 (congrArg (fun r => rv E (r.map (kp n e))) hF) rfl
      · exact absurd (by decide) c_20
    | succ d ih =>
      intro i best hi hb hF
      rcases best with _ | b
      · refine A_iload (q := 18) cx dX0_bestOpen_16 rfl rfl ?_
        refine A_iload (q := 20) cx dX0_bestOpen_18 rfl rfl ?_
        refine A_icmp_ge (tgt := 101) (q := 23) cx dX0_bestOpen_20 (by decide) rfl (fun c_20 => ?_) (fun c_20 => ?_)
        · exact absurd c_20 (not_ge (i := i) (b := 6) (by omega) (by decide))
        · refine A_aload (q := 25) cx dX0_bestOpen_23 rfl rfl rfl ?_
          refine A_iload (q := 27) cx dX0_bestOpen_25 rfl rfl ?_
          refine A_aaload13 (q := 28) cx dX0_bestOpen_27 rfl (in13 hX (by omega)) rfl (by show _ < 6; omega) rfl rfl ?_
          refine A_astore (lv' := [some _, some _, some _, some _, some _, some _, some _, some _, none]) (q := 30) cx dX0_bestOpen_28 (Nat.le_of_ble_eq_true rfl) rfl rfl rfl ?_
          refine A_aload (q := 32) cx dX0_bestOpen_30 rfl rfl rfl ?_
          refine gX5_4 (q := 35) cx wi_X0_bestOpen_X5 wf_X0_bestOpen_69 dX0_bestOpen_32 rfl (in5 hX (by omega)) rfl rfl ?_
          refine gX3_0 (q := 38) cx wi_X0_bestOpen_X3 wf_X0_bestOpen_72 dX0_bestOpen_35 rfl (by first | assumption | exact in3 hX (by omega) | exact in14 hX (by omega)) rfl ?_
          refine A_if_eq (tgt := 66) (q := 41) cx dX0_bestOpen_38 (by decide) rfl (fun c_38 => ?_) (fun c_38 => ?_)
          · refine A_iconst (v := 0) (q := 67) cx dX0_bestOpen_66 (by decide) rfl ?_
            refine A_istore (lv' := [some _, some _, some _, some _, some _, some _, some _, some _, some _]) (q := 69) cx dX0_bestOpen_67 (Nat.le_of_ble_eq_true rfl) rfl rfl ?_
            refine A_iload (q := 71) cx dX0_bestOpen_69 rfl rfl ?_
            refine A_if_eq (tgt := 95) (q := 74) cx dX0_bestOpen_71 (by decide) rfl (fun c_71 => ?_) (fun c_71 => ?_)
            · refine A_iinc (lv' := [some _, some _, some _, some _, some _, some _, some _, some _, some _]) (q := 98) cx dX0_bestOpen_95 rfl (nI_1 i) rfl rfl ?_
              refine A_goto (q := 16) cx dX0_bestOpen_98 (by decide) ?_
              first | exact A_drop 7 rfl (A_drop 8 rfl (ih (i + 1) none (by omega) (fun b hb => by cases hb) (by rw [← hF, eBestR]; simp [eFit, eBet, *]))) | exact A_drop 7 rfl (A_drop 8 rfl (ih (i + 1) (some i) (by omega) (fun b hb => by cases hb; omega) (by rw [← hF, eBestR]; simp [eFit, eBet, *])))
            · exact absurd (by decide) c_71
          · refine A_aload (q := 43) cx dX0_bestOpen_41 rfl rfl rfl ?_
            refine gX5_8 (q := 46) cx wi_X0_bestOpen_X5 wf_X0_bestOpen_57 dX0_bestOpen_43 rfl (in5 hX (by omega)) rfl ?_
            refine A_if_ne (tgt := 66) (q := 49) cx dX0_bestOpen_46 (by decide) rfl (fun c_46 => ?_) (fun c_46 => ?_)
            · refine A_iconst (v := 0) (q := 67) cx dX0_bestOpen_66 (by decide) rfl ?_
              refine A_istore (lv' := [some _, some _, some _, some _, some _, some _, some _, some _, some _]) (q := 69) cx dX0_bestOpen_67 (Nat.le_of_ble_eq_true rfl) rfl rfl ?_
              refine A_iload (q := 71) cx dX0_bestOpen_69 rfl rfl ?_
              refine A_if_eq (tgt := 95) (q := 74) cx dX0_bestOpen_71 (by decide) rfl (fun c_71 => ?_) (fun c_71 => ?_)
              · refine A_iinc (lv' := [some _, some _, some _, some _, some _, some _, some _, some _, some _]) (q := 98) cx dX0_bestOpen_95 rfl (nI_1 i) rfl rfl ?_
                refine A_goto (q := 16) cx dX0_bestOpen_98 (by decide) ?_
                first | exact A_drop 7 rfl (A_drop 8 rfl (ih (i + 1) none (by omega) (fun b hb => by cases hb) (by rw [← hF, eBestR]; simp [eFit, eBet, *]))) | exact A_drop 7 rfl (A_drop 8 rfl (ih (i + 1) (some i) (by omega) (fun b hb => by cases hb; omega) (by rw [← hF, eBestR]; simp [eFit, eBet, *])))
              · exact absurd (by decide) c_71
            · refine A_aload_n (q := 50) cx dX0_bestOpen_49 rfl rfl rfl ?_
              refine A_ifnull_N (tgt := 62) cx dX0_bestOpen_50 (by decide) ?_
              refine A_iconst (v := 1) (q := 63) cx dX0_bestOpen_62 (by decide) rfl ?_
              refine A_goto (q := 67) cx dX0_bestOpen_63 (by decide) ?_
              refine A_istore (lv' := [some _, some _, some _, some _, some _, some _, some _, some _, some _]) (q := 69) cx dX0_bestOpen_67 (Nat.le_of_ble_eq_true rfl) rfl rfl ?_
              refine A_iload (q := 71) cx dX0_bestOpen_69 rfl rfl ?_
              refine A_if_eq (tgt := 95) (q := 74) cx dX0_bestOpen_71 (by decide) rfl (fun c_71 => ?_) (fun c_71 => ?_)
              · exact absurd c_71 (by decide)
              · refine A_aload_n (q := 75) cx dX0_bestOpen_74 rfl rfl rfl ?_
                refine A_ifnull_N (tgt := 92) cx dX0_bestOpen_75 (by decide) ?_
                refine A_aload (q := 94) cx dX0_bestOpen_92 rfl rfl rfl ?_
                refine A_astore_n (lv' := [some _, some _, some _, some _, some _, some _, some _, some _, some _]) (q := 95) cx dX0_bestOpen_94 (Nat.le_of_ble_eq_true rfl) rfl rfl rfl ?_
                refine A_iinc (lv' := [some _, some _, some _, some _, some _, some _, some _, some _, some _]) (q := 98) cx dX0_bestOpen_95 rfl (nI_1 i) rfl rfl ?_
                refine A_goto (q := 16) cx dX0_bestOpen_98 (by decide) ?_
                first | exact A_drop 7 rfl (A_drop 8 rfl (ih (i + 1) none (by omega) (fun b hb => by cases hb) (by rw [← hF, eBestR]; simp [eFit, eBet, *]))) | exact A_drop 7 rfl (A_drop 8 rfl (ih (i + 1) (some i) (by omega) (fun b hb => by cases hb; omega) (by rw [← hF, eBestR]; simp [eFit, eBet, *])))
      · have hb6 := hb b rfl
        refine A_iload (q := 18) cx dX0_bestOpen_16 rfl rfl ?_
        refine A_iload (q := 20) cx dX0_bestOpen_18 rfl rfl ?_
        refine A_icmp_ge (tgt := 101) (q := 23) cx dX0_bestOpen_20 (by decide) rfl (fun c_20 => ?_) (fun c_20 => ?_)
        · exact absurd c_20 (not_ge (i := i) (b := 6) (by omega) (by decide))
        · refine A_aload (q := 25) cx dX0_bestOpen_23 rfl rfl rfl ?_
          refine A_iload (q := 27) cx dX0_bestOpen_25 rfl rfl ?_
          refine A_aaload13 (q := 28) cx dX0_bestOpen_27 rfl (in13 hX (by omega)) rfl (by show _ < 6; omega) rfl rfl ?_
          refine A_astore (lv' := [some _, some _, some _, some _, some _, some _, some _, some _, none]) (q := 30) cx dX0_bestOpen_28 (Nat.le_of_ble_eq_true rfl) rfl rfl rfl ?_
          refine A_aload (q := 32) cx dX0_bestOpen_30 rfl rfl rfl ?_
          refine gX5_4 (q := 35) cx wi_X0_bestOpen_X5 wf_X0_bestOpen_69 dX0_bestOpen_32 rfl (in5 hX (by omega)) rfl rfl ?_
          refine gX3_0 (q := 38) cx wi_X0_bestOpen_X3 wf_X0_bestOpen_72 dX0_bestOpen_35 rfl (by first | assumption | exact in3 hX (by omega) | exact in14 hX (by omega)) rfl ?_
          refine A_if_eq (tgt := 66) (q := 41) cx dX0_bestOpen_38 (by decide) rfl (fun c_38 => ?_) (fun c_38 => ?_)
          · refine A_iconst (v := 0) (q := 67) cx dX0_bestOpen_66 (by decide) rfl ?_
            refine A_istore (lv' := [some _, some _, some _, some _, some _, some _, some _, some _, some _]) (q := 69) cx dX0_bestOpen_67 (Nat.le_of_ble_eq_true rfl) rfl rfl ?_
            refine A_iload (q := 71) cx dX0_bestOpen_69 rfl rfl ?_
            refine A_if_eq (tgt := 95) (q := 74) cx dX0_bestOpen_71 (by decide) rfl (fun c_71 => ?_) (fun c_71 => ?_)
            · refine A_iinc (lv' := [some _, some _, some _, some _, some _, some _, some _, some _, some _]) (q := 98) cx dX0_bestOpen_95 rfl (nI_1 i) rfl rfl ?_
              refine A_goto (q := 16) cx dX0_bestOpen_98 (by decide) ?_
              first | exact A_drop 7 rfl (A_drop 8 rfl (ih (i + 1) (some b) (by omega) hb (by rw [← hF, eBestR]; simp [eFit, eBet, *]))) | exact A_drop 7 rfl (A_drop 8 rfl (ih (i + 1) (some i) (by omega) (fun b hb => by cases hb; omega) (by rw [← hF, eBestR]; simp [eFit, eBet, *])))
            · exact absurd (by decide) c_71
          · refine A_aload (q := 43) cx dX0_bestOpen_41 rfl rfl rfl ?_
            refine gX5_8 (q := 46) cx wi_X0_bestOpen_X5 wf_X0_bestOpen_57 dX0_bestOpen_43 rfl (in5 hX (by omega)) rfl ?_
            refine A_if_ne (tgt := 66) (q := 49) cx dX0_bestOpen_46 (by decide) rfl (fun c_46 => ?_) (fun c_46 => ?_)
            · refine A_iconst (v := 0) (q := 67) cx dX0_bestOpen_66 (by decide) rfl ?_
              refine A_istore (lv' := [some _, some _, some _, some _, some _, some _, some _, some _, some _]) (q := 69) cx dX0_bestOpen_67 (Nat.le_of_ble_eq_true rfl) rfl rfl ?_
              refine A_iload (q := 71) cx dX0_bestOpen_69 rfl rfl ?_
              refine A_if_eq (tgt := 95) (q := 74) cx dX0_bestOpen_71 (by decide) rfl (fun c_71 => ?_) (fun c_71 => ?_)
              · refine A_iinc (lv' := [some _, some _, some _, some _, some _, some _, some _, some _, some _]) (q := 98) cx dX0_bestOpen_95 rfl (nI_1 i) rfl rfl ?_
                refine A_goto (q := 16) cx dX0_bestOpen_98 (by decide) ?_
                first | exact A_drop 7 rfl (A_drop 8 rfl (ih (i + 1) (some b) (by omega) hb (by rw [← hF, eBestR]; simp [eFit, eBet, *]))) | exact A_drop 7 rfl (A_drop 8 rfl (ih (i + 1) (some i) (by omega) (fun b hb => by cases hb; omega) (by rw [← hF, eBestR]; simp [eFit, eBet, *])))
              · exact absurd (by decide) c_71
            · refine A_aload_n (q := 50) cx dX0_bestOpen_49 rfl rfl rfl ?_
              refine A_ifnull_N (tgt := 62) cx dX0_bestOpen_50 (by decide) ?_
              refine A_iconst (v := 1) (q := 63) cx dX0_bestOpen_62 (by decide) rfl ?_
              refine A_goto (q := 67) cx dX0_bestOpen_63 (by decide) ?_
              refine A_istore (lv' := [some _, some _, some _, some _, some _, some _, some _, some _, some _]) (q := 69) cx dX0_bestOpen_67 (Nat.le_of_ble_eq_true rfl) rfl rfl ?_
              refine A_iload (q := 71) cx dX0_bestOpen_69 rfl rfl ?_
              refine A_if_eq (tgt := 95) (q := 74) cx dX0_bestOpen_71 (by decide) rfl (fun c_71 => ?_) (fun c_71 => ?_)
              · exact absurd c_71 (by decide)
              · refine A_aload_n (q := 75) cx dX0_bestOpen_74 rfl rfl rfl ?_
                refine A_ifnull_R (q := 78) cx dX0_bestOpen_75 rfl ?_
                refine A_aload (q := 80) cx dX0_bestOpen_78 rfl rfl rfl ?_
                refine A_iload_n (q := 81) cx dX0_bestOpen_80 rfl rfl ?_
                refine VI1 (q := 84) cx (ct_X5_priorityBy hE hX) (cwV 1 cx.1.2.2.2.2 gX0_bestOpen_X5_priorityBy rfl rfl rfl (by decide +kernel) ⟨Nat.le_of_ble_eq_true rfl, Nat.le_of_ble_eq_true rfl⟩) dX0_bestOpen_81 rfl rfl (in5 hX (by omega)) rfl (Nat.le_of_ble_eq_true rfl) ⟨Nat.zero_le _, Nat.zero_le _⟩ rfl ?_
                refine A_aload_n (q := 85) cx dX0_bestOpen_84 rfl rfl rfl ?_
                refine A_iload_n (q := 86) cx dX0_bestOpen_85 rfl rfl ?_
                refine VI1 (q := 89) cx (ct_X5_priorityBy hE hX) (cwV 1 cx.1.2.2.2.2 gX0_bestOpen_X5_priorityBy rfl rfl rfl (by decide +kernel) ⟨Nat.le_of_ble_eq_true rfl, Nat.le_of_ble_eq_true rfl⟩) dX0_bestOpen_86 rfl rfl (in5 hX (by omega)) rfl (Nat.le_of_ble_eq_true rfl) ⟨Nat.zero_le _, Nat.zero_le _⟩ rfl ?_
                refine A_icmp_ge (tgt := 95) (q := 92) cx dX0_bestOpen_89 (by decide) rfl (fun c_89 => ?_) (fun c_89 => ?_)
                · refine A_iinc (lv' := [some _, some _, some _, some _, some _, some _, some _, some _, some _]) (q := 98) cx dX0_bestOpen_95 rfl (nI_1 i) rfl rfl ?_
                  refine A_goto (q := 16) cx dX0_bestOpen_98 (by decide) ?_
                  first | exact A_drop 7 rfl (A_drop 8 rfl (ih (i + 1) (some b) (by omega) hb (by rw [← hF, eBestR]; simp [eFit, eBet, *]))) | exact A_drop 7 rfl (A_drop 8 rfl (ih (i + 1) (some i) (by omega) (fun b hb => by cases hb; omega) (by rw [← hF, eBestR]; simp [eFit, eBet, *])))
                · refine A_aload (q := 94) cx dX0_bestOpen_92 rfl rfl rfl ?_
                  refine A_astore_n (lv' := [some _, some _, some _, some _, some _, some _, some _, some _, some _]) (q := 95) cx dX0_bestOpen_94 (Nat.le_of_ble_eq_true rfl) rfl rfl rfl ?_
                  refine A_iinc (lv' := [some _, some _, some _, some _, some _, some _, some _, some _, some _]) (q := 98) cx dX0_bestOpen_95 rfl (nI_1 i) rfl rfl ?_
                  refine A_goto (q := 16) cx dX0_bestOpen_98 (by decide) ?_
                  first | exact A_drop 7 rfl (A_drop 8 rfl (ih (i + 1) (some b) (by omega) hb (by rw [← hF, eBestR]; simp [eFit, eBet, *]))) | exact A_drop 7 rfl (A_drop 8 rfl (ih (i + 1) (some i) (by omega) (fun b hb => by cases hb; omega) (by rw [← hF, eBestR]; simp [eFit, eBet, *])))
  refine A_null (q := 1) cx dX0_bestOpen_0 rfl ?_
  refine A_astore_n (lv' := [some _, some _, some _, some _, none, none, none, none, none]) (q := 2) cx dX0_bestOpen_1 (Nat.le_of_ble_eq_true rfl) rfl rfl rfl ?_
  refine A_aload_n (q := 3) cx dX0_bestOpen_2 rfl rfl rfl ?_
  refine gX0_2 (q := 6) cx wi_X0_bestOpen_X0 wf_X0_bestOpen_17 dX0_bestOpen_3 rfl (in0 hX (by omega)) rfl rfl ?_
  refine A_astore (lv' := [some _, some _, some _, some _, some _, none, none, none, none]) (q := 8) cx dX0_bestOpen_6 (Nat.le_of_ble_eq_true rfl) rfl rfl rfl ?_
  refine A_aload (q := 10) cx dX0_bestOpen_8 rfl rfl rfl ?_
  refine A_alen13 (v := 6) (q := 11) cx dX0_bestOpen_10 rfl (in13 hX (by omega)) rfl rfl ?_
  refine A_istore (lv' := [some _, some _, some _, some _, some _, some _, none, none, none]) (q := 13) cx dX0_bestOpen_11 (Nat.le_of_ble_eq_true rfl) rfl rfl ?_
  refine A_iconst (v := 0) (q := 14) cx dX0_bestOpen_13 (by decide) rfl ?_
  refine A_istore (lv' := [some _, some _, some _, some _, some _, some _, some _, none, none]) (q := 16) cx dX0_bestOpen_14 (Nat.le_of_ble_eq_true rfl) rfl rfl ?_
  exact l1 6 0 none rfl (fun b hb => by cases hb) rfl
set_option maxHeartbeats 4000000 in
set_option maxRecDepth 100000 in
theorem ct_X0_bestOpen_S {la : Launch} {E : Ev} (hE : okE E) (hX : xin E) {σ0 : Sg} {n e : Nat} {q : Nat} (hq : q < 6) {w : Int32} (hn : n < 9 ∧ e < 2 := by omega) : CQ la yX0_bestOpen wsX0_bestOpen 1 21 E rh0 [.ref (ad E (0, n, e, 0)), .int w, .ref (ad E (5, n, e, q))] σ0 ((eBest σ0 n e w (some q)).map (kp n e)) σ0 := by
  refine met_of (lv := [some _, some _, some _, none, none, none, none, none, none]) RX0 (by decide) rfl rfl rfl hE (ok3 rfl rfl rfl) (Nat.le_of_ble_eq_true rfl) (fun p ev s m args below meth c Q cx hlk hr hQ => ?_)
  have l1 : ∀ (d i : Nat) (best : Option Nat), i + d = 6 → (∀ b, best = some b → b < 6) → eBestR σ0 n e w (some q) d i best = eBest σ0 n e w (some q) → AW p la ev (rmm 1 21) s m args below meth c 0 0 Q (AL E) E rh0 16 [some (.ref (ad E (0, n, e, 0))), some (.int w), some (.ref (ad E (5, n, e, q))), some (rv E (best.map (kp n e))), some (.ref (ad E (13, n, e, 0))), some (.int 6), some (.int (nI i)), none, none] [] σ0 := by
    intro d
    induction d with
    | zero =>
      intro i best hi hb hF
      obtain rfl : i = 6 := by omega
      refine A_iload (q := 18) cx dX0_bestOpen_16 rfl rfl ?_
      refine A_iload (q := 20) cx dX0_bestOpen_18 rfl rfl ?_
      refine A_icmp_ge (tgt := 101) (q := 23) cx dX0_bestOpen_20 (by decide) rfl (fun c_20 => ?_) (fun c_20 => ?_)
      · refine A_aload_n (q := 102) cx dX0_bestOpen_101 rfl (isR_rv E _) rfl ?_
        exact A_aret cx hlk hr hQ dX0_bestOpen_102 (congrArg (fun r => rv E (r.map (kp n e))) hF) rfl
      · exact absurd (by decide) c_20
    | succ d ih =>
      intro i best hi hb hF
      rcases best with _ | b
      · refine A_iload (q := 18) cx dX0_bestOpen_16 rfl rfl ?_
        refine A_iload (q := 20) cx dX0_bestOpen_18 rfl rfl ?_
        refine A_icmp_ge (tgt := 101) (q := 23) cx dX0_bestOpen_20 (by decide) rfl (fun c_20 => ?_) (fun c_20 => ?_)
        · exact absurd c_20 (not_ge (i := i) (b := 6) (by omega) (by decide))
        · refine A_aload (q := 25) cx dX0_bestOpen_23 rfl rfl rfl ?_
          refine A_iload (q := 27) cx dX0_bestOpen_25 rfl rfl ?_
          refine A_aaload13 (q := 28) cx dX0_bestOpen_27 rfl (in13 hX (by omega)) rfl (by show _ < 6; omega) rfl rfl ?_
          refine A_astore (lv' := [some _, some _, some _, some _, some _, some _, some _, some _, none]) (q := 30) cx dX0_bestOpen_28 (Nat.le_of_ble_eq_true rfl) rfl rfl rfl ?_
          refine A_aload (q := 32) cx dX0_bestOpen_30 rfl rfl rfl ?_
          refine gX5_4 (q := 35) cx wi_X0_bestOpen_X5 wf_X0_bestOpen_69 dX0_bestOpen_32 rfl (in5 hX (by omega)) rfl rfl ?_
          refine gX3_0 (q := 38) cx wi_X0_bestOpen_X3 wf_X0_bestOpen_72 dX0_bestOpen_35 rfl (by first | assumption | exact in3 hX (by omega) | exact in14 hX (by omega)) rfl ?_
          refine A_if_eq (tgt := 66) (q := 41) cx dX0_bestOpen_38 (by decide) rfl (fun c_38 => ?_) (fun c_38 => ?_)
          · refine A_iconst (v := 0) (q := 67) cx dX0_bestOpen_66 (by decide) rfl ?_
            refine A_istore (lv' := [some _, some _, some _, some _, some _, some _, some _, some _, some _]) (q := 69) cx dX0_bestOpen_67 (Nat.le_of_ble_eq_true rfl) rfl rfl ?_
            refine A_iload (q := 71) cx dX0_bestOpen_69 rfl rfl ?_
            refine A_if_eq (tgt := 95) (q := 74) cx dX0_bestOpen_71 (by decide) rfl (fun c_71 => ?_) (fun c_71 => ?_)
            · refine A_iinc (lv' := [some _, some _, some _, some _, some _, some _, some _, some _, some _]) (q := 98) cx dX0_bestOpen_95 rfl (nI_1 i) rfl rfl ?_
              refine A_goto (q := 16) cx dX0_bestOpen_98 (by decide) ?_
              first | exact A_drop 7 rfl (A_drop 8 rfl (ih (i + 1) none (by omega) (fun b hb => by cases hb) (by rw [← hF, eBestR]; simp [eFit, eBet, *]))) | exact A_drop 7 rfl (A_drop 8 rfl (ih (i + 1) (some i) (by omega) (fun b hb => by cases hb; omega) (by rw [← hF, eBestR]; simp [eFit, eBet, *])))
            · exact absurd (by decide) c_71
          · refine A_aload (q := 43) cx dX0_bestOpen_41 rfl rfl rfl ?_
            refine gX5_8 (q := 46) cx wi_X0_bestOpen_X5 wf_X0_bestOpen_57 dX0_bestOpen_43 rfl (in5 hX (by omega)) rfl ?_
            refine A_if_ne (tgt := 66) (q := 49) cx dX0_bestOpen_46 (by decide) rfl (fun c_46 => ?_) (fun c_46 => ?_)
            · refine A_iconst (v := 0) (q := 67) cx dX0_bestOpen_66 (by decide) rfl ?_
              refine A_istore (lv' := [some _, some _, some _, some _, some _, some _, some _, some _, some _]) (q := 69) cx dX0_bestOpen_67 (Nat.le_of_ble_eq_true rfl) rfl rfl ?_
              refine A_iload (q := 71) cx dX0_bestOpen_69 rfl rfl ?_
              refine A_if_eq (tgt := 95) (q := 74) cx dX0_bestOpen_71 (by decide) rfl (fun c_71 => ?_) (fun c_71 => ?_)
              · refine A_iinc (lv' := [some _, some _, some _, some _, some _, some _, some _, some _, some _]) (q := 98) cx dX0_bestOpen_95 rfl (nI_1 i) rfl rfl ?_
                refine A_goto (q := 16) cx dX0_bestOpen_98 (by decide) ?_
                first | exact A_drop 7 rfl (A_drop 8 rfl (ih (i + 1) none (by omega) (fun b hb => by cases hb) (by rw [← hF, eBestR]; simp [eFit, eBet, *]))) | exact A_drop 7 rfl (A_drop 8 rfl (ih (i + 1) (some i) (by omega) (fun b hb => by cases hb; omega) (by rw [← hF, eBestR]; simp [eFit, eBet, *])))
              · exact absurd (by decide) c_71
            · refine A_aload_n (q := 50) cx dX0_bestOpen_49 rfl rfl rfl ?_
              refine A_ifnull_R (q := 53) cx dX0_bestOpen_50 rfl ?_
              refine A_aload (q := 55) cx dX0_bestOpen_53 rfl rfl rfl ?_
              refine A_aload_n (q := 56) cx dX0_bestOpen_55 rfl rfl rfl ?_
              refine VI1 (q := 59) cx (ct_X5_hasPairOf hE hX) (cwV 1 cx.1.2.2.2.2 gX0_bestOpen_X5_hasPairOf rfl rfl rfl (by decide +kernel) ⟨Nat.le_of_ble_eq_true rfl, Nat.le_of_ble_eq_true rfl⟩) dX0_bestOpen_56 rfl rfl (in5 hX (by omega)) rfl (Nat.le_of_ble_eq_true rfl) ⟨Nat.zero_le _, Nat.zero_le _⟩ rfl ?_
              refine A_if_eq (tgt := 66) (q := 62) cx dX0_bestOpen_59 (by decide) rfl (fun c_59 => ?_) (fun c_59 => ?_)
              · refine A_iconst (v := 0) (q := 67) cx dX0_bestOpen_66 (by decide) rfl ?_
                refine A_istore (lv' := [some _, some _, some _, some _, some _, some _, some _, some _, some _]) (q := 69) cx dX0_bestOpen_67 (Nat.le_of_ble_eq_true rfl) rfl rfl ?_
                refine A_iload (q := 71) cx dX0_bestOpen_69 rfl rfl ?_
                refine A_if_eq (tgt := 95) (q := 74) cx dX0_bestOpen_71 (by decide) rfl (fun c_71 => ?_) (fun c_71 => ?_)
                · refine A_iinc (lv' := [some _, some _, some _, some _, some _, some _, some _, some _, some _]) (q := 98) cx dX0_bestOpen_95 rfl (nI_1 i) rfl rfl ?_
                  refine A_goto (q := 16) cx dX0_bestOpen_98 (by decide) ?_
                  first | exact A_drop 7 rfl (A_drop 8 rfl (ih (i + 1) none (by omega) (fun b hb => by cases hb) (by rw [← hF, eBestR]; simp [eFit, eBet, *]))) | exact A_drop 7 rfl (A_drop 8 rfl (ih (i + 1) (some i) (by omega) (fun b hb => by cases hb; omega) (by rw [← hF, eBestR]; simp [eFit, eBet, *])))
                · exact absurd (by decide) c_71
              · refine A_iconst (v := 1) (q := 63) cx dX0_bestOpen_62 (by decide) rfl ?_
                refine A_goto (q := 67) cx dX0_bestOpen_63 (by decide) ?_
                refine A_istore (lv' := [some _, some _, some _, some _, some _, some _, some _, some _, some _]) (q := 69) cx dX0_bestOpen_67 (Nat.le_of_ble_eq_true rfl) rfl rfl ?_
                refine A_iload (q := 71) cx dX0_bestOpen_69 rfl rfl ?_
                refine A_if_eq (tgt := 95) (q := 74) cx dX0_bestOpen_71 (by decide) rfl (fun c_71 => ?_) (fun c_71 => ?_)
                · exact absurd c_71 (by decide)
                · refine A_aload_n (q := 75) cx dX0_bestOpen_74 rfl rfl rfl ?_
                  refine A_ifnull_N (tgt := 92) cx dX0_bestOpen_75 (by decide) ?_
                  refine A_aload (q := 94) cx dX0_bestOpen_92 rfl rfl rfl ?_
                  refine A_astore_n (lv' := [some _, some _, some _, some _, some _, some _, some _, some _, some _]) (q := 95) cx dX0_bestOpen_94 (Nat.le_of_ble_eq_true rfl) rfl rfl rfl ?_
                  refine A_iinc (lv' := [some _, some _, some _, some _, some _, some _, some _, some _, some _]) (q := 98) cx dX0_bestOpen_95 rfl (nI_1 i) rfl rfl ?_
                  refine A_goto (q := 16) cx dX0_bestOpen_98 (by decide) ?_
                  first | exact A_drop 7 rfl (A_drop 8 rfl (ih (i + 1) none (by omega) (fun b hb => by cases hb) (by rw [← hF, eBestR]; simp [eFit, eBet, *]))) | exact A_drop 7 rfl (A_drop 8 rfl (ih (i + 1) (some i) (by omega) (fun b hb => by cases hb; omega) (by rw [← hF, eBestR]; simp [eFit, eBet, *])))
      · have hb6 := hb b rfl
        refine A_iload (q := 18) cx dX0_bestOpen_16 rfl rfl ?_
        refine A_iload (q := 20) cx dX0_bestOpen_18 rfl rfl ?_
        refine A_icmp_ge (tgt := 101) (q := 23) cx dX0_bestOpen_20 (by decide) rfl (fun c_20 => ?_) (fun c_20 => ?_)
        · exact absurd c_20 (not_ge (i := i) (b := 6) (by omega) (by decide))
        · refine A_aload (q := 25) cx dX0_bestOpen_23 rfl rfl rfl ?_
          refine A_iload (q := 27) cx dX0_bestOpen_25 rfl rfl ?_
          refine A_aaload13 (q := 28) cx dX0_bestOpen_27 rfl (in13 hX (by omega)) rfl (by show _ < 6; omega) rfl rfl ?_
          refine A_astore (lv' := [some _, some _, some _, some _, some _, some _, some _, some _, none]) (q := 30) cx dX0_bestOpen_28 (Nat.le_of_ble_eq_true rfl) rfl rfl rfl ?_
          refine A_aload (q := 32) cx dX0_bestOpen_30 rfl rfl rfl ?_
          refine gX5_4 (q := 35) cx wi_X0_bestOpen_X5 wf_X0_bestOpen_69 dX0_bestOpen_32 rfl (in5 hX (by omega)) rfl rfl ?_
          refine gX3_0 (q := 38) cx wi_X0_bestOpen_X3 wf_X0_bestOpen_72 dX0_bestOpen_35 rfl (by first | assumption | exact in3 hX (by omega) | exact in14 hX (by omega)) rfl ?_
          refine A_if_eq (tgt := 66) (q := 41) cx dX0_bestOpen_38 (by decide) rfl (fun c_38 => ?_) (fun c_38 => ?_)
          · refine A_iconst (v := 0) (q := 67) cx dX0_bestOpen_66 (by decide) rfl ?_
            refine A_istore (lv' := [some _, some _, some _, some _, some _, some _, some _, some _, some _]) (q := 69) cx dX0_bestOpen_67 (Nat.le_of_ble_eq_true rfl) rfl rfl ?_
            refine A_iload (q := 71) cx dX0_bestOpen_69 rfl rfl ?_
            refine A_if_eq (tgt := 95) (q := 74) cx dX0_bestOpen_71 (by decide) rfl (fun c_71 => ?_) (fun c_71 => ?_)
            · refine A_iinc (lv' := [some _, some _, some _, some _, some _, some _, some _, some _, some _]) (q := 98) cx dX0_bestOpen_95 rfl (nI_1 i) rfl rfl ?_
              refine A_goto (q := 16) cx dX0_bestOpen_98 (by decide) ?_
              first | exact A_drop 7 rfl (A_drop 8 rfl (ih (i + 1) (some b) (by omega) hb (by rw [← hF, eBestR]; simp [eFit, eBet, *]))) | exact A_drop 7 rfl (A_drop 8 rfl (ih (i + 1) (some i) (by omega) (fun b hb => by cases hb; omega) (by rw [← hF, eBestR]; simp [eFit, eBet, *])))
            · exact absurd (by decide) c_71
          · refine A_aload (q := 43) cx dX0_bestOpen_41 rfl rfl rfl ?_
            refine gX5_8 (q := 46) cx wi_X0_bestOpen_X5 wf_X0_bestOpen_57 dX0_bestOpen_43 rfl (in5 hX (by omega)) rfl ?_
            refine A_if_ne (tgt := 66) (q := 49) cx dX0_bestOpen_46 (by decide) rfl (fun c_46 => ?_) (fun c_46 => ?_)
            · refine A_iconst (v := 0) (q := 67) cx dX0_bestOpen_66 (by decide) rfl ?_
              refine A_istore (lv' := [some _, some _, some _, some _, some _, some _, some _, some _, some _]) (q := 69) cx dX0_bestOpen_67 (Nat.le_of_ble_eq_true rfl) rfl rfl ?_
              refine A_iload (q := 71) cx dX0_bestOpen_69 rfl rfl ?_
              refine A_if_eq (tgt := 95) (q := 74) cx dX0_bestOpen_71 (by decide) rfl (fun c_71 => ?_) (fun c_71 => ?_)
              · refine A_iinc (lv' := [some _, some _, some _, some _, some _, some _, some _, some _, some _]) (q := 98) cx dX0_bestOpen_95 rfl (nI_1 i) rfl rfl ?_
                refine A_goto (q := 16) cx dX0_bestOpen_98 (by decide) ?_
                first | exact A_drop 7 rfl (A_drop 8 rfl (ih (i + 1) (some b) (by omega) hb (by rw [← hF, eBestR]; simp [eFit, eBet, *]))) | exact A_drop 7 rfl (A_drop 8 rfl (ih (i + 1) (some i) (by omega) (fun b hb => by cases hb; omega) (by rw [← hF, eBestR]; simp [eFit, eBet, *])))
              · exact absurd (by decide) c_71
            · refine A_aload_n (q := 50) cx dX0_bestOpen_49 rfl rfl rfl ?_
              refine A_ifnull_R (q := 53) cx dX0_bestOpen_50 rfl ?_
              refine A_aload (q := 55) cx dX0_bestOpen_53 rfl rfl rfl ?_
              refine A_aload_n (q := 56) cx dX0_bestOpen_55 rfl rfl rfl ?_
              refine VI1 (q := 59) cx (ct_X5_hasPairOf hE hX) (cwV 1 cx.1.2.2.2.2 gX0_bestOpen_X5_hasPairOf rfl rfl rfl (by decide +kernel) ⟨Nat.le_of_ble_eq_true rfl, Nat.le_of_ble_eq_true rfl⟩) dX0_bestOpen_56 rfl rfl (in5 hX (by omega)) rfl (Nat.le_of_ble_eq_true rfl) ⟨Nat.zero_le _, Nat.zero_le _⟩ rfl ?_
              refine A_if_eq (tgt := 66) (q := 62) cx dX0_bestOpen_59 (by decide) rfl (fun c_59 => ?_) (fun c_59 => ?_)
              · refine A_iconst (v := 0) (q := 67) cx dX0_bestOpen_66 (by decide) rfl ?_
                refine A_istore (lv' := [some _, some _, some _, some _, some _, some _, some _, some _, some _]) (q := 69) cx dX0_bestOpen_67 (Nat.le_of_ble_eq_true rfl) rfl rfl ?_
                refine A_iload (q := 71) cx dX0_bestOpen_69 rfl rfl ?_
                refine A_if_eq (tgt := 95) (q := 74) cx dX0_bestOpen_71 (by decide) rfl (fun c_71 => ?_) (fun c_71 => ?_)
                · refine A_iinc (lv' := [some _, some _, some _, some _, some _, some _, some _, some _, some _]) (q := 98) cx dX0_bestOpen_95 rfl (nI_1 i) rfl rfl ?_
                  refine A_goto (q := 16) cx dX0_bestOpen_98 (by decide) ?_
                  first | exact A_drop 7 rfl (A_drop 8 rfl (ih (i + 1) (some b) (by omega) hb (by rw [← hF, eBestR]; simp [eFit, eBet, *]))) | exact A_drop 7 rfl (A_drop 8 rfl (ih (i + 1) (some i) (by omega) (fun b hb => by cases hb; omega) (by rw [← hF, eBestR]; simp [eFit, eBet, *])))
                · exact absurd (by decide) c_71
              · refine A_iconst (v := 1) (q := 63) cx dX0_bestOpen_62 (by decide) rfl ?_
                refine A_goto (q := 67) cx dX0_bestOpen_63 (by decide) ?_
                refine A_istore (lv' := [some _, some _, some _, some _, some _, some _, some _, some _, some _]) (q := 69) cx dX0_bestOpen_67 (Nat.le_of_ble_eq_true rfl) rfl rfl ?_
                refine A_iload (q := 71) cx dX0_bestOpen_69 rfl rfl ?_
                refine A_if_eq (tgt := 95) (q := 74) cx dX0_bestOpen_71 (by decide) rfl (fun c_71 => ?_) (fun c_71 => ?_)
                · exact absurd c_71 (by decide)
                · refine A_aload_n (q := 75) cx dX0_bestOpen_74 rfl rfl rfl ?_
                  refine A_ifnull_R (q := 78) cx dX0_bestOpen_75 rfl ?_
                  refine A_aload (q := 80) cx dX0_bestOpen_78 rfl rfl rfl ?_
                  refine A_iload_n (q := 81) cx dX0_bestOpen_80 rfl rfl ?_
                  refine VI1 (q := 84) cx (ct_X5_priorityBy hE hX) (cwV 1 cx.1.2.2.2.2 gX0_bestOpen_X5_priorityBy rfl rfl rfl (by decide +kernel) ⟨Nat.le_of_ble_eq_true rfl, Nat.le_of_ble_eq_true rfl⟩) dX0_bestOpen_81 rfl rfl (in5 hX (by omega)) rfl (Nat.le_of_ble_eq_true rfl) ⟨Nat.zero_le _, Nat.zero_le _⟩ rfl ?_
                  refine A_aload_n (q := 85) cx dX0_bestOpen_84 rfl rfl rfl ?_
                  refine A_iload_n (q := 86) cx dX0_bestOpen_85 rfl rfl ?_
                  refine VI1 (q := 89) cx (ct_X5_priorityBy hE hX) (cwV 1 cx.1.2.2.2.2 gX0_bestOpen_X5_priorityBy rfl rfl rfl (by decide +kernel) ⟨Nat.le_of_ble_eq_true rfl, Nat.le_of_ble_eq_true rfl⟩) dX0_bestOpen_86 rfl rfl (in5 hX (by omega)) rfl (Nat.le_of_ble_eq_true rfl) ⟨Nat.zero_le _, Nat.zero_le _⟩ rfl ?_
                  refine A_icmp_ge (tgt := 95) (q := 92) cx dX0_bestOpen_89 (by decide) rfl (fun c_89 => ?_) (fun c_89 => ?_)
                  · refine A_iinc (lv' := [some _, some _, some _, some _, some _, some _, some _, some _, some _]) (q := 98) cx dX0_bestOpen_95 rfl (nI_1 i) rfl rfl ?_
                    refine A_goto (q := 16) cx dX0_bestOpen_98 (by decide) ?_
                    first | exact A_drop 7 rfl (A_drop 8 rfl (ih (i + 1) (some b) (by omega) hb (by rw [← hF, eBestR]; simp [eFit, eBet, *]))) | exact A_drop 7 rfl (A_drop 8 rfl (ih (i + 1) (some i) (by omega) (fun b hb => by cases hb; omega) (by rw [← hF, eBestR]; simp [eFit, eBet, *])))
                  · refine A_aload (q := 94) cx dX0_bestOpen_92 rfl rfl rfl ?_
                    refine A_astore_n (lv' := [some _, some _, some _, some _, some _, some _, some _, some _, some _]) (q := 95) cx dX0_bestOpen_94 (Nat.le_of_ble_eq_true rfl) rfl rfl rfl ?_
                    refine A_iinc (lv' := [some _, some _, some _, some _, some _, some _, some _, some _, some _]) (q := 98) cx dX0_bestOpen_95 rfl (nI_1 i) rfl rfl ?_
                    refine A_goto (q := 16) cx dX0_bestOpen_98 (by decide) ?_
                    first | exact A_drop 7 rfl (A_drop 8 rfl (ih (i + 1) (some b) (by omega) hb (by rw [← hF, eBestR]; simp [eFit, eBet, *]))) | exact A_drop 7 rfl (A_drop 8 rfl (ih (i + 1) (some i) (by omega) (fun b hb => by cases hb; omega) (by rw [← hF, eBestR]; simp [eFit, eBet, *])))
  refine A_null (q := 1) cx dX0_bestOpen_0 rfl ?_
  refine A_astore_n (lv' := [some _, some _, some _, some _, none, none, none, none, none]) (q := 2) cx dX0_bestOpen_1 (Nat.le_of_ble_eq_true rfl) rfl rfl rfl ?_
  refine A_aload_n (q := 3) cx dX0_bestOpen_2 rfl rfl rfl ?_
  refine gX0_2 (q := 6) cx wi_X0_bestOpen_X0 wf_X0_bestOpen_17 dX0_bestOpen_3 rfl (in0 hX (by omega)) rfl rfl ?_
  refine A_astore (lv' := [some _, some _, some _, some _, some _, none, none, none, none]) (q := 8) cx dX0_bestOpen_6 (Nat.le_of_ble_eq_true rfl) rfl rfl rfl ?_
  refine A_aload (q := 10) cx dX0_bestOpen_8 rfl rfl rfl ?_
  refine A_alen13 (v := 6) (q := 11) cx dX0_bestOpen_10 rfl (in13 hX (by omega)) rfl rfl ?_
  refine A_istore (lv' := [some _, some _, some _, some _, some _, some _, none, none, none]) (q := 13) cx dX0_bestOpen_11 (Nat.le_of_ble_eq_true rfl) rfl rfl ?_
  refine A_iconst (v := 0) (q := 14) cx dX0_bestOpen_13 (by decide) rfl ?_
  refine A_istore (lv' := [some _, some _, some _, some _, some _, some _, some _, none, none]) (q := 16) cx dX0_bestOpen_14 (Nat.le_of_ble_eq_true rfl) rfl rfl ?_
  exact l1 6 0 none rfl (fun b hb => by cases hb) rfl
theorem wi_X0_choose_X5 : ∀ w ∈ u_ws RX5 TX5 11, w ∈ wsX0_choose := by decide +kernel
theorem wf_X0_choose_57 : Cond.fieldLink RX0 57 (TX5 8).1 (TX5 8).2.1 (TX5 8).2.2.1 ∈ wsX0_choose := by decide +kernel
theorem wi_X0_choose_X0 : ∀ w ∈ u_ws RX0 TX0 4, w ∈ wsX0_choose := by decide +kernel
theorem wf_X0_choose_17 : Cond.fieldLink RX0 17 (TX0 2).1 (TX0 2).2.1 (TX0 2).2.2.1 ∈ wsX0_choose := by decide +kernel
set_option maxHeartbeats 4000000 in
set_option maxRecDepth 100000 in
theorem ct_X0_choose {la : Launch} {E : Ev} (hE : okE E) (hX : xin E) {σ0 : Sg} {n e : Nat} {x : Int32} (hn : n < 9 ∧ e < 2 := by omega) : CV la yX0_choose wsX0_choose 2 49 E rh0 [.ref (ad E (0, n, e, 0)), .int x] σ0 (eChoose σ0 n e x.toNatClampNeg) := by
  refine met_of (lv := [some _, some _, none, none, none, none]) RX0 (by decide) rfl rfl rfl hE (ok2 rfl rfl) (Nat.le_of_ble_eq_true rfl) (fun p ev s m args below meth c Q cx hlk hr hQ => ?_)
  have l2 : ∀ (w : Int32) (first : Option Nat) (d i : Nat) (σ : Sg) (next : Option Nat), i + d = x.toNatClampNeg → (∀ y, next = some y → y < 6 ∧ ∃ f, first = some f ∧ f < 6) → eTake n e w first d next σ = eChoose σ0 n e x.toNatClampNeg → AW p la ev (rmm 2 49) s m args below meth c 0 0 Q (AL E) E rh0 53 [some (.ref (ad E (0, n, e, 0))), some (.int x), some (.int w), some (rv E (first.map (kp n e))), some (rv E (next.map (kp n e))), some (.int (nI i))] [] σ := by
    intro w first d
    induction d with
    | zero =>
      intro i σ next hi hnx hF
      obtain rfl : i = x.toNatClampNeg := by omega
      refine A_iload (q := 55) cx dX0_choose_53 rfl rfl ?_
      refine A_iload_n (q := 56) cx dX0_choose_55 rfl rfl ?_
      refine A_icmp_ge (tgt := 84) (q := 59) cx dX0_choose_56 (by decide) rfl (fun c_56 => ?_) (fun c_56 => ?_)
      · exact A_vret cx hlk hr hQ dX0_choose_84 hF
      · exact absurd (clamp_ge x) c_56
    | succ d ih =>
      intro i σ next hi hnx hF
      rcases next with _ | z
      · refine A_iload (q := 55) cx dX0_choose_53 rfl rfl ?_
        refine A_iload_n (q := 56) cx dX0_choose_55 rfl rfl ?_
        refine A_icmp_ge (tgt := 84) (q := 59) cx dX0_choose_56 (by decide) rfl (fun c_56 => ?_) (fun c_56 => ?_)
        · exact absurd c_56 (clamp_lt (by omega))
        · refine A_aload (q := 61) cx dX0_choose_59 rfl rfl rfl ?_
          refine A_ifnull_N (tgt := 84) cx dX0_choose_61 (by decide) ?_
          exact A_vret cx hlk hr hQ dX0_choose_84 hF
      · obtain ⟨hx6, f, rfl, hf6⟩ := hnx z rfl
        refine A_iload (q := 55) cx dX0_choose_53 rfl rfl ?_
        refine A_iload_n (q := 56) cx dX0_choose_55 rfl rfl ?_
        refine A_icmp_ge (tgt := 84) (q := 59) cx dX0_choose_56 (by decide) rfl (fun c_56 => ?_) (fun c_56 => ?_)
        · exact absurd c_56 (clamp_lt (by omega))
        · refine A_aload (q := 61) cx dX0_choose_59 rfl rfl rfl ?_
          refine A_ifnull_R (q := 64) cx dX0_choose_61 rfl ?_
          refine A_aload (q := 66) cx dX0_choose_64 rfl rfl rfl ?_
          refine A_iconst (v := 1) (q := 67) cx dX0_choose_66 (by decide) rfl ?_
          refine pX5_8 (q := 70) cx wi_X0_choose_X5 wf_X0_choose_57 dX0_choose_67 rfl (in5 hX (by omega)) (by first | exact Or.inl rfl | exact Or.inr rfl | exact b01_or _ | assumption) rfl ?_
          refine A_aload_n (q := 71) cx dX0_choose_70 rfl rfl rfl ?_
          refine A_iload_n (q := 72) cx dX0_choose_71 rfl rfl ?_
          refine A_aload_n (q := 73) cx dX0_choose_72 rfl rfl rfl ?_
          refine VQ2 (q := 76) cx (ct_X0_bestOpen_S hE hX hf6) (cwV 2 cx.1.2.2.2.2 gX0_choose_X0_bestOpen rfl rfl rfl (by decide +kernel) ⟨Nat.le_of_ble_eq_true rfl, Nat.le_of_ble_eq_true rfl⟩) dX0_choose_73 rfl rfl (in0 hX (by omega)) rfl (Nat.le_of_ble_eq_true rfl) ⟨Nat.zero_le _, Nat.zero_le _⟩ rfl ?_
          refine A_astore (lv' := [some _, some _, some _, some _, some _, some _]) (q := 78) cx dX0_choose_76 (Nat.le_of_ble_eq_true rfl) (isR_rv E _) rfl rfl ?_
          refine A_iinc (lv' := [some _, some _, some _, some _, some _, some _]) (q := 81) cx dX0_choose_78 rfl (nI_1 i) rfl rfl ?_
          refine A_goto (q := 53) cx dX0_choose_81 (by decide) ?_
          exact ih (i + 1) _ _ (by omega) (fun y hy => ⟨eBest_lt hy, f, rfl, hf6⟩) hF
  have l1 : ∀ (d i : Nat) (σ : Sg), i + d = 6 → eChoose1 (eUnch n e d i σ) n e x.toNatClampNeg = eChoose σ0 n e x.toNatClampNeg → AW p la ev (rmm 2 49) s m args below meth c 0 0 Q (AL E) E rh0 11 [some (.ref (ad E (0, n, e, 0))), some (.int x), some (.ref (ad E (13, n, e, 0))), some (.int 6), some (.int (nI i)), none] [] σ := by
    intro d
    induction d with
    | zero =>
      intro i σ  hi hF
      obtain rfl : i = 6 := by omega
      refine A_iload (q := 13) cx dX0_choose_11 rfl rfl ?_
      refine A_iload_n (q := 14) cx dX0_choose_13 rfl rfl ?_
      refine A_icmp_ge (tgt := 35) (q := 17) cx dX0_choose_14 (by decide) rfl (fun c_14 => ?_) (fun c_14 => ?_)
      · refine A_aload_n (q := 36) cx dX0_choose_35 rfl rfl rfl ?_
        refine VI0 (q := 39) cx (ct_X0_decides hE hX) (cwV 0 cx.1.2.2.2.2 gX0_choose_X0_decides rfl rfl rfl (by decide +kernel) ⟨Nat.le_of_ble_eq_true rfl, Nat.le_of_ble_eq_true rfl⟩) dX0_choose_36 rfl rfl (in0 hX (by omega)) rfl (Nat.le_of_ble_eq_true rfl) ⟨Nat.zero_le _, Nat.zero_le _⟩ rfl ?_
        refine A_istore_n (lv' := [some _, some _, some _, some _, some _, none]) (q := 40) cx dX0_choose_39 (Nat.le_of_ble_eq_true rfl) rfl rfl ?_
        refine A_aload_n (q := 41) cx dX0_choose_40 rfl rfl rfl ?_
        refine A_iload_n (q := 42) cx dX0_choose_41 rfl rfl ?_
        refine A_null (q := 43) cx dX0_choose_42 rfl ?_
        refine VQ2 (q := 46) cx (ct_X0_bestOpen_N hE hX) (cwV 2 cx.1.2.2.2.2 gX0_choose_X0_bestOpen rfl rfl rfl (by decide +kernel) ⟨Nat.le_of_ble_eq_true rfl, Nat.le_of_ble_eq_true rfl⟩) dX0_choose_43 rfl rfl (in0 hX (by omega)) rfl (Nat.le_of_ble_eq_true rfl) ⟨Nat.zero_le _, Nat.zero_le _⟩ rfl ?_
        refine A_astore_n (lv' := [some _, some _, some _, some _, some _, none]) (q := 47) cx dX0_choose_46 (Nat.le_of_ble_eq_true rfl) (isR_rv E _) rfl rfl ?_
        refine A_aload_n (q := 48) cx dX0_choose_47 rfl (isR_rv E _) rfl ?_
        refine A_astore (lv' := [some _, some _, some _, some _, some _, none]) (q := 50) cx dX0_choose_48 (Nat.le_of_ble_eq_true rfl) (isR_rv E _) rfl rfl ?_
        refine A_iconst (v := 0) (q := 51) cx dX0_choose_50 (by decide) rfl ?_
        refine A_istore (lv' := [some _, some _, some _, some _, some _, some _]) (q := 53) cx dX0_choose_51 (Nat.le_of_ble_eq_true rfl) rfl rfl ?_
        exact l2 _ _ _ 0 _ _ (by omega) (fun y hy => ⟨eBest_lt hy, y, hy, eBest_lt hy⟩) hF
      · exact absurd (by decide) c_14
    | succ d ih =>
      intro i σ  hi hF
      refine A_iload (q := 13) cx dX0_choose_11 rfl rfl ?_
      refine A_iload_n (q := 14) cx dX0_choose_13 rfl rfl ?_
      refine A_icmp_ge (tgt := 35) (q := 17) cx dX0_choose_14 (by decide) rfl (fun c_14 => ?_) (fun c_14 => ?_)
      · exact absurd c_14 (not_ge (i := i) (b := 6) (by omega) (by decide))
      · refine A_aload_n (q := 18) cx dX0_choose_17 rfl rfl rfl ?_
        refine A_iload (q := 20) cx dX0_choose_18 rfl rfl ?_
        refine A_aaload13 (q := 21) cx dX0_choose_20 rfl (in13 hX (by omega)) rfl (by show _ < 6; omega) rfl rfl ?_
        refine A_astore (lv' := [some _, some _, some _, some _, some _, some _]) (q := 23) cx dX0_choose_21 (Nat.le_of_ble_eq_true rfl) rfl rfl rfl ?_
        refine A_aload (q := 25) cx dX0_choose_23 rfl rfl rfl ?_
        refine A_iconst (v := 0) (q := 26) cx dX0_choose_25 (by decide) rfl ?_
        refine pX5_8 (q := 29) cx wi_X0_choose_X5 wf_X0_choose_57 dX0_choose_26 rfl (in5 hX (by omega)) (by first | exact Or.inl rfl | exact Or.inr rfl | exact b01_or _ | assumption) rfl ?_
        refine A_iinc (lv' := [some _, some _, some _, some _, some _, some _]) (q := 32) cx dX0_choose_29 rfl (nI_1 i) rfl rfl ?_
        refine A_goto (q := 11) cx dX0_choose_32 (by decide) ?_
        exact A_drop 5 rfl (ih (i + 1) _ (by omega) hF)
  refine A_aload_n (q := 1) cx dX0_choose_0 rfl rfl rfl ?_
  refine gX0_2 (q := 4) cx wi_X0_choose_X0 wf_X0_choose_17 dX0_choose_1 rfl (in0 hX (by omega)) rfl rfl ?_
  refine A_astore_n (lv' := [some _, some _, some _, none, none, none]) (q := 5) cx dX0_choose_4 (Nat.le_of_ble_eq_true rfl) rfl rfl rfl ?_
  refine A_aload_n (q := 6) cx dX0_choose_5 rfl rfl rfl ?_
  refine A_alen13 (v := 6) (q := 7) cx dX0_choose_6 rfl (in13 hX (by omega)) rfl rfl ?_
  refine A_istore_n (lv' := [some _, some _, some _, some _, none, none]) (q := 8) cx dX0_choose_7 (Nat.le_of_ble_eq_true rfl) rfl rfl ?_
  refine A_iconst (v := 0) (q := 9) cx dX0_choose_8 (by decide) rfl ?_
  refine A_istore (lv' := [some _, some _, some _, some _, some _, none]) (q := 11) cx dX0_choose_9 (Nat.le_of_ble_eq_true rfl) rfl rfl ?_
  exact l1 6 0 _ rfl rfl
