theorem cnt_zero (f : Nat → Int32) : ∀ (d i : Nat) (a : Int32), (∀ j, i ≤ j → j < i + d → f j = 0) → cnt f d i a = a
  | 0, _, _, _ => rfl
  | d + 1, i, a, h => by
    rw [cnt, h i (Nat.le_refl _) (by omega), Int32.add_zero]
    exact cnt_zero f d (i + 1) a (fun j h1 h2 => h j (by omega) (by omega))
theorem mOpen_now {σ σ' : Sg} (h : σ' kNow = σ kNow) (e l : Nat) : mOpen σ' e l = mOpen σ e l := by unfold mOpen; rw [h]
theorem mFst_min (σ : Sg) (e b L : Nat) (hL : L ≤ 6) {i : Nat} (hi : i < L) (ho : ¬ mOpen σ e i = 0) : ∃ l, l < L ∧ ¬ mOpen σ e l = 0 ∧ mAh σ e l b 1 L = 0 := by
  obtain ⟨k, ⟨l, hl, hlo, hk⟩, hmin⟩ := pk_least (fun k => ∃ l, l < L ∧ ¬ mOpen σ e l = 0 ∧ ((σ kNow (pl e l + b)).toInt + 2 ^ 31).toNat * 8 + l = k) ⟨_, i, hi, ho, rfl⟩
  refine ⟨l, hl, hlo, ?_⟩
  unfold mAh
  refine cnt_zero _ L 0 0 (fun j _ hj => ?_)
  unfold mAh1
  have hb : mBef σ e l b j = 0 := by
    unfold mBef
    split
    · rfl
    · next ho2 =>
      have hno : ¬ ((σ kNow (pl e j + b)).toInt + 2 ^ 31).toNat * 8 + j < k := fun h => hmin _ h ⟨j, by omega, ho2, rfl⟩
      have h1 := Int32.le_toInt (σ kNow (pl e j + b))
      have h2 := Int32.le_toInt (σ kNow (pl e l + b))
      split
      · next hlt =>
        have := Int32.lt_iff_toInt_lt.mp hlt
        exfalso; omega
      · split
        · next heq =>
          split
          · rfl
          · next hle =>
            rw [heq] at hno
            have : ¬ l ≤ j := fun h => hle (nI_le h (by omega))
            exfalso; omega
        · rfl
  rw [if_pos hb]
theorem mFstR_some (σ : Sg) (e b L : Nat) : ∀ (d i : Nat) (r : Option Nat), ((∃ f, r = some f ∧ f < i) ∨ ∃ j, i ≤ j ∧ j < i + d ∧ ¬ mOpen σ e j = 0 ∧ mAh σ e j b 1 L = 0) → ∃ f, mFstR σ e b L d i r = some f ∧ f < i + d
  | 0, i, r, h => by
    rcases h with ⟨f, hf, hf2⟩ | ⟨j, h1, h2, -⟩
    · exact ⟨f, hf, by omega⟩
    · omega
  | d + 1, i, r, h => by
    have key : (∃ f, (if mOpen σ e i = 0 then r else if mAh σ e i b 1 L = 0 then some i else r) = some f ∧ f < i + 1) ∨ ∃ j, i + 1 ≤ j ∧ j < i + 1 + d ∧ ¬ mOpen σ e j = 0 ∧ mAh σ e j b 1 L = 0 := by
      rcases h with ⟨f, hf, hf2⟩ | ⟨j, h1, h2, h3, h4⟩
      · left
        split
        · exact ⟨f, hf, by omega⟩
        · split
          · exact ⟨i, rfl, by omega⟩
          · exact ⟨f, hf, by omega⟩
      · by_cases hj : j = i
        · subst hj
          left
          rw [if_neg h3, if_pos h4]
          exact ⟨j, rfl, by omega⟩
        · right; exact ⟨j, by omega, by omega, h3, h4⟩
    obtain ⟨f, hf, hf2⟩ := mFstR_some σ e b L d (i + 1) _ key
    exact ⟨f, hf, by omega⟩
theorem mFst_some {σ : Sg} {e b L : Nat} (hL : L ≤ 6) {i : Nat} (hi : i < L) (ho : ¬ mOpen σ e i = 0) : ∃ f, mFst σ e b L = some f ∧ f < L := by
  obtain ⟨l, h1, h2, h3⟩ := mFst_min σ e b L hL hi ho
  obtain ⟨f, hf, hf2⟩ := mFstR_some σ e b L L 0 none (Or.inr ⟨l, by omega, by omega, h2, h3⟩)
  exact ⟨f, hf, by omega⟩
theorem wi_X8_chooses_X8 : ∀ w ∈ u_ws RX8 TX8 18, w ∈ wsX8_chooses := by decide +kernel
theorem wf_X8_chooses_83 : Cond.fieldLink RX8 83 (TX8 0).1 (TX8 0).2.1 (TX8 0).2.2.1 ∈ wsX8_chooses := by decide +kernel
theorem wf_X8_chooses_37 : Cond.fieldLink RX8 37 (TX8 16).1 (TX8 16).2.1 (TX8 16).2.2.1 ∈ wsX8_chooses := by decide +kernel
theorem wf_X8_chooses_7 : Cond.fieldLink RX8 7 (TX8 3).1 (TX8 3).2.1 (TX8 3).2.2.1 ∈ wsX8_chooses := by decide +kernel
set_option maxHeartbeats 1000000 in
set_option maxRecDepth 100000 in
theorem ct_X8_chooses {la : Launch} {E : Ev} (hE : okE E) (hX : yin E) {σ0 : Sg} {e L : Nat} (hL : σ0 (8, 0, 0, 0) 0 = nI L) (hL6 : L ≤ 6) (he : e < 2 := by omega) : CV la yX8_chooses wsX8_chooses 3 73 E rh0 [.ref (ad E (8, 0, 0, 0)), .int (nI e)] σ0 (mCh σ0 e L) := by
  refine met_of (lv := [some _, some _, none, none, none]) RX8 (by decide) rfl rfl rfl hE (ok2 rfl rfl) (Nat.le_of_ble_eq_true rfl) (fun p ev s m args below meth c Q cx hlk hr hQ => ?_)
  have l2 : ∀ (b : Nat) (r : Option Nat), b < 11 → mFst σ0 e b L = r → ∀ (d i : Nat) (σ : Sg), i + d = L → σ (9, 2, 0, 0) = σ0 (9, 2, 0, 0) → σ (8, 0, 0, 0) 0 = nI L → mChR e b L (r.getD 0) d i σ = mCh σ0 e L → AW p la ev (rmm 3 73) s m args below meth c 0 0 Q (AL E) E rh0 68 [some (.ref (ad E (8, 0, 0, 0))), some (.int (nI e)), some (.int (nI b)), some (.int (fo r)), some (.int (nI i))] [] σ := by
    intro b r hb hrr d
    induction d with
    | zero =>
      intro i σ hi hk hL2 hF
      refine A_iload (q := 70) cx dX8_chooses_68 rfl rfl ?_
      refine A_aload_n (q := 71) cx dX8_chooses_70 rfl rfl rfl ?_
      refine gX8_0 (q := 74) cx wi_X8_chooses_X8 wf_X8_chooses_83 dX8_chooses_71 rfl (in8 hX) rfl ?_
      refine A_icmp_ge (tgt := 134) (q := 77) cx dX8_chooses_74 (by decide) rfl (fun c_74 => ?_) (fun c_74 => ?_)
      · exact A_vret cx hlk hr hQ dX8_chooses_134 hF
      · exact absurd (lge hL2 (by omega) (by omega)) c_74
    | succ d ih =>
      intro i σ hi hk hL2 hF
      refine A_iload (q := 70) cx dX8_chooses_68 rfl rfl ?_
      refine A_aload_n (q := 71) cx dX8_chooses_70 rfl rfl rfl ?_
      refine gX8_0 (q := 74) cx wi_X8_chooses_X8 wf_X8_chooses_83 dX8_chooses_71 rfl (in8 hX) rfl ?_
      refine A_icmp_ge (tgt := 134) (q := 77) cx dX8_chooses_74 (by decide) rfl (fun c_74 => ?_) (fun c_74 => ?_)
      · exact absurd c_74 (lnge hL2 (by omega) (by omega))
      · refine A_aload_n (q := 78) cx dX8_chooses_77 rfl rfl rfl ?_
        refine gX8_16 (q := 81) cx wi_X8_chooses_X8 wf_X8_chooses_37 dX8_chooses_78 rfl (in8 hX) rfl rfl ?_
        refine A_iload (q := 83) cx dX8_chooses_81 rfl rfl ?_
        refine A_aload_n (q := 84) cx dX8_chooses_83 rfl rfl rfl ?_
        refine A_iload_n (q := 85) cx dX8_chooses_84 rfl rfl ?_
        refine A_iload (q := 87) cx dX8_chooses_85 rfl rfl ?_
        refine VI2 (q := 90) cx (ct_X8_isOpen hE hX) (cwV 2 cx.1.2.2.2.2 gX8_chooses_X8_isOpen rfl rfl rfl (by decide +kernel) ⟨Nat.le_of_ble_eq_true rfl, Nat.le_of_ble_eq_true rfl⟩) dX8_chooses_87 rfl rfl (in8 hX) rfl (Nat.le_of_ble_eq_true rfl) ⟨Nat.zero_le _, Nat.zero_le _⟩ rfl ?_
        refine A_if_eq (tgt := 126) (q := 93) cx dX8_chooses_90 (by decide) rfl (fun c_90 => ?_) (fun c_90 => ?_)
        · refine A_iconst (v := 0) (q := 127) cx dX8_chooses_126 (by decide) rfl ?_
          refine A_bastore (q := 128) cx dX8_chooses_127 rfl (in10 hX) rfl (by show _ < 6; first | omega | (simp only [pl]; omega)) (by first | exact Or.inl rfl | exact Or.inr rfl) rfl ?_
          refine A_iinc (lv' := [some _, some _, some _, some _, some _]) (q := 131) cx dX8_chooses_128 rfl (nI_1 i) rfl rfl ?_
          refine A_goto (q := 68) cx dX8_chooses_131 (by decide) ?_
          exact ih (i + 1) _ (by omega) hk hL2 (by rw [← hF, mChR]; first | (simp only [mChs, c_90, c_101, c_119, if_true, if_false, Option.getD_some]; done) | (simp only [mChs, c_90, c_101, if_true, if_false, Option.getD_some]; done) | (simp only [mChs, c_90, if_true, if_false]; done))
        · obtain ⟨f, hf, hf6⟩ := mFst_some (σ := σ0) (b := b) (L := L) (i := i) (e := e) hL6 (by omega) (by rw [mOpen_now hk] at c_90; exact c_90)
          obtain rfl : r = some f := hrr.symm.trans hf
          refine A_aload_n (q := 94) cx dX8_chooses_93 rfl rfl rfl ?_
          refine A_iload_n (q := 95) cx dX8_chooses_94 rfl rfl ?_
          refine A_iload (q := 97) cx dX8_chooses_95 rfl rfl ?_
          refine A_iload_n (q := 98) cx dX8_chooses_97 rfl rfl ?_
          refine VI3 (q := 101) cx (ct_X8_isPair hE hX (k := f)) (cwV 3 cx.1.2.2.2.2 gX8_chooses_X8_isPair rfl rfl rfl (by decide +kernel) ⟨Nat.le_of_ble_eq_true rfl, Nat.le_of_ble_eq_true rfl⟩) dX8_chooses_98 rfl rfl (in8 hX) rfl (Nat.le_of_ble_eq_true rfl) ⟨Nat.zero_le _, Nat.zero_le _⟩ rfl ?_
          refine A_if_eq (tgt := 126) (q := 104) cx dX8_chooses_101 (by decide) rfl (fun c_101 => ?_) (fun c_101 => ?_)
          · refine A_iconst (v := 0) (q := 127) cx dX8_chooses_126 (by decide) rfl ?_
            refine A_bastore (q := 128) cx dX8_chooses_127 rfl (in10 hX) rfl (by show _ < 6; first | omega | (simp only [pl]; omega)) (by first | exact Or.inl rfl | exact Or.inr rfl) rfl ?_
            refine A_iinc (lv' := [some _, some _, some _, some _, some _]) (q := 131) cx dX8_chooses_128 rfl (nI_1 i) rfl rfl ?_
            refine A_goto (q := 68) cx dX8_chooses_131 (by decide) ?_
            exact ih (i + 1) _ (by omega) hk hL2 (by rw [← hF, mChR]; first | (simp only [mChs, c_90, c_101, c_119, if_true, if_false, Option.getD_some]; done) | (simp only [mChs, c_90, c_101, if_true, if_false, Option.getD_some]; done) | (simp only [mChs, c_90, if_true, if_false]; done))
          · refine A_aload_n (q := 105) cx dX8_chooses_104 rfl rfl rfl ?_
            refine A_iload_n (q := 106) cx dX8_chooses_105 rfl rfl ?_
            refine A_iload (q := 108) cx dX8_chooses_106 rfl rfl ?_
            refine A_iload_n (q := 109) cx dX8_chooses_108 rfl rfl ?_
            refine A_iconst (v := 0) (q := 110) cx dX8_chooses_109 (by decide) rfl ?_
            refine VI4 (q := 113) cx (ct_X8_ahead hE hX hL2 hL6) (cwV 4 cx.1.2.2.2.2 gX8_chooses_X8_ahead rfl rfl rfl (by decide +kernel) ⟨Nat.le_of_ble_eq_true rfl, Nat.le_of_ble_eq_true rfl⟩) dX8_chooses_110 rfl rfl (in8 hX) rfl (Nat.le_of_ble_eq_true rfl) ⟨Nat.zero_le _, Nat.zero_le _⟩ rfl ?_
            refine A_aload_n (q := 114) cx dX8_chooses_113 rfl rfl rfl ?_
            refine gX8_3 (q := 117) cx wi_X8_chooses_X8 wf_X8_chooses_7 dX8_chooses_114 rfl (in8 hX) rfl rfl ?_
            refine A_iconst (v := 2) (q := 118) cx dX8_chooses_117 (by decide) rfl ?_
            refine A_iaload (q := 119) cx dX8_chooses_118 rfl (in9 hX (by decide)) (ixc 2) (by show _ < 235; first | omega | (simp only [pl]; omega)) rfl ?_
            refine A_icmp_ge (tgt := 126) (q := 122) cx dX8_chooses_119 (by decide) rfl (fun c_119 => ?_) (fun c_119 => ?_)
            · refine A_iconst (v := 0) (q := 127) cx dX8_chooses_126 (by decide) rfl ?_
              refine A_bastore (q := 128) cx dX8_chooses_127 rfl (in10 hX) rfl (by show _ < 6; first | omega | (simp only [pl]; omega)) (by first | exact Or.inl rfl | exact Or.inr rfl) rfl ?_
              refine A_iinc (lv' := [some _, some _, some _, some _, some _]) (q := 131) cx dX8_chooses_128 rfl (nI_1 i) rfl rfl ?_
              refine A_goto (q := 68) cx dX8_chooses_131 (by decide) ?_
              exact ih (i + 1) _ (by omega) hk hL2 (by rw [← hF, mChR]; first | (simp only [mChs, c_90, c_101, c_119, if_true, if_false, Option.getD_some]; done) | (simp only [mChs, c_90, c_101, if_true, if_false, Option.getD_some]; done) | (simp only [mChs, c_90, if_true, if_false]; done))
            · refine A_iconst (v := 1) (q := 123) cx dX8_chooses_122 (by decide) rfl ?_
              refine A_goto (q := 127) cx dX8_chooses_123 (by decide) ?_
              refine A_bastore (q := 128) cx dX8_chooses_127 rfl (in10 hX) rfl (by show _ < 6; first | omega | (simp only [pl]; omega)) (by first | exact Or.inl rfl | exact Or.inr rfl) rfl ?_
              refine A_iinc (lv' := [some _, some _, some _, some _, some _]) (q := 131) cx dX8_chooses_128 rfl (nI_1 i) rfl rfl ?_
              refine A_goto (q := 68) cx dX8_chooses_131 (by decide) ?_
              exact ih (i + 1) _ (by omega) hk hL2 (by rw [← hF, mChR]; first | (simp only [mChs, c_90, c_101, c_119, if_true, if_false, Option.getD_some]; done) | (simp only [mChs, c_90, c_101, if_true, if_false, Option.getD_some]; done) | (simp only [mChs, c_90, if_true, if_false]; done))
  have l1 : ∀ (b : Nat), b < 11 → mBy σ0 e L = b → ∀ (d i : Nat) (r : Option Nat), i + d = L → mFstR σ0 e b L d i r = mFst σ0 e b L → AW p la ev (rmm 3 73) s m args below meth c 0 0 Q (AL E) E rh0 21 [some (.ref (ad E (8, 0, 0, 0))), some (.int (nI e)), some (.int (nI b)), some (.int (fo r)), some (.int (nI i))] [] σ0 := by
    intro b hb hbe d
    induction d with
    | zero =>
      intro i r hi hF
      refine A_iload (q := 23) cx dX8_chooses_21 rfl rfl ?_
      refine A_aload_n (q := 24) cx dX8_chooses_23 rfl rfl rfl ?_
      refine gX8_0 (q := 27) cx wi_X8_chooses_X8 wf_X8_chooses_83 dX8_chooses_24 rfl (in8 hX) rfl ?_
      refine A_icmp_ge (tgt := 65) (q := 30) cx dX8_chooses_27 (by decide) rfl (fun c_27 => ?_) (fun c_27 => ?_)
      · refine A_iconst (v := 0) (q := 66) cx dX8_chooses_65 (by decide) rfl ?_
        refine A_istore (lv' := [some _, some _, some _, some _, some _]) (q := 68) cx dX8_chooses_66 (Nat.le_of_ble_eq_true rfl) rfl rfl ?_
        exact l2 b r hb hF.symm L 0 _ (by omega) rfl hL (by have hr : r = mFst σ0 e b L := hF; unfold mCh; rw [hbe, hr])
      · exact absurd (lge hL (by omega) (by omega)) c_27
    | succ d ih =>
      intro i r hi hF
      refine A_iload (q := 23) cx dX8_chooses_21 rfl rfl ?_
      refine A_aload_n (q := 24) cx dX8_chooses_23 rfl rfl rfl ?_
      refine gX8_0 (q := 27) cx wi_X8_chooses_X8 wf_X8_chooses_83 dX8_chooses_24 rfl (in8 hX) rfl ?_
      refine A_icmp_ge (tgt := 65) (q := 30) cx dX8_chooses_27 (by decide) rfl (fun c_27 => ?_) (fun c_27 => ?_)
      · exact absurd c_27 (lnge hL (by omega) (by omega))
      · refine A_aload_n (q := 31) cx dX8_chooses_30 rfl rfl rfl ?_
        refine A_iload_n (q := 32) cx dX8_chooses_31 rfl rfl ?_
        refine A_iload (q := 34) cx dX8_chooses_32 rfl rfl ?_
        refine VI2 (q := 37) cx (ct_X8_isOpen hE hX) (cwV 2 cx.1.2.2.2.2 gX8_chooses_X8_isOpen rfl rfl rfl (by decide +kernel) ⟨Nat.le_of_ble_eq_true rfl, Nat.le_of_ble_eq_true rfl⟩) dX8_chooses_34 rfl rfl (in8 hX) rfl (Nat.le_of_ble_eq_true rfl) ⟨Nat.zero_le _, Nat.zero_le _⟩ rfl ?_
        refine A_if_eq (tgt := 57) (q := 40) cx dX8_chooses_37 (by decide) rfl (fun c_37 => ?_) (fun c_37 => ?_)
        · refine A_iload_n (q := 58) cx dX8_chooses_57 rfl rfl ?_
          refine A_istore_n (lv' := [some _, some _, some _, some _, some _]) (q := 59) cx dX8_chooses_58 (Nat.le_of_ble_eq_true rfl) rfl rfl ?_
          refine A_iinc (lv' := [some _, some _, some _, some _, some _]) (q := 62) cx dX8_chooses_59 rfl (nI_1 i) rfl rfl ?_
          refine A_goto (q := 21) cx dX8_chooses_62 (by decide) ?_
          first | exact ih (i + 1) (some i) (by omega) (by rw [← hF, mFstR]; simp only [*, if_true, if_false]) | exact ih (i + 1) r (by omega) (by rw [← hF, mFstR]; simp only [*, if_true, if_false])
        · refine A_aload_n (q := 41) cx dX8_chooses_40 rfl rfl rfl ?_
          refine A_iload_n (q := 42) cx dX8_chooses_41 rfl rfl ?_
          refine A_iload (q := 44) cx dX8_chooses_42 rfl rfl ?_
          refine A_iload_n (q := 45) cx dX8_chooses_44 rfl rfl ?_
          refine A_iconst (v := 1) (q := 46) cx dX8_chooses_45 (by decide) rfl ?_
          refine VI4 (q := 49) cx (ct_X8_ahead hE hX hL hL6) (cwV 4 cx.1.2.2.2.2 gX8_chooses_X8_ahead rfl rfl rfl (by decide +kernel) ⟨Nat.le_of_ble_eq_true rfl, Nat.le_of_ble_eq_true rfl⟩) dX8_chooses_46 rfl rfl (in8 hX) rfl (Nat.le_of_ble_eq_true rfl) ⟨Nat.zero_le _, Nat.zero_le _⟩ rfl ?_
          refine A_if_ne (tgt := 57) (q := 52) cx dX8_chooses_49 (by decide) rfl (fun c_49 => ?_) (fun c_49 => ?_)
          · refine A_iload_n (q := 58) cx dX8_chooses_57 rfl rfl ?_
            refine A_istore_n (lv' := [some _, some _, some _, some _, some _]) (q := 59) cx dX8_chooses_58 (Nat.le_of_ble_eq_true rfl) rfl rfl ?_
            refine A_iinc (lv' := [some _, some _, some _, some _, some _]) (q := 62) cx dX8_chooses_59 rfl (nI_1 i) rfl rfl ?_
            refine A_goto (q := 21) cx dX8_chooses_62 (by decide) ?_
            first | exact ih (i + 1) (some i) (by omega) (by rw [← hF, mFstR]; simp only [*, if_true, if_false]) | exact ih (i + 1) r (by omega) (by rw [← hF, mFstR]; simp only [*, if_true, if_false])
          · refine A_iload (q := 54) cx dX8_chooses_52 rfl rfl ?_
            refine A_goto (q := 58) cx dX8_chooses_54 (by decide) ?_
            refine A_istore_n (lv' := [some _, some _, some _, some _, some _]) (q := 59) cx dX8_chooses_58 (Nat.le_of_ble_eq_true rfl) rfl rfl ?_
            refine A_iinc (lv' := [some _, some _, some _, some _, some _]) (q := 62) cx dX8_chooses_59 rfl (nI_1 i) rfl rfl ?_
            refine A_goto (q := 21) cx dX8_chooses_62 (by decide) ?_
            first | exact ih (i + 1) (some i) (by omega) (by rw [← hF, mFstR]; simp only [*, if_true, if_false]) | exact ih (i + 1) r (by omega) (by rw [← hF, mFstR]; simp only [*, if_true, if_false])
  refine A_aload_n (q := 1) cx dX8_chooses_0 rfl rfl rfl ?_
  refine A_iload_n (q := 2) cx dX8_chooses_1 rfl rfl ?_
  refine VI1 (q := 5) cx (ct_X8_doesDecide hE hX hL hL6) (cwV 1 cx.1.2.2.2.2 gX8_chooses_X8_doesDecide rfl rfl rfl (by decide +kernel) ⟨Nat.le_of_ble_eq_true rfl, Nat.le_of_ble_eq_true rfl⟩) dX8_chooses_2 rfl rfl (in8 hX) rfl (Nat.le_of_ble_eq_true rfl) ⟨Nat.zero_le _, Nat.zero_le _⟩ rfl ?_
  refine A_if_eq (tgt := 12) (q := 8) cx dX8_chooses_5 (by decide) rfl (fun c_5 => ?_) (fun c_5 => ?_)
  · refine A_bipush (v := 10) (q := 14) cx dX8_chooses_12 (by decide) rfl ?_
    refine A_istore_n (lv' := [some _, some _, some _, none, none]) (q := 15) cx dX8_chooses_14 (Nat.le_of_ble_eq_true rfl) rfl rfl ?_
    refine A_bipush (v := -4) (q := 17) cx dX8_chooses_15 (by decide) rfl ?_
    refine A_istore_n (lv' := [some _, some _, some _, some _, none]) (q := 18) cx dX8_chooses_17 (Nat.le_of_ble_eq_true rfl) rfl rfl ?_
    refine A_iconst (v := 0) (q := 19) cx dX8_chooses_18 (by decide) rfl ?_
    refine A_istore (lv' := [some _, some _, some _, some _, some _]) (q := 21) cx dX8_chooses_19 (Nat.le_of_ble_eq_true rfl) rfl rfl ?_
    first | exact l1 1 (by decide) (by unfold mBy; rw [if_neg c_5]) L 0 none (by omega) rfl | exact l1 10 (by decide) (by unfold mBy; rw [if_pos c_5]) L 0 none (by omega) rfl
  · refine A_iconst (v := 1) (q := 9) cx dX8_chooses_8 (by decide) rfl ?_
    refine A_goto (q := 14) cx dX8_chooses_9 (by decide) ?_
    refine A_istore_n (lv' := [some _, some _, some _, none, none]) (q := 15) cx dX8_chooses_14 (Nat.le_of_ble_eq_true rfl) rfl rfl ?_
    refine A_bipush (v := -4) (q := 17) cx dX8_chooses_15 (by decide) rfl ?_
    refine A_istore_n (lv' := [some _, some _, some _, some _, none]) (q := 18) cx dX8_chooses_17 (Nat.le_of_ble_eq_true rfl) rfl rfl ?_
    refine A_iconst (v := 0) (q := 19) cx dX8_chooses_18 (by decide) rfl ?_
    refine A_istore (lv' := [some _, some _, some _, some _, some _]) (q := 21) cx dX8_chooses_19 (Nat.le_of_ble_eq_true rfl) rfl rfl ?_
    first | exact l1 1 (by decide) (by unfold mBy; rw [if_neg c_5]) L 0 none (by omega) rfl | exact l1 10 (by decide) (by unfold mBy; rw [if_pos c_5]) L 0 none (by omega) rfl
theorem wi_X8_howOf_X8 : ∀ w ∈ u_ws RX8 TX8 18, w ∈ wsX8_howOf := by decide +kernel
theorem wf_X8_howOf_7 : Cond.fieldLink RX8 7 (TX8 3).1 (TX8 3).2.1 (TX8 3).2.2.1 ∈ wsX8_howOf := by decide +kernel
theorem wf_X8_howOf_86 : Cond.fieldLink RX8 86 (TX8 1).1 (TX8 1).2.1 (TX8 1).2.2.1 ∈ wsX8_howOf := by decide +kernel
set_option maxHeartbeats 1000000 in
set_option maxRecDepth 100000 in
theorem ct_X8_howOf {la : Launch} {E : Ev} (hE : okE E) (hX : yin E) {σ : Sg} {P l : Nat} (hP : P + 15 < 235 ∧ l < 6 := by omega) : CI la yX8_howOf wsX8_howOf 0 0 E rh0 [.ref (ad E (8, 0, 0, 0)), .int (nI P), .int (nI l)] σ (mHow σ P l) σ := by
  refine met_of (lv := [some _, some _, some _]) RX8 (by decide) rfl rfl rfl hE (ok3 rfl rfl rfl) (Nat.le_of_ble_eq_true rfl) (fun p ev s m args below meth c Q cx hlk hr hQ => ?_)
  refine A_aload_n (q := 1) cx dX8_howOf_0 rfl rfl rfl ?_
  refine gX8_3 (q := 4) cx wi_X8_howOf_X8 wf_X8_howOf_7 dX8_howOf_1 rfl (in8 hX) rfl rfl ?_
  refine A_iconst (v := 4) (q := 5) cx dX8_howOf_4 (by decide) rfl ?_
  refine A_iload_n (q := 6) cx dX8_howOf_5 rfl rfl ?_
  refine A_iadd (q := 7) cx dX8_howOf_6 rfl ?_
  refine A_iaload (q := 8) cx dX8_howOf_7 rfl (in9 hX (by decide)) (ixA (ixc 4) rfl) (by show _ < 235; omega) rfl ?_
  refine A_if_ne (tgt := 13) (q := 11) cx dX8_howOf_8 (by decide) rfl (fun c_8 => ?_) (fun c_8 => ?_)
  · refine A_aload_n (q := 14) cx dX8_howOf_13 rfl rfl rfl ?_
    refine gX8_3 (q := 17) cx wi_X8_howOf_X8 wf_X8_howOf_7 dX8_howOf_14 rfl (in8 hX) rfl rfl ?_
    refine A_iload_n (q := 18) cx dX8_howOf_17 rfl rfl ?_
    refine A_bipush (v := 8) (q := 20) cx dX8_howOf_18 (by decide) rfl ?_
    refine A_iadd (q := 21) cx dX8_howOf_20 rfl ?_
    refine A_iaload (q := 22) cx dX8_howOf_21 rfl (in9 hX (by decide)) (ixA rfl (ixc 8)) (by show _ < 235; omega) rfl ?_
    refine A_bipush (v := -4) (q := 24) cx dX8_howOf_22 (by decide) rfl ?_
    refine A_icmp_ne (tgt := 29) (q := 27) cx dX8_howOf_24 (by decide) rfl (fun c_24 => ?_) (fun c_24 => ?_)
    · refine A_aload_n (q := 30) cx dX8_howOf_29 rfl rfl rfl ?_
      refine gX8_3 (q := 33) cx wi_X8_howOf_X8 wf_X8_howOf_7 dX8_howOf_30 rfl (in8 hX) rfl rfl ?_
      refine A_iload_n (q := 34) cx dX8_howOf_33 rfl rfl ?_
      refine A_bipush (v := 13) (q := 36) cx dX8_howOf_34 (by decide) rfl ?_
      refine A_iadd (q := 37) cx dX8_howOf_36 rfl ?_
      refine A_iaload (q := 38) cx dX8_howOf_37 rfl (in9 hX (by decide)) (ixA rfl (ixc 13)) (by show _ < 235; omega) rfl ?_
      refine A_bipush (v := -4) (q := 40) cx dX8_howOf_38 (by decide) rfl ?_
      refine A_icmp_ne (tgt := 45) (q := 43) cx dX8_howOf_40 (by decide) rfl (fun c_40 => ?_) (fun c_40 => ?_)
      · refine A_aload_n (q := 46) cx dX8_howOf_45 rfl rfl rfl ?_
        refine gX8_3 (q := 49) cx wi_X8_howOf_X8 wf_X8_howOf_7 dX8_howOf_46 rfl (in8 hX) rfl rfl ?_
        refine A_iload_n (q := 50) cx dX8_howOf_49 rfl rfl ?_
        refine A_bipush (v := 13) (q := 52) cx dX8_howOf_50 (by decide) rfl ?_
        refine A_iadd (q := 53) cx dX8_howOf_52 rfl ?_
        refine A_iaload (q := 54) cx dX8_howOf_53 rfl (in9 hX (by decide)) (ixA rfl (ixc 13)) (by show _ < 235; omega) rfl ?_
        refine A_aload_n (q := 55) cx dX8_howOf_54 rfl rfl rfl ?_
        refine gX8_1 (q := 58) cx wi_X8_howOf_X8 wf_X8_howOf_86 dX8_howOf_55 rfl (in8 hX) rfl ?_
        refine A_icmp_ge (tgt := 65) (q := 61) cx dX8_howOf_58 (by decide) rfl (fun c_58 => ?_) (fun c_58 => ?_)
        · refine A_aload_n (q := 66) cx dX8_howOf_65 rfl rfl rfl ?_
          refine gX8_3 (q := 69) cx wi_X8_howOf_X8 wf_X8_howOf_7 dX8_howOf_66 rfl (in8 hX) rfl rfl ?_
          refine A_iload_n (q := 70) cx dX8_howOf_69 rfl rfl ?_
          refine A_bipush (v := 12) (q := 72) cx dX8_howOf_70 (by decide) rfl ?_
          refine A_iadd (q := 73) cx dX8_howOf_72 rfl ?_
          refine A_iaload (q := 74) cx dX8_howOf_73 rfl (in9 hX (by decide)) (ixA rfl (ixc 12)) (by show _ < 235; omega) rfl ?_
          refine A_if_ne (tgt := 81) (q := 77) cx dX8_howOf_74 (by decide) rfl (fun c_74 => ?_) (fun c_74 => ?_)
          · refine A_iconst (v := 5) (q := 82) cx dX8_howOf_81 (by decide) rfl ?_
            exact A_iret cx hlk hr hQ dX8_howOf_82 (by first | (simp only [mHow, *, if_true, if_false, ite_true, ite_false, true_or, or_true, false_or, or_false, and_true, true_and, and_false, false_and, and_self, or_self, not_true_eq_false, not_false_eq_true, ne_eq, reduceIte, decide_true, decide_false, Bool.and_true, Bool.true_and, Bool.and_false, Bool.false_and]; done) | (simp [mHow, *]; done) | (simp_all [mHow]; done)) rfl
          · refine A_iconst (v := 4) (q := 78) cx dX8_howOf_77 (by decide) rfl ?_
            refine A_goto (q := 82) cx dX8_howOf_78 (by decide) ?_
            exact A_iret cx hlk hr hQ dX8_howOf_82 (by first | (simp only [mHow, *, if_true, if_false, ite_true, ite_false, true_or, or_true, false_or, or_false, and_true, true_and, and_false, false_and, and_self, or_self, not_true_eq_false, not_false_eq_true, ne_eq, reduceIte, decide_true, decide_false, Bool.and_true, Bool.true_and, Bool.and_false, Bool.false_and]; done) | (simp [mHow, *]; done) | (simp_all [mHow]; done)) rfl
        · refine A_iconst (v := 3) (q := 62) cx dX8_howOf_61 (by decide) rfl ?_
          refine A_goto (q := 82) cx dX8_howOf_62 (by decide) ?_
          exact A_iret cx hlk hr hQ dX8_howOf_82 (by first | (simp only [mHow, *, if_true, if_false, ite_true, ite_false, true_or, or_true, false_or, or_false, and_true, true_and, and_false, false_and, and_self, or_self, not_true_eq_false, not_false_eq_true, ne_eq, reduceIte, decide_true, decide_false, Bool.and_true, Bool.true_and, Bool.and_false, Bool.false_and]; done) | (simp [mHow, *]; done) | (simp_all [mHow]; done)) rfl
      · refine A_iconst (v := 2) (q := 44) cx dX8_howOf_43 (by decide) rfl ?_
        exact A_iret cx hlk hr hQ dX8_howOf_44 (by first | (simp only [mHow, *, if_true, if_false, ite_true, ite_false, true_or, or_true, false_or, or_false, and_true, true_and, and_false, false_and, and_self, or_self, not_true_eq_false, not_false_eq_true, ne_eq, reduceIte, decide_true, decide_false, Bool.and_true, Bool.true_and, Bool.and_false, Bool.false_and]; done) | (simp [mHow, *]; done) | (simp_all [mHow]; done)) rfl
    · refine A_iconst (v := 1) (q := 28) cx dX8_howOf_27 (by decide) rfl ?_
      exact A_iret cx hlk hr hQ dX8_howOf_28 (by first | (simp only [mHow, *, if_true, if_false, ite_true, ite_false, true_or, or_true, false_or, or_false, and_true, true_and, and_false, false_and, and_self, or_self, not_true_eq_false, not_false_eq_true, ne_eq, reduceIte, decide_true, decide_false, Bool.and_true, Bool.true_and, Bool.and_false, Bool.false_and]; done) | (simp [mHow, *]; done) | (simp_all [mHow]; done)) rfl
  · refine A_iconst (v := 0) (q := 12) cx dX8_howOf_11 (by decide) rfl ?_
    exact A_iret cx hlk hr hQ dX8_howOf_12 (by first | (simp only [mHow, *, if_true, if_false, ite_true, ite_false, true_or, or_true, false_or, or_false, and_true, true_and, and_false, false_and, and_self, or_self, not_true_eq_false, not_false_eq_true, ne_eq, reduceIte, decide_true, decide_false, Bool.and_true, Bool.true_and, Bool.and_false, Bool.false_and]; done) | (simp [mHow, *]; done) | (simp_all [mHow]; done)) rfl
theorem wi_X8_becomesHow_X8 : ∀ w ∈ u_ws RX8 TX8 18, w ∈ wsX8_becomesHow := by decide +kernel
theorem wf_X8_becomesHow_83 : Cond.fieldLink RX8 83 (TX8 0).1 (TX8 0).2.1 (TX8 0).2.2.1 ∈ wsX8_becomesHow := by decide +kernel
theorem wf_X8_becomesHow_7 : Cond.fieldLink RX8 7 (TX8 3).1 (TX8 3).2.1 (TX8 3).2.2.1 ∈ wsX8_becomesHow := by decide +kernel
theorem wf_X8_becomesHow_37 : Cond.fieldLink RX8 37 (TX8 16).1 (TX8 16).2.1 (TX8 16).2.2.1 ∈ wsX8_becomesHow := by decide +kernel
set_option maxHeartbeats 1000000 in
set_option maxRecDepth 100000 in
theorem ct_X8_becomesHow {la : Launch} {E : Ev} (hE : okE E) (hX : yin E) {σ0 : Sg} {e L : Nat} (hL : σ0 (8, 0, 0, 0) 0 = nI L) (hL6 : L ≤ 6) (he : e < 2 := by omega) : CV la yX8_becomesHow wsX8_becomesHow 4 97 E rh0 [.ref (ad E (8, 0, 0, 0)), .int (nI e)] σ0 (mBec σ0 e L) := by
  refine met_of (lv := [some _, some _, none, none, none]) RX8 (by decide) rfl rfl rfl hE (ok2 rfl rfl) (Nat.le_of_ble_eq_true rfl) (fun p ev s m args below meth c Q cx hlk hr hQ => ?_)
  have l1 : ∀ (d i : Nat) (σ : Sg), i + d = L → σ (8, 0, 0, 0) 0 = nI L → mBhR e d i σ = mBec σ0 e L → AW p la ev (rmm 4 97) s m args below meth c 0 0 Q (AL E) E rh0 7 [some (.ref (ad E (8, 0, 0, 0))), some (.int (nI e)), some (.int (nI i)), none, none] [] σ := by
    intro d
    induction d with
    | zero =>
      intro i σ hi hL2 hF
      refine A_iload_n (q := 8) cx dX8_becomesHow_7 rfl rfl ?_
      refine A_aload_n (q := 9) cx dX8_becomesHow_8 rfl rfl rfl ?_
      refine gX8_0 (q := 12) cx wi_X8_becomesHow_X8 wf_X8_becomesHow_83 dX8_becomesHow_9 rfl (in8 hX) rfl ?_
      refine A_icmp_ge (tgt := 141) (q := 15) cx dX8_becomesHow_12 (by decide) rfl (fun c_12 => ?_) (fun c_12 => ?_)
      · exact A_vret cx hlk hr hQ dX8_becomesHow_141 hF
      · exact absurd (lge hL2 (by omega) (by omega)) c_12
    | succ d ih =>
      intro i σ hi hL2 hF
      refine A_iload_n (q := 8) cx dX8_becomesHow_7 rfl rfl ?_
      refine A_aload_n (q := 9) cx dX8_becomesHow_8 rfl rfl rfl ?_
      refine gX8_0 (q := 12) cx wi_X8_becomesHow_X8 wf_X8_becomesHow_83 dX8_becomesHow_9 rfl (in8 hX) rfl ?_
      refine A_icmp_ge (tgt := 141) (q := 15) cx dX8_becomesHow_12 (by decide) rfl (fun c_12 => ?_) (fun c_12 => ?_)
      · exact absurd c_12 (lnge hL2 (by omega) (by omega))
      · refine A_iload_n (q := 16) cx dX8_becomesHow_15 rfl rfl ?_
        refine A_iload_n (q := 17) cx dX8_becomesHow_16 rfl rfl ?_
        refine SI2 (q := 20) cx (ct_X8_place hE hX) (cwS 2 cx.1.2.2.2.2 gX8_becomesHow_X8_place rfl rfl rfl (by decide +kernel) ⟨Nat.le_of_ble_eq_true rfl, Nat.le_of_ble_eq_true rfl⟩) dX8_becomesHow_17 rfl (Nat.le_of_ble_eq_true rfl) ⟨Nat.zero_le _, Nat.zero_le _⟩ rfl ?_
        refine A_istore_n (lv' := [some _, some _, some _, some _, none]) (q := 21) cx dX8_becomesHow_20 (Nat.le_of_ble_eq_true rfl) rfl rfl ?_
        refine A_aload_n (q := 22) cx dX8_becomesHow_21 rfl rfl rfl ?_
        refine gX8_3 (q := 25) cx wi_X8_becomesHow_X8 wf_X8_becomesHow_7 dX8_becomesHow_22 rfl (in8 hX) rfl rfl ?_
        refine A_iload_n (q := 26) cx dX8_becomesHow_25 rfl rfl ?_
        refine A_bipush (v := 13) (q := 28) cx dX8_becomesHow_26 (by decide) rfl ?_
        refine A_iadd (q := 29) cx dX8_becomesHow_28 rfl ?_
        refine A_aload_n (q := 30) cx dX8_becomesHow_29 rfl rfl rfl ?_
        refine gX8_16 (q := 33) cx wi_X8_becomesHow_X8 wf_X8_becomesHow_37 dX8_becomesHow_30 rfl (in8 hX) rfl rfl ?_
        refine A_iload_n (q := 34) cx dX8_becomesHow_33 rfl rfl ?_
        refine A_baload (q := 35) cx dX8_becomesHow_34 rfl (in10 hX) rfl (by show _ < 6; first | omega | (simp only [pl]; omega)) rfl ?_
        refine A_if_ne (tgt := 43) (q := 38) cx dX8_becomesHow_35 (by decide) rfl (fun c_35 => ?_) (fun c_35 => ?_)
        · refine A_aload_n (q := 44) cx dX8_becomesHow_43 rfl rfl rfl ?_
          refine gX8_3 (q := 47) cx wi_X8_becomesHow_X8 wf_X8_becomesHow_7 dX8_becomesHow_44 rfl (in8 hX) rfl rfl ?_
          refine A_iload_n (q := 48) cx dX8_becomesHow_47 rfl rfl ?_
          refine A_bipush (v := 13) (q := 50) cx dX8_becomesHow_48 (by decide) rfl ?_
          refine A_iadd (q := 51) cx dX8_becomesHow_50 rfl ?_
          refine A_iaload (q := 52) cx dX8_becomesHow_51 rfl (in9 hX (by decide)) (ixA rfl (ixc 13)) (by show _ < 235; first | omega | (simp only [pl]; omega)) rfl ?_
          refine A_bipush (v := -4) (q := 54) cx dX8_becomesHow_52 (by decide) rfl ?_
          refine A_icmp_ne (tgt := 61) (q := 57) cx dX8_becomesHow_54 (by decide) rfl (fun c_54 => ?_) (fun c_54 => ?_)
          · refine A_aload_n (q := 62) cx dX8_becomesHow_61 rfl rfl rfl ?_
            refine gX8_3 (q := 65) cx wi_X8_becomesHow_X8 wf_X8_becomesHow_7 dX8_becomesHow_62 rfl (in8 hX) rfl rfl ?_
            refine A_iload_n (q := 66) cx dX8_becomesHow_65 rfl rfl ?_
            refine A_bipush (v := 13) (q := 68) cx dX8_becomesHow_66 (by decide) rfl ?_
            refine A_iadd (q := 69) cx dX8_becomesHow_68 rfl ?_
            refine A_iaload (q := 70) cx dX8_becomesHow_69 rfl (in9 hX (by decide)) (ixA rfl (ixc 13)) (by show _ < 235; first | omega | (simp only [pl]; omega)) rfl ?_
            refine A_iconst (v := 1) (q := 71) cx dX8_becomesHow_70 (by decide) rfl ?_
            refine A_iadd (q := 72) cx dX8_becomesHow_71 rfl ?_
            refine A_iastore (q := 73) cx dX8_becomesHow_72 rfl (in9 hX (by decide)) (ixA rfl (ixc 13)) (by show _ < 235; first | omega | (simp only [pl]; omega)) rfl ?_
            refine A_aload_n (q := 74) cx dX8_becomesHow_73 rfl rfl rfl ?_
            refine gX8_3 (q := 77) cx wi_X8_becomesHow_X8 wf_X8_becomesHow_7 dX8_becomesHow_74 rfl (in8 hX) rfl rfl ?_
            refine A_iload_n (q := 78) cx dX8_becomesHow_77 rfl rfl ?_
            refine A_bipush (v := 14) (q := 80) cx dX8_becomesHow_78 (by decide) rfl ?_
            refine A_iadd (q := 81) cx dX8_becomesHow_80 rfl ?_
            refine A_iaload (q := 82) cx dX8_becomesHow_81 rfl (in9 hX (by decide)) (ixA rfl (ixc 14)) (by show _ < 235; first | omega | (simp only [pl]; omega)) rfl ?_
            refine A_istore (lv' := [some _, some _, some _, some _, some _]) (q := 84) cx dX8_becomesHow_82 (Nat.le_of_ble_eq_true rfl) rfl rfl ?_
            refine A_aload_n (q := 85) cx dX8_becomesHow_84 rfl rfl rfl ?_
            refine gX8_3 (q := 88) cx wi_X8_becomesHow_X8 wf_X8_becomesHow_7 dX8_becomesHow_85 rfl (in8 hX) rfl rfl ?_
            refine A_iload_n (q := 89) cx dX8_becomesHow_88 rfl rfl ?_
            refine A_bipush (v := 14) (q := 91) cx dX8_becomesHow_89 (by decide) rfl ?_
            refine A_iadd (q := 92) cx dX8_becomesHow_91 rfl ?_
            refine A_aload_n (q := 93) cx dX8_becomesHow_92 rfl rfl rfl ?_
            refine A_iload_n (q := 94) cx dX8_becomesHow_93 rfl rfl ?_
            refine A_iload_n (q := 95) cx dX8_becomesHow_94 rfl rfl ?_
            refine VI2 (q := 98) cx (ct_X8_howOf hE hX (by simp only [pl]; omega)) (cwV 2 cx.1.2.2.2.2 gX8_becomesHow_X8_howOf rfl rfl rfl (by decide +kernel) ⟨Nat.le_of_ble_eq_true rfl, Nat.le_of_ble_eq_true rfl⟩) dX8_becomesHow_95 rfl rfl (in8 hX) rfl (Nat.le_of_ble_eq_true rfl) ⟨Nat.zero_le _, Nat.zero_le _⟩ rfl ?_
            refine A_iastore (q := 99) cx dX8_becomesHow_98 rfl (in9 hX (by decide)) (ixA rfl (ixc 14)) (by show _ < 235; first | omega | (simp only [pl]; omega)) rfl ?_
            refine A_aload_n (q := 100) cx dX8_becomesHow_99 rfl rfl rfl ?_
            refine gX8_3 (q := 103) cx wi_X8_becomesHow_X8 wf_X8_becomesHow_7 dX8_becomesHow_100 rfl (in8 hX) rfl rfl ?_
            refine A_iload_n (q := 104) cx dX8_becomesHow_103 rfl rfl ?_
            refine A_bipush (v := 15) (q := 106) cx dX8_becomesHow_104 (by decide) rfl ?_
            refine A_iadd (q := 107) cx dX8_becomesHow_106 rfl ?_
            refine A_dup2 (q := 108) cx dX8_becomesHow_107 rfl rfl rfl ?_
            refine A_iaload (q := 109) cx dX8_becomesHow_108 rfl (in9 hX (by decide)) (ixA rfl (ixc 15)) (by show _ < 235; first | omega | (simp only [pl]; omega)) rfl ?_
            refine A_aload_n (q := 110) cx dX8_becomesHow_109 rfl rfl rfl ?_
            refine gX8_3 (q := 113) cx wi_X8_becomesHow_X8 wf_X8_becomesHow_7 dX8_becomesHow_110 rfl (in8 hX) rfl rfl ?_
            refine A_iload_n (q := 114) cx dX8_becomesHow_113 rfl rfl ?_
            refine A_bipush (v := 14) (q := 116) cx dX8_becomesHow_114 (by decide) rfl ?_
            refine A_iadd (q := 117) cx dX8_becomesHow_116 rfl ?_
            refine A_iaload (q := 118) cx dX8_becomesHow_117 rfl (in9 hX (by decide)) (ixA rfl (ixc 14)) (by show _ < 235; first | omega | (simp only [pl]; omega)) rfl ?_
            refine A_iconst (v := 5) (q := 119) cx dX8_becomesHow_118 (by decide) rfl ?_
            refine A_icmp_ne (tgt := 132) (q := 122) cx dX8_becomesHow_119 (by decide) rfl (fun c_119 => ?_) (fun c_119 => ?_)
            · refine A_iconst (v := 0) (q := 133) cx dX8_becomesHow_132 (by decide) rfl ?_
              refine A_iadd (q := 134) cx dX8_becomesHow_133 rfl ?_
              refine A_iastore (q := 135) cx dX8_becomesHow_134 rfl (in9 hX (by decide)) (ixA rfl (ixc 15)) (by show _ < 235; first | omega | (simp only [pl]; omega)) rfl ?_
              refine A_iinc (lv' := [some _, some _, some _, some _, some _]) (q := 138) cx dX8_becomesHow_135 rfl (nI_1 i) rfl rfl ?_
              refine A_goto (q := 7) cx dX8_becomesHow_138 (by decide) ?_
              exact A_drop 3 rfl (A_drop 4 rfl (ih (i + 1) _ (by omega) hL2 (by rw [← hF, mBhR]; simp only [mBh, mBh1, mBh2, mBh3, *, if_true, if_false])))
            · refine A_iload (q := 124) cx dX8_becomesHow_122 rfl rfl ?_
              refine A_iconst (v := 5) (q := 125) cx dX8_becomesHow_124 (by decide) rfl ?_
              refine A_icmp_eq (tgt := 132) (q := 128) cx dX8_becomesHow_125 (by decide) rfl (fun c_125 => ?_) (fun c_125 => ?_)
              · refine A_iconst (v := 0) (q := 133) cx dX8_becomesHow_132 (by decide) rfl ?_
                refine A_iadd (q := 134) cx dX8_becomesHow_133 rfl ?_
                refine A_iastore (q := 135) cx dX8_becomesHow_134 rfl (in9 hX (by decide)) (ixA rfl (ixc 15)) (by show _ < 235; first | omega | (simp only [pl]; omega)) rfl ?_
                refine A_iinc (lv' := [some _, some _, some _, some _, some _]) (q := 138) cx dX8_becomesHow_135 rfl (nI_1 i) rfl rfl ?_
                refine A_goto (q := 7) cx dX8_becomesHow_138 (by decide) ?_
                exact A_drop 3 rfl (A_drop 4 rfl (ih (i + 1) _ (by omega) hL2 (by rw [← hF, mBhR]; simp only [mBh, mBh1, mBh2, mBh3, *, if_true, if_false])))
              · refine A_iconst (v := 1) (q := 129) cx dX8_becomesHow_128 (by decide) rfl ?_
                refine A_goto (q := 133) cx dX8_becomesHow_129 (by decide) ?_
                refine A_iadd (q := 134) cx dX8_becomesHow_133 rfl ?_
                refine A_iastore (q := 135) cx dX8_becomesHow_134 rfl (in9 hX (by decide)) (ixA rfl (ixc 15)) (by show _ < 235; first | omega | (simp only [pl]; omega)) rfl ?_
                refine A_iinc (lv' := [some _, some _, some _, some _, some _]) (q := 138) cx dX8_becomesHow_135 rfl (nI_1 i) rfl rfl ?_
                refine A_goto (q := 7) cx dX8_becomesHow_138 (by decide) ?_
                exact A_drop 3 rfl (A_drop 4 rfl (ih (i + 1) _ (by omega) hL2 (by rw [← hF, mBhR]; simp only [mBh, mBh1, mBh2, mBh3, *, if_true, if_false])))
          · refine A_iconst (v := 0) (q := 58) cx dX8_becomesHow_57 (by decide) rfl ?_
            refine A_goto (q := 72) cx dX8_becomesHow_58 (by decide) ?_
            refine A_iastore (q := 73) cx dX8_becomesHow_72 rfl (in9 hX (by decide)) (ixA rfl (ixc 13)) (by show _ < 235; first | omega | (simp only [pl]; omega)) rfl ?_
            refine A_aload_n (q := 74) cx dX8_becomesHow_73 rfl rfl rfl ?_
            refine gX8_3 (q := 77) cx wi_X8_becomesHow_X8 wf_X8_becomesHow_7 dX8_becomesHow_74 rfl (in8 hX) rfl rfl ?_
            refine A_iload_n (q := 78) cx dX8_becomesHow_77 rfl rfl ?_
            refine A_bipush (v := 14) (q := 80) cx dX8_becomesHow_78 (by decide) rfl ?_
            refine A_iadd (q := 81) cx dX8_becomesHow_80 rfl ?_
            refine A_iaload (q := 82) cx dX8_becomesHow_81 rfl (in9 hX (by decide)) (ixA rfl (ixc 14)) (by show _ < 235; first | omega | (simp only [pl]; omega)) rfl ?_
            refine A_istore (lv' := [some _, some _, some _, some _, some _]) (q := 84) cx dX8_becomesHow_82 (Nat.le_of_ble_eq_true rfl) rfl rfl ?_
            refine A_aload_n (q := 85) cx dX8_becomesHow_84 rfl rfl rfl ?_
            refine gX8_3 (q := 88) cx wi_X8_becomesHow_X8 wf_X8_becomesHow_7 dX8_becomesHow_85 rfl (in8 hX) rfl rfl ?_
            refine A_iload_n (q := 89) cx dX8_becomesHow_88 rfl rfl ?_
            refine A_bipush (v := 14) (q := 91) cx dX8_becomesHow_89 (by decide) rfl ?_
            refine A_iadd (q := 92) cx dX8_becomesHow_91 rfl ?_
            refine A_aload_n (q := 93) cx dX8_becomesHow_92 rfl rfl rfl ?_
            refine A_iload_n (q := 94) cx dX8_becomesHow_93 rfl rfl ?_
            refine A_iload_n (q := 95) cx dX8_becomesHow_94 rfl rfl ?_
            refine VI2 (q := 98) cx (ct_X8_howOf hE hX (by simp only [pl]; omega)) (cwV 2 cx.1.2.2.2.2 gX8_becomesHow_X8_howOf rfl rfl rfl (by decide +kernel) ⟨Nat.le_of_ble_eq_true rfl, Nat.le_of_ble_eq_true rfl⟩) dX8_becomesHow_95 rfl rfl (in8 hX) rfl (Nat.le_of_ble_eq_true rfl) ⟨Nat.zero_le _, Nat.zero_le _⟩ rfl ?_
            refine A_iastore (q := 99) cx dX8_becomesHow_98 rfl (in9 hX (by decide)) (ixA rfl (ixc 14)) (by show _ < 235; first | omega | (simp only [pl]; omega)) rfl ?_
            refine A_aload_n (q := 100) cx dX8_becomesHow_99 rfl rfl rfl ?_
            refine gX8_3 (q := 103) cx wi_X8_becomesHow_X8 wf_X8_becomesHow_7 dX8_becomesHow_100 rfl (in8 hX) rfl rfl ?_
            refine A_iload_n (q := 104) cx dX8_becomesHow_103 rfl rfl ?_
            refine A_bipush (v := 15) (q := 106) cx dX8_becomesHow_104 (by decide) rfl ?_
            refine A_iadd (q := 107) cx dX8_becomesHow_106 rfl ?_
            refine A_dup2 (q := 108) cx dX8_becomesHow_107 rfl rfl rfl ?_
            refine A_iaload (q := 109) cx dX8_becomesHow_108 rfl (in9 hX (by decide)) (ixA rfl (ixc 15)) (by show _ < 235; first | omega | (simp only [pl]; omega)) rfl ?_
            refine A_aload_n (q := 110) cx dX8_becomesHow_109 rfl rfl rfl ?_
            refine gX8_3 (q := 113) cx wi_X8_becomesHow_X8 wf_X8_becomesHow_7 dX8_becomesHow_110 rfl (in8 hX) rfl rfl ?_
            refine A_iload_n (q := 114) cx dX8_becomesHow_113 rfl rfl ?_
            refine A_bipush (v := 14) (q := 116) cx dX8_becomesHow_114 (by decide) rfl ?_
            refine A_iadd (q := 117) cx dX8_becomesHow_116 rfl ?_
            refine A_iaload (q := 118) cx dX8_becomesHow_117 rfl (in9 hX (by decide)) (ixA rfl (ixc 14)) (by show _ < 235; first | omega | (simp only [pl]; omega)) rfl ?_
            refine A_iconst (v := 5) (q := 119) cx dX8_becomesHow_118 (by decide) rfl ?_
            refine A_icmp_ne (tgt := 132) (q := 122) cx dX8_becomesHow_119 (by decide) rfl (fun c_119 => ?_) (fun c_119 => ?_)
            · refine A_iconst (v := 0) (q := 133) cx dX8_becomesHow_132 (by decide) rfl ?_
              refine A_iadd (q := 134) cx dX8_becomesHow_133 rfl ?_
              refine A_iastore (q := 135) cx dX8_becomesHow_134 rfl (in9 hX (by decide)) (ixA rfl (ixc 15)) (by show _ < 235; first | omega | (simp only [pl]; omega)) rfl ?_
              refine A_iinc (lv' := [some _, some _, some _, some _, some _]) (q := 138) cx dX8_becomesHow_135 rfl (nI_1 i) rfl rfl ?_
              refine A_goto (q := 7) cx dX8_becomesHow_138 (by decide) ?_
              exact A_drop 3 rfl (A_drop 4 rfl (ih (i + 1) _ (by omega) hL2 (by rw [← hF, mBhR]; simp only [mBh, mBh1, mBh2, mBh3, *, if_true, if_false])))
            · refine A_iload (q := 124) cx dX8_becomesHow_122 rfl rfl ?_
              refine A_iconst (v := 5) (q := 125) cx dX8_becomesHow_124 (by decide) rfl ?_
              refine A_icmp_eq (tgt := 132) (q := 128) cx dX8_becomesHow_125 (by decide) rfl (fun c_125 => ?_) (fun c_125 => ?_)
              · refine A_iconst (v := 0) (q := 133) cx dX8_becomesHow_132 (by decide) rfl ?_
                refine A_iadd (q := 134) cx dX8_becomesHow_133 rfl ?_
                refine A_iastore (q := 135) cx dX8_becomesHow_134 rfl (in9 hX (by decide)) (ixA rfl (ixc 15)) (by show _ < 235; first | omega | (simp only [pl]; omega)) rfl ?_
                refine A_iinc (lv' := [some _, some _, some _, some _, some _]) (q := 138) cx dX8_becomesHow_135 rfl (nI_1 i) rfl rfl ?_
                refine A_goto (q := 7) cx dX8_becomesHow_138 (by decide) ?_
                exact A_drop 3 rfl (A_drop 4 rfl (ih (i + 1) _ (by omega) hL2 (by rw [← hF, mBhR]; simp only [mBh, mBh1, mBh2, mBh3, *, if_true, if_false])))
              · refine A_iconst (v := 1) (q := 129) cx dX8_becomesHow_128 (by decide) rfl ?_
                refine A_goto (q := 133) cx dX8_becomesHow_129 (by decide) ?_
                refine A_iadd (q := 134) cx dX8_becomesHow_133 rfl ?_
                refine A_iastore (q := 135) cx dX8_becomesHow_134 rfl (in9 hX (by decide)) (ixA rfl (ixc 15)) (by show _ < 235; first | omega | (simp only [pl]; omega)) rfl ?_
                refine A_iinc (lv' := [some _, some _, some _, some _, some _]) (q := 138) cx dX8_becomesHow_135 rfl (nI_1 i) rfl rfl ?_
                refine A_goto (q := 7) cx dX8_becomesHow_138 (by decide) ?_
                exact A_drop 3 rfl (A_drop 4 rfl (ih (i + 1) _ (by omega) hL2 (by rw [← hF, mBhR]; simp only [mBh, mBh1, mBh2, mBh3, *, if_true, if_false])))
        · refine A_bipush (v := -4) (q := 40) cx dX8_becomesHow_38 (by decide) rfl ?_
          refine A_goto (q := 72) cx dX8_becomesHow_40 (by decide) ?_
          refine A_iastore (q := 73) cx dX8_becomesHow_72 rfl (in9 hX (by decide)) (ixA rfl (ixc 13)) (by show _ < 235; first | omega | (simp only [pl]; omega)) rfl ?_
          refine A_aload_n (q := 74) cx dX8_becomesHow_73 rfl rfl rfl ?_
          refine gX8_3 (q := 77) cx wi_X8_becomesHow_X8 wf_X8_becomesHow_7 dX8_becomesHow_74 rfl (in8 hX) rfl rfl ?_
          refine A_iload_n (q := 78) cx dX8_becomesHow_77 rfl rfl ?_
          refine A_bipush (v := 14) (q := 80) cx dX8_becomesHow_78 (by decide) rfl ?_
          refine A_iadd (q := 81) cx dX8_becomesHow_80 rfl ?_
          refine A_iaload (q := 82) cx dX8_becomesHow_81 rfl (in9 hX (by decide)) (ixA rfl (ixc 14)) (by show _ < 235; first | omega | (simp only [pl]; omega)) rfl ?_
          refine A_istore (lv' := [some _, some _, some _, some _, some _]) (q := 84) cx dX8_becomesHow_82 (Nat.le_of_ble_eq_true rfl) rfl rfl ?_
          refine A_aload_n (q := 85) cx dX8_becomesHow_84 rfl rfl rfl ?_
          refine gX8_3 (q := 88) cx wi_X8_becomesHow_X8 wf_X8_becomesHow_7 dX8_becomesHow_85 rfl (in8 hX) rfl rfl ?_
          refine A_iload_n (q := 89) cx dX8_becomesHow_88 rfl rfl ?_
          refine A_bipush (v := 14) (q := 91) cx dX8_becomesHow_89 (by decide) rfl ?_
          refine A_iadd (q := 92) cx dX8_becomesHow_91 rfl ?_
          refine A_aload_n (q := 93) cx dX8_becomesHow_92 rfl rfl rfl ?_
          refine A_iload_n (q := 94) cx dX8_becomesHow_93 rfl rfl ?_
          refine A_iload_n (q := 95) cx dX8_becomesHow_94 rfl rfl ?_
          refine VI2 (q := 98) cx (ct_X8_howOf hE hX (by simp only [pl]; omega)) (cwV 2 cx.1.2.2.2.2 gX8_becomesHow_X8_howOf rfl rfl rfl (by decide +kernel) ⟨Nat.le_of_ble_eq_true rfl, Nat.le_of_ble_eq_true rfl⟩) dX8_becomesHow_95 rfl rfl (in8 hX) rfl (Nat.le_of_ble_eq_true rfl) ⟨Nat.zero_le _, Nat.zero_le _⟩ rfl ?_
          refine A_iastore (q := 99) cx dX8_becomesHow_98 rfl (in9 hX (by decide)) (ixA rfl (ixc 14)) (by show _ < 235; first | omega | (simp only [pl]; omega)) rfl ?_
          refine A_aload_n (q := 100) cx dX8_becomesHow_99 rfl rfl rfl ?_
          refine gX8_3 (q := 103) cx wi_X8_becomesHow_X8 wf_X8_becomesHow_7 dX8_becomesHow_100 rfl (in8 hX) rfl rfl ?_
          refine A_iload_n (q := 104) cx dX8_becomesHow_103 rfl rfl ?_
          refine A_bipush (v := 15) (q := 106) cx dX8_becomesHow_104 (by decide) rfl ?_
          refine A_iadd (q := 107) cx dX8_becomesHow_106 rfl ?_
          refine A_dup2 (q := 108) cx dX8_becomesHow_107 rfl rfl rfl ?_
          refine A_iaload (q := 109) cx dX8_becomesHow_108 rfl (in9 hX (by decide)) (ixA rfl (ixc 15)) (by show _ < 235; first | omega | (simp only [pl]; omega)) rfl ?_
          refine A_aload_n (q := 110) cx dX8_becomesHow_109 rfl rfl rfl ?_
          refine gX8_3 (q := 113) cx wi_X8_becomesHow_X8 wf_X8_becomesHow_7 dX8_becomesHow_110 rfl (in8 hX) rfl rfl ?_
          refine A_iload_n (q := 114) cx dX8_becomesHow_113 rfl rfl ?_
          refine A_bipush (v := 14) (q := 116) cx dX8_becomesHow_114 (by decide) rfl ?_
          refine A_iadd (q := 117) cx dX8_becomesHow_116 rfl ?_
          refine A_iaload (q := 118) cx dX8_becomesHow_117 rfl (in9 hX (by decide)) (ixA rfl (ixc 14)) (by show _ < 235; first | omega | (simp only [pl]; omega)) rfl ?_
          refine A_iconst (v := 5) (q := 119) cx dX8_becomesHow_118 (by decide) rfl ?_
          refine A_icmp_ne (tgt := 132) (q := 122) cx dX8_becomesHow_119 (by decide) rfl (fun c_119 => ?_) (fun c_119 => ?_)
          · refine A_iconst (v := 0) (q := 133) cx dX8_becomesHow_132 (by decide) rfl ?_
            refine A_iadd (q := 134) cx dX8_becomesHow_133 rfl ?_
            refine A_iastore (q := 135) cx dX8_becomesHow_134 rfl (in9 hX (by decide)) (ixA rfl (ixc 15)) (by show _ < 235; first | omega | (simp only [pl]; omega)) rfl ?_
            refine A_iinc (lv' := [some _, some _, some _, some _, some _]) (q := 138) cx dX8_becomesHow_135 rfl (nI_1 i) rfl rfl ?_
            refine A_goto (q := 7) cx dX8_becomesHow_138 (by decide) ?_
            exact A_drop 3 rfl (A_drop 4 rfl (ih (i + 1) _ (by omega) hL2 (by rw [← hF, mBhR]; simp only [mBh, mBh1, mBh2, mBh3, *, if_true, if_false])))
          · refine A_iload (q := 124) cx dX8_becomesHow_122 rfl rfl ?_
            refine A_iconst (v := 5) (q := 125) cx dX8_becomesHow_124 (by decide) rfl ?_
            refine A_icmp_eq (tgt := 132) (q := 128) cx dX8_becomesHow_125 (by decide) rfl (fun c_125 => ?_) (fun c_125 => ?_)
            · refine A_iconst (v := 0) (q := 133) cx dX8_becomesHow_132 (by decide) rfl ?_
              refine A_iadd (q := 134) cx dX8_becomesHow_133 rfl ?_
              refine A_iastore (q := 135) cx dX8_becomesHow_134 rfl (in9 hX (by decide)) (ixA rfl (ixc 15)) (by show _ < 235; first | omega | (simp only [pl]; omega)) rfl ?_
              refine A_iinc (lv' := [some _, some _, some _, some _, some _]) (q := 138) cx dX8_becomesHow_135 rfl (nI_1 i) rfl rfl ?_
              refine A_goto (q := 7) cx dX8_becomesHow_138 (by decide) ?_
              exact A_drop 3 rfl (A_drop 4 rfl (ih (i + 1) _ (by omega) hL2 (by rw [← hF, mBhR]; simp only [mBh, mBh1, mBh2, mBh3, *, if_true, if_false])))
            · refine A_iconst (v := 1) (q := 129) cx dX8_becomesHow_128 (by decide) rfl ?_
              refine A_goto (q := 133) cx dX8_becomesHow_129 (by decide) ?_
              refine A_iadd (q := 134) cx dX8_becomesHow_133 rfl ?_
              refine A_iastore (q := 135) cx dX8_becomesHow_134 rfl (in9 hX (by decide)) (ixA rfl (ixc 15)) (by show _ < 235; first | omega | (simp only [pl]; omega)) rfl ?_
              refine A_iinc (lv' := [some _, some _, some _, some _, some _]) (q := 138) cx dX8_becomesHow_135 rfl (nI_1 i) rfl rfl ?_
              refine A_goto (q := 7) cx dX8_becomesHow_138 (by decide) ?_
              exact A_drop 3 rfl (A_drop 4 rfl (ih (i + 1) _ (by omega) hL2 (by rw [← hF, mBhR]; simp only [mBh, mBh1, mBh2, mBh3, *, if_true, if_false])))
  refine A_aload_n (q := 1) cx dX8_becomesHow_0 rfl rfl rfl ?_
  refine A_iload_n (q := 2) cx dX8_becomesHow_1 rfl rfl ?_
  refine VV1 (q := 5) cx (ct_X8_chooses hE hX hL hL6) (cwV 1 cx.1.2.2.2.2 gX8_becomesHow_X8_chooses rfl rfl rfl (by decide +kernel) ⟨Nat.le_of_ble_eq_true rfl, Nat.le_of_ble_eq_true rfl⟩) dX8_becomesHow_2 rfl rfl (in8 hX) rfl (Nat.le_of_ble_eq_true rfl) ⟨Nat.zero_le _, Nat.zero_le _⟩ rfl ?_
  refine A_iconst (v := 0) (q := 6) cx dX8_becomesHow_5 (by decide) rfl ?_
  refine A_istore_n (lv' := [some _, some _, some _, none, none]) (q := 7) cx dX8_becomesHow_6 (Nat.le_of_ble_eq_true rfl) rfl rfl ?_
  exact l1 L 0 _ (by omega) ((mag_chR L 0 (mag.rf σ0)).m 0 hL) rfl
theorem wi_X8_sends_X8 : ∀ w ∈ u_ws RX8 TX8 18, w ∈ wsX8_sends := by decide +kernel
theorem wf_X8_sends_7 : Cond.fieldLink RX8 7 (TX8 3).1 (TX8 3).2.1 (TX8 3).2.2.1 ∈ wsX8_sends := by decide +kernel
set_option maxHeartbeats 1000000 in
set_option maxRecDepth 100000 in
theorem ct_X8_sends {la : Launch} {E : Ev} (hE : okE E) (hX : yin E) {σ : Sg} {e l : Nat} (hel : e < 2 ∧ l < 6 := by omega) : CV la yX8_sends wsX8_sends 1 21 E rh0 [.ref (ad E (8, 0, 0, 0)), .int (nI e), .int (nI l)] σ (mSends σ e l) := by
  refine met_of (lv := [some _, some _, some _, none]) RX8 (by decide) rfl rfl rfl hE (ok3 rfl rfl rfl) (Nat.le_of_ble_eq_true rfl) (fun p ev s m args below meth c Q cx hlk hr hQ => ?_)
  refine A_iload_n (q := 1) cx dX8_sends_0 rfl rfl ?_
  refine A_iload_n (q := 2) cx dX8_sends_1 rfl rfl ?_
  refine SI2 (q := 5) cx (ct_X8_place hE hX) (cwS 2 cx.1.2.2.2.2 gX8_sends_X8_place rfl rfl rfl (by decide +kernel) ⟨Nat.le_of_ble_eq_true rfl, Nat.le_of_ble_eq_true rfl⟩) dX8_sends_2 rfl (Nat.le_of_ble_eq_true rfl) ⟨Nat.zero_le _, Nat.zero_le _⟩ rfl ?_
  refine A_istore_n (lv' := [some _, some _, some _, some _]) (q := 6) cx dX8_sends_5 (Nat.le_of_ble_eq_true rfl) rfl rfl ?_
  refine A_aload_n (q := 7) cx dX8_sends_6 rfl rfl rfl ?_
  refine gX8_3 (q := 10) cx wi_X8_sends_X8 wf_X8_sends_7 dX8_sends_7 rfl (in8 hX) rfl rfl ?_
  refine A_iload_n (q := 11) cx dX8_sends_10 rfl rfl ?_
  refine A_iconst (v := 3) (q := 12) cx dX8_sends_11 (by decide) rfl ?_
  refine A_iadd (q := 13) cx dX8_sends_12 rfl ?_
  refine A_aload_n (q := 14) cx dX8_sends_13 rfl rfl rfl ?_
  refine gX8_3 (q := 17) cx wi_X8_sends_X8 wf_X8_sends_7 dX8_sends_14 rfl (in8 hX) rfl rfl ?_
  refine A_iconst (v := 4) (q := 18) cx dX8_sends_17 (by decide) rfl ?_
  refine A_iload_n (q := 19) cx dX8_sends_18 rfl rfl ?_
  refine A_iadd (q := 20) cx dX8_sends_19 rfl ?_
  refine A_iaload (q := 21) cx dX8_sends_20 rfl (in9 hX (by decide)) (ixA (ixc 4) rfl) (by show _ < 235; first | omega | (simp only [pl]; omega)) rfl ?_
  refine A_iconst (v := 1) (q := 22) cx dX8_sends_21 (by decide) rfl ?_
  refine A_icmp_ne (tgt := 40) (q := 25) cx dX8_sends_22 (by decide) rfl (fun c_22 => ?_) (fun c_22 => ?_)
  · refine A_iconst (v := 0) (q := 41) cx dX8_sends_40 (by decide) rfl ?_
    refine A_iastore (q := 42) cx dX8_sends_41 rfl (in9 hX (by decide)) (ixA rfl (ixc 3)) (by show _ < 235; first | omega | (simp only [pl]; omega)) rfl ?_
    refine A_aload_n (q := 43) cx dX8_sends_42 rfl rfl rfl ?_
    refine gX8_3 (q := 46) cx wi_X8_sends_X8 wf_X8_sends_7 dX8_sends_43 rfl (in8 hX) rfl rfl ?_
    refine A_iload_n (q := 47) cx dX8_sends_46 rfl rfl ?_
    refine A_iconst (v := 4) (q := 48) cx dX8_sends_47 (by decide) rfl ?_
    refine A_iadd (q := 49) cx dX8_sends_48 rfl ?_
    refine A_aload_n (q := 50) cx dX8_sends_49 rfl rfl rfl ?_
    refine gX8_3 (q := 53) cx wi_X8_sends_X8 wf_X8_sends_7 dX8_sends_50 rfl (in8 hX) rfl rfl ?_
    refine A_iload_n (q := 54) cx dX8_sends_53 rfl rfl ?_
    refine A_iconst (v := 0) (q := 55) cx dX8_sends_54 (by decide) rfl ?_
    refine A_iadd (q := 56) cx dX8_sends_55 rfl ?_
    refine A_iaload (q := 57) cx dX8_sends_56 rfl (in9 hX (by decide)) (ixA rfl (ixc 0)) (by show _ < 235; first | omega | (simp only [pl]; omega)) rfl ?_
    refine A_iastore (q := 58) cx dX8_sends_57 rfl (in9 hX (by decide)) (ixA rfl (ixc 4)) (by show _ < 235; first | omega | (simp only [pl]; omega)) rfl ?_
    refine A_aload_n (q := 59) cx dX8_sends_58 rfl rfl rfl ?_
    refine gX8_3 (q := 62) cx wi_X8_sends_X8 wf_X8_sends_7 dX8_sends_59 rfl (in8 hX) rfl rfl ?_
    refine A_iload_n (q := 63) cx dX8_sends_62 rfl rfl ?_
    refine A_iconst (v := 5) (q := 64) cx dX8_sends_63 (by decide) rfl ?_
    refine A_iadd (q := 65) cx dX8_sends_64 rfl ?_
    refine A_aload_n (q := 66) cx dX8_sends_65 rfl rfl rfl ?_
    refine gX8_3 (q := 69) cx wi_X8_sends_X8 wf_X8_sends_7 dX8_sends_66 rfl (in8 hX) rfl rfl ?_
    refine A_iload_n (q := 70) cx dX8_sends_69 rfl rfl ?_
    refine A_iconst (v := 1) (q := 71) cx dX8_sends_70 (by decide) rfl ?_
    refine A_iadd (q := 72) cx dX8_sends_71 rfl ?_
    refine A_iaload (q := 73) cx dX8_sends_72 rfl (in9 hX (by decide)) (ixA rfl (ixc 1)) (by show _ < 235; first | omega | (simp only [pl]; omega)) rfl ?_
    refine A_iastore (q := 74) cx dX8_sends_73 rfl (in9 hX (by decide)) (ixA rfl (ixc 5)) (by show _ < 235; first | omega | (simp only [pl]; omega)) rfl ?_
    refine A_aload_n (q := 75) cx dX8_sends_74 rfl rfl rfl ?_
    refine gX8_3 (q := 78) cx wi_X8_sends_X8 wf_X8_sends_7 dX8_sends_75 rfl (in8 hX) rfl rfl ?_
    refine A_iload_n (q := 79) cx dX8_sends_78 rfl rfl ?_
    refine A_bipush (v := 6) (q := 81) cx dX8_sends_79 (by decide) rfl ?_
    refine A_iadd (q := 82) cx dX8_sends_81 rfl ?_
    refine A_aload_n (q := 83) cx dX8_sends_82 rfl rfl rfl ?_
    refine gX8_3 (q := 86) cx wi_X8_sends_X8 wf_X8_sends_7 dX8_sends_83 rfl (in8 hX) rfl rfl ?_
    refine A_iconst (v := 0) (q := 87) cx dX8_sends_86 (by decide) rfl ?_
    refine A_iload_n (q := 88) cx dX8_sends_87 rfl rfl ?_
    refine A_iadd (q := 89) cx dX8_sends_88 rfl ?_
    refine A_iaload (q := 90) cx dX8_sends_89 rfl (in9 hX (by decide)) (ixA (ixc 0) rfl) (by show _ < 235; first | omega | (simp only [pl]; omega)) rfl ?_
    refine A_iastore (q := 91) cx dX8_sends_90 rfl (in9 hX (by decide)) (ixA rfl (ixc 6)) (by show _ < 235; first | omega | (simp only [pl]; omega)) rfl ?_
    refine A_aload_n (q := 92) cx dX8_sends_91 rfl rfl rfl ?_
    refine gX8_3 (q := 95) cx wi_X8_sends_X8 wf_X8_sends_7 dX8_sends_92 rfl (in8 hX) rfl rfl ?_
    refine A_iload_n (q := 96) cx dX8_sends_95 rfl rfl ?_
    refine A_bipush (v := 7) (q := 98) cx dX8_sends_96 (by decide) rfl ?_
    refine A_iadd (q := 99) cx dX8_sends_98 rfl ?_
    refine A_aload_n (q := 100) cx dX8_sends_99 rfl rfl rfl ?_
    refine gX8_3 (q := 103) cx wi_X8_sends_X8 wf_X8_sends_7 dX8_sends_100 rfl (in8 hX) rfl rfl ?_
    refine A_iload_n (q := 104) cx dX8_sends_103 rfl rfl ?_
    refine A_bipush (v := 14) (q := 106) cx dX8_sends_104 (by decide) rfl ?_
    refine A_iadd (q := 107) cx dX8_sends_106 rfl ?_
    refine A_iaload (q := 108) cx dX8_sends_107 rfl (in9 hX (by decide)) (ixA rfl (ixc 14)) (by show _ < 235; first | omega | (simp only [pl]; omega)) rfl ?_
    refine A_iconst (v := 4) (q := 109) cx dX8_sends_108 (by decide) rfl ?_
    refine A_icmp_lt (tgt := 116) (q := 112) cx dX8_sends_109 (by decide) rfl (fun c_109 => ?_) (fun c_109 => ?_)
    · refine A_iconst (v := 0) (q := 117) cx dX8_sends_116 (by decide) rfl ?_
      refine A_iastore (q := 118) cx dX8_sends_117 rfl (in9 hX (by decide)) (ixA rfl (ixc 7)) (by show _ < 235; first | omega | (simp only [pl]; omega)) rfl ?_
      exact A_vret cx hlk hr hQ dX8_sends_118 (by simp only [mSends, mSd5, mSd4, mSd3, mSd2, mSd1, *, if_true, if_false])
    · refine A_iconst (v := 1) (q := 113) cx dX8_sends_112 (by decide) rfl ?_
      refine A_goto (q := 117) cx dX8_sends_113 (by decide) ?_
      refine A_iastore (q := 118) cx dX8_sends_117 rfl (in9 hX (by decide)) (ixA rfl (ixc 7)) (by show _ < 235; first | omega | (simp only [pl]; omega)) rfl ?_
      exact A_vret cx hlk hr hQ dX8_sends_118 (by simp only [mSends, mSd5, mSd4, mSd3, mSd2, mSd1, *, if_true, if_false])
  · refine A_aload_n (q := 26) cx dX8_sends_25 rfl rfl rfl ?_
    refine gX8_3 (q := 29) cx wi_X8_sends_X8 wf_X8_sends_7 dX8_sends_26 rfl (in8 hX) rfl rfl ?_
    refine A_iload_n (q := 30) cx dX8_sends_29 rfl rfl ?_
    refine A_iconst (v := 2) (q := 31) cx dX8_sends_30 (by decide) rfl ?_
    refine A_iadd (q := 32) cx dX8_sends_31 rfl ?_
    refine A_iaload (q := 33) cx dX8_sends_32 rfl (in9 hX (by decide)) (ixA rfl (ixc 2)) (by show _ < 235; first | omega | (simp only [pl]; omega)) rfl ?_
    refine A_if_ne (tgt := 40) (q := 36) cx dX8_sends_33 (by decide) rfl (fun c_33 => ?_) (fun c_33 => ?_)
    · refine A_iconst (v := 0) (q := 41) cx dX8_sends_40 (by decide) rfl ?_
      refine A_iastore (q := 42) cx dX8_sends_41 rfl (in9 hX (by decide)) (ixA rfl (ixc 3)) (by show _ < 235; first | omega | (simp only [pl]; omega)) rfl ?_
      refine A_aload_n (q := 43) cx dX8_sends_42 rfl rfl rfl ?_
      refine gX8_3 (q := 46) cx wi_X8_sends_X8 wf_X8_sends_7 dX8_sends_43 rfl (in8 hX) rfl rfl ?_
      refine A_iload_n (q := 47) cx dX8_sends_46 rfl rfl ?_
      refine A_iconst (v := 4) (q := 48) cx dX8_sends_47 (by decide) rfl ?_
      refine A_iadd (q := 49) cx dX8_sends_48 rfl ?_
      refine A_aload_n (q := 50) cx dX8_sends_49 rfl rfl rfl ?_
      refine gX8_3 (q := 53) cx wi_X8_sends_X8 wf_X8_sends_7 dX8_sends_50 rfl (in8 hX) rfl rfl ?_
      refine A_iload_n (q := 54) cx dX8_sends_53 rfl rfl ?_
      refine A_iconst (v := 0) (q := 55) cx dX8_sends_54 (by decide) rfl ?_
      refine A_iadd (q := 56) cx dX8_sends_55 rfl ?_
      refine A_iaload (q := 57) cx dX8_sends_56 rfl (in9 hX (by decide)) (ixA rfl (ixc 0)) (by show _ < 235; first | omega | (simp only [pl]; omega)) rfl ?_
      refine A_iastore (q := 58) cx dX8_sends_57 rfl (in9 hX (by decide)) (ixA rfl (ixc 4)) (by show _ < 235; first | omega | (simp only [pl]; omega)) rfl ?_
      refine A_aload_n (q := 59) cx dX8_sends_58 rfl rfl rfl ?_
      refine gX8_3 (q := 62) cx wi_X8_sends_X8 wf_X8_sends_7 dX8_sends_59 rfl (in8 hX) rfl rfl ?_
      refine A_iload_n (q := 63) cx dX8_sends_62 rfl rfl ?_
      refine A_iconst (v := 5) (q := 64) cx dX8_sends_63 (by decide) rfl ?_
      refine A_iadd (q := 65) cx dX8_sends_64 rfl ?_
      refine A_aload_n (q := 66) cx dX8_sends_65 rfl rfl rfl ?_
      refine gX8_3 (q := 69) cx wi_X8_sends_X8 wf_X8_sends_7 dX8_sends_66 rfl (in8 hX) rfl rfl ?_
      refine A_iload_n (q := 70) cx dX8_sends_69 rfl rfl ?_
      refine A_iconst (v := 1) (q := 71) cx dX8_sends_70 (by decide) rfl ?_
      refine A_iadd (q := 72) cx dX8_sends_71 rfl ?_
      refine A_iaload (q := 73) cx dX8_sends_72 rfl (in9 hX (by decide)) (ixA rfl (ixc 1)) (by show _ < 235; first | omega | (simp only [pl]; omega)) rfl ?_
      refine A_iastore (q := 74) cx dX8_sends_73 rfl (in9 hX (by decide)) (ixA rfl (ixc 5)) (by show _ < 235; first | omega | (simp only [pl]; omega)) rfl ?_
      refine A_aload_n (q := 75) cx dX8_sends_74 rfl rfl rfl ?_
      refine gX8_3 (q := 78) cx wi_X8_sends_X8 wf_X8_sends_7 dX8_sends_75 rfl (in8 hX) rfl rfl ?_
      refine A_iload_n (q := 79) cx dX8_sends_78 rfl rfl ?_
      refine A_bipush (v := 6) (q := 81) cx dX8_sends_79 (by decide) rfl ?_
      refine A_iadd (q := 82) cx dX8_sends_81 rfl ?_
      refine A_aload_n (q := 83) cx dX8_sends_82 rfl rfl rfl ?_
      refine gX8_3 (q := 86) cx wi_X8_sends_X8 wf_X8_sends_7 dX8_sends_83 rfl (in8 hX) rfl rfl ?_
      refine A_iconst (v := 0) (q := 87) cx dX8_sends_86 (by decide) rfl ?_
      refine A_iload_n (q := 88) cx dX8_sends_87 rfl rfl ?_
      refine A_iadd (q := 89) cx dX8_sends_88 rfl ?_
      refine A_iaload (q := 90) cx dX8_sends_89 rfl (in9 hX (by decide)) (ixA (ixc 0) rfl) (by show _ < 235; first | omega | (simp only [pl]; omega)) rfl ?_
      refine A_iastore (q := 91) cx dX8_sends_90 rfl (in9 hX (by decide)) (ixA rfl (ixc 6)) (by show _ < 235; first | omega | (simp only [pl]; omega)) rfl ?_
      refine A_aload_n (q := 92) cx dX8_sends_91 rfl rfl rfl ?_
      refine gX8_3 (q := 95) cx wi_X8_sends_X8 wf_X8_sends_7 dX8_sends_92 rfl (in8 hX) rfl rfl ?_
      refine A_iload_n (q := 96) cx dX8_sends_95 rfl rfl ?_
      refine A_bipush (v := 7) (q := 98) cx dX8_sends_96 (by decide) rfl ?_
      refine A_iadd (q := 99) cx dX8_sends_98 rfl ?_
      refine A_aload_n (q := 100) cx dX8_sends_99 rfl rfl rfl ?_
      refine gX8_3 (q := 103) cx wi_X8_sends_X8 wf_X8_sends_7 dX8_sends_100 rfl (in8 hX) rfl rfl ?_
      refine A_iload_n (q := 104) cx dX8_sends_103 rfl rfl ?_
      refine A_bipush (v := 14) (q := 106) cx dX8_sends_104 (by decide) rfl ?_
      refine A_iadd (q := 107) cx dX8_sends_106 rfl ?_
      refine A_iaload (q := 108) cx dX8_sends_107 rfl (in9 hX (by decide)) (ixA rfl (ixc 14)) (by show _ < 235; first | omega | (simp only [pl]; omega)) rfl ?_
      refine A_iconst (v := 4) (q := 109) cx dX8_sends_108 (by decide) rfl ?_
      refine A_icmp_lt (tgt := 116) (q := 112) cx dX8_sends_109 (by decide) rfl (fun c_109 => ?_) (fun c_109 => ?_)
      · refine A_iconst (v := 0) (q := 117) cx dX8_sends_116 (by decide) rfl ?_
        refine A_iastore (q := 118) cx dX8_sends_117 rfl (in9 hX (by decide)) (ixA rfl (ixc 7)) (by show _ < 235; first | omega | (simp only [pl]; omega)) rfl ?_
        exact A_vret cx hlk hr hQ dX8_sends_118 (by simp only [mSends, mSd5, mSd4, mSd3, mSd2, mSd1, *, if_true, if_false])
      · refine A_iconst (v := 1) (q := 113) cx dX8_sends_112 (by decide) rfl ?_
        refine A_goto (q := 117) cx dX8_sends_113 (by decide) ?_
        refine A_iastore (q := 118) cx dX8_sends_117 rfl (in9 hX (by decide)) (ixA rfl (ixc 7)) (by show _ < 235; first | omega | (simp only [pl]; omega)) rfl ?_
        exact A_vret cx hlk hr hQ dX8_sends_118 (by simp only [mSends, mSd5, mSd4, mSd3, mSd2, mSd1, *, if_true, if_false])
    · refine A_iconst (v := 1) (q := 37) cx dX8_sends_36 (by decide) rfl ?_
      refine A_goto (q := 41) cx dX8_sends_37 (by decide) ?_
      refine A_iastore (q := 42) cx dX8_sends_41 rfl (in9 hX (by decide)) (ixA rfl (ixc 3)) (by show _ < 235; first | omega | (simp only [pl]; omega)) rfl ?_
      refine A_aload_n (q := 43) cx dX8_sends_42 rfl rfl rfl ?_
      refine gX8_3 (q := 46) cx wi_X8_sends_X8 wf_X8_sends_7 dX8_sends_43 rfl (in8 hX) rfl rfl ?_
      refine A_iload_n (q := 47) cx dX8_sends_46 rfl rfl ?_
      refine A_iconst (v := 4) (q := 48) cx dX8_sends_47 (by decide) rfl ?_
      refine A_iadd (q := 49) cx dX8_sends_48 rfl ?_
      refine A_aload_n (q := 50) cx dX8_sends_49 rfl rfl rfl ?_
      refine gX8_3 (q := 53) cx wi_X8_sends_X8 wf_X8_sends_7 dX8_sends_50 rfl (in8 hX) rfl rfl ?_
      refine A_iload_n (q := 54) cx dX8_sends_53 rfl rfl ?_
      refine A_iconst (v := 0) (q := 55) cx dX8_sends_54 (by decide) rfl ?_
      refine A_iadd (q := 56) cx dX8_sends_55 rfl ?_
      refine A_iaload (q := 57) cx dX8_sends_56 rfl (in9 hX (by decide)) (ixA rfl (ixc 0)) (by show _ < 235; first | omega | (simp only [pl]; omega)) rfl ?_
      refine A_iastore (q := 58) cx dX8_sends_57 rfl (in9 hX (by decide)) (ixA rfl (ixc 4)) (by show _ < 235; first | omega | (simp only [pl]; omega)) rfl ?_
      refine A_aload_n (q := 59) cx dX8_sends_58 rfl rfl rfl ?_
      refine gX8_3 (q := 62) cx wi_X8_sends_X8 wf_X8_sends_7 dX8_sends_59 rfl (in8 hX) rfl rfl ?_
      refine A_iload_n (q := 63) cx dX8_sends_62 rfl rfl ?_
      refine A_iconst (v := 5) (q := 64) cx dX8_sends_63 (by decide) rfl ?_
      refine A_iadd (q := 65) cx dX8_sends_64 rfl ?_
      refine A_aload_n (q := 66) cx dX8_sends_65 rfl rfl rfl ?_
      refine gX8_3 (q := 69) cx wi_X8_sends_X8 wf_X8_sends_7 dX8_sends_66 rfl (in8 hX) rfl rfl ?_
      refine A_iload_n (q := 70) cx dX8_sends_69 rfl rfl ?_
      refine A_iconst (v := 1) (q := 71) cx dX8_sends_70 (by decide) rfl ?_
      refine A_iadd (q := 72) cx dX8_sends_71 rfl ?_
      refine A_iaload (q := 73) cx dX8_sends_72 rfl (in9 hX (by decide)) (ixA rfl (ixc 1)) (by show _ < 235; first | omega | (simp only [pl]; omega)) rfl ?_
      refine A_iastore (q := 74) cx dX8_sends_73 rfl (in9 hX (by decide)) (ixA rfl (ixc 5)) (by show _ < 235; first | omega | (simp only [pl]; omega)) rfl ?_
      refine A_aload_n (q := 75) cx dX8_sends_74 rfl rfl rfl ?_
      refine gX8_3 (q := 78) cx wi_X8_sends_X8 wf_X8_sends_7 dX8_sends_75 rfl (in8 hX) rfl rfl ?_
      refine A_iload_n (q := 79) cx dX8_sends_78 rfl rfl ?_
      refine A_bipush (v := 6) (q := 81) cx dX8_sends_79 (by decide) rfl ?_
      refine A_iadd (q := 82) cx dX8_sends_81 rfl ?_
      refine A_aload_n (q := 83) cx dX8_sends_82 rfl rfl rfl ?_
      refine gX8_3 (q := 86) cx wi_X8_sends_X8 wf_X8_sends_7 dX8_sends_83 rfl (in8 hX) rfl rfl ?_
      refine A_iconst (v := 0) (q := 87) cx dX8_sends_86 (by decide) rfl ?_
      refine A_iload_n (q := 88) cx dX8_sends_87 rfl rfl ?_
      refine A_iadd (q := 89) cx dX8_sends_88 rfl ?_
      refine A_iaload (q := 90) cx dX8_sends_89 rfl (in9 hX (by decide)) (ixA (ixc 0) rfl) (by show _ < 235; first | omega | (simp only [pl]; omega)) rfl ?_
      refine A_iastore (q := 91) cx dX8_sends_90 rfl (in9 hX (by decide)) (ixA rfl (ixc 6)) (by show _ < 235; first | omega | (simp only [pl]; omega)) rfl ?_
      refine A_aload_n (q := 92) cx dX8_sends_91 rfl rfl rfl ?_
      refine gX8_3 (q := 95) cx wi_X8_sends_X8 wf_X8_sends_7 dX8_sends_92 rfl (in8 hX) rfl rfl ?_
      refine A_iload_n (q := 96) cx dX8_sends_95 rfl rfl ?_
      refine A_bipush (v := 7) (q := 98) cx dX8_sends_96 (by decide) rfl ?_
      refine A_iadd (q := 99) cx dX8_sends_98 rfl ?_
      refine A_aload_n (q := 100) cx dX8_sends_99 rfl rfl rfl ?_
      refine gX8_3 (q := 103) cx wi_X8_sends_X8 wf_X8_sends_7 dX8_sends_100 rfl (in8 hX) rfl rfl ?_
      refine A_iload_n (q := 104) cx dX8_sends_103 rfl rfl ?_
      refine A_bipush (v := 14) (q := 106) cx dX8_sends_104 (by decide) rfl ?_
      refine A_iadd (q := 107) cx dX8_sends_106 rfl ?_
      refine A_iaload (q := 108) cx dX8_sends_107 rfl (in9 hX (by decide)) (ixA rfl (ixc 14)) (by show _ < 235; first | omega | (simp only [pl]; omega)) rfl ?_
      refine A_iconst (v := 4) (q := 109) cx dX8_sends_108 (by decide) rfl ?_
      refine A_icmp_lt (tgt := 116) (q := 112) cx dX8_sends_109 (by decide) rfl (fun c_109 => ?_) (fun c_109 => ?_)
      · refine A_iconst (v := 0) (q := 117) cx dX8_sends_116 (by decide) rfl ?_
        refine A_iastore (q := 118) cx dX8_sends_117 rfl (in9 hX (by decide)) (ixA rfl (ixc 7)) (by show _ < 235; first | omega | (simp only [pl]; omega)) rfl ?_
        exact A_vret cx hlk hr hQ dX8_sends_118 (by simp only [mSends, mSd5, mSd4, mSd3, mSd2, mSd1, *, if_true, if_false])
      · refine A_iconst (v := 1) (q := 113) cx dX8_sends_112 (by decide) rfl ?_
        refine A_goto (q := 117) cx dX8_sends_113 (by decide) ?_
        refine A_iastore (q := 118) cx dX8_sends_117 rfl (in9 hX (by decide)) (ixA rfl (ixc 7)) (by show _ < 235; first | omega | (simp only [pl]; omega)) rfl ?_
        exact A_vret cx hlk hr hQ dX8_sends_118 (by simp only [mSends, mSd5, mSd4, mSd3, mSd2, mSd1, *, if_true, if_false])
theorem wi_X8_wants_X8 : ∀ w ∈ u_ws RX8 TX8 18, w ∈ wsX8_wants := by decide +kernel
theorem wf_X8_wants_83 : Cond.fieldLink RX8 83 (TX8 0).1 (TX8 0).2.1 (TX8 0).2.2.1 ∈ wsX8_wants := by decide +kernel
set_option maxHeartbeats 1000000 in
set_option maxRecDepth 100000 in
theorem ct_X8_wants {la : Launch} {E : Ev} (hE : okE E) (hX : yin E) {σ0 : Sg} {e L : Nat} {f : Int32} (hL : σ0 (8, 0, 0, 0) 0 = nI L) (hL6 : L ≤ 6) (he : e < 2 := by omega) : CI la yX8_wants wsX8_wants 2 43 E rh0 [.ref (ad E (8, 0, 0, 0)), .int (nI e), .int f] σ0 (mWant σ0 e L f) σ0 := by
  refine met_of (lv := [some _, some _, some _, none, none, none]) RX8 (by decide) rfl rfl rfl hE (ok3 rfl rfl rfl) (Nat.le_of_ble_eq_true rfl) (fun p ev s m args below meth c Q cx hlk hr hQ => ?_)
  have l2 : ∀ (d i : Nat) (n a : Int32), i + d = L → mWantR σ0 e d i a = mWant σ0 e L f → AW p la ev (rmm 2 43) s m args below meth c 0 0 Q (AL E) E rh0 59 [some (.ref (ad E (8, 0, 0, 0))), some (.int (nI e)), some (.int f), some (.int n), some (.int a), some (.int (nI i))] [] σ0 := by
    intro d
    induction d with
    | zero =>
      intro i n a hi hF
      refine A_iload (q := 61) cx dX8_wants_59 rfl rfl ?_
      refine A_aload_n (q := 62) cx dX8_wants_61 rfl rfl rfl ?_
      refine gX8_0 (q := 65) cx wi_X8_wants_X8 wf_X8_wants_83 dX8_wants_62 rfl (in8 hX) rfl ?_
      refine A_icmp_ge (tgt := 95) (q := 68) cx dX8_wants_65 (by decide) rfl (fun c_65 => ?_) (fun c_65 => ?_)
      · refine A_bipush (v := -4) (q := 97) cx dX8_wants_95 (by decide) rfl ?_
        exact A_iret cx hlk hr hQ dX8_wants_97 hF rfl
      · exact absurd (lge hL (by omega) (by omega)) c_65
    | succ d ih =>
      intro i n a hi hF
      refine A_iload (q := 61) cx dX8_wants_59 rfl rfl ?_
      refine A_aload_n (q := 62) cx dX8_wants_61 rfl rfl rfl ?_
      refine gX8_0 (q := 65) cx wi_X8_wants_X8 wf_X8_wants_83 dX8_wants_62 rfl (in8 hX) rfl ?_
      refine A_icmp_ge (tgt := 95) (q := 68) cx dX8_wants_65 (by decide) rfl (fun c_65 => ?_) (fun c_65 => ?_)
      · exact absurd c_65 (lnge hL (by omega) (by omega))
      · refine A_aload_n (q := 69) cx dX8_wants_68 rfl rfl rfl ?_
        refine A_iload_n (q := 70) cx dX8_wants_69 rfl rfl ?_
        refine A_iload (q := 72) cx dX8_wants_70 rfl rfl ?_
        refine VI2 (q := 75) cx (ct_X8_isSending hE hX) (cwV 2 cx.1.2.2.2.2 gX8_wants_X8_isSending rfl rfl rfl (by decide +kernel) ⟨Nat.le_of_ble_eq_true rfl, Nat.le_of_ble_eq_true rfl⟩) dX8_wants_72 rfl rfl (in8 hX) rfl (Nat.le_of_ble_eq_true rfl) ⟨Nat.zero_le _, Nat.zero_le _⟩ rfl ?_
        refine A_if_eq (tgt := 89) (q := 78) cx dX8_wants_75 (by decide) rfl (fun c_75 => ?_) (fun c_75 => ?_)
        · refine A_iinc (lv' := [some _, some _, some _, some _, some _, some _]) (q := 92) cx dX8_wants_89 rfl (nI_1 i) rfl rfl ?_
          refine A_goto (q := 59) cx dX8_wants_92 (by decide) ?_
          exact ih (i + 1) _ _ (by omega) (by rw [← hF, mWantR]; simp only [*, if_true, if_false])
        · refine A_iload (q := 80) cx dX8_wants_78 rfl rfl ?_
          refine A_if_ne (tgt := 86) (q := 83) cx dX8_wants_80 (by decide) rfl (fun c_80 => ?_) (fun c_80 => ?_)
          · refine A_iinc (lv' := [some _, some _, some _, some _, some _, some _]) (q := 89) cx dX8_wants_86 rfl (dec1 _) rfl rfl ?_
            refine A_iinc (lv' := [some _, some _, some _, some _, some _, some _]) (q := 92) cx dX8_wants_89 rfl (nI_1 i) rfl rfl ?_
            refine A_goto (q := 59) cx dX8_wants_92 (by decide) ?_
            exact ih (i + 1) _ _ (by omega) (by rw [← hF, mWantR]; simp only [*, if_true, if_false])
          · refine A_iload (q := 85) cx dX8_wants_83 rfl rfl ?_
            exact A_iret cx hlk hr hQ dX8_wants_85 (by rw [← hF, mWantR, if_neg c_75, if_pos c_80]) rfl
  have l1 : ∀ (d i : Nat) (a : Int32), i + d = L → cnt (fun i => if mSnd σ0 e i = 0 then 0 else 1) d i a = mCntS σ0 e L → AW p la ev (rmm 2 43) s m args below meth c 0 0 Q (AL E) E rh0 5 [some (.ref (ad E (8, 0, 0, 0))), some (.int (nI e)), some (.int f), some (.int a), some (.int (nI i)), none] [] σ0 := by
    intro d
    induction d with
    | zero =>
      intro i a hi hF
      refine A_iload (q := 7) cx dX8_wants_5 rfl rfl ?_
      refine A_aload_n (q := 8) cx dX8_wants_7 rfl rfl rfl ?_
      refine gX8_0 (q := 11) cx wi_X8_wants_X8 wf_X8_wants_83 dX8_wants_8 rfl (in8 hX) rfl ?_
      refine A_icmp_ge (tgt := 38) (q := 14) cx dX8_wants_11 (by decide) rfl (fun c_11 => ?_) (fun c_11 => ?_)
      · refine A_iload_n (q := 39) cx dX8_wants_38 rfl rfl ?_
        refine A_if_ne (tgt := 46) (q := 42) cx dX8_wants_39 (by decide) rfl (fun c_39 => ?_) (fun c_39 => ?_)
        · refine A_bipush (v := 7) (q := 48) cx dX8_wants_46 (by decide) rfl ?_
          refine A_iload_n (q := 49) cx dX8_wants_48 rfl rfl ?_
          refine A_imul (q := 50) cx dX8_wants_49 rfl ?_
          refine A_iconst (v := 3) (q := 51) cx dX8_wants_50 (by decide) rfl ?_
          refine A_iadd (q := 52) cx dX8_wants_51 rfl ?_
          refine A_iload_n (q := 53) cx dX8_wants_52 rfl rfl ?_
          refine A_irem (q := 54) cx dX8_wants_53 c_39 rfl ?_
          refine A_istore (lv' := [some _, some _, some _, some _, some _, none]) (q := 56) cx dX8_wants_54 (Nat.le_of_ble_eq_true rfl) rfl rfl ?_
          refine A_iconst (v := 0) (q := 57) cx dX8_wants_56 (by decide) rfl ?_
          refine A_istore (lv' := [some _, some _, some _, some _, some _, some _]) (q := 59) cx dX8_wants_57 (Nat.le_of_ble_eq_true rfl) rfl rfl ?_
          exact l2 L 0 _ _ (by omega) (by have ha : a = mCntS σ0 e L := hF; unfold mWant mLeft; rw [← ha]; first | rw [if_pos c_39] | rw [if_neg c_39])
        · refine A_iconst (v := 0) (q := 43) cx dX8_wants_42 (by decide) rfl ?_
          refine A_goto (q := 54) cx dX8_wants_43 (by decide) ?_
          refine A_istore (lv' := [some _, some _, some _, some _, some _, none]) (q := 56) cx dX8_wants_54 (Nat.le_of_ble_eq_true rfl) rfl rfl ?_
          refine A_iconst (v := 0) (q := 57) cx dX8_wants_56 (by decide) rfl ?_
          refine A_istore (lv' := [some _, some _, some _, some _, some _, some _]) (q := 59) cx dX8_wants_57 (Nat.le_of_ble_eq_true rfl) rfl rfl ?_
          exact l2 L 0 _ _ (by omega) (by have ha : a = mCntS σ0 e L := hF; unfold mWant mLeft; rw [← ha]; first | rw [if_pos c_39] | rw [if_neg c_39])
      · exact absurd (lge hL (by omega) (by omega)) c_11
    | succ d ih =>
      intro i a hi hF
      refine A_iload (q := 7) cx dX8_wants_5 rfl rfl ?_
      refine A_aload_n (q := 8) cx dX8_wants_7 rfl rfl rfl ?_
      refine gX8_0 (q := 11) cx wi_X8_wants_X8 wf_X8_wants_83 dX8_wants_8 rfl (in8 hX) rfl ?_
      refine A_icmp_ge (tgt := 38) (q := 14) cx dX8_wants_11 (by decide) rfl (fun c_11 => ?_) (fun c_11 => ?_)
      · exact absurd c_11 (lnge hL (by omega) (by omega))
      · refine A_iload_n (q := 15) cx dX8_wants_14 rfl rfl ?_
        refine A_aload_n (q := 16) cx dX8_wants_15 rfl rfl rfl ?_
        refine A_iload_n (q := 17) cx dX8_wants_16 rfl rfl ?_
        refine A_iload (q := 19) cx dX8_wants_17 rfl rfl ?_
        refine VI2 (q := 22) cx (ct_X8_isSending hE hX) (cwV 2 cx.1.2.2.2.2 gX8_wants_X8_isSending rfl rfl rfl (by decide +kernel) ⟨Nat.le_of_ble_eq_true rfl, Nat.le_of_ble_eq_true rfl⟩) dX8_wants_19 rfl rfl (in8 hX) rfl (Nat.le_of_ble_eq_true rfl) ⟨Nat.zero_le _, Nat.zero_le _⟩ rfl ?_
        refine A_if_eq (tgt := 29) (q := 25) cx dX8_wants_22 (by decide) rfl (fun c_22 => ?_) (fun c_22 => ?_)
        · refine A_iconst (v := 0) (q := 30) cx dX8_wants_29 (by decide) rfl ?_
          refine A_iadd (q := 31) cx dX8_wants_30 rfl ?_
          refine A_istore_n (lv' := [some _, some _, some _, some _, some _, none]) (q := 32) cx dX8_wants_31 (Nat.le_of_ble_eq_true rfl) rfl rfl ?_
          refine A_iinc (lv' := [some _, some _, some _, some _, some _, none]) (q := 35) cx dX8_wants_32 rfl (nI_1 i) rfl rfl ?_
          refine A_goto (q := 5) cx dX8_wants_35 (by decide) ?_
          exact ih (i + 1) _ (by omega) (by rw [← hF, cnt]; simp only [*, if_true, if_false])
        · refine A_iconst (v := 1) (q := 26) cx dX8_wants_25 (by decide) rfl ?_
          refine A_goto (q := 30) cx dX8_wants_26 (by decide) ?_
          refine A_iadd (q := 31) cx dX8_wants_30 rfl ?_
          refine A_istore_n (lv' := [some _, some _, some _, some _, some _, none]) (q := 32) cx dX8_wants_31 (Nat.le_of_ble_eq_true rfl) rfl rfl ?_
          refine A_iinc (lv' := [some _, some _, some _, some _, some _, none]) (q := 35) cx dX8_wants_32 rfl (nI_1 i) rfl rfl ?_
          refine A_goto (q := 5) cx dX8_wants_35 (by decide) ?_
          exact ih (i + 1) _ (by omega) (by rw [← hF, cnt]; simp only [*, if_true, if_false])
  refine A_iconst (v := 0) (q := 1) cx dX8_wants_0 (by decide) rfl ?_
  refine A_istore_n (lv' := [some _, some _, some _, some _, none, none]) (q := 2) cx dX8_wants_1 (Nat.le_of_ble_eq_true rfl) rfl rfl ?_
  refine A_iconst (v := 0) (q := 3) cx dX8_wants_2 (by decide) rfl ?_
  refine A_istore (lv' := [some _, some _, some _, some _, some _, none]) (q := 5) cx dX8_wants_3 (Nat.le_of_ble_eq_true rfl) rfl rfl ?_
  exact l1 L 0 _ (by omega) rfl
theorem wi_X8_deals_X8 : ∀ w ∈ u_ws RX8 TX8 18, w ∈ wsX8_deals := by decide +kernel
theorem wf_X8_deals_7 : Cond.fieldLink RX8 7 (TX8 3).1 (TX8 3).2.1 (TX8 3).2.2.1 ∈ wsX8_deals := by decide +kernel
theorem wf_X8_deals_89 : Cond.fieldLink RX8 89 (TX8 2).1 (TX8 2).2.1 (TX8 2).2.2.1 ∈ wsX8_deals := by decide +kernel
set_option maxHeartbeats 1000000 in
set_option maxRecDepth 100000 in
theorem ct_X8_deals {la : Launch} {E : Ev} (hE : okE E) (hX : yin E) {σ : Sg} {e f L : Nat} (hL : σ (8, 0, 0, 0) 0 = nI L) (hL6 : L ≤ 6) (hef : e < 2 ∧ f < 8 := by omega) : CV la yX8_deals wsX8_deals 3 68 E rh0 [.ref (ad E (8, 0, 0, 0)), .int (nI e), .int (nI f)] σ (mDeals σ e f L) := by
  refine met_of (lv := [some _, some _, some _, none, none]) RX8 (by decide) rfl rfl rfl hE (ok3 rfl rfl rfl) (Nat.le_of_ble_eq_true rfl) (fun p ev s m args below meth c Q cx hlk hr hQ => ?_)
  refine A_bipush (v := 10) (q := 2) cx dX8_deals_0 (by decide) rfl ?_
  refine A_iconst (v := 2) (q := 3) cx dX8_deals_2 (by decide) rfl ?_
  refine A_bipush (v := 8) (q := 5) cx dX8_deals_3 (by decide) rfl ?_
  refine A_iload_n (q := 6) cx dX8_deals_5 rfl rfl ?_
  refine A_imul (q := 7) cx dX8_deals_6 rfl ?_
  refine A_iload_n (q := 8) cx dX8_deals_7 rfl rfl ?_
  refine A_iadd (q := 9) cx dX8_deals_8 rfl ?_
  refine A_imul (q := 10) cx dX8_deals_9 rfl ?_
  refine A_iadd (q := 11) cx dX8_deals_10 rfl ?_
  refine A_istore_n (lv' := [some _, some _, some _, some _, none]) (q := 12) cx dX8_deals_11 (Nat.le_of_ble_eq_true rfl) rfl rfl ?_
  refine A_aload_n (q := 13) cx dX8_deals_12 rfl rfl rfl ?_
  refine A_iload_n (q := 14) cx dX8_deals_13 rfl rfl ?_
  refine A_iload_n (q := 15) cx dX8_deals_14 rfl rfl ?_
  refine VI2 (q := 18) cx (ct_X8_wants hE hX hL hL6) (cwV 2 cx.1.2.2.2.2 gX8_deals_X8_wants rfl rfl rfl (by decide +kernel) ⟨Nat.le_of_ble_eq_true rfl, Nat.le_of_ble_eq_true rfl⟩) dX8_deals_15 rfl rfl (in8 hX) rfl (Nat.le_of_ble_eq_true rfl) ⟨Nat.zero_le _, Nat.zero_le _⟩ rfl ?_
  refine A_istore (lv' := [some _, some _, some _, some _, some _]) (q := 20) cx dX8_deals_18 (Nat.le_of_ble_eq_true rfl) rfl rfl ?_
  refine A_aload_n (q := 21) cx dX8_deals_20 rfl rfl rfl ?_
  refine gX8_3 (q := 24) cx wi_X8_deals_X8 wf_X8_deals_7 dX8_deals_21 rfl (in8 hX) rfl rfl ?_
  refine A_iload_n (q := 25) cx dX8_deals_24 rfl rfl ?_
  refine A_iconst (v := 1) (q := 26) cx dX8_deals_25 (by decide) rfl ?_
  refine A_iadd (q := 27) cx dX8_deals_26 rfl ?_
  refine A_iaload (q := 28) cx dX8_deals_27 rfl (in9 hX (by decide)) (ixA (ixA (ixc 10) (ixM (ixc 2) (ixA (ixM (ixc 8) rfl) rfl))) (ixc 1)) (by show _ < 235; omega) rfl ?_
  refine A_if_le (tgt := 74) (q := 31) cx dX8_deals_28 (by decide) rfl (fun c_28 => ?_) (fun c_28 => ?_)
  · refine A_iload (q := 76) cx dX8_deals_74 rfl rfl ?_
    refine A_aload_n (q := 77) cx dX8_deals_76 rfl rfl rfl ?_
    refine gX8_3 (q := 80) cx wi_X8_deals_X8 wf_X8_deals_7 dX8_deals_77 rfl (in8 hX) rfl rfl ?_
    refine A_iload_n (q := 81) cx dX8_deals_80 rfl rfl ?_
    refine A_iaload (q := 82) cx dX8_deals_81 rfl (in9 hX (by decide)) (ixA (ixc 10) (ixM (ixc 2) (ixA (ixM (ixc 8) rfl) rfl))) (by show _ < 235; omega) rfl ?_
    refine A_icmp_eq (tgt := 133) (q := 85) cx dX8_deals_82 (by decide) rfl (fun c_82 => ?_) (fun c_82 => ?_)
    · exact A_vret cx hlk hr hQ dX8_deals_133 (by first | (simp only [mDeals, mDeal, mHl, fp, *, if_true, if_false, true_or, or_true, or_self, or_false, false_or]; done) | (simp_all [mDeals, mDeal, mHl, fp]; done))
    · refine A_aload_n (q := 86) cx dX8_deals_85 rfl rfl rfl ?_
      refine gX8_3 (q := 89) cx wi_X8_deals_X8 wf_X8_deals_7 dX8_deals_86 rfl (in8 hX) rfl rfl ?_
      refine A_iload_n (q := 90) cx dX8_deals_89 rfl rfl ?_
      refine A_iaload (q := 91) cx dX8_deals_90 rfl (in9 hX (by decide)) (ixA (ixc 10) (ixM (ixc 2) (ixA (ixM (ixc 8) rfl) rfl))) (by show _ < 235; omega) rfl ?_
      refine A_bipush (v := -4) (q := 93) cx dX8_deals_91 (by decide) rfl ?_
      refine A_icmp_eq (tgt := 110) (q := 96) cx dX8_deals_93 (by decide) rfl (fun c_93 => ?_) (fun c_93 => ?_)
      · refine A_aload_n (q := 111) cx dX8_deals_110 rfl rfl rfl ?_
        refine gX8_3 (q := 114) cx wi_X8_deals_X8 wf_X8_deals_7 dX8_deals_111 rfl (in8 hX) rfl rfl ?_
        refine A_iload_n (q := 115) cx dX8_deals_114 rfl rfl ?_
        refine A_iload (q := 117) cx dX8_deals_115 rfl rfl ?_
        refine A_iastore (q := 118) cx dX8_deals_117 rfl (in9 hX (by decide)) (ixA (ixc 10) (ixM (ixc 2) (ixA (ixM (ixc 8) rfl) rfl))) (by show _ < 235; omega) rfl ?_
        refine A_goto (q := 133) cx dX8_deals_118 (by decide) ?_
        exact A_vret cx hlk hr hQ dX8_deals_133 (by first | (simp only [mDeals, mDeal, mHl, fp, *, if_true, if_false, true_or, or_true, or_self, or_false, false_or]; done) | (simp_all [mDeals, mDeal, mHl, fp]; done))
      · refine A_iload (q := 98) cx dX8_deals_96 rfl rfl ?_
        refine A_bipush (v := -4) (q := 100) cx dX8_deals_98 (by decide) rfl ?_
        refine A_icmp_eq (tgt := 110) (q := 103) cx dX8_deals_100 (by decide) rfl (fun c_100 => ?_) (fun c_100 => ?_)
        · refine A_aload_n (q := 111) cx dX8_deals_110 rfl rfl rfl ?_
          refine gX8_3 (q := 114) cx wi_X8_deals_X8 wf_X8_deals_7 dX8_deals_111 rfl (in8 hX) rfl rfl ?_
          refine A_iload_n (q := 115) cx dX8_deals_114 rfl rfl ?_
          refine A_iload (q := 117) cx dX8_deals_115 rfl rfl ?_
          refine A_iastore (q := 118) cx dX8_deals_117 rfl (in9 hX (by decide)) (ixA (ixc 10) (ixM (ixc 2) (ixA (ixM (ixc 8) rfl) rfl))) (by show _ < 235; omega) rfl ?_
          refine A_goto (q := 133) cx dX8_deals_118 (by decide) ?_
          exact A_vret cx hlk hr hQ dX8_deals_133 (by first | (simp only [mDeals, mDeal, mHl, fp, *, if_true, if_false, true_or, or_true, or_self, or_false, false_or]; done) | (simp_all [mDeals, mDeal, mHl, fp]; done))
        · refine A_aload_n (q := 104) cx dX8_deals_103 rfl rfl rfl ?_
          refine gX8_2 (q := 107) cx wi_X8_deals_X8 wf_X8_deals_89 dX8_deals_104 rfl (in8 hX) rfl ?_
          refine A_if_ne (tgt := 121) (q := 110) cx dX8_deals_107 (by decide) rfl (fun c_107 => ?_) (fun c_107 => ?_)
          · refine A_aload_n (q := 122) cx dX8_deals_121 rfl rfl rfl ?_
            refine gX8_3 (q := 125) cx wi_X8_deals_X8 wf_X8_deals_7 dX8_deals_122 rfl (in8 hX) rfl rfl ?_
            refine A_iload_n (q := 126) cx dX8_deals_125 rfl rfl ?_
            refine A_iconst (v := 1) (q := 127) cx dX8_deals_126 (by decide) rfl ?_
            refine A_iadd (q := 128) cx dX8_deals_127 rfl ?_
            refine A_aload_n (q := 129) cx dX8_deals_128 rfl rfl rfl ?_
            refine gX8_2 (q := 132) cx wi_X8_deals_X8 wf_X8_deals_89 dX8_deals_129 rfl (in8 hX) rfl ?_
            refine A_iastore (q := 133) cx dX8_deals_132 rfl (in9 hX (by decide)) (ixA (ixA (ixc 10) (ixM (ixc 2) (ixA (ixM (ixc 8) rfl) rfl))) (ixc 1)) (by show _ < 235; omega) rfl ?_
            exact A_vret cx hlk hr hQ dX8_deals_133 (by first | (simp only [mDeals, mDeal, mHl, fp, *, if_true, if_false, true_or, or_true, or_self, or_false, false_or]; done) | (simp_all [mDeals, mDeal, mHl, fp]; done))
          · refine A_aload_n (q := 111) cx dX8_deals_110 rfl rfl rfl ?_
            refine gX8_3 (q := 114) cx wi_X8_deals_X8 wf_X8_deals_7 dX8_deals_111 rfl (in8 hX) rfl rfl ?_
            refine A_iload_n (q := 115) cx dX8_deals_114 rfl rfl ?_
            refine A_iload (q := 117) cx dX8_deals_115 rfl rfl ?_
            refine A_iastore (q := 118) cx dX8_deals_117 rfl (in9 hX (by decide)) (ixA (ixc 10) (ixM (ixc 2) (ixA (ixM (ixc 8) rfl) rfl))) (by show _ < 235; omega) rfl ?_
            refine A_goto (q := 133) cx dX8_deals_118 (by decide) ?_
            exact A_vret cx hlk hr hQ dX8_deals_133 (by first | (simp only [mDeals, mDeal, mHl, fp, *, if_true, if_false, true_or, or_true, or_self, or_false, false_or]; done) | (simp_all [mDeals, mDeal, mHl, fp]; done))
  · refine A_aload_n (q := 32) cx dX8_deals_31 rfl rfl rfl ?_
    refine gX8_3 (q := 35) cx wi_X8_deals_X8 wf_X8_deals_7 dX8_deals_32 rfl (in8 hX) rfl rfl ?_
    refine A_iload_n (q := 36) cx dX8_deals_35 rfl rfl ?_
    refine A_iconst (v := 1) (q := 37) cx dX8_deals_36 (by decide) rfl ?_
    refine A_iadd (q := 38) cx dX8_deals_37 rfl ?_
    refine A_dup2 (q := 39) cx dX8_deals_38 rfl rfl rfl ?_
    refine A_iaload (q := 40) cx dX8_deals_39 rfl (in9 hX (by decide)) (ixA (ixA (ixc 10) (ixM (ixc 2) (ixA (ixM (ixc 8) rfl) rfl))) (ixc 1)) (by show _ < 235; omega) rfl ?_
    refine A_iconst (v := 1) (q := 41) cx dX8_deals_40 (by decide) rfl ?_
    refine A_isub (q := 42) cx dX8_deals_41 rfl ?_
    refine A_iastore (q := 43) cx dX8_deals_42 rfl (in9 hX (by decide)) (ixA (ixA (ixc 10) (ixM (ixc 2) (ixA (ixM (ixc 8) rfl) rfl))) (ixc 1)) (by show _ < 235; omega) rfl ?_
    refine A_aload_n (q := 44) cx dX8_deals_43 rfl rfl rfl ?_
    refine gX8_3 (q := 47) cx wi_X8_deals_X8 wf_X8_deals_7 dX8_deals_44 rfl (in8 hX) rfl rfl ?_
    refine A_iload_n (q := 48) cx dX8_deals_47 rfl rfl ?_
    refine A_aload_n (q := 49) cx dX8_deals_48 rfl rfl rfl ?_
    refine gX8_3 (q := 52) cx wi_X8_deals_X8 wf_X8_deals_7 dX8_deals_49 rfl (in8 hX) rfl rfl ?_
    refine A_iload_n (q := 53) cx dX8_deals_52 rfl rfl ?_
    refine A_iconst (v := 1) (q := 54) cx dX8_deals_53 (by decide) rfl ?_
    refine A_iadd (q := 55) cx dX8_deals_54 rfl ?_
    refine A_iaload (q := 56) cx dX8_deals_55 rfl (in9 hX (by decide)) (ixA (ixA (ixc 10) (ixM (ixc 2) (ixA (ixM (ixc 8) rfl) rfl))) (ixc 1)) (by show _ < 235; omega) rfl ?_
    refine A_if_ne (tgt := 64) (q := 59) cx dX8_deals_56 (by decide) rfl (fun c_56 => ?_) (fun c_56 => ?_)
    · refine A_aload_n (q := 65) cx dX8_deals_64 rfl rfl rfl ?_
      refine gX8_3 (q := 68) cx wi_X8_deals_X8 wf_X8_deals_7 dX8_deals_65 rfl (in8 hX) rfl rfl ?_
      refine A_iload_n (q := 69) cx dX8_deals_68 rfl rfl ?_
      refine A_iaload (q := 70) cx dX8_deals_69 rfl (in9 hX (by decide)) (ixA (ixc 10) (ixM (ixc 2) (ixA (ixM (ixc 8) rfl) rfl))) (by show _ < 235; omega) rfl ?_
      refine A_iastore (q := 71) cx dX8_deals_70 rfl (in9 hX (by decide)) (ixA (ixc 10) (ixM (ixc 2) (ixA (ixM (ixc 8) rfl) rfl))) (by show _ < 235; omega) rfl ?_
      refine A_goto (q := 133) cx dX8_deals_71 (by decide) ?_
      exact A_vret cx hlk hr hQ dX8_deals_133 (by first | (simp only [mDeals, mDeal, mHl, fp, *, if_true, if_false, true_or, or_true, or_self, or_false, false_or]; done) | (simp_all [mDeals, mDeal, mHl, fp]; done))
    · refine A_iload (q := 61) cx dX8_deals_59 rfl rfl ?_
      refine A_goto (q := 70) cx dX8_deals_61 (by decide) ?_
      refine A_iastore (q := 71) cx dX8_deals_70 rfl (in9 hX (by decide)) (ixA (ixc 10) (ixM (ixc 2) (ixA (ixM (ixc 8) rfl) rfl))) (by show _ < 235; omega) rfl ?_
      refine A_goto (q := 133) cx dX8_deals_71 (by decide) ?_
      exact A_vret cx hlk hr hQ dX8_deals_133 (by first | (simp only [mDeals, mDeal, mHl, fp, *, if_true, if_false, true_or, or_true, or_self, or_false, false_or]; done) | (simp_all [mDeals, mDeal, mHl, fp]; done))
theorem wi_X8_ticks_X8 : ∀ w ∈ u_ws RX8 TX8 18, w ∈ wsX8_ticks := by decide +kernel
theorem wf_X8_ticks_83 : Cond.fieldLink RX8 83 (TX8 0).1 (TX8 0).2.1 (TX8 0).2.2.1 ∈ wsX8_ticks := by decide +kernel
theorem wf_X8_ticks_7 : Cond.fieldLink RX8 7 (TX8 3).1 (TX8 3).2.1 (TX8 3).2.2.1 ∈ wsX8_ticks := by decide +kernel
set_option maxHeartbeats 1000000 in
set_option maxRecDepth 100000 in
theorem ct_X8_ticks {la : Launch} {E : Ev} (hE : okE E) (hX : yin E) {σ0 : Sg} {L : Nat} (hL : σ0 (8, 0, 0, 0) 0 = nI L) (hL6 : L ≤ 6) : CV la yX8_ticks wsX8_ticks 5 121 E rh0 [.ref (ad E (8, 0, 0, 0))] σ0 (mTicks σ0 L) := by
  refine met_of (lv := [some _, none]) RX8 (by decide) rfl rfl rfl hE (ok1 rfl) (Nat.le_of_ble_eq_true rfl) (fun p ev s m args below meth c Q cx hlk hr hQ => ?_)
  have l3 : ∀ (d i : Nat) (σ : Sg), i + d = 16 → σ (8, 0, 0, 0) 0 = nI L → mT3 L d i σ = mTicks σ0 L → AW p la ev (rmm 5 121) s m args below meth c 0 0 Q (AL E) E rh0 78 [some (.ref (ad E (8, 0, 0, 0))), some (.int (nI i))] [] σ := by
    intro d
    induction d with
    | zero =>
      intro i σ hi hL2 hF
      obtain rfl : i = 16 := by omega
      refine A_iload_n (q := 79) cx dX8_ticks_78 rfl rfl ?_
      refine A_bipush (v := 16) (q := 81) cx dX8_ticks_79 (by decide) rfl ?_
      refine A_icmp_ge (tgt := 102) (q := 84) cx dX8_ticks_81 (by decide) rfl (fun c_81 => ?_) (fun c_81 => ?_)
      · exact A_vret cx hlk hr hQ dX8_ticks_102 hF
      · exact absurd (by decide) c_81
    | succ d ih =>
      intro i σ hi hL2 hF
      refine A_iload_n (q := 79) cx dX8_ticks_78 rfl rfl ?_
      refine A_bipush (v := 16) (q := 81) cx dX8_ticks_79 (by decide) rfl ?_
      refine A_icmp_ge (tgt := 102) (q := 84) cx dX8_ticks_81 (by decide) rfl (fun c_81 => ?_) (fun c_81 => ?_)
      · exact absurd c_81 (not_ge (i := i) (b := 16) (by omega) (by decide))
      · refine A_aload_n (q := 85) cx dX8_ticks_84 rfl rfl rfl ?_
        refine A_iload_n (q := 86) cx dX8_ticks_85 rfl rfl ?_
        refine A_bipush (v := 8) (q := 88) cx dX8_ticks_86 (by decide) rfl ?_
        refine A_idiv (q := 89) cx dX8_ticks_88 (by decide) rfl ?_
        rw [ixD (a := i) (b := 8) rfl (ixc 8) (by omega) (by decide) (by decide)]
        refine A_iload_n (q := 90) cx dX8_ticks_89 rfl rfl ?_
        refine A_bipush (v := 8) (q := 92) cx dX8_ticks_90 (by decide) rfl ?_
        refine A_irem (q := 93) cx dX8_ticks_92 (by decide) rfl ?_
        rw [ixR (a := i) (b := 8) rfl (ixc 8) (by omega) (by decide) (by decide)]
        refine VV2 (q := 96) cx (ct_X8_deals hE hX hL2 hL6) (cwV 2 cx.1.2.2.2.2 gX8_ticks_X8_deals rfl rfl rfl (by decide +kernel) ⟨Nat.le_of_ble_eq_true rfl, Nat.le_of_ble_eq_true rfl⟩) dX8_ticks_93 rfl rfl (in8 hX) rfl (Nat.le_of_ble_eq_true rfl) ⟨Nat.zero_le _, Nat.zero_le _⟩ rfl ?_
        refine A_iinc (lv' := [some _, some _]) (q := 99) cx dX8_ticks_96 rfl (nI_1 i) rfl rfl ?_
        refine A_goto (q := 78) cx dX8_ticks_99 (by decide) ?_
        exact ih (i + 1) _ (by omega) ((mag_deals (mag.rf _)).m 0 hL2) hF
  have l2 : ∀ (d i : Nat) (σ : Sg), i + d = 2 * L → σ (8, 0, 0, 0) 0 = nI L → mT3 L 16 0 (mT2 d i σ) = mTicks σ0 L → AW p la ev (rmm 5 121) s m args below meth c 0 0 Q (AL E) E rh0 50 [some (.ref (ad E (8, 0, 0, 0))), some (.int (nI i))] [] σ := by
    intro d
    induction d with
    | zero =>
      intro i σ hi hL2 hF
      refine A_iload_n (q := 51) cx dX8_ticks_50 rfl rfl ?_
      refine A_iconst (v := 2) (q := 52) cx dX8_ticks_51 (by decide) rfl ?_
      refine A_aload_n (q := 53) cx dX8_ticks_52 rfl rfl rfl ?_
      refine gX8_0 (q := 56) cx wi_X8_ticks_X8 wf_X8_ticks_83 dX8_ticks_53 rfl (in8 hX) rfl ?_
      refine A_imul (q := 57) cx dX8_ticks_56 rfl ?_
      refine A_icmp_ge (tgt := 76) (q := 60) cx dX8_ticks_57 (by decide) rfl (fun c_57 => ?_) (fun c_57 => ?_)
      · refine A_iconst (v := 0) (q := 77) cx dX8_ticks_76 (by decide) rfl ?_
        refine A_istore_n (lv' := [some _, some _]) (q := 78) cx dX8_ticks_77 (Nat.le_of_ble_eq_true rfl) rfl rfl ?_
        exact l3 16 0 _ rfl hL2 hF
      · exact absurd (lge (ixM (ixc 2) hL2) (by omega) (by omega)) c_57
    | succ d ih =>
      intro i σ hi hL2 hF
      refine A_iload_n (q := 51) cx dX8_ticks_50 rfl rfl ?_
      refine A_iconst (v := 2) (q := 52) cx dX8_ticks_51 (by decide) rfl ?_
      refine A_aload_n (q := 53) cx dX8_ticks_52 rfl rfl rfl ?_
      refine gX8_0 (q := 56) cx wi_X8_ticks_X8 wf_X8_ticks_83 dX8_ticks_53 rfl (in8 hX) rfl ?_
      refine A_imul (q := 57) cx dX8_ticks_56 rfl ?_
      refine A_icmp_ge (tgt := 76) (q := 60) cx dX8_ticks_57 (by decide) rfl (fun c_57 => ?_) (fun c_57 => ?_)
      · exact absurd c_57 (lnge (ixM (ixc 2) hL2) (by omega) (by omega))
      · refine A_aload_n (q := 61) cx dX8_ticks_60 rfl rfl rfl ?_
        refine A_iload_n (q := 62) cx dX8_ticks_61 rfl rfl ?_
        refine A_iconst (v := 2) (q := 63) cx dX8_ticks_62 (by decide) rfl ?_
        refine A_irem (q := 64) cx dX8_ticks_63 (by decide) rfl ?_
        rw [ixR (a := i) (b := 2) rfl (ixc 2) (by omega) (by decide) (by decide)]
        refine A_iload_n (q := 65) cx dX8_ticks_64 rfl rfl ?_
        refine A_iconst (v := 2) (q := 66) cx dX8_ticks_65 (by decide) rfl ?_
        refine A_idiv (q := 67) cx dX8_ticks_66 (by decide) rfl ?_
        rw [ixD (a := i) (b := 2) rfl (ixc 2) (by omega) (by decide) (by decide)]
        refine VV2 (q := 70) cx (ct_X8_sends hE hX) (cwV 2 cx.1.2.2.2.2 gX8_ticks_X8_sends rfl rfl rfl (by decide +kernel) ⟨Nat.le_of_ble_eq_true rfl, Nat.le_of_ble_eq_true rfl⟩) dX8_ticks_67 rfl rfl (in8 hX) rfl (Nat.le_of_ble_eq_true rfl) ⟨Nat.zero_le _, Nat.zero_le _⟩ rfl ?_
        refine A_iinc (lv' := [some _, some _]) (q := 73) cx dX8_ticks_70 rfl (nI_1 i) rfl rfl ?_
        refine A_goto (q := 50) cx dX8_ticks_73 (by decide) ?_
        exact ih (i + 1) _ (by omega) ((mag_sends (mag.rf _)).m 0 hL2) hF
  have l1 : ∀ (d i : Nat) (σ : Sg), i + d = 2 * L → σ (8, 0, 0, 0) 0 = nI L → mT3 L 16 0 (mT2 (2 * L) 0 (mBec (mBec (mT1 d i σ) 0 L) 1 L)) = mTicks σ0 L → AW p la ev (rmm 5 121) s m args below meth c 0 0 Q (AL E) E rh0 12 [some (.ref (ad E (8, 0, 0, 0))), some (.int (nI i))] [] σ := by
    intro d
    induction d with
    | zero =>
      intro i σ hi hL2 hF
      refine A_iload_n (q := 13) cx dX8_ticks_12 rfl rfl ?_
      refine A_iconst (v := 2) (q := 14) cx dX8_ticks_13 (by decide) rfl ?_
      refine A_aload_n (q := 15) cx dX8_ticks_14 rfl rfl rfl ?_
      refine gX8_0 (q := 18) cx wi_X8_ticks_X8 wf_X8_ticks_83 dX8_ticks_15 rfl (in8 hX) rfl ?_
      refine A_imul (q := 19) cx dX8_ticks_18 rfl ?_
      refine A_icmp_ge (tgt := 38) (q := 22) cx dX8_ticks_19 (by decide) rfl (fun c_19 => ?_) (fun c_19 => ?_)
      · refine A_aload_n (q := 39) cx dX8_ticks_38 rfl rfl rfl ?_
        refine A_iconst (v := 0) (q := 40) cx dX8_ticks_39 (by decide) rfl ?_
        refine VV1 (q := 43) cx (ct_X8_becomesHow (e := 0) hE hX hL2 hL6) (cwV 1 cx.1.2.2.2.2 gX8_ticks_X8_becomesHow rfl rfl rfl (by decide +kernel) ⟨Nat.le_of_ble_eq_true rfl, Nat.le_of_ble_eq_true rfl⟩) dX8_ticks_40 rfl rfl (in8 hX) rfl (Nat.le_of_ble_eq_true rfl) ⟨Nat.zero_le _, Nat.zero_le _⟩ rfl ?_
        refine A_aload_n (q := 44) cx dX8_ticks_43 rfl rfl rfl ?_
        refine A_iconst (v := 1) (q := 45) cx dX8_ticks_44 (by decide) rfl ?_
        refine VV1 (q := 48) cx (ct_X8_becomesHow (e := 1) hE hX ((mag_bec (mag.rf _)).m 0 hL2) hL6) (cwV 1 cx.1.2.2.2.2 gX8_ticks_X8_becomesHow rfl rfl rfl (by decide +kernel) ⟨Nat.le_of_ble_eq_true rfl, Nat.le_of_ble_eq_true rfl⟩) dX8_ticks_45 rfl rfl (in8 hX) rfl (Nat.le_of_ble_eq_true rfl) ⟨Nat.zero_le _, Nat.zero_le _⟩ rfl ?_
        refine A_iconst (v := 0) (q := 49) cx dX8_ticks_48 (by decide) rfl ?_
        refine A_istore_n (lv' := [some _, some _]) (q := 50) cx dX8_ticks_49 (Nat.le_of_ble_eq_true rfl) rfl rfl ?_
        exact l2 (2 * L) 0 _ (by omega) ((mag_bec (mag_bec (mag.rf _))).m 0 hL2) hF
      · exact absurd (lge (ixM (ixc 2) hL2) (by omega) (by omega)) c_19
    | succ d ih =>
      intro i σ hi hL2 hF
      refine A_iload_n (q := 13) cx dX8_ticks_12 rfl rfl ?_
      refine A_iconst (v := 2) (q := 14) cx dX8_ticks_13 (by decide) rfl ?_
      refine A_aload_n (q := 15) cx dX8_ticks_14 rfl rfl rfl ?_
      refine gX8_0 (q := 18) cx wi_X8_ticks_X8 wf_X8_ticks_83 dX8_ticks_15 rfl (in8 hX) rfl ?_
      refine A_imul (q := 19) cx dX8_ticks_18 rfl ?_
      refine A_icmp_ge (tgt := 38) (q := 22) cx dX8_ticks_19 (by decide) rfl (fun c_19 => ?_) (fun c_19 => ?_)
      · exact absurd c_19 (lnge (ixM (ixc 2) hL2) (by omega) (by omega))
      · refine A_aload_n (q := 23) cx dX8_ticks_22 rfl rfl rfl ?_
        refine A_iload_n (q := 24) cx dX8_ticks_23 rfl rfl ?_
        refine A_iconst (v := 2) (q := 25) cx dX8_ticks_24 (by decide) rfl ?_
        refine A_irem (q := 26) cx dX8_ticks_25 (by decide) rfl ?_
        rw [ixR (a := i) (b := 2) rfl (ixc 2) (by omega) (by decide) (by decide)]
        refine A_iload_n (q := 27) cx dX8_ticks_26 rfl rfl ?_
        refine A_iconst (v := 2) (q := 28) cx dX8_ticks_27 (by decide) rfl ?_
        refine A_idiv (q := 29) cx dX8_ticks_28 (by decide) rfl ?_
        rw [ixD (a := i) (b := 2) rfl (ixc 2) (by omega) (by decide) (by decide)]
        refine VV2 (q := 32) cx (ct_X8_comes hE hX) (cwV 2 cx.1.2.2.2.2 gX8_ticks_X8_comes rfl rfl rfl (by decide +kernel) ⟨Nat.le_of_ble_eq_true rfl, Nat.le_of_ble_eq_true rfl⟩) dX8_ticks_29 rfl rfl (in8 hX) rfl (Nat.le_of_ble_eq_true rfl) ⟨Nat.zero_le _, Nat.zero_le _⟩ rfl ?_
        refine A_iinc (lv' := [some _, some _]) (q := 35) cx dX8_ticks_32 rfl (nI_1 i) rfl rfl ?_
        refine A_goto (q := 12) cx dX8_ticks_35 (by decide) ?_
        exact ih (i + 1) _ (by omega) ((mag_comes (mag.rf _)).m 0 hL2) hF
  refine A_aload_n (q := 1) cx dX8_ticks_0 rfl rfl rfl ?_
  refine gX8_3 (q := 4) cx wi_X8_ticks_X8 wf_X8_ticks_7 dX8_ticks_1 rfl (in8 hX) rfl rfl ?_
  refine A_iconst (v := 3) (q := 5) cx dX8_ticks_4 (by decide) rfl ?_
  refine A_dup2 (q := 6) cx dX8_ticks_5 rfl rfl rfl ?_
  refine A_iaload (q := 7) cx dX8_ticks_6 rfl (in9 hX (by decide)) (ixc 3) (by show _ < 235; first | omega | (simp only [pl]; omega)) rfl ?_
  refine A_iconst (v := 1) (q := 8) cx dX8_ticks_7 (by decide) rfl ?_
  refine A_iadd (q := 9) cx dX8_ticks_8 rfl ?_
  refine A_iastore (q := 10) cx dX8_ticks_9 rfl (in9 hX (by decide)) (ixc 3) (by show _ < 235; first | omega | (simp only [pl]; omega)) rfl ?_
  refine A_iconst (v := 0) (q := 11) cx dX8_ticks_10 (by decide) rfl ?_
  refine A_istore_n (lv' := [some _, some _]) (q := 12) cx dX8_ticks_11 (Nat.le_of_ble_eq_true rfl) rfl rfl ?_
  exact l1 (2 * L) 0 _ (by omega) hL rfl
