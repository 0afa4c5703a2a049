section LAWR
variable {p : Program} {l : Launch} {e : Env} {R : Room} {s : State} {m : MethodId} {args : Array Value} {below : List Frame} {meth : Method} {c : Code} {cells slots : Nat} {Q : State → Prop} {A : Nat → Prop} {E : Ev} {ρ : Rh} {σ σ' : Sg} {pc q : Nat} {lv : List (Option Value)} {st : List Value} {own : String} {cc : ByteArray} {nL : Nat} {Ts : List Cond} {b L : Nat} {xs : Nat → Int32}
theorem A_sld (cx : Cx p s m args c E A own cc nL Ts) (hX : va_X b L xs s s.heap) (hbl : b < s.heap.size) (hbA : ¬ A b) {i : Int32} {j : Nat} (hi : i = nI j) (hj : j < L) (hL : L ≤ 2560) (hd : decode cc pc = .ok (.iaload, 1)) (hq : pc + 1 = q) (kk : AW p l e R s m args below meth c cells slots Q A E ρ q lv (.int (xs j) :: st) σ) : AW p l e R s m args below meth c cells slots Q A E ρ pc lv (.int i :: .ref b :: st) σ := fun H locs ls hP hS hl => by
  subst hq hi
  have hc : (nI j).toNatClampNeg = j := nI_clamp (by omega)
  refine va_sld cx.1.1 cx.1.2.1 hX hbl hbA hS (i := nI j) (nI_in hj (by omega)) hd ?_
  rw [hc]
  exact kk H locs ls hP hS hl
theorem A_slen (cx : Cx p s m args c E A own cc nL Ts) (hX : va_X b L xs s s.heap) (hbl : b < s.heap.size) (hbA : ¬ A b) (hd : decode cc pc = .ok (.arraylength, 1)) (hq : pc + 1 = q) (kk : AW p l e R s m args below meth c cells slots Q A E ρ q lv (.int (nI L) :: st) σ) : AW p l e R s m args below meth c cells slots Q A E ρ pc lv (.ref b :: st) σ := fun H locs ls hP hS hl => by
  subst hq
  exact va_slen cx.1.1 cx.1.2.1 hX hbl hbA hS hd (kk H locs ls hP hS hl)
end LAWR
theorem law_gt {i L : Nat} (hi : i ≤ 2560) (hL : L ≤ 2560) : (nI L - 5 < nI i) ↔ L < i + 5 := by
  have h1 : (nI L).toInt = L := nI_toInt (by omega)
  have h2 : (nI i).toInt = i := nI_toInt (by omega)
  have h5 : (5 : Int32).toInt = 5 := by decide
  rw [Int32.lt_iff_toInt_lt, Int32.toInt_sub, h1, h2, h5]
  have hb : ((L : Int) - 5).bmod (2 ^ 32) = (L : Int) - 5 := by
    apply Int.bmod_eq_of_le <;> omega
  rw [hb]
  omega

def Pr_write (la : Launch) (E : Ev) (Inv : Sg → Prop) : Prop := ∀ (σ : Sg) (v1 : Int32), Inv σ → ∃ (r : Int32) (σ1 σ2 : Sg), CI la yX7_write wsX7_write 1 21 E rh0 [.ref (ad E (7, 0, 0, 0)), .int v1] σ r σ1 ∧ CI la yX8_write wsX8_write 1 22 E rh0 [.ref (ad E (8, 0, 0, 0)), .int v1] σ1 r σ2 ∧ Inv σ2
def Pr_wipe (la : Launch) (E : Ev) (Inv : Sg → Prop) : Prop := ∀ (σ : Sg), Inv σ → ∃ (r : Int32) (σ1 σ2 : Sg), CI la yX7_wipe wsX7_wipe 1 20 E rh0 [.ref (ad E (7, 0, 0, 0))] σ r σ1 ∧ CI la yX8_wipe wsX8_wipe 0 0 E rh0 [.ref (ad E (8, 0, 0, 0))] σ1 r σ2 ∧ Inv σ2
def Pr_fault (la : Launch) (E : Ev) (Inv : Sg → Prop) : Prop := ∀ (σ : Sg), Inv σ → ∃ (r : Int32) (σ1 σ2 : Sg), CI la yX7_fault wsX7_fault 4 90 E rh0 [.ref (ad E (7, 0, 0, 0))] σ r σ1 ∧ CI la yX8_fault wsX8_fault 4 87 E rh0 [.ref (ad E (8, 0, 0, 0))] σ1 r σ2 ∧ Inv σ2
def Pr_lay (la : Launch) (E : Ev) (Inv : Sg → Prop) : Prop := ∀ (σ : Sg), Inv σ → ∃ (r : Int32) (σ1 σ2 : Sg), CI la yX7_lay wsX7_lay 5 112 E rh0 [.ref (ad E (7, 0, 0, 0))] σ r σ1 ∧ CI la yX8_lay wsX8_lay 4 87 E rh0 [.ref (ad E (8, 0, 0, 0))] σ1 r σ2 ∧ Inv σ2
def Pr_plug (la : Launch) (E : Ev) (Inv : Sg → Prop) : Prop := ∀ (σ : Sg) (v1 v2 : Int32), Inv σ → ∃ (r : Int32) (σ1 σ2 : Sg), CI la yX7_plug wsX7_plug 5 106 E rh0 [.ref (ad E (7, 0, 0, 0)), .int v1, .int v2] σ r σ1 ∧ CI la yX8_plug wsX8_plug 2 43 E rh0 [.ref (ad E (8, 0, 0, 0)), .int v1, .int v2] σ1 r σ2 ∧ Inv σ2
def Pr_mute (la : Launch) (E : Ev) (Inv : Sg → Prop) : Prop := ∀ (σ : Sg) (v1 v2 v3 : Int32), Inv σ → ∃ (r : Int32) (σ1 σ2 : Sg), CI la yX7_mute wsX7_mute 5 106 E rh0 [.ref (ad E (7, 0, 0, 0)), .int v1, .int v2, .int v3] σ r σ1 ∧ CI la yX8_mute wsX8_mute 2 43 E rh0 [.ref (ad E (8, 0, 0, 0)), .int v1, .int v2, .int v3] σ1 r σ2 ∧ Inv σ2
def Pr_tell (la : Launch) (E : Ev) (Inv : Sg → Prop) : Prop := ∀ (σ : Sg) (v1 v2 v3 v4 : Int32), Inv σ → ∃ (r : Int32) (σ1 σ2 : Sg), CI la yX7_tell wsX7_tell 5 106 E rh0 [.ref (ad E (7, 0, 0, 0)), .int v1, .int v2, .int v3, .int v4] σ r σ1 ∧ CI la yX8_tell wsX8_tell 2 44 E rh0 [.ref (ad E (8, 0, 0, 0)), .int v1, .int v2, .int v3, .int v4] σ1 r σ2 ∧ Inv σ2
def Pr_set (la : Launch) (E : Ev) (Inv : Sg → Prop) : Prop := ∀ (σ : Sg) (v1 v2 : Int32), Inv σ → ∃ (r : Int32) (σ1 σ2 : Sg), CI la yX7_set wsX7_set 5 106 E rh0 [.ref (ad E (7, 0, 0, 0)), .int v1, .int v2] σ r σ1 ∧ CI la yX8_set wsX8_set 2 44 E rh0 [.ref (ad E (8, 0, 0, 0)), .int v1, .int v2] σ1 r σ2 ∧ Inv σ2
def Pr_tick (la : Launch) (E : Ev) (Inv : Sg → Prop) : Prop := ∀ (σ : Sg) (v1 : Int32), Inv σ → ∃ (r : Int32) (σ1 σ2 : Sg), CI la yX7_tick wsX7_tick 5 115 E rh0 [.ref (ad E (7, 0, 0, 0)), .int v1] σ r σ1 ∧ CI la yX8_tick wsX8_tick 6 142 E rh0 [.ref (ad E (8, 0, 0, 0)), .int v1] σ1 r σ2 ∧ Inv σ2
def Pr_undo (la : Launch) (E : Ev) (Inv : Sg → Prop) : Prop := ∀ (σ : Sg), Inv σ → ∃ (r : Int32) (σ1 σ2 : Sg), CI la yX7_undo wsX7_undo 4 85 E rh0 [.ref (ad E (7, 0, 0, 0))] σ r σ1 ∧ CI la yX8_undo wsX8_undo 0 0 E rh0 [.ref (ad E (8, 0, 0, 0))] σ1 r σ2 ∧ Inv σ2
def Pr_link (la : Launch) (E : Ev) (Inv : Sg → Prop) : Prop := ∀ (σ : Sg) (v1 v2 v3 : Int32), Inv σ → ∃ (r : Int32) (σ1 σ2 : Sg), CI la yX7_link wsX7_link 2 44 E rh0 [.ref (ad E (7, 0, 0, 0)), .int v1, .int v2, .int v3] σ r σ1 ∧ CI la yX8_link wsX8_link 2 43 E rh0 [.ref (ad E (8, 0, 0, 0)), .int v1, .int v2, .int v3] σ1 r σ2 ∧ Inv σ2
def Pr_bundle (la : Launch) (E : Ev) (Inv : Sg → Prop) : Prop := ∀ (σ : Sg) (v1 v2 : Int32), Inv σ → ∃ (r : Int32) (σ1 σ2 : Sg), CI la yX7_bundle wsX7_bundle 2 44 E rh0 [.ref (ad E (7, 0, 0, 0)), .int v1, .int v2] σ r σ1 ∧ CI la yX8_bundle wsX8_bundle 2 43 E rh0 [.ref (ad E (8, 0, 0, 0)), .int v1, .int v2] σ1 r σ2 ∧ Inv σ2
def Pr_flow (la : Launch) (E : Ev) (Inv : Sg → Prop) : Prop := ∀ (σ : Sg) (v1 v2 v3 : Int32), Inv σ → ∃ (r : Int32) (σ1 σ2 : Sg), CI la yX7_flow wsX7_flow 2 44 E rh0 [.ref (ad E (7, 0, 0, 0)), .int v1, .int v2, .int v3] σ r σ1 ∧ CI la yX8_flow wsX8_flow 3 68 E rh0 [.ref (ad E (8, 0, 0, 0)), .int v1, .int v2, .int v3] σ1 r σ2 ∧ Inv σ2
def Pr_frame (la : Launch) (E : Ev) (Inv : Sg → Prop) : Prop := ∀ (σ : Sg) (v1 v2 : Int32), Inv σ → ∃ (r : Int32) (σ1 σ2 : Sg), CI la yX7_frame wsX7_frame 2 44 E rh0 [.ref (ad E (7, 0, 0, 0)), .int v1, .int v2] σ r σ1 ∧ CI la yX8_frame wsX8_frame 2 43 E rh0 [.ref (ad E (8, 0, 0, 0)), .int v1, .int v2] σ1 r σ2 ∧ Inv σ2
def Pr_frames (la : Launch) (E : Ev) (Inv : Sg → Prop) : Prop := ∀ (σ : Sg) (v1 v2 : Int32), Inv σ → ∃ (r : Int32) (σ1 σ2 : Sg), CI la yX7_frames wsX7_frames 1 23 E rh0 [.ref (ad E (7, 0, 0, 0)), .int v1, .int v2] σ r σ1 ∧ CI la yX8_frames wsX8_frames 2 43 E rh0 [.ref (ad E (8, 0, 0, 0)), .int v1, .int v2] σ1 r σ2 ∧ Inv σ2
def Pr_agreed (la : Launch) (E : Ev) (Inv : Sg → Prop) : Prop := ∀ (σ : Sg), Inv σ → ∃ (r : Int32) (σ1 σ2 : Sg), CI la yX7_agreed wsX7_agreed 2 44 E rh0 [.ref (ad E (7, 0, 0, 0))] σ r σ1 ∧ CI la yX8_agreed wsX8_agreed 3 66 E rh0 [.ref (ad E (8, 0, 0, 0))] σ1 r σ2 ∧ Inv σ2
def Pr_settled (la : Launch) (E : Ev) (Inv : Sg → Prop) : Prop := ∀ (σ : Sg), Inv σ → ∃ (r : Int32) (σ1 σ2 : Sg), CI la yX7_settled wsX7_settled 5 115 E rh0 [.ref (ad E (7, 0, 0, 0))] σ r σ1 ∧ CI la yX8_settled wsX8_settled 7 165 E rh0 [.ref (ad E (8, 0, 0, 0))] σ1 r σ2 ∧ Inv σ2
def Pr_count (la : Launch) (E : Ev) (Inv : Sg → Prop) : Prop := ∀ (σ : Sg) (v1 : Int32), Inv σ → ∃ (r : Int32) (σ1 σ2 : Sg), CI la yX7_count wsX7_count 1 25 E rh0 [.ref (ad E (7, 0, 0, 0)), .int v1] σ r σ1 ∧ CI la yX8_count wsX8_count 1 22 E rh0 [.ref (ad E (8, 0, 0, 0)), .int v1] σ1 r σ2 ∧ Inv σ2
set_option maxHeartbeats 4000000 in
set_option maxRecDepth 100000 in
theorem law_loop {p : Program} {la : Launch} {ev : Env} {s : State} {m : MethodId} {below : List Frame} {meth : Method} {c : Code} {b L : Nat} {xs : Nat → Int32} (hL : L ≤ 2560) (C0 : lw_At p s m meth c b L xs) {E : Ev} {Inv : Sg → Prop} (cx : Cx p s m #[Value.ref b] c E (fun q : Nat => s.heap.size ≤ q) RL code 4 wsL_law) (hX : xin E) (hY : yin E) (p0 : Pr_write la E Inv) (p1 : Pr_wipe la E Inv) (p2 : Pr_fault la E Inv) (p3 : Pr_lay la E Inv) (p4 : Pr_plug la E Inv) (p5 : Pr_mute la E Inv) (p6 : Pr_tell la E Inv) (p7 : Pr_set la E Inv) (p8 : Pr_tick la E Inv) (p9 : Pr_undo la E Inv) (p10 : Pr_link la E Inv) (p11 : Pr_bundle la E Inv) (p12 : Pr_flow la E Inv) (p13 : Pr_frame la E Inv) (p14 : Pr_frames la E Inv) (p15 : Pr_agreed la E Inv) (p16 : Pr_settled la E Inv) (p17 : Pr_count la E Inv) : ∀ (n i : Nat) (σ : Sg), i ≤ 2560 → L + 5 ≤ i + 5 * n → Inv σ → AW p la ev room_1 s m #[Value.ref b] below meth c 549 5349 (lw_Z below #[Value.ref b] s) (fun q : Nat => s.heap.size ≤ q) E rh0 18 [some (.ref b), some (.ref (ad E (7, 0, 0, 0))), some (.ref (ad E (8, 0, 0, 0))), some (.int (nI i))] [] σ := by
  obtain ⟨hx, hb, hr, hml, hown, hts, hXs, hbl, hlocks, hgv⟩ := C0
  have hbA : ¬ (fun q : Nat => s.heap.size ≤ q) b := Nat.not_le.mpr hbl
  have fin : ∀ (i : Nat) (σ : Sg), AW p la ev room_1 s m #[Value.ref b] below meth c 549 5349 (lw_Z below #[Value.ref b] s) (fun q : Nat => s.heap.size ≤ q) E rh0 620 [some (.ref b), some (.ref (ad E (7, 0, 0, 0))), some (.ref (ad E (8, 0, 0, 0))), some (.int (nI i))] [] σ := by
    intro i σ
    refine A_iconst (v := 1) (q := 621) cx dL_law_620 (by decide) rfl ?_
    intro H locs ls hP hS hl
    refine va_forget (fun q hq => hS.2.2 q hq) ?_
    refine W.widen (k := 600000) (n := 7302250) (Nat.le_of_ble_eq_true rfl) (Nat.le_of_ble_eq_true rfl) ?_
    exact lw_ret hx hb hr hlocks dL_law_621
  intro n
  induction n with
  | zero =>
    intro i σ hi hin hI
    refine A_iload_n (q := 19) cx dL_law_18 rfl rfl ?_
    refine A_aload_n (q := 20) cx dL_law_19 rfl rfl rfl ?_
    refine A_slen (q := 21) cx hXs hbl hbA dL_law_20 rfl ?_
    refine A_iconst (v := 5) (q := 22) cx dL_law_21 (by decide) rfl ?_
    refine A_isub (q := 23) cx dL_law_22 rfl ?_
    refine A_icmp_gt (tgt := 620) (q := 26) cx dL_law_23 (by decide) rfl (fun c_1 => ?_) (fun c_1 => ?_)
    · exact fin i σ
    · exact absurd ((law_gt hi hL).mpr (by omega)) c_1
  | succ n ih =>
    intro i σ hi hin hI
    refine A_iload_n (q := 19) cx dL_law_18 rfl rfl ?_
    refine A_aload_n (q := 20) cx dL_law_19 rfl rfl rfl ?_
    refine A_slen (q := 21) cx hXs hbl hbA dL_law_20 rfl ?_
    refine A_iconst (v := 5) (q := 22) cx dL_law_21 (by decide) rfl ?_
    refine A_isub (q := 23) cx dL_law_22 rfl ?_
    refine A_icmp_gt (tgt := 620) (q := 26) cx dL_law_23 (by decide) rfl (fun c_1 => ?_) (fun c_1 => ?_)
    · exact fin i σ
    · have hlt : i + 5 ≤ L := by
        rcases Nat.lt_or_ge L (i + 5) with q | q
        · exact absurd ((law_gt hi hL).mpr q) c_1
        · exact q
      have nxt : ∀ (σ2 : Sg), Inv σ2 → AW p la ev room_1 s m #[Value.ref b] below meth c 549 5349 (lw_Z below #[Value.ref b] s) (fun q : Nat => s.heap.size ≤ q) E rh0 614 [some (.ref b), some (.ref (ad E (7, 0, 0, 0))), some (.ref (ad E (8, 0, 0, 0))), some (.int (nI i))] [] σ2 := by
        intro σ2 hI2
        refine A_iinc (lv' := [some _, some _, some _, some (.int (nI (i + 5)))]) (q := 617) cx dL_law_614 rfl (nI_add i 5) rfl rfl ?_
        refine A_goto (q := 18) cx dL_law_617 (by decide) ?_
        exact ih (i + 5) σ2 (by omega) (by omega) hI2
      refine A_aload_n (q := 27) cx dL_law_26 rfl rfl rfl ?_
      refine A_iload_n (q := 28) cx dL_law_27 rfl rfl ?_
      refine A_sld (q := 29) cx hXs hbl hbA rfl (by omega) hL dL_law_28 rfl ?_
      refine A_bipush (v := 31) (q := 31) cx dL_law_29 (by decide) rfl ?_
      refine A_iand (q := 32) cx dL_law_31 rfl ?_
      generalize (xs i &&& 31) = w
      by_cases hw : w.toInt < 0 ∨ 17 < w.toInt
      · exact A_tableOut (tgt := 614) cx dL_law_32 hw (by decide) (nxt σ hI)
      have hcs : w.toInt = 0 ∨ w.toInt = 1 ∨ w.toInt = 2 ∨ w.toInt = 3 ∨ w.toInt = 4 ∨ w.toInt = 5 ∨ w.toInt = 6 ∨ w.toInt = 7 ∨ w.toInt = 8 ∨ w.toInt = 9 ∨ w.toInt = 10 ∨ w.toInt = 11 ∨ w.toInt = 12 ∨ w.toInt = 13 ∨ w.toInt = 14 ∨ w.toInt = 15 ∨ w.toInt = 16 ∨ w.toInt = 17 := by omega
      rcases hcs with hk | hk | hk | hk | hk | hk | hk | hk | hk | hk | hk | hk | hk | hk | hk | hk | hk | hk
      · obtain ⟨r, σ1, σ2, h1, h2, hI2⟩ := p0 σ (xs (i + 1)) hI
        refine A_tableIn (off := 88) (tgt := 120) cx dL_law_32 (by omega) (by omega) (by rw [hk]; rfl) (by decide) ?_
        refine A_aload_n (q := 121) cx dL_law_120 rfl rfl rfl ?_
        refine A_aload_n (q := 122) cx dL_law_121 rfl rfl rfl ?_
        refine A_iload_n (q := 123) cx dL_law_122 rfl rfl ?_
        refine A_iconst (v := 1) (q := 124) cx dL_law_123 (by decide) rfl ?_
        refine A_iadd (q := 125) cx dL_law_124 rfl ?_
        refine A_sld (q := 126) (j := i + 1) cx hXs hbl hbA (nI_add i 1) (by omega) hL dL_law_125 rfl ?_
        refine VI1 (q := 129) cx h1 (cwV 1 cx.1.2.2.2.2 gL_law_X7_write rfl rfl rfl (by decide +kernel) ⟨Nat.le_of_ble_eq_true rfl, Nat.le_of_ble_eq_true rfl⟩) dL_law_126 rfl rfl (in7 hX) rfl (Nat.le_of_ble_eq_true rfl) ⟨Nat.le_of_ble_eq_true rfl, Nat.le_of_ble_eq_true rfl⟩ rfl ?_
        refine A_aload_n (q := 130) cx dL_law_129 rfl rfl rfl ?_
        refine A_aload_n (q := 131) cx dL_law_130 rfl rfl rfl ?_
        refine A_iload_n (q := 132) cx dL_law_131 rfl rfl ?_
        refine A_iconst (v := 1) (q := 133) cx dL_law_132 (by decide) rfl ?_
        refine A_iadd (q := 134) cx dL_law_133 rfl ?_
        refine A_sld (q := 135) (j := i + 1) cx hXs hbl hbA (nI_add i 1) (by omega) hL dL_law_134 rfl ?_
        refine VI1 (q := 138) cx h2 (cwV 1 cx.1.2.2.2.2 gL_law_X8_write rfl rfl rfl (by decide +kernel) ⟨Nat.le_of_ble_eq_true rfl, Nat.le_of_ble_eq_true rfl⟩) dL_law_135 rfl rfl (in8 hY) rfl (Nat.le_of_ble_eq_true rfl) ⟨Nat.le_of_ble_eq_true rfl, Nat.le_of_ble_eq_true rfl⟩ rfl ?_
        exact A_icmp_eq (tgt := 614) (q := 141) cx dL_law_138 (by decide) rfl (fun _ => nxt σ2 hI2) (fun c_1 => absurd rfl c_1)
      · obtain ⟨r, σ1, σ2, h1, h2, hI2⟩ := p1 σ  hI
        refine A_tableIn (off := 111) (tgt := 143) cx dL_law_32 (by omega) (by omega) (by rw [hk]; rfl) (by decide) ?_
        refine A_aload_n (q := 144) cx dL_law_143 rfl rfl rfl ?_
        refine VI0 (q := 147) cx h1 (cwV 0 cx.1.2.2.2.2 gL_law_X7_wipe rfl rfl rfl (by decide +kernel) ⟨Nat.le_of_ble_eq_true rfl, Nat.le_of_ble_eq_true rfl⟩) dL_law_144 rfl rfl (in7 hX) rfl (Nat.le_of_ble_eq_true rfl) ⟨Nat.le_of_ble_eq_true rfl, Nat.le_of_ble_eq_true rfl⟩ rfl ?_
        refine A_aload_n (q := 148) cx dL_law_147 rfl rfl rfl ?_
        refine VI0 (q := 151) cx h2 (cwV 0 cx.1.2.2.2.2 gL_law_X8_wipe rfl rfl rfl (by decide +kernel) ⟨Nat.le_of_ble_eq_true rfl, Nat.le_of_ble_eq_true rfl⟩) dL_law_148 rfl rfl (in8 hY) rfl (Nat.le_of_ble_eq_true rfl) ⟨Nat.le_of_ble_eq_true rfl, Nat.le_of_ble_eq_true rfl⟩ rfl ?_
        exact A_icmp_eq (tgt := 614) (q := 154) cx dL_law_151 (by decide) rfl (fun _ => nxt σ2 hI2) (fun c_1 => absurd rfl c_1)
      · obtain ⟨r, σ1, σ2, h1, h2, hI2⟩ := p2 σ  hI
        refine A_tableIn (off := 124) (tgt := 156) cx dL_law_32 (by omega) (by omega) (by rw [hk]; rfl) (by decide) ?_
        refine A_aload_n (q := 157) cx dL_law_156 rfl rfl rfl ?_
        refine VI0 (q := 160) cx h1 (cwV 0 cx.1.2.2.2.2 gL_law_X7_fault rfl rfl rfl (by decide +kernel) ⟨Nat.le_of_ble_eq_true rfl, Nat.le_of_ble_eq_true rfl⟩) dL_law_157 rfl rfl (in7 hX) rfl (Nat.le_of_ble_eq_true rfl) ⟨Nat.le_of_ble_eq_true rfl, Nat.le_of_ble_eq_true rfl⟩ rfl ?_
        refine A_aload_n (q := 161) cx dL_law_160 rfl rfl rfl ?_
        refine VI0 (q := 164) cx h2 (cwV 0 cx.1.2.2.2.2 gL_law_X8_fault rfl rfl rfl (by decide +kernel) ⟨Nat.le_of_ble_eq_true rfl, Nat.le_of_ble_eq_true rfl⟩) dL_law_161 rfl rfl (in8 hY) rfl (Nat.le_of_ble_eq_true rfl) ⟨Nat.le_of_ble_eq_true rfl, Nat.le_of_ble_eq_true rfl⟩ rfl ?_
        exact A_icmp_eq (tgt := 614) (q := 167) cx dL_law_164 (by decide) rfl (fun _ => nxt σ2 hI2) (fun c_1 => absurd rfl c_1)
      · obtain ⟨r, σ1, σ2, h1, h2, hI2⟩ := p3 σ  hI
        refine A_tableIn (off := 137) (tgt := 169) cx dL_law_32 (by omega) (by omega) (by rw [hk]; rfl) (by decide) ?_
        refine A_aload_n (q := 170) cx dL_law_169 rfl rfl rfl ?_
        refine VI0 (q := 173) cx h1 (cwV 0 cx.1.2.2.2.2 gL_law_X7_lay rfl rfl rfl (by decide +kernel) ⟨Nat.le_of_ble_eq_true rfl, Nat.le_of_ble_eq_true rfl⟩) dL_law_170 rfl rfl (in7 hX) rfl (Nat.le_of_ble_eq_true rfl) ⟨Nat.le_of_ble_eq_true rfl, Nat.le_of_ble_eq_true rfl⟩ rfl ?_
        refine A_aload_n (q := 174) cx dL_law_173 rfl rfl rfl ?_
        refine VI0 (q := 177) cx h2 (cwV 0 cx.1.2.2.2.2 gL_law_X8_lay rfl rfl rfl (by decide +kernel) ⟨Nat.le_of_ble_eq_true rfl, Nat.le_of_ble_eq_true rfl⟩) dL_law_174 rfl rfl (in8 hY) rfl (Nat.le_of_ble_eq_true rfl) ⟨Nat.le_of_ble_eq_true rfl, Nat.le_of_ble_eq_true rfl⟩ rfl ?_
        exact A_icmp_eq (tgt := 614) (q := 180) cx dL_law_177 (by decide) rfl (fun _ => nxt σ2 hI2) (fun c_1 => absurd rfl c_1)
      · obtain ⟨r, σ1, σ2, h1, h2, hI2⟩ := p4 σ (xs (i + 1)) (xs (i + 2)) hI
        refine A_tableIn (off := 150) (tgt := 182) cx dL_law_32 (by omega) (by omega) (by rw [hk]; rfl) (by decide) ?_
        refine A_aload_n (q := 183) cx dL_law_182 rfl rfl rfl ?_
        refine A_aload_n (q := 184) cx dL_law_183 rfl rfl rfl ?_
        refine A_iload_n (q := 185) cx dL_law_184 rfl rfl ?_
        refine A_iconst (v := 1) (q := 186) cx dL_law_185 (by decide) rfl ?_
        refine A_iadd (q := 187) cx dL_law_186 rfl ?_
        refine A_sld (q := 188) (j := i + 1) cx hXs hbl hbA (nI_add i 1) (by omega) hL dL_law_187 rfl ?_
        refine A_aload_n (q := 189) cx dL_law_188 rfl rfl rfl ?_
        refine A_iload_n (q := 190) cx dL_law_189 rfl rfl ?_
        refine A_iconst (v := 2) (q := 191) cx dL_law_190 (by decide) rfl ?_
        refine A_iadd (q := 192) cx dL_law_191 rfl ?_
        refine A_sld (q := 193) (j := i + 2) cx hXs hbl hbA (nI_add i 2) (by omega) hL dL_law_192 rfl ?_
        refine VI2 (q := 196) cx h1 (cwV 2 cx.1.2.2.2.2 gL_law_X7_plug rfl rfl rfl (by decide +kernel) ⟨Nat.le_of_ble_eq_true rfl, Nat.le_of_ble_eq_true rfl⟩) dL_law_193 rfl rfl (in7 hX) rfl (Nat.le_of_ble_eq_true rfl) ⟨Nat.le_of_ble_eq_true rfl, Nat.le_of_ble_eq_true rfl⟩ rfl ?_
        refine A_aload_n (q := 197) cx dL_law_196 rfl rfl rfl ?_
        refine A_aload_n (q := 198) cx dL_law_197 rfl rfl rfl ?_
        refine A_iload_n (q := 199) cx dL_law_198 rfl rfl ?_
        refine A_iconst (v := 1) (q := 200) cx dL_law_199 (by decide) rfl ?_
        refine A_iadd (q := 201) cx dL_law_200 rfl ?_
        refine A_sld (q := 202) (j := i + 1) cx hXs hbl hbA (nI_add i 1) (by omega) hL dL_law_201 rfl ?_
        refine A_aload_n (q := 203) cx dL_law_202 rfl rfl rfl ?_
        refine A_iload_n (q := 204) cx dL_law_203 rfl rfl ?_
        refine A_iconst (v := 2) (q := 205) cx dL_law_204 (by decide) rfl ?_
        refine A_iadd (q := 206) cx dL_law_205 rfl ?_
        refine A_sld (q := 207) (j := i + 2) cx hXs hbl hbA (nI_add i 2) (by omega) hL dL_law_206 rfl ?_
        refine VI2 (q := 210) cx h2 (cwV 2 cx.1.2.2.2.2 gL_law_X8_plug rfl rfl rfl (by decide +kernel) ⟨Nat.le_of_ble_eq_true rfl, Nat.le_of_ble_eq_true rfl⟩) dL_law_207 rfl rfl (in8 hY) rfl (Nat.le_of_ble_eq_true rfl) ⟨Nat.le_of_ble_eq_true rfl, Nat.le_of_ble_eq_true rfl⟩ rfl ?_
        exact A_icmp_eq (tgt := 614) (q := 213) cx dL_law_210 (by decide) rfl (fun _ => nxt σ2 hI2) (fun c_1 => absurd rfl c_1)
      · obtain ⟨r, σ1, σ2, h1, h2, hI2⟩ := p5 σ (xs (i + 1)) (xs (i + 2)) (xs (i + 3)) hI
        refine A_tableIn (off := 183) (tgt := 215) cx dL_law_32 (by omega) (by omega) (by rw [hk]; rfl) (by decide) ?_
        refine A_aload_n (q := 216) cx dL_law_215 rfl rfl rfl ?_
        refine A_aload_n (q := 217) cx dL_law_216 rfl rfl rfl ?_
        refine A_iload_n (q := 218) cx dL_law_217 rfl rfl ?_
        refine A_iconst (v := 1) (q := 219) cx dL_law_218 (by decide) rfl ?_
        refine A_iadd (q := 220) cx dL_law_219 rfl ?_
        refine A_sld (q := 221) (j := i + 1) cx hXs hbl hbA (nI_add i 1) (by omega) hL dL_law_220 rfl ?_
        refine A_aload_n (q := 222) cx dL_law_221 rfl rfl rfl ?_
        refine A_iload_n (q := 223) cx dL_law_222 rfl rfl ?_
        refine A_iconst (v := 2) (q := 224) cx dL_law_223 (by decide) rfl ?_
        refine A_iadd (q := 225) cx dL_law_224 rfl ?_
        refine A_sld (q := 226) (j := i + 2) cx hXs hbl hbA (nI_add i 2) (by omega) hL dL_law_225 rfl ?_
        refine A_aload_n (q := 227) cx dL_law_226 rfl rfl rfl ?_
        refine A_iload_n (q := 228) cx dL_law_227 rfl rfl ?_
        refine A_iconst (v := 3) (q := 229) cx dL_law_228 (by decide) rfl ?_
        refine A_iadd (q := 230) cx dL_law_229 rfl ?_
        refine A_sld (q := 231) (j := i + 3) cx hXs hbl hbA (nI_add i 3) (by omega) hL dL_law_230 rfl ?_
        refine VI3 (q := 234) cx h1 (cwV 3 cx.1.2.2.2.2 gL_law_X7_mute rfl rfl rfl (by decide +kernel) ⟨Nat.le_of_ble_eq_true rfl, Nat.le_of_ble_eq_true rfl⟩) dL_law_231 rfl rfl (in7 hX) rfl (Nat.le_of_ble_eq_true rfl) ⟨Nat.le_of_ble_eq_true rfl, Nat.le_of_ble_eq_true rfl⟩ rfl ?_
        refine A_aload_n (q := 235) cx dL_law_234 rfl rfl rfl ?_
        refine A_aload_n (q := 236) cx dL_law_235 rfl rfl rfl ?_
        refine A_iload_n (q := 237) cx dL_law_236 rfl rfl ?_
        refine A_iconst (v := 1) (q := 238) cx dL_law_237 (by decide) rfl ?_
        refine A_iadd (q := 239) cx dL_law_238 rfl ?_
        refine A_sld (q := 240) (j := i + 1) cx hXs hbl hbA (nI_add i 1) (by omega) hL dL_law_239 rfl ?_
        refine A_aload_n (q := 241) cx dL_law_240 rfl rfl rfl ?_
        refine A_iload_n (q := 242) cx dL_law_241 rfl rfl ?_
        refine A_iconst (v := 2) (q := 243) cx dL_law_242 (by decide) rfl ?_
        refine A_iadd (q := 244) cx dL_law_243 rfl ?_
        refine A_sld (q := 245) (j := i + 2) cx hXs hbl hbA (nI_add i 2) (by omega) hL dL_law_244 rfl ?_
        refine A_aload_n (q := 246) cx dL_law_245 rfl rfl rfl ?_
        refine A_iload_n (q := 247) cx dL_law_246 rfl rfl ?_
        refine A_iconst (v := 3) (q := 248) cx dL_law_247 (by decide) rfl ?_
        refine A_iadd (q := 249) cx dL_law_248 rfl ?_
        refine A_sld (q := 250) (j := i + 3) cx hXs hbl hbA (nI_add i 3) (by omega) hL dL_law_249 rfl ?_
        refine VI3 (q := 253) cx h2 (cwV 3 cx.1.2.2.2.2 gL_law_X8_mute rfl rfl rfl (by decide +kernel) ⟨Nat.le_of_ble_eq_true rfl, Nat.le_of_ble_eq_true rfl⟩) dL_law_250 rfl rfl (in8 hY) rfl (Nat.le_of_ble_eq_true rfl) ⟨Nat.le_of_ble_eq_true rfl, Nat.le_of_ble_eq_true rfl⟩ rfl ?_
        exact A_icmp_eq (tgt := 614) (q := 256) cx dL_law_253 (by decide) rfl (fun _ => nxt σ2 hI2) (fun c_1 => absurd rfl c_1)
      · obtain ⟨r, σ1, σ2, h1, h2, hI2⟩ := p6 σ (xs (i + 1)) (xs (i + 2)) (xs (i + 3)) (xs (i + 4)) hI
        refine A_tableIn (off := 226) (tgt := 258) cx dL_law_32 (by omega) (by omega) (by rw [hk]; rfl) (by decide) ?_
        refine A_aload_n (q := 259) cx dL_law_258 rfl rfl rfl ?_
        refine A_aload_n (q := 260) cx dL_law_259 rfl rfl rfl ?_
        refine A_iload_n (q := 261) cx dL_law_260 rfl rfl ?_
        refine A_iconst (v := 1) (q := 262) cx dL_law_261 (by decide) rfl ?_
        refine A_iadd (q := 263) cx dL_law_262 rfl ?_
        refine A_sld (q := 264) (j := i + 1) cx hXs hbl hbA (nI_add i 1) (by omega) hL dL_law_263 rfl ?_
        refine A_aload_n (q := 265) cx dL_law_264 rfl rfl rfl ?_
        refine A_iload_n (q := 266) cx dL_law_265 rfl rfl ?_
        refine A_iconst (v := 2) (q := 267) cx dL_law_266 (by decide) rfl ?_
        refine A_iadd (q := 268) cx dL_law_267 rfl ?_
        refine A_sld (q := 269) (j := i + 2) cx hXs hbl hbA (nI_add i 2) (by omega) hL dL_law_268 rfl ?_
        refine A_aload_n (q := 270) cx dL_law_269 rfl rfl rfl ?_
        refine A_iload_n (q := 271) cx dL_law_270 rfl rfl ?_
        refine A_iconst (v := 3) (q := 272) cx dL_law_271 (by decide) rfl ?_
        refine A_iadd (q := 273) cx dL_law_272 rfl ?_
        refine A_sld (q := 274) (j := i + 3) cx hXs hbl hbA (nI_add i 3) (by omega) hL dL_law_273 rfl ?_
        refine A_aload_n (q := 275) cx dL_law_274 rfl rfl rfl ?_
        refine A_iload_n (q := 276) cx dL_law_275 rfl rfl ?_
        refine A_iconst (v := 4) (q := 277) cx dL_law_276 (by decide) rfl ?_
        refine A_iadd (q := 278) cx dL_law_277 rfl ?_
        refine A_sld (q := 279) (j := i + 4) cx hXs hbl hbA (nI_add i 4) (by omega) hL dL_law_278 rfl ?_
        refine VI4 (q := 282) cx h1 (cwV 4 cx.1.2.2.2.2 gL_law_X7_tell rfl rfl rfl (by decide +kernel) ⟨Nat.le_of_ble_eq_true rfl, Nat.le_of_ble_eq_true rfl⟩) dL_law_279 rfl rfl (in7 hX) rfl (Nat.le_of_ble_eq_true rfl) ⟨Nat.le_of_ble_eq_true rfl, Nat.le_of_ble_eq_true rfl⟩ rfl ?_
        refine A_aload_n (q := 283) cx dL_law_282 rfl rfl rfl ?_
        refine A_aload_n (q := 284) cx dL_law_283 rfl rfl rfl ?_
        refine A_iload_n (q := 285) cx dL_law_284 rfl rfl ?_
        refine A_iconst (v := 1) (q := 286) cx dL_law_285 (by decide) rfl ?_
        refine A_iadd (q := 287) cx dL_law_286 rfl ?_
        refine A_sld (q := 288) (j := i + 1) cx hXs hbl hbA (nI_add i 1) (by omega) hL dL_law_287 rfl ?_
        refine A_aload_n (q := 289) cx dL_law_288 rfl rfl rfl ?_
        refine A_iload_n (q := 290) cx dL_law_289 rfl rfl ?_
        refine A_iconst (v := 2) (q := 291) cx dL_law_290 (by decide) rfl ?_
        refine A_iadd (q := 292) cx dL_law_291 rfl ?_
        refine A_sld (q := 293) (j := i + 2) cx hXs hbl hbA (nI_add i 2) (by omega) hL dL_law_292 rfl ?_
        refine A_aload_n (q := 294) cx dL_law_293 rfl rfl rfl ?_
        refine A_iload_n (q := 295) cx dL_law_294 rfl rfl ?_
        refine A_iconst (v := 3) (q := 296) cx dL_law_295 (by decide) rfl ?_
        refine A_iadd (q := 297) cx dL_law_296 rfl ?_
        refine A_sld (q := 298) (j := i + 3) cx hXs hbl hbA (nI_add i 3) (by omega) hL dL_law_297 rfl ?_
        refine A_aload_n (q := 299) cx dL_law_298 rfl rfl rfl ?_
        refine A_iload_n (q := 300) cx dL_law_299 rfl rfl ?_
        refine A_iconst (v := 4) (q := 301) cx dL_law_300 (by decide) rfl ?_
        refine A_iadd (q := 302) cx dL_law_301 rfl ?_
        refine A_sld (q := 303) (j := i + 4) cx hXs hbl hbA (nI_add i 4) (by omega) hL dL_law_302 rfl ?_
        refine VI4 (q := 306) cx h2 (cwV 4 cx.1.2.2.2.2 gL_law_X8_tell rfl rfl rfl (by decide +kernel) ⟨Nat.le_of_ble_eq_true rfl, Nat.le_of_ble_eq_true rfl⟩) dL_law_303 rfl rfl (in8 hY) rfl (Nat.le_of_ble_eq_true rfl) ⟨Nat.le_of_ble_eq_true rfl, Nat.le_of_ble_eq_true rfl⟩ rfl ?_
        exact A_icmp_eq (tgt := 614) (q := 309) cx dL_law_306 (by decide) rfl (fun _ => nxt σ2 hI2) (fun c_1 => absurd rfl c_1)
      · obtain ⟨r, σ1, σ2, h1, h2, hI2⟩ := p7 σ (xs (i + 1)) (xs (i + 2)) hI
        refine A_tableIn (off := 279) (tgt := 311) cx dL_law_32 (by omega) (by omega) (by rw [hk]; rfl) (by decide) ?_
        refine A_aload_n (q := 312) cx dL_law_311 rfl rfl rfl ?_
        refine A_aload_n (q := 313) cx dL_law_312 rfl rfl rfl ?_
        refine A_iload_n (q := 314) cx dL_law_313 rfl rfl ?_
        refine A_iconst (v := 1) (q := 315) cx dL_law_314 (by decide) rfl ?_
        refine A_iadd (q := 316) cx dL_law_315 rfl ?_
        refine A_sld (q := 317) (j := i + 1) cx hXs hbl hbA (nI_add i 1) (by omega) hL dL_law_316 rfl ?_
        refine A_aload_n (q := 318) cx dL_law_317 rfl rfl rfl ?_
        refine A_iload_n (q := 319) cx dL_law_318 rfl rfl ?_
        refine A_iconst (v := 2) (q := 320) cx dL_law_319 (by decide) rfl ?_
        refine A_iadd (q := 321) cx dL_law_320 rfl ?_
        refine A_sld (q := 322) (j := i + 2) cx hXs hbl hbA (nI_add i 2) (by omega) hL dL_law_321 rfl ?_
        refine VI2 (q := 325) cx h1 (cwV 2 cx.1.2.2.2.2 gL_law_X7_set rfl rfl rfl (by decide +kernel) ⟨Nat.le_of_ble_eq_true rfl, Nat.le_of_ble_eq_true rfl⟩) dL_law_322 rfl rfl (in7 hX) rfl (Nat.le_of_ble_eq_true rfl) ⟨Nat.le_of_ble_eq_true rfl, Nat.le_of_ble_eq_true rfl⟩ rfl ?_
        refine A_aload_n (q := 326) cx dL_law_325 rfl rfl rfl ?_
        refine A_aload_n (q := 327) cx dL_law_326 rfl rfl rfl ?_
        refine A_iload_n (q := 328) cx dL_law_327 rfl rfl ?_
        refine A_iconst (v := 1) (q := 329) cx dL_law_328 (by decide) rfl ?_
        refine A_iadd (q := 330) cx dL_law_329 rfl ?_
        refine A_sld (q := 331) (j := i + 1) cx hXs hbl hbA (nI_add i 1) (by omega) hL dL_law_330 rfl ?_
        refine A_aload_n (q := 332) cx dL_law_331 rfl rfl rfl ?_
        refine A_iload_n (q := 333) cx dL_law_332 rfl rfl ?_
        refine A_iconst (v := 2) (q := 334) cx dL_law_333 (by decide) rfl ?_
        refine A_iadd (q := 335) cx dL_law_334 rfl ?_
        refine A_sld (q := 336) (j := i + 2) cx hXs hbl hbA (nI_add i 2) (by omega) hL dL_law_335 rfl ?_
        refine VI2 (q := 339) cx h2 (cwV 2 cx.1.2.2.2.2 gL_law_X8_set rfl rfl rfl (by decide +kernel) ⟨Nat.le_of_ble_eq_true rfl, Nat.le_of_ble_eq_true rfl⟩) dL_law_336 rfl rfl (in8 hY) rfl (Nat.le_of_ble_eq_true rfl) ⟨Nat.le_of_ble_eq_true rfl, Nat.le_of_ble_eq_true rfl⟩ rfl ?_
        exact A_icmp_eq (tgt := 614) (q := 342) cx dL_law_339 (by decide) rfl (fun _ => nxt σ2 hI2) (fun c_1 => absurd rfl c_1)
      · obtain ⟨r, σ1, σ2, h1, h2, hI2⟩ := p8 σ (xs (i + 1)) hI
        refine A_tableIn (off := 312) (tgt := 344) cx dL_law_32 (by omega) (by omega) (by rw [hk]; rfl) (by decide) ?_
        refine A_aload_n (q := 345) cx dL_law_344 rfl rfl rfl ?_
        refine A_aload_n (q := 346) cx dL_law_345 rfl rfl rfl ?_
        refine A_iload_n (q := 347) cx dL_law_346 rfl rfl ?_
        refine A_iconst (v := 1) (q := 348) cx dL_law_347 (by decide) rfl ?_
        refine A_iadd (q := 349) cx dL_law_348 rfl ?_
        refine A_sld (q := 350) (j := i + 1) cx hXs hbl hbA (nI_add i 1) (by omega) hL dL_law_349 rfl ?_
        refine VI1 (q := 353) cx h1 (cwV 1 cx.1.2.2.2.2 gL_law_X7_tick rfl rfl rfl (by decide +kernel) ⟨Nat.le_of_ble_eq_true rfl, Nat.le_of_ble_eq_true rfl⟩) dL_law_350 rfl rfl (in7 hX) rfl (Nat.le_of_ble_eq_true rfl) ⟨Nat.le_of_ble_eq_true rfl, Nat.le_of_ble_eq_true rfl⟩ rfl ?_
        refine A_aload_n (q := 354) cx dL_law_353 rfl rfl rfl ?_
        refine A_aload_n (q := 355) cx dL_law_354 rfl rfl rfl ?_
        refine A_iload_n (q := 356) cx dL_law_355 rfl rfl ?_
        refine A_iconst (v := 1) (q := 357) cx dL_law_356 (by decide) rfl ?_
        refine A_iadd (q := 358) cx dL_law_357 rfl ?_
        refine A_sld (q := 359) (j := i + 1) cx hXs hbl hbA (nI_add i 1) (by omega) hL dL_law_358 rfl ?_
        refine VI1 (q := 362) cx h2 (cwV 1 cx.1.2.2.2.2 gL_law_X8_tick rfl rfl rfl (by decide +kernel) ⟨Nat.le_of_ble_eq_true rfl, Nat.le_of_ble_eq_true rfl⟩) dL_law_359 rfl rfl (in8 hY) rfl (Nat.le_of_ble_eq_true rfl) ⟨Nat.le_of_ble_eq_true rfl, Nat.le_of_ble_eq_true rfl⟩ rfl ?_
        exact A_icmp_eq (tgt := 614) (q := 365) cx dL_law_362 (by decide) rfl (fun _ => nxt σ2 hI2) (fun c_1 => absurd rfl c_1)
      · obtain ⟨r, σ1, σ2, h1, h2, hI2⟩ := p9 σ  hI
        refine A_tableIn (off := 335) (tgt := 367) cx dL_law_32 (by omega) (by omega) (by rw [hk]; rfl) (by decide) ?_
        refine A_aload_n (q := 368) cx dL_law_367 rfl rfl rfl ?_
        refine VI0 (q := 371) cx h1 (cwV 0 cx.1.2.2.2.2 gL_law_X7_undo rfl rfl rfl (by decide +kernel) ⟨Nat.le_of_ble_eq_true rfl, Nat.le_of_ble_eq_true rfl⟩) dL_law_368 rfl rfl (in7 hX) rfl (Nat.le_of_ble_eq_true rfl) ⟨Nat.le_of_ble_eq_true rfl, Nat.le_of_ble_eq_true rfl⟩ rfl ?_
        refine A_aload_n (q := 372) cx dL_law_371 rfl rfl rfl ?_
        refine VI0 (q := 375) cx h2 (cwV 0 cx.1.2.2.2.2 gL_law_X8_undo rfl rfl rfl (by decide +kernel) ⟨Nat.le_of_ble_eq_true rfl, Nat.le_of_ble_eq_true rfl⟩) dL_law_372 rfl rfl (in8 hY) rfl (Nat.le_of_ble_eq_true rfl) ⟨Nat.le_of_ble_eq_true rfl, Nat.le_of_ble_eq_true rfl⟩ rfl ?_
        exact A_icmp_eq (tgt := 614) (q := 378) cx dL_law_375 (by decide) rfl (fun _ => nxt σ2 hI2) (fun c_1 => absurd rfl c_1)
      · obtain ⟨r, σ1, σ2, h1, h2, hI2⟩ := p10 σ (xs (i + 1)) (xs (i + 2)) (xs (i + 3)) hI
        refine A_tableIn (off := 348) (tgt := 380) cx dL_law_32 (by omega) (by omega) (by rw [hk]; rfl) (by decide) ?_
        refine A_aload_n (q := 381) cx dL_law_380 rfl rfl rfl ?_
        refine A_aload_n (q := 382) cx dL_law_381 rfl rfl rfl ?_
        refine A_iload_n (q := 383) cx dL_law_382 rfl rfl ?_
        refine A_iconst (v := 1) (q := 384) cx dL_law_383 (by decide) rfl ?_
        refine A_iadd (q := 385) cx dL_law_384 rfl ?_
        refine A_sld (q := 386) (j := i + 1) cx hXs hbl hbA (nI_add i 1) (by omega) hL dL_law_385 rfl ?_
        refine A_aload_n (q := 387) cx dL_law_386 rfl rfl rfl ?_
        refine A_iload_n (q := 388) cx dL_law_387 rfl rfl ?_
        refine A_iconst (v := 2) (q := 389) cx dL_law_388 (by decide) rfl ?_
        refine A_iadd (q := 390) cx dL_law_389 rfl ?_
        refine A_sld (q := 391) (j := i + 2) cx hXs hbl hbA (nI_add i 2) (by omega) hL dL_law_390 rfl ?_
        refine A_aload_n (q := 392) cx dL_law_391 rfl rfl rfl ?_
        refine A_iload_n (q := 393) cx dL_law_392 rfl rfl ?_
        refine A_iconst (v := 3) (q := 394) cx dL_law_393 (by decide) rfl ?_
        refine A_iadd (q := 395) cx dL_law_394 rfl ?_
        refine A_sld (q := 396) (j := i + 3) cx hXs hbl hbA (nI_add i 3) (by omega) hL dL_law_395 rfl ?_
        refine VI3 (q := 399) cx h1 (cwV 3 cx.1.2.2.2.2 gL_law_X7_link rfl rfl rfl (by decide +kernel) ⟨Nat.le_of_ble_eq_true rfl, Nat.le_of_ble_eq_true rfl⟩) dL_law_396 rfl rfl (in7 hX) rfl (Nat.le_of_ble_eq_true rfl) ⟨Nat.le_of_ble_eq_true rfl, Nat.le_of_ble_eq_true rfl⟩ rfl ?_
        refine A_aload_n (q := 400) cx dL_law_399 rfl rfl rfl ?_
        refine A_aload_n (q := 401) cx dL_law_400 rfl rfl rfl ?_
        refine A_iload_n (q := 402) cx dL_law_401 rfl rfl ?_
        refine A_iconst (v := 1) (q := 403) cx dL_law_402 (by decide) rfl ?_
        refine A_iadd (q := 404) cx dL_law_403 rfl ?_
        refine A_sld (q := 405) (j := i + 1) cx hXs hbl hbA (nI_add i 1) (by omega) hL dL_law_404 rfl ?_
        refine A_aload_n (q := 406) cx dL_law_405 rfl rfl rfl ?_
        refine A_iload_n (q := 407) cx dL_law_406 rfl rfl ?_
        refine A_iconst (v := 2) (q := 408) cx dL_law_407 (by decide) rfl ?_
        refine A_iadd (q := 409) cx dL_law_408 rfl ?_
        refine A_sld (q := 410) (j := i + 2) cx hXs hbl hbA (nI_add i 2) (by omega) hL dL_law_409 rfl ?_
        refine A_aload_n (q := 411) cx dL_law_410 rfl rfl rfl ?_
        refine A_iload_n (q := 412) cx dL_law_411 rfl rfl ?_
        refine A_iconst (v := 3) (q := 413) cx dL_law_412 (by decide) rfl ?_
        refine A_iadd (q := 414) cx dL_law_413 rfl ?_
        refine A_sld (q := 415) (j := i + 3) cx hXs hbl hbA (nI_add i 3) (by omega) hL dL_law_414 rfl ?_
        refine VI3 (q := 418) cx h2 (cwV 3 cx.1.2.2.2.2 gL_law_X8_link rfl rfl rfl (by decide +kernel) ⟨Nat.le_of_ble_eq_true rfl, Nat.le_of_ble_eq_true rfl⟩) dL_law_415 rfl rfl (in8 hY) rfl (Nat.le_of_ble_eq_true rfl) ⟨Nat.le_of_ble_eq_true rfl, Nat.le_of_ble_eq_true rfl⟩ rfl ?_
        exact A_icmp_eq (tgt := 614) (q := 421) cx dL_law_418 (by decide) rfl (fun _ => nxt σ2 hI2) (fun c_1 => absurd rfl c_1)
      · obtain ⟨r, σ1, σ2, h1, h2, hI2⟩ := p11 σ (xs (i + 1)) (xs (i + 2)) hI
        refine A_tableIn (off := 391) (tgt := 423) cx dL_law_32 (by omega) (by omega) (by rw [hk]; rfl) (by decide) ?_
        refine A_aload_n (q := 424) cx dL_law_423 rfl rfl rfl ?_
        refine A_aload_n (q := 425) cx dL_law_424 rfl rfl rfl ?_
        refine A_iload_n (q := 426) cx dL_law_425 rfl rfl ?_
        refine A_iconst (v := 1) (q := 427) cx dL_law_426 (by decide) rfl ?_
        refine A_iadd (q := 428) cx dL_law_427 rfl ?_
        refine A_sld (q := 429) (j := i + 1) cx hXs hbl hbA (nI_add i 1) (by omega) hL dL_law_428 rfl ?_
        refine A_aload_n (q := 430) cx dL_law_429 rfl rfl rfl ?_
        refine A_iload_n (q := 431) cx dL_law_430 rfl rfl ?_
        refine A_iconst (v := 2) (q := 432) cx dL_law_431 (by decide) rfl ?_
        refine A_iadd (q := 433) cx dL_law_432 rfl ?_
        refine A_sld (q := 434) (j := i + 2) cx hXs hbl hbA (nI_add i 2) (by omega) hL dL_law_433 rfl ?_
        refine VI2 (q := 437) cx h1 (cwV 2 cx.1.2.2.2.2 gL_law_X7_bundle rfl rfl rfl (by decide +kernel) ⟨Nat.le_of_ble_eq_true rfl, Nat.le_of_ble_eq_true rfl⟩) dL_law_434 rfl rfl (in7 hX) rfl (Nat.le_of_ble_eq_true rfl) ⟨Nat.le_of_ble_eq_true rfl, Nat.le_of_ble_eq_true rfl⟩ rfl ?_
        refine A_aload_n (q := 438) cx dL_law_437 rfl rfl rfl ?_
        refine A_aload_n (q := 439) cx dL_law_438 rfl rfl rfl ?_
        refine A_iload_n (q := 440) cx dL_law_439 rfl rfl ?_
        refine A_iconst (v := 1) (q := 441) cx dL_law_440 (by decide) rfl ?_
        refine A_iadd (q := 442) cx dL_law_441 rfl ?_
        refine A_sld (q := 443) (j := i + 1) cx hXs hbl hbA (nI_add i 1) (by omega) hL dL_law_442 rfl ?_
        refine A_aload_n (q := 444) cx dL_law_443 rfl rfl rfl ?_
        refine A_iload_n (q := 445) cx dL_law_444 rfl rfl ?_
        refine A_iconst (v := 2) (q := 446) cx dL_law_445 (by decide) rfl ?_
        refine A_iadd (q := 447) cx dL_law_446 rfl ?_
        refine A_sld (q := 448) (j := i + 2) cx hXs hbl hbA (nI_add i 2) (by omega) hL dL_law_447 rfl ?_
        refine VI2 (q := 451) cx h2 (cwV 2 cx.1.2.2.2.2 gL_law_X8_bundle rfl rfl rfl (by decide +kernel) ⟨Nat.le_of_ble_eq_true rfl, Nat.le_of_ble_eq_true rfl⟩) dL_law_448 rfl rfl (in8 hY) rfl (Nat.le_of_ble_eq_true rfl) ⟨Nat.le_of_ble_eq_true rfl, Nat.le_of_ble_eq_true rfl⟩ rfl ?_
        exact A_icmp_eq (tgt := 614) (q := 454) cx dL_law_451 (by decide) rfl (fun _ => nxt σ2 hI2) (fun c_1 => absurd rfl c_1)
      · obtain ⟨r, σ1, σ2, h1, h2, hI2⟩ := p12 σ (xs (i + 1)) (xs (i + 2)) (xs (i + 3)) hI
        refine A_tableIn (off := 424) (tgt := 456) cx dL_law_32 (by omega) (by omega) (by rw [hk]; rfl) (by decide) ?_
        refine A_aload_n (q := 457) cx dL_law_456 rfl rfl rfl ?_
        refine A_aload_n (q := 458) cx dL_law_457 rfl rfl rfl ?_
        refine A_iload_n (q := 459) cx dL_law_458 rfl rfl ?_
        refine A_iconst (v := 1) (q := 460) cx dL_law_459 (by decide) rfl ?_
        refine A_iadd (q := 461) cx dL_law_460 rfl ?_
        refine A_sld (q := 462) (j := i + 1) cx hXs hbl hbA (nI_add i 1) (by omega) hL dL_law_461 rfl ?_
        refine A_aload_n (q := 463) cx dL_law_462 rfl rfl rfl ?_
        refine A_iload_n (q := 464) cx dL_law_463 rfl rfl ?_
        refine A_iconst (v := 2) (q := 465) cx dL_law_464 (by decide) rfl ?_
        refine A_iadd (q := 466) cx dL_law_465 rfl ?_
        refine A_sld (q := 467) (j := i + 2) cx hXs hbl hbA (nI_add i 2) (by omega) hL dL_law_466 rfl ?_
        refine A_aload_n (q := 468) cx dL_law_467 rfl rfl rfl ?_
        refine A_iload_n (q := 469) cx dL_law_468 rfl rfl ?_
        refine A_iconst (v := 3) (q := 470) cx dL_law_469 (by decide) rfl ?_
        refine A_iadd (q := 471) cx dL_law_470 rfl ?_
        refine A_sld (q := 472) (j := i + 3) cx hXs hbl hbA (nI_add i 3) (by omega) hL dL_law_471 rfl ?_
        refine VI3 (q := 475) cx h1 (cwV 3 cx.1.2.2.2.2 gL_law_X7_flow rfl rfl rfl (by decide +kernel) ⟨Nat.le_of_ble_eq_true rfl, Nat.le_of_ble_eq_true rfl⟩) dL_law_472 rfl rfl (in7 hX) rfl (Nat.le_of_ble_eq_true rfl) ⟨Nat.le_of_ble_eq_true rfl, Nat.le_of_ble_eq_true rfl⟩ rfl ?_
        refine A_aload_n (q := 476) cx dL_law_475 rfl rfl rfl ?_
        refine A_aload_n (q := 477) cx dL_law_476 rfl rfl rfl ?_
        refine A_iload_n (q := 478) cx dL_law_477 rfl rfl ?_
        refine A_iconst (v := 1) (q := 479) cx dL_law_478 (by decide) rfl ?_
        refine A_iadd (q := 480) cx dL_law_479 rfl ?_
        refine A_sld (q := 481) (j := i + 1) cx hXs hbl hbA (nI_add i 1) (by omega) hL dL_law_480 rfl ?_
        refine A_aload_n (q := 482) cx dL_law_481 rfl rfl rfl ?_
        refine A_iload_n (q := 483) cx dL_law_482 rfl rfl ?_
        refine A_iconst (v := 2) (q := 484) cx dL_law_483 (by decide) rfl ?_
        refine A_iadd (q := 485) cx dL_law_484 rfl ?_
        refine A_sld (q := 486) (j := i + 2) cx hXs hbl hbA (nI_add i 2) (by omega) hL dL_law_485 rfl ?_
        refine A_aload_n (q := 487) cx dL_law_486 rfl rfl rfl ?_
        refine A_iload_n (q := 488) cx dL_law_487 rfl rfl ?_
        refine A_iconst (v := 3) (q := 489) cx dL_law_488 (by decide) rfl ?_
        refine A_iadd (q := 490) cx dL_law_489 rfl ?_
        refine A_sld (q := 491) (j := i + 3) cx hXs hbl hbA (nI_add i 3) (by omega) hL dL_law_490 rfl ?_
        refine VI3 (q := 494) cx h2 (cwV 3 cx.1.2.2.2.2 gL_law_X8_flow rfl rfl rfl (by decide +kernel) ⟨Nat.le_of_ble_eq_true rfl, Nat.le_of_ble_eq_true rfl⟩) dL_law_491 rfl rfl (in8 hY) rfl (Nat.le_of_ble_eq_true rfl) ⟨Nat.le_of_ble_eq_true rfl, Nat.le_of_ble_eq_true rfl⟩ rfl ?_
        exact A_icmp_eq (tgt := 614) (q := 497) cx dL_law_494 (by decide) rfl (fun _ => nxt σ2 hI2) (fun c_1 => absurd rfl c_1)
      · obtain ⟨r, σ1, σ2, h1, h2, hI2⟩ := p13 σ (xs (i + 1)) (xs (i + 2)) hI
        refine A_tableIn (off := 467) (tgt := 499) cx dL_law_32 (by omega) (by omega) (by rw [hk]; rfl) (by decide) ?_
        refine A_aload_n (q := 500) cx dL_law_499 rfl rfl rfl ?_
        refine A_aload_n (q := 501) cx dL_law_500 rfl rfl rfl ?_
        refine A_iload_n (q := 502) cx dL_law_501 rfl rfl ?_
        refine A_iconst (v := 1) (q := 503) cx dL_law_502 (by decide) rfl ?_
        refine A_iadd (q := 504) cx dL_law_503 rfl ?_
        refine A_sld (q := 505) (j := i + 1) cx hXs hbl hbA (nI_add i 1) (by omega) hL dL_law_504 rfl ?_
        refine A_aload_n (q := 506) cx dL_law_505 rfl rfl rfl ?_
        refine A_iload_n (q := 507) cx dL_law_506 rfl rfl ?_
        refine A_iconst (v := 2) (q := 508) cx dL_law_507 (by decide) rfl ?_
        refine A_iadd (q := 509) cx dL_law_508 rfl ?_
        refine A_sld (q := 510) (j := i + 2) cx hXs hbl hbA (nI_add i 2) (by omega) hL dL_law_509 rfl ?_
        refine VI2 (q := 513) cx h1 (cwV 2 cx.1.2.2.2.2 gL_law_X7_frame rfl rfl rfl (by decide +kernel) ⟨Nat.le_of_ble_eq_true rfl, Nat.le_of_ble_eq_true rfl⟩) dL_law_510 rfl rfl (in7 hX) rfl (Nat.le_of_ble_eq_true rfl) ⟨Nat.le_of_ble_eq_true rfl, Nat.le_of_ble_eq_true rfl⟩ rfl ?_
        refine A_aload_n (q := 514) cx dL_law_513 rfl rfl rfl ?_
        refine A_aload_n (q := 515) cx dL_law_514 rfl rfl rfl ?_
        refine A_iload_n (q := 516) cx dL_law_515 rfl rfl ?_
        refine A_iconst (v := 1) (q := 517) cx dL_law_516 (by decide) rfl ?_
        refine A_iadd (q := 518) cx dL_law_517 rfl ?_
        refine A_sld (q := 519) (j := i + 1) cx hXs hbl hbA (nI_add i 1) (by omega) hL dL_law_518 rfl ?_
        refine A_aload_n (q := 520) cx dL_law_519 rfl rfl rfl ?_
        refine A_iload_n (q := 521) cx dL_law_520 rfl rfl ?_
        refine A_iconst (v := 2) (q := 522) cx dL_law_521 (by decide) rfl ?_
        refine A_iadd (q := 523) cx dL_law_522 rfl ?_
        refine A_sld (q := 524) (j := i + 2) cx hXs hbl hbA (nI_add i 2) (by omega) hL dL_law_523 rfl ?_
        refine VI2 (q := 527) cx h2 (cwV 2 cx.1.2.2.2.2 gL_law_X8_frame rfl rfl rfl (by decide +kernel) ⟨Nat.le_of_ble_eq_true rfl, Nat.le_of_ble_eq_true rfl⟩) dL_law_524 rfl rfl (in8 hY) rfl (Nat.le_of_ble_eq_true rfl) ⟨Nat.le_of_ble_eq_true rfl, Nat.le_of_ble_eq_true rfl⟩ rfl ?_
        exact A_icmp_eq (tgt := 614) (q := 530) cx dL_law_527 (by decide) rfl (fun _ => nxt σ2 hI2) (fun c_1 => absurd rfl c_1)
      · obtain ⟨r, σ1, σ2, h1, h2, hI2⟩ := p14 σ (xs (i + 1)) (xs (i + 2)) hI
        refine A_tableIn (off := 500) (tgt := 532) cx dL_law_32 (by omega) (by omega) (by rw [hk]; rfl) (by decide) ?_
        refine A_aload_n (q := 533) cx dL_law_532 rfl rfl rfl ?_
        refine A_aload_n (q := 534) cx dL_law_533 rfl rfl rfl ?_
        refine A_iload_n (q := 535) cx dL_law_534 rfl rfl ?_
        refine A_iconst (v := 1) (q := 536) cx dL_law_535 (by decide) rfl ?_
        refine A_iadd (q := 537) cx dL_law_536 rfl ?_
        refine A_sld (q := 538) (j := i + 1) cx hXs hbl hbA (nI_add i 1) (by omega) hL dL_law_537 rfl ?_
        refine A_aload_n (q := 539) cx dL_law_538 rfl rfl rfl ?_
        refine A_iload_n (q := 540) cx dL_law_539 rfl rfl ?_
        refine A_iconst (v := 2) (q := 541) cx dL_law_540 (by decide) rfl ?_
        refine A_iadd (q := 542) cx dL_law_541 rfl ?_
        refine A_sld (q := 543) (j := i + 2) cx hXs hbl hbA (nI_add i 2) (by omega) hL dL_law_542 rfl ?_
        refine VI2 (q := 546) cx h1 (cwV 2 cx.1.2.2.2.2 gL_law_X7_frames rfl rfl rfl (by decide +kernel) ⟨Nat.le_of_ble_eq_true rfl, Nat.le_of_ble_eq_true rfl⟩) dL_law_543 rfl rfl (in7 hX) rfl (Nat.le_of_ble_eq_true rfl) ⟨Nat.le_of_ble_eq_true rfl, Nat.le_of_ble_eq_true rfl⟩ rfl ?_
        refine A_aload_n (q := 547) cx dL_law_546 rfl rfl rfl ?_
        refine A_aload_n (q := 548) cx dL_law_547 rfl rfl rfl ?_
        refine A_iload_n (q := 549) cx dL_law_548 rfl rfl ?_
        refine A_iconst (v := 1) (q := 550) cx dL_law_549 (by decide) rfl ?_
        refine A_iadd (q := 551) cx dL_law_550 rfl ?_
        refine A_sld (q := 552) (j := i + 1) cx hXs hbl hbA (nI_add i 1) (by omega) hL dL_law_551 rfl ?_
        refine A_aload_n (q := 553) cx dL_law_552 rfl rfl rfl ?_
        refine A_iload_n (q := 554) cx dL_law_553 rfl rfl ?_
        refine A_iconst (v := 2) (q := 555) cx dL_law_554 (by decide) rfl ?_
        refine A_iadd (q := 556) cx dL_law_555 rfl ?_
        refine A_sld (q := 557) (j := i + 2) cx hXs hbl hbA (nI_add i 2) (by omega) hL dL_law_556 rfl ?_
        refine VI2 (q := 560) cx h2 (cwV 2 cx.1.2.2.2.2 gL_law_X8_frames rfl rfl rfl (by decide +kernel) ⟨Nat.le_of_ble_eq_true rfl, Nat.le_of_ble_eq_true rfl⟩) dL_law_557 rfl rfl (in8 hY) rfl (Nat.le_of_ble_eq_true rfl) ⟨Nat.le_of_ble_eq_true rfl, Nat.le_of_ble_eq_true rfl⟩ rfl ?_
        exact A_icmp_eq (tgt := 614) (q := 563) cx dL_law_560 (by decide) rfl (fun _ => nxt σ2 hI2) (fun c_1 => absurd rfl c_1)
      · obtain ⟨r, σ1, σ2, h1, h2, hI2⟩ := p15 σ  hI
        refine A_tableIn (off := 533) (tgt := 565) cx dL_law_32 (by omega) (by omega) (by rw [hk]; rfl) (by decide) ?_
        refine A_aload_n (q := 566) cx dL_law_565 rfl rfl rfl ?_
        refine VI0 (q := 569) cx h1 (cwV 0 cx.1.2.2.2.2 gL_law_X7_agreed rfl rfl rfl (by decide +kernel) ⟨Nat.le_of_ble_eq_true rfl, Nat.le_of_ble_eq_true rfl⟩) dL_law_566 rfl rfl (in7 hX) rfl (Nat.le_of_ble_eq_true rfl) ⟨Nat.le_of_ble_eq_true rfl, Nat.le_of_ble_eq_true rfl⟩ rfl ?_
        refine A_aload_n (q := 570) cx dL_law_569 rfl rfl rfl ?_
        refine VI0 (q := 573) cx h2 (cwV 0 cx.1.2.2.2.2 gL_law_X8_agreed rfl rfl rfl (by decide +kernel) ⟨Nat.le_of_ble_eq_true rfl, Nat.le_of_ble_eq_true rfl⟩) dL_law_570 rfl rfl (in8 hY) rfl (Nat.le_of_ble_eq_true rfl) ⟨Nat.le_of_ble_eq_true rfl, Nat.le_of_ble_eq_true rfl⟩ rfl ?_
        exact A_icmp_eq (tgt := 614) (q := 576) cx dL_law_573 (by decide) rfl (fun _ => nxt σ2 hI2) (fun c_1 => absurd rfl c_1)
      · obtain ⟨r, σ1, σ2, h1, h2, hI2⟩ := p16 σ  hI
        refine A_tableIn (off := 546) (tgt := 578) cx dL_law_32 (by omega) (by omega) (by rw [hk]; rfl) (by decide) ?_
        refine A_aload_n (q := 579) cx dL_law_578 rfl rfl rfl ?_
        refine VI0 (q := 582) cx h1 (cwV 0 cx.1.2.2.2.2 gL_law_X7_settled rfl rfl rfl (by decide +kernel) ⟨Nat.le_of_ble_eq_true rfl, Nat.le_of_ble_eq_true rfl⟩) dL_law_579 rfl rfl (in7 hX) rfl (Nat.le_of_ble_eq_true rfl) ⟨Nat.le_of_ble_eq_true rfl, Nat.le_of_ble_eq_true rfl⟩ rfl ?_
        refine A_aload_n (q := 583) cx dL_law_582 rfl rfl rfl ?_
        refine VI0 (q := 586) cx h2 (cwV 0 cx.1.2.2.2.2 gL_law_X8_settled rfl rfl rfl (by decide +kernel) ⟨Nat.le_of_ble_eq_true rfl, Nat.le_of_ble_eq_true rfl⟩) dL_law_583 rfl rfl (in8 hY) rfl (Nat.le_of_ble_eq_true rfl) ⟨Nat.le_of_ble_eq_true rfl, Nat.le_of_ble_eq_true rfl⟩ rfl ?_
        exact A_icmp_eq (tgt := 614) (q := 589) cx dL_law_586 (by decide) rfl (fun _ => nxt σ2 hI2) (fun c_1 => absurd rfl c_1)
      · obtain ⟨r, σ1, σ2, h1, h2, hI2⟩ := p17 σ (xs (i + 1)) hI
        refine A_tableIn (off := 559) (tgt := 591) cx dL_law_32 (by omega) (by omega) (by rw [hk]; rfl) (by decide) ?_
        refine A_aload_n (q := 592) cx dL_law_591 rfl rfl rfl ?_
        refine A_aload_n (q := 593) cx dL_law_592 rfl rfl rfl ?_
        refine A_iload_n (q := 594) cx dL_law_593 rfl rfl ?_
        refine A_iconst (v := 1) (q := 595) cx dL_law_594 (by decide) rfl ?_
        refine A_iadd (q := 596) cx dL_law_595 rfl ?_
        refine A_sld (q := 597) (j := i + 1) cx hXs hbl hbA (nI_add i 1) (by omega) hL dL_law_596 rfl ?_
        refine VI1 (q := 600) cx h1 (cwV 1 cx.1.2.2.2.2 gL_law_X7_count rfl rfl rfl (by decide +kernel) ⟨Nat.le_of_ble_eq_true rfl, Nat.le_of_ble_eq_true rfl⟩) dL_law_597 rfl rfl (in7 hX) rfl (Nat.le_of_ble_eq_true rfl) ⟨Nat.le_of_ble_eq_true rfl, Nat.le_of_ble_eq_true rfl⟩ rfl ?_
        refine A_aload_n (q := 601) cx dL_law_600 rfl rfl rfl ?_
        refine A_aload_n (q := 602) cx dL_law_601 rfl rfl rfl ?_
        refine A_iload_n (q := 603) cx dL_law_602 rfl rfl ?_
        refine A_iconst (v := 1) (q := 604) cx dL_law_603 (by decide) rfl ?_
        refine A_iadd (q := 605) cx dL_law_604 rfl ?_
        refine A_sld (q := 606) (j := i + 1) cx hXs hbl hbA (nI_add i 1) (by omega) hL dL_law_605 rfl ?_
        refine VI1 (q := 609) cx h2 (cwV 1 cx.1.2.2.2.2 gL_law_X8_count rfl rfl rfl (by decide +kernel) ⟨Nat.le_of_ble_eq_true rfl, Nat.le_of_ble_eq_true rfl⟩) dL_law_606 rfl rfl (in8 hY) rfl (Nat.le_of_ble_eq_true rfl) ⟨Nat.le_of_ble_eq_true rfl, Nat.le_of_ble_eq_true rfl⟩ rfl ?_
        exact A_icmp_eq (tgt := 614) (q := 612) cx dL_law_609 (by decide) rfl (fun _ => nxt σ2 hI2) (fun c_1 => absurd rfl c_1)
