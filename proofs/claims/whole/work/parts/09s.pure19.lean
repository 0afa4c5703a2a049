/-! PURE PART 19: changes. -/
theorem NR_ports {x x' : Sg} {n : Nat} {a a' : Nat → Int32} {L : Nat} {wt dr : Int32} {t : Nat} (h : NR x n a L wt dr t) (hx : ∀ k : Ky, k.1 ≠ 5 → x' k = x k) (hlo : ∀ j, j < 4 → a' j = a j) (hfl : ∀ j, 10 ≤ j → j < 42 → a' j = a j)
    (hp : ∀ e l, e < 2 → l < L → PR (x' (5, n, e, l)) (x (3, n, e, l)) (x (14, n, e, l)) (a' (4 + l)) (fun j => a' (pl e l + j)) t)
    (hd : ∀ e l, e < 2 → L ≤ l → l < 6 → x' (5, n, e, l) = x (5, n, e, l) ∧ a' (pl e l + 14) = a (pl e l + 14)) : NR x' n a' L wt dr t := by
  obtain ⟨hE, ⟨hx2, hx4, hx5, hx6, ha3, hx3, M, hM, ha2⟩, hP, hD, hF⟩ := h
  have x4 := hx (4, n, 0, 0) (by simp)
  refine ⟨fun e he => ?_, ⟨?_, ?_, ?_, ?_, ?_, ?_, M, hM, ?_⟩, fun e l he hl => ?_, fun e l he hl hl6 => ?_, fun e f he hf => ?_⟩
  · rw [hx _ (by simp), hlo (0 + e) (by omega)]; exact hE e he
  · rw [x4]; exact hx2
  · rw [x4]; exact hx4
  · rw [x4]; exact hx5
  · rw [x4]; exact hx6
  · rw [hlo 3 (by decide)]; exact ha3
  · rw [x4, hlo 2 (by decide)]; exact hx3
  · rw [hlo 2 (by decide)]; exact ha2
  · rw [hx (3, n, e, l) (by simp), hx (14, n, e, l) (by simp)]; exact hp e l he hl
  · obtain ⟨d1, d2⟩ := hd e l he hl hl6
    rw [hx (3, n, e, l) (by simp), d1, d2]; exact hD e l he hl hl6
  · rw [hx _ (by simp), hfl (fp e f + 0) (by unfold fp; omega) (by unfold fp; omega), hfl (fp e f + 1) (by unfold fp; omega) (by unfold fp; omega)]; exact hF e f he hf
theorem upd_row (a : Nat → Int32) (P i : Nat) (v : Int32) (j : Nat) : upd a (P + i) v (P + j) = upd (fun j => a (P + j)) i v j := by
  by_cases h : j = i
  · subst h; rw [pk_us, pk_us]
  · rw [pk_un (by omega), pk_un h]
theorem NR_plug {x : Sg} {a : Nat → Int32} {L : Nat} {wt dr : Int32} {t l0 : Nat} {v : Int32} (hl0 : l0 < L) (hL : L ≤ 6) (hv : v = 0 ∨ v = 1) (h : NR x 0 a L wt dr t) : NR (nPlug x 0 l0 v) 0 (upd a (4 + l0) v) L wt dr t := by
  have rows : ∀ e l, e < 2 → nPlug x 0 l0 v (5, 0, e, l) = if l = l0 then upd (x (5, 0, e, l)) 0 v else x (5, 0, e, l) := fun e l he => by
    unfold nPlug
    by_cases q : l = l0
    · subst q
      rw [if_pos rfl]
      have hee : e = 0 ∨ e = 1 := by omega
      rcases hee with rfl | rfl
      · rw [up2_nk _ _ _ _ (by simp), up2_row]
      · rw [up2_row, up2_nk _ _ _ _ (by simp)]
    · rw [if_neg q, up2_nk _ _ _ _ (by simp [q]), up2_nk _ _ _ _ (by simp [q])]
  refine NR_ports h (fun k hk => ?_) (fun j hj => pk_un (by omega)) (fun j h1 h2 => pk_un (by omega)) (fun e l he hl => ?_) (fun e l he h1 h2 => ⟨?_, pk_un (by have := pl_ge e l; omega)⟩)
  · unfold nPlug
    rw [up2_nk _ _ _ _ (fun q => hk (by rw [q])), up2_nk _ _ _ _ (fun q => hk (by rw [q]))]
  · refine PR_congr (b := fun j => a (pl e l + j)) ?_ (fun j hj => pk_un (by have := pl_ge e l; omega))
    rw [rows e l he]
    obtain ⟨⟨o1, o2, o3, o4, o5, o6⟩, hs, hh, hc⟩ := h.2.2.1 e l he hl
    by_cases q : l = l0
    · rw [if_pos q, q, pk_us]
      rw [q] at o1 o2 o3 o4 o5 o6 hs hh hc
      exact ⟨⟨b01_of hv, o2, o3, o4, o5, o6⟩, hs, hh, hc⟩
    · rw [if_neg q, pk_un (by omega)]
      exact ⟨⟨o1, o2, o3, o4, o5, o6⟩, hs, hh, hc⟩
  · rw [rows e l he, if_neg (by omega)]
/-- one port's own place i against the array's place j -/
theorem NR_port1 {x : Sg} {a : Nat → Int32} {L : Nat} {wt dr : Int32} {t e0 l0 i j : Nat} {v : Int32} (he0 : e0 < 2) (hl0 : l0 < L) (hL : L ≤ 6) (hj : j < 14) (h : NR x 0 a L wt dr t)
    (hp : PR (upd (x (5, 0, e0, l0)) i v) (x (3, 0, e0, l0)) (x (14, 0, e0, l0)) (a (4 + l0)) (upd (fun j => a (pl e0 l0 + j)) j v) t) : NR (up2 x (5, 0, e0, l0) i v) 0 (upd a (pl e0 l0 + j) v) L wt dr t := by
  have g0 := pl_ge e0 l0
  refine NR_ports h (fun k hk => ?_) (fun j' hj' => pk_un (by omega)) (fun j' h1 h2 => pk_un (by omega)) (fun e l he hl => ?_) (fun e l he h1 h2 => ⟨?_, pk_un ?_⟩)
  · rw [up2_nk _ _ _ _ (fun q => hk (by rw [q]))]
  · rw [pk_un (show 4 + l ≠ pl e0 l0 + j by omega)]
    by_cases q : e = e0 ∧ l = l0
    · obtain ⟨rfl, rfl⟩ := q
      rw [up2_row]
      exact PR_congr hp (fun j' _ => upd_row a _ _ _ _)
    · rw [up2_nk _ _ _ _ (by simp; omega)]
      refine PR_congr (h.2.2.1 e l he hl) (fun j' hj' => pk_un ?_)
      have := pl_ne (e := e) (l := l) (e' := e0) (l' := l0) he (by omega) he0 (by omega) (by omega)
      omega
  · rw [up2_nk _ _ _ _ (by simp; omega)]
  · have := pl_ne (e := e) (l := l) (e' := e0) (l' := l0) he h2 he0 (by omega) (by omega)
    omega
theorem NR_rank {x : Sg} {a : Nat → Int32} {L : Nat} {wt dr : Int32} {t e0 : Nat} {v : Int32} (he0 : e0 < 2) (hL : L ≤ 6) (h : NR x 0 a L wt dr t) : NR (up2 x (0, 0, e0, 0) 1 v) 0 (upd a e0 v) L wt dr t := by
  obtain ⟨hE, ⟨hx2, hx4, hx5, hx6, ha3, hx3, M, hM, ha2⟩, hP, hD, hF⟩ := h
  have o : ∀ k : Ky, k.1 ≠ 0 → up2 x (0, 0, e0, 0) 1 v k = x k := fun k hk => up2_nk _ _ _ _ (fun q => hk (by rw [q]))
  have u : ∀ j, 2 ≤ j → upd a e0 v j = a j := fun j hj => pk_un (by omega)
  refine ⟨fun e he => ?_, ⟨?_, ?_, ?_, ?_, ?_, ?_, M, hM, ?_⟩, fun e l he hl => ?_, fun e l he hl hl6 => ?_, fun e f he hf => ?_⟩
  · rw [Nat.zero_add]
    by_cases q : e = e0
    · subst q; rw [up2_at, up2_ne _ _ _ _ (by decide), pk_us]; exact ⟨(hE e he).1, rfl⟩
    · rw [up2_nk _ _ _ _ (by simp [q]), pk_un q]
      have := hE e he
      rw [Nat.zero_add] at this
      exact this
  · rw [o _ (by simp)]; exact hx2
  · rw [o _ (by simp)]; exact hx4
  · rw [o _ (by simp)]; exact hx5
  · rw [o _ (by simp)]; exact hx6
  · rw [u 3 (by decide)]; exact ha3
  · rw [o _ (by simp), u 2 (by decide)]; exact hx3
  · rw [u 2 (by decide)]; exact ha2
  · rw [o _ (by simp), o _ (by simp), o _ (by simp), u (4 + l) (by omega)]
    exact PR_congr (hP e l he hl) (fun j _ => u _ (by have := pl_ge e l; omega))
  · rw [o _ (by simp), o _ (by simp), u _ (by have := pl_ge e l; omega)]; exact hD e l he hl hl6
  · rw [o _ (by simp), u _ (by unfold fp; omega), u _ (by unfold fp; omega)]; exact hF e f he hf
theorem NR_most {x : Sg} {a : Nat → Int32} {L : Nat} {wt dr : Int32} {t M : Nat} (hM : M ≤ 6) (hL : L ≤ 6) (h : NR x 0 a L wt dr t) : NR (up2 x (4, 0, 0, 0) 3 (nI M)) 0 (upd a 2 (nI M)) L wt dr t := by
  obtain ⟨hE, ⟨hx2, hx4, hx5, hx6, ha3, hx3, -⟩, hP, hD, hF⟩ := h
  have o : ∀ k : Ky, k.1 ≠ 4 → up2 x (4, 0, 0, 0) 3 (nI M) k = x k := fun k hk => up2_nk _ _ _ _ (fun q => hk (by rw [q]))
  have u : ∀ j, j ≠ 2 → upd a 2 (nI M) j = a j := fun j hj => pk_un hj
  refine ⟨fun e he => ?_, ⟨?_, ?_, ?_, ?_, ?_, ?_, M, hM, ?_⟩, fun e l he hl => ?_, fun e l he hl hl6 => ?_, fun e f he hf => ?_⟩
  · rw [o _ (by simp), u _ (by omega)]; exact hE e he
  · rw [up2_ne _ _ _ _ (by decide)]; exact hx2
  · rw [up2_ne _ _ _ _ (by decide)]; exact hx4
  · rw [up2_ne _ _ _ _ (by decide)]; exact hx5
  · rw [up2_ne _ _ _ _ (by decide)]; exact hx6
  · rw [u 3 (by decide)]; exact ha3
  · rw [up2_at, pk_us]
  · rw [pk_us]
  · rw [o _ (by simp), o _ (by simp), o _ (by simp), u (4 + l) (by omega)]
    exact PR_congr (hP e l he hl) (fun j _ => u _ (by have := pl_ge e l; omega))
  · rw [o _ (by simp), o _ (by simp), u _ (by have := pl_ge e l; omega)]; exact hD e l he hl hl6
  · rw [o _ (by simp), u _ (by unfold fp; omega), u _ (by unfold fp; omega)]; exact hF e f he hf
/-- a change behind keep: what is left to show is the net's relation -/
theorem chg_of {x m y : Sg} {L T t nx u j : Nat} {v : Int32} (hN : NW x m L t) (hT : TX x m T) (hH : HI x m L nx u) (hW : WE x m) (hy : agr 0 (hKeep x 0) y)
    (g : ∀ wt dr, NR (hKeep x 0) 0 (m kNow) L wt dr t → NR y 0 (upd (m kNow) j v) L wt dr t) : RR y (up2 (mKeep m u) kNow j v) ∧ NR y 0 (up2 (mKeep m u) kNow j v kNow) L (m kM 1) (m kM 2) t := by
  obtain ⟨k1, k2, k3, k4⟩ := keep_all hN hH hW
  obtain ⟨hL, ht, hm0, hNR⟩ := id k1
  have hMM : ∀ j, j ≠ 6 → mKeep m u kM j = m kM j := fun j hj => kag_keep m u kM j (by decide) (fun q => hj q.2)
  have q : NR y 0 (up2 (mKeep m u) kNow j v kNow) L (m kM 1) (m kM 2) t := by
    rw [up2_row, keep_now]
    rw [keep_now, hMM 1 (by decide), hMM 2 (by decide)] at hNR
    exact g _ _ hNR
  refine ⟨RR_chg (k4 T hT) k2 k3 ⟨hL, ht, ?_, ?_⟩ hy (mag.n (mag.rf _)), q⟩
  · rw [up2_nk _ _ _ _ (by decide)]; exact hm0
  · rw [up2_nk _ _ _ _ (show kM ≠ kNow by decide), hMM 1 (by decide), hMM 2 (by decide)]; exact q
theorem zOne_nI {c : Nat} (h : c < 2) : zOne (nI c) = nI c := by
  have : c = 0 ∨ c = 1 := by omega
  rcases this with rfl | rfl <;> decide
theorem nI_01 {c : Nat} (h : c < 2) : nI c = 0 ∨ nI c = 1 := by
  have : c = 0 ∨ c = 1 := by omega
  rcases this with rfl | rfl
  · exact Or.inl rfl
  · exact Or.inr rfl
theorem plug_eq {x m : Sg} (h : RR x m) {L u : Nat} (hm : m kM 0 = nI L) (hL : L ≤ 6) (hu : m kM 6 = nI u) (hu6 : u ≤ 6) (a v : Int32) : (xPlug x a v).1 = (mPlug m L u a v).1 ∧ RR (xPlug x a v).2 (mPlug m L u a v).2 := by
  obtain ⟨L', T, t, nx, u', hN, hT, hH, hW⟩ := id h
  obtain rfl : L = L' := (nI_eq (by omega) (by have := hN.1; omega)).mp (hm.symm.trans hN.2.2.1)
  obtain rfl : u = u' := (nI_eq (by omega) (by have := hH.1.2.1; omega)).mp (hu.symm.trans hH.1.2.2.2.2)
  unfold xPlug mPlug
  rcases port_dec hN.2.2.2.2.1.1 hm hL 0 a with ⟨g1, g2 | ⟨g2, g3⟩⟩ | ⟨e, l, he, hl, g0, rfl, g1, g2, g3⟩
  · exact absurd g2 (by decide)
  · rw [g1, if_pos g3]; exact ⟨rfl, h⟩
  · obtain rfl : e = 0 := ((nI_eq (by decide) (by omega)).mp (show nI 0 = nI e from g0)).symm
    rw [g1, if_neg g3, cl_nI (by omega)]
    show (if zBit v = 0 then ((-1 : Int32), x) else if b01 (x (5, 0, 0, l) 0) = zOne v then (-2, x) else (eUp (nPlug (hKeep x 0) 0 l (zOne v)) 0 0, nPlug (hKeep x 0) 0 l (zOne v))).1 = _ ∧ RR (if zBit v = 0 then ((-1 : Int32), x) else if b01 (x (5, 0, 0, l) 0) = zOne v then (-2, x) else (eUp (nPlug (hKeep x 0) 0 l (zOne v)) 0 0, nPlug (hKeep x 0) 0 l (zOne v))).2 _
    by_cases hb : zBit v = 0
    · rw [if_pos hb, if_pos ((bit_wi v).mpr hb)]; exact ⟨rfl, h⟩
    · rw [if_neg hb, if_neg (fun q => hb ((bit_wi v).mp q))]
      obtain ⟨c, hc, rfl⟩ := zBit_in hb
      have o1 : b01 (x (5, 0, 0, l) 0) = m kNow (4 + l) := (hN.2.2.2.2.2.1 0 l (by decide) hl).1.1
      rw [zOne_nI hc, o1]
      by_cases hs : m kNow (4 + l) = nI c
      · rw [if_pos hs, if_pos hs]; exact ⟨rfl, h⟩
      · rw [if_neg hs, if_neg hs]
        obtain ⟨r1, r2⟩ := chg_of (y := nPlug (hKeep x 0) 0 l (nI c)) (j := 4 + l) (v := nI c) hN hT hH hW (.up (i5 0 1 l) (.up (i5 0 0 l) (.rf _ _))) (fun wt dr g => NR_plug hl hL (nI_01 hc) g)
        exact ⟨up_eq hL r2, r1⟩
theorem mute_eq {x m : Sg} (h : RR x m) {L u : Nat} (hm : m kM 0 = nI L) (hL : L ≤ 6) (hu : m kM 6 = nI u) (hu6 : u ≤ 6) (a y v : Int32) : (xMute x a y v).1 = (mMute m L u a y v).1 ∧ RR (xMute x a y v).2 (mMute m L u a y v).2 := by
  obtain ⟨L', T, t, nx, u', hN, hT, hH, hW⟩ := id h
  obtain rfl : L = L' := (nI_eq (by omega) (by have := hN.1; omega)).mp (hm.symm.trans hN.2.2.1)
  obtain rfl : u = u' := (nI_eq (by omega) (by have := hH.1.2.1; omega)).mp (hu.symm.trans hH.1.2.2.2.2)
  unfold xMute mMute
  rcases port_dec hN.2.2.2.2.1.1 hm hL a y with ⟨g1, g2 | ⟨g2, g3⟩⟩ | ⟨e, l, he, hl, rfl, rfl, g1, g2, g3⟩
  · rw [g1, if_pos g2]; exact ⟨rfl, h⟩
  · rw [g1, if_neg g2, if_pos g3]; exact ⟨rfl, h⟩
  · rw [g1, if_neg g2, if_neg g3, cl_nI (by omega), cl_nI (by omega)]
    dsimp only
    by_cases hb : zBit v = 0
    · rw [if_pos hb, if_pos ((bit_wi v).mpr hb)]; exact ⟨rfl, h⟩
    · rw [if_neg hb, if_neg (fun q => hb ((bit_wi v).mp q))]
      obtain ⟨c, hc, rfl⟩ := zBit_in hb
      have o2 : b01 (x (5, 0, e, l) 1) = m kNow (pl e l + 2) := (hN.2.2.2.2.2.1 e l he hl).1.2.1
      rw [zOne_nI hc, o2]
      by_cases hs : m kNow (pl e l + 2) = nI c
      · rw [if_pos hs, if_pos hs]; exact ⟨rfl, h⟩
      · rw [if_neg hs, if_neg hs]
        obtain ⟨r1, r2⟩ := chg_of (y := up2 (hKeep x 0) (5, 0, e, l) 1 (nI c)) (j := pl e l + 2) (v := nI c) hN hT hH hW (.up (i5 0 e l) (.rf _ _)) (fun wt dr g => by
          obtain ⟨⟨o1, o2, o3, o4, o5, o6⟩, hs, hh, hc'⟩ := g.2.2.1 e l he hl
          exact NR_port1 he hl hL (by decide) g ⟨⟨o1, b01_of (nI_01 hc), o3, o4, o5, o6⟩, hs, hh, hc'⟩)
        exact ⟨mut_eq hL r2 he, r1⟩
theorem tell_eq {x m : Sg} (h : RR x m) {u : Nat} (hu : m kM 6 = nI u) (hu6 : u ≤ 6) (a y w v : Int32) : (xTell x a y w v).1 = (mTell m u a y w v).1 ∧ RR (xTell x a y w v).2 (mTell m u a y w v).2 := by
  obtain ⟨L, T, t, nx, u', hN, hT, hH, hW⟩ := id h
  obtain rfl : u = u' := (nI_eq (by omega) (by have := hH.1.2.1; omega)).mp (hu.symm.trans hH.1.2.2.2.2)
  have hL := hN.1
  unfold xTell mTell
  rcases port_dec hN.2.2.2.2.1.1 hN.2.2.1 hL a y with ⟨g1, g2 | ⟨g2, g3⟩⟩ | ⟨e, l, he, hl, rfl, rfl, g1, g2, g3⟩
  · rw [g1, if_pos g2]; exact ⟨rfl, h⟩
  · rw [g1, if_neg g2, if_pos g3]; exact ⟨rfl, h⟩
  · rw [g1, if_neg g2, if_neg g3, cl_nI (by omega), cl_nI (by omega)]
    dsimp only
    by_cases hb : zBit w = 0
    · rw [if_pos hb, if_pos ((bit_wi w).mpr hb)]; exact ⟨rfl, h⟩
    · rw [if_neg hb, if_neg (fun q => hb ((bit_wi w).mp q))]
      rw [show mWi v 0 9 = zFig v from rfl]
      by_cases hf : zFig v = 0
      · rw [if_pos hf, if_pos hf]; exact ⟨rfl, h⟩
      · rw [if_neg hf, if_neg hf]
        obtain ⟨c, hc, rfl⟩ := zBit_in hb
        obtain ⟨⟨o1, o2, o3, o4, o5, o6⟩, -⟩ := hN.2.2.2.2.2.1 e l he hl
        unfold mBcm
        rw [cl_nI (by omega)]
        have hcc : c = 0 ∨ c = 1 := by omega
        rcases hcc with rfl | rfl
        · rw [if_pos (show nI 0 = 0 from rfl), show m kNow (pl e l + 0) = x (5, 0, e, l) 2 from o3.symm]
          by_cases hs : x (5, 0, e, l) 2 = v
          · rw [if_pos hs, if_pos hs]; exact ⟨rfl, h⟩
          · rw [if_neg hs, if_neg hs]
            obtain ⟨r1, r2⟩ := chg_of (y := up2 (hKeep x 0) (5, 0, e, l) 2 v) (j := pl e l + 0) (v := v) hN hT hH hW (.up (i5 0 e l) (.rf _ _)) (fun wt dr g => by
              obtain ⟨⟨o1, o2, o3, o4, o5, o6⟩, hs, hh, hc'⟩ := g.2.2.1 e l he hl
              exact NR_port1 he hl hL (by decide) g ⟨⟨o1, o2, rfl, o4, o5, o6⟩, hs, hh, hc'⟩)
            exact ⟨rfl, r1⟩
        · rw [if_neg (show ¬ nI 1 = 0 by decide), show m kNow (pl e l + 1) = x (5, 0, e, l) 3 from o4.symm]
          by_cases hs : x (5, 0, e, l) 3 = v
          · rw [if_pos hs, if_pos hs]; exact ⟨rfl, h⟩
          · rw [if_neg hs, if_neg hs]
            obtain ⟨r1, r2⟩ := chg_of (y := up2 (hKeep x 0) (5, 0, e, l) 3 v) (j := pl e l + 1) (v := v) hN hT hH hW (.up (i5 0 e l) (.rf _ _)) (fun wt dr g => by
              obtain ⟨⟨o1, o2, o3, o4, o5, o6⟩, hs, hh, hc'⟩ := g.2.2.1 e l he hl
              exact NR_port1 he hl hL (by decide) g ⟨⟨o1, o2, o3, rfl, o5, o6⟩, hs, hh, hc'⟩)
            exact ⟨rfl, r1⟩
theorem set_eq {x m : Sg} (h : RR x m) {u : Nat} (hu : m kM 6 = nI u) (hu6 : u ≤ 6) (w v : Int32) : (xSet x w v).1 = (mSet m u w v).1 ∧ RR (xSet x w v).2 (mSet m u w v).2 := by
  obtain ⟨L, T, t, nx, u', hN, hT, hH, hW⟩ := id h
  obtain rfl : u = u' := (nI_eq (by omega) (by have := hH.1.2.1; omega)).mp (hu.symm.trans hH.1.2.2.2.2)
  have hL := hN.1
  obtain ⟨hE, ⟨-, -, -, -, -, c3, -⟩, -⟩ := hN.2.2.2
  unfold xSet mSet
  by_cases hw : mWi w 0 2 = 0
  · have e1 : xSetOk w v = 0 := by
      unfold xSetOk
      unfold mWi at hw
      by_cases q : w < 0
      · rw [if_pos q]
      · rw [if_neg q] at hw ⊢
        by_cases q2 : (2 : Int32) < w
        · rw [if_pos q2]
        · rw [if_neg q2] at hw; exact absurd hw (by decide)
    rw [if_pos hw, if_pos e1]; exact ⟨rfl, h⟩
  · rw [if_neg hw]
    obtain ⟨c, hc, rfl⟩ := mWi_at (x := w) 2 (by decide) hw
    have e1 : xSetOk (nI c) v = mWi v (if nI c = 2 then 1 else 0) (if nI c = 2 then 6 else 9) := by
      unfold xSetOk
      rw [if_neg (nI_pos (by omega)), if_neg (show ¬ (2 : Int32) < nI c from nI_nlt (a := 2) (by omega) (by decide))]
      by_cases q : nI c = 2
      · rw [if_pos q, if_pos q, if_pos q]; rfl
      · rw [if_neg q, if_neg q, if_neg q]; rfl
    rw [e1]
    by_cases hv : mWi v (if nI c = 2 then 1 else 0) (if nI c = 2 then 6 else 9) = 0
    · rw [if_pos hv, if_pos hv]; exact ⟨rfl, h⟩
    · rw [if_neg hv, if_neg hv]
      unfold mBcm
      rw [cl_nI (by omega)]
      match c, hc with
      | 0, _ =>
        show (if x (0, 0, 0, 0) 1 = v then ((-2 : Int32), x) else (x (0, 0, 0, 0) 1, up2 (hKeep x 0) (0, 0, 0, 0) 1 v)).1 = _ ∧ RR (if x (0, 0, 0, 0) 1 = v then ((-2 : Int32), x) else (x (0, 0, 0, 0) 1, up2 (hKeep x 0) (0, 0, 0, 0) 1 v)).2 _
        rw [show m kNow 0 = x (0, 0, 0, 0) 1 from (hE 0 (by decide)).2.symm]
        by_cases hs : x (0, 0, 0, 0) 1 = v
        · rw [if_pos hs, if_pos hs]; exact ⟨rfl, h⟩
        · rw [if_neg hs, if_neg hs]
          exact ⟨rfl, (chg_of (j := 0) (v := v) hN hT hH hW (.up (i0 0 0 0) (.rf _ _)) (fun wt dr g => NR_rank (by decide) hL g)).1⟩
      | 1, _ =>
        show (if x (0, 0, 1, 0) 1 = v then ((-2 : Int32), x) else (x (0, 0, 1, 0) 1, up2 (hKeep x 0) (0, 0, 1, 0) 1 v)).1 = _ ∧ RR (if x (0, 0, 1, 0) 1 = v then ((-2 : Int32), x) else (x (0, 0, 1, 0) 1, up2 (hKeep x 0) (0, 0, 1, 0) 1 v)).2 _
        rw [show m kNow 1 = x (0, 0, 1, 0) 1 from (hE 1 (by decide)).2.symm]
        by_cases hs : x (0, 0, 1, 0) 1 = v
        · rw [if_pos hs, if_pos hs]; exact ⟨rfl, h⟩
        · rw [if_neg hs, if_neg hs]
          exact ⟨rfl, (chg_of (j := 1) (v := v) hN hT hH hW (.up (i0 0 1 0) (.rf _ _)) (fun wt dr g => NR_rank (by decide) hL g)).1⟩
      | 2, _ =>
        show (if x (4, 0, 0, 0) 3 = v then ((-2 : Int32), x) else (x (4, 0, 0, 0) 3, up2 (hKeep x 0) (4, 0, 0, 0) 3 v)).1 = _ ∧ RR (if x (4, 0, 0, 0) 3 = v then ((-2 : Int32), x) else (x (4, 0, 0, 0) 3, up2 (hKeep x 0) (4, 0, 0, 0) 3 v)).2 _
        rw [show m kNow 2 = x (4, 0, 0, 0) 3 from c3.symm]
        by_cases hs : x (4, 0, 0, 0) 3 = v
        · rw [if_pos hs, if_pos hs]; exact ⟨rfl, h⟩
        · rw [if_neg hs, if_neg hs]
          have hv6 : ∃ M, M ≤ 6 ∧ v = nI M := by
            have hv' : ¬ mWi v 1 6 = 0 := hv
            unfold mWi at hv'
            by_cases q : v < 1
            · rw [if_pos q] at hv'; exact absurd rfl hv'
            · rw [if_neg q] at hv'
              by_cases q2 : (6 : Int32) < v
              · rw [if_pos q2] at hv'; exact absurd rfl hv'
              · obtain ⟨M, hM, rfl⟩ := nI_of (x := v) (fun g => q (i32_lt_trans g (by decide)))
                refine ⟨M, ?_, rfl⟩
                rcases Nat.lt_or_ge 6 M with z | z
                · exact absurd (nI_lt (a := 6) z hM) q2
                · exact z
          obtain ⟨M, hM, rfl⟩ := hv6
          exact ⟨rfl, (chg_of (j := 2) (v := nI M) hN hT hH hW (.up (i4 0 0 0) (.rf _ _)) (fun wt dr g => NR_most hM hL g)).1⟩
      | c + 3, hc => omega
