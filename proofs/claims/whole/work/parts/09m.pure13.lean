/-! PURE PART 13: a tick on both sides. -/
theorem PR_congr {p5 p3 p14 b b' : Nat → Int32} {up : Int32} {t : Nat} (h : PR p5 p3 p14 up b t) (hb : ∀ j, j < 16 → b' j = b j) : PR p5 p3 p14 up b' t := by
  unfold PR OR SR HR CR at h ⊢
  rw [hb 0 (by decide), hb 1 (by decide), hb 2 (by decide), hb 3 (by decide), hb 4 (by decide), hb 5 (by decide), hb 6 (by decide), hb 7 (by decide), hb 8 (by decide), hb 9 (by decide), hb 10 (by decide), hb 11 (by decide), hb 12 (by decide), hb 13 (by decide), hb 14 (by decide), hb 15 (by decide)]
  exact h
theorem sR_full {b b' : Nat → Int32} {up rk : Int32} (h : ∀ j, j < 16 → b' j = b j) {j : Nat} (hj : j < 16) : sR b' up rk j = sR b up rk j := by
  by_cases q : 3 ≤ j ∧ j ≤ 7
  · exact sR_c (h 0 (by decide)) (h 1 (by decide)) (h 2 (by decide)) (h 14 (by decide)) q.1 q.2
  · rw [sR_lo q, sR_lo q, h j hj]
theorem tick_eq {x m : Sg} {n L : Nat} {wt dr : Int32} {t : Nat} (hL : L ≤ 6) (ht : t < 2 ^ 29) (h : NR x n (m kNow) L wt dr t) (hw : m kM 1 = wt) (hd : m kM 2 = dr) : NR (nStep x n) n (mTicks m L kNow) L wt dr (t + 1) := by
  obtain ⟨hE, ⟨hx2, hx4, hx5, hx6, ha3, hx3, M, hM, ha2⟩, hP, hD, hF⟩ := h
  -- the reference
  have t0 : ∀ j, j ≠ 3 → mTick0 m kNow j = m kNow j := fun j hj => by unfold mTick0; rw [up2n, if_neg hj]
  have t03 : mTick0 m kNow 3 = nI (t + 1) := by unfold mTick0; rw [up2n, if_pos rfl, ha3]; exact nI_1 t
  have t0M : mTick0 m kM = m kM := by unfold mTick0; rw [up2_nk _ _ _ _ (by decide)]
  obtain ⟨u1, u2⟩ := mT1_at (σ := mTick0 m) hL
  generalize hm1 : mT1 (2 * L) 0 (mTick0 m) = m1 at u1 u2
  have lo1 : ∀ j, j < 42 → m1 kNow j = mTick0 m kNow j := fun j hj => u2 kNow j (fun e l he hl q => by have := pl_ge e l; omega)
  have M1 : ∀ j, m1 kM j = m kM j := fun j => by rw [u2 kM j (fun e l he hl q => by cases q.1), t0M]
  have dead1 : ∀ e l, e < 2 → L ≤ l → l < 6 → m1 kNow (pl e l + 14) = m kNow (pl e l + 14) := fun e l he hl hl6 => by
    rw [u2 kNow _ (fun e' l' he' hl' q => by
      have := pl_ne (e := e) (l := l) (e' := e') (l' := l') he hl6 he' (by omega) (by omega)
      omega)]
    exact t0 _ (by have := pl_ge e l; omega)
  have up1 : ∀ l, l < 6 → m1 kNow (4 + l) = m kNow (4 + l) := fun l hl => by rw [lo1 _ (by omega)]; exact t0 _ (by omega)
  have rk1 : ∀ e, e < 2 → m1 kNow (0 + e) = m kNow (0 + e) := fun e he => by rw [lo1 _ (by omega)]; exact t0 _ (by omega)
  obtain ⟨v1, v2⟩ := mBec_at (m := m1) (e := 0) (L := L) (by decide) hL
  generalize hm2 : mBec m1 0 L = m2 at v1 v2
  obtain ⟨w1, w2⟩ := mBec_at (m := m2) (e := 1) (L := L) (by decide) hL
  generalize hm3 : mBec m2 1 L = m3 at w1 w2
  have lo2 : ∀ j, j < 42 → m2 kNow j = m1 kNow j := fun j hj => v2 kNow j (by decide) (fun l hl q => by have := pl_ge 0 l; omega)
  have lo3 : ∀ j, j < 42 → m3 kNow j = m2 kNow j := fun j hj => w2 kNow j (by decide) (fun l hl q => by have := pl_ge 1 l; omega)
  have M2 : ∀ j, m2 kM j = m1 kM j := fun j => v2 kM j (by decide) (fun l hl q => by cases q.1)
  have M3 : ∀ j, m3 kM j = m2 kM j := fun j => w2 kM j (by decide) (fun l hl q => by cases q.1)
  have r21 : ∀ l j, l < 6 → j < 16 → m2 kNow (pl 1 l + j) = m1 kNow (pl 1 l + j) := fun l j hl hj => v2 kNow _ (by decide) (fun l' hl' q => by
    have := pl_ne (e := 1) (l := l) (e' := 0) (l' := l') (by decide) hl (by decide) (by omega) (by omega)
    omega)
  have r30 : ∀ l j, l < 6 → j < 16 → m3 kNow (pl 0 l + j) = m2 kNow (pl 0 l + j) := fun l j hl hj => w2 kNow _ (by decide) (fun l' hl' q => by
    have := pl_ne (e := 0) (l := l) (e' := 1) (l' := l') (by decide) hl (by decide) (by omega) (by omega)
    omega)
  obtain ⟨z1, z2⟩ := mT2_at (σ := m3) hL
  generalize hm4 : mT2 (2 * L) 0 m3 = m4 at z1 z2
  obtain ⟨f1, f2⟩ := mT3_at (σ := m4) (L := L)
  have hT : mTicks m L = mT3 L 16 0 m4 := by unfold mTicks; rw [hm1, hm2, hm3, hm4]
  generalize hm5 : mT3 L 16 0 m4 = m5 at f1 f2 hT
  have lo4 : ∀ j, j < 42 → m4 kNow j = m3 kNow j := fun j hj => z2 kNow j (fun e l he hl q => by have := pl_ge e l; omega)
  have M4 : ∀ j, m4 kM j = m3 kM j := fun j => z2 kM j (fun e l he hl q => by cases q.1)
  have hi5 : ∀ j, 42 ≤ j → m5 kNow j = m4 kNow j := fun j hj => f2 kNow j (fun q => by omega)
  have vlo5 : ∀ j, j < 10 → m5 kNow j = m4 kNow j := fun j hj => f2 kNow j (fun q => by omega)
  -- the class
  obtain ⟨a1, a2⟩ := hear_both x n
  generalize hx_ : eHear n 1 n 0 6 0 (eHear n 0 n 1 6 0 x) = y at a1 a2
  have y4 : y (4, n, 0, 0) = x (4, n, 0, 0) := a2 _ (fun e i he hi => by simp)
  have y0 : ∀ e, y (0, n, e, 0) = x (0, n, e, 0) := fun e => a2 _ (fun e i he hi => by simp)
  have eh : ∀ e, e < 2 → EH y n e L m1 t := fun e he => by
    refine ⟨fun l hl => ?_, fun l hl hl6 => ?_, ?_, ?_⟩
    · obtain ⟨g5, g3⟩ := a1 e l he (by omega)
      have pr := PR_hear (hP e l he hl) (hP (1 - e) l (by omega) hl).2.1
      have pc := PR_congr (b' := rw_ m1 e l) pr (fun j hj => by
        show m1 kNow (pl e l + j) = _
        rw [u1 e l he hl j hj, t0 (4 + l) (by omega)]
        have q1 : (fun j => mTick0 m kNow (pl e l + j)) = fun j => m kNow (pl e l + j) := funext (fun j => t0 _ (by have := pl_ge e l; omega))
        have q2 : (fun j => mTick0 m kNow (pl (1 - e) l + j)) = fun j => m kNow (pl (1 - e) l + j) := funext (fun j => t0 _ (by have := pl_ge (1 - e) l; omega))
        rw [q1, q2])
      rw [g5, g3, up1 l (by omega)]
      exact ⟨pc.1, pc.2.2.1, CR_CM pc.2.2.2⟩
    · obtain ⟨⟨d1, d2, d3, -, -⟩, -⟩ := hD e l he hl hl6
      obtain ⟨g5, g3⟩ := a1 e l he hl6
      rw [g5, g3]
      unfold h5 h3
      rw [if_pos d1, if_pos d1]
      exact ⟨d1, d2, by simp [upd, b01]⟩
    · rw [y0]; exact (hE e he).1
    · rw [y0, rk1 e he]; exact (hE e he).2
  have m12 : m1 kNow 2 = nI M := by rw [lo1 2 (by decide), t0 2 (by decide)]; exact ha2
  have S0 := end_step (x := y) (m := m1) (by decide) hL hM (by omega) m12 (by rw [y4, hx3]; exact ha2) (by rw [y4, hx4, M1, hw]) (eh 0 (by decide))
  obtain ⟨s1, s2, s3⟩ := stepOf_rows y n 0
  generalize hx3_ : nStepOf y n 0 = x3 at S0 s1 s2 s3
  have o3 : ∀ k : Ky, k.2.2.1 ≠ 0 → x3 k = y k := fun k hk => s3 k (fun i hi => ⟨fun q => hk (by rw [q]), fun q => hk (by rw [q])⟩) (fun i hi q => hk (by rw [q])) (fun i q => hk (by rw [q]))
  have x34 : x3 (4, n, 0, 0) = x (4, n, 0, 0) := (s3 _ (fun i hi => by simp) (fun i hi => by simp) (fun i => by simp)).trans y4
  have eh1 : EH x3 n 1 L m2 t := by
    obtain ⟨e1, e2, e3, e4⟩ := eh 1 (by decide)
    refine ⟨fun l hl => ?_, fun l hl hl6 => ?_, ?_, ?_⟩
    · rw [o3 (5, n, 1, l) (by simp), o3 (3, n, 1, l) (by simp), lo2 _ (by omega)]
      obtain ⟨g1, g2, g3⟩ := e1 l hl
      have q : ∀ j, j < 16 → rw_ m2 1 l j = rw_ m1 1 l j := fun j hj => r21 l j (by omega) hj
      unfold OR at g1
      unfold HR at g2
      unfold CM at g3
      unfold OR HR CM
      rw [q 0 (by decide), q 1 (by decide), q 2 (by decide), q 8 (by decide), q 9 (by decide), q 10 (by decide), q 11 (by decide), q 12 (by decide), q 13 (by decide), q 14 (by decide), q 15 (by decide)]
      exact ⟨g1, g2, g3⟩
    · rw [o3 (5, n, 1, l) (by simp), o3 (3, n, 1, l) (by simp)]; exact e2 l hl hl6
    · rw [o3 (0, n, 1, 0) (by simp)]; exact e3
    · rw [o3 (0, n, 1, 0) (by simp), lo2 _ (by decide)]; exact e4
  have S1 := end_step (x := x3) (m := m2) (by decide) hL hM (by omega) (by rw [lo2 2 (by decide)]; exact m12) (by rw [x34, hx3]; exact ha2) (by rw [x34, hx4, M2, M1, hw]) eh1
  obtain ⟨p1, p2, p3⟩ := stepOf_rows x3 n 1
  generalize hx4_ : nStepOf x3 n 1 = x4 at S1 p1 p2 p3
  have o4 : ∀ k : Ky, k.2.2.1 ≠ 1 → x4 k = x3 k := fun k hk => p3 k (fun i hi => ⟨fun q => hk (by rw [q]), fun q => hk (by rw [q])⟩) (fun i hi q => hk (by rw [q])) (fun i q => hk (by rw [q]))
  have x44 : x4 (4, n, 0, 0) = x (4, n, 0, 0) := (o4 _ (by simp)).trans x34
  have hN1 : nStep1 x n = x4 := by unfold nStep1; rw [hx_, hx3_, hx4_]
  have hN : ∀ k : Ky, k ≠ (4, n, 0, 0) → nStep x n k = x4 k := fun k hk => by unfold nStep; rw [up2_nk _ _ _ _ hk, hN1]
  have hN4 : nStep x n (4, n, 0, 0) = upd (x (4, n, 0, 0)) 6 (nI t + 1) := by unfold nStep; rw [up2_row, hN1, x44, hx6]
  have P0 : ∀ l, l < L → PR (x4 (5, n, 0, l)) (x4 (3, n, 0, l)) (x4 (14, n, 0, l)) (m kNow (4 + l)) (fun j => m5 kNow (pl 0 l + j)) (t + 1) := fun l hl => by
    rw [o4 (5, n, 0, l) (by simp), o4 (3, n, 0, l) (by simp), o4 (14, n, 0, l) (by simp)]
    have g := S0.1 l hl
    rw [up1 l (by omega)] at g
    refine PR_congr g (fun j hj => ?_)
    show m5 kNow (pl 0 l + j) = _
    rw [hi5 _ (by have := pl_ge 0 l; omega), z1 0 l (by decide) hl j hj, lo3 _ (by omega), lo3 _ (by omega), lo2 _ (by omega), lo2 _ (by omega), up1 l (by omega)]
    refine sR_full (fun i hi => ?_) hj
    show m3 kNow (pl 0 l + i) = _
    rw [r30 l i (by omega) hi, v1 l hl i hi, up1 l (by omega)]
  have P1 : ∀ l, l < L → PR (x4 (5, n, 1, l)) (x4 (3, n, 1, l)) (x4 (14, n, 1, l)) (m kNow (4 + l)) (fun j => m5 kNow (pl 1 l + j)) (t + 1) := fun l hl => by
    have g := S1.1 l hl
    rw [lo2 _ (show 4 + l < 42 by omega), up1 l (by omega)] at g
    refine PR_congr g (fun j hj => ?_)
    show m5 kNow (pl 1 l + j) = _
    rw [hi5 _ (by have := pl_ge 1 l; omega), z1 1 l (by decide) hl j hj, lo3 _ (by omega), lo3 _ (by omega), lo2 _ (show 4 + l < 42 by omega), up1 l (by omega)]
    refine sR_full (fun i hi => ?_) hj
    show m3 kNow (pl 1 l + i) = _
    rw [w1 l hl i hi, lo2 _ (show 4 + l < 42 by omega), up1 l (by omega)]
  have DD : ∀ e l, e < 2 → L ≤ l → l < 6 → DP (x4 (5, n, e, l)) (x4 (3, n, e, l)) := fun e l he hl hl6 => by
    have hee : e = 0 ∨ e = 1 := by omega
    rcases hee with rfl | rfl
    · rw [o4 (5, n, 0, l) (by simp), o4 (3, n, 0, l) (by simp)]; exact S0.2 l hl hl6
    · exact S1.2 l hl hl6
  have hPP : ∀ e l, e < 2 → l < L → PR (x4 (5, n, e, l)) (x4 (3, n, e, l)) (x4 (14, n, e, l)) (m kNow (4 + l)) (fun j => m5 kNow (pl e l + j)) (t + 1) := fun e l he hl => by
    have hee : e = 0 ∨ e = 1 := by omega
    rcases hee with rfl | rfl
    · exact P0 l hl
    · exact P1 l hl
  have hm5lo : ∀ j, j < 10 → j ≠ 3 → m5 kNow j = m kNow j := fun j hj h3 => by rw [vlo5 j hj, lo4 j (by omega), lo3 j (by omega), lo2 j (by omega), lo1 j (by omega), t0 j h3]
  have hm53 : m5 kNow 3 = nI (t + 1) := by rw [vlo5 3 (by decide), lo4 3 (by decide), lo3 3 (by decide), lo2 3 (by decide), lo1 3 (by decide), t03]
  have h45 : ∀ e l, m4 kNow (pl e l + 14) = m5 kNow (pl e l + 14) := fun e l => (hi5 _ (by have := pl_ge e l; omega)).symm
  have hHW : ∀ e, e < 2 → HW x4 n e L m4 := fun e he => ⟨fun l hl => by rw [h45]; exact (hPP e l he hl).1.2.2.2.2.1, fun l hl hl6 => (DD e l he hl hl6).2.2.2.2⟩
  have hfl : ∀ e f, e < 2 → f < 8 → ∀ j, j < 2 → m4 kNow (fp e f + j) = m kNow (fp e f + j) := fun e f he hf j hj => by
    have b1 : fp e f + j < 42 := by unfold fp; omega
    have b2 : fp e f + j ≠ 3 := by unfold fp; omega
    rw [lo4 _ b1, lo3 _ b1, lo2 _ b1, lo1 _ b1, t0 _ b2]
  have M4d : m4 kM 2 = dr := by rw [M4, M3, M2, M1, hd]
  rw [hT]
  refine ⟨fun e he => ?_, ⟨?_, ?_, ?_, ?_, hm53, ?_, M, hM, ?_⟩, fun e l he hl => ?_, fun e l he hl hl6 => ?_, fun e f he hf => ?_⟩
  · have q : nStep x n (0, n, e, 0) = x (0, n, e, 0) := by
      rw [hN _ (by simp), p3 _ (fun i hi => by simp) (fun i hi => by simp) (fun i => by simp), s3 _ (fun i hi => by simp) (fun i hi => by simp) (fun i => by simp), y0]
    rw [q, hm5lo (0 + e) (by omega) (by omega)]
    exact hE e he
  · rw [hN4]; simpa [upd] using hx2
  · rw [hN4]; simpa [upd] using hx4
  · rw [hN4]; simpa [upd] using hx5
  · rw [hN4]; simp only [upd, if_true]; exact nI_1 t
  · rw [hN4, hm5lo 2 (by decide) (by decide)]; simpa [upd] using hx3
  · rw [hm5lo 2 (by decide) (by decide)]; exact ha2
  · rw [hN _ (by simp), hN _ (by simp), hN _ (by simp), hm5lo (4 + l) (by omega) (by omega)]
    exact hPP e l he hl
  · rw [hN _ (by simp), hN _ (by simp)]
    refine ⟨DD e l he hl hl6, ?_⟩
    rw [hi5 _ (by have := pl_ge e l; omega), z2 kNow _ (fun e' l' he' hl' q => by
      have := pl_ne (e := e) (l := l) (e' := e') (l' := l') he hl6 he' (by omega) (by omega)
      omega)]
    have hee : e = 0 ∨ e = 1 := by omega
    rcases hee with rfl | rfl
    · rw [r30 l 14 hl6 (by decide), v2 kNow _ (by decide) (fun l' hl' q => by
        have := pl_ne (e := 0) (l := l) (e' := 0) (l' := l') (by decide) hl6 (by decide) (by omega) (by omega)
        omega), dead1 0 l (by decide) hl hl6]
      exact (hD 0 l (by decide) hl hl6).2
    · rw [w2 kNow _ (by decide) (fun l' hl' q => by
        have := pl_ne (e := 1) (l := l) (e' := 1) (l' := l') (by decide) hl6 (by decide) (by omega) (by omega)
        omega), r21 l 14 hl6 (by decide), dead1 1 l (by decide) hl hl6]
      exact (hD 1 l (by decide) hl hl6).2
  · rw [hN _ (by simp), f1 e f he hf 0 (by decide), f1 e f he hf 1 (by decide), M4d]
    have hwe := want_eq hL (hHW e he) (nI f)
    have hq : FR (x (1, n, e, f)) ((fun j => m4 kNow (fp e f + j)) 0) ((fun j => m4 kNow (fp e f + j)) 1) := by
      show FR _ (m4 kNow (fp e f + 0)) (m4 kNow (fp e f + 1))
      rw [hfl e f he hf 0 (by decide), hfl e f he hf 1 (by decide)]
      exact hF e f he hf
    have hrow : x4 (1, n, e, f) = dl (x (1, n, e, f)) (mWant m4 e L (nI f)) dr := by
      have hee : e = 0 ∨ e = 1 := by omega
      rcases hee with rfl | rfl
      · have h5' : ∀ i, x4 (5, n, 0, i) = x3 (5, n, 0, i) := fun i => o4 _ (by simp)
        have es : eSend x4 n 0 = eSend x3 n 0 := by
          unfold eSend
          have : (fun i => if x4 (5, n, 0, i) 7 = 5 then (1 : Int32) else 0) = (fun i => if x3 (5, n, 0, i) 7 = 5 then (1 : Int32) else 0) := by funext i; rw [h5' i]
          rw [this]
        rw [o4 (1, n, 0, f) (by simp), s2 f hf, ← hwe.1, es, eWant_c (σ := x3) h5', y4, hx5, a2 (1, n, 0, f) (fun e i he hi => by simp)]
      · rw [p2 f hf, hwe.1, x34, hx5, o3 (1, n, 1, f) (by simp), a2 (1, n, 1, f) (fun e i he hi => by simp)]
    rw [hrow]
    exact FR_dl hq hwe.2
