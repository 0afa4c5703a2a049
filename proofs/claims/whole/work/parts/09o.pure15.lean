/-! PURE PART 15: a copy keeps the relation. -/
theorem eCopy_rows {n n2 : Nat} (e : Nat) (hn : n2 ≠ n) (σ : Sg) : (∀ i, i < 6 → eCopy σ n e n2 e (5, n, e, i) = c5 (σ (5, n, e, i)) (σ (5, n2, e, i)) ∧ eCopy σ n e n2 e (3, n, e, i) = m3 (σ (3, n, e, i)) (σ (3, n2, e, i)) ∧ eCopy σ n e n2 e (14, n, e, i) = m3 (σ (14, n, e, i)) (σ (14, n2, e, i))) ∧
    (∀ i, i < 8 → eCopy σ n e n2 e (1, n, e, i) = upd (upd (σ (1, n, e, i)) 0 (σ (1, n2, e, i) 0)) 1 (σ (1, n2, e, i) 1)) ∧
    eCopy σ n e n2 e (0, n, e, 0) = upd (σ (0, n, e, 0)) 1 (σ (0, n2, e, 0) 1) ∧
    ∀ k : Ky, ¬ (k.2.1 = n ∧ k.2.2.1 = e ∧ (k.1 = 0 ∨ k.1 = 1 ∨ k.1 = 3 ∨ k.1 = 5 ∨ k.1 = 14)) → eCopy σ n e n2 e k = σ k := by
  obtain ⟨p1, p2⟩ := eCopyP_rows e hn (up2 σ (0, n, e, 0) 1 (σ (0, n2, e, 0) 1))
  obtain ⟨f1, f2⟩ := eCopyF_rows e hn (eCopyP n e n2 e 6 0 (up2 σ (0, n, e, 0) 1 (σ (0, n2, e, 0) 1)))
  have u : ∀ k : Ky, k ≠ (0, n, e, 0) → up2 σ (0, n, e, 0) 1 (σ (0, n2, e, 0) 1) k = σ k := fun k hk => up2_nk _ _ _ _ hk
  refine ⟨fun i hi => ?_, fun i hi => ?_, ?_, fun k hk => ?_⟩
  · obtain ⟨a, b, c⟩ := p1 i hi
    rw [u _ (by simp), u _ (by simp)] at a b c
    unfold eCopy
    rw [f2 _ (fun j hj => by simp), f2 _ (fun j hj => by simp), f2 _ (fun j hj => by simp)]
    exact ⟨a, b, c⟩
  · unfold eCopy
    rw [f1 i hi, p2 (1, n, e, i) (fun j hj => by simp), p2 (1, n2, e, i) (fun j hj => by simp), u _ (by simp), u _ (by simp)]
  · unfold eCopy
    rw [f2 _ (fun j hj => by simp), p2 _ (fun j hj => by simp), up2_row]
  · unfold eCopy
    rw [f2 k (fun j hj q => hk (by rw [q]; simp)), p2 k (fun j hj => ⟨fun q => hk (by rw [q]; simp), fun q => hk (by rw [q]; simp), fun q => hk (by rw [q]; simp)⟩), u k (fun q => hk (by rw [q]; simp))]
theorem PR_copy {q5 q3 q14 b : Nat → Int32} {up : Int32} {t : Nat} (p5 p3 p14 : Nat → Int32) (h : PR q5 q3 q14 up b t) : PR (c5 p5 q5) (m3 p3 q3) (m3 p14 q14) up b t := by
  obtain ⟨⟨o1, o2, o3, o4, o5, o6⟩, ⟨s1, s2, s3, s4, s5⟩, hh, hc⟩ := h
  refine ⟨⟨(b01_b01 _).trans o1, (b01_b01 _).trans o2, o3, o4, o5, o6⟩, ⟨(b01_b01 _).trans s1, s2, s3, s4, (b01_b01 _).trans s5⟩, ?_, ?_⟩
  · rcases hh with ⟨g1, g2⟩ | ⟨g1, g2, g3, g4, g5, g6, g7⟩
    · exact Or.inl ⟨(b01_b01 _).trans g1, g2⟩
    · exact Or.inr ⟨fun q => g1 ((b01_b01 _).symm.trans q), g2, g3, g4, g5, g6, (b01_b01 _).trans g7⟩
  · rcases hc with ⟨g1, g2, g3⟩ | ⟨g1, g2, g3⟩
    · exact Or.inl ⟨(b01_b01 _).trans g1, g2, g3⟩
    · exact Or.inr ⟨fun q => g1 ((b01_b01 _).symm.trans q), g2, g3⟩
theorem DP_copy {q5 q3 : Nat → Int32} (p5 p3 : Nat → Int32) (h : DP q5 q3) : DP (c5 p5 q5) (m3 p3 q3) := by
  obtain ⟨d1, d2, d3, d4, d5⟩ := h
  exact ⟨(b01_b01 _).trans d1, (b01_b01 _).trans d2, (b01_b01 _).trans d3, (b01_b01 _).trans d4, d5⟩
theorem nCopy_NR {x : Sg} {n n2 L : Nat} {a : Nat → Int32} {wt dr : Int32} {t : Nat} (hn : n2 ≠ n) (hx : ∀ e, e < 2 → x (0, n, e, 0) 0 = nI e) (hL : L ≤ 6) (h : NR x n2 a L wt dr t) : NR (nCopy x n n2) n a L wt dr t := by
  obtain ⟨hE, ⟨hx2, hx4, hx5, hx6, ha3, hx3, hMM⟩, hP, hD, hF⟩ := h
  obtain ⟨a1, a2, a3, a4⟩ := eCopy_rows 0 hn x
  generalize hy : eCopy x n 0 n2 0 = y at a1 a2 a3 a4
  obtain ⟨b1, b2, b3, b4⟩ := eCopy_rows 1 hn y
  generalize hz : eCopy y n 1 n2 1 = z at b1 b2 b3 b4
  have h4 : ((4, n2, 0, 0) : Ky) ≠ (4, n, 0, 0) := by simp [hn]
  have z4 : ∀ q, z (4, q, 0, 0) = x (4, q, 0, 0) := fun q => by rw [b4 _ (by simp), a4 _ (by simp)]
  have c4 : ∀ k : Ky, k ≠ (4, n, 0, 0) → nCopy x n n2 k = z k := fun k hk => by
    unfold nCopy; rw [hy, hz, cpI_ne hk, cpI_ne hk, cpI_ne hk, cpI_ne hk, cpI_ne hk]
  have n4 : nCopy x n n2 (4, n, 0, 0) = upd (upd (upd (upd (upd (x (4, n, 0, 0)) 2 (x (4, n2, 0, 0) 2)) 3 (x (4, n2, 0, 0) 3)) 4 (x (4, n2, 0, 0) 4)) 5 (x (4, n2, 0, 0) 5)) 6 (x (4, n2, 0, 0) 6) := by
    unfold nCopy; rw [hy, hz]; simp only [cpI_at, cpI_ne h4, z4]
  have yz : ∀ t l, z (t, n, 0, l) = y (t, n, 0, l) := fun t l => b4 _ (by simp)
  have y2 : ∀ t l, y (t, n2, 1, l) = x (t, n2, 1, l) := fun t l => a4 _ (by simp)
  have y1 : ∀ t l, y (t, n, 1, l) = x (t, n, 1, l) := fun t l => a4 _ (by simp)
  have row : ∀ e i, e < 2 → i < 6 → z (5, n, e, i) = c5 (x (5, n, e, i)) (x (5, n2, e, i)) ∧ z (3, n, e, i) = m3 (x (3, n, e, i)) (x (3, n2, e, i)) ∧ z (14, n, e, i) = m3 (x (14, n, e, i)) (x (14, n2, e, i)) := fun e i he hi => by
    have hee : e = 0 ∨ e = 1 := by omega
    rcases hee with rfl | rfl
    · rw [yz, yz, yz]; exact a1 i hi
    · have := b1 i hi
      rw [y1, y1, y1, y2, y2, y2] at this
      exact this
  have rowF : ∀ e i, e < 2 → i < 8 → z (1, n, e, i) = upd (upd (x (1, n, e, i)) 0 (x (1, n2, e, i) 0)) 1 (x (1, n2, e, i) 1) := fun e i he hi => by
    have hee : e = 0 ∨ e = 1 := by omega
    rcases hee with rfl | rfl
    · rw [yz]; exact a2 i hi
    · have := b2 i hi
      rw [y1, y2] at this
      exact this
  have rowE : ∀ e, e < 2 → z (0, n, e, 0) = upd (x (0, n, e, 0)) 1 (x (0, n2, e, 0) 1) := fun e he => by
    have hee : e = 0 ∨ e = 1 := by omega
    rcases hee with rfl | rfl
    · rw [yz]; exact a3
    · rw [b3, y1, y2]
  refine ⟨fun e he => ?_, ⟨?_, ?_, ?_, ?_, ha3, ?_, hMM⟩, fun e l he hl => ?_, fun e l he hl hl6 => ?_, fun e f he hf => ?_⟩
  · rw [c4 _ (by simp), rowE e he]
    exact ⟨hx e he, (hE e he).2⟩
  · rw [n4]; exact hx2
  · rw [n4]; exact hx4
  · rw [n4]; exact hx5
  · rw [n4]; exact hx6
  · rw [n4]; exact hx3
  · obtain ⟨r1, r2, r3⟩ := row e l he (by omega)
    rw [c4 _ (by simp), c4 _ (by simp), c4 _ (by simp), r1, r2, r3]
    exact PR_copy _ _ _ (hP e l he hl)
  · obtain ⟨r1, r2, r3⟩ := row e l he hl6
    rw [c4 _ (by simp), c4 _ (by simp), r1, r2]
    exact ⟨DP_copy _ _ (hD e l he hl hl6).1, (hD e l he hl hl6).2⟩
  · rw [c4 _ (by simp), rowF e f he hf]
    exact hF e f he hf
