/-! PURE PART 16: the whole relation of class and reference; which rows a call leaves. -/
/-- the reference's keys -/
def yk (k : Ky) : Prop := k.1 = 8 ∨ k.1 = 10 ∨ (k.1 = 9 ∧ 2 ≤ k.2.1)
theorem inN_yk {n : Nat} {k : Ky} (h : inN n k) : ¬ yk k := fun q => by
  have h2 := h.2
  unfold yk at q
  omega
def xF (σ σ' : Sg) : Prop := ∀ k, yk k → σ' k = σ k
def mF (σ σ' : Sg) : Prop := ∀ k, ¬ yk k → σ' k = σ k
theorem xF.rf (σ : Sg) : xF σ σ := fun _ _ => rfl
theorem mF.rf (σ : Sg) : mF σ σ := fun _ _ => rfl
theorem xF.tr {a b c : Sg} (h : xF a b) (h2 : xF b c) : xF a c := fun k hk => (h2 k hk).trans (h k hk)
theorem mF.tr {a b c : Sg} (h : mF a b) (h2 : mF b c) : mF a c := fun k hk => (h2 k hk).trans (h k hk)
theorem xF.up {σ σ' : Sg} {k : Ky} {j : Nat} {v : Int32} (hk : ¬ yk k) (h : xF σ σ') : xF σ (up2 σ' k j v) := fun k' h' => by
  rw [up2_nk σ' k j v (fun e => hk (by rw [← e]; exact h'))]; exact h k' h'
theorem mF.up {σ σ' : Sg} {k : Ky} {j : Nat} {v : Int32} (hk : yk k) (h : mF σ σ') : mF σ (up2 σ' k j v) := fun k' h' => by
  rw [up2_nk σ' k j v (fun e => h' (by rw [e]; exact hk))]; exact h k' h'
theorem agr.x {n : Nat} {σ σ' : Sg} (h : agr n σ σ') : xF σ σ' := fun k hk => h k (fun q => inN_yk q hk)
theorem NR_congr {x x' : Sg} {n : Nat} {a a' : Nat → Int32} {L : Nat} {wt dr : Int32} {t : Nat} (hL : L ≤ 6) (h : NR x n a L wt dr t) (hx : ∀ k, inN n k → x' k = x k) (ha : ∀ j, j < 235 → a' j = a j) : NR x' n a' L wt dr t := by
  obtain ⟨hE, ⟨hx2, hx4, hx5, hx6, ha3, hx3, M, hM, ha2⟩, hP, hD, hF⟩ := h
  have x4 := hx (4, n, 0, 0) (i4 n 0 0)
  refine ⟨fun e he => ?_, ⟨?_, ?_, ?_, ?_, ?_, ?_, M, hM, ?_⟩, fun e l he hl => ?_, fun e l he hl hl6 => ?_, fun e f he hf => ?_⟩
  · rw [hx _ (i0 n e 0), ha (0 + e) (by omega)]; exact hE e he
  · rw [x4]; exact hx2
  · rw [x4]; exact hx4
  · rw [x4]; exact hx5
  · rw [x4]; exact hx6
  · rw [ha 3 (by decide)]; exact ha3
  · rw [x4, ha 2 (by decide)]; exact hx3
  · rw [ha 2 (by decide)]; exact ha2
  · rw [hx _ (i5 n e l), hx _ (i3 n e l), hx _ (i14 n e l), ha (4 + l) (by omega)]
    exact PR_congr (hP e l he hl) (fun j hj => ha _ (by have := pl_lt (e := e) (l := l) he (by omega); omega))
  · rw [hx _ (i5 n e l), hx _ (i3 n e l), ha (pl e l + 14) (by have := pl_lt (e := e) (l := l) he hl6; omega)]; exact hD e l he hl hl6
  · rw [hx _ (i1 n e f), ha (fp e f + 0) (by unfold fp; omega), ha (fp e f + 1) (by unfold fp; omega)]; exact hF e f he hf
/-- the text; the net; the history; frames and numbers of ends -/
def TX (x m : Sg) (T : Nat) : Prop := x (6, 0, 0, 0) 1 = nI T ∧ m kM 9 = nI T ∧ T ≤ 200 ∧ ∀ i, i < T → x (9, 0, 0, 0) i = m kTx i
def NW (x m : Sg) (L t : Nat) : Prop := L ≤ 6 ∧ t ≤ 9999 ∧ m kM 0 = nI L ∧ NR x 0 (m kNow) L (m kM 1) (m kM 2) t
def HN (x m : Sg) (L nx u : Nat) : Prop := ∀ i, i < u → ∃ t, t ≤ 9999 ∧ NR x (1 + (nx + 6 - u + i) % 6) (fun j => m kPast (235 * i + j)) L (m kM 1) (m kM 2) t
def HI (x m : Sg) (L nx u : Nat) : Prop := (nx < 6 ∧ u ≤ 6 ∧ x (2, 0, 0, 0) 1 = nI nx ∧ x (2, 0, 0, 0) 2 = nI u ∧ m kM 6 = nI u) ∧ HN x m L nx u
def WE (x m : Sg) : Prop := (∀ i, i < 12 → x (9, 1, 0, 0) i = m (9, 5, 0, 0) i) ∧ ∀ n e, n < 9 → e < 2 → x (0, n, e, 0) 0 = nI e
def RR (x m : Sg) : Prop := ∃ L T t nx u, NW x m L t ∧ TX x m T ∧ HI x m L nx u ∧ WE x m
def mLk (m m' : Sg) : Prop := (∀ j, j < 235 → m' kNow j = m kNow j) ∧ m' kPast = m kPast ∧ m' kTx = m kTx ∧ m' (9, 5, 0, 0) = m (9, 5, 0, 0) ∧ ∀ j, j ≤ 9 → m' kM j = m kM j
def xLk (x x' : Sg) : Prop := (∀ n, n < 7 → ∀ k, inN n k → x' k = x k) ∧ x' (6, 0, 0, 0) = x (6, 0, 0, 0) ∧ x' (9, 0, 0, 0) = x (9, 0, 0, 0) ∧ x' (9, 1, 0, 0) = x (9, 1, 0, 0) ∧ x' (2, 0, 0, 0) = x (2, 0, 0, 0) ∧ ∀ n e, n < 9 → e < 2 → x' (0, n, e, 0) 0 = x (0, n, e, 0) 0
theorem xLk.rf (x : Sg) : xLk x x := ⟨fun _ _ _ _ => rfl, rfl, rfl, rfl, rfl, fun _ _ _ _ => rfl⟩
theorem mLk.rf (x : Sg) : mLk x x := ⟨fun _ _ => rfl, rfl, rfl, rfl, fun _ _ => rfl⟩
theorem yk_9 {n : Nat} (h : 2 ≤ n) : yk (9, n, 0, 0) := Or.inr (Or.inr ⟨rfl, h⟩)
theorem yk_M : yk kM := Or.inl rfl
theorem xF.m {σ σ' : Sg} (h : xF σ σ') : mLk σ σ' := ⟨fun j _ => by rw [h kNow (yk_9 (by decide))], h _ (yk_9 (by decide)), h _ (yk_9 (by decide)), h _ (yk_9 (by decide)), fun j _ => by rw [h kM yk_M]⟩
theorem mF.x {σ σ' : Sg} (h : mF σ σ') : xLk σ σ' := ⟨fun n _ k hk => h k (inN_yk hk), h _ (by simp [yk]), h _ (by simp [yk]), h _ (by simp [yk]), h _ (by simp [yk]), fun n e _ _ => by rw [h (0, n, e, 0) (by simp [yk])]⟩
theorem NW_congr {x x' m m' : Sg} {L t : Nat} (h : NW x m L t) (hx : ∀ k, inN 0 k → x' k = x k) (hm : (∀ j, j < 235 → m' kNow j = m kNow j) ∧ ∀ j, j ≤ 2 → m' kM j = m kM j) : NW x' m' L t := by
  obtain ⟨h1, h2, h3, h4⟩ := h
  refine ⟨h1, h2, by rw [hm.2 0 (by decide)]; exact h3, ?_⟩
  rw [hm.2 1 (by decide), hm.2 2 (by decide)]
  exact NR_congr h1 h4 hx hm.1
theorem HN_congr {x x' m m' : Sg} {L nx u : Nat} (hL : L ≤ 6) (hu : u ≤ 6) (h : HN x m L nx u) (hx : ∀ n, 1 ≤ n → n < 7 → ∀ k, inN n k → x' k = x k) (hp : ∀ j, m' kPast j = m kPast j) (hm : ∀ j, j ≤ 2 → m' kM j = m kM j) : HN x' m' L nx u := fun i hi => by
  obtain ⟨t, ht, g⟩ := h i hi
  refine ⟨t, ht, ?_⟩
  rw [hm 1 (by decide), hm 2 (by decide)]
  exact NR_congr hL g (hx _ (by omega) (by omega)) (fun j _ => hp _)
theorem RR_congr {x x' m m' : Sg} (h : RR x m) (hx : xLk x x') (hm : mLk m m') : RR x' m' := by
  obtain ⟨L, T, t, nx, u, h1, ⟨t1, t2, t3, t4⟩, ⟨⟨a1, a2, a3, a4, a5⟩, hh⟩, w1, w2⟩ := h
  obtain ⟨x1, x2, x3, x4, x5, x6⟩ := hx
  obtain ⟨m1, m2, m3, m4, m5⟩ := hm
  refine ⟨L, T, t, nx, u, NW_congr h1 (x1 0 (by decide)) ⟨m1, fun j hj => m5 j (by omega)⟩, ⟨by rw [x2]; exact t1, by rw [m5 9 (by decide)]; exact t2, t3, fun i hi => by rw [x3, m3]; exact t4 i hi⟩, ⟨⟨a1, a2, by rw [x5]; exact a3, by rw [x5]; exact a4, by rw [m5 6 (by decide)]; exact a5⟩, HN_congr h1.1 a2 hh (fun n _ hn => x1 n hn) (fun j => by rw [m2]) (fun j hj => m5 j (by omega))⟩, fun i hi => by rw [x4, m4]; exact w1 i hi, fun n e hn he => by rw [x6 n e hn he]; exact w2 n e hn he⟩
theorem RR_mid {σ σ1 : Sg} (h : RR σ σ) (hx : xF σ σ1) : RR σ σ1 := RR_congr h (xLk.rf σ) hx.m
theorem RR_end {σ1 σ2 : Sg} (h : RR σ1 σ2) (hm : mF σ1 σ2) : RR σ2 σ2 := RR_congr h hm.x (mLk.rf σ2)
theorem nStep_agr (x : Sg) (n : Nat) : agr n x (nStep x n) := fun k hk => by
  have h0 : ∀ t e l, (t = 0 ∨ t = 1 ∨ t = 3 ∨ t = 4 ∨ t = 5 ∨ t = 14) → k ≠ (t, n, e, l) := fun t e l ht q => hk (by rw [q]; exact ⟨rfl, ht⟩)
  unfold nStep nStep1
  rw [up2_nk _ _ _ _ (h0 4 0 0 (by simp))]
  rw [(stepOf_rows _ n 1).2.2 k (fun i hi => ⟨h0 5 1 i (by simp), h0 14 1 i (by simp)⟩) (fun i hi => h0 1 1 i (by simp)) (fun i => h0 5 1 i (by simp))]
  rw [(stepOf_rows _ n 0).2.2 k (fun i hi => ⟨h0 5 0 i (by simp), h0 14 0 i (by simp)⟩) (fun i hi => h0 1 0 i (by simp)) (fun i => h0 5 0 i (by simp))]
  exact (hear_both x n).2 k (fun e i _ _ => ⟨h0 5 e i (by simp), h0 3 e i (by simp)⟩)
/-- the end's number stays -/
theorem nStep_num {x : Sg} {n : Nat} (e : Nat) : nStep x n (0, n, e, 0) = x (0, n, e, 0) := by
  unfold nStep nStep1
  rw [up2_nk _ _ _ _ (by simp), (stepOf_rows _ n 1).2.2 _ (fun i hi => by simp) (fun i hi => by simp) (fun i => by simp), (stepOf_rows _ n 0).2.2 _ (fun i hi => by simp) (fun i hi => by simp) (fun i => by simp)]
  exact (hear_both x n).2 _ (fun e i _ _ => by simp)
theorem nCopy_num {x : Sg} {n n2 : Nat} (hn : n2 ≠ n) {e : Nat} (he : e < 2) : nCopy x n n2 (0, n, e, 0) 0 = x (0, n, e, 0) 0 := by
  have q4 : ∀ σ : Sg, ∀ j, cpI σ (4, n, 0, 0) (4, n2, 0, 0) j (0, n, e, 0) = σ (0, n, e, 0) := fun σ j => cpI_ne (by simp)
  unfold nCopy
  rw [q4, q4, q4, q4, q4]
  have hee : e = 0 ∨ e = 1 := by omega
  rcases hee with rfl | rfl
  · rw [(eCopy_rows 1 hn _).2.2.2 _ (by simp), (eCopy_rows 0 hn x).2.2.1]; rfl
  · rw [(eCopy_rows 1 hn _).2.2.1, (eCopy_rows 0 hn x).2.2.2 (0, n, 1, 0) (by simp)]; rfl
