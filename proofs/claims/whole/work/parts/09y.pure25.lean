/-! PURE PART 25: cleared; laid item by item. -/
def z5 (p : Nat → Int32) : Nat → Int32 := upd (upd (upd (upd (upd (upd (upd (upd (upd p 0 0) 1 0) 2 0) 3 0) 6 0) 7 0) 8 0) 9 (-1)) 10 0
def z3 (p : Nat → Int32) : Nat → Int32 := upd (upd (upd (upd (upd p 0 0) 1 0) 2 0) 3 0) 4 0
theorem mClear_at (σ : Sg) (k : Ky) : mClear σ k k = z3 (σ k) := by unfold mClear z3; rw [up2_row, up2_row, up2_row, up2_row, up2_row]
theorem mClear_ne {σ : Sg} {k q : Ky} (h : q ≠ k) : mClear σ k q = σ q := by
  unfold mClear; rw [up2_nk _ _ _ _ h, up2_nk _ _ _ _ h, up2_nk _ _ _ _ h, up2_nk _ _ _ _ h, up2_nk _ _ _ _ h]
theorem pClear_5 (σ : Sg) (n e l : Nat) : pClear σ n e l (5, n, e, l) = z5 (σ (5, n, e, l)) := by
  unfold pClear z5
  rw [up2_row, up2_row, up2_row, up2_row, up2_row, mClear_ne (by simp), mClear_ne (by simp), up2_row, up2_row, up2_row, up2_row]
theorem pClear_3 (σ : Sg) (n e l : Nat) : pClear σ n e l (3, n, e, l) = z3 (σ (3, n, e, l)) := by
  unfold pClear
  rw [up2_nk _ _ _ _ (by simp), up2_nk _ _ _ _ (by simp), up2_nk _ _ _ _ (by simp), up2_nk _ _ _ _ (by simp), up2_nk _ _ _ _ (by simp), mClear_ne (by simp), mClear_at, up2_nk _ _ _ _ (by simp), up2_nk _ _ _ _ (by simp), up2_nk _ _ _ _ (by simp), up2_nk _ _ _ _ (by simp)]
theorem pClear_14 (σ : Sg) (n e l : Nat) : pClear σ n e l (14, n, e, l) = z3 (σ (14, n, e, l)) := by
  unfold pClear
  rw [up2_nk _ _ _ _ (by simp), up2_nk _ _ _ _ (by simp), up2_nk _ _ _ _ (by simp), up2_nk _ _ _ _ (by simp), up2_nk _ _ _ _ (by simp), mClear_at, mClear_ne (by simp), up2_nk _ _ _ _ (by simp), up2_nk _ _ _ _ (by simp), up2_nk _ _ _ _ (by simp), up2_nk _ _ _ _ (by simp)]
theorem pClear_ne {σ : Sg} {n e l : Nat} {k : Ky} (h5 : k ≠ (5, n, e, l)) (h3 : k ≠ (3, n, e, l)) (h14 : k ≠ (14, n, e, l)) : pClear σ n e l k = σ k := by
  unfold pClear
  rw [up2_nk _ _ _ _ h5, up2_nk _ _ _ _ h5, up2_nk _ _ _ _ h5, up2_nk _ _ _ _ h5, up2_nk _ _ _ _ h5, mClear_ne h14, mClear_ne h3, up2_nk _ _ _ _ h5, up2_nk _ _ _ _ h5, up2_nk _ _ _ _ h5, up2_nk _ _ _ _ h5]
theorem eClearP_iter (n e : Nat) : ∀ (d i : Nat) (σ : Sg), eClearP n e d i σ = iter (fun i σ => pClear σ n e i) d i σ
  | 0, _, _ => rfl
  | d + 1, i, σ => by rw [eClearP, iter]; exact eClearP_iter n e d (i + 1) _
theorem eClearP_rows (n e : Nat) (σ : Sg) : (∀ i, i < 6 → eClearP n e 6 0 σ (5, n, e, i) = z5 (σ (5, n, e, i)) ∧ eClearP n e 6 0 σ (3, n, e, i) = z3 (σ (3, n, e, i)) ∧ eClearP n e 6 0 σ (14, n, e, i) = z3 (σ (14, n, e, i))) ∧ ∀ k : Ky, (∀ i, i < 6 → k ≠ (5, n, e, i) ∧ k ≠ (3, n, e, i) ∧ k ≠ (14, n, e, i)) → eClearP n e 6 0 σ k = σ k := by
  have h := iter_row (f := fun i σ => pClear σ n e i) (K := fun i k => k = (5, n, e, i) ∨ k = (3, n, e, i) ∨ k = (14, n, e, i)) (D := fun i k => k = (5, n, e, i) ∨ k = (3, n, e, i) ∨ k = (14, n, e, i))
    (fun i σ k q => pClear_ne (fun g => q (Or.inl g)) (fun g => q (Or.inr (Or.inl g))) (fun g => q (Or.inr (Or.inr g))))
    (fun i σ σ' q k hk => by
      have a := q (5, n, e, i) (by simp)
      have b := q (3, n, e, i) (by simp)
      have c := q (14, n, e, i) (by simp)
      rcases hk with rfl | rfl | rfl
      · rw [pClear_5, pClear_5, a]
      · rw [pClear_3, pClear_3, b]
      · rw [pClear_14, pClear_14, c])
    (fun i i' hne k hk => by rcases hk with rfl | rfl | rfl <;> simp [hne]) 6 0 σ
  rw [eClearP_iter]
  refine ⟨fun i hi => ⟨?_, ?_, ?_⟩, fun k hk => h.2 k (fun i _ hi q => ?_)⟩
  · rw [h.1 i (by omega) (by omega) _ (Or.inl rfl)]; exact pClear_5 σ n e i
  · rw [h.1 i (by omega) (by omega) _ (Or.inr (Or.inl rfl))]; exact pClear_3 σ n e i
  · rw [h.1 i (by omega) (by omega) _ (Or.inr (Or.inr rfl))]; exact pClear_14 σ n e i
  · obtain ⟨a, b, c⟩ := hk i (by omega)
    rcases q with q | q | q
    · exact a q
    · exact b q
    · exact c q
theorem fClear_at (σ : Sg) (k : Ky) : fClear σ k k = upd (upd (σ k) 0 (-4)) 1 0 := by unfold fClear; rw [up2_row, up2_row]
theorem fClear_ne {σ : Sg} {k q : Ky} (h : q ≠ k) : fClear σ k q = σ q := by unfold fClear; rw [up2_nk _ _ _ _ h, up2_nk _ _ _ _ h]
theorem eClearF_iter (n e : Nat) : ∀ (d i : Nat) (σ : Sg), eClearF n e d i σ = iter (fun i σ => fClear σ (1, n, e, i)) d i σ
  | 0, _, _ => rfl
  | d + 1, i, σ => by rw [eClearF, iter]; exact eClearF_iter n e d (i + 1) _
theorem eClearF_rows (n e : Nat) (σ : Sg) : (∀ i, i < 8 → eClearF n e 8 0 σ (1, n, e, i) = upd (upd (σ (1, n, e, i)) 0 (-4)) 1 0) ∧ ∀ k : Ky, (∀ i, i < 8 → k ≠ (1, n, e, i)) → eClearF n e 8 0 σ k = σ k := by
  have h := iter_row (f := fun i σ => fClear σ (1, n, e, i)) (K := fun i k => k = (1, n, e, i)) (D := fun i k => k = (1, n, e, i))
    (fun i σ k q => fClear_ne q)
    (fun i σ σ' q k hk => by
      have a := q (1, n, e, i) rfl
      rw [hk]
      rw [fClear_at, fClear_at, a])
    (fun i i' hne k hk => by rw [hk]; simp [hne]) 8 0 σ
  rw [eClearF_iter]
  refine ⟨fun i hi => ?_, fun k hk => h.2 k (fun i _ hi q => hk i (by omega) q)⟩
  rw [h.1 i (by omega) (by omega) _ rfl]
  exact fClear_at σ _
theorem eClear_rows (n e : Nat) (σ : Sg) : (∀ i, i < 6 → eClear σ n e (5, n, e, i) = z5 (σ (5, n, e, i)) ∧ eClear σ n e (3, n, e, i) = z3 (σ (3, n, e, i)) ∧ eClear σ n e (14, n, e, i) = z3 (σ (14, n, e, i))) ∧
    (∀ i, i < 8 → eClear σ n e (1, n, e, i) = upd (upd (σ (1, n, e, i)) 0 (-4)) 1 0) ∧
    eClear σ n e (0, n, e, 0) = upd (σ (0, n, e, 0)) 1 5 ∧
    ∀ k : Ky, ¬ (k.2.1 = n ∧ k.2.2.1 = e ∧ (k.1 = 0 ∨ k.1 = 1 ∨ k.1 = 3 ∨ k.1 = 5 ∨ k.1 = 14)) → eClear σ n e k = σ k := by
  obtain ⟨p1, p2⟩ := eClearP_rows n e (up2 σ (0, n, e, 0) 1 5)
  obtain ⟨f1, f2⟩ := eClearF_rows n e (eClearP n e 6 0 (up2 σ (0, n, e, 0) 1 5))
  have u : ∀ k : Ky, k ≠ (0, n, e, 0) → up2 σ (0, n, e, 0) 1 5 k = σ k := fun k hk => up2_nk _ _ _ _ hk
  refine ⟨fun i hi => ?_, fun i hi => ?_, ?_, fun k hk => ?_⟩
  · obtain ⟨a, b, c⟩ := p1 i hi
    rw [u _ (by simp)] at a b c
    unfold eClear
    rw [f2 _ (fun j hj => by simp), f2 _ (fun j hj => by simp), f2 _ (fun j hj => by simp)]
    exact ⟨a, b, c⟩
  · unfold eClear
    rw [f1 i hi, p2 (1, n, e, i) (fun j hj => by simp), u _ (by simp)]
  · unfold eClear
    rw [f2 _ (fun j hj => by simp), p2 _ (fun j hj => by simp), up2_row]
  · unfold eClear
    rw [f2 k (fun j hj q => hk (by rw [q]; simp)), p2 k (fun j hj => ⟨fun q => hk (by rw [q]; simp), fun q => hk (by rw [q]; simp), fun q => hk (by rw [q]; simp)⟩), u k (fun q => hk (by rw [q]; simp))]
theorem PN_clear {x : Sg} (hx : ∀ e, e < 2 → x (0, 0, e, 0) 0 = nI e) {td rk mo : Nat → Int32} (hr : ∀ e, e < 2 → rk e = 5) (h0 : mo 0 = 4) (h1 : mo 1 = 2) (h2 : mo 2 = 1) : PN (nClear x 0) 0 td rk mo := by
  obtain ⟨a1, a2, a3, a4⟩ := eClear_rows 0 0 x
  generalize hy : eClear x 0 0 = y at a1 a2 a3 a4
  obtain ⟨b1, b2, b3, b4⟩ := eClear_rows 0 1 y
  generalize hz : eClear y 0 1 = z at b1 b2 b3 b4
  have c4 : ∀ k : Ky, k ≠ (4, 0, 0, 0) → nClear x 0 k = z k := fun k hk => by
    unfold nClear; rw [hy, hz, up2_nk _ _ _ _ hk, up2_nk _ _ _ _ hk, up2_nk _ _ _ _ hk, up2_nk _ _ _ _ hk, up2_nk _ _ _ _ hk]
  have n4 : nClear x 0 (4, 0, 0, 0) = upd (upd (upd (upd (upd (z (4, 0, 0, 0)) 2 0) 3 4) 4 2) 5 1) 6 0 := by
    unfold nClear; rw [hy, hz, up2_row, up2_row, up2_row, up2_row, up2_row]
  have yz : ∀ t l, z (t, 0, 0, l) = y (t, 0, 0, l) := fun t l => b4 _ (by simp)
  have y1 : ∀ t l, y (t, 0, 1, l) = x (t, 0, 1, l) := fun t l => a4 _ (by simp)
  have row : ∀ e i, e < 2 → i < 6 → z (5, 0, e, i) = z5 (x (5, 0, e, i)) ∧ z (3, 0, e, i) = z3 (x (3, 0, e, i)) ∧ z (14, 0, e, i) = z3 (x (14, 0, e, i)) := fun e i he hi => by
    have hee : e = 0 ∨ e = 1 := by omega
    rcases hee with rfl | rfl
    · rw [yz, yz, yz]; exact a1 i hi
    · have := b1 i hi
      rw [y1, y1, y1] at this
      exact this
  have rowF : ∀ e i, e < 2 → i < 8 → z (1, 0, e, i) = upd (upd (x (1, 0, e, i)) 0 (-4)) 1 0 := fun e i he hi => by
    have hee : e = 0 ∨ e = 1 := by omega
    rcases hee with rfl | rfl
    · rw [yz]; exact a2 i hi
    · have := b2 i hi
      rw [y1] at this
      exact this
  have rowE : ∀ e, e < 2 → z (0, 0, e, 0) = upd (x (0, 0, e, 0)) 1 5 := fun e he => by
    have hee : e = 0 ∨ e = 1 := by omega
    rcases hee with rfl | rfl
    · rw [yz]; exact a3
    · rw [b3, y1]
  refine ⟨⟨by decide, ?_, ?_, ?_, ?_, ?_, 4, by decide, h0⟩, fun e he => ?_, fun e l he hl => ?_, fun e l he hl => by omega, fun e l he _ hl => ?_, fun e f he hf => ?_⟩
  · rw [n4]; rfl
  · rw [n4, h0]; rfl
  · rw [n4, h1]; rfl
  · rw [n4, h2]; rfl
  · rw [n4]; rfl
  · rw [c4 _ (by simp), rowE e he, hr e he]; exact ⟨hx e he, rfl⟩
  · obtain ⟨r1, r2, r3⟩ := row e l he hl
    rw [c4 _ (by simp), c4 _ (by simp), c4 _ (by simp), r1, r2, r3]
    exact ⟨rfl, rfl, rfl, rfl, rfl, rfl, rfl, rfl, rfl, rfl⟩
  · obtain ⟨r1, -, -⟩ := row e l he hl
    rw [c4 _ (by simp), r1]
    exact ⟨rfl, rfl⟩
  · rw [c4 _ (by simp), rowF e f he hf]; exact ⟨rfl, rfl⟩
theorem okIt_no {c : Nat → Int32} {T a : Nat} (ho : okIt (lt_ c T) a) (hl : ¬ lt_ c T a = 108) {i : Nat} (h1 : a ≤ i) (h2 : i < a + 1 + 2 * nn (lt_ c T a)) : ¬ lt_ c T i = 108 := fun q => by
  by_cases hi : i = a
  · rw [hi] at q; exact hl q
  · by_cases hp : (i - a) % 2 = 1
    · have := (ho.1 ((i - a) / 2) (by omega)).1
      rw [show a + 2 * ((i - a) / 2) + 1 = i by omega, q] at this
      exact this (by decide)
    · have := (ho.1 ((i - a) / 2 - 1) (by omega)).2
      rw [show a + 2 * ((i - a) / 2 - 1) + 2 = i by omega, q] at this
      split at this <;> exact absurd this (by decide)
theorem lay_loop {c : Nat → Int32} {T : Nat} : ∀ (d d' a N : Nat) (m z : Sg), LC z c T → m kTx = c → T - a ≤ d → T - a ≤ d' → TI m a T N → PN z N (m (9, 7, 0, 0)) (m (9, 8, 0, 0)) (m (9, 9, 0, 0)) → (gFl T (d' + 1) a N m).1 = -4 →
    ∃ N', (gFl T (d' + 1) a N m).2 kM 10 = nI N' ∧ PN (nLayR 0 d (nI a) z) N' ((gFl T (d' + 1) a N m).2 (9, 7, 0, 0)) ((gFl T (d' + 1) a N m).2 (9, 8, 0, 0)) ((gFl T (d' + 1) a N m).2 (9, 9, 0, 0)) ∧ (N' = 0 ↔ N = 0 ∧ ∀ i, a ≤ i → i < T → ¬ lt_ c T i = 108)
  | 0, d', a, N, m, z, hz, hc, hd, hd', hTI, hp, hr => by
    rw [gFl, if_pos (by omega), nLayR]
    exact ⟨N, hTI.2.2.1, hp, fun h => ⟨h, fun i h1 h2 => by omega⟩, fun h => h.1⟩
  | d + 1, d', a, N, m, z, hz, hc, hd, hd', hTI, hp, hr => by
    have hT := hz.1
    have ha : a ≤ T := hTI.2.2.2.1
    by_cases q : T ≤ a
    · rw [gFl, if_pos q, nLayR, hz.2.1, if_pos (nI_le q (by omega))]
      exact ⟨N, hTI.2.2.1, hp, fun h => ⟨h, fun i h1 h2 => by omega⟩, fun h => h.1⟩
    · rw [gFl, if_neg q] at hr ⊢
      rw [nLayR, hz.2.1, if_neg (nI_ge (by omega) (by omega))]
      obtain ⟨s1, s2⟩ := gItem_spec (m := m) (c := c) (T := T) (a := a) (N := N) hc
      by_cases hg : (gItem m a T N).1 = true
      · rw [if_pos hg] at hr ⊢
        obtain ⟨o1, o2⟩ := s1.mp hg
        obtain ⟨r1, r7, r8, r9⟩ := s2 hg
        have he := okIt_end o1
        have h0 := o1.2.1
        have hz' : LC (nItem z 0 (nI a)) c T := LC_agr hz (agr_item (agr.rf 0 z))
        have hp' := PN_item hz (a := a) (by omega) hp o1 o2
        obtain ⟨t1, t2⟩ := TI_gItem hTI hg
        rw [gNl_eq hc, r1] at t1
        rw [hz'.len (by omega)]
        rw [r1, gNl_eq hc] at hr ⊢
        obtain ⟨d'', rfl⟩ : ∃ d'', d' = d'' + 1 := ⟨d' - 1, by omega⟩
        have ih := lay_loop d d'' (a + 1 + 2 * nn (lt_ c T a)) (plN (lt_ c T) a N) (gItem m a T N).2.2 (nItem z 0 (nI a)) hz' (by rw [(gw_item (gw.rf m)).k (by decide) (by decide) (by decide) (by decide) (by decide)]; exact hc) (by omega) (by omega) t1 (by rw [r7, r8, r9]; exact hp') hr
        obtain ⟨N', j1, j2, j3⟩ := ih
        refine ⟨N', j1, j2, j3.trans ?_⟩
        by_cases el : lt_ c T a = 108
        · have : plN (lt_ c T) a N = N + 1 := by unfold plN; rw [if_pos el]
          rw [this]
          exact ⟨fun g => by omega, fun g => absurd el (g.2 a (by omega) (by omega))⟩
        · have : plN (lt_ c T) a N = N := by unfold plN; rw [if_neg el]
          rw [this]
          refine ⟨fun g => ⟨g.1, fun i h1 h2 => ?_⟩, fun g => ⟨g.1, fun i h1 h2 => g.2 i (by omega) h2⟩⟩
          rcases Nat.lt_or_ge i (a + 1 + 2 * nn (lt_ c T a)) with z | z
          · exact okIt_no o1 el h1 z
          · exact g.2 i z h2
      · rw [if_neg hg] at hr
        exact absurd hr (nI_n4 (show a < 2 ^ 31 by omega))
theorem tell_iff {x : Sg} {c : Nat → Int32} {T : Nat} (hx : LC x c T) : ∀ (d i : Nat), i + d ≤ 2 ^ 10 → (tTellR x d i = 0 ↔ ∀ j, i ≤ j → j < i + d → ¬ lt_ c T j = 108)
  | 0, i, _ => ⟨fun _ j h1 h2 => by omega, fun _ => rfl⟩
  | d + 1, i, hi => by
    have ih := tell_iff hx d (i + 1) (by omega)
    rw [tTellR, hx.at (by omega)]
    by_cases q : lt_ c T i = 108
    · rw [if_pos q]
      exact ⟨fun g => absurd g (by decide), fun g => absurd q (g i (by omega) (by omega))⟩
    · rw [if_neg q, ih]
      refine ⟨fun g j h1 h2 => ?_, fun g j h1 h2 => g j (by omega) (by omega)⟩
      by_cases hj : j = i
      · rw [hj]; exact q
      · exact g j (by omega) (by omega)
