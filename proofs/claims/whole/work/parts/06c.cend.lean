theorem cx_gr {p : Program} {s : State} {m : MethodId} {args : Array Value} {c : Code} {own : String} {cc : ByteArray} {nL : Nat} {Ts : List Cond} {S T : Ky → Prop} {A A' : Nat → Prop} {a b : St3} (cx : Cx p s m args c a.1 A own cc nL Ts) (h : PP S T a A' b) (hA : ∀ z, A' z → A z) : Cx p s m args c b.1 A own cc nL Ts := by
  refine ⟨cx.1, ?_, h.2.1.1, fun k hk => hA _ (h.2.2.1 k hk)⟩
  obtain ⟨h1, h2⟩ := h.1.1
  have := cx.2.1
  unfold sw tys at this ⊢
  rw [h1, h2]; exact this
theorem Fi.keep {k : Ky} {a b : St3} (h : Fi k a) (h1 : b.2.1 k = a.2.1 k) (h2 : b.2.2 k = a.2.2 k) : Fi k b := fun j hj => by rw [h1, h2]; exact h j hj
theorem Gr.row {S T : Ky → Prop} {a b : St3} (h : Gr S T a b) {k : Ky} (h1 : ¬ S k) (h2 : ¬ T k) : b.2.1 k = a.2.1 k ∧ b.2.2 k = a.2.2 k := h.2.2.2 k h1 h2
def s1 (n e i : Nat) (k : Ky) : Prop := k = (13, n, e, 0) ∨ ∃ l, l < i ∧ (k = (5, n, e, l) ∨ k = (3, n, e, l) ∨ k = (14, n, e, l))
def s2 (n e i : Nat) (k : Ky) : Prop := s1 n e 6 k ∨ k = (11, n, e, 0) ∨ ∃ f, f < i ∧ k = (1, n, e, f)
def tE (n e : Nat) (k : Ky) : Prop := k = (0, n, e, 0)
def rE (e : Nat) : Nat → Int32 := fun j => if j = 0 then nI e else 0
def I1 (n e : Nat) (a : St3) (A : Nat → Prop) (i : Nat) (b : St3) : Prop :=
  Gr (s1 n e i) (tE n e) a b ∧ Ok3 b ∧ (∀ k ∈ ks b.1, A (ad b.1 k)) ∧ (∀ k, s1 n e i k → k ≠ (13, n, e, 0) → Fi k b) ∧ (b.2.1 (0, n, e, 0) 2 = some (13, n, e, 0) ∧ b.2.2 (0, n, e, 0) = rE e) ∧ (∀ j, j < i → b.2.1 (13, n, e, 0) j = some (5, n, e, j)) ∧ b.2.2 (13, n, e, 0) = fun _ => 0
def I2 (n e : Nat) (a : St3) (A : Nat → Prop) (i : Nat) (b : St3) : Prop :=
  Gr (s2 n e i) (tE n e) a b ∧ Ok3 b ∧ (∀ k ∈ ks b.1, A (ad b.1 k)) ∧ (∀ k, s2 n e i k → k ≠ (11, n, e, 0) → Fi k b) ∧ (b.2.1 (0, n, e, 0) 2 = some (13, n, e, 0) ∧ b.2.1 (0, n, e, 0) 3 = some (11, n, e, 0) ∧ b.2.2 (0, n, e, 0) = rE e) ∧ (∀ j, j < i → b.2.1 (11, n, e, 0) j = some (1, n, e, j)) ∧ b.2.2 (11, n, e, 0) = fun _ => 0
theorem add_gr {b : St3} {k : Ky} (z : Nat) (hk : k ∉ ks b.1) (T : Ky → Prop) : Gr (fun k' => k' = k) T b (addK b.1 k z, srr b.2.1 k (fun _ => none), sr b.2.2 k (fun _ => 0)) := (Gr.add z T).resolve_right hk
theorem I1_step {n e i z : Nat} {a b b2 : St3} {A A' : Nat → Prop} (h : I1 n e a A i b) (h5 : (5, n, e, i) ∉ ks b.1) (hp : PP (sP n e i) (fun k => k = (5, n, e, i)) (addK b.1 (5, n, e, i) z, srr b.2.1 (5, n, e, i) (fun _ => none), sr b.2.2 (5, n, e, i) (fun _ => 0)) A' b2) (hA : ∀ z, A' z → A z) : I1 n e a A (i + 1) (b2.1, upr b2.2.1 (13, n, e, 0) i (5, n, e, i), b2.2.2) := by
  obtain ⟨g, ok, hAd, hfi, ⟨hth, hrw⟩, har, hz⟩ := h
  have g1 := add_gr z h5 (fun _ => False)
  have g2 := hp.1
  have row : ∀ k, k ≠ (5, n, e, i) → k ≠ (3, n, e, i) → k ≠ (14, n, e, i) → b2.2.1 k = b.2.1 k ∧ b2.2.2 k = b.2.2 k := by
    intro k q1 q2 q3
    obtain ⟨x1, x2⟩ := g2.row (k := k) (fun q => q.elim q2 q3) q1
    obtain ⟨y1, y2⟩ := g1.row (k := k) q1 id
    exact ⟨x1.trans y1, x2.trans y2⟩
  have m13 : (13, n, e, 0) ∈ ks b2.1 := (g2.2.1 _).mpr (Or.inl ((g1.2.1 _).mpr (Or.inl ((g.2.1 _).mpr (Or.inr (Or.inl rfl))))))
  have m5 : (5, n, e, i) ∈ ks b2.1 := (g2.2.1 _).mpr (Or.inl ((g1.2.1 _).mpr (Or.inr rfl)))
  obtain ⟨r1, r2⟩ := row (13, n, e, 0) (by simp) (by simp) (by simp)
  obtain ⟨t1, t2⟩ := row (0, n, e, 0) (by simp) (by simp) (by simp)
  refine ⟨?_, ⟨hp.2.1.1, clo_upr hp.2.1.2 m5⟩, fun k hk => hA _ (hp.2.2.1 k hk), fun k hk hne => ?_, ⟨?_, ?_⟩, fun j hj => ?_, ?_⟩
  · have g3 : Gr (fun k => s1 n e i k ∨ (k = (5, n, e, i) ∨ sP n e i k)) (fun k => tE n e k ∨ k = (5, n, e, i)) a b2 := (g.tr (g1.tr g2 (S := fun k => k = (5, n, e, i) ∨ sP n e i k) (T := fun k => k = (5, n, e, i)) (fun k => Iff.rfl) (fun k q => q.elim (fun f => f.elim) (fun q => Or.inl (Or.inl q)))) (fun k => Iff.rfl) (fun k q => q.elim (fun q => Or.inr (Or.inl q)) (fun q => Or.inr (Or.inr q))))
    refine g3.tr (Gr.put (a := b2) (k := (13, n, e, 0)) (j := i) (t := (5, n, e, i))) (fun k => ?_) (fun k q => ?_)
    · unfold s1 sP
      constructor
      · rintro (q | ⟨l, hl, q⟩)
        · exact Or.inl (Or.inl (Or.inl q))
        · by_cases hli : l = i
          · subst hli
            rcases q with q | q | q
            · exact Or.inl (Or.inr (Or.inl q))
            · exact Or.inl (Or.inr (Or.inr (Or.inl q)))
            · exact Or.inl (Or.inr (Or.inr (Or.inr q)))
          · exact Or.inl (Or.inl (Or.inr ⟨l, by omega, q⟩))
      · rintro (((q | ⟨l, hl, q⟩) | q | q | q) | q)
        · exact Or.inl q
        · exact Or.inr ⟨l, by omega, q⟩
        · exact Or.inr ⟨i, by omega, Or.inl q⟩
        · exact Or.inr ⟨i, by omega, Or.inr (Or.inl q)⟩
        · exact Or.inr ⟨i, by omega, Or.inr (Or.inr q)⟩
        · exact q.elim
    · rcases q with (q | q) | q
      · exact Or.inr q
      · exact Or.inl (Or.inr ⟨i, by omega, Or.inl q⟩)
      · exact Or.inl (Or.inl q)
  · have hu : (upr b2.2.1 (13, n, e, 0) i (5, n, e, i)) k = b2.2.1 k := upr_nk _ _ _ _ hne
    have lft : Fi k b2 := by
      rcases hk with q | ⟨l, hl, q⟩
      · exact absurd q hne
      · by_cases hli : l = i
        · subst hli
          rcases q with q | q | q
          · exact hp.2.2.2 k (Or.inr q)
          · exact hp.2.2.2 k (Or.inl (Or.inl q))
          · exact hp.2.2.2 k (Or.inl (Or.inr q))
        · obtain ⟨x1, x2⟩ := row k (by rcases q with rfl | rfl | rfl <;> simp [hli]) (by rcases q with rfl | rfl | rfl <;> simp [hli]) (by rcases q with rfl | rfl | rfl <;> simp [hli])
          exact (hfi k (Or.inr ⟨l, by omega, q⟩) hne).keep x1 x2
    exact lft.keep hu rfl
  · show upr b2.2.1 (13, n, e, 0) i (5, n, e, i) (0, n, e, 0) 2 = _
    rw [upr_nk _ _ _ _ (by simp), t1]; exact hth
  · show b2.2.2 (0, n, e, 0) = _
    rw [t2]; exact hrw
  · show upr b2.2.1 (13, n, e, 0) i (5, n, e, i) (13, n, e, 0) j = _
    by_cases hji : j = i
    · subst hji; rw [upr_at]
    · rw [upr_nj _ _ _ _ hji, r1]; exact har j (by omega)
  · show b2.2.2 (13, n, e, 0) = _
    rw [r2]; exact hz
theorem I2_step {n e i z : Nat} {a b : St3} {A : Nat → Prop} (h : I2 n e a A i b) (h1 : (1, n, e, i) ∉ ks b.1) (hok : okE (addK b.1 (1, n, e, i) z)) (hA : ∀ k ∈ ks (addK b.1 (1, n, e, i) z), A (ad (addK b.1 (1, n, e, i) z) k)) : I2 n e a A (i + 1) (addK b.1 (1, n, e, i) z, upr (srr b.2.1 (1, n, e, i) (fun _ => none)) (11, n, e, 0) i (1, n, e, i), sr b.2.2 (1, n, e, i) (fun _ => 0)) := by
  obtain ⟨g, ok, hAd, hfi, ⟨hth, hth3, hrw⟩, har, hz⟩ := h
  have g1 := add_gr z h1 (fun _ => False)
  have m1 : (1, n, e, i) ∈ ks (addK b.1 (1, n, e, i) z) := List.mem_append_right _ (List.mem_singleton.mpr rfl)
  refine ⟨?_, ⟨hok, clo_upr (clo_addK z ok.2) m1⟩, hA, fun k hk hne => ?_, ⟨?_, ?_, ?_⟩, fun j hj => ?_, ?_⟩
  · have g3 : Gr (fun k => s2 n e i k ∨ k = (1, n, e, i)) (tE n e) a (addK b.1 (1, n, e, i) z, srr b.2.1 (1, n, e, i) (fun _ => none), sr b.2.2 (1, n, e, i) (fun _ => 0)) := g.tr g1 (fun k => Iff.rfl) (fun k q => q.elim Or.inr (fun f => f.elim))
    refine g3.tr (Gr.put (k := (11, n, e, 0)) (j := i) (t := (1, n, e, i))) (fun k => ?_) (fun k q => ?_)
    · unfold s2
      constructor
      · rintro (q | q | ⟨f, hf, q⟩)
        · exact Or.inl (Or.inl (Or.inl q))
        · exact Or.inl (Or.inl (Or.inr (Or.inl q)))
        · by_cases hfi : f = i
          · subst hfi; exact Or.inl (Or.inr q)
          · exact Or.inl (Or.inl (Or.inr (Or.inr ⟨f, by omega, q⟩)))
      · rintro (((q | q | ⟨f, hf, q⟩) | q) | q)
        · exact Or.inl q
        · exact Or.inr (Or.inl q)
        · exact Or.inr (Or.inr ⟨f, by omega, q⟩)
        · exact Or.inr (Or.inr ⟨i, by omega, q⟩)
        · exact q.elim
    · rcases q with q | q
      · exact Or.inr q
      · exact Or.inl (Or.inr (Or.inl q))
  · by_cases hk1 : k = (1, n, e, i)
    · subst hk1
      intro j hj
      exact ⟨fun q => (by cases q), by show sr _ _ _ _ j = _; rw [sr_at]; rfl⟩
    · have hk2 : s2 n e i k := by
        rcases hk with q | q | ⟨f, hf, q⟩
        · exact Or.inl q
        · exact Or.inr (Or.inl q)
        · by_cases hfi : f = i
          · subst hfi; exact absurd q hk1
          · exact Or.inr (Or.inr ⟨f, by omega, q⟩)
      exact (hfi k hk2 hne).keep (by show upr _ _ _ _ k = _; rw [upr_nk _ _ _ _ hne, srr_ne _ _ _ hk1]) (by show sr _ _ _ k = _; rw [sr_ne _ _ _ hk1])
  · show upr (srr b.2.1 (1, n, e, i) (fun _ => none)) (11, n, e, 0) i (1, n, e, i) (0, n, e, 0) 2 = _
    rw [upr_nk _ _ _ _ (by simp), srr_ne _ _ _ (by simp)]; exact hth
  · show upr (srr b.2.1 (1, n, e, i) (fun _ => none)) (11, n, e, 0) i (1, n, e, i) (0, n, e, 0) 3 = _
    rw [upr_nk _ _ _ _ (by simp), srr_ne _ _ _ (by simp)]; exact hth3
  · show sr b.2.2 (1, n, e, i) (fun _ => 0) (0, n, e, 0) = _
    rw [sr_ne _ _ _ (by simp)]; exact hrw
  · show upr (srr b.2.1 (1, n, e, i) (fun _ => none)) (11, n, e, 0) i (1, n, e, i) (11, n, e, 0) j = _
    by_cases hji : j = i
    · subst hji; rw [upr_at]
    · rw [upr_nj _ _ _ _ hji, srr_ne _ _ _ (by simp)]; exact har j (by omega)
  · show sr b.2.2 (1, n, e, i) (fun _ => 0) (11, n, e, 0) = _
    rw [sr_ne _ _ _ (by simp)]; exact hz
/-- the first array has come -/
theorem I1_0 {n e z : Nat} {a : St3} {A : Nat → Prop} (hok : okE (addK a.1 (13, n, e, 0) z)) (hclo : clo a.1 a.2.1) (h0 : (0, n, e, 0) ∈ ks a.1) (h13 : (13, n, e, 0) ∉ ks a.1) (hA : ∀ k ∈ ks (addK a.1 (13, n, e, 0) z), A (ad (addK a.1 (13, n, e, 0) z) k)) (hσ : a.2.2 (0, n, e, 0) = fun _ => 0) : I1 n e a A 0 (addK a.1 (13, n, e, 0) z, upr (srr a.2.1 (13, n, e, 0) (fun _ => none)) (0, n, e, 0) 2 (13, n, e, 0), sr (up2 a.2.2 (0, n, e, 0) 0 (nI e)) (13, n, e, 0) (fun _ => 0)) := by
  have m13 : (13, n, e, 0) ∈ ks (addK a.1 (13, n, e, 0) z) := List.mem_append_right _ (List.mem_singleton.mpr rfl)
  refine ⟨⟨⟨rfl, rfl⟩, fun k => ?_, fun k hk => ad_addK_ne _ _ _ (fun q => h13 (by rw [← q]; exact hk)), fun k q1 q2 => ?_⟩, ⟨hok, clo_upr (clo_addK z hclo) m13⟩, hA, fun k hk hne => ?_, ⟨?_, ?_⟩, fun j hj => absurd hj (Nat.not_lt_zero j), ?_⟩
  · rw [ks_addK, List.mem_append, List.mem_singleton]
    unfold s1
    exact ⟨fun q => q.elim Or.inl (fun q => Or.inr (Or.inl q)), fun q => q.elim Or.inl (fun q => q.elim Or.inr (fun ⟨l, hl, _⟩ => absurd hl (Nat.not_lt_zero l)))⟩
  · have n13 : k ≠ (13, n, e, 0) := fun q => q1 (Or.inl q)
    have n0 : k ≠ (0, n, e, 0) := q2
    exact ⟨by show upr _ _ _ _ k = _; rw [upr_nk _ _ _ _ n0, srr_ne _ _ _ n13], by show sr _ _ _ k = _; rw [sr_ne _ _ _ n13, up2_nk _ _ _ _ n0]⟩
  · rcases hk with q | ⟨l, hl, _⟩
    · exact absurd q hne
    · exact absurd hl (Nat.not_lt_zero l)
  · exact upr_at _ _ _ _
  · dsimp only
    rw [sr_ne _ _ _ (by simp), up2_row, hσ]
    funext j; unfold upd rE; rfl
  · exact sr_at _ _ _
theorem I2_0 {n e z : Nat} {a b : St3} {A : Nat → Prop} (h : I1 n e a A 6 b) (h11 : (11, n, e, 0) ∉ ks b.1) (hok : okE (addK b.1 (11, n, e, 0) z)) (hA : ∀ k ∈ ks (addK b.1 (11, n, e, 0) z), A (ad (addK b.1 (11, n, e, 0) z) k)) : I2 n e a A 0 (addK b.1 (11, n, e, 0) z, upr (srr b.2.1 (11, n, e, 0) (fun _ => none)) (0, n, e, 0) 3 (11, n, e, 0), sr b.2.2 (11, n, e, 0) (fun _ => 0)) := by
  obtain ⟨g, ok, hAd, hfi, ⟨hth, hrw⟩, har, hz⟩ := h
  have g1 := add_gr z h11 (fun _ => False)
  have m11 : (11, n, e, 0) ∈ ks (addK b.1 (11, n, e, 0) z) := List.mem_append_right _ (List.mem_singleton.mpr rfl)
  refine ⟨?_, ⟨hok, clo_upr (clo_addK z ok.2) m11⟩, hA, fun k hk hne => ?_, ⟨?_, ?_, ?_⟩, fun j hj => absurd hj (Nat.not_lt_zero j), sr_at _ _ _⟩
  · have g3 : Gr (fun k => s1 n e 6 k ∨ k = (11, n, e, 0)) (tE n e) a (addK b.1 (11, n, e, 0) z, srr b.2.1 (11, n, e, 0) (fun _ => none), sr b.2.2 (11, n, e, 0) (fun _ => 0)) := g.tr g1 (fun k => Iff.rfl) (fun k q => q.elim Or.inr (fun f => f.elim))
    refine g3.tr (Gr.put (k := (0, n, e, 0)) (j := 3) (t := (11, n, e, 0))) (fun k => ?_) (fun k q => q.elim Or.inr Or.inr)
    unfold s2
    exact ⟨fun q => Or.inl (q.elim Or.inl (fun q => q.elim Or.inr (fun ⟨f, hf, _⟩ => absurd hf (Nat.not_lt_zero f)))), fun q => q.elim (fun q => q.elim Or.inl (fun q => Or.inr (Or.inl q))) (fun f => f.elim)⟩
  · have hk1 : s1 n e 6 k := by
      rcases hk with q | q | ⟨f, hf, _⟩
      · exact q
      · exact absurd q hne
      · exact absurd hf (Nat.not_lt_zero f)
    have nk0 : k ≠ (0, n, e, 0) := by
      rintro rfl
      rcases hk1 with q | ⟨l, _, q | q | q⟩ <;> cases q
    by_cases hk13 : k = (13, n, e, 0)
    · subst hk13
      intro j hj
      have hj6 : j < 6 := hj
      refine ⟨fun _ => ?_, ?_⟩
      · dsimp only
        rw [upr_nk _ _ _ _ nk0, srr_ne _ _ _ hne, har j hj6]; rfl
      · dsimp only
        rw [sr_ne _ _ _ hne, hz]; rfl
    · exact (hfi k hk1 hk13).keep (by show upr _ _ _ _ k = _; rw [upr_nk _ _ _ _ nk0, srr_ne _ _ _ hne]) (by show sr _ _ _ k = _; rw [sr_ne _ _ _ hne])
  · dsimp only
    rw [upr_nj _ _ _ _ (by decide), srr_ne _ _ _ (by simp)]; exact hth
  · exact upr_at _ _ _ _
  · dsimp only
    rw [sr_ne _ _ _ (by simp)]; exact hrw
def sE (n e : Nat) (k : Ky) : Prop := s2 n e 8 k
theorem end_post {n e : Nat} {a b : St3} {A : Nat → Prop} (h : I2 n e a A 8 b) : PP (sE n e) (tE n e) a A b := by
  obtain ⟨g, ok, hAd, hfi, ⟨hth, hth3, hrw⟩, har, hz⟩ := h
  refine ⟨g, ok, hAd, fun k hk => ?_⟩
  rcases hk with hk | hk
  · by_cases hk11 : k = (11, n, e, 0)
    · subst hk11
      intro j hj
      exact ⟨fun _ => har j hj, by rw [hz]; rfl⟩
    · exact hfi k hk hk11
  · obtain rfl : k = (0, n, e, 0) := hk
    intro j hj
    have hj4 : j < 4 := hj
    match j, hj4 with
    | 0, _ => exact ⟨fun q => (by cases q), by rw [hrw]; rfl⟩
    | 1, _ => exact ⟨fun q => (by cases q), by rw [hrw]; rfl⟩
    | 2, _ => exact ⟨fun _ => hth, by rw [hrw]; rfl⟩
    | 3, _ => exact ⟨fun _ => hth3, by rw [hrw]; rfl⟩
