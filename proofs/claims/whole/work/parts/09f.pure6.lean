/-! PURE PART 6: deals of the reference; the ports' rows against the reference's. -/
theorem mDeal_ne {σ : Sg} {P : Nat} {to : Int32} {j : Nat} {k : Ky} (h : ¬ (k = kNow ∧ P ≤ j ∧ j ≤ P + 1)) : mDeal σ P to k j = σ k j := by
  unfold mDeal mHl
  by_cases hk : k = kNow
  · subst hk
    have h2 : ¬ (P ≤ j ∧ j ≤ P + 1) := fun q => h ⟨rfl, q⟩
    (repeat' split) <;> (try rw [up2n, if_neg (by omega)]) <;> (try rw [up2n, if_neg (by omega)]) <;> (try rfl)
  · (repeat' split) <;> (try rw [up2_nk _ _ _ _ hk]) <;> (try rw [up2_nk _ _ _ _ hk]) <;> (try rfl)
theorem mSnd_c {σ σ' : Sg} {e i : Nat} (h : σ' kNow (pl e i + 14) = σ kNow (pl e i + 14)) : mSnd σ' e i = mSnd σ e i := by unfold mSnd; rw [h]
theorem mWant_c {σ σ' : Sg} {e : Nat} (h : ∀ i, σ' kNow (pl e i + 14) = σ kNow (pl e i + 14)) (L : Nat) (f : Int32) : mWant σ' e L f = mWant σ e L f := by
  have h1 : ∀ (d i : Nat) (a : Int32), mWantR σ' e d i a = mWantR σ e d i a := by
    intro d
    induction d with
    | zero => intro i a; rfl
    | succ d ih => intro i a; rw [mWantR, mWantR, mSnd_c (h i), ih, ih]
  have h2 : mCntS σ' e L = mCntS σ e L := by
    unfold mCntS
    have : (fun i => if mSnd σ' e i = 0 then (0 : Int32) else 1) = (fun i => if mSnd σ e i = 0 then (0 : Int32) else 1) := by funext i; rw [mSnd_c (h i)]
    rw [this]
  unfold mWant
  rw [h1, h2]
theorem mT3_iter (L : Nat) : ∀ (d k : Nat) (σ : Sg), mT3 L d k σ = iter (fun k σ => mDeals σ (k / 8) (k % 8) L) d k σ
  | 0, _, _ => rfl
  | d + 1, k, σ => by rw [mT3, iter]; exact mT3_iter L d (k + 1) _
theorem dl_c {r r' : Nat → Int32} {to dr : Int32} (h0 : r' 0 = r 0) (h1 : r' 1 = r 1) {j : Nat} (hj : j < 2) : dl r' to dr j = dl r to dr j := by
  have hjj : j = 0 ∨ j = 1 := by omega
  unfold dl
  rw [h0, h1]
  rcases hjj with rfl | rfl <;> (repeat' split) <;> simp_all [upd]
theorem mT3_at {σ : Sg} {L : Nat} : (∀ e f, e < 2 → f < 8 → ∀ j, j < 2 → mT3 L 16 0 σ kNow (fp e f + j) = dl (fun j => σ kNow (fp e f + j)) (mWant σ e L (nI f)) (σ kM 2) j) ∧ (∀ k j, ¬ (k = kNow ∧ 10 ≤ j ∧ j < 42) → mT3 L 16 0 σ k j = σ k j) := by
  have h := iter_loc (f := fun k σ => mDeals σ (k / 8) (k % 8) L) (K := fun i k j => k = kNow ∧ 10 + 2 * i ≤ j ∧ j ≤ 10 + 2 * i + 1)
    (D := fun i k j => (k = kNow ∧ ((10 + 2 * i ≤ j ∧ j ≤ 10 + 2 * i + 1) ∨ 42 ≤ j)) ∨ k = kM) 16
    (fun i σ k j hi q => by unfold mDeals; exact mDeal_ne (fun g => q (by unfold fp at g; exact ⟨g.1, by omega, by omega⟩)))
    (fun i σ σ' hi q k j hk => by
      obtain ⟨rfl, h1, h2⟩ := hk
      have hP : fp (i / 8) (i % 8) = 10 + 2 * i := by unfold fp; omega
      obtain ⟨m, rfl⟩ : ∃ m, j = fp (i / 8) (i % 8) + m := ⟨j - fp (i / 8) (i % 8), by omega⟩
      unfold mDeals
      rw [mDeal_at σ' _ _ (by omega), mDeal_at σ _ _ (by omega), mWant_c (σ := σ) (σ' := σ') (fun l => q kNow _ (Or.inl ⟨rfl, Or.inr (by unfold pl; omega)⟩)), q kM 2 (Or.inr rfl)]
      exact dl_c (q kNow (fp (i / 8) (i % 8) + 0) (Or.inl ⟨rfl, Or.inl ⟨by omega, by omega⟩⟩)) (q kNow (fp (i / 8) (i % 8) + 1) (Or.inl ⟨rfl, Or.inl ⟨by omega, by omega⟩⟩)) (by omega))
    (fun i i' hi hi' hne k j hk => by
      obtain ⟨rfl, h1, h2⟩ := hk
      constructor
      · rintro (⟨-, q⟩ | q)
        · omega
        · cases q
      · rintro ⟨-, q⟩; omega) 16 0 σ (by omega)
  rw [mT3_iter]
  refine ⟨fun e f he hf j hj => ?_, fun k j q => h.2 k j (fun i _ hi g => q ⟨g.1, by omega, by omega⟩)⟩
  have e1 : (8 * e + f) / 8 = e := by omega
  have e2 : (8 * e + f) % 8 = f := by omega
  rw [h.1 (8 * e + f) (by omega) (by omega) kNow (fp e f + j) (by unfold fp; exact ⟨rfl, by omega, by omega⟩)]
  rw [e1, e2]
  exact mDeal_at σ _ _ hj
/-! the relation of a port's rows -/
def HR (p5 p3 b : Nat → Int32) : Prop := (b01 (p3 0) = 0 ∧ b 8 = -4) ∨ (¬ b01 (p3 0) = 0 ∧ b 8 = p5 6 ∧ (p5 6 = 0 ∨ p5 6 = 1 ∨ p5 6 = 2) ∧ p3 1 = b 9 ∧ p3 2 = b 10 ∧ p3 3 = b 11 ∧ b01 (p3 4) = b 12)
def CR (p5 b : Nat → Int32) (t : Nat) : Prop := (b01 (p5 8) = 0 ∧ b 13 = -4 ∧ p5 9 = -1) ∨ (¬ b01 (p5 8) = 0 ∧ b 13 = p5 9 ∧ ∃ c, c ≤ t ∧ p5 9 = nI c)
def SR (p14 b : Nat → Int32) : Prop := b01 (p14 0) = b 3 ∧ p14 1 = b 4 ∧ p14 2 = b 5 ∧ p14 3 = b 6 ∧ b01 (p14 4) = b 7
def OR (p5 b : Nat → Int32) (up : Int32) : Prop := b01 (p5 0) = up ∧ b01 (p5 1) = b 2 ∧ p5 2 = b 0 ∧ p5 3 = b 1 ∧ p5 7 = b 14 ∧ p5 10 = b 15
def PR (p5 p3 p14 : Nat → Int32) (up : Int32) (b : Nat → Int32) (t : Nat) : Prop := OR p5 b up ∧ SR p14 b ∧ HR p5 p3 b ∧ CR p5 b t
theorem b01_or2 (x : Int32) : b01 x = 0 ∨ b01 x = 1 := by unfold b01; split <;> simp
theorem b01_b01 (x : Int32) : b01 (b01 x) = b01 x := by rcases b01_or2 x with h | h <;> rw [h] <;> rfl
theorem PR_hear {p5 p3 p14 m : Nat → Int32} {up : Int32} {b b2 : Nat → Int32} {t : Nat} (h : PR p5 p3 p14 up b t) (hm : SR m b2) : PR (h5 p5 p3 m) (h3 p5 p3 m) p14 up (cR b up b2) t := by
  obtain ⟨⟨o1, o2, o3, o4, o5, o6⟩, ⟨s1, s2, s3, s4, s5⟩, hh, hc⟩ := h
  obtain ⟨m1, m2, m3', m4, m5⟩ := hm
  unfold h5 h3 cR
  by_cases a : b01 (p5 0) = 0
  · rw [if_pos a, if_pos a, if_pos (o1.symm.trans a)]
    refine ⟨⟨o1, ?_⟩, ⟨?_, ?_⟩, Or.inl ⟨by simp [upd, b01], by simp [upd]⟩, ?_⟩
    · simpa [upd] using ⟨o2, o3, o4, o5, o6⟩
    · simpa [upd] using s1
    · simpa [upd] using ⟨s2, s3, s4, s5⟩
    · simpa [upd, CR] using hc
  · have hu : ¬ up = 0 := fun q => a (o1.trans q)
    rw [if_neg a, if_neg a, if_neg hu]
    by_cases c : b01 (m 0) = 0
    · have c2 : ¬ b2 3 = 1 := fun q => by rw [← m1, c] at q; exact absurd q (by decide)
      rw [if_pos c, if_pos c, if_neg c2]
      rcases hh with ⟨g1, g2⟩ | ⟨g1, g2, g3, g4⟩
      · rw [if_pos g1, if_pos g1, if_pos g2]
        exact ⟨⟨o1, o2, o3, o4, o5, o6⟩, ⟨s1, s2, s3, s4, s5⟩, Or.inl ⟨g1, g2⟩, hc⟩
      · have n4 : ¬ b 8 = -4 := fun q => by rw [g2] at q; rcases g3 with g | g | g <;> rw [g] at q <;> exact absurd q (by decide)
        rw [if_neg g1, if_neg g1, if_neg n4, g2]
        rcases g3 with g | g | g
        · rw [g, if_neg (show ¬ (3 : Int32) ≤ 0 + 1 by decide), if_neg (show ¬ (0 : Int32) + 1 = 3 by decide)]
          refine ⟨⟨by simpa [upd] using o1, ?_⟩, ⟨?_, ?_⟩, Or.inr ⟨by simp [upd, b01], by simp [upd], Or.inr (Or.inl (by simp [upd])), ?_⟩, ?_⟩
          · simpa [upd] using ⟨o2, o3, o4, o5, o6⟩
          · simpa [upd] using s1
          · simpa [upd] using ⟨s2, s3, s4, s5⟩
          · simpa [upd] using g4
          · simpa [upd, CR] using hc
        · rw [g, if_neg (show ¬ (3 : Int32) ≤ 1 + 1 by decide), if_neg (show ¬ (1 : Int32) + 1 = 3 by decide)]
          refine ⟨⟨by simpa [upd] using o1, ?_⟩, ⟨?_, ?_⟩, Or.inr ⟨by simp [upd, b01], by simp [upd], Or.inr (Or.inr (by simp [upd])), ?_⟩, ?_⟩
          · simpa [upd] using ⟨o2, o3, o4, o5, o6⟩
          · simpa [upd] using s1
          · simpa [upd] using ⟨s2, s3, s4, s5⟩
          · simpa [upd] using g4
          · simpa [upd, CR] using hc
        · rw [g, if_pos (show (3 : Int32) ≤ 2 + 1 by decide), if_pos (show (2 : Int32) + 1 = 3 by decide)]
          refine ⟨⟨by simpa [upd] using o1, ?_⟩, ⟨?_, ?_⟩, Or.inl ⟨by simp [upd, b01], by simp [upd]⟩, ?_⟩
          · simpa [upd] using ⟨o2, o3, o4, o5, o6⟩
          · simpa [upd] using s1
          · simpa [upd] using ⟨s2, s3, s4, s5⟩
          · simpa [upd, CR] using hc
    · have c1 : b01 (m 0) = 1 := (b01_or2 _).resolve_left c
      rw [if_neg c, if_neg c, if_pos (m1.symm.trans c1)]
      refine ⟨⟨by simpa [upd] using o1, ?_⟩, ⟨?_, ?_⟩, Or.inr ⟨?_, by simp [upd], Or.inl (by simp [upd]), ?_⟩, ?_⟩
      · simpa [upd] using ⟨o2, o3, o4, o5, o6⟩
      · simpa [upd] using s1
      · simpa [upd] using ⟨s2, s3, s4, s5⟩
      · simp only [m3, upd]; simp [b01_b01, c]
      · exact ⟨m2, m3', m4, (b01_b01 _).trans m5⟩
      · simpa [upd, CR] using hc
