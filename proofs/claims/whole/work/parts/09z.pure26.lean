/-! PURE PART 26: what the reference lays; laid on both sides. -/
theorem mLz_at : ∀ (d k : Nat) (σ : Sg) (j : Nat), mLz d k σ kNow j = if k ≤ j ∧ j < k + d then 0 else σ kNow j
  | 0, k, σ, j => by rw [mLz, if_neg (by omega)]
  | d + 1, k, σ, j => by
    rw [mLz, mLz_at d (k + 1)]
    by_cases h : k = j
    · subst h
      rw [if_neg (by omega), if_pos (by omega), up2_at]
    · by_cases h2 : k + 1 ≤ j ∧ j < k + 1 + d
      · rw [if_pos h2, if_pos (by omega)]
      · rw [if_neg h2, if_neg (by omega), up2_ne _ _ _ _ (by omega)]
theorem mLz_ne {k : Ky} (hk : k ≠ kNow) : ∀ (d i : Nat) (σ : Sg), mLz d i σ k = σ k
  | 0, _, _ => rfl
  | d + 1, i, σ => by rw [mLz, mLz_ne hk d, up2_nk _ _ _ _ hk]
theorem mLf_miss {j : Nat} : ∀ (d k : Nat) (σ : Sg), (∀ i, k ≤ i → i < k + d → j ≠ 10 + 2 * i) → mLf d k σ kNow j = σ kNow j
  | 0, _, _, _ => rfl
  | d + 1, k, σ, h => by rw [mLf, mLf_miss d (k + 1) _ (fun i h1 h2 => h i (by omega) (by omega)), up2_ne _ _ _ _ (h k (by omega) (by omega))]
theorem mLf_hit {i : Nat} : ∀ (d k : Nat) (σ : Sg), k ≤ i → i < k + d → mLf d k σ kNow (10 + 2 * i) = -4
  | 0, _, _, h1, h2 => by omega
  | d + 1, k, σ, h1, h2 => by
    rw [mLf]
    by_cases q : i = k
    · subst q; rw [mLf_miss d (i + 1) _ (fun i' g1 g2 => by omega), up2_at]
    · exact mLf_hit d (k + 1) _ (by omega) (by omega)
theorem mLf_ne {k : Ky} (hk : k ≠ kNow) : ∀ (d i : Nat) (σ : Sg), mLf d i σ k = σ k
  | 0, _, _ => rfl
  | d + 1, i, σ => by rw [mLf, mLf_ne hk d, up2_nk _ _ _ _ hk]
/-- a link's places as they are laid -/
def lb (b : Nat → Int32) (v0 v1 : Int32) : Nat → Int32 := upd (upd (upd (upd (upd b 0 v0) 1 v1) 8 (-4)) 13 (-4)) 14 1
def vL (σ : Sg) (l i : Nat) : Int32 := if σ kM 0 ≤ nI l then 0 else σ (9, 7, 0, 0) i
theorem lb_c {b b' : Nat → Int32} {v0 v1 : Int32} {j : Nat} (h : b' j = b j) : lb b' v0 v1 j = lb b v0 v1 j := by
  unfold lb upd
  (repeat' split) <;> first | rfl | exact h
theorem mLb_now (σ : Sg) (l e j : Nat) : mLb σ l e kNow j = if j = pl e l + 14 then 1 else if j = pl e l + 13 then -4 else if j = pl e l + 8 then -4 else if j = pl e l + 1 then vL σ l (4 * l + 2 * e + 1) else if j = pl e l + 0 then vL σ l (4 * l + 2 * e) else σ kNow j := by
  unfold mLb mLb3
  rw [up2_nk _ _ _ _ (show kNow ≠ (9, 5, 0, 0) by decide), up2n, up2n, up2n]
  unfold mLb2
  rw [up2n]
  unfold mLb1
  rw [up2n, up2_nk _ _ _ _ (show kM ≠ kNow by decide), up2_nk _ _ _ _ (show ((9, 7, 0, 0) : Ky) ≠ kNow by decide)]
  rfl
theorem mLb_row (σ : Sg) (l e j : Nat) : mLb σ l e kNow (pl e l + j) = lb (fun j => σ kNow (pl e l + j)) (vL σ l (4 * l + 2 * e)) (vL σ l (4 * l + 2 * e + 1)) j := by
  have q : ∀ i, (pl e l + j = pl e l + i) = (j = i) := fun i => propext ⟨fun h => by omega, fun h => by omega⟩
  rw [mLb_now]
  unfold lb upd
  simp only [q]
theorem mLb_off (σ : Sg) {l e j : Nat} (h : ¬ (pl e l ≤ j ∧ j < pl e l + 16)) : mLb σ l e kNow j = σ kNow j := by
  rw [mLb_now, if_neg (by omega), if_neg (by omega), if_neg (by omega), if_neg (by omega), if_neg (by omega)]
theorem mLb_95 (σ : Sg) (l e j : Nat) : mLb σ l e (9, 5, 0, 0) j = if j = 6 * e + l then 0 else σ (9, 5, 0, 0) j := by
  unfold mLb mLb3
  have h : ∀ (τ : Sg) (i : Nat) (v : Int32), up2 τ kNow i v (9, 5, 0, 0) = τ (9, 5, 0, 0) := fun τ i v => up2_nk _ _ _ _ (by decide)
  by_cases q : j = 6 * e + l
  · rw [if_pos q, q, up2_at]
  · rw [if_neg q, up2_ne _ _ _ _ q, h, h, h]
    unfold mLb2 mLb1
    rw [h, h]
theorem mLb_ne {σ : Sg} {l e : Nat} {k : Ky} (h1 : k ≠ kNow) (h2 : k ≠ (9, 5, 0, 0)) : mLb σ l e k = σ k := by
  unfold mLb mLb3 mLb2 mLb1
  rw [up2_nk _ _ _ _ h2, up2_nk _ _ _ _ h1, up2_nk _ _ _ _ h1, up2_nk _ _ _ _ h1, up2_nk _ _ _ _ h1, up2_nk _ _ _ _ h1]
def tL (l : Nat) (σ : Sg) : Sg := mLb (mLb (up2 σ kNow (4 + l) 1) l 0) l 1
theorem mLl_iter : ∀ (d l : Nat) (σ : Sg), mLl d l σ = iter tL d l σ
  | 0, _, _ => rfl
  | d + 1, l, σ => by rw [mLl, iter]; exact mLl_iter d (l + 1) _
theorem vL_c {σ σ' : Sg} (h0 : σ' kM 0 = σ kM 0) (h7 : σ' (9, 7, 0, 0) = σ (9, 7, 0, 0)) (l i : Nat) : vL σ' l i = vL σ l i := by unfold vL; rw [h0, h7]
theorem tL_row (σ : Sg) {l e j : Nat} (hl : l < 6) (he : e < 2) (hj : j < 16) : tL l σ kNow (pl e l + j) = lb (fun j => σ kNow (pl e l + j)) (vL σ l (4 * l + 2 * e)) (vL σ l (4 * l + 2 * e + 1)) j := by
  have hu : ∀ i, up2 σ kNow (4 + l) 1 kNow (pl e l + i) = σ kNow (pl e l + i) := fun i => up2_ne _ _ _ _ (by have := pl_ge e l; omega)
  have hM : ∀ k : Ky, k ≠ kNow → up2 σ kNow (4 + l) 1 k = σ k := fun k hk => up2_nk _ _ _ _ hk
  have hpl := pl_ne (e := 0) (l := l) (e' := 1) (l' := l) (by decide) hl (by decide) hl (by omega)
  unfold tL
  have hee : e = 0 ∨ e = 1 := by omega
  rcases hee with rfl | rfl
  · rw [mLb_off _ (by omega), mLb_row, vL_c (by rw [hM _ (by decide)]) (hM _ (by decide)), vL_c (by rw [hM _ (by decide)]) (hM _ (by decide))]
    exact lb_c (hu j)
  · have h1 : ∀ k : Ky, k ≠ kNow → k ≠ (9, 5, 0, 0) → mLb (up2 σ kNow (4 + l) 1) l 0 k = σ k := fun k g1 g2 => by rw [mLb_ne g1 g2, hM k g1]
    rw [mLb_row, vL_c (by rw [h1 _ (by decide) (by decide)]) (h1 _ (by decide) (by decide)), vL_c (by rw [h1 _ (by decide) (by decide)]) (h1 _ (by decide) (by decide))]
    refine lb_c ?_
    show mLb (up2 σ kNow (4 + l) 1) l 0 kNow (pl 1 l + j) = _
    rw [mLb_off _ (by omega)]; exact hu j
theorem tL_up (σ : Sg) {l : Nat} (hl : l < 6) : tL l σ kNow (4 + l) = 1 := by
  unfold tL
  have h0 := pl_ge 0 l
  have h1 := pl_ge 1 l
  rw [mLb_off _ (by omega), mLb_off _ (by omega), up2_at]
theorem tL_95 (σ : Sg) {l e : Nat} (hl : l < 6) (he : e < 2) : tL l σ (9, 5, 0, 0) (6 * e + l) = 0 := by
  unfold tL
  rw [mLb_95, mLb_95]
  have hee : e = 0 ∨ e = 1 := by omega
  rcases hee with rfl | rfl
  · rw [if_neg (by omega), if_pos rfl]
  · rw [if_pos rfl]
def kL (l : Nat) (k : Ky) (j : Nat) : Prop := (k = kNow ∧ (j = 4 + l ∨ ∃ e, e < 2 ∧ pl e l ≤ j ∧ j < pl e l + 16)) ∨ (k = (9, 5, 0, 0) ∧ ∃ e, e < 2 ∧ j = 6 * e + l)
theorem tL_ne {σ : Sg} {l j : Nat} {k : Ky} (h : ¬ kL l k j) : tL l σ k j = σ k j := by
  unfold tL
  by_cases hk : k = kNow
  · subst hk
    rw [mLb_off _ (fun q => h (Or.inl ⟨rfl, Or.inr ⟨1, by decide, q⟩⟩)), mLb_off _ (fun q => h (Or.inl ⟨rfl, Or.inr ⟨0, by decide, q⟩⟩)), up2_ne _ _ _ _ (fun q => h (Or.inl ⟨rfl, Or.inl q⟩))]
  · by_cases h5 : k = (9, 5, 0, 0)
    · subst h5
      rw [mLb_95, mLb_95, if_neg (fun q => h (Or.inr ⟨rfl, 1, by decide, q⟩)), if_neg (fun q => h (Or.inr ⟨rfl, 0, by decide, q⟩)), up2_nk _ _ _ _ (by decide)]
    · rw [mLb_ne hk h5, mLb_ne hk h5, up2_nk _ _ _ _ hk]
theorem mLl_at (σ : Sg) : (∀ l, l < 6 → ∀ k j, kL l k j → mLl 6 0 σ k j = tL l σ k j) ∧ ∀ k j, (∀ l, l < 6 → ¬ kL l k j) → mLl 6 0 σ k j = σ k j := by
  have h := iter_loc (f := tL) (K := kL) (D := fun l k j => kL l k j ∨ k = kM ∨ k = (9, 7, 0, 0)) 6 (fun i σ k j _ q => tL_ne q)
    (fun i σ σ' hi q k j hk => by
      have hM : σ' kM 0 = σ kM 0 := q kM 0 (Or.inr (Or.inl rfl))
      have h7 : σ' (9, 7, 0, 0) = σ (9, 7, 0, 0) := funext (fun j => q _ j (Or.inr (Or.inr rfl)))
      rcases hk with ⟨rfl, rfl | ⟨e, he, g1, g2⟩⟩ | ⟨rfl, e, he, rfl⟩
      · rw [tL_up σ' hi, tL_up σ hi]
      · obtain ⟨r, rfl⟩ : ∃ r, j = pl e i + r := ⟨j - pl e i, by omega⟩
        rw [tL_row σ' hi he (by omega), tL_row σ hi he (by omega), vL_c hM h7, vL_c hM h7]
        exact lb_c (q _ _ (Or.inl (Or.inl ⟨rfl, Or.inr ⟨e, he, g1, g2⟩⟩)))
      · rw [tL_95 σ' hi he, tL_95 σ hi he])
    (fun i i' hi hi' hne k j hk => by
      have no : ¬ kL i' k j := fun hk' => by
        rcases hk with ⟨rfl, g⟩ | ⟨rfl, e, he, rfl⟩
        · rcases hk' with ⟨-, g'⟩ | ⟨q, -⟩
          · rcases g with rfl | ⟨e, he, g1, g2⟩
            · rcases g' with g' | ⟨e', he', g3, g4⟩
              · omega
              · have := pl_ge e' i'; omega
            · rcases g' with rfl | ⟨e', he', g3, g4⟩
              · have := pl_ge e i; omega
              · have := pl_ne (e := e) (l := i) (e' := e') (l' := i') he hi he' hi' (by omega)
                omega
          · exact absurd q (by decide)
        · rcases hk' with ⟨q, -⟩ | ⟨-, e', he', q⟩
          · exact absurd q (by decide)
          · omega
      refine ⟨fun hd => ?_, no⟩
      rcases hd with hd | hd | hd
      · exact no hd
      · rcases hk with ⟨q, -⟩ | ⟨q, -⟩
        · exact absurd (q.symm.trans hd) (by decide)
        · exact absurd (q.symm.trans hd) (by decide)
      · rcases hk with ⟨q, -⟩ | ⟨q, -⟩
        · exact absurd (q.symm.trans hd) (by decide)
        · exact absurd (q.symm.trans hd) (by decide)) 6 0 σ (by decide)
  rw [mLl_iter]
  exact ⟨fun l hl k j hk => h.1 l (by omega) (by omega) k j hk, fun k j q => h.2 k j (fun i _ hi => q i (by omega))⟩
theorem mLays_ne {m : Sg} {k : Ky} (h1 : k ≠ kNow) (h2 : k ≠ kM) (h3 : k ≠ (9, 5, 0, 0)) : mLays m k = m k := by
  unfold mLays
  funext j
  rw [up2_nk _ _ _ _ h2, (mLl_at _).2 k j (fun l hl q => by
    rcases q with ⟨q, -⟩ | ⟨q, -⟩
    · exact h1 q
    · exact h3 q), mLf_ne h1]
  unfold mLy3
  rw [up2_nk _ _ _ _ h1, up2_nk _ _ _ _ h1, up2_nk _ _ _ _ h1, mLz_ne h1]
  unfold mLy2 mLy1
  rw [up2_nk _ _ _ _ h2, up2_nk _ _ _ _ h2, up2_nk _ _ _ _ h2]
theorem mLays_M (m : Sg) : mLays m kM 0 = m kM 10 ∧ mLays m kM 1 = m (9, 9, 0, 0) 1 ∧ mLays m kM 2 = m (9, 9, 0, 0) 2 ∧ mLays m kM 6 = 0 ∧ mLays m kM 9 = m kM 9 := by
  have h : ∀ j, j ≠ 6 → mLays m kM j = mLy2 (mLy1 m) kM j := fun j hj => by
    unfold mLays
    rw [up2_ne _ _ _ _ hj, (mLl_at _).2 kM j (fun l hl q => by
      rcases q with ⟨q, -⟩ | ⟨q, -⟩
      · exact absurd q (by decide)
      · exact absurd q (by decide)), mLf_ne (by decide)]
    unfold mLy3
    rw [up2_nk _ _ _ _ (by decide), up2_nk _ _ _ _ (by decide), up2_nk _ _ _ _ (by decide), mLz_ne (by decide)]
  refine ⟨?_, ?_, ?_, ?_, ?_⟩
  · rw [h 0 (by decide)]; unfold mLy2 mLy1
    rw [up2_ne _ _ _ _ (by decide), up2_ne _ _ _ _ (by decide), up2_at]
  · rw [h 1 (by decide)]; unfold mLy2 mLy1
    rw [up2_ne _ _ _ _ (by decide), up2_at, up2_nk _ _ _ _ (by decide)]
  · rw [h 2 (by decide)]; unfold mLy2 mLy1
    rw [up2_at, up2_nk _ _ _ _ (by decide), up2_nk _ _ _ _ (by decide)]
  · unfold mLays; rw [up2_at]
  · rw [h 9 (by decide)]; unfold mLy2 mLy1
    rw [up2_ne _ _ _ _ (by decide), up2_ne _ _ _ _ (by decide), up2_ne _ _ _ _ (by decide)]
/-- ahead of the links -/
def mL5 (m : Sg) : Sg := mLf 16 0 (mLy3 (mLz 235 0 (mLy2 (mLy1 m))))
theorem mL5_M (m : Sg) : mL5 m kM 0 = m kM 10 := by
  unfold mL5
  rw [mLf_ne (by decide)]
  unfold mLy3
  rw [up2_nk _ _ _ _ (by decide), up2_nk _ _ _ _ (by decide), up2_nk _ _ _ _ (by decide), mLz_ne (by decide)]
  unfold mLy2 mLy1
  rw [up2_ne _ _ _ _ (by decide), up2_ne _ _ _ _ (by decide), up2_at]
theorem mL5_7 {m : Sg} {k : Ky} (h1 : k ≠ kNow) (h2 : k ≠ kM) : mL5 m k = m k := by
  unfold mL5
  rw [mLf_ne h1]
  unfold mLy3
  rw [up2_nk _ _ _ _ h1, up2_nk _ _ _ _ h1, up2_nk _ _ _ _ h1, mLz_ne h1]
  unfold mLy2 mLy1
  rw [up2_nk _ _ _ _ h2, up2_nk _ _ _ _ h2, up2_nk _ _ _ _ h2]
theorem mL5_now (m : Sg) (j : Nat) (hj : j < 235) (hm : ∀ i, i < 16 → j ≠ 10 + 2 * i) : mL5 m kNow j = if j = 2 then m (9, 9, 0, 0) 0 else if j = 1 then m (9, 8, 0, 0) 1 else if j = 0 then m (9, 8, 0, 0) 0 else 0 := by
  unfold mL5
  rw [mLf_miss 16 0 _ (fun i _ hi => hm i (by omega))]
  have hz : ∀ k : Ky, k ≠ kNow → k ≠ kM → mLz 235 0 (mLy2 (mLy1 m)) k = m k := fun k h1 h2 => by
    rw [mLz_ne h1]; unfold mLy2 mLy1
    rw [up2_nk _ _ _ _ h2, up2_nk _ _ _ _ h2, up2_nk _ _ _ _ h2]
  unfold mLy3
  rw [up2n, up2n, up2n, up2_nk _ _ _ _ (show ((9, 9, 0, 0) : Ky) ≠ kNow by decide), up2_nk _ _ _ _ (show ((9, 9, 0, 0) : Ky) ≠ kNow by decide), up2_nk _ _ _ _ (show ((9, 8, 0, 0) : Ky) ≠ kNow by decide), hz (9, 9, 0, 0) (by decide) (by decide), hz (9, 8, 0, 0) (by decide) (by decide), mLz_at, if_pos (show 0 ≤ j ∧ j < 0 + 235 by omega)]
theorem mLays_lo (m : Sg) {j : Nat} (h : ∀ l, l < 6 → ¬ kL l kNow j) : mLays m kNow j = mL5 m kNow j := by
  unfold mLays mL5
  rw [up2_nk _ _ _ _ (by decide), (mLl_at _).2 kNow j h]
theorem kL_lo {j l : Nat} (hl : l < 6) (h : j < 4 ∨ (10 ≤ j ∧ j < 42)) : ¬ kL l kNow j := fun q => by
  rcases q with ⟨-, q | ⟨e, he, g1, g2⟩⟩ | ⟨q, -⟩
  · omega
  · have := pl_ge e l; omega
  · exact absurd q (by decide)
theorem mLays_up (m : Sg) {l : Nat} (hl : l < 6) : mLays m kNow (4 + l) = 1 := by
  unfold mLays
  rw [up2_nk _ _ _ _ (by decide), (mLl_at _).1 l hl kNow _ (Or.inl ⟨rfl, Or.inl rfl⟩), tL_up _ hl]
theorem mLays_row (m : Sg) {N e l j : Nat} (hN : m kM 10 = nI N) (hN6 : N ≤ 6) (he : e < 2) (hl : l < 6) (hj : j < 16) : mLays m kNow (pl e l + j) = lb (fun _ => 0) (if N ≤ l then 0 else m (9, 7, 0, 0) (4 * l + 2 * e)) (if N ≤ l then 0 else m (9, 7, 0, 0) (4 * l + 2 * e + 1)) j := by
  have hv : ∀ i, vL (mL5 m) l i = if N ≤ l then 0 else m (9, 7, 0, 0) i := fun i => by
    unfold vL
    rw [mL5_M, hN, mL5_7 (by decide) (by decide)]
    by_cases q : N ≤ l
    · rw [if_pos q, if_pos (nI_le q (by omega))]
    · rw [if_neg q, if_neg (nI_ge (by omega) (by omega))]
  have e1 : mLays m kNow (pl e l + j) = tL l (mL5 m) kNow (pl e l + j) := by
    unfold mLays mL5
    rw [up2_nk _ _ _ _ (by decide), (mLl_at _).1 l hl kNow _ (Or.inl ⟨rfl, Or.inr ⟨e, he, by omega, by omega⟩⟩)]
  rw [e1, tL_row _ hl he hj, hv, hv]
  refine lb_c ?_
  have h1 := pl_ge e l
  have h2 := pl_lt he hl
  show mL5 m kNow (pl e l + j) = 0
  rw [mL5_now m _ (by omega) (fun i hi => by omega), if_neg (by omega), if_neg (by omega), if_neg (by omega)]
theorem mLays_95 (m : Sg) {i : Nat} (hi : i < 12) : mLays m (9, 5, 0, 0) i = 0 := by
  have e1 : i = 6 * (i / 6) + i % 6 := by omega
  unfold mLays
  rw [up2_nk _ _ _ _ (by decide), e1, (mLl_at _).1 (i % 6) (by omega) (9, 5, 0, 0) _ (Or.inr ⟨rfl, i / 6, by omega, rfl⟩), tL_95 _ (by omega) (by omega)]
theorem PN_NR {z m : Sg} {N : Nat} (hN : m kM 10 = nI N) (hp : PN z N (m (9, 7, 0, 0)) (m (9, 8, 0, 0)) (m (9, 9, 0, 0))) : NR z 0 (mLays m kNow) N (mLays m kM 1) (mLays m kM 2) 0 := by
  obtain ⟨⟨p1, p2, p3, p4, p5, p6, pM⟩, hE, hC, hU, hD, hF⟩ := hp
  obtain ⟨-, m1, m2, -, -⟩ := mLays_M m
  have lo : ∀ j, j < 4 → mLays m kNow j = if j = 2 then m (9, 9, 0, 0) 0 else if j = 1 then m (9, 8, 0, 0) 1 else if j = 0 then m (9, 8, 0, 0) 0 else 0 := fun j hj => by
    rw [mLays_lo m (fun l hl => kL_lo hl (Or.inl hj)), mL5_now m j (by omega) (fun i hi => by omega)]
  have l2 : mLays m kNow 2 = m (9, 9, 0, 0) 0 := by rw [lo 2 (by decide)]; rfl
  refine ⟨fun e he => ?_, ⟨p2, by rw [m1]; exact p4, by rw [m2]; exact p5, p6, ?_, by rw [l2]; exact p3, by rw [l2]; exact pM⟩, fun e l he hl => ?_, fun e l he hl hl6 => ?_, fun e f he hf => ?_⟩
  · rw [lo (0 + e) (by omega)]
    have hee : e = 0 ∨ e = 1 := by omega
    rcases hee with rfl | rfl
    · exact hE 0 (by decide)
    · exact hE 1 (by decide)
  · rw [lo 3 (by decide)]; rfl
  · rw [mLays_up m (by omega)]
    have hr : ∀ j, j < 16 → mLays m kNow (pl e l + j) = lb (fun _ => 0) (m (9, 7, 0, 0) (4 * l + 2 * e)) (m (9, 7, 0, 0) (4 * l + 2 * e + 1)) j := fun j hj => by
      rw [mLays_row m hN p1 he (by omega) hj, if_neg (by omega), if_neg (by omega)]
    refine PR_congr (b := lb (fun _ => 0) (m (9, 7, 0, 0) (4 * l + 2 * e)) (m (9, 7, 0, 0) (4 * l + 2 * e + 1))) ?_ hr
    obtain ⟨c1, c2, c3, c4, c5, c6, c7, c8, c9, c10⟩ := hC e l he (by omega)
    obtain ⟨u1, u2, u3, u4⟩ := hU e l he hl
    exact ⟨⟨u1, c1, u3, u4, u2, c4⟩, ⟨c6, c7, c8, c9, c10⟩, Or.inl ⟨c5, rfl⟩, Or.inl ⟨c2, rfl, c3⟩⟩
  · obtain ⟨c1, c2, c3, c4, c5, -⟩ := hC e l he hl6
    obtain ⟨d1, d2⟩ := hD e l he hl hl6
    refine ⟨⟨d1, c1, c5, c2, d2⟩, ?_⟩
    rw [mLays_row m hN p1 he hl6 (by decide)]; rfl
  · obtain ⟨f1, f2⟩ := hF e f he hf
    have hfp : fp e f = 10 + 2 * (8 * e + f) := rfl
    have q0 : mLays m kNow (fp e f + 0) = -4 := by
      rw [mLays_lo m (fun l hl => kL_lo hl (Or.inr (by omega)))]
      unfold mL5
      exact mLf_hit 16 0 _ (by omega) (by omega)
    have q1 : mLays m kNow (fp e f + 1) = 0 := by
      rw [mLays_lo m (fun l hl => kL_lo hl (Or.inr (by omega))), mL5_now m _ (by omega) (fun i hi => by omega), if_neg (by omega), if_neg (by omega), if_neg (by omega)]
    rw [q0, q1]
    exact ⟨f1, f2, Or.inl rfl⟩
