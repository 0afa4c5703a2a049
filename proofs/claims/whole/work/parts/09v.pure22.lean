/-! PURE PART 22: the text, item by item, on both sides. -/
def lt_ (c : Nat → Int32) (T i : Nat) : Int32 := if i < T then c i else 0
def LC (x : Sg) (c : Nat → Int32) (T : Nat) : Prop := T ≤ 200 ∧ x (6, 0, 0, 0) 1 = nI T ∧ ∀ i, i < T → x (9, 0, 0, 0) i = c i
theorem LC.at {x : Sg} {c : Nat → Int32} {T : Nat} (h : LC x c T) {i : Nat} (hi : i < 2 ^ 20) : tLet x (nI i) = lt_ c T i := by
  obtain ⟨hT, h1, h2⟩ := h
  unfold tLet lt_
  rw [if_neg (nI_pos (by omega)), h1]
  by_cases q : i < T
  · rw [if_neg (nI_ge q (by omega)), if_neg (show ¬ (200 : Int32) ≤ nI i from nI_ge (b := 200) (by omega) (by decide)), nI_clamp (by omega), if_pos q]
    exact h2 i q
  · rw [if_pos (nI_le (by omega) (by omega)), if_neg q]
def nn (v : Int32) : Nat := if v = 108 then 4 else if v = 109 then 3 else if v = 120 then 2 else 0
theorem nn_le (v : Int32) : nn v ≤ 4 := by unfold nn; (repeat' split) <;> omega
theorem LC.nOf {x : Sg} {c : Nat → Int32} {T : Nat} (h : LC x c T) {a : Nat} (ha : a < 2 ^ 19) : tN x (nI a) = nn (lt_ c T a) := by
  unfold tN nn; rw [h.at (by omega)]
theorem ix2 (a k : Nat) : nI a + 2 * nI k + 1 = nI (a + 2 * k + 1) := by rw [show (2 : Int32) = nI 2 from rfl, pk_mul, nI_add, nI_1]
theorem ix3 (a k : Nat) : nI a + 2 * nI k + 2 = nI (a + 2 * k + 2) := by rw [show (2 : Int32) = nI 2 from rfl, pk_mul, nI_add, nI_add]
/-- a number of an item -/
def nm (e : Nat → Int32) (a k : Nat) : Int32 := e (a + 2 * k + 1) - 48
theorem LC.num {x : Sg} {c : Nat → Int32} {T : Nat} (h : LC x c T) {a k : Nat} (ha : a < 2 ^ 19) (hk : k < 2 ^ 10) : tNum x (nI a) (nI k) = nm (lt_ c T) a k := by
  unfold tNum nm; rw [ix2, h.at (by omega)]
theorem zFig_48 (v : Int32) : zFig (v - 48) = mWi v 48 57 := by
  have hb := Int32.toInt_sub v 48
  have h48 : (48 : Int32).toInt = 48 := by decide
  have h57 : (57 : Int32).toInt = 57 := by decide
  have h9 : (9 : Int32).toInt = 9 := by decide
  have h0 : (0 : Int32).toInt = 0 := by decide
  have h1 := Int32.le_toInt v
  have h2 := Int32.toInt_lt v
  rw [h48, Int.bmod_def] at hb
  unfold zFig mWi
  by_cases q1 : v < 48
  · rw [if_pos q1]
    rw [Int32.lt_iff_toInt_lt, h48] at q1
    by_cases q2 : v - 48 < 0
    · rw [if_pos q2]
    · rw [if_neg q2, if_pos]
      rw [Int32.lt_iff_toInt_lt, h0] at q2
      rw [Int32.lt_iff_toInt_lt, h9]
      split at hb <;> omega
  · rw [if_neg q1]
    rw [Int32.lt_iff_toInt_lt, h48] at q1
    rw [if_neg (show ¬ v - 48 < 0 by rw [Int32.lt_iff_toInt_lt, h0]; split at hb <;> omega)]
    by_cases q2 : (57 : Int32) < v
    · rw [if_pos q2, if_pos]
      rw [Int32.lt_iff_toInt_lt, h57] at q2
      rw [Int32.lt_iff_toInt_lt, h9]
      split at hb <;> omega
    · rw [if_neg q2, if_neg]
      rw [Int32.lt_iff_toInt_lt, h57] at q2
      rw [Int32.lt_iff_toInt_lt, h9]
      split at hb <;> omega
theorem tItemR_iff {x : Sg} {c : Nat → Int32} {T a N : Nat} (h : LC x c T) (ha : a < 2 ^ 19) (hN : N ≤ 4) : ∀ (d i : Nat), i + d = N → ((¬ tItemR x (nI a) N d i = 0) ↔ (∀ j, i ≤ j → j < N → ¬ mWi (lt_ c T (a + 2 * j + 1)) 48 57 = 0 ∧ lt_ c T (a + 2 * j + 2) = if j + 1 < N then 44 else 59) ∧ 0 < N ∧ (lt_ c T a = 109 → ¬ zMost (nm (lt_ c T) a 0) = 0))
  | 0, i, hi => by
    rw [tItemR, h.at (by omega), show tNum x (nI a) 0 = nm (lt_ c T) a 0 from h.num (k := 0) ha (by decide)]
    by_cases q : N = 0
    · rw [if_pos (by rw [q]; decide)]
      exact ⟨fun g => absurd rfl g, fun g => absurd g.2.1 (by omega)⟩
    · rw [if_neg (nI_nle (by omega) (by omega))]
      by_cases q2 : lt_ c T a = 109
      · rw [if_pos q2]
        by_cases q3 : zMost (nm (lt_ c T) a 0) = 0
        · rw [if_pos q3]; exact ⟨fun g => absurd rfl g, fun g => absurd q3 (g.2.2 q2)⟩
        · rw [if_neg q3]; exact ⟨fun _ => ⟨fun j h1 h2 => by omega, by omega, fun _ => q3⟩, fun _ => by decide⟩
      · rw [if_neg q2]; exact ⟨fun _ => ⟨fun j h1 h2 => by omega, by omega, fun g => absurd g q2⟩, fun _ => by decide⟩
  | d + 1, i, hi => by
    have ih := tItemR_iff h ha hN d (i + 1) (by omega)
    rw [tItemR, h.num ha (by omega), ix3, h.at (by omega), nI_1]
    unfold nm at *
    rw [zFig_48]
    have hs : (if nI N ≤ nI (i + 1) then (59 : Int32) else 44) = if i + 1 < N then 44 else 59 := by
      by_cases g : i + 1 < N
      · rw [if_pos g, if_neg (nI_ge g (by omega))]
      · rw [if_neg g, if_pos (nI_le (by omega) (by omega))]
    rw [hs]
    by_cases q : mWi (lt_ c T (a + 2 * i + 1)) 48 57 = 0
    · rw [if_pos q]; exact ⟨fun g => absurd rfl g, fun g => absurd q (g.1 i (by omega) (by omega)).1⟩
    · rw [if_neg q]
      by_cases q2 : lt_ c T (a + 2 * i + 2) = if i + 1 < N then 44 else 59
      · rw [if_pos q2, ih]
        refine ⟨fun g => ⟨fun j h1 h2 => ?_, g.2⟩, fun g => ⟨fun j h1 h2 => g.1 j (by omega) h2, g.2⟩⟩
        by_cases hj : j = i
        · rw [hj]; exact ⟨q, q2⟩
        · exact g.1 j (by omega) h2
      · rw [if_neg q2]; exact ⟨fun g => absurd rfl g, fun g => absurd (g.1 i (by omega) (by omega)).2 q2⟩
def IT (e : Nat → Int32) (a N : Nat) : Prop := ∀ j, j < N → ¬ mWi (e (a + 2 * j + 1)) 48 57 = 0 ∧ e (a + 2 * j + 2) = if j + 1 < N then 44 else 59
def okIt (e : Nat → Int32) (a : Nat) : Prop := IT e a (nn (e a)) ∧ 0 < nn (e a) ∧ (e a = 109 → ¬ zMost (nm e a 0) = 0)
theorem tItem_iff {x : Sg} {c : Nat → Int32} {T a : Nat} (h : LC x c T) (ha : a < 2 ^ 19) : (¬ tItem x (nI a) = 0) ↔ okIt (lt_ c T) a := by
  unfold tItem
  rw [h.nOf ha, tItemR_iff h ha (nn_le _) _ 0 (by omega)]
  exact ⟨fun g => ⟨fun j hj => g.1 j (by omega) hj, g.2⟩, fun g => ⟨fun j _ hj => g.1 j hj, g.2⟩⟩
theorem lt_pos {c : Nat → Int32} {T i : Nat} (h : ¬ lt_ c T i = 0) : i < T := by
  unfold lt_ at h
  by_cases q : i < T
  · exact q
  · rw [if_neg q] at h; exact absurd rfl h
theorem okIt_end {c : Nat → Int32} {T a : Nat} (h : okIt (lt_ c T) a) : a + 1 + 2 * nn (lt_ c T a) ≤ T := by
  obtain ⟨h1, h2, -⟩ := h
  have g := (h1 (nn (lt_ c T a) - 1) (by omega)).2
  rw [if_neg (by omega)] at g
  have := lt_pos (c := c) (T := T) (i := a + 2 * (nn (lt_ c T a) - 1) + 2) (by rw [g]; decide)
  omega
/-! the reference -/
def ga (b k : Nat) : Nat := if k = 0 then b else b + 2 * k - 1
theorem gA_ga (b k : Nat) : gA (ga b k) k = b + 2 * k := by unfold gA ga; (repeat' split) <;> omega
theorem ga_s (b k : Nat) : b + 2 * k + 1 = ga b (k + 1) := by unfold ga; rw [if_neg (by omega)]; omega
theorem pB_iff {m : Sg} {c : Nat → Int32} {T a : Nat} {v : Int32} (hc : m kTx = c) (hv : ¬ v = 0) : pB m a T v = true ↔ lt_ c T a = v := by
  unfold pB lt_
  rw [hc]
  by_cases q : a < T
  · rw [if_pos q]; simp [q]
  · rw [if_neg q]; simp [q]; exact fun g => hv g.symm
def okI (e : Nat → Int32) (b i : Nat) : Prop := (i = 0 ∨ e (b + 2 * i - 1) = 44) ∧ ¬ mWi (e (b + 2 * i)) 48 57 = 0
theorem gOk_iff {m : Sg} {c : Nat → Int32} {T b k : Nat} (hc : m kTx = c) : gOk m (ga b k) T k = true ↔ okI (lt_ c T) b k := by
  unfold gOk okI
  rw [gA_ga, hc]
  have hp : k ≠ 0 → (pB m (ga b k) T 44 = true ↔ lt_ c T (b + 2 * k - 1) = 44) := fun h0 => by
    rw [pB_iff hc (by decide)]
    unfold ga; rw [if_neg h0]
  have hf : (b + 2 * k < T ∧ ¬ mWi (c (b + 2 * k)) 48 57 = 0) ↔ ¬ mWi (lt_ c T (b + 2 * k)) 48 57 = 0 := by
    unfold lt_
    by_cases q : b + 2 * k < T
    · rw [if_pos q]; exact ⟨fun g => g.2, fun g => ⟨q, g⟩⟩
    · rw [if_neg q]; exact ⟨fun g => absurd g.1 q, fun g => absurd (show mWi 0 48 57 = 0 by decide) g⟩
  rw [← hf]
  simp only [Bool.and_eq_true, Bool.or_eq_true, decide_eq_true_eq]
  by_cases h0 : k = 0
  · simp [h0]
  · rw [hp h0]
theorem gS_k {σ : Sg} {a T k : Nat} {q : Ky} (h : q ≠ kM) : gS σ a T k q = σ q := by
  unfold gS
  (repeat' split) <;> first | rfl | exact up2_nk _ _ _ _ h
theorem pS_k {σ : Sg} {q : Ky} (h : q ≠ kM) : pS σ q = σ q := up2_nk _ _ _ _ h
theorem gNx_k {σ : Sg} {a T k : Nat} {q : Ky} (h : q ≠ kM) (h2 : q ≠ kFg) : gNx σ a T k q = σ q := by
  unfold gNx; rw [pS_k h, up2_nk _ _ _ _ h2, gS_k h]
theorem gR_spec {c : Nat → Int32} {T b : Nat} : ∀ (d k : Nat) (σ : Sg), σ kTx = c → ((gR T d k (ga b k) σ).1 = true ↔ ∀ i, k ≤ i → i < k + d → okI (lt_ c T) b i) ∧ ((gR T d k (ga b k) σ).1 = true → (gR T d k (ga b k) σ).2.1 = ga b (k + d) ∧ (∀ i, k ≤ i → i < k + d → (gR T d k (ga b k) σ).2.2 kFg i = lt_ c T (b + 2 * i) - 48) ∧ ∀ i, i < k → (gR T d k (ga b k) σ).2.2 kFg i = σ kFg i)
  | 0, k, σ, hc => ⟨⟨fun _ i h1 h2 => by omega, fun _ => rfl⟩, fun _ => ⟨rfl, fun i h1 h2 => by omega, fun i _ => rfl⟩⟩
  | d + 1, k, σ, hc => by
    by_cases hk : gOk σ (ga b k) T k = true
    · have step : gR T (d + 1) k (ga b k) σ = gR T d (k + 1) (ga b (k + 1)) (gNx σ (ga b k) T k) := by rw [gR, if_pos hk, gA_ga, ga_s]
      have hfg : gNx σ (ga b k) T k kFg = upd (σ kFg) k (lt_ c T (b + 2 * k) - 48) := by
        have h2 := (gOk_A hk).2
        rw [gA_ga] at h2
        unfold gNx
        rw [pS_k (by decide), up2_row, gS_k (by decide), gA_ga, hc]
        unfold lt_
        rw [if_pos h2]
      obtain ⟨i1, i2⟩ := gR_spec (c := c) (T := T) (b := b) d (k + 1) (gNx σ (ga b k) T k) (by rw [gNx_k (by decide) (by decide)]; exact hc)
      rw [step]
      refine ⟨?_, fun g => ?_⟩
      · rw [i1]
        refine ⟨fun g i h1 h2 => ?_, fun g i h1 h2 => g i (by omega) (by omega)⟩
        by_cases hi : i = k
        · rw [hi]; exact (gOk_iff hc).mp hk
        · exact g i (by omega) (by omega)
      · obtain ⟨j1, j2, j3⟩ := i2 g
        refine ⟨by rw [j1, show k + 1 + d = k + (d + 1) by omega], fun i h1 h2 => ?_, fun i hi => ?_⟩
        · by_cases hi : i = k
          · rw [hi, j3 k (by omega), hfg, pk_us]
          · exact j2 i (by omega) (by omega)
        · rw [j3 i (by omega), hfg, pk_un (by omega)]
    · rw [gR, if_neg hk]
      exact ⟨⟨fun g => (by cases g), fun g => absurd ((gOk_iff hc).mpr (g k (by omega) (by omega))) hk⟩, fun g => by cases g⟩
/-- what the figures leave -/
def gq (σ σ' : Sg) : Prop := ∀ k j, k ≠ kFg → ¬ (k = kM ∧ j = 15) → σ' k j = σ k j
theorem gq.rf (σ : Sg) : gq σ σ := fun _ _ _ _ => rfl
theorem gq.s {σ σ' : Sg} (h : gq σ σ') : gq σ (pS σ') := fun k j h1 h2 => by
  unfold pS; rw [up2_o h2]; exact h k j h1 h2
theorem gq.f {σ σ' : Sg} {i : Nat} {v : Int32} (h : gq σ σ') : gq σ (up2 σ' kFg i v) := fun k j h1 h2 => by
  rw [up2_nk _ _ _ _ h1]; exact h k j h1 h2
theorem gq.g {σ σ' : Sg} {a T k : Nat} (h : gq σ σ') : gq σ (gS σ' a T k) := by
  unfold gS
  (repeat' split) <;> first | exact h | exact h.s
theorem gq_R {T : Nat} {σ : Sg} : ∀ (d k a : Nat) {σ' : Sg}, gq σ σ' → gq σ (gR T d k a σ').2.2
  | 0, _, _, _, h => h
  | d + 1, k, a, σ', h => by
    rw [gR]
    split
    · exact gq_R d (k + 1) _ h.g.f.s
    · exact h.g.f
theorem gq_figs {T a n : Nat} {σ σ' : Sg} (h : gq σ σ') : gq σ (gFigs σ' a T n).2.2 := by
  unfold gFigs gW
  have := gq_R (T := T) n 0 a h
  (repeat' split) <;> first | exact this | exact this.s
theorem gq.k {σ σ' : Sg} (h : gq σ σ') {k : Ky} (h1 : k ≠ kFg) (h2 : k ≠ kM) : σ' k = σ k := funext (fun j => h k j h1 (fun q => h2 q.1))
theorem gFigs_spec {m : Sg} {c : Nat → Int32} {T b n : Nat} (hc : m kTx = c) (hn : 0 < n) : ((gFigs m b T n).1 = true ↔ (∀ i, i < n → okI (lt_ c T) b i) ∧ lt_ c T (b + 2 * n - 1) = 59) ∧ ((gFigs m b T n).1 = true → (gFigs m b T n).2.1 = b + 2 * n ∧ ∀ i, i < n → (gFigs m b T n).2.2 kFg i = lt_ c T (b + 2 * i) - 48) := by
  obtain ⟨r1, r2⟩ := gR_spec (c := c) (T := T) (b := b) n 0 m hc
  have g0 : ga b 0 = b := rfl
  rw [g0] at r1 r2
  have hx : (gR T n 0 b m).2.2 kTx = c := by rw [(gq_R n 0 b (gq.rf m)).k (by decide) (by decide)]; exact hc
  unfold gFigs gW
  by_cases h1 : (gR T n 0 b m).1 = true
  · obtain ⟨p1, p2, -⟩ := r2 h1
    have hp : (gR T n 0 b m).2.1 = b + 2 * n - 1 := by rw [p1, Nat.zero_add]; unfold ga; rw [if_neg (by omega)]
    rw [if_pos h1, hp]
    have ha : ∀ i, i < n → okI (lt_ c T) b i := fun i hi => r1.mp h1 i (by omega) (by omega)
    by_cases h2 : pB (gR T n 0 b m).2.2 (b + 2 * n - 1) T 59 = true
    · rw [if_pos h2]
      refine ⟨⟨fun _ => ⟨ha, (pB_iff hx (by decide)).mp h2⟩, fun _ => rfl⟩, fun _ => ⟨by dsimp only; omega, fun i hi => ?_⟩⟩
      dsimp only
      rw [pS_k (by decide)]; exact p2 i (by omega) (by omega)
    · rw [if_neg h2]
      exact ⟨⟨fun g => (by cases g), fun g => absurd ((pB_iff hx (by decide)).mpr g.2) h2⟩, fun g => by cases g⟩
  · rw [if_neg h1]
    exact ⟨⟨fun g => absurd g h1, fun g => absurd (r1.mpr (fun i _ hi => g.1 i (by omega))) h1⟩, fun g => absurd g h1⟩
theorem figs_IT {e : Nat → Int32} {a n : Nat} (hn : 0 < n) : ((∀ i, i < n → okI e (a + 1) i) ∧ e (a + 1 + 2 * n - 1) = 59) ↔ IT e a n := by
  constructor
  · rintro ⟨h1, h2⟩ j hj
    refine ⟨?_, ?_⟩
    · have := (h1 j hj).2
      rwa [show a + 1 + 2 * j = a + 2 * j + 1 by omega] at this
    · by_cases q : j + 1 < n
      · rw [if_pos q]
        have := (h1 (j + 1) q).1.resolve_left (by omega)
        rwa [show a + 1 + 2 * (j + 1) - 1 = a + 2 * j + 2 by omega] at this
      · rw [if_neg q]
        rwa [show a + 1 + 2 * n - 1 = a + 2 * j + 2 by omega] at h2
  · intro h
    refine ⟨fun i hi => ⟨?_, ?_⟩, ?_⟩
    · by_cases q : i = 0
      · exact Or.inl q
      · right
        have := (h (i - 1) (by omega)).2
        rw [if_pos (by omega)] at this
        rwa [show a + 2 * (i - 1) + 2 = a + 1 + 2 * i - 1 by omega] at this
    · have := (h i hi).1
      rwa [show a + 2 * i + 1 = a + 1 + 2 * i by omega] at this
    · have := (h (n - 1) (by omega)).2
      rw [if_neg (by omega)] at this
      rwa [show a + 2 * (n - 1) + 2 = a + 1 + 2 * n - 1 by omega] at this
/-- the figures behind an item's letter -/
theorem figs_it {m : Sg} {c : Nat → Int32} {T a n : Nat} (hc : m kTx = c) (hn : 0 < n) : ((gFigs (pS m) (a + 1) T n).1 = true ↔ IT (lt_ c T) a n) ∧ ((gFigs (pS m) (a + 1) T n).1 = true → (gFigs (pS m) (a + 1) T n).2.1 = a + 1 + 2 * n ∧ ∀ i, i < n → (gFigs (pS m) (a + 1) T n).2.2 kFg i = nm (lt_ c T) a i) := by
  obtain ⟨r1, r2⟩ := gFigs_spec (m := pS m) (c := c) (T := T) (b := a + 1) (n := n) (by rw [pS_k (by decide)]; exact hc) hn
  refine ⟨r1.trans (figs_IT hn), fun g => ⟨(r2 g).1, fun i hi => ?_⟩⟩
  rw [(r2 g).2 i hi]
  unfold nm
  rw [show a + 1 + 2 * i = a + 2 * i + 1 by omega]
