/-! WHAT THE REFERENCE'S METHODS DO: part 4, the text and what is laid. a: the place, T: how many letters. -/
abbrev kTx : Ky := (9, 6, 0, 0)
abbrev kFg : Ky := (9, 10, 0, 0)
theorem up2_z (σ : Sg) (k : Ky) (j : Nat) : up2 σ k j (σ k j + 0) = σ := by
  funext k' j'
  unfold up2
  split
  · next h => rw [h.1, h.2, Int32.add_zero]
  · rfl
def mPlan (σ : Sg) : Sg := up2 (up2 (up2 (up2 (up2 (up2 σ kM 10 0) (9, 8, 0, 0) 0 5) (9, 8, 0, 0) 1 5) (9, 9, 0, 0) 0 4) (9, 9, 0, 0) 1 2) (9, 9, 0, 0) 2 1
def mAdds (σ : Sg) (N : Nat) (a b c d : Int32) : Sg := up2 (up2 (up2 (up2 (up2 σ (9, 7, 0, 0) (4 * N) a) (9, 7, 0, 0) (4 * N + 1) b) (9, 7, 0, 0) (4 * N + 2) c) (9, 7, 0, 0) (4 * N + 3) d) kM 10 (σ kM 10 + 1)
def pB (σ : Sg) (a T : Nat) (c : Int32) : Bool := decide (a < T) && decide (σ kTx a = c)
def pS (σ : Sg) : Sg := up2 σ kM 15 (σ kM 15 + 1)
def bI (b : Bool) : Int32 := if b then 1 else 0
theorem bI_or (b : Bool) : bI b = 0 ∨ bI b = 1 := by cases b <;> simp [bI]
theorem bI_0 {b : Bool} (h : bI b = 0) : b = false := by cases b <;> simp [bI] at h ⊢
theorem bI_1 {b : Bool} (h : ¬ bI b = 0) : b = true := by cases b <;> simp [bI] at h ⊢
def gA (a k : Nat) : Nat := if k = 0 then a else a + 1
def gS (σ : Sg) (a T k : Nat) : Sg := if k = 0 then σ else if pB σ a T 44 then pS σ else σ
def gN (σ : Sg) (a T k : Nat) : Nat := if k = 0 then a else if pB σ a T 44 then a + 1 else a
def gOk (σ : Sg) (a T k : Nat) : Bool := (decide (k = 0) || pB σ a T 44) && (decide (gA a k < T) && decide (¬ mWi (σ kTx (gA a k)) 48 57 = 0))
def gNx (σ : Sg) (a T k : Nat) : Sg := pS (up2 (gS σ a T k) kFg k (σ kTx (gA a k) - 48))
def gR (T : Nat) : Nat → Nat → Nat → Sg → Bool × Nat × Sg
  | 0, _, a, σ => (true, a, σ)
  | d + 1, k, a, σ => if gOk σ a T k then gR T d (k + 1) (gA a k + 1) (gNx σ a T k) else (false, gN σ a T k, up2 (gS σ a T k) kFg k 0)
def gW (T : Nat) (q : Bool × Nat × Sg) : Bool × Nat × Sg := if q.1 then (if pB q.2.2 q.2.1 T 59 then (true, q.2.1 + 1, pS q.2.2) else (false, q.2.1, q.2.2)) else q
def gFigs (σ : Sg) (a T m : Nat) : Bool × Nat × Sg := gW T (gR T m 0 a σ)
/-- what stands at the place, how many letters there are, how many links are told -/
def TI (σ : Sg) (a T N : Nat) : Prop := σ kM 15 = nI a ∧ σ kM 9 = nI T ∧ σ kM 10 = nI N ∧ a ≤ T ∧ T ≤ 200 ∧ N ≤ 6
theorem TI.pS {σ : Sg} {a T N : Nat} (h : TI σ a T N) (ha : a < T) : TI (pS σ) (a + 1) T N := by
  refine ⟨?_, h.2.1, h.2.2.1, ha, h.2.2.2.2⟩
  show up2 σ kM 15 _ kM 15 = _
  rw [up2_at, h.1]; exact nI_1 a
theorem TI.o {σ : Sg} {a T N : Nat} {k : Ky} {j : Nat} {v : Int32} (h : TI σ a T N) (hk : k ≠ kM) : TI (up2 σ k j v) a T N := by
  unfold TI; rw [up2_nk σ k j v (Ne.symm hk)]; exact h
theorem pB_t {σ : Sg} {a T : Nat} {c : Int32} (h1 : a < T) (h2 : σ kTx a = c) : pB σ a T c = true := by unfold pB; simp [h1, h2]
theorem pB_f1 {σ : Sg} {a T : Nat} {c : Int32} (h : T ≤ a) : pB σ a T c = false := by unfold pB; simp [Nat.not_lt.mpr h]
theorem pB_f2 {σ : Sg} {a T : Nat} {c : Int32} (h : ¬ σ kTx a = c) : pB σ a T c = false := by unfold pB; simp [h]
theorem pB_lt {σ : Sg} {a T : Nat} {c : Int32} (h : pB σ a T c = true) : a < T := by
  unfold pB at h; simp at h; exact h.1
theorem TI_gS {σ : Sg} {a T N k : Nat} (h : TI σ a T N) : TI (gS σ a T k) (gN σ a T k) T N := by
  by_cases h0 : k = 0
  · unfold gS gN; rw [if_pos h0, if_pos h0]; exact h
  · by_cases hb : pB σ a T 44 = true
    · unfold gS gN; rw [if_neg h0, if_neg h0, if_pos hb, if_pos hb]; exact h.pS (pB_lt hb)
    · unfold gS gN; rw [if_neg h0, if_neg h0, if_neg hb, if_neg hb]; exact h
theorem gOk_A {σ : Sg} {a T k : Nat} (h : gOk σ a T k = true) : gN σ a T k = gA a k ∧ gA a k < T := by
  unfold gOk at h
  simp only [Bool.and_eq_true, Bool.or_eq_true, decide_eq_true_eq] at h
  refine ⟨?_, h.2.1⟩
  unfold gN gA
  by_cases h0 : k = 0
  · rw [if_pos h0, if_pos h0]
  · rw [if_neg h0, if_neg h0, if_pos (h.1.resolve_left h0)]
theorem TI_gNx {σ : Sg} {a T N k : Nat} (h : TI σ a T N) (hk : gOk σ a T k = true) : TI (gNx σ a T k) (gA a k + 1) T N := by
  obtain ⟨h1, h2⟩ := gOk_A hk
  have h3 := TI_gS (k := k) h
  rw [h1] at h3
  exact (h3.o (by decide)).pS h2
theorem TI_gR {T N : Nat} : ∀ (d k a : Nat) (σ : Sg), TI σ a T N → TI (gR T d k a σ).2.2 (gR T d k a σ).2.1 T N
  | 0, _, _, _, h => h
  | d + 1, k, a, σ, h => by
    by_cases hk : gOk σ a T k = true
    · rw [gR, if_pos hk]; exact TI_gR d (k + 1) _ _ (TI_gNx h hk)
    · rw [gR, if_neg hk]; exact (TI_gS h).o (by decide)
theorem TI_gW {T N : Nat} {q : Bool × Nat × Sg} (h : TI q.2.2 q.2.1 T N) : TI (gW T q).2.2 (gW T q).2.1 T N := by
  unfold gW
  by_cases h1 : q.1 = true
  · by_cases h2 : pB q.2.2 q.2.1 T 59 = true
    · rw [if_pos h1, if_pos h2]; exact h.pS (pB_lt h2)
    · rw [if_pos h1, if_neg h2]; exact h
  · rw [if_neg h1]; exact h
theorem TI_gFigs {σ : Sg} {a T N m : Nat} (h : TI σ a T N) : TI (gFigs σ a T m).2.2 (gFigs σ a T m).2.1 T N := TI_gW (TI_gR m 0 a σ h)
/-- items: whether it is one, the place behind it, the ints -/
def gL (σ : Sg) (a T N : Nat) : Bool × Nat × Sg :=
  if N = 6 then (false, a, σ) else if (gFigs σ a T 4).1 then (true, (gFigs σ a T 4).2.1, mAdds (gFigs σ a T 4).2.2 N ((gFigs σ a T 4).2.2 kFg 0) ((gFigs σ a T 4).2.2 kFg 1) ((gFigs σ a T 4).2.2 kFg 2) ((gFigs σ a T 4).2.2 kFg 3))
  else (false, (gFigs σ a T 4).2.1, (gFigs σ a T 4).2.2)
def mRk2 (σ : Sg) : Sg := up2 (up2 σ (9, 8, 0, 0) 0 (σ kFg 0)) (9, 8, 0, 0) 1 (up2 σ (9, 8, 0, 0) 0 (σ kFg 0) kFg 1)
def gX (σ : Sg) (a T : Nat) : Bool × Nat × Sg := ((gFigs σ a T 2).1, (gFigs σ a T 2).2.1, mRk2 (gFigs σ a T 2).2.2)
def mMo : Nat → Nat → Sg → Sg
  | 0, _, σ => σ
  | d + 1, k, σ => mMo d (k + 1) (up2 σ (9, 9, 0, 0) k (σ kFg k))
def gM (σ : Sg) (a T : Nat) : Bool × Nat × Sg :=
  if (gFigs σ a T 3).1 then (if mWi ((gFigs σ a T 3).2.2 kFg 0) 1 6 = 0 then (false, (gFigs σ a T 3).2.1, (gFigs σ a T 3).2.2) else (true, (gFigs σ a T 3).2.1, mMo 3 0 (gFigs σ a T 3).2.2))
  else (false, (gFigs σ a T 3).2.1, (gFigs σ a T 3).2.2)
def gItem (σ : Sg) (a T N : Nat) : Bool × Nat × Sg :=
  if pB σ a T 108 then gL (pS σ) (a + 1) T N else if pB σ a T 120 then gX (pS σ) (a + 1) T else if pB σ a T 109 then gM (pS σ) (a + 1) T else (false, a, σ)
def gNl (σ : Sg) (a T N : Nat) : Nat := if pB σ a T 108 then N + 1 else N
def gFl (T : Nat) : Nat → Nat → Nat → Sg → Int32 × Sg
  | 0, _, _, σ => (-4, σ)
  | d + 1, a, N, σ => if T ≤ a then (-4, σ) else if (gItem σ a T N).1 then gFl T d (gItem σ a T N).2.1 (gNl σ a T N) (gItem σ a T N).2.2 else (nI a, (gItem σ a T N).2.2)
def gFault (σ : Sg) (T : Nat) : Int32 × Sg := gFl T (T + 1) 0 0 (up2 (mPlan σ) kM 15 0)
theorem gR_ge (T : Nat) : ∀ (d k a : Nat) (σ : Sg), a ≤ (gR T d k a σ).2.1
  | 0, _, _, _ => Nat.le_refl _
  | d + 1, k, a, σ => by
    by_cases hk : gOk σ a T k = true
    · rw [gR, if_pos hk]
      have := gR_ge T d (k + 1) (gA a k + 1) (gNx σ a T k)
      have h2 : a ≤ gA a k := by unfold gA; split <;> omega
      omega
    · rw [gR, if_neg hk]; show a ≤ gN σ a T k; unfold gN; (repeat' split) <;> omega
theorem gFigs_ge (σ : Sg) (a T m : Nat) : a ≤ (gFigs σ a T m).2.1 := by
  have h := gR_ge T m 0 a σ
  unfold gFigs gW
  by_cases h1 : (gR T m 0 a σ).1 = true
  · rw [if_pos h1]
    by_cases h2 : pB (gR T m 0 a σ).2.2 (gR T m 0 a σ).2.1 T 59 = true
    · rw [if_pos h2]; show a ≤ _ + 1; omega
    · rw [if_neg h2]; exact h
  · rw [if_neg h1]; exact h
theorem mMo_k {k : Ky} (hk : k ≠ (9, 9, 0, 0)) : ∀ (d i : Nat) (σ : Sg), mMo d i σ k = σ k
  | 0, _, _ => rfl
  | d + 1, i, σ => by rw [mMo, mMo_k hk d, up2_nk _ _ _ _ hk]
theorem TI_gItem {σ : Sg} {a T N : Nat} (h : TI σ a T N) (hi : (gItem σ a T N).1 = true) : TI (gItem σ a T N).2.2 (gItem σ a T N).2.1 T (gNl σ a T N) ∧ a < (gItem σ a T N).2.1 := by
  unfold gItem gNl at *
  by_cases h1 : pB σ a T 108 = true
  · rw [if_pos h1] at hi ⊢
    rw [if_pos h1]
    have hp := h.pS (pB_lt h1)
    unfold gL at hi ⊢
    by_cases h2 : N = 6
    · rw [if_pos h2] at hi; cases hi
    · rw [if_neg h2] at hi ⊢
      by_cases h3 : (gFigs (pS σ) (a + 1) T 4).1 = true
      · rw [if_pos h3]
        have hf := TI_gFigs (m := 4) hp
        have hg := gFigs_ge (pS σ) (a + 1) T 4
        refine ⟨?_, by show a < (gFigs (pS σ) (a + 1) T 4).2.1; omega⟩
        obtain ⟨f1, f2, f3, f4, f5, f6⟩ := hf
        refine ⟨?_, ?_, ?_, f4, f5, by omega⟩
        · exact f1
        · exact f2
        · show (gFigs (pS σ) (a + 1) T 4).2.2 kM 10 + 1 = nI (N + 1)
          rw [f3]; exact nI_1 N
      · rw [if_neg h3] at hi; cases hi
  · rw [if_neg h1] at hi ⊢
    rw [if_neg h1]
    by_cases h2 : pB σ a T 120 = true
    · rw [if_pos h2] at hi ⊢
      have hp := h.pS (pB_lt h2)
      have hf := TI_gFigs (m := 2) hp
      have hg := gFigs_ge (pS σ) (a + 1) T 2
      exact ⟨(hf.o (by decide)).o (by decide), by show a < (gFigs (pS σ) (a + 1) T 2).2.1; omega⟩
    · rw [if_neg h2] at hi ⊢
      by_cases h3 : pB σ a T 109 = true
      · rw [if_pos h3] at hi ⊢
        have hp := h.pS (pB_lt h3)
        have hf := TI_gFigs (m := 3) hp
        have hg := gFigs_ge (pS σ) (a + 1) T 3
        unfold gM at hi ⊢
        by_cases h4 : (gFigs (pS σ) (a + 1) T 3).1 = true
        · rw [if_pos h4] at hi ⊢
          by_cases h5 : mWi ((gFigs (pS σ) (a + 1) T 3).2.2 kFg 0) 1 6 = 0
          · rw [if_pos h5] at hi; cases hi
          · rw [if_neg h5]
            refine ⟨?_, by show a < (gFigs (pS σ) (a + 1) T 3).2.1; omega⟩
            show TI (mMo 3 0 _) _ T N
            unfold TI
            rw [mMo_k (by decide)]
            exact hf
        · rw [if_neg h4] at hi; cases hi
      · rw [if_neg h3] at hi; cases hi
/-! what is laid -/
def mLz : Nat → Nat → Sg → Sg
  | 0, _, σ => σ
  | d + 1, k, σ => mLz d (k + 1) (up2 σ kNow k 0)
def mLf : Nat → Nat → Sg → Sg
  | 0, _, σ => σ
  | d + 1, k, σ => mLf d (k + 1) (up2 σ kNow (10 + 2 * k) (-4))
def mLb1 (σ : Sg) (l e : Nat) : Sg := up2 σ kNow (pl e l + 0) (if σ kM 0 ≤ nI l then 0 else σ (9, 7, 0, 0) (4 * l + 2 * e))
def mLb2 (σ : Sg) (l e : Nat) : Sg := up2 σ kNow (pl e l + 1) (if σ kM 0 ≤ nI l then 0 else σ (9, 7, 0, 0) (4 * l + 2 * e + 1))
def mLb3 (σ : Sg) (l e : Nat) : Sg := up2 (up2 (up2 (up2 σ kNow (pl e l + 8) (-4)) kNow (pl e l + 13) (-4)) kNow (pl e l + 14) 1) (9, 5, 0, 0) (6 * e + l) 0
def mLb (σ : Sg) (l e : Nat) : Sg := mLb3 (mLb2 (mLb1 σ l e) l e) l e
def mLe (l : Nat) : Nat → Nat → Sg → Sg
  | 0, _, σ => σ
  | d + 1, e, σ => mLe l d (e + 1) (mLb σ l e)
def mLl : Nat → Nat → Sg → Sg
  | 0, _, σ => σ
  | d + 1, l, σ => mLl d (l + 1) (mLe l 2 0 (up2 σ kNow (4 + l) 1))
def mLy1 (σ : Sg) : Sg := up2 σ kM 0 (σ kM 10)
def mLy2 (σ : Sg) : Sg := up2 (up2 σ kM 1 (σ (9, 9, 0, 0) 1)) kM 2 (up2 σ kM 1 (σ (9, 9, 0, 0) 1) (9, 9, 0, 0) 2)
def mLy3 (σ : Sg) : Sg := up2 (up2 (up2 σ kNow 0 (σ (9, 8, 0, 0) 0)) kNow 1 (up2 σ kNow 0 (σ (9, 8, 0, 0) 0) (9, 8, 0, 0) 1)) kNow 2 (up2 (up2 σ kNow 0 (σ (9, 8, 0, 0) 0)) kNow 1 (up2 σ kNow 0 (σ (9, 8, 0, 0) 0) (9, 8, 0, 0) 1) (9, 9, 0, 0) 0)
def mLays (σ : Sg) : Sg := up2 (mLl 6 0 (mLf 16 0 (mLy3 (mLz 235 0 (mLy2 (mLy1 σ)))))) kM 6 0
def mWrite (σ : Sg) (T : Nat) (v : Int32) : Int32 × Sg :=
  if mWi v 32 126 = 0 then (-1, σ) else if σ kM 9 = 200 then (-3, σ) else (up2 (up2 σ kTx T v) kM 9 (σ kM 9 + 1) kM 9, up2 (up2 σ kTx T v) kM 9 (σ kM 9 + 1))
def mLay (σ : Sg) (T : Nat) : Int32 × Sg :=
  if (gFault σ T).1 = -4 then (if (gFault σ T).2 kM 10 = 0 then (-2, (gFault σ T).2) else (mLays (gFault σ T).2 kM 0, mLays (gFault σ T).2)) else (-2, (gFault σ T).2)
theorem gA_0 {a k : Nat} (h : k = 0) : gA a k = a := by unfold gA; rw [if_pos h]
theorem gA_1 {a k : Nat} (h : k ≠ 0) : gA a k = a + 1 := by unfold gA; rw [if_neg h]
theorem gS_0 {σ : Sg} {a T k : Nat} (h : k = 0) : gS σ a T k = σ := by unfold gS; rw [if_pos h]
theorem gS_b {σ : Sg} {a T k : Nat} (h : k ≠ 0) (hb : pB σ a T 44 = true) : gS σ a T k = pS σ := by unfold gS; rw [if_neg h, if_pos hb]
theorem gS_n {σ : Sg} {a T k : Nat} (h : k ≠ 0) (hb : pB σ a T 44 = false) : gS σ a T k = σ := by unfold gS; rw [if_neg h, if_neg (by rw [hb]; decide)]
theorem gOk_no1 {σ : Sg} {a T k : Nat} (h : T ≤ gA a k) : gOk σ a T k = false := by
  unfold gOk; rw [show decide (gA a k < T) = false from decide_eq_false (by omega)]; simp
theorem gOk_no2 {σ : Sg} {a T k : Nat} (h : mWi (σ kTx (gA a k)) 48 57 = 0) : gOk σ a T k = false := by
  unfold gOk; rw [show decide (¬ mWi (σ kTx (gA a k)) 48 57 = 0) = false from decide_eq_false (fun n => n h)]; simp
theorem gOk_no3 {σ : Sg} {a T k : Nat} (h0 : k ≠ 0) (hb : pB σ a T 44 = false) : gOk σ a T k = false := by
  unfold gOk; rw [hb, show decide (k = 0) = false from decide_eq_false h0]; simp
theorem gOk_yes {σ : Sg} {a T k : Nat} (h1 : k = 0 ∨ pB σ a T 44 = true) (h2 : gA a k < T) (h3 : ¬ mWi (σ kTx (gA a k)) 48 57 = 0) : gOk σ a T k = true := by
  unfold gOk; simp only [Bool.and_eq_true, Bool.or_eq_true, decide_eq_true_eq]; exact ⟨h1, h2, h3⟩
theorem gfail {σ : Sg} {a T k d : Nat} {G : Bool × Nat × Sg} (hk : gOk σ a T k = false) (hF : gW T (gR T (d + 1) k a σ) = G) : G.1 = false ∧ G.2.2 = up2 (gS σ a T k) kFg k 0 := by
  rw [gR, if_neg (by rw [hk]; decide)] at hF
  unfold gW at hF
  dsimp only at hF
  rw [if_neg Bool.false_ne_true] at hF
  rw [← hF]; exact ⟨rfl, rfl⟩
theorem gsucc {σ : Sg} {a T k d : Nat} {G : Bool × Nat × Sg} (hk : gOk σ a T k = true) (hF : gW T (gR T (d + 1) k a σ) = G) : gW T (gR T d (k + 1) (gA a k + 1) (gNx σ a T k)) = G := by
  rw [gR, if_pos hk] at hF; exact hF
theorem wi_X8_clearsPlan_X8 : ∀ w ∈ u_ws RX8 TX8 18, w ∈ wsX8_clearsPlan := by decide +kernel
theorem wf_X8_clearsPlan_54 : Cond.fieldLink RX8 54 (TX8 10).1 (TX8 10).2.1 (TX8 10).2.2.1 ∈ wsX8_clearsPlan := by decide +kernel
theorem wf_X8_clearsPlan_28 : Cond.fieldLink RX8 28 (TX8 12).1 (TX8 12).2.1 (TX8 12).2.2.1 ∈ wsX8_clearsPlan := by decide +kernel
theorem wf_X8_clearsPlan_31 : Cond.fieldLink RX8 31 (TX8 13).1 (TX8 13).2.1 (TX8 13).2.2.1 ∈ wsX8_clearsPlan := by decide +kernel
set_option maxHeartbeats 1000000 in
set_option maxRecDepth 100000 in
theorem ct_X8_clearsPlan {la : Launch} {E : Ev} (hE : okE E) (hX : yin E) {σ : Sg}  : CV la yX8_clearsPlan wsX8_clearsPlan 0 0 E rh0 [.ref (ad E (8, 0, 0, 0))] σ (mPlan σ) := by
  refine met_of (lv := [some _]) RX8 (by decide) rfl rfl rfl hE (ok1 rfl) (Nat.le_of_ble_eq_true rfl) (fun p ev s m args below meth c Q cx hlk hr hQ => ?_)
  refine A_aload_n (q := 1) cx dX8_clearsPlan_0 rfl rfl rfl ?_
  refine A_iconst (v := 0) (q := 2) cx dX8_clearsPlan_1 (by decide) rfl ?_
  refine pX8_10 (q := 5) cx wi_X8_clearsPlan_X8 wf_X8_clearsPlan_54 dX8_clearsPlan_2 rfl (in8 hX) rfl ?_
  refine A_aload_n (q := 6) cx dX8_clearsPlan_5 rfl rfl rfl ?_
  refine gX8_12 (q := 9) cx wi_X8_clearsPlan_X8 wf_X8_clearsPlan_28 dX8_clearsPlan_6 rfl (in8 hX) rfl rfl ?_
  refine A_iconst (v := 0) (q := 10) cx dX8_clearsPlan_9 (by decide) rfl ?_
  refine A_iconst (v := 5) (q := 11) cx dX8_clearsPlan_10 (by decide) rfl ?_
  refine A_iastore (q := 12) cx dX8_clearsPlan_11 rfl (in9 hX (by decide)) (ixc 0) (by show _ < 2; omega) rfl ?_
  refine A_aload_n (q := 13) cx dX8_clearsPlan_12 rfl rfl rfl ?_
  refine gX8_12 (q := 16) cx wi_X8_clearsPlan_X8 wf_X8_clearsPlan_28 dX8_clearsPlan_13 rfl (in8 hX) rfl rfl ?_
  refine A_iconst (v := 1) (q := 17) cx dX8_clearsPlan_16 (by decide) rfl ?_
  refine A_iconst (v := 5) (q := 18) cx dX8_clearsPlan_17 (by decide) rfl ?_
  refine A_iastore (q := 19) cx dX8_clearsPlan_18 rfl (in9 hX (by decide)) (ixc 1) (by show _ < 2; omega) rfl ?_
  refine A_aload_n (q := 20) cx dX8_clearsPlan_19 rfl rfl rfl ?_
  refine gX8_13 (q := 23) cx wi_X8_clearsPlan_X8 wf_X8_clearsPlan_31 dX8_clearsPlan_20 rfl (in8 hX) rfl rfl ?_
  refine A_iconst (v := 0) (q := 24) cx dX8_clearsPlan_23 (by decide) rfl ?_
  refine A_iconst (v := 4) (q := 25) cx dX8_clearsPlan_24 (by decide) rfl ?_
  refine A_iastore (q := 26) cx dX8_clearsPlan_25 rfl (in9 hX (by decide)) (ixc 0) (by show _ < 3; omega) rfl ?_
  refine A_aload_n (q := 27) cx dX8_clearsPlan_26 rfl rfl rfl ?_
  refine gX8_13 (q := 30) cx wi_X8_clearsPlan_X8 wf_X8_clearsPlan_31 dX8_clearsPlan_27 rfl (in8 hX) rfl rfl ?_
  refine A_iconst (v := 1) (q := 31) cx dX8_clearsPlan_30 (by decide) rfl ?_
  refine A_iconst (v := 2) (q := 32) cx dX8_clearsPlan_31 (by decide) rfl ?_
  refine A_iastore (q := 33) cx dX8_clearsPlan_32 rfl (in9 hX (by decide)) (ixc 1) (by show _ < 3; omega) rfl ?_
  refine A_aload_n (q := 34) cx dX8_clearsPlan_33 rfl rfl rfl ?_
  refine gX8_13 (q := 37) cx wi_X8_clearsPlan_X8 wf_X8_clearsPlan_31 dX8_clearsPlan_34 rfl (in8 hX) rfl rfl ?_
  refine A_iconst (v := 2) (q := 38) cx dX8_clearsPlan_37 (by decide) rfl ?_
  refine A_iconst (v := 1) (q := 39) cx dX8_clearsPlan_38 (by decide) rfl ?_
  refine A_iastore (q := 40) cx dX8_clearsPlan_39 rfl (in9 hX (by decide)) (ixc 2) (by show _ < 3; omega) rfl ?_
  exact A_vret cx hlk hr hQ dX8_clearsPlan_40 rfl
theorem wi_X8_adds_X8 : ∀ w ∈ u_ws RX8 TX8 18, w ∈ wsX8_adds := by decide +kernel
theorem wf_X8_adds_25 : Cond.fieldLink RX8 25 (TX8 11).1 (TX8 11).2.1 (TX8 11).2.2.1 ∈ wsX8_adds := by decide +kernel
theorem wf_X8_adds_54 : Cond.fieldLink RX8 54 (TX8 10).1 (TX8 10).2.1 (TX8 10).2.2.1 ∈ wsX8_adds := by decide +kernel
set_option maxHeartbeats 1000000 in
set_option maxRecDepth 100000 in
theorem ct_X8_adds {la : Launch} {E : Ev} (hE : okE E) (hX : yin E) {σ : Sg} {N : Nat} {a b c d : Int32} (hN : σ (8, 0, 0, 0) 10 = nI N) (hN6 : N < 6) : CV la yX8_adds wsX8_adds 0 0 E rh0 [.ref (ad E (8, 0, 0, 0)), .int a, .int b, .int c, .int d] σ (mAdds σ N a b c d) := by
  refine met_of (lv := [some _, some _, some _, some _, some _]) RX8 (by decide) rfl rfl rfl hE (ok5 rfl rfl rfl rfl rfl) (Nat.le_of_ble_eq_true rfl) (fun p ev s m args below meth c Q cx hlk hr hQ => ?_)
  refine A_aload_n (q := 1) cx dX8_adds_0 rfl rfl rfl ?_
  refine gX8_11 (q := 4) cx wi_X8_adds_X8 wf_X8_adds_25 dX8_adds_1 rfl (in8 hX) rfl rfl ?_
  refine A_iconst (v := 4) (q := 5) cx dX8_adds_4 (by decide) rfl ?_
  refine A_aload_n (q := 6) cx dX8_adds_5 rfl rfl rfl ?_
  refine gX8_10 (q := 9) cx wi_X8_adds_X8 wf_X8_adds_54 dX8_adds_6 rfl (in8 hX) rfl ?_
  refine A_imul (q := 10) cx dX8_adds_9 rfl ?_
  refine A_iload_n (q := 11) cx dX8_adds_10 rfl rfl ?_
  refine A_iastore (q := 12) cx dX8_adds_11 rfl (in9 hX (by decide)) (ixM (ixc 4) hN) (by show _ < 24; omega) rfl ?_
  refine A_aload_n (q := 13) cx dX8_adds_12 rfl rfl rfl ?_
  refine gX8_11 (q := 16) cx wi_X8_adds_X8 wf_X8_adds_25 dX8_adds_13 rfl (in8 hX) rfl rfl ?_
  refine A_iconst (v := 4) (q := 17) cx dX8_adds_16 (by decide) rfl ?_
  refine A_aload_n (q := 18) cx dX8_adds_17 rfl rfl rfl ?_
  refine gX8_10 (q := 21) cx wi_X8_adds_X8 wf_X8_adds_54 dX8_adds_18 rfl (in8 hX) rfl ?_
  refine A_imul (q := 22) cx dX8_adds_21 rfl ?_
  refine A_iconst (v := 1) (q := 23) cx dX8_adds_22 (by decide) rfl ?_
  refine A_iadd (q := 24) cx dX8_adds_23 rfl ?_
  refine A_iload_n (q := 25) cx dX8_adds_24 rfl rfl ?_
  refine A_iastore (q := 26) cx dX8_adds_25 rfl (in9 hX (by decide)) (ixA (ixM (ixc 4) hN) (ixc 1)) (by show _ < 24; omega) rfl ?_
  refine A_aload_n (q := 27) cx dX8_adds_26 rfl rfl rfl ?_
  refine gX8_11 (q := 30) cx wi_X8_adds_X8 wf_X8_adds_25 dX8_adds_27 rfl (in8 hX) rfl rfl ?_
  refine A_iconst (v := 4) (q := 31) cx dX8_adds_30 (by decide) rfl ?_
  refine A_aload_n (q := 32) cx dX8_adds_31 rfl rfl rfl ?_
  refine gX8_10 (q := 35) cx wi_X8_adds_X8 wf_X8_adds_54 dX8_adds_32 rfl (in8 hX) rfl ?_
  refine A_imul (q := 36) cx dX8_adds_35 rfl ?_
  refine A_iconst (v := 2) (q := 37) cx dX8_adds_36 (by decide) rfl ?_
  refine A_iadd (q := 38) cx dX8_adds_37 rfl ?_
  refine A_iload_n (q := 39) cx dX8_adds_38 rfl rfl ?_
  refine A_iastore (q := 40) cx dX8_adds_39 rfl (in9 hX (by decide)) (ixA (ixM (ixc 4) hN) (ixc 2)) (by show _ < 24; omega) rfl ?_
  refine A_aload_n (q := 41) cx dX8_adds_40 rfl rfl rfl ?_
  refine gX8_11 (q := 44) cx wi_X8_adds_X8 wf_X8_adds_25 dX8_adds_41 rfl (in8 hX) rfl rfl ?_
  refine A_iconst (v := 4) (q := 45) cx dX8_adds_44 (by decide) rfl ?_
  refine A_aload_n (q := 46) cx dX8_adds_45 rfl rfl rfl ?_
  refine gX8_10 (q := 49) cx wi_X8_adds_X8 wf_X8_adds_54 dX8_adds_46 rfl (in8 hX) rfl ?_
  refine A_imul (q := 50) cx dX8_adds_49 rfl ?_
  refine A_iconst (v := 3) (q := 51) cx dX8_adds_50 (by decide) rfl ?_
  refine A_iadd (q := 52) cx dX8_adds_51 rfl ?_
  refine A_iload (q := 54) cx dX8_adds_52 rfl rfl ?_
  refine A_iastore (q := 55) cx dX8_adds_54 rfl (in9 hX (by decide)) (ixA (ixM (ixc 4) hN) (ixc 3)) (by show _ < 24; omega) rfl ?_
  refine A_aload_n (q := 56) cx dX8_adds_55 rfl rfl rfl ?_
  refine A_dup (q := 57) cx dX8_adds_56 rfl rfl ?_
  refine gX8_10 (q := 60) cx wi_X8_adds_X8 wf_X8_adds_54 dX8_adds_57 rfl (in8 hX) rfl ?_
  refine A_iconst (v := 1) (q := 61) cx dX8_adds_60 (by decide) rfl ?_
  refine A_iadd (q := 62) cx dX8_adds_61 rfl ?_
  refine pX8_10 (q := 65) cx wi_X8_adds_X8 wf_X8_adds_54 dX8_adds_62 rfl (in8 hX) rfl ?_
  exact A_vret cx hlk hr hQ dX8_adds_65 rfl
theorem wi_X8_passes_X8 : ∀ w ∈ u_ws RX8 TX8 18, w ∈ wsX8_passes := by decide +kernel
theorem wf_X8_passes_58 : Cond.fieldLink RX8 58 (TX8 15).1 (TX8 15).2.1 (TX8 15).2.2.1 ∈ wsX8_passes := by decide +kernel
theorem wf_X8_passes_61 : Cond.fieldLink RX8 61 (TX8 9).1 (TX8 9).2.1 (TX8 9).2.2.1 ∈ wsX8_passes := by decide +kernel
theorem wf_X8_passes_22 : Cond.fieldLink RX8 22 (TX8 8).1 (TX8 8).2.1 (TX8 8).2.2.1 ∈ wsX8_passes := by decide +kernel
set_option maxHeartbeats 1000000 in
set_option maxRecDepth 100000 in
theorem ct_X8_passes {la : Launch} {E : Ev} (hE : okE E) (hX : yin E) {σ : Sg} {a T N : Nat} {ch : Int32} (hT : TI σ a T N) : CI la yX8_passes wsX8_passes 0 0 E rh0 [.ref (ad E (8, 0, 0, 0)), .int ch] σ (bI (pB σ a T ch)) (if pB σ a T ch then pS σ else σ) := by
  refine met_of (lv := [some _, some _, none]) RX8 (by decide) rfl rfl rfl hE (ok2 rfl rfl) (Nat.le_of_ble_eq_true rfl) (fun p ev s m args below meth c Q cx hlk hr hQ => ?_)
  obtain ⟨ha, hl, hN, haT, hT2, hN6⟩ := hT
  refine A_aload_n (q := 1) cx dX8_passes_0 rfl rfl rfl ?_
  refine gX8_15 (q := 4) cx wi_X8_passes_X8 wf_X8_passes_58 dX8_passes_1 rfl (in8 hX) rfl ?_
  refine A_aload_n (q := 5) cx dX8_passes_4 rfl rfl rfl ?_
  refine gX8_9 (q := 8) cx wi_X8_passes_X8 wf_X8_passes_61 dX8_passes_5 rfl (in8 hX) rfl ?_
  refine A_icmp_ge (tgt := 28) (q := 11) cx dX8_passes_8 (by decide) rfl (fun c_8 => ?_) (fun c_8 => ?_)
  · have hge : T ≤ a := by rw [ha, hl] at c_8; exact (nI_leI (by omega) (by omega)).mp c_8
    refine A_iconst (v := 0) (q := 29) cx dX8_passes_28 (by decide) rfl ?_
    refine A_istore_n (lv' := [some _, some _, some _]) (q := 30) cx dX8_passes_29 (Nat.le_of_ble_eq_true rfl) rfl rfl ?_
    refine A_aload_n (q := 31) cx dX8_passes_30 rfl rfl rfl ?_
    refine A_dup (q := 32) cx dX8_passes_31 rfl rfl ?_
    refine gX8_15 (q := 35) cx wi_X8_passes_X8 wf_X8_passes_58 dX8_passes_32 rfl (in8 hX) rfl ?_
    refine A_iload_n (q := 36) cx dX8_passes_35 rfl rfl ?_
    refine A_if_eq (tgt := 43) (q := 39) cx dX8_passes_36 (by decide) rfl (fun c_36 => ?_) (fun c_36 => ?_)
    · refine A_iconst (v := 0) (q := 44) cx dX8_passes_43 (by decide) rfl ?_
      refine A_iadd (q := 45) cx dX8_passes_44 rfl ?_
      refine pX8_15 (q := 48) cx wi_X8_passes_X8 wf_X8_passes_58 dX8_passes_45 rfl (in8 hX) rfl ?_
      refine A_iload_n (q := 49) cx dX8_passes_48 rfl rfl ?_
      exact A_zret cx hlk hr hQ dX8_passes_49 (by first | exact Or.inl rfl | exact Or.inr rfl | exact b01_or _ | assumption) (by first | (rw [pB_t hlt c_21]; rfl) | (rw [pB_f2 c_21]; rfl) | (rw [pB_f1 hge]; rfl)) (by first | (rw [pB_t hlt c_21]; rfl) | (rw [pB_f2 c_21, up2_z]; rfl) | (rw [pB_f1 hge, up2_z]; rfl))
    · exact absurd (by decide) c_36
  · have hlt : a < T := by rw [ha, hl] at c_8; exact (Nat.lt_of_not_le (fun h => c_8 (nI_le h (by omega))))
    refine A_aload_n (q := 12) cx dX8_passes_11 rfl rfl rfl ?_
    refine gX8_8 (q := 15) cx wi_X8_passes_X8 wf_X8_passes_22 dX8_passes_12 rfl (in8 hX) rfl rfl ?_
    refine A_aload_n (q := 16) cx dX8_passes_15 rfl rfl rfl ?_
    refine gX8_15 (q := 19) cx wi_X8_passes_X8 wf_X8_passes_58 dX8_passes_16 rfl (in8 hX) rfl ?_
    refine A_iaload (q := 20) cx dX8_passes_19 rfl (in9 hX (by decide)) ha (by show _ < 200; omega) rfl ?_
    refine A_iload_n (q := 21) cx dX8_passes_20 rfl rfl ?_
    refine A_icmp_ne (tgt := 28) (q := 24) cx dX8_passes_21 (by decide) rfl (fun c_21 => ?_) (fun c_21 => ?_)
    · refine A_iconst (v := 0) (q := 29) cx dX8_passes_28 (by decide) rfl ?_
      refine A_istore_n (lv' := [some _, some _, some _]) (q := 30) cx dX8_passes_29 (Nat.le_of_ble_eq_true rfl) rfl rfl ?_
      refine A_aload_n (q := 31) cx dX8_passes_30 rfl rfl rfl ?_
      refine A_dup (q := 32) cx dX8_passes_31 rfl rfl ?_
      refine gX8_15 (q := 35) cx wi_X8_passes_X8 wf_X8_passes_58 dX8_passes_32 rfl (in8 hX) rfl ?_
      refine A_iload_n (q := 36) cx dX8_passes_35 rfl rfl ?_
      refine A_if_eq (tgt := 43) (q := 39) cx dX8_passes_36 (by decide) rfl (fun c_36 => ?_) (fun c_36 => ?_)
      · refine A_iconst (v := 0) (q := 44) cx dX8_passes_43 (by decide) rfl ?_
        refine A_iadd (q := 45) cx dX8_passes_44 rfl ?_
        refine pX8_15 (q := 48) cx wi_X8_passes_X8 wf_X8_passes_58 dX8_passes_45 rfl (in8 hX) rfl ?_
        refine A_iload_n (q := 49) cx dX8_passes_48 rfl rfl ?_
        exact A_zret cx hlk hr hQ dX8_passes_49 (by first | exact Or.inl rfl | exact Or.inr rfl | exact b01_or _ | assumption) (by first | (rw [pB_t hlt c_21]; rfl) | (rw [pB_f2 c_21]; rfl) | (rw [pB_f1 hge]; rfl)) (by first | (rw [pB_t hlt c_21]; rfl) | (rw [pB_f2 c_21, up2_z]; rfl) | (rw [pB_f1 hge, up2_z]; rfl))
      · exact absurd (by decide) c_36
    · refine A_iconst (v := 1) (q := 25) cx dX8_passes_24 (by decide) rfl ?_
      refine A_goto (q := 29) cx dX8_passes_25 (by decide) ?_
      refine A_istore_n (lv' := [some _, some _, some _]) (q := 30) cx dX8_passes_29 (Nat.le_of_ble_eq_true rfl) rfl rfl ?_
      refine A_aload_n (q := 31) cx dX8_passes_30 rfl rfl rfl ?_
      refine A_dup (q := 32) cx dX8_passes_31 rfl rfl ?_
      refine gX8_15 (q := 35) cx wi_X8_passes_X8 wf_X8_passes_58 dX8_passes_32 rfl (in8 hX) rfl ?_
      refine A_iload_n (q := 36) cx dX8_passes_35 rfl rfl ?_
      refine A_if_eq (tgt := 43) (q := 39) cx dX8_passes_36 (by decide) rfl (fun c_36 => ?_) (fun c_36 => ?_)
      · exact absurd c_36 (by decide)
      · refine A_iconst (v := 1) (q := 40) cx dX8_passes_39 (by decide) rfl ?_
        refine A_goto (q := 44) cx dX8_passes_40 (by decide) ?_
        refine A_iadd (q := 45) cx dX8_passes_44 rfl ?_
        refine pX8_15 (q := 48) cx wi_X8_passes_X8 wf_X8_passes_58 dX8_passes_45 rfl (in8 hX) rfl ?_
        refine A_iload_n (q := 49) cx dX8_passes_48 rfl rfl ?_
        exact A_zret cx hlk hr hQ dX8_passes_49 (by first | exact Or.inl rfl | exact Or.inr rfl | exact b01_or _ | assumption) (by first | (rw [pB_t hlt c_21]; rfl) | (rw [pB_f2 c_21]; rfl) | (rw [pB_f1 hge]; rfl)) (by first | (rw [pB_t hlt c_21]; rfl) | (rw [pB_f2 c_21, up2_z]; rfl) | (rw [pB_f1 hge, up2_z]; rfl))
theorem wi_X8_areFigures_X8 : ∀ w ∈ u_ws RX8 TX8 18, w ∈ wsX8_areFigures := by decide +kernel
theorem wf_X8_areFigures_58 : Cond.fieldLink RX8 58 (TX8 15).1 (TX8 15).2.1 (TX8 15).2.2.1 ∈ wsX8_areFigures := by decide +kernel
theorem wf_X8_areFigures_61 : Cond.fieldLink RX8 61 (TX8 9).1 (TX8 9).2.1 (TX8 9).2.2.1 ∈ wsX8_areFigures := by decide +kernel
theorem wf_X8_areFigures_34 : Cond.fieldLink RX8 34 (TX8 14).1 (TX8 14).2.1 (TX8 14).2.2.1 ∈ wsX8_areFigures := by decide +kernel
theorem wf_X8_areFigures_22 : Cond.fieldLink RX8 22 (TX8 8).1 (TX8 8).2.1 (TX8 8).2.2.1 ∈ wsX8_areFigures := by decide +kernel
set_option maxHeartbeats 1000000 in
set_option maxRecDepth 100000 in
theorem ct_X8_areFigures {la : Launch} {E : Ev} (hE : okE E) (hX : yin E) {σ0 : Sg} {a0 T N w : Nat} (hT : TI σ0 a0 T N) (hw : w ≤ 4 := by omega) : CI la yX8_areFigures wsX8_areFigures 1 22 E rh0 [.ref (ad E (8, 0, 0, 0)), .int (nI w)] σ0 (bI (gFigs σ0 a0 T w).1) (gFigs σ0 a0 T w).2.2 := by
  refine met_of (lv := [some _, some _, none, none]) RX8 (by decide) rfl rfl rfl hE (ok2 rfl rfl) (Nat.le_of_ble_eq_true rfl) (fun p ev s m args below meth c Q cx hlk hr hQ => ?_)
  have l0 : ∀ (i : Nat) (σ : Sg), (gFigs σ0 a0 T w).1 = false → (gFigs σ0 a0 T w).2.2 = σ → AW p la ev (rmm 1 22) s m args below meth c 0 0 Q (AL E) E rh0 4 [some (.ref (ad E (8, 0, 0, 0))), some (.int (nI w)), some (.int 0), some (.int (nI i))] [] σ := by
    intro i σ hf hs
    refine A_iload_n (q := 5) cx dX8_areFigures_4 rfl rfl ?_
    refine A_iload_n (q := 6) cx dX8_areFigures_5 rfl rfl ?_
    refine A_icmp_ge (tgt := 112) (q := 9) cx dX8_areFigures_6 (by decide) rfl (fun c_6 => ?_) (fun c_6 => ?_)
    · refine A_iload_n (q := 113) cx dX8_areFigures_112 rfl rfl ?_
      refine A_if_eq (tgt := 129) (q := 116) cx dX8_areFigures_113 (by decide) rfl (fun c_113 => ?_) (fun c_113 => ?_)
      · refine A_iconst (v := 0) (q := 130) cx dX8_areFigures_129 (by decide) rfl ?_
        exact A_zret cx hlk hr hQ dX8_areFigures_130 (by first | exact Or.inl rfl | exact Or.inr rfl | exact b01_or _ | assumption) (by rw [hf]; rfl) hs.symm
      · exact absurd (by decide) c_113
    · refine A_iload_n (q := 10) cx dX8_areFigures_9 rfl rfl ?_
      refine A_if_eq (tgt := 112) (q := 13) cx dX8_areFigures_10 (by decide) rfl (fun c_10 => ?_) (fun c_10 => ?_)
      · refine A_iload_n (q := 113) cx dX8_areFigures_112 rfl rfl ?_
        refine A_if_eq (tgt := 129) (q := 116) cx dX8_areFigures_113 (by decide) rfl (fun c_113 => ?_) (fun c_113 => ?_)
        · refine A_iconst (v := 0) (q := 130) cx dX8_areFigures_129 (by decide) rfl ?_
          exact A_zret cx hlk hr hQ dX8_areFigures_130 (by first | exact Or.inl rfl | exact Or.inr rfl | exact b01_or _ | assumption) (by rw [hf]; rfl) hs.symm
        · exact absurd (by decide) c_113
      · exact absurd (by decide) c_10
  have l1 : ∀ (d i : Nat) (σ : Sg) (a : Nat), i + d = w → TI σ a T N → gW T (gR T d i a σ) = gFigs σ0 a0 T w → AW p la ev (rmm 1 22) s m args below meth c 0 0 Q (AL E) E rh0 4 [some (.ref (ad E (8, 0, 0, 0))), some (.int (nI w)), some (.int 1), some (.int (nI i))] [] σ := by
    intro d
    induction d with
    | zero =>
      intro i σ a hi hT hF
      refine A_iload_n (q := 5) cx dX8_areFigures_4 rfl rfl ?_
      refine A_iload_n (q := 6) cx dX8_areFigures_5 rfl rfl ?_
      refine A_icmp_ge (tgt := 112) (q := 9) cx dX8_areFigures_6 (by decide) rfl (fun c_6 => ?_) (fun c_6 => ?_)
      · refine A_iload_n (q := 113) cx dX8_areFigures_112 rfl rfl ?_
        refine A_if_eq (tgt := 129) (q := 116) cx dX8_areFigures_113 (by decide) rfl (fun c_113 => ?_) (fun c_113 => ?_)
        · exact absurd c_113 (by decide)
        · refine A_aload_n (q := 117) cx dX8_areFigures_116 rfl rfl rfl ?_
          refine A_bipush (v := 59) (q := 119) cx dX8_areFigures_117 (by decide) rfl ?_
          refine VI1 (q := 122) cx (ct_X8_passes hE hX hT) (cwV 1 cx.1.2.2.2.2 gX8_areFigures_X8_passes rfl rfl rfl (by decide +kernel) ⟨Nat.le_of_ble_eq_true rfl, Nat.le_of_ble_eq_true rfl⟩) dX8_areFigures_119 rfl rfl (in8 hX) rfl (Nat.le_of_ble_eq_true rfl) ⟨Nat.zero_le _, Nat.zero_le _⟩ rfl ?_
          refine A_if_eq (tgt := 129) (q := 125) cx dX8_areFigures_122 (by decide) rfl (fun c_122 => ?_) (fun c_122 => ?_)
          · have hb := bI_0 c_122
            refine A_iconst (v := 0) (q := 130) cx dX8_areFigures_129 (by decide) rfl ?_
            exact A_zret cx hlk hr hQ dX8_areFigures_130 (by first | exact Or.inl rfl | exact Or.inr rfl | exact b01_or _ | assumption) (by first | (rw [← hF]; unfold gR gW; dsimp only; rw [if_pos rfl, hb]; rfl)) (by rw [← hF]; unfold gR gW; dsimp only; rw [if_pos rfl, hb]; rfl)
          · have hb := bI_1 c_122
            refine A_iconst (v := 1) (q := 126) cx dX8_areFigures_125 (by decide) rfl ?_
            refine A_goto (q := 130) cx dX8_areFigures_126 (by decide) ?_
            exact A_zret cx hlk hr hQ dX8_areFigures_130 (by first | exact Or.inl rfl | exact Or.inr rfl | exact b01_or _ | assumption) (by first | (rw [← hF]; unfold gR gW; dsimp only; rw [if_pos rfl, hb]; rfl)) (by rw [← hF]; unfold gR gW; dsimp only; rw [if_pos rfl, hb]; rfl)
      · exact absurd (nI_le (Nat.le_of_eq (by omega)) (by omega)) c_6
    | succ d ih =>
      intro i σ a hi hT hF
      have hT0 := hT
      obtain ⟨ha, hl, hN, haT, hT2, hN6⟩ := hT0
      have hT9 := hT
      refine A_iload_n (q := 5) cx dX8_areFigures_4 rfl rfl ?_
      refine A_iload_n (q := 6) cx dX8_areFigures_5 rfl rfl ?_
      refine A_icmp_ge (tgt := 112) (q := 9) cx dX8_areFigures_6 (by decide) rfl (fun c_6 => ?_) (fun c_6 => ?_)
      · exact absurd c_6 (not_ge (by omega) (by omega))
      · refine A_iload_n (q := 10) cx dX8_areFigures_9 rfl rfl ?_
        refine A_if_eq (tgt := 112) (q := 13) cx dX8_areFigures_10 (by decide) rfl (fun c_10 => ?_) (fun c_10 => ?_)
        · exact absurd c_10 (by decide)
        · refine A_iload_n (q := 14) cx dX8_areFigures_13 rfl rfl ?_
          refine A_if_eq (tgt := 26) (q := 17) cx dX8_areFigures_14 (by decide) rfl (fun c_14 => ?_) (fun c_14 => ?_)
          · have h0 : i = 0 := (nI_eq (by omega) (by decide)).mp c_14
            refine A_aload_n (q := 27) cx dX8_areFigures_26 rfl rfl rfl ?_
            refine gX8_15 (q := 30) cx wi_X8_areFigures_X8 wf_X8_areFigures_58 dX8_areFigures_27 rfl (in8 hX) rfl ?_
            refine A_aload_n (q := 31) cx dX8_areFigures_30 rfl rfl rfl ?_
            refine gX8_9 (q := 34) cx wi_X8_areFigures_X8 wf_X8_areFigures_61 dX8_areFigures_31 rfl (in8 hX) rfl ?_
            refine A_icmp_ge (tgt := 60) (q := 37) cx dX8_areFigures_34 (by decide) rfl (fun c_34 => ?_) (fun c_34 => ?_)
            · have hge : T ≤ a := by rw [ha, hl] at c_34; exact (nI_leI (by omega) (by omega)).mp c_34
              refine A_iconst (v := 0) (q := 61) cx dX8_areFigures_60 (by decide) rfl ?_
              refine A_istore_n (lv' := [some _, some _, some _, some _]) (q := 62) cx dX8_areFigures_61 (Nat.le_of_ble_eq_true rfl) rfl rfl ?_
              refine A_aload_n (q := 63) cx dX8_areFigures_62 rfl rfl rfl ?_
              refine gX8_14 (q := 66) cx wi_X8_areFigures_X8 wf_X8_areFigures_34 dX8_areFigures_63 rfl (in8 hX) rfl rfl ?_
              refine A_iload_n (q := 67) cx dX8_areFigures_66 rfl rfl ?_
              refine A_iload_n (q := 68) cx dX8_areFigures_67 rfl rfl ?_
              refine A_if_eq (tgt := 86) (q := 71) cx dX8_areFigures_68 (by decide) rfl (fun c_68 => ?_) (fun c_68 => ?_)
              · refine A_iconst (v := 0) (q := 87) cx dX8_areFigures_86 (by decide) rfl ?_
                refine A_iastore (q := 88) cx dX8_areFigures_87 rfl (in9 hX (by decide)) rfl (by show _ < 4; omega) rfl ?_
                refine A_aload_n (q := 89) cx dX8_areFigures_88 rfl rfl rfl ?_
                refine A_dup (q := 90) cx dX8_areFigures_89 rfl rfl ?_
                refine gX8_15 (q := 93) cx wi_X8_areFigures_X8 wf_X8_areFigures_58 dX8_areFigures_90 rfl (in8 hX) rfl ?_
                refine A_iload_n (q := 94) cx dX8_areFigures_93 rfl rfl ?_
                refine A_if_eq (tgt := 101) (q := 97) cx dX8_areFigures_94 (by decide) rfl (fun c_94 => ?_) (fun c_94 => ?_)
                · refine A_iconst (v := 0) (q := 102) cx dX8_areFigures_101 (by decide) rfl ?_
                  refine A_iadd (q := 103) cx dX8_areFigures_102 rfl ?_
                  refine pX8_15 (q := 106) cx wi_X8_areFigures_X8 wf_X8_areFigures_58 dX8_areFigures_103 rfl (in8 hX) rfl ?_
                  refine A_iinc (lv' := [some _, some _, some _, some _]) (q := 109) cx dX8_areFigures_106 rfl (nI_1 i) rfl rfl ?_
                  refine A_goto (q := 4) cx dX8_areFigures_109 (by decide) ?_
                  first | exact l0 (i + 1) _ (gfail (gOk_no1 (by rw [gA_0 h0]; exact hge)) hF).1 (by rw [(gfail (gOk_no1 (by rw [gA_0 h0]; exact hge)) hF).2, gS_0 h0]; exact (up2_z _ _ _).symm) | exact l0 (i + 1) _ (gfail (gOk_no2 (by rw [gA_0 h0]; exact c_53)) hF).1 (by rw [(gfail (gOk_no2 (by rw [gA_0 h0]; exact c_53)) hF).2, gS_0 h0]; exact (up2_z _ _ _).symm) | (have key := ih (i + 1) (gNx σ a T i) (gA a i + 1) (by omega) (TI_gNx hT9 (gOk_yes (Or.inl h0) (by rw [gA_0 h0]; exact hlt) (by rw [gA_0 h0]; exact c_53))) (gsucc (gOk_yes (Or.inl h0) (by rw [gA_0 h0]; exact hlt) (by rw [gA_0 h0]; exact c_53)) hF); unfold gNx at key; rw [gS_0 h0, gA_0 h0] at key; exact key) | exact l0 (i + 1) _ (gfail (gOk_no3 h0 hb) hF).1 (by rw [(gfail (gOk_no3 h0 hb) hF).2, gS_n h0 hb]; exact (up2_z _ _ _).symm) | exact l0 (i + 1) _ (gfail (gOk_no1 (by rw [gA_1 h0]; exact hge)) hF).1 (by rw [(gfail (gOk_no1 (by rw [gA_1 h0]; exact hge)) hF).2, gS_b h0 hb]; exact (up2_z _ _ _).symm) | exact l0 (i + 1) _ (gfail (gOk_no2 (by rw [gA_1 h0]; exact c_53)) hF).1 (by rw [(gfail (gOk_no2 (by rw [gA_1 h0]; exact c_53)) hF).2, gS_b h0 hb]; exact (up2_z _ _ _).symm) | (have key := ih (i + 1) (gNx σ a T i) (gA a i + 1) (by omega) (TI_gNx hT9 (gOk_yes (Or.inr hb) (by rw [gA_1 h0]; exact hlt) (by rw [gA_1 h0]; exact c_53))) (gsucc (gOk_yes (Or.inr hb) (by rw [gA_1 h0]; exact hlt) (by rw [gA_1 h0]; exact c_53)) hF); unfold gNx at key; rw [gS_b h0 hb, gA_1 h0] at key; exact key)
                · exact absurd (by decide) c_94
              · exact absurd (by decide) c_68
            · have hlt : a < T := by rw [ha, hl] at c_34; exact (Nat.lt_of_not_le (fun h => c_34 (nI_le h (by omega))))
              refine A_aload_n (q := 38) cx dX8_areFigures_37 rfl rfl rfl ?_
              refine gX8_8 (q := 41) cx wi_X8_areFigures_X8 wf_X8_areFigures_22 dX8_areFigures_38 rfl (in8 hX) rfl rfl ?_
              refine A_aload_n (q := 42) cx dX8_areFigures_41 rfl rfl rfl ?_
              refine gX8_15 (q := 45) cx wi_X8_areFigures_X8 wf_X8_areFigures_58 dX8_areFigures_42 rfl (in8 hX) rfl ?_
              refine A_iaload (q := 46) cx dX8_areFigures_45 rfl (in9 hX (by decide)) ha (by show _ < 200; omega) rfl ?_
              refine A_bipush (v := 48) (q := 48) cx dX8_areFigures_46 (by decide) rfl ?_
              refine A_bipush (v := 57) (q := 50) cx dX8_areFigures_48 (by decide) rfl ?_
              refine SI3 (q := 53) cx (ct_X8_within hE hX) (cwS 3 cx.1.2.2.2.2 gX8_areFigures_X8_within rfl rfl rfl (by decide +kernel) ⟨Nat.le_of_ble_eq_true rfl, Nat.le_of_ble_eq_true rfl⟩) dX8_areFigures_50 rfl (Nat.le_of_ble_eq_true rfl) ⟨Nat.zero_le _, Nat.zero_le _⟩ rfl ?_
              refine A_if_eq (tgt := 60) (q := 56) cx dX8_areFigures_53 (by decide) rfl (fun c_53 => ?_) (fun c_53 => ?_)
              · refine A_iconst (v := 0) (q := 61) cx dX8_areFigures_60 (by decide) rfl ?_
                refine A_istore_n (lv' := [some _, some _, some _, some _]) (q := 62) cx dX8_areFigures_61 (Nat.le_of_ble_eq_true rfl) rfl rfl ?_
                refine A_aload_n (q := 63) cx dX8_areFigures_62 rfl rfl rfl ?_
                refine gX8_14 (q := 66) cx wi_X8_areFigures_X8 wf_X8_areFigures_34 dX8_areFigures_63 rfl (in8 hX) rfl rfl ?_
                refine A_iload_n (q := 67) cx dX8_areFigures_66 rfl rfl ?_
                refine A_iload_n (q := 68) cx dX8_areFigures_67 rfl rfl ?_
                refine A_if_eq (tgt := 86) (q := 71) cx dX8_areFigures_68 (by decide) rfl (fun c_68 => ?_) (fun c_68 => ?_)
                · refine A_iconst (v := 0) (q := 87) cx dX8_areFigures_86 (by decide) rfl ?_
                  refine A_iastore (q := 88) cx dX8_areFigures_87 rfl (in9 hX (by decide)) rfl (by show _ < 4; omega) rfl ?_
                  refine A_aload_n (q := 89) cx dX8_areFigures_88 rfl rfl rfl ?_
                  refine A_dup (q := 90) cx dX8_areFigures_89 rfl rfl ?_
                  refine gX8_15 (q := 93) cx wi_X8_areFigures_X8 wf_X8_areFigures_58 dX8_areFigures_90 rfl (in8 hX) rfl ?_
                  refine A_iload_n (q := 94) cx dX8_areFigures_93 rfl rfl ?_
                  refine A_if_eq (tgt := 101) (q := 97) cx dX8_areFigures_94 (by decide) rfl (fun c_94 => ?_) (fun c_94 => ?_)
                  · refine A_iconst (v := 0) (q := 102) cx dX8_areFigures_101 (by decide) rfl ?_
                    refine A_iadd (q := 103) cx dX8_areFigures_102 rfl ?_
                    refine pX8_15 (q := 106) cx wi_X8_areFigures_X8 wf_X8_areFigures_58 dX8_areFigures_103 rfl (in8 hX) rfl ?_
                    refine A_iinc (lv' := [some _, some _, some _, some _]) (q := 109) cx dX8_areFigures_106 rfl (nI_1 i) rfl rfl ?_
                    refine A_goto (q := 4) cx dX8_areFigures_109 (by decide) ?_
                    first | exact l0 (i + 1) _ (gfail (gOk_no1 (by rw [gA_0 h0]; exact hge)) hF).1 (by rw [(gfail (gOk_no1 (by rw [gA_0 h0]; exact hge)) hF).2, gS_0 h0]; exact (up2_z _ _ _).symm) | exact l0 (i + 1) _ (gfail (gOk_no2 (by rw [gA_0 h0]; exact c_53)) hF).1 (by rw [(gfail (gOk_no2 (by rw [gA_0 h0]; exact c_53)) hF).2, gS_0 h0]; exact (up2_z _ _ _).symm) | (have key := ih (i + 1) (gNx σ a T i) (gA a i + 1) (by omega) (TI_gNx hT9 (gOk_yes (Or.inl h0) (by rw [gA_0 h0]; exact hlt) (by rw [gA_0 h0]; exact c_53))) (gsucc (gOk_yes (Or.inl h0) (by rw [gA_0 h0]; exact hlt) (by rw [gA_0 h0]; exact c_53)) hF); unfold gNx at key; rw [gS_0 h0, gA_0 h0] at key; exact key) | exact l0 (i + 1) _ (gfail (gOk_no3 h0 hb) hF).1 (by rw [(gfail (gOk_no3 h0 hb) hF).2, gS_n h0 hb]; exact (up2_z _ _ _).symm) | exact l0 (i + 1) _ (gfail (gOk_no1 (by rw [gA_1 h0]; exact hge)) hF).1 (by rw [(gfail (gOk_no1 (by rw [gA_1 h0]; exact hge)) hF).2, gS_b h0 hb]; exact (up2_z _ _ _).symm) | exact l0 (i + 1) _ (gfail (gOk_no2 (by rw [gA_1 h0]; exact c_53)) hF).1 (by rw [(gfail (gOk_no2 (by rw [gA_1 h0]; exact c_53)) hF).2, gS_b h0 hb]; exact (up2_z _ _ _).symm) | (have key := ih (i + 1) (gNx σ a T i) (gA a i + 1) (by omega) (TI_gNx hT9 (gOk_yes (Or.inr hb) (by rw [gA_1 h0]; exact hlt) (by rw [gA_1 h0]; exact c_53))) (gsucc (gOk_yes (Or.inr hb) (by rw [gA_1 h0]; exact hlt) (by rw [gA_1 h0]; exact c_53)) hF); unfold gNx at key; rw [gS_b h0 hb, gA_1 h0] at key; exact key)
                  · exact absurd (by decide) c_94
                · exact absurd (by decide) c_68
              · refine A_iconst (v := 1) (q := 57) cx dX8_areFigures_56 (by decide) rfl ?_
                refine A_goto (q := 61) cx dX8_areFigures_57 (by decide) ?_
                refine A_istore_n (lv' := [some _, some _, some _, some _]) (q := 62) cx dX8_areFigures_61 (Nat.le_of_ble_eq_true rfl) rfl rfl ?_
                refine A_aload_n (q := 63) cx dX8_areFigures_62 rfl rfl rfl ?_
                refine gX8_14 (q := 66) cx wi_X8_areFigures_X8 wf_X8_areFigures_34 dX8_areFigures_63 rfl (in8 hX) rfl rfl ?_
                refine A_iload_n (q := 67) cx dX8_areFigures_66 rfl rfl ?_
                refine A_iload_n (q := 68) cx dX8_areFigures_67 rfl rfl ?_
                refine A_if_eq (tgt := 86) (q := 71) cx dX8_areFigures_68 (by decide) rfl (fun c_68 => ?_) (fun c_68 => ?_)
                · exact absurd c_68 (by decide)
                · refine A_aload_n (q := 72) cx dX8_areFigures_71 rfl rfl rfl ?_
                  refine gX8_8 (q := 75) cx wi_X8_areFigures_X8 wf_X8_areFigures_22 dX8_areFigures_72 rfl (in8 hX) rfl rfl ?_
                  refine A_aload_n (q := 76) cx dX8_areFigures_75 rfl rfl rfl ?_
                  refine gX8_15 (q := 79) cx wi_X8_areFigures_X8 wf_X8_areFigures_58 dX8_areFigures_76 rfl (in8 hX) rfl ?_
                  refine A_iaload (q := 80) cx dX8_areFigures_79 rfl (in9 hX (by decide)) ha (by show _ < 200; omega) rfl ?_
                  refine A_bipush (v := 48) (q := 82) cx dX8_areFigures_80 (by decide) rfl ?_
                  refine A_isub (q := 83) cx dX8_areFigures_82 rfl ?_
                  refine A_goto (q := 87) cx dX8_areFigures_83 (by decide) ?_
                  refine A_iastore (q := 88) cx dX8_areFigures_87 rfl (in9 hX (by decide)) rfl (by show _ < 4; omega) rfl ?_
                  refine A_aload_n (q := 89) cx dX8_areFigures_88 rfl rfl rfl ?_
                  refine A_dup (q := 90) cx dX8_areFigures_89 rfl rfl ?_
                  refine gX8_15 (q := 93) cx wi_X8_areFigures_X8 wf_X8_areFigures_58 dX8_areFigures_90 rfl (in8 hX) rfl ?_
                  refine A_iload_n (q := 94) cx dX8_areFigures_93 rfl rfl ?_
                  refine A_if_eq (tgt := 101) (q := 97) cx dX8_areFigures_94 (by decide) rfl (fun c_94 => ?_) (fun c_94 => ?_)
                  · exact absurd c_94 (by decide)
                  · refine A_iconst (v := 1) (q := 98) cx dX8_areFigures_97 (by decide) rfl ?_
                    refine A_goto (q := 102) cx dX8_areFigures_98 (by decide) ?_
                    refine A_iadd (q := 103) cx dX8_areFigures_102 rfl ?_
                    refine pX8_15 (q := 106) cx wi_X8_areFigures_X8 wf_X8_areFigures_58 dX8_areFigures_103 rfl (in8 hX) rfl ?_
                    refine A_iinc (lv' := [some _, some _, some _, some _]) (q := 109) cx dX8_areFigures_106 rfl (nI_1 i) rfl rfl ?_
                    refine A_goto (q := 4) cx dX8_areFigures_109 (by decide) ?_
                    first | exact l0 (i + 1) _ (gfail (gOk_no1 (by rw [gA_0 h0]; exact hge)) hF).1 (by rw [(gfail (gOk_no1 (by rw [gA_0 h0]; exact hge)) hF).2, gS_0 h0]; exact (up2_z _ _ _).symm) | exact l0 (i + 1) _ (gfail (gOk_no2 (by rw [gA_0 h0]; exact c_53)) hF).1 (by rw [(gfail (gOk_no2 (by rw [gA_0 h0]; exact c_53)) hF).2, gS_0 h0]; exact (up2_z _ _ _).symm) | (have key := ih (i + 1) (gNx σ a T i) (gA a i + 1) (by omega) (TI_gNx hT9 (gOk_yes (Or.inl h0) (by rw [gA_0 h0]; exact hlt) (by rw [gA_0 h0]; exact c_53))) (gsucc (gOk_yes (Or.inl h0) (by rw [gA_0 h0]; exact hlt) (by rw [gA_0 h0]; exact c_53)) hF); unfold gNx at key; rw [gS_0 h0, gA_0 h0] at key; exact key) | exact l0 (i + 1) _ (gfail (gOk_no3 h0 hb) hF).1 (by rw [(gfail (gOk_no3 h0 hb) hF).2, gS_n h0 hb]; exact (up2_z _ _ _).symm) | exact l0 (i + 1) _ (gfail (gOk_no1 (by rw [gA_1 h0]; exact hge)) hF).1 (by rw [(gfail (gOk_no1 (by rw [gA_1 h0]; exact hge)) hF).2, gS_b h0 hb]; exact (up2_z _ _ _).symm) | exact l0 (i + 1) _ (gfail (gOk_no2 (by rw [gA_1 h0]; exact c_53)) hF).1 (by rw [(gfail (gOk_no2 (by rw [gA_1 h0]; exact c_53)) hF).2, gS_b h0 hb]; exact (up2_z _ _ _).symm) | (have key := ih (i + 1) (gNx σ a T i) (gA a i + 1) (by omega) (TI_gNx hT9 (gOk_yes (Or.inr hb) (by rw [gA_1 h0]; exact hlt) (by rw [gA_1 h0]; exact c_53))) (gsucc (gOk_yes (Or.inr hb) (by rw [gA_1 h0]; exact hlt) (by rw [gA_1 h0]; exact c_53)) hF); unfold gNx at key; rw [gS_b h0 hb, gA_1 h0] at key; exact key)
          · have h0 : i ≠ 0 := fun h => c_14 (by rw [h]; rfl)
            refine A_aload_n (q := 18) cx dX8_areFigures_17 rfl rfl rfl ?_
            refine A_bipush (v := 44) (q := 20) cx dX8_areFigures_18 (by decide) rfl ?_
            refine VI1 (q := 23) cx (ct_X8_passes hE hX hT) (cwV 1 cx.1.2.2.2.2 gX8_areFigures_X8_passes rfl rfl rfl (by decide +kernel) ⟨Nat.le_of_ble_eq_true rfl, Nat.le_of_ble_eq_true rfl⟩) dX8_areFigures_20 rfl rfl (in8 hX) rfl (Nat.le_of_ble_eq_true rfl) ⟨Nat.zero_le _, Nat.zero_le _⟩ rfl ?_
            refine A_if_eq (tgt := 60) (q := 26) cx dX8_areFigures_23 (by decide) rfl (fun c_23 => ?_) (fun c_23 => ?_)
            · have hb := bI_0 c_23
              rw [if_neg (by rw [hb]; decide)]
              refine A_iconst (v := 0) (q := 61) cx dX8_areFigures_60 (by decide) rfl ?_
              refine A_istore_n (lv' := [some _, some _, some _, some _]) (q := 62) cx dX8_areFigures_61 (Nat.le_of_ble_eq_true rfl) rfl rfl ?_
              refine A_aload_n (q := 63) cx dX8_areFigures_62 rfl rfl rfl ?_
              refine gX8_14 (q := 66) cx wi_X8_areFigures_X8 wf_X8_areFigures_34 dX8_areFigures_63 rfl (in8 hX) rfl rfl ?_
              refine A_iload_n (q := 67) cx dX8_areFigures_66 rfl rfl ?_
              refine A_iload_n (q := 68) cx dX8_areFigures_67 rfl rfl ?_
              refine A_if_eq (tgt := 86) (q := 71) cx dX8_areFigures_68 (by decide) rfl (fun c_68 => ?_) (fun c_68 => ?_)
              · refine A_iconst (v := 0) (q := 87) cx dX8_areFigures_86 (by decide) rfl ?_
                refine A_iastore (q := 88) cx dX8_areFigures_87 rfl (in9 hX (by decide)) rfl (by show _ < 4; omega) rfl ?_
                refine A_aload_n (q := 89) cx dX8_areFigures_88 rfl rfl rfl ?_
                refine A_dup (q := 90) cx dX8_areFigures_89 rfl rfl ?_
                refine gX8_15 (q := 93) cx wi_X8_areFigures_X8 wf_X8_areFigures_58 dX8_areFigures_90 rfl (in8 hX) rfl ?_
                refine A_iload_n (q := 94) cx dX8_areFigures_93 rfl rfl ?_
                refine A_if_eq (tgt := 101) (q := 97) cx dX8_areFigures_94 (by decide) rfl (fun c_94 => ?_) (fun c_94 => ?_)
                · refine A_iconst (v := 0) (q := 102) cx dX8_areFigures_101 (by decide) rfl ?_
                  refine A_iadd (q := 103) cx dX8_areFigures_102 rfl ?_
                  refine pX8_15 (q := 106) cx wi_X8_areFigures_X8 wf_X8_areFigures_58 dX8_areFigures_103 rfl (in8 hX) rfl ?_
                  refine A_iinc (lv' := [some _, some _, some _, some _]) (q := 109) cx dX8_areFigures_106 rfl (nI_1 i) rfl rfl ?_
                  refine A_goto (q := 4) cx dX8_areFigures_109 (by decide) ?_
                  first | exact l0 (i + 1) _ (gfail (gOk_no1 (by rw [gA_0 h0]; exact hge)) hF).1 (by rw [(gfail (gOk_no1 (by rw [gA_0 h0]; exact hge)) hF).2, gS_0 h0]; exact (up2_z _ _ _).symm) | exact l0 (i + 1) _ (gfail (gOk_no2 (by rw [gA_0 h0]; exact c_53)) hF).1 (by rw [(gfail (gOk_no2 (by rw [gA_0 h0]; exact c_53)) hF).2, gS_0 h0]; exact (up2_z _ _ _).symm) | (have key := ih (i + 1) (gNx σ a T i) (gA a i + 1) (by omega) (TI_gNx hT9 (gOk_yes (Or.inl h0) (by rw [gA_0 h0]; exact hlt) (by rw [gA_0 h0]; exact c_53))) (gsucc (gOk_yes (Or.inl h0) (by rw [gA_0 h0]; exact hlt) (by rw [gA_0 h0]; exact c_53)) hF); unfold gNx at key; rw [gS_0 h0, gA_0 h0] at key; exact key) | exact l0 (i + 1) _ (gfail (gOk_no3 h0 hb) hF).1 (by rw [(gfail (gOk_no3 h0 hb) hF).2, gS_n h0 hb]; exact (up2_z _ _ _).symm) | exact l0 (i + 1) _ (gfail (gOk_no1 (by rw [gA_1 h0]; exact hge)) hF).1 (by rw [(gfail (gOk_no1 (by rw [gA_1 h0]; exact hge)) hF).2, gS_b h0 hb]; exact (up2_z _ _ _).symm) | exact l0 (i + 1) _ (gfail (gOk_no2 (by rw [gA_1 h0]; exact c_53)) hF).1 (by rw [(gfail (gOk_no2 (by rw [gA_1 h0]; exact c_53)) hF).2, gS_b h0 hb]; exact (up2_z _ _ _).symm) | (have key := ih (i + 1) (gNx σ a T i) (gA a i + 1) (by omega) (TI_gNx hT9 (gOk_yes (Or.inr hb) (by rw [gA_1 h0]; exact hlt) (by rw [gA_1 h0]; exact c_53))) (gsucc (gOk_yes (Or.inr hb) (by rw [gA_1 h0]; exact hlt) (by rw [gA_1 h0]; exact c_53)) hF); unfold gNx at key; rw [gS_b h0 hb, gA_1 h0] at key; exact key)
                · exact absurd (by decide) c_94
              · exact absurd (by decide) c_68
            · have hb := bI_1 c_23
              have hbl := pB_lt hb
              rw [if_pos hb]
              have hT := hT.pS hbl
              obtain ⟨ha, hl, -⟩ := hT
              refine A_aload_n (q := 27) cx dX8_areFigures_26 rfl rfl rfl ?_
              refine gX8_15 (q := 30) cx wi_X8_areFigures_X8 wf_X8_areFigures_58 dX8_areFigures_27 rfl (in8 hX) rfl ?_
              refine A_aload_n (q := 31) cx dX8_areFigures_30 rfl rfl rfl ?_
              refine gX8_9 (q := 34) cx wi_X8_areFigures_X8 wf_X8_areFigures_61 dX8_areFigures_31 rfl (in8 hX) rfl ?_
              refine A_icmp_ge (tgt := 60) (q := 37) cx dX8_areFigures_34 (by decide) rfl (fun c_34 => ?_) (fun c_34 => ?_)
              · have hge : T ≤ (a + 1) := by rw [ha, hl] at c_34; exact (nI_leI (by omega) (by omega)).mp c_34
                refine A_iconst (v := 0) (q := 61) cx dX8_areFigures_60 (by decide) rfl ?_
                refine A_istore_n (lv' := [some _, some _, some _, some _]) (q := 62) cx dX8_areFigures_61 (Nat.le_of_ble_eq_true rfl) rfl rfl ?_
                refine A_aload_n (q := 63) cx dX8_areFigures_62 rfl rfl rfl ?_
                refine gX8_14 (q := 66) cx wi_X8_areFigures_X8 wf_X8_areFigures_34 dX8_areFigures_63 rfl (in8 hX) rfl rfl ?_
                refine A_iload_n (q := 67) cx dX8_areFigures_66 rfl rfl ?_
                refine A_iload_n (q := 68) cx dX8_areFigures_67 rfl rfl ?_
                refine A_if_eq (tgt := 86) (q := 71) cx dX8_areFigures_68 (by decide) rfl (fun c_68 => ?_) (fun c_68 => ?_)
                · refine A_iconst (v := 0) (q := 87) cx dX8_areFigures_86 (by decide) rfl ?_
                  refine A_iastore (q := 88) cx dX8_areFigures_87 rfl (in9 hX (by decide)) rfl (by show _ < 4; omega) rfl ?_
                  refine A_aload_n (q := 89) cx dX8_areFigures_88 rfl rfl rfl ?_
                  refine A_dup (q := 90) cx dX8_areFigures_89 rfl rfl ?_
                  refine gX8_15 (q := 93) cx wi_X8_areFigures_X8 wf_X8_areFigures_58 dX8_areFigures_90 rfl (in8 hX) rfl ?_
                  refine A_iload_n (q := 94) cx dX8_areFigures_93 rfl rfl ?_
                  refine A_if_eq (tgt := 101) (q := 97) cx dX8_areFigures_94 (by decide) rfl (fun c_94 => ?_) (fun c_94 => ?_)
                  · refine A_iconst (v := 0) (q := 102) cx dX8_areFigures_101 (by decide) rfl ?_
                    refine A_iadd (q := 103) cx dX8_areFigures_102 rfl ?_
                    refine pX8_15 (q := 106) cx wi_X8_areFigures_X8 wf_X8_areFigures_58 dX8_areFigures_103 rfl (in8 hX) rfl ?_
                    refine A_iinc (lv' := [some _, some _, some _, some _]) (q := 109) cx dX8_areFigures_106 rfl (nI_1 i) rfl rfl ?_
                    refine A_goto (q := 4) cx dX8_areFigures_109 (by decide) ?_
                    first | exact l0 (i + 1) _ (gfail (gOk_no1 (by rw [gA_0 h0]; exact hge)) hF).1 (by rw [(gfail (gOk_no1 (by rw [gA_0 h0]; exact hge)) hF).2, gS_0 h0]; exact (up2_z _ _ _).symm) | exact l0 (i + 1) _ (gfail (gOk_no2 (by rw [gA_0 h0]; exact c_53)) hF).1 (by rw [(gfail (gOk_no2 (by rw [gA_0 h0]; exact c_53)) hF).2, gS_0 h0]; exact (up2_z _ _ _).symm) | (have key := ih (i + 1) (gNx σ a T i) (gA a i + 1) (by omega) (TI_gNx hT9 (gOk_yes (Or.inl h0) (by rw [gA_0 h0]; exact hlt) (by rw [gA_0 h0]; exact c_53))) (gsucc (gOk_yes (Or.inl h0) (by rw [gA_0 h0]; exact hlt) (by rw [gA_0 h0]; exact c_53)) hF); unfold gNx at key; rw [gS_0 h0, gA_0 h0] at key; exact key) | exact l0 (i + 1) _ (gfail (gOk_no3 h0 hb) hF).1 (by rw [(gfail (gOk_no3 h0 hb) hF).2, gS_n h0 hb]; exact (up2_z _ _ _).symm) | exact l0 (i + 1) _ (gfail (gOk_no1 (by rw [gA_1 h0]; exact hge)) hF).1 (by rw [(gfail (gOk_no1 (by rw [gA_1 h0]; exact hge)) hF).2, gS_b h0 hb]; exact (up2_z _ _ _).symm) | exact l0 (i + 1) _ (gfail (gOk_no2 (by rw [gA_1 h0]; exact c_53)) hF).1 (by rw [(gfail (gOk_no2 (by rw [gA_1 h0]; exact c_53)) hF).2, gS_b h0 hb]; exact (up2_z _ _ _).symm) | (have key := ih (i + 1) (gNx σ a T i) (gA a i + 1) (by omega) (TI_gNx hT9 (gOk_yes (Or.inr hb) (by rw [gA_1 h0]; exact hlt) (by rw [gA_1 h0]; exact c_53))) (gsucc (gOk_yes (Or.inr hb) (by rw [gA_1 h0]; exact hlt) (by rw [gA_1 h0]; exact c_53)) hF); unfold gNx at key; rw [gS_b h0 hb, gA_1 h0] at key; exact key)
                  · exact absurd (by decide) c_94
                · exact absurd (by decide) c_68
              · have hlt : (a + 1) < T := by rw [ha, hl] at c_34; exact (Nat.lt_of_not_le (fun h => c_34 (nI_le h (by omega))))
                refine A_aload_n (q := 38) cx dX8_areFigures_37 rfl rfl rfl ?_
                refine gX8_8 (q := 41) cx wi_X8_areFigures_X8 wf_X8_areFigures_22 dX8_areFigures_38 rfl (in8 hX) rfl rfl ?_
                refine A_aload_n (q := 42) cx dX8_areFigures_41 rfl rfl rfl ?_
                refine gX8_15 (q := 45) cx wi_X8_areFigures_X8 wf_X8_areFigures_58 dX8_areFigures_42 rfl (in8 hX) rfl ?_
                refine A_iaload (q := 46) cx dX8_areFigures_45 rfl (in9 hX (by decide)) ha (by show _ < 200; omega) rfl ?_
                refine A_bipush (v := 48) (q := 48) cx dX8_areFigures_46 (by decide) rfl ?_
                refine A_bipush (v := 57) (q := 50) cx dX8_areFigures_48 (by decide) rfl ?_
                refine SI3 (q := 53) cx (ct_X8_within hE hX) (cwS 3 cx.1.2.2.2.2 gX8_areFigures_X8_within rfl rfl rfl (by decide +kernel) ⟨Nat.le_of_ble_eq_true rfl, Nat.le_of_ble_eq_true rfl⟩) dX8_areFigures_50 rfl (Nat.le_of_ble_eq_true rfl) ⟨Nat.zero_le _, Nat.zero_le _⟩ rfl ?_
                refine A_if_eq (tgt := 60) (q := 56) cx dX8_areFigures_53 (by decide) rfl (fun c_53 => ?_) (fun c_53 => ?_)
                · refine A_iconst (v := 0) (q := 61) cx dX8_areFigures_60 (by decide) rfl ?_
                  refine A_istore_n (lv' := [some _, some _, some _, some _]) (q := 62) cx dX8_areFigures_61 (Nat.le_of_ble_eq_true rfl) rfl rfl ?_
                  refine A_aload_n (q := 63) cx dX8_areFigures_62 rfl rfl rfl ?_
                  refine gX8_14 (q := 66) cx wi_X8_areFigures_X8 wf_X8_areFigures_34 dX8_areFigures_63 rfl (in8 hX) rfl rfl ?_
                  refine A_iload_n (q := 67) cx dX8_areFigures_66 rfl rfl ?_
                  refine A_iload_n (q := 68) cx dX8_areFigures_67 rfl rfl ?_
                  refine A_if_eq (tgt := 86) (q := 71) cx dX8_areFigures_68 (by decide) rfl (fun c_68 => ?_) (fun c_68 => ?_)
                  · refine A_iconst (v := 0) (q := 87) cx dX8_areFigures_86 (by decide) rfl ?_
                    refine A_iastore (q := 88) cx dX8_areFigures_87 rfl (in9 hX (by decide)) rfl (by show _ < 4; omega) rfl ?_
                    refine A_aload_n (q := 89) cx dX8_areFigures_88 rfl rfl rfl ?_
                    refine A_dup (q := 90) cx dX8_areFigures_89 rfl rfl ?_
                    refine gX8_15 (q := 93) cx wi_X8_areFigures_X8 wf_X8_areFigures_58 dX8_areFigures_90 rfl (in8 hX) rfl ?_
                    refine A_iload_n (q := 94) cx dX8_areFigures_93 rfl rfl ?_
                    refine A_if_eq (tgt := 101) (q := 97) cx dX8_areFigures_94 (by decide) rfl (fun c_94 => ?_) (fun c_94 => ?_)
                    · refine A_iconst (v := 0) (q := 102) cx dX8_areFigures_101 (by decide) rfl ?_
                      refine A_iadd (q := 103) cx dX8_areFigures_102 rfl ?_
                      refine pX8_15 (q := 106) cx wi_X8_areFigures_X8 wf_X8_areFigures_58 dX8_areFigures_103 rfl (in8 hX) rfl ?_
                      refine A_iinc (lv' := [some _, some _, some _, some _]) (q := 109) cx dX8_areFigures_106 rfl (nI_1 i) rfl rfl ?_
                      refine A_goto (q := 4) cx dX8_areFigures_109 (by decide) ?_
                      first | exact l0 (i + 1) _ (gfail (gOk_no1 (by rw [gA_0 h0]; exact hge)) hF).1 (by rw [(gfail (gOk_no1 (by rw [gA_0 h0]; exact hge)) hF).2, gS_0 h0]; exact (up2_z _ _ _).symm) | exact l0 (i + 1) _ (gfail (gOk_no2 (by rw [gA_0 h0]; exact c_53)) hF).1 (by rw [(gfail (gOk_no2 (by rw [gA_0 h0]; exact c_53)) hF).2, gS_0 h0]; exact (up2_z _ _ _).symm) | (have key := ih (i + 1) (gNx σ a T i) (gA a i + 1) (by omega) (TI_gNx hT9 (gOk_yes (Or.inl h0) (by rw [gA_0 h0]; exact hlt) (by rw [gA_0 h0]; exact c_53))) (gsucc (gOk_yes (Or.inl h0) (by rw [gA_0 h0]; exact hlt) (by rw [gA_0 h0]; exact c_53)) hF); unfold gNx at key; rw [gS_0 h0, gA_0 h0] at key; exact key) | exact l0 (i + 1) _ (gfail (gOk_no3 h0 hb) hF).1 (by rw [(gfail (gOk_no3 h0 hb) hF).2, gS_n h0 hb]; exact (up2_z _ _ _).symm) | exact l0 (i + 1) _ (gfail (gOk_no1 (by rw [gA_1 h0]; exact hge)) hF).1 (by rw [(gfail (gOk_no1 (by rw [gA_1 h0]; exact hge)) hF).2, gS_b h0 hb]; exact (up2_z _ _ _).symm) | exact l0 (i + 1) _ (gfail (gOk_no2 (by rw [gA_1 h0]; exact c_53)) hF).1 (by rw [(gfail (gOk_no2 (by rw [gA_1 h0]; exact c_53)) hF).2, gS_b h0 hb]; exact (up2_z _ _ _).symm) | (have key := ih (i + 1) (gNx σ a T i) (gA a i + 1) (by omega) (TI_gNx hT9 (gOk_yes (Or.inr hb) (by rw [gA_1 h0]; exact hlt) (by rw [gA_1 h0]; exact c_53))) (gsucc (gOk_yes (Or.inr hb) (by rw [gA_1 h0]; exact hlt) (by rw [gA_1 h0]; exact c_53)) hF); unfold gNx at key; rw [gS_b h0 hb, gA_1 h0] at key; exact key)
                    · exact absurd (by decide) c_94
                  · exact absurd (by decide) c_68
                · refine A_iconst (v := 1) (q := 57) cx dX8_areFigures_56 (by decide) rfl ?_
                  refine A_goto (q := 61) cx dX8_areFigures_57 (by decide) ?_
                  refine A_istore_n (lv' := [some _, some _, some _, some _]) (q := 62) cx dX8_areFigures_61 (Nat.le_of_ble_eq_true rfl) rfl rfl ?_
                  refine A_aload_n (q := 63) cx dX8_areFigures_62 rfl rfl rfl ?_
                  refine gX8_14 (q := 66) cx wi_X8_areFigures_X8 wf_X8_areFigures_34 dX8_areFigures_63 rfl (in8 hX) rfl rfl ?_
                  refine A_iload_n (q := 67) cx dX8_areFigures_66 rfl rfl ?_
                  refine A_iload_n (q := 68) cx dX8_areFigures_67 rfl rfl ?_
                  refine A_if_eq (tgt := 86) (q := 71) cx dX8_areFigures_68 (by decide) rfl (fun c_68 => ?_) (fun c_68 => ?_)
                  · exact absurd c_68 (by decide)
                  · refine A_aload_n (q := 72) cx dX8_areFigures_71 rfl rfl rfl ?_
                    refine gX8_8 (q := 75) cx wi_X8_areFigures_X8 wf_X8_areFigures_22 dX8_areFigures_72 rfl (in8 hX) rfl rfl ?_
                    refine A_aload_n (q := 76) cx dX8_areFigures_75 rfl rfl rfl ?_
                    refine gX8_15 (q := 79) cx wi_X8_areFigures_X8 wf_X8_areFigures_58 dX8_areFigures_76 rfl (in8 hX) rfl ?_
                    refine A_iaload (q := 80) cx dX8_areFigures_79 rfl (in9 hX (by decide)) ha (by show _ < 200; omega) rfl ?_
                    refine A_bipush (v := 48) (q := 82) cx dX8_areFigures_80 (by decide) rfl ?_
                    refine A_isub (q := 83) cx dX8_areFigures_82 rfl ?_
                    refine A_goto (q := 87) cx dX8_areFigures_83 (by decide) ?_
                    refine A_iastore (q := 88) cx dX8_areFigures_87 rfl (in9 hX (by decide)) rfl (by show _ < 4; omega) rfl ?_
                    refine A_aload_n (q := 89) cx dX8_areFigures_88 rfl rfl rfl ?_
                    refine A_dup (q := 90) cx dX8_areFigures_89 rfl rfl ?_
                    refine gX8_15 (q := 93) cx wi_X8_areFigures_X8 wf_X8_areFigures_58 dX8_areFigures_90 rfl (in8 hX) rfl ?_
                    refine A_iload_n (q := 94) cx dX8_areFigures_93 rfl rfl ?_
                    refine A_if_eq (tgt := 101) (q := 97) cx dX8_areFigures_94 (by decide) rfl (fun c_94 => ?_) (fun c_94 => ?_)
                    · exact absurd c_94 (by decide)
                    · refine A_iconst (v := 1) (q := 98) cx dX8_areFigures_97 (by decide) rfl ?_
                      refine A_goto (q := 102) cx dX8_areFigures_98 (by decide) ?_
                      refine A_iadd (q := 103) cx dX8_areFigures_102 rfl ?_
                      refine pX8_15 (q := 106) cx wi_X8_areFigures_X8 wf_X8_areFigures_58 dX8_areFigures_103 rfl (in8 hX) rfl ?_
                      refine A_iinc (lv' := [some _, some _, some _, some _]) (q := 109) cx dX8_areFigures_106 rfl (nI_1 i) rfl rfl ?_
                      refine A_goto (q := 4) cx dX8_areFigures_109 (by decide) ?_
                      first | exact l0 (i + 1) _ (gfail (gOk_no1 (by rw [gA_0 h0]; exact hge)) hF).1 (by rw [(gfail (gOk_no1 (by rw [gA_0 h0]; exact hge)) hF).2, gS_0 h0]; exact (up2_z _ _ _).symm) | exact l0 (i + 1) _ (gfail (gOk_no2 (by rw [gA_0 h0]; exact c_53)) hF).1 (by rw [(gfail (gOk_no2 (by rw [gA_0 h0]; exact c_53)) hF).2, gS_0 h0]; exact (up2_z _ _ _).symm) | (have key := ih (i + 1) (gNx σ a T i) (gA a i + 1) (by omega) (TI_gNx hT9 (gOk_yes (Or.inl h0) (by rw [gA_0 h0]; exact hlt) (by rw [gA_0 h0]; exact c_53))) (gsucc (gOk_yes (Or.inl h0) (by rw [gA_0 h0]; exact hlt) (by rw [gA_0 h0]; exact c_53)) hF); unfold gNx at key; rw [gS_0 h0, gA_0 h0] at key; exact key) | exact l0 (i + 1) _ (gfail (gOk_no3 h0 hb) hF).1 (by rw [(gfail (gOk_no3 h0 hb) hF).2, gS_n h0 hb]; exact (up2_z _ _ _).symm) | exact l0 (i + 1) _ (gfail (gOk_no1 (by rw [gA_1 h0]; exact hge)) hF).1 (by rw [(gfail (gOk_no1 (by rw [gA_1 h0]; exact hge)) hF).2, gS_b h0 hb]; exact (up2_z _ _ _).symm) | exact l0 (i + 1) _ (gfail (gOk_no2 (by rw [gA_1 h0]; exact c_53)) hF).1 (by rw [(gfail (gOk_no2 (by rw [gA_1 h0]; exact c_53)) hF).2, gS_b h0 hb]; exact (up2_z _ _ _).symm) | (have key := ih (i + 1) (gNx σ a T i) (gA a i + 1) (by omega) (TI_gNx hT9 (gOk_yes (Or.inr hb) (by rw [gA_1 h0]; exact hlt) (by rw [gA_1 h0]; exact c_53))) (gsucc (gOk_yes (Or.inr hb) (by rw [gA_1 h0]; exact hlt) (by rw [gA_1 h0]; exact c_53)) hF); unfold gNx at key; rw [gS_b h0 hb, gA_1 h0] at key; exact key)
  refine A_iconst (v := 1) (q := 1) cx dX8_areFigures_0 (by decide) rfl ?_
  refine A_istore_n (lv' := [some _, some _, some _, none]) (q := 2) cx dX8_areFigures_1 (Nat.le_of_ble_eq_true rfl) rfl rfl ?_
  refine A_iconst (v := 0) (q := 3) cx dX8_areFigures_2 (by decide) rfl ?_
  refine A_istore_n (lv' := [some _, some _, some _, some _]) (q := 4) cx dX8_areFigures_3 (Nat.le_of_ble_eq_true rfl) rfl rfl ?_
  exact l1 w 0 _ a0 (by omega) hT rfl
theorem wi_X8_isItem_X8 : ∀ w ∈ u_ws RX8 TX8 18, w ∈ wsX8_isItem := by decide +kernel
theorem wf_X8_isItem_31 : Cond.fieldLink RX8 31 (TX8 13).1 (TX8 13).2.1 (TX8 13).2.2.1 ∈ wsX8_isItem := by decide +kernel
theorem wf_X8_isItem_34 : Cond.fieldLink RX8 34 (TX8 14).1 (TX8 14).2.1 (TX8 14).2.2.1 ∈ wsX8_isItem := by decide +kernel
theorem wf_X8_isItem_28 : Cond.fieldLink RX8 28 (TX8 12).1 (TX8 12).2.1 (TX8 12).2.2.1 ∈ wsX8_isItem := by decide +kernel
theorem wf_X8_isItem_54 : Cond.fieldLink RX8 54 (TX8 10).1 (TX8 10).2.1 (TX8 10).2.2.1 ∈ wsX8_isItem := by decide +kernel
set_option maxHeartbeats 1000000 in
set_option maxRecDepth 100000 in
theorem ct_X8_isItem {la : Launch} {E : Ev} (hE : okE E) (hX : yin E) {σ0 : Sg} {a T N : Nat} (hT : TI σ0 a T N) : CI la yX8_isItem wsX8_isItem 2 45 E rh0 [.ref (ad E (8, 0, 0, 0))] σ0 (bI (gItem σ0 a T N).1) (gItem σ0 a T N).2.2 := by
  refine met_of (lv := [some _, none]) RX8 (by decide) rfl rfl rfl hE (ok1 rfl) (Nat.le_of_ble_eq_true rfl) (fun p ev s m args below meth c Q cx hlk hr hQ => ?_)
  have l1 : ∀ (d i : Nat) (σ : Sg), i + d = 3 → (gItem σ0 a T N).1 = true → mMo d i σ = (gItem σ0 a T N).2.2 → AW p la ev (rmm 2 45) s m args below meth c 0 0 Q (AL E) E rh0 135 [some (.ref (ad E (8, 0, 0, 0))), some (.int (nI i))] [] σ := by
    intro d
    induction d with
    | zero =>
      intro i σ hi h1 hF
      obtain rfl : i = 3 := by omega
      refine A_iload_n (q := 136) cx dX8_isItem_135 rfl rfl ?_
      refine A_iconst (v := 3) (q := 137) cx dX8_isItem_136 (by decide) rfl ?_
      refine A_icmp_ge (tgt := 158) (q := 140) cx dX8_isItem_137 (by decide) rfl (fun c_137 => ?_) (fun c_137 => ?_)
      · refine A_iconst (v := 1) (q := 159) cx dX8_isItem_158 (by decide) rfl ?_
        exact A_zret cx hlk hr hQ dX8_isItem_159 (by first | exact Or.inl rfl | exact Or.inr rfl | exact b01_or _ | assumption) (by rw [h1]; rfl) hF
      · exact absurd (by decide) c_137
    | succ d ih =>
      intro i σ hi h1 hF
      refine A_iload_n (q := 136) cx dX8_isItem_135 rfl rfl ?_
      refine A_iconst (v := 3) (q := 137) cx dX8_isItem_136 (by decide) rfl ?_
      refine A_icmp_ge (tgt := 158) (q := 140) cx dX8_isItem_137 (by decide) rfl (fun c_137 => ?_) (fun c_137 => ?_)
      · exact absurd c_137 (not_ge (i := i) (b := 3) (by omega) (by decide))
      · refine A_aload_n (q := 141) cx dX8_isItem_140 rfl rfl rfl ?_
        refine gX8_13 (q := 144) cx wi_X8_isItem_X8 wf_X8_isItem_31 dX8_isItem_141 rfl (in8 hX) rfl rfl ?_
        refine A_iload_n (q := 145) cx dX8_isItem_144 rfl rfl ?_
        refine A_aload_n (q := 146) cx dX8_isItem_145 rfl rfl rfl ?_
        refine gX8_14 (q := 149) cx wi_X8_isItem_X8 wf_X8_isItem_34 dX8_isItem_146 rfl (in8 hX) rfl rfl ?_
        refine A_iload_n (q := 150) cx dX8_isItem_149 rfl rfl ?_
        refine A_iaload (q := 151) cx dX8_isItem_150 rfl (in9 hX (by decide)) rfl (by show _ < 4; omega) rfl ?_
        refine A_iastore (q := 152) cx dX8_isItem_151 rfl (in9 hX (by decide)) rfl (by show _ < 3; omega) rfl ?_
        refine A_iinc (lv' := [some _, some _]) (q := 155) cx dX8_isItem_152 rfl (nI_1 i) rfl rfl ?_
        refine A_goto (q := 135) cx dX8_isItem_155 (by decide) ?_
        exact ih (i + 1) _ (by omega) h1 hF
  refine A_aload_n (q := 1) cx dX8_isItem_0 rfl rfl rfl ?_
  refine A_bipush (v := 108) (q := 3) cx dX8_isItem_1 (by decide) rfl ?_
  refine VI1 (q := 6) cx (ct_X8_passes hE hX hT) (cwV 1 cx.1.2.2.2.2 gX8_isItem_X8_passes rfl rfl rfl (by decide +kernel) ⟨Nat.le_of_ble_eq_true rfl, Nat.le_of_ble_eq_true rfl⟩) dX8_isItem_3 rfl rfl (in8 hX) rfl (Nat.le_of_ble_eq_true rfl) ⟨Nat.zero_le _, Nat.zero_le _⟩ rfl ?_
  refine A_if_eq (tgt := 58) (q := 9) cx dX8_isItem_6 (by decide) rfl (fun c_6 => ?_) (fun c_6 => ?_)
  · have hl : ¬ pB σ0 a T 108 = true := by rw [bI_0 c_6]; decide
    rw [if_neg hl]
    refine A_aload_n (q := 59) cx dX8_isItem_58 rfl rfl rfl ?_
    refine A_bipush (v := 120) (q := 61) cx dX8_isItem_59 (by decide) rfl ?_
    refine VI1 (q := 64) cx (ct_X8_passes hE hX hT) (cwV 1 cx.1.2.2.2.2 gX8_isItem_X8_passes rfl rfl rfl (by decide +kernel) ⟨Nat.le_of_ble_eq_true rfl, Nat.le_of_ble_eq_true rfl⟩) dX8_isItem_61 rfl rfl (in8 hX) rfl (Nat.le_of_ble_eq_true rfl) ⟨Nat.zero_le _, Nat.zero_le _⟩ rfl ?_
    refine A_if_eq (tgt := 99) (q := 67) cx dX8_isItem_64 (by decide) rfl (fun c_64 => ?_) (fun c_64 => ?_)
    · have hx : ¬ pB σ0 a T 120 = true := by rw [bI_0 c_64]; decide
      rw [if_neg hx]
      refine A_aload_n (q := 100) cx dX8_isItem_99 rfl rfl rfl ?_
      refine A_bipush (v := 109) (q := 102) cx dX8_isItem_100 (by decide) rfl ?_
      refine VI1 (q := 105) cx (ct_X8_passes hE hX hT) (cwV 1 cx.1.2.2.2.2 gX8_isItem_X8_passes rfl rfl rfl (by decide +kernel) ⟨Nat.le_of_ble_eq_true rfl, Nat.le_of_ble_eq_true rfl⟩) dX8_isItem_102 rfl rfl (in8 hX) rfl (Nat.le_of_ble_eq_true rfl) ⟨Nat.zero_le _, Nat.zero_le _⟩ rfl ?_
      refine A_if_eq (tgt := 131) (q := 108) cx dX8_isItem_105 (by decide) rfl (fun c_105 => ?_) (fun c_105 => ?_)
      · have hm : ¬ pB σ0 a T 109 = true := by rw [bI_0 c_105]; decide
        rw [if_neg hm]
        refine A_iconst (v := 0) (q := 132) cx dX8_isItem_131 (by decide) rfl ?_
        exact A_zret cx hlk hr hQ dX8_isItem_132 (by first | exact Or.inl rfl | exact Or.inr rfl | exact b01_or _ | assumption) (by unfold gItem; rw [if_neg hl, if_neg hx]; first | (first | (rw [if_neg hm]; done) | (rw [if_neg hm]; rfl)) | (rw [if_pos hm]; unfold gM; first | (first | (rw [if_neg hg]; done) | (rw [if_neg hg]; rfl)) | (first | (rw [if_pos hg, if_pos c_128]; done) | (rw [if_pos hg, if_pos c_128]; rfl)))) (by unfold gItem; rw [if_neg hl, if_neg hx]; first | (first | (rw [if_neg hm]; done) | (rw [if_neg hm]; rfl)) | (rw [if_pos hm]; unfold gM; first | (first | (rw [if_neg hg]; done) | (rw [if_neg hg]; rfl)) | (first | (rw [if_pos hg, if_pos c_128]; done) | (rw [if_pos hg, if_pos c_128]; rfl))))
      · have hm := bI_1 c_105
        rw [if_pos hm]
        have hTp := hT.pS (pB_lt hm)
        refine A_aload_n (q := 109) cx dX8_isItem_108 rfl rfl rfl ?_
        refine A_iconst (v := 3) (q := 110) cx dX8_isItem_109 (by decide) rfl ?_
        refine VI1 (q := 113) cx (ct_X8_areFigures (w := 3) hE hX hTp) (cwV 1 cx.1.2.2.2.2 gX8_isItem_X8_areFigures rfl rfl rfl (by decide +kernel) ⟨Nat.le_of_ble_eq_true rfl, Nat.le_of_ble_eq_true rfl⟩) dX8_isItem_110 rfl rfl (in8 hX) rfl (Nat.le_of_ble_eq_true rfl) ⟨Nat.zero_le _, Nat.zero_le _⟩ rfl ?_
        refine A_if_eq (tgt := 131) (q := 116) cx dX8_isItem_113 (by decide) rfl (fun c_113 => ?_) (fun c_113 => ?_)
        · have hg : ¬ (gFigs (pS σ0) (a + 1) T 3).1 = true := by rw [bI_0 c_113]; decide
          refine A_iconst (v := 0) (q := 132) cx dX8_isItem_131 (by decide) rfl ?_
          exact A_zret cx hlk hr hQ dX8_isItem_132 (by first | exact Or.inl rfl | exact Or.inr rfl | exact b01_or _ | assumption) (by unfold gItem; rw [if_neg hl, if_neg hx]; first | (first | (rw [if_neg hm]; done) | (rw [if_neg hm]; rfl)) | (rw [if_pos hm]; unfold gM; first | (first | (rw [if_neg hg]; done) | (rw [if_neg hg]; rfl)) | (first | (rw [if_pos hg, if_pos c_128]; done) | (rw [if_pos hg, if_pos c_128]; rfl)))) (by unfold gItem; rw [if_neg hl, if_neg hx]; first | (first | (rw [if_neg hm]; done) | (rw [if_neg hm]; rfl)) | (rw [if_pos hm]; unfold gM; first | (first | (rw [if_neg hg]; done) | (rw [if_neg hg]; rfl)) | (first | (rw [if_pos hg, if_pos c_128]; done) | (rw [if_pos hg, if_pos c_128]; rfl))))
        · have hg := bI_1 c_113
          refine A_aload_n (q := 117) cx dX8_isItem_116 rfl rfl rfl ?_
          refine gX8_14 (q := 120) cx wi_X8_isItem_X8 wf_X8_isItem_34 dX8_isItem_117 rfl (in8 hX) rfl rfl ?_
          refine A_iconst (v := 0) (q := 121) cx dX8_isItem_120 (by decide) rfl ?_
          refine A_iaload (q := 122) cx dX8_isItem_121 rfl (in9 hX (by decide)) (ixc 0) (by show _ < 4; omega) rfl ?_
          refine A_iconst (v := 1) (q := 123) cx dX8_isItem_122 (by decide) rfl ?_
          refine A_bipush (v := 6) (q := 125) cx dX8_isItem_123 (by decide) rfl ?_
          refine SI3 (q := 128) cx (ct_X8_within hE hX) (cwS 3 cx.1.2.2.2.2 gX8_isItem_X8_within rfl rfl rfl (by decide +kernel) ⟨Nat.le_of_ble_eq_true rfl, Nat.le_of_ble_eq_true rfl⟩) dX8_isItem_125 rfl (Nat.le_of_ble_eq_true rfl) ⟨Nat.zero_le _, Nat.zero_le _⟩ rfl ?_
          refine A_if_ne (tgt := 133) (q := 131) cx dX8_isItem_128 (by decide) rfl (fun c_128 => ?_) (fun c_128 => ?_)
          · refine A_iconst (v := 0) (q := 134) cx dX8_isItem_133 (by decide) rfl ?_
            refine A_istore_n (lv' := [some _, some _]) (q := 135) cx dX8_isItem_134 (Nat.le_of_ble_eq_true rfl) rfl rfl ?_
            exact l1 3 0 _ rfl (by unfold gItem; rw [if_neg hl, if_neg hx, if_pos hm]; unfold gM; rw [if_pos hg, if_neg c_128]) (by unfold gItem; rw [if_neg hl, if_neg hx, if_pos hm]; unfold gM; rw [if_pos hg, if_neg c_128])
          · refine A_iconst (v := 0) (q := 132) cx dX8_isItem_131 (by decide) rfl ?_
            exact A_zret cx hlk hr hQ dX8_isItem_132 (by first | exact Or.inl rfl | exact Or.inr rfl | exact b01_or _ | assumption) (by unfold gItem; rw [if_neg hl, if_neg hx]; first | (first | (rw [if_neg hm]; done) | (rw [if_neg hm]; rfl)) | (rw [if_pos hm]; unfold gM; first | (first | (rw [if_neg hg]; done) | (rw [if_neg hg]; rfl)) | (first | (rw [if_pos hg, if_pos c_128]; done) | (rw [if_pos hg, if_pos c_128]; rfl)))) (by unfold gItem; rw [if_neg hl, if_neg hx]; first | (first | (rw [if_neg hm]; done) | (rw [if_neg hm]; rfl)) | (rw [if_pos hm]; unfold gM; first | (first | (rw [if_neg hg]; done) | (rw [if_neg hg]; rfl)) | (first | (rw [if_pos hg, if_pos c_128]; done) | (rw [if_pos hg, if_pos c_128]; rfl))))
    · have hx := bI_1 c_64
      rw [if_pos hx]
      have hTp := hT.pS (pB_lt hx)
      refine A_aload_n (q := 68) cx dX8_isItem_67 rfl rfl rfl ?_
      refine A_iconst (v := 2) (q := 69) cx dX8_isItem_68 (by decide) rfl ?_
      refine VI1 (q := 72) cx (ct_X8_areFigures (w := 2) hE hX hTp) (cwV 1 cx.1.2.2.2.2 gX8_isItem_X8_areFigures rfl rfl rfl (by decide +kernel) ⟨Nat.le_of_ble_eq_true rfl, Nat.le_of_ble_eq_true rfl⟩) dX8_isItem_69 rfl rfl (in8 hX) rfl (Nat.le_of_ble_eq_true rfl) ⟨Nat.zero_le _, Nat.zero_le _⟩ rfl ?_
      refine A_istore_n (lv' := [some _, some _]) (q := 73) cx dX8_isItem_72 (Nat.le_of_ble_eq_true rfl) rfl rfl ?_
      refine A_aload_n (q := 74) cx dX8_isItem_73 rfl rfl rfl ?_
      refine gX8_12 (q := 77) cx wi_X8_isItem_X8 wf_X8_isItem_28 dX8_isItem_74 rfl (in8 hX) rfl rfl ?_
      refine A_iconst (v := 0) (q := 78) cx dX8_isItem_77 (by decide) rfl ?_
      refine A_aload_n (q := 79) cx dX8_isItem_78 rfl rfl rfl ?_
      refine gX8_14 (q := 82) cx wi_X8_isItem_X8 wf_X8_isItem_34 dX8_isItem_79 rfl (in8 hX) rfl rfl ?_
      refine A_iconst (v := 0) (q := 83) cx dX8_isItem_82 (by decide) rfl ?_
      refine A_iaload (q := 84) cx dX8_isItem_83 rfl (in9 hX (by decide)) (ixc 0) (by show _ < 4; omega) rfl ?_
      refine A_iastore (q := 85) cx dX8_isItem_84 rfl (in9 hX (by decide)) (ixc 0) (by show _ < 2; omega) rfl ?_
      refine A_aload_n (q := 86) cx dX8_isItem_85 rfl rfl rfl ?_
      refine gX8_12 (q := 89) cx wi_X8_isItem_X8 wf_X8_isItem_28 dX8_isItem_86 rfl (in8 hX) rfl rfl ?_
      refine A_iconst (v := 1) (q := 90) cx dX8_isItem_89 (by decide) rfl ?_
      refine A_aload_n (q := 91) cx dX8_isItem_90 rfl rfl rfl ?_
      refine gX8_14 (q := 94) cx wi_X8_isItem_X8 wf_X8_isItem_34 dX8_isItem_91 rfl (in8 hX) rfl rfl ?_
      refine A_iconst (v := 1) (q := 95) cx dX8_isItem_94 (by decide) rfl ?_
      refine A_iaload (q := 96) cx dX8_isItem_95 rfl (in9 hX (by decide)) (ixc 1) (by show _ < 4; omega) rfl ?_
      refine A_iastore (q := 97) cx dX8_isItem_96 rfl (in9 hX (by decide)) (ixc 1) (by show _ < 2; omega) rfl ?_
      refine A_iload_n (q := 98) cx dX8_isItem_97 rfl rfl ?_
      exact A_zret cx hlk hr hQ dX8_isItem_98 (bI_or _) (by unfold gItem; rw [if_neg hl, if_pos hx]; unfold gX; rfl) (by unfold gItem; rw [if_neg hl, if_pos hx]; unfold gX; rfl)
  · have hl := bI_1 c_6
    rw [if_pos hl]
    have hTp := hT.pS (pB_lt hl)
    refine A_aload_n (q := 10) cx dX8_isItem_9 rfl rfl rfl ?_
    refine gX8_10 (q := 13) cx wi_X8_isItem_X8 wf_X8_isItem_54 dX8_isItem_10 rfl (in8 hX) rfl ?_
    refine A_bipush (v := 6) (q := 15) cx dX8_isItem_13 (by decide) rfl ?_
    refine A_icmp_eq (tgt := 26) (q := 18) cx dX8_isItem_15 (by decide) rfl (fun c_15 => ?_) (fun c_15 => ?_)
    · have hN6 : N = 6 := (nI_eq (by have := hT.2.2.2.2.2; omega) (by decide)).mp (hTp.2.2.1.symm.trans c_15)
      refine A_iconst (v := 0) (q := 27) cx dX8_isItem_26 (by decide) rfl ?_
      exact A_zret cx hlk hr hQ dX8_isItem_27 (by first | exact Or.inl rfl | exact Or.inr rfl | exact b01_or _ | assumption) (by unfold gItem; rw [if_pos hl]; unfold gL; first | (first | (rw [if_pos hN6]; done) | (rw [if_pos hN6]; rfl)) | (first | (rw [if_neg hN6, if_neg hg]; done) | (rw [if_neg hN6, if_neg hg]; rfl))) (by unfold gItem; rw [if_pos hl]; unfold gL; first | (first | (rw [if_pos hN6]; done) | (rw [if_pos hN6]; rfl)) | (first | (rw [if_neg hN6, if_neg hg]; done) | (rw [if_neg hN6, if_neg hg]; rfl)))
    · have hN6 : N ≠ 6 := fun h => c_15 (hTp.2.2.1.trans (by rw [h]; rfl))
      refine A_aload_n (q := 19) cx dX8_isItem_18 rfl rfl rfl ?_
      refine A_iconst (v := 4) (q := 20) cx dX8_isItem_19 (by decide) rfl ?_
      refine VI1 (q := 23) cx (ct_X8_areFigures (w := 4) hE hX hTp) (cwV 1 cx.1.2.2.2.2 gX8_isItem_X8_areFigures rfl rfl rfl (by decide +kernel) ⟨Nat.le_of_ble_eq_true rfl, Nat.le_of_ble_eq_true rfl⟩) dX8_isItem_20 rfl rfl (in8 hX) rfl (Nat.le_of_ble_eq_true rfl) ⟨Nat.zero_le _, Nat.zero_le _⟩ rfl ?_
      refine A_if_ne (tgt := 28) (q := 26) cx dX8_isItem_23 (by decide) rfl (fun c_23 => ?_) (fun c_23 => ?_)
      · have hg := bI_1 c_23
        have hTg := TI_gFigs (m := 4) hTp
        refine A_aload_n (q := 29) cx dX8_isItem_28 rfl rfl rfl ?_
        refine A_aload_n (q := 30) cx dX8_isItem_29 rfl rfl rfl ?_
        refine gX8_14 (q := 33) cx wi_X8_isItem_X8 wf_X8_isItem_34 dX8_isItem_30 rfl (in8 hX) rfl rfl ?_
        refine A_iconst (v := 0) (q := 34) cx dX8_isItem_33 (by decide) rfl ?_
        refine A_iaload (q := 35) cx dX8_isItem_34 rfl (in9 hX (by decide)) (ixc 0) (by show _ < 4; omega) rfl ?_
        refine A_aload_n (q := 36) cx dX8_isItem_35 rfl rfl rfl ?_
        refine gX8_14 (q := 39) cx wi_X8_isItem_X8 wf_X8_isItem_34 dX8_isItem_36 rfl (in8 hX) rfl rfl ?_
        refine A_iconst (v := 1) (q := 40) cx dX8_isItem_39 (by decide) rfl ?_
        refine A_iaload (q := 41) cx dX8_isItem_40 rfl (in9 hX (by decide)) (ixc 1) (by show _ < 4; omega) rfl ?_
        refine A_aload_n (q := 42) cx dX8_isItem_41 rfl rfl rfl ?_
        refine gX8_14 (q := 45) cx wi_X8_isItem_X8 wf_X8_isItem_34 dX8_isItem_42 rfl (in8 hX) rfl rfl ?_
        refine A_iconst (v := 2) (q := 46) cx dX8_isItem_45 (by decide) rfl ?_
        refine A_iaload (q := 47) cx dX8_isItem_46 rfl (in9 hX (by decide)) (ixc 2) (by show _ < 4; omega) rfl ?_
        refine A_aload_n (q := 48) cx dX8_isItem_47 rfl rfl rfl ?_
        refine gX8_14 (q := 51) cx wi_X8_isItem_X8 wf_X8_isItem_34 dX8_isItem_48 rfl (in8 hX) rfl rfl ?_
        refine A_iconst (v := 3) (q := 52) cx dX8_isItem_51 (by decide) rfl ?_
        refine A_iaload (q := 53) cx dX8_isItem_52 rfl (in9 hX (by decide)) (ixc 3) (by show _ < 4; omega) rfl ?_
        refine VV4 (q := 56) cx (ct_X8_adds hE hX hTg.2.2.1 (by have := hTg.2.2.2.2.2; omega)) (cwV 4 cx.1.2.2.2.2 gX8_isItem_X8_adds rfl rfl rfl (by decide +kernel) ⟨Nat.le_of_ble_eq_true rfl, Nat.le_of_ble_eq_true rfl⟩) dX8_isItem_53 rfl rfl (in8 hX) rfl (Nat.le_of_ble_eq_true rfl) ⟨Nat.zero_le _, Nat.zero_le _⟩ rfl ?_
        refine A_iconst (v := 1) (q := 57) cx dX8_isItem_56 (by decide) rfl ?_
        exact A_zret cx hlk hr hQ dX8_isItem_57 (by first | exact Or.inl rfl | exact Or.inr rfl | exact b01_or _ | assumption) (by unfold gItem; rw [if_pos hl]; unfold gL; (first | (rw [if_neg hN6, if_pos hg]; done) | (rw [if_neg hN6, if_pos hg]; rfl))) (by unfold gItem; rw [if_pos hl]; unfold gL; (first | (rw [if_neg hN6, if_pos hg]; done) | (rw [if_neg hN6, if_pos hg]; rfl)))
      · have hg : ¬ (gFigs (pS σ0) (a + 1) T 4).1 = true := by rw [bI_0 c_23]; decide
        refine A_iconst (v := 0) (q := 27) cx dX8_isItem_26 (by decide) rfl ?_
        exact A_zret cx hlk hr hQ dX8_isItem_27 (by first | exact Or.inl rfl | exact Or.inr rfl | exact b01_or _ | assumption) (by unfold gItem; rw [if_pos hl]; unfold gL; first | (first | (rw [if_pos hN6]; done) | (rw [if_pos hN6]; rfl)) | (first | (rw [if_neg hN6, if_neg hg]; done) | (rw [if_neg hN6, if_neg hg]; rfl))) (by unfold gItem; rw [if_pos hl]; unfold gL; first | (first | (rw [if_pos hN6]; done) | (rw [if_pos hN6]; rfl)) | (first | (rw [if_neg hN6, if_neg hg]; done) | (rw [if_neg hN6, if_neg hg]; rfl)))
theorem wi_X8_faultAt_X8 : ∀ w ∈ u_ws RX8 TX8 18, w ∈ wsX8_faultAt := by decide +kernel
theorem wf_X8_faultAt_58 : Cond.fieldLink RX8 58 (TX8 15).1 (TX8 15).2.1 (TX8 15).2.2.1 ∈ wsX8_faultAt := by decide +kernel
theorem wf_X8_faultAt_61 : Cond.fieldLink RX8 61 (TX8 9).1 (TX8 9).2.1 (TX8 9).2.2.1 ∈ wsX8_faultAt := by decide +kernel
set_option maxHeartbeats 1000000 in
set_option maxRecDepth 100000 in
theorem ct_X8_faultAt {la : Launch} {E : Ev} (hE : okE E) (hX : yin E) {σ0 : Sg} {T : Nat} (hl : σ0 (8, 0, 0, 0) 9 = nI T) (hT2 : T ≤ 200) : CI la yX8_faultAt wsX8_faultAt 3 66 E rh0 [.ref (ad E (8, 0, 0, 0))] σ0 (gFault σ0 T).1 (gFault σ0 T).2 := by
  refine met_of (lv := [some _, none]) RX8 (by decide) rfl rfl rfl hE (ok1 rfl) (Nat.le_of_ble_eq_true rfl) (fun p ev s m args below meth c Q cx hlk hr hQ => ?_)
  have l1 : ∀ (d a N : Nat) (σ : Sg), TI σ a T N → T + 1 ≤ a + d → gFl T d a N σ = gFault σ0 T → AW p la ev (rmm 3 66) s m args below meth c 0 0 Q (AL E) E rh0 9 [some (.ref (ad E (8, 0, 0, 0))), none] [] σ := by
    intro d
    induction d with
    | zero => intro a N σ hT hd hF; have := hT.2.2.2.1; omega
    | succ d ih =>
      intro a N σ hT hd hF
      refine A_aload_n (q := 10) cx dX8_faultAt_9 rfl rfl rfl ?_
      refine gX8_15 (q := 13) cx wi_X8_faultAt_X8 wf_X8_faultAt_58 dX8_faultAt_10 rfl (in8 hX) rfl ?_
      refine A_aload_n (q := 14) cx dX8_faultAt_13 rfl rfl rfl ?_
      refine gX8_9 (q := 17) cx wi_X8_faultAt_X8 wf_X8_faultAt_61 dX8_faultAt_14 rfl (in8 hX) rfl ?_
      refine A_icmp_ge (tgt := 37) (q := 20) cx dX8_faultAt_17 (by decide) rfl (fun c_17 => ?_) (fun c_17 => ?_)
      · have hge : T ≤ a := by rw [hT.1, hT.2.1] at c_17; exact (nI_leI (by have := hT.2.2.2.2.1; omega) (by have := hT.2.2.2.1; have := hT.2.2.2.2.1; omega)).mp c_17
        refine A_bipush (v := -4) (q := 39) cx dX8_faultAt_37 (by decide) rfl ?_
        exact A_iret cx hlk hr hQ dX8_faultAt_39 (by rw [← hF, gFl, if_pos hge]) (by rw [← hF, gFl, if_pos hge])
      · have hlt : ¬ T ≤ a := fun h => c_17 (by rw [hT.1, hT.2.1]; exact nI_le h (by have := hT.2.2.2.1; have := hT.2.2.2.2.1; omega))
        refine A_aload_n (q := 21) cx dX8_faultAt_20 rfl rfl rfl ?_
        refine gX8_15 (q := 24) cx wi_X8_faultAt_X8 wf_X8_faultAt_58 dX8_faultAt_21 rfl (in8 hX) rfl ?_
        refine A_istore_n (lv' := [some _, some _]) (q := 25) cx dX8_faultAt_24 (Nat.le_of_ble_eq_true rfl) rfl rfl ?_
        refine A_aload_n (q := 26) cx dX8_faultAt_25 rfl rfl rfl ?_
        refine VI0 (q := 29) cx (ct_X8_isItem hE hX hT) (cwV 0 cx.1.2.2.2.2 gX8_faultAt_X8_isItem rfl rfl rfl (by decide +kernel) ⟨Nat.le_of_ble_eq_true rfl, Nat.le_of_ble_eq_true rfl⟩) dX8_faultAt_26 rfl rfl (in8 hX) rfl (Nat.le_of_ble_eq_true rfl) ⟨Nat.zero_le _, Nat.zero_le _⟩ rfl ?_
        refine A_if_ne (tgt := 34) (q := 32) cx dX8_faultAt_29 (by decide) rfl (fun c_29 => ?_) (fun c_29 => ?_)
        · have hi := bI_1 c_29
          refine A_goto (q := 9) cx dX8_faultAt_34 (by decide) ?_
          exact A_drop 1 rfl (ih _ _ _ (TI_gItem hT hi).1 (by have := (TI_gItem hT hi).2; omega) (by rw [← hF, gFl, if_neg hlt, if_pos hi]))
        · have hi : ¬ (gItem σ a T N).1 = true := by rw [bI_0 c_29]; decide
          refine A_iload_n (q := 33) cx dX8_faultAt_32 rfl rfl ?_
          exact A_iret cx hlk hr hQ dX8_faultAt_33 (by rw [← hF, gFl, if_neg hlt, if_neg hi]; first | exact hT.1 | rfl) (by rw [← hF, gFl, if_neg hlt, if_neg hi])
  refine A_aload_n (q := 1) cx dX8_faultAt_0 rfl rfl rfl ?_
  refine VV0 (q := 4) cx (ct_X8_clearsPlan hE hX) (cwV 0 cx.1.2.2.2.2 gX8_faultAt_X8_clearsPlan rfl rfl rfl (by decide +kernel) ⟨Nat.le_of_ble_eq_true rfl, Nat.le_of_ble_eq_true rfl⟩) dX8_faultAt_1 rfl rfl (in8 hX) rfl (Nat.le_of_ble_eq_true rfl) ⟨Nat.zero_le _, Nat.zero_le _⟩ rfl ?_
  refine A_aload_n (q := 5) cx dX8_faultAt_4 rfl rfl rfl ?_
  refine A_iconst (v := 0) (q := 6) cx dX8_faultAt_5 (by decide) rfl ?_
  refine pX8_15 (q := 9) cx wi_X8_faultAt_X8 wf_X8_faultAt_58 dX8_faultAt_6 rfl (in8 hX) rfl ?_
  exact l1 (T + 1) 0 0 _ ⟨by rw [up2_at]; rfl, hl, rfl, Nat.zero_le _, hT2, by decide⟩ (by omega) rfl
set_option maxHeartbeats 1000000 in
set_option maxRecDepth 100000 in
theorem ct_X8_fault {la : Launch} {E : Ev} (hE : okE E) (hX : yin E) {σ : Sg} {T : Nat} (hl : σ (8, 0, 0, 0) 9 = nI T) (hT2 : T ≤ 200) : CI la yX8_fault wsX8_fault 4 87 E rh0 [.ref (ad E (8, 0, 0, 0))] σ (gFault σ T).1 (gFault σ T).2 := by
  refine met_of (lv := [some _]) RX8 (by decide) rfl rfl rfl hE (ok1 rfl) (Nat.le_of_ble_eq_true rfl) (fun p ev s m args below meth c Q cx hlk hr hQ => ?_)
  refine A_aload_n (q := 1) cx dX8_fault_0 rfl rfl rfl ?_
  refine VI0 (q := 4) cx (ct_X8_faultAt hE hX hl hT2) (cwV 0 cx.1.2.2.2.2 gX8_fault_X8_faultAt rfl rfl rfl (by decide +kernel) ⟨Nat.le_of_ble_eq_true rfl, Nat.le_of_ble_eq_true rfl⟩) dX8_fault_1 rfl rfl (in8 hX) rfl (Nat.le_of_ble_eq_true rfl) ⟨Nat.zero_le _, Nat.zero_le _⟩ rfl ?_
  exact A_iret cx hlk hr hQ dX8_fault_4 rfl rfl
theorem wi_X8_write_X8 : ∀ w ∈ u_ws RX8 TX8 18, w ∈ wsX8_write := by decide +kernel
theorem wf_X8_write_61 : Cond.fieldLink RX8 61 (TX8 9).1 (TX8 9).2.1 (TX8 9).2.2.1 ∈ wsX8_write := by decide +kernel
theorem wf_X8_write_22 : Cond.fieldLink RX8 22 (TX8 8).1 (TX8 8).2.1 (TX8 8).2.2.1 ∈ wsX8_write := by decide +kernel
set_option maxHeartbeats 1000000 in
set_option maxRecDepth 100000 in
theorem ct_X8_write {la : Launch} {E : Ev} (hE : okE E) (hX : yin E) {σ : Sg} {T : Nat} {v : Int32} (hl : σ (8, 0, 0, 0) 9 = nI T) (hT2 : T ≤ 200) : CI la yX8_write wsX8_write 1 22 E rh0 [.ref (ad E (8, 0, 0, 0)), .int v] σ (mWrite σ T v).1 (mWrite σ T v).2 := by
  refine met_of (lv := [some _, some _]) RX8 (by decide) rfl rfl rfl hE (ok2 rfl rfl) (Nat.le_of_ble_eq_true rfl) (fun p ev s m args below meth c Q cx hlk hr hQ => ?_)
  refine A_iload_n (q := 1) cx dX8_write_0 rfl rfl ?_
  refine A_bipush (v := 32) (q := 3) cx dX8_write_1 (by decide) rfl ?_
  refine A_bipush (v := 126) (q := 5) cx dX8_write_3 (by decide) rfl ?_
  refine SI3 (q := 8) cx (ct_X8_within hE hX) (cwS 3 cx.1.2.2.2.2 gX8_write_X8_within rfl rfl rfl (by decide +kernel) ⟨Nat.le_of_ble_eq_true rfl, Nat.le_of_ble_eq_true rfl⟩) dX8_write_5 rfl (Nat.le_of_ble_eq_true rfl) ⟨Nat.zero_le _, Nat.zero_le _⟩ rfl ?_
  refine A_if_ne (tgt := 13) (q := 11) cx dX8_write_8 (by decide) rfl (fun c_8 => ?_) (fun c_8 => ?_)
  · refine A_aload_n (q := 14) cx dX8_write_13 rfl rfl rfl ?_
    refine gX8_9 (q := 17) cx wi_X8_write_X8 wf_X8_write_61 dX8_write_14 rfl (in8 hX) rfl ?_
    refine A_sipush (v := 200) (q := 20) cx dX8_write_17 (by decide) rfl ?_
    refine A_icmp_ne (tgt := 26) (q := 23) cx dX8_write_20 (by decide) rfl (fun c_20 => ?_) (fun c_20 => ?_)
    · have hT3 : T < 200 := by rcases Nat.lt_or_ge T 200 with q | q; exact q; exact absurd (by rw [hl, show T = 200 by omega]; rfl) c_20
      refine A_aload_n (q := 27) cx dX8_write_26 rfl rfl rfl ?_
      refine gX8_8 (q := 30) cx wi_X8_write_X8 wf_X8_write_22 dX8_write_27 rfl (in8 hX) rfl rfl ?_
      refine A_aload_n (q := 31) cx dX8_write_30 rfl rfl rfl ?_
      refine gX8_9 (q := 34) cx wi_X8_write_X8 wf_X8_write_61 dX8_write_31 rfl (in8 hX) rfl ?_
      refine A_iload_n (q := 35) cx dX8_write_34 rfl rfl ?_
      refine A_iastore (q := 36) cx dX8_write_35 rfl (in9 hX (by decide)) hl (by show _ < 200; omega) rfl ?_
      refine A_aload_n (q := 37) cx dX8_write_36 rfl rfl rfl ?_
      refine A_dup (q := 38) cx dX8_write_37 rfl rfl ?_
      refine gX8_9 (q := 41) cx wi_X8_write_X8 wf_X8_write_61 dX8_write_38 rfl (in8 hX) rfl ?_
      refine A_iconst (v := 1) (q := 42) cx dX8_write_41 (by decide) rfl ?_
      refine A_iadd (q := 43) cx dX8_write_42 rfl ?_
      refine pX8_9 (q := 46) cx wi_X8_write_X8 wf_X8_write_61 dX8_write_43 rfl (in8 hX) rfl ?_
      refine A_aload_n (q := 47) cx dX8_write_46 rfl rfl rfl ?_
      refine gX8_9 (q := 50) cx wi_X8_write_X8 wf_X8_write_61 dX8_write_47 rfl (in8 hX) rfl ?_
      exact A_iret cx hlk hr hQ dX8_write_50 (by unfold mWrite; first | (rw [if_neg c_8, if_neg c_20]; done) | (rw [if_neg c_8, if_neg c_20]; rfl)) (by unfold mWrite; first | (rw [if_neg c_8, if_neg c_20]; done) | (rw [if_neg c_8, if_neg c_20]; rfl))
    · refine A_bipush (v := -3) (q := 25) cx dX8_write_23 (by decide) rfl ?_
      exact A_iret cx hlk hr hQ dX8_write_25 (by unfold mWrite; first | (rw [if_neg c_8, if_pos c_20]; done) | (rw [if_neg c_8, if_pos c_20]; rfl)) (by unfold mWrite; first | (rw [if_neg c_8, if_pos c_20]; done) | (rw [if_neg c_8, if_pos c_20]; rfl))
  · refine A_iconst (v := -1) (q := 12) cx dX8_write_11 (by decide) rfl ?_
    exact A_iret cx hlk hr hQ dX8_write_12 (by unfold mWrite; first | (rw [if_pos c_8]; done) | (rw [if_pos c_8]; rfl)) (by unfold mWrite; first | (rw [if_pos c_8]; done) | (rw [if_pos c_8]; rfl))
theorem wi_X8_wipe_X8 : ∀ w ∈ u_ws RX8 TX8 18, w ∈ wsX8_wipe := by decide +kernel
theorem wf_X8_wipe_61 : Cond.fieldLink RX8 61 (TX8 9).1 (TX8 9).2.1 (TX8 9).2.2.1 ∈ wsX8_wipe := by decide +kernel
set_option maxHeartbeats 1000000 in
set_option maxRecDepth 100000 in
theorem ct_X8_wipe {la : Launch} {E : Ev} (hE : okE E) (hX : yin E) {σ : Sg}  : CI la yX8_wipe wsX8_wipe 0 0 E rh0 [.ref (ad E (8, 0, 0, 0))] σ (σ (8, 0, 0, 0) 9) (up2 σ (8, 0, 0, 0) 9 0) := by
  refine met_of (lv := [some _, none]) RX8 (by decide) rfl rfl rfl hE (ok1 rfl) (Nat.le_of_ble_eq_true rfl) (fun p ev s m args below meth c Q cx hlk hr hQ => ?_)
  refine A_aload_n (q := 1) cx dX8_wipe_0 rfl rfl rfl ?_
  refine gX8_9 (q := 4) cx wi_X8_wipe_X8 wf_X8_wipe_61 dX8_wipe_1 rfl (in8 hX) rfl ?_
  refine A_istore_n (lv' := [some _, some _]) (q := 5) cx dX8_wipe_4 (Nat.le_of_ble_eq_true rfl) rfl rfl ?_
  refine A_aload_n (q := 6) cx dX8_wipe_5 rfl rfl rfl ?_
  refine A_iconst (v := 0) (q := 7) cx dX8_wipe_6 (by decide) rfl ?_
  refine pX8_9 (q := 10) cx wi_X8_wipe_X8 wf_X8_wipe_61 dX8_wipe_7 rfl (in8 hX) rfl ?_
  refine A_iload_n (q := 11) cx dX8_wipe_10 rfl rfl ?_
  exact A_iret cx hlk hr hQ dX8_wipe_11 rfl rfl
theorem wi_X8_lays_X8 : ∀ w ∈ u_ws RX8 TX8 18, w ∈ wsX8_lays := by decide +kernel
theorem wf_X8_lays_7 : Cond.fieldLink RX8 7 (TX8 3).1 (TX8 3).2.1 (TX8 3).2.2.1 ∈ wsX8_lays := by decide +kernel
theorem wf_X8_lays_83 : Cond.fieldLink RX8 83 (TX8 0).1 (TX8 0).2.1 (TX8 0).2.2.1 ∈ wsX8_lays := by decide +kernel
theorem wf_X8_lays_19 : Cond.fieldLink RX8 19 (TX8 7).1 (TX8 7).2.1 (TX8 7).2.2.1 ∈ wsX8_lays := by decide +kernel
theorem wf_X8_lays_25 : Cond.fieldLink RX8 25 (TX8 11).1 (TX8 11).2.1 (TX8 11).2.2.1 ∈ wsX8_lays := by decide +kernel
theorem wf_X8_lays_96 : Cond.fieldLink RX8 96 (TX8 6).1 (TX8 6).2.1 (TX8 6).2.2.1 ∈ wsX8_lays := by decide +kernel
theorem wf_X8_lays_28 : Cond.fieldLink RX8 28 (TX8 12).1 (TX8 12).2.1 (TX8 12).2.2.1 ∈ wsX8_lays := by decide +kernel
theorem wf_X8_lays_31 : Cond.fieldLink RX8 31 (TX8 13).1 (TX8 13).2.1 (TX8 13).2.2.1 ∈ wsX8_lays := by decide +kernel
theorem wf_X8_lays_54 : Cond.fieldLink RX8 54 (TX8 10).1 (TX8 10).2.1 (TX8 10).2.2.1 ∈ wsX8_lays := by decide +kernel
theorem wf_X8_lays_86 : Cond.fieldLink RX8 86 (TX8 1).1 (TX8 1).2.1 (TX8 1).2.2.1 ∈ wsX8_lays := by decide +kernel
theorem wf_X8_lays_89 : Cond.fieldLink RX8 89 (TX8 2).1 (TX8 2).2.1 (TX8 2).2.2.1 ∈ wsX8_lays := by decide +kernel
set_option maxHeartbeats 1000000 in
set_option maxRecDepth 100000 in
theorem ct_X8_lays {la : Launch} {E : Ev} (hE : okE E) (hX : yin E) {σ0 : Sg}  : CV la yX8_lays wsX8_lays 1 21 E rh0 [.ref (ad E (8, 0, 0, 0))] σ0 (mLays σ0) := by
  refine met_of (lv := [some _, none, none, none]) RX8 (by decide) rfl rfl rfl hE (ok1 rfl) (Nat.le_of_ble_eq_true rfl) (fun p ev s m args below meth c Q cx hlk hr hQ => ?_)
  have l4 : ∀ (j : Nat), j < 6 → ∀ (σz : Sg), (AW p la ev (rmm 1 21) s m args below meth c 0 0 Q (AL E) E rh0 115 [some (.ref (ad E (8, 0, 0, 0))), some (.int (nI (j + 1))), none, none] [] σz) → ∀ (d i : Nat) (σ : Sg), i + d = 2 → mLe j d i σ = σz → AW p la ev (rmm 1 21) s m args below meth c 0 0 Q (AL E) E rh0 132 [some (.ref (ad E (8, 0, 0, 0))), some (.int (nI j)), some (.int (nI i)), none] [] σ := by
    intro j hj σz K d
    induction d with
    | zero =>
      intro i σ  hi hF
      obtain rfl : i = 2 := by omega
      refine A_iload_n (q := 133) cx dX8_lays_132 rfl rfl ?_
      refine A_iconst (v := 2) (q := 134) cx dX8_lays_133 (by decide) rfl ?_
      refine A_icmp_ge (tgt := 259) (q := 137) cx dX8_lays_134 (by decide) rfl (fun c_134 => ?_) (fun c_134 => ?_)
      · refine A_iinc (lv' := [some _, some _, some _, none]) (q := 262) cx dX8_lays_259 rfl (nI_1 j) rfl rfl ?_
        refine A_goto (q := 115) cx dX8_lays_262 (by decide) ?_
        exact A_drop 2 rfl (by rw [show σ = σz from hF]; exact K)
      · exact absurd (by decide) c_134
    | succ d ih =>
      intro i σ  hi hF
      refine A_iload_n (q := 133) cx dX8_lays_132 rfl rfl ?_
      refine A_iconst (v := 2) (q := 134) cx dX8_lays_133 (by decide) rfl ?_
      refine A_icmp_ge (tgt := 259) (q := 137) cx dX8_lays_134 (by decide) rfl (fun c_134 => ?_) (fun c_134 => ?_)
      · exact absurd c_134 (not_ge (i := i) (b := 2) (by omega) (by decide))
      · refine A_iload_n (q := 138) cx dX8_lays_137 rfl rfl ?_
        refine A_iload_n (q := 139) cx dX8_lays_138 rfl rfl ?_
        refine SI2 (q := 142) cx (ct_X8_place hE hX) (cwS 2 cx.1.2.2.2.2 gX8_lays_X8_place rfl rfl rfl (by decide +kernel) ⟨Nat.le_of_ble_eq_true rfl, Nat.le_of_ble_eq_true rfl⟩) dX8_lays_139 rfl (Nat.le_of_ble_eq_true rfl) ⟨Nat.zero_le _, Nat.zero_le _⟩ rfl ?_
        refine A_istore_n (lv' := [some _, some _, some _, some _]) (q := 143) cx dX8_lays_142 (Nat.le_of_ble_eq_true rfl) rfl rfl ?_
        refine A_aload_n (q := 144) cx dX8_lays_143 rfl rfl rfl ?_
        refine gX8_3 (q := 147) cx wi_X8_lays_X8 wf_X8_lays_7 dX8_lays_144 rfl (in8 hX) rfl rfl ?_
        refine A_iload_n (q := 148) cx dX8_lays_147 rfl rfl ?_
        refine A_iconst (v := 0) (q := 149) cx dX8_lays_148 (by decide) rfl ?_
        refine A_iadd (q := 150) cx dX8_lays_149 rfl ?_
        refine A_iload_n (q := 151) cx dX8_lays_150 rfl rfl ?_
        refine A_aload_n (q := 152) cx dX8_lays_151 rfl rfl rfl ?_
        refine gX8_0 (q := 155) cx wi_X8_lays_X8 wf_X8_lays_83 dX8_lays_152 rfl (in8 hX) rfl ?_
        refine A_icmp_ge (tgt := 173) (q := 158) cx dX8_lays_155 (by decide) rfl (fun c_155 => ?_) (fun c_155 => ?_)
        · refine A_iconst (v := 0) (q := 174) cx dX8_lays_173 (by decide) rfl ?_
          refine A_iastore (q := 175) cx dX8_lays_174 rfl (in9 hX (by decide)) (ixA rfl (ixc 0)) (by show _ < 235; first | omega | (simp only [pl]; omega)) rfl ?_
          refine A_aload_n (q := 176) cx dX8_lays_175 rfl rfl rfl ?_
          refine gX8_3 (q := 179) cx wi_X8_lays_X8 wf_X8_lays_7 dX8_lays_176 rfl (in8 hX) rfl rfl ?_
          refine A_iload_n (q := 180) cx dX8_lays_179 rfl rfl ?_
          refine A_iconst (v := 1) (q := 181) cx dX8_lays_180 (by decide) rfl ?_
          refine A_iadd (q := 182) cx dX8_lays_181 rfl ?_
          refine A_iload_n (q := 183) cx dX8_lays_182 rfl rfl ?_
          refine A_aload_n (q := 184) cx dX8_lays_183 rfl rfl rfl ?_
          refine gX8_0 (q := 187) cx wi_X8_lays_X8 wf_X8_lays_83 dX8_lays_184 rfl (in8 hX) rfl ?_
          refine A_icmp_ge (tgt := 207) (q := 190) cx dX8_lays_187 (by decide) rfl (fun c_187 => ?_) (fun c_187 => ?_)
          · refine A_iconst (v := 0) (q := 208) cx dX8_lays_207 (by decide) rfl ?_
            refine A_iastore (q := 209) cx dX8_lays_208 rfl (in9 hX (by decide)) (ixA rfl (ixc 1)) (by show _ < 235; first | omega | (simp only [pl]; omega)) rfl ?_
            refine A_aload_n (q := 210) cx dX8_lays_209 rfl rfl rfl ?_
            refine gX8_3 (q := 213) cx wi_X8_lays_X8 wf_X8_lays_7 dX8_lays_210 rfl (in8 hX) rfl rfl ?_
            refine A_iload_n (q := 214) cx dX8_lays_213 rfl rfl ?_
            refine A_bipush (v := 8) (q := 216) cx dX8_lays_214 (by decide) rfl ?_
            refine A_iadd (q := 217) cx dX8_lays_216 rfl ?_
            refine A_bipush (v := -4) (q := 219) cx dX8_lays_217 (by decide) rfl ?_
            refine A_iastore (q := 220) cx dX8_lays_219 rfl (in9 hX (by decide)) (ixA rfl (ixc 8)) (by show _ < 235; first | omega | (simp only [pl]; omega)) rfl ?_
            refine A_aload_n (q := 221) cx dX8_lays_220 rfl rfl rfl ?_
            refine gX8_3 (q := 224) cx wi_X8_lays_X8 wf_X8_lays_7 dX8_lays_221 rfl (in8 hX) rfl rfl ?_
            refine A_iload_n (q := 225) cx dX8_lays_224 rfl rfl ?_
            refine A_bipush (v := 13) (q := 227) cx dX8_lays_225 (by decide) rfl ?_
            refine A_iadd (q := 228) cx dX8_lays_227 rfl ?_
            refine A_bipush (v := -4) (q := 230) cx dX8_lays_228 (by decide) rfl ?_
            refine A_iastore (q := 231) cx dX8_lays_230 rfl (in9 hX (by decide)) (ixA rfl (ixc 13)) (by show _ < 235; first | omega | (simp only [pl]; omega)) rfl ?_
            refine A_aload_n (q := 232) cx dX8_lays_231 rfl rfl rfl ?_
            refine gX8_3 (q := 235) cx wi_X8_lays_X8 wf_X8_lays_7 dX8_lays_232 rfl (in8 hX) rfl rfl ?_
            refine A_iload_n (q := 236) cx dX8_lays_235 rfl rfl ?_
            refine A_bipush (v := 14) (q := 238) cx dX8_lays_236 (by decide) rfl ?_
            refine A_iadd (q := 239) cx dX8_lays_238 rfl ?_
            refine A_iconst (v := 1) (q := 240) cx dX8_lays_239 (by decide) rfl ?_
            refine A_iastore (q := 241) cx dX8_lays_240 rfl (in9 hX (by decide)) (ixA rfl (ixc 14)) (by show _ < 235; first | omega | (simp only [pl]; omega)) rfl ?_
            refine A_aload_n (q := 242) cx dX8_lays_241 rfl rfl rfl ?_
            refine gX8_7 (q := 245) cx wi_X8_lays_X8 wf_X8_lays_19 dX8_lays_242 rfl (in8 hX) rfl rfl ?_
            refine A_bipush (v := 6) (q := 247) cx dX8_lays_245 (by decide) rfl ?_
            refine A_iload_n (q := 248) cx dX8_lays_247 rfl rfl ?_
            refine A_imul (q := 249) cx dX8_lays_248 rfl ?_
            refine A_iload_n (q := 250) cx dX8_lays_249 rfl rfl ?_
            refine A_iadd (q := 251) cx dX8_lays_250 rfl ?_
            refine A_iconst (v := 0) (q := 252) cx dX8_lays_251 (by decide) rfl ?_
            refine A_iastore (q := 253) cx dX8_lays_252 rfl (in9 hX (by decide)) (ixA (ixM (ixc 6) rfl) rfl) (by show _ < 12; first | omega | (simp only [pl]; omega)) rfl ?_
            refine A_iinc (lv' := [some _, some _, some _, some _]) (q := 256) cx dX8_lays_253 rfl (nI_1 i) rfl rfl ?_
            refine A_goto (q := 132) cx dX8_lays_256 (by decide) ?_
            exact A_drop 3 rfl (ih (i + 1) _ (by omega) (by rw [← hF, mLe]; first | (simp only [mLb, mLb3, mLb2, mLb1, if_pos c_155, if_pos c_187]; done) | (simp only [mLb, mLb3, mLb2, mLb1, if_neg c_155, if_neg c_187]; done) | exact absurd c_155 c_187 | exact absurd c_187 c_155))
          · refine A_aload_n (q := 191) cx dX8_lays_190 rfl rfl rfl ?_
            refine gX8_11 (q := 194) cx wi_X8_lays_X8 wf_X8_lays_25 dX8_lays_191 rfl (in8 hX) rfl rfl ?_
            refine A_iconst (v := 4) (q := 195) cx dX8_lays_194 (by decide) rfl ?_
            refine A_iload_n (q := 196) cx dX8_lays_195 rfl rfl ?_
            refine A_imul (q := 197) cx dX8_lays_196 rfl ?_
            refine A_iconst (v := 2) (q := 198) cx dX8_lays_197 (by decide) rfl ?_
            refine A_iload_n (q := 199) cx dX8_lays_198 rfl rfl ?_
            refine A_imul (q := 200) cx dX8_lays_199 rfl ?_
            refine A_iadd (q := 201) cx dX8_lays_200 rfl ?_
            refine A_iconst (v := 1) (q := 202) cx dX8_lays_201 (by decide) rfl ?_
            refine A_iadd (q := 203) cx dX8_lays_202 rfl ?_
            refine A_iaload (q := 204) cx dX8_lays_203 rfl (in9 hX (by decide)) (ixA (ixA (ixM (ixc 4) rfl) (ixM (ixc 2) rfl)) (ixc 1)) (by show _ < 24; first | omega | (simp only [pl]; omega)) rfl ?_
            refine A_goto (q := 208) cx dX8_lays_204 (by decide) ?_
            refine A_iastore (q := 209) cx dX8_lays_208 rfl (in9 hX (by decide)) (ixA rfl (ixc 1)) (by show _ < 235; first | omega | (simp only [pl]; omega)) rfl ?_
            refine A_aload_n (q := 210) cx dX8_lays_209 rfl rfl rfl ?_
            refine gX8_3 (q := 213) cx wi_X8_lays_X8 wf_X8_lays_7 dX8_lays_210 rfl (in8 hX) rfl rfl ?_
            refine A_iload_n (q := 214) cx dX8_lays_213 rfl rfl ?_
            refine A_bipush (v := 8) (q := 216) cx dX8_lays_214 (by decide) rfl ?_
            refine A_iadd (q := 217) cx dX8_lays_216 rfl ?_
            refine A_bipush (v := -4) (q := 219) cx dX8_lays_217 (by decide) rfl ?_
            refine A_iastore (q := 220) cx dX8_lays_219 rfl (in9 hX (by decide)) (ixA rfl (ixc 8)) (by show _ < 235; first | omega | (simp only [pl]; omega)) rfl ?_
            refine A_aload_n (q := 221) cx dX8_lays_220 rfl rfl rfl ?_
            refine gX8_3 (q := 224) cx wi_X8_lays_X8 wf_X8_lays_7 dX8_lays_221 rfl (in8 hX) rfl rfl ?_
            refine A_iload_n (q := 225) cx dX8_lays_224 rfl rfl ?_
            refine A_bipush (v := 13) (q := 227) cx dX8_lays_225 (by decide) rfl ?_
            refine A_iadd (q := 228) cx dX8_lays_227 rfl ?_
            refine A_bipush (v := -4) (q := 230) cx dX8_lays_228 (by decide) rfl ?_
            refine A_iastore (q := 231) cx dX8_lays_230 rfl (in9 hX (by decide)) (ixA rfl (ixc 13)) (by show _ < 235; first | omega | (simp only [pl]; omega)) rfl ?_
            refine A_aload_n (q := 232) cx dX8_lays_231 rfl rfl rfl ?_
            refine gX8_3 (q := 235) cx wi_X8_lays_X8 wf_X8_lays_7 dX8_lays_232 rfl (in8 hX) rfl rfl ?_
            refine A_iload_n (q := 236) cx dX8_lays_235 rfl rfl ?_
            refine A_bipush (v := 14) (q := 238) cx dX8_lays_236 (by decide) rfl ?_
            refine A_iadd (q := 239) cx dX8_lays_238 rfl ?_
            refine A_iconst (v := 1) (q := 240) cx dX8_lays_239 (by decide) rfl ?_
            refine A_iastore (q := 241) cx dX8_lays_240 rfl (in9 hX (by decide)) (ixA rfl (ixc 14)) (by show _ < 235; first | omega | (simp only [pl]; omega)) rfl ?_
            refine A_aload_n (q := 242) cx dX8_lays_241 rfl rfl rfl ?_
            refine gX8_7 (q := 245) cx wi_X8_lays_X8 wf_X8_lays_19 dX8_lays_242 rfl (in8 hX) rfl rfl ?_
            refine A_bipush (v := 6) (q := 247) cx dX8_lays_245 (by decide) rfl ?_
            refine A_iload_n (q := 248) cx dX8_lays_247 rfl rfl ?_
            refine A_imul (q := 249) cx dX8_lays_248 rfl ?_
            refine A_iload_n (q := 250) cx dX8_lays_249 rfl rfl ?_
            refine A_iadd (q := 251) cx dX8_lays_250 rfl ?_
            refine A_iconst (v := 0) (q := 252) cx dX8_lays_251 (by decide) rfl ?_
            refine A_iastore (q := 253) cx dX8_lays_252 rfl (in9 hX (by decide)) (ixA (ixM (ixc 6) rfl) rfl) (by show _ < 12; first | omega | (simp only [pl]; omega)) rfl ?_
            refine A_iinc (lv' := [some _, some _, some _, some _]) (q := 256) cx dX8_lays_253 rfl (nI_1 i) rfl rfl ?_
            refine A_goto (q := 132) cx dX8_lays_256 (by decide) ?_
            exact A_drop 3 rfl (ih (i + 1) _ (by omega) (by rw [← hF, mLe]; first | (simp only [mLb, mLb3, mLb2, mLb1, if_pos c_155, if_pos c_187]; done) | (simp only [mLb, mLb3, mLb2, mLb1, if_neg c_155, if_neg c_187]; done) | exact absurd c_155 c_187 | exact absurd c_187 c_155))
        · refine A_aload_n (q := 159) cx dX8_lays_158 rfl rfl rfl ?_
          refine gX8_11 (q := 162) cx wi_X8_lays_X8 wf_X8_lays_25 dX8_lays_159 rfl (in8 hX) rfl rfl ?_
          refine A_iconst (v := 4) (q := 163) cx dX8_lays_162 (by decide) rfl ?_
          refine A_iload_n (q := 164) cx dX8_lays_163 rfl rfl ?_
          refine A_imul (q := 165) cx dX8_lays_164 rfl ?_
          refine A_iconst (v := 2) (q := 166) cx dX8_lays_165 (by decide) rfl ?_
          refine A_iload_n (q := 167) cx dX8_lays_166 rfl rfl ?_
          refine A_imul (q := 168) cx dX8_lays_167 rfl ?_
          refine A_iadd (q := 169) cx dX8_lays_168 rfl ?_
          refine A_iaload (q := 170) cx dX8_lays_169 rfl (in9 hX (by decide)) (ixA (ixM (ixc 4) rfl) (ixM (ixc 2) rfl)) (by show _ < 24; first | omega | (simp only [pl]; omega)) rfl ?_
          refine A_goto (q := 174) cx dX8_lays_170 (by decide) ?_
          refine A_iastore (q := 175) cx dX8_lays_174 rfl (in9 hX (by decide)) (ixA rfl (ixc 0)) (by show _ < 235; first | omega | (simp only [pl]; omega)) rfl ?_
          refine A_aload_n (q := 176) cx dX8_lays_175 rfl rfl rfl ?_
          refine gX8_3 (q := 179) cx wi_X8_lays_X8 wf_X8_lays_7 dX8_lays_176 rfl (in8 hX) rfl rfl ?_
          refine A_iload_n (q := 180) cx dX8_lays_179 rfl rfl ?_
          refine A_iconst (v := 1) (q := 181) cx dX8_lays_180 (by decide) rfl ?_
          refine A_iadd (q := 182) cx dX8_lays_181 rfl ?_
          refine A_iload_n (q := 183) cx dX8_lays_182 rfl rfl ?_
          refine A_aload_n (q := 184) cx dX8_lays_183 rfl rfl rfl ?_
          refine gX8_0 (q := 187) cx wi_X8_lays_X8 wf_X8_lays_83 dX8_lays_184 rfl (in8 hX) rfl ?_
          refine A_icmp_ge (tgt := 207) (q := 190) cx dX8_lays_187 (by decide) rfl (fun c_187 => ?_) (fun c_187 => ?_)
          · refine A_iconst (v := 0) (q := 208) cx dX8_lays_207 (by decide) rfl ?_
            refine A_iastore (q := 209) cx dX8_lays_208 rfl (in9 hX (by decide)) (ixA rfl (ixc 1)) (by show _ < 235; first | omega | (simp only [pl]; omega)) rfl ?_
            refine A_aload_n (q := 210) cx dX8_lays_209 rfl rfl rfl ?_
            refine gX8_3 (q := 213) cx wi_X8_lays_X8 wf_X8_lays_7 dX8_lays_210 rfl (in8 hX) rfl rfl ?_
            refine A_iload_n (q := 214) cx dX8_lays_213 rfl rfl ?_
            refine A_bipush (v := 8) (q := 216) cx dX8_lays_214 (by decide) rfl ?_
            refine A_iadd (q := 217) cx dX8_lays_216 rfl ?_
            refine A_bipush (v := -4) (q := 219) cx dX8_lays_217 (by decide) rfl ?_
            refine A_iastore (q := 220) cx dX8_lays_219 rfl (in9 hX (by decide)) (ixA rfl (ixc 8)) (by show _ < 235; first | omega | (simp only [pl]; omega)) rfl ?_
            refine A_aload_n (q := 221) cx dX8_lays_220 rfl rfl rfl ?_
            refine gX8_3 (q := 224) cx wi_X8_lays_X8 wf_X8_lays_7 dX8_lays_221 rfl (in8 hX) rfl rfl ?_
            refine A_iload_n (q := 225) cx dX8_lays_224 rfl rfl ?_
            refine A_bipush (v := 13) (q := 227) cx dX8_lays_225 (by decide) rfl ?_
            refine A_iadd (q := 228) cx dX8_lays_227 rfl ?_
            refine A_bipush (v := -4) (q := 230) cx dX8_lays_228 (by decide) rfl ?_
            refine A_iastore (q := 231) cx dX8_lays_230 rfl (in9 hX (by decide)) (ixA rfl (ixc 13)) (by show _ < 235; first | omega | (simp only [pl]; omega)) rfl ?_
            refine A_aload_n (q := 232) cx dX8_lays_231 rfl rfl rfl ?_
            refine gX8_3 (q := 235) cx wi_X8_lays_X8 wf_X8_lays_7 dX8_lays_232 rfl (in8 hX) rfl rfl ?_
            refine A_iload_n (q := 236) cx dX8_lays_235 rfl rfl ?_
            refine A_bipush (v := 14) (q := 238) cx dX8_lays_236 (by decide) rfl ?_
            refine A_iadd (q := 239) cx dX8_lays_238 rfl ?_
            refine A_iconst (v := 1) (q := 240) cx dX8_lays_239 (by decide) rfl ?_
            refine A_iastore (q := 241) cx dX8_lays_240 rfl (in9 hX (by decide)) (ixA rfl (ixc 14)) (by show _ < 235; first | omega | (simp only [pl]; omega)) rfl ?_
            refine A_aload_n (q := 242) cx dX8_lays_241 rfl rfl rfl ?_
            refine gX8_7 (q := 245) cx wi_X8_lays_X8 wf_X8_lays_19 dX8_lays_242 rfl (in8 hX) rfl rfl ?_
            refine A_bipush (v := 6) (q := 247) cx dX8_lays_245 (by decide) rfl ?_
            refine A_iload_n (q := 248) cx dX8_lays_247 rfl rfl ?_
            refine A_imul (q := 249) cx dX8_lays_248 rfl ?_
            refine A_iload_n (q := 250) cx dX8_lays_249 rfl rfl ?_
            refine A_iadd (q := 251) cx dX8_lays_250 rfl ?_
            refine A_iconst (v := 0) (q := 252) cx dX8_lays_251 (by decide) rfl ?_
            refine A_iastore (q := 253) cx dX8_lays_252 rfl (in9 hX (by decide)) (ixA (ixM (ixc 6) rfl) rfl) (by show _ < 12; first | omega | (simp only [pl]; omega)) rfl ?_
            refine A_iinc (lv' := [some _, some _, some _, some _]) (q := 256) cx dX8_lays_253 rfl (nI_1 i) rfl rfl ?_
            refine A_goto (q := 132) cx dX8_lays_256 (by decide) ?_
            exact A_drop 3 rfl (ih (i + 1) _ (by omega) (by rw [← hF, mLe]; first | (simp only [mLb, mLb3, mLb2, mLb1, if_pos c_155, if_pos c_187]; done) | (simp only [mLb, mLb3, mLb2, mLb1, if_neg c_155, if_neg c_187]; done) | exact absurd c_155 c_187 | exact absurd c_187 c_155))
          · refine A_aload_n (q := 191) cx dX8_lays_190 rfl rfl rfl ?_
            refine gX8_11 (q := 194) cx wi_X8_lays_X8 wf_X8_lays_25 dX8_lays_191 rfl (in8 hX) rfl rfl ?_
            refine A_iconst (v := 4) (q := 195) cx dX8_lays_194 (by decide) rfl ?_
            refine A_iload_n (q := 196) cx dX8_lays_195 rfl rfl ?_
            refine A_imul (q := 197) cx dX8_lays_196 rfl ?_
            refine A_iconst (v := 2) (q := 198) cx dX8_lays_197 (by decide) rfl ?_
            refine A_iload_n (q := 199) cx dX8_lays_198 rfl rfl ?_
            refine A_imul (q := 200) cx dX8_lays_199 rfl ?_
            refine A_iadd (q := 201) cx dX8_lays_200 rfl ?_
            refine A_iconst (v := 1) (q := 202) cx dX8_lays_201 (by decide) rfl ?_
            refine A_iadd (q := 203) cx dX8_lays_202 rfl ?_
            refine A_iaload (q := 204) cx dX8_lays_203 rfl (in9 hX (by decide)) (ixA (ixA (ixM (ixc 4) rfl) (ixM (ixc 2) rfl)) (ixc 1)) (by show _ < 24; first | omega | (simp only [pl]; omega)) rfl ?_
            refine A_goto (q := 208) cx dX8_lays_204 (by decide) ?_
            refine A_iastore (q := 209) cx dX8_lays_208 rfl (in9 hX (by decide)) (ixA rfl (ixc 1)) (by show _ < 235; first | omega | (simp only [pl]; omega)) rfl ?_
            refine A_aload_n (q := 210) cx dX8_lays_209 rfl rfl rfl ?_
            refine gX8_3 (q := 213) cx wi_X8_lays_X8 wf_X8_lays_7 dX8_lays_210 rfl (in8 hX) rfl rfl ?_
            refine A_iload_n (q := 214) cx dX8_lays_213 rfl rfl ?_
            refine A_bipush (v := 8) (q := 216) cx dX8_lays_214 (by decide) rfl ?_
            refine A_iadd (q := 217) cx dX8_lays_216 rfl ?_
            refine A_bipush (v := -4) (q := 219) cx dX8_lays_217 (by decide) rfl ?_
            refine A_iastore (q := 220) cx dX8_lays_219 rfl (in9 hX (by decide)) (ixA rfl (ixc 8)) (by show _ < 235; first | omega | (simp only [pl]; omega)) rfl ?_
            refine A_aload_n (q := 221) cx dX8_lays_220 rfl rfl rfl ?_
            refine gX8_3 (q := 224) cx wi_X8_lays_X8 wf_X8_lays_7 dX8_lays_221 rfl (in8 hX) rfl rfl ?_
            refine A_iload_n (q := 225) cx dX8_lays_224 rfl rfl ?_
            refine A_bipush (v := 13) (q := 227) cx dX8_lays_225 (by decide) rfl ?_
            refine A_iadd (q := 228) cx dX8_lays_227 rfl ?_
            refine A_bipush (v := -4) (q := 230) cx dX8_lays_228 (by decide) rfl ?_
            refine A_iastore (q := 231) cx dX8_lays_230 rfl (in9 hX (by decide)) (ixA rfl (ixc 13)) (by show _ < 235; first | omega | (simp only [pl]; omega)) rfl ?_
            refine A_aload_n (q := 232) cx dX8_lays_231 rfl rfl rfl ?_
            refine gX8_3 (q := 235) cx wi_X8_lays_X8 wf_X8_lays_7 dX8_lays_232 rfl (in8 hX) rfl rfl ?_
            refine A_iload_n (q := 236) cx dX8_lays_235 rfl rfl ?_
            refine A_bipush (v := 14) (q := 238) cx dX8_lays_236 (by decide) rfl ?_
            refine A_iadd (q := 239) cx dX8_lays_238 rfl ?_
            refine A_iconst (v := 1) (q := 240) cx dX8_lays_239 (by decide) rfl ?_
            refine A_iastore (q := 241) cx dX8_lays_240 rfl (in9 hX (by decide)) (ixA rfl (ixc 14)) (by show _ < 235; first | omega | (simp only [pl]; omega)) rfl ?_
            refine A_aload_n (q := 242) cx dX8_lays_241 rfl rfl rfl ?_
            refine gX8_7 (q := 245) cx wi_X8_lays_X8 wf_X8_lays_19 dX8_lays_242 rfl (in8 hX) rfl rfl ?_
            refine A_bipush (v := 6) (q := 247) cx dX8_lays_245 (by decide) rfl ?_
            refine A_iload_n (q := 248) cx dX8_lays_247 rfl rfl ?_
            refine A_imul (q := 249) cx dX8_lays_248 rfl ?_
            refine A_iload_n (q := 250) cx dX8_lays_249 rfl rfl ?_
            refine A_iadd (q := 251) cx dX8_lays_250 rfl ?_
            refine A_iconst (v := 0) (q := 252) cx dX8_lays_251 (by decide) rfl ?_
            refine A_iastore (q := 253) cx dX8_lays_252 rfl (in9 hX (by decide)) (ixA (ixM (ixc 6) rfl) rfl) (by show _ < 12; first | omega | (simp only [pl]; omega)) rfl ?_
            refine A_iinc (lv' := [some _, some _, some _, some _]) (q := 256) cx dX8_lays_253 rfl (nI_1 i) rfl rfl ?_
            refine A_goto (q := 132) cx dX8_lays_256 (by decide) ?_
            exact A_drop 3 rfl (ih (i + 1) _ (by omega) (by rw [← hF, mLe]; first | (simp only [mLb, mLb3, mLb2, mLb1, if_pos c_155, if_pos c_187]; done) | (simp only [mLb, mLb3, mLb2, mLb1, if_neg c_155, if_neg c_187]; done) | exact absurd c_155 c_187 | exact absurd c_187 c_155))
  have l3 : ∀ (d i : Nat) (σ : Sg), i + d = 6 → up2 (mLl d i σ) (8, 0, 0, 0) 6 0 = mLays σ0 → AW p la ev (rmm 1 21) s m args below meth c 0 0 Q (AL E) E rh0 115 [some (.ref (ad E (8, 0, 0, 0))), some (.int (nI i)), none, none] [] σ := by
    intro d
    induction d with
    | zero =>
      intro i σ  hi hF
      obtain rfl : i = 6 := by omega
      refine A_iload_n (q := 116) cx dX8_lays_115 rfl rfl ?_
      refine A_bipush (v := 6) (q := 118) cx dX8_lays_116 (by decide) rfl ?_
      refine A_icmp_ge (tgt := 265) (q := 121) cx dX8_lays_118 (by decide) rfl (fun c_118 => ?_) (fun c_118 => ?_)
      · refine A_aload_n (q := 266) cx dX8_lays_265 rfl rfl rfl ?_
        refine A_iconst (v := 0) (q := 267) cx dX8_lays_266 (by decide) rfl ?_
        refine pX8_6 (q := 270) cx wi_X8_lays_X8 wf_X8_lays_96 dX8_lays_267 rfl (in8 hX) rfl ?_
        exact A_vret cx hlk hr hQ dX8_lays_270 hF
      · exact absurd (by decide) c_118
    | succ d ih =>
      intro i σ  hi hF
      refine A_iload_n (q := 116) cx dX8_lays_115 rfl rfl ?_
      refine A_bipush (v := 6) (q := 118) cx dX8_lays_116 (by decide) rfl ?_
      refine A_icmp_ge (tgt := 265) (q := 121) cx dX8_lays_118 (by decide) rfl (fun c_118 => ?_) (fun c_118 => ?_)
      · exact absurd c_118 (not_ge (i := i) (b := 6) (by omega) (by decide))
      · refine A_aload_n (q := 122) cx dX8_lays_121 rfl rfl rfl ?_
        refine gX8_3 (q := 125) cx wi_X8_lays_X8 wf_X8_lays_7 dX8_lays_122 rfl (in8 hX) rfl rfl ?_
        refine A_iconst (v := 4) (q := 126) cx dX8_lays_125 (by decide) rfl ?_
        refine A_iload_n (q := 127) cx dX8_lays_126 rfl rfl ?_
        refine A_iadd (q := 128) cx dX8_lays_127 rfl ?_
        refine A_iconst (v := 1) (q := 129) cx dX8_lays_128 (by decide) rfl ?_
        refine A_iastore (q := 130) cx dX8_lays_129 rfl (in9 hX (by decide)) (ixA (ixc 4) rfl) (by show _ < 235; first | omega | (simp only [pl]; omega)) rfl ?_
        refine A_iconst (v := 0) (q := 131) cx dX8_lays_130 (by decide) rfl ?_
        refine A_istore_n (lv' := [some _, some _, some _, none]) (q := 132) cx dX8_lays_131 (Nat.le_of_ble_eq_true rfl) rfl rfl ?_
        exact l4 i (by omega) _ (ih (i + 1) _ (by omega) hF) 2 0 _ rfl rfl
  have l2 : ∀ (d i : Nat) (σ : Sg), i + d = 16 → up2 (mLl 6 0 (mLf d i σ)) (8, 0, 0, 0) 6 0 = mLays σ0 → AW p la ev (rmm 1 21) s m args below meth c 0 0 Q (AL E) E rh0 88 [some (.ref (ad E (8, 0, 0, 0))), some (.int (nI i)), none, none] [] σ := by
    intro d
    induction d with
    | zero =>
      intro i σ  hi hF
      obtain rfl : i = 16 := by omega
      refine A_iload_n (q := 89) cx dX8_lays_88 rfl rfl ?_
      refine A_bipush (v := 16) (q := 91) cx dX8_lays_89 (by decide) rfl ?_
      refine A_icmp_ge (tgt := 113) (q := 94) cx dX8_lays_91 (by decide) rfl (fun c_91 => ?_) (fun c_91 => ?_)
      · refine A_iconst (v := 0) (q := 114) cx dX8_lays_113 (by decide) rfl ?_
        refine A_istore_n (lv' := [some _, some _, none, none]) (q := 115) cx dX8_lays_114 (Nat.le_of_ble_eq_true rfl) rfl rfl ?_
        exact l3 6 0 _ rfl hF
      · exact absurd (by decide) c_91
    | succ d ih =>
      intro i σ  hi hF
      refine A_iload_n (q := 89) cx dX8_lays_88 rfl rfl ?_
      refine A_bipush (v := 16) (q := 91) cx dX8_lays_89 (by decide) rfl ?_
      refine A_icmp_ge (tgt := 113) (q := 94) cx dX8_lays_91 (by decide) rfl (fun c_91 => ?_) (fun c_91 => ?_)
      · exact absurd c_91 (not_ge (i := i) (b := 16) (by omega) (by decide))
      · refine A_aload_n (q := 95) cx dX8_lays_94 rfl rfl rfl ?_
        refine gX8_3 (q := 98) cx wi_X8_lays_X8 wf_X8_lays_7 dX8_lays_95 rfl (in8 hX) rfl rfl ?_
        refine A_bipush (v := 10) (q := 100) cx dX8_lays_98 (by decide) rfl ?_
        refine A_iconst (v := 2) (q := 101) cx dX8_lays_100 (by decide) rfl ?_
        refine A_iload_n (q := 102) cx dX8_lays_101 rfl rfl ?_
        refine A_imul (q := 103) cx dX8_lays_102 rfl ?_
        refine A_iadd (q := 104) cx dX8_lays_103 rfl ?_
        refine A_bipush (v := -4) (q := 106) cx dX8_lays_104 (by decide) rfl ?_
        refine A_iastore (q := 107) cx dX8_lays_106 rfl (in9 hX (by decide)) (ixA (ixc 10) (ixM (ixc 2) rfl)) (by show _ < 235; first | omega | (simp only [pl]; omega)) rfl ?_
        refine A_iinc (lv' := [some _, some _, none, none]) (q := 110) cx dX8_lays_107 rfl (nI_1 i) rfl rfl ?_
        refine A_goto (q := 88) cx dX8_lays_110 (by decide) ?_
        exact ih (i + 1) _ (by omega) hF
  have l1 : ∀ (d i : Nat) (σ : Sg), i + d = 235 → up2 (mLl 6 0 (mLf 16 0 (mLy3 (mLz d i σ)))) (8, 0, 0, 0) 6 0 = mLays σ0 → AW p la ev (rmm 1 21) s m args below meth c 0 0 Q (AL E) E rh0 30 [some (.ref (ad E (8, 0, 0, 0))), some (.int (nI i)), none, none] [] σ := by
    intro d
    induction d with
    | zero =>
      intro i σ  hi hF
      obtain rfl : i = 235 := by omega
      refine A_iload_n (q := 31) cx dX8_lays_30 rfl rfl ?_
      refine A_sipush (v := 235) (q := 34) cx dX8_lays_31 (by decide) rfl ?_
      refine A_icmp_ge (tgt := 50) (q := 37) cx dX8_lays_34 (by decide) rfl (fun c_34 => ?_) (fun c_34 => ?_)
      · refine A_aload_n (q := 51) cx dX8_lays_50 rfl rfl rfl ?_
        refine gX8_3 (q := 54) cx wi_X8_lays_X8 wf_X8_lays_7 dX8_lays_51 rfl (in8 hX) rfl rfl ?_
        refine A_iconst (v := 0) (q := 55) cx dX8_lays_54 (by decide) rfl ?_
        refine A_aload_n (q := 56) cx dX8_lays_55 rfl rfl rfl ?_
        refine gX8_12 (q := 59) cx wi_X8_lays_X8 wf_X8_lays_28 dX8_lays_56 rfl (in8 hX) rfl rfl ?_
        refine A_iconst (v := 0) (q := 60) cx dX8_lays_59 (by decide) rfl ?_
        refine A_iaload (q := 61) cx dX8_lays_60 rfl (in9 hX (by decide)) (ixc 0) (by show _ < 2; first | omega | (simp only [pl]; omega)) rfl ?_
        refine A_iastore (q := 62) cx dX8_lays_61 rfl (in9 hX (by decide)) (ixc 0) (by show _ < 235; first | omega | (simp only [pl]; omega)) rfl ?_
        refine A_aload_n (q := 63) cx dX8_lays_62 rfl rfl rfl ?_
        refine gX8_3 (q := 66) cx wi_X8_lays_X8 wf_X8_lays_7 dX8_lays_63 rfl (in8 hX) rfl rfl ?_
        refine A_iconst (v := 1) (q := 67) cx dX8_lays_66 (by decide) rfl ?_
        refine A_aload_n (q := 68) cx dX8_lays_67 rfl rfl rfl ?_
        refine gX8_12 (q := 71) cx wi_X8_lays_X8 wf_X8_lays_28 dX8_lays_68 rfl (in8 hX) rfl rfl ?_
        refine A_iconst (v := 1) (q := 72) cx dX8_lays_71 (by decide) rfl ?_
        refine A_iaload (q := 73) cx dX8_lays_72 rfl (in9 hX (by decide)) (ixc 1) (by show _ < 2; first | omega | (simp only [pl]; omega)) rfl ?_
        refine A_iastore (q := 74) cx dX8_lays_73 rfl (in9 hX (by decide)) (ixc 1) (by show _ < 235; first | omega | (simp only [pl]; omega)) rfl ?_
        refine A_aload_n (q := 75) cx dX8_lays_74 rfl rfl rfl ?_
        refine gX8_3 (q := 78) cx wi_X8_lays_X8 wf_X8_lays_7 dX8_lays_75 rfl (in8 hX) rfl rfl ?_
        refine A_iconst (v := 2) (q := 79) cx dX8_lays_78 (by decide) rfl ?_
        refine A_aload_n (q := 80) cx dX8_lays_79 rfl rfl rfl ?_
        refine gX8_13 (q := 83) cx wi_X8_lays_X8 wf_X8_lays_31 dX8_lays_80 rfl (in8 hX) rfl rfl ?_
        refine A_iconst (v := 0) (q := 84) cx dX8_lays_83 (by decide) rfl ?_
        refine A_iaload (q := 85) cx dX8_lays_84 rfl (in9 hX (by decide)) (ixc 0) (by show _ < 3; first | omega | (simp only [pl]; omega)) rfl ?_
        refine A_iastore (q := 86) cx dX8_lays_85 rfl (in9 hX (by decide)) (ixc 2) (by show _ < 235; first | omega | (simp only [pl]; omega)) rfl ?_
        refine A_iconst (v := 0) (q := 87) cx dX8_lays_86 (by decide) rfl ?_
        refine A_istore_n (lv' := [some _, some _, none, none]) (q := 88) cx dX8_lays_87 (Nat.le_of_ble_eq_true rfl) rfl rfl ?_
        exact l2 16 0 _ rfl hF
      · exact absurd (by decide) c_34
    | succ d ih =>
      intro i σ  hi hF
      refine A_iload_n (q := 31) cx dX8_lays_30 rfl rfl ?_
      refine A_sipush (v := 235) (q := 34) cx dX8_lays_31 (by decide) rfl ?_
      refine A_icmp_ge (tgt := 50) (q := 37) cx dX8_lays_34 (by decide) rfl (fun c_34 => ?_) (fun c_34 => ?_)
      · exact absurd c_34 (not_ge (i := i) (b := 235) (by omega) (by decide))
      · refine A_aload_n (q := 38) cx dX8_lays_37 rfl rfl rfl ?_
        refine gX8_3 (q := 41) cx wi_X8_lays_X8 wf_X8_lays_7 dX8_lays_38 rfl (in8 hX) rfl rfl ?_
        refine A_iload_n (q := 42) cx dX8_lays_41 rfl rfl ?_
        refine A_iconst (v := 0) (q := 43) cx dX8_lays_42 (by decide) rfl ?_
        refine A_iastore (q := 44) cx dX8_lays_43 rfl (in9 hX (by decide)) rfl (by show _ < 235; first | omega | (simp only [pl]; omega)) rfl ?_
        refine A_iinc (lv' := [some _, some _, none, none]) (q := 47) cx dX8_lays_44 rfl (nI_1 i) rfl rfl ?_
        refine A_goto (q := 30) cx dX8_lays_47 (by decide) ?_
        exact ih (i + 1) _ (by omega) hF
  refine A_aload_n (q := 1) cx dX8_lays_0 rfl rfl rfl ?_
  refine A_aload_n (q := 2) cx dX8_lays_1 rfl rfl rfl ?_
  refine gX8_10 (q := 5) cx wi_X8_lays_X8 wf_X8_lays_54 dX8_lays_2 rfl (in8 hX) rfl ?_
  refine pX8_0 (q := 8) cx wi_X8_lays_X8 wf_X8_lays_83 dX8_lays_5 rfl (in8 hX) rfl ?_
  refine A_aload_n (q := 9) cx dX8_lays_8 rfl rfl rfl ?_
  refine A_aload_n (q := 10) cx dX8_lays_9 rfl rfl rfl ?_
  refine gX8_13 (q := 13) cx wi_X8_lays_X8 wf_X8_lays_31 dX8_lays_10 rfl (in8 hX) rfl rfl ?_
  refine A_iconst (v := 1) (q := 14) cx dX8_lays_13 (by decide) rfl ?_
  refine A_iaload (q := 15) cx dX8_lays_14 rfl (in9 hX (by decide)) (ixc 1) (by show _ < 3; first | omega | (simp only [pl]; omega)) rfl ?_
  refine pX8_1 (q := 18) cx wi_X8_lays_X8 wf_X8_lays_86 dX8_lays_15 rfl (in8 hX) rfl ?_
  refine A_aload_n (q := 19) cx dX8_lays_18 rfl rfl rfl ?_
  refine A_aload_n (q := 20) cx dX8_lays_19 rfl rfl rfl ?_
  refine gX8_13 (q := 23) cx wi_X8_lays_X8 wf_X8_lays_31 dX8_lays_20 rfl (in8 hX) rfl rfl ?_
  refine A_iconst (v := 2) (q := 24) cx dX8_lays_23 (by decide) rfl ?_
  refine A_iaload (q := 25) cx dX8_lays_24 rfl (in9 hX (by decide)) (ixc 2) (by show _ < 3; first | omega | (simp only [pl]; omega)) rfl ?_
  refine pX8_2 (q := 28) cx wi_X8_lays_X8 wf_X8_lays_89 dX8_lays_25 rfl (in8 hX) rfl ?_
  refine A_iconst (v := 0) (q := 29) cx dX8_lays_28 (by decide) rfl ?_
  refine A_istore_n (lv' := [some _, some _, none, none]) (q := 30) cx dX8_lays_29 (Nat.le_of_ble_eq_true rfl) rfl rfl ?_
  exact l1 235 0 _ rfl rfl
theorem wi_X8_lay_X8 : ∀ w ∈ u_ws RX8 TX8 18, w ∈ wsX8_lay := by decide +kernel
theorem wf_X8_lay_54 : Cond.fieldLink RX8 54 (TX8 10).1 (TX8 10).2.1 (TX8 10).2.2.1 ∈ wsX8_lay := by decide +kernel
theorem wf_X8_lay_83 : Cond.fieldLink RX8 83 (TX8 0).1 (TX8 0).2.1 (TX8 0).2.2.1 ∈ wsX8_lay := by decide +kernel
set_option maxHeartbeats 1000000 in
set_option maxRecDepth 100000 in
theorem ct_X8_lay {la : Launch} {E : Ev} (hE : okE E) (hX : yin E) {σ : Sg} {T : Nat} (hl : σ (8, 0, 0, 0) 9 = nI T) (hT2 : T ≤ 200) : CI la yX8_lay wsX8_lay 4 87 E rh0 [.ref (ad E (8, 0, 0, 0))] σ (mLay σ T).1 (mLay σ T).2 := by
  refine met_of (lv := [some _]) RX8 (by decide) rfl rfl rfl hE (ok1 rfl) (Nat.le_of_ble_eq_true rfl) (fun p ev s m args below meth c Q cx hlk hr hQ => ?_)
  refine A_aload_n (q := 1) cx dX8_lay_0 rfl rfl rfl ?_
  refine VI0 (q := 4) cx (ct_X8_faultAt hE hX hl hT2) (cwV 0 cx.1.2.2.2.2 gX8_lay_X8_faultAt rfl rfl rfl (by decide +kernel) ⟨Nat.le_of_ble_eq_true rfl, Nat.le_of_ble_eq_true rfl⟩) dX8_lay_1 rfl rfl (in8 hX) rfl (Nat.le_of_ble_eq_true rfl) ⟨Nat.zero_le _, Nat.zero_le _⟩ rfl ?_
  refine A_bipush (v := -4) (q := 6) cx dX8_lay_4 (by decide) rfl ?_
  refine A_icmp_ne (tgt := 16) (q := 9) cx dX8_lay_6 (by decide) rfl (fun c_6 => ?_) (fun c_6 => ?_)
  · refine A_bipush (v := -2) (q := 18) cx dX8_lay_16 (by decide) rfl ?_
    exact A_iret cx hlk hr hQ dX8_lay_18 (by unfold mLay; rw [if_neg c_6]) (by unfold mLay; rw [if_neg c_6])
  · refine A_aload_n (q := 10) cx dX8_lay_9 rfl rfl rfl ?_
    refine gX8_10 (q := 13) cx wi_X8_lay_X8 wf_X8_lay_54 dX8_lay_10 rfl (in8 hX) rfl ?_
    refine A_if_ne (tgt := 19) (q := 16) cx dX8_lay_13 (by decide) rfl (fun c_13 => ?_) (fun c_13 => ?_)
    · refine A_aload_n (q := 20) cx dX8_lay_19 rfl rfl rfl ?_
      refine VV0 (q := 23) cx (ct_X8_lays hE hX) (cwV 0 cx.1.2.2.2.2 gX8_lay_X8_lays rfl rfl rfl (by decide +kernel) ⟨Nat.le_of_ble_eq_true rfl, Nat.le_of_ble_eq_true rfl⟩) dX8_lay_20 rfl rfl (in8 hX) rfl (Nat.le_of_ble_eq_true rfl) ⟨Nat.zero_le _, Nat.zero_le _⟩ rfl ?_
      refine A_aload_n (q := 24) cx dX8_lay_23 rfl rfl rfl ?_
      refine gX8_0 (q := 27) cx wi_X8_lay_X8 wf_X8_lay_83 dX8_lay_24 rfl (in8 hX) rfl ?_
      exact A_iret cx hlk hr hQ dX8_lay_27 (by unfold mLay; rw [if_pos c_6, if_neg c_13]) (by unfold mLay; rw [if_pos c_6, if_neg c_13])
    · refine A_bipush (v := -2) (q := 18) cx dX8_lay_16 (by decide) rfl ?_
      exact A_iret cx hlk hr hQ dX8_lay_18 (by unfold mLay; rw [if_pos c_6, if_pos c_13]) (by unfold mLay; rw [if_pos c_6, if_pos c_13])
