/-! THE LAYOUT: which cells there are, and how they point to one another (nets: 0 the net, 1 to 6 the history's, 7 trial, 8 mark). -/
def rh0 : Rh := fun k j => match k with
  | (0, n, e, _) => (match j with | 2 => some (13, n, e, 0) | _ => some (11, n, e, 0))
  | (2, _) => some (12, 0, 0, 0)
  | (4, n, _) => (match j with | 0 => some (0, n, 0, 0) | _ => some (0, n, 1, 0))
  | (5, n, e, l) => (match j with | 4 => some (3, n, e, l) | _ => some (14, n, e, l))
  | (6, _) => some (9, 0, 0, 0)
  | (7, _) => (match j with | 0 => some (6, 0, 0, 0) | 1 => some (4, 0, 0, 0) | 2 => some (2, 0, 0, 0) | 3 => some (9, 1, 0, 0) | 4 => some (4, 7, 0, 0) | _ => some (4, 8, 0, 0))
  | (8, _) => (match j with | 3 => some (9, 2, 0, 0) | 4 => some (9, 3, 0, 0) | 5 => some (9, 4, 0, 0) | 7 => some (9, 5, 0, 0) | 8 => some (9, 6, 0, 0) | 11 => some (9, 7, 0, 0) | 12 => some (9, 8, 0, 0) | 13 => some (9, 9, 0, 0) | 14 => some (9, 10, 0, 0) | 16 => some (10, 0, 0, 0) | _ => some (9, 11, 0, 0))
  | (11, n, e, _) => some (1, n, e, j)
  | (12, _) => some (4, j + 1, 0, 0)
  | (13, n, e, _) => some (5, n, e, j)
  | _ => none
def kvX (k : Ky) : Prop := match k with
  | (0, n, e, l) => n < 9 ∧ e < 2 ∧ l = 0
  | (1, n, e, f) => n < 9 ∧ e < 2 ∧ f < 8
  | (2, n, e, l) => n = 0 ∧ e = 0 ∧ l = 0
  | (3, n, e, l) => n < 9 ∧ e < 2 ∧ l < 6
  | (4, n, e, l) => n < 9 ∧ e = 0 ∧ l = 0
  | (5, n, e, l) => n < 9 ∧ e < 2 ∧ l < 6
  | (6, n, e, l) => n = 0 ∧ e = 0 ∧ l = 0
  | (7, n, e, l) => n = 0 ∧ e = 0 ∧ l = 0
  | (9, n, e, l) => n < 2 ∧ e = 0 ∧ l = 0
  | (11, n, e, l) => n < 9 ∧ e < 2 ∧ l = 0
  | (12, n, e, l) => n = 0 ∧ e = 0 ∧ l = 0
  | (13, n, e, l) => n < 9 ∧ e < 2 ∧ l = 0
  | (14, n, e, l) => n < 9 ∧ e < 2 ∧ l < 6
  | _ => False
def kvM (k : Ky) : Prop := match k with
  | (8, n, e, l) => n = 0 ∧ e = 0 ∧ l = 0
  | (9, n, e, l) => (2 ≤ n ∧ n < 12) ∧ e = 0 ∧ l = 0
  | (10, n, e, l) => n = 0 ∧ e = 0 ∧ l = 0
  | _ => False
def xin (E : Ev) : Prop := ∀ k, kvX k → k ∈ ks E
def yin (E : Ev) : Prop := ∀ k, kvM k → k ∈ ks E
theorem in0 {E : Ev} (hX : xin E) {n e : Nat} (h : n < 9 ∧ e < 2) : (0, n, e, 0) ∈ ks E := hX _ ⟨h.1, h.2, rfl⟩
theorem in1 {E : Ev} (hX : xin E) {n e l : Nat} (h : n < 9 ∧ e < 2 ∧ l < 8) : (1, n, e, l) ∈ ks E := hX _ h
theorem in2 {E : Ev} (hX : xin E) : (2, 0, 0, 0) ∈ ks E := hX _ ⟨rfl, rfl, rfl⟩
theorem in3 {E : Ev} (hX : xin E) {n e l : Nat} (h : n < 9 ∧ e < 2 ∧ l < 6) : (3, n, e, l) ∈ ks E := hX _ h
theorem in4 {E : Ev} (hX : xin E) {n : Nat} (h : n < 9) : (4, n, 0, 0) ∈ ks E := hX _ ⟨h, rfl, rfl⟩
theorem in5 {E : Ev} (hX : xin E) {n e l : Nat} (h : n < 9 ∧ e < 2 ∧ l < 6) : (5, n, e, l) ∈ ks E := hX _ h
theorem in6 {E : Ev} (hX : xin E) : (6, 0, 0, 0) ∈ ks E := hX _ ⟨rfl, rfl, rfl⟩
theorem in7 {E : Ev} (hX : xin E) : (7, 0, 0, 0) ∈ ks E := hX _ ⟨rfl, rfl, rfl⟩
theorem in90 {E : Ev} (hX : xin E) : (9, 0, 0, 0) ∈ ks E := hX _ ⟨by decide, rfl, rfl⟩
theorem in91 {E : Ev} (hX : xin E) : (9, 1, 0, 0) ∈ ks E := hX _ ⟨by decide, rfl, rfl⟩
theorem in11 {E : Ev} (hX : xin E) {n e : Nat} (h : n < 9 ∧ e < 2) : (11, n, e, 0) ∈ ks E := hX _ ⟨h.1, h.2, rfl⟩
theorem in12 {E : Ev} (hX : xin E) : (12, 0, 0, 0) ∈ ks E := hX _ ⟨rfl, rfl, rfl⟩
theorem in13 {E : Ev} (hX : xin E) {n e : Nat} (h : n < 9 ∧ e < 2) : (13, n, e, 0) ∈ ks E := hX _ ⟨h.1, h.2, rfl⟩
theorem in14 {E : Ev} (hX : xin E) {n e l : Nat} (h : n < 9 ∧ e < 2 ∧ l < 6) : (14, n, e, l) ∈ ks E := hX _ h
theorem in8 {E : Ev} (hX : yin E) : (8, 0, 0, 0) ∈ ks E := hX _ ⟨rfl, rfl, rfl⟩
theorem in9 {E : Ev} (hX : yin E) {i : Nat} (h : 2 ≤ i ∧ i < 12) : (9, i, 0, 0) ∈ ks E := hX _ ⟨h, rfl, rfl⟩
theorem in10 {E : Ev} (hX : yin E) : (10, 0, 0, 0) ∈ ks E := hX _ ⟨rfl, rfl, rfl⟩
/-! small rows of numbers -/
theorem not_ge {i b : Nat} (h : i < b) (hb : b < 2 ^ 31) : ¬ nI b ≤ nI i := nI_ge h hb
theorem clamp_ge (x : Int32) : x ≤ nI x.toNatClampNeg := by
  by_cases h : x < 0
  · have h1 : x.toInt < 0 := by simpa using Int32.lt_iff_toInt_lt.mp h
    refine Int32.le_iff_toInt_le.mpr ?_
    have h2 : x.toNatClampNeg = 0 := by
      show x.toInt.toNat = 0
      omega
    rw [h2, nI_0]
    show x.toInt ≤ 0
    omega
  · obtain ⟨j, hj, rfl⟩ := nI_of h
    rw [nI_clamp hj]
    exact Int32.le_refl _
theorem clamp_lt {x : Int32} {i : Nat} (h : i < x.toNatClampNeg) : ¬ x ≤ nI i := by
  have h0 : ¬ x < 0 := by
    intro h1
    have h2 : x.toInt < 0 := by simpa using Int32.lt_iff_toInt_lt.mp h1
    have h3 : x.toNatClampNeg = 0 := by
      show x.toInt.toNat = 0
      omega
    omega
  obtain ⟨j, hj, rfl⟩ := nI_of h0
  rw [nI_clamp hj] at h
  exact nI_ge h hj
theorem ix_lt {x : Int32} {L : Nat} (h0 : ¬ x < 0) (h : x < nI L) (hL : L < 2 ^ 31) : ∃ j : Nat, j < L ∧ x = nI j ∧ x.toNatClampNeg = j := by
  obtain ⟨j, hj, rfl⟩ := nI_of h0
  exact ⟨j, (nI_ltI hj hL).mp h, rfl, nI_clamp hj⟩
theorem inc1 (x : Int32) : x + Int32.ofInt 1 = x + 1 := rfl
theorem dec1 (x : Int32) : x + Int32.ofInt (-1) = x + -1 := rfl
theorem inc5 (x : Int32) : x + Int32.ofInt 5 = x + 5 := rfl
theorem rv_some (E : Ev) (k : Ky) : rv E (some k) = .ref (ad E k) := rfl
theorem rv_none (E : Ev) : rv E none = .null := rfl
