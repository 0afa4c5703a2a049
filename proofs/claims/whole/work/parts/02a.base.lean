/-! THE WORLD: every cell has a name (a key); ints and references of the cells stand in two functions of keys and places; a method's contract says what they are behind it. -/
abbrev Ky : Type := Nat × Nat × Nat × Nat
abbrev Sg : Type := Ky → Nat → Int32
abbrev Rh : Type := Ky → Nat → Option Ky
abbrev Ev : Type := va_G × (Nat → ClassId) × List Ky × (Ky → Nat)
def ks (E : Ev) : List Ky := E.2.2.1
def ad (E : Ev) (k : Ky) : Nat := E.2.2.2 k
def b01 (x : Int32) : Int32 := if x = 0 then 0 else 1
def up2 (σ : Sg) (k : Ky) (j : Nat) (v : Int32) : Sg := fun k' j' => if k' = k ∧ j' = j then v else σ k' j'
def rv (E : Ev) (r : Option Ky) : Value := va_rf (r.map (ad E))
/-- the length of an array, by its key -/
def al (k : Ky) : Nat := match k with
  | (9, 0, _) => 200
  | (9, 1, _) => 12
  | (9, 2, _) => 235
  | (9, 3, _) => 235
  | (9, 4, _) => 1410
  | (9, 5, _) => 12
  | (9, 6, _) => 200
  | (9, 7, _) => 24
  | (9, 8, _) => 2
  | (9, 9, _) => 3
  | (9, 10, _) => 4
  | (9, 11, _) => 28
  | (11, _) => 8
  | _ => 6
/-- the kind of a cell: the number of its class, or of its array -/
def kc (k : Ky) : Nat := match k.1 with
  | 14 => 3
  | t => t
def ec (E : Ev) (n : Nat) (r : Nat → Option Ky) (f : Nat → Int32) : Nat → va_E := fun t => match t with
  | 0 => .inr (0, [.int (f 0), .int (f 1), rv E (r 2), rv E (r 3)])
  | 1 => .inr (1, [.int (f 0), .int (f 1)])
  | 2 => .inr (2, [rv E (r 0), .int (f 1), .int (f 2)])
  | 3 => .inr (3, [.int (b01 (f 0)), .int (f 1), .int (f 2), .int (f 3), .int (b01 (f 4))])
  | 4 => .inr (4, [rv E (r 0), rv E (r 1), .int (f 2), .int (f 3), .int (f 4), .int (f 5), .int (f 6)])
  | 5 => .inr (5, [.int (b01 (f 0)), .int (b01 (f 1)), .int (f 2), .int (f 3), rv E (r 4), rv E (r 5), .int (f 6), .int (f 7), .int (b01 (f 8)), .int (f 9), .int (f 10)])
  | 6 => .inr (6, [rv E (r 0), .int (f 1)])
  | 7 => .inr (7, [rv E (r 0), rv E (r 1), rv E (r 2), rv E (r 3), rv E (r 4), rv E (r 5)])
  | 8 => .inr (8, [.int (f 0), .int (f 1), .int (f 2), rv E (r 3), rv E (r 4), rv E (r 5), .int (f 6), rv E (r 7), rv E (r 8), .int (f 9), .int (f 10), rv E (r 11), rv E (r 12), rv E (r 13), rv E (r 14), .int (f 15), rv E (r 16), rv E (r 17)])
  | 9 => .inl (E.2.1 0, n, .inl f)
  | 10 => .inl (E.2.1 1, n, .inl f)
  | 11 => .inl (E.2.1 2, n, .inr (.inr (.inr (.inr (fun i => (r i).map (ad E))))))
  | 12 => .inl (E.2.1 3, n, .inr (.inr (.inr (.inr (fun i => (r i).map (ad E))))))
  | _ => .inl (E.2.1 4, n, .inr (.inr (.inr (.inr (fun i => (r i).map (ad E))))))
def en (E : Ev) (ρ : Rh) (σ : Sg) (k : Ky) : va_E := ec E (al k) (ρ k) (σ k) (kc k)
def wl (E : Ev) (ρ : Rh) (σ : Sg) : va_W := (ks E).map (fun k => (ad E k, en E ρ σ k))
def tys (E : Ev) : List (ClassId × FieldType) := [(E.2.1 0, .int), (E.2.1 1, .boolean), (E.2.1 2, .object RX1), (E.2.1 3, .object RX4), (E.2.1 4, .object RX5)]
def AL (E : Ev) : Nat → Prop := fun q => ∃ k ∈ ks E, q = ad E k
def okE (E : Ev) : Prop := (ks E).Nodup ∧ ∀ k ∈ ks E, ∀ k' ∈ ks E, ad E k = ad E k' → k = k'
/-- the links among nest mates -/
def nst (s : State) : Prop := va_Nw (.methodLinkNest RX6 37 yX7_isFigure "BundledLinks") s ∧ va_Nw (.methodLinkNest RX6 40 yX7_isMost "BundledLinks") s
def sw (E : Ev) (s : State) : Prop := va_K E.1 vwCl (tys E) s ∧ nst s
theorem nst.warm {s U : State} (h : nst s) (hW : s.WarmedH U.vm) : nst U := ⟨va_Nw.warmM hW h.1, va_Nw.warmM hW h.2⟩
theorem sw.warm {E : Ev} {s U : State} (h : sw E s) (hW : s.WarmedH U.vm) : sw E U := ⟨va_K.moved hW.alike h.1, h.2.warm hW⟩
theorem up2_at (σ : Sg) (k : Ky) (j : Nat) (v : Int32) : up2 σ k j v k j = v := by simp [up2]
theorem up2_ne (σ : Sg) (k : Ky) (j : Nat) (v : Int32) {j' : Nat} (h : j' ≠ j) : up2 σ k j v k j' = σ k j' := by simp [up2, h]
theorem up2_nk (σ : Sg) (k : Ky) (j : Nat) (v : Int32) {k' : Ky} (h : k' ≠ k) : up2 σ k j v k' = σ k' := by funext j'; simp [up2, h]
theorem up2_row (σ : Sg) (k : Ky) (j : Nat) (v : Int32) : up2 σ k j v k = upd (σ k) j v := by funext j'; simp [up2, upd]
theorem b01_of {x : Int32} (h : x = 0 ∨ x = 1) : b01 x = x := by rcases h with rfl | rfl <;> decide
theorem b01_or (x : Int32) : b01 x = 0 ∨ b01 x = 1 := by unfold b01; split <;> simp
theorem b01_z {x : Int32} : b01 x = 0 ↔ x = 0 := by unfold b01; split <;> simp [*]
theorem b01_n {x : Int32} : b01 x = 1 ↔ ¬ x = 0 := by unfold b01; split <;> simp [*]
theorem b01_b (x : Int32) : b01 (b01 x) = b01 x := b01_of (b01_or x)
theorem en_nk (E : Ev) (ρ : Rh) (σ : Sg) (k : Ky) (j : Nat) (v : Int32) {k' : Ky} (h : k' ≠ k) : en E ρ (up2 σ k j v) k' = en E ρ σ k' := by
  unfold en; rw [up2_nk σ k j v h]
theorem wl_at {E : Ev} {k : Ky} (ρ : Rh) (σ : Sg) {q : Nat} (hq : (ks E)[q]? = some k) : (wl E ρ σ)[q]? = some (ad E k, en E ρ σ k) := by
  unfold wl; rw [List.getElem?_map, hq]; rfl
theorem ks_at {E : Ev} {k : Ky} (hm : k ∈ ks E) : ∃ q : Nat, (ks E)[q]? = some k := List.getElem?_of_mem hm
theorem nodup_at {α : Type} : ∀ {l : List α}, l.Nodup → ∀ {i j : Nat} {a : α}, l[i]? = some a → l[j]? = some a → i = j
  | [], _, i, _, _, h, _ => by simp at h
  | b :: l, hn, i, j, a, h1, h2 => by
    have hn' := List.nodup_cons.mp hn
    cases i with
    | zero =>
      cases j with
      | zero => rfl
      | succ j =>
        rw [List.getElem?_cons_zero] at h1
        rw [List.getElem?_cons_succ] at h2
        cases h1
        exact absurd (List.mem_of_getElem? h2) hn'.1
    | succ i =>
      rw [List.getElem?_cons_succ] at h1
      cases j with
      | zero =>
        rw [List.getElem?_cons_zero] at h2
        cases h2
        exact absurd (List.mem_of_getElem? h1) hn'.1
      | succ j =>
        rw [List.getElem?_cons_succ] at h2
        rw [nodup_at hn'.2 h1 h2]
theorem map_set {α β : Type} {f g : α → β} : ∀ {l : List α}, l.Nodup → ∀ {q : Nat} {k : α}, l[q]? = some k → (∀ k' ∈ l, k' ≠ k → g k' = f k') → (l.map f).set q (g k) = l.map g
  | [], _, q, k, h, _ => by simp at h
  | b :: l, hn, q, k, h, hg => by
    have hn' := List.nodup_cons.mp hn
    cases q with
    | zero =>
      rw [List.getElem?_cons_zero] at h
      cases h
      rw [List.map_cons, List.map_cons, List.set_cons_zero]
      congr 1
      refine List.map_congr_left (fun a ha => (hg a (List.mem_cons_of_mem _ ha) (fun e => hn'.1 (e ▸ ha))).symm)
    | succ q =>
      rw [List.getElem?_cons_succ] at h
      rw [List.map_cons, List.map_cons, List.set_cons_succ]
      have hb : b ≠ k := fun e => hn'.1 (e ▸ List.mem_of_getElem? h)
      rw [hg b List.mem_cons_self hb, map_set hn'.2 h (fun k' h1 h2 => hg k' (List.mem_cons_of_mem _ h1) h2)]
theorem wl_set {E : Ev} (ρ : Rh) {σ σ' : Sg} {q : Nat} {k : Ky} (hn : (ks E).Nodup) (hq : (ks E)[q]? = some k) (h : ∀ k', k' ≠ k → en E ρ σ' k' = en E ρ σ k') : (wl E ρ σ).set q (ad E k, en E ρ σ' k) = wl E ρ σ' :=
  map_set (f := fun k => (ad E k, en E ρ σ k)) (g := fun k => (ad E k, en E ρ σ' k)) hn hq (fun k' _ h2 => by rw [h k' h2])
theorem wl_D {E : Ev} (hE : okE E) {A : Nat → Prop} (hA : ∀ k ∈ ks E, A (ad E k)) (ρ : Rh) (σ : Sg) : va_D A (wl E ρ σ) := by
  have key : ∀ (i : Nat) (q : Nat × va_E), (wl E ρ σ)[i]? = some q → ∃ k, (ks E)[i]? = some k ∧ q.1 = ad E k := by
    intro i q h
    unfold wl at h
    rw [List.getElem?_map] at h
    cases hk : (ks E)[i]? with
    | none => rw [hk] at h; cases h
    | some k => rw [hk] at h; cases h; exact ⟨k, rfl, rfl⟩
  refine ⟨fun i j x y hi hj hxy => ?_, fun i q hq => ?_⟩
  · obtain ⟨k1, h1, e1⟩ := key i x hi
    obtain ⟨k2, h2, e2⟩ := key j y hj
    have := hE.2 k1 (List.mem_of_getElem? h1) k2 (List.mem_of_getElem? h2) (by rw [← e1, ← e2]; exact hxy)
    subst this
    exact nodup_at hE.1 h1 h2
  · obtain ⟨k, h1, e1⟩ := key i q hq
    rw [e1]; exact hA k (List.mem_of_getElem? h1)
/-- the locals, by their places -/
def hs (ls : Array Slot) (lv : List (Option Value)) : Prop := ls.size = lv.length ∧ lv_wf ls ∧ ∀ (i : Nat) (v : Value), lv[i]? = some (some v) → ls[i]? = some (.val v) ∧ v.category = 1
def toP (lv : List (Option Value)) : List (Nat × Value) := (List.range lv.length).filterMap (fun i => match lv[i]? with | some (some v) => some (i, v) | _ => none)
theorem mem_toP {lv : List (Option Value)} {i : Nat} {v : Value} : (i, v) ∈ toP lv ↔ lv[i]? = some (some v) := by
  unfold toP
  rw [List.mem_filterMap]
  constructor
  · rintro ⟨a, -, h⟩
    split at h
    · next w e => cases h; exact e
    · cases h
  · intro h
    have hl : i < lv.length := (List.getElem?_eq_some_iff.mp h).1
    exact ⟨i, List.mem_range.mpr hl, by rw [h]⟩
theorem hs.has {ls : Array Slot} {lv : List (Option Value)} (h : hs ls lv) : lv_has ls lv.length (toP lv) := ⟨h.1, h.2.1, fun q hq => (h.2.2 q.1 q.2 (mem_toP.mp hq)).1⟩
theorem hs.at {ls : Array Slot} {lv : List (Option Value)} (h : hs ls lv) {i : Nat} {v : Value} (hv : lv[i]? = some (some v)) : ls[i]? = some (.val v) := (h.2.2 i v hv).1
theorem hs.store {ls ls' : Array Slot} {lv lv' : List (Option Value)} {i : Nat} {w : Value} (h : hs ls lv) (hw : w.category = 1) (he : lv.set i (some w) = lv') (h' : lv_has ls' lv.length ((i, w) :: (toP lv).filter (fun q => !(q.1 == i) && !(q.1 + 1 == i && q.2.category == 2)))) : hs ls' lv' := by
  subst he
  refine ⟨by rw [List.length_set]; exact h'.1, h'.2.1, fun j v hj => ?_⟩
  by_cases hji : j = i
  · subst hji
    rw [List.getElem?_set] at hj
    have hjl : j < lv.length := by
      by_cases hx : j < lv.length
      · exact hx
      · simp [hx] at hj
    simp [hjl] at hj
    subst hj
    exact ⟨h'.2.2 (j, w) List.mem_cons_self, hw⟩
  · rw [List.getElem?_set_ne (Ne.symm hji)] at hj
    have hc := (h.2.2 j v hj).2
    refine ⟨h'.2.2 (j, v) (List.mem_cons_of_mem _ (List.mem_filter.mpr ⟨mem_toP.mpr hj, ?_⟩)), hc⟩
    simp [hji, hc]
def isR (v : Value) : Bool := match v with
  | .ref _ => true
  | .null => true
  | _ => false
theorem isR_rv (E : Ev) (r : Option Ky) : isR (rv E r) = true := by cases r <;> rfl
theorem isR_of {v : Value} (h : isR v = true) : v = .null ∨ ∃ a, v = .ref a := by
  cases v <;> simp [isR] at h
  · exact Or.inl rfl
  · exact Or.inr ⟨_, rfl⟩
theorem isR_cat {v : Value} (h : isR v = true) : v.category = 1 := by rcases isR_of h with rfl | ⟨a, rfl⟩ <;> rfl
def argsOk (as : List Value) : Prop := ∀ v ∈ as, v.category = 1
def Cx (p : Program) (s : State) (m : MethodId) (args : Array Value) (c : Code) (E : Ev) (A : Nat → Prop) (own : String) (cc : ByteArray) (nL : Nat) (Ts : List Cond) : Prop :=
  CallFix p m c cc nL s args Ts own ∧ sw E s ∧ okE E ∧ ∀ k ∈ ks E, A (ad E k)
/-- the machine at pc, with the locals lv, the stack st and the ints σ of the world, comes to an end with Q -/
def AW (p : Program) (l : Launch) (e : Env) (R : Room) (s : State) (m : MethodId) (args : Array Value) (below : List Frame) (meth : Method) (c : Code) (cells slots : Nat) (Q : State → Prop) (A : Nat → Prop) (E : Ev) (ρ : Rh) (pc : Nat) (lv : List (Option Value)) (st : List Value) (σ : Sg) : Prop :=
  ∀ (H : Heap) (locs : List Loc) (ls : Array Slot), va_P E.1 vwCl (wl E ρ σ) H → va_S A s.heap H locs → hs ls lv → W p l e R s m args below meth c H locs cells slots Q (F0 m pc ls st)
def QI (E : Ev) (ρ : Rh) (r : Int32) (σ' : Sg) : Array Value → State → Outcome → State → Prop := va_Qi (fun r' σ'' => r' = r ∧ σ'' = σ') (fun σ'' t => va_P E.1 vwCl (wl E ρ σ'') t.heap) (AL E)
def QV (E : Ev) (ρ : Rh) (σ' : Sg) : Array Value → State → Outcome → State → Prop := va_Qv (fun σ'' => σ'' = σ') (fun σ'' t => va_P E.1 vwCl (wl E ρ σ'') t.heap) (AL E)
def QQ (E : Ev) (ρ : Rh) (r : Option Ky) (σ' : Sg) : Array Value → State → Outcome → State → Prop := va_Qq (fun r' σ'' => r' = r.map (ad E) ∧ σ'' = σ') (fun σ'' t => va_P E.1 vwCl (wl E ρ σ'') t.heap) (AL E)
def PW (E : Ev) (ρ : Rh) (σ : Sg) (as : List Value) : Array Value → State → Prop := va_Pc as (fun U => va_P E.1 vwCl (wl E ρ σ) U.heap ∧ sw E U)
abbrev rmm (fr lc : Nat) : Room := { frames := fr, cells := 0, slots := 0, locals := lc }
def CI (l : Launch) (y : MethodName) (ws : List Cond) (fr lc : Nat) (E : Ev) (ρ : Rh) (as : List Value) (σ : Sg) (r : Int32) (σ' : Sg) : Prop := Met l y ws (rmm fr lc) (PW E ρ σ as) (QI E ρ r σ') 0 0 (AL E)
def CV (l : Launch) (y : MethodName) (ws : List Cond) (fr lc : Nat) (E : Ev) (ρ : Rh) (as : List Value) (σ : Sg) (σ' : Sg) : Prop := Met l y ws (rmm fr lc) (PW E ρ σ as) (QV E ρ σ') 0 0 (AL E)
def CQ (l : Launch) (y : MethodName) (ws : List Cond) (fr lc : Nat) (E : Ev) (ρ : Rh) (as : List Value) (σ : Sg) (r : Option Ky) (σ' : Sg) : Prop := Met l y ws (rmm fr lc) (PW E ρ σ as) (QQ E ρ r σ') 0 0 (AL E)
def lv0 (as : List Value) (n : Nat) : List (Option Value) := as.map some ++ List.replicate (n - as.length) none
theorem lv_args_at : ∀ (as : List Value) (b i : Nat) (v : Value), (∀ v ∈ as, v.category = 1) → as[i]? = some v → (b + i, v) ∈ lv_args b as
  | [], _, i, _, _, h => by simp at h
  | a :: as, b, i, v, hc, h => by
    have ha : ¬ a.category = 2 := by rw [hc a List.mem_cons_self]; decide
    unfold lv_args
    rw [if_neg ha]
    cases i with
    | zero => rw [List.getElem?_cons_zero] at h; cases h; exact List.mem_cons_self
    | succ i =>
      rw [List.getElem?_cons_succ] at h
      have := lv_args_at as (b + 1) i v (fun v h => hc v (List.mem_cons_of_mem _ h)) h
      rw [show b + (i + 1) = b + 1 + i by omega]
      exact List.mem_cons_of_mem _ this
theorem lv0_at {as : List Value} {n i : Nat} {v : Value} (h : (lv0 as n)[i]? = some (some v)) : as[i]? = some v := by
  unfold lv0 at h
  by_cases hi : i < as.length
  · rw [List.getElem?_append_left (by simpa using hi), List.getElem?_map] at h
    cases hv : as[i]? with
    | none => rw [hv] at h; cases h
    | some w => rw [hv] at h; cases h; rfl
  · rw [List.getElem?_append_right (by simpa using Nat.le_of_not_lt hi)] at h
    have := List.eq_of_mem_replicate (List.mem_of_getElem? h)
    cases this
theorem hs_entry {as : List Value} {n : Nat} (hc : argsOk as) (hn : as.length ≤ n) (hl : (lg_sl as).length ≤ n) : hs ((lg_sl as ++ List.replicate (n - (lg_sl as).length) Slot.unset).toArray) (lv0 as n) := by
  have h := lv_entry as hl
  refine ⟨by rw [h.1]; unfold lv0; simp; omega, h.2.1, fun i v hv => ?_⟩
  have hv' := lv0_at hv
  refine ⟨h.2.2 (i, v) ?_, hc v (List.mem_of_getElem? hv')⟩
  have := lv_args_at as 0 i v hc hv'
  rwa [Nat.zero_add] at this
theorem al_lt (k : Ky) : al k < 2 ^ 31 := by
  unfold al; split <;> decide
