/-! CONSTRUCTORS: the world grows by cells; a cell's key is chosen when it is made. -/
abbrev St3 : Type := Ev × Rh × Sg
def addK (E : Ev) (k : Ky) (q : Nat) : Ev := (E.1, E.2.1, E.2.2.1 ++ [k], fun k' => if k' = k then q else E.2.2.2 k')
def sr (σ : Sg) (k : Ky) (f : Nat → Int32) : Sg := fun k' => if k' = k then f else σ k'
def srr (ρ : Rh) (k : Ky) (f : Nat → Option Ky) : Rh := fun k' => if k' = k then f else ρ k'
def upr (ρ : Rh) (k : Ky) (j : Nat) (t : Ky) : Rh := fun k' j' => if k' = k ∧ j' = j then some t else ρ k' j'
def clo (E : Ev) (ρ : Rh) : Prop := ∀ k ∈ ks E, ∀ j t, ρ k j = some t → t ∈ ks E
def nst2 (s : State) : Prop := (va_Nw (.methodLinkNest RX0 21 yX5_init "BundledLinks") s ∧ va_Nw (.methodLinkNest RX0 28 yX1_init "BundledLinks") s ∧ va_Nw (.methodLinkNest RX5 11 yX3_init "BundledLinks") s ∧ va_Nw (.methodLinkNest RX2 17 yX4_init "BundledLinks") s ∧ va_Nw (.methodLinkNest RX7 9 yX6_init "BundledLinks") s ∧ va_Nw (.methodLinkNest RX7 18 yX4_init "BundledLinks") s) ∧ va_AO RX5 s ∧ va_AO RX1 s ∧ va_AO RX4 s
theorem nst2.warm {s U : State} (h : nst2 s) (hW : s.WarmedH U.vm) : nst2 U := by
  obtain ⟨⟨a, b, c, d, e, f⟩, g, i, j⟩ := h
  exact ⟨⟨va_Nw.warmM hW a, va_Nw.warmM hW b, va_Nw.warmM hW c, va_Nw.warmM hW d, va_Nw.warmM hW e, va_Nw.warmM hW f⟩, va_AO.moved hW.alike g, va_AO.moved hW.alike i, va_AO.moved hW.alike j⟩
def sw2 (E : Ev) (s : State) : Prop := sw E s ∧ nst2 s
theorem sr_at (σ : Sg) (k : Ky) (f : Nat → Int32) : sr σ k f k = f := by simp [sr]
theorem sr_ne (σ : Sg) (k : Ky) (f : Nat → Int32) {k' : Ky} (h : k' ≠ k) : sr σ k f k' = σ k' := by simp [sr, h]
theorem srr_at (ρ : Rh) (k : Ky) (f : Nat → Option Ky) : srr ρ k f k = f := by simp [srr]
theorem srr_ne (ρ : Rh) (k : Ky) (f : Nat → Option Ky) {k' : Ky} (h : k' ≠ k) : srr ρ k f k' = ρ k' := by simp [srr, h]
theorem upr_at (ρ : Rh) (k : Ky) (j : Nat) (t : Ky) : upr ρ k j t k j = some t := by simp [upr]
theorem upr_nj (ρ : Rh) (k : Ky) (j : Nat) (t : Ky) {j' : Nat} (h : j' ≠ j) : upr ρ k j t k j' = ρ k j' := by simp [upr, h]
theorem upr_nk (ρ : Rh) (k : Ky) (j : Nat) (t : Ky) {k' : Ky} (h : k' ≠ k) : upr ρ k j t k' = ρ k' := by funext j'; simp [upr, h]
theorem ks_addK (E : Ev) (k : Ky) (q : Nat) : ks (addK E k q) = ks E ++ [k] := rfl
theorem ad_addK (E : Ev) (k : Ky) (q : Nat) : ad (addK E k q) k = q := by simp [ad, addK]
theorem ad_addK_ne (E : Ev) (k : Ky) (q : Nat) {k' : Ky} (h : k' ≠ k) : ad (addK E k q) k' = ad E k' := by simp [ad, addK, h]
theorem ec_congr {E E' : Ev} (h1 : E'.2.1 = E.2.1) (n : Nat) (r : Nat → Option Ky) (f : Nat → Int32) (h : ∀ j, (r j).map (ad E') = (r j).map (ad E)) (t : Nat) : ec E' n r f t = ec E n r f t := by
  have hv : ∀ j, rv E' (r j) = rv E (r j) := fun j => by unfold rv; rw [h j]
  have hf : (fun i => (r i).map (ad E')) = (fun i => (r i).map (ad E)) := funext h
  unfold ec
  split <;> simp only [hv, hf, h1]
/-- the cells that there were are as they were -/
theorem wl_old {E E' : Ev} {ρ ρ' : Rh} {σ σ' : Sg} (h1 : E'.2.1 = E.2.1) (had : ∀ k ∈ ks E, ad E' k = ad E k) (hclo : clo E ρ) (hρ : ∀ k ∈ ks E, ρ' k = ρ k) (hσ : ∀ k ∈ ks E, σ' k = σ k) : (ks E).map (fun k => (ad E' k, en E' ρ' σ' k)) = wl E ρ σ := by
  unfold wl
  refine List.map_congr_left (fun k hk => ?_)
  rw [had k hk]
  congr 1
  unfold en
  rw [hρ k hk, hσ k hk]
  refine ec_congr h1 _ _ _ (fun j => ?_) _
  cases hr : ρ k j with
  | none => rfl
  | some t => show some (ad E' t) = some (ad E t); rw [had t (hclo k hk j t hr)]
theorem wl_addK {E : Ev} {ρ : Rh} {σ : Sg} {k : Ky} (q : Nat) (hk : k ∉ ks E) (hclo : clo E ρ) : wl (addK E k q) (srr ρ k (fun _ => none)) (sr σ k (fun _ => 0)) = wl E ρ σ ++ [(q, ec E (al k) (fun _ => none) (fun _ => 0) (kc k))] := by
  have hne : ∀ k' ∈ ks E, k' ≠ k := fun k' h' e => hk (e ▸ h')
  show ((ks E) ++ [k]).map _ = _
  rw [List.map_append, wl_old (E := E) (E' := addK E k q) (ρ := ρ) (σ := σ) rfl (fun k' h' => ad_addK_ne E k q (hne k' h')) hclo (fun k' h' => srr_ne _ _ _ (hne k' h')) (fun k' h' => sr_ne _ _ _ (hne k' h'))]
  congr 1
  show [(ad (addK E k q) k, en (addK E k q) (srr ρ k fun _ => none) (sr σ k fun _ => 0) k)] = _
  rw [ad_addK]
  unfold en
  rw [srr_at, sr_at]
  rw [ec_congr (E := E) (E' := addK E k q) rfl (al k) (fun _ => none) (fun _ => 0) (fun j => rfl) (kc k)]
theorem okE_of {A : Nat → Prop} {E : Ev} {ρ : Rh} {σ : Sg} (hn : (ks E).Nodup) (hD : va_D A (wl E ρ σ)) : okE E ∧ ∀ k ∈ ks E, A (ad E k) := by
  refine ⟨⟨hn, fun k hk k' hk' e => ?_⟩, fun k hk => ?_⟩
  · obtain ⟨i, hi⟩ := ks_at hk
    obtain ⟨j, hj⟩ := ks_at hk'
    have hij := hD.1 i j _ _ (wl_at ρ σ hi) (wl_at ρ σ hj) e
    subst hij
    rw [hi] at hj; exact Option.some.inj hj
  · obtain ⟨i, hi⟩ := ks_at hk
    exact hD.2 i _ (wl_at ρ σ hi)
theorem nodup_addK {E : Ev} {k : Ky} (q : Nat) (hn : (ks E).Nodup) (hk : k ∉ ks E) : (ks (addK E k q)).Nodup := by
  rw [ks_addK]
  refine List.nodup_append.mpr ⟨hn, by simp, ?_⟩
  intro a ha b hb
  rw [List.mem_singleton] at hb
  rw [hb]
  exact fun e => hk (e ▸ ha)
theorem clo_addK {E : Ev} {ρ : Rh} {k : Ky} (q : Nat) (h : clo E ρ) : clo (addK E k q) (srr ρ k (fun _ => none)) := by
  intro k' hk' j t ht
  by_cases e : k' = k
  · rw [e, srr_at] at ht; cases ht
  · rw [srr_ne _ _ _ e] at ht
    have : k' ∈ ks E := by
      rcases List.mem_append.mp hk' with h1 | h1
      · exact h1
      · exact absurd (List.mem_singleton.mp h1) e
    exact List.mem_append_left _ (h k' this j t ht)
theorem clo_upr {E : Ev} {ρ : Rh} {k t : Ky} {j : Nat} (h : clo E ρ) (ht : t ∈ ks E) : clo E (upr ρ k j t) := by
  intro k' hk' j' t' e
  unfold upr at e
  split at e
  · cases e; exact ht
  · exact h k' hk' j' t' e
theorem sw_addK {E : Ev} {s : State} {k : Ky} {q : Nat} (h : sw E s) : sw (addK E k q) s := h
/-- S: the keys that came, T: those whose rows may have changed -/
def Gr (S T : Ky → Prop) (a b : St3) : Prop := (b.1.1 = a.1.1 ∧ b.1.2.1 = a.1.2.1) ∧ (∀ k, k ∈ ks b.1 ↔ (k ∈ ks a.1 ∨ S k)) ∧ (∀ k ∈ ks a.1, ad b.1 k = ad a.1 k) ∧ ∀ k, ¬ S k → ¬ T k → b.2.1 k = a.2.1 k ∧ b.2.2 k = a.2.2 k
theorem Gr.rf (S T : Ky → Prop) (hS : ∀ k, ¬ S k) (a : St3) : Gr S T a a := ⟨⟨rfl, rfl⟩, fun k => ⟨fun h => Or.inl h, fun h => h.resolve_right (hS k)⟩, fun _ _ => rfl, fun _ _ _ => ⟨rfl, rfl⟩⟩
theorem Gr.tr {S1 T1 S2 T2 S T : Ky → Prop} {a b c : St3} (h : Gr S1 T1 a b) (h2 : Gr S2 T2 b c) (hS : ∀ k, S k ↔ S1 k ∨ S2 k) (hT : ∀ k, (T1 k ∨ T2 k) → S k ∨ T k) : Gr S T a c := by
  refine ⟨⟨h2.1.1.trans h.1.1, h2.1.2.trans h.1.2⟩, fun k => ?_, fun k hk => (h2.2.2.1 k ((h.2.1 k).mpr (Or.inl hk))).trans (h.2.2.1 k hk), fun k h1 h3 => ?_⟩
  · rw [h2.2.1 k, h.2.1 k, hS k, or_assoc]
  · have n1 : ¬ S1 k := fun q => h1 ((hS k).mpr (Or.inl q))
    have n2 : ¬ S2 k := fun q => h1 ((hS k).mpr (Or.inr q))
    have m1 : ¬ T1 k := fun q => (hT k (Or.inl q)).elim h1 h3
    have m2 : ¬ T2 k := fun q => (hT k (Or.inr q)).elim h1 h3
    obtain ⟨a1, a2⟩ := h.2.2.2 k n1 m1
    obtain ⟨b1, b2⟩ := h2.2.2.2 k n2 m2
    exact ⟨b1.trans a1, b2.trans a2⟩
theorem Gr.add {a : St3} {k : Ky} (q : Nat) (T : Ky → Prop) : Gr (fun k' => k' = k) T a (addK a.1 k q, srr a.2.1 k (fun _ => none), sr a.2.2 k (fun _ => 0)) ∨ k ∈ ks a.1 := by
  by_cases hk : k ∈ ks a.1
  · exact Or.inr hk
  · refine Or.inl ⟨⟨rfl, rfl⟩, fun k' => ?_, fun k' h' => ad_addK_ne _ _ _ (fun e => hk (e ▸ h')), fun k' h1 _ => ⟨srr_ne _ _ _ h1, sr_ne _ _ _ h1⟩⟩
    rw [ks_addK, List.mem_append, List.mem_singleton]
theorem Gr.put {a : St3} {k t : Ky} {j : Nat} : Gr (fun _ => False) (fun k' => k' = k) a (a.1, upr a.2.1 k j t, a.2.2) :=
  ⟨⟨rfl, rfl⟩, fun k' => ⟨fun h => Or.inl h, fun h => h.resolve_right id⟩, fun _ _ => rfl, fun k' _ h => ⟨upr_nk _ _ _ _ h, rfl⟩⟩
def wd (k : Ky) : Nat := match kc k with
  | 0 => 4
  | 1 => 2
  | 2 => 3
  | 3 => 5
  | 4 => 7
  | 5 => 11
  | 6 => 2
  | 7 => 6
  | 8 => 18
  | _ => al k
def ini0 (k : Ky) (j : Nat) : Int32 := match k, j with
  | (0, _, e, _), 0 => nI e
  | _, _ => 0
/-- the places that hold references -/
def isRf (k : Ky) (j : Nat) : Bool := match kc k, j with
  | 0, 2 => true
  | 0, 3 => true
  | 2, 0 => true
  | 4, 0 => true
  | 4, 1 => true
  | 5, 4 => true
  | 5, 5 => true
  | 6, 0 => true
  | 7, _ => true
  | 8, 3 => true
  | 8, 4 => true
  | 8, 5 => true
  | 8, 7 => true
  | 8, 8 => true
  | 8, 11 => true
  | 8, 12 => true
  | 8, 13 => true
  | 8, 14 => true
  | 8, 16 => true
  | 8, 17 => true
  | 11, _ => true
  | 12, _ => true
  | 13, _ => true
  | _, _ => false
/-- the row is as the constructor leaves it -/
def Fi (k : Ky) (b : St3) : Prop := ∀ j, j < wd k → (isRf k j = true → b.2.1 k j = rh0 k j) ∧ b.2.2 k j = ini0 k j
def Ok3 (b : St3) : Prop := okE b.1 ∧ clo b.1 b.2.1
def PP (S T : Ky → Prop) (a : St3) (A : Nat → Prop) (b : St3) : Prop := Gr S T a b ∧ Ok3 b ∧ (∀ k ∈ ks b.1, A (ad b.1 k)) ∧ ∀ k, (S k ∨ T k) → Fi k b
def AN (E : Ev) (sz : Nat) : Nat → Prop := fun q => AL E q ∨ sz ≤ q
/-- a constructor's contract -/
def CN (l : Launch) (y : MethodName) (ws : List Cond) (fr lc mc ms : Nat) (a : St3) (as : List Value) (post : Nat → St3 → Prop) : Prop :=
  ∀ sz : Nat, Met l y ws { frames := fr, cells := mc, slots := ms, locals := lc } (va_Pc as (fun U => U.heap.size = sz ∧ va_P a.1.1 vwCl (wl a.1 a.2.1 a.2.2) U.heap ∧ sw2 a.1 U)) (va_Qv (fun b : St3 => post sz b ∧ a.1.1 = b.1.1) (fun b t => va_P b.1.1 vwCl (wl b.1 b.2.1 b.2.2) t.heap) (AN a.1 sz)) mc ms (AN a.1 sz)
theorem arrV_congr {cA : ClassId} {N : Nat} {f g : Nat → Value} (h : ∀ j, j < N → f j = g j) : arrV cA N f = arrV cA N g := by
  unfold arrV
  congr 1
  exact congrArg _ (funext fun j => h j.val j.isLt)
/-- only the places that there are count -/
theorem va_ext {D : va_G} {E : Ev} {ρ ρ' : Rh} {σ σ' : Sg} {H : Heap} (hkc : ∀ k ∈ ks E, kc k ≤ 13) (h : ∀ k ∈ ks E, ∀ j, j < wd k → (isRf k j = true → ρ k j = ρ' k j) ∧ σ k j = σ' k j) (hP : va_P D vwCl (wl E ρ σ) H) : va_P D vwCl (wl E ρ' σ') H := by
  intro i x hx
  unfold wl at hx
  rw [List.getElem?_map] at hx
  cases hk : (ks E)[i]? with
  | none => rw [hk] at hx; cases hx
  | some k =>
    rw [hk] at hx
    cases hx
    have h0 := hP i _ (wl_at ρ σ hk)
    have hj := h k (List.mem_of_getElem? hk)
    have hb := hkc k (List.mem_of_getElem? hk)
    show va_at D vwCl (ad E k, en E ρ' σ' k) H
    unfold en at h0 ⊢
    unfold wd isRf at hj
    match hc : kc k with
    | 0 =>
      rw [hc] at h0 hj
      have s0 : σ k 0 = σ' k 0 := (hj 0 (show 0 < 4 from by decide)).2
      have s1 : σ k 1 = σ' k 1 := (hj 1 (show 1 < 4 from by decide)).2
      have r2 : ρ k 2 = ρ' k 2 := (hj 2 (show 2 < 4 from by decide)).1 rfl
      have r3 : ρ k 3 = ρ' k 3 := (hj 3 (show 3 < 4 from by decide)).1 rfl
      have e : ec E (al k) (ρ' k) (σ' k) 0 = ec E (al k) (ρ k) (σ k) 0 := by simp only [ec, s0, s1, r2, r3]
      rw [e]; exact h0
    | 1 =>
      rw [hc] at h0 hj
      have s0 : σ k 0 = σ' k 0 := (hj 0 (show 0 < 2 from by decide)).2
      have s1 : σ k 1 = σ' k 1 := (hj 1 (show 1 < 2 from by decide)).2
      have e : ec E (al k) (ρ' k) (σ' k) 1 = ec E (al k) (ρ k) (σ k) 1 := by simp only [ec, s0, s1]
      rw [e]; exact h0
    | 2 =>
      rw [hc] at h0 hj
      have r0 : ρ k 0 = ρ' k 0 := (hj 0 (show 0 < 3 from by decide)).1 rfl
      have s1 : σ k 1 = σ' k 1 := (hj 1 (show 1 < 3 from by decide)).2
      have s2 : σ k 2 = σ' k 2 := (hj 2 (show 2 < 3 from by decide)).2
      have e : ec E (al k) (ρ' k) (σ' k) 2 = ec E (al k) (ρ k) (σ k) 2 := by simp only [ec, r0, s1, s2]
      rw [e]; exact h0
    | 3 =>
      rw [hc] at h0 hj
      have s0 : σ k 0 = σ' k 0 := (hj 0 (show 0 < 5 from by decide)).2
      have s1 : σ k 1 = σ' k 1 := (hj 1 (show 1 < 5 from by decide)).2
      have s2 : σ k 2 = σ' k 2 := (hj 2 (show 2 < 5 from by decide)).2
      have s3 : σ k 3 = σ' k 3 := (hj 3 (show 3 < 5 from by decide)).2
      have s4 : σ k 4 = σ' k 4 := (hj 4 (show 4 < 5 from by decide)).2
      have e : ec E (al k) (ρ' k) (σ' k) 3 = ec E (al k) (ρ k) (σ k) 3 := by simp only [ec, s0, s1, s2, s3, s4]
      rw [e]; exact h0
    | 4 =>
      rw [hc] at h0 hj
      have r0 : ρ k 0 = ρ' k 0 := (hj 0 (show 0 < 7 from by decide)).1 rfl
      have r1 : ρ k 1 = ρ' k 1 := (hj 1 (show 1 < 7 from by decide)).1 rfl
      have s2 : σ k 2 = σ' k 2 := (hj 2 (show 2 < 7 from by decide)).2
      have s3 : σ k 3 = σ' k 3 := (hj 3 (show 3 < 7 from by decide)).2
      have s4 : σ k 4 = σ' k 4 := (hj 4 (show 4 < 7 from by decide)).2
      have s5 : σ k 5 = σ' k 5 := (hj 5 (show 5 < 7 from by decide)).2
      have s6 : σ k 6 = σ' k 6 := (hj 6 (show 6 < 7 from by decide)).2
      have e : ec E (al k) (ρ' k) (σ' k) 4 = ec E (al k) (ρ k) (σ k) 4 := by simp only [ec, r0, r1, s2, s3, s4, s5, s6]
      rw [e]; exact h0
    | 5 =>
      rw [hc] at h0 hj
      have s0 : σ k 0 = σ' k 0 := (hj 0 (show 0 < 11 from by decide)).2
      have s1 : σ k 1 = σ' k 1 := (hj 1 (show 1 < 11 from by decide)).2
      have s2 : σ k 2 = σ' k 2 := (hj 2 (show 2 < 11 from by decide)).2
      have s3 : σ k 3 = σ' k 3 := (hj 3 (show 3 < 11 from by decide)).2
      have r4 : ρ k 4 = ρ' k 4 := (hj 4 (show 4 < 11 from by decide)).1 rfl
      have r5 : ρ k 5 = ρ' k 5 := (hj 5 (show 5 < 11 from by decide)).1 rfl
      have s6 : σ k 6 = σ' k 6 := (hj 6 (show 6 < 11 from by decide)).2
      have s7 : σ k 7 = σ' k 7 := (hj 7 (show 7 < 11 from by decide)).2
      have s8 : σ k 8 = σ' k 8 := (hj 8 (show 8 < 11 from by decide)).2
      have s9 : σ k 9 = σ' k 9 := (hj 9 (show 9 < 11 from by decide)).2
      have s10 : σ k 10 = σ' k 10 := (hj 10 (show 10 < 11 from by decide)).2
      have e : ec E (al k) (ρ' k) (σ' k) 5 = ec E (al k) (ρ k) (σ k) 5 := by simp only [ec, s0, s1, s2, s3, r4, r5, s6, s7, s8, s9, s10]
      rw [e]; exact h0
    | 6 =>
      rw [hc] at h0 hj
      have r0 : ρ k 0 = ρ' k 0 := (hj 0 (show 0 < 2 from by decide)).1 rfl
      have s1 : σ k 1 = σ' k 1 := (hj 1 (show 1 < 2 from by decide)).2
      have e : ec E (al k) (ρ' k) (σ' k) 6 = ec E (al k) (ρ k) (σ k) 6 := by simp only [ec, r0, s1]
      rw [e]; exact h0
    | 7 =>
      rw [hc] at h0 hj
      have r0 : ρ k 0 = ρ' k 0 := (hj 0 (show 0 < 6 from by decide)).1 rfl
      have r1 : ρ k 1 = ρ' k 1 := (hj 1 (show 1 < 6 from by decide)).1 rfl
      have r2 : ρ k 2 = ρ' k 2 := (hj 2 (show 2 < 6 from by decide)).1 rfl
      have r3 : ρ k 3 = ρ' k 3 := (hj 3 (show 3 < 6 from by decide)).1 rfl
      have r4 : ρ k 4 = ρ' k 4 := (hj 4 (show 4 < 6 from by decide)).1 rfl
      have r5 : ρ k 5 = ρ' k 5 := (hj 5 (show 5 < 6 from by decide)).1 rfl
      have e : ec E (al k) (ρ' k) (σ' k) 7 = ec E (al k) (ρ k) (σ k) 7 := by simp only [ec, r0, r1, r2, r3, r4, r5]
      rw [e]; exact h0
    | 8 =>
      rw [hc] at h0 hj
      have s0 : σ k 0 = σ' k 0 := (hj 0 (show 0 < 18 from by decide)).2
      have s1 : σ k 1 = σ' k 1 := (hj 1 (show 1 < 18 from by decide)).2
      have s2 : σ k 2 = σ' k 2 := (hj 2 (show 2 < 18 from by decide)).2
      have r3 : ρ k 3 = ρ' k 3 := (hj 3 (show 3 < 18 from by decide)).1 rfl
      have r4 : ρ k 4 = ρ' k 4 := (hj 4 (show 4 < 18 from by decide)).1 rfl
      have r5 : ρ k 5 = ρ' k 5 := (hj 5 (show 5 < 18 from by decide)).1 rfl
      have s6 : σ k 6 = σ' k 6 := (hj 6 (show 6 < 18 from by decide)).2
      have r7 : ρ k 7 = ρ' k 7 := (hj 7 (show 7 < 18 from by decide)).1 rfl
      have r8 : ρ k 8 = ρ' k 8 := (hj 8 (show 8 < 18 from by decide)).1 rfl
      have s9 : σ k 9 = σ' k 9 := (hj 9 (show 9 < 18 from by decide)).2
      have s10 : σ k 10 = σ' k 10 := (hj 10 (show 10 < 18 from by decide)).2
      have r11 : ρ k 11 = ρ' k 11 := (hj 11 (show 11 < 18 from by decide)).1 rfl
      have r12 : ρ k 12 = ρ' k 12 := (hj 12 (show 12 < 18 from by decide)).1 rfl
      have r13 : ρ k 13 = ρ' k 13 := (hj 13 (show 13 < 18 from by decide)).1 rfl
      have r14 : ρ k 14 = ρ' k 14 := (hj 14 (show 14 < 18 from by decide)).1 rfl
      have s15 : σ k 15 = σ' k 15 := (hj 15 (show 15 < 18 from by decide)).2
      have r16 : ρ k 16 = ρ' k 16 := (hj 16 (show 16 < 18 from by decide)).1 rfl
      have r17 : ρ k 17 = ρ' k 17 := (hj 17 (show 17 < 18 from by decide)).1 rfl
      have e : ec E (al k) (ρ' k) (σ' k) 8 = ec E (al k) (ρ k) (σ k) 8 := by simp only [ec, s0, s1, s2, r3, r4, r5, s6, r7, r8, s9, s10, r11, r12, r13, r14, s15, r16, r17]
      rw [e]; exact h0
    | 9 =>
      rw [hc] at h0 hj
      show H[ad E k]? = some (vp_cell (E.2.1 0) (al k, .inl (σ' k)))
      rw [vp_cell_i, arrV_congr (g := fun j => .int (σ k j)) (fun j hl => by rw [(hj j hl).2])]
      exact h0
    | 10 =>
      rw [hc] at h0 hj
      show H[ad E k]? = some (vp_cell (E.2.1 1) (al k, .inl (σ' k)))
      rw [vp_cell_i, arrV_congr (g := fun j => .int (σ k j)) (fun j hl => by rw [(hj j hl).2])]
      exact h0
    | 11 =>
      rw [hc] at h0 hj
      show H[ad E k]? = some (vp_cell (E.2.1 2) (al k, .inr (.inr (.inr (.inr (fun i => (ρ' k i).map (ad E)))))))
      rw [vp_cell_q, arrV_congr (g := fun j => va_rf ((ρ k j).map (ad E))) (fun j hl => by rw [(hj j hl).1 rfl])]
      exact h0
    | 12 =>
      rw [hc] at h0 hj
      show H[ad E k]? = some (vp_cell (E.2.1 3) (al k, .inr (.inr (.inr (.inr (fun i => (ρ' k i).map (ad E)))))))
      rw [vp_cell_q, arrV_congr (g := fun j => va_rf ((ρ k j).map (ad E))) (fun j hl => by rw [(hj j hl).1 rfl])]
      exact h0
    | 13 =>
      rw [hc] at h0 hj
      show H[ad E k]? = some (vp_cell (E.2.1 4) (al k, .inr (.inr (.inr (.inr (fun i => (ρ' k i).map (ad E)))))))
      rw [vp_cell_q, arrV_congr (g := fun j => va_rf ((ρ k j).map (ad E))) (fun j hl => by rw [(hj j hl).1 rfl])]
      exact h0
    | n + 14 => exact absurd hb (by omega)
section CTOR
variable {p : Program} {l : Launch} {e : Env} {R : Room} {s : State} {m : MethodId} {args : Array Value} {below : List Frame} {meth : Method} {c : Code} {cells slots : Nat} {Q : State → Prop} {A : Nat → Prop} {E : Ev} {ρ : Rh} {own : String} {cc : ByteArray} {nL : Nat} {Ts : List Cond} {pc q : Nat} {lv lv' : List (Option Value)} {st : List Value} {σ σ' : Sg}
theorem cx_addK {k : Ky} {z : Nat} (cx : Cx p s m args c E A own cc nL Ts) (hok : okE (addK E k z) ∧ ∀ k' ∈ ks (addK E k z), A (ad (addK E k z) k')) : Cx p s m args c (addK E k z) A own cc nL Ts := ⟨cx.1, cx.2.1, hok.1, hok.2⟩
theorem A_new (cx : Cx p s m args c E A own cc nL Ts) {C : String} {T : u_T} {N ci idx : Nat} (k : Ky) (ty : Nat → FieldType) (hty : ∀ j, j < N → parseFieldDescriptor (T j).2.2.1 = some (ty j)) (hin : ∀ w ∈ u_ws C T N, w ∈ Ts) (hcl : Cond.classLink own idx C ∈ Ts) (hinst : Cond.instantiable C N ∈ Ts) (hini : Cond.initialized C ∈ Ts) (hc : vwCl[ci]? = some (C, T, N)) (hd : decode cc pc = .ok (.new idx, 3)) (hA : ∀ q, s.heap.size ≤ q → A q) (hnk : k ∉ ks E) (hclo : clo E ρ) {fs : List Value} (hfs : ec E (al k) (fun _ => none) (fun _ => 0) (kc k) = .inr (ci, fs)) (hdv : ∀ j, j < N → defaultValue (ty j) = vp_V fs j) (hcells : cells + 1 ≤ R.cells) (hslots : slots + N ≤ R.slots) (hq : pc + 3 = q)
    (kk : ∀ z : Nat, Cx p s m args c (addK E k z) A own cc nL Ts → AW p l e R s m args below meth c (cells + 1) (slots + N) Q A (addK E k z) (srr ρ k (fun _ => none)) q lv (.ref (ad (addK E k z) k) :: st) (sr σ k (fun _ => 0))) : AW p l e R s m args below meth c cells slots Q A E ρ pc lv st σ := by
  subst hq
  intro H locs ls hP hS hl
  refine va_new (ci := ci) (fs := fs) (C := C) (T := T) (N := N) cx.1.1 cx.1.2.1 cx.1.2.2.2.2 hin ty hty cx.1.2.2.2.1 (cx.1.2.2.2.2 _ hcl) (cx.1.2.2.2.2 _ hinst) (cx.1.2.2.2.2 _ hini) cx.2.1.1 hP (wl_D cx.2.2.1 cx.2.2.2 ρ σ) hS hA hc hdv hcells hslots hd (fun z H1 hP1 hD1 hS1 => ?_)
  rw [← hfs, ← wl_addK z hnk hclo] at hP1 hD1
  have hok := okE_of (nodup_addK z cx.2.2.1.1 hnk) hD1
  have h := kk z (cx_addK cx hok) H1 locs ls hP1 hS1 hl
  rw [ad_addK] at h
  exact h
theorem ra_uniq {U : State} {c1 c2 : ClassId} {ty : FieldType} (h1 : va_RA U c1 ty) (h2 : va_RA U c2 ty) : c1 = c2 := by
  cases ty with
  | object C =>
    obtain ⟨_, _, _, _, _, a⟩ := h1
    obtain ⟨_, _, _, _, _, b⟩ := h2
    exact Option.some.inj (a.symm.trans b)
  | _ => exact Option.some.inj (Eq.trans (Eq.symm h1) h2)
theorem A_newarr (cx : Cx p s m args c E A own cc nL Ts) {atype : ArrayType} {ty : FieldType} (k : Ky) (t0 : Nat) (harr : Cond.arrayClass (newarray.typeOf atype) ∈ Ts) (hty : newarray.typeOf atype = ty) (ht : (tys E)[t0]? = some (E.2.1 t0, ty)) (hec : ec E (al k) (fun _ => none) (fun _ => 0) (kc k) = .inl (E.2.1 t0, al k, .inl (fun _ => 0))) (hdf : defaultValue ty = .int 0) {n : Int32} (hd : decode cc pc = .ok (.newarray atype, 2)) (hA : ∀ q, s.heap.size ≤ q → A q) (hnk : k ∉ ks E) (hclo : clo E ρ) (hn : ¬ n < 0) (hN : n.toNatClampNeg = al k) (hbytes : al k * componentBytes ty ≤ 536870912) (hcells : cells + 1 ≤ R.cells) (hslots : slots + al k ≤ R.slots) (hq : pc + 2 = q)
    (kk : ∀ z : Nat, Cx p s m args c (addK E k z) A own cc nL Ts → AW p l e R s m args below meth c (cells + 1) (slots + al k) Q A (addK E k z) (srr ρ k (fun _ => none)) q lv (.ref (ad (addK E k z) k) :: st) (sr σ k (fun _ => 0))) : AW p l e R s m args below meth c cells slots Q A E ρ pc lv (.int n :: st) σ := by
  subst hq
  intro H locs ls hP hS hl
  refine va_newa (atype := atype) (ty := ty) (a0 := (al k, .inl (fun _ => 0))) cx.1.1 cx.1.2.1 (cx.1.2.2.2.2 _ harr) hty cx.2.1.1 hP (wl_D cx.2.2.1 cx.2.2.2 ρ σ) hS hA (fun cA => by rw [vp_cell_i, hdf]) hn hN hbytes hcells hslots hd (fun z cA H1 hK1 hP1 hD1 hS1 => ?_)
  have e1 : cA = E.2.1 t0 := by
    have h1 := (hK1.2 (tys E).length (cA, ty) (by rw [List.getElem?_append_right (Nat.le_refl _)]; simp)).2
    exact ra_uniq h1 (cx.2.1.1.2 t0 _ ht).2
  rw [e1, ← hec, ← wl_addK z hnk hclo] at hP1 hD1
  have h := kk z (cx_addK cx (okE_of (nodup_addK z cx.2.2.1.1 hnk) hD1)) H1 locs ls hP1 hS1 hl
  rw [ad_addK] at h
  exact h
theorem A_anew (cx : Cx p s m args c E A own cc nL Ts) {C : String} {idx : Nat} (k : Ky) (t0 : Nat) (hcl : Cond.classLink own idx C ∈ Ts) (hao : va_AO C s) (ht : (tys E)[t0]? = some (E.2.1 t0, .object C)) (hec : ec E (al k) (fun _ => none) (fun _ => 0) (kc k) = .inl (E.2.1 t0, al k, .inr (.inr (.inr (.inr (fun _ => none)))))) {n : Int32} (hd : decode cc pc = .ok (.anewarray idx, 3)) (hA : ∀ q, s.heap.size ≤ q → A q) (hnk : k ∉ ks E) (hclo : clo E ρ) (hn : ¬ n < 0) (hN : n.toNatClampNeg = al k) (hbytes : al k * 4 ≤ 536870912) (hcells : cells + 1 ≤ R.cells) (hslots : slots + al k ≤ R.slots) (hq : pc + 3 = q)
    (kk : ∀ z : Nat, Cx p s m args c (addK E k z) A own cc nL Ts → AW p l e R s m args below meth c (cells + 1) (slots + al k) Q A (addK E k z) (srr ρ k (fun _ => none)) q lv (.ref (ad (addK E k z) k) :: st) (sr σ k (fun _ => 0))) : AW p l e R s m args below meth c cells slots Q A E ρ pc lv (.int n :: st) σ := by
  subst hq
  intro H locs ls hP hS hl
  refine va_newq cx.1.1 cx.1.2.1 cx.1.2.2.2.1 (cx.1.2.2.2.2 _ hcl) hao cx.2.1.1 hP (wl_D cx.2.2.1 cx.2.2.2 ρ σ) hS hA hn hN hbytes hcells hslots hd (fun z cA H1 hK1 hP1 hD1 hS1 => ?_)
  have e1 : cA = E.2.1 t0 := by
    have h1 := (hK1.2 (tys E).length (cA, .object C) (by rw [List.getElem?_append_right (Nat.le_refl _)]; simp)).2
    exact ra_uniq h1 (cx.2.1.1.2 t0 _ ht).2
  rw [e1, ← hec, ← wl_addK z hnk hclo] at hP1 hD1
  have h := kk z (cx_addK cx (okE_of (nodup_addK z cx.2.2.1.1 hnk) hD1)) H1 locs ls hP1 hS1 hl
  rw [ad_addK] at h
  exact h
theorem A_objInit (cx : Cx p s m args c E A own cc nL Ts) {idx : Nat} (h1 : Cond.methodLink own idx objectInit ∈ Ts) (h2 : Cond.instanceMethod objectInit ∈ Ts) (h3 : Cond.code objectInit ⟨#[0xb1]⟩ 1 none ∈ Ts) {a : Nat} (hd : decode cc pc = .ok (.invokespecial idx, 3)) (hlv : lv.length = nL) (hR : 1 ≤ R.frames ∧ (st.map fun v => v.category).sum + 12 ≤ R.locals) (hq : pc + 3 = q) (kk : AW p l e R s m args below meth c cells slots Q A E ρ q lv st σ) : AW p l e R s m args below meth c cells slots Q A E ρ pc lv (.ref a :: st) σ := by
  subst hq
  intro H locs ls hP hS hl
  refine W.objInit cx.1.1 cx.1.2.1 cx.1.2.2.2.1 (cx.1.2.2.2.2 _ h1) (cx.1.2.2.2.2 _ h2) (cx.1.2.2.2.2 _ h3) rfl (by rw [cx.1.2.2.1]; exact hl.1.trans hlv) rfl hd hR.1 (by show 2 * 0 + _ + 12 ≤ _; omega) ?_
  exact kk H locs ls hP hS hl
theorem A_widen {k n : Nat} (h1 : cells ≤ k) (h2 : slots ≤ n) (kk : AW p l e R s m args below meth c k n Q A E ρ pc lv st σ) : AW p l e R s m args below meth c cells slots Q A E ρ pc lv st σ := fun H locs ls hP hS hl => W.widen h1 h2 (kk H locs ls hP hS hl)
theorem wl_setR {E : Ev} {ρ ρ' : Rh} {σ : Sg} {q : Nat} {k : Ky} (hn : (ks E).Nodup) (hq : (ks E)[q]? = some k) (h : ∀ k', k' ≠ k → ρ' k' = ρ k') : (wl E ρ σ).set q (ad E k, en E ρ' σ k) = wl E ρ' σ :=
  map_set (f := fun k => (ad E k, en E ρ σ k)) (g := fun k => (ad E k, en E ρ' σ k)) hn hq (fun k' _ h2 => by unfold en; rw [h k' h2])
theorem A_aastore (cx : Cx p s m args c E A own cc nL Ts) {k t : Ky} {j t0 ci : Nat} {C : String} {T : u_T} {N : Nat} {i : Int32} (hd : decode cc pc = .ok (.aastore, 1)) (hm : k ∈ ks E) (htm : t ∈ ks E) (htc : kc t = ci) (hci : vwCl[ci]? = some (C, T, N)) (ht0 : (tys E)[t0]? = some (E.2.1 t0, .object C)) (hec : ∀ r f, ec E (al k) r f (kc k) = .inl (E.2.1 t0, al k, .inr (.inr (.inr (.inr (fun i => (r i).map (ad E))))))) (hi : i = nI j) (hj : j < al k) (hq : pc + 1 = q) (kk : AW p l e R s m args below meth c cells slots Q A E (upr ρ k j t) q lv st σ) : AW p l e R s m args below meth c cells slots Q A E ρ pc lv (.ref (ad E t) :: .int i :: .ref (ad E k) :: st) σ := by
  subst hq hi
  intro H locs ls hP hS hl
  obtain ⟨x, hx⟩ := ks_at hm
  obtain ⟨y, hy⟩ := ks_at htm
  have he := wl_at ρ σ hx
  have hye := wl_at ρ σ hy
  unfold en at he hye
  rw [hec] at he
  obtain ⟨fs, hfs⟩ := ec_obj E (al t) (ρ t) (σ t) (vw_lt hci)
  rw [htc, hfs] at hye
  have hb : al k < 2 ^ 31 := al_lt k
  refine va_astq cx.1.1 cx.1.2.1 cx.2.1.1 hP (wl_D cx.2.2.1 cx.2.2.2 ρ σ) hS x t0 y ci he ht0 hye hci (vp_in_nI hj hb) hd (fun H1 locs1 hP1 _ hS1 => ?_)
  rw [nI_clamp (Nat.lt_trans hj hb)] at hP1
  have hen : en E (upr ρ k j t) σ k = .inl (E.2.1 t0, al k, .inr (.inr (.inr (.inr (va_up (fun i => (ρ k i).map (ad E)) j (some (ad E t))))))) := by
    have hfun : (fun i => (upr ρ k j t k i).map (ad E)) = va_up (fun i => (ρ k i).map (ad E)) j (some (ad E t)) := by
      funext i
      unfold va_up upr
      by_cases hij : i = j
      · simp [hij]
      · simp [hij]
    unfold en
    rw [hec, hfun]
  rw [← hen, wl_setR cx.2.2.1.1 hx (fun k' h' => upr_nk ρ k j t h')] at hP1
  exact kk H1 locs1 ls hP1 hS1 hl
end CTOR
section CTOR2
variable {p : Program} {l : Launch} {e : Env} {R : Room} {s : State} {m : MethodId} {args : Array Value} {below : List Frame} {meth : Method} {c : Code} {cells slots : Nat} {Q : State → Prop} {A : Nat → Prop} {E : Ev} {ρ : Rh} {cc : ByteArray} {nL : Nat} {Ts : List Cond} {pc q : Nat} {lv : List (Option Value)} {st : List Value} {σ : Sg}
theorem fX0_2 (cx : Cx p s m args c E A RX0 cc nL Ts) (hin2 : meth.name = "<init>") {k t : Ky} {idx : Nat} (hin : ∀ w ∈ u_ws RX0 TX0 4, w ∈ Ts) (hf : Cond.fieldLink RX0 idx (TX0 2).1 (TX0 2).2.1 (TX0 2).2.2.1 ∈ Ts) (hd : decode cc pc = .ok (.putfield idx, 3)) (hk : kc k = 0) (hm : k ∈ ks E) (hq : pc + 3 = q) (kk : AW p l e R s m args below meth c cells slots Q A E (upr ρ k 2 t) q lv st σ) : AW p l e R s m args below meth c cells slots Q A E ρ pc lv (.ref (ad E t) :: .ref (ad E k) :: st) σ := fun H locs ls hP hS hl => by
  subst hq
  obtain ⟨i, hi⟩ := ks_at hm
  have he := wl_at ρ σ hi
  unfold en at he
  rw [hk] at he
  refine va_putF (T := TX0) (N := 4) (ci := 0) cx.1.1 cx.1.2.1 cx.1.2.2.2.2 hin tyX0 tyX0_ok nmX0 cx.1.2.2.2.1 cx.2.1.1 hP (wl_D cx.2.2.1 cx.2.2.2 ρ σ) hS i he rfl 2 (by decide) (cx.1.2.2.2.2 _ hf) (fun _ h => h) rfl hin2 rfl (ty := .array (.object "BundledLinks$Port")) (by decide +kernel) rfl rfl (Nat.le_of_ble_eq_true rfl) hd (fun H1 locs1 hP1 _ hS1 => ?_)
  have hx : en E (upr ρ k 2 t) σ k = .inr (0, [.int (σ k 0), .int (σ k 1), .ref (ad E t), rv E (ρ k 3)]) := by unfold en; rw [hk]; simp [ec, upr, rv, va_rf]
  have hP2 : va_P E.1 vwCl ((wl E ρ σ).set i (ad E k, .inr (0, [.int (σ k 0), .int (σ k 1), .ref (ad E t), rv E (ρ k 3)]))) H1 := hP1
  rw [← hx, wl_setR cx.2.2.1.1 hi (fun k' h' => upr_nk ρ k 2 t h')] at hP2
  exact kk H1 locs1 ls hP2 hS1 hl
theorem fX0_3 (cx : Cx p s m args c E A RX0 cc nL Ts) (hin2 : meth.name = "<init>") {k t : Ky} {idx : Nat} (hin : ∀ w ∈ u_ws RX0 TX0 4, w ∈ Ts) (hf : Cond.fieldLink RX0 idx (TX0 3).1 (TX0 3).2.1 (TX0 3).2.2.1 ∈ Ts) (hd : decode cc pc = .ok (.putfield idx, 3)) (hk : kc k = 0) (hm : k ∈ ks E) (hq : pc + 3 = q) (kk : AW p l e R s m args below meth c cells slots Q A E (upr ρ k 3 t) q lv st σ) : AW p l e R s m args below meth c cells slots Q A E ρ pc lv (.ref (ad E t) :: .ref (ad E k) :: st) σ := fun H locs ls hP hS hl => by
  subst hq
  obtain ⟨i, hi⟩ := ks_at hm
  have he := wl_at ρ σ hi
  unfold en at he
  rw [hk] at he
  refine va_putF (T := TX0) (N := 4) (ci := 0) cx.1.1 cx.1.2.1 cx.1.2.2.2.2 hin tyX0 tyX0_ok nmX0 cx.1.2.2.2.1 cx.2.1.1 hP (wl_D cx.2.2.1 cx.2.2.2 ρ σ) hS i he rfl 3 (by decide) (cx.1.2.2.2.2 _ hf) (fun _ h => h) rfl hin2 rfl (ty := .array (.object "BundledLinks$Flow")) (by decide +kernel) rfl rfl (Nat.le_of_ble_eq_true rfl) hd (fun H1 locs1 hP1 _ hS1 => ?_)
  have hx : en E (upr ρ k 3 t) σ k = .inr (0, [.int (σ k 0), .int (σ k 1), rv E (ρ k 2), .ref (ad E t)]) := by unfold en; rw [hk]; simp [ec, upr, rv, va_rf]
  have hP2 : va_P E.1 vwCl ((wl E ρ σ).set i (ad E k, .inr (0, [.int (σ k 0), .int (σ k 1), rv E (ρ k 2), .ref (ad E t)]))) H1 := hP1
  rw [← hx, wl_setR cx.2.2.1.1 hi (fun k' h' => upr_nk ρ k 3 t h')] at hP2
  exact kk H1 locs1 ls hP2 hS1 hl
theorem fX2_0 (cx : Cx p s m args c E A RX2 cc nL Ts) (hin2 : meth.name = "<init>") {k t : Ky} {idx : Nat} (hin : ∀ w ∈ u_ws RX2 TX2 3, w ∈ Ts) (hf : Cond.fieldLink RX2 idx (TX2 0).1 (TX2 0).2.1 (TX2 0).2.2.1 ∈ Ts) (hd : decode cc pc = .ok (.putfield idx, 3)) (hk : kc k = 2) (hm : k ∈ ks E) (hq : pc + 3 = q) (kk : AW p l e R s m args below meth c cells slots Q A E (upr ρ k 0 t) q lv st σ) : AW p l e R s m args below meth c cells slots Q A E ρ pc lv (.ref (ad E t) :: .ref (ad E k) :: st) σ := fun H locs ls hP hS hl => by
  subst hq
  obtain ⟨i, hi⟩ := ks_at hm
  have he := wl_at ρ σ hi
  unfold en at he
  rw [hk] at he
  refine va_putF (T := TX2) (N := 3) (ci := 2) cx.1.1 cx.1.2.1 cx.1.2.2.2.2 hin tyX2 tyX2_ok nmX2 cx.1.2.2.2.1 cx.2.1.1 hP (wl_D cx.2.2.1 cx.2.2.2 ρ σ) hS i he rfl 0 (by decide) (cx.1.2.2.2.2 _ hf) (fun _ h => h) rfl hin2 rfl (ty := .array (.object "BundledLinks$Net")) (by decide +kernel) rfl rfl (Nat.le_of_ble_eq_true rfl) hd (fun H1 locs1 hP1 _ hS1 => ?_)
  have hx : en E (upr ρ k 0 t) σ k = .inr (2, [.ref (ad E t), .int (σ k 1), .int (σ k 2)]) := by unfold en; rw [hk]; simp [ec, upr, rv, va_rf]
  have hP2 : va_P E.1 vwCl ((wl E ρ σ).set i (ad E k, .inr (2, [.ref (ad E t), .int (σ k 1), .int (σ k 2)]))) H1 := hP1
  rw [← hx, wl_setR cx.2.2.1.1 hi (fun k' h' => upr_nk ρ k 0 t h')] at hP2
  exact kk H1 locs1 ls hP2 hS1 hl
theorem fX4_0 (cx : Cx p s m args c E A RX4 cc nL Ts) (hin2 : meth.name = "<init>") {k t : Ky} {idx : Nat} (hin : ∀ w ∈ u_ws RX4 TX4 7, w ∈ Ts) (hf : Cond.fieldLink RX4 idx (TX4 0).1 (TX4 0).2.1 (TX4 0).2.2.1 ∈ Ts) (hd : decode cc pc = .ok (.putfield idx, 3)) (hk : kc k = 4) (hm : k ∈ ks E) (hq : pc + 3 = q) (kk : AW p l e R s m args below meth c cells slots Q A E (upr ρ k 0 t) q lv st σ) : AW p l e R s m args below meth c cells slots Q A E ρ pc lv (.ref (ad E t) :: .ref (ad E k) :: st) σ := fun H locs ls hP hS hl => by
  subst hq
  obtain ⟨i, hi⟩ := ks_at hm
  have he := wl_at ρ σ hi
  unfold en at he
  rw [hk] at he
  refine va_putF (T := TX4) (N := 7) (ci := 4) cx.1.1 cx.1.2.1 cx.1.2.2.2.2 hin tyX4 tyX4_ok nmX4 cx.1.2.2.2.1 cx.2.1.1 hP (wl_D cx.2.2.1 cx.2.2.2 ρ σ) hS i he rfl 0 (by decide) (cx.1.2.2.2.2 _ hf) (fun _ h => h) rfl hin2 rfl (ty := .object "BundledLinks$End") (by decide +kernel) rfl rfl (Nat.le_of_ble_eq_true rfl) hd (fun H1 locs1 hP1 _ hS1 => ?_)
  have hx : en E (upr ρ k 0 t) σ k = .inr (4, [.ref (ad E t), rv E (ρ k 1), .int (σ k 2), .int (σ k 3), .int (σ k 4), .int (σ k 5), .int (σ k 6)]) := by unfold en; rw [hk]; simp [ec, upr, rv, va_rf]
  have hP2 : va_P E.1 vwCl ((wl E ρ σ).set i (ad E k, .inr (4, [.ref (ad E t), rv E (ρ k 1), .int (σ k 2), .int (σ k 3), .int (σ k 4), .int (σ k 5), .int (σ k 6)]))) H1 := hP1
  rw [← hx, wl_setR cx.2.2.1.1 hi (fun k' h' => upr_nk ρ k 0 t h')] at hP2
  exact kk H1 locs1 ls hP2 hS1 hl
theorem fX4_1 (cx : Cx p s m args c E A RX4 cc nL Ts) (hin2 : meth.name = "<init>") {k t : Ky} {idx : Nat} (hin : ∀ w ∈ u_ws RX4 TX4 7, w ∈ Ts) (hf : Cond.fieldLink RX4 idx (TX4 1).1 (TX4 1).2.1 (TX4 1).2.2.1 ∈ Ts) (hd : decode cc pc = .ok (.putfield idx, 3)) (hk : kc k = 4) (hm : k ∈ ks E) (hq : pc + 3 = q) (kk : AW p l e R s m args below meth c cells slots Q A E (upr ρ k 1 t) q lv st σ) : AW p l e R s m args below meth c cells slots Q A E ρ pc lv (.ref (ad E t) :: .ref (ad E k) :: st) σ := fun H locs ls hP hS hl => by
  subst hq
  obtain ⟨i, hi⟩ := ks_at hm
  have he := wl_at ρ σ hi
  unfold en at he
  rw [hk] at he
  refine va_putF (T := TX4) (N := 7) (ci := 4) cx.1.1 cx.1.2.1 cx.1.2.2.2.2 hin tyX4 tyX4_ok nmX4 cx.1.2.2.2.1 cx.2.1.1 hP (wl_D cx.2.2.1 cx.2.2.2 ρ σ) hS i he rfl 1 (by decide) (cx.1.2.2.2.2 _ hf) (fun _ h => h) rfl hin2 rfl (ty := .object "BundledLinks$End") (by decide +kernel) rfl rfl (Nat.le_of_ble_eq_true rfl) hd (fun H1 locs1 hP1 _ hS1 => ?_)
  have hx : en E (upr ρ k 1 t) σ k = .inr (4, [rv E (ρ k 0), .ref (ad E t), .int (σ k 2), .int (σ k 3), .int (σ k 4), .int (σ k 5), .int (σ k 6)]) := by unfold en; rw [hk]; simp [ec, upr, rv, va_rf]
  have hP2 : va_P E.1 vwCl ((wl E ρ σ).set i (ad E k, .inr (4, [rv E (ρ k 0), .ref (ad E t), .int (σ k 2), .int (σ k 3), .int (σ k 4), .int (σ k 5), .int (σ k 6)]))) H1 := hP1
  rw [← hx, wl_setR cx.2.2.1.1 hi (fun k' h' => upr_nk ρ k 1 t h')] at hP2
  exact kk H1 locs1 ls hP2 hS1 hl
theorem fX5_4 (cx : Cx p s m args c E A RX5 cc nL Ts) (hin2 : meth.name = "<init>") {k t : Ky} {idx : Nat} (hin : ∀ w ∈ u_ws RX5 TX5 11, w ∈ Ts) (hf : Cond.fieldLink RX5 idx (TX5 4).1 (TX5 4).2.1 (TX5 4).2.2.1 ∈ Ts) (hd : decode cc pc = .ok (.putfield idx, 3)) (hk : kc k = 5) (hm : k ∈ ks E) (hq : pc + 3 = q) (kk : AW p l e R s m args below meth c cells slots Q A E (upr ρ k 4 t) q lv st σ) : AW p l e R s m args below meth c cells slots Q A E ρ pc lv (.ref (ad E t) :: .ref (ad E k) :: st) σ := fun H locs ls hP hS hl => by
  subst hq
  obtain ⟨i, hi⟩ := ks_at hm
  have he := wl_at ρ σ hi
  unfold en at he
  rw [hk] at he
  refine va_putF (T := TX5) (N := 11) (ci := 5) cx.1.1 cx.1.2.1 cx.1.2.2.2.2 hin tyX5 tyX5_ok nmX5 cx.1.2.2.2.1 cx.2.1.1 hP (wl_D cx.2.2.1 cx.2.2.2 ρ σ) hS i he rfl 4 (by decide) (cx.1.2.2.2.2 _ hf) (fun _ h => h) rfl hin2 rfl (ty := .object "BundledLinks$Message") (by decide +kernel) rfl rfl (Nat.le_of_ble_eq_true rfl) hd (fun H1 locs1 hP1 _ hS1 => ?_)
  have hx : en E (upr ρ k 4 t) σ k = .inr (5, [.int (b01 (σ k 0)), .int (b01 (σ k 1)), .int (σ k 2), .int (σ k 3), .ref (ad E t), rv E (ρ k 5), .int (σ k 6), .int (σ k 7), .int (b01 (σ k 8)), .int (σ k 9), .int (σ k 10)]) := by unfold en; rw [hk]; simp [ec, upr, rv, va_rf]
  have hP2 : va_P E.1 vwCl ((wl E ρ σ).set i (ad E k, .inr (5, [.int (b01 (σ k 0)), .int (b01 (σ k 1)), .int (σ k 2), .int (σ k 3), .ref (ad E t), rv E (ρ k 5), .int (σ k 6), .int (σ k 7), .int (b01 (σ k 8)), .int (σ k 9), .int (σ k 10)]))) H1 := hP1
  rw [← hx, wl_setR cx.2.2.1.1 hi (fun k' h' => upr_nk ρ k 4 t h')] at hP2
  exact kk H1 locs1 ls hP2 hS1 hl
theorem fX5_5 (cx : Cx p s m args c E A RX5 cc nL Ts) (hin2 : meth.name = "<init>") {k t : Ky} {idx : Nat} (hin : ∀ w ∈ u_ws RX5 TX5 11, w ∈ Ts) (hf : Cond.fieldLink RX5 idx (TX5 5).1 (TX5 5).2.1 (TX5 5).2.2.1 ∈ Ts) (hd : decode cc pc = .ok (.putfield idx, 3)) (hk : kc k = 5) (hm : k ∈ ks E) (hq : pc + 3 = q) (kk : AW p l e R s m args below meth c cells slots Q A E (upr ρ k 5 t) q lv st σ) : AW p l e R s m args below meth c cells slots Q A E ρ pc lv (.ref (ad E t) :: .ref (ad E k) :: st) σ := fun H locs ls hP hS hl => by
  subst hq
  obtain ⟨i, hi⟩ := ks_at hm
  have he := wl_at ρ σ hi
  unfold en at he
  rw [hk] at he
  refine va_putF (T := TX5) (N := 11) (ci := 5) cx.1.1 cx.1.2.1 cx.1.2.2.2.2 hin tyX5 tyX5_ok nmX5 cx.1.2.2.2.1 cx.2.1.1 hP (wl_D cx.2.2.1 cx.2.2.2 ρ σ) hS i he rfl 5 (by decide) (cx.1.2.2.2.2 _ hf) (fun _ h => h) rfl hin2 rfl (ty := .object "BundledLinks$Message") (by decide +kernel) rfl rfl (Nat.le_of_ble_eq_true rfl) hd (fun H1 locs1 hP1 _ hS1 => ?_)
  have hx : en E (upr ρ k 5 t) σ k = .inr (5, [.int (b01 (σ k 0)), .int (b01 (σ k 1)), .int (σ k 2), .int (σ k 3), rv E (ρ k 4), .ref (ad E t), .int (σ k 6), .int (σ k 7), .int (b01 (σ k 8)), .int (σ k 9), .int (σ k 10)]) := by unfold en; rw [hk]; simp [ec, upr, rv, va_rf]
  have hP2 : va_P E.1 vwCl ((wl E ρ σ).set i (ad E k, .inr (5, [.int (b01 (σ k 0)), .int (b01 (σ k 1)), .int (σ k 2), .int (σ k 3), rv E (ρ k 4), .ref (ad E t), .int (σ k 6), .int (σ k 7), .int (b01 (σ k 8)), .int (σ k 9), .int (σ k 10)]))) H1 := hP1
  rw [← hx, wl_setR cx.2.2.1.1 hi (fun k' h' => upr_nk ρ k 5 t h')] at hP2
  exact kk H1 locs1 ls hP2 hS1 hl
theorem fX6_0 (cx : Cx p s m args c E A RX6 cc nL Ts) (hin2 : meth.name = "<init>") {k t : Ky} {idx : Nat} (hin : ∀ w ∈ u_ws RX6 TX6 2, w ∈ Ts) (hf : Cond.fieldLink RX6 idx (TX6 0).1 (TX6 0).2.1 (TX6 0).2.2.1 ∈ Ts) (hd : decode cc pc = .ok (.putfield idx, 3)) (hk : kc k = 6) (hm : k ∈ ks E) (hq : pc + 3 = q) (kk : AW p l e R s m args below meth c cells slots Q A E (upr ρ k 0 t) q lv st σ) : AW p l e R s m args below meth c cells slots Q A E ρ pc lv (.ref (ad E t) :: .ref (ad E k) :: st) σ := fun H locs ls hP hS hl => by
  subst hq
  obtain ⟨i, hi⟩ := ks_at hm
  have he := wl_at ρ σ hi
  unfold en at he
  rw [hk] at he
  refine va_putF (T := TX6) (N := 2) (ci := 6) cx.1.1 cx.1.2.1 cx.1.2.2.2.2 hin tyX6 tyX6_ok nmX6 cx.1.2.2.2.1 cx.2.1.1 hP (wl_D cx.2.2.1 cx.2.2.2 ρ σ) hS i he rfl 0 (by decide) (cx.1.2.2.2.2 _ hf) (fun _ h => h) rfl hin2 rfl (ty := .array .int) (by decide +kernel) rfl rfl (Nat.le_of_ble_eq_true rfl) hd (fun H1 locs1 hP1 _ hS1 => ?_)
  have hx : en E (upr ρ k 0 t) σ k = .inr (6, [.ref (ad E t), .int (σ k 1)]) := by unfold en; rw [hk]; simp [ec, upr, rv, va_rf]
  have hP2 : va_P E.1 vwCl ((wl E ρ σ).set i (ad E k, .inr (6, [.ref (ad E t), .int (σ k 1)]))) H1 := hP1
  rw [← hx, wl_setR cx.2.2.1.1 hi (fun k' h' => upr_nk ρ k 0 t h')] at hP2
  exact kk H1 locs1 ls hP2 hS1 hl
theorem fX7_0 (cx : Cx p s m args c E A RX7 cc nL Ts) (hin2 : meth.name = "<init>") {k t : Ky} {idx : Nat} (hin : ∀ w ∈ u_ws RX7 TX7 6, w ∈ Ts) (hf : Cond.fieldLink RX7 idx (TX7 0).1 (TX7 0).2.1 (TX7 0).2.2.1 ∈ Ts) (hd : decode cc pc = .ok (.putfield idx, 3)) (hk : kc k = 7) (hm : k ∈ ks E) (hq : pc + 3 = q) (kk : AW p l e R s m args below meth c cells slots Q A E (upr ρ k 0 t) q lv st σ) : AW p l e R s m args below meth c cells slots Q A E ρ pc lv (.ref (ad E t) :: .ref (ad E k) :: st) σ := fun H locs ls hP hS hl => by
  subst hq
  obtain ⟨i, hi⟩ := ks_at hm
  have he := wl_at ρ σ hi
  unfold en at he
  rw [hk] at he
  refine va_putF (T := TX7) (N := 6) (ci := 7) cx.1.1 cx.1.2.1 cx.1.2.2.2.2 hin tyX7 tyX7_ok nmX7 cx.1.2.2.2.1 cx.2.1.1 hP (wl_D cx.2.2.1 cx.2.2.2 ρ σ) hS i he rfl 0 (by decide) (cx.1.2.2.2.2 _ hf) (fun _ h => h) rfl hin2 rfl (ty := .object "BundledLinks$Text") (by decide +kernel) rfl rfl (Nat.le_of_ble_eq_true rfl) hd (fun H1 locs1 hP1 _ hS1 => ?_)
  have hx : en E (upr ρ k 0 t) σ k = .inr (7, [.ref (ad E t), rv E (ρ k 1), rv E (ρ k 2), rv E (ρ k 3), rv E (ρ k 4), rv E (ρ k 5)]) := by unfold en; rw [hk]; simp [ec, upr, rv, va_rf]
  have hP2 : va_P E.1 vwCl ((wl E ρ σ).set i (ad E k, .inr (7, [.ref (ad E t), rv E (ρ k 1), rv E (ρ k 2), rv E (ρ k 3), rv E (ρ k 4), rv E (ρ k 5)]))) H1 := hP1
  rw [← hx, wl_setR cx.2.2.1.1 hi (fun k' h' => upr_nk ρ k 0 t h')] at hP2
  exact kk H1 locs1 ls hP2 hS1 hl
theorem fX7_1 (cx : Cx p s m args c E A RX7 cc nL Ts) (hin2 : meth.name = "<init>") {k t : Ky} {idx : Nat} (hin : ∀ w ∈ u_ws RX7 TX7 6, w ∈ Ts) (hf : Cond.fieldLink RX7 idx (TX7 1).1 (TX7 1).2.1 (TX7 1).2.2.1 ∈ Ts) (hd : decode cc pc = .ok (.putfield idx, 3)) (hk : kc k = 7) (hm : k ∈ ks E) (hq : pc + 3 = q) (kk : AW p l e R s m args below meth c cells slots Q A E (upr ρ k 1 t) q lv st σ) : AW p l e R s m args below meth c cells slots Q A E ρ pc lv (.ref (ad E t) :: .ref (ad E k) :: st) σ := fun H locs ls hP hS hl => by
  subst hq
  obtain ⟨i, hi⟩ := ks_at hm
  have he := wl_at ρ σ hi
  unfold en at he
  rw [hk] at he
  refine va_putF (T := TX7) (N := 6) (ci := 7) cx.1.1 cx.1.2.1 cx.1.2.2.2.2 hin tyX7 tyX7_ok nmX7 cx.1.2.2.2.1 cx.2.1.1 hP (wl_D cx.2.2.1 cx.2.2.2 ρ σ) hS i he rfl 1 (by decide) (cx.1.2.2.2.2 _ hf) (fun _ h => h) rfl hin2 rfl (ty := .object "BundledLinks$Net") (by decide +kernel) rfl rfl (Nat.le_of_ble_eq_true rfl) hd (fun H1 locs1 hP1 _ hS1 => ?_)
  have hx : en E (upr ρ k 1 t) σ k = .inr (7, [rv E (ρ k 0), .ref (ad E t), rv E (ρ k 2), rv E (ρ k 3), rv E (ρ k 4), rv E (ρ k 5)]) := by unfold en; rw [hk]; simp [ec, upr, rv, va_rf]
  have hP2 : va_P E.1 vwCl ((wl E ρ σ).set i (ad E k, .inr (7, [rv E (ρ k 0), .ref (ad E t), rv E (ρ k 2), rv E (ρ k 3), rv E (ρ k 4), rv E (ρ k 5)]))) H1 := hP1
  rw [← hx, wl_setR cx.2.2.1.1 hi (fun k' h' => upr_nk ρ k 1 t h')] at hP2
  exact kk H1 locs1 ls hP2 hS1 hl
theorem fX7_2 (cx : Cx p s m args c E A RX7 cc nL Ts) (hin2 : meth.name = "<init>") {k t : Ky} {idx : Nat} (hin : ∀ w ∈ u_ws RX7 TX7 6, w ∈ Ts) (hf : Cond.fieldLink RX7 idx (TX7 2).1 (TX7 2).2.1 (TX7 2).2.2.1 ∈ Ts) (hd : decode cc pc = .ok (.putfield idx, 3)) (hk : kc k = 7) (hm : k ∈ ks E) (hq : pc + 3 = q) (kk : AW p l e R s m args below meth c cells slots Q A E (upr ρ k 2 t) q lv st σ) : AW p l e R s m args below meth c cells slots Q A E ρ pc lv (.ref (ad E t) :: .ref (ad E k) :: st) σ := fun H locs ls hP hS hl => by
  subst hq
  obtain ⟨i, hi⟩ := ks_at hm
  have he := wl_at ρ σ hi
  unfold en at he
  rw [hk] at he
  refine va_putF (T := TX7) (N := 6) (ci := 7) cx.1.1 cx.1.2.1 cx.1.2.2.2.2 hin tyX7 tyX7_ok nmX7 cx.1.2.2.2.1 cx.2.1.1 hP (wl_D cx.2.2.1 cx.2.2.2 ρ σ) hS i he rfl 2 (by decide) (cx.1.2.2.2.2 _ hf) (fun _ h => h) rfl hin2 rfl (ty := .object "BundledLinks$History") (by decide +kernel) rfl rfl (Nat.le_of_ble_eq_true rfl) hd (fun H1 locs1 hP1 _ hS1 => ?_)
  have hx : en E (upr ρ k 2 t) σ k = .inr (7, [rv E (ρ k 0), rv E (ρ k 1), .ref (ad E t), rv E (ρ k 3), rv E (ρ k 4), rv E (ρ k 5)]) := by unfold en; rw [hk]; simp [ec, upr, rv, va_rf]
  have hP2 : va_P E.1 vwCl ((wl E ρ σ).set i (ad E k, .inr (7, [rv E (ρ k 0), rv E (ρ k 1), .ref (ad E t), rv E (ρ k 3), rv E (ρ k 4), rv E (ρ k 5)]))) H1 := hP1
  rw [← hx, wl_setR cx.2.2.1.1 hi (fun k' h' => upr_nk ρ k 2 t h')] at hP2
  exact kk H1 locs1 ls hP2 hS1 hl
theorem fX7_3 (cx : Cx p s m args c E A RX7 cc nL Ts) (hin2 : meth.name = "<init>") {k t : Ky} {idx : Nat} (hin : ∀ w ∈ u_ws RX7 TX7 6, w ∈ Ts) (hf : Cond.fieldLink RX7 idx (TX7 3).1 (TX7 3).2.1 (TX7 3).2.2.1 ∈ Ts) (hd : decode cc pc = .ok (.putfield idx, 3)) (hk : kc k = 7) (hm : k ∈ ks E) (hq : pc + 3 = q) (kk : AW p l e R s m args below meth c cells slots Q A E (upr ρ k 3 t) q lv st σ) : AW p l e R s m args below meth c cells slots Q A E ρ pc lv (.ref (ad E t) :: .ref (ad E k) :: st) σ := fun H locs ls hP hS hl => by
  subst hq
  obtain ⟨i, hi⟩ := ks_at hm
  have he := wl_at ρ σ hi
  unfold en at he
  rw [hk] at he
  refine va_putF (T := TX7) (N := 6) (ci := 7) cx.1.1 cx.1.2.1 cx.1.2.2.2.2 hin tyX7 tyX7_ok nmX7 cx.1.2.2.2.1 cx.2.1.1 hP (wl_D cx.2.2.1 cx.2.2.2 ρ σ) hS i he rfl 3 (by decide) (cx.1.2.2.2.2 _ hf) (fun _ h => h) rfl hin2 rfl (ty := .array .int) (by decide +kernel) rfl rfl (Nat.le_of_ble_eq_true rfl) hd (fun H1 locs1 hP1 _ hS1 => ?_)
  have hx : en E (upr ρ k 3 t) σ k = .inr (7, [rv E (ρ k 0), rv E (ρ k 1), rv E (ρ k 2), .ref (ad E t), rv E (ρ k 4), rv E (ρ k 5)]) := by unfold en; rw [hk]; simp [ec, upr, rv, va_rf]
  have hP2 : va_P E.1 vwCl ((wl E ρ σ).set i (ad E k, .inr (7, [rv E (ρ k 0), rv E (ρ k 1), rv E (ρ k 2), .ref (ad E t), rv E (ρ k 4), rv E (ρ k 5)]))) H1 := hP1
  rw [← hx, wl_setR cx.2.2.1.1 hi (fun k' h' => upr_nk ρ k 3 t h')] at hP2
  exact kk H1 locs1 ls hP2 hS1 hl
theorem fX7_4 (cx : Cx p s m args c E A RX7 cc nL Ts) (hin2 : meth.name = "<init>") {k t : Ky} {idx : Nat} (hin : ∀ w ∈ u_ws RX7 TX7 6, w ∈ Ts) (hf : Cond.fieldLink RX7 idx (TX7 4).1 (TX7 4).2.1 (TX7 4).2.2.1 ∈ Ts) (hd : decode cc pc = .ok (.putfield idx, 3)) (hk : kc k = 7) (hm : k ∈ ks E) (hq : pc + 3 = q) (kk : AW p l e R s m args below meth c cells slots Q A E (upr ρ k 4 t) q lv st σ) : AW p l e R s m args below meth c cells slots Q A E ρ pc lv (.ref (ad E t) :: .ref (ad E k) :: st) σ := fun H locs ls hP hS hl => by
  subst hq
  obtain ⟨i, hi⟩ := ks_at hm
  have he := wl_at ρ σ hi
  unfold en at he
  rw [hk] at he
  refine va_putF (T := TX7) (N := 6) (ci := 7) cx.1.1 cx.1.2.1 cx.1.2.2.2.2 hin tyX7 tyX7_ok nmX7 cx.1.2.2.2.1 cx.2.1.1 hP (wl_D cx.2.2.1 cx.2.2.2 ρ σ) hS i he rfl 4 (by decide) (cx.1.2.2.2.2 _ hf) (fun _ h => h) rfl hin2 rfl (ty := .object "BundledLinks$Net") (by decide +kernel) rfl rfl (Nat.le_of_ble_eq_true rfl) hd (fun H1 locs1 hP1 _ hS1 => ?_)
  have hx : en E (upr ρ k 4 t) σ k = .inr (7, [rv E (ρ k 0), rv E (ρ k 1), rv E (ρ k 2), rv E (ρ k 3), .ref (ad E t), rv E (ρ k 5)]) := by unfold en; rw [hk]; simp [ec, upr, rv, va_rf]
  have hP2 : va_P E.1 vwCl ((wl E ρ σ).set i (ad E k, .inr (7, [rv E (ρ k 0), rv E (ρ k 1), rv E (ρ k 2), rv E (ρ k 3), .ref (ad E t), rv E (ρ k 5)]))) H1 := hP1
  rw [← hx, wl_setR cx.2.2.1.1 hi (fun k' h' => upr_nk ρ k 4 t h')] at hP2
  exact kk H1 locs1 ls hP2 hS1 hl
theorem fX7_5 (cx : Cx p s m args c E A RX7 cc nL Ts) (hin2 : meth.name = "<init>") {k t : Ky} {idx : Nat} (hin : ∀ w ∈ u_ws RX7 TX7 6, w ∈ Ts) (hf : Cond.fieldLink RX7 idx (TX7 5).1 (TX7 5).2.1 (TX7 5).2.2.1 ∈ Ts) (hd : decode cc pc = .ok (.putfield idx, 3)) (hk : kc k = 7) (hm : k ∈ ks E) (hq : pc + 3 = q) (kk : AW p l e R s m args below meth c cells slots Q A E (upr ρ k 5 t) q lv st σ) : AW p l e R s m args below meth c cells slots Q A E ρ pc lv (.ref (ad E t) :: .ref (ad E k) :: st) σ := fun H locs ls hP hS hl => by
  subst hq
  obtain ⟨i, hi⟩ := ks_at hm
  have he := wl_at ρ σ hi
  unfold en at he
  rw [hk] at he
  refine va_putF (T := TX7) (N := 6) (ci := 7) cx.1.1 cx.1.2.1 cx.1.2.2.2.2 hin tyX7 tyX7_ok nmX7 cx.1.2.2.2.1 cx.2.1.1 hP (wl_D cx.2.2.1 cx.2.2.2 ρ σ) hS i he rfl 5 (by decide) (cx.1.2.2.2.2 _ hf) (fun _ h => h) rfl hin2 rfl (ty := .object "BundledLinks$Net") (by decide +kernel) rfl rfl (Nat.le_of_ble_eq_true rfl) hd (fun H1 locs1 hP1 _ hS1 => ?_)
  have hx : en E (upr ρ k 5 t) σ k = .inr (7, [rv E (ρ k 0), rv E (ρ k 1), rv E (ρ k 2), rv E (ρ k 3), rv E (ρ k 4), .ref (ad E t)]) := by unfold en; rw [hk]; simp [ec, upr, rv, va_rf]
  have hP2 : va_P E.1 vwCl ((wl E ρ σ).set i (ad E k, .inr (7, [rv E (ρ k 0), rv E (ρ k 1), rv E (ρ k 2), rv E (ρ k 3), rv E (ρ k 4), .ref (ad E t)]))) H1 := hP1
  rw [← hx, wl_setR cx.2.2.1.1 hi (fun k' h' => upr_nk ρ k 5 t h')] at hP2
  exact kk H1 locs1 ls hP2 hS1 hl
theorem fX8_3 (cx : Cx p s m args c E A RX8 cc nL Ts) (hin2 : meth.name = "<init>") {k t : Ky} {idx : Nat} (hin : ∀ w ∈ u_ws RX8 TX8 18, w ∈ Ts) (hf : Cond.fieldLink RX8 idx (TX8 3).1 (TX8 3).2.1 (TX8 3).2.2.1 ∈ Ts) (hd : decode cc pc = .ok (.putfield idx, 3)) (hk : kc k = 8) (hm : k ∈ ks E) (hq : pc + 3 = q) (kk : AW p l e R s m args below meth c cells slots Q A E (upr ρ k 3 t) q lv st σ) : AW p l e R s m args below meth c cells slots Q A E ρ pc lv (.ref (ad E t) :: .ref (ad E k) :: st) σ := fun H locs ls hP hS hl => by
  subst hq
  obtain ⟨i, hi⟩ := ks_at hm
  have he := wl_at ρ σ hi
  unfold en at he
  rw [hk] at he
  refine va_putF (T := TX8) (N := 18) (ci := 8) cx.1.1 cx.1.2.1 cx.1.2.2.2.2 hin tyX8 tyX8_ok nmX8 cx.1.2.2.2.1 cx.2.1.1 hP (wl_D cx.2.2.1 cx.2.2.2 ρ σ) hS i he rfl 3 (by decide) (cx.1.2.2.2.2 _ hf) (fun _ h => h) rfl hin2 rfl (ty := .array .int) (by decide +kernel) rfl rfl (Nat.le_of_ble_eq_true rfl) hd (fun H1 locs1 hP1 _ hS1 => ?_)
  have hx : en E (upr ρ k 3 t) σ k = .inr (8, [.int (σ k 0), .int (σ k 1), .int (σ k 2), .ref (ad E t), rv E (ρ k 4), rv E (ρ k 5), .int (σ k 6), rv E (ρ k 7), rv E (ρ k 8), .int (σ k 9), .int (σ k 10), rv E (ρ k 11), rv E (ρ k 12), rv E (ρ k 13), rv E (ρ k 14), .int (σ k 15), rv E (ρ k 16), rv E (ρ k 17)]) := by unfold en; rw [hk]; simp [ec, upr, rv, va_rf]
  have hP2 : va_P E.1 vwCl ((wl E ρ σ).set i (ad E k, .inr (8, [.int (σ k 0), .int (σ k 1), .int (σ k 2), .ref (ad E t), rv E (ρ k 4), rv E (ρ k 5), .int (σ k 6), rv E (ρ k 7), rv E (ρ k 8), .int (σ k 9), .int (σ k 10), rv E (ρ k 11), rv E (ρ k 12), rv E (ρ k 13), rv E (ρ k 14), .int (σ k 15), rv E (ρ k 16), rv E (ρ k 17)]))) H1 := hP1
  rw [← hx, wl_setR cx.2.2.1.1 hi (fun k' h' => upr_nk ρ k 3 t h')] at hP2
  exact kk H1 locs1 ls hP2 hS1 hl
theorem fX8_4 (cx : Cx p s m args c E A RX8 cc nL Ts) (hin2 : meth.name = "<init>") {k t : Ky} {idx : Nat} (hin : ∀ w ∈ u_ws RX8 TX8 18, w ∈ Ts) (hf : Cond.fieldLink RX8 idx (TX8 4).1 (TX8 4).2.1 (TX8 4).2.2.1 ∈ Ts) (hd : decode cc pc = .ok (.putfield idx, 3)) (hk : kc k = 8) (hm : k ∈ ks E) (hq : pc + 3 = q) (kk : AW p l e R s m args below meth c cells slots Q A E (upr ρ k 4 t) q lv st σ) : AW p l e R s m args below meth c cells slots Q A E ρ pc lv (.ref (ad E t) :: .ref (ad E k) :: st) σ := fun H locs ls hP hS hl => by
  subst hq
  obtain ⟨i, hi⟩ := ks_at hm
  have he := wl_at ρ σ hi
  unfold en at he
  rw [hk] at he
  refine va_putF (T := TX8) (N := 18) (ci := 8) cx.1.1 cx.1.2.1 cx.1.2.2.2.2 hin tyX8 tyX8_ok nmX8 cx.1.2.2.2.1 cx.2.1.1 hP (wl_D cx.2.2.1 cx.2.2.2 ρ σ) hS i he rfl 4 (by decide) (cx.1.2.2.2.2 _ hf) (fun _ h => h) rfl hin2 rfl (ty := .array .int) (by decide +kernel) rfl rfl (Nat.le_of_ble_eq_true rfl) hd (fun H1 locs1 hP1 _ hS1 => ?_)
  have hx : en E (upr ρ k 4 t) σ k = .inr (8, [.int (σ k 0), .int (σ k 1), .int (σ k 2), rv E (ρ k 3), .ref (ad E t), rv E (ρ k 5), .int (σ k 6), rv E (ρ k 7), rv E (ρ k 8), .int (σ k 9), .int (σ k 10), rv E (ρ k 11), rv E (ρ k 12), rv E (ρ k 13), rv E (ρ k 14), .int (σ k 15), rv E (ρ k 16), rv E (ρ k 17)]) := by unfold en; rw [hk]; simp [ec, upr, rv, va_rf]
  have hP2 : va_P E.1 vwCl ((wl E ρ σ).set i (ad E k, .inr (8, [.int (σ k 0), .int (σ k 1), .int (σ k 2), rv E (ρ k 3), .ref (ad E t), rv E (ρ k 5), .int (σ k 6), rv E (ρ k 7), rv E (ρ k 8), .int (σ k 9), .int (σ k 10), rv E (ρ k 11), rv E (ρ k 12), rv E (ρ k 13), rv E (ρ k 14), .int (σ k 15), rv E (ρ k 16), rv E (ρ k 17)]))) H1 := hP1
  rw [← hx, wl_setR cx.2.2.1.1 hi (fun k' h' => upr_nk ρ k 4 t h')] at hP2
  exact kk H1 locs1 ls hP2 hS1 hl
theorem fX8_5 (cx : Cx p s m args c E A RX8 cc nL Ts) (hin2 : meth.name = "<init>") {k t : Ky} {idx : Nat} (hin : ∀ w ∈ u_ws RX8 TX8 18, w ∈ Ts) (hf : Cond.fieldLink RX8 idx (TX8 5).1 (TX8 5).2.1 (TX8 5).2.2.1 ∈ Ts) (hd : decode cc pc = .ok (.putfield idx, 3)) (hk : kc k = 8) (hm : k ∈ ks E) (hq : pc + 3 = q) (kk : AW p l e R s m args below meth c cells slots Q A E (upr ρ k 5 t) q lv st σ) : AW p l e R s m args below meth c cells slots Q A E ρ pc lv (.ref (ad E t) :: .ref (ad E k) :: st) σ := fun H locs ls hP hS hl => by
  subst hq
  obtain ⟨i, hi⟩ := ks_at hm
  have he := wl_at ρ σ hi
  unfold en at he
  rw [hk] at he
  refine va_putF (T := TX8) (N := 18) (ci := 8) cx.1.1 cx.1.2.1 cx.1.2.2.2.2 hin tyX8 tyX8_ok nmX8 cx.1.2.2.2.1 cx.2.1.1 hP (wl_D cx.2.2.1 cx.2.2.2 ρ σ) hS i he rfl 5 (by decide) (cx.1.2.2.2.2 _ hf) (fun _ h => h) rfl hin2 rfl (ty := .array .int) (by decide +kernel) rfl rfl (Nat.le_of_ble_eq_true rfl) hd (fun H1 locs1 hP1 _ hS1 => ?_)
  have hx : en E (upr ρ k 5 t) σ k = .inr (8, [.int (σ k 0), .int (σ k 1), .int (σ k 2), rv E (ρ k 3), rv E (ρ k 4), .ref (ad E t), .int (σ k 6), rv E (ρ k 7), rv E (ρ k 8), .int (σ k 9), .int (σ k 10), rv E (ρ k 11), rv E (ρ k 12), rv E (ρ k 13), rv E (ρ k 14), .int (σ k 15), rv E (ρ k 16), rv E (ρ k 17)]) := by unfold en; rw [hk]; simp [ec, upr, rv, va_rf]
  have hP2 : va_P E.1 vwCl ((wl E ρ σ).set i (ad E k, .inr (8, [.int (σ k 0), .int (σ k 1), .int (σ k 2), rv E (ρ k 3), rv E (ρ k 4), .ref (ad E t), .int (σ k 6), rv E (ρ k 7), rv E (ρ k 8), .int (σ k 9), .int (σ k 10), rv E (ρ k 11), rv E (ρ k 12), rv E (ρ k 13), rv E (ρ k 14), .int (σ k 15), rv E (ρ k 16), rv E (ρ k 17)]))) H1 := hP1
  rw [← hx, wl_setR cx.2.2.1.1 hi (fun k' h' => upr_nk ρ k 5 t h')] at hP2
  exact kk H1 locs1 ls hP2 hS1 hl
theorem fX8_7 (cx : Cx p s m args c E A RX8 cc nL Ts) (hin2 : meth.name = "<init>") {k t : Ky} {idx : Nat} (hin : ∀ w ∈ u_ws RX8 TX8 18, w ∈ Ts) (hf : Cond.fieldLink RX8 idx (TX8 7).1 (TX8 7).2.1 (TX8 7).2.2.1 ∈ Ts) (hd : decode cc pc = .ok (.putfield idx, 3)) (hk : kc k = 8) (hm : k ∈ ks E) (hq : pc + 3 = q) (kk : AW p l e R s m args below meth c cells slots Q A E (upr ρ k 7 t) q lv st σ) : AW p l e R s m args below meth c cells slots Q A E ρ pc lv (.ref (ad E t) :: .ref (ad E k) :: st) σ := fun H locs ls hP hS hl => by
  subst hq
  obtain ⟨i, hi⟩ := ks_at hm
  have he := wl_at ρ σ hi
  unfold en at he
  rw [hk] at he
  refine va_putF (T := TX8) (N := 18) (ci := 8) cx.1.1 cx.1.2.1 cx.1.2.2.2.2 hin tyX8 tyX8_ok nmX8 cx.1.2.2.2.1 cx.2.1.1 hP (wl_D cx.2.2.1 cx.2.2.2 ρ σ) hS i he rfl 7 (by decide) (cx.1.2.2.2.2 _ hf) (fun _ h => h) rfl hin2 rfl (ty := .array .int) (by decide +kernel) rfl rfl (Nat.le_of_ble_eq_true rfl) hd (fun H1 locs1 hP1 _ hS1 => ?_)
  have hx : en E (upr ρ k 7 t) σ k = .inr (8, [.int (σ k 0), .int (σ k 1), .int (σ k 2), rv E (ρ k 3), rv E (ρ k 4), rv E (ρ k 5), .int (σ k 6), .ref (ad E t), rv E (ρ k 8), .int (σ k 9), .int (σ k 10), rv E (ρ k 11), rv E (ρ k 12), rv E (ρ k 13), rv E (ρ k 14), .int (σ k 15), rv E (ρ k 16), rv E (ρ k 17)]) := by unfold en; rw [hk]; simp [ec, upr, rv, va_rf]
  have hP2 : va_P E.1 vwCl ((wl E ρ σ).set i (ad E k, .inr (8, [.int (σ k 0), .int (σ k 1), .int (σ k 2), rv E (ρ k 3), rv E (ρ k 4), rv E (ρ k 5), .int (σ k 6), .ref (ad E t), rv E (ρ k 8), .int (σ k 9), .int (σ k 10), rv E (ρ k 11), rv E (ρ k 12), rv E (ρ k 13), rv E (ρ k 14), .int (σ k 15), rv E (ρ k 16), rv E (ρ k 17)]))) H1 := hP1
  rw [← hx, wl_setR cx.2.2.1.1 hi (fun k' h' => upr_nk ρ k 7 t h')] at hP2
  exact kk H1 locs1 ls hP2 hS1 hl
theorem fX8_8 (cx : Cx p s m args c E A RX8 cc nL Ts) (hin2 : meth.name = "<init>") {k t : Ky} {idx : Nat} (hin : ∀ w ∈ u_ws RX8 TX8 18, w ∈ Ts) (hf : Cond.fieldLink RX8 idx (TX8 8).1 (TX8 8).2.1 (TX8 8).2.2.1 ∈ Ts) (hd : decode cc pc = .ok (.putfield idx, 3)) (hk : kc k = 8) (hm : k ∈ ks E) (hq : pc + 3 = q) (kk : AW p l e R s m args below meth c cells slots Q A E (upr ρ k 8 t) q lv st σ) : AW p l e R s m args below meth c cells slots Q A E ρ pc lv (.ref (ad E t) :: .ref (ad E k) :: st) σ := fun H locs ls hP hS hl => by
  subst hq
  obtain ⟨i, hi⟩ := ks_at hm
  have he := wl_at ρ σ hi
  unfold en at he
  rw [hk] at he
  refine va_putF (T := TX8) (N := 18) (ci := 8) cx.1.1 cx.1.2.1 cx.1.2.2.2.2 hin tyX8 tyX8_ok nmX8 cx.1.2.2.2.1 cx.2.1.1 hP (wl_D cx.2.2.1 cx.2.2.2 ρ σ) hS i he rfl 8 (by decide) (cx.1.2.2.2.2 _ hf) (fun _ h => h) rfl hin2 rfl (ty := .array .int) (by decide +kernel) rfl rfl (Nat.le_of_ble_eq_true rfl) hd (fun H1 locs1 hP1 _ hS1 => ?_)
  have hx : en E (upr ρ k 8 t) σ k = .inr (8, [.int (σ k 0), .int (σ k 1), .int (σ k 2), rv E (ρ k 3), rv E (ρ k 4), rv E (ρ k 5), .int (σ k 6), rv E (ρ k 7), .ref (ad E t), .int (σ k 9), .int (σ k 10), rv E (ρ k 11), rv E (ρ k 12), rv E (ρ k 13), rv E (ρ k 14), .int (σ k 15), rv E (ρ k 16), rv E (ρ k 17)]) := by unfold en; rw [hk]; simp [ec, upr, rv, va_rf]
  have hP2 : va_P E.1 vwCl ((wl E ρ σ).set i (ad E k, .inr (8, [.int (σ k 0), .int (σ k 1), .int (σ k 2), rv E (ρ k 3), rv E (ρ k 4), rv E (ρ k 5), .int (σ k 6), rv E (ρ k 7), .ref (ad E t), .int (σ k 9), .int (σ k 10), rv E (ρ k 11), rv E (ρ k 12), rv E (ρ k 13), rv E (ρ k 14), .int (σ k 15), rv E (ρ k 16), rv E (ρ k 17)]))) H1 := hP1
  rw [← hx, wl_setR cx.2.2.1.1 hi (fun k' h' => upr_nk ρ k 8 t h')] at hP2
  exact kk H1 locs1 ls hP2 hS1 hl
theorem fX8_11 (cx : Cx p s m args c E A RX8 cc nL Ts) (hin2 : meth.name = "<init>") {k t : Ky} {idx : Nat} (hin : ∀ w ∈ u_ws RX8 TX8 18, w ∈ Ts) (hf : Cond.fieldLink RX8 idx (TX8 11).1 (TX8 11).2.1 (TX8 11).2.2.1 ∈ Ts) (hd : decode cc pc = .ok (.putfield idx, 3)) (hk : kc k = 8) (hm : k ∈ ks E) (hq : pc + 3 = q) (kk : AW p l e R s m args below meth c cells slots Q A E (upr ρ k 11 t) q lv st σ) : AW p l e R s m args below meth c cells slots Q A E ρ pc lv (.ref (ad E t) :: .ref (ad E k) :: st) σ := fun H locs ls hP hS hl => by
  subst hq
  obtain ⟨i, hi⟩ := ks_at hm
  have he := wl_at ρ σ hi
  unfold en at he
  rw [hk] at he
  refine va_putF (T := TX8) (N := 18) (ci := 8) cx.1.1 cx.1.2.1 cx.1.2.2.2.2 hin tyX8 tyX8_ok nmX8 cx.1.2.2.2.1 cx.2.1.1 hP (wl_D cx.2.2.1 cx.2.2.2 ρ σ) hS i he rfl 11 (by decide) (cx.1.2.2.2.2 _ hf) (fun _ h => h) rfl hin2 rfl (ty := .array .int) (by decide +kernel) rfl rfl (Nat.le_of_ble_eq_true rfl) hd (fun H1 locs1 hP1 _ hS1 => ?_)
  have hx : en E (upr ρ k 11 t) σ k = .inr (8, [.int (σ k 0), .int (σ k 1), .int (σ k 2), rv E (ρ k 3), rv E (ρ k 4), rv E (ρ k 5), .int (σ k 6), rv E (ρ k 7), rv E (ρ k 8), .int (σ k 9), .int (σ k 10), .ref (ad E t), rv E (ρ k 12), rv E (ρ k 13), rv E (ρ k 14), .int (σ k 15), rv E (ρ k 16), rv E (ρ k 17)]) := by unfold en; rw [hk]; simp [ec, upr, rv, va_rf]
  have hP2 : va_P E.1 vwCl ((wl E ρ σ).set i (ad E k, .inr (8, [.int (σ k 0), .int (σ k 1), .int (σ k 2), rv E (ρ k 3), rv E (ρ k 4), rv E (ρ k 5), .int (σ k 6), rv E (ρ k 7), rv E (ρ k 8), .int (σ k 9), .int (σ k 10), .ref (ad E t), rv E (ρ k 12), rv E (ρ k 13), rv E (ρ k 14), .int (σ k 15), rv E (ρ k 16), rv E (ρ k 17)]))) H1 := hP1
  rw [← hx, wl_setR cx.2.2.1.1 hi (fun k' h' => upr_nk ρ k 11 t h')] at hP2
  exact kk H1 locs1 ls hP2 hS1 hl
theorem fX8_12 (cx : Cx p s m args c E A RX8 cc nL Ts) (hin2 : meth.name = "<init>") {k t : Ky} {idx : Nat} (hin : ∀ w ∈ u_ws RX8 TX8 18, w ∈ Ts) (hf : Cond.fieldLink RX8 idx (TX8 12).1 (TX8 12).2.1 (TX8 12).2.2.1 ∈ Ts) (hd : decode cc pc = .ok (.putfield idx, 3)) (hk : kc k = 8) (hm : k ∈ ks E) (hq : pc + 3 = q) (kk : AW p l e R s m args below meth c cells slots Q A E (upr ρ k 12 t) q lv st σ) : AW p l e R s m args below meth c cells slots Q A E ρ pc lv (.ref (ad E t) :: .ref (ad E k) :: st) σ := fun H locs ls hP hS hl => by
  subst hq
  obtain ⟨i, hi⟩ := ks_at hm
  have he := wl_at ρ σ hi
  unfold en at he
  rw [hk] at he
  refine va_putF (T := TX8) (N := 18) (ci := 8) cx.1.1 cx.1.2.1 cx.1.2.2.2.2 hin tyX8 tyX8_ok nmX8 cx.1.2.2.2.1 cx.2.1.1 hP (wl_D cx.2.2.1 cx.2.2.2 ρ σ) hS i he rfl 12 (by decide) (cx.1.2.2.2.2 _ hf) (fun _ h => h) rfl hin2 rfl (ty := .array .int) (by decide +kernel) rfl rfl (Nat.le_of_ble_eq_true rfl) hd (fun H1 locs1 hP1 _ hS1 => ?_)
  have hx : en E (upr ρ k 12 t) σ k = .inr (8, [.int (σ k 0), .int (σ k 1), .int (σ k 2), rv E (ρ k 3), rv E (ρ k 4), rv E (ρ k 5), .int (σ k 6), rv E (ρ k 7), rv E (ρ k 8), .int (σ k 9), .int (σ k 10), rv E (ρ k 11), .ref (ad E t), rv E (ρ k 13), rv E (ρ k 14), .int (σ k 15), rv E (ρ k 16), rv E (ρ k 17)]) := by unfold en; rw [hk]; simp [ec, upr, rv, va_rf]
  have hP2 : va_P E.1 vwCl ((wl E ρ σ).set i (ad E k, .inr (8, [.int (σ k 0), .int (σ k 1), .int (σ k 2), rv E (ρ k 3), rv E (ρ k 4), rv E (ρ k 5), .int (σ k 6), rv E (ρ k 7), rv E (ρ k 8), .int (σ k 9), .int (σ k 10), rv E (ρ k 11), .ref (ad E t), rv E (ρ k 13), rv E (ρ k 14), .int (σ k 15), rv E (ρ k 16), rv E (ρ k 17)]))) H1 := hP1
  rw [← hx, wl_setR cx.2.2.1.1 hi (fun k' h' => upr_nk ρ k 12 t h')] at hP2
  exact kk H1 locs1 ls hP2 hS1 hl
theorem fX8_13 (cx : Cx p s m args c E A RX8 cc nL Ts) (hin2 : meth.name = "<init>") {k t : Ky} {idx : Nat} (hin : ∀ w ∈ u_ws RX8 TX8 18, w ∈ Ts) (hf : Cond.fieldLink RX8 idx (TX8 13).1 (TX8 13).2.1 (TX8 13).2.2.1 ∈ Ts) (hd : decode cc pc = .ok (.putfield idx, 3)) (hk : kc k = 8) (hm : k ∈ ks E) (hq : pc + 3 = q) (kk : AW p l e R s m args below meth c cells slots Q A E (upr ρ k 13 t) q lv st σ) : AW p l e R s m args below meth c cells slots Q A E ρ pc lv (.ref (ad E t) :: .ref (ad E k) :: st) σ := fun H locs ls hP hS hl => by
  subst hq
  obtain ⟨i, hi⟩ := ks_at hm
  have he := wl_at ρ σ hi
  unfold en at he
  rw [hk] at he
  refine va_putF (T := TX8) (N := 18) (ci := 8) cx.1.1 cx.1.2.1 cx.1.2.2.2.2 hin tyX8 tyX8_ok nmX8 cx.1.2.2.2.1 cx.2.1.1 hP (wl_D cx.2.2.1 cx.2.2.2 ρ σ) hS i he rfl 13 (by decide) (cx.1.2.2.2.2 _ hf) (fun _ h => h) rfl hin2 rfl (ty := .array .int) (by decide +kernel) rfl rfl (Nat.le_of_ble_eq_true rfl) hd (fun H1 locs1 hP1 _ hS1 => ?_)
  have hx : en E (upr ρ k 13 t) σ k = .inr (8, [.int (σ k 0), .int (σ k 1), .int (σ k 2), rv E (ρ k 3), rv E (ρ k 4), rv E (ρ k 5), .int (σ k 6), rv E (ρ k 7), rv E (ρ k 8), .int (σ k 9), .int (σ k 10), rv E (ρ k 11), rv E (ρ k 12), .ref (ad E t), rv E (ρ k 14), .int (σ k 15), rv E (ρ k 16), rv E (ρ k 17)]) := by unfold en; rw [hk]; simp [ec, upr, rv, va_rf]
  have hP2 : va_P E.1 vwCl ((wl E ρ σ).set i (ad E k, .inr (8, [.int (σ k 0), .int (σ k 1), .int (σ k 2), rv E (ρ k 3), rv E (ρ k 4), rv E (ρ k 5), .int (σ k 6), rv E (ρ k 7), rv E (ρ k 8), .int (σ k 9), .int (σ k 10), rv E (ρ k 11), rv E (ρ k 12), .ref (ad E t), rv E (ρ k 14), .int (σ k 15), rv E (ρ k 16), rv E (ρ k 17)]))) H1 := hP1
  rw [← hx, wl_setR cx.2.2.1.1 hi (fun k' h' => upr_nk ρ k 13 t h')] at hP2
  exact kk H1 locs1 ls hP2 hS1 hl
theorem fX8_14 (cx : Cx p s m args c E A RX8 cc nL Ts) (hin2 : meth.name = "<init>") {k t : Ky} {idx : Nat} (hin : ∀ w ∈ u_ws RX8 TX8 18, w ∈ Ts) (hf : Cond.fieldLink RX8 idx (TX8 14).1 (TX8 14).2.1 (TX8 14).2.2.1 ∈ Ts) (hd : decode cc pc = .ok (.putfield idx, 3)) (hk : kc k = 8) (hm : k ∈ ks E) (hq : pc + 3 = q) (kk : AW p l e R s m args below meth c cells slots Q A E (upr ρ k 14 t) q lv st σ) : AW p l e R s m args below meth c cells slots Q A E ρ pc lv (.ref (ad E t) :: .ref (ad E k) :: st) σ := fun H locs ls hP hS hl => by
  subst hq
  obtain ⟨i, hi⟩ := ks_at hm
  have he := wl_at ρ σ hi
  unfold en at he
  rw [hk] at he
  refine va_putF (T := TX8) (N := 18) (ci := 8) cx.1.1 cx.1.2.1 cx.1.2.2.2.2 hin tyX8 tyX8_ok nmX8 cx.1.2.2.2.1 cx.2.1.1 hP (wl_D cx.2.2.1 cx.2.2.2 ρ σ) hS i he rfl 14 (by decide) (cx.1.2.2.2.2 _ hf) (fun _ h => h) rfl hin2 rfl (ty := .array .int) (by decide +kernel) rfl rfl (Nat.le_of_ble_eq_true rfl) hd (fun H1 locs1 hP1 _ hS1 => ?_)
  have hx : en E (upr ρ k 14 t) σ k = .inr (8, [.int (σ k 0), .int (σ k 1), .int (σ k 2), rv E (ρ k 3), rv E (ρ k 4), rv E (ρ k 5), .int (σ k 6), rv E (ρ k 7), rv E (ρ k 8), .int (σ k 9), .int (σ k 10), rv E (ρ k 11), rv E (ρ k 12), rv E (ρ k 13), .ref (ad E t), .int (σ k 15), rv E (ρ k 16), rv E (ρ k 17)]) := by unfold en; rw [hk]; simp [ec, upr, rv, va_rf]
  have hP2 : va_P E.1 vwCl ((wl E ρ σ).set i (ad E k, .inr (8, [.int (σ k 0), .int (σ k 1), .int (σ k 2), rv E (ρ k 3), rv E (ρ k 4), rv E (ρ k 5), .int (σ k 6), rv E (ρ k 7), rv E (ρ k 8), .int (σ k 9), .int (σ k 10), rv E (ρ k 11), rv E (ρ k 12), rv E (ρ k 13), .ref (ad E t), .int (σ k 15), rv E (ρ k 16), rv E (ρ k 17)]))) H1 := hP1
  rw [← hx, wl_setR cx.2.2.1.1 hi (fun k' h' => upr_nk ρ k 14 t h')] at hP2
  exact kk H1 locs1 ls hP2 hS1 hl
theorem fX8_16 (cx : Cx p s m args c E A RX8 cc nL Ts) (hin2 : meth.name = "<init>") {k t : Ky} {idx : Nat} (hin : ∀ w ∈ u_ws RX8 TX8 18, w ∈ Ts) (hf : Cond.fieldLink RX8 idx (TX8 16).1 (TX8 16).2.1 (TX8 16).2.2.1 ∈ Ts) (hd : decode cc pc = .ok (.putfield idx, 3)) (hk : kc k = 8) (hm : k ∈ ks E) (hq : pc + 3 = q) (kk : AW p l e R s m args below meth c cells slots Q A E (upr ρ k 16 t) q lv st σ) : AW p l e R s m args below meth c cells slots Q A E ρ pc lv (.ref (ad E t) :: .ref (ad E k) :: st) σ := fun H locs ls hP hS hl => by
  subst hq
  obtain ⟨i, hi⟩ := ks_at hm
  have he := wl_at ρ σ hi
  unfold en at he
  rw [hk] at he
  refine va_putF (T := TX8) (N := 18) (ci := 8) cx.1.1 cx.1.2.1 cx.1.2.2.2.2 hin tyX8 tyX8_ok nmX8 cx.1.2.2.2.1 cx.2.1.1 hP (wl_D cx.2.2.1 cx.2.2.2 ρ σ) hS i he rfl 16 (by decide) (cx.1.2.2.2.2 _ hf) (fun _ h => h) rfl hin2 rfl (ty := .array .boolean) (by decide +kernel) rfl rfl (Nat.le_of_ble_eq_true rfl) hd (fun H1 locs1 hP1 _ hS1 => ?_)
  have hx : en E (upr ρ k 16 t) σ k = .inr (8, [.int (σ k 0), .int (σ k 1), .int (σ k 2), rv E (ρ k 3), rv E (ρ k 4), rv E (ρ k 5), .int (σ k 6), rv E (ρ k 7), rv E (ρ k 8), .int (σ k 9), .int (σ k 10), rv E (ρ k 11), rv E (ρ k 12), rv E (ρ k 13), rv E (ρ k 14), .int (σ k 15), .ref (ad E t), rv E (ρ k 17)]) := by unfold en; rw [hk]; simp [ec, upr, rv, va_rf]
  have hP2 : va_P E.1 vwCl ((wl E ρ σ).set i (ad E k, .inr (8, [.int (σ k 0), .int (σ k 1), .int (σ k 2), rv E (ρ k 3), rv E (ρ k 4), rv E (ρ k 5), .int (σ k 6), rv E (ρ k 7), rv E (ρ k 8), .int (σ k 9), .int (σ k 10), rv E (ρ k 11), rv E (ρ k 12), rv E (ρ k 13), rv E (ρ k 14), .int (σ k 15), .ref (ad E t), rv E (ρ k 17)]))) H1 := hP1
  rw [← hx, wl_setR cx.2.2.1.1 hi (fun k' h' => upr_nk ρ k 16 t h')] at hP2
  exact kk H1 locs1 ls hP2 hS1 hl
theorem fX8_17 (cx : Cx p s m args c E A RX8 cc nL Ts) (hin2 : meth.name = "<init>") {k t : Ky} {idx : Nat} (hin : ∀ w ∈ u_ws RX8 TX8 18, w ∈ Ts) (hf : Cond.fieldLink RX8 idx (TX8 17).1 (TX8 17).2.1 (TX8 17).2.2.1 ∈ Ts) (hd : decode cc pc = .ok (.putfield idx, 3)) (hk : kc k = 8) (hm : k ∈ ks E) (hq : pc + 3 = q) (kk : AW p l e R s m args below meth c cells slots Q A E (upr ρ k 17 t) q lv st σ) : AW p l e R s m args below meth c cells slots Q A E ρ pc lv (.ref (ad E t) :: .ref (ad E k) :: st) σ := fun H locs ls hP hS hl => by
  subst hq
  obtain ⟨i, hi⟩ := ks_at hm
  have he := wl_at ρ σ hi
  unfold en at he
  rw [hk] at he
  refine va_putF (T := TX8) (N := 18) (ci := 8) cx.1.1 cx.1.2.1 cx.1.2.2.2.2 hin tyX8 tyX8_ok nmX8 cx.1.2.2.2.1 cx.2.1.1 hP (wl_D cx.2.2.1 cx.2.2.2 ρ σ) hS i he rfl 17 (by decide) (cx.1.2.2.2.2 _ hf) (fun _ h => h) rfl hin2 rfl (ty := .array .int) (by decide +kernel) rfl rfl (Nat.le_of_ble_eq_true rfl) hd (fun H1 locs1 hP1 _ hS1 => ?_)
  have hx : en E (upr ρ k 17 t) σ k = .inr (8, [.int (σ k 0), .int (σ k 1), .int (σ k 2), rv E (ρ k 3), rv E (ρ k 4), rv E (ρ k 5), .int (σ k 6), rv E (ρ k 7), rv E (ρ k 8), .int (σ k 9), .int (σ k 10), rv E (ρ k 11), rv E (ρ k 12), rv E (ρ k 13), rv E (ρ k 14), .int (σ k 15), rv E (ρ k 16), .ref (ad E t)]) := by unfold en; rw [hk]; simp [ec, upr, rv, va_rf]
  have hP2 : va_P E.1 vwCl ((wl E ρ σ).set i (ad E k, .inr (8, [.int (σ k 0), .int (σ k 1), .int (σ k 2), rv E (ρ k 3), rv E (ρ k 4), rv E (ρ k 5), .int (σ k 6), rv E (ρ k 7), rv E (ρ k 8), .int (σ k 9), .int (σ k 10), rv E (ρ k 11), rv E (ρ k 12), rv E (ρ k 13), rv E (ρ k 14), .int (σ k 15), rv E (ρ k 16), .ref (ad E t)]))) H1 := hP1
  rw [← hx, wl_setR cx.2.2.1.1 hi (fun k' h' => upr_nk ρ k 17 t h')] at hP2
  exact kk H1 locs1 ls hP2 hS1 hl
theorem fX0_0 (cx : Cx p s m args c E A RX0 cc nL Ts) (hin2 : meth.name = "<init>") {k : Ky} {idx : Nat} {x : Int32} (hin : ∀ w ∈ u_ws RX0 TX0 4, w ∈ Ts) (hf : Cond.fieldLink RX0 idx (TX0 0).1 (TX0 0).2.1 (TX0 0).2.2.1 ∈ Ts) (hd : decode cc pc = .ok (.putfield idx, 3)) (hk : kc k = 0) (hm : k ∈ ks E) (hq : pc + 3 = q) (kk : AW p l e R s m args below meth c cells slots Q A E ρ q lv st (up2 σ k 0 x)) : AW p l e R s m args below meth c cells slots Q A E ρ pc lv (.int x :: .ref (ad E k) :: st) σ := fun H locs ls hP hS hl => by
  subst hq
  obtain ⟨i, hi⟩ := ks_at hm
  have he := wl_at ρ σ hi
  unfold en at he
  rw [hk] at he
  refine va_putF (T := TX0) (N := 4) (ci := 0) cx.1.1 cx.1.2.1 cx.1.2.2.2.2 hin tyX0 tyX0_ok nmX0 cx.1.2.2.2.1 cx.2.1.1 hP (wl_D cx.2.2.1 cx.2.2.2 ρ σ) hS i he rfl 0 (by decide) (cx.1.2.2.2.2 _ hf) (fun _ h => h) rfl hin2 rfl (ty := .int) (by decide +kernel) rfl rfl (Nat.le_of_ble_eq_true rfl) hd (fun H1 locs1 hP1 _ hS1 => ?_)
  have hx : en E ρ (up2 σ k 0 x) k = .inr (0, [.int x, .int (σ k 1), rv E (ρ k 2), rv E (ρ k 3)]) := by unfold en; rw [hk, up2_row]; simp [ec, upd]
  have hP2 : va_P E.1 vwCl ((wl E ρ σ).set i (ad E k, .inr (0, [.int x, .int (σ k 1), rv E (ρ k 2), rv E (ρ k 3)]))) H1 := hP1
  rw [← hx, wl_set ρ cx.2.2.1.1 hi (fun k' h' => en_nk E ρ σ k 0 x h')] at hP2
  exact kk H1 locs1 ls hP2 hS1 hl
/-- a constructor's body -/
theorem cn_of {l : Launch} {y : MethodName} {ws ws' : List Cond} {fr lc mc ms : Nat} {a : St3} {as : List Value} {post : Nat → St3 → Prop} {cc : ByteArray} {maxL : Nat} {lv : List (Option Value)} (own : String) (hy : plainName y.cls = true) (ho : y.cls = own) (hi : y.name = "<init>") (hlv : lv0 as maxL = lv) (hw : ws = Cond.code y cc maxL none :: ws') (hE : okE a.1) (hc : argsOk as) (hn : as.length ≤ maxL)
    (body : ∀ (sz : Nat) (p : Program) (e : Env) (s : State) (m : MethodId) (args : Array Value) (below : List Frame) (meth : Method) (c : Code) (Q : State → Prop), s.heap.size = sz → Cx p s m args c a.1 (AN a.1 sz) own cc maxL ws → nst2 s → meth.name = "<init>" → meth.locks = false → meth.sig.returnType = none → Q = MQ below (va_Qv (fun b : St3 => post sz b ∧ a.1.1 = b.1.1) (fun b t => va_P b.1.1 vwCl (wl b.1 b.2.1 b.2.2) t.heap) (AN a.1 sz)) args s mc ms (AN a.1 sz) → AW p l e { frames := fr, cells := mc, slots := ms, locals := lc } s m args below meth c 0 0 Q (AN a.1 sz) a.1 a.2.1 0 lv [] a.2.2) : CN l y ws fr lc mc ms a as post := by
  intro sz
  have hl : (lg_sl as).length ≤ maxL := by rw [lg_len hc]; exact hn
  refine Met.ofW (cc := cc) (maxL := maxL) (ret := none) hy hw ?_
  intro p e s m args below meth c s₁ B hml hv
  obtain ⟨rfl, hsz, hP, hsw, hn2⟩ := hv
  subst ho hlv
  rw [lg_entry_eq]
  exact body sz p e s m _ below meth c _ hsz ⟨⟨B.exec, B.bytes, hml, findClass_of_methodNamed B.named, atoms_spec (ws := ws) B.pre⟩, hsw, hE, fun k hk => Or.inl ⟨k, hk, rfl⟩⟩ hn2 ((name_of_methodNamed B.named B.method).1.trans hi) B.notSynchronized B.returns rfl s.heap [] _ hP va_S.rf (hs_entry hc hn hl)
theorem A_cret {a : St3} {post : Nat → St3 → Prop} {own : String} {sz mc ms : Nat} (cx : Cx p s m args c E (AN a.1 sz) own cc nL Ts) (hlk : meth.locks = false) (hr : meth.sig.returnType = none) (hQ : Q = MQ below (va_Qv (fun b : St3 => post sz b ∧ a.1.1 = b.1.1) (fun b t => va_P b.1.1 vwCl (wl b.1 b.2.1 b.2.2) t.heap) (AN a.1 sz)) args s mc ms (AN a.1 sz)) (hd : decode cc pc = .ok (.return_, 1)) (h1 : cells ≤ mc) (h2 : slots ≤ ms) (hp : post sz (E, ρ, σ)) (hE1 : a.1.1 = E.1) : AW p l e R s m args below meth c cells slots Q (AN a.1 sz) E ρ pc lv [] σ := by
  subst hQ
  intro H locs ls hP hS hl
  refine W.widen h1 h2 ?_
  exact W.vret cx.1.1 cx.1.2.1 hr (fun t ht hW => ⟨⟨(E, ρ, σ), rfl, ⟨hp, hE1⟩, by show va_P _ _ _ t.heap; rw [ht]; exact hP⟩, hS.F ht⟩) hS.2.2 hd hlk
theorem cn_blind (a : St3) (sz : Nat) (as : List Value) : FrameBlind (va_Pc as (fun U => U.heap.size = sz ∧ va_P a.1.1 vwCl (wl a.1 a.2.1 a.2.2) U.heap ∧ sw2 a.1 U)) := by
  intro ar U g mk h
  obtain ⟨h1, h2, h3, ⟨h4, h5, h6⟩, ⟨n1, n2, n3, n4, n5, n6⟩, o1, o2, o3⟩ := h
  exact ⟨h1, h2, h3, ⟨va_K.moved (u := U) (U := U.calling g mk ar) (Vm.Alike.refl U.vm) h4, va_Nw.same rfl rfl h5, va_Nw.same rfl rfl h6⟩, ⟨va_Nw.same rfl rfl n1, va_Nw.same rfl rfl n2, va_Nw.same rfl rfl n3, va_Nw.same rfl rfl n4, va_Nw.same rfl rfl n5, va_Nw.same rfl rfl n6⟩, va_AO.moved (Vm.Alike.refl U.vm) o1, va_AO.moved (Vm.Alike.refl U.vm) o2, va_AO.moved (Vm.Alike.refl U.vm) o3⟩
theorem TI0 {own : String} {y : MethodName} {ws : List Cond} {fr lc mc ms idx maxL : Nat} {bytes : ByteArray} {post : Nat → St3 → Prop} (cx : Cx p s m args c E A own cc nL Ts) (hn2 : nst2 s) {k : Ky} (hM : CN l y ws fr lc mc ms (E, ρ, σ) [.ref (ad E k)] post) (cw : CallB R s args own idx y bytes maxL none ws { frames := fr, cells := mc, slots := ms, locals := lc } mc ms 0 ∧ y.name = "<init>" ∧ (Cond.instanceMethod y).before args s = true) (hd : decode cc pc = .ok (.invokespecial idx, 3)) (hA : ∀ q, s.heap.size ≤ q → A q) (hlv : lv.length = nL) (hcat : (st.map fun v => v.category).sum ≤ 8) (hf : cells + mc ≤ R.cells ∧ slots + ms ≤ R.slots) (hq : pc + 3 = q)
    (kk : ∀ (sz : Nat) (b : St3), post sz b → E.1 = b.1.1 → (∀ z, AN E sz z → A z) → AW p l e R s m args below meth c (cells + mc) (slots + ms) Q A b.1 b.2.1 q lv st b.2.2) : AW p l e R s m args below meth c cells slots Q A E ρ pc lv (.ref (ad E k) :: st) σ := by
  subst hq
  intro H locs ls hP hS hl
  have hAN : ∀ z, AN E H.size z → A z := by
    intro z hz
    rcases hz with hz | hz
    · exact al_sub cx z hz
    · exact hA z (Nat.le_trans hS.1 hz)
  refine va_callv (va_runI (As := []) (rest := st) cx.1 (hM H.size) cw ⟨cn_blind (E, ρ, σ) H.size _, fun U hU hW => ⟨rfl, by rw [hU], by rw [hU]; exact hP, cx.2.1.warm hW, hn2.warm hW⟩⟩ rfl rfl (hl.1.trans hlv) rfl (lv_room hcat) hd hf) hS (fun q _ h => hAN q h) hAN (fun b t H1 locs1 ht hvm hw hB hz hk hS1 => ?_)
  rw [ht] at hB
  exact kk H.size b hw.1 hw.2 hAN H1 locs1 ls hB hS1 hl
theorem TI1 {own : String} {y : MethodName} {ws : List Cond} {fr lc mc ms idx maxL : Nat} {bytes : ByteArray} {post : Nat → St3 → Prop} (cx : Cx p s m args c E A own cc nL Ts) (hn2 : nst2 s) {a1 : Value} {k : Ky} (hM : CN l y ws fr lc mc ms (E, ρ, σ) [.ref (ad E k), a1] post) (cw : CallB R s args own idx y bytes maxL none ws { frames := fr, cells := mc, slots := ms, locals := lc } mc ms 1 ∧ y.name = "<init>" ∧ (Cond.instanceMethod y).before args s = true) (hd : decode cc pc = .ok (.invokespecial idx, 3)) (hA : ∀ q, s.heap.size ≤ q → A q) (hlv : lv.length = nL) (hcat : (st.map fun v => v.category).sum ≤ 8) (hf : cells + mc ≤ R.cells ∧ slots + ms ≤ R.slots) (hq : pc + 3 = q)
    (kk : ∀ (sz : Nat) (b : St3), post sz b → E.1 = b.1.1 → (∀ z, AN E sz z → A z) → AW p l e R s m args below meth c (cells + mc) (slots + ms) Q A b.1 b.2.1 q lv st b.2.2) : AW p l e R s m args below meth c cells slots Q A E ρ pc lv (a1 :: .ref (ad E k) :: st) σ := by
  subst hq
  intro H locs ls hP hS hl
  have hAN : ∀ z, AN E H.size z → A z := by
    intro z hz
    rcases hz with hz | hz
    · exact al_sub cx z hz
    · exact hA z (Nat.le_trans hS.1 hz)
  refine va_callv (va_runI (As := [a1]) (rest := st) cx.1 (hM H.size) cw ⟨cn_blind (E, ρ, σ) H.size _, fun U hU hW => ⟨rfl, by rw [hU], by rw [hU]; exact hP, cx.2.1.warm hW, hn2.warm hW⟩⟩ rfl rfl (hl.1.trans hlv) rfl (lv_room hcat) hd hf) hS (fun q _ h => hAN q h) hAN (fun b t H1 locs1 ht hvm hw hB hz hk hS1 => ?_)
  rw [ht] at hB
  exact kk H.size b hw.1 hw.2 hAN H1 locs1 ls hB hS1 hl
theorem TN0 {own : String} {y : MethodName} {ws : List Cond} {fr lc mc ms idx maxL : Nat} {bytes : ByteArray} {post : Nat → St3 → Prop} (cx : Cx p s m args c E A own cc nL Ts) (hn2 : nst2 s) {k : Ky} (hM : CN l y ws fr lc mc ms (E, ρ, σ) [.ref (ad E k)] post) {host : String} (cw : va_CN R s args own idx y host bytes maxL none ws { frames := fr, cells := mc, slots := ms, locals := lc } mc ms 0 ∧ y.name = "<init>" ∧ (Cond.instanceMethod y).before args s = true) (hd : decode cc pc = .ok (.invokespecial idx, 3)) (hA : ∀ q, s.heap.size ≤ q → A q) (hlv : lv.length = nL) (hcat : (st.map fun v => v.category).sum ≤ 8) (hf : cells + mc ≤ R.cells ∧ slots + ms ≤ R.slots) (hq : pc + 3 = q)
    (kk : ∀ (sz : Nat) (b : St3), post sz b → E.1 = b.1.1 → (∀ z, AN E sz z → A z) → AW p l e R s m args below meth c (cells + mc) (slots + ms) Q A b.1 b.2.1 q lv st b.2.2) : AW p l e R s m args below meth c cells slots Q A E ρ pc lv (.ref (ad E k) :: st) σ := by
  subst hq
  intro H locs ls hP hS hl
  have hAN : ∀ z, AN E H.size z → A z := by
    intro z hz
    rcases hz with hz | hz
    · exact al_sub cx z hz
    · exact hA z (Nat.le_trans hS.1 hz)
  refine va_callv (va_runIN (As := []) (rest := st) cx.1 (hM H.size) cw ⟨cn_blind (E, ρ, σ) H.size _, fun U hU hW => ⟨rfl, by rw [hU], by rw [hU]; exact hP, cx.2.1.warm hW, hn2.warm hW⟩⟩ rfl rfl (hl.1.trans hlv) rfl (lv_room hcat) hd hf) hS (fun q _ h => hAN q h) hAN (fun b t H1 locs1 ht hvm hw hB hz hk hS1 => ?_)
  rw [ht] at hB
  exact kk H.size b hw.1 hw.2 hAN H1 locs1 ls hB hS1 hl
theorem TN1 {own : String} {y : MethodName} {ws : List Cond} {fr lc mc ms idx maxL : Nat} {bytes : ByteArray} {post : Nat → St3 → Prop} (cx : Cx p s m args c E A own cc nL Ts) (hn2 : nst2 s) {a1 : Value} {k : Ky} (hM : CN l y ws fr lc mc ms (E, ρ, σ) [.ref (ad E k), a1] post) {host : String} (cw : va_CN R s args own idx y host bytes maxL none ws { frames := fr, cells := mc, slots := ms, locals := lc } mc ms 1 ∧ y.name = "<init>" ∧ (Cond.instanceMethod y).before args s = true) (hd : decode cc pc = .ok (.invokespecial idx, 3)) (hA : ∀ q, s.heap.size ≤ q → A q) (hlv : lv.length = nL) (hcat : (st.map fun v => v.category).sum ≤ 8) (hf : cells + mc ≤ R.cells ∧ slots + ms ≤ R.slots) (hq : pc + 3 = q)
    (kk : ∀ (sz : Nat) (b : St3), post sz b → E.1 = b.1.1 → (∀ z, AN E sz z → A z) → AW p l e R s m args below meth c (cells + mc) (slots + ms) Q A b.1 b.2.1 q lv st b.2.2) : AW p l e R s m args below meth c cells slots Q A E ρ pc lv (a1 :: .ref (ad E k) :: st) σ := by
  subst hq
  intro H locs ls hP hS hl
  have hAN : ∀ z, AN E H.size z → A z := by
    intro z hz
    rcases hz with hz | hz
    · exact al_sub cx z hz
    · exact hA z (Nat.le_trans hS.1 hz)
  refine va_callv (va_runIN (As := [a1]) (rest := st) cx.1 (hM H.size) cw ⟨cn_blind (E, ρ, σ) H.size _, fun U hU hW => ⟨rfl, by rw [hU], by rw [hU]; exact hP, cx.2.1.warm hW, hn2.warm hW⟩⟩ rfl rfl (hl.1.trans hlv) rfl (lv_room hcat) hd hf) hS (fun q _ h => hAN q h) hAN (fun b t H1 locs1 ht hvm hw hB hz hk hS1 => ?_)
  rw [ht] at hB
  exact kk H.size b hw.1 hw.2 hAN H1 locs1 ls hB hS1 hl
end CTOR2
