def own (k : Ky) : Nat := if k.1 = 7 then 100 else if k.1 = 6 ∨ (k.1 = 9 ∧ k.2.1 = 0) then 101 else if k.1 = 9 then 102 else if k.1 = 12 ∨ k.1 = 2 then 103 else k.2.1
theorem own_net {n : Nat} {k : Ky} (h : sN n k ∨ k = (4, n, 0, 0)) : own k = n := by
  have h1 : k.2.1 = n := sN_cell h
  have h2 : k.1 = 13 ∨ k.1 = 11 ∨ k.1 = 5 ∨ k.1 = 3 ∨ k.1 = 14 ∨ k.1 = 1 ∨ k.1 = 0 ∨ k.1 = 4 := by
    rcases h with h | rfl
    · have := (sN_keys h).2; omega
    · simp
  unfold own
  rw [if_neg (by omega), if_neg (by omega), if_neg (by omega), if_neg (by omega)]
  exact h1
theorem own_hist {k : Ky} (h : (sH 6 k ∨ k = (12, 0, 0, 0)) ∨ k = (2, 0, 0, 0)) : own k = 103 ∨ (0 < own k ∧ own k < 7) := by
  rcases h with (⟨n, hn, h⟩ | rfl) | rfl
  · have := own_net h; omega
  · exact Or.inl rfl
  · exact Or.inl rfl
def s71 (k : Ky) : Prop := False ∨ (k = (9, 0, 0, 0) ∨ k = (6, 0, 0, 0))
def s72 (k : Ky) : Prop := s71 k ∨ (sN 0 k ∨ k = (4, 0, 0, 0))
def s73 (k : Ky) : Prop := s72 k ∨ ((sH 6 k ∨ k = (12, 0, 0, 0)) ∨ k = (2, 0, 0, 0))
def s74 (k : Ky) : Prop := s73 k ∨ k = (9, 1, 0, 0)
def s75 (k : Ky) : Prop := s74 k ∨ (sN 7 k ∨ k = (4, 7, 0, 0))
def s76 (k : Ky) : Prop := s75 k ∨ (sN 8 k ∨ k = (4, 8, 0, 0))
theorem own_1 {k : Ky} (h : s71 k) : own k = 101 := by
  rcases h with h | rfl | rfl
  · exact h.elim
  · rfl
  · rfl
theorem own_2 {k : Ky} (h : s72 k) : own k = 101 ∨ own k = 0 := h.elim (fun h => Or.inl (own_1 h)) (fun h => Or.inr (own_net h))
theorem own_3 {k : Ky} (h : s73 k) : own k = 101 ∨ own k = 103 ∨ own k < 7 := by
  rcases h with h | h
  · have := own_2 h; omega
  · have := own_hist h; omega
theorem own_4 {k : Ky} (h : s74 k) : own k = 101 ∨ own k = 102 ∨ own k = 103 ∨ own k < 7 := by
  rcases h with h | rfl
  · have := own_3 h; omega
  · exact Or.inr (Or.inl rfl)
theorem own_5 {k : Ky} (h : s75 k) : own k = 101 ∨ own k = 102 ∨ own k = 103 ∨ own k < 8 := by
  rcases h with h | h
  · have := own_4 h; omega
  · have := own_net h; omega
theorem net_in {t n e l : Nat} (h : kvX (t, n, e, l)) (ht : t = 13 ∨ t = 11 ∨ t = 5 ∨ t = 3 ∨ t = 14 ∨ t = 1 ∨ t = 0 ∨ t = 4) : n < 9 ∧ (sN n (t, n, e, l) ∨ (t, n, e, l) = (4, n, 0, 0)) := by
  rcases ht with rfl | rfl | rfl | rfl | rfl | rfl | rfl | rfl <;> obtain ⟨hn, he, hl⟩ := h <;> refine ⟨hn, ?_⟩
  · subst hl
    have : e = 0 ∨ e = 1 := by omega
    rcases this with rfl | rfl
    · exact Or.inl (Or.inl (Or.inl (Or.inl (Or.inl rfl))))
    · exact Or.inl (Or.inr (Or.inl (Or.inl (Or.inl rfl))))
  · subst hl
    have : e = 0 ∨ e = 1 := by omega
    rcases this with rfl | rfl
    · exact Or.inl (Or.inl (Or.inl (Or.inr (Or.inl rfl))))
    · exact Or.inl (Or.inr (Or.inl (Or.inr (Or.inl rfl))))
  · have : e = 0 ∨ e = 1 := by omega
    rcases this with rfl | rfl
    · exact Or.inl (Or.inl (Or.inl (Or.inl (Or.inr ⟨l, hl, Or.inl rfl⟩))))
    · exact Or.inl (Or.inr (Or.inl (Or.inl (Or.inr ⟨l, hl, Or.inl rfl⟩))))
  · have : e = 0 ∨ e = 1 := by omega
    rcases this with rfl | rfl
    · exact Or.inl (Or.inl (Or.inl (Or.inl (Or.inr ⟨l, hl, Or.inr (Or.inl rfl)⟩))))
    · exact Or.inl (Or.inr (Or.inl (Or.inl (Or.inr ⟨l, hl, Or.inr (Or.inl rfl)⟩))))
  · have : e = 0 ∨ e = 1 := by omega
    rcases this with rfl | rfl
    · exact Or.inl (Or.inl (Or.inl (Or.inl (Or.inr ⟨l, hl, Or.inr (Or.inr rfl)⟩))))
    · exact Or.inl (Or.inr (Or.inl (Or.inl (Or.inr ⟨l, hl, Or.inr (Or.inr rfl)⟩))))
  · have : e = 0 ∨ e = 1 := by omega
    rcases this with rfl | rfl
    · exact Or.inl (Or.inl (Or.inl (Or.inr (Or.inr ⟨l, hl, rfl⟩))))
    · exact Or.inl (Or.inr (Or.inl (Or.inr (Or.inr ⟨l, hl, rfl⟩))))
  · subst hl
    have : e = 0 ∨ e = 1 := by omega
    rcases this with rfl | rfl
    · exact Or.inl (Or.inl (Or.inr rfl))
    · exact Or.inl (Or.inr (Or.inr rfl))
  · subst he hl
    exact Or.inr rfl
theorem sE_X {n e : Nat} {k : Ky} (hn : n < 9) (he : e < 2) (h : sE n e k) : kvX k := by
  rcases h with (rfl | ⟨l, hl, rfl | rfl | rfl⟩) | rfl | ⟨f, hf, rfl⟩
  · exact ⟨hn, he, rfl⟩
  · exact ⟨hn, he, hl⟩
  · exact ⟨hn, he, hl⟩
  · exact ⟨hn, he, hl⟩
  · exact ⟨hn, he, rfl⟩
  · exact ⟨hn, he, hf⟩
theorem sN_X {n : Nat} {k : Ky} (hn : n < 9) (h : sN n k ∨ k = (4, n, 0, 0)) : kvX k := by
  rcases h with ((h | rfl) | (h | rfl)) | rfl
  · exact sE_X hn (by decide) h
  · exact ⟨hn, by decide, rfl⟩
  · exact sE_X hn (by decide) h
  · exact ⟨hn, by decide, rfl⟩
  · exact ⟨hn, rfl, rfl⟩
theorem kvX_iff (k : Ky) : kvX k ↔ (k = (7, 0, 0, 0) ∨ s76 k) := by
  constructor
  · intro h
    obtain ⟨t, n, e, l⟩ := k
    have ht : t = 2 ∨ t = 6 ∨ t = 7 ∨ t = 9 ∨ t = 12 ∨ (t = 13 ∨ t = 11 ∨ t = 5 ∨ t = 3 ∨ t = 14 ∨ t = 1 ∨ t = 0 ∨ t = 4) := by
      have h2 := h
      unfold kvX at h2
      split at h2 <;> first | (rename_i q; cases q; simp) | exact h2.elim
    rcases ht with rfl | rfl | rfl | rfl | rfl | ht
    · obtain ⟨rfl, rfl, rfl⟩ := h; exact Or.inr (Or.inl (Or.inl (Or.inl (Or.inr (Or.inr rfl)))))
    · obtain ⟨rfl, rfl, rfl⟩ := h; exact Or.inr (Or.inl (Or.inl (Or.inl (Or.inl (Or.inl (Or.inr (Or.inr rfl)))))))
    · obtain ⟨rfl, rfl, rfl⟩ := h; exact Or.inl rfl
    · obtain ⟨hn, rfl, rfl⟩ := h
      have : n = 0 ∨ n = 1 := by omega
      rcases this with rfl | rfl
      · exact Or.inr (Or.inl (Or.inl (Or.inl (Or.inl (Or.inl (Or.inr (Or.inl rfl)))))))
      · exact Or.inr (Or.inl (Or.inl (Or.inr rfl)))
    · obtain ⟨rfl, rfl, rfl⟩ := h; exact Or.inr (Or.inl (Or.inl (Or.inl (Or.inr (Or.inl (Or.inr rfl))))))
    · obtain ⟨hn, hN⟩ := net_in h ht
      right
      by_cases h0 : n = 0
      · subst h0; exact Or.inl (Or.inl (Or.inl (Or.inl (Or.inr hN))))
      · by_cases h7 : n = 7
        · subst h7; exact Or.inl (Or.inr hN)
        · by_cases h8 : n = 8
          · subst h8; exact Or.inr hN
          · obtain ⟨i, rfl⟩ : ∃ i, n = i + 1 := ⟨n - 1, by omega⟩
            exact Or.inl (Or.inl (Or.inl (Or.inr (Or.inl (Or.inl ⟨i, by omega, hN⟩)))))
  · rintro (rfl | (((((f | rfl | rfl) | h) | ((⟨n, hn, h⟩ | rfl) | rfl)) | rfl) | h) | h)
    · exact ⟨rfl, rfl, rfl⟩
    · exact f.elim
    · exact ⟨by decide, rfl, rfl⟩
    · exact ⟨rfl, rfl, rfl⟩
    · exact sN_X (by decide) h
    · exact sN_X (by omega) h
    · exact ⟨rfl, rfl, rfl⟩
    · exact ⟨rfl, rfl, rfl⟩
    · exact ⟨by decide, rfl, rfl⟩
    · exact sN_X (by decide) h
    · exact sN_X (by decide) h
def xTx : Nat → Nat → Sg → Sg
  | 0, _, σ => σ
  | d + 1, i, σ => xTx d (i + 1) (tAdd σ (sB i))
def xFirst : Sg := up2 (nLay (xTx 57 0 ini0) 0) (6, 0, 0, 0) 1 0
def XP (a : St3) (A : Nat → Prop) (b : St3) : Prop := ((b.1.1 = a.1.1 ∧ b.1.2.1 = a.1.2.1) ∧ (∀ k, k ∈ ks b.1 ↔ kvX k) ∧ (∀ k ∈ ks a.1, ad b.1 k = ad a.1 k)) ∧ okE b.1 ∧ (∀ k ∈ ks b.1, A (ad b.1 k)) ∧ b.2.1 = rh0 ∧ b.2.2 = xFirst
def strT : String := "l1,5,2,5;l1,3,2,4;l1,5,2,1;l1,5,3,5;l1,6,2,6;x4,5;m2,2,1;"
def C7 (aK aV : Nat) (l : Launch) (fr lc mc ms : Nat) (a : St3) (as : List Value) (post : Nat → St3 → Prop) : Prop :=
  ∀ sz : Nat, Met l yX7_init wsX7_init { frames := fr, cells := mc, slots := ms, locals := lc } (va_Pc as (fun U => U.heap.size = sz ∧ va_P a.1.1 vwCl (wl a.1 a.2.1 a.2.2) U.heap ∧ sw2 a.1 U ∧ SE aK aV (AN a.1 sz) U U.heap ∧ vk_R RX7 40 strT aK U)) (va_Qv (fun b : St3 => post sz b ∧ a.1.1 = b.1.1) (fun b t => va_P b.1.1 vwCl (wl b.1 b.2.1 b.2.2) t.heap) (AN a.1 sz)) mc ms (AN a.1 sz)
theorem c7_of {aK aV : Nat} {l : Launch} {ws' : List Cond} {fr lc mc ms : Nat} {a : St3} {as : List Value} {post : Nat → St3 → Prop} {lv : List (Option Value)} (hlv : lv0 as 2 = lv) (hw : wsX7_init = Cond.code yX7_init cX7_init 2 none :: ws') (hE : okE a.1) (hc : argsOk as) (hn : as.length ≤ 2)
    (body : ∀ (sz : Nat) (p : Program) (e : Env) (s : State) (m : MethodId) (args : Array Value) (below : List Frame) (meth : Method) (c : Code) (Q : State → Prop), s.heap.size = sz → Cx p s m args c a.1 (AN a.1 sz) RX7 cX7_init 2 wsX7_init → nst2 s → SE aK aV (AN a.1 sz) s s.heap → vk_R RX7 40 strT aK s → meth.name = "<init>" → meth.locks = false → meth.sig.returnType = none → Q = MQ below (va_Qv (fun b : St3 => post sz b ∧ a.1.1 = b.1.1) (fun b t => va_P b.1.1 vwCl (wl b.1 b.2.1 b.2.2) t.heap) (AN a.1 sz)) args s mc ms (AN a.1 sz) → AW p l e { frames := fr, cells := mc, slots := ms, locals := lc } s m args below meth c 0 0 Q (AN a.1 sz) a.1 a.2.1 0 lv [] a.2.2) : C7 aK aV l fr lc mc ms a as post := by
  intro sz
  have hl : (lg_sl as).length ≤ 2 := by rw [lg_len hc]; exact hn
  refine Met.ofW (cc := cX7_init) (maxL := 2) (ret := none) (by decide) hw ?_
  intro p e s m args below meth c s₁ B hml hv
  obtain ⟨rfl, hsz, hP, ⟨hsw, hn2⟩, hse, hvr⟩ := hv
  subst hlv
  rw [lg_entry_eq]
  exact body sz p e s m _ below meth c _ hsz ⟨⟨B.exec, B.bytes, hml, findClass_of_methodNamed B.named, atoms_spec (ws := wsX7_init) B.pre⟩, hsw, hE, fun k hk => Or.inl ⟨k, hk, rfl⟩⟩ hn2 hse hvr ((name_of_methodNamed B.named B.method).1.trans rfl) B.notSynchronized B.returns rfl s.heap [] _ hP va_S.rf (hs_entry hc hn hl)
section LDC
variable {p : Program} {l : Launch} {e : Env} {R : Room} {s : State} {m : MethodId} {args : Array Value} {below : List Frame} {meth : Method} {c : Code} {cells slots : Nat} {Q : State → Prop} {A : Nat → Prop} {E : Ev} {ρ : Rh} {σ σ' : Sg} {pc q : Nat} {lv : List (Option Value)} {st : List Value} {own : String} {cc : ByteArray} {nL : Nat} {Ts : List Cond}
theorem A_ldc (cx : Cx p s m args c E A own cc nL Ts) {tx : String} {idx a : Nat} (hZ : vk_R own idx tx a s) (hd : decode cc pc = .ok (.ldc idx, 2)) (hq : pc + 2 = q) (kk : AW p l e R s m args below meth c cells slots Q A E ρ q lv (.ref a :: st) σ) : AW p l e R s m args below meth c cells slots Q A E ρ pc lv st σ := fun H locs ls hP hS hl => by
  subst hq
  exact va_ldcS cx.1.1 cx.1.2.1 cx.1.2.2.2.1 hZ hd (kk H locs ls hP hS hl)
end LDC
theorem wc_X7_init_ari : Cond.arrayClass (newarray.typeOf .int) ∈ wsX7_init := by decide +kernel
theorem wc_X7_init_oi : Cond.methodLink RX7 1 objectInit ∈ wsX7_init := by decide +kernel
theorem wc_X7_init_oj : Cond.instanceMethod objectInit ∈ wsX7_init := by decide +kernel
theorem wc_X7_init_cl7 : Cond.classLink RX7 7 RX6 ∈ wsX7_init := by decide +kernel
theorem wc_X7_init_isX6 : Cond.instantiable RX6 2 ∈ wsX7_init := by decide +kernel
theorem wc_X7_init_inX6 : Cond.initialized RX6 ∈ wsX7_init := by decide +kernel
theorem wi_X7_init_X6 : ∀ w ∈ u_ws RX6 TX6 2, w ∈ wsX7_init := by decide +kernel
theorem wc_X7_init_imX6_init : Cond.instanceMethod yX6_init ∈ wsX7_init := by decide +kernel
theorem wi_X7_init_X7 : ∀ w ∈ u_ws RX7 TX7 6, w ∈ wsX7_init := by decide +kernel
theorem wf_X7_init_10 : Cond.fieldLink RX7 10 (TX7 0).1 (TX7 0).2.1 (TX7 0).2.2.1 ∈ wsX7_init := by decide +kernel
theorem wc_X7_init_cl16 : Cond.classLink RX7 16 RX4 ∈ wsX7_init := by decide +kernel
theorem wc_X7_init_isX4 : Cond.instantiable RX4 7 ∈ wsX7_init := by decide +kernel
theorem wc_X7_init_inX4 : Cond.initialized RX4 ∈ wsX7_init := by decide +kernel
theorem wi_X7_init_X4 : ∀ w ∈ u_ws RX4 TX4 7, w ∈ wsX7_init := by decide +kernel
theorem wc_X7_init_imX4_init : Cond.instanceMethod yX4_init ∈ wsX7_init := by decide +kernel
theorem wf_X7_init_19 : Cond.fieldLink RX7 19 (TX7 1).1 (TX7 1).2.1 (TX7 1).2.2.1 ∈ wsX7_init := by decide +kernel
theorem wc_X7_init_cl23 : Cond.classLink RX7 23 RX2 ∈ wsX7_init := by decide +kernel
theorem wc_X7_init_isX2 : Cond.instantiable RX2 3 ∈ wsX7_init := by decide +kernel
theorem wc_X7_init_inX2 : Cond.initialized RX2 ∈ wsX7_init := by decide +kernel
theorem wi_X7_init_X2 : ∀ w ∈ u_ws RX2 TX2 3, w ∈ wsX7_init := by decide +kernel
theorem wc_X7_init_imX2_init : Cond.instanceMethod yX2_init ∈ wsX7_init := by decide +kernel
theorem wc_X7_init_ml25 : Cond.methodLink RX7 25 yX2_init ∈ wsX7_init := by decide +kernel
theorem wf_X7_init_26 : Cond.fieldLink RX7 26 (TX7 2).1 (TX7 2).2.1 (TX7 2).2.2.1 ∈ wsX7_init := by decide +kernel
theorem wf_X7_init_30 : Cond.fieldLink RX7 30 (TX7 3).1 (TX7 3).2.1 (TX7 3).2.2.1 ∈ wsX7_init := by decide +kernel
theorem wf_X7_init_34 : Cond.fieldLink RX7 34 (TX7 4).1 (TX7 4).2.1 (TX7 4).2.2.1 ∈ wsX7_init := by decide +kernel
theorem wf_X7_init_37 : Cond.fieldLink RX7 37 (TX7 5).1 (TX7 5).2.1 (TX7 5).2.2.1 ∈ wsX7_init := by decide +kernel
set_option maxHeartbeats 1000000 in
set_option maxRecDepth 100000 in
theorem ct_X7_init {la : Launch} {aK aV : Nat} {E : Ev} {ρ : Rh} {σ : Sg} (hE : okE E) (hclo : clo E ρ) (h7 : (7, 0, 0, 0) ∈ ks E) (hcl : ∀ k ∈ ks E, k = (7, 0, 0, 0)) (hσ : σ (7, 0, 0, 0) = fun _ => 0) : C7 aK aV la 6 115 536 3166 (E, ρ, σ) [.ref (ad E (7, 0, 0, 0))] (fun sz => XP (E, ρ, σ) (AN E sz)) := by
  refine c7_of (lv := [some _, none]) rfl rfl hE (ok1 rfl) (Nat.le_of_ble_eq_true rfl) (fun sz p ev s m args below meth c Q hsz cx hn2 hse hvr hnm hlk hr hQ => ?_)
  have hA : ∀ q, s.heap.size ≤ q → AN E sz q := fun q hq => Or.inr (by omega)
  have A0 : Acc (7, 0, 0, 0) (fun _ => False) (ρ (7, 0, 0, 0)) (E, ρ, σ) (AN E sz) (E, ρ, σ) := acc_0 ⟨hE, hclo⟩ cx.2.2.2
  have m0 := h7
  refine A_aload_n (q := 1) cx dX7_init_0 rfl rfl rfl ?_
  refine A_objInit (q := 4) cx wc_X7_init_oi wc_X7_init_oj (List.mem_of_getElem? (i := 3) rfl) dX7_init_1 rfl ⟨Nat.le_of_ble_eq_true rfl, Nat.le_of_ble_eq_true rfl⟩ rfl ?_
  refine A_aload_n (q := 5) cx dX7_init_4 rfl rfl rfl ?_
  have hk0 : ∀ k, (k = (9, 0, 0, 0) ∨ k = (6, 0, 0, 0)) → k ∉ ks E := fun k hk h => by
    have a := own_1 (k := k) (Or.inr hk)
    rcases (A0.1.2.1 k).mp h with q | q
    · rw [hcl k q] at a; revert a; decide
    · exact q.elim
  refine A_new (q := 8) (ci := 6) (fs := [.null, .int 0]) cx (6, 0, 0, 0) tyX6 tyX6_ok wi_X7_init_X6 wc_X7_init_cl7 wc_X7_init_isX6 wc_X7_init_inX6 rfl dX7_init_5 hA (hk0 _ (Or.inr rfl)) A0.2.1.2 rfl (fun j hj => by match j, hj with | 0, _ | 1, _ => rfl) (Nat.le_of_ble_eq_true rfl) (Nat.le_of_ble_eq_true rfl) rfl (fun z_5 cx => ?_)
  refine A_dup (q := 9) cx dX7_init_8 rfl rfl ?_
  have mm0 : (6, 0, 0, 0) ∈ ks (addK E (6, 0, 0, 0) z_5) := List.mem_append_right _ (List.mem_singleton.mpr rfl)
  have nn0 : (9, 0, 0, 0) ∉ ks (addK E (6, 0, 0, 0) z_5) := fun h => (List.mem_append.mp h).elim (hk0 _ (Or.inl rfl)) (fun q => by cases List.mem_singleton.mp q)
  refine TN0 (q := 12) cx hn2 (ct_X6_init cx.2.2.1 (clo_addK z_5 A0.2.1.2) mm0 nn0 (sr_at _ _ _)) ⟨va_cnB 0 cx.1.2.2.2.2 gX7_init_X6_init_n9 rfl rfl rfl hn2.1.2.2.2.2.1 (cx.1.2.2.2.2 _ wc_X7_init_inX6) (by decide +kernel) ⟨Nat.le_of_ble_eq_true rfl, Nat.le_of_ble_eq_true rfl⟩, rfl, cx.1.2.2.2.2 _ wc_X7_init_imX6_init⟩ dX7_init_9 hA rfl (Nat.le_of_ble_eq_true rfl) ⟨Nat.le_of_ble_eq_true rfl, Nat.le_of_ble_eq_true rfl⟩ rfl (fun sz0 d0 hb0 hbb0 hAN0 => ?_)
  have cx := cx_gr (a := ((addK E (6, 0, 0, 0) z_5), _, _)) cx hb0 hAN0
  have e0_0 := hb0.1.2.2.1 (6, 0, 0, 0) mm0
  have e7_0 := (hb0.1.2.2.1 (7, 0, 0, 0) (List.mem_append_left _ m0)).trans (ad_addK_ne E (6, 0, 0, 0) z_5 (by simp))
  dsimp only at e0_0 e7_0
  rw [← e0_0, ← e7_0]
  have mv0 : (7, 0, 0, 0) ∈ ks d0.1 := (hb0.1.2.1 _).mpr (Or.inl (List.mem_append_left _ m0))
  refine fX7_0 (q := 15) cx hnm wi_X7_init_X7 wf_X7_init_10 dX7_init_12 rfl mv0 rfl ?_
  refine A_abs (P := fun b => Acc (7, 0, 0, 0) s71 (upf (ρ (7, 0, 0, 0)) 0 (6, 0, 0, 0)) (E, ρ, σ) (AN E sz) b ∧ Cx p s m args c b.1 (AN E sz) RX7 cX7_init 2 wsX7_init ∧ (7, 0, 0, 0) ∈ ks b.1) (k := (7, 0, 0, 0)) (tl := [none]) (d0.1, _, _) ⟨acc_step 0 A0 m0 hk0 hb0 hAN0, cx, mv0⟩ (fun b1 ⟨A1, cx, m1⟩ => ?_)
  refine A_aload_n (q := 16) cx dX7_init_15 rfl rfl rfl ?_
  have hk1 : ∀ k, (sN 0 k ∨ k = (4, 0, 0, 0)) → k ∉ ks b1.1 := fun k hk h => by
    have a := own_net hk
    rcases (A1.1.2.1 k).mp h with q | q
    · rw [hcl k q] at a; revert a; decide
    · have a2 := own_1 q; omega
  refine A_new (q := 19) (ci := 4) (fs := [.null, .null, .int 0, .int 0, .int 0, .int 0, .int 0]) cx (4, 0, 0, 0) tyX4 tyX4_ok wi_X7_init_X4 wc_X7_init_cl16 wc_X7_init_isX4 wc_X7_init_inX4 rfl dX7_init_16 hA (hk1 _ (Or.inr rfl)) A1.2.1.2 rfl (fun j hj => by match j, hj with | 0, _ | 1, _ | 2, _ | 3, _ | 4, _ | 5, _ | 6, _ => rfl) (Nat.le_of_ble_eq_true rfl) (Nat.le_of_ble_eq_true rfl) rfl (fun z_16 cx => ?_)
  refine A_dup (q := 20) cx dX7_init_19 rfl rfl ?_
  have mm1 : (4, 0, 0, 0) ∈ ks (addK b1.1 (4, 0, 0, 0) z_16) := List.mem_append_right _ (List.mem_singleton.mpr rfl)
  have nn1 : ∀ k, sN 0 k → k ∉ ks (addK b1.1 (4, 0, 0, 0) z_16) := fun k hk h => (List.mem_append.mp h).elim (hk1 k (Or.inl hk)) (fun q => by have := (sN_keys hk).2; rw [List.mem_singleton.mp q] at this; simp at this)
  refine TN0 (q := 23) cx hn2 (ct_X4_init (n := 0) cx.2.2.1 (clo_addK z_16 A1.2.1.2) mm1 nn1 (sr_at _ _ _)) ⟨va_cnB 0 cx.1.2.2.2.2 gX7_init_X4_init_n18 rfl rfl rfl hn2.1.2.2.2.2.2 (cx.1.2.2.2.2 _ wc_X7_init_inX4) (by decide +kernel) ⟨Nat.le_of_ble_eq_true rfl, Nat.le_of_ble_eq_true rfl⟩, rfl, cx.1.2.2.2.2 _ wc_X7_init_imX4_init⟩ dX7_init_20 hA rfl (Nat.le_of_ble_eq_true rfl) ⟨Nat.le_of_ble_eq_true rfl, Nat.le_of_ble_eq_true rfl⟩ rfl (fun sz1 d1 hb1 hbb1 hAN1 => ?_)
  have cx := cx_gr (a := ((addK b1.1 (4, 0, 0, 0) z_16), _, _)) cx hb1 hAN1
  have e0_1 := hb1.1.2.2.1 (4, 0, 0, 0) mm1
  have e7_1 := (hb1.1.2.2.1 (7, 0, 0, 0) (List.mem_append_left _ m1)).trans (ad_addK_ne b1.1 (4, 0, 0, 0) z_16 (by simp))
  dsimp only at e0_1 e7_1
  rw [← e0_1, ← e7_1]
  have mv1 : (7, 0, 0, 0) ∈ ks d1.1 := (hb1.1.2.1 _).mpr (Or.inl (List.mem_append_left _ m1))
  refine fX7_1 (q := 26) cx hnm wi_X7_init_X7 wf_X7_init_19 dX7_init_23 rfl mv1 rfl ?_
  refine A_abs (P := fun b => Acc (7, 0, 0, 0) s72 (upf (upf (ρ (7, 0, 0, 0)) 0 (6, 0, 0, 0)) 1 (4, 0, 0, 0)) (E, ρ, σ) (AN E sz) b ∧ Cx p s m args c b.1 (AN E sz) RX7 cX7_init 2 wsX7_init ∧ (7, 0, 0, 0) ∈ ks b.1) (k := (7, 0, 0, 0)) (tl := [none]) (d1.1, _, _) ⟨acc_step 1 A1 m1 hk1 hb1 hAN1, cx, mv1⟩ (fun b2 ⟨A2, cx, m2⟩ => ?_)
  refine A_aload_n (q := 27) cx dX7_init_26 rfl rfl rfl ?_
  have hk2 : ∀ k, ((sH 6 k ∨ k = (12, 0, 0, 0)) ∨ k = (2, 0, 0, 0)) → k ∉ ks b2.1 := fun k hk h => by
    have a := own_hist hk
    rcases (A2.1.2.1 k).mp h with q | q
    · rw [hcl k q] at a; revert a; decide
    · have a2 := own_2 q; omega
  refine A_new (q := 30) (ci := 2) (fs := [.null, .int 0, .int 0]) cx (2, 0, 0, 0) tyX2 tyX2_ok wi_X7_init_X2 wc_X7_init_cl23 wc_X7_init_isX2 wc_X7_init_inX2 rfl dX7_init_27 hA (hk2 _ (Or.inr rfl)) A2.2.1.2 rfl (fun j hj => by match j, hj with | 0, _ | 1, _ | 2, _ => rfl) (Nat.le_of_ble_eq_true rfl) (Nat.le_of_ble_eq_true rfl) rfl (fun z_27 cx => ?_)
  refine A_dup (q := 31) cx dX7_init_30 rfl rfl ?_
  have mm2 : (2, 0, 0, 0) ∈ ks (addK b2.1 (2, 0, 0, 0) z_27) := List.mem_append_right _ (List.mem_singleton.mpr rfl)
  have nn2 : ∀ k, sH 6 k → k ∉ ks (addK b2.1 (2, 0, 0, 0) z_27) := fun k hk h => (List.mem_append.mp h).elim (hk2 k (Or.inl (Or.inl hk))) (fun q => by have := (sH_keys hk).2; rw [List.mem_singleton.mp q] at this; simp at this)
  have n12 : (12, 0, 0, 0) ∉ ks (addK b2.1 (2, 0, 0, 0) z_27) := fun h => (List.mem_append.mp h).elim (hk2 _ (Or.inl (Or.inr rfl))) (fun q => by cases List.mem_singleton.mp q)
  refine TI0 (q := 34) cx hn2 (ct_X2_init cx.2.2.1 (clo_addK z_27 A2.2.1.2) mm2 n12 nn2 (sr_at _ _ _)) (cwI 0 cx.1.2.2.2.2 gX7_init_X2_init rfl rfl rfl (cx.1.2.2.2.2 _ wc_X7_init_inX2) (cx.1.2.2.2.2 _ wc_X7_init_ml25) (cx.1.2.2.2.2 _ wc_X7_init_imX2_init) rfl (by decide +kernel) ⟨Nat.le_of_ble_eq_true rfl, Nat.le_of_ble_eq_true rfl⟩) dX7_init_31 hA rfl (Nat.le_of_ble_eq_true rfl) ⟨Nat.le_of_ble_eq_true rfl, Nat.le_of_ble_eq_true rfl⟩ rfl (fun sz2 d2 hb2 hbb2 hAN2 => ?_)
  have cx := cx_gr (a := ((addK b2.1 (2, 0, 0, 0) z_27), _, _)) cx hb2 hAN2
  have e0_2 := hb2.1.2.2.1 (2, 0, 0, 0) mm2
  have e7_2 := (hb2.1.2.2.1 (7, 0, 0, 0) (List.mem_append_left _ m2)).trans (ad_addK_ne b2.1 (2, 0, 0, 0) z_27 (by simp))
  dsimp only at e0_2 e7_2
  rw [← e0_2, ← e7_2]
  have mv2 : (7, 0, 0, 0) ∈ ks d2.1 := (hb2.1.2.1 _).mpr (Or.inl (List.mem_append_left _ m2))
  refine fX7_2 (q := 37) cx hnm wi_X7_init_X7 wf_X7_init_26 dX7_init_34 rfl mv2 rfl ?_
  refine A_abs (P := fun b => Acc (7, 0, 0, 0) s73 (upf (upf (upf (ρ (7, 0, 0, 0)) 0 (6, 0, 0, 0)) 1 (4, 0, 0, 0)) 2 (2, 0, 0, 0)) (E, ρ, σ) (AN E sz) b ∧ Cx p s m args c b.1 (AN E sz) RX7 cX7_init 2 wsX7_init ∧ (7, 0, 0, 0) ∈ ks b.1) (k := (7, 0, 0, 0)) (tl := [none]) (d2.1, _, _) ⟨acc_step 2 A2 m2 hk2 hb2 hAN2, cx, mv2⟩ (fun b3 ⟨A3, cx, m3⟩ => ?_)
  refine A_aload_n (q := 38) cx dX7_init_37 rfl rfl rfl ?_
  have hk3 : ∀ k, k = (9, 1, 0, 0) → k ∉ ks b3.1 := fun k hk h => by
    have a : own k = 102 := by rw [hk]; rfl
    rcases (A3.1.2.1 k).mp h with q | q
    · rw [hcl k q] at a; revert a; decide
    · have a2 := own_3 q; omega
  refine A_bipush (v := 12) (q := 40) cx dX7_init_38 (by decide) rfl ?_
  refine A_newarr (q := 42) cx (9, 1, 0, 0) 0 wc_X7_init_ari rfl rfl rfl rfl dX7_init_40 hA (hk3 _ rfl) A3.2.1.2 (by decide) (show Int32.toNatClampNeg 12 = 12 from by decide) (Nat.le_of_ble_eq_true rfl) (Nat.le_of_ble_eq_true rfl) (Nat.le_of_ble_eq_true rfl) rfl (fun z3 cx => ?_)
  rw [← ad_addK_ne b3.1 (9, 1, 0, 0) z3 (show (7, 0, 0, 0) ≠ (9, 1, 0, 0) by simp)]
  refine fX7_3 (q := 45) cx hnm wi_X7_init_X7 wf_X7_init_30 dX7_init_42 rfl (List.mem_append_left _ m3) rfl ?_
  refine A_abs (P := fun b => Acc (7, 0, 0, 0) s74 (upf (upf (upf (upf (ρ (7, 0, 0, 0)) 0 (6, 0, 0, 0)) 1 (4, 0, 0, 0)) 2 (2, 0, 0, 0)) 3 (9, 1, 0, 0)) (E, ρ, σ) (AN E sz) b ∧ Cx p s m args c b.1 (AN E sz) RX7 cX7_init 2 wsX7_init ∧ (7, 0, 0, 0) ∈ ks b.1) (k := (7, 0, 0, 0)) (tl := [none]) (addK b3.1 (9, 1, 0, 0) z3, _, _) ⟨acc_leaf 3 A3 m3 (hk3 _ rfl) cx.2.2.1 cx.2.2.2 fi_arr, cx, List.mem_append_left _ m3⟩ (fun b4 ⟨A4, cx, m4⟩ => ?_)
  refine A_aload_n (q := 46) cx dX7_init_45 rfl rfl rfl ?_
  have hk4 : ∀ k, (sN 7 k ∨ k = (4, 7, 0, 0)) → k ∉ ks b4.1 := fun k hk h => by
    have a := own_net hk
    rcases (A4.1.2.1 k).mp h with q | q
    · rw [hcl k q] at a; revert a; decide
    · have a2 := own_4 q; omega
  refine A_new (q := 49) (ci := 4) (fs := [.null, .null, .int 0, .int 0, .int 0, .int 0, .int 0]) cx (4, 7, 0, 0) tyX4 tyX4_ok wi_X7_init_X4 wc_X7_init_cl16 wc_X7_init_isX4 wc_X7_init_inX4 rfl dX7_init_46 hA (hk4 _ (Or.inr rfl)) A4.2.1.2 rfl (fun j hj => by match j, hj with | 0, _ | 1, _ | 2, _ | 3, _ | 4, _ | 5, _ | 6, _ => rfl) (Nat.le_of_ble_eq_true rfl) (Nat.le_of_ble_eq_true rfl) rfl (fun z_46 cx => ?_)
  refine A_dup (q := 50) cx dX7_init_49 rfl rfl ?_
  have mm4 : (4, 7, 0, 0) ∈ ks (addK b4.1 (4, 7, 0, 0) z_46) := List.mem_append_right _ (List.mem_singleton.mpr rfl)
  have nn4 : ∀ k, sN 7 k → k ∉ ks (addK b4.1 (4, 7, 0, 0) z_46) := fun k hk h => (List.mem_append.mp h).elim (hk4 k (Or.inl hk)) (fun q => by have := (sN_keys hk).2; rw [List.mem_singleton.mp q] at this; simp at this)
  refine TN0 (q := 53) cx hn2 (ct_X4_init (n := 7) cx.2.2.1 (clo_addK z_46 A4.2.1.2) mm4 nn4 (sr_at _ _ _)) ⟨va_cnB 0 cx.1.2.2.2.2 gX7_init_X4_init_n18 rfl rfl rfl hn2.1.2.2.2.2.2 (cx.1.2.2.2.2 _ wc_X7_init_inX4) (by decide +kernel) ⟨Nat.le_of_ble_eq_true rfl, Nat.le_of_ble_eq_true rfl⟩, rfl, cx.1.2.2.2.2 _ wc_X7_init_imX4_init⟩ dX7_init_50 hA rfl (Nat.le_of_ble_eq_true rfl) ⟨Nat.le_of_ble_eq_true rfl, Nat.le_of_ble_eq_true rfl⟩ rfl (fun sz4 d4 hb4 hbb4 hAN4 => ?_)
  have cx := cx_gr (a := ((addK b4.1 (4, 7, 0, 0) z_46), _, _)) cx hb4 hAN4
  have e0_4 := hb4.1.2.2.1 (4, 7, 0, 0) mm4
  have e7_4 := (hb4.1.2.2.1 (7, 0, 0, 0) (List.mem_append_left _ m4)).trans (ad_addK_ne b4.1 (4, 7, 0, 0) z_46 (by simp))
  dsimp only at e0_4 e7_4
  rw [← e0_4, ← e7_4]
  have mv4 : (7, 0, 0, 0) ∈ ks d4.1 := (hb4.1.2.1 _).mpr (Or.inl (List.mem_append_left _ m4))
  refine fX7_4 (q := 56) cx hnm wi_X7_init_X7 wf_X7_init_34 dX7_init_53 rfl mv4 rfl ?_
  refine A_abs (P := fun b => Acc (7, 0, 0, 0) s75 (upf (upf (upf (upf (upf (ρ (7, 0, 0, 0)) 0 (6, 0, 0, 0)) 1 (4, 0, 0, 0)) 2 (2, 0, 0, 0)) 3 (9, 1, 0, 0)) 4 (4, 7, 0, 0)) (E, ρ, σ) (AN E sz) b ∧ Cx p s m args c b.1 (AN E sz) RX7 cX7_init 2 wsX7_init ∧ (7, 0, 0, 0) ∈ ks b.1) (k := (7, 0, 0, 0)) (tl := [none]) (d4.1, _, _) ⟨acc_step 4 A4 m4 hk4 hb4 hAN4, cx, mv4⟩ (fun b5 ⟨A5, cx, m5⟩ => ?_)
  refine A_aload_n (q := 57) cx dX7_init_56 rfl rfl rfl ?_
  have hk5 : ∀ k, (sN 8 k ∨ k = (4, 8, 0, 0)) → k ∉ ks b5.1 := fun k hk h => by
    have a := own_net hk
    rcases (A5.1.2.1 k).mp h with q | q
    · rw [hcl k q] at a; revert a; decide
    · have a2 := own_5 q; omega
  refine A_new (q := 60) (ci := 4) (fs := [.null, .null, .int 0, .int 0, .int 0, .int 0, .int 0]) cx (4, 8, 0, 0) tyX4 tyX4_ok wi_X7_init_X4 wc_X7_init_cl16 wc_X7_init_isX4 wc_X7_init_inX4 rfl dX7_init_57 hA (hk5 _ (Or.inr rfl)) A5.2.1.2 rfl (fun j hj => by match j, hj with | 0, _ | 1, _ | 2, _ | 3, _ | 4, _ | 5, _ | 6, _ => rfl) (Nat.le_of_ble_eq_true rfl) (Nat.le_of_ble_eq_true rfl) rfl (fun z_57 cx => ?_)
  refine A_dup (q := 61) cx dX7_init_60 rfl rfl ?_
  have mm5 : (4, 8, 0, 0) ∈ ks (addK b5.1 (4, 8, 0, 0) z_57) := List.mem_append_right _ (List.mem_singleton.mpr rfl)
  have nn5 : ∀ k, sN 8 k → k ∉ ks (addK b5.1 (4, 8, 0, 0) z_57) := fun k hk h => (List.mem_append.mp h).elim (hk5 k (Or.inl hk)) (fun q => by have := (sN_keys hk).2; rw [List.mem_singleton.mp q] at this; simp at this)
  refine TN0 (q := 64) cx hn2 (ct_X4_init (n := 8) cx.2.2.1 (clo_addK z_57 A5.2.1.2) mm5 nn5 (sr_at _ _ _)) ⟨va_cnB 0 cx.1.2.2.2.2 gX7_init_X4_init_n18 rfl rfl rfl hn2.1.2.2.2.2.2 (cx.1.2.2.2.2 _ wc_X7_init_inX4) (by decide +kernel) ⟨Nat.le_of_ble_eq_true rfl, Nat.le_of_ble_eq_true rfl⟩, rfl, cx.1.2.2.2.2 _ wc_X7_init_imX4_init⟩ dX7_init_61 hA rfl (Nat.le_of_ble_eq_true rfl) ⟨Nat.le_of_ble_eq_true rfl, Nat.le_of_ble_eq_true rfl⟩ rfl (fun sz5 d5 hb5 hbb5 hAN5 => ?_)
  have cx := cx_gr (a := ((addK b5.1 (4, 8, 0, 0) z_57), _, _)) cx hb5 hAN5
  have e0_5 := hb5.1.2.2.1 (4, 8, 0, 0) mm5
  have e7_5 := (hb5.1.2.2.1 (7, 0, 0, 0) (List.mem_append_left _ m5)).trans (ad_addK_ne b5.1 (4, 8, 0, 0) z_57 (by simp))
  dsimp only at e0_5 e7_5
  rw [← e0_5, ← e7_5]
  have mv5 : (7, 0, 0, 0) ∈ ks d5.1 := (hb5.1.2.1 _).mpr (Or.inl (List.mem_append_left _ m5))
  refine fX7_5 (q := 67) cx hnm wi_X7_init_X7 wf_X7_init_37 dX7_init_64 rfl mv5 rfl ?_
  refine A_abs (P := fun b => Acc (7, 0, 0, 0) s76 (upf (upf (upf (upf (upf (upf (ρ (7, 0, 0, 0)) 0 (6, 0, 0, 0)) 1 (4, 0, 0, 0)) 2 (2, 0, 0, 0)) 3 (9, 1, 0, 0)) 4 (4, 7, 0, 0)) 5 (4, 8, 0, 0)) (E, ρ, σ) (AN E sz) b ∧ Cx p s m args c b.1 (AN E sz) RX7 cX7_init 2 wsX7_init ∧ (7, 0, 0, 0) ∈ ks b.1) (k := (7, 0, 0, 0)) (tl := [none]) (d5.1, _, _) ⟨acc_step 5 A5 m5 hk5 hb5 hAN5, cx, mv5⟩ (fun b6 ⟨A6, cx, m6⟩ => ?_)
  have AA := A6
  have hks : ∀ k, k ∈ ks b6.1 ↔ kvX k := fun k => by
    rw [AA.1.2.1 k, kvX_iff k]
    exact ⟨fun q => q.elim (fun q => Or.inl (hcl k q)) Or.inr, fun q => q.elim (fun q => Or.inl (q ▸ h7)) Or.inr⟩
  have hX : xin b6.1 := fun k hk => (hks k).mpr hk
  have hE := cx.2.2.1
  refine A_ext (ρ' := rh0) (σ' := ini0) (fun k hk => kcX ((hks k).mp hk)) (fun k hk j hj => ?_) ?_
  · rcases (AA.1.2.1 k).mp hk with q | q
    · obtain rfl := hcl k q
      refine ⟨fun _ => ?_, ?_⟩
      · rw [AA.2.2.2.2.1]
        have hj6 : j < 6 := hj
        match j, hj6 with
        | 0, _ => simp [upf, rh0]
        | 1, _ => simp [upf, rh0]
        | 2, _ => simp [upf, rh0]
        | 3, _ => simp [upf, rh0]
        | 4, _ => simp [upf, rh0]
        | 5, _ => simp [upf, rh0]
      · rw [AA.2.2.2.2.2.1]; show σ (7, 0, 0, 0) j = _; rw [hσ]; rfl
    · exact AA.2.2.2.1 k q j hj
  have l1 : ∀ (d i : Nat) (σ1 : Sg), i + d = 57 → xTx d i σ1 = xTx 57 0 ini0 → AW p la ev { frames := 6, cells := 536, slots := 3166, locals := 115 } s m args below meth c 536 3166 Q (AN E sz) b6.1 rh0 69 [some (.ref (ad b6.1 (7, 0, 0, 0))), some (.int (nI i))] [] σ1 := by
    intro d
    induction d with
    | zero =>
      intro i σ1 hi hI
      obtain rfl : i = 57 := by omega
      have hI : σ1 = xTx 57 0 ini0 := hI
      refine A_iload_n (q := 70) cx dX7_init_69 rfl rfl ?_
      refine A_ldc (q := 72) cx hvr dX7_init_70 rfl ?_
      refine JV_I0 (q := 75) cx hse (ct_length hE) (cwV 0 cx.1.2.2.2.2 gX7_init_J0_length_8abf5 rfl rfl rfl (by decide +kernel) ⟨Nat.le_of_ble_eq_true rfl, Nat.le_of_ble_eq_true rfl⟩) dX7_init_72 rfl (Nat.le_of_ble_eq_true rfl) ⟨Nat.le_of_ble_eq_true rfl, Nat.le_of_ble_eq_true rfl⟩ rfl ?_
      refine A_icmp_ge (tgt := 98) (q := 78) cx dX7_init_75 (by decide) rfl (fun c_1 => ?_) (fun c_1 => ?_)
      · refine A_aload_n (q := 99) cx dX7_init_98 rfl rfl rfl ?_
        refine gX7_1 (q := 102) cx wi_X7_init_X7 wf_X7_init_19 dX7_init_99 rfl (in7 hX) rfl rfl ?_
        refine A_aload_n (q := 103) cx dX7_init_102 rfl rfl rfl ?_
        refine gX7_0 (q := 106) cx wi_X7_init_X7 wf_X7_init_10 dX7_init_103 rfl (in7 hX) rfl rfl ?_
        refine VV1 (q := 109) cx (ct_X4_layOut (n := 0) hE hX (by decide)) (cwV 1 cx.1.2.2.2.2 gX7_init_X4_layOut rfl rfl rfl (by decide +kernel) ⟨Nat.le_of_ble_eq_true rfl, Nat.le_of_ble_eq_true rfl⟩) dX7_init_106 rfl rfl (in4 hX (by omega)) rfl (Nat.le_of_ble_eq_true rfl) ⟨Nat.le_of_ble_eq_true rfl, Nat.le_of_ble_eq_true rfl⟩ rfl ?_
        refine A_aload_n (q := 110) cx dX7_init_109 rfl rfl rfl ?_
        refine gX7_0 (q := 113) cx wi_X7_init_X7 wf_X7_init_10 dX7_init_110 rfl (in7 hX) rfl rfl ?_
        refine VV0 (q := 116) cx (ct_X6_clear hE hX) (cwV 0 cx.1.2.2.2.2 gX7_init_X6_clear rfl rfl rfl (by decide +kernel) ⟨Nat.le_of_ble_eq_true rfl, Nat.le_of_ble_eq_true rfl⟩) dX7_init_113 rfl rfl (in6 hX) rfl (Nat.le_of_ble_eq_true rfl) ⟨Nat.le_of_ble_eq_true rfl, Nat.le_of_ble_eq_true rfl⟩ rfl ?_
        refine A_cret (a := (E, ρ, σ)) (sz := sz) (post := fun sz => XP (E, ρ, σ) (AN E sz)) cx hlk hr hQ dX7_init_116 (Nat.le_of_ble_eq_true rfl) (Nat.le_of_ble_eq_true rfl) ⟨⟨AA.1.1, hks, AA.1.2.2.1⟩, AA.2.1.1, AA.2.2.1, rfl, ?_⟩ AA.1.1.1.symm
        show up2 (nLay σ1 0) (6, 0, 0, 0) 1 0 = xFirst
        rw [hI]; rfl
      · exact absurd (by decide) c_1
    | succ d ih =>
      intro i σ1 hi hI
      refine A_iload_n (q := 70) cx dX7_init_69 rfl rfl ?_
      refine A_ldc (q := 72) cx hvr dX7_init_70 rfl ?_
      refine JV_I0 (q := 75) cx hse (ct_length hE) (cwV 0 cx.1.2.2.2.2 gX7_init_J0_length_8abf5 rfl rfl rfl (by decide +kernel) ⟨Nat.le_of_ble_eq_true rfl, Nat.le_of_ble_eq_true rfl⟩) dX7_init_72 rfl (Nat.le_of_ble_eq_true rfl) ⟨Nat.le_of_ble_eq_true rfl, Nat.le_of_ble_eq_true rfl⟩ rfl ?_
      refine A_icmp_ge (tgt := 98) (q := 78) cx dX7_init_75 (by decide) rfl (fun c_1 => ?_) (fun c_1 => ?_)
      · exact absurd c_1 (not_ge (i := i) (b := 57) (by omega) (by decide))
      · refine A_aload_n (q := 79) cx dX7_init_78 rfl rfl rfl ?_
        refine gX7_0 (q := 82) cx wi_X7_init_X7 wf_X7_init_10 dX7_init_79 rfl (in7 hX) rfl rfl ?_
        refine A_ldc (q := 84) cx hvr dX7_init_82 rfl ?_
        refine A_iload_n (q := 85) cx dX7_init_84 rfl rfl ?_
        refine JV_I1 (q := 88) cx hse (ct_charAt hE (k := i) (by omega)) (cwV 1 cx.1.2.2.2.2 gX7_init_J0_charAt_5068e rfl rfl rfl (by decide +kernel) ⟨Nat.le_of_ble_eq_true rfl, Nat.le_of_ble_eq_true rfl⟩) dX7_init_85 rfl (Nat.le_of_ble_eq_true rfl) ⟨Nat.le_of_ble_eq_true rfl, Nat.le_of_ble_eq_true rfl⟩ rfl ?_
        refine VI1 (q := 91) cx (ct_X6_add hE hX) (cwV 1 cx.1.2.2.2.2 gX7_init_X6_add rfl rfl rfl (by decide +kernel) ⟨Nat.le_of_ble_eq_true rfl, Nat.le_of_ble_eq_true rfl⟩) dX7_init_88 rfl rfl (in6 hX) rfl (Nat.le_of_ble_eq_true rfl) ⟨Nat.le_of_ble_eq_true rfl, Nat.le_of_ble_eq_true rfl⟩ rfl ?_
        refine A_pop (q := 92) cx dX7_init_91 rfl rfl ?_
        refine A_iinc (lv' := [some _, some _]) (q := 95) cx dX7_init_92 rfl (nI_1 i) rfl rfl ?_
        refine A_goto (q := 69) cx dX7_init_95 (by decide) ?_
        exact ih (i + 1) _ (by omega) hI
  refine A_iconst (v := 0) (q := 68) cx dX7_init_67 (by decide) rfl ?_
  refine A_istore_n (lv' := [some _, some _]) (q := 69) cx dX7_init_68 (Nat.le_of_ble_eq_true rfl) rfl rfl ?_
  exact A_widen (k := 536) (n := 3166) (Nat.le_of_ble_eq_true rfl) (Nat.le_of_ble_eq_true rfl) (l1 57 0 ini0 rfl rfl)
