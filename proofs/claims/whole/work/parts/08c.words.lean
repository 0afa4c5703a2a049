/-! THE START -/
def rh1 : Rh := fun k j => if j < wd k ∧ isRf k j = true then rh0 k j else none
theorem rh1_X {k : Ky} {j : Nat} {t : Ky} (h : kvX k) (e : rh1 k j = some t) : kvX t := by
  unfold rh1 at e
  split at e
  · rename_i hh
    obtain ⟨hj, hrf⟩ := hh
    obtain ⟨a, n, ee, l⟩ := k
    unfold kvX at h
    split at h <;> rename_i q <;> first | (exact h.elim) | cases q
    · have hj4 : j < 4 := hj
      match j, hj4, hrf with
      | 2, _, _ => cases e; exact ⟨h.1, h.2.1, rfl⟩
      | 3, _, _ => cases e; exact ⟨h.1, h.2.1, rfl⟩
    · cases hrf
    · have hj4 : j < 3 := hj
      match j, hj4, hrf with
      | 0, _, _ => cases e; exact ⟨rfl, rfl, rfl⟩
    · cases hrf
    · have hj4 : j < 7 := hj
      match j, hj4, hrf with
      | 0, _, _ => cases e; exact ⟨h.1, by decide, rfl⟩
      | 1, _, _ => cases e; exact ⟨h.1, by decide, rfl⟩
    · have hj4 : j < 11 := hj
      match j, hj4, hrf with
      | 4, _, _ => cases e; exact h
      | 5, _, _ => cases e; exact h
    · have hj4 : j < 2 := hj
      match j, hj4, hrf with
      | 0, _, _ => cases e; exact ⟨by decide, rfl, rfl⟩
    · have hj4 : j < 6 := hj
      match j, hj4 with
      | 0, _ => cases e; exact ⟨rfl, rfl, rfl⟩
      | 1, _ => cases e; exact ⟨by decide, rfl, rfl⟩
      | 2, _ => cases e; exact ⟨rfl, rfl, rfl⟩
      | 3, _ => cases e; exact ⟨by decide, rfl, rfl⟩
      | 4, _ => cases e; exact ⟨by decide, rfl, rfl⟩
      | 5, _ => cases e; exact ⟨by decide, rfl, rfl⟩
    · cases hrf
    · have hj4 : j < 8 := hj
      cases e; exact ⟨h.1, h.2.1, hj4⟩
    · have hj4 : j < 6 := by
        obtain ⟨rfl, rfl, rfl⟩ := h
        exact hj
      cases e; exact ⟨by omega, rfl, rfl⟩
    · have hj4 : j < 6 := hj
      cases e; exact ⟨h.1, h.2.1, hj4⟩
    · cases hrf
  · cases e
theorem zM_sr (σ : Sg) : zM (sr σ (8, 0, 0, 0) (fun _ => 0)) = zM σ := by
  funext k j
  unfold zM
  by_cases h : k.1 = 8 ∨ k.1 = 10 ∨ (k.1 = 9 ∧ 2 ≤ k.2.1)
  · rw [if_pos h, if_pos h]
  · rw [if_neg h, if_neg h]
    rw [sr_ne]
    intro q
    rw [q] at h
    exact h (Or.inl rfl)
theorem c7_blind (aK aV : Nat) (a : St3) (sz : Nat) (as : List Value) : FrameBlind (va_Pc as (fun U => U.heap.size = sz ∧ va_P a.1.1 vwCl (wl a.1 a.2.1 a.2.2) U.heap ∧ sw2 a.1 U ∧ SE aK aV (AN a.1 sz) U U.heap ∧ vk_R RX7 40 strT aK U)) := by
  intro ar U g mk h
  obtain ⟨h1, h2, h3, ⟨⟨h4, h5, h6⟩, ⟨n1, n2, n3, n4, n5, n6⟩, o1, o2, o3⟩, h7, h8⟩ := h
  exact ⟨h1, h2, h3, ⟨⟨va_K.moved (u := U) (U := U.calling g mk ar) (Vm.Alike.refl U.vm) h4, va_Nw.same rfl rfl h5, va_Nw.same rfl rfl h6⟩, ⟨va_Nw.same rfl rfl n1, va_Nw.same rfl rfl n2, va_Nw.same rfl rfl n3, va_Nw.same rfl rfl n4, va_Nw.same rfl rfl n5, va_Nw.same rfl rfl n6⟩, va_AO.moved (Vm.Alike.refl U.vm) o1, va_AO.moved (Vm.Alike.refl U.vm) o2, va_AO.moved (Vm.Alike.refl U.vm) o3⟩, SE.moved (u := U) (U := U.calling g mk ar) (Vm.Alike.refl U.vm) h7, vk_R.same rfl h8⟩
theorem T7 {p : Program} {l : Launch} {e : Env} {R : Room} {s : State} {m : MethodId} {args : Array Value} {below : List Frame} {meth : Method} {c : Code} {cells slots : Nat} {Q : State → Prop} {A : Nat → Prop} {E : Ev} {ρ : Rh} {σ : Sg} {pc q : Nat} {lv : List (Option Value)} {st : List Value} {cc : ByteArray} {nL : Nat} {Ts : List Cond} {own : String} {aK aV fr lc mc ms idx maxL : Nat} {bytes : ByteArray} {post : Nat → St3 → Prop} (cx : Cx p s m args c E A own cc nL Ts) (hn2 : nst2 s) (hse : SE aK aV A s s.heap) (hvr : vk_R RX7 40 strT aK s) {k : Ky} (hM : C7 aK aV l fr lc mc ms (E, ρ, σ) [.ref (ad E k)] post) (cw : CallB R s args own idx yX7_init bytes maxL none wsX7_init { frames := fr, cells := mc, slots := ms, locals := lc } mc ms 0 ∧ yX7_init.name = "<init>" ∧ (Cond.instanceMethod yX7_init).before args s = true) (hd : decode cc pc = .ok (.invokespecial idx, 3)) (hA : ∀ q, s.heap.size ≤ q → A q) (hlv : lv.length = nL) (hcat : (st.map fun v => v.category).sum ≤ 8) (hf : cells + mc ≤ R.cells ∧ slots + ms ≤ R.slots) (hq : pc + 3 = q)
    (kk : ∀ (sz : Nat) (b : St3), post sz b → E.1 = b.1.1 → (∀ z, AN E sz z → A z) → AW p l e R s m args below meth c (cells + mc) (slots + ms) Q A b.1 b.2.1 q lv st b.2.2) : AW p l e R s m args below meth c cells slots Q A E ρ pc lv (.ref (ad E k) :: st) σ := by
  subst hq
  intro H locs ls hP hS hl
  have hAN : ∀ z, AN E H.size z → A z := by
    intro z hz
    rcases hz with hz | hz
    · exact al_sub cx z hz
    · exact hA z (Nat.le_trans hS.1 hz)
  refine va_callv (va_runI (As := []) (rest := st) cx.1 (hM H.size) cw ⟨c7_blind aK aV (E, ρ, σ) H.size _, fun U hU hW => ⟨rfl, by rw [hU], by rw [hU]; exact hP, ⟨cx.2.1.warm hW, hn2.warm hW⟩, by rw [hU]; exact ((hse.kept hS.2.1).moved hW.alike).narrow hAN, hvr.warm hW⟩⟩ rfl rfl (hl.1.trans hlv) rfl (lv_room hcat) hd hf) hS (fun q _ h => hAN q h) hAN (fun b t H1 locs1 ht hvm hw hB hz hk hS1 => ?_)
  rw [ht] at hB
  exact kk H.size b hw.1 hw.2 hAN H1 locs1 ls hB hS1 hl
theorem arr_known {s : State} {args : Array Value} {C : String} (h : (Cond.arrayOver (.object C)).before args s = true) : ∃ cA : ClassId, ArrOfT s cA (.object C) ∧ va_RA s cA (.object C) := by
  obtain ⟨comp, c, k, h1, -, h3, h4, h5⟩ := Cond.arrayOver_spec (args := args) (first := s) (o := none) (s := s) (idx := []) h
  exact ⟨c, fun N z => ⟨(fun k h => by cases h), k, h3, comp, h4⟩, k, comp, h3, h4, h1, h5⟩
theorem arr_int {s : State} {args : Array Value} (h : (Cond.arrayClass .int).before args s = true) : ∃ cA : ClassId, ArrOfT s cA .int ∧ va_RA s cA .int := by
  obtain ⟨c, k, comp, h1, h2, h3⟩ := Cond.arrayClass_spec (args := args) (first := s) (o := none) (s := s) (idx := []) h
  exact ⟨c, fun N z => ⟨(fun k h => by cases h), k, h2, comp, h3⟩, h1⟩
theorem arr_bool {s : State} {args : Array Value} (h : (Cond.arrayClass .boolean).before args s = true) : ∃ cA : ClassId, ArrOfT s cA .boolean ∧ va_RA s cA .boolean := by
  obtain ⟨c, k, comp, h1, h2, h3⟩ := Cond.arrayClass_spec (args := args) (first := s) (o := none) (s := s) (idx := []) h
  exact ⟨c, fun N z => ⟨(fun k h => by cases h), k, h2, comp, h3⟩, h1⟩
theorem wiL_X0 : ∀ w ∈ u_ws RX0 TX0 4, w ∈ wsL_law := fun w h => (List.mem_append_left _ (List.mem_append_left _ (List.mem_append_left _ (List.mem_append_left _ (List.mem_append_right _ h)))))
theorem wiL_X1 : ∀ w ∈ u_ws RX1 TX1 2, w ∈ wsL_law := fun w h => (List.mem_append_left _ (List.mem_append_left _ (List.mem_append_right _ h)))
theorem wiL_X2 : ∀ w ∈ u_ws RX2 TX2 3, w ∈ wsL_law := fun w h => (List.mem_append_left _ (List.mem_append_left _ (List.mem_append_left _ (List.mem_append_left _ (List.mem_append_left _ (List.mem_append_right _ h))))))
theorem wiL_X3 : ∀ w ∈ u_ws RX3 TX3 5, w ∈ wsL_law := fun w h => (List.mem_append_left _ (List.mem_append_right _ h))
theorem wiL_X4 : ∀ w ∈ u_ws RX4 TX4 7, w ∈ wsL_law := fun w h => (List.mem_append_left _ (List.mem_append_left _ (List.mem_append_left _ (List.mem_append_left _ (List.mem_append_left _ (List.mem_append_left _ (List.mem_append_right _ h)))))))
theorem wiL_X5 : ∀ w ∈ u_ws RX5 TX5 11, w ∈ wsL_law := fun w h => (List.mem_append_left _ (List.mem_append_left _ (List.mem_append_left _ (List.mem_append_right _ h))))
theorem wiL_X6 : ∀ w ∈ u_ws RX6 TX6 2, w ∈ wsL_law := fun w h => (List.mem_append_left _ (List.mem_append_left _ (List.mem_append_left _ (List.mem_append_left _ (List.mem_append_left _ (List.mem_append_left _ (List.mem_append_left _ (List.mem_append_right _ h))))))))
theorem wiL_X7 : ∀ w ∈ u_ws RX7 TX7 6, w ∈ wsL_law := fun w h => (List.mem_append_left _ (List.mem_append_left _ (List.mem_append_left _ (List.mem_append_left _ (List.mem_append_left _ (List.mem_append_left _ (List.mem_append_left _ (List.mem_append_left _ (List.mem_append_left _ (List.mem_append_right _ h))))))))))
theorem wiL_X8 : ∀ w ∈ u_ws RX8 TX8 18, w ∈ wsL_law := fun w h => (List.mem_append_left _ (List.mem_append_left _ (List.mem_append_left _ (List.mem_append_left _ (List.mem_append_left _ (List.mem_append_left _ (List.mem_append_left _ (List.mem_append_left _ (List.mem_append_right _ h)))))))))
theorem wnL_X0 : Cond.instantiable RX0 4 ∈ wsL_law := (List.mem_append_left _ (List.mem_append_left _ (List.mem_append_left _ (List.mem_append_left _ (List.mem_append_left _ (List.mem_append_left _ (List.mem_append_left _ (List.mem_append_left _ (List.mem_append_left _ (List.mem_append_left _ (List.mem_append_right _ (List.mem_append_left _ (by decide +kernel)))))))))))))
theorem wnL_X1 : Cond.instantiable RX1 2 ∈ wsL_law := (List.mem_append_left _ (List.mem_append_left _ (List.mem_append_left _ (List.mem_append_left _ (List.mem_append_left _ (List.mem_append_left _ (List.mem_append_left _ (List.mem_append_left _ (List.mem_append_left _ (List.mem_append_left _ (List.mem_append_right _ (List.mem_append_right _ (List.mem_append_left _ (by decide +kernel))))))))))))))
theorem wnL_X2 : Cond.instantiable RX2 3 ∈ wsL_law := (List.mem_append_left _ (List.mem_append_left _ (List.mem_append_left _ (List.mem_append_left _ (List.mem_append_left _ (List.mem_append_left _ (List.mem_append_left _ (List.mem_append_left _ (List.mem_append_left _ (List.mem_append_left _ (List.mem_append_left _ (by decide +kernel))))))))))))
theorem wnL_X3 : Cond.instantiable RX3 5 ∈ wsL_law := (List.mem_append_left _ (List.mem_append_left _ (List.mem_append_left _ (List.mem_append_left _ (List.mem_append_left _ (List.mem_append_left _ (List.mem_append_left _ (List.mem_append_left _ (List.mem_append_left _ (List.mem_append_left _ (List.mem_append_right _ (List.mem_append_right _ (List.mem_append_left _ (by decide +kernel))))))))))))))
theorem wnL_X4 : Cond.instantiable RX4 7 ∈ wsL_law := (List.mem_append_left _ (List.mem_append_left _ (List.mem_append_left _ (List.mem_append_left _ (List.mem_append_left _ (List.mem_append_left _ (List.mem_append_left _ (List.mem_append_left _ (List.mem_append_left _ (List.mem_append_left _ (List.mem_append_left _ (by decide +kernel))))))))))))
theorem wnL_X5 : Cond.instantiable RX5 11 ∈ wsL_law := (List.mem_append_left _ (List.mem_append_left _ (List.mem_append_left _ (List.mem_append_left _ (List.mem_append_left _ (List.mem_append_left _ (List.mem_append_left _ (List.mem_append_left _ (List.mem_append_left _ (List.mem_append_left _ (List.mem_append_right _ (List.mem_append_left _ (by decide +kernel)))))))))))))
theorem wnL_X6 : Cond.instantiable RX6 2 ∈ wsL_law := (List.mem_append_left _ (List.mem_append_left _ (List.mem_append_left _ (List.mem_append_left _ (List.mem_append_left _ (List.mem_append_left _ (List.mem_append_left _ (List.mem_append_left _ (List.mem_append_left _ (List.mem_append_left _ (List.mem_append_left _ (by decide +kernel))))))))))))
theorem wnL_X7 : Cond.instantiable RX7 6 ∈ wsL_law := (List.mem_append_left _ (List.mem_append_left _ (List.mem_append_left _ (List.mem_append_left _ (List.mem_append_left _ (List.mem_append_left _ (List.mem_append_left _ (List.mem_append_left _ (List.mem_append_left _ (List.mem_append_left _ (List.mem_append_left _ (by decide +kernel))))))))))))
theorem wnL_X8 : Cond.instantiable RX8 18 ∈ wsL_law := (List.mem_append_left _ (List.mem_append_left _ (List.mem_append_left _ (List.mem_append_left _ (List.mem_append_left _ (List.mem_append_left _ (List.mem_append_left _ (List.mem_append_left _ (List.mem_append_left _ (List.mem_append_left _ (List.mem_append_left _ (by decide +kernel))))))))))))
theorem wcL_7 : Cond.classLink RL 7 RX7 ∈ wsL_law := (List.mem_append_left _ (List.mem_append_left _ (List.mem_append_left _ (List.mem_append_left _ (List.mem_append_left _ (List.mem_append_left _ (List.mem_append_left _ (List.mem_append_left _ (List.mem_append_left _ (List.mem_append_left _ (List.mem_append_left _ (by decide +kernel))))))))))))
theorem wcL_8 : Cond.classLink RL 10 RX8 ∈ wsL_law := (List.mem_append_left _ (List.mem_append_left _ (List.mem_append_left _ (List.mem_append_left _ (List.mem_append_left _ (List.mem_append_left _ (List.mem_append_left _ (List.mem_append_left _ (List.mem_append_left _ (List.mem_append_left _ (List.mem_append_left _ (by decide +kernel))))))))))))
theorem wzL_X7 : Cond.initialized RX7 ∈ wsL_law := (List.mem_append_left _ (List.mem_append_left _ (List.mem_append_left _ (List.mem_append_left _ (List.mem_append_left _ (List.mem_append_left _ (List.mem_append_left _ (List.mem_append_left _ (List.mem_append_left _ (List.mem_append_left _ (List.mem_append_left _ (by decide +kernel))))))))))))
theorem wmL_X7 : Cond.instanceMethod yX7_init ∈ wsL_law := (List.mem_append_left _ (List.mem_append_left _ (List.mem_append_left _ (List.mem_append_left _ (List.mem_append_left _ (List.mem_append_left _ (List.mem_append_left _ (List.mem_append_left _ (List.mem_append_left _ (List.mem_append_left _ (List.mem_append_left _ (by decide +kernel))))))))))))
theorem wzL_X8 : Cond.initialized RX8 ∈ wsL_law := (List.mem_append_left _ (List.mem_append_left _ (List.mem_append_left _ (List.mem_append_left _ (List.mem_append_left _ (List.mem_append_left _ (List.mem_append_left _ (List.mem_append_left _ (List.mem_append_left _ (List.mem_append_left _ (List.mem_append_left _ (by decide +kernel))))))))))))
theorem wmL_X8 : Cond.instanceMethod yX8_init ∈ wsL_law := (List.mem_append_left _ (List.mem_append_left _ (List.mem_append_left _ (List.mem_append_left _ (List.mem_append_left _ (List.mem_append_left _ (List.mem_append_left _ (List.mem_append_left _ (List.mem_append_left _ (List.mem_append_left _ (List.mem_append_right _ (List.mem_append_right _ (List.mem_append_right _ (List.mem_append_right _ (List.mem_append_right _ (List.mem_append_right _ (List.mem_append_right _ (List.mem_append_right _ (List.mem_append_left _ (by decide +kernel))))))))))))))))))))
theorem wlL_7 : Cond.methodLink RL 9 yX7_init ∈ wsL_law := (List.mem_append_left _ (List.mem_append_left _ (List.mem_append_left _ (List.mem_append_left _ (List.mem_append_left _ (List.mem_append_left _ (List.mem_append_left _ (List.mem_append_left _ (List.mem_append_left _ (List.mem_append_left _ (List.mem_append_left _ (by decide +kernel))))))))))))
theorem wlL_8 : Cond.methodLink RL 12 yX8_init ∈ wsL_law := (List.mem_append_left _ (List.mem_append_left _ (List.mem_append_left _ (List.mem_append_left _ (List.mem_append_left _ (List.mem_append_left _ (List.mem_append_left _ (List.mem_append_left _ (List.mem_append_left _ (List.mem_append_left _ (List.mem_append_right _ (List.mem_append_right _ (List.mem_append_right _ (List.mem_append_right _ (List.mem_append_right _ (List.mem_append_right _ (List.mem_append_right _ (List.mem_append_right _ (List.mem_append_left _ (by decide +kernel))))))))))))))))))))
theorem wt_tn1 : Cond.methodLinkNest RX0 21 yX5_init "BundledLinks" ∈ lw_tbl := List.mem_append_right _ (List.mem_of_getElem? (i := 54) (by decide +kernel))
theorem wt_tn2 : Cond.methodLinkNest RX0 28 yX1_init "BundledLinks" ∈ lw_tbl := List.mem_append_right _ (List.mem_of_getElem? (i := 136) (by decide +kernel))
theorem wt_tn3 : Cond.methodLinkNest RX5 11 yX3_init "BundledLinks" ∈ lw_tbl := List.mem_append_right _ (List.mem_of_getElem? (i := 60) (by decide +kernel))
theorem wt_tn4 : Cond.methodLinkNest RX2 17 yX4_init "BundledLinks" ∈ lw_tbl := List.mem_append_right _ (List.mem_of_getElem? (i := 200) (by decide +kernel))
theorem wt_tn5 : Cond.methodLinkNest RX7 9 yX6_init "BundledLinks" ∈ lw_tbl := List.mem_append_right _ (List.mem_of_getElem? (i := 25) (by decide +kernel))
theorem wt_tn6 : Cond.methodLinkNest RX7 18 yX4_init "BundledLinks" ∈ lw_tbl := List.mem_append_right _ (List.mem_of_getElem? (i := 41) (by decide +kernel))
theorem wt_tn7 : Cond.methodLinkNest RX6 37 yX7_isFigure "BundledLinks" ∈ lw_tbl := List.mem_append_right _ (List.mem_of_getElem? (i := 367) (by decide +kernel))
theorem wt_tn8 : Cond.methodLinkNest RX6 40 yX7_isMost "BundledLinks" ∈ lw_tbl := List.mem_append_right _ (List.mem_of_getElem? (i := 370) (by decide +kernel))
theorem wt_to5 : Cond.arrayOver (.object RX5) ∈ lw_tbl := List.mem_append_right _ (List.mem_of_getElem? (i := 52) (by decide +kernel))
theorem wt_to1 : Cond.arrayOver (.object RX1) ∈ lw_tbl := List.mem_append_right _ (List.mem_of_getElem? (i := 134) (by decide +kernel))
theorem wt_to4 : Cond.arrayOver (.object RX4) ∈ lw_tbl := List.mem_append_right _ (List.mem_of_getElem? (i := 199) (by decide +kernel))
theorem wt_ta0 : Cond.arrayClass .int ∈ lw_tbl := List.mem_append_right _ (List.mem_of_getElem? (i := 38) (by decide +kernel))
theorem wt_ta1 : Cond.arrayClass .boolean ∈ lw_tbl := List.mem_append_right _ (List.mem_of_getElem? (i := 692) (by decide +kernel))
theorem wt_ts1 : Cond.stringRef RX7 40 strT ∈ lw_tbl := List.mem_append_right _ (List.mem_of_getElem? (i := 212) (by decide +kernel))
theorem wt_tl1 : Cond.laysStatic "java/lang/String" "COMPACT_STRINGS" "Z" ∈ lw_tbl := List.mem_append_right _ (List.mem_of_getElem? (i := 222) (by decide +kernel))
theorem wt_tl2 : Cond.laysStatic "jdk/internal/util/Preconditions" "SIOOBE_FORMATTER" "Ljava/util/function/BiFunction;" ∈ lw_tbl := List.mem_append_right _ (List.mem_of_getElem? (i := 238) (by decide +kernel))
theorem wt_tz1 : Cond.initialized "java/lang/String" ∈ lw_tbl := List.mem_append_right _ (List.mem_of_getElem? (i := 9) (by decide +kernel))
theorem wt_tz2 : Cond.initialized "jdk/internal/util/Preconditions" ∈ lw_tbl := List.mem_append_right _ (List.mem_of_getElem? (i := 11) (by decide +kernel))
theorem flat_el0 : ∀ j, j < 57 → (flatC (Jvm.Cond.and given_1 narrow_1))[13 + j]? = some (Cond.eq (.elem (.field (Term.string "BundledLinks" 40) "java/lang/String" "value" "[B") (.int (Int32.ofNat j))) (.int (([strB].getD 0 []).getD j 0))) := by decide +kernel
theorem flat_el (j : Nat) (h : j < 57) : Cond.eq (.elem (.field (Term.string "BundledLinks" 40) "java/lang/String" "value" "[B") (.int (Int32.ofNat j))) (.int (([strB].getD 0 []).getD j 0)) ∈ flatC (Jvm.Cond.and given_1 narrow_1) := List.mem_of_getElem? (flat_el0 j h)
theorem flat_4 : Cond.eq (.static "java/lang/String" "COMPACT_STRINGS" "Z") (.int 1) ∈ flatC (Jvm.Cond.and given_1 narrow_1) := List.mem_of_getElem? (i := 4) (by decide +kernel)
theorem flat_5 : Cond.isRef (.static "jdk/internal/util/Preconditions" "SIOOBE_FORMATTER" "Ljava/util/function/BiFunction;") ∈ flatC (Jvm.Cond.and given_1 narrow_1) := List.mem_of_getElem? (i := 5) (by decide +kernel)
theorem flat_9 : Cond.exactly (Term.string "BundledLinks" 40) "java/lang/String" ∈ flatC (Jvm.Cond.and given_1 narrow_1) := List.mem_of_getElem? (i := 9) (by decide +kernel)
theorem flat_10 : Cond.eq (.field (Term.string "BundledLinks" 40) "java/lang/String" "coder" "B") (.int 0) ∈ flatC (Jvm.Cond.and given_1 narrow_1) := List.mem_of_getElem? (i := 10) (by decide +kernel)
theorem flat_11 : Cond.arrayOf (.field (Term.string "BundledLinks" 40) "java/lang/String" "value" "[B") .byte ∈ flatC (Jvm.Cond.and given_1 narrow_1) := List.mem_of_getElem? (i := 11) (by decide +kernel)
theorem flat_12 : Cond.eq (.length (.field (Term.string "BundledLinks" 40) "java/lang/String" "value" "[B")) (.int 57) ∈ flatC (Jvm.Cond.and given_1 narrow_1) := List.mem_of_getElem? (i := 12) (by decide +kernel)
