/-! PURE PART 23: an item of the reference; the first fault. -/
def plT (e : Nat → Int32) (a N : Nat) (td : Nat → Int32) : Nat → Int32 := if e a = 108 then upd (upd (upd (upd td (4 * N) (nm e a 0)) (4 * N + 1) (nm e a 1)) (4 * N + 2) (nm e a 2)) (4 * N + 3) (nm e a 3) else td
def plR (e : Nat → Int32) (a : Nat) (rk : Nat → Int32) : Nat → Int32 := if e a = 120 then upd (upd rk 0 (nm e a 0)) 1 (nm e a 1) else rk
def plM (e : Nat → Int32) (a : Nat) (mo : Nat → Int32) : Nat → Int32 := if e a = 109 then upd (upd (upd mo 0 (nm e a 0)) 1 (nm e a 1)) 2 (nm e a 2) else mo
def plN (e : Nat → Int32) (a N : Nat) : Nat := if e a = 108 then N + 1 else N
theorem nn_l {v : Int32} (h : v = 108) : nn v = 4 := by rw [h]; rfl
theorem nn_m {v : Int32} (h : v = 109) : nn v = 3 := by rw [h]; rfl
theorem nn_x {v : Int32} (h : v = 120) : nn v = 2 := by rw [h]; rfl
theorem gItem_spec {m : Sg} {c : Nat → Int32} {T a N : Nat} (hc : m kTx = c) : ((gItem m a T N).1 = true ↔ okIt (lt_ c T) a ∧ (lt_ c T a = 108 → N ≠ 6)) ∧ ((gItem m a T N).1 = true → (gItem m a T N).2.1 = a + 1 + 2 * nn (lt_ c T a) ∧ (gItem m a T N).2.2 (9, 7, 0, 0) = plT (lt_ c T) a N (m (9, 7, 0, 0)) ∧ (gItem m a T N).2.2 (9, 8, 0, 0) = plR (lt_ c T) a (m (9, 8, 0, 0)) ∧ (gItem m a T N).2.2 (9, 9, 0, 0) = plM (lt_ c T) a (m (9, 9, 0, 0))) := by
  have hpl := pB_iff (a := a) (T := T) (v := 108) hc (by decide)
  have hpx := pB_iff (a := a) (T := T) (v := 120) hc (by decide)
  have hpm := pB_iff (a := a) (T := T) (v := 109) hc (by decide)
  have hk : ∀ (n : Nat) (k : Ky), k ≠ kFg → k ≠ kM → (gFigs (pS m) (a + 1) T n).2.2 k = m k := fun n k h1 h2 => ((gq_figs (gq.rf (pS m))).k h1 h2).trans (pS_k h2)
  unfold gItem
  by_cases el : lt_ c T a = 108
  · rw [if_pos (hpl.mpr el)]
    obtain ⟨f1, f2⟩ := figs_it (a := a) (T := T) (n := 4) hc (by decide)
    have okl : okIt (lt_ c T) a ↔ IT (lt_ c T) a 4 := by
      unfold okIt
      rw [nn_l el]
      exact ⟨fun g => g.1, fun g => ⟨g, by decide, fun q => absurd (el.symm.trans q) (by decide)⟩⟩
    unfold gL
    by_cases h6 : N = 6
    · rw [if_pos h6]
      exact ⟨⟨fun g => (by cases g), fun g => absurd h6 (g.2 el)⟩, fun g => by cases g⟩
    · rw [if_neg h6]
      by_cases hf : (gFigs (pS m) (a + 1) T 4).1 = true
      · rw [if_pos hf]
        obtain ⟨g1, g2⟩ := f2 hf
        refine ⟨⟨fun _ => ⟨okl.mpr (f1.mp hf), fun _ => h6⟩, fun _ => rfl⟩, fun _ => ⟨by rw [nn_l el]; exact g1, ?_, ?_, ?_⟩⟩
        · dsimp only
          unfold mAdds plT
          rw [if_pos el, up2_nk _ _ _ _ (by decide), up2_row, up2_row, up2_row, up2_row, hk 4 _ (by decide) (by decide), g2 0 (by decide), g2 1 (by decide), g2 2 (by decide), g2 3 (by decide)]
        · dsimp only
          unfold mAdds plR
          rw [if_neg (fun q => absurd (el.symm.trans q) (by decide)), up2_nk _ _ _ _ (by decide), up2_nk _ _ _ _ (by decide), up2_nk _ _ _ _ (by decide), up2_nk _ _ _ _ (by decide), up2_nk _ _ _ _ (by decide), hk 4 _ (by decide) (by decide)]
        · dsimp only
          unfold mAdds plM
          rw [if_neg (fun q => absurd (el.symm.trans q) (by decide)), up2_nk _ _ _ _ (by decide), up2_nk _ _ _ _ (by decide), up2_nk _ _ _ _ (by decide), up2_nk _ _ _ _ (by decide), up2_nk _ _ _ _ (by decide), hk 4 _ (by decide) (by decide)]
      · rw [if_neg hf]
        exact ⟨⟨fun g => (by cases g), fun g => absurd (f1.mpr (okl.mp g.1)) hf⟩, fun g => by cases g⟩
  · rw [if_neg (fun q => el (hpl.mp q))]
    by_cases ex : lt_ c T a = 120
    · rw [if_pos (hpx.mpr ex)]
      obtain ⟨f1, f2⟩ := figs_it (a := a) (T := T) (n := 2) hc (by decide)
      have okx : okIt (lt_ c T) a ↔ IT (lt_ c T) a 2 := by
        unfold okIt
        rw [nn_x ex]
        exact ⟨fun g => g.1, fun g => ⟨g, by decide, fun q => absurd (ex.symm.trans q) (by decide)⟩⟩
      unfold gX
      dsimp only
      refine ⟨⟨fun g => ⟨okx.mpr (f1.mp g), fun q => absurd q el⟩, fun g => f1.mpr (okx.mp g.1)⟩, fun g => ?_⟩
      obtain ⟨g1, g2⟩ := f2 g
      refine ⟨by rw [nn_x ex]; exact g1, ?_, ?_, ?_⟩
      · unfold mRk2 plT
        rw [if_neg el, up2_nk _ _ _ _ (by decide), up2_nk _ _ _ _ (by decide), hk 2 _ (by decide) (by decide)]
      · unfold mRk2 plR
        rw [if_pos ex, up2_row, up2_row, up2_nk _ _ _ _ (show kFg ≠ (9, 8, 0, 0) by decide), hk 2 _ (by decide) (by decide), g2 0 (by decide), g2 1 (by decide)]
      · unfold mRk2 plM
        rw [if_neg (fun q => absurd (ex.symm.trans q) (by decide)), up2_nk _ _ _ _ (by decide), up2_nk _ _ _ _ (by decide), hk 2 _ (by decide) (by decide)]
    · rw [if_neg (fun q => ex (hpx.mp q))]
      by_cases em : lt_ c T a = 109
      · rw [if_pos (hpm.mpr em)]
        obtain ⟨f1, f2⟩ := figs_it (a := a) (T := T) (n := 3) hc (by decide)
        unfold gM
        by_cases hf : (gFigs (pS m) (a + 1) T 3).1 = true
        · rw [if_pos hf]
          obtain ⟨g1, g2⟩ := f2 hf
          rw [g2 0 (by decide)]
          by_cases hz : mWi (nm (lt_ c T) a 0) 1 6 = 0
          · rw [if_pos hz]
            refine ⟨⟨fun g => (by cases g), fun g => absurd hz (g.1.2.2 em)⟩, fun g => by cases g⟩
          · rw [if_neg hz]
            refine ⟨⟨fun _ => ⟨⟨by rw [nn_m em]; exact f1.mp hf, by rw [nn_m em]; decide, fun _ => hz⟩, fun q => absurd q el⟩, fun _ => rfl⟩, fun _ => ⟨by rw [nn_m em]; exact g1, ?_, ?_, ?_⟩⟩
            · dsimp only
              unfold plT
              rw [if_neg el, mMo_k (by decide), hk 3 _ (by decide) (by decide)]
            · dsimp only
              unfold plR
              rw [if_neg ex, mMo_k (by decide), hk 3 _ (by decide) (by decide)]
            · dsimp only
              unfold plM
              rw [if_pos em, mMo, mMo, mMo, mMo, up2_row, up2_row, up2_row]
              simp only [up2_nk _ _ _ _ (show kFg ≠ (9, 9, 0, 0) by decide)]
              rw [hk 3 _ (by decide) (by decide), g2 0 (by decide), g2 1 (by decide), g2 2 (by decide)]
        · rw [if_neg hf]
          refine ⟨⟨fun g => (by cases g), fun g => absurd (f1.mpr ?_) hf⟩, fun g => by cases g⟩
          have := g.1.1
          rw [nn_m em] at this
          exact this
      · rw [if_neg (fun q => em (hpm.mp q))]
        refine ⟨⟨fun g => (by cases g), fun g => absurd g.1.2.1 ?_⟩, fun g => by cases g⟩
        unfold nn
        rw [if_neg el, if_neg em, if_neg ex]
        decide
theorem gNl_eq {m : Sg} {c : Nat → Int32} {T a N : Nat} (hc : m kTx = c) : gNl m a T N = plN (lt_ c T) a N := by
  have hpl := pB_iff (a := a) (T := T) (v := 108) hc (by decide)
  unfold gNl plN
  by_cases el : lt_ c T a = 108
  · rw [if_pos (hpl.mpr el), if_pos el]
  · rw [if_neg (fun q => el (hpl.mp q)), if_neg el]
/-- what the reading leaves -/
def gw (σ σ' : Sg) : Prop := ∀ k j, k ≠ kFg → k ≠ (9, 7, 0, 0) → k ≠ (9, 8, 0, 0) → k ≠ (9, 9, 0, 0) → ¬ (k = kM ∧ (j = 10 ∨ j = 15)) → σ' k j = σ k j
theorem gw.rf (σ : Sg) : gw σ σ := fun _ _ _ _ _ _ _ => rfl
theorem gw.q {σ σ' σ'' : Sg} (h : gw σ σ') (g : gq σ' σ'') : gw σ σ'' := fun k j h1 h2 h3 h4 h5 => (g k j h1 (fun q => h5 ⟨q.1, Or.inr q.2⟩)).trans (h k j h1 h2 h3 h4 h5)
theorem gw.u {σ σ' : Sg} {k : Ky} {i : Nat} {v : Int32} (hk : k = (9, 7, 0, 0) ∨ k = (9, 8, 0, 0) ∨ k = (9, 9, 0, 0)) (h : gw σ σ') : gw σ (up2 σ' k i v) := fun k' j h1 h2 h3 h4 h5 => by
  rw [up2_nk _ _ _ _ (fun q => by rcases hk with rfl | rfl | rfl <;> first | exact h2 q | exact h3 q | exact h4 q)]; exact h k' j h1 h2 h3 h4 h5
theorem gw.m {σ σ' : Sg} {i : Nat} {v : Int32} (hi : i = 10 ∨ i = 15) (h : gw σ σ') : gw σ (up2 σ' kM i v) := fun k' j h1 h2 h3 h4 h5 => by
  rw [up2_o (fun q => h5 ⟨q.1, by omega⟩)]; exact h k' j h1 h2 h3 h4 h5
theorem gw_item {σ σ' : Sg} {a T N : Nat} (h : gw σ σ') : gw σ (gItem σ' a T N).2.2 := by
  have hs : gw σ (pS σ') := h.q (gq.rf σ').s
  have hf : ∀ n, gw σ (gFigs (pS σ') (a + 1) T n).2.2 := fun n => hs.q (gq_figs (gq.rf _))
  have a7 : ((9, 7, 0, 0) : Ky) = (9, 7, 0, 0) ∨ ((9, 7, 0, 0) : Ky) = (9, 8, 0, 0) ∨ ((9, 7, 0, 0) : Ky) = (9, 9, 0, 0) := Or.inl rfl
  have a8 : ((9, 8, 0, 0) : Ky) = (9, 7, 0, 0) ∨ ((9, 8, 0, 0) : Ky) = (9, 8, 0, 0) ∨ ((9, 8, 0, 0) : Ky) = (9, 9, 0, 0) := Or.inr (Or.inl rfl)
  have a9 : ((9, 9, 0, 0) : Ky) = (9, 7, 0, 0) ∨ ((9, 9, 0, 0) : Ky) = (9, 8, 0, 0) ∨ ((9, 9, 0, 0) : Ky) = (9, 9, 0, 0) := Or.inr (Or.inr rfl)
  unfold gItem
  split
  · unfold gL
    (repeat' split) <;> first | exact hs | exact hf 4 | exact .m (Or.inl rfl) (.u a7 (.u a7 (.u a7 (.u a7 (hf 4)))))
  · split
    · exact .u a8 (.u a8 (hf 2))
    · split
      · unfold gM
        (repeat' split) <;> first | exact hf 3 | exact .u a9 (.u a9 (.u a9 (hf 3)))
      · exact h
theorem gw_fl {σ : Sg} {T : Nat} : ∀ (d a N : Nat) {σ' : Sg}, gw σ σ' → gw σ (gFl T d a N σ').2
  | 0, _, _, _, h => h
  | d + 1, a, N, σ', h => by
    rw [gFl]
    split
    · exact h
    · split
      · exact gw_fl d _ _ (gw_item h)
      · exact gw_item h
theorem gw_plan {σ : Sg} : gw σ (up2 (mPlan σ) kM 15 0) := by
  have a8 : ((9, 8, 0, 0) : Ky) = (9, 7, 0, 0) ∨ ((9, 8, 0, 0) : Ky) = (9, 8, 0, 0) ∨ ((9, 8, 0, 0) : Ky) = (9, 9, 0, 0) := Or.inr (Or.inl rfl)
  have a9 : ((9, 9, 0, 0) : Ky) = (9, 7, 0, 0) ∨ ((9, 9, 0, 0) : Ky) = (9, 8, 0, 0) ∨ ((9, 9, 0, 0) : Ky) = (9, 9, 0, 0) := Or.inr (Or.inr rfl)
  exact .m (Or.inr rfl) (.u a9 (.u a9 (.u a9 (.u a8 (.u a8 (.m (Or.inl rfl) (.rf σ)))))))
theorem gw_fault (m : Sg) (T : Nat) : gw m (gFault m T).2 := gw_fl (T + 1) 0 0 gw_plan
theorem gw.k {σ σ' : Sg} (h : gw σ σ') {k : Ky} (h1 : k ≠ kFg) (h2 : k ≠ (9, 7, 0, 0)) (h3 : k ≠ (9, 8, 0, 0)) (h4 : k ≠ (9, 9, 0, 0)) (h5 : k ≠ kM) : σ' k = σ k := funext (fun j => h k j h1 h2 h3 h4 (fun q => h5 q.1))
theorem gw.M {σ σ' : Sg} (h : gw σ σ') {j : Nat} (hj : j ≠ 10) (hj2 : j ≠ 15) : σ' kM j = σ kM j := h kM j (by decide) (by decide) (by decide) (by decide) (fun q => by omega)
theorem gw.l {σ σ' : Sg} (h : gw σ σ') : mLk σ σ' := ⟨fun j _ => by rw [h.k (by decide) (by decide) (by decide) (by decide) (by decide)], h.k (by decide) (by decide) (by decide) (by decide) (by decide), h.k (by decide) (by decide) (by decide) (by decide) (by decide), h.k (by decide) (by decide) (by decide) (by decide) (by decide), fun j hj => h.M (by omega) (by omega)⟩
theorem gw.f {σ σ' : Sg} (h : gw σ σ') : mF σ σ' := fun k hk => h.k (fun q => hk (by rw [q]; exact yk_9 (by decide))) (fun q => hk (by rw [q]; exact yk_9 (by decide))) (fun q => hk (by rw [q]; exact yk_9 (by decide))) (fun q => hk (by rw [q]; exact yk_9 (by decide))) (fun q => hk (by rw [q]; exact yk_M))
theorem LC.len {x : Sg} {c : Nat → Int32} {T : Nat} (h : LC x c T) {a : Nat} (ha : a < 2 ^ 19) : nI a + tLen x (nI a) = nI (a + 1 + 2 * nn (lt_ c T a)) := by
  unfold tLen
  rw [h.nOf ha, show (1 : Int32) = nI 1 from rfl, show (2 : Int32) = nI 2 from rfl, pk_mul, nI_add, nI_add, Nat.add_assoc]
theorem fault_loop {x : Sg} {c : Nat → Int32} {T : Nat} (hx : LC x c T) : ∀ (d d' a N : Nat) (m : Sg), m kTx = c → T - a ≤ d → T - a ≤ d' → a ≤ T → N ≤ 6 → tFaultR x d (nI N) (nI a) = (gFl T (d' + 1) a N m).1
  | 0, d', a, N, m, hc, hd, hd', ha, hN => by rw [tFaultR, gFl, if_pos (by omega)]
  | d + 1, d', a, N, m, hc, hd, hd', ha, hN => by
    have hT := hx.1
    rw [tFaultR, gFl, hx.2.1]
    by_cases q : T ≤ a
    · rw [if_pos (nI_le q (by omega)), if_pos q]
    · rw [if_neg (nI_ge (by omega) (by omega)), if_neg q, hx.at (by omega), hx.len (by omega)]
      obtain ⟨s1, s2⟩ := gItem_spec (m := m) (c := c) (T := T) (a := a) (N := N) hc
      have hi := tItem_iff hx (a := a) (by omega)
      have hl : (if lt_ c T a = 108 then nI N + 1 else nI N) = nI (plN (lt_ c T) a N) := by
        unfold plN
        by_cases el : lt_ c T a = 108
        · rw [if_pos el, if_pos el, nI_1]
        · rw [if_neg el, if_neg el]
      rw [hl]
      by_cases hg : (gItem m a T N).1 = true
      · obtain ⟨o1, o2⟩ := s1.mp hg
        have he := okIt_end o1
        have h0 := o1.2.1
        have hN' : plN (lt_ c T) a N ≤ 6 := by
          unfold plN
          split
          · next el => have := o2 el; omega
          · exact hN
        rw [if_neg (hi.mpr o1), if_pos (show nI (plN (lt_ c T) a N) ≤ 6 from nI_le (b := 6) hN' (by decide)), if_pos hg, (s2 hg).1, gNl_eq hc]
        obtain ⟨d'', rfl⟩ : ∃ d'', d' = d'' + 1 := ⟨d' - 1, by omega⟩
        refine fault_loop hx d d'' _ _ _ ?_ (by omega) (by omega) he hN'
        rw [(gw_item (gw.rf m)).k (by decide) (by decide) (by decide) (by decide) (by decide)]; exact hc
      · rw [if_neg hg]
        by_cases ho : okIt (lt_ c T) a
        · rw [if_neg (hi.mpr ho)]
          have h6 : lt_ c T a = 108 ∧ N = 6 := Decidable.byContradiction (fun z => hg (s1.mpr ⟨ho, fun e1 e2 => z ⟨e1, e2⟩⟩))
          have hp : plN (lt_ c T) a N = 7 := by unfold plN; rw [if_pos h6.1, h6.2]
          rw [hp, if_neg (show ¬ nI 7 ≤ 6 by decide)]
        · rw [if_pos (Decidable.byContradiction (fun z => ho (hi.mp z)))]
theorem TX_LC {x m : Sg} {T : Nat} (h : TX x m T) : LC x (m kTx) T := ⟨h.2.2.1, h.1, h.2.2.2⟩
theorem fault_eq {x m : Sg} {T : Nat} (h : TX x m T) : tFault x = (gFault m T).1 := by
  unfold tFault gFault
  exact fault_loop (TX_LC h) 200 T 0 0 _ (gw_plan.k (by decide) (by decide) (by decide) (by decide) (by decide)) (by have := h.2.2.1; omega) (by omega) (by omega) (by omega)
