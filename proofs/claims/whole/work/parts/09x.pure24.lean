/-! PURE PART 24: what the class lays. -/
def CLR (p5 p3 p14 : Nat → Int32) : Prop := b01 (p5 1) = 0 ∧ b01 (p5 8) = 0 ∧ p5 9 = -1 ∧ p5 10 = 0 ∧ b01 (p3 0) = 0 ∧ b01 (p14 0) = 0 ∧ p14 1 = 0 ∧ p14 2 = 0 ∧ p14 3 = 0 ∧ b01 (p14 4) = 0
def PN (z : Sg) (N : Nat) (td rk mo : Nat → Int32) : Prop :=
  (N ≤ 6 ∧ z (4, 0, 0, 0) 2 = nI N ∧ z (4, 0, 0, 0) 3 = mo 0 ∧ z (4, 0, 0, 0) 4 = mo 1 ∧ z (4, 0, 0, 0) 5 = mo 2 ∧ z (4, 0, 0, 0) 6 = 0 ∧ ∃ M, M ≤ 6 ∧ mo 0 = nI M) ∧
  (∀ e, e < 2 → z (0, 0, e, 0) 0 = nI e ∧ z (0, 0, e, 0) 1 = rk e) ∧
  (∀ e l, e < 2 → l < 6 → CLR (z (5, 0, e, l)) (z (3, 0, e, l)) (z (14, 0, e, l))) ∧
  (∀ e l, e < 2 → l < N → b01 (z (5, 0, e, l) 0) = 1 ∧ z (5, 0, e, l) 7 = 1 ∧ z (5, 0, e, l) 2 = td (4 * l + 2 * e) ∧ z (5, 0, e, l) 3 = td (4 * l + 2 * e + 1)) ∧
  (∀ e l, e < 2 → N ≤ l → l < 6 → b01 (z (5, 0, e, l) 0) = 0 ∧ z (5, 0, e, l) 7 = 0) ∧
  (∀ e f, e < 2 → f < 8 → z (1, 0, e, f) 0 = -4 ∧ z (1, 0, e, f) 1 = 0)
theorem LC_agr {z z' : Sg} {c : Nat → Int32} {T : Nat} (h : LC z c T) (ha : agr 0 z z') : LC z' c T := by
  obtain ⟨h1, h2, h3⟩ := h
  refine ⟨h1, ?_, fun i hi => ?_⟩
  · rw [ha _ (fun q => by have := q.2; simp at this)]; exact h2
  · rw [ha _ (fun q => by have := q.2; simp at this)]; exact h3 i hi
theorem agr_begin {σ σ' : Sg} {e l : Nat} {ky pr : Int32} (h : agr 0 σ σ') : agr 0 σ (pBegin σ' 0 e l ky pr) := .up (i5 0 e l) (.up (i5 0 e l) (.up (i5 0 e l) (.up (i5 0 e l) h)))
theorem agr_add {σ σ' : Sg} {p : Int32} (h : agr 0 σ σ') : agr 0 σ (nAdd σ' 0 p) := by
  unfold nAdd
  split
  · exact h
  · exact .up (i4 0 0 0) (agr_begin (agr_begin h))
theorem agr_item {σ σ' : Sg} {p : Int32} (h : agr 0 σ σ') : agr 0 σ (nItem σ' 0 p) := by
  unfold nItem
  (repeat' split) <;> first | exact agr_add h | exact .up (i4 0 0 0) (.up (i4 0 0 0) (.up (i4 0 0 0) h)) | exact .up (i0 0 1 0) (.up (i0 0 0 0) h) | exact h
theorem agr_layR {σ : Sg} : ∀ (d : Nat) (p : Int32) {σ' : Sg}, agr 0 σ σ' → agr 0 σ (nLayR 0 d p σ')
  | 0, _, _, h => h
  | d + 1, p, σ', h => by
    rw [nLayR]
    split
    · exact h
    · exact agr_layR d _ (agr_item h)
theorem agr_clearP {n e : Nat} {σ : Sg} : ∀ (d i : Nat) {σ' : Sg}, agr n σ σ' → agr n σ (eClearP n e d i σ')
  | 0, _, _, h => h
  | d + 1, i, _, h => agr_clearP d (i + 1) (agr_pClear h)
theorem agr_clearF {n e : Nat} {σ : Sg} : ∀ (d i : Nat) {σ' : Sg}, agr n σ σ' → agr n σ (eClearF n e d i σ')
  | 0, _, _, h => h
  | d + 1, i, _, h => agr_clearF d (i + 1) (agr_fClear (i1 n e i) h)
theorem agr_eClear {n e : Nat} {σ σ' : Sg} (h : agr n σ σ') : agr n σ (eClear σ' n e) := agr_clearF 8 0 (agr_clearP 6 0 (.up (i0 n e 0) h))
theorem agr_nClear {n : Nat} {σ σ' : Sg} (h : agr n σ σ') : agr n σ (nClear σ' n) :=
  .up (i4 n 0 0) (.up (i4 n 0 0) (.up (i4 n 0 0) (.up (i4 n 0 0) (.up (i4 n 0 0) (agr_eClear (agr_eClear h))))))
theorem agr_nLay (x : Sg) : agr 0 x (nLay x 0) := agr_layR 200 0 (agr_nClear (agr.rf 0 x))
theorem pBegin_at (σ : Sg) (e l : Nat) (ky pr : Int32) : pBegin σ 0 e l ky pr (5, 0, e, l) = upd (upd (upd (upd (σ (5, 0, e, l)) 0 1) 7 1) 2 ky) 3 pr := by
  unfold pBegin; rw [up2_row, up2_row, up2_row, up2_row]
theorem pBegin_ne {σ : Sg} {e l : Nat} {ky pr : Int32} {k : Ky} (h : k ≠ (5, 0, e, l)) : pBegin σ 0 e l ky pr k = σ k := by
  unfold pBegin; rw [up2_nk _ _ _ _ h, up2_nk _ _ _ _ h, up2_nk _ _ _ _ h, up2_nk _ _ _ _ h]
theorem PN_l {z : Sg} {c : Nat → Int32} {T a N : Nat} {td rk mo : Nat → Int32} (hz : LC z c T) (ha : a < 2 ^ 19) (hp : PN z N td rk mo) (el : lt_ c T a = 108) (h6 : N ≠ 6) : PN (nItem z 0 (nI a)) (N + 1) (plT (lt_ c T) a N td) rk mo := by
  obtain ⟨⟨p1, p2, p3, p4, p5, p6, pM⟩, hE, hC, hU, hD, hF⟩ := hp
  have hN : N < 6 := by omega
  have e1 : nItem z 0 (nI a) = up2 (nAdd3 z 0 N (nI a)) (4, 0, 0, 0) 2 (nAdd3 z 0 N (nI a) (4, 0, 0, 0) 2 + 1) := by
    unfold nItem nAdd
    rw [if_pos (by rw [hz.at (by omega)]; exact el), p2, eAt_nI (by decide) hN]
  have hz1 : LC (nAdd1 z 0 N (nI a)) c T := LC_agr hz (agr_begin (agr.rf 0 z))
  have n0 : tNum z (nI a) 0 = nm (lt_ c T) a 0 := hz.num (k := 0) ha (by decide)
  have n1 : tNum z (nI a) 1 = nm (lt_ c T) a 1 := hz.num (k := 1) ha (by decide)
  have n2 : tNum (nAdd1 z 0 N (nI a)) (nI a) 2 = nm (lt_ c T) a 2 := hz1.num (k := 2) ha (by decide)
  have n3 : tNum (nAdd1 z 0 N (nI a)) (nI a) 3 = nm (lt_ c T) a 3 := hz1.num (k := 3) ha (by decide)
  have r : ∀ e l, e < 2 → nAdd3 z 0 N (nI a) (5, 0, e, l) = if l = N then upd (upd (upd (upd (z (5, 0, e, l)) 0 1) 7 1) 2 (nm (lt_ c T) a (2 * e))) 3 (nm (lt_ c T) a (2 * e + 1)) else z (5, 0, e, l) := fun e l he => by
    unfold nAdd3 nAdd2
    rw [n2, n3]
    unfold nAdd1
    rw [n0, n1]
    by_cases q : l = N
    · subst q
      rw [if_pos rfl]
      have hee : e = 0 ∨ e = 1 := by omega
      rcases hee with rfl | rfl
      · rw [pBegin_ne (by simp), pBegin_at]
      · rw [pBegin_at, pBegin_ne (by simp)]
    · rw [if_neg q, pBegin_ne (by simp [q]), pBegin_ne (by simp [q])]
  have o3 : ∀ k : Ky, k.1 ≠ 5 → nAdd3 z 0 N (nI a) k = z k := fun k hk => by
    unfold nAdd3 nAdd2 nAdd1
    rw [pBegin_ne (fun q => hk (by rw [q])), pBegin_ne (fun q => hk (by rw [q]))]
  rw [e1, o3 (4, 0, 0, 0) (by simp), p2, nI_1]
  have y5 : ∀ e l, e < 2 → up2 (nAdd3 z 0 N (nI a)) (4, 0, 0, 0) 2 (nI (N + 1)) (5, 0, e, l) = if l = N then upd (upd (upd (upd (z (5, 0, e, l)) 0 1) 7 1) 2 (nm (lt_ c T) a (2 * e))) 3 (nm (lt_ c T) a (2 * e + 1)) else z (5, 0, e, l) := fun e l he => by
    rw [up2_nk _ _ _ _ (by simp)]; exact r e l he
  have yo : ∀ k : Ky, k.1 ≠ 5 → k.1 ≠ 4 → up2 (nAdd3 z 0 N (nI a)) (4, 0, 0, 0) 2 (nI (N + 1)) k = z k := fun k h1 h2 => by
    rw [up2_nk _ _ _ _ (fun q => h2 (by rw [q]))]; exact o3 k h1
  have y4 : ∀ j, j ≠ 2 → up2 (nAdd3 z 0 N (nI a)) (4, 0, 0, 0) 2 (nI (N + 1)) (4, 0, 0, 0) j = z (4, 0, 0, 0) j := fun j hj => by
    rw [up2_ne _ _ _ _ hj, o3 _ (by simp)]
  have tdN : ∀ e, e < 2 → plT (lt_ c T) a N td (4 * N + 2 * e) = nm (lt_ c T) a (2 * e) ∧ plT (lt_ c T) a N td (4 * N + 2 * e + 1) = nm (lt_ c T) a (2 * e + 1) := fun e he => by
    unfold plT
    rw [if_pos el]
    have hee : e = 0 ∨ e = 1 := by omega
    rcases hee with rfl | rfl
    · constructor
      · rw [pk_un (by omega), pk_un (by omega), pk_un (by omega), show 4 * N + 2 * 0 = 4 * N by omega, pk_us]
      · rw [pk_un (by omega), pk_un (by omega), show 4 * N + 2 * 0 + 1 = 4 * N + 1 by omega, pk_us]
    · constructor
      · rw [pk_un (by omega), show 4 * N + 2 * 1 = 4 * N + 2 by omega, pk_us]
      · rw [show 4 * N + 2 * 1 + 1 = 4 * N + 3 by omega, pk_us]
  have tdo : ∀ j, j < 4 * N → plT (lt_ c T) a N td j = td j := fun j hj => by
    unfold plT
    rw [if_pos el, pk_un (by omega), pk_un (by omega), pk_un (by omega), pk_un (by omega)]
  refine ⟨⟨by omega, up2_at _ _ _ _, ?_, ?_, ?_, ?_, pM⟩, fun e he => ?_, fun e l he hl => ?_, fun e l he hl => ?_, fun e l he h1 h2 => ?_, fun e f he hf => ?_⟩
  · rw [y4 3 (by decide)]; exact p3
  · rw [y4 4 (by decide)]; exact p4
  · rw [y4 5 (by decide)]; exact p5
  · rw [y4 6 (by decide)]; exact p6
  · rw [yo _ (by simp) (by simp)]; exact hE e he
  · rw [y5 e l he, yo (3, 0, e, l) (by simp) (by simp), yo (14, 0, e, l) (by simp) (by simp)]
    by_cases q : l = N
    · rw [if_pos q]; exact hC e l he hl
    · rw [if_neg q]; exact hC e l he hl
  · rw [y5 e l he]
    by_cases q : l = N
    · rw [if_pos q, q, (tdN e he).1, (tdN e he).2]
      exact ⟨rfl, rfl, rfl, rfl⟩
    · rw [if_neg q, tdo _ (by omega), tdo _ (by omega)]
      exact hU e l he (by omega)
  · rw [y5 e l he, if_neg (by omega)]; exact hD e l he (by omega) h2
  · rw [yo _ (by simp) (by simp)]; exact hF e f he hf
theorem PN_m {z : Sg} {c : Nat → Int32} {T a N : Nat} {td rk mo : Nat → Int32} (hz : LC z c T) (ha : a < 2 ^ 19) (hp : PN z N td rk mo) (em : lt_ c T a = 109) (hm : ¬ zMost (nm (lt_ c T) a 0) = 0) : PN (nItem z 0 (nI a)) N td rk (plM (lt_ c T) a mo) := by
  obtain ⟨⟨p1, p2, p3, p4, p5, p6, -⟩, hE, hC, hU, hD, hF⟩ := hp
  have hz1 : LC (nMs z 0 3 (nI a) 0) c T := LC_agr hz (.up (i4 0 0 0) (agr.rf 0 z))
  have hz2 : LC (nMs (nMs z 0 3 (nI a) 0) 0 4 (nI a) 1) c T := LC_agr hz1 (.up (i4 0 0 0) (agr.rf 0 _))
  have n0 : tNum z (nI a) 0 = nm (lt_ c T) a 0 := hz.num (k := 0) ha (by decide)
  have n1 : tNum (nMs z 0 3 (nI a) 0) (nI a) 1 = nm (lt_ c T) a 1 := hz1.num (k := 1) ha (by decide)
  have n2 : tNum (nMs (nMs z 0 3 (nI a) 0) 0 4 (nI a) 1) (nI a) 2 = nm (lt_ c T) a 2 := hz2.num (k := 2) ha (by decide)
  have e1 : nItem z 0 (nI a) = up2 (up2 (up2 z (4, 0, 0, 0) 3 (nm (lt_ c T) a 0)) (4, 0, 0, 0) 4 (nm (lt_ c T) a 1)) (4, 0, 0, 0) 5 (nm (lt_ c T) a 2) := by
    unfold nItem
    rw [if_neg (by rw [hz.at (by omega), em]; decide), if_pos (by rw [hz.at (by omega)]; exact em)]
    unfold nMs at n1 n2 ⊢
    rw [n2, n1, n0]
  rw [e1]
  have yo : ∀ k : Ky, k.1 ≠ 4 → up2 (up2 (up2 z (4, 0, 0, 0) 3 (nm (lt_ c T) a 0)) (4, 0, 0, 0) 4 (nm (lt_ c T) a 1)) (4, 0, 0, 0) 5 (nm (lt_ c T) a 2) k = z k := fun k h => by
    rw [up2_nk _ _ _ _ (fun q => h (by rw [q])), up2_nk _ _ _ _ (fun q => h (by rw [q])), up2_nk _ _ _ _ (fun q => h (by rw [q]))]
  have y4 : up2 (up2 (up2 z (4, 0, 0, 0) 3 (nm (lt_ c T) a 0)) (4, 0, 0, 0) 4 (nm (lt_ c T) a 1)) (4, 0, 0, 0) 5 (nm (lt_ c T) a 2) (4, 0, 0, 0) = upd (upd (upd (z (4, 0, 0, 0)) 3 (nm (lt_ c T) a 0)) 4 (nm (lt_ c T) a 1)) 5 (nm (lt_ c T) a 2) := by rw [up2_row, up2_row, up2_row]
  have mo' : plM (lt_ c T) a mo = upd (upd (upd mo 0 (nm (lt_ c T) a 0)) 1 (nm (lt_ c T) a 1)) 2 (nm (lt_ c T) a 2) := by unfold plM; rw [if_pos em]
  have hv6 : ∃ M, M ≤ 6 ∧ nm (lt_ c T) a 0 = nI M := by
    generalize nm (lt_ c T) a 0 = v at hm
    unfold zMost at hm
    by_cases q : v < 1
    · rw [if_pos q] at hm; exact absurd rfl hm
    · rw [if_neg q] at hm
      by_cases q2 : (6 : Int32) < v
      · rw [if_pos q2] at hm; exact absurd rfl hm
      · obtain ⟨M, hM, rfl⟩ := nI_of (x := v) (fun g => q (i32_lt_trans g (by decide)))
        refine ⟨M, ?_, rfl⟩
        rcases Nat.lt_or_ge 6 M with g | g
        · exact absurd (nI_lt (a := 6) g hM) q2
        · exact g
  rw [mo']
  refine ⟨⟨p1, ?_, ?_, ?_, ?_, ?_, ?_⟩, fun e he => ?_, fun e l he hl => ?_, fun e l he hl => ?_, fun e l he h1 h2 => ?_, fun e f he hf => ?_⟩
  · rw [y4]; exact p2
  · rw [y4]; rfl
  · rw [y4]; rfl
  · rw [y4]; rfl
  · rw [y4]; exact p6
  · obtain ⟨M, h1, h2⟩ := hv6
    exact ⟨M, h1, h2⟩
  · rw [yo _ (by simp)]; exact hE e he
  · rw [yo _ (by simp), yo _ (by simp), yo _ (by simp)]; exact hC e l he hl
  · rw [yo _ (by simp)]; exact hU e l he hl
  · rw [yo _ (by simp)]; exact hD e l he h1 h2
  · rw [yo _ (by simp)]; exact hF e f he hf
theorem PN_x {z : Sg} {c : Nat → Int32} {T a N : Nat} {td rk mo : Nat → Int32} (hz : LC z c T) (ha : a < 2 ^ 19) (hp : PN z N td rk mo) (ex : lt_ c T a = 120) : PN (nItem z 0 (nI a)) N td (plR (lt_ c T) a rk) mo := by
  obtain ⟨p, hE, hC, hU, hD, hF⟩ := hp
  have hz1 : LC (nRk z 0 0 (nI a) 0) c T := LC_agr hz (.up (i0 0 0 0) (agr.rf 0 z))
  have n0 : tNum z (nI a) 0 = nm (lt_ c T) a 0 := hz.num (k := 0) ha (by decide)
  have n1 : tNum (nRk z 0 0 (nI a) 0) (nI a) 1 = nm (lt_ c T) a 1 := hz1.num (k := 1) ha (by decide)
  have e1 : nItem z 0 (nI a) = up2 (up2 z (0, 0, 0, 0) 1 (nm (lt_ c T) a 0)) (0, 0, 1, 0) 1 (nm (lt_ c T) a 1) := by
    unfold nItem
    rw [if_neg (by rw [hz.at (by omega), ex]; decide), if_neg (by rw [hz.at (by omega), ex]; decide), if_pos (by rw [hz.at (by omega)]; exact ex)]
    unfold nRk at n1 ⊢
    rw [n1, n0]
  rw [e1]
  have yo : ∀ k : Ky, k.1 ≠ 0 → up2 (up2 z (0, 0, 0, 0) 1 (nm (lt_ c T) a 0)) (0, 0, 1, 0) 1 (nm (lt_ c T) a 1) k = z k := fun k h => by
    rw [up2_nk _ _ _ _ (fun q => h (by rw [q])), up2_nk _ _ _ _ (fun q => h (by rw [q]))]
  have rk' : plR (lt_ c T) a rk = upd (upd rk 0 (nm (lt_ c T) a 0)) 1 (nm (lt_ c T) a 1) := by unfold plR; rw [if_pos ex]
  rw [rk']
  refine ⟨by rw [yo _ (by simp)]; exact p, fun e he => ?_, fun e l he hl => ?_, fun e l he hl => ?_, fun e l he h1 h2 => ?_, fun e f he hf => ?_⟩
  · have hee : e = 0 ∨ e = 1 := by omega
    rcases hee with rfl | rfl
    · rw [up2_nk _ _ _ _ (by simp), up2_row]; exact ⟨(hE 0 (by decide)).1, rfl⟩
    · rw [up2_row, up2_nk _ _ _ _ (by simp)]; exact ⟨(hE 1 (by decide)).1, rfl⟩
  · rw [yo _ (by simp), yo _ (by simp), yo _ (by simp)]; exact hC e l he hl
  · rw [yo _ (by simp)]; exact hU e l he hl
  · rw [yo _ (by simp)]; exact hD e l he h1 h2
  · rw [yo _ (by simp)]; exact hF e f he hf
theorem PN_item {z : Sg} {c : Nat → Int32} {T a N : Nat} {td rk mo : Nat → Int32} (hz : LC z c T) (ha : a < 2 ^ 19) (hp : PN z N td rk mo) (ho : okIt (lt_ c T) a) (h6 : lt_ c T a = 108 → N ≠ 6) : PN (nItem z 0 (nI a)) (plN (lt_ c T) a N) (plT (lt_ c T) a N td) (plR (lt_ c T) a rk) (plM (lt_ c T) a mo) := by
  by_cases el : lt_ c T a = 108
  · have := PN_l hz ha hp el (h6 el)
    unfold plN plR plM
    rw [if_pos el, if_neg (fun q => absurd (el.symm.trans q) (by decide)), if_neg (fun q => absurd (el.symm.trans q) (by decide))]
    exact this
  · by_cases em : lt_ c T a = 109
    · have := PN_m hz ha hp em (ho.2.2 em)
      unfold plN plR plT
      rw [if_neg el, if_neg el, if_neg (fun q => absurd (em.symm.trans q) (by decide))]
      exact this
    · by_cases ex : lt_ c T a = 120
      · have := PN_x hz ha hp ex
        unfold plN plM plT
        rw [if_neg el, if_neg el, if_neg em]
        exact this
      · exfalso
        have := ho.2.1
        unfold nn at this
        rw [if_neg el, if_neg em, if_neg ex] at this
        omega
