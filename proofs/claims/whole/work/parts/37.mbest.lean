/-! THE PURE PART: the reference's best, with -/
def FBm (m : Nat) (μ ν : XM) : Prop := QM μ ν ∧ aI ν 12 0 27 = aI μ 12 0 27 ∧ aI ν 12 0 29 = aI μ 12 0 29 ∧ aI ν 12 0 30 = aI μ 12 0 30 ∧ rI ν 12 0 31 = rI μ 12 0 31 ∧ ∀ j, j < m → aI ν 12 0 28 j = aI μ 12 0 28 j
theorem FBm_r {m : Nat} {μ : XM} : FBm m μ μ := ⟨QM_r, rfl, rfl, rfl, rfl, fun _ _ => rfl⟩
theorem FBm_t {m m' : Nat} {μ ν ξ : XM} (hm : m ≤ m') (a : FBm m μ ν) (b : FBm m' ν ξ) : FBm m μ ξ :=
  ⟨QM_t a.1 b.1, b.2.1.trans a.2.1, b.2.2.1.trans a.2.2.1, b.2.2.2.1.trans a.2.2.2.1, b.2.2.2.2.1.trans a.2.2.2.2.1, fun j hj => (b.2.2.2.2.2 j (by omega)).trans (a.2.2.2.2.2 j hj)⟩
theorem FBm_p {m q : Nat} {μ ν : XM} {x : Int32} (a : FBm m μ ν) (hq : m ≤ q) : FBm m μ (pI ν 12 0 28 q x) := by
  refine ⟨QM_t a.1 (QM_p (by omega)), ?_, ?_, ?_, by rw [rI_pI]; exact a.2.2.2.2.1, fun j hj => ?_⟩
  · rw [pI, aI_wI]; simp only [show ¬ (27 = 28) by decide, and_false, ↓reduceIte]; exact a.2.1
  · rw [pI, aI_wI]; simp only [show ¬ (29 = 28) by decide, and_false, ↓reduceIte]; exact a.2.2.1
  · rw [pI, aI_wI]; simp only [show ¬ (30 = 28) by decide, and_false, ↓reduceIte]; exact a.2.2.2.1
  · rw [aI_pI]; simp only [show ¬ j = q by omega, and_false, ↓reduceIte]; exact a.2.2.2.2.2 j hj
theorem sub1_lt {a b : Nat} (ha : a < 2 ^ 30) (hb : b < 2 ^ 30) : (nI a - 1 < nI b) = (a ≤ b) := by
  rw [Int32.lt_iff_toInt_lt, show (1 : Int32) = nI 1 from rfl, pk_sub_toInt ha (by omega), nI_toInt (by omega)]
  apply propext; omega
theorem vto_neg {h : HS} {to : Nat → Int32} {j : Nat} (h6 : hG h ≤ 6) (hv : vto h to j) : (to j < 0) = (to j = -1) := by
  rcases hv with e | ⟨g, hg, e⟩
  · rw [e]; simp
  · rw [e, nI_nneg (by omega) (by decide)]; apply propext
    exact ⟨fun h => absurd h (nI_pos (by omega)), False.elim⟩
section
variable {A : AS} {μ : XM}
theorem m_belts (hI : AI A) (to : Nat → Int32) : ∀ dd m l dep ν, m + dd = hM (aH A) → dd < dep → l < 32 → RM A ν → (∀ j, m ≤ j → j < hM (aH A) → aI ν 12 0 27 j = to j ∧ vto (aH A) to j) →
    ∃ ξ, f12_beltsFrom 20000 dep (nI m) (nI l) ν = xri (b2 (bsr (aH A) to dd m l).isSome) ξ ∧ (∀ y, bsr (aH A) to dd m l = some y → ∀ j, m ≤ j → j < hM (aH A) → aI ξ 12 0 28 j = y j) ∧ FBm m ν ξ := by
  intro dd
  induction dd with
  | zero =>
    intro m l dep ν e hd hl hR hto
    obtain ⟨dep, rfl⟩ : ∃ d', dep = d' + 1 := ⟨dep - 1, by omega⟩
    obtain rfl : m = hM (aH A) := by omega
    rw [f12_beltsFrom_s, s12_men (RM_H hR), bI_i, xite_t rfl]
    exact ⟨ν, rfl, fun y _ j h1 h2 => by omega, FBm_r⟩
  | succ dd ih =>
    intro m l dep ν e hd hl hR hto
    have hH := RM_H hR
    have h3 := RH_3 hH
    have h5 := RH_5 hH
    have h6 := RH_6 hH
    obtain ⟨dep, rfl⟩ : ∃ d', dep = d' + 1 := ⟨dep - 1, by omega⟩
    have km : (nI m).toNatClampNeg = m := nI_clamp (by omega)
    have xm : xin (nI m) 3 = true := xin_t (by omega) (by omega)
    have xm' : (xin (nI m) 3 && true) = true := xin_a (by omega) (by omega)
    obtain ⟨t1, t2⟩ := hto m (by omega) (by omega)
    have hne : ¬ nI m = nI (hM (aH A)) := fun h => by have := (nI_eq (by omega) (by omega)).mp h; omega
    rw [f12_beltsFrom_s, s12_men hH, bI_i, xite_f hne, vI_eq, bsr]
    have tn := vto_neg h6 t2
    by_cases hn : to m = -1
    · have h84 : ∀ n, ∃ ξ, h12_beltsFrom_84 20000 dep (n + 1) (nI m) (nI l) ν = xri (b2 (bsr (aH A) to dd (m + 1) l).isSome) ξ ∧ (∀ y, bsr (aH A) to dd (m + 1) l = some y → ∀ j, m ≤ j → j < hM (aH A) → aI ξ 12 0 28 j = upd y m (-1) j) ∧ FBm m ν ξ := by
        intro n
        have hQ1 : QM ν (pI ν 12 0 28 m (-1)) := QM_p (by omega)
        have hR1 : RM A (pI ν 12 0 28 m (-1)) := RM_q hI hR hQ1
        have e27 : ∀ j, aI (pI ν 12 0 28 m (-1)) 12 0 27 j = aI ν 12 0 27 j := fun j => by rw [aI_pI]; simp only [show ¬ (27 = 28) by decide, false_and, and_false, ↓reduceIte]
        obtain ⟨ξ, d1, d2, d3⟩ := ih (m + 1) l dep (pI ν 12 0 28 m (-1)) (by omega) (by omega) hl hR1 (fun j h1 h2 => by rw [e27]; exact hto j (by omega) h2)
        have tn' : to m < 0 := by rw [tn]; exact hn
        rw [h12_beltsFrom_84_s, xck_t xm', mS_eq, xck_t xm, km, e27, t1, xite_t tn', ← nI_succ, d1, bI_i]
        refine ⟨ξ, ?_, ?_, FBm_t (Nat.le_succ m) (FBm_p FBm_r (Nat.le_refl m)) d3⟩
        · cases (bsr (aH A) to dd (m + 1) l).isSome with
          | true => rw [xite_f (by decide)]; rfl
          | false => rw [xite_t (by decide)]; rfl
        · intro y hy j h1 h2
          by_cases ej : j = m
          · subst ej
            rw [pk_us, d3.2.2.2.2.2 j (by omega), aI_pI]; simp only [and_self, ↓reduceIte]
          · rw [pk_un ej]; exact d2 y hy j (by omega) h2
      have hb12 : h12_beltsFrom_12 20000 dep 20000 (nI m) (nI l) 0 ν = h12_beltsFrom_84 20000 dep 19999 (nI m) (nI l) ν := by
        have tn' : to m < 0 := by rw [tn]; exact hn
        rw [h12_beltsFrom_12_s, s12_belts hH, bI_i, xck_t xm, km, t1, xite_t tn', xite_eq]
        split <;> rfl
      obtain ⟨ξ, d1, d2, d3⟩ := h84 19998
      rw [hb12, d1, if_pos hn]
      refine ⟨ξ, ?_, ?_, d3⟩
      · cases bsr (aH A) to dd (m + 1) l <;> rfl
      · intro y hy
        cases hb : bsr (aH A) to dd (m + 1) l with
        | none => rw [hb] at hy; cases hy
        | some y' => rw [hb] at hy; cases hy; exact d2 y' hb
    · obtain ⟨g, hg, eg⟩ : ∃ g, g < hG (aH A) ∧ to m = nI g := by rcases t2 with h | h; exact absurd h hn; exact h
      have kg : (to m).toNatClampNeg = g := by rw [eg]; exact nI_clamp (by omega)
      have g0 : ¬ nI g < 0 := nI_pos (by omega)
      rw [if_neg hn, kg]
      have loop : ∀ d2 b n ν', b + d2 = hB (aH A) → d2 + 1 < n → FBm m ν ν' →
          ∃ ξ, h12_beltsFrom_12 20000 dep n (nI m) (nI l) (nI b) ν' = xri (b2 (fsome (fun b => if l.testBit b && brn (aH A) b g then (match bsr (aH A) to dd (m + 1) (clr l b) with | none => none | some y => some (upd y m (nI b))) else none) b d2).isSome) ξ ∧
            (∀ y, fsome (fun b => if l.testBit b && brn (aH A) b g then (match bsr (aH A) to dd (m + 1) (clr l b) with | none => none | some y => some (upd y m (nI b))) else none) b d2 = some y → ∀ j, m ≤ j → j < hM (aH A) → aI ξ 12 0 28 j = y j) ∧ FBm m ν ξ := by
        intro d2
        induction d2 with
        | zero =>
          intro b n ν' eb hn' hF
          obtain ⟨n, rfl⟩ : ∃ n', n = n' + 1 + 1 := ⟨n - 2, by omega⟩
          have hR' := RM_q hI hR hF.1
          have hF2 := FBm_p (q := m) (x := -1) hF (Nat.le_refl m)
          have e27 : aI (pI ν' 12 0 28 m (-1)) 12 0 27 m = nI g := by rw [hF2.2.1, t1, eg]
          rw [h12_beltsFrom_12_s, s12_belts (RM_H hR'), bI_i, xite_f (nI_nlt (by omega) (by omega)), h12_beltsFrom_84_s, xck_t xm', mS_eq, xck_t xm, km, e27, xite_f g0]
          exact ⟨_, rfl, fun y hy => (by cases hy), hF2⟩
        | succ d2 ih2 =>
          intro b n ν' eb hn' hF
          obtain ⟨n, rfl⟩ : ∃ n', n = n' + 1 := ⟨n - 1, by omega⟩
          have hR' := RM_q hI hR hF.1
          have hH' := RM_H hR'
          have t1' : aI ν' 12 0 27 m = nI g := by rw [hF.2.1, t1, eg]
          rw [h12_beltsFrom_12_s, s12_belts hH', bI_i, xite_t (nI_lt (by omega) (by omega)), xck_t xm, km, t1', xite_f g0, tst (show l < 2 ^ 31 by omega) (show b < 31 by omega), xck_t xm, s12_doesBear hH' (by omega) hg, bI_i, vI_eq, ← nI_succ, fsome]
          by_cases hc : (l.testBit b && brn (aH A) b g) = true
          · obtain ⟨c1, c2⟩ := (Bool.and_eq_true _ _ |>.mp hc)
            have hR2 : RM A (pI ν' 12 0 28 m (nI b)) := RM_q hI hR' (QM_p (by omega))
            have e27 : ∀ j, aI (pI ν' 12 0 28 m (nI b)) 12 0 27 j = aI ν' 12 0 27 j := fun j => by rw [aI_pI]; simp only [show ¬ (27 = 28) by decide, false_and, and_false, ↓reduceIte]
            obtain ⟨ξ, e1, e2, e3⟩ := ih (m + 1) (clr l b) dep (pI ν' 12 0 28 m (nI b)) (by omega) (by omega) (clr_lt hl) hR2 (fun j h1 h2 => by rw [e27, hF.2.1]; exact hto j (by omega) h2)
            have hF2 : FBm m ν ξ := FBm_t (Nat.le_succ m) (FBm_p hF (Nat.le_refl m)) e3
            rw [c1, c2, xite_t (by decide), xite_f (by decide), xck_t xm', mS_eq, clr_I l (by omega) b (by omega), ← nI_succ, e1, bI_i, Bool.and_self, if_pos rfl]
            cases hb : bsr (aH A) to dd (m + 1) (clr l b) with
            | none =>
              rw [xite_t (by decide), vI_eq]
              exact ih2 (b + 1) n ξ (by omega) (by omega) hF2
            | some y' =>
              rw [xite_f (show ¬ (b2 (some y').isSome = 0) from (show ¬ (b2 true = 0) by decide))]
              refine ⟨ξ, rfl, ?_, hF2⟩
              intro y hy j h1 h2
              cases hy
              by_cases ej : j = m
              · subst ej
                rw [pk_us, e3.2.2.2.2.2 j (by omega), aI_pI]; simp only [and_self, ↓reduceIte]
              · rw [pk_un ej]; exact e2 y' hb j (by omega) h2
          · have hc' : (l.testBit b && brn (aH A) b g) = false := by simpa using hc
            rw [hc', if_neg (by decide)]
            have rest := ih2 (b + 1) n ν' (by omega) (by omega) hF
            by_cases c1 : l.testBit b = true
            · have c2 : brn (aH A) b g = false := by rw [c1] at hc'; simpa using hc'
              rw [c1, c2, xite_t (by decide), xite_t (by decide)]
              exact rest
            · have c1' : l.testBit b = false := by simpa using c1
              rw [c1', xite_f (by decide)]
              exact rest
      exact loop (hB (aH A)) 0 20000 ν (by omega) (by omega) FBm_r
def RepM (A : AS) (st : GS) (ν : XM) : Prop := rI ν 12 0 31 = nI st.1 - 1 ∧ ∀ j, j < hM (aH A) → aI ν 12 0 29 j = st.2.1 j ∧ aI ν 12 0 30 j = st.2.2 j
theorem m_keep (h3 : hM (aH A) ≤ 3) {ν : XM} {x : Nat} {to y : Nat → Int32} (hq : QM μ ν) (h31 : rI ν 12 0 31 = nI x) (h5 : ∀ j, j < hM (aH A) → aI ν 12 0 27 j = to j) (h6 : ∀ j, j < hM (aH A) → aI ν 12 0 28 j = y j) (dep n : Nat) (hn : 3 < n) :
    ∃ ξ, h12_castsFrom_42 20000 dep n (nI 0) ν = xrv ξ ∧ RepM A (x + 1, to, y) ξ ∧ QM μ ξ ∧ aI ξ 12 0 27 = aI ν 12 0 27 := by
  refine lp_rel (F := fun n ν k => h12_castsFrom_42 20000 dep n k ν) (fun k ν' => QM μ ν' ∧ rI ν' 12 0 31 = nI x ∧ aI ν' 12 0 27 = aI ν 12 0 27 ∧ aI ν' 12 0 28 = aI ν 12 0 28 ∧ ∀ j, j < k → aI ν' 12 0 29 j = aI ν 12 0 27 j ∧ aI ν' 12 0 30 j = aI ν 12 0 28 j) (Q := fun r => ∃ ξ, r = xrv ξ ∧ RepM A (x + 1, to, y) ξ ∧ QM μ ξ ∧ aI ξ 12 0 27 = aI ν 12 0 27) (e := 3) ?_ ?_ 3 0 n ν (by omega) (by omega) ⟨hq, h31, rfl, rfl, fun j hj => absurd hj (Nat.not_lt_zero j)⟩
  · intro n ν' hJ
    obtain ⟨j1, j2, j3, j4, j5⟩ := hJ
    rw [h12_castsFrom_42_s, xite_f (by decide)]
    refine ⟨ν', rfl, ⟨by rw [j2]; exact (nI_pred x).symm, fun j hj => ?_⟩, j1, j3⟩
    obtain ⟨a, b⟩ := j5 j (by omega)
    exact ⟨a.trans (h5 j hj), b.trans (h6 j hj)⟩
  · intro n ν' k hk hJ
    obtain ⟨j1, j2, j3, j4, j5⟩ := hJ
    have hk3 : nI k < (3 : Int32) := nI_lt (b := 3) (by omega) (by omega)
    have xk : xin (nI k) 3 = true := xin_t (by omega) (by omega)
    have xk' : (xin (nI k) 3 && true) = true := xin_a (by omega) (by omega)
    have kk : (nI k).toNatClampNeg = k := nI_clamp (by omega)
    rw [h12_castsFrom_42_s, xite_t hk3]
    simp only [xck_t xk, xck_t xk', mS_eq, vI_eq, kk, ← nI_succ]
    refine ⟨_, ⟨QM_t (QM_t j1 (QM_p (by omega))) (QM_p (by omega)), by rw [rI_pI, rI_pI]; exact j2, ?_, ?_, fun j hj => ?_⟩, rfl⟩
    · rw [pI, aI_wI, pI, aI_wI]; simp only [show ¬ (27 = 30) by decide, show ¬ (27 = 29) by decide, and_false, ↓reduceIte]; exact j3
    · rw [pI, aI_wI, pI, aI_wI]; simp only [show ¬ (28 = 30) by decide, show ¬ (28 = 29) by decide, and_false, ↓reduceIte]; exact j4
    · by_cases ej : j = k
      · subst ej
        simp [rI_sI, rI_sL, rI_wI, rI_wL, rI_pI, rI_pL, rL_sI, rL_sL, rL_wI, rL_wL, rL_pI, rL_pL, aI_sI, aI_sL, aI_wI, aI_wL, aI_pI, aI_pL, aL_sI, aL_sL, aL_wI, aL_wL, aL_pI, aL_pL, j3, j4]
      · have := j5 j (by omega)
        simp [rI_sI, rI_sL, rI_wI, rI_wL, rI_pI, rI_pL, rL_sI, rL_sL, rL_wI, rL_wL, rL_pI, rL_pL, aI_sI, aI_sL, aI_wI, aI_wL, aI_pI, aI_pL, aL_sI, aL_sL, aL_wI, aL_wL, aL_pI, aL_pL, ej, this]
theorem m_guests (hI : AI A) (hR0 : RM A μ) : ∀ dd m tk dep to (st : GS) ν, m + dd = hM (aH A) → dd < dep → tk < 64 → QM μ ν → (∀ j, j < m → aI ν 12 0 27 j = to j ∧ vto (aH A) to j) → st.1 ≤ 11 → RepM A st ν →
    ∃ ξ, f12_castsFrom 20000 dep (nI m) (nI tk) ν = xrv ξ ∧ RepM A (gsr (aH A) (aS A) dd m to tk st) ξ ∧ QM μ ξ ∧ ∀ j, j < m → aI ξ 12 0 27 j = aI ν 12 0 27 j := by
  have h3 := RH_3 (RM_H hR0)
  have h5 := RH_5 (RM_H hR0)
  have h6 := RH_6 (RM_H hR0)
  have up11 : ∀ d m to tk (st : GS), st.1 ≤ 11 → (gsr (aH A) (aS A) d m to tk st).1 ≤ 11 := by
    intro d
    induction d with
    | zero =>
      intro m to tk st h1
      have hpc : pc tk ≤ 10 := ct_le _ _
      rw [gsr]
      split
      · split
        · exact h1
        · show pc tk + 1 ≤ 11; omega
      · exact h1
    | succ d ih =>
      intro m to tk st h1
      rw [gsr]
      apply ih
      generalize hG (aH A) = G
      induction G with
      | zero => exact h1
      | succ G ihG =>
        rw [fo]
        split
        · exact ih _ _ _ _ ihG
        · exact ihG
  intro dd
  induction dd with
  | zero =>
    intro m tk dep to st ν e hd ht hF hto h1 hRp
    obtain ⟨dep, rfl⟩ : ∃ d', dep = d' + 1 := ⟨dep - 1, by omega⟩
    obtain rfl : m = hM (aH A) := by omega
    have hR := RM_q hI hR0 hF
    have hpc : pc tk ≤ 10 := ct_le _ _
    have hw := bN_lt (fun b => wl (aH A) (aS A) (nI b)) (hB (aH A))
    have hw5 : (2 : Nat) ^ hB (aH A) ≤ 2 ^ 5 := Nat.pow_le_pow_right (by decide) h5
    have hw' : wall (aH A) (aS A) < 32 := by unfold wall; omega
    have hlt : (nI st.1 - 1 < nI (pc tk)) = (st.1 ≤ pc tk) := sub1_lt (by omega) (by omega)
    rw [f12_castsFrom_s, s12_men (RM_H hR), bI_i, xite_t rfl, s12_bits (by omega), bI_i, hRp.1, hlt, gsr]
    by_cases hc : st.1 ≤ pc tk
    · obtain ⟨ξ, d1, d2, d3⟩ := m_belts hI to (hM (aH A)) 0 (wall (aH A) (aS A)) 64 ν (by omega) (by omega) hw' hR (fun j _ h2 => hto j h2)
      have d1' : f12_beltsFrom 20000 64 0 (nI (wall (aH A) (aS A))) ν = xri (b2 (bsr (aH A) to (hM (aH A)) 0 (wall (aH A) (aS A))).isSome) ξ := d1
      rw [xite_t hc, s12_wall (RM_H hR) (RM_S hR) (AI_S hI) (by omega) B0, bI_i, d1', bI_i, if_pos hc]
      cases hb : bsr (aH A) to (hM (aH A)) 0 (wall (aH A) (aS A)) with
      | none =>
        rw [xite_t (show b2 (none : Option (Nat → Int32)).isSome = 0 from rfl)]
        refine ⟨ξ, rfl, ⟨by rw [d3.2.2.2.2.1]; exact hRp.1, fun j hj => ?_⟩, QM_t hF d3.1, fun j hj => by rw [d3.2.1]⟩
        rw [d3.2.2.1, d3.2.2.2.1]; exact hRp.2 j hj
      | some y =>
        have hq2 : QM μ (sI ξ 12 0 31 (nI (pc tk))) := QM_t (QM_t hF d3.1) (QM_s (.inr rfl))
        obtain ⟨ζ, e1, e2, e3, e4⟩ := m_keep (A := A) (x := pc tk) h3 hq2 (by rw [rI_sI]; simp only [and_self, ↓reduceIte]) (to := to) (y := y) (fun j hj => by rw [aI_sI, d3.2.1]; exact (hto j hj).1) (fun j hj => by rw [aI_sI]; exact d2 y hb j (Nat.zero_le j) hj) dep 20000 (by omega)
        rw [xite_f (show ¬ b2 (some y).isSome = 0 from (show ¬ b2 true = 0 by decide)), s12_bits (by omega), bI_i, mS_eq, vI_eq]
        exact ⟨ζ, e1, e2, e3, fun j hj => by rw [e4, aI_sI, d3.2.1]⟩
    · rw [xite_f hc, if_neg hc]
      exact ⟨ν, rfl, hRp, hF, fun j _ => rfl⟩
  | succ dd ih =>
    intro m tk dep to st ν e hd ht hF hto h1 hRp
    obtain ⟨dep, rfl⟩ : ∃ d', dep = d' + 1 := ⟨dep - 1, by omega⟩
    have km : (nI m).toNatClampNeg = m := nI_clamp (by omega)
    have xm' : (xin (nI m) 3 && true) = true := xin_a (by omega) (by omega)
    have hne : ¬ nI m = nI (hM (aH A)) := fun h => by have := (nI_eq (by omega) (by omega)).mp h; omega
    have sub : ∀ (x : Int32) tk' (st' : GS) ν', (x = -1 ∨ ∃ g, g < hG (aH A) ∧ x = nI g) → tk' < 64 → QM μ ν' → (∀ j, j < m → aI ν' 12 0 27 j = to j) → st'.1 ≤ 11 → RepM A st' ν' →
        ∃ ξ, f12_castsFrom 20000 dep (nI (m + 1)) (nI tk') (pI ν' 12 0 27 m x) = xrv ξ ∧ RepM A (gsr (aH A) (aS A) dd (m + 1) (upd to m x) tk' st') ξ ∧ QM μ ξ ∧ ∀ j, j < m → aI ξ 12 0 27 j = to j := by
      intro x tk' st' ν' hx ht' hF' hto' h1' hRp'
      have hF2 : QM μ (pI ν' 12 0 27 m x) := QM_t hF' (QM_p (by omega))
      obtain ⟨ξ, d1, d2, d3, d4⟩ := ih (m + 1) tk' dep (upd to m x) st' (pI ν' 12 0 27 m x) (by omega) (by omega) ht' hF2 (fun j hj => by
        by_cases ej : j = m
        · subst ej
          rw [aI_pI]
          refine ⟨by simp only [and_self, ↓reduceIte, pk_us], ?_⟩
          unfold vto; rw [pk_us]; exact hx
        · rw [aI_pI]
          simp only [ej, and_false, ↓reduceIte]
          refine ⟨by rw [pk_un ej]; exact hto' j (by omega), ?_⟩
          unfold vto; rw [pk_un ej]; exact (hto j (by omega)).2) h1' (by
        refine ⟨by rw [rI_pI]; exact hRp'.1, fun j hj => ?_⟩
        rw [aI_pI, aI_pI]
        simp only [show ¬ (29 = 27) by decide, show ¬ (30 = 27) by decide, false_and, and_false, ↓reduceIte]
        exact hRp'.2 j hj)
      refine ⟨ξ, d1, d2, d3, fun j hj => ?_⟩
      rw [d4 j (by omega), aI_pI]
      simp only [show ¬ j = m by omega, and_false, ↓reduceIte]
      exact hto' j hj
    rw [f12_castsFrom_s, s12_men (RM_H (RM_q hI hR0 hF)), bI_i, xite_f hne, vI_eq, gsr]
    refine lp_rel (F := fun n ν k => h12_castsFrom_80 20000 dep n (nI m) (nI tk) k ν) (fun k ν' => QM μ ν' ∧ (∀ j, j < m → aI ν' 12 0 27 j = to j) ∧ (fo (fun g st => if !tk.testBit g && (cry (aH A) (aS A) g && rch (aH A) (aS A) m g) then gsr (aH A) (aS A) dd (m + 1) (upd to m (nI g)) (tk ||| 2 ^ g) st else st) st k).1 ≤ 11 ∧ RepM A (fo (fun g st => if !tk.testBit g && (cry (aH A) (aS A) g && rch (aH A) (aS A) m g) then gsr (aH A) (aS A) dd (m + 1) (upd to m (nI g)) (tk ||| 2 ^ g) st else st) st k) ν')
      (Q := fun r => ∃ ξ, r = xrv ξ ∧ RepM A (gsr (aH A) (aS A) dd (m + 1) (upd to m (-1)) tk (fo (fun g st => if !tk.testBit g && (cry (aH A) (aS A) g && rch (aH A) (aS A) m g) then gsr (aH A) (aS A) dd (m + 1) (upd to m (nI g)) (tk ||| 2 ^ g) st else st) st (hG (aH A)))) ξ ∧ QM μ ξ ∧ ∀ j, j < m → aI ξ 12 0 27 j = aI ν 12 0 27 j) (e := hG (aH A)) ?_ ?_ (hG (aH A)) 0 20000 ν (by omega) (by omega) ⟨hF, fun j hj => (hto j hj).1, h1, hRp⟩
    · intro n ν' hJ
      obtain ⟨j1, j2, j3, j4⟩ := hJ
      have hR' := RM_q hI hR0 j1
      obtain ⟨ξ, d1, d2, d3, d4⟩ := sub (-1) tk _ ν' (.inl rfl) ht j1 j2 j3 j4
      rw [h12_castsFrom_80_s, s12_guests (RM_H hR'), bI_i, xite_f Int32.lt_irrefl, xck_t xm', mS_eq, km, ← nI_succ, d1, bV_v]
      exact ⟨ξ, rfl, d2, d3, fun j hj => by rw [d4 j hj, (hto j hj).1]⟩
    · intro n ν' k hk hJ
      obtain ⟨j1, j2, j3, j4⟩ := hJ
      have hR' := RM_q hI hR0 j1
      have hH' := RM_H hR'
      rw [h12_castsFrom_80_s, s12_guests hH', bI_i, xite_t (nI_lt hk (by omega)), tst (show tk < 2 ^ 31 by omega) (show k < 31 by omega), b2_eq0, s12_couldCast hH' (RM_S hR') (AI_S hI) (by omega) B0 (by omega) hk, bI_i, s12_doesCry hH' (RM_S hR') (AI_S hI) (by omega) B0 hk, bI_i]
      simp only [vI_eq, ← nI_succ]
      by_cases hc : (!tk.testBit k && (cry (aH A) (aS A) k && rch (aH A) (aS A) m k)) = true
      · have hc' := hc
        simp only [Bool.and_eq_true, Bool.not_eq_true'] at hc'
        obtain ⟨c1, c2, c3⟩ := hc'
        have ht' : tk ||| 2 ^ k < 64 := Nat.or_lt_two_pow (n := 6) ht (Nat.pow_lt_pow_right (by decide) (by omega))
        obtain ⟨ξ, d1, d2, d3, d4⟩ := sub (nI k) (tk ||| 2 ^ k) _ ν' (.inr ⟨k, hk, rfl⟩) ht' j1 j2 j3 j4
        rw [xite_t c1, c3, xite_f (by decide), c2, xite_f (by decide), xck_t xm', mS_eq, km, or_bit tk (show k < 31 by omega), d1, bV_v]
        refine ⟨ξ, ⟨d3, d4, ?_, ?_⟩, rfl⟩
        · rw [fo, if_pos hc]; exact up11 _ _ _ _ _ j3
        · rw [fo, if_pos hc]; exact d2
      · have hfo : ∀ st0 : GS, (if (!tk.testBit k && (cry (aH A) (aS A) k && rch (aH A) (aS A) m k)) = true then gsr (aH A) (aS A) dd (m + 1) (upd to m (nI k)) (tk ||| 2 ^ k) st0 else st0) = st0 := fun st0 => if_neg hc
        refine ⟨ν', ⟨j1, j2, ?_, ?_⟩, ?_⟩
        · rw [fo, hfo]; exact j3
        · rw [fo, hfo]; exact j4
        · by_cases c1 : tk.testBit k = false
          · rw [xite_t c1]
            by_cases c3 : rch (aH A) (aS A) m k = true
            · have c2 : cry (aH A) (aS A) k = false := by rw [c1, c3] at hc; simpa using hc
              rw [c3, xite_f (by decide), c2, xite_t (by decide)]
            · have c3' : rch (aH A) (aS A) m k = false := by simpa using c3
              rw [c3', xite_t (by decide)]
          · rw [xite_f c1]
end
/-- the two beginnings come to the same -/
def agr (M : Nat) (a b : GS) : Prop := a.1 = b.1 ∧ ∀ j, j < M → a.2.1 j = b.2.1 j ∧ a.2.2 j = b.2.2 j
def beg (M : Nat) (a b : GS) : Prop := a.1 = 1 ∧ b.1 = 0 ∧ ∀ j, j < M → a.2.1 j = -1 ∧ a.2.2 j = -1
theorem bsr_no (h : HS) (to : Nat → Int32) : ∀ d m l, (∀ j, m ≤ j → j < m + d → to j = -1) → ∃ y, bsr h to d m l = some y ∧ ∀ j, m ≤ j → j < m + d → y j = -1
  | 0, m, l, _ => ⟨fun _ => -1, rfl, fun j h1 h2 => rfl⟩
  | d + 1, m, l, ht => by
    obtain ⟨y, y1, y2⟩ := bsr_no h to d (m + 1) l (fun j h1 h2 => ht j (by omega) (by omega))
    refine ⟨upd y m (-1), ?_, fun j h1 h2 => ?_⟩
    · rw [bsr, if_pos (ht m (by omega) (by omega)), y1]
    · by_cases e : j = m
      · subst e; rw [pk_us]
      · rw [pk_un e]; exact y2 j (by omega) (by omega)
theorem pc_pos : ∀ v, v < 64 → v ≠ 0 → 1 ≤ pc v := by decide +kernel
theorem or_ne0 {v k : Nat} : v ||| 2 ^ k ≠ 0 := by
  intro e
  have h : (v ||| 2 ^ k).testBit k = true := by rw [test_or]; simp
  rw [e] at h; simp at h
theorem gsr_two (h : HS) (s : SS) (h6 : hG h ≤ 6) : ∀ d m to tk (a b : GS), m + d = hM h → tk < 64 → (tk = 0 → ∀ j, j < m → to j = -1) → (1 ≤ a.1) → (agr (hM h) a b ∨ beg (hM h) a b) →
    (agr (hM h) (gsr h s d m to tk a) (gsr h s d m to tk b) ∨ (tk ≠ 0 ∧ beg (hM h) (gsr h s d m to tk a) (gsr h s d m to tk b))) ∧ 1 ≤ (gsr h s d m to tk a).1 := by
  intro d
  induction d with
  | zero =>
    intro m to tk a b e ht h0 h1 hab
    obtain rfl : m = hM h := by omega
    rw [gsr, gsr]
    rcases hab with hab | hab
    · rw [← hab.1]
      by_cases hc : a.1 ≤ pc tk
      · rw [if_pos hc, if_pos hc]
        cases bsr h to (hM h) 0 (wall h s) with
        | none => exact ⟨.inl hab, h1⟩
        | some y => exact ⟨.inl ⟨rfl, fun j _ => ⟨rfl, rfl⟩⟩, by show 1 ≤ pc tk + 1; omega⟩
      · rw [if_neg hc, if_neg hc]; exact ⟨.inl hab, h1⟩
    · obtain ⟨b1, b2', b3⟩ := hab
      rw [b1, b2', if_pos (Nat.zero_le _)]
      by_cases hz : tk = 0
      · subst hz
        obtain ⟨y, y1, y2⟩ := bsr_no h to (hM h) 0 (wall h s) (fun j _ hj => h0 rfl j (by omega))
        have hp : pc 0 = 0 := by decide
        rw [y1, hp, if_neg (by decide)]
        refine ⟨.inl ⟨b1, fun j hj => ?_⟩, h1⟩
        obtain ⟨c1, c2⟩ := b3 j hj
        exact ⟨c1.trans (h0 rfl j hj).symm, c2.trans (y2 j (by omega) (by omega)).symm⟩
      · rw [if_pos (pc_pos tk ht hz)]
        cases bsr h to (hM h) 0 (wall h s) with
        | none => exact ⟨.inr ⟨hz, b1, b2', b3⟩, h1⟩
        | some y => exact ⟨.inl ⟨rfl, fun j _ => ⟨rfl, rfl⟩⟩, by show 1 ≤ pc tk + 1; omega⟩
  | succ d ih =>
    intro m to tk a b e ht h0 h1 hab
    rw [gsr, gsr]
    have hfold : ∀ G, G ≤ hG h → (agr (hM h) (fo (fun g st => if !tk.testBit g && (cry h s g && rch h s m g) then gsr h s d (m + 1) (upd to m (nI g)) (tk ||| 2 ^ g) st else st) a G) (fo (fun g st => if !tk.testBit g && (cry h s g && rch h s m g) then gsr h s d (m + 1) (upd to m (nI g)) (tk ||| 2 ^ g) st else st) b G) ∨ beg (hM h) (fo (fun g st => if !tk.testBit g && (cry h s g && rch h s m g) then gsr h s d (m + 1) (upd to m (nI g)) (tk ||| 2 ^ g) st else st) a G) (fo (fun g st => if !tk.testBit g && (cry h s g && rch h s m g) then gsr h s d (m + 1) (upd to m (nI g)) (tk ||| 2 ^ g) st else st) b G)) ∧ 1 ≤ (fo (fun g st => if !tk.testBit g && (cry h s g && rch h s m g) then gsr h s d (m + 1) (upd to m (nI g)) (tk ||| 2 ^ g) st else st) a G).1 := by
      intro G hG
      induction G with
      | zero => exact ⟨hab, h1⟩
      | succ G ihG =>
        obtain ⟨i1, i2⟩ := ihG (by omega)
        rw [fo, fo]
        by_cases hc : (!tk.testBit G && (cry h s G && rch h s m G)) = true
        · rw [if_pos hc, if_pos hc]
          have ht' : tk ||| 2 ^ G < 64 := Nat.or_lt_two_pow (n := 6) ht (Nat.pow_lt_pow_right (by decide) (by omega))
          obtain ⟨r1, r2⟩ := ih (m + 1) (upd to m (nI G)) (tk ||| 2 ^ G) _ _ (by omega) ht' (fun h => absurd h or_ne0) i2 i1
          refine ⟨?_, r2⟩
          rcases r1 with r1 | r1
          · exact .inl r1
          · exact .inr r1.2
        · rw [if_neg hc, if_neg hc]; exact ⟨i1, i2⟩
    obtain ⟨f1', f2'⟩ := hfold (hG h) (Nat.le_refl _)
    exact ih (m + 1) (upd to m (-1)) tk _ _ (by omega) ht (fun hz j hj => by
      by_cases ej : j = m
      · subst ej; rw [pk_us]
      · rw [pk_un ej]; exact h0 hz j (by omega)) f2' f1'
section
variable {A : AS} {μ : XM}
theorem m_plan (hI : AI A) (hR1 : RM A μ) : ∃ ξ, (bV (f12_castsFrom 20000 64 0 0 (sI μ 12 0 31 (-1))) fun m => xrv m) = xrv ξ ∧ f12_castsFrom 20000 64 0 0 (sI μ 12 0 31 (-1)) = xrv ξ ∧ QM μ ξ ∧ rI ξ 12 0 31 = nI ((cres A).1 - 1) ∧ ∀ j, j < hM (aH A) → aI ξ 12 0 29 j = (cres A).2.1 j ∧ aI ξ 12 0 30 j = (cres A).2.2 j := by
  have h6 := RH_6 (RM_H hR1)
  have h3 := RH_3 (RM_H hR1)
  have hq : QM μ (sI μ 12 0 31 (-1)) := QM_s (.inr rfl)
  obtain ⟨ξ, d1, d2, d3, _⟩ := m_guests hI hR1 (hM (aH A)) 0 0 64 (fun _ => -1) (0, aI μ 12 0 29, aI μ 12 0 30) (sI μ 12 0 31 (-1)) (by omega) (by omega) (by omega) hq (fun j hj => absurd hj (Nat.not_lt_zero j)) (show 0 ≤ 11 by decide) ⟨by rw [rI_sI]; simp only [and_self, ↓reduceIte]; decide, fun j _ => by rw [aI_sI, aI_sI]; exact ⟨rfl, rfl⟩⟩
  have d1' : f12_castsFrom 20000 64 0 0 (sI μ 12 0 31 (-1)) = xrv ξ := d1
  obtain ⟨r1, r2⟩ := gsr_two (aH A) (aS A) h6 (hM (aH A)) 0 (fun _ => -1) 0 (1, (fun _ => -1), fun _ => -1) (0, aI μ 12 0 29, aI μ 12 0 30) (by omega) (by omega) (fun _ j hj => absurd hj (Nat.not_lt_zero j)) (Nat.le_refl 1) (.inr ⟨rfl, rfl, fun j _ => ⟨rfl, rfl⟩⟩)
  have hag : agr (hM (aH A)) (cres A) (gsr (aH A) (aS A) (hM (aH A)) 0 (fun _ => -1) 0 (0, aI μ 12 0 29, aI μ 12 0 30)) := by
    rcases r1 with r1 | r1
    · exact r1
    · exact absurd rfl r1.1
  refine ⟨ξ, by rw [d1', bV_v], d1', d3, ?_, fun j hj => ?_⟩
  · rw [d2.1, ← hag.1]
    have h1 : 1 ≤ (cres A).1 := r2
    obtain ⟨k, hk⟩ : ∃ k, (cres A).1 = k + 1 := ⟨(cres A).1 - 1, by omega⟩
    rw [hk, nI_pred]; rfl
  · obtain ⟨a, b⟩ := d2.2 j hj
    obtain ⟨c, d⟩ := hag.2 j hj
    exact ⟨a.trans c.symm, b.trans d.symm⟩
theorem m_best (hI : AI A) (hR : RM A μ) (p : Int32) : OKm A A μ (f12_best p μ) (aBest A p) := by
  have hR1 := m0_R hI hR
  have h3 := RH_3 (RM_H hR1)
  obtain ⟨ξ, _, d1, d2, d3, d4⟩ := m_plan hI hR1
  rw [f12_best_e, k12_best, mS_eq, aBest]
  change OKm A A μ (xite (p = -1) (h12_best_21 20000 p (m0 μ)) (bI (f12_isMan p (m0 μ)) _)) _
  by_cases hp : p = -1
  · rw [xite_t hp, if_pos hp, h12_best_21_s, mS_eq, d1, bV_v, xite_t hp, d3]
    exact OKm_of hI hR d2
  · rw [xite_f hp, if_neg hp, s12_isMan (RM_H hR1), bI_i]
    rcases inR_cases (n := hM (aH A)) (by omega) p with ⟨hq, _⟩ | ⟨m, hm, rfl, _, _, hp3⟩
    · rw [hq, xite_t (by decide)]; exact OKm_r hI hR
    · rw [hp3, xite_f (by decide), if_pos rfl, h12_best_21_s, mS_eq, d1, bV_v, xite_f hp, xck_t (xin_t (by omega) (by omega)), nI_clamp (by omega), (d4 m hm).1]
      exact OKm_of hI hR d2
theorem m_with (hI : AI A) (hR : RM A μ) (p : Int32) : OKm A A μ (f12_with p μ) (aWith A p) := by
  have hR1 := m0_R hI hR
  have h3 := RH_3 (RM_H hR1)
  obtain ⟨ξ, _, d1, d2, d3, d4⟩ := m_plan hI hR1
  rw [f12_with_e, k12_with, mS_eq, aWith]
  change OKm A A μ (bI (f12_isMan p (m0 μ)) _) _
  rw [s12_isMan (RM_H hR1), bI_i]
  rcases inR_cases (n := hM (aH A)) (by omega) p with ⟨hq, _⟩ | ⟨m, hm, rfl, _, _, hp3⟩
  · rw [hq, xite_t (by decide)]; exact OKm_r hI hR
  · rw [hp3, xite_f (by decide), if_pos rfl, mS_eq, d1, bV_v, xck_t (xin_t (by omega) (by omega)), nI_clamp (by omega), (d4 m hm).2]
    exact OKm_of hI hR d2
end
