/-! THE PURE PART: near, gap, row, dense, tight, spare, enough, count -/
theorem fo_shift {α : Type} (st : Nat → α → α) (a : α) (h0 : st 0 a = a) : ∀ n, fo (fun k x => st (k + 1) x) a n = fo st a (n + 1)
  | 0 => h0.symm
  | n + 1 => by rw [fo, fo_shift st a h0 n]; rfl
theorem lp_fok {α : Type} {F : Nat → α → Int32 → XR} {st : Nat → α → α} {G : Nat} {R : α → XR} (k0 : Nat)
    (hx : ∀ n a, F (n + 1) a (nI G) = R a)
    (hs : ∀ n a k, k0 ≤ k → k < G → F (n + 1) a (nI k) = F n (st k a) (nI (k + 1))) (a : α) :
    ∀ d k n, k0 ≤ k → k + d = G → d < n → F n (fo st a k) (nI k) = R (fo st a G) := by
  intro d
  induction d with
  | zero =>
    intro k n h0 e hn
    obtain ⟨m, rfl⟩ : ∃ m, n = m + 1 := ⟨n - 1, by omega⟩
    obtain rfl : k = G := by omega
    exact hx m _
  | succ d ih =>
    intro k n h0 e hn
    obtain ⟨m, rfl⟩ : ∃ m, n = m + 1 := ⟨n - 1, by omega⟩
    rw [hs m _ k h0 (by omega)]
    exact ih (k + 1) m (by omega) (by omega) (by omega)
section
variable {A : AS} {μ : XM}
def aEnough (A : AS) (p : Int32) : Int32 := if inR (hG (aH A)) p then oI (leastB (aH A) p.toNatClampNeg) else -1
theorem c_enough (hR : RC A μ) (p : Int32) : f11_enough p μ = xri (aEnough A p) μ := by
  have hH := RC_H hR
  have h6 := CH_6 hH
  rw [f11_enough_e, k11_enough]
  rcases inR_cases (n := hG (aH A)) (by omega) p with ⟨hp, hp'⟩ | ⟨j, hj, rfl, hp1, hp2, hp3⟩
  · simp only [mS_eq, vI_eq, vL_eq, bV_v, bI_i, bL_l, xrb_b, xrb_0, xrb_1, xite_eq, b2_t, b2_f, i10, b2_eq0, b2_eq1, Bool.and_true, Bool.true_and, Bool.false_and, Bool.not_true, Bool.not_false, ↓reduceIte, not_false_eq_true, not_true_eq_false, decide_true, decide_false, s2_leastBelt_no hH hp, aEnough, hp, Bool.false_eq_true]
  · simp only [mS_eq, vI_eq, vL_eq, bV_v, bI_i, bL_l, xrb_b, xrb_0, xrb_1, xite_eq, b2_t, b2_f, i10, b2_eq0, b2_eq1, Bool.and_true, Bool.true_and, Bool.false_and, Bool.not_true, Bool.not_false, ↓reduceIte, not_false_eq_true, not_true_eq_false, decide_true, decide_false, s2_leastBelt hH hj, aEnough, hp3, nI_clamp (show j < 2 ^ 31 by omega)]
theorem s12_enoughFor {h : HS} (hH : RH h μ) {g : Nat} (hg : g < hG h) : f12_enoughFor (nI g) μ = xri (oI (leastB h g)) μ := by
  have h6 := RH_6 hH
  have h5 := RH_5 hH
  rw [f12_enoughFor_e, k12_enoughFor, vI_eq, vI_eq]
  refine lp_lo (F := fun n a k => h12_enoughFor_4 n (nI g) a k μ) (c := fun b => brn h b g) (f := fun b => hf h 5 b) (G := hB h) (R := fun a => xri a μ) ?_ ?_ (hB h) 0 20000 (by omega) (by omega)
  · intro n a _
    simp only [h12_enoughFor_4_s, s12_belts hH, mS_eq, vI_eq, vL_eq, bV_v, bI_i, bL_l, xrb_b, xrb_0, xrb_1, xite_eq, b2_t, b2_f, i10, b2_eq0, b2_eq1, Bool.and_true, Bool.true_and, Bool.false_and, Bool.not_true, Bool.not_false, ↓reduceIte, not_false_eq_true, not_true_eq_false, decide_true, decide_false, Int32.lt_irrefl]
  · intro n a k hk ha
    have ho := oI_neg (a := a) (fun b hb => by have := ha b hb; omega)
    have h1 := nI_lt hk (show hB h < 2 ^ 31 by omega)
    simp only [h12_enoughFor_4_s, s12_belts hH, mS_eq, vI_eq, vL_eq, bV_v, bI_i, bL_l, xrb_b, xrb_0, xrb_1, xite_eq, b2_t, b2_f, i10, b2_eq0, b2_eq1, Bool.and_true, Bool.true_and, Bool.false_and, Bool.not_true, Bool.not_false, ↓reduceIte, not_false_eq_true, not_true_eq_false, decide_true, decide_false, h1, s12_doesBear hH hk hg, ho, s12_bearsOf hH hk, ← nI_succ]
    cases a with
    | none => simp only [mS_eq, vI_eq, vL_eq, bV_v, bI_i, bL_l, xrb_b, xrb_0, xrb_1, xite_eq, b2_t, b2_f, i10, b2_eq0, b2_eq1, Bool.and_true, Bool.true_and, Bool.false_and, Bool.not_true, Bool.not_false, ↓reduceIte, not_false_eq_true, not_true_eq_false, decide_true, decide_false]; grind [oI]
    | some b =>
      have hb := ha b rfl
      have hb' : b < hB h := by omega
      simp only [mS_eq, vI_eq, vL_eq, bV_v, bI_i, bL_l, xrb_b, xrb_0, xrb_1, xite_eq, b2_t, b2_f, i10, b2_eq0, b2_eq1, Bool.and_true, Bool.true_and, Bool.false_and, Bool.not_true, Bool.not_false, ↓reduceIte, not_false_eq_true, not_true_eq_false, decide_true, decide_false, oI, s12_bearsOf hH hb', reduceCtorEq]
      grind [oI]
theorem m_enough (hI : AI A) (hR : RM A μ) (p : Int32) : f12_enough p μ = xri (aEnough A p) (m0 μ) := by
  have hR1 := m0_R hI hR
  have hH := RM_H hR1
  have h6 := RH_6 hH
  rw [f12_enough_e, k12_enough, mS_eq]
  change (bI (f12_isGuest p (m0 μ)) _) = _
  rw [s12_isGuest hH, bI_i]
  rcases inR_cases (n := hG (aH A)) (by omega) p with ⟨hp, hp'⟩ | ⟨j, hj, rfl, hp1, hp2, hp3⟩
  · simp only [mS_eq, vI_eq, vL_eq, bV_v, bI_i, bL_l, xrb_b, xrb_0, xrb_1, xite_eq, b2_t, b2_f, i10, b2_eq0, b2_eq1, Bool.and_true, Bool.true_and, Bool.false_and, Bool.not_true, Bool.not_false, ↓reduceIte, not_false_eq_true, not_true_eq_false, decide_true, decide_false, aEnough, hp, Bool.false_eq_true]
  · simp only [mS_eq, vI_eq, vL_eq, bV_v, bI_i, bL_l, xrb_b, xrb_0, xrb_1, xite_eq, b2_t, b2_f, i10, b2_eq0, b2_eq1, Bool.and_true, Bool.true_and, Bool.false_and, Bool.not_true, Bool.not_false, ↓reduceIte, not_false_eq_true, not_true_eq_false, decide_true, decide_false, s12_enoughFor hH hj, aEnough, hp3, nI_clamp (show j < 2 ^ 31 by omega)]
def aNear (A : AS) (p : Int32) : Int32 := if inR (hG (aH A)) p then oI (lo (fun _ => true) (fun m => absI (hf (aH A) 6 m - aS A 0 p.toNatClampNeg)) (hM (aH A))) else -1
theorem c_near (hR : RC A μ) (p : Int32) : f11_near p μ = xri (aNear A p) μ := by
  have hH := RC_H hR
  have hS := RC_S hR
  have h6 := CH_6 hH
  have h3 := CH_3 hH
  rw [f11_near_e, k11_near, s2_isGuest hH, bI_i]
  rcases inR_cases (n := hG (aH A)) (by omega) p with ⟨hp, hp'⟩ | ⟨j, hj, rfl, hp1, hp2, hp3⟩
  · simp only [mS_eq, vI_eq, vL_eq, bV_v, bI_i, bL_l, xrb_b, xrb_0, xrb_1, xite_eq, b2_t, b2_f, i10, b2_eq0, b2_eq1, Bool.and_true, Bool.true_and, Bool.false_and, Bool.not_true, Bool.not_false, ↓reduceIte, not_false_eq_true, not_true_eq_false, decide_true, decide_false, aNear, hp, Bool.false_eq_true]
  · simp only [mS_eq, vI_eq, vL_eq, bV_v, bI_i, bL_l, xrb_b, xrb_0, xrb_1, xite_eq, b2_t, b2_f, i10, b2_eq0, b2_eq1, Bool.and_true, Bool.true_and, Bool.false_and, Bool.not_true, Bool.not_false, ↓reduceIte, not_false_eq_true, not_true_eq_false, decide_true, decide_false, hp3, aNear, nI_clamp (show j < 2 ^ 31 by omega)]
    refine lp_lo2 (F := fun n a l k => h11_near_20 n (nI j) a l k μ) (c := fun _ => true) (f := fun m => absI (hf (aH A) 6 m - aS A 0 j)) (G := hM (aH A)) (R := fun a => xri a μ) ?_ ?_ (hM (aH A)) 0 20000 (by omega) (by omega)
    · intro n a _
      simp only [h11_near_20_s, CH_M hH, mS_eq, vI_eq, vL_eq, bV_v, bI_i, bL_l, xrb_b, xrb_0, xrb_1, xite_eq, b2_t, b2_f, i10, b2_eq0, b2_eq1, Bool.and_true, Bool.true_and, Bool.false_and, Bool.not_true, Bool.not_false, ↓reduceIte, not_false_eq_true, not_true_eq_false, decide_true, decide_false, Int32.lt_irrefl]
    · intro n a a2 k hk ha e2
      subst e2
      have ho := oI_m1 (a := a) (fun b hb => by have := ha b hb; omega)
      have h1 := nI_lt hk (show hM (aH A) < 2 ^ 31 by omega)
      have x1 : xin (nI k) 3 = true := xin_t (by omega) (by omega)
      have x2 : xin (nI j) 6 = true := xin_t (by omega) (by omega)
      simp only [h11_near_20_s, CH_M hH, mS_eq, vI_eq, vL_eq, bV_v, bI_i, bL_l, xrb_b, xrb_0, xrb_1, xite_eq, b2_t, b2_f, i10, b2_eq0, b2_eq1, Bool.and_true, Bool.true_and, Bool.false_and, Bool.not_true, Bool.not_false, ↓reduceIte, not_false_eq_true, not_true_eq_false, decide_true, decide_false, h1, xck_t x1, xck_t x2, nI_clamp (show k < 2 ^ 31 by omega), nI_clamp (show j < 2 ^ 31 by omega), CH_po hH hk, CS_pl hS hj, absC, ho, ← nI_succ]
      cases a with
      | none => simp only [mS_eq, vI_eq, vL_eq, bV_v, bI_i, bL_l, xrb_b, xrb_0, xrb_1, xite_eq, b2_t, b2_f, i10, b2_eq0, b2_eq1, Bool.and_true, Bool.true_and, Bool.false_and, Bool.not_true, Bool.not_false, ↓reduceIte, not_false_eq_true, not_true_eq_false, decide_true, decide_false]; grind [oI, lov]
      | some b =>
        simp only [mS_eq, vI_eq, vL_eq, bV_v, bI_i, bL_l, xrb_b, xrb_0, xrb_1, xite_eq, b2_t, b2_f, i10, b2_eq0, b2_eq1, Bool.and_true, Bool.true_and, Bool.false_and, Bool.not_true, Bool.not_false, ↓reduceIte, not_false_eq_true, not_true_eq_false, decide_true, decide_false, oI, lov, reduceCtorEq]
        grind [oI, lov]
theorem m_near (hI : AI A) (hR : RM A μ) (p : Int32) : f12_near p μ = xri (aNear A p) (m0 μ) := by
  have hR1 := m0_R hI hR
  have hH := RM_H hR1
  have hS := RM_S hR1
  have h6 := RH_6 hH
  have h3 := RH_3 hH
  rw [f12_near_e, k12_near, mS_eq, vI_eq, vI_eq]
  rcases inR_cases (n := hG (aH A)) (by omega) p with ⟨hp, hp'⟩ | ⟨j, hj, rfl, hp1, hp2, hp3⟩
  · have e : h12_near_9 20000 p (-1) 0 (m0 μ) = xri (-1) (m0 μ) := by
      rw [h12_near_9_s]
      simp only [mS_eq, vI_eq, vL_eq, bV_v, bI_i, bL_l, xrb_b, xrb_0, xrb_1, xite_eq, b2_t, b2_f, i10, b2_eq0, b2_eq1, Bool.and_true, Bool.true_and, Bool.false_and, Bool.not_true, Bool.not_false, ↓reduceIte, not_false_eq_true, not_true_eq_false, decide_true, decide_false, s12_men hH, s12_isGuest hH, hp]
      split <;> rfl
    change h12_near_9 20000 p (-1) 0 (m0 μ) = _
    rw [e]; simp only [aNear, hp, Bool.false_eq_true, ↓reduceIte]
  · simp only [aNear, hp3, nI_clamp (show j < 2 ^ 31 by omega), ↓reduceIte]
    refine lp_lo (F := fun n a k => h12_near_9 n (nI j) a k (m0 μ)) (c := fun _ => true) (f := fun m => absI (hf (aH A) 6 m - aS A 0 j)) (G := hM (aH A)) (R := fun a => xri a (m0 μ)) ?_ ?_ (hM (aH A)) 0 20000 (by omega) (by omega)
    · intro n a _
      simp only [h12_near_9_s, s12_men hH, mS_eq, vI_eq, vL_eq, bV_v, bI_i, bL_l, xrb_b, xrb_0, xrb_1, xite_eq, b2_t, b2_f, i10, b2_eq0, b2_eq1, Bool.and_true, Bool.true_and, Bool.false_and, Bool.not_true, Bool.not_false, ↓reduceIte, not_false_eq_true, not_true_eq_false, decide_true, decide_false, Int32.lt_irrefl]
    · intro n a k hk ha
      have ho := oI_neg (a := a) (fun b hb => by have := ha b hb; omega)
      have h1 := nI_lt hk (show hM (aH A) < 2 ^ 31 by omega)
      simp only [h12_near_9_s, s12_men hH, mS_eq, vI_eq, vL_eq, bV_v, bI_i, bL_l, xrb_b, xrb_0, xrb_1, xite_eq, b2_t, b2_f, i10, b2_eq0, b2_eq1, Bool.and_true, Bool.true_and, Bool.false_and, Bool.not_true, Bool.not_false, ↓reduceIte, not_false_eq_true, not_true_eq_false, decide_true, decide_false, h1, s12_isGuest hH, hp3, s12_gapTo hH hS (by omega) B0 hk hj, ho, ← nI_succ]
      cases a with
      | none => simp only [mS_eq, vI_eq, vL_eq, bV_v, bI_i, bL_l, xrb_b, xrb_0, xrb_1, xite_eq, b2_t, b2_f, i10, b2_eq0, b2_eq1, Bool.and_true, Bool.true_and, Bool.false_and, Bool.not_true, Bool.not_false, ↓reduceIte, not_false_eq_true, not_true_eq_false, decide_true, decide_false]; grind [oI]
      | some b =>
        have hb := ha b rfl
        have hb' : b < hM (aH A) := by omega
        simp only [mS_eq, vI_eq, vL_eq, bV_v, bI_i, bL_l, xrb_b, xrb_0, xrb_1, xite_eq, b2_t, b2_f, i10, b2_eq0, b2_eq1, Bool.and_true, Bool.true_and, Bool.false_and, Bool.not_true, Bool.not_false, ↓reduceIte, not_false_eq_true, not_true_eq_false, decide_true, decide_false, oI, s12_gapTo hH hS (by omega) B0 hb' hj, reduceCtorEq]
        grind [oI]
def aGap (A : AS) (p q : Int32) : Int32 := if inR (hG (aH A)) p then (if inR (hG (aH A)) q then (if p = q then -1 else absI (aS A 0 p.toNatClampNeg - aS A 0 q.toNatClampNeg)) else -1) else -1
theorem c_gap (hR : RC A μ) (p q : Int32) : f11_gap p q μ = xri (aGap A p q) μ := by
  have hH := RC_H hR
  have hS := RC_S hR
  have h6 := CH_6 hH
  rw [f11_gap_e, k11_gap, s2_isGuest hH, bI_i]
  rcases inR_cases (n := hG (aH A)) (by omega) p with ⟨hp, hp'⟩ | ⟨j, hj, rfl, hp1, hp2, hp3⟩
  · simp only [mS_eq, vI_eq, vL_eq, bV_v, bI_i, bL_l, xrb_b, xrb_0, xrb_1, xite_eq, b2_t, b2_f, i10, b2_eq0, b2_eq1, Bool.and_true, Bool.true_and, Bool.false_and, Bool.not_true, Bool.not_false, ↓reduceIte, not_false_eq_true, not_true_eq_false, decide_true, decide_false, aGap, hp, Bool.false_eq_true]
  · rcases inR_cases (n := hG (aH A)) (by omega) q with ⟨hq, hq'⟩ | ⟨k, hk, rfl, hq1, hq2, hq3⟩
    · simp only [mS_eq, vI_eq, vL_eq, bV_v, bI_i, bL_l, xrb_b, xrb_0, xrb_1, xite_eq, b2_t, b2_f, i10, b2_eq0, b2_eq1, Bool.and_true, Bool.true_and, Bool.false_and, Bool.not_true, Bool.not_false, ↓reduceIte, not_false_eq_true, not_true_eq_false, decide_true, decide_false, s2_isGuest hH, aGap, hp3, hq, Bool.false_eq_true]
    · have x1 : xin (nI j) 6 = true := xin_t (by omega) (by omega)
      have x2 : xin (nI k) 6 = true := xin_t (by omega) (by omega)
      simp only [mS_eq, vI_eq, vL_eq, bV_v, bI_i, bL_l, xrb_b, xrb_0, xrb_1, xite_eq, b2_t, b2_f, i10, b2_eq0, b2_eq1, Bool.and_true, Bool.true_and, Bool.false_and, Bool.not_true, Bool.not_false, ↓reduceIte, not_false_eq_true, not_true_eq_false, decide_true, decide_false, s2_isGuest hH, aGap, hp3, hq3, xck_t x1, xck_t x2, nI_clamp (show k < 2 ^ 31 by omega), nI_clamp (show j < 2 ^ 31 by omega), CS_pl hS hj, CS_pl hS hk, absC, xri_if]
theorem m_gap (hI : AI A) (hR : RM A μ) (p q : Int32) : f12_gap p q μ = xri (aGap A p q) (m0 μ) := by
  have hR1 := m0_R hI hR
  have hH := RM_H hR1
  have hS := RM_S hR1
  have h6 := RH_6 hH
  rw [f12_gap_e, k12_gap, mS_eq]
  change (bI (f12_isGuest p (m0 μ)) _) = _
  rw [s12_isGuest hH, bI_i]
  rcases inR_cases (n := hG (aH A)) (by omega) p with ⟨hp, hp'⟩ | ⟨j, hj, rfl, hp1, hp2, hp3⟩
  · simp only [mS_eq, vI_eq, vL_eq, bV_v, bI_i, bL_l, xrb_b, xrb_0, xrb_1, xite_eq, b2_t, b2_f, i10, b2_eq0, b2_eq1, Bool.and_true, Bool.true_and, Bool.false_and, Bool.not_true, Bool.not_false, ↓reduceIte, not_false_eq_true, not_true_eq_false, decide_true, decide_false, aGap, hp, Bool.false_eq_true]
  · rcases inR_cases (n := hG (aH A)) (by omega) q with ⟨hq, hq'⟩ | ⟨k, hk, rfl, hq1, hq2, hq3⟩
    · simp only [mS_eq, vI_eq, vL_eq, bV_v, bI_i, bL_l, xrb_b, xrb_0, xrb_1, xite_eq, b2_t, b2_f, i10, b2_eq0, b2_eq1, Bool.and_true, Bool.true_and, Bool.false_and, Bool.not_true, Bool.not_false, ↓reduceIte, not_false_eq_true, not_true_eq_false, decide_true, decide_false, s12_isGuest hH, aGap, hp3, hq, Bool.false_eq_true]
    · have k3 : (3 + nI j : Int32) = nI (0 + 3 + j) := by rw [L3, nI_add]
      have k3' : (3 + nI k : Int32) = nI (0 + 3 + k) := by rw [L3, nI_add]
      have x3 : xin (nI (0 + 3 + j)) 1081 = true := xin_t (by omega) (by omega)
      have x3' : xin (nI (0 + 3 + k)) 1081 = true := xin_t (by omega) (by omega)
      have q3 : (nI (0 + 3 + j)).toNatClampNeg = 0 + 3 + j := nI_clamp (by omega)
      have q3' : (nI (0 + 3 + k)).toNatClampNeg = 0 + 3 + k := nI_clamp (by omega)
      simp only [mS_eq, vI_eq, vL_eq, bV_v, bI_i, bL_l, xrb_b, xrb_0, xrb_1, xite_eq, b2_t, b2_f, i10, b2_eq0, b2_eq1, Bool.and_true, Bool.true_and, Bool.false_and, Bool.not_true, Bool.not_false, ↓reduceIte, not_false_eq_true, not_true_eq_false, decide_true, decide_false, s12_isGuest hH, aGap, hp3, hq3, k3, k3', xck_t x3, xck_t x3', q3, q3', (hS.1 j hj).1, (hS.1 k hk).1, nI_clamp (show k < 2 ^ 31 by omega), nI_clamp (show j < 2 ^ 31 by omega), xri_if, absI]
-- row, dense
theorem s12_manyAt {h : HS} {s : SS} (hH : RH h μ) (hS : RS 0 h s μ) (v : Int32) : f12_manyAt v μ = xri (nI (manyN h s v)) μ := by
  have h6 := RH_6 hH
  rw [f12_manyAt_e, k12_manyAt, vI_eq, vI_eq]
  refine lp_ct (F := fun n a k => h12_manyAt_4 n v a k μ) (c := fun g => isIn s g && decide (s 0 g = v)) (G := hG h) (R := fun a => xri a μ) ?_ ?_ (hG h) 0 20000 (by omega) (by omega)
  · intro n a
    simp only [h12_manyAt_4_s, s12_guests hH, mS_eq, vI_eq, vL_eq, bV_v, bI_i, bL_l, xrb_b, xrb_0, xrb_1, xite_eq, b2_t, b2_f, i10, b2_eq0, b2_eq1, Bool.and_true, Bool.true_and, Bool.false_and, Bool.not_true, Bool.not_false, ↓reduceIte, not_false_eq_true, not_true_eq_false, decide_true, decide_false, Int32.lt_irrefl]
  · intro n a k hk
    have h1 := nI_lt hk (show hG h < 2 ^ 31 by omega)
    have k3 : (3 + nI k : Int32) = nI (0 + 3 + k) := by rw [L3, nI_add]
    have x3 : xin (nI (0 + 3 + k)) 1081 = true := xin_t (by omega) (by omega)
    have q3 : (nI (0 + 3 + k)).toNatClampNeg = 0 + 3 + k := nI_clamp (by omega)
    have z : ∀ x : Int32, x + 0 = x := fun x => Int32.add_zero x
    simp only [h12_manyAt_4_s, s12_guests hH, mS_eq, vI_eq, vL_eq, bV_v, bI_i, bL_l, xrb_b, xrb_0, xrb_1, xite_eq, b2_t, b2_f, i10, b2_eq0, b2_eq1, Bool.and_true, Bool.true_and, Bool.false_and, Bool.not_true, Bool.not_false, ↓reduceIte, not_false_eq_true, not_true_eq_false, decide_true, decide_false, h1, s12_isIn hS (by omega) h6 B0 hk, k3, xck_t x3, q3, (hS.1 k hk).1, ← nI_succ, z]
    grind
theorem many_le (h : HS) (s : SS) (v : Int32) : manyN h s v ≤ hG h := ct_le _ _
def dnv (h : HS) (s : SS) (a : Option Nat) : Nat := match a with | none => 0 | some b => manyN h s (nI b)
theorem dnv_le (h : HS) (s : SS) (a : Option Nat) : dnv h s a ≤ hG h := by
  unfold dnv; split
  · exact Nat.zero_le _
  · exact many_le _ _ _
def dnst (h : HS) (s : SS) (k : Nat) (a : Option Nat) : Option Nat := if k = 0 then a else if dnv h s a < manyN h s (nI k) then some k else a
def dn (h : HS) (s : SS) : Option Nat := fo (dnst h s) none 10
theorem dn_lt (h : HS) (s : SS) : ∀ n b, fo (dnst h s) none n = some b → b < n
  | 0, b, e => by cases e
  | n + 1, b, e => by
    rw [fo, dnst] at e
    split at e
    · have := dn_lt h s n b e; omega
    · split at e
      · cases e; omega
      · have := dn_lt h s n b e; omega
def aRow (A : AS) : Int32 := nI (dnv (aH A) (aS A) (dn (aH A) (aS A)))
def aDense (A : AS) : Int32 := oI (dn (aH A) (aS A))
theorem c_row (hR : RC A μ) : f11_row μ = xri (aRow A) μ := by
  have hH := RC_H hR
  have hS := RC_S hR
  have h6 := CH_6 hH
  rw [f11_row_e, k11_row, vI_eq, vI_eq]
  refine lp_fok 1 (F := fun n a k => h11_row_4 n (nI (dnv (aH A) (aS A) a)) k μ) (st := dnst (aH A) (aS A)) (G := 10) (R := fun a => xri (nI (dnv (aH A) (aS A) a)) μ) ?_ ?_ none 9 1 20000 (by omega) (by omega) (by omega)
  · intro n a
    have e : (9 : Int32) < nI 10 := by decide
    simp only [h11_row_4_s, mS_eq, vI_eq, vL_eq, bV_v, bI_i, bL_l, xrb_b, xrb_0, xrb_1, xite_eq, b2_t, b2_f, i10, b2_eq0, b2_eq1, Bool.and_true, Bool.true_and, Bool.false_and, Bool.not_true, Bool.not_false, ↓reduceIte, not_false_eq_true, not_true_eq_false, decide_true, decide_false, e]
  · intro n a k h0 hk
    have e : ¬ (9 : Int32) < nI k := nI_nlt (a := 9) (b := k) (by omega) (by omega)
    have hl := dnv_le (aH A) (aS A) a
    have hm := many_le (aH A) (aS A) (nI k)
    have hk0 : ¬ k = 0 := by omega
    have hlt := nI_ltI (a := dnv (aH A) (aS A) a) (b := manyN (aH A) (aS A) (nI k)) (by omega) (by omega)
    simp only [h11_row_4_s, mS_eq, vI_eq, vL_eq, bV_v, bI_i, bL_l, xrb_b, xrb_0, xrb_1, xite_eq, b2_t, b2_f, i10, b2_eq0, b2_eq1, Bool.and_true, Bool.true_and, Bool.false_and, Bool.not_true, Bool.not_false, ↓reduceIte, not_false_eq_true, not_true_eq_false, decide_true, decide_false, e, s8_manyAt hH hS, ← nI_succ, dnst, hk0, hlt]
    by_cases hq : dnv (aH A) (aS A) a < manyN (aH A) (aS A) (nI k)
    · simp only [hq, ↓reduceIte]; rfl
    · simp only [hq, ↓reduceIte]
theorem c_dense (hR : RC A μ) : f11_dense μ = xri (aDense A) μ := by
  have hH := RC_H hR
  have hS := RC_S hR
  have h6 := CH_6 hH
  rw [f11_dense_e, k11_dense, vI_eq, vI_eq, vI_eq]
  refine lp_fok 1 (F := fun n a k => h11_dense_6 n (oI a) (nI (dnv (aH A) (aS A) a)) k μ) (st := dnst (aH A) (aS A)) (G := 10) (R := fun a => xri (oI a) μ) ?_ ?_ none 9 1 20000 (by omega) (by omega) (by omega)
  · intro n a
    have e : (9 : Int32) < nI 10 := by decide
    simp only [h11_dense_6_s, mS_eq, vI_eq, vL_eq, bV_v, bI_i, bL_l, xrb_b, xrb_0, xrb_1, xite_eq, b2_t, b2_f, i10, b2_eq0, b2_eq1, Bool.and_true, Bool.true_and, Bool.false_and, Bool.not_true, Bool.not_false, ↓reduceIte, not_false_eq_true, not_true_eq_false, decide_true, decide_false, e]
  · intro n a k h0 hk
    have e : ¬ (9 : Int32) < nI k := nI_nlt (a := 9) (b := k) (by omega) (by omega)
    have hl := dnv_le (aH A) (aS A) a
    have hm := many_le (aH A) (aS A) (nI k)
    have hk0 : ¬ k = 0 := by omega
    have hlt := nI_ltI (a := dnv (aH A) (aS A) a) (b := manyN (aH A) (aS A) (nI k)) (by omega) (by omega)
    simp only [h11_dense_6_s, mS_eq, vI_eq, vL_eq, bV_v, bI_i, bL_l, xrb_b, xrb_0, xrb_1, xite_eq, b2_t, b2_f, i10, b2_eq0, b2_eq1, Bool.and_true, Bool.true_and, Bool.false_and, Bool.not_true, Bool.not_false, ↓reduceIte, not_false_eq_true, not_true_eq_false, decide_true, decide_false, e, s8_manyAt hH hS, ← nI_succ, dnst, hk0, hlt]
    by_cases hq : dnv (aH A) (aS A) a < manyN (aH A) (aS A) (nI k)
    · simp only [hq, ↓reduceIte]; rfl
    · simp only [hq, ↓reduceIte]
theorem s12_denseNow {h : HS} {s : SS} (hH : RH h μ) (hS : RS 0 h s μ) : f12_denseNow μ = xri (oI (dn h s)) μ := by
  have h6 := RH_6 hH
  rw [f12_denseNow_e, k12_denseNow, vI_eq, vI_eq]
  have key := lp_foI (F := fun n (a : Option Nat) k => h12_denseNow_4 n (oI a) (k + 1) μ) (st := fun k a => dnst h s (k + 1) a) (G := 9) (R := fun a => xri (oI a) μ) (fun k a => ∀ b, a = some b → b < k + 1) ?_ ?_ none (fun b e => by cases e) 20000 (by omega)
  · have e1 : fo (fun k a => dnst h s (k + 1) a) none 9 = dn h s := by
      exact fo_shift (dnst h s) none rfl 9
    rw [e1] at key
    exact key
  · intro n a ha
    have e : nI 9 + 1 = nI 10 := (nI_succ 9).symm
    have e2 : ¬ nI 10 < (10 : Int32) := by decide
    simp only [h12_denseNow_4_s, e, mS_eq, vI_eq, vL_eq, bV_v, bI_i, bL_l, xrb_b, xrb_0, xrb_1, xite_eq, b2_t, b2_f, i10, b2_eq0, b2_eq1, Bool.and_true, Bool.true_and, Bool.false_and, Bool.not_true, Bool.not_false, ↓reduceIte, not_false_eq_true, not_true_eq_false, decide_true, decide_false, e2]
  · intro n a k hk ha
    have e2 : nI (k + 1) < (10 : Int32) := nI_lt (b := 10) (by omega) (by omega)
    have ho := oI_neg (a := a) (fun b hb => by have := ha b hb; omega)
    have hl := dnv_le h s a
    have hm := many_le h s (nI (k + 1))
    have hk0 : ¬ k + 1 = 0 := by omega
    refine ⟨fun b hb => ?_, ?_⟩
    · unfold dnst at hb
      rw [if_neg hk0] at hb
      split at hb
      · cases hb; omega
      · have := ha b hb; omega
    · have hlt := nI_ltI (a := dnv h s a) (b := manyN h s (nI (k + 1))) (by omega) (by omega)
      simp only [h12_denseNow_4_s, ← nI_succ, mS_eq, vI_eq, vL_eq, bV_v, bI_i, bL_l, xrb_b, xrb_0, xrb_1, xite_eq, b2_t, b2_f, i10, b2_eq0, b2_eq1, Bool.and_true, Bool.true_and, Bool.false_and, Bool.not_true, Bool.not_false, ↓reduceIte, not_false_eq_true, not_true_eq_false, decide_true, decide_false, e2, s12_manyAt hH hS, ho, dnst, hk0]
      cases a with
      | none =>
        have hlt' : ((0 : Int32) < nI (manyN h s (nI (k + 1)))) = (0 < manyN h s (nI (k + 1))) := propext hlt
        by_cases hq : 0 < manyN h s (nI (k + 1))
        · simp only [mS_eq, vI_eq, vL_eq, bV_v, bI_i, bL_l, xrb_b, xrb_0, xrb_1, xite_eq, b2_t, b2_f, i10, b2_eq0, b2_eq1, Bool.and_true, Bool.true_and, Bool.false_and, Bool.not_true, Bool.not_false, ↓reduceIte, not_false_eq_true, not_true_eq_false, decide_true, decide_false, hlt', dnv, oI, hq]
        · simp only [mS_eq, vI_eq, vL_eq, bV_v, bI_i, bL_l, xrb_b, xrb_0, xrb_1, xite_eq, b2_t, b2_f, i10, b2_eq0, b2_eq1, Bool.and_true, Bool.true_and, Bool.false_and, Bool.not_true, Bool.not_false, ↓reduceIte, not_false_eq_true, not_true_eq_false, decide_true, decide_false, hlt', dnv, oI, hq]
      | some b =>
        have hlt' : (nI (manyN h s (nI b)) < nI (manyN h s (nI (k + 1)))) = (manyN h s (nI b) < manyN h s (nI (k + 1))) := propext hlt
        by_cases hq : manyN h s (nI b) < manyN h s (nI (k + 1))
        · simp only [mS_eq, vI_eq, vL_eq, bV_v, bI_i, bL_l, xrb_b, xrb_0, xrb_1, xite_eq, b2_t, b2_f, i10, b2_eq0, b2_eq1, Bool.and_true, Bool.true_and, Bool.false_and, Bool.not_true, Bool.not_false, ↓reduceIte, not_false_eq_true, not_true_eq_false, decide_true, decide_false, hlt', dnv, oI, hq, reduceCtorEq]
        · simp only [mS_eq, vI_eq, vL_eq, bV_v, bI_i, bL_l, xrb_b, xrb_0, xrb_1, xite_eq, b2_t, b2_f, i10, b2_eq0, b2_eq1, Bool.and_true, Bool.true_and, Bool.false_and, Bool.not_true, Bool.not_false, ↓reduceIte, not_false_eq_true, not_true_eq_false, decide_true, decide_false, hlt', dnv, oI, hq, reduceCtorEq]
theorem m_row (hI : AI A) (hR : RM A μ) : f12_row μ = xri (aRow A) (m0 μ) := by
  have hR1 := m0_R hI hR
  have hH := RM_H hR1
  have hS := RM_S hR1
  have ho := oI_neg (a := dn (aH A) (aS A)) (fun b hb => by have := dn_lt (aH A) (aS A) 10 b hb; omega)
  rw [f12_row_e, k12_row, mS_eq]
  change (bI (f12_denseNow (m0 μ)) _) = _
  simp only [s12_denseNow hH hS, bI_i, ho, s12_manyAt hH hS, xite_eq, aRow]
  cases hd : dn (aH A) (aS A) with
  | none => simp only [↓reduceIte, dnv]; rfl
  | some b => simp only [↓reduceIte, dnv, oI, reduceCtorEq]
theorem m_dense (hI : AI A) (hR : RM A μ) : f12_dense μ = xri (aDense A) (m0 μ) := by
  have hR1 := m0_R hI hR
  rw [f12_dense_e, k12_dense, mS_eq]
  change (bI (f12_denseNow (m0 μ)) _) = _
  rw [s12_denseNow (RM_H hR1) (RM_S hR1), bI_i]; rfl
-- tight
def tgt (h : HS) (s : SS) (g : Nat) : Bool := isIn s g && (drn h g && decide (s 3 g = -1))
def aTight (A : AS) : Int32 := oI (lo (fun g => tgt (aH A) (aS A) g) (fun g => hf (aH A) 2 g - aS A 6 0) (hG (aH A)))
theorem c_tight (hR : RC A μ) : f11_tight μ = xri (aTight A) μ := by
  have hH := RC_H hR
  have hS := RC_S hR
  have h6 := CH_6 hH
  rw [f11_tight_e, k11_tight, vI_eq, vI_eq, vI_eq]
  refine lp_lo2 (F := fun n a l k => h11_tight_6 n a l k μ) (c := fun g => tgt (aH A) (aS A) g) (f := fun g => hf (aH A) 2 g - aS A 6 0) (G := hG (aH A)) (R := fun a => xri a μ) ?_ ?_ (hG (aH A)) 0 20000 (by omega) (by omega)
  · intro n a _
    simp only [h11_tight_6_s, CH_G hH, mS_eq, vI_eq, vL_eq, bV_v, bI_i, bL_l, xrb_b, xrb_0, xrb_1, xite_eq, b2_t, b2_f, i10, b2_eq0, b2_eq1, Bool.and_true, Bool.true_and, Bool.false_and, Bool.not_true, Bool.not_false, ↓reduceIte, not_false_eq_true, not_true_eq_false, decide_true, decide_false, Int32.lt_irrefl]
  · intro n a a2 k hk ha e2
    subst e2
    have ho := oI_m1 (a := a) (fun b hb => by have := ha b hb; omega)
    have h1 := nI_lt hk (show hG (aH A) < 2 ^ 31 by omega)
    have x1 : xin (nI k) 6 = true := xin_t (by omega) (by omega)
    have hr : inR (hG (aH A)) (nI k) = true := inR_t (by omega) hk
    simp only [h11_tight_6_s, CH_G hH, mS_eq, vI_eq, vL_eq, bV_v, bI_i, bL_l, xrb_b, xrb_0, xrb_1, xite_eq, b2_t, b2_f, i10, b2_eq0, b2_eq1, Bool.and_true, Bool.true_and, Bool.false_and, Bool.not_true, Bool.not_false, ↓reduceIte, not_false_eq_true, not_true_eq_false, decide_true, decide_false, h1, s8_isIn hH hS, s2_canDrown hH, hr, xck_t x1, nI_clamp (show k < 2 ^ 31 by omega), CS_be hS hk, CH_ch hH hk, CS_de hS, ho, ← nI_succ, tgt]
    cases a with
    | none => simp only [mS_eq, vI_eq, vL_eq, bV_v, bI_i, bL_l, xrb_b, xrb_0, xrb_1, xite_eq, b2_t, b2_f, i10, b2_eq0, b2_eq1, Bool.and_true, Bool.true_and, Bool.false_and, Bool.not_true, Bool.not_false, ↓reduceIte, not_false_eq_true, not_true_eq_false, decide_true, decide_false]; grind [oI, lov]
    | some b =>
      simp only [mS_eq, vI_eq, vL_eq, bV_v, bI_i, bL_l, xrb_b, xrb_0, xrb_1, xite_eq, b2_t, b2_f, i10, b2_eq0, b2_eq1, Bool.and_true, Bool.true_and, Bool.false_and, Bool.not_true, Bool.not_false, ↓reduceIte, not_false_eq_true, not_true_eq_false, decide_true, decide_false, oI, lov, reduceCtorEq]
      grind [oI, lov]
theorem m_tight (hI : AI A) (hR : RM A μ) : f12_tight μ = xri (aTight A) (m0 μ) := by
  have hR1 := m0_R hI hR
  have hH := RM_H hR1
  have hS := RM_S hR1
  have h6 := RH_6 hH
  have h5 := RH_5 hH
  have hlo : aTight A = oI (lo (fun g => tgt (aH A) (aS A) g) (fun g => hf (aH A) 2 g) (hG (aH A))) := by
    unfold aTight
    congr 1
    apply lo_cong (fun _ _ => rfl)
    intro j k hj hk _ _
    obtain ⟨d, d1, d2⟩ := (AI_S hI).2.2.2.2
    obtain ⟨x, x1, x2⟩ := ((AI_H hI).2.1 j hj).2.1
    obtain ⟨y, y1, y2⟩ := ((AI_H hI).2.1 k hk).2.1
    rw [d2, x2, y2, Int32.lt_iff_toInt_lt, pk_sub_toInt (by omega) (by omega), pk_sub_toInt (by omega) (by omega), nI_ltI (by omega) (by omega)]
    omega
  rw [hlo, f12_tight_e, k12_tight, mS_eq, vI_eq, vI_eq]
  refine lp_lo (F := fun n a k => h12_tight_9 (2 * n) a k (m0 μ)) (c := fun g => tgt (aH A) (aS A) g) (f := fun g => hf (aH A) 2 g) (G := hG (aH A)) (R := fun a => xri a (m0 μ)) ?_ ?_ (hG (aH A)) 0 10000 (by omega) (by omega)
  · intro n a _
    show h12_tight_9 (2 * n + 1 + 1) _ _ _ = _
    simp only [h12_tight_9_s, s12_guests hH, mS_eq, vI_eq, vL_eq, bV_v, bI_i, bL_l, xrb_b, xrb_0, xrb_1, xite_eq, b2_t, b2_f, i10, b2_eq0, b2_eq1, Bool.and_true, Bool.true_and, Bool.false_and, Bool.not_true, Bool.not_false, ↓reduceIte, not_false_eq_true, not_true_eq_false, decide_true, decide_false, Int32.lt_irrefl]
  · intro n a k hk ha
    show h12_tight_9 (2 * n + 1 + 1) _ _ _ = _
    have ho := oI_neg (a := a) (fun b hb => by have := ha b hb; omega)
    have h1 := nI_lt hk (show hG (aH A) < 2 ^ 31 by omega)
    have k3 : (15 + nI k : Int32) = nI (0 + 15 + k) := by rw [L15, nI_add]
    have x3 : xin (nI (0 + 15 + k)) 1081 = true := xin_t (by omega) (by omega)
    have q3 : (nI (0 + 15 + k)).toNatClampNeg = 0 + 15 + k := nI_clamp (by omega)
    simp only [h12_tight_9_s, s12_guests hH, mS_eq, vI_eq, vL_eq, bV_v, bI_i, bL_l, xrb_b, xrb_0, xrb_1, xite_eq, b2_t, b2_f, i10, b2_eq0, b2_eq1, Bool.and_true, Bool.true_and, Bool.false_and, Bool.not_true, Bool.not_false, ↓reduceIte, not_false_eq_true, not_true_eq_false, decide_true, decide_false, h1, s12_kd hH hk, s12_isIn hS (by omega) h6 B0 hk, k3, xck_t x3, q3, (hS.1 k hk).2.2.2, has_neg (AI_S hI) h5 hk, ← nI_succ, h12_tight_60_s, ho, s12_ch hH hk, tgt, drn]
    cases a with
    | none => simp only [mS_eq, vI_eq, vL_eq, bV_v, bI_i, bL_l, xrb_b, xrb_0, xrb_1, xite_eq, b2_t, b2_f, i10, b2_eq0, b2_eq1, Bool.and_true, Bool.true_and, Bool.false_and, Bool.not_true, Bool.not_false, ↓reduceIte, not_false_eq_true, not_true_eq_false, decide_true, decide_false]; grind [oI]
    | some b =>
      have hb := ha b rfl
      have hb' : b < hG (aH A) := by omega
      simp only [mS_eq, vI_eq, vL_eq, bV_v, bI_i, bL_l, xrb_b, xrb_0, xrb_1, xite_eq, b2_t, b2_f, i10, b2_eq0, b2_eq1, Bool.and_true, Bool.true_and, Bool.false_and, Bool.not_true, Bool.not_false, ↓reduceIte, not_false_eq_true, not_true_eq_false, decide_true, decide_false, oI, s12_ch hH hb', reduceCtorEq]
      grind [oI]
-- spare
def aSpare (A : AS) : Int32 := nI (bN (fun b => wl (aH A) (aS A) (nI b) && decide (fitsN (aH A) (aS A) b = 0)) (hB (aH A)))
theorem fits_0 {h : HS} {s : SS} {b : Nat} (h6 : hG h ≤ 6) : (nI (fitsN h s b) = 0) = (fitsN h s b = 0) := by
  have : fitsN h s b < 1024 := bN_lt' _ (by omega)
  exact propext (nI_eq (b := 0) (by omega) (by omega))
theorem c_spare (hR : RC A μ) : f11_spare μ = xri (aSpare A) μ := by
  have hH := RC_H hR
  have hS := RC_S hR
  have h6 := CH_6 hH
  have h5 := CH_5 hH
  rw [f11_spare_e, k11_spare, vI_eq, vI_eq]
  refine lp_bits (F := fun n a k => h11_spare_4 n a k μ) (c := fun b => wl (aH A) (aS A) (nI b) && decide (fitsN (aH A) (aS A) b = 0)) (G := hB (aH A)) (R := fun a => xri a μ) (by omega) ?_ ?_ (hB (aH A)) 0 20000 (by omega) (by omega)
  · intro n a
    simp only [h11_spare_4_s, CH_B hH, mS_eq, vI_eq, vL_eq, bV_v, bI_i, bL_l, xrb_b, xrb_0, xrb_1, xite_eq, b2_t, b2_f, i10, b2_eq0, b2_eq1, Bool.and_true, Bool.true_and, Bool.false_and, Bool.not_true, Bool.not_false, ↓reduceIte, not_false_eq_true, not_true_eq_false, decide_true, decide_false, Int32.lt_irrefl]
  · intro n a k hk
    have h1 := nI_lt hk (show hB (aH A) < 2 ^ 31 by omega)
    have hr : inR (hB (aH A)) (nI k) = true := inR_t (by omega) hk
    simp only [h11_spare_4_s, CH_B hH, mS_eq, vI_eq, vL_eq, bV_v, bI_i, bL_l, xrb_b, xrb_0, xrb_1, xite_eq, b2_t, b2_f, i10, b2_eq0, b2_eq1, Bool.and_true, Bool.true_and, Bool.false_and, Bool.not_true, Bool.not_false, ↓reduceIte, not_false_eq_true, not_true_eq_false, decide_true, decide_false, h1, s8_isOnWall hH hS, hr, s8_borneBy hH hS hk, fits_0 h6, or_bit _ (show k < 31 by omega), ← nI_succ]
    grind
theorem m_spare (hI : AI A) (hR : RM A μ) : f12_spare μ = xri (aSpare A) (m0 μ) := by
  have hR1 := m0_R hI hR
  have hH := RM_H hR1
  have hS := RM_S hR1
  have h6 := RH_6 hH
  have h5 := RH_5 hH
  rw [f12_spare_e, k12_spare, mS_eq, vI_eq, vI_eq]
  refine lp_bits (F := fun n a k => h12_spare_9 n a k (m0 μ)) (c := fun b => wl (aH A) (aS A) (nI b) && decide (fitsN (aH A) (aS A) b = 0)) (G := hB (aH A)) (R := fun a => xri a (m0 μ)) (by omega) ?_ ?_ (hB (aH A)) 0 20000 (by omega) (by omega)
  · intro n a
    simp only [h12_spare_9_s, s12_belts hH, mS_eq, vI_eq, vL_eq, bV_v, bI_i, bL_l, xrb_b, xrb_0, xrb_1, xite_eq, b2_t, b2_f, i10, b2_eq0, b2_eq1, Bool.and_true, Bool.true_and, Bool.false_and, Bool.not_true, Bool.not_false, ↓reduceIte, not_false_eq_true, not_true_eq_false, decide_true, decide_false, Int32.lt_irrefl]
  · intro n a k hk
    have h1 := nI_lt hk (show hB (aH A) < 2 ^ 31 by omega)
    simp only [h12_spare_9_s, s12_belts hH, mS_eq, vI_eq, vL_eq, bV_v, bI_i, bL_l, xrb_b, xrb_0, xrb_1, xite_eq, b2_t, b2_f, i10, b2_eq0, b2_eq1, Bool.and_true, Bool.true_and, Bool.false_and, Bool.not_true, Bool.not_false, ↓reduceIte, not_false_eq_true, not_true_eq_false, decide_true, decide_false, h1, s12_wall hH hS (AI_S hI) (by omega) B0, wall_t h5 hk, s12_fitsOf hH hS hk, fits_0 h6, or_bit _ (show k < 31 by omega), or_0, ← nI_succ]
    grind
-- count
def aCount (A : AS) (p : Int32) : Int32 := if p = 0 then nI (hG (aH A)) else if p = 1 then nI (hB (aH A)) else if p = 2 then nI (hM (aH A)) else if p = 3 then aS A 7 0 else if p = 4 then aS A 5 0 else if p = 5 then aS A 6 0 else if p = 6 then nI (who (aH A) (aS A) 0) else if p = 7 then nI (who (aH A) (aS A) 1) else if p = 8 then nI (who (aH A) (aS A) 2) else if p = 9 then nI (wall (aH A) (aS A)) else if p = 10 then nI (aE A).1 else if p = 11 then nI (aQ A).1 else if p = 12 then nI (aU A).1 else if p = 13 then nI (aT A).1 else -1
theorem c_count (hR : RC A μ) (p : Int32) : f11_count p μ = xri (aCount A p) μ := by
  have hH := RC_H hR
  have hS := RC_S hR
  obtain ⟨_, _, _, _, r5, ⟨nx, _, _, r6, _⟩, _, r8, r9⟩ := hR
  rw [f11_count_e, k11_count]
  simp only [mS_eq, vI_eq, vL_eq, bV_v, bI_i, bL_l, xrb_b, xrb_0, xrb_1, xite_eq, b2_t, b2_f, i10, b2_eq0, b2_eq1, Bool.and_true, Bool.true_and, Bool.false_and, Bool.not_true, Bool.not_false, ↓reduceIte, not_false_eq_true, not_true_eq_false, decide_true, decide_false, CH_G hH, CH_B hH, CH_M hH, CS_mi hS, CS_ga hS, CS_de hS, s8_whoIs hH hS, s8_wall hH hS, r5.1, r8.1, r6, r9.1, aCount, xri_if]
theorem m_count (hI : AI A) (hR : RM A μ) (p : Int32) : f12_count p μ = xri (aCount A p) (m0 μ) := by
  have hR1 := m0_R hI hR
  have hH := RM_H hR1
  have hS := RM_S hR1
  obtain ⟨_, _, _, _, r5, r6, _, r8, r9, _⟩ := hR1
  obtain ⟨g1, g2, g3, _, _⟩ := hH.2.1
  have t1 : Int32.toNatClampNeg 1 = 1 := rfl
  have t2 : Int32.toNatClampNeg 2 = 2 := rfl
  have t30 : Int32.toNatClampNeg 30 = 30 := rfl
  rw [f12_count_e, k12_count, mS_eq]
  unfold aCount
  change (xite (p = 0) (xck (xin p 120) (xri (aI (m0 μ) 12 0 10 p.toNatClampNeg) (m0 μ))) _) = _
  by_cases h0 : p = 0
  · subst h0; rw [xite_t rfl, if_pos rfl, xck_t (xin0 (by omega) (by omega)), nI_cl0, g1]
  rw [xite_f h0, if_neg h0]
  by_cases h1 : p = 1
  · subst h1; rw [xite_t rfl, if_pos rfl, xck_t (show xin 1 120 = true from xin_t (k := 1) (by omega) (by omega)), t1]; exact congrArg (fun x => xri x (m0 μ)) g2
  rw [xite_f h1, if_neg h1]
  by_cases h2 : p = 2
  · subst h2; rw [xite_t rfl, if_pos rfl, xck_t (show xin 2 120 = true from xin_t (k := 2) (by omega) (by omega)), t2]; exact congrArg (fun x => xri x (m0 μ)) g3
  rw [xite_f h2, if_neg h2]
  have e0 : (3 : Int32) - 3 = nI 0 := by decide
  have e1 : (4 : Int32) - 3 = nI 1 := by decide
  have e2 : (5 : Int32) - 3 = nI 2 := by decide
  have d0 : (6 : Int32) - 6 = 0 := by decide
  have d1 : (7 : Int32) - 6 = 1 := by decide
  have d2 : (8 : Int32) - 6 = 2 := by decide
  by_cases h3 : p = 3
  · subst h3; rw [xite_t rfl, if_pos rfl, e0, xck_t (xin_t (by omega) (by omega)), nI_clamp (by omega)]; exact congrArg (fun x => xri x (m0 μ)) hS.2.2.2.2
  rw [xite_f h3, if_neg h3]
  by_cases h4 : p = 4
  · subst h4; rw [xite_t rfl, if_pos rfl, e1, xck_t (xin_t (by omega) (by omega)), nI_clamp (by omega)]; exact congrArg (fun x => xri x (m0 μ)) hS.2.2.1
  rw [xite_f h4, if_neg h4]
  by_cases h5 : p = 5
  · subst h5; rw [xite_t rfl, if_pos rfl, e2, xck_t (xin_t (by omega) (by omega)), nI_clamp (by omega)]; exact congrArg (fun x => xri x (m0 μ)) hS.2.2.2.1
  rw [xite_f h5, if_neg h5]
  by_cases h6 : p = 6
  · subst h6; rw [xite_t rfl, if_pos rfl, d0]; change (bI (f12_who 0 0 (m0 μ)) _) = _; rw [s12_who hH hS (by omega) B0, bI_i]
  rw [xite_f h6, if_neg h6]
  by_cases h7 : p = 7
  · subst h7; rw [xite_t rfl, if_pos rfl, d1]; change (bI (f12_who 0 1 (m0 μ)) _) = _; rw [s12_who hH hS (by omega) B0, bI_i]
  rw [xite_f h7, if_neg h7]
  by_cases h8 : p = 8
  · subst h8; rw [xite_t rfl, if_pos rfl, d2]; change (bI (f12_who 0 2 (m0 μ)) _) = _; rw [s12_who hH hS (by omega) B0, bI_i]
  rw [xite_f h8, if_neg h8]
  by_cases h9 : p = 9
  · subst h9; rw [xite_t rfl, if_pos rfl]; change (bI (f12_wall 0 (m0 μ)) _) = _; rw [s12_wall hH hS (AI_S hI) (by omega) B0, bI_i]
  rw [xite_f h9, if_neg h9]
  by_cases h10 : p = 10
  · subst h10; rw [xite_t rfl, if_pos rfl, xck_t (xin0 (by omega) (by omega)), nI_cl0]; exact congrArg (fun x => xri x (m0 μ)) r5.1
  rw [xite_f h10, if_neg h10]
  by_cases h11 : p = 11
  · subst h11; rw [xite_t rfl, if_pos rfl, xck_t (show xin 30 1081 = true from xin_t (k := 30) (by omega) (by omega)), t30]; exact congrArg (fun x => xri x (m0 μ)) r8.1
  rw [xite_f h11, if_neg h11]
  by_cases h12 : p = 12
  · subst h12; rw [xite_t rfl, if_pos rfl]; exact congrArg (fun x => xri x (m0 μ)) r6.1
  rw [xite_f h12, if_neg h12]
  by_cases h13 : p = 13
  · subst h13; rw [xite_t rfl, if_pos rfl]; exact congrArg (fun x => xri x (m0 μ)) r9.1
  rw [xite_f h13, if_neg h13]
  rfl
end
