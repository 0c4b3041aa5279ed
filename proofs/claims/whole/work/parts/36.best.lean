/-! THE PURE PART: best, with -/
def fsome {α : Type} (f : Nat → Option α) : Nat → Nat → Option α
  | _, 0 => none
  | k, n + 1 => match f k with | some x => some x | none => fsome f (k + 1) n
/-- belts for the men from m on, d of them -/
def bsr (h : HS) (to : Nat → Int32) : Nat → Nat → Nat → Option (Nat → Int32)
  | 0, _, _ => some (fun _ => -1)
  | d + 1, m, l => if to m = -1 then (match bsr h to d (m + 1) l with | none => none | some y => some (upd y m (-1)))
    else fsome (fun b => if l.testBit b && brn h b (to m).toNatClampNeg then (match bsr h to d (m + 1) (clr l b) with | none => none | some y => some (upd y m (nI b))) else none) 0 (hB h)
abbrev GS : Type := Nat × (Nat → Int32) × (Nat → Int32)
def gsr (h : HS) (s : SS) : Nat → Nat → (Nat → Int32) → Nat → GS → GS
  | 0, _, to, tk, st => if st.1 ≤ pc tk then (match bsr h to (hM h) 0 (wall h s) with | none => st | some y => (pc tk + 1, to, y)) else st
  | d + 1, m, to, tk, st => gsr h s d (m + 1) (upd to m (-1)) tk (fo (fun g st => if !tk.testBit g && (cry h s g && rch h s m g) then gsr h s d (m + 1) (upd to m (nI g)) (tk ||| 2 ^ g) st else st) st (hG h))
theorem gsr_1 (h : HS) (s : SS) : ∀ d m to tk (st : GS), 1 ≤ st.1 ∧ st.1 ≤ 11 → 1 ≤ (gsr h s d m to tk st).1 ∧ (gsr h s d m to tk st).1 ≤ 11
  | 0, m, to, tk, st, h1 => by
    have hpc : pc tk ≤ 10 := ct_le _ _
    rw [gsr]
    split
    · split
      · exact h1
      · exact ⟨by show 1 ≤ pc tk + 1; omega, by show pc tk + 1 ≤ 11; omega⟩
    · exact h1
  | d + 1, m, to, tk, st, h1 => by
    rw [gsr]
    apply gsr_1 h s d
    generalize hG h = G
    induction G with
    | zero => exact h1
    | succ G ih =>
      rw [fo]
      split
      · exact gsr_1 h s d _ _ _ _ ih
      · exact ih
theorem clr_lt {l b : Nat} (hl : l < 32) : clr l b < 32 := Nat.lt_of_le_of_lt (clr_le l b) hl
def vto (h : HS) (to : Nat → Int32) (j : Nat) : Prop := to j = -1 ∨ ∃ g, g < hG h ∧ to j = nI g
def F6 (μ ν : XM) : Prop := ∀ t j, ¬ (t = 6 ∧ j = 0) → ν t j = μ t j
theorem F6_t {μ ν ξ : XM} (a : F6 μ ν) (b : F6 ν ξ) : F6 μ ξ := fun t j h => (b t j h).trans (a t j h)
def FB (m : Nat) (μ ν : XM) : Prop := F6 μ ν ∧ aI ν 6 0 5 = aI μ 6 0 5 ∧ aI ν 6 0 3 = aI μ 6 0 3 ∧ aI ν 6 0 4 = aI μ 6 0 4 ∧ rI ν 6 0 2 = rI μ 6 0 2 ∧ ∀ j, j < m → aI ν 6 0 6 j = aI μ 6 0 6 j
theorem FB_r {m : Nat} {μ : XM} : FB m μ μ := ⟨fun _ _ _ => rfl, rfl, rfl, rfl, rfl, fun _ _ => rfl⟩
theorem FB_t {m m' : Nat} {μ ν ξ : XM} (hm : m ≤ m') (a : FB m μ ν) (b : FB m' ν ξ) : FB m μ ξ :=
  ⟨F6_t a.1 b.1, b.2.1.trans a.2.1, b.2.2.1.trans a.2.2.1, b.2.2.2.1.trans a.2.2.2.1, b.2.2.2.2.1.trans a.2.2.2.2.1, fun j hj => (b.2.2.2.2.2 j (by omega)).trans (a.2.2.2.2.2 j hj)⟩
theorem FB_p {m q : Nat} {μ ν : XM} {x : Int32} (a : FB m μ ν) (hq : m ≤ q) : FB m μ (pI ν 6 0 6 q x) := by
  refine ⟨fun t j h => by rw [pI_ne h]; exact a.1 t j h, ?_, ?_, ?_, by rw [rI_pI]; exact a.2.2.2.2.1, fun j hj => ?_⟩
  · rw [pI, aI_wI]; simp only [show ¬ (5 = 6) by decide, and_false, ↓reduceIte]; exact a.2.1
  · rw [pI, aI_wI]; simp only [show ¬ (3 = 6) by decide, and_false, ↓reduceIte]; exact a.2.2.1
  · rw [pI, aI_wI]; simp only [show ¬ (4 = 6) by decide, and_false, ↓reduceIte]; exact a.2.2.2.1
  · rw [aI_pI]; simp only [show ¬ j = q by omega, and_false, ↓reduceIte]; exact a.2.2.2.2.2 j hj
section
variable {A : AS} {μ : XM}
theorem F6_Q {ν : XM} (a : F6 μ ν) : QC μ ν := fun t j _ _ h3 _ => a t j (fun h => h3 h.1)
theorem RC_6 {ν : XM} (hR : RC A μ) (a : F6 μ ν) : RC A ν := RC_q hR (F6_Q a) (LC_ob (a 4 0 (by omega)) (RC_L hR))
theorem c_belts (to : Nat → Int32) : ∀ dd m l dep ν, m + dd = hM (aH A) → dd < dep → l < 32 → RC A ν → (∀ j, m ≤ j → j < hM (aH A) → aI ν 6 0 5 j = to j ∧ vto (aH A) to j) →
    ∃ ξ, f6_chooseBelts 20000 dep (nI m) (nI l) ν = xri (b2 (bsr (aH A) to dd m l).isSome) ξ ∧ (∀ y, bsr (aH A) to dd m l = some y → ∀ j, m ≤ j → j < hM (aH A) → aI ξ 6 0 6 j = y j) ∧ FB m ν ξ := by
  intro dd
  induction dd with
  | zero =>
    intro m l dep ν e hd hl hR hto
    have h3 := CH_3 (RC_H hR)
    obtain ⟨dep, rfl⟩ : ∃ d', dep = d' + 1 := ⟨dep - 1, by omega⟩
    rw [f6_chooseBelts_s, CH_M (RC_H hR), xite_f (nI_nlt (by omega) (by omega))]
    exact ⟨ν, rfl, fun y _ j h1 h2 => by omega, FB_r⟩
  | succ dd ih =>
    intro m l dep ν e hd hl hR hto
    have hH := RC_H hR
    have h3 := CH_3 hH
    have h5 := CH_5 hH
    have h6 := CH_6 hH
    obtain ⟨dep, rfl⟩ : ∃ d', dep = d' + 1 := ⟨dep - 1, by omega⟩
    have hm3 : nI m < (3 : Int32) := nI_lt (b := 3) (by omega) (by omega)
    have km : (nI m).toNatClampNeg = m := nI_clamp (by omega)
    have xm : xin (nI m) 3 = true := xin_t (by omega) (by omega)
    have xm' : (xin (nI m) 3 && true) = true := xin_a (by omega) (by omega)
    obtain ⟨t1, t2⟩ := hto m (by omega) (by omega)
    rw [f6_chooseBelts_s, CH_M hH, xite_t (nI_lt (by omega) (by omega)), xite_t hm3, xck_t xm, km, t1, bsr]
    by_cases hn : to m = -1
    · have hR1 : RC A (pI ν 6 0 6 m (-1)) := RC_6 hR (fun t j h => pI_ne h)
      obtain ⟨ξ, d1, d2, d3⟩ := ih (m + 1) l dep (pI ν 6 0 6 m (-1)) (by omega) (by omega) hl hR1 (fun j h1 h2 => by
        have : aI (pI ν 6 0 6 m (-1)) 6 0 5 j = aI ν 6 0 5 j := by rw [aI_pI]; simp only [show ¬ (5 = 6) by decide, false_and, and_false, ↓reduceIte]
        rw [this]; exact hto j (by omega) h2)
      rw [xite_t hn, xck_t xm', mS_eq, ← nI_succ, d1, bI_i, xrb_b, if_pos hn]
      refine ⟨ξ, ?_, ?_, FB_t (Nat.le_succ m) (FB_p FB_r (Nat.le_refl m)) d3⟩
      · cases bsr (aH A) to dd (m + 1) l <;> rfl
      · intro y hy j h1 h2
        cases hb : bsr (aH A) to dd (m + 1) l with
        | none => rw [hb] at hy; cases hy
        | some y' =>
          rw [hb] at hy; cases hy
          by_cases ej : j = m
          · subst ej
            rw [pk_us, d3.2.2.2.2.2 j (by omega), aI_pI]; simp only [and_self, ↓reduceIte]
          · rw [pk_un ej]; exact d2 y' hb j (by omega) h2
    · obtain ⟨g, hg, eg⟩ : ∃ g, g < hG (aH A) ∧ to m = nI g := by rcases t2 with h | h; exact absurd h hn; exact h
      have kg : (to m).toNatClampNeg = g := by rw [eg]; exact nI_clamp (by omega)
      rw [xite_f hn, vI_eq, if_neg hn, kg]
      -- the belts
      have loop : ∀ d2 b n ν', b + d2 = hB (aH A) → d2 < n → FB m ν ν' →
          ∃ ξ, h6_chooseBelts_46 20000 dep n (nI m) (nI l) (nI b) ν' = xri (b2 (fsome (fun b => if l.testBit b && brn (aH A) b g then (match bsr (aH A) to dd (m + 1) (clr l b) with | none => none | some y => some (upd y m (nI b))) else none) b d2).isSome) ξ ∧
            (∀ y, fsome (fun b => if l.testBit b && brn (aH A) b g then (match bsr (aH A) to dd (m + 1) (clr l b) with | none => none | some y => some (upd y m (nI b))) else none) b d2 = some y → ∀ j, m ≤ j → j < hM (aH A) → aI ξ 6 0 6 j = y j) ∧ FB m ν ξ := by
        intro d2
        induction d2 with
        | zero =>
          intro b n ν' eb hn' hF
          obtain ⟨n, rfl⟩ : ∃ n', n = n' + 1 := ⟨n - 1, by omega⟩
          have hR' := RC_6 hR hF.1
          rw [h6_chooseBelts_46_s, CH_B (RC_H hR'), xite_f (nI_nlt (by omega) (by omega))]
          exact ⟨ν', rfl, fun y hy => (by cases hy), hF⟩
        | succ d2 ih2 =>
          intro b n ν' eb hn' hF
          obtain ⟨n, rfl⟩ : ∃ n', n = n' + 1 := ⟨n - 1, by omega⟩
          have hR' := RC_6 hR hF.1
          have hH' := RC_H hR'
          have t1' : aI ν' 6 0 5 m = nI g := by rw [hF.2.1, t1, eg]
          have hbr : f2_isBorne 0 (nI b) (nI g) ν' = xri (b2 (brn (aH A) b g)) ν' := by
            rw [s2_isBorne hH', inR_t (by omega) (by omega), inR_t (by omega) hg, nI_clamp (show b < 2 ^ 31 by omega), nI_clamp (show g < 2 ^ 31 by omega), Bool.true_and, Bool.true_and]
          rw [h6_chooseBelts_46_s, CH_B hH', xite_t (nI_lt (by omega) (by omega)), tst (show l < 2 ^ 31 by omega) (show b < 31 by omega), xck_t xm, km, t1', hbr, bI_i, vI_eq, ← nI_succ, fsome]
          by_cases hc : (l.testBit b && brn (aH A) b g) = true
          · obtain ⟨c1, c2⟩ := (Bool.and_eq_true _ _ |>.mp hc)
            have hR2 : RC A (pI ν' 6 0 6 m (nI b)) := RC_6 hR' (fun t j h => pI_ne h)
            obtain ⟨ξ, e1, e2, e3⟩ := ih (m + 1) (clr l b) dep (pI ν' 6 0 6 m (nI b)) (by omega) (by omega) (clr_lt hl) hR2 (fun j h1 h2 => by
              have : aI (pI ν' 6 0 6 m (nI b)) 6 0 5 j = aI ν' 6 0 5 j := by rw [aI_pI]; simp only [show ¬ (5 = 6) by decide, false_and, and_false, ↓reduceIte]
              rw [this, hF.2.1]; exact hto j (by omega) h2)
            have hF2 : FB m ν ξ := FB_t (Nat.le_succ m) (FB_p hF (Nat.le_refl m)) e3
            rw [c1, c2, xite_t (by decide), xite_f (by decide), xck_t xm', mS_eq, clr_I l (by omega) b (by omega), ← nI_succ, e1, bI_i, Bool.and_self, if_pos rfl]
            cases hb : bsr (aH A) to dd (m + 1) (clr l b) with
            | none =>
              rw [xite_t (by decide), vI_eq]
              exact ih2 (b + 1) n ξ (by omega) (by omega) hF2
            | some y' =>
              rw [xite_f (show ¬ (b2 (some y').isSome = 0) from (show ¬ (b2 true = 0) by decide))]
              refine ⟨ξ, rfl, ?_, hF2⟩
              intro y hy j h1 h2
              cases hy
              by_cases ej : j = m
              · subst ej
                rw [pk_us, e3.2.2.2.2.2 j (by omega), aI_pI]; simp only [and_self, ↓reduceIte]
              · rw [pk_un ej]; exact e2 y' hb j (by omega) h2
          · have hc' : (l.testBit b && brn (aH A) b g) = false := by simpa using hc
            rw [hc', if_neg (by decide)]
            have rest := ih2 (b + 1) n ν' (by omega) (by omega) hF
            by_cases c1 : l.testBit b = true
            · have c2 : brn (aH A) b g = false := by rw [c1] at hc'; simpa using hc'
              rw [c1, c2, xite_t (by decide), xite_t (by decide)]
              exact rest
            · have c1' : l.testBit b = false := by simpa using c1
              rw [c1', xite_f (by decide)]
              exact rest
      exact loop (hB (aH A)) 0 20000 ν (by omega) (by omega) FB_r
def Rep (A : AS) (st : GS) (ν : XM) : Prop := rI ν 6 0 2 = nI (st.1 - 1) ∧ ∀ j, j < hM (aH A) → aI ν 6 0 3 j = st.2.1 j ∧ aI ν 6 0 4 j = st.2.2 j
theorem c_keepTried (hR : RC A μ) {x : Nat} {to y : Nat → Int32} (h5 : ∀ j, j < hM (aH A) → aI μ 6 0 5 j = to j) (h6 : ∀ j, j < hM (aH A) → aI μ 6 0 6 j = y j) :
    ∃ ξ, f6_keepTried (nI x) μ = xrv ξ ∧ Rep A (x + 1, to, y) ξ ∧ F6 μ ξ ∧ aI ξ 6 0 5 = aI μ 6 0 5 := by
  have h3 := CH_3 (RC_H hR)
  rw [f6_keepTried_e, k6_keepTried, mS_eq, vI_eq]
  refine lp_rel (F := fun n ν k => h6_keepTried_7 n k ν) (fun k ν => F6 μ ν ∧ rI ν 6 0 2 = nI x ∧ aI ν 6 0 5 = aI μ 6 0 5 ∧ aI ν 6 0 6 = aI μ 6 0 6 ∧ ∀ j, j < k → aI ν 6 0 3 j = to j ∧ aI ν 6 0 4 j = y j) (Q := fun r => ∃ ξ, r = xrv ξ ∧ Rep A (x + 1, to, y) ξ ∧ F6 μ ξ ∧ aI ξ 6 0 5 = aI μ 6 0 5) (e := hM (aH A)) ?_ ?_ (hM (aH A)) 0 20000 (sI μ 6 0 2 (nI x)) (by omega) (by omega) ⟨fun t j h => sI_ne h, by simp [rI_sI, rI_sL, rI_wI, rI_wL, rI_pI, rI_pL, rL_sI, rL_sL, rL_wI, rL_wL, rL_pI, rL_pL, aI_sI, aI_sL, aI_wI, aI_wL, aI_pI, aI_pL, aL_sI, aL_sL, aL_wI, aL_wL, aL_pI, aL_pL], by rw [aI_sI], by rw [aI_sI], fun j hj => absurd hj (Nat.not_lt_zero j)⟩
  · intro n ν hJ
    obtain ⟨j1, j2, j3, j4, j5⟩ := hJ
    have hH := CH_ob (j1 2 0 (by omega)) (RC_H hR)
    rw [h6_keepTried_7_s, CH_M hH, xite_f Int32.lt_irrefl]
    exact ⟨ν, rfl, ⟨j2, j5⟩, j1, j3⟩
  · intro n ν k hk hJ
    obtain ⟨j1, j2, j3, j4, j5⟩ := hJ
    have hH := CH_ob (j1 2 0 (by omega)) (RC_H hR)
    have hk3 : nI k < (3 : Int32) := nI_lt (b := 3) (by omega) (by omega)
    have xk : xin (nI k) 3 = true := xin_t (by omega) (by omega)
    have xk' : (xin (nI k) 3 && true) = true := xin_a (by omega) (by omega)
    have kk : (nI k).toNatClampNeg = k := nI_clamp (by omega)
    rw [h6_keepTried_7_s, CH_M hH, xite_t (nI_lt hk (by omega)), xite_t hk3]
    simp only [xck_t xk, xck_t xk', mS_eq, vI_eq, kk, ← nI_succ]
    refine ⟨_, ⟨fun t j h => by rw [pI_ne h, pI_ne h]; exact j1 t j h, by rw [rI_pI, rI_pI]; exact j2, ?_, ?_, fun j hj => ?_⟩, rfl⟩
    · rw [pI, aI_wI, pI, aI_wI]; simp only [show ¬ (5 = 4) by decide, show ¬ (5 = 3) by decide, and_false, ↓reduceIte]; exact j3
    · rw [pI, aI_wI, pI, aI_wI]; simp only [show ¬ (6 = 4) by decide, show ¬ (6 = 3) by decide, and_false, ↓reduceIte]; exact j4
    · have e5 := h5 k hk
      have e6 := h6 k hk
      by_cases ej : j = k
      · subst ej
        simp [rI_sI, rI_sL, rI_wI, rI_wL, rI_pI, rI_pL, rL_sI, rL_sL, rL_wI, rL_wL, rL_pI, rL_pL, aI_sI, aI_sL, aI_wI, aI_wL, aI_pI, aI_pL, aL_sI, aL_sL, aL_wI, aL_wL, aL_pI, aL_pL, j3, j4, e5, e6]
      · have := j5 j (by omega)
        simp [rI_sI, rI_sL, rI_wI, rI_wL, rI_pI, rI_pL, rL_sI, rL_sL, rL_wI, rL_wL, rL_pI, rL_pL, aI_sI, aI_sL, aI_wI, aI_wL, aI_pI, aI_pL, aL_sI, aL_sL, aL_wI, aL_wL, aL_pI, aL_pL, ej, this]
theorem c_guests (hR0 : RC A μ) : ∀ dd m tk dep to (st : GS) ν, m + dd = hM (aH A) → dd < dep → tk < 64 → F6 μ ν → (∀ j, j < m → aI ν 6 0 5 j = to j ∧ vto (aH A) to j) → (1 ≤ st.1 ∧ st.1 ≤ 11) → Rep A st ν →
    ∃ ξ, f6_chooseGuests 20000 dep (nI m) (nI tk) ν = xrv ξ ∧ Rep A (gsr (aH A) (aS A) dd m to tk st) ξ ∧ F6 μ ξ ∧ ∀ j, j < m → aI ξ 6 0 5 j = aI ν 6 0 5 j := by
  have h3 := CH_3 (RC_H hR0)
  have h5 := CH_5 (RC_H hR0)
  have h6 := CH_6 (RC_H hR0)
  intro dd
  induction dd with
  | zero =>
    intro m tk dep to st ν e hd ht hF hto h1 hRp
    obtain ⟨dep, rfl⟩ : ∃ d', dep = d' + 1 := ⟨dep - 1, by omega⟩
    obtain rfl : m = hM (aH A) := by omega
    have hR := RC_6 hR0 hF
    have hpc : pc tk ≤ 10 := ct_le _ _
    have hw := bN_lt (fun b => wl (aH A) (aS A) (nI b)) (hB (aH A))
    have hw5 : (2 : Nat) ^ hB (aH A) ≤ 2 ^ 5 := Nat.pow_le_pow_right (by decide) h5
    have hw' : wall (aH A) (aS A) < 32 := by unfold wall; omega
    have hlt : (nI (st.1 - 1) < nI (pc tk)) = (st.1 ≤ pc tk) := by
      rw [nI_ltI (by omega) (by omega)]; apply propext; omega
    rw [f6_chooseGuests_s, CH_M (RC_H hR), xite_f Int32.lt_irrefl, h6_chooseGuests_16_s, sJ_bitCount (by omega), bI_i, hRp.1, hlt, gsr]
    by_cases hc : st.1 ≤ pc tk
    · obtain ⟨ξ, d1, d2, d3⟩ := c_belts to (hM (aH A)) 0 (wall (aH A) (aS A)) 64 ν (by omega) (by omega) hw' hR (fun j _ h2 => hto j h2)
      have d1' : f6_chooseBelts 20000 64 0 (nI (wall (aH A) (aS A))) ν = xri (b2 (bsr (aH A) to (hM (aH A)) 0 (wall (aH A) (aS A))).isSome) ξ := d1
      rw [xite_t hc, s8_wall (RC_H hR) (RC_S hR), bI_i, d1', bI_i, if_pos hc]
      cases hb : bsr (aH A) to (hM (aH A)) 0 (wall (aH A) (aS A)) with
      | none =>
        rw [xite_t (show b2 (none : Option (Nat → Int32)).isSome = 0 from rfl)]
        refine ⟨ξ, rfl, ⟨by rw [d3.2.2.2.2.1]; exact hRp.1, fun j hj => ?_⟩, F6_t hF d3.1, fun j hj => by rw [d3.2.1]⟩
        rw [d3.2.2.1, d3.2.2.2.1]; exact hRp.2 j hj
      | some y =>
        have hR2 := RC_6 hR d3.1
        obtain ⟨ζ, e1, e2, e3, e4⟩ := c_keepTried (x := pc tk) hR2 (to := to) (y := y) (fun j hj => by rw [d3.2.1]; exact (hto j hj).1) (fun j hj => d2 y hb j (Nat.zero_le j) hj)
        rw [xite_f (show ¬ b2 (some y).isSome = 0 from (show ¬ b2 true = 0 by decide)), sJ_bitCount (by omega), bI_i, e1, bV_v]
        exact ⟨ζ, rfl, e2, F6_t (F6_t hF d3.1) e3, fun j hj => by rw [e4, d3.2.1]⟩
    · rw [xite_f hc, if_neg hc]
      exact ⟨ν, rfl, hRp, hF, fun j _ => rfl⟩
  | succ dd ih =>
    intro m tk dep to st ν e hd ht hF hto h1 hRp
    obtain ⟨dep, rfl⟩ : ∃ d', dep = d' + 1 := ⟨dep - 1, by omega⟩
    have hm3 : nI m < (3 : Int32) := nI_lt (b := 3) (by omega) (by omega)
    have km : (nI m).toNatClampNeg = m := nI_clamp (by omega)
    have xm' : (xin (nI m) 3 && true) = true := xin_a (by omega) (by omega)
    have hrm : inR (hM (aH A)) (nI m) = true := inR_t (by omega) (by omega)
    -- one man more
    have sub : ∀ (x : Int32) tk' (st' : GS) ν', (x = -1 ∨ ∃ g, g < hG (aH A) ∧ x = nI g) → tk' < 64 → F6 μ ν' → (∀ j, j < m → aI ν' 6 0 5 j = to j) → (1 ≤ st'.1 ∧ st'.1 ≤ 11) → Rep A st' ν' →
        ∃ ξ, f6_chooseGuests 20000 dep (nI (m + 1)) (nI tk') (pI ν' 6 0 5 m x) = xrv ξ ∧ Rep A (gsr (aH A) (aS A) dd (m + 1) (upd to m x) tk' st') ξ ∧ F6 μ ξ ∧ ∀ j, j < m → aI ξ 6 0 5 j = to j := by
      intro x tk' st' ν' hx ht' hF' hto' h1' hRp'
      have hF2 : F6 μ (pI ν' 6 0 5 m x) := fun t j h => by rw [pI_ne h]; exact hF' t j h
      obtain ⟨ξ, d1, d2, d3, d4⟩ := ih (m + 1) tk' dep (upd to m x) st' (pI ν' 6 0 5 m x) (by omega) (by omega) ht' hF2 (fun j hj => by
        by_cases ej : j = m
        · subst ej
          rw [aI_pI]
          refine ⟨by simp only [and_self, ↓reduceIte, pk_us], ?_⟩
          unfold vto; rw [pk_us]; exact hx
        · rw [aI_pI]
          simp only [ej, and_false, ↓reduceIte]
          refine ⟨by rw [pk_un ej]; exact hto' j (by omega), ?_⟩
          unfold vto; rw [pk_un ej]; exact (hto j (by omega)).2) h1' (by
        refine ⟨by rw [rI_pI]; exact hRp'.1, fun j hj => ?_⟩
        rw [aI_pI, aI_pI]
        simp only [show ¬ (3 = 5) by decide, show ¬ (4 = 5) by decide, false_and, and_false, ↓reduceIte]
        exact hRp'.2 j hj)
      refine ⟨ξ, d1, d2, d3, fun j hj => ?_⟩
      rw [d4 j (by omega), aI_pI]
      simp only [show ¬ j = m by omega, and_false, ↓reduceIte]
      exact hto' j hj
    rw [f6_chooseGuests_s, CH_M (RC_H (RC_6 hR0 hF)), xite_t (nI_lt (by omega) (by omega)), xite_t hm3, vI_eq, gsr]
    refine lp_rel (F := fun n ν k => h6_chooseGuests_53 20000 dep n (nI m) (nI tk) k ν) (fun k ν' => F6 μ ν' ∧ (∀ j, j < m → aI ν' 6 0 5 j = to j) ∧ (1 ≤ (fo (fun g st => if !tk.testBit g && (cry (aH A) (aS A) g && rch (aH A) (aS A) m g) then gsr (aH A) (aS A) dd (m + 1) (upd to m (nI g)) (tk ||| 2 ^ g) st else st) st k).1 ∧ (fo (fun g st => if !tk.testBit g && (cry (aH A) (aS A) g && rch (aH A) (aS A) m g) then gsr (aH A) (aS A) dd (m + 1) (upd to m (nI g)) (tk ||| 2 ^ g) st else st) st k).1 ≤ 11) ∧ Rep A (fo (fun g st => if !tk.testBit g && (cry (aH A) (aS A) g && rch (aH A) (aS A) m g) then gsr (aH A) (aS A) dd (m + 1) (upd to m (nI g)) (tk ||| 2 ^ g) st else st) st k) ν')
      (Q := fun r => ∃ ξ, r = xrv ξ ∧ Rep A (gsr (aH A) (aS A) dd (m + 1) (upd to m (-1)) tk (fo (fun g st => if !tk.testBit g && (cry (aH A) (aS A) g && rch (aH A) (aS A) m g) then gsr (aH A) (aS A) dd (m + 1) (upd to m (nI g)) (tk ||| 2 ^ g) st else st) st (hG (aH A)))) ξ ∧ F6 μ ξ ∧ ∀ j, j < m → aI ξ 6 0 5 j = aI ν 6 0 5 j) (e := hG (aH A)) ?_ ?_ (hG (aH A)) 0 20000 ν (by omega) (by omega) ⟨hF, fun j hj => (hto j hj).1, h1, hRp⟩
    · intro n ν' hJ
      obtain ⟨j1, j2, j3, j4⟩ := hJ
      have hR' := RC_6 hR0 j1
      obtain ⟨ξ, d1, d2, d3, d4⟩ := sub (-1) tk _ ν' (.inl rfl) ht j1 j2 j3 j4
      rw [h6_chooseGuests_53_s, CH_G (RC_H hR'), xite_f Int32.lt_irrefl, xck_t xm', mS_eq, km, ← nI_succ, d1, bV_v]
      exact ⟨ξ, rfl, d2, d3, fun j hj => by rw [d4 j hj, (hto j hj).1]⟩
    · intro n ν' k hk hJ
      obtain ⟨j1, j2, j3, j4⟩ := hJ
      have hR' := RC_6 hR0 j1
      have hH' := RC_H hR'
      have hrk : inR (hG (aH A)) (nI k) = true := inR_t (by omega) hk
      have kk : (nI k).toNatClampNeg = k := nI_clamp (by omega)
      have hcry : f8_isCrying 0 (nI k) ν' = xri (b2 (cry (aH A) (aS A) k)) ν' := by
        rw [s8_isCrying hH' (RC_S hR'), hrk, kk, Bool.true_and]
      have hrch : f8_canReach 0 (nI m) (nI k) ν' = xri (b2 (rch (aH A) (aS A) m k)) ν' := by
        rw [s8_canReach hH' (RC_S hR'), hrm, hrk, kk, km, Bool.true_and, Bool.true_and]
      rw [h6_chooseGuests_53_s, CH_G hH', xite_t (nI_lt hk (by omega)), tst (show tk < 2 ^ 31 by omega) (show k < 31 by omega), b2_eq0, hcry, bI_i, vI_eq, ← nI_succ]
      by_cases hc : (!tk.testBit k && (cry (aH A) (aS A) k && rch (aH A) (aS A) m k)) = true
      · have hc' := hc
        simp only [Bool.and_eq_true, Bool.not_eq_true'] at hc'
        obtain ⟨c1, c2, c3⟩ := hc'
        have ht' : tk ||| 2 ^ k < 64 := Nat.or_lt_two_pow (n := 6) ht (Nat.pow_lt_pow_right (by decide) (by omega))
        obtain ⟨ξ, d1, d2, d3, d4⟩ := sub (nI k) (tk ||| 2 ^ k) _ ν' (.inr ⟨k, hk, rfl⟩) ht' j1 j2 j3 j4
        rw [xite_t c1, c2, xite_f (by decide), hrch, bI_i, c3, xite_f (by decide), xck_t xm', mS_eq, km, ← nI_succ, or_bit tk (show k < 31 by omega), d1, bV_v]
        refine ⟨ξ, ⟨d3, d4, ?_, ?_⟩, vI_eq _ _⟩
        · rw [fo, if_pos hc]; exact gsr_1 _ _ _ _ _ _ _ j3
        · rw [fo, if_pos hc]; exact d2
      · have hfo : ∀ st0 : GS, (if (!tk.testBit k && (cry (aH A) (aS A) k && rch (aH A) (aS A) m k)) = true then gsr (aH A) (aS A) dd (m + 1) (upd to m (nI k)) (tk ||| 2 ^ k) st0 else st0) = st0 := fun st0 => if_neg hc
        refine ⟨ν', ⟨j1, j2, ?_, ?_⟩, ?_⟩
        · rw [fo, hfo]; exact j3
        · rw [fo, hfo]; exact j4
        · by_cases c1 : tk.testBit k = false
          · rw [xite_t c1]
            by_cases c2 : cry (aH A) (aS A) k = true
            · have c3 : rch (aH A) (aS A) m k = false := by rw [c1, c2] at hc; simpa using hc
              rw [c2, xite_f (by decide), hrch, bI_i, c3, xite_t (by decide), vI_eq]
            · have c2' : cry (aH A) (aS A) k = false := by simpa using c2
              rw [c2', xite_t (by decide)]
          · rw [xite_f c1]
noncomputable def cres (A : AS) : GS := gsr (aH A) (aS A) (hM (aH A)) 0 (fun _ => -1) 0 (1, (fun _ => -1), fun _ => -1)
theorem c_plan (hR : RC A μ) : ∃ ξ, f6_plan μ = xrv ξ ∧ Rep A (cres A) ξ ∧ F6 μ ξ := by
  have h3 := CH_3 (RC_H hR)
  rw [f6_plan_e, k6_plan, mS_eq, vI_eq]
  refine lp_rel (F := fun n ν k => h6_plan_7 n k ν) (fun k ν => F6 μ ν ∧ rI ν 6 0 2 = nI 0 ∧ ∀ j, j < k → aI ν 6 0 3 j = -1 ∧ aI ν 6 0 4 j = -1) (Q := fun r => ∃ ξ, r = xrv ξ ∧ Rep A (cres A) ξ ∧ F6 μ ξ) (e := 3) ?_ ?_ 3 0 20000 (sI μ 6 0 2 0) (by omega) (by omega) ⟨fun t j h => sI_ne h, by simp [rI_sI, rI_sL, rI_wI, rI_wL, rI_pI, rI_pL, rL_sI, rL_sL, rL_wI, rL_wL, rL_pI, rL_pL, aI_sI, aI_sL, aI_wI, aI_wL, aI_pI, aI_pL, aL_sI, aL_sL, aL_wI, aL_wL, aL_pI, aL_pL, nI_0], fun j hj => absurd hj (Nat.not_lt_zero j)⟩
  · intro n ν hJ
    obtain ⟨j1, j2, j3⟩ := hJ
    obtain ⟨ξ, d1, d2, d3, _⟩ := c_guests hR (hM (aH A)) 0 0 64 (fun _ => -1) (1, (fun _ => -1), fun _ => -1) ν (by omega) (by omega) (by omega) j1 (fun j hj => absurd hj (Nat.not_lt_zero j)) ⟨Nat.le_refl 1, by decide⟩ ⟨j2, fun j hj => j3 j (by omega)⟩
    have d1' : f6_chooseGuests 20000 64 0 0 ν = xrv ξ := d1
    rw [h6_plan_7_s, xite_f (by decide), d1', bV_v]
    exact ⟨ξ, rfl, d2, d3⟩
  · intro n ν k hk hJ
    obtain ⟨j1, j2, j3⟩ := hJ
    have hk3 : nI k < (3 : Int32) := nI_lt (b := 3) (by omega) (by omega)
    have xk' : (xin (nI k) 3 && true) = true := xin_a (by omega) (by omega)
    have kk : (nI k).toNatClampNeg = k := nI_clamp (by omega)
    rw [h6_plan_7_s, xite_t hk3]
    simp only [xck_t xk', mS_eq, vI_eq, kk, ← nI_succ]
    refine ⟨_, ⟨fun t j h => by rw [pI_ne h, pI_ne h]; exact j1 t j h, by rw [rI_pI, rI_pI]; exact j2, fun j hj => ?_⟩, rfl⟩
    by_cases ej : j = k
    · subst ej; simp [rI_sI, rI_sL, rI_wI, rI_wL, rI_pI, rI_pL, rL_sI, rL_sL, rL_wI, rL_wL, rL_pI, rL_pL, aI_sI, aI_sL, aI_wI, aI_wL, aI_pI, aI_pL, aL_sI, aL_sL, aL_wI, aL_wL, aL_pI, aL_pL]
    · have := j3 j (by omega)
      simp [rI_sI, rI_sL, rI_wI, rI_wL, rI_pI, rI_pL, rL_sI, rL_sL, rL_wI, rL_wL, rL_pI, rL_pL, aI_sI, aI_sL, aI_wI, aI_wL, aI_pI, aI_pL, aL_sI, aL_sL, aL_wI, aL_wL, aL_pI, aL_pL, ej, this]
noncomputable def aBest (A : AS) (p : Int32) : Int32 := if p = -1 then nI ((cres A).1 - 1) else if inR (hM (aH A)) p then (cres A).2.1 p.toNatClampNeg else -2
noncomputable def aWith (A : AS) (p : Int32) : Int32 := if inR (hM (aH A)) p then (cres A).2.2 p.toNatClampNeg else -2
theorem c_best (hR : RC A μ) (p : Int32) : OKc A A μ (f11_best p μ) (aBest A p) := by
  have h3 := CH_3 (RC_H hR)
  obtain ⟨ξ, d1, d2, d3⟩ := c_plan hR
  have hend : ∀ x, OKc A A μ (xri x ξ) x := fun x => ⟨ξ, rfl, RC_6 hR d3, QC_11 (F6_Q d3)⟩
  rw [f11_best_e, k11_best, aBest]
  by_cases hp : p = -1
  · rw [xite_t hp, if_pos hp, h11_best_19_s, d1, bV_v, xite_t hp, d2.1]
    exact hend _
  · rw [xite_f hp, if_neg hp, s2_isMan (RC_H hR), bI_i]
    rcases inR_cases (n := hM (aH A)) (by omega) p with ⟨hq, _⟩ | ⟨m, hm, rfl, _, _, hp3⟩
    · rw [hq, xite_t (by decide)]; exact OKc_r hR
    · rw [hp3, xite_f (by decide), if_pos rfl, h11_best_19_s, d1, bV_v, xite_f hp, xck_t (xin_t (by omega) (by omega)), nI_clamp (by omega), (d2.2 m hm).1]
      exact hend _
theorem c_with (hR : RC A μ) (p : Int32) : OKc A A μ (f11_with p μ) (aWith A p) := by
  have h3 := CH_3 (RC_H hR)
  obtain ⟨ξ, d1, d2, d3⟩ := c_plan hR
  rw [f11_with_e, k11_with, aWith, s2_isMan (RC_H hR), bI_i]
  rcases inR_cases (n := hM (aH A)) (by omega) p with ⟨hq, _⟩ | ⟨m, hm, rfl, _, _, hp3⟩
  · rw [hq, xite_t (by decide)]; exact OKc_r hR
  · rw [hp3, xite_f (by decide), if_pos rfl, d1, bV_v, xck_t (xin_t (by omega) (by omega)), nI_clamp (by omega), (d2.2 m hm).2]
    exact ⟨ξ, rfl, RC_6 hR d3, QC_11 (F6_Q d3)⟩
end
