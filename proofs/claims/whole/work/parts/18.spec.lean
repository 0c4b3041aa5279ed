/-! THE PURE PART: what a house and a scene are, and the component's questions -/
abbrev HS : Type := (Nat × Nat × Nat) × (Nat → Nat → Int32) × List (Nat × Int32) × (Nat → Nat → List Nat)
abbrev SS : Type := Nat → Nat → Int32
def hG (h : HS) : Nat := h.1.1
def hB (h : HS) : Nat := h.1.2.1
def hM (h : HS) : Nat := h.1.2.2
/-- of the house: 0 kind, 1 place, 2 chin, 3 breath, 4 weight, 5 what a belt bears, 6 where a man is, 7 his reach, 8 holes, 9 water -/
def hf (h : HS) (j k : Nat) : Int32 := h.2.1 j k
def hC (h : HS) : List (Nat × Int32) := h.2.2.1
def hN (h : HS) : Nat → Nat → List Nat := h.2.2.2
-- of the scene: 0 place, 1 breath, 2 state, 3 belt, 4 done (of a man), 5 holes, 6 depth, 7 minute
def isIn (s : SS) (g : Nat) : Bool := decide (s 2 g = 0)
def drn (h : HS) (g : Nat) : Bool := decide (¬ hf h 0 g = 1) && decide (¬ hf h 0 g = 3)
def shb (h : HS) (g : Nat) : Bool := decide (hf h 0 g = 3)
def brn (h : HS) (b g : Nat) : Bool := decide (¬ hf h 5 b < hf h 4 g)
def good (h : HS) (s : SS) (g : Nat) : Bool := inR (hB h) (s 3 g) && brn h (s 3 g).toNatClampNeg g
def undr (h : HS) (s : SS) (g : Nat) : Bool := drn h g && (isIn s g && (decide (hf h 2 g < s 6 0) && !good h s g))
def want (h : HS) (s : SS) (g : Nat) : Bool := isIn s g && (decide (s 3 g = -1) && !shb h g)
def cry (h : HS) (s : SS) (g : Nat) : Bool := want h s g && decide (hf h 2 g < s 6 0)
def free (s : SS) (m : Nat) : Bool := decide (s 4 m = 0)
def absI (x : Int32) : Int32 := if x < 0 then -x else x
def rch (h : HS) (s : SS) (m g : Nat) : Bool := free s m && (want h s g && decide (¬ hf h 7 m < absI (hf h 6 m - s 0 g)))
def hold (h : HS) (s : SS) (w : Int32) : Int32 := fst (fun g => decide (s 3 g = w)) (-1) 0 (hG h)
def wl (h : HS) (s : SS) (w : Int32) : Bool := decide (hold h s w = -1)
def wall (h : HS) (s : SS) : Nat := bN (fun b => wl h s (nI b)) (hB h)
def who (h : HS) (s : SS) (v : Int32) : Nat := bN (fun g => decide (s 2 g = v)) (hG h)
def criers (h : HS) (s : SS) : Nat := bN (fun g => cry h s g) (hG h)
def fitsN (h : HS) (s : SS) (b : Nat) : Nat := bN (fun g => isIn s g && (!shb h g && brn h b g)) (hG h)
/-- the component's house i -/
def CH (i : Nat) (h : HS) (μ : XM) : Prop :=
  (hG h ≤ 6 ∧ hB h ≤ 5 ∧ hM h ≤ 3) ∧
  (rI μ 2 i 0 = nI (hG h) ∧ rI μ 2 i 1 = nI (hB h) ∧ rI μ 2 i 2 = nI (hM h) ∧ rI μ 2 i 3 = hf h 8 0 ∧ rI μ 2 i 4 = hf h 9 0) ∧
  (∀ g, g < hG h → aI μ 2 i 6 g = hf h 0 g ∧ aI μ 2 i 7 g = hf h 1 g ∧ aI μ 2 i 8 g = hf h 2 g ∧ aI μ 2 i 9 g = hf h 3 g ∧ aI μ 2 i 10 g = hf h 4 g) ∧
  (∀ b, b < hB h → aI μ 2 i 12 b = hf h 5 b) ∧
  (∀ m, m < hM h → aI μ 2 i 14 m = hf h 6 m ∧ aI μ 2 i 15 m = hf h 7 m)
/-- the component's scene i -/
def CS (i : Nat) (h : HS) (s : SS) (μ : XM) : Prop :=
  (∀ g, g < hG h → aI μ 8 i 1 g = s 0 g ∧ aI μ 8 i 2 g = s 1 g ∧ aI μ 8 i 3 g = s 2 g ∧ aI μ 8 i 4 g = s 3 g) ∧
  (∃ v, v < 8 ∧ rI μ 8 i 5 = nI v ∧ ∀ m, m < hM h → v.testBit m = !free s m) ∧
  (rI μ 8 i 6 = s 5 0 ∧ rI μ 8 i 7 = s 6 0 ∧ rI μ 8 i 8 = s 7 0)
theorem CH_ob {i : Nat} {h : HS} {μ ν : XM} (e : ν 2 i = μ 2 i) (hH : CH i h μ) : CH i h ν := by
  unfold CH at *
  simp only [rI_ob e, aI_ob e]
  exact hH
theorem CS_ob {i : Nat} {h : HS} {s : SS} {μ ν : XM} (e : ν 8 i = μ 8 i) (hH : CS i h s μ) : CS i h s ν := by
  unfold CS at *
  simp only [rI_ob e, aI_ob e]
  exact hH
section
variable {i : Nat} {h : HS} {s : SS} {μ : XM}
theorem CH_6 (hH : CH i h μ) : hG h ≤ 6 := hH.1.1
theorem CH_5 (hH : CH i h μ) : hB h ≤ 5 := hH.1.2.1
theorem CH_3 (hH : CH i h μ) : hM h ≤ 3 := hH.1.2.2
theorem CH_G (hH : CH i h μ) : rI μ 2 i 0 = nI (hG h) := hH.2.1.1
theorem CH_B (hH : CH i h μ) : rI μ 2 i 1 = nI (hB h) := hH.2.1.2.1
theorem CH_M (hH : CH i h μ) : rI μ 2 i 2 = nI (hM h) := hH.2.1.2.2.1
theorem CH_hg (hH : CH i h μ) : rI μ 2 i 3 = hf h 8 0 := hH.2.1.2.2.2.1
theorem CH_hw (hH : CH i h μ) : rI μ 2 i 4 = hf h 9 0 := hH.2.1.2.2.2.2
theorem CH_kd (hH : CH i h μ) {g : Nat} (hg : g < hG h) : aI μ 2 i 6 g = hf h 0 g := (hH.2.2.1 g hg).1
theorem CH_pl (hH : CH i h μ) {g : Nat} (hg : g < hG h) : aI μ 2 i 7 g = hf h 1 g := (hH.2.2.1 g hg).2.1
theorem CH_ch (hH : CH i h μ) {g : Nat} (hg : g < hG h) : aI μ 2 i 8 g = hf h 2 g := (hH.2.2.1 g hg).2.2.1
theorem CH_br (hH : CH i h μ) {g : Nat} (hg : g < hG h) : aI μ 2 i 9 g = hf h 3 g := (hH.2.2.1 g hg).2.2.2.1
theorem CH_we (hH : CH i h μ) {g : Nat} (hg : g < hG h) : aI μ 2 i 10 g = hf h 4 g := (hH.2.2.1 g hg).2.2.2.2
theorem CH_be (hH : CH i h μ) {g : Nat} (hg : g < hB h) : aI μ 2 i 12 g = hf h 5 g := hH.2.2.2.1 g hg
theorem CH_po (hH : CH i h μ) {g : Nat} (hg : g < hM h) : aI μ 2 i 14 g = hf h 6 g := (hH.2.2.2.2 g hg).1
theorem CH_re (hH : CH i h μ) {g : Nat} (hg : g < hM h) : aI μ 2 i 15 g = hf h 7 g := (hH.2.2.2.2 g hg).2
theorem CS_pl (hS : CS i h s μ) {g : Nat} (hg : g < hG h) : aI μ 8 i 1 g = s 0 g := (hS.1 g hg).1
theorem CS_br (hS : CS i h s μ) {g : Nat} (hg : g < hG h) : aI μ 8 i 2 g = s 1 g := (hS.1 g hg).2.1
theorem CS_st (hS : CS i h s μ) {g : Nat} (hg : g < hG h) : aI μ 8 i 3 g = s 2 g := (hS.1 g hg).2.2.1
theorem CS_be (hS : CS i h s μ) {g : Nat} (hg : g < hG h) : aI μ 8 i 4 g = s 3 g := (hS.1 g hg).2.2.2
theorem CS_ga (hS : CS i h s μ) : rI μ 8 i 6 = s 5 0 := hS.2.2.1
theorem CS_de (hS : CS i h s μ) : rI μ 8 i 7 = s 6 0 := hS.2.2.2.1
theorem CS_mi (hS : CS i h s μ) : rI μ 8 i 8 = s 7 0 := hS.2.2.2.2
-- questions to the house
theorem s2_isGuest (hH : CH i h μ) (p : Int32) : f2_isGuest i p μ = xri (b2 (inR (hG h) p)) μ := by
  rw [f2_isGuest_e, k2_isGuest, CH_G hH]
  simp only [mS_eq, vI_eq, vL_eq, bV_v, bI_i, bL_l, xrb_b, xrb_0, xrb_1, xite_eq, b2_t, b2_f, i10, b2_eq0, b2_eq1, Bool.and_true, Bool.true_and, Bool.false_and, Bool.not_true, Bool.not_false, ↓reduceIte, not_false_eq_true, not_true_eq_false, decide_true, decide_false, if_pos, if_neg, inR, xri_and, xri_dec]
  split <;> grind [b2, bI_i]
theorem s2_isBelt (hH : CH i h μ) (p : Int32) : f2_isBelt i p μ = xri (b2 (inR (hB h) p)) μ := by
  rw [f2_isBelt_e, k2_isBelt, CH_B hH]
  simp only [mS_eq, vI_eq, vL_eq, bV_v, bI_i, bL_l, xrb_b, xrb_0, xrb_1, xite_eq, b2_t, b2_f, i10, b2_eq0, b2_eq1, Bool.and_true, Bool.true_and, Bool.false_and, Bool.not_true, Bool.not_false, ↓reduceIte, not_false_eq_true, not_true_eq_false, decide_true, decide_false, if_pos, if_neg, inR, xri_and, xri_dec]
  split <;> grind [b2, bI_i]
theorem s2_isMan (hH : CH i h μ) (p : Int32) : f2_isMan i p μ = xri (b2 (inR (hM h) p)) μ := by
  rw [f2_isMan_e, k2_isMan, CH_M hH]
  simp only [mS_eq, vI_eq, vL_eq, bV_v, bI_i, bL_l, xrb_b, xrb_0, xrb_1, xite_eq, b2_t, b2_f, i10, b2_eq0, b2_eq1, Bool.and_true, Bool.true_and, Bool.false_and, Bool.not_true, Bool.not_false, ↓reduceIte, not_false_eq_true, not_true_eq_false, decide_true, decide_false, if_pos, if_neg, inR, xri_and, xri_dec]
  split <;> grind [b2, bI_i]
theorem s2_canDrown (hH : CH i h μ) (p : Int32) : f2_canDrown i p μ = xri (b2 (inR (hG h) p && drn h p.toNatClampNeg)) μ := by
  have h6 := CH_6 hH
  rw [f2_canDrown_e, k2_canDrown, CH_G hH]
  rcases inR_cases (n := hG h) (by omega) p with ⟨hp, hp'⟩ | ⟨j, hj, rfl, hp1, hp2, hp3⟩
  · rw [hp]; rcases hp' with hp' | hp'
    · simp only [mS_eq, vI_eq, vL_eq, bV_v, bI_i, bL_l, xrb_b, xrb_0, xrb_1, xite_eq, b2_t, b2_f, i10, b2_eq0, b2_eq1, Bool.and_true, Bool.true_and, Bool.false_and, Bool.not_true, Bool.not_false, ↓reduceIte, not_false_eq_true, not_true_eq_false, decide_true, decide_false, if_pos, if_neg, hp']
    · by_cases h0 : p < 0
      · simp only [mS_eq, vI_eq, vL_eq, bV_v, bI_i, bL_l, xrb_b, xrb_0, xrb_1, xite_eq, b2_t, b2_f, i10, b2_eq0, b2_eq1, Bool.and_true, Bool.true_and, Bool.false_and, Bool.not_true, Bool.not_false, ↓reduceIte, not_false_eq_true, not_true_eq_false, decide_true, decide_false, if_pos, if_neg, h0]
      · simp only [mS_eq, vI_eq, vL_eq, bV_v, bI_i, bL_l, xrb_b, xrb_0, xrb_1, xite_eq, b2_t, b2_f, i10, b2_eq0, b2_eq1, Bool.and_true, Bool.true_and, Bool.false_and, Bool.not_true, Bool.not_false, ↓reduceIte, not_false_eq_true, not_true_eq_false, decide_true, decide_false, if_pos, if_neg, h0, hp']
  · simp (disch := (first | assumption | omega)) only [mS_eq, vI_eq, vL_eq, bV_v, bI_i, bL_l, xrb_b, xrb_0, xrb_1, xite_eq, b2_t, b2_f, i10, b2_eq0, b2_eq1, Bool.and_true, Bool.true_and, Bool.false_and, Bool.not_true, Bool.not_false, ↓reduceIte, not_false_eq_true, not_true_eq_false, decide_true, decide_false, if_pos, if_neg, xck_if, xin_t, nI_clamp, hp1, hp2, hp3, CH_kd hH hj, drn, xri_and, xri_dec]
    repeat' split
    all_goals grind [b2, bI_i]
theorem s2_isShabby (hH : CH i h μ) (p : Int32) : f2_isShabby i p μ = xri (b2 (inR (hG h) p && shb h p.toNatClampNeg)) μ := by
  have h6 := CH_6 hH
  rw [f2_isShabby_e, k2_isShabby, CH_G hH]
  rcases inR_cases (n := hG h) (by omega) p with ⟨hp, hp'⟩ | ⟨j, hj, rfl, hp1, hp2, hp3⟩
  · rw [hp]; rcases hp' with hp' | hp'
    · simp only [mS_eq, vI_eq, vL_eq, bV_v, bI_i, bL_l, xrb_b, xrb_0, xrb_1, xite_eq, b2_t, b2_f, i10, b2_eq0, b2_eq1, Bool.and_true, Bool.true_and, Bool.false_and, Bool.not_true, Bool.not_false, ↓reduceIte, not_false_eq_true, not_true_eq_false, decide_true, decide_false, if_pos, if_neg, hp']
    · by_cases h0 : p < 0
      · simp only [mS_eq, vI_eq, vL_eq, bV_v, bI_i, bL_l, xrb_b, xrb_0, xrb_1, xite_eq, b2_t, b2_f, i10, b2_eq0, b2_eq1, Bool.and_true, Bool.true_and, Bool.false_and, Bool.not_true, Bool.not_false, ↓reduceIte, not_false_eq_true, not_true_eq_false, decide_true, decide_false, if_pos, if_neg, h0]
      · simp only [mS_eq, vI_eq, vL_eq, bV_v, bI_i, bL_l, xrb_b, xrb_0, xrb_1, xite_eq, b2_t, b2_f, i10, b2_eq0, b2_eq1, Bool.and_true, Bool.true_and, Bool.false_and, Bool.not_true, Bool.not_false, ↓reduceIte, not_false_eq_true, not_true_eq_false, decide_true, decide_false, if_pos, if_neg, h0, hp']
  · simp (disch := (first | assumption | omega)) only [mS_eq, vI_eq, vL_eq, bV_v, bI_i, bL_l, xrb_b, xrb_0, xrb_1, xite_eq, b2_t, b2_f, i10, b2_eq0, b2_eq1, Bool.and_true, Bool.true_and, Bool.false_and, Bool.not_true, Bool.not_false, ↓reduceIte, not_false_eq_true, not_true_eq_false, decide_true, decide_false, if_pos, if_neg, xck_if, xin_t, nI_clamp, hp1, hp2, hp3, CH_kd hH hj, shb, xri_and, xri_dec]
theorem s2_isBorne (hH : CH i h μ) (p q : Int32) : f2_isBorne i p q μ = xri (b2 (inR (hB h) p && (inR (hG h) q && brn h p.toNatClampNeg q.toNatClampNeg))) μ := by
  have h6 := CH_6 hH
  have h5 := CH_5 hH
  rw [f2_isBorne_e, k2_isBorne, CH_G hH, CH_B hH]
  rcases inR_cases (n := hB h) (by omega) p with ⟨hp, hp'⟩ | ⟨j, hj, rfl, hp1, hp2, hp3⟩
  · rw [hp]; rcases hp' with hp' | hp'
    · simp only [mS_eq, vI_eq, vL_eq, bV_v, bI_i, bL_l, xrb_b, xrb_0, xrb_1, xite_eq, b2_t, b2_f, i10, b2_eq0, b2_eq1, Bool.and_true, Bool.true_and, Bool.false_and, Bool.not_true, Bool.not_false, ↓reduceIte, not_false_eq_true, not_true_eq_false, decide_true, decide_false, if_pos, if_neg, hp']
    · by_cases h0 : p < 0
      · simp only [mS_eq, vI_eq, vL_eq, bV_v, bI_i, bL_l, xrb_b, xrb_0, xrb_1, xite_eq, b2_t, b2_f, i10, b2_eq0, b2_eq1, Bool.and_true, Bool.true_and, Bool.false_and, Bool.not_true, Bool.not_false, ↓reduceIte, not_false_eq_true, not_true_eq_false, decide_true, decide_false, if_pos, if_neg, h0]
      · simp only [mS_eq, vI_eq, vL_eq, bV_v, bI_i, bL_l, xrb_b, xrb_0, xrb_1, xite_eq, b2_t, b2_f, i10, b2_eq0, b2_eq1, Bool.and_true, Bool.true_and, Bool.false_and, Bool.not_true, Bool.not_false, ↓reduceIte, not_false_eq_true, not_true_eq_false, decide_true, decide_false, if_pos, if_neg, h0, hp']
  · rcases inR_cases (n := hG h) (by omega) q with ⟨hq, hq'⟩ | ⟨k, hk, rfl, hq1, hq2, hq3⟩
    · rw [hq]; rcases hq' with hq' | hq'
      · simp only [mS_eq, vI_eq, vL_eq, bV_v, bI_i, bL_l, xrb_b, xrb_0, xrb_1, xite_eq, b2_t, b2_f, i10, b2_eq0, b2_eq1, Bool.and_true, Bool.true_and, Bool.false_and, Bool.not_true, Bool.not_false, ↓reduceIte, not_false_eq_true, not_true_eq_false, decide_true, decide_false, if_pos, if_neg, hq', hp1, hp2, hp3]
      · by_cases h0 : q < 0
        · simp only [mS_eq, vI_eq, vL_eq, bV_v, bI_i, bL_l, xrb_b, xrb_0, xrb_1, xite_eq, b2_t, b2_f, i10, b2_eq0, b2_eq1, Bool.and_true, Bool.true_and, Bool.false_and, Bool.not_true, Bool.not_false, ↓reduceIte, not_false_eq_true, not_true_eq_false, decide_true, decide_false, if_pos, if_neg, h0, hp1, hp2, hp3]
        · simp only [mS_eq, vI_eq, vL_eq, bV_v, bI_i, bL_l, xrb_b, xrb_0, xrb_1, xite_eq, b2_t, b2_f, i10, b2_eq0, b2_eq1, Bool.and_true, Bool.true_and, Bool.false_and, Bool.not_true, Bool.not_false, ↓reduceIte, not_false_eq_true, not_true_eq_false, decide_true, decide_false, if_pos, if_neg, h0, hq', hp1, hp2, hp3]
    · simp (disch := (first | assumption | omega)) only [mS_eq, vI_eq, vL_eq, bV_v, bI_i, bL_l, xrb_b, xrb_0, xrb_1, xite_eq, b2_t, b2_f, i10, b2_eq0, b2_eq1, Bool.and_true, Bool.true_and, Bool.false_and, Bool.not_true, Bool.not_false, ↓reduceIte, not_false_eq_true, not_true_eq_false, decide_true, decide_false, if_pos, if_neg, xck_if, xin_t, nI_clamp, hp1, hp2, hp3, hq1, hq2, hq3, CH_be hH hj, CH_we hH hk, brn, xri_dec]
      split <;> grind [b2, bI_i]
-- questions to the scene
theorem s8_isIn (hH : CH 0 h μ) (hS : CS i h s μ) (p : Int32) : f8_isIn i p μ = xri (b2 (inR (hG h) p && isIn s p.toNatClampNeg)) μ := by
  have h6 := CH_6 hH
  rw [f8_isIn_e, k8_isIn, s2_isGuest hH]
  rcases inR_cases (n := hG h) (by omega) p with ⟨hp, hp'⟩ | ⟨j, hj, rfl, hp1, hp2, hp3⟩
  · simp only [mS_eq, vI_eq, vL_eq, bV_v, bI_i, bL_l, xrb_b, xrb_0, xrb_1, xite_eq, b2_t, b2_f, i10, b2_eq0, b2_eq1, Bool.and_true, Bool.true_and, Bool.false_and, Bool.not_true, Bool.not_false, ↓reduceIte, not_false_eq_true, not_true_eq_false, decide_true, decide_false, if_pos, if_neg, hp]
  · simp (disch := (first | assumption | omega)) only [mS_eq, vI_eq, vL_eq, bV_v, bI_i, bL_l, xrb_b, xrb_0, xrb_1, xite_eq, b2_t, b2_f, i10, b2_eq0, b2_eq1, Bool.and_true, Bool.true_and, Bool.false_and, Bool.not_true, Bool.not_false, ↓reduceIte, not_false_eq_true, not_true_eq_false, decide_true, decide_false, if_pos, if_neg, xck_if, xin_t, nI_clamp, hp3, CS_st hS hj, if_neg, isIn, xri_and, xri_dec]
    repeat' split
    all_goals grind [b2, bI_i]
theorem s8_isInState (hH : CH 0 h μ) (hS : CS i h s μ) (p v : Int32) : f8_isInState i p v μ = xri (b2 (inR (hG h) p && decide (s 2 p.toNatClampNeg = v))) μ := by
  have h6 := CH_6 hH
  rw [f8_isInState_e, k8_isInState, s2_isGuest hH]
  rcases inR_cases (n := hG h) (by omega) p with ⟨hp, hp'⟩ | ⟨j, hj, rfl, hp1, hp2, hp3⟩
  · simp only [mS_eq, vI_eq, vL_eq, bV_v, bI_i, bL_l, xrb_b, xrb_0, xrb_1, xite_eq, b2_t, b2_f, i10, b2_eq0, b2_eq1, Bool.and_true, Bool.true_and, Bool.false_and, Bool.not_true, Bool.not_false, ↓reduceIte, not_false_eq_true, not_true_eq_false, decide_true, decide_false, if_pos, if_neg, hp]
  · simp (disch := (first | assumption | omega)) only [mS_eq, vI_eq, vL_eq, bV_v, bI_i, bL_l, xrb_b, xrb_0, xrb_1, xite_eq, b2_t, b2_f, i10, b2_eq0, b2_eq1, Bool.and_true, Bool.true_and, Bool.false_and, Bool.not_true, Bool.not_false, ↓reduceIte, not_false_eq_true, not_true_eq_false, decide_true, decide_false, if_pos, if_neg, xck_if, xin_t, nI_clamp, hp3, CS_st hS hj, if_neg, xri_and, xri_dec]
    repeat' split
    all_goals grind [b2, bI_i]
theorem s8_isUnder (hH : CH 0 h μ) (hS : CS i h s μ) (p : Int32) : f8_isUnder i p μ = xri (b2 (inR (hG h) p && undr h s p.toNatClampNeg)) μ := by
  have h6 := CH_6 hH
  rw [f8_isUnder_e, k8_isUnder, s2_canDrown hH]
  rcases inR_cases (n := hG h) (by omega) p with ⟨hp, hp'⟩ | ⟨j, hj, rfl, hp1, hp2, hp3⟩
  · simp only [mS_eq, vI_eq, vL_eq, bV_v, bI_i, bL_l, xrb_b, xrb_0, xrb_1, xite_eq, b2_t, b2_f, i10, b2_eq0, b2_eq1, Bool.and_true, Bool.true_and, Bool.false_and, Bool.not_true, Bool.not_false, ↓reduceIte, not_false_eq_true, not_true_eq_false, decide_true, decide_false, if_pos, if_neg, hp]
  · simp (disch := (first | assumption | omega)) only [mS_eq, vI_eq, vL_eq, bV_v, bI_i, bL_l, xrb_b, xrb_0, xrb_1, xite_eq, b2_t, b2_f, i10, b2_eq0, b2_eq1, Bool.and_true, Bool.true_and, Bool.false_and, Bool.not_true, Bool.not_false, ↓reduceIte, not_false_eq_true, not_true_eq_false, decide_true, decide_false, if_pos, if_neg, xck_if, xin_t, nI_clamp, hp3, CS_st hS hj, CS_be hS hj, CH_ch hH hj, CS_de hS, s2_isBorne hH, if_neg, undr, isIn, good, xri_and, xri_dec]
    repeat' split
    all_goals grind [b2, bI_i]
theorem s8_whoIs (hH : CH 0 h μ) (hS : CS i h s μ) (v : Int32) : f8_whoIs i v μ = xri (nI (who h s v)) μ := by
  have h6 := CH_6 hH
  rw [f8_whoIs_e, k8_whoIs, vI_eq, vI_eq]
  refine lp_bits (F := fun n a k => h8_whoIs_4 n i v a k μ) (c := fun g => decide (s 2 g = v)) (G := hG h) (R := fun a => xri a μ) (by omega) ?_ ?_ (hG h) 0 20000 (by omega) (by omega)
  · intro n a
    simp only [h8_whoIs_4_s, CH_G hH, mS_eq, vI_eq, vL_eq, bV_v, bI_i, bL_l, xrb_b, xrb_0, xrb_1, xite_eq, b2_t, b2_f, i10, b2_eq0, b2_eq1, Bool.and_true, Bool.true_and, Bool.false_and, Bool.not_true, Bool.not_false, ↓reduceIte, not_false_eq_true, not_true_eq_false, decide_true, decide_false, if_pos, if_neg, Int32.lt_irrefl]
  · intro n a k hk
    simp (disch := (first | assumption | omega)) only [h8_whoIs_4_s, CH_G hH, mS_eq, vI_eq, vL_eq, bV_v, bI_i, bL_l, xrb_b, xrb_0, xrb_1, xite_eq, b2_t, b2_f, i10, b2_eq0, b2_eq1, Bool.and_true, Bool.true_and, Bool.false_and, Bool.not_true, Bool.not_false, ↓reduceIte, not_false_eq_true, not_true_eq_false, decide_true, decide_false, if_pos, if_neg, nI_lt, xck_if, xin_t, nI_clamp, CS_st hS hk, or_bit, ← nI_succ]
    by_cases e : s 2 k = v <;> simp [e]
end
