/-! THE PURE PART: the reference's questions -/
/-- the reference's house -/
def RH (h : HS) (μ : XM) : Prop :=
  (hG h ≤ 6 ∧ hB h ≤ 5 ∧ hM h ≤ 3) ∧
  (aI μ 12 0 10 0 = nI (hG h) ∧ aI μ 12 0 10 1 = nI (hB h) ∧ aI μ 12 0 10 2 = nI (hM h) ∧ aI μ 12 0 10 3 = hf h 8 0 ∧ aI μ 12 0 10 4 = hf h 9 0) ∧
  (∀ g, g < hG h → aI μ 12 0 10 (6 + 5 * g + 0) = hf h 0 g ∧ aI μ 12 0 10 (6 + 5 * g + 1) = hf h 1 g ∧ aI μ 12 0 10 (6 + 5 * g + 2) = hf h 2 g ∧ aI μ 12 0 10 (6 + 5 * g + 3) = hf h 3 g ∧ (aI μ 12 0 10 (6 + 5 * g + 4) + (if hf h 0 g = 2 then 5 else 0) = hf h 4 g)) ∧
  (∀ b, b < hB h → aI μ 12 0 10 (36 + b) = hf h 5 b) ∧
  (∀ m, m < hM h → aI μ 12 0 10 (41 + 2 * m + 0) = hf h 6 m ∧ aI μ 12 0 10 (41 + 2 * m + 1) = hf h 7 m)
/-- its law -/
def RL (l : List (Nat × Int32)) (μ : XM) : Prop :=
  (l = [] ∧ aI μ 12 0 10 5 = -1) ∨ (l ≠ [] ∧ aI μ 12 0 10 5 = nI 0 ∧ (∀ k, (hk : k < l.length) → aI μ 12 0 11 k = nI l[k].1 ∧ aI μ 12 0 12 k = l[k].2) ∧ aI μ 12 0 11 l.length = 0)
/-- its scene at b -/
def RS (b : Nat) (h : HS) (s : SS) (μ : XM) : Prop :=
  (∀ g, g < hG h → aI μ 12 0 24 (b + 3 + g) = s 0 g ∧ aI μ 12 0 24 (b + 9 + g) = s 1 g ∧ aI μ 12 0 24 (b + 21 + g) = s 2 g ∧ aI μ 12 0 24 (b + 15 + g) = s 3 g) ∧
  (∀ m, m < hM h → aI μ 12 0 24 (b + 27 + m) = s 4 m) ∧
  (aI μ 12 0 24 (b + 1) = s 5 0 ∧ aI μ 12 0 24 (b + 2) = s 6 0 ∧ aI μ 12 0 24 (b + 0) = s 7 0)
/-- only the scene at b, and the rows of facts and of the pile, are other -/
def FX (lo hi : Nat) (μ ν : XM) : Prop :=
  (∀ t j, ¬ (t = 12 ∧ j = 0) → ν t j = μ t j) ∧ (∀ j, rI ν 12 0 j = rI μ 12 0 j) ∧ (∀ j, rL ν 12 0 j = rL μ 12 0 j) ∧
  (∀ j, j ≠ 22 → j ≠ 23 → j ≠ 24 → aI ν 12 0 j = aI μ 12 0 j) ∧ (∀ j, aL ν 12 0 j = aL μ 12 0 j) ∧
  (∀ k, k < lo ∨ hi ≤ k → aI ν 12 0 24 k = aI μ 12 0 24 k)
theorem FX_r {lo hi : Nat} {μ : XM} : FX lo hi μ μ := ⟨fun _ _ _ => rfl, fun _ => rfl, fun _ => rfl, fun _ _ _ _ => rfl, fun _ => rfl, fun _ _ => rfl⟩
theorem FX_t {lo hi : Nat} {μ ν ξ : XM} (a : FX lo hi μ ν) (c : FX lo hi ν ξ) : FX lo hi μ ξ :=
  ⟨fun t j h => (c.1 t j h).trans (a.1 t j h), fun j => (c.2.1 j).trans (a.2.1 j), fun j => (c.2.2.1 j).trans (a.2.2.1 j), fun j h1 h2 h3 => (c.2.2.2.1 j h1 h2 h3).trans (a.2.2.2.1 j h1 h2 h3), fun j => (c.2.2.2.2.1 j).trans (a.2.2.2.2.1 j), fun k h => (c.2.2.2.2.2 k h).trans (a.2.2.2.2.2 k h)⟩
theorem FX_w {lo hi lo' hi' : Nat} {μ ν : XM} (a : FX lo hi μ ν) (h1 : lo' ≤ lo) (h2 : hi ≤ hi') : FX lo' hi' μ ν :=
  ⟨a.1, a.2.1, a.2.2.1, a.2.2.2.1, a.2.2.2.2.1, fun k h => a.2.2.2.2.2 k (by omega)⟩
abbrev FM (b : Nat) (μ ν : XM) : Prop := FX b (b + 30) μ ν
/-- a write inside -/
theorem FX_p {lo hi q : Nat} {x : Int32} {μ ν : XM} (a : FX lo hi μ ν) (h1 : lo ≤ q) (h2 : q < hi) : FX lo hi μ (pI ν 12 0 24 q x) := by
  refine ⟨fun t j h => by rw [pI_ne h]; exact a.1 t j h, fun j => by rw [rI_pI]; exact a.2.1 j, fun j => by rw [rL_pI]; exact a.2.2.1 j, fun j j1 j2 j3 => ?_, fun j => by rw [aL_pI]; exact a.2.2.2.2.1 j, fun k h => ?_⟩
  · have : ¬ j = 24 := j3
    rw [pI, aI_wI]; simp only [this, and_false, ↓reduceIte]; exact a.2.2.2.1 j j1 j2 j3
  · have : ¬ k = q := by omega
    rw [aI_pI]; simp only [this, and_false, ↓reduceIte]; exact a.2.2.2.2.2 k h
theorem FX_f {lo hi q o : Nat} {x : Int32} {μ ν : XM} (a : FX lo hi μ ν) (ho : o = 22 ∨ o = 23) : FX lo hi μ (pI ν 12 0 o q x) := by
  refine ⟨fun t j h => by rw [pI_ne h]; exact a.1 t j h, fun j => by rw [rI_pI]; exact a.2.1 j, fun j => by rw [rL_pI]; exact a.2.2.1 j, fun j j1 j2 j3 => ?_, fun j => by rw [aL_pI]; exact a.2.2.2.2.1 j, fun k h => ?_⟩
  · have : ¬ j = o := by omega
    rw [pI, aI_wI]; simp only [this, and_false, ↓reduceIte]; exact a.2.2.2.1 j j1 j2 j3
  · have : ¬ 24 = o := by omega
    rw [aI_pI]; simp only [this, false_and, and_false, ↓reduceIte]; exact a.2.2.2.2.2 k h
theorem st_ne {ν : XM} {q k : Nat} {x : Int32} (h : k ≠ q) : aI (pI ν 12 0 24 q x) 12 0 24 k = aI ν 12 0 24 k := by
  rw [aI_pI]; simp only [h, and_false, ↓reduceIte]
theorem st_eq {ν : XM} {q : Nat} {x : Int32} : aI (pI ν 12 0 24 q x) 12 0 24 q = x := by
  rw [aI_pI]; simp only [and_self, ↓reduceIte]
theorem RH_ar {h : HS} {μ ν : XM} (e : aI ν 12 0 10 = aI μ 12 0 10) (hH : RH h μ) : RH h ν := by unfold RH at *; rw [e]; exact hH
theorem RL_ar {l : List (Nat × Int32)} {μ ν : XM} (e : aI ν 12 0 10 = aI μ 12 0 10) (e2 : aI ν 12 0 11 = aI μ 12 0 11) (e3 : aI ν 12 0 12 = aI μ 12 0 12) (hH : RL l μ) : RL l ν := by unfold RL at *; rw [e, e2, e3]; exact hH
theorem FM_H {lo hi : Nat} {h : HS} {μ ν : XM} (f : FX lo hi μ ν) (hH : RH h μ) : RH h ν := RH_ar (f.2.2.2.1 10 (by decide) (by decide) (by decide)) hH
theorem FM_L {lo hi : Nat} {l : List (Nat × Int32)} {μ ν : XM} (f : FX lo hi μ ν) (hH : RL l μ) : RL l ν :=
  RL_ar (f.2.2.2.1 10 (by decide) (by decide) (by decide)) (f.2.2.2.1 11 (by decide) (by decide) (by decide)) (f.2.2.2.1 12 (by decide) (by decide) (by decide)) hH
/-- the same below, or above -/
theorem RS_out {b : Nat} {h : HS} {s : SS} {μ ν : XM} (h6 : hG h ≤ 6) (h3 : hM h ≤ 3) (f : ∀ k, b ≤ k → k < b + 30 → aI ν 12 0 24 k = aI μ 12 0 24 k) (hS : RS b h s μ) : RS b h s ν := by
  refine ⟨fun g hg => ?_, fun m hm => ?_, ?_⟩
  · rw [f _ (by omega) (by omega), f _ (by omega) (by omega), f _ (by omega) (by omega), f _ (by omega) (by omega)]
    exact hS.1 g hg
  · rw [f _ (by omega) (by omega)]; exact hS.2.1 m hm
  · rw [f _ (by omega) (by omega), f _ (by omega) (by omega), f _ (by omega) (by omega)]
    exact hS.2.2
theorem B0 : (0 : Int32) = nI 0 := rfl
theorem B987 : (987 : Int32) = nI 987 := rfl
theorem B1034 : (1034 : Int32) = nI 1034 := rfl
theorem nI_cl0 : Int32.toNatClampNeg 0 = 0 := rfl
theorem xin0 {N : Nat} (h : 0 < N) (h2 : N < 2 ^ 31) : xin 0 N = true := xin_t (k := 0) h2 h
/-- clearing a bit -/
def clr (v b : Nat) : Nat := if v.testBit b then v - 2 ^ b else v
theorem clr_I : ∀ v, v < 64 → ∀ b, b < 6 → nI v &&& ((1 <<< (nI b &&& 31)) ^^^ (-1)) = nI (clr v b) := by decide +kernel
theorem clr_t : ∀ v, v < 64 → ∀ b, b < 6 → ∀ j, j < 6 → (clr v b).testBit j = (v.testBit j && decide (j ≠ b)) := by decide +kernel
theorem clr_le (v b : Nat) : clr v b ≤ v := by
  unfold clr; split
  · exact Nat.sub_le _ _
  · exact Nat.le_refl _
theorem and_m1 (x : Int32) : x &&& (-1) = x := by
  have : (-1 : Int32) = -1 := rfl
  apply Int32.toBitVec_inj.1
  show x.toBitVec &&& BitVec.allOnes 32 = x.toBitVec
  exact BitVec.and_allOnes
theorem fst_none {c : Nat → Bool} {d : Int32} : ∀ n k, k + n < 2 ^ 31 → d < 0 → ((fst c d k n = d) ↔ ∀ j, k ≤ j → j < k + n → c j = false)
  | 0, k, _, _ => by simp only [fst, true_iff]; intro j h1 h2; omega
  | n + 1, k, hk, hd => by
    rw [fst]
    have ih := fst_none (c := c) (d := d) n (k + 1) (by omega) hd
    by_cases hc : c k = true
    · rw [if_pos hc]
      constructor
      · intro e; rw [← e] at hd; exact absurd hd (nI_pos (by omega))
      · intro e; have := e k (Nat.le_refl k) (by omega); rw [hc] at this; cases this
    · rw [if_neg hc, ih]
      constructor
      · intro e j h1 h2
        by_cases ej : j = k
        · subst ej; simpa using hc
        · exact e j (by omega) (by omega)
      · intro e j h1 h2; exact e j (by omega) (by omega)
theorem wl_iff {h : HS} {s : SS} (h6 : hG h ≤ 6) (w : Int32) : wl h s w = true ↔ ∀ g, g < hG h → s 3 g ≠ w := by
  unfold wl hold
  rw [decide_eq_true_iff, fst_none (hG h) 0 (by omega) (by decide)]
  constructor
  · intro e g hg; have := e g (Nat.zero_le g) (by omega); simpa using this
  · intro e j _ hj; have := e j (by omega); simpa using this
section
variable {b : Nat} {h : HS} {s : SS} {μ : XM}
theorem RH_6 (hH : RH h μ) : hG h ≤ 6 := hH.1.1
theorem RH_5 (hH : RH h μ) : hB h ≤ 5 := hH.1.2.1
theorem RH_3 (hH : RH h μ) : hM h ≤ 3 := hH.1.2.2
theorem s12_guests (hH : RH h μ) : f12_guests μ = xri (nI (hG h)) μ := by
  rw [f12_guests_e, k12_guests, xck_t (xin0 (by omega) (by omega)), nI_cl0, hH.2.1.1]
theorem s12_belts (hH : RH h μ) : f12_belts μ = xri (nI (hB h)) μ := by
  have e : (1 : Int32) = nI 1 := rfl
  rw [f12_belts_e, k12_belts, e, xck_t (xin_t (by omega) (by omega)), nI_clamp (by omega), hH.2.1.2.1]
theorem s12_men (hH : RH h μ) : f12_men μ = xri (nI (hM h)) μ := by
  have e : (2 : Int32) = nI 2 := rfl
  rw [f12_men_e, k12_men, e, xck_t (xin_t (by omega) (by omega)), nI_clamp (by omega), hH.2.1.2.2.1]
theorem s12_gof {g w : Nat} (hg : g < 6) (hw : w < 5) : f12_guestOf (nI g) (nI w) μ = xri (aI μ 12 0 10 (6 + 5 * g + w)) μ := by
  have e6 : (6 : Int32) = nI 6 := rfl
  have e5 : (5 : Int32) = nI 5 := rfl
  rw [f12_guestOf_e, k12_guestOf, e6, e5, pk_mul, nI_add, nI_add, xck_t (xin_t (by omega) (by omega)), nI_clamp (by omega)]
theorem s12_kd (hH : RH h μ) {g : Nat} (hg : g < hG h) : f12_guestOf (nI g) 0 μ = xri (hf h 0 g) μ := by
  have h6 := RH_6 hH
  rw [B0, s12_gof (by omega) (by omega), (hH.2.2.1 g hg).1]
theorem s12_pl (hH : RH h μ) {g : Nat} (hg : g < hG h) : f12_guestOf (nI g) 1 μ = xri (hf h 1 g) μ := by
  have h6 := RH_6 hH
  have e : (1 : Int32) = nI 1 := rfl
  rw [e, s12_gof (by omega) (by omega), (hH.2.2.1 g hg).2.1]
theorem s12_ch (hH : RH h μ) {g : Nat} (hg : g < hG h) : f12_guestOf (nI g) 2 μ = xri (hf h 2 g) μ := by
  have h6 := RH_6 hH
  have e : (2 : Int32) = nI 2 := rfl
  rw [e, s12_gof (by omega) (by omega), (hH.2.2.1 g hg).2.2.1]
theorem s12_br (hH : RH h μ) {g : Nat} (hg : g < hG h) : f12_guestOf (nI g) 3 μ = xri (hf h 3 g) μ := by
  have h6 := RH_6 hH
  have e : (3 : Int32) = nI 3 := rfl
  rw [e, s12_gof (by omega) (by omega), (hH.2.2.1 g hg).2.2.2.1]
theorem s12_weightOf (hH : RH h μ) {g : Nat} (hg : g < hG h) : f12_weightOf (nI g) μ = xri (hf h 4 g) μ := by
  have h6 := RH_6 hH
  have e : (4 : Int32) = nI 4 := rfl
  have hw := (hH.2.2.1 g hg).2.2.2.2
  rw [f12_weightOf_e, k12_weightOf, e, s12_gof (by omega) (by omega)]
  simp only [bI_i, s12_kd hH hg]
  rw [← hw, xite_eq]
  split <;> rfl
theorem s12_bearsOf (hH : RH h μ) {k : Nat} (hk : k < hB h) : f12_bearsOf (nI k) μ = xri (hf h 5 k) μ := by
  have h5 := RH_5 hH
  have e : (36 : Int32) = nI 36 := rfl
  rw [f12_bearsOf_e, k12_bearsOf, e, nI_add, xck_t (xin_t (by omega) (by omega)), nI_clamp (by omega), hH.2.2.2.1 k hk]
theorem s12_mof {m w : Nat} (hm : m < 3) (hw : w < 2) : f12_manOf (nI m) (nI w) μ = xri (aI μ 12 0 10 (41 + 2 * m + w)) μ := by
  have e6 : (41 : Int32) = nI 41 := rfl
  have e5 : (2 : Int32) = nI 2 := rfl
  rw [f12_manOf_e, k12_manOf, e6, e5, pk_mul, nI_add, nI_add, xck_t (xin_t (by omega) (by omega)), nI_clamp (by omega)]
theorem s12_po (hH : RH h μ) {m : Nat} (hm : m < hM h) : f12_manOf (nI m) 0 μ = xri (hf h 6 m) μ := by
  have h3 := RH_3 hH
  rw [B0, s12_mof (by omega) (by omega), (hH.2.2.2.2 m hm).1]
theorem s12_re (hH : RH h μ) {m : Nat} (hm : m < hM h) : f12_manOf (nI m) 1 μ = xri (hf h 7 m) μ := by
  have h3 := RH_3 hH
  have e : (1 : Int32) = nI 1 := rfl
  rw [e, s12_mof (by omega) (by omega), (hH.2.2.2.2 m hm).2]
theorem s12_isGuest (hH : RH h μ) (p : Int32) : f12_isGuest p μ = xri (b2 (inR (hG h) p)) μ := by
  rw [f12_isGuest_e, k12_isGuest, s12_guests hH]
  simp only [mS_eq, vI_eq, vL_eq, bV_v, bI_i, bL_l, xrb_b, xrb_0, xrb_1, xite_eq, b2_t, b2_f, i10, b2_eq0, b2_eq1, Bool.and_true, Bool.true_and, Bool.false_and, Bool.not_true, Bool.not_false, ↓reduceIte, not_false_eq_true, not_true_eq_false, decide_true, decide_false, inR]
  grind [b2]
theorem s12_isBelt (hH : RH h μ) (p : Int32) : f12_isBelt p μ = xri (b2 (inR (hB h) p)) μ := by
  rw [f12_isBelt_e, k12_isBelt, s12_belts hH]
  simp only [mS_eq, vI_eq, vL_eq, bV_v, bI_i, bL_l, xrb_b, xrb_0, xrb_1, xite_eq, b2_t, b2_f, i10, b2_eq0, b2_eq1, Bool.and_true, Bool.true_and, Bool.false_and, Bool.not_true, Bool.not_false, ↓reduceIte, not_false_eq_true, not_true_eq_false, decide_true, decide_false, inR]
  grind [b2]
theorem s12_isMan (hH : RH h μ) (p : Int32) : f12_isMan p μ = xri (b2 (inR (hM h) p)) μ := by
  rw [f12_isMan_e, k12_isMan, s12_men hH]
  simp only [mS_eq, vI_eq, vL_eq, bV_v, bI_i, bL_l, xrb_b, xrb_0, xrb_1, xite_eq, b2_t, b2_f, i10, b2_eq0, b2_eq1, Bool.and_true, Bool.true_and, Bool.false_and, Bool.not_true, Bool.not_false, ↓reduceIte, not_false_eq_true, not_true_eq_false, decide_true, decide_false, inR]
  grind [b2]
theorem s12_doesBear (hH : RH h μ) {k g : Nat} (hk : k < hB h) (hg : g < hG h) : f12_doesBear (nI k) (nI g) μ = xri (b2 (brn h k g)) μ := by
  rw [f12_doesBear_e, k12_doesBear, s12_bearsOf hH hk]
  simp only [mS_eq, vI_eq, vL_eq, bV_v, bI_i, bL_l, xrb_b, xrb_0, xrb_1, xite_eq, b2_t, b2_f, i10, b2_eq0, b2_eq1, Bool.and_true, Bool.true_and, Bool.false_and, Bool.not_true, Bool.not_false, ↓reduceIte, not_false_eq_true, not_true_eq_false, decide_true, decide_false, s12_weightOf hH hg, brn]
  grind [b2]
def wit (a b p : Int32) : Bool := decide (¬ p < a) && decide (¬ b < p)
theorem s12_within (p a c : Int32) : f12_within p a c μ = xri (b2 (wit a c p)) μ := by
  rw [f12_within_e, k12_within]
  simp only [mS_eq, vI_eq, vL_eq, bV_v, bI_i, bL_l, xrb_b, xrb_0, xrb_1, xite_eq, b2_t, b2_f, i10, b2_eq0, b2_eq1, Bool.and_true, Bool.true_and, Bool.false_and, Bool.not_true, Bool.not_false, ↓reduceIte, not_false_eq_true, not_true_eq_false, decide_true, decide_false, wit]
  grind [b2]
theorem ct_bits {v : Nat} (hv : v < 1024) : ct (fun k => v.testBit k) 30 = pc v := by
  unfold pc
  rw [← ct_in (fun k => v.testBit k) 10 30 (by omega)]
  apply ct_cong
  intro k hk
  by_cases h : k < 10
  · simp [h]
  · have h2 : (2 : Nat) ^ 10 ≤ 2 ^ k := Nat.pow_le_pow_right (by decide) (by omega)
    have : v.testBit k = false := Nat.testBit_lt_two_pow (by omega)
    simp [h, this]
theorem s12_bits {v : Nat} (hv : v < 1024) : f12_bits (nI v) μ = xri (nI (pc v)) μ := by
  rw [f12_bits_e, k12_bits, vI_eq, vI_eq, ← ct_bits hv]
  refine lp_ct (F := fun n a k => h12_bits_4 n (nI v) a k μ) (c := fun k => v.testBit k) (G := 30) (R := fun a => xri a μ) ?_ ?_ 30 0 20000 (by omega) (by omega)
  · intro n a
    have e : (30 : Int32) = nI 30 := rfl
    simp only [h12_bits_4_s, e, mS_eq, vI_eq, vL_eq, bV_v, bI_i, bL_l, xrb_b, xrb_0, xrb_1, xite_eq, b2_t, b2_f, i10, b2_eq0, b2_eq1, Bool.and_true, Bool.true_and, Bool.false_and, Bool.not_true, Bool.not_false, ↓reduceIte, not_false_eq_true, not_true_eq_false, decide_true, decide_false, Int32.lt_irrefl]
  · intro n a k hk
    have e : (30 : Int32) = nI 30 := rfl
    have h1 := nI_lt hk (by omega)
    simp only [h12_bits_4_s, e, mS_eq, vI_eq, vL_eq, bV_v, bI_i, bL_l, xrb_b, xrb_0, xrb_1, xite_eq, b2_t, b2_f, i10, b2_eq0, b2_eq1, Bool.and_true, Bool.true_and, Bool.false_and, Bool.not_true, Bool.not_false, ↓reduceIte, not_false_eq_true, not_true_eq_false, decide_true, decide_false, h1, ← nI_succ, tst (show v < 2 ^ 31 by omega) (show k < 31 by omega)]
    by_cases ht : v.testBit k = true
    · simp [ht, b2, nI_succ]
    · simp [ht, b2]
-- the scene at b
theorem s12_isIn (hS : RS b h s μ) (hb : b ≤ 1034) (h6 : hG h ≤ 6) {p : Int32} (hp : p = nI b) {g : Nat} (hg : g < hG h) : f12_isIn p (nI g) μ = xri (b2 (isIn s g)) μ := by
  subst hp
  have e : (21 : Int32) = nI 21 := rfl
  rw [f12_isIn_e, k12_isIn, e, nI_add, nI_add, xck_t (xin_t (by omega) (by omega)), nI_clamp (by omega), (hS.1 g hg).2.2.1]
  simp only [mS_eq, vI_eq, vL_eq, bV_v, bI_i, bL_l, xrb_b, xrb_0, xrb_1, xite_eq, b2_t, b2_f, i10, b2_eq0, b2_eq1, Bool.and_true, Bool.true_and, Bool.false_and, Bool.not_true, Bool.not_false, ↓reduceIte, not_false_eq_true, not_true_eq_false, decide_true, decide_false, isIn]
  grind [b2]
theorem s12_has (hS : RS b h s μ) (hb : b ≤ 1034) (h6 : hG h ≤ 6) {p : Int32} (hp : p = nI b) {g : Nat} (hg : g < hG h) : xin ((p + 15) + nI g) 1081 = true ∧ aI μ 12 0 24 (Int32.toNatClampNeg ((p + 15) + nI g)) = s 3 g := by
  subst hp
  have e : (15 : Int32) = nI 15 := rfl
  rw [e, nI_add, nI_add, nI_clamp (by omega)]
  exact ⟨xin_t (by omega) (by omega), (hS.1 g hg).2.2.2⟩
theorem s12_whr (hS : RS b h s μ) (hb : b ≤ 1034) (h6 : hG h ≤ 6) {p : Int32} (hp : p = nI b) {g : Nat} (hg : g < hG h) : xin ((p + 3) + nI g) 1081 = true ∧ aI μ 12 0 24 (Int32.toNatClampNeg ((p + 3) + nI g)) = s 0 g := by
  subst hp
  have e : (3 : Int32) = nI 3 := rfl
  rw [e, nI_add, nI_add, nI_clamp (by omega)]
  exact ⟨xin_t (by omega) (by omega), (hS.1 g hg).1⟩
theorem s12_dep (hS : RS b h s μ) (hb : b ≤ 1034) {p : Int32} (hp : p = nI b) : xin (p + 2) 1081 = true ∧ aI μ 12 0 24 (Int32.toNatClampNeg (p + 2)) = s 6 0 := by
  subst hp
  have e : (2 : Int32) = nI 2 := rfl
  rw [e, nI_add, nI_clamp (by omega)]
  exact ⟨xin_t (by omega) (by omega), hS.2.2.2.1⟩
theorem s12_gap (hS : RS b h s μ) (hb : b ≤ 1034) {p : Int32} (hp : p = nI b) : xin (p + 1) 1081 = true ∧ aI μ 12 0 24 (Int32.toNatClampNeg (p + 1)) = s 5 0 := by
  subst hp
  have e : (1 : Int32) = nI 1 := rfl
  rw [e, nI_add, nI_clamp (by omega)]
  exact ⟨xin_t (by omega) (by omega), hS.2.2.1⟩
/-- a belt, as an int: below 0 is none -/
theorem has_neg (hI : SI h s) (h5 : hB h ≤ 5) {g : Nat} (hg : g < hG h) : (s 3 g < 0) = (s 3 g = -1) := by
  rcases (hI.1 g hg).2.2.2 with e | ⟨_, k, hk, e⟩
  · rw [e]; simp
  · rw [e]
    apply propext
    constructor
    · intro h; exact absurd h (nI_pos (by omega))
    · intro h; have := nI_nneg (show k < 2 ^ 31 by omega) (show (-1 : Int32) < 0 by decide); rw [h] at this; simp at this
theorem good_eq (hI : SI h s) (h5 : hB h ≤ 5) {g : Nat} (hg : g < hG h) : (s 3 g = -1 ∧ good h s g = false) ∨ ∃ k, k < hB h ∧ s 3 g = nI k ∧ ¬ s 3 g < 0 ∧ ¬ s 3 g = -1 ∧ good h s g = brn h k g := by
  rcases (hI.1 g hg).2.2.2 with e | ⟨_, k, hk, e⟩
  · left
    refine ⟨e, ?_⟩
    unfold good; rw [e]
    have : inR (hB h) (-1) = false := by simp [inR]
    rw [this]; rfl
  · right
    refine ⟨k, hk, e, ?_, ?_, ?_⟩
    · rw [e]; exact nI_pos (by omega)
    · rw [e, nI_nneg (show k < 2 ^ 31 by omega) (by decide)]; exact not_false
    · unfold good; rw [e, inR_t (by omega) hk, nI_clamp (by omega)]; rfl
theorem s12_who (hH : RH h μ) (hS : RS b h s μ) (hb : b ≤ 1034) {p : Int32} (hp : p = nI b) (v : Int32) : f12_who p v μ = xri (nI (who h s v)) μ := by
  have h6 := RH_6 hH
  subst hp
  rw [f12_who_e, k12_who, vI_eq, vI_eq]
  refine lp_bits (F := fun n a k => h12_who_5 n (nI b) v a k μ) (c := fun g => decide (s 2 g = v)) (G := hG h) (R := fun a => xri a μ) (by omega) ?_ ?_ (hG h) 0 20000 (by omega) (by omega)
  · intro n a
    simp only [h12_who_5_s, s12_guests hH, mS_eq, vI_eq, vL_eq, bV_v, bI_i, bL_l, xrb_b, xrb_0, xrb_1, xite_eq, b2_t, b2_f, i10, b2_eq0, b2_eq1, Bool.and_true, Bool.true_and, Bool.false_and, Bool.not_true, Bool.not_false, ↓reduceIte, not_false_eq_true, not_true_eq_false, decide_true, decide_false, Int32.lt_irrefl]
  · intro n a k hk
    have e : (21 : Int32) = nI 21 := rfl
    have h1 := nI_lt hk (show hG h < 2 ^ 31 by omega)
    have h2 : xin (nI (b + 21 + k)) 1081 = true := xin_t (by omega) (by omega)
    have h3 : (nI (b + 21 + k)).toNatClampNeg = b + 21 + k := nI_clamp (by omega)
    simp only [h12_who_5_s, s12_guests hH, mS_eq, vI_eq, vL_eq, bV_v, bI_i, bL_l, xrb_b, xrb_0, xrb_1, xite_eq, b2_t, b2_f, i10, b2_eq0, b2_eq1, Bool.and_true, Bool.true_and, Bool.false_and, Bool.not_true, Bool.not_false, ↓reduceIte, not_false_eq_true, not_true_eq_false, decide_true, decide_false, h1, e, nI_add, xck_t h2, h3, (hS.1 k hk).2.2.1, or_bit _ (show k < 31 by omega), or_0, ← nI_succ]
    grind
theorem s12_isUnder' (hH : RH h μ) (hS : RS b h s μ) (hb : b ≤ 1034) {p : Int32} (hp : p = nI b) {g : Nat} (hg : g < hG h) (hq : (s 3 g = -1 ∧ good h s g = false) ∨ ∃ k, k < hB h ∧ s 3 g = nI k ∧ ¬ s 3 g < 0 ∧ ¬ s 3 g = -1 ∧ good h s g = brn h k g) : f12_isUnder p (nI g) μ = xri (b2 (undr h s g)) μ := by
  have h6 := RH_6 hH
  have h5 := RH_5 hH
  obtain ⟨x1, x2⟩ := s12_has hS hb h6 hp hg
  obtain ⟨y1, y2⟩ := s12_dep hS hb hp
  rw [f12_isUnder_e, k12_isUnder]
  simp only [mS_eq, vI_eq, vL_eq, bV_v, bI_i, bL_l, xrb_b, xrb_0, xrb_1, xite_eq, b2_t, b2_f, i10, b2_eq0, b2_eq1, Bool.and_true, Bool.true_and, Bool.false_and, Bool.not_true, Bool.not_false, ↓reduceIte, not_false_eq_true, not_true_eq_false, decide_true, decide_false, s12_kd hH hg, s12_ch hH hg, xck_t x1, x2, xck_t y1, y2, s12_isIn hS hb h6 hp hg, h12_isUnder_61_s, undr, drn]
  rcases hq with ⟨e1, e2⟩ | ⟨k, hk, e1, e2, e3, e4⟩
  · simp only [e1, e2]
    grind [b2]
  · simp only [e2, e4, mS_eq, vI_eq, vL_eq, bV_v, bI_i, bL_l, xrb_b, xrb_0, xrb_1, xite_eq, b2_t, b2_f, i10, b2_eq0, b2_eq1, Bool.and_true, Bool.true_and, Bool.false_and, Bool.not_true, Bool.not_false, ↓reduceIte, not_false_eq_true, not_true_eq_false, decide_true, decide_false]
    rw [e1, s12_doesBear hH hk hg]
    simp only [mS_eq, vI_eq, vL_eq, bV_v, bI_i, bL_l, xrb_b, xrb_0, xrb_1, xite_eq, b2_t, b2_f, i10, b2_eq0, b2_eq1, Bool.and_true, Bool.true_and, Bool.false_and, Bool.not_true, Bool.not_false, ↓reduceIte, not_false_eq_true, not_true_eq_false, decide_true, decide_false]
    grind [b2]
theorem s12_isUnder (hH : RH h μ) (hS : RS b h s μ) (hI : SI h s) (hb : b ≤ 1034) {p : Int32} (hp : p = nI b) {g : Nat} (hg : g < hG h) : f12_isUnder p (nI g) μ = xri (b2 (undr h s g)) μ :=
  s12_isUnder' hH hS hb hp hg (good_eq hI (RH_5 hH) hg)
theorem s12_doesCry (hH : RH h μ) (hS : RS b h s μ) (hI : SI h s) (hb : b ≤ 1034) {p : Int32} (hp : p = nI b) {g : Nat} (hg : g < hG h) : f12_doesCry p (nI g) μ = xri (b2 (cry h s g)) μ := by
  have h6 := RH_6 hH
  have h5 := RH_5 hH
  obtain ⟨x1, x2⟩ := s12_has hS hb h6 hp hg
  obtain ⟨y1, y2⟩ := s12_dep hS hb hp
  rw [f12_doesCry_e, k12_doesCry]
  simp only [mS_eq, vI_eq, vL_eq, bV_v, bI_i, bL_l, xrb_b, xrb_0, xrb_1, xite_eq, b2_t, b2_f, i10, b2_eq0, b2_eq1, Bool.and_true, Bool.true_and, Bool.false_and, Bool.not_true, Bool.not_false, ↓reduceIte, not_false_eq_true, not_true_eq_false, decide_true, decide_false, s12_kd hH hg, s12_ch hH hg, xck_t x1, x2, xck_t y1, y2, s12_isIn hS hb h6 hp hg, cry, want, shb, has_neg hI h5 hg]
  grind [b2]
theorem s12_criers (hH : RH h μ) (hS : RS b h s μ) (hI : SI h s) (hb : b ≤ 1034) {p : Int32} (hp : p = nI b) : f12_criers p μ = xri (nI (criers h s)) μ := by
  have h6 := RH_6 hH
  rw [f12_criers_e, k12_criers, vI_eq, vI_eq]
  refine lp_bits (F := fun n a k => h12_criers_4 n p a k μ) (c := fun g => cry h s g) (G := hG h) (R := fun a => xri a μ) (by omega) ?_ ?_ (hG h) 0 20000 (by omega) (by omega)
  · intro n a
    simp only [h12_criers_4_s, s12_guests hH, mS_eq, vI_eq, vL_eq, bV_v, bI_i, bL_l, xrb_b, xrb_0, xrb_1, xite_eq, b2_t, b2_f, i10, b2_eq0, b2_eq1, Bool.and_true, Bool.true_and, Bool.false_and, Bool.not_true, Bool.not_false, ↓reduceIte, not_false_eq_true, not_true_eq_false, decide_true, decide_false, Int32.lt_irrefl]
  · intro n a k hk
    have h1 := nI_lt hk (show hG h < 2 ^ 31 by omega)
    simp only [h12_criers_4_s, s12_guests hH, mS_eq, vI_eq, vL_eq, bV_v, bI_i, bL_l, xrb_b, xrb_0, xrb_1, xite_eq, b2_t, b2_f, i10, b2_eq0, b2_eq1, Bool.and_true, Bool.true_and, Bool.false_and, Bool.not_true, Bool.not_false, ↓reduceIte, not_false_eq_true, not_true_eq_false, decide_true, decide_false, h1, s12_doesCry hH hS hI hb hp hk, or_bit _ (show k < 31 by omega), or_0, ← nI_succ]
    grind
/-- belts that none below k has -/
def wk (s : SS) (b : Nat) : Nat → Bool
  | 0 => true
  | k + 1 => wk s b k && decide (s 3 k ≠ nI b)
theorem wk_iff (s : SS) (b : Nat) : ∀ k, wk s b k = true ↔ ∀ g, g < k → s 3 g ≠ nI b
  | 0 => by simp [wk]
  | k + 1 => by
    rw [wk, Bool.and_eq_true, wk_iff s b k, decide_eq_true_iff]
    constructor
    · intro h g hg
      by_cases e : g = k
      · subst e; exact h.2
      · exact h.1 g (by omega)
    · intro h; exact ⟨fun g hg => h g (by omega), h k (by omega)⟩
theorem pw_m1 : ∀ n, n ≤ 5 → (1 <<< (nI n &&& 31)) - 1 = nI (bN (fun _ => true) n) := by decide +kernel
theorem s12_wall (hH : RH h μ) (hS : RS b h s μ) (hI : SI h s) (hb : b ≤ 1034) {p : Int32} (hp : p = nI b) : f12_wall p μ = xri (nI (wall h s)) μ := by
  have h6 := RH_6 hH
  have h5 := RH_5 hH
  rw [f12_wall_e, k12_wall, s12_belts hH]
  simp only [bI_i, vI_eq]
  rw [pw_m1 _ h5]
  have hw : wall h s = bN (fun j => wk s j (hG h)) (hB h) := by
    unfold wall
    apply bN_cong
    intro k _
    have := (wl_iff (h := h) (s := s) h6 (nI k)).trans (wk_iff s k (hG h)).symm
    exact Bool.eq_iff_iff.mpr this
  rw [hw]
  refine lp_rel (F := fun n a k => h12_wall_11 n p a k μ) (fun k a => a = nI (bN (fun j => wk s j k) (hB h))) (Q := fun x => x = xri (nI (bN (fun j => wk s j (hG h)) (hB h))) μ) (e := hG h) ?_ ?_ (hG h) 0 20000 _ (by omega) (by omega) rfl
  · intro n a ha
    subst ha
    simp only [h12_wall_11_s, s12_guests hH, mS_eq, vI_eq, vL_eq, bV_v, bI_i, bL_l, xrb_b, xrb_0, xrb_1, xite_eq, b2_t, b2_f, i10, b2_eq0, b2_eq1, Bool.and_true, Bool.true_and, Bool.false_and, Bool.not_true, Bool.not_false, ↓reduceIte, not_false_eq_true, not_true_eq_false, decide_true, decide_false, Int32.lt_irrefl]
  · intro n a k hk ha
    subst ha
    have h1 := nI_lt hk (show hG h < 2 ^ 31 by omega)
    obtain ⟨x1, x2⟩ := s12_has hS hb h6 hp hk
    simp only [h12_wall_11_s, s12_guests hH, mS_eq, vI_eq, vL_eq, bV_v, bI_i, bL_l, xrb_b, xrb_0, xrb_1, xite_eq, b2_t, b2_f, i10, b2_eq0, b2_eq1, Bool.and_true, Bool.true_and, Bool.false_and, Bool.not_true, Bool.not_false, ↓reduceIte, not_false_eq_true, not_true_eq_false, decide_true, decide_false, h1, xck_t x1, x2, and_m1, ← nI_succ]
    rcases good_eq hI h5 hk with ⟨e1, e2⟩ | ⟨j, hj, e1, e2, e3, e4⟩
    · have : s 3 k < 0 := by rw [e1]; decide
      simp only [this, ↓reduceIte]
      refine ⟨_, ?_, rfl⟩
      congr 1
      apply bN_cong
      intro i hi
      have : s 3 k ≠ nI i := by
        rw [e1]; intro e
        have h9 := nI_nneg (show i < 2 ^ 31 by omega) (show (-1 : Int32) < 0 by decide)
        rw [← e] at h9; simp at h9
      simp [wk, this]
    · simp only [e2, ↓reduceIte]
      refine ⟨_, ?_, rfl⟩
      have hlt := bN_lt (fun j => wk s j k) (hB h)
      have h32 : (2 : Nat) ^ hB h ≤ 2 ^ 5 := Nat.pow_le_pow_right (by decide) h5
      rw [e1, clr_I _ (by omega) _ (by omega)]
      congr 1
      apply bN_eq (Nat.lt_of_le_of_lt (clr_le _ _) hlt)
      intro i hi
      rw [clr_t _ (by omega) _ (by omega) _ (by omega), bN_test]
      have : (i ≠ j) = (s 3 k ≠ nI i) := by
        rw [e1]; apply propext
        constructor
        · intro h8 h9; exact h8 ((nI_eq (by omega) (by omega)).mp h9).symm
        · intro h8 h9; exact h8 (by rw [h9])
      simp only [hi, wk, this, decide_true, Bool.true_and]
theorem s12_isFree (hS : RS b h s μ) (hb : b ≤ 1034) (h3 : hM h ≤ 3) {p : Int32} (hp : p = nI b) {m : Nat} (hm : m < hM h) : f12_isFree p (nI m) μ = xri (b2 (free s m)) μ := by
  subst hp
  have e : (27 : Int32) = nI 27 := rfl
  rw [f12_isFree_e, k12_isFree, e, nI_add, nI_add, xck_t (xin_t (by omega) (by omega)), nI_clamp (by omega), hS.2.1 m hm]
  simp only [mS_eq, vI_eq, vL_eq, bV_v, bI_i, bL_l, xrb_b, xrb_0, xrb_1, xite_eq, b2_t, b2_f, i10, b2_eq0, b2_eq1, Bool.and_true, Bool.true_and, Bool.false_and, Bool.not_true, Bool.not_false, ↓reduceIte, not_false_eq_true, not_true_eq_false, decide_true, decide_false, free]
  grind [b2]
theorem s12_gapTo (hH : RH h μ) (hS : RS b h s μ) (hb : b ≤ 1034) {p : Int32} (hp : p = nI b) {m g : Nat} (hm : m < hM h) (hg : g < hG h) : f12_gapTo p (nI m) (nI g) μ = xri (absI (hf h 6 m - s 0 g)) μ := by
  have h6 := RH_6 hH
  obtain ⟨x1, x2⟩ := s12_whr hS hb h6 hp hg
  rw [f12_gapTo_e, k12_gapTo]
  simp only [mS_eq, vI_eq, vL_eq, bV_v, bI_i, bL_l, xrb_b, xrb_0, xrb_1, xite_eq, b2_t, b2_f, i10, b2_eq0, b2_eq1, Bool.and_true, Bool.true_and, Bool.false_and, Bool.not_true, Bool.not_false, ↓reduceIte, not_false_eq_true, not_true_eq_false, decide_true, decide_false, s12_po hH hm, xck_t x1, x2, absI]
  grind
theorem s12_couldCast (hH : RH h μ) (hS : RS b h s μ) (hI : SI h s) (hb : b ≤ 1034) {p : Int32} (hp : p = nI b) {m g : Nat} (hm : m < hM h) (hg : g < hG h) : f12_couldCast p (nI m) (nI g) μ = xri (b2 (rch h s m g)) μ := by
  have h6 := RH_6 hH
  have h5 := RH_5 hH
  have h3 := RH_3 hH
  obtain ⟨x1, x2⟩ := s12_has hS hb h6 hp hg
  rw [f12_couldCast_e, k12_couldCast]
  simp only [mS_eq, vI_eq, vL_eq, bV_v, bI_i, bL_l, xrb_b, xrb_0, xrb_1, xite_eq, b2_t, b2_f, i10, b2_eq0, b2_eq1, Bool.and_true, Bool.true_and, Bool.false_and, Bool.not_true, Bool.not_false, ↓reduceIte, not_false_eq_true, not_true_eq_false, decide_true, decide_false, s12_isFree hS hb h3 hp hm, s12_isIn hS hb h6 hp hg, s12_kd hH hg, xck_t x1, x2, s12_gapTo hH hS hb hp hm hg, s12_re hH hm, rch, want, shb, has_neg hI h5 hg]
  grind [b2]
theorem wall_t (h5 : hB h ≤ 5) {k : Nat} (hk : k < hB h) : ((nI (wall h s) >>> (nI k &&& 31)) &&& 1) = b2 (wl h s (nI k)) := by
  have hlt : wall h s < 1024 := bN_lt' _ (by omega)
  rw [tst (by omega) (by omega)]
  unfold wall
  rw [bN_test]
  simp [hk]
theorem s12_mayCast (hH : RH h μ) (hS : RS b h s μ) (hI : SI h s) (hb : b ≤ 1034) {p : Int32} (hp : p = nI b) {m k g : Nat} (hm : m < hM h) (hk : k < hB h) (hg : g < hG h) : f12_mayCast p (nI m) (nI k) (nI g) μ = xri (b2 (rch h s m g && wl h s (nI k))) μ := by
  have h5 := RH_5 hH
  rw [f12_mayCast_e, k12_mayCast]
  simp only [mS_eq, vI_eq, vL_eq, bV_v, bI_i, bL_l, xrb_b, xrb_0, xrb_1, xite_eq, b2_t, b2_f, i10, b2_eq0, b2_eq1, Bool.and_true, Bool.true_and, Bool.false_and, Bool.not_true, Bool.not_false, ↓reduceIte, not_false_eq_true, not_true_eq_false, decide_true, decide_false, s12_couldCast hH hS hI hb hp hm hg, s12_wall hH hS hI hb hp, wall_t h5 hk]
  grind [b2]
theorem s12_mayStop (hH : RH h μ) (hS : RS b h s μ) (hb : b ≤ 1034) {p : Int32} (hp : p = nI b) {m : Nat} (hm : m < hM h) : f12_mayStop p (nI m) μ = xri (b2 (free s m && decide (0 < s 5 0))) μ := by
  have h3 := RH_3 hH
  obtain ⟨x1, x2⟩ := s12_gap hS hb hp
  rw [f12_mayStop_e, k12_mayStop]
  simp only [mS_eq, vI_eq, vL_eq, bV_v, bI_i, bL_l, xrb_b, xrb_0, xrb_1, xite_eq, b2_t, b2_f, i10, b2_eq0, b2_eq1, Bool.and_true, Bool.true_and, Bool.false_and, Bool.not_true, Bool.not_false, ↓reduceIte, not_false_eq_true, not_true_eq_false, decide_true, decide_false, s12_isFree hS hb h3 hp hm, xck_t x1, x2]
  grind [b2]
end
