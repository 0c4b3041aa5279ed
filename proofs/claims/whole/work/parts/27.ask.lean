/-! THE PURE PART: questions that look at now alone -/
theorem Fr11_r {μ : XM} : Fr11 μ μ := fun _ _ _ => rfl
theorem Fr12_r {μ : XM} : Fr12 μ μ := fun _ _ _ => rfl
/-- the reference forgets what it threw -/
def m0 (μ : XM) : XM := sI μ 12 0 0 0
theorem m0_R {A : AS} {μ : XM} (hI : AI A) (hR : RM A μ) : RM A (m0 μ) := RM_q hI hR (QM_s (.inl rfl))
theorem m0_F {μ : XM} : Fr12 μ (m0 μ) := (QM_s (.inl rfl)).1
theorem RM_H {A : AS} {μ : XM} (hR : RM A μ) : RH (aH A) μ := hR.1
theorem RM_S {A : AS} {μ : XM} (hR : RM A μ) : RS 0 (aH A) (aS A) μ := hR.2.2.2.1
theorem RC_H {A : AS} {μ : XM} (hR : RC A μ) : CH 0 (aH A) μ := hR.1
theorem RC_L {A : AS} {μ : XM} (hR : RC A μ) : LC 0 (hC (aH A)) μ := hR.2.1
theorem RC_S {A : AS} {μ : XM} (hR : RC A μ) : CS 0 (aH A) (aS A) μ := hR.2.2.2.1
theorem AI_H {A : AS} (hI : AI A) : HI (aH A) := hI.1
theorem AI_W {A : AS} (hI : AI A) : LW (hC (aH A)) := hI.2.1
theorem AI_S {A : AS} (hI : AI A) : SI (aH A) (aS A) := hI.2.2.2.1
section
variable {A : AS} {μ : XM}
-- guest
def aGuest (A : AS) (p w : Int32) : Int32 := if inR (hG (aH A)) p then (if w = 0 then hf (aH A) 0 p.toNatClampNeg else if w = 1 then aS A 0 p.toNatClampNeg else if w = 2 then hf (aH A) 2 p.toNatClampNeg else if w = 3 then aS A 1 p.toNatClampNeg else if w = 4 then hf (aH A) 4 p.toNatClampNeg else if w = 5 then aS A 3 p.toNatClampNeg else if w = 6 then aS A 2 p.toNatClampNeg else -2) else -2
theorem xri_if (c : Prop) [Decidable c] (x y : Int32) (μ : XM) : xri (if c then x else y) μ = if c then xri x μ else xri y μ := by split <;> rfl
theorem c_guest (hR : RC A μ) (p w : Int32) : f11_guest p w μ = xri (aGuest A p w) μ := by
  have hH := RC_H hR
  have hS := RC_S hR
  have h6 := CH_6 hH
  rw [f11_guest_e, k11_guest, s2_isGuest hH]
  rcases inR_cases (n := hG (aH A)) (by omega) p with ⟨hp, hp'⟩ | ⟨j, hj, rfl, hp1, hp2, hp3⟩
  · simp only [mS_eq, vI_eq, vL_eq, bV_v, bI_i, bL_l, xrb_b, xrb_0, xrb_1, xite_eq, b2_t, b2_f, i10, b2_eq0, b2_eq1, Bool.and_true, Bool.true_and, Bool.false_and, Bool.not_true, Bool.not_false, ↓reduceIte, not_false_eq_true, not_true_eq_false, decide_true, decide_false, hp, aGuest, Bool.false_eq_true]
  · have hx : xin (nI j) 6 = true := xin_t (by omega) (by omega)
    have hc : (nI j).toNatClampNeg = j := nI_clamp (by omega)
    simp only [mS_eq, vI_eq, vL_eq, bV_v, bI_i, bL_l, xrb_b, xrb_0, xrb_1, xite_eq, b2_t, b2_f, i10, b2_eq0, b2_eq1, Bool.and_true, Bool.true_and, Bool.false_and, Bool.not_true, Bool.not_false, ↓reduceIte, not_false_eq_true, not_true_eq_false, decide_true, decide_false, hp3, aGuest, xck_t hx, hc, CH_kd hH hj, CH_ch hH hj, CH_we hH hj, CS_pl hS hj, CS_br hS hj, CS_be hS hj, CS_st hS hj, xri_if, Bool.true_eq_false]
theorem wit_06 {w : Int32} (h : wit 0 6 w = true) (h1 : ¬ w = 1) (h2 : ¬ w = 2) (h3 : ¬ w = 3) (h4 : ¬ w = 4) (h5 : ¬ w = 5) (h6 : ¬ w = 6) : w = 0 := by
  simp only [wit, Bool.and_eq_true, decide_eq_true_eq] at h
  obtain ⟨j, j1, j2⟩ := nI_of2 (x := w) (M := 6) (n := 6) (by decide) h.1 (Int32.not_lt.mp h.2)
  have : j = 0 ∨ j = 1 ∨ j = 2 ∨ j = 3 ∨ j = 4 ∨ j = 5 ∨ j = 6 := by omega
  rcases this with rfl | rfl | rfl | rfl | rfl | rfl | rfl
  · exact j2
  · exact absurd j2 h1
  · exact absurd j2 h2
  · exact absurd j2 h3
  · exact absurd j2 h4
  · exact absurd j2 h5
  · exact absurd j2 h6
theorem wit_lit {a b w : Int32} (h : wit a b w = false) {x : Int32} (hx : wit a b x = true) : ¬ w = x := by
  intro e; rw [e, hx] at h; cases h
theorem m_guest (hI : AI A) (hR : RM A μ) (p w : Int32) : f12_guest p w μ = xri (aGuest A p w) (m0 μ) := by
  have hR1 := m0_R hI hR
  have hH := RM_H hR1
  have hS := RM_S hR1
  have h6 := RH_6 hH
  rw [f12_guest_e, k12_guest, mS_eq]
  change (bI (f12_isGuest p (m0 μ)) _) = _
  rw [s12_isGuest hH, bI_i]
  rcases inR_cases (n := hG (aH A)) (by omega) p with ⟨hp, hp'⟩ | ⟨j, hj, rfl, hp1, hp2, hp3⟩
  · simp only [mS_eq, vI_eq, vL_eq, bV_v, bI_i, bL_l, xrb_b, xrb_0, xrb_1, xite_eq, b2_t, b2_f, i10, b2_eq0, b2_eq1, Bool.and_true, Bool.true_and, Bool.false_and, Bool.not_true, Bool.not_false, ↓reduceIte, not_false_eq_true, not_true_eq_false, decide_true, decide_false, hp, aGuest, Bool.false_eq_true]
  · have hc : (nI j).toNatClampNeg = j := nI_clamp (by omega)
    have k3 : (3 + nI j : Int32) = nI (0 + 3 + j) := by rw [L3, nI_add]
    have k9 : (9 + nI j : Int32) = nI (0 + 9 + j) := by rw [L9, nI_add]
    have k15 : (15 + nI j : Int32) = nI (0 + 15 + j) := by rw [L15, nI_add]
    have k21 : (21 + nI j : Int32) = nI (0 + 21 + j) := by rw [L21, nI_add]
    have x3 : xin (nI (0 + 3 + j)) 1081 = true := xin_t (by omega) (by omega)
    have x9 : xin (nI (0 + 9 + j)) 1081 = true := xin_t (by omega) (by omega)
    have x15 : xin (nI (0 + 15 + j)) 1081 = true := xin_t (by omega) (by omega)
    have x21 : xin (nI (0 + 21 + j)) 1081 = true := xin_t (by omega) (by omega)
    have q3 : (nI (0 + 3 + j)).toNatClampNeg = 0 + 3 + j := nI_clamp (by omega)
    have q9 : (nI (0 + 9 + j)).toNatClampNeg = 0 + 9 + j := nI_clamp (by omega)
    have q15 : (nI (0 + 15 + j)).toNatClampNeg = 0 + 15 + j := nI_clamp (by omega)
    have q21 : (nI (0 + 21 + j)).toNatClampNeg = 0 + 21 + j := nI_clamp (by omega)
    obtain ⟨a1, a2, a3, a4⟩ := hS.1 j hj
    simp only [mS_eq, vI_eq, vL_eq, bV_v, bI_i, bL_l, xrb_b, xrb_0, xrb_1, xite_eq, b2_t, b2_f, i10, b2_eq0, b2_eq1, Bool.and_true, Bool.true_and, Bool.false_and, Bool.not_true, Bool.not_false, ↓reduceIte, not_false_eq_true, not_true_eq_false, decide_true, decide_false, hp3, s12_within, k3, k9, k15, k21, xck_t x3, xck_t x9, xck_t x15, xck_t x21, q3, q9, q15, q21, a1, a2, a3, a4, s12_weightOf hH hj, aGuest, hc, Bool.true_eq_false]
    by_cases hw : wit 0 6 w = true
    · simp only [hw, mS_eq, vI_eq, vL_eq, bV_v, bI_i, bL_l, xrb_b, xrb_0, xrb_1, xite_eq, b2_t, b2_f, i10, b2_eq0, b2_eq1, Bool.and_true, Bool.true_and, Bool.false_and, Bool.not_true, Bool.not_false, ↓reduceIte, not_false_eq_true, not_true_eq_false, decide_true, decide_false, Bool.true_eq_false]
      by_cases w1 : w = 1
      · subst w1; rfl
      by_cases w2 : w = 2
      · subst w2; simp [s12_ch hH hj, bI_i]
      by_cases w3 : w = 3
      · subst w3; rfl
      by_cases w4 : w = 4
      · subst w4; rfl
      by_cases w5 : w = 5
      · subst w5; rfl
      by_cases w6 : w = 6
      · subst w6; rfl
      obtain rfl := wit_06 hw w1 w2 w3 w4 w5 w6
      simp [s12_kd hH hj, bI_i]
    · have hw' : wit 0 6 w = false := by simpa using hw
      have n0 := wit_lit hw' (x := 0) (by decide)
      have n1 := wit_lit hw' (x := 1) (by decide)
      have n2 := wit_lit hw' (x := 2) (by decide)
      have n3 := wit_lit hw' (x := 3) (by decide)
      have n4 := wit_lit hw' (x := 4) (by decide)
      have n5 := wit_lit hw' (x := 5) (by decide)
      have n6 := wit_lit hw' (x := 6) (by decide)
      simp [hw', n0, n1, n2, n3, n4, n5, n6]
-- belt
theorem fst_uq {c : Nat → Bool} {d : Int32} {g : Nat} (hc : c g = true) : ∀ n k, k ≤ g → g < k + n → (∀ j, k ≤ j → j < k + n → c j = true → j = g) → fst c d k n = nI g
  | 0, k, h1, h2, _ => by omega
  | n + 1, k, h1, h2, hu => by
    rw [fst]
    by_cases hk : c k = true
    · rw [if_pos hk, hu k (Nat.le_refl k) (by omega) hk]
    · rw [if_neg hk]
      have : k ≠ g := fun e => hk (e ▸ hc)
      exact fst_uq hc n (k + 1) (by omega) (by omega) (fun j h3 h4 => hu j (by omega) (by omega))
theorem lst_uq {c : Nat → Bool} {g : Nat} (hc : c g = true) : ∀ n, g < n → (∀ j, j < n → c j = true → j = g) → fo (fun k a => if c k then nI k else a) (-1 : Int32) n = nI g
  | 0, h, _ => by omega
  | n + 1, h, hu => by
    rw [fo]
    by_cases hn : c n = true
    · rw [if_pos hn, hu n (by omega) hn]
    · rw [if_neg hn]
      have : n ≠ g := fun e => hn (e ▸ hc)
      exact lst_uq hc n (by omega) (fun j h3 => hu j (by omega))
theorem lst_no {c : Nat → Bool} : ∀ n, (∀ j, j < n → c j = false) → fo (fun k a => if c k then nI k else a) (-1 : Int32) n = -1
  | 0, _ => rfl
  | n + 1, h => by rw [fo, h n (by omega)]; exact lst_no n (fun j hj => h j (by omega))
theorem hold_last {h : HS} {s : SS} (hI : SI h s) (h6 : hG h ≤ 6) {b : Nat} (hb : b < 2 ^ 31) : fo (fun k a => if decide (s 3 k = nI b) then nI k else a) (-1 : Int32) (hG h) = hold h s (nI b) := by
  unfold hold
  by_cases hx : ∃ g, g < hG h ∧ s 3 g = nI b
  · obtain ⟨g, hg, e⟩ := hx
    have hu : ∀ j, j < hG h → decide (s 3 j = nI b) = true → j = g := by
      intro j hj ej
      by_cases hne : j = g
      · exact hne
      · have e1 := hI.2.1 j g hj hg hne (by rw [of_decide_eq_true ej, e])
        rw [of_decide_eq_true ej, nI_nneg hb (by decide)] at e1
        exact e1.elim
    rw [lst_uq (c := fun k => decide (s 3 k = nI b)) (g := g) (by simp [e]) (hG h) hg hu, fst_uq (g := g) (by simp [e]) (hG h) 0 (by omega) (by omega) (fun j _ hj => hu j (by omega))]
  · have hn : ∀ j, j < hG h → decide (s 3 j = nI b) = false := by
      intro j hj
      by_cases e : s 3 j = nI b
      · exact absurd ⟨j, hj, e⟩ hx
      · simp [e]
    rw [lst_no (c := fun k => decide (s 3 k = nI b)) (hG h) hn]
    exact ((fst_none (hG h) 0 (by omega) (by decide)).mpr (fun j _ hj => hn j (by omega))).symm
def aBelt (A : AS) (p w : Int32) : Int32 := if inR (hB (aH A)) p then (if w = 0 then hf (aH A) 5 p.toNatClampNeg else if w = 1 then hold (aH A) (aS A) p else -2) else -2
theorem c_belt (hR : RC A μ) (p w : Int32) : f11_belt p w μ = xri (aBelt A p w) μ := by
  have hH := RC_H hR
  have hS := RC_S hR
  have h5 := CH_5 hH
  rw [f11_belt_e, k11_belt, s2_isBelt hH]
  rcases inR_cases (n := hB (aH A)) (by omega) p with ⟨hp, hp'⟩ | ⟨j, hj, rfl, hp1, hp2, hp3⟩
  · simp only [mS_eq, vI_eq, vL_eq, bV_v, bI_i, bL_l, xrb_b, xrb_0, xrb_1, xite_eq, b2_t, b2_f, i10, b2_eq0, b2_eq1, Bool.and_true, Bool.true_and, Bool.false_and, Bool.not_true, Bool.not_false, ↓reduceIte, not_false_eq_true, not_true_eq_false, decide_true, decide_false, hp, aBelt, Bool.false_eq_true]
  · have hx : xin (nI j) 5 = true := xin_t (by omega) (by omega)
    have hc : (nI j).toNatClampNeg = j := nI_clamp (by omega)
    simp only [mS_eq, vI_eq, vL_eq, bV_v, bI_i, bL_l, xrb_b, xrb_0, xrb_1, xite_eq, b2_t, b2_f, i10, b2_eq0, b2_eq1, Bool.and_true, Bool.true_and, Bool.false_and, Bool.not_true, Bool.not_false, ↓reduceIte, not_false_eq_true, not_true_eq_false, decide_true, decide_false, hp3, aBelt, xck_t hx, hc, CH_be hH hj, s8_holderOf hH hS, xri_if, Bool.true_eq_false]
theorem m_belt (hI : AI A) (hR : RM A μ) (p w : Int32) : f12_belt p w μ = xri (aBelt A p w) (m0 μ) := by
  have hR1 := m0_R hI hR
  have hH := RM_H hR1
  have hS := RM_S hR1
  have h6 := RH_6 hH
  have h5 := RH_5 hH
  rw [f12_belt_e, k12_belt, mS_eq]
  change (bI (f12_isBelt p (m0 μ)) _) = _
  rw [s12_isBelt hH, bI_i]
  rcases inR_cases (n := hB (aH A)) (by omega) p with ⟨hp, hp'⟩ | ⟨j, hj, rfl, hp1, hp2, hp3⟩
  · simp only [mS_eq, vI_eq, vL_eq, bV_v, bI_i, bL_l, xrb_b, xrb_0, xrb_1, xite_eq, b2_t, b2_f, i10, b2_eq0, b2_eq1, Bool.and_true, Bool.true_and, Bool.false_and, Bool.not_true, Bool.not_false, ↓reduceIte, not_false_eq_true, not_true_eq_false, decide_true, decide_false, hp, aBelt, Bool.false_eq_true]
  · have hc : (nI j).toNatClampNeg = j := nI_clamp (by omega)
    simp only [mS_eq, vI_eq, vL_eq, bV_v, bI_i, bL_l, xrb_b, xrb_0, xrb_1, xite_eq, b2_t, b2_f, i10, b2_eq0, b2_eq1, Bool.and_true, Bool.true_and, Bool.false_and, Bool.not_true, Bool.not_false, ↓reduceIte, not_false_eq_true, not_true_eq_false, decide_true, decide_false, hp3, s12_within, aBelt, hc, Bool.true_eq_false]
    by_cases hw : wit 0 1 w = true
    · simp only [hw, mS_eq, vI_eq, vL_eq, bV_v, bI_i, bL_l, xrb_b, xrb_0, xrb_1, xite_eq, b2_t, b2_f, i10, b2_eq0, b2_eq1, Bool.and_true, Bool.true_and, Bool.false_and, Bool.not_true, Bool.not_false, ↓reduceIte, not_false_eq_true, not_true_eq_false, decide_true, decide_false, Bool.true_eq_false]
      have key := lp_fo (F := fun n a k => h12_belt_30 n (nI j) w a k (m0 μ)) (st := fun k a => if decide (aS A 3 k = nI j) then nI k else a) (G := hG (aH A)) (R := fun a => if w = 0 then xri (hf (aH A) 5 j) (m0 μ) else xri a (m0 μ)) ?_ ?_ (-1) (hG (aH A)) 0 20000 (by omega) (by omega)
      · rw [hold_last (AI_S hI) h6 (by omega)] at key
        have key' : h12_belt_30 20000 (nI j) w (-1) 0 (m0 μ) = if w = 0 then xri (hf (aH A) 5 j) (m0 μ) else xri (hold (aH A) (aS A) (nI j)) (m0 μ) := key
        rw [key']
        simp only [wit, Bool.and_eq_true, decide_eq_true_eq] at hw
        obtain ⟨i, i1, i2⟩ := nI_of2 (x := w) (M := 1) (n := 1) (by decide) hw.1 (Int32.not_lt.mp hw.2)
        have : i = 0 ∨ i = 1 := by omega
        rcases this with rfl | rfl
        · subst i2; rfl
        · subst i2; rfl
      · intro n a
        simp only [h12_belt_30_s, s12_guests hH, mS_eq, vI_eq, vL_eq, bV_v, bI_i, bL_l, xrb_b, xrb_0, xrb_1, xite_eq, b2_t, b2_f, i10, b2_eq0, b2_eq1, Bool.and_true, Bool.true_and, Bool.false_and, Bool.not_true, Bool.not_false, ↓reduceIte, not_false_eq_true, not_true_eq_false, decide_true, decide_false, Int32.lt_irrefl, s12_bearsOf hH hj]
      · intro n a k hk
        have h1 := nI_lt hk (show hG (aH A) < 2 ^ 31 by omega)
        have k15 : (15 + nI k : Int32) = nI (0 + 15 + k) := by rw [L15, nI_add]
        have x15 : xin (nI (0 + 15 + k)) 1081 = true := xin_t (by omega) (by omega)
        have q15 : (nI (0 + 15 + k)).toNatClampNeg = 0 + 15 + k := nI_clamp (by omega)
        simp only [h12_belt_30_s, s12_guests hH, mS_eq, vI_eq, vL_eq, bV_v, bI_i, bL_l, xrb_b, xrb_0, xrb_1, xite_eq, b2_t, b2_f, i10, b2_eq0, b2_eq1, Bool.and_true, Bool.true_and, Bool.false_and, Bool.not_true, Bool.not_false, ↓reduceIte, not_false_eq_true, not_true_eq_false, decide_true, decide_false, h1, k15, xck_t x15, q15, (hS.1 k hk).2.2.2, ← nI_succ, decide_eq_true_eq]
        split <;> rfl
    · have hw' : wit 0 1 w = false := by simpa using hw
      have n0 := wit_lit hw' (x := 0) (by decide)
      have n1 := wit_lit hw' (x := 1) (by decide)
      simp [hw', n0, n1]
-- man
def aMan (A : AS) (p w : Int32) : Int32 := if inR (hM (aH A)) p then (if w = 0 then hf (aH A) 6 p.toNatClampNeg else if w = 1 then hf (aH A) 7 p.toNatClampNeg else if w = 2 then b2 (free (aS A) p.toNatClampNeg) else -1) else -1
theorem c_man (hR : RC A μ) (p w : Int32) : f11_man p w μ = xri (aMan A p w) μ := by
  have hH := RC_H hR
  have hS := RC_S hR
  have h3 := CH_3 hH
  rw [f11_man_e, k11_man, s2_isMan hH]
  rcases inR_cases (n := hM (aH A)) (by omega) p with ⟨hp, hp'⟩ | ⟨j, hj, rfl, hp1, hp2, hp3⟩
  · simp only [mS_eq, vI_eq, vL_eq, bV_v, bI_i, bL_l, xrb_b, xrb_0, xrb_1, xite_eq, b2_t, b2_f, i10, b2_eq0, b2_eq1, Bool.and_true, Bool.true_and, Bool.false_and, Bool.not_true, Bool.not_false, ↓reduceIte, not_false_eq_true, not_true_eq_false, decide_true, decide_false, hp, aMan, Bool.false_eq_true]
  · have hx : xin (nI j) 3 = true := xin_t (by omega) (by omega)
    have hc : (nI j).toNatClampNeg = j := nI_clamp (by omega)
    simp only [mS_eq, vI_eq, vL_eq, bV_v, bI_i, bL_l, xrb_b, xrb_0, xrb_1, xite_eq, b2_t, b2_f, i10, b2_eq0, b2_eq1, Bool.and_true, Bool.true_and, Bool.false_and, Bool.not_true, Bool.not_false, ↓reduceIte, not_false_eq_true, not_true_eq_false, decide_true, decide_false, hp3, aMan, xck_t hx, hc, CH_po hH hj, CH_re hH hj, s8_isFree hH hS, xri_if, Bool.true_eq_false]
    grind [b2]
theorem m_man (hI : AI A) (hR : RM A μ) (p w : Int32) : f12_man p w μ = xri (aMan A p w) (m0 μ) := by
  have hR1 := m0_R hI hR
  have hH := RM_H hR1
  have hS := RM_S hR1
  have h3 := RH_3 hH
  rw [f12_man_e, k12_man, mS_eq]
  change (bI (f12_isMan p (m0 μ)) _) = _
  rw [s12_isMan hH, bI_i]
  rcases inR_cases (n := hM (aH A)) (by omega) p with ⟨hp, hp'⟩ | ⟨j, hj, rfl, hp1, hp2, hp3⟩
  · simp only [mS_eq, vI_eq, vL_eq, bV_v, bI_i, bL_l, xrb_b, xrb_0, xrb_1, xite_eq, b2_t, b2_f, i10, b2_eq0, b2_eq1, Bool.and_true, Bool.true_and, Bool.false_and, Bool.not_true, Bool.not_false, ↓reduceIte, not_false_eq_true, not_true_eq_false, decide_true, decide_false, hp, aMan, Bool.false_eq_true]
  · have hc : (nI j).toNatClampNeg = j := nI_clamp (by omega)
    simp only [mS_eq, vI_eq, vL_eq, bV_v, bI_i, bL_l, xrb_b, xrb_0, xrb_1, xite_eq, b2_t, b2_f, i10, b2_eq0, b2_eq1, Bool.and_true, Bool.true_and, Bool.false_and, Bool.not_true, Bool.not_false, ↓reduceIte, not_false_eq_true, not_true_eq_false, decide_true, decide_false, hp3, s12_within, aMan, hc, Bool.true_eq_false]
    by_cases hw : wit 0 2 w = true
    · simp only [hw, mS_eq, vI_eq, vL_eq, bV_v, bI_i, bL_l, xrb_b, xrb_0, xrb_1, xite_eq, b2_t, b2_f, i10, b2_eq0, b2_eq1, Bool.and_true, Bool.true_and, Bool.false_and, Bool.not_true, Bool.not_false, ↓reduceIte, not_false_eq_true, not_true_eq_false, decide_true, decide_false, Bool.true_eq_false, s12_isFree hS (by omega) h3 B0 hj]
      simp only [wit, Bool.and_eq_true, decide_eq_true_eq] at hw
      obtain ⟨i, i1, i2⟩ := nI_of2 (x := w) (M := 2) (n := 2) (by decide) hw.1 (Int32.not_lt.mp hw.2)
      have : i = 0 ∨ i = 1 ∨ i = 2 := by omega
      rcases this with rfl | rfl | rfl
      · obtain rfl : w = 0 := i2
        simp [s12_po hH hj, bI_i]
      · obtain rfl : w = 1 := i2
        simp [s12_re hH hj, bI_i]
      · obtain rfl : w = 2 := i2
        simp
        grind [b2]
    · have hw' : wit 0 2 w = false := by simpa using hw
      have n0 := wit_lit hw' (x := 0) (by decide)
      have n1 := wit_lit hw' (x := 1) (by decide)
      have n2 := wit_lit hw' (x := 2) (by decide)
      simp [hw', n0, n1, n2]
-- under, cries
def aUnder (A : AS) : Int32 := nI (bN (fun g => undr (aH A) (aS A) g) (hG (aH A)))
theorem c_under (hR : RC A μ) : f11_under μ = xri (aUnder A) μ := by
  have hH := RC_H hR
  have hS := RC_S hR
  have h6 := CH_6 hH
  rw [f11_under_e, k11_under, vI_eq, vI_eq]
  refine lp_bits (F := fun n a k => h11_under_4 n a k μ) (c := fun g => undr (aH A) (aS A) g) (G := hG (aH A)) (R := fun a => xri a μ) (by omega) ?_ ?_ (hG (aH A)) 0 20000 (by omega) (by omega)
  · intro n a
    simp only [h11_under_4_s, CH_G hH, mS_eq, vI_eq, vL_eq, bV_v, bI_i, bL_l, xrb_b, xrb_0, xrb_1, xite_eq, b2_t, b2_f, i10, b2_eq0, b2_eq1, Bool.and_true, Bool.true_and, Bool.false_and, Bool.not_true, Bool.not_false, ↓reduceIte, not_false_eq_true, not_true_eq_false, decide_true, decide_false, Int32.lt_irrefl]
  · intro n a k hk
    have h1 := nI_lt hk (show hG (aH A) < 2 ^ 31 by omega)
    simp only [h11_under_4_s, CH_G hH, mS_eq, vI_eq, vL_eq, bV_v, bI_i, bL_l, xrb_b, xrb_0, xrb_1, xite_eq, b2_t, b2_f, i10, b2_eq0, b2_eq1, Bool.and_true, Bool.true_and, Bool.false_and, Bool.not_true, Bool.not_false, ↓reduceIte, not_false_eq_true, not_true_eq_false, decide_true, decide_false, h1, s8_isUnder hH hS, inR_t (show hG (aH A) < 2 ^ 31 by omega) hk, nI_clamp (show k < 2 ^ 31 by omega), or_bit _ (show k < 31 by omega), ← nI_succ]
    grind
theorem m_under (hI : AI A) (hR : RM A μ) : f12_under μ = xri (aUnder A) (m0 μ) := by
  have hR1 := m0_R hI hR
  have hH := RM_H hR1
  have hS := RM_S hR1
  have h6 := RH_6 hH
  have key : f12_underNow (m0 μ) = xri (aUnder A) (m0 μ) := by
    rw [f12_underNow_e, k12_underNow, vI_eq, vI_eq]
    refine lp_bits (F := fun n a k => h12_underNow_4 n a k (m0 μ)) (c := fun g => undr (aH A) (aS A) g) (G := hG (aH A)) (R := fun a => xri a (m0 μ)) (by omega) ?_ ?_ (hG (aH A)) 0 20000 (by omega) (by omega)
    · intro n a
      simp only [h12_underNow_4_s, s12_guests hH, mS_eq, vI_eq, vL_eq, bV_v, bI_i, bL_l, xrb_b, xrb_0, xrb_1, xite_eq, b2_t, b2_f, i10, b2_eq0, b2_eq1, Bool.and_true, Bool.true_and, Bool.false_and, Bool.not_true, Bool.not_false, ↓reduceIte, not_false_eq_true, not_true_eq_false, decide_true, decide_false, Int32.lt_irrefl]
    · intro n a k hk
      have h1 := nI_lt hk (show hG (aH A) < 2 ^ 31 by omega)
      simp only [h12_underNow_4_s, s12_guests hH, mS_eq, vI_eq, vL_eq, bV_v, bI_i, bL_l, xrb_b, xrb_0, xrb_1, xite_eq, b2_t, b2_f, i10, b2_eq0, b2_eq1, Bool.and_true, Bool.true_and, Bool.false_and, Bool.not_true, Bool.not_false, ↓reduceIte, not_false_eq_true, not_true_eq_false, decide_true, decide_false, h1, s12_isUnder hH hS (AI_S hI) (by omega) B0 hk, or_bit _ (show k < 31 by omega), or_0, ← nI_succ]
      grind
  rw [f12_under_e, k12_under, mS_eq]
  change (bI (f12_underNow (m0 μ)) _) = _
  rw [key, bI_i]
def aCries (A : AS) : Int32 := nI (criers (aH A) (aS A))
theorem c_cries (hR : RC A μ) : f11_cries μ = xri (aCries A) μ := by
  rw [f11_cries_e, k11_cries, s8_criers (RC_H hR) (RC_S hR), bI_i]; rfl
theorem m_cries (hI : AI A) (hR : RM A μ) : f12_cries μ = xri (aCries A) (m0 μ) := by
  have hR1 := m0_R hI hR
  rw [f12_cries_e, k12_cries, mS_eq]
  change (bI (f12_criers 0 (m0 μ)) _) = _
  rw [s12_criers (RM_H hR1) (RM_S hR1) (AI_S hI) (by omega) B0, bI_i]; rfl
-- fits, could
def aFits (A : AS) (p : Int32) : Int32 := if inR (hB (aH A)) p then nI (fitsN (aH A) (aS A) p.toNatClampNeg) else -1
theorem c_fits (hR : RC A μ) (p : Int32) : f11_fits p μ = xri (aFits A p) μ := by
  have hH := RC_H hR
  have hS := RC_S hR
  have h5 := CH_5 hH
  rw [f11_fits_e, k11_fits, s2_isBelt hH]
  rcases inR_cases (n := hB (aH A)) (by omega) p with ⟨hp, hp'⟩ | ⟨j, hj, rfl, hp1, hp2, hp3⟩
  · simp only [mS_eq, vI_eq, vL_eq, bV_v, bI_i, bL_l, xrb_b, xrb_0, xrb_1, xite_eq, b2_t, b2_f, i10, b2_eq0, b2_eq1, Bool.and_true, Bool.true_and, Bool.false_and, Bool.not_true, Bool.not_false, ↓reduceIte, not_false_eq_true, not_true_eq_false, decide_true, decide_false, hp, aFits, Bool.false_eq_true]
  · simp only [mS_eq, vI_eq, vL_eq, bV_v, bI_i, bL_l, xrb_b, xrb_0, xrb_1, xite_eq, b2_t, b2_f, i10, b2_eq0, b2_eq1, Bool.and_true, Bool.true_and, Bool.false_and, Bool.not_true, Bool.not_false, ↓reduceIte, not_false_eq_true, not_true_eq_false, decide_true, decide_false, hp3, aFits, nI_clamp (show j < 2 ^ 31 by omega), s8_borneBy hH hS hj, Bool.true_eq_false]
theorem s12_fitsOf {h : HS} {s : SS} (hH : RH h μ) (hS : RS 0 h s μ) {k : Nat} (hk : k < hB h) : f12_fitsOf (nI k) μ = xri (nI (fitsN h s k)) μ := by
  have h6 := RH_6 hH
  rw [f12_fitsOf_e, k12_fitsOf, vI_eq, vI_eq]
  refine lp_bits (F := fun n a j => h12_fitsOf_4 n (nI k) a j μ) (c := fun g => isIn s g && (!shb h g && brn h k g)) (G := hG h) (R := fun a => xri a μ) (by omega) ?_ ?_ (hG h) 0 20000 (by omega) (by omega)
  · intro n a
    simp only [h12_fitsOf_4_s, s12_guests hH, mS_eq, vI_eq, vL_eq, bV_v, bI_i, bL_l, xrb_b, xrb_0, xrb_1, xite_eq, b2_t, b2_f, i10, b2_eq0, b2_eq1, Bool.and_true, Bool.true_and, Bool.false_and, Bool.not_true, Bool.not_false, ↓reduceIte, not_false_eq_true, not_true_eq_false, decide_true, decide_false, Int32.lt_irrefl]
  · intro n a g hg
    have h1 := nI_lt hg (show hG h < 2 ^ 31 by omega)
    simp only [h12_fitsOf_4_s, s12_guests hH, mS_eq, vI_eq, vL_eq, bV_v, bI_i, bL_l, xrb_b, xrb_0, xrb_1, xite_eq, b2_t, b2_f, i10, b2_eq0, b2_eq1, Bool.and_true, Bool.true_and, Bool.false_and, Bool.not_true, Bool.not_false, ↓reduceIte, not_false_eq_true, not_true_eq_false, decide_true, decide_false, h1, s12_isIn hS (by omega) h6 B0 hg, s12_kd hH hg, s12_doesBear hH hk hg, or_bit _ (show g < 31 by omega), or_0, ← nI_succ, shb]
    grind
theorem m_fits (hI : AI A) (hR : RM A μ) (p : Int32) : f12_fits p μ = xri (aFits A p) (m0 μ) := by
  have hR1 := m0_R hI hR
  have hH := RM_H hR1
  have h5 := RH_5 hH
  rw [f12_fits_e, k12_fits, mS_eq]
  change (bI (f12_isBelt p (m0 μ)) _) = _
  rw [s12_isBelt hH, bI_i]
  rcases inR_cases (n := hB (aH A)) (by omega) p with ⟨hp, hp'⟩ | ⟨j, hj, rfl, hp1, hp2, hp3⟩
  · simp only [mS_eq, vI_eq, vL_eq, bV_v, bI_i, bL_l, xrb_b, xrb_0, xrb_1, xite_eq, b2_t, b2_f, i10, b2_eq0, b2_eq1, Bool.and_true, Bool.true_and, Bool.false_and, Bool.not_true, Bool.not_false, ↓reduceIte, not_false_eq_true, not_true_eq_false, decide_true, decide_false, hp, aFits, Bool.false_eq_true]
  · simp only [mS_eq, vI_eq, vL_eq, bV_v, bI_i, bL_l, xrb_b, xrb_0, xrb_1, xite_eq, b2_t, b2_f, i10, b2_eq0, b2_eq1, Bool.and_true, Bool.true_and, Bool.false_and, Bool.not_true, Bool.not_false, ↓reduceIte, not_false_eq_true, not_true_eq_false, decide_true, decide_false, hp3, aFits, nI_clamp (show j < 2 ^ 31 by omega), s12_fitsOf hH (RM_S hR1) hj, Bool.true_eq_false]
def aCould (A : AS) (p : Int32) : Int32 := if inR (hM (aH A)) p then nI (bN (fun g => rch (aH A) (aS A) p.toNatClampNeg g) (hG (aH A))) else -1
theorem c_could (hR : RC A μ) (p : Int32) : f11_could p μ = xri (aCould A p) μ := by
  have hH := RC_H hR
  have hS := RC_S hR
  have h3 := CH_3 hH
  have h6 := CH_6 hH
  rw [f11_could_e, k11_could, s2_isMan hH]
  rcases inR_cases (n := hM (aH A)) (by omega) p with ⟨hp, hp'⟩ | ⟨j, hj, rfl, hp1, hp2, hp3⟩
  · simp only [mS_eq, vI_eq, vL_eq, bV_v, bI_i, bL_l, xrb_b, xrb_0, xrb_1, xite_eq, b2_t, b2_f, i10, b2_eq0, b2_eq1, Bool.and_true, Bool.true_and, Bool.false_and, Bool.not_true, Bool.not_false, ↓reduceIte, not_false_eq_true, not_true_eq_false, decide_true, decide_false, hp, aCould, Bool.false_eq_true]
  · simp only [mS_eq, vI_eq, vL_eq, bV_v, bI_i, bL_l, xrb_b, xrb_0, xrb_1, xite_eq, b2_t, b2_f, i10, b2_eq0, b2_eq1, Bool.and_true, Bool.true_and, Bool.false_and, Bool.not_true, Bool.not_false, ↓reduceIte, not_false_eq_true, not_true_eq_false, decide_true, decide_false, hp3, aCould, nI_clamp (show j < 2 ^ 31 by omega), Bool.true_eq_false]
    refine lp_bits (F := fun n a k => h11_could_17 n (nI j) a k μ) (c := fun g => rch (aH A) (aS A) j g) (G := hG (aH A)) (R := fun a => xri a μ) (by omega) ?_ ?_ (hG (aH A)) 0 20000 (by omega) (by omega)
    · intro n a
      simp only [h11_could_17_s, CH_G hH, mS_eq, vI_eq, vL_eq, bV_v, bI_i, bL_l, xrb_b, xrb_0, xrb_1, xite_eq, b2_t, b2_f, i10, b2_eq0, b2_eq1, Bool.and_true, Bool.true_and, Bool.false_and, Bool.not_true, Bool.not_false, ↓reduceIte, not_false_eq_true, not_true_eq_false, decide_true, decide_false, Int32.lt_irrefl]
    · intro n a k hk
      have h1 := nI_lt hk (show hG (aH A) < 2 ^ 31 by omega)
      simp only [h11_could_17_s, CH_G hH, mS_eq, vI_eq, vL_eq, bV_v, bI_i, bL_l, xrb_b, xrb_0, xrb_1, xite_eq, b2_t, b2_f, i10, b2_eq0, b2_eq1, Bool.and_true, Bool.true_and, Bool.false_and, Bool.not_true, Bool.not_false, ↓reduceIte, not_false_eq_true, not_true_eq_false, decide_true, decide_false, h1, s8_canReach hH hS, hp3, inR_t (show hG (aH A) < 2 ^ 31 by omega) hk, nI_clamp (show k < 2 ^ 31 by omega), nI_clamp (show j < 2 ^ 31 by omega), or_bit _ (show k < 31 by omega), ← nI_succ]
      grind
theorem m_could (hI : AI A) (hR : RM A μ) (p : Int32) : f12_could p μ = xri (aCould A p) (m0 μ) := by
  have hR1 := m0_R hI hR
  have hH := RM_H hR1
  have hS := RM_S hR1
  have h3 := RH_3 hH
  have h6 := RH_6 hH
  rw [f12_could_e, k12_could, mS_eq]
  change (bI (f12_isMan p (m0 μ)) _) = _
  rw [s12_isMan hH, bI_i]
  rcases inR_cases (n := hM (aH A)) (by omega) p with ⟨hp, hp'⟩ | ⟨j, hj, rfl, hp1, hp2, hp3⟩
  · simp only [mS_eq, vI_eq, vL_eq, bV_v, bI_i, bL_l, xrb_b, xrb_0, xrb_1, xite_eq, b2_t, b2_f, i10, b2_eq0, b2_eq1, Bool.and_true, Bool.true_and, Bool.false_and, Bool.not_true, Bool.not_false, ↓reduceIte, not_false_eq_true, not_true_eq_false, decide_true, decide_false, hp, aCould, Bool.false_eq_true]
  · simp only [mS_eq, vI_eq, vL_eq, bV_v, bI_i, bL_l, xrb_b, xrb_0, xrb_1, xite_eq, b2_t, b2_f, i10, b2_eq0, b2_eq1, Bool.and_true, Bool.true_and, Bool.false_and, Bool.not_true, Bool.not_false, ↓reduceIte, not_false_eq_true, not_true_eq_false, decide_true, decide_false, hp3, aCould, nI_clamp (show j < 2 ^ 31 by omega), Bool.true_eq_false]
    refine lp_bits (F := fun n a k => h12_could_19 n (nI j) a k (m0 μ)) (c := fun g => rch (aH A) (aS A) j g) (G := hG (aH A)) (R := fun a => xri a (m0 μ)) (by omega) ?_ ?_ (hG (aH A)) 0 20000 (by omega) (by omega)
    · intro n a
      simp only [h12_could_19_s, s12_guests hH, mS_eq, vI_eq, vL_eq, bV_v, bI_i, bL_l, xrb_b, xrb_0, xrb_1, xite_eq, b2_t, b2_f, i10, b2_eq0, b2_eq1, Bool.and_true, Bool.true_and, Bool.false_and, Bool.not_true, Bool.not_false, ↓reduceIte, not_false_eq_true, not_true_eq_false, decide_true, decide_false, Int32.lt_irrefl]
    · intro n a k hk
      have h1 := nI_lt hk (show hG (aH A) < 2 ^ 31 by omega)
      simp only [h12_could_19_s, s12_guests hH, mS_eq, vI_eq, vL_eq, bV_v, bI_i, bL_l, xrb_b, xrb_0, xrb_1, xite_eq, b2_t, b2_f, i10, b2_eq0, b2_eq1, Bool.and_true, Bool.true_and, Bool.false_and, Bool.not_true, Bool.not_false, ↓reduceIte, not_false_eq_true, not_true_eq_false, decide_true, decide_false, h1, s12_couldCast hH hS (AI_S hI) (by omega) B0 hj hk, or_bit _ (show k < 31 by omega), or_0, ← nI_succ]
      grind
end
