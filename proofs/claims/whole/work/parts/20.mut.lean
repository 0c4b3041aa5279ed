/-! THE PURE PART: what the component does to a scene -/
theorem lp_rel {σ : Type} {F : Nat → σ → Int32 → XR} (I : Nat → σ → Prop) {Q : XR → Prop} {e : Nat}
    (hx : ∀ n s, I e s → Q (F (n + 1) s (nI e)))
    (hs : ∀ n s k, k < e → I k s → ∃ s', I (k + 1) s' ∧ F (n + 1) s (nI k) = F n s' (nI (k + 1))) :
    ∀ d k n s, k + d = e → d < n → I k s → Q (F n s (nI k)) := by
  intro d
  induction d with
  | zero =>
    intro k n s h hn hI
    obtain ⟨m, rfl⟩ : ∃ m, n = m + 1 := ⟨n - 1, by omega⟩
    obtain rfl : k = e := by omega
    exact hx m s hI
  | succ d ih =>
    intro k n s h hn hI
    obtain ⟨m, rfl⟩ : ∃ m, n = m + 1 := ⟨n - 1, by omega⟩
    obtain ⟨s', hI', he⟩ := hs m s k (by omega) hI
    rw [he]
    exact ih (k + 1) m s' (by omega) (by omega) hI'
def up (s : SS) (f k : Nat) (x : Int32) : SS := fun f' k' => if f' = f ∧ k' = k then x else s f' k'
theorem up_s {s : SS} {f k : Nat} {x : Int32} : up s f k x f k = x := by simp [up]
theorem up_ap {s : SS} {f k f' k' : Nat} {x : Int32} : up s f k x f' k' = if f' = f ∧ k' = k then x else s f' k' := rfl
def FrS (i : Nat) (μ ν : XM) : Prop := ∀ t j, ¬ (t = 8 ∧ j = i) → ν t j = μ t j
theorem FrS_r {i : Nat} {μ : XM} : FrS i μ μ := fun _ _ _ => rfl
theorem FrS_t {i : Nat} {μ ν ξ : XM} (a : FrS i μ ν) (b : FrS i ν ξ) : FrS i μ ξ := fun t j h => (b t j h).trans (a t j h)
/-- what holds of a scene -/
def SI (h : HS) (s : SS) : Prop :=
  (∀ g, g < hG h → (s 2 g = 0 ∨ s 2 g = 1 ∨ s 2 g = 2) ∧ (∃ p, p ≤ 9 ∧ s 0 g = nI p ∧ (s 2 g = 0 → 1 ≤ p)) ∧ (s 2 g = 0 → ∃ r, 1 ≤ r ∧ r ≤ 9 ∧ s 1 g = nI r) ∧ (s 3 g = -1 ∨ (s 2 g = 0 ∧ ∃ b, b < hB h ∧ s 3 g = nI b))) ∧
  (∀ g g', g < hG h → g' < hG h → g ≠ g' → s 3 g = s 3 g' → s 3 g = -1) ∧
  (∀ m, m < hM h → s 4 m = 0 ∨ s 4 m = 1) ∧
  (∃ k, k ≤ 9 ∧ s 5 0 = nI k) ∧ (∃ d, d ≤ 60 ∧ s 6 0 = nI d)
/-- what holds of a house -/
def HI (h : HS) : Prop :=
  (hG h ≤ 6 ∧ hB h ≤ 5 ∧ hM h ≤ 3) ∧
  (∀ g, g < hG h → (∃ p, 1 ≤ p ∧ p ≤ 9 ∧ hf h 1 g = nI p) ∧ (∃ c, c ≤ 40 ∧ hf h 2 g = nI c) ∧ (∃ r, 1 ≤ r ∧ r ≤ 9 ∧ hf h 3 g = nI r) ∧ (∃ w, w ≤ 35 ∧ hf h 4 g = nI w) ∧ (∃ k, k ≤ 3 ∧ hf h 0 g = nI k)) ∧
  (∀ b, b < hB h → ∃ w, w ≤ 40 ∧ hf h 5 b = nI w) ∧
  (∀ m, m < hM h → (∃ p, p ≤ 9 ∧ hf h 6 m = nI p) ∧ ∃ r, r ≤ 9 ∧ hf h 7 m = nI r) ∧
  (∃ k, k ≤ 9 ∧ hf h 8 0 = nI k) ∧ (∃ w, w ≤ 40 ∧ hf h 9 0 = nI w)
def s0 (h : HS) : SS := fun f k => match f with
  | 0 => hf h 1 k
  | 1 => hf h 3 k
  | 2 => 0
  | 3 => -1
  | 4 => 0
  | 5 => hf h 8 0
  | 6 => hf h 9 0
  | _ => 0
theorem s0_SI {h : HS} (hI : HI h) : SI h (s0 h) := by
  refine ⟨fun g hg => ⟨.inl rfl, ?_, ?_, .inl rfl⟩, fun g g' _ _ _ _ => rfl, fun m _ => .inl rfl, ?_, ?_⟩
  · obtain ⟨p, h1, h2, h3⟩ := (hI.2.1 g hg).1
    exact ⟨p, h2, h3, fun _ => h1⟩
  · intro _
    exact (hI.2.1 g hg).2.2.1
  · exact hI.2.2.2.2.1
  · obtain ⟨w, h1, h2⟩ := hI.2.2.2.2.2
    exact ⟨w, by omega, h2⟩
section
variable {i : Nat} {h : HS} {s : SS} {μ : XM}
theorem s8_copyFrom {j : Nat} (hH : CH 0 h μ) (hS : CS j h s μ) (hij : i ≠ j) : ∃ ν, f8_copyFrom i j μ = xrv ν ∧ CS i h s ν ∧ FrS i μ ν := by
  have h6 := CH_6 hH
  have hji : j ≠ i := fun e => hij e.symm
  rw [f8_copyFrom_e, k8_copyFrom]
  have e6 : (6 : Int32) = nI 6 := rfl
  simp (disch := (first | assumption | omega)) only [mS_eq, vI_eq, vL_eq, bV_v, bI_i, bL_l, xrb_b, xrb_0, xrb_1, xite_eq, b2_t, b2_f, i10, b2_eq0, b2_eq1, Bool.and_true, Bool.true_and, Bool.false_and, Bool.not_true, Bool.not_false, ↓reduceIte, not_false_eq_true, not_true_eq_false, decide_true, decide_false, if_pos, if_neg, xck_if, e6, xcpk, Nat.le_refl]
  refine ⟨_, rfl, ?_, ?_⟩
  · refine ⟨fun g hg => ?_, ?_, ?_⟩
    · obtain ⟨a, b, c, d⟩ := hS.1 g hg
      have hg6 : g < 6 := by omega
      have z : Int32.toNatClampNeg 0 = 0 := rfl
      simp (disch := (first | assumption | omega)) only [rI_sI, rI_sL, rI_wI, rI_wL, rI_pI, rI_pL, rL_sI, rL_sL, rL_wI, rL_wL, rL_pI, rL_pL, aI_sI, aI_sL, aI_wI, aI_wL, aI_pI, aI_pL, aL_sI, aL_sL, aL_wI, aL_wL, aL_pI, aL_pL, z, nI_clamp, cpy_at, hg6, a, b, c, d, hji, true_and, and_true, false_and, and_false, ↓reduceIte, Nat.reduceEqDiff, and_self]
    · obtain ⟨v, hv, ev, hb⟩ := hS.2.1
      refine ⟨v, hv, ?_, hb⟩
      simp only [rI_sI, rI_sL, rI_wI, rI_wL, rI_pI, rI_pL, rL_sI, rL_sL, rL_wI, rL_wL, rL_pI, rL_pL, aI_sI, aI_sL, aI_wI, aI_wL, aI_pI, aI_pL, aL_sI, aL_sL, aL_wI, aL_wL, aL_pI, aL_pL, ev, hji, true_and, and_true, false_and, and_false, ↓reduceIte, Nat.reduceEqDiff]
    · simp only [rI_sI, rI_sL, rI_wI, rI_wL, rI_pI, rI_pL, rL_sI, rL_sL, rL_wI, rL_wL, rL_pI, rL_pL, aI_sI, aI_sL, aI_wI, aI_wL, aI_pI, aI_pL, aL_sI, aL_sL, aL_wI, aL_wL, aL_pI, aL_pL, CS_ga hS, CS_de hS, CS_mi hS, hji, true_and, and_true, false_and, and_false, ↓reduceIte, Nat.reduceEqDiff, and_self]
  · intro t k hn
    simp only [sI_ne hn, wI_ne hn]
theorem s8_begin (hH : CH 0 h μ) : ∃ ν, f8_begin i μ = xrv ν ∧ CS i h (s0 h) ν ∧ FrS i μ ν := by
  have h6 := CH_6 hH
  rw [f8_begin_e, k8_begin, vI_eq]
  refine lp_rel (F := fun n ν k => h8_begin_2 n i k ν) (fun k ν => (∀ g, g < k → aI ν 8 i 1 g = aI μ 2 0 7 g ∧ aI ν 8 i 2 g = aI μ 2 0 9 g ∧ aI ν 8 i 3 g = 0 ∧ aI ν 8 i 4 g = -1) ∧ FrS i μ ν) (Q := fun r => ∃ ν, r = xrv ν ∧ CS i h (s0 h) ν ∧ FrS i μ ν) (e := 6) ?_ ?_ 6 0 20000 μ (by omega) (by omega) ⟨fun g hg => absurd hg (Nat.not_lt_zero g), FrS_r⟩
  · intro n ν hI
    have e6 : (6 : Int32) = nI 6 := rfl
    have hH' : CH 0 h ν := CH_ob (hI.2 2 0 (by omega)) hH
    simp only [h8_begin_2_s, mS_eq, vI_eq, vL_eq, bV_v, bI_i, bL_l, xrb_b, xrb_0, xrb_1, xite_eq, b2_t, b2_f, i10, b2_eq0, b2_eq1, Bool.and_true, Bool.true_and, Bool.false_and, Bool.not_true, Bool.not_false, ↓reduceIte, not_false_eq_true, not_true_eq_false, decide_true, decide_false, if_pos, if_neg, e6, Int32.lt_irrefl, rI_sI, rI_sL, rI_wI, rI_wL, rI_pI, rI_pL, rL_sI, rL_sL, rL_wI, rL_wL, rL_pI, rL_pL, aI_sI, aI_sL, aI_wI, aI_wL, aI_pI, aI_pL, aL_sI, aL_sL, aL_wI, aL_wL, aL_pI, aL_pL, CH_hg hH', CH_hw hH', reduceCtorEq, Nat.reduceEqDiff, false_and]
    refine ⟨_, rfl, ⟨fun g hg => ?_, ⟨0, by omega, ?_, ?_⟩, ?_⟩, ?_⟩
    · obtain ⟨a, b, c, d⟩ := hI.1 g (by omega)
      simp only [rI_sI, rI_sL, rI_wI, rI_wL, rI_pI, rI_pL, rL_sI, rL_sL, rL_wI, rL_wL, rL_pI, rL_pL, aI_sI, aI_sL, aI_wI, aI_wL, aI_pI, aI_pL, aL_sI, aL_sL, aL_wI, aL_wL, aL_pI, aL_pL, a, b, c, d, CH_pl hH hg, CH_br hH hg]
      exact ⟨rfl, rfl, rfl, rfl⟩
    · simp [rI_sI, rI_sL, rI_wI, rI_wL, rI_pI, rI_pL, rL_sI, rL_sL, rL_wI, rL_wL, rL_pI, rL_pL, aI_sI, aI_sL, aI_wI, aI_wL, aI_pI, aI_pL, aL_sI, aL_sL, aL_wI, aL_wL, aL_pI, aL_pL, nI_lit]
    · intro m hm
      simp [free, s0]
    · simp [rI_sI, rI_sL, rI_wI, rI_wL, rI_pI, rI_pL, rL_sI, rL_sL, rL_wI, rL_wL, rL_pI, rL_pL, aI_sI, aI_sL, aI_wI, aI_wL, aI_pI, aI_pL, aL_sI, aL_sL, aL_wI, aL_wL, aL_pI, aL_pL, s0]
    · intro t k hn
      simp only [sI_ne hn]
      exact hI.2 t k hn
  · intro n ν k hk hI
    have e6 : (6 : Int32) = nI 6 := rfl
    have hb := hI.2 2 0 (by omega)
    simp (disch := (first | assumption | omega)) only [h8_begin_2_s, mS_eq, vI_eq, vL_eq, bV_v, bI_i, bL_l, xrb_b, xrb_0, xrb_1, xite_eq, b2_t, b2_f, i10, b2_eq0, b2_eq1, Bool.and_true, Bool.true_and, Bool.false_and, Bool.not_true, Bool.not_false, ↓reduceIte, not_false_eq_true, not_true_eq_false, decide_true, decide_false, if_pos, if_neg, e6, nI_lt, xck_if, xin_t, nI_clamp, ← nI_succ]
    refine ⟨_, ?_, rfl⟩
    refine ⟨fun g hg => ?_, fun t k' hn => ?_⟩
    · have e7 : aI ν 2 0 7 = aI μ 2 0 7 := aI_ob hb 7
      have e9 : aI ν 2 0 9 = aI μ 2 0 9 := aI_ob hb 9
      by_cases e : g = k
      · subst e
        simp [rI_sI, rI_sL, rI_wI, rI_wL, rI_pI, rI_pL, rL_sI, rL_sL, rL_wI, rL_wL, rL_pI, rL_pL, aI_sI, aI_sL, aI_wI, aI_wL, aI_pI, aI_pL, aL_sI, aL_sL, aL_wI, aL_wL, aL_pI, aL_pL, e7, e9]
      · have := hI.1 g (by omega)
        simp [rI_sI, rI_sL, rI_wI, rI_wL, rI_pI, rI_pL, rL_sI, rL_sL, rL_wI, rL_wL, rL_pI, rL_pL, aI_sI, aI_sL, aI_wI, aI_wL, aI_pI, aI_pL, aL_sI, aL_sL, aL_wI, aL_wL, aL_pI, aL_pL, this, e]
    · simp only [pI_ne hn]
      exact hI.2 t k' hn
theorem test_or {v m k : Nat} : (v ||| 2 ^ m).testBit k = (v.testBit k || decide (k = m)) := by
  rw [Nat.testBit_or, Nat.testBit_two_pow]
  by_cases e : m = k
  · subst e; simp
  · have : ¬ k = m := fun h => e h.symm
    simp [e, this]
theorem or_lt8 {v m : Nat} (hv : v < 8) (hm : m < 3) : v ||| 2 ^ m < 8 :=
  Nat.or_lt_two_pow (n := 3) hv (Nat.pow_lt_pow_right (by decide) hm)
theorem s8_giveBelt (hH : CH 0 h μ) (hS : CS i h s μ) {m g : Nat} (hm : m < hM h) (hg : g < hG h) (w : Int32) :
    ∃ ν, f8_giveBelt i (nI m) w (nI g) μ = xrv ν ∧ CS i h (up (up s 3 g w) 4 m 1) ν ∧ FrS i μ ν := by
  have h6 := CH_6 hH
  have h3 := CH_3 hH
  obtain ⟨v, hv, ev, hb⟩ := hS.2.1
  rw [f8_giveBelt_e, k8_giveBelt, s2_isGuest hH]
  simp (disch := (first | assumption | omega)) only [mS_eq, vI_eq, vL_eq, bV_v, bI_i, bL_l, xrb_b, xrb_0, xrb_1, xite_eq, b2_t, b2_f, i10, b2_eq0, b2_eq1, Bool.and_true, Bool.true_and, Bool.false_and, Bool.not_true, Bool.not_false, ↓reduceIte, not_false_eq_true, not_true_eq_false, decide_true, decide_false, if_pos, if_neg, xck_if, xin_t, nI_clamp, inR_t, reduceCtorEq, Bool.true_eq_false]
  refine ⟨_, rfl, ⟨fun g' hg' => ?_, ⟨v ||| 2 ^ m, or_lt8 hv (by omega), ?_, fun k hk => ?_⟩, ?_⟩, ?_⟩
  · obtain ⟨a, b, c, d⟩ := hS.1 g' hg'
    simp [rI_sI, rI_sL, rI_wI, rI_wL, rI_pI, rI_pL, rL_sI, rL_sL, rL_wI, rL_wL, rL_pI, rL_pL, aI_sI, aI_sL, aI_wI, aI_wL, aI_pI, aI_pL, aL_sI, aL_sL, aL_wI, aL_wL, aL_pI, aL_pL, up, a, b, c, d]
  · simp (disch := (first | assumption | omega)) only [rI_sI, rI_sL, rI_wI, rI_wL, rI_pI, rI_pL, rL_sI, rL_sL, rL_wI, rL_wL, rL_pI, rL_pL, aI_sI, aI_sL, aI_wI, aI_wL, aI_pI, aI_pL, aL_sI, aL_sL, aL_wI, aL_wL, aL_pI, aL_pL, ev, or_bit, and_self, ↓reduceIte]
  · rw [test_or, hb k hk]
    by_cases e : k = m <;> simp [free, up, e]
  · simp [rI_sI, rI_sL, rI_wI, rI_wL, rI_pI, rI_pL, rL_sI, rL_sL, rL_wI, rL_wL, rL_pI, rL_pL, aI_sI, aI_sL, aI_wI, aI_wL, aI_pI, aI_pL, aL_sI, aL_sL, aL_wI, aL_wL, aL_pI, aL_pL, up, CS_ga hS, CS_de hS, CS_mi hS]
  · intro t k hn
    simp only [sI_ne hn, pI_ne hn]
theorem s8_openGap (hS : CS i h s μ) : ∃ ν, f8_openGap i μ = xrv ν ∧ CS i h (up s 5 0 (s 5 0 + 1)) ν ∧ FrS i μ ν := by
  obtain ⟨v, hv, ev, hb⟩ := hS.2.1
  rw [f8_openGap_e, k8_openGap]
  simp only [mS_eq, vI_eq, vL_eq, bV_v, bI_i, bL_l, xrb_b, xrb_0, xrb_1, xite_eq, b2_t, b2_f, i10, b2_eq0, b2_eq1, Bool.and_true, Bool.true_and, Bool.false_and, Bool.not_true, Bool.not_false, ↓reduceIte, not_false_eq_true, not_true_eq_false, decide_true, decide_false, if_pos, if_neg, CS_ga hS]
  refine ⟨_, rfl, ⟨fun g' hg' => ?_, ⟨v, hv, ?_, hb⟩, ?_⟩, ?_⟩
  · obtain ⟨a, b, c, d⟩ := hS.1 g' hg'
    simp [rI_sI, rI_sL, rI_wI, rI_wL, rI_pI, rI_pL, rL_sI, rL_sL, rL_wI, rL_wL, rL_pI, rL_pL, aI_sI, aI_sL, aI_wI, aI_wL, aI_pI, aI_pL, aL_sI, aL_sL, aL_wI, aL_wL, aL_pI, aL_pL, up, a, b, c, d]
  · simp [rI_sI, rI_sL, rI_wI, rI_wL, rI_pI, rI_pL, rL_sI, rL_sL, rL_wI, rL_wL, rL_pI, rL_pL, aI_sI, aI_sL, aI_wI, aI_wL, aI_pI, aI_pL, aL_sI, aL_sL, aL_wI, aL_wL, aL_pI, aL_pL, ev]
  · simp [rI_sI, rI_sL, rI_wI, rI_wL, rI_pI, rI_pL, rL_sI, rL_sL, rL_wI, rL_wL, rL_pI, rL_pL, aI_sI, aI_sL, aI_wI, aI_wL, aI_pI, aI_pL, aL_sI, aL_sL, aL_wI, aL_wL, aL_pI, aL_pL, up, CS_ga hS, CS_de hS, CS_mi hS]
  · intro t k hn
    simp only [sI_ne hn]
theorem s8_closeGap (hH : CH 0 h μ) (hS : CS i h s μ) {m : Nat} (hm : m < hM h) : ∃ ν, f8_closeGap i (nI m) μ = xrv ν ∧ CS i h (up (up s 5 0 (s 5 0 - 1)) 4 m 1) ν ∧ FrS i μ ν := by
  have h3 := CH_3 hH
  obtain ⟨v, hv, ev, hb⟩ := hS.2.1
  rw [f8_closeGap_e, k8_closeGap]
  simp only [mS_eq, vI_eq, vL_eq, bV_v, bI_i, bL_l, xrb_b, xrb_0, xrb_1, xite_eq, b2_t, b2_f, i10, b2_eq0, b2_eq1, Bool.and_true, Bool.true_and, Bool.false_and, Bool.not_true, Bool.not_false, ↓reduceIte, not_false_eq_true, not_true_eq_false, decide_true, decide_false, if_pos, if_neg, CS_ga hS]
  refine ⟨_, rfl, ⟨fun g' hg' => ?_, ⟨v ||| 2 ^ m, or_lt8 hv (by omega), ?_, fun k hk => ?_⟩, ?_⟩, ?_⟩
  · obtain ⟨a, b, c, d⟩ := hS.1 g' hg'
    simp [rI_sI, rI_sL, rI_wI, rI_wL, rI_pI, rI_pL, rL_sI, rL_sL, rL_wI, rL_wL, rL_pI, rL_pL, aI_sI, aI_sL, aI_wI, aI_wL, aI_pI, aI_pL, aL_sI, aL_sL, aL_wI, aL_wL, aL_pI, aL_pL, up, a, b, c, d]
  · simp (disch := (first | assumption | omega)) only [rI_sI, rI_sL, rI_wI, rI_wL, rI_pI, rI_pL, rL_sI, rL_sL, rL_wI, rL_wL, rL_pI, rL_pL, aI_sI, aI_sL, aI_wI, aI_wL, aI_pI, aI_pL, aL_sI, aL_sL, aL_wI, aL_wL, aL_pI, aL_pL, ev, or_bit, and_self, ↓reduceIte, Nat.reduceEqDiff, and_false]
  · rw [test_or, hb k hk]
    by_cases e : k = m <;> simp [free, up, e]
  · simp [rI_sI, rI_sL, rI_wI, rI_wL, rI_pI, rI_pL, rL_sI, rL_sL, rL_wI, rL_wL, rL_pI, rL_pL, aI_sI, aI_sL, aI_wI, aI_wL, aI_pI, aI_pL, aL_sI, aL_sL, aL_wI, aL_wL, aL_pI, aL_pL, up, CS_ga hS, CS_de hS, CS_mi hS]
  · intro t k hn
    simp only [sI_ne hn]
/-- one guest's breath in a minute -/
def dr (h : HS) (s : SS) (g : Nat) : SS :=
  if undr h s g then (if s 1 g - 1 = 0 then up (up (up s 1 g (s 1 g - 1)) 2 g 2) 3 g (-1) else up s 1 g (s 1 g - 1)) else up s 1 g (hf h 3 g)
def drB (h : HS) (s : SS) (g : Nat) : Bool := undr h s g && decide (s 1 g - 1 = 0)
def cn (h : HS) (s : SS) (g : Nat) : SS :=
  if s 3 g = -1 ∧ shb h g = false then s else (if s 0 g - 1 = 0 then up (up (up s 0 g (s 0 g - 1)) 2 g 1) 3 g (-1) else up s 0 g (s 0 g - 1))
theorem pred_pos {x : Int32} {r : Nat} (h1 : 1 ≤ r) (h2 : r ≤ 9) (e : x = nI r) : (0 < x - 1) = ¬ (x - 1 = 0) := by
  obtain ⟨k, rfl⟩ : ∃ k, r = k + 1 := ⟨r - 1, by omega⟩
  rw [e, nI_pred]
  have h0 : (0 : Int32) = nI 0 := rfl
  rw [h0, nI_ltI (by omega) (by omega), nI_eq (by omega) (by omega)]
  simp; omega
theorem s8_drowns (hH : CH 0 h μ) (hS : CS i h s μ) {g : Nat} (hg : g < hG h) (hr : ∃ r, 1 ≤ r ∧ r ≤ 9 ∧ s 1 g = nI r) :
    ∃ ν, f8_drowns i (nI g) μ = xri (b2 (drB h s g)) ν ∧ CS i h (dr h s g) ν ∧ FrS i μ ν := by
  have h6 := CH_6 hH
  obtain ⟨v, hv, ev, hb⟩ := hS.2.1
  obtain ⟨r, r1, r2, er⟩ := hr
  have hp := pred_pos r1 r2 er
  rw [f8_drowns_e, k8_drowns, s8_isUnder hH hS]
  simp (disch := (first | assumption | omega)) only [mS_eq, vI_eq, vL_eq, bV_v, bI_i, bL_l, xrb_b, xrb_0, xrb_1, xite_eq, b2_t, b2_f, i10, b2_eq0, b2_eq1, Bool.and_true, Bool.true_and, Bool.false_and, Bool.not_true, Bool.not_false, ↓reduceIte, not_false_eq_true, not_true_eq_false, decide_true, decide_false, if_pos, if_neg, xck_if, xin_t, nI_clamp, inR_t, rI_sI, rI_sL, rI_wI, rI_wL, rI_pI, rI_pL, rL_sI, rL_sL, rL_wI, rL_wL, rL_pI, rL_pL, aI_sI, aI_sL, aI_wI, aI_wL, aI_pI, aI_pL, aL_sI, aL_sL, aL_wI, aL_wL, aL_pI, aL_pL, CS_br hS hg, CH_br hH hg, true_and, and_self, hp]
  by_cases hu : undr h s g = true
  · by_cases hz : s 1 g - 1 = 0
    · simp only [hu, hz, mS_eq, vI_eq, vL_eq, bV_v, bI_i, bL_l, xrb_b, xrb_0, xrb_1, xite_eq, b2_t, b2_f, i10, b2_eq0, b2_eq1, Bool.and_true, Bool.true_and, Bool.false_and, Bool.not_true, Bool.not_false, ↓reduceIte, not_false_eq_true, not_true_eq_false, decide_true, decide_false, if_pos, if_neg, Bool.true_eq_false, not_true, dr, drB]
      refine ⟨_, rfl, ⟨fun g' hg' => ?_, ⟨v, hv, ?_, ?_⟩, ?_⟩, ?_⟩
      · obtain ⟨a, b, c, d⟩ := hS.1 g' hg'
        simp [rI_sI, rI_sL, rI_wI, rI_wL, rI_pI, rI_pL, rL_sI, rL_sL, rL_wI, rL_wL, rL_pI, rL_pL, aI_sI, aI_sL, aI_wI, aI_wL, aI_pI, aI_pL, aL_sI, aL_sL, aL_wI, aL_wL, aL_pI, aL_pL, up, a, b, c, d]
      · simp [rI_sI, rI_sL, rI_wI, rI_wL, rI_pI, rI_pL, rL_sI, rL_sL, rL_wI, rL_wL, rL_pI, rL_pL, aI_sI, aI_sL, aI_wI, aI_wL, aI_pI, aI_pL, aL_sI, aL_sL, aL_wI, aL_wL, aL_pI, aL_pL, ev]
      · intro m hm; rw [hb m hm]; simp [free, up]
      · simp [rI_sI, rI_sL, rI_wI, rI_wL, rI_pI, rI_pL, rL_sI, rL_sL, rL_wI, rL_wL, rL_pI, rL_pL, aI_sI, aI_sL, aI_wI, aI_wL, aI_pI, aI_pL, aL_sI, aL_sL, aL_wI, aL_wL, aL_pI, aL_pL, up, CS_ga hS, CS_de hS, CS_mi hS]
      · intro t k hn
        simp only [pI_ne hn]
    · simp only [hu, hz, mS_eq, vI_eq, vL_eq, bV_v, bI_i, bL_l, xrb_b, xrb_0, xrb_1, xite_eq, b2_t, b2_f, i10, b2_eq0, b2_eq1, Bool.and_true, Bool.true_and, Bool.false_and, Bool.not_true, Bool.not_false, ↓reduceIte, not_false_eq_true, not_true_eq_false, decide_true, decide_false, if_pos, if_neg, Bool.true_eq_false, dr, drB, Bool.and_false]
      refine ⟨_, rfl, ⟨fun g' hg' => ?_, ⟨v, hv, ?_, ?_⟩, ?_⟩, ?_⟩
      · obtain ⟨a, b, c, d⟩ := hS.1 g' hg'
        simp [rI_sI, rI_sL, rI_wI, rI_wL, rI_pI, rI_pL, rL_sI, rL_sL, rL_wI, rL_wL, rL_pI, rL_pL, aI_sI, aI_sL, aI_wI, aI_wL, aI_pI, aI_pL, aL_sI, aL_sL, aL_wI, aL_wL, aL_pI, aL_pL, up, a, b, c, d]
      · simp [rI_sI, rI_sL, rI_wI, rI_wL, rI_pI, rI_pL, rL_sI, rL_sL, rL_wI, rL_wL, rL_pI, rL_pL, aI_sI, aI_sL, aI_wI, aI_wL, aI_pI, aI_pL, aL_sI, aL_sL, aL_wI, aL_wL, aL_pI, aL_pL, ev]
      · intro m hm; rw [hb m hm]; simp [free, up]
      · simp [rI_sI, rI_sL, rI_wI, rI_wL, rI_pI, rI_pL, rL_sI, rL_sL, rL_wI, rL_wL, rL_pI, rL_pL, aI_sI, aI_sL, aI_wI, aI_wL, aI_pI, aI_pL, aL_sI, aL_sL, aL_wI, aL_wL, aL_pI, aL_pL, up, CS_ga hS, CS_de hS, CS_mi hS]
      · intro t k hn
        simp only [pI_ne hn]
  · have hu' : undr h s g = false := by simpa using hu
    simp only [hu', mS_eq, vI_eq, vL_eq, bV_v, bI_i, bL_l, xrb_b, xrb_0, xrb_1, xite_eq, b2_t, b2_f, i10, b2_eq0, b2_eq1, Bool.and_true, Bool.true_and, Bool.false_and, Bool.not_true, Bool.not_false, ↓reduceIte, not_false_eq_true, not_true_eq_false, decide_true, decide_false, if_pos, if_neg, Bool.false_eq_true, dr, drB]
    refine ⟨_, rfl, ⟨fun g' hg' => ?_, ⟨v, hv, ?_, ?_⟩, ?_⟩, ?_⟩
    · obtain ⟨a, b, c, d⟩ := hS.1 g' hg'
      simp [rI_sI, rI_sL, rI_wI, rI_wL, rI_pI, rI_pL, rL_sI, rL_sL, rL_wI, rL_wL, rL_pI, rL_pL, aI_sI, aI_sL, aI_wI, aI_wL, aI_pI, aI_pL, aL_sI, aL_sL, aL_wI, aL_wL, aL_pI, aL_pL, up, a, b, c, d]
    · simp [rI_sI, rI_sL, rI_wI, rI_wL, rI_pI, rI_pL, rL_sI, rL_sL, rL_wI, rL_wL, rL_pI, rL_pL, aI_sI, aI_sL, aI_wI, aI_wL, aI_pI, aI_pL, aL_sI, aL_sL, aL_wI, aL_wL, aL_pI, aL_pL, ev]
    · intro m hm; rw [hb m hm]; simp [free, up]
    · simp [rI_sI, rI_sL, rI_wI, rI_wL, rI_pI, rI_pL, rL_sI, rL_sL, rL_wI, rL_wL, rL_pI, rL_pL, aI_sI, aI_sL, aI_wI, aI_wL, aI_pI, aI_pL, aL_sI, aL_sL, aL_wI, aL_wL, aL_pI, aL_pL, up, CS_ga hS, CS_de hS, CS_mi hS]
    · intro t k hn
      simp only [pI_ne hn]
theorem s8_comeNearer (hH : CH 0 h μ) (hS : CS i h s μ) {g : Nat} (hg : g < hG h) (hr : ∃ r, 1 ≤ r ∧ r ≤ 9 ∧ s 0 g = nI r) :
    ∃ ν, f8_comeNearer i (nI g) μ = xrv ν ∧ CS i h (cn h s g) ν ∧ FrS i μ ν := by
  have h6 := CH_6 hH
  obtain ⟨v, hv, ev, hb⟩ := hS.2.1
  obtain ⟨r, r1, r2, er⟩ := hr
  have hp := pred_pos r1 r2 er
  have key : ∀ n, ∃ ν, h8_comeNearer_22 (n + 1) i (nI g) μ = xrv ν ∧ CS i h (if s 0 g - 1 = 0 then up (up (up s 0 g (s 0 g - 1)) 2 g 1) 3 g (-1) else up s 0 g (s 0 g - 1)) ν ∧ FrS i μ ν := by
    intro n
    rw [h8_comeNearer_22_s]
    simp (disch := (first | assumption | omega)) only [mS_eq, vI_eq, vL_eq, bV_v, bI_i, bL_l, xrb_b, xrb_0, xrb_1, xite_eq, b2_t, b2_f, i10, b2_eq0, b2_eq1, Bool.and_true, Bool.true_and, Bool.false_and, Bool.not_true, Bool.not_false, ↓reduceIte, not_false_eq_true, not_true_eq_false, decide_true, decide_false, if_pos, if_neg, xck_if, xin_t, nI_clamp, rI_sI, rI_sL, rI_wI, rI_wL, rI_pI, rI_pL, rL_sI, rL_sL, rL_wI, rL_wL, rL_pI, rL_pL, aI_sI, aI_sL, aI_wI, aI_wL, aI_pI, aI_pL, aL_sI, aL_sL, aL_wI, aL_wL, aL_pI, aL_pL, CS_pl hS hg, true_and, and_self, hp]
    by_cases hz : s 0 g - 1 = 0
    · simp only [hz, mS_eq, vI_eq, vL_eq, bV_v, bI_i, bL_l, xrb_b, xrb_0, xrb_1, xite_eq, b2_t, b2_f, i10, b2_eq0, b2_eq1, Bool.and_true, Bool.true_and, Bool.false_and, Bool.not_true, Bool.not_false, ↓reduceIte, not_false_eq_true, not_true_eq_false, decide_true, decide_false, if_pos, if_neg, not_true]
      refine ⟨_, rfl, ⟨fun g' hg' => ?_, ⟨v, hv, ?_, ?_⟩, ?_⟩, ?_⟩
      · obtain ⟨a, b, c, d⟩ := hS.1 g' hg'
        simp [rI_sI, rI_sL, rI_wI, rI_wL, rI_pI, rI_pL, rL_sI, rL_sL, rL_wI, rL_wL, rL_pI, rL_pL, aI_sI, aI_sL, aI_wI, aI_wL, aI_pI, aI_pL, aL_sI, aL_sL, aL_wI, aL_wL, aL_pI, aL_pL, up, a, b, c, d]
      · simp [rI_sI, rI_sL, rI_wI, rI_wL, rI_pI, rI_pL, rL_sI, rL_sL, rL_wI, rL_wL, rL_pI, rL_pL, aI_sI, aI_sL, aI_wI, aI_wL, aI_pI, aI_pL, aL_sI, aL_sL, aL_wI, aL_wL, aL_pI, aL_pL, ev]
      · intro m hm; rw [hb m hm]; simp [free, up]
      · simp [rI_sI, rI_sL, rI_wI, rI_wL, rI_pI, rI_pL, rL_sI, rL_sL, rL_wI, rL_wL, rL_pI, rL_pL, aI_sI, aI_sL, aI_wI, aI_wL, aI_pI, aI_pL, aL_sI, aL_sL, aL_wI, aL_wL, aL_pI, aL_pL, up, CS_ga hS, CS_de hS, CS_mi hS]
      · intro t k hn
        simp only [pI_ne hn]
    · simp only [hz, mS_eq, vI_eq, vL_eq, bV_v, bI_i, bL_l, xrb_b, xrb_0, xrb_1, xite_eq, b2_t, b2_f, i10, b2_eq0, b2_eq1, Bool.and_true, Bool.true_and, Bool.false_and, Bool.not_true, Bool.not_false, ↓reduceIte, not_false_eq_true, not_true_eq_false, decide_true, decide_false, if_pos, if_neg]
      refine ⟨_, rfl, ⟨fun g' hg' => ?_, ⟨v, hv, ?_, ?_⟩, ?_⟩, ?_⟩
      · obtain ⟨a, b, c, d⟩ := hS.1 g' hg'
        simp [rI_sI, rI_sL, rI_wI, rI_wL, rI_pI, rI_pL, rL_sI, rL_sL, rL_wI, rL_wL, rL_pI, rL_pL, aI_sI, aI_sL, aI_wI, aI_wL, aI_pI, aI_pL, aL_sI, aL_sL, aL_wI, aL_wL, aL_pI, aL_pL, up, a, b, c, d]
      · simp [rI_sI, rI_sL, rI_wI, rI_wL, rI_pI, rI_pL, rL_sI, rL_sL, rL_wI, rL_wL, rL_pI, rL_pL, aI_sI, aI_sL, aI_wI, aI_wL, aI_pI, aI_pL, aL_sI, aL_sL, aL_wI, aL_wL, aL_pI, aL_pL, ev]
      · intro m hm; rw [hb m hm]; simp [free, up]
      · simp [rI_sI, rI_sL, rI_wI, rI_wL, rI_pI, rI_pL, rL_sI, rL_sL, rL_wI, rL_wL, rL_pI, rL_pL, aI_sI, aI_sL, aI_wI, aI_wL, aI_pI, aI_pL, aL_sI, aL_sL, aL_wI, aL_wL, aL_pI, aL_pL, up, CS_ga hS, CS_de hS, CS_mi hS]
      · intro t k hn
        simp only [pI_ne hn]
  rw [f8_comeNearer_e, k8_comeNearer]
  simp (disch := (first | assumption | omega)) only [mS_eq, vI_eq, vL_eq, bV_v, bI_i, bL_l, xrb_b, xrb_0, xrb_1, xite_eq, b2_t, b2_f, i10, b2_eq0, b2_eq1, Bool.and_true, Bool.true_and, Bool.false_and, Bool.not_true, Bool.not_false, ↓reduceIte, not_false_eq_true, not_true_eq_false, decide_true, decide_false, if_pos, if_neg, xck_if, xin_t, nI_clamp, CS_be hS hg, s2_isShabby hH, inR_t, cn]
  by_cases h1 : s 3 g = -1
  · by_cases h2 : shb h g = false
    · simp only [h1, h2, and_self, ↓reduceIte]
      exact ⟨_, rfl, hS, FrS_r⟩
    · simp only [h1, h2, and_false, ↓reduceIte]
      exact key 19999
  · simp only [h1, false_and, ↓reduceIte]
    exact key 19999
end
