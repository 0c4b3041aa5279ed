/-! THE PURE PART: names and numbers on both sides -/
theorem kt_le {T : TP} (i : Nat) : kt T i ≤ 154 := by
  unfold kt kq
  split
  · omega
  · split
    · split
      · omega
      · rcases kdw_cases (wq T (PT T i)) with ⟨h1, _⟩ | ⟨k, _, h1, _⟩ <;> omega
    · split
      · split <;> omega
      · split
        · rename_i hg; simp [isG] at hg; omega
        · omega
theorem kt_word {T : TP} {i : Nat} (h : 128 ≤ kt T i) : ∃ w, w < 27 ∧ kt T i = 128 + cpx w := by
  obtain ⟨_, _, _, _, w5⟩ := wq_W (.inr h)
  have e : kt T i = kdw (wq T (PT T i)) := w5
  rcases kdw_cases (wq T (PT T i)) with ⟨h1, _⟩ | ⟨k, hk, h1, _⟩
  · omega
  · have sur : ∀ k, k < 27 → ∃ w, w < 27 ∧ cpx w = k := by decide +kernel
    obtain ⟨w, w1, w2⟩ := sur k hk
    exact ⟨w, w1, by omega⟩
def isN (T : TP) (i : Nat) : Bool := decide (kt T i = 3) || decide (151 ≤ kt T i)
theorem cpx_23 : ∀ w, w < 27 → (w < 23 ↔ cpx w < 23) := by decide +kernel
section
variable {μ : XM} {T : TP} {m i : Nat}
theorem ok_isName (hO : RO T m i μ) : f12_isName μ = xri (b2 (isN T i)) μ := by
  obtain ⟨x1, x2⟩ := ok_x hO
  obtain ⟨r1, r2, r3, r4, r5⟩ := hO.1.1 i hO.2.1
  have hs : ∀ k, sqk k < 5 := by intro k; unfold sqk; split <;> (try split) <;> (try split) <;> (try split) <;> omega
  have e3 : (nI (sqk (kq T (PT T i))) = 1) = (kt T i = 3 ∨ 128 ≤ kt T i) := by
    rw [show (1 : Int32) = nI 1 from rfl, propext (nI_eq (by have := hs (kq T (PT T i)); omega) (by omega))]
    unfold kt sqk
    refine propext ⟨fun e => ?_, fun e => ?_⟩
    · split at e
      · cases e
      · split at e
        · cases e
        · split at e
          · cases e
          · split at e
            · assumption
            · cases e
    · rw [if_neg (by omega), if_neg (by omega), if_neg (by omega), if_pos e]
  rw [f12_isName_e, k12_isName, xite_t hO.2.2.2.1, xck_t x1, x2, r1, e3]
  unfold isN
  by_cases h : kt T i = 3 ∨ 128 ≤ kt T i
  · rw [xite_t h, ok_wordHere hO (a := 0) (n := 23) (p := 0) (q := 23) rfl rfl (by omega), bI_i]
    rcases lastw_cases (T := T) (i := i) (a := 0) (n := 23) (by omega) with ⟨h1, h2⟩ | ⟨j, h1, h2, h3⟩
    · rw [h1, xite_t (by decide)]
      have : kt T i = 3 ∨ 151 ≤ kt T i := by
        rcases h with h | h
        · exact .inl h
        · right
          obtain ⟨w, w1, w2⟩ := kt_word h
          by_cases hw : w < 23
          · have := h2 w hw
            rw [Nat.zero_add] at this
            exact absurd w2 this
          · have := cpx_23 w w1
            omega
      rw [xrb_1]
      by_cases h3 : kt T i = 3
      · rw [decide_eq_true h3]; rfl
      · rw [decide_eq_false h3, decide_eq_true (this.resolve_left h3)]; rfl
    · rw [h2, xite_f (nI_pos (by omega)), xrb_0]
      have := cpx_23 j (by omega)
      rw [Nat.zero_add] at h3
      rw [decide_eq_false (by omega), decide_eq_false (by omega)]; rfl
  · rw [xite_f h, xrb_0, decide_eq_false (by omega), decide_eq_false (by omega)]; rfl
/-- word w, and a number from a to b -/
theorem ok_takeAfter (hO : RO T m i μ) (hm : PT T m = T.1) {w a b : Nat} {p q r : Int32} (hp : p = nI w) (hq : q = nI a) (hr : r = nI b) (hw : w < 27) (ha : a < 1000) (hb : b < 1000) :
    f12_takeAfter p q r μ = if kt T i = 128 + cpx w then (if kt T (i + 1) = 2 then (if a ≤ vq T (PT T (i + 1)) ∧ vq T (PT T (i + 1)) ≤ b then xri (nI (vq T (PT T (i + 1)))) (ad (ad μ i) (i + 1)) else xri 0 (ft (ad μ i) (4 + 16 * PT T (i + 1)))) else xri 0 (ft (ad μ i) (1 + 16 * PT T (i + 1)))) else xri 0 (ft μ (1 + 16 * PT T i)) := by
  have hi : kt T i = 128 + cpx w → i < m := fun e => by
    have h1 := hO.2.1
    have : ¬ i = m := fun e2 => by
      have h0 : kt T i = 0 := by unfold kt; rw [kq_0, e2, hm]; exact Nat.le_refl _
      omega
    omega
  rw [f12_takeAfter_e, k12_takeAfter, ok_takeWord hO hp hw]
  by_cases e : kt T i = 128 + cpx w
  · obtain ⟨h1, h2⟩ := RO_ad hO (hi e)
    rw [if_pos e, bV_v, ok_takeNumber h1 hq hr ha hb, if_pos e]
    split
    · split <;> rw [bI_i]
    · rw [bI_i]
  · have hpl := PT_le T i
    have hpm := hO.2.2.2.2.2
    have hF := (ft_F (μ := μ) (F := 1 + 16 * PT T i) (by omega) (by omega)).1
    rw [if_neg e, bV_v, fl_takeNumber hF, bI_i, if_neg e]
-- the component
/-- the component at token i, no fault -/
def CO (T : TP) (m i : Nat) (μ : XM) : Prop := CK T (PT T i) μ ∧ i ≤ m ∧ rI μ 10 0 7 = 0 ∧ PT T m = T.1 ∧ TI T ∧ m ≤ 1000
def fc (μ : XM) (F : Nat) : XM := sI μ 10 0 7 (nI F)
/-- the same but for the token and the fault -/
def FTp (μ ν : XM) : Prop := ∀ t j, ¬ (t = 10 ∧ j = 0) → ν t j = μ t j
theorem FTp_r : FTp μ μ := fun _ _ _ => rfl
theorem FTp_t {ν ξ : XM} (a : FTp μ ν) (b : FTp ν ξ) : FTp μ ξ := fun t j h => (b t j h).trans (a t j h)
theorem FTp_c {F : Nat} : FTp μ (fc μ F) := fun t j h => sI_ne h
theorem fc_7 {F : Nat} : rI (fc μ F) 10 0 7 = nI F := by unfold fc; rw [rI_sI]; simp only [and_self, ↓reduceIte]
theorem CO_ob {ν : XM} (e : ν 10 0 = μ 10 0) (h : CO T m i μ) : CO T m i ν := by
  unfold CO CK CT at *; simp only [rI_ob e, aI_ob e, rL_ob e]; exact h
theorem CO_4 (h : CO T m i μ) : rI μ 10 0 4 = nI (kt T i) := h.1.2.2.2.1
theorem CO_eq (h : CO T m i μ) {c : Nat} (hc : c < 1000) (p : Int32) (hp : p = nI c) : (rI μ 10 0 4 = p) = (kt T i = c) := by
  have := kt_le (T := T) i
  rw [CO_4 h, hp]; exact propext (nI_eq (by omega) (by omega))
theorem CO_lt (h : CO T m i μ) (hk : kt T i ≠ 0) : i < m := by
  have h1 := h.2.1
  have : ¬ i = m := fun e2 => by
    apply hk; unfold kt; rw [kq_0, e2, h.2.2.2.1]; exact Nat.le_refl _
  omega
theorem RO_lt (h : RO T m i μ) (hm : PT T m = T.1) (hk : kt T i ≠ 0) : i < m := by
  have h1 := h.2.1
  have : ¬ i = m := fun e2 => by
    apply hk; unfold kt; rw [kq_0, e2, hm]; exact Nat.le_refl _
  omega
theorem cp_adv (h : CO T m i μ) (hi : i < m) : ∃ ν, f10_advance μ = xrv ν ∧ CO T m (i + 1) ν ∧ FTp μ ν := by
  obtain ⟨h1, h2, h3, h4, h5, h6⟩ := h
  obtain ⟨ν, a1, a2, a3⟩ := c_adv h5 h1.1 (nq_le (PT_le T i)).2 h1.2.1
  exact ⟨ν, a1, ⟨a2, by omega, by rw [a3.2.2.2]; exact h3, h4, h5, h6⟩, a3.1⟩
theorem cp_wrong (h : CO T m i μ) {w : Nat} (p : Int32) (hp : p = nI w) : f10_wrong p μ = xri 0 (fc μ (w + 16 * PT T i)) := by
  rw [f10_wrong_e, k10_wrong, xite_t h.2.2.1, h.1.2.2.1, hp, show (16 : Int32) = nI 16 from rfl, pk_mul, nI_add, mS_eq, xrb_0]; rfl
theorem cp_isFact (h : CO T m i μ) : f10_isFact μ = xri (b2 (decide (151 ≤ kt T i))) μ := by
  have := kt_le (T := T) i
  have q1 : (rI μ 10 0 4 < 151) = (kt T i < 151) := by rw [CO_4 h]; exact propext (nI_ltI (b := 151) (by omega) (by omega))
  have q2 : ¬ (154 : Int32) < rI μ 10 0 4 := by rw [CO_4 h]; exact nI_nlt (a := 154) (b := kt T i) (by omega) (by omega)
  rw [f10_isFact_e, k10_isFact, q1]
  by_cases e : kt T i < 151
  · rw [xite_t e, decide_eq_false (by omega)]; rfl
  · rw [xite_f e, xite_f q2, decide_eq_true (by omega)]; rfl
theorem cp_isName (h : CO T m i μ) : f10_isName μ = if isN T i = true then xri 1 μ else xri 0 (fc μ (1 + 16 * PT T i)) := by
  rw [f10_isName_e, k10_isName, CO_eq h (c := 3) (by omega) 3 rfl, cp_isFact h, bI_i]
  unfold isN
  by_cases e : kt T i = 3
  · rw [xite_t e, decide_eq_true e]; rfl
  · rw [xite_f e, decide_eq_false e]
    by_cases e2 : 151 ≤ kt T i
    · rw [decide_eq_true e2]; rw [xite_f (by decide)]; rfl
    · rw [decide_eq_false e2, xite_t (by decide), cp_wrong h 1 (w := 1) rfl, bI_i, xite_t rfl]; rfl
theorem cp_isNumber (h : CO T m i μ) {a b : Nat} {p q : Int32} (hp : p = nI a) (hq : q = nI b) (ha : a < 1000) (hb : b < 1000) : f10_isNumber p q μ = if kt T i = 2 then (if a ≤ vq T (PT T i) ∧ vq T (PT T i) ≤ b then xri 1 μ else xri 0 (fc μ (4 + 16 * PT T i))) else xri 0 (fc μ (1 + 16 * PT T i)) := by
  rw [f10_isNumber_e, k10_isNumber, CO_eq h (c := 2) (by omega) 2 rfl]
  by_cases e : kt T i = 2
  · obtain ⟨_, _, _, _, v5⟩ := vq_lt e
    have q1 : (nI (vq T (PT T i)) < nI a) = (vq T (PT T i) < a) := propext (nI_ltI (by omega) (by omega))
    have q2 : (nI b < nI (vq T (PT T i))) = (b < vq T (PT T i)) := propext (nI_ltI (by omega) (by omega))
    rw [xite_t e, if_pos e, h.1.2.2.2.2.1 e, hp, hq, q1, q2, cp_wrong h 4 (w := 4) rfl, bI_i]
    by_cases g1 : vq T (PT T i) < a
    · rw [xite_t g1, if_neg (by omega), xite_t rfl, xrb_0]
    · rw [xite_f g1]
      by_cases g2 : b < vq T (PT T i)
      · rw [xite_t g2, if_neg (by omega), xite_t rfl, xrb_0]
      · rw [xite_f g2, if_pos (by omega), xrb_1]
  · rw [xite_f e, if_neg e, cp_wrong h 1 (w := 1) rfl, bI_i, xrb_0]
theorem cp_take (h : CO T m i μ) {c : Nat} {p : Int32} (hp : p = nI c) (hc : c < 1000) (h0 : c ≠ 0) : (kt T i = c ∧ ∃ ν, f10_take p μ = xri 1 ν ∧ CO T m (i + 1) ν ∧ FTp μ ν) ∨ (kt T i ≠ c ∧ f10_take p μ = xri 0 (fc μ (1 + 16 * PT T i))) := by
  rw [f10_take_e, k10_take, CO_eq h hc p hp]
  by_cases e : kt T i = c
  · obtain ⟨ν, a1, a2, a3⟩ := cp_adv h (CO_lt h (by omega))
    rw [xite_t e, a1, bV_v, xrb_1]
    exact .inl ⟨e, ν, rfl, a2, a3⟩
  · rw [xite_f e, cp_wrong h 1 (w := 1) rfl, bI_i, xrb_0]
    exact .inr ⟨e, rfl⟩
end
