/-! THE PURE PART: rests -/
def gts (a b x y z : Int32) : Int32 := if a = 1 then (if b = 1 then -x else y) else (if b = 1 then z else 0)
def rtb (x y z : Int32) (k : Nat) : Bool := !decide (gts (nI (k / 2)) (nI (k % 2)) x y z < gts (1 - nI (k / 2)) (nI (k % 2)) x y z) && !decide (gts (nI (k % 2)) (nI (k / 2)) x y z < gts (1 - nI (k % 2)) (nI (k / 2)) x y z)
/-- what the component does from k on, c having been found -/
def rsC (b : Nat → Bool) (w : Int32) : Nat → Int32 → Option Int32
  | 0, c => if w = -1 then some c else none
  | d + 1, c => if b (3 - d) = true then (if c = w then some (nI (3 - d)) else rsC b w d (c + 1)) else rsC b w d c
/-- and the reference -/
def rsM (b : Nat → Bool) (w : Int32) : Nat → Int32 → Int32 → Int32 × Int32
  | 0, c, v => (c, v)
  | d + 1, c, v => rsM b w d (if b (3 - d) = true then c + 1 else c + 0) (if b (3 - d) = true ∧ c = w then nI (3 - d) else v)
def przs (x y z : Int32) : Bool := wit 0 9 x && (wit 0 9 y && wit 0 9 z)
def aRests (x y z w : Int32) : Option Int32 := if przs x y z = true then rsC (rtb x y z) w 4 0 else none
section
variable {μ : XM} {x y z w : Int32}
theorem c_prize {p : Int32} : f11_isPrize p μ = xri (b2 (wit 0 9 p)) μ := by
  rw [f11_isPrize_e, k11_isPrize]
  simp only [mS_eq, vI_eq, vL_eq, bV_v, bI_i, bL_l, xrb_b, xrb_0, xrb_1, xite_eq, b2_t, b2_f, i10, b2_eq0, b2_eq1, Bool.and_true, Bool.true_and, Bool.false_and, Bool.not_true, Bool.not_false, ↓reduceIte, not_false_eq_true, not_true_eq_false, decide_true, decide_false, if_pos, if_neg, wit]
  repeat' split
  all_goals grind [b2, bI_i, xrb_0, xrb_1]
theorem c_gain {a b : Int32} : f11_gain a b x y z μ = xri (gts a b x y z) μ := by
  rw [f11_gain_e, k11_gain, gts]
  simp only [xite_eq]
  repeat' split
  all_goals first | rfl | grind
theorem m_gets {a b : Int32} : f12_getsBy a b x y z μ = xri (gts a b x y z) μ := by
  rw [f12_getsBy_e, k12_getsBy, gts]
  simp only [xite_eq]
  repeat' split
  all_goals first | rfl | grind
theorem rs_end {n : Nat} {c : Int32} : h11_rests_35 (n + 1) x y z w c (nI 4) μ = if w = -1 then xri c μ else xrt μ := by
  rw [h11_rests_35_s, xite_f (by decide), xite_eq]
theorem rs_step {n : Nat} {c : Int32} {k : Nat} (hk : k < 4) : h11_rests_35 (n + 3) x y z w c (nI k) μ = if rtb x y z k = true then (if c = w then xri (nI k) μ else h11_rests_35 n x y z w (c + 1) (nI (k + 1)) μ) else h11_rests_35 n x y z w c (nI (k + 1)) μ := by
  have e1 : nI k >>> (1 &&& 31) = nI (k / 2) := by
    have : k = 0 ∨ k = 1 ∨ k = 2 ∨ k = 3 := by omega
    rcases this with rfl | rfl | rfl | rfl <;> decide
  have e2 : nI k &&& 1 = nI (k % 2) := by
    have : k = 0 ∨ k = 1 ∨ k = 2 ∨ k = 3 := by omega
    rcases this with rfl | rfl | rfl | rfl <;> decide
  rw [show n + 3 = n + 1 + 1 + 1 from rfl, h11_rests_35_s, xite_t (show nI k < (4 : Int32) from nI_lt (b := 4) hk (by omega)), e1, e2, vI_eq, vI_eq, c_gain, bI_i, c_gain, bI_i]
  simp only [h11_rests_83_s, vI_eq, c_gain, bI_i, h11_rests_115_s, xite_eq, ← nI_succ, rtb]
  by_cases q1 : gts (nI (k / 2)) (nI (k % 2)) x y z < gts (1 - nI (k / 2)) (nI (k % 2)) x y z
  · by_cases q2 : gts (nI (k % 2)) (nI (k / 2)) x y z < gts (1 - nI (k % 2)) (nI (k / 2)) x y z
    · simp [q1, q2]
    · simp [q1, q2]
  · by_cases q2 : gts (nI (k % 2)) (nI (k / 2)) x y z < gts (1 - nI (k % 2)) (nI (k / 2)) x y z
    · simp [q1, q2]
    · simp [q1, q2]
def rsR (μ : XM) : Option Int32 → XR
  | some x => xri x μ
  | none => xrt μ
theorem rs_all : ∀ d n c, d ≤ 4 → 3 * d < n → h11_rests_35 n x y z w c (nI (4 - d)) μ = rsR μ (rsC (rtb x y z) w d c)
  | 0, n, c, _, hn => by
    obtain ⟨n, rfl⟩ : ∃ m, n = m + 1 := ⟨n - 1, by omega⟩
    rw [show 4 - 0 = 4 from rfl, rs_end, rsC]
    split <;> rfl
  | d + 1, n, c, hd, hn => by
    obtain ⟨n, rfl⟩ : ∃ m, n = m + 3 := ⟨n - 3, by omega⟩
    rw [rs_step (by omega), rsC, show 4 - (d + 1) = 3 - d by omega, show 3 - d + 1 = 4 - d by omega, rs_all d n _ (by omega) (by omega), rs_all d n _ (by omega) (by omega)]
    split
    · split <;> rfl
    · rfl
theorem c_rests : f11_rests x y z w μ = rsR μ (aRests x y z w) := by
  rw [f11_rests_e, k11_rests, c_prize, bI_i, c_prize, bI_i, c_prize, bI_i, aRests, przs]
  cases h1 : wit 0 9 x
  · rw [xite_t (by decide)]; rfl
  cases h2 : wit 0 9 y
  · rw [xite_f (by decide), xite_t (by decide)]; rfl
  cases h3 : wit 0 9 z
  · rw [xite_f (by decide), xite_f (by decide), xite_t (by decide)]; rfl
  rw [xite_f (by decide), xite_f (by decide), xite_f (by decide), vI_eq, vI_eq, if_pos (by decide)]
  exact rs_all 4 20000 0 (by omega) (by omega)
-- the reference
theorem ms_step {n : Nat} {c v : Int32} {k : Nat} (hk : k < 4) : h12_rests_52 (n + 2) x y z w 1 c v (nI k) μ = h12_rests_52 n x y z w 1 (if rtb x y z k = true then c + 1 else c + 0) (if rtb x y z k = true ∧ c = w then nI k else v) (nI (k + 1)) μ := by
  have e1 : nI k / 2 = nI (k / 2) := by
    have : k = 0 ∨ k = 1 ∨ k = 2 ∨ k = 3 := by omega
    rcases this with rfl | rfl | rfl | rfl <;> decide
  have e2 : nI k - nI (k / 2) * 2 = nI (k % 2) := by
    have : k = 0 ∨ k = 1 ∨ k = 2 ∨ k = 3 := by omega
    rcases this with rfl | rfl | rfl | rfl <;> decide
  rw [show n + 2 = n + 1 + 1 from rfl, h12_rests_52_s, xite_t (show nI k < (4 : Int32) from nI_lt (b := 4) hk (by omega)), xite_f (by decide), xite_f (by decide), vI_eq, xite_f (by decide), vI_eq, e1, e2]
  simp only [vI_eq, m_gets, bI_i, h12_rests_151_s, xite_eq, ← nI_succ, rtb]
  by_cases q1 : gts (nI (k / 2)) (nI (k % 2)) x y z < gts (1 - nI (k / 2)) (nI (k % 2)) x y z
  · simp [q1]
  · by_cases q2 : gts (nI (k % 2)) (nI (k / 2)) x y z < gts (1 - nI (k % 2)) (nI (k / 2)) x y z
    · simp [q1, q2]
    · by_cases q3 : c = w
      · simp [q1, q2, q3]
      · simp [q1, q2, q3]
/-- the answer, and whether it threw -/
def msE (w : Int32) (p : Int32 × Int32) : Int32 × Int32 := if w < 0 then (0, p.1) else if p.2 < 0 then (1, 0) else (0, p.2)
theorem ms_h190 {n : Nat} {c v : Int32} : h12_rests_190 (n + 1) w c v μ = xri (if w < 0 then c else v) (sI μ 12 0 0 0) := by
  have e : rI (sI μ 12 0 0 0) 12 0 0 = 0 := by rw [rI_sI]; simp only [and_self, ↓reduceIte]
  rw [h12_rests_190_s, mS_eq, e, xite_f (by decide), xite_eq]
  split <;> rfl
theorem ms_h194 {n : Nat} {c v : Int32} : h12_rests_194 (n + 1) w c v μ = xri 0 (sI μ 12 0 0 1) := by
  have e : rI (sI μ 12 0 0 1) 12 0 0 = 1 := by rw [rI_sI]; simp only [and_self, ↓reduceIte]
  rw [h12_rests_194_s, mS_eq, e, xite_t (by decide)]
theorem ms_end {n : Nat} {c v : Int32} : h12_rests_52 (n + 2) x y z w 1 c v (nI 4) μ = xri (msE w (c, v)).2 (sI μ 12 0 0 (msE w (c, v)).1) := by
  rw [show n + 2 = n + 1 + 1 from rfl, h12_rests_52_s, xite_f (by decide), xite_f (by decide), msE]
  by_cases h : w < 0
  · rw [xite_t h, if_pos h, ms_h190, if_pos h]
  · rw [xite_f h, if_neg h]
    by_cases h2 : v < 0
    · rw [xite_t h2, if_pos h2, ms_h194]
    · rw [xite_f h2, if_neg h2, ms_h190, if_neg h]
theorem ms_all : ∀ d n c v, d ≤ 4 → 2 * d + 2 ≤ n → h12_rests_52 n x y z w 1 c v (nI (4 - d)) μ = xri (msE w (rsM (rtb x y z) w d c v)).2 (sI μ 12 0 0 (msE w (rsM (rtb x y z) w d c v)).1)
  | 0, n, c, v, _, hn => by
    obtain ⟨n, rfl⟩ : ∃ m, n = m + 2 := ⟨n - 2, by omega⟩
    exact ms_end
  | d + 1, n, c, v, hd, hn => by
    obtain ⟨n, rfl⟩ : ∃ m, n = m + 2 := ⟨n - 2, by omega⟩
    rw [ms_step (by omega), rsM, show 4 - (d + 1) = 3 - d by omega, show 3 - d + 1 = 4 - d by omega, ms_all d n _ _ (by omega) (by omega)]
def rsX : Option Int32 → Int32 × Int32
  | some x => (0, x)
  | none => (1, 0)
theorem rs_same {b : Nat → Bool} (hw : ¬ w < -1) : msE w (rsM b w 4 0 (-1)) = rsX (rsC b w 4 0) := by
  have hb : ∀ f : Bool → Bool → Bool → Bool → Prop, (∀ b0 b1 b2 b3, f b0 b1 b2 b3) → f (b 0) (b 1) (b 2) (b 3) := fun f h => h _ _ _ _
  by_cases w0 : w < 4
  · have : w = -1 ∨ w = 0 ∨ w = 1 ∨ w = 2 ∨ w = 3 := by
      rw [Int32.lt_iff_toInt_lt] at hw w0
      have e1 : (-1 : Int32).toInt = -1 := rfl
      have e2 : (4 : Int32).toInt = 4 := rfl
      have : w.toInt = -1 ∨ w.toInt = 0 ∨ w.toInt = 1 ∨ w.toInt = 2 ∨ w.toInt = 3 := by omega
      rcases this with h | h | h | h | h
      · exact .inl (Int32.toInt_inj.mp h)
      · exact .inr (.inl (Int32.toInt_inj.mp h))
      · exact .inr (.inr (.inl (Int32.toInt_inj.mp h)))
      · exact .inr (.inr (.inr (.inl (Int32.toInt_inj.mp h))))
      · exact .inr (.inr (.inr (.inr (Int32.toInt_inj.mp h))))
    simp only [rsM, rsC, Nat.sub_self, Nat.sub_zero, Nat.reduceSub]
    generalize b 0 = b0
    generalize b 1 = b1
    generalize b 2 = b2
    generalize b 3 = b3
    rcases this with rfl | rfl | rfl | rfl | rfl <;> cases b0 <;> cases b1 <;> cases b2 <;> cases b3 <;> decide
  · have w5 : ¬ w < 0 := by
      rw [Int32.lt_iff_toInt_lt] at w0 ⊢
      have e1 : (0 : Int32).toInt = 0 := rfl
      have e2 : (4 : Int32).toInt = 4 := rfl
      omega
    have ne : ∀ v : Int32, v < 4 → ¬ v = w := fun v hv e => w0 (e ▸ hv)
    have wm : ¬ w = -1 := fun e => w5 (by rw [e]; decide)
    have a0 := ne 0 (by decide)
    have a1 := ne (0 + 1) (by decide)
    have a2 := ne (0 + 1 + 1) (by decide)
    have a3 := ne (0 + 1 + 1 + 1) (by decide)
    simp only [rsM, rsC, Nat.sub_self, Nat.sub_zero, Nat.reduceSub]
    generalize b 0 = b0
    generalize b 1 = b1
    generalize b 2 = b2
    generalize b 3 = b3
    cases b0 <;> cases b1 <;> cases b2 <;> cases b3 <;> simp [msE, rsX, w5, wm, a0, a1, a2, a3] at a0 a1 a2 a3 ⊢ <;> simp_all
theorem rs_none {b : Nat → Bool} (hw : w < -1) : rsC b w 4 0 = none := by
  have ne : ∀ v : Int32, -1 ≤ v → ¬ v = w := fun v hv e => by
    rw [e] at hv; exact absurd hw (Int32.not_lt.mpr hv)
  have wm : ¬ w = -1 := fun e => by rw [e] at hw; exact absurd hw (by decide)
  have a0 := ne 0 (by decide)
  have a1 := ne (0 + 1) (by decide)
  have a2 := ne (0 + 1 + 1) (by decide)
  have a3 := ne (0 + 1 + 1 + 1) (by decide)
  simp only [rsC, Nat.sub_self, Nat.sub_zero, Nat.reduceSub]
  generalize b 0 = b0
  generalize b 1 = b1
  generalize b 2 = b2
  generalize b 3 = b3
  rw [if_neg wm, if_neg a0, if_neg a0, if_neg a1]
  cases b0 <;> cases b1 <;> cases b2 <;> cases b3 <;> simp_all
theorem ms_bad {n : Nat} {c v : Int32} : h12_rests_52 (n + 2) x y z w 0 c v 0 μ = xri 0 (sI μ 12 0 0 1) := by
  rw [show n + 2 = n + 1 + 1 from rfl, h12_rests_52_s, xite_t (by decide), xite_t (by decide), xite_t (by decide), ms_h194]
theorem m_rests : f12_rests x y z w μ = xri (rsX (aRests x y z w)).2 (sI μ 12 0 0 (rsX (aRests x y z w)).1) := by
  rw [f12_rests_e, k12_rests, s12_within, bI_i, s12_within, bI_i, s12_within, bI_i, aRests, przs]
  cases h1 : wit 0 9 x
  · rw [xite_t (by decide), vI_eq, vI_eq, vI_eq, vI_eq, ms_bad]; rfl
  cases h2 : wit 0 9 y
  · rw [xite_f (by decide), xite_t (by decide), vI_eq, vI_eq, vI_eq, vI_eq, ms_bad]; rfl
  cases h3 : wit 0 9 z
  · rw [xite_f (by decide), xite_f (by decide), xite_t (by decide), vI_eq, vI_eq, vI_eq, vI_eq, ms_bad]; rfl
  rw [xite_f (by decide), xite_f (by decide), xite_f (by decide), if_pos (by decide)]
  by_cases h4 : w < -1
  · rw [xite_t h4, vI_eq, vI_eq, vI_eq, vI_eq, ms_bad, rs_none h4]; rfl
  · rw [xite_f h4, vI_eq, vI_eq, vI_eq, vI_eq, ← rs_same h4]
    exact ms_all 4 20000 0 (-1) (by omega) (by omega)
theorem L_rests : fL_rests x y z w μ = match aRests x y z w with
  | some a => xri 0 (pL μ 14 0 0 0 a.toInt64)
  | none => xri 1 μ := by
  rw [fL_rests, c_rests]
  cases aRests x y z w <;> rfl
end
