/-! THE PURE PART: the component's questions to a scene, and searches -/
def ct (c : Nat → Bool) : Nat → Nat
  | 0 => 0
  | n + 1 => if c n then ct c n + 1 else ct c n
theorem ct_le (c : Nat → Bool) : ∀ n, ct c n ≤ n
  | 0 => Nat.le_refl _
  | n + 1 => by have := ct_le c n; unfold ct; split <;> omega
theorem ct_cong {c d : Nat → Bool} : ∀ {n}, (∀ k, k < n → c k = d k) → ct c n = ct d n
  | 0, _ => rfl
  | n + 1, h => by
    unfold ct
    rw [ct_cong (fun k hk => h k (Nat.lt_succ_of_lt hk)), h n (Nat.lt_succ_self n)]
theorem lp_ct {F : Nat → Int32 → Int32 → XR} {c : Nat → Bool} {G : Nat} {R : Int32 → XR}
    (hx : ∀ n v, F (n + 1) (nI v) (nI G) = R (nI v))
    (hs : ∀ n v k, k < G → F (n + 1) (nI v) (nI k) = F n (nI (if c k then v + 1 else v)) (nI (k + 1))) :
    ∀ d k n, k + d = G → d < n → F n (nI (ct c k)) (nI k) = R (nI (ct c G)) := by
  intro d
  induction d with
  | zero =>
    intro k n e hn
    obtain ⟨m, rfl⟩ : ∃ m, n = m + 1 := ⟨n - 1, by omega⟩
    obtain rfl : k = G := by omega
    exact hx m _
  | succ d ih =>
    intro k n e hn
    obtain ⟨m, rfl⟩ : ∃ m, n = m + 1 := ⟨n - 1, by omega⟩
    rw [hs m _ k (by omega)]
    exact ih (k + 1) m (by omega) (by omega)
theorem fst_no {c : Nat → Bool} {d : Int32} (h : ∀ k, c k = false) : ∀ n k, fst c d k n = d
  | 0, _ => rfl
  | n + 1, k => by rw [fst, h k]; exact fst_no h n (k + 1)
/-- a number or none, as an int -/
def oI (a : Option Nat) : Int32 := match a with | none => -1 | some b => nI b
/-- the first of the least -/
def lo (c : Nat → Bool) (f : Nat → Int32) : Nat → Option Nat
  | 0 => none
  | n + 1 => if c n then (match lo c f n with | none => some n | some b => if f n < f b then some n else some b) else lo c f n
theorem lo_lt {c : Nat → Bool} {f : Nat → Int32} : ∀ {n b}, lo c f n = some b → b < n ∧ c b = true
  | 0, b, h => by cases h
  | n + 1, b, h => by
    unfold lo at h
    split at h
    · rename_i hc
      split at h
      · cases h; exact ⟨Nat.lt_succ_self n, hc⟩
      · rename_i b' e
        split at h
        · cases h; exact ⟨Nat.lt_succ_self n, hc⟩
        · cases h; have := lo_lt e; exact ⟨by omega, this.2⟩
    · have := lo_lt h; exact ⟨by omega, this.2⟩
theorem lo_cong {c d : Nat → Bool} {f g : Nat → Int32} : ∀ {n}, (∀ k, k < n → c k = d k) → (∀ j k, j < n → k < n → c j = true → c k = true → (f j < f k ↔ g j < g k)) → lo c f n = lo d g n
  | 0, _, _ => rfl
  | n + 1, h, h2 => by
    have ih := lo_cong (n := n) (fun k hk => h k (Nat.lt_succ_of_lt hk)) (fun j k hj hk => h2 j k (Nat.lt_succ_of_lt hj) (Nat.lt_succ_of_lt hk))
    unfold lo
    rw [← h n (Nat.lt_succ_self n)]
    by_cases hc : c n = true
    · rw [if_pos hc, if_pos hc]
      cases e : lo c f n with
      | none => rw [← ih, e]
      | some b =>
        rw [← ih, e]
        have hb := lo_lt e
        have := h2 n b (Nat.lt_succ_self n) (by omega) hc hb.2
        by_cases h3 : f n < f b
        · simp [h3, this.mp h3]
        · have h4 : ¬ g n < g b := fun h5 => h3 (this.mpr h5)
          simp [h3, h4]
    · rw [if_neg hc, if_neg hc]; exact ih
def lov (f : Nat → Int32) (a : Option Nat) : Int32 := match a with | none => 0 | some b => f b
theorem oI_m1 {a : Option Nat} (h : ∀ b, a = some b → b < 2 ^ 31) : (oI a = -1) = (a = none) := by
  cases a with
  | none => simp [oI]
  | some b =>
    have hb := h b rfl
    have : ¬ nI b = -1 := by
      intro e
      have := congrArg Int32.toInt e
      rw [nI_toInt hb] at this
      have h2 : (-1 : Int32).toInt = -1 := rfl
      omega
    simp [oI, this]
theorem oI_neg {a : Option Nat} (h : ∀ b, a = some b → b < 2 ^ 31) : (oI a < 0) = (a = none) := by
  cases a with
  | none => simp [oI]
  | some b => simp [oI, nI_pos (h b rfl)]
/-- a search for the first of the least, one number kept -/
theorem lp_lo {F : Nat → Int32 → Int32 → XR} {c : Nat → Bool} {f : Nat → Int32} {G : Nat} {R : Int32 → XR}
    (hx : ∀ n a, (∀ b, a = some b → b < G) → F (n + 1) (oI a) (nI G) = R (oI a))
    (hs : ∀ n a k, k < G → (∀ b, a = some b → b < k) → F (n + 1) (oI a) (nI k) = F n (oI (if c k then (match a with | none => some k | some b => if f k < f b then some k else some b) else a)) (nI (k + 1))) :
    ∀ d k n, k + d = G → d < n → F n (oI (lo c f k)) (nI k) = R (oI (lo c f G)) := by
  intro d
  induction d with
  | zero =>
    intro k n e hn
    obtain ⟨m, rfl⟩ : ∃ m, n = m + 1 := ⟨n - 1, by omega⟩
    obtain rfl : k = G := by omega
    exact hx m _ (fun b hb => (lo_lt hb).1)
  | succ d ih =>
    intro k n e hn
    obtain ⟨m, rfl⟩ : ∃ m, n = m + 1 := ⟨n - 1, by omega⟩
    rw [hs m _ k (by omega) (fun b hb => (lo_lt hb).1)]
    exact ih (k + 1) m (by omega) (by omega)
/-- the same, the least kept beside it -/
theorem lp_lo2 {F : Nat → Int32 → Int32 → Int32 → XR} {c : Nat → Bool} {f : Nat → Int32} {G : Nat} {R : Int32 → XR}
    (hx : ∀ n a, (∀ b, a = some b → b < G) → F (n + 1) (oI a) (lov f a) (nI G) = R (oI a))
    (hs : ∀ n a a2 k, k < G → (∀ b, a = some b → b < k) → a2 = (if c k then (match a with | none => some k | some b => if f k < f b then some k else some b) else a) → F (n + 1) (oI a) (lov f a) (nI k) = F n (oI a2) (lov f a2) (nI (k + 1))) :
    ∀ d k n, k + d = G → d < n → F n (oI (lo c f k)) (lov f (lo c f k)) (nI k) = R (oI (lo c f G)) := by
  intro d
  induction d with
  | zero =>
    intro k n e hn
    obtain ⟨m, rfl⟩ : ∃ m, n = m + 1 := ⟨n - 1, by omega⟩
    obtain rfl : k = G := by omega
    exact hx m _ (fun b hb => (lo_lt hb).1)
  | succ d ih =>
    intro k n e hn
    obtain ⟨m, rfl⟩ : ∃ m, n = m + 1 := ⟨n - 1, by omega⟩
    rw [hs m _ (lo c f (k + 1)) k (by omega) (fun b hb => (lo_lt hb).1) rfl]
    exact ih (k + 1) m (by omega) (by omega)
theorem absC (x : Int32) : (if 0 ≤ x then x else 0 - x) = absI x := by
  unfold absI
  by_cases h : x < 0
  · have : ¬ 0 ≤ x := Int32.not_le.mpr h
    rw [if_neg this, if_pos h, Int32.zero_sub]
  · have : 0 ≤ x := Int32.not_lt.mp h
    rw [if_pos this, if_neg h]
theorem hold_wl (h : HS) (s : SS) (w : Int32) : (hold h s w = -1) = (wl h s w = true) := by simp [wl]
section
variable {i : Nat} {h : HS} {s : SS} {μ : XM}
theorem s8_holderOf (hH : CH 0 h μ) (hS : CS i h s μ) (w : Int32) : f8_holderOf i w μ = xri (hold h s w) μ := by
  have h6 := CH_6 hH
  rw [f8_holderOf_e, k8_holderOf, vI_eq]
  refine lp_fst (F := fun n k => h8_holderOf_2 n i w k μ) (c := fun g => decide (s 3 g = w)) (G := hG h) (R := fun a => xri a μ) ?_ ?_ (hG h) 0 20000 (by omega) (by omega)
  · intro n
    simp only [h8_holderOf_2_s, CH_G hH, mS_eq, vI_eq, vL_eq, bV_v, bI_i, bL_l, xrb_b, xrb_0, xrb_1, xite_eq, b2_t, b2_f, i10, b2_eq0, b2_eq1, Bool.and_true, Bool.true_and, Bool.false_and, Bool.not_true, Bool.not_false, ↓reduceIte, not_false_eq_true, not_true_eq_false, decide_true, decide_false, if_pos, if_neg, Int32.lt_irrefl]
  · intro n k hk
    simp (disch := (first | assumption | omega)) only [h8_holderOf_2_s, CH_G hH, mS_eq, vI_eq, vL_eq, bV_v, bI_i, bL_l, xrb_b, xrb_0, xrb_1, xite_eq, b2_t, b2_f, i10, b2_eq0, b2_eq1, Bool.and_true, Bool.true_and, Bool.false_and, Bool.not_true, Bool.not_false, ↓reduceIte, not_false_eq_true, not_true_eq_false, decide_true, decide_false, if_pos, if_neg, nI_lt, xck_if, xin_t, nI_clamp, CS_be hS hk, ← nI_succ]
    split <;> grind
theorem s8_wall (hH : CH 0 h μ) (hS : CS i h s μ) : f8_wall i μ = xri (nI (wall h s)) μ := by
  have h5 := CH_5 hH
  rw [f8_wall_e, k8_wall, vI_eq, vI_eq]
  refine lp_bits (F := fun n a k => h8_wall_4 n i a k μ) (c := fun b => wl h s (nI b)) (G := hB h) (R := fun a => xri a μ) (by omega) ?_ ?_ (hB h) 0 20000 (by omega) (by omega)
  · intro n a
    simp only [h8_wall_4_s, CH_B hH, mS_eq, vI_eq, vL_eq, bV_v, bI_i, bL_l, xrb_b, xrb_0, xrb_1, xite_eq, b2_t, b2_f, i10, b2_eq0, b2_eq1, Bool.and_true, Bool.true_and, Bool.false_and, Bool.not_true, Bool.not_false, ↓reduceIte, not_false_eq_true, not_true_eq_false, decide_true, decide_false, if_pos, if_neg, Int32.lt_irrefl]
  · intro n a k hk
    simp (disch := (first | assumption | omega)) only [h8_wall_4_s, CH_B hH, mS_eq, vI_eq, vL_eq, bV_v, bI_i, bL_l, xrb_b, xrb_0, xrb_1, xite_eq, b2_t, b2_f, i10, b2_eq0, b2_eq1, Bool.and_true, Bool.true_and, Bool.false_and, Bool.not_true, Bool.not_false, ↓reduceIte, not_false_eq_true, not_true_eq_false, decide_true, decide_false, if_pos, if_neg, nI_lt, s8_holderOf hH hS, hold_wl, or_bit, ← nI_succ]
    split <;> rfl
theorem s8_isFree (hH : CH 0 h μ) (hS : CS i h s μ) (p : Int32) : f8_isFree i p μ = xri (b2 (inR (hM h) p && free s p.toNatClampNeg)) μ := by
  have h3 := CH_3 hH
  obtain ⟨v, hv, ev, hb⟩ := hS.2.1
  rw [f8_isFree_e, k8_isFree, s2_isMan hH]
  rcases inR_cases (n := hM h) (by omega) p with ⟨hp, hp'⟩ | ⟨j, hj, rfl, hp1, hp2, hp3⟩
  · simp only [mS_eq, vI_eq, vL_eq, bV_v, bI_i, bL_l, xrb_b, xrb_0, xrb_1, xite_eq, b2_t, b2_f, i10, b2_eq0, b2_eq1, Bool.and_true, Bool.true_and, Bool.false_and, Bool.not_true, Bool.not_false, ↓reduceIte, not_false_eq_true, not_true_eq_false, decide_true, decide_false, if_pos, if_neg, hp]
  · simp (disch := (first | assumption | omega)) only [mS_eq, vI_eq, vL_eq, bV_v, bI_i, bL_l, xrb_b, xrb_0, xrb_1, xite_eq, b2_t, b2_f, i10, b2_eq0, b2_eq1, Bool.and_true, Bool.true_and, Bool.false_and, Bool.not_true, Bool.not_false, ↓reduceIte, not_false_eq_true, not_true_eq_false, decide_true, decide_false, if_pos, if_neg, xck_if, xin_t, nI_clamp, hp3, ev, tst, hb j hj]
    grind [b2]
theorem s8_canStop (hH : CH 0 h μ) (hS : CS i h s μ) (p : Int32) : f8_canStop i p μ = xri (b2 (inR (hM h) p && (free s p.toNatClampNeg && decide (0 < s 5 0)))) μ := by
  rw [f8_canStop_e, k8_canStop, s8_isFree hH hS]
  simp only [mS_eq, vI_eq, vL_eq, bV_v, bI_i, bL_l, xrb_b, xrb_0, xrb_1, xite_eq, b2_t, b2_f, i10, b2_eq0, b2_eq1, Bool.and_true, Bool.true_and, Bool.false_and, Bool.not_true, Bool.not_false, ↓reduceIte, not_false_eq_true, not_true_eq_false, decide_true, decide_false, if_pos, if_neg, CS_ga hS]
  grind [b2]
theorem s8_isOnWall (hH : CH 0 h μ) (hS : CS i h s μ) (p : Int32) : f8_isOnWall i p μ = xri (b2 (inR (hB h) p && wl h s p)) μ := by
  rw [f8_isOnWall_e, k8_isOnWall, s2_isBelt hH]
  simp only [mS_eq, vI_eq, vL_eq, bV_v, bI_i, bL_l, xrb_b, xrb_0, xrb_1, xite_eq, b2_t, b2_f, i10, b2_eq0, b2_eq1, Bool.and_true, Bool.true_and, Bool.false_and, Bool.not_true, Bool.not_false, ↓reduceIte, not_false_eq_true, not_true_eq_false, decide_true, decide_false, if_pos, if_neg, s8_holderOf hH hS, hold_wl]
  grind [b2]
theorem s8_wantsBelt (hH : CH 0 h μ) (hS : CS i h s μ) (p : Int32) : f8_wantsBelt i p μ = xri (b2 (inR (hG h) p && want h s p.toNatClampNeg)) μ := by
  have h6 := CH_6 hH
  rw [f8_wantsBelt_e, k8_wantsBelt, s2_isGuest hH]
  rcases inR_cases (n := hG h) (by omega) p with ⟨hp, hp'⟩ | ⟨j, hj, rfl, hp1, hp2, hp3⟩
  · simp only [mS_eq, vI_eq, vL_eq, bV_v, bI_i, bL_l, xrb_b, xrb_0, xrb_1, xite_eq, b2_t, b2_f, i10, b2_eq0, b2_eq1, Bool.and_true, Bool.true_and, Bool.false_and, Bool.not_true, Bool.not_false, ↓reduceIte, not_false_eq_true, not_true_eq_false, decide_true, decide_false, if_pos, if_neg, hp]
  · simp (disch := (first | assumption | omega)) only [mS_eq, vI_eq, vL_eq, bV_v, bI_i, bL_l, xrb_b, xrb_0, xrb_1, xite_eq, b2_t, b2_f, i10, b2_eq0, b2_eq1, Bool.and_true, Bool.true_and, Bool.false_and, Bool.not_true, Bool.not_false, ↓reduceIte, not_false_eq_true, not_true_eq_false, decide_true, decide_false, if_pos, if_neg, xck_if, xin_t, nI_clamp, hp3, CS_st hS hj, CS_be hS hj, s2_isShabby hH, want, isIn]
    grind [b2]
theorem s8_isCrying (hH : CH 0 h μ) (hS : CS i h s μ) (p : Int32) : f8_isCrying i p μ = xri (b2 (inR (hG h) p && cry h s p.toNatClampNeg)) μ := by
  have h6 := CH_6 hH
  rw [f8_isCrying_e, k8_isCrying, s8_wantsBelt hH hS]
  rcases inR_cases (n := hG h) (by omega) p with ⟨hp, hp'⟩ | ⟨j, hj, rfl, hp1, hp2, hp3⟩
  · simp only [mS_eq, vI_eq, vL_eq, bV_v, bI_i, bL_l, xrb_b, xrb_0, xrb_1, xite_eq, b2_t, b2_f, i10, b2_eq0, b2_eq1, Bool.and_true, Bool.true_and, Bool.false_and, Bool.not_true, Bool.not_false, ↓reduceIte, not_false_eq_true, not_true_eq_false, decide_true, decide_false, if_pos, if_neg, hp]
  · simp (disch := (first | assumption | omega)) only [mS_eq, vI_eq, vL_eq, bV_v, bI_i, bL_l, xrb_b, xrb_0, xrb_1, xite_eq, b2_t, b2_f, i10, b2_eq0, b2_eq1, Bool.and_true, Bool.true_and, Bool.false_and, Bool.not_true, Bool.not_false, ↓reduceIte, not_false_eq_true, not_true_eq_false, decide_true, decide_false, if_pos, if_neg, xck_if, xin_t, nI_clamp, hp3, CH_ch hH hj, CS_de hS, cry]
    grind [b2]
theorem s8_canReach (hH : CH 0 h μ) (hS : CS i h s μ) (p q : Int32) : f8_canReach i p q μ = xri (b2 (inR (hM h) p && (inR (hG h) q && rch h s p.toNatClampNeg q.toNatClampNeg))) μ := by
  have h6 := CH_6 hH
  have h3 := CH_3 hH
  rw [f8_canReach_e, k8_canReach, s8_isFree hH hS]
  rcases inR_cases (n := hM h) (by omega) p with ⟨hp, hp'⟩ | ⟨j, hj, rfl, hp1, hp2, hp3⟩
  · simp only [mS_eq, vI_eq, vL_eq, bV_v, bI_i, bL_l, xrb_b, xrb_0, xrb_1, xite_eq, b2_t, b2_f, i10, b2_eq0, b2_eq1, Bool.and_true, Bool.true_and, Bool.false_and, Bool.not_true, Bool.not_false, ↓reduceIte, not_false_eq_true, not_true_eq_false, decide_true, decide_false, if_pos, if_neg, hp]
  · rcases inR_cases (n := hG h) (by omega) q with ⟨hq, hq'⟩ | ⟨k, hk, rfl, hq1, hq2, hq3⟩
    · simp only [mS_eq, vI_eq, vL_eq, bV_v, bI_i, bL_l, xrb_b, xrb_0, xrb_1, xite_eq, b2_t, b2_f, i10, b2_eq0, b2_eq1, Bool.and_true, Bool.true_and, Bool.false_and, Bool.not_true, Bool.not_false, ↓reduceIte, not_false_eq_true, not_true_eq_false, decide_true, decide_false, if_pos, if_neg, s8_wantsBelt hH hS, hp3, hq]
      grind [b2]
    · simp (disch := (first | assumption | omega)) only [mS_eq, vI_eq, vL_eq, bV_v, bI_i, bL_l, xrb_b, xrb_0, xrb_1, xite_eq, b2_t, b2_f, i10, b2_eq0, b2_eq1, Bool.and_true, Bool.true_and, Bool.false_and, Bool.not_true, Bool.not_false, ↓reduceIte, not_false_eq_true, not_true_eq_false, decide_true, decide_false, if_pos, if_neg, xck_if, xin_t, nI_clamp, s8_wantsBelt hH hS, hp3, hq3, CH_re hH hj, CH_po hH hj, CS_pl hS hk, absC, rch]
      grind [b2]
theorem s8_canCast (hH : CH 0 h μ) (hS : CS i h s μ) (p b q : Int32) : f8_canCast i p b q μ = xri (b2 ((inR (hB h) b && wl h s b) && (inR (hM h) p && (inR (hG h) q && rch h s p.toNatClampNeg q.toNatClampNeg)))) μ := by
  rw [f8_canCast_e, k8_canCast, s8_isOnWall hH hS]
  simp only [mS_eq, vI_eq, vL_eq, bV_v, bI_i, bL_l, xrb_b, xrb_0, xrb_1, xite_eq, b2_t, b2_f, i10, b2_eq0, b2_eq1, Bool.and_true, Bool.true_and, Bool.false_and, Bool.not_true, Bool.not_false, ↓reduceIte, not_false_eq_true, not_true_eq_false, decide_true, decide_false, if_pos, if_neg, s8_canReach hH hS]
  grind [b2]
theorem s8_canAsk (hS : CS i h s μ) : f8_canAsk i μ = xri (b2 (decide (s 5 0 < 9))) μ := by
  rw [f8_canAsk_e, k8_canAsk, CS_ga hS]
  simp only [mS_eq, vI_eq, vL_eq, bV_v, bI_i, bL_l, xrb_b, xrb_0, xrb_1, xite_eq, b2_t, b2_f, i10, b2_eq0, b2_eq1, Bool.and_true, Bool.true_and, Bool.false_and, Bool.not_true, Bool.not_false, ↓reduceIte, not_false_eq_true, not_true_eq_false, decide_true, decide_false, if_pos, if_neg]
  grind [b2]
theorem s8_criers (hH : CH 0 h μ) (hS : CS i h s μ) : f8_criers i μ = xri (nI (criers h s)) μ := by
  have h6 := CH_6 hH
  rw [f8_criers_e, k8_criers, vI_eq, vI_eq]
  refine lp_bits (F := fun n a k => h8_criers_4 n i a k μ) (c := fun g => cry h s g) (G := hG h) (R := fun a => xri a μ) (by omega) ?_ ?_ (hG h) 0 20000 (by omega) (by omega)
  · intro n a
    simp only [h8_criers_4_s, CH_G hH, mS_eq, vI_eq, vL_eq, bV_v, bI_i, bL_l, xrb_b, xrb_0, xrb_1, xite_eq, b2_t, b2_f, i10, b2_eq0, b2_eq1, Bool.and_true, Bool.true_and, Bool.false_and, Bool.not_true, Bool.not_false, ↓reduceIte, not_false_eq_true, not_true_eq_false, decide_true, decide_false, if_pos, if_neg, Int32.lt_irrefl]
  · intro n a k hk
    simp (disch := (first | assumption | omega)) only [h8_criers_4_s, CH_G hH, mS_eq, vI_eq, vL_eq, bV_v, bI_i, bL_l, xrb_b, xrb_0, xrb_1, xite_eq, b2_t, b2_f, i10, b2_eq0, b2_eq1, Bool.and_true, Bool.true_and, Bool.false_and, Bool.not_true, Bool.not_false, ↓reduceIte, not_false_eq_true, not_true_eq_false, decide_true, decide_false, if_pos, if_neg, nI_lt, s8_isCrying hH hS, inR_t, nI_clamp, or_bit, ← nI_succ]
    grind
theorem s8_borneBy (hH : CH 0 h μ) (hS : CS i h s μ) {b : Nat} (hb : b < hB h) : f8_borneBy i (nI b) μ = xri (nI (fitsN h s b)) μ := by
  have h6 := CH_6 hH
  have h5 := CH_5 hH
  rw [f8_borneBy_e, k8_borneBy, vI_eq, vI_eq]
  refine lp_bits (F := fun n a k => h8_borneBy_4 n i (nI b) a k μ) (c := fun g => isIn s g && (!shb h g && brn h b g)) (G := hG h) (R := fun a => xri a μ) (by omega) ?_ ?_ (hG h) 0 20000 (by omega) (by omega)
  · intro n a
    simp only [h8_borneBy_4_s, CH_G hH, mS_eq, vI_eq, vL_eq, bV_v, bI_i, bL_l, xrb_b, xrb_0, xrb_1, xite_eq, b2_t, b2_f, i10, b2_eq0, b2_eq1, Bool.and_true, Bool.true_and, Bool.false_and, Bool.not_true, Bool.not_false, ↓reduceIte, not_false_eq_true, not_true_eq_false, decide_true, decide_false, if_pos, if_neg, Int32.lt_irrefl]
  · intro n a k hk
    simp (disch := (first | assumption | omega)) only [h8_borneBy_4_s, CH_G hH, mS_eq, vI_eq, vL_eq, bV_v, bI_i, bL_l, xrb_b, xrb_0, xrb_1, xite_eq, b2_t, b2_f, i10, b2_eq0, b2_eq1, Bool.and_true, Bool.true_and, Bool.false_and, Bool.not_true, Bool.not_false, ↓reduceIte, not_false_eq_true, not_true_eq_false, decide_true, decide_false, if_pos, if_neg, nI_lt, xck_if, xin_t, nI_clamp, CS_st hS hk, s2_isShabby hH, s2_isBorne hH, inR_t, or_bit, ← nI_succ, isIn]
    grind
def manyN (h : HS) (s : SS) (v : Int32) : Nat := ct (fun g => isIn s g && decide (s 0 g = v)) (hG h)
theorem s8_manyAt (hH : CH 0 h μ) (hS : CS i h s μ) (v : Int32) : f8_manyAt i v μ = xri (nI (manyN h s v)) μ := by
  have h6 := CH_6 hH
  rw [f8_manyAt_e, k8_manyAt, vI_eq, vI_eq]
  refine lp_ct (F := fun n a k => h8_manyAt_4 n i v a k μ) (c := fun g => isIn s g && decide (s 0 g = v)) (G := hG h) (R := fun a => xri a μ) ?_ ?_ (hG h) 0 20000 (by omega) (by omega)
  · intro n a
    simp only [h8_manyAt_4_s, CH_G hH, mS_eq, vI_eq, vL_eq, bV_v, bI_i, bL_l, xrb_b, xrb_0, xrb_1, xite_eq, b2_t, b2_f, i10, b2_eq0, b2_eq1, Bool.and_true, Bool.true_and, Bool.false_and, Bool.not_true, Bool.not_false, ↓reduceIte, not_false_eq_true, not_true_eq_false, decide_true, decide_false, if_pos, if_neg, Int32.lt_irrefl]
  · intro n a k hk
    simp (disch := (first | assumption | omega)) only [h8_manyAt_4_s, CH_G hH, mS_eq, vI_eq, vL_eq, bV_v, bI_i, bL_l, xrb_b, xrb_0, xrb_1, xite_eq, b2_t, b2_f, i10, b2_eq0, b2_eq1, Bool.and_true, Bool.true_and, Bool.false_and, Bool.not_true, Bool.not_false, ↓reduceIte, not_false_eq_true, not_true_eq_false, decide_true, decide_false, if_pos, if_neg, nI_lt, xck_if, xin_t, nI_clamp, CS_st hS hk, CS_pl hS hk, ← nI_succ, isIn]
    grind
def leastB (h : HS) (g : Nat) : Option Nat := lo (fun b => brn h b g) (fun b => hf h 5 b) (hB h)
theorem s2_leastBelt (hH : CH i h μ) {g : Nat} (hg : g < hG h) : f2_leastBelt i (nI g) μ = xri (oI (leastB h g)) μ := by
  have h6 := CH_6 hH
  have h5 := CH_5 hH
  rw [f2_leastBelt_e, k2_leastBelt, vI_eq, vI_eq]
  refine lp_lo (F := fun n a k => h2_leastBelt_4 n i (nI g) a k μ) (c := fun b => brn h b g) (f := fun b => hf h 5 b) (G := hB h) (R := fun a => xri a μ) ?_ ?_ (hB h) 0 20000 (by omega) (by omega)
  · intro n a _
    simp only [h2_leastBelt_4_s, CH_B hH, mS_eq, vI_eq, vL_eq, bV_v, bI_i, bL_l, xrb_b, xrb_0, xrb_1, xite_eq, b2_t, b2_f, i10, b2_eq0, b2_eq1, Bool.and_true, Bool.true_and, Bool.false_and, Bool.not_true, Bool.not_false, ↓reduceIte, not_false_eq_true, not_true_eq_false, decide_true, decide_false, if_pos, if_neg, Int32.lt_irrefl]
  · intro n a k hk ha
    have ho := oI_m1 (a := a) (fun b hb => by have := ha b hb; omega)
    simp (disch := (first | assumption | omega)) only [h2_leastBelt_4_s, CH_B hH, mS_eq, vI_eq, vL_eq, bV_v, bI_i, bL_l, xrb_b, xrb_0, xrb_1, xite_eq, b2_t, b2_f, i10, b2_eq0, b2_eq1, Bool.and_true, Bool.true_and, Bool.false_and, Bool.not_true, Bool.not_false, ↓reduceIte, not_false_eq_true, not_true_eq_false, decide_true, decide_false, if_pos, if_neg, nI_lt, xck_if, xin_t, nI_clamp, s2_isBorne hH, inR_t, ho, CH_be hH hk, ← nI_succ]
    cases a with
    | none => simp only [mS_eq, vI_eq, vL_eq, bV_v, bI_i, bL_l, xrb_b, xrb_0, xrb_1, xite_eq, b2_t, b2_f, i10, b2_eq0, b2_eq1, Bool.and_true, Bool.true_and, Bool.false_and, Bool.not_true, Bool.not_false, ↓reduceIte, not_false_eq_true, not_true_eq_false, decide_true, decide_false, if_pos, if_neg]; grind [oI]
    | some b =>
      have hb := ha b rfl
      have hb' : b < hB h := by omega
      simp (disch := (first | assumption | omega)) only [mS_eq, vI_eq, vL_eq, bV_v, bI_i, bL_l, xrb_b, xrb_0, xrb_1, xite_eq, b2_t, b2_f, i10, b2_eq0, b2_eq1, Bool.and_true, Bool.true_and, Bool.false_and, Bool.not_true, Bool.not_false, ↓reduceIte, not_false_eq_true, not_true_eq_false, decide_true, decide_false, if_pos, if_neg, oI, xck_if, xin_t, nI_clamp, CH_be hH hb', reduceCtorEq]
      grind [oI]
theorem s2_leastBelt_no (hH : CH i h μ) {p : Int32} (hp : inR (hG h) p = false) : f2_leastBelt i p μ = xri (-1) μ := by
  have h5 := CH_5 hH
  rw [f2_leastBelt_e, k2_leastBelt, vI_eq, vI_eq]
  have := lp_fst (F := fun n k => h2_leastBelt_4 n i p (-1) k μ) (c := fun _ => false) (G := hB h) (d0 := -1) (R := fun a => xri a μ) ?_ ?_ (hB h) 0 20000 (by omega) (by omega)
  · rw [fst_no (fun _ => rfl)] at this
    exact this
  · intro n
    simp only [h2_leastBelt_4_s, CH_B hH, mS_eq, vI_eq, vL_eq, bV_v, bI_i, bL_l, xrb_b, xrb_0, xrb_1, xite_eq, b2_t, b2_f, i10, b2_eq0, b2_eq1, Bool.and_true, Bool.true_and, Bool.false_and, Bool.not_true, Bool.not_false, ↓reduceIte, not_false_eq_true, not_true_eq_false, decide_true, decide_false, if_pos, if_neg, Int32.lt_irrefl]
  · intro n k hk
    simp (disch := (first | assumption | omega)) only [h2_leastBelt_4_s, CH_B hH, mS_eq, vI_eq, vL_eq, bV_v, bI_i, bL_l, xrb_b, xrb_0, xrb_1, xite_eq, b2_t, b2_f, i10, b2_eq0, b2_eq1, Bool.and_true, Bool.true_and, Bool.false_and, Bool.not_true, Bool.not_false, ↓reduceIte, not_false_eq_true, not_true_eq_false, decide_true, decide_false, if_pos, if_neg, nI_lt, xck_if, xin_t, nI_clamp, s2_isBorne hH, inR_t, hp, Bool.and_false, Bool.false_eq_true, ← nI_succ]
end
