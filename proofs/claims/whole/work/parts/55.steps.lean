/-! THE PURE PART: the steps of a ROOM's lines, on both sides -/
/-- the same but for the token's number -/
def F7 (μ ν : XM) : Prop := Fr12 μ ν ∧ (∀ j, j ≠ 7 → rI ν 12 0 j = rI μ 12 0 j) ∧ (∀ j, aI ν 12 0 j = aI μ 12 0 j) ∧ ∀ j, aL ν 12 0 j = aL μ 12 0 j
theorem F7_r {μ : XM} : F7 μ μ := ⟨fun _ _ _ => rfl, fun _ _ => rfl, fun _ => rfl, fun _ => rfl⟩
theorem F7_t {μ ν ξ : XM} (a : F7 μ ν) (b : F7 ν ξ) : F7 μ ξ := ⟨Fr12_t a.1 b.1, fun j h => (b.2.1 j h).trans (a.2.1 j h), fun j => (b.2.2.1 j).trans (a.2.2.1 j), fun j => (b.2.2.2 j).trans (a.2.2.2 j)⟩
theorem F7_ad {μ : XM} {i : Nat} : F7 μ (ad μ i) := by
  refine ⟨fun t j h => sI_ne h, fun j h => ?_, fun j => aI_sI _ _ _ _ _ _ _ _, fun j => aL_sI _ _ _ _ _ _ _ _⟩
  unfold ad; rw [rI_sI]; simp only [h, and_false, ↓reduceIte]
theorem F7_R {μ ν : XM} (a : F7 μ ν) : FR μ ν := ⟨a.1, fun j h _ _ _ _ => a.2.1 j h, fun j _ _ _ _ _ => a.2.2.1 j, fun j _ => a.2.2.2 j, fun k _ => by rw [a.2.2.1], fun k _ => by rw [a.2.2.1, a.2.2.1]; exact ⟨rfl, rfl⟩, fun k _ => by rw [a.2.2.1]⟩
theorem FTp_pI {μ ν : XM} (h : FTp μ ν) {j k : Nat} {x : Int32} : FTp (pI μ 2 1 j k x) (pI ν 2 1 j k x) := by
  intro t i hn
  by_cases e : t = 2 ∧ i = 1
  · obtain ⟨rfl, rfl⟩ := e
    have h1 := h 2 1 (by omega)
    unfold pI wI
    rw [xset_s, xset_s, h1, aI_ob h1]
  · rw [pI_ne e, pI_ne e]; exact h t i hn
theorem FTp_pL {μ ν : XM} (h : FTp μ ν) {j k : Nat} {x : Int64} : FTp (pL μ 2 1 j k x) (pL ν 2 1 j k x) := by
  intro t i hn
  by_cases e : t = 2 ∧ i = 1
  · obtain ⟨rfl, rfl⟩ := e
    have h1 := h 2 1 (by omega)
    unfold pL wL
    rw [xset_s, xset_s, h1, aL_ob h1]
  · rw [pL_ne e, pL_ne e]; exact h t i hn
theorem FTp_sI {μ ν : XM} (h : FTp μ ν) {t0 i0 j : Nat} {x : Int32} : FTp (sI μ t0 i0 j x) (sI ν t0 i0 j x) := by
  intro t i hn
  by_cases e : t = t0 ∧ i = i0
  · obtain ⟨rfl, rfl⟩ := e
    have h1 := h t i hn
    unfold sI
    rw [xset_s, xset_s, h1]
  · rw [sI_ne e, sI_ne e]; exact h t i hn
/-- both sides stop at the same fault -/
def BF (F : Nat) (μ ν : XM) (rc rr : XR) (x : Option XV) : Prop := (0 < F ∧ F < 2 ^ 31) ∧ (∃ μ', rc = xri 0 μ' ∧ rI μ' 10 0 7 = nI F ∧ FTp μ μ') ∧ ∃ ν', rr = some (x, ν') ∧ FF F ν' ∧ FR ν ν'
section
variable {μ ν : XM} {T : TP} {m i : Nat} {h : HS}
theorem BF_c {F : Nat} {rr : XR} {x : Option XV} {ν' : XM} (hF : 0 < F ∧ F < 2 ^ 31) (hr : rr = some (x, ft ν' F)) (f : FR ν ν') {μ1 : XM} (g : FTp μ μ1) : BF F μ ν (xri 0 (fc μ1 F)) rr x :=
  ⟨hF, ⟨_, rfl, fc_7, FTp_t g FTp_c⟩, _, hr, (ft_F hF.1 hF.2).1, FR_t f (ft_F hF.1 hF.2).2⟩
theorem J_meas_pl (hC : CO T m i μ) (hO : RO T m i ν) {n w a b : Nat} (hn : n < 6) (hw : w < 27) (ha : a < 1000) (hb : b < 1000) {p q r w' : Int32} (hp : p = nI (128 + cpx w)) (hq : q = nI a) (hr : r = nI b) (hw' : w' = nI w) :
    (∃ F, BF F μ ν (f7_readMeasure_pl p q r 1 (nI n) μ) (f12_takeAfter w' q r ν) (some (xi 0))) ∨
    ∃ v, a ≤ v ∧ v ≤ b ∧ (∃ μ', f7_readMeasure_pl p q r 1 (nI n) μ = xri 1 μ' ∧ CO T m (i + 2) μ' ∧ FTp (pI μ 2 1 7 n (nI v)) μ') ∧ ∃ ν', f12_takeAfter w' q r ν = xri (nI v) ν' ∧ RO T m (i + 2) ν' ∧ F7 ν ν' := by
  have hcx := cpx_lt w
  rw [f7_readMeasure_pl_e, k7_readMeasure_pl, CO_eq hC (c := 128 + cpx w) (by omega) p hp, ok_takeAfter hO hC.2.2.2.1 hw' hq hr hw ha hb]
  by_cases e : kt T i = 128 + cpx w
  · have hi := CO_lt hC (show kt T i ≠ 0 by omega)
    obtain ⟨μ1, a1, a2, a3⟩ := cp_adv hC hi
    obtain ⟨b1, b2'⟩ := RO_ad hO hi
    rw [xite_t e, a1, bV_v, cp_isNumber a2 hq hr ha hb, if_pos e]
    by_cases e2 : kt T (i + 1) = 2
    · have hi2 := CO_lt a2 (show kt T (i + 1) ≠ 0 by omega)
      rw [if_pos e2, if_pos e2]
      by_cases e3 : a ≤ vq T (PT T (i + 1)) ∧ vq T (PT T (i + 1)) ≤ b
      · have hC2 : CO T m (i + 1) (pI μ1 2 1 7 n (nI (vq T (PT T (i + 1))))) := CO_ob (pI_ne (by omega)) a2
        obtain ⟨μ3, d1, d2, d3⟩ := cp_adv hC2 hi2
        rw [if_pos e3, if_pos e3, bI_i, xite_f (by decide), xite_f (nI_pos (by omega)), xite_t (show nI n < nI 6 from nI_lt hn (by omega)), xck_t (xin_a (show 6 < 2 ^ 31 by omega) hn), nI_clamp (by omega), a2.1.2.2.2.2.1 e2, mS_eq, d1, bV_v, xrb_1]
        exact .inr ⟨_, e3.1, e3.2, ⟨μ3, rfl, d2, FTp_t (FTp_pI a3) d3⟩, _, rfl, (RO_ad b1 hi2).1, F7_t F7_ad F7_ad⟩
      · rw [if_neg e3, if_neg e3, bI_i, xite_t rfl, xrb_0]
        exact .inl ⟨_, BF_c (wr_lt b1 (by omega) (by omega)) rfl b2' a3⟩
    · rw [if_neg e2, if_neg e2, bI_i, xite_t rfl, xrb_0]
      exact .inl ⟨_, BF_c (wr_lt b1 (by omega) (by omega)) rfl b2' a3⟩
  · rw [xite_f e, cp_wrong hC 1 (w := 1) rfl, bI_i, xrb_0, if_neg e]
    exact .inl ⟨_, BF_c (wr_lt hO (by omega) (by omega)) rfl FR_r FTp_r⟩
theorem J_meas_ch (hC : CO T m i μ) (hO : RO T m i ν) {n w a b : Nat} (hn : n < 6) (hw : w < 27) (ha : a < 1000) (hb : b < 1000) {p q r w' : Int32} (hp : p = nI (128 + cpx w)) (hq : q = nI a) (hr : r = nI b) (hw' : w' = nI w) :
    (∃ F, BF F μ ν (f7_readMeasure_ch p q r 1 (nI n) μ) (f12_takeAfter w' q r ν) (some (xi 0))) ∨
    ∃ v, a ≤ v ∧ v ≤ b ∧ (∃ μ', f7_readMeasure_ch p q r 1 (nI n) μ = xri 1 μ' ∧ CO T m (i + 2) μ' ∧ FTp (pI μ 2 1 8 n (nI v)) μ') ∧ ∃ ν', f12_takeAfter w' q r ν = xri (nI v) ν' ∧ RO T m (i + 2) ν' ∧ F7 ν ν' := by
  have hcx := cpx_lt w
  rw [f7_readMeasure_ch_e, k7_readMeasure_ch, CO_eq hC (c := 128 + cpx w) (by omega) p hp, ok_takeAfter hO hC.2.2.2.1 hw' hq hr hw ha hb]
  by_cases e : kt T i = 128 + cpx w
  · have hi := CO_lt hC (show kt T i ≠ 0 by omega)
    obtain ⟨μ1, a1, a2, a3⟩ := cp_adv hC hi
    obtain ⟨b1, b2'⟩ := RO_ad hO hi
    rw [xite_t e, a1, bV_v, cp_isNumber a2 hq hr ha hb, if_pos e]
    by_cases e2 : kt T (i + 1) = 2
    · have hi2 := CO_lt a2 (show kt T (i + 1) ≠ 0 by omega)
      rw [if_pos e2, if_pos e2]
      by_cases e3 : a ≤ vq T (PT T (i + 1)) ∧ vq T (PT T (i + 1)) ≤ b
      · have hC2 : CO T m (i + 1) (pI μ1 2 1 8 n (nI (vq T (PT T (i + 1))))) := CO_ob (pI_ne (by omega)) a2
        obtain ⟨μ3, d1, d2, d3⟩ := cp_adv hC2 hi2
        rw [if_pos e3, if_pos e3, bI_i, xite_f (by decide), xite_f (nI_pos (by omega)), xite_t (show nI n < nI 6 from nI_lt hn (by omega)), xck_t (xin_a (show 6 < 2 ^ 31 by omega) hn), nI_clamp (by omega), a2.1.2.2.2.2.1 e2, mS_eq, d1, bV_v, xrb_1]
        exact .inr ⟨_, e3.1, e3.2, ⟨μ3, rfl, d2, FTp_t (FTp_pI a3) d3⟩, _, rfl, (RO_ad b1 hi2).1, F7_t F7_ad F7_ad⟩
      · rw [if_neg e3, if_neg e3, bI_i, xite_t rfl, xrb_0]
        exact .inl ⟨_, BF_c (wr_lt b1 (by omega) (by omega)) rfl b2' a3⟩
    · rw [if_neg e2, if_neg e2, bI_i, xite_t rfl, xrb_0]
      exact .inl ⟨_, BF_c (wr_lt b1 (by omega) (by omega)) rfl b2' a3⟩
  · rw [xite_f e, cp_wrong hC 1 (w := 1) rfl, bI_i, xrb_0, if_neg e]
    exact .inl ⟨_, BF_c (wr_lt hO (by omega) (by omega)) rfl FR_r FTp_r⟩
theorem J_meas_br (hC : CO T m i μ) (hO : RO T m i ν) {n w a b : Nat} (hn : n < 6) (hw : w < 27) (ha : a < 1000) (hb : b < 1000) {p q r w' : Int32} (hp : p = nI (128 + cpx w)) (hq : q = nI a) (hr : r = nI b) (hw' : w' = nI w) :
    (∃ F, BF F μ ν (f7_readMeasure_br p q r 1 (nI n) μ) (f12_takeAfter w' q r ν) (some (xi 0))) ∨
    ∃ v, a ≤ v ∧ v ≤ b ∧ (∃ μ', f7_readMeasure_br p q r 1 (nI n) μ = xri 1 μ' ∧ CO T m (i + 2) μ' ∧ FTp (pI μ 2 1 9 n (nI v)) μ') ∧ ∃ ν', f12_takeAfter w' q r ν = xri (nI v) ν' ∧ RO T m (i + 2) ν' ∧ F7 ν ν' := by
  have hcx := cpx_lt w
  rw [f7_readMeasure_br_e, k7_readMeasure_br, CO_eq hC (c := 128 + cpx w) (by omega) p hp, ok_takeAfter hO hC.2.2.2.1 hw' hq hr hw ha hb]
  by_cases e : kt T i = 128 + cpx w
  · have hi := CO_lt hC (show kt T i ≠ 0 by omega)
    obtain ⟨μ1, a1, a2, a3⟩ := cp_adv hC hi
    obtain ⟨b1, b2'⟩ := RO_ad hO hi
    rw [xite_t e, a1, bV_v, cp_isNumber a2 hq hr ha hb, if_pos e]
    by_cases e2 : kt T (i + 1) = 2
    · have hi2 := CO_lt a2 (show kt T (i + 1) ≠ 0 by omega)
      rw [if_pos e2, if_pos e2]
      by_cases e3 : a ≤ vq T (PT T (i + 1)) ∧ vq T (PT T (i + 1)) ≤ b
      · have hC2 : CO T m (i + 1) (pI μ1 2 1 9 n (nI (vq T (PT T (i + 1))))) := CO_ob (pI_ne (by omega)) a2
        obtain ⟨μ3, d1, d2, d3⟩ := cp_adv hC2 hi2
        rw [if_pos e3, if_pos e3, bI_i, xite_f (by decide), xite_f (nI_pos (by omega)), xite_t (show nI n < nI 6 from nI_lt hn (by omega)), xck_t (xin_a (show 6 < 2 ^ 31 by omega) hn), nI_clamp (by omega), a2.1.2.2.2.2.1 e2, mS_eq, d1, bV_v, xrb_1]
        exact .inr ⟨_, e3.1, e3.2, ⟨μ3, rfl, d2, FTp_t (FTp_pI a3) d3⟩, _, rfl, (RO_ad b1 hi2).1, F7_t F7_ad F7_ad⟩
      · rw [if_neg e3, if_neg e3, bI_i, xite_t rfl, xrb_0]
        exact .inl ⟨_, BF_c (wr_lt b1 (by omega) (by omega)) rfl b2' a3⟩
    · rw [if_neg e2, if_neg e2, bI_i, xite_t rfl, xrb_0]
      exact .inl ⟨_, BF_c (wr_lt b1 (by omega) (by omega)) rfl b2' a3⟩
  · rw [xite_f e, cp_wrong hC 1 (w := 1) rfl, bI_i, xrb_0, if_neg e]
    exact .inl ⟨_, BF_c (wr_lt hO (by omega) (by omega)) rfl FR_r FTp_r⟩
theorem J_meas_we (hC : CO T m i μ) (hO : RO T m i ν) {n w a b : Nat} (hn : n < 6) (hw : w < 27) (ha : a < 1000) (hb : b < 1000) {p q r w' : Int32} (hp : p = nI (128 + cpx w)) (hq : q = nI a) (hr : r = nI b) (hw' : w' = nI w) :
    (∃ F, BF F μ ν (f7_readMeasure_we p q r 1 (nI n) μ) (f12_takeAfter w' q r ν) (some (xi 0))) ∨
    ∃ v, a ≤ v ∧ v ≤ b ∧ (∃ μ', f7_readMeasure_we p q r 1 (nI n) μ = xri 1 μ' ∧ CO T m (i + 2) μ' ∧ FTp (pI μ 2 1 10 n (nI v)) μ') ∧ ∃ ν', f12_takeAfter w' q r ν = xri (nI v) ν' ∧ RO T m (i + 2) ν' ∧ F7 ν ν' := by
  have hcx := cpx_lt w
  rw [f7_readMeasure_we_e, k7_readMeasure_we, CO_eq hC (c := 128 + cpx w) (by omega) p hp, ok_takeAfter hO hC.2.2.2.1 hw' hq hr hw ha hb]
  by_cases e : kt T i = 128 + cpx w
  · have hi := CO_lt hC (show kt T i ≠ 0 by omega)
    obtain ⟨μ1, a1, a2, a3⟩ := cp_adv hC hi
    obtain ⟨b1, b2'⟩ := RO_ad hO hi
    rw [xite_t e, a1, bV_v, cp_isNumber a2 hq hr ha hb, if_pos e]
    by_cases e2 : kt T (i + 1) = 2
    · have hi2 := CO_lt a2 (show kt T (i + 1) ≠ 0 by omega)
      rw [if_pos e2, if_pos e2]
      by_cases e3 : a ≤ vq T (PT T (i + 1)) ∧ vq T (PT T (i + 1)) ≤ b
      · have hC2 : CO T m (i + 1) (pI μ1 2 1 10 n (nI (vq T (PT T (i + 1))))) := CO_ob (pI_ne (by omega)) a2
        obtain ⟨μ3, d1, d2, d3⟩ := cp_adv hC2 hi2
        rw [if_pos e3, if_pos e3, bI_i, xite_f (by decide), xite_f (nI_pos (by omega)), xite_t (show nI n < nI 6 from nI_lt hn (by omega)), xck_t (xin_a (show 6 < 2 ^ 31 by omega) hn), nI_clamp (by omega), a2.1.2.2.2.2.1 e2, mS_eq, d1, bV_v, xrb_1]
        exact .inr ⟨_, e3.1, e3.2, ⟨μ3, rfl, d2, FTp_t (FTp_pI a3) d3⟩, _, rfl, (RO_ad b1 hi2).1, F7_t F7_ad F7_ad⟩
      · rw [if_neg e3, if_neg e3, bI_i, xite_t rfl, xrb_0]
        exact .inl ⟨_, BF_c (wr_lt b1 (by omega) (by omega)) rfl b2' a3⟩
    · rw [if_neg e2, if_neg e2, bI_i, xite_t rfl, xrb_0]
      exact .inl ⟨_, BF_c (wr_lt b1 (by omega) (by omega)) rfl b2' a3⟩
  · rw [xite_f e, cp_wrong hC 1 (w := 1) rfl, bI_i, xrb_0, if_neg e]
    exact .inl ⟨_, BF_c (wr_lt hO (by omega) (by omega)) rfl FR_r FTp_r⟩
theorem J_meas_be (hC : CO T m i μ) (hO : RO T m i ν) {n w a b : Nat} (hn : n < 5) (hw : w < 27) (ha : a < 1000) (hb : b < 1000) {p q r w' : Int32} (hp : p = nI (128 + cpx w)) (hq : q = nI a) (hr : r = nI b) (hw' : w' = nI w) :
    (∃ F, BF F μ ν (f7_readMeasure_be p q r 1 (nI n) μ) (f12_takeAfter w' q r ν) (some (xi 0))) ∨
    ∃ v, a ≤ v ∧ v ≤ b ∧ (∃ μ', f7_readMeasure_be p q r 1 (nI n) μ = xri 1 μ' ∧ CO T m (i + 2) μ' ∧ FTp (pI μ 2 1 12 n (nI v)) μ') ∧ ∃ ν', f12_takeAfter w' q r ν = xri (nI v) ν' ∧ RO T m (i + 2) ν' ∧ F7 ν ν' := by
  have hcx := cpx_lt w
  rw [f7_readMeasure_be_e, k7_readMeasure_be, CO_eq hC (c := 128 + cpx w) (by omega) p hp, ok_takeAfter hO hC.2.2.2.1 hw' hq hr hw ha hb]
  by_cases e : kt T i = 128 + cpx w
  · have hi := CO_lt hC (show kt T i ≠ 0 by omega)
    obtain ⟨μ1, a1, a2, a3⟩ := cp_adv hC hi
    obtain ⟨b1, b2'⟩ := RO_ad hO hi
    rw [xite_t e, a1, bV_v, cp_isNumber a2 hq hr ha hb, if_pos e]
    by_cases e2 : kt T (i + 1) = 2
    · have hi2 := CO_lt a2 (show kt T (i + 1) ≠ 0 by omega)
      rw [if_pos e2, if_pos e2]
      by_cases e3 : a ≤ vq T (PT T (i + 1)) ∧ vq T (PT T (i + 1)) ≤ b
      · have hC2 : CO T m (i + 1) (pI μ1 2 1 12 n (nI (vq T (PT T (i + 1))))) := CO_ob (pI_ne (by omega)) a2
        obtain ⟨μ3, d1, d2, d3⟩ := cp_adv hC2 hi2
        rw [if_pos e3, if_pos e3, bI_i, xite_f (by decide), xite_f (nI_pos (by omega)), xite_t (show nI n < nI 5 from nI_lt hn (by omega)), xck_t (xin_a (show 5 < 2 ^ 31 by omega) hn), nI_clamp (by omega), a2.1.2.2.2.2.1 e2, mS_eq, d1, bV_v, xrb_1]
        exact .inr ⟨_, e3.1, e3.2, ⟨μ3, rfl, d2, FTp_t (FTp_pI a3) d3⟩, _, rfl, (RO_ad b1 hi2).1, F7_t F7_ad F7_ad⟩
      · rw [if_neg e3, if_neg e3, bI_i, xite_t rfl, xrb_0]
        exact .inl ⟨_, BF_c (wr_lt b1 (by omega) (by omega)) rfl b2' a3⟩
    · rw [if_neg e2, if_neg e2, bI_i, xite_t rfl, xrb_0]
      exact .inl ⟨_, BF_c (wr_lt b1 (by omega) (by omega)) rfl b2' a3⟩
  · rw [xite_f e, cp_wrong hC 1 (w := 1) rfl, bI_i, xrb_0, if_neg e]
    exact .inl ⟨_, BF_c (wr_lt hO (by omega) (by omega)) rfl FR_r FTp_r⟩
theorem J_meas_po (hC : CO T m i μ) (hO : RO T m i ν) {n w a b : Nat} (hn : n < 3) (hw : w < 27) (ha : a < 1000) (hb : b < 1000) {p q r w' : Int32} (hp : p = nI (128 + cpx w)) (hq : q = nI a) (hr : r = nI b) (hw' : w' = nI w) :
    (∃ F, BF F μ ν (f7_readMeasure_po p q r 1 (nI n) μ) (f12_takeAfter w' q r ν) (some (xi 0))) ∨
    ∃ v, a ≤ v ∧ v ≤ b ∧ (∃ μ', f7_readMeasure_po p q r 1 (nI n) μ = xri 1 μ' ∧ CO T m (i + 2) μ' ∧ FTp (pI μ 2 1 14 n (nI v)) μ') ∧ ∃ ν', f12_takeAfter w' q r ν = xri (nI v) ν' ∧ RO T m (i + 2) ν' ∧ F7 ν ν' := by
  have hcx := cpx_lt w
  rw [f7_readMeasure_po_e, k7_readMeasure_po, CO_eq hC (c := 128 + cpx w) (by omega) p hp, ok_takeAfter hO hC.2.2.2.1 hw' hq hr hw ha hb]
  by_cases e : kt T i = 128 + cpx w
  · have hi := CO_lt hC (show kt T i ≠ 0 by omega)
    obtain ⟨μ1, a1, a2, a3⟩ := cp_adv hC hi
    obtain ⟨b1, b2'⟩ := RO_ad hO hi
    rw [xite_t e, a1, bV_v, cp_isNumber a2 hq hr ha hb, if_pos e]
    by_cases e2 : kt T (i + 1) = 2
    · have hi2 := CO_lt a2 (show kt T (i + 1) ≠ 0 by omega)
      rw [if_pos e2, if_pos e2]
      by_cases e3 : a ≤ vq T (PT T (i + 1)) ∧ vq T (PT T (i + 1)) ≤ b
      · have hC2 : CO T m (i + 1) (pI μ1 2 1 14 n (nI (vq T (PT T (i + 1))))) := CO_ob (pI_ne (by omega)) a2
        obtain ⟨μ3, d1, d2, d3⟩ := cp_adv hC2 hi2
        rw [if_pos e3, if_pos e3, bI_i, xite_f (by decide), xite_f (nI_pos (by omega)), xite_t (show nI n < nI 3 from nI_lt hn (by omega)), xck_t (xin_a (show 3 < 2 ^ 31 by omega) hn), nI_clamp (by omega), a2.1.2.2.2.2.1 e2, mS_eq, d1, bV_v, xrb_1]
        exact .inr ⟨_, e3.1, e3.2, ⟨μ3, rfl, d2, FTp_t (FTp_pI a3) d3⟩, _, rfl, (RO_ad b1 hi2).1, F7_t F7_ad F7_ad⟩
      · rw [if_neg e3, if_neg e3, bI_i, xite_t rfl, xrb_0]
        exact .inl ⟨_, BF_c (wr_lt b1 (by omega) (by omega)) rfl b2' a3⟩
    · rw [if_neg e2, if_neg e2, bI_i, xite_t rfl, xrb_0]
      exact .inl ⟨_, BF_c (wr_lt b1 (by omega) (by omega)) rfl b2' a3⟩
  · rw [xite_f e, cp_wrong hC 1 (w := 1) rfl, bI_i, xrb_0, if_neg e]
    exact .inl ⟨_, BF_c (wr_lt hO (by omega) (by omega)) rfl FR_r FTp_r⟩
theorem J_meas_re (hC : CO T m i μ) (hO : RO T m i ν) {n w a b : Nat} (hn : n < 3) (hw : w < 27) (ha : a < 1000) (hb : b < 1000) {p q r w' : Int32} (hp : p = nI (128 + cpx w)) (hq : q = nI a) (hr : r = nI b) (hw' : w' = nI w) :
    (∃ F, BF F μ ν (f7_readMeasure_re p q r 1 (nI n) μ) (f12_takeAfter w' q r ν) (some (xi 0))) ∨
    ∃ v, a ≤ v ∧ v ≤ b ∧ (∃ μ', f7_readMeasure_re p q r 1 (nI n) μ = xri 1 μ' ∧ CO T m (i + 2) μ' ∧ FTp (pI μ 2 1 15 n (nI v)) μ') ∧ ∃ ν', f12_takeAfter w' q r ν = xri (nI v) ν' ∧ RO T m (i + 2) ν' ∧ F7 ν ν' := by
  have hcx := cpx_lt w
  rw [f7_readMeasure_re_e, k7_readMeasure_re, CO_eq hC (c := 128 + cpx w) (by omega) p hp, ok_takeAfter hO hC.2.2.2.1 hw' hq hr hw ha hb]
  by_cases e : kt T i = 128 + cpx w
  · have hi := CO_lt hC (show kt T i ≠ 0 by omega)
    obtain ⟨μ1, a1, a2, a3⟩ := cp_adv hC hi
    obtain ⟨b1, b2'⟩ := RO_ad hO hi
    rw [xite_t e, a1, bV_v, cp_isNumber a2 hq hr ha hb, if_pos e]
    by_cases e2 : kt T (i + 1) = 2
    · have hi2 := CO_lt a2 (show kt T (i + 1) ≠ 0 by omega)
      rw [if_pos e2, if_pos e2]
      by_cases e3 : a ≤ vq T (PT T (i + 1)) ∧ vq T (PT T (i + 1)) ≤ b
      · have hC2 : CO T m (i + 1) (pI μ1 2 1 15 n (nI (vq T (PT T (i + 1))))) := CO_ob (pI_ne (by omega)) a2
        obtain ⟨μ3, d1, d2, d3⟩ := cp_adv hC2 hi2
        rw [if_pos e3, if_pos e3, bI_i, xite_f (by decide), xite_f (nI_pos (by omega)), xite_t (show nI n < nI 3 from nI_lt hn (by omega)), xck_t (xin_a (show 3 < 2 ^ 31 by omega) hn), nI_clamp (by omega), a2.1.2.2.2.2.1 e2, mS_eq, d1, bV_v, xrb_1]
        exact .inr ⟨_, e3.1, e3.2, ⟨μ3, rfl, d2, FTp_t (FTp_pI a3) d3⟩, _, rfl, (RO_ad b1 hi2).1, F7_t F7_ad F7_ad⟩
      · rw [if_neg e3, if_neg e3, bI_i, xite_t rfl, xrb_0]
        exact .inl ⟨_, BF_c (wr_lt b1 (by omega) (by omega)) rfl b2' a3⟩
    · rw [if_neg e2, if_neg e2, bI_i, xite_t rfl, xrb_0]
      exact .inl ⟨_, BF_c (wr_lt b1 (by omega) (by omega)) rfl b2' a3⟩
  · rw [xite_f e, cp_wrong hC 1 (w := 1) rfl, bI_i, xrb_0, if_neg e]
    exact .inl ⟨_, BF_c (wr_lt hO (by omega) (by omega)) rfl FR_r FTp_r⟩
theorem cpx_k : ∀ j, j < 4 → 128 + cpx (16 + j) = 140 + j := by decide
theorem J_kind (hC : CO T m i μ) (hO : RO T m i ν) {n : Nat} (hn : n < 6) :
    (∃ F, BF F μ ν (f7_readKind_kd 1 (nI n) μ) (f12_takeOne 16 4 ν) (some (xi 0))) ∨
    ∃ k, k < 4 ∧ (∃ μ', f7_readKind_kd 1 (nI n) μ = xri 1 μ' ∧ CO T m (i + 1) μ' ∧ FTp (pI μ 2 1 6 n (nI k)) μ') ∧ ∃ ν', f12_takeOne 16 4 ν = xri (nI k) ν' ∧ RO T m (i + 1) ν' ∧ F7 ν ν' := by
  have hkl := kt_le (T := T) i
  have q1 : (nI (kt T i) < 140) = (kt T i < 140) := propext (nI_ltI (b := 140) (by omega) (by omega))
  have q2 : ((143 : Int32) < nI (kt T i)) = (143 < kt T i) := propext (nI_ltI (a := 143) (by omega) (by omega))
  rw [f7_readKind_kd_e, k7_readKind_kd, CO_4 hC, q1, q2, f12_takeOne_e, k12_takeOne, xite_f (RO_p hO), ok_wordHere hO (a := 16) (n := 4) (p := 16) (q := 4) rfl rfl (by omega), bI_i, vI_eq, xite_t hO.2.2.2.1]
  rcases lastw_cases (T := T) (i := i) (a := 16) (n := 4) (by omega) with ⟨h1, h2⟩ | ⟨j, h1, h2, h3⟩
  · have hw := wr_lt hO (w := 1) (by omega) (by omega)
    have hF := (ft_F (μ := ν) hw.1 hw.2).1
    have hr : h12_takeOne_34 20000 (-1) (ft ν (1 + 16 * PT T i)) = xri 0 (ft ν (1 + 16 * PT T i)) := by
      rw [show (20000 : Nat) = 19999 + 1 from rfl, h12_takeOne_34_s, xite_t (FF_p hF), sI_add0, mS_eq, xite_t (FF_p hF)]
    rw [h1, xite_t (show (-1 : Int32) < 0 by decide), ok_wrong hO 1 (w := 1) rfl, bV_v, hr]
    refine .inl ⟨1 + 16 * PT T i, ?_⟩
    by_cases e : kt T i < 140
    · rw [xite_t e, cp_wrong hC 1 (w := 1) rfl, bI_i, xrb_0]
      exact BF_c hw rfl FR_r FTp_r
    · have e2 : 143 < kt T i := by
        by_cases e3 : 143 < kt T i
        · exact e3
        · have := h2 (kt T i - 140) (by omega)
          rw [cpx_k _ (by omega)] at this
          omega
      rw [xite_f e, xite_t e2, cp_wrong hC 1 (w := 1) rfl, bI_i, xrb_0]
      exact BF_c hw rfl FR_r FTp_r
  · rw [cpx_k j h1] at h3
    have hi := CO_lt hC (show kt T i ≠ 0 by omega)
    obtain ⟨b1, b2'⟩ := RO_ad hO hi
    have hC2 : CO T m i (pI μ 2 1 6 n (nI j)) := CO_ob (pI_ne (by omega)) hC
    obtain ⟨μ3, d1, d2, d3⟩ := cp_adv hC2 hi
    have e4 : nI (140 + j) - 140 = nI j := by
      have := pk_sub (a := 140 + j) (b := 140) (by omega)
      rw [Nat.add_sub_cancel_left] at this; exact this
    rw [h2, xite_f (nI_pos (show j < 2 ^ 31 by omega)), show (20000 : Nat) = 19999 + 1 from rfl, h12_takeOne_34_s, xite_f (RO_p hO), ad_eq hO, mS_eq, mS_eq, xite_f (RO_p b1), h3, xite_f (by omega), xite_f (by omega), xite_f (nI_pos (show n < 2 ^ 31 by omega)), xite_t (show nI n < nI 6 from nI_lt hn (by omega)), xck_t (xin_a (show 6 < 2 ^ 31 by omega) hn), nI_clamp (by omega), e4, d1, bV_v, xrb_1]
    exact .inr ⟨j, h1, ⟨μ3, rfl, d2, d3⟩, _, rfl, b1, F7_ad⟩
/-- the reference behind a name: N names before, of kind t (row v), n of them before -/
def nmS (ν : XM) (i N t n : Nat) (x : Int32) (w : List Nat) : XM := pI (sI (sI (pI (pL (ad ν i) 12 0 15 N (lN (vb 37 w))) 12 0 17 N x) 12 0 19 (nI (N + 1))) 12 0 7 (nI (i + 2))) 12 0 10 (60 + t) (nI (n + 1))
theorem nmS_F {N t n : Nat} {x : Int32} {w : List Nat} : FR ν (nmS ν i N t n x w) ∧ rI (nmS ν i N t n x w) 12 0 7 = nI (i + 2) ∧ rI (nmS ν i N t n x w) 12 0 8 = rI ν 12 0 8 ∧ rI (nmS ν i N t n x w) 12 0 13 = rI ν 12 0 13 ∧ rI (nmS ν i N t n x w) 12 0 19 = nI (N + 1) ∧ rI (nmS ν i N t n x w) 12 0 20 = rI ν 12 0 20 ∧
    (∀ k, aI (nmS ν i N t n x w) 12 0 10 k = if k = 60 + t then nI (n + 1) else aI ν 12 0 10 k) ∧ (∀ k, aI (nmS ν i N t n x w) 12 0 17 k = if k = N then x else aI ν 12 0 17 k) ∧ (∀ k, aL (nmS ν i N t n x w) 12 0 15 k = if k = N then lN (vb 37 w) else aL ν 12 0 15 k) ∧ (∀ k, aI (nmS ν i N t n x w) 12 0 11 k = aI ν 12 0 11 k) ∧ ∀ k, aI (nmS ν i N t n x w) 12 0 12 k = aI ν 12 0 12 k := by
  refine ⟨FR_t (F7_R F7_ad) (FR_t FR_l (FR_t (FR_p (by omega)) (FR_t (FR_s (by omega)) (FR_t (FR_s (by omega)) (FR_p (by omega)))))), ?_, ?_, ?_, ?_, ?_, fun k => ?_, fun k => ?_, fun k => ?_, fun k => ?_, fun k => ?_⟩
  · unfold nmS; rw [rI_pI, rI_sI]; simp
  · unfold nmS ad; simp [rI_pI, rI_sI, rI_pL]
  · unfold nmS ad; simp [rI_pI, rI_sI, rI_pL]
  · unfold nmS ad; simp [rI_pI, rI_sI, rI_pL]
  · unfold nmS ad; simp [rI_pI, rI_sI, rI_pL]
  · unfold nmS ad; simp [aI_pI, aI_sI, aI_pL]
  · unfold nmS ad; simp [aI_pI, aI_sI, aI_pL]
  · unfold nmS ad; simp [aL_pI, aL_sI, aL_pL]
  · unfold nmS ad; simp [aI_pI, aI_sI, aI_pL]
  · unfold nmS ad; simp [aI_pI, aI_sI, aI_pL]
theorem J_name_gn {n N : Nat} (hC : CO T m (i + 1) μ) (hO : RO T m i ν) (hi : i < m) (hn : n < 6) (hx : aI ν 12 0 10 60 = nI n) (hR : RNs 19 17 15 h ν) (hv : NV h) (hN19 : rI ν 12 0 19 = nI N) (hN : N < 14) (hH : CH 1 h μ) (hNm : CNm h 1 μ) :
    (∃ F, BF F μ ν (f7_readName_gn 1 (nI n) μ) (f12_readName 0 6 0 ν) none) ∨
    (isN T (i + 1) = true ∧ ¬ told h (wq T (PT T (i + 1))) ∧ (∃ μ', f7_readName_gn 1 (nI n) μ = xri 1 μ' ∧ CO T m (i + 2) μ' ∧ FTp (pL μ 2 1 5 n (lN (vb 32 (wq T (PT T (i + 1)))))) μ') ∧ f12_readName 0 6 0 ν = xrv (nmS ν i N 0 n (nI (0 + n)) (wq T (PT T (i + 1)))) ∧ RO T m (i + 2) (nmS ν i N 0 n (nI (0 + n)) (wq T (PT T (i + 1))))) := by
  obtain ⟨b1, b2'⟩ := RO_ad hO hi
  have hm1 := hC.2.2.2.2.2
  have hi1 := hC.2.1
  have e60 : (60 : Int32) + 0 = nI 60 := rfl
  have c60 : Int32.toNatClampNeg (nI 60) = 60 := nI_clamp (by omega)
  have x60 : xin (nI 60) 120 = true := xin_t (by omega) (by omega)
  have hR1 : RNs 19 17 15 h (ad ν i) := by
    obtain ⟨nm, tk, ik, n1, n2, n3, n4⟩ := hR
    exact ⟨nm, tk, ik, n1, by rw [F7_ad.2.1 19 (by decide)]; exact n2, fun k hk => by rw [F7_ad.2.2.1, F7_ad.2.2.2]; exact n3 k hk, n4⟩
  have ne : ¬ nI n = (6 : Int32) := fun e => by
    have := (nI_eq (b := 6) (show n < 2 ^ 31 by omega) (by omega)).mp e
    omega
  rw [f7_readName_gn_e, k7_readName_gn, cp_isName hC, f12_readName_e, k12_readName, e60, xck_t x60, c60, hx, vI_eq, xite_f ne, ad_eq hO, mS_eq, ok_isName b1, bI_i]
  by_cases hnm : isN T (i + 1) = true
  · have hw := isN_V hnm
    have hi2 : i + 1 < m := CO_lt hC (by have : kt T (i + 1) = 3 ∨ 151 ≤ kt T (i + 1) := by simpa [isN] using hnm
                                         omega)
    have hlet : rL μ 10 0 6 = lN (vb 32 (wq T (PT T (i + 1)))) := hC.1.2.2.2.2.2 (isN_W hnm)
    rw [if_pos hnm, bI_i, xite_f (by decide), hlet, hnm, xite_f (by decide)]
    rcases c_isTold hH hNm hv hw with ⟨t1, t2⟩ | ⟨t1, t2⟩
    · have hwr := wr_lt b1 (w := 3) (by omega) (by omega)
      have hF := (ft_F (μ := ad ν i) hwr.1 hwr.2).1
      rw [t2, bI_i, xite_f (by decide), cp_wrong hC 3 (w := 3) rfl, bI_i, xrb_0]
      rcases m_nameAt1 b1 hR1 hv hnm with ⟨s1, s2⟩ | ⟨t', k', s1, s2, s3, s4⟩
      · exact absurd t1 s1
      · have h20 : 20 * t' + k' < 2 ^ 31 := by
          obtain ⟨q1, q2, q3⟩ := hH.1
          have : cnt h t' ≤ 6 := by unfold cnt; split <;> omega
          omega
        rw [s4, bI_i, xite_f (nI_pos h20), ok_wrong b1 3 (w := 3) rfl, bV_v, show (20000 : Nat) = 19999 + 1 from rfl, fl_name61 hF]
        exact .inl ⟨_, BF_c hwr rfl b2' FTp_r⟩
    · rcases m_nameAt1 b1 hR1 hv hnm with ⟨s1, s2⟩ | ⟨t', k', s1, s2, s3, s4⟩
      rotate_left
      · exact absurd ⟨t', k', s1, s2, s3⟩ t1
      have hC2 : CO T m (i + 1) (pL μ 2 1 5 n (lN (vb 32 (wq T (PT T (i + 1)))))) := CO_ob (pL_ne (by omega)) hC
      obtain ⟨μ3, d1, d2, d3⟩ := cp_adv hC2 hi2
      have r4 := (b1.1.1 (i + 1) b1.2.1).2.2.2.1 (isN_W hnm)
      obtain ⟨g1, g2, g3, g4, g5, g6, g7, g8, g9, g10, g11⟩ := nmS_F (ν := ν) (i := i) (N := N) (t := 0) (n := n) (x := nI (0 + n)) (w := wq T (PT T (i + 1)))
      rw [t2, bI_i, xite_t rfl, xite_f (nI_pos (by omega)), xite_t (show nI n < nI 6 from nI_lt hn (by omega)), xck_t (xin_t (show 6 < 2 ^ 31 by omega) hn), nI_clamp (show n < 2 ^ 31 by omega), hlet, mS_eq, d1, bV_v, xrb_1, s2, bI_i, xite_t (show (-1 : Int32) < 0 by decide)]
      refine .inr ⟨rfl, t1, ⟨μ3, rfl, d2, d3⟩, ?_, TK_F g1 hO.1, by omega, g2, g3.trans hO.2.2.2.1, hO.2.2.2.2⟩
      have y7 : ∀ (a : Nat → Int64), rI (ad ν i) 12 0 19 = nI N := fun _ => by rw [F7_ad.2.1 19 (by decide)]; exact hN19
      have y19 : rI (ad ν i) 12 0 19 = nI N := y7 (fun _ => 0)
      have x7 : xin (rI (ad ν i) 12 0 7) 1002 = true := (ok_x b1).1
      have c7 : (rI (ad ν i) 12 0 7).toNatClampNeg = i + 1 := (ok_x b1).2
      have x14 : xin (nI N) 14 = true := xin_t (by omega) hN
      have x14' : (xin (nI N) 14 && true) = true := xin_a (by omega) hN
      have x60' : (xin (nI 60) 120 && true) = true := xin_a (by omega) (by omega)
      have z1 : ∀ y, rI (pL (ad ν i) 12 0 15 N y) 12 0 19 = nI N := fun y => by rw [rI_pL]; exact y19
      have z2 : ∀ y x, rI (pI (pL (ad ν i) 12 0 15 N y) 12 0 17 N x) 12 0 19 = nI N := fun y x => by rw [rI_pI]; exact z1 y
      have z3 : ∀ y x z, rI (sI (pI (pL (ad ν i) 12 0 15 N y) 12 0 17 N x) 12 0 19 z) 12 0 7 = nI (i + 1) := fun y x z => by rw [rI_sI, rI_pI, rI_pL]; simp [b1.2.2.1]
      have z4 : ∀ y x z u, aI (sI (sI (pI (pL (ad ν i) 12 0 15 N y) 12 0 17 N x) 12 0 19 z) 12 0 7 u) 12 0 10 60 = nI n := fun y x z u => by rw [aI_sI, aI_sI, aI_pI, aI_pL, F7_ad.2.2.1]; simp [hx]
      rw [show (20000 : Nat) = 19999 + 1 from rfl, h12_readName_61_s, xite_t b1.2.2.2.1, xck_t x7, y19, xck_t x14, nI_clamp (show N < 2 ^ 31 by omega), c7, r4, mS_eq, z1, xck_t x14', nI_clamp (show N < 2 ^ 31 by omega), mS_eq, z2, ← nI_succ, mS_eq, z3, ← nI_succ, mS_eq, e60, xck_t x60, xck_t x60', c60, z4, ← nI_succ, mS_eq]
      rw [show (0 : Int32) + nI n = nI (0 + n) from nI_add 0 n]
      rfl
  · have hnm' : isN T (i + 1) = false := by simpa using hnm
    have hwr := wr_lt b1 (w := 1) (by omega) (by omega)
    have hF := (ft_F (μ := ad ν i) hwr.1 hwr.2).1
    rw [if_neg hnm, bI_i, xite_t rfl, xrb_0, hnm', xite_t (by decide), ok_wrong b1 1 (w := 1) rfl, bV_v, show (20000 : Nat) = 19999 + 1 from rfl, fl_name61 hF]
    exact .inl ⟨_, BF_c hwr rfl b2' FTp_r⟩
theorem J_name_bn {n N : Nat} (hC : CO T m (i + 1) μ) (hO : RO T m i ν) (hi : i < m) (hn : n < 5) (hx : aI ν 12 0 10 61 = nI n) (hR : RNs 19 17 15 h ν) (hv : NV h) (hN19 : rI ν 12 0 19 = nI N) (hN : N < 14) (hH : CH 1 h μ) (hNm : CNm h 1 μ) :
    (∃ F, BF F μ ν (f7_readName_bn 1 (nI n) μ) (f12_readName 1 5 20 ν) none) ∨
    (isN T (i + 1) = true ∧ ¬ told h (wq T (PT T (i + 1))) ∧ (∃ μ', f7_readName_bn 1 (nI n) μ = xri 1 μ' ∧ CO T m (i + 2) μ' ∧ FTp (pL μ 2 1 11 n (lN (vb 32 (wq T (PT T (i + 1)))))) μ') ∧ f12_readName 1 5 20 ν = xrv (nmS ν i N 1 n (nI (20 + n)) (wq T (PT T (i + 1)))) ∧ RO T m (i + 2) (nmS ν i N 1 n (nI (20 + n)) (wq T (PT T (i + 1))))) := by
  obtain ⟨b1, b2'⟩ := RO_ad hO hi
  have hm1 := hC.2.2.2.2.2
  have hi1 := hC.2.1
  have e60 : (60 : Int32) + 1 = nI 61 := rfl
  have c60 : Int32.toNatClampNeg (nI 61) = 61 := nI_clamp (by omega)
  have x60 : xin (nI 61) 120 = true := xin_t (by omega) (by omega)
  have hR1 : RNs 19 17 15 h (ad ν i) := by
    obtain ⟨nm, tk, ik, n1, n2, n3, n4⟩ := hR
    exact ⟨nm, tk, ik, n1, by rw [F7_ad.2.1 19 (by decide)]; exact n2, fun k hk => by rw [F7_ad.2.2.1, F7_ad.2.2.2]; exact n3 k hk, n4⟩
  have ne : ¬ nI n = (5 : Int32) := fun e => by
    have := (nI_eq (b := 5) (show n < 2 ^ 31 by omega) (by omega)).mp e
    omega
  rw [f7_readName_bn_e, k7_readName_bn, cp_isName hC, f12_readName_e, k12_readName, e60, xck_t x60, c60, hx, vI_eq, xite_f ne, ad_eq hO, mS_eq, ok_isName b1, bI_i]
  by_cases hnm : isN T (i + 1) = true
  · have hw := isN_V hnm
    have hi2 : i + 1 < m := CO_lt hC (by have : kt T (i + 1) = 3 ∨ 151 ≤ kt T (i + 1) := by simpa [isN] using hnm
                                         omega)
    have hlet : rL μ 10 0 6 = lN (vb 32 (wq T (PT T (i + 1)))) := hC.1.2.2.2.2.2 (isN_W hnm)
    rw [if_pos hnm, bI_i, xite_f (by decide), hlet, hnm, xite_f (by decide)]
    rcases c_isTold hH hNm hv hw with ⟨t1, t2⟩ | ⟨t1, t2⟩
    · have hwr := wr_lt b1 (w := 3) (by omega) (by omega)
      have hF := (ft_F (μ := ad ν i) hwr.1 hwr.2).1
      rw [t2, bI_i, xite_f (by decide), cp_wrong hC 3 (w := 3) rfl, bI_i, xrb_0]
      rcases m_nameAt1 b1 hR1 hv hnm with ⟨s1, s2⟩ | ⟨t', k', s1, s2, s3, s4⟩
      · exact absurd t1 s1
      · have h20 : 20 * t' + k' < 2 ^ 31 := by
          obtain ⟨q1, q2, q3⟩ := hH.1
          have : cnt h t' ≤ 6 := by unfold cnt; split <;> omega
          omega
        rw [s4, bI_i, xite_f (nI_pos h20), ok_wrong b1 3 (w := 3) rfl, bV_v, show (20000 : Nat) = 19999 + 1 from rfl, fl_name61 hF]
        exact .inl ⟨_, BF_c hwr rfl b2' FTp_r⟩
    · rcases m_nameAt1 b1 hR1 hv hnm with ⟨s1, s2⟩ | ⟨t', k', s1, s2, s3, s4⟩
      rotate_left
      · exact absurd ⟨t', k', s1, s2, s3⟩ t1
      have hC2 : CO T m (i + 1) (pL μ 2 1 11 n (lN (vb 32 (wq T (PT T (i + 1)))))) := CO_ob (pL_ne (by omega)) hC
      obtain ⟨μ3, d1, d2, d3⟩ := cp_adv hC2 hi2
      have r4 := (b1.1.1 (i + 1) b1.2.1).2.2.2.1 (isN_W hnm)
      obtain ⟨g1, g2, g3, g4, g5, g6, g7, g8, g9, g10, g11⟩ := nmS_F (ν := ν) (i := i) (N := N) (t := 1) (n := n) (x := nI (20 + n)) (w := wq T (PT T (i + 1)))
      rw [t2, bI_i, xite_t rfl, xite_f (nI_pos (by omega)), xite_t (show nI n < nI 5 from nI_lt hn (by omega)), xck_t (xin_t (show 5 < 2 ^ 31 by omega) hn), nI_clamp (show n < 2 ^ 31 by omega), hlet, mS_eq, d1, bV_v, xrb_1, s2, bI_i, xite_t (show (-1 : Int32) < 0 by decide)]
      refine .inr ⟨rfl, t1, ⟨μ3, rfl, d2, d3⟩, ?_, TK_F g1 hO.1, by omega, g2, g3.trans hO.2.2.2.1, hO.2.2.2.2⟩
      have y7 : ∀ (a : Nat → Int64), rI (ad ν i) 12 0 19 = nI N := fun _ => by rw [F7_ad.2.1 19 (by decide)]; exact hN19
      have y19 : rI (ad ν i) 12 0 19 = nI N := y7 (fun _ => 0)
      have x7 : xin (rI (ad ν i) 12 0 7) 1002 = true := (ok_x b1).1
      have c7 : (rI (ad ν i) 12 0 7).toNatClampNeg = i + 1 := (ok_x b1).2
      have x14 : xin (nI N) 14 = true := xin_t (by omega) hN
      have x14' : (xin (nI N) 14 && true) = true := xin_a (by omega) hN
      have x60' : (xin (nI 61) 120 && true) = true := xin_a (by omega) (by omega)
      have z1 : ∀ y, rI (pL (ad ν i) 12 0 15 N y) 12 0 19 = nI N := fun y => by rw [rI_pL]; exact y19
      have z2 : ∀ y x, rI (pI (pL (ad ν i) 12 0 15 N y) 12 0 17 N x) 12 0 19 = nI N := fun y x => by rw [rI_pI]; exact z1 y
      have z3 : ∀ y x z, rI (sI (pI (pL (ad ν i) 12 0 15 N y) 12 0 17 N x) 12 0 19 z) 12 0 7 = nI (i + 1) := fun y x z => by rw [rI_sI, rI_pI, rI_pL]; simp [b1.2.2.1]
      have z4 : ∀ y x z u, aI (sI (sI (pI (pL (ad ν i) 12 0 15 N y) 12 0 17 N x) 12 0 19 z) 12 0 7 u) 12 0 10 61 = nI n := fun y x z u => by rw [aI_sI, aI_sI, aI_pI, aI_pL, F7_ad.2.2.1]; simp [hx]
      rw [show (20000 : Nat) = 19999 + 1 from rfl, h12_readName_61_s, xite_t b1.2.2.2.1, xck_t x7, y19, xck_t x14, nI_clamp (show N < 2 ^ 31 by omega), c7, r4, mS_eq, z1, xck_t x14', nI_clamp (show N < 2 ^ 31 by omega), mS_eq, z2, ← nI_succ, mS_eq, z3, ← nI_succ, mS_eq, e60, xck_t x60, xck_t x60', c60, z4, ← nI_succ, mS_eq]
      rw [show (20 : Int32) + nI n = nI (20 + n) from nI_add 20 n]
      rfl
  · have hnm' : isN T (i + 1) = false := by simpa using hnm
    have hwr := wr_lt b1 (w := 1) (by omega) (by omega)
    have hF := (ft_F (μ := ad ν i) hwr.1 hwr.2).1
    rw [if_neg hnm, bI_i, xite_t rfl, xrb_0, hnm', xite_t (by decide), ok_wrong b1 1 (w := 1) rfl, bV_v, show (20000 : Nat) = 19999 + 1 from rfl, fl_name61 hF]
    exact .inl ⟨_, BF_c hwr rfl b2' FTp_r⟩
theorem J_name_mn {n N : Nat} (hC : CO T m (i + 1) μ) (hO : RO T m i ν) (hi : i < m) (hn : n < 3) (hx : aI ν 12 0 10 62 = nI n) (hR : RNs 19 17 15 h ν) (hv : NV h) (hN19 : rI ν 12 0 19 = nI N) (hN : N < 14) (hH : CH 1 h μ) (hNm : CNm h 1 μ) :
    (∃ F, BF F μ ν (f7_readName_mn 1 (nI n) μ) (f12_readName 2 3 40 ν) none) ∨
    (isN T (i + 1) = true ∧ ¬ told h (wq T (PT T (i + 1))) ∧ (∃ μ', f7_readName_mn 1 (nI n) μ = xri 1 μ' ∧ CO T m (i + 2) μ' ∧ FTp (pL μ 2 1 13 n (lN (vb 32 (wq T (PT T (i + 1)))))) μ') ∧ f12_readName 2 3 40 ν = xrv (nmS ν i N 2 n (nI (40 + n)) (wq T (PT T (i + 1)))) ∧ RO T m (i + 2) (nmS ν i N 2 n (nI (40 + n)) (wq T (PT T (i + 1))))) := by
  obtain ⟨b1, b2'⟩ := RO_ad hO hi
  have hm1 := hC.2.2.2.2.2
  have hi1 := hC.2.1
  have e60 : (60 : Int32) + 2 = nI 62 := rfl
  have c60 : Int32.toNatClampNeg (nI 62) = 62 := nI_clamp (by omega)
  have x60 : xin (nI 62) 120 = true := xin_t (by omega) (by omega)
  have hR1 : RNs 19 17 15 h (ad ν i) := by
    obtain ⟨nm, tk, ik, n1, n2, n3, n4⟩ := hR
    exact ⟨nm, tk, ik, n1, by rw [F7_ad.2.1 19 (by decide)]; exact n2, fun k hk => by rw [F7_ad.2.2.1, F7_ad.2.2.2]; exact n3 k hk, n4⟩
  have ne : ¬ nI n = (3 : Int32) := fun e => by
    have := (nI_eq (b := 3) (show n < 2 ^ 31 by omega) (by omega)).mp e
    omega
  rw [f7_readName_mn_e, k7_readName_mn, cp_isName hC, f12_readName_e, k12_readName, e60, xck_t x60, c60, hx, vI_eq, xite_f ne, ad_eq hO, mS_eq, ok_isName b1, bI_i]
  by_cases hnm : isN T (i + 1) = true
  · have hw := isN_V hnm
    have hi2 : i + 1 < m := CO_lt hC (by have : kt T (i + 1) = 3 ∨ 151 ≤ kt T (i + 1) := by simpa [isN] using hnm
                                         omega)
    have hlet : rL μ 10 0 6 = lN (vb 32 (wq T (PT T (i + 1)))) := hC.1.2.2.2.2.2 (isN_W hnm)
    rw [if_pos hnm, bI_i, xite_f (by decide), hlet, hnm, xite_f (by decide)]
    rcases c_isTold hH hNm hv hw with ⟨t1, t2⟩ | ⟨t1, t2⟩
    · have hwr := wr_lt b1 (w := 3) (by omega) (by omega)
      have hF := (ft_F (μ := ad ν i) hwr.1 hwr.2).1
      rw [t2, bI_i, xite_f (by decide), cp_wrong hC 3 (w := 3) rfl, bI_i, xrb_0]
      rcases m_nameAt1 b1 hR1 hv hnm with ⟨s1, s2⟩ | ⟨t', k', s1, s2, s3, s4⟩
      · exact absurd t1 s1
      · have h20 : 20 * t' + k' < 2 ^ 31 := by
          obtain ⟨q1, q2, q3⟩ := hH.1
          have : cnt h t' ≤ 6 := by unfold cnt; split <;> omega
          omega
        rw [s4, bI_i, xite_f (nI_pos h20), ok_wrong b1 3 (w := 3) rfl, bV_v, show (20000 : Nat) = 19999 + 1 from rfl, fl_name61 hF]
        exact .inl ⟨_, BF_c hwr rfl b2' FTp_r⟩
    · rcases m_nameAt1 b1 hR1 hv hnm with ⟨s1, s2⟩ | ⟨t', k', s1, s2, s3, s4⟩
      rotate_left
      · exact absurd ⟨t', k', s1, s2, s3⟩ t1
      have hC2 : CO T m (i + 1) (pL μ 2 1 13 n (lN (vb 32 (wq T (PT T (i + 1)))))) := CO_ob (pL_ne (by omega)) hC
      obtain ⟨μ3, d1, d2, d3⟩ := cp_adv hC2 hi2
      have r4 := (b1.1.1 (i + 1) b1.2.1).2.2.2.1 (isN_W hnm)
      obtain ⟨g1, g2, g3, g4, g5, g6, g7, g8, g9, g10, g11⟩ := nmS_F (ν := ν) (i := i) (N := N) (t := 2) (n := n) (x := nI (40 + n)) (w := wq T (PT T (i + 1)))
      rw [t2, bI_i, xite_t rfl, xite_f (nI_pos (by omega)), xite_t (show nI n < nI 3 from nI_lt hn (by omega)), xck_t (xin_t (show 3 < 2 ^ 31 by omega) hn), nI_clamp (show n < 2 ^ 31 by omega), hlet, mS_eq, d1, bV_v, xrb_1, s2, bI_i, xite_t (show (-1 : Int32) < 0 by decide)]
      refine .inr ⟨rfl, t1, ⟨μ3, rfl, d2, d3⟩, ?_, TK_F g1 hO.1, by omega, g2, g3.trans hO.2.2.2.1, hO.2.2.2.2⟩
      have y7 : ∀ (a : Nat → Int64), rI (ad ν i) 12 0 19 = nI N := fun _ => by rw [F7_ad.2.1 19 (by decide)]; exact hN19
      have y19 : rI (ad ν i) 12 0 19 = nI N := y7 (fun _ => 0)
      have x7 : xin (rI (ad ν i) 12 0 7) 1002 = true := (ok_x b1).1
      have c7 : (rI (ad ν i) 12 0 7).toNatClampNeg = i + 1 := (ok_x b1).2
      have x14 : xin (nI N) 14 = true := xin_t (by omega) hN
      have x14' : (xin (nI N) 14 && true) = true := xin_a (by omega) hN
      have x60' : (xin (nI 62) 120 && true) = true := xin_a (by omega) (by omega)
      have z1 : ∀ y, rI (pL (ad ν i) 12 0 15 N y) 12 0 19 = nI N := fun y => by rw [rI_pL]; exact y19
      have z2 : ∀ y x, rI (pI (pL (ad ν i) 12 0 15 N y) 12 0 17 N x) 12 0 19 = nI N := fun y x => by rw [rI_pI]; exact z1 y
      have z3 : ∀ y x z, rI (sI (pI (pL (ad ν i) 12 0 15 N y) 12 0 17 N x) 12 0 19 z) 12 0 7 = nI (i + 1) := fun y x z => by rw [rI_sI, rI_pI, rI_pL]; simp [b1.2.2.1]
      have z4 : ∀ y x z u, aI (sI (sI (pI (pL (ad ν i) 12 0 15 N y) 12 0 17 N x) 12 0 19 z) 12 0 7 u) 12 0 10 62 = nI n := fun y x z u => by rw [aI_sI, aI_sI, aI_pI, aI_pL, F7_ad.2.2.1]; simp [hx]
      rw [show (20000 : Nat) = 19999 + 1 from rfl, h12_readName_61_s, xite_t b1.2.2.2.1, xck_t x7, y19, xck_t x14, nI_clamp (show N < 2 ^ 31 by omega), c7, r4, mS_eq, z1, xck_t x14', nI_clamp (show N < 2 ^ 31 by omega), mS_eq, z2, ← nI_succ, mS_eq, z3, ← nI_succ, mS_eq, e60, xck_t x60, xck_t x60', c60, z4, ← nI_succ, mS_eq]
      rw [show (40 : Int32) + nI n = nI (40 + n) from nI_add 40 n]
      rfl
  · have hnm' : isN T (i + 1) = false := by simpa using hnm
    have hwr := wr_lt b1 (w := 1) (by omega) (by omega)
    have hF := (ft_F (μ := ad ν i) hwr.1 hwr.2).1
    rw [if_neg hnm, bI_i, xite_t rfl, xrb_0, hnm', xite_t (by decide), ok_wrong b1 1 (w := 1) rfl, bV_v, show (20000 : Nat) = 19999 + 1 from rfl, fl_name61 hF]
    exact .inl ⟨_, BF_c hwr rfl b2' FTp_r⟩
end
