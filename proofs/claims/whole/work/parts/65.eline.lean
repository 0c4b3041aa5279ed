/-! THE PURE PART: a line of an EVENING, on both sides -/
def FV (μ ν : XM) : Prop := ∀ t j, ¬ (t = 10 ∧ j = 0) → ¬ (t = 1 ∧ j = 1) → ν t j = μ t j
theorem FV_t {μ ν ξ : XM} (a : FV μ ν) (b : FV ν ξ) : FV μ ξ := fun t j h1 h2 => (b t j h1 h2).trans (a t j h1 h2)
theorem FV_r {μ : XM} : FV μ μ := fun _ _ _ _ => rfl
theorem FTp_V {μ ν : XM} (a : FTp μ ν) : FV μ ν := fun t j h _ => a t j h
theorem FV_p {μ : XM} {j k : Nat} {x : Int32} : FV μ (pI μ 1 1 j k x) := fun t i _ h => pI_ne h
theorem FV_s {μ : XM} {j : Nat} {x : Int32} : FV μ (sI μ 1 1 j x) := fun t i _ h => sI_ne h
/-- the reference's drafted evening -/
def REd (e : EV) (μ : XM) : Prop := ∀ l, l < e.1 → aI μ 12 0 21 (165 + 4 * l) = nI (e.2 l 0) ∧ ((e.2 l 0 = 1 ∨ e.2 l 0 = 3) → aI μ 12 0 21 (165 + 4 * l + 1) = nI (e.2 l 1)) ∧ (e.2 l 0 = 1 → aI μ 12 0 21 (165 + 4 * l + 2) = nI (e.2 l 2) ∧ aI μ 12 0 21 (165 + 4 * l + 3) = nI (e.2 l 3))
/-- a line more -/
def upE (e : EV) (w a b c : Nat) : EV := (e.1 + 1, fun l j => if l = e.1 then (match j with | 0 => w | 1 => a | 2 => b | _ => c) else e.2 l j)
theorem upE_n {e : EV} {w a b c : Nat} : (upE e w a b c).1 = e.1 + 1 := rfl
theorem upE_o {e : EV} {w a b c l : Nat} (hl : l ≠ e.1) (j : Nat) : (upE e w a b c).2 l j = e.2 l j := if_neg hl
theorem upE_l {e : EV} {w a b c : Nat} : (upE e w a b c).2 e.1 0 = w ∧ (upE e w a b c).2 e.1 1 = a ∧ (upE e w a b c).2 e.1 2 = b ∧ (upE e w a b c).2 e.1 3 = c := ⟨if_pos rfl, if_pos rfl, if_pos rfl, if_pos rfl⟩
theorem EI_up {h : HS} {e : EV} {w a b c : Nat} (hE : EI h e) (hn : e.1 < 40) (hw : w < 4) (ha : (w = 1 ∨ w = 3) → a < hM h) (hb : w = 1 → b < hB h ∧ c < hG h) : EI h (upE e w a b c) := by
  obtain ⟨u0, u1, u2, u3⟩ := upE_l (e := e) (w := w) (a := a) (b := b) (c := c)
  refine ⟨by rw [upE_n]; omega, fun l hl => ?_⟩
  rw [upE_n] at hl
  by_cases el : l = e.1
  · subst el
    rw [u0, u1, u2, u3]
    exact ⟨by omega, ha, hb⟩
  · rw [upE_o el, upE_o el, upE_o el, upE_o el]
    exact hE.2 l (by omega)
theorem CE_up {e : EV} {w a b c : Nat} {μ μ' : XM} (hE : CE 1 e μ) (r0 : rI μ' 1 1 0 = nI (e.1 + 1)) (a1 : ∀ l, aI μ' 1 1 1 l = if l = e.1 then nI (144 + w) else aI μ 1 1 1 l)
    (a2 : ∀ l, l ≠ e.1 → aI μ' 1 1 2 l = aI μ 1 1 2 l ∧ aI μ' 1 1 3 l = aI μ 1 1 3 l ∧ aI μ' 1 1 4 l = aI μ 1 1 4 l) (b1 : (w = 1 ∨ w = 3) → aI μ' 1 1 2 e.1 = nI a) (b2 : w = 1 → aI μ' 1 1 3 e.1 = nI b ∧ aI μ' 1 1 4 e.1 = nI c) : CE 1 (upE e w a b c) μ' := by
  obtain ⟨u0, u1, u2, u3⟩ := upE_l (e := e) (w := w) (a := a) (b := b) (c := c)
  refine ⟨r0, fun l hl => ?_⟩
  rw [upE_n] at hl
  by_cases el : l = e.1
  · subst el
    rw [u0, u1, u2, u3, a1, if_pos rfl]
    exact ⟨rfl, b1, b2⟩
  · obtain ⟨k2, k3, k4⟩ := a2 l el
    rw [upE_o el, upE_o el, upE_o el, upE_o el, a1, if_neg el, k2, k3, k4]
    exact hE.2 l (by omega)
theorem REd_up {e : EV} {w a b c : Nat} {μ μ' : XM} (hE : REd e μ) (f : ∀ k, k < 165 + 4 * e.1 → aI μ' 12 0 21 k = aI μ 12 0 21 k) (b0 : aI μ' 12 0 21 (165 + 4 * e.1) = nI w) (b1 : (w = 1 ∨ w = 3) → aI μ' 12 0 21 (165 + 4 * e.1 + 1) = nI a) (b2 : w = 1 → aI μ' 12 0 21 (165 + 4 * e.1 + 2) = nI b ∧ aI μ' 12 0 21 (165 + 4 * e.1 + 3) = nI c) : REd (upE e w a b c) μ' := by
  obtain ⟨u0, u1, u2, u3⟩ := upE_l (e := e) (w := w) (a := a) (b := b) (c := c)
  intro l hl
  rw [upE_n] at hl
  by_cases el : l = e.1
  · subst el
    rw [u0, u1, u2, u3]
    exact ⟨b0, b1, b2⟩
  · rw [upE_o el, upE_o el, upE_o el, upE_o el, f _ (by omega), f _ (by omega), f _ (by omega), f _ (by omega)]
    exact hE l (by omega)
section
variable {μ ν : XM} {T : TP} {m i : Nat} {h : HS} {e : EV}
-- the reference with a fault
theorem FF_p21 {F q : Nat} {x : Int32} (hF : FF F ν) (hq : 165 ≤ q) : FF F (pI ν 12 0 21 q x) ∧ FR ν (pI ν 12 0 21 q x) := ⟨⟨hF.1, hF.2.1, by rw [rI_pI]; exact hF.2.2⟩, FR_p (by omega)⟩
theorem fl_re57 {F n p : Nat} {w s0 : Int32} (hF : FF F ν) (hp : 165 ≤ p ∧ p + 3 < 330) : ∃ ν', h12_readEvening_57 (n + 1) (nI p) w s0 (nI (p + 2)) ν = xrv ν' ∧ FF F ν' ∧ FR ν ν' := by
  obtain ⟨f1, f2⟩ := FF_p21 (q := p + 2) (x := s0) hF (by omega)
  rw [h12_readEvening_57_s, xck_t (xin_a (show 330 < 2 ^ 31 by omega) (by omega)), nI_clamp (by omega), mS_eq, show nI p + 3 = nI (p + 3) from nI_add p 3]
  by_cases hw : w = 1
  · obtain ⟨g1, g2⟩ := FF_p21 (q := p + 3) (x := 0) f1 (by omega)
    rw [xite_t hw, fl_takeTold f1, bI_i, xck_t (xin_a (show 330 < 2 ^ 31 by omega) (by omega)), nI_clamp (by omega), mS_eq]
    exact ⟨_, rfl, g1, FR_t f2 g2⟩
  · obtain ⟨g1, g2⟩ := FF_p21 (q := p + 3) (x := 0) f1 (by omega)
    rw [xite_f hw, xck_t (xin_a (show 330 < 2 ^ 31 by omega) (by omega)), nI_clamp (by omega), mS_eq]
    exact ⟨_, rfl, g1, FR_t f2 g2⟩
theorem fl_re34 {F n p : Nat} {w s0 : Int32} (hF : FF F ν) (hp : 165 ≤ p ∧ p + 3 < 330) : ∃ ν', h12_readEvening_34 (n + 2) (nI p) w s0 (nI (p + 1)) ν = xrv ν' ∧ FF F ν' ∧ FR ν ν' := by
  obtain ⟨f1, f2⟩ := FF_p21 (q := p + 1) (x := s0) hF (by omega)
  obtain ⟨ν', a1, a2, a3⟩ := fl_re57 (n := n) (p := p) (w := w) (s0 := 0) f1 hp
  rw [show n + 2 = (n + 1) + 1 from rfl, h12_readEvening_34_s, xck_t (xin_a (show 330 < 2 ^ 31 by omega) (by omega)), nI_clamp (by omega), mS_eq, show nI p + 2 = nI (p + 2) from nI_add p 2]
  by_cases hw : w = 1
  · rw [xite_t hw, fl_takeTold f1, bI_i, a1]
    exact ⟨_, rfl, a2, FR_t f2 a3⟩
  · rw [xite_f hw, a1]
    exact ⟨_, rfl, a2, FR_t f2 a3⟩
theorem RO_p21 {q : Nat} {x : Int32} (hO : RO T m i ν) (hq : 165 ≤ q) : RO T m i (pI ν 12 0 21 q x) ∧ FR ν (pI ν 12 0 21 q x) := by
  have f : FR ν (pI ν 12 0 21 q x) := FR_p (by omega)
  exact ⟨RO_F hO f (by rw [rI_pI]) (by rw [rI_pI]), f⟩
-- the component behind a name that is wrong
theorem h149_0 {n : Nat} : h1_readLine_149 (n + 1) 1 0 μ = xri 0 μ := by rw [h1_readLine_149_s, xite_t rfl, vI_eq, xite_t rfl, xrb_0]
theorem h90_0 {n : Nat} : h1_readLine_90 (n + 2) 1 0 145 0 μ = xri 0 μ := by rw [show n + 2 = (n + 1) + 1 from rfl, h1_readLine_90_s, xite_t rfl, xite_t rfl, vI_eq, h149_0]
theorem h90_n {n : Nat} {x v : Int32} (hx : ¬ x = 145) : h1_readLine_90 (n + 1) 1 0 x v μ = h1_readLine_149 n 1 v μ := by rw [h1_readLine_90_s, xite_f hx]
/-- the semicolon on both sides -/
theorem J_semi {n k : Nat} (hC : CO T m i μ) (hO : RO T m i ν) (h0 : rI μ 1 1 0 = nI n) :
    (∃ F, (0 < F ∧ F < 2 ^ 31) ∧ h1_readLine_149 (k + 1) 1 1 μ = xri 0 (fc μ F) ∧ f12_takeSign 59 ν = xrv (ft ν F)) ∨
    (i < m ∧ (∃ μ', h1_readLine_149 (k + 1) 1 1 μ = xri 1 μ' ∧ CO T m (i + 1) μ' ∧ FTp (sI μ 1 1 0 (nI (n + 1))) μ') ∧ f12_takeSign 59 ν = xrv (ad ν i)) := by
  have hw := wr_lt hO (w := 1) (by omega) (by omega)
  rw [ok_takeSign hO (c := 59) (p := 59) rfl (by omega), h1_readLine_149_s, xite_f (by decide)]
  rcases cp_take hC (c := 59) (p := 59) rfl (by omega) (by omega) with ⟨c1, μ1, c2, c3, c4⟩ | ⟨c1, c2⟩
  · have e0 : rI μ1 1 1 0 = nI n := (rI_ob (c4 1 1 (by omega)) 0).trans h0
    rw [c2, bI_i, xite_f (by decide), vI_eq, xite_f (by decide), e0, ← nI_succ, mS_eq, xrb_1, if_pos c1]
    exact .inr ⟨CO_lt hC (by omega), ⟨_, rfl, CO_ob (sI_ne (by omega)) c3, FTp_sI c4⟩, rfl⟩
  · rw [c2, bI_i, xite_t rfl, vI_eq, xite_t rfl, xrb_0, if_neg c1]
    exact .inl ⟨_, hw, rfl, rfl⟩
/-- the component begins a line -/
theorem c_lineHead {w n : Nat} (hC : CO T m i μ) (hk : kt T i = 144 + w) (hw : w < 4) (h0 : rI μ 1 1 0 = nI n) (hn : n < 40) :
    ∃ μ1, CO T m (i + 1) μ1 ∧ FTp (pI μ 1 1 1 n (nI (144 + w))) μ1 ∧ f1_readLine 1 0 μ =
      xite (nI (144 + w) = 145) (bI (f1_readName_m 1 0 (rI μ1 2 0 2) 1 μ1) fun r10 m9 => vI r10 fun x11 => h1_readLine_90 20000 1 0 (nI (144 + w)) x11 m9) (xite (nI (144 + w) = 147) (bI (f1_readName_m 1 0 (rI μ1 2 0 2) 1 μ1) fun r13 m12 => vI r13 fun x14 => h1_readLine_90 20000 1 0 (nI (144 + w)) x14 m12) (h1_readLine_90 20000 1 0 (nI (144 + w)) 1 μ1)) := by
  obtain ⟨μ1, a1, a2, a3⟩ := cp_adv hC (CO_lt hC (by omega))
  have e0 : rI μ1 1 1 0 = nI n := (rI_ob (a3 1 1 (by omega)) 0).trans h0
  have g1 : ¬ nI (144 + w) < 144 := nI_nlt (a := 144 + w) (b := 144) (by omega) (by omega)
  have g2 : ¬ (147 : Int32) < nI (144 + w) := nI_nlt (a := 147) (b := 144 + w) (by omega) (by omega)
  refine ⟨pI μ1 1 1 1 n (nI (144 + w)), CO_ob (pI_ne (by omega)) a2, FTp_p1 a3, ?_⟩
  rw [f1_readLine_e, k1_readLine, CO_4 hC, hk, vI_eq, xite_f g1, xite_f g2, h0, xite_t (show nI n < (40 : Int32) from nI_lt (b := 40) hn (by omega)), a1, bV_v, e0, xck_t (xin_a (show 40 < 2 ^ 31 by omega) hn), nI_clamp (by omega), mS_eq, vI_eq]
/-- a line's outcome on both sides -/
def LEo (T : TP) (m i : Nat) (h : HS) (e : EV) (μ ν : XM) (rc : XR) (K : (Int32 → XM → XR) → XR) : Prop :=
  (∃ F, (0 < F ∧ F < 2 ^ 31) ∧ (∃ μ', rc = xri 0 μ' ∧ rI μ' 10 0 7 = nI F ∧ FV μ μ') ∧ ∃ v ν', (∀ k, K k = k v ν') ∧ FF F ν' ∧ FR ν ν') ∨
  (∃ i' e', i < i' ∧ EI h e' ∧ (∃ μ', rc = xri 1 μ' ∧ CO T m i' μ' ∧ CE 1 e' μ' ∧ FV μ μ') ∧ ∃ ν', (∀ k, K k = k (nI e'.1) ν') ∧ RO T m i' ν' ∧ REd e' ν' ∧ FR ν ν')
/-- the reference's line, its word known -/
noncomputable def KE (e : EV) (w i : Nat) (ν : XM) (k : Int32 → XM → XR) : XR := bV (f12_readEvening (165 + 4 * nI e.1) (nI w) (ad ν i)) fun m11 => vI (nI e.1 + 1) fun x12 => bV (f12_takeSign 59 m11) fun m13 => k x12 m13
theorem KE_e {w p : Nat} (hp : p = 165 + 4 * e.1) (he : e.1 < 40) (k : Int32 → XM → XR) : KE e w i ν k = bV (xite (nI w = 1) (bI (f12_takeTold 40 (pI (ad ν i) 12 0 21 p (nI w))) fun r3 m2 => h12_readEvening_34 20000 (nI p) (nI w) r3 (nI (p + 1)) m2) (xite (nI w = 3) (bI (f12_takeTold 40 (pI (ad ν i) 12 0 21 p (nI w))) fun r5 m4 => h12_readEvening_34 20000 (nI p) (nI w) r5 (nI (p + 1)) m4) (h12_readEvening_34 20000 (nI p) (nI w) 0 (nI (p + 1)) (pI (ad ν i) 12 0 21 p (nI w))))) fun m11 => bV (f12_takeSign 59 m11) fun m13 => k (nI (e.1 + 1)) m13 := by
  have e1 : (165 : Int32) + 4 * nI e.1 = nI p := by rw [show (4 : Int32) = nI 4 from rfl, pk_mul, show (165 : Int32) = nI 165 from rfl, nI_add, hp]
  unfold KE
  rw [e1, f12_readEvening_e, k12_readEvening, xck_t (xin_a (show 330 < 2 ^ 31 by omega) (show p < 330 by omega)), nI_clamp (show p < 2 ^ 31 by omega), mS_eq, show nI p + 1 = nI (p + 1) from nI_add p 1, show nI e.1 + 1 = nI (e.1 + 1) from nI_add e.1 1]
  simp only [vI_eq]
/-- a fault in the reference's line -/
theorem KE_F {F : Nat} {ν2 : XM} {r : XR} (hF : FF F ν2) (hr : r = xrv ν2) (k : Int32 → XM → XR) {v : Int32} : (bV r fun m11 => bV (f12_takeSign 59 m11) fun m13 => k v m13) = k v ν2 := by
  rw [hr, bV_v, fl_takeSign hF, bV_v]
end
