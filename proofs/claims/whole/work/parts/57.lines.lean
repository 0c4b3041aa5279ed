/-! THE PURE PART: guests, belts and men told, on both sides -/
/-- the tape and the drafted house alone are other -/
def FH (μ ν : XM) : Prop := ∀ t j, ¬ (t = 10 ∧ j = 0) → ¬ (t = 2 ∧ j = 1) → ν t j = μ t j
theorem FH_t {μ ν ξ : XM} (a : FH μ ν) (b : FH ν ξ) : FH μ ξ := fun t j h1 h2 => (b t j h1 h2).trans (a t j h1 h2)
theorem FTp_H {μ ν : XM} (a : FTp μ ν) : FH μ ν := fun t j h _ => a t j h
theorem FH_pI {μ : XM} {j k : Nat} {x : Int32} : FH μ (pI μ 2 1 j k x) := fun t i _ h => pI_ne h
theorem FH_pL {μ : XM} {j k : Nat} {x : Int64} : FH μ (pL μ 2 1 j k x) := fun t i _ h => pL_ne h
theorem FH_sI {μ : XM} {j : Nat} {x : Int32} : FH μ (sI μ 2 1 j x) := fun t i _ h => sI_ne h
theorem FH_D {μ ν : XM} (a : FH μ ν) : FD μ ν := fun t j h1 h2 _ _ => a t j h1 h2
theorem RD_F {l : List (Nat × Int32)} {μ ν : XM} (a : rI ν 12 0 13 = rI μ 12 0 13) (b : ∀ k, aI ν 12 0 11 k = aI μ 12 0 11 k) (c : ∀ k, aI ν 12 0 12 k = aI μ 12 0 12 k) (h : RD l μ) : RD l ν := ⟨a.trans h.1, fun k hk => by rw [b, c]; exact h.2 k hk⟩
theorem DL_F {h h' : HS} {f3 : Bool} {μ ν : XM} (e : hC h' = hC h) (z : aI ν 12 0 10 65 = aI μ 12 0 10 65) (a : rI ν 12 0 13 = rI μ 12 0 13) (b : ∀ k, aI ν 12 0 11 k = aI μ 12 0 11 k) (c : ∀ k, aI ν 12 0 12 k = aI μ 12 0 12 k) (hd : DL h f3 μ) : DL h' f3 ν := by
  unfold DL at *
  rw [e, z]
  rcases hd with ⟨h1, h2, h3, h4⟩ | ⟨h1, h2, h3, h4⟩
  · exact .inl ⟨h1, h2, h3, RD_F a b c h4⟩
  · exact .inr ⟨h1, h2, h3, RD_F a b c h4⟩
section
variable {μ ν : XM} {T : TP} {m i : Nat} {h : HS} {f1 f2 f3 : Bool}
theorem ok_w0 (hO : RO T m i μ) : f12_isWord 0 μ = xri (b2 (decide (kt T i = 128))) μ := ok_isWord hO (w := 0) rfl (by omega)
theorem ok_w5 (hO : RO T m i μ) : f12_isWord 5 μ = xri (b2 (decide (kt T i = 129))) μ := ok_isWord hO (w := 5) rfl (by omega)
theorem ok_w7 (hO : RO T m i μ) : f12_isWord 7 μ = xri (b2 (decide (kt T i = 130))) μ := ok_isWord hO (w := 7) rfl (by omega)
theorem m_nameMax {p1 p2 p3 : Int32} {q : Nat} (hO : RO T m i ν) (hq : (60 : Int32) + p1 = nI q) (hq2 : q < 120) (hx : aI ν 12 0 10 q = p2) : f12_readName p1 p2 p3 ν = xrv (ft ν (5 + 16 * PT T i)) := by
  rw [f12_readName_e, k12_readName, hq, xck_t (xin_t (by omega) hq2), nI_clamp (by omega), vI_eq, xite_t hx, ok_wrong hO 5 (w := 5) rfl, bV_v]
theorem c_addGuest {n k : Nat} (hn : n < 6) (h0 : rI μ 2 1 0 = nI n) (hk : aI μ 2 1 6 n = nI k) : ∃ ν, f2_addGuest 1 μ = xrv ν ∧ (∀ t j, ¬ (t = 2 ∧ j = 1) → ν t j = μ t j) ∧ rI ν 2 1 0 = nI (n + 1) ∧ (∀ j, j ≠ 0 → rI ν 2 1 j = rI μ 2 1 j) ∧ (∀ j, j ≠ 10 → aI ν 2 1 j = aI μ 2 1 j) ∧ (∀ g, aI ν 2 1 10 g = if g = n then aI μ 2 1 10 g + (if nI k = 2 then 5 else 0) else aI μ 2 1 10 g) ∧ ∀ j, aL ν 2 1 j = aL μ 2 1 j := by
  rw [f2_addGuest_e, k2_addGuest, h0, xite_t (show nI n < (6 : Int32) from nI_lt (b := 6) hn (by omega)), xck_t (xin_t (by omega) hn), nI_clamp (by omega), hk, xck_t (xin_t (by omega) hn), xck_t (xin_a (show 6 < 2 ^ 31 by omega) hn), mS_eq, mS_eq, ← nI_succ]
  have e0 : ∀ x, rI (pI μ 2 1 10 n x) 2 1 0 = nI n := fun x => by rw [rI_pI]; exact h0
  rw [e0, ← nI_succ, mS_eq]
  by_cases e : nI k = 2
  · rw [xite_t e]
    refine ⟨_, rfl, fun t j hn => by rw [sI_ne hn, pI_ne hn], by rw [rI_sI]; simp, fun j hj => by rw [rI_sI, rI_pI]; simp [hj], fun j hj => ?_, fun g => ?_, fun j => by rw [aL_sI, aL_pI]⟩
    · rw [aI_sI, pI, aI_wI]; simp [hj]
    · rw [aI_sI, aI_pI]
      by_cases eg : g = n
      · subst eg; simp [e]
      · simp [eg]
  · rw [xite_f e]
    refine ⟨_, rfl, fun t j hn => by rw [sI_ne hn], by rw [rI_sI]; simp, fun j hj => by rw [rI_sI]; simp [hj], fun j hj => by rw [aI_sI], fun g => ?_, fun j => by rw [aL_sI]⟩
    rw [aI_sI]; simp [e]
theorem L_guest (hC : CO T m i μ) (hD : DC h f1 f2 f3 μ) (hO : RO T m i ν) (hE : DR h f1 f2 f3 ν) (hI : DI h) (hk : kt T i = 128) : LO T m i μ ν (f7_readGuest (nI (hG h)) μ) (bV (f12_readLine ν) fun m2 => f12_takeSign 59 m2) := by
  obtain ⟨D1, D2, D3, D4, D5, D6⟩ := hD
  obtain ⟨E1, E2, E3, E4, E5⟩ := hE
  obtain ⟨I1, I2, I3⟩ := hI
  have hi := CO_lt hC (show kt T i ≠ 0 by omega)
  have hm1 := hC.2.2.2.2.2
  have h6 := E1.1.1
  have h5 := E1.1.2.1
  have h3 := E1.1.2.2
  rw [f7_readGuest_e, k7_readGuest, f12_readLine_e, k12_readLine, ok_w0 hO, bI_i, decide_eq_true hk, xite_f (show ¬ b2 true = 0 by decide), f12_readGuest_e, k12_readGuest, xck_t (show xin 60 120 = true by decide), show Int32.toNatClampNeg 60 = 60 from rfl, E1.2.1.1, vI_eq, show (66 : Int32) + 5 * nI (hG h) = nI (66 + 5 * hG h) from by rw [show (5 : Int32) = nI 5 from rfl, pk_mul]; exact nI_add 66 _]
  by_cases hmx : hG h = 6
  · have hwr := wr_lt hO (w := 5) (by omega) (by omega)
    obtain ⟨d2, d3⟩ := ft_F (μ := ν) hwr.1 hwr.2
    rw [xite_f (show ¬ nI (hG h) < (6 : Int32) from nI_nlt (b := 6) (by omega) (by omega)), cp_wrong hC 5 (w := 5) rfl, bI_i, xrb_0, m_nameMax hO (q := 60) rfl (by omega) (by rw [E1.2.1.1, hmx]; rfl)]
    refine .inl ⟨_, hwr, ⟨_, rfl, fc_7, FTp_D FTp_c⟩, _, ?_, d2, d3⟩
    simp only [fl_takeOne d2, fl_takeAfter d2, fl_takeSign d2, bV_v, bI_i, vI_eq, xite_f (FF_0 d2)]
  have hn : hG h < 6 := by omega
  obtain ⟨μ1, a1, a2, a3⟩ := cp_adv hC hi
  rw [xite_t (show nI (hG h) < (6 : Int32) from nI_lt (b := 6) hn (by omega)), a1, bV_v]
  rcases J_name_gn a2 hO hi hn E1.2.1.1 E2 I3.1 E3 (by omega) (CH_ob (a3 2 1 (by omega)) D1) (CNm_ob (a3 2 1 (by omega)) D2) with ⟨F, hF, ⟨μ', c1, c2, c3⟩, ν', d1, d2, d3⟩ | ⟨nm1, nm2, ⟨μ2, c1, c2, c3⟩, d1, O2⟩
  · replace d1 : f12_readName 0 6 0 ν = xrv ν' := d1
    refine .inl ⟨F, hF, ⟨μ', ?_, c2, FD_t (FTp_D a3) (FTp_D c3)⟩, ν', ?_, d2, d3⟩
    · rw [c1, bI_i, xite_t rfl, vI_eq, xite_t rfl, xrb_0]
    · simp only [d1, fl_takeOne d2, fl_takeAfter d2, fl_takeSign d2, bV_v, bI_i, vI_eq, xite_f (FF_0 d2)]
  obtain ⟨g1, g2, g3, g4, g5, g6, g7, g8, g9, g10, g11⟩ := nmS_F (ν := ν) (i := i) (N := hG h + hB h + hM h) (t := 0) (n := hG h) (x := nI (0 + hG h)) (w := wq T (PT T (i + 1)))
  generalize nmS ν i (hG h + hB h + hM h) 0 (hG h) (nI (0 + hG h)) (wq T (PT T (i + 1))) = ν2 at *
  have D2' : FH μ μ2 := FH_t (FTp_H a3) (FH_t FH_pL (FTp_H c3))
  have k2 : μ2 2 1 = _ := c3 2 1 (by omega)
  rw [c1, bI_i, xite_f (by decide), d1, bV_v]
  clear c1 d1
  rcases J_kind c2 O2 hn with ⟨F, hF, ⟨μ', c1, e2, e3⟩, ν', d1, d2, d3⟩ | ⟨kd, v1, ⟨μ3, c1, C3, c3'⟩, ν3, d1, O3, f3'⟩
  · replace d1 : f12_takeOne 16 4 ν2 = xri 0 ν' := d1
    refine .inl ⟨F, hF, ⟨μ', ?_, e2, FD_t (FH_D D2') (FTp_D e3)⟩, ν', ?_, d2, FR_t g1 d3⟩
    · rw [c1, bI_i, xite_t rfl, vI_eq, xite_t rfl, xrb_0]
    · simp only [d1, fl_takeOne d2, fl_takeAfter d2, fl_takeSign d2, bV_v, bI_i, vI_eq, xite_f (FF_0 d2)]
  have D3' : FH μ μ3 := FH_t D2' (FH_t FH_pI (FTp_H c3'))
  have k3 : μ3 2 1 = _ := c3' 2 1 (by omega)
  rw [c1, bI_i, xite_f (by decide), d1, bI_i, vI_eq]
  clear c1 d1
  rcases J_meas_pl (w := 1) (a := 1) (b := 9) (p := 134) (q := 1) (r := 9) (w' := 1) C3 O3 hn (by omega) (by omega) (by omega) rfl rfl rfl rfl with ⟨F, hF, ⟨μ', c1, e2, e3⟩, ν', d1, d2, d3⟩ | ⟨vp, vp1, vp2, ⟨μ4, c1, C4, c4'⟩, ν4, d1, O4, f4''⟩
  · replace d1 : f12_takeAfter 1 1 9 ν3 = xri 0 ν' := d1
    refine .inl ⟨F, hF, ⟨μ', ?_, e2, FD_t (FH_D D3') (FTp_D e3)⟩, ν', ?_, d2, FR_t g1 (FR_t (F7_R f3') d3)⟩
    · rw [c1, bI_i, xite_t rfl, vI_eq, xite_t rfl, xrb_0]
    · simp only [d1, fl_takeOne d2, fl_takeAfter d2, fl_takeSign d2, bV_v, bI_i, vI_eq, xite_f (FF_0 d2)]
  have D4' : FH μ μ4 := FH_t D3' (FH_t FH_pI (FTp_H c4'))
  have f4' := F7_t f3' f4''
  have k4 : μ4 2 1 = _ := c4' 2 1 (by omega)
  rw [c1, bI_i, xite_f (by decide), d1, bI_i, vI_eq]
  clear c1 d1
  rcases J_meas_ch (w := 2) (a := 1) (b := 40) (p := 135) (q := 1) (r := 40) (w' := 2) C4 O4 hn (by omega) (by omega) (by omega) rfl rfl rfl rfl with ⟨F, hF, ⟨μ', c1, e2, e3⟩, ν', d1, d2, d3⟩ | ⟨vc, vc1, vc2, ⟨μ5, c1, C5, c5'⟩, ν5, d1, O5, f5''⟩
  · replace d1 : f12_takeAfter 2 1 40 ν4 = xri 0 ν' := d1
    refine .inl ⟨F, hF, ⟨μ', ?_, e2, FD_t (FH_D D4') (FTp_D e3)⟩, ν', ?_, d2, FR_t g1 (FR_t (F7_R f4') d3)⟩
    · rw [c1, bI_i, xite_t rfl, vI_eq, xite_t rfl, xrb_0]
    · simp only [d1, fl_takeOne d2, fl_takeAfter d2, fl_takeSign d2, bV_v, bI_i, vI_eq, xite_f (FF_0 d2)]
  have D5' : FH μ μ5 := FH_t D4' (FH_t FH_pI (FTp_H c5'))
  have f5' := F7_t f4' f5''
  have k5 : μ5 2 1 = _ := c5' 2 1 (by omega)
  rw [c1, bI_i, xite_f (by decide), d1, bI_i, vI_eq]
  clear c1 d1
  rcases J_meas_br (w := 3) (a := 1) (b := 9) (p := 136) (q := 1) (r := 9) (w' := 3) C5 O5 hn (by omega) (by omega) (by omega) rfl rfl rfl rfl with ⟨F, hF, ⟨μ', c1, e2, e3⟩, ν', d1, d2, d3⟩ | ⟨vb_, vb_1, vb_2, ⟨μ6, c1, C6, c6'⟩, ν6, d1, O6, f6''⟩
  · replace d1 : f12_takeAfter 3 1 9 ν5 = xri 0 ν' := d1
    refine .inl ⟨F, hF, ⟨μ', ?_, e2, FD_t (FH_D D5') (FTp_D e3)⟩, ν', ?_, d2, FR_t g1 (FR_t (F7_R f5') d3)⟩
    · rw [c1, bI_i, xite_t rfl, vI_eq, xite_t rfl, xrb_0]
    · simp only [d1, fl_takeOne d2, fl_takeAfter d2, fl_takeSign d2, bV_v, bI_i, vI_eq, xite_f (FF_0 d2)]
  have D6' : FH μ μ6 := FH_t D5' (FH_t FH_pI (FTp_H c6'))
  have f6' := F7_t f5' f6''
  have k6 : μ6 2 1 = _ := c6' 2 1 (by omega)
  rw [c1, bI_i, xite_f (by decide), d1, bI_i, vI_eq]
  clear c1 d1
  rcases J_meas_we (w := 4) (a := 1) (b := 30) (p := 137) (q := 1) (r := 30) (w' := 4) C6 O6 hn (by omega) (by omega) (by omega) rfl rfl rfl rfl with ⟨F, hF, ⟨μ', c1, e2, e3⟩, ν', d1, d2, d3⟩ | ⟨vw, vw1, vw2, ⟨μ7, c1, C7, c7'⟩, ν7, d1, O7, f7''⟩
  · replace d1 : f12_takeAfter 4 1 30 ν6 = xri 0 ν' := d1
    refine .inl ⟨F, hF, ⟨μ', ?_, e2, FD_t (FH_D D6') (FTp_D e3)⟩, ν', ?_, d2, FR_t g1 (FR_t (F7_R f6') d3)⟩
    · rw [c1, bI_i, xite_t rfl, vI_eq, xite_t rfl, xrb_0]
    · simp only [d1, fl_takeOne d2, fl_takeAfter d2, fl_takeSign d2, bV_v, bI_i, vI_eq, xite_f (FF_0 d2)]
  have D7' : FH μ μ7 := FH_t D6' (FH_t FH_pI (FTp_H c7'))
  have f7' := F7_t f6' f7''
  have k7 : μ7 2 1 = _ := c7' 2 1 (by omega)
  rw [c1, bI_i, xite_f (by decide), d1, bI_i, vI_eq]
  clear c1 d1
  have s1 : nI (66 + 5 * hG h) + 1 = nI (66 + 5 * hG h + 1) := (nI_succ _).symm
  have s2 : nI (66 + 5 * hG h) + 2 = nI (66 + 5 * hG h + 2) := nI_add _ 2
  have s3 : nI (66 + 5 * hG h) + 3 = nI (66 + 5 * hG h + 3) := nI_add _ 3
  have s4 : nI (66 + 5 * hG h) + 4 = nI (66 + 5 * hG h + 4) := nI_add _ 4
  have x : ∀ q, q < 120 → (xin (nI q) 120 && true) = true := fun q hq => xin_a (by omega) hq
  have y : ∀ q, q < 120 → (nI q).toNatClampNeg = q := fun q hq => nI_clamp (by omega)
  rw [xite_t O7.2.2.2.1, s1, s2, s3, s4, xck_t (x _ (by omega)), y (66 + 5 * hG h) (by omega), mS_eq, xck_t (x _ (by omega)), y (66 + 5 * hG h + 1) (by omega), mS_eq, xck_t (x _ (by omega)), y (66 + 5 * hG h + 2) (by omega), mS_eq, xck_t (x _ (by omega)), y (66 + 5 * hG h + 3) (by omega), mS_eq, xck_t (x _ (by omega)), y (66 + 5 * hG h + 4) (by omega), mS_eq, bV_v, bV_v]
  have fp : FR ν7 (pI (pI (pI (pI (pI ν7 12 0 10 (66 + 5 * hG h) (nI kd)) 12 0 10 (66 + 5 * hG h + 1) (nI vp)) 12 0 10 (66 + 5 * hG h + 2) (nI vc)) 12 0 10 (66 + 5 * hG h + 3) (nI vb_)) 12 0 10 (66 + 5 * hG h + 4) (nI vw)) := FR_t (FR_p (by omega)) (FR_t (FR_p (by omega)) (FR_t (FR_p (by omega)) (FR_t (FR_p (by omega)) (FR_p (by omega)))))
  have p7 : ∀ j, rI (pI (pI (pI (pI (pI ν7 12 0 10 (66 + 5 * hG h) (nI kd)) 12 0 10 (66 + 5 * hG h + 1) (nI vp)) 12 0 10 (66 + 5 * hG h + 2) (nI vc)) 12 0 10 (66 + 5 * hG h + 3) (nI vb_)) 12 0 10 (66 + 5 * hG h + 4) (nI vw)) 12 0 j = rI ν7 12 0 j := fun j => by rw [rI_pI, rI_pI, rI_pI, rI_pI, rI_pI]
  have pL' : ∀ j, aL (pI (pI (pI (pI (pI ν7 12 0 10 (66 + 5 * hG h) (nI kd)) 12 0 10 (66 + 5 * hG h + 1) (nI vp)) 12 0 10 (66 + 5 * hG h + 2) (nI vc)) 12 0 10 (66 + 5 * hG h + 3) (nI vb_)) 12 0 10 (66 + 5 * hG h + 4) (nI vw)) 12 0 j = aL ν7 12 0 j := fun j => by rw [aL_pI, aL_pI, aL_pI, aL_pI, aL_pI]
  have pO : ∀ j k, j ≠ 10 → aI (pI (pI (pI (pI (pI ν7 12 0 10 (66 + 5 * hG h) (nI kd)) 12 0 10 (66 + 5 * hG h + 1) (nI vp)) 12 0 10 (66 + 5 * hG h + 2) (nI vc)) 12 0 10 (66 + 5 * hG h + 3) (nI vb_)) 12 0 10 (66 + 5 * hG h + 4) (nI vw)) 12 0 j k = aI ν7 12 0 j k := fun j k hj => by simp only [aI_pI, hj, false_and, and_false, ↓reduceIte]
  have p10 : ∀ q, aI (pI (pI (pI (pI (pI ν7 12 0 10 (66 + 5 * hG h) (nI kd)) 12 0 10 (66 + 5 * hG h + 1) (nI vp)) 12 0 10 (66 + 5 * hG h + 2) (nI vc)) 12 0 10 (66 + 5 * hG h + 3) (nI vb_)) 12 0 10 (66 + 5 * hG h + 4) (nI vw)) 12 0 10 q = if q = 66 + 5 * hG h + 4 then nI vw else if q = 66 + 5 * hG h + 3 then nI vb_ else if q = 66 + 5 * hG h + 2 then nI vc else if q = 66 + 5 * hG h + 1 then nI vp else if q = 66 + 5 * hG h then nI kd else if q = 60 then nI (hG h + 1) else aI ν 12 0 10 q := fun q => by
    simp only [aI_pI, true_and]
    rw [f7'.2.2.1 10, g7]
  generalize pI (pI (pI (pI (pI ν7 12 0 10 (66 + 5 * hG h) (nI kd)) 12 0 10 (66 + 5 * hG h + 1) (nI vp)) 12 0 10 (66 + 5 * hG h + 2) (nI vc)) 12 0 10 (66 + 5 * hG h + 3) (nI vb_)) 12 0 10 (66 + 5 * hG h + 4) (nI vw) = ν8 at *
  have O8 := RO_F O7 fp (p7 7) (p7 8)
  have fr8 : FR ν ν8 := FR_t g1 (FR_t (F7_R f7') fp)
  rw [ok_takeSign O8 (c := 59) (p := 59) rfl (by omega)]
  rcases cp_take C7 (c := 59) (p := 59) rfl (by omega) (by omega) with ⟨z1, μ8, z2, z3, z4⟩ | ⟨z1, z2⟩
  rotate_left
  · have hwr := wr_lt O8 (w := 1) (by omega) (by omega)
    obtain ⟨d2, d3⟩ := ft_F (μ := ν8) hwr.1 hwr.2
    rw [z2, bI_i, xite_t rfl, vI_eq, xite_t rfl, xrb_0, if_neg z1]
    exact .inl ⟨_, hwr, ⟨_, rfl, fc_7, FD_t (FH_D D7') (FTp_D FTp_c)⟩, _, rfl, d2, FR_t fr8 d3⟩
  have hi9 := CO_lt C7 (show kt T (i + 2 + 1 + 2 + 2 + 2 + 2) ≠ 0 by omega)
  obtain ⟨O9, F9⟩ := RO_ad O8 hi9
  have k8 : μ8 2 1 = _ := z4 2 1 (by omega)
  have k1 : μ1 2 1 = _ := a3 2 1 (by omega)
  have r8 : ∀ j, rI μ8 2 1 j = rI μ 2 1 j := fun j => by simp only [rI_ob k8, rI_ob k7, rI_ob k6, rI_ob k5, rI_ob k4, rI_ob k3, rI_ob k2, rI_ob k1, rI_pI, rI_pL]
  have L8 : ∀ j g, aL μ8 2 1 j g = if j = 5 ∧ g = hG h then lN (vb 32 (wq T (PT T (i + 1)))) else aL μ 2 1 j g := fun j g => by simp only [aL_ob k8, aL_ob k7, aL_ob k6, aL_ob k5, aL_ob k4, aL_ob k3, aL_ob k2, aL_ob k1, aL_pI, aL_pL, true_and]
  have A8 : ∀ j g, aI μ8 2 1 j g = if j = 10 ∧ g = hG h then nI vw else if j = 9 ∧ g = hG h then nI vb_ else if j = 8 ∧ g = hG h then nI vc else if j = 7 ∧ g = hG h then nI vp else if j = 6 ∧ g = hG h then nI kd else aI μ 2 1 j g := fun j g => by simp only [aI_ob k8, aI_ob k7, aI_ob k6, aI_ob k5, aI_ob k4, aI_ob k3, aI_ob k2, aI_ob k1, aI_pI, aI_pL, true_and]
  obtain ⟨μ9, w1, w2, w3, w4, w5, w6, w7⟩ := c_addGuest (μ := μ8) (k := kd) hn (by rw [r8]; exact CH_G D1) (by rw [A8]; simp)
  rw [z2, bI_i, xite_f (by decide), vI_eq, xite_f (by decide), w1, bV_v, xrb_1, if_pos z1]
  obtain ⟨Q1, Q2⟩ := CH_adG (ν := μ9) (w := wq T (PT T (i + 1))) (k := kd) (p := vp) (c := vc) (b := vb_) (wt := vw) D1 D2 hn w3 (fun j j1 j2 => by rw [w4 j (by omega), r8]) (fun g => by rw [w7, L8]; simp) (fun g => by rw [w5 6 (by omega), A8]; simp) (fun g => by rw [w5 7 (by omega), A8]; simp) (fun g => by rw [w5 8 (by omega), A8]; simp) (fun g => by rw [w5 9 (by omega), A8]; simp) (fun g => by
      rw [w6]
      by_cases e : g = hG h
      · rw [if_pos e, if_pos e, A8, if_pos ⟨rfl, e⟩]
      · rw [if_neg e, if_neg e, A8]; simp [e]) (fun j hj => by
      funext g
      rw [w5 j (by omega), A8, if_neg (by omega), if_neg (by omega), if_neg (by omega), if_neg (by omega), if_neg (by omega)]) (fun j hj => by
      funext g
      rw [w7, L8, if_neg (by omega)])
  have Dn : FH μ μ9 := FH_t (FH_t D7' (FTp_H z4)) (fun t j _ hn => w2 t j hn)
  have s7 : μ9 7 0 = μ 7 0 := Dn 7 0 (by omega) (by omega)
  refine .inr ⟨_, adN h 0 (wq T (PT T (i + 1))) (fG h kd vp vc vb_ vw), f1, f2, f3, ?_, ⟨HI_adG I1 hn v1 ⟨vp1, vp2⟩ ⟨vc1, vc2⟩ ⟨vb_1, vb_2⟩ ⟨vw1, vw2⟩, I2, NI_adN I3 (isN_V nm1) nm2 (by omega)⟩, ⟨μ9, rfl, CO_ob (w2 10 0 (by omega)) z3, ⟨Q1, Q2, LC_ob (Dn 4 1 (by omega) (by omega)) D3, by rw [rI_ob s7]; exact D4, by rw [rI_ob s7]; exact D5, by rw [rI_ob s7]; exact D6⟩, FH_D Dn⟩, _, rfl, O9, ⟨RH_adG E1 hn (fun q => by rw [F7_ad.2.2.1 10]; exact p10 q), RNs_adN E2 (by omega) (by omega) E3 ?_ (fun k => ?_) (fun k => ?_), ?_, ?_, DL_F rfl ?_ ?_ (fun k => ?_) (fun k => ?_) E5⟩, FR_t fr8 F9⟩
  · omega
  · rw [F7_ad.2.1 19 (by decide), p7, f7'.2.1 19 (by decide), g5]
  · rw [F7_ad.2.2.1 17, pO 17 k (by decide), f7'.2.2.1 17, g8]; rfl
  · rw [F7_ad.2.2.2 15, pL', f7'.2.2.2 15, g9]
  · rw [F7_ad.2.1 19 (by decide), p7, f7'.2.1 19 (by decide), g5]
    show nI _ = nI (hG h + 1 + hB h + hM h)
    congr 1; omega
  · rw [F7_ad.2.1 20 (by decide), p7, f7'.2.1 20 (by decide), g6]; exact E4
  · rw [F7_ad.2.2.1 10, p10 65, if_neg (by omega), if_neg (by omega), if_neg (by omega), if_neg (by omega), if_neg (by omega), if_neg (by omega)]
  · rw [F7_ad.2.1 13 (by decide), p7, f7'.2.1 13 (by decide), g4]
  · rw [F7_ad.2.2.1 11, pO 11 k (by decide), f7'.2.2.1 11, g10]
  · rw [F7_ad.2.2.1 12, pO 12 k (by decide), f7'.2.2.1 12, g11]
end
