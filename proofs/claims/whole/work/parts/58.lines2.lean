/-! THE PURE PART: belts and men told, on both sides -/
section
variable {μ ν : XM} {T : TP} {m i : Nat} {h : HS} {f1 f2 f3 : Bool}
theorem h73_0 : h7_readBelt_73 20000 μ = xri 0 μ := by rw [show (20000 : Nat) = 19999 + 1 from rfl, h7_readBelt_73_s, vI_eq, xite_t rfl, xrb_0]
theorem h94_0 : h7_readMan_94 20000 μ = xri 0 μ := by rw [show (20000 : Nat) = 19999 + 1 from rfl, h7_readMan_94_s, vI_eq, xite_t rfl, xrb_0]
theorem L_belt (hC : CO T m i μ) (hD : DC h f1 f2 f3 μ) (hO : RO T m i ν) (hE : DR h f1 f2 f3 ν) (hI : DI h) (hk : kt T i = 129) : LO T m i μ ν (f7_readBelt (nI (hB h)) μ) (bV (f12_readLine ν) fun m2 => f12_takeSign 59 m2) := by
  obtain ⟨D1, D2, D3, D4, D5, D6⟩ := hD
  obtain ⟨E1, E2, E3, E4, E5⟩ := hE
  obtain ⟨I1, I2, I3⟩ := hI
  have hi := CO_lt hC (show kt T i ≠ 0 by omega)
  have hm1 := hC.2.2.2.2.2
  have h6 := E1.1.1
  have h5 := E1.1.2.1
  have h3 := E1.1.2.2
  have hk0 : ¬ kt T i = 128 := by omega
  rw [f7_readBelt_e, k7_readBelt, f12_readLine_e, k12_readLine, ok_w0 hO, bI_i, decide_eq_false hk0, xite_t (show b2 false = 0 by decide), ok_w5 hO, bI_i, decide_eq_true hk, xite_f (show ¬ b2 true = 0 by decide), xck_t (show xin 61 120 = true by decide), show Int32.toNatClampNeg 61 = 61 from rfl, E1.2.1.2.1, vI_eq, show (96 : Int32) + nI (hB h) = nI (96 + hB h) from nI_add 96 _]
  by_cases hmx : hB h = 5
  · have hwr := wr_lt hO (w := 5) (by omega) (by omega)
    obtain ⟨d2, d3⟩ := ft_F (μ := ν) hwr.1 hwr.2
    rw [xite_f (show ¬ nI (hB h) < (5 : Int32) from nI_nlt (b := 5) (by omega) (by omega)), cp_wrong hC 5 (w := 5) rfl, bI_i, xrb_0, m_nameMax hO (q := 61) rfl (by omega) (by rw [E1.2.1.2.1, hmx]; rfl)]
    refine .inl ⟨_, hwr, ⟨_, rfl, fc_7, FTp_D FTp_c⟩, _, ?_, d2, d3⟩
    simp only [fl_takeAfter d2, fl_takeSign d2, bV_v, bI_i, vI_eq, xite_f (FF_0 d2)]
  have hn : hB h < 5 := by omega
  obtain ⟨μ1, a1, a2, a3⟩ := cp_adv hC hi
  rw [xite_t (show nI (hB h) < (5 : Int32) from nI_lt (b := 5) hn (by omega)), a1, bV_v]
  rcases J_name_bn a2 hO hi hn E1.2.1.2.1 E2 I3.1 E3 (by omega) (CH_ob (a3 2 1 (by omega)) D1) (CNm_ob (a3 2 1 (by omega)) D2) with ⟨F, hF, ⟨μ', c1, c2, c3⟩, ν', d1, d2, d3⟩ | ⟨nm1, nm2, ⟨μ2, c1, c2, c3⟩, d1, O2⟩
  · replace d1 : f12_readName 1 5 20 ν = xrv ν' := d1
    refine .inl ⟨F, hF, ⟨μ', ?_, c2, FD_t (FTp_D a3) (FTp_D c3)⟩, ν', ?_, d2, d3⟩
    · rw [c1, bI_i, xite_t rfl, h73_0]
    · simp only [d1, fl_takeAfter d2, fl_takeSign d2, bV_v, bI_i, vI_eq, xite_f (FF_0 d2)]
  obtain ⟨g1, g2, g3, g4, g5, g6, g7, g8, g9, g10, g11⟩ := nmS_F (ν := ν) (i := i) (N := hG h + hB h + hM h) (t := 1) (n := hB h) (x := nI (20 + hB h)) (w := wq T (PT T (i + 1)))
  generalize nmS ν i (hG h + hB h + hM h) 1 (hB h) (nI (20 + hB h)) (wq T (PT T (i + 1))) = ν2 at *
  have D2' : FH μ μ2 := FH_t (FTp_H a3) (FH_t FH_pL (FTp_H c3))
  have k2 : μ2 2 1 = _ := c3 2 1 (by omega)
  have f2' : F7 ν2 ν2 := F7_r
  rw [c1, bI_i, xite_f (by decide), d1, bV_v]
  clear c1 d1
  rcases J_meas_be (w := 6) (a := 1) (b := 40) (p := 138) (q := 1) (r := 40) (w' := 6) c2 O2 hn (by omega) (by omega) (by omega) rfl rfl rfl rfl with ⟨F, hF, ⟨μ', c1, e2, e3⟩, ν', d1, d2, d3⟩ | ⟨vx, vx1, vx2, ⟨μ3, c1, C3, c3'⟩, ν3, d1, O3, f3''⟩
  · replace d1 : f12_takeAfter 6 1 40 ν2 = xri 0 ν' := d1
    refine .inl ⟨F, hF, ⟨μ', ?_, e2, FD_t (FH_D D2') (FTp_D e3)⟩, ν', ?_, d2, FR_t g1 (FR_t (F7_R f2') d3)⟩
    · rw [c1, bI_i, xite_t rfl, h73_0]
    · simp only [d1, fl_takeAfter d2, fl_takeSign d2, bV_v, bI_i, vI_eq, xite_f (FF_0 d2)]
  have D3' : FH μ μ3 := FH_t D2' (FH_t FH_pI (FTp_H c3'))
  have f3' := F7_t f2' f3''
  have k3 : μ3 2 1 = _ := c3' 2 1 (by omega)
  rw [c1, bI_i, xite_f (by decide), d1, bI_i, vI_eq]
  clear c1 d1
  have x : ∀ q, q < 120 → (xin (nI q) 120 && true) = true := fun q hq => xin_a (by omega) hq
  have y : ∀ q, q < 120 → (nI q).toNatClampNeg = q := fun q hq => nI_clamp (by omega)
  rw [xite_t O3.2.2.2.1, xck_t (x _ (by omega)), y (96 + hB h) (by omega), mS_eq, bV_v]
  have fp : FR ν3 (pI ν3 12 0 10 (96 + hB h) (nI vx)) := FR_p (by omega)
  have p7 : ∀ j, rI (pI ν3 12 0 10 (96 + hB h) (nI vx)) 12 0 j = rI ν3 12 0 j := fun j => by rw [rI_pI]
  have pL' : ∀ j, aL (pI ν3 12 0 10 (96 + hB h) (nI vx)) 12 0 j = aL ν3 12 0 j := fun j => by rw [aL_pI]
  have pO : ∀ j k, j ≠ 10 → aI (pI ν3 12 0 10 (96 + hB h) (nI vx)) 12 0 j k = aI ν3 12 0 j k := fun j k hj => by simp only [aI_pI, hj, false_and, and_false, ↓reduceIte]
  have p10 : ∀ q, aI (pI ν3 12 0 10 (96 + hB h) (nI vx)) 12 0 10 q = if q = 96 + hB h then nI vx else if q = 61 then nI (hB h + 1) else aI ν 12 0 10 q := fun q => by
    simp only [aI_pI, true_and]
    rw [f3'.2.2.1 10, g7]
  generalize (pI ν3 12 0 10 (96 + hB h) (nI vx)) = ν8 at *
  have O8 := RO_F O3 fp (p7 7) (p7 8)
  have fr8 : FR ν ν8 := FR_t g1 (FR_t (F7_R f3') fp)
  rw [ok_takeSign O8 (c := 59) (p := 59) rfl (by omega)]
  rcases cp_take C3 (c := 59) (p := 59) rfl (by omega) (by omega) with ⟨z1, μ8, z2, z3, z4⟩ | ⟨z1, z2⟩
  rotate_left
  · have hwr := wr_lt O8 (w := 1) (by omega) (by omega)
    obtain ⟨d2, d3⟩ := ft_F (μ := ν8) hwr.1 hwr.2
    rw [z2, bI_i, xite_t rfl, h73_0, if_neg z1]
    exact .inl ⟨_, hwr, ⟨_, rfl, fc_7, FD_t (FH_D D3') (FTp_D FTp_c)⟩, _, rfl, d2, FR_t fr8 d3⟩
  have hi9 := CO_lt C3 (by rw [z1]; decide)
  obtain ⟨O9, F9⟩ := RO_ad O8 hi9
  have k8 : μ8 2 1 = _ := z4 2 1 (by omega)
  have k1 : μ1 2 1 = _ := a3 2 1 (by omega)
  have r8 : ∀ j, rI μ8 2 1 j = rI μ 2 1 j := fun j => by simp only [rI_ob k8, rI_ob k3, rI_ob k2, rI_ob k1, rI_pI, rI_pL]
  have L8 : ∀ j g, aL μ8 2 1 j g = if j = 11 ∧ g = hB h then lN (vb 32 (wq T (PT T (i + 1)))) else aL μ 2 1 j g := fun j g => by simp only [aL_ob k8, aL_ob k3, aL_ob k2, aL_ob k1, aL_pI, aL_pL, true_and]
  have A8 : ∀ j g, aI μ8 2 1 j g = if j = 12 ∧ g = hB h then nI vx else aI μ 2 1 j g := fun j g => by simp only [aI_ob k8, aI_ob k3, aI_ob k2, aI_ob k1, aI_pI, aI_pL, true_and]
  rw [z2, bI_i, xite_f (by decide), vI_eq, xite_f (by decide), r8, CH_B D1, ← nI_succ, mS_eq, xrb_1, if_pos z1]
  have w2 : ∀ t j, ¬ (t = 2 ∧ j = 1) → (sI μ8 2 1 1 (nI (hB h + 1))) t j = μ8 t j := fun t j hn => sI_ne hn
  have w3 : rI (sI μ8 2 1 1 (nI (hB h + 1))) 2 1 1 = nI (hB h + 1) := by rw [rI_sI]; simp
  have w4 : ∀ j, j ≠ 1 → rI (sI μ8 2 1 1 (nI (hB h + 1))) 2 1 j = rI μ 2 1 j := fun j hj => by rw [rI_sI]; simp only [hj, and_false, ↓reduceIte]; exact r8 j
  have w5 : ∀ j, aI (sI μ8 2 1 1 (nI (hB h + 1))) 2 1 j = aI μ8 2 1 j := fun j => aI_sI _ _ _ _ _ _ _ _
  have w7 : ∀ j, aL (sI μ8 2 1 1 (nI (hB h + 1))) 2 1 j = aL μ8 2 1 j := fun j => aL_sI _ _ _ _ _ _ _ _
  generalize sI μ8 2 1 1 (nI (hB h + 1)) = μ9 at *
  obtain ⟨Q1, Q2⟩ := CH_adB (ν := μ9) (w := wq T (PT T (i + 1))) (x := vx) D1 D2 hn w3 (fun j j1 _ => w4 j j1) (fun g => by rw [w7, L8]; simp) (fun g => by rw [w5, A8]; simp) (fun j hj => by
      funext g
      rw [w5, A8, if_neg (by omega)]) (fun j hj => by
      funext g
      rw [w7, L8, if_neg (by omega)])
  have Dn : FH μ μ9 := FH_t (FH_t D3' (FTp_H z4)) (fun t j _ hn => w2 t j hn)
  have s7 : μ9 7 0 = μ 7 0 := Dn 7 0 (by omega) (by omega)
  refine .inr ⟨_, adN h 1 (wq T (PT T (i + 1))) (fB h vx), f1, f2, f3, ?_, ⟨HI_adB I1 hn vx2, I2, NI_adN I3 (isN_V nm1) nm2 (by omega)⟩, ⟨μ9, rfl, CO_ob (w2 10 0 (by omega)) z3, ⟨Q1, Q2, LC_ob (Dn 4 1 (by omega) (by omega)) D3, by rw [rI_ob s7]; exact D4, by rw [rI_ob s7]; exact D5, by rw [rI_ob s7]; exact D6⟩, FH_D Dn⟩, _, rfl, O9, ⟨RH_adB E1 hn (fun q => by rw [F7_ad.2.2.1 10]; exact p10 q), RNs_adN E2 (by omega) (by omega) E3 ?_ (fun k => ?_) (fun k => ?_), ?_, ?_, DL_F rfl ?_ ?_ (fun k => ?_) (fun k => ?_) E5⟩, FR_t fr8 F9⟩
  · omega
  · rw [F7_ad.2.1 19 (by decide), p7, f3'.2.1 19 (by decide), g5]
  · rw [F7_ad.2.2.1 17, pO 17 k (by decide), f3'.2.2.1 17, g8]; rfl
  · rw [F7_ad.2.2.2 15, pL', f3'.2.2.2 15, g9]
  · rw [F7_ad.2.1 19 (by decide), p7, f3'.2.1 19 (by decide), g5]
    show nI _ = nI (hG h + (hB h + 1) + hM h)
    congr 1 <;> omega
  · rw [F7_ad.2.1 20 (by decide), p7, f3'.2.1 20 (by decide), g6]; exact E4
  · rw [F7_ad.2.2.1 10, p10 65, if_neg (by omega), if_neg (by omega)]
  · rw [F7_ad.2.1 13 (by decide), p7, f3'.2.1 13 (by decide), g4]
  · rw [F7_ad.2.2.1 11, pO 11 k (by decide), f3'.2.2.1 11, g10]
  · rw [F7_ad.2.2.1 12, pO 12 k (by decide), f3'.2.2.1 12, g11]
theorem L_man (hC : CO T m i μ) (hD : DC h f1 f2 f3 μ) (hO : RO T m i ν) (hE : DR h f1 f2 f3 ν) (hI : DI h) (hk : kt T i = 130) : LO T m i μ ν (f7_readMan (nI (hM h)) μ) (bV (f12_readLine ν) fun m2 => f12_takeSign 59 m2) := by
  obtain ⟨D1, D2, D3, D4, D5, D6⟩ := hD
  obtain ⟨E1, E2, E3, E4, E5⟩ := hE
  obtain ⟨I1, I2, I3⟩ := hI
  have hi := CO_lt hC (show kt T i ≠ 0 by omega)
  have hm1 := hC.2.2.2.2.2
  have h6 := E1.1.1
  have h5 := E1.1.2.1
  have h3 := E1.1.2.2
  have hk0 : ¬ kt T i = 128 := by omega
  have hk5 : ¬ kt T i = 129 := by omega
  rw [f7_readMan_e, k7_readMan, f12_readLine_e, k12_readLine, ok_w0 hO, bI_i, decide_eq_false hk0, xite_t (show b2 false = 0 by decide), ok_w5 hO, bI_i, decide_eq_false hk5, xite_t (show b2 false = 0 by decide), ok_w7 hO, bI_i, decide_eq_true hk, xite_f (show ¬ b2 true = 0 by decide), xck_t (show xin 62 120 = true by decide), show Int32.toNatClampNeg 62 = 62 from rfl, E1.2.1.2.2.1, vI_eq, show (101 : Int32) + 2 * nI (hM h) = nI (101 + 2 * hM h) from by rw [show (2 : Int32) = nI 2 from rfl, pk_mul]; exact nI_add 101 _]
  by_cases hmx : hM h = 3
  · have hwr := wr_lt hO (w := 5) (by omega) (by omega)
    obtain ⟨d2, d3⟩ := ft_F (μ := ν) hwr.1 hwr.2
    rw [xite_f (show ¬ nI (hM h) < (3 : Int32) from nI_nlt (b := 3) (by omega) (by omega)), cp_wrong hC 5 (w := 5) rfl, bI_i, xrb_0, m_nameMax hO (q := 62) rfl (by omega) (by rw [E1.2.1.2.2.1, hmx]; rfl)]
    refine .inl ⟨_, hwr, ⟨_, rfl, fc_7, FTp_D FTp_c⟩, _, ?_, d2, d3⟩
    simp only [fl_takeAfter d2, fl_takeSign d2, bV_v, bI_i, vI_eq, xite_f (FF_0 d2)]
  have hn : hM h < 3 := by omega
  obtain ⟨μ1, a1, a2, a3⟩ := cp_adv hC hi
  rw [xite_t (show nI (hM h) < (3 : Int32) from nI_lt (b := 3) hn (by omega)), a1, bV_v]
  rcases J_name_mn a2 hO hi hn E1.2.1.2.2.1 E2 I3.1 E3 (by omega) (CH_ob (a3 2 1 (by omega)) D1) (CNm_ob (a3 2 1 (by omega)) D2) with ⟨F, hF, ⟨μ', c1, c2, c3⟩, ν', d1, d2, d3⟩ | ⟨nm1, nm2, ⟨μ2, c1, c2, c3⟩, d1, O2⟩
  · replace d1 : f12_readName 2 3 40 ν = xrv ν' := d1
    refine .inl ⟨F, hF, ⟨μ', ?_, c2, FD_t (FTp_D a3) (FTp_D c3)⟩, ν', ?_, d2, d3⟩
    · rw [c1, bI_i, xite_t rfl, h94_0]
    · simp only [d1, fl_takeAfter d2, fl_takeSign d2, bV_v, bI_i, vI_eq, xite_f (FF_0 d2)]
  obtain ⟨g1, g2, g3, g4, g5, g6, g7, g8, g9, g10, g11⟩ := nmS_F (ν := ν) (i := i) (N := hG h + hB h + hM h) (t := 2) (n := hM h) (x := nI (40 + hM h)) (w := wq T (PT T (i + 1)))
  generalize nmS ν i (hG h + hB h + hM h) 2 (hM h) (nI (40 + hM h)) (wq T (PT T (i + 1))) = ν2 at *
  have D2' : FH μ μ2 := FH_t (FTp_H a3) (FH_t FH_pL (FTp_H c3))
  have k2 : μ2 2 1 = _ := c3 2 1 (by omega)
  have f2' : F7 ν2 ν2 := F7_r
  rw [c1, bI_i, xite_f (by decide), d1, bV_v]
  clear c1 d1
  rcases J_meas_po (w := 1) (a := 0) (b := 9) (p := 134) (q := 0) (r := 9) (w' := 1) c2 O2 hn (by omega) (by omega) (by omega) rfl rfl rfl rfl with ⟨F, hF, ⟨μ', c1, e2, e3⟩, ν', d1, d2, d3⟩ | ⟨vp, vp1, vp2, ⟨μ3, c1, C3, c3'⟩, ν3, d1, O3, f3''⟩
  · replace d1 : f12_takeAfter 1 0 9 ν2 = xri 0 ν' := d1
    refine .inl ⟨F, hF, ⟨μ', ?_, e2, FD_t (FH_D D2') (FTp_D e3)⟩, ν', ?_, d2, FR_t g1 (FR_t (F7_R f2') d3)⟩
    · rw [c1, bI_i, xite_t rfl, h94_0]
    · simp only [d1, fl_takeAfter d2, fl_takeSign d2, bV_v, bI_i, vI_eq, xite_f (FF_0 d2)]
  have D3' : FH μ μ3 := FH_t D2' (FH_t FH_pI (FTp_H c3'))
  have f3' := F7_t f2' f3''
  have k3 : μ3 2 1 = _ := c3' 2 1 (by omega)
  rw [c1, bI_i, xite_f (by decide), d1, bI_i, vI_eq]
  clear c1 d1
  rcases J_meas_re (w := 8) (a := 0) (b := 9) (p := 139) (q := 0) (r := 9) (w' := 8) C3 O3 hn (by omega) (by omega) (by omega) rfl rfl rfl rfl with ⟨F, hF, ⟨μ', c1, e2, e3⟩, ν', d1, d2, d3⟩ | ⟨vr, vr1, vr2, ⟨μ4, c1, C4, c4'⟩, ν4, d1, O4, f4''⟩
  · replace d1 : f12_takeAfter 8 0 9 ν3 = xri 0 ν' := d1
    refine .inl ⟨F, hF, ⟨μ', ?_, e2, FD_t (FH_D D3') (FTp_D e3)⟩, ν', ?_, d2, FR_t g1 (FR_t (F7_R f3') d3)⟩
    · rw [c1, bI_i, xite_t rfl, h94_0]
    · simp only [d1, fl_takeAfter d2, fl_takeSign d2, bV_v, bI_i, vI_eq, xite_f (FF_0 d2)]
  have D4' : FH μ μ4 := FH_t D3' (FH_t FH_pI (FTp_H c4'))
  have f4' := F7_t f3' f4''
  have k4 : μ4 2 1 = _ := c4' 2 1 (by omega)
  rw [c1, bI_i, xite_f (by decide), d1, bI_i, vI_eq]
  clear c1 d1
  have s1 : nI (101 + 2 * hM h) + 1 = nI (101 + 2 * hM h + 1) := (nI_succ _).symm
  have x : ∀ q, q < 120 → (xin (nI q) 120 && true) = true := fun q hq => xin_a (by omega) hq
  have y : ∀ q, q < 120 → (nI q).toNatClampNeg = q := fun q hq => nI_clamp (by omega)
  rw [xite_t O4.2.2.2.1, s1, xck_t (x _ (by omega)), y (101 + 2 * hM h) (by omega), mS_eq, xck_t (x _ (by omega)), y (101 + 2 * hM h + 1) (by omega), mS_eq, bV_v]
  have fp : FR ν4 (pI (pI ν4 12 0 10 (101 + 2 * hM h) (nI vp)) 12 0 10 (101 + 2 * hM h + 1) (nI vr)) := FR_t (FR_p (by omega)) (FR_p (by omega))
  have p7 : ∀ j, rI (pI (pI ν4 12 0 10 (101 + 2 * hM h) (nI vp)) 12 0 10 (101 + 2 * hM h + 1) (nI vr)) 12 0 j = rI ν4 12 0 j := fun j => by rw [rI_pI, rI_pI]
  have pL' : ∀ j, aL (pI (pI ν4 12 0 10 (101 + 2 * hM h) (nI vp)) 12 0 10 (101 + 2 * hM h + 1) (nI vr)) 12 0 j = aL ν4 12 0 j := fun j => by rw [aL_pI, aL_pI]
  have pO : ∀ j k, j ≠ 10 → aI (pI (pI ν4 12 0 10 (101 + 2 * hM h) (nI vp)) 12 0 10 (101 + 2 * hM h + 1) (nI vr)) 12 0 j k = aI ν4 12 0 j k := fun j k hj => by simp only [aI_pI, hj, false_and, and_false, ↓reduceIte]
  have p10 : ∀ q, aI (pI (pI ν4 12 0 10 (101 + 2 * hM h) (nI vp)) 12 0 10 (101 + 2 * hM h + 1) (nI vr)) 12 0 10 q = if q = 101 + 2 * hM h + 1 then nI vr else if q = 101 + 2 * hM h then nI vp else if q = 62 then nI (hM h + 1) else aI ν 12 0 10 q := fun q => by
    simp only [aI_pI, true_and]
    rw [f4'.2.2.1 10, g7]
  generalize (pI (pI ν4 12 0 10 (101 + 2 * hM h) (nI vp)) 12 0 10 (101 + 2 * hM h + 1) (nI vr)) = ν8 at *
  have O8 := RO_F O4 fp (p7 7) (p7 8)
  have fr8 : FR ν ν8 := FR_t g1 (FR_t (F7_R f4') fp)
  rw [ok_takeSign O8 (c := 59) (p := 59) rfl (by omega)]
  rcases cp_take C4 (c := 59) (p := 59) rfl (by omega) (by omega) with ⟨z1, μ8, z2, z3, z4⟩ | ⟨z1, z2⟩
  rotate_left
  · have hwr := wr_lt O8 (w := 1) (by omega) (by omega)
    obtain ⟨d2, d3⟩ := ft_F (μ := ν8) hwr.1 hwr.2
    rw [z2, bI_i, xite_t rfl, h94_0, if_neg z1]
    exact .inl ⟨_, hwr, ⟨_, rfl, fc_7, FD_t (FH_D D4') (FTp_D FTp_c)⟩, _, rfl, d2, FR_t fr8 d3⟩
  have hi9 := CO_lt C4 (by rw [z1]; decide)
  obtain ⟨O9, F9⟩ := RO_ad O8 hi9
  have k8 : μ8 2 1 = _ := z4 2 1 (by omega)
  have k1 : μ1 2 1 = _ := a3 2 1 (by omega)
  have r8 : ∀ j, rI μ8 2 1 j = rI μ 2 1 j := fun j => by simp only [rI_ob k8, rI_ob k4, rI_ob k3, rI_ob k2, rI_ob k1, rI_pI, rI_pL]
  have L8 : ∀ j g, aL μ8 2 1 j g = if j = 13 ∧ g = hM h then lN (vb 32 (wq T (PT T (i + 1)))) else aL μ 2 1 j g := fun j g => by simp only [aL_ob k8, aL_ob k4, aL_ob k3, aL_ob k2, aL_ob k1, aL_pI, aL_pL, true_and]
  have A8 : ∀ j g, aI μ8 2 1 j g = if j = 15 ∧ g = hM h then nI vr else if j = 14 ∧ g = hM h then nI vp else aI μ 2 1 j g := fun j g => by simp only [aI_ob k8, aI_ob k4, aI_ob k3, aI_ob k2, aI_ob k1, aI_pI, aI_pL, true_and]
  rw [z2, bI_i, xite_f (by decide), vI_eq, xite_f (by decide), r8, CH_M D1, ← nI_succ, mS_eq, xrb_1, if_pos z1]
  have w2 : ∀ t j, ¬ (t = 2 ∧ j = 1) → (sI μ8 2 1 2 (nI (hM h + 1))) t j = μ8 t j := fun t j hn => sI_ne hn
  have w3 : rI (sI μ8 2 1 2 (nI (hM h + 1))) 2 1 2 = nI (hM h + 1) := by rw [rI_sI]; simp
  have w4 : ∀ j, j ≠ 2 → rI (sI μ8 2 1 2 (nI (hM h + 1))) 2 1 j = rI μ 2 1 j := fun j hj => by rw [rI_sI]; simp only [hj, and_false, ↓reduceIte]; exact r8 j
  have w5 : ∀ j, aI (sI μ8 2 1 2 (nI (hM h + 1))) 2 1 j = aI μ8 2 1 j := fun j => aI_sI _ _ _ _ _ _ _ _
  have w7 : ∀ j, aL (sI μ8 2 1 2 (nI (hM h + 1))) 2 1 j = aL μ8 2 1 j := fun j => aL_sI _ _ _ _ _ _ _ _
  generalize sI μ8 2 1 2 (nI (hM h + 1)) = μ9 at *
  obtain ⟨Q1, Q2⟩ := CH_adM (ν := μ9) (w := wq T (PT T (i + 1))) (p := vp) (r' := vr) D1 D2 hn w3 (fun j j1 _ => w4 j j1) (fun g => by rw [w7, L8]; simp) (fun g => by rw [w5, A8]; simp) (fun g => by rw [w5, A8]; simp) (fun j hj hj2 => by
      funext g
      rw [w5, A8, if_neg (by omega), if_neg (by omega)]) (fun j hj => by
      funext g
      rw [w7, L8, if_neg (by omega)])
  have Dn : FH μ μ9 := FH_t (FH_t D4' (FTp_H z4)) (fun t j _ hn => w2 t j hn)
  have s7 : μ9 7 0 = μ 7 0 := Dn 7 0 (by omega) (by omega)
  refine .inr ⟨_, adN h 2 (wq T (PT T (i + 1))) (fM h vp vr), f1, f2, f3, ?_, ⟨HI_adM I1 hn vp2 vr2, I2, NI_adN I3 (isN_V nm1) nm2 (by omega)⟩, ⟨μ9, rfl, CO_ob (w2 10 0 (by omega)) z3, ⟨Q1, Q2, LC_ob (Dn 4 1 (by omega) (by omega)) D3, by rw [rI_ob s7]; exact D4, by rw [rI_ob s7]; exact D5, by rw [rI_ob s7]; exact D6⟩, FH_D Dn⟩, _, rfl, O9, ⟨RH_adM E1 hn (fun q => by rw [F7_ad.2.2.1 10]; exact p10 q), RNs_adN E2 (by omega) (by omega) E3 ?_ (fun k => ?_) (fun k => ?_), ?_, ?_, DL_F rfl ?_ ?_ (fun k => ?_) (fun k => ?_) E5⟩, FR_t fr8 F9⟩
  · omega
  · rw [F7_ad.2.1 19 (by decide), p7, f4'.2.1 19 (by decide), g5]
  · rw [F7_ad.2.2.1 17, pO 17 k (by decide), f4'.2.2.1 17, g8]; rfl
  · rw [F7_ad.2.2.2 15, pL', f4'.2.2.2 15, g9]
  · rw [F7_ad.2.1 19 (by decide), p7, f4'.2.1 19 (by decide), g5]
    show nI _ = nI (hG h + hB h + (hM h + 1))
    congr 1 <;> omega
  · rw [F7_ad.2.1 20 (by decide), p7, f4'.2.1 20 (by decide), g6]; exact E4
  · rw [F7_ad.2.2.1 10, p10 65, if_neg (by omega), if_neg (by omega), if_neg (by omega)]
  · rw [F7_ad.2.1 13 (by decide), p7, f4'.2.1 13 (by decide), g4]
  · rw [F7_ad.2.2.1 11, pO 11 k (by decide), f4'.2.2.1 11, g10]
  · rw [F7_ad.2.2.1 12, pO 12 k (by decide), f4'.2.2.1 12, g11]
end
