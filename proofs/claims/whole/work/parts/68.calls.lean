/-! THE PURE PART: every call of the law -/
def G (r : XR) : Prop := ∃ μ', r = some (some (xi 1), μ')
theorem G_t {c : Prop} {a b : XR} (h : c) (g : G a) : G (xite c a b) := by rw [xite_t h]; exact g
theorem G_f {c : Prop} {a b : XR} (h : ¬ c) (g : G b) : G (xite c a b) := by rw [xite_f h]; exact g
theorem G_ck {b : Bool} {r : XR} (h : b = true) (g : G r) : G (xck b r) := by rw [xck_t h]; exact g
theorem G_v {x : Int32} {k : Int32 → XR} (g : G (k x)) : G (vI x k) := by rw [vI_eq]; exact g
def JR (A : AS) (μ : XM) : Prop := AI A ∧ RC A μ ∧ RM A μ
theorem law_fin {A A' : AS} {μ : XM} {x : Int32} {rc : XR} {v : Int32} {n : Nat} (hM : RM A μ) (hI' : AI A') (nx : ∀ A2 μ2, JR A2 μ2 → μ2 13 0 = μ 13 0 → G (hL_law_23 n (v + 7) μ2)) (hc : OKc A A' μ rc x) {K : Int32 → XM → XR}
    (hK : ∀ μ1, RM A μ1 → μ1 13 0 = μ 13 0 → ∃ rm, OKm A A' μ1 rm x ∧ K x μ1 = bI rm fun r2 m2 => xite (x = r2) (vI (v + 7) fun y => hL_law_23 n y m2) (xrb 0 m2)) : G (bI rc K) := by
  obtain ⟨μ1, e1, h1, f1⟩ := hc
  rw [e1, bI_i]
  obtain ⟨rm, ⟨μ2, e2, h2, f2⟩, e3⟩ := hK μ1 (RM_ob (f1 12 0 (by omega)) hM) (f1 13 0 (by omega))
  rw [e3, e2, bI_i, xite_t rfl, vI_eq]
  exact nx A' μ2 ⟨hI', RC_ob (fun t j ht => f2 t j (by omega)) h1, h2⟩ ((f2 13 0 (by omega)).trans (f1 13 0 (by omega)))
theorem law_J {A : AS} {μ : XM} {rc : XR} {v : Int32} {n : Nat} (hM : RM A μ) (nx : ∀ A2 μ2, JR A2 μ2 → μ2 13 0 = μ 13 0 → G (hL_law_23 n (v + 7) μ2)) (rm : XM → XR) (hJ : ∀ ν, RM A ν → ∃ A' x, AI A' ∧ OKc A A' μ rc x ∧ OKm A A' ν (rm ν) x) {K : Int32 → XM → XR}
    (hK : ∀ x μ1, K x μ1 = bI (rm μ1) fun r2 m2 => xite (x = r2) (vI (v + 7) fun y => hL_law_23 n y m2) (xrb 0 m2)) : G (bI rc K) := by
  obtain ⟨_, _, _, ⟨μ1, e1, _, f1⟩, _⟩ := hJ μ hM
  obtain ⟨A', x, hI', hc, ⟨μ2, e2, h2, f2⟩⟩ := hJ μ1 (RM_ob (f1 12 0 (by omega)) hM)
  obtain ⟨μ3, e3, h3, f3⟩ := hc
  have ee : xri x μ3 = xri _ μ1 := e3.symm.trans e1
  obtain rfl : μ3 = μ1 := by
    have := congrArg (fun r : XR => r.map Prod.snd) ee
    simpa [xri] using this
  rw [e3, bI_i, hK, e2, bI_i, xite_t rfl, vI_eq]
  exact nx A' μ2 ⟨hI', RC_ob (fun t j ht => f2 t j (by omega)) h3, h2⟩ ((f2 13 0 (by omega)).trans (f3 13 0 (by omega)))
theorem low7 : ∀ L, L < 7 → (nI L - 7).toInt < 0 := by decide
theorem lt7 {L k : Nat} (hL : L < 2 ^ 30) (hk : k < 2 ^ 30) : (nI L - 7 < nI k) = (L < k + 7) := by
  by_cases h : L < 7
  · have h1 := low7 L h
    refine propext ⟨fun _ => by omega, fun _ => ?_⟩
    rw [Int32.lt_iff_toInt_lt, nI_toInt (show k < 2 ^ 31 by omega)]
    omega
  · have e : nI L - 7 = nI (L - 7) := pk_sub (a := L) (b := 7) (by omega)
    rw [e, propext (nI_ltI (show L - 7 < 2 ^ 31 by omega) (show k < 2 ^ 31 by omega))]
    exact propext ⟨fun q => by omega, fun q => by omega⟩
set_option maxRecDepth 100000 in
theorem law_step {A : AS} {μ : XM} {n k L : Nat} (hJ : JR A μ) (hL : rI μ 13 0 0 = nI L) (hL2 : L < 2 ^ 30) (hk : k + 7 ≤ L) (nx : ∀ A2 μ2, JR A2 μ2 → μ2 13 0 = μ 13 0 → G (hL_law_23 n (nI k + 7) μ2)) : G (hL_law_23 (n + 1) (nI k) μ) := by
  obtain ⟨hI, hR, hM⟩ := hJ
  have cL : (rI μ 13 0 0).toNatClampNeg = L := by rw [hL, nI_clamp (by omega)]
  have X0 : xin (nI k) (rI μ 13 0 0).toNatClampNeg = true := by rw [cL]; exact xin_t (by omega) (by omega)
  have X1 : xin (nI k + 1) (rI μ 13 0 0).toNatClampNeg = true := by rw [cL, show nI k + 1 = nI (k + 1) from nI_add k 1]; exact xin_t (by omega) (by omega)
  have X2 : xin (nI k + 2) (rI μ 13 0 0).toNatClampNeg = true := by rw [cL, show nI k + 2 = nI (k + 2) from nI_add k 2]; exact xin_t (by omega) (by omega)
  have X3 : xin (nI k + 3) (rI μ 13 0 0).toNatClampNeg = true := by rw [cL, show nI k + 3 = nI (k + 3) from nI_add k 3]; exact xin_t (by omega) (by omega)
  have X4 : xin (nI k + 4) (rI μ 13 0 0).toNatClampNeg = true := by rw [cL, show nI k + 4 = nI (k + 4) from nI_add k 4]; exact xin_t (by omega) (by omega)
  have X5 : xin (nI k + 5) (rI μ 13 0 0).toNatClampNeg = true := by rw [cL, show nI k + 5 = nI (k + 5) from nI_add k 5]; exact xin_t (by omega) (by omega)
  have X6 : xin (nI k + 6) (rI μ 13 0 0).toNatClampNeg = true := by rw [cL, show nI k + 6 = nI (k + 6) from nI_add k 6]; exact xin_t (by omega) (by omega)
  have hlt : ¬ (rI μ 13 0 0 - 7 < nI k) := by rw [hL, lt7 hL2 (by omega)]; omega
  rw [hL_law_23_s]
  refine G_f hlt (G_ck X0 ?_)
  by_cases z0 : ((aI μ 13 0 0 (Int32.toNatClampNeg (nI k))) &&& 63) = 0
  · refine G_t z0 (G_ck X1 (G_ck X2 (G_ck X3 (G_ck X4 (G_ck X5 (G_ck X6 ?_))))))
    refine law_fin hM (AI_feed hI (((Int32.toInt64 (aI μ 13 0 0 (Int32.toNatClampNeg (nI k + 1)))) <<< ((Int32.toInt64 32) &&& 63)) ||| ((Int32.toInt64 (aI μ 13 0 0 (Int32.toNatClampNeg (nI k + 2)))) &&& 4294967295)) (((Int32.toInt64 (aI μ 13 0 0 (Int32.toNatClampNeg (nI k + 3)))) <<< ((Int32.toInt64 32) &&& 63)) ||| ((Int32.toInt64 (aI μ 13 0 0 (Int32.toNatClampNeg (nI k + 4)))) &&& 4294967295)) (((Int32.toInt64 (aI μ 13 0 0 (Int32.toNatClampNeg (nI k + 5)))) <<< ((Int32.toInt64 32) &&& 63)) ||| ((Int32.toInt64 (aI μ 13 0 0 (Int32.toNatClampNeg (nI k + 6)))) &&& 4294967295))) nx (c_feed hI hR (((Int32.toInt64 (aI μ 13 0 0 (Int32.toNatClampNeg (nI k + 1)))) <<< ((Int32.toInt64 32) &&& 63)) ||| ((Int32.toInt64 (aI μ 13 0 0 (Int32.toNatClampNeg (nI k + 2)))) &&& 4294967295)) (((Int32.toInt64 (aI μ 13 0 0 (Int32.toNatClampNeg (nI k + 3)))) <<< ((Int32.toInt64 32) &&& 63)) ||| ((Int32.toInt64 (aI μ 13 0 0 (Int32.toNatClampNeg (nI k + 4)))) &&& 4294967295)) (((Int32.toInt64 (aI μ 13 0 0 (Int32.toNatClampNeg (nI k + 5)))) <<< ((Int32.toInt64 32) &&& 63)) ||| ((Int32.toInt64 (aI μ 13 0 0 (Int32.toNatClampNeg (nI k + 6)))) &&& 4294967295))) (fun μ1 hM1 e13 => ⟨_, m_feed hI hM1 (((Int32.toInt64 (aI μ 13 0 0 (Int32.toNatClampNeg (nI k + 1)))) <<< ((Int32.toInt64 32) &&& 63)) ||| ((Int32.toInt64 (aI μ 13 0 0 (Int32.toNatClampNeg (nI k + 2)))) &&& 4294967295)) (((Int32.toInt64 (aI μ 13 0 0 (Int32.toNatClampNeg (nI k + 3)))) <<< ((Int32.toInt64 32) &&& 63)) ||| ((Int32.toInt64 (aI μ 13 0 0 (Int32.toNatClampNeg (nI k + 4)))) &&& 4294967295)) (((Int32.toInt64 (aI μ 13 0 0 (Int32.toNatClampNeg (nI k + 5)))) <<< ((Int32.toInt64 32) &&& 63)) ||| ((Int32.toInt64 (aI μ 13 0 0 (Int32.toNatClampNeg (nI k + 6)))) &&& 4294967295)), ?_⟩)
    simp only [rI_ob e13, aI_ob e13, xck_t X1, xck_t X2, xck_t X3, xck_t X4, xck_t X5, xck_t X6]
  refine G_f z0 ?_
  by_cases z1 : ((aI μ 13 0 0 (Int32.toNatClampNeg (nI k))) &&& 63) = 1
  · refine G_t z1 ?_
    exact law_J hM nx f12_room (fun ν hN => J_room hI hR hN) (fun x μ1 => rfl)
  refine G_f z1 ?_
  by_cases z2 : ((aI μ 13 0 0 (Int32.toNatClampNeg (nI k))) &&& 63) = 2
  · refine G_t z2 ?_
    exact law_J hM nx f12_evening (fun ν hN => J_evening hI hR hN) (fun x μ1 => rfl)
  refine G_f z2 ?_
  by_cases z3 : ((aI μ 13 0 0 (Int32.toNatClampNeg (nI k))) &&& 63) = 3
  · refine G_t z3 (G_ck X1 (G_ck X2 ?_))
    refine law_fin hM (hI) nx (OKc_m hR (c_guest hR (aI μ 13 0 0 (Int32.toNatClampNeg (nI k + 1))) (aI μ 13 0 0 (Int32.toNatClampNeg (nI k + 2))))) (fun μ1 hM1 e13 => ⟨_, OKm_m hI hM1 (m_guest hI hM1 (aI μ 13 0 0 (Int32.toNatClampNeg (nI k + 1))) (aI μ 13 0 0 (Int32.toNatClampNeg (nI k + 2)))), ?_⟩)
    simp only [rI_ob e13, aI_ob e13, xck_t X1, xck_t X2]
  refine G_f z3 ?_
  by_cases z4 : ((aI μ 13 0 0 (Int32.toNatClampNeg (nI k))) &&& 63) = 4
  · refine G_t z4 (G_ck X1 (G_ck X2 ?_))
    refine law_fin hM (hI) nx (OKc_m hR (c_belt hR (aI μ 13 0 0 (Int32.toNatClampNeg (nI k + 1))) (aI μ 13 0 0 (Int32.toNatClampNeg (nI k + 2))))) (fun μ1 hM1 e13 => ⟨_, OKm_m hI hM1 (m_belt hI hM1 (aI μ 13 0 0 (Int32.toNatClampNeg (nI k + 1))) (aI μ 13 0 0 (Int32.toNatClampNeg (nI k + 2)))), ?_⟩)
    simp only [rI_ob e13, aI_ob e13, xck_t X1, xck_t X2]
  refine G_f z4 ?_
  by_cases z5 : ((aI μ 13 0 0 (Int32.toNatClampNeg (nI k))) &&& 63) = 5
  · refine G_t z5 (G_ck X1 (G_ck X2 ?_))
    refine law_fin hM (hI) nx (OKc_m hR (c_man hR (aI μ 13 0 0 (Int32.toNatClampNeg (nI k + 1))) (aI μ 13 0 0 (Int32.toNatClampNeg (nI k + 2))))) (fun μ1 hM1 e13 => ⟨_, OKm_m hI hM1 (m_man hI hM1 (aI μ 13 0 0 (Int32.toNatClampNeg (nI k + 1))) (aI μ 13 0 0 (Int32.toNatClampNeg (nI k + 2)))), ?_⟩)
    simp only [rI_ob e13, aI_ob e13, xck_t X1, xck_t X2]
  refine G_f z5 ?_
  by_cases z6 : ((aI μ 13 0 0 (Int32.toNatClampNeg (nI k))) &&& 63) = 6
  · refine G_t z6 (G_ck X1 (G_ck X2 (G_ck X3 ?_)))
    refine law_fin hM (AI_cast hI (aI μ 13 0 0 (Int32.toNatClampNeg (nI k + 1))) (aI μ 13 0 0 (Int32.toNatClampNeg (nI k + 2))) (aI μ 13 0 0 (Int32.toNatClampNeg (nI k + 3)))) nx (c_cast hI hR (aI μ 13 0 0 (Int32.toNatClampNeg (nI k + 1))) (aI μ 13 0 0 (Int32.toNatClampNeg (nI k + 2))) (aI μ 13 0 0 (Int32.toNatClampNeg (nI k + 3)))) (fun μ1 hM1 e13 => ⟨_, m_cast hI hM1 (aI μ 13 0 0 (Int32.toNatClampNeg (nI k + 1))) (aI μ 13 0 0 (Int32.toNatClampNeg (nI k + 2))) (aI μ 13 0 0 (Int32.toNatClampNeg (nI k + 3))), ?_⟩)
    simp only [rI_ob e13, aI_ob e13, xck_t X1, xck_t X2, xck_t X3]
  refine G_f z6 ?_
  by_cases z7 : ((aI μ 13 0 0 (Int32.toNatClampNeg (nI k))) &&& 63) = 7
  · refine G_t z7 ?_
    exact law_fin hM (AI_ask hI) nx (c_ask hI hR ) (fun μ1 hM1 e13 => ⟨_, m_ask hI hM1 , rfl⟩)
  refine G_f z7 ?_
  by_cases z8 : ((aI μ 13 0 0 (Int32.toNatClampNeg (nI k))) &&& 63) = 8
  · refine G_t z8 (G_ck X1 ?_)
    refine law_fin hM (AI_stop hI (aI μ 13 0 0 (Int32.toNatClampNeg (nI k + 1)))) nx (c_stop hI hR (aI μ 13 0 0 (Int32.toNatClampNeg (nI k + 1)))) (fun μ1 hM1 e13 => ⟨_, m_stop hI hM1 (aI μ 13 0 0 (Int32.toNatClampNeg (nI k + 1))), ?_⟩)
    simp only [rI_ob e13, aI_ob e13, xck_t X1]
  refine G_f z8 ?_
  by_cases z9 : ((aI μ 13 0 0 (Int32.toNatClampNeg (nI k))) &&& 63) = 9
  · refine G_t z9 ?_
    exact law_fin hM (AI_min hI) nx (c_minute hI hR ) (fun μ1 hM1 e13 => ⟨_, m_minute hI hM1 , rfl⟩)
  refine G_f z9 ?_
  by_cases z10 : ((aI μ 13 0 0 (Int32.toNatClampNeg (nI k))) &&& 63) = 10
  · refine G_t z10 ?_
    exact law_fin hM (AI_undo hI) nx (c_undo hI hR ) (fun μ1 hM1 e13 => ⟨_, m_undo hI hM1 , rfl⟩)
  refine G_f z10 ?_
  by_cases z11 : ((aI μ 13 0 0 (Int32.toNatClampNeg (nI k))) &&& 63) = 11
  · refine G_t z11 (G_ck X1 ?_)
    refine law_fin hM (hI) nx (c_judged hI hR (aI μ 13 0 0 (Int32.toNatClampNeg (nI k + 1)))) (fun μ1 hM1 e13 => ⟨_, m_judged hI hM1 (aI μ 13 0 0 (Int32.toNatClampNeg (nI k + 1))), ?_⟩)
    simp only [rI_ob e13, aI_ob e13, xck_t X1]
  refine G_f z11 ?_
  by_cases z12 : ((aI μ 13 0 0 (Int32.toNatClampNeg (nI k))) &&& 63) = 12
  · refine G_t z12 ?_
    exact law_fin hM (hI) nx (OKc_m hR (c_under hR )) (fun μ1 hM1 e13 => ⟨_, OKm_m hI hM1 (m_under hI hM1 ), rfl⟩)
  refine G_f z12 ?_
  by_cases z13 : ((aI μ 13 0 0 (Int32.toNatClampNeg (nI k))) &&& 63) = 13
  · refine G_t z13 ?_
    exact law_fin hM (hI) nx (OKc_m hR (c_cries hR )) (fun μ1 hM1 e13 => ⟨_, OKm_m hI hM1 (m_cries hI hM1 ), rfl⟩)
  refine G_f z13 ?_
  by_cases z14 : ((aI μ 13 0 0 (Int32.toNatClampNeg (nI k))) &&& 63) = 14
  · refine G_t z14 (G_ck X1 ?_)
    refine law_fin hM (hI) nx (c_later hI hR (aI μ 13 0 0 (Int32.toNatClampNeg (nI k + 1)))) (fun μ1 hM1 e13 => ⟨_, m_later hI hM1 (aI μ 13 0 0 (Int32.toNatClampNeg (nI k + 1))), ?_⟩)
    simp only [rI_ob e13, aI_ob e13, xck_t X1]
  refine G_f z14 ?_
  by_cases z15 : ((aI μ 13 0 0 (Int32.toNatClampNeg (nI k))) &&& 63) = 15
  · refine G_t z15 (G_ck X1 ?_)
    refine law_fin hM (hI) nx (c_over hI hR (aI μ 13 0 0 (Int32.toNatClampNeg (nI k + 1)))) (fun μ1 hM1 e13 => ⟨_, m_over hI hM1 (aI μ 13 0 0 (Int32.toNatClampNeg (nI k + 1))), ?_⟩)
    simp only [rI_ob e13, aI_ob e13, xck_t X1]
  refine G_f z15 ?_
  by_cases z16 : ((aI μ 13 0 0 (Int32.toNatClampNeg (nI k))) &&& 63) = 16
  · refine G_t z16 (G_ck X1 ?_)
    refine law_fin hM (hI) nx (c_sinks hI hR (aI μ 13 0 0 (Int32.toNatClampNeg (nI k + 1)))) (fun μ1 hM1 e13 => ⟨_, m_sinks hI hM1 (aI μ 13 0 0 (Int32.toNatClampNeg (nI k + 1))), ?_⟩)
    simp only [rI_ob e13, aI_ob e13, xck_t X1]
  refine G_f z16 ?_
  by_cases z17 : ((aI μ 13 0 0 (Int32.toNatClampNeg (nI k))) &&& 63) = 17
  · refine G_t z17 ?_
    exact law_fin hM (hI) nx (c_first hI hR ) (fun μ1 hM1 e13 => ⟨_, m_first hI hM1 , rfl⟩)
  refine G_f z17 ?_
  by_cases z18 : ((aI μ 13 0 0 (Int32.toNatClampNeg (nI k))) &&& 63) = 18
  · refine G_t z18 (G_ck X1 ?_)
    refine law_fin hM (hI) nx (c_home hI hR (aI μ 13 0 0 (Int32.toNatClampNeg (nI k + 1)))) (fun μ1 hM1 e13 => ⟨_, m_home hI hM1 (aI μ 13 0 0 (Int32.toNatClampNeg (nI k + 1))), ?_⟩)
    simp only [rI_ob e13, aI_ob e13, xck_t X1]
  refine G_f z18 ?_
  by_cases z19 : ((aI μ 13 0 0 (Int32.toNatClampNeg (nI k))) &&& 63) = 19
  · refine G_t z19 ?_
    exact law_fin hM (hI) nx (c_quiet hI hR ) (fun μ1 hM1 e13 => ⟨_, m_quiet hI hM1 , rfl⟩)
  refine G_f z19 ?_
  by_cases z20 : ((aI μ 13 0 0 (Int32.toNatClampNeg (nI k))) &&& 63) = 20
  · refine G_t z20 (G_ck X1 ?_)
    refine law_fin hM (hI) nx (c_when hI hR (aI μ 13 0 0 (Int32.toNatClampNeg (nI k + 1)))) (fun μ1 hM1 e13 => ⟨_, m_when hI hM1 (aI μ 13 0 0 (Int32.toNatClampNeg (nI k + 1))), ?_⟩)
    simp only [rI_ob e13, aI_ob e13, xck_t X1]
  refine G_f z20 ?_
  by_cases z21 : ((aI μ 13 0 0 (Int32.toNatClampNeg (nI k))) &&& 63) = 21
  · refine G_t z21 (G_ck X1 ?_)
    refine law_fin hM (hI) nx (c_lost hI hR (aI μ 13 0 0 (Int32.toNatClampNeg (nI k + 1)))) (fun μ1 hM1 e13 => ⟨_, m_lost hI hM1 (aI μ 13 0 0 (Int32.toNatClampNeg (nI k + 1))), ?_⟩)
    simp only [rI_ob e13, aI_ob e13, xck_t X1]
  refine G_f z21 ?_
  by_cases z22 : ((aI μ 13 0 0 (Int32.toNatClampNeg (nI k))) &&& 63) = 22
  · refine G_t z22 (G_ck X1 ?_)
    refine law_fin hM (hI) nx (OKc_m hR (c_fits hR (aI μ 13 0 0 (Int32.toNatClampNeg (nI k + 1))))) (fun μ1 hM1 e13 => ⟨_, OKm_m hI hM1 (m_fits hI hM1 (aI μ 13 0 0 (Int32.toNatClampNeg (nI k + 1)))), ?_⟩)
    simp only [rI_ob e13, aI_ob e13, xck_t X1]
  refine G_f z22 ?_
  by_cases z23 : ((aI μ 13 0 0 (Int32.toNatClampNeg (nI k))) &&& 63) = 23
  · refine G_t z23 (G_ck X1 ?_)
    refine law_fin hM (hI) nx (OKc_m hR (c_could hR (aI μ 13 0 0 (Int32.toNatClampNeg (nI k + 1))))) (fun μ1 hM1 e13 => ⟨_, OKm_m hI hM1 (m_could hI hM1 (aI μ 13 0 0 (Int32.toNatClampNeg (nI k + 1)))), ?_⟩)
    simp only [rI_ob e13, aI_ob e13, xck_t X1]
  refine G_f z23 ?_
  by_cases z24 : ((aI μ 13 0 0 (Int32.toNatClampNeg (nI k))) &&& 63) = 24
  · refine G_t z24 (G_ck X1 ?_)
    refine law_fin hM (hI) nx (c_best hR (aI μ 13 0 0 (Int32.toNatClampNeg (nI k + 1)))) (fun μ1 hM1 e13 => ⟨_, m_best hI hM1 (aI μ 13 0 0 (Int32.toNatClampNeg (nI k + 1))), ?_⟩)
    simp only [rI_ob e13, aI_ob e13, xck_t X1]
  refine G_f z24 ?_
  by_cases z25 : ((aI μ 13 0 0 (Int32.toNatClampNeg (nI k))) &&& 63) = 25
  · refine G_t z25 (G_ck X1 ?_)
    refine law_fin hM (hI) nx (c_with hR (aI μ 13 0 0 (Int32.toNatClampNeg (nI k + 1)))) (fun μ1 hM1 e13 => ⟨_, m_with hI hM1 (aI μ 13 0 0 (Int32.toNatClampNeg (nI k + 1))), ?_⟩)
    simp only [rI_ob e13, aI_ob e13, xck_t X1]
  refine G_f z25 ?_
  by_cases z26 : ((aI μ 13 0 0 (Int32.toNatClampNeg (nI k))) &&& 63) = 26
  · refine G_t z26 ?_
    exact law_fin hM (hI) nx (c_need hI hR ) (fun μ1 hM1 e13 => ⟨_, m_need hI hM1 , rfl⟩)
  refine G_f z26 ?_
  by_cases z27 : ((aI μ 13 0 0 (Int32.toNatClampNeg (nI k))) &&& 63) = 27
  · refine G_t z27 (G_ck X1 ?_)
    refine law_fin hM (hI) nx (c_latest hI hR (aI μ 13 0 0 (Int32.toNatClampNeg (nI k + 1)))) (fun μ1 hM1 e13 => ⟨_, m_latest hI hM1 (aI μ 13 0 0 (Int32.toNatClampNeg (nI k + 1))), ?_⟩)
    simp only [rI_ob e13, aI_ob e13, xck_t X1]
  refine G_f z27 ?_
  by_cases z28 : ((aI μ 13 0 0 (Int32.toNatClampNeg (nI k))) &&& 63) = 28
  · refine G_t z28 (G_ck X1 ?_)
    refine law_fin hM (hI) nx (OKc_m hR (c_enough hR (aI μ 13 0 0 (Int32.toNatClampNeg (nI k + 1))))) (fun μ1 hM1 e13 => ⟨_, OKm_m hI hM1 (m_enough hI hM1 (aI μ 13 0 0 (Int32.toNatClampNeg (nI k + 1)))), ?_⟩)
    simp only [rI_ob e13, aI_ob e13, xck_t X1]
  refine G_f z28 ?_
  by_cases z29 : ((aI μ 13 0 0 (Int32.toNatClampNeg (nI k))) &&& 63) = 29
  · refine G_t z29 (G_ck X1 ?_)
    refine law_fin hM (hI) nx (OKc_m hR (c_near hR (aI μ 13 0 0 (Int32.toNatClampNeg (nI k + 1))))) (fun μ1 hM1 e13 => ⟨_, OKm_m hI hM1 (m_near hI hM1 (aI μ 13 0 0 (Int32.toNatClampNeg (nI k + 1)))), ?_⟩)
    simp only [rI_ob e13, aI_ob e13, xck_t X1]
  refine G_f z29 ?_
  by_cases z30 : ((aI μ 13 0 0 (Int32.toNatClampNeg (nI k))) &&& 63) = 30
  · refine G_t z30 (G_ck X1 (G_ck X2 ?_))
    refine law_fin hM (hI) nx (OKc_m hR (c_gap hR (aI μ 13 0 0 (Int32.toNatClampNeg (nI k + 1))) (aI μ 13 0 0 (Int32.toNatClampNeg (nI k + 2))))) (fun μ1 hM1 e13 => ⟨_, OKm_m hI hM1 (m_gap hI hM1 (aI μ 13 0 0 (Int32.toNatClampNeg (nI k + 1))) (aI μ 13 0 0 (Int32.toNatClampNeg (nI k + 2)))), ?_⟩)
    simp only [rI_ob e13, aI_ob e13, xck_t X1, xck_t X2]
  refine G_f z30 ?_
  by_cases z31 : ((aI μ 13 0 0 (Int32.toNatClampNeg (nI k))) &&& 63) = 31
  · refine G_t z31 ?_
    exact law_fin hM (hI) nx (OKc_m hR (c_row hR )) (fun μ1 hM1 e13 => ⟨_, OKm_m hI hM1 (m_row hI hM1 ), rfl⟩)
  refine G_f z31 ?_
  by_cases z32 : ((aI μ 13 0 0 (Int32.toNatClampNeg (nI k))) &&& 63) = 32
  · refine G_t z32 ?_
    exact law_fin hM (hI) nx (OKc_m hR (c_dense hR )) (fun μ1 hM1 e13 => ⟨_, OKm_m hI hM1 (m_dense hI hM1 ), rfl⟩)
  refine G_f z32 ?_
  by_cases z33 : ((aI μ 13 0 0 (Int32.toNatClampNeg (nI k))) &&& 63) = 33
  · refine G_t z33 ?_
    exact law_fin hM (hI) nx (OKc_m hR (c_tight hR )) (fun μ1 hM1 e13 => ⟨_, OKm_m hI hM1 (m_tight hI hM1 ), rfl⟩)
  refine G_f z33 ?_
  by_cases z34 : ((aI μ 13 0 0 (Int32.toNatClampNeg (nI k))) &&& 63) = 34
  · refine G_t z34 ?_
    exact law_fin hM (hI) nx (OKc_m hR (c_spare hR )) (fun μ1 hM1 e13 => ⟨_, OKm_m hI hM1 (m_spare hI hM1 ), rfl⟩)
  refine G_f z34 ?_
  by_cases z35 : ((aI μ 13 0 0 (Int32.toNatClampNeg (nI k))) &&& 63) = 35
  · refine G_t z35 (G_ck X1 (G_ck X2 (G_ck X3 ?_)))
    refine law_fin hM (hI) nx (c_save hI hR (aI μ 13 0 0 (Int32.toNatClampNeg (nI k + 1))) (aI μ 13 0 0 (Int32.toNatClampNeg (nI k + 2))) (aI μ 13 0 0 (Int32.toNatClampNeg (nI k + 3)))) (fun μ1 hM1 e13 => ⟨_, m_save hI hM1 (aI μ 13 0 0 (Int32.toNatClampNeg (nI k + 1))) (aI μ 13 0 0 (Int32.toNatClampNeg (nI k + 2))) (aI μ 13 0 0 (Int32.toNatClampNeg (nI k + 3))), ?_⟩)
    simp only [rI_ob e13, aI_ob e13, xck_t X1, xck_t X2, xck_t X3]
  refine G_f z35 ?_
  by_cases z36 : ((aI μ 13 0 0 (Int32.toNatClampNeg (nI k))) &&& 63) = 36
  · refine G_t z36 (G_ck X1 ?_)
    refine law_fin hM (hI) nx (c_worth hI hR (aI μ 13 0 0 (Int32.toNatClampNeg (nI k + 1)))) (fun μ1 hM1 e13 => ⟨_, m_worth hI hM1 (aI μ 13 0 0 (Int32.toNatClampNeg (nI k + 1))), ?_⟩)
    simp only [rI_ob e13, aI_ob e13, xck_t X1]
  refine G_f z36 ?_
  by_cases z37 : ((aI μ 13 0 0 (Int32.toNatClampNeg (nI k))) &&& 63) = 37
  · refine G_t z37 (G_ck X1 (G_ck X2 ?_))
    refine law_fin hM (AI_see hI (aI μ 13 0 0 (Int32.toNatClampNeg (nI k + 1))) (aI μ 13 0 0 (Int32.toNatClampNeg (nI k + 2)))) nx (c_see hI hR (aI μ 13 0 0 (Int32.toNatClampNeg (nI k + 1))) (aI μ 13 0 0 (Int32.toNatClampNeg (nI k + 2)))) (fun μ1 hM1 e13 => ⟨_, m_see hI hM1 (aI μ 13 0 0 (Int32.toNatClampNeg (nI k + 1))) (aI μ 13 0 0 (Int32.toNatClampNeg (nI k + 2))), ?_⟩)
    simp only [rI_ob e13, aI_ob e13, xck_t X1, xck_t X2]
  refine G_f z37 ?_
  by_cases z38 : ((aI μ 13 0 0 (Int32.toNatClampNeg (nI k))) &&& 63) = 38
  · refine G_t z38 ?_
    exact law_fin hM (hI) nx (c_holes hI hR ) (fun μ1 hM1 e13 => ⟨_, m_holes hI hM1 , rfl⟩)
  refine G_f z38 ?_
  by_cases z39 : ((aI μ 13 0 0 (Int32.toNatClampNeg (nI k))) &&& 63) = 39
  · refine G_t z39 ?_
    exact law_fin hM (hI) nx (c_look hI hR ) (fun μ1 hM1 e13 => ⟨_, m_look hI hM1 , rfl⟩)
  refine G_f z39 ?_
  by_cases z40 : ((aI μ 13 0 0 (Int32.toNatClampNeg (nI k))) &&& 63) = 40
  · refine G_t z40 (G_ck X1 (G_ck X2 (G_ck X3 ?_)))
    refine law_fin hM (hI) nx (c_chance hI hR (aI μ 13 0 0 (Int32.toNatClampNeg (nI k + 1))) (aI μ 13 0 0 (Int32.toNatClampNeg (nI k + 2))) (aI μ 13 0 0 (Int32.toNatClampNeg (nI k + 3)))) (fun μ1 hM1 e13 => ⟨_, m_chance hI hM1 (aI μ 13 0 0 (Int32.toNatClampNeg (nI k + 1))) (aI μ 13 0 0 (Int32.toNatClampNeg (nI k + 2))) (aI μ 13 0 0 (Int32.toNatClampNeg (nI k + 3))), ?_⟩)
    simp only [rI_ob e13, aI_ob e13, xck_t X1, xck_t X2, xck_t X3]
  refine G_f z40 ?_
  by_cases z41 : ((aI μ 13 0 0 (Int32.toNatClampNeg (nI k))) &&& 63) = 41
  · refine G_t z41 (G_ck X1 (G_ck X2 (G_ck X3 (G_ck X4 ?_))))
    rw [L_rests]
    cases hr : aRests (aI μ 13 0 0 (Int32.toNatClampNeg (nI k + 1))) (aI μ 13 0 0 (Int32.toNatClampNeg (nI k + 2))) (aI μ 13 0 0 (Int32.toNatClampNeg (nI k + 3))) (aI μ 13 0 0 (Int32.toNatClampNeg (nI k + 4))) with
    | none =>
      have hM2 : RM A (sI μ 12 0 0 1) := RM_q hI hM (QM_s (.inl rfl))
      have hR2 : RC A (sI μ 12 0 0 1) := RC_ob (fun t j ht => sI_ne (by omega)) hR
      have e13 : (sI μ 12 0 0 1) 13 0 = μ 13 0 := sI_ne (by omega)
      simp only [bI_i, vI_eq, xck_t X1, xck_t X2, xck_t X3, xck_t X4]
      rw [m_rests, hr]
      show G (bI (xri 0 (sI μ 12 0 0 1)) _)
      rw [bI_i, f12_thrown_e, k12_thrown, rI_sI, bI_i]
      refine G_t (by simp) (G_f (by decide) ?_)
      exact nx A _ ⟨hI, hR2, hM2⟩ e13
    | some a =>
      have e13 : (pL μ 14 0 0 0 a.toInt64) 13 0 = μ 13 0 := pL_ne (by omega)
      have hM1 : RM A (pL μ 14 0 0 0 a.toInt64) := RM_ob (pL_ne (by omega)) hM
      have hM2 : RM A (sI (pL μ 14 0 0 0 a.toInt64) 12 0 0 0) := RM_q hI hM1 (QM_s (.inl rfl))
      have hR2 : RC A (sI (pL μ 14 0 0 0 a.toInt64) 12 0 0 0) := RC_ob (fun t j ht => by rw [sI_ne (by omega), pL_ne (by omega)]) hR
      have e14 : (sI (pL μ 14 0 0 0 a.toInt64) 12 0 0 0) 13 0 = μ 13 0 := by rw [sI_ne (by omega)]; exact e13
      have hx : aL (sI (pL μ 14 0 0 0 a.toInt64) 12 0 0 0) 14 0 0 (Int32.toNatClampNeg 0) = a.toInt64 := by rw [aL_sI, aL_pL]; exact if_pos ⟨rfl, rfl, rfl, rfl⟩
      simp only [bI_i, vI_eq, rI_ob e13, aI_ob e13, xck_t X1, xck_t X2, xck_t X3, xck_t X4]
      rw [m_rests, hr]
      show G (bI (xri a (sI (pL μ 14 0 0 0 a.toInt64) 12 0 0 0)) _)
      rw [bI_i, f12_thrown_e, k12_thrown, rI_sI, bI_i]
      refine G_t (by simp) (G_t (by simp) (G_ck (by decide) (G_t ?_ ?_)))
      · rw [hx]; exact (lg_cmp_eq _ _).mpr rfl
      · exact nx A _ ⟨hI, hR2, hM2⟩ e14
  refine G_f z41 ?_
  by_cases z42 : ((aI μ 13 0 0 (Int32.toNatClampNeg (nI k))) &&& 63) = 42
  · refine G_t z42 (G_ck X1 (G_ck X2 (G_ck X3 ?_)))
    refine law_fin hM (hI) nx (c_balls hI hR (aI μ 13 0 0 (Int32.toNatClampNeg (nI k + 1))) (aI μ 13 0 0 (Int32.toNatClampNeg (nI k + 2))) (aI μ 13 0 0 (Int32.toNatClampNeg (nI k + 3)))) (fun μ1 hM1 e13 => ⟨_, m_balls hI hM1 (aI μ 13 0 0 (Int32.toNatClampNeg (nI k + 1))) (aI μ 13 0 0 (Int32.toNatClampNeg (nI k + 2))) (aI μ 13 0 0 (Int32.toNatClampNeg (nI k + 3))), ?_⟩)
    simp only [rI_ob e13, aI_ob e13, xck_t X1, xck_t X2, xck_t X3]
  refine G_f z42 ?_
  by_cases z43 : ((aI μ 13 0 0 (Int32.toNatClampNeg (nI k))) &&& 63) = 43
  · refine G_t z43 (G_ck X1 (G_ck X2 ?_))
    by_cases y : aI μ 13 0 0 (Int32.toNatClampNeg (nI k + 2)) = 0
    · refine G_t y ?_
      refine law_fin hM (AI_mark hI (aI μ 13 0 0 (Int32.toNatClampNeg (nI k + 1))) 0) nx (c_mark hI hR (aI μ 13 0 0 (Int32.toNatClampNeg (nI k + 1))) 0) (fun μ1 hM1 e13 => ⟨_, m_mark hI hM1 (aI μ 13 0 0 (Int32.toNatClampNeg (nI k + 1))) 0, ?_⟩)
      simp only [rI_ob e13, aI_ob e13, xck_t X1, xck_t X2]
      rw [xite_t y]
    · refine G_f y ?_
      refine law_fin hM (AI_mark hI (aI μ 13 0 0 (Int32.toNatClampNeg (nI k + 1))) 1) nx (c_mark hI hR (aI μ 13 0 0 (Int32.toNatClampNeg (nI k + 1))) 1) (fun μ1 hM1 e13 => ⟨_, m_mark hI hM1 (aI μ 13 0 0 (Int32.toNatClampNeg (nI k + 1))) 1, ?_⟩)
      simp only [rI_ob e13, aI_ob e13, xck_t X1, xck_t X2]
      rw [xite_f y]
  refine G_f z43 ?_
  by_cases z44 : ((aI μ 13 0 0 (Int32.toNatClampNeg (nI k))) &&& 63) = 44
  · refine G_t z44 (G_ck X1 ?_)
    refine law_fin hM (hI) nx (OKc_m hR (c_count hR (aI μ 13 0 0 (Int32.toNatClampNeg (nI k + 1))))) (fun μ1 hM1 e13 => ⟨_, OKm_m hI hM1 (m_count hI hM1 (aI μ 13 0 0 (Int32.toNatClampNeg (nI k + 1)))), ?_⟩)
    simp only [rI_ob e13, aI_ob e13, xck_t X1]
  refine G_f z44 ?_
  exact G_v (nx A μ ⟨hI, hR, hM⟩ rfl)
theorem law_all {L : Nat} (hL2 : L < 2 ^ 29) : ∀ d n k A μ, rI μ 13 0 0 = nI L → L ≤ k + 7 * d → k ≤ L + 7 → d < n → JR A μ → G (hL_law_23 n (nI k) μ) := by
  intro d
  induction d with
  | zero =>
    intro n k A μ hL h1 h2 hn hJ
    obtain ⟨n, rfl⟩ : ∃ q, n = q + 1 := ⟨n - 1, by omega⟩
    rw [hL_law_23_s]
    refine G_t ?_ ⟨μ, rfl⟩
    rw [hL, lt7 (by omega) (by omega)]; omega
  | succ d ih =>
    intro n k A μ hL h1 h2 hn hJ
    obtain ⟨n, rfl⟩ : ∃ q, n = q + 1 := ⟨n - 1, by omega⟩
    by_cases he : L < k + 7
    · rw [hL_law_23_s]
      refine G_t ?_ ⟨μ, rfl⟩
      rw [hL, lt7 (by omega) (by omega)]; exact he
    · refine law_step hJ hL (by omega) (by omega) (fun A2 μ2 hJ2 e13 => ?_)
      rw [show nI k + 7 = nI (k + 7) from nI_add k 7]
      exact ih n (k + 7) A2 μ2 ((rI_ob e13 0).trans hL) (by omega) (by omega) (by omega) hJ2
