/-! THE PURE PART: the lines of an EVENING, on both sides -/
section
variable {μ ν : XM} {T : TP} {m i : Nat} {h : HS} {e : EV}
/-- minute and ask -/
theorem L_plain {w : Nat} (hC : CO T m i μ) (hE : CE 1 e μ) (hO : RO T m i ν) (hD : REd e ν) (hI : EI h e) (hn : e.1 < 40) (hw : w = 0 ∨ w = 2) (hk : kt T i = 144 + w) : LEo T m i h e μ ν (f1_readLine 1 0 μ) (KE e w i ν) := by
  obtain ⟨μ1, a1, a2, a3⟩ := c_lineHead hC hk (by omega) hE.1 hn
  have hi := CO_lt hC (by omega)
  obtain ⟨b1, b2'⟩ := RO_ad hO hi
  have hp : 165 ≤ 165 + 4 * e.1 ∧ 165 + 4 * e.1 + 3 < 330 := by omega
  have e0 : rI μ1 1 1 0 = nI e.1 := by rw [rI_ob (a2 1 1 (by omega)), rI_pI]; exact hE.1
  have n1 : ¬ nI w = 1 := fun q => by
    have := (nI_eq (b := 1) (show w < 2 ^ 31 by omega) (by omega)).mp q
    omega
  have n3 : ¬ nI w = 3 := fun q => by
    have := (nI_eq (b := 3) (show w < 2 ^ 31 by omega) (by omega)).mp q
    omega
  have n145 : ¬ nI (144 + w) = 145 := fun q => by
    have := (nI_eq (b := 145) (show 144 + w < 2 ^ 31 by omega) (by omega)).mp q
    omega
  have n147 : ¬ nI (144 + w) = 147 := fun q => by
    have := (nI_eq (b := 147) (show 144 + w < 2 ^ 31 by omega) (by omega)).mp q
    omega
  obtain ⟨c1, c2⟩ := RO_p21 (q := 165 + 4 * e.1) (x := nI w) b1 (by omega)
  obtain ⟨d1, d2⟩ := RO_p21 (q := 165 + 4 * e.1 + 1) (x := 0) c1 (by omega)
  obtain ⟨f1, f2⟩ := RO_p21 (q := 165 + 4 * e.1 + 2) (x := 0) d1 (by omega)
  obtain ⟨g1, g2⟩ := RO_p21 (q := 165 + 4 * e.1 + 3) (x := 0) f1 (by omega)
  have fr := FR_t b2' (FR_t c2 (FR_t d2 (FR_t f2 g2)))
  have hr : ∀ k, KE e w i ν k = bV (f12_takeSign 59 (pI (pI (pI (pI (ad ν i) 12 0 21 (165 + 4 * e.1) (nI w)) 12 0 21 (165 + 4 * e.1 + 1) 0) 12 0 21 (165 + 4 * e.1 + 2) 0) 12 0 21 (165 + 4 * e.1 + 3) 0)) fun m13 => k (nI (e.1 + 1)) m13 := fun k => by
    rw [KE_e rfl hn, xite_f n1, xite_f n3, show (20000 : Nat) = 19998 + 1 + 1 from rfl, h12_readEvening_34_s, xck_t (xin_a (show 330 < 2 ^ 31 by omega) (by omega)), nI_clamp (by omega), mS_eq, xite_f n1, show nI (165 + 4 * e.1) + 2 = nI (165 + 4 * e.1 + 2) from nI_add _ 2, h12_readEvening_57_s, xck_t (xin_a (show 330 < 2 ^ 31 by omega) (by omega)), nI_clamp (by omega), mS_eq, xite_f n1, show nI (165 + 4 * e.1) + 3 = nI (165 + 4 * e.1 + 3) from nI_add _ 3, xck_t (xin_a (show 330 < 2 ^ 31 by omega) (by omega)), nI_clamp (by omega), mS_eq, bV_v]
  have hc : f1_readLine 1 0 μ = h1_readLine_149 (19998 + 1) 1 1 μ1 := by
    rw [a3, xite_f n145, xite_f n147, show (20000 : Nat) = (19998 + 1) + 1 from rfl, h90_n n145]
  rcases J_semi (k := 19998) a1 g1 e0 with ⟨F, q1, q2, q3⟩ | ⟨q1, ⟨μ3, q2, q3, q4⟩, q5⟩
  · obtain ⟨z1, z2⟩ := ft_F q1.1 q1.2 (μ := pI (pI (pI (pI (ad ν i) 12 0 21 (165 + 4 * e.1) (nI w)) 12 0 21 (165 + 4 * e.1 + 1) 0) 12 0 21 (165 + 4 * e.1 + 2) 0) 12 0 21 (165 + 4 * e.1 + 3) 0)
    refine .inl ⟨F, q1, ⟨_, hc.trans q2, fc_7, FV_t (FV_t FV_p (FTp_V a2)) (FTp_V FTp_c)⟩, nI (e.1 + 1), _, fun k => ?_, z1, FR_t fr z2⟩
    rw [hr k, q3, bV_v]
  · obtain ⟨z1, z2⟩ := RO_ad g1 q1
    have t11 : μ3 1 1 = (sI (pI μ 1 1 1 e.1 (nI (144 + w))) 1 1 0 (nI (e.1 + 1))) 1 1 := by
      rw [q4 1 1 (by omega)]
      have := FTp_sI a2 (t0 := 1) (i0 := 1) (j := 0) (x := nI (e.1 + 1)) 1 1 (by omega)
      exact this
    refine .inr ⟨i + 1 + 1, upE e w 0 0 0, by omega, EI_up hI hn (by omega) (fun q => by omega) (fun q => by omega), ⟨μ3, hc.trans q2, q3, CE_up hE ?_ (fun l => ?_) (fun l hl => ?_) (fun q => by omega) (fun q => by omega), FV_t (FV_t (FV_t FV_p (FTp_V a2)) FV_s) (FTp_V q4)⟩, _, fun k => ?_, z1, REd_up hD (fun k hk => ?_) ?_ (fun q => by omega) (fun q => by omega), FR_t fr z2⟩
    · rw [rI_ob t11, rI_sI]; simp
    · rw [aI_ob t11, aI_sI, aI_pI]; simp
    · rw [aI_ob t11, aI_ob t11, aI_ob t11, aI_sI, aI_sI, aI_sI, aI_pI, aI_pI, aI_pI]; simp
    · rw [hr k, q5, bV_v, upE_n]
    · unfold ad; rw [aI_sI, aI_pI, aI_pI, aI_pI, aI_pI, aI_sI]
      simp only [show ¬ k = 165 + 4 * e.1 + 3 by omega, show ¬ k = 165 + 4 * e.1 + 2 by omega, show ¬ k = 165 + 4 * e.1 + 1 by omega, show ¬ k = 165 + 4 * e.1 by omega, and_false, ↓reduceIte]
    · unfold ad; rw [aI_sI, aI_pI, aI_pI, aI_pI, aI_pI]
      simp only [show ¬ 165 + 4 * e.1 = 165 + 4 * e.1 + 3 by omega, show ¬ 165 + 4 * e.1 = 165 + 4 * e.1 + 2 by omega, show ¬ 165 + 4 * e.1 = 165 + 4 * e.1 + 1 by omega, and_false, and_self, ↓reduceIte]
/-- stop -/
theorem L_stop (hC : CO T m i μ) (hH : CH 0 h μ) (hNm : CNm h 0 μ) (hE : CE 1 e μ) (hO : RO T m i ν) (hD : REd e ν) (hR : RN h ν) (hN : NI h) (hI : EI h e) (hn : e.1 < 40) (hk : kt T i = 144 + 3) : LEo T m i h e μ ν (f1_readLine 1 0 μ) (KE e 3 i ν) := by
  obtain ⟨μ1, a1, a2, a3⟩ := c_lineHead hC hk (by omega) hE.1 hn
  have hi := CO_lt hC (by omega)
  obtain ⟨b1, b2'⟩ := RO_ad hO hi
  have e0 : rI μ1 1 1 0 = nI e.1 := by rw [rI_ob (a2 1 1 (by omega)), rI_pI]; exact hE.1
  have k20 : μ1 2 0 = μ 2 0 := by rw [a2 2 0 (by omega), pI_ne (by omega)]
  obtain ⟨c1, c2⟩ := RO_p21 (q := 165 + 4 * e.1) (x := nI 3) b1 (by omega)
  have hR1 : RN h (pI (ad ν i) 12 0 21 (165 + 4 * e.1) (nI 3)) := RN_F (FR_t b2' c2) hR
  have hH1 : CH 0 h μ1 := CH_ob k20 hH
  have hc : f1_readLine 1 0 μ = bI (f1_readName_m 1 0 (nI (hM h)) 1 μ1) fun r13 m12 => h1_readLine_149 (19998 + 1) 1 r13 m12 := by
    rw [a3, xite_f (show ¬ nI (144 + 3) = 145 by decide), xite_t (show nI (144 + 3) = 147 from rfl), CH_M hH1]
    congr 1; funext r m12; rw [vI_eq, show (20000 : Nat) = (19998 + 1) + 1 from rfl, h1_readLine_90_s, xite_f (show ¬ nI (144 + 3) = 145 by decide)]
  have hr : ∀ k, KE e 3 i ν k = bV (bI (f12_takeTold 40 (pI (ad ν i) 12 0 21 (165 + 4 * e.1) (nI 3))) fun r5 m4 => h12_readEvening_34 20000 (nI (165 + 4 * e.1)) (nI 3) r5 (nI (165 + 4 * e.1 + 1)) m4) fun m11 => bV (f12_takeSign 59 m11) fun m13 => k (nI (e.1 + 1)) m13 := fun k => by
    rw [KE_e rfl hn, xite_f (show ¬ nI 3 = 1 by decide), xite_t (show nI 3 = 3 from rfl)]
  rcases J_told_m a1 hH1 (CNm_ob k20 hNm) hn e0 c1 hR1 hN with ⟨F, y1, y2, y3⟩ | ⟨j, y1, y2, ⟨μ2, y3, y4, y5⟩, y6⟩
  · have hF := (ft_F (μ := pI (ad ν i) 12 0 21 (165 + 4 * e.1) (nI 3)) y1.1 y1.2)
    obtain ⟨ν', v1, v2, v3⟩ := fl_re34 (n := 19998) (p := 165 + 4 * e.1) (w := nI 3) (s0 := 0) hF.1 (by omega)
    refine .inl ⟨F, y1, ⟨fc μ1 F, ?_, fc_7, FV_t (FV_t FV_p (FTp_V a2)) (FTp_V FTp_c)⟩, nI (e.1 + 1), ν', fun k => ?_, v2, FR_t b2' (FR_t c2 (FR_t hF.2 v3))⟩
    · rw [hc, y2, bI_i, h149_0]
    · rw [hr k, y3, bI_i, show (20000 : Nat) = 19998 + 2 from rfl]
      exact KE_F v2 v1 k
  · obtain ⟨d1, d2⟩ := RO_ad c1 y2
    obtain ⟨f1, f2⟩ := RO_p21 (q := 165 + 4 * e.1 + 1) (x := nI j) d1 (by omega)
    obtain ⟨g1, g2⟩ := RO_p21 (q := 165 + 4 * e.1 + 2) (x := 0) f1 (by omega)
    obtain ⟨o1, o2⟩ := RO_p21 (q := 165 + 4 * e.1 + 3) (x := 0) g1 (by omega)
    have fr := FR_t b2' (FR_t c2 (FR_t d2 (FR_t f2 (FR_t g2 o2))))
    have e2 : rI μ2 1 1 0 = nI e.1 := by rw [rI_ob (y5 1 1 (by omega)), rI_pI]; exact e0
    have n1 : ¬ nI 3 = 1 := by decide
    have hr2 : ∀ k, KE e 3 i ν k = bV (f12_takeSign 59 (pI (pI (pI (ad (pI (ad ν i) 12 0 21 (165 + 4 * e.1) (nI 3)) (i + 1)) 12 0 21 (165 + 4 * e.1 + 1) (nI j)) 12 0 21 (165 + 4 * e.1 + 2) 0) 12 0 21 (165 + 4 * e.1 + 3) 0)) fun m13 => k (nI (e.1 + 1)) m13 := fun k => by
      rw [hr k, y6, bI_i, show (20000 : Nat) = 19998 + 1 + 1 from rfl, h12_readEvening_34_s, xck_t (xin_a (show 330 < 2 ^ 31 by omega) (by omega)), nI_clamp (by omega), mS_eq, xite_f n1, show nI (165 + 4 * e.1) + 2 = nI (165 + 4 * e.1 + 2) from nI_add _ 2, h12_readEvening_57_s, xck_t (xin_a (show 330 < 2 ^ 31 by omega) (by omega)), nI_clamp (by omega), mS_eq, xite_f n1, show nI (165 + 4 * e.1) + 3 = nI (165 + 4 * e.1 + 3) from nI_add _ 3, xck_t (xin_a (show 330 < 2 ^ 31 by omega) (by omega)), nI_clamp (by omega), mS_eq, bV_v]
    have hc2 : f1_readLine 1 0 μ = h1_readLine_149 (19998 + 1) 1 1 μ2 := by rw [hc, y3, bI_i]
    have t11 : μ2 1 1 = (pI (pI μ 1 1 1 e.1 (nI (144 + 3))) 1 1 2 e.1 (nI j)) 1 1 := (y5 1 1 (by omega)).trans (FTp_p1 a2 1 1 (by omega))
    rcases J_semi (k := 19998) y4 o1 e2 with ⟨F, q1, q2, q3⟩ | ⟨q1, ⟨μ3, q2, q3, q4⟩, q5⟩
    · obtain ⟨z1, z2⟩ := ft_F q1.1 q1.2 (μ := pI (pI (pI (ad (pI (ad ν i) 12 0 21 (165 + 4 * e.1) (nI 3)) (i + 1)) 12 0 21 (165 + 4 * e.1 + 1) (nI j)) 12 0 21 (165 + 4 * e.1 + 2) 0) 12 0 21 (165 + 4 * e.1 + 3) 0)
      refine .inl ⟨F, q1, ⟨_, hc2.trans q2, fc_7, FV_t (FV_t (FV_t FV_p (FTp_V a2)) (FV_t FV_p (FTp_V y5))) (FTp_V FTp_c)⟩, nI (e.1 + 1), _, fun k => ?_, z1, FR_t fr z2⟩
      rw [hr2 k, q3, bV_v]
    · obtain ⟨z1, z2⟩ := RO_ad o1 q1
      have s11 : ∀ s l, aI μ3 1 1 s l = aI (pI (pI μ 1 1 1 e.1 (nI (144 + 3))) 1 1 2 e.1 (nI j)) 1 1 s l := fun s l => by
        rw [aI_ob (q4 1 1 (by omega)), aI_sI, aI_ob t11]
      refine .inr ⟨i + 1 + 1 + 1, upE e 3 j 0 0, by omega, EI_up hI hn (by omega) (fun _ => y1) (fun q => absurd q (by decide)), ⟨μ3, hc2.trans q2, q3, CE_up hE ?_ (fun l => ?_) (fun l hl => ?_) (fun _ => ?_) (fun q => absurd q (by decide)), FV_t (FV_t (FV_t (FV_t FV_p (FTp_V a2)) (FV_t FV_p (FTp_V y5))) FV_s) (FTp_V q4)⟩, _, fun k => ?_, z1, REd_up hD (fun k hk => ?_) ?_ (fun _ => ?_) (fun q => absurd q (by decide)), FR_t fr z2⟩
      · rw [rI_ob (q4 1 1 (by omega)), rI_sI]; simp
      · rw [s11, aI_pI, aI_pI]; simp
      · rw [s11, s11, s11, aI_pI, aI_pI, aI_pI, aI_pI, aI_pI, aI_pI]; simp [hl]
      · rw [s11, aI_pI]; simp
      · rw [hr2 k, q5, bV_v, upE_n]
      · unfold ad; simp only [aI_sI, aI_pI, show ¬ k = 165 + 4 * e.1 + 3 by omega, show ¬ k = 165 + 4 * e.1 + 2 by omega, show ¬ k = 165 + 4 * e.1 + 1 by omega, show ¬ k = 165 + 4 * e.1 by omega, and_false, ↓reduceIte]
      · unfold ad; simp only [aI_sI, aI_pI, show ¬ 165 + 4 * e.1 = 165 + 4 * e.1 + 3 by omega, show ¬ 165 + 4 * e.1 = 165 + 4 * e.1 + 2 by omega, show ¬ 165 + 4 * e.1 = 165 + 4 * e.1 + 1 by omega, and_false, and_self, ↓reduceIte]
      · unfold ad; simp only [aI_sI, aI_pI, show ¬ 165 + 4 * e.1 + 1 = 165 + 4 * e.1 + 3 by omega, show ¬ 165 + 4 * e.1 + 1 = 165 + 4 * e.1 + 2 by omega, and_false, and_self, ↓reduceIte]
/-- cast -/
theorem L_cast (hC : CO T m i μ) (hH : CH 0 h μ) (hNm : CNm h 0 μ) (hE : CE 1 e μ) (hO : RO T m i ν) (hD : REd e ν) (hR : RN h ν) (hN : NI h) (hI : EI h e) (hn : e.1 < 40) (hk : kt T i = 144 + 1) : LEo T m i h e μ ν (f1_readLine 1 0 μ) (KE e 1 i ν) := by
  obtain ⟨μ1, a1, a2, a3⟩ := c_lineHead hC hk (by omega) hE.1 hn
  have hi := CO_lt hC (by omega)
  obtain ⟨b1, b2'⟩ := RO_ad hO hi
  have e0 : rI μ1 1 1 0 = nI e.1 := by rw [rI_ob (a2 1 1 (by omega)), rI_pI]; exact hE.1
  have k20 : μ1 2 0 = μ 2 0 := by rw [a2 2 0 (by omega), pI_ne (by omega)]
  obtain ⟨c1, c2⟩ := RO_p21 (q := 165 + 4 * e.1) (x := nI 1) b1 (by omega)
  have hR1 : RN h (pI (ad ν i) 12 0 21 (165 + 4 * e.1) (nI 1)) := RN_F (FR_t b2' c2) hR
  have hH1 : CH 0 h μ1 := CH_ob k20 hH
  have hN1 : CNm h 0 μ1 := CNm_ob k20 hNm
  have hc : f1_readLine 1 0 μ = bI (f1_readName_m 1 0 (nI (hM h)) 1 μ1) fun r10 m9 => h1_readLine_90 (19998 + 2) 1 0 145 r10 m9 := by
    rw [a3, xite_t (show nI (144 + 1) = 145 from rfl), CH_M hH1]
    congr 1; funext r m9; rw [vI_eq]; rfl
  have hr : ∀ k, KE e 1 i ν k = bV (bI (f12_takeTold 40 (pI (ad ν i) 12 0 21 (165 + 4 * e.1) (nI 1))) fun r5 m4 => h12_readEvening_34 20000 (nI (165 + 4 * e.1)) (nI 1) r5 (nI (165 + 4 * e.1 + 1)) m4) fun m11 => bV (f12_takeSign 59 m11) fun m13 => k (nI (e.1 + 1)) m13 := fun k => by
    rw [KE_e rfl hn, xite_t (show nI 1 = 1 from rfl)]
  rcases J_told_m a1 hH1 hN1 hn e0 c1 hR1 hN with ⟨F, y1, y2, y3⟩ | ⟨j, y1, y2, ⟨μ2, y3, y4, y5⟩, y6⟩
  · have hF := (ft_F (μ := pI (ad ν i) 12 0 21 (165 + 4 * e.1) (nI 1)) y1.1 y1.2)
    obtain ⟨ν', v1, v2, v3⟩ := fl_re34 (n := 19998) (p := 165 + 4 * e.1) (w := nI 1) (s0 := 0) hF.1 (by omega)
    refine .inl ⟨F, y1, ⟨fc μ1 F, ?_, fc_7, FV_t (FV_t FV_p (FTp_V a2)) (FTp_V FTp_c)⟩, nI (e.1 + 1), ν', fun k => ?_, v2, FR_t b2' (FR_t c2 (FR_t hF.2 v3))⟩
    · rw [hc, y2, bI_i, h90_0]
    · rw [hr k, y3, bI_i, show (20000 : Nat) = 19998 + 2 from rfl]
      exact KE_F v2 v1 k
  -- the belt
  obtain ⟨d1, d2⟩ := RO_ad c1 y2
  obtain ⟨f1, f2⟩ := RO_p21 (q := 165 + 4 * e.1 + 1) (x := nI j) d1 (by omega)
  have fr2 := FR_t b2' (FR_t c2 (FR_t d2 f2))
  have e2 : rI μ2 1 1 0 = nI e.1 := by rw [rI_ob (y5 1 1 (by omega)), rI_pI]; exact e0
  have k22 : μ2 2 0 = μ1 2 0 := by rw [y5 2 0 (by omega), pI_ne (by omega)]
  have hH2 : CH 0 h μ2 := CH_ob k22 hH1
  have hN2 : CNm h 0 μ2 := CNm_ob k22 hN1
  have t2 : μ2 1 1 = (pI (pI μ 1 1 1 e.1 (nI (144 + 1))) 1 1 2 e.1 (nI j)) 1 1 := (y5 1 1 (by omega)).trans (FTp_p1 a2 1 1 (by omega))
  have V2 : FV μ μ2 := FV_t (FV_t FV_p (FTp_V a2)) (FV_t FV_p (FTp_V y5))
  have hc2 : f1_readLine 1 0 μ = bI (f1_readName_b 1 0 (nI (hB h)) 1 μ2) fun r3 m2 => xite (r3 = 0) (h1_readLine_149 (19998 + 1) 1 0 m2) (bI (f1_readName_g 1 0 (rI m2 2 0 0) 1 m2) fun r6 m5 => xite (r6 = 0) (h1_readLine_149 (19998 + 1) 1 0 m5) (h1_readLine_149 (19998 + 1) 1 1 m5)) := by
    rw [hc, y3, bI_i, show (19998 + 2 : Nat) = (19998 + 1) + 1 from rfl, h1_readLine_90_s, xite_t rfl, xite_f (by decide), CH_B hH2]
    simp only [vI_eq]
  have hr2 : ∀ k, KE e 1 i ν k = bV (bI (f12_takeTold 20 (pI (ad (pI (ad ν i) 12 0 21 (165 + 4 * e.1) (nI 1)) (i + 1)) 12 0 21 (165 + 4 * e.1 + 1) (nI j))) fun r3 m2 => h12_readEvening_57 (19998 + 1) (nI (165 + 4 * e.1)) 1 r3 (nI (165 + 4 * e.1 + 2)) m2) fun m11 => bV (f12_takeSign 59 m11) fun m13 => k (nI (e.1 + 1)) m13 := fun k => by
    rw [hr k, y6, bI_i, show (20000 : Nat) = 19998 + 1 + 1 from rfl, h12_readEvening_34_s, xck_t (xin_a (show 330 < 2 ^ 31 by omega) (by omega)), nI_clamp (by omega), mS_eq, xite_t (show nI 1 = 1 from rfl), show nI (165 + 4 * e.1) + 2 = nI (165 + 4 * e.1 + 2) from nI_add _ 2]
    rfl
  clear hc hr a3
  rcases J_told_b y4 hH2 hN2 hn e2 f1 (RN_F (FR_t d2 f2) hR1) hN with ⟨F, x1, x2, x3⟩ | ⟨jb, x1, x2, ⟨μ3, x3, x4, x5⟩, x6⟩
  · have hF := (ft_F (μ := pI (ad (pI (ad ν i) 12 0 21 (165 + 4 * e.1) (nI 1)) (i + 1)) 12 0 21 (165 + 4 * e.1 + 1) (nI j)) x1.1 x1.2)
    obtain ⟨ν', v1, v2, v3⟩ := fl_re57 (n := 19998) (p := 165 + 4 * e.1) (w := 1) (s0 := 0) hF.1 (by omega)
    refine .inl ⟨F, x1, ⟨fc μ2 F, ?_, fc_7, FV_t V2 (FTp_V FTp_c)⟩, nI (e.1 + 1), ν', fun k => ?_, v2, FR_t fr2 (FR_t hF.2 v3)⟩
    · rw [hc2, x2, bI_i, xite_t rfl, h149_0]
    · rw [hr2 k, x3, bI_i]
      exact KE_F v2 v1 k
  -- the guest
  obtain ⟨g1, g2⟩ := RO_ad f1 x2
  obtain ⟨o1, o2⟩ := RO_p21 (q := 165 + 4 * e.1 + 2) (x := nI jb) g1 (by omega)
  have fr3 := FR_t fr2 (FR_t g2 o2)
  have e3 : rI μ3 1 1 0 = nI e.1 := by rw [rI_ob (x5 1 1 (by omega)), rI_pI]; exact e2
  have k23 : μ3 2 0 = μ2 2 0 := by rw [x5 2 0 (by omega), pI_ne (by omega)]
  have hH3 : CH 0 h μ3 := CH_ob k23 hH2
  have hN3 : CNm h 0 μ3 := CNm_ob k23 hN2
  have s3 : ∀ s l, aI μ3 1 1 s l = aI (pI (pI (pI μ 1 1 1 e.1 (nI (144 + 1))) 1 1 2 e.1 (nI j)) 1 1 3 e.1 (nI jb)) 1 1 s l := fun s l => by
    rw [aI_ob (x5 1 1 (by omega)), aI_pI, aI_pI, aI_ob t2]
  have V3 : FV μ μ3 := FV_t V2 (FV_t FV_p (FTp_V x5))
  have hc3 : f1_readLine 1 0 μ = bI (f1_readName_g 1 0 (nI (hG h)) 1 μ3) fun r6 m5 => xite (r6 = 0) (h1_readLine_149 (19998 + 1) 1 0 m5) (h1_readLine_149 (19998 + 1) 1 1 m5) := by
    rw [hc2, x3, bI_i, xite_f (by decide), CH_G hH3]
  have hr3 : ∀ k, KE e 1 i ν k = bV (bI (f12_takeTold 0 (pI (ad (pI (ad (pI (ad ν i) 12 0 21 (165 + 4 * e.1) (nI 1)) (i + 1)) 12 0 21 (165 + 4 * e.1 + 1) (nI j)) (i + 1 + 1)) 12 0 21 (165 + 4 * e.1 + 2) (nI jb))) fun r3 m2 => xrv (pI m2 12 0 21 (165 + 4 * e.1 + 3) r3)) fun m11 => bV (f12_takeSign 59 m11) fun m13 => k (nI (e.1 + 1)) m13 := fun k => by
    rw [hr2 k, x6, bI_i, h12_readEvening_57_s, xck_t (xin_a (show 330 < 2 ^ 31 by omega) (by omega)), nI_clamp (by omega), mS_eq, xite_t rfl, show nI (165 + 4 * e.1) + 3 = nI (165 + 4 * e.1 + 3) from nI_add _ 3]
    simp only [mS_eq, xck_t (xin_a (show 330 < 2 ^ 31 by omega) (show 165 + 4 * e.1 + 3 < 330 by omega)), nI_clamp (show 165 + 4 * e.1 + 3 < 2 ^ 31 by omega)]
  clear hc2 hr2
  rcases J_told_g x4 hH3 hN3 hn e3 o1 (RN_F fr3 hR) hN with ⟨F, p1, p2, p3⟩ | ⟨jg, p1, p2, ⟨μ4, p3, p4, p5⟩, p6⟩
  · have hF := (ft_F (μ := pI (ad (pI (ad (pI (ad ν i) 12 0 21 (165 + 4 * e.1) (nI 1)) (i + 1)) 12 0 21 (165 + 4 * e.1 + 1) (nI j)) (i + 1 + 1)) 12 0 21 (165 + 4 * e.1 + 2) (nI jb)) p1.1 p1.2)
    obtain ⟨v2, v3⟩ := FF_p21 (q := 165 + 4 * e.1 + 3) (x := 0) hF.1 (by omega)
    refine .inl ⟨F, p1, ⟨fc μ3 F, ?_, fc_7, FV_t V3 (FTp_V FTp_c)⟩, nI (e.1 + 1), _, fun k => ?_, v2, FR_t fr3 (FR_t hF.2 v3)⟩
    · rw [hc3, p2, bI_i, xite_t rfl, h149_0]
    · rw [hr3 k, p3, bI_i]
      exact KE_F v2 rfl k
  obtain ⟨l1, l2⟩ := RO_ad o1 p2
  obtain ⟨r1, r2⟩ := RO_p21 (q := 165 + 4 * e.1 + 3) (x := nI jg) l1 (by omega)
  have fr4 := FR_t fr3 (FR_t l2 r2)
  have e4 : rI μ4 1 1 0 = nI e.1 := by rw [rI_ob (p5 1 1 (by omega)), rI_pI]; exact e3
  have V4 : FV μ μ4 := FV_t V3 (FV_t FV_p (FTp_V p5))
  have hc4 : f1_readLine 1 0 μ = h1_readLine_149 (19998 + 1) 1 1 μ4 := by rw [hc3, p3, bI_i, xite_f (by decide)]
  rcases J_semi (k := 19998) p4 r1 e4 with ⟨F, q1, q2, q3⟩ | ⟨q1, ⟨μ5, q2, q3, q4⟩, q5⟩
  · obtain ⟨z1, z2⟩ := ft_F q1.1 q1.2 (μ := pI (ad (pI (ad (pI (ad (pI (ad ν i) 12 0 21 (165 + 4 * e.1) (nI 1)) (i + 1)) 12 0 21 (165 + 4 * e.1 + 1) (nI j)) (i + 1 + 1)) 12 0 21 (165 + 4 * e.1 + 2) (nI jb)) (i + 1 + 1 + 1)) 12 0 21 (165 + 4 * e.1 + 3) (nI jg))
    refine .inl ⟨F, q1, ⟨_, hc4.trans q2, fc_7, FV_t V4 (FTp_V FTp_c)⟩, nI (e.1 + 1), _, fun k => ?_, z1, FR_t fr4 z2⟩
    rw [hr3 k, p6, bI_i, bV_v, q3, bV_v]
  · obtain ⟨z1, z2⟩ := RO_ad r1 q1
    have s5 : ∀ s l, aI μ5 1 1 s l = aI (pI (pI (pI (pI μ 1 1 1 e.1 (nI (144 + 1))) 1 1 2 e.1 (nI j)) 1 1 3 e.1 (nI jb)) 1 1 4 e.1 (nI jg)) 1 1 s l := fun s l => by
      rw [aI_ob (q4 1 1 (by omega)), aI_sI, aI_ob (p5 1 1 (by omega)), aI_pI, aI_pI, s3]
    refine .inr ⟨i + 1 + 1 + 1 + 1 + 1, upE e 1 j jb jg, by omega, EI_up hI hn (by omega) (fun _ => y1) (fun _ => ⟨x1, p1⟩), ⟨μ5, hc4.trans q2, q3, CE_up hE ?_ (fun l => ?_) (fun l hl => ?_) (fun _ => ?_) (fun _ => ⟨?_, ?_⟩), FV_t (FV_t V4 FV_s) (FTp_V q4)⟩, _, fun k => ?_, z1, REd_up hD (fun k hk => ?_) ?_ (fun _ => ?_) (fun _ => ⟨?_, ?_⟩), FR_t fr4 z2⟩
    · rw [rI_ob (q4 1 1 (by omega)), rI_sI]; simp
    · rw [s5]; simp [aI_pI]
    · rw [s5, s5, s5]; simp [aI_pI, hl]
    · rw [s5]; simp [aI_pI]
    · rw [s5]; simp [aI_pI]
    · rw [s5]; simp [aI_pI]
    · rw [hr3 k, p6, bI_i, bV_v, q5, bV_v, upE_n]
    · unfold ad; simp only [aI_sI, aI_pI, show ¬ k = 165 + 4 * e.1 + 3 by omega, show ¬ k = 165 + 4 * e.1 + 2 by omega, show ¬ k = 165 + 4 * e.1 + 1 by omega, show ¬ k = 165 + 4 * e.1 by omega, and_false, ↓reduceIte]
    · unfold ad; simp only [aI_sI, aI_pI, show ¬ 165 + 4 * e.1 = 165 + 4 * e.1 + 3 by omega, show ¬ 165 + 4 * e.1 = 165 + 4 * e.1 + 2 by omega, show ¬ 165 + 4 * e.1 = 165 + 4 * e.1 + 1 by omega, and_false, and_self, ↓reduceIte]
    · unfold ad; simp only [aI_sI, aI_pI, show ¬ 165 + 4 * e.1 + 1 = 165 + 4 * e.1 + 3 by omega, show ¬ 165 + 4 * e.1 + 1 = 165 + 4 * e.1 + 2 by omega, and_false, and_self, ↓reduceIte]
    · unfold ad; simp only [aI_sI, aI_pI, show ¬ 165 + 4 * e.1 + 2 = 165 + 4 * e.1 + 3 by omega, and_false, and_self, ↓reduceIte]
    · unfold ad; simp only [aI_sI, aI_pI, and_self, ↓reduceIte]
end
