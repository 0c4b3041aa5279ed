/-! THE PURE PART: holes, water, rises told, on both sides -/
def upH (h : HS) (j v : Nat) : HS := (h.1, fun a b => if a = j ∧ b = 0 then nI v else hf h a b, hC h, hN h)
def lwH (h : HS) (l : List (Nat × Int32)) : HS := (h.1, hf h, l, hN h)
theorem flg_lt (f1 f2 f3 : Bool) : flg f1 f2 f3 < 8 := by cases f1 <;> cases f2 <;> cases f3 <;> decide
theorem flg_t0 (f1 f2 f3 : Bool) : (flg f1 f2 f3).testBit 0 = f1 := by cases f1 <;> cases f2 <;> cases f3 <;> rfl
theorem flg_t1 (f1 f2 f3 : Bool) : (flg f1 f2 f3).testBit 1 = f2 := by cases f1 <;> cases f2 <;> cases f3 <;> rfl
theorem flg_t2 (f1 f2 f3 : Bool) : (flg f1 f2 f3).testBit 2 = f3 := by cases f1 <;> cases f2 <;> cases f3 <;> rfl
theorem flg_o0 (f1 f2 f3 : Bool) : flg f1 f2 f3 ||| 2 ^ 0 = flg true f2 f3 := by cases f1 <;> cases f2 <;> cases f3 <;> rfl
theorem flg_o1 (f1 f2 f3 : Bool) : flg f1 f2 f3 ||| 2 ^ 1 = flg f1 true f3 := by cases f1 <;> cases f2 <;> cases f3 <;> rfl
theorem flg_o2 (f1 f2 f3 : Bool) : flg f1 f2 f3 ||| 2 ^ 2 = flg f1 f2 true := by cases f1 <;> cases f2 <;> cases f3 <;> rfl
theorem cpx_o : ∀ j, j < 3 → 128 + cpx (9 + j) = 131 + j := by decide
section
variable {μ ν : XM} {T : TP} {m i : Nat} {h : HS} {f1 f2 f3 : Bool}
theorem m_once (hO : RO T m i ν) (h0 : ¬ kt T i = 128) (h5 : ¬ kt T i = 129) (h7 : ¬ kt T i = 130) : f12_readLine ν = bV (f12_readOnce ν) fun m7 => xrv m7 := by
  rw [f12_readLine_e, k12_readLine, ok_w0 hO, bI_i, decide_eq_false h0, xite_t (show b2 false = 0 by decide), ok_w5 hO, bI_i, decide_eq_false h5, xite_t (show b2 false = 0 by decide), ok_w7 hO, bI_i, decide_eq_false h7, xite_t (show b2 false = 0 by decide)]
theorem m37_F {F : Nat} {n : Nat} {x : Int32} (hF : FF F ν) : h12_readOnce_37 (n + 1) x ν = xrv ν := by rw [h12_readOnce_37_s, xite_t (FF_p hF)]
theorem L_other (hC : CO T m i μ) (hO : RO T m i ν) (hk : kt T i < 128 ∨ 133 < kt T i) : LO T m i μ ν (f10_wrong 1 μ) (bV (f12_readLine ν) fun m2 => f12_takeSign 59 m2) := by
  have hwr := wr_lt hO (w := 1) (by omega) (by omega)
  obtain ⟨d2, d3⟩ := ft_F (μ := ν) hwr.1 hwr.2
  have h1 : lastw T i 9 3 = -1 := lastw_none 3 (fun j hj => by rw [cpx_o j hj]; omega)
  rw [cp_wrong hC 1 (w := 1) rfl, m_once hO (by omega) (by omega) (by omega), f12_readOnce_e, k12_readOnce, ok_wordHere hO (a := 9) (n := 3) (p := 9) (q := 3) rfl rfl (by omega), bI_i, h1, vI_eq, xite_t (by decide), ok_wrong hO 1 (w := 1) rfl, bV_v, show (20000 : Nat) = 19999 + 1 from rfl, m37_F d2, bV_v, bV_v, fl_takeSign d2]
  exact .inl ⟨_, hwr, ⟨_, rfl, fc_7, FTp_D FTp_c⟩, _, rfl, d2, d3⟩
/-- the reference at holes, water, rises -/
theorem m_onceAt {j : Nat} (hO : RO T m i ν) (hj : j < 3) (hk : kt T i = 131 + j) (h20 : rI ν 12 0 20 = nI (flg f1 f2 f3)) : f12_readLine ν = if (flg f1 f2 f3).testBit j = true then xrv (ft ν (3 + 16 * PT T i)) else bV (h12_readOnce_37 20000 (nI j) ν) fun m7 => xrv m7 := by
  have hwr := wr_lt hO (w := 3) (by omega) (by omega)
  obtain ⟨d2, d3⟩ := ft_F (μ := ν) hwr.1 hwr.2
  have hfl := flg_lt f1 f2 f3
  have h1 : lastw T i 9 3 = nI j := lastw_some 3 (by omega) hj (by rw [cpx_o j hj]; exact hk)
  rw [m_once hO (by omega) (by omega) (by omega), f12_readOnce_e, k12_readOnce, ok_wordHere hO (a := 9) (n := 3) (p := 9) (q := 3) rfl rfl (by omega), bI_i, h1, vI_eq, xite_f (nI_pos (by omega)), h20, tst (by omega) (by omega)]
  by_cases e : (flg f1 f2 f3).testBit j = true
  · rw [if_pos e, e, xite_t (by decide), ok_wrong hO 3 (w := 3) rfl, bV_v, show (20000 : Nat) = 19999 + 1 from rfl, m37_F d2, bV_v]
  · have e' : (flg f1 f2 f3).testBit j = false := by simpa using e
    rw [if_neg e, e', xite_f (by decide)]
theorem L_gaps (hC : CO T m i μ) (hD : DC h f1 f2 f3 μ) (hO : RO T m i ν) (hE : DR h f1 f2 f3 ν) (hI : DI h) (hk : kt T i = 131) : LO T m i μ ν (f7_readGaps μ) (bV (f12_readLine ν) fun m2 => f12_takeSign 59 m2) := by
  obtain ⟨D1, D2, D3, D4, D5, D6⟩ := hD
  obtain ⟨E1, E2, E3, E4, E5⟩ := hE
  obtain ⟨I1, I2, I3⟩ := hI
  have hi := CO_lt hC (show kt T i ≠ 0 by omega)
  have hm1 := hC.2.2.2.2.2
  have hfl := flg_lt f1 f2 f3
  rw [f7_readGaps_e, k7_readGaps, D4, b2_eq0, m_onceAt (j := 0) hO (by omega) hk E4, flg_t0]
  cases hf : f1 with
  | true =>
    have hwr := wr_lt hO (w := 3) (by omega) (by omega)
    obtain ⟨d2, d3⟩ := ft_F (μ := ν) hwr.1 hwr.2
    rw [xite_f (by decide), cp_wrong hC 3 (w := 3) rfl, bI_i, xrb_0, if_pos rfl, bV_v, fl_takeSign d2]
    exact .inl ⟨_, hwr, ⟨_, rfl, fc_7, FTp_D FTp_c⟩, _, rfl, d2, d3⟩
  | false =>
  have hC1 : CO T m i (sI μ 7 0 2 1) := CO_ob (sI_ne (by omega)) hC
  obtain ⟨μ2, a1, a2, a3⟩ := cp_adv hC1 hi
  have fa : FR ν (sI ν 12 0 20 (nI (flg true f2 f3))) := FR_s (by omega)
  have O1 : RO T m i (sI ν 12 0 20 (nI (flg true f2 f3))) := RO_F hO fa (by rw [rI_sI]; simp) (by rw [rI_sI]; simp)
  obtain ⟨O2, F2⟩ := RO_ad O1 hi
  have eor : rI ν 12 0 20 ||| (1 <<< (nI 0 &&& 31)) = nI (flg true f2 f3) := by rw [E4, or_bit _ (by omega), flg_o0]
  have e63 : (63 : Int32) + nI 0 = nI 63 := nI_add 63 0
  have c63 : (nI 63).toNatClampNeg = 63 := nI_clamp (by omega)
  have x63 : (xin (nI 63) 120 && true) = true := xin_a (by omega) (by omega)
  have D0 : FD μ μ2 := FD_t FD_s7 (FTp_D a3)
  rw [xite_t rfl, xck_t (show xbl 1 = true by decide), mS_eq, a1, bV_v, if_neg (show ¬ (false = true) by decide), show h12_readOnce_37 20000 (nI 0) ν = h12_readOnce_37 (19999 + 1) (nI 0) ν from rfl, h12_readOnce_37_s, xite_f (RO_p hO), eor, mS_eq, ad_eq O1, mS_eq, xite_t (show nI 0 < (2 : Int32) by decide), xite_t (show nI 0 = 0 from rfl), cp_isNumber a2 (a := 0) (b := 9) (p := 0) (q := 9) rfl rfl (by omega) (by omega), ok_takeNumber O2 (a := 0) (b := 9) (p := 0) (q := 9) rfl rfl (by omega) (by omega), e63]
  -- a fault there
  have flt : ∀ F, 0 < F → F < 2 ^ 31 → LO T m i μ ν (bI (xri 0 (fc μ2 F)) fun r4 m3 => xite (r4 = 0) (xrb 0 m3) (mS (sI m3 2 1 3 (rI m3 10 0 5)) fun m5 => bV (f10_advance m5) fun m6 => bI (f10_take 59 m6) fun r8 m7 => xrb r8 m7)) (bV (bV (bI (xri 0 (ft (ad (sI ν 12 0 20 (nI (flg true f2 f3))) i) F)) fun r4 m3 => xck (xin (nI 63) 120 && true) (mS (pI m3 12 0 10 (nI 63).toNatClampNeg r4) fun m5 => xrv m5)) fun m7 => xrv m7) fun m2 => f12_takeSign 59 m2) := by
    intro F h0 h1
    obtain ⟨d2, d3⟩ := ft_F (μ := ad (sI ν 12 0 20 (nI (flg true f2 f3))) i) h0 h1
    have fp : FR (ft (ad (sI ν 12 0 20 (nI (flg true f2 f3))) i) F) (pI (ft (ad (sI ν 12 0 20 (nI (flg true f2 f3))) i) F) 12 0 10 63 0) := FR_p (by omega)
    have d4 : FF F (pI (ft (ad (sI ν 12 0 20 (nI (flg true f2 f3))) i) F) 12 0 10 63 0) := ⟨h0, h1, by rw [rI_pI]; exact d2.2.2⟩
    rw [bI_i, xite_t rfl, xrb_0, bI_i, xck_t x63, c63, mS_eq, bV_v, bV_v, fl_takeSign d4]
    exact .inl ⟨F, ⟨h0, h1⟩, ⟨_, rfl, fc_7, FD_t D0 (FTp_D FTp_c)⟩, _, rfl, d4, FR_t fa (FR_t F2 (FR_t d3 fp))⟩
  by_cases e2 : kt T (i + 1) = 2
  rotate_left
  · have hwr := wr_lt O2 (w := 1) (by omega) (by omega)
    rw [if_neg e2, if_neg e2]; exact flt _ hwr.1 hwr.2
  rw [if_pos e2, if_pos e2]
  by_cases e3 : 0 ≤ vq T (PT T (i + 1)) ∧ vq T (PT T (i + 1)) ≤ 9
  rotate_left
  · have hwr := wr_lt O2 (w := 4) (by omega) (by omega)
    rw [if_neg e3, if_neg e3]; exact flt _ hwr.1 hwr.2
  have hi1 := CO_lt a2 (show kt T (i + 1) ≠ 0 by omega)
  have hval : rI μ2 10 0 5 = nI (vq T (PT T (i + 1))) := a2.1.2.2.2.2.1 e2
  generalize vq T (PT T (i + 1)) = v at *
  have hC3 : CO T m (i + 1) (sI μ2 2 1 3 (nI v)) := CO_ob (sI_ne (by omega)) a2
  obtain ⟨μ4, b1, b2', b3⟩ := cp_adv hC3 hi1
  obtain ⟨O3, F3⟩ := RO_ad O2 hi1
  have fp : FR (ad (ad (sI ν 12 0 20 (nI (flg true f2 f3))) i) (i + 1)) (pI (ad (ad (sI ν 12 0 20 (nI (flg true f2 f3))) i) (i + 1)) 12 0 10 63 (nI v)) := FR_p (by omega)
  have O4 : RO T m (i + 2) (pI (ad (ad (sI ν 12 0 20 (nI (flg true f2 f3))) i) (i + 1)) 12 0 10 63 (nI v)) := RO_F O3 fp (rI_pI _ _ _ _ _ _ _ _ _) (rI_pI _ _ _ _ _ _ _ _ _)
  have F4 : FR ν (pI (ad (ad (sI ν 12 0 20 (nI (flg true f2 f3))) i) (i + 1)) 12 0 10 63 (nI v)) := FR_t fa (FR_t F2 (FR_t F3 fp))
  have p7 : ∀ j, j ≠ 7 → j ≠ 20 → rI (pI (ad (ad (sI ν 12 0 20 (nI (flg true f2 f3))) i) (i + 1)) 12 0 10 63 (nI v)) 12 0 j = rI ν 12 0 j := fun j h1 h2 => by rw [rI_pI, F7_ad.2.1 j h1, F7_ad.2.1 j h1, rI_sI]; simp [h2]
  have p20 : rI (pI (ad (ad (sI ν 12 0 20 (nI (flg true f2 f3))) i) (i + 1)) 12 0 10 63 (nI v)) 12 0 20 = nI (flg true f2 f3) := by rw [rI_pI, F7_ad.2.1 20 (by decide), F7_ad.2.1 20 (by decide), rI_sI]; simp
  have pA : ∀ j k, ¬ (j = 10 ∧ k = 63) → aI (pI (ad (ad (sI ν 12 0 20 (nI (flg true f2 f3))) i) (i + 1)) 12 0 10 63 (nI v)) 12 0 j k = aI ν 12 0 j k := fun j k h1 => by rw [aI_pI, if_neg (fun q => h1 q.2.2), F7_ad.2.2.1, F7_ad.2.2.1, aI_sI]
  have pE : aI (pI (ad (ad (sI ν 12 0 20 (nI (flg true f2 f3))) i) (i + 1)) 12 0 10 63 (nI v)) 12 0 10 63 = nI v := by rw [aI_pI]; simp
  have pL' : ∀ j, aL (pI (ad (ad (sI ν 12 0 20 (nI (flg true f2 f3))) i) (i + 1)) 12 0 10 63 (nI v)) 12 0 j = aL ν 12 0 j := fun j => by rw [aL_pI, F7_ad.2.2.2, F7_ad.2.2.2, aL_sI]
  rw [if_pos e3, bI_i, xite_f (by decide), hval, mS_eq, b1, bV_v, if_pos e3, bI_i, xck_t x63, c63, mS_eq, bV_v, bV_v]
  generalize pI (ad (ad (sI ν 12 0 20 (nI (flg true f2 f3))) i) (i + 1)) 12 0 10 63 (nI v) = ν5 at *
  rw [ok_takeSign O4 (c := 59) (p := 59) rfl (by omega)]
  have D4' : FD μ μ4 := FD_t D0 (FD_t FD_sI (FTp_D b3))
  rcases cp_take b2' (c := 59) (p := 59) rfl (by omega) (by omega) with ⟨z1, μ5, z2, z3, z4⟩ | ⟨z1, z2⟩
  rotate_left
  · have hwr := wr_lt O4 (w := 1) (by omega) (by omega)
    obtain ⟨d2, d3⟩ := ft_F (μ := ν5) hwr.1 hwr.2
    rw [z2, bI_i, xrb_0, if_neg z1]
    exact .inl ⟨_, hwr, ⟨_, rfl, fc_7, FD_t D4' (FTp_D FTp_c)⟩, _, rfl, d2, FR_t F4 d3⟩
  have hi2 := CO_lt b2' (by rw [z1]; decide)
  obtain ⟨O5, F5⟩ := RO_ad O4 hi2
  rw [z2, bI_i, xrb_1, if_pos z1]
  have s2 : μ5 2 1 = (sI μ 2 1 3 (nI v)) 2 1 := by
    rw [z4 2 1 (by omega), b3 2 1 (by omega)]
    have : μ2 2 1 = μ 2 1 := (a3 2 1 (by omega)).trans (sI_ne (by omega))
    unfold sI
    rw [xset_s, xset_s, this]
  have s7 : μ5 7 0 = (sI μ 7 0 2 1) 7 0 := by rw [z4 7 0 (by omega), b3 7 0 (by omega), sI_ne (by omega), a3 7 0 (by omega)]
  have s4 : μ5 4 1 = μ 4 1 := by rw [z4 4 1 (by omega), b3 4 1 (by omega), sI_ne (by omega), a3 4 1 (by omega), sI_ne (by omega)]
  have rr : ∀ j, j ≠ 3 → rI μ5 2 1 j = rI μ 2 1 j := fun j hj => by rw [rI_ob s2, rI_sI]; simp [hj]
  have ra : ∀ j, aI μ5 2 1 j = aI μ 2 1 j := fun j => by rw [aI_ob s2, aI_sI]
  have rl : ∀ j, aL μ5 2 1 j = aL μ 2 1 j := fun j => by rw [aL_ob s2, aL_sI]
  have re : rI μ5 2 1 3 = nI v := by rw [rI_ob s2, rI_sI]; simp
  have Q1 : CH 1 (upH h 8 v) μ5 := by
    obtain ⟨q0, ⟨q4, q5, q6, q7, q8⟩, q9, q10, q11⟩ := D1
    refine ⟨q0, ⟨(rr 0 (by decide)).trans q4, (rr 1 (by decide)).trans q5, (rr 2 (by decide)).trans q6, ?_, ?_⟩, fun g hg => ?_, fun g hg => ?_, fun g hg => ?_⟩
    · exact re
    · exact (rr 4 (by decide)).trans q8
    · rw [ra, ra, ra, ra, ra]; exact q9 g hg
    · rw [ra]; exact q10 g hg
    · rw [ra, ra]; exact q11 g hg
  have Q2 : CNm (upH h 8 v) 1 μ5 := by
    refine ⟨fun g hg => ?_, fun g hg => ?_, fun g hg => ?_⟩
    · rw [rl]; exact D2.1 g hg
    · rw [rl]; exact D2.2.1 g hg
    · rw [rl]; exact D2.2.2 g hg
  have Q3 : HI (upH h 8 v) := by
    obtain ⟨q0, q4, q5, q6, q7, q8⟩ := I1
    exact ⟨q0, q4, q5, q6, ⟨v, e3.2, rfl⟩, q8⟩
  have Q4 : RHd (upH h 8 v) (ad ν5 (i + 2)) := by
    obtain ⟨q0, ⟨q4, q5, q6, q7, q8⟩, q9, q10, q11⟩ := E1
    have qa : ∀ k, k ≠ 63 → aI (ad ν5 (i + 2)) 12 0 10 k = aI ν 12 0 10 k := fun k hk' => by rw [F7_ad.2.2.1 10, pA 10 k (fun q => hk' q.2)]
    have qe : aI (ad ν5 (i + 2)) 12 0 10 63 = nI v := by rw [F7_ad.2.2.1 10, pE]
    refine ⟨q0, ⟨(qa 60 (by decide)).trans q4, (qa 61 (by decide)).trans q5, (qa 62 (by decide)).trans q6, ?_, ?_⟩, fun g hg => ?_, fun g hg => ?_, fun g hg => ?_⟩
    · exact qe
    · exact (qa 64 (by decide)).trans q8
    · rw [qa _ (by omega), qa _ (by omega), qa _ (by omega), qa _ (by omega), qa _ (by omega)]; exact q9 g hg
    · rw [qa _ (by omega)]; exact q10 g hg
    · rw [qa _ (by omega), qa _ (by omega)]; exact q11 g hg
  refine .inr ⟨_, upH h 8 v, true, f2, f3, ?_, ⟨Q3, I2, I3⟩, ⟨μ5, rfl, z3, ⟨Q1, Q2, LC_ob s4 D3, by rw [rI_ob s7, rI_sI]; simp [b2], by rw [rI_ob s7, rI_sI]; simp [D5], by rw [rI_ob s7, rI_sI]; simp [D6]⟩, FD_t D4' (FTp_D z4)⟩, _, rfl, O5, ⟨Q4, ?_, ?_, ?_, DL_F rfl ?_ ?_ (fun k => ?_) (fun k => ?_) E5⟩, FR_t F4 F5⟩
  · omega
  · obtain ⟨nm, tk, ik, n1, n2, n3, n4⟩ := E2
    refine ⟨nm, tk, ik, n1, ?_, fun k hk' => ?_, n4⟩
    · rw [F7_ad.2.1 19 (by decide), p7 19 (by decide) (by decide)]; exact n2
    · rw [F7_ad.2.2.1 17, pA 17 k (fun q => absurd q.1 (by decide)), F7_ad.2.2.2 15, pL']; exact n3 k hk'
  · rw [F7_ad.2.1 19 (by decide), p7 19 (by decide) (by decide)]; exact E3
  · rw [F7_ad.2.1 20 (by decide)]; exact p20
  · rw [F7_ad.2.2.1 10, pA 10 65 (fun q => absurd q.2 (by decide))]
  · rw [F7_ad.2.1 13 (by decide), p7 13 (by decide) (by decide)]
  · rw [F7_ad.2.2.1 11, pA 11 k (fun q => absurd q.1 (by decide))]
  · rw [F7_ad.2.2.1 12, pA 12 k (fun q => absurd q.1 (by decide))]
theorem L_water (hC : CO T m i μ) (hD : DC h f1 f2 f3 μ) (hO : RO T m i ν) (hE : DR h f1 f2 f3 ν) (hI : DI h) (hk : kt T i = 132) : LO T m i μ ν (f7_readWater μ) (bV (f12_readLine ν) fun m2 => f12_takeSign 59 m2) := by
  obtain ⟨D1, D2, D3, D4, D5, D6⟩ := hD
  obtain ⟨E1, E2, E3, E4, E5⟩ := hE
  obtain ⟨I1, I2, I3⟩ := hI
  have hi := CO_lt hC (show kt T i ≠ 0 by omega)
  have hm1 := hC.2.2.2.2.2
  have hfl := flg_lt f1 f2 f3
  rw [f7_readWater_e, k7_readWater, D5, b2_eq0, m_onceAt (j := 1) hO (by omega) hk E4, flg_t1]
  cases hf : f2 with
  | true =>
    have hwr := wr_lt hO (w := 3) (by omega) (by omega)
    obtain ⟨d2, d3⟩ := ft_F (μ := ν) hwr.1 hwr.2
    rw [xite_f (by decide), cp_wrong hC 3 (w := 3) rfl, bI_i, xrb_0, if_pos rfl, bV_v, fl_takeSign d2]
    exact .inl ⟨_, hwr, ⟨_, rfl, fc_7, FTp_D FTp_c⟩, _, rfl, d2, d3⟩
  | false =>
  have hC1 : CO T m i (sI μ 7 0 3 1) := CO_ob (sI_ne (by omega)) hC
  obtain ⟨μ2, a1, a2, a3⟩ := cp_adv hC1 hi
  have fa : FR ν (sI ν 12 0 20 (nI (flg f1 true f3))) := FR_s (by omega)
  have O1 : RO T m i (sI ν 12 0 20 (nI (flg f1 true f3))) := RO_F hO fa (by rw [rI_sI]; simp) (by rw [rI_sI]; simp)
  obtain ⟨O2, F2⟩ := RO_ad O1 hi
  have eor : rI ν 12 0 20 ||| (1 <<< (nI 1 &&& 31)) = nI (flg f1 true f3) := by rw [E4, or_bit _ (by omega), flg_o1]
  have e63 : (63 : Int32) + nI 1 = nI 64 := nI_add 63 1
  have c63 : (nI 64).toNatClampNeg = 64 := nI_clamp (by omega)
  have x63 : (xin (nI 64) 120 && true) = true := xin_a (by omega) (by omega)
  have D0 : FD μ μ2 := FD_t FD_s7 (FTp_D a3)
  rw [xite_t rfl, xck_t (show xbl 1 = true by decide), mS_eq, a1, bV_v, if_neg (show ¬ (false = true) by decide), show h12_readOnce_37 20000 (nI 1) ν = h12_readOnce_37 (19999 + 1) (nI 1) ν from rfl, h12_readOnce_37_s, xite_f (RO_p hO), eor, mS_eq, ad_eq O1, mS_eq, xite_t (show nI 1 < (2 : Int32) by decide), xite_f (show ¬ nI 1 = 0 by decide), cp_isNumber a2 (a := 0) (b := 40) (p := 0) (q := 40) rfl rfl (by omega) (by omega), ok_takeNumber O2 (a := 0) (b := 40) (p := 0) (q := 40) rfl rfl (by omega) (by omega), e63]
  -- a fault there
  have flt : ∀ F, 0 < F → F < 2 ^ 31 → LO T m i μ ν (bI (xri 0 (fc μ2 F)) fun r4 m3 => xite (r4 = 0) (xrb 0 m3) (mS (sI m3 2 1 4 (rI m3 10 0 5)) fun m5 => bV (f10_advance m5) fun m6 => bI (f10_take 59 m6) fun r8 m7 => xrb r8 m7)) (bV (bV (bI (xri 0 (ft (ad (sI ν 12 0 20 (nI (flg f1 true f3))) i) F)) fun r4 m3 => xck (xin (nI 64) 120 && true) (mS (pI m3 12 0 10 (nI 64).toNatClampNeg r4) fun m5 => xrv m5)) fun m7 => xrv m7) fun m2 => f12_takeSign 59 m2) := by
    intro F h0 h1
    obtain ⟨d2, d3⟩ := ft_F (μ := ad (sI ν 12 0 20 (nI (flg f1 true f3))) i) h0 h1
    have fp : FR (ft (ad (sI ν 12 0 20 (nI (flg f1 true f3))) i) F) (pI (ft (ad (sI ν 12 0 20 (nI (flg f1 true f3))) i) F) 12 0 10 64 0) := FR_p (by omega)
    have d4 : FF F (pI (ft (ad (sI ν 12 0 20 (nI (flg f1 true f3))) i) F) 12 0 10 64 0) := ⟨h0, h1, by rw [rI_pI]; exact d2.2.2⟩
    rw [bI_i, xite_t rfl, xrb_0, bI_i, xck_t x63, c63, mS_eq, bV_v, bV_v, fl_takeSign d4]
    exact .inl ⟨F, ⟨h0, h1⟩, ⟨_, rfl, fc_7, FD_t D0 (FTp_D FTp_c)⟩, _, rfl, d4, FR_t fa (FR_t F2 (FR_t d3 fp))⟩
  by_cases e2 : kt T (i + 1) = 2
  rotate_left
  · have hwr := wr_lt O2 (w := 1) (by omega) (by omega)
    rw [if_neg e2, if_neg e2]; exact flt _ hwr.1 hwr.2
  rw [if_pos e2, if_pos e2]
  by_cases e3 : 0 ≤ vq T (PT T (i + 1)) ∧ vq T (PT T (i + 1)) ≤ 40
  rotate_left
  · have hwr := wr_lt O2 (w := 4) (by omega) (by omega)
    rw [if_neg e3, if_neg e3]; exact flt _ hwr.1 hwr.2
  have hi1 := CO_lt a2 (show kt T (i + 1) ≠ 0 by omega)
  have hval : rI μ2 10 0 5 = nI (vq T (PT T (i + 1))) := a2.1.2.2.2.2.1 e2
  generalize vq T (PT T (i + 1)) = v at *
  have hC3 : CO T m (i + 1) (sI μ2 2 1 4 (nI v)) := CO_ob (sI_ne (by omega)) a2
  obtain ⟨μ4, b1, b2', b3⟩ := cp_adv hC3 hi1
  obtain ⟨O3, F3⟩ := RO_ad O2 hi1
  have fp : FR (ad (ad (sI ν 12 0 20 (nI (flg f1 true f3))) i) (i + 1)) (pI (ad (ad (sI ν 12 0 20 (nI (flg f1 true f3))) i) (i + 1)) 12 0 10 64 (nI v)) := FR_p (by omega)
  have O4 : RO T m (i + 2) (pI (ad (ad (sI ν 12 0 20 (nI (flg f1 true f3))) i) (i + 1)) 12 0 10 64 (nI v)) := RO_F O3 fp (rI_pI _ _ _ _ _ _ _ _ _) (rI_pI _ _ _ _ _ _ _ _ _)
  have F4 : FR ν (pI (ad (ad (sI ν 12 0 20 (nI (flg f1 true f3))) i) (i + 1)) 12 0 10 64 (nI v)) := FR_t fa (FR_t F2 (FR_t F3 fp))
  have p7 : ∀ j, j ≠ 7 → j ≠ 20 → rI (pI (ad (ad (sI ν 12 0 20 (nI (flg f1 true f3))) i) (i + 1)) 12 0 10 64 (nI v)) 12 0 j = rI ν 12 0 j := fun j h1 h2 => by rw [rI_pI, F7_ad.2.1 j h1, F7_ad.2.1 j h1, rI_sI]; simp [h2]
  have p20 : rI (pI (ad (ad (sI ν 12 0 20 (nI (flg f1 true f3))) i) (i + 1)) 12 0 10 64 (nI v)) 12 0 20 = nI (flg f1 true f3) := by rw [rI_pI, F7_ad.2.1 20 (by decide), F7_ad.2.1 20 (by decide), rI_sI]; simp
  have pA : ∀ j k, ¬ (j = 10 ∧ k = 64) → aI (pI (ad (ad (sI ν 12 0 20 (nI (flg f1 true f3))) i) (i + 1)) 12 0 10 64 (nI v)) 12 0 j k = aI ν 12 0 j k := fun j k h1 => by rw [aI_pI, if_neg (fun q => h1 q.2.2), F7_ad.2.2.1, F7_ad.2.2.1, aI_sI]
  have pE : aI (pI (ad (ad (sI ν 12 0 20 (nI (flg f1 true f3))) i) (i + 1)) 12 0 10 64 (nI v)) 12 0 10 64 = nI v := by rw [aI_pI]; simp
  have pL' : ∀ j, aL (pI (ad (ad (sI ν 12 0 20 (nI (flg f1 true f3))) i) (i + 1)) 12 0 10 64 (nI v)) 12 0 j = aL ν 12 0 j := fun j => by rw [aL_pI, F7_ad.2.2.2, F7_ad.2.2.2, aL_sI]
  rw [if_pos e3, bI_i, xite_f (by decide), hval, mS_eq, b1, bV_v, if_pos e3, bI_i, xck_t x63, c63, mS_eq, bV_v, bV_v]
  generalize pI (ad (ad (sI ν 12 0 20 (nI (flg f1 true f3))) i) (i + 1)) 12 0 10 64 (nI v) = ν5 at *
  rw [ok_takeSign O4 (c := 59) (p := 59) rfl (by omega)]
  have D4' : FD μ μ4 := FD_t D0 (FD_t FD_sI (FTp_D b3))
  rcases cp_take b2' (c := 59) (p := 59) rfl (by omega) (by omega) with ⟨z1, μ5, z2, z3, z4⟩ | ⟨z1, z2⟩
  rotate_left
  · have hwr := wr_lt O4 (w := 1) (by omega) (by omega)
    obtain ⟨d2, d3⟩ := ft_F (μ := ν5) hwr.1 hwr.2
    rw [z2, bI_i, xrb_0, if_neg z1]
    exact .inl ⟨_, hwr, ⟨_, rfl, fc_7, FD_t D4' (FTp_D FTp_c)⟩, _, rfl, d2, FR_t F4 d3⟩
  have hi2 := CO_lt b2' (by rw [z1]; decide)
  obtain ⟨O5, F5⟩ := RO_ad O4 hi2
  rw [z2, bI_i, xrb_1, if_pos z1]
  have s2 : μ5 2 1 = (sI μ 2 1 4 (nI v)) 2 1 := by
    rw [z4 2 1 (by omega), b3 2 1 (by omega)]
    have : μ2 2 1 = μ 2 1 := (a3 2 1 (by omega)).trans (sI_ne (by omega))
    unfold sI
    rw [xset_s, xset_s, this]
  have s7 : μ5 7 0 = (sI μ 7 0 3 1) 7 0 := by rw [z4 7 0 (by omega), b3 7 0 (by omega), sI_ne (by omega), a3 7 0 (by omega)]
  have s4 : μ5 4 1 = μ 4 1 := by rw [z4 4 1 (by omega), b3 4 1 (by omega), sI_ne (by omega), a3 4 1 (by omega), sI_ne (by omega)]
  have rr : ∀ j, j ≠ 4 → rI μ5 2 1 j = rI μ 2 1 j := fun j hj => by rw [rI_ob s2, rI_sI]; simp [hj]
  have ra : ∀ j, aI μ5 2 1 j = aI μ 2 1 j := fun j => by rw [aI_ob s2, aI_sI]
  have rl : ∀ j, aL μ5 2 1 j = aL μ 2 1 j := fun j => by rw [aL_ob s2, aL_sI]
  have re : rI μ5 2 1 4 = nI v := by rw [rI_ob s2, rI_sI]; simp
  have Q1 : CH 1 (upH h 9 v) μ5 := by
    obtain ⟨q0, ⟨q4, q5, q6, q7, q8⟩, q9, q10, q11⟩ := D1
    refine ⟨q0, ⟨(rr 0 (by decide)).trans q4, (rr 1 (by decide)).trans q5, (rr 2 (by decide)).trans q6, ?_, ?_⟩, fun g hg => ?_, fun g hg => ?_, fun g hg => ?_⟩
    · exact (rr 3 (by decide)).trans q7
    · exact re
    · rw [ra, ra, ra, ra, ra]; exact q9 g hg
    · rw [ra]; exact q10 g hg
    · rw [ra, ra]; exact q11 g hg
  have Q2 : CNm (upH h 9 v) 1 μ5 := by
    refine ⟨fun g hg => ?_, fun g hg => ?_, fun g hg => ?_⟩
    · rw [rl]; exact D2.1 g hg
    · rw [rl]; exact D2.2.1 g hg
    · rw [rl]; exact D2.2.2 g hg
  have Q3 : HI (upH h 9 v) := by
    obtain ⟨q0, q4, q5, q6, q7, q8⟩ := I1
    exact ⟨q0, q4, q5, q6, q7, v, e3.2, rfl⟩
  have Q4 : RHd (upH h 9 v) (ad ν5 (i + 2)) := by
    obtain ⟨q0, ⟨q4, q5, q6, q7, q8⟩, q9, q10, q11⟩ := E1
    have qa : ∀ k, k ≠ 64 → aI (ad ν5 (i + 2)) 12 0 10 k = aI ν 12 0 10 k := fun k hk' => by rw [F7_ad.2.2.1 10, pA 10 k (fun q => hk' q.2)]
    have qe : aI (ad ν5 (i + 2)) 12 0 10 64 = nI v := by rw [F7_ad.2.2.1 10, pE]
    refine ⟨q0, ⟨(qa 60 (by decide)).trans q4, (qa 61 (by decide)).trans q5, (qa 62 (by decide)).trans q6, ?_, ?_⟩, fun g hg => ?_, fun g hg => ?_, fun g hg => ?_⟩
    · exact (qa 63 (by decide)).trans q7
    · exact qe
    · rw [qa _ (by omega), qa _ (by omega), qa _ (by omega), qa _ (by omega), qa _ (by omega)]; exact q9 g hg
    · rw [qa _ (by omega)]; exact q10 g hg
    · rw [qa _ (by omega), qa _ (by omega)]; exact q11 g hg
  refine .inr ⟨_, upH h 9 v, f1, true, f3, ?_, ⟨Q3, I2, I3⟩, ⟨μ5, rfl, z3, ⟨Q1, Q2, LC_ob s4 D3, by rw [rI_ob s7, rI_sI]; simp [D4], by rw [rI_ob s7, rI_sI]; simp [b2], by rw [rI_ob s7, rI_sI]; simp [D6]⟩, FD_t D4' (FTp_D z4)⟩, _, rfl, O5, ⟨Q4, ?_, ?_, ?_, DL_F rfl ?_ ?_ (fun k => ?_) (fun k => ?_) E5⟩, FR_t F4 F5⟩
  · omega
  · obtain ⟨nm, tk, ik, n1, n2, n3, n4⟩ := E2
    refine ⟨nm, tk, ik, n1, ?_, fun k hk' => ?_, n4⟩
    · rw [F7_ad.2.1 19 (by decide), p7 19 (by decide) (by decide)]; exact n2
    · rw [F7_ad.2.2.1 17, pA 17 k (fun q => absurd q.1 (by decide)), F7_ad.2.2.2 15, pL']; exact n3 k hk'
  · rw [F7_ad.2.1 19 (by decide), p7 19 (by decide) (by decide)]; exact E3
  · rw [F7_ad.2.1 20 (by decide)]; exact p20
  · rw [F7_ad.2.2.1 10, pA 10 65 (fun q => absurd q.2 (by decide))]
  · rw [F7_ad.2.1 13 (by decide), p7 13 (by decide) (by decide)]
  · rw [F7_ad.2.2.1 11, pA 11 k (fun q => absurd q.1 (by decide))]
  · rw [F7_ad.2.2.1 12, pA 12 k (fun q => absurd q.1 (by decide))]
theorem L_law (hc : CO T m i μ) (hD : DC h f1 f2 f3 μ) (hO : RO T m i ν) (hE : DR h f1 f2 f3 ν) (hI : DI h) (hk : kt T i = 133) : LO T m i μ ν (f7_readLaw μ) (bV (f12_readLine ν) fun m2 => f12_takeSign 59 m2) := by
  obtain ⟨D1, D2, D3, D4, D5, D6⟩ := hD
  obtain ⟨E1, E2, E3, E4, E5⟩ := hE
  obtain ⟨I1, I2, I3⟩ := hI
  have hi := CO_lt hc (show kt T i ≠ 0 by omega)
  have hm1 := hc.2.2.2.2.2
  have hfl := flg_lt f1 f2 f3
  rw [f7_readLaw_e, k7_readLaw, D6, b2_eq0, m_onceAt (j := 2) hO (by omega) hk E4, flg_t2]
  cases hf : f3 with
  | true =>
    have hwr := wr_lt hO (w := 3) (by omega) (by omega)
    obtain ⟨d2, d3⟩ := ft_F (μ := ν) hwr.1 hwr.2
    rw [xite_f (by decide), cp_wrong hc 3 (w := 3) rfl, bI_i, xrb_0, if_pos rfl, bV_v, fl_takeSign d2]
    exact .inl ⟨_, hwr, ⟨_, rfl, fc_7, FTp_D FTp_c⟩, _, rfl, d2, d3⟩
  | false =>
  obtain ⟨y1, y2, y3, y4⟩ : f3 = false ∧ hC h = [] ∧ aI ν 12 0 10 65 = -1 ∧ RD [] ν := by
    rcases E5 with q | q
    · exact q
    · exact absurd (q.1.symm.trans hf) (by decide)
  rw [y2] at D3
  have hC1 : CO T m i (sI μ 7 0 4 1) := CO_ob (sI_ne (by omega)) hc
  obtain ⟨μ2, a1, a2, a3⟩ := cp_adv hC1 hi
  have fa : FR ν (sI ν 12 0 20 (nI (flg f1 f2 true))) := FR_s (by omega)
  have O1 : RO T m i (sI ν 12 0 20 (nI (flg f1 f2 true))) := RO_F hO fa (by rw [rI_sI]; simp) (by rw [rI_sI]; simp)
  obtain ⟨O2, F2⟩ := RO_ad O1 hi
  have eor : rI ν 12 0 20 ||| (1 <<< (nI 2 &&& 31)) = nI (flg f1 f2 true) := by rw [E4, or_bit _ (by omega), flg_o2]
  have x65 : (xin 65 120 && true) = true := by decide
  have D0 : FD μ μ2 := FD_t FD_s7 (FTp_D a3)
  have r13 : rI (ad (sI ν 12 0 20 (nI (flg f1 f2 true))) i) 12 0 13 = nI 0 := by rw [F7_ad.2.1 13 (by decide), rI_sI]; simp; exact y4.1
  have fp : FR (ad (sI ν 12 0 20 (nI (flg f1 f2 true))) i) (pI (ad (sI ν 12 0 20 (nI (flg f1 f2 true))) i) 12 0 10 65 (nI 0)) := FR_p (by omega)
  have O3 : RO T m (i + 1) (pI (ad (sI ν 12 0 20 (nI (flg f1 f2 true))) i) 12 0 10 65 (nI 0)) := RO_F O2 fp (rI_pI _ _ _ _ _ _ _ _ _) (rI_pI _ _ _ _ _ _ _ _ _)
  have F3 : FR ν (pI (ad (sI ν 12 0 20 (nI (flg f1 f2 true))) i) 12 0 10 65 (nI 0)) := FR_t fa (FR_t F2 fp)
  have R3 : RD [] (pI (ad (sI ν 12 0 20 (nI (flg f1 f2 true))) i) 12 0 10 65 (nI 0)) := ⟨by rw [rI_pI]; exact r13, fun k hk' => absurd hk' (Nat.not_lt_zero k)⟩
  have p7 : ∀ j, j ≠ 7 → j ≠ 20 → rI (pI (ad (sI ν 12 0 20 (nI (flg f1 f2 true))) i) 12 0 10 65 (nI 0)) 12 0 j = rI ν 12 0 j := fun j h1 h2 => by rw [rI_pI, F7_ad.2.1 j h1, rI_sI]; simp [h2]
  have p20 : rI (pI (ad (sI ν 12 0 20 (nI (flg f1 f2 true))) i) 12 0 10 65 (nI 0)) 12 0 20 = nI (flg f1 f2 true) := by rw [rI_pI, F7_ad.2.1 20 (by decide), rI_sI]; simp
  have pA : ∀ j k, ¬ (j = 10 ∧ k = 65) → aI (pI (ad (sI ν 12 0 20 (nI (flg f1 f2 true))) i) 12 0 10 65 (nI 0)) 12 0 j k = aI ν 12 0 j k := fun j k h1 => by rw [aI_pI, if_neg (fun q => h1 q.2.2), F7_ad.2.2.1, aI_sI]
  have pE : aI (pI (ad (sI ν 12 0 20 (nI (flg f1 f2 true))) i) 12 0 10 65 (nI 0)) 12 0 10 65 = nI 0 := by rw [aI_pI]; simp
  have pL' : ∀ j, aL (pI (ad (sI ν 12 0 20 (nI (flg f1 f2 true))) i) 12 0 10 65 (nI 0)) 12 0 j = aL ν 12 0 j := fun j => by rw [aL_pI, F7_ad.2.2.2, aL_sI]
  rw [xite_t rfl, xck_t (show xbl 1 = true by decide), mS_eq, a1, bV_v, if_neg (by decide), show h12_readOnce_37 20000 (nI 2) ν = h12_readOnce_37 (19999 + 1) (nI 2) ν from rfl, h12_readOnce_37_s, xite_f (RO_p hO), eor, mS_eq, ad_eq O1, mS_eq, xite_f (show ¬ nI 2 < (2 : Int32) by decide), xck_t x65, show Int32.toNatClampNeg 65 = 65 from rfl, r13, mS_eq]
  generalize pI (ad (sI ν 12 0 20 (nI (flg f1 f2 true))) i) 12 0 10 65 (nI 0) = ν3 at *
  have hL2 : LC 1 [] μ2 := LC_ob ((a3 4 1 (by omega)).trans (sI_ne (by omega))) D3
  obtain ⟨ou, g1, g2, g3⟩ := J_all (i + 1) [] μ2 ν3 a2 hL2 O3 R3 (Nat.zero_le _)
  rw [show (0 : Int32) = nI 0 from rfl]
  rcases ou with F | ⟨i', l'⟩
  · obtain ⟨μ4, c1, c2, c3⟩ := g2
    obtain ⟨ν4, d1, d2⟩ := g3
    obtain ⟨ξ, e1, e2⟩ := RF_em (i := i) (c := 0) d2 hm1 (Nat.zero_le _) (nI 0) (nI 0)
    rw [c1, bI_i, xite_t (show (0 : Int32) = nI 0 from rfl), d1, bV_v, e1, bV_v, bV_v, bV_v, fl_takeSign e2.1]
    exact .inl ⟨F, g1, ⟨μ4, rfl, c2, FD_t D0 (FE_D c3)⟩, _, rfl, e2.1, FR_t F3 (FZ_R e2.2.1)⟩
  obtain ⟨q1, q2, sg, q3, q4, q5, q6⟩ := g1
  replace q1 : i + 1 < i' := q1
  replace q2 : i' ≤ m := q2
  replace q3 : l' = [] ++ sg := q3
  replace q5 : sg.length + (i + 1) ≤ i' := q5
  rw [List.nil_append] at q3
  subst q3
  obtain ⟨μ4, c1, c2, c3, c4⟩ := g2
  obtain ⟨ν4, d1, d2, d3, d4⟩ := g3
  replace c2 : CO T m i' μ4 := c2
  replace d2 : RO T m i' ν4 := d2
  replace c3 : LC 1 l' μ4 := c3
  replace d3 : RD l' ν4 := d3
  have hh : hws l' 0 = some 1 := q6 0 (by omega)
  have hne : l' ≠ [] := fun e => by rw [e] at hh; exact absurd hh (by decide)
  obtain ⟨ν5, r1, r2, r3, r4⟩ := m_emit (by omega) d3 d2 (0, 0) (p := nI 0) (q := nI 0) rfl rfl
  rw [c1, bI_i, xite_f (by decide), d1, bV_v, r1, bV_v, bV_v, bV_v, ok_takeSign r3 (c := 59) (p := 59) rfl (by omega)]
  have D4' : FD μ μ4 := FD_t D0 (FE_D c4)
  have F5 : FR ν ν5 := FR_t F3 (FR_t (FZ_R d4) (FZ_R r4))
  rcases cp_take c2 (c := 59) (p := 59) rfl (by omega) (by omega) with ⟨z1, μ5, z2, z3, z4⟩ | ⟨z1, z2⟩
  rotate_left
  · have hwr := wr_lt r3 (w := 1) (by omega) (by omega)
    obtain ⟨e2, e3⟩ := ft_F (μ := ν5) hwr.1 hwr.2
    rw [z2, bI_i, xite_t (show (0 : Int32) = nI 0 from rfl), if_neg z1]
    exact .inl ⟨_, hwr, ⟨_, rfl, fc_7, FD_t D4' (FTp_D FTp_c)⟩, _, rfl, e2, FR_t F5 e3⟩
  have hi2 := CO_lt c2 (by rw [z1]; decide)
  obtain ⟨O5, F5'⟩ := RO_ad r3 hi2
  rw [z2, bI_i, xite_f (by decide), xrb_1, if_pos z1]
  have s2 : μ5 2 1 = μ 2 1 := by rw [z4 2 1 (by omega), c4 2 1 (by omega) (by omega), a3 2 1 (by omega), sI_ne (by omega)]
  have s7 : μ5 7 0 = (sI μ 7 0 4 1) 7 0 := by rw [z4 7 0 (by omega), c4 7 0 (by omega) (by omega), a3 7 0 (by omega)]
  have s4 : μ5 4 1 = μ4 4 1 := z4 4 1 (by omega)
  have Z5 : FZ ν3 ν5 := FZ_t d4 r4
  have qa : ∀ k, k ≠ 65 → aI (ad ν5 i') 12 0 10 k = aI ν 12 0 10 k := fun k hk' => by
    rw [F7_ad.2.2.1 10, Z5.2.2.1 10 (by decide) (by decide), pA 10 k (fun q => hk' q.2)]
  have q65 : aI (ad ν5 i') 12 0 10 65 = 0 := by
    rw [F7_ad.2.2.1 10, Z5.2.2.1 10 (by decide) (by decide), pE]; rfl
  have Q4 : RHd (lwH h l') (ad ν5 i') := by
    obtain ⟨q0, ⟨q4, q5, q6, q7, q8⟩, q9, q10, q11⟩ := E1
    refine ⟨q0, ⟨(qa 60 (by decide)).trans q4, (qa 61 (by decide)).trans q5, (qa 62 (by decide)).trans q6, (qa 63 (by decide)).trans q7, (qa 64 (by decide)).trans q8⟩, fun g hg => ?_, fun g hg => ?_, fun g hg => ?_⟩
    · rw [qa _ (by omega), qa _ (by omega), qa _ (by omega), qa _ (by omega), qa _ (by omega)]; exact q9 g hg
    · rw [qa _ (by omega)]; exact q10 g hg
    · rw [qa _ (by omega), qa _ (by omega)]; exact q11 g hg
  refine .inr ⟨_, lwH h l', f1, f2, true, ?_, ⟨I1, ⟨q4, .inr hh, by show l'.length < 1000; omega⟩, I3⟩, ⟨μ5, rfl, z3, ⟨CH_ob s2 D1, CNm_ob s2 D2, LC_ob s4 c3, by rw [rI_ob s7, rI_sI]; simp [D4], by rw [rI_ob s7, rI_sI]; simp [D5], by rw [rI_ob s7, rI_sI]; simp [b2]⟩, FD_t D4' (FTp_D z4)⟩, _, rfl, O5, ⟨Q4, ?_, ?_, ?_, .inr ⟨rfl, hne, q65, RD_F ?_ (fun k => ?_) (fun k => ?_) r2⟩⟩, FR_t F5 F5'⟩
  · omega
  · obtain ⟨nm, tk, ik, n1, n2, n3, n4⟩ := E2
    refine ⟨nm, tk, ik, n1, ?_, fun k hk' => ?_, n4⟩
    · rw [F7_ad.2.1 19 (by decide), Z5.2.1 19 (by decide) (by decide) (by decide), p7 19 (by decide) (by decide)]; exact n2
    · rw [F7_ad.2.2.1 17, Z5.2.2.1 17 (by decide) (by decide), pA 17 k (fun q => absurd q.1 (by decide)), F7_ad.2.2.2 15, Z5.2.2.2.1 15, pL']; exact n3 k hk'
  · rw [F7_ad.2.1 19 (by decide), Z5.2.1 19 (by decide) (by decide) (by decide), p7 19 (by decide) (by decide)]; exact E3
  · rw [F7_ad.2.1 20 (by decide), Z5.2.1 20 (by decide) (by decide) (by decide)]; exact p20
  · rw [F7_ad.2.1 13 (by decide)]
  · rw [F7_ad.2.2.1 11]
  · rw [F7_ad.2.2.1 12]
end
