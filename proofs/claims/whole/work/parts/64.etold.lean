/-! THE PURE PART: the names of an EVENING, on both sides -/
theorem RN_F {h : HS} {μ ν : XM} (a : FR μ ν) (r : RN h μ) : RN h ν := by
  unfold RN at *; rw [a.2.1 18 (by decide) (by decide) (by decide) (by decide) (by decide), a.2.2.1 16 (by decide) (by decide) (by decide) (by decide) (by decide), a.2.2.2.1 14 (by decide)]; exact r
theorem told_out : ∀ t, t < 3 → ∀ t', t' < 3 → ¬ t' = t → ∀ k, k < 6 → (nI (20 * t' + k) - nI (20 * t) < 0 ∨ (5 : Int32) < nI (20 * t' + k) - nI (20 * t)) := by decide +kernel
theorem told_neg : ∀ t, t < 3 → (-1 : Int32) - nI (20 * t) < 0 := by decide +kernel
section
variable {μ ν : XM} {T : TP} {m i : Nat} {h : HS}
theorem wi_ok {j : Nat} (hj : j < 6) : f12_within (nI j) 0 5 ν = xri 1 ν := by
  rw [s12_within]
  have h1 : ¬ nI j < 0 := nI_pos (by omega)
  have h2 : ¬ (5 : Int32) < nI j := nI_nlt (a := 5) (b := j) (by omega) (by omega)
  unfold wit
  rw [decide_eq_true h1, decide_eq_true h2]; rfl
theorem wi_no {x : Int32} (hx : x < 0 ∨ (5 : Int32) < x) : f12_within x 0 5 ν = xri 0 ν := by
  rw [s12_within]
  unfold wit
  rcases hx with hx | hx
  · rw [decide_eq_false (fun e => e hx)]; rfl
  · rw [decide_eq_false (p := ¬ (5 : Int32) < x) (fun e => e hx), Bool.and_false]; rfl
theorem h37_no {x : Int32} {n : Nat} (hO : RO T m i ν) (hx : x < 0 ∨ (5 : Int32) < x) : h12_takeTold_37 (n + 2) x ν = xri 0 (ft ν (2 + 16 * PT T i)) := by
  have hw := wr_lt hO (w := 2) (by omega) (by omega)
  have hF := (ft_F (μ := ν) hw.1 hw.2).1
  rw [h12_takeTold_37_s, vI_eq, xite_t hO.2.2.2.1, wi_no hx, bI_i, xite_t rfl, ok_wrong hO 2 (w := 2) rfl, bV_v, h12_takeTold_59_s, xite_t (FF_p hF), sI_add0, mS_eq, xite_t (FF_p hF)]
theorem ok_takeTold (hO : RO T m i ν) (hm : PT T m = T.1) (hR : RN h ν) (hNI : NI h) (hG6 : hG h ≤ 6) (hB5 : hB h ≤ 5) (hM3 : hM h ≤ 3) {t : Nat} (ht : t < 3) {p : Int32} (hp : p = nI (20 * t)) :
    (isN T i = false ∧ f12_takeTold p ν = xri 0 (ft ν (1 + 16 * PT T i))) ∨
    (isN T i = true ∧ (∀ j, j < cnt h t → ¬ hN h t j = wq T (PT T i)) ∧ f12_takeTold p ν = xri 0 (ft ν (2 + 16 * PT T i))) ∨
    (isN T i = true ∧ ∃ j, j < cnt h t ∧ hN h t j = wq T (PT T i) ∧ i < m ∧ f12_takeTold p ν = xri (nI j) (ad ν i)) := by
  rw [f12_takeTold_e, k12_takeTold, xite_t hO.2.2.2.1, ok_isName hO, bI_i]
  by_cases hn : isN T i = true
  · have hi : i < m := RO_lt hO hm (by have : kt T i = 3 ∨ 151 ≤ kt T i := by simpa [isN] using hn
                                       omega)
    obtain ⟨b1, b2'⟩ := RO_ad hO hi
    rw [hn, xite_f (show ¬ b2 true = 0 by decide), xite_f (RO_p hO)]
    right
    rcases m_nameAt0 hO hR hNI.1 hn with ⟨s1, s2⟩ | ⟨t', k', s1, s2, s3, s4⟩
    · left
      refine ⟨rfl, fun j hj e => s1 ⟨t, j, ht, hj, e⟩, ?_⟩
      rw [s2, bI_i, hp, show (20000 : Nat) = 19998 + 2 from rfl, h37_no hO (.inl (told_neg t ht))]
    · have hk : k' < 6 := by
        have : cnt h t' ≤ 6 := by unfold cnt; split <;> omega
        omega
      rw [s4, bI_i, hp]
      by_cases et : t' = t
      · right
        subst et
        refine ⟨rfl, k', s2, s3, hi, ?_⟩
        have ev : nI (20 * t' + k') - nI (20 * t') = nI k' := by
          have := pk_sub (a := 20 * t' + k') (b := 20 * t') (by omega)
          rw [Nat.add_sub_cancel_left] at this; exact this
        rw [ev, show (20000 : Nat) = 19998 + 2 from rfl, h12_takeTold_37_s, vI_eq, xite_t hO.2.2.2.1, wi_ok hk, bI_i, xite_f (by decide), h12_takeTold_59_s, xite_f (RO_p hO), ad_eq hO, mS_eq, xite_f (RO_p b1)]
      · left
        refine ⟨rfl, fun j hj e => et (hNI.2 t' k' t j s1 s2 ht hj (s3.trans e.symm)).1, ?_⟩
        rw [show (20000 : Nat) = 19998 + 2 from rfl, h37_no hO (told_out t ht t' s1 et k' hk)]
  · have hn' : isN T i = false := by simpa using hn
    have hw := wr_lt hO (w := 1) (by omega) (by omega)
    have hF := (ft_F (μ := ν) hw.1 hw.2).1
    left
    refine ⟨hn', ?_⟩
    rw [hn', xite_t (show b2 false = 0 from rfl), ok_wrong hO 1 (w := 1) rfl, bV_v, xite_t (FF_p hF), show (20000 : Nat) = 19998 + 2 from rfl, h12_takeTold_37_s, vI_eq, xite_f (FF_0 hF), h12_takeTold_59_s, xite_t (FF_p hF), sI_add0, mS_eq, xite_t (FF_p hF)]
theorem FTp_p1 {μ ν : XM} (h : FTp μ ν) {j k : Nat} {x : Int32} : FTp (pI μ 1 1 j k x) (pI ν 1 1 j k x) := by
  intro t i hn
  by_cases e : t = 1 ∧ i = 1
  · obtain ⟨rfl, rfl⟩ := e
    have h1 := h 1 1 (by omega)
    unfold pI wI
    rw [xset_s, xset_s, h1, aI_ob h1]
  · rw [pI_ne e, pI_ne e]; exact h t i hn
theorem J_told_m {n : Nat} (hC : CO T m i μ) (hH : CH 0 h μ) (hNm : CNm h 0 μ) (hn : n < 40) (h0 : rI μ 1 1 0 = nI n) (hO : RO T m i ν) (hR : RN h ν) (hNI : NI h) :
    (∃ F, (0 < F ∧ F < 2 ^ 31) ∧ f1_readName_m 1 0 (nI (hM h)) 1 μ = xri 0 (fc μ F) ∧ f12_takeTold 40 ν = xri 0 (ft ν F)) ∨
    (∃ j, j < hM h ∧ i < m ∧ (∃ μ', f1_readName_m 1 0 (nI (hM h)) 1 μ = xri 1 μ' ∧ CO T m (i + 1) μ' ∧ FTp (pI μ 1 1 2 n (nI j)) μ') ∧ f12_takeTold 40 ν = xri (nI j) (ad ν i)) := by
  have h6 := CH_6 hH
  have h5 := CH_5 hH
  have h3 := CH_3 hH
  have hw1 := wr_lt hO (w := 1) (by omega) (by omega)
  have hw2 := wr_lt hO (w := 2) (by omega) (by omega)
  rw [f1_readName_m_e, k1_readName_m, cp_isName hC]
  rcases ok_takeTold hO hC.2.2.2.1 hR hNI h6 h5 h3 (t := 2) (by omega) (p := 40) rfl with ⟨a1, a2⟩ | ⟨a1, a2, a3⟩ | ⟨a1, k, a2, a3, a4, a5⟩
  · refine .inl ⟨_, hw1, ?_, a2⟩
    rw [if_neg (by rw [a1]; decide), bI_i, xite_t rfl, xrb_0]
  · have hlet : rL μ 10 0 6 = lN (vb 32 (wq T (PT T i))) := hC.1.2.2.2.2.2 (isN_W a1)
    refine .inl ⟨_, hw2, ?_, a3⟩
    rw [if_pos a1, bI_i, xite_f (by decide), hlet, s2_find_mn (by omega) hNm.2.2 (fun g hg => hNI.1 2 g (by omega) hg) (isN_V a1), bI_i, vI_eq]
    rcases fst_some (c := fun g => decide (hN h 2 g = wq T (PT T i))) (hM h) 0 (by omega) with ⟨c1, c2⟩ | ⟨j, c1, c2, c3, c4⟩
    · rw [c1, xite_t rfl, cp_wrong hC 2 (w := 2) rfl, bI_i, xrb_0]
    · exact absurd (of_decide_eq_true c3) (a2 j (by rw [Nat.zero_add] at c2; exact c2))
  · have hlet : rL μ 10 0 6 = lN (vb 32 (wq T (PT T i))) := hC.1.2.2.2.2.2 (isN_W a1)
    have ak : k < hM h := a2
    have hC2 : CO T m i (pI μ 1 1 2 n (nI k)) := CO_ob (pI_ne (by omega)) hC
    obtain ⟨μ3, d1, d2, d3⟩ := cp_adv hC2 a4
    refine .inr ⟨k, ak, a4, ⟨μ3, ?_, d2, d3⟩, a5⟩
    rw [if_pos a1, bI_i, xite_f (by decide), hlet, s2_find_mn (by omega) hNm.2.2 (fun g hg => hNI.1 2 g (by omega) hg) (isN_V a1), bI_i, vI_eq]
    rcases fst_some (c := fun g => decide (hN h 2 g = wq T (PT T i))) (hM h) 0 (by omega) with ⟨c1, c2⟩ | ⟨j, c1, c2, c3, c4⟩
    · have := c2 k (Nat.zero_le _) (by rw [Nat.zero_add]; exact ak)
      simp [a3] at this
    · rw [Nat.zero_add] at c2
      have e3 := of_decide_eq_true c3
      obtain ⟨_, rfl⟩ := hNI.2 2 j 2 k (by omega) c2 (by omega) ak (e3.trans a3.symm)
      rw [c4, xite_f (by rw [nI_nneg (show j < 2 ^ 31 by omega) (show (-1 : Int32) < 0 by decide)]; exact not_false), h0, xite_t (show nI n < nI 40 from nI_lt hn (by omega)), xck_t (xin_a (show 40 < 2 ^ 31 by omega) hn), nI_clamp (by omega), mS_eq, d1, bV_v, xrb_1]
theorem J_told_b {n : Nat} (hC : CO T m i μ) (hH : CH 0 h μ) (hNm : CNm h 0 μ) (hn : n < 40) (h0 : rI μ 1 1 0 = nI n) (hO : RO T m i ν) (hR : RN h ν) (hNI : NI h) :
    (∃ F, (0 < F ∧ F < 2 ^ 31) ∧ f1_readName_b 1 0 (nI (hB h)) 1 μ = xri 0 (fc μ F) ∧ f12_takeTold 20 ν = xri 0 (ft ν F)) ∨
    (∃ j, j < hB h ∧ i < m ∧ (∃ μ', f1_readName_b 1 0 (nI (hB h)) 1 μ = xri 1 μ' ∧ CO T m (i + 1) μ' ∧ FTp (pI μ 1 1 3 n (nI j)) μ') ∧ f12_takeTold 20 ν = xri (nI j) (ad ν i)) := by
  have h6 := CH_6 hH
  have h5 := CH_5 hH
  have h3 := CH_3 hH
  have hw1 := wr_lt hO (w := 1) (by omega) (by omega)
  have hw2 := wr_lt hO (w := 2) (by omega) (by omega)
  rw [f1_readName_b_e, k1_readName_b, cp_isName hC]
  rcases ok_takeTold hO hC.2.2.2.1 hR hNI h6 h5 h3 (t := 1) (by omega) (p := 20) rfl with ⟨a1, a2⟩ | ⟨a1, a2, a3⟩ | ⟨a1, k, a2, a3, a4, a5⟩
  · refine .inl ⟨_, hw1, ?_, a2⟩
    rw [if_neg (by rw [a1]; decide), bI_i, xite_t rfl, xrb_0]
  · have hlet : rL μ 10 0 6 = lN (vb 32 (wq T (PT T i))) := hC.1.2.2.2.2.2 (isN_W a1)
    refine .inl ⟨_, hw2, ?_, a3⟩
    rw [if_pos a1, bI_i, xite_f (by decide), hlet, s2_find_bn (by omega) hNm.2.1 (fun g hg => hNI.1 1 g (by omega) hg) (isN_V a1), bI_i, vI_eq]
    rcases fst_some (c := fun g => decide (hN h 1 g = wq T (PT T i))) (hB h) 0 (by omega) with ⟨c1, c2⟩ | ⟨j, c1, c2, c3, c4⟩
    · rw [c1, xite_t rfl, cp_wrong hC 2 (w := 2) rfl, bI_i, xrb_0]
    · exact absurd (of_decide_eq_true c3) (a2 j (by rw [Nat.zero_add] at c2; exact c2))
  · have hlet : rL μ 10 0 6 = lN (vb 32 (wq T (PT T i))) := hC.1.2.2.2.2.2 (isN_W a1)
    have ak : k < hB h := a2
    have hC2 : CO T m i (pI μ 1 1 3 n (nI k)) := CO_ob (pI_ne (by omega)) hC
    obtain ⟨μ3, d1, d2, d3⟩ := cp_adv hC2 a4
    refine .inr ⟨k, ak, a4, ⟨μ3, ?_, d2, d3⟩, a5⟩
    rw [if_pos a1, bI_i, xite_f (by decide), hlet, s2_find_bn (by omega) hNm.2.1 (fun g hg => hNI.1 1 g (by omega) hg) (isN_V a1), bI_i, vI_eq]
    rcases fst_some (c := fun g => decide (hN h 1 g = wq T (PT T i))) (hB h) 0 (by omega) with ⟨c1, c2⟩ | ⟨j, c1, c2, c3, c4⟩
    · have := c2 k (Nat.zero_le _) (by rw [Nat.zero_add]; exact ak)
      simp [a3] at this
    · rw [Nat.zero_add] at c2
      have e3 := of_decide_eq_true c3
      obtain ⟨_, rfl⟩ := hNI.2 1 j 1 k (by omega) c2 (by omega) ak (e3.trans a3.symm)
      rw [c4, xite_f (by rw [nI_nneg (show j < 2 ^ 31 by omega) (show (-1 : Int32) < 0 by decide)]; exact not_false), h0, xite_t (show nI n < nI 40 from nI_lt hn (by omega)), xck_t (xin_a (show 40 < 2 ^ 31 by omega) hn), nI_clamp (by omega), mS_eq, d1, bV_v, xrb_1]
theorem J_told_g {n : Nat} (hC : CO T m i μ) (hH : CH 0 h μ) (hNm : CNm h 0 μ) (hn : n < 40) (h0 : rI μ 1 1 0 = nI n) (hO : RO T m i ν) (hR : RN h ν) (hNI : NI h) :
    (∃ F, (0 < F ∧ F < 2 ^ 31) ∧ f1_readName_g 1 0 (nI (hG h)) 1 μ = xri 0 (fc μ F) ∧ f12_takeTold 0 ν = xri 0 (ft ν F)) ∨
    (∃ j, j < hG h ∧ i < m ∧ (∃ μ', f1_readName_g 1 0 (nI (hG h)) 1 μ = xri 1 μ' ∧ CO T m (i + 1) μ' ∧ FTp (pI μ 1 1 4 n (nI j)) μ') ∧ f12_takeTold 0 ν = xri (nI j) (ad ν i)) := by
  have h6 := CH_6 hH
  have h5 := CH_5 hH
  have h3 := CH_3 hH
  have hw1 := wr_lt hO (w := 1) (by omega) (by omega)
  have hw2 := wr_lt hO (w := 2) (by omega) (by omega)
  rw [f1_readName_g_e, k1_readName_g, cp_isName hC]
  rcases ok_takeTold hO hC.2.2.2.1 hR hNI h6 h5 h3 (t := 0) (by omega) (p := 0) rfl with ⟨a1, a2⟩ | ⟨a1, a2, a3⟩ | ⟨a1, k, a2, a3, a4, a5⟩
  · refine .inl ⟨_, hw1, ?_, a2⟩
    rw [if_neg (by rw [a1]; decide), bI_i, xite_t rfl, xrb_0]
  · have hlet : rL μ 10 0 6 = lN (vb 32 (wq T (PT T i))) := hC.1.2.2.2.2.2 (isN_W a1)
    refine .inl ⟨_, hw2, ?_, a3⟩
    rw [if_pos a1, bI_i, xite_f (by decide), hlet, s2_find_gn (by omega) hNm.1 (fun g hg => hNI.1 0 g (by omega) hg) (isN_V a1), bI_i, vI_eq]
    rcases fst_some (c := fun g => decide (hN h 0 g = wq T (PT T i))) (hG h) 0 (by omega) with ⟨c1, c2⟩ | ⟨j, c1, c2, c3, c4⟩
    · rw [c1, xite_t rfl, cp_wrong hC 2 (w := 2) rfl, bI_i, xrb_0]
    · exact absurd (of_decide_eq_true c3) (a2 j (by rw [Nat.zero_add] at c2; exact c2))
  · have hlet : rL μ 10 0 6 = lN (vb 32 (wq T (PT T i))) := hC.1.2.2.2.2.2 (isN_W a1)
    have ak : k < hG h := a2
    have hC2 : CO T m i (pI μ 1 1 4 n (nI k)) := CO_ob (pI_ne (by omega)) hC
    obtain ⟨μ3, d1, d2, d3⟩ := cp_adv hC2 a4
    refine .inr ⟨k, ak, a4, ⟨μ3, ?_, d2, d3⟩, a5⟩
    rw [if_pos a1, bI_i, xite_f (by decide), hlet, s2_find_gn (by omega) hNm.1 (fun g hg => hNI.1 0 g (by omega) hg) (isN_V a1), bI_i, vI_eq]
    rcases fst_some (c := fun g => decide (hN h 0 g = wq T (PT T i))) (hG h) 0 (by omega) with ⟨c1, c2⟩ | ⟨j, c1, c2, c3, c4⟩
    · have := c2 k (Nat.zero_le _) (by rw [Nat.zero_add]; exact ak)
      simp [a3] at this
    · rw [Nat.zero_add] at c2
      have e3 := of_decide_eq_true c3
      obtain ⟨_, rfl⟩ := hNI.2 0 j 0 k (by omega) c2 (by omega) ak (e3.trans a3.symm)
      rw [c4, xite_f (by rw [nI_nneg (show j < 2 ^ 31 by omega) (show (-1 : Int32) < 0 by decide)]; exact not_false), h0, xite_t (show nI n < nI 40 from nI_lt hn (by omega)), xck_t (xin_a (show 40 < 2 ^ 31 by omega) hn), nI_clamp (by omega), mS_eq, d1, bV_v, xrb_1]
end
