/-! THE PURE PART: sums and tests joined, on both sides -/
theorem ok_and {μ : XM} {T : TP} {m i : Nat} (hO : RO T m i μ) : f12_isWord 21 μ = xri (b2 (decide (kt T i = 149))) μ := ok_isWord hO (w := 21) rfl (by omega)
theorem ok_or {μ : XM} {T : TP} {m i : Nat} (hO : RO T m i μ) : f12_isWord 22 μ = xri (b2 (decide (kt T i = 150))) μ := ok_isWord hO (w := 22) rfl (by omega)
theorem ok_not {μ : XM} {T : TP} {m i : Nat} (hO : RO T m i μ) : f12_isWord 20 μ = xri (b2 (decide (kt T i = 148))) μ := ok_isWord hO (w := 20) rfl (by omega)
theorem J_readSum_loop {T : TP} {m lev k N d : Nat} (hP : JJ T m lev k (f7_readProduct N d) (f12_products N d)) : ∀ f i l w n n' μ ν, m ≤ i + f → 2 * f + 2 ≤ n → 2 * f + 1 ≤ n' → w + 1 ≤ i → CO T m i μ → LC 1 l μ → RO T m i ν → RD l ν → l.length ≤ i → ∃ o, GL m i k l o ∧ CR T m μ (h7_readSum_8 N d n (nI lev) 1 (nI w) μ) o ∧ RR T m i l.length ν (h12_sums_5 N d n' (nI lev) ν) o := by
  intro f
  induction f with
  | zero =>
    intro i l w n n' μ ν hm hn hn' hw hC hL hO hD hl
    obtain ⟨n, rfl⟩ : ∃ k, n = k + 1 := ⟨n - 1, by omega⟩
    obtain ⟨n', rfl⟩ : ∃ k, n' = k + 1 := ⟨n' - 1, by omega⟩
    have h1 := hC.2.1
    have h0 : kt T i = 0 := by
      obtain rfl : i = m := by omega
      unfold kt; rw [kq_0, hC.2.2.2.1]; exact Nat.le_refl _
    have hm1 := hC.2.2.2.2.2
    refine ⟨.inr (i, l), ⟨Nat.le_refl _, h1, [], (List.append_nil l).symm, fun c hc => by simp at hc, by simp, HL_nil⟩, ⟨μ, ?_, hC, hL, FE_r⟩, ν, ?_, hO, hD, FZ_r⟩
    · rw [h7_readSum_8_s, xite_f (by decide), xite_t (show nI w < (1000 : Int32) from nI_lt (b := 1000) (by omega) (by omega)), vI_eq, CO_eq hC (c := 43) (by omega) 43 rfl, CO_eq hC (c := 45) (by omega) 45 rfl, h0, xite_f (by decide), xite_f (by decide), xrb_1]
    · rw [h12_sums_5_s, ok_isSign hO (c := 43) (p := 43) rfl (by omega), bI_i, h0, xite_t (by decide), ok_isSign hO (c := 45) (p := 45) rfl (by omega), bI_i, h0, xite_t (by decide)]
  | succ f ih =>
    intro i l w n n' μ ν hm hn hn' hw hC hL hO hD hl
    obtain ⟨n, rfl⟩ : ∃ k, n = k + 3 := ⟨n - 3, by omega⟩
    obtain ⟨n', rfl⟩ : ∃ k, n' = k + 3 := ⟨n' - 3, by omega⟩
    have h1 := hC.2.1
    have hm1 := hC.2.2.2.2.2
    have hw0 : nI w < (1000 : Int32) := nI_lt (b := 1000) (by omega) (by omega)
    -- one more
    have one : ∀ (kd o : Nat) (er : Int32), (kd = 43 ∨ kd = 45) → kt T i = kd → 4 ≤ o → o ≤ 10 → -(nI kd) = enc (o, 0) → er = nI o →
        ∃ o, GL m i k l o ∧ CR T m μ (h7_readSum_45 N d (n + 2) (nI lev) (nI w) (nI kd) μ) o ∧ RR T m i l.length ν (bV (f12_products N d (nI lev) (ad ν i)) fun m5 => bV (f12_emit er 0 m5) fun m7 => h12_sums_5 N d (n' + 1) (nI lev) m7) o := by
      intro kd o er hkd hk ho ho2 henc her
      have hi := CO_lt hC (show kt T i ≠ 0 by omega)
      obtain ⟨μ1, a1, a2, a3⟩ := cp_adv hC hi
      obtain ⟨b1, b2⟩ := RO_adZ hO hi
      have hL1 := LC_ob (a3 4 1 (by omega)) hL
      obtain ⟨ou, g1, g2, g3⟩ := hP (i + 1) l μ1 (ad ν i) a2 hL1 b1 (RD_ad hD) (by omega)
      rw [h7_readSum_45_s, a1, bV_v]
      rcases ou with F | ⟨i', l'⟩
      · obtain ⟨μ2, c1, c2, c3⟩ := g2
        obtain ⟨ν2, d1, d2⟩ := g3
        obtain ⟨ξ, e1, e2⟩ := RF_em (i := i) (c := l.length) d2 hm1 hl er 0
        refine ⟨.inl F, g1, ⟨μ2, ?_, c2, FE_t (FTp_E a3) c3⟩, ξ, ?_, RF_w e2 (by omega) (Nat.le_refl _) b2⟩
        · rw [c1, bI_i, xite_t rfl, vI_eq, vI_eq, h7_readSum_8_s, xite_t rfl, xrb_0]
        · rw [d1, bV_v, e1, bV_v, h12_sums_5_s, fl_isSign e2.1, bI_i, xite_t rfl, fl_isSign e2.1, bI_i, xite_t rfl]
      · obtain ⟨q1, q2, sg, q3, q4, q5, q6⟩ := g1
        replace q1 : i + 1 < i' := q1
        replace q2 : i' ≤ m := q2
        replace q3 : l' = l ++ sg := q3
        replace q5 : sg.length + (i + 1) ≤ i' := q5
        obtain ⟨μ2, c1, c2, c3, c4⟩ := g2
        obtain ⟨ν2, d1, d2, d3, d4⟩ := g3
        have hl' : l'.length < 1000 := by rw [q3, List.length_append]; omega
        obtain ⟨μ3, e1, e2, e3⟩ := c_write hl' c3 (o, 0) henc
        obtain ⟨ν3, r1, r2, r3, r4⟩ := m_emit hl' d3 d2 (o, 0) (p := er) (q := 0) her rfl
        have hC3 : CO T m i' μ3 := CO_ob (e3 10 0 (by omega)) c2
        obtain ⟨ou, v1, v2, v3⟩ := ih i' (l' ++ [(o, 0)]) (w + 1) (n + 1) (n' + 1) μ3 ν3 (by omega) (by omega) (by omega) (by omega) hC3 e2 r3 r2 (by rw [q3]; simp only [List.length_append, List.length_singleton]; omega)
        refine ⟨ou, ?_, ?_, ?_⟩
        · rcases ou with F | ⟨i2, l2⟩
          · exact v1
          · obtain ⟨w1, w2, sg2, w3, w4, w5, w6⟩ := v1
            replace w1 : i' ≤ i2 := w1
            replace w5 : sg2.length + i' ≤ i2 := w5
            refine ⟨by show i ≤ i2; omega, w2, sg ++ [(o, 0)] ++ sg2, ?_, ?_, ?_, HL_op q6 ho w6⟩
            · show l2 = _
              replace w3 : l2 = l' ++ [(o, 0)] ++ sg2 := w3
              rw [w3, q3]; simp only [List.append_assoc]
            · exact mem_app3 (sg_app (i' := 0) (i'' := 0) q4 (cw_op ⟨by omega, ho2⟩)) w4
            · show (sg ++ [(o, 0)] ++ sg2).length + i ≤ i2
              simp only [List.length_append, List.length_singleton]; omega
        · rw [c1, bI_i, xite_f (by decide), e1, bI_i, xite_f (by decide), vI_eq, vI_eq, ← nI_succ]
          exact CR_w (FE_t (FTp_E a3) (FE_t c4 (F41_E e3))) v2
        · rw [d1, bV_v, r1, bV_v]
          rcases ou with F | q
          · obtain ⟨ξ, z1, z2⟩ := v3
            exact ⟨ξ, z1, RF_w z2 (by rw [q3]; simp only [List.length_append, List.length_singleton]; omega) (by omega) (FZ_t b2 (FZ_t d4 r4))⟩
          · obtain ⟨ξ, z1, z2, z3, z4⟩ := v3
            exact ⟨ξ, z1, z2, z3, FZ_t (FZ_t b2 (FZ_t d4 r4)) z4⟩
    have none_ : ¬ kt T i = 43 → ¬ kt T i = 45 → ∃ o, GL m i k l o ∧ CR T m μ (h7_readSum_8 N d (n + 3) (nI lev) 1 (nI w) μ) o ∧ RR T m i l.length ν (h12_sums_5 N d (n' + 3) (nI lev) ν) o := by
      intro z1 z2
      refine ⟨.inr (i, l), ⟨Nat.le_refl _, h1, [], (List.append_nil l).symm, fun c hc => by simp at hc, by simp, HL_nil⟩, ⟨μ, ?_, hC, hL, FE_r⟩, ν, ?_, hO, hD, FZ_r⟩
      · rw [h7_readSum_8_s, xite_f (by decide), xite_t hw0, vI_eq, CO_eq hC (c := 43) (by omega) 43 rfl, CO_eq hC (c := 45) (by omega) 45 rfl, xite_f z1, xite_f z2, xrb_1]
      · rw [h12_sums_5_s, ok_isSign hO (c := 43) (p := 43) rfl (by omega), bI_i, decide_eq_false z1, xite_t (by decide), ok_isSign hO (c := 45) (p := 45) rfl (by omega), bI_i, decide_eq_false z2, xite_t (by decide)]
    by_cases z1 : kt T i = 43
    · obtain ⟨ou, v1, v2, v3⟩ := one 43 4 4 (.inl rfl) z1 (by omega) (by omega) rfl rfl
      refine ⟨ou, v1, ?_, ?_⟩
      · rw [h7_readSum_8_s, xite_f (by decide), xite_t hw0, vI_eq, CO_eq hC (c := 43) (by omega) 43 rfl, xite_t z1, CO_4 hC, z1]; exact v2
      · rw [h12_sums_5_s, ok_isSign hO (c := 43) (p := 43) rfl (by omega), bI_i, decide_eq_true z1, xite_f (by decide), h12_sums_23_s, ok_isSign hO (c := 43) (p := 43) rfl (by omega), bI_i, decide_eq_true z1, vI_eq, ad_eq hO, mS_eq]
        simp only [xite_f (show ¬ b2 true = 0 by decide)]
        exact v3
    · by_cases z2 : kt T i = 45
      · obtain ⟨ou, v1, v2, v3⟩ := one 45 5 5 (.inr rfl) z2 (by omega) (by omega) rfl rfl
        refine ⟨ou, v1, ?_, ?_⟩
        · rw [h7_readSum_8_s, xite_f (by decide), xite_t hw0, vI_eq, CO_eq hC (c := 43) (by omega) 43 rfl, xite_f z1, CO_eq hC (c := 45) (by omega) 45 rfl, xite_t z2, CO_4 hC, z2]; exact v2
        · rw [h12_sums_5_s, ok_isSign hO (c := 43) (p := 43) rfl (by omega), bI_i, decide_eq_false z1, xite_t (by decide), ok_isSign hO (c := 45) (p := 45) rfl (by omega), bI_i, decide_eq_true z2, xite_f (by decide), h12_sums_23_s, ok_isSign hO (c := 43) (p := 43) rfl (by omega), bI_i, decide_eq_false z1, vI_eq, ad_eq hO, mS_eq]
          simp only [xite_t (show b2 false = 0 by decide)]
          exact v3
      · exact none_ z1 z2
theorem J_readSum {T : TP} {m lev k N d : Nat} (hN : 3000 ≤ N) (hP : JJ T m lev k (f7_readProduct N d) (f12_products N d)) : JJ T m lev (k + 1) (f7_readSum N (d + 1)) (f12_sums N (d + 1)) := by
  intro i l μ ν hC hL hO hD hl
  have hm1 := hC.2.2.2.2.2
  obtain ⟨ou, g1, g2, g3⟩ := hP i l μ ν hC hL hO hD hl
  rw [f7_readSum_s, f12_sums_s]
  rcases ou with F | ⟨i', l'⟩
  · obtain ⟨μ2, c1, c2, c3⟩ := g2
    obtain ⟨ν2, d1, d2⟩ := g3
    obtain ⟨N, rfl⟩ : ∃ k, N = k + 1 := ⟨N - 1, by omega⟩
    refine ⟨.inl F, g1, ⟨μ2, ?_, c2, c3⟩, ν2, ?_, d2⟩
    · rw [c1, bI_i, vI_eq, vI_eq, h7_readSum_8_s, xite_t rfl, xrb_0]
    · rw [d1, bV_v, h12_sums_5_s, fl_isSign d2.1, bI_i, xite_t rfl, fl_isSign d2.1, bI_i, xite_t rfl]
  · obtain ⟨q1, q2, sg, q3, q4, q5, q6⟩ := g1
    replace q1 : i < i' := q1
    replace q2 : i' ≤ m := q2
    replace q3 : l' = l ++ sg := q3
    replace q5 : sg.length + i ≤ i' := q5
    obtain ⟨μ2, c1, c2, c3, c4⟩ := g2
    obtain ⟨ν2, d1, d2, d3, d4⟩ := g3
    have hl' : l'.length ≤ i' := by rw [q3, List.length_append]; omega
    obtain ⟨ou, v1, v2, v3⟩ := J_readSum_loop hP (m - i') i' l' 0 N N μ2 ν2 (by omega) (by omega) (by omega) (by omega) c2 c3 d2 d3 hl'
    refine ⟨ou, ?_, ?_, ?_⟩
    · rcases ou with F | ⟨i2, l2⟩
      · exact v1
      · obtain ⟨w1, w2, sg2, w3, w4, w5, w6⟩ := v1
        replace w1 : i' ≤ i2 := w1
        replace w3 : l2 = l' ++ sg2 := w3
        replace w5 : sg2.length + i' ≤ i2 := w5
        refine ⟨by show i < i2; omega, w2, sg ++ sg2, ?_, mem_app3 q4 w4, ?_, Hg_L q6 w6⟩
        · show l2 = _
          rw [w3, q3]; simp only [List.append_assoc]
        · show (sg ++ sg2).length + i ≤ i2
          simp only [List.length_append]; omega
    · rw [c1, bI_i, vI_eq, vI_eq]
      exact CR_w c4 v2
    · rw [d1, bV_v]
      rcases ou with F | q
      · obtain ⟨ξ, z1, z2⟩ := v3
        exact ⟨ξ, z1, RF_w z2 (by rw [q3, List.length_append]; omega) (by omega) d4⟩
      · obtain ⟨ξ, z1, z2, z3, z4⟩ := v3
        exact ⟨ξ, z1, z2, z3, FZ_t d4 z4⟩
theorem J_readE_loop {T : TP} {m lev k N d : Nat} (hP : JJ T m lev k (f7_readTest N d) (f12_test N d)) : ∀ f i l w n n' μ ν, m ≤ i + f → 2 * f + 2 ≤ n → 2 * f + 1 ≤ n' → w + 1 ≤ i → CO T m i μ → LC 1 l μ → RO T m i ν → RD l ν → l.length ≤ i → ∃ o, GL m i k l o ∧ CR T m μ (h7_readE_8 N d n (nI lev) 1 (nI w) μ) o ∧ RR T m i l.length ν (h12_whole_5 N d n' (nI lev) ν) o := by
  intro f
  induction f with
  | zero =>
    intro i l w n n' μ ν hm hn hn' hw hC hL hO hD hl
    obtain ⟨n, rfl⟩ : ∃ k, n = k + 1 := ⟨n - 1, by omega⟩
    obtain ⟨n', rfl⟩ : ∃ k, n' = k + 1 := ⟨n' - 1, by omega⟩
    have h1 := hC.2.1
    have h0 : kt T i = 0 := by
      obtain rfl : i = m := by omega
      unfold kt; rw [kq_0, hC.2.2.2.1]; exact Nat.le_refl _
    have hm1 := hC.2.2.2.2.2
    refine ⟨.inr (i, l), ⟨Nat.le_refl _, h1, [], (List.append_nil l).symm, fun c hc => by simp at hc, by simp, HL_nil⟩, ⟨μ, ?_, hC, hL, FE_r⟩, ν, ?_, hO, hD, FZ_r⟩
    · rw [h7_readE_8_s, xite_f (by decide), xite_t (show nI w < (1000 : Int32) from nI_lt (b := 1000) (by omega) (by omega)), vI_eq, CO_eq hC (c := 149) (by omega) 149 rfl, CO_eq hC (c := 150) (by omega) 150 rfl, h0, xite_f (by decide), xite_f (by decide), xrb_1]
    · rw [h12_whole_5_s, ok_and hO, bI_i, h0, xite_t (by decide), ok_or hO, bI_i, h0, xite_t (by decide)]
  | succ f ih =>
    intro i l w n n' μ ν hm hn hn' hw hC hL hO hD hl
    obtain ⟨n, rfl⟩ : ∃ k, n = k + 3 := ⟨n - 3, by omega⟩
    obtain ⟨n', rfl⟩ : ∃ k, n' = k + 3 := ⟨n' - 3, by omega⟩
    have h1 := hC.2.1
    have hm1 := hC.2.2.2.2.2
    have hw0 : nI w < (1000 : Int32) := nI_lt (b := 1000) (by omega) (by omega)
    -- one more
    have one : ∀ (kd o : Nat) (er : Int32), (kd = 149 ∨ kd = 150) → kt T i = kd → 4 ≤ o → o ≤ 10 → -(nI kd) = enc (o, 0) → er = nI o →
        ∃ o, GL m i k l o ∧ CR T m μ (h7_readE_47 N d (n + 2) (nI lev) (nI w) (nI kd) μ) o ∧ RR T m i l.length ν (bV (f12_test N d (nI lev) (ad ν i)) fun m5 => bV (f12_emit er 0 m5) fun m7 => h12_whole_5 N d (n' + 1) (nI lev) m7) o := by
      intro kd o er hkd hk ho ho2 henc her
      have hi := CO_lt hC (show kt T i ≠ 0 by omega)
      obtain ⟨μ1, a1, a2, a3⟩ := cp_adv hC hi
      obtain ⟨b1, b2⟩ := RO_adZ hO hi
      have hL1 := LC_ob (a3 4 1 (by omega)) hL
      obtain ⟨ou, g1, g2, g3⟩ := hP (i + 1) l μ1 (ad ν i) a2 hL1 b1 (RD_ad hD) (by omega)
      rw [h7_readE_47_s, a1, bV_v]
      rcases ou with F | ⟨i', l'⟩
      · obtain ⟨μ2, c1, c2, c3⟩ := g2
        obtain ⟨ν2, d1, d2⟩ := g3
        obtain ⟨ξ, e1, e2⟩ := RF_em (i := i) (c := l.length) d2 hm1 hl er 0
        refine ⟨.inl F, g1, ⟨μ2, ?_, c2, FE_t (FTp_E a3) c3⟩, ξ, ?_, RF_w e2 (by omega) (Nat.le_refl _) b2⟩
        · rw [c1, bI_i, xite_t rfl, vI_eq, vI_eq, h7_readE_8_s, xite_t rfl, xrb_0]
        · rw [d1, bV_v, e1, bV_v, h12_whole_5_s, fl_isWord e2.1, bI_i, xite_t rfl, fl_isWord e2.1, bI_i, xite_t rfl]
      · obtain ⟨q1, q2, sg, q3, q4, q5, q6⟩ := g1
        replace q1 : i + 1 < i' := q1
        replace q2 : i' ≤ m := q2
        replace q3 : l' = l ++ sg := q3
        replace q5 : sg.length + (i + 1) ≤ i' := q5
        obtain ⟨μ2, c1, c2, c3, c4⟩ := g2
        obtain ⟨ν2, d1, d2, d3, d4⟩ := g3
        have hl' : l'.length < 1000 := by rw [q3, List.length_append]; omega
        obtain ⟨μ3, e1, e2, e3⟩ := c_write hl' c3 (o, 0) henc
        obtain ⟨ν3, r1, r2, r3, r4⟩ := m_emit hl' d3 d2 (o, 0) (p := er) (q := 0) her rfl
        have hC3 : CO T m i' μ3 := CO_ob (e3 10 0 (by omega)) c2
        obtain ⟨ou, v1, v2, v3⟩ := ih i' (l' ++ [(o, 0)]) (w + 1) (n + 1) (n' + 1) μ3 ν3 (by omega) (by omega) (by omega) (by omega) hC3 e2 r3 r2 (by rw [q3]; simp only [List.length_append, List.length_singleton]; omega)
        refine ⟨ou, ?_, ?_, ?_⟩
        · rcases ou with F | ⟨i2, l2⟩
          · exact v1
          · obtain ⟨w1, w2, sg2, w3, w4, w5, w6⟩ := v1
            replace w1 : i' ≤ i2 := w1
            replace w5 : sg2.length + i' ≤ i2 := w5
            refine ⟨by show i ≤ i2; omega, w2, sg ++ [(o, 0)] ++ sg2, ?_, ?_, ?_, HL_op q6 ho w6⟩
            · show l2 = _
              replace w3 : l2 = l' ++ [(o, 0)] ++ sg2 := w3
              rw [w3, q3]; simp only [List.append_assoc]
            · exact mem_app3 (sg_app (i' := 0) (i'' := 0) q4 (cw_op ⟨by omega, ho2⟩)) w4
            · show (sg ++ [(o, 0)] ++ sg2).length + i ≤ i2
              simp only [List.length_append, List.length_singleton]; omega
        · rw [c1, bI_i, xite_f (by decide), e1, bI_i, xite_f (by decide), vI_eq, vI_eq, ← nI_succ]
          exact CR_w (FE_t (FTp_E a3) (FE_t c4 (F41_E e3))) v2
        · rw [d1, bV_v, r1, bV_v]
          rcases ou with F | q
          · obtain ⟨ξ, z1, z2⟩ := v3
            exact ⟨ξ, z1, RF_w z2 (by rw [q3]; simp only [List.length_append, List.length_singleton]; omega) (by omega) (FZ_t b2 (FZ_t d4 r4))⟩
          · obtain ⟨ξ, z1, z2, z3, z4⟩ := v3
            exact ⟨ξ, z1, z2, z3, FZ_t (FZ_t b2 (FZ_t d4 r4)) z4⟩
    have none_ : ¬ kt T i = 149 → ¬ kt T i = 150 → ∃ o, GL m i k l o ∧ CR T m μ (h7_readE_8 N d (n + 3) (nI lev) 1 (nI w) μ) o ∧ RR T m i l.length ν (h12_whole_5 N d (n' + 3) (nI lev) ν) o := by
      intro z1 z2
      refine ⟨.inr (i, l), ⟨Nat.le_refl _, h1, [], (List.append_nil l).symm, fun c hc => by simp at hc, by simp, HL_nil⟩, ⟨μ, ?_, hC, hL, FE_r⟩, ν, ?_, hO, hD, FZ_r⟩
      · rw [h7_readE_8_s, xite_f (by decide), xite_t hw0, vI_eq, CO_eq hC (c := 149) (by omega) 149 rfl, CO_eq hC (c := 150) (by omega) 150 rfl, xite_f z1, xite_f z2, xrb_1]
      · rw [h12_whole_5_s, ok_and hO, bI_i, decide_eq_false z1, xite_t (by decide), ok_or hO, bI_i, decide_eq_false z2, xite_t (by decide)]
    by_cases z1 : kt T i = 149
    · obtain ⟨ou, v1, v2, v3⟩ := one 149 9 9 (.inl rfl) z1 (by omega) (by omega) rfl rfl
      refine ⟨ou, v1, ?_, ?_⟩
      · rw [h7_readE_8_s, xite_f (by decide), xite_t hw0, vI_eq, CO_eq hC (c := 149) (by omega) 149 rfl, xite_t z1, CO_4 hC, z1]; exact v2
      · rw [h12_whole_5_s, ok_and hO, bI_i, decide_eq_true z1, xite_f (by decide), h12_whole_23_s, ok_and hO, bI_i, decide_eq_true z1, vI_eq, ad_eq hO, mS_eq]
        simp only [xite_f (show ¬ b2 true = 0 by decide)]
        exact v3
    · by_cases z2 : kt T i = 150
      · obtain ⟨ou, v1, v2, v3⟩ := one 150 10 10 (.inr rfl) z2 (by omega) (by omega) rfl rfl
        refine ⟨ou, v1, ?_, ?_⟩
        · rw [h7_readE_8_s, xite_f (by decide), xite_t hw0, vI_eq, CO_eq hC (c := 149) (by omega) 149 rfl, xite_f z1, CO_eq hC (c := 150) (by omega) 150 rfl, xite_t z2, CO_4 hC, z2]; exact v2
        · rw [h12_whole_5_s, ok_and hO, bI_i, decide_eq_false z1, xite_t (by decide), ok_or hO, bI_i, decide_eq_true z2, xite_f (by decide), h12_whole_23_s, ok_and hO, bI_i, decide_eq_false z1, vI_eq, ad_eq hO, mS_eq]
          simp only [xite_t (show b2 false = 0 by decide)]
          exact v3
      · exact none_ z1 z2
theorem J_readE {T : TP} {m lev k N d : Nat} (hN : 3000 ≤ N) (hP : JJ T m lev k (f7_readTest N d) (f12_test N d)) : JJ T m lev (k + 1) (f7_readE N (d + 1)) (f12_whole N (d + 1)) := by
  intro i l μ ν hC hL hO hD hl
  have hm1 := hC.2.2.2.2.2
  obtain ⟨ou, g1, g2, g3⟩ := hP i l μ ν hC hL hO hD hl
  rw [f7_readE_s, f12_whole_s]
  rcases ou with F | ⟨i', l'⟩
  · obtain ⟨μ2, c1, c2, c3⟩ := g2
    obtain ⟨ν2, d1, d2⟩ := g3
    obtain ⟨N, rfl⟩ : ∃ k, N = k + 1 := ⟨N - 1, by omega⟩
    refine ⟨.inl F, g1, ⟨μ2, ?_, c2, c3⟩, ν2, ?_, d2⟩
    · rw [c1, bI_i, vI_eq, vI_eq, h7_readE_8_s, xite_t rfl, xrb_0]
    · rw [d1, bV_v, h12_whole_5_s, fl_isWord d2.1, bI_i, xite_t rfl, fl_isWord d2.1, bI_i, xite_t rfl]
  · obtain ⟨q1, q2, sg, q3, q4, q5, q6⟩ := g1
    replace q1 : i < i' := q1
    replace q2 : i' ≤ m := q2
    replace q3 : l' = l ++ sg := q3
    replace q5 : sg.length + i ≤ i' := q5
    obtain ⟨μ2, c1, c2, c3, c4⟩ := g2
    obtain ⟨ν2, d1, d2, d3, d4⟩ := g3
    have hl' : l'.length ≤ i' := by rw [q3, List.length_append]; omega
    obtain ⟨ou, v1, v2, v3⟩ := J_readE_loop hP (m - i') i' l' 0 N N μ2 ν2 (by omega) (by omega) (by omega) (by omega) c2 c3 d2 d3 hl'
    refine ⟨ou, ?_, ?_, ?_⟩
    · rcases ou with F | ⟨i2, l2⟩
      · exact v1
      · obtain ⟨w1, w2, sg2, w3, w4, w5, w6⟩ := v1
        replace w1 : i' ≤ i2 := w1
        replace w3 : l2 = l' ++ sg2 := w3
        replace w5 : sg2.length + i' ≤ i2 := w5
        refine ⟨by show i < i2; omega, w2, sg ++ sg2, ?_, mem_app3 q4 w4, ?_, Hg_L q6 w6⟩
        · show l2 = _
          rw [w3, q3]; simp only [List.append_assoc]
        · show (sg ++ sg2).length + i ≤ i2
          simp only [List.length_append]; omega
    · rw [c1, bI_i, vI_eq, vI_eq]
      exact CR_w c4 v2
    · rw [d1, bV_v]
      rcases ou with F | q
      · obtain ⟨ξ, z1, z2⟩ := v3
        exact ⟨ξ, z1, RF_w z2 (by rw [q3, List.length_append]; omega) (by omega) d4⟩
      · obtain ⟨ξ, z1, z2, z3, z4⟩ := v3
        exact ⟨ξ, z1, z2, z3, FZ_t d4 z4⟩
