/-! THE PURE PART: products, tests and parts, on both sides; a whole E -/
theorem J_prod_loop {T : TP} {m lev k N d : Nat} (hP : JJ T m lev k (f7_readPart N d) (f12_takePart N d)) : ∀ f i l w n n' μ ν, m ≤ i + f → f + 1 ≤ n → f + 1 ≤ n' → w + 1 ≤ i → CO T m i μ → LC 1 l μ → RO T m i ν → RD l ν → l.length ≤ i → ∃ o, GL m i k l o ∧ CR T m μ (h7_readProduct_8 N d n (nI lev) 1 (nI w) μ) o ∧ RR T m i l.length ν (h12_products_5 N d n' (nI lev) ν) o := by
  intro f
  induction f with
  | zero =>
    intro i l w n n' μ ν hm hn hn' hw hC hL hO hD hl
    obtain ⟨n, rfl⟩ : ∃ k, n = k + 1 := ⟨n - 1, by omega⟩
    obtain ⟨n', rfl⟩ : ∃ k, n' = k + 1 := ⟨n' - 1, by omega⟩
    have h1 := hC.2.1
    have h0 : kt T i = 0 := by
      obtain rfl : i = m := by omega
      unfold kt; rw [kq_0, hC.2.2.2.1]; exact Nat.le_refl _
    have hm1 := hC.2.2.2.2.2
    refine ⟨.inr (i, l), ⟨Nat.le_refl _, h1, [], (List.append_nil l).symm, fun c hc => by simp at hc, by simp, HL_nil⟩, ⟨μ, ?_, hC, hL, FE_r⟩, ν, ?_, hO, hD, FZ_r⟩
    · rw [h7_readProduct_8_s, xite_f (by decide), xite_t (show nI w < (1000 : Int32) from nI_lt (b := 1000) (by omega) (by omega)), CO_eq hC (c := 42) (by omega) 42 rfl, h0, xite_f (by decide), xrb_1]
    · rw [h12_products_5_s, ok_hasSign hO (c := 42) (p := 42) rfl (by omega), h0, if_neg (by decide), bI_i, xite_t (by decide)]
  | succ f ih =>
    intro i l w n n' μ ν hm hn hn' hw hC hL hO hD hl
    obtain ⟨n, rfl⟩ : ∃ k, n = k + 2 := ⟨n - 2, by omega⟩
    obtain ⟨n', rfl⟩ : ∃ k, n' = k + 2 := ⟨n' - 2, by omega⟩
    have h1 := hC.2.1
    have hm1 := hC.2.2.2.2.2
    have hw0 : nI w < (1000 : Int32) := nI_lt (b := 1000) (by omega) (by omega)
    by_cases hk : kt T i = 42
    · have hi := CO_lt hC (show kt T i ≠ 0 by omega)
      obtain ⟨μ1, a1, a2, a3⟩ := cp_adv hC hi
      obtain ⟨b1, b2⟩ := RO_adZ hO hi
      have hL1 := LC_ob (a3 4 1 (by omega)) hL
      obtain ⟨ou, g1, g2, g3⟩ := hP (i + 1) l μ1 (ad ν i) a2 hL1 b1 (RD_ad hD) (by omega)
      rw [h7_readProduct_8_s, xite_f (by decide), xite_t hw0, CO_eq hC (c := 42) (by omega) 42 rfl, xite_t hk, a1, bV_v, h12_products_5_s, ok_hasSign hO (c := 42) (p := 42) rfl (by omega), if_pos hk, bI_i, xite_f (by decide)]
      rcases ou with F | ⟨i', l'⟩
      · obtain ⟨μ2, c1, c2, c3⟩ := g2
        obtain ⟨ν2, d1, d2⟩ := g3
        obtain ⟨ξ, e1, e2⟩ := RF_em (i := i) (c := l.length) d2 hm1 hl 6 0
        refine ⟨.inl F, g1, ⟨μ2, ?_, c2, FE_t (FTp_E a3) c3⟩, ξ, ?_, RF_w e2 (by omega) (Nat.le_refl _) b2⟩
        · rw [c1, bI_i, xite_t rfl, vI_eq, vI_eq, h7_readProduct_8_s, xite_t rfl, xrb_0]
        · rw [d1, bV_v, e1, bV_v, h12_products_5_s, fl_hasSign e2.1, bI_i, xite_t rfl]
      · obtain ⟨q1, q2, sg, q3, q4, q5, q6⟩ := g1
        replace q1 : i + 1 < i' := q1
        replace q2 : i' ≤ m := q2
        replace q3 : l' = l ++ sg := q3
        replace q5 : sg.length + (i + 1) ≤ i' := q5
        obtain ⟨μ2, c1, c2, c3, c4⟩ := g2
        obtain ⟨ν2, d1, d2, d3, d4⟩ := g3
        have hl' : l'.length < 1000 := by rw [q3, List.length_append]; omega
        obtain ⟨μ3, e1, e2, e3⟩ := c_write (p := 42) hl' c3 (6, 0) rfl
        obtain ⟨ν3, r1, r2, r3, r4⟩ := m_emit hl' d3 d2 (6, 0) (p := 6) (q := 0) rfl rfl
        have hC3 : CO T m i' μ3 := CO_ob (e3 10 0 (by omega)) c2
        obtain ⟨ou, v1, v2, v3⟩ := ih i' (l' ++ [(6, 0)]) (w + 1) (n + 1) (n' + 1) μ3 ν3 (by omega) (by omega) (by omega) (by omega) hC3 e2 r3 r2 (by rw [q3]; simp only [List.length_append, List.length_singleton]; omega)
        refine ⟨ou, ?_, ?_, ?_⟩
        · rcases ou with F | ⟨i2, l2⟩
          · exact v1
          · obtain ⟨w1, w2, sg2, w3, w4, w5, w6⟩ := v1
            replace w1 : i' ≤ i2 := w1
            replace w5 : sg2.length + i' ≤ i2 := w5
            refine ⟨by show i ≤ i2; omega, w2, sg ++ [(6, 0)] ++ sg2, ?_, ?_, ?_, HL_op q6 (by omega) w6⟩
            · show l2 = _
              replace w3 : l2 = l' ++ [(6, 0)] ++ sg2 := w3
              rw [w3, q3]; simp only [List.append_assoc]
            · exact mem_app3 (sg_app (i' := 0) (i'' := 0) q4 (cw_op (by omega))) w4
            · show (sg ++ [(6, 0)] ++ sg2).length + i ≤ i2
              simp only [List.length_append, List.length_singleton]; omega
        · rw [c1, bI_i, xite_f (by decide), e1, bI_i, xite_f (by decide), vI_eq, vI_eq, ← nI_succ]
          exact CR_w (FE_t (FTp_E a3) (FE_t c4 (F41_E e3))) v2
        · rw [d1, bV_v, r1, bV_v]
          rcases ou with F | q
          · obtain ⟨ξ, z1, z2⟩ := v3
            exact ⟨ξ, z1, RF_w z2 (by rw [q3]; simp only [List.length_append, List.length_singleton]; omega) (by omega) (FZ_t b2 (FZ_t d4 r4))⟩
          · obtain ⟨ξ, z1, z2, z3, z4⟩ := v3
            exact ⟨ξ, z1, z2, z3, FZ_t (FZ_t b2 (FZ_t d4 r4)) z4⟩
    · refine ⟨.inr (i, l), ⟨Nat.le_refl _, h1, [], (List.append_nil l).symm, fun c hc => by simp at hc, by simp, HL_nil⟩, ⟨μ, ?_, hC, hL, FE_r⟩, ν, ?_, hO, hD, FZ_r⟩
      · rw [h7_readProduct_8_s, xite_f (by decide), xite_t hw0, CO_eq hC (c := 42) (by omega) 42 rfl, xite_f hk, xrb_1]
      · rw [h12_products_5_s, ok_hasSign hO (c := 42) (p := 42) rfl (by omega), if_neg hk, bI_i, xite_t rfl]
theorem J_readProduct {T : TP} {m lev k N d : Nat} (hN : 3000 ≤ N) (hP : JJ T m lev k (f7_readPart N d) (f12_takePart N d)) : JJ T m lev (k + 1) (f7_readProduct N (d + 1)) (f12_products N (d + 1)) := by
  intro i l μ ν hC hL hO hD hl
  have hm1 := hC.2.2.2.2.2
  obtain ⟨ou, g1, g2, g3⟩ := hP i l μ ν hC hL hO hD hl
  rw [f7_readProduct_s, f12_products_s]
  rcases ou with F | ⟨i', l'⟩
  · obtain ⟨μ2, c1, c2, c3⟩ := g2
    obtain ⟨ν2, d1, d2⟩ := g3
    obtain ⟨N, rfl⟩ : ∃ k, N = k + 1 := ⟨N - 1, by omega⟩
    refine ⟨.inl F, g1, ⟨μ2, ?_, c2, c3⟩, ν2, ?_, d2⟩
    · rw [c1, bI_i, vI_eq, vI_eq, h7_readProduct_8_s, xite_t rfl, xrb_0]
    · rw [d1, bV_v, h12_products_5_s, fl_hasSign d2.1, bI_i, xite_t rfl]
  · obtain ⟨q1, q2, sg, q3, q4, q5, q6⟩ := g1
    replace q1 : i < i' := q1
    replace q2 : i' ≤ m := q2
    replace q3 : l' = l ++ sg := q3
    replace q5 : sg.length + i ≤ i' := q5
    obtain ⟨μ2, c1, c2, c3, c4⟩ := g2
    obtain ⟨ν2, d1, d2, d3, d4⟩ := g3
    have hl' : l'.length ≤ i' := by rw [q3, List.length_append]; omega
    obtain ⟨ou, v1, v2, v3⟩ := J_prod_loop hP (m - i') i' l' 0 N N μ2 ν2 (by omega) (by omega) (by omega) (by omega) c2 c3 d2 d3 hl'
    refine ⟨ou, ?_, ?_, ?_⟩
    · rcases ou with F | ⟨i2, l2⟩
      · exact v1
      · obtain ⟨w1, w2, sg2, w3, w4, w5, w6⟩ := v1
        replace w1 : i' ≤ i2 := w1
        replace w3 : l2 = l' ++ sg2 := w3
        replace w5 : sg2.length + i' ≤ i2 := w5
        refine ⟨by show i < i2; omega, w2, sg ++ sg2, ?_, mem_app3 q4 w4, ?_, Hg_L q6 w6⟩
        · show l2 = _
          rw [w3, q3]; simp only [List.append_assoc]
        · show (sg ++ sg2).length + i ≤ i2
          simp only [List.length_append]; omega
    · rw [c1, bI_i, vI_eq, vI_eq]
      exact CR_w c4 v2
    · rw [d1, bV_v]
      rcases ou with F | q
      · obtain ⟨ξ, z1, z2⟩ := v3
        exact ⟨ξ, z1, RF_w z2 (by rw [q3, List.length_append]; omega) (by omega) d4⟩
      · obtain ⟨ξ, z1, z2, z3, z4⟩ := v3
        exact ⟨ξ, z1, z2, z3, FZ_t d4 z4⟩
theorem J_readTest {T : TP} {m lev k N d : Nat} (hN : 3000 ≤ N) (hP : JJ T m lev k (f7_readSum N d) (f12_sums N d)) : JJ T m lev (k + 1) (f7_readTest N (d + 1)) (f12_test N (d + 1)) := by
  intro i l μ ν hC hL hO hD hl
  have hm1 := hC.2.2.2.2.2
  obtain ⟨N, rfl⟩ : ∃ k, N = k + 1 := ⟨N - 1, by omega⟩
  obtain ⟨ou, g1, g2, g3⟩ := hP i l μ ν hC hL hO hD hl
  rw [f7_readTest_s, f12_test_s]
  rcases ou with F | ⟨i', l'⟩
  · obtain ⟨μ2, c1, c2, c3⟩ := g2
    obtain ⟨ν2, d1, d2⟩ := g3
    refine ⟨.inl F, g1, ⟨μ2, ?_, c2, c3⟩, ν2, ?_, d2⟩
    · rw [c1, bI_i, xite_t rfl, xrb_0]
    · rw [d1, bV_v, fl_isSign d2.1, bI_i, vI_eq, fl_hasSign d2.1, bI_i, xite_t rfl, fl_hasSign d2.1, bI_i, xite_t rfl]
  · obtain ⟨q1, q2, sg, q3, q4, q5, q6⟩ := g1
    replace q1 : i < i' := q1
    replace q2 : i' ≤ m := q2
    replace q3 : l' = l ++ sg := q3
    replace q5 : sg.length + i ≤ i' := q5
    obtain ⟨μ2, c1, c2, c3, c4⟩ := g2
    obtain ⟨ν2, d1, d2, d3, d4⟩ := g3
    have hl' : l'.length ≤ i' := by rw [q3, List.length_append]; omega
    -- a second one
    have two : ∀ (kd o : Nat) (x er : Int32), (kd = 60 ∨ kd = 61) → kt T i' = kd → 4 ≤ o → o ≤ 10 → -(nI kd) = enc (o, 0) → er = nI o → (∀ m1, h12_test_30 (N + 1) d (N + 1) (nI lev) x m1 = bV (f12_sums (N + 1) d (nI lev) m1) fun m1 => bV (f12_emit er 0 m1) fun m3 => xrv m3) →
        ∃ o, GD m i (k + 1) l o ∧ CR T m μ2 (h7_readTest_32 (N + 1) d (N + 1) (nI lev) (nI kd) μ2) o ∧ RR T m i l.length ν (h12_test_30 (N + 1) d (N + 1) (nI lev) x (ad ν2 i')) o := by
      intro kd o x er hkd hk ho ho2 henc her hx
      have hi := CO_lt c2 (show kt T i' ≠ 0 by omega)
      obtain ⟨μ3, a1, a2, a3⟩ := cp_adv c2 hi
      obtain ⟨b1, b2⟩ := RO_adZ d2 hi
      have hL1 := LC_ob (a3 4 1 (by omega)) c3
      obtain ⟨ou, g1, g2, g3⟩ := hP (i' + 1) l' μ3 (ad ν2 i') a2 hL1 b1 (RD_ad d3) (by omega)
      rw [h7_readTest_32_s, a1, bV_v, hx]
      rcases ou with F | ⟨i2, l2⟩
      · obtain ⟨μ4, c1, c2, c3⟩ := g2
        obtain ⟨ν4, r1, r2⟩ := g3
        obtain ⟨ξ, e1, e2⟩ := RF_em (i := i') (c := l'.length) r2 hm1 hl' er 0
        refine ⟨.inl F, g1, ⟨μ4, ?_, c2, FE_t (FTp_E a3) c3⟩, ξ, ?_, RF_w e2 (by rw [q3, List.length_append]; omega) (by omega) (FZ_t d4 b2)⟩
        · rw [c1, bI_i, xite_t rfl, xrb_0]
        · rw [r1, bV_v, e1, bV_v]
      · obtain ⟨p1, p2, sg2, p3, p4, p5, p6⟩ := g1
        replace p1 : i' + 1 < i2 := p1
        replace p2 : i2 ≤ m := p2
        replace p3 : l2 = l' ++ sg2 := p3
        replace p5 : sg2.length + (i' + 1) ≤ i2 := p5
        obtain ⟨μ4, c1, c2, c3, c4⟩ := g2
        obtain ⟨ν4, r1, r2, r3, r4⟩ := g3
        have hl2 : l2.length < 1000 := by rw [p3, q3, List.length_append, List.length_append]; omega
        obtain ⟨μ5, e1, e2, e3⟩ := c_write hl2 c3 (o, 0) henc
        obtain ⟨ν5, s1, s2, s3, s4⟩ := m_emit hl2 r3 r2 (o, 0) (p := er) (q := 0) her rfl
        have hC3 : CO T m i2 μ5 := CO_ob (e3 10 0 (by omega)) c2
        refine ⟨.inr (i2, l2 ++ [(o, 0)]), ⟨by show i < i2; omega, p2, sg ++ (sg2 ++ [(o, 0)] ++ []), ?_, mem_app3 q4 (mem_app3 (sg_app (i' := 0) (i'' := 0) p4 (cw_op ⟨by omega, ho2⟩)) (fun c hc => by simp at hc)), ?_, Hg_L q6 (HL_op p6 ho HL_nil)⟩, ⟨μ5, ?_, hC3, e2, FE_t (FTp_E a3) (FE_t c4 (F41_E e3))⟩, ν5, ?_, s3, s2, FZ_t d4 (FZ_t b2 (FZ_t r4 s4))⟩
        · show l2 ++ [(o, 0)] = _
          rw [p3, q3]; simp only [List.append_assoc, List.append_nil]
        · show (sg ++ (sg2 ++ [(o, 0)] ++ [])).length + i ≤ i2
          simp only [List.length_append, List.length_singleton, List.length_nil]; omega
        · rw [c1, bI_i, xite_f (by decide), e1, bI_i, xite_f (by decide), xrb_1]
        · rw [r1, bV_v, s1, bV_v]
    rw [c1, bI_i, xite_f (by decide), vI_eq, CO_eq c2 (c := 60) (by omega) 60 rfl, CO_eq c2 (c := 61) (by omega) 61 rfl, d1, bV_v, ok_isSign d2 (c := 60) (p := 60) rfl (by omega), bI_i, vI_eq, ok_hasSign d2 (c := 60) (p := 60) rfl (by omega)]
    by_cases z1 : kt T i' = 60
    · obtain ⟨ou, v1, v2, v3⟩ := two 60 7 (b2 (decide (kt T i' = 60))) 7 (.inl rfl) z1 (by omega) (by omega) rfl rfl (fun m1 => by rw [h12_test_30_s, decide_eq_true z1]; simp only [xite_f (show ¬ b2 true = 0 by decide)])
      refine ⟨ou, v1, CR_w c4 ?_, ?_⟩
      · rw [xite_t z1, CO_4 c2, z1]; exact v2
      · rw [if_pos z1, bI_i, xite_f (by decide)]; exact v3
    · by_cases z2 : kt T i' = 61
      · obtain ⟨ou, v1, v2, v3⟩ := two 61 8 (b2 (decide (kt T i' = 60))) 8 (.inr rfl) z2 (by omega) (by omega) rfl rfl (fun m1 => by rw [h12_test_30_s, decide_eq_false z1]; simp only [xite_t (show b2 false = 0 by decide)])
        refine ⟨ou, v1, CR_w c4 ?_, ?_⟩
        · rw [xite_f z1, xite_t z2, CO_4 c2, z2]; exact v2
        · rw [if_neg z1, bI_i, xite_t rfl, ok_hasSign d2 (c := 61) (p := 61) rfl (by omega), if_pos z2, bI_i, xite_f (by decide)]; exact v3
      · refine ⟨.inr (i', l'), ⟨q1, q2, sg, q3, q4, q5, Hg_le q6 (by omega)⟩, CR_w c4 ⟨μ2, ?_, c2, c3, FE_r⟩, ν2, ?_, d2, d3, d4⟩
        · rw [xite_f z1, xite_f z2, xrb_1]
        · rw [if_neg z1, bI_i, xite_t rfl, ok_hasSign d2 (c := 61) (p := 61) rfl (by omega), if_neg z2, bI_i, xite_t rfl]
section
variable {μ ν : XM} {T : TP} {m i lev N d n : Nat}
theorem ok_hasNot (hO : RO T m i μ) : f12_hasWord 20 μ = if kt T i = 148 then xri 1 (ad μ i) else xri 0 μ := ok_hasWord hO (w := 20) rfl (by omega)
theorem kt2 (hO : RO T m i μ) : (aI μ 12 0 4 i = 2) = (kt T i = 2) := by
  obtain ⟨r1, r2, r3, r4, r5⟩ := hO.1.1 i hO.2.1
  have hs : ∀ k, sqk k < 5 := by intro k; unfold sqk; split <;> (try split) <;> (try split) <;> (try split) <;> omega
  rw [r1, show (2 : Int32) = nI 2 from rfl, propext (nI_eq (by have := hs (kq T (PT T i)); omega) (by omega))]
  unfold kt sqk
  refine propext ⟨fun e => ?_, fun e => ?_⟩
  · split at e
    · cases e
    · split at e
      · cases e
      · split at e
        · assumption
        · split at e <;> cases e
  · rw [if_neg (by omega), if_neg (by omega), if_pos e]
/-- a token that a part may begin with -/
def isP (T : TP) (i : Nat) : Prop := kt T i = 2 ∨ kt T i = 148 ∨ kt T i = 40 ∨ 151 ≤ kt T i
theorem cpx_f : ∀ j, j < 4 → 128 + cpx (23 + j) = 151 + j := by decide
theorem lastw_f (T : TP) (i : Nat) : (lastw T i 23 4 = -1 ∧ ¬ 151 ≤ kt T i) ∨ ∃ j, j < 4 ∧ lastw T i 23 4 = nI j ∧ kt T i = 151 + j := by
  rcases lastw_cases (T := T) (i := i) (a := 23) (n := 4) (by omega) with ⟨h1, h2⟩ | ⟨j, h1, h2, h3⟩
  · refine .inl ⟨h1, fun h => ?_⟩
    have := kt_le (T := T) i
    have h4 := h2 (kt T i - 151) (by omega)
    rw [cpx_f _ (by omega)] at h4
    omega
  · rw [cpx_f j h1] at h3
    exact .inr ⟨j, h1, h2, h3⟩
theorem c_part_ok (hC : CO T m i μ) (hp : isP T i) : f7_readPart N (d + 1) (nI lev) μ = h7_readPart_45 N d N (nI lev) (nI (kt T i)) μ := by
  rw [f7_readPart_s, vI_eq, CO_eq hC (c := 2) (by omega) 2 rfl, CO_eq hC (c := 148) (by omega) 148 rfl, CO_eq hC (c := 40) (by omega) 40 rfl, CO_4 hC, cp_isFact hC]
  by_cases z1 : kt T i = 2
  · rw [xite_t z1]
  by_cases z2 : kt T i = 148
  · rw [xite_f z1, xite_t z2]
  by_cases z3 : kt T i = 40
  · rw [xite_f z1, xite_f z2, xite_t z3]
  have z4 : 151 ≤ kt T i := by rcases hp with h | h | h | h <;> first | contradiction | exact h
  rw [xite_f z1, xite_f z2, xite_f z3, bI_i, decide_eq_true z4, xite_f (by decide)]
theorem c_part_no (hC : CO T m i μ) (hp : ¬ isP T i) : f7_readPart N (d + 1) (nI lev) μ = xri 0 (fc μ (1 + 16 * PT T i)) := by
  have z1 : ¬ kt T i = 2 := fun h => hp (.inl h)
  have z2 : ¬ kt T i = 148 := fun h => hp (.inr (.inl h))
  have z3 : ¬ kt T i = 40 := fun h => hp (.inr (.inr (.inl h)))
  have z4 : ¬ 151 ≤ kt T i := fun h => hp (.inr (.inr (.inr h)))
  rw [f7_readPart_s, vI_eq, CO_eq hC (c := 2) (by omega) 2 rfl, CO_eq hC (c := 148) (by omega) 148 rfl, CO_eq hC (c := 40) (by omega) 40 rfl, cp_isFact hC, xite_f z1, xite_f z2, xite_f z3, bI_i, decide_eq_false z4, xite_t (by decide), cp_wrong hC 1 (w := 1) rfl, bI_i, xrb_0]
theorem m79_F {F : Nat} {v1 v2 v3 : Int32} (hF : FF F ν) : h12_takePart_79 N d (n + 1) v1 v2 v3 ν = xrv ν := by rw [h12_takePart_79_s, xite_t (FF_p hF)]
theorem m_part_ok (hO : RO T m i ν) (hlev : lev ≤ 5) (hp : isP T i) : f12_takePart (n + 3) (d + 1) (nI lev) ν = if lev = 5 then xrv (ft ν (5 + 16 * PT T i)) else h12_takePart_79 (n + 3) d (n + 2) (nI lev) (b2 (decide (kt T i = 2))) (lastw T i 23 4) ν := by
  obtain ⟨x1, x2⟩ := ok_x hO
  have e5 : (nI lev = 5) = (lev = 5) := propext (nI_eq (b := 5) (by omega) (by omega))
  have hF := (ft_F (μ := ν) (wr_lt hO (w := 5) (by omega) (by omega)).1 (wr_lt hO (w := 5) (by omega) (by omega)).2).1
  have fin : ∀ (v2 v3 : Int32), xite (lev = 5) (bV (f12_wrong 5 ν) fun m12 => h12_takePart_79 (n + 3) d (n + 2) (nI lev) v2 v3 m12) (h12_takePart_79 (n + 3) d (n + 2) (nI lev) v2 v3 ν) = if lev = 5 then xrv (ft ν (5 + 16 * PT T i)) else h12_takePart_79 (n + 3) d (n + 2) (nI lev) v2 v3 ν := by
    intro v2 v3
    by_cases h5 : lev = 5
    · rw [xite_t h5, if_pos h5, ok_wrong hO 5 (w := 5) rfl, bV_v, m79_F hF]
    · rw [xite_f h5, if_neg h5]
  have body : ∀ s0 : Int32, s0 = b2 (decide (kt T i = 2)) → h12_takePart_26 (n + 3) d (n + 3) (nI lev) s0 ν = if lev = 5 then xrv (ft ν (5 + 16 * PT T i)) else h12_takePart_79 (n + 3) d (n + 2) (nI lev) (b2 (decide (kt T i = 2))) (lastw T i 23 4) ν := by
    intro s0 hs0
    rw [show n + 3 = (n + 2) + 1 from rfl, h12_takePart_26_s, vI_eq, ok_wordHere hO (a := 23) (n := 4) (p := 23) (q := 4) rfl rfl (by omega), bI_i, vI_eq, e5, ok_isSign hO (c := 40) (p := 40) rfl (by omega), bI_i, ok_not hO, bI_i, ← fin, ← hs0]
    rcases lastw_f T i with ⟨h1, h2⟩ | ⟨j, h1, h2, h3⟩
    · rw [h1, xite_t (show (-1 : Int32) < 0 by decide)]
      by_cases z1 : kt T i = 2
      · rw [xite_f (show ¬ s0 = 0 by rw [hs0, decide_eq_true z1]; decide)]
      · rw [xite_t (show s0 = 0 by rw [hs0, decide_eq_false z1]; rfl)]
        by_cases z3 : kt T i = 40
        · rw [decide_eq_true z3, xite_f (by decide)]
        · rw [decide_eq_false z3, xite_t (by decide)]
          have z2 : kt T i = 148 := by rcases hp with h | h | h | h <;> first | contradiction | exact h
          rw [decide_eq_true z2, xite_f (by decide)]
    · rw [h2, xite_f (nI_pos (by omega))]
  rw [f12_takePart_s, xite_f (RO_p hO), xck_t x1, x2, kt2 hO]
  by_cases z1 : kt T i = 2
  · rw [xite_t z1, body 1 (by rw [decide_eq_true z1]; rfl)]
  · rw [xite_f z1, body 0 (by rw [decide_eq_false z1]; rfl)]
theorem m_part_no (hO : RO T m i ν) (hp : ¬ isP T i) : f12_takePart (n + 3) (d + 1) (nI lev) ν = xrv (ft ν (1 + 16 * PT T i)) := by
  obtain ⟨x1, x2⟩ := ok_x hO
  have z1 : ¬ kt T i = 2 := fun h => hp (.inl h)
  have z2 : ¬ kt T i = 148 := fun h => hp (.inr (.inl h))
  have z3 : ¬ kt T i = 40 := fun h => hp (.inr (.inr (.inl h)))
  have z4 : ¬ 151 ≤ kt T i := fun h => hp (.inr (.inr (.inr h)))
  have hF := (ft_F (μ := ν) (wr_lt hO (w := 1) (by omega) (by omega)).1 (wr_lt hO (w := 1) (by omega) (by omega)).2).1
  have h1 : lastw T i 23 4 = -1 := by
    rcases lastw_f T i with ⟨h1, h2⟩ | ⟨j, h1, h2, h3⟩
    · exact h1
    · omega
  rw [f12_takePart_s, xite_f (RO_p hO), xck_t x1, x2, kt2 hO, xite_f z1, show n + 3 = (n + 2) + 1 from rfl, h12_takePart_26_s, vI_eq, ok_wordHere hO (a := 23) (n := 4) (p := 23) (q := 4) rfl rfl (by omega), bI_i, vI_eq, h1, xite_t (show (-1 : Int32) < 0 by decide), xite_t rfl, ok_isSign hO (c := 40) (p := 40) rfl (by omega), bI_i, decide_eq_false z3, xite_t (by decide), ok_not hO, bI_i, decide_eq_false z2, xite_t (by decide), ok_wrong hO 1 (w := 1) rfl, bV_v, m79_F hF]
end
theorem J_readPart {T : TP} {m lev k N d : Nat} (hN : 3000 ≤ N) (hlev : lev ≤ 5) (hk : 1 ≤ k) (hP : lev < 5 → JJ T m (lev + 1) k (f7_readPart N d) (f12_takePart N d)) (hE : lev < 5 → JJ T m (lev + 1) k (f7_readE N d) (f12_whole N d)) : JJ T m lev k (f7_readPart N (d + 1)) (f12_takePart N (d + 1)) := by
  intro i l μ ν hC hL hO hD hl
  have hm1 := hC.2.2.2.2.2
  have him := hC.2.1
  obtain ⟨n, rfl⟩ : ∃ k, N = k + 3 := ⟨N - 3, by omega⟩
  by_cases hp : isP T i
  rotate_left
  · have hw := wr_lt hO (w := 1) (by omega) (by omega)
    rw [c_part_no hC hp, m_part_no hO hp]
    exact ⟨.inl _, hw, CR_F, _, rfl, RF_ft hO hD.1 hw.1 hw.2⟩
  rw [c_part_ok hC hp, m_part_ok hO hlev hp, show n + 3 = (n + 2) + 1 from rfl, h7_readPart_45_s]
  by_cases h5 : lev = 5
  · have hw := wr_lt hO (w := 5) (by omega) (by omega)
    subst h5
    rw [xite_f (show ¬ nI 5 < (5 : Int32) by decide), cp_wrong hC 5 (w := 5) rfl, bI_i, xrb_0, if_pos rfl]
    exact ⟨.inl _, hw, CR_F, _, rfl, RF_ft hO hD.1 hw.1 hw.2⟩
  have h5' : lev < 5 := by omega
  have hi : i < m := CO_lt hC (by rcases hp with h | h | h | h <;> omega)
  obtain ⟨μ1, a1, a2, a3⟩ := cp_adv hC hi
  obtain ⟨b1, b2'⟩ := RO_adZ hO hi
  have hL1 := LC_ob (a3 4 1 (by omega)) hL
  have hkl := kt_le (T := T) i
  have q : ∀ c, c < 1000 → (nI (kt T i) = nI c) = (kt T i = c) := fun c hc => propext (nI_eq (by omega) (by omega))
  have q1 : (nI (kt T i) = 148) = (kt T i = 148) := q 148 (by omega)
  have q2 : (nI (kt T i) = 40) = (kt T i = 40) := q 40 (by omega)
  have q3 : (nI (kt T i) = 2) = (kt T i = 2) := q 2 (by omega)
  rw [xite_t (show nI lev < (5 : Int32) from nI_lt (b := 5) h5' (by omega)), vI_eq, a1, bV_v, q1, q2, q3, if_neg h5, ← nI_succ, h12_takePart_79_s, xite_f (RO_p hO), ok_hasNot hO, ← nI_succ]
  by_cases z1 : kt T i = 148
  · -- not
    rw [xite_t z1, if_pos z1, bI_i, xite_f (by decide)]
    obtain ⟨ou, g1, g2, g3⟩ := hP h5' (i + 1) l μ1 (ad ν i) a2 hL1 b1 (RD_ad hD) (by omega)
    rcases ou with F | ⟨i', l'⟩
    · obtain ⟨μ2, c1, c2, c3⟩ := g2
      obtain ⟨ν2, d1, d2⟩ := g3
      obtain ⟨ξ, e1, e2⟩ := RF_em (i := i) (c := l.length) d2 hm1 hl 3 0
      refine ⟨.inl F, g1, ⟨μ2, ?_, c2, FE_t (FTp_E a3) c3⟩, ξ, ?_, RF_w e2 (by omega) (Nat.le_refl _) b2'⟩
      · rw [c1, bI_i, xite_t rfl, xrb_0]
      · rw [d1, bV_v, e1, bV_v]
    · obtain ⟨q1, q2, sg, q3, q4, q5, q6⟩ := g1
      replace q1 : i + 1 < i' := q1
      replace q2 : i' ≤ m := q2
      replace q3 : l' = l ++ sg := q3
      replace q5 : sg.length + (i + 1) ≤ i' := q5
      obtain ⟨μ2, c1, c2, c3, c4⟩ := g2
      obtain ⟨ν2, d1, d2, d3, d4⟩ := g3
      have hl' : l'.length < 1000 := by rw [q3, List.length_append]; omega
      obtain ⟨μ3, e1, e2, e3⟩ := c_write (p := nI (kt T i)) hl' c3 (3, 0) (by rw [z1]; rfl)
      obtain ⟨ν3, r1, r2, r3, r4⟩ := m_emit hl' d3 d2 (3, 0) (p := 3) (q := 0) rfl rfl
      refine ⟨.inr (i', l' ++ [(3, 0)]), ⟨by show i < i'; omega, q2, sg ++ [(3, 0)], ?_, sg_app (i' := 0) (i'' := 0) q4 (cw_op (by omega)), ?_, Hg_not q6⟩, ⟨μ3, ?_, CO_ob (e3 10 0 (by omega)) c2, e2, FE_t (FTp_E a3) (FE_t c4 (F41_E e3))⟩, ν3, ?_, r3, r2, FZ_t b2' (FZ_t d4 r4)⟩
      · show l' ++ [(3, 0)] = _
        rw [q3]; simp only [List.append_assoc]
      · show (sg ++ [(3, 0)]).length + i ≤ i'
        simp only [List.length_append, List.length_singleton]; omega
      · rw [c1, bI_i, xite_f (by decide), e1, bI_i, xite_f (by decide), xrb_1]
      · rw [d1, bV_v, r1, bV_v]
  rw [xite_f z1, if_neg z1, bI_i, xite_t rfl, ok_hasSign hO (c := 40) (p := 40) rfl (by omega)]
  by_cases z2 : kt T i = 40
  · rw [xite_t z2, if_pos z2, bI_i, xite_f (by decide)]
    obtain ⟨ou, g1, g2, g3⟩ := hE h5' (i + 1) l μ1 (ad ν i) a2 hL1 b1 (RD_ad hD) (by omega)
    rcases ou with F | ⟨i', l'⟩
    · obtain ⟨μ2, c1, c2, c3⟩ := g2
      obtain ⟨ν2, d1, d2⟩ := g3
      refine ⟨.inl F, g1, ⟨μ2, ?_, c2, FE_t (FTp_E a3) c3⟩, ν2, ?_, RF_w d2 (by omega) (by omega) b2'⟩
      · rw [c1, bI_i, xite_t rfl, xrb_0]
      · rw [d1, bV_v, fl_takeSign d2.1, bV_v]
    · obtain ⟨q1, q2, sg, q3, q4, q5, q6⟩ := g1
      replace q1 : i + 1 < i' := q1
      replace q2 : i' ≤ m := q2
      replace q3 : l' = l ++ sg := q3
      replace q5 : sg.length + (i + 1) ≤ i' := q5
      obtain ⟨μ2, c1, c2, c3, c4⟩ := g2
      obtain ⟨ν2, d1, d2, d3, d4⟩ := g3
      replace c2 : CO T m i' μ2 := c2
      replace d2 : RO T m i' ν2 := d2
      rw [c1, bI_i, xite_f (by decide), d1, bV_v, ok_takeSign d2 (c := 41) (p := 41) rfl (by omega)]
      rcases cp_take c2 (c := 41) (p := 41) rfl (by omega) (by omega) with ⟨h1, μ3, e1, e2, e3⟩ | ⟨h1, e1⟩
      · have hi' := CO_lt c2 (show kt T i' ≠ 0 by omega)
        obtain ⟨s1, s2⟩ := RO_adZ d2 hi'
        rw [e1, bI_i, xite_f (by decide), xrb_1, if_pos h1, bV_v]
        refine ⟨.inr (i' + 1, l'), ⟨by show i < i' + 1; omega, hi', sg, q3, q4, ?_, q6⟩, ⟨μ3, rfl, e2, LC_ob (e3 4 1 (by omega)) c3, FE_t (FTp_E a3) (FE_t c4 (FTp_E e3))⟩, _, rfl, s1, RD_ad d3, FZ_t b2' (FZ_t d4 s2)⟩
        show sg.length + i ≤ i' + 1
        omega
      · have hw := wr_lt d2 (w := 1) (by omega) (by omega)
        rw [e1, bI_i, xite_t rfl, xrb_0, if_neg h1, bV_v]
        exact ⟨.inl _, hw, CR_w (FE_t (FTp_E a3) c4) CR_F, _, rfl, RF_w (RF_ft d2 d3.1 hw.1 hw.2) (by rw [q3, List.length_append]; omega) (by omega) (FZ_t b2' d4)⟩
  rw [xite_f z2, if_neg z2, bI_i, xite_t rfl]
  by_cases z3 : kt T i = 2
  · -- a number
    obtain ⟨_, _, _, _, v5⟩ := vq_lt z3
    obtain ⟨x1, x2⟩ := ok_x hO
    obtain ⟨r1, r2, r3, r4, r5⟩ := hO.1.1 i hO.2.1
    have hl' : l.length < 1000 := by omega
    obtain ⟨μ2, e1, e2, e3⟩ := c_number hl' hL1 (1, nI (vq T (PT T i))) (p := nI (vq T (PT T i))) rfl
    obtain ⟨ν2, s1, s2, s3, s4⟩ := m_emit hl' hD hO (1, nI (vq T (PT T i))) (p := 1) (q := nI (vq T (PT T i))) rfl rfl
    obtain ⟨t1, t2⟩ := RO_adZ s3 hi
    rw [xite_t z3, hC.1.2.2.2.2.1 z3, e1, bV_v, xrb_1, decide_eq_true z3, xite_f (by decide), h12_takePart_147_s, xite_f (by decide), xck_t x1, x2, r3 z3, lN_i, s1, bV_v, ad_eq s3, mS_eq]
    refine ⟨.inr (i + 1, l ++ [(1, nI (vq T (PT T i)))]), ⟨by show i < i + 1; omega, hi, [(1, nI (vq T (PT T i)))], rfl, fun c hc => ?_, ?_, Hg_one hk (.inl rfl)⟩, ⟨μ2, rfl, CO_ob (e3 10 0 (by omega)) a2, e2, FE_t (FTp_E a3) (F41_E e3)⟩, _, rfl, t1, RD_ad s2, FZ_t s4 t2⟩
    · rw [List.mem_singleton] at hc; rw [hc]; exact .inl ⟨rfl, _, v5, rfl⟩
    · show 1 + i ≤ i + 1
      omega
  · -- a fact
    have z4 : 151 ≤ kt T i := by rcases hp with h | h | h | h <;> first | contradiction | exact h
    rcases lastw_f T i with ⟨h1, h2⟩ | ⟨j, h1, h2, h3⟩
    · exact absurd z4 h2
    have hl' : l.length < 1000 := by omega
    obtain ⟨μ2, e1, e2, e3⟩ := c_write hl' hL1 (2, nI j) (p := nI (kt T i)) (by rw [h3, ← nI_add]; rfl)
    obtain ⟨ν2, s1, s2, s3, s4⟩ := m_emit hl' hD hO (2, nI j) (p := 2) (q := nI j) rfl rfl
    obtain ⟨t1, t2⟩ := RO_adZ s3 hi
    rw [xite_f z3, e1, bI_i, xrb_1, decide_eq_false z3, xite_t (by decide), h12_takePart_147_s, xite_t (by decide), h2, s1, bV_v, ad_eq s3, mS_eq]
    refine ⟨.inr (i + 1, l ++ [(2, nI j)]), ⟨by show i < i + 1; omega, hi, [(2, nI j)], rfl, fun c hc => ?_, ?_, Hg_one hk (.inr rfl)⟩, ⟨μ2, rfl, CO_ob (e3 10 0 (by omega)) a2, e2, FE_t (FTp_E a3) (F41_E e3)⟩, _, rfl, t1, RD_ad s2, FZ_t s4 t2⟩
    · rw [List.mem_singleton] at hc; rw [hc]; exact .inr (.inl ⟨rfl, _, h1, rfl⟩)
    · show 1 + i ≤ i + 1
      omega
theorem JJ_le {T : TP} {m lev k k' : Nat} {fc fr : Int32 → XM → XR} (h : JJ T m lev k fc fr) (hk : k ≤ k') : JJ T m lev k' fc fr := by
  intro i l μ ν hC hL hO hD hl
  obtain ⟨o, g1, g2, g3⟩ := h i l μ ν hC hL hO hD hl
  refine ⟨o, ?_, g2, g3⟩
  rcases o with F | q
  · exact g1
  · obtain ⟨q1, q2, sg, q3, q4, q5, q6⟩ := g1
    exact ⟨q1, q2, sg, q3, q4, q5, Hg_le q6 hk⟩
theorem J_part_all {T : TP} {m N : Nat} (hN : 3000 ≤ N) : ∀ q, q ≤ 5 → ∀ d, 1 + 5 * q ≤ d → JJ T m (5 - q) (1 + 4 * q) (f7_readPart N d) (f12_takePart N d)
  | 0, _, d, hd => by
    obtain ⟨d, rfl⟩ : ∃ e, d = e + 1 := ⟨d - 1, by omega⟩
    exact J_readPart hN (by omega) (by omega) (fun h => by omega) (fun h => by omega)
  | q + 1, hq, d, hd => by
    obtain ⟨d, rfl⟩ : ∃ e, d = e + 5 := ⟨d - 5, by omega⟩
    have e1 : 5 - (q + 1) + 1 = 5 - q := by omega
    refine J_readPart hN (by omega) (by omega) (fun _ => ?_) (fun _ => ?_)
    · rw [e1]; exact JJ_le (J_part_all hN q (by omega) (d + 4) (by omega)) (by omega)
    · rw [e1]
      have h := J_part_all (T := T) (m := m) hN q (by omega) d (by omega)
      exact JJ_le (J_readE hN (J_readTest hN (J_readSum hN (J_readProduct hN h)))) (by omega)
/-- a whole E -/
theorem J_all {T : TP} {m : Nat} : JJ T m 0 25 (f7_readE 20000 64) (f12_whole 20000 64) := by
  have h := J_part_all (T := T) (m := m) (N := 20000) (by omega) 5 (by omega) 60 (by omega)
  exact J_readE (by omega) (J_readTest (by omega) (J_readSum (by omega) (J_readProduct (by omega) h)))
