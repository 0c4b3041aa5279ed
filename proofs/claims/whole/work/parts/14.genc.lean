def t7_readKind : List XE := [(0, .aload_n 0, 0, 0, 0, 0, []),
  (1, .getfield 18, 7, 1, 0, 0, []),
  (4, .getfield 40, 10, 4, 0, 0, []),
  (7, .sipush 140, 0, 0, 140, 0, []),
  (10, .if_icmp .lt 16, 26, 0, 0, 0, []),
  (13, .aload_n 0, 0, 0, 0, 0, []),
  (14, .getfield 18, 7, 1, 0, 0, []),
  (17, .getfield 40, 10, 4, 0, 0, []),
  (20, .sipush 143, 0, 0, 143, 0, []),
  (23, .if_icmp .le 12, 35, 0, 0, 0, []),
  (26, .aload_n 0, 0, 0, 0, 0, []),
  (27, .getfield 18, 7, 1, 0, 0, []),
  (30, .iconst 1, 0, 0, 1, 0, []),
  (31, .invokevirtual 73, 2, 10, 0, 0, []),
  (34, .ireturn, 0, 0, 0, 0, []),
  (35, .iload_n 2, 2, 0, 0, 0, []),
  (36, .ifCond .lt 23, 59, 0, 0, 0, []),
  (39, .iload_n 2, 2, 0, 0, 0, []),
  (40, .aload_n 1, 1, 0, 0, 0, []),
  (41, .arraylength, 0, 0, 0, 0, []),
  (42, .if_icmp .ge 17, 59, 0, 0, 0, []),
  (45, .aload_n 1, 1, 0, 0, 0, []),
  (46, .iload_n 2, 2, 0, 0, 0, []),
  (47, .aload_n 0, 0, 0, 0, 0, []),
  (48, .getfield 18, 7, 1, 0, 0, []),
  (51, .getfield 40, 10, 4, 0, 0, []),
  (54, .sipush 140, 0, 0, 140, 0, []),
  (57, .isub, 0, 0, 0, 0, []),
  (58, .iastore, 0, 0, 0, 0, []),
  (59, .aload_n 0, 0, 0, 0, 0, []),
  (60, .getfield 18, 7, 1, 0, 0, []),
  (63, .invokevirtual 79, 1, 10, 0, 0, []),
  (66, .iconst 1, 0, 0, 1, 0, []),
  (67, .ireturn, 0, 0, 0, 0, [])]
noncomputable def e7_readKind : XN := [(73, 1, 2, 10, F10_wrong), (79, 0, 1, 10, F10_advance)]
noncomputable def k7_readKind_kd (i1 : Nat) (p2 : Int32) (μ : XM) : XR :=
  xite ((rI μ 10 0 4) < 140) (
    bI (f10_wrong 1 μ) fun r2 m1 =>
    xrb r2 m1) (
    xite ((143 : Int32) < (rI μ 10 0 4)) (
      bI (f10_wrong 1 μ) fun r4 m3 =>
      xrb r4 m3) (
      xite (p2 < 0) (
        bV (f10_advance μ) fun m5 =>
        xrb 1 m5) (
        xite (p2 < (nI 6)) (
          xck (xin p2 6 && true) <|
          mS (pI μ 2 i1 6 (Int32.toNatClampNeg p2) ((rI μ 10 0 4) - 140)) fun m6 =>
          bV (f10_advance m6) fun m7 =>
          xrb 1 m7) (
          bV (f10_advance μ) fun m8 =>
          xrb 1 m8))))
set_option maxRecDepth 100000 in
theorem q7_readKind_kd (n : Nat) (i1 : Nat) (p2 : Int32) (μ : XM) : xrun t7_readKind e7_readKind (xrtk (some .boolean)) 39 n (xlo [xr 7 0 0, xr 2 i1 7, xi p2] 3) μ = k7_readKind_kd i1 p2 μ := rfl
theorem x7_readKind_kd : ∃ f : Nat → Int32 → XM → XR, ∀ (i1 : Nat) (p2 : Int32) (μ : XM), f i1 p2 μ = k7_readKind_kd i1 p2 μ := ⟨fun i1 p2 μ => k7_readKind_kd i1 p2 μ, fun i1 p2 μ => rfl⟩
noncomputable def f7_readKind_kd : Nat → Int32 → XM → XR := Classical.choose x7_readKind_kd
theorem f7_readKind_kd_e (i1 : Nat) (p2 : Int32) (μ : XM) : f7_readKind_kd i1 p2 μ = k7_readKind_kd i1 p2 μ := Classical.choose_spec x7_readKind_kd i1 p2 μ
noncomputable def F7_readKind : XF := fun av μ => match av with
  | [.inr (.inr (some (t0, i0, 0))), .inr (.inr (some (t1, i1, j1 + 1))), .inl p2] => bif Nat.beq t0 7 && Nat.beq i0 0 && Nat.beq t1 2 && Nat.beq j1 6 then f7_readKind_kd i1 p2 μ else none
  | _ => none
set_option maxRecDepth 100000 in
theorem c7_readKind {X : XP} (hX : XOK X) (l : Launch) : Ctr X l y7_readKind prog_9_method_10_code 3 (some .boolean) (xrm 11) 0 0 F7_readKind :=
  Ctr_of (tab := t7_readKind) (env := e7_readKind) (K := 39) (N := 20000) (fl := fl7) (cl := cl7) (ll := ll7) (jl := jl7) hX mf7_readKind.2.2.2 ⟨by decide +kernel, flk7, clk7, llk7, jlk7⟩
   (List.forall_mem_cons.mpr ⟨xcal_v (na := 1) (c10_wrong hX l) mf10_wrong ⟨rfl, rfl⟩ ml7_73 mi10_wrong me10_wrong (xrm_ok (by omega) (by decide)) rfl (by decide) (by decide +kernel), List.forall_mem_cons.mpr ⟨xcal_v (na := 0) (c10_advance hX l) mf10_advance ⟨rfl, rfl⟩ ml7_79 mi10_advance me10_advance (xrm_ok (by omega) (by decide)) rfl (by decide) (by decide +kernel), fun _ h => absurd h List.not_mem_nil⟩⟩)
   (xrm_1 (by decide)) ⟨_, _, rfl, rfl⟩ (fun av μ r μ' h => by
    unfold F7_readKind at h
    split at h
    · replace h := cond_inv h; obtain ⟨hb, h⟩ := h
      simp only [Bool.and_eq_true] at hb
      obtain ⟨⟨⟨g0, g1⟩, g2⟩, g3⟩ := hb
      obtain rfl := Nat.eq_of_beq_eq_true g0
      obtain rfl := Nat.eq_of_beq_eq_true g1
      obtain rfl := Nat.eq_of_beq_eq_true g2
      obtain rfl := Nat.eq_of_beq_eq_true g3
      exact ⟨Nat.le_of_ble_eq_true rfl, (q7_readKind_kd _ _ _ _).trans ((f7_readKind_kd_e _ _ _).symm.trans h)⟩
    · cases h)
def t10_isNumber : List XE := [(0, .aload_n 0, 0, 0, 0, 0, []),
  (1, .getfield 37, 10, 4, 0, 0, []),
  (4, .iconst 2, 0, 0, 2, 0, []),
  (5, .if_icmp .eq 9, 14, 0, 0, 0, []),
  (8, .aload_n 0, 0, 0, 0, 0, []),
  (9, .iconst 1, 0, 0, 1, 0, []),
  (10, .invokevirtual 79, 2, 10, 0, 0, []),
  (13, .ireturn, 0, 0, 0, 0, []),
  (14, .aload_n 0, 0, 0, 0, 0, []),
  (15, .getfield 56, 10, 5, 0, 0, []),
  (18, .iload_n 1, 1, 0, 0, 0, []),
  (19, .if_icmp .lt 11, 30, 0, 0, 0, []),
  (22, .aload_n 0, 0, 0, 0, 0, []),
  (23, .getfield 56, 10, 5, 0, 0, []),
  (26, .iload_n 2, 2, 0, 0, 0, []),
  (27, .if_icmp .le 11, 38, 0, 0, 0, []),
  (30, .aload_n 0, 0, 0, 0, 0, []),
  (31, .iconst 4, 0, 0, 4, 0, []),
  (32, .invokevirtual 79, 2, 10, 0, 0, []),
  (35, .ifCond .eq 7, 42, 0, 0, 0, []),
  (38, .iconst 1, 0, 0, 1, 0, []),
  (39, .goto 4, 43, 0, 0, 0, []),
  (42, .iconst 0, 0, 0, 0, 0, []),
  (43, .ireturn, 0, 0, 0, 0, [])]
noncomputable def e10_isNumber : XN := [(79, 1, 2, 10, F10_wrong)]
noncomputable def k10_isNumber (p1 : Int32) (p2 : Int32) (μ : XM) : XR :=
  xite ((rI μ 10 0 4) = 2) (
    xite ((rI μ 10 0 5) < p1) (
      bI (f10_wrong 4 μ) fun r2 m1 =>
      xite (r2 = 0) (
        xrb 0 m1) (
        xrb 1 m1)) (
      xite (p2 < (rI μ 10 0 5)) (
        bI (f10_wrong 4 μ) fun r4 m3 =>
        xite (r4 = 0) (
          xrb 0 m3) (
          xrb 1 m3)) (
        xrb 1 μ))) (
    bI (f10_wrong 1 μ) fun r6 m5 =>
    xrb r6 m5)
set_option maxRecDepth 100000 in
theorem q10_isNumber (n : Nat) (p1 : Int32) (p2 : Int32) (μ : XM) : xrun t10_isNumber e10_isNumber (xrtk (some .boolean)) 29 n (xlo [xr 10 0 0, xi p1, xi p2] 3) μ = k10_isNumber p1 p2 μ := rfl
theorem x10_isNumber : ∃ f : Int32 → Int32 → XM → XR, ∀ (p1 : Int32) (p2 : Int32) (μ : XM), f p1 p2 μ = k10_isNumber p1 p2 μ := ⟨fun p1 p2 μ => k10_isNumber p1 p2 μ, fun p1 p2 μ => rfl⟩
noncomputable def f10_isNumber : Int32 → Int32 → XM → XR := Classical.choose x10_isNumber
theorem f10_isNumber_e (p1 : Int32) (p2 : Int32) (μ : XM) : f10_isNumber p1 p2 μ = k10_isNumber p1 p2 μ := Classical.choose_spec x10_isNumber p1 p2 μ
noncomputable def F10_isNumber : XF := fun av μ => match av with
  | [.inr (.inr (some (t0, i0, 0))), .inl p1, .inl p2] => bif Nat.beq t0 10 && Nat.beq i0 0 then f10_isNumber p1 p2 μ else none
  | _ => none
set_option maxRecDepth 100000 in
theorem c10_isNumber {X : XP} (hX : XOK X) (l : Launch) : Ctr X l y10_isNumber prog_12_method_13_code 3 (some .boolean) (xrm 2) 0 0 F10_isNumber :=
  Ctr_of (tab := t10_isNumber) (env := e10_isNumber) (K := 29) (N := 20000) (fl := fl10) (cl := cl10) (ll := ll10) (jl := jl10) hX mf10_isNumber.2.2.2 ⟨by decide +kernel, flk10, clk10, llk10, jlk10⟩
   (List.forall_mem_cons.mpr ⟨xcal_v (na := 1) (c10_wrong hX l) mf10_wrong ⟨rfl, rfl⟩ ml10_79 mi10_wrong me10_wrong (xrm_ok (by omega) (by decide)) rfl (by decide) (by decide +kernel), fun _ h => absurd h List.not_mem_nil⟩)
   (xrm_1 (by decide)) ⟨_, _, rfl, rfl⟩ (fun av μ r μ' h => by
    unfold F10_isNumber at h
    split at h
    · replace h := cond_inv h; obtain ⟨hb, h⟩ := h
      simp only [Bool.and_eq_true] at hb
      obtain ⟨g0, g1⟩ := hb
      obtain rfl := Nat.eq_of_beq_eq_true g0
      obtain rfl := Nat.eq_of_beq_eq_true g1
      exact ⟨Nat.le_of_ble_eq_true rfl, (q10_isNumber _ _ _ _).trans ((f10_isNumber_e _ _ _).symm.trans h)⟩
    · cases h)
def t7_readMeasure : List XE := [(0, .aload_n 0, 0, 0, 0, 0, []),
  (1, .getfield 18, 7, 1, 0, 0, []),
  (4, .getfield 40, 10, 4, 0, 0, []),
  (7, .iload_n 1, 1, 0, 0, 0, []),
  (8, .if_icmp .eq 12, 20, 0, 0, 0, []),
  (11, .aload_n 0, 0, 0, 0, 0, []),
  (12, .getfield 18, 7, 1, 0, 0, []),
  (15, .iconst 1, 0, 0, 1, 0, []),
  (16, .invokevirtual 73, 2, 10, 0, 0, []),
  (19, .ireturn, 0, 0, 0, 0, []),
  (20, .aload_n 0, 0, 0, 0, 0, []),
  (21, .getfield 18, 7, 1, 0, 0, []),
  (24, .invokevirtual 79, 1, 10, 0, 0, []),
  (27, .aload_n 0, 0, 0, 0, 0, []),
  (28, .getfield 18, 7, 1, 0, 0, []),
  (31, .iload_n 2, 2, 0, 0, 0, []),
  (32, .iload_n 3, 3, 0, 0, 0, []),
  (33, .invokevirtual 134, 3, 10, 0, 0, []),
  (36, .ifCond .ne 5, 41, 0, 0, 0, []),
  (39, .iconst 0, 0, 0, 0, 0, []),
  (40, .ireturn, 0, 0, 0, 0, []),
  (41, .iload 5, 5, 0, 0, 0, []),
  (43, .ifCond .lt 23, 66, 0, 0, 0, []),
  (46, .iload 5, 5, 0, 0, 0, []),
  (48, .aload 4, 4, 0, 0, 0, []),
  (50, .arraylength, 0, 0, 0, 0, []),
  (51, .if_icmp .ge 15, 66, 0, 0, 0, []),
  (54, .aload 4, 4, 0, 0, 0, []),
  (56, .iload 5, 5, 0, 0, 0, []),
  (58, .aload_n 0, 0, 0, 0, 0, []),
  (59, .getfield 18, 7, 1, 0, 0, []),
  (62, .getfield 138, 10, 5, 0, 0, []),
  (65, .iastore, 0, 0, 0, 0, []),
  (66, .aload_n 0, 0, 0, 0, 0, []),
  (67, .getfield 18, 7, 1, 0, 0, []),
  (70, .invokevirtual 79, 1, 10, 0, 0, []),
  (73, .iconst 1, 0, 0, 1, 0, []),
  (74, .ireturn, 0, 0, 0, 0, [])]
noncomputable def e7_readMeasure : XN := [(73, 1, 2, 10, F10_wrong), (79, 0, 1, 10, F10_advance), (134, 1, 3, 10, F10_isNumber)]
noncomputable def k7_readMeasure_pl (p1 : Int32) (p2 : Int32) (p3 : Int32) (i4 : Nat) (p5 : Int32) (μ : XM) : XR :=
  xite ((rI μ 10 0 4) = p1) (
    bV (f10_advance μ) fun m1 =>
    bI (f10_isNumber p2 p3 m1) fun r3 m2 =>
    xite (r3 = 0) (
      xrb 0 m2) (
      xite (p5 < 0) (
        bV (f10_advance m2) fun m4 =>
        xrb 1 m4) (
        xite (p5 < (nI 6)) (
          xck (xin p5 6 && true) <|
          mS (pI m2 2 i4 7 (Int32.toNatClampNeg p5) (rI m2 10 0 5)) fun m5 =>
          bV (f10_advance m5) fun m6 =>
          xrb 1 m6) (
          bV (f10_advance m2) fun m7 =>
          xrb 1 m7)))) (
    bI (f10_wrong 1 μ) fun r9 m8 =>
    xrb r9 m8)
set_option maxRecDepth 100000 in
theorem q7_readMeasure_pl (n : Nat) (p1 : Int32) (p2 : Int32) (p3 : Int32) (i4 : Nat) (p5 : Int32) (μ : XM) : xrun t7_readMeasure e7_readMeasure (xrtk (some .boolean)) 43 n (xlo [xr 7 0 0, xi p1, xi p2, xi p3, xr 2 i4 8, xi p5] 6) μ = k7_readMeasure_pl p1 p2 p3 i4 p5 μ := rfl
theorem x7_readMeasure_pl : ∃ f : Int32 → Int32 → Int32 → Nat → Int32 → XM → XR, ∀ (p1 : Int32) (p2 : Int32) (p3 : Int32) (i4 : Nat) (p5 : Int32) (μ : XM), f p1 p2 p3 i4 p5 μ = k7_readMeasure_pl p1 p2 p3 i4 p5 μ := ⟨fun p1 p2 p3 i4 p5 μ => k7_readMeasure_pl p1 p2 p3 i4 p5 μ, fun p1 p2 p3 i4 p5 μ => rfl⟩
noncomputable def f7_readMeasure_pl : Int32 → Int32 → Int32 → Nat → Int32 → XM → XR := Classical.choose x7_readMeasure_pl
theorem f7_readMeasure_pl_e (p1 : Int32) (p2 : Int32) (p3 : Int32) (i4 : Nat) (p5 : Int32) (μ : XM) : f7_readMeasure_pl p1 p2 p3 i4 p5 μ = k7_readMeasure_pl p1 p2 p3 i4 p5 μ := Classical.choose_spec x7_readMeasure_pl p1 p2 p3 i4 p5 μ
noncomputable def k7_readMeasure_ch (p1 : Int32) (p2 : Int32) (p3 : Int32) (i4 : Nat) (p5 : Int32) (μ : XM) : XR :=
  xite ((rI μ 10 0 4) = p1) (
    bV (f10_advance μ) fun m1 =>
    bI (f10_isNumber p2 p3 m1) fun r3 m2 =>
    xite (r3 = 0) (
      xrb 0 m2) (
      xite (p5 < 0) (
        bV (f10_advance m2) fun m4 =>
        xrb 1 m4) (
        xite (p5 < (nI 6)) (
          xck (xin p5 6 && true) <|
          mS (pI m2 2 i4 8 (Int32.toNatClampNeg p5) (rI m2 10 0 5)) fun m5 =>
          bV (f10_advance m5) fun m6 =>
          xrb 1 m6) (
          bV (f10_advance m2) fun m7 =>
          xrb 1 m7)))) (
    bI (f10_wrong 1 μ) fun r9 m8 =>
    xrb r9 m8)
set_option maxRecDepth 100000 in
theorem q7_readMeasure_ch (n : Nat) (p1 : Int32) (p2 : Int32) (p3 : Int32) (i4 : Nat) (p5 : Int32) (μ : XM) : xrun t7_readMeasure e7_readMeasure (xrtk (some .boolean)) 43 n (xlo [xr 7 0 0, xi p1, xi p2, xi p3, xr 2 i4 9, xi p5] 6) μ = k7_readMeasure_ch p1 p2 p3 i4 p5 μ := rfl
theorem x7_readMeasure_ch : ∃ f : Int32 → Int32 → Int32 → Nat → Int32 → XM → XR, ∀ (p1 : Int32) (p2 : Int32) (p3 : Int32) (i4 : Nat) (p5 : Int32) (μ : XM), f p1 p2 p3 i4 p5 μ = k7_readMeasure_ch p1 p2 p3 i4 p5 μ := ⟨fun p1 p2 p3 i4 p5 μ => k7_readMeasure_ch p1 p2 p3 i4 p5 μ, fun p1 p2 p3 i4 p5 μ => rfl⟩
noncomputable def f7_readMeasure_ch : Int32 → Int32 → Int32 → Nat → Int32 → XM → XR := Classical.choose x7_readMeasure_ch
theorem f7_readMeasure_ch_e (p1 : Int32) (p2 : Int32) (p3 : Int32) (i4 : Nat) (p5 : Int32) (μ : XM) : f7_readMeasure_ch p1 p2 p3 i4 p5 μ = k7_readMeasure_ch p1 p2 p3 i4 p5 μ := Classical.choose_spec x7_readMeasure_ch p1 p2 p3 i4 p5 μ
noncomputable def k7_readMeasure_br (p1 : Int32) (p2 : Int32) (p3 : Int32) (i4 : Nat) (p5 : Int32) (μ : XM) : XR :=
  xite ((rI μ 10 0 4) = p1) (
    bV (f10_advance μ) fun m1 =>
    bI (f10_isNumber p2 p3 m1) fun r3 m2 =>
    xite (r3 = 0) (
      xrb 0 m2) (
      xite (p5 < 0) (
        bV (f10_advance m2) fun m4 =>
        xrb 1 m4) (
        xite (p5 < (nI 6)) (
          xck (xin p5 6 && true) <|
          mS (pI m2 2 i4 9 (Int32.toNatClampNeg p5) (rI m2 10 0 5)) fun m5 =>
          bV (f10_advance m5) fun m6 =>
          xrb 1 m6) (
          bV (f10_advance m2) fun m7 =>
          xrb 1 m7)))) (
    bI (f10_wrong 1 μ) fun r9 m8 =>
    xrb r9 m8)
set_option maxRecDepth 100000 in
theorem q7_readMeasure_br (n : Nat) (p1 : Int32) (p2 : Int32) (p3 : Int32) (i4 : Nat) (p5 : Int32) (μ : XM) : xrun t7_readMeasure e7_readMeasure (xrtk (some .boolean)) 43 n (xlo [xr 7 0 0, xi p1, xi p2, xi p3, xr 2 i4 10, xi p5] 6) μ = k7_readMeasure_br p1 p2 p3 i4 p5 μ := rfl
theorem x7_readMeasure_br : ∃ f : Int32 → Int32 → Int32 → Nat → Int32 → XM → XR, ∀ (p1 : Int32) (p2 : Int32) (p3 : Int32) (i4 : Nat) (p5 : Int32) (μ : XM), f p1 p2 p3 i4 p5 μ = k7_readMeasure_br p1 p2 p3 i4 p5 μ := ⟨fun p1 p2 p3 i4 p5 μ => k7_readMeasure_br p1 p2 p3 i4 p5 μ, fun p1 p2 p3 i4 p5 μ => rfl⟩
noncomputable def f7_readMeasure_br : Int32 → Int32 → Int32 → Nat → Int32 → XM → XR := Classical.choose x7_readMeasure_br
theorem f7_readMeasure_br_e (p1 : Int32) (p2 : Int32) (p3 : Int32) (i4 : Nat) (p5 : Int32) (μ : XM) : f7_readMeasure_br p1 p2 p3 i4 p5 μ = k7_readMeasure_br p1 p2 p3 i4 p5 μ := Classical.choose_spec x7_readMeasure_br p1 p2 p3 i4 p5 μ
noncomputable def k7_readMeasure_we (p1 : Int32) (p2 : Int32) (p3 : Int32) (i4 : Nat) (p5 : Int32) (μ : XM) : XR :=
  xite ((rI μ 10 0 4) = p1) (
    bV (f10_advance μ) fun m1 =>
    bI (f10_isNumber p2 p3 m1) fun r3 m2 =>
    xite (r3 = 0) (
      xrb 0 m2) (
      xite (p5 < 0) (
        bV (f10_advance m2) fun m4 =>
        xrb 1 m4) (
        xite (p5 < (nI 6)) (
          xck (xin p5 6 && true) <|
          mS (pI m2 2 i4 10 (Int32.toNatClampNeg p5) (rI m2 10 0 5)) fun m5 =>
          bV (f10_advance m5) fun m6 =>
          xrb 1 m6) (
          bV (f10_advance m2) fun m7 =>
          xrb 1 m7)))) (
    bI (f10_wrong 1 μ) fun r9 m8 =>
    xrb r9 m8)
set_option maxRecDepth 100000 in
theorem q7_readMeasure_we (n : Nat) (p1 : Int32) (p2 : Int32) (p3 : Int32) (i4 : Nat) (p5 : Int32) (μ : XM) : xrun t7_readMeasure e7_readMeasure (xrtk (some .boolean)) 43 n (xlo [xr 7 0 0, xi p1, xi p2, xi p3, xr 2 i4 11, xi p5] 6) μ = k7_readMeasure_we p1 p2 p3 i4 p5 μ := rfl
theorem x7_readMeasure_we : ∃ f : Int32 → Int32 → Int32 → Nat → Int32 → XM → XR, ∀ (p1 : Int32) (p2 : Int32) (p3 : Int32) (i4 : Nat) (p5 : Int32) (μ : XM), f p1 p2 p3 i4 p5 μ = k7_readMeasure_we p1 p2 p3 i4 p5 μ := ⟨fun p1 p2 p3 i4 p5 μ => k7_readMeasure_we p1 p2 p3 i4 p5 μ, fun p1 p2 p3 i4 p5 μ => rfl⟩
noncomputable def f7_readMeasure_we : Int32 → Int32 → Int32 → Nat → Int32 → XM → XR := Classical.choose x7_readMeasure_we
theorem f7_readMeasure_we_e (p1 : Int32) (p2 : Int32) (p3 : Int32) (i4 : Nat) (p5 : Int32) (μ : XM) : f7_readMeasure_we p1 p2 p3 i4 p5 μ = k7_readMeasure_we p1 p2 p3 i4 p5 μ := Classical.choose_spec x7_readMeasure_we p1 p2 p3 i4 p5 μ
noncomputable def k7_readMeasure_be (p1 : Int32) (p2 : Int32) (p3 : Int32) (i4 : Nat) (p5 : Int32) (μ : XM) : XR :=
  xite ((rI μ 10 0 4) = p1) (
    bV (f10_advance μ) fun m1 =>
    bI (f10_isNumber p2 p3 m1) fun r3 m2 =>
    xite (r3 = 0) (
      xrb 0 m2) (
      xite (p5 < 0) (
        bV (f10_advance m2) fun m4 =>
        xrb 1 m4) (
        xite (p5 < (nI 5)) (
          xck (xin p5 5 && true) <|
          mS (pI m2 2 i4 12 (Int32.toNatClampNeg p5) (rI m2 10 0 5)) fun m5 =>
          bV (f10_advance m5) fun m6 =>
          xrb 1 m6) (
          bV (f10_advance m2) fun m7 =>
          xrb 1 m7)))) (
    bI (f10_wrong 1 μ) fun r9 m8 =>
    xrb r9 m8)
set_option maxRecDepth 100000 in
theorem q7_readMeasure_be (n : Nat) (p1 : Int32) (p2 : Int32) (p3 : Int32) (i4 : Nat) (p5 : Int32) (μ : XM) : xrun t7_readMeasure e7_readMeasure (xrtk (some .boolean)) 43 n (xlo [xr 7 0 0, xi p1, xi p2, xi p3, xr 2 i4 13, xi p5] 6) μ = k7_readMeasure_be p1 p2 p3 i4 p5 μ := rfl
theorem x7_readMeasure_be : ∃ f : Int32 → Int32 → Int32 → Nat → Int32 → XM → XR, ∀ (p1 : Int32) (p2 : Int32) (p3 : Int32) (i4 : Nat) (p5 : Int32) (μ : XM), f p1 p2 p3 i4 p5 μ = k7_readMeasure_be p1 p2 p3 i4 p5 μ := ⟨fun p1 p2 p3 i4 p5 μ => k7_readMeasure_be p1 p2 p3 i4 p5 μ, fun p1 p2 p3 i4 p5 μ => rfl⟩
noncomputable def f7_readMeasure_be : Int32 → Int32 → Int32 → Nat → Int32 → XM → XR := Classical.choose x7_readMeasure_be
theorem f7_readMeasure_be_e (p1 : Int32) (p2 : Int32) (p3 : Int32) (i4 : Nat) (p5 : Int32) (μ : XM) : f7_readMeasure_be p1 p2 p3 i4 p5 μ = k7_readMeasure_be p1 p2 p3 i4 p5 μ := Classical.choose_spec x7_readMeasure_be p1 p2 p3 i4 p5 μ
noncomputable def k7_readMeasure_po (p1 : Int32) (p2 : Int32) (p3 : Int32) (i4 : Nat) (p5 : Int32) (μ : XM) : XR :=
  xite ((rI μ 10 0 4) = p1) (
    bV (f10_advance μ) fun m1 =>
    bI (f10_isNumber p2 p3 m1) fun r3 m2 =>
    xite (r3 = 0) (
      xrb 0 m2) (
      xite (p5 < 0) (
        bV (f10_advance m2) fun m4 =>
        xrb 1 m4) (
        xite (p5 < (nI 3)) (
          xck (xin p5 3 && true) <|
          mS (pI m2 2 i4 14 (Int32.toNatClampNeg p5) (rI m2 10 0 5)) fun m5 =>
          bV (f10_advance m5) fun m6 =>
          xrb 1 m6) (
          bV (f10_advance m2) fun m7 =>
          xrb 1 m7)))) (
    bI (f10_wrong 1 μ) fun r9 m8 =>
    xrb r9 m8)
set_option maxRecDepth 100000 in
theorem q7_readMeasure_po (n : Nat) (p1 : Int32) (p2 : Int32) (p3 : Int32) (i4 : Nat) (p5 : Int32) (μ : XM) : xrun t7_readMeasure e7_readMeasure (xrtk (some .boolean)) 43 n (xlo [xr 7 0 0, xi p1, xi p2, xi p3, xr 2 i4 15, xi p5] 6) μ = k7_readMeasure_po p1 p2 p3 i4 p5 μ := rfl
theorem x7_readMeasure_po : ∃ f : Int32 → Int32 → Int32 → Nat → Int32 → XM → XR, ∀ (p1 : Int32) (p2 : Int32) (p3 : Int32) (i4 : Nat) (p5 : Int32) (μ : XM), f p1 p2 p3 i4 p5 μ = k7_readMeasure_po p1 p2 p3 i4 p5 μ := ⟨fun p1 p2 p3 i4 p5 μ => k7_readMeasure_po p1 p2 p3 i4 p5 μ, fun p1 p2 p3 i4 p5 μ => rfl⟩
noncomputable def f7_readMeasure_po : Int32 → Int32 → Int32 → Nat → Int32 → XM → XR := Classical.choose x7_readMeasure_po
theorem f7_readMeasure_po_e (p1 : Int32) (p2 : Int32) (p3 : Int32) (i4 : Nat) (p5 : Int32) (μ : XM) : f7_readMeasure_po p1 p2 p3 i4 p5 μ = k7_readMeasure_po p1 p2 p3 i4 p5 μ := Classical.choose_spec x7_readMeasure_po p1 p2 p3 i4 p5 μ
noncomputable def k7_readMeasure_re (p1 : Int32) (p2 : Int32) (p3 : Int32) (i4 : Nat) (p5 : Int32) (μ : XM) : XR :=
  xite ((rI μ 10 0 4) = p1) (
    bV (f10_advance μ) fun m1 =>
    bI (f10_isNumber p2 p3 m1) fun r3 m2 =>
    xite (r3 = 0) (
      xrb 0 m2) (
      xite (p5 < 0) (
        bV (f10_advance m2) fun m4 =>
        xrb 1 m4) (
        xite (p5 < (nI 3)) (
          xck (xin p5 3 && true) <|
          mS (pI m2 2 i4 15 (Int32.toNatClampNeg p5) (rI m2 10 0 5)) fun m5 =>
          bV (f10_advance m5) fun m6 =>
          xrb 1 m6) (
          bV (f10_advance m2) fun m7 =>
          xrb 1 m7)))) (
    bI (f10_wrong 1 μ) fun r9 m8 =>
    xrb r9 m8)
set_option maxRecDepth 100000 in
theorem q7_readMeasure_re (n : Nat) (p1 : Int32) (p2 : Int32) (p3 : Int32) (i4 : Nat) (p5 : Int32) (μ : XM) : xrun t7_readMeasure e7_readMeasure (xrtk (some .boolean)) 43 n (xlo [xr 7 0 0, xi p1, xi p2, xi p3, xr 2 i4 16, xi p5] 6) μ = k7_readMeasure_re p1 p2 p3 i4 p5 μ := rfl
theorem x7_readMeasure_re : ∃ f : Int32 → Int32 → Int32 → Nat → Int32 → XM → XR, ∀ (p1 : Int32) (p2 : Int32) (p3 : Int32) (i4 : Nat) (p5 : Int32) (μ : XM), f p1 p2 p3 i4 p5 μ = k7_readMeasure_re p1 p2 p3 i4 p5 μ := ⟨fun p1 p2 p3 i4 p5 μ => k7_readMeasure_re p1 p2 p3 i4 p5 μ, fun p1 p2 p3 i4 p5 μ => rfl⟩
noncomputable def f7_readMeasure_re : Int32 → Int32 → Int32 → Nat → Int32 → XM → XR := Classical.choose x7_readMeasure_re
theorem f7_readMeasure_re_e (p1 : Int32) (p2 : Int32) (p3 : Int32) (i4 : Nat) (p5 : Int32) (μ : XM) : f7_readMeasure_re p1 p2 p3 i4 p5 μ = k7_readMeasure_re p1 p2 p3 i4 p5 μ := Classical.choose_spec x7_readMeasure_re p1 p2 p3 i4 p5 μ
noncomputable def F7_readMeasure : XF := fun av μ => match av with
  | [.inr (.inr (some (t0, i0, 0))), .inl p1, .inl p2, .inl p3, .inr (.inr (some (t4, i4, j4 + 1))), .inl p5] => bif Nat.beq t0 7 && Nat.beq i0 0 && Nat.beq t4 2 && Nat.beq j4 7 then f7_readMeasure_pl p1 p2 p3 i4 p5 μ else bif Nat.beq t0 7 && Nat.beq i0 0 && Nat.beq t4 2 && Nat.beq j4 8 then f7_readMeasure_ch p1 p2 p3 i4 p5 μ else bif Nat.beq t0 7 && Nat.beq i0 0 && Nat.beq t4 2 && Nat.beq j4 9 then f7_readMeasure_br p1 p2 p3 i4 p5 μ else bif Nat.beq t0 7 && Nat.beq i0 0 && Nat.beq t4 2 && Nat.beq j4 10 then f7_readMeasure_we p1 p2 p3 i4 p5 μ else bif Nat.beq t0 7 && Nat.beq i0 0 && Nat.beq t4 2 && Nat.beq j4 12 then f7_readMeasure_be p1 p2 p3 i4 p5 μ else bif Nat.beq t0 7 && Nat.beq i0 0 && Nat.beq t4 2 && Nat.beq j4 14 then f7_readMeasure_po p1 p2 p3 i4 p5 μ else bif Nat.beq t0 7 && Nat.beq i0 0 && Nat.beq t4 2 && Nat.beq j4 15 then f7_readMeasure_re p1 p2 p3 i4 p5 μ else none
  | _ => none
set_option maxRecDepth 100000 in
theorem c7_readMeasure {X : XP} (hX : XOK X) (l : Launch) : Ctr X l y7_readMeasure prog_9_method_11_code 6 (some .boolean) (xrm 11) 0 0 F7_readMeasure :=
  Ctr_of (tab := t7_readMeasure) (env := e7_readMeasure) (K := 43) (N := 20000) (fl := fl7) (cl := cl7) (ll := ll7) (jl := jl7) hX mf7_readMeasure.2.2.2 ⟨by decide +kernel, flk7, clk7, llk7, jlk7⟩
   (List.forall_mem_cons.mpr ⟨xcal_v (na := 1) (c10_wrong hX l) mf10_wrong ⟨rfl, rfl⟩ ml7_73 mi10_wrong me10_wrong (xrm_ok (by omega) (by decide)) rfl (by decide) (by decide +kernel), List.forall_mem_cons.mpr ⟨xcal_v (na := 0) (c10_advance hX l) mf10_advance ⟨rfl, rfl⟩ ml7_79 mi10_advance me10_advance (xrm_ok (by omega) (by decide)) rfl (by decide) (by decide +kernel), List.forall_mem_cons.mpr ⟨xcal_v (na := 2) (c10_isNumber hX l) mf10_isNumber ⟨rfl, rfl⟩ ml7_134 mi10_isNumber me10_isNumber (xrm_ok (by omega) (by decide)) rfl (by decide) (by decide +kernel), fun _ h => absurd h List.not_mem_nil⟩⟩⟩)
   (xrm_1 (by decide)) ⟨_, _, rfl, rfl⟩ (fun av μ r μ' h => by
    unfold F7_readMeasure at h
    split at h
    · rcases xcond_inv h with ⟨hb, h⟩ | h
      · simp only [Bool.and_eq_true] at hb
        obtain ⟨⟨⟨g0, g1⟩, g2⟩, g3⟩ := hb
        obtain rfl := Nat.eq_of_beq_eq_true g0
        obtain rfl := Nat.eq_of_beq_eq_true g1
        obtain rfl := Nat.eq_of_beq_eq_true g2
        obtain rfl := Nat.eq_of_beq_eq_true g3
        exact ⟨Nat.le_of_ble_eq_true rfl, (q7_readMeasure_pl _ _ _ _ _ _ _).trans ((f7_readMeasure_pl_e _ _ _ _ _ _).symm.trans h)⟩
      · skip
        rcases xcond_inv h with ⟨hb, h⟩ | h
        · simp only [Bool.and_eq_true] at hb
          obtain ⟨⟨⟨g0, g1⟩, g2⟩, g3⟩ := hb
          obtain rfl := Nat.eq_of_beq_eq_true g0
          obtain rfl := Nat.eq_of_beq_eq_true g1
          obtain rfl := Nat.eq_of_beq_eq_true g2
          obtain rfl := Nat.eq_of_beq_eq_true g3
          exact ⟨Nat.le_of_ble_eq_true rfl, (q7_readMeasure_ch _ _ _ _ _ _ _).trans ((f7_readMeasure_ch_e _ _ _ _ _ _).symm.trans h)⟩
        · skip
          rcases xcond_inv h with ⟨hb, h⟩ | h
          · simp only [Bool.and_eq_true] at hb
            obtain ⟨⟨⟨g0, g1⟩, g2⟩, g3⟩ := hb
            obtain rfl := Nat.eq_of_beq_eq_true g0
            obtain rfl := Nat.eq_of_beq_eq_true g1
            obtain rfl := Nat.eq_of_beq_eq_true g2
            obtain rfl := Nat.eq_of_beq_eq_true g3
            exact ⟨Nat.le_of_ble_eq_true rfl, (q7_readMeasure_br _ _ _ _ _ _ _).trans ((f7_readMeasure_br_e _ _ _ _ _ _).symm.trans h)⟩
          · skip
            rcases xcond_inv h with ⟨hb, h⟩ | h
            · simp only [Bool.and_eq_true] at hb
              obtain ⟨⟨⟨g0, g1⟩, g2⟩, g3⟩ := hb
              obtain rfl := Nat.eq_of_beq_eq_true g0
              obtain rfl := Nat.eq_of_beq_eq_true g1
              obtain rfl := Nat.eq_of_beq_eq_true g2
              obtain rfl := Nat.eq_of_beq_eq_true g3
              exact ⟨Nat.le_of_ble_eq_true rfl, (q7_readMeasure_we _ _ _ _ _ _ _).trans ((f7_readMeasure_we_e _ _ _ _ _ _).symm.trans h)⟩
            · skip
              rcases xcond_inv h with ⟨hb, h⟩ | h
              · simp only [Bool.and_eq_true] at hb
                obtain ⟨⟨⟨g0, g1⟩, g2⟩, g3⟩ := hb
                obtain rfl := Nat.eq_of_beq_eq_true g0
                obtain rfl := Nat.eq_of_beq_eq_true g1
                obtain rfl := Nat.eq_of_beq_eq_true g2
                obtain rfl := Nat.eq_of_beq_eq_true g3
                exact ⟨Nat.le_of_ble_eq_true rfl, (q7_readMeasure_be _ _ _ _ _ _ _).trans ((f7_readMeasure_be_e _ _ _ _ _ _).symm.trans h)⟩
              · skip
                rcases xcond_inv h with ⟨hb, h⟩ | h
                · simp only [Bool.and_eq_true] at hb
                  obtain ⟨⟨⟨g0, g1⟩, g2⟩, g3⟩ := hb
                  obtain rfl := Nat.eq_of_beq_eq_true g0
                  obtain rfl := Nat.eq_of_beq_eq_true g1
                  obtain rfl := Nat.eq_of_beq_eq_true g2
                  obtain rfl := Nat.eq_of_beq_eq_true g3
                  exact ⟨Nat.le_of_ble_eq_true rfl, (q7_readMeasure_po _ _ _ _ _ _ _).trans ((f7_readMeasure_po_e _ _ _ _ _ _).symm.trans h)⟩
                · skip
                  rcases xcond_inv h with ⟨hb, h⟩ | h
                  · simp only [Bool.and_eq_true] at hb
                    obtain ⟨⟨⟨g0, g1⟩, g2⟩, g3⟩ := hb
                    obtain rfl := Nat.eq_of_beq_eq_true g0
                    obtain rfl := Nat.eq_of_beq_eq_true g1
                    obtain rfl := Nat.eq_of_beq_eq_true g2
                    obtain rfl := Nat.eq_of_beq_eq_true g3
                    exact ⟨Nat.le_of_ble_eq_true rfl, (q7_readMeasure_re _ _ _ _ _ _ _).trans ((f7_readMeasure_re_e _ _ _ _ _ _).symm.trans h)⟩
                  · cases h
    · cases h)
def t7_readGuest : List XE := [(0, .iload_n 1, 1, 0, 0, 0, []),
  (1, .bipush 6, 0, 0, 6, 0, []),
  (3, .if_icmp .lt 12, 15, 0, 0, 0, []),
  (6, .aload_n 0, 0, 0, 0, 0, []),
  (7, .getfield 18, 7, 1, 0, 0, []),
  (10, .iconst 5, 0, 0, 5, 0, []),
  (11, .invokevirtual 73, 2, 10, 0, 0, []),
  (14, .ireturn, 0, 0, 0, 0, []),
  (15, .aload_n 0, 0, 0, 0, 0, []),
  (16, .getfield 18, 7, 1, 0, 0, []),
  (19, .invokevirtual 79, 1, 10, 0, 0, []),
  (22, .aload_n 0, 0, 0, 0, 0, []),
  (23, .aload_n 0, 0, 0, 0, 0, []),
  (24, .getfield 12, 7, 0, 0, 0, []),
  (27, .getfield 82, 2, 5, 0, 0, []),
  (30, .iload_n 1, 1, 0, 0, 0, []),
  (31, .invokevirtual 86, 3, 7, 0, 0, []),
  (34, .ifCond .eq 118, 152, 0, 0, 0, []),
  (37, .aload_n 0, 0, 0, 0, 0, []),
  (38, .aload_n 0, 0, 0, 0, 0, []),
  (39, .getfield 12, 7, 0, 0, 0, []),
  (42, .getfield 90, 2, 6, 0, 0, []),
  (45, .iload_n 1, 1, 0, 0, 0, []),
  (46, .invokevirtual 93, 3, 7, 0, 0, []),
  (49, .ifCond .eq 103, 152, 0, 0, 0, []),
  (52, .aload_n 0, 0, 0, 0, 0, []),
  (53, .sipush 134, 0, 0, 134, 0, []),
  (56, .iconst 1, 0, 0, 1, 0, []),
  (57, .bipush 9, 0, 0, 9, 0, []),
  (59, .aload_n 0, 0, 0, 0, 0, []),
  (60, .getfield 12, 7, 0, 0, 0, []),
  (63, .getfield 97, 2, 7, 0, 0, []),
  (66, .iload_n 1, 1, 0, 0, 0, []),
  (67, .invokevirtual 100, 6, 7, 0, 0, []),
  (70, .ifCond .eq 82, 152, 0, 0, 0, []),
  (73, .aload_n 0, 0, 0, 0, 0, []),
  (74, .sipush 135, 0, 0, 135, 0, []),
  (77, .iconst 1, 0, 0, 1, 0, []),
  (78, .bipush 40, 0, 0, 40, 0, []),
  (80, .aload_n 0, 0, 0, 0, 0, []),
  (81, .getfield 12, 7, 0, 0, 0, []),
  (84, .getfield 104, 2, 8, 0, 0, []),
  (87, .iload_n 1, 1, 0, 0, 0, []),
  (88, .invokevirtual 100, 6, 7, 0, 0, []),
  (91, .ifCond .eq 61, 152, 0, 0, 0, []),
  (94, .aload_n 0, 0, 0, 0, 0, []),
  (95, .sipush 136, 0, 0, 136, 0, []),
  (98, .iconst 1, 0, 0, 1, 0, []),
  (99, .bipush 9, 0, 0, 9, 0, []),
  (101, .aload_n 0, 0, 0, 0, 0, []),
  (102, .getfield 12, 7, 0, 0, 0, []),
  (105, .getfield 107, 2, 9, 0, 0, []),
  (108, .iload_n 1, 1, 0, 0, 0, []),
  (109, .invokevirtual 100, 6, 7, 0, 0, []),
  (112, .ifCond .eq 40, 152, 0, 0, 0, []),
  (115, .aload_n 0, 0, 0, 0, 0, []),
  (116, .sipush 137, 0, 0, 137, 0, []),
  (119, .iconst 1, 0, 0, 1, 0, []),
  (120, .bipush 30, 0, 0, 30, 0, []),
  (122, .aload_n 0, 0, 0, 0, 0, []),
  (123, .getfield 12, 7, 0, 0, 0, []),
  (126, .getfield 110, 2, 10, 0, 0, []),
  (129, .iload_n 1, 1, 0, 0, 0, []),
  (130, .invokevirtual 100, 6, 7, 0, 0, []),
  (133, .ifCond .eq 19, 152, 0, 0, 0, []),
  (136, .aload_n 0, 0, 0, 0, 0, []),
  (137, .getfield 18, 7, 1, 0, 0, []),
  (140, .bipush 59, 0, 0, 59, 0, []),
  (142, .invokevirtual 113, 2, 10, 0, 0, []),
  (145, .ifCond .eq 7, 152, 0, 0, 0, []),
  (148, .iconst 1, 0, 0, 1, 0, []),
  (149, .goto 4, 153, 0, 0, 0, []),
  (152, .iconst 0, 0, 0, 0, 0, []),
  (153, .istore_n 2, 2, 0, 0, 0, []),
  (154, .iload_n 2, 2, 0, 0, 0, []),
  (155, .ifCond .eq 10, 165, 0, 0, 0, []),
  (158, .aload_n 0, 0, 0, 0, 0, []),
  (159, .getfield 12, 7, 0, 0, 0, []),
  (162, .invokevirtual 116, 1, 2, 0, 0, []),
  (165, .iload_n 2, 2, 0, 0, 0, []),
  (166, .ireturn, 0, 0, 0, 0, [])]
noncomputable def e7_readGuest : XN := [(73, 1, 2, 10, F10_wrong), (79, 0, 1, 10, F10_advance), (86, 1, 3, 7, F7_readName), (93, 1, 3, 7, F7_readKind), (100, 1, 6, 7, F7_readMeasure), (113, 1, 2, 10, F10_take), (116, 0, 1, 2, F2_addGuest)]
noncomputable def k7_readGuest (p1 : Int32) (μ : XM) : XR :=
  xite (p1 < 6) (
    bV (f10_advance μ) fun m1 =>
    bI (f7_readName_gn 1 p1 m1) fun r3 m2 =>
    xite (r3 = 0) (
      vI 0 fun x4 =>
      xite (x4 = 0) (
        xrb x4 m2) (
        bV (f2_addGuest 1 m2) fun m5 =>
        xrb x4 m5)) (
      bI (f7_readKind_kd 1 p1 m2) fun r7 m6 =>
      xite (r7 = 0) (
        vI 0 fun x8 =>
        xite (x8 = 0) (
          xrb x8 m6) (
          bV (f2_addGuest 1 m6) fun m9 =>
          xrb x8 m9)) (
        bI (f7_readMeasure_pl 134 1 9 1 p1 m6) fun r11 m10 =>
        xite (r11 = 0) (
          vI 0 fun x12 =>
          xite (x12 = 0) (
            xrb x12 m10) (
            bV (f2_addGuest 1 m10) fun m13 =>
            xrb x12 m13)) (
          bI (f7_readMeasure_ch 135 1 40 1 p1 m10) fun r15 m14 =>
          xite (r15 = 0) (
            vI 0 fun x16 =>
            xite (x16 = 0) (
              xrb x16 m14) (
              bV (f2_addGuest 1 m14) fun m17 =>
              xrb x16 m17)) (
            bI (f7_readMeasure_br 136 1 9 1 p1 m14) fun r19 m18 =>
            xite (r19 = 0) (
              vI 0 fun x20 =>
              xite (x20 = 0) (
                xrb x20 m18) (
                bV (f2_addGuest 1 m18) fun m21 =>
                xrb x20 m21)) (
              bI (f7_readMeasure_we 137 1 30 1 p1 m18) fun r23 m22 =>
              xite (r23 = 0) (
                vI 0 fun x24 =>
                xite (x24 = 0) (
                  xrb x24 m22) (
                  bV (f2_addGuest 1 m22) fun m25 =>
                  xrb x24 m25)) (
                bI (f10_take 59 m22) fun r27 m26 =>
                xite (r27 = 0) (
                  vI 0 fun x28 =>
                  xite (x28 = 0) (
                    xrb x28 m26) (
                    bV (f2_addGuest 1 m26) fun m29 =>
                    xrb x28 m29)) (
                  vI 1 fun x30 =>
                  xite (x30 = 0) (
                    xrb x30 m26) (
                    bV (f2_addGuest 1 m26) fun m31 =>
                    xrb x30 m31))))))))) (
    bI (f10_wrong 5 μ) fun r33 m32 =>
    xrb r33 m32)
set_option maxRecDepth 100000 in
theorem q7_readGuest (n : Nat) (p1 : Int32) (μ : XM) : xrun t7_readGuest e7_readGuest (xrtk (some .boolean)) 86 n (xlo [xr 7 0 0, xi p1] 3) μ = k7_readGuest p1 μ := rfl
theorem x7_readGuest : ∃ f : Int32 → XM → XR, ∀ (p1 : Int32) (μ : XM), f p1 μ = k7_readGuest p1 μ := ⟨fun p1 μ => k7_readGuest p1 μ, fun p1 μ => rfl⟩
noncomputable def f7_readGuest : Int32 → XM → XR := Classical.choose x7_readGuest
theorem f7_readGuest_e (p1 : Int32) (μ : XM) : f7_readGuest p1 μ = k7_readGuest p1 μ := Classical.choose_spec x7_readGuest p1 μ
noncomputable def F7_readGuest : XF := fun av μ => match av with
  | [.inr (.inr (some (t0, i0, 0))), .inl p1] => bif Nat.beq t0 7 && Nat.beq i0 0 then f7_readGuest p1 μ else none
  | _ => none
set_option maxRecDepth 100000 in
theorem c7_readGuest {X : XP} (hX : XOK X) (l : Launch) : Ctr X l y7_readGuest prog_9_method_3_code 3 (some .boolean) (xrm 12) 0 0 F7_readGuest :=
  Ctr_of (tab := t7_readGuest) (env := e7_readGuest) (K := 86) (N := 20000) (fl := fl7) (cl := cl7) (ll := ll7) (jl := jl7) hX mf7_readGuest.2.2.2 ⟨by decide +kernel, flk7, clk7, llk7, jlk7⟩
   (List.forall_mem_cons.mpr ⟨xcal_v (na := 1) (c10_wrong hX l) mf10_wrong ⟨rfl, rfl⟩ ml7_73 mi10_wrong me10_wrong (xrm_ok (by omega) (by decide)) rfl (by decide) (by decide +kernel), List.forall_mem_cons.mpr ⟨xcal_v (na := 0) (c10_advance hX l) mf10_advance ⟨rfl, rfl⟩ ml7_79 mi10_advance me10_advance (xrm_ok (by omega) (by decide)) rfl (by decide) (by decide +kernel), List.forall_mem_cons.mpr ⟨xcal_v (na := 2) (c7_readName hX l) mf7_readName ⟨rfl, rfl⟩ ml7_86 mi7_readName me7_readName (xrm_ok (by omega) (by decide)) rfl (by decide) (by decide +kernel), List.forall_mem_cons.mpr ⟨xcal_v (na := 2) (c7_readKind hX l) mf7_readKind ⟨rfl, rfl⟩ ml7_93 mi7_readKind me7_readKind (xrm_ok (by omega) (by decide)) rfl (by decide) (by decide +kernel), List.forall_mem_cons.mpr ⟨xcal_v (na := 5) (c7_readMeasure hX l) mf7_readMeasure ⟨rfl, rfl⟩ ml7_100 mi7_readMeasure me7_readMeasure (xrm_ok (by omega) (by decide)) rfl (by decide) (by decide +kernel), List.forall_mem_cons.mpr ⟨xcal_v (na := 1) (c10_take hX l) mf10_take ⟨rfl, rfl⟩ ml7_113 mi10_take me10_take (xrm_ok (by omega) (by decide)) rfl (by decide) (by decide +kernel), List.forall_mem_cons.mpr ⟨xcal_v (na := 0) (c2_addGuest hX l) mf2_addGuest ⟨rfl, rfl⟩ ml7_116 mi2_addGuest me2_addGuest (xrm_ok (by omega) (by decide)) rfl (by decide) (by decide +kernel), fun _ h => absurd h List.not_mem_nil⟩⟩⟩⟩⟩⟩⟩)
   (xrm_1 (by decide)) ⟨_, _, rfl, rfl⟩ (fun av μ r μ' h => by
    unfold F7_readGuest at h
    split at h
    · replace h := cond_inv h; obtain ⟨hb, h⟩ := h
      simp only [Bool.and_eq_true] at hb
      obtain ⟨g0, g1⟩ := hb
      obtain rfl := Nat.eq_of_beq_eq_true g0
      obtain rfl := Nat.eq_of_beq_eq_true g1
      exact ⟨Nat.le_of_ble_eq_true rfl, (q7_readGuest _ _ _).trans ((f7_readGuest_e _ _).symm.trans h)⟩
    · cases h)
def t7_readBelt : List XE := [(0, .iload_n 1, 1, 0, 0, 0, []),
  (1, .iconst 5, 0, 0, 5, 0, []),
  (2, .if_icmp .lt 12, 14, 0, 0, 0, []),
  (5, .aload_n 0, 0, 0, 0, 0, []),
  (6, .getfield 18, 7, 1, 0, 0, []),
  (9, .iconst 5, 0, 0, 5, 0, []),
  (10, .invokevirtual 73, 2, 10, 0, 0, []),
  (13, .ireturn, 0, 0, 0, 0, []),
  (14, .aload_n 0, 0, 0, 0, 0, []),
  (15, .getfield 18, 7, 1, 0, 0, []),
  (18, .invokevirtual 79, 1, 10, 0, 0, []),
  (21, .aload_n 0, 0, 0, 0, 0, []),
  (22, .aload_n 0, 0, 0, 0, 0, []),
  (23, .getfield 12, 7, 0, 0, 0, []),
  (26, .getfield 119, 2, 11, 0, 0, []),
  (29, .iload_n 1, 1, 0, 0, 0, []),
  (30, .invokevirtual 86, 3, 7, 0, 0, []),
  (33, .ifCond .eq 40, 73, 0, 0, 0, []),
  (36, .aload_n 0, 0, 0, 0, 0, []),
  (37, .sipush 138, 0, 0, 138, 0, []),
  (40, .iconst 1, 0, 0, 1, 0, []),
  (41, .bipush 40, 0, 0, 40, 0, []),
  (43, .aload_n 0, 0, 0, 0, 0, []),
  (44, .getfield 12, 7, 0, 0, 0, []),
  (47, .getfield 122, 2, 12, 0, 0, []),
  (50, .iload_n 1, 1, 0, 0, 0, []),
  (51, .invokevirtual 100, 6, 7, 0, 0, []),
  (54, .ifCond .eq 19, 73, 0, 0, 0, []),
  (57, .aload_n 0, 0, 0, 0, 0, []),
  (58, .getfield 18, 7, 1, 0, 0, []),
  (61, .bipush 59, 0, 0, 59, 0, []),
  (63, .invokevirtual 113, 2, 10, 0, 0, []),
  (66, .ifCond .eq 7, 73, 0, 0, 0, []),
  (69, .iconst 1, 0, 0, 1, 0, []),
  (70, .goto 4, 74, 0, 0, 0, []),
  (73, .nop, 1, 0, 0, 0, []),
  (73, .iconst 0, 0, 0, 0, 0, []),
  (74, .istore_n 2, 2, 0, 0, 0, []),
  (75, .iload_n 2, 2, 0, 0, 0, []),
  (76, .ifCond .eq 16, 92, 0, 0, 0, []),
  (79, .aload_n 0, 0, 0, 0, 0, []),
  (80, .getfield 12, 7, 0, 0, 0, []),
  (83, .dup, 0, 0, 0, 0, []),
  (84, .getfield 51, 2, 1, 0, 0, []),
  (87, .iconst 1, 0, 0, 1, 0, []),
  (88, .iadd, 0, 0, 0, 0, []),
  (89, .putfield 51, 2, 1, 0, 0, []),
  (92, .iload_n 2, 2, 0, 0, 0, []),
  (93, .ireturn, 0, 0, 0, 0, [])]
noncomputable def e7_readBelt : XN := [(73, 1, 2, 10, F10_wrong), (79, 0, 1, 10, F10_advance), (86, 1, 3, 7, F7_readName), (100, 1, 6, 7, F7_readMeasure), (113, 1, 2, 10, F10_take)]
noncomputable def h7_readBelt_73 (n : Nat) (μ : XM) : XR := arr t7_readBelt e7_readBelt 2 54 n 73 [some (xr 7 0 0), none, none] [] μ
set_option maxRecDepth 100000 in
theorem h7_readBelt_73_s (n : Nat) (μ : XM) : h7_readBelt_73 (n + 1)  μ = (
  vI 0 fun x1 =>
  xite (x1 = 0) (
    xrb x1 μ) (
    mS (sI μ 2 1 1 ((rI μ 2 1 1) + 1)) fun m2 =>
    xrb x1 m2)) := rfl
theorem h7_readBelt_73_0 (μ : XM) : h7_readBelt_73 0  μ = none := rfl
noncomputable def k7_readBelt (n : Nat) (p1 : Int32) (μ : XM) : XR :=
  xite (p1 < 5) (
    bV (f10_advance μ) fun m1 =>
    bI (f7_readName_bn 1 p1 m1) fun r3 m2 =>
    xite (r3 = 0) (
      h7_readBelt_73 n m2) (
      bI (f7_readMeasure_be 138 1 40 1 p1 m2) fun r5 m4 =>
      xite (r5 = 0) (
        h7_readBelt_73 n m4) (
        bI (f10_take 59 m4) fun r7 m6 =>
        xite (r7 = 0) (
          h7_readBelt_73 n m6) (
          vI 1 fun x8 =>
          xite (x8 = 0) (
            xrb x8 m6) (
            mS (sI m6 2 1 1 ((rI m6 2 1 1) + 1)) fun m9 =>
            xrb x8 m9))))) (
    bI (f10_wrong 5 μ) fun r11 m10 =>
    xrb r11 m10)
set_option maxRecDepth 100000 in
theorem q7_readBelt (n : Nat) (p1 : Int32) (μ : XM) : xrun t7_readBelt e7_readBelt (xrtk (some .boolean)) 54 n (xlo [xr 7 0 0, xi p1] 3) μ = k7_readBelt n p1 μ := rfl
theorem x7_readBelt : ∃ f : Int32 → XM → XR, ∀ (p1 : Int32) (μ : XM), f p1 μ = k7_readBelt 20000 p1 μ := ⟨fun p1 μ => k7_readBelt 20000 p1 μ, fun p1 μ => rfl⟩
noncomputable def f7_readBelt : Int32 → XM → XR := Classical.choose x7_readBelt
theorem f7_readBelt_e (p1 : Int32) (μ : XM) : f7_readBelt p1 μ = k7_readBelt 20000 p1 μ := Classical.choose_spec x7_readBelt p1 μ
noncomputable def F7_readBelt : XF := fun av μ => match av with
  | [.inr (.inr (some (t0, i0, 0))), .inl p1] => bif Nat.beq t0 7 && Nat.beq i0 0 then f7_readBelt p1 μ else none
  | _ => none
set_option maxRecDepth 100000 in
theorem c7_readBelt {X : XP} (hX : XOK X) (l : Launch) : Ctr X l y7_readBelt prog_9_method_4_code 3 (some .boolean) (xrm 12) 0 0 F7_readBelt :=
  Ctr_of (tab := t7_readBelt) (env := e7_readBelt) (K := 54) (N := 20000) (fl := fl7) (cl := cl7) (ll := ll7) (jl := jl7) hX mf7_readBelt.2.2.2 ⟨by decide +kernel, flk7, clk7, llk7, jlk7⟩
   (List.forall_mem_cons.mpr ⟨xcal_v (na := 1) (c10_wrong hX l) mf10_wrong ⟨rfl, rfl⟩ ml7_73 mi10_wrong me10_wrong (xrm_ok (by omega) (by decide)) rfl (by decide) (by decide +kernel), List.forall_mem_cons.mpr ⟨xcal_v (na := 0) (c10_advance hX l) mf10_advance ⟨rfl, rfl⟩ ml7_79 mi10_advance me10_advance (xrm_ok (by omega) (by decide)) rfl (by decide) (by decide +kernel), List.forall_mem_cons.mpr ⟨xcal_v (na := 2) (c7_readName hX l) mf7_readName ⟨rfl, rfl⟩ ml7_86 mi7_readName me7_readName (xrm_ok (by omega) (by decide)) rfl (by decide) (by decide +kernel), List.forall_mem_cons.mpr ⟨xcal_v (na := 5) (c7_readMeasure hX l) mf7_readMeasure ⟨rfl, rfl⟩ ml7_100 mi7_readMeasure me7_readMeasure (xrm_ok (by omega) (by decide)) rfl (by decide) (by decide +kernel), List.forall_mem_cons.mpr ⟨xcal_v (na := 1) (c10_take hX l) mf10_take ⟨rfl, rfl⟩ ml7_113 mi10_take me10_take (xrm_ok (by omega) (by decide)) rfl (by decide) (by decide +kernel), fun _ h => absurd h List.not_mem_nil⟩⟩⟩⟩⟩)
   (xrm_1 (by decide)) ⟨_, _, rfl, rfl⟩ (fun av μ r μ' h => by
    unfold F7_readBelt at h
    split at h
    · replace h := cond_inv h; obtain ⟨hb, h⟩ := h
      simp only [Bool.and_eq_true] at hb
      obtain ⟨g0, g1⟩ := hb
      obtain rfl := Nat.eq_of_beq_eq_true g0
      obtain rfl := Nat.eq_of_beq_eq_true g1
      exact ⟨Nat.le_of_ble_eq_true rfl, (q7_readBelt _ _ _).trans ((f7_readBelt_e _ _).symm.trans h)⟩
    · cases h)
def t7_readMan : List XE := [(0, .iload_n 1, 1, 0, 0, 0, []),
  (1, .iconst 3, 0, 0, 3, 0, []),
  (2, .if_icmp .lt 12, 14, 0, 0, 0, []),
  (5, .aload_n 0, 0, 0, 0, 0, []),
  (6, .getfield 18, 7, 1, 0, 0, []),
  (9, .iconst 5, 0, 0, 5, 0, []),
  (10, .invokevirtual 73, 2, 10, 0, 0, []),
  (13, .ireturn, 0, 0, 0, 0, []),
  (14, .aload_n 0, 0, 0, 0, 0, []),
  (15, .getfield 18, 7, 1, 0, 0, []),
  (18, .invokevirtual 79, 1, 10, 0, 0, []),
  (21, .aload_n 0, 0, 0, 0, 0, []),
  (22, .aload_n 0, 0, 0, 0, 0, []),
  (23, .getfield 12, 7, 0, 0, 0, []),
  (26, .getfield 125, 2, 13, 0, 0, []),
  (29, .iload_n 1, 1, 0, 0, 0, []),
  (30, .invokevirtual 86, 3, 7, 0, 0, []),
  (33, .ifCond .eq 61, 94, 0, 0, 0, []),
  (36, .aload_n 0, 0, 0, 0, 0, []),
  (37, .sipush 134, 0, 0, 134, 0, []),
  (40, .iconst 0, 0, 0, 0, 0, []),
  (41, .bipush 9, 0, 0, 9, 0, []),
  (43, .aload_n 0, 0, 0, 0, 0, []),
  (44, .getfield 12, 7, 0, 0, 0, []),
  (47, .getfield 128, 2, 14, 0, 0, []),
  (50, .iload_n 1, 1, 0, 0, 0, []),
  (51, .invokevirtual 100, 6, 7, 0, 0, []),
  (54, .ifCond .eq 40, 94, 0, 0, 0, []),
  (57, .aload_n 0, 0, 0, 0, 0, []),
  (58, .sipush 139, 0, 0, 139, 0, []),
  (61, .iconst 0, 0, 0, 0, 0, []),
  (62, .bipush 9, 0, 0, 9, 0, []),
  (64, .aload_n 0, 0, 0, 0, 0, []),
  (65, .getfield 12, 7, 0, 0, 0, []),
  (68, .getfield 131, 2, 15, 0, 0, []),
  (71, .iload_n 1, 1, 0, 0, 0, []),
  (72, .invokevirtual 100, 6, 7, 0, 0, []),
  (75, .ifCond .eq 19, 94, 0, 0, 0, []),
  (78, .aload_n 0, 0, 0, 0, 0, []),
  (79, .getfield 18, 7, 1, 0, 0, []),
  (82, .bipush 59, 0, 0, 59, 0, []),
  (84, .invokevirtual 113, 2, 10, 0, 0, []),
  (87, .ifCond .eq 7, 94, 0, 0, 0, []),
  (90, .iconst 1, 0, 0, 1, 0, []),
  (91, .goto 4, 95, 0, 0, 0, []),
  (94, .nop, 1, 0, 0, 0, []),
  (94, .iconst 0, 0, 0, 0, 0, []),
  (95, .istore_n 2, 2, 0, 0, 0, []),
  (96, .iload_n 2, 2, 0, 0, 0, []),
  (97, .ifCond .eq 16, 113, 0, 0, 0, []),
  (100, .aload_n 0, 0, 0, 0, 0, []),
  (101, .getfield 12, 7, 0, 0, 0, []),
  (104, .dup, 0, 0, 0, 0, []),
  (105, .getfield 57, 2, 2, 0, 0, []),
  (108, .iconst 1, 0, 0, 1, 0, []),
  (109, .iadd, 0, 0, 0, 0, []),
  (110, .putfield 57, 2, 2, 0, 0, []),
  (113, .iload_n 2, 2, 0, 0, 0, []),
  (114, .ireturn, 0, 0, 0, 0, [])]
noncomputable def e7_readMan : XN := [(73, 1, 2, 10, F10_wrong), (79, 0, 1, 10, F10_advance), (86, 1, 3, 7, F7_readName), (100, 1, 6, 7, F7_readMeasure), (113, 1, 2, 10, F10_take)]
noncomputable def h7_readMan_94 (n : Nat) (μ : XM) : XR := arr t7_readMan e7_readMan 2 64 n 94 [some (xr 7 0 0), none, none] [] μ
set_option maxRecDepth 100000 in
theorem h7_readMan_94_s (n : Nat) (μ : XM) : h7_readMan_94 (n + 1)  μ = (
  vI 0 fun x1 =>
  xite (x1 = 0) (
    xrb x1 μ) (
    mS (sI μ 2 1 2 ((rI μ 2 1 2) + 1)) fun m2 =>
    xrb x1 m2)) := rfl
theorem h7_readMan_94_0 (μ : XM) : h7_readMan_94 0  μ = none := rfl
noncomputable def k7_readMan (n : Nat) (p1 : Int32) (μ : XM) : XR :=
  xite (p1 < 3) (
    bV (f10_advance μ) fun m1 =>
    bI (f7_readName_mn 1 p1 m1) fun r3 m2 =>
    xite (r3 = 0) (
      h7_readMan_94 n m2) (
      bI (f7_readMeasure_po 134 0 9 1 p1 m2) fun r5 m4 =>
      xite (r5 = 0) (
        h7_readMan_94 n m4) (
        bI (f7_readMeasure_re 139 0 9 1 p1 m4) fun r7 m6 =>
        xite (r7 = 0) (
          h7_readMan_94 n m6) (
          bI (f10_take 59 m6) fun r9 m8 =>
          xite (r9 = 0) (
            h7_readMan_94 n m8) (
            vI 1 fun x10 =>
            xite (x10 = 0) (
              xrb x10 m8) (
              mS (sI m8 2 1 2 ((rI m8 2 1 2) + 1)) fun m11 =>
              xrb x10 m11)))))) (
    bI (f10_wrong 5 μ) fun r13 m12 =>
    xrb r13 m12)
set_option maxRecDepth 100000 in
theorem q7_readMan (n : Nat) (p1 : Int32) (μ : XM) : xrun t7_readMan e7_readMan (xrtk (some .boolean)) 64 n (xlo [xr 7 0 0, xi p1] 3) μ = k7_readMan n p1 μ := rfl
theorem x7_readMan : ∃ f : Int32 → XM → XR, ∀ (p1 : Int32) (μ : XM), f p1 μ = k7_readMan 20000 p1 μ := ⟨fun p1 μ => k7_readMan 20000 p1 μ, fun p1 μ => rfl⟩
noncomputable def f7_readMan : Int32 → XM → XR := Classical.choose x7_readMan
theorem f7_readMan_e (p1 : Int32) (μ : XM) : f7_readMan p1 μ = k7_readMan 20000 p1 μ := Classical.choose_spec x7_readMan p1 μ
noncomputable def F7_readMan : XF := fun av μ => match av with
  | [.inr (.inr (some (t0, i0, 0))), .inl p1] => bif Nat.beq t0 7 && Nat.beq i0 0 then f7_readMan p1 μ else none
  | _ => none
set_option maxRecDepth 100000 in
theorem c7_readMan {X : XP} (hX : XOK X) (l : Launch) : Ctr X l y7_readMan prog_9_method_5_code 3 (some .boolean) (xrm 12) 0 0 F7_readMan :=
  Ctr_of (tab := t7_readMan) (env := e7_readMan) (K := 64) (N := 20000) (fl := fl7) (cl := cl7) (ll := ll7) (jl := jl7) hX mf7_readMan.2.2.2 ⟨by decide +kernel, flk7, clk7, llk7, jlk7⟩
   (List.forall_mem_cons.mpr ⟨xcal_v (na := 1) (c10_wrong hX l) mf10_wrong ⟨rfl, rfl⟩ ml7_73 mi10_wrong me10_wrong (xrm_ok (by omega) (by decide)) rfl (by decide) (by decide +kernel), List.forall_mem_cons.mpr ⟨xcal_v (na := 0) (c10_advance hX l) mf10_advance ⟨rfl, rfl⟩ ml7_79 mi10_advance me10_advance (xrm_ok (by omega) (by decide)) rfl (by decide) (by decide +kernel), List.forall_mem_cons.mpr ⟨xcal_v (na := 2) (c7_readName hX l) mf7_readName ⟨rfl, rfl⟩ ml7_86 mi7_readName me7_readName (xrm_ok (by omega) (by decide)) rfl (by decide) (by decide +kernel), List.forall_mem_cons.mpr ⟨xcal_v (na := 5) (c7_readMeasure hX l) mf7_readMeasure ⟨rfl, rfl⟩ ml7_100 mi7_readMeasure me7_readMeasure (xrm_ok (by omega) (by decide)) rfl (by decide) (by decide +kernel), List.forall_mem_cons.mpr ⟨xcal_v (na := 1) (c10_take hX l) mf10_take ⟨rfl, rfl⟩ ml7_113 mi10_take me10_take (xrm_ok (by omega) (by decide)) rfl (by decide) (by decide +kernel), fun _ h => absurd h List.not_mem_nil⟩⟩⟩⟩⟩)
   (xrm_1 (by decide)) ⟨_, _, rfl, rfl⟩ (fun av μ r μ' h => by
    unfold F7_readMan at h
    split at h
    · replace h := cond_inv h; obtain ⟨hb, h⟩ := h
      simp only [Bool.and_eq_true] at hb
      obtain ⟨g0, g1⟩ := hb
      obtain rfl := Nat.eq_of_beq_eq_true g0
      obtain rfl := Nat.eq_of_beq_eq_true g1
      exact ⟨Nat.le_of_ble_eq_true rfl, (q7_readMan _ _ _).trans ((f7_readMan_e _ _).symm.trans h)⟩
    · cases h)
def t7_readGaps : List XE := [(0, .aload_n 0, 0, 0, 0, 0, []),
  (1, .getfield 25, 7, 2, 0, 0, []),
  (4, .ifCond .eq 12, 16, 0, 0, 0, []),
  (7, .aload_n 0, 0, 0, 0, 0, []),
  (8, .getfield 18, 7, 1, 0, 0, []),
  (11, .iconst 3, 0, 0, 3, 0, []),
  (12, .invokevirtual 73, 2, 10, 0, 0, []),
  (15, .ireturn, 0, 0, 0, 0, []),
  (16, .aload_n 0, 0, 0, 0, 0, []),
  (17, .iconst 1, 0, 0, 1, 0, []),
  (18, .putfield 25, 7, 2, 0, 0, []),
  (21, .aload_n 0, 0, 0, 0, 0, []),
  (22, .getfield 18, 7, 1, 0, 0, []),
  (25, .invokevirtual 79, 1, 10, 0, 0, []),
  (28, .aload_n 0, 0, 0, 0, 0, []),
  (29, .getfield 18, 7, 1, 0, 0, []),
  (32, .iconst 0, 0, 0, 0, 0, []),
  (33, .bipush 9, 0, 0, 9, 0, []),
  (35, .invokevirtual 134, 3, 10, 0, 0, []),
  (38, .ifCond .ne 5, 43, 0, 0, 0, []),
  (41, .iconst 0, 0, 0, 0, 0, []),
  (42, .ireturn, 0, 0, 0, 0, []),
  (43, .aload_n 0, 0, 0, 0, 0, []),
  (44, .getfield 12, 7, 0, 0, 0, []),
  (47, .aload_n 0, 0, 0, 0, 0, []),
  (48, .getfield 18, 7, 1, 0, 0, []),
  (51, .getfield 138, 10, 5, 0, 0, []),
  (54, .putfield 141, 2, 3, 0, 0, []),
  (57, .aload_n 0, 0, 0, 0, 0, []),
  (58, .getfield 18, 7, 1, 0, 0, []),
  (61, .invokevirtual 79, 1, 10, 0, 0, []),
  (64, .aload_n 0, 0, 0, 0, 0, []),
  (65, .getfield 18, 7, 1, 0, 0, []),
  (68, .bipush 59, 0, 0, 59, 0, []),
  (70, .invokevirtual 113, 2, 10, 0, 0, []),
  (73, .ireturn, 0, 0, 0, 0, [])]
noncomputable def e7_readGaps : XN := [(73, 1, 2, 10, F10_wrong), (79, 0, 1, 10, F10_advance), (134, 1, 3, 10, F10_isNumber), (113, 1, 2, 10, F10_take)]
noncomputable def k7_readGaps (μ : XM) : XR :=
  xite ((rI μ 7 0 2) = 0) (
    xck (xbl 1) <|
    mS (sI μ 7 0 2 1) fun m1 =>
    bV (f10_advance m1) fun m2 =>
    bI (f10_isNumber 0 9 m2) fun r4 m3 =>
    xite (r4 = 0) (
      xrb 0 m3) (
      mS (sI m3 2 1 3 (rI m3 10 0 5)) fun m5 =>
      bV (f10_advance m5) fun m6 =>
      bI (f10_take 59 m6) fun r8 m7 =>
      xrb r8 m7)) (
    bI (f10_wrong 3 μ) fun r10 m9 =>
    xrb r10 m9)
set_option maxRecDepth 100000 in
theorem q7_readGaps (n : Nat) (μ : XM) : xrun t7_readGaps e7_readGaps (xrtk (some .boolean)) 41 n (xlo [xr 7 0 0] 1) μ = k7_readGaps  μ := rfl
theorem x7_readGaps : ∃ f : XM → XR, ∀ (μ : XM), f μ = k7_readGaps  μ := ⟨fun μ => k7_readGaps  μ, fun μ => rfl⟩
noncomputable def f7_readGaps : XM → XR := Classical.choose x7_readGaps
theorem f7_readGaps_e (μ : XM) : f7_readGaps μ = k7_readGaps  μ := Classical.choose_spec x7_readGaps μ
noncomputable def F7_readGaps : XF := fun av μ => match av with
  | [.inr (.inr (some (t0, i0, 0)))] => bif Nat.beq t0 7 && Nat.beq i0 0 then f7_readGaps  μ else none
  | _ => none
set_option maxRecDepth 100000 in
theorem c7_readGaps {X : XP} (hX : XOK X) (l : Launch) : Ctr X l y7_readGaps prog_9_method_6_code 1 (some .boolean) (xrm 12) 0 0 F7_readGaps :=
  Ctr_of (tab := t7_readGaps) (env := e7_readGaps) (K := 41) (N := 20000) (fl := fl7) (cl := cl7) (ll := ll7) (jl := jl7) hX mf7_readGaps.2.2.2 ⟨by decide +kernel, flk7, clk7, llk7, jlk7⟩
   (List.forall_mem_cons.mpr ⟨xcal_v (na := 1) (c10_wrong hX l) mf10_wrong ⟨rfl, rfl⟩ ml7_73 mi10_wrong me10_wrong (xrm_ok (by omega) (by decide)) rfl (by decide) (by decide +kernel), List.forall_mem_cons.mpr ⟨xcal_v (na := 0) (c10_advance hX l) mf10_advance ⟨rfl, rfl⟩ ml7_79 mi10_advance me10_advance (xrm_ok (by omega) (by decide)) rfl (by decide) (by decide +kernel), List.forall_mem_cons.mpr ⟨xcal_v (na := 2) (c10_isNumber hX l) mf10_isNumber ⟨rfl, rfl⟩ ml7_134 mi10_isNumber me10_isNumber (xrm_ok (by omega) (by decide)) rfl (by decide) (by decide +kernel), List.forall_mem_cons.mpr ⟨xcal_v (na := 1) (c10_take hX l) mf10_take ⟨rfl, rfl⟩ ml7_113 mi10_take me10_take (xrm_ok (by omega) (by decide)) rfl (by decide) (by decide +kernel), fun _ h => absurd h List.not_mem_nil⟩⟩⟩⟩)
   (xrm_1 (by decide)) ⟨_, _, rfl, rfl⟩ (fun av μ r μ' h => by
    unfold F7_readGaps at h
    split at h
    · replace h := cond_inv h; obtain ⟨hb, h⟩ := h
      simp only [Bool.and_eq_true] at hb
      obtain ⟨g0, g1⟩ := hb
      obtain rfl := Nat.eq_of_beq_eq_true g0
      obtain rfl := Nat.eq_of_beq_eq_true g1
      exact ⟨Nat.le_of_ble_eq_true rfl, (q7_readGaps _  _).trans ((f7_readGaps_e  _).symm.trans h)⟩
    · cases h)
def t7_readWater : List XE := [(0, .aload_n 0, 0, 0, 0, 0, []),
  (1, .getfield 29, 7, 3, 0, 0, []),
  (4, .ifCond .eq 12, 16, 0, 0, 0, []),
  (7, .aload_n 0, 0, 0, 0, 0, []),
  (8, .getfield 18, 7, 1, 0, 0, []),
  (11, .iconst 3, 0, 0, 3, 0, []),
  (12, .invokevirtual 73, 2, 10, 0, 0, []),
  (15, .ireturn, 0, 0, 0, 0, []),
  (16, .aload_n 0, 0, 0, 0, 0, []),
  (17, .iconst 1, 0, 0, 1, 0, []),
  (18, .putfield 29, 7, 3, 0, 0, []),
  (21, .aload_n 0, 0, 0, 0, 0, []),
  (22, .getfield 18, 7, 1, 0, 0, []),
  (25, .invokevirtual 79, 1, 10, 0, 0, []),
  (28, .aload_n 0, 0, 0, 0, 0, []),
  (29, .getfield 18, 7, 1, 0, 0, []),
  (32, .iconst 0, 0, 0, 0, 0, []),
  (33, .bipush 40, 0, 0, 40, 0, []),
  (35, .invokevirtual 134, 3, 10, 0, 0, []),
  (38, .ifCond .ne 5, 43, 0, 0, 0, []),
  (41, .iconst 0, 0, 0, 0, 0, []),
  (42, .ireturn, 0, 0, 0, 0, []),
  (43, .aload_n 0, 0, 0, 0, 0, []),
  (44, .getfield 12, 7, 0, 0, 0, []),
  (47, .aload_n 0, 0, 0, 0, 0, []),
  (48, .getfield 18, 7, 1, 0, 0, []),
  (51, .getfield 138, 10, 5, 0, 0, []),
  (54, .putfield 144, 2, 4, 0, 0, []),
  (57, .aload_n 0, 0, 0, 0, 0, []),
  (58, .getfield 18, 7, 1, 0, 0, []),
  (61, .invokevirtual 79, 1, 10, 0, 0, []),
  (64, .aload_n 0, 0, 0, 0, 0, []),
  (65, .getfield 18, 7, 1, 0, 0, []),
  (68, .bipush 59, 0, 0, 59, 0, []),
  (70, .invokevirtual 113, 2, 10, 0, 0, []),
  (73, .ireturn, 0, 0, 0, 0, [])]
noncomputable def e7_readWater : XN := [(73, 1, 2, 10, F10_wrong), (79, 0, 1, 10, F10_advance), (134, 1, 3, 10, F10_isNumber), (113, 1, 2, 10, F10_take)]
noncomputable def k7_readWater (μ : XM) : XR :=
  xite ((rI μ 7 0 3) = 0) (
    xck (xbl 1) <|
    mS (sI μ 7 0 3 1) fun m1 =>
    bV (f10_advance m1) fun m2 =>
    bI (f10_isNumber 0 40 m2) fun r4 m3 =>
    xite (r4 = 0) (
      xrb 0 m3) (
      mS (sI m3 2 1 4 (rI m3 10 0 5)) fun m5 =>
      bV (f10_advance m5) fun m6 =>
      bI (f10_take 59 m6) fun r8 m7 =>
      xrb r8 m7)) (
    bI (f10_wrong 3 μ) fun r10 m9 =>
    xrb r10 m9)
set_option maxRecDepth 100000 in
theorem q7_readWater (n : Nat) (μ : XM) : xrun t7_readWater e7_readWater (xrtk (some .boolean)) 41 n (xlo [xr 7 0 0] 1) μ = k7_readWater  μ := rfl
theorem x7_readWater : ∃ f : XM → XR, ∀ (μ : XM), f μ = k7_readWater  μ := ⟨fun μ => k7_readWater  μ, fun μ => rfl⟩
noncomputable def f7_readWater : XM → XR := Classical.choose x7_readWater
theorem f7_readWater_e (μ : XM) : f7_readWater μ = k7_readWater  μ := Classical.choose_spec x7_readWater μ
noncomputable def F7_readWater : XF := fun av μ => match av with
  | [.inr (.inr (some (t0, i0, 0)))] => bif Nat.beq t0 7 && Nat.beq i0 0 then f7_readWater  μ else none
  | _ => none
set_option maxRecDepth 100000 in
theorem c7_readWater {X : XP} (hX : XOK X) (l : Launch) : Ctr X l y7_readWater prog_9_method_7_code 1 (some .boolean) (xrm 12) 0 0 F7_readWater :=
  Ctr_of (tab := t7_readWater) (env := e7_readWater) (K := 41) (N := 20000) (fl := fl7) (cl := cl7) (ll := ll7) (jl := jl7) hX mf7_readWater.2.2.2 ⟨by decide +kernel, flk7, clk7, llk7, jlk7⟩
   (List.forall_mem_cons.mpr ⟨xcal_v (na := 1) (c10_wrong hX l) mf10_wrong ⟨rfl, rfl⟩ ml7_73 mi10_wrong me10_wrong (xrm_ok (by omega) (by decide)) rfl (by decide) (by decide +kernel), List.forall_mem_cons.mpr ⟨xcal_v (na := 0) (c10_advance hX l) mf10_advance ⟨rfl, rfl⟩ ml7_79 mi10_advance me10_advance (xrm_ok (by omega) (by decide)) rfl (by decide) (by decide +kernel), List.forall_mem_cons.mpr ⟨xcal_v (na := 2) (c10_isNumber hX l) mf10_isNumber ⟨rfl, rfl⟩ ml7_134 mi10_isNumber me10_isNumber (xrm_ok (by omega) (by decide)) rfl (by decide) (by decide +kernel), List.forall_mem_cons.mpr ⟨xcal_v (na := 1) (c10_take hX l) mf10_take ⟨rfl, rfl⟩ ml7_113 mi10_take me10_take (xrm_ok (by omega) (by decide)) rfl (by decide) (by decide +kernel), fun _ h => absurd h List.not_mem_nil⟩⟩⟩⟩)
   (xrm_1 (by decide)) ⟨_, _, rfl, rfl⟩ (fun av μ r μ' h => by
    unfold F7_readWater at h
    split at h
    · replace h := cond_inv h; obtain ⟨hb, h⟩ := h
      simp only [Bool.and_eq_true] at hb
      obtain ⟨g0, g1⟩ := hb
      obtain rfl := Nat.eq_of_beq_eq_true g0
      obtain rfl := Nat.eq_of_beq_eq_true g1
      exact ⟨Nat.le_of_ble_eq_true rfl, (q7_readWater _  _).trans ((f7_readWater_e  _).symm.trans h)⟩
    · cases h)
def t7_write : List XE := [(0, .aload_n 0, 0, 0, 0, 0, []),
  (1, .getfield 12, 7, 0, 0, 0, []),
  (4, .getfield 179, 2, 16, 0, 0, []),
  (7, .iload_n 1, 1, 0, 0, 0, []),
  (8, .invokevirtual 189, 2, 4, 0, 0, []),
  (11, .iconst 1, 0, 0, 1, 0, []),
  (12, .ireturn, 0, 0, 0, 0, [])]
noncomputable def e7_write : XN := [(189, 0, 2, 4, F4_addKind)]
noncomputable def k7_write (p1 : Int32) (μ : XM) : XR :=
  bV (f4_addKind 1 p1 μ) fun m1 =>
  xrb 1 m1
set_option maxRecDepth 100000 in
theorem q7_write (n : Nat) (p1 : Int32) (μ : XM) : xrun t7_write e7_write (xrtk (some .boolean)) 12 n (xlo [xr 7 0 0, xi p1] 2) μ = k7_write p1 μ := rfl
theorem x7_write : ∃ f : Int32 → XM → XR, ∀ (p1 : Int32) (μ : XM), f p1 μ = k7_write p1 μ := ⟨fun p1 μ => k7_write p1 μ, fun p1 μ => rfl⟩
noncomputable def f7_write : Int32 → XM → XR := Classical.choose x7_write
theorem f7_write_e (p1 : Int32) (μ : XM) : f7_write p1 μ = k7_write p1 μ := Classical.choose_spec x7_write p1 μ
noncomputable def F7_write : XF := fun av μ => match av with
  | [.inr (.inr (some (t0, i0, 0))), .inl p1] => bif Nat.beq t0 7 && Nat.beq i0 0 then f7_write p1 μ else none
  | _ => none
set_option maxRecDepth 100000 in
theorem c7_write {X : XP} (hX : XOK X) (l : Launch) : Ctr X l y7_write prog_9_method_17_code 2 (some .boolean) (xrm 3) 0 0 F7_write :=
  Ctr_of (tab := t7_write) (env := e7_write) (K := 12) (N := 20000) (fl := fl7) (cl := cl7) (ll := ll7) (jl := jl7) hX mf7_write.2.2.2 ⟨by decide +kernel, flk7, clk7, llk7, jlk7⟩
   (List.forall_mem_cons.mpr ⟨xcal_v (na := 1) (c4_addKind hX l) mf4_addKind ⟨rfl, rfl⟩ ml7_189 mi4_addKind me4_addKind (xrm_ok (by omega) (by decide)) rfl (by decide) (by decide +kernel), fun _ h => absurd h List.not_mem_nil⟩)
   (xrm_1 (by decide)) ⟨_, _, rfl, rfl⟩ (fun av μ r μ' h => by
    unfold F7_write at h
    split at h
    · replace h := cond_inv h; obtain ⟨hb, h⟩ := h
      simp only [Bool.and_eq_true] at hb
      obtain ⟨g0, g1⟩ := hb
      obtain rfl := Nat.eq_of_beq_eq_true g0
      obtain rfl := Nat.eq_of_beq_eq_true g1
      exact ⟨Nat.le_of_ble_eq_true rfl, (q7_write _ _ _).trans ((f7_write_e _ _).symm.trans h)⟩
    · cases h)
def t7_readE : List XE := [(0, .aload_n 0, 0, 0, 0, 0, []),
  (1, .iload_n 1, 1, 0, 0, 0, []),
  (2, .invokevirtual 161, 2, 7, 0, 0, []),
  (5, .istore_n 2, 2, 0, 0, 0, []),
  (6, .iconst 0, 0, 0, 0, 0, []),
  (7, .istore_n 3, 3, 0, 0, 0, []),
  (8, .nop, 15, 0, 0, 0, []),
  (8, .iload_n 2, 2, 0, 0, 0, []),
  (9, .ifCond .eq 74, 83, 0, 0, 0, []),
  (12, .iload_n 3, 3, 0, 0, 0, []),
  (13, .sipush 1000, 0, 0, 1000, 0, []),
  (16, .if_icmp .ge 67, 83, 0, 0, 0, []),
  (19, .aload_n 0, 0, 0, 0, 0, []),
  (20, .getfield 18, 7, 1, 0, 0, []),
  (23, .getfield 40, 10, 4, 0, 0, []),
  (26, .istore 4, 4, 0, 0, 0, []),
  (28, .iload 4, 4, 0, 0, 0, []),
  (30, .sipush 149, 0, 0, 149, 0, []),
  (33, .if_icmp .eq 14, 47, 0, 0, 0, []),
  (36, .iload 4, 4, 0, 0, 0, []),
  (38, .sipush 150, 0, 0, 150, 0, []),
  (41, .if_icmp .eq 6, 47, 0, 0, 0, []),
  (44, .goto 39, 83, 0, 0, 0, []),
  (47, .nop, 27, 0, 0, 0, []),
  (47, .aload_n 0, 0, 0, 0, 0, []),
  (48, .getfield 18, 7, 1, 0, 0, []),
  (51, .invokevirtual 79, 1, 10, 0, 0, []),
  (54, .aload_n 0, 0, 0, 0, 0, []),
  (55, .iload_n 1, 1, 0, 0, 0, []),
  (56, .invokevirtual 161, 2, 7, 0, 0, []),
  (59, .ifCond .eq 16, 75, 0, 0, 0, []),
  (62, .aload_n 0, 0, 0, 0, 0, []),
  (63, .iload 4, 4, 0, 0, 0, []),
  (65, .invokevirtual 164, 2, 7, 0, 0, []),
  (68, .ifCond .eq 7, 75, 0, 0, 0, []),
  (71, .iconst 1, 0, 0, 1, 0, []),
  (72, .goto 4, 76, 0, 0, 0, []),
  (75, .iconst 0, 0, 0, 0, 0, []),
  (76, .istore_n 2, 2, 0, 0, 0, []),
  (77, .iinc 3 1, 3, 0, 1, 0, []),
  (80, .goto (-72), 8, 0, 0, 0, []),
  (83, .iload_n 2, 2, 0, 0, 0, []),
  (84, .ireturn, 0, 0, 0, 0, [])]
noncomputable def e7_readE (w : Nat → XF) : XN := [(161, 1, 2, 7, (w 1)), (79, 0, 1, 10, F10_advance), (164, 1, 2, 7, F7_write)]
def t7_readTest : List XE := [(0, .aload_n 0, 0, 0, 0, 0, []),
  (1, .iload_n 1, 1, 0, 0, 0, []),
  (2, .invokevirtual 167, 2, 7, 0, 0, []),
  (5, .ifCond .ne 5, 10, 0, 0, 0, []),
  (8, .iconst 0, 0, 0, 0, 0, []),
  (9, .ireturn, 0, 0, 0, 0, []),
  (10, .aload_n 0, 0, 0, 0, 0, []),
  (11, .getfield 18, 7, 1, 0, 0, []),
  (14, .getfield 40, 10, 4, 0, 0, []),
  (17, .istore_n 2, 2, 0, 0, 0, []),
  (18, .iload_n 2, 2, 0, 0, 0, []),
  (19, .bipush 60, 0, 0, 60, 0, []),
  (21, .if_icmp .eq 11, 32, 0, 0, 0, []),
  (24, .iload_n 2, 2, 0, 0, 0, []),
  (25, .bipush 61, 0, 0, 61, 0, []),
  (27, .if_icmp .eq 5, 32, 0, 0, 0, []),
  (30, .iconst 1, 0, 0, 1, 0, []),
  (31, .ireturn, 0, 0, 0, 0, []),
  (32, .nop, 7, 0, 0, 0, []),
  (32, .aload_n 0, 0, 0, 0, 0, []),
  (33, .getfield 18, 7, 1, 0, 0, []),
  (36, .invokevirtual 79, 1, 10, 0, 0, []),
  (39, .aload_n 0, 0, 0, 0, 0, []),
  (40, .iload_n 1, 1, 0, 0, 0, []),
  (41, .invokevirtual 167, 2, 7, 0, 0, []),
  (44, .ifCond .eq 15, 59, 0, 0, 0, []),
  (47, .aload_n 0, 0, 0, 0, 0, []),
  (48, .iload_n 2, 2, 0, 0, 0, []),
  (49, .invokevirtual 164, 2, 7, 0, 0, []),
  (52, .ifCond .eq 7, 59, 0, 0, 0, []),
  (55, .iconst 1, 0, 0, 1, 0, []),
  (56, .goto 4, 60, 0, 0, 0, []),
  (59, .iconst 0, 0, 0, 0, 0, []),
  (60, .ireturn, 0, 0, 0, 0, [])]
noncomputable def e7_readTest (w : Nat → XF) : XN := [(167, 1, 2, 7, (w 2)), (79, 0, 1, 10, F10_advance), (164, 1, 2, 7, F7_write)]
def t7_readSum : List XE := [(0, .aload_n 0, 0, 0, 0, 0, []),
  (1, .iload_n 1, 1, 0, 0, 0, []),
  (2, .invokevirtual 170, 2, 7, 0, 0, []),
  (5, .istore_n 2, 2, 0, 0, 0, []),
  (6, .iconst 0, 0, 0, 0, 0, []),
  (7, .istore_n 3, 3, 0, 0, 0, []),
  (8, .nop, 15, 0, 0, 0, []),
  (8, .iload_n 2, 2, 0, 0, 0, []),
  (9, .ifCond .eq 72, 81, 0, 0, 0, []),
  (12, .iload_n 3, 3, 0, 0, 0, []),
  (13, .sipush 1000, 0, 0, 1000, 0, []),
  (16, .if_icmp .ge 65, 81, 0, 0, 0, []),
  (19, .aload_n 0, 0, 0, 0, 0, []),
  (20, .getfield 18, 7, 1, 0, 0, []),
  (23, .getfield 40, 10, 4, 0, 0, []),
  (26, .istore 4, 4, 0, 0, 0, []),
  (28, .iload 4, 4, 0, 0, 0, []),
  (30, .bipush 43, 0, 0, 43, 0, []),
  (32, .if_icmp .eq 13, 45, 0, 0, 0, []),
  (35, .iload 4, 4, 0, 0, 0, []),
  (37, .bipush 45, 0, 0, 45, 0, []),
  (39, .if_icmp .eq 6, 45, 0, 0, 0, []),
  (42, .goto 39, 81, 0, 0, 0, []),
  (45, .nop, 27, 0, 0, 0, []),
  (45, .aload_n 0, 0, 0, 0, 0, []),
  (46, .getfield 18, 7, 1, 0, 0, []),
  (49, .invokevirtual 79, 1, 10, 0, 0, []),
  (52, .aload_n 0, 0, 0, 0, 0, []),
  (53, .iload_n 1, 1, 0, 0, 0, []),
  (54, .invokevirtual 170, 2, 7, 0, 0, []),
  (57, .ifCond .eq 16, 73, 0, 0, 0, []),
  (60, .aload_n 0, 0, 0, 0, 0, []),
  (61, .iload 4, 4, 0, 0, 0, []),
  (63, .invokevirtual 164, 2, 7, 0, 0, []),
  (66, .ifCond .eq 7, 73, 0, 0, 0, []),
  (69, .iconst 1, 0, 0, 1, 0, []),
  (70, .goto 4, 74, 0, 0, 0, []),
  (73, .iconst 0, 0, 0, 0, 0, []),
  (74, .istore_n 2, 2, 0, 0, 0, []),
  (75, .iinc 3 1, 3, 0, 1, 0, []),
  (78, .goto (-70), 8, 0, 0, 0, []),
  (81, .iload_n 2, 2, 0, 0, 0, []),
  (82, .ireturn, 0, 0, 0, 0, [])]
noncomputable def e7_readSum (w : Nat → XF) : XN := [(170, 1, 2, 7, (w 3)), (79, 0, 1, 10, F10_advance), (164, 1, 2, 7, F7_write)]
def t7_readProduct : List XE := [(0, .aload_n 0, 0, 0, 0, 0, []),
  (1, .iload_n 1, 1, 0, 0, 0, []),
  (2, .invokevirtual 173, 2, 7, 0, 0, []),
  (5, .istore_n 2, 2, 0, 0, 0, []),
  (6, .iconst 0, 0, 0, 0, 0, []),
  (7, .istore_n 3, 3, 0, 0, 0, []),
  (8, .nop, 15, 0, 0, 0, []),
  (8, .iload_n 2, 2, 0, 0, 0, []),
  (9, .ifCond .eq 58, 67, 0, 0, 0, []),
  (12, .iload_n 3, 3, 0, 0, 0, []),
  (13, .sipush 1000, 0, 0, 1000, 0, []),
  (16, .if_icmp .ge 51, 67, 0, 0, 0, []),
  (19, .aload_n 0, 0, 0, 0, 0, []),
  (20, .getfield 18, 7, 1, 0, 0, []),
  (23, .getfield 40, 10, 4, 0, 0, []),
  (26, .bipush 42, 0, 0, 42, 0, []),
  (28, .if_icmp .ne 39, 67, 0, 0, 0, []),
  (31, .aload_n 0, 0, 0, 0, 0, []),
  (32, .getfield 18, 7, 1, 0, 0, []),
  (35, .invokevirtual 79, 1, 10, 0, 0, []),
  (38, .aload_n 0, 0, 0, 0, 0, []),
  (39, .iload_n 1, 1, 0, 0, 0, []),
  (40, .invokevirtual 173, 2, 7, 0, 0, []),
  (43, .ifCond .eq 16, 59, 0, 0, 0, []),
  (46, .aload_n 0, 0, 0, 0, 0, []),
  (47, .bipush 42, 0, 0, 42, 0, []),
  (49, .invokevirtual 164, 2, 7, 0, 0, []),
  (52, .ifCond .eq 7, 59, 0, 0, 0, []),
  (55, .iconst 1, 0, 0, 1, 0, []),
  (56, .goto 4, 60, 0, 0, 0, []),
  (59, .iconst 0, 0, 0, 0, 0, []),
  (60, .istore_n 2, 2, 0, 0, 0, []),
  (61, .iinc 3 1, 3, 0, 1, 0, []),
  (64, .goto (-56), 8, 0, 0, 0, []),
  (67, .iload_n 2, 2, 0, 0, 0, []),
  (68, .ireturn, 0, 0, 0, 0, [])]
noncomputable def e7_readProduct (w : Nat → XF) : XN := [(173, 1, 2, 7, (w 4)), (79, 0, 1, 10, F10_advance), (164, 1, 2, 7, F7_write)]
def t7_readPart : List XE := [(0, .aload_n 0, 0, 0, 0, 0, []),
  (1, .getfield 18, 7, 1, 0, 0, []),
  (4, .getfield 40, 10, 4, 0, 0, []),
  (7, .istore_n 2, 2, 0, 0, 0, []),
  (8, .iload_n 2, 2, 0, 0, 0, []),
  (9, .iconst 2, 0, 0, 2, 0, []),
  (10, .if_icmp .eq 35, 45, 0, 0, 0, []),
  (13, .iload_n 2, 2, 0, 0, 0, []),
  (14, .sipush 148, 0, 0, 148, 0, []),
  (17, .if_icmp .eq 28, 45, 0, 0, 0, []),
  (20, .iload_n 2, 2, 0, 0, 0, []),
  (21, .bipush 40, 0, 0, 40, 0, []),
  (23, .if_icmp .eq 22, 45, 0, 0, 0, []),
  (26, .aload_n 0, 0, 0, 0, 0, []),
  (27, .getfield 18, 7, 1, 0, 0, []),
  (30, .invokevirtual 176, 1, 10, 0, 0, []),
  (33, .ifCond .ne 12, 45, 0, 0, 0, []),
  (36, .aload_n 0, 0, 0, 0, 0, []),
  (37, .getfield 18, 7, 1, 0, 0, []),
  (40, .iconst 1, 0, 0, 1, 0, []),
  (41, .invokevirtual 73, 2, 10, 0, 0, []),
  (44, .ireturn, 0, 0, 0, 0, []),
  (45, .nop, 7, 0, 0, 0, []),
  (45, .iload_n 1, 1, 0, 0, 0, []),
  (46, .iconst 5, 0, 0, 5, 0, []),
  (47, .if_icmp .lt 12, 59, 0, 0, 0, []),
  (50, .aload_n 0, 0, 0, 0, 0, []),
  (51, .getfield 18, 7, 1, 0, 0, []),
  (54, .iconst 5, 0, 0, 5, 0, []),
  (55, .invokevirtual 73, 2, 10, 0, 0, []),
  (58, .ireturn, 0, 0, 0, 0, []),
  (59, .aload_n 0, 0, 0, 0, 0, []),
  (60, .getfield 18, 7, 1, 0, 0, []),
  (63, .getfield 138, 10, 5, 0, 0, []),
  (66, .istore_n 3, 3, 0, 0, 0, []),
  (67, .aload_n 0, 0, 0, 0, 0, []),
  (68, .getfield 18, 7, 1, 0, 0, []),
  (71, .invokevirtual 79, 1, 10, 0, 0, []),
  (74, .iload_n 2, 2, 0, 0, 0, []),
  (75, .sipush 148, 0, 0, 148, 0, []),
  (78, .if_icmp .ne 27, 105, 0, 0, 0, []),
  (81, .aload_n 0, 0, 0, 0, 0, []),
  (82, .iload_n 1, 1, 0, 0, 0, []),
  (83, .iconst 1, 0, 0, 1, 0, []),
  (84, .iadd, 0, 0, 0, 0, []),
  (85, .invokevirtual 173, 2, 7, 0, 0, []),
  (88, .ifCond .eq 15, 103, 0, 0, 0, []),
  (91, .aload_n 0, 0, 0, 0, 0, []),
  (92, .iload_n 2, 2, 0, 0, 0, []),
  (93, .invokevirtual 164, 2, 7, 0, 0, []),
  (96, .ifCond .eq 7, 103, 0, 0, 0, []),
  (99, .iconst 1, 0, 0, 1, 0, []),
  (100, .goto 4, 104, 0, 0, 0, []),
  (103, .iconst 0, 0, 0, 0, 0, []),
  (104, .ireturn, 0, 0, 0, 0, []),
  (105, .iload_n 2, 2, 0, 0, 0, []),
  (106, .bipush 40, 0, 0, 40, 0, []),
  (108, .if_icmp .ne 31, 139, 0, 0, 0, []),
  (111, .aload_n 0, 0, 0, 0, 0, []),
  (112, .iload_n 1, 1, 0, 0, 0, []),
  (113, .iconst 1, 0, 0, 1, 0, []),
  (114, .iadd, 0, 0, 0, 0, []),
  (115, .invokevirtual 147, 2, 7, 0, 0, []),
  (118, .ifCond .eq 19, 137, 0, 0, 0, []),
  (121, .aload_n 0, 0, 0, 0, 0, []),
  (122, .getfield 18, 7, 1, 0, 0, []),
  (125, .bipush 41, 0, 0, 41, 0, []),
  (127, .invokevirtual 113, 2, 10, 0, 0, []),
  (130, .ifCond .eq 7, 137, 0, 0, 0, []),
  (133, .iconst 1, 0, 0, 1, 0, []),
  (134, .goto 4, 138, 0, 0, 0, []),
  (137, .iconst 0, 0, 0, 0, 0, []),
  (138, .ireturn, 0, 0, 0, 0, []),
  (139, .iload_n 2, 2, 0, 0, 0, []),
  (140, .iconst 2, 0, 0, 2, 0, []),
  (141, .if_icmp .ne 16, 157, 0, 0, 0, []),
  (144, .aload_n 0, 0, 0, 0, 0, []),
  (145, .getfield 12, 7, 0, 0, 0, []),
  (148, .getfield 179, 2, 16, 0, 0, []),
  (151, .iload_n 3, 3, 0, 0, 0, []),
  (152, .invokevirtual 183, 2, 4, 0, 0, []),
  (155, .iconst 1, 0, 0, 1, 0, []),
  (156, .ireturn, 0, 0, 0, 0, []),
  (157, .aload_n 0, 0, 0, 0, 0, []),
  (158, .iload_n 2, 2, 0, 0, 0, []),
  (159, .invokevirtual 164, 2, 7, 0, 0, []),
  (162, .ireturn, 0, 0, 0, 0, [])]
noncomputable def e7_readPart (w : Nat → XF) : XN := [(176, 1, 1, 10, F10_isFact), (73, 1, 2, 10, F10_wrong), (79, 0, 1, 10, F10_advance), (173, 1, 2, 7, (w 4)), (164, 1, 2, 7, F7_write), (147, 1, 2, 7, (w 0)), (113, 1, 2, 10, F10_take), (183, 0, 2, 4, F4_addNumber)]
noncomputable def W7_readE (N : Nat) (w : Nat → XF) : XF := fun av μ => match av with
  | [.inr (.inr (some (t0, i0, 0))), .inl p1] => bif Nat.beq t0 7 && Nat.beq i0 0 then xrun t7_readE (e7_readE w) (xrtk (some .boolean)) 48 N (xlo [xr 7 0 0, xi p1] 5) μ else none
  | _ => none
noncomputable def W7_readTest (N : Nat) (w : Nat → XF) : XF := fun av μ => match av with
  | [.inr (.inr (some (t0, i0, 0))), .inl p1] => bif Nat.beq t0 7 && Nat.beq i0 0 then xrun t7_readTest (e7_readTest w) (xrtk (some .boolean)) 39 N (xlo [xr 7 0 0, xi p1] 3) μ else none
  | _ => none
noncomputable def W7_readSum (N : Nat) (w : Nat → XF) : XF := fun av μ => match av with
  | [.inr (.inr (some (t0, i0, 0))), .inl p1] => bif Nat.beq t0 7 && Nat.beq i0 0 then xrun t7_readSum (e7_readSum w) (xrtk (some .boolean)) 48 N (xlo [xr 7 0 0, xi p1] 5) μ else none
  | _ => none
noncomputable def W7_readProduct (N : Nat) (w : Nat → XF) : XF := fun av μ => match av with
  | [.inr (.inr (some (t0, i0, 0))), .inl p1] => bif Nat.beq t0 7 && Nat.beq i0 0 then xrun t7_readProduct (e7_readProduct w) (xrtk (some .boolean)) 41 N (xlo [xr 7 0 0, xi p1] 4) μ else none
  | _ => none
noncomputable def W7_readPart (N : Nat) (w : Nat → XF) : XF := fun av μ => match av with
  | [.inr (.inr (some (t0, i0, 0))), .inl p1] => bif Nat.beq t0 7 && Nat.beq i0 0 then xrun t7_readPart (e7_readPart w) (xrtk (some .boolean)) 92 N (xlo [xr 7 0 0, xi p1] 4) μ else none
  | _ => none
noncomputable def G0 (N d : Nat) : Nat → XF := Nat.rec (fun _ _ _ => none) (fun _ w k => match k with
  | 0 => W7_readE N w
  | 1 => W7_readTest N w
  | 2 => W7_readSum N w
  | 3 => W7_readProduct N w
  | 4 => W7_readPart N w
  | _ => fun _ _ => none) d
noncomputable def f7_readE (N d : Nat) (p1 : Int32) (μ : XM) : XR := G0 N d 0 [xr 7 0 0, xi p1] μ
noncomputable def f7_readTest (N d : Nat) (p1 : Int32) (μ : XM) : XR := G0 N d 1 [xr 7 0 0, xi p1] μ
noncomputable def f7_readSum (N d : Nat) (p1 : Int32) (μ : XM) : XR := G0 N d 2 [xr 7 0 0, xi p1] μ
noncomputable def f7_readProduct (N d : Nat) (p1 : Int32) (μ : XM) : XR := G0 N d 3 [xr 7 0 0, xi p1] μ
noncomputable def f7_readPart (N d : Nat) (p1 : Int32) (μ : XM) : XR := G0 N d 4 [xr 7 0 0, xi p1] μ
noncomputable def h7_readE_8 (N d n : Nat) (v1 : Int32) (v2 : Int32) (v3 : Int32) (μ : XM) : XR := arr t7_readE (e7_readE (G0 N d)) 2 48 n 8 [some (xr 7 0 0), some (xi v1), some (xi v2), some (xi v3), none] [] μ
noncomputable def h7_readE_47 (N d n : Nat) (v1 : Int32) (v3 : Int32) (v4 : Int32) (μ : XM) : XR := arr t7_readE (e7_readE (G0 N d)) 2 48 n 47 [some (xr 7 0 0), some (xi v1), none, some (xi v3), some (xi v4)] [] μ
noncomputable def h7_readTest_32 (N d n : Nat) (v1 : Int32) (v2 : Int32) (μ : XM) : XR := arr t7_readTest (e7_readTest (G0 N d)) 2 39 n 32 [some (xr 7 0 0), some (xi v1), some (xi v2)] [] μ
noncomputable def h7_readSum_8 (N d n : Nat) (v1 : Int32) (v2 : Int32) (v3 : Int32) (μ : XM) : XR := arr t7_readSum (e7_readSum (G0 N d)) 2 48 n 8 [some (xr 7 0 0), some (xi v1), some (xi v2), some (xi v3), none] [] μ
noncomputable def h7_readSum_45 (N d n : Nat) (v1 : Int32) (v3 : Int32) (v4 : Int32) (μ : XM) : XR := arr t7_readSum (e7_readSum (G0 N d)) 2 48 n 45 [some (xr 7 0 0), some (xi v1), none, some (xi v3), some (xi v4)] [] μ
noncomputable def h7_readProduct_8 (N d n : Nat) (v1 : Int32) (v2 : Int32) (v3 : Int32) (μ : XM) : XR := arr t7_readProduct (e7_readProduct (G0 N d)) 2 41 n 8 [some (xr 7 0 0), some (xi v1), some (xi v2), some (xi v3)] [] μ
noncomputable def h7_readPart_45 (N d n : Nat) (v1 : Int32) (v2 : Int32) (μ : XM) : XR := arr t7_readPart (e7_readPart (G0 N d)) 2 92 n 45 [some (xr 7 0 0), some (xi v1), some (xi v2), none] [] μ
set_option maxRecDepth 100000 in
theorem h7_readE_8_s (N d n : Nat) (v1 : Int32) (v2 : Int32) (v3 : Int32) (μ : XM) : h7_readE_8 N d (n + 1) v1 v2 v3 μ = (
  xite (v2 = 0) (
    xrb v2 μ) (
    xite (v3 < 1000) (
      vI (rI μ 10 0 4) fun x1 =>
      xite (x1 = 149) (
        h7_readE_47 N d n v1 v3 x1 μ) (
        xite (x1 = 150) (
          h7_readE_47 N d n v1 v3 x1 μ) (
          xrb v2 μ))) (
      xrb v2 μ))) := rfl
set_option maxRecDepth 100000 in
theorem h7_readE_47_s (N d n : Nat) (v1 : Int32) (v3 : Int32) (v4 : Int32) (μ : XM) : h7_readE_47 N d (n + 1) v1 v3 v4 μ = (
  bV (f10_advance μ) fun m1 =>
  bI (f7_readTest N d v1 m1) fun r3 m2 =>
  xite (r3 = 0) (
    vI 0 fun x4 =>
    vI (v3 + 1) fun x5 =>
    h7_readE_8 N d n v1 x4 x5 m2) (
    bI (f7_write v4 m2) fun r7 m6 =>
    xite (r7 = 0) (
      vI 0 fun x8 =>
      vI (v3 + 1) fun x9 =>
      h7_readE_8 N d n v1 x8 x9 m6) (
      vI 1 fun x10 =>
      vI (v3 + 1) fun x11 =>
      h7_readE_8 N d n v1 x10 x11 m6))) := rfl
set_option maxRecDepth 100000 in
theorem f7_readE_s (N d : Nat) (p1 : Int32) (μ : XM) : f7_readE N (d + 1) p1 μ = (
  bI (f7_readTest N d p1 μ) fun r2 m1 =>
  vI r2 fun x3 =>
  vI 0 fun x4 =>
  h7_readE_8 N d N p1 x3 x4 m1) := rfl
theorem f7_readE_0 (N : Nat) (p1 : Int32) (μ : XM) : f7_readE N 0 p1 μ = none := rfl
set_option maxRecDepth 100000 in
theorem h7_readTest_32_s (N d n : Nat) (v1 : Int32) (v2 : Int32) (μ : XM) : h7_readTest_32 N d (n + 1) v1 v2 μ = (
  bV (f10_advance μ) fun m1 =>
  bI (f7_readSum N d v1 m1) fun r3 m2 =>
  xite (r3 = 0) (
    xrb 0 m2) (
    bI (f7_write v2 m2) fun r5 m4 =>
    xite (r5 = 0) (
      xrb 0 m4) (
      xrb 1 m4))) := rfl
set_option maxRecDepth 100000 in
theorem f7_readTest_s (N d : Nat) (p1 : Int32) (μ : XM) : f7_readTest N (d + 1) p1 μ = (
  bI (f7_readSum N d p1 μ) fun r2 m1 =>
  xite (r2 = 0) (
    xrb 0 m1) (
    vI (rI m1 10 0 4) fun x3 =>
    xite (x3 = 60) (
      h7_readTest_32 N d N p1 x3 m1) (
      xite (x3 = 61) (
        h7_readTest_32 N d N p1 x3 m1) (
        xrb 1 m1)))) := rfl
theorem f7_readTest_0 (N : Nat) (p1 : Int32) (μ : XM) : f7_readTest N 0 p1 μ = none := rfl
set_option maxRecDepth 100000 in
theorem h7_readSum_8_s (N d n : Nat) (v1 : Int32) (v2 : Int32) (v3 : Int32) (μ : XM) : h7_readSum_8 N d (n + 1) v1 v2 v3 μ = (
  xite (v2 = 0) (
    xrb v2 μ) (
    xite (v3 < 1000) (
      vI (rI μ 10 0 4) fun x1 =>
      xite (x1 = 43) (
        h7_readSum_45 N d n v1 v3 x1 μ) (
        xite (x1 = 45) (
          h7_readSum_45 N d n v1 v3 x1 μ) (
          xrb v2 μ))) (
      xrb v2 μ))) := rfl
set_option maxRecDepth 100000 in
theorem h7_readSum_45_s (N d n : Nat) (v1 : Int32) (v3 : Int32) (v4 : Int32) (μ : XM) : h7_readSum_45 N d (n + 1) v1 v3 v4 μ = (
  bV (f10_advance μ) fun m1 =>
  bI (f7_readProduct N d v1 m1) fun r3 m2 =>
  xite (r3 = 0) (
    vI 0 fun x4 =>
    vI (v3 + 1) fun x5 =>
    h7_readSum_8 N d n v1 x4 x5 m2) (
    bI (f7_write v4 m2) fun r7 m6 =>
    xite (r7 = 0) (
      vI 0 fun x8 =>
      vI (v3 + 1) fun x9 =>
      h7_readSum_8 N d n v1 x8 x9 m6) (
      vI 1 fun x10 =>
      vI (v3 + 1) fun x11 =>
      h7_readSum_8 N d n v1 x10 x11 m6))) := rfl
set_option maxRecDepth 100000 in
theorem f7_readSum_s (N d : Nat) (p1 : Int32) (μ : XM) : f7_readSum N (d + 1) p1 μ = (
  bI (f7_readProduct N d p1 μ) fun r2 m1 =>
  vI r2 fun x3 =>
  vI 0 fun x4 =>
  h7_readSum_8 N d N p1 x3 x4 m1) := rfl
theorem f7_readSum_0 (N : Nat) (p1 : Int32) (μ : XM) : f7_readSum N 0 p1 μ = none := rfl
set_option maxRecDepth 100000 in
theorem h7_readProduct_8_s (N d n : Nat) (v1 : Int32) (v2 : Int32) (v3 : Int32) (μ : XM) : h7_readProduct_8 N d (n + 1) v1 v2 v3 μ = (
  xite (v2 = 0) (
    xrb v2 μ) (
    xite (v3 < 1000) (
      xite ((rI μ 10 0 4) = 42) (
        bV (f10_advance μ) fun m1 =>
        bI (f7_readPart N d v1 m1) fun r3 m2 =>
        xite (r3 = 0) (
          vI 0 fun x4 =>
          vI (v3 + 1) fun x5 =>
          h7_readProduct_8 N d n v1 x4 x5 m2) (
          bI (f7_write 42 m2) fun r7 m6 =>
          xite (r7 = 0) (
            vI 0 fun x8 =>
            vI (v3 + 1) fun x9 =>
            h7_readProduct_8 N d n v1 x8 x9 m6) (
            vI 1 fun x10 =>
            vI (v3 + 1) fun x11 =>
            h7_readProduct_8 N d n v1 x10 x11 m6))) (
        xrb v2 μ)) (
      xrb v2 μ))) := rfl
set_option maxRecDepth 100000 in
theorem f7_readProduct_s (N d : Nat) (p1 : Int32) (μ : XM) : f7_readProduct N (d + 1) p1 μ = (
  bI (f7_readPart N d p1 μ) fun r2 m1 =>
  vI r2 fun x3 =>
  vI 0 fun x4 =>
  h7_readProduct_8 N d N p1 x3 x4 m1) := rfl
theorem f7_readProduct_0 (N : Nat) (p1 : Int32) (μ : XM) : f7_readProduct N 0 p1 μ = none := rfl
set_option maxRecDepth 100000 in
theorem h7_readPart_45_s (N d n : Nat) (v1 : Int32) (v2 : Int32) (μ : XM) : h7_readPart_45 N d (n + 1) v1 v2 μ = (
  xite (v1 < 5) (
    vI (rI μ 10 0 5) fun x1 =>
    bV (f10_advance μ) fun m2 =>
    xite (v2 = 148) (
      bI (f7_readPart N d (v1 + 1) m2) fun r4 m3 =>
      xite (r4 = 0) (
        xrb 0 m3) (
        bI (f7_write v2 m3) fun r6 m5 =>
        xite (r6 = 0) (
          xrb 0 m5) (
          xrb 1 m5))) (
      xite (v2 = 40) (
        bI (f7_readE N d (v1 + 1) m2) fun r8 m7 =>
        xite (r8 = 0) (
          xrb 0 m7) (
          bI (f10_take 41 m7) fun r10 m9 =>
          xite (r10 = 0) (
            xrb 0 m9) (
            xrb 1 m9))) (
        xite (v2 = 2) (
          bV (f4_addNumber 1 x1 m2) fun m11 =>
          xrb 1 m11) (
          bI (f7_write v2 m2) fun r13 m12 =>
          xrb r13 m12)))) (
    bI (f10_wrong 5 μ) fun r15 m14 =>
    xrb r15 m14)) := rfl
set_option maxRecDepth 100000 in
theorem f7_readPart_s (N d : Nat) (p1 : Int32) (μ : XM) : f7_readPart N (d + 1) p1 μ = (
  vI (rI μ 10 0 4) fun x1 =>
  xite (x1 = 2) (
    h7_readPart_45 N d N p1 x1 μ) (
    xite (x1 = 148) (
      h7_readPart_45 N d N p1 x1 μ) (
      xite (x1 = 40) (
        h7_readPart_45 N d N p1 x1 μ) (
        bI (f10_isFact μ) fun r3 m2 =>
        xite (r3 = 0) (
          bI (f10_wrong 1 m2) fun r5 m4 =>
          xrb r5 m4) (
          h7_readPart_45 N d N p1 x1 m2))))) := rfl
theorem f7_readPart_0 (N : Nat) (p1 : Int32) (μ : XM) : f7_readPart N 0 p1 μ = none := rfl
set_option maxRecDepth 100000 in
theorem cG0 {X : XP} (hX : XOK X) (l : Launch) : ∀ d : Nat, Ctr X l y7_readE prog_9_method_12_code 5 (some .boolean) (xrm (12 + d)) 0 0 (G0 20000 d 0) ∧ Ctr X l y7_readTest prog_9_method_13_code 3 (some .boolean) (xrm (12 + d)) 0 0 (G0 20000 d 1) ∧ Ctr X l y7_readSum prog_9_method_14_code 5 (some .boolean) (xrm (12 + d)) 0 0 (G0 20000 d 2) ∧ Ctr X l y7_readProduct prog_9_method_15_code 4 (some .boolean) (xrm (12 + d)) 0 0 (G0 20000 d 3) ∧ Ctr X l y7_readPart prog_9_method_16_code 4 (some .boolean) (xrm (12 + d)) 0 0 (G0 20000 d 4) := by
  intro d
  induction d with
  | zero => exact ⟨(fun av μ r μ' _ h => by cases h), (fun av μ r μ' _ h => by cases h), (fun av μ r μ' _ h => by cases h), (fun av μ r μ' _ h => by cases h), (fun av μ r μ' _ h => by cases h)⟩
  | succ d ih =>
    exact ⟨Ctr_of (tab := t7_readE) (env := e7_readE (G0 20000 d)) (K := 48) (N := 20000) (fl := fl7) (cl := cl7) (ll := ll7) (jl := jl7) hX mf7_readE.2.2.2 ⟨by decide +kernel, flk7, clk7, llk7, jlk7⟩
      (List.forall_mem_cons.mpr ⟨xcal_v (na := 1) (ih.2.1) mf7_readTest ⟨rfl, rfl⟩ ml7_161 mi7_readTest me7_readTest (xrm_ok (by omega) (by decide)) rfl (by decide) (by decide +kernel), List.forall_mem_cons.mpr ⟨xcal_v (na := 0) (c10_advance hX l) mf10_advance ⟨rfl, rfl⟩ ml7_79 mi10_advance me10_advance (xrm_ok (by omega) (by decide)) rfl (by decide) (by decide +kernel), List.forall_mem_cons.mpr ⟨xcal_v (na := 1) (c7_write hX l) mf7_write ⟨rfl, rfl⟩ ml7_164 mi7_write me7_write (xrm_ok (by omega) (by decide)) rfl (by decide) (by decide +kernel), fun _ h => absurd h List.not_mem_nil⟩⟩⟩)
      (xrm_1 (by omega)) ⟨_, _, rfl, rfl⟩ (fun av μ r μ' h => by
        replace h : W7_readE 20000 (G0 20000 d) av μ = some (r, μ') := h
        unfold W7_readE at h
        split at h
        · replace h := cond_inv h; obtain ⟨hb, h⟩ := h
          simp only [Bool.and_eq_true] at hb
          obtain ⟨g0, g1⟩ := hb
          obtain rfl := Nat.eq_of_beq_eq_true g0
          obtain rfl := Nat.eq_of_beq_eq_true g1
          exact ⟨Nat.le_of_ble_eq_true rfl, h⟩
        · cases h),
     Ctr_of (tab := t7_readTest) (env := e7_readTest (G0 20000 d)) (K := 39) (N := 20000) (fl := fl7) (cl := cl7) (ll := ll7) (jl := jl7) hX mf7_readTest.2.2.2 ⟨by decide +kernel, flk7, clk7, llk7, jlk7⟩
      (List.forall_mem_cons.mpr ⟨xcal_v (na := 1) (ih.2.2.1) mf7_readSum ⟨rfl, rfl⟩ ml7_167 mi7_readSum me7_readSum (xrm_ok (by omega) (by decide)) rfl (by decide) (by decide +kernel), List.forall_mem_cons.mpr ⟨xcal_v (na := 0) (c10_advance hX l) mf10_advance ⟨rfl, rfl⟩ ml7_79 mi10_advance me10_advance (xrm_ok (by omega) (by decide)) rfl (by decide) (by decide +kernel), List.forall_mem_cons.mpr ⟨xcal_v (na := 1) (c7_write hX l) mf7_write ⟨rfl, rfl⟩ ml7_164 mi7_write me7_write (xrm_ok (by omega) (by decide)) rfl (by decide) (by decide +kernel), fun _ h => absurd h List.not_mem_nil⟩⟩⟩)
      (xrm_1 (by omega)) ⟨_, _, rfl, rfl⟩ (fun av μ r μ' h => by
        replace h : W7_readTest 20000 (G0 20000 d) av μ = some (r, μ') := h
        unfold W7_readTest at h
        split at h
        · replace h := cond_inv h; obtain ⟨hb, h⟩ := h
          simp only [Bool.and_eq_true] at hb
          obtain ⟨g0, g1⟩ := hb
          obtain rfl := Nat.eq_of_beq_eq_true g0
          obtain rfl := Nat.eq_of_beq_eq_true g1
          exact ⟨Nat.le_of_ble_eq_true rfl, h⟩
        · cases h),
     Ctr_of (tab := t7_readSum) (env := e7_readSum (G0 20000 d)) (K := 48) (N := 20000) (fl := fl7) (cl := cl7) (ll := ll7) (jl := jl7) hX mf7_readSum.2.2.2 ⟨by decide +kernel, flk7, clk7, llk7, jlk7⟩
      (List.forall_mem_cons.mpr ⟨xcal_v (na := 1) (ih.2.2.2.1) mf7_readProduct ⟨rfl, rfl⟩ ml7_170 mi7_readProduct me7_readProduct (xrm_ok (by omega) (by decide)) rfl (by decide) (by decide +kernel), List.forall_mem_cons.mpr ⟨xcal_v (na := 0) (c10_advance hX l) mf10_advance ⟨rfl, rfl⟩ ml7_79 mi10_advance me10_advance (xrm_ok (by omega) (by decide)) rfl (by decide) (by decide +kernel), List.forall_mem_cons.mpr ⟨xcal_v (na := 1) (c7_write hX l) mf7_write ⟨rfl, rfl⟩ ml7_164 mi7_write me7_write (xrm_ok (by omega) (by decide)) rfl (by decide) (by decide +kernel), fun _ h => absurd h List.not_mem_nil⟩⟩⟩)
      (xrm_1 (by omega)) ⟨_, _, rfl, rfl⟩ (fun av μ r μ' h => by
        replace h : W7_readSum 20000 (G0 20000 d) av μ = some (r, μ') := h
        unfold W7_readSum at h
        split at h
        · replace h := cond_inv h; obtain ⟨hb, h⟩ := h
          simp only [Bool.and_eq_true] at hb
          obtain ⟨g0, g1⟩ := hb
          obtain rfl := Nat.eq_of_beq_eq_true g0
          obtain rfl := Nat.eq_of_beq_eq_true g1
          exact ⟨Nat.le_of_ble_eq_true rfl, h⟩
        · cases h),
     Ctr_of (tab := t7_readProduct) (env := e7_readProduct (G0 20000 d)) (K := 41) (N := 20000) (fl := fl7) (cl := cl7) (ll := ll7) (jl := jl7) hX mf7_readProduct.2.2.2 ⟨by decide +kernel, flk7, clk7, llk7, jlk7⟩
      (List.forall_mem_cons.mpr ⟨xcal_v (na := 1) (ih.2.2.2.2) mf7_readPart ⟨rfl, rfl⟩ ml7_173 mi7_readPart me7_readPart (xrm_ok (by omega) (by decide)) rfl (by decide) (by decide +kernel), List.forall_mem_cons.mpr ⟨xcal_v (na := 0) (c10_advance hX l) mf10_advance ⟨rfl, rfl⟩ ml7_79 mi10_advance me10_advance (xrm_ok (by omega) (by decide)) rfl (by decide) (by decide +kernel), List.forall_mem_cons.mpr ⟨xcal_v (na := 1) (c7_write hX l) mf7_write ⟨rfl, rfl⟩ ml7_164 mi7_write me7_write (xrm_ok (by omega) (by decide)) rfl (by decide) (by decide +kernel), fun _ h => absurd h List.not_mem_nil⟩⟩⟩)
      (xrm_1 (by omega)) ⟨_, _, rfl, rfl⟩ (fun av μ r μ' h => by
        replace h : W7_readProduct 20000 (G0 20000 d) av μ = some (r, μ') := h
        unfold W7_readProduct at h
        split at h
        · replace h := cond_inv h; obtain ⟨hb, h⟩ := h
          simp only [Bool.and_eq_true] at hb
          obtain ⟨g0, g1⟩ := hb
          obtain rfl := Nat.eq_of_beq_eq_true g0
          obtain rfl := Nat.eq_of_beq_eq_true g1
          exact ⟨Nat.le_of_ble_eq_true rfl, h⟩
        · cases h),
     Ctr_of (tab := t7_readPart) (env := e7_readPart (G0 20000 d)) (K := 92) (N := 20000) (fl := fl7) (cl := cl7) (ll := ll7) (jl := jl7) hX mf7_readPart.2.2.2 ⟨by decide +kernel, flk7, clk7, llk7, jlk7⟩
      (List.forall_mem_cons.mpr ⟨xcal_v (na := 0) (c10_isFact hX l) mf10_isFact ⟨rfl, rfl⟩ ml7_176 mi10_isFact me10_isFact (xrm_ok (by omega) (by decide)) rfl (by decide) (by decide +kernel), List.forall_mem_cons.mpr ⟨xcal_v (na := 1) (c10_wrong hX l) mf10_wrong ⟨rfl, rfl⟩ ml7_73 mi10_wrong me10_wrong (xrm_ok (by omega) (by decide)) rfl (by decide) (by decide +kernel), List.forall_mem_cons.mpr ⟨xcal_v (na := 0) (c10_advance hX l) mf10_advance ⟨rfl, rfl⟩ ml7_79 mi10_advance me10_advance (xrm_ok (by omega) (by decide)) rfl (by decide) (by decide +kernel), List.forall_mem_cons.mpr ⟨xcal_v (na := 1) (ih.2.2.2.2) mf7_readPart ⟨rfl, rfl⟩ ml7_173 mi7_readPart me7_readPart (xrm_ok (by omega) (by decide)) rfl (by decide) (by decide +kernel), List.forall_mem_cons.mpr ⟨xcal_v (na := 1) (c7_write hX l) mf7_write ⟨rfl, rfl⟩ ml7_164 mi7_write me7_write (xrm_ok (by omega) (by decide)) rfl (by decide) (by decide +kernel), List.forall_mem_cons.mpr ⟨xcal_v (na := 1) (ih.1) mf7_readE ⟨rfl, rfl⟩ ml7_147 mi7_readE me7_readE (xrm_ok (by omega) (by decide)) rfl (by decide) (by decide +kernel), List.forall_mem_cons.mpr ⟨xcal_v (na := 1) (c10_take hX l) mf10_take ⟨rfl, rfl⟩ ml7_113 mi10_take me10_take (xrm_ok (by omega) (by decide)) rfl (by decide) (by decide +kernel), List.forall_mem_cons.mpr ⟨xcal_v (na := 1) (c4_addNumber hX l) mf4_addNumber ⟨rfl, rfl⟩ ml7_183 mi4_addNumber me4_addNumber (xrm_ok (by omega) (by decide)) rfl (by decide) (by decide +kernel), fun _ h => absurd h List.not_mem_nil⟩⟩⟩⟩⟩⟩⟩⟩)
      (xrm_1 (by omega)) ⟨_, _, rfl, rfl⟩ (fun av μ r μ' h => by
        replace h : W7_readPart 20000 (G0 20000 d) av μ = some (r, μ') := h
        unfold W7_readPart at h
        split at h
        · replace h := cond_inv h; obtain ⟨hb, h⟩ := h
          simp only [Bool.and_eq_true] at hb
          obtain ⟨g0, g1⟩ := hb
          obtain rfl := Nat.eq_of_beq_eq_true g0
          obtain rfl := Nat.eq_of_beq_eq_true g1
          exact ⟨Nat.le_of_ble_eq_true rfl, h⟩
        · cases h)⟩
def t7_readLaw : List XE := [(0, .aload_n 0, 0, 0, 0, 0, []),
  (1, .getfield 32, 7, 4, 0, 0, []),
  (4, .ifCond .eq 12, 16, 0, 0, 0, []),
  (7, .aload_n 0, 0, 0, 0, 0, []),
  (8, .getfield 18, 7, 1, 0, 0, []),
  (11, .iconst 3, 0, 0, 3, 0, []),
  (12, .invokevirtual 73, 2, 10, 0, 0, []),
  (15, .ireturn, 0, 0, 0, 0, []),
  (16, .aload_n 0, 0, 0, 0, 0, []),
  (17, .iconst 1, 0, 0, 1, 0, []),
  (18, .putfield 32, 7, 4, 0, 0, []),
  (21, .aload_n 0, 0, 0, 0, 0, []),
  (22, .getfield 18, 7, 1, 0, 0, []),
  (25, .invokevirtual 79, 1, 10, 0, 0, []),
  (28, .aload_n 0, 0, 0, 0, 0, []),
  (29, .iconst 0, 0, 0, 0, 0, []),
  (30, .invokevirtual 147, 2, 7, 0, 0, []),
  (33, .ifCond .eq 19, 52, 0, 0, 0, []),
  (36, .aload_n 0, 0, 0, 0, 0, []),
  (37, .getfield 18, 7, 1, 0, 0, []),
  (40, .bipush 59, 0, 0, 59, 0, []),
  (42, .invokevirtual 113, 2, 10, 0, 0, []),
  (45, .ifCond .eq 7, 52, 0, 0, 0, []),
  (48, .iconst 1, 0, 0, 1, 0, []),
  (49, .goto 4, 53, 0, 0, 0, []),
  (52, .iconst 0, 0, 0, 0, 0, []),
  (53, .ireturn, 0, 0, 0, 0, [])]
noncomputable def e7_readLaw : XN := [(73, 1, 2, 10, F10_wrong), (79, 0, 1, 10, F10_advance), (147, 1, 2, 7, (G0 20000 64 0)), (113, 1, 2, 10, F10_take)]
noncomputable def k7_readLaw (μ : XM) : XR :=
  xite ((rI μ 7 0 4) = 0) (
    xck (xbl 1) <|
    mS (sI μ 7 0 4 1) fun m1 =>
    bV (f10_advance m1) fun m2 =>
    bI (f7_readE 20000 64 0 m2) fun r4 m3 =>
    xite (r4 = 0) (
      xrb 0 m3) (
      bI (f10_take 59 m3) fun r6 m5 =>
      xite (r6 = 0) (
        xrb 0 m5) (
        xrb 1 m5))) (
    bI (f10_wrong 3 μ) fun r8 m7 =>
    xrb r8 m7)
set_option maxRecDepth 100000 in
theorem q7_readLaw (n : Nat) (μ : XM) : xrun t7_readLaw e7_readLaw (xrtk (some .boolean)) 32 n (xlo [xr 7 0 0] 1) μ = k7_readLaw  μ := rfl
theorem x7_readLaw : ∃ f : XM → XR, ∀ (μ : XM), f μ = k7_readLaw  μ := ⟨fun μ => k7_readLaw  μ, fun μ => rfl⟩
noncomputable def f7_readLaw : XM → XR := Classical.choose x7_readLaw
theorem f7_readLaw_e (μ : XM) : f7_readLaw μ = k7_readLaw  μ := Classical.choose_spec x7_readLaw μ
noncomputable def F7_readLaw : XF := fun av μ => match av with
  | [.inr (.inr (some (t0, i0, 0)))] => bif Nat.beq t0 7 && Nat.beq i0 0 then f7_readLaw  μ else none
  | _ => none
set_option maxRecDepth 100000 in
theorem c7_readLaw {X : XP} (hX : XOK X) (l : Launch) : Ctr X l y7_readLaw prog_9_method_8_code 1 (some .boolean) (xrm 77) 0 0 F7_readLaw :=
  Ctr_of (tab := t7_readLaw) (env := e7_readLaw) (K := 32) (N := 20000) (fl := fl7) (cl := cl7) (ll := ll7) (jl := jl7) hX mf7_readLaw.2.2.2 ⟨by decide +kernel, flk7, clk7, llk7, jlk7⟩
   (List.forall_mem_cons.mpr ⟨xcal_v (na := 1) (c10_wrong hX l) mf10_wrong ⟨rfl, rfl⟩ ml7_73 mi10_wrong me10_wrong (xrm_ok (by omega) (by decide)) rfl (by decide) (by decide +kernel), List.forall_mem_cons.mpr ⟨xcal_v (na := 0) (c10_advance hX l) mf10_advance ⟨rfl, rfl⟩ ml7_79 mi10_advance me10_advance (xrm_ok (by omega) (by decide)) rfl (by decide) (by decide +kernel), List.forall_mem_cons.mpr ⟨xcal_v (na := 1) ((cG0 hX l 64).1) mf7_readE ⟨rfl, rfl⟩ ml7_147 mi7_readE me7_readE (xrm_ok (by omega) (by decide)) rfl (by decide) (by decide +kernel), List.forall_mem_cons.mpr ⟨xcal_v (na := 1) (c10_take hX l) mf10_take ⟨rfl, rfl⟩ ml7_113 mi10_take me10_take (xrm_ok (by omega) (by decide)) rfl (by decide) (by decide +kernel), fun _ h => absurd h List.not_mem_nil⟩⟩⟩⟩)
   (xrm_1 (by decide)) ⟨_, _, rfl, rfl⟩ (fun av μ r μ' h => by
    unfold F7_readLaw at h
    split at h
    · replace h := cond_inv h; obtain ⟨hb, h⟩ := h
      simp only [Bool.and_eq_true] at hb
      obtain ⟨g0, g1⟩ := hb
      obtain rfl := Nat.eq_of_beq_eq_true g0
      obtain rfl := Nat.eq_of_beq_eq_true g1
      exact ⟨Nat.le_of_ble_eq_true rfl, (q7_readLaw _  _).trans ((f7_readLaw_e  _).symm.trans h)⟩
    · cases h)
def t7_read : List XE := [(0, .aload_n 0, 0, 0, 0, 0, []),
  (1, .getfield 12, 7, 0, 0, 0, []),
  (4, .invokevirtual 22, 1, 2, 0, 0, []),
  (7, .aload_n 0, 0, 0, 0, 0, []),
  (8, .iconst 0, 0, 0, 0, 0, []),
  (9, .putfield 25, 7, 2, 0, 0, []),
  (12, .aload_n 0, 0, 0, 0, 0, []),
  (13, .iconst 0, 0, 0, 0, 0, []),
  (14, .putfield 29, 7, 3, 0, 0, []),
  (17, .aload_n 0, 0, 0, 0, 0, []),
  (18, .iconst 0, 0, 0, 0, 0, []),
  (19, .putfield 32, 7, 4, 0, 0, []),
  (22, .aload_n 0, 0, 0, 0, 0, []),
  (23, .getfield 18, 7, 1, 0, 0, []),
  (26, .invokevirtual 35, 1, 10, 0, 0, []),
  (29, .iconst 1, 0, 0, 1, 0, []),
  (30, .istore_n 1, 1, 0, 0, 0, []),
  (31, .iconst 0, 0, 0, 0, 0, []),
  (32, .istore_n 2, 2, 0, 0, 0, []),
  (33, .nop, 7, 0, 0, 0, []),
  (33, .iload_n 1, 1, 0, 0, 0, []),
  (34, .ifCond .eq 150, 184, 0, 0, 0, []),
  (37, .iload_n 2, 2, 0, 0, 0, []),
  (38, .sipush 1000, 0, 0, 1000, 0, []),
  (41, .if_icmp .ge 143, 184, 0, 0, 0, []),
  (44, .aload_n 0, 0, 0, 0, 0, []),
  (45, .getfield 18, 7, 1, 0, 0, []),
  (48, .getfield 40, 10, 4, 0, 0, []),
  (51, .ifCond .eq 133, 184, 0, 0, 0, []),
  (54, .aload_n 0, 0, 0, 0, 0, []),
  (55, .getfield 18, 7, 1, 0, 0, []),
  (58, .getfield 40, 10, 4, 0, 0, []),
  (61, .tableswitch 108 128 133 #[39, 54, 69, 84, 92, 100], 169, 0, 0, 0, [(128, 100), (129, 115), (130, 130), (131, 145), (132, 153), (133, 161)]),
  (100, .aload_n 0, 0, 0, 0, 0, []),
  (101, .aload_n 0, 0, 0, 0, 0, []),
  (102, .getfield 12, 7, 0, 0, 0, []),
  (105, .getfield 44, 2, 0, 0, 0, []),
  (108, .invokevirtual 47, 2, 7, 0, 0, []),
  (111, .istore_n 1, 1, 0, 0, 0, []),
  (112, .goto 66, 178, 0, 0, 0, []),
  (115, .aload_n 0, 0, 0, 0, 0, []),
  (116, .aload_n 0, 0, 0, 0, 0, []),
  (117, .getfield 12, 7, 0, 0, 0, []),
  (120, .getfield 51, 2, 1, 0, 0, []),
  (123, .invokevirtual 54, 2, 7, 0, 0, []),
  (126, .istore_n 1, 1, 0, 0, 0, []),
  (127, .goto 51, 178, 0, 0, 0, []),
  (130, .aload_n 0, 0, 0, 0, 0, []),
  (131, .aload_n 0, 0, 0, 0, 0, []),
  (132, .getfield 12, 7, 0, 0, 0, []),
  (135, .getfield 57, 2, 2, 0, 0, []),
  (138, .invokevirtual 60, 2, 7, 0, 0, []),
  (141, .istore_n 1, 1, 0, 0, 0, []),
  (142, .goto 36, 178, 0, 0, 0, []),
  (145, .aload_n 0, 0, 0, 0, 0, []),
  (146, .invokevirtual 63, 1, 7, 0, 0, []),
  (149, .istore_n 1, 1, 0, 0, 0, []),
  (150, .goto 28, 178, 0, 0, 0, []),
  (153, .aload_n 0, 0, 0, 0, 0, []),
  (154, .invokevirtual 67, 1, 7, 0, 0, []),
  (157, .istore_n 1, 1, 0, 0, 0, []),
  (158, .goto 20, 178, 0, 0, 0, []),
  (161, .aload_n 0, 0, 0, 0, 0, []),
  (162, .invokevirtual 70, 1, 7, 0, 0, []),
  (165, .istore_n 1, 1, 0, 0, 0, []),
  (166, .goto 12, 178, 0, 0, 0, []),
  (169, .aload_n 0, 0, 0, 0, 0, []),
  (170, .getfield 18, 7, 1, 0, 0, []),
  (173, .iconst 1, 0, 0, 1, 0, []),
  (174, .invokevirtual 73, 2, 10, 0, 0, []),
  (177, .istore_n 1, 1, 0, 0, 0, []),
  (178, .iinc 2 1, 2, 0, 1, 0, []),
  (181, .goto (-148), 33, 0, 0, 0, []),
  (184, .aload_n 0, 0, 0, 0, 0, []),
  (185, .getfield 18, 7, 1, 0, 0, []),
  (188, .getfield 76, 10, 7, 0, 0, []),
  (191, .ireturn, 0, 0, 0, 0, [])]
noncomputable def e7_read : XN := [(22, 0, 1, 2, F2_clear), (35, 0, 1, 10, F10_begin), (47, 1, 2, 7, F7_readGuest), (54, 1, 2, 7, F7_readBelt), (60, 1, 2, 7, F7_readMan), (63, 1, 1, 7, F7_readGaps), (67, 1, 1, 7, F7_readWater), (70, 1, 1, 7, F7_readLaw), (73, 1, 2, 10, F10_wrong)]
noncomputable def h7_read_33 (n : Nat) (v1 : Int32) (v2 : Int32) (μ : XM) : XR := arr t7_read e7_read 1 82 n 33 [some (xr 7 0 0), some (xi v1), some (xi v2)] [] μ
set_option maxRecDepth 100000 in
theorem h7_read_33_s (n : Nat) (v1 : Int32) (v2 : Int32) (μ : XM) : h7_read_33 (n + 1) v1 v2 μ = (
  xite (v1 = 0) (
    xri (rI μ 10 0 7) μ) (
    xite (v2 < 1000) (
      xite ((rI μ 10 0 4) = 0) (
        xri (rI μ 10 0 7) μ) (
        xite ((rI μ 10 0 4) = 128) (
          bI (f7_readGuest (rI μ 2 1 0) μ) fun r2 m1 =>
          vI r2 fun x3 =>
          vI (v2 + 1) fun x4 =>
          h7_read_33 n x3 x4 m1) (
        xite ((rI μ 10 0 4) = 129) (
          bI (f7_readBelt (rI μ 2 1 1) μ) fun r6 m5 =>
          vI r6 fun x7 =>
          vI (v2 + 1) fun x8 =>
          h7_read_33 n x7 x8 m5) (
        xite ((rI μ 10 0 4) = 130) (
          bI (f7_readMan (rI μ 2 1 2) μ) fun r10 m9 =>
          vI r10 fun x11 =>
          vI (v2 + 1) fun x12 =>
          h7_read_33 n x11 x12 m9) (
        xite ((rI μ 10 0 4) = 131) (
          bI (f7_readGaps μ) fun r14 m13 =>
          vI r14 fun x15 =>
          vI (v2 + 1) fun x16 =>
          h7_read_33 n x15 x16 m13) (
        xite ((rI μ 10 0 4) = 132) (
          bI (f7_readWater μ) fun r18 m17 =>
          vI r18 fun x19 =>
          vI (v2 + 1) fun x20 =>
          h7_read_33 n x19 x20 m17) (
        xite ((rI μ 10 0 4) = 133) (
          bI (f7_readLaw μ) fun r22 m21 =>
          vI r22 fun x23 =>
          vI (v2 + 1) fun x24 =>
          h7_read_33 n x23 x24 m21) (
        bI (f10_wrong 1 μ) fun r26 m25 =>
        vI r26 fun x27 =>
        vI (v2 + 1) fun x28 =>
        h7_read_33 n x27 x28 m25)))))))) (
      xri (rI μ 10 0 7) μ))) := rfl
theorem h7_read_33_0 (v1 : Int32) (v2 : Int32) (μ : XM) : h7_read_33 0 v1 v2 μ = none := rfl
noncomputable def k7_read (n : Nat) (μ : XM) : XR :=
  bV (f2_clear 1 μ) fun m1 =>
  xck (xbl 0) <|
  mS (sI m1 7 0 2 0) fun m2 =>
  xck (xbl 0) <|
  mS (sI m2 7 0 3 0) fun m3 =>
  xck (xbl 0) <|
  mS (sI m3 7 0 4 0) fun m4 =>
  bV (f10_begin m4) fun m5 =>
  vI 1 fun x6 =>
  vI 0 fun x7 =>
  h7_read_33 n x6 x7 m5
set_option maxRecDepth 100000 in
theorem q7_read (n : Nat) (μ : XM) : xrun t7_read e7_read (xrtk (some .int)) 82 n (xlo [xr 7 0 0] 3) μ = k7_read n  μ := rfl
theorem x7_read : ∃ f : XM → XR, ∀ (μ : XM), f μ = k7_read 20000  μ := ⟨fun μ => k7_read 20000  μ, fun μ => rfl⟩
noncomputable def f7_read : XM → XR := Classical.choose x7_read
theorem f7_read_e (μ : XM) : f7_read μ = k7_read 20000  μ := Classical.choose_spec x7_read μ
noncomputable def F7_read : XF := fun av μ => match av with
  | [.inr (.inr (some (t0, i0, 0)))] => bif Nat.beq t0 7 && Nat.beq i0 0 then f7_read  μ else none
  | _ => none
set_option maxRecDepth 100000 in
theorem c7_read {X : XP} (hX : XOK X) (l : Launch) : Ctr X l y7_read prog_9_method_2_code 3 (some .int) (xrm 78) 0 0 F7_read :=
  Ctr_of (tab := t7_read) (env := e7_read) (K := 82) (N := 20000) (fl := fl7) (cl := cl7) (ll := ll7) (jl := jl7) hX mf7_read.2.2.2 ⟨by decide +kernel, flk7, clk7, llk7, jlk7⟩
   (List.forall_mem_cons.mpr ⟨xcal_v (na := 0) (c2_clear hX l) mf2_clear ⟨rfl, rfl⟩ ml7_22 mi2_clear me2_clear (xrm_ok (by omega) (by decide)) rfl (by decide) (by decide +kernel), List.forall_mem_cons.mpr ⟨xcal_v (na := 0) (c10_begin hX l) mf10_begin ⟨rfl, rfl⟩ ml7_35 mi10_begin me10_begin (xrm_ok (by omega) (by decide)) rfl (by decide) (by decide +kernel), List.forall_mem_cons.mpr ⟨xcal_v (na := 1) (c7_readGuest hX l) mf7_readGuest ⟨rfl, rfl⟩ ml7_47 mi7_readGuest me7_readGuest (xrm_ok (by omega) (by decide)) rfl (by decide) (by decide +kernel), List.forall_mem_cons.mpr ⟨xcal_v (na := 1) (c7_readBelt hX l) mf7_readBelt ⟨rfl, rfl⟩ ml7_54 mi7_readBelt me7_readBelt (xrm_ok (by omega) (by decide)) rfl (by decide) (by decide +kernel), List.forall_mem_cons.mpr ⟨xcal_v (na := 1) (c7_readMan hX l) mf7_readMan ⟨rfl, rfl⟩ ml7_60 mi7_readMan me7_readMan (xrm_ok (by omega) (by decide)) rfl (by decide) (by decide +kernel), List.forall_mem_cons.mpr ⟨xcal_v (na := 0) (c7_readGaps hX l) mf7_readGaps ⟨rfl, rfl⟩ ml7_63 mi7_readGaps me7_readGaps (xrm_ok (by omega) (by decide)) rfl (by decide) (by decide +kernel), List.forall_mem_cons.mpr ⟨xcal_v (na := 0) (c7_readWater hX l) mf7_readWater ⟨rfl, rfl⟩ ml7_67 mi7_readWater me7_readWater (xrm_ok (by omega) (by decide)) rfl (by decide) (by decide +kernel), List.forall_mem_cons.mpr ⟨xcal_v (na := 0) (c7_readLaw hX l) mf7_readLaw ⟨rfl, rfl⟩ ml7_70 mi7_readLaw me7_readLaw (xrm_ok (by omega) (by decide)) rfl (by decide) (by decide +kernel), List.forall_mem_cons.mpr ⟨xcal_v (na := 1) (c10_wrong hX l) mf10_wrong ⟨rfl, rfl⟩ ml7_73 mi10_wrong me10_wrong (xrm_ok (by omega) (by decide)) rfl (by decide) (by decide +kernel), fun _ h => absurd h List.not_mem_nil⟩⟩⟩⟩⟩⟩⟩⟩⟩)
   (xrm_1 (by decide)) ⟨_, _, rfl, rfl⟩ (fun av μ r μ' h => by
    unfold F7_read at h
    split at h
    · replace h := cond_inv h; obtain ⟨hb, h⟩ := h
      simp only [Bool.and_eq_true] at hb
      obtain ⟨g0, g1⟩ := hb
      obtain rfl := Nat.eq_of_beq_eq_true g0
      obtain rfl := Nat.eq_of_beq_eq_true g1
      exact ⟨Nat.le_of_ble_eq_true rfl, (q7_read _  _).trans ((f7_read_e  _).symm.trans h)⟩
    · cases h)
def t8_isInState : List XE := [(0, .aload_n 0, 0, 0, 0, 0, []),
  (1, .getfield 24, 8, 0, 0, 0, []),
  (4, .iload_n 1, 1, 0, 0, 0, []),
  (5, .invokevirtual 55, 2, 2, 0, 0, []),
  (8, .ifCond .eq 17, 25, 0, 0, 0, []),
  (11, .aload_n 0, 0, 0, 0, 0, []),
  (12, .getfield 18, 8, 3, 0, 0, []),
  (15, .iload_n 1, 1, 0, 0, 0, []),
  (16, .iaload, 0, 0, 0, 0, []),
  (17, .iload_n 2, 2, 0, 0, 0, []),
  (18, .if_icmp .ne 7, 25, 0, 0, 0, []),
  (21, .iconst 1, 0, 0, 1, 0, []),
  (22, .goto 4, 26, 0, 0, 0, []),
  (25, .iconst 0, 0, 0, 0, 0, []),
  (26, .ireturn, 0, 0, 0, 0, [])]
noncomputable def e8_isInState : XN := [(55, 1, 2, 2, F2_isGuest)]
noncomputable def k8_isInState (i0 : Nat) (p1 : Int32) (p2 : Int32) (μ : XM) : XR :=
  bI (f2_isGuest 0 p1 μ) fun r2 m1 =>
  xite (r2 = 0) (
    xrb 0 m1) (
    xck (xin p1 6) <|
    xite ((aI m1 8 i0 3 (Int32.toNatClampNeg p1)) = p2) (
      xrb 1 m1) (
      xrb 0 m1))
set_option maxRecDepth 100000 in
theorem q8_isInState (n : Nat) (i0 : Nat) (p1 : Int32) (p2 : Int32) (μ : XM) : xrun t8_isInState e8_isInState (xrtk (some .boolean)) 20 n (xlo [xr 8 i0 0, xi p1, xi p2] 3) μ = k8_isInState i0 p1 p2 μ := rfl
theorem x8_isInState : ∃ f : Nat → Int32 → Int32 → XM → XR, ∀ (i0 : Nat) (p1 : Int32) (p2 : Int32) (μ : XM), f i0 p1 p2 μ = k8_isInState i0 p1 p2 μ := ⟨fun i0 p1 p2 μ => k8_isInState i0 p1 p2 μ, fun i0 p1 p2 μ => rfl⟩
noncomputable def f8_isInState : Nat → Int32 → Int32 → XM → XR := Classical.choose x8_isInState
theorem f8_isInState_e (i0 : Nat) (p1 : Int32) (p2 : Int32) (μ : XM) : f8_isInState i0 p1 p2 μ = k8_isInState i0 p1 p2 μ := Classical.choose_spec x8_isInState i0 p1 p2 μ
noncomputable def F8_isInState : XF := fun av μ => match av with
  | [.inr (.inr (some (t0, i0, 0))), .inl p1, .inl p2] => bif Nat.beq t0 8 then f8_isInState i0 p1 p2 μ else none
  | _ => none
set_option maxRecDepth 100000 in
theorem c8_isInState {X : XP} (hX : XOK X) (l : Launch) : Ctr X l y8_isInState prog_10_method_4_code 3 (some .boolean) (xrm 2) 0 0 F8_isInState :=
  Ctr_of (tab := t8_isInState) (env := e8_isInState) (K := 20) (N := 20000) (fl := fl8) (cl := cl8) (ll := ll8) (jl := jl8) hX mf8_isInState.2.2.2 ⟨by decide +kernel, flk8, clk8, llk8, jlk8⟩
   (List.forall_mem_cons.mpr ⟨xcal_v (na := 1) (c2_isGuest hX l) mf2_isGuest ⟨rfl, rfl⟩ ml8_55 mi2_isGuest me2_isGuest (xrm_ok (by omega) (by decide)) rfl (by decide) (by decide +kernel), fun _ h => absurd h List.not_mem_nil⟩)
   (xrm_1 (by decide)) ⟨_, _, rfl, rfl⟩ (fun av μ r μ' h => by
    unfold F8_isInState at h
    split at h
    · replace h := cond_inv h; obtain ⟨hb, h⟩ := h
      obtain rfl := Nat.eq_of_beq_eq_true hb
      exact ⟨Nat.le_of_ble_eq_true rfl, (q8_isInState _ _ _ _ _).trans ((f8_isInState_e _ _ _ _).symm.trans h)⟩
    · cases h)
def t8_manyAt : List XE := [(0, .iconst 0, 0, 0, 0, 0, []),
  (1, .istore_n 2, 2, 0, 0, 0, []),
  (2, .iconst 0, 0, 0, 0, 0, []),
  (3, .istore_n 3, 3, 0, 0, 0, []),
  (4, .nop, 15, 0, 0, 0, []),
  (4, .iload_n 3, 3, 0, 0, 0, []),
  (5, .aload_n 0, 0, 0, 0, 0, []),
  (6, .getfield 24, 8, 0, 0, 0, []),
  (9, .getfield 59, 2, 0, 0, 0, []),
  (12, .if_icmp .ge 31, 43, 0, 0, 0, []),
  (15, .aload_n 0, 0, 0, 0, 0, []),
  (16, .getfield 18, 8, 3, 0, 0, []),
  (19, .iload_n 3, 3, 0, 0, 0, []),
  (20, .iaload, 0, 0, 0, 0, []),
  (21, .ifCond .ne 16, 37, 0, 0, 0, []),
  (24, .aload_n 0, 0, 0, 0, 0, []),
  (25, .getfield 9, 8, 1, 0, 0, []),
  (28, .iload_n 3, 3, 0, 0, 0, []),
  (29, .iaload, 0, 0, 0, 0, []),
  (30, .iload_n 1, 1, 0, 0, 0, []),
  (31, .if_icmp .ne 6, 37, 0, 0, 0, []),
  (34, .iinc 2 1, 2, 0, 1, 0, []),
  (37, .iinc 3 1, 3, 0, 1, 0, []),
  (40, .goto (-36), 4, 0, 0, 0, []),
  (43, .iload_n 2, 2, 0, 0, 0, []),
  (44, .ireturn, 0, 0, 0, 0, [])]
noncomputable def e8_manyAt : XN := []
noncomputable def h8_manyAt_4 (n : Nat) (i0 : Nat) (v1 : Int32) (v2 : Int32) (v3 : Int32) (μ : XM) : XR := arr t8_manyAt e8_manyAt 1 31 n 4 [some (xr 8 i0 0), some (xi v1), some (xi v2), some (xi v3)] [] μ
set_option maxRecDepth 100000 in
theorem h8_manyAt_4_s (n : Nat) (i0 : Nat) (v1 : Int32) (v2 : Int32) (v3 : Int32) (μ : XM) : h8_manyAt_4 (n + 1) i0 v1 v2 v3 μ = (
  xite (v3 < (rI μ 2 0 0)) (
    xck (xin v3 6) <|
    xite ((aI μ 8 i0 3 (Int32.toNatClampNeg v3)) = 0) (
      xck (xin v3 6) <|
      xite ((aI μ 8 i0 1 (Int32.toNatClampNeg v3)) = v1) (
        vI (v2 + 1) fun x1 =>
        vI (v3 + 1) fun x2 =>
        h8_manyAt_4 n i0 v1 x1 x2 μ) (
        vI (v3 + 1) fun x3 =>
        h8_manyAt_4 n i0 v1 v2 x3 μ)) (
      vI (v3 + 1) fun x4 =>
      h8_manyAt_4 n i0 v1 v2 x4 μ)) (
    xri v2 μ)) := rfl
theorem h8_manyAt_4_0 (i0 : Nat) (v1 : Int32) (v2 : Int32) (v3 : Int32) (μ : XM) : h8_manyAt_4 0 i0 v1 v2 v3 μ = none := rfl
noncomputable def k8_manyAt (n : Nat) (i0 : Nat) (p1 : Int32) (μ : XM) : XR :=
  vI 0 fun x1 =>
  vI 0 fun x2 =>
  h8_manyAt_4 n i0 p1 x1 x2 μ
set_option maxRecDepth 100000 in
theorem q8_manyAt (n : Nat) (i0 : Nat) (p1 : Int32) (μ : XM) : xrun t8_manyAt e8_manyAt (xrtk (some .int)) 31 n (xlo [xr 8 i0 0, xi p1] 4) μ = k8_manyAt n i0 p1 μ := rfl
theorem x8_manyAt : ∃ f : Nat → Int32 → XM → XR, ∀ (i0 : Nat) (p1 : Int32) (μ : XM), f i0 p1 μ = k8_manyAt 20000 i0 p1 μ := ⟨fun i0 p1 μ => k8_manyAt 20000 i0 p1 μ, fun i0 p1 μ => rfl⟩
noncomputable def f8_manyAt : Nat → Int32 → XM → XR := Classical.choose x8_manyAt
theorem f8_manyAt_e (i0 : Nat) (p1 : Int32) (μ : XM) : f8_manyAt i0 p1 μ = k8_manyAt 20000 i0 p1 μ := Classical.choose_spec x8_manyAt i0 p1 μ
noncomputable def F8_manyAt : XF := fun av μ => match av with
  | [.inr (.inr (some (t0, i0, 0))), .inl p1] => bif Nat.beq t0 8 then f8_manyAt i0 p1 μ else none
  | _ => none
set_option maxRecDepth 100000 in
theorem c8_manyAt {X : XP} (hX : XOK X) (l : Launch) : Ctr X l y8_manyAt prog_10_method_7_code 4 (some .int) (xrm 1) 0 0 F8_manyAt :=
  Ctr_of (tab := t8_manyAt) (env := e8_manyAt) (K := 31) (N := 20000) (fl := fl8) (cl := cl8) (ll := ll8) (jl := jl8) hX mf8_manyAt.2.2.2 ⟨by decide +kernel, flk8, clk8, llk8, jlk8⟩
   (fun _ h => absurd h List.not_mem_nil)
   (xrm_1 (by decide)) ⟨_, _, rfl, rfl⟩ (fun av μ r μ' h => by
    unfold F8_manyAt at h
    split at h
    · replace h := cond_inv h; obtain ⟨hb, h⟩ := h
      obtain rfl := Nat.eq_of_beq_eq_true hb
      exact ⟨Nat.le_of_ble_eq_true rfl, (q8_manyAt _ _ _ _).trans ((f8_manyAt_e _ _ _).symm.trans h)⟩
    · cases h)
def t8_criers : List XE := [(0, .iconst 0, 0, 0, 0, 0, []),
  (1, .istore_n 1, 1, 0, 0, 0, []),
  (2, .iconst 0, 0, 0, 0, 0, []),
  (3, .istore_n 2, 2, 0, 0, 0, []),
  (4, .nop, 7, 0, 0, 0, []),
  (4, .iload_n 2, 2, 0, 0, 0, []),
  (5, .aload_n 0, 0, 0, 0, 0, []),
  (6, .getfield 24, 8, 0, 0, 0, []),
  (9, .getfield 59, 2, 0, 0, 0, []),
  (12, .if_icmp .ge 23, 35, 0, 0, 0, []),
  (15, .aload_n 0, 0, 0, 0, 0, []),
  (16, .iload_n 2, 2, 0, 0, 0, []),
  (17, .invokevirtual 91, 2, 8, 0, 0, []),
  (20, .ifCond .eq 9, 29, 0, 0, 0, []),
  (23, .iload_n 1, 1, 0, 0, 0, []),
  (24, .iconst 1, 0, 0, 1, 0, []),
  (25, .iload_n 2, 2, 0, 0, 0, []),
  (26, .ishl, 0, 0, 0, 0, []),
  (27, .ior, 0, 0, 0, 0, []),
  (28, .istore_n 1, 1, 0, 0, 0, []),
  (29, .iinc 2 1, 2, 0, 1, 0, []),
  (32, .goto (-28), 4, 0, 0, 0, []),
  (35, .iload_n 1, 1, 0, 0, 0, []),
  (36, .ireturn, 0, 0, 0, 0, [])]
noncomputable def e8_criers : XN := [(91, 1, 2, 8, F8_isCrying)]
noncomputable def h8_criers_4 (n : Nat) (i0 : Nat) (v1 : Int32) (v2 : Int32) (μ : XM) : XR := arr t8_criers e8_criers 1 29 n 4 [some (xr 8 i0 0), some (xi v1), some (xi v2)] [] μ
set_option maxRecDepth 100000 in
theorem h8_criers_4_s (n : Nat) (i0 : Nat) (v1 : Int32) (v2 : Int32) (μ : XM) : h8_criers_4 (n + 1) i0 v1 v2 μ = (
  xite (v2 < (rI μ 2 0 0)) (
    bI (f8_isCrying i0 v2 μ) fun r2 m1 =>
    xite (r2 = 0) (
      vI (v2 + 1) fun x3 =>
      h8_criers_4 n i0 v1 x3 m1) (
      vI (v1 ||| (1 <<< (v2 &&& 31))) fun x4 =>
      vI (v2 + 1) fun x5 =>
      h8_criers_4 n i0 x4 x5 m1)) (
    xri v1 μ)) := rfl
theorem h8_criers_4_0 (i0 : Nat) (v1 : Int32) (v2 : Int32) (μ : XM) : h8_criers_4 0 i0 v1 v2 μ = none := rfl
noncomputable def k8_criers (n : Nat) (i0 : Nat) (μ : XM) : XR :=
  vI 0 fun x1 =>
  vI 0 fun x2 =>
  h8_criers_4 n i0 x1 x2 μ
set_option maxRecDepth 100000 in
theorem q8_criers (n : Nat) (i0 : Nat) (μ : XM) : xrun t8_criers e8_criers (xrtk (some .int)) 29 n (xlo [xr 8 i0 0] 3) μ = k8_criers n i0 μ := rfl
theorem x8_criers : ∃ f : Nat → XM → XR, ∀ (i0 : Nat) (μ : XM), f i0 μ = k8_criers 20000 i0 μ := ⟨fun i0 μ => k8_criers 20000 i0 μ, fun i0 μ => rfl⟩
noncomputable def f8_criers : Nat → XM → XR := Classical.choose x8_criers
theorem f8_criers_e (i0 : Nat) (μ : XM) : f8_criers i0 μ = k8_criers 20000 i0 μ := Classical.choose_spec x8_criers i0 μ
noncomputable def F8_criers : XF := fun av μ => match av with
  | [.inr (.inr (some (t0, i0, 0)))] => bif Nat.beq t0 8 then f8_criers i0 μ else none
  | _ => none
set_option maxRecDepth 100000 in
theorem c8_criers {X : XP} (hX : XOK X) (l : Launch) : Ctr X l y8_criers prog_10_method_15_code 3 (some .int) (xrm 4) 0 0 F8_criers :=
  Ctr_of (tab := t8_criers) (env := e8_criers) (K := 29) (N := 20000) (fl := fl8) (cl := cl8) (ll := ll8) (jl := jl8) hX mf8_criers.2.2.2 ⟨by decide +kernel, flk8, clk8, llk8, jlk8⟩
   (List.forall_mem_cons.mpr ⟨xcal_v (na := 1) (c8_isCrying hX l) mf8_isCrying ⟨rfl, rfl⟩ ml8_91 mi8_isCrying me8_isCrying (xrm_ok (by omega) (by decide)) rfl (by decide) (by decide +kernel), fun _ h => absurd h List.not_mem_nil⟩)
   (xrm_1 (by decide)) ⟨_, _, rfl, rfl⟩ (fun av μ r μ' h => by
    unfold F8_criers at h
    split at h
    · replace h := cond_inv h; obtain ⟨hb, h⟩ := h
      obtain rfl := Nat.eq_of_beq_eq_true hb
      exact ⟨Nat.le_of_ble_eq_true rfl, (q8_criers _ _ _).trans ((f8_criers_e _ _).symm.trans h)⟩
    · cases h)
def t8_borneBy : List XE := [(0, .iconst 0, 0, 0, 0, 0, []),
  (1, .istore_n 2, 2, 0, 0, 0, []),
  (2, .iconst 0, 0, 0, 0, 0, []),
  (3, .istore_n 3, 3, 0, 0, 0, []),
  (4, .nop, 15, 0, 0, 0, []),
  (4, .iload_n 3, 3, 0, 0, 0, []),
  (5, .aload_n 0, 0, 0, 0, 0, []),
  (6, .getfield 24, 8, 0, 0, 0, []),
  (9, .getfield 59, 2, 0, 0, 0, []),
  (12, .if_icmp .ge 47, 59, 0, 0, 0, []),
  (15, .aload_n 0, 0, 0, 0, 0, []),
  (16, .getfield 18, 8, 3, 0, 0, []),
  (19, .iload_n 3, 3, 0, 0, 0, []),
  (20, .iaload, 0, 0, 0, 0, []),
  (21, .ifCond .ne 32, 53, 0, 0, 0, []),
  (24, .aload_n 0, 0, 0, 0, 0, []),
  (25, .getfield 24, 8, 0, 0, 0, []),
  (28, .iload_n 3, 3, 0, 0, 0, []),
  (29, .invokevirtual 85, 2, 2, 0, 0, []),
  (32, .ifCond .ne 21, 53, 0, 0, 0, []),
  (35, .aload_n 0, 0, 0, 0, 0, []),
  (36, .getfield 24, 8, 0, 0, 0, []),
  (39, .iload_n 1, 1, 0, 0, 0, []),
  (40, .iload_n 3, 3, 0, 0, 0, []),
  (41, .invokevirtual 81, 3, 2, 0, 0, []),
  (44, .ifCond .eq 9, 53, 0, 0, 0, []),
  (47, .iload_n 2, 2, 0, 0, 0, []),
  (48, .iconst 1, 0, 0, 1, 0, []),
  (49, .iload_n 3, 3, 0, 0, 0, []),
  (50, .ishl, 0, 0, 0, 0, []),
  (51, .ior, 0, 0, 0, 0, []),
  (52, .istore_n 2, 2, 0, 0, 0, []),
  (53, .iinc 3 1, 3, 0, 1, 0, []),
  (56, .goto (-52), 4, 0, 0, 0, []),
  (59, .iload_n 2, 2, 0, 0, 0, []),
  (60, .ireturn, 0, 0, 0, 0, [])]
noncomputable def e8_borneBy : XN := [(85, 1, 2, 2, F2_isShabby), (81, 1, 3, 2, F2_isBorne)]
noncomputable def h8_borneBy_4 (n : Nat) (i0 : Nat) (v1 : Int32) (v2 : Int32) (v3 : Int32) (μ : XM) : XR := arr t8_borneBy e8_borneBy 1 41 n 4 [some (xr 8 i0 0), some (xi v1), some (xi v2), some (xi v3)] [] μ
set_option maxRecDepth 100000 in
theorem h8_borneBy_4_s (n : Nat) (i0 : Nat) (v1 : Int32) (v2 : Int32) (v3 : Int32) (μ : XM) : h8_borneBy_4 (n + 1) i0 v1 v2 v3 μ = (
  xite (v3 < (rI μ 2 0 0)) (
    xck (xin v3 6) <|
    xite ((aI μ 8 i0 3 (Int32.toNatClampNeg v3)) = 0) (
      bI (f2_isShabby 0 v3 μ) fun r2 m1 =>
      xite (r2 = 0) (
        bI (f2_isBorne 0 v1 v3 m1) fun r4 m3 =>
        xite (r4 = 0) (
          vI (v3 + 1) fun x5 =>
          h8_borneBy_4 n i0 v1 v2 x5 m3) (
          vI (v2 ||| (1 <<< (v3 &&& 31))) fun x6 =>
          vI (v3 + 1) fun x7 =>
          h8_borneBy_4 n i0 v1 x6 x7 m3)) (
        vI (v3 + 1) fun x8 =>
        h8_borneBy_4 n i0 v1 v2 x8 m1)) (
      vI (v3 + 1) fun x9 =>
      h8_borneBy_4 n i0 v1 v2 x9 μ)) (
    xri v2 μ)) := rfl
theorem h8_borneBy_4_0 (i0 : Nat) (v1 : Int32) (v2 : Int32) (v3 : Int32) (μ : XM) : h8_borneBy_4 0 i0 v1 v2 v3 μ = none := rfl
noncomputable def k8_borneBy (n : Nat) (i0 : Nat) (p1 : Int32) (μ : XM) : XR :=
  vI 0 fun x1 =>
  vI 0 fun x2 =>
  h8_borneBy_4 n i0 p1 x1 x2 μ
set_option maxRecDepth 100000 in
theorem q8_borneBy (n : Nat) (i0 : Nat) (p1 : Int32) (μ : XM) : xrun t8_borneBy e8_borneBy (xrtk (some .int)) 41 n (xlo [xr 8 i0 0, xi p1] 4) μ = k8_borneBy n i0 p1 μ := rfl
theorem x8_borneBy : ∃ f : Nat → Int32 → XM → XR, ∀ (i0 : Nat) (p1 : Int32) (μ : XM), f i0 p1 μ = k8_borneBy 20000 i0 p1 μ := ⟨fun i0 p1 μ => k8_borneBy 20000 i0 p1 μ, fun i0 p1 μ => rfl⟩
noncomputable def f8_borneBy : Nat → Int32 → XM → XR := Classical.choose x8_borneBy
theorem f8_borneBy_e (i0 : Nat) (p1 : Int32) (μ : XM) : f8_borneBy i0 p1 μ = k8_borneBy 20000 i0 p1 μ := Classical.choose_spec x8_borneBy i0 p1 μ
noncomputable def F8_borneBy : XF := fun av μ => match av with
  | [.inr (.inr (some (t0, i0, 0))), .inl p1] => bif Nat.beq t0 8 then f8_borneBy i0 p1 μ else none
  | _ => none
set_option maxRecDepth 100000 in
theorem c8_borneBy {X : XP} (hX : XOK X) (l : Launch) : Ctr X l y8_borneBy prog_10_method_16_code 4 (some .int) (xrm 2) 0 0 F8_borneBy :=
  Ctr_of (tab := t8_borneBy) (env := e8_borneBy) (K := 41) (N := 20000) (fl := fl8) (cl := cl8) (ll := ll8) (jl := jl8) hX mf8_borneBy.2.2.2 ⟨by decide +kernel, flk8, clk8, llk8, jlk8⟩
   (List.forall_mem_cons.mpr ⟨xcal_v (na := 1) (c2_isShabby hX l) mf2_isShabby ⟨rfl, rfl⟩ ml8_85 mi2_isShabby me2_isShabby (xrm_ok (by omega) (by decide)) rfl (by decide) (by decide +kernel), List.forall_mem_cons.mpr ⟨xcal_v (na := 2) (c2_isBorne hX l) mf2_isBorne ⟨rfl, rfl⟩ ml8_81 mi2_isBorne me2_isBorne (xrm_ok (by omega) (by decide)) rfl (by decide) (by decide +kernel), fun _ h => absurd h List.not_mem_nil⟩⟩)
   (xrm_1 (by decide)) ⟨_, _, rfl, rfl⟩ (fun av μ r μ' h => by
    unfold F8_borneBy at h
    split at h
    · replace h := cond_inv h; obtain ⟨hb, h⟩ := h
      obtain rfl := Nat.eq_of_beq_eq_true hb
      exact ⟨Nat.le_of_ble_eq_true rfl, (q8_borneBy _ _ _ _).trans ((f8_borneBy_e _ _ _).symm.trans h)⟩
    · cases h)
def t9_clear : List XE := [(0, .aload_n 0, 0, 0, 0, 0, []),
  (1, .iconst 0, 0, 0, 0, 0, []),
  (2, .putfield 16, 9, 0, 0, 0, []),
  (5, .return_, 0, 0, 0, 0, [])]
noncomputable def e9_clear : XN := []
noncomputable def k9_clear (i0 : Nat) (μ : XM) : XR :=
  mS (sI μ 9 i0 0 0) fun m1 =>
  xrv m1
set_option maxRecDepth 100000 in
theorem q9_clear (n : Nat) (i0 : Nat) (μ : XM) : xrun t9_clear e9_clear (xrtk none) 9 n (xlo [xr 9 i0 0] 1) μ = k9_clear i0 μ := rfl
theorem x9_clear : ∃ f : Nat → XM → XR, ∀ (i0 : Nat) (μ : XM), f i0 μ = k9_clear i0 μ := ⟨fun i0 μ => k9_clear i0 μ, fun i0 μ => rfl⟩
noncomputable def f9_clear : Nat → XM → XR := Classical.choose x9_clear
theorem f9_clear_e (i0 : Nat) (μ : XM) : f9_clear i0 μ = k9_clear i0 μ := Classical.choose_spec x9_clear i0 μ
noncomputable def F9_clear : XF := fun av μ => match av with
  | [.inr (.inr (some (t0, i0, 0)))] => bif Nat.beq t0 9 then f9_clear i0 μ else none
  | _ => none
set_option maxRecDepth 100000 in
theorem c9_clear {X : XP} (hX : XOK X) (l : Launch) : Ctr X l y9_clear prog_11_method_2_code 1 none (xrm 1) 0 0 F9_clear :=
  Ctr_of (tab := t9_clear) (env := e9_clear) (K := 9) (N := 20000) (fl := fl9) (cl := cl9) (ll := ll9) (jl := jl9) hX mf9_clear.2.2.2 ⟨by decide +kernel, flk9, clk9, llk9, jlk9⟩
   (fun _ h => absurd h List.not_mem_nil)
   (xrm_1 (by decide)) ⟨_, _, rfl, rfl⟩ (fun av μ r μ' h => by
    unfold F9_clear at h
    split at h
    · replace h := cond_inv h; obtain ⟨hb, h⟩ := h
      obtain rfl := Nat.eq_of_beq_eq_true hb
      exact ⟨Nat.le_of_ble_eq_true rfl, (q9_clear _ _ _).trans ((f9_clear_e _ _).symm.trans h)⟩
    · cases h)
def t9_add : List XE := [(0, .aload_n 0, 0, 0, 0, 0, []),
  (1, .getfield 16, 9, 0, 0, 0, []),
  (4, .bipush 8, 0, 0, 8, 0, []),
  (6, .if_icmp .lt 5, 11, 0, 0, 0, []),
  (9, .iconst 0, 0, 0, 0, 0, []),
  (10, .ireturn, 0, 0, 0, 0, []),
  (11, .aload_n 0, 0, 0, 0, 0, []),
  (12, .getfield 9, 9, 1, 0, 0, []),
  (15, .aload_n 0, 0, 0, 0, 0, []),
  (16, .getfield 16, 9, 0, 0, 0, []),
  (19, .iload_n 1, 1, 0, 0, 0, []),
  (20, .iastore, 0, 0, 0, 0, []),
  (21, .aload_n 0, 0, 0, 0, 0, []),
  (22, .getfield 13, 9, 2, 0, 0, []),
  (25, .aload_n 0, 0, 0, 0, 0, []),
  (26, .getfield 16, 9, 0, 0, 0, []),
  (29, .iload_n 2, 2, 0, 0, 0, []),
  (30, .iastore, 0, 0, 0, 0, []),
  (31, .aload_n 0, 0, 0, 0, 0, []),
  (32, .dup, 0, 0, 0, 0, []),
  (33, .getfield 16, 9, 0, 0, 0, []),
  (36, .iconst 1, 0, 0, 1, 0, []),
  (37, .iadd, 0, 0, 0, 0, []),
  (38, .putfield 16, 9, 0, 0, 0, []),
  (41, .iconst 1, 0, 0, 1, 0, []),
  (42, .ireturn, 0, 0, 0, 0, [])]
noncomputable def e9_add : XN := []
noncomputable def k9_add (i0 : Nat) (p1 : Int32) (p2 : Int32) (μ : XM) : XR :=
  xite ((rI μ 9 i0 0) < 8) (
    xck (xin (rI μ 9 i0 0) 8 && true) <|
    mS (pI μ 9 i0 1 (Int32.toNatClampNeg (rI μ 9 i0 0)) p1) fun m1 =>
    xck (xin (rI m1 9 i0 0) 8 && true) <|
    mS (pI m1 9 i0 2 (Int32.toNatClampNeg (rI m1 9 i0 0)) p2) fun m2 =>
    mS (sI m2 9 i0 0 ((rI m2 9 i0 0) + 1)) fun m3 =>
    xrb 1 m3) (
    xrb 0 μ)
set_option maxRecDepth 100000 in
theorem q9_add (n : Nat) (i0 : Nat) (p1 : Int32) (p2 : Int32) (μ : XM) : xrun t9_add e9_add (xrtk (some .boolean)) 31 n (xlo [xr 9 i0 0, xi p1, xi p2] 3) μ = k9_add i0 p1 p2 μ := rfl
theorem x9_add : ∃ f : Nat → Int32 → Int32 → XM → XR, ∀ (i0 : Nat) (p1 : Int32) (p2 : Int32) (μ : XM), f i0 p1 p2 μ = k9_add i0 p1 p2 μ := ⟨fun i0 p1 p2 μ => k9_add i0 p1 p2 μ, fun i0 p1 p2 μ => rfl⟩
noncomputable def f9_add : Nat → Int32 → Int32 → XM → XR := Classical.choose x9_add
theorem f9_add_e (i0 : Nat) (p1 : Int32) (p2 : Int32) (μ : XM) : f9_add i0 p1 p2 μ = k9_add i0 p1 p2 μ := Classical.choose_spec x9_add i0 p1 p2 μ
noncomputable def F9_add : XF := fun av μ => match av with
  | [.inr (.inr (some (t0, i0, 0))), .inl p1, .inl p2] => bif Nat.beq t0 9 then f9_add i0 p1 p2 μ else none
  | _ => none
set_option maxRecDepth 100000 in
theorem c9_add {X : XP} (hX : XOK X) (l : Launch) : Ctr X l y9_add prog_11_method_4_code 3 (some .boolean) (xrm 1) 0 0 F9_add :=
  Ctr_of (tab := t9_add) (env := e9_add) (K := 31) (N := 20000) (fl := fl9) (cl := cl9) (ll := ll9) (jl := jl9) hX mf9_add.2.2.2 ⟨by decide +kernel, flk9, clk9, llk9, jlk9⟩
   (fun _ h => absurd h List.not_mem_nil)
   (xrm_1 (by decide)) ⟨_, _, rfl, rfl⟩ (fun av μ r μ' h => by
    unfold F9_add at h
    split at h
    · replace h := cond_inv h; obtain ⟨hb, h⟩ := h
      obtain rfl := Nat.eq_of_beq_eq_true hb
      exact ⟨Nat.le_of_ble_eq_true rfl, (q9_add _ _ _ _ _).trans ((f9_add_e _ _ _ _).symm.trans h)⟩
    · cases h)
def t10_clear : List XE := [(0, .aload_n 0, 0, 0, 0, 0, []),
  (1, .iconst 0, 0, 0, 0, 0, []),
  (2, .putfield 13, 10, 1, 0, 0, []),
  (5, .return_, 0, 0, 0, 0, [])]
noncomputable def e10_clear : XN := []
noncomputable def k10_clear (μ : XM) : XR :=
  mS (sI μ 10 0 1 0) fun m1 =>
  xrv m1
set_option maxRecDepth 100000 in
theorem q10_clear (n : Nat) (μ : XM) : xrun t10_clear e10_clear (xrtk none) 9 n (xlo [xr 10 0 0] 1) μ = k10_clear  μ := rfl
theorem x10_clear : ∃ f : XM → XR, ∀ (μ : XM), f μ = k10_clear  μ := ⟨fun μ => k10_clear  μ, fun μ => rfl⟩
noncomputable def f10_clear : XM → XR := Classical.choose x10_clear
theorem f10_clear_e (μ : XM) : f10_clear μ = k10_clear  μ := Classical.choose_spec x10_clear μ
noncomputable def F10_clear : XF := fun av μ => match av with
  | [.inr (.inr (some (t0, i0, 0)))] => bif Nat.beq t0 10 && Nat.beq i0 0 then f10_clear  μ else none
  | _ => none
set_option maxRecDepth 100000 in
theorem c10_clear {X : XP} (hX : XOK X) (l : Launch) : Ctr X l y10_clear prog_12_method_2_code 1 none (xrm 1) 0 0 F10_clear :=
  Ctr_of (tab := t10_clear) (env := e10_clear) (K := 9) (N := 20000) (fl := fl10) (cl := cl10) (ll := ll10) (jl := jl10) hX mf10_clear.2.2.2 ⟨by decide +kernel, flk10, clk10, llk10, jlk10⟩
   (fun _ h => absurd h List.not_mem_nil)
   (xrm_1 (by decide)) ⟨_, _, rfl, rfl⟩ (fun av μ r μ' h => by
    unfold F10_clear at h
    split at h
    · replace h := cond_inv h; obtain ⟨hb, h⟩ := h
      simp only [Bool.and_eq_true] at hb
      obtain ⟨g0, g1⟩ := hb
      obtain rfl := Nat.eq_of_beq_eq_true g0
      obtain rfl := Nat.eq_of_beq_eq_true g1
      exact ⟨Nat.le_of_ble_eq_true rfl, (q10_clear _  _).trans ((f10_clear_e  _).symm.trans h)⟩
    · cases h)
def t10_putEight : List XE := [(0, .bipush 56, 0, 0, 56, 0, []),
  (2, .istore_n 3, 3, 0, 0, 0, []),
  (3, .nop, 11, 0, 0, 0, []),
  (3, .iload_n 3, 3, 0, 0, 0, []),
  (4, .ifCond .lt 86, 90, 0, 0, 0, []),
  (7, .lload_n 1, 1, 0, 0, 0, []),
  (8, .iload_n 3, 3, 0, 0, 0, []),
  (9, .lushr, 0, 0, 0, 0, []),
  (10, .l2i, 0, 0, 0, 0, []),
  (11, .sipush 255, 0, 0, 255, 0, []),
  (14, .iand, 0, 0, 0, 0, []),
  (15, .istore 4, 4, 0, 0, 0, []),
  (17, .iload 4, 4, 0, 0, 0, []),
  (19, .bipush 10, 0, 0, 10, 0, []),
  (21, .if_icmp .eq 17, 38, 0, 0, 0, []),
  (24, .iload 4, 4, 0, 0, 0, []),
  (26, .bipush 32, 0, 0, 32, 0, []),
  (28, .if_icmp .lt 14, 42, 0, 0, 0, []),
  (31, .iload 4, 4, 0, 0, 0, []),
  (33, .bipush 126, 0, 0, 126, 0, []),
  (35, .if_icmp .gt 7, 42, 0, 0, 0, []),
  (38, .iconst 1, 0, 0, 1, 0, []),
  (39, .goto 4, 43, 0, 0, 0, []),
  (42, .iconst 0, 0, 0, 0, 0, []),
  (43, .nop, 27, 0, 0, 0, []),
  (43, .istore 5, 5, 0, 0, 0, []),
  (45, .iload 5, 5, 0, 0, 0, []),
  (47, .ifCond .eq 37, 84, 0, 0, 0, []),
  (50, .aload_n 0, 0, 0, 0, 0, []),
  (51, .getfield 13, 10, 1, 0, 0, []),
  (54, .aload_n 0, 0, 0, 0, 0, []),
  (55, .getfield 9, 10, 0, 0, 0, []),
  (58, .arraylength, 0, 0, 0, 0, []),
  (59, .if_icmp .ge 25, 84, 0, 0, 0, []),
  (62, .aload_n 0, 0, 0, 0, 0, []),
  (63, .getfield 9, 10, 0, 0, 0, []),
  (66, .aload_n 0, 0, 0, 0, 0, []),
  (67, .getfield 13, 10, 1, 0, 0, []),
  (70, .iload 4, 4, 0, 0, 0, []),
  (72, .i2c, 0, 0, 0, 0, []),
  (73, .castore, 0, 0, 0, 0, []),
  (74, .aload_n 0, 0, 0, 0, 0, []),
  (75, .dup, 0, 0, 0, 0, []),
  (76, .getfield 13, 10, 1, 0, 0, []),
  (79, .iconst 1, 0, 0, 1, 0, []),
  (80, .iadd, 0, 0, 0, 0, []),
  (81, .putfield 13, 10, 1, 0, 0, []),
  (84, .iinc 3 (-8), 3, 0, (-8), 0, []),
  (87, .goto (-84), 3, 0, 0, 0, []),
  (90, .return_, 0, 0, 0, 0, [])]
noncomputable def e10_putEight : XN := []
noncomputable def h10_putEight_3 (n : Nat) (v1 : Int64) (v3 : Int32) (μ : XM) : XR := arr t10_putEight e10_putEight 0 55 n 3 [some (xr 10 0 0), some (xl v1), none, some (xi v3), none, none] [] μ
noncomputable def h10_putEight_43 (n : Nat) (v1 : Int64) (v3 : Int32) (v4 : Int32) (s0 : Int32) (μ : XM) : XR := arr t10_putEight e10_putEight 0 55 n 43 [some (xr 10 0 0), some (xl v1), none, some (xi v3), some (xi v4), none] [xi s0] μ
set_option maxRecDepth 100000 in
theorem h10_putEight_3_s (n : Nat) (v1 : Int64) (v3 : Int32) (μ : XM) : h10_putEight_3 (n + 1) v1 v3 μ = (
  xite (v3 < 0) (
    xrv μ) (
    vI ((Int64.toInt32 ((Int64.toUInt64 v1) >>> ((Int32.toInt64 v3).toUInt64 &&& Int64.toUInt64 63)).toInt64) &&& 255) fun x1 =>
    xite (x1 = 10) (
      h10_putEight_43 n v1 v3 x1 1 μ) (
      xite (x1 < 32) (
        h10_putEight_43 n v1 v3 x1 0 μ) (
        xite ((126 : Int32) < x1) (
          h10_putEight_43 n v1 v3 x1 0 μ) (
          h10_putEight_43 n v1 v3 x1 1 μ))))) := rfl
theorem h10_putEight_3_0 (v1 : Int64) (v3 : Int32) (μ : XM) : h10_putEight_3 0 v1 v3 μ = none := rfl
set_option maxRecDepth 100000 in
theorem h10_putEight_43_s (n : Nat) (v1 : Int64) (v3 : Int32) (v4 : Int32) (s0 : Int32) (μ : XM) : h10_putEight_43 (n + 1) v1 v3 v4 s0 μ = (
  vI s0 fun x1 =>
  xite (x1 = 0) (
    vI (v3 + (-8)) fun x2 =>
    h10_putEight_3 n v1 x2 μ) (
    xite ((rI μ 10 0 1) < (nI 1000)) (
      xck (xin (rI μ 10 0 1) 1000 && true) <|
      mS (pI μ 10 0 0 (Int32.toNatClampNeg (rI μ 10 0 1)) (vp_nar .char ((Int32.toUInt32 v4 % 65536).toInt32))) fun m3 =>
      mS (sI m3 10 0 1 ((rI m3 10 0 1) + 1)) fun m4 =>
      vI (v3 + (-8)) fun x5 =>
      h10_putEight_3 n v1 x5 m4) (
      vI (v3 + (-8)) fun x6 =>
      h10_putEight_3 n v1 x6 μ))) := rfl
theorem h10_putEight_43_0 (v1 : Int64) (v3 : Int32) (v4 : Int32) (s0 : Int32) (μ : XM) : h10_putEight_43 0 v1 v3 v4 s0 μ = none := rfl
noncomputable def k10_putEight (n : Nat) (p1 : Int64) (μ : XM) : XR :=
  vI 56 fun x1 =>
  h10_putEight_3 n p1 x1 μ
set_option maxRecDepth 100000 in
theorem q10_putEight (n : Nat) (p1 : Int64) (μ : XM) : xrun t10_putEight e10_putEight (xrtk none) 55 n (xlo [xr 10 0 0, xl p1] 6) μ = k10_putEight n p1 μ := rfl
theorem x10_putEight : ∃ f : Int64 → XM → XR, ∀ (p1 : Int64) (μ : XM), f p1 μ = k10_putEight 20000 p1 μ := ⟨fun p1 μ => k10_putEight 20000 p1 μ, fun p1 μ => rfl⟩
noncomputable def f10_putEight : Int64 → XM → XR := Classical.choose x10_putEight
theorem f10_putEight_e (p1 : Int64) (μ : XM) : f10_putEight p1 μ = k10_putEight 20000 p1 μ := Classical.choose_spec x10_putEight p1 μ
noncomputable def F10_putEight : XF := fun av μ => match av with
  | [.inr (.inr (some (t0, i0, 0))), .inr (.inl p1)] => bif Nat.beq t0 10 && Nat.beq i0 0 then f10_putEight p1 μ else none
  | _ => none
set_option maxRecDepth 100000 in
theorem c10_putEight {X : XP} (hX : XOK X) (l : Launch) : Ctr X l y10_putEight prog_12_method_3_code 6 none (xrm 1) 0 0 F10_putEight :=
  Ctr_of (tab := t10_putEight) (env := e10_putEight) (K := 55) (N := 20000) (fl := fl10) (cl := cl10) (ll := ll10) (jl := jl10) hX mf10_putEight.2.2.2 ⟨by decide +kernel, flk10, clk10, llk10, jlk10⟩
   (fun _ h => absurd h List.not_mem_nil)
   (xrm_1 (by decide)) ⟨_, _, rfl, rfl⟩ (fun av μ r μ' h => by
    unfold F10_putEight at h
    split at h
    · replace h := cond_inv h; obtain ⟨hb, h⟩ := h
      simp only [Bool.and_eq_true] at hb
      obtain ⟨g0, g1⟩ := hb
      obtain rfl := Nat.eq_of_beq_eq_true g0
      obtain rfl := Nat.eq_of_beq_eq_true g1
      exact ⟨Nat.le_of_ble_eq_true rfl, (q10_putEight _ _ _).trans ((f10_putEight_e _ _).symm.trans h)⟩
    · cases h)
def t11_feed : List XE := [(0, .aload_n 0, 0, 0, 0, 0, []),
  (1, .getfield 10, 11, 0, 0, 0, []),
  (4, .lload_n 1, 1, 0, 0, 0, []),
  (5, .invokevirtual 91, 2, 10, 0, 0, []),
  (8, .aload_n 0, 0, 0, 0, 0, []),
  (9, .getfield 10, 11, 0, 0, 0, []),
  (12, .lload_n 3, 3, 0, 0, 0, []),
  (13, .invokevirtual 91, 2, 10, 0, 0, []),
  (16, .aload_n 0, 0, 0, 0, 0, []),
  (17, .getfield 10, 11, 0, 0, 0, []),
  (20, .lload 5, 5, 0, 0, 0, []),
  (22, .invokevirtual 91, 2, 10, 0, 0, []),
  (25, .aload_n 0, 0, 0, 0, 0, []),
  (26, .getfield 10, 11, 0, 0, 0, []),
  (29, .getfield 95, 10, 1, 0, 0, []),
  (32, .ireturn, 0, 0, 0, 0, [])]
noncomputable def e11_feed : XN := [(91, 0, 2, 10, F10_putEight)]
noncomputable def k11_feed (p1 : Int64) (p3 : Int64) (p5 : Int64) (μ : XM) : XR :=
  bV (f10_putEight p1 μ) fun m1 =>
  bV (f10_putEight p3 m1) fun m2 =>
  bV (f10_putEight p5 m2) fun m3 =>
  xri (rI m3 10 0 1) m3
set_option maxRecDepth 100000 in
theorem q11_feed (n : Nat) (p1 : Int64) (p3 : Int64) (p5 : Int64) (μ : XM) : xrun t11_feed e11_feed (xrtk (some .int)) 21 n (xlo [xr 11 0 0, xl p1, xl p3, xl p5] 7) μ = k11_feed p1 p3 p5 μ := rfl
theorem x11_feed : ∃ f : Int64 → Int64 → Int64 → XM → XR, ∀ (p1 : Int64) (p3 : Int64) (p5 : Int64) (μ : XM), f p1 p3 p5 μ = k11_feed p1 p3 p5 μ := ⟨fun p1 p3 p5 μ => k11_feed p1 p3 p5 μ, fun p1 p3 p5 μ => rfl⟩
noncomputable def f11_feed : Int64 → Int64 → Int64 → XM → XR := Classical.choose x11_feed
theorem f11_feed_e (p1 : Int64) (p3 : Int64) (p5 : Int64) (μ : XM) : f11_feed p1 p3 p5 μ = k11_feed p1 p3 p5 μ := Classical.choose_spec x11_feed p1 p3 p5 μ
noncomputable def F11_feed : XF := fun av μ => match av with
  | [.inr (.inr (some (t0, i0, 0))), .inr (.inl p1), .inr (.inl p3), .inr (.inl p5)] => bif Nat.beq t0 11 && Nat.beq i0 0 then f11_feed p1 p3 p5 μ else none
  | _ => none
set_option maxRecDepth 100000 in
theorem c11_feed {X : XP} (hX : XOK X) (l : Launch) : Ctr X l y11_feed prog_1_method_2_code 7 (some .int) (xrm 2) 0 0 F11_feed :=
  Ctr_of (tab := t11_feed) (env := e11_feed) (K := 21) (N := 20000) (fl := fl11) (cl := cl11) (ll := ll11) (jl := jl11) hX mf11_feed.2.2.2 ⟨by decide +kernel, flk11, clk11, llk11, jlk11⟩
   (List.forall_mem_cons.mpr ⟨xcal_v (na := 1) (c10_putEight hX l) mf10_putEight ⟨rfl, rfl⟩ ml11_91 mi10_putEight me10_putEight (xrm_ok (by omega) (by decide)) rfl (by decide) (by decide +kernel), fun _ h => absurd h List.not_mem_nil⟩)
   (xrm_1 (by decide)) ⟨_, _, rfl, rfl⟩ (fun av μ r μ' h => by
    unfold F11_feed at h
    split at h
    · replace h := cond_inv h; obtain ⟨hb, h⟩ := h
      simp only [Bool.and_eq_true] at hb
      obtain ⟨g0, g1⟩ := hb
      obtain rfl := Nat.eq_of_beq_eq_true g0
      obtain rfl := Nat.eq_of_beq_eq_true g1
      exact ⟨Nat.le_of_ble_eq_true rfl, (q11_feed _ _ _ _ _).trans ((f11_feed_e _ _ _ _).symm.trans h)⟩
    · cases h)
def t11_liftMarks : List XE := [(0, .iconst 0, 0, 0, 0, 0, []),
  (1, .istore_n 1, 1, 0, 0, 0, []),
  (2, .nop, 3, 0, 0, 0, []),
  (2, .iload_n 1, 1, 0, 0, 0, []),
  (3, .aload_n 0, 0, 0, 0, 0, []),
  (4, .getfield 63, 11, 8, 0, 0, []),
  (7, .arraylength, 0, 0, 0, 0, []),
  (8, .if_icmp .ge 24, 32, 0, 0, 0, []),
  (11, .aload_n 0, 0, 0, 0, 0, []),
  (12, .getfield 63, 11, 8, 0, 0, []),
  (15, .iload_n 1, 1, 0, 0, 0, []),
  (16, .aaload, 0, 0, 0, 0, []),
  (17, .astore_n 2, 2, 0, 0, 0, []),
  (18, .aload_n 2, 2, 0, 0, 0, []),
  (19, .ifnull 7, 26, 0, 0, 0, []),
  (22, .aload_n 2, 2, 0, 0, 0, []),
  (23, .invokevirtual 121, 1, 5, 0, 0, []),
  (26, .iinc 1 1, 1, 0, 1, 0, []),
  (29, .goto (-27), 2, 0, 0, 0, []),
  (32, .return_, 0, 0, 0, 0, [])]
noncomputable def e11_liftMarks : XN := [(121, 0, 1, 5, F5_lift)]
noncomputable def h11_liftMarks_2 (n : Nat) (v1 : Int32) (μ : XM) : XR := arr t11_liftMarks e11_liftMarks 0 25 n 2 [some (xr 11 0 0), some (xi v1), none] [] μ
set_option maxRecDepth 100000 in
theorem h11_liftMarks_2_s (n : Nat) (v1 : Int32) (μ : XM) : h11_liftMarks_2 (n + 1) v1 μ = (
  xite (v1 < (nI 4)) (
    xck (xin v1 4) <|
    bV (f5_lift (Int32.toNatClampNeg v1) μ) fun m1 =>
    vI (v1 + 1) fun x2 =>
    h11_liftMarks_2 n x2 m1) (
    xrv μ)) := rfl
theorem h11_liftMarks_2_0 (v1 : Int32) (μ : XM) : h11_liftMarks_2 0 v1 μ = none := rfl
noncomputable def k11_liftMarks (n : Nat) (μ : XM) : XR :=
  vI 0 fun x1 =>
  h11_liftMarks_2 n x1 μ
set_option maxRecDepth 100000 in
theorem q11_liftMarks (n : Nat) (μ : XM) : xrun t11_liftMarks e11_liftMarks (xrtk none) 25 n (xlo [xr 11 0 0] 3) μ = k11_liftMarks n  μ := rfl
theorem x11_liftMarks : ∃ f : XM → XR, ∀ (μ : XM), f μ = k11_liftMarks 20000  μ := ⟨fun μ => k11_liftMarks 20000  μ, fun μ => rfl⟩
noncomputable def f11_liftMarks : XM → XR := Classical.choose x11_liftMarks
theorem f11_liftMarks_e (μ : XM) : f11_liftMarks μ = k11_liftMarks 20000  μ := Classical.choose_spec x11_liftMarks μ
noncomputable def F11_liftMarks : XF := fun av μ => match av with
  | [.inr (.inr (some (t0, i0, 0)))] => bif Nat.beq t0 11 && Nat.beq i0 0 then f11_liftMarks  μ else none
  | _ => none
set_option maxRecDepth 100000 in
theorem c11_liftMarks {X : XP} (hX : XOK X) (l : Launch) : Ctr X l y11_liftMarks prog_1_method_4_code 3 none (xrm 2) 0 0 F11_liftMarks :=
  Ctr_of (tab := t11_liftMarks) (env := e11_liftMarks) (K := 25) (N := 20000) (fl := fl11) (cl := cl11) (ll := ll11) (jl := jl11) hX mf11_liftMarks.2.2.2 ⟨by decide +kernel, flk11, clk11, llk11, jlk11⟩
   (List.forall_mem_cons.mpr ⟨xcal_v (na := 0) (c5_lift hX l) mf5_lift ⟨rfl, rfl⟩ ml11_121 mi5_lift me5_lift (xrm_ok (by omega) (by decide)) rfl (by decide) (by decide +kernel), fun _ h => absurd h List.not_mem_nil⟩)
   (xrm_1 (by decide)) ⟨_, _, rfl, rfl⟩ (fun av μ r μ' h => by
    unfold F11_liftMarks at h
    split at h
    · replace h := cond_inv h; obtain ⟨hb, h⟩ := h
      simp only [Bool.and_eq_true] at hb
      obtain ⟨g0, g1⟩ := hb
      obtain rfl := Nat.eq_of_beq_eq_true g0
      obtain rfl := Nat.eq_of_beq_eq_true g1
      exact ⟨Nat.le_of_ble_eq_true rfl, (q11_liftMarks _  _).trans ((f11_liftMarks_e  _).symm.trans h)⟩
    · cases h)
def t11_room : List XE := [(0, .aload_n 0, 0, 0, 0, 0, []),
  (1, .getfield 28, 11, 2, 0, 0, []),
  (4, .invokevirtual 99, 1, 7, 0, 0, []),
  (7, .istore_n 1, 1, 0, 0, 0, []),
  (8, .aload_n 0, 0, 0, 0, 0, []),
  (9, .getfield 10, 11, 0, 0, 0, []),
  (12, .invokevirtual 103, 1, 10, 0, 0, []),
  (15, .iload_n 1, 1, 0, 0, 0, []),
  (16, .ifCond .ne 49, 65, 0, 0, 0, []),
  (19, .aload_n 0, 0, 0, 0, 0, []),
  (20, .getfield 19, 11, 1, 0, 0, []),
  (23, .aload_n 0, 0, 0, 0, 0, []),
  (24, .getfield 28, 11, 2, 0, 0, []),
  (27, .getfield 106, 7, 0, 0, 0, []),
  (30, .invokevirtual 109, 2, 2, 0, 0, []),
  (33, .aload_n 0, 0, 0, 0, 0, []),
  (34, .getfield 47, 11, 5, 0, 0, []),
  (37, .invokevirtual 112, 1, 8, 0, 0, []),
  (40, .aload_n 0, 0, 0, 0, 0, []),
  (41, .getfield 35, 11, 3, 0, 0, []),
  (44, .invokevirtual 115, 1, 1, 0, 0, []),
  (47, .aload_n 0, 0, 0, 0, 0, []),
  (48, .getfield 71, 11, 9, 0, 0, []),
  (51, .invokevirtual 116, 1, 9, 0, 0, []),
  (54, .aload_n 0, 0, 0, 0, 0, []),
  (55, .getfield 57, 11, 7, 0, 0, []),
  (58, .invokevirtual 117, 1, 0, 0, 0, []),
  (61, .aload_n 0, 0, 0, 0, 0, []),
  (62, .invokevirtual 118, 1, 11, 0, 0, []),
  (65, .iload_n 1, 1, 0, 0, 0, []),
  (66, .ireturn, 0, 0, 0, 0, [])]
noncomputable def e11_room : XN := [(99, 1, 1, 7, F7_read), (103, 0, 1, 10, F10_clear), (109, 0, 2, 2, F2_copyFrom), (112, 0, 1, 8, F8_begin), (115, 0, 1, 1, F1_clear), (116, 0, 1, 9, F9_clear), (117, 0, 1, 0, F0_clear), (118, 0, 1, 11, F11_liftMarks)]
noncomputable def k11_room (μ : XM) : XR :=
  bI (f7_read μ) fun r2 m1 =>
  vI r2 fun x3 =>
  bV (f10_clear m1) fun m4 =>
  xite (x3 = 0) (
    bV (f2_copyFrom 0 1 m4) fun m5 =>
    bV (f8_begin 0 m5) fun m6 =>
    bV (f1_clear 0 m6) fun m7 =>
    bV (f9_clear 0 m7) fun m8 =>
    bV (f0_clear m8) fun m9 =>
    bV (f11_liftMarks m9) fun m10 =>
    xri x3 m10) (
    xri x3 m4)
set_option maxRecDepth 100000 in
theorem q11_room (n : Nat) (μ : XM) : xrun t11_room e11_room (xrtk (some .int)) 36 n (xlo [xr 11 0 0] 2) μ = k11_room  μ := rfl
theorem x11_room : ∃ f : XM → XR, ∀ (μ : XM), f μ = k11_room  μ := ⟨fun μ => k11_room  μ, fun μ => rfl⟩
noncomputable def f11_room : XM → XR := Classical.choose x11_room
theorem f11_room_e (μ : XM) : f11_room μ = k11_room  μ := Classical.choose_spec x11_room μ
noncomputable def F11_room : XF := fun av μ => match av with
  | [.inr (.inr (some (t0, i0, 0)))] => bif Nat.beq t0 11 && Nat.beq i0 0 then f11_room  μ else none
  | _ => none
set_option maxRecDepth 100000 in
theorem c11_room {X : XP} (hX : XOK X) (l : Launch) : Ctr X l y11_room prog_1_method_3_code 2 (some .int) (xrm 79) 0 0 F11_room :=
  Ctr_of (tab := t11_room) (env := e11_room) (K := 36) (N := 20000) (fl := fl11) (cl := cl11) (ll := ll11) (jl := jl11) hX mf11_room.2.2.2 ⟨by decide +kernel, flk11, clk11, llk11, jlk11⟩
   (List.forall_mem_cons.mpr ⟨xcal_v (na := 0) (c7_read hX l) mf7_read ⟨rfl, rfl⟩ ml11_99 mi7_read me7_read (xrm_ok (by omega) (by decide)) rfl (by decide) (by decide +kernel), List.forall_mem_cons.mpr ⟨xcal_v (na := 0) (c10_clear hX l) mf10_clear ⟨rfl, rfl⟩ ml11_103 mi10_clear me10_clear (xrm_ok (by omega) (by decide)) rfl (by decide) (by decide +kernel), List.forall_mem_cons.mpr ⟨xcal_v (na := 1) (c2_copyFrom hX l) mf2_copyFrom ⟨rfl, rfl⟩ ml11_109 mi2_copyFrom me2_copyFrom (xrm_ok (by omega) (by decide)) rfl (by decide) (by decide +kernel), List.forall_mem_cons.mpr ⟨xcal_v (na := 0) (c8_begin hX l) mf8_begin ⟨rfl, rfl⟩ ml11_112 mi8_begin me8_begin (xrm_ok (by omega) (by decide)) rfl (by decide) (by decide +kernel), List.forall_mem_cons.mpr ⟨xcal_v (na := 0) (c1_clear hX l) mf1_clear ⟨rfl, rfl⟩ ml11_115 mi1_clear me1_clear (xrm_ok (by omega) (by decide)) rfl (by decide) (by decide +kernel), List.forall_mem_cons.mpr ⟨xcal_v (na := 0) (c9_clear hX l) mf9_clear ⟨rfl, rfl⟩ ml11_116 mi9_clear me9_clear (xrm_ok (by omega) (by decide)) rfl (by decide) (by decide +kernel), List.forall_mem_cons.mpr ⟨xcal_v (na := 0) (c0_clear hX l) mf0_clear ⟨rfl, rfl⟩ ml11_117 mi0_clear me0_clear (xrm_ok (by omega) (by decide)) rfl (by decide) (by decide +kernel), List.forall_mem_cons.mpr ⟨xcal_v (na := 0) (c11_liftMarks hX l) mf11_liftMarks ⟨rfl, rfl⟩ ml11_118 mi11_liftMarks me11_liftMarks (xrm_ok (by omega) (by decide)) rfl (by decide) (by decide +kernel), fun _ h => absurd h List.not_mem_nil⟩⟩⟩⟩⟩⟩⟩⟩)
   (xrm_1 (by decide)) ⟨_, _, rfl, rfl⟩ (fun av μ r μ' h => by
    unfold F11_room at h
    split at h
    · replace h := cond_inv h; obtain ⟨hb, h⟩ := h
      simp only [Bool.and_eq_true] at hb
      obtain ⟨g0, g1⟩ := hb
      obtain rfl := Nat.eq_of_beq_eq_true g0
      obtain rfl := Nat.eq_of_beq_eq_true g1
      exact ⟨Nat.le_of_ble_eq_true rfl, (q11_room _  _).trans ((f11_room_e  _).symm.trans h)⟩
    · cases h)
def t11_evening : List XE := [(0, .aload_n 0, 0, 0, 0, 0, []),
  (1, .getfield 39, 11, 4, 0, 0, []),
  (4, .aload_n 0, 0, 0, 0, 0, []),
  (5, .getfield 10, 11, 0, 0, 0, []),
  (8, .aload_n 0, 0, 0, 0, 0, []),
  (9, .getfield 19, 11, 1, 0, 0, []),
  (12, .invokevirtual 124, 3, 1, 0, 0, []),
  (15, .istore_n 1, 1, 0, 0, 0, []),
  (16, .aload_n 0, 0, 0, 0, 0, []),
  (17, .getfield 10, 11, 0, 0, 0, []),
  (20, .invokevirtual 103, 1, 10, 0, 0, []),
  (23, .iload_n 1, 1, 0, 0, 0, []),
  (24, .ifCond .ne 14, 38, 0, 0, 0, []),
  (27, .aload_n 0, 0, 0, 0, 0, []),
  (28, .getfield 35, 11, 3, 0, 0, []),
  (31, .aload_n 0, 0, 0, 0, 0, []),
  (32, .getfield 39, 11, 4, 0, 0, []),
  (35, .invokevirtual 127, 2, 1, 0, 0, []),
  (38, .iload_n 1, 1, 0, 0, 0, []),
  (39, .ireturn, 0, 0, 0, 0, [])]
noncomputable def e11_evening : XN := [(124, 1, 3, 1, F1_read), (103, 0, 1, 10, F10_clear), (127, 0, 2, 1, F1_copyFrom)]
noncomputable def k11_evening (μ : XM) : XR :=
  bI (f1_read 1 0 μ) fun r2 m1 =>
  vI r2 fun x3 =>
  bV (f10_clear m1) fun m4 =>
  xite (x3 = 0) (
    bV (f1_copyFrom 0 1 m4) fun m5 =>
    xri x3 m5) (
    xri x3 m4)
set_option maxRecDepth 100000 in
theorem q11_evening (n : Nat) (μ : XM) : xrun t11_evening e11_evening (xrtk (some .int)) 25 n (xlo [xr 11 0 0] 2) μ = k11_evening  μ := rfl
theorem x11_evening : ∃ f : XM → XR, ∀ (μ : XM), f μ = k11_evening  μ := ⟨fun μ => k11_evening  μ, fun μ => rfl⟩
noncomputable def f11_evening : XM → XR := Classical.choose x11_evening
theorem f11_evening_e (μ : XM) : f11_evening μ = k11_evening  μ := Classical.choose_spec x11_evening μ
noncomputable def F11_evening : XF := fun av μ => match av with
  | [.inr (.inr (some (t0, i0, 0)))] => bif Nat.beq t0 11 && Nat.beq i0 0 then f11_evening  μ else none
  | _ => none
set_option maxRecDepth 100000 in
theorem c11_evening {X : XP} (hX : XOK X) (l : Launch) : Ctr X l y11_evening prog_1_method_5_code 2 (some .int) (xrm 14) 0 0 F11_evening :=
  Ctr_of (tab := t11_evening) (env := e11_evening) (K := 25) (N := 20000) (fl := fl11) (cl := cl11) (ll := ll11) (jl := jl11) hX mf11_evening.2.2.2 ⟨by decide +kernel, flk11, clk11, llk11, jlk11⟩
   (List.forall_mem_cons.mpr ⟨xcal_v (na := 2) (c1_read hX l) mf1_read ⟨rfl, rfl⟩ ml11_124 mi1_read me1_read (xrm_ok (by omega) (by decide)) rfl (by decide) (by decide +kernel), List.forall_mem_cons.mpr ⟨xcal_v (na := 0) (c10_clear hX l) mf10_clear ⟨rfl, rfl⟩ ml11_103 mi10_clear me10_clear (xrm_ok (by omega) (by decide)) rfl (by decide) (by decide +kernel), List.forall_mem_cons.mpr ⟨xcal_v (na := 1) (c1_copyFrom hX l) mf1_copyFrom ⟨rfl, rfl⟩ ml11_127 mi1_copyFrom me1_copyFrom (xrm_ok (by omega) (by decide)) rfl (by decide) (by decide +kernel), fun _ h => absurd h List.not_mem_nil⟩⟩⟩)
   (xrm_1 (by decide)) ⟨_, _, rfl, rfl⟩ (fun av μ r μ' h => by
    unfold F11_evening at h
    split at h
    · replace h := cond_inv h; obtain ⟨hb, h⟩ := h
      simp only [Bool.and_eq_true] at hb
      obtain ⟨g0, g1⟩ := hb
      obtain rfl := Nat.eq_of_beq_eq_true g0
      obtain rfl := Nat.eq_of_beq_eq_true g1
      exact ⟨Nat.le_of_ble_eq_true rfl, (q11_evening _  _).trans ((f11_evening_e  _).symm.trans h)⟩
    · cases h)
def t11_guest : List XE := [(0, .aload_n 0, 0, 0, 0, 0, []),
  (1, .getfield 19, 11, 1, 0, 0, []),
  (4, .iload_n 1, 1, 0, 0, 0, []),
  (5, .invokevirtual 130, 2, 2, 0, 0, []),
  (8, .ifCond .ne 6, 14, 0, 0, 0, []),
  (11, .bipush (-2), 0, 0, (-2), 0, []),
  (13, .ireturn, 0, 0, 0, 0, []),
  (14, .iload_n 2, 2, 0, 0, 0, []),
  (15, .tableswitch 111 0 6 #[41, 51, 61, 71, 81, 91, 101], 126, 0, 0, 0, [(0, 56), (1, 66), (2, 76), (3, 86), (4, 96), (5, 106), (6, 116)]),
  (56, .aload_n 0, 0, 0, 0, 0, []),
  (57, .getfield 19, 11, 1, 0, 0, []),
  (60, .getfield 134, 2, 6, 0, 0, []),
  (63, .iload_n 1, 1, 0, 0, 0, []),
  (64, .iaload, 0, 0, 0, 0, []),
  (65, .ireturn, 0, 0, 0, 0, []),
  (66, .aload_n 0, 0, 0, 0, 0, []),
  (67, .getfield 47, 11, 5, 0, 0, []),
  (70, .getfield 138, 8, 1, 0, 0, []),
  (73, .iload_n 1, 1, 0, 0, 0, []),
  (74, .iaload, 0, 0, 0, 0, []),
  (75, .ireturn, 0, 0, 0, 0, []),
  (76, .aload_n 0, 0, 0, 0, 0, []),
  (77, .getfield 19, 11, 1, 0, 0, []),
  (80, .getfield 141, 2, 8, 0, 0, []),
  (83, .iload_n 1, 1, 0, 0, 0, []),
  (84, .iaload, 0, 0, 0, 0, []),
  (85, .ireturn, 0, 0, 0, 0, []),
  (86, .aload_n 0, 0, 0, 0, 0, []),
  (87, .getfield 47, 11, 5, 0, 0, []),
  (90, .getfield 144, 8, 2, 0, 0, []),
  (93, .iload_n 1, 1, 0, 0, 0, []),
  (94, .iaload, 0, 0, 0, 0, []),
  (95, .ireturn, 0, 0, 0, 0, []),
  (96, .aload_n 0, 0, 0, 0, 0, []),
  (97, .getfield 19, 11, 1, 0, 0, []),
  (100, .getfield 147, 2, 10, 0, 0, []),
  (103, .iload_n 1, 1, 0, 0, 0, []),
  (104, .iaload, 0, 0, 0, 0, []),
  (105, .ireturn, 0, 0, 0, 0, []),
  (106, .aload_n 0, 0, 0, 0, 0, []),
  (107, .getfield 47, 11, 5, 0, 0, []),
  (110, .getfield 150, 8, 4, 0, 0, []),
  (113, .iload_n 1, 1, 0, 0, 0, []),
  (114, .iaload, 0, 0, 0, 0, []),
  (115, .ireturn, 0, 0, 0, 0, []),
  (116, .aload_n 0, 0, 0, 0, 0, []),
  (117, .getfield 47, 11, 5, 0, 0, []),
  (120, .getfield 153, 8, 3, 0, 0, []),
  (123, .iload_n 1, 1, 0, 0, 0, []),
  (124, .iaload, 0, 0, 0, 0, []),
  (125, .ireturn, 0, 0, 0, 0, []),
  (126, .bipush (-2), 0, 0, (-2), 0, []),
  (128, .ireturn, 0, 0, 0, 0, [])]
noncomputable def e11_guest : XN := [(130, 1, 2, 2, F2_isGuest)]
noncomputable def k11_guest (p1 : Int32) (p2 : Int32) (μ : XM) : XR :=
  bI (f2_isGuest 0 p1 μ) fun r2 m1 =>
  xite (r2 = 0) (
    xri (-2) m1) (
    xite (p2 = 0) (
      xck (xin p1 6) <|
      xri (aI m1 2 0 6 (Int32.toNatClampNeg p1)) m1) (
    xite (p2 = 1) (
      xck (xin p1 6) <|
      xri (aI m1 8 0 1 (Int32.toNatClampNeg p1)) m1) (
    xite (p2 = 2) (
      xck (xin p1 6) <|
      xri (aI m1 2 0 8 (Int32.toNatClampNeg p1)) m1) (
    xite (p2 = 3) (
      xck (xin p1 6) <|
      xri (aI m1 8 0 2 (Int32.toNatClampNeg p1)) m1) (
    xite (p2 = 4) (
      xck (xin p1 6) <|
      xri (aI m1 2 0 10 (Int32.toNatClampNeg p1)) m1) (
    xite (p2 = 5) (
      xck (xin p1 6) <|
      xri (aI m1 8 0 4 (Int32.toNatClampNeg p1)) m1) (
    xite (p2 = 6) (
      xck (xin p1 6) <|
      xri (aI m1 8 0 3 (Int32.toNatClampNeg p1)) m1) (
    xri (-2) m1))))))))
set_option maxRecDepth 100000 in
theorem q11_guest (n : Nat) (p1 : Int32) (p2 : Int32) (μ : XM) : xrun t11_guest e11_guest (xrtk (some .int)) 58 n (xlo [xr 11 0 0, xi p1, xi p2] 3) μ = k11_guest p1 p2 μ := rfl
theorem x11_guest : ∃ f : Int32 → Int32 → XM → XR, ∀ (p1 : Int32) (p2 : Int32) (μ : XM), f p1 p2 μ = k11_guest p1 p2 μ := ⟨fun p1 p2 μ => k11_guest p1 p2 μ, fun p1 p2 μ => rfl⟩
noncomputable def f11_guest : Int32 → Int32 → XM → XR := Classical.choose x11_guest
theorem f11_guest_e (p1 : Int32) (p2 : Int32) (μ : XM) : f11_guest p1 p2 μ = k11_guest p1 p2 μ := Classical.choose_spec x11_guest p1 p2 μ
noncomputable def F11_guest : XF := fun av μ => match av with
  | [.inr (.inr (some (t0, i0, 0))), .inl p1, .inl p2] => bif Nat.beq t0 11 && Nat.beq i0 0 then f11_guest p1 p2 μ else none
  | _ => none
set_option maxRecDepth 100000 in
theorem c11_guest {X : XP} (hX : XOK X) (l : Launch) : Ctr X l y11_guest prog_1_method_6_code 3 (some .int) (xrm 2) 0 0 F11_guest :=
  Ctr_of (tab := t11_guest) (env := e11_guest) (K := 58) (N := 20000) (fl := fl11) (cl := cl11) (ll := ll11) (jl := jl11) hX mf11_guest.2.2.2 ⟨by decide +kernel, flk11, clk11, llk11, jlk11⟩
   (List.forall_mem_cons.mpr ⟨xcal_v (na := 1) (c2_isGuest hX l) mf2_isGuest ⟨rfl, rfl⟩ ml11_130 mi2_isGuest me2_isGuest (xrm_ok (by omega) (by decide)) rfl (by decide) (by decide +kernel), fun _ h => absurd h List.not_mem_nil⟩)
   (xrm_1 (by decide)) ⟨_, _, rfl, rfl⟩ (fun av μ r μ' h => by
    unfold F11_guest at h
    split at h
    · replace h := cond_inv h; obtain ⟨hb, h⟩ := h
      simp only [Bool.and_eq_true] at hb
      obtain ⟨g0, g1⟩ := hb
      obtain rfl := Nat.eq_of_beq_eq_true g0
      obtain rfl := Nat.eq_of_beq_eq_true g1
      exact ⟨Nat.le_of_ble_eq_true rfl, (q11_guest _ _ _ _).trans ((f11_guest_e _ _ _).symm.trans h)⟩
    · cases h)
def t11_belt : List XE := [(0, .aload_n 0, 0, 0, 0, 0, []),
  (1, .getfield 19, 11, 1, 0, 0, []),
  (4, .iload_n 1, 1, 0, 0, 0, []),
  (5, .invokevirtual 156, 2, 2, 0, 0, []),
  (8, .ifCond .ne 6, 14, 0, 0, 0, []),
  (11, .bipush (-2), 0, 0, (-2), 0, []),
  (13, .ireturn, 0, 0, 0, 0, []),
  (14, .iload_n 2, 2, 0, 0, 0, []),
  (15, .lookupswitch 44 #[(0, 25), (1, 35)], 59, 0, 0, 0, [(0, 40), (1, 50)]),
  (40, .aload_n 0, 0, 0, 0, 0, []),
  (41, .getfield 19, 11, 1, 0, 0, []),
  (44, .getfield 159, 2, 12, 0, 0, []),
  (47, .iload_n 1, 1, 0, 0, 0, []),
  (48, .iaload, 0, 0, 0, 0, []),
  (49, .ireturn, 0, 0, 0, 0, []),
  (50, .aload_n 0, 0, 0, 0, 0, []),
  (51, .getfield 47, 11, 5, 0, 0, []),
  (54, .iload_n 1, 1, 0, 0, 0, []),
  (55, .invokevirtual 162, 2, 8, 0, 0, []),
  (58, .ireturn, 0, 0, 0, 0, []),
  (59, .bipush (-2), 0, 0, (-2), 0, []),
  (61, .ireturn, 0, 0, 0, 0, [])]
noncomputable def e11_belt : XN := [(156, 1, 2, 2, F2_isBelt), (162, 1, 2, 8, F8_holderOf)]
noncomputable def k11_belt (p1 : Int32) (p2 : Int32) (μ : XM) : XR :=
  bI (f2_isBelt 0 p1 μ) fun r2 m1 =>
  xite (r2 = 0) (
    xri (-2) m1) (
    xite (p2 = 0) (
      xck (xin p1 5) <|
      xri (aI m1 2 0 12 (Int32.toNatClampNeg p1)) m1) (
    xite (p2 = 1) (
      bI (f8_holderOf 0 p1 m1) fun r4 m3 =>
      xri r4 m3) (
    xri (-2) m1)))
set_option maxRecDepth 100000 in
theorem q11_belt (n : Nat) (p1 : Int32) (p2 : Int32) (μ : XM) : xrun t11_belt e11_belt (xrtk (some .int)) 27 n (xlo [xr 11 0 0, xi p1, xi p2] 3) μ = k11_belt p1 p2 μ := rfl
theorem x11_belt : ∃ f : Int32 → Int32 → XM → XR, ∀ (p1 : Int32) (p2 : Int32) (μ : XM), f p1 p2 μ = k11_belt p1 p2 μ := ⟨fun p1 p2 μ => k11_belt p1 p2 μ, fun p1 p2 μ => rfl⟩
noncomputable def f11_belt : Int32 → Int32 → XM → XR := Classical.choose x11_belt
theorem f11_belt_e (p1 : Int32) (p2 : Int32) (μ : XM) : f11_belt p1 p2 μ = k11_belt p1 p2 μ := Classical.choose_spec x11_belt p1 p2 μ
noncomputable def F11_belt : XF := fun av μ => match av with
  | [.inr (.inr (some (t0, i0, 0))), .inl p1, .inl p2] => bif Nat.beq t0 11 && Nat.beq i0 0 then f11_belt p1 p2 μ else none
  | _ => none
set_option maxRecDepth 100000 in
theorem c11_belt {X : XP} (hX : XOK X) (l : Launch) : Ctr X l y11_belt prog_1_method_7_code 3 (some .int) (xrm 2) 0 0 F11_belt :=
  Ctr_of (tab := t11_belt) (env := e11_belt) (K := 27) (N := 20000) (fl := fl11) (cl := cl11) (ll := ll11) (jl := jl11) hX mf11_belt.2.2.2 ⟨by decide +kernel, flk11, clk11, llk11, jlk11⟩
   (List.forall_mem_cons.mpr ⟨xcal_v (na := 1) (c2_isBelt hX l) mf2_isBelt ⟨rfl, rfl⟩ ml11_156 mi2_isBelt me2_isBelt (xrm_ok (by omega) (by decide)) rfl (by decide) (by decide +kernel), List.forall_mem_cons.mpr ⟨xcal_v (na := 1) (c8_holderOf hX l) mf8_holderOf ⟨rfl, rfl⟩ ml11_162 mi8_holderOf me8_holderOf (xrm_ok (by omega) (by decide)) rfl (by decide) (by decide +kernel), fun _ h => absurd h List.not_mem_nil⟩⟩)
   (xrm_1 (by decide)) ⟨_, _, rfl, rfl⟩ (fun av μ r μ' h => by
    unfold F11_belt at h
    split at h
    · replace h := cond_inv h; obtain ⟨hb, h⟩ := h
      simp only [Bool.and_eq_true] at hb
      obtain ⟨g0, g1⟩ := hb
      obtain rfl := Nat.eq_of_beq_eq_true g0
      obtain rfl := Nat.eq_of_beq_eq_true g1
      exact ⟨Nat.le_of_ble_eq_true rfl, (q11_belt _ _ _ _).trans ((f11_belt_e _ _ _).symm.trans h)⟩
    · cases h)
def t11_man : List XE := [(0, .aload_n 0, 0, 0, 0, 0, []),
  (1, .getfield 19, 11, 1, 0, 0, []),
  (4, .iload_n 1, 1, 0, 0, 0, []),
  (5, .invokevirtual 166, 2, 2, 0, 0, []),
  (8, .ifCond .ne 5, 13, 0, 0, 0, []),
  (11, .iconst (-1), 0, 0, (-1), 0, []),
  (12, .ireturn, 0, 0, 0, 0, []),
  (13, .iload_n 2, 2, 0, 0, 0, []),
  (14, .tableswitch 63 0 2 #[26, 36, 46], 77, 0, 0, 0, [(0, 40), (1, 50), (2, 60)]),
  (40, .aload_n 0, 0, 0, 0, 0, []),
  (41, .getfield 19, 11, 1, 0, 0, []),
  (44, .getfield 169, 2, 14, 0, 0, []),
  (47, .iload_n 1, 1, 0, 0, 0, []),
  (48, .iaload, 0, 0, 0, 0, []),
  (49, .ireturn, 0, 0, 0, 0, []),
  (50, .aload_n 0, 0, 0, 0, 0, []),
  (51, .getfield 19, 11, 1, 0, 0, []),
  (54, .getfield 172, 2, 15, 0, 0, []),
  (57, .iload_n 1, 1, 0, 0, 0, []),
  (58, .iaload, 0, 0, 0, 0, []),
  (59, .ireturn, 0, 0, 0, 0, []),
  (60, .aload_n 0, 0, 0, 0, 0, []),
  (61, .getfield 47, 11, 5, 0, 0, []),
  (64, .iload_n 1, 1, 0, 0, 0, []),
  (65, .invokevirtual 175, 2, 8, 0, 0, []),
  (68, .ifCond .eq 7, 75, 0, 0, 0, []),
  (71, .iconst 1, 0, 0, 1, 0, []),
  (72, .goto 4, 76, 0, 0, 0, []),
  (75, .iconst 0, 0, 0, 0, 0, []),
  (76, .ireturn, 0, 0, 0, 0, []),
  (77, .iconst (-1), 0, 0, (-1), 0, []),
  (78, .ireturn, 0, 0, 0, 0, [])]
noncomputable def e11_man : XN := [(166, 1, 2, 2, F2_isMan), (175, 1, 2, 8, F8_isFree)]
noncomputable def k11_man (p1 : Int32) (p2 : Int32) (μ : XM) : XR :=
  bI (f2_isMan 0 p1 μ) fun r2 m1 =>
  xite (r2 = 0) (
    xri (-1) m1) (
    xite (p2 = 0) (
      xck (xin p1 3) <|
      xri (aI m1 2 0 14 (Int32.toNatClampNeg p1)) m1) (
    xite (p2 = 1) (
      xck (xin p1 3) <|
      xri (aI m1 2 0 15 (Int32.toNatClampNeg p1)) m1) (
    xite (p2 = 2) (
      bI (f8_isFree 0 p1 m1) fun r4 m3 =>
      xite (r4 = 0) (
        xri 0 m3) (
        xri 1 m3)) (
    xri (-1) m1))))
set_option maxRecDepth 100000 in
theorem q11_man (n : Nat) (p1 : Int32) (p2 : Int32) (μ : XM) : xrun t11_man e11_man (xrtk (some .int)) 37 n (xlo [xr 11 0 0, xi p1, xi p2] 3) μ = k11_man p1 p2 μ := rfl
theorem x11_man : ∃ f : Int32 → Int32 → XM → XR, ∀ (p1 : Int32) (p2 : Int32) (μ : XM), f p1 p2 μ = k11_man p1 p2 μ := ⟨fun p1 p2 μ => k11_man p1 p2 μ, fun p1 p2 μ => rfl⟩
noncomputable def f11_man : Int32 → Int32 → XM → XR := Classical.choose x11_man
theorem f11_man_e (p1 : Int32) (p2 : Int32) (μ : XM) : f11_man p1 p2 μ = k11_man p1 p2 μ := Classical.choose_spec x11_man p1 p2 μ
noncomputable def F11_man : XF := fun av μ => match av with
  | [.inr (.inr (some (t0, i0, 0))), .inl p1, .inl p2] => bif Nat.beq t0 11 && Nat.beq i0 0 then f11_man p1 p2 μ else none
  | _ => none
set_option maxRecDepth 100000 in
theorem c11_man {X : XP} (hX : XOK X) (l : Launch) : Ctr X l y11_man prog_1_method_8_code 3 (some .int) (xrm 3) 0 0 F11_man :=
  Ctr_of (tab := t11_man) (env := e11_man) (K := 37) (N := 20000) (fl := fl11) (cl := cl11) (ll := ll11) (jl := jl11) hX mf11_man.2.2.2 ⟨by decide +kernel, flk11, clk11, llk11, jlk11⟩
   (List.forall_mem_cons.mpr ⟨xcal_v (na := 1) (c2_isMan hX l) mf2_isMan ⟨rfl, rfl⟩ ml11_166 mi2_isMan me2_isMan (xrm_ok (by omega) (by decide)) rfl (by decide) (by decide +kernel), List.forall_mem_cons.mpr ⟨xcal_v (na := 1) (c8_isFree hX l) mf8_isFree ⟨rfl, rfl⟩ ml11_175 mi8_isFree me8_isFree (xrm_ok (by omega) (by decide)) rfl (by decide) (by decide +kernel), fun _ h => absurd h List.not_mem_nil⟩⟩)
   (xrm_1 (by decide)) ⟨_, _, rfl, rfl⟩ (fun av μ r μ' h => by
    unfold F11_man at h
    split at h
    · replace h := cond_inv h; obtain ⟨hb, h⟩ := h
      simp only [Bool.and_eq_true] at hb
      obtain ⟨g0, g1⟩ := hb
      obtain rfl := Nat.eq_of_beq_eq_true g0
      obtain rfl := Nat.eq_of_beq_eq_true g1
      exact ⟨Nat.le_of_ble_eq_true rfl, (q11_man _ _ _ _).trans ((f11_man_e _ _ _).symm.trans h)⟩
    · cases h)
def t11_cast : List XE := [(0, .aload_n 0, 0, 0, 0, 0, []),
  (1, .getfield 47, 11, 5, 0, 0, []),
  (4, .iload_n 1, 1, 0, 0, 0, []),
  (5, .iload_n 2, 2, 0, 0, 0, []),
  (6, .iload_n 3, 3, 0, 0, 0, []),
  (7, .invokevirtual 178, 4, 8, 0, 0, []),
  (10, .ifCond .ne 5, 15, 0, 0, 0, []),
  (13, .iconst 0, 0, 0, 0, 0, []),
  (14, .ireturn, 0, 0, 0, 0, []),
  (15, .aload_n 0, 0, 0, 0, 0, []),
  (16, .getfield 57, 11, 7, 0, 0, []),
  (19, .aload_n 0, 0, 0, 0, 0, []),
  (20, .getfield 47, 11, 5, 0, 0, []),
  (23, .invokevirtual 182, 2, 0, 0, 0, []),
  (26, .aload_n 0, 0, 0, 0, 0, []),
  (27, .getfield 47, 11, 5, 0, 0, []),
  (30, .iload_n 1, 1, 0, 0, 0, []),
  (31, .iload_n 2, 2, 0, 0, 0, []),
  (32, .iload_n 3, 3, 0, 0, 0, []),
  (33, .invokevirtual 186, 4, 8, 0, 0, []),
  (36, .iconst 1, 0, 0, 1, 0, []),
  (37, .ireturn, 0, 0, 0, 0, [])]
noncomputable def e11_cast : XN := [(178, 1, 4, 8, F8_canCast), (182, 0, 2, 0, F0_keep), (186, 0, 4, 8, F8_giveBelt)]
noncomputable def k11_cast (p1 : Int32) (p2 : Int32) (p3 : Int32) (μ : XM) : XR :=
  bI (f8_canCast 0 p1 p2 p3 μ) fun r2 m1 =>
  xite (r2 = 0) (
    xrb 0 m1) (
    bV (f0_keep 0 m1) fun m3 =>
    bV (f8_giveBelt 0 p1 p2 p3 m3) fun m4 =>
    xrb 1 m4)
set_option maxRecDepth 100000 in
theorem q11_cast (n : Nat) (p1 : Int32) (p2 : Int32) (p3 : Int32) (μ : XM) : xrun t11_cast e11_cast (xrtk (some .boolean)) 27 n (xlo [xr 11 0 0, xi p1, xi p2, xi p3] 4) μ = k11_cast p1 p2 p3 μ := rfl
theorem x11_cast : ∃ f : Int32 → Int32 → Int32 → XM → XR, ∀ (p1 : Int32) (p2 : Int32) (p3 : Int32) (μ : XM), f p1 p2 p3 μ = k11_cast p1 p2 p3 μ := ⟨fun p1 p2 p3 μ => k11_cast p1 p2 p3 μ, fun p1 p2 p3 μ => rfl⟩
noncomputable def f11_cast : Int32 → Int32 → Int32 → XM → XR := Classical.choose x11_cast
theorem f11_cast_e (p1 : Int32) (p2 : Int32) (p3 : Int32) (μ : XM) : f11_cast p1 p2 p3 μ = k11_cast p1 p2 p3 μ := Classical.choose_spec x11_cast p1 p2 p3 μ
noncomputable def F11_cast : XF := fun av μ => match av with
  | [.inr (.inr (some (t0, i0, 0))), .inl p1, .inl p2, .inl p3] => bif Nat.beq t0 11 && Nat.beq i0 0 then f11_cast p1 p2 p3 μ else none
  | _ => none
set_option maxRecDepth 100000 in
theorem c11_cast {X : XP} (hX : XOK X) (l : Launch) : Ctr X l y11_cast prog_1_method_9_code 4 (some .boolean) (xrm 5) 0 0 F11_cast :=
  Ctr_of (tab := t11_cast) (env := e11_cast) (K := 27) (N := 20000) (fl := fl11) (cl := cl11) (ll := ll11) (jl := jl11) hX mf11_cast.2.2.2 ⟨by decide +kernel, flk11, clk11, llk11, jlk11⟩
   (List.forall_mem_cons.mpr ⟨xcal_v (na := 3) (c8_canCast hX l) mf8_canCast ⟨rfl, rfl⟩ ml11_178 mi8_canCast me8_canCast (xrm_ok (by omega) (by decide)) rfl (by decide) (by decide +kernel), List.forall_mem_cons.mpr ⟨xcal_v (na := 1) (c0_keep hX l) mf0_keep ⟨rfl, rfl⟩ ml11_182 mi0_keep me0_keep (xrm_ok (by omega) (by decide)) rfl (by decide) (by decide +kernel), List.forall_mem_cons.mpr ⟨xcal_v (na := 3) (c8_giveBelt hX l) mf8_giveBelt ⟨rfl, rfl⟩ ml11_186 mi8_giveBelt me8_giveBelt (xrm_ok (by omega) (by decide)) rfl (by decide) (by decide +kernel), fun _ h => absurd h List.not_mem_nil⟩⟩⟩)
   (xrm_1 (by decide)) ⟨_, _, rfl, rfl⟩ (fun av μ r μ' h => by
    unfold F11_cast at h
    split at h
    · replace h := cond_inv h; obtain ⟨hb, h⟩ := h
      simp only [Bool.and_eq_true] at hb
      obtain ⟨g0, g1⟩ := hb
      obtain rfl := Nat.eq_of_beq_eq_true g0
      obtain rfl := Nat.eq_of_beq_eq_true g1
      exact ⟨Nat.le_of_ble_eq_true rfl, (q11_cast _ _ _ _ _).trans ((f11_cast_e _ _ _ _).symm.trans h)⟩
    · cases h)
def t11_ask : List XE := [(0, .aload_n 0, 0, 0, 0, 0, []),
  (1, .getfield 47, 11, 5, 0, 0, []),
  (4, .invokevirtual 190, 1, 8, 0, 0, []),
  (7, .ifCond .ne 5, 12, 0, 0, 0, []),
  (10, .iconst (-1), 0, 0, (-1), 0, []),
  (11, .ireturn, 0, 0, 0, 0, []),
  (12, .aload_n 0, 0, 0, 0, 0, []),
  (13, .getfield 57, 11, 7, 0, 0, []),
  (16, .aload_n 0, 0, 0, 0, 0, []),
  (17, .getfield 47, 11, 5, 0, 0, []),
  (20, .invokevirtual 182, 2, 0, 0, 0, []),
  (23, .aload_n 0, 0, 0, 0, 0, []),
  (24, .getfield 47, 11, 5, 0, 0, []),
  (27, .invokevirtual 194, 1, 8, 0, 0, []),
  (30, .aload_n 0, 0, 0, 0, 0, []),
  (31, .getfield 47, 11, 5, 0, 0, []),
  (34, .getfield 197, 8, 6, 0, 0, []),
  (37, .ireturn, 0, 0, 0, 0, [])]
noncomputable def e11_ask : XN := [(190, 1, 1, 8, F8_canAsk), (182, 0, 2, 0, F0_keep), (194, 0, 1, 8, F8_openGap)]
noncomputable def k11_ask (μ : XM) : XR :=
  bI (f8_canAsk 0 μ) fun r2 m1 =>
  xite (r2 = 0) (
    xri (-1) m1) (
    bV (f0_keep 0 m1) fun m3 =>
    bV (f8_openGap 0 m3) fun m4 =>
    xri (rI m4 8 0 6) m4)
set_option maxRecDepth 100000 in
theorem q11_ask (n : Nat) (μ : XM) : xrun t11_ask e11_ask (xrtk (some .int)) 23 n (xlo [xr 11 0 0] 1) μ = k11_ask  μ := rfl
theorem x11_ask : ∃ f : XM → XR, ∀ (μ : XM), f μ = k11_ask  μ := ⟨fun μ => k11_ask  μ, fun μ => rfl⟩
noncomputable def f11_ask : XM → XR := Classical.choose x11_ask
theorem f11_ask_e (μ : XM) : f11_ask μ = k11_ask  μ := Classical.choose_spec x11_ask μ
noncomputable def F11_ask : XF := fun av μ => match av with
  | [.inr (.inr (some (t0, i0, 0)))] => bif Nat.beq t0 11 && Nat.beq i0 0 then f11_ask  μ else none
  | _ => none
set_option maxRecDepth 100000 in
theorem c11_ask {X : XP} (hX : XOK X) (l : Launch) : Ctr X l y11_ask prog_1_method_10_code 1 (some .int) (xrm 3) 0 0 F11_ask :=
  Ctr_of (tab := t11_ask) (env := e11_ask) (K := 23) (N := 20000) (fl := fl11) (cl := cl11) (ll := ll11) (jl := jl11) hX mf11_ask.2.2.2 ⟨by decide +kernel, flk11, clk11, llk11, jlk11⟩
   (List.forall_mem_cons.mpr ⟨xcal_v (na := 0) (c8_canAsk hX l) mf8_canAsk ⟨rfl, rfl⟩ ml11_190 mi8_canAsk me8_canAsk (xrm_ok (by omega) (by decide)) rfl (by decide) (by decide +kernel), List.forall_mem_cons.mpr ⟨xcal_v (na := 1) (c0_keep hX l) mf0_keep ⟨rfl, rfl⟩ ml11_182 mi0_keep me0_keep (xrm_ok (by omega) (by decide)) rfl (by decide) (by decide +kernel), List.forall_mem_cons.mpr ⟨xcal_v (na := 0) (c8_openGap hX l) mf8_openGap ⟨rfl, rfl⟩ ml11_194 mi8_openGap me8_openGap (xrm_ok (by omega) (by decide)) rfl (by decide) (by decide +kernel), fun _ h => absurd h List.not_mem_nil⟩⟩⟩)
   (xrm_1 (by decide)) ⟨_, _, rfl, rfl⟩ (fun av μ r μ' h => by
    unfold F11_ask at h
    split at h
    · replace h := cond_inv h; obtain ⟨hb, h⟩ := h
      simp only [Bool.and_eq_true] at hb
      obtain ⟨g0, g1⟩ := hb
      obtain rfl := Nat.eq_of_beq_eq_true g0
      obtain rfl := Nat.eq_of_beq_eq_true g1
      exact ⟨Nat.le_of_ble_eq_true rfl, (q11_ask _  _).trans ((f11_ask_e  _).symm.trans h)⟩
    · cases h)
def t11_stop : List XE := [(0, .aload_n 0, 0, 0, 0, 0, []),
  (1, .getfield 47, 11, 5, 0, 0, []),
  (4, .iload_n 1, 1, 0, 0, 0, []),
  (5, .invokevirtual 200, 2, 8, 0, 0, []),
  (8, .ifCond .ne 5, 13, 0, 0, 0, []),
  (11, .iconst (-1), 0, 0, (-1), 0, []),
  (12, .ireturn, 0, 0, 0, 0, []),
  (13, .aload_n 0, 0, 0, 0, 0, []),
  (14, .getfield 57, 11, 7, 0, 0, []),
  (17, .aload_n 0, 0, 0, 0, 0, []),
  (18, .getfield 47, 11, 5, 0, 0, []),
  (21, .invokevirtual 182, 2, 0, 0, 0, []),
  (24, .aload_n 0, 0, 0, 0, 0, []),
  (25, .getfield 47, 11, 5, 0, 0, []),
  (28, .iload_n 1, 1, 0, 0, 0, []),
  (29, .invokevirtual 203, 2, 8, 0, 0, []),
  (32, .aload_n 0, 0, 0, 0, 0, []),
  (33, .getfield 47, 11, 5, 0, 0, []),
  (36, .getfield 197, 8, 6, 0, 0, []),
  (39, .ireturn, 0, 0, 0, 0, [])]
noncomputable def e11_stop : XN := [(200, 1, 2, 8, F8_canStop), (182, 0, 2, 0, F0_keep), (203, 0, 2, 8, F8_closeGap)]
noncomputable def k11_stop (p1 : Int32) (μ : XM) : XR :=
  bI (f8_canStop 0 p1 μ) fun r2 m1 =>
  xite (r2 = 0) (
    xri (-1) m1) (
    bV (f0_keep 0 m1) fun m3 =>
    bV (f8_closeGap 0 p1 m3) fun m4 =>
    xri (rI m4 8 0 6) m4)
set_option maxRecDepth 100000 in
theorem q11_stop (n : Nat) (p1 : Int32) (μ : XM) : xrun t11_stop e11_stop (xrtk (some .int)) 25 n (xlo [xr 11 0 0, xi p1] 2) μ = k11_stop p1 μ := rfl
theorem x11_stop : ∃ f : Int32 → XM → XR, ∀ (p1 : Int32) (μ : XM), f p1 μ = k11_stop p1 μ := ⟨fun p1 μ => k11_stop p1 μ, fun p1 μ => rfl⟩
noncomputable def f11_stop : Int32 → XM → XR := Classical.choose x11_stop
theorem f11_stop_e (p1 : Int32) (μ : XM) : f11_stop p1 μ = k11_stop p1 μ := Classical.choose_spec x11_stop p1 μ
noncomputable def F11_stop : XF := fun av μ => match av with
  | [.inr (.inr (some (t0, i0, 0))), .inl p1] => bif Nat.beq t0 11 && Nat.beq i0 0 then f11_stop p1 μ else none
  | _ => none
set_option maxRecDepth 100000 in
theorem c11_stop {X : XP} (hX : XOK X) (l : Launch) : Ctr X l y11_stop prog_1_method_11_code 2 (some .int) (xrm 4) 0 0 F11_stop :=
  Ctr_of (tab := t11_stop) (env := e11_stop) (K := 25) (N := 20000) (fl := fl11) (cl := cl11) (ll := ll11) (jl := jl11) hX mf11_stop.2.2.2 ⟨by decide +kernel, flk11, clk11, llk11, jlk11⟩
   (List.forall_mem_cons.mpr ⟨xcal_v (na := 1) (c8_canStop hX l) mf8_canStop ⟨rfl, rfl⟩ ml11_200 mi8_canStop me8_canStop (xrm_ok (by omega) (by decide)) rfl (by decide) (by decide +kernel), List.forall_mem_cons.mpr ⟨xcal_v (na := 1) (c0_keep hX l) mf0_keep ⟨rfl, rfl⟩ ml11_182 mi0_keep me0_keep (xrm_ok (by omega) (by decide)) rfl (by decide) (by decide +kernel), List.forall_mem_cons.mpr ⟨xcal_v (na := 1) (c8_closeGap hX l) mf8_closeGap ⟨rfl, rfl⟩ ml11_203 mi8_closeGap me8_closeGap (xrm_ok (by omega) (by decide)) rfl (by decide) (by decide +kernel), fun _ h => absurd h List.not_mem_nil⟩⟩⟩)
   (xrm_1 (by decide)) ⟨_, _, rfl, rfl⟩ (fun av μ r μ' h => by
    unfold F11_stop at h
    split at h
    · replace h := cond_inv h; obtain ⟨hb, h⟩ := h
      simp only [Bool.and_eq_true] at hb
      obtain ⟨g0, g1⟩ := hb
      obtain rfl := Nat.eq_of_beq_eq_true g0
      obtain rfl := Nat.eq_of_beq_eq_true g1
      exact ⟨Nat.le_of_ble_eq_true rfl, (q11_stop _ _ _).trans ((f11_stop_e _ _).symm.trans h)⟩
    · cases h)
def t11_minute : List XE := [(0, .aload_n 0, 0, 0, 0, 0, []),
  (1, .getfield 57, 11, 7, 0, 0, []),
  (4, .aload_n 0, 0, 0, 0, 0, []),
  (5, .getfield 47, 11, 5, 0, 0, []),
  (8, .invokevirtual 182, 2, 0, 0, 0, []),
  (11, .aload_n 0, 0, 0, 0, 0, []),
  (12, .getfield 47, 11, 5, 0, 0, []),
  (15, .invokevirtual 207, 1, 8, 0, 0, []),
  (18, .ireturn, 0, 0, 0, 0, [])]
noncomputable def e11_minute : XN := [(182, 0, 2, 0, F0_keep), (207, 1, 1, 8, F8_pass)]
noncomputable def k11_minute (μ : XM) : XR :=
  bV (f0_keep 0 μ) fun m1 =>
  bI (f8_pass 0 m1) fun r3 m2 =>
  xri r3 m2
set_option maxRecDepth 100000 in
theorem q11_minute (n : Nat) (μ : XM) : xrun t11_minute e11_minute (xrtk (some .int)) 14 n (xlo [xr 11 0 0] 1) μ = k11_minute  μ := rfl
theorem x11_minute : ∃ f : XM → XR, ∀ (μ : XM), f μ = k11_minute  μ := ⟨fun μ => k11_minute  μ, fun μ => rfl⟩
noncomputable def f11_minute : XM → XR := Classical.choose x11_minute
theorem f11_minute_e (μ : XM) : f11_minute μ = k11_minute  μ := Classical.choose_spec x11_minute μ
noncomputable def F11_minute : XF := fun av μ => match av with
  | [.inr (.inr (some (t0, i0, 0)))] => bif Nat.beq t0 11 && Nat.beq i0 0 then f11_minute  μ else none
  | _ => none
set_option maxRecDepth 100000 in
theorem c11_minute {X : XP} (hX : XOK X) (l : Launch) : Ctr X l y11_minute prog_1_method_12_code 1 (some .int) (xrm 5) 0 0 F11_minute :=
  Ctr_of (tab := t11_minute) (env := e11_minute) (K := 14) (N := 20000) (fl := fl11) (cl := cl11) (ll := ll11) (jl := jl11) hX mf11_minute.2.2.2 ⟨by decide +kernel, flk11, clk11, llk11, jlk11⟩
   (List.forall_mem_cons.mpr ⟨xcal_v (na := 1) (c0_keep hX l) mf0_keep ⟨rfl, rfl⟩ ml11_182 mi0_keep me0_keep (xrm_ok (by omega) (by decide)) rfl (by decide) (by decide +kernel), List.forall_mem_cons.mpr ⟨xcal_v (na := 0) (c8_pass hX l) mf8_pass ⟨rfl, rfl⟩ ml11_207 mi8_pass me8_pass (xrm_ok (by omega) (by decide)) rfl (by decide) (by decide +kernel), fun _ h => absurd h List.not_mem_nil⟩⟩)
   (xrm_1 (by decide)) ⟨_, _, rfl, rfl⟩ (fun av μ r μ' h => by
    unfold F11_minute at h
    split at h
    · replace h := cond_inv h; obtain ⟨hb, h⟩ := h
      simp only [Bool.and_eq_true] at hb
      obtain ⟨g0, g1⟩ := hb
      obtain rfl := Nat.eq_of_beq_eq_true g0
      obtain rfl := Nat.eq_of_beq_eq_true g1
      exact ⟨Nat.le_of_ble_eq_true rfl, (q11_minute _  _).trans ((f11_minute_e  _).symm.trans h)⟩
    · cases h)
