def t11_balls : List XE := [(0, .iload_n 1, 1, 0, 0, 0, []),
  (1, .ifCond .lt 30, 31, 0, 0, 0, []),
  (4, .iload_n 1, 1, 0, 0, 0, []),
  (5, .sipush 9999, 0, 0, 9999, 0, []),
  (8, .if_icmp .gt 23, 31, 0, 0, 0, []),
  (11, .iload_n 2, 2, 0, 0, 0, []),
  (12, .iconst 1, 0, 0, 1, 0, []),
  (13, .if_icmp .lt 18, 31, 0, 0, 0, []),
  (16, .iload_n 2, 2, 0, 0, 0, []),
  (17, .bipush 99, 0, 0, 99, 0, []),
  (19, .if_icmp .gt 12, 31, 0, 0, 0, []),
  (22, .iload_n 3, 3, 0, 0, 0, []),
  (23, .ifCond .lt 8, 31, 0, 0, 0, []),
  (26, .iload_n 3, 3, 0, 0, 0, []),
  (27, .iconst 2, 0, 0, 2, 0, []),
  (28, .if_icmp .le 5, 33, 0, 0, 0, []),
  (31, .iconst (-1), 0, 0, (-1), 0, []),
  (32, .ireturn, 0, 0, 0, 0, []),
  (33, .aload_n 0, 0, 0, 0, 0, []),
  (34, .iload_n 1, 1, 0, 0, 0, []),
  (35, .iload_n 2, 2, 0, 0, 0, []),
  (36, .invokevirtual 338, 3, 11, 0, 0, []),
  (39, .istore 4, 4, 0, 0, 0, []),
  (41, .iload_n 3, 3, 0, 0, 0, []),
  (42, .ifCond .ne 6, 48, 0, 0, 0, []),
  (45, .iload 4, 4, 0, 0, 0, []),
  (47, .ireturn, 0, 0, 0, 0, []),
  (48, .aload_n 0, 0, 0, 0, 0, []),
  (49, .getfield 51, 11, 6, 0, 0, []),
  (52, .iload_n 3, 3, 0, 0, 0, []),
  (53, .iconst 1, 0, 0, 1, 0, []),
  (54, .if_icmp .ne 7, 61, 0, 0, 0, []),
  (57, .iconst 2, 0, 0, 2, 0, []),
  (58, .goto 4, 62, 0, 0, 0, []),
  (61, .iconst 1, 0, 0, 1, 0, []),
  (62, .invokevirtual 249, 2, 8, 0, 0, []),
  (65, .ireturn, 0, 0, 0, 0, [])]
noncomputable def e11_balls : XN := [(338, 1, 3, 11, F11_playBalls), (249, 1, 2, 8, F8_whoIs)]
noncomputable def k11_balls (p1 : Int32) (p2 : Int32) (p3 : Int32) (μ : XM) : XR :=
  xite (p1 < 0) (
    xri (-1) μ) (
    xite ((9999 : Int32) < p1) (
      xri (-1) μ) (
      xite (p2 < 1) (
        xri (-1) μ) (
        xite ((99 : Int32) < p2) (
          xri (-1) μ) (
          xite (p3 < 0) (
            xri (-1) μ) (
            xite ((2 : Int32) < p3) (
              xri (-1) μ) (
              bI (f11_playBalls p1 p2 μ) fun r2 m1 =>
              vI r2 fun x3 =>
              xite (p3 = 0) (
                xri x3 m1) (
                xite (p3 = 1) (
                  bI (f8_whoIs 1 2 m1) fun r5 m4 =>
                  xri r5 m4) (
                  bI (f8_whoIs 1 1 m1) fun r7 m6 =>
                  xri r7 m6))))))))
set_option maxRecDepth 100000 in
theorem q11_balls (n : Nat) (p1 : Int32) (p2 : Int32) (p3 : Int32) (μ : XM) : xrun t11_balls e11_balls (xrtk (some .int)) 42 n (xlo [xr 11 0 0, xi p1, xi p2, xi p3] 5) μ = k11_balls p1 p2 p3 μ := rfl
theorem x11_balls : ∃ f : Int32 → Int32 → Int32 → XM → XR, ∀ (p1 : Int32) (p2 : Int32) (p3 : Int32) (μ : XM), f p1 p2 p3 μ = k11_balls p1 p2 p3 μ := ⟨fun p1 p2 p3 μ => k11_balls p1 p2 p3 μ, fun p1 p2 p3 μ => rfl⟩
noncomputable def f11_balls : Int32 → Int32 → Int32 → XM → XR := Classical.choose x11_balls
theorem f11_balls_e (p1 : Int32) (p2 : Int32) (p3 : Int32) (μ : XM) : f11_balls p1 p2 p3 μ = k11_balls p1 p2 p3 μ := Classical.choose_spec x11_balls p1 p2 p3 μ
noncomputable def F11_balls : XF := fun av μ => match av with
  | [.inr (.inr (some (t0, i0, 0))), .inl p1, .inl p2, .inl p3] => bif Nat.beq t0 11 && Nat.beq i0 0 then f11_balls p1 p2 p3 μ else none
  | _ => none
set_option maxRecDepth 100000 in
theorem c11_balls {X : XP} (hX : XOK X) (l : Launch) : Ctr X l y11_balls prog_1_method_53_code 5 (some .int) (xrm 7) 0 0 F11_balls :=
  Ctr_of (tab := t11_balls) (env := e11_balls) (K := 42) (N := 20000) (fl := fl11) (cl := cl11) (ll := ll11) (jl := jl11) hX mf11_balls.2.2.2 ⟨by decide +kernel, flk11, clk11, llk11, jlk11⟩
   (List.forall_mem_cons.mpr ⟨xcal_v (na := 2) (c11_playBalls hX l) mf11_playBalls ⟨rfl, rfl⟩ ml11_338 mi11_playBalls me11_playBalls (xrm_ok (by omega) (by decide)) rfl (by decide) (by decide +kernel), List.forall_mem_cons.mpr ⟨xcal_v (na := 1) (c8_whoIs hX l) mf8_whoIs ⟨rfl, rfl⟩ ml11_249 mi8_whoIs me8_whoIs (xrm_ok (by omega) (by decide)) rfl (by decide) (by decide +kernel), fun _ h => absurd h List.not_mem_nil⟩⟩)
   (xrm_1 (by decide)) ⟨_, _, rfl, rfl⟩ (fun av μ r μ' h => by
    unfold F11_balls at h
    split at h
    · replace h := cond_inv h; obtain ⟨hb, h⟩ := h
      simp only [Bool.and_eq_true] at hb
      obtain ⟨g0, g1⟩ := hb
      obtain rfl := Nat.eq_of_beq_eq_true g0
      obtain rfl := Nat.eq_of_beq_eq_true g1
      exact ⟨Nat.le_of_ble_eq_true rfl, (q11_balls _ _ _ _ _).trans ((f11_balls_e _ _ _ _).symm.trans h)⟩
    · cases h)
def t11_mark : List XE := [(0, .iload_n 1, 1, 0, 0, 0, []),
  (1, .ifCond .lt 21, 22, 0, 0, 0, []),
  (4, .iload_n 1, 1, 0, 0, 0, []),
  (5, .aload_n 0, 0, 0, 0, 0, []),
  (6, .getfield 63, 11, 8, 0, 0, []),
  (9, .arraylength, 0, 0, 0, 0, []),
  (10, .if_icmp .ge 12, 22, 0, 0, 0, []),
  (13, .aload_n 0, 0, 0, 0, 0, []),
  (14, .getfield 63, 11, 8, 0, 0, []),
  (17, .iload_n 1, 1, 0, 0, 0, []),
  (18, .aaload, 0, 0, 0, 0, []),
  (19, .goto 4, 23, 0, 0, 0, []),
  (22, .nop, 5, 0, 0, 0, []),
  (22, .aconst_null, 0, 0, 0, 0, []),
  (23, .astore_n 3, 3, 0, 0, 0, []),
  (24, .aload_n 3, 3, 0, 0, 0, []),
  (25, .ifnonnull 5, 30, 0, 0, 0, []),
  (28, .iconst 0, 0, 0, 0, 0, []),
  (29, .ireturn, 0, 0, 0, 0, []),
  (30, .iload_n 2, 2, 0, 0, 0, []),
  (31, .ifCond .ne 17, 48, 0, 0, 0, []),
  (34, .aload_n 3, 3, 0, 0, 0, []),
  (35, .aload_n 0, 0, 0, 0, 0, []),
  (36, .getfield 47, 11, 5, 0, 0, []),
  (39, .aload_n 0, 0, 0, 0, 0, []),
  (40, .getfield 71, 11, 9, 0, 0, []),
  (43, .invokevirtual 361, 3, 5, 0, 0, []),
  (46, .iconst 1, 0, 0, 1, 0, []),
  (47, .ireturn, 0, 0, 0, 0, []),
  (48, .aload_n 3, 3, 0, 0, 0, []),
  (49, .aload_n 0, 0, 0, 0, 0, []),
  (50, .getfield 47, 11, 5, 0, 0, []),
  (53, .aload_n 0, 0, 0, 0, 0, []),
  (54, .getfield 71, 11, 9, 0, 0, []),
  (57, .invokevirtual 365, 3, 5, 0, 0, []),
  (60, .ifCond .ne 5, 65, 0, 0, 0, []),
  (63, .iconst 0, 0, 0, 0, 0, []),
  (64, .ireturn, 0, 0, 0, 0, []),
  (65, .aload_n 0, 0, 0, 0, 0, []),
  (66, .getfield 57, 11, 7, 0, 0, []),
  (69, .invokevirtual 117, 1, 0, 0, 0, []),
  (72, .iconst 1, 0, 0, 1, 0, []),
  (73, .ireturn, 0, 0, 0, 0, [])]
noncomputable def e11_mark : XN := [(361, 0, 3, 5, F5_lay), (365, 1, 3, 5, F5_bringBack), (117, 0, 1, 0, F0_clear)]
noncomputable def h11_mark_22 (n : Nat) (v2 : Int32) (μ : XM) : XR := arr t11_mark e11_mark 2 48 n 22 [some (xr 11 0 0), none, some (xi v2), none] [] μ
set_option maxRecDepth 100000 in
theorem h11_mark_22_s (n : Nat) (v2 : Int32) (μ : XM) : h11_mark_22 (n + 1) v2 μ = (
  xrb 0 μ) := rfl
theorem h11_mark_22_0 (v2 : Int32) (μ : XM) : h11_mark_22 0 v2 μ = none := rfl
noncomputable def k11_mark (n : Nat) (p1 : Int32) (p2 : Int32) (μ : XM) : XR :=
  xite (p1 < 0) (
    h11_mark_22 n p2 μ) (
    xite (p1 < (nI 4)) (
      xck (xin p1 4) <|
      xite (p2 = 0) (
        bV (f5_lay (Int32.toNatClampNeg p1) 0 0 μ) fun m1 =>
        xrb 1 m1) (
        bI (f5_bringBack (Int32.toNatClampNeg p1) 0 0 μ) fun r3 m2 =>
        xite (r3 = 0) (
          xrb 0 m2) (
          bV (f0_clear m2) fun m4 =>
          xrb 1 m4))) (
      h11_mark_22 n p2 μ))
set_option maxRecDepth 100000 in
theorem q11_mark (n : Nat) (p1 : Int32) (p2 : Int32) (μ : XM) : xrun t11_mark e11_mark (xrtk (some .boolean)) 48 n (xlo [xr 11 0 0, xi p1, xi p2] 4) μ = k11_mark n p1 p2 μ := rfl
theorem x11_mark : ∃ f : Int32 → Int32 → XM → XR, ∀ (p1 : Int32) (p2 : Int32) (μ : XM), f p1 p2 μ = k11_mark 20000 p1 p2 μ := ⟨fun p1 p2 μ => k11_mark 20000 p1 p2 μ, fun p1 p2 μ => rfl⟩
noncomputable def f11_mark : Int32 → Int32 → XM → XR := Classical.choose x11_mark
theorem f11_mark_e (p1 : Int32) (p2 : Int32) (μ : XM) : f11_mark p1 p2 μ = k11_mark 20000 p1 p2 μ := Classical.choose_spec x11_mark p1 p2 μ
noncomputable def F11_mark : XF := fun av μ => match av with
  | [.inr (.inr (some (t0, i0, 0))), .inl p1, .inl p2] => bif Nat.beq t0 11 && Nat.beq i0 0 then f11_mark p1 p2 μ else none
  | _ => none
set_option maxRecDepth 100000 in
theorem c11_mark {X : XP} (hX : XOK X) (l : Launch) : Ctr X l y11_mark prog_1_method_58_code 4 (some .boolean) (xrm 3) 0 0 F11_mark :=
  Ctr_of (tab := t11_mark) (env := e11_mark) (K := 48) (N := 20000) (fl := fl11) (cl := cl11) (ll := ll11) (jl := jl11) hX mf11_mark.2.2.2 ⟨by decide +kernel, flk11, clk11, llk11, jlk11⟩
   (List.forall_mem_cons.mpr ⟨xcal_v (na := 2) (c5_lay hX l) mf5_lay ⟨rfl, rfl⟩ ml11_361 mi5_lay me5_lay (xrm_ok (by omega) (by decide)) rfl (by decide) (by decide +kernel), List.forall_mem_cons.mpr ⟨xcal_v (na := 2) (c5_bringBack hX l) mf5_bringBack ⟨rfl, rfl⟩ ml11_365 mi5_bringBack me5_bringBack (xrm_ok (by omega) (by decide)) rfl (by decide) (by decide +kernel), List.forall_mem_cons.mpr ⟨xcal_v (na := 0) (c0_clear hX l) mf0_clear ⟨rfl, rfl⟩ ml11_117 mi0_clear me0_clear (xrm_ok (by omega) (by decide)) rfl (by decide) (by decide +kernel), fun _ h => absurd h List.not_mem_nil⟩⟩⟩)
   (xrm_1 (by decide)) ⟨_, _, rfl, rfl⟩ (fun av μ r μ' h => by
    unfold F11_mark at h
    split at h
    · replace h := cond_inv h; obtain ⟨hb, h⟩ := h
      simp only [Bool.and_eq_true] at hb
      obtain ⟨g0, g1⟩ := hb
      obtain rfl := Nat.eq_of_beq_eq_true g0
      obtain rfl := Nat.eq_of_beq_eq_true g1
      exact ⟨Nat.le_of_ble_eq_true rfl, (q11_mark _ _ _ _).trans ((f11_mark_e _ _ _).symm.trans h)⟩
    · cases h)
def t11_count : List XE := [(0, .iload_n 1, 1, 0, 0, 0, []),
  (1, .tableswitch 186 0 13 #[71, 79, 87, 95, 103, 111, 119, 128, 137, 146, 154, 162, 170, 178], 187, 0, 0, 0, [(0, 72), (1, 80), (2, 88), (3, 96), (4, 104), (5, 112), (6, 120), (7, 129), (8, 138), (9, 147), (10, 155), (11, 163), (12, 171), (13, 179)]),
  (72, .aload_n 0, 0, 0, 0, 0, []),
  (73, .getfield 19, 11, 1, 0, 0, []),
  (76, .getfield 218, 2, 0, 0, 0, []),
  (79, .ireturn, 0, 0, 0, 0, []),
  (80, .aload_n 0, 0, 0, 0, 0, []),
  (81, .getfield 19, 11, 1, 0, 0, []),
  (84, .getfield 273, 2, 1, 0, 0, []),
  (87, .ireturn, 0, 0, 0, 0, []),
  (88, .aload_n 0, 0, 0, 0, 0, []),
  (89, .getfield 19, 11, 1, 0, 0, []),
  (92, .getfield 285, 2, 2, 0, 0, []),
  (95, .ireturn, 0, 0, 0, 0, []),
  (96, .aload_n 0, 0, 0, 0, 0, []),
  (97, .getfield 47, 11, 5, 0, 0, []),
  (100, .getfield 368, 8, 8, 0, 0, []),
  (103, .ireturn, 0, 0, 0, 0, []),
  (104, .aload_n 0, 0, 0, 0, 0, []),
  (105, .getfield 47, 11, 5, 0, 0, []),
  (108, .getfield 197, 8, 6, 0, 0, []),
  (111, .ireturn, 0, 0, 0, 0, []),
  (112, .aload_n 0, 0, 0, 0, 0, []),
  (113, .getfield 47, 11, 5, 0, 0, []),
  (116, .getfield 230, 8, 7, 0, 0, []),
  (119, .ireturn, 0, 0, 0, 0, []),
  (120, .aload_n 0, 0, 0, 0, 0, []),
  (121, .getfield 47, 11, 5, 0, 0, []),
  (124, .iconst 0, 0, 0, 0, 0, []),
  (125, .invokevirtual 249, 2, 8, 0, 0, []),
  (128, .ireturn, 0, 0, 0, 0, []),
  (129, .aload_n 0, 0, 0, 0, 0, []),
  (130, .getfield 47, 11, 5, 0, 0, []),
  (133, .iconst 1, 0, 0, 1, 0, []),
  (134, .invokevirtual 249, 2, 8, 0, 0, []),
  (137, .ireturn, 0, 0, 0, 0, []),
  (138, .aload_n 0, 0, 0, 0, 0, []),
  (139, .getfield 47, 11, 5, 0, 0, []),
  (142, .iconst 2, 0, 0, 2, 0, []),
  (143, .invokevirtual 249, 2, 8, 0, 0, []),
  (146, .ireturn, 0, 0, 0, 0, []),
  (147, .aload_n 0, 0, 0, 0, 0, []),
  (148, .getfield 47, 11, 5, 0, 0, []),
  (151, .invokevirtual 371, 1, 8, 0, 0, []),
  (154, .ireturn, 0, 0, 0, 0, []),
  (155, .aload_n 0, 0, 0, 0, 0, []),
  (156, .getfield 35, 11, 3, 0, 0, []),
  (159, .getfield 374, 1, 0, 0, 0, []),
  (162, .ireturn, 0, 0, 0, 0, []),
  (163, .aload_n 0, 0, 0, 0, 0, []),
  (164, .getfield 71, 11, 9, 0, 0, []),
  (167, .getfield 377, 9, 0, 0, 0, []),
  (170, .ireturn, 0, 0, 0, 0, []),
  (171, .aload_n 0, 0, 0, 0, 0, []),
  (172, .getfield 57, 11, 7, 0, 0, []),
  (175, .getfield 380, 0, 2, 0, 0, []),
  (178, .ireturn, 0, 0, 0, 0, []),
  (179, .aload_n 0, 0, 0, 0, 0, []),
  (180, .getfield 10, 11, 0, 0, 0, []),
  (183, .getfield 95, 10, 1, 0, 0, []),
  (186, .ireturn, 0, 0, 0, 0, []),
  (187, .iconst (-1), 0, 0, (-1), 0, []),
  (188, .ireturn, 0, 0, 0, 0, [])]
noncomputable def e11_count : XN := [(249, 1, 2, 8, F8_whoIs), (371, 1, 1, 8, F8_wall)]
noncomputable def k11_count (p1 : Int32) (μ : XM) : XR :=
  xite (p1 = 0) (
    xri (rI μ 2 0 0) μ) (
  xite (p1 = 1) (
    xri (rI μ 2 0 1) μ) (
  xite (p1 = 2) (
    xri (rI μ 2 0 2) μ) (
  xite (p1 = 3) (
    xri (rI μ 8 0 8) μ) (
  xite (p1 = 4) (
    xri (rI μ 8 0 6) μ) (
  xite (p1 = 5) (
    xri (rI μ 8 0 7) μ) (
  xite (p1 = 6) (
    bI (f8_whoIs 0 0 μ) fun r2 m1 =>
    xri r2 m1) (
  xite (p1 = 7) (
    bI (f8_whoIs 0 1 μ) fun r4 m3 =>
    xri r4 m3) (
  xite (p1 = 8) (
    bI (f8_whoIs 0 2 μ) fun r6 m5 =>
    xri r6 m5) (
  xite (p1 = 9) (
    bI (f8_wall 0 μ) fun r8 m7 =>
    xri r8 m7) (
  xite (p1 = 10) (
    xri (rI μ 1 0 0) μ) (
  xite (p1 = 11) (
    xri (rI μ 9 0 0) μ) (
  xite (p1 = 12) (
    xri (rI μ 0 0 2) μ) (
  xite (p1 = 13) (
    xri (rI μ 10 0 1) μ) (
  xri (-1) μ))))))))))))))
set_option maxRecDepth 100000 in
theorem q11_count (n : Nat) (p1 : Int32) (μ : XM) : xrun t11_count e11_count (xrtk (some .int)) 68 n (xlo [xr 11 0 0, xi p1] 2) μ = k11_count p1 μ := rfl
theorem x11_count : ∃ f : Int32 → XM → XR, ∀ (p1 : Int32) (μ : XM), f p1 μ = k11_count p1 μ := ⟨fun p1 μ => k11_count p1 μ, fun p1 μ => rfl⟩
noncomputable def f11_count : Int32 → XM → XR := Classical.choose x11_count
theorem f11_count_e (p1 : Int32) (μ : XM) : f11_count p1 μ = k11_count p1 μ := Classical.choose_spec x11_count p1 μ
noncomputable def F11_count : XF := fun av μ => match av with
  | [.inr (.inr (some (t0, i0, 0))), .inl p1] => bif Nat.beq t0 11 && Nat.beq i0 0 then f11_count p1 μ else none
  | _ => none
set_option maxRecDepth 100000 in
theorem c11_count {X : XP} (hX : XOK X) (l : Launch) : Ctr X l y11_count prog_1_method_59_code 2 (some .int) (xrm 3) 0 0 F11_count :=
  Ctr_of (tab := t11_count) (env := e11_count) (K := 68) (N := 20000) (fl := fl11) (cl := cl11) (ll := ll11) (jl := jl11) hX mf11_count.2.2.2 ⟨by decide +kernel, flk11, clk11, llk11, jlk11⟩
   (List.forall_mem_cons.mpr ⟨xcal_v (na := 1) (c8_whoIs hX l) mf8_whoIs ⟨rfl, rfl⟩ ml11_249 mi8_whoIs me8_whoIs (xrm_ok (by omega) (by decide)) rfl (by decide) (by decide +kernel), List.forall_mem_cons.mpr ⟨xcal_v (na := 0) (c8_wall hX l) mf8_wall ⟨rfl, rfl⟩ ml11_371 mi8_wall me8_wall (xrm_ok (by omega) (by decide)) rfl (by decide) (by decide +kernel), fun _ h => absurd h List.not_mem_nil⟩⟩)
   (xrm_1 (by decide)) ⟨_, _, rfl, rfl⟩ (fun av μ r μ' h => by
    unfold F11_count at h
    split at h
    · replace h := cond_inv h; obtain ⟨hb, h⟩ := h
      simp only [Bool.and_eq_true] at hb
      obtain ⟨g0, g1⟩ := hb
      obtain rfl := Nat.eq_of_beq_eq_true g0
      obtain rfl := Nat.eq_of_beq_eq_true g1
      exact ⟨Nat.le_of_ble_eq_true rfl, (q11_count _ _ _).trans ((f11_count_e _ _).symm.trans h)⟩
    · cases h)
def t12_thrown : List XE := [(0, .aload_n 0, 0, 0, 0, 0, []),
  (1, .getfield 1, 12, 0, 0, 0, []),
  (4, .ireturn, 0, 0, 0, 0, [])]
noncomputable def e12_thrown : XN := []
noncomputable def k12_thrown (μ : XM) : XR :=
  xri (rI μ 12 0 0) μ
set_option maxRecDepth 100000 in
theorem q12_thrown (n : Nat) (μ : XM) : xrun t12_thrown e12_thrown (xrtk (some .int)) 8 n (xlo [xr 12 0 0] 1) μ = k12_thrown  μ := rfl
theorem x12_thrown : ∃ f : XM → XR, ∀ (μ : XM), f μ = k12_thrown  μ := ⟨fun μ => k12_thrown  μ, fun μ => rfl⟩
noncomputable def f12_thrown : XM → XR := Classical.choose x12_thrown
theorem f12_thrown_e (μ : XM) : f12_thrown μ = k12_thrown  μ := Classical.choose_spec x12_thrown μ
noncomputable def F12_thrown : XF := fun av μ => match av with
  | [.inr (.inr (some (t0, i0, 0)))] => bif Nat.beq t0 12 && Nat.beq i0 0 then f12_thrown  μ else none
  | _ => none
set_option maxRecDepth 100000 in
theorem c12_thrown {X : XP} (hX : XOK X) (l : Launch) : Ctr X l y12_thrown prog_14_method_1_code 1 (some .int) (xrm 1) 0 0 F12_thrown :=
  Ctr_of (tab := t12_thrown) (env := e12_thrown) (K := 8) (N := 20000) (fl := fl12) (cl := cl12) (ll := ll12) (jl := jl12) hX mf12_thrown.2.2.2 ⟨by decide +kernel, flk12, clk12, llk12, jlk12⟩
   (fun _ h => absurd h List.not_mem_nil)
   (xrm_1 (by decide)) ⟨_, _, rfl, rfl⟩ (fun av μ r μ' h => by
    unfold F12_thrown at h
    split at h
    · replace h := cond_inv h; obtain ⟨hb, h⟩ := h
      simp only [Bool.and_eq_true] at hb
      obtain ⟨g0, g1⟩ := hb
      obtain rfl := Nat.eq_of_beq_eq_true g0
      obtain rfl := Nat.eq_of_beq_eq_true g1
      exact ⟨Nat.le_of_ble_eq_true rfl, (q12_thrown _  _).trans ((f12_thrown_e  _).symm.trans h)⟩
    · cases h)
def t12_lay : List XE := [(0, .bipush 56, 0, 0, 56, 0, []),
  (2, .istore_n 3, 3, 0, 0, 0, []),
  (3, .nop, 11, 0, 0, 0, []),
  (3, .iload_n 3, 3, 0, 0, 0, []),
  (4, .ifCond .lt 71, 75, 0, 0, 0, []),
  (7, .lload_n 1, 1, 0, 0, 0, []),
  (8, .iload_n 3, 3, 0, 0, 0, []),
  (9, .lshr, 0, 0, 0, 0, []),
  (10, .l2i, 0, 0, 0, 0, []),
  (11, .sipush 255, 0, 0, 255, 0, []),
  (14, .iand, 0, 0, 0, 0, []),
  (15, .istore 4, 4, 0, 0, 0, []),
  (17, .iload 4, 4, 0, 0, 0, []),
  (19, .bipush 10, 0, 0, 10, 0, []),
  (21, .if_icmp .eq 17, 38, 0, 0, 0, []),
  (24, .iload 4, 4, 0, 0, 0, []),
  (26, .bipush 32, 0, 0, 32, 0, []),
  (28, .if_icmp .lt 41, 69, 0, 0, 0, []),
  (31, .iload 4, 4, 0, 0, 0, []),
  (33, .bipush 126, 0, 0, 126, 0, []),
  (35, .if_icmp .gt 34, 69, 0, 0, 0, []),
  (38, .nop, 27, 0, 0, 0, []),
  (38, .aload_n 0, 0, 0, 0, 0, []),
  (39, .getfield 11, 12, 2, 0, 0, []),
  (42, .sipush 1000, 0, 0, 1000, 0, []),
  (45, .if_icmp .ge 24, 69, 0, 0, 0, []),
  (48, .aload_n 0, 0, 0, 0, 0, []),
  (49, .getfield 14, 12, 1, 0, 0, []),
  (52, .aload_n 0, 0, 0, 0, 0, []),
  (53, .getfield 11, 12, 2, 0, 0, []),
  (56, .iload 4, 4, 0, 0, 0, []),
  (58, .iastore, 0, 0, 0, 0, []),
  (59, .aload_n 0, 0, 0, 0, 0, []),
  (60, .dup, 0, 0, 0, 0, []),
  (61, .getfield 11, 12, 2, 0, 0, []),
  (64, .iconst 1, 0, 0, 1, 0, []),
  (65, .iadd, 0, 0, 0, 0, []),
  (66, .putfield 11, 12, 2, 0, 0, []),
  (69, .iinc 3 (-8), 3, 0, (-8), 0, []),
  (72, .goto (-69), 3, 0, 0, 0, []),
  (75, .return_, 0, 0, 0, 0, [])]
noncomputable def e12_lay : XN := []
noncomputable def h12_lay_3 (n : Nat) (v1 : Int64) (v3 : Int32) (μ : XM) : XR := arr t12_lay e12_lay 0 46 n 3 [some (xr 12 0 0), some (xl v1), none, some (xi v3), none] [] μ
noncomputable def h12_lay_38 (n : Nat) (v1 : Int64) (v3 : Int32) (v4 : Int32) (μ : XM) : XR := arr t12_lay e12_lay 0 46 n 38 [some (xr 12 0 0), some (xl v1), none, some (xi v3), some (xi v4)] [] μ
set_option maxRecDepth 100000 in
theorem h12_lay_3_s (n : Nat) (v1 : Int64) (v3 : Int32) (μ : XM) : h12_lay_3 (n + 1) v1 v3 μ = (
  xite (v3 < 0) (
    xrv μ) (
    vI ((Int64.toInt32 (v1 >>> ((Int32.toInt64 v3) &&& 63))) &&& 255) fun x1 =>
    xite (x1 = 10) (
      h12_lay_38 n v1 v3 x1 μ) (
      xite (x1 < 32) (
        vI (v3 + (-8)) fun x2 =>
        h12_lay_3 n v1 x2 μ) (
        xite ((126 : Int32) < x1) (
          vI (v3 + (-8)) fun x3 =>
          h12_lay_3 n v1 x3 μ) (
          h12_lay_38 n v1 v3 x1 μ))))) := rfl
theorem h12_lay_3_0 (v1 : Int64) (v3 : Int32) (μ : XM) : h12_lay_3 0 v1 v3 μ = none := rfl
set_option maxRecDepth 100000 in
theorem h12_lay_38_s (n : Nat) (v1 : Int64) (v3 : Int32) (v4 : Int32) (μ : XM) : h12_lay_38 (n + 1) v1 v3 v4 μ = (
  xite ((rI μ 12 0 2) < 1000) (
    xck (xin (rI μ 12 0 2) 1000 && true) <|
    mS (pI μ 12 0 1 (Int32.toNatClampNeg (rI μ 12 0 2)) v4) fun m1 =>
    mS (sI m1 12 0 2 ((rI m1 12 0 2) + 1)) fun m2 =>
    vI (v3 + (-8)) fun x3 =>
    h12_lay_3 n v1 x3 m2) (
    vI (v3 + (-8)) fun x4 =>
    h12_lay_3 n v1 x4 μ)) := rfl
theorem h12_lay_38_0 (v1 : Int64) (v3 : Int32) (v4 : Int32) (μ : XM) : h12_lay_38 0 v1 v3 v4 μ = none := rfl
noncomputable def k12_lay (n : Nat) (p1 : Int64) (μ : XM) : XR :=
  vI 56 fun x1 =>
  h12_lay_3 n p1 x1 μ
set_option maxRecDepth 100000 in
theorem q12_lay (n : Nat) (p1 : Int64) (μ : XM) : xrun t12_lay e12_lay (xrtk none) 46 n (xlo [xr 12 0 0, xl p1] 5) μ = k12_lay n p1 μ := rfl
theorem x12_lay : ∃ f : Int64 → XM → XR, ∀ (p1 : Int64) (μ : XM), f p1 μ = k12_lay 20000 p1 μ := ⟨fun p1 μ => k12_lay 20000 p1 μ, fun p1 μ => rfl⟩
noncomputable def f12_lay : Int64 → XM → XR := Classical.choose x12_lay
theorem f12_lay_e (p1 : Int64) (μ : XM) : f12_lay p1 μ = k12_lay 20000 p1 μ := Classical.choose_spec x12_lay p1 μ
noncomputable def F12_lay : XF := fun av μ => match av with
  | [.inr (.inr (some (t0, i0, 0))), .inr (.inl p1)] => bif Nat.beq t0 12 && Nat.beq i0 0 then f12_lay p1 μ else none
  | _ => none
set_option maxRecDepth 100000 in
theorem c12_lay {X : XP} (hX : XOK X) (l : Launch) : Ctr X l y12_lay prog_14_method_3_code 5 none (xrm 1) 0 0 F12_lay :=
  Ctr_of (tab := t12_lay) (env := e12_lay) (K := 46) (N := 20000) (fl := fl12) (cl := cl12) (ll := ll12) (jl := jl12) hX mf12_lay.2.2.2 ⟨by decide +kernel, flk12, clk12, llk12, jlk12⟩
   (fun _ h => absurd h List.not_mem_nil)
   (xrm_1 (by decide)) ⟨_, _, rfl, rfl⟩ (fun av μ r μ' h => by
    unfold F12_lay at h
    split at h
    · replace h := cond_inv h; obtain ⟨hb, h⟩ := h
      simp only [Bool.and_eq_true] at hb
      obtain ⟨g0, g1⟩ := hb
      obtain rfl := Nat.eq_of_beq_eq_true g0
      obtain rfl := Nat.eq_of_beq_eq_true g1
      exact ⟨Nat.le_of_ble_eq_true rfl, (q12_lay _ _ _).trans ((f12_lay_e _ _).symm.trans h)⟩
    · cases h)
def t12_feed : List XE := [(0, .aload_n 0, 0, 0, 0, 0, []),
  (1, .iconst 0, 0, 0, 0, 0, []),
  (2, .putfield 1, 12, 0, 0, 0, []),
  (5, .aload_n 0, 0, 0, 0, 0, []),
  (6, .lload_n 1, 1, 0, 0, 0, []),
  (7, .invokevirtual 7, 2, 12, 0, 0, []),
  (10, .aload_n 0, 0, 0, 0, 0, []),
  (11, .lload_n 3, 3, 0, 0, 0, []),
  (12, .invokevirtual 7, 2, 12, 0, 0, []),
  (15, .aload_n 0, 0, 0, 0, 0, []),
  (16, .lload 5, 5, 0, 0, 0, []),
  (18, .invokevirtual 7, 2, 12, 0, 0, []),
  (21, .aload_n 0, 0, 0, 0, 0, []),
  (22, .getfield 11, 12, 2, 0, 0, []),
  (25, .ireturn, 0, 0, 0, 0, [])]
noncomputable def e12_feed : XN := [(7, 0, 2, 12, F12_lay)]
noncomputable def k12_feed (p1 : Int64) (p3 : Int64) (p5 : Int64) (μ : XM) : XR :=
  mS (sI μ 12 0 0 0) fun m1 =>
  bV (f12_lay p1 m1) fun m2 =>
  bV (f12_lay p3 m2) fun m3 =>
  bV (f12_lay p5 m3) fun m4 =>
  xri (rI m4 12 0 2) m4
set_option maxRecDepth 100000 in
theorem q12_feed (n : Nat) (p1 : Int64) (p3 : Int64) (p5 : Int64) (μ : XM) : xrun t12_feed e12_feed (xrtk (some .int)) 20 n (xlo [xr 12 0 0, xl p1, xl p3, xl p5] 7) μ = k12_feed p1 p3 p5 μ := rfl
theorem x12_feed : ∃ f : Int64 → Int64 → Int64 → XM → XR, ∀ (p1 : Int64) (p3 : Int64) (p5 : Int64) (μ : XM), f p1 p3 p5 μ = k12_feed p1 p3 p5 μ := ⟨fun p1 p3 p5 μ => k12_feed p1 p3 p5 μ, fun p1 p3 p5 μ => rfl⟩
noncomputable def f12_feed : Int64 → Int64 → Int64 → XM → XR := Classical.choose x12_feed
theorem f12_feed_e (p1 : Int64) (p3 : Int64) (p5 : Int64) (μ : XM) : f12_feed p1 p3 p5 μ = k12_feed p1 p3 p5 μ := Classical.choose_spec x12_feed p1 p3 p5 μ
noncomputable def F12_feed : XF := fun av μ => match av with
  | [.inr (.inr (some (t0, i0, 0))), .inr (.inl p1), .inr (.inl p3), .inr (.inl p5)] => bif Nat.beq t0 12 && Nat.beq i0 0 then f12_feed p1 p3 p5 μ else none
  | _ => none
set_option maxRecDepth 100000 in
theorem c12_feed {X : XP} (hX : XOK X) (l : Launch) : Ctr X l y12_feed prog_14_method_2_code 7 (some .int) (xrm 2) 0 0 F12_feed :=
  Ctr_of (tab := t12_feed) (env := e12_feed) (K := 20) (N := 20000) (fl := fl12) (cl := cl12) (ll := ll12) (jl := jl12) hX mf12_feed.2.2.2 ⟨by decide +kernel, flk12, clk12, llk12, jlk12⟩
   (List.forall_mem_cons.mpr ⟨xcal_v (na := 1) (c12_lay hX l) mf12_lay ⟨rfl, rfl⟩ ml12_7 mi12_lay me12_lay (xrm_ok (by omega) (by decide)) rfl (by decide) (by decide +kernel), fun _ h => absurd h List.not_mem_nil⟩)
   (xrm_1 (by decide)) ⟨_, _, rfl, rfl⟩ (fun av μ r μ' h => by
    unfold F12_feed at h
    split at h
    · replace h := cond_inv h; obtain ⟨hb, h⟩ := h
      simp only [Bool.and_eq_true] at hb
      obtain ⟨g0, g1⟩ := hb
      obtain rfl := Nat.eq_of_beq_eq_true g0
      obtain rfl := Nat.eq_of_beq_eq_true g1
      exact ⟨Nat.le_of_ble_eq_true rfl, (q12_feed _ _ _ _ _).trans ((f12_feed_e _ _ _ _).symm.trans h)⟩
    · cases h)
def t12_isLetter : List XE := [(0, .iload_n 0, 0, 0, 0, 0, []),
  (1, .bipush 97, 0, 0, 97, 0, []),
  (3, .if_icmp .lt 13, 16, 0, 0, 0, []),
  (6, .iload_n 0, 0, 0, 0, 0, []),
  (7, .bipush 122, 0, 0, 122, 0, []),
  (9, .if_icmp .gt 7, 16, 0, 0, 0, []),
  (12, .iconst 1, 0, 0, 1, 0, []),
  (13, .goto 4, 17, 0, 0, 0, []),
  (16, .iconst 0, 0, 0, 0, 0, []),
  (17, .ireturn, 0, 0, 0, 0, [])]
noncomputable def e12_isLetter : XN := []
noncomputable def k12_isLetter (p0 : Int32) (μ : XM) : XR :=
  xite (p0 < 97) (
    xrb 0 μ) (
    xite ((122 : Int32) < p0) (
      xrb 0 μ) (
      xrb 1 μ))
set_option maxRecDepth 100000 in
theorem q12_isLetter (n : Nat) (p0 : Int32) (μ : XM) : xrun t12_isLetter e12_isLetter (xrtk (some .boolean)) 15 n (xlo [xi p0] 1) μ = k12_isLetter p0 μ := rfl
theorem x12_isLetter : ∃ f : Int32 → XM → XR, ∀ (p0 : Int32) (μ : XM), f p0 μ = k12_isLetter p0 μ := ⟨fun p0 μ => k12_isLetter p0 μ, fun p0 μ => rfl⟩
noncomputable def f12_isLetter : Int32 → XM → XR := Classical.choose x12_isLetter
theorem f12_isLetter_e (p0 : Int32) (μ : XM) : f12_isLetter p0 μ = k12_isLetter p0 μ := Classical.choose_spec x12_isLetter p0 μ
noncomputable def F12_isLetter : XF := fun av μ => match av with
  | [.inl p0] => f12_isLetter p0 μ
  | _ => none
set_option maxRecDepth 100000 in
theorem c12_isLetter {X : XP} (hX : XOK X) (l : Launch) : Ctr X l y12_isLetter prog_14_method_5_code 1 (some .boolean) (xrm 1) 0 0 F12_isLetter :=
  Ctr_of (tab := t12_isLetter) (env := e12_isLetter) (K := 15) (N := 20000) (fl := fl12) (cl := cl12) (ll := ll12) (jl := jl12) hX mf12_isLetter.2.2.2 ⟨by decide +kernel, flk12, clk12, llk12, jlk12⟩
   (fun _ h => absurd h List.not_mem_nil)
   (xrm_1 (by decide)) ⟨_, _, rfl, rfl⟩ (fun av μ r μ' h => by
    unfold F12_isLetter at h
    split at h
    · exact ⟨Nat.le_of_ble_eq_true rfl, (q12_isLetter _ _ _).trans ((f12_isLetter_e _ _).symm.trans h)⟩
    · cases h)
def t12_isDigit : List XE := [(0, .iload_n 0, 0, 0, 0, 0, []),
  (1, .bipush 48, 0, 0, 48, 0, []),
  (3, .if_icmp .lt 13, 16, 0, 0, 0, []),
  (6, .iload_n 0, 0, 0, 0, 0, []),
  (7, .bipush 57, 0, 0, 57, 0, []),
  (9, .if_icmp .gt 7, 16, 0, 0, 0, []),
  (12, .iconst 1, 0, 0, 1, 0, []),
  (13, .goto 4, 17, 0, 0, 0, []),
  (16, .iconst 0, 0, 0, 0, 0, []),
  (17, .ireturn, 0, 0, 0, 0, [])]
noncomputable def e12_isDigit : XN := []
noncomputable def k12_isDigit (p0 : Int32) (μ : XM) : XR :=
  xite (p0 < 48) (
    xrb 0 μ) (
    xite ((57 : Int32) < p0) (
      xrb 0 μ) (
      xrb 1 μ))
set_option maxRecDepth 100000 in
theorem q12_isDigit (n : Nat) (p0 : Int32) (μ : XM) : xrun t12_isDigit e12_isDigit (xrtk (some .boolean)) 15 n (xlo [xi p0] 1) μ = k12_isDigit p0 μ := rfl
theorem x12_isDigit : ∃ f : Int32 → XM → XR, ∀ (p0 : Int32) (μ : XM), f p0 μ = k12_isDigit p0 μ := ⟨fun p0 μ => k12_isDigit p0 μ, fun p0 μ => rfl⟩
noncomputable def f12_isDigit : Int32 → XM → XR := Classical.choose x12_isDigit
theorem f12_isDigit_e (p0 : Int32) (μ : XM) : f12_isDigit p0 μ = k12_isDigit p0 μ := Classical.choose_spec x12_isDigit p0 μ
noncomputable def F12_isDigit : XF := fun av μ => match av with
  | [.inl p0] => f12_isDigit p0 μ
  | _ => none
set_option maxRecDepth 100000 in
theorem c12_isDigit {X : XP} (hX : XOK X) (l : Launch) : Ctr X l y12_isDigit prog_14_method_6_code 1 (some .boolean) (xrm 1) 0 0 F12_isDigit :=
  Ctr_of (tab := t12_isDigit) (env := e12_isDigit) (K := 15) (N := 20000) (fl := fl12) (cl := cl12) (ll := ll12) (jl := jl12) hX mf12_isDigit.2.2.2 ⟨by decide +kernel, flk12, clk12, llk12, jlk12⟩
   (fun _ h => absurd h List.not_mem_nil)
   (xrm_1 (by decide)) ⟨_, _, rfl, rfl⟩ (fun av μ r μ' h => by
    unfold F12_isDigit at h
    split at h
    · exact ⟨Nat.le_of_ble_eq_true rfl, (q12_isDigit _ _ _).trans ((f12_isDigit_e _ _).symm.trans h)⟩
    · cases h)
def t12_rank : List XE := [(0, .iload_n 0, 0, 0, 0, 0, []),
  (1, .invokestatic 150, 1, 0, 0, 0, []),
  (4, .ifCond .eq 10, 14, 0, 0, 0, []),
  (7, .iload_n 0, 0, 0, 0, 0, []),
  (8, .bipush 96, 0, 0, 96, 0, []),
  (10, .isub, 0, 0, 0, 0, []),
  (11, .goto 7, 18, 0, 0, 0, []),
  (14, .iload_n 0, 0, 0, 0, 0, []),
  (15, .bipush 21, 0, 0, 21, 0, []),
  (17, .isub, 0, 0, 0, 0, []),
  (18, .ireturn, 0, 0, 0, 0, [])]
noncomputable def e12_rank : XN := [(150, 1, 1, 99, F12_isLetter)]
noncomputable def k12_rank (p0 : Int32) (μ : XM) : XR :=
  bI (f12_isLetter p0 μ) fun r2 m1 =>
  xite (r2 = 0) (
    xri (p0 - 21) m1) (
    xri (p0 - 96) m1)
set_option maxRecDepth 100000 in
theorem q12_rank (n : Nat) (p0 : Int32) (μ : XM) : xrun t12_rank e12_rank (xrtk (some .int)) 16 n (xlo [xi p0] 1) μ = k12_rank p0 μ := rfl
theorem x12_rank : ∃ f : Int32 → XM → XR, ∀ (p0 : Int32) (μ : XM), f p0 μ = k12_rank p0 μ := ⟨fun p0 μ => k12_rank p0 μ, fun p0 μ => rfl⟩
noncomputable def f12_rank : Int32 → XM → XR := Classical.choose x12_rank
theorem f12_rank_e (p0 : Int32) (μ : XM) : f12_rank p0 μ = k12_rank p0 μ := Classical.choose_spec x12_rank p0 μ
noncomputable def F12_rank : XF := fun av μ => match av with
  | [.inl p0] => f12_rank p0 μ
  | _ => none
set_option maxRecDepth 100000 in
theorem c12_rank {X : XP} (hX : XOK X) (l : Launch) : Ctr X l y12_rank prog_14_method_7_code 1 (some .int) (xrm 2) 0 0 F12_rank :=
  Ctr_of (tab := t12_rank) (env := e12_rank) (K := 16) (N := 20000) (fl := fl12) (cl := cl12) (ll := ll12) (jl := jl12) hX mf12_rank.2.2.2 ⟨by decide +kernel, flk12, clk12, llk12, jlk12⟩
   (List.forall_mem_cons.mpr ⟨xcal_s (c12_isLetter hX l) mf12_isLetter ⟨rfl, rfl⟩ ml12_150 ms12_isLetter (xrm_ok (by omega) (by decide)) (by decide +kernel), fun _ h => absurd h List.not_mem_nil⟩)
   (xrm_1 (by decide)) ⟨_, _, rfl, rfl⟩ (fun av μ r μ' h => by
    unfold F12_rank at h
    split at h
    · exact ⟨Nat.le_of_ble_eq_true rfl, (q12_rank _ _ _).trans ((f12_rank_e _ _).symm.trans h)⟩
    · cases h)
def t12_isSignOf : List XE := [(0, .iload_n 0, 0, 0, 0, 0, []),
  (1, .bipush 40, 0, 0, 40, 0, []),
  (3, .if_icmp .eq 45, 48, 0, 0, 0, []),
  (6, .iload_n 0, 0, 0, 0, 0, []),
  (7, .bipush 41, 0, 0, 41, 0, []),
  (9, .if_icmp .eq 39, 48, 0, 0, 0, []),
  (12, .iload_n 0, 0, 0, 0, 0, []),
  (13, .bipush 59, 0, 0, 59, 0, []),
  (15, .if_icmp .eq 33, 48, 0, 0, 0, []),
  (18, .iload_n 0, 0, 0, 0, 0, []),
  (19, .bipush 61, 0, 0, 61, 0, []),
  (21, .if_icmp .eq 27, 48, 0, 0, 0, []),
  (24, .iload_n 0, 0, 0, 0, 0, []),
  (25, .bipush 60, 0, 0, 60, 0, []),
  (27, .if_icmp .eq 21, 48, 0, 0, 0, []),
  (30, .iload_n 0, 0, 0, 0, 0, []),
  (31, .bipush 43, 0, 0, 43, 0, []),
  (33, .if_icmp .eq 15, 48, 0, 0, 0, []),
  (36, .iload_n 0, 0, 0, 0, 0, []),
  (37, .bipush 45, 0, 0, 45, 0, []),
  (39, .if_icmp .eq 9, 48, 0, 0, 0, []),
  (42, .iload_n 0, 0, 0, 0, 0, []),
  (43, .bipush 42, 0, 0, 42, 0, []),
  (45, .if_icmp .ne 7, 52, 0, 0, 0, []),
  (48, .iconst 1, 0, 0, 1, 0, []),
  (49, .goto 4, 53, 0, 0, 0, []),
  (52, .iconst 0, 0, 0, 0, 0, []),
  (53, .ireturn, 0, 0, 0, 0, [])]
noncomputable def e12_isSignOf : XN := []
noncomputable def k12_isSignOf (p0 : Int32) (μ : XM) : XR :=
  xite (p0 = 40) (
    xrb 1 μ) (
    xite (p0 = 41) (
      xrb 1 μ) (
      xite (p0 = 59) (
        xrb 1 μ) (
        xite (p0 = 61) (
          xrb 1 μ) (
          xite (p0 = 60) (
            xrb 1 μ) (
            xite (p0 = 43) (
              xrb 1 μ) (
              xite (p0 = 45) (
                xrb 1 μ) (
                xite (p0 = 42) (
                  xrb 1 μ) (
                  xrb 0 μ))))))))
set_option maxRecDepth 100000 in
theorem q12_isSignOf (n : Nat) (p0 : Int32) (μ : XM) : xrun t12_isSignOf e12_isSignOf (xrtk (some .boolean)) 33 n (xlo [xi p0] 1) μ = k12_isSignOf p0 μ := rfl
theorem x12_isSignOf : ∃ f : Int32 → XM → XR, ∀ (p0 : Int32) (μ : XM), f p0 μ = k12_isSignOf p0 μ := ⟨fun p0 μ => k12_isSignOf p0 μ, fun p0 μ => rfl⟩
noncomputable def f12_isSignOf : Int32 → XM → XR := Classical.choose x12_isSignOf
theorem f12_isSignOf_e (p0 : Int32) (μ : XM) : f12_isSignOf p0 μ = k12_isSignOf p0 μ := Classical.choose_spec x12_isSignOf p0 μ
noncomputable def F12_isSignOf : XF := fun av μ => match av with
  | [.inl p0] => f12_isSignOf p0 μ
  | _ => none
set_option maxRecDepth 100000 in
theorem c12_isSignOf {X : XP} (hX : XOK X) (l : Launch) : Ctr X l y12_isSignOf prog_14_method_8_code 1 (some .boolean) (xrm 1) 0 0 F12_isSignOf :=
  Ctr_of (tab := t12_isSignOf) (env := e12_isSignOf) (K := 33) (N := 20000) (fl := fl12) (cl := cl12) (ll := ll12) (jl := jl12) hX mf12_isSignOf.2.2.2 ⟨by decide +kernel, flk12, clk12, llk12, jlk12⟩
   (fun _ h => absurd h List.not_mem_nil)
   (xrm_1 (by decide)) ⟨_, _, rfl, rfl⟩ (fun av μ r μ' h => by
    unfold F12_isSignOf at h
    split at h
    · exact ⟨Nat.le_of_ble_eq_true rfl, (q12_isSignOf _ _ _).trans ((f12_isSignOf_e _ _).symm.trans h)⟩
    · cases h)
def t12_cutAll : List XE := [(0, .aload_n 0, 0, 0, 0, 0, []),
  (1, .aload_n 0, 0, 0, 0, 0, []),
  (2, .getfield 11, 12, 2, 0, 0, []),
  (5, .putfield 154, 12, 3, 0, 0, []),
  (8, .aload_n 0, 0, 0, 0, 0, []),
  (9, .iconst 0, 0, 0, 0, 0, []),
  (10, .putfield 11, 12, 2, 0, 0, []),
  (13, .iconst 0, 0, 0, 0, 0, []),
  (14, .istore_n 1, 1, 0, 0, 0, []),
  (15, .iconst 0, 0, 0, 0, 0, []),
  (16, .istore_n 2, 2, 0, 0, 0, []),
  (17, .nop, 7, 0, 0, 0, []),
  (17, .iload_n 2, 2, 0, 0, 0, []),
  (18, .aload_n 0, 0, 0, 0, 0, []),
  (19, .getfield 154, 12, 3, 0, 0, []),
  (22, .if_icmp .ge 257, 279, 0, 0, 0, []),
  (25, .aload_n 0, 0, 0, 0, 0, []),
  (26, .getfield 14, 12, 1, 0, 0, []),
  (29, .iload_n 2, 2, 0, 0, 0, []),
  (30, .iaload, 0, 0, 0, 0, []),
  (31, .istore_n 3, 3, 0, 0, 0, []),
  (32, .iload_n 3, 3, 0, 0, 0, []),
  (33, .bipush 10, 0, 0, 10, 0, []),
  (35, .if_icmp .eq 9, 44, 0, 0, 0, []),
  (38, .iload_n 3, 3, 0, 0, 0, []),
  (39, .bipush 32, 0, 0, 32, 0, []),
  (41, .if_icmp .ne 9, 50, 0, 0, 0, []),
  (44, .iinc 2 1, 2, 0, 1, 0, []),
  (47, .goto (-30), 17, 0, 0, 0, []),
  (50, .iload_n 2, 2, 0, 0, 0, []),
  (51, .istore 4, 4, 0, 0, 0, []),
  (53, .lconst 0, 0, 0, 0, 0, []),
  (54, .lstore 5, 5, 0, 0, 0, []),
  (56, .aload_n 0, 0, 0, 0, 0, []),
  (57, .getfield 27, 12, 5, 0, 0, []),
  (60, .iload_n 1, 1, 0, 0, 0, []),
  (61, .iload_n 2, 2, 0, 0, 0, []),
  (62, .iastore, 0, 0, 0, 0, []),
  (63, .iload_n 3, 3, 0, 0, 0, []),
  (64, .invokestatic 150, 1, 0, 0, 0, []),
  (67, .ifCond .eq 85, 152, 0, 0, 0, []),
  (70, .nop, 55, 0, 0, 0, []),
  (70, .iload_n 2, 2, 0, 0, 0, []),
  (71, .aload_n 0, 0, 0, 0, 0, []),
  (72, .getfield 154, 12, 3, 0, 0, []),
  (75, .if_icmp .ge 54, 129, 0, 0, 0, []),
  (78, .aload_n 0, 0, 0, 0, 0, []),
  (79, .getfield 14, 12, 1, 0, 0, []),
  (82, .iload_n 2, 2, 0, 0, 0, []),
  (83, .iaload, 0, 0, 0, 0, []),
  (84, .invokestatic 150, 1, 0, 0, 0, []),
  (87, .ifCond .eq 42, 129, 0, 0, 0, []),
  (90, .iload_n 2, 2, 0, 0, 0, []),
  (91, .iload 4, 4, 0, 0, 0, []),
  (93, .isub, 0, 0, 0, 0, []),
  (94, .bipush 8, 0, 0, 8, 0, []),
  (96, .if_icmp .ge 23, 119, 0, 0, 0, []),
  (99, .ldc2_w 157, 0, 0, 0, 37, []),
  (102, .lload 5, 5, 0, 0, 0, []),
  (104, .lmul, 0, 0, 0, 0, []),
  (105, .aload_n 0, 0, 0, 0, 0, []),
  (106, .getfield 14, 12, 1, 0, 0, []),
  (109, .iload_n 2, 2, 0, 0, 0, []),
  (110, .iaload, 0, 0, 0, 0, []),
  (111, .invokestatic 159, 1, 0, 0, 0, []),
  (114, .i2l, 0, 0, 0, 0, []),
  (115, .ladd, 0, 0, 0, 0, []),
  (116, .goto 5, 121, 0, 0, 0, []),
  (119, .lload 5, 5, 0, 0, 0, []),
  (121, .lstore 5, 5, 0, 0, 0, []),
  (123, .iinc 2 1, 2, 0, 1, 0, []),
  (126, .goto (-56), 70, 0, 0, 0, []),
  (129, .nop, 55, 0, 0, 0, []),
  (129, .aload_n 0, 0, 0, 0, 0, []),
  (130, .getfield 24, 12, 4, 0, 0, []),
  (133, .iload_n 1, 1, 0, 0, 0, []),
  (134, .iload_n 2, 2, 0, 0, 0, []),
  (135, .iload 4, 4, 0, 0, 0, []),
  (137, .isub, 0, 0, 0, 0, []),
  (138, .bipush 8, 0, 0, 8, 0, []),
  (140, .if_icmp .le 7, 147, 0, 0, 0, []),
  (143, .iconst 4, 0, 0, 4, 0, []),
  (144, .goto 4, 148, 0, 0, 0, []),
  (147, .iconst 1, 0, 0, 1, 0, []),
  (148, .iastore, 0, 0, 0, 0, []),
  (149, .goto 116, 265, 0, 0, 0, []),
  (152, .iload_n 3, 3, 0, 0, 0, []),
  (153, .invokestatic 163, 1, 0, 0, 0, []),
  (156, .ifCond .eq 84, 240, 0, 0, 0, []),
  (159, .nop, 55, 0, 0, 0, []),
  (159, .iload_n 2, 2, 0, 0, 0, []),
  (160, .aload_n 0, 0, 0, 0, 0, []),
  (161, .getfield 154, 12, 3, 0, 0, []),
  (164, .if_icmp .ge 54, 218, 0, 0, 0, []),
  (167, .aload_n 0, 0, 0, 0, 0, []),
  (168, .getfield 14, 12, 1, 0, 0, []),
  (171, .iload_n 2, 2, 0, 0, 0, []),
  (172, .iaload, 0, 0, 0, 0, []),
  (173, .invokestatic 163, 1, 0, 0, 0, []),
  (176, .ifCond .eq 42, 218, 0, 0, 0, []),
  (179, .iload_n 2, 2, 0, 0, 0, []),
  (180, .iload 4, 4, 0, 0, 0, []),
  (182, .isub, 0, 0, 0, 0, []),
  (183, .iconst 4, 0, 0, 4, 0, []),
  (184, .if_icmp .ge 24, 208, 0, 0, 0, []),
  (187, .ldc2_w 166, 0, 0, 0, 10, []),
  (190, .lload 5, 5, 0, 0, 0, []),
  (192, .lmul, 0, 0, 0, 0, []),
  (193, .aload_n 0, 0, 0, 0, 0, []),
  (194, .getfield 14, 12, 1, 0, 0, []),
  (197, .iload_n 2, 2, 0, 0, 0, []),
  (198, .iaload, 0, 0, 0, 0, []),
  (199, .i2l, 0, 0, 0, 0, []),
  (200, .ladd, 0, 0, 0, 0, []),
  (201, .ldc2_w 168, 0, 0, 0, 48, []),
  (204, .lsub, 0, 0, 0, 0, []),
  (205, .goto 5, 210, 0, 0, 0, []),
  (208, .lload 5, 5, 0, 0, 0, []),
  (210, .lstore 5, 5, 0, 0, 0, []),
  (212, .iinc 2 1, 2, 0, 1, 0, []),
  (215, .goto (-56), 159, 0, 0, 0, []),
  (218, .nop, 55, 0, 0, 0, []),
  (218, .aload_n 0, 0, 0, 0, 0, []),
  (219, .getfield 24, 12, 4, 0, 0, []),
  (222, .iload_n 1, 1, 0, 0, 0, []),
  (223, .iload_n 2, 2, 0, 0, 0, []),
  (224, .iload 4, 4, 0, 0, 0, []),
  (226, .isub, 0, 0, 0, 0, []),
  (227, .iconst 4, 0, 0, 4, 0, []),
  (228, .if_icmp .le 7, 235, 0, 0, 0, []),
  (231, .iconst 4, 0, 0, 4, 0, []),
  (232, .goto 4, 236, 0, 0, 0, []),
  (235, .iconst 2, 0, 0, 2, 0, []),
  (236, .iastore, 0, 0, 0, 0, []),
  (237, .goto 28, 265, 0, 0, 0, []),
  (240, .iload_n 3, 3, 0, 0, 0, []),
  (241, .i2l, 0, 0, 0, 0, []),
  (242, .lstore 5, 5, 0, 0, 0, []),
  (244, .aload_n 0, 0, 0, 0, 0, []),
  (245, .getfield 24, 12, 4, 0, 0, []),
  (248, .iload_n 1, 1, 0, 0, 0, []),
  (249, .iload_n 3, 3, 0, 0, 0, []),
  (250, .invokestatic 170, 1, 0, 0, 0, []),
  (253, .ifCond .eq 7, 260, 0, 0, 0, []),
  (256, .iconst 3, 0, 0, 3, 0, []),
  (257, .goto 4, 261, 0, 0, 0, []),
  (260, .iconst 4, 0, 0, 4, 0, []),
  (261, .iastore, 0, 0, 0, 0, []),
  (262, .iinc 2 1, 2, 0, 1, 0, []),
  (265, .aload_n 0, 0, 0, 0, 0, []),
  (266, .getfield 30, 12, 6, 0, 0, []),
  (269, .iload_n 1, 1, 0, 0, 0, []),
  (270, .lload 5, 5, 0, 0, 0, []),
  (272, .lastore, 0, 0, 0, 0, []),
  (273, .iinc 1 1, 1, 0, 1, 0, []),
  (276, .goto (-259), 17, 0, 0, 0, []),
  (279, .aload_n 0, 0, 0, 0, 0, []),
  (280, .getfield 24, 12, 4, 0, 0, []),
  (283, .iload_n 1, 1, 0, 0, 0, []),
  (284, .iconst 0, 0, 0, 0, 0, []),
  (285, .iastore, 0, 0, 0, 0, []),
  (286, .aload_n 0, 0, 0, 0, 0, []),
  (287, .getfield 27, 12, 5, 0, 0, []),
  (290, .iload_n 1, 1, 0, 0, 0, []),
  (291, .aload_n 0, 0, 0, 0, 0, []),
  (292, .getfield 154, 12, 3, 0, 0, []),
  (295, .iastore, 0, 0, 0, 0, []),
  (296, .aload_n 0, 0, 0, 0, 0, []),
  (297, .iconst 0, 0, 0, 0, 0, []),
  (298, .putfield 173, 12, 7, 0, 0, []),
  (301, .aload_n 0, 0, 0, 0, 0, []),
  (302, .iconst 0, 0, 0, 0, 0, []),
  (303, .putfield 176, 12, 8, 0, 0, []),
  (306, .return_, 0, 0, 0, 0, [])]
noncomputable def e12_cutAll : XN := [(150, 1, 1, 99, F12_isLetter), (159, 1, 1, 99, F12_rank), (163, 1, 1, 99, F12_isDigit), (170, 1, 1, 99, F12_isSignOf)]
noncomputable def h12_cutAll_17 (n : Nat) (v1 : Int32) (v2 : Int32) (μ : XM) : XR := arr t12_cutAll e12_cutAll 0 179 n 17 [some (xr 12 0 0), some (xi v1), some (xi v2), none, none, none, none] [] μ
noncomputable def h12_cutAll_70 (n : Nat) (v1 : Int32) (v2 : Int32) (v4 : Int32) (v5 : Int64) (μ : XM) : XR := arr t12_cutAll e12_cutAll 0 179 n 70 [some (xr 12 0 0), some (xi v1), some (xi v2), none, some (xi v4), some (xl v5), none] [] μ
noncomputable def h12_cutAll_129 (n : Nat) (v1 : Int32) (v2 : Int32) (v4 : Int32) (v5 : Int64) (μ : XM) : XR := arr t12_cutAll e12_cutAll 0 179 n 129 [some (xr 12 0 0), some (xi v1), some (xi v2), none, some (xi v4), some (xl v5), none] [] μ
noncomputable def h12_cutAll_159 (n : Nat) (v1 : Int32) (v2 : Int32) (v4 : Int32) (v5 : Int64) (μ : XM) : XR := arr t12_cutAll e12_cutAll 0 179 n 159 [some (xr 12 0 0), some (xi v1), some (xi v2), none, some (xi v4), some (xl v5), none] [] μ
noncomputable def h12_cutAll_218 (n : Nat) (v1 : Int32) (v2 : Int32) (v4 : Int32) (v5 : Int64) (μ : XM) : XR := arr t12_cutAll e12_cutAll 0 179 n 218 [some (xr 12 0 0), some (xi v1), some (xi v2), none, some (xi v4), some (xl v5), none] [] μ
set_option maxRecDepth 100000 in
theorem h12_cutAll_17_s (n : Nat) (v1 : Int32) (v2 : Int32) (μ : XM) : h12_cutAll_17 (n + 1) v1 v2 μ = (
  xite (v2 < (rI μ 12 0 3)) (
    xck (xin v2 1000) <|
    vI (aI μ 12 0 1 (Int32.toNatClampNeg v2)) fun x1 =>
    xite (x1 = 10) (
      vI (v2 + 1) fun x2 =>
      h12_cutAll_17 n v1 x2 μ) (
      xite (x1 = 32) (
        vI (v2 + 1) fun x3 =>
        h12_cutAll_17 n v1 x3 μ) (
        vI v2 fun x4 =>
        vL 0 fun x5 =>
        xck (xin v1 1002 && true) <|
        mS (pI μ 12 0 5 (Int32.toNatClampNeg v1) v2) fun m6 =>
        bI (f12_isLetter x1 m6) fun r8 m7 =>
        xite (r8 = 0) (
          bI (f12_isDigit x1 m7) fun r10 m9 =>
          xite (r10 = 0) (
            vL (Int32.toInt64 x1) fun x11 =>
            bI (f12_isSignOf x1 m9) fun r13 m12 =>
            xite (r13 = 0) (
              xck (xin v1 1002 && true) <|
              mS (pI m12 12 0 4 (Int32.toNatClampNeg v1) 4) fun m14 =>
              vI (v2 + 1) fun x15 =>
              xck (xin v1 1002) <|
              mS (pL m14 12 0 6 (Int32.toNatClampNeg v1) x11) fun m16 =>
              vI (v1 + 1) fun x17 =>
              h12_cutAll_17 n x17 x15 m16) (
              xck (xin v1 1002 && true) <|
              mS (pI m12 12 0 4 (Int32.toNatClampNeg v1) 3) fun m18 =>
              vI (v2 + 1) fun x19 =>
              xck (xin v1 1002) <|
              mS (pL m18 12 0 6 (Int32.toNatClampNeg v1) x11) fun m20 =>
              vI (v1 + 1) fun x21 =>
              h12_cutAll_17 n x21 x19 m20)) (
            h12_cutAll_159 n v1 v2 x4 x5 m9)) (
          h12_cutAll_70 n v1 v2 x4 x5 m7)))) (
    xck (xin v1 1002 && true) <|
    mS (pI μ 12 0 4 (Int32.toNatClampNeg v1) 0) fun m22 =>
    xck (xin v1 1002 && true) <|
    mS (pI m22 12 0 5 (Int32.toNatClampNeg v1) (rI m22 12 0 3)) fun m23 =>
    mS (sI m23 12 0 7 0) fun m24 =>
    mS (sI m24 12 0 8 0) fun m25 =>
    xrv m25)) := rfl
theorem h12_cutAll_17_0 (v1 : Int32) (v2 : Int32) (μ : XM) : h12_cutAll_17 0 v1 v2 μ = none := rfl
set_option maxRecDepth 100000 in
theorem h12_cutAll_70_s (n : Nat) (v1 : Int32) (v2 : Int32) (v4 : Int32) (v5 : Int64) (μ : XM) : h12_cutAll_70 (n + 1) v1 v2 v4 v5 μ = (
  xite (v2 < (rI μ 12 0 3)) (
    xck (xin v2 1000) <|
    bI (f12_isLetter (aI μ 12 0 1 (Int32.toNatClampNeg v2)) μ) fun r2 m1 =>
    xite (r2 = 0) (
      h12_cutAll_129 n v1 v2 v4 v5 m1) (
      xite ((v2 - v4) < 8) (
        xck (xin v2 1000) <|
        bI (f12_rank (aI m1 12 0 1 (Int32.toNatClampNeg v2)) m1) fun r4 m3 =>
        vL ((37 * v5) + (Int32.toInt64 r4)) fun x5 =>
        vI (v2 + 1) fun x6 =>
        h12_cutAll_70 n v1 x6 v4 x5 m3) (
        vL v5 fun x7 =>
        vI (v2 + 1) fun x8 =>
        h12_cutAll_70 n v1 x8 v4 x7 m1))) (
    h12_cutAll_129 n v1 v2 v4 v5 μ)) := rfl
theorem h12_cutAll_70_0 (v1 : Int32) (v2 : Int32) (v4 : Int32) (v5 : Int64) (μ : XM) : h12_cutAll_70 0 v1 v2 v4 v5 μ = none := rfl
set_option maxRecDepth 100000 in
theorem h12_cutAll_129_s (n : Nat) (v1 : Int32) (v2 : Int32) (v4 : Int32) (v5 : Int64) (μ : XM) : h12_cutAll_129 (n + 1) v1 v2 v4 v5 μ = (
  xite ((8 : Int32) < (v2 - v4)) (
    xck (xin v1 1002 && true) <|
    mS (pI μ 12 0 4 (Int32.toNatClampNeg v1) 4) fun m1 =>
    xck (xin v1 1002) <|
    mS (pL m1 12 0 6 (Int32.toNatClampNeg v1) v5) fun m2 =>
    vI (v1 + 1) fun x3 =>
    h12_cutAll_17 n x3 v2 m2) (
    xck (xin v1 1002 && true) <|
    mS (pI μ 12 0 4 (Int32.toNatClampNeg v1) 1) fun m4 =>
    xck (xin v1 1002) <|
    mS (pL m4 12 0 6 (Int32.toNatClampNeg v1) v5) fun m5 =>
    vI (v1 + 1) fun x6 =>
    h12_cutAll_17 n x6 v2 m5)) := rfl
theorem h12_cutAll_129_0 (v1 : Int32) (v2 : Int32) (v4 : Int32) (v5 : Int64) (μ : XM) : h12_cutAll_129 0 v1 v2 v4 v5 μ = none := rfl
set_option maxRecDepth 100000 in
theorem h12_cutAll_159_s (n : Nat) (v1 : Int32) (v2 : Int32) (v4 : Int32) (v5 : Int64) (μ : XM) : h12_cutAll_159 (n + 1) v1 v2 v4 v5 μ = (
  xite (v2 < (rI μ 12 0 3)) (
    xck (xin v2 1000) <|
    bI (f12_isDigit (aI μ 12 0 1 (Int32.toNatClampNeg v2)) μ) fun r2 m1 =>
    xite (r2 = 0) (
      h12_cutAll_218 n v1 v2 v4 v5 m1) (
      xite ((v2 - v4) < 4) (
        xck (xin v2 1000) <|
        vL (((10 * v5) + (Int32.toInt64 (aI m1 12 0 1 (Int32.toNatClampNeg v2)))) - 48) fun x3 =>
        vI (v2 + 1) fun x4 =>
        h12_cutAll_159 n v1 x4 v4 x3 m1) (
        vL v5 fun x5 =>
        vI (v2 + 1) fun x6 =>
        h12_cutAll_159 n v1 x6 v4 x5 m1))) (
    h12_cutAll_218 n v1 v2 v4 v5 μ)) := rfl
theorem h12_cutAll_159_0 (v1 : Int32) (v2 : Int32) (v4 : Int32) (v5 : Int64) (μ : XM) : h12_cutAll_159 0 v1 v2 v4 v5 μ = none := rfl
set_option maxRecDepth 100000 in
theorem h12_cutAll_218_s (n : Nat) (v1 : Int32) (v2 : Int32) (v4 : Int32) (v5 : Int64) (μ : XM) : h12_cutAll_218 (n + 1) v1 v2 v4 v5 μ = (
  xite ((4 : Int32) < (v2 - v4)) (
    xck (xin v1 1002 && true) <|
    mS (pI μ 12 0 4 (Int32.toNatClampNeg v1) 4) fun m1 =>
    xck (xin v1 1002) <|
    mS (pL m1 12 0 6 (Int32.toNatClampNeg v1) v5) fun m2 =>
    vI (v1 + 1) fun x3 =>
    h12_cutAll_17 n x3 v2 m2) (
    xck (xin v1 1002 && true) <|
    mS (pI μ 12 0 4 (Int32.toNatClampNeg v1) 2) fun m4 =>
    xck (xin v1 1002) <|
    mS (pL m4 12 0 6 (Int32.toNatClampNeg v1) v5) fun m5 =>
    vI (v1 + 1) fun x6 =>
    h12_cutAll_17 n x6 v2 m5)) := rfl
theorem h12_cutAll_218_0 (v1 : Int32) (v2 : Int32) (v4 : Int32) (v5 : Int64) (μ : XM) : h12_cutAll_218 0 v1 v2 v4 v5 μ = none := rfl
noncomputable def k12_cutAll (n : Nat) (μ : XM) : XR :=
  mS (sI μ 12 0 3 (rI μ 12 0 2)) fun m1 =>
  mS (sI m1 12 0 2 0) fun m2 =>
  vI 0 fun x3 =>
  vI 0 fun x4 =>
  h12_cutAll_17 n x3 x4 m2
set_option maxRecDepth 100000 in
theorem q12_cutAll (n : Nat) (μ : XM) : xrun t12_cutAll e12_cutAll (xrtk none) 179 n (xlo [xr 12 0 0] 7) μ = k12_cutAll n  μ := rfl
theorem x12_cutAll : ∃ f : XM → XR, ∀ (μ : XM), f μ = k12_cutAll 20000  μ := ⟨fun μ => k12_cutAll 20000  μ, fun μ => rfl⟩
noncomputable def f12_cutAll : XM → XR := Classical.choose x12_cutAll
theorem f12_cutAll_e (μ : XM) : f12_cutAll μ = k12_cutAll 20000  μ := Classical.choose_spec x12_cutAll μ
noncomputable def F12_cutAll : XF := fun av μ => match av with
  | [.inr (.inr (some (t0, i0, 0)))] => bif Nat.beq t0 12 && Nat.beq i0 0 then f12_cutAll  μ else none
  | _ => none
set_option maxRecDepth 100000 in
theorem c12_cutAll {X : XP} (hX : XOK X) (l : Launch) : Ctr X l y12_cutAll prog_14_method_9_code 7 none (xrm 3) 0 0 F12_cutAll :=
  Ctr_of (tab := t12_cutAll) (env := e12_cutAll) (K := 179) (N := 20000) (fl := fl12) (cl := cl12) (ll := ll12) (jl := jl12) hX mf12_cutAll.2.2.2 ⟨by decide +kernel, flk12, clk12, llk12, jlk12⟩
   (List.forall_mem_cons.mpr ⟨xcal_s (c12_isLetter hX l) mf12_isLetter ⟨rfl, rfl⟩ ml12_150 ms12_isLetter (xrm_ok (by omega) (by decide)) (by decide +kernel), List.forall_mem_cons.mpr ⟨xcal_s (c12_rank hX l) mf12_rank ⟨rfl, rfl⟩ ml12_159 ms12_rank (xrm_ok (by omega) (by decide)) (by decide +kernel), List.forall_mem_cons.mpr ⟨xcal_s (c12_isDigit hX l) mf12_isDigit ⟨rfl, rfl⟩ ml12_163 ms12_isDigit (xrm_ok (by omega) (by decide)) (by decide +kernel), List.forall_mem_cons.mpr ⟨xcal_s (c12_isSignOf hX l) mf12_isSignOf ⟨rfl, rfl⟩ ml12_170 ms12_isSignOf (xrm_ok (by omega) (by decide)) (by decide +kernel), fun _ h => absurd h List.not_mem_nil⟩⟩⟩⟩)
   (xrm_1 (by decide)) ⟨_, _, rfl, rfl⟩ (fun av μ r μ' h => by
    unfold F12_cutAll at h
    split at h
    · replace h := cond_inv h; obtain ⟨hb, h⟩ := h
      simp only [Bool.and_eq_true] at hb
      obtain ⟨g0, g1⟩ := hb
      obtain rfl := Nat.eq_of_beq_eq_true g0
      obtain rfl := Nat.eq_of_beq_eq_true g1
      exact ⟨Nat.le_of_ble_eq_true rfl, (q12_cutAll _  _).trans ((f12_cutAll_e  _).symm.trans h)⟩
    · cases h)
def t12_wrong : List XE := [(0, .aload_n 0, 0, 0, 0, 0, []),
  (1, .getfield 176, 12, 8, 0, 0, []),
  (4, .ifCond .ne 21, 25, 0, 0, 0, []),
  (7, .aload_n 0, 0, 0, 0, 0, []),
  (8, .iload_n 1, 1, 0, 0, 0, []),
  (9, .bipush 16, 0, 0, 16, 0, []),
  (11, .aload_n 0, 0, 0, 0, 0, []),
  (12, .getfield 27, 12, 5, 0, 0, []),
  (15, .aload_n 0, 0, 0, 0, 0, []),
  (16, .getfield 173, 12, 7, 0, 0, []),
  (19, .iaload, 0, 0, 0, 0, []),
  (20, .imul, 0, 0, 0, 0, []),
  (21, .iadd, 0, 0, 0, 0, []),
  (22, .putfield 176, 12, 8, 0, 0, []),
  (25, .return_, 0, 0, 0, 0, [])]
noncomputable def e12_wrong : XN := []
noncomputable def k12_wrong (p1 : Int32) (μ : XM) : XR :=
  xite ((rI μ 12 0 8) = 0) (
    xck (xin (rI μ 12 0 7) 1002) <|
    mS (sI μ 12 0 8 (p1 + (16 * (aI μ 12 0 5 (Int32.toNatClampNeg (rI μ 12 0 7)))))) fun m1 =>
    xrv m1) (
    xrv μ)
set_option maxRecDepth 100000 in
theorem q12_wrong (n : Nat) (p1 : Int32) (μ : XM) : xrun t12_wrong e12_wrong (xrtk none) 20 n (xlo [xr 12 0 0, xi p1] 2) μ = k12_wrong p1 μ := rfl
theorem x12_wrong : ∃ f : Int32 → XM → XR, ∀ (p1 : Int32) (μ : XM), f p1 μ = k12_wrong p1 μ := ⟨fun p1 μ => k12_wrong p1 μ, fun p1 μ => rfl⟩
noncomputable def f12_wrong : Int32 → XM → XR := Classical.choose x12_wrong
theorem f12_wrong_e (p1 : Int32) (μ : XM) : f12_wrong p1 μ = k12_wrong p1 μ := Classical.choose_spec x12_wrong p1 μ
noncomputable def F12_wrong : XF := fun av μ => match av with
  | [.inr (.inr (some (t0, i0, 0))), .inl p1] => bif Nat.beq t0 12 && Nat.beq i0 0 then f12_wrong p1 μ else none
  | _ => none
set_option maxRecDepth 100000 in
theorem c12_wrong {X : XP} (hX : XOK X) (l : Launch) : Ctr X l y12_wrong prog_14_method_10_code 2 none (xrm 1) 0 0 F12_wrong :=
  Ctr_of (tab := t12_wrong) (env := e12_wrong) (K := 20) (N := 20000) (fl := fl12) (cl := cl12) (ll := ll12) (jl := jl12) hX mf12_wrong.2.2.2 ⟨by decide +kernel, flk12, clk12, llk12, jlk12⟩
   (fun _ h => absurd h List.not_mem_nil)
   (xrm_1 (by decide)) ⟨_, _, rfl, rfl⟩ (fun av μ r μ' h => by
    unfold F12_wrong at h
    split at h
    · replace h := cond_inv h; obtain ⟨hb, h⟩ := h
      simp only [Bool.and_eq_true] at hb
      obtain ⟨g0, g1⟩ := hb
      obtain rfl := Nat.eq_of_beq_eq_true g0
      obtain rfl := Nat.eq_of_beq_eq_true g1
      exact ⟨Nat.le_of_ble_eq_true rfl, (q12_wrong _ _ _).trans ((f12_wrong_e _ _).symm.trans h)⟩
    · cases h)
def t12_isSign : List XE := [(0, .aload_n 0, 0, 0, 0, 0, []),
  (1, .getfield 176, 12, 8, 0, 0, []),
  (4, .ifCond .ne 35, 39, 0, 0, 0, []),
  (7, .aload_n 0, 0, 0, 0, 0, []),
  (8, .getfield 24, 12, 4, 0, 0, []),
  (11, .aload_n 0, 0, 0, 0, 0, []),
  (12, .getfield 173, 12, 7, 0, 0, []),
  (15, .iaload, 0, 0, 0, 0, []),
  (16, .iconst 3, 0, 0, 3, 0, []),
  (17, .if_icmp .ne 22, 39, 0, 0, 0, []),
  (20, .aload_n 0, 0, 0, 0, 0, []),
  (21, .getfield 30, 12, 6, 0, 0, []),
  (24, .aload_n 0, 0, 0, 0, 0, []),
  (25, .getfield 173, 12, 7, 0, 0, []),
  (28, .laload, 0, 0, 0, 0, []),
  (29, .iload_n 1, 1, 0, 0, 0, []),
  (30, .i2l, 0, 0, 0, 0, []),
  (31, .lcmp, 0, 0, 0, 0, []),
  (32, .ifCond .ne 7, 39, 0, 0, 0, []),
  (35, .iconst 1, 0, 0, 1, 0, []),
  (36, .goto 4, 40, 0, 0, 0, []),
  (39, .iconst 0, 0, 0, 0, 0, []),
  (40, .ireturn, 0, 0, 0, 0, [])]
noncomputable def e12_isSign : XN := []
noncomputable def k12_isSign (p1 : Int32) (μ : XM) : XR :=
  xite ((rI μ 12 0 8) = 0) (
    xck (xin (rI μ 12 0 7) 1002) <|
    xite ((aI μ 12 0 4 (Int32.toNatClampNeg (rI μ 12 0 7))) = 3) (
      xck (xin (rI μ 12 0 7) 1002) <|
      xite ((lg_cmp (aL μ 12 0 6 (Int32.toNatClampNeg (rI μ 12 0 7))) (Int32.toInt64 p1)) = 0) (
        xrb 1 μ) (
        xrb 0 μ)) (
      xrb 0 μ)) (
    xrb 0 μ)
set_option maxRecDepth 100000 in
theorem q12_isSign (n : Nat) (p1 : Int32) (μ : XM) : xrun t12_isSign e12_isSign (xrtk (some .boolean)) 28 n (xlo [xr 12 0 0, xi p1] 2) μ = k12_isSign p1 μ := rfl
theorem x12_isSign : ∃ f : Int32 → XM → XR, ∀ (p1 : Int32) (μ : XM), f p1 μ = k12_isSign p1 μ := ⟨fun p1 μ => k12_isSign p1 μ, fun p1 μ => rfl⟩
noncomputable def f12_isSign : Int32 → XM → XR := Classical.choose x12_isSign
theorem f12_isSign_e (p1 : Int32) (μ : XM) : f12_isSign p1 μ = k12_isSign p1 μ := Classical.choose_spec x12_isSign p1 μ
noncomputable def F12_isSign : XF := fun av μ => match av with
  | [.inr (.inr (some (t0, i0, 0))), .inl p1] => bif Nat.beq t0 12 && Nat.beq i0 0 then f12_isSign p1 μ else none
  | _ => none
set_option maxRecDepth 100000 in
theorem c12_isSign {X : XP} (hX : XOK X) (l : Launch) : Ctr X l y12_isSign prog_14_method_11_code 2 (some .boolean) (xrm 1) 0 0 F12_isSign :=
  Ctr_of (tab := t12_isSign) (env := e12_isSign) (K := 28) (N := 20000) (fl := fl12) (cl := cl12) (ll := ll12) (jl := jl12) hX mf12_isSign.2.2.2 ⟨by decide +kernel, flk12, clk12, llk12, jlk12⟩
   (fun _ h => absurd h List.not_mem_nil)
   (xrm_1 (by decide)) ⟨_, _, rfl, rfl⟩ (fun av μ r μ' h => by
    unfold F12_isSign at h
    split at h
    · replace h := cond_inv h; obtain ⟨hb, h⟩ := h
      simp only [Bool.and_eq_true] at hb
      obtain ⟨g0, g1⟩ := hb
      obtain rfl := Nat.eq_of_beq_eq_true g0
      obtain rfl := Nat.eq_of_beq_eq_true g1
      exact ⟨Nat.le_of_ble_eq_true rfl, (q12_isSign _ _ _).trans ((f12_isSign_e _ _).symm.trans h)⟩
    · cases h)
def t12_isWord : List XE := [(0, .aload_n 0, 0, 0, 0, 0, []),
  (1, .getfield 176, 12, 8, 0, 0, []),
  (4, .ifCond .ne 39, 43, 0, 0, 0, []),
  (7, .aload_n 0, 0, 0, 0, 0, []),
  (8, .getfield 24, 12, 4, 0, 0, []),
  (11, .aload_n 0, 0, 0, 0, 0, []),
  (12, .getfield 173, 12, 7, 0, 0, []),
  (15, .iaload, 0, 0, 0, 0, []),
  (16, .iconst 1, 0, 0, 1, 0, []),
  (17, .if_icmp .ne 26, 43, 0, 0, 0, []),
  (20, .aload_n 0, 0, 0, 0, 0, []),
  (21, .getfield 30, 12, 6, 0, 0, []),
  (24, .aload_n 0, 0, 0, 0, 0, []),
  (25, .getfield 173, 12, 7, 0, 0, []),
  (28, .laload, 0, 0, 0, 0, []),
  (29, .aload_n 0, 0, 0, 0, 0, []),
  (30, .getfield 88, 12, 9, 0, 0, []),
  (33, .iload_n 1, 1, 0, 0, 0, []),
  (34, .laload, 0, 0, 0, 0, []),
  (35, .lcmp, 0, 0, 0, 0, []),
  (36, .ifCond .ne 7, 43, 0, 0, 0, []),
  (39, .iconst 1, 0, 0, 1, 0, []),
  (40, .goto 4, 44, 0, 0, 0, []),
  (43, .iconst 0, 0, 0, 0, 0, []),
  (44, .ireturn, 0, 0, 0, 0, [])]
noncomputable def e12_isWord : XN := []
noncomputable def k12_isWord (p1 : Int32) (μ : XM) : XR :=
  xite ((rI μ 12 0 8) = 0) (
    xck (xin (rI μ 12 0 7) 1002) <|
    xite ((aI μ 12 0 4 (Int32.toNatClampNeg (rI μ 12 0 7))) = 1) (
      xck (xin (rI μ 12 0 7) 1002) <|
      xck (xin p1 27) <|
      xite ((lg_cmp (aL μ 12 0 6 (Int32.toNatClampNeg (rI μ 12 0 7))) (aL μ 12 0 9 (Int32.toNatClampNeg p1))) = 0) (
        xrb 1 μ) (
        xrb 0 μ)) (
      xrb 0 μ)) (
    xrb 0 μ)
set_option maxRecDepth 100000 in
theorem q12_isWord (n : Nat) (p1 : Int32) (μ : XM) : xrun t12_isWord e12_isWord (xrtk (some .boolean)) 30 n (xlo [xr 12 0 0, xi p1] 2) μ = k12_isWord p1 μ := rfl
theorem x12_isWord : ∃ f : Int32 → XM → XR, ∀ (p1 : Int32) (μ : XM), f p1 μ = k12_isWord p1 μ := ⟨fun p1 μ => k12_isWord p1 μ, fun p1 μ => rfl⟩
noncomputable def f12_isWord : Int32 → XM → XR := Classical.choose x12_isWord
theorem f12_isWord_e (p1 : Int32) (μ : XM) : f12_isWord p1 μ = k12_isWord p1 μ := Classical.choose_spec x12_isWord p1 μ
noncomputable def F12_isWord : XF := fun av μ => match av with
  | [.inr (.inr (some (t0, i0, 0))), .inl p1] => bif Nat.beq t0 12 && Nat.beq i0 0 then f12_isWord p1 μ else none
  | _ => none
set_option maxRecDepth 100000 in
theorem c12_isWord {X : XP} (hX : XOK X) (l : Launch) : Ctr X l y12_isWord prog_14_method_12_code 2 (some .boolean) (xrm 1) 0 0 F12_isWord :=
  Ctr_of (tab := t12_isWord) (env := e12_isWord) (K := 30) (N := 20000) (fl := fl12) (cl := cl12) (ll := ll12) (jl := jl12) hX mf12_isWord.2.2.2 ⟨by decide +kernel, flk12, clk12, llk12, jlk12⟩
   (fun _ h => absurd h List.not_mem_nil)
   (xrm_1 (by decide)) ⟨_, _, rfl, rfl⟩ (fun av μ r μ' h => by
    unfold F12_isWord at h
    split at h
    · replace h := cond_inv h; obtain ⟨hb, h⟩ := h
      simp only [Bool.and_eq_true] at hb
      obtain ⟨g0, g1⟩ := hb
      obtain rfl := Nat.eq_of_beq_eq_true g0
      obtain rfl := Nat.eq_of_beq_eq_true g1
      exact ⟨Nat.le_of_ble_eq_true rfl, (q12_isWord _ _ _).trans ((f12_isWord_e _ _).symm.trans h)⟩
    · cases h)
def t12_takeSign : List XE := [(0, .aload_n 0, 0, 0, 0, 0, []),
  (1, .iload_n 1, 1, 0, 0, 0, []),
  (2, .invokevirtual 179, 2, 12, 0, 0, []),
  (5, .ifCond .eq 16, 21, 0, 0, 0, []),
  (8, .aload_n 0, 0, 0, 0, 0, []),
  (9, .dup, 0, 0, 0, 0, []),
  (10, .getfield 173, 12, 7, 0, 0, []),
  (13, .iconst 1, 0, 0, 1, 0, []),
  (14, .iadd, 0, 0, 0, 0, []),
  (15, .putfield 173, 12, 7, 0, 0, []),
  (18, .goto 8, 26, 0, 0, 0, []),
  (21, .aload_n 0, 0, 0, 0, 0, []),
  (22, .iconst 1, 0, 0, 1, 0, []),
  (23, .invokevirtual 182, 2, 12, 0, 0, []),
  (26, .return_, 0, 0, 0, 0, [])]
noncomputable def e12_takeSign : XN := [(179, 1, 2, 12, F12_isSign), (182, 0, 2, 12, F12_wrong)]
noncomputable def k12_takeSign (p1 : Int32) (μ : XM) : XR :=
  bI (f12_isSign p1 μ) fun r2 m1 =>
  xite (r2 = 0) (
    bV (f12_wrong 1 m1) fun m3 =>
    xrv m3) (
    mS (sI m1 12 0 7 ((rI m1 12 0 7) + 1)) fun m4 =>
    xrv m4)
set_option maxRecDepth 100000 in
theorem q12_takeSign (n : Nat) (p1 : Int32) (μ : XM) : xrun t12_takeSign e12_takeSign (xrtk none) 20 n (xlo [xr 12 0 0, xi p1] 2) μ = k12_takeSign p1 μ := rfl
theorem x12_takeSign : ∃ f : Int32 → XM → XR, ∀ (p1 : Int32) (μ : XM), f p1 μ = k12_takeSign p1 μ := ⟨fun p1 μ => k12_takeSign p1 μ, fun p1 μ => rfl⟩
noncomputable def f12_takeSign : Int32 → XM → XR := Classical.choose x12_takeSign
theorem f12_takeSign_e (p1 : Int32) (μ : XM) : f12_takeSign p1 μ = k12_takeSign p1 μ := Classical.choose_spec x12_takeSign p1 μ
noncomputable def F12_takeSign : XF := fun av μ => match av with
  | [.inr (.inr (some (t0, i0, 0))), .inl p1] => bif Nat.beq t0 12 && Nat.beq i0 0 then f12_takeSign p1 μ else none
  | _ => none
set_option maxRecDepth 100000 in
theorem c12_takeSign {X : XP} (hX : XOK X) (l : Launch) : Ctr X l y12_takeSign prog_14_method_13_code 2 none (xrm 2) 0 0 F12_takeSign :=
  Ctr_of (tab := t12_takeSign) (env := e12_takeSign) (K := 20) (N := 20000) (fl := fl12) (cl := cl12) (ll := ll12) (jl := jl12) hX mf12_takeSign.2.2.2 ⟨by decide +kernel, flk12, clk12, llk12, jlk12⟩
   (List.forall_mem_cons.mpr ⟨xcal_v (na := 1) (c12_isSign hX l) mf12_isSign ⟨rfl, rfl⟩ ml12_179 mi12_isSign me12_isSign (xrm_ok (by omega) (by decide)) rfl (by decide) (by decide +kernel), List.forall_mem_cons.mpr ⟨xcal_v (na := 1) (c12_wrong hX l) mf12_wrong ⟨rfl, rfl⟩ ml12_182 mi12_wrong me12_wrong (xrm_ok (by omega) (by decide)) rfl (by decide) (by decide +kernel), fun _ h => absurd h List.not_mem_nil⟩⟩)
   (xrm_1 (by decide)) ⟨_, _, rfl, rfl⟩ (fun av μ r μ' h => by
    unfold F12_takeSign at h
    split at h
    · replace h := cond_inv h; obtain ⟨hb, h⟩ := h
      simp only [Bool.and_eq_true] at hb
      obtain ⟨g0, g1⟩ := hb
      obtain rfl := Nat.eq_of_beq_eq_true g0
      obtain rfl := Nat.eq_of_beq_eq_true g1
      exact ⟨Nat.le_of_ble_eq_true rfl, (q12_takeSign _ _ _).trans ((f12_takeSign_e _ _).symm.trans h)⟩
    · cases h)
def t12_hasSign : List XE := [(0, .aload_n 0, 0, 0, 0, 0, []),
  (1, .iload_n 1, 1, 0, 0, 0, []),
  (2, .invokevirtual 179, 2, 12, 0, 0, []),
  (5, .istore_n 2, 2, 0, 0, 0, []),
  (6, .aload_n 0, 0, 0, 0, 0, []),
  (7, .dup, 0, 0, 0, 0, []),
  (8, .getfield 173, 12, 7, 0, 0, []),
  (11, .iload_n 2, 2, 0, 0, 0, []),
  (12, .ifCond .eq 7, 19, 0, 0, 0, []),
  (15, .iconst 1, 0, 0, 1, 0, []),
  (16, .goto 4, 20, 0, 0, 0, []),
  (19, .iconst 0, 0, 0, 0, 0, []),
  (20, .iadd, 0, 0, 0, 0, []),
  (21, .putfield 173, 12, 7, 0, 0, []),
  (24, .iload_n 2, 2, 0, 0, 0, []),
  (25, .ireturn, 0, 0, 0, 0, [])]
noncomputable def e12_hasSign : XN := [(179, 1, 2, 12, F12_isSign)]
noncomputable def k12_hasSign (p1 : Int32) (μ : XM) : XR :=
  bI (f12_isSign p1 μ) fun r2 m1 =>
  vI r2 fun x3 =>
  xite (x3 = 0) (
    mS (sI m1 12 0 7 ((rI m1 12 0 7) + 0)) fun m4 =>
    xrb x3 m4) (
    mS (sI m1 12 0 7 ((rI m1 12 0 7) + 1)) fun m5 =>
    xrb x3 m5)
set_option maxRecDepth 100000 in
theorem q12_hasSign (n : Nat) (p1 : Int32) (μ : XM) : xrun t12_hasSign e12_hasSign (xrtk (some .boolean)) 21 n (xlo [xr 12 0 0, xi p1] 3) μ = k12_hasSign p1 μ := rfl
theorem x12_hasSign : ∃ f : Int32 → XM → XR, ∀ (p1 : Int32) (μ : XM), f p1 μ = k12_hasSign p1 μ := ⟨fun p1 μ => k12_hasSign p1 μ, fun p1 μ => rfl⟩
noncomputable def f12_hasSign : Int32 → XM → XR := Classical.choose x12_hasSign
theorem f12_hasSign_e (p1 : Int32) (μ : XM) : f12_hasSign p1 μ = k12_hasSign p1 μ := Classical.choose_spec x12_hasSign p1 μ
noncomputable def F12_hasSign : XF := fun av μ => match av with
  | [.inr (.inr (some (t0, i0, 0))), .inl p1] => bif Nat.beq t0 12 && Nat.beq i0 0 then f12_hasSign p1 μ else none
  | _ => none
set_option maxRecDepth 100000 in
theorem c12_hasSign {X : XP} (hX : XOK X) (l : Launch) : Ctr X l y12_hasSign prog_14_method_14_code 3 (some .boolean) (xrm 2) 0 0 F12_hasSign :=
  Ctr_of (tab := t12_hasSign) (env := e12_hasSign) (K := 21) (N := 20000) (fl := fl12) (cl := cl12) (ll := ll12) (jl := jl12) hX mf12_hasSign.2.2.2 ⟨by decide +kernel, flk12, clk12, llk12, jlk12⟩
   (List.forall_mem_cons.mpr ⟨xcal_v (na := 1) (c12_isSign hX l) mf12_isSign ⟨rfl, rfl⟩ ml12_179 mi12_isSign me12_isSign (xrm_ok (by omega) (by decide)) rfl (by decide) (by decide +kernel), fun _ h => absurd h List.not_mem_nil⟩)
   (xrm_1 (by decide)) ⟨_, _, rfl, rfl⟩ (fun av μ r μ' h => by
    unfold F12_hasSign at h
    split at h
    · replace h := cond_inv h; obtain ⟨hb, h⟩ := h
      simp only [Bool.and_eq_true] at hb
      obtain ⟨g0, g1⟩ := hb
      obtain rfl := Nat.eq_of_beq_eq_true g0
      obtain rfl := Nat.eq_of_beq_eq_true g1
      exact ⟨Nat.le_of_ble_eq_true rfl, (q12_hasSign _ _ _).trans ((f12_hasSign_e _ _).symm.trans h)⟩
    · cases h)
def t12_hasWord : List XE := [(0, .aload_n 0, 0, 0, 0, 0, []),
  (1, .iload_n 1, 1, 0, 0, 0, []),
  (2, .invokevirtual 185, 2, 12, 0, 0, []),
  (5, .istore_n 2, 2, 0, 0, 0, []),
  (6, .aload_n 0, 0, 0, 0, 0, []),
  (7, .dup, 0, 0, 0, 0, []),
  (8, .getfield 173, 12, 7, 0, 0, []),
  (11, .iload_n 2, 2, 0, 0, 0, []),
  (12, .ifCond .eq 7, 19, 0, 0, 0, []),
  (15, .iconst 1, 0, 0, 1, 0, []),
  (16, .goto 4, 20, 0, 0, 0, []),
  (19, .iconst 0, 0, 0, 0, 0, []),
  (20, .iadd, 0, 0, 0, 0, []),
  (21, .putfield 173, 12, 7, 0, 0, []),
  (24, .iload_n 2, 2, 0, 0, 0, []),
  (25, .ireturn, 0, 0, 0, 0, [])]
noncomputable def e12_hasWord : XN := [(185, 1, 2, 12, F12_isWord)]
noncomputable def k12_hasWord (p1 : Int32) (μ : XM) : XR :=
  bI (f12_isWord p1 μ) fun r2 m1 =>
  vI r2 fun x3 =>
  xite (x3 = 0) (
    mS (sI m1 12 0 7 ((rI m1 12 0 7) + 0)) fun m4 =>
    xrb x3 m4) (
    mS (sI m1 12 0 7 ((rI m1 12 0 7) + 1)) fun m5 =>
    xrb x3 m5)
set_option maxRecDepth 100000 in
theorem q12_hasWord (n : Nat) (p1 : Int32) (μ : XM) : xrun t12_hasWord e12_hasWord (xrtk (some .boolean)) 21 n (xlo [xr 12 0 0, xi p1] 3) μ = k12_hasWord p1 μ := rfl
theorem x12_hasWord : ∃ f : Int32 → XM → XR, ∀ (p1 : Int32) (μ : XM), f p1 μ = k12_hasWord p1 μ := ⟨fun p1 μ => k12_hasWord p1 μ, fun p1 μ => rfl⟩
noncomputable def f12_hasWord : Int32 → XM → XR := Classical.choose x12_hasWord
theorem f12_hasWord_e (p1 : Int32) (μ : XM) : f12_hasWord p1 μ = k12_hasWord p1 μ := Classical.choose_spec x12_hasWord p1 μ
noncomputable def F12_hasWord : XF := fun av μ => match av with
  | [.inr (.inr (some (t0, i0, 0))), .inl p1] => bif Nat.beq t0 12 && Nat.beq i0 0 then f12_hasWord p1 μ else none
  | _ => none
set_option maxRecDepth 100000 in
theorem c12_hasWord {X : XP} (hX : XOK X) (l : Launch) : Ctr X l y12_hasWord prog_14_method_15_code 3 (some .boolean) (xrm 2) 0 0 F12_hasWord :=
  Ctr_of (tab := t12_hasWord) (env := e12_hasWord) (K := 21) (N := 20000) (fl := fl12) (cl := cl12) (ll := ll12) (jl := jl12) hX mf12_hasWord.2.2.2 ⟨by decide +kernel, flk12, clk12, llk12, jlk12⟩
   (List.forall_mem_cons.mpr ⟨xcal_v (na := 1) (c12_isWord hX l) mf12_isWord ⟨rfl, rfl⟩ ml12_185 mi12_isWord me12_isWord (xrm_ok (by omega) (by decide)) rfl (by decide) (by decide +kernel), fun _ h => absurd h List.not_mem_nil⟩)
   (xrm_1 (by decide)) ⟨_, _, rfl, rfl⟩ (fun av μ r μ' h => by
    unfold F12_hasWord at h
    split at h
    · replace h := cond_inv h; obtain ⟨hb, h⟩ := h
      simp only [Bool.and_eq_true] at hb
      obtain ⟨g0, g1⟩ := hb
      obtain rfl := Nat.eq_of_beq_eq_true g0
      obtain rfl := Nat.eq_of_beq_eq_true g1
      exact ⟨Nat.le_of_ble_eq_true rfl, (q12_hasWord _ _ _).trans ((f12_hasWord_e _ _).symm.trans h)⟩
    · cases h)
def t12_takeWord : List XE := [(0, .aload_n 0, 0, 0, 0, 0, []),
  (1, .iload_n 1, 1, 0, 0, 0, []),
  (2, .invokevirtual 188, 2, 12, 0, 0, []),
  (5, .ifCond .ne 8, 13, 0, 0, 0, []),
  (8, .aload_n 0, 0, 0, 0, 0, []),
  (9, .iconst 1, 0, 0, 1, 0, []),
  (10, .invokevirtual 182, 2, 12, 0, 0, []),
  (13, .return_, 0, 0, 0, 0, [])]
noncomputable def e12_takeWord : XN := [(188, 1, 2, 12, F12_hasWord), (182, 0, 2, 12, F12_wrong)]
noncomputable def k12_takeWord (p1 : Int32) (μ : XM) : XR :=
  bI (f12_hasWord p1 μ) fun r2 m1 =>
  xite (r2 = 0) (
    bV (f12_wrong 1 m1) fun m3 =>
    xrv m3) (
    xrv m1)
set_option maxRecDepth 100000 in
theorem q12_takeWord (n : Nat) (p1 : Int32) (μ : XM) : xrun t12_takeWord e12_takeWord (xrtk none) 13 n (xlo [xr 12 0 0, xi p1] 2) μ = k12_takeWord p1 μ := rfl
theorem x12_takeWord : ∃ f : Int32 → XM → XR, ∀ (p1 : Int32) (μ : XM), f p1 μ = k12_takeWord p1 μ := ⟨fun p1 μ => k12_takeWord p1 μ, fun p1 μ => rfl⟩
noncomputable def f12_takeWord : Int32 → XM → XR := Classical.choose x12_takeWord
theorem f12_takeWord_e (p1 : Int32) (μ : XM) : f12_takeWord p1 μ = k12_takeWord p1 μ := Classical.choose_spec x12_takeWord p1 μ
noncomputable def F12_takeWord : XF := fun av μ => match av with
  | [.inr (.inr (some (t0, i0, 0))), .inl p1] => bif Nat.beq t0 12 && Nat.beq i0 0 then f12_takeWord p1 μ else none
  | _ => none
set_option maxRecDepth 100000 in
theorem c12_takeWord {X : XP} (hX : XOK X) (l : Launch) : Ctr X l y12_takeWord prog_14_method_16_code 2 none (xrm 3) 0 0 F12_takeWord :=
  Ctr_of (tab := t12_takeWord) (env := e12_takeWord) (K := 13) (N := 20000) (fl := fl12) (cl := cl12) (ll := ll12) (jl := jl12) hX mf12_takeWord.2.2.2 ⟨by decide +kernel, flk12, clk12, llk12, jlk12⟩
   (List.forall_mem_cons.mpr ⟨xcal_v (na := 1) (c12_hasWord hX l) mf12_hasWord ⟨rfl, rfl⟩ ml12_188 mi12_hasWord me12_hasWord (xrm_ok (by omega) (by decide)) rfl (by decide) (by decide +kernel), List.forall_mem_cons.mpr ⟨xcal_v (na := 1) (c12_wrong hX l) mf12_wrong ⟨rfl, rfl⟩ ml12_182 mi12_wrong me12_wrong (xrm_ok (by omega) (by decide)) rfl (by decide) (by decide +kernel), fun _ h => absurd h List.not_mem_nil⟩⟩)
   (xrm_1 (by decide)) ⟨_, _, rfl, rfl⟩ (fun av μ r μ' h => by
    unfold F12_takeWord at h
    split at h
    · replace h := cond_inv h; obtain ⟨hb, h⟩ := h
      simp only [Bool.and_eq_true] at hb
      obtain ⟨g0, g1⟩ := hb
      obtain rfl := Nat.eq_of_beq_eq_true g0
      obtain rfl := Nat.eq_of_beq_eq_true g1
      exact ⟨Nat.le_of_ble_eq_true rfl, (q12_takeWord _ _ _).trans ((f12_takeWord_e _ _).symm.trans h)⟩
    · cases h)
def t12_within : List XE := [(0, .iload_n 0, 0, 0, 0, 0, []),
  (1, .iload_n 1, 1, 0, 0, 0, []),
  (2, .if_icmp .lt 12, 14, 0, 0, 0, []),
  (5, .iload_n 0, 0, 0, 0, 0, []),
  (6, .iload_n 2, 2, 0, 0, 0, []),
  (7, .if_icmp .gt 7, 14, 0, 0, 0, []),
  (10, .iconst 1, 0, 0, 1, 0, []),
  (11, .goto 4, 15, 0, 0, 0, []),
  (14, .iconst 0, 0, 0, 0, 0, []),
  (15, .ireturn, 0, 0, 0, 0, [])]
noncomputable def e12_within : XN := []
noncomputable def k12_within (p0 : Int32) (p1 : Int32) (p2 : Int32) (μ : XM) : XR :=
  xite (p0 < p1) (
    xrb 0 μ) (
    xite (p2 < p0) (
      xrb 0 μ) (
      xrb 1 μ))
set_option maxRecDepth 100000 in
theorem q12_within (n : Nat) (p0 : Int32) (p1 : Int32) (p2 : Int32) (μ : XM) : xrun t12_within e12_within (xrtk (some .boolean)) 15 n (xlo [xi p0, xi p1, xi p2] 3) μ = k12_within p0 p1 p2 μ := rfl
theorem x12_within : ∃ f : Int32 → Int32 → Int32 → XM → XR, ∀ (p0 : Int32) (p1 : Int32) (p2 : Int32) (μ : XM), f p0 p1 p2 μ = k12_within p0 p1 p2 μ := ⟨fun p0 p1 p2 μ => k12_within p0 p1 p2 μ, fun p0 p1 p2 μ => rfl⟩
noncomputable def f12_within : Int32 → Int32 → Int32 → XM → XR := Classical.choose x12_within
theorem f12_within_e (p0 : Int32) (p1 : Int32) (p2 : Int32) (μ : XM) : f12_within p0 p1 p2 μ = k12_within p0 p1 p2 μ := Classical.choose_spec x12_within p0 p1 p2 μ
noncomputable def F12_within : XF := fun av μ => match av with
  | [.inl p0, .inl p1, .inl p2] => f12_within p0 p1 p2 μ
  | _ => none
set_option maxRecDepth 100000 in
theorem c12_within {X : XP} (hX : XOK X) (l : Launch) : Ctr X l y12_within prog_14_method_17_code 3 (some .boolean) (xrm 1) 0 0 F12_within :=
  Ctr_of (tab := t12_within) (env := e12_within) (K := 15) (N := 20000) (fl := fl12) (cl := cl12) (ll := ll12) (jl := jl12) hX mf12_within.2.2.2 ⟨by decide +kernel, flk12, clk12, llk12, jlk12⟩
   (fun _ h => absurd h List.not_mem_nil)
   (xrm_1 (by decide)) ⟨_, _, rfl, rfl⟩ (fun av μ r μ' h => by
    unfold F12_within at h
    split at h
    · exact ⟨Nat.le_of_ble_eq_true rfl, (q12_within _ _ _ _ _).trans ((f12_within_e _ _ _ _).symm.trans h)⟩
    · cases h)
def t12_standsAsAlways : List XE := [(0, .iconst 0, 0, 0, 0, 0, []),
  (1, .istore_n 2, 2, 0, 0, 0, []),
  (2, .nop, 7, 0, 0, 0, []),
  (2, .iload_n 2, 2, 0, 0, 0, []),
  (3, .bipush 60, 0, 0, 60, 0, []),
  (5, .if_icmp .ge 18, 23, 0, 0, 0, []),
  (8, .aload_n 0, 0, 0, 0, 0, []),
  (9, .getfield 91, 12, 10, 0, 0, []),
  (12, .iload_n 1, 1, 0, 0, 0, []),
  (13, .iload_n 2, 2, 0, 0, 0, []),
  (14, .iadd, 0, 0, 0, 0, []),
  (15, .iconst 0, 0, 0, 0, 0, []),
  (16, .iastore, 0, 0, 0, 0, []),
  (17, .iinc 2 1, 2, 0, 1, 0, []),
  (20, .goto (-18), 2, 0, 0, 0, []),
  (23, .aload_n 0, 0, 0, 0, 0, []),
  (24, .getfield 91, 12, 10, 0, 0, []),
  (27, .iload_n 1, 1, 0, 0, 0, []),
  (28, .iconst 5, 0, 0, 5, 0, []),
  (29, .iadd, 0, 0, 0, 0, []),
  (30, .iconst (-1), 0, 0, (-1), 0, []),
  (31, .iastore, 0, 0, 0, 0, []),
  (32, .return_, 0, 0, 0, 0, [])]
noncomputable def e12_standsAsAlways : XN := []
noncomputable def h12_standsAsAlways_2 (n : Nat) (v1 : Int32) (v2 : Int32) (μ : XM) : XR := arr t12_standsAsAlways e12_standsAsAlways 0 28 n 2 [some (xr 12 0 0), some (xi v1), some (xi v2)] [] μ
set_option maxRecDepth 100000 in
theorem h12_standsAsAlways_2_s (n : Nat) (v1 : Int32) (v2 : Int32) (μ : XM) : h12_standsAsAlways_2 (n + 1) v1 v2 μ = (
  xite (v2 < 60) (
    xck (xin (v1 + v2) 120 && true) <|
    mS (pI μ 12 0 10 (Int32.toNatClampNeg (v1 + v2)) 0) fun m1 =>
    vI (v2 + 1) fun x2 =>
    h12_standsAsAlways_2 n v1 x2 m1) (
    xck (xin (v1 + 5) 120 && true) <|
    mS (pI μ 12 0 10 (Int32.toNatClampNeg (v1 + 5)) (-1)) fun m3 =>
    xrv m3)) := rfl
theorem h12_standsAsAlways_2_0 (v1 : Int32) (v2 : Int32) (μ : XM) : h12_standsAsAlways_2 0 v1 v2 μ = none := rfl
noncomputable def k12_standsAsAlways (n : Nat) (p1 : Int32) (μ : XM) : XR :=
  vI 0 fun x1 =>
  h12_standsAsAlways_2 n p1 x1 μ
set_option maxRecDepth 100000 in
theorem q12_standsAsAlways (n : Nat) (p1 : Int32) (μ : XM) : xrun t12_standsAsAlways e12_standsAsAlways (xrtk none) 28 n (xlo [xr 12 0 0, xi p1] 3) μ = k12_standsAsAlways n p1 μ := rfl
theorem x12_standsAsAlways : ∃ f : Int32 → XM → XR, ∀ (p1 : Int32) (μ : XM), f p1 μ = k12_standsAsAlways 20000 p1 μ := ⟨fun p1 μ => k12_standsAsAlways 20000 p1 μ, fun p1 μ => rfl⟩
noncomputable def f12_standsAsAlways : Int32 → XM → XR := Classical.choose x12_standsAsAlways
theorem f12_standsAsAlways_e (p1 : Int32) (μ : XM) : f12_standsAsAlways p1 μ = k12_standsAsAlways 20000 p1 μ := Classical.choose_spec x12_standsAsAlways p1 μ
noncomputable def F12_standsAsAlways : XF := fun av μ => match av with
  | [.inr (.inr (some (t0, i0, 0))), .inl p1] => bif Nat.beq t0 12 && Nat.beq i0 0 then f12_standsAsAlways p1 μ else none
  | _ => none
set_option maxRecDepth 100000 in
theorem c12_standsAsAlways {X : XP} (hX : XOK X) (l : Launch) : Ctr X l y12_standsAsAlways prog_14_method_18_code 3 none (xrm 1) 0 0 F12_standsAsAlways :=
  Ctr_of (tab := t12_standsAsAlways) (env := e12_standsAsAlways) (K := 28) (N := 20000) (fl := fl12) (cl := cl12) (ll := ll12) (jl := jl12) hX mf12_standsAsAlways.2.2.2 ⟨by decide +kernel, flk12, clk12, llk12, jlk12⟩
   (fun _ h => absurd h List.not_mem_nil)
   (xrm_1 (by decide)) ⟨_, _, rfl, rfl⟩ (fun av μ r μ' h => by
    unfold F12_standsAsAlways at h
    split at h
    · replace h := cond_inv h; obtain ⟨hb, h⟩ := h
      simp only [Bool.and_eq_true] at hb
      obtain ⟨g0, g1⟩ := hb
      obtain rfl := Nat.eq_of_beq_eq_true g0
      obtain rfl := Nat.eq_of_beq_eq_true g1
      exact ⟨Nat.le_of_ble_eq_true rfl, (q12_standsAsAlways _ _ _).trans ((f12_standsAsAlways_e _ _).symm.trans h)⟩
    · cases h)
def t12_takeNumber : List XE := [(0, .aload_n 0, 0, 0, 0, 0, []),
  (1, .getfield 176, 12, 8, 0, 0, []),
  (4, .ifCond .ne 24, 28, 0, 0, 0, []),
  (7, .aload_n 0, 0, 0, 0, 0, []),
  (8, .getfield 24, 12, 4, 0, 0, []),
  (11, .aload_n 0, 0, 0, 0, 0, []),
  (12, .getfield 173, 12, 7, 0, 0, []),
  (15, .iaload, 0, 0, 0, 0, []),
  (16, .iconst 2, 0, 0, 2, 0, []),
  (17, .if_icmp .eq 11, 28, 0, 0, 0, []),
  (20, .aload_n 0, 0, 0, 0, 0, []),
  (21, .iconst 1, 0, 0, 1, 0, []),
  (22, .invokevirtual 182, 2, 12, 0, 0, []),
  (25, .goto 45, 70, 0, 0, 0, []),
  (28, .nop, 7, 0, 0, 0, []),
  (28, .aload_n 0, 0, 0, 0, 0, []),
  (29, .getfield 176, 12, 8, 0, 0, []),
  (32, .ifCond .ne 38, 70, 0, 0, 0, []),
  (35, .aload_n 0, 0, 0, 0, 0, []),
  (36, .getfield 30, 12, 6, 0, 0, []),
  (39, .aload_n 0, 0, 0, 0, 0, []),
  (40, .getfield 173, 12, 7, 0, 0, []),
  (43, .laload, 0, 0, 0, 0, []),
  (44, .iload_n 1, 1, 0, 0, 0, []),
  (45, .i2l, 0, 0, 0, 0, []),
  (46, .lcmp, 0, 0, 0, 0, []),
  (47, .ifCond .lt 18, 65, 0, 0, 0, []),
  (50, .aload_n 0, 0, 0, 0, 0, []),
  (51, .getfield 30, 12, 6, 0, 0, []),
  (54, .aload_n 0, 0, 0, 0, 0, []),
  (55, .getfield 173, 12, 7, 0, 0, []),
  (58, .laload, 0, 0, 0, 0, []),
  (59, .iload_n 2, 2, 0, 0, 0, []),
  (60, .i2l, 0, 0, 0, 0, []),
  (61, .lcmp, 0, 0, 0, 0, []),
  (62, .ifCond .le 8, 70, 0, 0, 0, []),
  (65, .aload_n 0, 0, 0, 0, 0, []),
  (66, .iconst 4, 0, 0, 4, 0, []),
  (67, .invokevirtual 182, 2, 12, 0, 0, []),
  (70, .nop, 1, 0, 0, 0, []),
  (70, .aload_n 0, 0, 0, 0, 0, []),
  (71, .getfield 176, 12, 8, 0, 0, []),
  (74, .ifCond .le 5, 79, 0, 0, 0, []),
  (77, .iconst 0, 0, 0, 0, 0, []),
  (78, .ireturn, 0, 0, 0, 0, []),
  (79, .aload_n 0, 0, 0, 0, 0, []),
  (80, .dup, 0, 0, 0, 0, []),
  (81, .getfield 173, 12, 7, 0, 0, []),
  (84, .iconst 1, 0, 0, 1, 0, []),
  (85, .iadd, 0, 0, 0, 0, []),
  (86, .putfield 173, 12, 7, 0, 0, []),
  (89, .aload_n 0, 0, 0, 0, 0, []),
  (90, .getfield 30, 12, 6, 0, 0, []),
  (93, .aload_n 0, 0, 0, 0, 0, []),
  (94, .getfield 173, 12, 7, 0, 0, []),
  (97, .iconst 1, 0, 0, 1, 0, []),
  (98, .isub, 0, 0, 0, 0, []),
  (99, .laload, 0, 0, 0, 0, []),
  (100, .l2i, 0, 0, 0, 0, []),
  (101, .ireturn, 0, 0, 0, 0, [])]
noncomputable def e12_takeNumber : XN := [(182, 0, 2, 12, F12_wrong)]
noncomputable def h12_takeNumber_70 (n : Nat) (μ : XM) : XR := arr t12_takeNumber e12_takeNumber 1 65 n 70 [some (xr 12 0 0), none, none] [] μ
noncomputable def h12_takeNumber_28 (n : Nat) (v1 : Int32) (v2 : Int32) (μ : XM) : XR := arr t12_takeNumber e12_takeNumber 1 65 n 28 [some (xr 12 0 0), some (xi v1), some (xi v2)] [] μ
set_option maxRecDepth 100000 in
theorem h12_takeNumber_70_s (n : Nat) (μ : XM) : h12_takeNumber_70 (n + 1)  μ = (
  xite ((0 : Int32) < (rI μ 12 0 8)) (
    xri 0 μ) (
    mS (sI μ 12 0 7 ((rI μ 12 0 7) + 1)) fun m1 =>
    xck (xin ((rI m1 12 0 7) - 1) 1002) <|
    xri (Int64.toInt32 (aL m1 12 0 6 (Int32.toNatClampNeg ((rI m1 12 0 7) - 1)))) m1)) := rfl
theorem h12_takeNumber_70_0 (μ : XM) : h12_takeNumber_70 0  μ = none := rfl
set_option maxRecDepth 100000 in
theorem h12_takeNumber_28_s (n : Nat) (v1 : Int32) (v2 : Int32) (μ : XM) : h12_takeNumber_28 (n + 1) v1 v2 μ = (
  xite ((rI μ 12 0 8) = 0) (
    xck (xin (rI μ 12 0 7) 1002) <|
    xite ((lg_cmp (aL μ 12 0 6 (Int32.toNatClampNeg (rI μ 12 0 7))) (Int32.toInt64 v1)) < 0) (
      bV (f12_wrong 4 μ) fun m1 =>
      h12_takeNumber_70 n m1) (
      xck (xin (rI μ 12 0 7) 1002) <|
      xite ((0 : Int32) < (lg_cmp (aL μ 12 0 6 (Int32.toNatClampNeg (rI μ 12 0 7))) (Int32.toInt64 v2))) (
        bV (f12_wrong 4 μ) fun m2 =>
        h12_takeNumber_70 n m2) (
        h12_takeNumber_70 n μ))) (
    h12_takeNumber_70 n μ)) := rfl
theorem h12_takeNumber_28_0 (v1 : Int32) (v2 : Int32) (μ : XM) : h12_takeNumber_28 0 v1 v2 μ = none := rfl
noncomputable def k12_takeNumber (n : Nat) (p1 : Int32) (p2 : Int32) (μ : XM) : XR :=
  xite ((rI μ 12 0 8) = 0) (
    xck (xin (rI μ 12 0 7) 1002) <|
    xite ((aI μ 12 0 4 (Int32.toNatClampNeg (rI μ 12 0 7))) = 2) (
      h12_takeNumber_28 n p1 p2 μ) (
      bV (f12_wrong 1 μ) fun m1 =>
      h12_takeNumber_70 n m1)) (
    h12_takeNumber_28 n p1 p2 μ)
set_option maxRecDepth 100000 in
theorem q12_takeNumber (n : Nat) (p1 : Int32) (p2 : Int32) (μ : XM) : xrun t12_takeNumber e12_takeNumber (xrtk (some .int)) 65 n (xlo [xr 12 0 0, xi p1, xi p2] 3) μ = k12_takeNumber n p1 p2 μ := rfl
theorem x12_takeNumber : ∃ f : Int32 → Int32 → XM → XR, ∀ (p1 : Int32) (p2 : Int32) (μ : XM), f p1 p2 μ = k12_takeNumber 20000 p1 p2 μ := ⟨fun p1 p2 μ => k12_takeNumber 20000 p1 p2 μ, fun p1 p2 μ => rfl⟩
noncomputable def f12_takeNumber : Int32 → Int32 → XM → XR := Classical.choose x12_takeNumber
theorem f12_takeNumber_e (p1 : Int32) (p2 : Int32) (μ : XM) : f12_takeNumber p1 p2 μ = k12_takeNumber 20000 p1 p2 μ := Classical.choose_spec x12_takeNumber p1 p2 μ
noncomputable def F12_takeNumber : XF := fun av μ => match av with
  | [.inr (.inr (some (t0, i0, 0))), .inl p1, .inl p2] => bif Nat.beq t0 12 && Nat.beq i0 0 then f12_takeNumber p1 p2 μ else none
  | _ => none
set_option maxRecDepth 100000 in
theorem c12_takeNumber {X : XP} (hX : XOK X) (l : Launch) : Ctr X l y12_takeNumber prog_14_method_19_code 3 (some .int) (xrm 2) 0 0 F12_takeNumber :=
  Ctr_of (tab := t12_takeNumber) (env := e12_takeNumber) (K := 65) (N := 20000) (fl := fl12) (cl := cl12) (ll := ll12) (jl := jl12) hX mf12_takeNumber.2.2.2 ⟨by decide +kernel, flk12, clk12, llk12, jlk12⟩
   (List.forall_mem_cons.mpr ⟨xcal_v (na := 1) (c12_wrong hX l) mf12_wrong ⟨rfl, rfl⟩ ml12_182 mi12_wrong me12_wrong (xrm_ok (by omega) (by decide)) rfl (by decide) (by decide +kernel), fun _ h => absurd h List.not_mem_nil⟩)
   (xrm_1 (by decide)) ⟨_, _, rfl, rfl⟩ (fun av μ r μ' h => by
    unfold F12_takeNumber at h
    split at h
    · replace h := cond_inv h; obtain ⟨hb, h⟩ := h
      simp only [Bool.and_eq_true] at hb
      obtain ⟨g0, g1⟩ := hb
      obtain rfl := Nat.eq_of_beq_eq_true g0
      obtain rfl := Nat.eq_of_beq_eq_true g1
      exact ⟨Nat.le_of_ble_eq_true rfl, (q12_takeNumber _ _ _ _).trans ((f12_takeNumber_e _ _ _).symm.trans h)⟩
    · cases h)
def t12_takeAfter : List XE := [(0, .aload_n 0, 0, 0, 0, 0, []),
  (1, .iload_n 1, 1, 0, 0, 0, []),
  (2, .invokevirtual 191, 2, 12, 0, 0, []),
  (5, .aload_n 0, 0, 0, 0, 0, []),
  (6, .iload_n 2, 2, 0, 0, 0, []),
  (7, .iload_n 3, 3, 0, 0, 0, []),
  (8, .invokevirtual 194, 3, 12, 0, 0, []),
  (11, .ireturn, 0, 0, 0, 0, [])]
noncomputable def e12_takeAfter : XN := [(191, 0, 2, 12, F12_takeWord), (194, 1, 3, 12, F12_takeNumber)]
noncomputable def k12_takeAfter (p1 : Int32) (p2 : Int32) (p3 : Int32) (μ : XM) : XR :=
  bV (f12_takeWord p1 μ) fun m1 =>
  bI (f12_takeNumber p2 p3 m1) fun r3 m2 =>
  xri r3 m2
set_option maxRecDepth 100000 in
theorem q12_takeAfter (n : Nat) (p1 : Int32) (p2 : Int32) (p3 : Int32) (μ : XM) : xrun t12_takeAfter e12_takeAfter (xrtk (some .int)) 13 n (xlo [xr 12 0 0, xi p1, xi p2, xi p3] 4) μ = k12_takeAfter p1 p2 p3 μ := rfl
theorem x12_takeAfter : ∃ f : Int32 → Int32 → Int32 → XM → XR, ∀ (p1 : Int32) (p2 : Int32) (p3 : Int32) (μ : XM), f p1 p2 p3 μ = k12_takeAfter p1 p2 p3 μ := ⟨fun p1 p2 p3 μ => k12_takeAfter p1 p2 p3 μ, fun p1 p2 p3 μ => rfl⟩
noncomputable def f12_takeAfter : Int32 → Int32 → Int32 → XM → XR := Classical.choose x12_takeAfter
theorem f12_takeAfter_e (p1 : Int32) (p2 : Int32) (p3 : Int32) (μ : XM) : f12_takeAfter p1 p2 p3 μ = k12_takeAfter p1 p2 p3 μ := Classical.choose_spec x12_takeAfter p1 p2 p3 μ
noncomputable def F12_takeAfter : XF := fun av μ => match av with
  | [.inr (.inr (some (t0, i0, 0))), .inl p1, .inl p2, .inl p3] => bif Nat.beq t0 12 && Nat.beq i0 0 then f12_takeAfter p1 p2 p3 μ else none
  | _ => none
set_option maxRecDepth 100000 in
theorem c12_takeAfter {X : XP} (hX : XOK X) (l : Launch) : Ctr X l y12_takeAfter prog_14_method_20_code 4 (some .int) (xrm 4) 0 0 F12_takeAfter :=
  Ctr_of (tab := t12_takeAfter) (env := e12_takeAfter) (K := 13) (N := 20000) (fl := fl12) (cl := cl12) (ll := ll12) (jl := jl12) hX mf12_takeAfter.2.2.2 ⟨by decide +kernel, flk12, clk12, llk12, jlk12⟩
   (List.forall_mem_cons.mpr ⟨xcal_v (na := 1) (c12_takeWord hX l) mf12_takeWord ⟨rfl, rfl⟩ ml12_191 mi12_takeWord me12_takeWord (xrm_ok (by omega) (by decide)) rfl (by decide) (by decide +kernel), List.forall_mem_cons.mpr ⟨xcal_v (na := 2) (c12_takeNumber hX l) mf12_takeNumber ⟨rfl, rfl⟩ ml12_194 mi12_takeNumber me12_takeNumber (xrm_ok (by omega) (by decide)) rfl (by decide) (by decide +kernel), fun _ h => absurd h List.not_mem_nil⟩⟩)
   (xrm_1 (by decide)) ⟨_, _, rfl, rfl⟩ (fun av μ r μ' h => by
    unfold F12_takeAfter at h
    split at h
    · replace h := cond_inv h; obtain ⟨hb, h⟩ := h
      simp only [Bool.and_eq_true] at hb
      obtain ⟨g0, g1⟩ := hb
      obtain rfl := Nat.eq_of_beq_eq_true g0
      obtain rfl := Nat.eq_of_beq_eq_true g1
      exact ⟨Nat.le_of_ble_eq_true rfl, (q12_takeAfter _ _ _ _ _).trans ((f12_takeAfter_e _ _ _ _).symm.trans h)⟩
    · cases h)
def t12_wordHere : List XE := [(0, .iconst (-1), 0, 0, (-1), 0, []),
  (1, .istore_n 3, 3, 0, 0, 0, []),
  (2, .iconst 0, 0, 0, 0, 0, []),
  (3, .istore 4, 4, 0, 0, 0, []),
  (5, .nop, 31, 0, 0, 0, []),
  (5, .iload 4, 4, 0, 0, 0, []),
  (7, .iload_n 2, 2, 0, 0, 0, []),
  (8, .if_icmp .ge 27, 35, 0, 0, 0, []),
  (11, .aload_n 0, 0, 0, 0, 0, []),
  (12, .iload_n 1, 1, 0, 0, 0, []),
  (13, .iload 4, 4, 0, 0, 0, []),
  (15, .iadd, 0, 0, 0, 0, []),
  (16, .invokevirtual 185, 2, 12, 0, 0, []),
  (19, .ifCond .eq 8, 27, 0, 0, 0, []),
  (22, .iload 4, 4, 0, 0, 0, []),
  (24, .goto 4, 28, 0, 0, 0, []),
  (27, .iload_n 3, 3, 0, 0, 0, []),
  (28, .istore_n 3, 3, 0, 0, 0, []),
  (29, .iinc 4 1, 4, 0, 1, 0, []),
  (32, .goto (-27), 5, 0, 0, 0, []),
  (35, .iload_n 3, 3, 0, 0, 0, []),
  (36, .ireturn, 0, 0, 0, 0, [])]
noncomputable def e12_wordHere : XN := [(185, 1, 2, 12, F12_isWord)]
noncomputable def h12_wordHere_5 (n : Nat) (v1 : Int32) (v2 : Int32) (v3 : Int32) (v4 : Int32) (μ : XM) : XR := arr t12_wordHere e12_wordHere 1 27 n 5 [some (xr 12 0 0), some (xi v1), some (xi v2), some (xi v3), some (xi v4)] [] μ
set_option maxRecDepth 100000 in
theorem h12_wordHere_5_s (n : Nat) (v1 : Int32) (v2 : Int32) (v3 : Int32) (v4 : Int32) (μ : XM) : h12_wordHere_5 (n + 1) v1 v2 v3 v4 μ = (
  xite (v4 < v2) (
    bI (f12_isWord (v1 + v4) μ) fun r2 m1 =>
    xite (r2 = 0) (
      vI v3 fun x3 =>
      vI (v4 + 1) fun x4 =>
      h12_wordHere_5 n v1 v2 x3 x4 m1) (
      vI v4 fun x5 =>
      vI (v4 + 1) fun x6 =>
      h12_wordHere_5 n v1 v2 x5 x6 m1)) (
    xri v3 μ)) := rfl
theorem h12_wordHere_5_0 (v1 : Int32) (v2 : Int32) (v3 : Int32) (v4 : Int32) (μ : XM) : h12_wordHere_5 0 v1 v2 v3 v4 μ = none := rfl
noncomputable def k12_wordHere (n : Nat) (p1 : Int32) (p2 : Int32) (μ : XM) : XR :=
  vI (-1) fun x1 =>
  vI 0 fun x2 =>
  h12_wordHere_5 n p1 p2 x1 x2 μ
set_option maxRecDepth 100000 in
theorem q12_wordHere (n : Nat) (p1 : Int32) (p2 : Int32) (μ : XM) : xrun t12_wordHere e12_wordHere (xrtk (some .int)) 27 n (xlo [xr 12 0 0, xi p1, xi p2] 5) μ = k12_wordHere n p1 p2 μ := rfl
theorem x12_wordHere : ∃ f : Int32 → Int32 → XM → XR, ∀ (p1 : Int32) (p2 : Int32) (μ : XM), f p1 p2 μ = k12_wordHere 20000 p1 p2 μ := ⟨fun p1 p2 μ => k12_wordHere 20000 p1 p2 μ, fun p1 p2 μ => rfl⟩
noncomputable def f12_wordHere : Int32 → Int32 → XM → XR := Classical.choose x12_wordHere
theorem f12_wordHere_e (p1 : Int32) (p2 : Int32) (μ : XM) : f12_wordHere p1 p2 μ = k12_wordHere 20000 p1 p2 μ := Classical.choose_spec x12_wordHere p1 p2 μ
noncomputable def F12_wordHere : XF := fun av μ => match av with
  | [.inr (.inr (some (t0, i0, 0))), .inl p1, .inl p2] => bif Nat.beq t0 12 && Nat.beq i0 0 then f12_wordHere p1 p2 μ else none
  | _ => none
set_option maxRecDepth 100000 in
theorem c12_wordHere {X : XP} (hX : XOK X) (l : Launch) : Ctr X l y12_wordHere prog_14_method_21_code 5 (some .int) (xrm 2) 0 0 F12_wordHere :=
  Ctr_of (tab := t12_wordHere) (env := e12_wordHere) (K := 27) (N := 20000) (fl := fl12) (cl := cl12) (ll := ll12) (jl := jl12) hX mf12_wordHere.2.2.2 ⟨by decide +kernel, flk12, clk12, llk12, jlk12⟩
   (List.forall_mem_cons.mpr ⟨xcal_v (na := 1) (c12_isWord hX l) mf12_isWord ⟨rfl, rfl⟩ ml12_185 mi12_isWord me12_isWord (xrm_ok (by omega) (by decide)) rfl (by decide) (by decide +kernel), fun _ h => absurd h List.not_mem_nil⟩)
   (xrm_1 (by decide)) ⟨_, _, rfl, rfl⟩ (fun av μ r μ' h => by
    unfold F12_wordHere at h
    split at h
    · replace h := cond_inv h; obtain ⟨hb, h⟩ := h
      simp only [Bool.and_eq_true] at hb
      obtain ⟨g0, g1⟩ := hb
      obtain rfl := Nat.eq_of_beq_eq_true g0
      obtain rfl := Nat.eq_of_beq_eq_true g1
      exact ⟨Nat.le_of_ble_eq_true rfl, (q12_wordHere _ _ _ _).trans ((f12_wordHere_e _ _ _).symm.trans h)⟩
    · cases h)
def t12_takeOne : List XE := [(0, .aload_n 0, 0, 0, 0, 0, []),
  (1, .getfield 176, 12, 8, 0, 0, []),
  (4, .ifCond .le 7, 11, 0, 0, 0, []),
  (7, .iconst (-1), 0, 0, (-1), 0, []),
  (8, .goto 9, 17, 0, 0, 0, []),
  (11, .aload_n 0, 0, 0, 0, 0, []),
  (12, .iload_n 1, 1, 0, 0, 0, []),
  (13, .iload_n 2, 2, 0, 0, 0, []),
  (14, .invokevirtual 198, 3, 12, 0, 0, []),
  (17, .istore_n 3, 3, 0, 0, 0, []),
  (18, .aload_n 0, 0, 0, 0, 0, []),
  (19, .getfield 176, 12, 8, 0, 0, []),
  (22, .ifCond .ne 12, 34, 0, 0, 0, []),
  (25, .iload_n 3, 3, 0, 0, 0, []),
  (26, .ifCond .ge 8, 34, 0, 0, 0, []),
  (29, .aload_n 0, 0, 0, 0, 0, []),
  (30, .iconst 1, 0, 0, 1, 0, []),
  (31, .invokevirtual 182, 2, 12, 0, 0, []),
  (34, .nop, 9, 0, 0, 0, []),
  (34, .aload_n 0, 0, 0, 0, 0, []),
  (35, .dup, 0, 0, 0, 0, []),
  (36, .getfield 173, 12, 7, 0, 0, []),
  (39, .aload_n 0, 0, 0, 0, 0, []),
  (40, .getfield 176, 12, 8, 0, 0, []),
  (43, .ifCond .le 7, 50, 0, 0, 0, []),
  (46, .iconst 0, 0, 0, 0, 0, []),
  (47, .goto 4, 51, 0, 0, 0, []),
  (50, .iconst 1, 0, 0, 1, 0, []),
  (51, .iadd, 0, 0, 0, 0, []),
  (52, .putfield 173, 12, 7, 0, 0, []),
  (55, .aload_n 0, 0, 0, 0, 0, []),
  (56, .getfield 176, 12, 8, 0, 0, []),
  (59, .ifCond .le 7, 66, 0, 0, 0, []),
  (62, .iconst 0, 0, 0, 0, 0, []),
  (63, .goto 4, 67, 0, 0, 0, []),
  (66, .iload_n 3, 3, 0, 0, 0, []),
  (67, .ireturn, 0, 0, 0, 0, [])]
noncomputable def e12_takeOne : XN := [(198, 1, 3, 12, F12_wordHere), (182, 0, 2, 12, F12_wrong)]
noncomputable def h12_takeOne_34 (n : Nat) (v3 : Int32) (μ : XM) : XR := arr t12_takeOne e12_takeOne 1 42 n 34 [some (xr 12 0 0), none, none, some (xi v3)] [] μ
set_option maxRecDepth 100000 in
theorem h12_takeOne_34_s (n : Nat) (v3 : Int32) (μ : XM) : h12_takeOne_34 (n + 1) v3 μ = (
  xite ((0 : Int32) < (rI μ 12 0 8)) (
    mS (sI μ 12 0 7 ((rI μ 12 0 7) + 0)) fun m1 =>
    xite ((0 : Int32) < (rI m1 12 0 8)) (
      xri 0 m1) (
      xri v3 m1)) (
    mS (sI μ 12 0 7 ((rI μ 12 0 7) + 1)) fun m2 =>
    xite ((0 : Int32) < (rI m2 12 0 8)) (
      xri 0 m2) (
      xri v3 m2))) := rfl
theorem h12_takeOne_34_0 (v3 : Int32) (μ : XM) : h12_takeOne_34 0 v3 μ = none := rfl
noncomputable def k12_takeOne (n : Nat) (p1 : Int32) (p2 : Int32) (μ : XM) : XR :=
  xite ((0 : Int32) < (rI μ 12 0 8)) (
    vI (-1) fun x1 =>
    xite ((rI μ 12 0 8) = 0) (
      xite (x1 < 0) (
        bV (f12_wrong 1 μ) fun m2 =>
        h12_takeOne_34 n x1 m2) (
        h12_takeOne_34 n x1 μ)) (
      h12_takeOne_34 n x1 μ)) (
    bI (f12_wordHere p1 p2 μ) fun r4 m3 =>
    vI r4 fun x5 =>
    xite ((rI m3 12 0 8) = 0) (
      xite (x5 < 0) (
        bV (f12_wrong 1 m3) fun m6 =>
        h12_takeOne_34 n x5 m6) (
        h12_takeOne_34 n x5 m3)) (
      h12_takeOne_34 n x5 m3))
set_option maxRecDepth 100000 in
theorem q12_takeOne (n : Nat) (p1 : Int32) (p2 : Int32) (μ : XM) : xrun t12_takeOne e12_takeOne (xrtk (some .int)) 42 n (xlo [xr 12 0 0, xi p1, xi p2] 4) μ = k12_takeOne n p1 p2 μ := rfl
theorem x12_takeOne : ∃ f : Int32 → Int32 → XM → XR, ∀ (p1 : Int32) (p2 : Int32) (μ : XM), f p1 p2 μ = k12_takeOne 20000 p1 p2 μ := ⟨fun p1 p2 μ => k12_takeOne 20000 p1 p2 μ, fun p1 p2 μ => rfl⟩
noncomputable def f12_takeOne : Int32 → Int32 → XM → XR := Classical.choose x12_takeOne
theorem f12_takeOne_e (p1 : Int32) (p2 : Int32) (μ : XM) : f12_takeOne p1 p2 μ = k12_takeOne 20000 p1 p2 μ := Classical.choose_spec x12_takeOne p1 p2 μ
noncomputable def F12_takeOne : XF := fun av μ => match av with
  | [.inr (.inr (some (t0, i0, 0))), .inl p1, .inl p2] => bif Nat.beq t0 12 && Nat.beq i0 0 then f12_takeOne p1 p2 μ else none
  | _ => none
set_option maxRecDepth 100000 in
theorem c12_takeOne {X : XP} (hX : XOK X) (l : Launch) : Ctr X l y12_takeOne prog_14_method_22_code 4 (some .int) (xrm 3) 0 0 F12_takeOne :=
  Ctr_of (tab := t12_takeOne) (env := e12_takeOne) (K := 42) (N := 20000) (fl := fl12) (cl := cl12) (ll := ll12) (jl := jl12) hX mf12_takeOne.2.2.2 ⟨by decide +kernel, flk12, clk12, llk12, jlk12⟩
   (List.forall_mem_cons.mpr ⟨xcal_v (na := 2) (c12_wordHere hX l) mf12_wordHere ⟨rfl, rfl⟩ ml12_198 mi12_wordHere me12_wordHere (xrm_ok (by omega) (by decide)) rfl (by decide) (by decide +kernel), List.forall_mem_cons.mpr ⟨xcal_v (na := 1) (c12_wrong hX l) mf12_wrong ⟨rfl, rfl⟩ ml12_182 mi12_wrong me12_wrong (xrm_ok (by omega) (by decide)) rfl (by decide) (by decide +kernel), fun _ h => absurd h List.not_mem_nil⟩⟩)
   (xrm_1 (by decide)) ⟨_, _, rfl, rfl⟩ (fun av μ r μ' h => by
    unfold F12_takeOne at h
    split at h
    · replace h := cond_inv h; obtain ⟨hb, h⟩ := h
      simp only [Bool.and_eq_true] at hb
      obtain ⟨g0, g1⟩ := hb
      obtain rfl := Nat.eq_of_beq_eq_true g0
      obtain rfl := Nat.eq_of_beq_eq_true g1
      exact ⟨Nat.le_of_ble_eq_true rfl, (q12_takeOne _ _ _ _).trans ((f12_takeOne_e _ _ _).symm.trans h)⟩
    · cases h)
def t12_isName : List XE := [(0, .aload_n 0, 0, 0, 0, 0, []),
  (1, .getfield 176, 12, 8, 0, 0, []),
  (4, .ifCond .ne 30, 34, 0, 0, 0, []),
  (7, .aload_n 0, 0, 0, 0, 0, []),
  (8, .getfield 24, 12, 4, 0, 0, []),
  (11, .aload_n 0, 0, 0, 0, 0, []),
  (12, .getfield 173, 12, 7, 0, 0, []),
  (15, .iaload, 0, 0, 0, 0, []),
  (16, .iconst 1, 0, 0, 1, 0, []),
  (17, .if_icmp .ne 17, 34, 0, 0, 0, []),
  (20, .aload_n 0, 0, 0, 0, 0, []),
  (21, .iconst 0, 0, 0, 0, 0, []),
  (22, .bipush 23, 0, 0, 23, 0, []),
  (24, .invokevirtual 198, 3, 12, 0, 0, []),
  (27, .ifCond .ge 7, 34, 0, 0, 0, []),
  (30, .iconst 1, 0, 0, 1, 0, []),
  (31, .goto 4, 35, 0, 0, 0, []),
  (34, .iconst 0, 0, 0, 0, 0, []),
  (35, .ireturn, 0, 0, 0, 0, [])]
noncomputable def e12_isName : XN := [(198, 1, 3, 12, F12_wordHere)]
noncomputable def k12_isName (μ : XM) : XR :=
  xite ((rI μ 12 0 8) = 0) (
    xck (xin (rI μ 12 0 7) 1002) <|
    xite ((aI μ 12 0 4 (Int32.toNatClampNeg (rI μ 12 0 7))) = 1) (
      bI (f12_wordHere 0 23 μ) fun r2 m1 =>
      xite (r2 < 0) (
        xrb 1 m1) (
        xrb 0 m1)) (
      xrb 0 μ)) (
    xrb 0 μ)
set_option maxRecDepth 100000 in
theorem q12_isName (n : Nat) (μ : XM) : xrun t12_isName e12_isName (xrtk (some .boolean)) 24 n (xlo [xr 12 0 0] 1) μ = k12_isName  μ := rfl
theorem x12_isName : ∃ f : XM → XR, ∀ (μ : XM), f μ = k12_isName  μ := ⟨fun μ => k12_isName  μ, fun μ => rfl⟩
noncomputable def f12_isName : XM → XR := Classical.choose x12_isName
theorem f12_isName_e (μ : XM) : f12_isName μ = k12_isName  μ := Classical.choose_spec x12_isName μ
noncomputable def F12_isName : XF := fun av μ => match av with
  | [.inr (.inr (some (t0, i0, 0)))] => bif Nat.beq t0 12 && Nat.beq i0 0 then f12_isName  μ else none
  | _ => none
set_option maxRecDepth 100000 in
theorem c12_isName {X : XP} (hX : XOK X) (l : Launch) : Ctr X l y12_isName prog_14_method_23_code 1 (some .boolean) (xrm 3) 0 0 F12_isName :=
  Ctr_of (tab := t12_isName) (env := e12_isName) (K := 24) (N := 20000) (fl := fl12) (cl := cl12) (ll := ll12) (jl := jl12) hX mf12_isName.2.2.2 ⟨by decide +kernel, flk12, clk12, llk12, jlk12⟩
   (List.forall_mem_cons.mpr ⟨xcal_v (na := 2) (c12_wordHere hX l) mf12_wordHere ⟨rfl, rfl⟩ ml12_198 mi12_wordHere me12_wordHere (xrm_ok (by omega) (by decide)) rfl (by decide) (by decide +kernel), fun _ h => absurd h List.not_mem_nil⟩)
   (xrm_1 (by decide)) ⟨_, _, rfl, rfl⟩ (fun av μ r μ' h => by
    unfold F12_isName at h
    split at h
    · replace h := cond_inv h; obtain ⟨hb, h⟩ := h
      simp only [Bool.and_eq_true] at hb
      obtain ⟨g0, g1⟩ := hb
      obtain rfl := Nat.eq_of_beq_eq_true g0
      obtain rfl := Nat.eq_of_beq_eq_true g1
      exact ⟨Nat.le_of_ble_eq_true rfl, (q12_isName _  _).trans ((f12_isName_e  _).symm.trans h)⟩
    · cases h)
def t12_nameAt : List XE := [(0, .iconst 0, 0, 0, 0, 0, []),
  (1, .istore_n 2, 2, 0, 0, 0, []),
  (2, .nop, 7, 0, 0, 0, []),
  (2, .iload_n 2, 2, 0, 0, 0, []),
  (3, .iload_n 1, 1, 0, 0, 0, []),
  (4, .ifCond .eq 10, 14, 0, 0, 0, []),
  (7, .aload_n 0, 0, 0, 0, 0, []),
  (8, .getfield 201, 12, 19, 0, 0, []),
  (11, .goto 7, 18, 0, 0, 0, []),
  (14, .aload_n 0, 0, 0, 0, 0, []),
  (15, .getfield 204, 12, 18, 0, 0, []),
  (18, .nop, 7, 0, 0, 0, []),
  (18, .if_icmp .ge 61, 79, 0, 0, 0, []),
  (21, .iload_n 1, 1, 0, 0, 0, []),
  (22, .ifCond .eq 12, 34, 0, 0, 0, []),
  (25, .aload_n 0, 0, 0, 0, 0, []),
  (26, .getfield 103, 12, 15, 0, 0, []),
  (29, .iload_n 2, 2, 0, 0, 0, []),
  (30, .laload, 0, 0, 0, 0, []),
  (31, .goto 9, 40, 0, 0, 0, []),
  (34, .aload_n 0, 0, 0, 0, 0, []),
  (35, .getfield 100, 12, 14, 0, 0, []),
  (38, .iload_n 2, 2, 0, 0, 0, []),
  (39, .laload, 0, 0, 0, 0, []),
  (40, .nop, 7, 0, 0, 0, []),
  (40, .aload_n 0, 0, 0, 0, 0, []),
  (41, .getfield 30, 12, 6, 0, 0, []),
  (44, .aload_n 0, 0, 0, 0, 0, []),
  (45, .getfield 173, 12, 7, 0, 0, []),
  (48, .laload, 0, 0, 0, 0, []),
  (49, .lcmp, 0, 0, 0, 0, []),
  (50, .ifCond .ne 23, 73, 0, 0, 0, []),
  (53, .iload_n 1, 1, 0, 0, 0, []),
  (54, .ifCond .eq 12, 66, 0, 0, 0, []),
  (57, .aload_n 0, 0, 0, 0, 0, []),
  (58, .getfield 109, 12, 17, 0, 0, []),
  (61, .iload_n 2, 2, 0, 0, 0, []),
  (62, .iaload, 0, 0, 0, 0, []),
  (63, .goto 9, 72, 0, 0, 0, []),
  (66, .aload_n 0, 0, 0, 0, 0, []),
  (67, .getfield 106, 12, 16, 0, 0, []),
  (70, .iload_n 2, 2, 0, 0, 0, []),
  (71, .iaload, 0, 0, 0, 0, []),
  (72, .ireturn, 0, 0, 0, 0, []),
  (73, .iinc 2 1, 2, 0, 1, 0, []),
  (76, .goto (-74), 2, 0, 0, 0, []),
  (79, .iconst (-1), 0, 0, (-1), 0, []),
  (80, .ireturn, 0, 0, 0, 0, [])]
noncomputable def e12_nameAt : XN := []
noncomputable def h12_nameAt_2 (n : Nat) (v1 : Int32) (v2 : Int32) (μ : XM) : XR := arr t12_nameAt e12_nameAt 1 53 n 2 [some (xr 12 0 0), some (xi v1), some (xi v2)] [] μ
noncomputable def h12_nameAt_18 (n : Nat) (v1 : Int32) (v2 : Int32) (s0 : Int32) (s1 : Int32) (μ : XM) : XR := arr t12_nameAt e12_nameAt 1 53 n 18 [some (xr 12 0 0), some (xi v1), some (xi v2)] [xi s0, xi s1] μ
noncomputable def h12_nameAt_40 (n : Nat) (v1 : Int32) (v2 : Int32) (s0 : Int64) (μ : XM) : XR := arr t12_nameAt e12_nameAt 1 53 n 40 [some (xr 12 0 0), some (xi v1), some (xi v2)] [xl s0] μ
set_option maxRecDepth 100000 in
theorem h12_nameAt_2_s (n : Nat) (v1 : Int32) (v2 : Int32) (μ : XM) : h12_nameAt_2 (n + 1) v1 v2 μ = (
  xite (v1 = 0) (
    h12_nameAt_18 n v1 v2 (rI μ 12 0 18) v2 μ) (
    h12_nameAt_18 n v1 v2 (rI μ 12 0 19) v2 μ)) := rfl
theorem h12_nameAt_2_0 (v1 : Int32) (v2 : Int32) (μ : XM) : h12_nameAt_2 0 v1 v2 μ = none := rfl
set_option maxRecDepth 100000 in
theorem h12_nameAt_18_s (n : Nat) (v1 : Int32) (v2 : Int32) (s0 : Int32) (s1 : Int32) (μ : XM) : h12_nameAt_18 (n + 1) v1 v2 s0 s1 μ = (
  xite (s1 < s0) (
    xite (v1 = 0) (
      xck (xin v2 14) <|
      h12_nameAt_40 n v1 v2 (aL μ 12 0 14 (Int32.toNatClampNeg v2)) μ) (
      xck (xin v2 14) <|
      h12_nameAt_40 n v1 v2 (aL μ 12 0 15 (Int32.toNatClampNeg v2)) μ)) (
    xri (-1) μ)) := rfl
theorem h12_nameAt_18_0 (v1 : Int32) (v2 : Int32) (s0 : Int32) (s1 : Int32) (μ : XM) : h12_nameAt_18 0 v1 v2 s0 s1 μ = none := rfl
set_option maxRecDepth 100000 in
theorem h12_nameAt_40_s (n : Nat) (v1 : Int32) (v2 : Int32) (s0 : Int64) (μ : XM) : h12_nameAt_40 (n + 1) v1 v2 s0 μ = (
  xck (xin (rI μ 12 0 7) 1002) <|
  xite ((lg_cmp s0 (aL μ 12 0 6 (Int32.toNatClampNeg (rI μ 12 0 7)))) = 0) (
    xite (v1 = 0) (
      xck (xin v2 14) <|
      xri (aI μ 12 0 16 (Int32.toNatClampNeg v2)) μ) (
      xck (xin v2 14) <|
      xri (aI μ 12 0 17 (Int32.toNatClampNeg v2)) μ)) (
    vI (v2 + 1) fun x1 =>
    h12_nameAt_2 n v1 x1 μ)) := rfl
theorem h12_nameAt_40_0 (v1 : Int32) (v2 : Int32) (s0 : Int64) (μ : XM) : h12_nameAt_40 0 v1 v2 s0 μ = none := rfl
noncomputable def k12_nameAt (n : Nat) (p1 : Int32) (μ : XM) : XR :=
  vI 0 fun x1 =>
  h12_nameAt_2 n p1 x1 μ
set_option maxRecDepth 100000 in
theorem q12_nameAt (n : Nat) (p1 : Int32) (μ : XM) : xrun t12_nameAt e12_nameAt (xrtk (some .int)) 53 n (xlo [xr 12 0 0, xi p1] 3) μ = k12_nameAt n p1 μ := rfl
theorem x12_nameAt : ∃ f : Int32 → XM → XR, ∀ (p1 : Int32) (μ : XM), f p1 μ = k12_nameAt 20000 p1 μ := ⟨fun p1 μ => k12_nameAt 20000 p1 μ, fun p1 μ => rfl⟩
noncomputable def f12_nameAt : Int32 → XM → XR := Classical.choose x12_nameAt
theorem f12_nameAt_e (p1 : Int32) (μ : XM) : f12_nameAt p1 μ = k12_nameAt 20000 p1 μ := Classical.choose_spec x12_nameAt p1 μ
noncomputable def F12_nameAt : XF := fun av μ => match av with
  | [.inr (.inr (some (t0, i0, 0))), .inl p1] => bif Nat.beq t0 12 && Nat.beq i0 0 then f12_nameAt p1 μ else none
  | _ => none
set_option maxRecDepth 100000 in
theorem c12_nameAt {X : XP} (hX : XOK X) (l : Launch) : Ctr X l y12_nameAt prog_14_method_24_code 3 (some .int) (xrm 1) 0 0 F12_nameAt :=
  Ctr_of (tab := t12_nameAt) (env := e12_nameAt) (K := 53) (N := 20000) (fl := fl12) (cl := cl12) (ll := ll12) (jl := jl12) hX mf12_nameAt.2.2.2 ⟨by decide +kernel, flk12, clk12, llk12, jlk12⟩
   (fun _ h => absurd h List.not_mem_nil)
   (xrm_1 (by decide)) ⟨_, _, rfl, rfl⟩ (fun av μ r μ' h => by
    unfold F12_nameAt at h
    split at h
    · replace h := cond_inv h; obtain ⟨hb, h⟩ := h
      simp only [Bool.and_eq_true] at hb
      obtain ⟨g0, g1⟩ := hb
      obtain rfl := Nat.eq_of_beq_eq_true g0
      obtain rfl := Nat.eq_of_beq_eq_true g1
      exact ⟨Nat.le_of_ble_eq_true rfl, (q12_nameAt _ _ _).trans ((f12_nameAt_e _ _).symm.trans h)⟩
    · cases h)
def t12_takeTold : List XE := [(0, .aload_n 0, 0, 0, 0, 0, []),
  (1, .getfield 176, 12, 8, 0, 0, []),
  (4, .ifCond .ne 15, 19, 0, 0, 0, []),
  (7, .aload_n 0, 0, 0, 0, 0, []),
  (8, .invokevirtual 207, 1, 12, 0, 0, []),
  (11, .ifCond .ne 8, 19, 0, 0, 0, []),
  (14, .aload_n 0, 0, 0, 0, 0, []),
  (15, .iconst 1, 0, 0, 1, 0, []),
  (16, .invokevirtual 182, 2, 12, 0, 0, []),
  (19, .aload_n 0, 0, 0, 0, 0, []),
  (20, .getfield 176, 12, 8, 0, 0, []),
  (23, .ifCond .le 7, 30, 0, 0, 0, []),
  (26, .iconst (-1), 0, 0, (-1), 0, []),
  (27, .goto 10, 37, 0, 0, 0, []),
  (30, .aload_n 0, 0, 0, 0, 0, []),
  (31, .iconst 0, 0, 0, 0, 0, []),
  (32, .invokevirtual 211, 2, 12, 0, 0, []),
  (35, .iload_n 1, 1, 0, 0, 0, []),
  (36, .isub, 0, 0, 0, 0, []),
  (37, .nop, 1, 0, 0, 0, []),
  (37, .istore_n 2, 2, 0, 0, 0, []),
  (38, .aload_n 0, 0, 0, 0, 0, []),
  (39, .getfield 176, 12, 8, 0, 0, []),
  (42, .ifCond .ne 17, 59, 0, 0, 0, []),
  (45, .iload_n 2, 2, 0, 0, 0, []),
  (46, .iconst 0, 0, 0, 0, 0, []),
  (47, .iconst 5, 0, 0, 5, 0, []),
  (48, .invokestatic 215, 3, 0, 0, 0, []),
  (51, .ifCond .ne 8, 59, 0, 0, 0, []),
  (54, .aload_n 0, 0, 0, 0, 0, []),
  (55, .iconst 2, 0, 0, 2, 0, []),
  (56, .invokevirtual 182, 2, 12, 0, 0, []),
  (59, .nop, 5, 0, 0, 0, []),
  (59, .aload_n 0, 0, 0, 0, 0, []),
  (60, .dup, 0, 0, 0, 0, []),
  (61, .getfield 173, 12, 7, 0, 0, []),
  (64, .aload_n 0, 0, 0, 0, 0, []),
  (65, .getfield 176, 12, 8, 0, 0, []),
  (68, .ifCond .le 7, 75, 0, 0, 0, []),
  (71, .iconst 0, 0, 0, 0, 0, []),
  (72, .goto 4, 76, 0, 0, 0, []),
  (75, .iconst 1, 0, 0, 1, 0, []),
  (76, .iadd, 0, 0, 0, 0, []),
  (77, .putfield 173, 12, 7, 0, 0, []),
  (80, .aload_n 0, 0, 0, 0, 0, []),
  (81, .getfield 176, 12, 8, 0, 0, []),
  (84, .ifCond .le 7, 91, 0, 0, 0, []),
  (87, .iconst 0, 0, 0, 0, 0, []),
  (88, .goto 4, 92, 0, 0, 0, []),
  (91, .iload_n 2, 2, 0, 0, 0, []),
  (92, .ireturn, 0, 0, 0, 0, [])]
noncomputable def e12_takeTold : XN := [(207, 1, 1, 12, F12_isName), (182, 0, 2, 12, F12_wrong), (211, 1, 2, 12, F12_nameAt), (215, 1, 3, 99, F12_within)]
noncomputable def h12_takeTold_37 (n : Nat) (s0 : Int32) (μ : XM) : XR := arr t12_takeTold e12_takeTold 1 56 n 37 [some (xr 12 0 0), none, none] [xi s0] μ
noncomputable def h12_takeTold_59 (n : Nat) (v2 : Int32) (μ : XM) : XR := arr t12_takeTold e12_takeTold 1 56 n 59 [some (xr 12 0 0), none, some (xi v2)] [] μ
set_option maxRecDepth 100000 in
theorem h12_takeTold_37_s (n : Nat) (s0 : Int32) (μ : XM) : h12_takeTold_37 (n + 1) s0 μ = (
  vI s0 fun x1 =>
  xite ((rI μ 12 0 8) = 0) (
    bI (f12_within x1 0 5 μ) fun r3 m2 =>
    xite (r3 = 0) (
      bV (f12_wrong 2 m2) fun m4 =>
      h12_takeTold_59 n x1 m4) (
      h12_takeTold_59 n x1 m2)) (
    h12_takeTold_59 n x1 μ)) := rfl
theorem h12_takeTold_37_0 (s0 : Int32) (μ : XM) : h12_takeTold_37 0 s0 μ = none := rfl
set_option maxRecDepth 100000 in
theorem h12_takeTold_59_s (n : Nat) (v2 : Int32) (μ : XM) : h12_takeTold_59 (n + 1) v2 μ = (
  xite ((0 : Int32) < (rI μ 12 0 8)) (
    mS (sI μ 12 0 7 ((rI μ 12 0 7) + 0)) fun m1 =>
    xite ((0 : Int32) < (rI m1 12 0 8)) (
      xri 0 m1) (
      xri v2 m1)) (
    mS (sI μ 12 0 7 ((rI μ 12 0 7) + 1)) fun m2 =>
    xite ((0 : Int32) < (rI m2 12 0 8)) (
      xri 0 m2) (
      xri v2 m2))) := rfl
theorem h12_takeTold_59_0 (v2 : Int32) (μ : XM) : h12_takeTold_59 0 v2 μ = none := rfl
noncomputable def k12_takeTold (n : Nat) (p1 : Int32) (μ : XM) : XR :=
  xite ((rI μ 12 0 8) = 0) (
    bI (f12_isName μ) fun r2 m1 =>
    xite (r2 = 0) (
      bV (f12_wrong 1 m1) fun m3 =>
      xite ((0 : Int32) < (rI m3 12 0 8)) (
        h12_takeTold_37 n (-1) m3) (
        bI (f12_nameAt 0 m3) fun r5 m4 =>
        h12_takeTold_37 n (r5 - p1) m4)) (
      xite ((0 : Int32) < (rI m1 12 0 8)) (
        h12_takeTold_37 n (-1) m1) (
        bI (f12_nameAt 0 m1) fun r7 m6 =>
        h12_takeTold_37 n (r7 - p1) m6))) (
    xite ((0 : Int32) < (rI μ 12 0 8)) (
      h12_takeTold_37 n (-1) μ) (
      bI (f12_nameAt 0 μ) fun r9 m8 =>
      h12_takeTold_37 n (r9 - p1) m8))
set_option maxRecDepth 100000 in
theorem q12_takeTold (n : Nat) (p1 : Int32) (μ : XM) : xrun t12_takeTold e12_takeTold (xrtk (some .int)) 56 n (xlo [xr 12 0 0, xi p1] 3) μ = k12_takeTold n p1 μ := rfl
theorem x12_takeTold : ∃ f : Int32 → XM → XR, ∀ (p1 : Int32) (μ : XM), f p1 μ = k12_takeTold 20000 p1 μ := ⟨fun p1 μ => k12_takeTold 20000 p1 μ, fun p1 μ => rfl⟩
noncomputable def f12_takeTold : Int32 → XM → XR := Classical.choose x12_takeTold
theorem f12_takeTold_e (p1 : Int32) (μ : XM) : f12_takeTold p1 μ = k12_takeTold 20000 p1 μ := Classical.choose_spec x12_takeTold p1 μ
noncomputable def F12_takeTold : XF := fun av μ => match av with
  | [.inr (.inr (some (t0, i0, 0))), .inl p1] => bif Nat.beq t0 12 && Nat.beq i0 0 then f12_takeTold p1 μ else none
  | _ => none
set_option maxRecDepth 100000 in
theorem c12_takeTold {X : XP} (hX : XOK X) (l : Launch) : Ctr X l y12_takeTold prog_14_method_25_code 3 (some .int) (xrm 4) 0 0 F12_takeTold :=
  Ctr_of (tab := t12_takeTold) (env := e12_takeTold) (K := 56) (N := 20000) (fl := fl12) (cl := cl12) (ll := ll12) (jl := jl12) hX mf12_takeTold.2.2.2 ⟨by decide +kernel, flk12, clk12, llk12, jlk12⟩
   (List.forall_mem_cons.mpr ⟨xcal_v (na := 0) (c12_isName hX l) mf12_isName ⟨rfl, rfl⟩ ml12_207 mi12_isName me12_isName (xrm_ok (by omega) (by decide)) rfl (by decide) (by decide +kernel), List.forall_mem_cons.mpr ⟨xcal_v (na := 1) (c12_wrong hX l) mf12_wrong ⟨rfl, rfl⟩ ml12_182 mi12_wrong me12_wrong (xrm_ok (by omega) (by decide)) rfl (by decide) (by decide +kernel), List.forall_mem_cons.mpr ⟨xcal_v (na := 1) (c12_nameAt hX l) mf12_nameAt ⟨rfl, rfl⟩ ml12_211 mi12_nameAt me12_nameAt (xrm_ok (by omega) (by decide)) rfl (by decide) (by decide +kernel), List.forall_mem_cons.mpr ⟨xcal_s (c12_within hX l) mf12_within ⟨rfl, rfl⟩ ml12_215 ms12_within (xrm_ok (by omega) (by decide)) (by decide +kernel), fun _ h => absurd h List.not_mem_nil⟩⟩⟩⟩)
   (xrm_1 (by decide)) ⟨_, _, rfl, rfl⟩ (fun av μ r μ' h => by
    unfold F12_takeTold at h
    split at h
    · replace h := cond_inv h; obtain ⟨hb, h⟩ := h
      simp only [Bool.and_eq_true] at hb
      obtain ⟨g0, g1⟩ := hb
      obtain rfl := Nat.eq_of_beq_eq_true g0
      obtain rfl := Nat.eq_of_beq_eq_true g1
      exact ⟨Nat.le_of_ble_eq_true rfl, (q12_takeTold _ _ _).trans ((f12_takeTold_e _ _).symm.trans h)⟩
    · cases h)
def t12_readName : List XE := [(0, .aload_n 0, 0, 0, 0, 0, []),
  (1, .getfield 91, 12, 10, 0, 0, []),
  (4, .bipush 60, 0, 0, 60, 0, []),
  (6, .iload_n 1, 1, 0, 0, 0, []),
  (7, .iadd, 0, 0, 0, 0, []),
  (8, .iaload, 0, 0, 0, 0, []),
  (9, .istore 4, 4, 0, 0, 0, []),
  (11, .iload 4, 4, 0, 0, 0, []),
  (13, .iload_n 2, 2, 0, 0, 0, []),
  (14, .if_icmp .ne 9, 23, 0, 0, 0, []),
  (17, .aload_n 0, 0, 0, 0, 0, []),
  (18, .iconst 5, 0, 0, 5, 0, []),
  (19, .invokevirtual 182, 2, 12, 0, 0, []),
  (22, .return_, 0, 0, 0, 0, []),
  (23, .aload_n 0, 0, 0, 0, 0, []),
  (24, .dup, 0, 0, 0, 0, []),
  (25, .getfield 173, 12, 7, 0, 0, []),
  (28, .iconst 1, 0, 0, 1, 0, []),
  (29, .iadd, 0, 0, 0, 0, []),
  (30, .putfield 173, 12, 7, 0, 0, []),
  (33, .aload_n 0, 0, 0, 0, 0, []),
  (34, .invokevirtual 207, 1, 12, 0, 0, []),
  (37, .ifCond .ne 11, 48, 0, 0, 0, []),
  (40, .aload_n 0, 0, 0, 0, 0, []),
  (41, .iconst 1, 0, 0, 1, 0, []),
  (42, .invokevirtual 182, 2, 12, 0, 0, []),
  (45, .goto 16, 61, 0, 0, 0, []),
  (48, .aload_n 0, 0, 0, 0, 0, []),
  (49, .iconst 1, 0, 0, 1, 0, []),
  (50, .invokevirtual 211, 2, 12, 0, 0, []),
  (53, .ifCond .lt 8, 61, 0, 0, 0, []),
  (56, .aload_n 0, 0, 0, 0, 0, []),
  (57, .iconst 3, 0, 0, 3, 0, []),
  (58, .invokevirtual 182, 2, 12, 0, 0, []),
  (61, .nop, 27, 0, 0, 0, []),
  (61, .aload_n 0, 0, 0, 0, 0, []),
  (62, .getfield 176, 12, 8, 0, 0, []),
  (65, .ifCond .ne 67, 132, 0, 0, 0, []),
  (68, .aload_n 0, 0, 0, 0, 0, []),
  (69, .getfield 103, 12, 15, 0, 0, []),
  (72, .aload_n 0, 0, 0, 0, 0, []),
  (73, .getfield 201, 12, 19, 0, 0, []),
  (76, .aload_n 0, 0, 0, 0, 0, []),
  (77, .getfield 30, 12, 6, 0, 0, []),
  (80, .aload_n 0, 0, 0, 0, 0, []),
  (81, .getfield 173, 12, 7, 0, 0, []),
  (84, .laload, 0, 0, 0, 0, []),
  (85, .lastore, 0, 0, 0, 0, []),
  (86, .aload_n 0, 0, 0, 0, 0, []),
  (87, .getfield 109, 12, 17, 0, 0, []),
  (90, .aload_n 0, 0, 0, 0, 0, []),
  (91, .getfield 201, 12, 19, 0, 0, []),
  (94, .iload_n 3, 3, 0, 0, 0, []),
  (95, .iload 4, 4, 0, 0, 0, []),
  (97, .iadd, 0, 0, 0, 0, []),
  (98, .iastore, 0, 0, 0, 0, []),
  (99, .aload_n 0, 0, 0, 0, 0, []),
  (100, .dup, 0, 0, 0, 0, []),
  (101, .getfield 201, 12, 19, 0, 0, []),
  (104, .iconst 1, 0, 0, 1, 0, []),
  (105, .iadd, 0, 0, 0, 0, []),
  (106, .putfield 201, 12, 19, 0, 0, []),
  (109, .aload_n 0, 0, 0, 0, 0, []),
  (110, .dup, 0, 0, 0, 0, []),
  (111, .getfield 173, 12, 7, 0, 0, []),
  (114, .iconst 1, 0, 0, 1, 0, []),
  (115, .iadd, 0, 0, 0, 0, []),
  (116, .putfield 173, 12, 7, 0, 0, []),
  (119, .aload_n 0, 0, 0, 0, 0, []),
  (120, .getfield 91, 12, 10, 0, 0, []),
  (123, .bipush 60, 0, 0, 60, 0, []),
  (125, .iload_n 1, 1, 0, 0, 0, []),
  (126, .iadd, 0, 0, 0, 0, []),
  (127, .dup2, 0, 0, 0, 0, []),
  (128, .iaload, 0, 0, 0, 0, []),
  (129, .iconst 1, 0, 0, 1, 0, []),
  (130, .iadd, 0, 0, 0, 0, []),
  (131, .iastore, 0, 0, 0, 0, []),
  (132, .return_, 0, 0, 0, 0, [])]
noncomputable def e12_readName : XN := [(182, 0, 2, 12, F12_wrong), (207, 1, 1, 12, F12_isName), (211, 1, 2, 12, F12_nameAt)]
noncomputable def h12_readName_61 (n : Nat) (v1 : Int32) (v3 : Int32) (v4 : Int32) (μ : XM) : XR := arr t12_readName e12_readName 0 84 n 61 [some (xr 12 0 0), some (xi v1), none, some (xi v3), some (xi v4)] [] μ
set_option maxRecDepth 100000 in
theorem h12_readName_61_s (n : Nat) (v1 : Int32) (v3 : Int32) (v4 : Int32) (μ : XM) : h12_readName_61 (n + 1) v1 v3 v4 μ = (
  xite ((rI μ 12 0 8) = 0) (
    xck (xin (rI μ 12 0 7) 1002) <|
    xck (xin (rI μ 12 0 19) 14) <|
    mS (pL μ 12 0 15 (Int32.toNatClampNeg (rI μ 12 0 19)) (aL μ 12 0 6 (Int32.toNatClampNeg (rI μ 12 0 7)))) fun m1 =>
    xck (xin (rI m1 12 0 19) 14 && true) <|
    mS (pI m1 12 0 17 (Int32.toNatClampNeg (rI m1 12 0 19)) (v3 + v4)) fun m2 =>
    mS (sI m2 12 0 19 ((rI m2 12 0 19) + 1)) fun m3 =>
    mS (sI m3 12 0 7 ((rI m3 12 0 7) + 1)) fun m4 =>
    xck (xin (60 + v1) 120) <|
    xck (xin (60 + v1) 120 && true) <|
    mS (pI m4 12 0 10 (Int32.toNatClampNeg (60 + v1)) ((aI m4 12 0 10 (Int32.toNatClampNeg (60 + v1))) + 1)) fun m5 =>
    xrv m5) (
    xrv μ)) := rfl
theorem h12_readName_61_0 (v1 : Int32) (v3 : Int32) (v4 : Int32) (μ : XM) : h12_readName_61 0 v1 v3 v4 μ = none := rfl
noncomputable def k12_readName (n : Nat) (p1 : Int32) (p2 : Int32) (p3 : Int32) (μ : XM) : XR :=
  xck (xin (60 + p1) 120) <|
  vI (aI μ 12 0 10 (Int32.toNatClampNeg (60 + p1))) fun x1 =>
  xite (x1 = p2) (
    bV (f12_wrong 5 μ) fun m2 =>
    xrv m2) (
    mS (sI μ 12 0 7 ((rI μ 12 0 7) + 1)) fun m3 =>
    bI (f12_isName m3) fun r5 m4 =>
    xite (r5 = 0) (
      bV (f12_wrong 1 m4) fun m6 =>
      h12_readName_61 n p1 p3 x1 m6) (
      bI (f12_nameAt 1 m4) fun r8 m7 =>
      xite (r8 < 0) (
        h12_readName_61 n p1 p3 x1 m7) (
        bV (f12_wrong 3 m7) fun m9 =>
        h12_readName_61 n p1 p3 x1 m9)))
set_option maxRecDepth 100000 in
theorem q12_readName (n : Nat) (p1 : Int32) (p2 : Int32) (p3 : Int32) (μ : XM) : xrun t12_readName e12_readName (xrtk none) 84 n (xlo [xr 12 0 0, xi p1, xi p2, xi p3] 5) μ = k12_readName n p1 p2 p3 μ := rfl
theorem x12_readName : ∃ f : Int32 → Int32 → Int32 → XM → XR, ∀ (p1 : Int32) (p2 : Int32) (p3 : Int32) (μ : XM), f p1 p2 p3 μ = k12_readName 20000 p1 p2 p3 μ := ⟨fun p1 p2 p3 μ => k12_readName 20000 p1 p2 p3 μ, fun p1 p2 p3 μ => rfl⟩
noncomputable def f12_readName : Int32 → Int32 → Int32 → XM → XR := Classical.choose x12_readName
theorem f12_readName_e (p1 : Int32) (p2 : Int32) (p3 : Int32) (μ : XM) : f12_readName p1 p2 p3 μ = k12_readName 20000 p1 p2 p3 μ := Classical.choose_spec x12_readName p1 p2 p3 μ
noncomputable def F12_readName : XF := fun av μ => match av with
  | [.inr (.inr (some (t0, i0, 0))), .inl p1, .inl p2, .inl p3] => bif Nat.beq t0 12 && Nat.beq i0 0 then f12_readName p1 p2 p3 μ else none
  | _ => none
set_option maxRecDepth 100000 in
theorem c12_readName {X : XP} (hX : XOK X) (l : Launch) : Ctr X l y12_readName prog_14_method_29_code 5 none (xrm 4) 0 0 F12_readName :=
  Ctr_of (tab := t12_readName) (env := e12_readName) (K := 84) (N := 20000) (fl := fl12) (cl := cl12) (ll := ll12) (jl := jl12) hX mf12_readName.2.2.2 ⟨by decide +kernel, flk12, clk12, llk12, jlk12⟩
   (List.forall_mem_cons.mpr ⟨xcal_v (na := 1) (c12_wrong hX l) mf12_wrong ⟨rfl, rfl⟩ ml12_182 mi12_wrong me12_wrong (xrm_ok (by omega) (by decide)) rfl (by decide) (by decide +kernel), List.forall_mem_cons.mpr ⟨xcal_v (na := 0) (c12_isName hX l) mf12_isName ⟨rfl, rfl⟩ ml12_207 mi12_isName me12_isName (xrm_ok (by omega) (by decide)) rfl (by decide) (by decide +kernel), List.forall_mem_cons.mpr ⟨xcal_v (na := 1) (c12_nameAt hX l) mf12_nameAt ⟨rfl, rfl⟩ ml12_211 mi12_nameAt me12_nameAt (xrm_ok (by omega) (by decide)) rfl (by decide) (by decide +kernel), fun _ h => absurd h List.not_mem_nil⟩⟩⟩)
   (xrm_1 (by decide)) ⟨_, _, rfl, rfl⟩ (fun av μ r μ' h => by
    unfold F12_readName at h
    split at h
    · replace h := cond_inv h; obtain ⟨hb, h⟩ := h
      simp only [Bool.and_eq_true] at hb
      obtain ⟨g0, g1⟩ := hb
      obtain rfl := Nat.eq_of_beq_eq_true g0
      obtain rfl := Nat.eq_of_beq_eq_true g1
      exact ⟨Nat.le_of_ble_eq_true rfl, (q12_readName _ _ _ _ _).trans ((f12_readName_e _ _ _ _).symm.trans h)⟩
    · cases h)
def t12_readGuest : List XE := [(0, .bipush 66, 0, 0, 66, 0, []),
  (2, .iconst 5, 0, 0, 5, 0, []),
  (3, .aload_n 0, 0, 0, 0, 0, []),
  (4, .getfield 91, 12, 10, 0, 0, []),
  (7, .bipush 60, 0, 0, 60, 0, []),
  (9, .iaload, 0, 0, 0, 0, []),
  (10, .imul, 0, 0, 0, 0, []),
  (11, .iadd, 0, 0, 0, 0, []),
  (12, .istore_n 1, 1, 0, 0, 0, []),
  (13, .aload_n 0, 0, 0, 0, 0, []),
  (14, .iconst 0, 0, 0, 0, 0, []),
  (15, .bipush 6, 0, 0, 6, 0, []),
  (17, .iconst 0, 0, 0, 0, 0, []),
  (18, .invokevirtual 237, 4, 12, 0, 0, []),
  (21, .aload_n 0, 0, 0, 0, 0, []),
  (22, .bipush 16, 0, 0, 16, 0, []),
  (24, .iconst 4, 0, 0, 4, 0, []),
  (25, .invokevirtual 248, 3, 12, 0, 0, []),
  (28, .istore_n 2, 2, 0, 0, 0, []),
  (29, .aload_n 0, 0, 0, 0, 0, []),
  (30, .iconst 1, 0, 0, 1, 0, []),
  (31, .iconst 1, 0, 0, 1, 0, []),
  (32, .bipush 9, 0, 0, 9, 0, []),
  (34, .invokevirtual 241, 4, 12, 0, 0, []),
  (37, .istore_n 3, 3, 0, 0, 0, []),
  (38, .aload_n 0, 0, 0, 0, 0, []),
  (39, .iconst 2, 0, 0, 2, 0, []),
  (40, .iconst 1, 0, 0, 1, 0, []),
  (41, .bipush 40, 0, 0, 40, 0, []),
  (43, .invokevirtual 241, 4, 12, 0, 0, []),
  (46, .istore 4, 4, 0, 0, 0, []),
  (48, .aload_n 0, 0, 0, 0, 0, []),
  (49, .iconst 3, 0, 0, 3, 0, []),
  (50, .iconst 1, 0, 0, 1, 0, []),
  (51, .bipush 9, 0, 0, 9, 0, []),
  (53, .invokevirtual 241, 4, 12, 0, 0, []),
  (56, .istore 5, 5, 0, 0, 0, []),
  (58, .aload_n 0, 0, 0, 0, 0, []),
  (59, .iconst 4, 0, 0, 4, 0, []),
  (60, .iconst 1, 0, 0, 1, 0, []),
  (61, .bipush 30, 0, 0, 30, 0, []),
  (63, .invokevirtual 241, 4, 12, 0, 0, []),
  (66, .istore 6, 6, 0, 0, 0, []),
  (68, .aload_n 0, 0, 0, 0, 0, []),
  (69, .getfield 176, 12, 8, 0, 0, []),
  (72, .ifCond .ne 49, 121, 0, 0, 0, []),
  (75, .aload_n 0, 0, 0, 0, 0, []),
  (76, .getfield 91, 12, 10, 0, 0, []),
  (79, .iload_n 1, 1, 0, 0, 0, []),
  (80, .iload_n 2, 2, 0, 0, 0, []),
  (81, .iastore, 0, 0, 0, 0, []),
  (82, .aload_n 0, 0, 0, 0, 0, []),
  (83, .getfield 91, 12, 10, 0, 0, []),
  (86, .iload_n 1, 1, 0, 0, 0, []),
  (87, .iconst 1, 0, 0, 1, 0, []),
  (88, .iadd, 0, 0, 0, 0, []),
  (89, .iload_n 3, 3, 0, 0, 0, []),
  (90, .iastore, 0, 0, 0, 0, []),
  (91, .aload_n 0, 0, 0, 0, 0, []),
  (92, .getfield 91, 12, 10, 0, 0, []),
  (95, .iload_n 1, 1, 0, 0, 0, []),
  (96, .iconst 2, 0, 0, 2, 0, []),
  (97, .iadd, 0, 0, 0, 0, []),
  (98, .iload 4, 4, 0, 0, 0, []),
  (100, .iastore, 0, 0, 0, 0, []),
  (101, .aload_n 0, 0, 0, 0, 0, []),
  (102, .getfield 91, 12, 10, 0, 0, []),
  (105, .iload_n 1, 1, 0, 0, 0, []),
  (106, .iconst 3, 0, 0, 3, 0, []),
  (107, .iadd, 0, 0, 0, 0, []),
  (108, .iload 5, 5, 0, 0, 0, []),
  (110, .iastore, 0, 0, 0, 0, []),
  (111, .aload_n 0, 0, 0, 0, 0, []),
  (112, .getfield 91, 12, 10, 0, 0, []),
  (115, .iload_n 1, 1, 0, 0, 0, []),
  (116, .iconst 4, 0, 0, 4, 0, []),
  (117, .iadd, 0, 0, 0, 0, []),
  (118, .iload 6, 6, 0, 0, 0, []),
  (120, .iastore, 0, 0, 0, 0, []),
  (121, .return_, 0, 0, 0, 0, [])]
noncomputable def e12_readGuest : XN := [(237, 0, 4, 12, F12_readName), (248, 1, 3, 12, F12_takeOne), (241, 1, 4, 12, F12_takeAfter)]
noncomputable def k12_readGuest (μ : XM) : XR :=
  xck (xin 60 120) <|
  vI (66 + (5 * (aI μ 12 0 10 (Int32.toNatClampNeg 60)))) fun x1 =>
  bV (f12_readName 0 6 0 μ) fun m2 =>
  bI (f12_takeOne 16 4 m2) fun r4 m3 =>
  vI r4 fun x5 =>
  bI (f12_takeAfter 1 1 9 m3) fun r7 m6 =>
  vI r7 fun x8 =>
  bI (f12_takeAfter 2 1 40 m6) fun r10 m9 =>
  vI r10 fun x11 =>
  bI (f12_takeAfter 3 1 9 m9) fun r13 m12 =>
  vI r13 fun x14 =>
  bI (f12_takeAfter 4 1 30 m12) fun r16 m15 =>
  vI r16 fun x17 =>
  xite ((rI m15 12 0 8) = 0) (
    xck (xin x1 120 && true) <|
    mS (pI m15 12 0 10 (Int32.toNatClampNeg x1) x5) fun m18 =>
    xck (xin (x1 + 1) 120 && true) <|
    mS (pI m18 12 0 10 (Int32.toNatClampNeg (x1 + 1)) x8) fun m19 =>
    xck (xin (x1 + 2) 120 && true) <|
    mS (pI m19 12 0 10 (Int32.toNatClampNeg (x1 + 2)) x11) fun m20 =>
    xck (xin (x1 + 3) 120 && true) <|
    mS (pI m20 12 0 10 (Int32.toNatClampNeg (x1 + 3)) x14) fun m21 =>
    xck (xin (x1 + 4) 120 && true) <|
    mS (pI m21 12 0 10 (Int32.toNatClampNeg (x1 + 4)) x17) fun m22 =>
    xrv m22) (
    xrv m15)
set_option maxRecDepth 100000 in
theorem q12_readGuest (n : Nat) (μ : XM) : xrun t12_readGuest e12_readGuest (xrtk none) 85 n (xlo [xr 12 0 0] 7) μ = k12_readGuest  μ := rfl
theorem x12_readGuest : ∃ f : XM → XR, ∀ (μ : XM), f μ = k12_readGuest  μ := ⟨fun μ => k12_readGuest  μ, fun μ => rfl⟩
noncomputable def f12_readGuest : XM → XR := Classical.choose x12_readGuest
theorem f12_readGuest_e (μ : XM) : f12_readGuest μ = k12_readGuest  μ := Classical.choose_spec x12_readGuest μ
noncomputable def F12_readGuest : XF := fun av μ => match av with
  | [.inr (.inr (some (t0, i0, 0)))] => bif Nat.beq t0 12 && Nat.beq i0 0 then f12_readGuest  μ else none
  | _ => none
set_option maxRecDepth 100000 in
theorem c12_readGuest {X : XP} (hX : XOK X) (l : Launch) : Ctr X l y12_readGuest prog_14_method_28_code 7 none (xrm 5) 0 0 F12_readGuest :=
  Ctr_of (tab := t12_readGuest) (env := e12_readGuest) (K := 85) (N := 20000) (fl := fl12) (cl := cl12) (ll := ll12) (jl := jl12) hX mf12_readGuest.2.2.2 ⟨by decide +kernel, flk12, clk12, llk12, jlk12⟩
   (List.forall_mem_cons.mpr ⟨xcal_v (na := 3) (c12_readName hX l) mf12_readName ⟨rfl, rfl⟩ ml12_237 mi12_readName me12_readName (xrm_ok (by omega) (by decide)) rfl (by decide) (by decide +kernel), List.forall_mem_cons.mpr ⟨xcal_v (na := 2) (c12_takeOne hX l) mf12_takeOne ⟨rfl, rfl⟩ ml12_248 mi12_takeOne me12_takeOne (xrm_ok (by omega) (by decide)) rfl (by decide) (by decide +kernel), List.forall_mem_cons.mpr ⟨xcal_v (na := 3) (c12_takeAfter hX l) mf12_takeAfter ⟨rfl, rfl⟩ ml12_241 mi12_takeAfter me12_takeAfter (xrm_ok (by omega) (by decide)) rfl (by decide) (by decide +kernel), fun _ h => absurd h List.not_mem_nil⟩⟩⟩)
   (xrm_1 (by decide)) ⟨_, _, rfl, rfl⟩ (fun av μ r μ' h => by
    unfold F12_readGuest at h
    split at h
    · replace h := cond_inv h; obtain ⟨hb, h⟩ := h
      simp only [Bool.and_eq_true] at hb
      obtain ⟨g0, g1⟩ := hb
      obtain rfl := Nat.eq_of_beq_eq_true g0
      obtain rfl := Nat.eq_of_beq_eq_true g1
      exact ⟨Nat.le_of_ble_eq_true rfl, (q12_readGuest _  _).trans ((f12_readGuest_e  _).symm.trans h)⟩
    · cases h)
def t12_emit : List XE := [(0, .aload_n 0, 0, 0, 0, 0, []),
  (1, .getfield 94, 12, 11, 0, 0, []),
  (4, .sipush 1100, 0, 0, 1100, 0, []),
  (7, .aload_n 0, 0, 0, 0, 0, []),
  (8, .getfield 222, 12, 13, 0, 0, []),
  (11, .iadd, 0, 0, 0, 0, []),
  (12, .iload_n 1, 1, 0, 0, 0, []),
  (13, .iastore, 0, 0, 0, 0, []),
  (14, .aload_n 0, 0, 0, 0, 0, []),
  (15, .getfield 97, 12, 12, 0, 0, []),
  (18, .sipush 1100, 0, 0, 1100, 0, []),
  (21, .aload_n 0, 0, 0, 0, 0, []),
  (22, .getfield 222, 12, 13, 0, 0, []),
  (25, .iadd, 0, 0, 0, 0, []),
  (26, .iload_n 2, 2, 0, 0, 0, []),
  (27, .iastore, 0, 0, 0, 0, []),
  (28, .aload_n 0, 0, 0, 0, 0, []),
  (29, .dup, 0, 0, 0, 0, []),
  (30, .getfield 222, 12, 13, 0, 0, []),
  (33, .iconst 1, 0, 0, 1, 0, []),
  (34, .iadd, 0, 0, 0, 0, []),
  (35, .putfield 222, 12, 13, 0, 0, []),
  (38, .return_, 0, 0, 0, 0, [])]
noncomputable def e12_emit : XN := []
noncomputable def k12_emit (p1 : Int32) (p2 : Int32) (μ : XM) : XR :=
  xck (xin (1100 + (rI μ 12 0 13)) 2200 && true) <|
  mS (pI μ 12 0 11 (Int32.toNatClampNeg (1100 + (rI μ 12 0 13))) p1) fun m1 =>
  xck (xin (1100 + (rI m1 12 0 13)) 2200 && true) <|
  mS (pI m1 12 0 12 (Int32.toNatClampNeg (1100 + (rI m1 12 0 13))) p2) fun m2 =>
  mS (sI m2 12 0 13 ((rI m2 12 0 13) + 1)) fun m3 =>
  xrv m3
set_option maxRecDepth 100000 in
theorem q12_emit (n : Nat) (p1 : Int32) (p2 : Int32) (μ : XM) : xrun t12_emit e12_emit (xrtk none) 28 n (xlo [xr 12 0 0, xi p1, xi p2] 3) μ = k12_emit p1 p2 μ := rfl
theorem x12_emit : ∃ f : Int32 → Int32 → XM → XR, ∀ (p1 : Int32) (p2 : Int32) (μ : XM), f p1 p2 μ = k12_emit p1 p2 μ := ⟨fun p1 p2 μ => k12_emit p1 p2 μ, fun p1 p2 μ => rfl⟩
noncomputable def f12_emit : Int32 → Int32 → XM → XR := Classical.choose x12_emit
theorem f12_emit_e (p1 : Int32) (p2 : Int32) (μ : XM) : f12_emit p1 p2 μ = k12_emit p1 p2 μ := Classical.choose_spec x12_emit p1 p2 μ
noncomputable def F12_emit : XF := fun av μ => match av with
  | [.inr (.inr (some (t0, i0, 0))), .inl p1, .inl p2] => bif Nat.beq t0 12 && Nat.beq i0 0 then f12_emit p1 p2 μ else none
  | _ => none
set_option maxRecDepth 100000 in
theorem c12_emit {X : XP} (hX : XOK X) (l : Launch) : Ctr X l y12_emit prog_14_method_33_code 3 none (xrm 1) 0 0 F12_emit :=
  Ctr_of (tab := t12_emit) (env := e12_emit) (K := 28) (N := 20000) (fl := fl12) (cl := cl12) (ll := ll12) (jl := jl12) hX mf12_emit.2.2.2 ⟨by decide +kernel, flk12, clk12, llk12, jlk12⟩
   (fun _ h => absurd h List.not_mem_nil)
   (xrm_1 (by decide)) ⟨_, _, rfl, rfl⟩ (fun av μ r μ' h => by
    unfold F12_emit at h
    split at h
    · replace h := cond_inv h; obtain ⟨hb, h⟩ := h
      simp only [Bool.and_eq_true] at hb
      obtain ⟨g0, g1⟩ := hb
      obtain rfl := Nat.eq_of_beq_eq_true g0
      obtain rfl := Nat.eq_of_beq_eq_true g1
      exact ⟨Nat.le_of_ble_eq_true rfl, (q12_emit _ _ _ _).trans ((f12_emit_e _ _ _).symm.trans h)⟩
    · cases h)
def t12_whole : List XE := [(0, .aload_n 0, 0, 0, 0, 0, []),
  (1, .iload_n 1, 1, 0, 0, 0, []),
  (2, .invokevirtual 264, 2, 12, 0, 0, []),
  (5, .nop, 3, 0, 0, 0, []),
  (5, .aload_n 0, 0, 0, 0, 0, []),
  (6, .bipush 21, 0, 0, 21, 0, []),
  (8, .invokevirtual 185, 2, 12, 0, 0, []),
  (11, .ifCond .ne 12, 23, 0, 0, 0, []),
  (14, .aload_n 0, 0, 0, 0, 0, []),
  (15, .bipush 22, 0, 0, 22, 0, []),
  (17, .invokevirtual 185, 2, 12, 0, 0, []),
  (20, .ifCond .eq 44, 64, 0, 0, 0, []),
  (23, .nop, 3, 0, 0, 0, []),
  (23, .aload_n 0, 0, 0, 0, 0, []),
  (24, .bipush 21, 0, 0, 21, 0, []),
  (26, .invokevirtual 185, 2, 12, 0, 0, []),
  (29, .istore_n 2, 2, 0, 0, 0, []),
  (30, .aload_n 0, 0, 0, 0, 0, []),
  (31, .dup, 0, 0, 0, 0, []),
  (32, .getfield 173, 12, 7, 0, 0, []),
  (35, .iconst 1, 0, 0, 1, 0, []),
  (36, .iadd, 0, 0, 0, 0, []),
  (37, .putfield 173, 12, 7, 0, 0, []),
  (40, .aload_n 0, 0, 0, 0, 0, []),
  (41, .iload_n 1, 1, 0, 0, 0, []),
  (42, .invokevirtual 264, 2, 12, 0, 0, []),
  (45, .aload_n 0, 0, 0, 0, 0, []),
  (46, .iload_n 2, 2, 0, 0, 0, []),
  (47, .ifCond .eq 8, 55, 0, 0, 0, []),
  (50, .bipush 9, 0, 0, 9, 0, []),
  (52, .goto 5, 57, 0, 0, 0, []),
  (55, .bipush 10, 0, 0, 10, 0, []),
  (57, .iconst 0, 0, 0, 0, 0, []),
  (58, .invokevirtual 254, 3, 12, 0, 0, []),
  (61, .goto (-56), 5, 0, 0, 0, []),
  (64, .return_, 0, 0, 0, 0, [])]
noncomputable def e12_whole (w : Nat → XF) : XN := [(264, 0, 2, 12, (w 1)), (185, 1, 2, 12, F12_isWord), (254, 0, 3, 12, F12_emit)]
def t12_test : List XE := [(0, .aload_n 0, 0, 0, 0, 0, []),
  (1, .iload_n 1, 1, 0, 0, 0, []),
  (2, .invokevirtual 267, 2, 12, 0, 0, []),
  (5, .aload_n 0, 0, 0, 0, 0, []),
  (6, .bipush 60, 0, 0, 60, 0, []),
  (8, .invokevirtual 179, 2, 12, 0, 0, []),
  (11, .istore_n 2, 2, 0, 0, 0, []),
  (12, .aload_n 0, 0, 0, 0, 0, []),
  (13, .bipush 60, 0, 0, 60, 0, []),
  (15, .invokevirtual 270, 2, 12, 0, 0, []),
  (18, .ifCond .ne 12, 30, 0, 0, 0, []),
  (21, .aload_n 0, 0, 0, 0, 0, []),
  (22, .bipush 61, 0, 0, 61, 0, []),
  (24, .invokevirtual 270, 2, 12, 0, 0, []),
  (27, .ifCond .eq 24, 51, 0, 0, 0, []),
  (30, .nop, 7, 0, 0, 0, []),
  (30, .aload_n 0, 0, 0, 0, 0, []),
  (31, .iload_n 1, 1, 0, 0, 0, []),
  (32, .invokevirtual 267, 2, 12, 0, 0, []),
  (35, .aload_n 0, 0, 0, 0, 0, []),
  (36, .iload_n 2, 2, 0, 0, 0, []),
  (37, .ifCond .eq 8, 45, 0, 0, 0, []),
  (40, .bipush 7, 0, 0, 7, 0, []),
  (42, .goto 5, 47, 0, 0, 0, []),
  (45, .bipush 8, 0, 0, 8, 0, []),
  (47, .iconst 0, 0, 0, 0, 0, []),
  (48, .invokevirtual 254, 3, 12, 0, 0, []),
  (51, .return_, 0, 0, 0, 0, [])]
noncomputable def e12_test (w : Nat → XF) : XN := [(267, 0, 2, 12, (w 2)), (179, 1, 2, 12, F12_isSign), (270, 1, 2, 12, F12_hasSign), (254, 0, 3, 12, F12_emit)]
def t12_sums : List XE := [(0, .aload_n 0, 0, 0, 0, 0, []),
  (1, .iload_n 1, 1, 0, 0, 0, []),
  (2, .invokevirtual 273, 2, 12, 0, 0, []),
  (5, .nop, 3, 0, 0, 0, []),
  (5, .aload_n 0, 0, 0, 0, 0, []),
  (6, .bipush 43, 0, 0, 43, 0, []),
  (8, .invokevirtual 179, 2, 12, 0, 0, []),
  (11, .ifCond .ne 12, 23, 0, 0, 0, []),
  (14, .aload_n 0, 0, 0, 0, 0, []),
  (15, .bipush 45, 0, 0, 45, 0, []),
  (17, .invokevirtual 179, 2, 12, 0, 0, []),
  (20, .ifCond .eq 42, 62, 0, 0, 0, []),
  (23, .nop, 3, 0, 0, 0, []),
  (23, .aload_n 0, 0, 0, 0, 0, []),
  (24, .bipush 43, 0, 0, 43, 0, []),
  (26, .invokevirtual 179, 2, 12, 0, 0, []),
  (29, .istore_n 2, 2, 0, 0, 0, []),
  (30, .aload_n 0, 0, 0, 0, 0, []),
  (31, .dup, 0, 0, 0, 0, []),
  (32, .getfield 173, 12, 7, 0, 0, []),
  (35, .iconst 1, 0, 0, 1, 0, []),
  (36, .iadd, 0, 0, 0, 0, []),
  (37, .putfield 173, 12, 7, 0, 0, []),
  (40, .aload_n 0, 0, 0, 0, 0, []),
  (41, .iload_n 1, 1, 0, 0, 0, []),
  (42, .invokevirtual 273, 2, 12, 0, 0, []),
  (45, .aload_n 0, 0, 0, 0, 0, []),
  (46, .iload_n 2, 2, 0, 0, 0, []),
  (47, .ifCond .eq 7, 54, 0, 0, 0, []),
  (50, .iconst 4, 0, 0, 4, 0, []),
  (51, .goto 4, 55, 0, 0, 0, []),
  (54, .iconst 5, 0, 0, 5, 0, []),
  (55, .iconst 0, 0, 0, 0, 0, []),
  (56, .invokevirtual 254, 3, 12, 0, 0, []),
  (59, .goto (-54), 5, 0, 0, 0, []),
  (62, .return_, 0, 0, 0, 0, [])]
noncomputable def e12_sums (w : Nat → XF) : XN := [(273, 0, 2, 12, (w 3)), (179, 1, 2, 12, F12_isSign), (254, 0, 3, 12, F12_emit)]
def t12_products : List XE := [(0, .aload_n 0, 0, 0, 0, 0, []),
  (1, .iload_n 1, 1, 0, 0, 0, []),
  (2, .invokevirtual 276, 2, 12, 0, 0, []),
  (5, .nop, 3, 0, 0, 0, []),
  (5, .aload_n 0, 0, 0, 0, 0, []),
  (6, .bipush 42, 0, 0, 42, 0, []),
  (8, .invokevirtual 270, 2, 12, 0, 0, []),
  (11, .ifCond .eq 18, 29, 0, 0, 0, []),
  (14, .aload_n 0, 0, 0, 0, 0, []),
  (15, .iload_n 1, 1, 0, 0, 0, []),
  (16, .invokevirtual 276, 2, 12, 0, 0, []),
  (19, .aload_n 0, 0, 0, 0, 0, []),
  (20, .bipush 6, 0, 0, 6, 0, []),
  (22, .iconst 0, 0, 0, 0, 0, []),
  (23, .invokevirtual 254, 3, 12, 0, 0, []),
  (26, .goto (-21), 5, 0, 0, 0, []),
  (29, .return_, 0, 0, 0, 0, [])]
noncomputable def e12_products (w : Nat → XF) : XN := [(276, 0, 2, 12, (w 4)), (270, 1, 2, 12, F12_hasSign), (254, 0, 3, 12, F12_emit)]
def t12_takePart : List XE := [(0, .aload_n 0, 0, 0, 0, 0, []),
  (1, .getfield 176, 12, 8, 0, 0, []),
  (4, .ifCond .le 4, 8, 0, 0, 0, []),
  (7, .return_, 0, 0, 0, 0, []),
  (8, .aload_n 0, 0, 0, 0, 0, []),
  (9, .getfield 24, 12, 4, 0, 0, []),
  (12, .aload_n 0, 0, 0, 0, 0, []),
  (13, .getfield 173, 12, 7, 0, 0, []),
  (16, .iaload, 0, 0, 0, 0, []),
  (17, .iconst 2, 0, 0, 2, 0, []),
  (18, .if_icmp .ne 7, 25, 0, 0, 0, []),
  (21, .iconst 1, 0, 0, 1, 0, []),
  (22, .goto 4, 26, 0, 0, 0, []),
  (25, .iconst 0, 0, 0, 0, 0, []),
  (26, .nop, 3, 0, 0, 0, []),
  (26, .istore_n 2, 2, 0, 0, 0, []),
  (27, .aload_n 0, 0, 0, 0, 0, []),
  (28, .bipush 23, 0, 0, 23, 0, []),
  (30, .iconst 4, 0, 0, 4, 0, []),
  (31, .invokevirtual 198, 3, 12, 0, 0, []),
  (34, .istore_n 3, 3, 0, 0, 0, []),
  (35, .iload_n 3, 3, 0, 0, 0, []),
  (36, .ifCond .ge 33, 69, 0, 0, 0, []),
  (39, .iload_n 2, 2, 0, 0, 0, []),
  (40, .ifCond .ne 29, 69, 0, 0, 0, []),
  (43, .aload_n 0, 0, 0, 0, 0, []),
  (44, .bipush 40, 0, 0, 40, 0, []),
  (46, .invokevirtual 179, 2, 12, 0, 0, []),
  (49, .ifCond .ne 20, 69, 0, 0, 0, []),
  (52, .aload_n 0, 0, 0, 0, 0, []),
  (53, .bipush 20, 0, 0, 20, 0, []),
  (55, .invokevirtual 185, 2, 12, 0, 0, []),
  (58, .ifCond .ne 11, 69, 0, 0, 0, []),
  (61, .aload_n 0, 0, 0, 0, 0, []),
  (62, .iconst 1, 0, 0, 1, 0, []),
  (63, .invokevirtual 182, 2, 12, 0, 0, []),
  (66, .goto 13, 79, 0, 0, 0, []),
  (69, .iload_n 1, 1, 0, 0, 0, []),
  (70, .iconst 5, 0, 0, 5, 0, []),
  (71, .if_icmp .ne 8, 79, 0, 0, 0, []),
  (74, .aload_n 0, 0, 0, 0, 0, []),
  (75, .iconst 5, 0, 0, 5, 0, []),
  (76, .invokevirtual 182, 2, 12, 0, 0, []),
  (79, .nop, 15, 0, 0, 0, []),
  (79, .aload_n 0, 0, 0, 0, 0, []),
  (80, .getfield 176, 12, 8, 0, 0, []),
  (83, .ifCond .le 4, 87, 0, 0, 0, []),
  (86, .return_, 0, 0, 0, 0, []),
  (87, .aload_n 0, 0, 0, 0, 0, []),
  (88, .bipush 20, 0, 0, 20, 0, []),
  (90, .invokevirtual 188, 2, 12, 0, 0, []),
  (93, .ifCond .eq 19, 112, 0, 0, 0, []),
  (96, .aload_n 0, 0, 0, 0, 0, []),
  (97, .iload_n 1, 1, 0, 0, 0, []),
  (98, .iconst 1, 0, 0, 1, 0, []),
  (99, .iadd, 0, 0, 0, 0, []),
  (100, .invokevirtual 276, 2, 12, 0, 0, []),
  (103, .aload_n 0, 0, 0, 0, 0, []),
  (104, .iconst 3, 0, 0, 3, 0, []),
  (105, .iconst 0, 0, 0, 0, 0, []),
  (106, .invokevirtual 254, 3, 12, 0, 0, []),
  (109, .goto 69, 178, 0, 0, 0, []),
  (112, .aload_n 0, 0, 0, 0, 0, []),
  (113, .bipush 40, 0, 0, 40, 0, []),
  (115, .invokevirtual 270, 2, 12, 0, 0, []),
  (118, .ifCond .eq 19, 137, 0, 0, 0, []),
  (121, .aload_n 0, 0, 0, 0, 0, []),
  (122, .iload_n 1, 1, 0, 0, 0, []),
  (123, .iconst 1, 0, 0, 1, 0, []),
  (124, .iadd, 0, 0, 0, 0, []),
  (125, .invokevirtual 251, 2, 12, 0, 0, []),
  (128, .aload_n 0, 0, 0, 0, 0, []),
  (129, .bipush 41, 0, 0, 41, 0, []),
  (131, .invokevirtual 231, 2, 12, 0, 0, []),
  (134, .goto 44, 178, 0, 0, 0, []),
  (137, .aload_n 0, 0, 0, 0, 0, []),
  (138, .iload_n 2, 2, 0, 0, 0, []),
  (139, .ifCond .eq 7, 146, 0, 0, 0, []),
  (142, .iconst 1, 0, 0, 1, 0, []),
  (143, .goto 4, 147, 0, 0, 0, []),
  (146, .iconst 2, 0, 0, 2, 0, []),
  (147, .nop, 13, 0, 0, 0, []),
  (147, .iload_n 2, 2, 0, 0, 0, []),
  (148, .ifCond .eq 16, 164, 0, 0, 0, []),
  (151, .aload_n 0, 0, 0, 0, 0, []),
  (152, .getfield 30, 12, 6, 0, 0, []),
  (155, .aload_n 0, 0, 0, 0, 0, []),
  (156, .getfield 173, 12, 7, 0, 0, []),
  (159, .laload, 0, 0, 0, 0, []),
  (160, .l2i, 0, 0, 0, 0, []),
  (161, .goto 4, 165, 0, 0, 0, []),
  (164, .iload_n 3, 3, 0, 0, 0, []),
  (165, .invokevirtual 254, 3, 12, 0, 0, []),
  (168, .aload_n 0, 0, 0, 0, 0, []),
  (169, .dup, 0, 0, 0, 0, []),
  (170, .getfield 173, 12, 7, 0, 0, []),
  (173, .iconst 1, 0, 0, 1, 0, []),
  (174, .iadd, 0, 0, 0, 0, []),
  (175, .putfield 173, 12, 7, 0, 0, []),
  (178, .return_, 0, 0, 0, 0, [])]
noncomputable def e12_takePart (w : Nat → XF) : XN := [(198, 1, 3, 12, F12_wordHere), (179, 1, 2, 12, F12_isSign), (185, 1, 2, 12, F12_isWord), (182, 0, 2, 12, F12_wrong), (188, 1, 2, 12, F12_hasWord), (276, 0, 2, 12, (w 4)), (254, 0, 3, 12, F12_emit), (270, 1, 2, 12, F12_hasSign), (251, 0, 2, 12, (w 0)), (231, 0, 2, 12, F12_takeSign)]
noncomputable def W12_whole (N : Nat) (w : Nat → XF) : XF := fun av μ => match av with
  | [.inr (.inr (some (t0, i0, 0))), .inl p1] => bif Nat.beq t0 12 && Nat.beq i0 0 then xrun t12_whole (e12_whole w) (xrtk none) 41 N (xlo [xr 12 0 0, xi p1] 3) μ else none
  | _ => none
noncomputable def W12_test (N : Nat) (w : Nat → XF) : XF := fun av μ => match av with
  | [.inr (.inr (some (t0, i0, 0))), .inl p1] => bif Nat.beq t0 12 && Nat.beq i0 0 then xrun t12_test (e12_test w) (xrtk none) 33 N (xlo [xr 12 0 0, xi p1] 3) μ else none
  | _ => none
noncomputable def W12_sums (N : Nat) (w : Nat → XF) : XF := fun av μ => match av with
  | [.inr (.inr (some (t0, i0, 0))), .inl p1] => bif Nat.beq t0 12 && Nat.beq i0 0 then xrun t12_sums (e12_sums w) (xrtk none) 41 N (xlo [xr 12 0 0, xi p1] 3) μ else none
  | _ => none
noncomputable def W12_products (N : Nat) (w : Nat → XF) : XF := fun av μ => match av with
  | [.inr (.inr (some (t0, i0, 0))), .inl p1] => bif Nat.beq t0 12 && Nat.beq i0 0 then xrun t12_products (e12_products w) (xrtk none) 22 N (xlo [xr 12 0 0, xi p1] 2) μ else none
  | _ => none
noncomputable def W12_takePart (N : Nat) (w : Nat → XF) : XF := fun av μ => match av with
  | [.inr (.inr (some (t0, i0, 0))), .inl p1] => bif Nat.beq t0 12 && Nat.beq i0 0 then xrun t12_takePart (e12_takePart w) (xrtk none) 105 N (xlo [xr 12 0 0, xi p1] 4) μ else none
  | _ => none
noncomputable def G3 (N d : Nat) : Nat → XF := Nat.rec (fun _ _ _ => none) (fun _ w k => match k with
  | 0 => W12_whole N w
  | 1 => W12_test N w
  | 2 => W12_sums N w
  | 3 => W12_products N w
  | 4 => W12_takePart N w
  | _ => fun _ _ => none) d
noncomputable def f12_whole (N d : Nat) (p1 : Int32) (μ : XM) : XR := G3 N d 0 [xr 12 0 0, xi p1] μ
noncomputable def f12_test (N d : Nat) (p1 : Int32) (μ : XM) : XR := G3 N d 1 [xr 12 0 0, xi p1] μ
noncomputable def f12_sums (N d : Nat) (p1 : Int32) (μ : XM) : XR := G3 N d 2 [xr 12 0 0, xi p1] μ
noncomputable def f12_products (N d : Nat) (p1 : Int32) (μ : XM) : XR := G3 N d 3 [xr 12 0 0, xi p1] μ
noncomputable def f12_takePart (N d : Nat) (p1 : Int32) (μ : XM) : XR := G3 N d 4 [xr 12 0 0, xi p1] μ
noncomputable def h12_whole_5 (N d n : Nat) (v1 : Int32) (μ : XM) : XR := arr t12_whole (e12_whole (G3 N d)) 0 41 n 5 [some (xr 12 0 0), some (xi v1), none] [] μ
noncomputable def h12_whole_23 (N d n : Nat) (v1 : Int32) (μ : XM) : XR := arr t12_whole (e12_whole (G3 N d)) 0 41 n 23 [some (xr 12 0 0), some (xi v1), none] [] μ
noncomputable def h12_test_30 (N d n : Nat) (v1 : Int32) (v2 : Int32) (μ : XM) : XR := arr t12_test (e12_test (G3 N d)) 0 33 n 30 [some (xr 12 0 0), some (xi v1), some (xi v2)] [] μ
noncomputable def h12_sums_5 (N d n : Nat) (v1 : Int32) (μ : XM) : XR := arr t12_sums (e12_sums (G3 N d)) 0 41 n 5 [some (xr 12 0 0), some (xi v1), none] [] μ
noncomputable def h12_sums_23 (N d n : Nat) (v1 : Int32) (μ : XM) : XR := arr t12_sums (e12_sums (G3 N d)) 0 41 n 23 [some (xr 12 0 0), some (xi v1), none] [] μ
noncomputable def h12_products_5 (N d n : Nat) (v1 : Int32) (μ : XM) : XR := arr t12_products (e12_products (G3 N d)) 0 22 n 5 [some (xr 12 0 0), some (xi v1)] [] μ
noncomputable def h12_takePart_26 (N d n : Nat) (v1 : Int32) (s0 : Int32) (μ : XM) : XR := arr t12_takePart (e12_takePart (G3 N d)) 0 105 n 26 [some (xr 12 0 0), some (xi v1), none, none] [xi s0] μ
noncomputable def h12_takePart_79 (N d n : Nat) (v1 : Int32) (v2 : Int32) (v3 : Int32) (μ : XM) : XR := arr t12_takePart (e12_takePart (G3 N d)) 0 105 n 79 [some (xr 12 0 0), some (xi v1), some (xi v2), some (xi v3)] [] μ
noncomputable def h12_takePart_147 (N d n : Nat) (v2 : Int32) (v3 : Int32) (s0 : Int32) (μ : XM) : XR := arr t12_takePart (e12_takePart (G3 N d)) 0 105 n 147 [some (xr 12 0 0), none, some (xi v2), some (xi v3)] [xi s0, xr 12 0 0] μ
set_option maxRecDepth 100000 in
theorem h12_whole_5_s (N d n : Nat) (v1 : Int32) (μ : XM) : h12_whole_5 N d (n + 1) v1 μ = (
  bI (f12_isWord 21 μ) fun r2 m1 =>
  xite (r2 = 0) (
    bI (f12_isWord 22 m1) fun r4 m3 =>
    xite (r4 = 0) (
      xrv m3) (
      h12_whole_23 N d n v1 m3)) (
    h12_whole_23 N d n v1 m1)) := rfl
set_option maxRecDepth 100000 in
theorem h12_whole_23_s (N d n : Nat) (v1 : Int32) (μ : XM) : h12_whole_23 N d (n + 1) v1 μ = (
  bI (f12_isWord 21 μ) fun r2 m1 =>
  vI r2 fun x3 =>
  mS (sI m1 12 0 7 ((rI m1 12 0 7) + 1)) fun m4 =>
  bV (f12_test N d v1 m4) fun m5 =>
  xite (x3 = 0) (
    bV (f12_emit 10 0 m5) fun m6 =>
    h12_whole_5 N d n v1 m6) (
    bV (f12_emit 9 0 m5) fun m7 =>
    h12_whole_5 N d n v1 m7)) := rfl
set_option maxRecDepth 100000 in
theorem f12_whole_s (N d : Nat) (p1 : Int32) (μ : XM) : f12_whole N (d + 1) p1 μ = (
  bV (f12_test N d p1 μ) fun m1 =>
  h12_whole_5 N d N p1 m1) := rfl
theorem f12_whole_0 (N : Nat) (p1 : Int32) (μ : XM) : f12_whole N 0 p1 μ = none := rfl
set_option maxRecDepth 100000 in
theorem h12_test_30_s (N d n : Nat) (v1 : Int32) (v2 : Int32) (μ : XM) : h12_test_30 N d (n + 1) v1 v2 μ = (
  bV (f12_sums N d v1 μ) fun m1 =>
  xite (v2 = 0) (
    bV (f12_emit 8 0 m1) fun m2 =>
    xrv m2) (
    bV (f12_emit 7 0 m1) fun m3 =>
    xrv m3)) := rfl
set_option maxRecDepth 100000 in
theorem f12_test_s (N d : Nat) (p1 : Int32) (μ : XM) : f12_test N (d + 1) p1 μ = (
  bV (f12_sums N d p1 μ) fun m1 =>
  bI (f12_isSign 60 m1) fun r3 m2 =>
  vI r3 fun x4 =>
  bI (f12_hasSign 60 m2) fun r6 m5 =>
  xite (r6 = 0) (
    bI (f12_hasSign 61 m5) fun r8 m7 =>
    xite (r8 = 0) (
      xrv m7) (
      h12_test_30 N d N p1 x4 m7)) (
    h12_test_30 N d N p1 x4 m5)) := rfl
theorem f12_test_0 (N : Nat) (p1 : Int32) (μ : XM) : f12_test N 0 p1 μ = none := rfl
set_option maxRecDepth 100000 in
theorem h12_sums_5_s (N d n : Nat) (v1 : Int32) (μ : XM) : h12_sums_5 N d (n + 1) v1 μ = (
  bI (f12_isSign 43 μ) fun r2 m1 =>
  xite (r2 = 0) (
    bI (f12_isSign 45 m1) fun r4 m3 =>
    xite (r4 = 0) (
      xrv m3) (
      h12_sums_23 N d n v1 m3)) (
    h12_sums_23 N d n v1 m1)) := rfl
set_option maxRecDepth 100000 in
theorem h12_sums_23_s (N d n : Nat) (v1 : Int32) (μ : XM) : h12_sums_23 N d (n + 1) v1 μ = (
  bI (f12_isSign 43 μ) fun r2 m1 =>
  vI r2 fun x3 =>
  mS (sI m1 12 0 7 ((rI m1 12 0 7) + 1)) fun m4 =>
  bV (f12_products N d v1 m4) fun m5 =>
  xite (x3 = 0) (
    bV (f12_emit 5 0 m5) fun m6 =>
    h12_sums_5 N d n v1 m6) (
    bV (f12_emit 4 0 m5) fun m7 =>
    h12_sums_5 N d n v1 m7)) := rfl
set_option maxRecDepth 100000 in
theorem f12_sums_s (N d : Nat) (p1 : Int32) (μ : XM) : f12_sums N (d + 1) p1 μ = (
  bV (f12_products N d p1 μ) fun m1 =>
  h12_sums_5 N d N p1 m1) := rfl
theorem f12_sums_0 (N : Nat) (p1 : Int32) (μ : XM) : f12_sums N 0 p1 μ = none := rfl
set_option maxRecDepth 100000 in
theorem h12_products_5_s (N d n : Nat) (v1 : Int32) (μ : XM) : h12_products_5 N d (n + 1) v1 μ = (
  bI (f12_hasSign 42 μ) fun r2 m1 =>
  xite (r2 = 0) (
    xrv m1) (
    bV (f12_takePart N d v1 m1) fun m3 =>
    bV (f12_emit 6 0 m3) fun m4 =>
    h12_products_5 N d n v1 m4)) := rfl
set_option maxRecDepth 100000 in
theorem f12_products_s (N d : Nat) (p1 : Int32) (μ : XM) : f12_products N (d + 1) p1 μ = (
  bV (f12_takePart N d p1 μ) fun m1 =>
  h12_products_5 N d N p1 m1) := rfl
theorem f12_products_0 (N : Nat) (p1 : Int32) (μ : XM) : f12_products N 0 p1 μ = none := rfl
set_option maxRecDepth 100000 in
theorem h12_takePart_26_s (N d n : Nat) (v1 : Int32) (s0 : Int32) (μ : XM) : h12_takePart_26 N d (n + 1) v1 s0 μ = (
  vI s0 fun x1 =>
  bI (f12_wordHere 23 4 μ) fun r3 m2 =>
  vI r3 fun x4 =>
  xite (x4 < 0) (
    xite (x1 = 0) (
      bI (f12_isSign 40 m2) fun r6 m5 =>
      xite (r6 = 0) (
        bI (f12_isWord 20 m5) fun r8 m7 =>
        xite (r8 = 0) (
          bV (f12_wrong 1 m7) fun m9 =>
          h12_takePart_79 N d n v1 x1 x4 m9) (
          xite (v1 = 5) (
            bV (f12_wrong 5 m7) fun m10 =>
            h12_takePart_79 N d n v1 x1 x4 m10) (
            h12_takePart_79 N d n v1 x1 x4 m7))) (
        xite (v1 = 5) (
          bV (f12_wrong 5 m5) fun m11 =>
          h12_takePart_79 N d n v1 x1 x4 m11) (
          h12_takePart_79 N d n v1 x1 x4 m5))) (
      xite (v1 = 5) (
        bV (f12_wrong 5 m2) fun m12 =>
        h12_takePart_79 N d n v1 x1 x4 m12) (
        h12_takePart_79 N d n v1 x1 x4 m2))) (
    xite (v1 = 5) (
      bV (f12_wrong 5 m2) fun m13 =>
      h12_takePart_79 N d n v1 x1 x4 m13) (
      h12_takePart_79 N d n v1 x1 x4 m2))) := rfl
set_option maxRecDepth 100000 in
theorem h12_takePart_79_s (N d n : Nat) (v1 : Int32) (v2 : Int32) (v3 : Int32) (μ : XM) : h12_takePart_79 N d (n + 1) v1 v2 v3 μ = (
  xite ((0 : Int32) < (rI μ 12 0 8)) (
    xrv μ) (
    bI (f12_hasWord 20 μ) fun r2 m1 =>
    xite (r2 = 0) (
      bI (f12_hasSign 40 m1) fun r4 m3 =>
      xite (r4 = 0) (
        xite (v2 = 0) (
          h12_takePart_147 N d n v2 v3 2 m3) (
          h12_takePart_147 N d n v2 v3 1 m3)) (
        bV (f12_whole N d (v1 + 1) m3) fun m5 =>
        bV (f12_takeSign 41 m5) fun m6 =>
        xrv m6)) (
      bV (f12_takePart N d (v1 + 1) m1) fun m7 =>
      bV (f12_emit 3 0 m7) fun m8 =>
      xrv m8))) := rfl
set_option maxRecDepth 100000 in
theorem h12_takePart_147_s (N d n : Nat) (v2 : Int32) (v3 : Int32) (s0 : Int32) (μ : XM) : h12_takePart_147 N d (n + 1) v2 v3 s0 μ = (
  xite (v2 = 0) (
    bV (f12_emit s0 v3 μ) fun m1 =>
    mS (sI m1 12 0 7 ((rI m1 12 0 7) + 1)) fun m2 =>
    xrv m2) (
    xck (xin (rI μ 12 0 7) 1002) <|
    bV (f12_emit s0 (Int64.toInt32 (aL μ 12 0 6 (Int32.toNatClampNeg (rI μ 12 0 7)))) μ) fun m3 =>
    mS (sI m3 12 0 7 ((rI m3 12 0 7) + 1)) fun m4 =>
    xrv m4)) := rfl
set_option maxRecDepth 100000 in
theorem f12_takePart_s (N d : Nat) (p1 : Int32) (μ : XM) : f12_takePart N (d + 1) p1 μ = (
  xite ((0 : Int32) < (rI μ 12 0 8)) (
    xrv μ) (
    xck (xin (rI μ 12 0 7) 1002) <|
    xite ((aI μ 12 0 4 (Int32.toNatClampNeg (rI μ 12 0 7))) = 2) (
      h12_takePart_26 N d N p1 1 μ) (
      h12_takePart_26 N d N p1 0 μ))) := rfl
theorem f12_takePart_0 (N : Nat) (p1 : Int32) (μ : XM) : f12_takePart N 0 p1 μ = none := rfl
set_option maxRecDepth 100000 in
theorem cG3 {X : XP} (hX : XOK X) (l : Launch) : ∀ d : Nat, Ctr X l y12_whole prog_14_method_34_code 3 none (xrm (3 + d)) 0 0 (G3 20000 d 0) ∧ Ctr X l y12_test prog_14_method_35_code 3 none (xrm (3 + d)) 0 0 (G3 20000 d 1) ∧ Ctr X l y12_sums prog_14_method_36_code 3 none (xrm (3 + d)) 0 0 (G3 20000 d 2) ∧ Ctr X l y12_products prog_14_method_37_code 2 none (xrm (3 + d)) 0 0 (G3 20000 d 3) ∧ Ctr X l y12_takePart prog_14_method_38_code 4 none (xrm (3 + d)) 0 0 (G3 20000 d 4) := by
  intro d
  induction d with
  | zero => exact ⟨(fun av μ r μ' _ h => by cases h), (fun av μ r μ' _ h => by cases h), (fun av μ r μ' _ h => by cases h), (fun av μ r μ' _ h => by cases h), (fun av μ r μ' _ h => by cases h)⟩
  | succ d ih =>
    exact ⟨Ctr_of (tab := t12_whole) (env := e12_whole (G3 20000 d)) (K := 41) (N := 20000) (fl := fl12) (cl := cl12) (ll := ll12) (jl := jl12) hX mf12_whole.2.2.2 ⟨by decide +kernel, flk12, clk12, llk12, jlk12⟩
      (List.forall_mem_cons.mpr ⟨xcal_v (na := 1) (ih.2.1) mf12_test ⟨rfl, rfl⟩ ml12_264 mi12_test me12_test (xrm_ok (by omega) (by decide)) rfl (by decide) (by decide +kernel), List.forall_mem_cons.mpr ⟨xcal_v (na := 1) (c12_isWord hX l) mf12_isWord ⟨rfl, rfl⟩ ml12_185 mi12_isWord me12_isWord (xrm_ok (by omega) (by decide)) rfl (by decide) (by decide +kernel), List.forall_mem_cons.mpr ⟨xcal_v (na := 2) (c12_emit hX l) mf12_emit ⟨rfl, rfl⟩ ml12_254 mi12_emit me12_emit (xrm_ok (by omega) (by decide)) rfl (by decide) (by decide +kernel), fun _ h => absurd h List.not_mem_nil⟩⟩⟩)
      (xrm_1 (by omega)) ⟨_, _, rfl, rfl⟩ (fun av μ r μ' h => by
        replace h : W12_whole 20000 (G3 20000 d) av μ = some (r, μ') := h
        unfold W12_whole at h
        split at h
        · replace h := cond_inv h; obtain ⟨hb, h⟩ := h
          simp only [Bool.and_eq_true] at hb
          obtain ⟨g0, g1⟩ := hb
          obtain rfl := Nat.eq_of_beq_eq_true g0
          obtain rfl := Nat.eq_of_beq_eq_true g1
          exact ⟨Nat.le_of_ble_eq_true rfl, h⟩
        · cases h),
     Ctr_of (tab := t12_test) (env := e12_test (G3 20000 d)) (K := 33) (N := 20000) (fl := fl12) (cl := cl12) (ll := ll12) (jl := jl12) hX mf12_test.2.2.2 ⟨by decide +kernel, flk12, clk12, llk12, jlk12⟩
      (List.forall_mem_cons.mpr ⟨xcal_v (na := 1) (ih.2.2.1) mf12_sums ⟨rfl, rfl⟩ ml12_267 mi12_sums me12_sums (xrm_ok (by omega) (by decide)) rfl (by decide) (by decide +kernel), List.forall_mem_cons.mpr ⟨xcal_v (na := 1) (c12_isSign hX l) mf12_isSign ⟨rfl, rfl⟩ ml12_179 mi12_isSign me12_isSign (xrm_ok (by omega) (by decide)) rfl (by decide) (by decide +kernel), List.forall_mem_cons.mpr ⟨xcal_v (na := 1) (c12_hasSign hX l) mf12_hasSign ⟨rfl, rfl⟩ ml12_270 mi12_hasSign me12_hasSign (xrm_ok (by omega) (by decide)) rfl (by decide) (by decide +kernel), List.forall_mem_cons.mpr ⟨xcal_v (na := 2) (c12_emit hX l) mf12_emit ⟨rfl, rfl⟩ ml12_254 mi12_emit me12_emit (xrm_ok (by omega) (by decide)) rfl (by decide) (by decide +kernel), fun _ h => absurd h List.not_mem_nil⟩⟩⟩⟩)
      (xrm_1 (by omega)) ⟨_, _, rfl, rfl⟩ (fun av μ r μ' h => by
        replace h : W12_test 20000 (G3 20000 d) av μ = some (r, μ') := h
        unfold W12_test at h
        split at h
        · replace h := cond_inv h; obtain ⟨hb, h⟩ := h
          simp only [Bool.and_eq_true] at hb
          obtain ⟨g0, g1⟩ := hb
          obtain rfl := Nat.eq_of_beq_eq_true g0
          obtain rfl := Nat.eq_of_beq_eq_true g1
          exact ⟨Nat.le_of_ble_eq_true rfl, h⟩
        · cases h),
     Ctr_of (tab := t12_sums) (env := e12_sums (G3 20000 d)) (K := 41) (N := 20000) (fl := fl12) (cl := cl12) (ll := ll12) (jl := jl12) hX mf12_sums.2.2.2 ⟨by decide +kernel, flk12, clk12, llk12, jlk12⟩
      (List.forall_mem_cons.mpr ⟨xcal_v (na := 1) (ih.2.2.2.1) mf12_products ⟨rfl, rfl⟩ ml12_273 mi12_products me12_products (xrm_ok (by omega) (by decide)) rfl (by decide) (by decide +kernel), List.forall_mem_cons.mpr ⟨xcal_v (na := 1) (c12_isSign hX l) mf12_isSign ⟨rfl, rfl⟩ ml12_179 mi12_isSign me12_isSign (xrm_ok (by omega) (by decide)) rfl (by decide) (by decide +kernel), List.forall_mem_cons.mpr ⟨xcal_v (na := 2) (c12_emit hX l) mf12_emit ⟨rfl, rfl⟩ ml12_254 mi12_emit me12_emit (xrm_ok (by omega) (by decide)) rfl (by decide) (by decide +kernel), fun _ h => absurd h List.not_mem_nil⟩⟩⟩)
      (xrm_1 (by omega)) ⟨_, _, rfl, rfl⟩ (fun av μ r μ' h => by
        replace h : W12_sums 20000 (G3 20000 d) av μ = some (r, μ') := h
        unfold W12_sums at h
        split at h
        · replace h := cond_inv h; obtain ⟨hb, h⟩ := h
          simp only [Bool.and_eq_true] at hb
          obtain ⟨g0, g1⟩ := hb
          obtain rfl := Nat.eq_of_beq_eq_true g0
          obtain rfl := Nat.eq_of_beq_eq_true g1
          exact ⟨Nat.le_of_ble_eq_true rfl, h⟩
        · cases h),
     Ctr_of (tab := t12_products) (env := e12_products (G3 20000 d)) (K := 22) (N := 20000) (fl := fl12) (cl := cl12) (ll := ll12) (jl := jl12) hX mf12_products.2.2.2 ⟨by decide +kernel, flk12, clk12, llk12, jlk12⟩
      (List.forall_mem_cons.mpr ⟨xcal_v (na := 1) (ih.2.2.2.2) mf12_takePart ⟨rfl, rfl⟩ ml12_276 mi12_takePart me12_takePart (xrm_ok (by omega) (by decide)) rfl (by decide) (by decide +kernel), List.forall_mem_cons.mpr ⟨xcal_v (na := 1) (c12_hasSign hX l) mf12_hasSign ⟨rfl, rfl⟩ ml12_270 mi12_hasSign me12_hasSign (xrm_ok (by omega) (by decide)) rfl (by decide) (by decide +kernel), List.forall_mem_cons.mpr ⟨xcal_v (na := 2) (c12_emit hX l) mf12_emit ⟨rfl, rfl⟩ ml12_254 mi12_emit me12_emit (xrm_ok (by omega) (by decide)) rfl (by decide) (by decide +kernel), fun _ h => absurd h List.not_mem_nil⟩⟩⟩)
      (xrm_1 (by omega)) ⟨_, _, rfl, rfl⟩ (fun av μ r μ' h => by
        replace h : W12_products 20000 (G3 20000 d) av μ = some (r, μ') := h
        unfold W12_products at h
        split at h
        · replace h := cond_inv h; obtain ⟨hb, h⟩ := h
          simp only [Bool.and_eq_true] at hb
          obtain ⟨g0, g1⟩ := hb
          obtain rfl := Nat.eq_of_beq_eq_true g0
          obtain rfl := Nat.eq_of_beq_eq_true g1
          exact ⟨Nat.le_of_ble_eq_true rfl, h⟩
        · cases h),
     Ctr_of (tab := t12_takePart) (env := e12_takePart (G3 20000 d)) (K := 105) (N := 20000) (fl := fl12) (cl := cl12) (ll := ll12) (jl := jl12) hX mf12_takePart.2.2.2 ⟨by decide +kernel, flk12, clk12, llk12, jlk12⟩
      (List.forall_mem_cons.mpr ⟨xcal_v (na := 2) (c12_wordHere hX l) mf12_wordHere ⟨rfl, rfl⟩ ml12_198 mi12_wordHere me12_wordHere (xrm_ok (by omega) (by decide)) rfl (by decide) (by decide +kernel), List.forall_mem_cons.mpr ⟨xcal_v (na := 1) (c12_isSign hX l) mf12_isSign ⟨rfl, rfl⟩ ml12_179 mi12_isSign me12_isSign (xrm_ok (by omega) (by decide)) rfl (by decide) (by decide +kernel), List.forall_mem_cons.mpr ⟨xcal_v (na := 1) (c12_isWord hX l) mf12_isWord ⟨rfl, rfl⟩ ml12_185 mi12_isWord me12_isWord (xrm_ok (by omega) (by decide)) rfl (by decide) (by decide +kernel), List.forall_mem_cons.mpr ⟨xcal_v (na := 1) (c12_wrong hX l) mf12_wrong ⟨rfl, rfl⟩ ml12_182 mi12_wrong me12_wrong (xrm_ok (by omega) (by decide)) rfl (by decide) (by decide +kernel), List.forall_mem_cons.mpr ⟨xcal_v (na := 1) (c12_hasWord hX l) mf12_hasWord ⟨rfl, rfl⟩ ml12_188 mi12_hasWord me12_hasWord (xrm_ok (by omega) (by decide)) rfl (by decide) (by decide +kernel), List.forall_mem_cons.mpr ⟨xcal_v (na := 1) (ih.2.2.2.2) mf12_takePart ⟨rfl, rfl⟩ ml12_276 mi12_takePart me12_takePart (xrm_ok (by omega) (by decide)) rfl (by decide) (by decide +kernel), List.forall_mem_cons.mpr ⟨xcal_v (na := 2) (c12_emit hX l) mf12_emit ⟨rfl, rfl⟩ ml12_254 mi12_emit me12_emit (xrm_ok (by omega) (by decide)) rfl (by decide) (by decide +kernel), List.forall_mem_cons.mpr ⟨xcal_v (na := 1) (c12_hasSign hX l) mf12_hasSign ⟨rfl, rfl⟩ ml12_270 mi12_hasSign me12_hasSign (xrm_ok (by omega) (by decide)) rfl (by decide) (by decide +kernel), List.forall_mem_cons.mpr ⟨xcal_v (na := 1) (ih.1) mf12_whole ⟨rfl, rfl⟩ ml12_251 mi12_whole me12_whole (xrm_ok (by omega) (by decide)) rfl (by decide) (by decide +kernel), List.forall_mem_cons.mpr ⟨xcal_v (na := 1) (c12_takeSign hX l) mf12_takeSign ⟨rfl, rfl⟩ ml12_231 mi12_takeSign me12_takeSign (xrm_ok (by omega) (by decide)) rfl (by decide) (by decide +kernel), fun _ h => absurd h List.not_mem_nil⟩⟩⟩⟩⟩⟩⟩⟩⟩⟩)
      (xrm_1 (by omega)) ⟨_, _, rfl, rfl⟩ (fun av μ r μ' h => by
        replace h : W12_takePart 20000 (G3 20000 d) av μ = some (r, μ') := h
        unfold W12_takePart at h
        split at h
        · replace h := cond_inv h; obtain ⟨hb, h⟩ := h
          simp only [Bool.and_eq_true] at hb
          obtain ⟨g0, g1⟩ := hb
          obtain rfl := Nat.eq_of_beq_eq_true g0
          obtain rfl := Nat.eq_of_beq_eq_true g1
          exact ⟨Nat.le_of_ble_eq_true rfl, h⟩
        · cases h)⟩
def t12_readOnce : List XE := [(0, .aload_n 0, 0, 0, 0, 0, []),
  (1, .bipush 9, 0, 0, 9, 0, []),
  (3, .iconst 3, 0, 0, 3, 0, []),
  (4, .invokevirtual 198, 3, 12, 0, 0, []),
  (7, .istore_n 1, 1, 0, 0, 0, []),
  (8, .iload_n 1, 1, 0, 0, 0, []),
  (9, .ifCond .ge 11, 20, 0, 0, 0, []),
  (12, .aload_n 0, 0, 0, 0, 0, []),
  (13, .iconst 1, 0, 0, 1, 0, []),
  (14, .invokevirtual 182, 2, 12, 0, 0, []),
  (17, .goto 20, 37, 0, 0, 0, []),
  (20, .aload_n 0, 0, 0, 0, 0, []),
  (21, .getfield 225, 12, 20, 0, 0, []),
  (24, .iload_n 1, 1, 0, 0, 0, []),
  (25, .ishr, 0, 0, 0, 0, []),
  (26, .iconst 1, 0, 0, 1, 0, []),
  (27, .iand, 0, 0, 0, 0, []),
  (28, .iconst 1, 0, 0, 1, 0, []),
  (29, .if_icmp .ne 8, 37, 0, 0, 0, []),
  (32, .aload_n 0, 0, 0, 0, 0, []),
  (33, .iconst 3, 0, 0, 3, 0, []),
  (34, .invokevirtual 182, 2, 12, 0, 0, []),
  (37, .nop, 3, 0, 0, 0, []),
  (37, .aload_n 0, 0, 0, 0, 0, []),
  (38, .getfield 176, 12, 8, 0, 0, []),
  (41, .ifCond .le 4, 45, 0, 0, 0, []),
  (44, .return_, 0, 0, 0, 0, []),
  (45, .aload_n 0, 0, 0, 0, 0, []),
  (46, .dup, 0, 0, 0, 0, []),
  (47, .getfield 225, 12, 20, 0, 0, []),
  (50, .iconst 1, 0, 0, 1, 0, []),
  (51, .iload_n 1, 1, 0, 0, 0, []),
  (52, .ishl, 0, 0, 0, 0, []),
  (53, .ior, 0, 0, 0, 0, []),
  (54, .putfield 225, 12, 20, 0, 0, []),
  (57, .aload_n 0, 0, 0, 0, 0, []),
  (58, .dup, 0, 0, 0, 0, []),
  (59, .getfield 173, 12, 7, 0, 0, []),
  (62, .iconst 1, 0, 0, 1, 0, []),
  (63, .iadd, 0, 0, 0, 0, []),
  (64, .putfield 173, 12, 7, 0, 0, []),
  (67, .iload_n 1, 1, 0, 0, 0, []),
  (68, .iconst 2, 0, 0, 2, 0, []),
  (69, .if_icmp .ge 31, 100, 0, 0, 0, []),
  (72, .aload_n 0, 0, 0, 0, 0, []),
  (73, .getfield 91, 12, 10, 0, 0, []),
  (76, .bipush 63, 0, 0, 63, 0, []),
  (78, .iload_n 1, 1, 0, 0, 0, []),
  (79, .iadd, 0, 0, 0, 0, []),
  (80, .aload_n 0, 0, 0, 0, 0, []),
  (81, .iconst 0, 0, 0, 0, 0, []),
  (82, .iload_n 1, 1, 0, 0, 0, []),
  (83, .ifCond .ne 8, 91, 0, 0, 0, []),
  (86, .bipush 9, 0, 0, 9, 0, []),
  (88, .goto 5, 93, 0, 0, 0, []),
  (91, .bipush 40, 0, 0, 40, 0, []),
  (93, .invokevirtual 194, 3, 12, 0, 0, []),
  (96, .iastore, 0, 0, 0, 0, []),
  (97, .goto 25, 122, 0, 0, 0, []),
  (100, .aload_n 0, 0, 0, 0, 0, []),
  (101, .getfield 91, 12, 10, 0, 0, []),
  (104, .bipush 65, 0, 0, 65, 0, []),
  (106, .aload_n 0, 0, 0, 0, 0, []),
  (107, .getfield 222, 12, 13, 0, 0, []),
  (110, .iastore, 0, 0, 0, 0, []),
  (111, .aload_n 0, 0, 0, 0, 0, []),
  (112, .iconst 0, 0, 0, 0, 0, []),
  (113, .invokevirtual 251, 2, 12, 0, 0, []),
  (116, .aload_n 0, 0, 0, 0, 0, []),
  (117, .iconst 0, 0, 0, 0, 0, []),
  (118, .iconst 0, 0, 0, 0, 0, []),
  (119, .invokevirtual 254, 3, 12, 0, 0, []),
  (122, .return_, 0, 0, 0, 0, [])]
noncomputable def e12_readOnce : XN := [(198, 1, 3, 12, F12_wordHere), (182, 0, 2, 12, F12_wrong), (194, 1, 3, 12, F12_takeNumber), (251, 0, 2, 12, (G3 20000 64 0)), (254, 0, 3, 12, F12_emit)]
noncomputable def h12_readOnce_37 (n : Nat) (v1 : Int32) (μ : XM) : XR := arr t12_readOnce e12_readOnce 0 78 n 37 [some (xr 12 0 0), some (xi v1)] [] μ
set_option maxRecDepth 100000 in
theorem h12_readOnce_37_s (n : Nat) (v1 : Int32) (μ : XM) : h12_readOnce_37 (n + 1) v1 μ = (
  xite ((0 : Int32) < (rI μ 12 0 8)) (
    xrv μ) (
    mS (sI μ 12 0 20 ((rI μ 12 0 20) ||| (1 <<< (v1 &&& 31)))) fun m1 =>
    mS (sI m1 12 0 7 ((rI m1 12 0 7) + 1)) fun m2 =>
    xite (v1 < 2) (
      xite (v1 = 0) (
        bI (f12_takeNumber 0 9 m2) fun r4 m3 =>
        xck (xin (63 + v1) 120 && true) <|
        mS (pI m3 12 0 10 (Int32.toNatClampNeg (63 + v1)) r4) fun m5 =>
        xrv m5) (
        bI (f12_takeNumber 0 40 m2) fun r7 m6 =>
        xck (xin (63 + v1) 120 && true) <|
        mS (pI m6 12 0 10 (Int32.toNatClampNeg (63 + v1)) r7) fun m8 =>
        xrv m8)) (
      xck (xin 65 120 && true) <|
      mS (pI m2 12 0 10 (Int32.toNatClampNeg 65) (rI m2 12 0 13)) fun m9 =>
      bV (f12_whole 20000 64 0 m9) fun m10 =>
      bV (f12_emit 0 0 m10) fun m11 =>
      xrv m11))) := rfl
theorem h12_readOnce_37_0 (v1 : Int32) (μ : XM) : h12_readOnce_37 0 v1 μ = none := rfl
noncomputable def k12_readOnce (n : Nat) (μ : XM) : XR :=
  bI (f12_wordHere 9 3 μ) fun r2 m1 =>
  vI r2 fun x3 =>
  xite (x3 < 0) (
    bV (f12_wrong 1 m1) fun m4 =>
    h12_readOnce_37 n x3 m4) (
    xite ((((rI m1 12 0 20) >>> (x3 &&& 31)) &&& 1) = 1) (
      bV (f12_wrong 3 m1) fun m5 =>
      h12_readOnce_37 n x3 m5) (
      h12_readOnce_37 n x3 m1))
set_option maxRecDepth 100000 in
theorem q12_readOnce (n : Nat) (μ : XM) : xrun t12_readOnce e12_readOnce (xrtk none) 78 n (xlo [xr 12 0 0] 2) μ = k12_readOnce n  μ := rfl
theorem x12_readOnce : ∃ f : XM → XR, ∀ (μ : XM), f μ = k12_readOnce 20000  μ := ⟨fun μ => k12_readOnce 20000  μ, fun μ => rfl⟩
noncomputable def f12_readOnce : XM → XR := Classical.choose x12_readOnce
theorem f12_readOnce_e (μ : XM) : f12_readOnce μ = k12_readOnce 20000  μ := Classical.choose_spec x12_readOnce μ
noncomputable def F12_readOnce : XF := fun av μ => match av with
  | [.inr (.inr (some (t0, i0, 0)))] => bif Nat.beq t0 12 && Nat.beq i0 0 then f12_readOnce  μ else none
  | _ => none
set_option maxRecDepth 100000 in
theorem c12_readOnce {X : XP} (hX : XOK X) (l : Launch) : Ctr X l y12_readOnce prog_14_method_30_code 2 none (xrm 68) 0 0 F12_readOnce :=
  Ctr_of (tab := t12_readOnce) (env := e12_readOnce) (K := 78) (N := 20000) (fl := fl12) (cl := cl12) (ll := ll12) (jl := jl12) hX mf12_readOnce.2.2.2 ⟨by decide +kernel, flk12, clk12, llk12, jlk12⟩
   (List.forall_mem_cons.mpr ⟨xcal_v (na := 2) (c12_wordHere hX l) mf12_wordHere ⟨rfl, rfl⟩ ml12_198 mi12_wordHere me12_wordHere (xrm_ok (by omega) (by decide)) rfl (by decide) (by decide +kernel), List.forall_mem_cons.mpr ⟨xcal_v (na := 1) (c12_wrong hX l) mf12_wrong ⟨rfl, rfl⟩ ml12_182 mi12_wrong me12_wrong (xrm_ok (by omega) (by decide)) rfl (by decide) (by decide +kernel), List.forall_mem_cons.mpr ⟨xcal_v (na := 2) (c12_takeNumber hX l) mf12_takeNumber ⟨rfl, rfl⟩ ml12_194 mi12_takeNumber me12_takeNumber (xrm_ok (by omega) (by decide)) rfl (by decide) (by decide +kernel), List.forall_mem_cons.mpr ⟨xcal_v (na := 1) ((cG3 hX l 64).1) mf12_whole ⟨rfl, rfl⟩ ml12_251 mi12_whole me12_whole (xrm_ok (by omega) (by decide)) rfl (by decide) (by decide +kernel), List.forall_mem_cons.mpr ⟨xcal_v (na := 2) (c12_emit hX l) mf12_emit ⟨rfl, rfl⟩ ml12_254 mi12_emit me12_emit (xrm_ok (by omega) (by decide)) rfl (by decide) (by decide +kernel), fun _ h => absurd h List.not_mem_nil⟩⟩⟩⟩⟩)
   (xrm_1 (by decide)) ⟨_, _, rfl, rfl⟩ (fun av μ r μ' h => by
    unfold F12_readOnce at h
    split at h
    · replace h := cond_inv h; obtain ⟨hb, h⟩ := h
      simp only [Bool.and_eq_true] at hb
      obtain ⟨g0, g1⟩ := hb
      obtain rfl := Nat.eq_of_beq_eq_true g0
      obtain rfl := Nat.eq_of_beq_eq_true g1
      exact ⟨Nat.le_of_ble_eq_true rfl, (q12_readOnce _  _).trans ((f12_readOnce_e  _).symm.trans h)⟩
    · cases h)
def t12_readLine : List XE := [(0, .aload_n 0, 0, 0, 0, 0, []),
  (1, .iconst 0, 0, 0, 0, 0, []),
  (2, .invokevirtual 185, 2, 12, 0, 0, []),
  (5, .ifCond .eq 10, 15, 0, 0, 0, []),
  (8, .aload_n 0, 0, 0, 0, 0, []),
  (9, .invokevirtual 234, 1, 12, 0, 0, []),
  (12, .goto 136, 148, 0, 0, 0, []),
  (15, .aload_n 0, 0, 0, 0, 0, []),
  (16, .iconst 5, 0, 0, 5, 0, []),
  (17, .invokevirtual 185, 2, 12, 0, 0, []),
  (20, .ifCond .eq 49, 69, 0, 0, 0, []),
  (23, .bipush 96, 0, 0, 96, 0, []),
  (25, .aload_n 0, 0, 0, 0, 0, []),
  (26, .getfield 91, 12, 10, 0, 0, []),
  (29, .bipush 61, 0, 0, 61, 0, []),
  (31, .iaload, 0, 0, 0, 0, []),
  (32, .iadd, 0, 0, 0, 0, []),
  (33, .istore_n 1, 1, 0, 0, 0, []),
  (34, .aload_n 0, 0, 0, 0, 0, []),
  (35, .iconst 1, 0, 0, 1, 0, []),
  (36, .iconst 5, 0, 0, 5, 0, []),
  (37, .bipush 20, 0, 0, 20, 0, []),
  (39, .invokevirtual 237, 4, 12, 0, 0, []),
  (42, .aload_n 0, 0, 0, 0, 0, []),
  (43, .bipush 6, 0, 0, 6, 0, []),
  (45, .iconst 1, 0, 0, 1, 0, []),
  (46, .bipush 40, 0, 0, 40, 0, []),
  (48, .invokevirtual 241, 4, 12, 0, 0, []),
  (51, .istore_n 2, 2, 0, 0, 0, []),
  (52, .aload_n 0, 0, 0, 0, 0, []),
  (53, .getfield 176, 12, 8, 0, 0, []),
  (56, .ifCond .ne 10, 66, 0, 0, 0, []),
  (59, .aload_n 0, 0, 0, 0, 0, []),
  (60, .getfield 91, 12, 10, 0, 0, []),
  (63, .iload_n 1, 1, 0, 0, 0, []),
  (64, .iload_n 2, 2, 0, 0, 0, []),
  (65, .iastore, 0, 0, 0, 0, []),
  (66, .goto 82, 148, 0, 0, 0, []),
  (69, .aload_n 0, 0, 0, 0, 0, []),
  (70, .bipush 7, 0, 0, 7, 0, []),
  (72, .invokevirtual 185, 2, 12, 0, 0, []),
  (75, .ifCond .eq 69, 144, 0, 0, 0, []),
  (78, .bipush 101, 0, 0, 101, 0, []),
  (80, .iconst 2, 0, 0, 2, 0, []),
  (81, .aload_n 0, 0, 0, 0, 0, []),
  (82, .getfield 91, 12, 10, 0, 0, []),
  (85, .bipush 62, 0, 0, 62, 0, []),
  (87, .iaload, 0, 0, 0, 0, []),
  (88, .imul, 0, 0, 0, 0, []),
  (89, .iadd, 0, 0, 0, 0, []),
  (90, .istore_n 1, 1, 0, 0, 0, []),
  (91, .aload_n 0, 0, 0, 0, 0, []),
  (92, .iconst 2, 0, 0, 2, 0, []),
  (93, .iconst 3, 0, 0, 3, 0, []),
  (94, .bipush 40, 0, 0, 40, 0, []),
  (96, .invokevirtual 237, 4, 12, 0, 0, []),
  (99, .aload_n 0, 0, 0, 0, 0, []),
  (100, .iconst 1, 0, 0, 1, 0, []),
  (101, .iconst 0, 0, 0, 0, 0, []),
  (102, .bipush 9, 0, 0, 9, 0, []),
  (104, .invokevirtual 241, 4, 12, 0, 0, []),
  (107, .istore_n 2, 2, 0, 0, 0, []),
  (108, .aload_n 0, 0, 0, 0, 0, []),
  (109, .bipush 8, 0, 0, 8, 0, []),
  (111, .iconst 0, 0, 0, 0, 0, []),
  (112, .bipush 9, 0, 0, 9, 0, []),
  (114, .invokevirtual 241, 4, 12, 0, 0, []),
  (117, .istore_n 3, 3, 0, 0, 0, []),
  (118, .aload_n 0, 0, 0, 0, 0, []),
  (119, .getfield 176, 12, 8, 0, 0, []),
  (122, .ifCond .ne 19, 141, 0, 0, 0, []),
  (125, .aload_n 0, 0, 0, 0, 0, []),
  (126, .getfield 91, 12, 10, 0, 0, []),
  (129, .iload_n 1, 1, 0, 0, 0, []),
  (130, .iload_n 2, 2, 0, 0, 0, []),
  (131, .iastore, 0, 0, 0, 0, []),
  (132, .aload_n 0, 0, 0, 0, 0, []),
  (133, .getfield 91, 12, 10, 0, 0, []),
  (136, .iload_n 1, 1, 0, 0, 0, []),
  (137, .iconst 1, 0, 0, 1, 0, []),
  (138, .iadd, 0, 0, 0, 0, []),
  (139, .iload_n 3, 3, 0, 0, 0, []),
  (140, .iastore, 0, 0, 0, 0, []),
  (141, .goto 7, 148, 0, 0, 0, []),
  (144, .aload_n 0, 0, 0, 0, 0, []),
  (145, .invokevirtual 245, 1, 12, 0, 0, []),
  (148, .return_, 0, 0, 0, 0, [])]
noncomputable def e12_readLine : XN := [(185, 1, 2, 12, F12_isWord), (234, 0, 1, 12, F12_readGuest), (237, 0, 4, 12, F12_readName), (241, 1, 4, 12, F12_takeAfter), (245, 0, 1, 12, F12_readOnce)]
noncomputable def k12_readLine (μ : XM) : XR :=
  bI (f12_isWord 0 μ) fun r2 m1 =>
  xite (r2 = 0) (
    bI (f12_isWord 5 m1) fun r4 m3 =>
    xite (r4 = 0) (
      bI (f12_isWord 7 m3) fun r6 m5 =>
      xite (r6 = 0) (
        bV (f12_readOnce m5) fun m7 =>
        xrv m7) (
        xck (xin 62 120) <|
        vI (101 + (2 * (aI m5 12 0 10 (Int32.toNatClampNeg 62)))) fun x8 =>
        bV (f12_readName 2 3 40 m5) fun m9 =>
        bI (f12_takeAfter 1 0 9 m9) fun r11 m10 =>
        vI r11 fun x12 =>
        bI (f12_takeAfter 8 0 9 m10) fun r14 m13 =>
        vI r14 fun x15 =>
        xite ((rI m13 12 0 8) = 0) (
          xck (xin x8 120 && true) <|
          mS (pI m13 12 0 10 (Int32.toNatClampNeg x8) x12) fun m16 =>
          xck (xin (x8 + 1) 120 && true) <|
          mS (pI m16 12 0 10 (Int32.toNatClampNeg (x8 + 1)) x15) fun m17 =>
          xrv m17) (
          xrv m13))) (
      xck (xin 61 120) <|
      vI (96 + (aI m3 12 0 10 (Int32.toNatClampNeg 61))) fun x18 =>
      bV (f12_readName 1 5 20 m3) fun m19 =>
      bI (f12_takeAfter 6 1 40 m19) fun r21 m20 =>
      vI r21 fun x22 =>
      xite ((rI m20 12 0 8) = 0) (
        xck (xin x18 120 && true) <|
        mS (pI m20 12 0 10 (Int32.toNatClampNeg x18) x22) fun m23 =>
        xrv m23) (
        xrv m20))) (
    bV (f12_readGuest m1) fun m24 =>
    xrv m24)
set_option maxRecDepth 100000 in
theorem q12_readLine (n : Nat) (μ : XM) : xrun t12_readLine e12_readLine (xrtk none) 92 n (xlo [xr 12 0 0] 4) μ = k12_readLine  μ := rfl
theorem x12_readLine : ∃ f : XM → XR, ∀ (μ : XM), f μ = k12_readLine  μ := ⟨fun μ => k12_readLine  μ, fun μ => rfl⟩
noncomputable def f12_readLine : XM → XR := Classical.choose x12_readLine
theorem f12_readLine_e (μ : XM) : f12_readLine μ = k12_readLine  μ := Classical.choose_spec x12_readLine μ
noncomputable def F12_readLine : XF := fun av μ => match av with
  | [.inr (.inr (some (t0, i0, 0)))] => bif Nat.beq t0 12 && Nat.beq i0 0 then f12_readLine  μ else none
  | _ => none
set_option maxRecDepth 100000 in
theorem c12_readLine {X : XP} (hX : XOK X) (l : Launch) : Ctr X l y12_readLine prog_14_method_27_code 4 none (xrm 69) 0 0 F12_readLine :=
  Ctr_of (tab := t12_readLine) (env := e12_readLine) (K := 92) (N := 20000) (fl := fl12) (cl := cl12) (ll := ll12) (jl := jl12) hX mf12_readLine.2.2.2 ⟨by decide +kernel, flk12, clk12, llk12, jlk12⟩
   (List.forall_mem_cons.mpr ⟨xcal_v (na := 1) (c12_isWord hX l) mf12_isWord ⟨rfl, rfl⟩ ml12_185 mi12_isWord me12_isWord (xrm_ok (by omega) (by decide)) rfl (by decide) (by decide +kernel), List.forall_mem_cons.mpr ⟨xcal_v (na := 0) (c12_readGuest hX l) mf12_readGuest ⟨rfl, rfl⟩ ml12_234 mi12_readGuest me12_readGuest (xrm_ok (by omega) (by decide)) rfl (by decide) (by decide +kernel), List.forall_mem_cons.mpr ⟨xcal_v (na := 3) (c12_readName hX l) mf12_readName ⟨rfl, rfl⟩ ml12_237 mi12_readName me12_readName (xrm_ok (by omega) (by decide)) rfl (by decide) (by decide +kernel), List.forall_mem_cons.mpr ⟨xcal_v (na := 3) (c12_takeAfter hX l) mf12_takeAfter ⟨rfl, rfl⟩ ml12_241 mi12_takeAfter me12_takeAfter (xrm_ok (by omega) (by decide)) rfl (by decide) (by decide +kernel), List.forall_mem_cons.mpr ⟨xcal_v (na := 0) (c12_readOnce hX l) mf12_readOnce ⟨rfl, rfl⟩ ml12_245 mi12_readOnce me12_readOnce (xrm_ok (by omega) (by decide)) rfl (by decide) (by decide +kernel), fun _ h => absurd h List.not_mem_nil⟩⟩⟩⟩⟩)
   (xrm_1 (by decide)) ⟨_, _, rfl, rfl⟩ (fun av μ r μ' h => by
    unfold F12_readLine at h
    split at h
    · replace h := cond_inv h; obtain ⟨hb, h⟩ := h
      simp only [Bool.and_eq_true] at hb
      obtain ⟨g0, g1⟩ := hb
      obtain rfl := Nat.eq_of_beq_eq_true g0
      obtain rfl := Nat.eq_of_beq_eq_true g1
      exact ⟨Nat.le_of_ble_eq_true rfl, (q12_readLine _  _).trans ((f12_readLine_e  _).symm.trans h)⟩
    · cases h)
