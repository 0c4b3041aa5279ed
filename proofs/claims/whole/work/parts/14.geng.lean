def t12_belt : List XE := [(0, .aload_n 0, 0, 0, 0, 0, []),
  (1, .iconst 0, 0, 0, 0, 0, []),
  (2, .putfield 1, 12, 0, 0, 0, []),
  (5, .aload_n 0, 0, 0, 0, 0, []),
  (6, .iload_n 1, 1, 0, 0, 0, []),
  (7, .invokevirtual 356, 2, 12, 0, 0, []),
  (10, .ifCond .eq 12, 22, 0, 0, 0, []),
  (13, .iload_n 2, 2, 0, 0, 0, []),
  (14, .iconst 0, 0, 0, 0, 0, []),
  (15, .iconst 1, 0, 0, 1, 0, []),
  (16, .invokestatic 215, 3, 0, 0, 0, []),
  (19, .ifCond .ne 6, 25, 0, 0, 0, []),
  (22, .bipush (-2), 0, 0, (-2), 0, []),
  (24, .ireturn, 0, 0, 0, 0, []),
  (25, .iconst (-1), 0, 0, (-1), 0, []),
  (26, .istore_n 3, 3, 0, 0, 0, []),
  (27, .iconst 0, 0, 0, 0, 0, []),
  (28, .istore 4, 4, 0, 0, 0, []),
  (30, .nop, 31, 0, 0, 0, []),
  (30, .iload 4, 4, 0, 0, 0, []),
  (32, .aload_n 0, 0, 0, 0, 0, []),
  (33, .invokevirtual 282, 1, 12, 0, 0, []),
  (36, .if_icmp .ge 30, 66, 0, 0, 0, []),
  (39, .aload_n 0, 0, 0, 0, 0, []),
  (40, .getfield 121, 12, 24, 0, 0, []),
  (43, .bipush 15, 0, 0, 15, 0, []),
  (45, .iload 4, 4, 0, 0, 0, []),
  (47, .iadd, 0, 0, 0, 0, []),
  (48, .iaload, 0, 0, 0, 0, []),
  (49, .iload_n 1, 1, 0, 0, 0, []),
  (50, .if_icmp .ne 8, 58, 0, 0, 0, []),
  (53, .iload 4, 4, 0, 0, 0, []),
  (55, .goto 4, 59, 0, 0, 0, []),
  (58, .iload_n 3, 3, 0, 0, 0, []),
  (59, .istore_n 3, 3, 0, 0, 0, []),
  (60, .iinc 4 1, 4, 0, 1, 0, []),
  (63, .goto (-33), 30, 0, 0, 0, []),
  (66, .iload_n 2, 2, 0, 0, 0, []),
  (67, .ifCond .ne 11, 78, 0, 0, 0, []),
  (70, .aload_n 0, 0, 0, 0, 0, []),
  (71, .iload_n 1, 1, 0, 0, 0, []),
  (72, .invokevirtual 304, 2, 12, 0, 0, []),
  (75, .goto 4, 79, 0, 0, 0, []),
  (78, .iload_n 3, 3, 0, 0, 0, []),
  (79, .ireturn, 0, 0, 0, 0, [])]
noncomputable def e12_belt : XN := [(356, 1, 2, 12, F12_isBelt), (215, 1, 3, 99, F12_within), (282, 1, 1, 12, F12_guests), (304, 1, 2, 12, F12_bearsOf)]
noncomputable def h12_belt_30 (n : Nat) (v1 : Int32) (v2 : Int32) (v3 : Int32) (v4 : Int32) (μ : XM) : XR := arr t12_belt e12_belt 1 50 n 30 [some (xr 12 0 0), some (xi v1), some (xi v2), some (xi v3), some (xi v4)] [] μ
set_option maxRecDepth 100000 in
theorem h12_belt_30_s (n : Nat) (v1 : Int32) (v2 : Int32) (v3 : Int32) (v4 : Int32) (μ : XM) : h12_belt_30 (n + 1) v1 v2 v3 v4 μ = (
  bI (f12_guests μ) fun r2 m1 =>
  xite (v4 < r2) (
    xck (xin (15 + v4) 1081) <|
    xite ((aI m1 12 0 24 (Int32.toNatClampNeg (15 + v4))) = v1) (
      vI v4 fun x3 =>
      vI (v4 + 1) fun x4 =>
      h12_belt_30 n v1 v2 x3 x4 m1) (
      vI v3 fun x5 =>
      vI (v4 + 1) fun x6 =>
      h12_belt_30 n v1 v2 x5 x6 m1)) (
    xite (v2 = 0) (
      bI (f12_bearsOf v1 m1) fun r8 m7 =>
      xri r8 m7) (
      xri v3 m1))) := rfl
theorem h12_belt_30_0 (v1 : Int32) (v2 : Int32) (v3 : Int32) (v4 : Int32) (μ : XM) : h12_belt_30 0 v1 v2 v3 v4 μ = none := rfl
noncomputable def k12_belt (n : Nat) (p1 : Int32) (p2 : Int32) (μ : XM) : XR :=
  mS (sI μ 12 0 0 0) fun m1 =>
  bI (f12_isBelt p1 m1) fun r3 m2 =>
  xite (r3 = 0) (
    xri (-2) m2) (
    bI (f12_within p2 0 1 m2) fun r5 m4 =>
    xite (r5 = 0) (
      xri (-2) m4) (
      vI (-1) fun x6 =>
      vI 0 fun x7 =>
      h12_belt_30 n p1 p2 x6 x7 m4))
set_option maxRecDepth 100000 in
theorem q12_belt (n : Nat) (p1 : Int32) (p2 : Int32) (μ : XM) : xrun t12_belt e12_belt (xrtk (some .int)) 50 n (xlo [xr 12 0 0, xi p1, xi p2] 5) μ = k12_belt n p1 p2 μ := rfl
theorem x12_belt : ∃ f : Int32 → Int32 → XM → XR, ∀ (p1 : Int32) (p2 : Int32) (μ : XM), f p1 p2 μ = k12_belt 20000 p1 p2 μ := ⟨fun p1 p2 μ => k12_belt 20000 p1 p2 μ, fun p1 p2 μ => rfl⟩
noncomputable def f12_belt : Int32 → Int32 → XM → XR := Classical.choose x12_belt
theorem f12_belt_e (p1 : Int32) (p2 : Int32) (μ : XM) : f12_belt p1 p2 μ = k12_belt 20000 p1 p2 μ := Classical.choose_spec x12_belt p1 p2 μ
noncomputable def F12_belt : XF := fun av μ => match av with
  | [.inr (.inr (some (t0, i0, 0))), .inl p1, .inl p2] => bif Nat.beq t0 12 && Nat.beq i0 0 then f12_belt p1 p2 μ else none
  | _ => none
set_option maxRecDepth 100000 in
theorem c12_belt {X : XP} (hX : XOK X) (l : Launch) : Ctr X l y12_belt prog_14_method_74_code 5 (some .int) (xrm 3) 0 0 F12_belt :=
  Ctr_of (tab := t12_belt) (env := e12_belt) (K := 50) (N := 20000) (fl := fl12) (cl := cl12) (ll := ll12) (jl := jl12) hX mf12_belt.2.2.2 ⟨by decide +kernel, flk12, clk12, llk12, jlk12⟩
   (List.forall_mem_cons.mpr ⟨xcal_v (na := 1) (c12_isBelt hX l) mf12_isBelt ⟨rfl, rfl⟩ ml12_356 mi12_isBelt me12_isBelt (xrm_ok (by omega) (by decide)) rfl (by decide) (by decide +kernel), List.forall_mem_cons.mpr ⟨xcal_s (c12_within hX l) mf12_within ⟨rfl, rfl⟩ ml12_215 ms12_within (xrm_ok (by omega) (by decide)) (by decide +kernel), List.forall_mem_cons.mpr ⟨xcal_v (na := 0) (c12_guests hX l) mf12_guests ⟨rfl, rfl⟩ ml12_282 mi12_guests me12_guests (xrm_ok (by omega) (by decide)) rfl (by decide) (by decide +kernel), List.forall_mem_cons.mpr ⟨xcal_v (na := 1) (c12_bearsOf hX l) mf12_bearsOf ⟨rfl, rfl⟩ ml12_304 mi12_bearsOf me12_bearsOf (xrm_ok (by omega) (by decide)) rfl (by decide) (by decide +kernel), fun _ h => absurd h List.not_mem_nil⟩⟩⟩⟩)
   (xrm_1 (by decide)) ⟨_, _, rfl, rfl⟩ (fun av μ r μ' h => by
    unfold F12_belt at h
    split at h
    · replace h := cond_inv h; obtain ⟨hb, h⟩ := h
      simp only [Bool.and_eq_true] at hb
      obtain ⟨g0, g1⟩ := hb
      obtain rfl := Nat.eq_of_beq_eq_true g0
      obtain rfl := Nat.eq_of_beq_eq_true g1
      exact ⟨Nat.le_of_ble_eq_true rfl, (q12_belt _ _ _ _).trans ((f12_belt_e _ _ _).symm.trans h)⟩
    · cases h)
def t12_man : List XE := [(0, .aload_n 0, 0, 0, 0, 0, []),
  (1, .iconst 0, 0, 0, 0, 0, []),
  (2, .putfield 1, 12, 0, 0, 0, []),
  (5, .aload_n 0, 0, 0, 0, 0, []),
  (6, .iload_n 1, 1, 0, 0, 0, []),
  (7, .invokevirtual 359, 2, 12, 0, 0, []),
  (10, .ifCond .eq 12, 22, 0, 0, 0, []),
  (13, .iload_n 2, 2, 0, 0, 0, []),
  (14, .iconst 0, 0, 0, 0, 0, []),
  (15, .iconst 2, 0, 0, 2, 0, []),
  (16, .invokestatic 215, 3, 0, 0, 0, []),
  (19, .ifCond .ne 5, 24, 0, 0, 0, []),
  (22, .iconst (-1), 0, 0, (-1), 0, []),
  (23, .ireturn, 0, 0, 0, 0, []),
  (24, .iload_n 2, 2, 0, 0, 0, []),
  (25, .iconst 2, 0, 0, 2, 0, []),
  (26, .if_icmp .ge 12, 38, 0, 0, 0, []),
  (29, .aload_n 0, 0, 0, 0, 0, []),
  (30, .iload_n 1, 1, 0, 0, 0, []),
  (31, .iload_n 2, 2, 0, 0, 0, []),
  (32, .invokevirtual 320, 3, 12, 0, 0, []),
  (35, .goto 17, 52, 0, 0, 0, []),
  (38, .aload_n 0, 0, 0, 0, 0, []),
  (39, .iconst 0, 0, 0, 0, 0, []),
  (40, .iload_n 1, 1, 0, 0, 0, []),
  (41, .invokevirtual 323, 3, 12, 0, 0, []),
  (44, .ifCond .eq 7, 51, 0, 0, 0, []),
  (47, .iconst 1, 0, 0, 1, 0, []),
  (48, .goto 4, 52, 0, 0, 0, []),
  (51, .iconst 0, 0, 0, 0, 0, []),
  (52, .ireturn, 0, 0, 0, 0, [])]
noncomputable def e12_man : XN := [(359, 1, 2, 12, F12_isMan), (215, 1, 3, 99, F12_within), (320, 1, 3, 12, F12_manOf), (323, 1, 3, 12, F12_isFree)]
noncomputable def k12_man (p1 : Int32) (p2 : Int32) (μ : XM) : XR :=
  mS (sI μ 12 0 0 0) fun m1 =>
  bI (f12_isMan p1 m1) fun r3 m2 =>
  xite (r3 = 0) (
    xri (-1) m2) (
    bI (f12_within p2 0 2 m2) fun r5 m4 =>
    xite (r5 = 0) (
      xri (-1) m4) (
      xite (p2 < 2) (
        bI (f12_manOf p1 p2 m4) fun r7 m6 =>
        xri r7 m6) (
        bI (f12_isFree 0 p1 m4) fun r9 m8 =>
        xite (r9 = 0) (
          xri 0 m8) (
          xri 1 m8))))
set_option maxRecDepth 100000 in
theorem q12_man (n : Nat) (p1 : Int32) (p2 : Int32) (μ : XM) : xrun t12_man e12_man (xrtk (some .int)) 36 n (xlo [xr 12 0 0, xi p1, xi p2] 3) μ = k12_man p1 p2 μ := rfl
theorem x12_man : ∃ f : Int32 → Int32 → XM → XR, ∀ (p1 : Int32) (p2 : Int32) (μ : XM), f p1 p2 μ = k12_man p1 p2 μ := ⟨fun p1 p2 μ => k12_man p1 p2 μ, fun p1 p2 μ => rfl⟩
noncomputable def f12_man : Int32 → Int32 → XM → XR := Classical.choose x12_man
theorem f12_man_e (p1 : Int32) (p2 : Int32) (μ : XM) : f12_man p1 p2 μ = k12_man p1 p2 μ := Classical.choose_spec x12_man p1 p2 μ
noncomputable def F12_man : XF := fun av μ => match av with
  | [.inr (.inr (some (t0, i0, 0))), .inl p1, .inl p2] => bif Nat.beq t0 12 && Nat.beq i0 0 then f12_man p1 p2 μ else none
  | _ => none
set_option maxRecDepth 100000 in
theorem c12_man {X : XP} (hX : XOK X) (l : Launch) : Ctr X l y12_man prog_14_method_75_code 3 (some .int) (xrm 3) 0 0 F12_man :=
  Ctr_of (tab := t12_man) (env := e12_man) (K := 36) (N := 20000) (fl := fl12) (cl := cl12) (ll := ll12) (jl := jl12) hX mf12_man.2.2.2 ⟨by decide +kernel, flk12, clk12, llk12, jlk12⟩
   (List.forall_mem_cons.mpr ⟨xcal_v (na := 1) (c12_isMan hX l) mf12_isMan ⟨rfl, rfl⟩ ml12_359 mi12_isMan me12_isMan (xrm_ok (by omega) (by decide)) rfl (by decide) (by decide +kernel), List.forall_mem_cons.mpr ⟨xcal_s (c12_within hX l) mf12_within ⟨rfl, rfl⟩ ml12_215 ms12_within (xrm_ok (by omega) (by decide)) (by decide +kernel), List.forall_mem_cons.mpr ⟨xcal_v (na := 2) (c12_manOf hX l) mf12_manOf ⟨rfl, rfl⟩ ml12_320 mi12_manOf me12_manOf (xrm_ok (by omega) (by decide)) rfl (by decide) (by decide +kernel), List.forall_mem_cons.mpr ⟨xcal_v (na := 2) (c12_isFree hX l) mf12_isFree ⟨rfl, rfl⟩ ml12_323 mi12_isFree me12_isFree (xrm_ok (by omega) (by decide)) rfl (by decide) (by decide +kernel), fun _ h => absurd h List.not_mem_nil⟩⟩⟩⟩)
   (xrm_1 (by decide)) ⟨_, _, rfl, rfl⟩ (fun av μ r μ' h => by
    unfold F12_man at h
    split at h
    · replace h := cond_inv h; obtain ⟨hb, h⟩ := h
      simp only [Bool.and_eq_true] at hb
      obtain ⟨g0, g1⟩ := hb
      obtain rfl := Nat.eq_of_beq_eq_true g0
      obtain rfl := Nat.eq_of_beq_eq_true g1
      exact ⟨Nat.le_of_ble_eq_true rfl, (q12_man _ _ _ _).trans ((f12_man_e _ _ _).symm.trans h)⟩
    · cases h)
def t12_cast : List XE := [(0, .aload_n 0, 0, 0, 0, 0, []),
  (1, .iconst 0, 0, 0, 0, 0, []),
  (2, .putfield 1, 12, 0, 0, 0, []),
  (5, .aload_n 0, 0, 0, 0, 0, []),
  (6, .iload_n 1, 1, 0, 0, 0, []),
  (7, .invokevirtual 359, 2, 12, 0, 0, []),
  (10, .ifCond .eq 30, 40, 0, 0, 0, []),
  (13, .aload_n 0, 0, 0, 0, 0, []),
  (14, .iload_n 2, 2, 0, 0, 0, []),
  (15, .invokevirtual 356, 2, 12, 0, 0, []),
  (18, .ifCond .eq 22, 40, 0, 0, 0, []),
  (21, .aload_n 0, 0, 0, 0, 0, []),
  (22, .iload_n 3, 3, 0, 0, 0, []),
  (23, .invokevirtual 353, 2, 12, 0, 0, []),
  (26, .ifCond .eq 14, 40, 0, 0, 0, []),
  (29, .aload_n 0, 0, 0, 0, 0, []),
  (30, .iconst 0, 0, 0, 0, 0, []),
  (31, .iload_n 1, 1, 0, 0, 0, []),
  (32, .iload_n 2, 2, 0, 0, 0, []),
  (33, .iload_n 3, 3, 0, 0, 0, []),
  (34, .invokevirtual 362, 5, 12, 0, 0, []),
  (37, .ifCond .ne 5, 42, 0, 0, 0, []),
  (40, .iconst 0, 0, 0, 0, 0, []),
  (41, .ireturn, 0, 0, 0, 0, []),
  (42, .aload_n 0, 0, 0, 0, 0, []),
  (43, .invokevirtual 366, 1, 12, 0, 0, []),
  (46, .aload_n 0, 0, 0, 0, 0, []),
  (47, .iconst 0, 0, 0, 0, 0, []),
  (48, .iload_n 1, 1, 0, 0, 0, []),
  (49, .iload_n 2, 2, 0, 0, 0, []),
  (50, .iload_n 3, 3, 0, 0, 0, []),
  (51, .invokevirtual 369, 5, 12, 0, 0, []),
  (54, .iconst 1, 0, 0, 1, 0, []),
  (55, .ireturn, 0, 0, 0, 0, [])]
noncomputable def e12_cast : XN := [(359, 1, 2, 12, F12_isMan), (356, 1, 2, 12, F12_isBelt), (353, 1, 2, 12, F12_isGuest), (362, 1, 5, 12, F12_mayCast), (366, 0, 1, 12, F12_keeps), (369, 0, 5, 12, F12_casts)]
noncomputable def k12_cast (p1 : Int32) (p2 : Int32) (p3 : Int32) (μ : XM) : XR :=
  mS (sI μ 12 0 0 0) fun m1 =>
  bI (f12_isMan p1 m1) fun r3 m2 =>
  xite (r3 = 0) (
    xrb 0 m2) (
    bI (f12_isBelt p2 m2) fun r5 m4 =>
    xite (r5 = 0) (
      xrb 0 m4) (
      bI (f12_isGuest p3 m4) fun r7 m6 =>
      xite (r7 = 0) (
        xrb 0 m6) (
        bI (f12_mayCast 0 p1 p2 p3 m6) fun r9 m8 =>
        xite (r9 = 0) (
          xrb 0 m8) (
          bV (f12_keeps m8) fun m10 =>
          bV (f12_casts 0 p1 p2 p3 m10) fun m11 =>
          xrb 1 m11))))
set_option maxRecDepth 100000 in
theorem q12_cast (n : Nat) (p1 : Int32) (p2 : Int32) (p3 : Int32) (μ : XM) : xrun t12_cast e12_cast (xrtk (some .boolean)) 39 n (xlo [xr 12 0 0, xi p1, xi p2, xi p3] 4) μ = k12_cast p1 p2 p3 μ := rfl
theorem x12_cast : ∃ f : Int32 → Int32 → Int32 → XM → XR, ∀ (p1 : Int32) (p2 : Int32) (p3 : Int32) (μ : XM), f p1 p2 p3 μ = k12_cast p1 p2 p3 μ := ⟨fun p1 p2 p3 μ => k12_cast p1 p2 p3 μ, fun p1 p2 p3 μ => rfl⟩
noncomputable def f12_cast : Int32 → Int32 → Int32 → XM → XR := Classical.choose x12_cast
theorem f12_cast_e (p1 : Int32) (p2 : Int32) (p3 : Int32) (μ : XM) : f12_cast p1 p2 p3 μ = k12_cast p1 p2 p3 μ := Classical.choose_spec x12_cast p1 p2 p3 μ
noncomputable def F12_cast : XF := fun av μ => match av with
  | [.inr (.inr (some (t0, i0, 0))), .inl p1, .inl p2, .inl p3] => bif Nat.beq t0 12 && Nat.beq i0 0 then f12_cast p1 p2 p3 μ else none
  | _ => none
set_option maxRecDepth 100000 in
theorem c12_cast {X : XP} (hX : XOK X) (l : Launch) : Ctr X l y12_cast prog_14_method_76_code 4 (some .boolean) (xrm 5) 0 0 F12_cast :=
  Ctr_of (tab := t12_cast) (env := e12_cast) (K := 39) (N := 20000) (fl := fl12) (cl := cl12) (ll := ll12) (jl := jl12) hX mf12_cast.2.2.2 ⟨by decide +kernel, flk12, clk12, llk12, jlk12⟩
   (List.forall_mem_cons.mpr ⟨xcal_v (na := 1) (c12_isMan hX l) mf12_isMan ⟨rfl, rfl⟩ ml12_359 mi12_isMan me12_isMan (xrm_ok (by omega) (by decide)) rfl (by decide) (by decide +kernel), List.forall_mem_cons.mpr ⟨xcal_v (na := 1) (c12_isBelt hX l) mf12_isBelt ⟨rfl, rfl⟩ ml12_356 mi12_isBelt me12_isBelt (xrm_ok (by omega) (by decide)) rfl (by decide) (by decide +kernel), List.forall_mem_cons.mpr ⟨xcal_v (na := 1) (c12_isGuest hX l) mf12_isGuest ⟨rfl, rfl⟩ ml12_353 mi12_isGuest me12_isGuest (xrm_ok (by omega) (by decide)) rfl (by decide) (by decide +kernel), List.forall_mem_cons.mpr ⟨xcal_v (na := 4) (c12_mayCast hX l) mf12_mayCast ⟨rfl, rfl⟩ ml12_362 mi12_mayCast me12_mayCast (xrm_ok (by omega) (by decide)) rfl (by decide) (by decide +kernel), List.forall_mem_cons.mpr ⟨xcal_v (na := 0) (c12_keeps hX l) mf12_keeps ⟨rfl, rfl⟩ ml12_366 mi12_keeps me12_keeps (xrm_ok (by omega) (by decide)) rfl (by decide) (by decide +kernel), List.forall_mem_cons.mpr ⟨xcal_v (na := 4) (c12_casts hX l) mf12_casts ⟨rfl, rfl⟩ ml12_369 mi12_casts me12_casts (xrm_ok (by omega) (by decide)) rfl (by decide) (by decide +kernel), fun _ h => absurd h List.not_mem_nil⟩⟩⟩⟩⟩⟩)
   (xrm_1 (by decide)) ⟨_, _, rfl, rfl⟩ (fun av μ r μ' h => by
    unfold F12_cast at h
    split at h
    · replace h := cond_inv h; obtain ⟨hb, h⟩ := h
      simp only [Bool.and_eq_true] at hb
      obtain ⟨g0, g1⟩ := hb
      obtain rfl := Nat.eq_of_beq_eq_true g0
      obtain rfl := Nat.eq_of_beq_eq_true g1
      exact ⟨Nat.le_of_ble_eq_true rfl, (q12_cast _ _ _ _ _).trans ((f12_cast_e _ _ _ _).symm.trans h)⟩
    · cases h)
def t12_ask : List XE := [(0, .aload_n 0, 0, 0, 0, 0, []),
  (1, .iconst 0, 0, 0, 0, 0, []),
  (2, .putfield 1, 12, 0, 0, 0, []),
  (5, .aload_n 0, 0, 0, 0, 0, []),
  (6, .getfield 121, 12, 24, 0, 0, []),
  (9, .iconst 1, 0, 0, 1, 0, []),
  (10, .iaload, 0, 0, 0, 0, []),
  (11, .bipush 9, 0, 0, 9, 0, []),
  (13, .if_icmp .ne 5, 18, 0, 0, 0, []),
  (16, .iconst (-1), 0, 0, (-1), 0, []),
  (17, .ireturn, 0, 0, 0, 0, []),
  (18, .aload_n 0, 0, 0, 0, 0, []),
  (19, .invokevirtual 366, 1, 12, 0, 0, []),
  (22, .aload_n 0, 0, 0, 0, 0, []),
  (23, .getfield 121, 12, 24, 0, 0, []),
  (26, .iconst 1, 0, 0, 1, 0, []),
  (27, .dup2, 0, 0, 0, 0, []),
  (28, .iaload, 0, 0, 0, 0, []),
  (29, .iconst 1, 0, 0, 1, 0, []),
  (30, .iadd, 0, 0, 0, 0, []),
  (31, .iastore, 0, 0, 0, 0, []),
  (32, .aload_n 0, 0, 0, 0, 0, []),
  (33, .getfield 121, 12, 24, 0, 0, []),
  (36, .iconst 1, 0, 0, 1, 0, []),
  (37, .iaload, 0, 0, 0, 0, []),
  (38, .ireturn, 0, 0, 0, 0, [])]
noncomputable def e12_ask : XN := [(366, 0, 1, 12, F12_keeps)]
noncomputable def k12_ask (μ : XM) : XR :=
  mS (sI μ 12 0 0 0) fun m1 =>
  xck (xin 1 1081) <|
  xite ((aI m1 12 0 24 (Int32.toNatClampNeg 1)) = 9) (
    xri (-1) m1) (
    bV (f12_keeps m1) fun m2 =>
    xck (xin 1 1081) <|
    xck (xin 1 1081 && true) <|
    mS (pI m2 12 0 24 (Int32.toNatClampNeg 1) ((aI m2 12 0 24 (Int32.toNatClampNeg 1)) + 1)) fun m3 =>
    xck (xin 1 1081) <|
    xri (aI m3 12 0 24 (Int32.toNatClampNeg 1)) m3)
set_option maxRecDepth 100000 in
theorem q12_ask (n : Nat) (μ : XM) : xrun t12_ask e12_ask (xrtk (some .int)) 31 n (xlo [xr 12 0 0] 1) μ = k12_ask  μ := rfl
theorem x12_ask : ∃ f : XM → XR, ∀ (μ : XM), f μ = k12_ask  μ := ⟨fun μ => k12_ask  μ, fun μ => rfl⟩
noncomputable def f12_ask : XM → XR := Classical.choose x12_ask
theorem f12_ask_e (μ : XM) : f12_ask μ = k12_ask  μ := Classical.choose_spec x12_ask μ
noncomputable def F12_ask : XF := fun av μ => match av with
  | [.inr (.inr (some (t0, i0, 0)))] => bif Nat.beq t0 12 && Nat.beq i0 0 then f12_ask  μ else none
  | _ => none
set_option maxRecDepth 100000 in
theorem c12_ask {X : XP} (hX : XOK X) (l : Launch) : Ctr X l y12_ask prog_14_method_77_code 1 (some .int) (xrm 3) 0 0 F12_ask :=
  Ctr_of (tab := t12_ask) (env := e12_ask) (K := 31) (N := 20000) (fl := fl12) (cl := cl12) (ll := ll12) (jl := jl12) hX mf12_ask.2.2.2 ⟨by decide +kernel, flk12, clk12, llk12, jlk12⟩
   (List.forall_mem_cons.mpr ⟨xcal_v (na := 0) (c12_keeps hX l) mf12_keeps ⟨rfl, rfl⟩ ml12_366 mi12_keeps me12_keeps (xrm_ok (by omega) (by decide)) rfl (by decide) (by decide +kernel), fun _ h => absurd h List.not_mem_nil⟩)
   (xrm_1 (by decide)) ⟨_, _, rfl, rfl⟩ (fun av μ r μ' h => by
    unfold F12_ask at h
    split at h
    · replace h := cond_inv h; obtain ⟨hb, h⟩ := h
      simp only [Bool.and_eq_true] at hb
      obtain ⟨g0, g1⟩ := hb
      obtain rfl := Nat.eq_of_beq_eq_true g0
      obtain rfl := Nat.eq_of_beq_eq_true g1
      exact ⟨Nat.le_of_ble_eq_true rfl, (q12_ask _  _).trans ((f12_ask_e  _).symm.trans h)⟩
    · cases h)
def t12_stop : List XE := [(0, .aload_n 0, 0, 0, 0, 0, []),
  (1, .iconst 0, 0, 0, 0, 0, []),
  (2, .putfield 1, 12, 0, 0, 0, []),
  (5, .aload_n 0, 0, 0, 0, 0, []),
  (6, .iload_n 1, 1, 0, 0, 0, []),
  (7, .invokevirtual 359, 2, 12, 0, 0, []),
  (10, .ifCond .eq 12, 22, 0, 0, 0, []),
  (13, .aload_n 0, 0, 0, 0, 0, []),
  (14, .iconst 0, 0, 0, 0, 0, []),
  (15, .iload_n 1, 1, 0, 0, 0, []),
  (16, .invokevirtual 373, 3, 12, 0, 0, []),
  (19, .ifCond .ne 5, 24, 0, 0, 0, []),
  (22, .iconst (-1), 0, 0, (-1), 0, []),
  (23, .ireturn, 0, 0, 0, 0, []),
  (24, .aload_n 0, 0, 0, 0, 0, []),
  (25, .invokevirtual 366, 1, 12, 0, 0, []),
  (28, .aload_n 0, 0, 0, 0, 0, []),
  (29, .iconst 0, 0, 0, 0, 0, []),
  (30, .iload_n 1, 1, 0, 0, 0, []),
  (31, .invokevirtual 376, 3, 12, 0, 0, []),
  (34, .aload_n 0, 0, 0, 0, 0, []),
  (35, .getfield 121, 12, 24, 0, 0, []),
  (38, .iconst 1, 0, 0, 1, 0, []),
  (39, .iaload, 0, 0, 0, 0, []),
  (40, .ireturn, 0, 0, 0, 0, [])]
noncomputable def e12_stop : XN := [(359, 1, 2, 12, F12_isMan), (373, 1, 3, 12, F12_mayStop), (366, 0, 1, 12, F12_keeps), (376, 0, 3, 12, F12_stops)]
noncomputable def k12_stop (p1 : Int32) (μ : XM) : XR :=
  mS (sI μ 12 0 0 0) fun m1 =>
  bI (f12_isMan p1 m1) fun r3 m2 =>
  xite (r3 = 0) (
    xri (-1) m2) (
    bI (f12_mayStop 0 p1 m2) fun r5 m4 =>
    xite (r5 = 0) (
      xri (-1) m4) (
      bV (f12_keeps m4) fun m6 =>
      bV (f12_stops 0 p1 m6) fun m7 =>
      xck (xin 1 1081) <|
      xri (aI m7 12 0 24 (Int32.toNatClampNeg 1)) m7))
set_option maxRecDepth 100000 in
theorem q12_stop (n : Nat) (p1 : Int32) (μ : XM) : xrun t12_stop e12_stop (xrtk (some .int)) 30 n (xlo [xr 12 0 0, xi p1] 2) μ = k12_stop p1 μ := rfl
theorem x12_stop : ∃ f : Int32 → XM → XR, ∀ (p1 : Int32) (μ : XM), f p1 μ = k12_stop p1 μ := ⟨fun p1 μ => k12_stop p1 μ, fun p1 μ => rfl⟩
noncomputable def f12_stop : Int32 → XM → XR := Classical.choose x12_stop
theorem f12_stop_e (p1 : Int32) (μ : XM) : f12_stop p1 μ = k12_stop p1 μ := Classical.choose_spec x12_stop p1 μ
noncomputable def F12_stop : XF := fun av μ => match av with
  | [.inr (.inr (some (t0, i0, 0))), .inl p1] => bif Nat.beq t0 12 && Nat.beq i0 0 then f12_stop p1 μ else none
  | _ => none
set_option maxRecDepth 100000 in
theorem c12_stop {X : XP} (hX : XOK X) (l : Launch) : Ctr X l y12_stop prog_14_method_78_code 2 (some .int) (xrm 3) 0 0 F12_stop :=
  Ctr_of (tab := t12_stop) (env := e12_stop) (K := 30) (N := 20000) (fl := fl12) (cl := cl12) (ll := ll12) (jl := jl12) hX mf12_stop.2.2.2 ⟨by decide +kernel, flk12, clk12, llk12, jlk12⟩
   (List.forall_mem_cons.mpr ⟨xcal_v (na := 1) (c12_isMan hX l) mf12_isMan ⟨rfl, rfl⟩ ml12_359 mi12_isMan me12_isMan (xrm_ok (by omega) (by decide)) rfl (by decide) (by decide +kernel), List.forall_mem_cons.mpr ⟨xcal_v (na := 2) (c12_mayStop hX l) mf12_mayStop ⟨rfl, rfl⟩ ml12_373 mi12_mayStop me12_mayStop (xrm_ok (by omega) (by decide)) rfl (by decide) (by decide +kernel), List.forall_mem_cons.mpr ⟨xcal_v (na := 0) (c12_keeps hX l) mf12_keeps ⟨rfl, rfl⟩ ml12_366 mi12_keeps me12_keeps (xrm_ok (by omega) (by decide)) rfl (by decide) (by decide +kernel), List.forall_mem_cons.mpr ⟨xcal_v (na := 2) (c12_stops hX l) mf12_stops ⟨rfl, rfl⟩ ml12_376 mi12_stops me12_stops (xrm_ok (by omega) (by decide)) rfl (by decide) (by decide +kernel), fun _ h => absurd h List.not_mem_nil⟩⟩⟩⟩)
   (xrm_1 (by decide)) ⟨_, _, rfl, rfl⟩ (fun av μ r μ' h => by
    unfold F12_stop at h
    split at h
    · replace h := cond_inv h; obtain ⟨hb, h⟩ := h
      simp only [Bool.and_eq_true] at hb
      obtain ⟨g0, g1⟩ := hb
      obtain rfl := Nat.eq_of_beq_eq_true g0
      obtain rfl := Nat.eq_of_beq_eq_true g1
      exact ⟨Nat.le_of_ble_eq_true rfl, (q12_stop _ _ _).trans ((f12_stop_e _ _).symm.trans h)⟩
    · cases h)
def t12_minute : List XE := [(0, .aload_n 0, 0, 0, 0, 0, []),
  (1, .iconst 0, 0, 0, 0, 0, []),
  (2, .putfield 1, 12, 0, 0, 0, []),
  (5, .aload_n 0, 0, 0, 0, 0, []),
  (6, .invokevirtual 366, 1, 12, 0, 0, []),
  (9, .aload_n 0, 0, 0, 0, 0, []),
  (10, .iconst 0, 0, 0, 0, 0, []),
  (11, .invokevirtual 379, 2, 12, 0, 0, []),
  (14, .ireturn, 0, 0, 0, 0, [])]
noncomputable def e12_minute : XN := [(366, 0, 1, 12, F12_keeps), (379, 1, 2, 12, F12_passes)]
noncomputable def k12_minute (μ : XM) : XR :=
  mS (sI μ 12 0 0 0) fun m1 =>
  bV (f12_keeps m1) fun m2 =>
  bI (f12_passes 0 m2) fun r4 m3 =>
  xri r4 m3
set_option maxRecDepth 100000 in
theorem q12_minute (n : Nat) (μ : XM) : xrun t12_minute e12_minute (xrtk (some .int)) 14 n (xlo [xr 12 0 0] 1) μ = k12_minute  μ := rfl
theorem x12_minute : ∃ f : XM → XR, ∀ (μ : XM), f μ = k12_minute  μ := ⟨fun μ => k12_minute  μ, fun μ => rfl⟩
noncomputable def f12_minute : XM → XR := Classical.choose x12_minute
theorem f12_minute_e (μ : XM) : f12_minute μ = k12_minute  μ := Classical.choose_spec x12_minute μ
noncomputable def F12_minute : XF := fun av μ => match av with
  | [.inr (.inr (some (t0, i0, 0)))] => bif Nat.beq t0 12 && Nat.beq i0 0 then f12_minute  μ else none
  | _ => none
set_option maxRecDepth 100000 in
theorem c12_minute {X : XP} (hX : XOK X) (l : Launch) : Ctr X l y12_minute prog_14_method_79_code 1 (some .int) (xrm 7) 0 0 F12_minute :=
  Ctr_of (tab := t12_minute) (env := e12_minute) (K := 14) (N := 20000) (fl := fl12) (cl := cl12) (ll := ll12) (jl := jl12) hX mf12_minute.2.2.2 ⟨by decide +kernel, flk12, clk12, llk12, jlk12⟩
   (List.forall_mem_cons.mpr ⟨xcal_v (na := 0) (c12_keeps hX l) mf12_keeps ⟨rfl, rfl⟩ ml12_366 mi12_keeps me12_keeps (xrm_ok (by omega) (by decide)) rfl (by decide) (by decide +kernel), List.forall_mem_cons.mpr ⟨xcal_v (na := 1) (c12_passes hX l) mf12_passes ⟨rfl, rfl⟩ ml12_379 mi12_passes me12_passes (xrm_ok (by omega) (by decide)) rfl (by decide) (by decide +kernel), fun _ h => absurd h List.not_mem_nil⟩⟩)
   (xrm_1 (by decide)) ⟨_, _, rfl, rfl⟩ (fun av μ r μ' h => by
    unfold F12_minute at h
    split at h
    · replace h := cond_inv h; obtain ⟨hb, h⟩ := h
      simp only [Bool.and_eq_true] at hb
      obtain ⟨g0, g1⟩ := hb
      obtain rfl := Nat.eq_of_beq_eq_true g0
      obtain rfl := Nat.eq_of_beq_eq_true g1
      exact ⟨Nat.le_of_ble_eq_true rfl, (q12_minute _  _).trans ((f12_minute_e  _).symm.trans h)⟩
    · cases h)
def t12_undo : List XE := [(0, .aload_n 0, 0, 0, 0, 0, []),
  (1, .iconst 0, 0, 0, 0, 0, []),
  (2, .putfield 1, 12, 0, 0, 0, []),
  (5, .aload_n 0, 0, 0, 0, 0, []),
  (6, .getfield 292, 12, 25, 0, 0, []),
  (9, .ifCond .ne 5, 14, 0, 0, 0, []),
  (12, .iconst 0, 0, 0, 0, 0, []),
  (13, .ireturn, 0, 0, 0, 0, []),
  (14, .aload_n 0, 0, 0, 0, 0, []),
  (15, .dup, 0, 0, 0, 0, []),
  (16, .getfield 292, 12, 25, 0, 0, []),
  (19, .iconst 1, 0, 0, 1, 0, []),
  (20, .isub, 0, 0, 0, 0, []),
  (21, .putfield 292, 12, 25, 0, 0, []),
  (24, .aload_n 0, 0, 0, 0, 0, []),
  (25, .bipush 47, 0, 0, 47, 0, []),
  (27, .iconst 5, 0, 0, 5, 0, []),
  (28, .aload_n 0, 0, 0, 0, 0, []),
  (29, .getfield 292, 12, 25, 0, 0, []),
  (32, .iadd, 0, 0, 0, 0, []),
  (33, .imul, 0, 0, 0, 0, []),
  (34, .iconst 0, 0, 0, 0, 0, []),
  (35, .bipush 30, 0, 0, 30, 0, []),
  (37, .invokevirtual 295, 4, 12, 0, 0, []),
  (40, .iconst 1, 0, 0, 1, 0, []),
  (41, .ireturn, 0, 0, 0, 0, [])]
noncomputable def e12_undo : XN := [(295, 0, 4, 12, F12_copies)]
noncomputable def k12_undo (μ : XM) : XR :=
  mS (sI μ 12 0 0 0) fun m1 =>
  xite ((rI m1 12 0 25) = 0) (
    xrb 0 m1) (
    mS (sI m1 12 0 25 ((rI m1 12 0 25) - 1)) fun m2 =>
    bV (f12_copies (47 * (5 + (rI m2 12 0 25))) 0 30 m2) fun m3 =>
    xrb 1 m3)
set_option maxRecDepth 100000 in
theorem q12_undo (n : Nat) (μ : XM) : xrun t12_undo e12_undo (xrtk (some .boolean)) 31 n (xlo [xr 12 0 0] 1) μ = k12_undo  μ := rfl
theorem x12_undo : ∃ f : XM → XR, ∀ (μ : XM), f μ = k12_undo  μ := ⟨fun μ => k12_undo  μ, fun μ => rfl⟩
noncomputable def f12_undo : XM → XR := Classical.choose x12_undo
theorem f12_undo_e (μ : XM) : f12_undo μ = k12_undo  μ := Classical.choose_spec x12_undo μ
noncomputable def F12_undo : XF := fun av μ => match av with
  | [.inr (.inr (some (t0, i0, 0)))] => bif Nat.beq t0 12 && Nat.beq i0 0 then f12_undo  μ else none
  | _ => none
set_option maxRecDepth 100000 in
theorem c12_undo {X : XP} (hX : XOK X) (l : Launch) : Ctr X l y12_undo prog_14_method_80_code 1 (some .boolean) (xrm 2) 0 0 F12_undo :=
  Ctr_of (tab := t12_undo) (env := e12_undo) (K := 31) (N := 20000) (fl := fl12) (cl := cl12) (ll := ll12) (jl := jl12) hX mf12_undo.2.2.2 ⟨by decide +kernel, flk12, clk12, llk12, jlk12⟩
   (List.forall_mem_cons.mpr ⟨xcal_v (na := 3) (c12_copies hX l) mf12_copies ⟨rfl, rfl⟩ ml12_295 mi12_copies me12_copies (xrm_ok (by omega) (by decide)) rfl (by decide) (by decide +kernel), fun _ h => absurd h List.not_mem_nil⟩)
   (xrm_1 (by decide)) ⟨_, _, rfl, rfl⟩ (fun av μ r μ' h => by
    unfold F12_undo at h
    split at h
    · replace h := cond_inv h; obtain ⟨hb, h⟩ := h
      simp only [Bool.and_eq_true] at hb
      obtain ⟨g0, g1⟩ := hb
      obtain rfl := Nat.eq_of_beq_eq_true g0
      obtain rfl := Nat.eq_of_beq_eq_true g1
      exact ⟨Nat.le_of_ble_eq_true rfl, (q12_undo _  _).trans ((f12_undo_e  _).symm.trans h)⟩
    · cases h)
def t12_judged : List XE := [(0, .aload_n 0, 0, 0, 0, 0, []),
  (1, .iconst 0, 0, 0, 0, 0, []),
  (2, .putfield 1, 12, 0, 0, 0, []),
  (5, .iload_n 1, 1, 0, 0, 0, []),
  (6, .iconst 0, 0, 0, 0, 0, []),
  (7, .iconst 2, 0, 0, 2, 0, []),
  (8, .invokestatic 215, 3, 0, 0, 0, []),
  (11, .ifCond .ne 6, 17, 0, 0, 0, []),
  (14, .bipush (-2), 0, 0, (-2), 0, []),
  (16, .ireturn, 0, 0, 0, 0, []),
  (17, .aload_n 0, 0, 0, 0, 0, []),
  (18, .sipush 987, 0, 0, 987, 0, []),
  (21, .invokevirtual 289, 2, 12, 0, 0, []),
  (24, .iconst (-1), 0, 0, (-1), 0, []),
  (25, .istore_n 2, 2, 0, 0, 0, []),
  (26, .iconst (-1), 0, 0, (-1), 0, []),
  (27, .istore_n 3, 3, 0, 0, 0, []),
  (28, .iconst 0, 0, 0, 0, 0, []),
  (29, .istore 4, 4, 0, 0, 0, []),
  (31, .nop, 31, 0, 0, 0, []),
  (31, .iload 4, 4, 0, 0, 0, []),
  (33, .aload_n 0, 0, 0, 0, 0, []),
  (34, .getfield 112, 12, 21, 0, 0, []),
  (37, .iconst 0, 0, 0, 0, 0, []),
  (38, .iaload, 0, 0, 0, 0, []),
  (39, .if_icmp .ge 248, 287, 0, 0, 0, []),
  (42, .iconst 1, 0, 0, 1, 0, []),
  (43, .iconst 4, 0, 0, 4, 0, []),
  (44, .iload 4, 4, 0, 0, 0, []),
  (46, .imul, 0, 0, 0, 0, []),
  (47, .iadd, 0, 0, 0, 0, []),
  (48, .istore 5, 5, 0, 0, 0, []),
  (50, .aload_n 0, 0, 0, 0, 0, []),
  (51, .getfield 112, 12, 21, 0, 0, []),
  (54, .iload 5, 5, 0, 0, 0, []),
  (56, .iaload, 0, 0, 0, 0, []),
  (57, .istore 6, 6, 0, 0, 0, []),
  (59, .aload_n 0, 0, 0, 0, 0, []),
  (60, .getfield 112, 12, 21, 0, 0, []),
  (63, .iload 5, 5, 0, 0, 0, []),
  (65, .iconst 1, 0, 0, 1, 0, []),
  (66, .iadd, 0, 0, 0, 0, []),
  (67, .iaload, 0, 0, 0, 0, []),
  (68, .istore 7, 7, 0, 0, 0, []),
  (70, .iload 6, 6, 0, 0, 0, []),
  (72, .ifCond .eq 76, 148, 0, 0, 0, []),
  (75, .iload 6, 6, 0, 0, 0, []),
  (77, .iconst 1, 0, 0, 1, 0, []),
  (78, .if_icmp .ne 36, 114, 0, 0, 0, []),
  (81, .aload_n 0, 0, 0, 0, 0, []),
  (82, .sipush 987, 0, 0, 987, 0, []),
  (85, .iload 7, 7, 0, 0, 0, []),
  (87, .aload_n 0, 0, 0, 0, 0, []),
  (88, .getfield 112, 12, 21, 0, 0, []),
  (91, .iload 5, 5, 0, 0, 0, []),
  (93, .iconst 2, 0, 0, 2, 0, []),
  (94, .iadd, 0, 0, 0, 0, []),
  (95, .iaload, 0, 0, 0, 0, []),
  (96, .aload_n 0, 0, 0, 0, 0, []),
  (97, .getfield 112, 12, 21, 0, 0, []),
  (100, .iload 5, 5, 0, 0, 0, []),
  (102, .iconst 3, 0, 0, 3, 0, []),
  (103, .iadd, 0, 0, 0, 0, []),
  (104, .iaload, 0, 0, 0, 0, []),
  (105, .invokevirtual 362, 5, 12, 0, 0, []),
  (108, .ifCond .eq 44, 152, 0, 0, 0, []),
  (111, .goto 37, 148, 0, 0, 0, []),
  (114, .iload 6, 6, 0, 0, 0, []),
  (116, .iconst 2, 0, 0, 2, 0, []),
  (117, .if_icmp .ne 19, 136, 0, 0, 0, []),
  (120, .aload_n 0, 0, 0, 0, 0, []),
  (121, .getfield 121, 12, 24, 0, 0, []),
  (124, .sipush 988, 0, 0, 988, 0, []),
  (127, .iaload, 0, 0, 0, 0, []),
  (128, .bipush 9, 0, 0, 9, 0, []),
  (130, .if_icmp .ge 22, 152, 0, 0, 0, []),
  (133, .goto 15, 148, 0, 0, 0, []),
  (136, .aload_n 0, 0, 0, 0, 0, []),
  (137, .sipush 987, 0, 0, 987, 0, []),
  (140, .iload 7, 7, 0, 0, 0, []),
  (142, .invokevirtual 373, 3, 12, 0, 0, []),
  (145, .ifCond .eq 7, 152, 0, 0, 0, []),
  (148, .iconst 1, 0, 0, 1, 0, []),
  (149, .goto 4, 153, 0, 0, 0, []),
  (152, .iconst 0, 0, 0, 0, 0, []),
  (153, .istore 8, 8, 0, 0, 0, []),
  (155, .iload 8, 8, 0, 0, 0, []),
  (157, .ifCond .ne 12, 169, 0, 0, 0, []),
  (160, .iload_n 2, 2, 0, 0, 0, []),
  (161, .ifCond .ge 8, 169, 0, 0, 0, []),
  (164, .iload 4, 4, 0, 0, 0, []),
  (166, .goto 4, 170, 0, 0, 0, []),
  (169, .iload_n 2, 2, 0, 0, 0, []),
  (170, .nop, 507, 0, 0, 0, []),
  (170, .istore_n 2, 2, 0, 0, 0, []),
  (171, .iload 6, 6, 0, 0, 0, []),
  (173, .ifCond .ne 27, 200, 0, 0, 0, []),
  (176, .aload_n 0, 0, 0, 0, 0, []),
  (177, .sipush 987, 0, 0, 987, 0, []),
  (180, .invokevirtual 379, 2, 12, 0, 0, []),
  (183, .ifCond .eq 12, 195, 0, 0, 0, []),
  (186, .iload_n 3, 3, 0, 0, 0, []),
  (187, .ifCond .ge 8, 195, 0, 0, 0, []),
  (190, .iload 4, 4, 0, 0, 0, []),
  (192, .goto 4, 196, 0, 0, 0, []),
  (195, .iload_n 3, 3, 0, 0, 0, []),
  (196, .istore_n 3, 3, 0, 0, 0, []),
  (197, .goto 84, 281, 0, 0, 0, []),
  (200, .iload 8, 8, 0, 0, 0, []),
  (202, .ifCond .eq 39, 241, 0, 0, 0, []),
  (205, .iload 6, 6, 0, 0, 0, []),
  (207, .iconst 1, 0, 0, 1, 0, []),
  (208, .if_icmp .ne 33, 241, 0, 0, 0, []),
  (211, .aload_n 0, 0, 0, 0, 0, []),
  (212, .sipush 987, 0, 0, 987, 0, []),
  (215, .iload 7, 7, 0, 0, 0, []),
  (217, .aload_n 0, 0, 0, 0, 0, []),
  (218, .getfield 112, 12, 21, 0, 0, []),
  (221, .iload 5, 5, 0, 0, 0, []),
  (223, .iconst 2, 0, 0, 2, 0, []),
  (224, .iadd, 0, 0, 0, 0, []),
  (225, .iaload, 0, 0, 0, 0, []),
  (226, .aload_n 0, 0, 0, 0, 0, []),
  (227, .getfield 112, 12, 21, 0, 0, []),
  (230, .iload 5, 5, 0, 0, 0, []),
  (232, .iconst 3, 0, 0, 3, 0, []),
  (233, .iadd, 0, 0, 0, 0, []),
  (234, .iaload, 0, 0, 0, 0, []),
  (235, .invokevirtual 369, 5, 12, 0, 0, []),
  (238, .goto 43, 281, 0, 0, 0, []),
  (241, .nop, 479, 0, 0, 0, []),
  (241, .iload 8, 8, 0, 0, 0, []),
  (243, .ifCond .eq 24, 267, 0, 0, 0, []),
  (246, .iload 6, 6, 0, 0, 0, []),
  (248, .iconst 2, 0, 0, 2, 0, []),
  (249, .if_icmp .ne 18, 267, 0, 0, 0, []),
  (252, .aload_n 0, 0, 0, 0, 0, []),
  (253, .getfield 121, 12, 24, 0, 0, []),
  (256, .sipush 988, 0, 0, 988, 0, []),
  (259, .dup2, 0, 0, 0, 0, []),
  (260, .iaload, 0, 0, 0, 0, []),
  (261, .iconst 1, 0, 0, 1, 0, []),
  (262, .iadd, 0, 0, 0, 0, []),
  (263, .iastore, 0, 0, 0, 0, []),
  (264, .goto 17, 281, 0, 0, 0, []),
  (267, .iload 8, 8, 0, 0, 0, []),
  (269, .ifCond .eq 12, 281, 0, 0, 0, []),
  (272, .aload_n 0, 0, 0, 0, 0, []),
  (273, .sipush 987, 0, 0, 987, 0, []),
  (276, .iload 7, 7, 0, 0, 0, []),
  (278, .invokevirtual 376, 3, 12, 0, 0, []),
  (281, .iinc 4 1, 4, 0, 1, 0, []),
  (284, .goto (-253), 31, 0, 0, 0, []),
  (287, .iload_n 1, 1, 0, 0, 0, []),
  (288, .ifCond .ne 7, 295, 0, 0, 0, []),
  (291, .iload_n 2, 2, 0, 0, 0, []),
  (292, .goto 23, 315, 0, 0, 0, []),
  (295, .iload_n 1, 1, 0, 0, 0, []),
  (296, .iconst 1, 0, 0, 1, 0, []),
  (297, .if_icmp .ne 7, 304, 0, 0, 0, []),
  (300, .iload_n 3, 3, 0, 0, 0, []),
  (301, .goto 14, 315, 0, 0, 0, []),
  (304, .aload_n 0, 0, 0, 0, 0, []),
  (305, .sipush 987, 0, 0, 987, 0, []),
  (308, .iconst 1, 0, 0, 1, 0, []),
  (309, .invokevirtual 338, 3, 12, 0, 0, []),
  (312, .invokestatic 347, 1, 0, 0, 0, []),
  (315, .ireturn, 0, 0, 0, 0, [])]
noncomputable def e12_judged : XN := [(215, 1, 3, 99, F12_within), (289, 0, 2, 12, F12_starts), (362, 1, 5, 12, F12_mayCast), (373, 1, 3, 12, F12_mayStop), (379, 1, 2, 12, F12_passes), (369, 0, 5, 12, F12_casts), (376, 0, 3, 12, F12_stops), (338, 1, 3, 12, F12_who), (347, 1, 1, 99, F12_bits)]
noncomputable def h12_judged_31 (n : Nat) (v1 : Int32) (v2 : Int32) (v3 : Int32) (v4 : Int32) (μ : XM) : XR := arr t12_judged e12_judged 1 173 n 31 [some (xr 12 0 0), some (xi v1), some (xi v2), some (xi v3), some (xi v4), none, none, none, none] [] μ
noncomputable def h12_judged_170 (n : Nat) (v1 : Int32) (v3 : Int32) (v4 : Int32) (v5 : Int32) (v6 : Int32) (v7 : Int32) (v8 : Int32) (s0 : Int32) (μ : XM) : XR := arr t12_judged e12_judged 1 173 n 170 [some (xr 12 0 0), some (xi v1), none, some (xi v3), some (xi v4), some (xi v5), some (xi v6), some (xi v7), some (xi v8)] [xi s0] μ
noncomputable def h12_judged_241 (n : Nat) (v1 : Int32) (v2 : Int32) (v3 : Int32) (v4 : Int32) (v6 : Int32) (v7 : Int32) (v8 : Int32) (μ : XM) : XR := arr t12_judged e12_judged 1 173 n 241 [some (xr 12 0 0), some (xi v1), some (xi v2), some (xi v3), some (xi v4), none, some (xi v6), some (xi v7), some (xi v8)] [] μ
set_option maxRecDepth 100000 in
theorem h12_judged_31_s (n : Nat) (v1 : Int32) (v2 : Int32) (v3 : Int32) (v4 : Int32) (μ : XM) : h12_judged_31 (n + 1) v1 v2 v3 v4 μ = (
  xck (xin 0 330) <|
  xite (v4 < (aI μ 12 0 21 (Int32.toNatClampNeg 0))) (
    vI (1 + (4 * v4)) fun x1 =>
    xck (xin x1 330) <|
    vI (aI μ 12 0 21 (Int32.toNatClampNeg x1)) fun x2 =>
    xck (xin (x1 + 1) 330) <|
    vI (aI μ 12 0 21 (Int32.toNatClampNeg (x1 + 1))) fun x3 =>
    xite (x2 = 0) (
      vI 1 fun x4 =>
      xite (x4 = 0) (
        xite (v2 < 0) (
          h12_judged_170 n v1 v3 v4 x1 x2 x3 x4 v4 μ) (
          h12_judged_170 n v1 v3 v4 x1 x2 x3 x4 v2 μ)) (
        h12_judged_170 n v1 v3 v4 x1 x2 x3 x4 v2 μ)) (
      xite (x2 = 1) (
        xck (xin (x1 + 2) 330) <|
        xck (xin (x1 + 3) 330) <|
        bI (f12_mayCast 987 x3 (aI μ 12 0 21 (Int32.toNatClampNeg (x1 + 2))) (aI μ 12 0 21 (Int32.toNatClampNeg (x1 + 3))) μ) fun r6 m5 =>
        xite (r6 = 0) (
          vI 0 fun x7 =>
          xite (x7 = 0) (
            xite (v2 < 0) (
              h12_judged_170 n v1 v3 v4 x1 x2 x3 x7 v4 m5) (
              h12_judged_170 n v1 v3 v4 x1 x2 x3 x7 v2 m5)) (
            h12_judged_170 n v1 v3 v4 x1 x2 x3 x7 v2 m5)) (
          vI 1 fun x8 =>
          xite (x8 = 0) (
            xite (v2 < 0) (
              h12_judged_170 n v1 v3 v4 x1 x2 x3 x8 v4 m5) (
              h12_judged_170 n v1 v3 v4 x1 x2 x3 x8 v2 m5)) (
            h12_judged_170 n v1 v3 v4 x1 x2 x3 x8 v2 m5))) (
        xite (x2 = 2) (
          xck (xin 988 1081) <|
          xite ((aI μ 12 0 24 (Int32.toNatClampNeg 988)) < 9) (
            vI 1 fun x9 =>
            xite (x9 = 0) (
              xite (v2 < 0) (
                h12_judged_170 n v1 v3 v4 x1 x2 x3 x9 v4 μ) (
                h12_judged_170 n v1 v3 v4 x1 x2 x3 x9 v2 μ)) (
              h12_judged_170 n v1 v3 v4 x1 x2 x3 x9 v2 μ)) (
            vI 0 fun x10 =>
            xite (x10 = 0) (
              xite (v2 < 0) (
                h12_judged_170 n v1 v3 v4 x1 x2 x3 x10 v4 μ) (
                h12_judged_170 n v1 v3 v4 x1 x2 x3 x10 v2 μ)) (
              h12_judged_170 n v1 v3 v4 x1 x2 x3 x10 v2 μ))) (
          bI (f12_mayStop 987 x3 μ) fun r12 m11 =>
          xite (r12 = 0) (
            vI 0 fun x13 =>
            xite (x13 = 0) (
              xite (v2 < 0) (
                h12_judged_170 n v1 v3 v4 x1 x2 x3 x13 v4 m11) (
                h12_judged_170 n v1 v3 v4 x1 x2 x3 x13 v2 m11)) (
              h12_judged_170 n v1 v3 v4 x1 x2 x3 x13 v2 m11)) (
            vI 1 fun x14 =>
            xite (x14 = 0) (
              xite (v2 < 0) (
                h12_judged_170 n v1 v3 v4 x1 x2 x3 x14 v4 m11) (
                h12_judged_170 n v1 v3 v4 x1 x2 x3 x14 v2 m11)) (
              h12_judged_170 n v1 v3 v4 x1 x2 x3 x14 v2 m11)))))) (
    xite (v1 = 0) (
      xri v2 μ) (
      xite (v1 = 1) (
        xri v3 μ) (
        bI (f12_who 987 1 μ) fun r16 m15 =>
        bI (f12_bits r16 m15) fun r18 m17 =>
        xri r18 m17)))) := rfl
theorem h12_judged_31_0 (v1 : Int32) (v2 : Int32) (v3 : Int32) (v4 : Int32) (μ : XM) : h12_judged_31 0 v1 v2 v3 v4 μ = none := rfl
set_option maxRecDepth 100000 in
theorem h12_judged_170_s (n : Nat) (v1 : Int32) (v3 : Int32) (v4 : Int32) (v5 : Int32) (v6 : Int32) (v7 : Int32) (v8 : Int32) (s0 : Int32) (μ : XM) : h12_judged_170 (n + 1) v1 v3 v4 v5 v6 v7 v8 s0 μ = (
  vI s0 fun x1 =>
  xite (v6 = 0) (
    bI (f12_passes 987 μ) fun r3 m2 =>
    xite (r3 = 0) (
      vI v3 fun x4 =>
      vI (v4 + 1) fun x5 =>
      h12_judged_31 n v1 x1 x4 x5 m2) (
      xite (v3 < 0) (
        vI v4 fun x6 =>
        vI (v4 + 1) fun x7 =>
        h12_judged_31 n v1 x1 x6 x7 m2) (
        vI v3 fun x8 =>
        vI (v4 + 1) fun x9 =>
        h12_judged_31 n v1 x1 x8 x9 m2))) (
    xite (v8 = 0) (
      h12_judged_241 n v1 x1 v3 v4 v6 v7 v8 μ) (
      xite (v6 = 1) (
        xck (xin (v5 + 2) 330) <|
        xck (xin (v5 + 3) 330) <|
        bV (f12_casts 987 v7 (aI μ 12 0 21 (Int32.toNatClampNeg (v5 + 2))) (aI μ 12 0 21 (Int32.toNatClampNeg (v5 + 3))) μ) fun m10 =>
        vI (v4 + 1) fun x11 =>
        h12_judged_31 n v1 x1 v3 x11 m10) (
        h12_judged_241 n v1 x1 v3 v4 v6 v7 v8 μ)))) := rfl
theorem h12_judged_170_0 (v1 : Int32) (v3 : Int32) (v4 : Int32) (v5 : Int32) (v6 : Int32) (v7 : Int32) (v8 : Int32) (s0 : Int32) (μ : XM) : h12_judged_170 0 v1 v3 v4 v5 v6 v7 v8 s0 μ = none := rfl
set_option maxRecDepth 100000 in
theorem h12_judged_241_s (n : Nat) (v1 : Int32) (v2 : Int32) (v3 : Int32) (v4 : Int32) (v6 : Int32) (v7 : Int32) (v8 : Int32) (μ : XM) : h12_judged_241 (n + 1) v1 v2 v3 v4 v6 v7 v8 μ = (
  xite (v8 = 0) (
    xite (v8 = 0) (
      vI (v4 + 1) fun x1 =>
      h12_judged_31 n v1 v2 v3 x1 μ) (
      bV (f12_stops 987 v7 μ) fun m2 =>
      vI (v4 + 1) fun x3 =>
      h12_judged_31 n v1 v2 v3 x3 m2)) (
    xite (v6 = 2) (
      xck (xin 988 1081) <|
      xck (xin 988 1081 && true) <|
      mS (pI μ 12 0 24 (Int32.toNatClampNeg 988) ((aI μ 12 0 24 (Int32.toNatClampNeg 988)) + 1)) fun m4 =>
      vI (v4 + 1) fun x5 =>
      h12_judged_31 n v1 v2 v3 x5 m4) (
      xite (v8 = 0) (
        vI (v4 + 1) fun x6 =>
        h12_judged_31 n v1 v2 v3 x6 μ) (
        bV (f12_stops 987 v7 μ) fun m7 =>
        vI (v4 + 1) fun x8 =>
        h12_judged_31 n v1 v2 v3 x8 m7)))) := rfl
theorem h12_judged_241_0 (v1 : Int32) (v2 : Int32) (v3 : Int32) (v4 : Int32) (v6 : Int32) (v7 : Int32) (v8 : Int32) (μ : XM) : h12_judged_241 0 v1 v2 v3 v4 v6 v7 v8 μ = none := rfl
noncomputable def k12_judged (n : Nat) (p1 : Int32) (μ : XM) : XR :=
  mS (sI μ 12 0 0 0) fun m1 =>
  bI (f12_within p1 0 2 m1) fun r3 m2 =>
  xite (r3 = 0) (
    xri (-2) m2) (
    bV (f12_starts 987 m2) fun m4 =>
    vI (-1) fun x5 =>
    vI (-1) fun x6 =>
    vI 0 fun x7 =>
    h12_judged_31 n p1 x5 x6 x7 m4)
set_option maxRecDepth 100000 in
theorem q12_judged (n : Nat) (p1 : Int32) (μ : XM) : xrun t12_judged e12_judged (xrtk (some .int)) 173 n (xlo [xr 12 0 0, xi p1] 9) μ = k12_judged n p1 μ := rfl
theorem x12_judged : ∃ f : Int32 → XM → XR, ∀ (p1 : Int32) (μ : XM), f p1 μ = k12_judged 20000 p1 μ := ⟨fun p1 μ => k12_judged 20000 p1 μ, fun p1 μ => rfl⟩
noncomputable def f12_judged : Int32 → XM → XR := Classical.choose x12_judged
theorem f12_judged_e (p1 : Int32) (μ : XM) : f12_judged p1 μ = k12_judged 20000 p1 μ := Classical.choose_spec x12_judged p1 μ
noncomputable def F12_judged : XF := fun av μ => match av with
  | [.inr (.inr (some (t0, i0, 0))), .inl p1] => bif Nat.beq t0 12 && Nat.beq i0 0 then f12_judged p1 μ else none
  | _ => none
set_option maxRecDepth 100000 in
theorem c12_judged {X : XP} (hX : XOK X) (l : Launch) : Ctr X l y12_judged prog_14_method_81_code 9 (some .int) (xrm 7) 0 0 F12_judged :=
  Ctr_of (tab := t12_judged) (env := e12_judged) (K := 173) (N := 20000) (fl := fl12) (cl := cl12) (ll := ll12) (jl := jl12) hX mf12_judged.2.2.2 ⟨by decide +kernel, flk12, clk12, llk12, jlk12⟩
   (List.forall_mem_cons.mpr ⟨xcal_s (c12_within hX l) mf12_within ⟨rfl, rfl⟩ ml12_215 ms12_within (xrm_ok (by omega) (by decide)) (by decide +kernel), List.forall_mem_cons.mpr ⟨xcal_v (na := 1) (c12_starts hX l) mf12_starts ⟨rfl, rfl⟩ ml12_289 mi12_starts me12_starts (xrm_ok (by omega) (by decide)) rfl (by decide) (by decide +kernel), List.forall_mem_cons.mpr ⟨xcal_v (na := 4) (c12_mayCast hX l) mf12_mayCast ⟨rfl, rfl⟩ ml12_362 mi12_mayCast me12_mayCast (xrm_ok (by omega) (by decide)) rfl (by decide) (by decide +kernel), List.forall_mem_cons.mpr ⟨xcal_v (na := 2) (c12_mayStop hX l) mf12_mayStop ⟨rfl, rfl⟩ ml12_373 mi12_mayStop me12_mayStop (xrm_ok (by omega) (by decide)) rfl (by decide) (by decide +kernel), List.forall_mem_cons.mpr ⟨xcal_v (na := 1) (c12_passes hX l) mf12_passes ⟨rfl, rfl⟩ ml12_379 mi12_passes me12_passes (xrm_ok (by omega) (by decide)) rfl (by decide) (by decide +kernel), List.forall_mem_cons.mpr ⟨xcal_v (na := 4) (c12_casts hX l) mf12_casts ⟨rfl, rfl⟩ ml12_369 mi12_casts me12_casts (xrm_ok (by omega) (by decide)) rfl (by decide) (by decide +kernel), List.forall_mem_cons.mpr ⟨xcal_v (na := 2) (c12_stops hX l) mf12_stops ⟨rfl, rfl⟩ ml12_376 mi12_stops me12_stops (xrm_ok (by omega) (by decide)) rfl (by decide) (by decide +kernel), List.forall_mem_cons.mpr ⟨xcal_v (na := 2) (c12_who hX l) mf12_who ⟨rfl, rfl⟩ ml12_338 mi12_who me12_who (xrm_ok (by omega) (by decide)) rfl (by decide) (by decide +kernel), List.forall_mem_cons.mpr ⟨xcal_s (c12_bits hX l) mf12_bits ⟨rfl, rfl⟩ ml12_347 ms12_bits (xrm_ok (by omega) (by decide)) (by decide +kernel), fun _ h => absurd h List.not_mem_nil⟩⟩⟩⟩⟩⟩⟩⟩⟩)
   (xrm_1 (by decide)) ⟨_, _, rfl, rfl⟩ (fun av μ r μ' h => by
    unfold F12_judged at h
    split at h
    · replace h := cond_inv h; obtain ⟨hb, h⟩ := h
      simp only [Bool.and_eq_true] at hb
      obtain ⟨g0, g1⟩ := hb
      obtain rfl := Nat.eq_of_beq_eq_true g0
      obtain rfl := Nat.eq_of_beq_eq_true g1
      exact ⟨Nat.le_of_ble_eq_true rfl, (q12_judged _ _ _).trans ((f12_judged_e _ _).symm.trans h)⟩
    · cases h)
def t12_triesNow : List XE := [(0, .aload_n 0, 0, 0, 0, 0, []),
  (1, .iconst 0, 0, 0, 0, 0, []),
  (2, .sipush 987, 0, 0, 987, 0, []),
  (5, .bipush 30, 0, 0, 30, 0, []),
  (7, .invokevirtual 295, 4, 12, 0, 0, []),
  (10, .return_, 0, 0, 0, 0, [])]
noncomputable def e12_triesNow : XN := [(295, 0, 4, 12, F12_copies)]
noncomputable def k12_triesNow (μ : XM) : XR :=
  bV (f12_copies 0 987 30 μ) fun m1 =>
  xrv m1
set_option maxRecDepth 100000 in
theorem q12_triesNow (n : Nat) (μ : XM) : xrun t12_triesNow e12_triesNow (xrtk none) 11 n (xlo [xr 12 0 0] 1) μ = k12_triesNow  μ := rfl
theorem x12_triesNow : ∃ f : XM → XR, ∀ (μ : XM), f μ = k12_triesNow  μ := ⟨fun μ => k12_triesNow  μ, fun μ => rfl⟩
noncomputable def f12_triesNow : XM → XR := Classical.choose x12_triesNow
theorem f12_triesNow_e (μ : XM) : f12_triesNow μ = k12_triesNow  μ := Classical.choose_spec x12_triesNow μ
noncomputable def F12_triesNow : XF := fun av μ => match av with
  | [.inr (.inr (some (t0, i0, 0)))] => bif Nat.beq t0 12 && Nat.beq i0 0 then f12_triesNow  μ else none
  | _ => none
set_option maxRecDepth 100000 in
theorem c12_triesNow {X : XP} (hX : XOK X) (l : Launch) : Ctr X l y12_triesNow prog_14_method_82_code 1 none (xrm 2) 0 0 F12_triesNow :=
  Ctr_of (tab := t12_triesNow) (env := e12_triesNow) (K := 11) (N := 20000) (fl := fl12) (cl := cl12) (ll := ll12) (jl := jl12) hX mf12_triesNow.2.2.2 ⟨by decide +kernel, flk12, clk12, llk12, jlk12⟩
   (List.forall_mem_cons.mpr ⟨xcal_v (na := 3) (c12_copies hX l) mf12_copies ⟨rfl, rfl⟩ ml12_295 mi12_copies me12_copies (xrm_ok (by omega) (by decide)) rfl (by decide) (by decide +kernel), fun _ h => absurd h List.not_mem_nil⟩)
   (xrm_1 (by decide)) ⟨_, _, rfl, rfl⟩ (fun av μ r μ' h => by
    unfold F12_triesNow at h
    split at h
    · replace h := cond_inv h; obtain ⟨hb, h⟩ := h
      simp only [Bool.and_eq_true] at hb
      obtain ⟨g0, g1⟩ := hb
      obtain rfl := Nat.eq_of_beq_eq_true g0
      obtain rfl := Nat.eq_of_beq_eq_true g1
      exact ⟨Nat.le_of_ble_eq_true rfl, (q12_triesNow _  _).trans ((f12_triesNow_e  _).symm.trans h)⟩
    · cases h)
def t12_underNow : List XE := [(0, .iconst 0, 0, 0, 0, 0, []),
  (1, .istore_n 1, 1, 0, 0, 0, []),
  (2, .iconst 0, 0, 0, 0, 0, []),
  (3, .istore_n 2, 2, 0, 0, 0, []),
  (4, .nop, 7, 0, 0, 0, []),
  (4, .iload_n 2, 2, 0, 0, 0, []),
  (5, .aload_n 0, 0, 0, 0, 0, []),
  (6, .invokevirtual 282, 1, 12, 0, 0, []),
  (9, .if_icmp .ge 28, 37, 0, 0, 0, []),
  (12, .iload_n 1, 1, 0, 0, 0, []),
  (13, .aload_n 0, 0, 0, 0, 0, []),
  (14, .iconst 0, 0, 0, 0, 0, []),
  (15, .iload_n 2, 2, 0, 0, 0, []),
  (16, .invokevirtual 335, 3, 12, 0, 0, []),
  (19, .ifCond .eq 9, 28, 0, 0, 0, []),
  (22, .iconst 1, 0, 0, 1, 0, []),
  (23, .iload_n 2, 2, 0, 0, 0, []),
  (24, .ishl, 0, 0, 0, 0, []),
  (25, .goto 4, 29, 0, 0, 0, []),
  (28, .iconst 0, 0, 0, 0, 0, []),
  (29, .ior, 0, 0, 0, 0, []),
  (30, .istore_n 1, 1, 0, 0, 0, []),
  (31, .iinc 2 1, 2, 0, 1, 0, []),
  (34, .goto (-30), 4, 0, 0, 0, []),
  (37, .iload_n 1, 1, 0, 0, 0, []),
  (38, .ireturn, 0, 0, 0, 0, [])]
noncomputable def e12_underNow : XN := [(282, 1, 1, 12, F12_guests), (335, 1, 3, 12, F12_isUnder)]
noncomputable def h12_underNow_4 (n : Nat) (v1 : Int32) (v2 : Int32) (μ : XM) : XR := arr t12_underNow e12_underNow 1 31 n 4 [some (xr 12 0 0), some (xi v1), some (xi v2)] [] μ
set_option maxRecDepth 100000 in
theorem h12_underNow_4_s (n : Nat) (v1 : Int32) (v2 : Int32) (μ : XM) : h12_underNow_4 (n + 1) v1 v2 μ = (
  bI (f12_guests μ) fun r2 m1 =>
  xite (v2 < r2) (
    bI (f12_isUnder 0 v2 m1) fun r4 m3 =>
    xite (r4 = 0) (
      vI (v1 ||| 0) fun x5 =>
      vI (v2 + 1) fun x6 =>
      h12_underNow_4 n x5 x6 m3) (
      vI (v1 ||| (1 <<< (v2 &&& 31))) fun x7 =>
      vI (v2 + 1) fun x8 =>
      h12_underNow_4 n x7 x8 m3)) (
    xri v1 m1)) := rfl
theorem h12_underNow_4_0 (v1 : Int32) (v2 : Int32) (μ : XM) : h12_underNow_4 0 v1 v2 μ = none := rfl
noncomputable def k12_underNow (n : Nat) (μ : XM) : XR :=
  vI 0 fun x1 =>
  vI 0 fun x2 =>
  h12_underNow_4 n x1 x2 μ
set_option maxRecDepth 100000 in
theorem q12_underNow (n : Nat) (μ : XM) : xrun t12_underNow e12_underNow (xrtk (some .int)) 31 n (xlo [xr 12 0 0] 3) μ = k12_underNow n  μ := rfl
theorem x12_underNow : ∃ f : XM → XR, ∀ (μ : XM), f μ = k12_underNow 20000  μ := ⟨fun μ => k12_underNow 20000  μ, fun μ => rfl⟩
noncomputable def f12_underNow : XM → XR := Classical.choose x12_underNow
theorem f12_underNow_e (μ : XM) : f12_underNow μ = k12_underNow 20000  μ := Classical.choose_spec x12_underNow μ
noncomputable def F12_underNow : XF := fun av μ => match av with
  | [.inr (.inr (some (t0, i0, 0)))] => bif Nat.beq t0 12 && Nat.beq i0 0 then f12_underNow  μ else none
  | _ => none
set_option maxRecDepth 100000 in
theorem c12_underNow {X : XP} (hX : XOK X) (l : Launch) : Ctr X l y12_underNow prog_14_method_83_code 3 (some .int) (xrm 5) 0 0 F12_underNow :=
  Ctr_of (tab := t12_underNow) (env := e12_underNow) (K := 31) (N := 20000) (fl := fl12) (cl := cl12) (ll := ll12) (jl := jl12) hX mf12_underNow.2.2.2 ⟨by decide +kernel, flk12, clk12, llk12, jlk12⟩
   (List.forall_mem_cons.mpr ⟨xcal_v (na := 0) (c12_guests hX l) mf12_guests ⟨rfl, rfl⟩ ml12_282 mi12_guests me12_guests (xrm_ok (by omega) (by decide)) rfl (by decide) (by decide +kernel), List.forall_mem_cons.mpr ⟨xcal_v (na := 2) (c12_isUnder hX l) mf12_isUnder ⟨rfl, rfl⟩ ml12_335 mi12_isUnder me12_isUnder (xrm_ok (by omega) (by decide)) rfl (by decide) (by decide +kernel), fun _ h => absurd h List.not_mem_nil⟩⟩)
   (xrm_1 (by decide)) ⟨_, _, rfl, rfl⟩ (fun av μ r μ' h => by
    unfold F12_underNow at h
    split at h
    · replace h := cond_inv h; obtain ⟨hb, h⟩ := h
      simp only [Bool.and_eq_true] at hb
      obtain ⟨g0, g1⟩ := hb
      obtain rfl := Nat.eq_of_beq_eq_true g0
      obtain rfl := Nat.eq_of_beq_eq_true g1
      exact ⟨Nat.le_of_ble_eq_true rfl, (q12_underNow _  _).trans ((f12_underNow_e  _).symm.trans h)⟩
    · cases h)
def t12_under : List XE := [(0, .aload_n 0, 0, 0, 0, 0, []),
  (1, .iconst 0, 0, 0, 0, 0, []),
  (2, .putfield 1, 12, 0, 0, 0, []),
  (5, .aload_n 0, 0, 0, 0, 0, []),
  (6, .invokevirtual 382, 1, 12, 0, 0, []),
  (9, .ireturn, 0, 0, 0, 0, [])]
noncomputable def e12_under : XN := [(382, 1, 1, 12, F12_underNow)]
noncomputable def k12_under (μ : XM) : XR :=
  mS (sI μ 12 0 0 0) fun m1 =>
  bI (f12_underNow m1) fun r3 m2 =>
  xri r3 m2
set_option maxRecDepth 100000 in
theorem q12_under (n : Nat) (μ : XM) : xrun t12_under e12_under (xrtk (some .int)) 11 n (xlo [xr 12 0 0] 1) μ = k12_under  μ := rfl
theorem x12_under : ∃ f : XM → XR, ∀ (μ : XM), f μ = k12_under  μ := ⟨fun μ => k12_under  μ, fun μ => rfl⟩
noncomputable def f12_under : XM → XR := Classical.choose x12_under
theorem f12_under_e (μ : XM) : f12_under μ = k12_under  μ := Classical.choose_spec x12_under μ
noncomputable def F12_under : XF := fun av μ => match av with
  | [.inr (.inr (some (t0, i0, 0)))] => bif Nat.beq t0 12 && Nat.beq i0 0 then f12_under  μ else none
  | _ => none
set_option maxRecDepth 100000 in
theorem c12_under {X : XP} (hX : XOK X) (l : Launch) : Ctr X l y12_under prog_14_method_84_code 1 (some .int) (xrm 6) 0 0 F12_under :=
  Ctr_of (tab := t12_under) (env := e12_under) (K := 11) (N := 20000) (fl := fl12) (cl := cl12) (ll := ll12) (jl := jl12) hX mf12_under.2.2.2 ⟨by decide +kernel, flk12, clk12, llk12, jlk12⟩
   (List.forall_mem_cons.mpr ⟨xcal_v (na := 0) (c12_underNow hX l) mf12_underNow ⟨rfl, rfl⟩ ml12_382 mi12_underNow me12_underNow (xrm_ok (by omega) (by decide)) rfl (by decide) (by decide +kernel), fun _ h => absurd h List.not_mem_nil⟩)
   (xrm_1 (by decide)) ⟨_, _, rfl, rfl⟩ (fun av μ r μ' h => by
    unfold F12_under at h
    split at h
    · replace h := cond_inv h; obtain ⟨hb, h⟩ := h
      simp only [Bool.and_eq_true] at hb
      obtain ⟨g0, g1⟩ := hb
      obtain rfl := Nat.eq_of_beq_eq_true g0
      obtain rfl := Nat.eq_of_beq_eq_true g1
      exact ⟨Nat.le_of_ble_eq_true rfl, (q12_under _  _).trans ((f12_under_e  _).symm.trans h)⟩
    · cases h)
def t12_cries : List XE := [(0, .aload_n 0, 0, 0, 0, 0, []),
  (1, .iconst 0, 0, 0, 0, 0, []),
  (2, .putfield 1, 12, 0, 0, 0, []),
  (5, .aload_n 0, 0, 0, 0, 0, []),
  (6, .iconst 0, 0, 0, 0, 0, []),
  (7, .invokevirtual 385, 2, 12, 0, 0, []),
  (10, .ireturn, 0, 0, 0, 0, [])]
noncomputable def e12_cries : XN := [(385, 1, 2, 12, F12_criers)]
noncomputable def k12_cries (μ : XM) : XR :=
  mS (sI μ 12 0 0 0) fun m1 =>
  bI (f12_criers 0 m1) fun r3 m2 =>
  xri r3 m2
set_option maxRecDepth 100000 in
theorem q12_cries (n : Nat) (μ : XM) : xrun t12_cries e12_cries (xrtk (some .int)) 12 n (xlo [xr 12 0 0] 1) μ = k12_cries  μ := rfl
theorem x12_cries : ∃ f : XM → XR, ∀ (μ : XM), f μ = k12_cries  μ := ⟨fun μ => k12_cries  μ, fun μ => rfl⟩
noncomputable def f12_cries : XM → XR := Classical.choose x12_cries
theorem f12_cries_e (μ : XM) : f12_cries μ = k12_cries  μ := Classical.choose_spec x12_cries μ
noncomputable def F12_cries : XF := fun av μ => match av with
  | [.inr (.inr (some (t0, i0, 0)))] => bif Nat.beq t0 12 && Nat.beq i0 0 then f12_cries  μ else none
  | _ => none
set_option maxRecDepth 100000 in
theorem c12_cries {X : XP} (hX : XOK X) (l : Launch) : Ctr X l y12_cries prog_14_method_85_code 1 (some .int) (xrm 4) 0 0 F12_cries :=
  Ctr_of (tab := t12_cries) (env := e12_cries) (K := 12) (N := 20000) (fl := fl12) (cl := cl12) (ll := ll12) (jl := jl12) hX mf12_cries.2.2.2 ⟨by decide +kernel, flk12, clk12, llk12, jlk12⟩
   (List.forall_mem_cons.mpr ⟨xcal_v (na := 1) (c12_criers hX l) mf12_criers ⟨rfl, rfl⟩ ml12_385 mi12_criers me12_criers (xrm_ok (by omega) (by decide)) rfl (by decide) (by decide +kernel), fun _ h => absurd h List.not_mem_nil⟩)
   (xrm_1 (by decide)) ⟨_, _, rfl, rfl⟩ (fun av μ r μ' h => by
    unfold F12_cries at h
    split at h
    · replace h := cond_inv h; obtain ⟨hb, h⟩ := h
      simp only [Bool.and_eq_true] at hb
      obtain ⟨g0, g1⟩ := hb
      obtain rfl := Nat.eq_of_beq_eq_true g0
      obtain rfl := Nat.eq_of_beq_eq_true g1
      exact ⟨Nat.le_of_ble_eq_true rfl, (q12_cries _  _).trans ((f12_cries_e  _).symm.trans h)⟩
    · cases h)
def t12_later : List XE := [(0, .aload_n 0, 0, 0, 0, 0, []),
  (1, .iconst 0, 0, 0, 0, 0, []),
  (2, .putfield 1, 12, 0, 0, 0, []),
  (5, .iload_n 1, 1, 0, 0, 0, []),
  (6, .iconst 0, 0, 0, 0, 0, []),
  (7, .bipush 60, 0, 0, 60, 0, []),
  (9, .invokestatic 215, 3, 0, 0, 0, []),
  (12, .ifCond .ne 5, 17, 0, 0, 0, []),
  (15, .iconst (-1), 0, 0, (-1), 0, []),
  (16, .ireturn, 0, 0, 0, 0, []),
  (17, .aload_n 0, 0, 0, 0, 0, []),
  (18, .invokevirtual 388, 1, 12, 0, 0, []),
  (21, .iconst 0, 0, 0, 0, 0, []),
  (22, .istore_n 2, 2, 0, 0, 0, []),
  (23, .nop, 7, 0, 0, 0, []),
  (23, .iload_n 2, 2, 0, 0, 0, []),
  (24, .iload_n 1, 1, 0, 0, 0, []),
  (25, .if_icmp .ge 17, 42, 0, 0, 0, []),
  (28, .aload_n 0, 0, 0, 0, 0, []),
  (29, .sipush 987, 0, 0, 987, 0, []),
  (32, .invokevirtual 379, 2, 12, 0, 0, []),
  (35, .pop, 0, 0, 0, 0, []),
  (36, .iinc 2 1, 2, 0, 1, 0, []),
  (39, .goto (-16), 23, 0, 0, 0, []),
  (42, .aload_n 0, 0, 0, 0, 0, []),
  (43, .getfield 121, 12, 24, 0, 0, []),
  (46, .sipush 989, 0, 0, 989, 0, []),
  (49, .iaload, 0, 0, 0, 0, []),
  (50, .ireturn, 0, 0, 0, 0, [])]
noncomputable def e12_later : XN := [(215, 1, 3, 99, F12_within), (388, 0, 1, 12, F12_triesNow), (379, 1, 2, 12, F12_passes)]
noncomputable def h12_later_23 (n : Nat) (v1 : Int32) (v2 : Int32) (μ : XM) : XR := arr t12_later e12_later 1 34 n 23 [some (xr 12 0 0), some (xi v1), some (xi v2)] [] μ
set_option maxRecDepth 100000 in
theorem h12_later_23_s (n : Nat) (v1 : Int32) (v2 : Int32) (μ : XM) : h12_later_23 (n + 1) v1 v2 μ = (
  xite (v2 < v1) (
    bI (f12_passes 987 μ) fun r2 m1 =>
    vI (v2 + 1) fun x3 =>
    h12_later_23 n v1 x3 m1) (
    xck (xin 989 1081) <|
    xri (aI μ 12 0 24 (Int32.toNatClampNeg 989)) μ)) := rfl
theorem h12_later_23_0 (v1 : Int32) (v2 : Int32) (μ : XM) : h12_later_23 0 v1 v2 μ = none := rfl
noncomputable def k12_later (n : Nat) (p1 : Int32) (μ : XM) : XR :=
  mS (sI μ 12 0 0 0) fun m1 =>
  bI (f12_within p1 0 60 m1) fun r3 m2 =>
  xite (r3 = 0) (
    xri (-1) m2) (
    bV (f12_triesNow m2) fun m4 =>
    vI 0 fun x5 =>
    h12_later_23 n p1 x5 m4)
set_option maxRecDepth 100000 in
theorem q12_later (n : Nat) (p1 : Int32) (μ : XM) : xrun t12_later e12_later (xrtk (some .int)) 34 n (xlo [xr 12 0 0, xi p1] 3) μ = k12_later n p1 μ := rfl
theorem x12_later : ∃ f : Int32 → XM → XR, ∀ (p1 : Int32) (μ : XM), f p1 μ = k12_later 20000 p1 μ := ⟨fun p1 μ => k12_later 20000 p1 μ, fun p1 μ => rfl⟩
noncomputable def f12_later : Int32 → XM → XR := Classical.choose x12_later
theorem f12_later_e (p1 : Int32) (μ : XM) : f12_later p1 μ = k12_later 20000 p1 μ := Classical.choose_spec x12_later p1 μ
noncomputable def F12_later : XF := fun av μ => match av with
  | [.inr (.inr (some (t0, i0, 0))), .inl p1] => bif Nat.beq t0 12 && Nat.beq i0 0 then f12_later p1 μ else none
  | _ => none
set_option maxRecDepth 100000 in
theorem c12_later {X : XP} (hX : XOK X) (l : Launch) : Ctr X l y12_later prog_14_method_86_code 3 (some .int) (xrm 7) 0 0 F12_later :=
  Ctr_of (tab := t12_later) (env := e12_later) (K := 34) (N := 20000) (fl := fl12) (cl := cl12) (ll := ll12) (jl := jl12) hX mf12_later.2.2.2 ⟨by decide +kernel, flk12, clk12, llk12, jlk12⟩
   (List.forall_mem_cons.mpr ⟨xcal_s (c12_within hX l) mf12_within ⟨rfl, rfl⟩ ml12_215 ms12_within (xrm_ok (by omega) (by decide)) (by decide +kernel), List.forall_mem_cons.mpr ⟨xcal_v (na := 0) (c12_triesNow hX l) mf12_triesNow ⟨rfl, rfl⟩ ml12_388 mi12_triesNow me12_triesNow (xrm_ok (by omega) (by decide)) rfl (by decide) (by decide +kernel), List.forall_mem_cons.mpr ⟨xcal_v (na := 1) (c12_passes hX l) mf12_passes ⟨rfl, rfl⟩ ml12_379 mi12_passes me12_passes (xrm_ok (by omega) (by decide)) rfl (by decide) (by decide +kernel), fun _ h => absurd h List.not_mem_nil⟩⟩⟩)
   (xrm_1 (by decide)) ⟨_, _, rfl, rfl⟩ (fun av μ r μ' h => by
    unfold F12_later at h
    split at h
    · replace h := cond_inv h; obtain ⟨hb, h⟩ := h
      simp only [Bool.and_eq_true] at hb
      obtain ⟨g0, g1⟩ := hb
      obtain rfl := Nat.eq_of_beq_eq_true g0
      obtain rfl := Nat.eq_of_beq_eq_true g1
      exact ⟨Nat.le_of_ble_eq_true rfl, (q12_later _ _ _).trans ((f12_later_e _ _).symm.trans h)⟩
    · cases h)
def t12_over : List XE := [(0, .aload_n 0, 0, 0, 0, 0, []),
  (1, .iconst 0, 0, 0, 0, 0, []),
  (2, .putfield 1, 12, 0, 0, 0, []),
  (5, .aload_n 0, 0, 0, 0, 0, []),
  (6, .invokevirtual 388, 1, 12, 0, 0, []),
  (9, .iconst 0, 0, 0, 0, 0, []),
  (10, .istore_n 2, 2, 0, 0, 0, []),
  (11, .nop, 7, 0, 0, 0, []),
  (11, .iload_n 2, 2, 0, 0, 0, []),
  (12, .bipush 60, 0, 0, 60, 0, []),
  (14, .if_icmp .gt 41, 55, 0, 0, 0, []),
  (17, .iload_n 1, 1, 0, 0, 0, []),
  (18, .iconst 0, 0, 0, 0, 0, []),
  (19, .bipush 60, 0, 0, 60, 0, []),
  (21, .invokestatic 215, 3, 0, 0, 0, []),
  (24, .ifCond .eq 31, 55, 0, 0, 0, []),
  (27, .aload_n 0, 0, 0, 0, 0, []),
  (28, .getfield 121, 12, 24, 0, 0, []),
  (31, .sipush 989, 0, 0, 989, 0, []),
  (34, .iaload, 0, 0, 0, 0, []),
  (35, .iload_n 1, 1, 0, 0, 0, []),
  (36, .if_icmp .lt 5, 41, 0, 0, 0, []),
  (39, .iload_n 2, 2, 0, 0, 0, []),
  (40, .ireturn, 0, 0, 0, 0, []),
  (41, .aload_n 0, 0, 0, 0, 0, []),
  (42, .sipush 987, 0, 0, 987, 0, []),
  (45, .invokevirtual 379, 2, 12, 0, 0, []),
  (48, .pop, 0, 0, 0, 0, []),
  (49, .iinc 2 1, 2, 0, 1, 0, []),
  (52, .goto (-41), 11, 0, 0, 0, []),
  (55, .iconst (-1), 0, 0, (-1), 0, []),
  (56, .ireturn, 0, 0, 0, 0, [])]
noncomputable def e12_over : XN := [(388, 0, 1, 12, F12_triesNow), (215, 1, 3, 99, F12_within), (379, 1, 2, 12, F12_passes)]
noncomputable def h12_over_11 (n : Nat) (v1 : Int32) (v2 : Int32) (μ : XM) : XR := arr t12_over e12_over 1 37 n 11 [some (xr 12 0 0), some (xi v1), some (xi v2)] [] μ
set_option maxRecDepth 100000 in
theorem h12_over_11_s (n : Nat) (v1 : Int32) (v2 : Int32) (μ : XM) : h12_over_11 (n + 1) v1 v2 μ = (
  xite ((60 : Int32) < v2) (
    xri (-1) μ) (
    bI (f12_within v1 0 60 μ) fun r2 m1 =>
    xite (r2 = 0) (
      xri (-1) m1) (
      xck (xin 989 1081) <|
      xite ((aI m1 12 0 24 (Int32.toNatClampNeg 989)) < v1) (
        bI (f12_passes 987 m1) fun r4 m3 =>
        vI (v2 + 1) fun x5 =>
        h12_over_11 n v1 x5 m3) (
        xri v2 m1)))) := rfl
theorem h12_over_11_0 (v1 : Int32) (v2 : Int32) (μ : XM) : h12_over_11 0 v1 v2 μ = none := rfl
noncomputable def k12_over (n : Nat) (p1 : Int32) (μ : XM) : XR :=
  mS (sI μ 12 0 0 0) fun m1 =>
  bV (f12_triesNow m1) fun m2 =>
  vI 0 fun x3 =>
  h12_over_11 n p1 x3 m2
set_option maxRecDepth 100000 in
theorem q12_over (n : Nat) (p1 : Int32) (μ : XM) : xrun t12_over e12_over (xrtk (some .int)) 37 n (xlo [xr 12 0 0, xi p1] 3) μ = k12_over n p1 μ := rfl
theorem x12_over : ∃ f : Int32 → XM → XR, ∀ (p1 : Int32) (μ : XM), f p1 μ = k12_over 20000 p1 μ := ⟨fun p1 μ => k12_over 20000 p1 μ, fun p1 μ => rfl⟩
noncomputable def f12_over : Int32 → XM → XR := Classical.choose x12_over
theorem f12_over_e (p1 : Int32) (μ : XM) : f12_over p1 μ = k12_over 20000 p1 μ := Classical.choose_spec x12_over p1 μ
noncomputable def F12_over : XF := fun av μ => match av with
  | [.inr (.inr (some (t0, i0, 0))), .inl p1] => bif Nat.beq t0 12 && Nat.beq i0 0 then f12_over p1 μ else none
  | _ => none
set_option maxRecDepth 100000 in
theorem c12_over {X : XP} (hX : XOK X) (l : Launch) : Ctr X l y12_over prog_14_method_87_code 3 (some .int) (xrm 7) 0 0 F12_over :=
  Ctr_of (tab := t12_over) (env := e12_over) (K := 37) (N := 20000) (fl := fl12) (cl := cl12) (ll := ll12) (jl := jl12) hX mf12_over.2.2.2 ⟨by decide +kernel, flk12, clk12, llk12, jlk12⟩
   (List.forall_mem_cons.mpr ⟨xcal_v (na := 0) (c12_triesNow hX l) mf12_triesNow ⟨rfl, rfl⟩ ml12_388 mi12_triesNow me12_triesNow (xrm_ok (by omega) (by decide)) rfl (by decide) (by decide +kernel), List.forall_mem_cons.mpr ⟨xcal_s (c12_within hX l) mf12_within ⟨rfl, rfl⟩ ml12_215 ms12_within (xrm_ok (by omega) (by decide)) (by decide +kernel), List.forall_mem_cons.mpr ⟨xcal_v (na := 1) (c12_passes hX l) mf12_passes ⟨rfl, rfl⟩ ml12_379 mi12_passes me12_passes (xrm_ok (by omega) (by decide)) rfl (by decide) (by decide +kernel), fun _ h => absurd h List.not_mem_nil⟩⟩⟩)
   (xrm_1 (by decide)) ⟨_, _, rfl, rfl⟩ (fun av μ r μ' h => by
    unfold F12_over at h
    split at h
    · replace h := cond_inv h; obtain ⟨hb, h⟩ := h
      simp only [Bool.and_eq_true] at hb
      obtain ⟨g0, g1⟩ := hb
      obtain rfl := Nat.eq_of_beq_eq_true g0
      obtain rfl := Nat.eq_of_beq_eq_true g1
      exact ⟨Nat.le_of_ble_eq_true rfl, (q12_over _ _ _).trans ((f12_over_e _ _).symm.trans h)⟩
    · cases h)
def t12_becomes : List XE := [(0, .iconst 1, 0, 0, 1, 0, []),
  (1, .istore_n 3, 3, 0, 0, 0, []),
  (2, .nop, 15, 0, 0, 0, []),
  (2, .iload_n 3, 3, 0, 0, 0, []),
  (3, .bipush 60, 0, 0, 60, 0, []),
  (5, .if_icmp .gt 33, 38, 0, 0, 0, []),
  (8, .aload_n 0, 0, 0, 0, 0, []),
  (9, .sipush 987, 0, 0, 987, 0, []),
  (12, .invokevirtual 379, 2, 12, 0, 0, []),
  (15, .pop, 0, 0, 0, 0, []),
  (16, .aload_n 0, 0, 0, 0, 0, []),
  (17, .getfield 121, 12, 24, 0, 0, []),
  (20, .sipush 1008, 0, 0, 1008, 0, []),
  (23, .iload_n 1, 1, 0, 0, 0, []),
  (24, .iadd, 0, 0, 0, 0, []),
  (25, .iaload, 0, 0, 0, 0, []),
  (26, .iload_n 2, 2, 0, 0, 0, []),
  (27, .if_icmp .ne 5, 32, 0, 0, 0, []),
  (30, .iload_n 3, 3, 0, 0, 0, []),
  (31, .ireturn, 0, 0, 0, 0, []),
  (32, .iinc 3 1, 3, 0, 1, 0, []),
  (35, .goto (-33), 2, 0, 0, 0, []),
  (38, .iconst (-1), 0, 0, (-1), 0, []),
  (39, .ireturn, 0, 0, 0, 0, [])]
noncomputable def e12_becomes : XN := [(379, 1, 2, 12, F12_passes)]
noncomputable def h12_becomes_2 (n : Nat) (v1 : Int32) (v2 : Int32) (v3 : Int32) (μ : XM) : XR := arr t12_becomes e12_becomes 1 29 n 2 [some (xr 12 0 0), some (xi v1), some (xi v2), some (xi v3)] [] μ
set_option maxRecDepth 100000 in
theorem h12_becomes_2_s (n : Nat) (v1 : Int32) (v2 : Int32) (v3 : Int32) (μ : XM) : h12_becomes_2 (n + 1) v1 v2 v3 μ = (
  xite ((60 : Int32) < v3) (
    xri (-1) μ) (
    bI (f12_passes 987 μ) fun r2 m1 =>
    xck (xin (1008 + v1) 1081) <|
    xite ((aI m1 12 0 24 (Int32.toNatClampNeg (1008 + v1))) = v2) (
      xri v3 m1) (
      vI (v3 + 1) fun x3 =>
      h12_becomes_2 n v1 v2 x3 m1))) := rfl
theorem h12_becomes_2_0 (v1 : Int32) (v2 : Int32) (v3 : Int32) (μ : XM) : h12_becomes_2 0 v1 v2 v3 μ = none := rfl
noncomputable def k12_becomes (n : Nat) (p1 : Int32) (p2 : Int32) (μ : XM) : XR :=
  vI 1 fun x1 =>
  h12_becomes_2 n p1 p2 x1 μ
set_option maxRecDepth 100000 in
theorem q12_becomes (n : Nat) (p1 : Int32) (p2 : Int32) (μ : XM) : xrun t12_becomes e12_becomes (xrtk (some .int)) 29 n (xlo [xr 12 0 0, xi p1, xi p2] 4) μ = k12_becomes n p1 p2 μ := rfl
theorem x12_becomes : ∃ f : Int32 → Int32 → XM → XR, ∀ (p1 : Int32) (p2 : Int32) (μ : XM), f p1 p2 μ = k12_becomes 20000 p1 p2 μ := ⟨fun p1 p2 μ => k12_becomes 20000 p1 p2 μ, fun p1 p2 μ => rfl⟩
noncomputable def f12_becomes : Int32 → Int32 → XM → XR := Classical.choose x12_becomes
theorem f12_becomes_e (p1 : Int32) (p2 : Int32) (μ : XM) : f12_becomes p1 p2 μ = k12_becomes 20000 p1 p2 μ := Classical.choose_spec x12_becomes p1 p2 μ
noncomputable def F12_becomes : XF := fun av μ => match av with
  | [.inr (.inr (some (t0, i0, 0))), .inl p1, .inl p2] => bif Nat.beq t0 12 && Nat.beq i0 0 then f12_becomes p1 p2 μ else none
  | _ => none
set_option maxRecDepth 100000 in
theorem c12_becomes {X : XP} (hX : XOK X) (l : Launch) : Ctr X l y12_becomes prog_14_method_88_code 4 (some .int) (xrm 7) 0 0 F12_becomes :=
  Ctr_of (tab := t12_becomes) (env := e12_becomes) (K := 29) (N := 20000) (fl := fl12) (cl := cl12) (ll := ll12) (jl := jl12) hX mf12_becomes.2.2.2 ⟨by decide +kernel, flk12, clk12, llk12, jlk12⟩
   (List.forall_mem_cons.mpr ⟨xcal_v (na := 1) (c12_passes hX l) mf12_passes ⟨rfl, rfl⟩ ml12_379 mi12_passes me12_passes (xrm_ok (by omega) (by decide)) rfl (by decide) (by decide +kernel), fun _ h => absurd h List.not_mem_nil⟩)
   (xrm_1 (by decide)) ⟨_, _, rfl, rfl⟩ (fun av μ r μ' h => by
    unfold F12_becomes at h
    split at h
    · replace h := cond_inv h; obtain ⟨hb, h⟩ := h
      simp only [Bool.and_eq_true] at hb
      obtain ⟨g0, g1⟩ := hb
      obtain rfl := Nat.eq_of_beq_eq_true g0
      obtain rfl := Nat.eq_of_beq_eq_true g1
      exact ⟨Nat.le_of_ble_eq_true rfl, (q12_becomes _ _ _ _).trans ((f12_becomes_e _ _ _).symm.trans h)⟩
    · cases h)
def t12_sinksIn : List XE := [(0, .aload_n 0, 0, 0, 0, 0, []),
  (1, .invokevirtual 388, 1, 12, 0, 0, []),
  (4, .aload_n 0, 0, 0, 0, 0, []),
  (5, .iload_n 1, 1, 0, 0, 0, []),
  (6, .iconst 2, 0, 0, 2, 0, []),
  (7, .invokevirtual 391, 3, 12, 0, 0, []),
  (10, .ireturn, 0, 0, 0, 0, [])]
noncomputable def e12_sinksIn : XN := [(388, 0, 1, 12, F12_triesNow), (391, 1, 3, 12, F12_becomes)]
noncomputable def k12_sinksIn (p1 : Int32) (μ : XM) : XR :=
  bV (f12_triesNow μ) fun m1 =>
  bI (f12_becomes p1 2 m1) fun r3 m2 =>
  xri r3 m2
set_option maxRecDepth 100000 in
theorem q12_sinksIn (n : Nat) (p1 : Int32) (μ : XM) : xrun t12_sinksIn e12_sinksIn (xrtk (some .int)) 12 n (xlo [xr 12 0 0, xi p1] 2) μ = k12_sinksIn p1 μ := rfl
theorem x12_sinksIn : ∃ f : Int32 → XM → XR, ∀ (p1 : Int32) (μ : XM), f p1 μ = k12_sinksIn p1 μ := ⟨fun p1 μ => k12_sinksIn p1 μ, fun p1 μ => rfl⟩
noncomputable def f12_sinksIn : Int32 → XM → XR := Classical.choose x12_sinksIn
theorem f12_sinksIn_e (p1 : Int32) (μ : XM) : f12_sinksIn p1 μ = k12_sinksIn p1 μ := Classical.choose_spec x12_sinksIn p1 μ
noncomputable def F12_sinksIn : XF := fun av μ => match av with
  | [.inr (.inr (some (t0, i0, 0))), .inl p1] => bif Nat.beq t0 12 && Nat.beq i0 0 then f12_sinksIn p1 μ else none
  | _ => none
set_option maxRecDepth 100000 in
theorem c12_sinksIn {X : XP} (hX : XOK X) (l : Launch) : Ctr X l y12_sinksIn prog_14_method_89_code 2 (some .int) (xrm 8) 0 0 F12_sinksIn :=
  Ctr_of (tab := t12_sinksIn) (env := e12_sinksIn) (K := 12) (N := 20000) (fl := fl12) (cl := cl12) (ll := ll12) (jl := jl12) hX mf12_sinksIn.2.2.2 ⟨by decide +kernel, flk12, clk12, llk12, jlk12⟩
   (List.forall_mem_cons.mpr ⟨xcal_v (na := 0) (c12_triesNow hX l) mf12_triesNow ⟨rfl, rfl⟩ ml12_388 mi12_triesNow me12_triesNow (xrm_ok (by omega) (by decide)) rfl (by decide) (by decide +kernel), List.forall_mem_cons.mpr ⟨xcal_v (na := 2) (c12_becomes hX l) mf12_becomes ⟨rfl, rfl⟩ ml12_391 mi12_becomes me12_becomes (xrm_ok (by omega) (by decide)) rfl (by decide) (by decide +kernel), fun _ h => absurd h List.not_mem_nil⟩⟩)
   (xrm_1 (by decide)) ⟨_, _, rfl, rfl⟩ (fun av μ r μ' h => by
    unfold F12_sinksIn at h
    split at h
    · replace h := cond_inv h; obtain ⟨hb, h⟩ := h
      simp only [Bool.and_eq_true] at hb
      obtain ⟨g0, g1⟩ := hb
      obtain rfl := Nat.eq_of_beq_eq_true g0
      obtain rfl := Nat.eq_of_beq_eq_true g1
      exact ⟨Nat.le_of_ble_eq_true rfl, (q12_sinksIn _ _ _).trans ((f12_sinksIn_e _ _).symm.trans h)⟩
    · cases h)
def t12_sinks : List XE := [(0, .aload_n 0, 0, 0, 0, 0, []),
  (1, .iconst 0, 0, 0, 0, 0, []),
  (2, .putfield 1, 12, 0, 0, 0, []),
  (5, .aload_n 0, 0, 0, 0, 0, []),
  (6, .iload_n 1, 1, 0, 0, 0, []),
  (7, .invokevirtual 353, 2, 12, 0, 0, []),
  (10, .ifCond .eq 20, 30, 0, 0, 0, []),
  (13, .aload_n 0, 0, 0, 0, 0, []),
  (14, .iconst 0, 0, 0, 0, 0, []),
  (15, .iload_n 1, 1, 0, 0, 0, []),
  (16, .invokevirtual 310, 3, 12, 0, 0, []),
  (19, .ifCond .eq 11, 30, 0, 0, 0, []),
  (22, .aload_n 0, 0, 0, 0, 0, []),
  (23, .iload_n 1, 1, 0, 0, 0, []),
  (24, .invokevirtual 394, 2, 12, 0, 0, []),
  (27, .goto 4, 31, 0, 0, 0, []),
  (30, .iconst (-1), 0, 0, (-1), 0, []),
  (31, .ireturn, 0, 0, 0, 0, [])]
noncomputable def e12_sinks : XN := [(353, 1, 2, 12, F12_isGuest), (310, 1, 3, 12, F12_isIn), (394, 1, 2, 12, F12_sinksIn)]
noncomputable def k12_sinks (p1 : Int32) (μ : XM) : XR :=
  mS (sI μ 12 0 0 0) fun m1 =>
  bI (f12_isGuest p1 m1) fun r3 m2 =>
  xite (r3 = 0) (
    xri (-1) m2) (
    bI (f12_isIn 0 p1 m2) fun r5 m4 =>
    xite (r5 = 0) (
      xri (-1) m4) (
      bI (f12_sinksIn p1 m4) fun r7 m6 =>
      xri r7 m6))
set_option maxRecDepth 100000 in
theorem q12_sinks (n : Nat) (p1 : Int32) (μ : XM) : xrun t12_sinks e12_sinks (xrtk (some .int)) 23 n (xlo [xr 12 0 0, xi p1] 2) μ = k12_sinks p1 μ := rfl
theorem x12_sinks : ∃ f : Int32 → XM → XR, ∀ (p1 : Int32) (μ : XM), f p1 μ = k12_sinks p1 μ := ⟨fun p1 μ => k12_sinks p1 μ, fun p1 μ => rfl⟩
noncomputable def f12_sinks : Int32 → XM → XR := Classical.choose x12_sinks
theorem f12_sinks_e (p1 : Int32) (μ : XM) : f12_sinks p1 μ = k12_sinks p1 μ := Classical.choose_spec x12_sinks p1 μ
noncomputable def F12_sinks : XF := fun av μ => match av with
  | [.inr (.inr (some (t0, i0, 0))), .inl p1] => bif Nat.beq t0 12 && Nat.beq i0 0 then f12_sinks p1 μ else none
  | _ => none
set_option maxRecDepth 100000 in
theorem c12_sinks {X : XP} (hX : XOK X) (l : Launch) : Ctr X l y12_sinks prog_14_method_90_code 2 (some .int) (xrm 9) 0 0 F12_sinks :=
  Ctr_of (tab := t12_sinks) (env := e12_sinks) (K := 23) (N := 20000) (fl := fl12) (cl := cl12) (ll := ll12) (jl := jl12) hX mf12_sinks.2.2.2 ⟨by decide +kernel, flk12, clk12, llk12, jlk12⟩
   (List.forall_mem_cons.mpr ⟨xcal_v (na := 1) (c12_isGuest hX l) mf12_isGuest ⟨rfl, rfl⟩ ml12_353 mi12_isGuest me12_isGuest (xrm_ok (by omega) (by decide)) rfl (by decide) (by decide +kernel), List.forall_mem_cons.mpr ⟨xcal_v (na := 2) (c12_isIn hX l) mf12_isIn ⟨rfl, rfl⟩ ml12_310 mi12_isIn me12_isIn (xrm_ok (by omega) (by decide)) rfl (by decide) (by decide +kernel), List.forall_mem_cons.mpr ⟨xcal_v (na := 1) (c12_sinksIn hX l) mf12_sinksIn ⟨rfl, rfl⟩ ml12_394 mi12_sinksIn me12_sinksIn (xrm_ok (by omega) (by decide)) rfl (by decide) (by decide +kernel), fun _ h => absurd h List.not_mem_nil⟩⟩⟩)
   (xrm_1 (by decide)) ⟨_, _, rfl, rfl⟩ (fun av μ r μ' h => by
    unfold F12_sinks at h
    split at h
    · replace h := cond_inv h; obtain ⟨hb, h⟩ := h
      simp only [Bool.and_eq_true] at hb
      obtain ⟨g0, g1⟩ := hb
      obtain rfl := Nat.eq_of_beq_eq_true g0
      obtain rfl := Nat.eq_of_beq_eq_true g1
      exact ⟨Nat.le_of_ble_eq_true rfl, (q12_sinks _ _ _).trans ((f12_sinks_e _ _).symm.trans h)⟩
    · cases h)
def t12_first : List XE := [(0, .aload_n 0, 0, 0, 0, 0, []),
  (1, .iconst 0, 0, 0, 0, 0, []),
  (2, .putfield 1, 12, 0, 0, 0, []),
  (5, .aload_n 0, 0, 0, 0, 0, []),
  (6, .invokevirtual 388, 1, 12, 0, 0, []),
  (9, .iconst 1, 0, 0, 1, 0, []),
  (10, .istore_n 1, 1, 0, 0, 0, []),
  (11, .nop, 3, 0, 0, 0, []),
  (11, .iload_n 1, 1, 0, 0, 0, []),
  (12, .bipush 60, 0, 0, 60, 0, []),
  (14, .if_icmp .gt 44, 58, 0, 0, 0, []),
  (17, .aload_n 0, 0, 0, 0, 0, []),
  (18, .sipush 987, 0, 0, 987, 0, []),
  (21, .invokevirtual 379, 2, 12, 0, 0, []),
  (24, .istore_n 2, 2, 0, 0, 0, []),
  (25, .iconst 0, 0, 0, 0, 0, []),
  (26, .istore_n 3, 3, 0, 0, 0, []),
  (27, .nop, 15, 0, 0, 0, []),
  (27, .iload_n 3, 3, 0, 0, 0, []),
  (28, .aload_n 0, 0, 0, 0, 0, []),
  (29, .invokevirtual 282, 1, 12, 0, 0, []),
  (32, .if_icmp .ge 20, 52, 0, 0, 0, []),
  (35, .iload_n 2, 2, 0, 0, 0, []),
  (36, .iload_n 3, 3, 0, 0, 0, []),
  (37, .ishr, 0, 0, 0, 0, []),
  (38, .iconst 1, 0, 0, 1, 0, []),
  (39, .iand, 0, 0, 0, 0, []),
  (40, .iconst 1, 0, 0, 1, 0, []),
  (41, .if_icmp .ne 5, 46, 0, 0, 0, []),
  (44, .iload_n 3, 3, 0, 0, 0, []),
  (45, .ireturn, 0, 0, 0, 0, []),
  (46, .iinc 3 1, 3, 0, 1, 0, []),
  (49, .goto (-22), 27, 0, 0, 0, []),
  (52, .iinc 1 1, 1, 0, 1, 0, []),
  (55, .goto (-44), 11, 0, 0, 0, []),
  (58, .iconst (-1), 0, 0, (-1), 0, []),
  (59, .ireturn, 0, 0, 0, 0, [])]
noncomputable def e12_first : XN := [(388, 0, 1, 12, F12_triesNow), (379, 1, 2, 12, F12_passes), (282, 1, 1, 12, F12_guests)]
noncomputable def h12_first_11 (n : Nat) (v1 : Int32) (μ : XM) : XR := arr t12_first e12_first 1 42 n 11 [some (xr 12 0 0), some (xi v1), none, none] [] μ
noncomputable def h12_first_27 (n : Nat) (v1 : Int32) (v2 : Int32) (v3 : Int32) (μ : XM) : XR := arr t12_first e12_first 1 42 n 27 [some (xr 12 0 0), some (xi v1), some (xi v2), some (xi v3)] [] μ
set_option maxRecDepth 100000 in
theorem h12_first_11_s (n : Nat) (v1 : Int32) (μ : XM) : h12_first_11 (n + 1) v1 μ = (
  xite ((60 : Int32) < v1) (
    xri (-1) μ) (
    bI (f12_passes 987 μ) fun r2 m1 =>
    vI r2 fun x3 =>
    vI 0 fun x4 =>
    h12_first_27 n v1 x3 x4 m1)) := rfl
theorem h12_first_11_0 (v1 : Int32) (μ : XM) : h12_first_11 0 v1 μ = none := rfl
set_option maxRecDepth 100000 in
theorem h12_first_27_s (n : Nat) (v1 : Int32) (v2 : Int32) (v3 : Int32) (μ : XM) : h12_first_27 (n + 1) v1 v2 v3 μ = (
  bI (f12_guests μ) fun r2 m1 =>
  xite (v3 < r2) (
    xite (((v2 >>> (v3 &&& 31)) &&& 1) = 1) (
      xri v3 m1) (
      vI (v3 + 1) fun x3 =>
      h12_first_27 n v1 v2 x3 m1)) (
    vI (v1 + 1) fun x4 =>
    h12_first_11 n x4 m1)) := rfl
theorem h12_first_27_0 (v1 : Int32) (v2 : Int32) (v3 : Int32) (μ : XM) : h12_first_27 0 v1 v2 v3 μ = none := rfl
noncomputable def k12_first (n : Nat) (μ : XM) : XR :=
  mS (sI μ 12 0 0 0) fun m1 =>
  bV (f12_triesNow m1) fun m2 =>
  vI 1 fun x3 =>
  h12_first_11 n x3 m2
set_option maxRecDepth 100000 in
theorem q12_first (n : Nat) (μ : XM) : xrun t12_first e12_first (xrtk (some .int)) 42 n (xlo [xr 12 0 0] 4) μ = k12_first n  μ := rfl
theorem x12_first : ∃ f : XM → XR, ∀ (μ : XM), f μ = k12_first 20000  μ := ⟨fun μ => k12_first 20000  μ, fun μ => rfl⟩
noncomputable def f12_first : XM → XR := Classical.choose x12_first
theorem f12_first_e (μ : XM) : f12_first μ = k12_first 20000  μ := Classical.choose_spec x12_first μ
noncomputable def F12_first : XF := fun av μ => match av with
  | [.inr (.inr (some (t0, i0, 0)))] => bif Nat.beq t0 12 && Nat.beq i0 0 then f12_first  μ else none
  | _ => none
set_option maxRecDepth 100000 in
theorem c12_first {X : XP} (hX : XOK X) (l : Launch) : Ctr X l y12_first prog_14_method_91_code 4 (some .int) (xrm 7) 0 0 F12_first :=
  Ctr_of (tab := t12_first) (env := e12_first) (K := 42) (N := 20000) (fl := fl12) (cl := cl12) (ll := ll12) (jl := jl12) hX mf12_first.2.2.2 ⟨by decide +kernel, flk12, clk12, llk12, jlk12⟩
   (List.forall_mem_cons.mpr ⟨xcal_v (na := 0) (c12_triesNow hX l) mf12_triesNow ⟨rfl, rfl⟩ ml12_388 mi12_triesNow me12_triesNow (xrm_ok (by omega) (by decide)) rfl (by decide) (by decide +kernel), List.forall_mem_cons.mpr ⟨xcal_v (na := 1) (c12_passes hX l) mf12_passes ⟨rfl, rfl⟩ ml12_379 mi12_passes me12_passes (xrm_ok (by omega) (by decide)) rfl (by decide) (by decide +kernel), List.forall_mem_cons.mpr ⟨xcal_v (na := 0) (c12_guests hX l) mf12_guests ⟨rfl, rfl⟩ ml12_282 mi12_guests me12_guests (xrm_ok (by omega) (by decide)) rfl (by decide) (by decide +kernel), fun _ h => absurd h List.not_mem_nil⟩⟩⟩)
   (xrm_1 (by decide)) ⟨_, _, rfl, rfl⟩ (fun av μ r μ' h => by
    unfold F12_first at h
    split at h
    · replace h := cond_inv h; obtain ⟨hb, h⟩ := h
      simp only [Bool.and_eq_true] at hb
      obtain ⟨g0, g1⟩ := hb
      obtain rfl := Nat.eq_of_beq_eq_true g0
      obtain rfl := Nat.eq_of_beq_eq_true g1
      exact ⟨Nat.le_of_ble_eq_true rfl, (q12_first _  _).trans ((f12_first_e  _).symm.trans h)⟩
    · cases h)
def t12_home : List XE := [(0, .aload_n 0, 0, 0, 0, 0, []),
  (1, .iconst 0, 0, 0, 0, 0, []),
  (2, .putfield 1, 12, 0, 0, 0, []),
  (5, .aload_n 0, 0, 0, 0, 0, []),
  (6, .iload_n 1, 1, 0, 0, 0, []),
  (7, .invokevirtual 353, 2, 12, 0, 0, []),
  (10, .ifCond .eq 12, 22, 0, 0, 0, []),
  (13, .aload_n 0, 0, 0, 0, 0, []),
  (14, .iconst 0, 0, 0, 0, 0, []),
  (15, .iload_n 1, 1, 0, 0, 0, []),
  (16, .invokevirtual 310, 3, 12, 0, 0, []),
  (19, .ifCond .ne 5, 24, 0, 0, 0, []),
  (22, .iconst (-1), 0, 0, (-1), 0, []),
  (23, .ireturn, 0, 0, 0, 0, []),
  (24, .aload_n 0, 0, 0, 0, 0, []),
  (25, .invokevirtual 388, 1, 12, 0, 0, []),
  (28, .aload_n 0, 0, 0, 0, 0, []),
  (29, .iload_n 1, 1, 0, 0, 0, []),
  (30, .iconst 1, 0, 0, 1, 0, []),
  (31, .invokevirtual 391, 3, 12, 0, 0, []),
  (34, .ireturn, 0, 0, 0, 0, [])]
noncomputable def e12_home : XN := [(353, 1, 2, 12, F12_isGuest), (310, 1, 3, 12, F12_isIn), (388, 0, 1, 12, F12_triesNow), (391, 1, 3, 12, F12_becomes)]
noncomputable def k12_home (p1 : Int32) (μ : XM) : XR :=
  mS (sI μ 12 0 0 0) fun m1 =>
  bI (f12_isGuest p1 m1) fun r3 m2 =>
  xite (r3 = 0) (
    xri (-1) m2) (
    bI (f12_isIn 0 p1 m2) fun r5 m4 =>
    xite (r5 = 0) (
      xri (-1) m4) (
      bV (f12_triesNow m4) fun m6 =>
      bI (f12_becomes p1 1 m6) fun r8 m7 =>
      xri r8 m7))
set_option maxRecDepth 100000 in
theorem q12_home (n : Nat) (p1 : Int32) (μ : XM) : xrun t12_home e12_home (xrtk (some .int)) 26 n (xlo [xr 12 0 0, xi p1] 2) μ = k12_home p1 μ := rfl
theorem x12_home : ∃ f : Int32 → XM → XR, ∀ (p1 : Int32) (μ : XM), f p1 μ = k12_home p1 μ := ⟨fun p1 μ => k12_home p1 μ, fun p1 μ => rfl⟩
noncomputable def f12_home : Int32 → XM → XR := Classical.choose x12_home
theorem f12_home_e (p1 : Int32) (μ : XM) : f12_home p1 μ = k12_home p1 μ := Classical.choose_spec x12_home p1 μ
noncomputable def F12_home : XF := fun av μ => match av with
  | [.inr (.inr (some (t0, i0, 0))), .inl p1] => bif Nat.beq t0 12 && Nat.beq i0 0 then f12_home p1 μ else none
  | _ => none
set_option maxRecDepth 100000 in
theorem c12_home {X : XP} (hX : XOK X) (l : Launch) : Ctr X l y12_home prog_14_method_92_code 2 (some .int) (xrm 8) 0 0 F12_home :=
  Ctr_of (tab := t12_home) (env := e12_home) (K := 26) (N := 20000) (fl := fl12) (cl := cl12) (ll := ll12) (jl := jl12) hX mf12_home.2.2.2 ⟨by decide +kernel, flk12, clk12, llk12, jlk12⟩
   (List.forall_mem_cons.mpr ⟨xcal_v (na := 1) (c12_isGuest hX l) mf12_isGuest ⟨rfl, rfl⟩ ml12_353 mi12_isGuest me12_isGuest (xrm_ok (by omega) (by decide)) rfl (by decide) (by decide +kernel), List.forall_mem_cons.mpr ⟨xcal_v (na := 2) (c12_isIn hX l) mf12_isIn ⟨rfl, rfl⟩ ml12_310 mi12_isIn me12_isIn (xrm_ok (by omega) (by decide)) rfl (by decide) (by decide +kernel), List.forall_mem_cons.mpr ⟨xcal_v (na := 0) (c12_triesNow hX l) mf12_triesNow ⟨rfl, rfl⟩ ml12_388 mi12_triesNow me12_triesNow (xrm_ok (by omega) (by decide)) rfl (by decide) (by decide +kernel), List.forall_mem_cons.mpr ⟨xcal_v (na := 2) (c12_becomes hX l) mf12_becomes ⟨rfl, rfl⟩ ml12_391 mi12_becomes me12_becomes (xrm_ok (by omega) (by decide)) rfl (by decide) (by decide +kernel), fun _ h => absurd h List.not_mem_nil⟩⟩⟩⟩)
   (xrm_1 (by decide)) ⟨_, _, rfl, rfl⟩ (fun av μ r μ' h => by
    unfold F12_home at h
    split at h
    · replace h := cond_inv h; obtain ⟨hb, h⟩ := h
      simp only [Bool.and_eq_true] at hb
      obtain ⟨g0, g1⟩ := hb
      obtain rfl := Nat.eq_of_beq_eq_true g0
      obtain rfl := Nat.eq_of_beq_eq_true g1
      exact ⟨Nat.le_of_ble_eq_true rfl, (q12_home _ _ _).trans ((f12_home_e _ _).symm.trans h)⟩
    · cases h)
def t12_quiet : List XE := [(0, .aload_n 0, 0, 0, 0, 0, []),
  (1, .iconst 0, 0, 0, 0, 0, []),
  (2, .putfield 1, 12, 0, 0, 0, []),
  (5, .aload_n 0, 0, 0, 0, 0, []),
  (6, .invokevirtual 388, 1, 12, 0, 0, []),
  (9, .iconst 0, 0, 0, 0, 0, []),
  (10, .istore_n 1, 1, 0, 0, 0, []),
  (11, .nop, 3, 0, 0, 0, []),
  (11, .iload_n 1, 1, 0, 0, 0, []),
  (12, .bipush 60, 0, 0, 60, 0, []),
  (14, .if_icmp .gt 30, 44, 0, 0, 0, []),
  (17, .aload_n 0, 0, 0, 0, 0, []),
  (18, .sipush 987, 0, 0, 987, 0, []),
  (21, .iconst 0, 0, 0, 0, 0, []),
  (22, .invokevirtual 338, 3, 12, 0, 0, []),
  (25, .ifCond .ne 5, 30, 0, 0, 0, []),
  (28, .iload_n 1, 1, 0, 0, 0, []),
  (29, .ireturn, 0, 0, 0, 0, []),
  (30, .aload_n 0, 0, 0, 0, 0, []),
  (31, .sipush 987, 0, 0, 987, 0, []),
  (34, .invokevirtual 379, 2, 12, 0, 0, []),
  (37, .pop, 0, 0, 0, 0, []),
  (38, .iinc 1 1, 1, 0, 1, 0, []),
  (41, .goto (-30), 11, 0, 0, 0, []),
  (44, .iconst (-1), 0, 0, (-1), 0, []),
  (45, .ireturn, 0, 0, 0, 0, [])]
noncomputable def e12_quiet : XN := [(388, 0, 1, 12, F12_triesNow), (338, 1, 3, 12, F12_who), (379, 1, 2, 12, F12_passes)]
noncomputable def h12_quiet_11 (n : Nat) (v1 : Int32) (μ : XM) : XR := arr t12_quiet e12_quiet 1 31 n 11 [some (xr 12 0 0), some (xi v1)] [] μ
set_option maxRecDepth 100000 in
theorem h12_quiet_11_s (n : Nat) (v1 : Int32) (μ : XM) : h12_quiet_11 (n + 1) v1 μ = (
  xite ((60 : Int32) < v1) (
    xri (-1) μ) (
    bI (f12_who 987 0 μ) fun r2 m1 =>
    xite (r2 = 0) (
      xri v1 m1) (
      bI (f12_passes 987 m1) fun r4 m3 =>
      vI (v1 + 1) fun x5 =>
      h12_quiet_11 n x5 m3))) := rfl
theorem h12_quiet_11_0 (v1 : Int32) (μ : XM) : h12_quiet_11 0 v1 μ = none := rfl
noncomputable def k12_quiet (n : Nat) (μ : XM) : XR :=
  mS (sI μ 12 0 0 0) fun m1 =>
  bV (f12_triesNow m1) fun m2 =>
  vI 0 fun x3 =>
  h12_quiet_11 n x3 m2
set_option maxRecDepth 100000 in
theorem q12_quiet (n : Nat) (μ : XM) : xrun t12_quiet e12_quiet (xrtk (some .int)) 31 n (xlo [xr 12 0 0] 2) μ = k12_quiet n  μ := rfl
theorem x12_quiet : ∃ f : XM → XR, ∀ (μ : XM), f μ = k12_quiet 20000  μ := ⟨fun μ => k12_quiet 20000  μ, fun μ => rfl⟩
noncomputable def f12_quiet : XM → XR := Classical.choose x12_quiet
theorem f12_quiet_e (μ : XM) : f12_quiet μ = k12_quiet 20000  μ := Classical.choose_spec x12_quiet μ
noncomputable def F12_quiet : XF := fun av μ => match av with
  | [.inr (.inr (some (t0, i0, 0)))] => bif Nat.beq t0 12 && Nat.beq i0 0 then f12_quiet  μ else none
  | _ => none
set_option maxRecDepth 100000 in
theorem c12_quiet {X : XP} (hX : XOK X) (l : Launch) : Ctr X l y12_quiet prog_14_method_93_code 2 (some .int) (xrm 7) 0 0 F12_quiet :=
  Ctr_of (tab := t12_quiet) (env := e12_quiet) (K := 31) (N := 20000) (fl := fl12) (cl := cl12) (ll := ll12) (jl := jl12) hX mf12_quiet.2.2.2 ⟨by decide +kernel, flk12, clk12, llk12, jlk12⟩
   (List.forall_mem_cons.mpr ⟨xcal_v (na := 0) (c12_triesNow hX l) mf12_triesNow ⟨rfl, rfl⟩ ml12_388 mi12_triesNow me12_triesNow (xrm_ok (by omega) (by decide)) rfl (by decide) (by decide +kernel), List.forall_mem_cons.mpr ⟨xcal_v (na := 2) (c12_who hX l) mf12_who ⟨rfl, rfl⟩ ml12_338 mi12_who me12_who (xrm_ok (by omega) (by decide)) rfl (by decide) (by decide +kernel), List.forall_mem_cons.mpr ⟨xcal_v (na := 1) (c12_passes hX l) mf12_passes ⟨rfl, rfl⟩ ml12_379 mi12_passes me12_passes (xrm_ok (by omega) (by decide)) rfl (by decide) (by decide +kernel), fun _ h => absurd h List.not_mem_nil⟩⟩⟩)
   (xrm_1 (by decide)) ⟨_, _, rfl, rfl⟩ (fun av μ r μ' h => by
    unfold F12_quiet at h
    split at h
    · replace h := cond_inv h; obtain ⟨hb, h⟩ := h
      simp only [Bool.and_eq_true] at hb
      obtain ⟨g0, g1⟩ := hb
      obtain rfl := Nat.eq_of_beq_eq_true g0
      obtain rfl := Nat.eq_of_beq_eq_true g1
      exact ⟨Nat.le_of_ble_eq_true rfl, (q12_quiet _  _).trans ((f12_quiet_e  _).symm.trans h)⟩
    · cases h)
def t12_when : List XE := [(0, .aload_n 0, 0, 0, 0, 0, []),
  (1, .iconst 0, 0, 0, 0, 0, []),
  (2, .putfield 1, 12, 0, 0, 0, []),
  (5, .aload_n 0, 0, 0, 0, 0, []),
  (6, .invokevirtual 388, 1, 12, 0, 0, []),
  (9, .iconst 0, 0, 0, 0, 0, []),
  (10, .istore_n 2, 2, 0, 0, 0, []),
  (11, .nop, 7, 0, 0, 0, []),
  (11, .iload_n 2, 2, 0, 0, 0, []),
  (12, .bipush 60, 0, 0, 60, 0, []),
  (14, .if_icmp .gt 38, 52, 0, 0, 0, []),
  (17, .aload_n 0, 0, 0, 0, 0, []),
  (18, .iload_n 1, 1, 0, 0, 0, []),
  (19, .invokevirtual 353, 2, 12, 0, 0, []),
  (22, .ifCond .eq 30, 52, 0, 0, 0, []),
  (25, .aload_n 0, 0, 0, 0, 0, []),
  (26, .sipush 987, 0, 0, 987, 0, []),
  (29, .iload_n 1, 1, 0, 0, 0, []),
  (30, .invokevirtual 317, 3, 12, 0, 0, []),
  (33, .ifCond .eq 5, 38, 0, 0, 0, []),
  (36, .iload_n 2, 2, 0, 0, 0, []),
  (37, .ireturn, 0, 0, 0, 0, []),
  (38, .aload_n 0, 0, 0, 0, 0, []),
  (39, .sipush 987, 0, 0, 987, 0, []),
  (42, .invokevirtual 379, 2, 12, 0, 0, []),
  (45, .pop, 0, 0, 0, 0, []),
  (46, .iinc 2 1, 2, 0, 1, 0, []),
  (49, .goto (-38), 11, 0, 0, 0, []),
  (52, .iconst (-1), 0, 0, (-1), 0, []),
  (53, .ireturn, 0, 0, 0, 0, [])]
noncomputable def e12_when : XN := [(388, 0, 1, 12, F12_triesNow), (353, 1, 2, 12, F12_isGuest), (317, 1, 3, 12, F12_doesCry), (379, 1, 2, 12, F12_passes)]
noncomputable def h12_when_11 (n : Nat) (v1 : Int32) (v2 : Int32) (μ : XM) : XR := arr t12_when e12_when 1 35 n 11 [some (xr 12 0 0), some (xi v1), some (xi v2)] [] μ
set_option maxRecDepth 100000 in
theorem h12_when_11_s (n : Nat) (v1 : Int32) (v2 : Int32) (μ : XM) : h12_when_11 (n + 1) v1 v2 μ = (
  xite ((60 : Int32) < v2) (
    xri (-1) μ) (
    bI (f12_isGuest v1 μ) fun r2 m1 =>
    xite (r2 = 0) (
      xri (-1) m1) (
      bI (f12_doesCry 987 v1 m1) fun r4 m3 =>
      xite (r4 = 0) (
        bI (f12_passes 987 m3) fun r6 m5 =>
        vI (v2 + 1) fun x7 =>
        h12_when_11 n v1 x7 m5) (
        xri v2 m3)))) := rfl
theorem h12_when_11_0 (v1 : Int32) (v2 : Int32) (μ : XM) : h12_when_11 0 v1 v2 μ = none := rfl
noncomputable def k12_when (n : Nat) (p1 : Int32) (μ : XM) : XR :=
  mS (sI μ 12 0 0 0) fun m1 =>
  bV (f12_triesNow m1) fun m2 =>
  vI 0 fun x3 =>
  h12_when_11 n p1 x3 m2
set_option maxRecDepth 100000 in
theorem q12_when (n : Nat) (p1 : Int32) (μ : XM) : xrun t12_when e12_when (xrtk (some .int)) 35 n (xlo [xr 12 0 0, xi p1] 3) μ = k12_when n p1 μ := rfl
theorem x12_when : ∃ f : Int32 → XM → XR, ∀ (p1 : Int32) (μ : XM), f p1 μ = k12_when 20000 p1 μ := ⟨fun p1 μ => k12_when 20000 p1 μ, fun p1 μ => rfl⟩
noncomputable def f12_when : Int32 → XM → XR := Classical.choose x12_when
theorem f12_when_e (p1 : Int32) (μ : XM) : f12_when p1 μ = k12_when 20000 p1 μ := Classical.choose_spec x12_when p1 μ
noncomputable def F12_when : XF := fun av μ => match av with
  | [.inr (.inr (some (t0, i0, 0))), .inl p1] => bif Nat.beq t0 12 && Nat.beq i0 0 then f12_when p1 μ else none
  | _ => none
set_option maxRecDepth 100000 in
theorem c12_when {X : XP} (hX : XOK X) (l : Launch) : Ctr X l y12_when prog_14_method_94_code 3 (some .int) (xrm 7) 0 0 F12_when :=
  Ctr_of (tab := t12_when) (env := e12_when) (K := 35) (N := 20000) (fl := fl12) (cl := cl12) (ll := ll12) (jl := jl12) hX mf12_when.2.2.2 ⟨by decide +kernel, flk12, clk12, llk12, jlk12⟩
   (List.forall_mem_cons.mpr ⟨xcal_v (na := 0) (c12_triesNow hX l) mf12_triesNow ⟨rfl, rfl⟩ ml12_388 mi12_triesNow me12_triesNow (xrm_ok (by omega) (by decide)) rfl (by decide) (by decide +kernel), List.forall_mem_cons.mpr ⟨xcal_v (na := 1) (c12_isGuest hX l) mf12_isGuest ⟨rfl, rfl⟩ ml12_353 mi12_isGuest me12_isGuest (xrm_ok (by omega) (by decide)) rfl (by decide) (by decide +kernel), List.forall_mem_cons.mpr ⟨xcal_v (na := 2) (c12_doesCry hX l) mf12_doesCry ⟨rfl, rfl⟩ ml12_317 mi12_doesCry me12_doesCry (xrm_ok (by omega) (by decide)) rfl (by decide) (by decide +kernel), List.forall_mem_cons.mpr ⟨xcal_v (na := 1) (c12_passes hX l) mf12_passes ⟨rfl, rfl⟩ ml12_379 mi12_passes me12_passes (xrm_ok (by omega) (by decide)) rfl (by decide) (by decide +kernel), fun _ h => absurd h List.not_mem_nil⟩⟩⟩⟩)
   (xrm_1 (by decide)) ⟨_, _, rfl, rfl⟩ (fun av μ r μ' h => by
    unfold F12_when at h
    split at h
    · replace h := cond_inv h; obtain ⟨hb, h⟩ := h
      simp only [Bool.and_eq_true] at hb
      obtain ⟨g0, g1⟩ := hb
      obtain rfl := Nat.eq_of_beq_eq_true g0
      obtain rfl := Nat.eq_of_beq_eq_true g1
      exact ⟨Nat.le_of_ble_eq_true rfl, (q12_when _ _ _).trans ((f12_when_e _ _).symm.trans h)⟩
    · cases h)
def t12_lost : List XE := [(0, .aload_n 0, 0, 0, 0, 0, []),
  (1, .iconst 0, 0, 0, 0, 0, []),
  (2, .putfield 1, 12, 0, 0, 0, []),
  (5, .iload_n 1, 1, 0, 0, 0, []),
  (6, .iconst 0, 0, 0, 0, 0, []),
  (7, .bipush 60, 0, 0, 60, 0, []),
  (9, .invokestatic 215, 3, 0, 0, 0, []),
  (12, .ifCond .ne 5, 17, 0, 0, 0, []),
  (15, .iconst (-1), 0, 0, (-1), 0, []),
  (16, .ireturn, 0, 0, 0, 0, []),
  (17, .aload_n 0, 0, 0, 0, 0, []),
  (18, .invokevirtual 388, 1, 12, 0, 0, []),
  (21, .iconst 0, 0, 0, 0, 0, []),
  (22, .istore_n 2, 2, 0, 0, 0, []),
  (23, .nop, 7, 0, 0, 0, []),
  (23, .iload_n 2, 2, 0, 0, 0, []),
  (24, .iload_n 1, 1, 0, 0, 0, []),
  (25, .if_icmp .ge 17, 42, 0, 0, 0, []),
  (28, .aload_n 0, 0, 0, 0, 0, []),
  (29, .sipush 987, 0, 0, 987, 0, []),
  (32, .invokevirtual 379, 2, 12, 0, 0, []),
  (35, .pop, 0, 0, 0, 0, []),
  (36, .iinc 2 1, 2, 0, 1, 0, []),
  (39, .goto (-16), 23, 0, 0, 0, []),
  (42, .aload_n 0, 0, 0, 0, 0, []),
  (43, .sipush 987, 0, 0, 987, 0, []),
  (46, .iconst 2, 0, 0, 2, 0, []),
  (47, .invokevirtual 338, 3, 12, 0, 0, []),
  (50, .ireturn, 0, 0, 0, 0, [])]
noncomputable def e12_lost : XN := [(215, 1, 3, 99, F12_within), (388, 0, 1, 12, F12_triesNow), (379, 1, 2, 12, F12_passes), (338, 1, 3, 12, F12_who)]
noncomputable def h12_lost_23 (n : Nat) (v1 : Int32) (v2 : Int32) (μ : XM) : XR := arr t12_lost e12_lost 1 34 n 23 [some (xr 12 0 0), some (xi v1), some (xi v2)] [] μ
set_option maxRecDepth 100000 in
theorem h12_lost_23_s (n : Nat) (v1 : Int32) (v2 : Int32) (μ : XM) : h12_lost_23 (n + 1) v1 v2 μ = (
  xite (v2 < v1) (
    bI (f12_passes 987 μ) fun r2 m1 =>
    vI (v2 + 1) fun x3 =>
    h12_lost_23 n v1 x3 m1) (
    bI (f12_who 987 2 μ) fun r5 m4 =>
    xri r5 m4)) := rfl
theorem h12_lost_23_0 (v1 : Int32) (v2 : Int32) (μ : XM) : h12_lost_23 0 v1 v2 μ = none := rfl
noncomputable def k12_lost (n : Nat) (p1 : Int32) (μ : XM) : XR :=
  mS (sI μ 12 0 0 0) fun m1 =>
  bI (f12_within p1 0 60 m1) fun r3 m2 =>
  xite (r3 = 0) (
    xri (-1) m2) (
    bV (f12_triesNow m2) fun m4 =>
    vI 0 fun x5 =>
    h12_lost_23 n p1 x5 m4)
set_option maxRecDepth 100000 in
theorem q12_lost (n : Nat) (p1 : Int32) (μ : XM) : xrun t12_lost e12_lost (xrtk (some .int)) 34 n (xlo [xr 12 0 0, xi p1] 3) μ = k12_lost n p1 μ := rfl
theorem x12_lost : ∃ f : Int32 → XM → XR, ∀ (p1 : Int32) (μ : XM), f p1 μ = k12_lost 20000 p1 μ := ⟨fun p1 μ => k12_lost 20000 p1 μ, fun p1 μ => rfl⟩
noncomputable def f12_lost : Int32 → XM → XR := Classical.choose x12_lost
theorem f12_lost_e (p1 : Int32) (μ : XM) : f12_lost p1 μ = k12_lost 20000 p1 μ := Classical.choose_spec x12_lost p1 μ
noncomputable def F12_lost : XF := fun av μ => match av with
  | [.inr (.inr (some (t0, i0, 0))), .inl p1] => bif Nat.beq t0 12 && Nat.beq i0 0 then f12_lost p1 μ else none
  | _ => none
set_option maxRecDepth 100000 in
theorem c12_lost {X : XP} (hX : XOK X) (l : Launch) : Ctr X l y12_lost prog_14_method_95_code 3 (some .int) (xrm 7) 0 0 F12_lost :=
  Ctr_of (tab := t12_lost) (env := e12_lost) (K := 34) (N := 20000) (fl := fl12) (cl := cl12) (ll := ll12) (jl := jl12) hX mf12_lost.2.2.2 ⟨by decide +kernel, flk12, clk12, llk12, jlk12⟩
   (List.forall_mem_cons.mpr ⟨xcal_s (c12_within hX l) mf12_within ⟨rfl, rfl⟩ ml12_215 ms12_within (xrm_ok (by omega) (by decide)) (by decide +kernel), List.forall_mem_cons.mpr ⟨xcal_v (na := 0) (c12_triesNow hX l) mf12_triesNow ⟨rfl, rfl⟩ ml12_388 mi12_triesNow me12_triesNow (xrm_ok (by omega) (by decide)) rfl (by decide) (by decide +kernel), List.forall_mem_cons.mpr ⟨xcal_v (na := 1) (c12_passes hX l) mf12_passes ⟨rfl, rfl⟩ ml12_379 mi12_passes me12_passes (xrm_ok (by omega) (by decide)) rfl (by decide) (by decide +kernel), List.forall_mem_cons.mpr ⟨xcal_v (na := 2) (c12_who hX l) mf12_who ⟨rfl, rfl⟩ ml12_338 mi12_who me12_who (xrm_ok (by omega) (by decide)) rfl (by decide) (by decide +kernel), fun _ h => absurd h List.not_mem_nil⟩⟩⟩⟩)
   (xrm_1 (by decide)) ⟨_, _, rfl, rfl⟩ (fun av μ r μ' h => by
    unfold F12_lost at h
    split at h
    · replace h := cond_inv h; obtain ⟨hb, h⟩ := h
      simp only [Bool.and_eq_true] at hb
      obtain ⟨g0, g1⟩ := hb
      obtain rfl := Nat.eq_of_beq_eq_true g0
      obtain rfl := Nat.eq_of_beq_eq_true g1
      exact ⟨Nat.le_of_ble_eq_true rfl, (q12_lost _ _ _).trans ((f12_lost_e _ _).symm.trans h)⟩
    · cases h)
def t12_fitsOf : List XE := [(0, .iconst 0, 0, 0, 0, 0, []),
  (1, .istore_n 2, 2, 0, 0, 0, []),
  (2, .iconst 0, 0, 0, 0, 0, []),
  (3, .istore_n 3, 3, 0, 0, 0, []),
  (4, .nop, 15, 0, 0, 0, []),
  (4, .iload_n 3, 3, 0, 0, 0, []),
  (5, .aload_n 0, 0, 0, 0, 0, []),
  (6, .invokevirtual 282, 1, 12, 0, 0, []),
  (9, .if_icmp .ge 47, 56, 0, 0, 0, []),
  (12, .iload_n 2, 2, 0, 0, 0, []),
  (13, .aload_n 0, 0, 0, 0, 0, []),
  (14, .iconst 0, 0, 0, 0, 0, []),
  (15, .iload_n 3, 3, 0, 0, 0, []),
  (16, .invokevirtual 310, 3, 12, 0, 0, []),
  (19, .ifCond .eq 28, 47, 0, 0, 0, []),
  (22, .aload_n 0, 0, 0, 0, 0, []),
  (23, .iload_n 3, 3, 0, 0, 0, []),
  (24, .iconst 0, 0, 0, 0, 0, []),
  (25, .invokevirtual 286, 3, 12, 0, 0, []),
  (28, .iconst 3, 0, 0, 3, 0, []),
  (29, .if_icmp .eq 18, 47, 0, 0, 0, []),
  (32, .aload_n 0, 0, 0, 0, 0, []),
  (33, .iload_n 1, 1, 0, 0, 0, []),
  (34, .iload_n 3, 3, 0, 0, 0, []),
  (35, .invokevirtual 314, 3, 12, 0, 0, []),
  (38, .ifCond .eq 9, 47, 0, 0, 0, []),
  (41, .iconst 1, 0, 0, 1, 0, []),
  (42, .iload_n 3, 3, 0, 0, 0, []),
  (43, .ishl, 0, 0, 0, 0, []),
  (44, .goto 4, 48, 0, 0, 0, []),
  (47, .iconst 0, 0, 0, 0, 0, []),
  (48, .ior, 0, 0, 0, 0, []),
  (49, .istore_n 2, 2, 0, 0, 0, []),
  (50, .iinc 3 1, 3, 0, 1, 0, []),
  (53, .goto (-49), 4, 0, 0, 0, []),
  (56, .iload_n 2, 2, 0, 0, 0, []),
  (57, .ireturn, 0, 0, 0, 0, [])]
noncomputable def e12_fitsOf : XN := [(282, 1, 1, 12, F12_guests), (310, 1, 3, 12, F12_isIn), (286, 1, 3, 12, F12_guestOf), (314, 1, 3, 12, F12_doesBear)]
noncomputable def h12_fitsOf_4 (n : Nat) (v1 : Int32) (v2 : Int32) (v3 : Int32) (μ : XM) : XR := arr t12_fitsOf e12_fitsOf 1 42 n 4 [some (xr 12 0 0), some (xi v1), some (xi v2), some (xi v3)] [] μ
set_option maxRecDepth 100000 in
theorem h12_fitsOf_4_s (n : Nat) (v1 : Int32) (v2 : Int32) (v3 : Int32) (μ : XM) : h12_fitsOf_4 (n + 1) v1 v2 v3 μ = (
  bI (f12_guests μ) fun r2 m1 =>
  xite (v3 < r2) (
    bI (f12_isIn 0 v3 m1) fun r4 m3 =>
    xite (r4 = 0) (
      vI (v2 ||| 0) fun x5 =>
      vI (v3 + 1) fun x6 =>
      h12_fitsOf_4 n v1 x5 x6 m3) (
      bI (f12_guestOf v3 0 m3) fun r8 m7 =>
      xite (r8 = 3) (
        vI (v2 ||| 0) fun x9 =>
        vI (v3 + 1) fun x10 =>
        h12_fitsOf_4 n v1 x9 x10 m7) (
        bI (f12_doesBear v1 v3 m7) fun r12 m11 =>
        xite (r12 = 0) (
          vI (v2 ||| 0) fun x13 =>
          vI (v3 + 1) fun x14 =>
          h12_fitsOf_4 n v1 x13 x14 m11) (
          vI (v2 ||| (1 <<< (v3 &&& 31))) fun x15 =>
          vI (v3 + 1) fun x16 =>
          h12_fitsOf_4 n v1 x15 x16 m11)))) (
    xri v2 m1)) := rfl
theorem h12_fitsOf_4_0 (v1 : Int32) (v2 : Int32) (v3 : Int32) (μ : XM) : h12_fitsOf_4 0 v1 v2 v3 μ = none := rfl
noncomputable def k12_fitsOf (n : Nat) (p1 : Int32) (μ : XM) : XR :=
  vI 0 fun x1 =>
  vI 0 fun x2 =>
  h12_fitsOf_4 n p1 x1 x2 μ
set_option maxRecDepth 100000 in
theorem q12_fitsOf (n : Nat) (p1 : Int32) (μ : XM) : xrun t12_fitsOf e12_fitsOf (xrtk (some .int)) 42 n (xlo [xr 12 0 0, xi p1] 4) μ = k12_fitsOf n p1 μ := rfl
theorem x12_fitsOf : ∃ f : Int32 → XM → XR, ∀ (p1 : Int32) (μ : XM), f p1 μ = k12_fitsOf 20000 p1 μ := ⟨fun p1 μ => k12_fitsOf 20000 p1 μ, fun p1 μ => rfl⟩
noncomputable def f12_fitsOf : Int32 → XM → XR := Classical.choose x12_fitsOf
theorem f12_fitsOf_e (p1 : Int32) (μ : XM) : f12_fitsOf p1 μ = k12_fitsOf 20000 p1 μ := Classical.choose_spec x12_fitsOf p1 μ
noncomputable def F12_fitsOf : XF := fun av μ => match av with
  | [.inr (.inr (some (t0, i0, 0))), .inl p1] => bif Nat.beq t0 12 && Nat.beq i0 0 then f12_fitsOf p1 μ else none
  | _ => none
set_option maxRecDepth 100000 in
theorem c12_fitsOf {X : XP} (hX : XOK X) (l : Launch) : Ctr X l y12_fitsOf prog_14_method_96_code 4 (some .int) (xrm 4) 0 0 F12_fitsOf :=
  Ctr_of (tab := t12_fitsOf) (env := e12_fitsOf) (K := 42) (N := 20000) (fl := fl12) (cl := cl12) (ll := ll12) (jl := jl12) hX mf12_fitsOf.2.2.2 ⟨by decide +kernel, flk12, clk12, llk12, jlk12⟩
   (List.forall_mem_cons.mpr ⟨xcal_v (na := 0) (c12_guests hX l) mf12_guests ⟨rfl, rfl⟩ ml12_282 mi12_guests me12_guests (xrm_ok (by omega) (by decide)) rfl (by decide) (by decide +kernel), List.forall_mem_cons.mpr ⟨xcal_v (na := 2) (c12_isIn hX l) mf12_isIn ⟨rfl, rfl⟩ ml12_310 mi12_isIn me12_isIn (xrm_ok (by omega) (by decide)) rfl (by decide) (by decide +kernel), List.forall_mem_cons.mpr ⟨xcal_v (na := 2) (c12_guestOf hX l) mf12_guestOf ⟨rfl, rfl⟩ ml12_286 mi12_guestOf me12_guestOf (xrm_ok (by omega) (by decide)) rfl (by decide) (by decide +kernel), List.forall_mem_cons.mpr ⟨xcal_v (na := 2) (c12_doesBear hX l) mf12_doesBear ⟨rfl, rfl⟩ ml12_314 mi12_doesBear me12_doesBear (xrm_ok (by omega) (by decide)) rfl (by decide) (by decide +kernel), fun _ h => absurd h List.not_mem_nil⟩⟩⟩⟩)
   (xrm_1 (by decide)) ⟨_, _, rfl, rfl⟩ (fun av μ r μ' h => by
    unfold F12_fitsOf at h
    split at h
    · replace h := cond_inv h; obtain ⟨hb, h⟩ := h
      simp only [Bool.and_eq_true] at hb
      obtain ⟨g0, g1⟩ := hb
      obtain rfl := Nat.eq_of_beq_eq_true g0
      obtain rfl := Nat.eq_of_beq_eq_true g1
      exact ⟨Nat.le_of_ble_eq_true rfl, (q12_fitsOf _ _ _).trans ((f12_fitsOf_e _ _).symm.trans h)⟩
    · cases h)
def t12_fits : List XE := [(0, .aload_n 0, 0, 0, 0, 0, []),
  (1, .iconst 0, 0, 0, 0, 0, []),
  (2, .putfield 1, 12, 0, 0, 0, []),
  (5, .aload_n 0, 0, 0, 0, 0, []),
  (6, .iload_n 1, 1, 0, 0, 0, []),
  (7, .invokevirtual 356, 2, 12, 0, 0, []),
  (10, .ifCond .eq 11, 21, 0, 0, 0, []),
  (13, .aload_n 0, 0, 0, 0, 0, []),
  (14, .iload_n 1, 1, 0, 0, 0, []),
  (15, .invokevirtual 397, 2, 12, 0, 0, []),
  (18, .goto 4, 22, 0, 0, 0, []),
  (21, .iconst (-1), 0, 0, (-1), 0, []),
  (22, .ireturn, 0, 0, 0, 0, [])]
noncomputable def e12_fits : XN := [(356, 1, 2, 12, F12_isBelt), (397, 1, 2, 12, F12_fitsOf)]
noncomputable def k12_fits (p1 : Int32) (μ : XM) : XR :=
  mS (sI μ 12 0 0 0) fun m1 =>
  bI (f12_isBelt p1 m1) fun r3 m2 =>
  xite (r3 = 0) (
    xri (-1) m2) (
    bI (f12_fitsOf p1 m2) fun r5 m4 =>
    xri r5 m4)
set_option maxRecDepth 100000 in
theorem q12_fits (n : Nat) (p1 : Int32) (μ : XM) : xrun t12_fits e12_fits (xrtk (some .int)) 18 n (xlo [xr 12 0 0, xi p1] 2) μ = k12_fits p1 μ := rfl
theorem x12_fits : ∃ f : Int32 → XM → XR, ∀ (p1 : Int32) (μ : XM), f p1 μ = k12_fits p1 μ := ⟨fun p1 μ => k12_fits p1 μ, fun p1 μ => rfl⟩
noncomputable def f12_fits : Int32 → XM → XR := Classical.choose x12_fits
theorem f12_fits_e (p1 : Int32) (μ : XM) : f12_fits p1 μ = k12_fits p1 μ := Classical.choose_spec x12_fits p1 μ
noncomputable def F12_fits : XF := fun av μ => match av with
  | [.inr (.inr (some (t0, i0, 0))), .inl p1] => bif Nat.beq t0 12 && Nat.beq i0 0 then f12_fits p1 μ else none
  | _ => none
set_option maxRecDepth 100000 in
theorem c12_fits {X : XP} (hX : XOK X) (l : Launch) : Ctr X l y12_fits prog_14_method_97_code 2 (some .int) (xrm 5) 0 0 F12_fits :=
  Ctr_of (tab := t12_fits) (env := e12_fits) (K := 18) (N := 20000) (fl := fl12) (cl := cl12) (ll := ll12) (jl := jl12) hX mf12_fits.2.2.2 ⟨by decide +kernel, flk12, clk12, llk12, jlk12⟩
   (List.forall_mem_cons.mpr ⟨xcal_v (na := 1) (c12_isBelt hX l) mf12_isBelt ⟨rfl, rfl⟩ ml12_356 mi12_isBelt me12_isBelt (xrm_ok (by omega) (by decide)) rfl (by decide) (by decide +kernel), List.forall_mem_cons.mpr ⟨xcal_v (na := 1) (c12_fitsOf hX l) mf12_fitsOf ⟨rfl, rfl⟩ ml12_397 mi12_fitsOf me12_fitsOf (xrm_ok (by omega) (by decide)) rfl (by decide) (by decide +kernel), fun _ h => absurd h List.not_mem_nil⟩⟩)
   (xrm_1 (by decide)) ⟨_, _, rfl, rfl⟩ (fun av μ r μ' h => by
    unfold F12_fits at h
    split at h
    · replace h := cond_inv h; obtain ⟨hb, h⟩ := h
      simp only [Bool.and_eq_true] at hb
      obtain ⟨g0, g1⟩ := hb
      obtain rfl := Nat.eq_of_beq_eq_true g0
      obtain rfl := Nat.eq_of_beq_eq_true g1
      exact ⟨Nat.le_of_ble_eq_true rfl, (q12_fits _ _ _).trans ((f12_fits_e _ _).symm.trans h)⟩
    · cases h)
def t12_could : List XE := [(0, .aload_n 0, 0, 0, 0, 0, []),
  (1, .iconst 0, 0, 0, 0, 0, []),
  (2, .putfield 1, 12, 0, 0, 0, []),
  (5, .aload_n 0, 0, 0, 0, 0, []),
  (6, .iload_n 1, 1, 0, 0, 0, []),
  (7, .invokevirtual 359, 2, 12, 0, 0, []),
  (10, .ifCond .ne 5, 15, 0, 0, 0, []),
  (13, .iconst (-1), 0, 0, (-1), 0, []),
  (14, .ireturn, 0, 0, 0, 0, []),
  (15, .iconst 0, 0, 0, 0, 0, []),
  (16, .istore_n 2, 2, 0, 0, 0, []),
  (17, .iconst 0, 0, 0, 0, 0, []),
  (18, .istore_n 3, 3, 0, 0, 0, []),
  (19, .nop, 15, 0, 0, 0, []),
  (19, .iload_n 3, 3, 0, 0, 0, []),
  (20, .aload_n 0, 0, 0, 0, 0, []),
  (21, .invokevirtual 282, 1, 12, 0, 0, []),
  (24, .if_icmp .ge 29, 53, 0, 0, 0, []),
  (27, .iload_n 2, 2, 0, 0, 0, []),
  (28, .aload_n 0, 0, 0, 0, 0, []),
  (29, .iconst 0, 0, 0, 0, 0, []),
  (30, .iload_n 1, 1, 0, 0, 0, []),
  (31, .iload_n 3, 3, 0, 0, 0, []),
  (32, .invokevirtual 329, 4, 12, 0, 0, []),
  (35, .ifCond .eq 9, 44, 0, 0, 0, []),
  (38, .iconst 1, 0, 0, 1, 0, []),
  (39, .iload_n 3, 3, 0, 0, 0, []),
  (40, .ishl, 0, 0, 0, 0, []),
  (41, .goto 4, 45, 0, 0, 0, []),
  (44, .iconst 0, 0, 0, 0, 0, []),
  (45, .ior, 0, 0, 0, 0, []),
  (46, .istore_n 2, 2, 0, 0, 0, []),
  (47, .iinc 3 1, 3, 0, 1, 0, []),
  (50, .goto (-31), 19, 0, 0, 0, []),
  (53, .iload_n 2, 2, 0, 0, 0, []),
  (54, .ireturn, 0, 0, 0, 0, [])]
noncomputable def e12_could : XN := [(359, 1, 2, 12, F12_isMan), (282, 1, 1, 12, F12_guests), (329, 1, 4, 12, F12_couldCast)]
noncomputable def h12_could_19 (n : Nat) (v1 : Int32) (v2 : Int32) (v3 : Int32) (μ : XM) : XR := arr t12_could e12_could 1 41 n 19 [some (xr 12 0 0), some (xi v1), some (xi v2), some (xi v3)] [] μ
set_option maxRecDepth 100000 in
theorem h12_could_19_s (n : Nat) (v1 : Int32) (v2 : Int32) (v3 : Int32) (μ : XM) : h12_could_19 (n + 1) v1 v2 v3 μ = (
  bI (f12_guests μ) fun r2 m1 =>
  xite (v3 < r2) (
    bI (f12_couldCast 0 v1 v3 m1) fun r4 m3 =>
    xite (r4 = 0) (
      vI (v2 ||| 0) fun x5 =>
      vI (v3 + 1) fun x6 =>
      h12_could_19 n v1 x5 x6 m3) (
      vI (v2 ||| (1 <<< (v3 &&& 31))) fun x7 =>
      vI (v3 + 1) fun x8 =>
      h12_could_19 n v1 x7 x8 m3)) (
    xri v2 m1)) := rfl
theorem h12_could_19_0 (v1 : Int32) (v2 : Int32) (v3 : Int32) (μ : XM) : h12_could_19 0 v1 v2 v3 μ = none := rfl
noncomputable def k12_could (n : Nat) (p1 : Int32) (μ : XM) : XR :=
  mS (sI μ 12 0 0 0) fun m1 =>
  bI (f12_isMan p1 m1) fun r3 m2 =>
  xite (r3 = 0) (
    xri (-1) m2) (
    vI 0 fun x4 =>
    vI 0 fun x5 =>
    h12_could_19 n p1 x4 x5 m2)
set_option maxRecDepth 100000 in
theorem q12_could (n : Nat) (p1 : Int32) (μ : XM) : xrun t12_could e12_could (xrtk (some .int)) 41 n (xlo [xr 12 0 0, xi p1] 4) μ = k12_could n p1 μ := rfl
theorem x12_could : ∃ f : Int32 → XM → XR, ∀ (p1 : Int32) (μ : XM), f p1 μ = k12_could 20000 p1 μ := ⟨fun p1 μ => k12_could 20000 p1 μ, fun p1 μ => rfl⟩
noncomputable def f12_could : Int32 → XM → XR := Classical.choose x12_could
theorem f12_could_e (p1 : Int32) (μ : XM) : f12_could p1 μ = k12_could 20000 p1 μ := Classical.choose_spec x12_could p1 μ
noncomputable def F12_could : XF := fun av μ => match av with
  | [.inr (.inr (some (t0, i0, 0))), .inl p1] => bif Nat.beq t0 12 && Nat.beq i0 0 then f12_could p1 μ else none
  | _ => none
set_option maxRecDepth 100000 in
theorem c12_could {X : XP} (hX : XOK X) (l : Launch) : Ctr X l y12_could prog_14_method_98_code 4 (some .int) (xrm 4) 0 0 F12_could :=
  Ctr_of (tab := t12_could) (env := e12_could) (K := 41) (N := 20000) (fl := fl12) (cl := cl12) (ll := ll12) (jl := jl12) hX mf12_could.2.2.2 ⟨by decide +kernel, flk12, clk12, llk12, jlk12⟩
   (List.forall_mem_cons.mpr ⟨xcal_v (na := 1) (c12_isMan hX l) mf12_isMan ⟨rfl, rfl⟩ ml12_359 mi12_isMan me12_isMan (xrm_ok (by omega) (by decide)) rfl (by decide) (by decide +kernel), List.forall_mem_cons.mpr ⟨xcal_v (na := 0) (c12_guests hX l) mf12_guests ⟨rfl, rfl⟩ ml12_282 mi12_guests me12_guests (xrm_ok (by omega) (by decide)) rfl (by decide) (by decide +kernel), List.forall_mem_cons.mpr ⟨xcal_v (na := 3) (c12_couldCast hX l) mf12_couldCast ⟨rfl, rfl⟩ ml12_329 mi12_couldCast me12_couldCast (xrm_ok (by omega) (by decide)) rfl (by decide) (by decide +kernel), fun _ h => absurd h List.not_mem_nil⟩⟩⟩)
   (xrm_1 (by decide)) ⟨_, _, rfl, rfl⟩ (fun av μ r μ' h => by
    unfold F12_could at h
    split at h
    · replace h := cond_inv h; obtain ⟨hb, h⟩ := h
      simp only [Bool.and_eq_true] at hb
      obtain ⟨g0, g1⟩ := hb
      obtain rfl := Nat.eq_of_beq_eq_true g0
      obtain rfl := Nat.eq_of_beq_eq_true g1
      exact ⟨Nat.le_of_ble_eq_true rfl, (q12_could _ _ _).trans ((f12_could_e _ _).symm.trans h)⟩
    · cases h)
def t12_beltsFrom : List XE := [(0, .iload_n 1, 1, 0, 0, 0, []),
  (1, .aload_n 0, 0, 0, 0, 0, []),
  (2, .invokevirtual 301, 1, 12, 0, 0, []),
  (5, .if_icmp .ne 5, 10, 0, 0, 0, []),
  (8, .iconst 1, 0, 0, 1, 0, []),
  (9, .ireturn, 0, 0, 0, 0, []),
  (10, .iconst 0, 0, 0, 0, 0, []),
  (11, .istore_n 3, 3, 0, 0, 0, []),
  (12, .nop, 15, 0, 0, 0, []),
  (12, .iload_n 3, 3, 0, 0, 0, []),
  (13, .aload_n 0, 0, 0, 0, 0, []),
  (14, .invokevirtual 298, 1, 12, 0, 0, []),
  (17, .if_icmp .ge 67, 84, 0, 0, 0, []),
  (20, .aload_n 0, 0, 0, 0, 0, []),
  (21, .getfield 128, 12, 27, 0, 0, []),
  (24, .iload_n 1, 1, 0, 0, 0, []),
  (25, .iaload, 0, 0, 0, 0, []),
  (26, .ifCond .lt 58, 84, 0, 0, 0, []),
  (29, .iload_n 2, 2, 0, 0, 0, []),
  (30, .iload_n 3, 3, 0, 0, 0, []),
  (31, .ishr, 0, 0, 0, 0, []),
  (32, .iconst 1, 0, 0, 1, 0, []),
  (33, .iand, 0, 0, 0, 0, []),
  (34, .iconst 1, 0, 0, 1, 0, []),
  (35, .if_icmp .ne 43, 78, 0, 0, 0, []),
  (38, .aload_n 0, 0, 0, 0, 0, []),
  (39, .iload_n 3, 3, 0, 0, 0, []),
  (40, .aload_n 0, 0, 0, 0, 0, []),
  (41, .getfield 128, 12, 27, 0, 0, []),
  (44, .iload_n 1, 1, 0, 0, 0, []),
  (45, .iaload, 0, 0, 0, 0, []),
  (46, .invokevirtual 314, 3, 12, 0, 0, []),
  (49, .ifCond .eq 29, 78, 0, 0, 0, []),
  (52, .aload_n 0, 0, 0, 0, 0, []),
  (53, .getfield 131, 12, 28, 0, 0, []),
  (56, .iload_n 1, 1, 0, 0, 0, []),
  (57, .iload_n 3, 3, 0, 0, 0, []),
  (58, .iastore, 0, 0, 0, 0, []),
  (59, .aload_n 0, 0, 0, 0, 0, []),
  (60, .iload_n 1, 1, 0, 0, 0, []),
  (61, .iconst 1, 0, 0, 1, 0, []),
  (62, .iadd, 0, 0, 0, 0, []),
  (63, .iload_n 2, 2, 0, 0, 0, []),
  (64, .iconst 1, 0, 0, 1, 0, []),
  (65, .iload_n 3, 3, 0, 0, 0, []),
  (66, .ishl, 0, 0, 0, 0, []),
  (67, .iconst (-1), 0, 0, (-1), 0, []),
  (68, .ixor, 0, 0, 0, 0, []),
  (69, .iand, 0, 0, 0, 0, []),
  (70, .invokevirtual 400, 3, 12, 0, 0, []),
  (73, .ifCond .eq 5, 78, 0, 0, 0, []),
  (76, .iconst 1, 0, 0, 1, 0, []),
  (77, .ireturn, 0, 0, 0, 0, []),
  (78, .iinc 3 1, 3, 0, 1, 0, []),
  (81, .goto (-69), 12, 0, 0, 0, []),
  (84, .nop, 7, 0, 0, 0, []),
  (84, .aload_n 0, 0, 0, 0, 0, []),
  (85, .getfield 131, 12, 28, 0, 0, []),
  (88, .iload_n 1, 1, 0, 0, 0, []),
  (89, .iconst (-1), 0, 0, (-1), 0, []),
  (90, .iastore, 0, 0, 0, 0, []),
  (91, .aload_n 0, 0, 0, 0, 0, []),
  (92, .getfield 128, 12, 27, 0, 0, []),
  (95, .iload_n 1, 1, 0, 0, 0, []),
  (96, .iaload, 0, 0, 0, 0, []),
  (97, .ifCond .ge 18, 115, 0, 0, 0, []),
  (100, .aload_n 0, 0, 0, 0, 0, []),
  (101, .iload_n 1, 1, 0, 0, 0, []),
  (102, .iconst 1, 0, 0, 1, 0, []),
  (103, .iadd, 0, 0, 0, 0, []),
  (104, .iload_n 2, 2, 0, 0, 0, []),
  (105, .invokevirtual 400, 3, 12, 0, 0, []),
  (108, .ifCond .eq 7, 115, 0, 0, 0, []),
  (111, .iconst 1, 0, 0, 1, 0, []),
  (112, .goto 4, 116, 0, 0, 0, []),
  (115, .iconst 0, 0, 0, 0, 0, []),
  (116, .ireturn, 0, 0, 0, 0, [])]
noncomputable def e12_beltsFrom (w : Nat → XF) : XN := [(301, 1, 1, 12, F12_men), (298, 1, 1, 12, F12_belts), (314, 1, 3, 12, F12_doesBear), (400, 1, 3, 12, (w 0))]
noncomputable def W12_beltsFrom (N : Nat) (w : Nat → XF) : XF := fun av μ => match av with
  | [.inr (.inr (some (t0, i0, 0))), .inl p1, .inl p2] => bif Nat.beq t0 12 && Nat.beq i0 0 then xrun t12_beltsFrom (e12_beltsFrom w) (xrtk (some .boolean)) 82 N (xlo [xr 12 0 0, xi p1, xi p2] 4) μ else none
  | _ => none
noncomputable def G5 (N d : Nat) : Nat → XF := Nat.rec (fun _ _ _ => none) (fun _ w k => match k with
  | 0 => W12_beltsFrom N w
  | _ => fun _ _ => none) d
noncomputable def f12_beltsFrom (N d : Nat) (p1 : Int32) (p2 : Int32) (μ : XM) : XR := G5 N d 0 [xr 12 0 0, xi p1, xi p2] μ
noncomputable def h12_beltsFrom_12 (N d n : Nat) (v1 : Int32) (v2 : Int32) (v3 : Int32) (μ : XM) : XR := arr t12_beltsFrom (e12_beltsFrom (G5 N d)) 2 82 n 12 [some (xr 12 0 0), some (xi v1), some (xi v2), some (xi v3)] [] μ
noncomputable def h12_beltsFrom_84 (N d n : Nat) (v1 : Int32) (v2 : Int32) (μ : XM) : XR := arr t12_beltsFrom (e12_beltsFrom (G5 N d)) 2 82 n 84 [some (xr 12 0 0), some (xi v1), some (xi v2), none] [] μ
set_option maxRecDepth 100000 in
theorem h12_beltsFrom_12_s (N d n : Nat) (v1 : Int32) (v2 : Int32) (v3 : Int32) (μ : XM) : h12_beltsFrom_12 N d (n + 1) v1 v2 v3 μ = (
  bI (f12_belts μ) fun r2 m1 =>
  xite (v3 < r2) (
    xck (xin v1 3) <|
    xite ((aI m1 12 0 27 (Int32.toNatClampNeg v1)) < 0) (
      h12_beltsFrom_84 N d n v1 v2 m1) (
      xite (((v2 >>> (v3 &&& 31)) &&& 1) = 1) (
        xck (xin v1 3) <|
        bI (f12_doesBear v3 (aI m1 12 0 27 (Int32.toNatClampNeg v1)) m1) fun r4 m3 =>
        xite (r4 = 0) (
          vI (v3 + 1) fun x5 =>
          h12_beltsFrom_12 N d n v1 v2 x5 m3) (
          xck (xin v1 3 && true) <|
          mS (pI m3 12 0 28 (Int32.toNatClampNeg v1) v3) fun m6 =>
          bI (f12_beltsFrom N d (v1 + 1) (v2 &&& ((1 <<< (v3 &&& 31)) ^^^ (-1))) m6) fun r8 m7 =>
          xite (r8 = 0) (
            vI (v3 + 1) fun x9 =>
            h12_beltsFrom_12 N d n v1 v2 x9 m7) (
            xrb 1 m7))) (
        vI (v3 + 1) fun x10 =>
        h12_beltsFrom_12 N d n v1 v2 x10 m1))) (
    h12_beltsFrom_84 N d n v1 v2 m1)) := rfl
set_option maxRecDepth 100000 in
theorem h12_beltsFrom_84_s (N d n : Nat) (v1 : Int32) (v2 : Int32) (μ : XM) : h12_beltsFrom_84 N d (n + 1) v1 v2 μ = (
  xck (xin v1 3 && true) <|
  mS (pI μ 12 0 28 (Int32.toNatClampNeg v1) (-1)) fun m1 =>
  xck (xin v1 3) <|
  xite ((aI m1 12 0 27 (Int32.toNatClampNeg v1)) < 0) (
    bI (f12_beltsFrom N d (v1 + 1) v2 m1) fun r3 m2 =>
    xite (r3 = 0) (
      xrb 0 m2) (
      xrb 1 m2)) (
    xrb 0 m1)) := rfl
set_option maxRecDepth 100000 in
theorem f12_beltsFrom_s (N d : Nat) (p1 : Int32) (p2 : Int32) (μ : XM) : f12_beltsFrom N (d + 1) p1 p2 μ = (
  bI (f12_men μ) fun r2 m1 =>
  xite (p1 = r2) (
    xrb 1 m1) (
    vI 0 fun x3 =>
    h12_beltsFrom_12 N d N p1 p2 x3 m1)) := rfl
theorem f12_beltsFrom_0 (N : Nat) (p1 : Int32) (p2 : Int32) (μ : XM) : f12_beltsFrom N 0 p1 p2 μ = none := rfl
set_option maxRecDepth 100000 in
theorem cG5 {X : XP} (hX : XOK X) (l : Launch) : ∀ d : Nat, Ctr X l y12_beltsFrom prog_14_method_99_code 4 (some .boolean) (xrm (4 + d)) 0 0 (G5 20000 d 0) := by
  intro d
  induction d with
  | zero => exact (fun av μ r μ' _ h => by cases h)
  | succ d ih =>
    exact Ctr_of (tab := t12_beltsFrom) (env := e12_beltsFrom (G5 20000 d)) (K := 82) (N := 20000) (fl := fl12) (cl := cl12) (ll := ll12) (jl := jl12) hX mf12_beltsFrom.2.2.2 ⟨by decide +kernel, flk12, clk12, llk12, jlk12⟩
      (List.forall_mem_cons.mpr ⟨xcal_v (na := 0) (c12_men hX l) mf12_men ⟨rfl, rfl⟩ ml12_301 mi12_men me12_men (xrm_ok (by omega) (by decide)) rfl (by decide) (by decide +kernel), List.forall_mem_cons.mpr ⟨xcal_v (na := 0) (c12_belts hX l) mf12_belts ⟨rfl, rfl⟩ ml12_298 mi12_belts me12_belts (xrm_ok (by omega) (by decide)) rfl (by decide) (by decide +kernel), List.forall_mem_cons.mpr ⟨xcal_v (na := 2) (c12_doesBear hX l) mf12_doesBear ⟨rfl, rfl⟩ ml12_314 mi12_doesBear me12_doesBear (xrm_ok (by omega) (by decide)) rfl (by decide) (by decide +kernel), List.forall_mem_cons.mpr ⟨xcal_v (na := 2) (ih) mf12_beltsFrom ⟨rfl, rfl⟩ ml12_400 mi12_beltsFrom me12_beltsFrom (xrm_ok (by omega) (by decide)) rfl (by decide) (by decide +kernel), fun _ h => absurd h List.not_mem_nil⟩⟩⟩⟩)
      (xrm_1 (by omega)) ⟨_, _, rfl, rfl⟩ (fun av μ r μ' h => by
        replace h : W12_beltsFrom 20000 (G5 20000 d) av μ = some (r, μ') := h
        unfold W12_beltsFrom at h
        split at h
        · replace h := cond_inv h; obtain ⟨hb, h⟩ := h
          simp only [Bool.and_eq_true] at hb
          obtain ⟨g0, g1⟩ := hb
          obtain rfl := Nat.eq_of_beq_eq_true g0
          obtain rfl := Nat.eq_of_beq_eq_true g1
          exact ⟨Nat.le_of_ble_eq_true rfl, h⟩
        · cases h)
def t12_castsFrom : List XE := [(0, .iload_n 1, 1, 0, 0, 0, []),
  (1, .aload_n 0, 0, 0, 0, 0, []),
  (2, .invokevirtual 301, 1, 12, 0, 0, []),
  (5, .if_icmp .ne 73, 78, 0, 0, 0, []),
  (8, .iload_n 2, 2, 0, 0, 0, []),
  (9, .invokestatic 347, 1, 0, 0, 0, []),
  (12, .aload_n 0, 0, 0, 0, 0, []),
  (13, .getfield 403, 12, 31, 0, 0, []),
  (16, .if_icmp .le 61, 77, 0, 0, 0, []),
  (19, .aload_n 0, 0, 0, 0, 0, []),
  (20, .iconst 0, 0, 0, 0, 0, []),
  (21, .aload_n 0, 0, 0, 0, 0, []),
  (22, .iconst 0, 0, 0, 0, 0, []),
  (23, .invokevirtual 332, 2, 12, 0, 0, []),
  (26, .invokevirtual 400, 3, 12, 0, 0, []),
  (29, .ifCond .eq 48, 77, 0, 0, 0, []),
  (32, .aload_n 0, 0, 0, 0, 0, []),
  (33, .iload_n 2, 2, 0, 0, 0, []),
  (34, .invokestatic 347, 1, 0, 0, 0, []),
  (37, .putfield 403, 12, 31, 0, 0, []),
  (40, .iconst 0, 0, 0, 0, 0, []),
  (41, .istore_n 3, 3, 0, 0, 0, []),
  (42, .nop, 9, 0, 0, 0, []),
  (42, .iload_n 3, 3, 0, 0, 0, []),
  (43, .iconst 3, 0, 0, 3, 0, []),
  (44, .if_icmp .ge 33, 77, 0, 0, 0, []),
  (47, .aload_n 0, 0, 0, 0, 0, []),
  (48, .getfield 134, 12, 29, 0, 0, []),
  (51, .iload_n 3, 3, 0, 0, 0, []),
  (52, .aload_n 0, 0, 0, 0, 0, []),
  (53, .getfield 128, 12, 27, 0, 0, []),
  (56, .iload_n 3, 3, 0, 0, 0, []),
  (57, .iaload, 0, 0, 0, 0, []),
  (58, .iastore, 0, 0, 0, 0, []),
  (59, .aload_n 0, 0, 0, 0, 0, []),
  (60, .getfield 137, 12, 30, 0, 0, []),
  (63, .iload_n 3, 3, 0, 0, 0, []),
  (64, .aload_n 0, 0, 0, 0, 0, []),
  (65, .getfield 131, 12, 28, 0, 0, []),
  (68, .iload_n 3, 3, 0, 0, 0, []),
  (69, .iaload, 0, 0, 0, 0, []),
  (70, .iastore, 0, 0, 0, 0, []),
  (71, .iinc 3 1, 3, 0, 1, 0, []),
  (74, .goto (-32), 42, 0, 0, 0, []),
  (77, .return_, 0, 0, 0, 0, []),
  (78, .iconst 0, 0, 0, 0, 0, []),
  (79, .istore_n 3, 3, 0, 0, 0, []),
  (80, .nop, 15, 0, 0, 0, []),
  (80, .iload_n 3, 3, 0, 0, 0, []),
  (81, .aload_n 0, 0, 0, 0, 0, []),
  (82, .invokevirtual 282, 1, 12, 0, 0, []),
  (85, .if_icmp .ge 55, 140, 0, 0, 0, []),
  (88, .iload_n 2, 2, 0, 0, 0, []),
  (89, .iload_n 3, 3, 0, 0, 0, []),
  (90, .ishr, 0, 0, 0, 0, []),
  (91, .iconst 1, 0, 0, 1, 0, []),
  (92, .iand, 0, 0, 0, 0, []),
  (93, .ifCond .ne 41, 134, 0, 0, 0, []),
  (96, .aload_n 0, 0, 0, 0, 0, []),
  (97, .iconst 0, 0, 0, 0, 0, []),
  (98, .iload_n 1, 1, 0, 0, 0, []),
  (99, .iload_n 3, 3, 0, 0, 0, []),
  (100, .invokevirtual 329, 4, 12, 0, 0, []),
  (103, .ifCond .eq 31, 134, 0, 0, 0, []),
  (106, .aload_n 0, 0, 0, 0, 0, []),
  (107, .iconst 0, 0, 0, 0, 0, []),
  (108, .iload_n 3, 3, 0, 0, 0, []),
  (109, .invokevirtual 317, 3, 12, 0, 0, []),
  (112, .ifCond .eq 22, 134, 0, 0, 0, []),
  (115, .aload_n 0, 0, 0, 0, 0, []),
  (116, .getfield 128, 12, 27, 0, 0, []),
  (119, .iload_n 1, 1, 0, 0, 0, []),
  (120, .iload_n 3, 3, 0, 0, 0, []),
  (121, .iastore, 0, 0, 0, 0, []),
  (122, .aload_n 0, 0, 0, 0, 0, []),
  (123, .iload_n 1, 1, 0, 0, 0, []),
  (124, .iconst 1, 0, 0, 1, 0, []),
  (125, .iadd, 0, 0, 0, 0, []),
  (126, .iload_n 2, 2, 0, 0, 0, []),
  (127, .iconst 1, 0, 0, 1, 0, []),
  (128, .iload_n 3, 3, 0, 0, 0, []),
  (129, .ishl, 0, 0, 0, 0, []),
  (130, .ior, 0, 0, 0, 0, []),
  (131, .invokevirtual 406, 3, 12, 0, 0, []),
  (134, .iinc 3 1, 3, 0, 1, 0, []),
  (137, .goto (-57), 80, 0, 0, 0, []),
  (140, .aload_n 0, 0, 0, 0, 0, []),
  (141, .getfield 128, 12, 27, 0, 0, []),
  (144, .iload_n 1, 1, 0, 0, 0, []),
  (145, .iconst (-1), 0, 0, (-1), 0, []),
  (146, .iastore, 0, 0, 0, 0, []),
  (147, .aload_n 0, 0, 0, 0, 0, []),
  (148, .iload_n 1, 1, 0, 0, 0, []),
  (149, .iconst 1, 0, 0, 1, 0, []),
  (150, .iadd, 0, 0, 0, 0, []),
  (151, .iload_n 2, 2, 0, 0, 0, []),
  (152, .invokevirtual 406, 3, 12, 0, 0, []),
  (155, .return_, 0, 0, 0, 0, [])]
noncomputable def e12_castsFrom (w : Nat → XF) : XN := [(301, 1, 1, 12, F12_men), (347, 1, 1, 99, F12_bits), (332, 1, 2, 12, F12_wall), (400, 1, 3, 12, (G5 20000 64 0)), (282, 1, 1, 12, F12_guests), (329, 1, 4, 12, F12_couldCast), (317, 1, 3, 12, F12_doesCry), (406, 0, 3, 12, (w 0))]
noncomputable def W12_castsFrom (N : Nat) (w : Nat → XF) : XF := fun av μ => match av with
  | [.inr (.inr (some (t0, i0, 0))), .inl p1, .inl p2] => bif Nat.beq t0 12 && Nat.beq i0 0 then xrun t12_castsFrom (e12_castsFrom w) (xrtk none) 103 N (xlo [xr 12 0 0, xi p1, xi p2] 4) μ else none
  | _ => none
noncomputable def G4 (N d : Nat) : Nat → XF := Nat.rec (fun _ _ _ => none) (fun _ w k => match k with
  | 0 => W12_castsFrom N w
  | _ => fun _ _ => none) d
noncomputable def f12_castsFrom (N d : Nat) (p1 : Int32) (p2 : Int32) (μ : XM) : XR := G4 N d 0 [xr 12 0 0, xi p1, xi p2] μ
noncomputable def h12_castsFrom_80 (N d n : Nat) (v1 : Int32) (v2 : Int32) (v3 : Int32) (μ : XM) : XR := arr t12_castsFrom (e12_castsFrom (G4 N d)) 0 103 n 80 [some (xr 12 0 0), some (xi v1), some (xi v2), some (xi v3)] [] μ
noncomputable def h12_castsFrom_42 (N d n : Nat) (v3 : Int32) (μ : XM) : XR := arr t12_castsFrom (e12_castsFrom (G4 N d)) 0 103 n 42 [some (xr 12 0 0), none, none, some (xi v3)] [] μ
set_option maxRecDepth 100000 in
theorem h12_castsFrom_80_s (N d n : Nat) (v1 : Int32) (v2 : Int32) (v3 : Int32) (μ : XM) : h12_castsFrom_80 N d (n + 1) v1 v2 v3 μ = (
  bI (f12_guests μ) fun r2 m1 =>
  xite (v3 < r2) (
    xite (((v2 >>> (v3 &&& 31)) &&& 1) = 0) (
      bI (f12_couldCast 0 v1 v3 m1) fun r4 m3 =>
      xite (r4 = 0) (
        vI (v3 + 1) fun x5 =>
        h12_castsFrom_80 N d n v1 v2 x5 m3) (
        bI (f12_doesCry 0 v3 m3) fun r7 m6 =>
        xite (r7 = 0) (
          vI (v3 + 1) fun x8 =>
          h12_castsFrom_80 N d n v1 v2 x8 m6) (
          xck (xin v1 3 && true) <|
          mS (pI m6 12 0 27 (Int32.toNatClampNeg v1) v3) fun m9 =>
          bV (f12_castsFrom N d (v1 + 1) (v2 ||| (1 <<< (v3 &&& 31))) m9) fun m10 =>
          vI (v3 + 1) fun x11 =>
          h12_castsFrom_80 N d n v1 v2 x11 m10))) (
      vI (v3 + 1) fun x12 =>
      h12_castsFrom_80 N d n v1 v2 x12 m1)) (
    xck (xin v1 3 && true) <|
    mS (pI m1 12 0 27 (Int32.toNatClampNeg v1) (-1)) fun m13 =>
    bV (f12_castsFrom N d (v1 + 1) v2 m13) fun m14 =>
    xrv m14)) := rfl
set_option maxRecDepth 100000 in
theorem h12_castsFrom_42_s (N d n : Nat) (v3 : Int32) (μ : XM) : h12_castsFrom_42 N d (n + 1) v3 μ = (
  xite (v3 < 3) (
    xck (xin v3 3) <|
    xck (xin v3 3 && true) <|
    mS (pI μ 12 0 29 (Int32.toNatClampNeg v3) (aI μ 12 0 27 (Int32.toNatClampNeg v3))) fun m1 =>
    xck (xin v3 3) <|
    xck (xin v3 3 && true) <|
    mS (pI m1 12 0 30 (Int32.toNatClampNeg v3) (aI m1 12 0 28 (Int32.toNatClampNeg v3))) fun m2 =>
    vI (v3 + 1) fun x3 =>
    h12_castsFrom_42 N d n x3 m2) (
    xrv μ)) := rfl
set_option maxRecDepth 100000 in
theorem f12_castsFrom_s (N d : Nat) (p1 : Int32) (p2 : Int32) (μ : XM) : f12_castsFrom N (d + 1) p1 p2 μ = (
  bI (f12_men μ) fun r2 m1 =>
  xite (p1 = r2) (
    bI (f12_bits p2 m1) fun r4 m3 =>
    xite ((rI m3 12 0 31) < r4) (
      bI (f12_wall 0 m3) fun r6 m5 =>
      bI (f12_beltsFrom 20000 64 0 r6 m5) fun r8 m7 =>
      xite (r8 = 0) (
        xrv m7) (
        bI (f12_bits p2 m7) fun r10 m9 =>
        mS (sI m9 12 0 31 r10) fun m11 =>
        vI 0 fun x12 =>
        h12_castsFrom_42 N d N x12 m11)) (
      xrv m3)) (
    vI 0 fun x13 =>
    h12_castsFrom_80 N d N p1 p2 x13 m1)) := rfl
theorem f12_castsFrom_0 (N : Nat) (p1 : Int32) (p2 : Int32) (μ : XM) : f12_castsFrom N 0 p1 p2 μ = none := rfl
set_option maxRecDepth 100000 in
theorem cG4 {X : XP} (hX : XOK X) (l : Launch) : ∀ d : Nat, Ctr X l y12_castsFrom prog_14_method_100_code 4 none (xrm (69 + d)) 0 0 (G4 20000 d 0) := by
  intro d
  induction d with
  | zero => exact (fun av μ r μ' _ h => by cases h)
  | succ d ih =>
    exact Ctr_of (tab := t12_castsFrom) (env := e12_castsFrom (G4 20000 d)) (K := 103) (N := 20000) (fl := fl12) (cl := cl12) (ll := ll12) (jl := jl12) hX mf12_castsFrom.2.2.2 ⟨by decide +kernel, flk12, clk12, llk12, jlk12⟩
      (List.forall_mem_cons.mpr ⟨xcal_v (na := 0) (c12_men hX l) mf12_men ⟨rfl, rfl⟩ ml12_301 mi12_men me12_men (xrm_ok (by omega) (by decide)) rfl (by decide) (by decide +kernel), List.forall_mem_cons.mpr ⟨xcal_s (c12_bits hX l) mf12_bits ⟨rfl, rfl⟩ ml12_347 ms12_bits (xrm_ok (by omega) (by decide)) (by decide +kernel), List.forall_mem_cons.mpr ⟨xcal_v (na := 1) (c12_wall hX l) mf12_wall ⟨rfl, rfl⟩ ml12_332 mi12_wall me12_wall (xrm_ok (by omega) (by decide)) rfl (by decide) (by decide +kernel), List.forall_mem_cons.mpr ⟨xcal_v (na := 2) ((cG5 hX l 64)) mf12_beltsFrom ⟨rfl, rfl⟩ ml12_400 mi12_beltsFrom me12_beltsFrom (xrm_ok (by omega) (by decide)) rfl (by decide) (by decide +kernel), List.forall_mem_cons.mpr ⟨xcal_v (na := 0) (c12_guests hX l) mf12_guests ⟨rfl, rfl⟩ ml12_282 mi12_guests me12_guests (xrm_ok (by omega) (by decide)) rfl (by decide) (by decide +kernel), List.forall_mem_cons.mpr ⟨xcal_v (na := 3) (c12_couldCast hX l) mf12_couldCast ⟨rfl, rfl⟩ ml12_329 mi12_couldCast me12_couldCast (xrm_ok (by omega) (by decide)) rfl (by decide) (by decide +kernel), List.forall_mem_cons.mpr ⟨xcal_v (na := 2) (c12_doesCry hX l) mf12_doesCry ⟨rfl, rfl⟩ ml12_317 mi12_doesCry me12_doesCry (xrm_ok (by omega) (by decide)) rfl (by decide) (by decide +kernel), List.forall_mem_cons.mpr ⟨xcal_v (na := 2) (ih) mf12_castsFrom ⟨rfl, rfl⟩ ml12_406 mi12_castsFrom me12_castsFrom (xrm_ok (by omega) (by decide)) rfl (by decide) (by decide +kernel), fun _ h => absurd h List.not_mem_nil⟩⟩⟩⟩⟩⟩⟩⟩)
      (xrm_1 (by omega)) ⟨_, _, rfl, rfl⟩ (fun av μ r μ' h => by
        replace h : W12_castsFrom 20000 (G4 20000 d) av μ = some (r, μ') := h
        unfold W12_castsFrom at h
        split at h
        · replace h := cond_inv h; obtain ⟨hb, h⟩ := h
          simp only [Bool.and_eq_true] at hb
          obtain ⟨g0, g1⟩ := hb
          obtain rfl := Nat.eq_of_beq_eq_true g0
          obtain rfl := Nat.eq_of_beq_eq_true g1
          exact ⟨Nat.le_of_ble_eq_true rfl, h⟩
        · cases h)
def t12_best : List XE := [(0, .aload_n 0, 0, 0, 0, 0, []),
  (1, .iconst 0, 0, 0, 0, 0, []),
  (2, .putfield 1, 12, 0, 0, 0, []),
  (5, .iload_n 1, 1, 0, 0, 0, []),
  (6, .iconst (-1), 0, 0, (-1), 0, []),
  (7, .if_icmp .eq 14, 21, 0, 0, 0, []),
  (10, .aload_n 0, 0, 0, 0, 0, []),
  (11, .iload_n 1, 1, 0, 0, 0, []),
  (12, .invokevirtual 359, 2, 12, 0, 0, []),
  (15, .ifCond .ne 6, 21, 0, 0, 0, []),
  (18, .bipush (-2), 0, 0, (-2), 0, []),
  (20, .ireturn, 0, 0, 0, 0, []),
  (21, .nop, 3, 0, 0, 0, []),
  (21, .aload_n 0, 0, 0, 0, 0, []),
  (22, .iconst (-1), 0, 0, (-1), 0, []),
  (23, .putfield 403, 12, 31, 0, 0, []),
  (26, .aload_n 0, 0, 0, 0, 0, []),
  (27, .iconst 0, 0, 0, 0, 0, []),
  (28, .iconst 0, 0, 0, 0, 0, []),
  (29, .invokevirtual 406, 3, 12, 0, 0, []),
  (32, .iload_n 1, 1, 0, 0, 0, []),
  (33, .iconst (-1), 0, 0, (-1), 0, []),
  (34, .if_icmp .ne 10, 44, 0, 0, 0, []),
  (37, .aload_n 0, 0, 0, 0, 0, []),
  (38, .getfield 403, 12, 31, 0, 0, []),
  (41, .goto 9, 50, 0, 0, 0, []),
  (44, .aload_n 0, 0, 0, 0, 0, []),
  (45, .getfield 134, 12, 29, 0, 0, []),
  (48, .iload_n 1, 1, 0, 0, 0, []),
  (49, .iaload, 0, 0, 0, 0, []),
  (50, .ireturn, 0, 0, 0, 0, [])]
noncomputable def e12_best : XN := [(359, 1, 2, 12, F12_isMan), (406, 0, 3, 12, (G4 20000 64 0))]
noncomputable def h12_best_21 (n : Nat) (v1 : Int32) (μ : XM) : XR := arr t12_best e12_best 1 36 n 21 [some (xr 12 0 0), some (xi v1)] [] μ
set_option maxRecDepth 100000 in
theorem h12_best_21_s (n : Nat) (v1 : Int32) (μ : XM) : h12_best_21 (n + 1) v1 μ = (
  mS (sI μ 12 0 31 (-1)) fun m1 =>
  bV (f12_castsFrom 20000 64 0 0 m1) fun m2 =>
  xite (v1 = (-1)) (
    xri (rI m2 12 0 31) m2) (
    xck (xin v1 3) <|
    xri (aI m2 12 0 29 (Int32.toNatClampNeg v1)) m2)) := rfl
theorem h12_best_21_0 (v1 : Int32) (μ : XM) : h12_best_21 0 v1 μ = none := rfl
noncomputable def k12_best (n : Nat) (p1 : Int32) (μ : XM) : XR :=
  mS (sI μ 12 0 0 0) fun m1 =>
  xite (p1 = (-1)) (
    h12_best_21 n p1 m1) (
    bI (f12_isMan p1 m1) fun r3 m2 =>
    xite (r3 = 0) (
      xri (-2) m2) (
      h12_best_21 n p1 m2))
set_option maxRecDepth 100000 in
theorem q12_best (n : Nat) (p1 : Int32) (μ : XM) : xrun t12_best e12_best (xrtk (some .int)) 36 n (xlo [xr 12 0 0, xi p1] 2) μ = k12_best n p1 μ := rfl
theorem x12_best : ∃ f : Int32 → XM → XR, ∀ (p1 : Int32) (μ : XM), f p1 μ = k12_best 20000 p1 μ := ⟨fun p1 μ => k12_best 20000 p1 μ, fun p1 μ => rfl⟩
noncomputable def f12_best : Int32 → XM → XR := Classical.choose x12_best
theorem f12_best_e (p1 : Int32) (μ : XM) : f12_best p1 μ = k12_best 20000 p1 μ := Classical.choose_spec x12_best p1 μ
noncomputable def F12_best : XF := fun av μ => match av with
  | [.inr (.inr (some (t0, i0, 0))), .inl p1] => bif Nat.beq t0 12 && Nat.beq i0 0 then f12_best p1 μ else none
  | _ => none
set_option maxRecDepth 100000 in
theorem c12_best {X : XP} (hX : XOK X) (l : Launch) : Ctr X l y12_best prog_14_method_101_code 2 (some .int) (xrm 134) 0 0 F12_best :=
  Ctr_of (tab := t12_best) (env := e12_best) (K := 36) (N := 20000) (fl := fl12) (cl := cl12) (ll := ll12) (jl := jl12) hX mf12_best.2.2.2 ⟨by decide +kernel, flk12, clk12, llk12, jlk12⟩
   (List.forall_mem_cons.mpr ⟨xcal_v (na := 1) (c12_isMan hX l) mf12_isMan ⟨rfl, rfl⟩ ml12_359 mi12_isMan me12_isMan (xrm_ok (by omega) (by decide)) rfl (by decide) (by decide +kernel), List.forall_mem_cons.mpr ⟨xcal_v (na := 2) ((cG4 hX l 64)) mf12_castsFrom ⟨rfl, rfl⟩ ml12_406 mi12_castsFrom me12_castsFrom (xrm_ok (by omega) (by decide)) rfl (by decide) (by decide +kernel), fun _ h => absurd h List.not_mem_nil⟩⟩)
   (xrm_1 (by decide)) ⟨_, _, rfl, rfl⟩ (fun av μ r μ' h => by
    unfold F12_best at h
    split at h
    · replace h := cond_inv h; obtain ⟨hb, h⟩ := h
      simp only [Bool.and_eq_true] at hb
      obtain ⟨g0, g1⟩ := hb
      obtain rfl := Nat.eq_of_beq_eq_true g0
      obtain rfl := Nat.eq_of_beq_eq_true g1
      exact ⟨Nat.le_of_ble_eq_true rfl, (q12_best _ _ _).trans ((f12_best_e _ _).symm.trans h)⟩
    · cases h)
def t12_with : List XE := [(0, .aload_n 0, 0, 0, 0, 0, []),
  (1, .iconst 0, 0, 0, 0, 0, []),
  (2, .putfield 1, 12, 0, 0, 0, []),
  (5, .aload_n 0, 0, 0, 0, 0, []),
  (6, .iload_n 1, 1, 0, 0, 0, []),
  (7, .invokevirtual 359, 2, 12, 0, 0, []),
  (10, .ifCond .ne 6, 16, 0, 0, 0, []),
  (13, .bipush (-2), 0, 0, (-2), 0, []),
  (15, .ireturn, 0, 0, 0, 0, []),
  (16, .aload_n 0, 0, 0, 0, 0, []),
  (17, .iconst (-1), 0, 0, (-1), 0, []),
  (18, .putfield 403, 12, 31, 0, 0, []),
  (21, .aload_n 0, 0, 0, 0, 0, []),
  (22, .iconst 0, 0, 0, 0, 0, []),
  (23, .iconst 0, 0, 0, 0, 0, []),
  (24, .invokevirtual 406, 3, 12, 0, 0, []),
  (27, .aload_n 0, 0, 0, 0, 0, []),
  (28, .getfield 137, 12, 30, 0, 0, []),
  (31, .iload_n 1, 1, 0, 0, 0, []),
  (32, .iaload, 0, 0, 0, 0, []),
  (33, .ireturn, 0, 0, 0, 0, [])]
noncomputable def e12_with : XN := [(359, 1, 2, 12, F12_isMan), (406, 0, 3, 12, (G4 20000 64 0))]
noncomputable def k12_with (p1 : Int32) (μ : XM) : XR :=
  mS (sI μ 12 0 0 0) fun m1 =>
  bI (f12_isMan p1 m1) fun r3 m2 =>
  xite (r3 = 0) (
    xri (-2) m2) (
    mS (sI m2 12 0 31 (-1)) fun m4 =>
    bV (f12_castsFrom 20000 64 0 0 m4) fun m5 =>
    xck (xin p1 3) <|
    xri (aI m5 12 0 30 (Int32.toNatClampNeg p1)) m5)
set_option maxRecDepth 100000 in
theorem q12_with (n : Nat) (p1 : Int32) (μ : XM) : xrun t12_with e12_with (xrtk (some .int)) 26 n (xlo [xr 12 0 0, xi p1] 2) μ = k12_with p1 μ := rfl
theorem x12_with : ∃ f : Int32 → XM → XR, ∀ (p1 : Int32) (μ : XM), f p1 μ = k12_with p1 μ := ⟨fun p1 μ => k12_with p1 μ, fun p1 μ => rfl⟩
noncomputable def f12_with : Int32 → XM → XR := Classical.choose x12_with
theorem f12_with_e (p1 : Int32) (μ : XM) : f12_with p1 μ = k12_with p1 μ := Classical.choose_spec x12_with p1 μ
noncomputable def F12_with : XF := fun av μ => match av with
  | [.inr (.inr (some (t0, i0, 0))), .inl p1] => bif Nat.beq t0 12 && Nat.beq i0 0 then f12_with p1 μ else none
  | _ => none
set_option maxRecDepth 100000 in
theorem c12_with {X : XP} (hX : XOK X) (l : Launch) : Ctr X l y12_with prog_14_method_102_code 2 (some .int) (xrm 134) 0 0 F12_with :=
  Ctr_of (tab := t12_with) (env := e12_with) (K := 26) (N := 20000) (fl := fl12) (cl := cl12) (ll := ll12) (jl := jl12) hX mf12_with.2.2.2 ⟨by decide +kernel, flk12, clk12, llk12, jlk12⟩
   (List.forall_mem_cons.mpr ⟨xcal_v (na := 1) (c12_isMan hX l) mf12_isMan ⟨rfl, rfl⟩ ml12_359 mi12_isMan me12_isMan (xrm_ok (by omega) (by decide)) rfl (by decide) (by decide +kernel), List.forall_mem_cons.mpr ⟨xcal_v (na := 2) ((cG4 hX l 64)) mf12_castsFrom ⟨rfl, rfl⟩ ml12_406 mi12_castsFrom me12_castsFrom (xrm_ok (by omega) (by decide)) rfl (by decide) (by decide +kernel), fun _ h => absurd h List.not_mem_nil⟩⟩)
   (xrm_1 (by decide)) ⟨_, _, rfl, rfl⟩ (fun av μ r μ' h => by
    unfold F12_with at h
    split at h
    · replace h := cond_inv h; obtain ⟨hb, h⟩ := h
      simp only [Bool.and_eq_true] at hb
      obtain ⟨g0, g1⟩ := hb
      obtain rfl := Nat.eq_of_beq_eq_true g0
      obtain rfl := Nat.eq_of_beq_eq_true g1
      exact ⟨Nat.le_of_ble_eq_true rfl, (q12_with _ _ _).trans ((f12_with_e _ _).symm.trans h)⟩
    · cases h)
def t12_doesHold : List XE := [(0, .iload_n 1, 1, 0, 0, 0, []),
  (1, .ifCond .ne 5, 6, 0, 0, 0, []),
  (4, .iconst 1, 0, 0, 1, 0, []),
  (5, .ireturn, 0, 0, 0, 0, []),
  (6, .iconst 0, 0, 0, 0, 0, []),
  (7, .istore_n 3, 3, 0, 0, 0, []),
  (8, .nop, 15, 0, 0, 0, []),
  (8, .iload_n 1, 1, 0, 0, 0, []),
  (9, .iload_n 3, 3, 0, 0, 0, []),
  (10, .ishr, 0, 0, 0, 0, []),
  (11, .iconst 1, 0, 0, 1, 0, []),
  (12, .iand, 0, 0, 0, 0, []),
  (13, .ifCond .ne 9, 22, 0, 0, 0, []),
  (16, .iinc 3 1, 3, 0, 1, 0, []),
  (19, .goto (-11), 8, 0, 0, 0, []),
  (22, .iconst 0, 0, 0, 0, 0, []),
  (23, .istore 4, 4, 0, 0, 0, []),
  (25, .nop, 31, 0, 0, 0, []),
  (25, .iload 4, 4, 0, 0, 0, []),
  (27, .aload_n 0, 0, 0, 0, 0, []),
  (28, .invokevirtual 298, 1, 12, 0, 0, []),
  (31, .if_icmp .ge 53, 84, 0, 0, 0, []),
  (34, .iload_n 2, 2, 0, 0, 0, []),
  (35, .iload 4, 4, 0, 0, 0, []),
  (37, .ishr, 0, 0, 0, 0, []),
  (38, .iconst 1, 0, 0, 1, 0, []),
  (39, .iand, 0, 0, 0, 0, []),
  (40, .iconst 1, 0, 0, 1, 0, []),
  (41, .if_icmp .ne 37, 78, 0, 0, 0, []),
  (44, .aload_n 0, 0, 0, 0, 0, []),
  (45, .iload 4, 4, 0, 0, 0, []),
  (47, .iload_n 3, 3, 0, 0, 0, []),
  (48, .invokevirtual 314, 3, 12, 0, 0, []),
  (51, .ifCond .eq 27, 78, 0, 0, 0, []),
  (54, .aload_n 0, 0, 0, 0, 0, []),
  (55, .iload_n 1, 1, 0, 0, 0, []),
  (56, .iconst 1, 0, 0, 1, 0, []),
  (57, .iload_n 3, 3, 0, 0, 0, []),
  (58, .ishl, 0, 0, 0, 0, []),
  (59, .iconst (-1), 0, 0, (-1), 0, []),
  (60, .ixor, 0, 0, 0, 0, []),
  (61, .iand, 0, 0, 0, 0, []),
  (62, .iload_n 2, 2, 0, 0, 0, []),
  (63, .iconst 1, 0, 0, 1, 0, []),
  (64, .iload 4, 4, 0, 0, 0, []),
  (66, .ishl, 0, 0, 0, 0, []),
  (67, .iconst (-1), 0, 0, (-1), 0, []),
  (68, .ixor, 0, 0, 0, 0, []),
  (69, .iand, 0, 0, 0, 0, []),
  (70, .invokevirtual 409, 3, 12, 0, 0, []),
  (73, .ifCond .eq 5, 78, 0, 0, 0, []),
  (76, .iconst 1, 0, 0, 1, 0, []),
  (77, .ireturn, 0, 0, 0, 0, []),
  (78, .iinc 4 1, 4, 0, 1, 0, []),
  (81, .goto (-56), 25, 0, 0, 0, []),
  (84, .iconst 0, 0, 0, 0, 0, []),
  (85, .ireturn, 0, 0, 0, 0, [])]
noncomputable def e12_doesHold (w : Nat → XF) : XN := [(298, 1, 1, 12, F12_belts), (314, 1, 3, 12, F12_doesBear), (409, 1, 3, 12, (w 0))]
noncomputable def W12_doesHold (N : Nat) (w : Nat → XF) : XF := fun av μ => match av with
  | [.inr (.inr (some (t0, i0, 0))), .inl p1, .inl p2] => bif Nat.beq t0 12 && Nat.beq i0 0 then xrun t12_doesHold (e12_doesHold w) (xrtk (some .boolean)) 62 N (xlo [xr 12 0 0, xi p1, xi p2] 5) μ else none
  | _ => none
noncomputable def G6 (N d : Nat) : Nat → XF := Nat.rec (fun _ _ _ => none) (fun _ w k => match k with
  | 0 => W12_doesHold N w
  | _ => fun _ _ => none) d
noncomputable def f12_doesHold (N d : Nat) (p1 : Int32) (p2 : Int32) (μ : XM) : XR := G6 N d 0 [xr 12 0 0, xi p1, xi p2] μ
noncomputable def h12_doesHold_8 (N d n : Nat) (v1 : Int32) (v2 : Int32) (v3 : Int32) (μ : XM) : XR := arr t12_doesHold (e12_doesHold (G6 N d)) 2 62 n 8 [some (xr 12 0 0), some (xi v1), some (xi v2), some (xi v3), none] [] μ
noncomputable def h12_doesHold_25 (N d n : Nat) (v1 : Int32) (v2 : Int32) (v3 : Int32) (v4 : Int32) (μ : XM) : XR := arr t12_doesHold (e12_doesHold (G6 N d)) 2 62 n 25 [some (xr 12 0 0), some (xi v1), some (xi v2), some (xi v3), some (xi v4)] [] μ
set_option maxRecDepth 100000 in
theorem h12_doesHold_8_s (N d n : Nat) (v1 : Int32) (v2 : Int32) (v3 : Int32) (μ : XM) : h12_doesHold_8 N d (n + 1) v1 v2 v3 μ = (
  xite (((v1 >>> (v3 &&& 31)) &&& 1) = 0) (
    vI (v3 + 1) fun x1 =>
    h12_doesHold_8 N d n v1 v2 x1 μ) (
    vI 0 fun x2 =>
    h12_doesHold_25 N d n v1 v2 v3 x2 μ)) := rfl
set_option maxRecDepth 100000 in
theorem h12_doesHold_25_s (N d n : Nat) (v1 : Int32) (v2 : Int32) (v3 : Int32) (v4 : Int32) (μ : XM) : h12_doesHold_25 N d (n + 1) v1 v2 v3 v4 μ = (
  bI (f12_belts μ) fun r2 m1 =>
  xite (v4 < r2) (
    xite (((v2 >>> (v4 &&& 31)) &&& 1) = 1) (
      bI (f12_doesBear v4 v3 m1) fun r4 m3 =>
      xite (r4 = 0) (
        vI (v4 + 1) fun x5 =>
        h12_doesHold_25 N d n v1 v2 v3 x5 m3) (
        bI (f12_doesHold N d (v1 &&& ((1 <<< (v3 &&& 31)) ^^^ (-1))) (v2 &&& ((1 <<< (v4 &&& 31)) ^^^ (-1))) m3) fun r7 m6 =>
        xite (r7 = 0) (
          vI (v4 + 1) fun x8 =>
          h12_doesHold_25 N d n v1 v2 v3 x8 m6) (
          xrb 1 m6))) (
      vI (v4 + 1) fun x9 =>
      h12_doesHold_25 N d n v1 v2 v3 x9 m1)) (
    xrb 0 m1)) := rfl
set_option maxRecDepth 100000 in
theorem f12_doesHold_s (N d : Nat) (p1 : Int32) (p2 : Int32) (μ : XM) : f12_doesHold N (d + 1) p1 p2 μ = (
  xite (p1 = 0) (
    xrb 1 μ) (
    vI 0 fun x1 =>
    h12_doesHold_8 N d N p1 p2 x1 μ)) := rfl
theorem f12_doesHold_0 (N : Nat) (p1 : Int32) (p2 : Int32) (μ : XM) : f12_doesHold N 0 p1 p2 μ = none := rfl
set_option maxRecDepth 100000 in
theorem cG6 {X : XP} (hX : XOK X) (l : Launch) : ∀ d : Nat, Ctr X l y12_doesHold prog_14_method_103_code 5 (some .boolean) (xrm (4 + d)) 0 0 (G6 20000 d 0) := by
  intro d
  induction d with
  | zero => exact (fun av μ r μ' _ h => by cases h)
  | succ d ih =>
    exact Ctr_of (tab := t12_doesHold) (env := e12_doesHold (G6 20000 d)) (K := 62) (N := 20000) (fl := fl12) (cl := cl12) (ll := ll12) (jl := jl12) hX mf12_doesHold.2.2.2 ⟨by decide +kernel, flk12, clk12, llk12, jlk12⟩
      (List.forall_mem_cons.mpr ⟨xcal_v (na := 0) (c12_belts hX l) mf12_belts ⟨rfl, rfl⟩ ml12_298 mi12_belts me12_belts (xrm_ok (by omega) (by decide)) rfl (by decide) (by decide +kernel), List.forall_mem_cons.mpr ⟨xcal_v (na := 2) (c12_doesBear hX l) mf12_doesBear ⟨rfl, rfl⟩ ml12_314 mi12_doesBear me12_doesBear (xrm_ok (by omega) (by decide)) rfl (by decide) (by decide +kernel), List.forall_mem_cons.mpr ⟨xcal_v (na := 2) (ih) mf12_doesHold ⟨rfl, rfl⟩ ml12_409 mi12_doesHold me12_doesHold (xrm_ok (by omega) (by decide)) rfl (by decide) (by decide +kernel), fun _ h => absurd h List.not_mem_nil⟩⟩⟩)
      (xrm_1 (by omega)) ⟨_, _, rfl, rfl⟩ (fun av μ r μ' h => by
        replace h : W12_doesHold 20000 (G6 20000 d) av μ = some (r, μ') := h
        unfold W12_doesHold at h
        split at h
        · replace h := cond_inv h; obtain ⟨hb, h⟩ := h
          simp only [Bool.and_eq_true] at hb
          obtain ⟨g0, g1⟩ := hb
          obtain rfl := Nat.eq_of_beq_eq_true g0
          obtain rfl := Nat.eq_of_beq_eq_true g1
          exact ⟨Nat.le_of_ble_eq_true rfl, h⟩
        · cases h)
def t12_bearOf : List XE := [(0, .iconst 0, 0, 0, 0, 0, []),
  (1, .istore_n 2, 2, 0, 0, 0, []),
  (2, .iconst 0, 0, 0, 0, 0, []),
  (3, .istore_n 3, 3, 0, 0, 0, []),
  (4, .nop, 15, 0, 0, 0, []),
  (4, .iload_n 3, 3, 0, 0, 0, []),
  (5, .aload_n 0, 0, 0, 0, 0, []),
  (6, .invokevirtual 298, 1, 12, 0, 0, []),
  (9, .if_icmp .ge 30, 39, 0, 0, 0, []),
  (12, .iload_n 2, 2, 0, 0, 0, []),
  (13, .iload_n 1, 1, 0, 0, 0, []),
  (14, .iload_n 3, 3, 0, 0, 0, []),
  (15, .ishr, 0, 0, 0, 0, []),
  (16, .iconst 1, 0, 0, 1, 0, []),
  (17, .iand, 0, 0, 0, 0, []),
  (18, .iconst 1, 0, 0, 1, 0, []),
  (19, .if_icmp .ne 11, 30, 0, 0, 0, []),
  (22, .aload_n 0, 0, 0, 0, 0, []),
  (23, .iload_n 3, 3, 0, 0, 0, []),
  (24, .invokevirtual 304, 2, 12, 0, 0, []),
  (27, .goto 4, 31, 0, 0, 0, []),
  (30, .iconst 0, 0, 0, 0, 0, []),
  (31, .iadd, 0, 0, 0, 0, []),
  (32, .istore_n 2, 2, 0, 0, 0, []),
  (33, .iinc 3 1, 3, 0, 1, 0, []),
  (36, .goto (-32), 4, 0, 0, 0, []),
  (39, .iload_n 2, 2, 0, 0, 0, []),
  (40, .ireturn, 0, 0, 0, 0, [])]
noncomputable def e12_bearOf : XN := [(298, 1, 1, 12, F12_belts), (304, 1, 2, 12, F12_bearsOf)]
noncomputable def h12_bearOf_4 (n : Nat) (v1 : Int32) (v2 : Int32) (v3 : Int32) (μ : XM) : XR := arr t12_bearOf e12_bearOf 1 33 n 4 [some (xr 12 0 0), some (xi v1), some (xi v2), some (xi v3)] [] μ
set_option maxRecDepth 100000 in
theorem h12_bearOf_4_s (n : Nat) (v1 : Int32) (v2 : Int32) (v3 : Int32) (μ : XM) : h12_bearOf_4 (n + 1) v1 v2 v3 μ = (
  bI (f12_belts μ) fun r2 m1 =>
  xite (v3 < r2) (
    xite (((v1 >>> (v3 &&& 31)) &&& 1) = 1) (
      bI (f12_bearsOf v3 m1) fun r4 m3 =>
      vI (v2 + r4) fun x5 =>
      vI (v3 + 1) fun x6 =>
      h12_bearOf_4 n v1 x5 x6 m3) (
      vI (v2 + 0) fun x7 =>
      vI (v3 + 1) fun x8 =>
      h12_bearOf_4 n v1 x7 x8 m1)) (
    xri v2 m1)) := rfl
theorem h12_bearOf_4_0 (v1 : Int32) (v2 : Int32) (v3 : Int32) (μ : XM) : h12_bearOf_4 0 v1 v2 v3 μ = none := rfl
noncomputable def k12_bearOf (n : Nat) (p1 : Int32) (μ : XM) : XR :=
  vI 0 fun x1 =>
  vI 0 fun x2 =>
  h12_bearOf_4 n p1 x1 x2 μ
set_option maxRecDepth 100000 in
theorem q12_bearOf (n : Nat) (p1 : Int32) (μ : XM) : xrun t12_bearOf e12_bearOf (xrtk (some .int)) 33 n (xlo [xr 12 0 0, xi p1] 4) μ = k12_bearOf n p1 μ := rfl
theorem x12_bearOf : ∃ f : Int32 → XM → XR, ∀ (p1 : Int32) (μ : XM), f p1 μ = k12_bearOf 20000 p1 μ := ⟨fun p1 μ => k12_bearOf 20000 p1 μ, fun p1 μ => rfl⟩
noncomputable def f12_bearOf : Int32 → XM → XR := Classical.choose x12_bearOf
theorem f12_bearOf_e (p1 : Int32) (μ : XM) : f12_bearOf p1 μ = k12_bearOf 20000 p1 μ := Classical.choose_spec x12_bearOf p1 μ
noncomputable def F12_bearOf : XF := fun av μ => match av with
  | [.inr (.inr (some (t0, i0, 0))), .inl p1] => bif Nat.beq t0 12 && Nat.beq i0 0 then f12_bearOf p1 μ else none
  | _ => none
set_option maxRecDepth 100000 in
theorem c12_bearOf {X : XP} (hX : XOK X) (l : Launch) : Ctr X l y12_bearOf prog_14_method_104_code 4 (some .int) (xrm 2) 0 0 F12_bearOf :=
  Ctr_of (tab := t12_bearOf) (env := e12_bearOf) (K := 33) (N := 20000) (fl := fl12) (cl := cl12) (ll := ll12) (jl := jl12) hX mf12_bearOf.2.2.2 ⟨by decide +kernel, flk12, clk12, llk12, jlk12⟩
   (List.forall_mem_cons.mpr ⟨xcal_v (na := 0) (c12_belts hX l) mf12_belts ⟨rfl, rfl⟩ ml12_298 mi12_belts me12_belts (xrm_ok (by omega) (by decide)) rfl (by decide) (by decide +kernel), List.forall_mem_cons.mpr ⟨xcal_v (na := 1) (c12_bearsOf hX l) mf12_bearsOf ⟨rfl, rfl⟩ ml12_304 mi12_bearsOf me12_bearsOf (xrm_ok (by omega) (by decide)) rfl (by decide) (by decide +kernel), fun _ h => absurd h List.not_mem_nil⟩⟩)
   (xrm_1 (by decide)) ⟨_, _, rfl, rfl⟩ (fun av μ r μ' h => by
    unfold F12_bearOf at h
    split at h
    · replace h := cond_inv h; obtain ⟨hb, h⟩ := h
      simp only [Bool.and_eq_true] at hb
      obtain ⟨g0, g1⟩ := hb
      obtain rfl := Nat.eq_of_beq_eq_true g0
      obtain rfl := Nat.eq_of_beq_eq_true g1
      exact ⟨Nat.le_of_ble_eq_true rfl, (q12_bearOf _ _ _).trans ((f12_bearOf_e _ _).symm.trans h)⟩
    · cases h)
def t12_need : List XE := [(0, .aload_n 0, 0, 0, 0, 0, []),
  (1, .iconst 0, 0, 0, 0, 0, []),
  (2, .putfield 1, 12, 0, 0, 0, []),
  (5, .aload_n 0, 0, 0, 0, 0, []),
  (6, .iconst 0, 0, 0, 0, 0, []),
  (7, .invokevirtual 385, 2, 12, 0, 0, []),
  (10, .istore_n 1, 1, 0, 0, 0, []),
  (11, .iconst (-1), 0, 0, (-1), 0, []),
  (12, .istore_n 2, 2, 0, 0, 0, []),
  (13, .iconst 0, 0, 0, 0, 0, []),
  (14, .istore_n 3, 3, 0, 0, 0, []),
  (15, .nop, 15, 0, 0, 0, []),
  (15, .iload_n 3, 3, 0, 0, 0, []),
  (16, .iconst 1, 0, 0, 1, 0, []),
  (17, .aload_n 0, 0, 0, 0, 0, []),
  (18, .invokevirtual 298, 1, 12, 0, 0, []),
  (21, .ishl, 0, 0, 0, 0, []),
  (22, .if_icmp .ge 64, 86, 0, 0, 0, []),
  (25, .iload_n 3, 3, 0, 0, 0, []),
  (26, .invokestatic 347, 1, 0, 0, 0, []),
  (29, .iload_n 1, 1, 0, 0, 0, []),
  (30, .invokestatic 347, 1, 0, 0, 0, []),
  (33, .if_icmp .ne 16, 49, 0, 0, 0, []),
  (36, .aload_n 0, 0, 0, 0, 0, []),
  (37, .iload_n 1, 1, 0, 0, 0, []),
  (38, .iload_n 3, 3, 0, 0, 0, []),
  (39, .invokevirtual 409, 3, 12, 0, 0, []),
  (42, .ifCond .eq 7, 49, 0, 0, 0, []),
  (45, .iconst 1, 0, 0, 1, 0, []),
  (46, .goto 4, 50, 0, 0, 0, []),
  (49, .iconst 0, 0, 0, 0, 0, []),
  (50, .nop, 15, 0, 0, 0, []),
  (50, .istore 4, 4, 0, 0, 0, []),
  (52, .iload 4, 4, 0, 0, 0, []),
  (54, .ifCond .eq 24, 78, 0, 0, 0, []),
  (57, .iload_n 2, 2, 0, 0, 0, []),
  (58, .ifCond .lt 16, 74, 0, 0, 0, []),
  (61, .aload_n 0, 0, 0, 0, 0, []),
  (62, .iload_n 3, 3, 0, 0, 0, []),
  (63, .invokevirtual 412, 2, 12, 0, 0, []),
  (66, .aload_n 0, 0, 0, 0, 0, []),
  (67, .iload_n 2, 2, 0, 0, 0, []),
  (68, .invokevirtual 412, 2, 12, 0, 0, []),
  (71, .if_icmp .ge 7, 78, 0, 0, 0, []),
  (74, .iload_n 3, 3, 0, 0, 0, []),
  (75, .goto 4, 79, 0, 0, 0, []),
  (78, .iload_n 2, 2, 0, 0, 0, []),
  (79, .istore_n 2, 2, 0, 0, 0, []),
  (80, .iinc 3 1, 3, 0, 1, 0, []),
  (83, .goto (-68), 15, 0, 0, 0, []),
  (86, .iload_n 2, 2, 0, 0, 0, []),
  (87, .ireturn, 0, 0, 0, 0, [])]
noncomputable def e12_need : XN := [(385, 1, 2, 12, F12_criers), (298, 1, 1, 12, F12_belts), (347, 1, 1, 99, F12_bits), (409, 1, 3, 12, (G6 20000 64 0)), (412, 1, 2, 12, F12_bearOf)]
noncomputable def h12_need_15 (n : Nat) (v1 : Int32) (v2 : Int32) (v3 : Int32) (μ : XM) : XR := arr t12_need e12_need 1 57 n 15 [some (xr 12 0 0), some (xi v1), some (xi v2), some (xi v3), none] [] μ
noncomputable def h12_need_50 (n : Nat) (v1 : Int32) (v2 : Int32) (v3 : Int32) (s0 : Int32) (μ : XM) : XR := arr t12_need e12_need 1 57 n 50 [some (xr 12 0 0), some (xi v1), some (xi v2), some (xi v3), none] [xi s0] μ
set_option maxRecDepth 100000 in
theorem h12_need_15_s (n : Nat) (v1 : Int32) (v2 : Int32) (v3 : Int32) (μ : XM) : h12_need_15 (n + 1) v1 v2 v3 μ = (
  bI (f12_belts μ) fun r2 m1 =>
  xite (v3 < (1 <<< (r2 &&& 31))) (
    bI (f12_bits v3 m1) fun r4 m3 =>
    bI (f12_bits v1 m3) fun r6 m5 =>
    xite (r4 = r6) (
      bI (f12_doesHold 20000 64 v1 v3 m5) fun r8 m7 =>
      xite (r8 = 0) (
        h12_need_50 n v1 v2 v3 0 m7) (
        h12_need_50 n v1 v2 v3 1 m7)) (
      h12_need_50 n v1 v2 v3 0 m5)) (
    xri v2 m1)) := rfl
theorem h12_need_15_0 (v1 : Int32) (v2 : Int32) (v3 : Int32) (μ : XM) : h12_need_15 0 v1 v2 v3 μ = none := rfl
set_option maxRecDepth 100000 in
theorem h12_need_50_s (n : Nat) (v1 : Int32) (v2 : Int32) (v3 : Int32) (s0 : Int32) (μ : XM) : h12_need_50 (n + 1) v1 v2 v3 s0 μ = (
  vI s0 fun x1 =>
  xite (x1 = 0) (
    vI v2 fun x2 =>
    vI (v3 + 1) fun x3 =>
    h12_need_15 n v1 x2 x3 μ) (
    xite (v2 < 0) (
      vI v3 fun x4 =>
      vI (v3 + 1) fun x5 =>
      h12_need_15 n v1 x4 x5 μ) (
      bI (f12_bearOf v3 μ) fun r7 m6 =>
      bI (f12_bearOf v2 m6) fun r9 m8 =>
      xite (r7 < r9) (
        vI v3 fun x10 =>
        vI (v3 + 1) fun x11 =>
        h12_need_15 n v1 x10 x11 m8) (
        vI v2 fun x12 =>
        vI (v3 + 1) fun x13 =>
        h12_need_15 n v1 x12 x13 m8)))) := rfl
theorem h12_need_50_0 (v1 : Int32) (v2 : Int32) (v3 : Int32) (s0 : Int32) (μ : XM) : h12_need_50 0 v1 v2 v3 s0 μ = none := rfl
noncomputable def k12_need (n : Nat) (μ : XM) : XR :=
  mS (sI μ 12 0 0 0) fun m1 =>
  bI (f12_criers 0 m1) fun r3 m2 =>
  vI r3 fun x4 =>
  vI (-1) fun x5 =>
  vI 0 fun x6 =>
  h12_need_15 n x4 x5 x6 m2
set_option maxRecDepth 100000 in
theorem q12_need (n : Nat) (μ : XM) : xrun t12_need e12_need (xrtk (some .int)) 57 n (xlo [xr 12 0 0] 5) μ = k12_need n  μ := rfl
theorem x12_need : ∃ f : XM → XR, ∀ (μ : XM), f μ = k12_need 20000  μ := ⟨fun μ => k12_need 20000  μ, fun μ => rfl⟩
noncomputable def f12_need : XM → XR := Classical.choose x12_need
theorem f12_need_e (μ : XM) : f12_need μ = k12_need 20000  μ := Classical.choose_spec x12_need μ
noncomputable def F12_need : XF := fun av μ => match av with
  | [.inr (.inr (some (t0, i0, 0)))] => bif Nat.beq t0 12 && Nat.beq i0 0 then f12_need  μ else none
  | _ => none
set_option maxRecDepth 100000 in
theorem c12_need {X : XP} (hX : XOK X) (l : Launch) : Ctr X l y12_need prog_14_method_105_code 5 (some .int) (xrm 69) 0 0 F12_need :=
  Ctr_of (tab := t12_need) (env := e12_need) (K := 57) (N := 20000) (fl := fl12) (cl := cl12) (ll := ll12) (jl := jl12) hX mf12_need.2.2.2 ⟨by decide +kernel, flk12, clk12, llk12, jlk12⟩
   (List.forall_mem_cons.mpr ⟨xcal_v (na := 1) (c12_criers hX l) mf12_criers ⟨rfl, rfl⟩ ml12_385 mi12_criers me12_criers (xrm_ok (by omega) (by decide)) rfl (by decide) (by decide +kernel), List.forall_mem_cons.mpr ⟨xcal_v (na := 0) (c12_belts hX l) mf12_belts ⟨rfl, rfl⟩ ml12_298 mi12_belts me12_belts (xrm_ok (by omega) (by decide)) rfl (by decide) (by decide +kernel), List.forall_mem_cons.mpr ⟨xcal_s (c12_bits hX l) mf12_bits ⟨rfl, rfl⟩ ml12_347 ms12_bits (xrm_ok (by omega) (by decide)) (by decide +kernel), List.forall_mem_cons.mpr ⟨xcal_v (na := 2) ((cG6 hX l 64)) mf12_doesHold ⟨rfl, rfl⟩ ml12_409 mi12_doesHold me12_doesHold (xrm_ok (by omega) (by decide)) rfl (by decide) (by decide +kernel), List.forall_mem_cons.mpr ⟨xcal_v (na := 1) (c12_bearOf hX l) mf12_bearOf ⟨rfl, rfl⟩ ml12_412 mi12_bearOf me12_bearOf (xrm_ok (by omega) (by decide)) rfl (by decide) (by decide +kernel), fun _ h => absurd h List.not_mem_nil⟩⟩⟩⟩⟩)
   (xrm_1 (by decide)) ⟨_, _, rfl, rfl⟩ (fun av μ r μ' h => by
    unfold F12_need at h
    split at h
    · replace h := cond_inv h; obtain ⟨hb, h⟩ := h
      simp only [Bool.and_eq_true] at hb
      obtain ⟨g0, g1⟩ := hb
      obtain rfl := Nat.eq_of_beq_eq_true g0
      obtain rfl := Nat.eq_of_beq_eq_true g1
      exact ⟨Nat.le_of_ble_eq_true rfl, (q12_need _  _).trans ((f12_need_e  _).symm.trans h)⟩
    · cases h)
def t12_enoughFor : List XE := [(0, .iconst (-1), 0, 0, (-1), 0, []),
  (1, .istore_n 2, 2, 0, 0, 0, []),
  (2, .iconst 0, 0, 0, 0, 0, []),
  (3, .istore_n 3, 3, 0, 0, 0, []),
  (4, .nop, 15, 0, 0, 0, []),
  (4, .iload_n 3, 3, 0, 0, 0, []),
  (5, .aload_n 0, 0, 0, 0, 0, []),
  (6, .invokevirtual 298, 1, 12, 0, 0, []),
  (9, .if_icmp .ge 41, 50, 0, 0, 0, []),
  (12, .aload_n 0, 0, 0, 0, 0, []),
  (13, .iload_n 3, 3, 0, 0, 0, []),
  (14, .iload_n 1, 1, 0, 0, 0, []),
  (15, .invokevirtual 314, 3, 12, 0, 0, []),
  (18, .ifCond .eq 24, 42, 0, 0, 0, []),
  (21, .iload_n 2, 2, 0, 0, 0, []),
  (22, .ifCond .lt 16, 38, 0, 0, 0, []),
  (25, .aload_n 0, 0, 0, 0, 0, []),
  (26, .iload_n 3, 3, 0, 0, 0, []),
  (27, .invokevirtual 304, 2, 12, 0, 0, []),
  (30, .aload_n 0, 0, 0, 0, 0, []),
  (31, .iload_n 2, 2, 0, 0, 0, []),
  (32, .invokevirtual 304, 2, 12, 0, 0, []),
  (35, .if_icmp .ge 7, 42, 0, 0, 0, []),
  (38, .iload_n 3, 3, 0, 0, 0, []),
  (39, .goto 4, 43, 0, 0, 0, []),
  (42, .iload_n 2, 2, 0, 0, 0, []),
  (43, .istore_n 2, 2, 0, 0, 0, []),
  (44, .iinc 3 1, 3, 0, 1, 0, []),
  (47, .goto (-43), 4, 0, 0, 0, []),
  (50, .iload_n 2, 2, 0, 0, 0, []),
  (51, .ireturn, 0, 0, 0, 0, [])]
noncomputable def e12_enoughFor : XN := [(298, 1, 1, 12, F12_belts), (314, 1, 3, 12, F12_doesBear), (304, 1, 2, 12, F12_bearsOf)]
noncomputable def h12_enoughFor_4 (n : Nat) (v1 : Int32) (v2 : Int32) (v3 : Int32) (μ : XM) : XR := arr t12_enoughFor e12_enoughFor 1 36 n 4 [some (xr 12 0 0), some (xi v1), some (xi v2), some (xi v3)] [] μ
set_option maxRecDepth 100000 in
theorem h12_enoughFor_4_s (n : Nat) (v1 : Int32) (v2 : Int32) (v3 : Int32) (μ : XM) : h12_enoughFor_4 (n + 1) v1 v2 v3 μ = (
  bI (f12_belts μ) fun r2 m1 =>
  xite (v3 < r2) (
    bI (f12_doesBear v3 v1 m1) fun r4 m3 =>
    xite (r4 = 0) (
      vI v2 fun x5 =>
      vI (v3 + 1) fun x6 =>
      h12_enoughFor_4 n v1 x5 x6 m3) (
      xite (v2 < 0) (
        vI v3 fun x7 =>
        vI (v3 + 1) fun x8 =>
        h12_enoughFor_4 n v1 x7 x8 m3) (
        bI (f12_bearsOf v3 m3) fun r10 m9 =>
        bI (f12_bearsOf v2 m9) fun r12 m11 =>
        xite (r10 < r12) (
          vI v3 fun x13 =>
          vI (v3 + 1) fun x14 =>
          h12_enoughFor_4 n v1 x13 x14 m11) (
          vI v2 fun x15 =>
          vI (v3 + 1) fun x16 =>
          h12_enoughFor_4 n v1 x15 x16 m11)))) (
    xri v2 m1)) := rfl
theorem h12_enoughFor_4_0 (v1 : Int32) (v2 : Int32) (v3 : Int32) (μ : XM) : h12_enoughFor_4 0 v1 v2 v3 μ = none := rfl
noncomputable def k12_enoughFor (n : Nat) (p1 : Int32) (μ : XM) : XR :=
  vI (-1) fun x1 =>
  vI 0 fun x2 =>
  h12_enoughFor_4 n p1 x1 x2 μ
set_option maxRecDepth 100000 in
theorem q12_enoughFor (n : Nat) (p1 : Int32) (μ : XM) : xrun t12_enoughFor e12_enoughFor (xrtk (some .int)) 36 n (xlo [xr 12 0 0, xi p1] 4) μ = k12_enoughFor n p1 μ := rfl
theorem x12_enoughFor : ∃ f : Int32 → XM → XR, ∀ (p1 : Int32) (μ : XM), f p1 μ = k12_enoughFor 20000 p1 μ := ⟨fun p1 μ => k12_enoughFor 20000 p1 μ, fun p1 μ => rfl⟩
noncomputable def f12_enoughFor : Int32 → XM → XR := Classical.choose x12_enoughFor
theorem f12_enoughFor_e (p1 : Int32) (μ : XM) : f12_enoughFor p1 μ = k12_enoughFor 20000 p1 μ := Classical.choose_spec x12_enoughFor p1 μ
noncomputable def F12_enoughFor : XF := fun av μ => match av with
  | [.inr (.inr (some (t0, i0, 0))), .inl p1] => bif Nat.beq t0 12 && Nat.beq i0 0 then f12_enoughFor p1 μ else none
  | _ => none
set_option maxRecDepth 100000 in
theorem c12_enoughFor {X : XP} (hX : XOK X) (l : Launch) : Ctr X l y12_enoughFor prog_14_method_106_code 4 (some .int) (xrm 4) 0 0 F12_enoughFor :=
  Ctr_of (tab := t12_enoughFor) (env := e12_enoughFor) (K := 36) (N := 20000) (fl := fl12) (cl := cl12) (ll := ll12) (jl := jl12) hX mf12_enoughFor.2.2.2 ⟨by decide +kernel, flk12, clk12, llk12, jlk12⟩
   (List.forall_mem_cons.mpr ⟨xcal_v (na := 0) (c12_belts hX l) mf12_belts ⟨rfl, rfl⟩ ml12_298 mi12_belts me12_belts (xrm_ok (by omega) (by decide)) rfl (by decide) (by decide +kernel), List.forall_mem_cons.mpr ⟨xcal_v (na := 2) (c12_doesBear hX l) mf12_doesBear ⟨rfl, rfl⟩ ml12_314 mi12_doesBear me12_doesBear (xrm_ok (by omega) (by decide)) rfl (by decide) (by decide +kernel), List.forall_mem_cons.mpr ⟨xcal_v (na := 1) (c12_bearsOf hX l) mf12_bearsOf ⟨rfl, rfl⟩ ml12_304 mi12_bearsOf me12_bearsOf (xrm_ok (by omega) (by decide)) rfl (by decide) (by decide +kernel), fun _ h => absurd h List.not_mem_nil⟩⟩⟩)
   (xrm_1 (by decide)) ⟨_, _, rfl, rfl⟩ (fun av μ r μ' h => by
    unfold F12_enoughFor at h
    split at h
    · replace h := cond_inv h; obtain ⟨hb, h⟩ := h
      simp only [Bool.and_eq_true] at hb
      obtain ⟨g0, g1⟩ := hb
      obtain rfl := Nat.eq_of_beq_eq_true g0
      obtain rfl := Nat.eq_of_beq_eq_true g1
      exact ⟨Nat.le_of_ble_eq_true rfl, (q12_enoughFor _ _ _).trans ((f12_enoughFor_e _ _).symm.trans h)⟩
    · cases h)
def t12_enough : List XE := [(0, .aload_n 0, 0, 0, 0, 0, []),
  (1, .iconst 0, 0, 0, 0, 0, []),
  (2, .putfield 1, 12, 0, 0, 0, []),
  (5, .aload_n 0, 0, 0, 0, 0, []),
  (6, .iload_n 1, 1, 0, 0, 0, []),
  (7, .invokevirtual 353, 2, 12, 0, 0, []),
  (10, .ifCond .eq 11, 21, 0, 0, 0, []),
  (13, .aload_n 0, 0, 0, 0, 0, []),
  (14, .iload_n 1, 1, 0, 0, 0, []),
  (15, .invokevirtual 415, 2, 12, 0, 0, []),
  (18, .goto 4, 22, 0, 0, 0, []),
  (21, .iconst (-1), 0, 0, (-1), 0, []),
  (22, .ireturn, 0, 0, 0, 0, [])]
noncomputable def e12_enough : XN := [(353, 1, 2, 12, F12_isGuest), (415, 1, 2, 12, F12_enoughFor)]
noncomputable def k12_enough (p1 : Int32) (μ : XM) : XR :=
  mS (sI μ 12 0 0 0) fun m1 =>
  bI (f12_isGuest p1 m1) fun r3 m2 =>
  xite (r3 = 0) (
    xri (-1) m2) (
    bI (f12_enoughFor p1 m2) fun r5 m4 =>
    xri r5 m4)
set_option maxRecDepth 100000 in
theorem q12_enough (n : Nat) (p1 : Int32) (μ : XM) : xrun t12_enough e12_enough (xrtk (some .int)) 18 n (xlo [xr 12 0 0, xi p1] 2) μ = k12_enough p1 μ := rfl
theorem x12_enough : ∃ f : Int32 → XM → XR, ∀ (p1 : Int32) (μ : XM), f p1 μ = k12_enough p1 μ := ⟨fun p1 μ => k12_enough p1 μ, fun p1 μ => rfl⟩
noncomputable def f12_enough : Int32 → XM → XR := Classical.choose x12_enough
theorem f12_enough_e (p1 : Int32) (μ : XM) : f12_enough p1 μ = k12_enough p1 μ := Classical.choose_spec x12_enough p1 μ
noncomputable def F12_enough : XF := fun av μ => match av with
  | [.inr (.inr (some (t0, i0, 0))), .inl p1] => bif Nat.beq t0 12 && Nat.beq i0 0 then f12_enough p1 μ else none
  | _ => none
set_option maxRecDepth 100000 in
theorem c12_enough {X : XP} (hX : XOK X) (l : Launch) : Ctr X l y12_enough prog_14_method_107_code 2 (some .int) (xrm 5) 0 0 F12_enough :=
  Ctr_of (tab := t12_enough) (env := e12_enough) (K := 18) (N := 20000) (fl := fl12) (cl := cl12) (ll := ll12) (jl := jl12) hX mf12_enough.2.2.2 ⟨by decide +kernel, flk12, clk12, llk12, jlk12⟩
   (List.forall_mem_cons.mpr ⟨xcal_v (na := 1) (c12_isGuest hX l) mf12_isGuest ⟨rfl, rfl⟩ ml12_353 mi12_isGuest me12_isGuest (xrm_ok (by omega) (by decide)) rfl (by decide) (by decide +kernel), List.forall_mem_cons.mpr ⟨xcal_v (na := 1) (c12_enoughFor hX l) mf12_enoughFor ⟨rfl, rfl⟩ ml12_415 mi12_enoughFor me12_enoughFor (xrm_ok (by omega) (by decide)) rfl (by decide) (by decide +kernel), fun _ h => absurd h List.not_mem_nil⟩⟩)
   (xrm_1 (by decide)) ⟨_, _, rfl, rfl⟩ (fun av μ r μ' h => by
    unfold F12_enough at h
    split at h
    · replace h := cond_inv h; obtain ⟨hb, h⟩ := h
      simp only [Bool.and_eq_true] at hb
      obtain ⟨g0, g1⟩ := hb
      obtain rfl := Nat.eq_of_beq_eq_true g0
      obtain rfl := Nat.eq_of_beq_eq_true g1
      exact ⟨Nat.le_of_ble_eq_true rfl, (q12_enough _ _ _).trans ((f12_enough_e _ _).symm.trans h)⟩
    · cases h)
def t12_latest : List XE := [(0, .aload_n 0, 0, 0, 0, 0, []),
  (1, .iconst 0, 0, 0, 0, 0, []),
  (2, .putfield 1, 12, 0, 0, 0, []),
  (5, .aload_n 0, 0, 0, 0, 0, []),
  (6, .iload_n 1, 1, 0, 0, 0, []),
  (7, .invokevirtual 353, 2, 12, 0, 0, []),
  (10, .ifCond .eq 20, 30, 0, 0, 0, []),
  (13, .aload_n 0, 0, 0, 0, 0, []),
  (14, .iconst 0, 0, 0, 0, 0, []),
  (15, .iload_n 1, 1, 0, 0, 0, []),
  (16, .invokevirtual 310, 3, 12, 0, 0, []),
  (19, .ifCond .eq 11, 30, 0, 0, 0, []),
  (22, .aload_n 0, 0, 0, 0, 0, []),
  (23, .iload_n 1, 1, 0, 0, 0, []),
  (24, .invokevirtual 415, 2, 12, 0, 0, []),
  (27, .ifCond .ge 5, 32, 0, 0, 0, []),
  (30, .iconst (-1), 0, 0, (-1), 0, []),
  (31, .ireturn, 0, 0, 0, 0, []),
  (32, .aload_n 0, 0, 0, 0, 0, []),
  (33, .iload_n 1, 1, 0, 0, 0, []),
  (34, .invokevirtual 394, 2, 12, 0, 0, []),
  (37, .istore_n 2, 2, 0, 0, 0, []),
  (38, .iload_n 2, 2, 0, 0, 0, []),
  (39, .ifCond .ge 8, 47, 0, 0, 0, []),
  (42, .bipush 60, 0, 0, 60, 0, []),
  (44, .goto 6, 50, 0, 0, 0, []),
  (47, .iload_n 2, 2, 0, 0, 0, []),
  (48, .iconst 1, 0, 0, 1, 0, []),
  (49, .isub, 0, 0, 0, 0, []),
  (50, .ireturn, 0, 0, 0, 0, [])]
noncomputable def e12_latest : XN := [(353, 1, 2, 12, F12_isGuest), (310, 1, 3, 12, F12_isIn), (415, 1, 2, 12, F12_enoughFor), (394, 1, 2, 12, F12_sinksIn)]
noncomputable def k12_latest (p1 : Int32) (μ : XM) : XR :=
  mS (sI μ 12 0 0 0) fun m1 =>
  bI (f12_isGuest p1 m1) fun r3 m2 =>
  xite (r3 = 0) (
    xri (-1) m2) (
    bI (f12_isIn 0 p1 m2) fun r5 m4 =>
    xite (r5 = 0) (
      xri (-1) m4) (
      bI (f12_enoughFor p1 m4) fun r7 m6 =>
      xite (r7 < 0) (
        xri (-1) m6) (
        bI (f12_sinksIn p1 m6) fun r9 m8 =>
        vI r9 fun x10 =>
        xite (x10 < 0) (
          xri 60 m8) (
          xri (x10 - 1) m8))))
set_option maxRecDepth 100000 in
theorem q12_latest (n : Nat) (p1 : Int32) (μ : XM) : xrun t12_latest e12_latest (xrtk (some .int)) 35 n (xlo [xr 12 0 0, xi p1] 3) μ = k12_latest p1 μ := rfl
theorem x12_latest : ∃ f : Int32 → XM → XR, ∀ (p1 : Int32) (μ : XM), f p1 μ = k12_latest p1 μ := ⟨fun p1 μ => k12_latest p1 μ, fun p1 μ => rfl⟩
noncomputable def f12_latest : Int32 → XM → XR := Classical.choose x12_latest
theorem f12_latest_e (p1 : Int32) (μ : XM) : f12_latest p1 μ = k12_latest p1 μ := Classical.choose_spec x12_latest p1 μ
noncomputable def F12_latest : XF := fun av μ => match av with
  | [.inr (.inr (some (t0, i0, 0))), .inl p1] => bif Nat.beq t0 12 && Nat.beq i0 0 then f12_latest p1 μ else none
  | _ => none
set_option maxRecDepth 100000 in
theorem c12_latest {X : XP} (hX : XOK X) (l : Launch) : Ctr X l y12_latest prog_14_method_108_code 3 (some .int) (xrm 9) 0 0 F12_latest :=
  Ctr_of (tab := t12_latest) (env := e12_latest) (K := 35) (N := 20000) (fl := fl12) (cl := cl12) (ll := ll12) (jl := jl12) hX mf12_latest.2.2.2 ⟨by decide +kernel, flk12, clk12, llk12, jlk12⟩
   (List.forall_mem_cons.mpr ⟨xcal_v (na := 1) (c12_isGuest hX l) mf12_isGuest ⟨rfl, rfl⟩ ml12_353 mi12_isGuest me12_isGuest (xrm_ok (by omega) (by decide)) rfl (by decide) (by decide +kernel), List.forall_mem_cons.mpr ⟨xcal_v (na := 2) (c12_isIn hX l) mf12_isIn ⟨rfl, rfl⟩ ml12_310 mi12_isIn me12_isIn (xrm_ok (by omega) (by decide)) rfl (by decide) (by decide +kernel), List.forall_mem_cons.mpr ⟨xcal_v (na := 1) (c12_enoughFor hX l) mf12_enoughFor ⟨rfl, rfl⟩ ml12_415 mi12_enoughFor me12_enoughFor (xrm_ok (by omega) (by decide)) rfl (by decide) (by decide +kernel), List.forall_mem_cons.mpr ⟨xcal_v (na := 1) (c12_sinksIn hX l) mf12_sinksIn ⟨rfl, rfl⟩ ml12_394 mi12_sinksIn me12_sinksIn (xrm_ok (by omega) (by decide)) rfl (by decide) (by decide +kernel), fun _ h => absurd h List.not_mem_nil⟩⟩⟩⟩)
   (xrm_1 (by decide)) ⟨_, _, rfl, rfl⟩ (fun av μ r μ' h => by
    unfold F12_latest at h
    split at h
    · replace h := cond_inv h; obtain ⟨hb, h⟩ := h
      simp only [Bool.and_eq_true] at hb
      obtain ⟨g0, g1⟩ := hb
      obtain rfl := Nat.eq_of_beq_eq_true g0
      obtain rfl := Nat.eq_of_beq_eq_true g1
      exact ⟨Nat.le_of_ble_eq_true rfl, (q12_latest _ _ _).trans ((f12_latest_e _ _).symm.trans h)⟩
    · cases h)
def t12_spare : List XE := [(0, .aload_n 0, 0, 0, 0, 0, []),
  (1, .iconst 0, 0, 0, 0, 0, []),
  (2, .putfield 1, 12, 0, 0, 0, []),
  (5, .iconst 0, 0, 0, 0, 0, []),
  (6, .istore_n 1, 1, 0, 0, 0, []),
  (7, .iconst 0, 0, 0, 0, 0, []),
  (8, .istore_n 2, 2, 0, 0, 0, []),
  (9, .nop, 7, 0, 0, 0, []),
  (9, .iload_n 2, 2, 0, 0, 0, []),
  (10, .aload_n 0, 0, 0, 0, 0, []),
  (11, .invokevirtual 298, 1, 12, 0, 0, []),
  (14, .if_icmp .ge 40, 54, 0, 0, 0, []),
  (17, .iload_n 1, 1, 0, 0, 0, []),
  (18, .aload_n 0, 0, 0, 0, 0, []),
  (19, .iconst 0, 0, 0, 0, 0, []),
  (20, .invokevirtual 332, 2, 12, 0, 0, []),
  (23, .iload_n 2, 2, 0, 0, 0, []),
  (24, .ishr, 0, 0, 0, 0, []),
  (25, .iconst 1, 0, 0, 1, 0, []),
  (26, .iand, 0, 0, 0, 0, []),
  (27, .iconst 1, 0, 0, 1, 0, []),
  (28, .if_icmp .ne 17, 45, 0, 0, 0, []),
  (31, .aload_n 0, 0, 0, 0, 0, []),
  (32, .iload_n 2, 2, 0, 0, 0, []),
  (33, .invokevirtual 397, 2, 12, 0, 0, []),
  (36, .ifCond .ne 9, 45, 0, 0, 0, []),
  (39, .iconst 1, 0, 0, 1, 0, []),
  (40, .iload_n 2, 2, 0, 0, 0, []),
  (41, .ishl, 0, 0, 0, 0, []),
  (42, .goto 4, 46, 0, 0, 0, []),
  (45, .iconst 0, 0, 0, 0, 0, []),
  (46, .ior, 0, 0, 0, 0, []),
  (47, .istore_n 1, 1, 0, 0, 0, []),
  (48, .iinc 2 1, 2, 0, 1, 0, []),
  (51, .goto (-42), 9, 0, 0, 0, []),
  (54, .iload_n 1, 1, 0, 0, 0, []),
  (55, .ireturn, 0, 0, 0, 0, [])]
noncomputable def e12_spare : XN := [(298, 1, 1, 12, F12_belts), (332, 1, 2, 12, F12_wall), (397, 1, 2, 12, F12_fitsOf)]
noncomputable def h12_spare_9 (n : Nat) (v1 : Int32) (v2 : Int32) (μ : XM) : XR := arr t12_spare e12_spare 1 42 n 9 [some (xr 12 0 0), some (xi v1), some (xi v2)] [] μ
set_option maxRecDepth 100000 in
theorem h12_spare_9_s (n : Nat) (v1 : Int32) (v2 : Int32) (μ : XM) : h12_spare_9 (n + 1) v1 v2 μ = (
  bI (f12_belts μ) fun r2 m1 =>
  xite (v2 < r2) (
    bI (f12_wall 0 m1) fun r4 m3 =>
    xite (((r4 >>> (v2 &&& 31)) &&& 1) = 1) (
      bI (f12_fitsOf v2 m3) fun r6 m5 =>
      xite (r6 = 0) (
        vI (v1 ||| (1 <<< (v2 &&& 31))) fun x7 =>
        vI (v2 + 1) fun x8 =>
        h12_spare_9 n x7 x8 m5) (
        vI (v1 ||| 0) fun x9 =>
        vI (v2 + 1) fun x10 =>
        h12_spare_9 n x9 x10 m5)) (
      vI (v1 ||| 0) fun x11 =>
      vI (v2 + 1) fun x12 =>
      h12_spare_9 n x11 x12 m3)) (
    xri v1 m1)) := rfl
theorem h12_spare_9_0 (v1 : Int32) (v2 : Int32) (μ : XM) : h12_spare_9 0 v1 v2 μ = none := rfl
noncomputable def k12_spare (n : Nat) (μ : XM) : XR :=
  mS (sI μ 12 0 0 0) fun m1 =>
  vI 0 fun x2 =>
  vI 0 fun x3 =>
  h12_spare_9 n x2 x3 m1
set_option maxRecDepth 100000 in
theorem q12_spare (n : Nat) (μ : XM) : xrun t12_spare e12_spare (xrtk (some .int)) 42 n (xlo [xr 12 0 0] 3) μ = k12_spare n  μ := rfl
theorem x12_spare : ∃ f : XM → XR, ∀ (μ : XM), f μ = k12_spare 20000  μ := ⟨fun μ => k12_spare 20000  μ, fun μ => rfl⟩
noncomputable def f12_spare : XM → XR := Classical.choose x12_spare
theorem f12_spare_e (μ : XM) : f12_spare μ = k12_spare 20000  μ := Classical.choose_spec x12_spare μ
noncomputable def F12_spare : XF := fun av μ => match av with
  | [.inr (.inr (some (t0, i0, 0)))] => bif Nat.beq t0 12 && Nat.beq i0 0 then f12_spare  μ else none
  | _ => none
set_option maxRecDepth 100000 in
theorem c12_spare {X : XP} (hX : XOK X) (l : Launch) : Ctr X l y12_spare prog_14_method_109_code 3 (some .int) (xrm 5) 0 0 F12_spare :=
  Ctr_of (tab := t12_spare) (env := e12_spare) (K := 42) (N := 20000) (fl := fl12) (cl := cl12) (ll := ll12) (jl := jl12) hX mf12_spare.2.2.2 ⟨by decide +kernel, flk12, clk12, llk12, jlk12⟩
   (List.forall_mem_cons.mpr ⟨xcal_v (na := 0) (c12_belts hX l) mf12_belts ⟨rfl, rfl⟩ ml12_298 mi12_belts me12_belts (xrm_ok (by omega) (by decide)) rfl (by decide) (by decide +kernel), List.forall_mem_cons.mpr ⟨xcal_v (na := 1) (c12_wall hX l) mf12_wall ⟨rfl, rfl⟩ ml12_332 mi12_wall me12_wall (xrm_ok (by omega) (by decide)) rfl (by decide) (by decide +kernel), List.forall_mem_cons.mpr ⟨xcal_v (na := 1) (c12_fitsOf hX l) mf12_fitsOf ⟨rfl, rfl⟩ ml12_397 mi12_fitsOf me12_fitsOf (xrm_ok (by omega) (by decide)) rfl (by decide) (by decide +kernel), fun _ h => absurd h List.not_mem_nil⟩⟩⟩)
   (xrm_1 (by decide)) ⟨_, _, rfl, rfl⟩ (fun av μ r μ' h => by
    unfold F12_spare at h
    split at h
    · replace h := cond_inv h; obtain ⟨hb, h⟩ := h
      simp only [Bool.and_eq_true] at hb
      obtain ⟨g0, g1⟩ := hb
      obtain rfl := Nat.eq_of_beq_eq_true g0
      obtain rfl := Nat.eq_of_beq_eq_true g1
      exact ⟨Nat.le_of_ble_eq_true rfl, (q12_spare _  _).trans ((f12_spare_e  _).symm.trans h)⟩
    · cases h)
