def t0_clear : List XE := [(0, .aload_n 0, 0, 0, 0, 0, []),
  (1, .iconst 0, 0, 0, 0, 0, []),
  (2, .putfield 18, 0, 2, 0, 0, []),
  (5, .return_, 0, 0, 0, 0, [])]
noncomputable def e0_clear : XN := []
noncomputable def f0_clear (μ : XM) : XR :=
  mS (sI μ 0 0 2 0) fun m1 =>
  xrv m1
set_option maxRecDepth 100000 in
theorem q0_clear (n : Nat) (μ : XM) : xrun t0_clear e0_clear (xrtk none) 9 n (xlo [xr 0 0 0] 1) μ = f0_clear  μ := rfl
noncomputable def F0_clear : XF := fun av μ => match av with
  | [.inr (.inr (some (t0, i0, 0)))] => bif Nat.beq t0 0 && Nat.beq i0 0 then f0_clear  μ else none
  | _ => none
set_option maxRecDepth 100000 in
theorem c0_clear {X : XP} (hX : XOK X) (l : Launch) : Ctr X l y0_clear prog_2_method_2_code 1 none (xrm 1) 0 0 F0_clear :=
  Ctr_of (tab := t0_clear) (env := e0_clear) (K := 9) (N := 20000) (fl := fl0) (cl := cl0) (ll := ll0) (jl := jl0) hX mf0_clear.2.2.2 ⟨by decide +kernel, flk0, clk0, llk0, jlk0⟩
   (fun _ h => absurd h List.not_mem_nil)
   (xrm_1 (by decide)) ⟨_, _, rfl, rfl⟩ (fun av μ r μ' h => by
    unfold F0_clear at h
    split at h
    · replace h := cond_inv h; obtain ⟨hb, h⟩ := h
      simp only [Bool.and_eq_true] at hb
      obtain ⟨g0, g1⟩ := hb
      obtain rfl := Nat.eq_of_beq_eq_true g0
      obtain rfl := Nat.eq_of_beq_eq_true g1
      exact ⟨Nat.le_of_ble_eq_true rfl, (q0_clear _ _).trans h⟩
    · cases h)
def t8_copyFrom : List XE := [(0, .aload_n 1, 1, 0, 0, 0, []),
  (1, .getfield 9, 8, 1, 0, 0, []),
  (4, .iconst 0, 0, 0, 0, 0, []),
  (5, .aload_n 0, 0, 0, 0, 0, []),
  (6, .getfield 9, 8, 1, 0, 0, []),
  (9, .iconst 0, 0, 0, 0, 0, []),
  (10, .bipush 6, 0, 0, 6, 0, []),
  (12, .invokestatic 49, 0, 4, 0, 0, []),
  (15, .aload_n 1, 1, 0, 0, 0, []),
  (16, .getfield 15, 8, 2, 0, 0, []),
  (19, .iconst 0, 0, 0, 0, 0, []),
  (20, .aload_n 0, 0, 0, 0, 0, []),
  (21, .getfield 15, 8, 2, 0, 0, []),
  (24, .iconst 0, 0, 0, 0, 0, []),
  (25, .bipush 6, 0, 0, 6, 0, []),
  (27, .invokestatic 49, 0, 4, 0, 0, []),
  (30, .aload_n 1, 1, 0, 0, 0, []),
  (31, .getfield 18, 8, 3, 0, 0, []),
  (34, .iconst 0, 0, 0, 0, 0, []),
  (35, .aload_n 0, 0, 0, 0, 0, []),
  (36, .getfield 18, 8, 3, 0, 0, []),
  (39, .iconst 0, 0, 0, 0, 0, []),
  (40, .bipush 6, 0, 0, 6, 0, []),
  (42, .invokestatic 49, 0, 4, 0, 0, []),
  (45, .aload_n 1, 1, 0, 0, 0, []),
  (46, .getfield 21, 8, 4, 0, 0, []),
  (49, .iconst 0, 0, 0, 0, 0, []),
  (50, .aload_n 0, 0, 0, 0, 0, []),
  (51, .getfield 21, 8, 4, 0, 0, []),
  (54, .iconst 0, 0, 0, 0, 0, []),
  (55, .bipush 6, 0, 0, 6, 0, []),
  (57, .invokestatic 49, 0, 4, 0, 0, []),
  (60, .aload_n 0, 0, 0, 0, 0, []),
  (61, .aload_n 1, 1, 0, 0, 0, []),
  (62, .getfield 32, 8, 5, 0, 0, []),
  (65, .putfield 32, 8, 5, 0, 0, []),
  (68, .aload_n 0, 0, 0, 0, 0, []),
  (69, .aload_n 1, 1, 0, 0, 0, []),
  (70, .getfield 39, 8, 6, 0, 0, []),
  (73, .putfield 39, 8, 6, 0, 0, []),
  (76, .aload_n 0, 0, 0, 0, 0, []),
  (77, .aload_n 1, 1, 0, 0, 0, []),
  (78, .getfield 43, 8, 7, 0, 0, []),
  (81, .putfield 43, 8, 7, 0, 0, []),
  (84, .aload_n 0, 0, 0, 0, 0, []),
  (85, .aload_n 1, 1, 0, 0, 0, []),
  (86, .getfield 46, 8, 8, 0, 0, []),
  (89, .putfield 46, 8, 8, 0, 0, []),
  (92, .return_, 0, 0, 0, 0, [])]
noncomputable def e8_copyFrom : XN := []
noncomputable def f8_copyFrom (i0 : Nat) (i1 : Nat) (μ : XM) : XR :=
  xck (xcpok 0 0 6 6 6) <|
  mS (wI μ 8 i0 1 (va_cpy (aI μ 8 i1 1) (aI μ 8 i0 1) (Int32.toNatClampNeg 0) (Int32.toNatClampNeg 0) (Int32.toNatClampNeg 6))) fun m1 =>
  xck (xcpok 0 0 6 6 6) <|
  mS (wI m1 8 i0 2 (va_cpy (aI m1 8 i1 2) (aI m1 8 i0 2) (Int32.toNatClampNeg 0) (Int32.toNatClampNeg 0) (Int32.toNatClampNeg 6))) fun m2 =>
  xck (xcpok 0 0 6 6 6) <|
  mS (wI m2 8 i0 3 (va_cpy (aI m2 8 i1 3) (aI m2 8 i0 3) (Int32.toNatClampNeg 0) (Int32.toNatClampNeg 0) (Int32.toNatClampNeg 6))) fun m3 =>
  xck (xcpok 0 0 6 6 6) <|
  mS (wI m3 8 i0 4 (va_cpy (aI m3 8 i1 4) (aI m3 8 i0 4) (Int32.toNatClampNeg 0) (Int32.toNatClampNeg 0) (Int32.toNatClampNeg 6))) fun m4 =>
  mS (sI m4 8 i0 5 (rI m4 8 i1 5)) fun m5 =>
  mS (sI m5 8 i0 6 (rI m5 8 i1 6)) fun m6 =>
  mS (sI m6 8 i0 7 (rI m6 8 i1 7)) fun m7 =>
  mS (sI m7 8 i0 8 (rI m7 8 i1 8)) fun m8 =>
  xrv m8
set_option maxRecDepth 100000 in
theorem q8_copyFrom (n : Nat) (i0 : Nat) (i1 : Nat) (μ : XM) : xrun t8_copyFrom e8_copyFrom (xrtk none) 54 n (xlo [xr 8 i0 0, xr 8 i1 0] 2) μ = f8_copyFrom i0 i1 μ := rfl
noncomputable def F8_copyFrom : XF := fun av μ => match av with
  | [.inr (.inr (some (t0, i0, 0))), .inr (.inr (some (t1, i1, 0)))] => bif Nat.beq t0 8 && Nat.beq t1 8 then f8_copyFrom i0 i1 μ else none
  | _ => none
set_option maxRecDepth 100000 in
theorem c8_copyFrom {X : XP} (hX : XOK X) (l : Launch) : Ctr X l y8_copyFrom prog_10_method_3_code 2 none (xrm 1) 0 0 F8_copyFrom :=
  Ctr_of (tab := t8_copyFrom) (env := e8_copyFrom) (K := 54) (N := 20000) (fl := fl8) (cl := cl8) (ll := ll8) (jl := jl8) hX mf8_copyFrom.2.2.2 ⟨by decide +kernel, flk8, clk8, llk8, jlk8⟩
   (fun _ h => absurd h List.not_mem_nil)
   (xrm_1 (by decide)) ⟨_, _, rfl, rfl⟩ (fun av μ r μ' h => by
    unfold F8_copyFrom at h
    split at h
    · replace h := cond_inv h; obtain ⟨hb, h⟩ := h
      simp only [Bool.and_eq_true] at hb
      obtain ⟨g0, g1⟩ := hb
      obtain rfl := Nat.eq_of_beq_eq_true g0
      obtain rfl := Nat.eq_of_beq_eq_true g1
      exact ⟨Nat.le_of_ble_eq_true rfl, (q8_copyFrom _ _ _ _).trans h⟩
    · cases h)
def t0_keep : List XE := [(0, .aload_n 0, 0, 0, 0, 0, []),
  (1, .getfield 11, 0, 0, 0, 0, []),
  (4, .aload_n 0, 0, 0, 0, 0, []),
  (5, .getfield 22, 0, 1, 0, 0, []),
  (8, .bipush 16, 0, 0, 16, 0, []),
  (10, .irem, 0, 0, 0, 0, []),
  (11, .aaload, 0, 0, 0, 0, []),
  (12, .astore_n 2, 2, 0, 0, 0, []),
  (13, .aload_n 2, 2, 0, 0, 0, []),
  (14, .ifnonnull 4, 18, 0, 0, 0, []),
  (17, .return_, 0, 0, 0, 0, []),
  (18, .aload_n 2, 2, 0, 0, 0, []),
  (19, .aload_n 1, 1, 0, 0, 0, []),
  (20, .invokevirtual 25, 2, 8, 0, 0, []),
  (23, .aload_n 0, 0, 0, 0, 0, []),
  (24, .aload_n 0, 0, 0, 0, 0, []),
  (25, .getfield 22, 0, 1, 0, 0, []),
  (28, .iconst 1, 0, 0, 1, 0, []),
  (29, .iadd, 0, 0, 0, 0, []),
  (30, .bipush 16, 0, 0, 16, 0, []),
  (32, .irem, 0, 0, 0, 0, []),
  (33, .putfield 22, 0, 1, 0, 0, []),
  (36, .aload_n 0, 0, 0, 0, 0, []),
  (37, .bipush 16, 0, 0, 16, 0, []),
  (39, .aload_n 0, 0, 0, 0, 0, []),
  (40, .getfield 18, 0, 2, 0, 0, []),
  (43, .iconst 1, 0, 0, 1, 0, []),
  (44, .iadd, 0, 0, 0, 0, []),
  (45, .invokestatic 29, 0, 2, 0, 0, []),
  (48, .putfield 18, 0, 2, 0, 0, []),
  (51, .return_, 0, 0, 0, 0, [])]
noncomputable def e0_keep : XN := [(25, 0, 2, 8, F8_copyFrom)]
noncomputable def f0_keep (i1 : Nat) (μ : XM) : XR :=
  xite ((16 : Int32) = 0) none <|
  xck (xin ((rI μ 0 0 1) - (rI μ 0 0 1) / 16 * 16) 16) <|
  bV (f8_copyFrom (2 + Int32.toNatClampNeg ((rI μ 0 0 1) - (rI μ 0 0 1) / 16 * 16)) i1 μ) fun m1 =>
  xite ((16 : Int32) = 0) none <|
  mS (sI m1 0 0 1 (((rI m1 0 0 1) + 1) - ((rI m1 0 0 1) + 1) / 16 * 16)) fun m2 =>
  mS (sI m2 0 0 2 (if ((rI m2 0 0 2) + 1) < 16 then ((rI m2 0 0 2) + 1) else 16)) fun m3 =>
  xrv m3
set_option maxRecDepth 100000 in
theorem q0_keep (n : Nat) (i1 : Nat) (μ : XM) : xrun t0_keep e0_keep (xrtk none) 36 n (xlo [xr 0 0 0, xr 8 i1 0] 3) μ = f0_keep i1 μ := rfl
noncomputable def F0_keep : XF := fun av μ => match av with
  | [.inr (.inr (some (t0, i0, 0))), .inr (.inr (some (t1, i1, 0)))] => bif Nat.beq t0 0 && Nat.beq i0 0 && Nat.beq t1 8 then f0_keep i1 μ else none
  | _ => none
set_option maxRecDepth 100000 in
theorem c0_keep {X : XP} (hX : XOK X) (l : Launch) : Ctr X l y0_keep prog_2_method_3_code 3 none (xrm 2) 0 0 F0_keep :=
  Ctr_of (tab := t0_keep) (env := e0_keep) (K := 36) (N := 20000) (fl := fl0) (cl := cl0) (ll := ll0) (jl := jl0) hX mf0_keep.2.2.2 ⟨by decide +kernel, flk0, clk0, llk0, jlk0⟩
   (List.forall_mem_cons.mpr ⟨xcal_v (na := 1) (c8_copyFrom hX l) mf8_copyFrom ⟨rfl, rfl⟩ ml0_25 mi8_copyFrom me8_copyFrom (xrm_ok (by omega) (by decide)) rfl (by decide) (by decide +kernel), fun _ h => absurd h List.not_mem_nil⟩)
   (xrm_1 (by decide)) ⟨_, _, rfl, rfl⟩ (fun av μ r μ' h => by
    unfold F0_keep at h
    split at h
    · replace h := cond_inv h; obtain ⟨hb, h⟩ := h
      simp only [Bool.and_eq_true] at hb
      obtain ⟨⟨g0, g1⟩, g2⟩ := hb
      obtain rfl := Nat.eq_of_beq_eq_true g0
      obtain rfl := Nat.eq_of_beq_eq_true g1
      obtain rfl := Nat.eq_of_beq_eq_true g2
      exact ⟨Nat.le_of_ble_eq_true rfl, (q0_keep _ _ _).trans h⟩
    · cases h)
def t0_bringBack : List XE := [(0, .aload_n 0, 0, 0, 0, 0, []),
  (1, .getfield 22, 0, 1, 0, 0, []),
  (4, .bipush 16, 0, 0, 16, 0, []),
  (6, .iadd, 0, 0, 0, 0, []),
  (7, .iconst 1, 0, 0, 1, 0, []),
  (8, .isub, 0, 0, 0, 0, []),
  (9, .bipush 16, 0, 0, 16, 0, []),
  (11, .irem, 0, 0, 0, 0, []),
  (12, .istore_n 2, 2, 0, 0, 0, []),
  (13, .aload_n 0, 0, 0, 0, 0, []),
  (14, .getfield 11, 0, 0, 0, 0, []),
  (17, .iload_n 2, 2, 0, 0, 0, []),
  (18, .aaload, 0, 0, 0, 0, []),
  (19, .astore_n 3, 3, 0, 0, 0, []),
  (20, .aload_n 0, 0, 0, 0, 0, []),
  (21, .getfield 18, 0, 2, 0, 0, []),
  (24, .ifCond .eq 7, 31, 0, 0, 0, []),
  (27, .aload_n 3, 3, 0, 0, 0, []),
  (28, .ifnonnull 5, 33, 0, 0, 0, []),
  (31, .iconst 0, 0, 0, 0, 0, []),
  (32, .ireturn, 0, 0, 0, 0, []),
  (33, .aload_n 1, 1, 0, 0, 0, []),
  (34, .aload_n 3, 3, 0, 0, 0, []),
  (35, .invokevirtual 25, 2, 8, 0, 0, []),
  (38, .aload_n 0, 0, 0, 0, 0, []),
  (39, .iload_n 2, 2, 0, 0, 0, []),
  (40, .putfield 22, 0, 1, 0, 0, []),
  (43, .aload_n 0, 0, 0, 0, 0, []),
  (44, .dup, 0, 0, 0, 0, []),
  (45, .getfield 18, 0, 2, 0, 0, []),
  (48, .iconst 1, 0, 0, 1, 0, []),
  (49, .isub, 0, 0, 0, 0, []),
  (50, .putfield 18, 0, 2, 0, 0, []),
  (53, .iconst 1, 0, 0, 1, 0, []),
  (54, .ireturn, 0, 0, 0, 0, [])]
noncomputable def e0_bringBack : XN := [(25, 0, 2, 8, F8_copyFrom)]
noncomputable def f0_bringBack (i1 : Nat) (μ : XM) : XR :=
  xite ((16 : Int32) = 0) none <|
  vI ((((rI μ 0 0 1) + 16) - 1) - (((rI μ 0 0 1) + 16) - 1) / 16 * 16) fun x1 =>
  xck (xin x1 16) <|
  xite ((rI μ 0 0 2) = 0) (
    xrb 0 μ) (
    bV (f8_copyFrom i1 (2 + Int32.toNatClampNeg x1) μ) fun m2 =>
    mS (sI m2 0 0 1 x1) fun m3 =>
    mS (sI m3 0 0 2 ((rI m3 0 0 2) - 1)) fun m4 =>
    xrb 1 m4)
set_option maxRecDepth 100000 in
theorem q0_bringBack (n : Nat) (i1 : Nat) (μ : XM) : xrun t0_bringBack e0_bringBack (xrtk (some .boolean)) 40 n (xlo [xr 0 0 0, xr 8 i1 0] 4) μ = f0_bringBack i1 μ := rfl
noncomputable def F0_bringBack : XF := fun av μ => match av with
  | [.inr (.inr (some (t0, i0, 0))), .inr (.inr (some (t1, i1, 0)))] => bif Nat.beq t0 0 && Nat.beq i0 0 && Nat.beq t1 8 then f0_bringBack i1 μ else none
  | _ => none
set_option maxRecDepth 100000 in
theorem c0_bringBack {X : XP} (hX : XOK X) (l : Launch) : Ctr X l y0_bringBack prog_2_method_4_code 4 (some .boolean) (xrm 2) 0 0 F0_bringBack :=
  Ctr_of (tab := t0_bringBack) (env := e0_bringBack) (K := 40) (N := 20000) (fl := fl0) (cl := cl0) (ll := ll0) (jl := jl0) hX mf0_bringBack.2.2.2 ⟨by decide +kernel, flk0, clk0, llk0, jlk0⟩
   (List.forall_mem_cons.mpr ⟨xcal_v (na := 1) (c8_copyFrom hX l) mf8_copyFrom ⟨rfl, rfl⟩ ml0_25 mi8_copyFrom me8_copyFrom (xrm_ok (by omega) (by decide)) rfl (by decide) (by decide +kernel), fun _ h => absurd h List.not_mem_nil⟩)
   (xrm_1 (by decide)) ⟨_, _, rfl, rfl⟩ (fun av μ r μ' h => by
    unfold F0_bringBack at h
    split at h
    · replace h := cond_inv h; obtain ⟨hb, h⟩ := h
      simp only [Bool.and_eq_true] at hb
      obtain ⟨⟨g0, g1⟩, g2⟩ := hb
      obtain rfl := Nat.eq_of_beq_eq_true g0
      obtain rfl := Nat.eq_of_beq_eq_true g1
      obtain rfl := Nat.eq_of_beq_eq_true g2
      exact ⟨Nat.le_of_ble_eq_true rfl, (q0_bringBack _ _ _).trans h⟩
    · cases h)
def tJ_bitCount : List XE := [(0, .iload_n 0, 0, 0, 0, 0, []),
  (1, .iload_n 0, 0, 0, 0, 0, []),
  (2, .iconst 1, 0, 0, 1, 0, []),
  (3, .iushr, 0, 0, 0, 0, []),
  (4, .ldc_w 265, 0, 0, 1431655765, 0, []),
  (7, .iand, 0, 0, 0, 0, []),
  (8, .isub, 0, 0, 0, 0, []),
  (9, .istore_n 0, 0, 0, 0, 0, []),
  (10, .iload_n 0, 0, 0, 0, 0, []),
  (11, .ldc_w 266, 0, 0, 858993459, 0, []),
  (14, .iand, 0, 0, 0, 0, []),
  (15, .iload_n 0, 0, 0, 0, 0, []),
  (16, .iconst 2, 0, 0, 2, 0, []),
  (17, .iushr, 0, 0, 0, 0, []),
  (18, .ldc_w 266, 0, 0, 858993459, 0, []),
  (21, .iand, 0, 0, 0, 0, []),
  (22, .iadd, 0, 0, 0, 0, []),
  (23, .istore_n 0, 0, 0, 0, 0, []),
  (24, .iload_n 0, 0, 0, 0, 0, []),
  (25, .iload_n 0, 0, 0, 0, 0, []),
  (26, .iconst 4, 0, 0, 4, 0, []),
  (27, .iushr, 0, 0, 0, 0, []),
  (28, .iadd, 0, 0, 0, 0, []),
  (29, .ldc_w 267, 0, 0, 252645135, 0, []),
  (32, .iand, 0, 0, 0, 0, []),
  (33, .istore_n 0, 0, 0, 0, 0, []),
  (34, .iload_n 0, 0, 0, 0, 0, []),
  (35, .iload_n 0, 0, 0, 0, 0, []),
  (36, .bipush 8, 0, 0, 8, 0, []),
  (38, .iushr, 0, 0, 0, 0, []),
  (39, .iadd, 0, 0, 0, 0, []),
  (40, .istore_n 0, 0, 0, 0, 0, []),
  (41, .iload_n 0, 0, 0, 0, 0, []),
  (42, .iload_n 0, 0, 0, 0, 0, []),
  (43, .bipush 16, 0, 0, 16, 0, []),
  (45, .iushr, 0, 0, 0, 0, []),
  (46, .iadd, 0, 0, 0, 0, []),
  (47, .istore_n 0, 0, 0, 0, 0, []),
  (48, .iload_n 0, 0, 0, 0, 0, []),
  (49, .bipush 63, 0, 0, 63, 0, []),
  (51, .iand, 0, 0, 0, 0, []),
  (52, .ireturn, 0, 0, 0, 0, [])]
noncomputable def eJ_bitCount : XN := []
noncomputable def fJ_bitCount (p0 : Int32) (μ : XM) : XR :=
  vI (p0 - (((Int32.toUInt32 p0) >>> ((Int32.toUInt32 1) &&& Int32.toUInt32 31)).toInt32 &&& 1431655765)) fun x1 =>
  vI ((x1 &&& 858993459) + (((Int32.toUInt32 x1) >>> ((Int32.toUInt32 2) &&& Int32.toUInt32 31)).toInt32 &&& 858993459)) fun x2 =>
  vI ((x2 + ((Int32.toUInt32 x2) >>> ((Int32.toUInt32 4) &&& Int32.toUInt32 31)).toInt32) &&& 252645135) fun x3 =>
  vI (x3 + ((Int32.toUInt32 x3) >>> ((Int32.toUInt32 8) &&& Int32.toUInt32 31)).toInt32) fun x4 =>
  vI (x4 + ((Int32.toUInt32 x4) >>> ((Int32.toUInt32 16) &&& Int32.toUInt32 31)).toInt32) fun x5 =>
  xri (x5 &&& 63) μ
set_option maxRecDepth 100000 in
theorem qJ_bitCount (n : Nat) (p0 : Int32) (μ : XM) : xrun tJ_bitCount eJ_bitCount (xrtk (some .int)) 47 n (xlo [xi p0] 1) μ = fJ_bitCount p0 μ := rfl
noncomputable def FJ_bitCount : XF := fun av μ => match av with
  | [.inl p0] => fJ_bitCount p0 μ
  | _ => none
set_option maxRecDepth 100000 in
theorem cJ_bitCount {X : XP} (hX : XOK X) (l : Launch) : Ctr X l yJ_bitCount prog_20_method_49_code 1 (some .int) (xrm 1) 0 0 FJ_bitCount :=
  Ctr_of (tab := tJ_bitCount) (env := eJ_bitCount) (K := 47) (N := 20000) (fl := flJ) (cl := clJ) (ll := llJ) (jl := jlJ) hX mfJ_bitCount.2.2.2 ⟨by decide +kernel, flkJ, clkJ, llkJ, jlkJ⟩
   (fun _ h => absurd h List.not_mem_nil)
   (xrm_1 (by decide)) ⟨_, _, rfl, rfl⟩ (fun av μ r μ' h => by
    unfold FJ_bitCount at h
    split at h
    · exact ⟨Nat.le_of_ble_eq_true rfl, (qJ_bitCount _ _ _).trans h⟩
    · cases h)
def t1_clear : List XE := [(0, .aload_n 0, 0, 0, 0, 0, []),
  (1, .iconst 0, 0, 0, 0, 0, []),
  (2, .putfield 24, 1, 0, 0, 0, []),
  (5, .return_, 0, 0, 0, 0, [])]
noncomputable def e1_clear : XN := []
noncomputable def f1_clear (i0 : Nat) (μ : XM) : XR :=
  mS (sI μ 1 i0 0 0) fun m1 =>
  xrv m1
set_option maxRecDepth 100000 in
theorem q1_clear (n : Nat) (i0 : Nat) (μ : XM) : xrun t1_clear e1_clear (xrtk none) 9 n (xlo [xr 1 i0 0] 1) μ = f1_clear i0 μ := rfl
noncomputable def F1_clear : XF := fun av μ => match av with
  | [.inr (.inr (some (t0, i0, 0)))] => bif Nat.beq t0 1 then f1_clear i0 μ else none
  | _ => none
set_option maxRecDepth 100000 in
theorem c1_clear {X : XP} (hX : XOK X) (l : Launch) : Ctr X l y1_clear prog_3_method_2_code 1 none (xrm 1) 0 0 F1_clear :=
  Ctr_of (tab := t1_clear) (env := e1_clear) (K := 9) (N := 20000) (fl := fl1) (cl := cl1) (ll := ll1) (jl := jl1) hX mf1_clear.2.2.2 ⟨by decide +kernel, flk1, clk1, llk1, jlk1⟩
   (fun _ h => absurd h List.not_mem_nil)
   (xrm_1 (by decide)) ⟨_, _, rfl, rfl⟩ (fun av μ r μ' h => by
    unfold F1_clear at h
    split at h
    · replace h := cond_inv h; obtain ⟨hb, h⟩ := h
      obtain rfl := Nat.eq_of_beq_eq_true hb
      exact ⟨Nat.le_of_ble_eq_true rfl, (q1_clear _ _ _).trans h⟩
    · cases h)
def t1_copyFrom : List XE := [(0, .aload_n 0, 0, 0, 0, 0, []),
  (1, .aload_n 1, 1, 0, 0, 0, []),
  (2, .getfield 24, 1, 0, 0, 0, []),
  (5, .putfield 24, 1, 0, 0, 0, []),
  (8, .aload_n 1, 1, 0, 0, 0, []),
  (9, .getfield 11, 1, 1, 0, 0, []),
  (12, .iconst 0, 0, 0, 0, 0, []),
  (13, .aload_n 0, 0, 0, 0, 0, []),
  (14, .getfield 11, 1, 1, 0, 0, []),
  (17, .iconst 0, 0, 0, 0, 0, []),
  (18, .bipush 40, 0, 0, 40, 0, []),
  (20, .invokestatic 28, 0, 4, 0, 0, []),
  (23, .aload_n 1, 1, 0, 0, 0, []),
  (24, .getfield 15, 1, 2, 0, 0, []),
  (27, .iconst 0, 0, 0, 0, 0, []),
  (28, .aload_n 0, 0, 0, 0, 0, []),
  (29, .getfield 15, 1, 2, 0, 0, []),
  (32, .iconst 0, 0, 0, 0, 0, []),
  (33, .bipush 40, 0, 0, 40, 0, []),
  (35, .invokestatic 28, 0, 4, 0, 0, []),
  (38, .aload_n 1, 1, 0, 0, 0, []),
  (39, .getfield 18, 1, 3, 0, 0, []),
  (42, .iconst 0, 0, 0, 0, 0, []),
  (43, .aload_n 0, 0, 0, 0, 0, []),
  (44, .getfield 18, 1, 3, 0, 0, []),
  (47, .iconst 0, 0, 0, 0, 0, []),
  (48, .bipush 40, 0, 0, 40, 0, []),
  (50, .invokestatic 28, 0, 4, 0, 0, []),
  (53, .aload_n 1, 1, 0, 0, 0, []),
  (54, .getfield 21, 1, 4, 0, 0, []),
  (57, .iconst 0, 0, 0, 0, 0, []),
  (58, .aload_n 0, 0, 0, 0, 0, []),
  (59, .getfield 21, 1, 4, 0, 0, []),
  (62, .iconst 0, 0, 0, 0, 0, []),
  (63, .bipush 40, 0, 0, 40, 0, []),
  (65, .invokestatic 28, 0, 4, 0, 0, []),
  (68, .return_, 0, 0, 0, 0, [])]
noncomputable def e1_copyFrom : XN := []
noncomputable def f1_copyFrom (i0 : Nat) (i1 : Nat) (μ : XM) : XR :=
  mS (sI μ 1 i0 0 (rI μ 1 i1 0)) fun m1 =>
  xck (xcpok 0 0 40 40 40) <|
  mS (wI m1 1 i0 1 (va_cpy (aI m1 1 i1 1) (aI m1 1 i0 1) (Int32.toNatClampNeg 0) (Int32.toNatClampNeg 0) (Int32.toNatClampNeg 40))) fun m2 =>
  xck (xcpok 0 0 40 40 40) <|
  mS (wI m2 1 i0 2 (va_cpy (aI m2 1 i1 2) (aI m2 1 i0 2) (Int32.toNatClampNeg 0) (Int32.toNatClampNeg 0) (Int32.toNatClampNeg 40))) fun m3 =>
  xck (xcpok 0 0 40 40 40) <|
  mS (wI m3 1 i0 3 (va_cpy (aI m3 1 i1 3) (aI m3 1 i0 3) (Int32.toNatClampNeg 0) (Int32.toNatClampNeg 0) (Int32.toNatClampNeg 40))) fun m4 =>
  xck (xcpok 0 0 40 40 40) <|
  mS (wI m4 1 i0 4 (va_cpy (aI m4 1 i1 4) (aI m4 1 i0 4) (Int32.toNatClampNeg 0) (Int32.toNatClampNeg 0) (Int32.toNatClampNeg 40))) fun m5 =>
  xrv m5
set_option maxRecDepth 100000 in
theorem q1_copyFrom (n : Nat) (i0 : Nat) (i1 : Nat) (μ : XM) : xrun t1_copyFrom e1_copyFrom (xrtk none) 42 n (xlo [xr 1 i0 0, xr 1 i1 0] 2) μ = f1_copyFrom i0 i1 μ := rfl
noncomputable def F1_copyFrom : XF := fun av μ => match av with
  | [.inr (.inr (some (t0, i0, 0))), .inr (.inr (some (t1, i1, 0)))] => bif Nat.beq t0 1 && Nat.beq t1 1 then f1_copyFrom i0 i1 μ else none
  | _ => none
set_option maxRecDepth 100000 in
theorem c1_copyFrom {X : XP} (hX : XOK X) (l : Launch) : Ctr X l y1_copyFrom prog_3_method_3_code 2 none (xrm 1) 0 0 F1_copyFrom :=
  Ctr_of (tab := t1_copyFrom) (env := e1_copyFrom) (K := 42) (N := 20000) (fl := fl1) (cl := cl1) (ll := ll1) (jl := jl1) hX mf1_copyFrom.2.2.2 ⟨by decide +kernel, flk1, clk1, llk1, jlk1⟩
   (fun _ h => absurd h List.not_mem_nil)
   (xrm_1 (by decide)) ⟨_, _, rfl, rfl⟩ (fun av μ r μ' h => by
    unfold F1_copyFrom at h
    split at h
    · replace h := cond_inv h; obtain ⟨hb, h⟩ := h
      simp only [Bool.and_eq_true] at hb
      obtain ⟨g0, g1⟩ := hb
      obtain rfl := Nat.eq_of_beq_eq_true g0
      obtain rfl := Nat.eq_of_beq_eq_true g1
      exact ⟨Nat.le_of_ble_eq_true rfl, (q1_copyFrom _ _ _ _).trans h⟩
    · cases h)
def t10_signAt : List XE := [(0, .iload_n 1, 1, 0, 0, 0, []),
  (1, .ifCond .lt 29, 30, 0, 0, 0, []),
  (4, .iload_n 1, 1, 0, 0, 0, []),
  (5, .aload_n 0, 0, 0, 0, 0, []),
  (6, .getfield 13, 10, 1, 0, 0, []),
  (9, .if_icmp .ge 21, 30, 0, 0, 0, []),
  (12, .iload_n 1, 1, 0, 0, 0, []),
  (13, .aload_n 0, 0, 0, 0, 0, []),
  (14, .getfield 9, 10, 0, 0, 0, []),
  (17, .arraylength, 0, 0, 0, 0, []),
  (18, .if_icmp .ge 12, 30, 0, 0, 0, []),
  (21, .aload_n 0, 0, 0, 0, 0, []),
  (22, .getfield 9, 10, 0, 0, 0, []),
  (25, .iload_n 1, 1, 0, 0, 0, []),
  (26, .caload, 0, 0, 0, 0, []),
  (27, .goto 5, 32, 0, 0, 0, []),
  (30, .bipush 32, 0, 0, 32, 0, []),
  (32, .ireturn, 0, 0, 0, 0, [])]
noncomputable def e10_signAt : XN := []
noncomputable def f10_signAt (p1 : Int32) (μ : XM) : XR :=
  xite (p1 < 0) (
    xrc 32 μ) (
    xite (p1 < (rI μ 10 0 1)) (
      xite (p1 < (nI 1000)) (
        xck (xin p1 1000) <|
        xrc (aI μ 10 0 0 (Int32.toNatClampNeg p1)) μ) (
        xrc 32 μ)) (
      xrc 32 μ))
set_option maxRecDepth 100000 in
theorem q10_signAt (n : Nat) (p1 : Int32) (μ : XM) : xrun t10_signAt e10_signAt (xrtk (some .char)) 23 n (xlo [xr 10 0 0, xi p1] 2) μ = f10_signAt p1 μ := rfl
noncomputable def F10_signAt : XF := fun av μ => match av with
  | [.inr (.inr (some (t0, i0, 0))), .inl p1] => bif Nat.beq t0 10 && Nat.beq i0 0 then f10_signAt p1 μ else none
  | _ => none
set_option maxRecDepth 100000 in
theorem c10_signAt {X : XP} (hX : XOK X) (l : Launch) : Ctr X l y10_signAt prog_12_method_4_code 2 (some .char) (xrm 1) 0 0 F10_signAt :=
  Ctr_of (tab := t10_signAt) (env := e10_signAt) (K := 23) (N := 20000) (fl := fl10) (cl := cl10) (ll := ll10) (jl := jl10) hX mf10_signAt.2.2.2 ⟨by decide +kernel, flk10, clk10, llk10, jlk10⟩
   (fun _ h => absurd h List.not_mem_nil)
   (xrm_1 (by decide)) ⟨_, _, rfl, rfl⟩ (fun av μ r μ' h => by
    unfold F10_signAt at h
    split at h
    · replace h := cond_inv h; obtain ⟨hb, h⟩ := h
      simp only [Bool.and_eq_true] at hb
      obtain ⟨g0, g1⟩ := hb
      obtain rfl := Nat.eq_of_beq_eq_true g0
      obtain rfl := Nat.eq_of_beq_eq_true g1
      exact ⟨Nat.le_of_ble_eq_true rfl, (q10_signAt _ _ _).trans h⟩
    · cases h)
def t10_isBlank : List XE := [(0, .iload_n 0, 0, 0, 0, 0, []),
  (1, .bipush 32, 0, 0, 32, 0, []),
  (3, .if_icmp .eq 9, 12, 0, 0, 0, []),
  (6, .iload_n 0, 0, 0, 0, 0, []),
  (7, .bipush 10, 0, 0, 10, 0, []),
  (9, .if_icmp .ne 7, 16, 0, 0, 0, []),
  (12, .iconst 1, 0, 0, 1, 0, []),
  (13, .goto 4, 17, 0, 0, 0, []),
  (16, .iconst 0, 0, 0, 0, 0, []),
  (17, .ireturn, 0, 0, 0, 0, [])]
noncomputable def e10_isBlank : XN := []
noncomputable def f10_isBlank (p0 : Int32) (μ : XM) : XR :=
  xite (p0 = 32) (
    xrb 1 μ) (
    xite (p0 = 10) (
      xrb 1 μ) (
      xrb 0 μ))
set_option maxRecDepth 100000 in
theorem q10_isBlank (n : Nat) (p0 : Int32) (μ : XM) : xrun t10_isBlank e10_isBlank (xrtk (some .boolean)) 15 n (xlo [xi p0] 1) μ = f10_isBlank p0 μ := rfl
noncomputable def F10_isBlank : XF := fun av μ => match av with
  | [.inl p0] => f10_isBlank p0 μ
  | _ => none
set_option maxRecDepth 100000 in
theorem c10_isBlank {X : XP} (hX : XOK X) (l : Launch) : Ctr X l y10_isBlank prog_12_method_7_code 1 (some .boolean) (xrm 1) 0 0 F10_isBlank :=
  Ctr_of (tab := t10_isBlank) (env := e10_isBlank) (K := 15) (N := 20000) (fl := fl10) (cl := cl10) (ll := ll10) (jl := jl10) hX mf10_isBlank.2.2.2 ⟨by decide +kernel, flk10, clk10, llk10, jlk10⟩
   (fun _ h => absurd h List.not_mem_nil)
   (xrm_1 (by decide)) ⟨_, _, rfl, rfl⟩ (fun av μ r μ' h => by
    unfold F10_isBlank at h
    split at h
    · exact ⟨Nat.le_of_ble_eq_true rfl, (q10_isBlank _ _ _).trans h⟩
    · cases h)
def t10_isLetter : List XE := [(0, .iload_n 0, 0, 0, 0, 0, []),
  (1, .bipush 97, 0, 0, 97, 0, []),
  (3, .if_icmp .lt 13, 16, 0, 0, 0, []),
  (6, .iload_n 0, 0, 0, 0, 0, []),
  (7, .bipush 122, 0, 0, 122, 0, []),
  (9, .if_icmp .gt 7, 16, 0, 0, 0, []),
  (12, .iconst 1, 0, 0, 1, 0, []),
  (13, .goto 4, 17, 0, 0, 0, []),
  (16, .iconst 0, 0, 0, 0, 0, []),
  (17, .ireturn, 0, 0, 0, 0, [])]
noncomputable def e10_isLetter : XN := []
noncomputable def f10_isLetter (p0 : Int32) (μ : XM) : XR :=
  xite (p0 < 97) (
    xrb 0 μ) (
    xite ((122 : Int32) < p0) (
      xrb 0 μ) (
      xrb 1 μ))
set_option maxRecDepth 100000 in
theorem q10_isLetter (n : Nat) (p0 : Int32) (μ : XM) : xrun t10_isLetter e10_isLetter (xrtk (some .boolean)) 15 n (xlo [xi p0] 1) μ = f10_isLetter p0 μ := rfl
noncomputable def F10_isLetter : XF := fun av μ => match av with
  | [.inl p0] => f10_isLetter p0 μ
  | _ => none
set_option maxRecDepth 100000 in
theorem c10_isLetter {X : XP} (hX : XOK X) (l : Launch) : Ctr X l y10_isLetter prog_12_method_8_code 1 (some .boolean) (xrm 1) 0 0 F10_isLetter :=
  Ctr_of (tab := t10_isLetter) (env := e10_isLetter) (K := 15) (N := 20000) (fl := fl10) (cl := cl10) (ll := ll10) (jl := jl10) hX mf10_isLetter.2.2.2 ⟨by decide +kernel, flk10, clk10, llk10, jlk10⟩
   (fun _ h => absurd h List.not_mem_nil)
   (xrm_1 (by decide)) ⟨_, _, rfl, rfl⟩ (fun av μ r μ' h => by
    unfold F10_isLetter at h
    split at h
    · exact ⟨Nat.le_of_ble_eq_true rfl, (q10_isLetter _ _ _).trans h⟩
    · cases h)
def t10_kindOf : List XE := [(0, .lconst 0, 0, 0, 0, 0, []),
  (1, .lstore_n 2, 2, 0, 0, 0, []),
  (2, .sipush 128, 0, 0, 128, 0, []),
  (5, .istore 4, 4, 0, 0, 0, []),
  (7, .iconst 0, 0, 0, 0, 0, []),
  (8, .istore 5, 5, 0, 0, 0, []),
  (10, .nop, 53, 0, 0, 0, []),
  (10, .iload 5, 5, 0, 0, 0, []),
  (12, .ldc 67, 0, 1, 0, 0, []),
  (14, .invokevirtual 69, 1, 15, 0, 0, []),
  (17, .if_icmp .ge 57, 74, 0, 0, 0, []),
  (20, .ldc 67, 0, 1, 0, 0, []),
  (22, .iload 5, 5, 0, 0, 0, []),
  (24, .invokevirtual 72, 2, 15, 0, 0, []),
  (27, .istore 6, 6, 0, 0, 0, []),
  (29, .iload 6, 6, 0, 0, 0, []),
  (31, .bipush 32, 0, 0, 32, 0, []),
  (33, .if_icmp .eq 21, 54, 0, 0, 0, []),
  (36, .ldc2_w 47, 0, 0, 0, 32, []),
  (39, .lload_n 2, 2, 0, 0, 0, []),
  (40, .lmul, 0, 0, 0, 0, []),
  (41, .iload 6, 6, 0, 0, 0, []),
  (43, .bipush 97, 0, 0, 97, 0, []),
  (45, .isub, 0, 0, 0, 0, []),
  (46, .iconst 1, 0, 0, 1, 0, []),
  (47, .iadd, 0, 0, 0, 0, []),
  (48, .i2l, 0, 0, 0, 0, []),
  (49, .ladd, 0, 0, 0, 0, []),
  (50, .lstore_n 2, 2, 0, 0, 0, []),
  (51, .goto 17, 68, 0, 0, 0, []),
  (54, .lload_n 2, 2, 0, 0, 0, []),
  (55, .lload_n 0, 0, 0, 0, 0, []),
  (56, .lcmp, 0, 0, 0, 0, []),
  (57, .ifCond .ne 6, 63, 0, 0, 0, []),
  (60, .iload 4, 4, 0, 0, 0, []),
  (62, .ireturn, 0, 0, 0, 0, []),
  (63, .lconst 0, 0, 0, 0, 0, []),
  (64, .lstore_n 2, 2, 0, 0, 0, []),
  (65, .iinc 4 1, 4, 0, 1, 0, []),
  (68, .iinc 5 1, 5, 0, 1, 0, []),
  (71, .goto (-61), 10, 0, 0, 0, []),
  (74, .iconst 3, 0, 0, 3, 0, []),
  (75, .ireturn, 0, 0, 0, 0, [])]
noncomputable def e10_kindOf : XN := [(69, 1, 1, 15, FS_length), (72, 1, 2, 15, FS_charAt)]
noncomputable def h10_kindOf_10 (n : Nat) (v0 : Int64) (v2 : Int64) (v4 : Int32) (v5 : Int32) (μ : XM) : XR := arr t10_kindOf e10_kindOf 1 48 n 10 [some (xl v0), none, some (xl v2), none, some (xi v4), some (xi v5), none] [] μ
set_option maxRecDepth 100000 in
theorem h10_kindOf_10_s (n : Nat) (v0 : Int64) (v2 : Int64) (v4 : Int32) (v5 : Int32) (μ : XM) : h10_kindOf_10 (n + 1) v0 v2 v4 v5 μ =
  bI (fS_length 0 μ) fun r2 m1 =>
  xite (v5 < r2) (
    bI (fS_charAt 0 v5 m1) fun r4 m3 =>
    vI r4 fun x5 =>
    xite (x5 = 32) (
      xite ((lg_cmp v2 v0) = 0) (
        xri v4 m3) (
        vL 0 fun x6 =>
        vI (v4 + 1) fun x7 =>
        vI (v5 + 1) fun x8 =>
        h10_kindOf_10 n v0 x6 x7 x8 m3)) (
      vL ((32 * v2) + (Int32.toInt64 ((x5 - 97) + 1))) fun x9 =>
      vI (v5 + 1) fun x10 =>
      h10_kindOf_10 n v0 x9 v4 x10 m3)) (
    xri 3 m1) := rfl
theorem h10_kindOf_10_0 (v0 : Int64) (v2 : Int64) (v4 : Int32) (v5 : Int32) (μ : XM) : h10_kindOf_10 0 v0 v2 v4 v5 μ = none := rfl
noncomputable def k10_kindOf (n : Nat) (p0 : Int64) (μ : XM) : XR :=
  vL 0 fun x1 =>
  vI 128 fun x2 =>
  vI 0 fun x3 =>
  h10_kindOf_10 n p0 x1 x2 x3 μ
set_option maxRecDepth 100000 in
theorem q10_kindOf (n : Nat) (p0 : Int64) (μ : XM) : xrun t10_kindOf e10_kindOf (xrtk (some .int)) 48 n (xlo [xl p0] 7) μ = k10_kindOf n p0 μ := rfl
noncomputable def f10_kindOf (p0 : Int64) (μ : XM) : XR := k10_kindOf 20000 p0 μ
noncomputable def F10_kindOf : XF := fun av μ => match av with
  | [.inr (.inl p0)] => f10_kindOf p0 μ
  | _ => none
set_option maxRecDepth 100000 in
theorem c10_kindOf {X : XP} (hX : XOK X) (l : Launch) : Ctr X l y10_kindOf prog_12_method_10_code 7 (some .int) (xrm 9) 0 0 F10_kindOf :=
  Ctr_of (tab := t10_kindOf) (env := e10_kindOf) (K := 48) (N := 20000) (fl := fl10) (cl := cl10) (ll := ll10) (jl := jl10) hX mf10_kindOf.2.2.2 ⟨by decide +kernel, flk10, clk10, llk10, jlk10⟩
   (List.forall_mem_cons.mpr ⟨xcal_v (na := 0) (cS_length hX l) mfS_length ⟨rfl, rfl⟩ ml10_69 miS_length meS_length (xrm_ok (by omega) (by decide)) rfl (by decide) (by decide +kernel), List.forall_mem_cons.mpr ⟨xcal_v (na := 1) (cS_charAt hX l) mfS_charAt ⟨rfl, rfl⟩ ml10_72 miS_charAt meS_charAt (xrm_ok (by omega) (by decide)) rfl (by decide) (by decide +kernel), fun _ h => absurd h List.not_mem_nil⟩⟩)
   (xrm_1 (by decide)) ⟨_, _, rfl, rfl⟩ (fun av μ r μ' h => by
    unfold F10_kindOf at h
    split at h
    · exact ⟨Nat.le_of_ble_eq_true rfl, (q10_kindOf _ _ _).trans h⟩
    · cases h)
def t10_isDigit : List XE := [(0, .iload_n 0, 0, 0, 0, 0, []),
  (1, .bipush 48, 0, 0, 48, 0, []),
  (3, .if_icmp .lt 13, 16, 0, 0, 0, []),
  (6, .iload_n 0, 0, 0, 0, 0, []),
  (7, .bipush 57, 0, 0, 57, 0, []),
  (9, .if_icmp .gt 7, 16, 0, 0, 0, []),
  (12, .iconst 1, 0, 0, 1, 0, []),
  (13, .goto 4, 17, 0, 0, 0, []),
  (16, .iconst 0, 0, 0, 0, 0, []),
  (17, .ireturn, 0, 0, 0, 0, [])]
noncomputable def e10_isDigit : XN := []
noncomputable def f10_isDigit (p0 : Int32) (μ : XM) : XR :=
  xite (p0 < 48) (
    xrb 0 μ) (
    xite ((57 : Int32) < p0) (
      xrb 0 μ) (
      xrb 1 μ))
set_option maxRecDepth 100000 in
theorem q10_isDigit (n : Nat) (p0 : Int32) (μ : XM) : xrun t10_isDigit e10_isDigit (xrtk (some .boolean)) 15 n (xlo [xi p0] 1) μ = f10_isDigit p0 μ := rfl
noncomputable def F10_isDigit : XF := fun av μ => match av with
  | [.inl p0] => f10_isDigit p0 μ
  | _ => none
set_option maxRecDepth 100000 in
theorem c10_isDigit {X : XP} (hX : XOK X) (l : Launch) : Ctr X l y10_isDigit prog_12_method_9_code 1 (some .boolean) (xrm 1) 0 0 F10_isDigit :=
  Ctr_of (tab := t10_isDigit) (env := e10_isDigit) (K := 15) (N := 20000) (fl := fl10) (cl := cl10) (ll := ll10) (jl := jl10) hX mf10_isDigit.2.2.2 ⟨by decide +kernel, flk10, clk10, llk10, jlk10⟩
   (fun _ h => absurd h List.not_mem_nil)
   (xrm_1 (by decide)) ⟨_, _, rfl, rfl⟩ (fun av μ r μ' h => by
    unfold F10_isDigit at h
    split at h
    · exact ⟨Nat.le_of_ble_eq_true rfl, (q10_isDigit _ _ _).trans h⟩
    · cases h)
