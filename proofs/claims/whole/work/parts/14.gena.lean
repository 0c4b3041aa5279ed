def t0_clear : List XE := [(0, .aload_n 0, 0, 0, 0, 0, []),
  (1, .iconst 0, 0, 0, 0, 0, []),
  (2, .putfield 18, 0, 2, 0, 0, []),
  (5, .return_, 0, 0, 0, 0, [])]
noncomputable def e0_clear : XN := []
noncomputable def k0_clear (μ : XM) : XR :=
  mS (sI μ 0 0 2 0) fun m1 =>
  xrv m1
set_option maxRecDepth 100000 in
theorem q0_clear (n : Nat) (μ : XM) : xrun t0_clear e0_clear (xrtk none) 9 n (xlo [xr 0 0 0] 1) μ = k0_clear  μ := rfl
theorem x0_clear : ∃ f : XM → XR, ∀ (μ : XM), f μ = k0_clear  μ := ⟨fun μ => k0_clear  μ, fun μ => rfl⟩
noncomputable def f0_clear : XM → XR := Classical.choose x0_clear
theorem f0_clear_e (μ : XM) : f0_clear μ = k0_clear  μ := Classical.choose_spec x0_clear μ
noncomputable def F0_clear : XF := fun av μ => match av with
  | [.inr (.inr (some (t0, i0, 0)))] => bif Nat.beq t0 0 && Nat.beq i0 0 then f0_clear  μ else none
  | _ => none
set_option maxRecDepth 100000 in
theorem c0_clear {X : XP} (hX : XOK X) (l : Launch) : Ctr X l y0_clear prog_2_method_2_code 1 none (xrm 1) 0 0 F0_clear :=
  Ctr_of (tab := t0_clear) (env := e0_clear) (K := 9) (N := 20000) (fl := fl0) (cl := cl0) (ll := ll0) (jl := jl0) hX mf0_clear.2.2.2 ⟨by decide +kernel, flk0, clk0, llk0, jlk0⟩
   (fun _ h => absurd h List.not_mem_nil)
   (xrm_1 (by decide)) ⟨_, _, rfl, rfl⟩ (fun av μ r μ' h => by
    unfold F0_clear at h
    split at h
    · replace h := cond_inv h; obtain ⟨hb, h⟩ := h
      simp only [Bool.and_eq_true] at hb
      obtain ⟨g0, g1⟩ := hb
      obtain rfl := Nat.eq_of_beq_eq_true g0
      obtain rfl := Nat.eq_of_beq_eq_true g1
      exact ⟨Nat.le_of_ble_eq_true rfl, (q0_clear _  _).trans ((f0_clear_e  _).symm.trans h)⟩
    · cases h)
def t8_copyFrom : List XE := [(0, .aload_n 1, 1, 0, 0, 0, []),
  (1, .getfield 9, 8, 1, 0, 0, []),
  (4, .iconst 0, 0, 0, 0, 0, []),
  (5, .aload_n 0, 0, 0, 0, 0, []),
  (6, .getfield 9, 8, 1, 0, 0, []),
  (9, .iconst 0, 0, 0, 0, 0, []),
  (10, .bipush 6, 0, 0, 6, 0, []),
  (12, .invokestatic 49, 0, 4, 0, 0, []),
  (15, .aload_n 1, 1, 0, 0, 0, []),
  (16, .getfield 15, 8, 2, 0, 0, []),
  (19, .iconst 0, 0, 0, 0, 0, []),
  (20, .aload_n 0, 0, 0, 0, 0, []),
  (21, .getfield 15, 8, 2, 0, 0, []),
  (24, .iconst 0, 0, 0, 0, 0, []),
  (25, .bipush 6, 0, 0, 6, 0, []),
  (27, .invokestatic 49, 0, 4, 0, 0, []),
  (30, .aload_n 1, 1, 0, 0, 0, []),
  (31, .getfield 18, 8, 3, 0, 0, []),
  (34, .iconst 0, 0, 0, 0, 0, []),
  (35, .aload_n 0, 0, 0, 0, 0, []),
  (36, .getfield 18, 8, 3, 0, 0, []),
  (39, .iconst 0, 0, 0, 0, 0, []),
  (40, .bipush 6, 0, 0, 6, 0, []),
  (42, .invokestatic 49, 0, 4, 0, 0, []),
  (45, .aload_n 1, 1, 0, 0, 0, []),
  (46, .getfield 21, 8, 4, 0, 0, []),
  (49, .iconst 0, 0, 0, 0, 0, []),
  (50, .aload_n 0, 0, 0, 0, 0, []),
  (51, .getfield 21, 8, 4, 0, 0, []),
  (54, .iconst 0, 0, 0, 0, 0, []),
  (55, .bipush 6, 0, 0, 6, 0, []),
  (57, .invokestatic 49, 0, 4, 0, 0, []),
  (60, .aload_n 0, 0, 0, 0, 0, []),
  (61, .aload_n 1, 1, 0, 0, 0, []),
  (62, .getfield 32, 8, 5, 0, 0, []),
  (65, .putfield 32, 8, 5, 0, 0, []),
  (68, .aload_n 0, 0, 0, 0, 0, []),
  (69, .aload_n 1, 1, 0, 0, 0, []),
  (70, .getfield 39, 8, 6, 0, 0, []),
  (73, .putfield 39, 8, 6, 0, 0, []),
  (76, .aload_n 0, 0, 0, 0, 0, []),
  (77, .aload_n 1, 1, 0, 0, 0, []),
  (78, .getfield 43, 8, 7, 0, 0, []),
  (81, .putfield 43, 8, 7, 0, 0, []),
  (84, .aload_n 0, 0, 0, 0, 0, []),
  (85, .aload_n 1, 1, 0, 0, 0, []),
  (86, .getfield 46, 8, 8, 0, 0, []),
  (89, .putfield 46, 8, 8, 0, 0, []),
  (92, .return_, 0, 0, 0, 0, [])]
noncomputable def e8_copyFrom : XN := []
noncomputable def k8_copyFrom (i0 : Nat) (i1 : Nat) (μ : XM) : XR :=
  xck (xcpok 0 0 6 6 6) <|
  mS (wI μ 8 i0 1 (va_cpy (aI μ 8 i1 1) (aI μ 8 i0 1) (Int32.toNatClampNeg 0) (Int32.toNatClampNeg 0) (Int32.toNatClampNeg 6))) fun m1 =>
  xck (xcpok 0 0 6 6 6) <|
  mS (wI m1 8 i0 2 (va_cpy (aI m1 8 i1 2) (aI m1 8 i0 2) (Int32.toNatClampNeg 0) (Int32.toNatClampNeg 0) (Int32.toNatClampNeg 6))) fun m2 =>
  xck (xcpok 0 0 6 6 6) <|
  mS (wI m2 8 i0 3 (va_cpy (aI m2 8 i1 3) (aI m2 8 i0 3) (Int32.toNatClampNeg 0) (Int32.toNatClampNeg 0) (Int32.toNatClampNeg 6))) fun m3 =>
  xck (xcpok 0 0 6 6 6) <|
  mS (wI m3 8 i0 4 (va_cpy (aI m3 8 i1 4) (aI m3 8 i0 4) (Int32.toNatClampNeg 0) (Int32.toNatClampNeg 0) (Int32.toNatClampNeg 6))) fun m4 =>
  mS (sI m4 8 i0 5 (rI m4 8 i1 5)) fun m5 =>
  mS (sI m5 8 i0 6 (rI m5 8 i1 6)) fun m6 =>
  mS (sI m6 8 i0 7 (rI m6 8 i1 7)) fun m7 =>
  mS (sI m7 8 i0 8 (rI m7 8 i1 8)) fun m8 =>
  xrv m8
set_option maxRecDepth 100000 in
theorem q8_copyFrom (n : Nat) (i0 : Nat) (i1 : Nat) (μ : XM) : xrun t8_copyFrom e8_copyFrom (xrtk none) 54 n (xlo [xr 8 i0 0, xr 8 i1 0] 2) μ = k8_copyFrom i0 i1 μ := rfl
theorem x8_copyFrom : ∃ f : Nat → Nat → XM → XR, ∀ (i0 : Nat) (i1 : Nat) (μ : XM), f i0 i1 μ = k8_copyFrom i0 i1 μ := ⟨fun i0 i1 μ => k8_copyFrom i0 i1 μ, fun i0 i1 μ => rfl⟩
noncomputable def f8_copyFrom : Nat → Nat → XM → XR := Classical.choose x8_copyFrom
theorem f8_copyFrom_e (i0 : Nat) (i1 : Nat) (μ : XM) : f8_copyFrom i0 i1 μ = k8_copyFrom i0 i1 μ := Classical.choose_spec x8_copyFrom i0 i1 μ
noncomputable def F8_copyFrom : XF := fun av μ => match av with
  | [.inr (.inr (some (t0, i0, 0))), .inr (.inr (some (t1, i1, 0)))] => bif Nat.beq t0 8 && Nat.beq t1 8 then f8_copyFrom i0 i1 μ else none
  | _ => none
set_option maxRecDepth 100000 in
theorem c8_copyFrom {X : XP} (hX : XOK X) (l : Launch) : Ctr X l y8_copyFrom prog_10_method_3_code 2 none (xrm 1) 0 0 F8_copyFrom :=
  Ctr_of (tab := t8_copyFrom) (env := e8_copyFrom) (K := 54) (N := 20000) (fl := fl8) (cl := cl8) (ll := ll8) (jl := jl8) hX mf8_copyFrom.2.2.2 ⟨by decide +kernel, flk8, clk8, llk8, jlk8⟩
   (fun _ h => absurd h List.not_mem_nil)
   (xrm_1 (by decide)) ⟨_, _, rfl, rfl⟩ (fun av μ r μ' h => by
    unfold F8_copyFrom at h
    split at h
    · replace h := cond_inv h; obtain ⟨hb, h⟩ := h
      simp only [Bool.and_eq_true] at hb
      obtain ⟨g0, g1⟩ := hb
      obtain rfl := Nat.eq_of_beq_eq_true g0
      obtain rfl := Nat.eq_of_beq_eq_true g1
      exact ⟨Nat.le_of_ble_eq_true rfl, (q8_copyFrom _ _ _ _).trans ((f8_copyFrom_e _ _ _).symm.trans h)⟩
    · cases h)
def t0_keep : List XE := [(0, .aload_n 0, 0, 0, 0, 0, []),
  (1, .getfield 11, 0, 0, 0, 0, []),
  (4, .aload_n 0, 0, 0, 0, 0, []),
  (5, .getfield 22, 0, 1, 0, 0, []),
  (8, .bipush 16, 0, 0, 16, 0, []),
  (10, .irem, 0, 0, 0, 0, []),
  (11, .aaload, 0, 0, 0, 0, []),
  (12, .astore_n 2, 2, 0, 0, 0, []),
  (13, .aload_n 2, 2, 0, 0, 0, []),
  (14, .ifnonnull 4, 18, 0, 0, 0, []),
  (17, .return_, 0, 0, 0, 0, []),
  (18, .aload_n 2, 2, 0, 0, 0, []),
  (19, .aload_n 1, 1, 0, 0, 0, []),
  (20, .invokevirtual 25, 2, 8, 0, 0, []),
  (23, .aload_n 0, 0, 0, 0, 0, []),
  (24, .aload_n 0, 0, 0, 0, 0, []),
  (25, .getfield 22, 0, 1, 0, 0, []),
  (28, .iconst 1, 0, 0, 1, 0, []),
  (29, .iadd, 0, 0, 0, 0, []),
  (30, .bipush 16, 0, 0, 16, 0, []),
  (32, .irem, 0, 0, 0, 0, []),
  (33, .putfield 22, 0, 1, 0, 0, []),
  (36, .aload_n 0, 0, 0, 0, 0, []),
  (37, .bipush 16, 0, 0, 16, 0, []),
  (39, .aload_n 0, 0, 0, 0, 0, []),
  (40, .getfield 18, 0, 2, 0, 0, []),
  (43, .iconst 1, 0, 0, 1, 0, []),
  (44, .iadd, 0, 0, 0, 0, []),
  (45, .invokestatic 29, 0, 2, 0, 0, []),
  (48, .putfield 18, 0, 2, 0, 0, []),
  (51, .return_, 0, 0, 0, 0, [])]
noncomputable def e0_keep : XN := [(25, 0, 2, 8, F8_copyFrom)]
noncomputable def k0_keep (i1 : Nat) (μ : XM) : XR :=
  xite ((16 : Int32) = 0) none <|
  xck (xin ((rI μ 0 0 1) - (rI μ 0 0 1) / 16 * 16) 16) <|
  bV (f8_copyFrom (2 + Int32.toNatClampNeg ((rI μ 0 0 1) - (rI μ 0 0 1) / 16 * 16)) i1 μ) fun m1 =>
  xite ((16 : Int32) = 0) none <|
  mS (sI m1 0 0 1 (((rI m1 0 0 1) + 1) - ((rI m1 0 0 1) + 1) / 16 * 16)) fun m2 =>
  mS (sI m2 0 0 2 (if ((rI m2 0 0 2) + 1) < 16 then ((rI m2 0 0 2) + 1) else 16)) fun m3 =>
  xrv m3
set_option maxRecDepth 100000 in
theorem q0_keep (n : Nat) (i1 : Nat) (μ : XM) : xrun t0_keep e0_keep (xrtk none) 36 n (xlo [xr 0 0 0, xr 8 i1 0] 3) μ = k0_keep i1 μ := rfl
theorem x0_keep : ∃ f : Nat → XM → XR, ∀ (i1 : Nat) (μ : XM), f i1 μ = k0_keep i1 μ := ⟨fun i1 μ => k0_keep i1 μ, fun i1 μ => rfl⟩
noncomputable def f0_keep : Nat → XM → XR := Classical.choose x0_keep
theorem f0_keep_e (i1 : Nat) (μ : XM) : f0_keep i1 μ = k0_keep i1 μ := Classical.choose_spec x0_keep i1 μ
noncomputable def F0_keep : XF := fun av μ => match av with
  | [.inr (.inr (some (t0, i0, 0))), .inr (.inr (some (t1, i1, 0)))] => bif Nat.beq t0 0 && Nat.beq i0 0 && Nat.beq t1 8 then f0_keep i1 μ else none
  | _ => none
set_option maxRecDepth 100000 in
theorem c0_keep {X : XP} (hX : XOK X) (l : Launch) : Ctr X l y0_keep prog_2_method_3_code 3 none (xrm 2) 0 0 F0_keep :=
  Ctr_of (tab := t0_keep) (env := e0_keep) (K := 36) (N := 20000) (fl := fl0) (cl := cl0) (ll := ll0) (jl := jl0) hX mf0_keep.2.2.2 ⟨by decide +kernel, flk0, clk0, llk0, jlk0⟩
   (List.forall_mem_cons.mpr ⟨xcal_v (na := 1) (c8_copyFrom hX l) mf8_copyFrom ⟨rfl, rfl⟩ ml0_25 mi8_copyFrom me8_copyFrom (xrm_ok (by omega) (by decide)) rfl (by decide) (by decide +kernel), fun _ h => absurd h List.not_mem_nil⟩)
   (xrm_1 (by decide)) ⟨_, _, rfl, rfl⟩ (fun av μ r μ' h => by
    unfold F0_keep at h
    split at h
    · replace h := cond_inv h; obtain ⟨hb, h⟩ := h
      simp only [Bool.and_eq_true] at hb
      obtain ⟨⟨g0, g1⟩, g2⟩ := hb
      obtain rfl := Nat.eq_of_beq_eq_true g0
      obtain rfl := Nat.eq_of_beq_eq_true g1
      obtain rfl := Nat.eq_of_beq_eq_true g2
      exact ⟨Nat.le_of_ble_eq_true rfl, (q0_keep _ _ _).trans ((f0_keep_e _ _).symm.trans h)⟩
    · cases h)
def t0_bringBack : List XE := [(0, .aload_n 0, 0, 0, 0, 0, []),
  (1, .getfield 22, 0, 1, 0, 0, []),
  (4, .bipush 16, 0, 0, 16, 0, []),
  (6, .iadd, 0, 0, 0, 0, []),
  (7, .iconst 1, 0, 0, 1, 0, []),
  (8, .isub, 0, 0, 0, 0, []),
  (9, .bipush 16, 0, 0, 16, 0, []),
  (11, .irem, 0, 0, 0, 0, []),
  (12, .istore_n 2, 2, 0, 0, 0, []),
  (13, .aload_n 0, 0, 0, 0, 0, []),
  (14, .getfield 11, 0, 0, 0, 0, []),
  (17, .iload_n 2, 2, 0, 0, 0, []),
  (18, .aaload, 0, 0, 0, 0, []),
  (19, .astore_n 3, 3, 0, 0, 0, []),
  (20, .aload_n 0, 0, 0, 0, 0, []),
  (21, .getfield 18, 0, 2, 0, 0, []),
  (24, .ifCond .eq 7, 31, 0, 0, 0, []),
  (27, .aload_n 3, 3, 0, 0, 0, []),
  (28, .ifnonnull 5, 33, 0, 0, 0, []),
  (31, .iconst 0, 0, 0, 0, 0, []),
  (32, .ireturn, 0, 0, 0, 0, []),
  (33, .aload_n 1, 1, 0, 0, 0, []),
  (34, .aload_n 3, 3, 0, 0, 0, []),
  (35, .invokevirtual 25, 2, 8, 0, 0, []),
  (38, .aload_n 0, 0, 0, 0, 0, []),
  (39, .iload_n 2, 2, 0, 0, 0, []),
  (40, .putfield 22, 0, 1, 0, 0, []),
  (43, .aload_n 0, 0, 0, 0, 0, []),
  (44, .dup, 0, 0, 0, 0, []),
  (45, .getfield 18, 0, 2, 0, 0, []),
  (48, .iconst 1, 0, 0, 1, 0, []),
  (49, .isub, 0, 0, 0, 0, []),
  (50, .putfield 18, 0, 2, 0, 0, []),
  (53, .iconst 1, 0, 0, 1, 0, []),
  (54, .ireturn, 0, 0, 0, 0, [])]
noncomputable def e0_bringBack : XN := [(25, 0, 2, 8, F8_copyFrom)]
noncomputable def k0_bringBack (i1 : Nat) (μ : XM) : XR :=
  xite ((16 : Int32) = 0) none <|
  vI ((((rI μ 0 0 1) + 16) - 1) - (((rI μ 0 0 1) + 16) - 1) / 16 * 16) fun x1 =>
  xck (xin x1 16) <|
  xite ((rI μ 0 0 2) = 0) (
    xrb 0 μ) (
    bV (f8_copyFrom i1 (2 + Int32.toNatClampNeg x1) μ) fun m2 =>
    mS (sI m2 0 0 1 x1) fun m3 =>
    mS (sI m3 0 0 2 ((rI m3 0 0 2) - 1)) fun m4 =>
    xrb 1 m4)
set_option maxRecDepth 100000 in
theorem q0_bringBack (n : Nat) (i1 : Nat) (μ : XM) : xrun t0_bringBack e0_bringBack (xrtk (some .boolean)) 40 n (xlo [xr 0 0 0, xr 8 i1 0] 4) μ = k0_bringBack i1 μ := rfl
theorem x0_bringBack : ∃ f : Nat → XM → XR, ∀ (i1 : Nat) (μ : XM), f i1 μ = k0_bringBack i1 μ := ⟨fun i1 μ => k0_bringBack i1 μ, fun i1 μ => rfl⟩
noncomputable def f0_bringBack : Nat → XM → XR := Classical.choose x0_bringBack
theorem f0_bringBack_e (i1 : Nat) (μ : XM) : f0_bringBack i1 μ = k0_bringBack i1 μ := Classical.choose_spec x0_bringBack i1 μ
noncomputable def F0_bringBack : XF := fun av μ => match av with
  | [.inr (.inr (some (t0, i0, 0))), .inr (.inr (some (t1, i1, 0)))] => bif Nat.beq t0 0 && Nat.beq i0 0 && Nat.beq t1 8 then f0_bringBack i1 μ else none
  | _ => none
set_option maxRecDepth 100000 in
theorem c0_bringBack {X : XP} (hX : XOK X) (l : Launch) : Ctr X l y0_bringBack prog_2_method_4_code 4 (some .boolean) (xrm 2) 0 0 F0_bringBack :=
  Ctr_of (tab := t0_bringBack) (env := e0_bringBack) (K := 40) (N := 20000) (fl := fl0) (cl := cl0) (ll := ll0) (jl := jl0) hX mf0_bringBack.2.2.2 ⟨by decide +kernel, flk0, clk0, llk0, jlk0⟩
   (List.forall_mem_cons.mpr ⟨xcal_v (na := 1) (c8_copyFrom hX l) mf8_copyFrom ⟨rfl, rfl⟩ ml0_25 mi8_copyFrom me8_copyFrom (xrm_ok (by omega) (by decide)) rfl (by decide) (by decide +kernel), fun _ h => absurd h List.not_mem_nil⟩)
   (xrm_1 (by decide)) ⟨_, _, rfl, rfl⟩ (fun av μ r μ' h => by
    unfold F0_bringBack at h
    split at h
    · replace h := cond_inv h; obtain ⟨hb, h⟩ := h
      simp only [Bool.and_eq_true] at hb
      obtain ⟨⟨g0, g1⟩, g2⟩ := hb
      obtain rfl := Nat.eq_of_beq_eq_true g0
      obtain rfl := Nat.eq_of_beq_eq_true g1
      obtain rfl := Nat.eq_of_beq_eq_true g2
      exact ⟨Nat.le_of_ble_eq_true rfl, (q0_bringBack _ _ _).trans ((f0_bringBack_e _ _).symm.trans h)⟩
    · cases h)
def tJ_bitCount : List XE := [(0, .iload_n 0, 0, 0, 0, 0, []),
  (1, .iload_n 0, 0, 0, 0, 0, []),
  (2, .iconst 1, 0, 0, 1, 0, []),
  (3, .iushr, 0, 0, 0, 0, []),
  (4, .ldc_w 265, 0, 0, 1431655765, 0, []),
  (7, .iand, 0, 0, 0, 0, []),
  (8, .isub, 0, 0, 0, 0, []),
  (9, .istore_n 0, 0, 0, 0, 0, []),
  (10, .iload_n 0, 0, 0, 0, 0, []),
  (11, .ldc_w 266, 0, 0, 858993459, 0, []),
  (14, .iand, 0, 0, 0, 0, []),
  (15, .iload_n 0, 0, 0, 0, 0, []),
  (16, .iconst 2, 0, 0, 2, 0, []),
  (17, .iushr, 0, 0, 0, 0, []),
  (18, .ldc_w 266, 0, 0, 858993459, 0, []),
  (21, .iand, 0, 0, 0, 0, []),
  (22, .iadd, 0, 0, 0, 0, []),
  (23, .istore_n 0, 0, 0, 0, 0, []),
  (24, .iload_n 0, 0, 0, 0, 0, []),
  (25, .iload_n 0, 0, 0, 0, 0, []),
  (26, .iconst 4, 0, 0, 4, 0, []),
  (27, .iushr, 0, 0, 0, 0, []),
  (28, .iadd, 0, 0, 0, 0, []),
  (29, .ldc_w 267, 0, 0, 252645135, 0, []),
  (32, .iand, 0, 0, 0, 0, []),
  (33, .istore_n 0, 0, 0, 0, 0, []),
  (34, .iload_n 0, 0, 0, 0, 0, []),
  (35, .iload_n 0, 0, 0, 0, 0, []),
  (36, .bipush 8, 0, 0, 8, 0, []),
  (38, .iushr, 0, 0, 0, 0, []),
  (39, .iadd, 0, 0, 0, 0, []),
  (40, .istore_n 0, 0, 0, 0, 0, []),
  (41, .iload_n 0, 0, 0, 0, 0, []),
  (42, .iload_n 0, 0, 0, 0, 0, []),
  (43, .bipush 16, 0, 0, 16, 0, []),
  (45, .iushr, 0, 0, 0, 0, []),
  (46, .iadd, 0, 0, 0, 0, []),
  (47, .istore_n 0, 0, 0, 0, 0, []),
  (48, .iload_n 0, 0, 0, 0, 0, []),
  (49, .bipush 63, 0, 0, 63, 0, []),
  (51, .iand, 0, 0, 0, 0, []),
  (52, .ireturn, 0, 0, 0, 0, [])]
noncomputable def eJ_bitCount : XN := []
noncomputable def kJ_bitCount (p0 : Int32) (μ : XM) : XR :=
  vI (p0 - (((Int32.toUInt32 p0) >>> ((Int32.toUInt32 1) &&& Int32.toUInt32 31)).toInt32 &&& 1431655765)) fun x1 =>
  vI ((x1 &&& 858993459) + (((Int32.toUInt32 x1) >>> ((Int32.toUInt32 2) &&& Int32.toUInt32 31)).toInt32 &&& 858993459)) fun x2 =>
  vI ((x2 + ((Int32.toUInt32 x2) >>> ((Int32.toUInt32 4) &&& Int32.toUInt32 31)).toInt32) &&& 252645135) fun x3 =>
  vI (x3 + ((Int32.toUInt32 x3) >>> ((Int32.toUInt32 8) &&& Int32.toUInt32 31)).toInt32) fun x4 =>
  vI (x4 + ((Int32.toUInt32 x4) >>> ((Int32.toUInt32 16) &&& Int32.toUInt32 31)).toInt32) fun x5 =>
  xri (x5 &&& 63) μ
set_option maxRecDepth 100000 in
theorem qJ_bitCount (n : Nat) (p0 : Int32) (μ : XM) : xrun tJ_bitCount eJ_bitCount (xrtk (some .int)) 47 n (xlo [xi p0] 1) μ = kJ_bitCount p0 μ := rfl
theorem xJ_bitCount : ∃ f : Int32 → XM → XR, ∀ (p0 : Int32) (μ : XM), f p0 μ = kJ_bitCount p0 μ := ⟨fun p0 μ => kJ_bitCount p0 μ, fun p0 μ => rfl⟩
noncomputable def fJ_bitCount : Int32 → XM → XR := Classical.choose xJ_bitCount
theorem fJ_bitCount_e (p0 : Int32) (μ : XM) : fJ_bitCount p0 μ = kJ_bitCount p0 μ := Classical.choose_spec xJ_bitCount p0 μ
noncomputable def FJ_bitCount : XF := fun av μ => match av with
  | [.inl p0] => fJ_bitCount p0 μ
  | _ => none
set_option maxRecDepth 100000 in
theorem cJ_bitCount {X : XP} (hX : XOK X) (l : Launch) : Ctr X l yJ_bitCount prog_20_method_49_code 1 (some .int) (xrm 1) 0 0 FJ_bitCount :=
  Ctr_of (tab := tJ_bitCount) (env := eJ_bitCount) (K := 47) (N := 20000) (fl := flJ) (cl := clJ) (ll := llJ) (jl := jlJ) hX mfJ_bitCount.2.2.2 ⟨by decide +kernel, flkJ, clkJ, llkJ, jlkJ⟩
   (fun _ h => absurd h List.not_mem_nil)
   (xrm_1 (by decide)) ⟨_, _, rfl, rfl⟩ (fun av μ r μ' h => by
    unfold FJ_bitCount at h
    split at h
    · exact ⟨Nat.le_of_ble_eq_true rfl, (qJ_bitCount _ _ _).trans ((fJ_bitCount_e _ _).symm.trans h)⟩
    · cases h)
def t1_clear : List XE := [(0, .aload_n 0, 0, 0, 0, 0, []),
  (1, .iconst 0, 0, 0, 0, 0, []),
  (2, .putfield 24, 1, 0, 0, 0, []),
  (5, .return_, 0, 0, 0, 0, [])]
noncomputable def e1_clear : XN := []
noncomputable def k1_clear (i0 : Nat) (μ : XM) : XR :=
  mS (sI μ 1 i0 0 0) fun m1 =>
  xrv m1
set_option maxRecDepth 100000 in
theorem q1_clear (n : Nat) (i0 : Nat) (μ : XM) : xrun t1_clear e1_clear (xrtk none) 9 n (xlo [xr 1 i0 0] 1) μ = k1_clear i0 μ := rfl
theorem x1_clear : ∃ f : Nat → XM → XR, ∀ (i0 : Nat) (μ : XM), f i0 μ = k1_clear i0 μ := ⟨fun i0 μ => k1_clear i0 μ, fun i0 μ => rfl⟩
noncomputable def f1_clear : Nat → XM → XR := Classical.choose x1_clear
theorem f1_clear_e (i0 : Nat) (μ : XM) : f1_clear i0 μ = k1_clear i0 μ := Classical.choose_spec x1_clear i0 μ
noncomputable def F1_clear : XF := fun av μ => match av with
  | [.inr (.inr (some (t0, i0, 0)))] => bif Nat.beq t0 1 then f1_clear i0 μ else none
  | _ => none
set_option maxRecDepth 100000 in
theorem c1_clear {X : XP} (hX : XOK X) (l : Launch) : Ctr X l y1_clear prog_3_method_2_code 1 none (xrm 1) 0 0 F1_clear :=
  Ctr_of (tab := t1_clear) (env := e1_clear) (K := 9) (N := 20000) (fl := fl1) (cl := cl1) (ll := ll1) (jl := jl1) hX mf1_clear.2.2.2 ⟨by decide +kernel, flk1, clk1, llk1, jlk1⟩
   (fun _ h => absurd h List.not_mem_nil)
   (xrm_1 (by decide)) ⟨_, _, rfl, rfl⟩ (fun av μ r μ' h => by
    unfold F1_clear at h
    split at h
    · replace h := cond_inv h; obtain ⟨hb, h⟩ := h
      obtain rfl := Nat.eq_of_beq_eq_true hb
      exact ⟨Nat.le_of_ble_eq_true rfl, (q1_clear _ _ _).trans ((f1_clear_e _ _).symm.trans h)⟩
    · cases h)
def t1_copyFrom : List XE := [(0, .aload_n 0, 0, 0, 0, 0, []),
  (1, .aload_n 1, 1, 0, 0, 0, []),
  (2, .getfield 24, 1, 0, 0, 0, []),
  (5, .putfield 24, 1, 0, 0, 0, []),
  (8, .aload_n 1, 1, 0, 0, 0, []),
  (9, .getfield 11, 1, 1, 0, 0, []),
  (12, .iconst 0, 0, 0, 0, 0, []),
  (13, .aload_n 0, 0, 0, 0, 0, []),
  (14, .getfield 11, 1, 1, 0, 0, []),
  (17, .iconst 0, 0, 0, 0, 0, []),
  (18, .bipush 40, 0, 0, 40, 0, []),
  (20, .invokestatic 28, 0, 4, 0, 0, []),
  (23, .aload_n 1, 1, 0, 0, 0, []),
  (24, .getfield 15, 1, 2, 0, 0, []),
  (27, .iconst 0, 0, 0, 0, 0, []),
  (28, .aload_n 0, 0, 0, 0, 0, []),
  (29, .getfield 15, 1, 2, 0, 0, []),
  (32, .iconst 0, 0, 0, 0, 0, []),
  (33, .bipush 40, 0, 0, 40, 0, []),
  (35, .invokestatic 28, 0, 4, 0, 0, []),
  (38, .aload_n 1, 1, 0, 0, 0, []),
  (39, .getfield 18, 1, 3, 0, 0, []),
  (42, .iconst 0, 0, 0, 0, 0, []),
  (43, .aload_n 0, 0, 0, 0, 0, []),
  (44, .getfield 18, 1, 3, 0, 0, []),
  (47, .iconst 0, 0, 0, 0, 0, []),
  (48, .bipush 40, 0, 0, 40, 0, []),
  (50, .invokestatic 28, 0, 4, 0, 0, []),
  (53, .aload_n 1, 1, 0, 0, 0, []),
  (54, .getfield 21, 1, 4, 0, 0, []),
  (57, .iconst 0, 0, 0, 0, 0, []),
  (58, .aload_n 0, 0, 0, 0, 0, []),
  (59, .getfield 21, 1, 4, 0, 0, []),
  (62, .iconst 0, 0, 0, 0, 0, []),
  (63, .bipush 40, 0, 0, 40, 0, []),
  (65, .invokestatic 28, 0, 4, 0, 0, []),
  (68, .return_, 0, 0, 0, 0, [])]
noncomputable def e1_copyFrom : XN := []
noncomputable def k1_copyFrom (i0 : Nat) (i1 : Nat) (μ : XM) : XR :=
  mS (sI μ 1 i0 0 (rI μ 1 i1 0)) fun m1 =>
  xck (xcpok 0 0 40 40 40) <|
  mS (wI m1 1 i0 1 (va_cpy (aI m1 1 i1 1) (aI m1 1 i0 1) (Int32.toNatClampNeg 0) (Int32.toNatClampNeg 0) (Int32.toNatClampNeg 40))) fun m2 =>
  xck (xcpok 0 0 40 40 40) <|
  mS (wI m2 1 i0 2 (va_cpy (aI m2 1 i1 2) (aI m2 1 i0 2) (Int32.toNatClampNeg 0) (Int32.toNatClampNeg 0) (Int32.toNatClampNeg 40))) fun m3 =>
  xck (xcpok 0 0 40 40 40) <|
  mS (wI m3 1 i0 3 (va_cpy (aI m3 1 i1 3) (aI m3 1 i0 3) (Int32.toNatClampNeg 0) (Int32.toNatClampNeg 0) (Int32.toNatClampNeg 40))) fun m4 =>
  xck (xcpok 0 0 40 40 40) <|
  mS (wI m4 1 i0 4 (va_cpy (aI m4 1 i1 4) (aI m4 1 i0 4) (Int32.toNatClampNeg 0) (Int32.toNatClampNeg 0) (Int32.toNatClampNeg 40))) fun m5 =>
  xrv m5
set_option maxRecDepth 100000 in
theorem q1_copyFrom (n : Nat) (i0 : Nat) (i1 : Nat) (μ : XM) : xrun t1_copyFrom e1_copyFrom (xrtk none) 42 n (xlo [xr 1 i0 0, xr 1 i1 0] 2) μ = k1_copyFrom i0 i1 μ := rfl
theorem x1_copyFrom : ∃ f : Nat → Nat → XM → XR, ∀ (i0 : Nat) (i1 : Nat) (μ : XM), f i0 i1 μ = k1_copyFrom i0 i1 μ := ⟨fun i0 i1 μ => k1_copyFrom i0 i1 μ, fun i0 i1 μ => rfl⟩
noncomputable def f1_copyFrom : Nat → Nat → XM → XR := Classical.choose x1_copyFrom
theorem f1_copyFrom_e (i0 : Nat) (i1 : Nat) (μ : XM) : f1_copyFrom i0 i1 μ = k1_copyFrom i0 i1 μ := Classical.choose_spec x1_copyFrom i0 i1 μ
noncomputable def F1_copyFrom : XF := fun av μ => match av with
  | [.inr (.inr (some (t0, i0, 0))), .inr (.inr (some (t1, i1, 0)))] => bif Nat.beq t0 1 && Nat.beq t1 1 then f1_copyFrom i0 i1 μ else none
  | _ => none
set_option maxRecDepth 100000 in
theorem c1_copyFrom {X : XP} (hX : XOK X) (l : Launch) : Ctr X l y1_copyFrom prog_3_method_3_code 2 none (xrm 1) 0 0 F1_copyFrom :=
  Ctr_of (tab := t1_copyFrom) (env := e1_copyFrom) (K := 42) (N := 20000) (fl := fl1) (cl := cl1) (ll := ll1) (jl := jl1) hX mf1_copyFrom.2.2.2 ⟨by decide +kernel, flk1, clk1, llk1, jlk1⟩
   (fun _ h => absurd h List.not_mem_nil)
   (xrm_1 (by decide)) ⟨_, _, rfl, rfl⟩ (fun av μ r μ' h => by
    unfold F1_copyFrom at h
    split at h
    · replace h := cond_inv h; obtain ⟨hb, h⟩ := h
      simp only [Bool.and_eq_true] at hb
      obtain ⟨g0, g1⟩ := hb
      obtain rfl := Nat.eq_of_beq_eq_true g0
      obtain rfl := Nat.eq_of_beq_eq_true g1
      exact ⟨Nat.le_of_ble_eq_true rfl, (q1_copyFrom _ _ _ _).trans ((f1_copyFrom_e _ _ _).symm.trans h)⟩
    · cases h)
def t10_signAt : List XE := [(0, .iload_n 1, 1, 0, 0, 0, []),
  (1, .ifCond .lt 29, 30, 0, 0, 0, []),
  (4, .iload_n 1, 1, 0, 0, 0, []),
  (5, .aload_n 0, 0, 0, 0, 0, []),
  (6, .getfield 13, 10, 1, 0, 0, []),
  (9, .if_icmp .ge 21, 30, 0, 0, 0, []),
  (12, .iload_n 1, 1, 0, 0, 0, []),
  (13, .aload_n 0, 0, 0, 0, 0, []),
  (14, .getfield 9, 10, 0, 0, 0, []),
  (17, .arraylength, 0, 0, 0, 0, []),
  (18, .if_icmp .ge 12, 30, 0, 0, 0, []),
  (21, .aload_n 0, 0, 0, 0, 0, []),
  (22, .getfield 9, 10, 0, 0, 0, []),
  (25, .iload_n 1, 1, 0, 0, 0, []),
  (26, .caload, 0, 0, 0, 0, []),
  (27, .goto 5, 32, 0, 0, 0, []),
  (30, .bipush 32, 0, 0, 32, 0, []),
  (32, .ireturn, 0, 0, 0, 0, [])]
noncomputable def e10_signAt : XN := []
noncomputable def k10_signAt (p1 : Int32) (μ : XM) : XR :=
  xite (p1 < 0) (
    xrc 32 μ) (
    xite (p1 < (rI μ 10 0 1)) (
      xite (p1 < (nI 1000)) (
        xck (xin p1 1000) <|
        xrc (aI μ 10 0 0 (Int32.toNatClampNeg p1)) μ) (
        xrc 32 μ)) (
      xrc 32 μ))
set_option maxRecDepth 100000 in
theorem q10_signAt (n : Nat) (p1 : Int32) (μ : XM) : xrun t10_signAt e10_signAt (xrtk (some .char)) 23 n (xlo [xr 10 0 0, xi p1] 2) μ = k10_signAt p1 μ := rfl
theorem x10_signAt : ∃ f : Int32 → XM → XR, ∀ (p1 : Int32) (μ : XM), f p1 μ = k10_signAt p1 μ := ⟨fun p1 μ => k10_signAt p1 μ, fun p1 μ => rfl⟩
noncomputable def f10_signAt : Int32 → XM → XR := Classical.choose x10_signAt
theorem f10_signAt_e (p1 : Int32) (μ : XM) : f10_signAt p1 μ = k10_signAt p1 μ := Classical.choose_spec x10_signAt p1 μ
noncomputable def F10_signAt : XF := fun av μ => match av with
  | [.inr (.inr (some (t0, i0, 0))), .inl p1] => bif Nat.beq t0 10 && Nat.beq i0 0 then f10_signAt p1 μ else none
  | _ => none
set_option maxRecDepth 100000 in
theorem c10_signAt {X : XP} (hX : XOK X) (l : Launch) : Ctr X l y10_signAt prog_12_method_4_code 2 (some .char) (xrm 1) 0 0 F10_signAt :=
  Ctr_of (tab := t10_signAt) (env := e10_signAt) (K := 23) (N := 20000) (fl := fl10) (cl := cl10) (ll := ll10) (jl := jl10) hX mf10_signAt.2.2.2 ⟨by decide +kernel, flk10, clk10, llk10, jlk10⟩
   (fun _ h => absurd h List.not_mem_nil)
   (xrm_1 (by decide)) ⟨_, _, rfl, rfl⟩ (fun av μ r μ' h => by
    unfold F10_signAt at h
    split at h
    · replace h := cond_inv h; obtain ⟨hb, h⟩ := h
      simp only [Bool.and_eq_true] at hb
      obtain ⟨g0, g1⟩ := hb
      obtain rfl := Nat.eq_of_beq_eq_true g0
      obtain rfl := Nat.eq_of_beq_eq_true g1
      exact ⟨Nat.le_of_ble_eq_true rfl, (q10_signAt _ _ _).trans ((f10_signAt_e _ _).symm.trans h)⟩
    · cases h)
def t10_isBlank : List XE := [(0, .iload_n 0, 0, 0, 0, 0, []),
  (1, .bipush 32, 0, 0, 32, 0, []),
  (3, .if_icmp .eq 9, 12, 0, 0, 0, []),
  (6, .iload_n 0, 0, 0, 0, 0, []),
  (7, .bipush 10, 0, 0, 10, 0, []),
  (9, .if_icmp .ne 7, 16, 0, 0, 0, []),
  (12, .iconst 1, 0, 0, 1, 0, []),
  (13, .goto 4, 17, 0, 0, 0, []),
  (16, .iconst 0, 0, 0, 0, 0, []),
  (17, .ireturn, 0, 0, 0, 0, [])]
noncomputable def e10_isBlank : XN := []
noncomputable def k10_isBlank (p0 : Int32) (μ : XM) : XR :=
  xite (p0 = 32) (
    xrb 1 μ) (
    xite (p0 = 10) (
      xrb 1 μ) (
      xrb 0 μ))
set_option maxRecDepth 100000 in
theorem q10_isBlank (n : Nat) (p0 : Int32) (μ : XM) : xrun t10_isBlank e10_isBlank (xrtk (some .boolean)) 15 n (xlo [xi p0] 1) μ = k10_isBlank p0 μ := rfl
theorem x10_isBlank : ∃ f : Int32 → XM → XR, ∀ (p0 : Int32) (μ : XM), f p0 μ = k10_isBlank p0 μ := ⟨fun p0 μ => k10_isBlank p0 μ, fun p0 μ => rfl⟩
noncomputable def f10_isBlank : Int32 → XM → XR := Classical.choose x10_isBlank
theorem f10_isBlank_e (p0 : Int32) (μ : XM) : f10_isBlank p0 μ = k10_isBlank p0 μ := Classical.choose_spec x10_isBlank p0 μ
noncomputable def F10_isBlank : XF := fun av μ => match av with
  | [.inl p0] => f10_isBlank p0 μ
  | _ => none
set_option maxRecDepth 100000 in
theorem c10_isBlank {X : XP} (hX : XOK X) (l : Launch) : Ctr X l y10_isBlank prog_12_method_7_code 1 (some .boolean) (xrm 1) 0 0 F10_isBlank :=
  Ctr_of (tab := t10_isBlank) (env := e10_isBlank) (K := 15) (N := 20000) (fl := fl10) (cl := cl10) (ll := ll10) (jl := jl10) hX mf10_isBlank.2.2.2 ⟨by decide +kernel, flk10, clk10, llk10, jlk10⟩
   (fun _ h => absurd h List.not_mem_nil)
   (xrm_1 (by decide)) ⟨_, _, rfl, rfl⟩ (fun av μ r μ' h => by
    unfold F10_isBlank at h
    split at h
    · exact ⟨Nat.le_of_ble_eq_true rfl, (q10_isBlank _ _ _).trans ((f10_isBlank_e _ _).symm.trans h)⟩
    · cases h)
def t10_isLetter : List XE := [(0, .iload_n 0, 0, 0, 0, 0, []),
  (1, .bipush 97, 0, 0, 97, 0, []),
  (3, .if_icmp .lt 13, 16, 0, 0, 0, []),
  (6, .iload_n 0, 0, 0, 0, 0, []),
  (7, .bipush 122, 0, 0, 122, 0, []),
  (9, .if_icmp .gt 7, 16, 0, 0, 0, []),
  (12, .iconst 1, 0, 0, 1, 0, []),
  (13, .goto 4, 17, 0, 0, 0, []),
  (16, .iconst 0, 0, 0, 0, 0, []),
  (17, .ireturn, 0, 0, 0, 0, [])]
noncomputable def e10_isLetter : XN := []
noncomputable def k10_isLetter (p0 : Int32) (μ : XM) : XR :=
  xite (p0 < 97) (
    xrb 0 μ) (
    xite ((122 : Int32) < p0) (
      xrb 0 μ) (
      xrb 1 μ))
set_option maxRecDepth 100000 in
theorem q10_isLetter (n : Nat) (p0 : Int32) (μ : XM) : xrun t10_isLetter e10_isLetter (xrtk (some .boolean)) 15 n (xlo [xi p0] 1) μ = k10_isLetter p0 μ := rfl
theorem x10_isLetter : ∃ f : Int32 → XM → XR, ∀ (p0 : Int32) (μ : XM), f p0 μ = k10_isLetter p0 μ := ⟨fun p0 μ => k10_isLetter p0 μ, fun p0 μ => rfl⟩
noncomputable def f10_isLetter : Int32 → XM → XR := Classical.choose x10_isLetter
theorem f10_isLetter_e (p0 : Int32) (μ : XM) : f10_isLetter p0 μ = k10_isLetter p0 μ := Classical.choose_spec x10_isLetter p0 μ
noncomputable def F10_isLetter : XF := fun av μ => match av with
  | [.inl p0] => f10_isLetter p0 μ
  | _ => none
set_option maxRecDepth 100000 in
theorem c10_isLetter {X : XP} (hX : XOK X) (l : Launch) : Ctr X l y10_isLetter prog_12_method_8_code 1 (some .boolean) (xrm 1) 0 0 F10_isLetter :=
  Ctr_of (tab := t10_isLetter) (env := e10_isLetter) (K := 15) (N := 20000) (fl := fl10) (cl := cl10) (ll := ll10) (jl := jl10) hX mf10_isLetter.2.2.2 ⟨by decide +kernel, flk10, clk10, llk10, jlk10⟩
   (fun _ h => absurd h List.not_mem_nil)
   (xrm_1 (by decide)) ⟨_, _, rfl, rfl⟩ (fun av μ r μ' h => by
    unfold F10_isLetter at h
    split at h
    · exact ⟨Nat.le_of_ble_eq_true rfl, (q10_isLetter _ _ _).trans ((f10_isLetter_e _ _).symm.trans h)⟩
    · cases h)
def t10_kindOf : List XE := [(0, .lconst 0, 0, 0, 0, 0, []),
  (1, .lstore_n 2, 2, 0, 0, 0, []),
  (2, .sipush 128, 0, 0, 128, 0, []),
  (5, .istore 4, 4, 0, 0, 0, []),
  (7, .iconst 0, 0, 0, 0, 0, []),
  (8, .istore 5, 5, 0, 0, 0, []),
  (10, .nop, 53, 0, 0, 0, []),
  (10, .iload 5, 5, 0, 0, 0, []),
  (12, .ldc 67, 0, 1, 0, 0, []),
  (14, .invokevirtual 69, 1, 15, 0, 0, []),
  (17, .if_icmp .ge 57, 74, 0, 0, 0, []),
  (20, .ldc 67, 0, 1, 0, 0, []),
  (22, .iload 5, 5, 0, 0, 0, []),
  (24, .invokevirtual 72, 2, 15, 0, 0, []),
  (27, .istore 6, 6, 0, 0, 0, []),
  (29, .iload 6, 6, 0, 0, 0, []),
  (31, .bipush 32, 0, 0, 32, 0, []),
  (33, .if_icmp .eq 21, 54, 0, 0, 0, []),
  (36, .ldc2_w 47, 0, 0, 0, 32, []),
  (39, .lload_n 2, 2, 0, 0, 0, []),
  (40, .lmul, 0, 0, 0, 0, []),
  (41, .iload 6, 6, 0, 0, 0, []),
  (43, .bipush 97, 0, 0, 97, 0, []),
  (45, .isub, 0, 0, 0, 0, []),
  (46, .iconst 1, 0, 0, 1, 0, []),
  (47, .iadd, 0, 0, 0, 0, []),
  (48, .i2l, 0, 0, 0, 0, []),
  (49, .ladd, 0, 0, 0, 0, []),
  (50, .lstore_n 2, 2, 0, 0, 0, []),
  (51, .goto 17, 68, 0, 0, 0, []),
  (54, .lload_n 2, 2, 0, 0, 0, []),
  (55, .lload_n 0, 0, 0, 0, 0, []),
  (56, .lcmp, 0, 0, 0, 0, []),
  (57, .ifCond .ne 6, 63, 0, 0, 0, []),
  (60, .iload 4, 4, 0, 0, 0, []),
  (62, .ireturn, 0, 0, 0, 0, []),
  (63, .lconst 0, 0, 0, 0, 0, []),
  (64, .lstore_n 2, 2, 0, 0, 0, []),
  (65, .iinc 4 1, 4, 0, 1, 0, []),
  (68, .iinc 5 1, 5, 0, 1, 0, []),
  (71, .goto (-61), 10, 0, 0, 0, []),
  (74, .iconst 3, 0, 0, 3, 0, []),
  (75, .ireturn, 0, 0, 0, 0, [])]
noncomputable def e10_kindOf : XN := [(69, 1, 1, 15, FS_length), (72, 1, 2, 15, FS_charAt)]
noncomputable def h10_kindOf_10 (n : Nat) (v0 : Int64) (v2 : Int64) (v4 : Int32) (v5 : Int32) (μ : XM) : XR := arr t10_kindOf e10_kindOf 1 48 n 10 [some (xl v0), none, some (xl v2), none, some (xi v4), some (xi v5), none] [] μ
set_option maxRecDepth 100000 in
theorem h10_kindOf_10_s (n : Nat) (v0 : Int64) (v2 : Int64) (v4 : Int32) (v5 : Int32) (μ : XM) : h10_kindOf_10 (n + 1) v0 v2 v4 v5 μ = (
  bI (fS_length 0 μ) fun r2 m1 =>
  xite (v5 < r2) (
    bI (fS_charAt 0 v5 m1) fun r4 m3 =>
    vI r4 fun x5 =>
    xite (x5 = 32) (
      xite ((lg_cmp v2 v0) = 0) (
        xri v4 m3) (
        vL 0 fun x6 =>
        vI (v4 + 1) fun x7 =>
        vI (v5 + 1) fun x8 =>
        h10_kindOf_10 n v0 x6 x7 x8 m3)) (
      vL ((32 * v2) + (Int32.toInt64 ((x5 - 97) + 1))) fun x9 =>
      vI (v5 + 1) fun x10 =>
      h10_kindOf_10 n v0 x9 v4 x10 m3)) (
    xri 3 m1)) := rfl
theorem h10_kindOf_10_0 (v0 : Int64) (v2 : Int64) (v4 : Int32) (v5 : Int32) (μ : XM) : h10_kindOf_10 0 v0 v2 v4 v5 μ = none := rfl
noncomputable def k10_kindOf (n : Nat) (p0 : Int64) (μ : XM) : XR :=
  vL 0 fun x1 =>
  vI 128 fun x2 =>
  vI 0 fun x3 =>
  h10_kindOf_10 n p0 x1 x2 x3 μ
set_option maxRecDepth 100000 in
theorem q10_kindOf (n : Nat) (p0 : Int64) (μ : XM) : xrun t10_kindOf e10_kindOf (xrtk (some .int)) 48 n (xlo [xl p0] 7) μ = k10_kindOf n p0 μ := rfl
theorem x10_kindOf : ∃ f : Int64 → XM → XR, ∀ (p0 : Int64) (μ : XM), f p0 μ = k10_kindOf 20000 p0 μ := ⟨fun p0 μ => k10_kindOf 20000 p0 μ, fun p0 μ => rfl⟩
noncomputable def f10_kindOf : Int64 → XM → XR := Classical.choose x10_kindOf
theorem f10_kindOf_e (p0 : Int64) (μ : XM) : f10_kindOf p0 μ = k10_kindOf 20000 p0 μ := Classical.choose_spec x10_kindOf p0 μ
noncomputable def F10_kindOf : XF := fun av μ => match av with
  | [.inr (.inl p0)] => f10_kindOf p0 μ
  | _ => none
set_option maxRecDepth 100000 in
theorem c10_kindOf {X : XP} (hX : XOK X) (l : Launch) : Ctr X l y10_kindOf prog_12_method_10_code 7 (some .int) (xrm 9) 0 0 F10_kindOf :=
  Ctr_of (tab := t10_kindOf) (env := e10_kindOf) (K := 48) (N := 20000) (fl := fl10) (cl := cl10) (ll := ll10) (jl := jl10) hX mf10_kindOf.2.2.2 ⟨by decide +kernel, flk10, clk10, llk10, jlk10⟩
   (List.forall_mem_cons.mpr ⟨xcal_v (na := 0) (cS_length hX l) mfS_length ⟨rfl, rfl⟩ ml10_69 miS_length meS_length (xrm_ok (by omega) (by decide)) rfl (by decide) (by decide +kernel), List.forall_mem_cons.mpr ⟨xcal_v (na := 1) (cS_charAt hX l) mfS_charAt ⟨rfl, rfl⟩ ml10_72 miS_charAt meS_charAt (xrm_ok (by omega) (by decide)) rfl (by decide) (by decide +kernel), fun _ h => absurd h List.not_mem_nil⟩⟩)
   (xrm_1 (by decide)) ⟨_, _, rfl, rfl⟩ (fun av μ r μ' h => by
    unfold F10_kindOf at h
    split at h
    · exact ⟨Nat.le_of_ble_eq_true rfl, (q10_kindOf _ _ _).trans ((f10_kindOf_e _ _).symm.trans h)⟩
    · cases h)
def t10_isDigit : List XE := [(0, .iload_n 0, 0, 0, 0, 0, []),
  (1, .bipush 48, 0, 0, 48, 0, []),
  (3, .if_icmp .lt 13, 16, 0, 0, 0, []),
  (6, .iload_n 0, 0, 0, 0, 0, []),
  (7, .bipush 57, 0, 0, 57, 0, []),
  (9, .if_icmp .gt 7, 16, 0, 0, 0, []),
  (12, .iconst 1, 0, 0, 1, 0, []),
  (13, .goto 4, 17, 0, 0, 0, []),
  (16, .iconst 0, 0, 0, 0, 0, []),
  (17, .ireturn, 0, 0, 0, 0, [])]
noncomputable def e10_isDigit : XN := []
noncomputable def k10_isDigit (p0 : Int32) (μ : XM) : XR :=
  xite (p0 < 48) (
    xrb 0 μ) (
    xite ((57 : Int32) < p0) (
      xrb 0 μ) (
      xrb 1 μ))
set_option maxRecDepth 100000 in
theorem q10_isDigit (n : Nat) (p0 : Int32) (μ : XM) : xrun t10_isDigit e10_isDigit (xrtk (some .boolean)) 15 n (xlo [xi p0] 1) μ = k10_isDigit p0 μ := rfl
theorem x10_isDigit : ∃ f : Int32 → XM → XR, ∀ (p0 : Int32) (μ : XM), f p0 μ = k10_isDigit p0 μ := ⟨fun p0 μ => k10_isDigit p0 μ, fun p0 μ => rfl⟩
noncomputable def f10_isDigit : Int32 → XM → XR := Classical.choose x10_isDigit
theorem f10_isDigit_e (p0 : Int32) (μ : XM) : f10_isDigit p0 μ = k10_isDigit p0 μ := Classical.choose_spec x10_isDigit p0 μ
noncomputable def F10_isDigit : XF := fun av μ => match av with
  | [.inl p0] => f10_isDigit p0 μ
  | _ => none
set_option maxRecDepth 100000 in
theorem c10_isDigit {X : XP} (hX : XOK X) (l : Launch) : Ctr X l y10_isDigit prog_12_method_9_code 1 (some .boolean) (xrm 1) 0 0 F10_isDigit :=
  Ctr_of (tab := t10_isDigit) (env := e10_isDigit) (K := 15) (N := 20000) (fl := fl10) (cl := cl10) (ll := ll10) (jl := jl10) hX mf10_isDigit.2.2.2 ⟨by decide +kernel, flk10, clk10, llk10, jlk10⟩
   (fun _ h => absurd h List.not_mem_nil)
   (xrm_1 (by decide)) ⟨_, _, rfl, rfl⟩ (fun av μ r μ' h => by
    unfold F10_isDigit at h
    split at h
    · exact ⟨Nat.le_of_ble_eq_true rfl, (q10_isDigit _ _ _).trans ((f10_isDigit_e _ _).symm.trans h)⟩
    · cases h)
def t10_advance : List XE := [(0, .nop, 1, 0, 0, 0, []),
  (0, .aload_n 0, 0, 0, 0, 0, []),
  (1, .getfield 17, 10, 2, 0, 0, []),
  (4, .aload_n 0, 0, 0, 0, 0, []),
  (5, .getfield 13, 10, 1, 0, 0, []),
  (8, .if_icmp .ge 30, 38, 0, 0, 0, []),
  (11, .aload_n 0, 0, 0, 0, 0, []),
  (12, .aload_n 0, 0, 0, 0, 0, []),
  (13, .getfield 17, 10, 2, 0, 0, []),
  (16, .invokevirtual 26, 2, 10, 0, 0, []),
  (19, .invokestatic 30, 1, 0, 0, 0, []),
  (22, .ifCond .eq 16, 38, 0, 0, 0, []),
  (25, .aload_n 0, 0, 0, 0, 0, []),
  (26, .dup, 0, 0, 0, 0, []),
  (27, .getfield 17, 10, 2, 0, 0, []),
  (30, .iconst 1, 0, 0, 1, 0, []),
  (31, .iadd, 0, 0, 0, 0, []),
  (32, .putfield 17, 10, 2, 0, 0, []),
  (35, .goto (-35), 0, 0, 0, 0, []),
  (38, .nop, 1, 0, 0, 0, []),
  (38, .aload_n 0, 0, 0, 0, 0, []),
  (39, .aload_n 0, 0, 0, 0, 0, []),
  (40, .getfield 17, 10, 2, 0, 0, []),
  (43, .putfield 34, 10, 3, 0, 0, []),
  (46, .aload_n 0, 0, 0, 0, 0, []),
  (47, .aload_n 0, 0, 0, 0, 0, []),
  (48, .getfield 17, 10, 2, 0, 0, []),
  (51, .invokevirtual 26, 2, 10, 0, 0, []),
  (54, .istore_n 1, 1, 0, 0, 0, []),
  (55, .aload_n 0, 0, 0, 0, 0, []),
  (56, .getfield 17, 10, 2, 0, 0, []),
  (59, .aload_n 0, 0, 0, 0, 0, []),
  (60, .getfield 13, 10, 1, 0, 0, []),
  (63, .if_icmp .lt 11, 74, 0, 0, 0, []),
  (66, .aload_n 0, 0, 0, 0, 0, []),
  (67, .iconst 0, 0, 0, 0, 0, []),
  (68, .putfield 37, 10, 4, 0, 0, []),
  (71, .goto 238, 309, 0, 0, 0, []),
  (74, .iload_n 1, 1, 0, 0, 0, []),
  (75, .invokestatic 40, 1, 0, 0, 0, []),
  (78, .ifCond .eq 105, 183, 0, 0, 0, []),
  (81, .aload_n 0, 0, 0, 0, 0, []),
  (82, .lconst 0, 0, 0, 0, 0, []),
  (83, .putfield 43, 10, 6, 0, 0, []),
  (86, .nop, 1, 0, 0, 0, []),
  (86, .aload_n 0, 0, 0, 0, 0, []),
  (87, .getfield 17, 10, 2, 0, 0, []),
  (90, .aload_n 0, 0, 0, 0, 0, []),
  (91, .getfield 13, 10, 1, 0, 0, []),
  (94, .if_icmp .ge 57, 151, 0, 0, 0, []),
  (97, .aload_n 0, 0, 0, 0, 0, []),
  (98, .aload_n 0, 0, 0, 0, 0, []),
  (99, .getfield 17, 10, 2, 0, 0, []),
  (102, .invokevirtual 26, 2, 10, 0, 0, []),
  (105, .invokestatic 40, 1, 0, 0, 0, []),
  (108, .ifCond .eq 43, 151, 0, 0, 0, []),
  (111, .aload_n 0, 0, 0, 0, 0, []),
  (112, .ldc2_w 47, 0, 0, 0, 32, []),
  (115, .aload_n 0, 0, 0, 0, 0, []),
  (116, .getfield 43, 10, 6, 0, 0, []),
  (119, .lmul, 0, 0, 0, 0, []),
  (120, .aload_n 0, 0, 0, 0, 0, []),
  (121, .aload_n 0, 0, 0, 0, 0, []),
  (122, .getfield 17, 10, 2, 0, 0, []),
  (125, .invokevirtual 26, 2, 10, 0, 0, []),
  (128, .bipush 97, 0, 0, 97, 0, []),
  (130, .isub, 0, 0, 0, 0, []),
  (131, .iconst 1, 0, 0, 1, 0, []),
  (132, .iadd, 0, 0, 0, 0, []),
  (133, .i2l, 0, 0, 0, 0, []),
  (134, .ladd, 0, 0, 0, 0, []),
  (135, .putfield 43, 10, 6, 0, 0, []),
  (138, .aload_n 0, 0, 0, 0, 0, []),
  (139, .dup, 0, 0, 0, 0, []),
  (140, .getfield 17, 10, 2, 0, 0, []),
  (143, .iconst 1, 0, 0, 1, 0, []),
  (144, .iadd, 0, 0, 0, 0, []),
  (145, .putfield 17, 10, 2, 0, 0, []),
  (148, .goto (-62), 86, 0, 0, 0, []),
  (151, .nop, 1, 0, 0, 0, []),
  (151, .aload_n 0, 0, 0, 0, 0, []),
  (152, .aload_n 0, 0, 0, 0, 0, []),
  (153, .getfield 17, 10, 2, 0, 0, []),
  (156, .aload_n 0, 0, 0, 0, 0, []),
  (157, .getfield 34, 10, 3, 0, 0, []),
  (160, .isub, 0, 0, 0, 0, []),
  (161, .bipush 8, 0, 0, 8, 0, []),
  (163, .if_icmp .le 7, 170, 0, 0, 0, []),
  (166, .iconst 1, 0, 0, 1, 0, []),
  (167, .goto 10, 177, 0, 0, 0, []),
  (170, .aload_n 0, 0, 0, 0, 0, []),
  (171, .getfield 43, 10, 6, 0, 0, []),
  (174, .invokestatic 49, 1, 0, 0, 0, []),
  (177, .putfield 37, 10, 4, 0, 0, []),
  (180, .goto 129, 309, 0, 0, 0, []),
  (183, .iload_n 1, 1, 0, 0, 0, []),
  (184, .invokestatic 53, 1, 0, 0, 0, []),
  (187, .ifCond .eq 94, 281, 0, 0, 0, []),
  (190, .aload_n 0, 0, 0, 0, 0, []),
  (191, .iconst 0, 0, 0, 0, 0, []),
  (192, .putfield 56, 10, 5, 0, 0, []),
  (195, .nop, 1, 0, 0, 0, []),
  (195, .aload_n 0, 0, 0, 0, 0, []),
  (196, .getfield 17, 10, 2, 0, 0, []),
  (199, .aload_n 0, 0, 0, 0, 0, []),
  (200, .getfield 13, 10, 1, 0, 0, []),
  (203, .if_icmp .ge 53, 256, 0, 0, 0, []),
  (206, .aload_n 0, 0, 0, 0, 0, []),
  (207, .aload_n 0, 0, 0, 0, 0, []),
  (208, .getfield 17, 10, 2, 0, 0, []),
  (211, .invokevirtual 26, 2, 10, 0, 0, []),
  (214, .invokestatic 53, 1, 0, 0, 0, []),
  (217, .ifCond .eq 39, 256, 0, 0, 0, []),
  (220, .aload_n 0, 0, 0, 0, 0, []),
  (221, .bipush 10, 0, 0, 10, 0, []),
  (223, .aload_n 0, 0, 0, 0, 0, []),
  (224, .getfield 56, 10, 5, 0, 0, []),
  (227, .imul, 0, 0, 0, 0, []),
  (228, .aload_n 0, 0, 0, 0, 0, []),
  (229, .aload_n 0, 0, 0, 0, 0, []),
  (230, .getfield 17, 10, 2, 0, 0, []),
  (233, .invokevirtual 26, 2, 10, 0, 0, []),
  (236, .bipush 48, 0, 0, 48, 0, []),
  (238, .isub, 0, 0, 0, 0, []),
  (239, .iadd, 0, 0, 0, 0, []),
  (240, .putfield 56, 10, 5, 0, 0, []),
  (243, .aload_n 0, 0, 0, 0, 0, []),
  (244, .dup, 0, 0, 0, 0, []),
  (245, .getfield 17, 10, 2, 0, 0, []),
  (248, .iconst 1, 0, 0, 1, 0, []),
  (249, .iadd, 0, 0, 0, 0, []),
  (250, .putfield 17, 10, 2, 0, 0, []),
  (253, .goto (-58), 195, 0, 0, 0, []),
  (256, .nop, 1, 0, 0, 0, []),
  (256, .aload_n 0, 0, 0, 0, 0, []),
  (257, .aload_n 0, 0, 0, 0, 0, []),
  (258, .getfield 17, 10, 2, 0, 0, []),
  (261, .aload_n 0, 0, 0, 0, 0, []),
  (262, .getfield 34, 10, 3, 0, 0, []),
  (265, .isub, 0, 0, 0, 0, []),
  (266, .iconst 4, 0, 0, 4, 0, []),
  (267, .if_icmp .le 7, 274, 0, 0, 0, []),
  (270, .iconst 1, 0, 0, 1, 0, []),
  (271, .goto 4, 275, 0, 0, 0, []),
  (274, .iconst 2, 0, 0, 2, 0, []),
  (275, .putfield 37, 10, 4, 0, 0, []),
  (278, .goto 31, 309, 0, 0, 0, []),
  (281, .aload_n 0, 0, 0, 0, 0, []),
  (282, .ldc 59, 1, 1, 0, 0, []),
  (284, .iload_n 1, 1, 0, 0, 0, []),
  (285, .invokevirtual 61, 2, 15, 0, 0, []),
  (288, .ifCond .lt 7, 295, 0, 0, 0, []),
  (291, .iload_n 1, 1, 0, 0, 0, []),
  (292, .goto 4, 296, 0, 0, 0, []),
  (295, .iconst 1, 0, 0, 1, 0, []),
  (296, .putfield 37, 10, 4, 0, 0, []),
  (299, .aload_n 0, 0, 0, 0, 0, []),
  (300, .dup, 0, 0, 0, 0, []),
  (301, .getfield 17, 10, 2, 0, 0, []),
  (304, .iconst 1, 0, 0, 1, 0, []),
  (305, .iadd, 0, 0, 0, 0, []),
  (306, .putfield 17, 10, 2, 0, 0, []),
  (309, .return_, 0, 0, 0, 0, [])]
noncomputable def e10_advance : XN := [(26, 1, 2, 10, F10_signAt), (30, 1, 1, 99, F10_isBlank), (40, 1, 1, 99, F10_isLetter), (49, 1, 1, 99, F10_kindOf), (53, 1, 1, 99, F10_isDigit), (61, 1, 2, 15, FS_indexOf)]
noncomputable def h10_advance_0 (n : Nat) (μ : XM) : XR := arr t10_advance e10_advance 0 168 n 0 [some (xr 10 0 0), none] [] μ
noncomputable def h10_advance_38 (n : Nat) (μ : XM) : XR := arr t10_advance e10_advance 0 168 n 38 [some (xr 10 0 0), none] [] μ
noncomputable def h10_advance_86 (n : Nat) (μ : XM) : XR := arr t10_advance e10_advance 0 168 n 86 [some (xr 10 0 0), none] [] μ
noncomputable def h10_advance_151 (n : Nat) (μ : XM) : XR := arr t10_advance e10_advance 0 168 n 151 [some (xr 10 0 0), none] [] μ
noncomputable def h10_advance_195 (n : Nat) (μ : XM) : XR := arr t10_advance e10_advance 0 168 n 195 [some (xr 10 0 0), none] [] μ
noncomputable def h10_advance_256 (n : Nat) (μ : XM) : XR := arr t10_advance e10_advance 0 168 n 256 [some (xr 10 0 0), none] [] μ
set_option maxRecDepth 100000 in
theorem h10_advance_0_s (n : Nat) (μ : XM) : h10_advance_0 (n + 1)  μ = (
  xite ((rI μ 10 0 2) < (rI μ 10 0 1)) (
    bI (f10_signAt (rI μ 10 0 2) μ) fun r2 m1 =>
    bI (f10_isBlank r2 m1) fun r4 m3 =>
    xite (r4 = 0) (
      h10_advance_38 n m3) (
      mS (sI m3 10 0 2 ((rI m3 10 0 2) + 1)) fun m5 =>
      h10_advance_0 n m5)) (
    h10_advance_38 n μ)) := rfl
theorem h10_advance_0_0 (μ : XM) : h10_advance_0 0  μ = none := rfl
set_option maxRecDepth 100000 in
theorem h10_advance_38_s (n : Nat) (μ : XM) : h10_advance_38 (n + 1)  μ = (
  mS (sI μ 10 0 3 (rI μ 10 0 2)) fun m1 =>
  bI (f10_signAt (rI m1 10 0 2) m1) fun r3 m2 =>
  vI r3 fun x4 =>
  xite ((rI m2 10 0 2) < (rI m2 10 0 1)) (
    bI (f10_isLetter x4 m2) fun r6 m5 =>
    xite (r6 = 0) (
      bI (f10_isDigit x4 m5) fun r8 m7 =>
      xite (r8 = 0) (
        bI (fS_indexOf 1 x4 m7) fun r10 m9 =>
        xite (r10 < 0) (
          mS (sI m9 10 0 4 1) fun m11 =>
          mS (sI m11 10 0 2 ((rI m11 10 0 2) + 1)) fun m12 =>
          xrv m12) (
          mS (sI m9 10 0 4 x4) fun m13 =>
          mS (sI m13 10 0 2 ((rI m13 10 0 2) + 1)) fun m14 =>
          xrv m14)) (
        mS (sI m7 10 0 5 0) fun m15 =>
        h10_advance_195 n m15)) (
      mS (sL m5 10 0 6 0) fun m16 =>
      h10_advance_86 n m16)) (
    mS (sI m2 10 0 4 0) fun m17 =>
    xrv m17)) := rfl
theorem h10_advance_38_0 (μ : XM) : h10_advance_38 0  μ = none := rfl
set_option maxRecDepth 100000 in
theorem h10_advance_86_s (n : Nat) (μ : XM) : h10_advance_86 (n + 1)  μ = (
  xite ((rI μ 10 0 2) < (rI μ 10 0 1)) (
    bI (f10_signAt (rI μ 10 0 2) μ) fun r2 m1 =>
    bI (f10_isLetter r2 m1) fun r4 m3 =>
    xite (r4 = 0) (
      h10_advance_151 n m3) (
      bI (f10_signAt (rI m3 10 0 2) m3) fun r6 m5 =>
      mS (sL m5 10 0 6 ((32 * (rL m3 10 0 6)) + (Int32.toInt64 ((r6 - 97) + 1)))) fun m7 =>
      mS (sI m7 10 0 2 ((rI m7 10 0 2) + 1)) fun m8 =>
      h10_advance_86 n m8)) (
    h10_advance_151 n μ)) := rfl
theorem h10_advance_86_0 (μ : XM) : h10_advance_86 0  μ = none := rfl
set_option maxRecDepth 100000 in
theorem h10_advance_151_s (n : Nat) (μ : XM) : h10_advance_151 (n + 1)  μ = (
  xite ((8 : Int32) < ((rI μ 10 0 2) - (rI μ 10 0 3))) (
    mS (sI μ 10 0 4 1) fun m1 =>
    xrv m1) (
    bI (f10_kindOf (rL μ 10 0 6) μ) fun r3 m2 =>
    mS (sI m2 10 0 4 r3) fun m4 =>
    xrv m4)) := rfl
theorem h10_advance_151_0 (μ : XM) : h10_advance_151 0  μ = none := rfl
set_option maxRecDepth 100000 in
theorem h10_advance_195_s (n : Nat) (μ : XM) : h10_advance_195 (n + 1)  μ = (
  xite ((rI μ 10 0 2) < (rI μ 10 0 1)) (
    bI (f10_signAt (rI μ 10 0 2) μ) fun r2 m1 =>
    bI (f10_isDigit r2 m1) fun r4 m3 =>
    xite (r4 = 0) (
      h10_advance_256 n m3) (
      bI (f10_signAt (rI m3 10 0 2) m3) fun r6 m5 =>
      mS (sI m5 10 0 5 ((10 * (rI m3 10 0 5)) + (r6 - 48))) fun m7 =>
      mS (sI m7 10 0 2 ((rI m7 10 0 2) + 1)) fun m8 =>
      h10_advance_195 n m8)) (
    h10_advance_256 n μ)) := rfl
theorem h10_advance_195_0 (μ : XM) : h10_advance_195 0  μ = none := rfl
set_option maxRecDepth 100000 in
theorem h10_advance_256_s (n : Nat) (μ : XM) : h10_advance_256 (n + 1)  μ = (
  xite ((4 : Int32) < ((rI μ 10 0 2) - (rI μ 10 0 3))) (
    mS (sI μ 10 0 4 1) fun m1 =>
    xrv m1) (
    mS (sI μ 10 0 4 2) fun m2 =>
    xrv m2)) := rfl
theorem h10_advance_256_0 (μ : XM) : h10_advance_256 0  μ = none := rfl
noncomputable def k10_advance (n : Nat) (μ : XM) : XR :=
  h10_advance_0 n μ
set_option maxRecDepth 100000 in
theorem q10_advance (n : Nat) (μ : XM) : xrun t10_advance e10_advance (xrtk none) 168 n (xlo [xr 10 0 0] 2) μ = k10_advance n  μ := rfl
theorem x10_advance : ∃ f : XM → XR, ∀ (μ : XM), f μ = k10_advance 20000  μ := ⟨fun μ => k10_advance 20000  μ, fun μ => rfl⟩
noncomputable def f10_advance : XM → XR := Classical.choose x10_advance
theorem f10_advance_e (μ : XM) : f10_advance μ = k10_advance 20000  μ := Classical.choose_spec x10_advance μ
noncomputable def F10_advance : XF := fun av μ => match av with
  | [.inr (.inr (some (t0, i0, 0)))] => bif Nat.beq t0 10 && Nat.beq i0 0 then f10_advance  μ else none
  | _ => none
set_option maxRecDepth 100000 in
theorem c10_advance {X : XP} (hX : XOK X) (l : Launch) : Ctr X l y10_advance prog_12_method_6_code 2 none (xrm 10) 0 0 F10_advance :=
  Ctr_of (tab := t10_advance) (env := e10_advance) (K := 168) (N := 20000) (fl := fl10) (cl := cl10) (ll := ll10) (jl := jl10) hX mf10_advance.2.2.2 ⟨by decide +kernel, flk10, clk10, llk10, jlk10⟩
   (List.forall_mem_cons.mpr ⟨xcal_v (na := 1) (c10_signAt hX l) mf10_signAt ⟨rfl, rfl⟩ ml10_26 mi10_signAt me10_signAt (xrm_ok (by omega) (by decide)) rfl (by decide) (by decide +kernel), List.forall_mem_cons.mpr ⟨xcal_s (c10_isBlank hX l) mf10_isBlank ⟨rfl, rfl⟩ ml10_30 ms10_isBlank (xrm_ok (by omega) (by decide)) (by decide +kernel), List.forall_mem_cons.mpr ⟨xcal_s (c10_isLetter hX l) mf10_isLetter ⟨rfl, rfl⟩ ml10_40 ms10_isLetter (xrm_ok (by omega) (by decide)) (by decide +kernel), List.forall_mem_cons.mpr ⟨xcal_s (c10_kindOf hX l) mf10_kindOf ⟨rfl, rfl⟩ ml10_49 ms10_kindOf (xrm_ok (by omega) (by decide)) (by decide +kernel), List.forall_mem_cons.mpr ⟨xcal_s (c10_isDigit hX l) mf10_isDigit ⟨rfl, rfl⟩ ml10_53 ms10_isDigit (xrm_ok (by omega) (by decide)) (by decide +kernel), List.forall_mem_cons.mpr ⟨xcal_v (na := 1) (cS_indexOf hX l) mfS_indexOf ⟨rfl, rfl⟩ ml10_61 miS_indexOf meS_indexOf (xrm_ok (by omega) (by decide)) rfl (by decide) (by decide +kernel), fun _ h => absurd h List.not_mem_nil⟩⟩⟩⟩⟩⟩)
   (xrm_1 (by decide)) ⟨_, _, rfl, rfl⟩ (fun av μ r μ' h => by
    unfold F10_advance at h
    split at h
    · replace h := cond_inv h; obtain ⟨hb, h⟩ := h
      simp only [Bool.and_eq_true] at hb
      obtain ⟨g0, g1⟩ := hb
      obtain rfl := Nat.eq_of_beq_eq_true g0
      obtain rfl := Nat.eq_of_beq_eq_true g1
      exact ⟨Nat.le_of_ble_eq_true rfl, (q10_advance _  _).trans ((f10_advance_e  _).symm.trans h)⟩
    · cases h)
def t10_begin : List XE := [(0, .aload_n 0, 0, 0, 0, 0, []),
  (1, .iconst 0, 0, 0, 0, 0, []),
  (2, .putfield 17, 10, 2, 0, 0, []),
  (5, .aload_n 0, 0, 0, 0, 0, []),
  (6, .iconst 0, 0, 0, 0, 0, []),
  (7, .putfield 20, 10, 7, 0, 0, []),
  (10, .aload_n 0, 0, 0, 0, 0, []),
  (11, .invokevirtual 23, 1, 10, 0, 0, []),
  (14, .return_, 0, 0, 0, 0, [])]
noncomputable def e10_begin : XN := [(23, 0, 1, 10, F10_advance)]
noncomputable def k10_begin (μ : XM) : XR :=
  mS (sI μ 10 0 2 0) fun m1 =>
  mS (sI m1 10 0 7 0) fun m2 =>
  bV (f10_advance m2) fun m3 =>
  xrv m3
set_option maxRecDepth 100000 in
theorem q10_begin (n : Nat) (μ : XM) : xrun t10_begin e10_begin (xrtk none) 14 n (xlo [xr 10 0 0] 1) μ = k10_begin  μ := rfl
theorem x10_begin : ∃ f : XM → XR, ∀ (μ : XM), f μ = k10_begin  μ := ⟨fun μ => k10_begin  μ, fun μ => rfl⟩
noncomputable def f10_begin : XM → XR := Classical.choose x10_begin
theorem f10_begin_e (μ : XM) : f10_begin μ = k10_begin  μ := Classical.choose_spec x10_begin μ
noncomputable def F10_begin : XF := fun av μ => match av with
  | [.inr (.inr (some (t0, i0, 0)))] => bif Nat.beq t0 10 && Nat.beq i0 0 then f10_begin  μ else none
  | _ => none
set_option maxRecDepth 100000 in
theorem c10_begin {X : XP} (hX : XOK X) (l : Launch) : Ctr X l y10_begin prog_12_method_5_code 1 none (xrm 11) 0 0 F10_begin :=
  Ctr_of (tab := t10_begin) (env := e10_begin) (K := 14) (N := 20000) (fl := fl10) (cl := cl10) (ll := ll10) (jl := jl10) hX mf10_begin.2.2.2 ⟨by decide +kernel, flk10, clk10, llk10, jlk10⟩
   (List.forall_mem_cons.mpr ⟨xcal_v (na := 0) (c10_advance hX l) mf10_advance ⟨rfl, rfl⟩ ml10_23 mi10_advance me10_advance (xrm_ok (by omega) (by decide)) rfl (by decide) (by decide +kernel), fun _ h => absurd h List.not_mem_nil⟩)
   (xrm_1 (by decide)) ⟨_, _, rfl, rfl⟩ (fun av μ r μ' h => by
    unfold F10_begin at h
    split at h
    · replace h := cond_inv h; obtain ⟨hb, h⟩ := h
      simp only [Bool.and_eq_true] at hb
      obtain ⟨g0, g1⟩ := hb
      obtain rfl := Nat.eq_of_beq_eq_true g0
      obtain rfl := Nat.eq_of_beq_eq_true g1
      exact ⟨Nat.le_of_ble_eq_true rfl, (q10_begin _  _).trans ((f10_begin_e  _).symm.trans h)⟩
    · cases h)
def t10_wrong : List XE := [(0, .aload_n 0, 0, 0, 0, 0, []),
  (1, .getfield 20, 10, 7, 0, 0, []),
  (4, .ifCond .ne 16, 20, 0, 0, 0, []),
  (7, .aload_n 0, 0, 0, 0, 0, []),
  (8, .iload_n 1, 1, 0, 0, 0, []),
  (9, .bipush 16, 0, 0, 16, 0, []),
  (11, .aload_n 0, 0, 0, 0, 0, []),
  (12, .getfield 34, 10, 3, 0, 0, []),
  (15, .imul, 0, 0, 0, 0, []),
  (16, .iadd, 0, 0, 0, 0, []),
  (17, .putfield 20, 10, 7, 0, 0, []),
  (20, .iconst 0, 0, 0, 0, 0, []),
  (21, .ireturn, 0, 0, 0, 0, [])]
noncomputable def e10_wrong : XN := []
noncomputable def k10_wrong (p1 : Int32) (μ : XM) : XR :=
  xite ((rI μ 10 0 7) = 0) (
    mS (sI μ 10 0 7 (p1 + (16 * (rI μ 10 0 3)))) fun m1 =>
    xrb 0 m1) (
    xrb 0 μ)
set_option maxRecDepth 100000 in
theorem q10_wrong (n : Nat) (p1 : Int32) (μ : XM) : xrun t10_wrong e10_wrong (xrtk (some .boolean)) 18 n (xlo [xr 10 0 0, xi p1] 2) μ = k10_wrong p1 μ := rfl
theorem x10_wrong : ∃ f : Int32 → XM → XR, ∀ (p1 : Int32) (μ : XM), f p1 μ = k10_wrong p1 μ := ⟨fun p1 μ => k10_wrong p1 μ, fun p1 μ => rfl⟩
noncomputable def f10_wrong : Int32 → XM → XR := Classical.choose x10_wrong
theorem f10_wrong_e (p1 : Int32) (μ : XM) : f10_wrong p1 μ = k10_wrong p1 μ := Classical.choose_spec x10_wrong p1 μ
noncomputable def F10_wrong : XF := fun av μ => match av with
  | [.inr (.inr (some (t0, i0, 0))), .inl p1] => bif Nat.beq t0 10 && Nat.beq i0 0 then f10_wrong p1 μ else none
  | _ => none
set_option maxRecDepth 100000 in
theorem c10_wrong {X : XP} (hX : XOK X) (l : Launch) : Ctr X l y10_wrong prog_12_method_15_code 2 (some .boolean) (xrm 1) 0 0 F10_wrong :=
  Ctr_of (tab := t10_wrong) (env := e10_wrong) (K := 18) (N := 20000) (fl := fl10) (cl := cl10) (ll := ll10) (jl := jl10) hX mf10_wrong.2.2.2 ⟨by decide +kernel, flk10, clk10, llk10, jlk10⟩
   (fun _ h => absurd h List.not_mem_nil)
   (xrm_1 (by decide)) ⟨_, _, rfl, rfl⟩ (fun av μ r μ' h => by
    unfold F10_wrong at h
    split at h
    · replace h := cond_inv h; obtain ⟨hb, h⟩ := h
      simp only [Bool.and_eq_true] at hb
      obtain ⟨g0, g1⟩ := hb
      obtain rfl := Nat.eq_of_beq_eq_true g0
      obtain rfl := Nat.eq_of_beq_eq_true g1
      exact ⟨Nat.le_of_ble_eq_true rfl, (q10_wrong _ _ _).trans ((f10_wrong_e _ _).symm.trans h)⟩
    · cases h)
def t10_isFact : List XE := [(0, .aload_n 0, 0, 0, 0, 0, []),
  (1, .getfield 37, 10, 4, 0, 0, []),
  (4, .sipush 151, 0, 0, 151, 0, []),
  (7, .if_icmp .lt 17, 24, 0, 0, 0, []),
  (10, .aload_n 0, 0, 0, 0, 0, []),
  (11, .getfield 37, 10, 4, 0, 0, []),
  (14, .sipush 154, 0, 0, 154, 0, []),
  (17, .if_icmp .gt 7, 24, 0, 0, 0, []),
  (20, .iconst 1, 0, 0, 1, 0, []),
  (21, .goto 4, 25, 0, 0, 0, []),
  (24, .iconst 0, 0, 0, 0, 0, []),
  (25, .ireturn, 0, 0, 0, 0, [])]
noncomputable def e10_isFact : XN := []
noncomputable def k10_isFact (μ : XM) : XR :=
  xite ((rI μ 10 0 4) < 151) (
    xrb 0 μ) (
    xite ((154 : Int32) < (rI μ 10 0 4)) (
      xrb 0 μ) (
      xrb 1 μ))
set_option maxRecDepth 100000 in
theorem q10_isFact (n : Nat) (μ : XM) : xrun t10_isFact e10_isFact (xrtk (some .boolean)) 17 n (xlo [xr 10 0 0] 1) μ = k10_isFact  μ := rfl
theorem x10_isFact : ∃ f : XM → XR, ∀ (μ : XM), f μ = k10_isFact  μ := ⟨fun μ => k10_isFact  μ, fun μ => rfl⟩
noncomputable def f10_isFact : XM → XR := Classical.choose x10_isFact
theorem f10_isFact_e (μ : XM) : f10_isFact μ = k10_isFact  μ := Classical.choose_spec x10_isFact μ
noncomputable def F10_isFact : XF := fun av μ => match av with
  | [.inr (.inr (some (t0, i0, 0)))] => bif Nat.beq t0 10 && Nat.beq i0 0 then f10_isFact  μ else none
  | _ => none
set_option maxRecDepth 100000 in
theorem c10_isFact {X : XP} (hX : XOK X) (l : Launch) : Ctr X l y10_isFact prog_12_method_11_code 1 (some .boolean) (xrm 1) 0 0 F10_isFact :=
  Ctr_of (tab := t10_isFact) (env := e10_isFact) (K := 17) (N := 20000) (fl := fl10) (cl := cl10) (ll := ll10) (jl := jl10) hX mf10_isFact.2.2.2 ⟨by decide +kernel, flk10, clk10, llk10, jlk10⟩
   (fun _ h => absurd h List.not_mem_nil)
   (xrm_1 (by decide)) ⟨_, _, rfl, rfl⟩ (fun av μ r μ' h => by
    unfold F10_isFact at h
    split at h
    · replace h := cond_inv h; obtain ⟨hb, h⟩ := h
      simp only [Bool.and_eq_true] at hb
      obtain ⟨g0, g1⟩ := hb
      obtain rfl := Nat.eq_of_beq_eq_true g0
      obtain rfl := Nat.eq_of_beq_eq_true g1
      exact ⟨Nat.le_of_ble_eq_true rfl, (q10_isFact _  _).trans ((f10_isFact_e  _).symm.trans h)⟩
    · cases h)
def t10_isName : List XE := [(0, .aload_n 0, 0, 0, 0, 0, []),
  (1, .getfield 37, 10, 4, 0, 0, []),
  (4, .iconst 3, 0, 0, 3, 0, []),
  (5, .if_icmp .eq 18, 23, 0, 0, 0, []),
  (8, .aload_n 0, 0, 0, 0, 0, []),
  (9, .invokevirtual 75, 1, 10, 0, 0, []),
  (12, .ifCond .ne 11, 23, 0, 0, 0, []),
  (15, .aload_n 0, 0, 0, 0, 0, []),
  (16, .iconst 1, 0, 0, 1, 0, []),
  (17, .invokevirtual 79, 2, 10, 0, 0, []),
  (20, .ifCond .eq 7, 27, 0, 0, 0, []),
  (23, .iconst 1, 0, 0, 1, 0, []),
  (24, .goto 4, 28, 0, 0, 0, []),
  (27, .iconst 0, 0, 0, 0, 0, []),
  (28, .ireturn, 0, 0, 0, 0, [])]
noncomputable def e10_isName : XN := [(75, 1, 1, 10, F10_isFact), (79, 1, 2, 10, F10_wrong)]
noncomputable def k10_isName (μ : XM) : XR :=
  xite ((rI μ 10 0 4) = 3) (
    xrb 1 μ) (
    bI (f10_isFact μ) fun r2 m1 =>
    xite (r2 = 0) (
      bI (f10_wrong 1 m1) fun r4 m3 =>
      xite (r4 = 0) (
        xrb 0 m3) (
        xrb 1 m3)) (
      xrb 1 m1))
set_option maxRecDepth 100000 in
theorem q10_isName (n : Nat) (μ : XM) : xrun t10_isName e10_isName (xrtk (some .boolean)) 20 n (xlo [xr 10 0 0] 1) μ = k10_isName  μ := rfl
theorem x10_isName : ∃ f : XM → XR, ∀ (μ : XM), f μ = k10_isName  μ := ⟨fun μ => k10_isName  μ, fun μ => rfl⟩
noncomputable def f10_isName : XM → XR := Classical.choose x10_isName
theorem f10_isName_e (μ : XM) : f10_isName μ = k10_isName  μ := Classical.choose_spec x10_isName μ
noncomputable def F10_isName : XF := fun av μ => match av with
  | [.inr (.inr (some (t0, i0, 0)))] => bif Nat.beq t0 10 && Nat.beq i0 0 then f10_isName  μ else none
  | _ => none
set_option maxRecDepth 100000 in
theorem c10_isName {X : XP} (hX : XOK X) (l : Launch) : Ctr X l y10_isName prog_12_method_12_code 1 (some .boolean) (xrm 2) 0 0 F10_isName :=
  Ctr_of (tab := t10_isName) (env := e10_isName) (K := 20) (N := 20000) (fl := fl10) (cl := cl10) (ll := ll10) (jl := jl10) hX mf10_isName.2.2.2 ⟨by decide +kernel, flk10, clk10, llk10, jlk10⟩
   (List.forall_mem_cons.mpr ⟨xcal_v (na := 0) (c10_isFact hX l) mf10_isFact ⟨rfl, rfl⟩ ml10_75 mi10_isFact me10_isFact (xrm_ok (by omega) (by decide)) rfl (by decide) (by decide +kernel), List.forall_mem_cons.mpr ⟨xcal_v (na := 1) (c10_wrong hX l) mf10_wrong ⟨rfl, rfl⟩ ml10_79 mi10_wrong me10_wrong (xrm_ok (by omega) (by decide)) rfl (by decide) (by decide +kernel), fun _ h => absurd h List.not_mem_nil⟩⟩)
   (xrm_1 (by decide)) ⟨_, _, rfl, rfl⟩ (fun av μ r μ' h => by
    unfold F10_isName at h
    split at h
    · replace h := cond_inv h; obtain ⟨hb, h⟩ := h
      simp only [Bool.and_eq_true] at hb
      obtain ⟨g0, g1⟩ := hb
      obtain rfl := Nat.eq_of_beq_eq_true g0
      obtain rfl := Nat.eq_of_beq_eq_true g1
      exact ⟨Nat.le_of_ble_eq_true rfl, (q10_isName _  _).trans ((f10_isName_e  _).symm.trans h)⟩
    · cases h)
def t2_find : List XE := [(0, .iconst 0, 0, 0, 0, 0, []),
  (1, .istore 4, 4, 0, 0, 0, []),
  (3, .nop, 23, 0, 0, 0, []),
  (3, .iload 4, 4, 0, 0, 0, []),
  (5, .iload_n 1, 1, 0, 0, 0, []),
  (6, .if_icmp .ge 28, 34, 0, 0, 0, []),
  (9, .iload 4, 4, 0, 0, 0, []),
  (11, .aload_n 0, 0, 0, 0, 0, []),
  (12, .arraylength, 0, 0, 0, 0, []),
  (13, .if_icmp .ge 21, 34, 0, 0, 0, []),
  (16, .aload_n 0, 0, 0, 0, 0, []),
  (17, .iload 4, 4, 0, 0, 0, []),
  (19, .laload, 0, 0, 0, 0, []),
  (20, .lload_n 2, 2, 0, 0, 0, []),
  (21, .lcmp, 0, 0, 0, 0, []),
  (22, .ifCond .ne 6, 28, 0, 0, 0, []),
  (25, .iload 4, 4, 0, 0, 0, []),
  (27, .ireturn, 0, 0, 0, 0, []),
  (28, .iinc 4 1, 4, 0, 1, 0, []),
  (31, .goto (-28), 3, 0, 0, 0, []),
  (34, .iconst (-1), 0, 0, (-1), 0, []),
  (35, .ireturn, 0, 0, 0, 0, [])]
noncomputable def e2_find : XN := []
noncomputable def h2_find_gn_3 (n : Nat) (i0 : Nat) (v1 : Int32) (v2 : Int64) (v4 : Int32) (μ : XM) : XR := arr t2_find e2_find 1 27 n 3 [some (xr 2 i0 6), some (xi v1), some (xl v2), none, some (xi v4)] [] μ
set_option maxRecDepth 100000 in
theorem h2_find_gn_3_s (n : Nat) (i0 : Nat) (v1 : Int32) (v2 : Int64) (v4 : Int32) (μ : XM) : h2_find_gn_3 (n + 1) i0 v1 v2 v4 μ = (
  xite (v4 < v1) (
    xite (v4 < (nI 6)) (
      xck (xin v4 6) <|
      xite ((lg_cmp (aL μ 2 i0 5 (Int32.toNatClampNeg v4)) v2) = 0) (
        xri v4 μ) (
        vI (v4 + 1) fun x1 =>
        h2_find_gn_3 n i0 v1 v2 x1 μ)) (
      xri (-1) μ)) (
    xri (-1) μ)) := rfl
theorem h2_find_gn_3_0 (i0 : Nat) (v1 : Int32) (v2 : Int64) (v4 : Int32) (μ : XM) : h2_find_gn_3 0 i0 v1 v2 v4 μ = none := rfl
noncomputable def k2_find_gn (n : Nat) (i0 : Nat) (p1 : Int32) (p2 : Int64) (μ : XM) : XR :=
  vI 0 fun x1 =>
  h2_find_gn_3 n i0 p1 p2 x1 μ
set_option maxRecDepth 100000 in
theorem q2_find_gn (n : Nat) (i0 : Nat) (p1 : Int32) (p2 : Int64) (μ : XM) : xrun t2_find e2_find (xrtk (some .int)) 27 n (xlo [xr 2 i0 6, xi p1, xl p2] 5) μ = k2_find_gn n i0 p1 p2 μ := rfl
theorem x2_find_gn : ∃ f : Nat → Int32 → Int64 → XM → XR, ∀ (i0 : Nat) (p1 : Int32) (p2 : Int64) (μ : XM), f i0 p1 p2 μ = k2_find_gn 20000 i0 p1 p2 μ := ⟨fun i0 p1 p2 μ => k2_find_gn 20000 i0 p1 p2 μ, fun i0 p1 p2 μ => rfl⟩
noncomputable def f2_find_gn : Nat → Int32 → Int64 → XM → XR := Classical.choose x2_find_gn
theorem f2_find_gn_e (i0 : Nat) (p1 : Int32) (p2 : Int64) (μ : XM) : f2_find_gn i0 p1 p2 μ = k2_find_gn 20000 i0 p1 p2 μ := Classical.choose_spec x2_find_gn i0 p1 p2 μ
noncomputable def h2_find_bn_3 (n : Nat) (i0 : Nat) (v1 : Int32) (v2 : Int64) (v4 : Int32) (μ : XM) : XR := arr t2_find e2_find 1 27 n 3 [some (xr 2 i0 12), some (xi v1), some (xl v2), none, some (xi v4)] [] μ
set_option maxRecDepth 100000 in
theorem h2_find_bn_3_s (n : Nat) (i0 : Nat) (v1 : Int32) (v2 : Int64) (v4 : Int32) (μ : XM) : h2_find_bn_3 (n + 1) i0 v1 v2 v4 μ = (
  xite (v4 < v1) (
    xite (v4 < (nI 5)) (
      xck (xin v4 5) <|
      xite ((lg_cmp (aL μ 2 i0 11 (Int32.toNatClampNeg v4)) v2) = 0) (
        xri v4 μ) (
        vI (v4 + 1) fun x1 =>
        h2_find_bn_3 n i0 v1 v2 x1 μ)) (
      xri (-1) μ)) (
    xri (-1) μ)) := rfl
theorem h2_find_bn_3_0 (i0 : Nat) (v1 : Int32) (v2 : Int64) (v4 : Int32) (μ : XM) : h2_find_bn_3 0 i0 v1 v2 v4 μ = none := rfl
noncomputable def k2_find_bn (n : Nat) (i0 : Nat) (p1 : Int32) (p2 : Int64) (μ : XM) : XR :=
  vI 0 fun x1 =>
  h2_find_bn_3 n i0 p1 p2 x1 μ
set_option maxRecDepth 100000 in
theorem q2_find_bn (n : Nat) (i0 : Nat) (p1 : Int32) (p2 : Int64) (μ : XM) : xrun t2_find e2_find (xrtk (some .int)) 27 n (xlo [xr 2 i0 12, xi p1, xl p2] 5) μ = k2_find_bn n i0 p1 p2 μ := rfl
theorem x2_find_bn : ∃ f : Nat → Int32 → Int64 → XM → XR, ∀ (i0 : Nat) (p1 : Int32) (p2 : Int64) (μ : XM), f i0 p1 p2 μ = k2_find_bn 20000 i0 p1 p2 μ := ⟨fun i0 p1 p2 μ => k2_find_bn 20000 i0 p1 p2 μ, fun i0 p1 p2 μ => rfl⟩
noncomputable def f2_find_bn : Nat → Int32 → Int64 → XM → XR := Classical.choose x2_find_bn
theorem f2_find_bn_e (i0 : Nat) (p1 : Int32) (p2 : Int64) (μ : XM) : f2_find_bn i0 p1 p2 μ = k2_find_bn 20000 i0 p1 p2 μ := Classical.choose_spec x2_find_bn i0 p1 p2 μ
noncomputable def h2_find_mn_3 (n : Nat) (i0 : Nat) (v1 : Int32) (v2 : Int64) (v4 : Int32) (μ : XM) : XR := arr t2_find e2_find 1 27 n 3 [some (xr 2 i0 14), some (xi v1), some (xl v2), none, some (xi v4)] [] μ
set_option maxRecDepth 100000 in
theorem h2_find_mn_3_s (n : Nat) (i0 : Nat) (v1 : Int32) (v2 : Int64) (v4 : Int32) (μ : XM) : h2_find_mn_3 (n + 1) i0 v1 v2 v4 μ = (
  xite (v4 < v1) (
    xite (v4 < (nI 3)) (
      xck (xin v4 3) <|
      xite ((lg_cmp (aL μ 2 i0 13 (Int32.toNatClampNeg v4)) v2) = 0) (
        xri v4 μ) (
        vI (v4 + 1) fun x1 =>
        h2_find_mn_3 n i0 v1 v2 x1 μ)) (
      xri (-1) μ)) (
    xri (-1) μ)) := rfl
theorem h2_find_mn_3_0 (i0 : Nat) (v1 : Int32) (v2 : Int64) (v4 : Int32) (μ : XM) : h2_find_mn_3 0 i0 v1 v2 v4 μ = none := rfl
noncomputable def k2_find_mn (n : Nat) (i0 : Nat) (p1 : Int32) (p2 : Int64) (μ : XM) : XR :=
  vI 0 fun x1 =>
  h2_find_mn_3 n i0 p1 p2 x1 μ
set_option maxRecDepth 100000 in
theorem q2_find_mn (n : Nat) (i0 : Nat) (p1 : Int32) (p2 : Int64) (μ : XM) : xrun t2_find e2_find (xrtk (some .int)) 27 n (xlo [xr 2 i0 14, xi p1, xl p2] 5) μ = k2_find_mn n i0 p1 p2 μ := rfl
theorem x2_find_mn : ∃ f : Nat → Int32 → Int64 → XM → XR, ∀ (i0 : Nat) (p1 : Int32) (p2 : Int64) (μ : XM), f i0 p1 p2 μ = k2_find_mn 20000 i0 p1 p2 μ := ⟨fun i0 p1 p2 μ => k2_find_mn 20000 i0 p1 p2 μ, fun i0 p1 p2 μ => rfl⟩
noncomputable def f2_find_mn : Nat → Int32 → Int64 → XM → XR := Classical.choose x2_find_mn
theorem f2_find_mn_e (i0 : Nat) (p1 : Int32) (p2 : Int64) (μ : XM) : f2_find_mn i0 p1 p2 μ = k2_find_mn 20000 i0 p1 p2 μ := Classical.choose_spec x2_find_mn i0 p1 p2 μ
noncomputable def F2_find : XF := fun av μ => match av with
  | [.inr (.inr (some (t0, i0, j0 + 1))), .inl p1, .inr (.inl p2)] => bif Nat.beq t0 2 && Nat.beq j0 5 then f2_find_gn i0 p1 p2 μ else bif Nat.beq t0 2 && Nat.beq j0 11 then f2_find_bn i0 p1 p2 μ else bif Nat.beq t0 2 && Nat.beq j0 13 then f2_find_mn i0 p1 p2 μ else none
  | _ => none
set_option maxRecDepth 100000 in
theorem c2_find {X : XP} (hX : XOK X) (l : Launch) : Ctr X l y2_find prog_4_method_8_code 5 (some .int) (xrm 1) 0 0 F2_find :=
  Ctr_of (tab := t2_find) (env := e2_find) (K := 27) (N := 20000) (fl := fl2) (cl := cl2) (ll := ll2) (jl := jl2) hX mf2_find.2.2.2 ⟨by decide +kernel, flk2, clk2, llk2, jlk2⟩
   (fun _ h => absurd h List.not_mem_nil)
   (xrm_1 (by decide)) ⟨_, _, rfl, rfl⟩ (fun av μ r μ' h => by
    unfold F2_find at h
    split at h
    · rcases xcond_inv h with ⟨hb, h⟩ | h
      · simp only [Bool.and_eq_true] at hb
        obtain ⟨g0, g1⟩ := hb
        obtain rfl := Nat.eq_of_beq_eq_true g0
        obtain rfl := Nat.eq_of_beq_eq_true g1
        exact ⟨Nat.le_of_ble_eq_true rfl, (q2_find_gn _ _ _ _ _).trans ((f2_find_gn_e _ _ _ _).symm.trans h)⟩
      · skip
        rcases xcond_inv h with ⟨hb, h⟩ | h
        · simp only [Bool.and_eq_true] at hb
          obtain ⟨g0, g1⟩ := hb
          obtain rfl := Nat.eq_of_beq_eq_true g0
          obtain rfl := Nat.eq_of_beq_eq_true g1
          exact ⟨Nat.le_of_ble_eq_true rfl, (q2_find_bn _ _ _ _ _).trans ((f2_find_bn_e _ _ _ _).symm.trans h)⟩
        · skip
          rcases xcond_inv h with ⟨hb, h⟩ | h
          · simp only [Bool.and_eq_true] at hb
            obtain ⟨g0, g1⟩ := hb
            obtain rfl := Nat.eq_of_beq_eq_true g0
            obtain rfl := Nat.eq_of_beq_eq_true g1
            exact ⟨Nat.le_of_ble_eq_true rfl, (q2_find_mn _ _ _ _ _).trans ((f2_find_mn_e _ _ _ _).symm.trans h)⟩
          · cases h
    · cases h)
def t1_readName : List XE := [(0, .aload_n 1, 1, 0, 0, 0, []),
  (1, .invokevirtual 84, 1, 10, 0, 0, []),
  (4, .ifCond .ne 5, 9, 0, 0, 0, []),
  (7, .iconst 0, 0, 0, 0, 0, []),
  (8, .ireturn, 0, 0, 0, 0, []),
  (9, .aload_n 2, 2, 0, 0, 0, []),
  (10, .iload_n 3, 3, 0, 0, 0, []),
  (11, .aload_n 1, 1, 0, 0, 0, []),
  (12, .getfield 88, 10, 6, 0, 0, []),
  (15, .invokestatic 92, 3, 0, 0, 0, []),
  (18, .istore 5, 5, 0, 0, 0, []),
  (20, .iload 5, 5, 0, 0, 0, []),
  (22, .iconst (-1), 0, 0, (-1), 0, []),
  (23, .if_icmp .ne 9, 32, 0, 0, 0, []),
  (26, .aload_n 1, 1, 0, 0, 0, []),
  (27, .iconst 2, 0, 0, 2, 0, []),
  (28, .invokevirtual 49, 2, 10, 0, 0, []),
  (31, .ireturn, 0, 0, 0, 0, []),
  (32, .aload_n 0, 0, 0, 0, 0, []),
  (33, .getfield 24, 1, 0, 0, 0, []),
  (36, .aload 4, 4, 0, 0, 0, []),
  (38, .arraylength, 0, 0, 0, 0, []),
  (39, .if_icmp .ge 12, 51, 0, 0, 0, []),
  (42, .aload 4, 4, 0, 0, 0, []),
  (44, .aload_n 0, 0, 0, 0, 0, []),
  (45, .getfield 24, 1, 0, 0, 0, []),
  (48, .iload 5, 5, 0, 0, 0, []),
  (50, .iastore, 0, 0, 0, 0, []),
  (51, .aload_n 1, 1, 0, 0, 0, []),
  (52, .invokevirtual 53, 1, 10, 0, 0, []),
  (55, .iconst 1, 0, 0, 1, 0, []),
  (56, .ireturn, 0, 0, 0, 0, [])]
noncomputable def e1_readName : XN := [(84, 1, 1, 10, F10_isName), (92, 1, 3, 99, F2_find), (49, 1, 2, 10, F10_wrong), (53, 0, 1, 10, F10_advance)]
noncomputable def k1_readName_m (i0 : Nat) (i2 : Nat) (p3 : Int32) (i4 : Nat) (μ : XM) : XR :=
  bI (f10_isName μ) fun r2 m1 =>
  xite (r2 = 0) (
    xrb 0 m1) (
    bI (f2_find_mn i2 p3 (rL m1 10 0 6) m1) fun r4 m3 =>
    vI r4 fun x5 =>
    xite (x5 = (-1)) (
      bI (f10_wrong 2 m3) fun r7 m6 =>
      xrb r7 m6) (
      xite ((rI m3 1 i0 0) < (nI 40)) (
        xck (xin (rI m3 1 i0 0) 40 && true) <|
        mS (pI m3 1 i4 2 (Int32.toNatClampNeg (rI m3 1 i0 0)) x5) fun m8 =>
        bV (f10_advance m8) fun m9 =>
        xrb 1 m9) (
        bV (f10_advance m3) fun m10 =>
        xrb 1 m10)))
set_option maxRecDepth 100000 in
theorem q1_readName_m (n : Nat) (i0 : Nat) (i2 : Nat) (p3 : Int32) (i4 : Nat) (μ : XM) : xrun t1_readName e1_readName (xrtk (some .boolean)) 37 n (xlo [xr 1 i0 0, xr 10 0 0, xr 2 i2 14, xi p3, xr 1 i4 3] 6) μ = k1_readName_m i0 i2 p3 i4 μ := rfl
theorem x1_readName_m : ∃ f : Nat → Nat → Int32 → Nat → XM → XR, ∀ (i0 : Nat) (i2 : Nat) (p3 : Int32) (i4 : Nat) (μ : XM), f i0 i2 p3 i4 μ = k1_readName_m i0 i2 p3 i4 μ := ⟨fun i0 i2 p3 i4 μ => k1_readName_m i0 i2 p3 i4 μ, fun i0 i2 p3 i4 μ => rfl⟩
noncomputable def f1_readName_m : Nat → Nat → Int32 → Nat → XM → XR := Classical.choose x1_readName_m
theorem f1_readName_m_e (i0 : Nat) (i2 : Nat) (p3 : Int32) (i4 : Nat) (μ : XM) : f1_readName_m i0 i2 p3 i4 μ = k1_readName_m i0 i2 p3 i4 μ := Classical.choose_spec x1_readName_m i0 i2 p3 i4 μ
noncomputable def k1_readName_b (i0 : Nat) (i2 : Nat) (p3 : Int32) (i4 : Nat) (μ : XM) : XR :=
  bI (f10_isName μ) fun r2 m1 =>
  xite (r2 = 0) (
    xrb 0 m1) (
    bI (f2_find_bn i2 p3 (rL m1 10 0 6) m1) fun r4 m3 =>
    vI r4 fun x5 =>
    xite (x5 = (-1)) (
      bI (f10_wrong 2 m3) fun r7 m6 =>
      xrb r7 m6) (
      xite ((rI m3 1 i0 0) < (nI 40)) (
        xck (xin (rI m3 1 i0 0) 40 && true) <|
        mS (pI m3 1 i4 3 (Int32.toNatClampNeg (rI m3 1 i0 0)) x5) fun m8 =>
        bV (f10_advance m8) fun m9 =>
        xrb 1 m9) (
        bV (f10_advance m3) fun m10 =>
        xrb 1 m10)))
set_option maxRecDepth 100000 in
theorem q1_readName_b (n : Nat) (i0 : Nat) (i2 : Nat) (p3 : Int32) (i4 : Nat) (μ : XM) : xrun t1_readName e1_readName (xrtk (some .boolean)) 37 n (xlo [xr 1 i0 0, xr 10 0 0, xr 2 i2 12, xi p3, xr 1 i4 4] 6) μ = k1_readName_b i0 i2 p3 i4 μ := rfl
theorem x1_readName_b : ∃ f : Nat → Nat → Int32 → Nat → XM → XR, ∀ (i0 : Nat) (i2 : Nat) (p3 : Int32) (i4 : Nat) (μ : XM), f i0 i2 p3 i4 μ = k1_readName_b i0 i2 p3 i4 μ := ⟨fun i0 i2 p3 i4 μ => k1_readName_b i0 i2 p3 i4 μ, fun i0 i2 p3 i4 μ => rfl⟩
noncomputable def f1_readName_b : Nat → Nat → Int32 → Nat → XM → XR := Classical.choose x1_readName_b
theorem f1_readName_b_e (i0 : Nat) (i2 : Nat) (p3 : Int32) (i4 : Nat) (μ : XM) : f1_readName_b i0 i2 p3 i4 μ = k1_readName_b i0 i2 p3 i4 μ := Classical.choose_spec x1_readName_b i0 i2 p3 i4 μ
noncomputable def k1_readName_g (i0 : Nat) (i2 : Nat) (p3 : Int32) (i4 : Nat) (μ : XM) : XR :=
  bI (f10_isName μ) fun r2 m1 =>
  xite (r2 = 0) (
    xrb 0 m1) (
    bI (f2_find_gn i2 p3 (rL m1 10 0 6) m1) fun r4 m3 =>
    vI r4 fun x5 =>
    xite (x5 = (-1)) (
      bI (f10_wrong 2 m3) fun r7 m6 =>
      xrb r7 m6) (
      xite ((rI m3 1 i0 0) < (nI 40)) (
        xck (xin (rI m3 1 i0 0) 40 && true) <|
        mS (pI m3 1 i4 4 (Int32.toNatClampNeg (rI m3 1 i0 0)) x5) fun m8 =>
        bV (f10_advance m8) fun m9 =>
        xrb 1 m9) (
        bV (f10_advance m3) fun m10 =>
        xrb 1 m10)))
set_option maxRecDepth 100000 in
theorem q1_readName_g (n : Nat) (i0 : Nat) (i2 : Nat) (p3 : Int32) (i4 : Nat) (μ : XM) : xrun t1_readName e1_readName (xrtk (some .boolean)) 37 n (xlo [xr 1 i0 0, xr 10 0 0, xr 2 i2 6, xi p3, xr 1 i4 5] 6) μ = k1_readName_g i0 i2 p3 i4 μ := rfl
theorem x1_readName_g : ∃ f : Nat → Nat → Int32 → Nat → XM → XR, ∀ (i0 : Nat) (i2 : Nat) (p3 : Int32) (i4 : Nat) (μ : XM), f i0 i2 p3 i4 μ = k1_readName_g i0 i2 p3 i4 μ := ⟨fun i0 i2 p3 i4 μ => k1_readName_g i0 i2 p3 i4 μ, fun i0 i2 p3 i4 μ => rfl⟩
noncomputable def f1_readName_g : Nat → Nat → Int32 → Nat → XM → XR := Classical.choose x1_readName_g
theorem f1_readName_g_e (i0 : Nat) (i2 : Nat) (p3 : Int32) (i4 : Nat) (μ : XM) : f1_readName_g i0 i2 p3 i4 μ = k1_readName_g i0 i2 p3 i4 μ := Classical.choose_spec x1_readName_g i0 i2 p3 i4 μ
noncomputable def F1_readName : XF := fun av μ => match av with
  | [.inr (.inr (some (t0, i0, 0))), .inr (.inr (some (t1, i1, 0))), .inr (.inr (some (t2, i2, j2 + 1))), .inl p3, .inr (.inr (some (t4, i4, j4 + 1)))] => bif Nat.beq t0 1 && Nat.beq t1 10 && Nat.beq i1 0 && Nat.beq t2 2 && Nat.beq j2 13 && Nat.beq t4 1 && Nat.beq j4 2 then f1_readName_m i0 i2 p3 i4 μ else bif Nat.beq t0 1 && Nat.beq t1 10 && Nat.beq i1 0 && Nat.beq t2 2 && Nat.beq j2 11 && Nat.beq t4 1 && Nat.beq j4 3 then f1_readName_b i0 i2 p3 i4 μ else bif Nat.beq t0 1 && Nat.beq t1 10 && Nat.beq i1 0 && Nat.beq t2 2 && Nat.beq j2 5 && Nat.beq t4 1 && Nat.beq j4 4 then f1_readName_g i0 i2 p3 i4 μ else none
  | _ => none
set_option maxRecDepth 100000 in
theorem c1_readName {X : XP} (hX : XOK X) (l : Launch) : Ctr X l y1_readName prog_3_method_6_code 6 (some .boolean) (xrm 11) 0 0 F1_readName :=
  Ctr_of (tab := t1_readName) (env := e1_readName) (K := 37) (N := 20000) (fl := fl1) (cl := cl1) (ll := ll1) (jl := jl1) hX mf1_readName.2.2.2 ⟨by decide +kernel, flk1, clk1, llk1, jlk1⟩
   (List.forall_mem_cons.mpr ⟨xcal_v (na := 0) (c10_isName hX l) mf10_isName ⟨rfl, rfl⟩ ml1_84 mi10_isName me10_isName (xrm_ok (by omega) (by decide)) rfl (by decide) (by decide +kernel), List.forall_mem_cons.mpr ⟨xcal_s (c2_find hX l) mf2_find ⟨rfl, rfl⟩ ml1_92 ms2_find (xrm_ok (by omega) (by decide)) (by decide +kernel), List.forall_mem_cons.mpr ⟨xcal_v (na := 1) (c10_wrong hX l) mf10_wrong ⟨rfl, rfl⟩ ml1_49 mi10_wrong me10_wrong (xrm_ok (by omega) (by decide)) rfl (by decide) (by decide +kernel), List.forall_mem_cons.mpr ⟨xcal_v (na := 0) (c10_advance hX l) mf10_advance ⟨rfl, rfl⟩ ml1_53 mi10_advance me10_advance (xrm_ok (by omega) (by decide)) rfl (by decide) (by decide +kernel), fun _ h => absurd h List.not_mem_nil⟩⟩⟩⟩)
   (xrm_1 (by decide)) ⟨_, _, rfl, rfl⟩ (fun av μ r μ' h => by
    unfold F1_readName at h
    split at h
    · rcases xcond_inv h with ⟨hb, h⟩ | h
      · simp only [Bool.and_eq_true] at hb
        obtain ⟨⟨⟨⟨⟨⟨g0, g1⟩, g2⟩, g3⟩, g4⟩, g5⟩, g6⟩ := hb
        obtain rfl := Nat.eq_of_beq_eq_true g0
        obtain rfl := Nat.eq_of_beq_eq_true g1
        obtain rfl := Nat.eq_of_beq_eq_true g2
        obtain rfl := Nat.eq_of_beq_eq_true g3
        obtain rfl := Nat.eq_of_beq_eq_true g4
        obtain rfl := Nat.eq_of_beq_eq_true g5
        obtain rfl := Nat.eq_of_beq_eq_true g6
        exact ⟨Nat.le_of_ble_eq_true rfl, (q1_readName_m _ _ _ _ _ _).trans ((f1_readName_m_e _ _ _ _ _).symm.trans h)⟩
      · skip
        rcases xcond_inv h with ⟨hb, h⟩ | h
        · simp only [Bool.and_eq_true] at hb
          obtain ⟨⟨⟨⟨⟨⟨g0, g1⟩, g2⟩, g3⟩, g4⟩, g5⟩, g6⟩ := hb
          obtain rfl := Nat.eq_of_beq_eq_true g0
          obtain rfl := Nat.eq_of_beq_eq_true g1
          obtain rfl := Nat.eq_of_beq_eq_true g2
          obtain rfl := Nat.eq_of_beq_eq_true g3
          obtain rfl := Nat.eq_of_beq_eq_true g4
          obtain rfl := Nat.eq_of_beq_eq_true g5
          obtain rfl := Nat.eq_of_beq_eq_true g6
          exact ⟨Nat.le_of_ble_eq_true rfl, (q1_readName_b _ _ _ _ _ _).trans ((f1_readName_b_e _ _ _ _ _).symm.trans h)⟩
        · skip
          rcases xcond_inv h with ⟨hb, h⟩ | h
          · simp only [Bool.and_eq_true] at hb
            obtain ⟨⟨⟨⟨⟨⟨g0, g1⟩, g2⟩, g3⟩, g4⟩, g5⟩, g6⟩ := hb
            obtain rfl := Nat.eq_of_beq_eq_true g0
            obtain rfl := Nat.eq_of_beq_eq_true g1
            obtain rfl := Nat.eq_of_beq_eq_true g2
            obtain rfl := Nat.eq_of_beq_eq_true g3
            obtain rfl := Nat.eq_of_beq_eq_true g4
            obtain rfl := Nat.eq_of_beq_eq_true g5
            obtain rfl := Nat.eq_of_beq_eq_true g6
            exact ⟨Nat.le_of_ble_eq_true rfl, (q1_readName_g _ _ _ _ _ _).trans ((f1_readName_g_e _ _ _ _ _).symm.trans h)⟩
          · cases h
    · cases h)
def t10_take : List XE := [(0, .aload_n 0, 0, 0, 0, 0, []),
  (1, .getfield 37, 10, 4, 0, 0, []),
  (4, .iload_n 1, 1, 0, 0, 0, []),
  (5, .if_icmp .eq 9, 14, 0, 0, 0, []),
  (8, .aload_n 0, 0, 0, 0, 0, []),
  (9, .iconst 1, 0, 0, 1, 0, []),
  (10, .invokevirtual 79, 2, 10, 0, 0, []),
  (13, .ireturn, 0, 0, 0, 0, []),
  (14, .aload_n 0, 0, 0, 0, 0, []),
  (15, .invokevirtual 23, 1, 10, 0, 0, []),
  (18, .iconst 1, 0, 0, 1, 0, []),
  (19, .ireturn, 0, 0, 0, 0, [])]
noncomputable def e10_take : XN := [(79, 1, 2, 10, F10_wrong), (23, 0, 1, 10, F10_advance)]
noncomputable def k10_take (p1 : Int32) (μ : XM) : XR :=
  xite ((rI μ 10 0 4) = p1) (
    bV (f10_advance μ) fun m1 =>
    xrb 1 m1) (
    bI (f10_wrong 1 μ) fun r3 m2 =>
    xrb r3 m2)
set_option maxRecDepth 100000 in
theorem q10_take (n : Nat) (p1 : Int32) (μ : XM) : xrun t10_take e10_take (xrtk (some .boolean)) 17 n (xlo [xr 10 0 0, xi p1] 2) μ = k10_take p1 μ := rfl
theorem x10_take : ∃ f : Int32 → XM → XR, ∀ (p1 : Int32) (μ : XM), f p1 μ = k10_take p1 μ := ⟨fun p1 μ => k10_take p1 μ, fun p1 μ => rfl⟩
noncomputable def f10_take : Int32 → XM → XR := Classical.choose x10_take
theorem f10_take_e (p1 : Int32) (μ : XM) : f10_take p1 μ = k10_take p1 μ := Classical.choose_spec x10_take p1 μ
noncomputable def F10_take : XF := fun av μ => match av with
  | [.inr (.inr (some (t0, i0, 0))), .inl p1] => bif Nat.beq t0 10 && Nat.beq i0 0 then f10_take p1 μ else none
  | _ => none
set_option maxRecDepth 100000 in
theorem c10_take {X : XP} (hX : XOK X) (l : Launch) : Ctr X l y10_take prog_12_method_14_code 2 (some .boolean) (xrm 11) 0 0 F10_take :=
  Ctr_of (tab := t10_take) (env := e10_take) (K := 17) (N := 20000) (fl := fl10) (cl := cl10) (ll := ll10) (jl := jl10) hX mf10_take.2.2.2 ⟨by decide +kernel, flk10, clk10, llk10, jlk10⟩
   (List.forall_mem_cons.mpr ⟨xcal_v (na := 1) (c10_wrong hX l) mf10_wrong ⟨rfl, rfl⟩ ml10_79 mi10_wrong me10_wrong (xrm_ok (by omega) (by decide)) rfl (by decide) (by decide +kernel), List.forall_mem_cons.mpr ⟨xcal_v (na := 0) (c10_advance hX l) mf10_advance ⟨rfl, rfl⟩ ml10_23 mi10_advance me10_advance (xrm_ok (by omega) (by decide)) rfl (by decide) (by decide +kernel), fun _ h => absurd h List.not_mem_nil⟩⟩)
   (xrm_1 (by decide)) ⟨_, _, rfl, rfl⟩ (fun av μ r μ' h => by
    unfold F10_take at h
    split at h
    · replace h := cond_inv h; obtain ⟨hb, h⟩ := h
      simp only [Bool.and_eq_true] at hb
      obtain ⟨g0, g1⟩ := hb
      obtain rfl := Nat.eq_of_beq_eq_true g0
      obtain rfl := Nat.eq_of_beq_eq_true g1
      exact ⟨Nat.le_of_ble_eq_true rfl, (q10_take _ _ _).trans ((f10_take_e _ _).symm.trans h)⟩
    · cases h)
def t1_readLine : List XE := [(0, .aload_n 1, 1, 0, 0, 0, []),
  (1, .getfield 39, 10, 4, 0, 0, []),
  (4, .istore_n 3, 3, 0, 0, 0, []),
  (5, .iload_n 3, 3, 0, 0, 0, []),
  (6, .sipush 144, 0, 0, 144, 0, []),
  (9, .if_icmp .lt 10, 19, 0, 0, 0, []),
  (12, .iload_n 3, 3, 0, 0, 0, []),
  (13, .sipush 147, 0, 0, 147, 0, []),
  (16, .if_icmp .le 9, 25, 0, 0, 0, []),
  (19, .aload_n 1, 1, 0, 0, 0, []),
  (20, .iconst 1, 0, 0, 1, 0, []),
  (21, .invokevirtual 49, 2, 10, 0, 0, []),
  (24, .ireturn, 0, 0, 0, 0, []),
  (25, .aload_n 0, 0, 0, 0, 0, []),
  (26, .getfield 24, 1, 0, 0, 0, []),
  (29, .bipush 40, 0, 0, 40, 0, []),
  (31, .if_icmp .lt 9, 40, 0, 0, 0, []),
  (34, .aload_n 1, 1, 0, 0, 0, []),
  (35, .iconst 5, 0, 0, 5, 0, []),
  (36, .invokevirtual 49, 2, 10, 0, 0, []),
  (39, .ireturn, 0, 0, 0, 0, []),
  (40, .aload_n 1, 1, 0, 0, 0, []),
  (41, .invokevirtual 53, 1, 10, 0, 0, []),
  (44, .aload_n 0, 0, 0, 0, 0, []),
  (45, .getfield 11, 1, 1, 0, 0, []),
  (48, .aload_n 0, 0, 0, 0, 0, []),
  (49, .getfield 24, 1, 0, 0, 0, []),
  (52, .iload_n 3, 3, 0, 0, 0, []),
  (53, .iastore, 0, 0, 0, 0, []),
  (54, .iconst 1, 0, 0, 1, 0, []),
  (55, .istore 4, 4, 0, 0, 0, []),
  (57, .iload_n 3, 3, 0, 0, 0, []),
  (58, .sipush 145, 0, 0, 145, 0, []),
  (61, .if_icmp .eq 10, 71, 0, 0, 0, []),
  (64, .iload_n 3, 3, 0, 0, 0, []),
  (65, .sipush 147, 0, 0, 147, 0, []),
  (68, .if_icmp .ne 22, 90, 0, 0, 0, []),
  (71, .aload_n 0, 0, 0, 0, 0, []),
  (72, .aload_n 1, 1, 0, 0, 0, []),
  (73, .aload_n 2, 2, 0, 0, 0, []),
  (74, .getfield 56, 2, 13, 0, 0, []),
  (77, .aload_n 2, 2, 0, 0, 0, []),
  (78, .getfield 62, 2, 2, 0, 0, []),
  (81, .aload_n 0, 0, 0, 0, 0, []),
  (82, .getfield 15, 1, 2, 0, 0, []),
  (85, .invokevirtual 65, 5, 1, 0, 0, []),
  (88, .istore 4, 4, 0, 0, 0, []),
  (90, .nop, 31, 0, 0, 0, []),
  (90, .iload_n 3, 3, 0, 0, 0, []),
  (91, .sipush 145, 0, 0, 145, 0, []),
  (94, .if_icmp .ne 55, 149, 0, 0, 0, []),
  (97, .iload 4, 4, 0, 0, 0, []),
  (99, .ifCond .eq 47, 146, 0, 0, 0, []),
  (102, .aload_n 0, 0, 0, 0, 0, []),
  (103, .aload_n 1, 1, 0, 0, 0, []),
  (104, .aload_n 2, 2, 0, 0, 0, []),
  (105, .getfield 69, 2, 11, 0, 0, []),
  (108, .aload_n 2, 2, 0, 0, 0, []),
  (109, .getfield 72, 2, 1, 0, 0, []),
  (112, .aload_n 0, 0, 0, 0, 0, []),
  (113, .getfield 18, 1, 3, 0, 0, []),
  (116, .invokevirtual 65, 5, 1, 0, 0, []),
  (119, .ifCond .eq 27, 146, 0, 0, 0, []),
  (122, .aload_n 0, 0, 0, 0, 0, []),
  (123, .aload_n 1, 1, 0, 0, 0, []),
  (124, .aload_n 2, 2, 0, 0, 0, []),
  (125, .getfield 75, 2, 5, 0, 0, []),
  (128, .aload_n 2, 2, 0, 0, 0, []),
  (129, .getfield 78, 2, 0, 0, 0, []),
  (132, .aload_n 0, 0, 0, 0, 0, []),
  (133, .getfield 21, 1, 4, 0, 0, []),
  (136, .invokevirtual 65, 5, 1, 0, 0, []),
  (139, .ifCond .eq 7, 146, 0, 0, 0, []),
  (142, .iconst 1, 0, 0, 1, 0, []),
  (143, .goto 4, 147, 0, 0, 0, []),
  (146, .iconst 0, 0, 0, 0, 0, []),
  (147, .istore 4, 4, 0, 0, 0, []),
  (149, .nop, 19, 0, 0, 0, []),
  (149, .iload 4, 4, 0, 0, 0, []),
  (151, .ifCond .eq 16, 167, 0, 0, 0, []),
  (154, .aload_n 1, 1, 0, 0, 0, []),
  (155, .bipush 59, 0, 0, 59, 0, []),
  (157, .invokevirtual 81, 2, 10, 0, 0, []),
  (160, .ifCond .eq 7, 167, 0, 0, 0, []),
  (163, .iconst 1, 0, 0, 1, 0, []),
  (164, .goto 4, 168, 0, 0, 0, []),
  (167, .iconst 0, 0, 0, 0, 0, []),
  (168, .istore 4, 4, 0, 0, 0, []),
  (170, .iload 4, 4, 0, 0, 0, []),
  (172, .ifCond .eq 13, 185, 0, 0, 0, []),
  (175, .aload_n 0, 0, 0, 0, 0, []),
  (176, .dup, 0, 0, 0, 0, []),
  (177, .getfield 24, 1, 0, 0, 0, []),
  (180, .iconst 1, 0, 0, 1, 0, []),
  (181, .iadd, 0, 0, 0, 0, []),
  (182, .putfield 24, 1, 0, 0, 0, []),
  (185, .iload 4, 4, 0, 0, 0, []),
  (187, .ireturn, 0, 0, 0, 0, [])]
noncomputable def e1_readLine : XN := [(49, 1, 2, 10, F10_wrong), (53, 0, 1, 10, F10_advance), (65, 1, 5, 1, F1_readName), (81, 1, 2, 10, F10_take)]
noncomputable def h1_readLine_90 (n : Nat) (i0 : Nat) (i2 : Nat) (v3 : Int32) (v4 : Int32) (μ : XM) : XR := arr t1_readLine e1_readLine 2 103 n 90 [some (xr 1 i0 0), some (xr 10 0 0), some (xr 2 i2 0), some (xi v3), some (xi v4)] [] μ
noncomputable def h1_readLine_149 (n : Nat) (i0 : Nat) (v4 : Int32) (μ : XM) : XR := arr t1_readLine e1_readLine 2 103 n 149 [some (xr 1 i0 0), some (xr 10 0 0), none, none, some (xi v4)] [] μ
set_option maxRecDepth 100000 in
theorem h1_readLine_90_s (n : Nat) (i0 : Nat) (i2 : Nat) (v3 : Int32) (v4 : Int32) (μ : XM) : h1_readLine_90 (n + 1) i0 i2 v3 v4 μ = (
  xite (v3 = 145) (
    xite (v4 = 0) (
      vI 0 fun x1 =>
      h1_readLine_149 n i0 x1 μ) (
      bI (f1_readName_b i0 i2 (rI μ 2 i2 1) i0 μ) fun r3 m2 =>
      xite (r3 = 0) (
        vI 0 fun x4 =>
        h1_readLine_149 n i0 x4 m2) (
        bI (f1_readName_g i0 i2 (rI m2 2 i2 0) i0 m2) fun r6 m5 =>
        xite (r6 = 0) (
          vI 0 fun x7 =>
          h1_readLine_149 n i0 x7 m5) (
          vI 1 fun x8 =>
          h1_readLine_149 n i0 x8 m5)))) (
    h1_readLine_149 n i0 v4 μ)) := rfl
theorem h1_readLine_90_0 (i0 : Nat) (i2 : Nat) (v3 : Int32) (v4 : Int32) (μ : XM) : h1_readLine_90 0 i0 i2 v3 v4 μ = none := rfl
set_option maxRecDepth 100000 in
theorem h1_readLine_149_s (n : Nat) (i0 : Nat) (v4 : Int32) (μ : XM) : h1_readLine_149 (n + 1) i0 v4 μ = (
  xite (v4 = 0) (
    vI 0 fun x1 =>
    xite (x1 = 0) (
      xrb x1 μ) (
      mS (sI μ 1 i0 0 ((rI μ 1 i0 0) + 1)) fun m2 =>
      xrb x1 m2)) (
    bI (f10_take 59 μ) fun r4 m3 =>
    xite (r4 = 0) (
      vI 0 fun x5 =>
      xite (x5 = 0) (
        xrb x5 m3) (
        mS (sI m3 1 i0 0 ((rI m3 1 i0 0) + 1)) fun m6 =>
        xrb x5 m6)) (
      vI 1 fun x7 =>
      xite (x7 = 0) (
        xrb x7 m3) (
        mS (sI m3 1 i0 0 ((rI m3 1 i0 0) + 1)) fun m8 =>
        xrb x7 m8)))) := rfl
theorem h1_readLine_149_0 (i0 : Nat) (v4 : Int32) (μ : XM) : h1_readLine_149 0 i0 v4 μ = none := rfl
noncomputable def k1_readLine (n : Nat) (i0 : Nat) (i2 : Nat) (μ : XM) : XR :=
  vI (rI μ 10 0 4) fun x1 =>
  xite (x1 < 144) (
    bI (f10_wrong 1 μ) fun r3 m2 =>
    xrb r3 m2) (
    xite ((147 : Int32) < x1) (
      bI (f10_wrong 1 μ) fun r5 m4 =>
      xrb r5 m4) (
      xite ((rI μ 1 i0 0) < 40) (
        bV (f10_advance μ) fun m6 =>
        xck (xin (rI m6 1 i0 0) 40 && true) <|
        mS (pI m6 1 i0 1 (Int32.toNatClampNeg (rI m6 1 i0 0)) x1) fun m7 =>
        vI 1 fun x8 =>
        xite (x1 = 145) (
          bI (f1_readName_m i0 i2 (rI m7 2 i2 2) i0 m7) fun r10 m9 =>
          vI r10 fun x11 =>
          h1_readLine_90 n i0 i2 x1 x11 m9) (
          xite (x1 = 147) (
            bI (f1_readName_m i0 i2 (rI m7 2 i2 2) i0 m7) fun r13 m12 =>
            vI r13 fun x14 =>
            h1_readLine_90 n i0 i2 x1 x14 m12) (
            h1_readLine_90 n i0 i2 x1 x8 m7))) (
        bI (f10_wrong 5 μ) fun r16 m15 =>
        xrb r16 m15)))
set_option maxRecDepth 100000 in
theorem q1_readLine (n : Nat) (i0 : Nat) (i2 : Nat) (μ : XM) : xrun t1_readLine e1_readLine (xrtk (some .boolean)) 103 n (xlo [xr 1 i0 0, xr 10 0 0, xr 2 i2 0] 5) μ = k1_readLine n i0 i2 μ := rfl
theorem x1_readLine : ∃ f : Nat → Nat → XM → XR, ∀ (i0 : Nat) (i2 : Nat) (μ : XM), f i0 i2 μ = k1_readLine 20000 i0 i2 μ := ⟨fun i0 i2 μ => k1_readLine 20000 i0 i2 μ, fun i0 i2 μ => rfl⟩
noncomputable def f1_readLine : Nat → Nat → XM → XR := Classical.choose x1_readLine
theorem f1_readLine_e (i0 : Nat) (i2 : Nat) (μ : XM) : f1_readLine i0 i2 μ = k1_readLine 20000 i0 i2 μ := Classical.choose_spec x1_readLine i0 i2 μ
noncomputable def F1_readLine : XF := fun av μ => match av with
  | [.inr (.inr (some (t0, i0, 0))), .inr (.inr (some (t1, i1, 0))), .inr (.inr (some (t2, i2, 0)))] => bif Nat.beq t0 1 && Nat.beq t1 10 && Nat.beq i1 0 && Nat.beq t2 2 then f1_readLine i0 i2 μ else none
  | _ => none
set_option maxRecDepth 100000 in
theorem c1_readLine {X : XP} (hX : XOK X) (l : Launch) : Ctr X l y1_readLine prog_3_method_5_code 5 (some .boolean) (xrm 12) 0 0 F1_readLine :=
  Ctr_of (tab := t1_readLine) (env := e1_readLine) (K := 103) (N := 20000) (fl := fl1) (cl := cl1) (ll := ll1) (jl := jl1) hX mf1_readLine.2.2.2 ⟨by decide +kernel, flk1, clk1, llk1, jlk1⟩
   (List.forall_mem_cons.mpr ⟨xcal_v (na := 1) (c10_wrong hX l) mf10_wrong ⟨rfl, rfl⟩ ml1_49 mi10_wrong me10_wrong (xrm_ok (by omega) (by decide)) rfl (by decide) (by decide +kernel), List.forall_mem_cons.mpr ⟨xcal_v (na := 0) (c10_advance hX l) mf10_advance ⟨rfl, rfl⟩ ml1_53 mi10_advance me10_advance (xrm_ok (by omega) (by decide)) rfl (by decide) (by decide +kernel), List.forall_mem_cons.mpr ⟨xcal_v (na := 4) (c1_readName hX l) mf1_readName ⟨rfl, rfl⟩ ml1_65 mi1_readName me1_readName (xrm_ok (by omega) (by decide)) rfl (by decide) (by decide +kernel), List.forall_mem_cons.mpr ⟨xcal_v (na := 1) (c10_take hX l) mf10_take ⟨rfl, rfl⟩ ml1_81 mi10_take me10_take (xrm_ok (by omega) (by decide)) rfl (by decide) (by decide +kernel), fun _ h => absurd h List.not_mem_nil⟩⟩⟩⟩)
   (xrm_1 (by decide)) ⟨_, _, rfl, rfl⟩ (fun av μ r μ' h => by
    unfold F1_readLine at h
    split at h
    · replace h := cond_inv h; obtain ⟨hb, h⟩ := h
      simp only [Bool.and_eq_true] at hb
      obtain ⟨⟨⟨g0, g1⟩, g2⟩, g3⟩ := hb
      obtain rfl := Nat.eq_of_beq_eq_true g0
      obtain rfl := Nat.eq_of_beq_eq_true g1
      obtain rfl := Nat.eq_of_beq_eq_true g2
      obtain rfl := Nat.eq_of_beq_eq_true g3
      exact ⟨Nat.le_of_ble_eq_true rfl, (q1_readLine _ _ _ _).trans ((f1_readLine_e _ _ _).symm.trans h)⟩
    · cases h)
def t1_read : List XE := [(0, .aload_n 0, 0, 0, 0, 0, []),
  (1, .iconst 0, 0, 0, 0, 0, []),
  (2, .putfield 24, 1, 0, 0, 0, []),
  (5, .aload_n 1, 1, 0, 0, 0, []),
  (6, .invokevirtual 34, 1, 10, 0, 0, []),
  (9, .iconst 1, 0, 0, 1, 0, []),
  (10, .istore_n 3, 3, 0, 0, 0, []),
  (11, .iconst 0, 0, 0, 0, 0, []),
  (12, .istore 4, 4, 0, 0, 0, []),
  (14, .nop, 31, 0, 0, 0, []),
  (14, .iload_n 3, 3, 0, 0, 0, []),
  (15, .ifCond .eq 31, 46, 0, 0, 0, []),
  (18, .iload 4, 4, 0, 0, 0, []),
  (20, .sipush 1000, 0, 0, 1000, 0, []),
  (23, .if_icmp .ge 23, 46, 0, 0, 0, []),
  (26, .aload_n 1, 1, 0, 0, 0, []),
  (27, .getfield 39, 10, 4, 0, 0, []),
  (30, .ifCond .eq 16, 46, 0, 0, 0, []),
  (33, .aload_n 0, 0, 0, 0, 0, []),
  (34, .aload_n 1, 1, 0, 0, 0, []),
  (35, .aload_n 2, 2, 0, 0, 0, []),
  (36, .invokevirtual 42, 3, 1, 0, 0, []),
  (39, .istore_n 3, 3, 0, 0, 0, []),
  (40, .iinc 4 1, 4, 0, 1, 0, []),
  (43, .goto (-29), 14, 0, 0, 0, []),
  (46, .aload_n 1, 1, 0, 0, 0, []),
  (47, .getfield 46, 10, 7, 0, 0, []),
  (50, .ireturn, 0, 0, 0, 0, [])]
noncomputable def e1_read : XN := [(34, 0, 1, 10, F10_begin), (42, 1, 3, 1, F1_readLine)]
noncomputable def h1_read_14 (n : Nat) (i0 : Nat) (i2 : Nat) (v3 : Int32) (v4 : Int32) (μ : XM) : XR := arr t1_read e1_read 1 33 n 14 [some (xr 1 i0 0), some (xr 10 0 0), some (xr 2 i2 0), some (xi v3), some (xi v4)] [] μ
set_option maxRecDepth 100000 in
theorem h1_read_14_s (n : Nat) (i0 : Nat) (i2 : Nat) (v3 : Int32) (v4 : Int32) (μ : XM) : h1_read_14 (n + 1) i0 i2 v3 v4 μ = (
  xite (v3 = 0) (
    xri (rI μ 10 0 7) μ) (
    xite (v4 < 1000) (
      xite ((rI μ 10 0 4) = 0) (
        xri (rI μ 10 0 7) μ) (
        bI (f1_readLine i0 i2 μ) fun r2 m1 =>
        vI r2 fun x3 =>
        vI (v4 + 1) fun x4 =>
        h1_read_14 n i0 i2 x3 x4 m1)) (
      xri (rI μ 10 0 7) μ))) := rfl
theorem h1_read_14_0 (i0 : Nat) (i2 : Nat) (v3 : Int32) (v4 : Int32) (μ : XM) : h1_read_14 0 i0 i2 v3 v4 μ = none := rfl
noncomputable def k1_read (n : Nat) (i0 : Nat) (i2 : Nat) (μ : XM) : XR :=
  mS (sI μ 1 i0 0 0) fun m1 =>
  bV (f10_begin m1) fun m2 =>
  vI 1 fun x3 =>
  vI 0 fun x4 =>
  h1_read_14 n i0 i2 x3 x4 m2
set_option maxRecDepth 100000 in
theorem q1_read (n : Nat) (i0 : Nat) (i2 : Nat) (μ : XM) : xrun t1_read e1_read (xrtk (some .int)) 33 n (xlo [xr 1 i0 0, xr 10 0 0, xr 2 i2 0] 5) μ = k1_read n i0 i2 μ := rfl
theorem x1_read : ∃ f : Nat → Nat → XM → XR, ∀ (i0 : Nat) (i2 : Nat) (μ : XM), f i0 i2 μ = k1_read 20000 i0 i2 μ := ⟨fun i0 i2 μ => k1_read 20000 i0 i2 μ, fun i0 i2 μ => rfl⟩
noncomputable def f1_read : Nat → Nat → XM → XR := Classical.choose x1_read
theorem f1_read_e (i0 : Nat) (i2 : Nat) (μ : XM) : f1_read i0 i2 μ = k1_read 20000 i0 i2 μ := Classical.choose_spec x1_read i0 i2 μ
noncomputable def F1_read : XF := fun av μ => match av with
  | [.inr (.inr (some (t0, i0, 0))), .inr (.inr (some (t1, i1, 0))), .inr (.inr (some (t2, i2, 0)))] => bif Nat.beq t0 1 && Nat.beq t1 10 && Nat.beq i1 0 && Nat.beq t2 2 then f1_read i0 i2 μ else none
  | _ => none
set_option maxRecDepth 100000 in
theorem c1_read {X : XP} (hX : XOK X) (l : Launch) : Ctr X l y1_read prog_3_method_4_code 5 (some .int) (xrm 13) 0 0 F1_read :=
  Ctr_of (tab := t1_read) (env := e1_read) (K := 33) (N := 20000) (fl := fl1) (cl := cl1) (ll := ll1) (jl := jl1) hX mf1_read.2.2.2 ⟨by decide +kernel, flk1, clk1, llk1, jlk1⟩
   (List.forall_mem_cons.mpr ⟨xcal_v (na := 0) (c10_begin hX l) mf10_begin ⟨rfl, rfl⟩ ml1_34 mi10_begin me10_begin (xrm_ok (by omega) (by decide)) rfl (by decide) (by decide +kernel), List.forall_mem_cons.mpr ⟨xcal_v (na := 2) (c1_readLine hX l) mf1_readLine ⟨rfl, rfl⟩ ml1_42 mi1_readLine me1_readLine (xrm_ok (by omega) (by decide)) rfl (by decide) (by decide +kernel), fun _ h => absurd h List.not_mem_nil⟩⟩)
   (xrm_1 (by decide)) ⟨_, _, rfl, rfl⟩ (fun av μ r μ' h => by
    unfold F1_read at h
    split at h
    · replace h := cond_inv h; obtain ⟨hb, h⟩ := h
      simp only [Bool.and_eq_true] at hb
      obtain ⟨⟨⟨g0, g1⟩, g2⟩, g3⟩ := hb
      obtain rfl := Nat.eq_of_beq_eq_true g0
      obtain rfl := Nat.eq_of_beq_eq_true g1
      obtain rfl := Nat.eq_of_beq_eq_true g2
      obtain rfl := Nat.eq_of_beq_eq_true g3
      exact ⟨Nat.le_of_ble_eq_true rfl, (q1_read _ _ _ _).trans ((f1_read_e _ _ _).symm.trans h)⟩
    · cases h)
def t8_begin : List XE := [(0, .iconst 0, 0, 0, 0, 0, []),
  (1, .istore_n 1, 1, 0, 0, 0, []),
  (2, .nop, 3, 0, 0, 0, []),
  (2, .iload_n 1, 1, 0, 0, 0, []),
  (3, .bipush 6, 0, 0, 6, 0, []),
  (5, .if_icmp .ge 53, 58, 0, 0, 0, []),
  (8, .aload_n 0, 0, 0, 0, 0, []),
  (9, .getfield 9, 8, 1, 0, 0, []),
  (12, .iload_n 1, 1, 0, 0, 0, []),
  (13, .aload_n 0, 0, 0, 0, 0, []),
  (14, .getfield 24, 8, 0, 0, 0, []),
  (17, .getfield 28, 2, 7, 0, 0, []),
  (20, .iload_n 1, 1, 0, 0, 0, []),
  (21, .iaload, 0, 0, 0, 0, []),
  (22, .iastore, 0, 0, 0, 0, []),
  (23, .aload_n 0, 0, 0, 0, 0, []),
  (24, .getfield 15, 8, 2, 0, 0, []),
  (27, .iload_n 1, 1, 0, 0, 0, []),
  (28, .aload_n 0, 0, 0, 0, 0, []),
  (29, .getfield 24, 8, 0, 0, 0, []),
  (32, .getfield 31, 2, 9, 0, 0, []),
  (35, .iload_n 1, 1, 0, 0, 0, []),
  (36, .iaload, 0, 0, 0, 0, []),
  (37, .iastore, 0, 0, 0, 0, []),
  (38, .aload_n 0, 0, 0, 0, 0, []),
  (39, .getfield 18, 8, 3, 0, 0, []),
  (42, .iload_n 1, 1, 0, 0, 0, []),
  (43, .iconst 0, 0, 0, 0, 0, []),
  (44, .iastore, 0, 0, 0, 0, []),
  (45, .aload_n 0, 0, 0, 0, 0, []),
  (46, .getfield 21, 8, 4, 0, 0, []),
  (49, .iload_n 1, 1, 0, 0, 0, []),
  (50, .iconst (-1), 0, 0, (-1), 0, []),
  (51, .iastore, 0, 0, 0, 0, []),
  (52, .iinc 1 1, 1, 0, 1, 0, []),
  (55, .goto (-53), 2, 0, 0, 0, []),
  (58, .aload_n 0, 0, 0, 0, 0, []),
  (59, .iconst 0, 0, 0, 0, 0, []),
  (60, .putfield 32, 8, 5, 0, 0, []),
  (63, .aload_n 0, 0, 0, 0, 0, []),
  (64, .aload_n 0, 0, 0, 0, 0, []),
  (65, .getfield 24, 8, 0, 0, 0, []),
  (68, .getfield 36, 2, 3, 0, 0, []),
  (71, .putfield 39, 8, 6, 0, 0, []),
  (74, .aload_n 0, 0, 0, 0, 0, []),
  (75, .aload_n 0, 0, 0, 0, 0, []),
  (76, .getfield 24, 8, 0, 0, 0, []),
  (79, .getfield 40, 2, 4, 0, 0, []),
  (82, .putfield 43, 8, 7, 0, 0, []),
  (85, .aload_n 0, 0, 0, 0, 0, []),
  (86, .iconst 0, 0, 0, 0, 0, []),
  (87, .putfield 46, 8, 8, 0, 0, []),
  (90, .return_, 0, 0, 0, 0, [])]
noncomputable def e8_begin : XN := []
noncomputable def h8_begin_2 (n : Nat) (i0 : Nat) (v1 : Int32) (μ : XM) : XR := arr t8_begin e8_begin 0 58 n 2 [some (xr 8 i0 0), some (xi v1)] [] μ
set_option maxRecDepth 100000 in
theorem h8_begin_2_s (n : Nat) (i0 : Nat) (v1 : Int32) (μ : XM) : h8_begin_2 (n + 1) i0 v1 μ = (
  xite (v1 < 6) (
    xck (xin v1 6) <|
    xck (xin v1 6 && true) <|
    mS (pI μ 8 i0 1 (Int32.toNatClampNeg v1) (aI μ 2 0 7 (Int32.toNatClampNeg v1))) fun m1 =>
    xck (xin v1 6) <|
    xck (xin v1 6 && true) <|
    mS (pI m1 8 i0 2 (Int32.toNatClampNeg v1) (aI m1 2 0 9 (Int32.toNatClampNeg v1))) fun m2 =>
    xck (xin v1 6 && true) <|
    mS (pI m2 8 i0 3 (Int32.toNatClampNeg v1) 0) fun m3 =>
    xck (xin v1 6 && true) <|
    mS (pI m3 8 i0 4 (Int32.toNatClampNeg v1) (-1)) fun m4 =>
    vI (v1 + 1) fun x5 =>
    h8_begin_2 n i0 x5 m4) (
    mS (sI μ 8 i0 5 0) fun m6 =>
    mS (sI m6 8 i0 6 (rI m6 2 0 3)) fun m7 =>
    mS (sI m7 8 i0 7 (rI m7 2 0 4)) fun m8 =>
    mS (sI m8 8 i0 8 0) fun m9 =>
    xrv m9)) := rfl
theorem h8_begin_2_0 (i0 : Nat) (v1 : Int32) (μ : XM) : h8_begin_2 0 i0 v1 μ = none := rfl
noncomputable def k8_begin (n : Nat) (i0 : Nat) (μ : XM) : XR :=
  vI 0 fun x1 =>
  h8_begin_2 n i0 x1 μ
set_option maxRecDepth 100000 in
theorem q8_begin (n : Nat) (i0 : Nat) (μ : XM) : xrun t8_begin e8_begin (xrtk none) 58 n (xlo [xr 8 i0 0] 2) μ = k8_begin n i0 μ := rfl
theorem x8_begin : ∃ f : Nat → XM → XR, ∀ (i0 : Nat) (μ : XM), f i0 μ = k8_begin 20000 i0 μ := ⟨fun i0 μ => k8_begin 20000 i0 μ, fun i0 μ => rfl⟩
noncomputable def f8_begin : Nat → XM → XR := Classical.choose x8_begin
theorem f8_begin_e (i0 : Nat) (μ : XM) : f8_begin i0 μ = k8_begin 20000 i0 μ := Classical.choose_spec x8_begin i0 μ
noncomputable def F8_begin : XF := fun av μ => match av with
  | [.inr (.inr (some (t0, i0, 0)))] => bif Nat.beq t0 8 then f8_begin i0 μ else none
  | _ => none
set_option maxRecDepth 100000 in
theorem c8_begin {X : XP} (hX : XOK X) (l : Launch) : Ctr X l y8_begin prog_10_method_2_code 2 none (xrm 1) 0 0 F8_begin :=
  Ctr_of (tab := t8_begin) (env := e8_begin) (K := 58) (N := 20000) (fl := fl8) (cl := cl8) (ll := ll8) (jl := jl8) hX mf8_begin.2.2.2 ⟨by decide +kernel, flk8, clk8, llk8, jlk8⟩
   (fun _ h => absurd h List.not_mem_nil)
   (xrm_1 (by decide)) ⟨_, _, rfl, rfl⟩ (fun av μ r μ' h => by
    unfold F8_begin at h
    split at h
    · replace h := cond_inv h; obtain ⟨hb, h⟩ := h
      obtain rfl := Nat.eq_of_beq_eq_true hb
      exact ⟨Nat.le_of_ble_eq_true rfl, (q8_begin _ _ _).trans ((f8_begin_e _ _).symm.trans h)⟩
    · cases h)
def t2_isGuest : List XE := [(0, .iload_n 1, 1, 0, 0, 0, []),
  (1, .ifCond .lt 15, 16, 0, 0, 0, []),
  (4, .iload_n 1, 1, 0, 0, 0, []),
  (5, .aload_n 0, 0, 0, 0, 0, []),
  (6, .getfield 53, 2, 0, 0, 0, []),
  (9, .if_icmp .ge 7, 16, 0, 0, 0, []),
  (12, .iconst 1, 0, 0, 1, 0, []),
  (13, .goto 4, 17, 0, 0, 0, []),
  (16, .iconst 0, 0, 0, 0, 0, []),
  (17, .ireturn, 0, 0, 0, 0, [])]
noncomputable def e2_isGuest : XN := []
noncomputable def k2_isGuest (i0 : Nat) (p1 : Int32) (μ : XM) : XR :=
  xite (p1 < 0) (
    xrb 0 μ) (
    xite (p1 < (rI μ 2 i0 0)) (
      xrb 1 μ) (
      xrb 0 μ))
set_option maxRecDepth 100000 in
theorem q2_isGuest (n : Nat) (i0 : Nat) (p1 : Int32) (μ : XM) : xrun t2_isGuest e2_isGuest (xrtk (some .boolean)) 15 n (xlo [xr 2 i0 0, xi p1] 2) μ = k2_isGuest i0 p1 μ := rfl
theorem x2_isGuest : ∃ f : Nat → Int32 → XM → XR, ∀ (i0 : Nat) (p1 : Int32) (μ : XM), f i0 p1 μ = k2_isGuest i0 p1 μ := ⟨fun i0 p1 μ => k2_isGuest i0 p1 μ, fun i0 p1 μ => rfl⟩
noncomputable def f2_isGuest : Nat → Int32 → XM → XR := Classical.choose x2_isGuest
theorem f2_isGuest_e (i0 : Nat) (p1 : Int32) (μ : XM) : f2_isGuest i0 p1 μ = k2_isGuest i0 p1 μ := Classical.choose_spec x2_isGuest i0 p1 μ
noncomputable def F2_isGuest : XF := fun av μ => match av with
  | [.inr (.inr (some (t0, i0, 0))), .inl p1] => bif Nat.beq t0 2 then f2_isGuest i0 p1 μ else none
  | _ => none
set_option maxRecDepth 100000 in
theorem c2_isGuest {X : XP} (hX : XOK X) (l : Launch) : Ctr X l y2_isGuest prog_4_method_5_code 2 (some .boolean) (xrm 1) 0 0 F2_isGuest :=
  Ctr_of (tab := t2_isGuest) (env := e2_isGuest) (K := 15) (N := 20000) (fl := fl2) (cl := cl2) (ll := ll2) (jl := jl2) hX mf2_isGuest.2.2.2 ⟨by decide +kernel, flk2, clk2, llk2, jlk2⟩
   (fun _ h => absurd h List.not_mem_nil)
   (xrm_1 (by decide)) ⟨_, _, rfl, rfl⟩ (fun av μ r μ' h => by
    unfold F2_isGuest at h
    split at h
    · replace h := cond_inv h; obtain ⟨hb, h⟩ := h
      obtain rfl := Nat.eq_of_beq_eq_true hb
      exact ⟨Nat.le_of_ble_eq_true rfl, (q2_isGuest _ _ _ _).trans ((f2_isGuest_e _ _ _).symm.trans h)⟩
    · cases h)
def t8_isIn : List XE := [(0, .aload_n 0, 0, 0, 0, 0, []),
  (1, .getfield 24, 8, 0, 0, 0, []),
  (4, .iload_n 1, 1, 0, 0, 0, []),
  (5, .invokevirtual 55, 2, 2, 0, 0, []),
  (8, .ifCond .eq 16, 24, 0, 0, 0, []),
  (11, .aload_n 0, 0, 0, 0, 0, []),
  (12, .getfield 18, 8, 3, 0, 0, []),
  (15, .iload_n 1, 1, 0, 0, 0, []),
  (16, .iaload, 0, 0, 0, 0, []),
  (17, .ifCond .ne 7, 24, 0, 0, 0, []),
  (20, .iconst 1, 0, 0, 1, 0, []),
  (21, .goto 4, 25, 0, 0, 0, []),
  (24, .iconst 0, 0, 0, 0, 0, []),
  (25, .ireturn, 0, 0, 0, 0, [])]
noncomputable def e8_isIn : XN := [(55, 1, 2, 2, F2_isGuest)]
noncomputable def k8_isIn (i0 : Nat) (p1 : Int32) (μ : XM) : XR :=
  bI (f2_isGuest 0 p1 μ) fun r2 m1 =>
  xite (r2 = 0) (
    xrb 0 m1) (
    xck (xin p1 6) <|
    xite ((aI m1 8 i0 3 (Int32.toNatClampNeg p1)) = 0) (
      xrb 1 m1) (
      xrb 0 m1))
set_option maxRecDepth 100000 in
theorem q8_isIn (n : Nat) (i0 : Nat) (p1 : Int32) (μ : XM) : xrun t8_isIn e8_isIn (xrtk (some .boolean)) 19 n (xlo [xr 8 i0 0, xi p1] 2) μ = k8_isIn i0 p1 μ := rfl
theorem x8_isIn : ∃ f : Nat → Int32 → XM → XR, ∀ (i0 : Nat) (p1 : Int32) (μ : XM), f i0 p1 μ = k8_isIn i0 p1 μ := ⟨fun i0 p1 μ => k8_isIn i0 p1 μ, fun i0 p1 μ => rfl⟩
noncomputable def f8_isIn : Nat → Int32 → XM → XR := Classical.choose x8_isIn
theorem f8_isIn_e (i0 : Nat) (p1 : Int32) (μ : XM) : f8_isIn i0 p1 μ = k8_isIn i0 p1 μ := Classical.choose_spec x8_isIn i0 p1 μ
noncomputable def F8_isIn : XF := fun av μ => match av with
  | [.inr (.inr (some (t0, i0, 0))), .inl p1] => bif Nat.beq t0 8 then f8_isIn i0 p1 μ else none
  | _ => none
set_option maxRecDepth 100000 in
theorem c8_isIn {X : XP} (hX : XOK X) (l : Launch) : Ctr X l y8_isIn prog_10_method_5_code 2 (some .boolean) (xrm 2) 0 0 F8_isIn :=
  Ctr_of (tab := t8_isIn) (env := e8_isIn) (K := 19) (N := 20000) (fl := fl8) (cl := cl8) (ll := ll8) (jl := jl8) hX mf8_isIn.2.2.2 ⟨by decide +kernel, flk8, clk8, llk8, jlk8⟩
   (List.forall_mem_cons.mpr ⟨xcal_v (na := 1) (c2_isGuest hX l) mf2_isGuest ⟨rfl, rfl⟩ ml8_55 mi2_isGuest me2_isGuest (xrm_ok (by omega) (by decide)) rfl (by decide) (by decide +kernel), fun _ h => absurd h List.not_mem_nil⟩)
   (xrm_1 (by decide)) ⟨_, _, rfl, rfl⟩ (fun av μ r μ' h => by
    unfold F8_isIn at h
    split at h
    · replace h := cond_inv h; obtain ⟨hb, h⟩ := h
      obtain rfl := Nat.eq_of_beq_eq_true hb
      exact ⟨Nat.le_of_ble_eq_true rfl, (q8_isIn _ _ _ _).trans ((f8_isIn_e _ _ _).symm.trans h)⟩
    · cases h)
def t2_canDrown : List XE := [(0, .iload_n 1, 1, 0, 0, 0, []),
  (1, .ifCond .lt 35, 36, 0, 0, 0, []),
  (4, .iload_n 1, 1, 0, 0, 0, []),
  (5, .aload_n 0, 0, 0, 0, 0, []),
  (6, .getfield 53, 2, 0, 0, 0, []),
  (9, .if_icmp .ge 27, 36, 0, 0, 0, []),
  (12, .aload_n 0, 0, 0, 0, 0, []),
  (13, .getfield 15, 2, 6, 0, 0, []),
  (16, .iload_n 1, 1, 0, 0, 0, []),
  (17, .iaload, 0, 0, 0, 0, []),
  (18, .iconst 1, 0, 0, 1, 0, []),
  (19, .if_icmp .eq 17, 36, 0, 0, 0, []),
  (22, .aload_n 0, 0, 0, 0, 0, []),
  (23, .getfield 15, 2, 6, 0, 0, []),
  (26, .iload_n 1, 1, 0, 0, 0, []),
  (27, .iaload, 0, 0, 0, 0, []),
  (28, .iconst 3, 0, 0, 3, 0, []),
  (29, .if_icmp .eq 7, 36, 0, 0, 0, []),
  (32, .iconst 1, 0, 0, 1, 0, []),
  (33, .goto 4, 37, 0, 0, 0, []),
  (36, .iconst 0, 0, 0, 0, 0, []),
  (37, .ireturn, 0, 0, 0, 0, [])]
noncomputable def e2_canDrown : XN := []
noncomputable def k2_canDrown (i0 : Nat) (p1 : Int32) (μ : XM) : XR :=
  xite (p1 < 0) (
    xrb 0 μ) (
    xite (p1 < (rI μ 2 i0 0)) (
      xck (xin p1 6) <|
      xite ((aI μ 2 i0 6 (Int32.toNatClampNeg p1)) = 1) (
        xrb 0 μ) (
        xck (xin p1 6) <|
        xite ((aI μ 2 i0 6 (Int32.toNatClampNeg p1)) = 3) (
          xrb 0 μ) (
          xrb 1 μ))) (
      xrb 0 μ))
set_option maxRecDepth 100000 in
theorem q2_canDrown (n : Nat) (i0 : Nat) (p1 : Int32) (μ : XM) : xrun t2_canDrown e2_canDrown (xrtk (some .boolean)) 27 n (xlo [xr 2 i0 0, xi p1] 2) μ = k2_canDrown i0 p1 μ := rfl
theorem x2_canDrown : ∃ f : Nat → Int32 → XM → XR, ∀ (i0 : Nat) (p1 : Int32) (μ : XM), f i0 p1 μ = k2_canDrown i0 p1 μ := ⟨fun i0 p1 μ => k2_canDrown i0 p1 μ, fun i0 p1 μ => rfl⟩
noncomputable def f2_canDrown : Nat → Int32 → XM → XR := Classical.choose x2_canDrown
theorem f2_canDrown_e (i0 : Nat) (p1 : Int32) (μ : XM) : f2_canDrown i0 p1 μ = k2_canDrown i0 p1 μ := Classical.choose_spec x2_canDrown i0 p1 μ
noncomputable def F2_canDrown : XF := fun av μ => match av with
  | [.inr (.inr (some (t0, i0, 0))), .inl p1] => bif Nat.beq t0 2 then f2_canDrown i0 p1 μ else none
  | _ => none
set_option maxRecDepth 100000 in
theorem c2_canDrown {X : XP} (hX : XOK X) (l : Launch) : Ctr X l y2_canDrown prog_4_method_10_code 2 (some .boolean) (xrm 1) 0 0 F2_canDrown :=
  Ctr_of (tab := t2_canDrown) (env := e2_canDrown) (K := 27) (N := 20000) (fl := fl2) (cl := cl2) (ll := ll2) (jl := jl2) hX mf2_canDrown.2.2.2 ⟨by decide +kernel, flk2, clk2, llk2, jlk2⟩
   (fun _ h => absurd h List.not_mem_nil)
   (xrm_1 (by decide)) ⟨_, _, rfl, rfl⟩ (fun av μ r μ' h => by
    unfold F2_canDrown at h
    split at h
    · replace h := cond_inv h; obtain ⟨hb, h⟩ := h
      obtain rfl := Nat.eq_of_beq_eq_true hb
      exact ⟨Nat.le_of_ble_eq_true rfl, (q2_canDrown _ _ _ _).trans ((f2_canDrown_e _ _ _).symm.trans h)⟩
    · cases h)
def t2_isBorne : List XE := [(0, .iload_n 1, 1, 0, 0, 0, []),
  (1, .ifCond .lt 42, 43, 0, 0, 0, []),
  (4, .iload_n 1, 1, 0, 0, 0, []),
  (5, .aload_n 0, 0, 0, 0, 0, []),
  (6, .getfield 57, 2, 1, 0, 0, []),
  (9, .if_icmp .ge 34, 43, 0, 0, 0, []),
  (12, .iload_n 2, 2, 0, 0, 0, []),
  (13, .ifCond .lt 30, 43, 0, 0, 0, []),
  (16, .iload_n 2, 2, 0, 0, 0, []),
  (17, .aload_n 0, 0, 0, 0, 0, []),
  (18, .getfield 53, 2, 0, 0, 0, []),
  (21, .if_icmp .ge 22, 43, 0, 0, 0, []),
  (24, .aload_n 0, 0, 0, 0, 0, []),
  (25, .getfield 34, 2, 12, 0, 0, []),
  (28, .iload_n 1, 1, 0, 0, 0, []),
  (29, .iaload, 0, 0, 0, 0, []),
  (30, .aload_n 0, 0, 0, 0, 0, []),
  (31, .getfield 28, 2, 10, 0, 0, []),
  (34, .iload_n 2, 2, 0, 0, 0, []),
  (35, .iaload, 0, 0, 0, 0, []),
  (36, .if_icmp .lt 7, 43, 0, 0, 0, []),
  (39, .iconst 1, 0, 0, 1, 0, []),
  (40, .goto 4, 44, 0, 0, 0, []),
  (43, .iconst 0, 0, 0, 0, 0, []),
  (44, .ireturn, 0, 0, 0, 0, [])]
noncomputable def e2_isBorne : XN := []
noncomputable def k2_isBorne (i0 : Nat) (p1 : Int32) (p2 : Int32) (μ : XM) : XR :=
  xite (p1 < 0) (
    xrb 0 μ) (
    xite (p1 < (rI μ 2 i0 1)) (
      xite (p2 < 0) (
        xrb 0 μ) (
        xite (p2 < (rI μ 2 i0 0)) (
          xck (xin p1 5) <|
          xck (xin p2 6) <|
          xite ((aI μ 2 i0 12 (Int32.toNatClampNeg p1)) < (aI μ 2 i0 10 (Int32.toNatClampNeg p2))) (
            xrb 0 μ) (
            xrb 1 μ)) (
          xrb 0 μ))) (
      xrb 0 μ))
set_option maxRecDepth 100000 in
theorem q2_isBorne (n : Nat) (i0 : Nat) (p1 : Int32) (p2 : Int32) (μ : XM) : xrun t2_isBorne e2_isBorne (xrtk (some .boolean)) 30 n (xlo [xr 2 i0 0, xi p1, xi p2] 3) μ = k2_isBorne i0 p1 p2 μ := rfl
theorem x2_isBorne : ∃ f : Nat → Int32 → Int32 → XM → XR, ∀ (i0 : Nat) (p1 : Int32) (p2 : Int32) (μ : XM), f i0 p1 p2 μ = k2_isBorne i0 p1 p2 μ := ⟨fun i0 p1 p2 μ => k2_isBorne i0 p1 p2 μ, fun i0 p1 p2 μ => rfl⟩
noncomputable def f2_isBorne : Nat → Int32 → Int32 → XM → XR := Classical.choose x2_isBorne
theorem f2_isBorne_e (i0 : Nat) (p1 : Int32) (p2 : Int32) (μ : XM) : f2_isBorne i0 p1 p2 μ = k2_isBorne i0 p1 p2 μ := Classical.choose_spec x2_isBorne i0 p1 p2 μ
noncomputable def F2_isBorne : XF := fun av μ => match av with
  | [.inr (.inr (some (t0, i0, 0))), .inl p1, .inl p2] => bif Nat.beq t0 2 then f2_isBorne i0 p1 p2 μ else none
  | _ => none
set_option maxRecDepth 100000 in
theorem c2_isBorne {X : XP} (hX : XOK X) (l : Launch) : Ctr X l y2_isBorne prog_4_method_12_code 3 (some .boolean) (xrm 1) 0 0 F2_isBorne :=
  Ctr_of (tab := t2_isBorne) (env := e2_isBorne) (K := 30) (N := 20000) (fl := fl2) (cl := cl2) (ll := ll2) (jl := jl2) hX mf2_isBorne.2.2.2 ⟨by decide +kernel, flk2, clk2, llk2, jlk2⟩
   (fun _ h => absurd h List.not_mem_nil)
   (xrm_1 (by decide)) ⟨_, _, rfl, rfl⟩ (fun av μ r μ' h => by
    unfold F2_isBorne at h
    split at h
    · replace h := cond_inv h; obtain ⟨hb, h⟩ := h
      obtain rfl := Nat.eq_of_beq_eq_true hb
      exact ⟨Nat.le_of_ble_eq_true rfl, (q2_isBorne _ _ _ _ _).trans ((f2_isBorne_e _ _ _ _).symm.trans h)⟩
    · cases h)
def t8_isUnder : List XE := [(0, .aload_n 0, 0, 0, 0, 0, []),
  (1, .getfield 24, 8, 0, 0, 0, []),
  (4, .iload_n 1, 1, 0, 0, 0, []),
  (5, .invokevirtual 75, 2, 2, 0, 0, []),
  (8, .ifCond .eq 49, 57, 0, 0, 0, []),
  (11, .aload_n 0, 0, 0, 0, 0, []),
  (12, .getfield 18, 8, 3, 0, 0, []),
  (15, .iload_n 1, 1, 0, 0, 0, []),
  (16, .iaload, 0, 0, 0, 0, []),
  (17, .ifCond .ne 40, 57, 0, 0, 0, []),
  (20, .aload_n 0, 0, 0, 0, 0, []),
  (21, .getfield 43, 8, 7, 0, 0, []),
  (24, .aload_n 0, 0, 0, 0, 0, []),
  (25, .getfield 24, 8, 0, 0, 0, []),
  (28, .getfield 78, 2, 8, 0, 0, []),
  (31, .iload_n 1, 1, 0, 0, 0, []),
  (32, .iaload, 0, 0, 0, 0, []),
  (33, .if_icmp .le 24, 57, 0, 0, 0, []),
  (36, .aload_n 0, 0, 0, 0, 0, []),
  (37, .getfield 24, 8, 0, 0, 0, []),
  (40, .aload_n 0, 0, 0, 0, 0, []),
  (41, .getfield 21, 8, 4, 0, 0, []),
  (44, .iload_n 1, 1, 0, 0, 0, []),
  (45, .iaload, 0, 0, 0, 0, []),
  (46, .iload_n 1, 1, 0, 0, 0, []),
  (47, .invokevirtual 81, 3, 2, 0, 0, []),
  (50, .ifCond .ne 7, 57, 0, 0, 0, []),
  (53, .iconst 1, 0, 0, 1, 0, []),
  (54, .goto 4, 58, 0, 0, 0, []),
  (57, .iconst 0, 0, 0, 0, 0, []),
  (58, .ireturn, 0, 0, 0, 0, [])]
noncomputable def e8_isUnder : XN := [(75, 1, 2, 2, F2_canDrown), (81, 1, 3, 2, F2_isBorne)]
noncomputable def k8_isUnder (i0 : Nat) (p1 : Int32) (μ : XM) : XR :=
  bI (f2_canDrown 0 p1 μ) fun r2 m1 =>
  xite (r2 = 0) (
    xrb 0 m1) (
    xck (xin p1 6) <|
    xite ((aI m1 8 i0 3 (Int32.toNatClampNeg p1)) = 0) (
      xck (xin p1 6) <|
      xite ((aI m1 2 0 8 (Int32.toNatClampNeg p1)) < (rI m1 8 i0 7)) (
        xck (xin p1 6) <|
        bI (f2_isBorne 0 (aI m1 8 i0 4 (Int32.toNatClampNeg p1)) p1 m1) fun r4 m3 =>
        xite (r4 = 0) (
          xrb 1 m3) (
          xrb 0 m3)) (
        xrb 0 m1)) (
      xrb 0 m1))
set_option maxRecDepth 100000 in
theorem q8_isUnder (n : Nat) (i0 : Nat) (p1 : Int32) (μ : XM) : xrun t8_isUnder e8_isUnder (xrtk (some .boolean)) 36 n (xlo [xr 8 i0 0, xi p1] 2) μ = k8_isUnder i0 p1 μ := rfl
theorem x8_isUnder : ∃ f : Nat → Int32 → XM → XR, ∀ (i0 : Nat) (p1 : Int32) (μ : XM), f i0 p1 μ = k8_isUnder i0 p1 μ := ⟨fun i0 p1 μ => k8_isUnder i0 p1 μ, fun i0 p1 μ => rfl⟩
noncomputable def f8_isUnder : Nat → Int32 → XM → XR := Classical.choose x8_isUnder
theorem f8_isUnder_e (i0 : Nat) (p1 : Int32) (μ : XM) : f8_isUnder i0 p1 μ = k8_isUnder i0 p1 μ := Classical.choose_spec x8_isUnder i0 p1 μ
noncomputable def F8_isUnder : XF := fun av μ => match av with
  | [.inr (.inr (some (t0, i0, 0))), .inl p1] => bif Nat.beq t0 8 then f8_isUnder i0 p1 μ else none
  | _ => none
set_option maxRecDepth 100000 in
theorem c8_isUnder {X : XP} (hX : XOK X) (l : Launch) : Ctr X l y8_isUnder prog_10_method_12_code 2 (some .boolean) (xrm 2) 0 0 F8_isUnder :=
  Ctr_of (tab := t8_isUnder) (env := e8_isUnder) (K := 36) (N := 20000) (fl := fl8) (cl := cl8) (ll := ll8) (jl := jl8) hX mf8_isUnder.2.2.2 ⟨by decide +kernel, flk8, clk8, llk8, jlk8⟩
   (List.forall_mem_cons.mpr ⟨xcal_v (na := 1) (c2_canDrown hX l) mf2_canDrown ⟨rfl, rfl⟩ ml8_75 mi2_canDrown me2_canDrown (xrm_ok (by omega) (by decide)) rfl (by decide) (by decide +kernel), List.forall_mem_cons.mpr ⟨xcal_v (na := 2) (c2_isBorne hX l) mf2_isBorne ⟨rfl, rfl⟩ ml8_81 mi2_isBorne me2_isBorne (xrm_ok (by omega) (by decide)) rfl (by decide) (by decide +kernel), fun _ h => absurd h List.not_mem_nil⟩⟩)
   (xrm_1 (by decide)) ⟨_, _, rfl, rfl⟩ (fun av μ r μ' h => by
    unfold F8_isUnder at h
    split at h
    · replace h := cond_inv h; obtain ⟨hb, h⟩ := h
      obtain rfl := Nat.eq_of_beq_eq_true hb
      exact ⟨Nat.le_of_ble_eq_true rfl, (q8_isUnder _ _ _ _).trans ((f8_isUnder_e _ _ _).symm.trans h)⟩
    · cases h)
def t8_drowns : List XE := [(0, .aload_n 0, 0, 0, 0, 0, []),
  (1, .iload_n 1, 1, 0, 0, 0, []),
  (2, .invokevirtual 127, 2, 8, 0, 0, []),
  (5, .ifCond .ne 20, 25, 0, 0, 0, []),
  (8, .aload_n 0, 0, 0, 0, 0, []),
  (9, .getfield 15, 8, 2, 0, 0, []),
  (12, .iload_n 1, 1, 0, 0, 0, []),
  (13, .aload_n 0, 0, 0, 0, 0, []),
  (14, .getfield 24, 8, 0, 0, 0, []),
  (17, .getfield 31, 2, 9, 0, 0, []),
  (20, .iload_n 1, 1, 0, 0, 0, []),
  (21, .iaload, 0, 0, 0, 0, []),
  (22, .iastore, 0, 0, 0, 0, []),
  (23, .iconst 0, 0, 0, 0, 0, []),
  (24, .ireturn, 0, 0, 0, 0, []),
  (25, .aload_n 0, 0, 0, 0, 0, []),
  (26, .getfield 15, 8, 2, 0, 0, []),
  (29, .iload_n 1, 1, 0, 0, 0, []),
  (30, .dup2, 0, 0, 0, 0, []),
  (31, .iaload, 0, 0, 0, 0, []),
  (32, .iconst 1, 0, 0, 1, 0, []),
  (33, .isub, 0, 0, 0, 0, []),
  (34, .iastore, 0, 0, 0, 0, []),
  (35, .aload_n 0, 0, 0, 0, 0, []),
  (36, .getfield 15, 8, 2, 0, 0, []),
  (39, .iload_n 1, 1, 0, 0, 0, []),
  (40, .iaload, 0, 0, 0, 0, []),
  (41, .ifCond .le 5, 46, 0, 0, 0, []),
  (44, .iconst 0, 0, 0, 0, 0, []),
  (45, .ireturn, 0, 0, 0, 0, []),
  (46, .aload_n 0, 0, 0, 0, 0, []),
  (47, .getfield 18, 8, 3, 0, 0, []),
  (50, .iload_n 1, 1, 0, 0, 0, []),
  (51, .iconst 2, 0, 0, 2, 0, []),
  (52, .iastore, 0, 0, 0, 0, []),
  (53, .aload_n 0, 0, 0, 0, 0, []),
  (54, .getfield 21, 8, 4, 0, 0, []),
  (57, .iload_n 1, 1, 0, 0, 0, []),
  (58, .iconst (-1), 0, 0, (-1), 0, []),
  (59, .iastore, 0, 0, 0, 0, []),
  (60, .iconst 1, 0, 0, 1, 0, []),
  (61, .ireturn, 0, 0, 0, 0, [])]
noncomputable def e8_drowns : XN := [(127, 1, 2, 8, F8_isUnder)]
noncomputable def k8_drowns (i0 : Nat) (p1 : Int32) (μ : XM) : XR :=
  bI (f8_isUnder i0 p1 μ) fun r2 m1 =>
  xite (r2 = 0) (
    xck (xin p1 6) <|
    xck (xin p1 6 && true) <|
    mS (pI m1 8 i0 2 (Int32.toNatClampNeg p1) (aI m1 2 0 9 (Int32.toNatClampNeg p1))) fun m3 =>
    xrb 0 m3) (
    xck (xin p1 6) <|
    xck (xin p1 6 && true) <|
    mS (pI m1 8 i0 2 (Int32.toNatClampNeg p1) ((aI m1 8 i0 2 (Int32.toNatClampNeg p1)) - 1)) fun m4 =>
    xck (xin p1 6) <|
    xite ((0 : Int32) < (aI m4 8 i0 2 (Int32.toNatClampNeg p1))) (
      xrb 0 m4) (
      xck (xin p1 6 && true) <|
      mS (pI m4 8 i0 3 (Int32.toNatClampNeg p1) 2) fun m5 =>
      xck (xin p1 6 && true) <|
      mS (pI m5 8 i0 4 (Int32.toNatClampNeg p1) (-1)) fun m6 =>
      xrb 1 m6))
set_option maxRecDepth 100000 in
theorem q8_drowns (n : Nat) (i0 : Nat) (p1 : Int32) (μ : XM) : xrun t8_drowns e8_drowns (xrtk (some .boolean)) 47 n (xlo [xr 8 i0 0, xi p1] 2) μ = k8_drowns i0 p1 μ := rfl
theorem x8_drowns : ∃ f : Nat → Int32 → XM → XR, ∀ (i0 : Nat) (p1 : Int32) (μ : XM), f i0 p1 μ = k8_drowns i0 p1 μ := ⟨fun i0 p1 μ => k8_drowns i0 p1 μ, fun i0 p1 μ => rfl⟩
noncomputable def f8_drowns : Nat → Int32 → XM → XR := Classical.choose x8_drowns
theorem f8_drowns_e (i0 : Nat) (p1 : Int32) (μ : XM) : f8_drowns i0 p1 μ = k8_drowns i0 p1 μ := Classical.choose_spec x8_drowns i0 p1 μ
noncomputable def F8_drowns : XF := fun av μ => match av with
  | [.inr (.inr (some (t0, i0, 0))), .inl p1] => bif Nat.beq t0 8 then f8_drowns i0 p1 μ else none
  | _ => none
set_option maxRecDepth 100000 in
theorem c8_drowns {X : XP} (hX : XOK X) (l : Launch) : Ctr X l y8_drowns prog_10_method_25_code 2 (some .boolean) (xrm 3) 0 0 F8_drowns :=
  Ctr_of (tab := t8_drowns) (env := e8_drowns) (K := 47) (N := 20000) (fl := fl8) (cl := cl8) (ll := ll8) (jl := jl8) hX mf8_drowns.2.2.2 ⟨by decide +kernel, flk8, clk8, llk8, jlk8⟩
   (List.forall_mem_cons.mpr ⟨xcal_v (na := 1) (c8_isUnder hX l) mf8_isUnder ⟨rfl, rfl⟩ ml8_127 mi8_isUnder me8_isUnder (xrm_ok (by omega) (by decide)) rfl (by decide) (by decide +kernel), fun _ h => absurd h List.not_mem_nil⟩)
   (xrm_1 (by decide)) ⟨_, _, rfl, rfl⟩ (fun av μ r μ' h => by
    unfold F8_drowns at h
    split at h
    · replace h := cond_inv h; obtain ⟨hb, h⟩ := h
      obtain rfl := Nat.eq_of_beq_eq_true hb
      exact ⟨Nat.le_of_ble_eq_true rfl, (q8_drowns _ _ _ _).trans ((f8_drowns_e _ _ _).symm.trans h)⟩
    · cases h)
def t2_isShabby : List XE := [(0, .iload_n 1, 1, 0, 0, 0, []),
  (1, .ifCond .lt 25, 26, 0, 0, 0, []),
  (4, .iload_n 1, 1, 0, 0, 0, []),
  (5, .aload_n 0, 0, 0, 0, 0, []),
  (6, .getfield 53, 2, 0, 0, 0, []),
  (9, .if_icmp .ge 17, 26, 0, 0, 0, []),
  (12, .aload_n 0, 0, 0, 0, 0, []),
  (13, .getfield 15, 2, 6, 0, 0, []),
  (16, .iload_n 1, 1, 0, 0, 0, []),
  (17, .iaload, 0, 0, 0, 0, []),
  (18, .iconst 3, 0, 0, 3, 0, []),
  (19, .if_icmp .ne 7, 26, 0, 0, 0, []),
  (22, .iconst 1, 0, 0, 1, 0, []),
  (23, .goto 4, 27, 0, 0, 0, []),
  (26, .iconst 0, 0, 0, 0, 0, []),
  (27, .ireturn, 0, 0, 0, 0, [])]
noncomputable def e2_isShabby : XN := []
noncomputable def k2_isShabby (i0 : Nat) (p1 : Int32) (μ : XM) : XR :=
  xite (p1 < 0) (
    xrb 0 μ) (
    xite (p1 < (rI μ 2 i0 0)) (
      xck (xin p1 6) <|
      xite ((aI μ 2 i0 6 (Int32.toNatClampNeg p1)) = 3) (
        xrb 1 μ) (
        xrb 0 μ)) (
      xrb 0 μ))
set_option maxRecDepth 100000 in
theorem q2_isShabby (n : Nat) (i0 : Nat) (p1 : Int32) (μ : XM) : xrun t2_isShabby e2_isShabby (xrtk (some .boolean)) 21 n (xlo [xr 2 i0 0, xi p1] 2) μ = k2_isShabby i0 p1 μ := rfl
theorem x2_isShabby : ∃ f : Nat → Int32 → XM → XR, ∀ (i0 : Nat) (p1 : Int32) (μ : XM), f i0 p1 μ = k2_isShabby i0 p1 μ := ⟨fun i0 p1 μ => k2_isShabby i0 p1 μ, fun i0 p1 μ => rfl⟩
noncomputable def f2_isShabby : Nat → Int32 → XM → XR := Classical.choose x2_isShabby
theorem f2_isShabby_e (i0 : Nat) (p1 : Int32) (μ : XM) : f2_isShabby i0 p1 μ = k2_isShabby i0 p1 μ := Classical.choose_spec x2_isShabby i0 p1 μ
noncomputable def F2_isShabby : XF := fun av μ => match av with
  | [.inr (.inr (some (t0, i0, 0))), .inl p1] => bif Nat.beq t0 2 then f2_isShabby i0 p1 μ else none
  | _ => none
set_option maxRecDepth 100000 in
theorem c2_isShabby {X : XP} (hX : XOK X) (l : Launch) : Ctr X l y2_isShabby prog_4_method_11_code 2 (some .boolean) (xrm 1) 0 0 F2_isShabby :=
  Ctr_of (tab := t2_isShabby) (env := e2_isShabby) (K := 21) (N := 20000) (fl := fl2) (cl := cl2) (ll := ll2) (jl := jl2) hX mf2_isShabby.2.2.2 ⟨by decide +kernel, flk2, clk2, llk2, jlk2⟩
   (fun _ h => absurd h List.not_mem_nil)
   (xrm_1 (by decide)) ⟨_, _, rfl, rfl⟩ (fun av μ r μ' h => by
    unfold F2_isShabby at h
    split at h
    · replace h := cond_inv h; obtain ⟨hb, h⟩ := h
      obtain rfl := Nat.eq_of_beq_eq_true hb
      exact ⟨Nat.le_of_ble_eq_true rfl, (q2_isShabby _ _ _ _).trans ((f2_isShabby_e _ _ _).symm.trans h)⟩
    · cases h)
def t8_comeNearer : List XE := [(0, .aload_n 0, 0, 0, 0, 0, []),
  (1, .getfield 21, 8, 4, 0, 0, []),
  (4, .iload_n 1, 1, 0, 0, 0, []),
  (5, .iaload, 0, 0, 0, 0, []),
  (6, .iconst (-1), 0, 0, (-1), 0, []),
  (7, .if_icmp .ne 15, 22, 0, 0, 0, []),
  (10, .aload_n 0, 0, 0, 0, 0, []),
  (11, .getfield 24, 8, 0, 0, 0, []),
  (14, .iload_n 1, 1, 0, 0, 0, []),
  (15, .invokevirtual 85, 2, 2, 0, 0, []),
  (18, .ifCond .ne 4, 22, 0, 0, 0, []),
  (21, .return_, 0, 0, 0, 0, []),
  (22, .nop, 3, 0, 0, 0, []),
  (22, .aload_n 0, 0, 0, 0, 0, []),
  (23, .getfield 9, 8, 1, 0, 0, []),
  (26, .iload_n 1, 1, 0, 0, 0, []),
  (27, .dup2, 0, 0, 0, 0, []),
  (28, .iaload, 0, 0, 0, 0, []),
  (29, .iconst 1, 0, 0, 1, 0, []),
  (30, .isub, 0, 0, 0, 0, []),
  (31, .iastore, 0, 0, 0, 0, []),
  (32, .aload_n 0, 0, 0, 0, 0, []),
  (33, .getfield 9, 8, 1, 0, 0, []),
  (36, .iload_n 1, 1, 0, 0, 0, []),
  (37, .iaload, 0, 0, 0, 0, []),
  (38, .ifCond .gt 17, 55, 0, 0, 0, []),
  (41, .aload_n 0, 0, 0, 0, 0, []),
  (42, .getfield 18, 8, 3, 0, 0, []),
  (45, .iload_n 1, 1, 0, 0, 0, []),
  (46, .iconst 1, 0, 0, 1, 0, []),
  (47, .iastore, 0, 0, 0, 0, []),
  (48, .aload_n 0, 0, 0, 0, 0, []),
  (49, .getfield 21, 8, 4, 0, 0, []),
  (52, .iload_n 1, 1, 0, 0, 0, []),
  (53, .iconst (-1), 0, 0, (-1), 0, []),
  (54, .iastore, 0, 0, 0, 0, []),
  (55, .return_, 0, 0, 0, 0, [])]
noncomputable def e8_comeNearer : XN := [(85, 1, 2, 2, F2_isShabby)]
noncomputable def h8_comeNearer_22 (n : Nat) (i0 : Nat) (v1 : Int32) (μ : XM) : XR := arr t8_comeNearer e8_comeNearer 0 42 n 22 [some (xr 8 i0 0), some (xi v1)] [] μ
set_option maxRecDepth 100000 in
theorem h8_comeNearer_22_s (n : Nat) (i0 : Nat) (v1 : Int32) (μ : XM) : h8_comeNearer_22 (n + 1) i0 v1 μ = (
  xck (xin v1 6) <|
  xck (xin v1 6 && true) <|
  mS (pI μ 8 i0 1 (Int32.toNatClampNeg v1) ((aI μ 8 i0 1 (Int32.toNatClampNeg v1)) - 1)) fun m1 =>
  xck (xin v1 6) <|
  xite ((0 : Int32) < (aI m1 8 i0 1 (Int32.toNatClampNeg v1))) (
    xrv m1) (
    xck (xin v1 6 && true) <|
    mS (pI m1 8 i0 3 (Int32.toNatClampNeg v1) 1) fun m2 =>
    xck (xin v1 6 && true) <|
    mS (pI m2 8 i0 4 (Int32.toNatClampNeg v1) (-1)) fun m3 =>
    xrv m3)) := rfl
theorem h8_comeNearer_22_0 (i0 : Nat) (v1 : Int32) (μ : XM) : h8_comeNearer_22 0 i0 v1 μ = none := rfl
noncomputable def k8_comeNearer (n : Nat) (i0 : Nat) (p1 : Int32) (μ : XM) : XR :=
  xck (xin p1 6) <|
  xite ((aI μ 8 i0 4 (Int32.toNatClampNeg p1)) = (-1)) (
    bI (f2_isShabby 0 p1 μ) fun r2 m1 =>
    xite (r2 = 0) (
      xrv m1) (
      h8_comeNearer_22 n i0 p1 m1)) (
    h8_comeNearer_22 n i0 p1 μ)
set_option maxRecDepth 100000 in
theorem q8_comeNearer (n : Nat) (i0 : Nat) (p1 : Int32) (μ : XM) : xrun t8_comeNearer e8_comeNearer (xrtk none) 42 n (xlo [xr 8 i0 0, xi p1] 2) μ = k8_comeNearer n i0 p1 μ := rfl
theorem x8_comeNearer : ∃ f : Nat → Int32 → XM → XR, ∀ (i0 : Nat) (p1 : Int32) (μ : XM), f i0 p1 μ = k8_comeNearer 20000 i0 p1 μ := ⟨fun i0 p1 μ => k8_comeNearer 20000 i0 p1 μ, fun i0 p1 μ => rfl⟩
noncomputable def f8_comeNearer : Nat → Int32 → XM → XR := Classical.choose x8_comeNearer
theorem f8_comeNearer_e (i0 : Nat) (p1 : Int32) (μ : XM) : f8_comeNearer i0 p1 μ = k8_comeNearer 20000 i0 p1 μ := Classical.choose_spec x8_comeNearer i0 p1 μ
noncomputable def F8_comeNearer : XF := fun av μ => match av with
  | [.inr (.inr (some (t0, i0, 0))), .inl p1] => bif Nat.beq t0 8 then f8_comeNearer i0 p1 μ else none
  | _ => none
set_option maxRecDepth 100000 in
theorem c8_comeNearer {X : XP} (hX : XOK X) (l : Launch) : Ctr X l y8_comeNearer prog_10_method_26_code 2 none (xrm 2) 0 0 F8_comeNearer :=
  Ctr_of (tab := t8_comeNearer) (env := e8_comeNearer) (K := 42) (N := 20000) (fl := fl8) (cl := cl8) (ll := ll8) (jl := jl8) hX mf8_comeNearer.2.2.2 ⟨by decide +kernel, flk8, clk8, llk8, jlk8⟩
   (List.forall_mem_cons.mpr ⟨xcal_v (na := 1) (c2_isShabby hX l) mf2_isShabby ⟨rfl, rfl⟩ ml8_85 mi2_isShabby me2_isShabby (xrm_ok (by omega) (by decide)) rfl (by decide) (by decide +kernel), fun _ h => absurd h List.not_mem_nil⟩)
   (xrm_1 (by decide)) ⟨_, _, rfl, rfl⟩ (fun av μ r μ' h => by
    unfold F8_comeNearer at h
    split at h
    · replace h := cond_inv h; obtain ⟨hb, h⟩ := h
      obtain rfl := Nat.eq_of_beq_eq_true hb
      exact ⟨Nat.le_of_ble_eq_true rfl, (q8_comeNearer _ _ _ _).trans ((f8_comeNearer_e _ _ _).symm.trans h)⟩
    · cases h)
def t8_whoIs : List XE := [(0, .iconst 0, 0, 0, 0, 0, []),
  (1, .istore_n 2, 2, 0, 0, 0, []),
  (2, .iconst 0, 0, 0, 0, 0, []),
  (3, .istore_n 3, 3, 0, 0, 0, []),
  (4, .nop, 15, 0, 0, 0, []),
  (4, .iload_n 3, 3, 0, 0, 0, []),
  (5, .aload_n 0, 0, 0, 0, 0, []),
  (6, .getfield 24, 8, 0, 0, 0, []),
  (9, .getfield 59, 2, 0, 0, 0, []),
  (12, .if_icmp .ge 25, 37, 0, 0, 0, []),
  (15, .aload_n 0, 0, 0, 0, 0, []),
  (16, .getfield 18, 8, 3, 0, 0, []),
  (19, .iload_n 3, 3, 0, 0, 0, []),
  (20, .iaload, 0, 0, 0, 0, []),
  (21, .iload_n 1, 1, 0, 0, 0, []),
  (22, .if_icmp .ne 9, 31, 0, 0, 0, []),
  (25, .iload_n 2, 2, 0, 0, 0, []),
  (26, .iconst 1, 0, 0, 1, 0, []),
  (27, .iload_n 3, 3, 0, 0, 0, []),
  (28, .ishl, 0, 0, 0, 0, []),
  (29, .ior, 0, 0, 0, 0, []),
  (30, .istore_n 2, 2, 0, 0, 0, []),
  (31, .iinc 3 1, 3, 0, 1, 0, []),
  (34, .goto (-30), 4, 0, 0, 0, []),
  (37, .iload_n 2, 2, 0, 0, 0, []),
  (38, .ireturn, 0, 0, 0, 0, [])]
noncomputable def e8_whoIs : XN := []
noncomputable def h8_whoIs_4 (n : Nat) (i0 : Nat) (v1 : Int32) (v2 : Int32) (v3 : Int32) (μ : XM) : XR := arr t8_whoIs e8_whoIs 1 31 n 4 [some (xr 8 i0 0), some (xi v1), some (xi v2), some (xi v3)] [] μ
set_option maxRecDepth 100000 in
theorem h8_whoIs_4_s (n : Nat) (i0 : Nat) (v1 : Int32) (v2 : Int32) (v3 : Int32) (μ : XM) : h8_whoIs_4 (n + 1) i0 v1 v2 v3 μ = (
  xite (v3 < (rI μ 2 0 0)) (
    xck (xin v3 6) <|
    xite ((aI μ 8 i0 3 (Int32.toNatClampNeg v3)) = v1) (
      vI (v2 ||| (1 <<< (v3 &&& 31))) fun x1 =>
      vI (v3 + 1) fun x2 =>
      h8_whoIs_4 n i0 v1 x1 x2 μ) (
      vI (v3 + 1) fun x3 =>
      h8_whoIs_4 n i0 v1 v2 x3 μ)) (
    xri v2 μ)) := rfl
theorem h8_whoIs_4_0 (i0 : Nat) (v1 : Int32) (v2 : Int32) (v3 : Int32) (μ : XM) : h8_whoIs_4 0 i0 v1 v2 v3 μ = none := rfl
noncomputable def k8_whoIs (n : Nat) (i0 : Nat) (p1 : Int32) (μ : XM) : XR :=
  vI 0 fun x1 =>
  vI 0 fun x2 =>
  h8_whoIs_4 n i0 p1 x1 x2 μ
set_option maxRecDepth 100000 in
theorem q8_whoIs (n : Nat) (i0 : Nat) (p1 : Int32) (μ : XM) : xrun t8_whoIs e8_whoIs (xrtk (some .int)) 31 n (xlo [xr 8 i0 0, xi p1] 4) μ = k8_whoIs n i0 p1 μ := rfl
theorem x8_whoIs : ∃ f : Nat → Int32 → XM → XR, ∀ (i0 : Nat) (p1 : Int32) (μ : XM), f i0 p1 μ = k8_whoIs 20000 i0 p1 μ := ⟨fun i0 p1 μ => k8_whoIs 20000 i0 p1 μ, fun i0 p1 μ => rfl⟩
noncomputable def f8_whoIs : Nat → Int32 → XM → XR := Classical.choose x8_whoIs
theorem f8_whoIs_e (i0 : Nat) (p1 : Int32) (μ : XM) : f8_whoIs i0 p1 μ = k8_whoIs 20000 i0 p1 μ := Classical.choose_spec x8_whoIs i0 p1 μ
noncomputable def F8_whoIs : XF := fun av μ => match av with
  | [.inr (.inr (some (t0, i0, 0))), .inl p1] => bif Nat.beq t0 8 then f8_whoIs i0 p1 μ else none
  | _ => none
set_option maxRecDepth 100000 in
theorem c8_whoIs {X : XP} (hX : XOK X) (l : Launch) : Ctr X l y8_whoIs prog_10_method_6_code 4 (some .int) (xrm 1) 0 0 F8_whoIs :=
  Ctr_of (tab := t8_whoIs) (env := e8_whoIs) (K := 31) (N := 20000) (fl := fl8) (cl := cl8) (ll := ll8) (jl := jl8) hX mf8_whoIs.2.2.2 ⟨by decide +kernel, flk8, clk8, llk8, jlk8⟩
   (fun _ h => absurd h List.not_mem_nil)
   (xrm_1 (by decide)) ⟨_, _, rfl, rfl⟩ (fun av μ r μ' h => by
    unfold F8_whoIs at h
    split at h
    · replace h := cond_inv h; obtain ⟨hb, h⟩ := h
      obtain rfl := Nat.eq_of_beq_eq_true hb
      exact ⟨Nat.le_of_ble_eq_true rfl, (q8_whoIs _ _ _ _).trans ((f8_whoIs_e _ _ _).symm.trans h)⟩
    · cases h)
def t8_holderOf : List XE := [(0, .iconst 0, 0, 0, 0, 0, []),
  (1, .istore_n 2, 2, 0, 0, 0, []),
  (2, .nop, 7, 0, 0, 0, []),
  (2, .iload_n 2, 2, 0, 0, 0, []),
  (3, .aload_n 0, 0, 0, 0, 0, []),
  (4, .getfield 24, 8, 0, 0, 0, []),
  (7, .getfield 59, 2, 0, 0, 0, []),
  (10, .if_icmp .ge 21, 31, 0, 0, 0, []),
  (13, .aload_n 0, 0, 0, 0, 0, []),
  (14, .getfield 21, 8, 4, 0, 0, []),
  (17, .iload_n 2, 2, 0, 0, 0, []),
  (18, .iaload, 0, 0, 0, 0, []),
  (19, .iload_n 1, 1, 0, 0, 0, []),
  (20, .if_icmp .ne 5, 25, 0, 0, 0, []),
  (23, .iload_n 2, 2, 0, 0, 0, []),
  (24, .ireturn, 0, 0, 0, 0, []),
  (25, .iinc 2 1, 2, 0, 1, 0, []),
  (28, .goto (-26), 2, 0, 0, 0, []),
  (31, .iconst (-1), 0, 0, (-1), 0, []),
  (32, .ireturn, 0, 0, 0, 0, [])]
noncomputable def e8_holderOf : XN := []
noncomputable def h8_holderOf_2 (n : Nat) (i0 : Nat) (v1 : Int32) (v2 : Int32) (μ : XM) : XR := arr t8_holderOf e8_holderOf 1 25 n 2 [some (xr 8 i0 0), some (xi v1), some (xi v2)] [] μ
set_option maxRecDepth 100000 in
theorem h8_holderOf_2_s (n : Nat) (i0 : Nat) (v1 : Int32) (v2 : Int32) (μ : XM) : h8_holderOf_2 (n + 1) i0 v1 v2 μ = (
  xite (v2 < (rI μ 2 0 0)) (
    xck (xin v2 6) <|
    xite ((aI μ 8 i0 4 (Int32.toNatClampNeg v2)) = v1) (
      xri v2 μ) (
      vI (v2 + 1) fun x1 =>
      h8_holderOf_2 n i0 v1 x1 μ)) (
    xri (-1) μ)) := rfl
theorem h8_holderOf_2_0 (i0 : Nat) (v1 : Int32) (v2 : Int32) (μ : XM) : h8_holderOf_2 0 i0 v1 v2 μ = none := rfl
noncomputable def k8_holderOf (n : Nat) (i0 : Nat) (p1 : Int32) (μ : XM) : XR :=
  vI 0 fun x1 =>
  h8_holderOf_2 n i0 p1 x1 μ
set_option maxRecDepth 100000 in
theorem q8_holderOf (n : Nat) (i0 : Nat) (p1 : Int32) (μ : XM) : xrun t8_holderOf e8_holderOf (xrtk (some .int)) 25 n (xlo [xr 8 i0 0, xi p1] 3) μ = k8_holderOf n i0 p1 μ := rfl
theorem x8_holderOf : ∃ f : Nat → Int32 → XM → XR, ∀ (i0 : Nat) (p1 : Int32) (μ : XM), f i0 p1 μ = k8_holderOf 20000 i0 p1 μ := ⟨fun i0 p1 μ => k8_holderOf 20000 i0 p1 μ, fun i0 p1 μ => rfl⟩
noncomputable def f8_holderOf : Nat → Int32 → XM → XR := Classical.choose x8_holderOf
theorem f8_holderOf_e (i0 : Nat) (p1 : Int32) (μ : XM) : f8_holderOf i0 p1 μ = k8_holderOf 20000 i0 p1 μ := Classical.choose_spec x8_holderOf i0 p1 μ
noncomputable def F8_holderOf : XF := fun av μ => match av with
  | [.inr (.inr (some (t0, i0, 0))), .inl p1] => bif Nat.beq t0 8 then f8_holderOf i0 p1 μ else none
  | _ => none
set_option maxRecDepth 100000 in
theorem c8_holderOf {X : XP} (hX : XOK X) (l : Launch) : Ctr X l y8_holderOf prog_10_method_8_code 3 (some .int) (xrm 1) 0 0 F8_holderOf :=
  Ctr_of (tab := t8_holderOf) (env := e8_holderOf) (K := 25) (N := 20000) (fl := fl8) (cl := cl8) (ll := ll8) (jl := jl8) hX mf8_holderOf.2.2.2 ⟨by decide +kernel, flk8, clk8, llk8, jlk8⟩
   (fun _ h => absurd h List.not_mem_nil)
   (xrm_1 (by decide)) ⟨_, _, rfl, rfl⟩ (fun av μ r μ' h => by
    unfold F8_holderOf at h
    split at h
    · replace h := cond_inv h; obtain ⟨hb, h⟩ := h
      obtain rfl := Nat.eq_of_beq_eq_true hb
      exact ⟨Nat.le_of_ble_eq_true rfl, (q8_holderOf _ _ _ _).trans ((f8_holderOf_e _ _ _).symm.trans h)⟩
    · cases h)
def t8_wall : List XE := [(0, .iconst 0, 0, 0, 0, 0, []),
  (1, .istore_n 1, 1, 0, 0, 0, []),
  (2, .iconst 0, 0, 0, 0, 0, []),
  (3, .istore_n 2, 2, 0, 0, 0, []),
  (4, .nop, 7, 0, 0, 0, []),
  (4, .iload_n 2, 2, 0, 0, 0, []),
  (5, .aload_n 0, 0, 0, 0, 0, []),
  (6, .getfield 24, 8, 0, 0, 0, []),
  (9, .getfield 69, 2, 1, 0, 0, []),
  (12, .if_icmp .ge 24, 36, 0, 0, 0, []),
  (15, .aload_n 0, 0, 0, 0, 0, []),
  (16, .iload_n 2, 2, 0, 0, 0, []),
  (17, .invokevirtual 65, 2, 8, 0, 0, []),
  (20, .iconst (-1), 0, 0, (-1), 0, []),
  (21, .if_icmp .ne 9, 30, 0, 0, 0, []),
  (24, .iload_n 1, 1, 0, 0, 0, []),
  (25, .iconst 1, 0, 0, 1, 0, []),
  (26, .iload_n 2, 2, 0, 0, 0, []),
  (27, .ishl, 0, 0, 0, 0, []),
  (28, .ior, 0, 0, 0, 0, []),
  (29, .istore_n 1, 1, 0, 0, 0, []),
  (30, .iinc 2 1, 2, 0, 1, 0, []),
  (33, .goto (-29), 4, 0, 0, 0, []),
  (36, .iload_n 1, 1, 0, 0, 0, []),
  (37, .ireturn, 0, 0, 0, 0, [])]
noncomputable def e8_wall : XN := [(65, 1, 2, 8, F8_holderOf)]
noncomputable def h8_wall_4 (n : Nat) (i0 : Nat) (v1 : Int32) (v2 : Int32) (μ : XM) : XR := arr t8_wall e8_wall 1 30 n 4 [some (xr 8 i0 0), some (xi v1), some (xi v2)] [] μ
set_option maxRecDepth 100000 in
theorem h8_wall_4_s (n : Nat) (i0 : Nat) (v1 : Int32) (v2 : Int32) (μ : XM) : h8_wall_4 (n + 1) i0 v1 v2 μ = (
  xite (v2 < (rI μ 2 0 1)) (
    bI (f8_holderOf i0 v2 μ) fun r2 m1 =>
    xite (r2 = (-1)) (
      vI (v1 ||| (1 <<< (v2 &&& 31))) fun x3 =>
      vI (v2 + 1) fun x4 =>
      h8_wall_4 n i0 x3 x4 m1) (
      vI (v2 + 1) fun x5 =>
      h8_wall_4 n i0 v1 x5 m1)) (
    xri v1 μ)) := rfl
theorem h8_wall_4_0 (i0 : Nat) (v1 : Int32) (v2 : Int32) (μ : XM) : h8_wall_4 0 i0 v1 v2 μ = none := rfl
noncomputable def k8_wall (n : Nat) (i0 : Nat) (μ : XM) : XR :=
  vI 0 fun x1 =>
  vI 0 fun x2 =>
  h8_wall_4 n i0 x1 x2 μ
set_option maxRecDepth 100000 in
theorem q8_wall (n : Nat) (i0 : Nat) (μ : XM) : xrun t8_wall e8_wall (xrtk (some .int)) 30 n (xlo [xr 8 i0 0] 3) μ = k8_wall n i0 μ := rfl
theorem x8_wall : ∃ f : Nat → XM → XR, ∀ (i0 : Nat) (μ : XM), f i0 μ = k8_wall 20000 i0 μ := ⟨fun i0 μ => k8_wall 20000 i0 μ, fun i0 μ => rfl⟩
noncomputable def f8_wall : Nat → XM → XR := Classical.choose x8_wall
theorem f8_wall_e (i0 : Nat) (μ : XM) : f8_wall i0 μ = k8_wall 20000 i0 μ := Classical.choose_spec x8_wall i0 μ
noncomputable def F8_wall : XF := fun av μ => match av with
  | [.inr (.inr (some (t0, i0, 0)))] => bif Nat.beq t0 8 then f8_wall i0 μ else none
  | _ => none
set_option maxRecDepth 100000 in
theorem c8_wall {X : XP} (hX : XOK X) (l : Launch) : Ctr X l y8_wall prog_10_method_10_code 3 (some .int) (xrm 2) 0 0 F8_wall :=
  Ctr_of (tab := t8_wall) (env := e8_wall) (K := 30) (N := 20000) (fl := fl8) (cl := cl8) (ll := ll8) (jl := jl8) hX mf8_wall.2.2.2 ⟨by decide +kernel, flk8, clk8, llk8, jlk8⟩
   (List.forall_mem_cons.mpr ⟨xcal_v (na := 1) (c8_holderOf hX l) mf8_holderOf ⟨rfl, rfl⟩ ml8_65 mi8_holderOf me8_holderOf (xrm_ok (by omega) (by decide)) rfl (by decide) (by decide +kernel), fun _ h => absurd h List.not_mem_nil⟩)
   (xrm_1 (by decide)) ⟨_, _, rfl, rfl⟩ (fun av μ r μ' h => by
    unfold F8_wall at h
    split at h
    · replace h := cond_inv h; obtain ⟨hb, h⟩ := h
      obtain rfl := Nat.eq_of_beq_eq_true hb
      exact ⟨Nat.le_of_ble_eq_true rfl, (q8_wall _ _ _).trans ((f8_wall_e _ _).symm.trans h)⟩
    · cases h)
def t4_push : List XE := [(0, .aload_n 0, 0, 0, 0, 0, []),
  (1, .getfield 32, 4, 3, 0, 0, []),
  (4, .aload_n 0, 0, 0, 0, 0, []),
  (5, .getfield 15, 4, 2, 0, 0, []),
  (8, .arraylength, 0, 0, 0, 0, []),
  (9, .if_icmp .ge 23, 32, 0, 0, 0, []),
  (12, .aload_n 0, 0, 0, 0, 0, []),
  (13, .getfield 15, 4, 2, 0, 0, []),
  (16, .aload_n 0, 0, 0, 0, 0, []),
  (17, .getfield 32, 4, 3, 0, 0, []),
  (20, .iload_n 1, 1, 0, 0, 0, []),
  (21, .iastore, 0, 0, 0, 0, []),
  (22, .aload_n 0, 0, 0, 0, 0, []),
  (23, .dup, 0, 0, 0, 0, []),
  (24, .getfield 32, 4, 3, 0, 0, []),
  (27, .iconst 1, 0, 0, 1, 0, []),
  (28, .iadd, 0, 0, 0, 0, []),
  (29, .putfield 32, 4, 3, 0, 0, []),
  (32, .return_, 0, 0, 0, 0, [])]
noncomputable def e4_push : XN := []
noncomputable def k4_push (i0 : Nat) (p1 : Int32) (μ : XM) : XR :=
  xite ((rI μ 4 i0 3) < (nI 32)) (
    xck (xin (rI μ 4 i0 3) 32 && true) <|
    mS (pI μ 4 i0 2 (Int32.toNatClampNeg (rI μ 4 i0 3)) p1) fun m1 =>
    mS (sI m1 4 i0 3 ((rI m1 4 i0 3) + 1)) fun m2 =>
    xrv m2) (
    xrv μ)
set_option maxRecDepth 100000 in
theorem q4_push (n : Nat) (i0 : Nat) (p1 : Int32) (μ : XM) : xrun t4_push e4_push (xrtk none) 24 n (xlo [xr 4 i0 0, xi p1] 2) μ = k4_push i0 p1 μ := rfl
theorem x4_push : ∃ f : Nat → Int32 → XM → XR, ∀ (i0 : Nat) (p1 : Int32) (μ : XM), f i0 p1 μ = k4_push i0 p1 μ := ⟨fun i0 p1 μ => k4_push i0 p1 μ, fun i0 p1 μ => rfl⟩
noncomputable def f4_push : Nat → Int32 → XM → XR := Classical.choose x4_push
theorem f4_push_e (i0 : Nat) (p1 : Int32) (μ : XM) : f4_push i0 p1 μ = k4_push i0 p1 μ := Classical.choose_spec x4_push i0 p1 μ
noncomputable def F4_push : XF := fun av μ => match av with
  | [.inr (.inr (some (t0, i0, 0))), .inl p1] => bif Nat.beq t0 4 then f4_push i0 p1 μ else none
  | _ => none
set_option maxRecDepth 100000 in
theorem c4_push {X : XP} (hX : XOK X) (l : Launch) : Ctr X l y4_push prog_6_method_9_code 2 none (xrm 1) 0 0 F4_push :=
  Ctr_of (tab := t4_push) (env := e4_push) (K := 24) (N := 20000) (fl := fl4) (cl := cl4) (ll := ll4) (jl := jl4) hX mf4_push.2.2.2 ⟨by decide +kernel, flk4, clk4, llk4, jlk4⟩
   (fun _ h => absurd h List.not_mem_nil)
   (xrm_1 (by decide)) ⟨_, _, rfl, rfl⟩ (fun av μ r μ' h => by
    unfold F4_push at h
    split at h
    · replace h := cond_inv h; obtain ⟨hb, h⟩ := h
      obtain rfl := Nat.eq_of_beq_eq_true hb
      exact ⟨Nat.le_of_ble_eq_true rfl, (q4_push _ _ _ _).trans ((f4_push_e _ _ _).symm.trans h)⟩
    · cases h)
def t4_pop : List XE := [(0, .aload_n 0, 0, 0, 0, 0, []),
  (1, .getfield 32, 4, 3, 0, 0, []),
  (4, .ifCond .le 15, 19, 0, 0, 0, []),
  (7, .aload_n 0, 0, 0, 0, 0, []),
  (8, .getfield 32, 4, 3, 0, 0, []),
  (11, .aload_n 0, 0, 0, 0, 0, []),
  (12, .getfield 15, 4, 2, 0, 0, []),
  (15, .arraylength, 0, 0, 0, 0, []),
  (16, .if_icmp .le 5, 21, 0, 0, 0, []),
  (19, .iconst 0, 0, 0, 0, 0, []),
  (20, .ireturn, 0, 0, 0, 0, []),
  (21, .aload_n 0, 0, 0, 0, 0, []),
  (22, .dup, 0, 0, 0, 0, []),
  (23, .getfield 32, 4, 3, 0, 0, []),
  (26, .iconst 1, 0, 0, 1, 0, []),
  (27, .isub, 0, 0, 0, 0, []),
  (28, .putfield 32, 4, 3, 0, 0, []),
  (31, .aload_n 0, 0, 0, 0, 0, []),
  (32, .getfield 15, 4, 2, 0, 0, []),
  (35, .aload_n 0, 0, 0, 0, 0, []),
  (36, .getfield 32, 4, 3, 0, 0, []),
  (39, .iaload, 0, 0, 0, 0, []),
  (40, .ireturn, 0, 0, 0, 0, [])]
noncomputable def e4_pop : XN := []
noncomputable def k4_pop (i0 : Nat) (μ : XM) : XR :=
  xite ((0 : Int32) < (rI μ 4 i0 3)) (
    xite ((nI 32) < (rI μ 4 i0 3)) (
      xri 0 μ) (
      mS (sI μ 4 i0 3 ((rI μ 4 i0 3) - 1)) fun m1 =>
      xck (xin (rI m1 4 i0 3) 32) <|
      xri (aI m1 4 i0 2 (Int32.toNatClampNeg (rI m1 4 i0 3))) m1)) (
    xri 0 μ)
set_option maxRecDepth 100000 in
theorem q4_pop (n : Nat) (i0 : Nat) (μ : XM) : xrun t4_pop e4_pop (xrtk (some .int)) 28 n (xlo [xr 4 i0 0] 1) μ = k4_pop i0 μ := rfl
theorem x4_pop : ∃ f : Nat → XM → XR, ∀ (i0 : Nat) (μ : XM), f i0 μ = k4_pop i0 μ := ⟨fun i0 μ => k4_pop i0 μ, fun i0 μ => rfl⟩
noncomputable def f4_pop : Nat → XM → XR := Classical.choose x4_pop
theorem f4_pop_e (i0 : Nat) (μ : XM) : f4_pop i0 μ = k4_pop i0 μ := Classical.choose_spec x4_pop i0 μ
noncomputable def F4_pop : XF := fun av μ => match av with
  | [.inr (.inr (some (t0, i0, 0)))] => bif Nat.beq t0 4 then f4_pop i0 μ else none
  | _ => none
set_option maxRecDepth 100000 in
theorem c4_pop {X : XP} (hX : XOK X) (l : Launch) : Ctr X l y4_pop prog_6_method_10_code 1 (some .int) (xrm 1) 0 0 F4_pop :=
  Ctr_of (tab := t4_pop) (env := e4_pop) (K := 28) (N := 20000) (fl := fl4) (cl := cl4) (ll := ll4) (jl := jl4) hX mf4_pop.2.2.2 ⟨by decide +kernel, flk4, clk4, llk4, jlk4⟩
   (fun _ h => absurd h List.not_mem_nil)
   (xrm_1 (by decide)) ⟨_, _, rfl, rfl⟩ (fun av μ r μ' h => by
    unfold F4_pop at h
    split at h
    · replace h := cond_inv h; obtain ⟨hb, h⟩ := h
      obtain rfl := Nat.eq_of_beq_eq_true hb
      exact ⟨Nat.le_of_ble_eq_true rfl, (q4_pop _ _ _).trans ((f4_pop_e _ _).symm.trans h)⟩
    · cases h)
def t4_joined : List XE := [(0, .iload_n 0, 0, 0, 0, 0, []),
  (1, .lookupswitch 107 #[(42, 67), (43, 59), (45, 63), (60, 71), (61, 82), (149, 93)], 108, 0, 0, 0, [(42, 68), (43, 60), (45, 64), (60, 72), (61, 83), (149, 94)]),
  (60, .iload_n 1, 1, 0, 0, 0, []),
  (61, .iload_n 2, 2, 0, 0, 0, []),
  (62, .iadd, 0, 0, 0, 0, []),
  (63, .ireturn, 0, 0, 0, 0, []),
  (64, .iload_n 1, 1, 0, 0, 0, []),
  (65, .iload_n 2, 2, 0, 0, 0, []),
  (66, .isub, 0, 0, 0, 0, []),
  (67, .ireturn, 0, 0, 0, 0, []),
  (68, .iload_n 1, 1, 0, 0, 0, []),
  (69, .iload_n 2, 2, 0, 0, 0, []),
  (70, .imul, 0, 0, 0, 0, []),
  (71, .ireturn, 0, 0, 0, 0, []),
  (72, .iload_n 1, 1, 0, 0, 0, []),
  (73, .iload_n 2, 2, 0, 0, 0, []),
  (74, .if_icmp .ge 7, 81, 0, 0, 0, []),
  (77, .iconst 1, 0, 0, 1, 0, []),
  (78, .goto 4, 82, 0, 0, 0, []),
  (81, .iconst 0, 0, 0, 0, 0, []),
  (82, .ireturn, 0, 0, 0, 0, []),
  (83, .iload_n 1, 1, 0, 0, 0, []),
  (84, .iload_n 2, 2, 0, 0, 0, []),
  (85, .if_icmp .ne 7, 92, 0, 0, 0, []),
  (88, .iconst 1, 0, 0, 1, 0, []),
  (89, .goto 4, 93, 0, 0, 0, []),
  (92, .iconst 0, 0, 0, 0, 0, []),
  (93, .ireturn, 0, 0, 0, 0, []),
  (94, .iload_n 1, 1, 0, 0, 0, []),
  (95, .ifCond .eq 11, 106, 0, 0, 0, []),
  (98, .iload_n 2, 2, 0, 0, 0, []),
  (99, .ifCond .eq 7, 106, 0, 0, 0, []),
  (102, .iconst 1, 0, 0, 1, 0, []),
  (103, .goto 4, 107, 0, 0, 0, []),
  (106, .iconst 0, 0, 0, 0, 0, []),
  (107, .ireturn, 0, 0, 0, 0, []),
  (108, .iload_n 1, 1, 0, 0, 0, []),
  (109, .ifCond .ne 7, 116, 0, 0, 0, []),
  (112, .iload_n 2, 2, 0, 0, 0, []),
  (113, .ifCond .eq 7, 120, 0, 0, 0, []),
  (116, .iconst 1, 0, 0, 1, 0, []),
  (117, .goto 4, 121, 0, 0, 0, []),
  (120, .iconst 0, 0, 0, 0, 0, []),
  (121, .ireturn, 0, 0, 0, 0, [])]
noncomputable def e4_joined : XN := []
noncomputable def k4_joined (p0 : Int32) (p1 : Int32) (p2 : Int32) (μ : XM) : XR :=
  xite (p0 = 42) (
    xri (p1 * p2) μ) (
  xite (p0 = 43) (
    xri (p1 + p2) μ) (
  xite (p0 = 45) (
    xri (p1 - p2) μ) (
  xite (p0 = 60) (
    xite (p1 < p2) (
      xri 1 μ) (
      xri 0 μ)) (
  xite (p0 = 61) (
    xite (p1 = p2) (
      xri 1 μ) (
      xri 0 μ)) (
  xite (p0 = 149) (
    xite (p1 = 0) (
      xri 0 μ) (
      xite (p2 = 0) (
        xri 0 μ) (
        xri 1 μ))) (
  xite (p1 = 0) (
    xite (p2 = 0) (
      xri 0 μ) (
      xri 1 μ)) (
    xri 1 μ)))))))
set_option maxRecDepth 100000 in
theorem q4_joined (n : Nat) (p0 : Int32) (p1 : Int32) (p2 : Int32) (μ : XM) : xrun t4_joined e4_joined (xrtk (some .int)) 49 n (xlo [xi p0, xi p1, xi p2] 3) μ = k4_joined p0 p1 p2 μ := rfl
theorem x4_joined : ∃ f : Int32 → Int32 → Int32 → XM → XR, ∀ (p0 : Int32) (p1 : Int32) (p2 : Int32) (μ : XM), f p0 p1 p2 μ = k4_joined p0 p1 p2 μ := ⟨fun p0 p1 p2 μ => k4_joined p0 p1 p2 μ, fun p0 p1 p2 μ => rfl⟩
noncomputable def f4_joined : Int32 → Int32 → Int32 → XM → XR := Classical.choose x4_joined
theorem f4_joined_e (p0 : Int32) (p1 : Int32) (p2 : Int32) (μ : XM) : f4_joined p0 p1 p2 μ = k4_joined p0 p1 p2 μ := Classical.choose_spec x4_joined p0 p1 p2 μ
noncomputable def F4_joined : XF := fun av μ => match av with
  | [.inl p0, .inl p1, .inl p2] => f4_joined p0 p1 p2 μ
  | _ => none
set_option maxRecDepth 100000 in
theorem c4_joined {X : XP} (hX : XOK X) (l : Launch) : Ctr X l y4_joined prog_6_method_8_code 3 (some .int) (xrm 1) 0 0 F4_joined :=
  Ctr_of (tab := t4_joined) (env := e4_joined) (K := 49) (N := 20000) (fl := fl4) (cl := cl4) (ll := ll4) (jl := jl4) hX mf4_joined.2.2.2 ⟨by decide +kernel, flk4, clk4, llk4, jlk4⟩
   (fun _ h => absurd h List.not_mem_nil)
   (xrm_1 (by decide)) ⟨_, _, rfl, rfl⟩ (fun av μ r μ' h => by
    unfold F4_joined at h
    split at h
    · exact ⟨Nat.le_of_ble_eq_true rfl, (q4_joined _ _ _ _ _).trans ((f4_joined_e _ _ _ _).symm.trans h)⟩
    · cases h)
def t4_value : List XE := [(0, .aload_n 0, 0, 0, 0, 0, []),
  (1, .getfield 18, 4, 1, 0, 0, []),
  (4, .ifCond .ne 5, 9, 0, 0, 0, []),
  (7, .iload_n 1, 1, 0, 0, 0, []),
  (8, .ireturn, 0, 0, 0, 0, []),
  (9, .aload_n 0, 0, 0, 0, 0, []),
  (10, .iconst 0, 0, 0, 0, 0, []),
  (11, .putfield 32, 4, 3, 0, 0, []),
  (14, .iconst 0, 0, 0, 0, 0, []),
  (15, .istore 5, 5, 0, 0, 0, []),
  (17, .nop, 63, 0, 0, 0, []),
  (17, .iload 5, 5, 0, 0, 0, []),
  (19, .aload_n 0, 0, 0, 0, 0, []),
  (20, .getfield 18, 4, 1, 0, 0, []),
  (23, .if_icmp .ge 167, 190, 0, 0, 0, []),
  (26, .iload 5, 5, 0, 0, 0, []),
  (28, .aload_n 0, 0, 0, 0, 0, []),
  (29, .getfield 9, 4, 0, 0, 0, []),
  (32, .arraylength, 0, 0, 0, 0, []),
  (33, .if_icmp .ge 157, 190, 0, 0, 0, []),
  (36, .aload_n 0, 0, 0, 0, 0, []),
  (37, .getfield 9, 4, 0, 0, 0, []),
  (40, .iload 5, 5, 0, 0, 0, []),
  (42, .iaload, 0, 0, 0, 0, []),
  (43, .istore 6, 6, 0, 0, 0, []),
  (45, .iload 6, 6, 0, 0, 0, []),
  (47, .ineg, 0, 0, 0, 0, []),
  (48, .tableswitch 96 148 154 #[77, 96, 96, 44, 52, 60, 68], 144, 0, 0, 0, [(148, 125), (149, 144), (150, 144), (151, 92), (152, 100), (153, 108), (154, 116)]),
  (92, .aload_n 0, 0, 0, 0, 0, []),
  (93, .iload_n 1, 1, 0, 0, 0, []),
  (94, .invokevirtual 35, 2, 4, 0, 0, []),
  (97, .goto 87, 184, 0, 0, 0, []),
  (100, .aload_n 0, 0, 0, 0, 0, []),
  (101, .iload_n 2, 2, 0, 0, 0, []),
  (102, .invokevirtual 35, 2, 4, 0, 0, []),
  (105, .goto 79, 184, 0, 0, 0, []),
  (108, .aload_n 0, 0, 0, 0, 0, []),
  (109, .iload_n 3, 3, 0, 0, 0, []),
  (110, .invokevirtual 35, 2, 4, 0, 0, []),
  (113, .goto 71, 184, 0, 0, 0, []),
  (116, .aload_n 0, 0, 0, 0, 0, []),
  (117, .iload 4, 4, 0, 0, 0, []),
  (119, .invokevirtual 35, 2, 4, 0, 0, []),
  (122, .goto 62, 184, 0, 0, 0, []),
  (125, .aload_n 0, 0, 0, 0, 0, []),
  (126, .aload_n 0, 0, 0, 0, 0, []),
  (127, .invokevirtual 38, 1, 4, 0, 0, []),
  (130, .ifCond .ne 7, 137, 0, 0, 0, []),
  (133, .iconst 1, 0, 0, 1, 0, []),
  (134, .goto 4, 138, 0, 0, 0, []),
  (137, .iconst 0, 0, 0, 0, 0, []),
  (138, .invokevirtual 35, 2, 4, 0, 0, []),
  (141, .goto 43, 184, 0, 0, 0, []),
  (144, .nop, 127, 0, 0, 0, []),
  (144, .iload 6, 6, 0, 0, 0, []),
  (146, .ifCond .lt 12, 158, 0, 0, 0, []),
  (149, .aload_n 0, 0, 0, 0, 0, []),
  (150, .iload 6, 6, 0, 0, 0, []),
  (152, .invokevirtual 35, 2, 4, 0, 0, []),
  (155, .goto 29, 184, 0, 0, 0, []),
  (158, .aload_n 0, 0, 0, 0, 0, []),
  (159, .invokevirtual 38, 1, 4, 0, 0, []),
  (162, .istore 7, 7, 0, 0, 0, []),
  (164, .aload_n 0, 0, 0, 0, 0, []),
  (165, .invokevirtual 38, 1, 4, 0, 0, []),
  (168, .istore 8, 8, 0, 0, 0, []),
  (170, .aload_n 0, 0, 0, 0, 0, []),
  (171, .iload 6, 6, 0, 0, 0, []),
  (173, .ineg, 0, 0, 0, 0, []),
  (174, .iload 8, 8, 0, 0, 0, []),
  (176, .iload 7, 7, 0, 0, 0, []),
  (178, .invokestatic 42, 3, 0, 0, 0, []),
  (181, .invokevirtual 35, 2, 4, 0, 0, []),
  (184, .iinc 5 1, 5, 0, 1, 0, []),
  (187, .goto (-170), 17, 0, 0, 0, []),
  (190, .aload_n 0, 0, 0, 0, 0, []),
  (191, .invokevirtual 38, 1, 4, 0, 0, []),
  (194, .ireturn, 0, 0, 0, 0, [])]
noncomputable def e4_value : XN := [(35, 0, 2, 4, F4_push), (38, 1, 1, 4, F4_pop), (42, 1, 3, 99, F4_joined)]
noncomputable def h4_value_17 (n : Nat) (i0 : Nat) (v1 : Int32) (v2 : Int32) (v3 : Int32) (v4 : Int32) (v5 : Int32) (μ : XM) : XR := arr t4_value e4_value 1 83 n 17 [some (xr 4 i0 0), some (xi v1), some (xi v2), some (xi v3), some (xi v4), some (xi v5), none, none, none] [] μ
noncomputable def h4_value_144 (n : Nat) (i0 : Nat) (v1 : Int32) (v2 : Int32) (v3 : Int32) (v4 : Int32) (v5 : Int32) (v6 : Int32) (μ : XM) : XR := arr t4_value e4_value 1 83 n 144 [some (xr 4 i0 0), some (xi v1), some (xi v2), some (xi v3), some (xi v4), some (xi v5), some (xi v6), none, none] [] μ
set_option maxRecDepth 100000 in
theorem h4_value_17_s (n : Nat) (i0 : Nat) (v1 : Int32) (v2 : Int32) (v3 : Int32) (v4 : Int32) (v5 : Int32) (μ : XM) : h4_value_17 (n + 1) i0 v1 v2 v3 v4 v5 μ = (
  xite (v5 < (rI μ 4 i0 1)) (
    xite (v5 < (nI 1000)) (
      xck (xin v5 1000) <|
      vI (aI μ 4 i0 0 (Int32.toNatClampNeg v5)) fun x1 =>
      xite ((-x1) = 148) (
        bI (f4_pop i0 μ) fun r3 m2 =>
        xite (r3 = 0) (
          bV (f4_push i0 1 m2) fun m4 =>
          vI (v5 + 1) fun x5 =>
          h4_value_17 n i0 v1 v2 v3 v4 x5 m4) (
          bV (f4_push i0 0 m2) fun m6 =>
          vI (v5 + 1) fun x7 =>
          h4_value_17 n i0 v1 v2 v3 v4 x7 m6)) (
      xite ((-x1) = 149) (
        h4_value_144 n i0 v1 v2 v3 v4 v5 x1 μ) (
      xite ((-x1) = 150) (
        h4_value_144 n i0 v1 v2 v3 v4 v5 x1 μ) (
      xite ((-x1) = 151) (
        bV (f4_push i0 v1 μ) fun m8 =>
        vI (v5 + 1) fun x9 =>
        h4_value_17 n i0 v1 v2 v3 v4 x9 m8) (
      xite ((-x1) = 152) (
        bV (f4_push i0 v2 μ) fun m10 =>
        vI (v5 + 1) fun x11 =>
        h4_value_17 n i0 v1 v2 v3 v4 x11 m10) (
      xite ((-x1) = 153) (
        bV (f4_push i0 v3 μ) fun m12 =>
        vI (v5 + 1) fun x13 =>
        h4_value_17 n i0 v1 v2 v3 v4 x13 m12) (
      xite ((-x1) = 154) (
        bV (f4_push i0 v4 μ) fun m14 =>
        vI (v5 + 1) fun x15 =>
        h4_value_17 n i0 v1 v2 v3 v4 x15 m14) (
      h4_value_144 n i0 v1 v2 v3 v4 v5 x1 μ)))))))) (
      bI (f4_pop i0 μ) fun r17 m16 =>
      xri r17 m16)) (
    bI (f4_pop i0 μ) fun r19 m18 =>
    xri r19 m18)) := rfl
theorem h4_value_17_0 (i0 : Nat) (v1 : Int32) (v2 : Int32) (v3 : Int32) (v4 : Int32) (v5 : Int32) (μ : XM) : h4_value_17 0 i0 v1 v2 v3 v4 v5 μ = none := rfl
set_option maxRecDepth 100000 in
theorem h4_value_144_s (n : Nat) (i0 : Nat) (v1 : Int32) (v2 : Int32) (v3 : Int32) (v4 : Int32) (v5 : Int32) (v6 : Int32) (μ : XM) : h4_value_144 (n + 1) i0 v1 v2 v3 v4 v5 v6 μ = (
  xite (v6 < 0) (
    bI (f4_pop i0 μ) fun r2 m1 =>
    vI r2 fun x3 =>
    bI (f4_pop i0 m1) fun r5 m4 =>
    vI r5 fun x6 =>
    bI (f4_joined (-v6) x6 x3 m4) fun r8 m7 =>
    bV (f4_push i0 r8 m7) fun m9 =>
    vI (v5 + 1) fun x10 =>
    h4_value_17 n i0 v1 v2 v3 v4 x10 m9) (
    bV (f4_push i0 v6 μ) fun m11 =>
    vI (v5 + 1) fun x12 =>
    h4_value_17 n i0 v1 v2 v3 v4 x12 m11)) := rfl
theorem h4_value_144_0 (i0 : Nat) (v1 : Int32) (v2 : Int32) (v3 : Int32) (v4 : Int32) (v5 : Int32) (v6 : Int32) (μ : XM) : h4_value_144 0 i0 v1 v2 v3 v4 v5 v6 μ = none := rfl
noncomputable def k4_value (n : Nat) (i0 : Nat) (p1 : Int32) (p2 : Int32) (p3 : Int32) (p4 : Int32) (μ : XM) : XR :=
  xite ((rI μ 4 i0 1) = 0) (
    xri p1 μ) (
    mS (sI μ 4 i0 3 0) fun m1 =>
    vI 0 fun x2 =>
    h4_value_17 n i0 p1 p2 p3 p4 x2 m1)
set_option maxRecDepth 100000 in
theorem q4_value (n : Nat) (i0 : Nat) (p1 : Int32) (p2 : Int32) (p3 : Int32) (p4 : Int32) (μ : XM) : xrun t4_value e4_value (xrtk (some .int)) 83 n (xlo [xr 4 i0 0, xi p1, xi p2, xi p3, xi p4] 9) μ = k4_value n i0 p1 p2 p3 p4 μ := rfl
theorem x4_value : ∃ f : Nat → Int32 → Int32 → Int32 → Int32 → XM → XR, ∀ (i0 : Nat) (p1 : Int32) (p2 : Int32) (p3 : Int32) (p4 : Int32) (μ : XM), f i0 p1 p2 p3 p4 μ = k4_value 20000 i0 p1 p2 p3 p4 μ := ⟨fun i0 p1 p2 p3 p4 μ => k4_value 20000 i0 p1 p2 p3 p4 μ, fun i0 p1 p2 p3 p4 μ => rfl⟩
noncomputable def f4_value : Nat → Int32 → Int32 → Int32 → Int32 → XM → XR := Classical.choose x4_value
theorem f4_value_e (i0 : Nat) (p1 : Int32) (p2 : Int32) (p3 : Int32) (p4 : Int32) (μ : XM) : f4_value i0 p1 p2 p3 p4 μ = k4_value 20000 i0 p1 p2 p3 p4 μ := Classical.choose_spec x4_value i0 p1 p2 p3 p4 μ
noncomputable def F4_value : XF := fun av μ => match av with
  | [.inr (.inr (some (t0, i0, 0))), .inl p1, .inl p2, .inl p3, .inl p4] => bif Nat.beq t0 4 then f4_value i0 p1 p2 p3 p4 μ else none
  | _ => none
set_option maxRecDepth 100000 in
theorem c4_value {X : XP} (hX : XOK X) (l : Launch) : Ctr X l y4_value prog_6_method_7_code 9 (some .int) (xrm 2) 0 0 F4_value :=
  Ctr_of (tab := t4_value) (env := e4_value) (K := 83) (N := 20000) (fl := fl4) (cl := cl4) (ll := ll4) (jl := jl4) hX mf4_value.2.2.2 ⟨by decide +kernel, flk4, clk4, llk4, jlk4⟩
   (List.forall_mem_cons.mpr ⟨xcal_v (na := 1) (c4_push hX l) mf4_push ⟨rfl, rfl⟩ ml4_35 mi4_push me4_push (xrm_ok (by omega) (by decide)) rfl (by decide) (by decide +kernel), List.forall_mem_cons.mpr ⟨xcal_v (na := 0) (c4_pop hX l) mf4_pop ⟨rfl, rfl⟩ ml4_38 mi4_pop me4_pop (xrm_ok (by omega) (by decide)) rfl (by decide) (by decide +kernel), List.forall_mem_cons.mpr ⟨xcal_s (c4_joined hX l) mf4_joined ⟨rfl, rfl⟩ ml4_42 ms4_joined (xrm_ok (by omega) (by decide)) (by decide +kernel), fun _ h => absurd h List.not_mem_nil⟩⟩⟩)
   (xrm_1 (by decide)) ⟨_, _, rfl, rfl⟩ (fun av μ r μ' h => by
    unfold F4_value at h
    split at h
    · replace h := cond_inv h; obtain ⟨hb, h⟩ := h
      obtain rfl := Nat.eq_of_beq_eq_true hb
      exact ⟨Nat.le_of_ble_eq_true rfl, (q4_value _ _ _ _ _ _ _).trans ((f4_value_e _ _ _ _ _ _).symm.trans h)⟩
    · cases h)
def t8_rise : List XE := [(0, .aload_n 0, 0, 0, 0, 0, []),
  (1, .iconst 0, 0, 0, 0, 0, []),
  (2, .invokevirtual 130, 2, 8, 0, 0, []),
  (5, .invokestatic 133, 1, 0, 0, 0, []),
  (8, .istore_n 1, 1, 0, 0, 0, []),
  (9, .aload_n 0, 0, 0, 0, 0, []),
  (10, .getfield 24, 8, 0, 0, 0, []),
  (13, .getfield 69, 2, 1, 0, 0, []),
  (16, .aload_n 0, 0, 0, 0, 0, []),
  (17, .invokevirtual 138, 1, 8, 0, 0, []),
  (20, .invokestatic 133, 1, 0, 0, 0, []),
  (23, .isub, 0, 0, 0, 0, []),
  (24, .istore_n 2, 2, 0, 0, 0, []),
  (25, .aload_n 0, 0, 0, 0, 0, []),
  (26, .getfield 24, 8, 0, 0, 0, []),
  (29, .getfield 142, 2, 16, 0, 0, []),
  (32, .aload_n 0, 0, 0, 0, 0, []),
  (33, .getfield 39, 8, 6, 0, 0, []),
  (36, .aload_n 0, 0, 0, 0, 0, []),
  (37, .getfield 43, 8, 7, 0, 0, []),
  (40, .iload_n 1, 1, 0, 0, 0, []),
  (41, .iload_n 2, 2, 0, 0, 0, []),
  (42, .invokevirtual 146, 5, 4, 0, 0, []),
  (45, .istore_n 3, 3, 0, 0, 0, []),
  (46, .bipush (-9), 0, 0, (-9), 0, []),
  (48, .bipush 9, 0, 0, 9, 0, []),
  (50, .iload_n 3, 3, 0, 0, 0, []),
  (51, .invokestatic 152, 0, 2, 0, 0, []),
  (54, .invokestatic 156, 0, 1, 0, 0, []),
  (57, .istore_n 3, 3, 0, 0, 0, []),
  (58, .aload_n 0, 0, 0, 0, 0, []),
  (59, .iconst 0, 0, 0, 0, 0, []),
  (60, .bipush 60, 0, 0, 60, 0, []),
  (62, .aload_n 0, 0, 0, 0, 0, []),
  (63, .getfield 43, 8, 7, 0, 0, []),
  (66, .iload_n 3, 3, 0, 0, 0, []),
  (67, .iadd, 0, 0, 0, 0, []),
  (68, .invokestatic 152, 0, 2, 0, 0, []),
  (71, .invokestatic 156, 0, 1, 0, 0, []),
  (74, .putfield 43, 8, 7, 0, 0, []),
  (77, .return_, 0, 0, 0, 0, [])]
noncomputable def e8_rise : XN := [(130, 1, 2, 8, F8_whoIs), (133, 1, 1, 99, FJ_bitCount), (138, 1, 1, 8, F8_wall), (146, 1, 5, 4, F4_value)]
noncomputable def k8_rise (i0 : Nat) (μ : XM) : XR :=
  bI (f8_whoIs i0 0 μ) fun r2 m1 =>
  bI (fJ_bitCount r2 m1) fun r4 m3 =>
  vI r4 fun x5 =>
  bI (f8_wall i0 m3) fun r7 m6 =>
  bI (fJ_bitCount r7 m6) fun r9 m8 =>
  vI ((rI m3 2 0 1) - r9) fun x10 =>
  bI (f4_value 0 (rI m8 8 i0 6) (rI m8 8 i0 7) x5 x10 m8) fun r12 m11 =>
  vI r12 fun x13 =>
  vI (if (-9) < (if x13 < 9 then x13 else 9) then (if x13 < 9 then x13 else 9) else (-9)) fun x14 =>
  mS (sI m11 8 i0 7 (if 0 < (if ((rI m11 8 i0 7) + x14) < 60 then ((rI m11 8 i0 7) + x14) else 60) then (if ((rI m11 8 i0 7) + x14) < 60 then ((rI m11 8 i0 7) + x14) else 60) else 0)) fun m15 =>
  xrv m15
set_option maxRecDepth 100000 in
theorem q8_rise (n : Nat) (i0 : Nat) (μ : XM) : xrun t8_rise e8_rise (xrtk none) 46 n (xlo [xr 8 i0 0] 4) μ = k8_rise i0 μ := rfl
theorem x8_rise : ∃ f : Nat → XM → XR, ∀ (i0 : Nat) (μ : XM), f i0 μ = k8_rise i0 μ := ⟨fun i0 μ => k8_rise i0 μ, fun i0 μ => rfl⟩
noncomputable def f8_rise : Nat → XM → XR := Classical.choose x8_rise
theorem f8_rise_e (i0 : Nat) (μ : XM) : f8_rise i0 μ = k8_rise i0 μ := Classical.choose_spec x8_rise i0 μ
noncomputable def F8_rise : XF := fun av μ => match av with
  | [.inr (.inr (some (t0, i0, 0)))] => bif Nat.beq t0 8 then f8_rise i0 μ else none
  | _ => none
set_option maxRecDepth 100000 in
theorem c8_rise {X : XP} (hX : XOK X) (l : Launch) : Ctr X l y8_rise prog_10_method_27_code 4 none (xrm 3) 0 0 F8_rise :=
  Ctr_of (tab := t8_rise) (env := e8_rise) (K := 46) (N := 20000) (fl := fl8) (cl := cl8) (ll := ll8) (jl := jl8) hX mf8_rise.2.2.2 ⟨by decide +kernel, flk8, clk8, llk8, jlk8⟩
   (List.forall_mem_cons.mpr ⟨xcal_v (na := 1) (c8_whoIs hX l) mf8_whoIs ⟨rfl, rfl⟩ ml8_130 mi8_whoIs me8_whoIs (xrm_ok (by omega) (by decide)) rfl (by decide) (by decide +kernel), List.forall_mem_cons.mpr ⟨xcal_s (cJ_bitCount hX l) mfJ_bitCount ⟨rfl, rfl⟩ ml8_133 msJ_bitCount (xrm_ok (by omega) (by decide)) (by decide +kernel), List.forall_mem_cons.mpr ⟨xcal_v (na := 0) (c8_wall hX l) mf8_wall ⟨rfl, rfl⟩ ml8_138 mi8_wall me8_wall (xrm_ok (by omega) (by decide)) rfl (by decide) (by decide +kernel), List.forall_mem_cons.mpr ⟨xcal_v (na := 4) (c4_value hX l) mf4_value ⟨rfl, rfl⟩ ml8_146 mi4_value me4_value (xrm_ok (by omega) (by decide)) rfl (by decide) (by decide +kernel), fun _ h => absurd h List.not_mem_nil⟩⟩⟩⟩)
   (xrm_1 (by decide)) ⟨_, _, rfl, rfl⟩ (fun av μ r μ' h => by
    unfold F8_rise at h
    split at h
    · replace h := cond_inv h; obtain ⟨hb, h⟩ := h
      obtain rfl := Nat.eq_of_beq_eq_true hb
      exact ⟨Nat.le_of_ble_eq_true rfl, (q8_rise _ _ _).trans ((f8_rise_e _ _).symm.trans h)⟩
    · cases h)
def t8_pass : List XE := [(0, .iconst 0, 0, 0, 0, 0, []),
  (1, .istore_n 1, 1, 0, 0, 0, []),
  (2, .iconst 0, 0, 0, 0, 0, []),
  (3, .istore_n 2, 2, 0, 0, 0, []),
  (4, .nop, 7, 0, 0, 0, []),
  (4, .iload_n 2, 2, 0, 0, 0, []),
  (5, .aload_n 0, 0, 0, 0, 0, []),
  (6, .getfield 24, 8, 0, 0, 0, []),
  (9, .getfield 59, 2, 0, 0, 0, []),
  (12, .if_icmp .ge 31, 43, 0, 0, 0, []),
  (15, .aload_n 0, 0, 0, 0, 0, []),
  (16, .iload_n 2, 2, 0, 0, 0, []),
  (17, .invokevirtual 114, 2, 8, 0, 0, []),
  (20, .ifCond .eq 17, 37, 0, 0, 0, []),
  (23, .aload_n 0, 0, 0, 0, 0, []),
  (24, .iload_n 2, 2, 0, 0, 0, []),
  (25, .invokevirtual 117, 2, 8, 0, 0, []),
  (28, .ifCond .eq 9, 37, 0, 0, 0, []),
  (31, .iload_n 1, 1, 0, 0, 0, []),
  (32, .iconst 1, 0, 0, 1, 0, []),
  (33, .iload_n 2, 2, 0, 0, 0, []),
  (34, .ishl, 0, 0, 0, 0, []),
  (35, .ior, 0, 0, 0, 0, []),
  (36, .istore_n 1, 1, 0, 0, 0, []),
  (37, .iinc 2 1, 2, 0, 1, 0, []),
  (40, .goto (-36), 4, 0, 0, 0, []),
  (43, .iconst 0, 0, 0, 0, 0, []),
  (44, .istore_n 2, 2, 0, 0, 0, []),
  (45, .nop, 7, 0, 0, 0, []),
  (45, .iload_n 2, 2, 0, 0, 0, []),
  (46, .aload_n 0, 0, 0, 0, 0, []),
  (47, .getfield 24, 8, 0, 0, 0, []),
  (50, .getfield 59, 2, 0, 0, 0, []),
  (53, .if_icmp .ge 22, 75, 0, 0, 0, []),
  (56, .aload_n 0, 0, 0, 0, 0, []),
  (57, .iload_n 2, 2, 0, 0, 0, []),
  (58, .invokevirtual 114, 2, 8, 0, 0, []),
  (61, .ifCond .eq 8, 69, 0, 0, 0, []),
  (64, .aload_n 0, 0, 0, 0, 0, []),
  (65, .iload_n 2, 2, 0, 0, 0, []),
  (66, .invokevirtual 120, 2, 8, 0, 0, []),
  (69, .iinc 2 1, 2, 0, 1, 0, []),
  (72, .goto (-27), 45, 0, 0, 0, []),
  (75, .aload_n 0, 0, 0, 0, 0, []),
  (76, .invokevirtual 124, 1, 8, 0, 0, []),
  (79, .aload_n 0, 0, 0, 0, 0, []),
  (80, .iconst 0, 0, 0, 0, 0, []),
  (81, .putfield 32, 8, 5, 0, 0, []),
  (84, .aload_n 0, 0, 0, 0, 0, []),
  (85, .dup, 0, 0, 0, 0, []),
  (86, .getfield 46, 8, 8, 0, 0, []),
  (89, .iconst 1, 0, 0, 1, 0, []),
  (90, .iadd, 0, 0, 0, 0, []),
  (91, .putfield 46, 8, 8, 0, 0, []),
  (94, .iload_n 1, 1, 0, 0, 0, []),
  (95, .ireturn, 0, 0, 0, 0, [])]
noncomputable def e8_pass : XN := [(114, 1, 2, 8, F8_isIn), (117, 1, 2, 8, F8_drowns), (120, 0, 2, 8, F8_comeNearer), (124, 0, 1, 8, F8_rise)]
noncomputable def h8_pass_4 (n : Nat) (i0 : Nat) (v1 : Int32) (v2 : Int32) (μ : XM) : XR := arr t8_pass e8_pass 1 61 n 4 [some (xr 8 i0 0), some (xi v1), some (xi v2)] [] μ
noncomputable def h8_pass_45 (n : Nat) (i0 : Nat) (v1 : Int32) (v2 : Int32) (μ : XM) : XR := arr t8_pass e8_pass 1 61 n 45 [some (xr 8 i0 0), some (xi v1), some (xi v2)] [] μ
set_option maxRecDepth 100000 in
theorem h8_pass_4_s (n : Nat) (i0 : Nat) (v1 : Int32) (v2 : Int32) (μ : XM) : h8_pass_4 (n + 1) i0 v1 v2 μ = (
  xite (v2 < (rI μ 2 0 0)) (
    bI (f8_isIn i0 v2 μ) fun r2 m1 =>
    xite (r2 = 0) (
      vI (v2 + 1) fun x3 =>
      h8_pass_4 n i0 v1 x3 m1) (
      bI (f8_drowns i0 v2 m1) fun r5 m4 =>
      xite (r5 = 0) (
        vI (v2 + 1) fun x6 =>
        h8_pass_4 n i0 v1 x6 m4) (
        vI (v1 ||| (1 <<< (v2 &&& 31))) fun x7 =>
        vI (v2 + 1) fun x8 =>
        h8_pass_4 n i0 x7 x8 m4))) (
    vI 0 fun x9 =>
    h8_pass_45 n i0 v1 x9 μ)) := rfl
theorem h8_pass_4_0 (i0 : Nat) (v1 : Int32) (v2 : Int32) (μ : XM) : h8_pass_4 0 i0 v1 v2 μ = none := rfl
set_option maxRecDepth 100000 in
theorem h8_pass_45_s (n : Nat) (i0 : Nat) (v1 : Int32) (v2 : Int32) (μ : XM) : h8_pass_45 (n + 1) i0 v1 v2 μ = (
  xite (v2 < (rI μ 2 0 0)) (
    bI (f8_isIn i0 v2 μ) fun r2 m1 =>
    xite (r2 = 0) (
      vI (v2 + 1) fun x3 =>
      h8_pass_45 n i0 v1 x3 m1) (
      bV (f8_comeNearer i0 v2 m1) fun m4 =>
      vI (v2 + 1) fun x5 =>
      h8_pass_45 n i0 v1 x5 m4)) (
    bV (f8_rise i0 μ) fun m6 =>
    mS (sI m6 8 i0 5 0) fun m7 =>
    mS (sI m7 8 i0 8 ((rI m7 8 i0 8) + 1)) fun m8 =>
    xri v1 m8)) := rfl
theorem h8_pass_45_0 (i0 : Nat) (v1 : Int32) (v2 : Int32) (μ : XM) : h8_pass_45 0 i0 v1 v2 μ = none := rfl
noncomputable def k8_pass (n : Nat) (i0 : Nat) (μ : XM) : XR :=
  vI 0 fun x1 =>
  vI 0 fun x2 =>
  h8_pass_4 n i0 x1 x2 μ
set_option maxRecDepth 100000 in
theorem q8_pass (n : Nat) (i0 : Nat) (μ : XM) : xrun t8_pass e8_pass (xrtk (some .int)) 61 n (xlo [xr 8 i0 0] 3) μ = k8_pass n i0 μ := rfl
theorem x8_pass : ∃ f : Nat → XM → XR, ∀ (i0 : Nat) (μ : XM), f i0 μ = k8_pass 20000 i0 μ := ⟨fun i0 μ => k8_pass 20000 i0 μ, fun i0 μ => rfl⟩
noncomputable def f8_pass : Nat → XM → XR := Classical.choose x8_pass
theorem f8_pass_e (i0 : Nat) (μ : XM) : f8_pass i0 μ = k8_pass 20000 i0 μ := Classical.choose_spec x8_pass i0 μ
noncomputable def F8_pass : XF := fun av μ => match av with
  | [.inr (.inr (some (t0, i0, 0)))] => bif Nat.beq t0 8 then f8_pass i0 μ else none
  | _ => none
set_option maxRecDepth 100000 in
theorem c8_pass {X : XP} (hX : XOK X) (l : Launch) : Ctr X l y8_pass prog_10_method_24_code 3 (some .int) (xrm 4) 0 0 F8_pass :=
  Ctr_of (tab := t8_pass) (env := e8_pass) (K := 61) (N := 20000) (fl := fl8) (cl := cl8) (ll := ll8) (jl := jl8) hX mf8_pass.2.2.2 ⟨by decide +kernel, flk8, clk8, llk8, jlk8⟩
   (List.forall_mem_cons.mpr ⟨xcal_v (na := 1) (c8_isIn hX l) mf8_isIn ⟨rfl, rfl⟩ ml8_114 mi8_isIn me8_isIn (xrm_ok (by omega) (by decide)) rfl (by decide) (by decide +kernel), List.forall_mem_cons.mpr ⟨xcal_v (na := 1) (c8_drowns hX l) mf8_drowns ⟨rfl, rfl⟩ ml8_117 mi8_drowns me8_drowns (xrm_ok (by omega) (by decide)) rfl (by decide) (by decide +kernel), List.forall_mem_cons.mpr ⟨xcal_v (na := 1) (c8_comeNearer hX l) mf8_comeNearer ⟨rfl, rfl⟩ ml8_120 mi8_comeNearer me8_comeNearer (xrm_ok (by omega) (by decide)) rfl (by decide) (by decide +kernel), List.forall_mem_cons.mpr ⟨xcal_v (na := 0) (c8_rise hX l) mf8_rise ⟨rfl, rfl⟩ ml8_124 mi8_rise me8_rise (xrm_ok (by omega) (by decide)) rfl (by decide) (by decide +kernel), fun _ h => absurd h List.not_mem_nil⟩⟩⟩⟩)
   (xrm_1 (by decide)) ⟨_, _, rfl, rfl⟩ (fun av μ r μ' h => by
    unfold F8_pass at h
    split at h
    · replace h := cond_inv h; obtain ⟨hb, h⟩ := h
      obtain rfl := Nat.eq_of_beq_eq_true hb
      exact ⟨Nat.le_of_ble_eq_true rfl, (q8_pass _ _ _).trans ((f8_pass_e _ _).symm.trans h)⟩
    · cases h)
def t8_canAsk : List XE := [(0, .aload_n 0, 0, 0, 0, 0, []),
  (1, .getfield 39, 8, 6, 0, 0, []),
  (4, .bipush 9, 0, 0, 9, 0, []),
  (6, .if_icmp .ge 7, 13, 0, 0, 0, []),
  (9, .iconst 1, 0, 0, 1, 0, []),
  (10, .goto 4, 14, 0, 0, 0, []),
  (13, .iconst 0, 0, 0, 0, 0, []),
  (14, .ireturn, 0, 0, 0, 0, [])]
noncomputable def e8_canAsk : XN := []
noncomputable def k8_canAsk (i0 : Nat) (μ : XM) : XR :=
  xite ((rI μ 8 i0 6) < 9) (
    xrb 1 μ) (
    xrb 0 μ)
set_option maxRecDepth 100000 in
theorem q8_canAsk (n : Nat) (i0 : Nat) (μ : XM) : xrun t8_canAsk e8_canAsk (xrtk (some .boolean)) 13 n (xlo [xr 8 i0 0] 1) μ = k8_canAsk i0 μ := rfl
theorem x8_canAsk : ∃ f : Nat → XM → XR, ∀ (i0 : Nat) (μ : XM), f i0 μ = k8_canAsk i0 μ := ⟨fun i0 μ => k8_canAsk i0 μ, fun i0 μ => rfl⟩
noncomputable def f8_canAsk : Nat → XM → XR := Classical.choose x8_canAsk
theorem f8_canAsk_e (i0 : Nat) (μ : XM) : f8_canAsk i0 μ = k8_canAsk i0 μ := Classical.choose_spec x8_canAsk i0 μ
noncomputable def F8_canAsk : XF := fun av μ => match av with
  | [.inr (.inr (some (t0, i0, 0)))] => bif Nat.beq t0 8 then f8_canAsk i0 μ else none
  | _ => none
set_option maxRecDepth 100000 in
theorem c8_canAsk {X : XP} (hX : XOK X) (l : Launch) : Ctr X l y8_canAsk prog_10_method_20_code 1 (some .boolean) (xrm 1) 0 0 F8_canAsk :=
  Ctr_of (tab := t8_canAsk) (env := e8_canAsk) (K := 13) (N := 20000) (fl := fl8) (cl := cl8) (ll := ll8) (jl := jl8) hX mf8_canAsk.2.2.2 ⟨by decide +kernel, flk8, clk8, llk8, jlk8⟩
   (fun _ h => absurd h List.not_mem_nil)
   (xrm_1 (by decide)) ⟨_, _, rfl, rfl⟩ (fun av μ r μ' h => by
    unfold F8_canAsk at h
    split at h
    · replace h := cond_inv h; obtain ⟨hb, h⟩ := h
      obtain rfl := Nat.eq_of_beq_eq_true hb
      exact ⟨Nat.le_of_ble_eq_true rfl, (q8_canAsk _ _ _).trans ((f8_canAsk_e _ _).symm.trans h)⟩
    · cases h)
def t8_openGap : List XE := [(0, .aload_n 0, 0, 0, 0, 0, []),
  (1, .dup, 0, 0, 0, 0, []),
  (2, .getfield 39, 8, 6, 0, 0, []),
  (5, .iconst 1, 0, 0, 1, 0, []),
  (6, .iadd, 0, 0, 0, 0, []),
  (7, .putfield 39, 8, 6, 0, 0, []),
  (10, .return_, 0, 0, 0, 0, [])]
noncomputable def e8_openGap : XN := []
noncomputable def k8_openGap (i0 : Nat) (μ : XM) : XR :=
  mS (sI μ 8 i0 6 ((rI μ 8 i0 6) + 1)) fun m1 =>
  xrv m1
set_option maxRecDepth 100000 in
theorem q8_openGap (n : Nat) (i0 : Nat) (μ : XM) : xrun t8_openGap e8_openGap (xrtk none) 12 n (xlo [xr 8 i0 0] 1) μ = k8_openGap i0 μ := rfl
theorem x8_openGap : ∃ f : Nat → XM → XR, ∀ (i0 : Nat) (μ : XM), f i0 μ = k8_openGap i0 μ := ⟨fun i0 μ => k8_openGap i0 μ, fun i0 μ => rfl⟩
noncomputable def f8_openGap : Nat → XM → XR := Classical.choose x8_openGap
theorem f8_openGap_e (i0 : Nat) (μ : XM) : f8_openGap i0 μ = k8_openGap i0 μ := Classical.choose_spec x8_openGap i0 μ
noncomputable def F8_openGap : XF := fun av μ => match av with
  | [.inr (.inr (some (t0, i0, 0)))] => bif Nat.beq t0 8 then f8_openGap i0 μ else none
  | _ => none
set_option maxRecDepth 100000 in
theorem c8_openGap {X : XP} (hX : XOK X) (l : Launch) : Ctr X l y8_openGap prog_10_method_21_code 1 none (xrm 1) 0 0 F8_openGap :=
  Ctr_of (tab := t8_openGap) (env := e8_openGap) (K := 12) (N := 20000) (fl := fl8) (cl := cl8) (ll := ll8) (jl := jl8) hX mf8_openGap.2.2.2 ⟨by decide +kernel, flk8, clk8, llk8, jlk8⟩
   (fun _ h => absurd h List.not_mem_nil)
   (xrm_1 (by decide)) ⟨_, _, rfl, rfl⟩ (fun av μ r μ' h => by
    unfold F8_openGap at h
    split at h
    · replace h := cond_inv h; obtain ⟨hb, h⟩ := h
      obtain rfl := Nat.eq_of_beq_eq_true hb
      exact ⟨Nat.le_of_ble_eq_true rfl, (q8_openGap _ _ _).trans ((f8_openGap_e _ _).symm.trans h)⟩
    · cases h)
