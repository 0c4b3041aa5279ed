def t12_guests : List XE := [(0, .aload_n 0, 0, 0, 0, 0, []),
  (1, .getfield 91, 12, 10, 0, 0, []),
  (4, .iconst 0, 0, 0, 0, 0, []),
  (5, .iaload, 0, 0, 0, 0, []),
  (6, .ireturn, 0, 0, 0, 0, [])]
noncomputable def e12_guests : XN := []
noncomputable def k12_guests (μ : XM) : XR :=
  xck (xin 0 120) <|
  xri (aI μ 12 0 10 (Int32.toNatClampNeg 0)) μ
set_option maxRecDepth 100000 in
theorem q12_guests (n : Nat) (μ : XM) : xrun t12_guests e12_guests (xrtk (some .int)) 10 n (xlo [xr 12 0 0] 1) μ = k12_guests  μ := rfl
theorem x12_guests : ∃ f : XM → XR, ∀ (μ : XM), f μ = k12_guests  μ := ⟨fun μ => k12_guests  μ, fun μ => rfl⟩
noncomputable def f12_guests : XM → XR := Classical.choose x12_guests
theorem f12_guests_e (μ : XM) : f12_guests μ = k12_guests  μ := Classical.choose_spec x12_guests μ
noncomputable def F12_guests : XF := fun av μ => match av with
  | [.inr (.inr (some (t0, i0, 0)))] => bif Nat.beq t0 12 && Nat.beq i0 0 then f12_guests  μ else none
  | _ => none
set_option maxRecDepth 100000 in
theorem c12_guests {X : XP} (hX : XOK X) (l : Launch) : Ctr X l y12_guests prog_14_method_45_code 1 (some .int) (xrm 1) 0 0 F12_guests :=
  Ctr_of (tab := t12_guests) (env := e12_guests) (K := 10) (N := 20000) (fl := fl12) (cl := cl12) (ll := ll12) (jl := jl12) hX mf12_guests.2.2.2 ⟨by decide +kernel, flk12, clk12, llk12, jlk12⟩
   (fun _ h => absurd h List.not_mem_nil)
   (xrm_1 (by decide)) ⟨_, _, rfl, rfl⟩ (fun av μ r μ' h => by
    unfold F12_guests at h
    split at h
    · replace h := cond_inv h; obtain ⟨hb, h⟩ := h
      simp only [Bool.and_eq_true] at hb
      obtain ⟨g0, g1⟩ := hb
      obtain rfl := Nat.eq_of_beq_eq_true g0
      obtain rfl := Nat.eq_of_beq_eq_true g1
      exact ⟨Nat.le_of_ble_eq_true rfl, (q12_guests _  _).trans ((f12_guests_e  _).symm.trans h)⟩
    · cases h)
def t12_guestOf : List XE := [(0, .aload_n 0, 0, 0, 0, 0, []),
  (1, .getfield 91, 12, 10, 0, 0, []),
  (4, .bipush 6, 0, 0, 6, 0, []),
  (6, .iconst 5, 0, 0, 5, 0, []),
  (7, .iload_n 1, 1, 0, 0, 0, []),
  (8, .imul, 0, 0, 0, 0, []),
  (9, .iadd, 0, 0, 0, 0, []),
  (10, .iload_n 2, 2, 0, 0, 0, []),
  (11, .iadd, 0, 0, 0, 0, []),
  (12, .iaload, 0, 0, 0, 0, []),
  (13, .ireturn, 0, 0, 0, 0, [])]
noncomputable def e12_guestOf : XN := []
noncomputable def k12_guestOf (p1 : Int32) (p2 : Int32) (μ : XM) : XR :=
  xck (xin ((6 + (5 * p1)) + p2) 120) <|
  xri (aI μ 12 0 10 (Int32.toNatClampNeg ((6 + (5 * p1)) + p2))) μ
set_option maxRecDepth 100000 in
theorem q12_guestOf (n : Nat) (p1 : Int32) (p2 : Int32) (μ : XM) : xrun t12_guestOf e12_guestOf (xrtk (some .int)) 16 n (xlo [xr 12 0 0, xi p1, xi p2] 3) μ = k12_guestOf p1 p2 μ := rfl
theorem x12_guestOf : ∃ f : Int32 → Int32 → XM → XR, ∀ (p1 : Int32) (p2 : Int32) (μ : XM), f p1 p2 μ = k12_guestOf p1 p2 μ := ⟨fun p1 p2 μ => k12_guestOf p1 p2 μ, fun p1 p2 μ => rfl⟩
noncomputable def f12_guestOf : Int32 → Int32 → XM → XR := Classical.choose x12_guestOf
theorem f12_guestOf_e (p1 : Int32) (p2 : Int32) (μ : XM) : f12_guestOf p1 p2 μ = k12_guestOf p1 p2 μ := Classical.choose_spec x12_guestOf p1 p2 μ
noncomputable def F12_guestOf : XF := fun av μ => match av with
  | [.inr (.inr (some (t0, i0, 0))), .inl p1, .inl p2] => bif Nat.beq t0 12 && Nat.beq i0 0 then f12_guestOf p1 p2 μ else none
  | _ => none
set_option maxRecDepth 100000 in
theorem c12_guestOf {X : XP} (hX : XOK X) (l : Launch) : Ctr X l y12_guestOf prog_14_method_48_code 3 (some .int) (xrm 1) 0 0 F12_guestOf :=
  Ctr_of (tab := t12_guestOf) (env := e12_guestOf) (K := 16) (N := 20000) (fl := fl12) (cl := cl12) (ll := ll12) (jl := jl12) hX mf12_guestOf.2.2.2 ⟨by decide +kernel, flk12, clk12, llk12, jlk12⟩
   (fun _ h => absurd h List.not_mem_nil)
   (xrm_1 (by decide)) ⟨_, _, rfl, rfl⟩ (fun av μ r μ' h => by
    unfold F12_guestOf at h
    split at h
    · replace h := cond_inv h; obtain ⟨hb, h⟩ := h
      simp only [Bool.and_eq_true] at hb
      obtain ⟨g0, g1⟩ := hb
      obtain rfl := Nat.eq_of_beq_eq_true g0
      obtain rfl := Nat.eq_of_beq_eq_true g1
      exact ⟨Nat.le_of_ble_eq_true rfl, (q12_guestOf _ _ _ _).trans ((f12_guestOf_e _ _ _).symm.trans h)⟩
    · cases h)
def t12_starts : List XE := [(0, .iconst 0, 0, 0, 0, 0, []),
  (1, .istore_n 2, 2, 0, 0, 0, []),
  (2, .nop, 7, 0, 0, 0, []),
  (2, .iload_n 2, 2, 0, 0, 0, []),
  (3, .bipush 30, 0, 0, 30, 0, []),
  (5, .if_icmp .ge 18, 23, 0, 0, 0, []),
  (8, .aload_n 0, 0, 0, 0, 0, []),
  (9, .getfield 121, 12, 24, 0, 0, []),
  (12, .iload_n 1, 1, 0, 0, 0, []),
  (13, .iload_n 2, 2, 0, 0, 0, []),
  (14, .iadd, 0, 0, 0, 0, []),
  (15, .iconst 0, 0, 0, 0, 0, []),
  (16, .iastore, 0, 0, 0, 0, []),
  (17, .iinc 2 1, 2, 0, 1, 0, []),
  (20, .goto (-18), 2, 0, 0, 0, []),
  (23, .aload_n 0, 0, 0, 0, 0, []),
  (24, .getfield 121, 12, 24, 0, 0, []),
  (27, .iload_n 1, 1, 0, 0, 0, []),
  (28, .iconst 1, 0, 0, 1, 0, []),
  (29, .iadd, 0, 0, 0, 0, []),
  (30, .aload_n 0, 0, 0, 0, 0, []),
  (31, .getfield 91, 12, 10, 0, 0, []),
  (34, .iconst 3, 0, 0, 3, 0, []),
  (35, .iaload, 0, 0, 0, 0, []),
  (36, .iastore, 0, 0, 0, 0, []),
  (37, .aload_n 0, 0, 0, 0, 0, []),
  (38, .getfield 121, 12, 24, 0, 0, []),
  (41, .iload_n 1, 1, 0, 0, 0, []),
  (42, .iconst 2, 0, 0, 2, 0, []),
  (43, .iadd, 0, 0, 0, 0, []),
  (44, .aload_n 0, 0, 0, 0, 0, []),
  (45, .getfield 91, 12, 10, 0, 0, []),
  (48, .iconst 4, 0, 0, 4, 0, []),
  (49, .iaload, 0, 0, 0, 0, []),
  (50, .iastore, 0, 0, 0, 0, []),
  (51, .iconst 0, 0, 0, 0, 0, []),
  (52, .istore_n 2, 2, 0, 0, 0, []),
  (53, .nop, 7, 0, 0, 0, []),
  (53, .iload_n 2, 2, 0, 0, 0, []),
  (54, .aload_n 0, 0, 0, 0, 0, []),
  (55, .invokevirtual 282, 1, 12, 0, 0, []),
  (58, .if_icmp .ge 42, 100, 0, 0, 0, []),
  (61, .aload_n 0, 0, 0, 0, 0, []),
  (62, .getfield 121, 12, 24, 0, 0, []),
  (65, .iload_n 1, 1, 0, 0, 0, []),
  (66, .iconst 3, 0, 0, 3, 0, []),
  (67, .iadd, 0, 0, 0, 0, []),
  (68, .iload_n 2, 2, 0, 0, 0, []),
  (69, .iadd, 0, 0, 0, 0, []),
  (70, .aload_n 0, 0, 0, 0, 0, []),
  (71, .iload_n 2, 2, 0, 0, 0, []),
  (72, .iconst 1, 0, 0, 1, 0, []),
  (73, .invokevirtual 286, 3, 12, 0, 0, []),
  (76, .iastore, 0, 0, 0, 0, []),
  (77, .aload_n 0, 0, 0, 0, 0, []),
  (78, .getfield 121, 12, 24, 0, 0, []),
  (81, .iload_n 1, 1, 0, 0, 0, []),
  (82, .bipush 9, 0, 0, 9, 0, []),
  (84, .iadd, 0, 0, 0, 0, []),
  (85, .iload_n 2, 2, 0, 0, 0, []),
  (86, .iadd, 0, 0, 0, 0, []),
  (87, .aload_n 0, 0, 0, 0, 0, []),
  (88, .iload_n 2, 2, 0, 0, 0, []),
  (89, .iconst 3, 0, 0, 3, 0, []),
  (90, .invokevirtual 286, 3, 12, 0, 0, []),
  (93, .iastore, 0, 0, 0, 0, []),
  (94, .iinc 2 1, 2, 0, 1, 0, []),
  (97, .goto (-44), 53, 0, 0, 0, []),
  (100, .iconst 0, 0, 0, 0, 0, []),
  (101, .istore_n 2, 2, 0, 0, 0, []),
  (102, .nop, 7, 0, 0, 0, []),
  (102, .iload_n 2, 2, 0, 0, 0, []),
  (103, .bipush 6, 0, 0, 6, 0, []),
  (105, .if_icmp .ge 21, 126, 0, 0, 0, []),
  (108, .aload_n 0, 0, 0, 0, 0, []),
  (109, .getfield 121, 12, 24, 0, 0, []),
  (112, .iload_n 1, 1, 0, 0, 0, []),
  (113, .bipush 15, 0, 0, 15, 0, []),
  (115, .iadd, 0, 0, 0, 0, []),
  (116, .iload_n 2, 2, 0, 0, 0, []),
  (117, .iadd, 0, 0, 0, 0, []),
  (118, .iconst (-1), 0, 0, (-1), 0, []),
  (119, .iastore, 0, 0, 0, 0, []),
  (120, .iinc 2 1, 2, 0, 1, 0, []),
  (123, .goto (-21), 102, 0, 0, 0, []),
  (126, .return_, 0, 0, 0, 0, [])]
noncomputable def e12_starts : XN := [(282, 1, 1, 12, F12_guests), (286, 1, 3, 12, F12_guestOf)]
noncomputable def h12_starts_2 (n : Nat) (v1 : Int32) (v2 : Int32) (μ : XM) : XR := arr t12_starts e12_starts 0 91 n 2 [some (xr 12 0 0), some (xi v1), some (xi v2)] [] μ
noncomputable def h12_starts_53 (n : Nat) (v1 : Int32) (v2 : Int32) (μ : XM) : XR := arr t12_starts e12_starts 0 91 n 53 [some (xr 12 0 0), some (xi v1), some (xi v2)] [] μ
noncomputable def h12_starts_102 (n : Nat) (v1 : Int32) (v2 : Int32) (μ : XM) : XR := arr t12_starts e12_starts 0 91 n 102 [some (xr 12 0 0), some (xi v1), some (xi v2)] [] μ
set_option maxRecDepth 100000 in
theorem h12_starts_2_s (n : Nat) (v1 : Int32) (v2 : Int32) (μ : XM) : h12_starts_2 (n + 1) v1 v2 μ = (
  xite (v2 < 30) (
    xck (xin (v1 + v2) 1081 && true) <|
    mS (pI μ 12 0 24 (Int32.toNatClampNeg (v1 + v2)) 0) fun m1 =>
    vI (v2 + 1) fun x2 =>
    h12_starts_2 n v1 x2 m1) (
    xck (xin 3 120) <|
    xck (xin (v1 + 1) 1081 && true) <|
    mS (pI μ 12 0 24 (Int32.toNatClampNeg (v1 + 1)) (aI μ 12 0 10 (Int32.toNatClampNeg 3))) fun m3 =>
    xck (xin 4 120) <|
    xck (xin (v1 + 2) 1081 && true) <|
    mS (pI m3 12 0 24 (Int32.toNatClampNeg (v1 + 2)) (aI m3 12 0 10 (Int32.toNatClampNeg 4))) fun m4 =>
    vI 0 fun x5 =>
    h12_starts_53 n v1 x5 m4)) := rfl
theorem h12_starts_2_0 (v1 : Int32) (v2 : Int32) (μ : XM) : h12_starts_2 0 v1 v2 μ = none := rfl
set_option maxRecDepth 100000 in
theorem h12_starts_53_s (n : Nat) (v1 : Int32) (v2 : Int32) (μ : XM) : h12_starts_53 (n + 1) v1 v2 μ = (
  bI (f12_guests μ) fun r2 m1 =>
  xite (v2 < r2) (
    bI (f12_guestOf v2 1 m1) fun r4 m3 =>
    xck (xin ((v1 + 3) + v2) 1081 && true) <|
    mS (pI m3 12 0 24 (Int32.toNatClampNeg ((v1 + 3) + v2)) r4) fun m5 =>
    bI (f12_guestOf v2 3 m5) fun r7 m6 =>
    xck (xin ((v1 + 9) + v2) 1081 && true) <|
    mS (pI m6 12 0 24 (Int32.toNatClampNeg ((v1 + 9) + v2)) r7) fun m8 =>
    vI (v2 + 1) fun x9 =>
    h12_starts_53 n v1 x9 m8) (
    vI 0 fun x10 =>
    h12_starts_102 n v1 x10 m1)) := rfl
theorem h12_starts_53_0 (v1 : Int32) (v2 : Int32) (μ : XM) : h12_starts_53 0 v1 v2 μ = none := rfl
set_option maxRecDepth 100000 in
theorem h12_starts_102_s (n : Nat) (v1 : Int32) (v2 : Int32) (μ : XM) : h12_starts_102 (n + 1) v1 v2 μ = (
  xite (v2 < 6) (
    xck (xin ((v1 + 15) + v2) 1081 && true) <|
    mS (pI μ 12 0 24 (Int32.toNatClampNeg ((v1 + 15) + v2)) (-1)) fun m1 =>
    vI (v2 + 1) fun x2 =>
    h12_starts_102 n v1 x2 m1) (
    xrv μ)) := rfl
theorem h12_starts_102_0 (v1 : Int32) (v2 : Int32) (μ : XM) : h12_starts_102 0 v1 v2 μ = none := rfl
noncomputable def k12_starts (n : Nat) (p1 : Int32) (μ : XM) : XR :=
  vI 0 fun x1 =>
  h12_starts_2 n p1 x1 μ
set_option maxRecDepth 100000 in
theorem q12_starts (n : Nat) (p1 : Int32) (μ : XM) : xrun t12_starts e12_starts (xrtk none) 91 n (xlo [xr 12 0 0, xi p1] 3) μ = k12_starts n p1 μ := rfl
theorem x12_starts : ∃ f : Int32 → XM → XR, ∀ (p1 : Int32) (μ : XM), f p1 μ = k12_starts 20000 p1 μ := ⟨fun p1 μ => k12_starts 20000 p1 μ, fun p1 μ => rfl⟩
noncomputable def f12_starts : Int32 → XM → XR := Classical.choose x12_starts
theorem f12_starts_e (p1 : Int32) (μ : XM) : f12_starts p1 μ = k12_starts 20000 p1 μ := Classical.choose_spec x12_starts p1 μ
noncomputable def F12_starts : XF := fun av μ => match av with
  | [.inr (.inr (some (t0, i0, 0))), .inl p1] => bif Nat.beq t0 12 && Nat.beq i0 0 then f12_starts p1 μ else none
  | _ => none
set_option maxRecDepth 100000 in
theorem c12_starts {X : XP} (hX : XOK X) (l : Launch) : Ctr X l y12_starts prog_14_method_42_code 3 none (xrm 2) 0 0 F12_starts :=
  Ctr_of (tab := t12_starts) (env := e12_starts) (K := 91) (N := 20000) (fl := fl12) (cl := cl12) (ll := ll12) (jl := jl12) hX mf12_starts.2.2.2 ⟨by decide +kernel, flk12, clk12, llk12, jlk12⟩
   (List.forall_mem_cons.mpr ⟨xcal_v (na := 0) (c12_guests hX l) mf12_guests ⟨rfl, rfl⟩ ml12_282 mi12_guests me12_guests (xrm_ok (by omega) (by decide)) rfl (by decide) (by decide +kernel), List.forall_mem_cons.mpr ⟨xcal_v (na := 2) (c12_guestOf hX l) mf12_guestOf ⟨rfl, rfl⟩ ml12_286 mi12_guestOf me12_guestOf (xrm_ok (by omega) (by decide)) rfl (by decide) (by decide +kernel), fun _ h => absurd h List.not_mem_nil⟩⟩)
   (xrm_1 (by decide)) ⟨_, _, rfl, rfl⟩ (fun av μ r μ' h => by
    unfold F12_starts at h
    split at h
    · replace h := cond_inv h; obtain ⟨hb, h⟩ := h
      simp only [Bool.and_eq_true] at hb
      obtain ⟨g0, g1⟩ := hb
      obtain rfl := Nat.eq_of_beq_eq_true g0
      obtain rfl := Nat.eq_of_beq_eq_true g1
      exact ⟨Nat.le_of_ble_eq_true rfl, (q12_starts _ _ _).trans ((f12_starts_e _ _).symm.trans h)⟩
    · cases h)
def t12_begins : List XE := [(0, .aload_n 0, 0, 0, 0, 0, []),
  (1, .iconst 0, 0, 0, 0, 0, []),
  (2, .invokevirtual 289, 2, 12, 0, 0, []),
  (5, .aload_n 0, 0, 0, 0, 0, []),
  (6, .getfield 121, 12, 24, 0, 0, []),
  (9, .bipush 30, 0, 0, 30, 0, []),
  (11, .iconst 0, 0, 0, 0, 0, []),
  (12, .iastore, 0, 0, 0, 0, []),
  (13, .aload_n 0, 0, 0, 0, 0, []),
  (14, .getfield 112, 12, 21, 0, 0, []),
  (17, .iconst 0, 0, 0, 0, 0, []),
  (18, .iconst 0, 0, 0, 0, 0, []),
  (19, .iastore, 0, 0, 0, 0, []),
  (20, .aload_n 0, 0, 0, 0, 0, []),
  (21, .iconst 0, 0, 0, 0, 0, []),
  (22, .putfield 292, 12, 25, 0, 0, []),
  (25, .iconst 0, 0, 0, 0, 0, []),
  (26, .istore_n 1, 1, 0, 0, 0, []),
  (27, .nop, 3, 0, 0, 0, []),
  (27, .iload_n 1, 1, 0, 0, 0, []),
  (28, .iconst 4, 0, 0, 4, 0, []),
  (29, .if_icmp .ge 16, 45, 0, 0, 0, []),
  (32, .aload_n 0, 0, 0, 0, 0, []),
  (33, .getfield 124, 12, 26, 0, 0, []),
  (36, .iload_n 1, 1, 0, 0, 0, []),
  (37, .iconst 0, 0, 0, 0, 0, []),
  (38, .bastore, 0, 0, 0, 0, []),
  (39, .iinc 1 1, 1, 0, 1, 0, []),
  (42, .goto (-15), 27, 0, 0, 0, []),
  (45, .return_, 0, 0, 0, 0, [])]
noncomputable def e12_begins : XN := [(289, 0, 2, 12, F12_starts)]
noncomputable def h12_begins_27 (n : Nat) (v1 : Int32) (μ : XM) : XR := arr t12_begins e12_begins 0 35 n 27 [some (xr 12 0 0), some (xi v1)] [] μ
set_option maxRecDepth 100000 in
theorem h12_begins_27_s (n : Nat) (v1 : Int32) (μ : XM) : h12_begins_27 (n + 1) v1 μ = (
  xite (v1 < 4) (
    xck (xin v1 4 && xbl 0) <|
    mS (pI μ 12 0 26 (Int32.toNatClampNeg v1) 0) fun m1 =>
    vI (v1 + 1) fun x2 =>
    h12_begins_27 n x2 m1) (
    xrv μ)) := rfl
theorem h12_begins_27_0 (v1 : Int32) (μ : XM) : h12_begins_27 0 v1 μ = none := rfl
noncomputable def k12_begins (n : Nat) (μ : XM) : XR :=
  bV (f12_starts 0 μ) fun m1 =>
  xck (xin 30 1081 && true) <|
  mS (pI m1 12 0 24 (Int32.toNatClampNeg 30) 0) fun m2 =>
  xck (xin 0 330 && true) <|
  mS (pI m2 12 0 21 (Int32.toNatClampNeg 0) 0) fun m3 =>
  mS (sI m3 12 0 25 0) fun m4 =>
  vI 0 fun x5 =>
  h12_begins_27 n x5 m4
set_option maxRecDepth 100000 in
theorem q12_begins (n : Nat) (μ : XM) : xrun t12_begins e12_begins (xrtk none) 35 n (xlo [xr 12 0 0] 2) μ = k12_begins n  μ := rfl
theorem x12_begins : ∃ f : XM → XR, ∀ (μ : XM), f μ = k12_begins 20000  μ := ⟨fun μ => k12_begins 20000  μ, fun μ => rfl⟩
noncomputable def f12_begins : XM → XR := Classical.choose x12_begins
theorem f12_begins_e (μ : XM) : f12_begins μ = k12_begins 20000  μ := Classical.choose_spec x12_begins μ
noncomputable def F12_begins : XF := fun av μ => match av with
  | [.inr (.inr (some (t0, i0, 0)))] => bif Nat.beq t0 12 && Nat.beq i0 0 then f12_begins  μ else none
  | _ => none
set_option maxRecDepth 100000 in
theorem c12_begins {X : XP} (hX : XOK X) (l : Launch) : Ctr X l y12_begins prog_14_method_43_code 2 none (xrm 3) 0 0 F12_begins :=
  Ctr_of (tab := t12_begins) (env := e12_begins) (K := 35) (N := 20000) (fl := fl12) (cl := cl12) (ll := ll12) (jl := jl12) hX mf12_begins.2.2.2 ⟨by decide +kernel, flk12, clk12, llk12, jlk12⟩
   (List.forall_mem_cons.mpr ⟨xcal_v (na := 1) (c12_starts hX l) mf12_starts ⟨rfl, rfl⟩ ml12_289 mi12_starts me12_starts (xrm_ok (by omega) (by decide)) rfl (by decide) (by decide +kernel), fun _ h => absurd h List.not_mem_nil⟩)
   (xrm_1 (by decide)) ⟨_, _, rfl, rfl⟩ (fun av μ r μ' h => by
    unfold F12_begins at h
    split at h
    · replace h := cond_inv h; obtain ⟨hb, h⟩ := h
      simp only [Bool.and_eq_true] at hb
      obtain ⟨g0, g1⟩ := hb
      obtain rfl := Nat.eq_of_beq_eq_true g0
      obtain rfl := Nat.eq_of_beq_eq_true g1
      exact ⟨Nat.le_of_ble_eq_true rfl, (q12_begins _  _).trans ((f12_begins_e  _).symm.trans h)⟩
    · cases h)
def t12_room : List XE := [(0, .aload_n 0, 0, 0, 0, 0, []),
  (1, .iconst 0, 0, 0, 0, 0, []),
  (2, .putfield 1, 12, 0, 0, 0, []),
  (5, .aload_n 0, 0, 0, 0, 0, []),
  (6, .invokevirtual 219, 1, 12, 0, 0, []),
  (9, .aload_n 0, 0, 0, 0, 0, []),
  (10, .iconst 0, 0, 0, 0, 0, []),
  (11, .putfield 222, 12, 13, 0, 0, []),
  (14, .aload_n 0, 0, 0, 0, 0, []),
  (15, .iconst 0, 0, 0, 0, 0, []),
  (16, .putfield 201, 12, 19, 0, 0, []),
  (19, .aload_n 0, 0, 0, 0, 0, []),
  (20, .iconst 0, 0, 0, 0, 0, []),
  (21, .putfield 225, 12, 20, 0, 0, []),
  (24, .aload_n 0, 0, 0, 0, 0, []),
  (25, .bipush 60, 0, 0, 60, 0, []),
  (27, .invokevirtual 143, 2, 12, 0, 0, []),
  (30, .nop, 1, 0, 0, 0, []),
  (30, .aload_n 0, 0, 0, 0, 0, []),
  (31, .getfield 176, 12, 8, 0, 0, []),
  (34, .ifCond .ne 28, 62, 0, 0, 0, []),
  (37, .aload_n 0, 0, 0, 0, 0, []),
  (38, .getfield 24, 12, 4, 0, 0, []),
  (41, .aload_n 0, 0, 0, 0, 0, []),
  (42, .getfield 173, 12, 7, 0, 0, []),
  (45, .iaload, 0, 0, 0, 0, []),
  (46, .ifCond .eq 16, 62, 0, 0, 0, []),
  (49, .aload_n 0, 0, 0, 0, 0, []),
  (50, .invokevirtual 228, 1, 12, 0, 0, []),
  (53, .aload_n 0, 0, 0, 0, 0, []),
  (54, .bipush 59, 0, 0, 59, 0, []),
  (56, .invokevirtual 231, 2, 12, 0, 0, []),
  (59, .goto (-29), 30, 0, 0, 0, []),
  (62, .aload_n 0, 0, 0, 0, 0, []),
  (63, .getfield 176, 12, 8, 0, 0, []),
  (66, .ifCond .le 8, 74, 0, 0, 0, []),
  (69, .aload_n 0, 0, 0, 0, 0, []),
  (70, .getfield 176, 12, 8, 0, 0, []),
  (73, .ireturn, 0, 0, 0, 0, []),
  (74, .iconst 0, 0, 0, 0, 0, []),
  (75, .istore_n 1, 1, 0, 0, 0, []),
  (76, .nop, 3, 0, 0, 0, []),
  (76, .iload_n 1, 1, 0, 0, 0, []),
  (77, .bipush 60, 0, 0, 60, 0, []),
  (79, .if_icmp .ge 24, 103, 0, 0, 0, []),
  (82, .aload_n 0, 0, 0, 0, 0, []),
  (83, .getfield 91, 12, 10, 0, 0, []),
  (86, .iload_n 1, 1, 0, 0, 0, []),
  (87, .aload_n 0, 0, 0, 0, 0, []),
  (88, .getfield 91, 12, 10, 0, 0, []),
  (91, .bipush 60, 0, 0, 60, 0, []),
  (93, .iload_n 1, 1, 0, 0, 0, []),
  (94, .iadd, 0, 0, 0, 0, []),
  (95, .iaload, 0, 0, 0, 0, []),
  (96, .iastore, 0, 0, 0, 0, []),
  (97, .iinc 1 1, 1, 0, 1, 0, []),
  (100, .goto (-24), 76, 0, 0, 0, []),
  (103, .iconst 0, 0, 0, 0, 0, []),
  (104, .istore_n 1, 1, 0, 0, 0, []),
  (105, .nop, 3, 0, 0, 0, []),
  (105, .iload_n 1, 1, 0, 0, 0, []),
  (106, .aload_n 0, 0, 0, 0, 0, []),
  (107, .getfield 222, 12, 13, 0, 0, []),
  (110, .if_icmp .ge 41, 151, 0, 0, 0, []),
  (113, .aload_n 0, 0, 0, 0, 0, []),
  (114, .getfield 94, 12, 11, 0, 0, []),
  (117, .iload_n 1, 1, 0, 0, 0, []),
  (118, .aload_n 0, 0, 0, 0, 0, []),
  (119, .getfield 94, 12, 11, 0, 0, []),
  (122, .sipush 1100, 0, 0, 1100, 0, []),
  (125, .iload_n 1, 1, 0, 0, 0, []),
  (126, .iadd, 0, 0, 0, 0, []),
  (127, .iaload, 0, 0, 0, 0, []),
  (128, .iastore, 0, 0, 0, 0, []),
  (129, .aload_n 0, 0, 0, 0, 0, []),
  (130, .getfield 97, 12, 12, 0, 0, []),
  (133, .iload_n 1, 1, 0, 0, 0, []),
  (134, .aload_n 0, 0, 0, 0, 0, []),
  (135, .getfield 97, 12, 12, 0, 0, []),
  (138, .sipush 1100, 0, 0, 1100, 0, []),
  (141, .iload_n 1, 1, 0, 0, 0, []),
  (142, .iadd, 0, 0, 0, 0, []),
  (143, .iaload, 0, 0, 0, 0, []),
  (144, .iastore, 0, 0, 0, 0, []),
  (145, .iinc 1 1, 1, 0, 1, 0, []),
  (148, .goto (-43), 105, 0, 0, 0, []),
  (151, .iconst 0, 0, 0, 0, 0, []),
  (152, .istore_n 1, 1, 0, 0, 0, []),
  (153, .nop, 3, 0, 0, 0, []),
  (153, .iload_n 1, 1, 0, 0, 0, []),
  (154, .aload_n 0, 0, 0, 0, 0, []),
  (155, .getfield 201, 12, 19, 0, 0, []),
  (158, .if_icmp .ge 33, 191, 0, 0, 0, []),
  (161, .aload_n 0, 0, 0, 0, 0, []),
  (162, .getfield 100, 12, 14, 0, 0, []),
  (165, .iload_n 1, 1, 0, 0, 0, []),
  (166, .aload_n 0, 0, 0, 0, 0, []),
  (167, .getfield 103, 12, 15, 0, 0, []),
  (170, .iload_n 1, 1, 0, 0, 0, []),
  (171, .laload, 0, 0, 0, 0, []),
  (172, .lastore, 0, 0, 0, 0, []),
  (173, .aload_n 0, 0, 0, 0, 0, []),
  (174, .getfield 106, 12, 16, 0, 0, []),
  (177, .iload_n 1, 1, 0, 0, 0, []),
  (178, .aload_n 0, 0, 0, 0, 0, []),
  (179, .getfield 109, 12, 17, 0, 0, []),
  (182, .iload_n 1, 1, 0, 0, 0, []),
  (183, .iaload, 0, 0, 0, 0, []),
  (184, .iastore, 0, 0, 0, 0, []),
  (185, .iinc 1 1, 1, 0, 1, 0, []),
  (188, .goto (-35), 153, 0, 0, 0, []),
  (191, .aload_n 0, 0, 0, 0, 0, []),
  (192, .aload_n 0, 0, 0, 0, 0, []),
  (193, .getfield 201, 12, 19, 0, 0, []),
  (196, .putfield 204, 12, 18, 0, 0, []),
  (199, .aload_n 0, 0, 0, 0, 0, []),
  (200, .invokevirtual 147, 1, 12, 0, 0, []),
  (203, .iconst 0, 0, 0, 0, 0, []),
  (204, .ireturn, 0, 0, 0, 0, [])]
noncomputable def e12_room : XN := [(219, 0, 1, 12, F12_cutAll), (143, 0, 2, 12, F12_standsAsAlways), (228, 0, 1, 12, F12_readLine), (231, 0, 2, 12, F12_takeSign), (147, 0, 1, 12, F12_begins)]
noncomputable def h12_room_30 (n : Nat) (μ : XM) : XR := arr t12_room e12_room 1 124 n 30 [some (xr 12 0 0), none] [] μ
noncomputable def h12_room_76 (n : Nat) (v1 : Int32) (μ : XM) : XR := arr t12_room e12_room 1 124 n 76 [some (xr 12 0 0), some (xi v1)] [] μ
noncomputable def h12_room_105 (n : Nat) (v1 : Int32) (μ : XM) : XR := arr t12_room e12_room 1 124 n 105 [some (xr 12 0 0), some (xi v1)] [] μ
noncomputable def h12_room_153 (n : Nat) (v1 : Int32) (μ : XM) : XR := arr t12_room e12_room 1 124 n 153 [some (xr 12 0 0), some (xi v1)] [] μ
set_option maxRecDepth 100000 in
theorem h12_room_30_s (n : Nat) (μ : XM) : h12_room_30 (n + 1)  μ = (
  xite ((rI μ 12 0 8) = 0) (
    xck (xin (rI μ 12 0 7) 1002) <|
    xite ((aI μ 12 0 4 (Int32.toNatClampNeg (rI μ 12 0 7))) = 0) (
      xite ((0 : Int32) < (rI μ 12 0 8)) (
        xri (rI μ 12 0 8) μ) (
        vI 0 fun x1 =>
        h12_room_76 n x1 μ)) (
      bV (f12_readLine μ) fun m2 =>
      bV (f12_takeSign 59 m2) fun m3 =>
      h12_room_30 n m3)) (
    xite ((0 : Int32) < (rI μ 12 0 8)) (
      xri (rI μ 12 0 8) μ) (
      vI 0 fun x4 =>
      h12_room_76 n x4 μ))) := rfl
theorem h12_room_30_0 (μ : XM) : h12_room_30 0  μ = none := rfl
set_option maxRecDepth 100000 in
theorem h12_room_76_s (n : Nat) (v1 : Int32) (μ : XM) : h12_room_76 (n + 1) v1 μ = (
  xite (v1 < 60) (
    xck (xin (60 + v1) 120) <|
    xck (xin v1 120 && true) <|
    mS (pI μ 12 0 10 (Int32.toNatClampNeg v1) (aI μ 12 0 10 (Int32.toNatClampNeg (60 + v1)))) fun m1 =>
    vI (v1 + 1) fun x2 =>
    h12_room_76 n x2 m1) (
    vI 0 fun x3 =>
    h12_room_105 n x3 μ)) := rfl
theorem h12_room_76_0 (v1 : Int32) (μ : XM) : h12_room_76 0 v1 μ = none := rfl
set_option maxRecDepth 100000 in
theorem h12_room_105_s (n : Nat) (v1 : Int32) (μ : XM) : h12_room_105 (n + 1) v1 μ = (
  xite (v1 < (rI μ 12 0 13)) (
    xck (xin (1100 + v1) 2200) <|
    xck (xin v1 2200 && true) <|
    mS (pI μ 12 0 11 (Int32.toNatClampNeg v1) (aI μ 12 0 11 (Int32.toNatClampNeg (1100 + v1)))) fun m1 =>
    xck (xin (1100 + v1) 2200) <|
    xck (xin v1 2200 && true) <|
    mS (pI m1 12 0 12 (Int32.toNatClampNeg v1) (aI m1 12 0 12 (Int32.toNatClampNeg (1100 + v1)))) fun m2 =>
    vI (v1 + 1) fun x3 =>
    h12_room_105 n x3 m2) (
    vI 0 fun x4 =>
    h12_room_153 n x4 μ)) := rfl
theorem h12_room_105_0 (v1 : Int32) (μ : XM) : h12_room_105 0 v1 μ = none := rfl
set_option maxRecDepth 100000 in
theorem h12_room_153_s (n : Nat) (v1 : Int32) (μ : XM) : h12_room_153 (n + 1) v1 μ = (
  xite (v1 < (rI μ 12 0 19)) (
    xck (xin v1 14) <|
    xck (xin v1 14) <|
    mS (pL μ 12 0 14 (Int32.toNatClampNeg v1) (aL μ 12 0 15 (Int32.toNatClampNeg v1))) fun m1 =>
    xck (xin v1 14) <|
    xck (xin v1 14 && true) <|
    mS (pI m1 12 0 16 (Int32.toNatClampNeg v1) (aI m1 12 0 17 (Int32.toNatClampNeg v1))) fun m2 =>
    vI (v1 + 1) fun x3 =>
    h12_room_153 n x3 m2) (
    mS (sI μ 12 0 18 (rI μ 12 0 19)) fun m4 =>
    bV (f12_begins m4) fun m5 =>
    xri 0 m5)) := rfl
theorem h12_room_153_0 (v1 : Int32) (μ : XM) : h12_room_153 0 v1 μ = none := rfl
noncomputable def k12_room (n : Nat) (μ : XM) : XR :=
  mS (sI μ 12 0 0 0) fun m1 =>
  bV (f12_cutAll m1) fun m2 =>
  mS (sI m2 12 0 13 0) fun m3 =>
  mS (sI m3 12 0 19 0) fun m4 =>
  mS (sI m4 12 0 20 0) fun m5 =>
  bV (f12_standsAsAlways 60 m5) fun m6 =>
  h12_room_30 n m6
set_option maxRecDepth 100000 in
theorem q12_room (n : Nat) (μ : XM) : xrun t12_room e12_room (xrtk (some .int)) 124 n (xlo [xr 12 0 0] 2) μ = k12_room n  μ := rfl
theorem x12_room : ∃ f : XM → XR, ∀ (μ : XM), f μ = k12_room 20000  μ := ⟨fun μ => k12_room 20000  μ, fun μ => rfl⟩
noncomputable def f12_room : XM → XR := Classical.choose x12_room
theorem f12_room_e (μ : XM) : f12_room μ = k12_room 20000  μ := Classical.choose_spec x12_room μ
noncomputable def F12_room : XF := fun av μ => match av with
  | [.inr (.inr (some (t0, i0, 0)))] => bif Nat.beq t0 12 && Nat.beq i0 0 then f12_room  μ else none
  | _ => none
set_option maxRecDepth 100000 in
theorem c12_room {X : XP} (hX : XOK X) (l : Launch) : Ctr X l y12_room prog_14_method_26_code 2 (some .int) (xrm 70) 0 0 F12_room :=
  Ctr_of (tab := t12_room) (env := e12_room) (K := 124) (N := 20000) (fl := fl12) (cl := cl12) (ll := ll12) (jl := jl12) hX mf12_room.2.2.2 ⟨by decide +kernel, flk12, clk12, llk12, jlk12⟩
   (List.forall_mem_cons.mpr ⟨xcal_v (na := 0) (c12_cutAll hX l) mf12_cutAll ⟨rfl, rfl⟩ ml12_219 mi12_cutAll me12_cutAll (xrm_ok (by omega) (by decide)) rfl (by decide) (by decide +kernel), List.forall_mem_cons.mpr ⟨xcal_v (na := 1) (c12_standsAsAlways hX l) mf12_standsAsAlways ⟨rfl, rfl⟩ ml12_143 mi12_standsAsAlways me12_standsAsAlways (xrm_ok (by omega) (by decide)) rfl (by decide) (by decide +kernel), List.forall_mem_cons.mpr ⟨xcal_v (na := 0) (c12_readLine hX l) mf12_readLine ⟨rfl, rfl⟩ ml12_228 mi12_readLine me12_readLine (xrm_ok (by omega) (by decide)) rfl (by decide) (by decide +kernel), List.forall_mem_cons.mpr ⟨xcal_v (na := 1) (c12_takeSign hX l) mf12_takeSign ⟨rfl, rfl⟩ ml12_231 mi12_takeSign me12_takeSign (xrm_ok (by omega) (by decide)) rfl (by decide) (by decide +kernel), List.forall_mem_cons.mpr ⟨xcal_v (na := 0) (c12_begins hX l) mf12_begins ⟨rfl, rfl⟩ ml12_147 mi12_begins me12_begins (xrm_ok (by omega) (by decide)) rfl (by decide) (by decide +kernel), fun _ h => absurd h List.not_mem_nil⟩⟩⟩⟩⟩)
   (xrm_1 (by decide)) ⟨_, _, rfl, rfl⟩ (fun av μ r μ' h => by
    unfold F12_room at h
    split at h
    · replace h := cond_inv h; obtain ⟨hb, h⟩ := h
      simp only [Bool.and_eq_true] at hb
      obtain ⟨g0, g1⟩ := hb
      obtain rfl := Nat.eq_of_beq_eq_true g0
      obtain rfl := Nat.eq_of_beq_eq_true g1
      exact ⟨Nat.le_of_ble_eq_true rfl, (q12_room _  _).trans ((f12_room_e  _).symm.trans h)⟩
    · cases h)
def t12_readEvening : List XE := [(0, .aload_n 0, 0, 0, 0, 0, []),
  (1, .getfield 112, 12, 21, 0, 0, []),
  (4, .iload_n 1, 1, 0, 0, 0, []),
  (5, .iload_n 2, 2, 0, 0, 0, []),
  (6, .iastore, 0, 0, 0, 0, []),
  (7, .aload_n 0, 0, 0, 0, 0, []),
  (8, .getfield 112, 12, 21, 0, 0, []),
  (11, .iload_n 1, 1, 0, 0, 0, []),
  (12, .iconst 1, 0, 0, 1, 0, []),
  (13, .iadd, 0, 0, 0, 0, []),
  (14, .iload_n 2, 2, 0, 0, 0, []),
  (15, .iconst 1, 0, 0, 1, 0, []),
  (16, .if_icmp .eq 8, 24, 0, 0, 0, []),
  (19, .iload_n 2, 2, 0, 0, 0, []),
  (20, .iconst 3, 0, 0, 3, 0, []),
  (21, .if_icmp .ne 12, 33, 0, 0, 0, []),
  (24, .aload_n 0, 0, 0, 0, 0, []),
  (25, .bipush 40, 0, 0, 40, 0, []),
  (27, .invokevirtual 261, 2, 12, 0, 0, []),
  (30, .goto 4, 34, 0, 0, 0, []),
  (33, .iconst 0, 0, 0, 0, 0, []),
  (34, .nop, 7, 0, 0, 0, []),
  (34, .iastore, 0, 0, 0, 0, []),
  (35, .aload_n 0, 0, 0, 0, 0, []),
  (36, .getfield 112, 12, 21, 0, 0, []),
  (39, .iload_n 1, 1, 0, 0, 0, []),
  (40, .iconst 2, 0, 0, 2, 0, []),
  (41, .iadd, 0, 0, 0, 0, []),
  (42, .iload_n 2, 2, 0, 0, 0, []),
  (43, .iconst 1, 0, 0, 1, 0, []),
  (44, .if_icmp .ne 12, 56, 0, 0, 0, []),
  (47, .aload_n 0, 0, 0, 0, 0, []),
  (48, .bipush 20, 0, 0, 20, 0, []),
  (50, .invokevirtual 261, 2, 12, 0, 0, []),
  (53, .goto 4, 57, 0, 0, 0, []),
  (56, .iconst 0, 0, 0, 0, 0, []),
  (57, .nop, 7, 0, 0, 0, []),
  (57, .iastore, 0, 0, 0, 0, []),
  (58, .aload_n 0, 0, 0, 0, 0, []),
  (59, .getfield 112, 12, 21, 0, 0, []),
  (62, .iload_n 1, 1, 0, 0, 0, []),
  (63, .iconst 3, 0, 0, 3, 0, []),
  (64, .iadd, 0, 0, 0, 0, []),
  (65, .iload_n 2, 2, 0, 0, 0, []),
  (66, .iconst 1, 0, 0, 1, 0, []),
  (67, .if_icmp .ne 11, 78, 0, 0, 0, []),
  (70, .aload_n 0, 0, 0, 0, 0, []),
  (71, .iconst 0, 0, 0, 0, 0, []),
  (72, .invokevirtual 261, 2, 12, 0, 0, []),
  (75, .goto 4, 79, 0, 0, 0, []),
  (78, .iconst 0, 0, 0, 0, 0, []),
  (79, .iastore, 0, 0, 0, 0, []),
  (80, .return_, 0, 0, 0, 0, [])]
noncomputable def e12_readEvening : XN := [(261, 1, 2, 12, F12_takeTold)]
noncomputable def h12_readEvening_34 (n : Nat) (v1 : Int32) (v2 : Int32) (s0 : Int32) (s1 : Int32) (μ : XM) : XR := arr t12_readEvening e12_readEvening 0 58 n 34 [some (xr 12 0 0), some (xi v1), some (xi v2)] [xi s0, xi s1, xr 12 0 22] μ
noncomputable def h12_readEvening_57 (n : Nat) (v1 : Int32) (v2 : Int32) (s0 : Int32) (s1 : Int32) (μ : XM) : XR := arr t12_readEvening e12_readEvening 0 58 n 57 [some (xr 12 0 0), some (xi v1), some (xi v2)] [xi s0, xi s1, xr 12 0 22] μ
set_option maxRecDepth 100000 in
theorem h12_readEvening_34_s (n : Nat) (v1 : Int32) (v2 : Int32) (s0 : Int32) (s1 : Int32) (μ : XM) : h12_readEvening_34 (n + 1) v1 v2 s0 s1 μ = (
  xck (xin s1 330 && true) <|
  mS (pI μ 12 0 21 (Int32.toNatClampNeg s1) s0) fun m1 =>
  xite (v2 = 1) (
    bI (f12_takeTold 20 m1) fun r3 m2 =>
    h12_readEvening_57 n v1 v2 r3 (v1 + 2) m2) (
    h12_readEvening_57 n v1 v2 0 (v1 + 2) m1)) := rfl
theorem h12_readEvening_34_0 (v1 : Int32) (v2 : Int32) (s0 : Int32) (s1 : Int32) (μ : XM) : h12_readEvening_34 0 v1 v2 s0 s1 μ = none := rfl
set_option maxRecDepth 100000 in
theorem h12_readEvening_57_s (n : Nat) (v1 : Int32) (v2 : Int32) (s0 : Int32) (s1 : Int32) (μ : XM) : h12_readEvening_57 (n + 1) v1 v2 s0 s1 μ = (
  xck (xin s1 330 && true) <|
  mS (pI μ 12 0 21 (Int32.toNatClampNeg s1) s0) fun m1 =>
  xite (v2 = 1) (
    bI (f12_takeTold 0 m1) fun r3 m2 =>
    xck (xin (v1 + 3) 330 && true) <|
    mS (pI m2 12 0 21 (Int32.toNatClampNeg (v1 + 3)) r3) fun m4 =>
    xrv m4) (
    xck (xin (v1 + 3) 330 && true) <|
    mS (pI m1 12 0 21 (Int32.toNatClampNeg (v1 + 3)) 0) fun m5 =>
    xrv m5)) := rfl
theorem h12_readEvening_57_0 (v1 : Int32) (v2 : Int32) (s0 : Int32) (s1 : Int32) (μ : XM) : h12_readEvening_57 0 v1 v2 s0 s1 μ = none := rfl
noncomputable def k12_readEvening (n : Nat) (p1 : Int32) (p2 : Int32) (μ : XM) : XR :=
  xck (xin p1 330 && true) <|
  mS (pI μ 12 0 21 (Int32.toNatClampNeg p1) p2) fun m1 =>
  xite (p2 = 1) (
    bI (f12_takeTold 40 m1) fun r3 m2 =>
    h12_readEvening_34 n p1 p2 r3 (p1 + 1) m2) (
    xite (p2 = 3) (
      bI (f12_takeTold 40 m1) fun r5 m4 =>
      h12_readEvening_34 n p1 p2 r5 (p1 + 1) m4) (
      h12_readEvening_34 n p1 p2 0 (p1 + 1) m1))
set_option maxRecDepth 100000 in
theorem q12_readEvening (n : Nat) (p1 : Int32) (p2 : Int32) (μ : XM) : xrun t12_readEvening e12_readEvening (xrtk none) 58 n (xlo [xr 12 0 0, xi p1, xi p2] 3) μ = k12_readEvening n p1 p2 μ := rfl
theorem x12_readEvening : ∃ f : Int32 → Int32 → XM → XR, ∀ (p1 : Int32) (p2 : Int32) (μ : XM), f p1 p2 μ = k12_readEvening 20000 p1 p2 μ := ⟨fun p1 p2 μ => k12_readEvening 20000 p1 p2 μ, fun p1 p2 μ => rfl⟩
noncomputable def f12_readEvening : Int32 → Int32 → XM → XR := Classical.choose x12_readEvening
theorem f12_readEvening_e (p1 : Int32) (p2 : Int32) (μ : XM) : f12_readEvening p1 p2 μ = k12_readEvening 20000 p1 p2 μ := Classical.choose_spec x12_readEvening p1 p2 μ
noncomputable def F12_readEvening : XF := fun av μ => match av with
  | [.inr (.inr (some (t0, i0, 0))), .inl p1, .inl p2] => bif Nat.beq t0 12 && Nat.beq i0 0 then f12_readEvening p1 p2 μ else none
  | _ => none
set_option maxRecDepth 100000 in
theorem c12_readEvening {X : XP} (hX : XOK X) (l : Launch) : Ctr X l y12_readEvening prog_14_method_32_code 3 none (xrm 5) 0 0 F12_readEvening :=
  Ctr_of (tab := t12_readEvening) (env := e12_readEvening) (K := 58) (N := 20000) (fl := fl12) (cl := cl12) (ll := ll12) (jl := jl12) hX mf12_readEvening.2.2.2 ⟨by decide +kernel, flk12, clk12, llk12, jlk12⟩
   (List.forall_mem_cons.mpr ⟨xcal_v (na := 1) (c12_takeTold hX l) mf12_takeTold ⟨rfl, rfl⟩ ml12_261 mi12_takeTold me12_takeTold (xrm_ok (by omega) (by decide)) rfl (by decide) (by decide +kernel), fun _ h => absurd h List.not_mem_nil⟩)
   (xrm_1 (by decide)) ⟨_, _, rfl, rfl⟩ (fun av μ r μ' h => by
    unfold F12_readEvening at h
    split at h
    · replace h := cond_inv h; obtain ⟨hb, h⟩ := h
      simp only [Bool.and_eq_true] at hb
      obtain ⟨g0, g1⟩ := hb
      obtain rfl := Nat.eq_of_beq_eq_true g0
      obtain rfl := Nat.eq_of_beq_eq_true g1
      exact ⟨Nat.le_of_ble_eq_true rfl, (q12_readEvening _ _ _ _).trans ((f12_readEvening_e _ _ _).symm.trans h)⟩
    · cases h)
def t12_evening : List XE := [(0, .aload_n 0, 0, 0, 0, 0, []),
  (1, .iconst 0, 0, 0, 0, 0, []),
  (2, .putfield 1, 12, 0, 0, 0, []),
  (5, .aload_n 0, 0, 0, 0, 0, []),
  (6, .invokevirtual 219, 1, 12, 0, 0, []),
  (9, .iconst 0, 0, 0, 0, 0, []),
  (10, .istore_n 1, 1, 0, 0, 0, []),
  (11, .nop, 3, 0, 0, 0, []),
  (11, .aload_n 0, 0, 0, 0, 0, []),
  (12, .getfield 176, 12, 8, 0, 0, []),
  (15, .ifCond .ne 83, 98, 0, 0, 0, []),
  (18, .aload_n 0, 0, 0, 0, 0, []),
  (19, .getfield 24, 12, 4, 0, 0, []),
  (22, .aload_n 0, 0, 0, 0, 0, []),
  (23, .getfield 173, 12, 7, 0, 0, []),
  (26, .iaload, 0, 0, 0, 0, []),
  (27, .ifCond .eq 71, 98, 0, 0, 0, []),
  (30, .aload_n 0, 0, 0, 0, 0, []),
  (31, .bipush 12, 0, 0, 12, 0, []),
  (33, .iconst 4, 0, 0, 4, 0, []),
  (34, .invokevirtual 198, 3, 12, 0, 0, []),
  (37, .istore_n 2, 2, 0, 0, 0, []),
  (38, .iload_n 2, 2, 0, 0, 0, []),
  (39, .ifCond .ge 11, 50, 0, 0, 0, []),
  (42, .aload_n 0, 0, 0, 0, 0, []),
  (43, .iconst 1, 0, 0, 1, 0, []),
  (44, .invokevirtual 182, 2, 12, 0, 0, []),
  (47, .goto 42, 89, 0, 0, 0, []),
  (50, .iload_n 1, 1, 0, 0, 0, []),
  (51, .bipush 40, 0, 0, 40, 0, []),
  (53, .if_icmp .ne 11, 64, 0, 0, 0, []),
  (56, .aload_n 0, 0, 0, 0, 0, []),
  (57, .iconst 5, 0, 0, 5, 0, []),
  (58, .invokevirtual 182, 2, 12, 0, 0, []),
  (61, .goto 28, 89, 0, 0, 0, []),
  (64, .aload_n 0, 0, 0, 0, 0, []),
  (65, .dup, 0, 0, 0, 0, []),
  (66, .getfield 173, 12, 7, 0, 0, []),
  (69, .iconst 1, 0, 0, 1, 0, []),
  (70, .iadd, 0, 0, 0, 0, []),
  (71, .putfield 173, 12, 7, 0, 0, []),
  (74, .aload_n 0, 0, 0, 0, 0, []),
  (75, .sipush 165, 0, 0, 165, 0, []),
  (78, .iconst 4, 0, 0, 4, 0, []),
  (79, .iload_n 1, 1, 0, 0, 0, []),
  (80, .imul, 0, 0, 0, 0, []),
  (81, .iadd, 0, 0, 0, 0, []),
  (82, .iload_n 2, 2, 0, 0, 0, []),
  (83, .invokevirtual 258, 3, 12, 0, 0, []),
  (86, .iinc 1 1, 1, 0, 1, 0, []),
  (89, .aload_n 0, 0, 0, 0, 0, []),
  (90, .bipush 59, 0, 0, 59, 0, []),
  (92, .invokevirtual 231, 2, 12, 0, 0, []),
  (95, .goto (-84), 11, 0, 0, 0, []),
  (98, .aload_n 0, 0, 0, 0, 0, []),
  (99, .getfield 176, 12, 8, 0, 0, []),
  (102, .ifCond .le 8, 110, 0, 0, 0, []),
  (105, .aload_n 0, 0, 0, 0, 0, []),
  (106, .getfield 176, 12, 8, 0, 0, []),
  (109, .ireturn, 0, 0, 0, 0, []),
  (110, .aload_n 0, 0, 0, 0, 0, []),
  (111, .getfield 112, 12, 21, 0, 0, []),
  (114, .iconst 0, 0, 0, 0, 0, []),
  (115, .iload_n 1, 1, 0, 0, 0, []),
  (116, .iastore, 0, 0, 0, 0, []),
  (117, .iconst 0, 0, 0, 0, 0, []),
  (118, .istore_n 2, 2, 0, 0, 0, []),
  (119, .nop, 7, 0, 0, 0, []),
  (119, .iload_n 2, 2, 0, 0, 0, []),
  (120, .iconst 4, 0, 0, 4, 0, []),
  (121, .iload_n 1, 1, 0, 0, 0, []),
  (122, .imul, 0, 0, 0, 0, []),
  (123, .if_icmp .ge 27, 150, 0, 0, 0, []),
  (126, .aload_n 0, 0, 0, 0, 0, []),
  (127, .getfield 112, 12, 21, 0, 0, []),
  (130, .iconst 1, 0, 0, 1, 0, []),
  (131, .iload_n 2, 2, 0, 0, 0, []),
  (132, .iadd, 0, 0, 0, 0, []),
  (133, .aload_n 0, 0, 0, 0, 0, []),
  (134, .getfield 112, 12, 21, 0, 0, []),
  (137, .sipush 165, 0, 0, 165, 0, []),
  (140, .iload_n 2, 2, 0, 0, 0, []),
  (141, .iadd, 0, 0, 0, 0, []),
  (142, .iaload, 0, 0, 0, 0, []),
  (143, .iastore, 0, 0, 0, 0, []),
  (144, .iinc 2 1, 2, 0, 1, 0, []),
  (147, .goto (-28), 119, 0, 0, 0, []),
  (150, .iconst 0, 0, 0, 0, 0, []),
  (151, .ireturn, 0, 0, 0, 0, [])]
noncomputable def e12_evening : XN := [(219, 0, 1, 12, F12_cutAll), (198, 1, 3, 12, F12_wordHere), (182, 0, 2, 12, F12_wrong), (258, 0, 3, 12, F12_readEvening), (231, 0, 2, 12, F12_takeSign)]
noncomputable def h12_evening_11 (n : Nat) (v1 : Int32) (μ : XM) : XR := arr t12_evening e12_evening 1 94 n 11 [some (xr 12 0 0), some (xi v1), none] [] μ
noncomputable def h12_evening_119 (n : Nat) (v1 : Int32) (v2 : Int32) (μ : XM) : XR := arr t12_evening e12_evening 1 94 n 119 [some (xr 12 0 0), some (xi v1), some (xi v2)] [] μ
set_option maxRecDepth 100000 in
theorem h12_evening_11_s (n : Nat) (v1 : Int32) (μ : XM) : h12_evening_11 (n + 1) v1 μ = (
  xite ((rI μ 12 0 8) = 0) (
    xck (xin (rI μ 12 0 7) 1002) <|
    xite ((aI μ 12 0 4 (Int32.toNatClampNeg (rI μ 12 0 7))) = 0) (
      xite ((0 : Int32) < (rI μ 12 0 8)) (
        xri (rI μ 12 0 8) μ) (
        xck (xin 0 330 && true) <|
        mS (pI μ 12 0 21 (Int32.toNatClampNeg 0) v1) fun m1 =>
        vI 0 fun x2 =>
        h12_evening_119 n v1 x2 m1)) (
      bI (f12_wordHere 12 4 μ) fun r4 m3 =>
      vI r4 fun x5 =>
      xite (x5 < 0) (
        bV (f12_wrong 1 m3) fun m6 =>
        bV (f12_takeSign 59 m6) fun m7 =>
        h12_evening_11 n v1 m7) (
        xite (v1 = 40) (
          bV (f12_wrong 5 m3) fun m8 =>
          bV (f12_takeSign 59 m8) fun m9 =>
          h12_evening_11 n v1 m9) (
          mS (sI m3 12 0 7 ((rI m3 12 0 7) + 1)) fun m10 =>
          bV (f12_readEvening (165 + (4 * v1)) x5 m10) fun m11 =>
          vI (v1 + 1) fun x12 =>
          bV (f12_takeSign 59 m11) fun m13 =>
          h12_evening_11 n x12 m13)))) (
    xite ((0 : Int32) < (rI μ 12 0 8)) (
      xri (rI μ 12 0 8) μ) (
      xck (xin 0 330 && true) <|
      mS (pI μ 12 0 21 (Int32.toNatClampNeg 0) v1) fun m14 =>
      vI 0 fun x15 =>
      h12_evening_119 n v1 x15 m14))) := rfl
theorem h12_evening_11_0 (v1 : Int32) (μ : XM) : h12_evening_11 0 v1 μ = none := rfl
set_option maxRecDepth 100000 in
theorem h12_evening_119_s (n : Nat) (v1 : Int32) (v2 : Int32) (μ : XM) : h12_evening_119 (n + 1) v1 v2 μ = (
  xite (v2 < (4 * v1)) (
    xck (xin (165 + v2) 330) <|
    xck (xin (1 + v2) 330 && true) <|
    mS (pI μ 12 0 21 (Int32.toNatClampNeg (1 + v2)) (aI μ 12 0 21 (Int32.toNatClampNeg (165 + v2)))) fun m1 =>
    vI (v2 + 1) fun x2 =>
    h12_evening_119 n v1 x2 m1) (
    xri 0 μ)) := rfl
theorem h12_evening_119_0 (v1 : Int32) (v2 : Int32) (μ : XM) : h12_evening_119 0 v1 v2 μ = none := rfl
noncomputable def k12_evening (n : Nat) (μ : XM) : XR :=
  mS (sI μ 12 0 0 0) fun m1 =>
  bV (f12_cutAll m1) fun m2 =>
  vI 0 fun x3 =>
  h12_evening_11 n x3 m2
set_option maxRecDepth 100000 in
theorem q12_evening (n : Nat) (μ : XM) : xrun t12_evening e12_evening (xrtk (some .int)) 94 n (xlo [xr 12 0 0] 3) μ = k12_evening n  μ := rfl
theorem x12_evening : ∃ f : XM → XR, ∀ (μ : XM), f μ = k12_evening 20000  μ := ⟨fun μ => k12_evening 20000  μ, fun μ => rfl⟩
noncomputable def f12_evening : XM → XR := Classical.choose x12_evening
theorem f12_evening_e (μ : XM) : f12_evening μ = k12_evening 20000  μ := Classical.choose_spec x12_evening μ
noncomputable def F12_evening : XF := fun av μ => match av with
  | [.inr (.inr (some (t0, i0, 0)))] => bif Nat.beq t0 12 && Nat.beq i0 0 then f12_evening  μ else none
  | _ => none
set_option maxRecDepth 100000 in
theorem c12_evening {X : XP} (hX : XOK X) (l : Launch) : Ctr X l y12_evening prog_14_method_31_code 3 (some .int) (xrm 6) 0 0 F12_evening :=
  Ctr_of (tab := t12_evening) (env := e12_evening) (K := 94) (N := 20000) (fl := fl12) (cl := cl12) (ll := ll12) (jl := jl12) hX mf12_evening.2.2.2 ⟨by decide +kernel, flk12, clk12, llk12, jlk12⟩
   (List.forall_mem_cons.mpr ⟨xcal_v (na := 0) (c12_cutAll hX l) mf12_cutAll ⟨rfl, rfl⟩ ml12_219 mi12_cutAll me12_cutAll (xrm_ok (by omega) (by decide)) rfl (by decide) (by decide +kernel), List.forall_mem_cons.mpr ⟨xcal_v (na := 2) (c12_wordHere hX l) mf12_wordHere ⟨rfl, rfl⟩ ml12_198 mi12_wordHere me12_wordHere (xrm_ok (by omega) (by decide)) rfl (by decide) (by decide +kernel), List.forall_mem_cons.mpr ⟨xcal_v (na := 1) (c12_wrong hX l) mf12_wrong ⟨rfl, rfl⟩ ml12_182 mi12_wrong me12_wrong (xrm_ok (by omega) (by decide)) rfl (by decide) (by decide +kernel), List.forall_mem_cons.mpr ⟨xcal_v (na := 2) (c12_readEvening hX l) mf12_readEvening ⟨rfl, rfl⟩ ml12_258 mi12_readEvening me12_readEvening (xrm_ok (by omega) (by decide)) rfl (by decide) (by decide +kernel), List.forall_mem_cons.mpr ⟨xcal_v (na := 1) (c12_takeSign hX l) mf12_takeSign ⟨rfl, rfl⟩ ml12_231 mi12_takeSign me12_takeSign (xrm_ok (by omega) (by decide)) rfl (by decide) (by decide +kernel), fun _ h => absurd h List.not_mem_nil⟩⟩⟩⟩⟩)
   (xrm_1 (by decide)) ⟨_, _, rfl, rfl⟩ (fun av μ r μ' h => by
    unfold F12_evening at h
    split at h
    · replace h := cond_inv h; obtain ⟨hb, h⟩ := h
      simp only [Bool.and_eq_true] at hb
      obtain ⟨g0, g1⟩ := hb
      obtain rfl := Nat.eq_of_beq_eq_true g0
      obtain rfl := Nat.eq_of_beq_eq_true g1
      exact ⟨Nat.le_of_ble_eq_true rfl, (q12_evening _  _).trans ((f12_evening_e  _).symm.trans h)⟩
    · cases h)
def t12_both : List XE := [(0, .iload_n 0, 0, 0, 0, 0, []),
  (1, .tableswitch 87 4 9 #[39, 43, 47, 51, 62, 73], 88, 0, 0, 0, [(4, 40), (5, 44), (6, 48), (7, 52), (8, 63), (9, 74)]),
  (40, .iload_n 1, 1, 0, 0, 0, []),
  (41, .iload_n 2, 2, 0, 0, 0, []),
  (42, .iadd, 0, 0, 0, 0, []),
  (43, .ireturn, 0, 0, 0, 0, []),
  (44, .iload_n 1, 1, 0, 0, 0, []),
  (45, .iload_n 2, 2, 0, 0, 0, []),
  (46, .isub, 0, 0, 0, 0, []),
  (47, .ireturn, 0, 0, 0, 0, []),
  (48, .iload_n 1, 1, 0, 0, 0, []),
  (49, .iload_n 2, 2, 0, 0, 0, []),
  (50, .imul, 0, 0, 0, 0, []),
  (51, .ireturn, 0, 0, 0, 0, []),
  (52, .iload_n 1, 1, 0, 0, 0, []),
  (53, .iload_n 2, 2, 0, 0, 0, []),
  (54, .if_icmp .ge 7, 61, 0, 0, 0, []),
  (57, .iconst 1, 0, 0, 1, 0, []),
  (58, .goto 4, 62, 0, 0, 0, []),
  (61, .iconst 0, 0, 0, 0, 0, []),
  (62, .ireturn, 0, 0, 0, 0, []),
  (63, .iload_n 1, 1, 0, 0, 0, []),
  (64, .iload_n 2, 2, 0, 0, 0, []),
  (65, .if_icmp .ne 7, 72, 0, 0, 0, []),
  (68, .iconst 1, 0, 0, 1, 0, []),
  (69, .goto 4, 73, 0, 0, 0, []),
  (72, .iconst 0, 0, 0, 0, 0, []),
  (73, .ireturn, 0, 0, 0, 0, []),
  (74, .iload_n 1, 1, 0, 0, 0, []),
  (75, .ifCond .eq 11, 86, 0, 0, 0, []),
  (78, .iload_n 2, 2, 0, 0, 0, []),
  (79, .ifCond .eq 7, 86, 0, 0, 0, []),
  (82, .iconst 1, 0, 0, 1, 0, []),
  (83, .goto 4, 87, 0, 0, 0, []),
  (86, .iconst 0, 0, 0, 0, 0, []),
  (87, .ireturn, 0, 0, 0, 0, []),
  (88, .iload_n 1, 1, 0, 0, 0, []),
  (89, .ifCond .ne 7, 96, 0, 0, 0, []),
  (92, .iload_n 2, 2, 0, 0, 0, []),
  (93, .ifCond .eq 7, 100, 0, 0, 0, []),
  (96, .iconst 1, 0, 0, 1, 0, []),
  (97, .goto 4, 101, 0, 0, 0, []),
  (100, .iconst 0, 0, 0, 0, 0, []),
  (101, .ireturn, 0, 0, 0, 0, [])]
noncomputable def e12_both : XN := []
noncomputable def k12_both (p0 : Int32) (p1 : Int32) (p2 : Int32) (μ : XM) : XR :=
  xite (p0 = 4) (
    xri (p1 + p2) μ) (
  xite (p0 = 5) (
    xri (p1 - p2) μ) (
  xite (p0 = 6) (
    xri (p1 * p2) μ) (
  xite (p0 = 7) (
    xite (p1 < p2) (
      xri 1 μ) (
      xri 0 μ)) (
  xite (p0 = 8) (
    xite (p1 = p2) (
      xri 1 μ) (
      xri 0 μ)) (
  xite (p0 = 9) (
    xite (p1 = 0) (
      xri 0 μ) (
      xite (p2 = 0) (
        xri 0 μ) (
        xri 1 μ))) (
  xite (p1 = 0) (
    xite (p2 = 0) (
      xri 0 μ) (
      xri 1 μ)) (
    xri 1 μ)))))))
set_option maxRecDepth 100000 in
theorem q12_both (n : Nat) (p0 : Int32) (p1 : Int32) (p2 : Int32) (μ : XM) : xrun t12_both e12_both (xrtk (some .int)) 49 n (xlo [xi p0, xi p1, xi p2] 3) μ = k12_both p0 p1 p2 μ := rfl
theorem x12_both : ∃ f : Int32 → Int32 → Int32 → XM → XR, ∀ (p0 : Int32) (p1 : Int32) (p2 : Int32) (μ : XM), f p0 p1 p2 μ = k12_both p0 p1 p2 μ := ⟨fun p0 p1 p2 μ => k12_both p0 p1 p2 μ, fun p0 p1 p2 μ => rfl⟩
noncomputable def f12_both : Int32 → Int32 → Int32 → XM → XR := Classical.choose x12_both
theorem f12_both_e (p0 : Int32) (p1 : Int32) (p2 : Int32) (μ : XM) : f12_both p0 p1 p2 μ = k12_both p0 p1 p2 μ := Classical.choose_spec x12_both p0 p1 p2 μ
noncomputable def F12_both : XF := fun av μ => match av with
  | [.inl p0, .inl p1, .inl p2] => f12_both p0 p1 p2 μ
  | _ => none
set_option maxRecDepth 100000 in
theorem c12_both {X : XP} (hX : XOK X) (l : Launch) : Ctr X l y12_both prog_14_method_40_code 3 (some .int) (xrm 1) 0 0 F12_both :=
  Ctr_of (tab := t12_both) (env := e12_both) (K := 49) (N := 20000) (fl := fl12) (cl := cl12) (ll := ll12) (jl := jl12) hX mf12_both.2.2.2 ⟨by decide +kernel, flk12, clk12, llk12, jlk12⟩
   (fun _ h => absurd h List.not_mem_nil)
   (xrm_1 (by decide)) ⟨_, _, rfl, rfl⟩ (fun av μ r μ' h => by
    unfold F12_both at h
    split at h
    · exact ⟨Nat.le_of_ble_eq_true rfl, (q12_both _ _ _ _ _).trans ((f12_both_e _ _ _ _).symm.trans h)⟩
    · cases h)
def t12_worthAt : List XE := [(0, .iconst 0, 0, 0, 0, 0, []),
  (1, .istore_n 2, 2, 0, 0, 0, []),
  (2, .iload_n 1, 1, 0, 0, 0, []),
  (3, .istore_n 3, 3, 0, 0, 0, []),
  (4, .nop, 13, 0, 0, 0, []),
  (4, .aload_n 0, 0, 0, 0, 0, []),
  (5, .getfield 94, 12, 11, 0, 0, []),
  (8, .iload_n 3, 3, 0, 0, 0, []),
  (9, .iaload, 0, 0, 0, 0, []),
  (10, .ifCond .eq 130, 140, 0, 0, 0, []),
  (13, .aload_n 0, 0, 0, 0, 0, []),
  (14, .getfield 94, 12, 11, 0, 0, []),
  (17, .iload_n 3, 3, 0, 0, 0, []),
  (18, .iaload, 0, 0, 0, 0, []),
  (19, .istore 4, 4, 0, 0, 0, []),
  (21, .iload 4, 4, 0, 0, 0, []),
  (23, .iconst 1, 0, 0, 1, 0, []),
  (24, .if_icmp .eq 9, 33, 0, 0, 0, []),
  (27, .iload 4, 4, 0, 0, 0, []),
  (29, .iconst 2, 0, 0, 2, 0, []),
  (30, .if_icmp .ne 41, 71, 0, 0, 0, []),
  (33, .nop, 29, 0, 0, 0, []),
  (33, .aload_n 0, 0, 0, 0, 0, []),
  (34, .getfield 118, 12, 23, 0, 0, []),
  (37, .iload_n 2, 2, 0, 0, 0, []),
  (38, .iload 4, 4, 0, 0, 0, []),
  (40, .iconst 1, 0, 0, 1, 0, []),
  (41, .if_icmp .ne 12, 53, 0, 0, 0, []),
  (44, .aload_n 0, 0, 0, 0, 0, []),
  (45, .getfield 97, 12, 12, 0, 0, []),
  (48, .iload_n 3, 3, 0, 0, 0, []),
  (49, .iaload, 0, 0, 0, 0, []),
  (50, .goto 14, 64, 0, 0, 0, []),
  (53, .aload_n 0, 0, 0, 0, 0, []),
  (54, .getfield 115, 12, 22, 0, 0, []),
  (57, .aload_n 0, 0, 0, 0, 0, []),
  (58, .getfield 97, 12, 12, 0, 0, []),
  (61, .iload_n 3, 3, 0, 0, 0, []),
  (62, .iaload, 0, 0, 0, 0, []),
  (63, .iaload, 0, 0, 0, 0, []),
  (64, .iastore, 0, 0, 0, 0, []),
  (65, .iinc 2 1, 2, 0, 1, 0, []),
  (68, .goto 66, 134, 0, 0, 0, []),
  (71, .iload 4, 4, 0, 0, 0, []),
  (73, .iconst 3, 0, 0, 3, 0, []),
  (74, .if_icmp .ne 30, 104, 0, 0, 0, []),
  (77, .aload_n 0, 0, 0, 0, 0, []),
  (78, .getfield 118, 12, 23, 0, 0, []),
  (81, .iload_n 2, 2, 0, 0, 0, []),
  (82, .iconst 1, 0, 0, 1, 0, []),
  (83, .isub, 0, 0, 0, 0, []),
  (84, .aload_n 0, 0, 0, 0, 0, []),
  (85, .getfield 118, 12, 23, 0, 0, []),
  (88, .iload_n 2, 2, 0, 0, 0, []),
  (89, .iconst 1, 0, 0, 1, 0, []),
  (90, .isub, 0, 0, 0, 0, []),
  (91, .iaload, 0, 0, 0, 0, []),
  (92, .ifCond .ne 7, 99, 0, 0, 0, []),
  (95, .iconst 1, 0, 0, 1, 0, []),
  (96, .goto 4, 100, 0, 0, 0, []),
  (99, .iconst 0, 0, 0, 0, 0, []),
  (100, .iastore, 0, 0, 0, 0, []),
  (101, .goto 33, 134, 0, 0, 0, []),
  (104, .iinc 2 (-1), 2, 0, (-1), 0, []),
  (107, .aload_n 0, 0, 0, 0, 0, []),
  (108, .getfield 118, 12, 23, 0, 0, []),
  (111, .iload_n 2, 2, 0, 0, 0, []),
  (112, .iconst 1, 0, 0, 1, 0, []),
  (113, .isub, 0, 0, 0, 0, []),
  (114, .iload 4, 4, 0, 0, 0, []),
  (116, .aload_n 0, 0, 0, 0, 0, []),
  (117, .getfield 118, 12, 23, 0, 0, []),
  (120, .iload_n 2, 2, 0, 0, 0, []),
  (121, .iconst 1, 0, 0, 1, 0, []),
  (122, .isub, 0, 0, 0, 0, []),
  (123, .iaload, 0, 0, 0, 0, []),
  (124, .aload_n 0, 0, 0, 0, 0, []),
  (125, .getfield 118, 12, 23, 0, 0, []),
  (128, .iload_n 2, 2, 0, 0, 0, []),
  (129, .iaload, 0, 0, 0, 0, []),
  (130, .invokestatic 279, 3, 0, 0, 0, []),
  (133, .iastore, 0, 0, 0, 0, []),
  (134, .iinc 3 1, 3, 0, 1, 0, []),
  (137, .goto (-133), 4, 0, 0, 0, []),
  (140, .aload_n 0, 0, 0, 0, 0, []),
  (141, .getfield 118, 12, 23, 0, 0, []),
  (144, .iconst 0, 0, 0, 0, 0, []),
  (145, .iaload, 0, 0, 0, 0, []),
  (146, .ireturn, 0, 0, 0, 0, [])]
noncomputable def e12_worthAt : XN := [(279, 1, 3, 99, F12_both)]
noncomputable def h12_worthAt_4 (n : Nat) (v2 : Int32) (v3 : Int32) (μ : XM) : XR := arr t12_worthAt e12_worthAt 1 94 n 4 [some (xr 12 0 0), none, some (xi v2), some (xi v3), none] [] μ
noncomputable def h12_worthAt_33 (n : Nat) (v2 : Int32) (v3 : Int32) (v4 : Int32) (μ : XM) : XR := arr t12_worthAt e12_worthAt 1 94 n 33 [some (xr 12 0 0), none, some (xi v2), some (xi v3), some (xi v4)] [] μ
set_option maxRecDepth 100000 in
theorem h12_worthAt_4_s (n : Nat) (v2 : Int32) (v3 : Int32) (μ : XM) : h12_worthAt_4 (n + 1) v2 v3 μ = (
  xck (xin v3 2200) <|
  xite ((aI μ 12 0 11 (Int32.toNatClampNeg v3)) = 0) (
    xck (xin 0 1100) <|
    xri (aI μ 12 0 23 (Int32.toNatClampNeg 0)) μ) (
    xck (xin v3 2200) <|
    vI (aI μ 12 0 11 (Int32.toNatClampNeg v3)) fun x1 =>
    xite (x1 = 1) (
      h12_worthAt_33 n v2 v3 x1 μ) (
      xite (x1 = 2) (
        h12_worthAt_33 n v2 v3 x1 μ) (
        xite (x1 = 3) (
          xck (xin (v2 - 1) 1100) <|
          xite ((aI μ 12 0 23 (Int32.toNatClampNeg (v2 - 1))) = 0) (
            xck (xin (v2 - 1) 1100 && true) <|
            mS (pI μ 12 0 23 (Int32.toNatClampNeg (v2 - 1)) 1) fun m2 =>
            vI (v3 + 1) fun x3 =>
            h12_worthAt_4 n v2 x3 m2) (
            xck (xin (v2 - 1) 1100 && true) <|
            mS (pI μ 12 0 23 (Int32.toNatClampNeg (v2 - 1)) 0) fun m4 =>
            vI (v3 + 1) fun x5 =>
            h12_worthAt_4 n v2 x5 m4)) (
          vI (v2 + (-1)) fun x6 =>
          xck (xin (x6 - 1) 1100) <|
          xck (xin x6 1100) <|
          bI (f12_both x1 (aI μ 12 0 23 (Int32.toNatClampNeg (x6 - 1))) (aI μ 12 0 23 (Int32.toNatClampNeg x6)) μ) fun r8 m7 =>
          xck (xin (x6 - 1) 1100 && true) <|
          mS (pI m7 12 0 23 (Int32.toNatClampNeg (x6 - 1)) r8) fun m9 =>
          vI (v3 + 1) fun x10 =>
          h12_worthAt_4 n x6 x10 m9))))) := rfl
theorem h12_worthAt_4_0 (v2 : Int32) (v3 : Int32) (μ : XM) : h12_worthAt_4 0 v2 v3 μ = none := rfl
set_option maxRecDepth 100000 in
theorem h12_worthAt_33_s (n : Nat) (v2 : Int32) (v3 : Int32) (v4 : Int32) (μ : XM) : h12_worthAt_33 (n + 1) v2 v3 v4 μ = (
  xite (v4 = 1) (
    xck (xin v3 2200) <|
    xck (xin v2 1100 && true) <|
    mS (pI μ 12 0 23 (Int32.toNatClampNeg v2) (aI μ 12 0 12 (Int32.toNatClampNeg v3))) fun m1 =>
    vI (v2 + 1) fun x2 =>
    vI (v3 + 1) fun x3 =>
    h12_worthAt_4 n x2 x3 m1) (
    xck (xin v3 2200) <|
    xck (xin (aI μ 12 0 12 (Int32.toNatClampNeg v3)) 4) <|
    xck (xin v2 1100 && true) <|
    mS (pI μ 12 0 23 (Int32.toNatClampNeg v2) (aI μ 12 0 22 (Int32.toNatClampNeg (aI μ 12 0 12 (Int32.toNatClampNeg v3))))) fun m4 =>
    vI (v2 + 1) fun x5 =>
    vI (v3 + 1) fun x6 =>
    h12_worthAt_4 n x5 x6 m4)) := rfl
theorem h12_worthAt_33_0 (v2 : Int32) (v3 : Int32) (v4 : Int32) (μ : XM) : h12_worthAt_33 0 v2 v3 v4 μ = none := rfl
noncomputable def k12_worthAt (n : Nat) (p1 : Int32) (μ : XM) : XR :=
  vI 0 fun x1 =>
  vI p1 fun x2 =>
  h12_worthAt_4 n x1 x2 μ
set_option maxRecDepth 100000 in
theorem q12_worthAt (n : Nat) (p1 : Int32) (μ : XM) : xrun t12_worthAt e12_worthAt (xrtk (some .int)) 94 n (xlo [xr 12 0 0, xi p1] 5) μ = k12_worthAt n p1 μ := rfl
theorem x12_worthAt : ∃ f : Int32 → XM → XR, ∀ (p1 : Int32) (μ : XM), f p1 μ = k12_worthAt 20000 p1 μ := ⟨fun p1 μ => k12_worthAt 20000 p1 μ, fun p1 μ => rfl⟩
noncomputable def f12_worthAt : Int32 → XM → XR := Classical.choose x12_worthAt
theorem f12_worthAt_e (p1 : Int32) (μ : XM) : f12_worthAt p1 μ = k12_worthAt 20000 p1 μ := Classical.choose_spec x12_worthAt p1 μ
noncomputable def F12_worthAt : XF := fun av μ => match av with
  | [.inr (.inr (some (t0, i0, 0))), .inl p1] => bif Nat.beq t0 12 && Nat.beq i0 0 then f12_worthAt p1 μ else none
  | _ => none
set_option maxRecDepth 100000 in
theorem c12_worthAt {X : XP} (hX : XOK X) (l : Launch) : Ctr X l y12_worthAt prog_14_method_39_code 5 (some .int) (xrm 2) 0 0 F12_worthAt :=
  Ctr_of (tab := t12_worthAt) (env := e12_worthAt) (K := 94) (N := 20000) (fl := fl12) (cl := cl12) (ll := ll12) (jl := jl12) hX mf12_worthAt.2.2.2 ⟨by decide +kernel, flk12, clk12, llk12, jlk12⟩
   (List.forall_mem_cons.mpr ⟨xcal_s (c12_both hX l) mf12_both ⟨rfl, rfl⟩ ml12_279 ms12_both (xrm_ok (by omega) (by decide)) (by decide +kernel), fun _ h => absurd h List.not_mem_nil⟩)
   (xrm_1 (by decide)) ⟨_, _, rfl, rfl⟩ (fun av μ r μ' h => by
    unfold F12_worthAt at h
    split at h
    · replace h := cond_inv h; obtain ⟨hb, h⟩ := h
      simp only [Bool.and_eq_true] at hb
      obtain ⟨g0, g1⟩ := hb
      obtain rfl := Nat.eq_of_beq_eq_true g0
      obtain rfl := Nat.eq_of_beq_eq_true g1
      exact ⟨Nat.le_of_ble_eq_true rfl, (q12_worthAt _ _ _).trans ((f12_worthAt_e _ _).symm.trans h)⟩
    · cases h)
def t12_copies : List XE := [(0, .iconst 0, 0, 0, 0, 0, []),
  (1, .istore 4, 4, 0, 0, 0, []),
  (3, .nop, 31, 0, 0, 0, []),
  (3, .iload 4, 4, 0, 0, 0, []),
  (5, .iload_n 3, 3, 0, 0, 0, []),
  (6, .if_icmp .ge 27, 33, 0, 0, 0, []),
  (9, .aload_n 0, 0, 0, 0, 0, []),
  (10, .getfield 121, 12, 24, 0, 0, []),
  (13, .iload_n 2, 2, 0, 0, 0, []),
  (14, .iload 4, 4, 0, 0, 0, []),
  (16, .iadd, 0, 0, 0, 0, []),
  (17, .aload_n 0, 0, 0, 0, 0, []),
  (18, .getfield 121, 12, 24, 0, 0, []),
  (21, .iload_n 1, 1, 0, 0, 0, []),
  (22, .iload 4, 4, 0, 0, 0, []),
  (24, .iadd, 0, 0, 0, 0, []),
  (25, .iaload, 0, 0, 0, 0, []),
  (26, .iastore, 0, 0, 0, 0, []),
  (27, .iinc 4 1, 4, 0, 1, 0, []),
  (30, .goto (-27), 3, 0, 0, 0, []),
  (33, .return_, 0, 0, 0, 0, [])]
noncomputable def e12_copies : XN := []
noncomputable def h12_copies_3 (n : Nat) (v1 : Int32) (v2 : Int32) (v3 : Int32) (v4 : Int32) (μ : XM) : XR := arr t12_copies e12_copies 0 26 n 3 [some (xr 12 0 0), some (xi v1), some (xi v2), some (xi v3), some (xi v4)] [] μ
set_option maxRecDepth 100000 in
theorem h12_copies_3_s (n : Nat) (v1 : Int32) (v2 : Int32) (v3 : Int32) (v4 : Int32) (μ : XM) : h12_copies_3 (n + 1) v1 v2 v3 v4 μ = (
  xite (v4 < v3) (
    xck (xin (v1 + v4) 1081) <|
    xck (xin (v2 + v4) 1081 && true) <|
    mS (pI μ 12 0 24 (Int32.toNatClampNeg (v2 + v4)) (aI μ 12 0 24 (Int32.toNatClampNeg (v1 + v4)))) fun m1 =>
    vI (v4 + 1) fun x2 =>
    h12_copies_3 n v1 v2 v3 x2 m1) (
    xrv μ)) := rfl
theorem h12_copies_3_0 (v1 : Int32) (v2 : Int32) (v3 : Int32) (v4 : Int32) (μ : XM) : h12_copies_3 0 v1 v2 v3 v4 μ = none := rfl
noncomputable def k12_copies (n : Nat) (p1 : Int32) (p2 : Int32) (p3 : Int32) (μ : XM) : XR :=
  vI 0 fun x1 =>
  h12_copies_3 n p1 p2 p3 x1 μ
set_option maxRecDepth 100000 in
theorem q12_copies (n : Nat) (p1 : Int32) (p2 : Int32) (p3 : Int32) (μ : XM) : xrun t12_copies e12_copies (xrtk none) 26 n (xlo [xr 12 0 0, xi p1, xi p2, xi p3] 5) μ = k12_copies n p1 p2 p3 μ := rfl
theorem x12_copies : ∃ f : Int32 → Int32 → Int32 → XM → XR, ∀ (p1 : Int32) (p2 : Int32) (p3 : Int32) (μ : XM), f p1 p2 p3 μ = k12_copies 20000 p1 p2 p3 μ := ⟨fun p1 p2 p3 μ => k12_copies 20000 p1 p2 p3 μ, fun p1 p2 p3 μ => rfl⟩
noncomputable def f12_copies : Int32 → Int32 → Int32 → XM → XR := Classical.choose x12_copies
theorem f12_copies_e (p1 : Int32) (p2 : Int32) (p3 : Int32) (μ : XM) : f12_copies p1 p2 p3 μ = k12_copies 20000 p1 p2 p3 μ := Classical.choose_spec x12_copies p1 p2 p3 μ
noncomputable def F12_copies : XF := fun av μ => match av with
  | [.inr (.inr (some (t0, i0, 0))), .inl p1, .inl p2, .inl p3] => bif Nat.beq t0 12 && Nat.beq i0 0 then f12_copies p1 p2 p3 μ else none
  | _ => none
set_option maxRecDepth 100000 in
theorem c12_copies {X : XP} (hX : XOK X) (l : Launch) : Ctr X l y12_copies prog_14_method_41_code 5 none (xrm 1) 0 0 F12_copies :=
  Ctr_of (tab := t12_copies) (env := e12_copies) (K := 26) (N := 20000) (fl := fl12) (cl := cl12) (ll := ll12) (jl := jl12) hX mf12_copies.2.2.2 ⟨by decide +kernel, flk12, clk12, llk12, jlk12⟩
   (fun _ h => absurd h List.not_mem_nil)
   (xrm_1 (by decide)) ⟨_, _, rfl, rfl⟩ (fun av μ r μ' h => by
    unfold F12_copies at h
    split at h
    · replace h := cond_inv h; obtain ⟨hb, h⟩ := h
      simp only [Bool.and_eq_true] at hb
      obtain ⟨g0, g1⟩ := hb
      obtain rfl := Nat.eq_of_beq_eq_true g0
      obtain rfl := Nat.eq_of_beq_eq_true g1
      exact ⟨Nat.le_of_ble_eq_true rfl, (q12_copies _ _ _ _ _).trans ((f12_copies_e _ _ _ _).symm.trans h)⟩
    · cases h)
def t12_keeps : List XE := [(0, .aload_n 0, 0, 0, 0, 0, []),
  (1, .getfield 292, 12, 25, 0, 0, []),
  (4, .bipush 16, 0, 0, 16, 0, []),
  (6, .if_icmp .ne 47, 53, 0, 0, 0, []),
  (9, .iconst 1, 0, 0, 1, 0, []),
  (10, .istore_n 1, 1, 0, 0, 0, []),
  (11, .nop, 3, 0, 0, 0, []),
  (11, .iload_n 1, 1, 0, 0, 0, []),
  (12, .bipush 16, 0, 0, 16, 0, []),
  (14, .if_icmp .ge 29, 43, 0, 0, 0, []),
  (17, .aload_n 0, 0, 0, 0, 0, []),
  (18, .bipush 47, 0, 0, 47, 0, []),
  (20, .iconst 5, 0, 0, 5, 0, []),
  (21, .iload_n 1, 1, 0, 0, 0, []),
  (22, .iadd, 0, 0, 0, 0, []),
  (23, .imul, 0, 0, 0, 0, []),
  (24, .bipush 47, 0, 0, 47, 0, []),
  (26, .iconst 5, 0, 0, 5, 0, []),
  (27, .iload_n 1, 1, 0, 0, 0, []),
  (28, .iadd, 0, 0, 0, 0, []),
  (29, .iconst 1, 0, 0, 1, 0, []),
  (30, .isub, 0, 0, 0, 0, []),
  (31, .imul, 0, 0, 0, 0, []),
  (32, .bipush 30, 0, 0, 30, 0, []),
  (34, .invokevirtual 295, 4, 12, 0, 0, []),
  (37, .iinc 1 1, 1, 0, 1, 0, []),
  (40, .goto (-29), 11, 0, 0, 0, []),
  (43, .aload_n 0, 0, 0, 0, 0, []),
  (44, .dup, 0, 0, 0, 0, []),
  (45, .getfield 292, 12, 25, 0, 0, []),
  (48, .iconst 1, 0, 0, 1, 0, []),
  (49, .isub, 0, 0, 0, 0, []),
  (50, .putfield 292, 12, 25, 0, 0, []),
  (53, .nop, 1, 0, 0, 0, []),
  (53, .aload_n 0, 0, 0, 0, 0, []),
  (54, .iconst 0, 0, 0, 0, 0, []),
  (55, .bipush 47, 0, 0, 47, 0, []),
  (57, .iconst 5, 0, 0, 5, 0, []),
  (58, .aload_n 0, 0, 0, 0, 0, []),
  (59, .getfield 292, 12, 25, 0, 0, []),
  (62, .iadd, 0, 0, 0, 0, []),
  (63, .imul, 0, 0, 0, 0, []),
  (64, .bipush 30, 0, 0, 30, 0, []),
  (66, .invokevirtual 295, 4, 12, 0, 0, []),
  (69, .aload_n 0, 0, 0, 0, 0, []),
  (70, .dup, 0, 0, 0, 0, []),
  (71, .getfield 292, 12, 25, 0, 0, []),
  (74, .iconst 1, 0, 0, 1, 0, []),
  (75, .iadd, 0, 0, 0, 0, []),
  (76, .putfield 292, 12, 25, 0, 0, []),
  (79, .return_, 0, 0, 0, 0, [])]
noncomputable def e12_keeps : XN := [(295, 0, 4, 12, F12_copies)]
noncomputable def h12_keeps_53 (n : Nat) (μ : XM) : XR := arr t12_keeps e12_keeps 0 56 n 53 [some (xr 12 0 0), none] [] μ
noncomputable def h12_keeps_11 (n : Nat) (v1 : Int32) (μ : XM) : XR := arr t12_keeps e12_keeps 0 56 n 11 [some (xr 12 0 0), some (xi v1)] [] μ
set_option maxRecDepth 100000 in
theorem h12_keeps_53_s (n : Nat) (μ : XM) : h12_keeps_53 (n + 1)  μ = (
  bV (f12_copies 0 (47 * (5 + (rI μ 12 0 25))) 30 μ) fun m1 =>
  mS (sI m1 12 0 25 ((rI m1 12 0 25) + 1)) fun m2 =>
  xrv m2) := rfl
theorem h12_keeps_53_0 (μ : XM) : h12_keeps_53 0  μ = none := rfl
set_option maxRecDepth 100000 in
theorem h12_keeps_11_s (n : Nat) (v1 : Int32) (μ : XM) : h12_keeps_11 (n + 1) v1 μ = (
  xite (v1 < 16) (
    bV (f12_copies (47 * (5 + v1)) (47 * ((5 + v1) - 1)) 30 μ) fun m1 =>
    vI (v1 + 1) fun x2 =>
    h12_keeps_11 n x2 m1) (
    mS (sI μ 12 0 25 ((rI μ 12 0 25) - 1)) fun m3 =>
    h12_keeps_53 n m3)) := rfl
theorem h12_keeps_11_0 (v1 : Int32) (μ : XM) : h12_keeps_11 0 v1 μ = none := rfl
noncomputable def k12_keeps (n : Nat) (μ : XM) : XR :=
  xite ((rI μ 12 0 25) = 16) (
    vI 1 fun x1 =>
    h12_keeps_11 n x1 μ) (
    h12_keeps_53 n μ)
set_option maxRecDepth 100000 in
theorem q12_keeps (n : Nat) (μ : XM) : xrun t12_keeps e12_keeps (xrtk none) 56 n (xlo [xr 12 0 0] 2) μ = k12_keeps n  μ := rfl
theorem x12_keeps : ∃ f : XM → XR, ∀ (μ : XM), f μ = k12_keeps 20000  μ := ⟨fun μ => k12_keeps 20000  μ, fun μ => rfl⟩
noncomputable def f12_keeps : XM → XR := Classical.choose x12_keeps
theorem f12_keeps_e (μ : XM) : f12_keeps μ = k12_keeps 20000  μ := Classical.choose_spec x12_keeps μ
noncomputable def F12_keeps : XF := fun av μ => match av with
  | [.inr (.inr (some (t0, i0, 0)))] => bif Nat.beq t0 12 && Nat.beq i0 0 then f12_keeps  μ else none
  | _ => none
set_option maxRecDepth 100000 in
theorem c12_keeps {X : XP} (hX : XOK X) (l : Launch) : Ctr X l y12_keeps prog_14_method_44_code 2 none (xrm 2) 0 0 F12_keeps :=
  Ctr_of (tab := t12_keeps) (env := e12_keeps) (K := 56) (N := 20000) (fl := fl12) (cl := cl12) (ll := ll12) (jl := jl12) hX mf12_keeps.2.2.2 ⟨by decide +kernel, flk12, clk12, llk12, jlk12⟩
   (List.forall_mem_cons.mpr ⟨xcal_v (na := 3) (c12_copies hX l) mf12_copies ⟨rfl, rfl⟩ ml12_295 mi12_copies me12_copies (xrm_ok (by omega) (by decide)) rfl (by decide) (by decide +kernel), fun _ h => absurd h List.not_mem_nil⟩)
   (xrm_1 (by decide)) ⟨_, _, rfl, rfl⟩ (fun av μ r μ' h => by
    unfold F12_keeps at h
    split at h
    · replace h := cond_inv h; obtain ⟨hb, h⟩ := h
      simp only [Bool.and_eq_true] at hb
      obtain ⟨g0, g1⟩ := hb
      obtain rfl := Nat.eq_of_beq_eq_true g0
      obtain rfl := Nat.eq_of_beq_eq_true g1
      exact ⟨Nat.le_of_ble_eq_true rfl, (q12_keeps _  _).trans ((f12_keeps_e  _).symm.trans h)⟩
    · cases h)
def t12_belts : List XE := [(0, .aload_n 0, 0, 0, 0, 0, []),
  (1, .getfield 91, 12, 10, 0, 0, []),
  (4, .iconst 1, 0, 0, 1, 0, []),
  (5, .iaload, 0, 0, 0, 0, []),
  (6, .ireturn, 0, 0, 0, 0, [])]
noncomputable def e12_belts : XN := []
noncomputable def k12_belts (μ : XM) : XR :=
  xck (xin 1 120) <|
  xri (aI μ 12 0 10 (Int32.toNatClampNeg 1)) μ
set_option maxRecDepth 100000 in
theorem q12_belts (n : Nat) (μ : XM) : xrun t12_belts e12_belts (xrtk (some .int)) 10 n (xlo [xr 12 0 0] 1) μ = k12_belts  μ := rfl
theorem x12_belts : ∃ f : XM → XR, ∀ (μ : XM), f μ = k12_belts  μ := ⟨fun μ => k12_belts  μ, fun μ => rfl⟩
noncomputable def f12_belts : XM → XR := Classical.choose x12_belts
theorem f12_belts_e (μ : XM) : f12_belts μ = k12_belts  μ := Classical.choose_spec x12_belts μ
noncomputable def F12_belts : XF := fun av μ => match av with
  | [.inr (.inr (some (t0, i0, 0)))] => bif Nat.beq t0 12 && Nat.beq i0 0 then f12_belts  μ else none
  | _ => none
set_option maxRecDepth 100000 in
theorem c12_belts {X : XP} (hX : XOK X) (l : Launch) : Ctr X l y12_belts prog_14_method_46_code 1 (some .int) (xrm 1) 0 0 F12_belts :=
  Ctr_of (tab := t12_belts) (env := e12_belts) (K := 10) (N := 20000) (fl := fl12) (cl := cl12) (ll := ll12) (jl := jl12) hX mf12_belts.2.2.2 ⟨by decide +kernel, flk12, clk12, llk12, jlk12⟩
   (fun _ h => absurd h List.not_mem_nil)
   (xrm_1 (by decide)) ⟨_, _, rfl, rfl⟩ (fun av μ r μ' h => by
    unfold F12_belts at h
    split at h
    · replace h := cond_inv h; obtain ⟨hb, h⟩ := h
      simp only [Bool.and_eq_true] at hb
      obtain ⟨g0, g1⟩ := hb
      obtain rfl := Nat.eq_of_beq_eq_true g0
      obtain rfl := Nat.eq_of_beq_eq_true g1
      exact ⟨Nat.le_of_ble_eq_true rfl, (q12_belts _  _).trans ((f12_belts_e  _).symm.trans h)⟩
    · cases h)
def t12_men : List XE := [(0, .aload_n 0, 0, 0, 0, 0, []),
  (1, .getfield 91, 12, 10, 0, 0, []),
  (4, .iconst 2, 0, 0, 2, 0, []),
  (5, .iaload, 0, 0, 0, 0, []),
  (6, .ireturn, 0, 0, 0, 0, [])]
noncomputable def e12_men : XN := []
noncomputable def k12_men (μ : XM) : XR :=
  xck (xin 2 120) <|
  xri (aI μ 12 0 10 (Int32.toNatClampNeg 2)) μ
set_option maxRecDepth 100000 in
theorem q12_men (n : Nat) (μ : XM) : xrun t12_men e12_men (xrtk (some .int)) 10 n (xlo [xr 12 0 0] 1) μ = k12_men  μ := rfl
theorem x12_men : ∃ f : XM → XR, ∀ (μ : XM), f μ = k12_men  μ := ⟨fun μ => k12_men  μ, fun μ => rfl⟩
noncomputable def f12_men : XM → XR := Classical.choose x12_men
theorem f12_men_e (μ : XM) : f12_men μ = k12_men  μ := Classical.choose_spec x12_men μ
noncomputable def F12_men : XF := fun av μ => match av with
  | [.inr (.inr (some (t0, i0, 0)))] => bif Nat.beq t0 12 && Nat.beq i0 0 then f12_men  μ else none
  | _ => none
set_option maxRecDepth 100000 in
theorem c12_men {X : XP} (hX : XOK X) (l : Launch) : Ctr X l y12_men prog_14_method_47_code 1 (some .int) (xrm 1) 0 0 F12_men :=
  Ctr_of (tab := t12_men) (env := e12_men) (K := 10) (N := 20000) (fl := fl12) (cl := cl12) (ll := ll12) (jl := jl12) hX mf12_men.2.2.2 ⟨by decide +kernel, flk12, clk12, llk12, jlk12⟩
   (fun _ h => absurd h List.not_mem_nil)
   (xrm_1 (by decide)) ⟨_, _, rfl, rfl⟩ (fun av μ r μ' h => by
    unfold F12_men at h
    split at h
    · replace h := cond_inv h; obtain ⟨hb, h⟩ := h
      simp only [Bool.and_eq_true] at hb
      obtain ⟨g0, g1⟩ := hb
      obtain rfl := Nat.eq_of_beq_eq_true g0
      obtain rfl := Nat.eq_of_beq_eq_true g1
      exact ⟨Nat.le_of_ble_eq_true rfl, (q12_men _  _).trans ((f12_men_e  _).symm.trans h)⟩
    · cases h)
def t12_bearsOf : List XE := [(0, .aload_n 0, 0, 0, 0, 0, []),
  (1, .getfield 91, 12, 10, 0, 0, []),
  (4, .bipush 36, 0, 0, 36, 0, []),
  (6, .iload_n 1, 1, 0, 0, 0, []),
  (7, .iadd, 0, 0, 0, 0, []),
  (8, .iaload, 0, 0, 0, 0, []),
  (9, .ireturn, 0, 0, 0, 0, [])]
noncomputable def e12_bearsOf : XN := []
noncomputable def k12_bearsOf (p1 : Int32) (μ : XM) : XR :=
  xck (xin (36 + p1) 120) <|
  xri (aI μ 12 0 10 (Int32.toNatClampNeg (36 + p1))) μ
set_option maxRecDepth 100000 in
theorem q12_bearsOf (n : Nat) (p1 : Int32) (μ : XM) : xrun t12_bearsOf e12_bearsOf (xrtk (some .int)) 12 n (xlo [xr 12 0 0, xi p1] 2) μ = k12_bearsOf p1 μ := rfl
theorem x12_bearsOf : ∃ f : Int32 → XM → XR, ∀ (p1 : Int32) (μ : XM), f p1 μ = k12_bearsOf p1 μ := ⟨fun p1 μ => k12_bearsOf p1 μ, fun p1 μ => rfl⟩
noncomputable def f12_bearsOf : Int32 → XM → XR := Classical.choose x12_bearsOf
theorem f12_bearsOf_e (p1 : Int32) (μ : XM) : f12_bearsOf p1 μ = k12_bearsOf p1 μ := Classical.choose_spec x12_bearsOf p1 μ
noncomputable def F12_bearsOf : XF := fun av μ => match av with
  | [.inr (.inr (some (t0, i0, 0))), .inl p1] => bif Nat.beq t0 12 && Nat.beq i0 0 then f12_bearsOf p1 μ else none
  | _ => none
set_option maxRecDepth 100000 in
theorem c12_bearsOf {X : XP} (hX : XOK X) (l : Launch) : Ctr X l y12_bearsOf prog_14_method_49_code 2 (some .int) (xrm 1) 0 0 F12_bearsOf :=
  Ctr_of (tab := t12_bearsOf) (env := e12_bearsOf) (K := 12) (N := 20000) (fl := fl12) (cl := cl12) (ll := ll12) (jl := jl12) hX mf12_bearsOf.2.2.2 ⟨by decide +kernel, flk12, clk12, llk12, jlk12⟩
   (fun _ h => absurd h List.not_mem_nil)
   (xrm_1 (by decide)) ⟨_, _, rfl, rfl⟩ (fun av μ r μ' h => by
    unfold F12_bearsOf at h
    split at h
    · replace h := cond_inv h; obtain ⟨hb, h⟩ := h
      simp only [Bool.and_eq_true] at hb
      obtain ⟨g0, g1⟩ := hb
      obtain rfl := Nat.eq_of_beq_eq_true g0
      obtain rfl := Nat.eq_of_beq_eq_true g1
      exact ⟨Nat.le_of_ble_eq_true rfl, (q12_bearsOf _ _ _).trans ((f12_bearsOf_e _ _).symm.trans h)⟩
    · cases h)
def t12_manOf : List XE := [(0, .aload_n 0, 0, 0, 0, 0, []),
  (1, .getfield 91, 12, 10, 0, 0, []),
  (4, .bipush 41, 0, 0, 41, 0, []),
  (6, .iconst 2, 0, 0, 2, 0, []),
  (7, .iload_n 1, 1, 0, 0, 0, []),
  (8, .imul, 0, 0, 0, 0, []),
  (9, .iadd, 0, 0, 0, 0, []),
  (10, .iload_n 2, 2, 0, 0, 0, []),
  (11, .iadd, 0, 0, 0, 0, []),
  (12, .iaload, 0, 0, 0, 0, []),
  (13, .ireturn, 0, 0, 0, 0, [])]
noncomputable def e12_manOf : XN := []
noncomputable def k12_manOf (p1 : Int32) (p2 : Int32) (μ : XM) : XR :=
  xck (xin ((41 + (2 * p1)) + p2) 120) <|
  xri (aI μ 12 0 10 (Int32.toNatClampNeg ((41 + (2 * p1)) + p2))) μ
set_option maxRecDepth 100000 in
theorem q12_manOf (n : Nat) (p1 : Int32) (p2 : Int32) (μ : XM) : xrun t12_manOf e12_manOf (xrtk (some .int)) 16 n (xlo [xr 12 0 0, xi p1, xi p2] 3) μ = k12_manOf p1 p2 μ := rfl
theorem x12_manOf : ∃ f : Int32 → Int32 → XM → XR, ∀ (p1 : Int32) (p2 : Int32) (μ : XM), f p1 p2 μ = k12_manOf p1 p2 μ := ⟨fun p1 p2 μ => k12_manOf p1 p2 μ, fun p1 p2 μ => rfl⟩
noncomputable def f12_manOf : Int32 → Int32 → XM → XR := Classical.choose x12_manOf
theorem f12_manOf_e (p1 : Int32) (p2 : Int32) (μ : XM) : f12_manOf p1 p2 μ = k12_manOf p1 p2 μ := Classical.choose_spec x12_manOf p1 p2 μ
noncomputable def F12_manOf : XF := fun av μ => match av with
  | [.inr (.inr (some (t0, i0, 0))), .inl p1, .inl p2] => bif Nat.beq t0 12 && Nat.beq i0 0 then f12_manOf p1 p2 μ else none
  | _ => none
set_option maxRecDepth 100000 in
theorem c12_manOf {X : XP} (hX : XOK X) (l : Launch) : Ctr X l y12_manOf prog_14_method_50_code 3 (some .int) (xrm 1) 0 0 F12_manOf :=
  Ctr_of (tab := t12_manOf) (env := e12_manOf) (K := 16) (N := 20000) (fl := fl12) (cl := cl12) (ll := ll12) (jl := jl12) hX mf12_manOf.2.2.2 ⟨by decide +kernel, flk12, clk12, llk12, jlk12⟩
   (fun _ h => absurd h List.not_mem_nil)
   (xrm_1 (by decide)) ⟨_, _, rfl, rfl⟩ (fun av μ r μ' h => by
    unfold F12_manOf at h
    split at h
    · replace h := cond_inv h; obtain ⟨hb, h⟩ := h
      simp only [Bool.and_eq_true] at hb
      obtain ⟨g0, g1⟩ := hb
      obtain rfl := Nat.eq_of_beq_eq_true g0
      obtain rfl := Nat.eq_of_beq_eq_true g1
      exact ⟨Nat.le_of_ble_eq_true rfl, (q12_manOf _ _ _ _).trans ((f12_manOf_e _ _ _).symm.trans h)⟩
    · cases h)
def t12_isGuest : List XE := [(0, .iload_n 1, 1, 0, 0, 0, []),
  (1, .ifCond .lt 15, 16, 0, 0, 0, []),
  (4, .iload_n 1, 1, 0, 0, 0, []),
  (5, .aload_n 0, 0, 0, 0, 0, []),
  (6, .invokevirtual 282, 1, 12, 0, 0, []),
  (9, .if_icmp .ge 7, 16, 0, 0, 0, []),
  (12, .iconst 1, 0, 0, 1, 0, []),
  (13, .goto 4, 17, 0, 0, 0, []),
  (16, .iconst 0, 0, 0, 0, 0, []),
  (17, .ireturn, 0, 0, 0, 0, [])]
noncomputable def e12_isGuest : XN := [(282, 1, 1, 12, F12_guests)]
noncomputable def k12_isGuest (p1 : Int32) (μ : XM) : XR :=
  xite (p1 < 0) (
    xrb 0 μ) (
    bI (f12_guests μ) fun r2 m1 =>
    xite (p1 < r2) (
      xrb 1 m1) (
      xrb 0 m1))
set_option maxRecDepth 100000 in
theorem q12_isGuest (n : Nat) (p1 : Int32) (μ : XM) : xrun t12_isGuest e12_isGuest (xrtk (some .boolean)) 15 n (xlo [xr 12 0 0, xi p1] 2) μ = k12_isGuest p1 μ := rfl
theorem x12_isGuest : ∃ f : Int32 → XM → XR, ∀ (p1 : Int32) (μ : XM), f p1 μ = k12_isGuest p1 μ := ⟨fun p1 μ => k12_isGuest p1 μ, fun p1 μ => rfl⟩
noncomputable def f12_isGuest : Int32 → XM → XR := Classical.choose x12_isGuest
theorem f12_isGuest_e (p1 : Int32) (μ : XM) : f12_isGuest p1 μ = k12_isGuest p1 μ := Classical.choose_spec x12_isGuest p1 μ
noncomputable def F12_isGuest : XF := fun av μ => match av with
  | [.inr (.inr (some (t0, i0, 0))), .inl p1] => bif Nat.beq t0 12 && Nat.beq i0 0 then f12_isGuest p1 μ else none
  | _ => none
set_option maxRecDepth 100000 in
theorem c12_isGuest {X : XP} (hX : XOK X) (l : Launch) : Ctr X l y12_isGuest prog_14_method_51_code 2 (some .boolean) (xrm 2) 0 0 F12_isGuest :=
  Ctr_of (tab := t12_isGuest) (env := e12_isGuest) (K := 15) (N := 20000) (fl := fl12) (cl := cl12) (ll := ll12) (jl := jl12) hX mf12_isGuest.2.2.2 ⟨by decide +kernel, flk12, clk12, llk12, jlk12⟩
   (List.forall_mem_cons.mpr ⟨xcal_v (na := 0) (c12_guests hX l) mf12_guests ⟨rfl, rfl⟩ ml12_282 mi12_guests me12_guests (xrm_ok (by omega) (by decide)) rfl (by decide) (by decide +kernel), fun _ h => absurd h List.not_mem_nil⟩)
   (xrm_1 (by decide)) ⟨_, _, rfl, rfl⟩ (fun av μ r μ' h => by
    unfold F12_isGuest at h
    split at h
    · replace h := cond_inv h; obtain ⟨hb, h⟩ := h
      simp only [Bool.and_eq_true] at hb
      obtain ⟨g0, g1⟩ := hb
      obtain rfl := Nat.eq_of_beq_eq_true g0
      obtain rfl := Nat.eq_of_beq_eq_true g1
      exact ⟨Nat.le_of_ble_eq_true rfl, (q12_isGuest _ _ _).trans ((f12_isGuest_e _ _).symm.trans h)⟩
    · cases h)
def t12_isBelt : List XE := [(0, .iload_n 1, 1, 0, 0, 0, []),
  (1, .ifCond .lt 15, 16, 0, 0, 0, []),
  (4, .iload_n 1, 1, 0, 0, 0, []),
  (5, .aload_n 0, 0, 0, 0, 0, []),
  (6, .invokevirtual 298, 1, 12, 0, 0, []),
  (9, .if_icmp .ge 7, 16, 0, 0, 0, []),
  (12, .iconst 1, 0, 0, 1, 0, []),
  (13, .goto 4, 17, 0, 0, 0, []),
  (16, .iconst 0, 0, 0, 0, 0, []),
  (17, .ireturn, 0, 0, 0, 0, [])]
noncomputable def e12_isBelt : XN := [(298, 1, 1, 12, F12_belts)]
noncomputable def k12_isBelt (p1 : Int32) (μ : XM) : XR :=
  xite (p1 < 0) (
    xrb 0 μ) (
    bI (f12_belts μ) fun r2 m1 =>
    xite (p1 < r2) (
      xrb 1 m1) (
      xrb 0 m1))
set_option maxRecDepth 100000 in
theorem q12_isBelt (n : Nat) (p1 : Int32) (μ : XM) : xrun t12_isBelt e12_isBelt (xrtk (some .boolean)) 15 n (xlo [xr 12 0 0, xi p1] 2) μ = k12_isBelt p1 μ := rfl
theorem x12_isBelt : ∃ f : Int32 → XM → XR, ∀ (p1 : Int32) (μ : XM), f p1 μ = k12_isBelt p1 μ := ⟨fun p1 μ => k12_isBelt p1 μ, fun p1 μ => rfl⟩
noncomputable def f12_isBelt : Int32 → XM → XR := Classical.choose x12_isBelt
theorem f12_isBelt_e (p1 : Int32) (μ : XM) : f12_isBelt p1 μ = k12_isBelt p1 μ := Classical.choose_spec x12_isBelt p1 μ
noncomputable def F12_isBelt : XF := fun av μ => match av with
  | [.inr (.inr (some (t0, i0, 0))), .inl p1] => bif Nat.beq t0 12 && Nat.beq i0 0 then f12_isBelt p1 μ else none
  | _ => none
set_option maxRecDepth 100000 in
theorem c12_isBelt {X : XP} (hX : XOK X) (l : Launch) : Ctr X l y12_isBelt prog_14_method_52_code 2 (some .boolean) (xrm 2) 0 0 F12_isBelt :=
  Ctr_of (tab := t12_isBelt) (env := e12_isBelt) (K := 15) (N := 20000) (fl := fl12) (cl := cl12) (ll := ll12) (jl := jl12) hX mf12_isBelt.2.2.2 ⟨by decide +kernel, flk12, clk12, llk12, jlk12⟩
   (List.forall_mem_cons.mpr ⟨xcal_v (na := 0) (c12_belts hX l) mf12_belts ⟨rfl, rfl⟩ ml12_298 mi12_belts me12_belts (xrm_ok (by omega) (by decide)) rfl (by decide) (by decide +kernel), fun _ h => absurd h List.not_mem_nil⟩)
   (xrm_1 (by decide)) ⟨_, _, rfl, rfl⟩ (fun av μ r μ' h => by
    unfold F12_isBelt at h
    split at h
    · replace h := cond_inv h; obtain ⟨hb, h⟩ := h
      simp only [Bool.and_eq_true] at hb
      obtain ⟨g0, g1⟩ := hb
      obtain rfl := Nat.eq_of_beq_eq_true g0
      obtain rfl := Nat.eq_of_beq_eq_true g1
      exact ⟨Nat.le_of_ble_eq_true rfl, (q12_isBelt _ _ _).trans ((f12_isBelt_e _ _).symm.trans h)⟩
    · cases h)
def t12_isMan : List XE := [(0, .iload_n 1, 1, 0, 0, 0, []),
  (1, .ifCond .lt 15, 16, 0, 0, 0, []),
  (4, .iload_n 1, 1, 0, 0, 0, []),
  (5, .aload_n 0, 0, 0, 0, 0, []),
  (6, .invokevirtual 301, 1, 12, 0, 0, []),
  (9, .if_icmp .ge 7, 16, 0, 0, 0, []),
  (12, .iconst 1, 0, 0, 1, 0, []),
  (13, .goto 4, 17, 0, 0, 0, []),
  (16, .iconst 0, 0, 0, 0, 0, []),
  (17, .ireturn, 0, 0, 0, 0, [])]
noncomputable def e12_isMan : XN := [(301, 1, 1, 12, F12_men)]
noncomputable def k12_isMan (p1 : Int32) (μ : XM) : XR :=
  xite (p1 < 0) (
    xrb 0 μ) (
    bI (f12_men μ) fun r2 m1 =>
    xite (p1 < r2) (
      xrb 1 m1) (
      xrb 0 m1))
set_option maxRecDepth 100000 in
theorem q12_isMan (n : Nat) (p1 : Int32) (μ : XM) : xrun t12_isMan e12_isMan (xrtk (some .boolean)) 15 n (xlo [xr 12 0 0, xi p1] 2) μ = k12_isMan p1 μ := rfl
theorem x12_isMan : ∃ f : Int32 → XM → XR, ∀ (p1 : Int32) (μ : XM), f p1 μ = k12_isMan p1 μ := ⟨fun p1 μ => k12_isMan p1 μ, fun p1 μ => rfl⟩
noncomputable def f12_isMan : Int32 → XM → XR := Classical.choose x12_isMan
theorem f12_isMan_e (p1 : Int32) (μ : XM) : f12_isMan p1 μ = k12_isMan p1 μ := Classical.choose_spec x12_isMan p1 μ
noncomputable def F12_isMan : XF := fun av μ => match av with
  | [.inr (.inr (some (t0, i0, 0))), .inl p1] => bif Nat.beq t0 12 && Nat.beq i0 0 then f12_isMan p1 μ else none
  | _ => none
set_option maxRecDepth 100000 in
theorem c12_isMan {X : XP} (hX : XOK X) (l : Launch) : Ctr X l y12_isMan prog_14_method_53_code 2 (some .boolean) (xrm 2) 0 0 F12_isMan :=
  Ctr_of (tab := t12_isMan) (env := e12_isMan) (K := 15) (N := 20000) (fl := fl12) (cl := cl12) (ll := ll12) (jl := jl12) hX mf12_isMan.2.2.2 ⟨by decide +kernel, flk12, clk12, llk12, jlk12⟩
   (List.forall_mem_cons.mpr ⟨xcal_v (na := 0) (c12_men hX l) mf12_men ⟨rfl, rfl⟩ ml12_301 mi12_men me12_men (xrm_ok (by omega) (by decide)) rfl (by decide) (by decide +kernel), fun _ h => absurd h List.not_mem_nil⟩)
   (xrm_1 (by decide)) ⟨_, _, rfl, rfl⟩ (fun av μ r μ' h => by
    unfold F12_isMan at h
    split at h
    · replace h := cond_inv h; obtain ⟨hb, h⟩ := h
      simp only [Bool.and_eq_true] at hb
      obtain ⟨g0, g1⟩ := hb
      obtain rfl := Nat.eq_of_beq_eq_true g0
      obtain rfl := Nat.eq_of_beq_eq_true g1
      exact ⟨Nat.le_of_ble_eq_true rfl, (q12_isMan _ _ _).trans ((f12_isMan_e _ _).symm.trans h)⟩
    · cases h)
def t12_bits : List XE := [(0, .iconst 0, 0, 0, 0, 0, []),
  (1, .istore_n 1, 1, 0, 0, 0, []),
  (2, .iconst 0, 0, 0, 0, 0, []),
  (3, .istore_n 2, 2, 0, 0, 0, []),
  (4, .nop, 7, 0, 0, 0, []),
  (4, .iload_n 2, 2, 0, 0, 0, []),
  (5, .bipush 30, 0, 0, 30, 0, []),
  (7, .if_icmp .ge 17, 24, 0, 0, 0, []),
  (10, .iload_n 1, 1, 0, 0, 0, []),
  (11, .iload_n 0, 0, 0, 0, 0, []),
  (12, .iload_n 2, 2, 0, 0, 0, []),
  (13, .ishr, 0, 0, 0, 0, []),
  (14, .iconst 1, 0, 0, 1, 0, []),
  (15, .iand, 0, 0, 0, 0, []),
  (16, .iadd, 0, 0, 0, 0, []),
  (17, .istore_n 1, 1, 0, 0, 0, []),
  (18, .iinc 2 1, 2, 0, 1, 0, []),
  (21, .goto (-17), 4, 0, 0, 0, []),
  (24, .iload_n 1, 1, 0, 0, 0, []),
  (25, .ireturn, 0, 0, 0, 0, [])]
noncomputable def e12_bits : XN := []
noncomputable def h12_bits_4 (n : Nat) (v0 : Int32) (v1 : Int32) (v2 : Int32) (μ : XM) : XR := arr t12_bits e12_bits 1 25 n 4 [some (xi v0), some (xi v1), some (xi v2)] [] μ
set_option maxRecDepth 100000 in
theorem h12_bits_4_s (n : Nat) (v0 : Int32) (v1 : Int32) (v2 : Int32) (μ : XM) : h12_bits_4 (n + 1) v0 v1 v2 μ = (
  xite (v2 < 30) (
    vI (v1 + ((v0 >>> (v2 &&& 31)) &&& 1)) fun x1 =>
    vI (v2 + 1) fun x2 =>
    h12_bits_4 n v0 x1 x2 μ) (
    xri v1 μ)) := rfl
theorem h12_bits_4_0 (v0 : Int32) (v1 : Int32) (v2 : Int32) (μ : XM) : h12_bits_4 0 v0 v1 v2 μ = none := rfl
noncomputable def k12_bits (n : Nat) (p0 : Int32) (μ : XM) : XR :=
  vI 0 fun x1 =>
  vI 0 fun x2 =>
  h12_bits_4 n p0 x1 x2 μ
set_option maxRecDepth 100000 in
theorem q12_bits (n : Nat) (p0 : Int32) (μ : XM) : xrun t12_bits e12_bits (xrtk (some .int)) 25 n (xlo [xi p0] 3) μ = k12_bits n p0 μ := rfl
theorem x12_bits : ∃ f : Int32 → XM → XR, ∀ (p0 : Int32) (μ : XM), f p0 μ = k12_bits 20000 p0 μ := ⟨fun p0 μ => k12_bits 20000 p0 μ, fun p0 μ => rfl⟩
noncomputable def f12_bits : Int32 → XM → XR := Classical.choose x12_bits
theorem f12_bits_e (p0 : Int32) (μ : XM) : f12_bits p0 μ = k12_bits 20000 p0 μ := Classical.choose_spec x12_bits p0 μ
noncomputable def F12_bits : XF := fun av μ => match av with
  | [.inl p0] => f12_bits p0 μ
  | _ => none
set_option maxRecDepth 100000 in
theorem c12_bits {X : XP} (hX : XOK X) (l : Launch) : Ctr X l y12_bits prog_14_method_54_code 3 (some .int) (xrm 1) 0 0 F12_bits :=
  Ctr_of (tab := t12_bits) (env := e12_bits) (K := 25) (N := 20000) (fl := fl12) (cl := cl12) (ll := ll12) (jl := jl12) hX mf12_bits.2.2.2 ⟨by decide +kernel, flk12, clk12, llk12, jlk12⟩
   (fun _ h => absurd h List.not_mem_nil)
   (xrm_1 (by decide)) ⟨_, _, rfl, rfl⟩ (fun av μ r μ' h => by
    unfold F12_bits at h
    split at h
    · exact ⟨Nat.le_of_ble_eq_true rfl, (q12_bits _ _ _).trans ((f12_bits_e _ _).symm.trans h)⟩
    · cases h)
def t12_weightOf : List XE := [(0, .aload_n 0, 0, 0, 0, 0, []),
  (1, .iload_n 1, 1, 0, 0, 0, []),
  (2, .iconst 4, 0, 0, 4, 0, []),
  (3, .invokevirtual 286, 3, 12, 0, 0, []),
  (6, .aload_n 0, 0, 0, 0, 0, []),
  (7, .iload_n 1, 1, 0, 0, 0, []),
  (8, .iconst 0, 0, 0, 0, 0, []),
  (9, .invokevirtual 286, 3, 12, 0, 0, []),
  (12, .iconst 2, 0, 0, 2, 0, []),
  (13, .if_icmp .ne 7, 20, 0, 0, 0, []),
  (16, .iconst 5, 0, 0, 5, 0, []),
  (17, .goto 4, 21, 0, 0, 0, []),
  (20, .iconst 0, 0, 0, 0, 0, []),
  (21, .iadd, 0, 0, 0, 0, []),
  (22, .ireturn, 0, 0, 0, 0, [])]
noncomputable def e12_weightOf : XN := [(286, 1, 3, 12, F12_guestOf)]
noncomputable def k12_weightOf (p1 : Int32) (μ : XM) : XR :=
  bI (f12_guestOf p1 4 μ) fun r2 m1 =>
  bI (f12_guestOf p1 0 m1) fun r4 m3 =>
  xite (r4 = 2) (
    xri (r2 + 5) m3) (
    xri (r2 + 0) m3)
set_option maxRecDepth 100000 in
theorem q12_weightOf (n : Nat) (p1 : Int32) (μ : XM) : xrun t12_weightOf e12_weightOf (xrtk (some .int)) 20 n (xlo [xr 12 0 0, xi p1] 2) μ = k12_weightOf p1 μ := rfl
theorem x12_weightOf : ∃ f : Int32 → XM → XR, ∀ (p1 : Int32) (μ : XM), f p1 μ = k12_weightOf p1 μ := ⟨fun p1 μ => k12_weightOf p1 μ, fun p1 μ => rfl⟩
noncomputable def f12_weightOf : Int32 → XM → XR := Classical.choose x12_weightOf
theorem f12_weightOf_e (p1 : Int32) (μ : XM) : f12_weightOf p1 μ = k12_weightOf p1 μ := Classical.choose_spec x12_weightOf p1 μ
noncomputable def F12_weightOf : XF := fun av μ => match av with
  | [.inr (.inr (some (t0, i0, 0))), .inl p1] => bif Nat.beq t0 12 && Nat.beq i0 0 then f12_weightOf p1 μ else none
  | _ => none
set_option maxRecDepth 100000 in
theorem c12_weightOf {X : XP} (hX : XOK X) (l : Launch) : Ctr X l y12_weightOf prog_14_method_55_code 2 (some .int) (xrm 2) 0 0 F12_weightOf :=
  Ctr_of (tab := t12_weightOf) (env := e12_weightOf) (K := 20) (N := 20000) (fl := fl12) (cl := cl12) (ll := ll12) (jl := jl12) hX mf12_weightOf.2.2.2 ⟨by decide +kernel, flk12, clk12, llk12, jlk12⟩
   (List.forall_mem_cons.mpr ⟨xcal_v (na := 2) (c12_guestOf hX l) mf12_guestOf ⟨rfl, rfl⟩ ml12_286 mi12_guestOf me12_guestOf (xrm_ok (by omega) (by decide)) rfl (by decide) (by decide +kernel), fun _ h => absurd h List.not_mem_nil⟩)
   (xrm_1 (by decide)) ⟨_, _, rfl, rfl⟩ (fun av μ r μ' h => by
    unfold F12_weightOf at h
    split at h
    · replace h := cond_inv h; obtain ⟨hb, h⟩ := h
      simp only [Bool.and_eq_true] at hb
      obtain ⟨g0, g1⟩ := hb
      obtain rfl := Nat.eq_of_beq_eq_true g0
      obtain rfl := Nat.eq_of_beq_eq_true g1
      exact ⟨Nat.le_of_ble_eq_true rfl, (q12_weightOf _ _ _).trans ((f12_weightOf_e _ _).symm.trans h)⟩
    · cases h)
def t12_doesBear : List XE := [(0, .aload_n 0, 0, 0, 0, 0, []),
  (1, .iload_n 1, 1, 0, 0, 0, []),
  (2, .invokevirtual 304, 2, 12, 0, 0, []),
  (5, .aload_n 0, 0, 0, 0, 0, []),
  (6, .iload_n 2, 2, 0, 0, 0, []),
  (7, .invokevirtual 307, 2, 12, 0, 0, []),
  (10, .if_icmp .lt 7, 17, 0, 0, 0, []),
  (13, .iconst 1, 0, 0, 1, 0, []),
  (14, .goto 4, 18, 0, 0, 0, []),
  (17, .iconst 0, 0, 0, 0, 0, []),
  (18, .ireturn, 0, 0, 0, 0, [])]
noncomputable def e12_doesBear : XN := [(304, 1, 2, 12, F12_bearsOf), (307, 1, 2, 12, F12_weightOf)]
noncomputable def k12_doesBear (p1 : Int32) (p2 : Int32) (μ : XM) : XR :=
  bI (f12_bearsOf p1 μ) fun r2 m1 =>
  bI (f12_weightOf p2 m1) fun r4 m3 =>
  xite (r2 < r4) (
    xrb 0 m3) (
    xrb 1 m3)
set_option maxRecDepth 100000 in
theorem q12_doesBear (n : Nat) (p1 : Int32) (p2 : Int32) (μ : XM) : xrun t12_doesBear e12_doesBear (xrtk (some .boolean)) 16 n (xlo [xr 12 0 0, xi p1, xi p2] 3) μ = k12_doesBear p1 p2 μ := rfl
theorem x12_doesBear : ∃ f : Int32 → Int32 → XM → XR, ∀ (p1 : Int32) (p2 : Int32) (μ : XM), f p1 p2 μ = k12_doesBear p1 p2 μ := ⟨fun p1 p2 μ => k12_doesBear p1 p2 μ, fun p1 p2 μ => rfl⟩
noncomputable def f12_doesBear : Int32 → Int32 → XM → XR := Classical.choose x12_doesBear
theorem f12_doesBear_e (p1 : Int32) (p2 : Int32) (μ : XM) : f12_doesBear p1 p2 μ = k12_doesBear p1 p2 μ := Classical.choose_spec x12_doesBear p1 p2 μ
noncomputable def F12_doesBear : XF := fun av μ => match av with
  | [.inr (.inr (some (t0, i0, 0))), .inl p1, .inl p2] => bif Nat.beq t0 12 && Nat.beq i0 0 then f12_doesBear p1 p2 μ else none
  | _ => none
set_option maxRecDepth 100000 in
theorem c12_doesBear {X : XP} (hX : XOK X) (l : Launch) : Ctr X l y12_doesBear prog_14_method_56_code 3 (some .boolean) (xrm 3) 0 0 F12_doesBear :=
  Ctr_of (tab := t12_doesBear) (env := e12_doesBear) (K := 16) (N := 20000) (fl := fl12) (cl := cl12) (ll := ll12) (jl := jl12) hX mf12_doesBear.2.2.2 ⟨by decide +kernel, flk12, clk12, llk12, jlk12⟩
   (List.forall_mem_cons.mpr ⟨xcal_v (na := 1) (c12_bearsOf hX l) mf12_bearsOf ⟨rfl, rfl⟩ ml12_304 mi12_bearsOf me12_bearsOf (xrm_ok (by omega) (by decide)) rfl (by decide) (by decide +kernel), List.forall_mem_cons.mpr ⟨xcal_v (na := 1) (c12_weightOf hX l) mf12_weightOf ⟨rfl, rfl⟩ ml12_307 mi12_weightOf me12_weightOf (xrm_ok (by omega) (by decide)) rfl (by decide) (by decide +kernel), fun _ h => absurd h List.not_mem_nil⟩⟩)
   (xrm_1 (by decide)) ⟨_, _, rfl, rfl⟩ (fun av μ r μ' h => by
    unfold F12_doesBear at h
    split at h
    · replace h := cond_inv h; obtain ⟨hb, h⟩ := h
      simp only [Bool.and_eq_true] at hb
      obtain ⟨g0, g1⟩ := hb
      obtain rfl := Nat.eq_of_beq_eq_true g0
      obtain rfl := Nat.eq_of_beq_eq_true g1
      exact ⟨Nat.le_of_ble_eq_true rfl, (q12_doesBear _ _ _ _).trans ((f12_doesBear_e _ _ _).symm.trans h)⟩
    · cases h)
def t12_isIn : List XE := [(0, .aload_n 0, 0, 0, 0, 0, []),
  (1, .getfield 121, 12, 24, 0, 0, []),
  (4, .iload_n 1, 1, 0, 0, 0, []),
  (5, .bipush 21, 0, 0, 21, 0, []),
  (7, .iadd, 0, 0, 0, 0, []),
  (8, .iload_n 2, 2, 0, 0, 0, []),
  (9, .iadd, 0, 0, 0, 0, []),
  (10, .iaload, 0, 0, 0, 0, []),
  (11, .ifCond .ne 7, 18, 0, 0, 0, []),
  (14, .iconst 1, 0, 0, 1, 0, []),
  (15, .goto 4, 19, 0, 0, 0, []),
  (18, .iconst 0, 0, 0, 0, 0, []),
  (19, .ireturn, 0, 0, 0, 0, [])]
noncomputable def e12_isIn : XN := []
noncomputable def k12_isIn (p1 : Int32) (p2 : Int32) (μ : XM) : XR :=
  xck (xin ((p1 + 21) + p2) 1081) <|
  xite ((aI μ 12 0 24 (Int32.toNatClampNeg ((p1 + 21) + p2))) = 0) (
    xrb 1 μ) (
    xrb 0 μ)
set_option maxRecDepth 100000 in
theorem q12_isIn (n : Nat) (p1 : Int32) (p2 : Int32) (μ : XM) : xrun t12_isIn e12_isIn (xrtk (some .boolean)) 18 n (xlo [xr 12 0 0, xi p1, xi p2] 3) μ = k12_isIn p1 p2 μ := rfl
theorem x12_isIn : ∃ f : Int32 → Int32 → XM → XR, ∀ (p1 : Int32) (p2 : Int32) (μ : XM), f p1 p2 μ = k12_isIn p1 p2 μ := ⟨fun p1 p2 μ => k12_isIn p1 p2 μ, fun p1 p2 μ => rfl⟩
noncomputable def f12_isIn : Int32 → Int32 → XM → XR := Classical.choose x12_isIn
theorem f12_isIn_e (p1 : Int32) (p2 : Int32) (μ : XM) : f12_isIn p1 p2 μ = k12_isIn p1 p2 μ := Classical.choose_spec x12_isIn p1 p2 μ
noncomputable def F12_isIn : XF := fun av μ => match av with
  | [.inr (.inr (some (t0, i0, 0))), .inl p1, .inl p2] => bif Nat.beq t0 12 && Nat.beq i0 0 then f12_isIn p1 p2 μ else none
  | _ => none
set_option maxRecDepth 100000 in
theorem c12_isIn {X : XP} (hX : XOK X) (l : Launch) : Ctr X l y12_isIn prog_14_method_57_code 3 (some .boolean) (xrm 1) 0 0 F12_isIn :=
  Ctr_of (tab := t12_isIn) (env := e12_isIn) (K := 18) (N := 20000) (fl := fl12) (cl := cl12) (ll := ll12) (jl := jl12) hX mf12_isIn.2.2.2 ⟨by decide +kernel, flk12, clk12, llk12, jlk12⟩
   (fun _ h => absurd h List.not_mem_nil)
   (xrm_1 (by decide)) ⟨_, _, rfl, rfl⟩ (fun av μ r μ' h => by
    unfold F12_isIn at h
    split at h
    · replace h := cond_inv h; obtain ⟨hb, h⟩ := h
      simp only [Bool.and_eq_true] at hb
      obtain ⟨g0, g1⟩ := hb
      obtain rfl := Nat.eq_of_beq_eq_true g0
      obtain rfl := Nat.eq_of_beq_eq_true g1
      exact ⟨Nat.le_of_ble_eq_true rfl, (q12_isIn _ _ _ _).trans ((f12_isIn_e _ _ _).symm.trans h)⟩
    · cases h)
def t12_who : List XE := [(0, .iconst 0, 0, 0, 0, 0, []),
  (1, .istore_n 3, 3, 0, 0, 0, []),
  (2, .iconst 0, 0, 0, 0, 0, []),
  (3, .istore 4, 4, 0, 0, 0, []),
  (5, .nop, 31, 0, 0, 0, []),
  (5, .iload 4, 4, 0, 0, 0, []),
  (7, .aload_n 0, 0, 0, 0, 0, []),
  (8, .invokevirtual 282, 1, 12, 0, 0, []),
  (11, .if_icmp .ge 36, 47, 0, 0, 0, []),
  (14, .iload_n 3, 3, 0, 0, 0, []),
  (15, .aload_n 0, 0, 0, 0, 0, []),
  (16, .getfield 121, 12, 24, 0, 0, []),
  (19, .iload_n 1, 1, 0, 0, 0, []),
  (20, .bipush 21, 0, 0, 21, 0, []),
  (22, .iadd, 0, 0, 0, 0, []),
  (23, .iload 4, 4, 0, 0, 0, []),
  (25, .iadd, 0, 0, 0, 0, []),
  (26, .iaload, 0, 0, 0, 0, []),
  (27, .iload_n 2, 2, 0, 0, 0, []),
  (28, .if_icmp .ne 10, 38, 0, 0, 0, []),
  (31, .iconst 1, 0, 0, 1, 0, []),
  (32, .iload 4, 4, 0, 0, 0, []),
  (34, .ishl, 0, 0, 0, 0, []),
  (35, .goto 4, 39, 0, 0, 0, []),
  (38, .iconst 0, 0, 0, 0, 0, []),
  (39, .ior, 0, 0, 0, 0, []),
  (40, .istore_n 3, 3, 0, 0, 0, []),
  (41, .iinc 4 1, 4, 0, 1, 0, []),
  (44, .goto (-39), 5, 0, 0, 0, []),
  (47, .iload_n 3, 3, 0, 0, 0, []),
  (48, .ireturn, 0, 0, 0, 0, [])]
noncomputable def e12_who : XN := [(282, 1, 1, 12, F12_guests)]
noncomputable def h12_who_5 (n : Nat) (v1 : Int32) (v2 : Int32) (v3 : Int32) (v4 : Int32) (μ : XM) : XR := arr t12_who e12_who 1 36 n 5 [some (xr 12 0 0), some (xi v1), some (xi v2), some (xi v3), some (xi v4)] [] μ
set_option maxRecDepth 100000 in
theorem h12_who_5_s (n : Nat) (v1 : Int32) (v2 : Int32) (v3 : Int32) (v4 : Int32) (μ : XM) : h12_who_5 (n + 1) v1 v2 v3 v4 μ = (
  bI (f12_guests μ) fun r2 m1 =>
  xite (v4 < r2) (
    xck (xin ((v1 + 21) + v4) 1081) <|
    xite ((aI m1 12 0 24 (Int32.toNatClampNeg ((v1 + 21) + v4))) = v2) (
      vI (v3 ||| (1 <<< (v4 &&& 31))) fun x3 =>
      vI (v4 + 1) fun x4 =>
      h12_who_5 n v1 v2 x3 x4 m1) (
      vI (v3 ||| 0) fun x5 =>
      vI (v4 + 1) fun x6 =>
      h12_who_5 n v1 v2 x5 x6 m1)) (
    xri v3 m1)) := rfl
theorem h12_who_5_0 (v1 : Int32) (v2 : Int32) (v3 : Int32) (v4 : Int32) (μ : XM) : h12_who_5 0 v1 v2 v3 v4 μ = none := rfl
noncomputable def k12_who (n : Nat) (p1 : Int32) (p2 : Int32) (μ : XM) : XR :=
  vI 0 fun x1 =>
  vI 0 fun x2 =>
  h12_who_5 n p1 p2 x1 x2 μ
set_option maxRecDepth 100000 in
theorem q12_who (n : Nat) (p1 : Int32) (p2 : Int32) (μ : XM) : xrun t12_who e12_who (xrtk (some .int)) 36 n (xlo [xr 12 0 0, xi p1, xi p2] 5) μ = k12_who n p1 p2 μ := rfl
theorem x12_who : ∃ f : Int32 → Int32 → XM → XR, ∀ (p1 : Int32) (p2 : Int32) (μ : XM), f p1 p2 μ = k12_who 20000 p1 p2 μ := ⟨fun p1 p2 μ => k12_who 20000 p1 p2 μ, fun p1 p2 μ => rfl⟩
noncomputable def f12_who : Int32 → Int32 → XM → XR := Classical.choose x12_who
theorem f12_who_e (p1 : Int32) (p2 : Int32) (μ : XM) : f12_who p1 p2 μ = k12_who 20000 p1 p2 μ := Classical.choose_spec x12_who p1 p2 μ
noncomputable def F12_who : XF := fun av μ => match av with
  | [.inr (.inr (some (t0, i0, 0))), .inl p1, .inl p2] => bif Nat.beq t0 12 && Nat.beq i0 0 then f12_who p1 p2 μ else none
  | _ => none
set_option maxRecDepth 100000 in
theorem c12_who {X : XP} (hX : XOK X) (l : Launch) : Ctr X l y12_who prog_14_method_58_code 5 (some .int) (xrm 2) 0 0 F12_who :=
  Ctr_of (tab := t12_who) (env := e12_who) (K := 36) (N := 20000) (fl := fl12) (cl := cl12) (ll := ll12) (jl := jl12) hX mf12_who.2.2.2 ⟨by decide +kernel, flk12, clk12, llk12, jlk12⟩
   (List.forall_mem_cons.mpr ⟨xcal_v (na := 0) (c12_guests hX l) mf12_guests ⟨rfl, rfl⟩ ml12_282 mi12_guests me12_guests (xrm_ok (by omega) (by decide)) rfl (by decide) (by decide +kernel), fun _ h => absurd h List.not_mem_nil⟩)
   (xrm_1 (by decide)) ⟨_, _, rfl, rfl⟩ (fun av μ r μ' h => by
    unfold F12_who at h
    split at h
    · replace h := cond_inv h; obtain ⟨hb, h⟩ := h
      simp only [Bool.and_eq_true] at hb
      obtain ⟨g0, g1⟩ := hb
      obtain rfl := Nat.eq_of_beq_eq_true g0
      obtain rfl := Nat.eq_of_beq_eq_true g1
      exact ⟨Nat.le_of_ble_eq_true rfl, (q12_who _ _ _ _).trans ((f12_who_e _ _ _).symm.trans h)⟩
    · cases h)
def t12_isUnder : List XE := [(0, .aload_n 0, 0, 0, 0, 0, []),
  (1, .iload_n 2, 2, 0, 0, 0, []),
  (2, .iconst 0, 0, 0, 0, 0, []),
  (3, .invokevirtual 286, 3, 12, 0, 0, []),
  (6, .istore_n 3, 3, 0, 0, 0, []),
  (7, .aload_n 0, 0, 0, 0, 0, []),
  (8, .getfield 121, 12, 24, 0, 0, []),
  (11, .iload_n 1, 1, 0, 0, 0, []),
  (12, .bipush 15, 0, 0, 15, 0, []),
  (14, .iadd, 0, 0, 0, 0, []),
  (15, .iload_n 2, 2, 0, 0, 0, []),
  (16, .iadd, 0, 0, 0, 0, []),
  (17, .iaload, 0, 0, 0, 0, []),
  (18, .istore 4, 4, 0, 0, 0, []),
  (20, .aload_n 0, 0, 0, 0, 0, []),
  (21, .iload_n 1, 1, 0, 0, 0, []),
  (22, .iload_n 2, 2, 0, 0, 0, []),
  (23, .invokevirtual 310, 3, 12, 0, 0, []),
  (26, .ifCond .eq 34, 60, 0, 0, 0, []),
  (29, .aload_n 0, 0, 0, 0, 0, []),
  (30, .getfield 121, 12, 24, 0, 0, []),
  (33, .iload_n 1, 1, 0, 0, 0, []),
  (34, .iconst 2, 0, 0, 2, 0, []),
  (35, .iadd, 0, 0, 0, 0, []),
  (36, .iaload, 0, 0, 0, 0, []),
  (37, .aload_n 0, 0, 0, 0, 0, []),
  (38, .iload_n 2, 2, 0, 0, 0, []),
  (39, .iconst 2, 0, 0, 2, 0, []),
  (40, .invokevirtual 286, 3, 12, 0, 0, []),
  (43, .if_icmp .le 17, 60, 0, 0, 0, []),
  (46, .iload_n 3, 3, 0, 0, 0, []),
  (47, .iconst 1, 0, 0, 1, 0, []),
  (48, .if_icmp .eq 12, 60, 0, 0, 0, []),
  (51, .iload_n 3, 3, 0, 0, 0, []),
  (52, .iconst 3, 0, 0, 3, 0, []),
  (53, .if_icmp .eq 7, 60, 0, 0, 0, []),
  (56, .iconst 1, 0, 0, 1, 0, []),
  (57, .goto 4, 61, 0, 0, 0, []),
  (60, .iconst 0, 0, 0, 0, 0, []),
  (61, .nop, 21, 0, 0, 0, []),
  (61, .istore 5, 5, 0, 0, 0, []),
  (63, .iload 5, 5, 0, 0, 0, []),
  (65, .ifCond .eq 22, 87, 0, 0, 0, []),
  (68, .iload 4, 4, 0, 0, 0, []),
  (70, .ifCond .lt 13, 83, 0, 0, 0, []),
  (73, .aload_n 0, 0, 0, 0, 0, []),
  (74, .iload 4, 4, 0, 0, 0, []),
  (76, .iload_n 2, 2, 0, 0, 0, []),
  (77, .invokevirtual 314, 3, 12, 0, 0, []),
  (80, .ifCond .ne 7, 87, 0, 0, 0, []),
  (83, .iconst 1, 0, 0, 1, 0, []),
  (84, .goto 4, 88, 0, 0, 0, []),
  (87, .iconst 0, 0, 0, 0, 0, []),
  (88, .ireturn, 0, 0, 0, 0, [])]
noncomputable def e12_isUnder : XN := [(286, 1, 3, 12, F12_guestOf), (310, 1, 3, 12, F12_isIn), (314, 1, 3, 12, F12_doesBear)]
noncomputable def h12_isUnder_61 (n : Nat) (v2 : Int32) (v4 : Int32) (s0 : Int32) (μ : XM) : XR := arr t12_isUnder e12_isUnder 2 59 n 61 [some (xr 12 0 0), none, some (xi v2), none, some (xi v4), none] [xi s0] μ
set_option maxRecDepth 100000 in
theorem h12_isUnder_61_s (n : Nat) (v2 : Int32) (v4 : Int32) (s0 : Int32) (μ : XM) : h12_isUnder_61 (n + 1) v2 v4 s0 μ = (
  vI s0 fun x1 =>
  xite (x1 = 0) (
    xrb 0 μ) (
    xite (v4 < 0) (
      xrb 1 μ) (
      bI (f12_doesBear v4 v2 μ) fun r3 m2 =>
      xite (r3 = 0) (
        xrb 1 m2) (
        xrb 0 m2)))) := rfl
theorem h12_isUnder_61_0 (v2 : Int32) (v4 : Int32) (s0 : Int32) (μ : XM) : h12_isUnder_61 0 v2 v4 s0 μ = none := rfl
noncomputable def k12_isUnder (n : Nat) (p1 : Int32) (p2 : Int32) (μ : XM) : XR :=
  bI (f12_guestOf p2 0 μ) fun r2 m1 =>
  vI r2 fun x3 =>
  xck (xin ((p1 + 15) + p2) 1081) <|
  vI (aI m1 12 0 24 (Int32.toNatClampNeg ((p1 + 15) + p2))) fun x4 =>
  bI (f12_isIn p1 p2 m1) fun r6 m5 =>
  xite (r6 = 0) (
    h12_isUnder_61 n p2 x4 0 m5) (
    xck (xin (p1 + 2) 1081) <|
    bI (f12_guestOf p2 2 m5) fun r8 m7 =>
    xite (r8 < (aI m5 12 0 24 (Int32.toNatClampNeg (p1 + 2)))) (
      xite (x3 = 1) (
        h12_isUnder_61 n p2 x4 0 m7) (
        xite (x3 = 3) (
          h12_isUnder_61 n p2 x4 0 m7) (
          h12_isUnder_61 n p2 x4 1 m7))) (
      h12_isUnder_61 n p2 x4 0 m7))
set_option maxRecDepth 100000 in
theorem q12_isUnder (n : Nat) (p1 : Int32) (p2 : Int32) (μ : XM) : xrun t12_isUnder e12_isUnder (xrtk (some .boolean)) 59 n (xlo [xr 12 0 0, xi p1, xi p2] 6) μ = k12_isUnder n p1 p2 μ := rfl
theorem x12_isUnder : ∃ f : Int32 → Int32 → XM → XR, ∀ (p1 : Int32) (p2 : Int32) (μ : XM), f p1 p2 μ = k12_isUnder 20000 p1 p2 μ := ⟨fun p1 p2 μ => k12_isUnder 20000 p1 p2 μ, fun p1 p2 μ => rfl⟩
noncomputable def f12_isUnder : Int32 → Int32 → XM → XR := Classical.choose x12_isUnder
theorem f12_isUnder_e (p1 : Int32) (p2 : Int32) (μ : XM) : f12_isUnder p1 p2 μ = k12_isUnder 20000 p1 p2 μ := Classical.choose_spec x12_isUnder p1 p2 μ
noncomputable def F12_isUnder : XF := fun av μ => match av with
  | [.inr (.inr (some (t0, i0, 0))), .inl p1, .inl p2] => bif Nat.beq t0 12 && Nat.beq i0 0 then f12_isUnder p1 p2 μ else none
  | _ => none
set_option maxRecDepth 100000 in
theorem c12_isUnder {X : XP} (hX : XOK X) (l : Launch) : Ctr X l y12_isUnder prog_14_method_59_code 6 (some .boolean) (xrm 4) 0 0 F12_isUnder :=
  Ctr_of (tab := t12_isUnder) (env := e12_isUnder) (K := 59) (N := 20000) (fl := fl12) (cl := cl12) (ll := ll12) (jl := jl12) hX mf12_isUnder.2.2.2 ⟨by decide +kernel, flk12, clk12, llk12, jlk12⟩
   (List.forall_mem_cons.mpr ⟨xcal_v (na := 2) (c12_guestOf hX l) mf12_guestOf ⟨rfl, rfl⟩ ml12_286 mi12_guestOf me12_guestOf (xrm_ok (by omega) (by decide)) rfl (by decide) (by decide +kernel), List.forall_mem_cons.mpr ⟨xcal_v (na := 2) (c12_isIn hX l) mf12_isIn ⟨rfl, rfl⟩ ml12_310 mi12_isIn me12_isIn (xrm_ok (by omega) (by decide)) rfl (by decide) (by decide +kernel), List.forall_mem_cons.mpr ⟨xcal_v (na := 2) (c12_doesBear hX l) mf12_doesBear ⟨rfl, rfl⟩ ml12_314 mi12_doesBear me12_doesBear (xrm_ok (by omega) (by decide)) rfl (by decide) (by decide +kernel), fun _ h => absurd h List.not_mem_nil⟩⟩⟩)
   (xrm_1 (by decide)) ⟨_, _, rfl, rfl⟩ (fun av μ r μ' h => by
    unfold F12_isUnder at h
    split at h
    · replace h := cond_inv h; obtain ⟨hb, h⟩ := h
      simp only [Bool.and_eq_true] at hb
      obtain ⟨g0, g1⟩ := hb
      obtain rfl := Nat.eq_of_beq_eq_true g0
      obtain rfl := Nat.eq_of_beq_eq_true g1
      exact ⟨Nat.le_of_ble_eq_true rfl, (q12_isUnder _ _ _ _).trans ((f12_isUnder_e _ _ _).symm.trans h)⟩
    · cases h)
def t12_doesCry : List XE := [(0, .aload_n 0, 0, 0, 0, 0, []),
  (1, .iload_n 1, 1, 0, 0, 0, []),
  (2, .iload_n 2, 2, 0, 0, 0, []),
  (3, .invokevirtual 310, 3, 12, 0, 0, []),
  (6, .ifCond .eq 48, 54, 0, 0, 0, []),
  (9, .aload_n 0, 0, 0, 0, 0, []),
  (10, .iload_n 2, 2, 0, 0, 0, []),
  (11, .iconst 0, 0, 0, 0, 0, []),
  (12, .invokevirtual 286, 3, 12, 0, 0, []),
  (15, .iconst 3, 0, 0, 3, 0, []),
  (16, .if_icmp .eq 38, 54, 0, 0, 0, []),
  (19, .aload_n 0, 0, 0, 0, 0, []),
  (20, .getfield 121, 12, 24, 0, 0, []),
  (23, .iload_n 1, 1, 0, 0, 0, []),
  (24, .bipush 15, 0, 0, 15, 0, []),
  (26, .iadd, 0, 0, 0, 0, []),
  (27, .iload_n 2, 2, 0, 0, 0, []),
  (28, .iadd, 0, 0, 0, 0, []),
  (29, .iaload, 0, 0, 0, 0, []),
  (30, .ifCond .ge 24, 54, 0, 0, 0, []),
  (33, .aload_n 0, 0, 0, 0, 0, []),
  (34, .getfield 121, 12, 24, 0, 0, []),
  (37, .iload_n 1, 1, 0, 0, 0, []),
  (38, .iconst 2, 0, 0, 2, 0, []),
  (39, .iadd, 0, 0, 0, 0, []),
  (40, .iaload, 0, 0, 0, 0, []),
  (41, .aload_n 0, 0, 0, 0, 0, []),
  (42, .iload_n 2, 2, 0, 0, 0, []),
  (43, .iconst 2, 0, 0, 2, 0, []),
  (44, .invokevirtual 286, 3, 12, 0, 0, []),
  (47, .if_icmp .le 7, 54, 0, 0, 0, []),
  (50, .iconst 1, 0, 0, 1, 0, []),
  (51, .goto 4, 55, 0, 0, 0, []),
  (54, .iconst 0, 0, 0, 0, 0, []),
  (55, .ireturn, 0, 0, 0, 0, [])]
noncomputable def e12_doesCry : XN := [(310, 1, 3, 12, F12_isIn), (286, 1, 3, 12, F12_guestOf)]
noncomputable def k12_doesCry (p1 : Int32) (p2 : Int32) (μ : XM) : XR :=
  bI (f12_isIn p1 p2 μ) fun r2 m1 =>
  xite (r2 = 0) (
    xrb 0 m1) (
    bI (f12_guestOf p2 0 m1) fun r4 m3 =>
    xite (r4 = 3) (
      xrb 0 m3) (
      xck (xin ((p1 + 15) + p2) 1081) <|
      xite ((aI m3 12 0 24 (Int32.toNatClampNeg ((p1 + 15) + p2))) < 0) (
        xck (xin (p1 + 2) 1081) <|
        bI (f12_guestOf p2 2 m3) fun r6 m5 =>
        xite (r6 < (aI m3 12 0 24 (Int32.toNatClampNeg (p1 + 2)))) (
          xrb 1 m5) (
          xrb 0 m5)) (
        xrb 0 m3)))
set_option maxRecDepth 100000 in
theorem q12_doesCry (n : Nat) (p1 : Int32) (p2 : Int32) (μ : XM) : xrun t12_doesCry e12_doesCry (xrtk (some .boolean)) 40 n (xlo [xr 12 0 0, xi p1, xi p2] 3) μ = k12_doesCry p1 p2 μ := rfl
theorem x12_doesCry : ∃ f : Int32 → Int32 → XM → XR, ∀ (p1 : Int32) (p2 : Int32) (μ : XM), f p1 p2 μ = k12_doesCry p1 p2 μ := ⟨fun p1 p2 μ => k12_doesCry p1 p2 μ, fun p1 p2 μ => rfl⟩
noncomputable def f12_doesCry : Int32 → Int32 → XM → XR := Classical.choose x12_doesCry
theorem f12_doesCry_e (p1 : Int32) (p2 : Int32) (μ : XM) : f12_doesCry p1 p2 μ = k12_doesCry p1 p2 μ := Classical.choose_spec x12_doesCry p1 p2 μ
noncomputable def F12_doesCry : XF := fun av μ => match av with
  | [.inr (.inr (some (t0, i0, 0))), .inl p1, .inl p2] => bif Nat.beq t0 12 && Nat.beq i0 0 then f12_doesCry p1 p2 μ else none
  | _ => none
set_option maxRecDepth 100000 in
theorem c12_doesCry {X : XP} (hX : XOK X) (l : Launch) : Ctr X l y12_doesCry prog_14_method_60_code 3 (some .boolean) (xrm 2) 0 0 F12_doesCry :=
  Ctr_of (tab := t12_doesCry) (env := e12_doesCry) (K := 40) (N := 20000) (fl := fl12) (cl := cl12) (ll := ll12) (jl := jl12) hX mf12_doesCry.2.2.2 ⟨by decide +kernel, flk12, clk12, llk12, jlk12⟩
   (List.forall_mem_cons.mpr ⟨xcal_v (na := 2) (c12_isIn hX l) mf12_isIn ⟨rfl, rfl⟩ ml12_310 mi12_isIn me12_isIn (xrm_ok (by omega) (by decide)) rfl (by decide) (by decide +kernel), List.forall_mem_cons.mpr ⟨xcal_v (na := 2) (c12_guestOf hX l) mf12_guestOf ⟨rfl, rfl⟩ ml12_286 mi12_guestOf me12_guestOf (xrm_ok (by omega) (by decide)) rfl (by decide) (by decide +kernel), fun _ h => absurd h List.not_mem_nil⟩⟩)
   (xrm_1 (by decide)) ⟨_, _, rfl, rfl⟩ (fun av μ r μ' h => by
    unfold F12_doesCry at h
    split at h
    · replace h := cond_inv h; obtain ⟨hb, h⟩ := h
      simp only [Bool.and_eq_true] at hb
      obtain ⟨g0, g1⟩ := hb
      obtain rfl := Nat.eq_of_beq_eq_true g0
      obtain rfl := Nat.eq_of_beq_eq_true g1
      exact ⟨Nat.le_of_ble_eq_true rfl, (q12_doesCry _ _ _ _).trans ((f12_doesCry_e _ _ _).symm.trans h)⟩
    · cases h)
def t12_criers : List XE := [(0, .iconst 0, 0, 0, 0, 0, []),
  (1, .istore_n 2, 2, 0, 0, 0, []),
  (2, .iconst 0, 0, 0, 0, 0, []),
  (3, .istore_n 3, 3, 0, 0, 0, []),
  (4, .nop, 15, 0, 0, 0, []),
  (4, .iload_n 3, 3, 0, 0, 0, []),
  (5, .aload_n 0, 0, 0, 0, 0, []),
  (6, .invokevirtual 282, 1, 12, 0, 0, []),
  (9, .if_icmp .ge 28, 37, 0, 0, 0, []),
  (12, .iload_n 2, 2, 0, 0, 0, []),
  (13, .aload_n 0, 0, 0, 0, 0, []),
  (14, .iload_n 1, 1, 0, 0, 0, []),
  (15, .iload_n 3, 3, 0, 0, 0, []),
  (16, .invokevirtual 317, 3, 12, 0, 0, []),
  (19, .ifCond .eq 9, 28, 0, 0, 0, []),
  (22, .iconst 1, 0, 0, 1, 0, []),
  (23, .iload_n 3, 3, 0, 0, 0, []),
  (24, .ishl, 0, 0, 0, 0, []),
  (25, .goto 4, 29, 0, 0, 0, []),
  (28, .iconst 0, 0, 0, 0, 0, []),
  (29, .ior, 0, 0, 0, 0, []),
  (30, .istore_n 2, 2, 0, 0, 0, []),
  (31, .iinc 3 1, 3, 0, 1, 0, []),
  (34, .goto (-30), 4, 0, 0, 0, []),
  (37, .iload_n 2, 2, 0, 0, 0, []),
  (38, .ireturn, 0, 0, 0, 0, [])]
noncomputable def e12_criers : XN := [(282, 1, 1, 12, F12_guests), (317, 1, 3, 12, F12_doesCry)]
noncomputable def h12_criers_4 (n : Nat) (v1 : Int32) (v2 : Int32) (v3 : Int32) (μ : XM) : XR := arr t12_criers e12_criers 1 31 n 4 [some (xr 12 0 0), some (xi v1), some (xi v2), some (xi v3)] [] μ
set_option maxRecDepth 100000 in
theorem h12_criers_4_s (n : Nat) (v1 : Int32) (v2 : Int32) (v3 : Int32) (μ : XM) : h12_criers_4 (n + 1) v1 v2 v3 μ = (
  bI (f12_guests μ) fun r2 m1 =>
  xite (v3 < r2) (
    bI (f12_doesCry v1 v3 m1) fun r4 m3 =>
    xite (r4 = 0) (
      vI (v2 ||| 0) fun x5 =>
      vI (v3 + 1) fun x6 =>
      h12_criers_4 n v1 x5 x6 m3) (
      vI (v2 ||| (1 <<< (v3 &&& 31))) fun x7 =>
      vI (v3 + 1) fun x8 =>
      h12_criers_4 n v1 x7 x8 m3)) (
    xri v2 m1)) := rfl
theorem h12_criers_4_0 (v1 : Int32) (v2 : Int32) (v3 : Int32) (μ : XM) : h12_criers_4 0 v1 v2 v3 μ = none := rfl
noncomputable def k12_criers (n : Nat) (p1 : Int32) (μ : XM) : XR :=
  vI 0 fun x1 =>
  vI 0 fun x2 =>
  h12_criers_4 n p1 x1 x2 μ
set_option maxRecDepth 100000 in
theorem q12_criers (n : Nat) (p1 : Int32) (μ : XM) : xrun t12_criers e12_criers (xrtk (some .int)) 31 n (xlo [xr 12 0 0, xi p1] 4) μ = k12_criers n p1 μ := rfl
theorem x12_criers : ∃ f : Int32 → XM → XR, ∀ (p1 : Int32) (μ : XM), f p1 μ = k12_criers 20000 p1 μ := ⟨fun p1 μ => k12_criers 20000 p1 μ, fun p1 μ => rfl⟩
noncomputable def f12_criers : Int32 → XM → XR := Classical.choose x12_criers
theorem f12_criers_e (p1 : Int32) (μ : XM) : f12_criers p1 μ = k12_criers 20000 p1 μ := Classical.choose_spec x12_criers p1 μ
noncomputable def F12_criers : XF := fun av μ => match av with
  | [.inr (.inr (some (t0, i0, 0))), .inl p1] => bif Nat.beq t0 12 && Nat.beq i0 0 then f12_criers p1 μ else none
  | _ => none
set_option maxRecDepth 100000 in
theorem c12_criers {X : XP} (hX : XOK X) (l : Launch) : Ctr X l y12_criers prog_14_method_61_code 4 (some .int) (xrm 3) 0 0 F12_criers :=
  Ctr_of (tab := t12_criers) (env := e12_criers) (K := 31) (N := 20000) (fl := fl12) (cl := cl12) (ll := ll12) (jl := jl12) hX mf12_criers.2.2.2 ⟨by decide +kernel, flk12, clk12, llk12, jlk12⟩
   (List.forall_mem_cons.mpr ⟨xcal_v (na := 0) (c12_guests hX l) mf12_guests ⟨rfl, rfl⟩ ml12_282 mi12_guests me12_guests (xrm_ok (by omega) (by decide)) rfl (by decide) (by decide +kernel), List.forall_mem_cons.mpr ⟨xcal_v (na := 2) (c12_doesCry hX l) mf12_doesCry ⟨rfl, rfl⟩ ml12_317 mi12_doesCry me12_doesCry (xrm_ok (by omega) (by decide)) rfl (by decide) (by decide +kernel), fun _ h => absurd h List.not_mem_nil⟩⟩)
   (xrm_1 (by decide)) ⟨_, _, rfl, rfl⟩ (fun av μ r μ' h => by
    unfold F12_criers at h
    split at h
    · replace h := cond_inv h; obtain ⟨hb, h⟩ := h
      simp only [Bool.and_eq_true] at hb
      obtain ⟨g0, g1⟩ := hb
      obtain rfl := Nat.eq_of_beq_eq_true g0
      obtain rfl := Nat.eq_of_beq_eq_true g1
      exact ⟨Nat.le_of_ble_eq_true rfl, (q12_criers _ _ _).trans ((f12_criers_e _ _).symm.trans h)⟩
    · cases h)
def t12_wall : List XE := [(0, .iconst 1, 0, 0, 1, 0, []),
  (1, .aload_n 0, 0, 0, 0, 0, []),
  (2, .invokevirtual 298, 1, 12, 0, 0, []),
  (5, .ishl, 0, 0, 0, 0, []),
  (6, .iconst 1, 0, 0, 1, 0, []),
  (7, .isub, 0, 0, 0, 0, []),
  (8, .istore_n 2, 2, 0, 0, 0, []),
  (9, .iconst 0, 0, 0, 0, 0, []),
  (10, .istore_n 3, 3, 0, 0, 0, []),
  (11, .nop, 15, 0, 0, 0, []),
  (11, .iload_n 3, 3, 0, 0, 0, []),
  (12, .aload_n 0, 0, 0, 0, 0, []),
  (13, .invokevirtual 282, 1, 12, 0, 0, []),
  (16, .if_icmp .ge 45, 61, 0, 0, 0, []),
  (19, .iload_n 2, 2, 0, 0, 0, []),
  (20, .aload_n 0, 0, 0, 0, 0, []),
  (21, .getfield 121, 12, 24, 0, 0, []),
  (24, .iload_n 1, 1, 0, 0, 0, []),
  (25, .bipush 15, 0, 0, 15, 0, []),
  (27, .iadd, 0, 0, 0, 0, []),
  (28, .iload_n 3, 3, 0, 0, 0, []),
  (29, .iadd, 0, 0, 0, 0, []),
  (30, .iaload, 0, 0, 0, 0, []),
  (31, .ifCond .ge 7, 38, 0, 0, 0, []),
  (34, .iconst (-1), 0, 0, (-1), 0, []),
  (35, .goto 18, 53, 0, 0, 0, []),
  (38, .iconst 1, 0, 0, 1, 0, []),
  (39, .aload_n 0, 0, 0, 0, 0, []),
  (40, .getfield 121, 12, 24, 0, 0, []),
  (43, .iload_n 1, 1, 0, 0, 0, []),
  (44, .bipush 15, 0, 0, 15, 0, []),
  (46, .iadd, 0, 0, 0, 0, []),
  (47, .iload_n 3, 3, 0, 0, 0, []),
  (48, .iadd, 0, 0, 0, 0, []),
  (49, .iaload, 0, 0, 0, 0, []),
  (50, .ishl, 0, 0, 0, 0, []),
  (51, .iconst (-1), 0, 0, (-1), 0, []),
  (52, .ixor, 0, 0, 0, 0, []),
  (53, .iand, 0, 0, 0, 0, []),
  (54, .istore_n 2, 2, 0, 0, 0, []),
  (55, .iinc 3 1, 3, 0, 1, 0, []),
  (58, .goto (-47), 11, 0, 0, 0, []),
  (61, .iload_n 2, 2, 0, 0, 0, []),
  (62, .ireturn, 0, 0, 0, 0, [])]
noncomputable def e12_wall : XN := [(298, 1, 1, 12, F12_belts), (282, 1, 1, 12, F12_guests)]
noncomputable def h12_wall_11 (n : Nat) (v1 : Int32) (v2 : Int32) (v3 : Int32) (μ : XM) : XR := arr t12_wall e12_wall 1 49 n 11 [some (xr 12 0 0), some (xi v1), some (xi v2), some (xi v3)] [] μ
set_option maxRecDepth 100000 in
theorem h12_wall_11_s (n : Nat) (v1 : Int32) (v2 : Int32) (v3 : Int32) (μ : XM) : h12_wall_11 (n + 1) v1 v2 v3 μ = (
  bI (f12_guests μ) fun r2 m1 =>
  xite (v3 < r2) (
    xck (xin ((v1 + 15) + v3) 1081) <|
    xite ((aI m1 12 0 24 (Int32.toNatClampNeg ((v1 + 15) + v3))) < 0) (
      vI (v2 &&& (-1)) fun x3 =>
      vI (v3 + 1) fun x4 =>
      h12_wall_11 n v1 x3 x4 m1) (
      xck (xin ((v1 + 15) + v3) 1081) <|
      vI (v2 &&& ((1 <<< ((aI m1 12 0 24 (Int32.toNatClampNeg ((v1 + 15) + v3))) &&& 31)) ^^^ (-1))) fun x5 =>
      vI (v3 + 1) fun x6 =>
      h12_wall_11 n v1 x5 x6 m1)) (
    xri v2 m1)) := rfl
theorem h12_wall_11_0 (v1 : Int32) (v2 : Int32) (v3 : Int32) (μ : XM) : h12_wall_11 0 v1 v2 v3 μ = none := rfl
noncomputable def k12_wall (n : Nat) (p1 : Int32) (μ : XM) : XR :=
  bI (f12_belts μ) fun r2 m1 =>
  vI ((1 <<< (r2 &&& 31)) - 1) fun x3 =>
  vI 0 fun x4 =>
  h12_wall_11 n p1 x3 x4 m1
set_option maxRecDepth 100000 in
theorem q12_wall (n : Nat) (p1 : Int32) (μ : XM) : xrun t12_wall e12_wall (xrtk (some .int)) 49 n (xlo [xr 12 0 0, xi p1] 4) μ = k12_wall n p1 μ := rfl
theorem x12_wall : ∃ f : Int32 → XM → XR, ∀ (p1 : Int32) (μ : XM), f p1 μ = k12_wall 20000 p1 μ := ⟨fun p1 μ => k12_wall 20000 p1 μ, fun p1 μ => rfl⟩
noncomputable def f12_wall : Int32 → XM → XR := Classical.choose x12_wall
theorem f12_wall_e (p1 : Int32) (μ : XM) : f12_wall p1 μ = k12_wall 20000 p1 μ := Classical.choose_spec x12_wall p1 μ
noncomputable def F12_wall : XF := fun av μ => match av with
  | [.inr (.inr (some (t0, i0, 0))), .inl p1] => bif Nat.beq t0 12 && Nat.beq i0 0 then f12_wall p1 μ else none
  | _ => none
set_option maxRecDepth 100000 in
theorem c12_wall {X : XP} (hX : XOK X) (l : Launch) : Ctr X l y12_wall prog_14_method_62_code 4 (some .int) (xrm 2) 0 0 F12_wall :=
  Ctr_of (tab := t12_wall) (env := e12_wall) (K := 49) (N := 20000) (fl := fl12) (cl := cl12) (ll := ll12) (jl := jl12) hX mf12_wall.2.2.2 ⟨by decide +kernel, flk12, clk12, llk12, jlk12⟩
   (List.forall_mem_cons.mpr ⟨xcal_v (na := 0) (c12_belts hX l) mf12_belts ⟨rfl, rfl⟩ ml12_298 mi12_belts me12_belts (xrm_ok (by omega) (by decide)) rfl (by decide) (by decide +kernel), List.forall_mem_cons.mpr ⟨xcal_v (na := 0) (c12_guests hX l) mf12_guests ⟨rfl, rfl⟩ ml12_282 mi12_guests me12_guests (xrm_ok (by omega) (by decide)) rfl (by decide) (by decide +kernel), fun _ h => absurd h List.not_mem_nil⟩⟩)
   (xrm_1 (by decide)) ⟨_, _, rfl, rfl⟩ (fun av μ r μ' h => by
    unfold F12_wall at h
    split at h
    · replace h := cond_inv h; obtain ⟨hb, h⟩ := h
      simp only [Bool.and_eq_true] at hb
      obtain ⟨g0, g1⟩ := hb
      obtain rfl := Nat.eq_of_beq_eq_true g0
      obtain rfl := Nat.eq_of_beq_eq_true g1
      exact ⟨Nat.le_of_ble_eq_true rfl, (q12_wall _ _ _).trans ((f12_wall_e _ _).symm.trans h)⟩
    · cases h)
def t12_isFree : List XE := [(0, .aload_n 0, 0, 0, 0, 0, []),
  (1, .getfield 121, 12, 24, 0, 0, []),
  (4, .iload_n 1, 1, 0, 0, 0, []),
  (5, .bipush 27, 0, 0, 27, 0, []),
  (7, .iadd, 0, 0, 0, 0, []),
  (8, .iload_n 2, 2, 0, 0, 0, []),
  (9, .iadd, 0, 0, 0, 0, []),
  (10, .iaload, 0, 0, 0, 0, []),
  (11, .ifCond .ne 7, 18, 0, 0, 0, []),
  (14, .iconst 1, 0, 0, 1, 0, []),
  (15, .goto 4, 19, 0, 0, 0, []),
  (18, .iconst 0, 0, 0, 0, 0, []),
  (19, .ireturn, 0, 0, 0, 0, [])]
noncomputable def e12_isFree : XN := []
noncomputable def k12_isFree (p1 : Int32) (p2 : Int32) (μ : XM) : XR :=
  xck (xin ((p1 + 27) + p2) 1081) <|
  xite ((aI μ 12 0 24 (Int32.toNatClampNeg ((p1 + 27) + p2))) = 0) (
    xrb 1 μ) (
    xrb 0 μ)
set_option maxRecDepth 100000 in
theorem q12_isFree (n : Nat) (p1 : Int32) (p2 : Int32) (μ : XM) : xrun t12_isFree e12_isFree (xrtk (some .boolean)) 18 n (xlo [xr 12 0 0, xi p1, xi p2] 3) μ = k12_isFree p1 p2 μ := rfl
theorem x12_isFree : ∃ f : Int32 → Int32 → XM → XR, ∀ (p1 : Int32) (p2 : Int32) (μ : XM), f p1 p2 μ = k12_isFree p1 p2 μ := ⟨fun p1 p2 μ => k12_isFree p1 p2 μ, fun p1 p2 μ => rfl⟩
noncomputable def f12_isFree : Int32 → Int32 → XM → XR := Classical.choose x12_isFree
theorem f12_isFree_e (p1 : Int32) (p2 : Int32) (μ : XM) : f12_isFree p1 p2 μ = k12_isFree p1 p2 μ := Classical.choose_spec x12_isFree p1 p2 μ
noncomputable def F12_isFree : XF := fun av μ => match av with
  | [.inr (.inr (some (t0, i0, 0))), .inl p1, .inl p2] => bif Nat.beq t0 12 && Nat.beq i0 0 then f12_isFree p1 p2 μ else none
  | _ => none
set_option maxRecDepth 100000 in
theorem c12_isFree {X : XP} (hX : XOK X) (l : Launch) : Ctr X l y12_isFree prog_14_method_63_code 3 (some .boolean) (xrm 1) 0 0 F12_isFree :=
  Ctr_of (tab := t12_isFree) (env := e12_isFree) (K := 18) (N := 20000) (fl := fl12) (cl := cl12) (ll := ll12) (jl := jl12) hX mf12_isFree.2.2.2 ⟨by decide +kernel, flk12, clk12, llk12, jlk12⟩
   (fun _ h => absurd h List.not_mem_nil)
   (xrm_1 (by decide)) ⟨_, _, rfl, rfl⟩ (fun av μ r μ' h => by
    unfold F12_isFree at h
    split at h
    · replace h := cond_inv h; obtain ⟨hb, h⟩ := h
      simp only [Bool.and_eq_true] at hb
      obtain ⟨g0, g1⟩ := hb
      obtain rfl := Nat.eq_of_beq_eq_true g0
      obtain rfl := Nat.eq_of_beq_eq_true g1
      exact ⟨Nat.le_of_ble_eq_true rfl, (q12_isFree _ _ _ _).trans ((f12_isFree_e _ _ _).symm.trans h)⟩
    · cases h)
def t12_gapTo : List XE := [(0, .aload_n 0, 0, 0, 0, 0, []),
  (1, .iload_n 2, 2, 0, 0, 0, []),
  (2, .iconst 0, 0, 0, 0, 0, []),
  (3, .invokevirtual 320, 3, 12, 0, 0, []),
  (6, .aload_n 0, 0, 0, 0, 0, []),
  (7, .getfield 121, 12, 24, 0, 0, []),
  (10, .iload_n 1, 1, 0, 0, 0, []),
  (11, .iconst 3, 0, 0, 3, 0, []),
  (12, .iadd, 0, 0, 0, 0, []),
  (13, .iload_n 3, 3, 0, 0, 0, []),
  (14, .iadd, 0, 0, 0, 0, []),
  (15, .iaload, 0, 0, 0, 0, []),
  (16, .isub, 0, 0, 0, 0, []),
  (17, .istore 4, 4, 0, 0, 0, []),
  (19, .iload 4, 4, 0, 0, 0, []),
  (21, .ifCond .ge 9, 30, 0, 0, 0, []),
  (24, .iload 4, 4, 0, 0, 0, []),
  (26, .ineg, 0, 0, 0, 0, []),
  (27, .goto 5, 32, 0, 0, 0, []),
  (30, .iload 4, 4, 0, 0, 0, []),
  (32, .ireturn, 0, 0, 0, 0, [])]
noncomputable def e12_gapTo : XN := [(320, 1, 3, 12, F12_manOf)]
noncomputable def k12_gapTo (p1 : Int32) (p2 : Int32) (p3 : Int32) (μ : XM) : XR :=
  bI (f12_manOf p2 0 μ) fun r2 m1 =>
  xck (xin ((p1 + 3) + p3) 1081) <|
  vI (r2 - (aI m1 12 0 24 (Int32.toNatClampNeg ((p1 + 3) + p3)))) fun x3 =>
  xite (x3 < 0) (
    xri (-x3) m1) (
    xri x3 m1)
set_option maxRecDepth 100000 in
theorem q12_gapTo (n : Nat) (p1 : Int32) (p2 : Int32) (p3 : Int32) (μ : XM) : xrun t12_gapTo e12_gapTo (xrtk (some .int)) 26 n (xlo [xr 12 0 0, xi p1, xi p2, xi p3] 5) μ = k12_gapTo p1 p2 p3 μ := rfl
theorem x12_gapTo : ∃ f : Int32 → Int32 → Int32 → XM → XR, ∀ (p1 : Int32) (p2 : Int32) (p3 : Int32) (μ : XM), f p1 p2 p3 μ = k12_gapTo p1 p2 p3 μ := ⟨fun p1 p2 p3 μ => k12_gapTo p1 p2 p3 μ, fun p1 p2 p3 μ => rfl⟩
noncomputable def f12_gapTo : Int32 → Int32 → Int32 → XM → XR := Classical.choose x12_gapTo
theorem f12_gapTo_e (p1 : Int32) (p2 : Int32) (p3 : Int32) (μ : XM) : f12_gapTo p1 p2 p3 μ = k12_gapTo p1 p2 p3 μ := Classical.choose_spec x12_gapTo p1 p2 p3 μ
noncomputable def F12_gapTo : XF := fun av μ => match av with
  | [.inr (.inr (some (t0, i0, 0))), .inl p1, .inl p2, .inl p3] => bif Nat.beq t0 12 && Nat.beq i0 0 then f12_gapTo p1 p2 p3 μ else none
  | _ => none
set_option maxRecDepth 100000 in
theorem c12_gapTo {X : XP} (hX : XOK X) (l : Launch) : Ctr X l y12_gapTo prog_14_method_64_code 5 (some .int) (xrm 2) 0 0 F12_gapTo :=
  Ctr_of (tab := t12_gapTo) (env := e12_gapTo) (K := 26) (N := 20000) (fl := fl12) (cl := cl12) (ll := ll12) (jl := jl12) hX mf12_gapTo.2.2.2 ⟨by decide +kernel, flk12, clk12, llk12, jlk12⟩
   (List.forall_mem_cons.mpr ⟨xcal_v (na := 2) (c12_manOf hX l) mf12_manOf ⟨rfl, rfl⟩ ml12_320 mi12_manOf me12_manOf (xrm_ok (by omega) (by decide)) rfl (by decide) (by decide +kernel), fun _ h => absurd h List.not_mem_nil⟩)
   (xrm_1 (by decide)) ⟨_, _, rfl, rfl⟩ (fun av μ r μ' h => by
    unfold F12_gapTo at h
    split at h
    · replace h := cond_inv h; obtain ⟨hb, h⟩ := h
      simp only [Bool.and_eq_true] at hb
      obtain ⟨g0, g1⟩ := hb
      obtain rfl := Nat.eq_of_beq_eq_true g0
      obtain rfl := Nat.eq_of_beq_eq_true g1
      exact ⟨Nat.le_of_ble_eq_true rfl, (q12_gapTo _ _ _ _ _).trans ((f12_gapTo_e _ _ _ _).symm.trans h)⟩
    · cases h)
def t12_couldCast : List XE := [(0, .aload_n 0, 0, 0, 0, 0, []),
  (1, .iload_n 1, 1, 0, 0, 0, []),
  (2, .iload_n 2, 2, 0, 0, 0, []),
  (3, .invokevirtual 323, 3, 12, 0, 0, []),
  (6, .ifCond .eq 56, 62, 0, 0, 0, []),
  (9, .aload_n 0, 0, 0, 0, 0, []),
  (10, .iload_n 1, 1, 0, 0, 0, []),
  (11, .iload_n 3, 3, 0, 0, 0, []),
  (12, .invokevirtual 310, 3, 12, 0, 0, []),
  (15, .ifCond .eq 47, 62, 0, 0, 0, []),
  (18, .aload_n 0, 0, 0, 0, 0, []),
  (19, .iload_n 3, 3, 0, 0, 0, []),
  (20, .iconst 0, 0, 0, 0, 0, []),
  (21, .invokevirtual 286, 3, 12, 0, 0, []),
  (24, .iconst 3, 0, 0, 3, 0, []),
  (25, .if_icmp .eq 37, 62, 0, 0, 0, []),
  (28, .aload_n 0, 0, 0, 0, 0, []),
  (29, .getfield 121, 12, 24, 0, 0, []),
  (32, .iload_n 1, 1, 0, 0, 0, []),
  (33, .bipush 15, 0, 0, 15, 0, []),
  (35, .iadd, 0, 0, 0, 0, []),
  (36, .iload_n 3, 3, 0, 0, 0, []),
  (37, .iadd, 0, 0, 0, 0, []),
  (38, .iaload, 0, 0, 0, 0, []),
  (39, .ifCond .ge 23, 62, 0, 0, 0, []),
  (42, .aload_n 0, 0, 0, 0, 0, []),
  (43, .iload_n 1, 1, 0, 0, 0, []),
  (44, .iload_n 2, 2, 0, 0, 0, []),
  (45, .iload_n 3, 3, 0, 0, 0, []),
  (46, .invokevirtual 326, 4, 12, 0, 0, []),
  (49, .aload_n 0, 0, 0, 0, 0, []),
  (50, .iload_n 2, 2, 0, 0, 0, []),
  (51, .iconst 1, 0, 0, 1, 0, []),
  (52, .invokevirtual 320, 3, 12, 0, 0, []),
  (55, .if_icmp .gt 7, 62, 0, 0, 0, []),
  (58, .iconst 1, 0, 0, 1, 0, []),
  (59, .goto 4, 63, 0, 0, 0, []),
  (62, .iconst 0, 0, 0, 0, 0, []),
  (63, .ireturn, 0, 0, 0, 0, [])]
noncomputable def e12_couldCast : XN := [(323, 1, 3, 12, F12_isFree), (310, 1, 3, 12, F12_isIn), (286, 1, 3, 12, F12_guestOf), (326, 1, 4, 12, F12_gapTo), (320, 1, 3, 12, F12_manOf)]
noncomputable def k12_couldCast (p1 : Int32) (p2 : Int32) (p3 : Int32) (μ : XM) : XR :=
  bI (f12_isFree p1 p2 μ) fun r2 m1 =>
  xite (r2 = 0) (
    xrb 0 m1) (
    bI (f12_isIn p1 p3 m1) fun r4 m3 =>
    xite (r4 = 0) (
      xrb 0 m3) (
      bI (f12_guestOf p3 0 m3) fun r6 m5 =>
      xite (r6 = 3) (
        xrb 0 m5) (
        xck (xin ((p1 + 15) + p3) 1081) <|
        xite ((aI m5 12 0 24 (Int32.toNatClampNeg ((p1 + 15) + p3))) < 0) (
          bI (f12_gapTo p1 p2 p3 m5) fun r8 m7 =>
          bI (f12_manOf p2 1 m7) fun r10 m9 =>
          xite (r10 < r8) (
            xrb 0 m9) (
            xrb 1 m9)) (
          xrb 0 m5))))
set_option maxRecDepth 100000 in
theorem q12_couldCast (n : Nat) (p1 : Int32) (p2 : Int32) (p3 : Int32) (μ : XM) : xrun t12_couldCast e12_couldCast (xrtk (some .boolean)) 44 n (xlo [xr 12 0 0, xi p1, xi p2, xi p3] 4) μ = k12_couldCast p1 p2 p3 μ := rfl
theorem x12_couldCast : ∃ f : Int32 → Int32 → Int32 → XM → XR, ∀ (p1 : Int32) (p2 : Int32) (p3 : Int32) (μ : XM), f p1 p2 p3 μ = k12_couldCast p1 p2 p3 μ := ⟨fun p1 p2 p3 μ => k12_couldCast p1 p2 p3 μ, fun p1 p2 p3 μ => rfl⟩
noncomputable def f12_couldCast : Int32 → Int32 → Int32 → XM → XR := Classical.choose x12_couldCast
theorem f12_couldCast_e (p1 : Int32) (p2 : Int32) (p3 : Int32) (μ : XM) : f12_couldCast p1 p2 p3 μ = k12_couldCast p1 p2 p3 μ := Classical.choose_spec x12_couldCast p1 p2 p3 μ
noncomputable def F12_couldCast : XF := fun av μ => match av with
  | [.inr (.inr (some (t0, i0, 0))), .inl p1, .inl p2, .inl p3] => bif Nat.beq t0 12 && Nat.beq i0 0 then f12_couldCast p1 p2 p3 μ else none
  | _ => none
set_option maxRecDepth 100000 in
theorem c12_couldCast {X : XP} (hX : XOK X) (l : Launch) : Ctr X l y12_couldCast prog_14_method_65_code 4 (some .boolean) (xrm 3) 0 0 F12_couldCast :=
  Ctr_of (tab := t12_couldCast) (env := e12_couldCast) (K := 44) (N := 20000) (fl := fl12) (cl := cl12) (ll := ll12) (jl := jl12) hX mf12_couldCast.2.2.2 ⟨by decide +kernel, flk12, clk12, llk12, jlk12⟩
   (List.forall_mem_cons.mpr ⟨xcal_v (na := 2) (c12_isFree hX l) mf12_isFree ⟨rfl, rfl⟩ ml12_323 mi12_isFree me12_isFree (xrm_ok (by omega) (by decide)) rfl (by decide) (by decide +kernel), List.forall_mem_cons.mpr ⟨xcal_v (na := 2) (c12_isIn hX l) mf12_isIn ⟨rfl, rfl⟩ ml12_310 mi12_isIn me12_isIn (xrm_ok (by omega) (by decide)) rfl (by decide) (by decide +kernel), List.forall_mem_cons.mpr ⟨xcal_v (na := 2) (c12_guestOf hX l) mf12_guestOf ⟨rfl, rfl⟩ ml12_286 mi12_guestOf me12_guestOf (xrm_ok (by omega) (by decide)) rfl (by decide) (by decide +kernel), List.forall_mem_cons.mpr ⟨xcal_v (na := 3) (c12_gapTo hX l) mf12_gapTo ⟨rfl, rfl⟩ ml12_326 mi12_gapTo me12_gapTo (xrm_ok (by omega) (by decide)) rfl (by decide) (by decide +kernel), List.forall_mem_cons.mpr ⟨xcal_v (na := 2) (c12_manOf hX l) mf12_manOf ⟨rfl, rfl⟩ ml12_320 mi12_manOf me12_manOf (xrm_ok (by omega) (by decide)) rfl (by decide) (by decide +kernel), fun _ h => absurd h List.not_mem_nil⟩⟩⟩⟩⟩)
   (xrm_1 (by decide)) ⟨_, _, rfl, rfl⟩ (fun av μ r μ' h => by
    unfold F12_couldCast at h
    split at h
    · replace h := cond_inv h; obtain ⟨hb, h⟩ := h
      simp only [Bool.and_eq_true] at hb
      obtain ⟨g0, g1⟩ := hb
      obtain rfl := Nat.eq_of_beq_eq_true g0
      obtain rfl := Nat.eq_of_beq_eq_true g1
      exact ⟨Nat.le_of_ble_eq_true rfl, (q12_couldCast _ _ _ _ _).trans ((f12_couldCast_e _ _ _ _).symm.trans h)⟩
    · cases h)
def t12_mayCast : List XE := [(0, .aload_n 0, 0, 0, 0, 0, []),
  (1, .iload_n 1, 1, 0, 0, 0, []),
  (2, .iload_n 2, 2, 0, 0, 0, []),
  (3, .iload 4, 4, 0, 0, 0, []),
  (5, .invokevirtual 329, 4, 12, 0, 0, []),
  (8, .ifCond .eq 20, 28, 0, 0, 0, []),
  (11, .aload_n 0, 0, 0, 0, 0, []),
  (12, .iload_n 1, 1, 0, 0, 0, []),
  (13, .invokevirtual 332, 2, 12, 0, 0, []),
  (16, .iload_n 3, 3, 0, 0, 0, []),
  (17, .ishr, 0, 0, 0, 0, []),
  (18, .iconst 1, 0, 0, 1, 0, []),
  (19, .iand, 0, 0, 0, 0, []),
  (20, .iconst 1, 0, 0, 1, 0, []),
  (21, .if_icmp .ne 7, 28, 0, 0, 0, []),
  (24, .iconst 1, 0, 0, 1, 0, []),
  (25, .goto 4, 29, 0, 0, 0, []),
  (28, .iconst 0, 0, 0, 0, 0, []),
  (29, .ireturn, 0, 0, 0, 0, [])]
noncomputable def e12_mayCast : XN := [(329, 1, 4, 12, F12_couldCast), (332, 1, 2, 12, F12_wall)]
noncomputable def k12_mayCast (p1 : Int32) (p2 : Int32) (p3 : Int32) (p4 : Int32) (μ : XM) : XR :=
  bI (f12_couldCast p1 p2 p4 μ) fun r2 m1 =>
  xite (r2 = 0) (
    xrb 0 m1) (
    bI (f12_wall p1 m1) fun r4 m3 =>
    xite (((r4 >>> (p3 &&& 31)) &&& 1) = 1) (
      xrb 1 m3) (
      xrb 0 m3))
set_option maxRecDepth 100000 in
theorem q12_mayCast (n : Nat) (p1 : Int32) (p2 : Int32) (p3 : Int32) (p4 : Int32) (μ : XM) : xrun t12_mayCast e12_mayCast (xrtk (some .boolean)) 24 n (xlo [xr 12 0 0, xi p1, xi p2, xi p3, xi p4] 5) μ = k12_mayCast p1 p2 p3 p4 μ := rfl
theorem x12_mayCast : ∃ f : Int32 → Int32 → Int32 → Int32 → XM → XR, ∀ (p1 : Int32) (p2 : Int32) (p3 : Int32) (p4 : Int32) (μ : XM), f p1 p2 p3 p4 μ = k12_mayCast p1 p2 p3 p4 μ := ⟨fun p1 p2 p3 p4 μ => k12_mayCast p1 p2 p3 p4 μ, fun p1 p2 p3 p4 μ => rfl⟩
noncomputable def f12_mayCast : Int32 → Int32 → Int32 → Int32 → XM → XR := Classical.choose x12_mayCast
theorem f12_mayCast_e (p1 : Int32) (p2 : Int32) (p3 : Int32) (p4 : Int32) (μ : XM) : f12_mayCast p1 p2 p3 p4 μ = k12_mayCast p1 p2 p3 p4 μ := Classical.choose_spec x12_mayCast p1 p2 p3 p4 μ
noncomputable def F12_mayCast : XF := fun av μ => match av with
  | [.inr (.inr (some (t0, i0, 0))), .inl p1, .inl p2, .inl p3, .inl p4] => bif Nat.beq t0 12 && Nat.beq i0 0 then f12_mayCast p1 p2 p3 p4 μ else none
  | _ => none
set_option maxRecDepth 100000 in
theorem c12_mayCast {X : XP} (hX : XOK X) (l : Launch) : Ctr X l y12_mayCast prog_14_method_66_code 5 (some .boolean) (xrm 4) 0 0 F12_mayCast :=
  Ctr_of (tab := t12_mayCast) (env := e12_mayCast) (K := 24) (N := 20000) (fl := fl12) (cl := cl12) (ll := ll12) (jl := jl12) hX mf12_mayCast.2.2.2 ⟨by decide +kernel, flk12, clk12, llk12, jlk12⟩
   (List.forall_mem_cons.mpr ⟨xcal_v (na := 3) (c12_couldCast hX l) mf12_couldCast ⟨rfl, rfl⟩ ml12_329 mi12_couldCast me12_couldCast (xrm_ok (by omega) (by decide)) rfl (by decide) (by decide +kernel), List.forall_mem_cons.mpr ⟨xcal_v (na := 1) (c12_wall hX l) mf12_wall ⟨rfl, rfl⟩ ml12_332 mi12_wall me12_wall (xrm_ok (by omega) (by decide)) rfl (by decide) (by decide +kernel), fun _ h => absurd h List.not_mem_nil⟩⟩)
   (xrm_1 (by decide)) ⟨_, _, rfl, rfl⟩ (fun av μ r μ' h => by
    unfold F12_mayCast at h
    split at h
    · replace h := cond_inv h; obtain ⟨hb, h⟩ := h
      simp only [Bool.and_eq_true] at hb
      obtain ⟨g0, g1⟩ := hb
      obtain rfl := Nat.eq_of_beq_eq_true g0
      obtain rfl := Nat.eq_of_beq_eq_true g1
      exact ⟨Nat.le_of_ble_eq_true rfl, (q12_mayCast _ _ _ _ _ _).trans ((f12_mayCast_e _ _ _ _ _).symm.trans h)⟩
    · cases h)
def t12_casts : List XE := [(0, .aload_n 0, 0, 0, 0, 0, []),
  (1, .getfield 121, 12, 24, 0, 0, []),
  (4, .iload_n 1, 1, 0, 0, 0, []),
  (5, .bipush 15, 0, 0, 15, 0, []),
  (7, .iadd, 0, 0, 0, 0, []),
  (8, .iload 4, 4, 0, 0, 0, []),
  (10, .iadd, 0, 0, 0, 0, []),
  (11, .iload_n 3, 3, 0, 0, 0, []),
  (12, .iastore, 0, 0, 0, 0, []),
  (13, .aload_n 0, 0, 0, 0, 0, []),
  (14, .getfield 121, 12, 24, 0, 0, []),
  (17, .iload_n 1, 1, 0, 0, 0, []),
  (18, .bipush 27, 0, 0, 27, 0, []),
  (20, .iadd, 0, 0, 0, 0, []),
  (21, .iload_n 2, 2, 0, 0, 0, []),
  (22, .iadd, 0, 0, 0, 0, []),
  (23, .iconst 1, 0, 0, 1, 0, []),
  (24, .iastore, 0, 0, 0, 0, []),
  (25, .return_, 0, 0, 0, 0, [])]
noncomputable def e12_casts : XN := []
noncomputable def k12_casts (p1 : Int32) (p2 : Int32) (p3 : Int32) (p4 : Int32) (μ : XM) : XR :=
  xck (xin ((p1 + 15) + p4) 1081 && true) <|
  mS (pI μ 12 0 24 (Int32.toNatClampNeg ((p1 + 15) + p4)) p3) fun m1 =>
  xck (xin ((p1 + 27) + p2) 1081 && true) <|
  mS (pI m1 12 0 24 (Int32.toNatClampNeg ((p1 + 27) + p2)) 1) fun m2 =>
  xrv m2
set_option maxRecDepth 100000 in
theorem q12_casts (n : Nat) (p1 : Int32) (p2 : Int32) (p3 : Int32) (p4 : Int32) (μ : XM) : xrun t12_casts e12_casts (xrtk none) 24 n (xlo [xr 12 0 0, xi p1, xi p2, xi p3, xi p4] 5) μ = k12_casts p1 p2 p3 p4 μ := rfl
theorem x12_casts : ∃ f : Int32 → Int32 → Int32 → Int32 → XM → XR, ∀ (p1 : Int32) (p2 : Int32) (p3 : Int32) (p4 : Int32) (μ : XM), f p1 p2 p3 p4 μ = k12_casts p1 p2 p3 p4 μ := ⟨fun p1 p2 p3 p4 μ => k12_casts p1 p2 p3 p4 μ, fun p1 p2 p3 p4 μ => rfl⟩
noncomputable def f12_casts : Int32 → Int32 → Int32 → Int32 → XM → XR := Classical.choose x12_casts
theorem f12_casts_e (p1 : Int32) (p2 : Int32) (p3 : Int32) (p4 : Int32) (μ : XM) : f12_casts p1 p2 p3 p4 μ = k12_casts p1 p2 p3 p4 μ := Classical.choose_spec x12_casts p1 p2 p3 p4 μ
noncomputable def F12_casts : XF := fun av μ => match av with
  | [.inr (.inr (some (t0, i0, 0))), .inl p1, .inl p2, .inl p3, .inl p4] => bif Nat.beq t0 12 && Nat.beq i0 0 then f12_casts p1 p2 p3 p4 μ else none
  | _ => none
set_option maxRecDepth 100000 in
theorem c12_casts {X : XP} (hX : XOK X) (l : Launch) : Ctr X l y12_casts prog_14_method_67_code 5 none (xrm 1) 0 0 F12_casts :=
  Ctr_of (tab := t12_casts) (env := e12_casts) (K := 24) (N := 20000) (fl := fl12) (cl := cl12) (ll := ll12) (jl := jl12) hX mf12_casts.2.2.2 ⟨by decide +kernel, flk12, clk12, llk12, jlk12⟩
   (fun _ h => absurd h List.not_mem_nil)
   (xrm_1 (by decide)) ⟨_, _, rfl, rfl⟩ (fun av μ r μ' h => by
    unfold F12_casts at h
    split at h
    · replace h := cond_inv h; obtain ⟨hb, h⟩ := h
      simp only [Bool.and_eq_true] at hb
      obtain ⟨g0, g1⟩ := hb
      obtain rfl := Nat.eq_of_beq_eq_true g0
      obtain rfl := Nat.eq_of_beq_eq_true g1
      exact ⟨Nat.le_of_ble_eq_true rfl, (q12_casts _ _ _ _ _ _).trans ((f12_casts_e _ _ _ _ _).symm.trans h)⟩
    · cases h)
def t12_mayStop : List XE := [(0, .aload_n 0, 0, 0, 0, 0, []),
  (1, .iload_n 1, 1, 0, 0, 0, []),
  (2, .iload_n 2, 2, 0, 0, 0, []),
  (3, .invokevirtual 323, 3, 12, 0, 0, []),
  (6, .ifCond .eq 18, 24, 0, 0, 0, []),
  (9, .aload_n 0, 0, 0, 0, 0, []),
  (10, .getfield 121, 12, 24, 0, 0, []),
  (13, .iload_n 1, 1, 0, 0, 0, []),
  (14, .iconst 1, 0, 0, 1, 0, []),
  (15, .iadd, 0, 0, 0, 0, []),
  (16, .iaload, 0, 0, 0, 0, []),
  (17, .ifCond .le 7, 24, 0, 0, 0, []),
  (20, .iconst 1, 0, 0, 1, 0, []),
  (21, .goto 4, 25, 0, 0, 0, []),
  (24, .iconst 0, 0, 0, 0, 0, []),
  (25, .ireturn, 0, 0, 0, 0, [])]
noncomputable def e12_mayStop : XN := [(323, 1, 3, 12, F12_isFree)]
noncomputable def k12_mayStop (p1 : Int32) (p2 : Int32) (μ : XM) : XR :=
  bI (f12_isFree p1 p2 μ) fun r2 m1 =>
  xite (r2 = 0) (
    xrb 0 m1) (
    xck (xin (p1 + 1) 1081) <|
    xite ((0 : Int32) < (aI m1 12 0 24 (Int32.toNatClampNeg (p1 + 1)))) (
      xrb 1 m1) (
      xrb 0 m1))
set_option maxRecDepth 100000 in
theorem q12_mayStop (n : Nat) (p1 : Int32) (p2 : Int32) (μ : XM) : xrun t12_mayStop e12_mayStop (xrtk (some .boolean)) 21 n (xlo [xr 12 0 0, xi p1, xi p2] 3) μ = k12_mayStop p1 p2 μ := rfl
theorem x12_mayStop : ∃ f : Int32 → Int32 → XM → XR, ∀ (p1 : Int32) (p2 : Int32) (μ : XM), f p1 p2 μ = k12_mayStop p1 p2 μ := ⟨fun p1 p2 μ => k12_mayStop p1 p2 μ, fun p1 p2 μ => rfl⟩
noncomputable def f12_mayStop : Int32 → Int32 → XM → XR := Classical.choose x12_mayStop
theorem f12_mayStop_e (p1 : Int32) (p2 : Int32) (μ : XM) : f12_mayStop p1 p2 μ = k12_mayStop p1 p2 μ := Classical.choose_spec x12_mayStop p1 p2 μ
noncomputable def F12_mayStop : XF := fun av μ => match av with
  | [.inr (.inr (some (t0, i0, 0))), .inl p1, .inl p2] => bif Nat.beq t0 12 && Nat.beq i0 0 then f12_mayStop p1 p2 μ else none
  | _ => none
set_option maxRecDepth 100000 in
theorem c12_mayStop {X : XP} (hX : XOK X) (l : Launch) : Ctr X l y12_mayStop prog_14_method_68_code 3 (some .boolean) (xrm 2) 0 0 F12_mayStop :=
  Ctr_of (tab := t12_mayStop) (env := e12_mayStop) (K := 21) (N := 20000) (fl := fl12) (cl := cl12) (ll := ll12) (jl := jl12) hX mf12_mayStop.2.2.2 ⟨by decide +kernel, flk12, clk12, llk12, jlk12⟩
   (List.forall_mem_cons.mpr ⟨xcal_v (na := 2) (c12_isFree hX l) mf12_isFree ⟨rfl, rfl⟩ ml12_323 mi12_isFree me12_isFree (xrm_ok (by omega) (by decide)) rfl (by decide) (by decide +kernel), fun _ h => absurd h List.not_mem_nil⟩)
   (xrm_1 (by decide)) ⟨_, _, rfl, rfl⟩ (fun av μ r μ' h => by
    unfold F12_mayStop at h
    split at h
    · replace h := cond_inv h; obtain ⟨hb, h⟩ := h
      simp only [Bool.and_eq_true] at hb
      obtain ⟨g0, g1⟩ := hb
      obtain rfl := Nat.eq_of_beq_eq_true g0
      obtain rfl := Nat.eq_of_beq_eq_true g1
      exact ⟨Nat.le_of_ble_eq_true rfl, (q12_mayStop _ _ _ _).trans ((f12_mayStop_e _ _ _).symm.trans h)⟩
    · cases h)
def t12_stops : List XE := [(0, .aload_n 0, 0, 0, 0, 0, []),
  (1, .getfield 121, 12, 24, 0, 0, []),
  (4, .iload_n 1, 1, 0, 0, 0, []),
  (5, .iconst 1, 0, 0, 1, 0, []),
  (6, .iadd, 0, 0, 0, 0, []),
  (7, .dup2, 0, 0, 0, 0, []),
  (8, .iaload, 0, 0, 0, 0, []),
  (9, .iconst 1, 0, 0, 1, 0, []),
  (10, .isub, 0, 0, 0, 0, []),
  (11, .iastore, 0, 0, 0, 0, []),
  (12, .aload_n 0, 0, 0, 0, 0, []),
  (13, .getfield 121, 12, 24, 0, 0, []),
  (16, .iload_n 1, 1, 0, 0, 0, []),
  (17, .bipush 27, 0, 0, 27, 0, []),
  (19, .iadd, 0, 0, 0, 0, []),
  (20, .iload_n 2, 2, 0, 0, 0, []),
  (21, .iadd, 0, 0, 0, 0, []),
  (22, .iconst 1, 0, 0, 1, 0, []),
  (23, .iastore, 0, 0, 0, 0, []),
  (24, .return_, 0, 0, 0, 0, [])]
noncomputable def e12_stops : XN := []
noncomputable def k12_stops (p1 : Int32) (p2 : Int32) (μ : XM) : XR :=
  xck (xin (p1 + 1) 1081) <|
  xck (xin (p1 + 1) 1081 && true) <|
  mS (pI μ 12 0 24 (Int32.toNatClampNeg (p1 + 1)) ((aI μ 12 0 24 (Int32.toNatClampNeg (p1 + 1))) - 1)) fun m1 =>
  xck (xin ((p1 + 27) + p2) 1081 && true) <|
  mS (pI m1 12 0 24 (Int32.toNatClampNeg ((p1 + 27) + p2)) 1) fun m2 =>
  xrv m2
set_option maxRecDepth 100000 in
theorem q12_stops (n : Nat) (p1 : Int32) (p2 : Int32) (μ : XM) : xrun t12_stops e12_stops (xrtk none) 25 n (xlo [xr 12 0 0, xi p1, xi p2] 3) μ = k12_stops p1 p2 μ := rfl
theorem x12_stops : ∃ f : Int32 → Int32 → XM → XR, ∀ (p1 : Int32) (p2 : Int32) (μ : XM), f p1 p2 μ = k12_stops p1 p2 μ := ⟨fun p1 p2 μ => k12_stops p1 p2 μ, fun p1 p2 μ => rfl⟩
noncomputable def f12_stops : Int32 → Int32 → XM → XR := Classical.choose x12_stops
theorem f12_stops_e (p1 : Int32) (p2 : Int32) (μ : XM) : f12_stops p1 p2 μ = k12_stops p1 p2 μ := Classical.choose_spec x12_stops p1 p2 μ
noncomputable def F12_stops : XF := fun av μ => match av with
  | [.inr (.inr (some (t0, i0, 0))), .inl p1, .inl p2] => bif Nat.beq t0 12 && Nat.beq i0 0 then f12_stops p1 p2 μ else none
  | _ => none
set_option maxRecDepth 100000 in
theorem c12_stops {X : XP} (hX : XOK X) (l : Launch) : Ctr X l y12_stops prog_14_method_69_code 3 none (xrm 1) 0 0 F12_stops :=
  Ctr_of (tab := t12_stops) (env := e12_stops) (K := 25) (N := 20000) (fl := fl12) (cl := cl12) (ll := ll12) (jl := jl12) hX mf12_stops.2.2.2 ⟨by decide +kernel, flk12, clk12, llk12, jlk12⟩
   (fun _ h => absurd h List.not_mem_nil)
   (xrm_1 (by decide)) ⟨_, _, rfl, rfl⟩ (fun av μ r μ' h => by
    unfold F12_stops at h
    split at h
    · replace h := cond_inv h; obtain ⟨hb, h⟩ := h
      simp only [Bool.and_eq_true] at hb
      obtain ⟨g0, g1⟩ := hb
      obtain rfl := Nat.eq_of_beq_eq_true g0
      obtain rfl := Nat.eq_of_beq_eq_true g1
      exact ⟨Nat.le_of_ble_eq_true rfl, (q12_stops _ _ _ _).trans ((f12_stops_e _ _ _).symm.trans h)⟩
    · cases h)
def t12_breathes : List XE := [(0, .aload_n 0, 0, 0, 0, 0, []),
  (1, .iload_n 1, 1, 0, 0, 0, []),
  (2, .iload_n 2, 2, 0, 0, 0, []),
  (3, .invokevirtual 335, 3, 12, 0, 0, []),
  (6, .ifCond .ne 21, 27, 0, 0, 0, []),
  (9, .aload_n 0, 0, 0, 0, 0, []),
  (10, .getfield 121, 12, 24, 0, 0, []),
  (13, .iload_n 1, 1, 0, 0, 0, []),
  (14, .bipush 9, 0, 0, 9, 0, []),
  (16, .iadd, 0, 0, 0, 0, []),
  (17, .iload_n 2, 2, 0, 0, 0, []),
  (18, .iadd, 0, 0, 0, 0, []),
  (19, .aload_n 0, 0, 0, 0, 0, []),
  (20, .iload_n 2, 2, 0, 0, 0, []),
  (21, .iconst 3, 0, 0, 3, 0, []),
  (22, .invokevirtual 286, 3, 12, 0, 0, []),
  (25, .iastore, 0, 0, 0, 0, []),
  (26, .return_, 0, 0, 0, 0, []),
  (27, .aload_n 0, 0, 0, 0, 0, []),
  (28, .getfield 121, 12, 24, 0, 0, []),
  (31, .iload_n 1, 1, 0, 0, 0, []),
  (32, .bipush 9, 0, 0, 9, 0, []),
  (34, .iadd, 0, 0, 0, 0, []),
  (35, .iload_n 2, 2, 0, 0, 0, []),
  (36, .iadd, 0, 0, 0, 0, []),
  (37, .dup2, 0, 0, 0, 0, []),
  (38, .iaload, 0, 0, 0, 0, []),
  (39, .iconst 1, 0, 0, 1, 0, []),
  (40, .isub, 0, 0, 0, 0, []),
  (41, .iastore, 0, 0, 0, 0, []),
  (42, .aload_n 0, 0, 0, 0, 0, []),
  (43, .getfield 121, 12, 24, 0, 0, []),
  (46, .iload_n 1, 1, 0, 0, 0, []),
  (47, .bipush 9, 0, 0, 9, 0, []),
  (49, .iadd, 0, 0, 0, 0, []),
  (50, .iload_n 2, 2, 0, 0, 0, []),
  (51, .iadd, 0, 0, 0, 0, []),
  (52, .iaload, 0, 0, 0, 0, []),
  (53, .ifCond .ne 27, 80, 0, 0, 0, []),
  (56, .aload_n 0, 0, 0, 0, 0, []),
  (57, .getfield 121, 12, 24, 0, 0, []),
  (60, .iload_n 1, 1, 0, 0, 0, []),
  (61, .bipush 21, 0, 0, 21, 0, []),
  (63, .iadd, 0, 0, 0, 0, []),
  (64, .iload_n 2, 2, 0, 0, 0, []),
  (65, .iadd, 0, 0, 0, 0, []),
  (66, .iconst 2, 0, 0, 2, 0, []),
  (67, .iastore, 0, 0, 0, 0, []),
  (68, .aload_n 0, 0, 0, 0, 0, []),
  (69, .getfield 121, 12, 24, 0, 0, []),
  (72, .iload_n 1, 1, 0, 0, 0, []),
  (73, .bipush 15, 0, 0, 15, 0, []),
  (75, .iadd, 0, 0, 0, 0, []),
  (76, .iload_n 2, 2, 0, 0, 0, []),
  (77, .iadd, 0, 0, 0, 0, []),
  (78, .iconst (-1), 0, 0, (-1), 0, []),
  (79, .iastore, 0, 0, 0, 0, []),
  (80, .return_, 0, 0, 0, 0, [])]
noncomputable def e12_breathes : XN := [(335, 1, 3, 12, F12_isUnder), (286, 1, 3, 12, F12_guestOf)]
noncomputable def k12_breathes (p1 : Int32) (p2 : Int32) (μ : XM) : XR :=
  bI (f12_isUnder p1 p2 μ) fun r2 m1 =>
  xite (r2 = 0) (
    bI (f12_guestOf p2 3 m1) fun r4 m3 =>
    xck (xin ((p1 + 9) + p2) 1081 && true) <|
    mS (pI m3 12 0 24 (Int32.toNatClampNeg ((p1 + 9) + p2)) r4) fun m5 =>
    xrv m5) (
    xck (xin ((p1 + 9) + p2) 1081) <|
    xck (xin ((p1 + 9) + p2) 1081 && true) <|
    mS (pI m1 12 0 24 (Int32.toNatClampNeg ((p1 + 9) + p2)) ((aI m1 12 0 24 (Int32.toNatClampNeg ((p1 + 9) + p2))) - 1)) fun m6 =>
    xck (xin ((p1 + 9) + p2) 1081) <|
    xite ((aI m6 12 0 24 (Int32.toNatClampNeg ((p1 + 9) + p2))) = 0) (
      xck (xin ((p1 + 21) + p2) 1081 && true) <|
      mS (pI m6 12 0 24 (Int32.toNatClampNeg ((p1 + 21) + p2)) 2) fun m7 =>
      xck (xin ((p1 + 15) + p2) 1081 && true) <|
      mS (pI m7 12 0 24 (Int32.toNatClampNeg ((p1 + 15) + p2)) (-1)) fun m8 =>
      xrv m8) (
      xrv m6))
set_option maxRecDepth 100000 in
theorem q12_breathes (n : Nat) (p1 : Int32) (p2 : Int32) (μ : XM) : xrun t12_breathes e12_breathes (xrtk none) 63 n (xlo [xr 12 0 0, xi p1, xi p2] 3) μ = k12_breathes p1 p2 μ := rfl
theorem x12_breathes : ∃ f : Int32 → Int32 → XM → XR, ∀ (p1 : Int32) (p2 : Int32) (μ : XM), f p1 p2 μ = k12_breathes p1 p2 μ := ⟨fun p1 p2 μ => k12_breathes p1 p2 μ, fun p1 p2 μ => rfl⟩
noncomputable def f12_breathes : Int32 → Int32 → XM → XR := Classical.choose x12_breathes
theorem f12_breathes_e (p1 : Int32) (p2 : Int32) (μ : XM) : f12_breathes p1 p2 μ = k12_breathes p1 p2 μ := Classical.choose_spec x12_breathes p1 p2 μ
noncomputable def F12_breathes : XF := fun av μ => match av with
  | [.inr (.inr (some (t0, i0, 0))), .inl p1, .inl p2] => bif Nat.beq t0 12 && Nat.beq i0 0 then f12_breathes p1 p2 μ else none
  | _ => none
set_option maxRecDepth 100000 in
theorem c12_breathes {X : XP} (hX : XOK X) (l : Launch) : Ctr X l y12_breathes prog_14_method_70_code 3 none (xrm 5) 0 0 F12_breathes :=
  Ctr_of (tab := t12_breathes) (env := e12_breathes) (K := 63) (N := 20000) (fl := fl12) (cl := cl12) (ll := ll12) (jl := jl12) hX mf12_breathes.2.2.2 ⟨by decide +kernel, flk12, clk12, llk12, jlk12⟩
   (List.forall_mem_cons.mpr ⟨xcal_v (na := 2) (c12_isUnder hX l) mf12_isUnder ⟨rfl, rfl⟩ ml12_335 mi12_isUnder me12_isUnder (xrm_ok (by omega) (by decide)) rfl (by decide) (by decide +kernel), List.forall_mem_cons.mpr ⟨xcal_v (na := 2) (c12_guestOf hX l) mf12_guestOf ⟨rfl, rfl⟩ ml12_286 mi12_guestOf me12_guestOf (xrm_ok (by omega) (by decide)) rfl (by decide) (by decide +kernel), fun _ h => absurd h List.not_mem_nil⟩⟩)
   (xrm_1 (by decide)) ⟨_, _, rfl, rfl⟩ (fun av μ r μ' h => by
    unfold F12_breathes at h
    split at h
    · replace h := cond_inv h; obtain ⟨hb, h⟩ := h
      simp only [Bool.and_eq_true] at hb
      obtain ⟨g0, g1⟩ := hb
      obtain rfl := Nat.eq_of_beq_eq_true g0
      obtain rfl := Nat.eq_of_beq_eq_true g1
      exact ⟨Nat.le_of_ble_eq_true rfl, (q12_breathes _ _ _ _).trans ((f12_breathes_e _ _ _).symm.trans h)⟩
    · cases h)
def t12_drawsIn : List XE := [(0, .aload_n 0, 0, 0, 0, 0, []),
  (1, .getfield 121, 12, 24, 0, 0, []),
  (4, .iload_n 1, 1, 0, 0, 0, []),
  (5, .iconst 3, 0, 0, 3, 0, []),
  (6, .iadd, 0, 0, 0, 0, []),
  (7, .iload_n 2, 2, 0, 0, 0, []),
  (8, .iadd, 0, 0, 0, 0, []),
  (9, .dup2, 0, 0, 0, 0, []),
  (10, .iaload, 0, 0, 0, 0, []),
  (11, .iconst 1, 0, 0, 1, 0, []),
  (12, .isub, 0, 0, 0, 0, []),
  (13, .iastore, 0, 0, 0, 0, []),
  (14, .aload_n 0, 0, 0, 0, 0, []),
  (15, .getfield 121, 12, 24, 0, 0, []),
  (18, .iload_n 1, 1, 0, 0, 0, []),
  (19, .iconst 3, 0, 0, 3, 0, []),
  (20, .iadd, 0, 0, 0, 0, []),
  (21, .iload_n 2, 2, 0, 0, 0, []),
  (22, .iadd, 0, 0, 0, 0, []),
  (23, .iaload, 0, 0, 0, 0, []),
  (24, .ifCond .ne 27, 51, 0, 0, 0, []),
  (27, .aload_n 0, 0, 0, 0, 0, []),
  (28, .getfield 121, 12, 24, 0, 0, []),
  (31, .iload_n 1, 1, 0, 0, 0, []),
  (32, .bipush 21, 0, 0, 21, 0, []),
  (34, .iadd, 0, 0, 0, 0, []),
  (35, .iload_n 2, 2, 0, 0, 0, []),
  (36, .iadd, 0, 0, 0, 0, []),
  (37, .iconst 1, 0, 0, 1, 0, []),
  (38, .iastore, 0, 0, 0, 0, []),
  (39, .aload_n 0, 0, 0, 0, 0, []),
  (40, .getfield 121, 12, 24, 0, 0, []),
  (43, .iload_n 1, 1, 0, 0, 0, []),
  (44, .bipush 15, 0, 0, 15, 0, []),
  (46, .iadd, 0, 0, 0, 0, []),
  (47, .iload_n 2, 2, 0, 0, 0, []),
  (48, .iadd, 0, 0, 0, 0, []),
  (49, .iconst (-1), 0, 0, (-1), 0, []),
  (50, .iastore, 0, 0, 0, 0, []),
  (51, .return_, 0, 0, 0, 0, [])]
noncomputable def e12_drawsIn : XN := []
noncomputable def k12_drawsIn (p1 : Int32) (p2 : Int32) (μ : XM) : XR :=
  xck (xin ((p1 + 3) + p2) 1081) <|
  xck (xin ((p1 + 3) + p2) 1081 && true) <|
  mS (pI μ 12 0 24 (Int32.toNatClampNeg ((p1 + 3) + p2)) ((aI μ 12 0 24 (Int32.toNatClampNeg ((p1 + 3) + p2))) - 1)) fun m1 =>
  xck (xin ((p1 + 3) + p2) 1081) <|
  xite ((aI m1 12 0 24 (Int32.toNatClampNeg ((p1 + 3) + p2))) = 0) (
    xck (xin ((p1 + 21) + p2) 1081 && true) <|
    mS (pI m1 12 0 24 (Int32.toNatClampNeg ((p1 + 21) + p2)) 1) fun m2 =>
    xck (xin ((p1 + 15) + p2) 1081 && true) <|
    mS (pI m2 12 0 24 (Int32.toNatClampNeg ((p1 + 15) + p2)) (-1)) fun m3 =>
    xrv m3) (
    xrv m1)
set_option maxRecDepth 100000 in
theorem q12_drawsIn (n : Nat) (p1 : Int32) (p2 : Int32) (μ : XM) : xrun t12_drawsIn e12_drawsIn (xrtk none) 45 n (xlo [xr 12 0 0, xi p1, xi p2] 3) μ = k12_drawsIn p1 p2 μ := rfl
theorem x12_drawsIn : ∃ f : Int32 → Int32 → XM → XR, ∀ (p1 : Int32) (p2 : Int32) (μ : XM), f p1 p2 μ = k12_drawsIn p1 p2 μ := ⟨fun p1 p2 μ => k12_drawsIn p1 p2 μ, fun p1 p2 μ => rfl⟩
noncomputable def f12_drawsIn : Int32 → Int32 → XM → XR := Classical.choose x12_drawsIn
theorem f12_drawsIn_e (p1 : Int32) (p2 : Int32) (μ : XM) : f12_drawsIn p1 p2 μ = k12_drawsIn p1 p2 μ := Classical.choose_spec x12_drawsIn p1 p2 μ
noncomputable def F12_drawsIn : XF := fun av μ => match av with
  | [.inr (.inr (some (t0, i0, 0))), .inl p1, .inl p2] => bif Nat.beq t0 12 && Nat.beq i0 0 then f12_drawsIn p1 p2 μ else none
  | _ => none
set_option maxRecDepth 100000 in
theorem c12_drawsIn {X : XP} (hX : XOK X) (l : Launch) : Ctr X l y12_drawsIn prog_14_method_71_code 3 none (xrm 1) 0 0 F12_drawsIn :=
  Ctr_of (tab := t12_drawsIn) (env := e12_drawsIn) (K := 45) (N := 20000) (fl := fl12) (cl := cl12) (ll := ll12) (jl := jl12) hX mf12_drawsIn.2.2.2 ⟨by decide +kernel, flk12, clk12, llk12, jlk12⟩
   (fun _ h => absurd h List.not_mem_nil)
   (xrm_1 (by decide)) ⟨_, _, rfl, rfl⟩ (fun av μ r μ' h => by
    unfold F12_drawsIn at h
    split at h
    · replace h := cond_inv h; obtain ⟨hb, h⟩ := h
      simp only [Bool.and_eq_true] at hb
      obtain ⟨g0, g1⟩ := hb
      obtain rfl := Nat.eq_of_beq_eq_true g0
      obtain rfl := Nat.eq_of_beq_eq_true g1
      exact ⟨Nat.le_of_ble_eq_true rfl, (q12_drawsIn _ _ _ _).trans ((f12_drawsIn_e _ _ _).symm.trans h)⟩
    · cases h)
def t12_passes : List XE := [(0, .aload_n 0, 0, 0, 0, 0, []),
  (1, .iload_n 1, 1, 0, 0, 0, []),
  (2, .iconst 2, 0, 0, 2, 0, []),
  (3, .invokevirtual 338, 3, 12, 0, 0, []),
  (6, .istore_n 2, 2, 0, 0, 0, []),
  (7, .iconst 0, 0, 0, 0, 0, []),
  (8, .istore_n 3, 3, 0, 0, 0, []),
  (9, .nop, 15, 0, 0, 0, []),
  (9, .iload_n 3, 3, 0, 0, 0, []),
  (10, .aload_n 0, 0, 0, 0, 0, []),
  (11, .invokevirtual 282, 1, 12, 0, 0, []),
  (14, .if_icmp .ge 24, 38, 0, 0, 0, []),
  (17, .aload_n 0, 0, 0, 0, 0, []),
  (18, .iload_n 1, 1, 0, 0, 0, []),
  (19, .iload_n 3, 3, 0, 0, 0, []),
  (20, .invokevirtual 310, 3, 12, 0, 0, []),
  (23, .ifCond .eq 9, 32, 0, 0, 0, []),
  (26, .aload_n 0, 0, 0, 0, 0, []),
  (27, .iload_n 1, 1, 0, 0, 0, []),
  (28, .iload_n 3, 3, 0, 0, 0, []),
  (29, .invokevirtual 341, 3, 12, 0, 0, []),
  (32, .iinc 3 1, 3, 0, 1, 0, []),
  (35, .goto (-26), 9, 0, 0, 0, []),
  (38, .iconst 0, 0, 0, 0, 0, []),
  (39, .istore_n 3, 3, 0, 0, 0, []),
  (40, .nop, 15, 0, 0, 0, []),
  (40, .iload_n 3, 3, 0, 0, 0, []),
  (41, .aload_n 0, 0, 0, 0, 0, []),
  (42, .invokevirtual 282, 1, 12, 0, 0, []),
  (45, .if_icmp .ge 48, 93, 0, 0, 0, []),
  (48, .aload_n 0, 0, 0, 0, 0, []),
  (49, .iload_n 1, 1, 0, 0, 0, []),
  (50, .iload_n 3, 3, 0, 0, 0, []),
  (51, .invokevirtual 310, 3, 12, 0, 0, []),
  (54, .ifCond .eq 33, 87, 0, 0, 0, []),
  (57, .aload_n 0, 0, 0, 0, 0, []),
  (58, .getfield 121, 12, 24, 0, 0, []),
  (61, .iload_n 1, 1, 0, 0, 0, []),
  (62, .bipush 15, 0, 0, 15, 0, []),
  (64, .iadd, 0, 0, 0, 0, []),
  (65, .iload_n 3, 3, 0, 0, 0, []),
  (66, .iadd, 0, 0, 0, 0, []),
  (67, .iaload, 0, 0, 0, 0, []),
  (68, .ifCond .ge 13, 81, 0, 0, 0, []),
  (71, .aload_n 0, 0, 0, 0, 0, []),
  (72, .iload_n 3, 3, 0, 0, 0, []),
  (73, .iconst 0, 0, 0, 0, 0, []),
  (74, .invokevirtual 286, 3, 12, 0, 0, []),
  (77, .iconst 3, 0, 0, 3, 0, []),
  (78, .if_icmp .ne 9, 87, 0, 0, 0, []),
  (81, .aload_n 0, 0, 0, 0, 0, []),
  (82, .iload_n 1, 1, 0, 0, 0, []),
  (83, .iload_n 3, 3, 0, 0, 0, []),
  (84, .invokevirtual 344, 3, 12, 0, 0, []),
  (87, .iinc 3 1, 3, 0, 1, 0, []),
  (90, .goto (-50), 40, 0, 0, 0, []),
  (93, .aload_n 0, 0, 0, 0, 0, []),
  (94, .getfield 115, 12, 22, 0, 0, []),
  (97, .iconst 0, 0, 0, 0, 0, []),
  (98, .aload_n 0, 0, 0, 0, 0, []),
  (99, .getfield 121, 12, 24, 0, 0, []),
  (102, .iload_n 1, 1, 0, 0, 0, []),
  (103, .iconst 1, 0, 0, 1, 0, []),
  (104, .iadd, 0, 0, 0, 0, []),
  (105, .iaload, 0, 0, 0, 0, []),
  (106, .iastore, 0, 0, 0, 0, []),
  (107, .aload_n 0, 0, 0, 0, 0, []),
  (108, .getfield 115, 12, 22, 0, 0, []),
  (111, .iconst 1, 0, 0, 1, 0, []),
  (112, .aload_n 0, 0, 0, 0, 0, []),
  (113, .getfield 121, 12, 24, 0, 0, []),
  (116, .iload_n 1, 1, 0, 0, 0, []),
  (117, .iconst 2, 0, 0, 2, 0, []),
  (118, .iadd, 0, 0, 0, 0, []),
  (119, .iaload, 0, 0, 0, 0, []),
  (120, .iastore, 0, 0, 0, 0, []),
  (121, .aload_n 0, 0, 0, 0, 0, []),
  (122, .getfield 115, 12, 22, 0, 0, []),
  (125, .iconst 2, 0, 0, 2, 0, []),
  (126, .aload_n 0, 0, 0, 0, 0, []),
  (127, .iload_n 1, 1, 0, 0, 0, []),
  (128, .iconst 0, 0, 0, 0, 0, []),
  (129, .invokevirtual 338, 3, 12, 0, 0, []),
  (132, .invokestatic 347, 1, 0, 0, 0, []),
  (135, .iastore, 0, 0, 0, 0, []),
  (136, .aload_n 0, 0, 0, 0, 0, []),
  (137, .getfield 115, 12, 22, 0, 0, []),
  (140, .iconst 3, 0, 0, 3, 0, []),
  (141, .aload_n 0, 0, 0, 0, 0, []),
  (142, .invokevirtual 298, 1, 12, 0, 0, []),
  (145, .aload_n 0, 0, 0, 0, 0, []),
  (146, .iload_n 1, 1, 0, 0, 0, []),
  (147, .invokevirtual 332, 2, 12, 0, 0, []),
  (150, .invokestatic 347, 1, 0, 0, 0, []),
  (153, .isub, 0, 0, 0, 0, []),
  (154, .iastore, 0, 0, 0, 0, []),
  (155, .aload_n 0, 0, 0, 0, 0, []),
  (156, .getfield 91, 12, 10, 0, 0, []),
  (159, .iconst 5, 0, 0, 5, 0, []),
  (160, .iaload, 0, 0, 0, 0, []),
  (161, .ifCond .ge 12, 173, 0, 0, 0, []),
  (164, .aload_n 0, 0, 0, 0, 0, []),
  (165, .getfield 115, 12, 22, 0, 0, []),
  (168, .iconst 0, 0, 0, 0, 0, []),
  (169, .iaload, 0, 0, 0, 0, []),
  (170, .goto 13, 183, 0, 0, 0, []),
  (173, .aload_n 0, 0, 0, 0, 0, []),
  (174, .aload_n 0, 0, 0, 0, 0, []),
  (175, .getfield 91, 12, 10, 0, 0, []),
  (178, .iconst 5, 0, 0, 5, 0, []),
  (179, .iaload, 0, 0, 0, 0, []),
  (180, .invokevirtual 350, 2, 12, 0, 0, []),
  (183, .nop, 7, 0, 0, 0, []),
  (183, .istore_n 3, 3, 0, 0, 0, []),
  (184, .iload_n 3, 3, 0, 0, 0, []),
  (185, .bipush (-9), 0, 0, (-9), 0, []),
  (187, .if_icmp .ge 8, 195, 0, 0, 0, []),
  (190, .bipush (-9), 0, 0, (-9), 0, []),
  (192, .goto 15, 207, 0, 0, 0, []),
  (195, .iload_n 3, 3, 0, 0, 0, []),
  (196, .bipush 9, 0, 0, 9, 0, []),
  (198, .if_icmp .le 8, 206, 0, 0, 0, []),
  (201, .bipush 9, 0, 0, 9, 0, []),
  (203, .goto 4, 207, 0, 0, 0, []),
  (206, .iload_n 3, 3, 0, 0, 0, []),
  (207, .nop, 7, 0, 0, 0, []),
  (207, .istore_n 3, 3, 0, 0, 0, []),
  (208, .iload_n 3, 3, 0, 0, 0, []),
  (209, .aload_n 0, 0, 0, 0, 0, []),
  (210, .getfield 121, 12, 24, 0, 0, []),
  (213, .iload_n 1, 1, 0, 0, 0, []),
  (214, .iconst 2, 0, 0, 2, 0, []),
  (215, .iadd, 0, 0, 0, 0, []),
  (216, .iaload, 0, 0, 0, 0, []),
  (217, .iadd, 0, 0, 0, 0, []),
  (218, .istore_n 3, 3, 0, 0, 0, []),
  (219, .aload_n 0, 0, 0, 0, 0, []),
  (220, .getfield 121, 12, 24, 0, 0, []),
  (223, .iload_n 1, 1, 0, 0, 0, []),
  (224, .iconst 2, 0, 0, 2, 0, []),
  (225, .iadd, 0, 0, 0, 0, []),
  (226, .iload_n 3, 3, 0, 0, 0, []),
  (227, .ifCond .ge 7, 234, 0, 0, 0, []),
  (230, .iconst 0, 0, 0, 0, 0, []),
  (231, .goto 15, 246, 0, 0, 0, []),
  (234, .iload_n 3, 3, 0, 0, 0, []),
  (235, .bipush 60, 0, 0, 60, 0, []),
  (237, .if_icmp .le 8, 245, 0, 0, 0, []),
  (240, .bipush 60, 0, 0, 60, 0, []),
  (242, .goto 4, 246, 0, 0, 0, []),
  (245, .iload_n 3, 3, 0, 0, 0, []),
  (246, .iastore, 0, 0, 0, 0, []),
  (247, .iconst 0, 0, 0, 0, 0, []),
  (248, .istore 4, 4, 0, 0, 0, []),
  (250, .nop, 23, 0, 0, 0, []),
  (250, .iload 4, 4, 0, 0, 0, []),
  (252, .iconst 3, 0, 0, 3, 0, []),
  (253, .if_icmp .ge 22, 275, 0, 0, 0, []),
  (256, .aload_n 0, 0, 0, 0, 0, []),
  (257, .getfield 121, 12, 24, 0, 0, []),
  (260, .iload_n 1, 1, 0, 0, 0, []),
  (261, .bipush 27, 0, 0, 27, 0, []),
  (263, .iadd, 0, 0, 0, 0, []),
  (264, .iload 4, 4, 0, 0, 0, []),
  (266, .iadd, 0, 0, 0, 0, []),
  (267, .iconst 0, 0, 0, 0, 0, []),
  (268, .iastore, 0, 0, 0, 0, []),
  (269, .iinc 4 1, 4, 0, 1, 0, []),
  (272, .goto (-22), 250, 0, 0, 0, []),
  (275, .aload_n 0, 0, 0, 0, 0, []),
  (276, .getfield 121, 12, 24, 0, 0, []),
  (279, .iload_n 1, 1, 0, 0, 0, []),
  (280, .iconst 0, 0, 0, 0, 0, []),
  (281, .iadd, 0, 0, 0, 0, []),
  (282, .dup2, 0, 0, 0, 0, []),
  (283, .iaload, 0, 0, 0, 0, []),
  (284, .iconst 1, 0, 0, 1, 0, []),
  (285, .iadd, 0, 0, 0, 0, []),
  (286, .iastore, 0, 0, 0, 0, []),
  (287, .aload_n 0, 0, 0, 0, 0, []),
  (288, .iload_n 1, 1, 0, 0, 0, []),
  (289, .iconst 2, 0, 0, 2, 0, []),
  (290, .invokevirtual 338, 3, 12, 0, 0, []),
  (293, .iload_n 2, 2, 0, 0, 0, []),
  (294, .iconst (-1), 0, 0, (-1), 0, []),
  (295, .ixor, 0, 0, 0, 0, []),
  (296, .iand, 0, 0, 0, 0, []),
  (297, .ireturn, 0, 0, 0, 0, [])]
noncomputable def e12_passes : XN := [(338, 1, 3, 12, F12_who), (282, 1, 1, 12, F12_guests), (310, 1, 3, 12, F12_isIn), (341, 0, 3, 12, F12_breathes), (286, 1, 3, 12, F12_guestOf), (344, 0, 3, 12, F12_drawsIn), (347, 1, 1, 99, F12_bits), (298, 1, 1, 12, F12_belts), (332, 1, 2, 12, F12_wall), (350, 1, 2, 12, F12_worthAt)]
noncomputable def h12_passes_9 (n : Nat) (v1 : Int32) (v2 : Int32) (v3 : Int32) (μ : XM) : XR := arr t12_passes e12_passes 1 193 n 9 [some (xr 12 0 0), some (xi v1), some (xi v2), some (xi v3), none] [] μ
noncomputable def h12_passes_40 (n : Nat) (v1 : Int32) (v2 : Int32) (v3 : Int32) (μ : XM) : XR := arr t12_passes e12_passes 1 193 n 40 [some (xr 12 0 0), some (xi v1), some (xi v2), some (xi v3), none] [] μ
noncomputable def h12_passes_183 (n : Nat) (v1 : Int32) (v2 : Int32) (s0 : Int32) (μ : XM) : XR := arr t12_passes e12_passes 1 193 n 183 [some (xr 12 0 0), some (xi v1), some (xi v2), none, none] [xi s0] μ
noncomputable def h12_passes_207 (n : Nat) (v1 : Int32) (v2 : Int32) (s0 : Int32) (μ : XM) : XR := arr t12_passes e12_passes 1 193 n 207 [some (xr 12 0 0), some (xi v1), some (xi v2), none, none] [xi s0] μ
noncomputable def h12_passes_250 (n : Nat) (v1 : Int32) (v2 : Int32) (v4 : Int32) (μ : XM) : XR := arr t12_passes e12_passes 1 193 n 250 [some (xr 12 0 0), some (xi v1), some (xi v2), none, some (xi v4)] [] μ
set_option maxRecDepth 100000 in
theorem h12_passes_9_s (n : Nat) (v1 : Int32) (v2 : Int32) (v3 : Int32) (μ : XM) : h12_passes_9 (n + 1) v1 v2 v3 μ = (
  bI (f12_guests μ) fun r2 m1 =>
  xite (v3 < r2) (
    bI (f12_isIn v1 v3 m1) fun r4 m3 =>
    xite (r4 = 0) (
      vI (v3 + 1) fun x5 =>
      h12_passes_9 n v1 v2 x5 m3) (
      bV (f12_breathes v1 v3 m3) fun m6 =>
      vI (v3 + 1) fun x7 =>
      h12_passes_9 n v1 v2 x7 m6)) (
    vI 0 fun x8 =>
    h12_passes_40 n v1 v2 x8 m1)) := rfl
theorem h12_passes_9_0 (v1 : Int32) (v2 : Int32) (v3 : Int32) (μ : XM) : h12_passes_9 0 v1 v2 v3 μ = none := rfl
set_option maxRecDepth 100000 in
theorem h12_passes_40_s (n : Nat) (v1 : Int32) (v2 : Int32) (v3 : Int32) (μ : XM) : h12_passes_40 (n + 1) v1 v2 v3 μ = (
  bI (f12_guests μ) fun r2 m1 =>
  xite (v3 < r2) (
    bI (f12_isIn v1 v3 m1) fun r4 m3 =>
    xite (r4 = 0) (
      vI (v3 + 1) fun x5 =>
      h12_passes_40 n v1 v2 x5 m3) (
      xck (xin ((v1 + 15) + v3) 1081) <|
      xite ((aI m3 12 0 24 (Int32.toNatClampNeg ((v1 + 15) + v3))) < 0) (
        bI (f12_guestOf v3 0 m3) fun r7 m6 =>
        xite (r7 = 3) (
          bV (f12_drawsIn v1 v3 m6) fun m8 =>
          vI (v3 + 1) fun x9 =>
          h12_passes_40 n v1 v2 x9 m8) (
          vI (v3 + 1) fun x10 =>
          h12_passes_40 n v1 v2 x10 m6)) (
        bV (f12_drawsIn v1 v3 m3) fun m11 =>
        vI (v3 + 1) fun x12 =>
        h12_passes_40 n v1 v2 x12 m11))) (
    xck (xin (v1 + 1) 1081) <|
    xck (xin 0 4 && true) <|
    mS (pI m1 12 0 22 (Int32.toNatClampNeg 0) (aI m1 12 0 24 (Int32.toNatClampNeg (v1 + 1)))) fun m13 =>
    xck (xin (v1 + 2) 1081) <|
    xck (xin 1 4 && true) <|
    mS (pI m13 12 0 22 (Int32.toNatClampNeg 1) (aI m13 12 0 24 (Int32.toNatClampNeg (v1 + 2)))) fun m14 =>
    bI (f12_who v1 0 m14) fun r16 m15 =>
    bI (f12_bits r16 m15) fun r18 m17 =>
    xck (xin 2 4 && true) <|
    mS (pI m17 12 0 22 (Int32.toNatClampNeg 2) r18) fun m19 =>
    bI (f12_belts m19) fun r21 m20 =>
    bI (f12_wall v1 m20) fun r23 m22 =>
    bI (f12_bits r23 m22) fun r25 m24 =>
    xck (xin 3 4 && true) <|
    mS (pI m24 12 0 22 (Int32.toNatClampNeg 3) (r21 - r25)) fun m26 =>
    xck (xin 5 120) <|
    xite ((aI m26 12 0 10 (Int32.toNatClampNeg 5)) < 0) (
      xck (xin 0 4) <|
      h12_passes_183 n v1 v2 (aI m26 12 0 22 (Int32.toNatClampNeg 0)) m26) (
      xck (xin 5 120) <|
      bI (f12_worthAt (aI m26 12 0 10 (Int32.toNatClampNeg 5)) m26) fun r28 m27 =>
      h12_passes_183 n v1 v2 r28 m27))) := rfl
theorem h12_passes_40_0 (v1 : Int32) (v2 : Int32) (v3 : Int32) (μ : XM) : h12_passes_40 0 v1 v2 v3 μ = none := rfl
set_option maxRecDepth 100000 in
theorem h12_passes_183_s (n : Nat) (v1 : Int32) (v2 : Int32) (s0 : Int32) (μ : XM) : h12_passes_183 (n + 1) v1 v2 s0 μ = (
  vI s0 fun x1 =>
  xite (x1 < (-9)) (
    h12_passes_207 n v1 v2 (-9) μ) (
    xite ((9 : Int32) < x1) (
      h12_passes_207 n v1 v2 9 μ) (
      h12_passes_207 n v1 v2 x1 μ))) := rfl
theorem h12_passes_183_0 (v1 : Int32) (v2 : Int32) (s0 : Int32) (μ : XM) : h12_passes_183 0 v1 v2 s0 μ = none := rfl
set_option maxRecDepth 100000 in
theorem h12_passes_207_s (n : Nat) (v1 : Int32) (v2 : Int32) (s0 : Int32) (μ : XM) : h12_passes_207 (n + 1) v1 v2 s0 μ = (
  vI s0 fun x1 =>
  xck (xin (v1 + 2) 1081) <|
  vI (x1 + (aI μ 12 0 24 (Int32.toNatClampNeg (v1 + 2)))) fun x2 =>
  xite (x2 < 0) (
    xck (xin (v1 + 2) 1081 && true) <|
    mS (pI μ 12 0 24 (Int32.toNatClampNeg (v1 + 2)) 0) fun m3 =>
    vI 0 fun x4 =>
    h12_passes_250 n v1 v2 x4 m3) (
    xite ((60 : Int32) < x2) (
      xck (xin (v1 + 2) 1081 && true) <|
      mS (pI μ 12 0 24 (Int32.toNatClampNeg (v1 + 2)) 60) fun m5 =>
      vI 0 fun x6 =>
      h12_passes_250 n v1 v2 x6 m5) (
      xck (xin (v1 + 2) 1081 && true) <|
      mS (pI μ 12 0 24 (Int32.toNatClampNeg (v1 + 2)) x2) fun m7 =>
      vI 0 fun x8 =>
      h12_passes_250 n v1 v2 x8 m7))) := rfl
theorem h12_passes_207_0 (v1 : Int32) (v2 : Int32) (s0 : Int32) (μ : XM) : h12_passes_207 0 v1 v2 s0 μ = none := rfl
set_option maxRecDepth 100000 in
theorem h12_passes_250_s (n : Nat) (v1 : Int32) (v2 : Int32) (v4 : Int32) (μ : XM) : h12_passes_250 (n + 1) v1 v2 v4 μ = (
  xite (v4 < 3) (
    xck (xin ((v1 + 27) + v4) 1081 && true) <|
    mS (pI μ 12 0 24 (Int32.toNatClampNeg ((v1 + 27) + v4)) 0) fun m1 =>
    vI (v4 + 1) fun x2 =>
    h12_passes_250 n v1 v2 x2 m1) (
    xck (xin (v1 + 0) 1081) <|
    xck (xin (v1 + 0) 1081 && true) <|
    mS (pI μ 12 0 24 (Int32.toNatClampNeg (v1 + 0)) ((aI μ 12 0 24 (Int32.toNatClampNeg (v1 + 0))) + 1)) fun m3 =>
    bI (f12_who v1 2 m3) fun r5 m4 =>
    xri (r5 &&& (v2 ^^^ (-1))) m4)) := rfl
theorem h12_passes_250_0 (v1 : Int32) (v2 : Int32) (v4 : Int32) (μ : XM) : h12_passes_250 0 v1 v2 v4 μ = none := rfl
noncomputable def k12_passes (n : Nat) (p1 : Int32) (μ : XM) : XR :=
  bI (f12_who p1 2 μ) fun r2 m1 =>
  vI r2 fun x3 =>
  vI 0 fun x4 =>
  h12_passes_9 n p1 x3 x4 m1
set_option maxRecDepth 100000 in
theorem q12_passes (n : Nat) (p1 : Int32) (μ : XM) : xrun t12_passes e12_passes (xrtk (some .int)) 193 n (xlo [xr 12 0 0, xi p1] 5) μ = k12_passes n p1 μ := rfl
theorem x12_passes : ∃ f : Int32 → XM → XR, ∀ (p1 : Int32) (μ : XM), f p1 μ = k12_passes 20000 p1 μ := ⟨fun p1 μ => k12_passes 20000 p1 μ, fun p1 μ => rfl⟩
noncomputable def f12_passes : Int32 → XM → XR := Classical.choose x12_passes
theorem f12_passes_e (p1 : Int32) (μ : XM) : f12_passes p1 μ = k12_passes 20000 p1 μ := Classical.choose_spec x12_passes p1 μ
noncomputable def F12_passes : XF := fun av μ => match av with
  | [.inr (.inr (some (t0, i0, 0))), .inl p1] => bif Nat.beq t0 12 && Nat.beq i0 0 then f12_passes p1 μ else none
  | _ => none
set_option maxRecDepth 100000 in
theorem c12_passes {X : XP} (hX : XOK X) (l : Launch) : Ctr X l y12_passes prog_14_method_72_code 5 (some .int) (xrm 6) 0 0 F12_passes :=
  Ctr_of (tab := t12_passes) (env := e12_passes) (K := 193) (N := 20000) (fl := fl12) (cl := cl12) (ll := ll12) (jl := jl12) hX mf12_passes.2.2.2 ⟨by decide +kernel, flk12, clk12, llk12, jlk12⟩
   (List.forall_mem_cons.mpr ⟨xcal_v (na := 2) (c12_who hX l) mf12_who ⟨rfl, rfl⟩ ml12_338 mi12_who me12_who (xrm_ok (by omega) (by decide)) rfl (by decide) (by decide +kernel), List.forall_mem_cons.mpr ⟨xcal_v (na := 0) (c12_guests hX l) mf12_guests ⟨rfl, rfl⟩ ml12_282 mi12_guests me12_guests (xrm_ok (by omega) (by decide)) rfl (by decide) (by decide +kernel), List.forall_mem_cons.mpr ⟨xcal_v (na := 2) (c12_isIn hX l) mf12_isIn ⟨rfl, rfl⟩ ml12_310 mi12_isIn me12_isIn (xrm_ok (by omega) (by decide)) rfl (by decide) (by decide +kernel), List.forall_mem_cons.mpr ⟨xcal_v (na := 2) (c12_breathes hX l) mf12_breathes ⟨rfl, rfl⟩ ml12_341 mi12_breathes me12_breathes (xrm_ok (by omega) (by decide)) rfl (by decide) (by decide +kernel), List.forall_mem_cons.mpr ⟨xcal_v (na := 2) (c12_guestOf hX l) mf12_guestOf ⟨rfl, rfl⟩ ml12_286 mi12_guestOf me12_guestOf (xrm_ok (by omega) (by decide)) rfl (by decide) (by decide +kernel), List.forall_mem_cons.mpr ⟨xcal_v (na := 2) (c12_drawsIn hX l) mf12_drawsIn ⟨rfl, rfl⟩ ml12_344 mi12_drawsIn me12_drawsIn (xrm_ok (by omega) (by decide)) rfl (by decide) (by decide +kernel), List.forall_mem_cons.mpr ⟨xcal_s (c12_bits hX l) mf12_bits ⟨rfl, rfl⟩ ml12_347 ms12_bits (xrm_ok (by omega) (by decide)) (by decide +kernel), List.forall_mem_cons.mpr ⟨xcal_v (na := 0) (c12_belts hX l) mf12_belts ⟨rfl, rfl⟩ ml12_298 mi12_belts me12_belts (xrm_ok (by omega) (by decide)) rfl (by decide) (by decide +kernel), List.forall_mem_cons.mpr ⟨xcal_v (na := 1) (c12_wall hX l) mf12_wall ⟨rfl, rfl⟩ ml12_332 mi12_wall me12_wall (xrm_ok (by omega) (by decide)) rfl (by decide) (by decide +kernel), List.forall_mem_cons.mpr ⟨xcal_v (na := 1) (c12_worthAt hX l) mf12_worthAt ⟨rfl, rfl⟩ ml12_350 mi12_worthAt me12_worthAt (xrm_ok (by omega) (by decide)) rfl (by decide) (by decide +kernel), fun _ h => absurd h List.not_mem_nil⟩⟩⟩⟩⟩⟩⟩⟩⟩⟩)
   (xrm_1 (by decide)) ⟨_, _, rfl, rfl⟩ (fun av μ r μ' h => by
    unfold F12_passes at h
    split at h
    · replace h := cond_inv h; obtain ⟨hb, h⟩ := h
      simp only [Bool.and_eq_true] at hb
      obtain ⟨g0, g1⟩ := hb
      obtain rfl := Nat.eq_of_beq_eq_true g0
      obtain rfl := Nat.eq_of_beq_eq_true g1
      exact ⟨Nat.le_of_ble_eq_true rfl, (q12_passes _ _ _).trans ((f12_passes_e _ _).symm.trans h)⟩
    · cases h)
def t12_guest : List XE := [(0, .aload_n 0, 0, 0, 0, 0, []),
  (1, .iconst 0, 0, 0, 0, 0, []),
  (2, .putfield 1, 12, 0, 0, 0, []),
  (5, .aload_n 0, 0, 0, 0, 0, []),
  (6, .iload_n 1, 1, 0, 0, 0, []),
  (7, .invokevirtual 353, 2, 12, 0, 0, []),
  (10, .ifCond .eq 13, 23, 0, 0, 0, []),
  (13, .iload_n 2, 2, 0, 0, 0, []),
  (14, .iconst 0, 0, 0, 0, 0, []),
  (15, .bipush 6, 0, 0, 6, 0, []),
  (17, .invokestatic 215, 3, 0, 0, 0, []),
  (20, .ifCond .ne 6, 26, 0, 0, 0, []),
  (23, .bipush (-2), 0, 0, (-2), 0, []),
  (25, .ireturn, 0, 0, 0, 0, []),
  (26, .iload_n 2, 2, 0, 0, 0, []),
  (27, .tableswitch 82 1 6 #[37, 82, 46, 56, 62, 72], 109, 0, 0, 0, [(1, 64), (2, 109), (3, 73), (4, 83), (5, 89), (6, 99)]),
  (64, .aload_n 0, 0, 0, 0, 0, []),
  (65, .getfield 121, 12, 24, 0, 0, []),
  (68, .iconst 3, 0, 0, 3, 0, []),
  (69, .iload_n 1, 1, 0, 0, 0, []),
  (70, .iadd, 0, 0, 0, 0, []),
  (71, .iaload, 0, 0, 0, 0, []),
  (72, .ireturn, 0, 0, 0, 0, []),
  (73, .aload_n 0, 0, 0, 0, 0, []),
  (74, .getfield 121, 12, 24, 0, 0, []),
  (77, .bipush 9, 0, 0, 9, 0, []),
  (79, .iload_n 1, 1, 0, 0, 0, []),
  (80, .iadd, 0, 0, 0, 0, []),
  (81, .iaload, 0, 0, 0, 0, []),
  (82, .ireturn, 0, 0, 0, 0, []),
  (83, .aload_n 0, 0, 0, 0, 0, []),
  (84, .iload_n 1, 1, 0, 0, 0, []),
  (85, .invokevirtual 307, 2, 12, 0, 0, []),
  (88, .ireturn, 0, 0, 0, 0, []),
  (89, .aload_n 0, 0, 0, 0, 0, []),
  (90, .getfield 121, 12, 24, 0, 0, []),
  (93, .bipush 15, 0, 0, 15, 0, []),
  (95, .iload_n 1, 1, 0, 0, 0, []),
  (96, .iadd, 0, 0, 0, 0, []),
  (97, .iaload, 0, 0, 0, 0, []),
  (98, .ireturn, 0, 0, 0, 0, []),
  (99, .aload_n 0, 0, 0, 0, 0, []),
  (100, .getfield 121, 12, 24, 0, 0, []),
  (103, .bipush 21, 0, 0, 21, 0, []),
  (105, .iload_n 1, 1, 0, 0, 0, []),
  (106, .iadd, 0, 0, 0, 0, []),
  (107, .iaload, 0, 0, 0, 0, []),
  (108, .ireturn, 0, 0, 0, 0, []),
  (109, .aload_n 0, 0, 0, 0, 0, []),
  (110, .iload_n 1, 1, 0, 0, 0, []),
  (111, .iload_n 2, 2, 0, 0, 0, []),
  (112, .invokevirtual 286, 3, 12, 0, 0, []),
  (115, .ireturn, 0, 0, 0, 0, [])]
noncomputable def e12_guest : XN := [(353, 1, 2, 12, F12_isGuest), (215, 1, 3, 99, F12_within), (307, 1, 2, 12, F12_weightOf), (286, 1, 3, 12, F12_guestOf)]
noncomputable def k12_guest (p1 : Int32) (p2 : Int32) (μ : XM) : XR :=
  mS (sI μ 12 0 0 0) fun m1 =>
  bI (f12_isGuest p1 m1) fun r3 m2 =>
  xite (r3 = 0) (
    xri (-2) m2) (
    bI (f12_within p2 0 6 m2) fun r5 m4 =>
    xite (r5 = 0) (
      xri (-2) m4) (
      xite (p2 = 1) (
        xck (xin (3 + p1) 1081) <|
        xri (aI m4 12 0 24 (Int32.toNatClampNeg (3 + p1))) m4) (
      xite (p2 = 2) (
        bI (f12_guestOf p1 p2 m4) fun r7 m6 =>
        xri r7 m6) (
      xite (p2 = 3) (
        xck (xin (9 + p1) 1081) <|
        xri (aI m4 12 0 24 (Int32.toNatClampNeg (9 + p1))) m4) (
      xite (p2 = 4) (
        bI (f12_weightOf p1 m4) fun r9 m8 =>
        xri r9 m8) (
      xite (p2 = 5) (
        xck (xin (15 + p1) 1081) <|
        xri (aI m4 12 0 24 (Int32.toNatClampNeg (15 + p1))) m4) (
      xite (p2 = 6) (
        xck (xin (21 + p1) 1081) <|
        xri (aI m4 12 0 24 (Int32.toNatClampNeg (21 + p1))) m4) (
      bI (f12_guestOf p1 p2 m4) fun r11 m10 =>
      xri r11 m10))))))))
set_option maxRecDepth 100000 in
theorem q12_guest (n : Nat) (p1 : Int32) (p2 : Int32) (μ : XM) : xrun t12_guest e12_guest (xrtk (some .int)) 58 n (xlo [xr 12 0 0, xi p1, xi p2] 3) μ = k12_guest p1 p2 μ := rfl
theorem x12_guest : ∃ f : Int32 → Int32 → XM → XR, ∀ (p1 : Int32) (p2 : Int32) (μ : XM), f p1 p2 μ = k12_guest p1 p2 μ := ⟨fun p1 p2 μ => k12_guest p1 p2 μ, fun p1 p2 μ => rfl⟩
noncomputable def f12_guest : Int32 → Int32 → XM → XR := Classical.choose x12_guest
theorem f12_guest_e (p1 : Int32) (p2 : Int32) (μ : XM) : f12_guest p1 p2 μ = k12_guest p1 p2 μ := Classical.choose_spec x12_guest p1 p2 μ
noncomputable def F12_guest : XF := fun av μ => match av with
  | [.inr (.inr (some (t0, i0, 0))), .inl p1, .inl p2] => bif Nat.beq t0 12 && Nat.beq i0 0 then f12_guest p1 p2 μ else none
  | _ => none
set_option maxRecDepth 100000 in
theorem c12_guest {X : XP} (hX : XOK X) (l : Launch) : Ctr X l y12_guest prog_14_method_73_code 3 (some .int) (xrm 3) 0 0 F12_guest :=
  Ctr_of (tab := t12_guest) (env := e12_guest) (K := 58) (N := 20000) (fl := fl12) (cl := cl12) (ll := ll12) (jl := jl12) hX mf12_guest.2.2.2 ⟨by decide +kernel, flk12, clk12, llk12, jlk12⟩
   (List.forall_mem_cons.mpr ⟨xcal_v (na := 1) (c12_isGuest hX l) mf12_isGuest ⟨rfl, rfl⟩ ml12_353 mi12_isGuest me12_isGuest (xrm_ok (by omega) (by decide)) rfl (by decide) (by decide +kernel), List.forall_mem_cons.mpr ⟨xcal_s (c12_within hX l) mf12_within ⟨rfl, rfl⟩ ml12_215 ms12_within (xrm_ok (by omega) (by decide)) (by decide +kernel), List.forall_mem_cons.mpr ⟨xcal_v (na := 1) (c12_weightOf hX l) mf12_weightOf ⟨rfl, rfl⟩ ml12_307 mi12_weightOf me12_weightOf (xrm_ok (by omega) (by decide)) rfl (by decide) (by decide +kernel), List.forall_mem_cons.mpr ⟨xcal_v (na := 2) (c12_guestOf hX l) mf12_guestOf ⟨rfl, rfl⟩ ml12_286 mi12_guestOf me12_guestOf (xrm_ok (by omega) (by decide)) rfl (by decide) (by decide +kernel), fun _ h => absurd h List.not_mem_nil⟩⟩⟩⟩)
   (xrm_1 (by decide)) ⟨_, _, rfl, rfl⟩ (fun av μ r μ' h => by
    unfold F12_guest at h
    split at h
    · replace h := cond_inv h; obtain ⟨hb, h⟩ := h
      simp only [Bool.and_eq_true] at hb
      obtain ⟨g0, g1⟩ := hb
      obtain rfl := Nat.eq_of_beq_eq_true g0
      obtain rfl := Nat.eq_of_beq_eq_true g1
      exact ⟨Nat.le_of_ble_eq_true rfl, (q12_guest _ _ _ _).trans ((f12_guest_e _ _ _).symm.trans h)⟩
    · cases h)
