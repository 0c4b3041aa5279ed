def t2_isMan : List XE := [(0, .iload_n 1, 1, 0, 0, 0, []),
  (1, .ifCond .lt 15, 16, 0, 0, 0, []),
  (4, .iload_n 1, 1, 0, 0, 0, []),
  (5, .aload_n 0, 0, 0, 0, 0, []),
  (6, .getfield 60, 2, 2, 0, 0, []),
  (9, .if_icmp .ge 7, 16, 0, 0, 0, []),
  (12, .iconst 1, 0, 0, 1, 0, []),
  (13, .goto 4, 17, 0, 0, 0, []),
  (16, .iconst 0, 0, 0, 0, 0, []),
  (17, .ireturn, 0, 0, 0, 0, [])]
noncomputable def e2_isMan : XN := []
noncomputable def k2_isMan (i0 : Nat) (p1 : Int32) (μ : XM) : XR :=
  xite (p1 < 0) (
    xrb 0 μ) (
    xite (p1 < (rI μ 2 i0 2)) (
      xrb 1 μ) (
      xrb 0 μ))
set_option maxRecDepth 100000 in
theorem q2_isMan (n : Nat) (i0 : Nat) (p1 : Int32) (μ : XM) : xrun t2_isMan e2_isMan (xrtk (some .boolean)) 15 n (xlo [xr 2 i0 0, xi p1] 2) μ = k2_isMan i0 p1 μ := rfl
theorem x2_isMan : ∃ f : Nat → Int32 → XM → XR, ∀ (i0 : Nat) (p1 : Int32) (μ : XM), f i0 p1 μ = k2_isMan i0 p1 μ := ⟨fun i0 p1 μ => k2_isMan i0 p1 μ, fun i0 p1 μ => rfl⟩
noncomputable def f2_isMan : Nat → Int32 → XM → XR := Classical.choose x2_isMan
theorem f2_isMan_e (i0 : Nat) (p1 : Int32) (μ : XM) : f2_isMan i0 p1 μ = k2_isMan i0 p1 μ := Classical.choose_spec x2_isMan i0 p1 μ
noncomputable def F2_isMan : XF := fun av μ => match av with
  | [.inr (.inr (some (t0, i0, 0))), .inl p1] => bif Nat.beq t0 2 then f2_isMan i0 p1 μ else none
  | _ => none
set_option maxRecDepth 100000 in
theorem c2_isMan {X : XP} (hX : XOK X) (l : Launch) : Ctr X l y2_isMan prog_4_method_7_code 2 (some .boolean) (xrm 1) 0 0 F2_isMan :=
  Ctr_of (tab := t2_isMan) (env := e2_isMan) (K := 15) (N := 20000) (fl := fl2) (cl := cl2) (ll := ll2) (jl := jl2) hX mf2_isMan.2.2.2 ⟨by decide +kernel, flk2, clk2, llk2, jlk2⟩
   (fun _ h => absurd h List.not_mem_nil)
   (xrm_1 (by decide)) ⟨_, _, rfl, rfl⟩ (fun av μ r μ' h => by
    unfold F2_isMan at h
    split at h
    · replace h := cond_inv h; obtain ⟨hb, h⟩ := h
      obtain rfl := Nat.eq_of_beq_eq_true hb
      exact ⟨Nat.le_of_ble_eq_true rfl, (q2_isMan _ _ _ _).trans ((f2_isMan_e _ _ _).symm.trans h)⟩
    · cases h)
def t8_isFree : List XE := [(0, .aload_n 0, 0, 0, 0, 0, []),
  (1, .getfield 24, 8, 0, 0, 0, []),
  (4, .iload_n 1, 1, 0, 0, 0, []),
  (5, .invokevirtual 72, 2, 2, 0, 0, []),
  (8, .ifCond .eq 18, 26, 0, 0, 0, []),
  (11, .aload_n 0, 0, 0, 0, 0, []),
  (12, .getfield 32, 8, 5, 0, 0, []),
  (15, .iload_n 1, 1, 0, 0, 0, []),
  (16, .ishr, 0, 0, 0, 0, []),
  (17, .iconst 1, 0, 0, 1, 0, []),
  (18, .iand, 0, 0, 0, 0, []),
  (19, .ifCond .ne 7, 26, 0, 0, 0, []),
  (22, .iconst 1, 0, 0, 1, 0, []),
  (23, .goto 4, 27, 0, 0, 0, []),
  (26, .iconst 0, 0, 0, 0, 0, []),
  (27, .ireturn, 0, 0, 0, 0, [])]
noncomputable def e8_isFree : XN := [(72, 1, 2, 2, F2_isMan)]
noncomputable def k8_isFree (i0 : Nat) (p1 : Int32) (μ : XM) : XR :=
  bI (f2_isMan 0 p1 μ) fun r2 m1 =>
  xite (r2 = 0) (
    xrb 0 m1) (
    xite ((((rI m1 8 i0 5) >>> (p1 &&& 31)) &&& 1) = 0) (
      xrb 1 m1) (
      xrb 0 m1))
set_option maxRecDepth 100000 in
theorem q8_isFree (n : Nat) (i0 : Nat) (p1 : Int32) (μ : XM) : xrun t8_isFree e8_isFree (xrtk (some .boolean)) 21 n (xlo [xr 8 i0 0, xi p1] 2) μ = k8_isFree i0 p1 μ := rfl
theorem x8_isFree : ∃ f : Nat → Int32 → XM → XR, ∀ (i0 : Nat) (p1 : Int32) (μ : XM), f i0 p1 μ = k8_isFree i0 p1 μ := ⟨fun i0 p1 μ => k8_isFree i0 p1 μ, fun i0 p1 μ => rfl⟩
noncomputable def f8_isFree : Nat → Int32 → XM → XR := Classical.choose x8_isFree
theorem f8_isFree_e (i0 : Nat) (p1 : Int32) (μ : XM) : f8_isFree i0 p1 μ = k8_isFree i0 p1 μ := Classical.choose_spec x8_isFree i0 p1 μ
noncomputable def F8_isFree : XF := fun av μ => match av with
  | [.inr (.inr (some (t0, i0, 0))), .inl p1] => bif Nat.beq t0 8 then f8_isFree i0 p1 μ else none
  | _ => none
set_option maxRecDepth 100000 in
theorem c8_isFree {X : XP} (hX : XOK X) (l : Launch) : Ctr X l y8_isFree prog_10_method_11_code 2 (some .boolean) (xrm 2) 0 0 F8_isFree :=
  Ctr_of (tab := t8_isFree) (env := e8_isFree) (K := 21) (N := 20000) (fl := fl8) (cl := cl8) (ll := ll8) (jl := jl8) hX mf8_isFree.2.2.2 ⟨by decide +kernel, flk8, clk8, llk8, jlk8⟩
   (List.forall_mem_cons.mpr ⟨xcal_v (na := 1) (c2_isMan hX l) mf2_isMan ⟨rfl, rfl⟩ ml8_72 mi2_isMan me2_isMan (xrm_ok (by omega) (by decide)) rfl (by decide) (by decide +kernel), fun _ h => absurd h List.not_mem_nil⟩)
   (xrm_1 (by decide)) ⟨_, _, rfl, rfl⟩ (fun av μ r μ' h => by
    unfold F8_isFree at h
    split at h
    · replace h := cond_inv h; obtain ⟨hb, h⟩ := h
      obtain rfl := Nat.eq_of_beq_eq_true hb
      exact ⟨Nat.le_of_ble_eq_true rfl, (q8_isFree _ _ _ _).trans ((f8_isFree_e _ _ _).symm.trans h)⟩
    · cases h)
def t8_canStop : List XE := [(0, .aload_n 0, 0, 0, 0, 0, []),
  (1, .iload_n 1, 1, 0, 0, 0, []),
  (2, .invokevirtual 94, 2, 8, 0, 0, []),
  (5, .ifCond .eq 14, 19, 0, 0, 0, []),
  (8, .aload_n 0, 0, 0, 0, 0, []),
  (9, .getfield 39, 8, 6, 0, 0, []),
  (12, .ifCond .le 7, 19, 0, 0, 0, []),
  (15, .iconst 1, 0, 0, 1, 0, []),
  (16, .goto 4, 20, 0, 0, 0, []),
  (19, .iconst 0, 0, 0, 0, 0, []),
  (20, .ireturn, 0, 0, 0, 0, [])]
noncomputable def e8_canStop : XN := [(94, 1, 2, 8, F8_isFree)]
noncomputable def k8_canStop (i0 : Nat) (p1 : Int32) (μ : XM) : XR :=
  bI (f8_isFree i0 p1 μ) fun r2 m1 =>
  xite (r2 = 0) (
    xrb 0 m1) (
    xite ((0 : Int32) < (rI m1 8 i0 6)) (
      xrb 1 m1) (
      xrb 0 m1))
set_option maxRecDepth 100000 in
theorem q8_canStop (n : Nat) (i0 : Nat) (p1 : Int32) (μ : XM) : xrun t8_canStop e8_canStop (xrtk (some .boolean)) 16 n (xlo [xr 8 i0 0, xi p1] 2) μ = k8_canStop i0 p1 μ := rfl
theorem x8_canStop : ∃ f : Nat → Int32 → XM → XR, ∀ (i0 : Nat) (p1 : Int32) (μ : XM), f i0 p1 μ = k8_canStop i0 p1 μ := ⟨fun i0 p1 μ => k8_canStop i0 p1 μ, fun i0 p1 μ => rfl⟩
noncomputable def f8_canStop : Nat → Int32 → XM → XR := Classical.choose x8_canStop
theorem f8_canStop_e (i0 : Nat) (p1 : Int32) (μ : XM) : f8_canStop i0 p1 μ = k8_canStop i0 p1 μ := Classical.choose_spec x8_canStop i0 p1 μ
noncomputable def F8_canStop : XF := fun av μ => match av with
  | [.inr (.inr (some (t0, i0, 0))), .inl p1] => bif Nat.beq t0 8 then f8_canStop i0 p1 μ else none
  | _ => none
set_option maxRecDepth 100000 in
theorem c8_canStop {X : XP} (hX : XOK X) (l : Launch) : Ctr X l y8_canStop prog_10_method_22_code 2 (some .boolean) (xrm 3) 0 0 F8_canStop :=
  Ctr_of (tab := t8_canStop) (env := e8_canStop) (K := 16) (N := 20000) (fl := fl8) (cl := cl8) (ll := ll8) (jl := jl8) hX mf8_canStop.2.2.2 ⟨by decide +kernel, flk8, clk8, llk8, jlk8⟩
   (List.forall_mem_cons.mpr ⟨xcal_v (na := 1) (c8_isFree hX l) mf8_isFree ⟨rfl, rfl⟩ ml8_94 mi8_isFree me8_isFree (xrm_ok (by omega) (by decide)) rfl (by decide) (by decide +kernel), fun _ h => absurd h List.not_mem_nil⟩)
   (xrm_1 (by decide)) ⟨_, _, rfl, rfl⟩ (fun av μ r μ' h => by
    unfold F8_canStop at h
    split at h
    · replace h := cond_inv h; obtain ⟨hb, h⟩ := h
      obtain rfl := Nat.eq_of_beq_eq_true hb
      exact ⟨Nat.le_of_ble_eq_true rfl, (q8_canStop _ _ _ _).trans ((f8_canStop_e _ _ _).symm.trans h)⟩
    · cases h)
def t8_closeGap : List XE := [(0, .aload_n 0, 0, 0, 0, 0, []),
  (1, .dup, 0, 0, 0, 0, []),
  (2, .getfield 39, 8, 6, 0, 0, []),
  (5, .iconst 1, 0, 0, 1, 0, []),
  (6, .isub, 0, 0, 0, 0, []),
  (7, .putfield 39, 8, 6, 0, 0, []),
  (10, .aload_n 0, 0, 0, 0, 0, []),
  (11, .dup, 0, 0, 0, 0, []),
  (12, .getfield 32, 8, 5, 0, 0, []),
  (15, .iconst 1, 0, 0, 1, 0, []),
  (16, .iload_n 1, 1, 0, 0, 0, []),
  (17, .ishl, 0, 0, 0, 0, []),
  (18, .ior, 0, 0, 0, 0, []),
  (19, .putfield 32, 8, 5, 0, 0, []),
  (22, .return_, 0, 0, 0, 0, [])]
noncomputable def e8_closeGap : XN := []
noncomputable def k8_closeGap (i0 : Nat) (p1 : Int32) (μ : XM) : XR :=
  mS (sI μ 8 i0 6 ((rI μ 8 i0 6) - 1)) fun m1 =>
  mS (sI m1 8 i0 5 ((rI m1 8 i0 5) ||| (1 <<< (p1 &&& 31)))) fun m2 =>
  xrv m2
set_option maxRecDepth 100000 in
theorem q8_closeGap (n : Nat) (i0 : Nat) (p1 : Int32) (μ : XM) : xrun t8_closeGap e8_closeGap (xrtk none) 20 n (xlo [xr 8 i0 0, xi p1] 2) μ = k8_closeGap i0 p1 μ := rfl
theorem x8_closeGap : ∃ f : Nat → Int32 → XM → XR, ∀ (i0 : Nat) (p1 : Int32) (μ : XM), f i0 p1 μ = k8_closeGap i0 p1 μ := ⟨fun i0 p1 μ => k8_closeGap i0 p1 μ, fun i0 p1 μ => rfl⟩
noncomputable def f8_closeGap : Nat → Int32 → XM → XR := Classical.choose x8_closeGap
theorem f8_closeGap_e (i0 : Nat) (p1 : Int32) (μ : XM) : f8_closeGap i0 p1 μ = k8_closeGap i0 p1 μ := Classical.choose_spec x8_closeGap i0 p1 μ
noncomputable def F8_closeGap : XF := fun av μ => match av with
  | [.inr (.inr (some (t0, i0, 0))), .inl p1] => bif Nat.beq t0 8 then f8_closeGap i0 p1 μ else none
  | _ => none
set_option maxRecDepth 100000 in
theorem c8_closeGap {X : XP} (hX : XOK X) (l : Launch) : Ctr X l y8_closeGap prog_10_method_23_code 2 none (xrm 1) 0 0 F8_closeGap :=
  Ctr_of (tab := t8_closeGap) (env := e8_closeGap) (K := 20) (N := 20000) (fl := fl8) (cl := cl8) (ll := ll8) (jl := jl8) hX mf8_closeGap.2.2.2 ⟨by decide +kernel, flk8, clk8, llk8, jlk8⟩
   (fun _ h => absurd h List.not_mem_nil)
   (xrm_1 (by decide)) ⟨_, _, rfl, rfl⟩ (fun av μ r μ' h => by
    unfold F8_closeGap at h
    split at h
    · replace h := cond_inv h; obtain ⟨hb, h⟩ := h
      obtain rfl := Nat.eq_of_beq_eq_true hb
      exact ⟨Nat.le_of_ble_eq_true rfl, (q8_closeGap _ _ _ _).trans ((f8_closeGap_e _ _ _).symm.trans h)⟩
    · cases h)
def t2_isBelt : List XE := [(0, .iload_n 1, 1, 0, 0, 0, []),
  (1, .ifCond .lt 15, 16, 0, 0, 0, []),
  (4, .iload_n 1, 1, 0, 0, 0, []),
  (5, .aload_n 0, 0, 0, 0, 0, []),
  (6, .getfield 57, 2, 1, 0, 0, []),
  (9, .if_icmp .ge 7, 16, 0, 0, 0, []),
  (12, .iconst 1, 0, 0, 1, 0, []),
  (13, .goto 4, 17, 0, 0, 0, []),
  (16, .iconst 0, 0, 0, 0, 0, []),
  (17, .ireturn, 0, 0, 0, 0, [])]
noncomputable def e2_isBelt : XN := []
noncomputable def k2_isBelt (i0 : Nat) (p1 : Int32) (μ : XM) : XR :=
  xite (p1 < 0) (
    xrb 0 μ) (
    xite (p1 < (rI μ 2 i0 1)) (
      xrb 1 μ) (
      xrb 0 μ))
set_option maxRecDepth 100000 in
theorem q2_isBelt (n : Nat) (i0 : Nat) (p1 : Int32) (μ : XM) : xrun t2_isBelt e2_isBelt (xrtk (some .boolean)) 15 n (xlo [xr 2 i0 0, xi p1] 2) μ = k2_isBelt i0 p1 μ := rfl
theorem x2_isBelt : ∃ f : Nat → Int32 → XM → XR, ∀ (i0 : Nat) (p1 : Int32) (μ : XM), f i0 p1 μ = k2_isBelt i0 p1 μ := ⟨fun i0 p1 μ => k2_isBelt i0 p1 μ, fun i0 p1 μ => rfl⟩
noncomputable def f2_isBelt : Nat → Int32 → XM → XR := Classical.choose x2_isBelt
theorem f2_isBelt_e (i0 : Nat) (p1 : Int32) (μ : XM) : f2_isBelt i0 p1 μ = k2_isBelt i0 p1 μ := Classical.choose_spec x2_isBelt i0 p1 μ
noncomputable def F2_isBelt : XF := fun av μ => match av with
  | [.inr (.inr (some (t0, i0, 0))), .inl p1] => bif Nat.beq t0 2 then f2_isBelt i0 p1 μ else none
  | _ => none
set_option maxRecDepth 100000 in
theorem c2_isBelt {X : XP} (hX : XOK X) (l : Launch) : Ctr X l y2_isBelt prog_4_method_6_code 2 (some .boolean) (xrm 1) 0 0 F2_isBelt :=
  Ctr_of (tab := t2_isBelt) (env := e2_isBelt) (K := 15) (N := 20000) (fl := fl2) (cl := cl2) (ll := ll2) (jl := jl2) hX mf2_isBelt.2.2.2 ⟨by decide +kernel, flk2, clk2, llk2, jlk2⟩
   (fun _ h => absurd h List.not_mem_nil)
   (xrm_1 (by decide)) ⟨_, _, rfl, rfl⟩ (fun av μ r μ' h => by
    unfold F2_isBelt at h
    split at h
    · replace h := cond_inv h; obtain ⟨hb, h⟩ := h
      obtain rfl := Nat.eq_of_beq_eq_true hb
      exact ⟨Nat.le_of_ble_eq_true rfl, (q2_isBelt _ _ _ _).trans ((f2_isBelt_e _ _ _).symm.trans h)⟩
    · cases h)
def t8_isOnWall : List XE := [(0, .aload_n 0, 0, 0, 0, 0, []),
  (1, .getfield 24, 8, 0, 0, 0, []),
  (4, .iload_n 1, 1, 0, 0, 0, []),
  (5, .invokevirtual 62, 2, 2, 0, 0, []),
  (8, .ifCond .eq 16, 24, 0, 0, 0, []),
  (11, .aload_n 0, 0, 0, 0, 0, []),
  (12, .iload_n 1, 1, 0, 0, 0, []),
  (13, .invokevirtual 65, 2, 8, 0, 0, []),
  (16, .iconst (-1), 0, 0, (-1), 0, []),
  (17, .if_icmp .ne 7, 24, 0, 0, 0, []),
  (20, .iconst 1, 0, 0, 1, 0, []),
  (21, .goto 4, 25, 0, 0, 0, []),
  (24, .iconst 0, 0, 0, 0, 0, []),
  (25, .ireturn, 0, 0, 0, 0, [])]
noncomputable def e8_isOnWall : XN := [(62, 1, 2, 2, F2_isBelt), (65, 1, 2, 8, F8_holderOf)]
noncomputable def k8_isOnWall (i0 : Nat) (p1 : Int32) (μ : XM) : XR :=
  bI (f2_isBelt 0 p1 μ) fun r2 m1 =>
  xite (r2 = 0) (
    xrb 0 m1) (
    bI (f8_holderOf i0 p1 m1) fun r4 m3 =>
    xite (r4 = (-1)) (
      xrb 1 m3) (
      xrb 0 m3))
set_option maxRecDepth 100000 in
theorem q8_isOnWall (n : Nat) (i0 : Nat) (p1 : Int32) (μ : XM) : xrun t8_isOnWall e8_isOnWall (xrtk (some .boolean)) 19 n (xlo [xr 8 i0 0, xi p1] 2) μ = k8_isOnWall i0 p1 μ := rfl
theorem x8_isOnWall : ∃ f : Nat → Int32 → XM → XR, ∀ (i0 : Nat) (p1 : Int32) (μ : XM), f i0 p1 μ = k8_isOnWall i0 p1 μ := ⟨fun i0 p1 μ => k8_isOnWall i0 p1 μ, fun i0 p1 μ => rfl⟩
noncomputable def f8_isOnWall : Nat → Int32 → XM → XR := Classical.choose x8_isOnWall
theorem f8_isOnWall_e (i0 : Nat) (p1 : Int32) (μ : XM) : f8_isOnWall i0 p1 μ = k8_isOnWall i0 p1 μ := Classical.choose_spec x8_isOnWall i0 p1 μ
noncomputable def F8_isOnWall : XF := fun av μ => match av with
  | [.inr (.inr (some (t0, i0, 0))), .inl p1] => bif Nat.beq t0 8 then f8_isOnWall i0 p1 μ else none
  | _ => none
set_option maxRecDepth 100000 in
theorem c8_isOnWall {X : XP} (hX : XOK X) (l : Launch) : Ctr X l y8_isOnWall prog_10_method_9_code 2 (some .boolean) (xrm 2) 0 0 F8_isOnWall :=
  Ctr_of (tab := t8_isOnWall) (env := e8_isOnWall) (K := 19) (N := 20000) (fl := fl8) (cl := cl8) (ll := ll8) (jl := jl8) hX mf8_isOnWall.2.2.2 ⟨by decide +kernel, flk8, clk8, llk8, jlk8⟩
   (List.forall_mem_cons.mpr ⟨xcal_v (na := 1) (c2_isBelt hX l) mf2_isBelt ⟨rfl, rfl⟩ ml8_62 mi2_isBelt me2_isBelt (xrm_ok (by omega) (by decide)) rfl (by decide) (by decide +kernel), List.forall_mem_cons.mpr ⟨xcal_v (na := 1) (c8_holderOf hX l) mf8_holderOf ⟨rfl, rfl⟩ ml8_65 mi8_holderOf me8_holderOf (xrm_ok (by omega) (by decide)) rfl (by decide) (by decide +kernel), fun _ h => absurd h List.not_mem_nil⟩⟩)
   (xrm_1 (by decide)) ⟨_, _, rfl, rfl⟩ (fun av μ r μ' h => by
    unfold F8_isOnWall at h
    split at h
    · replace h := cond_inv h; obtain ⟨hb, h⟩ := h
      obtain rfl := Nat.eq_of_beq_eq_true hb
      exact ⟨Nat.le_of_ble_eq_true rfl, (q8_isOnWall _ _ _ _).trans ((f8_isOnWall_e _ _ _).symm.trans h)⟩
    · cases h)
def t8_wantsBelt : List XE := [(0, .aload_n 0, 0, 0, 0, 0, []),
  (1, .getfield 24, 8, 0, 0, 0, []),
  (4, .iload_n 1, 1, 0, 0, 0, []),
  (5, .invokevirtual 55, 2, 2, 0, 0, []),
  (8, .ifCond .eq 37, 45, 0, 0, 0, []),
  (11, .aload_n 0, 0, 0, 0, 0, []),
  (12, .getfield 18, 8, 3, 0, 0, []),
  (15, .iload_n 1, 1, 0, 0, 0, []),
  (16, .iaload, 0, 0, 0, 0, []),
  (17, .ifCond .ne 28, 45, 0, 0, 0, []),
  (20, .aload_n 0, 0, 0, 0, 0, []),
  (21, .getfield 21, 8, 4, 0, 0, []),
  (24, .iload_n 1, 1, 0, 0, 0, []),
  (25, .iaload, 0, 0, 0, 0, []),
  (26, .iconst (-1), 0, 0, (-1), 0, []),
  (27, .if_icmp .ne 18, 45, 0, 0, 0, []),
  (30, .aload_n 0, 0, 0, 0, 0, []),
  (31, .getfield 24, 8, 0, 0, 0, []),
  (34, .iload_n 1, 1, 0, 0, 0, []),
  (35, .invokevirtual 85, 2, 2, 0, 0, []),
  (38, .ifCond .ne 7, 45, 0, 0, 0, []),
  (41, .iconst 1, 0, 0, 1, 0, []),
  (42, .goto 4, 46, 0, 0, 0, []),
  (45, .iconst 0, 0, 0, 0, 0, []),
  (46, .ireturn, 0, 0, 0, 0, [])]
noncomputable def e8_wantsBelt : XN := [(55, 1, 2, 2, F2_isGuest), (85, 1, 2, 2, F2_isShabby)]
noncomputable def k8_wantsBelt (i0 : Nat) (p1 : Int32) (μ : XM) : XR :=
  bI (f2_isGuest 0 p1 μ) fun r2 m1 =>
  xite (r2 = 0) (
    xrb 0 m1) (
    xck (xin p1 6) <|
    xite ((aI m1 8 i0 3 (Int32.toNatClampNeg p1)) = 0) (
      xck (xin p1 6) <|
      xite ((aI m1 8 i0 4 (Int32.toNatClampNeg p1)) = (-1)) (
        bI (f2_isShabby 0 p1 m1) fun r4 m3 =>
        xite (r4 = 0) (
          xrb 1 m3) (
          xrb 0 m3)) (
        xrb 0 m1)) (
      xrb 0 m1))
set_option maxRecDepth 100000 in
theorem q8_wantsBelt (n : Nat) (i0 : Nat) (p1 : Int32) (μ : XM) : xrun t8_wantsBelt e8_wantsBelt (xrtk (some .boolean)) 30 n (xlo [xr 8 i0 0, xi p1] 2) μ = k8_wantsBelt i0 p1 μ := rfl
theorem x8_wantsBelt : ∃ f : Nat → Int32 → XM → XR, ∀ (i0 : Nat) (p1 : Int32) (μ : XM), f i0 p1 μ = k8_wantsBelt i0 p1 μ := ⟨fun i0 p1 μ => k8_wantsBelt i0 p1 μ, fun i0 p1 μ => rfl⟩
noncomputable def f8_wantsBelt : Nat → Int32 → XM → XR := Classical.choose x8_wantsBelt
theorem f8_wantsBelt_e (i0 : Nat) (p1 : Int32) (μ : XM) : f8_wantsBelt i0 p1 μ = k8_wantsBelt i0 p1 μ := Classical.choose_spec x8_wantsBelt i0 p1 μ
noncomputable def F8_wantsBelt : XF := fun av μ => match av with
  | [.inr (.inr (some (t0, i0, 0))), .inl p1] => bif Nat.beq t0 8 then f8_wantsBelt i0 p1 μ else none
  | _ => none
set_option maxRecDepth 100000 in
theorem c8_wantsBelt {X : XP} (hX : XOK X) (l : Launch) : Ctr X l y8_wantsBelt prog_10_method_13_code 2 (some .boolean) (xrm 2) 0 0 F8_wantsBelt :=
  Ctr_of (tab := t8_wantsBelt) (env := e8_wantsBelt) (K := 30) (N := 20000) (fl := fl8) (cl := cl8) (ll := ll8) (jl := jl8) hX mf8_wantsBelt.2.2.2 ⟨by decide +kernel, flk8, clk8, llk8, jlk8⟩
   (List.forall_mem_cons.mpr ⟨xcal_v (na := 1) (c2_isGuest hX l) mf2_isGuest ⟨rfl, rfl⟩ ml8_55 mi2_isGuest me2_isGuest (xrm_ok (by omega) (by decide)) rfl (by decide) (by decide +kernel), List.forall_mem_cons.mpr ⟨xcal_v (na := 1) (c2_isShabby hX l) mf2_isShabby ⟨rfl, rfl⟩ ml8_85 mi2_isShabby me2_isShabby (xrm_ok (by omega) (by decide)) rfl (by decide) (by decide +kernel), fun _ h => absurd h List.not_mem_nil⟩⟩)
   (xrm_1 (by decide)) ⟨_, _, rfl, rfl⟩ (fun av μ r μ' h => by
    unfold F8_wantsBelt at h
    split at h
    · replace h := cond_inv h; obtain ⟨hb, h⟩ := h
      obtain rfl := Nat.eq_of_beq_eq_true hb
      exact ⟨Nat.le_of_ble_eq_true rfl, (q8_wantsBelt _ _ _ _).trans ((f8_wantsBelt_e _ _ _).symm.trans h)⟩
    · cases h)
def t8_canReach : List XE := [(0, .aload_n 0, 0, 0, 0, 0, []),
  (1, .iload_n 1, 1, 0, 0, 0, []),
  (2, .invokevirtual 94, 2, 8, 0, 0, []),
  (5, .ifCond .eq 46, 51, 0, 0, 0, []),
  (8, .aload_n 0, 0, 0, 0, 0, []),
  (9, .iload_n 2, 2, 0, 0, 0, []),
  (10, .invokevirtual 88, 2, 8, 0, 0, []),
  (13, .ifCond .eq 38, 51, 0, 0, 0, []),
  (16, .aload_n 0, 0, 0, 0, 0, []),
  (17, .getfield 24, 8, 0, 0, 0, []),
  (20, .getfield 97, 2, 14, 0, 0, []),
  (23, .iload_n 1, 1, 0, 0, 0, []),
  (24, .iaload, 0, 0, 0, 0, []),
  (25, .aload_n 0, 0, 0, 0, 0, []),
  (26, .getfield 9, 8, 1, 0, 0, []),
  (29, .iload_n 2, 2, 0, 0, 0, []),
  (30, .iaload, 0, 0, 0, 0, []),
  (31, .isub, 0, 0, 0, 0, []),
  (32, .invokestatic 100, 0, 3, 0, 0, []),
  (35, .aload_n 0, 0, 0, 0, 0, []),
  (36, .getfield 24, 8, 0, 0, 0, []),
  (39, .getfield 105, 2, 15, 0, 0, []),
  (42, .iload_n 1, 1, 0, 0, 0, []),
  (43, .iaload, 0, 0, 0, 0, []),
  (44, .if_icmp .gt 7, 51, 0, 0, 0, []),
  (47, .iconst 1, 0, 0, 1, 0, []),
  (48, .goto 4, 52, 0, 0, 0, []),
  (51, .iconst 0, 0, 0, 0, 0, []),
  (52, .ireturn, 0, 0, 0, 0, [])]
noncomputable def e8_canReach : XN := [(94, 1, 2, 8, F8_isFree), (88, 1, 2, 8, F8_wantsBelt)]
noncomputable def k8_canReach (i0 : Nat) (p1 : Int32) (p2 : Int32) (μ : XM) : XR :=
  bI (f8_isFree i0 p1 μ) fun r2 m1 =>
  xite (r2 = 0) (
    xrb 0 m1) (
    bI (f8_wantsBelt i0 p2 m1) fun r4 m3 =>
    xite (r4 = 0) (
      xrb 0 m3) (
      xck (xin p1 3) <|
      xck (xin p2 6) <|
      xck (xin p1 3) <|
      xite ((aI m3 2 0 15 (Int32.toNatClampNeg p1)) < (if 0 ≤ ((aI m3 2 0 14 (Int32.toNatClampNeg p1)) - (aI m3 8 i0 1 (Int32.toNatClampNeg p2))) then ((aI m3 2 0 14 (Int32.toNatClampNeg p1)) - (aI m3 8 i0 1 (Int32.toNatClampNeg p2))) else 0 - ((aI m3 2 0 14 (Int32.toNatClampNeg p1)) - (aI m3 8 i0 1 (Int32.toNatClampNeg p2))))) (
        xrb 0 m3) (
        xrb 1 m3)))
set_option maxRecDepth 100000 in
theorem q8_canReach (n : Nat) (i0 : Nat) (p1 : Int32) (p2 : Int32) (μ : XM) : xrun t8_canReach e8_canReach (xrtk (some .boolean)) 34 n (xlo [xr 8 i0 0, xi p1, xi p2] 3) μ = k8_canReach i0 p1 p2 μ := rfl
theorem x8_canReach : ∃ f : Nat → Int32 → Int32 → XM → XR, ∀ (i0 : Nat) (p1 : Int32) (p2 : Int32) (μ : XM), f i0 p1 p2 μ = k8_canReach i0 p1 p2 μ := ⟨fun i0 p1 p2 μ => k8_canReach i0 p1 p2 μ, fun i0 p1 p2 μ => rfl⟩
noncomputable def f8_canReach : Nat → Int32 → Int32 → XM → XR := Classical.choose x8_canReach
theorem f8_canReach_e (i0 : Nat) (p1 : Int32) (p2 : Int32) (μ : XM) : f8_canReach i0 p1 p2 μ = k8_canReach i0 p1 p2 μ := Classical.choose_spec x8_canReach i0 p1 p2 μ
noncomputable def F8_canReach : XF := fun av μ => match av with
  | [.inr (.inr (some (t0, i0, 0))), .inl p1, .inl p2] => bif Nat.beq t0 8 then f8_canReach i0 p1 p2 μ else none
  | _ => none
set_option maxRecDepth 100000 in
theorem c8_canReach {X : XP} (hX : XOK X) (l : Launch) : Ctr X l y8_canReach prog_10_method_17_code 3 (some .boolean) (xrm 3) 0 0 F8_canReach :=
  Ctr_of (tab := t8_canReach) (env := e8_canReach) (K := 34) (N := 20000) (fl := fl8) (cl := cl8) (ll := ll8) (jl := jl8) hX mf8_canReach.2.2.2 ⟨by decide +kernel, flk8, clk8, llk8, jlk8⟩
   (List.forall_mem_cons.mpr ⟨xcal_v (na := 1) (c8_isFree hX l) mf8_isFree ⟨rfl, rfl⟩ ml8_94 mi8_isFree me8_isFree (xrm_ok (by omega) (by decide)) rfl (by decide) (by decide +kernel), List.forall_mem_cons.mpr ⟨xcal_v (na := 1) (c8_wantsBelt hX l) mf8_wantsBelt ⟨rfl, rfl⟩ ml8_88 mi8_wantsBelt me8_wantsBelt (xrm_ok (by omega) (by decide)) rfl (by decide) (by decide +kernel), fun _ h => absurd h List.not_mem_nil⟩⟩)
   (xrm_1 (by decide)) ⟨_, _, rfl, rfl⟩ (fun av μ r μ' h => by
    unfold F8_canReach at h
    split at h
    · replace h := cond_inv h; obtain ⟨hb, h⟩ := h
      obtain rfl := Nat.eq_of_beq_eq_true hb
      exact ⟨Nat.le_of_ble_eq_true rfl, (q8_canReach _ _ _ _ _).trans ((f8_canReach_e _ _ _ _).symm.trans h)⟩
    · cases h)
def t8_canCast : List XE := [(0, .aload_n 0, 0, 0, 0, 0, []),
  (1, .iload_n 2, 2, 0, 0, 0, []),
  (2, .invokevirtual 108, 2, 8, 0, 0, []),
  (5, .ifCond .eq 16, 21, 0, 0, 0, []),
  (8, .aload_n 0, 0, 0, 0, 0, []),
  (9, .iload_n 1, 1, 0, 0, 0, []),
  (10, .iload_n 3, 3, 0, 0, 0, []),
  (11, .invokevirtual 111, 3, 8, 0, 0, []),
  (14, .ifCond .eq 7, 21, 0, 0, 0, []),
  (17, .iconst 1, 0, 0, 1, 0, []),
  (18, .goto 4, 22, 0, 0, 0, []),
  (21, .iconst 0, 0, 0, 0, 0, []),
  (22, .ireturn, 0, 0, 0, 0, [])]
noncomputable def e8_canCast : XN := [(108, 1, 2, 8, F8_isOnWall), (111, 1, 3, 8, F8_canReach)]
noncomputable def k8_canCast (i0 : Nat) (p1 : Int32) (p2 : Int32) (p3 : Int32) (μ : XM) : XR :=
  bI (f8_isOnWall i0 p2 μ) fun r2 m1 =>
  xite (r2 = 0) (
    xrb 0 m1) (
    bI (f8_canReach i0 p1 p3 m1) fun r4 m3 =>
    xite (r4 = 0) (
      xrb 0 m3) (
      xrb 1 m3))
set_option maxRecDepth 100000 in
theorem q8_canCast (n : Nat) (i0 : Nat) (p1 : Int32) (p2 : Int32) (p3 : Int32) (μ : XM) : xrun t8_canCast e8_canCast (xrtk (some .boolean)) 18 n (xlo [xr 8 i0 0, xi p1, xi p2, xi p3] 4) μ = k8_canCast i0 p1 p2 p3 μ := rfl
theorem x8_canCast : ∃ f : Nat → Int32 → Int32 → Int32 → XM → XR, ∀ (i0 : Nat) (p1 : Int32) (p2 : Int32) (p3 : Int32) (μ : XM), f i0 p1 p2 p3 μ = k8_canCast i0 p1 p2 p3 μ := ⟨fun i0 p1 p2 p3 μ => k8_canCast i0 p1 p2 p3 μ, fun i0 p1 p2 p3 μ => rfl⟩
noncomputable def f8_canCast : Nat → Int32 → Int32 → Int32 → XM → XR := Classical.choose x8_canCast
theorem f8_canCast_e (i0 : Nat) (p1 : Int32) (p2 : Int32) (p3 : Int32) (μ : XM) : f8_canCast i0 p1 p2 p3 μ = k8_canCast i0 p1 p2 p3 μ := Classical.choose_spec x8_canCast i0 p1 p2 p3 μ
noncomputable def F8_canCast : XF := fun av μ => match av with
  | [.inr (.inr (some (t0, i0, 0))), .inl p1, .inl p2, .inl p3] => bif Nat.beq t0 8 then f8_canCast i0 p1 p2 p3 μ else none
  | _ => none
set_option maxRecDepth 100000 in
theorem c8_canCast {X : XP} (hX : XOK X) (l : Launch) : Ctr X l y8_canCast prog_10_method_18_code 4 (some .boolean) (xrm 4) 0 0 F8_canCast :=
  Ctr_of (tab := t8_canCast) (env := e8_canCast) (K := 18) (N := 20000) (fl := fl8) (cl := cl8) (ll := ll8) (jl := jl8) hX mf8_canCast.2.2.2 ⟨by decide +kernel, flk8, clk8, llk8, jlk8⟩
   (List.forall_mem_cons.mpr ⟨xcal_v (na := 1) (c8_isOnWall hX l) mf8_isOnWall ⟨rfl, rfl⟩ ml8_108 mi8_isOnWall me8_isOnWall (xrm_ok (by omega) (by decide)) rfl (by decide) (by decide +kernel), List.forall_mem_cons.mpr ⟨xcal_v (na := 2) (c8_canReach hX l) mf8_canReach ⟨rfl, rfl⟩ ml8_111 mi8_canReach me8_canReach (xrm_ok (by omega) (by decide)) rfl (by decide) (by decide +kernel), fun _ h => absurd h List.not_mem_nil⟩⟩)
   (xrm_1 (by decide)) ⟨_, _, rfl, rfl⟩ (fun av μ r μ' h => by
    unfold F8_canCast at h
    split at h
    · replace h := cond_inv h; obtain ⟨hb, h⟩ := h
      obtain rfl := Nat.eq_of_beq_eq_true hb
      exact ⟨Nat.le_of_ble_eq_true rfl, (q8_canCast _ _ _ _ _ _).trans ((f8_canCast_e _ _ _ _ _).symm.trans h)⟩
    · cases h)
def t8_giveBelt : List XE := [(0, .aload_n 0, 0, 0, 0, 0, []),
  (1, .getfield 24, 8, 0, 0, 0, []),
  (4, .iload_n 3, 3, 0, 0, 0, []),
  (5, .invokevirtual 55, 2, 2, 0, 0, []),
  (8, .ifCond .eq 10, 18, 0, 0, 0, []),
  (11, .aload_n 0, 0, 0, 0, 0, []),
  (12, .getfield 21, 8, 4, 0, 0, []),
  (15, .iload_n 3, 3, 0, 0, 0, []),
  (16, .iload_n 2, 2, 0, 0, 0, []),
  (17, .iastore, 0, 0, 0, 0, []),
  (18, .aload_n 0, 0, 0, 0, 0, []),
  (19, .dup, 0, 0, 0, 0, []),
  (20, .getfield 32, 8, 5, 0, 0, []),
  (23, .iconst 1, 0, 0, 1, 0, []),
  (24, .iload_n 1, 1, 0, 0, 0, []),
  (25, .ishl, 0, 0, 0, 0, []),
  (26, .ior, 0, 0, 0, 0, []),
  (27, .putfield 32, 8, 5, 0, 0, []),
  (30, .return_, 0, 0, 0, 0, [])]
noncomputable def e8_giveBelt : XN := [(55, 1, 2, 2, F2_isGuest)]
noncomputable def k8_giveBelt (i0 : Nat) (p1 : Int32) (p2 : Int32) (p3 : Int32) (μ : XM) : XR :=
  bI (f2_isGuest 0 p3 μ) fun r2 m1 =>
  xite (r2 = 0) (
    mS (sI m1 8 i0 5 ((rI m1 8 i0 5) ||| (1 <<< (p1 &&& 31)))) fun m3 =>
    xrv m3) (
    xck (xin p3 6 && true) <|
    mS (pI m1 8 i0 4 (Int32.toNatClampNeg p3) p2) fun m4 =>
    mS (sI m4 8 i0 5 ((rI m4 8 i0 5) ||| (1 <<< (p1 &&& 31)))) fun m5 =>
    xrv m5)
set_option maxRecDepth 100000 in
theorem q8_giveBelt (n : Nat) (i0 : Nat) (p1 : Int32) (p2 : Int32) (p3 : Int32) (μ : XM) : xrun t8_giveBelt e8_giveBelt (xrtk none) 24 n (xlo [xr 8 i0 0, xi p1, xi p2, xi p3] 4) μ = k8_giveBelt i0 p1 p2 p3 μ := rfl
theorem x8_giveBelt : ∃ f : Nat → Int32 → Int32 → Int32 → XM → XR, ∀ (i0 : Nat) (p1 : Int32) (p2 : Int32) (p3 : Int32) (μ : XM), f i0 p1 p2 p3 μ = k8_giveBelt i0 p1 p2 p3 μ := ⟨fun i0 p1 p2 p3 μ => k8_giveBelt i0 p1 p2 p3 μ, fun i0 p1 p2 p3 μ => rfl⟩
noncomputable def f8_giveBelt : Nat → Int32 → Int32 → Int32 → XM → XR := Classical.choose x8_giveBelt
theorem f8_giveBelt_e (i0 : Nat) (p1 : Int32) (p2 : Int32) (p3 : Int32) (μ : XM) : f8_giveBelt i0 p1 p2 p3 μ = k8_giveBelt i0 p1 p2 p3 μ := Classical.choose_spec x8_giveBelt i0 p1 p2 p3 μ
noncomputable def F8_giveBelt : XF := fun av μ => match av with
  | [.inr (.inr (some (t0, i0, 0))), .inl p1, .inl p2, .inl p3] => bif Nat.beq t0 8 then f8_giveBelt i0 p1 p2 p3 μ else none
  | _ => none
set_option maxRecDepth 100000 in
theorem c8_giveBelt {X : XP} (hX : XOK X) (l : Launch) : Ctr X l y8_giveBelt prog_10_method_19_code 4 none (xrm 2) 0 0 F8_giveBelt :=
  Ctr_of (tab := t8_giveBelt) (env := e8_giveBelt) (K := 24) (N := 20000) (fl := fl8) (cl := cl8) (ll := ll8) (jl := jl8) hX mf8_giveBelt.2.2.2 ⟨by decide +kernel, flk8, clk8, llk8, jlk8⟩
   (List.forall_mem_cons.mpr ⟨xcal_v (na := 1) (c2_isGuest hX l) mf2_isGuest ⟨rfl, rfl⟩ ml8_55 mi2_isGuest me2_isGuest (xrm_ok (by omega) (by decide)) rfl (by decide) (by decide +kernel), fun _ h => absurd h List.not_mem_nil⟩)
   (xrm_1 (by decide)) ⟨_, _, rfl, rfl⟩ (fun av μ r μ' h => by
    unfold F8_giveBelt at h
    split at h
    · replace h := cond_inv h; obtain ⟨hb, h⟩ := h
      obtain rfl := Nat.eq_of_beq_eq_true hb
      exact ⟨Nat.le_of_ble_eq_true rfl, (q8_giveBelt _ _ _ _ _ _).trans ((f8_giveBelt_e _ _ _ _ _).symm.trans h)⟩
    · cases h)
def t1_play : List XE := [(0, .iconst 1, 0, 0, 1, 0, []),
  (1, .istore_n 3, 3, 0, 0, 0, []),
  (2, .aload_n 0, 0, 0, 0, 0, []),
  (3, .getfield 11, 1, 1, 0, 0, []),
  (6, .iload_n 1, 1, 0, 0, 0, []),
  (7, .iaload, 0, 0, 0, 0, []),
  (8, .tableswitch 81 144 147 #[32, 81, 37, 53], 89, 0, 0, 0, [(144, 40), (145, 89), (146, 45), (147, 61)]),
  (40, .aload_n 2, 2, 0, 0, 0, []),
  (41, .invokevirtual 112, 1, 8, 0, 0, []),
  (44, .ireturn, 0, 0, 0, 0, []),
  (45, .aload_n 2, 2, 0, 0, 0, []),
  (46, .invokevirtual 116, 1, 8, 0, 0, []),
  (49, .istore_n 3, 3, 0, 0, 0, []),
  (50, .iload_n 3, 3, 0, 0, 0, []),
  (51, .ifCond .eq 87, 138, 0, 0, 0, []),
  (54, .aload_n 2, 2, 0, 0, 0, []),
  (55, .invokevirtual 119, 1, 8, 0, 0, []),
  (58, .goto 80, 138, 0, 0, 0, []),
  (61, .aload_n 2, 2, 0, 0, 0, []),
  (62, .aload_n 0, 0, 0, 0, 0, []),
  (63, .getfield 15, 1, 2, 0, 0, []),
  (66, .iload_n 1, 1, 0, 0, 0, []),
  (67, .iaload, 0, 0, 0, 0, []),
  (68, .invokevirtual 122, 2, 8, 0, 0, []),
  (71, .istore_n 3, 3, 0, 0, 0, []),
  (72, .iload_n 3, 3, 0, 0, 0, []),
  (73, .ifCond .eq 65, 138, 0, 0, 0, []),
  (76, .aload_n 2, 2, 0, 0, 0, []),
  (77, .aload_n 0, 0, 0, 0, 0, []),
  (78, .getfield 15, 1, 2, 0, 0, []),
  (81, .iload_n 1, 1, 0, 0, 0, []),
  (82, .iaload, 0, 0, 0, 0, []),
  (83, .invokevirtual 125, 2, 8, 0, 0, []),
  (86, .goto 52, 138, 0, 0, 0, []),
  (89, .nop, 7, 0, 0, 0, []),
  (89, .aload_n 2, 2, 0, 0, 0, []),
  (90, .aload_n 0, 0, 0, 0, 0, []),
  (91, .getfield 15, 1, 2, 0, 0, []),
  (94, .iload_n 1, 1, 0, 0, 0, []),
  (95, .iaload, 0, 0, 0, 0, []),
  (96, .aload_n 0, 0, 0, 0, 0, []),
  (97, .getfield 18, 1, 3, 0, 0, []),
  (100, .iload_n 1, 1, 0, 0, 0, []),
  (101, .iaload, 0, 0, 0, 0, []),
  (102, .aload_n 0, 0, 0, 0, 0, []),
  (103, .getfield 21, 1, 4, 0, 0, []),
  (106, .iload_n 1, 1, 0, 0, 0, []),
  (107, .iaload, 0, 0, 0, 0, []),
  (108, .invokevirtual 129, 4, 8, 0, 0, []),
  (111, .istore_n 3, 3, 0, 0, 0, []),
  (112, .iload_n 3, 3, 0, 0, 0, []),
  (113, .ifCond .eq 25, 138, 0, 0, 0, []),
  (116, .aload_n 2, 2, 0, 0, 0, []),
  (117, .aload_n 0, 0, 0, 0, 0, []),
  (118, .getfield 15, 1, 2, 0, 0, []),
  (121, .iload_n 1, 1, 0, 0, 0, []),
  (122, .iaload, 0, 0, 0, 0, []),
  (123, .aload_n 0, 0, 0, 0, 0, []),
  (124, .getfield 18, 1, 3, 0, 0, []),
  (127, .iload_n 1, 1, 0, 0, 0, []),
  (128, .iaload, 0, 0, 0, 0, []),
  (129, .aload_n 0, 0, 0, 0, 0, []),
  (130, .getfield 21, 1, 4, 0, 0, []),
  (133, .iload_n 1, 1, 0, 0, 0, []),
  (134, .iaload, 0, 0, 0, 0, []),
  (135, .invokevirtual 133, 4, 8, 0, 0, []),
  (138, .iload_n 3, 3, 0, 0, 0, []),
  (139, .ifCond .eq 7, 146, 0, 0, 0, []),
  (142, .iconst 0, 0, 0, 0, 0, []),
  (143, .goto 4, 147, 0, 0, 0, []),
  (146, .iconst (-1), 0, 0, (-1), 0, []),
  (147, .ireturn, 0, 0, 0, 0, [])]
noncomputable def e1_play : XN := [(112, 1, 1, 8, F8_pass), (116, 1, 1, 8, F8_canAsk), (119, 0, 1, 8, F8_openGap), (122, 1, 2, 8, F8_canStop), (125, 0, 2, 8, F8_closeGap), (129, 1, 4, 8, F8_canCast), (133, 0, 4, 8, F8_giveBelt)]
noncomputable def h1_play_89 (n : Nat) (i0 : Nat) (v1 : Int32) (i2 : Nat) (μ : XM) : XR := arr t1_play e1_play 1 77 n 89 [some (xr 1 i0 0), some (xi v1), some (xr 8 i2 0), none] [] μ
set_option maxRecDepth 100000 in
theorem h1_play_89_s (n : Nat) (i0 : Nat) (v1 : Int32) (i2 : Nat) (μ : XM) : h1_play_89 (n + 1) i0 v1 i2 μ = (
  xck (xin v1 40) <|
  xck (xin v1 40) <|
  xck (xin v1 40) <|
  bI (f8_canCast i2 (aI μ 1 i0 2 (Int32.toNatClampNeg v1)) (aI μ 1 i0 3 (Int32.toNatClampNeg v1)) (aI μ 1 i0 4 (Int32.toNatClampNeg v1)) μ) fun r2 m1 =>
  vI r2 fun x3 =>
  xite (x3 = 0) (
    xite (x3 = 0) (
      xri (-1) m1) (
      xri 0 m1)) (
    xck (xin v1 40) <|
    xck (xin v1 40) <|
    xck (xin v1 40) <|
    bV (f8_giveBelt i2 (aI m1 1 i0 2 (Int32.toNatClampNeg v1)) (aI m1 1 i0 3 (Int32.toNatClampNeg v1)) (aI m1 1 i0 4 (Int32.toNatClampNeg v1)) m1) fun m4 =>
    xite (x3 = 0) (
      xri (-1) m4) (
      xri 0 m4))) := rfl
theorem h1_play_89_0 (i0 : Nat) (v1 : Int32) (i2 : Nat) (μ : XM) : h1_play_89 0 i0 v1 i2 μ = none := rfl
noncomputable def k1_play (n : Nat) (i0 : Nat) (p1 : Int32) (i2 : Nat) (μ : XM) : XR :=
  vI 1 fun x1 =>
  xck (xin p1 40) <|
  xite ((aI μ 1 i0 1 (Int32.toNatClampNeg p1)) = 144) (
    bI (f8_pass i2 μ) fun r3 m2 =>
    xri r3 m2) (
  xite ((aI μ 1 i0 1 (Int32.toNatClampNeg p1)) = 145) (
    h1_play_89 n i0 p1 i2 μ) (
  xite ((aI μ 1 i0 1 (Int32.toNatClampNeg p1)) = 146) (
    bI (f8_canAsk i2 μ) fun r5 m4 =>
    vI r5 fun x6 =>
    xite (x6 = 0) (
      xite (x6 = 0) (
        xri (-1) m4) (
        xri 0 m4)) (
      bV (f8_openGap i2 m4) fun m7 =>
      xite (x6 = 0) (
        xri (-1) m7) (
        xri 0 m7))) (
  xite ((aI μ 1 i0 1 (Int32.toNatClampNeg p1)) = 147) (
    xck (xin p1 40) <|
    bI (f8_canStop i2 (aI μ 1 i0 2 (Int32.toNatClampNeg p1)) μ) fun r9 m8 =>
    vI r9 fun x10 =>
    xite (x10 = 0) (
      xite (x10 = 0) (
        xri (-1) m8) (
        xri 0 m8)) (
      xck (xin p1 40) <|
      bV (f8_closeGap i2 (aI m8 1 i0 2 (Int32.toNatClampNeg p1)) m8) fun m11 =>
      xite (x10 = 0) (
        xri (-1) m11) (
        xri 0 m11))) (
  h1_play_89 n i0 p1 i2 μ))))
set_option maxRecDepth 100000 in
theorem q1_play (n : Nat) (i0 : Nat) (p1 : Int32) (i2 : Nat) (μ : XM) : xrun t1_play e1_play (xrtk (some .int)) 77 n (xlo [xr 1 i0 0, xi p1, xr 8 i2 0] 4) μ = k1_play n i0 p1 i2 μ := rfl
theorem x1_play : ∃ f : Nat → Int32 → Nat → XM → XR, ∀ (i0 : Nat) (p1 : Int32) (i2 : Nat) (μ : XM), f i0 p1 i2 μ = k1_play 20000 i0 p1 i2 μ := ⟨fun i0 p1 i2 μ => k1_play 20000 i0 p1 i2 μ, fun i0 p1 i2 μ => rfl⟩
noncomputable def f1_play : Nat → Int32 → Nat → XM → XR := Classical.choose x1_play
theorem f1_play_e (i0 : Nat) (p1 : Int32) (i2 : Nat) (μ : XM) : f1_play i0 p1 i2 μ = k1_play 20000 i0 p1 i2 μ := Classical.choose_spec x1_play i0 p1 i2 μ
noncomputable def F1_play : XF := fun av μ => match av with
  | [.inr (.inr (some (t0, i0, 0))), .inl p1, .inr (.inr (some (t2, i2, 0)))] => bif Nat.beq t0 1 && Nat.beq t2 8 then f1_play i0 p1 i2 μ else none
  | _ => none
set_option maxRecDepth 100000 in
theorem c1_play {X : XP} (hX : XOK X) (l : Launch) : Ctr X l y1_play prog_3_method_8_code 4 (some .int) (xrm 5) 0 0 F1_play :=
  Ctr_of (tab := t1_play) (env := e1_play) (K := 77) (N := 20000) (fl := fl1) (cl := cl1) (ll := ll1) (jl := jl1) hX mf1_play.2.2.2 ⟨by decide +kernel, flk1, clk1, llk1, jlk1⟩
   (List.forall_mem_cons.mpr ⟨xcal_v (na := 0) (c8_pass hX l) mf8_pass ⟨rfl, rfl⟩ ml1_112 mi8_pass me8_pass (xrm_ok (by omega) (by decide)) rfl (by decide) (by decide +kernel), List.forall_mem_cons.mpr ⟨xcal_v (na := 0) (c8_canAsk hX l) mf8_canAsk ⟨rfl, rfl⟩ ml1_116 mi8_canAsk me8_canAsk (xrm_ok (by omega) (by decide)) rfl (by decide) (by decide +kernel), List.forall_mem_cons.mpr ⟨xcal_v (na := 0) (c8_openGap hX l) mf8_openGap ⟨rfl, rfl⟩ ml1_119 mi8_openGap me8_openGap (xrm_ok (by omega) (by decide)) rfl (by decide) (by decide +kernel), List.forall_mem_cons.mpr ⟨xcal_v (na := 1) (c8_canStop hX l) mf8_canStop ⟨rfl, rfl⟩ ml1_122 mi8_canStop me8_canStop (xrm_ok (by omega) (by decide)) rfl (by decide) (by decide +kernel), List.forall_mem_cons.mpr ⟨xcal_v (na := 1) (c8_closeGap hX l) mf8_closeGap ⟨rfl, rfl⟩ ml1_125 mi8_closeGap me8_closeGap (xrm_ok (by omega) (by decide)) rfl (by decide) (by decide +kernel), List.forall_mem_cons.mpr ⟨xcal_v (na := 3) (c8_canCast hX l) mf8_canCast ⟨rfl, rfl⟩ ml1_129 mi8_canCast me8_canCast (xrm_ok (by omega) (by decide)) rfl (by decide) (by decide +kernel), List.forall_mem_cons.mpr ⟨xcal_v (na := 3) (c8_giveBelt hX l) mf8_giveBelt ⟨rfl, rfl⟩ ml1_133 mi8_giveBelt me8_giveBelt (xrm_ok (by omega) (by decide)) rfl (by decide) (by decide +kernel), fun _ h => absurd h List.not_mem_nil⟩⟩⟩⟩⟩⟩⟩)
   (xrm_1 (by decide)) ⟨_, _, rfl, rfl⟩ (fun av μ r μ' h => by
    unfold F1_play at h
    split at h
    · replace h := cond_inv h; obtain ⟨hb, h⟩ := h
      simp only [Bool.and_eq_true] at hb
      obtain ⟨g0, g1⟩ := hb
      obtain rfl := Nat.eq_of_beq_eq_true g0
      obtain rfl := Nat.eq_of_beq_eq_true g1
      exact ⟨Nat.le_of_ble_eq_true rfl, (q1_play _ _ _ _ _).trans ((f1_play_e _ _ _ _).symm.trans h)⟩
    · cases h)
def t1_judge : List XE := [(0, .iconst (-1), 0, 0, (-1), 0, []),
  (1, .istore_n 3, 3, 0, 0, 0, []),
  (2, .iconst (-1), 0, 0, (-1), 0, []),
  (3, .istore 4, 4, 0, 0, 0, []),
  (5, .aload_n 1, 1, 0, 0, 0, []),
  (6, .invokevirtual 96, 1, 8, 0, 0, []),
  (9, .iconst 0, 0, 0, 0, 0, []),
  (10, .istore 5, 5, 0, 0, 0, []),
  (12, .nop, 63, 0, 0, 0, []),
  (12, .iload 5, 5, 0, 0, 0, []),
  (14, .aload_n 0, 0, 0, 0, 0, []),
  (15, .getfield 24, 1, 0, 0, 0, []),
  (18, .if_icmp .ge 54, 72, 0, 0, 0, []),
  (21, .iload 5, 5, 0, 0, 0, []),
  (23, .bipush 40, 0, 0, 40, 0, []),
  (25, .if_icmp .ge 47, 72, 0, 0, 0, []),
  (28, .aload_n 0, 0, 0, 0, 0, []),
  (29, .iload 5, 5, 0, 0, 0, []),
  (31, .aload_n 1, 1, 0, 0, 0, []),
  (32, .invokevirtual 99, 3, 1, 0, 0, []),
  (35, .istore 6, 6, 0, 0, 0, []),
  (37, .iload 6, 6, 0, 0, 0, []),
  (39, .iconst (-1), 0, 0, (-1), 0, []),
  (40, .if_icmp .ne 11, 51, 0, 0, 0, []),
  (43, .iload_n 3, 3, 0, 0, 0, []),
  (44, .iconst (-1), 0, 0, (-1), 0, []),
  (45, .if_icmp .ne 6, 51, 0, 0, 0, []),
  (48, .iload 5, 5, 0, 0, 0, []),
  (50, .istore_n 3, 3, 0, 0, 0, []),
  (51, .nop, 127, 0, 0, 0, []),
  (51, .iload 6, 6, 0, 0, 0, []),
  (53, .ifCond .le 13, 66, 0, 0, 0, []),
  (56, .iload 4, 4, 0, 0, 0, []),
  (58, .iconst (-1), 0, 0, (-1), 0, []),
  (59, .if_icmp .ne 7, 66, 0, 0, 0, []),
  (62, .iload 5, 5, 0, 0, 0, []),
  (64, .istore 4, 4, 0, 0, 0, []),
  (66, .iinc 5 1, 5, 0, 1, 0, []),
  (69, .goto (-57), 12, 0, 0, 0, []),
  (72, .nop, 30, 0, 0, 0, []),
  (72, .iload_n 2, 2, 0, 0, 0, []),
  (73, .ifCond .ne 5, 78, 0, 0, 0, []),
  (76, .iload_n 3, 3, 0, 0, 0, []),
  (77, .ireturn, 0, 0, 0, 0, []),
  (78, .iload_n 2, 2, 0, 0, 0, []),
  (79, .iconst 1, 0, 0, 1, 0, []),
  (80, .if_icmp .ne 8, 88, 0, 0, 0, []),
  (83, .iload 4, 4, 0, 0, 0, []),
  (85, .goto 11, 96, 0, 0, 0, []),
  (88, .aload_n 1, 1, 0, 0, 0, []),
  (89, .iconst 1, 0, 0, 1, 0, []),
  (90, .invokevirtual 103, 2, 8, 0, 0, []),
  (93, .invokestatic 107, 1, 0, 0, 0, []),
  (96, .ireturn, 0, 0, 0, 0, [])]
noncomputable def e1_judge : XN := [(96, 0, 1, 8, F8_begin), (99, 1, 3, 1, F1_play), (103, 1, 2, 8, F8_whoIs), (107, 1, 1, 99, FJ_bitCount)]
noncomputable def h1_judge_12 (n : Nat) (i0 : Nat) (i1 : Nat) (v2 : Int32) (v3 : Int32) (v4 : Int32) (v5 : Int32) (μ : XM) : XR := arr t1_judge e1_judge 1 59 n 12 [some (xr 1 i0 0), some (xr 8 i1 0), some (xi v2), some (xi v3), some (xi v4), some (xi v5), none] [] μ
noncomputable def h1_judge_72 (n : Nat) (i1 : Nat) (v2 : Int32) (v3 : Int32) (v4 : Int32) (μ : XM) : XR := arr t1_judge e1_judge 1 59 n 72 [none, some (xr 8 i1 0), some (xi v2), some (xi v3), some (xi v4), none, none] [] μ
noncomputable def h1_judge_51 (n : Nat) (i0 : Nat) (i1 : Nat) (v2 : Int32) (v3 : Int32) (v4 : Int32) (v5 : Int32) (v6 : Int32) (μ : XM) : XR := arr t1_judge e1_judge 1 59 n 51 [some (xr 1 i0 0), some (xr 8 i1 0), some (xi v2), some (xi v3), some (xi v4), some (xi v5), some (xi v6)] [] μ
set_option maxRecDepth 100000 in
theorem h1_judge_12_s (n : Nat) (i0 : Nat) (i1 : Nat) (v2 : Int32) (v3 : Int32) (v4 : Int32) (v5 : Int32) (μ : XM) : h1_judge_12 (n + 1) i0 i1 v2 v3 v4 v5 μ = (
  xite (v5 < (rI μ 1 i0 0)) (
    xite (v5 < 40) (
      bI (f1_play i0 v5 i1 μ) fun r2 m1 =>
      vI r2 fun x3 =>
      xite (x3 = (-1)) (
        xite (v3 = (-1)) (
          vI v5 fun x4 =>
          h1_judge_51 n i0 i1 v2 x4 v4 v5 x3 m1) (
          h1_judge_51 n i0 i1 v2 v3 v4 v5 x3 m1)) (
        h1_judge_51 n i0 i1 v2 v3 v4 v5 x3 m1)) (
      h1_judge_72 n i1 v2 v3 v4 μ)) (
    h1_judge_72 n i1 v2 v3 v4 μ)) := rfl
theorem h1_judge_12_0 (i0 : Nat) (i1 : Nat) (v2 : Int32) (v3 : Int32) (v4 : Int32) (v5 : Int32) (μ : XM) : h1_judge_12 0 i0 i1 v2 v3 v4 v5 μ = none := rfl
set_option maxRecDepth 100000 in
theorem h1_judge_72_s (n : Nat) (i1 : Nat) (v2 : Int32) (v3 : Int32) (v4 : Int32) (μ : XM) : h1_judge_72 (n + 1) i1 v2 v3 v4 μ = (
  xite (v2 = 0) (
    xri v3 μ) (
    xite (v2 = 1) (
      xri v4 μ) (
      bI (f8_whoIs i1 1 μ) fun r2 m1 =>
      bI (fJ_bitCount r2 m1) fun r4 m3 =>
      xri r4 m3))) := rfl
theorem h1_judge_72_0 (i1 : Nat) (v2 : Int32) (v3 : Int32) (v4 : Int32) (μ : XM) : h1_judge_72 0 i1 v2 v3 v4 μ = none := rfl
set_option maxRecDepth 100000 in
theorem h1_judge_51_s (n : Nat) (i0 : Nat) (i1 : Nat) (v2 : Int32) (v3 : Int32) (v4 : Int32) (v5 : Int32) (v6 : Int32) (μ : XM) : h1_judge_51 (n + 1) i0 i1 v2 v3 v4 v5 v6 μ = (
  xite ((0 : Int32) < v6) (
    xite (v4 = (-1)) (
      vI v5 fun x1 =>
      vI (v5 + 1) fun x2 =>
      h1_judge_12 n i0 i1 v2 v3 x1 x2 μ) (
      vI (v5 + 1) fun x3 =>
      h1_judge_12 n i0 i1 v2 v3 v4 x3 μ)) (
    vI (v5 + 1) fun x4 =>
    h1_judge_12 n i0 i1 v2 v3 v4 x4 μ)) := rfl
theorem h1_judge_51_0 (i0 : Nat) (i1 : Nat) (v2 : Int32) (v3 : Int32) (v4 : Int32) (v5 : Int32) (v6 : Int32) (μ : XM) : h1_judge_51 0 i0 i1 v2 v3 v4 v5 v6 μ = none := rfl
noncomputable def k1_judge (n : Nat) (i0 : Nat) (i1 : Nat) (p2 : Int32) (μ : XM) : XR :=
  vI (-1) fun x1 =>
  vI (-1) fun x2 =>
  bV (f8_begin i1 μ) fun m3 =>
  vI 0 fun x4 =>
  h1_judge_12 n i0 i1 p2 x1 x2 x4 m3
set_option maxRecDepth 100000 in
theorem q1_judge (n : Nat) (i0 : Nat) (i1 : Nat) (p2 : Int32) (μ : XM) : xrun t1_judge e1_judge (xrtk (some .int)) 59 n (xlo [xr 1 i0 0, xr 8 i1 0, xi p2] 7) μ = k1_judge n i0 i1 p2 μ := rfl
theorem x1_judge : ∃ f : Nat → Nat → Int32 → XM → XR, ∀ (i0 : Nat) (i1 : Nat) (p2 : Int32) (μ : XM), f i0 i1 p2 μ = k1_judge 20000 i0 i1 p2 μ := ⟨fun i0 i1 p2 μ => k1_judge 20000 i0 i1 p2 μ, fun i0 i1 p2 μ => rfl⟩
noncomputable def f1_judge : Nat → Nat → Int32 → XM → XR := Classical.choose x1_judge
theorem f1_judge_e (i0 : Nat) (i1 : Nat) (p2 : Int32) (μ : XM) : f1_judge i0 i1 p2 μ = k1_judge 20000 i0 i1 p2 μ := Classical.choose_spec x1_judge i0 i1 p2 μ
noncomputable def F1_judge : XF := fun av μ => match av with
  | [.inr (.inr (some (t0, i0, 0))), .inr (.inr (some (t1, i1, 0))), .inl p2] => bif Nat.beq t0 1 && Nat.beq t1 8 then f1_judge i0 i1 p2 μ else none
  | _ => none
set_option maxRecDepth 100000 in
theorem c1_judge {X : XP} (hX : XOK X) (l : Launch) : Ctr X l y1_judge prog_3_method_7_code 7 (some .int) (xrm 6) 0 0 F1_judge :=
  Ctr_of (tab := t1_judge) (env := e1_judge) (K := 59) (N := 20000) (fl := fl1) (cl := cl1) (ll := ll1) (jl := jl1) hX mf1_judge.2.2.2 ⟨by decide +kernel, flk1, clk1, llk1, jlk1⟩
   (List.forall_mem_cons.mpr ⟨xcal_v (na := 0) (c8_begin hX l) mf8_begin ⟨rfl, rfl⟩ ml1_96 mi8_begin me8_begin (xrm_ok (by omega) (by decide)) rfl (by decide) (by decide +kernel), List.forall_mem_cons.mpr ⟨xcal_v (na := 2) (c1_play hX l) mf1_play ⟨rfl, rfl⟩ ml1_99 mi1_play me1_play (xrm_ok (by omega) (by decide)) rfl (by decide) (by decide +kernel), List.forall_mem_cons.mpr ⟨xcal_v (na := 1) (c8_whoIs hX l) mf8_whoIs ⟨rfl, rfl⟩ ml1_103 mi8_whoIs me8_whoIs (xrm_ok (by omega) (by decide)) rfl (by decide) (by decide +kernel), List.forall_mem_cons.mpr ⟨xcal_s (cJ_bitCount hX l) mfJ_bitCount ⟨rfl, rfl⟩ ml1_107 msJ_bitCount (xrm_ok (by omega) (by decide)) (by decide +kernel), fun _ h => absurd h List.not_mem_nil⟩⟩⟩⟩)
   (xrm_1 (by decide)) ⟨_, _, rfl, rfl⟩ (fun av μ r μ' h => by
    unfold F1_judge at h
    split at h
    · replace h := cond_inv h; obtain ⟨hb, h⟩ := h
      simp only [Bool.and_eq_true] at hb
      obtain ⟨g0, g1⟩ := hb
      obtain rfl := Nat.eq_of_beq_eq_true g0
      obtain rfl := Nat.eq_of_beq_eq_true g1
      exact ⟨Nat.le_of_ble_eq_true rfl, (q1_judge _ _ _ _ _).trans ((f1_judge_e _ _ _ _).symm.trans h)⟩
    · cases h)
def t4_clear : List XE := [(0, .aload_n 0, 0, 0, 0, 0, []),
  (1, .iconst 0, 0, 0, 0, 0, []),
  (2, .putfield 18, 4, 1, 0, 0, []),
  (5, .return_, 0, 0, 0, 0, [])]
noncomputable def e4_clear : XN := []
noncomputable def k4_clear (i0 : Nat) (μ : XM) : XR :=
  mS (sI μ 4 i0 1 0) fun m1 =>
  xrv m1
set_option maxRecDepth 100000 in
theorem q4_clear (n : Nat) (i0 : Nat) (μ : XM) : xrun t4_clear e4_clear (xrtk none) 9 n (xlo [xr 4 i0 0] 1) μ = k4_clear i0 μ := rfl
theorem x4_clear : ∃ f : Nat → XM → XR, ∀ (i0 : Nat) (μ : XM), f i0 μ = k4_clear i0 μ := ⟨fun i0 μ => k4_clear i0 μ, fun i0 μ => rfl⟩
noncomputable def f4_clear : Nat → XM → XR := Classical.choose x4_clear
theorem f4_clear_e (i0 : Nat) (μ : XM) : f4_clear i0 μ = k4_clear i0 μ := Classical.choose_spec x4_clear i0 μ
noncomputable def F4_clear : XF := fun av μ => match av with
  | [.inr (.inr (some (t0, i0, 0)))] => bif Nat.beq t0 4 then f4_clear i0 μ else none
  | _ => none
set_option maxRecDepth 100000 in
theorem c4_clear {X : XP} (hX : XOK X) (l : Launch) : Ctr X l y4_clear prog_6_method_2_code 1 none (xrm 1) 0 0 F4_clear :=
  Ctr_of (tab := t4_clear) (env := e4_clear) (K := 9) (N := 20000) (fl := fl4) (cl := cl4) (ll := ll4) (jl := jl4) hX mf4_clear.2.2.2 ⟨by decide +kernel, flk4, clk4, llk4, jlk4⟩
   (fun _ h => absurd h List.not_mem_nil)
   (xrm_1 (by decide)) ⟨_, _, rfl, rfl⟩ (fun av μ r μ' h => by
    unfold F4_clear at h
    split at h
    · replace h := cond_inv h; obtain ⟨hb, h⟩ := h
      obtain rfl := Nat.eq_of_beq_eq_true hb
      exact ⟨Nat.le_of_ble_eq_true rfl, (q4_clear _ _ _).trans ((f4_clear_e _ _).symm.trans h)⟩
    · cases h)
def t2_clear : List XE := [(0, .aload_n 0, 0, 0, 0, 0, []),
  (1, .iconst 0, 0, 0, 0, 0, []),
  (2, .putfield 53, 2, 0, 0, 0, []),
  (5, .aload_n 0, 0, 0, 0, 0, []),
  (6, .iconst 0, 0, 0, 0, 0, []),
  (7, .putfield 57, 2, 1, 0, 0, []),
  (10, .aload_n 0, 0, 0, 0, 0, []),
  (11, .iconst 0, 0, 0, 0, 0, []),
  (12, .putfield 60, 2, 2, 0, 0, []),
  (15, .aload_n 0, 0, 0, 0, 0, []),
  (16, .iconst 0, 0, 0, 0, 0, []),
  (17, .putfield 63, 2, 3, 0, 0, []),
  (20, .aload_n 0, 0, 0, 0, 0, []),
  (21, .iconst 0, 0, 0, 0, 0, []),
  (22, .putfield 66, 2, 4, 0, 0, []),
  (25, .aload_n 0, 0, 0, 0, 0, []),
  (26, .getfield 49, 2, 16, 0, 0, []),
  (29, .invokevirtual 69, 1, 4, 0, 0, []),
  (32, .return_, 0, 0, 0, 0, [])]
noncomputable def e2_clear : XN := [(69, 0, 1, 4, F4_clear)]
noncomputable def k2_clear (i0 : Nat) (μ : XM) : XR :=
  mS (sI μ 2 i0 0 0) fun m1 =>
  mS (sI m1 2 i0 1 0) fun m2 =>
  mS (sI m2 2 i0 2 0) fun m3 =>
  mS (sI m3 2 i0 3 0) fun m4 =>
  mS (sI m4 2 i0 4 0) fun m5 =>
  bV (f4_clear i0 m5) fun m6 =>
  xrv m6
set_option maxRecDepth 100000 in
theorem q2_clear (n : Nat) (i0 : Nat) (μ : XM) : xrun t2_clear e2_clear (xrtk none) 24 n (xlo [xr 2 i0 0] 1) μ = k2_clear i0 μ := rfl
theorem x2_clear : ∃ f : Nat → XM → XR, ∀ (i0 : Nat) (μ : XM), f i0 μ = k2_clear i0 μ := ⟨fun i0 μ => k2_clear i0 μ, fun i0 μ => rfl⟩
noncomputable def f2_clear : Nat → XM → XR := Classical.choose x2_clear
theorem f2_clear_e (i0 : Nat) (μ : XM) : f2_clear i0 μ = k2_clear i0 μ := Classical.choose_spec x2_clear i0 μ
noncomputable def F2_clear : XF := fun av μ => match av with
  | [.inr (.inr (some (t0, i0, 0)))] => bif Nat.beq t0 2 then f2_clear i0 μ else none
  | _ => none
set_option maxRecDepth 100000 in
theorem c2_clear {X : XP} (hX : XOK X) (l : Launch) : Ctr X l y2_clear prog_4_method_2_code 1 none (xrm 2) 0 0 F2_clear :=
  Ctr_of (tab := t2_clear) (env := e2_clear) (K := 24) (N := 20000) (fl := fl2) (cl := cl2) (ll := ll2) (jl := jl2) hX mf2_clear.2.2.2 ⟨by decide +kernel, flk2, clk2, llk2, jlk2⟩
   (List.forall_mem_cons.mpr ⟨xcal_v (na := 0) (c4_clear hX l) mf4_clear ⟨rfl, rfl⟩ ml2_69 mi4_clear me4_clear (xrm_ok (by omega) (by decide)) rfl (by decide) (by decide +kernel), fun _ h => absurd h List.not_mem_nil⟩)
   (xrm_1 (by decide)) ⟨_, _, rfl, rfl⟩ (fun av μ r μ' h => by
    unfold F2_clear at h
    split at h
    · replace h := cond_inv h; obtain ⟨hb, h⟩ := h
      obtain rfl := Nat.eq_of_beq_eq_true hb
      exact ⟨Nat.le_of_ble_eq_true rfl, (q2_clear _ _ _).trans ((f2_clear_e _ _).symm.trans h)⟩
    · cases h)
def t4_copyFrom : List XE := [(0, .aload_n 0, 0, 0, 0, 0, []),
  (1, .aload_n 1, 1, 0, 0, 0, []),
  (2, .getfield 18, 4, 1, 0, 0, []),
  (5, .putfield 18, 4, 1, 0, 0, []),
  (8, .aload_n 1, 1, 0, 0, 0, []),
  (9, .getfield 9, 4, 0, 0, 0, []),
  (12, .iconst 0, 0, 0, 0, 0, []),
  (13, .aload_n 0, 0, 0, 0, 0, []),
  (14, .getfield 9, 4, 0, 0, 0, []),
  (17, .iconst 0, 0, 0, 0, 0, []),
  (18, .aload_n 0, 0, 0, 0, 0, []),
  (19, .getfield 9, 4, 0, 0, 0, []),
  (22, .arraylength, 0, 0, 0, 0, []),
  (23, .invokestatic 22, 0, 4, 0, 0, []),
  (26, .return_, 0, 0, 0, 0, [])]
noncomputable def e4_copyFrom : XN := []
noncomputable def k4_copyFrom (i0 : Nat) (i1 : Nat) (μ : XM) : XR :=
  mS (sI μ 4 i0 1 (rI μ 4 i1 1)) fun m1 =>
  xck (xcpok 0 0 (nI 1000) 1000 1000) <|
  mS (wI m1 4 i0 0 (va_cpy (aI m1 4 i1 0) (aI m1 4 i0 0) (Int32.toNatClampNeg 0) (Int32.toNatClampNeg 0) (Int32.toNatClampNeg (nI 1000)))) fun m2 =>
  xrv m2
set_option maxRecDepth 100000 in
theorem q4_copyFrom (n : Nat) (i0 : Nat) (i1 : Nat) (μ : XM) : xrun t4_copyFrom e4_copyFrom (xrtk none) 20 n (xlo [xr 4 i0 0, xr 4 i1 0] 2) μ = k4_copyFrom i0 i1 μ := rfl
theorem x4_copyFrom : ∃ f : Nat → Nat → XM → XR, ∀ (i0 : Nat) (i1 : Nat) (μ : XM), f i0 i1 μ = k4_copyFrom i0 i1 μ := ⟨fun i0 i1 μ => k4_copyFrom i0 i1 μ, fun i0 i1 μ => rfl⟩
noncomputable def f4_copyFrom : Nat → Nat → XM → XR := Classical.choose x4_copyFrom
theorem f4_copyFrom_e (i0 : Nat) (i1 : Nat) (μ : XM) : f4_copyFrom i0 i1 μ = k4_copyFrom i0 i1 μ := Classical.choose_spec x4_copyFrom i0 i1 μ
noncomputable def F4_copyFrom : XF := fun av μ => match av with
  | [.inr (.inr (some (t0, i0, 0))), .inr (.inr (some (t1, i1, 0)))] => bif Nat.beq t0 4 && Nat.beq t1 4 then f4_copyFrom i0 i1 μ else none
  | _ => none
set_option maxRecDepth 100000 in
theorem c4_copyFrom {X : XP} (hX : XOK X) (l : Launch) : Ctr X l y4_copyFrom prog_6_method_3_code 2 none (xrm 1) 0 0 F4_copyFrom :=
  Ctr_of (tab := t4_copyFrom) (env := e4_copyFrom) (K := 20) (N := 20000) (fl := fl4) (cl := cl4) (ll := ll4) (jl := jl4) hX mf4_copyFrom.2.2.2 ⟨by decide +kernel, flk4, clk4, llk4, jlk4⟩
   (fun _ h => absurd h List.not_mem_nil)
   (xrm_1 (by decide)) ⟨_, _, rfl, rfl⟩ (fun av μ r μ' h => by
    unfold F4_copyFrom at h
    split at h
    · replace h := cond_inv h; obtain ⟨hb, h⟩ := h
      simp only [Bool.and_eq_true] at hb
      obtain ⟨g0, g1⟩ := hb
      obtain rfl := Nat.eq_of_beq_eq_true g0
      obtain rfl := Nat.eq_of_beq_eq_true g1
      exact ⟨Nat.le_of_ble_eq_true rfl, (q4_copyFrom _ _ _ _).trans ((f4_copyFrom_e _ _ _).symm.trans h)⟩
    · cases h)
def t2_copyFrom : List XE := [(0, .aload_n 0, 0, 0, 0, 0, []),
  (1, .aload_n 1, 1, 0, 0, 0, []),
  (2, .getfield 53, 2, 0, 0, 0, []),
  (5, .putfield 53, 2, 0, 0, 0, []),
  (8, .aload_n 0, 0, 0, 0, 0, []),
  (9, .aload_n 1, 1, 0, 0, 0, []),
  (10, .getfield 57, 2, 1, 0, 0, []),
  (13, .putfield 57, 2, 1, 0, 0, []),
  (16, .aload_n 0, 0, 0, 0, 0, []),
  (17, .aload_n 1, 1, 0, 0, 0, []),
  (18, .getfield 60, 2, 2, 0, 0, []),
  (21, .putfield 60, 2, 2, 0, 0, []),
  (24, .aload_n 0, 0, 0, 0, 0, []),
  (25, .aload_n 1, 1, 0, 0, 0, []),
  (26, .getfield 63, 2, 3, 0, 0, []),
  (29, .putfield 63, 2, 3, 0, 0, []),
  (32, .aload_n 0, 0, 0, 0, 0, []),
  (33, .aload_n 1, 1, 0, 0, 0, []),
  (34, .getfield 66, 2, 4, 0, 0, []),
  (37, .putfield 66, 2, 4, 0, 0, []),
  (40, .aload_n 1, 1, 0, 0, 0, []),
  (41, .getfield 9, 2, 5, 0, 0, []),
  (44, .iconst 0, 0, 0, 0, 0, []),
  (45, .aload_n 0, 0, 0, 0, 0, []),
  (46, .getfield 9, 2, 5, 0, 0, []),
  (49, .iconst 0, 0, 0, 0, 0, []),
  (50, .bipush 6, 0, 0, 6, 0, []),
  (52, .invokestatic 72, 0, 4, 0, 0, []),
  (55, .aload_n 1, 1, 0, 0, 0, []),
  (56, .getfield 15, 2, 6, 0, 0, []),
  (59, .iconst 0, 0, 0, 0, 0, []),
  (60, .aload_n 0, 0, 0, 0, 0, []),
  (61, .getfield 15, 2, 6, 0, 0, []),
  (64, .iconst 0, 0, 0, 0, 0, []),
  (65, .bipush 6, 0, 0, 6, 0, []),
  (67, .invokestatic 72, 0, 4, 0, 0, []),
  (70, .aload_n 1, 1, 0, 0, 0, []),
  (71, .getfield 19, 2, 7, 0, 0, []),
  (74, .iconst 0, 0, 0, 0, 0, []),
  (75, .aload_n 0, 0, 0, 0, 0, []),
  (76, .getfield 19, 2, 7, 0, 0, []),
  (79, .iconst 0, 0, 0, 0, 0, []),
  (80, .bipush 6, 0, 0, 6, 0, []),
  (82, .invokestatic 72, 0, 4, 0, 0, []),
  (85, .aload_n 1, 1, 0, 0, 0, []),
  (86, .getfield 22, 2, 8, 0, 0, []),
  (89, .iconst 0, 0, 0, 0, 0, []),
  (90, .aload_n 0, 0, 0, 0, 0, []),
  (91, .getfield 22, 2, 8, 0, 0, []),
  (94, .iconst 0, 0, 0, 0, 0, []),
  (95, .bipush 6, 0, 0, 6, 0, []),
  (97, .invokestatic 72, 0, 4, 0, 0, []),
  (100, .aload_n 1, 1, 0, 0, 0, []),
  (101, .getfield 25, 2, 9, 0, 0, []),
  (104, .iconst 0, 0, 0, 0, 0, []),
  (105, .aload_n 0, 0, 0, 0, 0, []),
  (106, .getfield 25, 2, 9, 0, 0, []),
  (109, .iconst 0, 0, 0, 0, 0, []),
  (110, .bipush 6, 0, 0, 6, 0, []),
  (112, .invokestatic 72, 0, 4, 0, 0, []),
  (115, .aload_n 1, 1, 0, 0, 0, []),
  (116, .getfield 28, 2, 10, 0, 0, []),
  (119, .iconst 0, 0, 0, 0, 0, []),
  (120, .aload_n 0, 0, 0, 0, 0, []),
  (121, .getfield 28, 2, 10, 0, 0, []),
  (124, .iconst 0, 0, 0, 0, 0, []),
  (125, .bipush 6, 0, 0, 6, 0, []),
  (127, .invokestatic 72, 0, 4, 0, 0, []),
  (130, .aload_n 1, 1, 0, 0, 0, []),
  (131, .getfield 31, 2, 11, 0, 0, []),
  (134, .iconst 0, 0, 0, 0, 0, []),
  (135, .aload_n 0, 0, 0, 0, 0, []),
  (136, .getfield 31, 2, 11, 0, 0, []),
  (139, .iconst 0, 0, 0, 0, 0, []),
  (140, .iconst 5, 0, 0, 5, 0, []),
  (141, .invokestatic 72, 0, 4, 0, 0, []),
  (144, .aload_n 1, 1, 0, 0, 0, []),
  (145, .getfield 34, 2, 12, 0, 0, []),
  (148, .iconst 0, 0, 0, 0, 0, []),
  (149, .aload_n 0, 0, 0, 0, 0, []),
  (150, .getfield 34, 2, 12, 0, 0, []),
  (153, .iconst 0, 0, 0, 0, 0, []),
  (154, .iconst 5, 0, 0, 5, 0, []),
  (155, .invokestatic 72, 0, 4, 0, 0, []),
  (158, .aload_n 1, 1, 0, 0, 0, []),
  (159, .getfield 37, 2, 13, 0, 0, []),
  (162, .iconst 0, 0, 0, 0, 0, []),
  (163, .aload_n 0, 0, 0, 0, 0, []),
  (164, .getfield 37, 2, 13, 0, 0, []),
  (167, .iconst 0, 0, 0, 0, 0, []),
  (168, .iconst 3, 0, 0, 3, 0, []),
  (169, .invokestatic 72, 0, 4, 0, 0, []),
  (172, .aload_n 1, 1, 0, 0, 0, []),
  (173, .getfield 40, 2, 14, 0, 0, []),
  (176, .iconst 0, 0, 0, 0, 0, []),
  (177, .aload_n 0, 0, 0, 0, 0, []),
  (178, .getfield 40, 2, 14, 0, 0, []),
  (181, .iconst 0, 0, 0, 0, 0, []),
  (182, .iconst 3, 0, 0, 3, 0, []),
  (183, .invokestatic 72, 0, 4, 0, 0, []),
  (186, .aload_n 1, 1, 0, 0, 0, []),
  (187, .getfield 43, 2, 15, 0, 0, []),
  (190, .iconst 0, 0, 0, 0, 0, []),
  (191, .aload_n 0, 0, 0, 0, 0, []),
  (192, .getfield 43, 2, 15, 0, 0, []),
  (195, .iconst 0, 0, 0, 0, 0, []),
  (196, .iconst 3, 0, 0, 3, 0, []),
  (197, .invokestatic 72, 0, 4, 0, 0, []),
  (200, .aload_n 0, 0, 0, 0, 0, []),
  (201, .getfield 49, 2, 16, 0, 0, []),
  (204, .aload_n 1, 1, 0, 0, 0, []),
  (205, .getfield 49, 2, 16, 0, 0, []),
  (208, .invokevirtual 78, 2, 4, 0, 0, []),
  (211, .return_, 0, 0, 0, 0, [])]
noncomputable def e2_copyFrom : XN := [(78, 0, 2, 4, F4_copyFrom)]
noncomputable def k2_copyFrom (i0 : Nat) (i1 : Nat) (μ : XM) : XR :=
  mS (sI μ 2 i0 0 (rI μ 2 i1 0)) fun m1 =>
  mS (sI m1 2 i0 1 (rI m1 2 i1 1)) fun m2 =>
  mS (sI m2 2 i0 2 (rI m2 2 i1 2)) fun m3 =>
  mS (sI m3 2 i0 3 (rI m3 2 i1 3)) fun m4 =>
  mS (sI m4 2 i0 4 (rI m4 2 i1 4)) fun m5 =>
  xck (xcpok 0 0 6 6 6) <|
  mS (wL m5 2 i0 5 (va_cpy (aL m5 2 i1 5) (aL m5 2 i0 5) (Int32.toNatClampNeg 0) (Int32.toNatClampNeg 0) (Int32.toNatClampNeg 6))) fun m6 =>
  xck (xcpok 0 0 6 6 6) <|
  mS (wI m6 2 i0 6 (va_cpy (aI m6 2 i1 6) (aI m6 2 i0 6) (Int32.toNatClampNeg 0) (Int32.toNatClampNeg 0) (Int32.toNatClampNeg 6))) fun m7 =>
  xck (xcpok 0 0 6 6 6) <|
  mS (wI m7 2 i0 7 (va_cpy (aI m7 2 i1 7) (aI m7 2 i0 7) (Int32.toNatClampNeg 0) (Int32.toNatClampNeg 0) (Int32.toNatClampNeg 6))) fun m8 =>
  xck (xcpok 0 0 6 6 6) <|
  mS (wI m8 2 i0 8 (va_cpy (aI m8 2 i1 8) (aI m8 2 i0 8) (Int32.toNatClampNeg 0) (Int32.toNatClampNeg 0) (Int32.toNatClampNeg 6))) fun m9 =>
  xck (xcpok 0 0 6 6 6) <|
  mS (wI m9 2 i0 9 (va_cpy (aI m9 2 i1 9) (aI m9 2 i0 9) (Int32.toNatClampNeg 0) (Int32.toNatClampNeg 0) (Int32.toNatClampNeg 6))) fun m10 =>
  xck (xcpok 0 0 6 6 6) <|
  mS (wI m10 2 i0 10 (va_cpy (aI m10 2 i1 10) (aI m10 2 i0 10) (Int32.toNatClampNeg 0) (Int32.toNatClampNeg 0) (Int32.toNatClampNeg 6))) fun m11 =>
  xck (xcpok 0 0 5 5 5) <|
  mS (wL m11 2 i0 11 (va_cpy (aL m11 2 i1 11) (aL m11 2 i0 11) (Int32.toNatClampNeg 0) (Int32.toNatClampNeg 0) (Int32.toNatClampNeg 5))) fun m12 =>
  xck (xcpok 0 0 5 5 5) <|
  mS (wI m12 2 i0 12 (va_cpy (aI m12 2 i1 12) (aI m12 2 i0 12) (Int32.toNatClampNeg 0) (Int32.toNatClampNeg 0) (Int32.toNatClampNeg 5))) fun m13 =>
  xck (xcpok 0 0 3 3 3) <|
  mS (wL m13 2 i0 13 (va_cpy (aL m13 2 i1 13) (aL m13 2 i0 13) (Int32.toNatClampNeg 0) (Int32.toNatClampNeg 0) (Int32.toNatClampNeg 3))) fun m14 =>
  xck (xcpok 0 0 3 3 3) <|
  mS (wI m14 2 i0 14 (va_cpy (aI m14 2 i1 14) (aI m14 2 i0 14) (Int32.toNatClampNeg 0) (Int32.toNatClampNeg 0) (Int32.toNatClampNeg 3))) fun m15 =>
  xck (xcpok 0 0 3 3 3) <|
  mS (wI m15 2 i0 15 (va_cpy (aI m15 2 i1 15) (aI m15 2 i0 15) (Int32.toNatClampNeg 0) (Int32.toNatClampNeg 0) (Int32.toNatClampNeg 3))) fun m16 =>
  bV (f4_copyFrom i0 i1 m16) fun m17 =>
  xrv m17
set_option maxRecDepth 100000 in
theorem q2_copyFrom (n : Nat) (i0 : Nat) (i1 : Nat) (μ : XM) : xrun t2_copyFrom e2_copyFrom (xrtk none) 119 n (xlo [xr 2 i0 0, xr 2 i1 0] 2) μ = k2_copyFrom i0 i1 μ := rfl
theorem x2_copyFrom : ∃ f : Nat → Nat → XM → XR, ∀ (i0 : Nat) (i1 : Nat) (μ : XM), f i0 i1 μ = k2_copyFrom i0 i1 μ := ⟨fun i0 i1 μ => k2_copyFrom i0 i1 μ, fun i0 i1 μ => rfl⟩
noncomputable def f2_copyFrom : Nat → Nat → XM → XR := Classical.choose x2_copyFrom
theorem f2_copyFrom_e (i0 : Nat) (i1 : Nat) (μ : XM) : f2_copyFrom i0 i1 μ = k2_copyFrom i0 i1 μ := Classical.choose_spec x2_copyFrom i0 i1 μ
noncomputable def F2_copyFrom : XF := fun av μ => match av with
  | [.inr (.inr (some (t0, i0, 0))), .inr (.inr (some (t1, i1, 0)))] => bif Nat.beq t0 2 && Nat.beq t1 2 then f2_copyFrom i0 i1 μ else none
  | _ => none
set_option maxRecDepth 100000 in
theorem c2_copyFrom {X : XP} (hX : XOK X) (l : Launch) : Ctr X l y2_copyFrom prog_4_method_3_code 2 none (xrm 2) 0 0 F2_copyFrom :=
  Ctr_of (tab := t2_copyFrom) (env := e2_copyFrom) (K := 119) (N := 20000) (fl := fl2) (cl := cl2) (ll := ll2) (jl := jl2) hX mf2_copyFrom.2.2.2 ⟨by decide +kernel, flk2, clk2, llk2, jlk2⟩
   (List.forall_mem_cons.mpr ⟨xcal_v (na := 1) (c4_copyFrom hX l) mf4_copyFrom ⟨rfl, rfl⟩ ml2_78 mi4_copyFrom me4_copyFrom (xrm_ok (by omega) (by decide)) rfl (by decide) (by decide +kernel), fun _ h => absurd h List.not_mem_nil⟩)
   (xrm_1 (by decide)) ⟨_, _, rfl, rfl⟩ (fun av μ r μ' h => by
    unfold F2_copyFrom at h
    split at h
    · replace h := cond_inv h; obtain ⟨hb, h⟩ := h
      simp only [Bool.and_eq_true] at hb
      obtain ⟨g0, g1⟩ := hb
      obtain rfl := Nat.eq_of_beq_eq_true g0
      obtain rfl := Nat.eq_of_beq_eq_true g1
      exact ⟨Nat.le_of_ble_eq_true rfl, (q2_copyFrom _ _ _ _).trans ((f2_copyFrom_e _ _ _).symm.trans h)⟩
    · cases h)
def t2_addGuest : List XE := [(0, .aload_n 0, 0, 0, 0, 0, []),
  (1, .getfield 53, 2, 0, 0, 0, []),
  (4, .bipush 6, 0, 0, 6, 0, []),
  (6, .if_icmp .ge 39, 45, 0, 0, 0, []),
  (9, .aload_n 0, 0, 0, 0, 0, []),
  (10, .getfield 15, 2, 6, 0, 0, []),
  (13, .aload_n 0, 0, 0, 0, 0, []),
  (14, .getfield 53, 2, 0, 0, 0, []),
  (17, .iaload, 0, 0, 0, 0, []),
  (18, .iconst 2, 0, 0, 2, 0, []),
  (19, .if_icmp .ne 16, 35, 0, 0, 0, []),
  (22, .aload_n 0, 0, 0, 0, 0, []),
  (23, .getfield 28, 2, 10, 0, 0, []),
  (26, .aload_n 0, 0, 0, 0, 0, []),
  (27, .getfield 53, 2, 0, 0, 0, []),
  (30, .dup2, 0, 0, 0, 0, []),
  (31, .iaload, 0, 0, 0, 0, []),
  (32, .iconst 5, 0, 0, 5, 0, []),
  (33, .iadd, 0, 0, 0, 0, []),
  (34, .iastore, 0, 0, 0, 0, []),
  (35, .aload_n 0, 0, 0, 0, 0, []),
  (36, .dup, 0, 0, 0, 0, []),
  (37, .getfield 53, 2, 0, 0, 0, []),
  (40, .iconst 1, 0, 0, 1, 0, []),
  (41, .iadd, 0, 0, 0, 0, []),
  (42, .putfield 53, 2, 0, 0, 0, []),
  (45, .return_, 0, 0, 0, 0, [])]
noncomputable def e2_addGuest : XN := []
noncomputable def k2_addGuest (i0 : Nat) (μ : XM) : XR :=
  xite ((rI μ 2 i0 0) < 6) (
    xck (xin (rI μ 2 i0 0) 6) <|
    xite ((aI μ 2 i0 6 (Int32.toNatClampNeg (rI μ 2 i0 0))) = 2) (
      xck (xin (rI μ 2 i0 0) 6) <|
      xck (xin (rI μ 2 i0 0) 6 && true) <|
      mS (pI μ 2 i0 10 (Int32.toNatClampNeg (rI μ 2 i0 0)) ((aI μ 2 i0 10 (Int32.toNatClampNeg (rI μ 2 i0 0))) + 5)) fun m1 =>
      mS (sI m1 2 i0 0 ((rI m1 2 i0 0) + 1)) fun m2 =>
      xrv m2) (
      mS (sI μ 2 i0 0 ((rI μ 2 i0 0) + 1)) fun m3 =>
      xrv m3)) (
    xrv μ)
set_option maxRecDepth 100000 in
theorem q2_addGuest (n : Nat) (i0 : Nat) (μ : XM) : xrun t2_addGuest e2_addGuest (xrtk none) 32 n (xlo [xr 2 i0 0] 1) μ = k2_addGuest i0 μ := rfl
theorem x2_addGuest : ∃ f : Nat → XM → XR, ∀ (i0 : Nat) (μ : XM), f i0 μ = k2_addGuest i0 μ := ⟨fun i0 μ => k2_addGuest i0 μ, fun i0 μ => rfl⟩
noncomputable def f2_addGuest : Nat → XM → XR := Classical.choose x2_addGuest
theorem f2_addGuest_e (i0 : Nat) (μ : XM) : f2_addGuest i0 μ = k2_addGuest i0 μ := Classical.choose_spec x2_addGuest i0 μ
noncomputable def F2_addGuest : XF := fun av μ => match av with
  | [.inr (.inr (some (t0, i0, 0)))] => bif Nat.beq t0 2 then f2_addGuest i0 μ else none
  | _ => none
set_option maxRecDepth 100000 in
theorem c2_addGuest {X : XP} (hX : XOK X) (l : Launch) : Ctr X l y2_addGuest prog_4_method_4_code 1 none (xrm 1) 0 0 F2_addGuest :=
  Ctr_of (tab := t2_addGuest) (env := e2_addGuest) (K := 32) (N := 20000) (fl := fl2) (cl := cl2) (ll := ll2) (jl := jl2) hX mf2_addGuest.2.2.2 ⟨by decide +kernel, flk2, clk2, llk2, jlk2⟩
   (fun _ h => absurd h List.not_mem_nil)
   (xrm_1 (by decide)) ⟨_, _, rfl, rfl⟩ (fun av μ r μ' h => by
    unfold F2_addGuest at h
    split at h
    · replace h := cond_inv h; obtain ⟨hb, h⟩ := h
      obtain rfl := Nat.eq_of_beq_eq_true hb
      exact ⟨Nat.le_of_ble_eq_true rfl, (q2_addGuest _ _ _).trans ((f2_addGuest_e _ _).symm.trans h)⟩
    · cases h)
def t2_isTold : List XE := [(0, .aload_n 0, 0, 0, 0, 0, []),
  (1, .getfield 9, 2, 5, 0, 0, []),
  (4, .aload_n 0, 0, 0, 0, 0, []),
  (5, .getfield 53, 2, 0, 0, 0, []),
  (8, .lload_n 1, 1, 0, 0, 0, []),
  (9, .invokestatic 82, 3, 0, 0, 0, []),
  (12, .iconst (-1), 0, 0, (-1), 0, []),
  (13, .if_icmp .ne 35, 48, 0, 0, 0, []),
  (16, .aload_n 0, 0, 0, 0, 0, []),
  (17, .getfield 31, 2, 11, 0, 0, []),
  (20, .aload_n 0, 0, 0, 0, 0, []),
  (21, .getfield 57, 2, 1, 0, 0, []),
  (24, .lload_n 1, 1, 0, 0, 0, []),
  (25, .invokestatic 82, 3, 0, 0, 0, []),
  (28, .iconst (-1), 0, 0, (-1), 0, []),
  (29, .if_icmp .ne 19, 48, 0, 0, 0, []),
  (32, .aload_n 0, 0, 0, 0, 0, []),
  (33, .getfield 37, 2, 13, 0, 0, []),
  (36, .aload_n 0, 0, 0, 0, 0, []),
  (37, .getfield 60, 2, 2, 0, 0, []),
  (40, .lload_n 1, 1, 0, 0, 0, []),
  (41, .invokestatic 82, 3, 0, 0, 0, []),
  (44, .iconst (-1), 0, 0, (-1), 0, []),
  (45, .if_icmp .eq 7, 52, 0, 0, 0, []),
  (48, .iconst 1, 0, 0, 1, 0, []),
  (49, .goto 4, 53, 0, 0, 0, []),
  (52, .iconst 0, 0, 0, 0, 0, []),
  (53, .ireturn, 0, 0, 0, 0, [])]
noncomputable def e2_isTold : XN := [(82, 1, 3, 99, F2_find)]
noncomputable def k2_isTold (i0 : Nat) (p1 : Int64) (μ : XM) : XR :=
  bI (f2_find_gn i0 (rI μ 2 i0 0) p1 μ) fun r2 m1 =>
  xite (r2 = (-1)) (
    bI (f2_find_bn i0 (rI m1 2 i0 1) p1 m1) fun r4 m3 =>
    xite (r4 = (-1)) (
      bI (f2_find_mn i0 (rI m3 2 i0 2) p1 m3) fun r6 m5 =>
      xite (r6 = (-1)) (
        xrb 0 m5) (
        xrb 1 m5)) (
      xrb 1 m3)) (
    xrb 1 m1)
set_option maxRecDepth 100000 in
theorem q2_isTold (n : Nat) (i0 : Nat) (p1 : Int64) (μ : XM) : xrun t2_isTold e2_isTold (xrtk (some .boolean)) 33 n (xlo [xr 2 i0 0, xl p1] 3) μ = k2_isTold i0 p1 μ := rfl
theorem x2_isTold : ∃ f : Nat → Int64 → XM → XR, ∀ (i0 : Nat) (p1 : Int64) (μ : XM), f i0 p1 μ = k2_isTold i0 p1 μ := ⟨fun i0 p1 μ => k2_isTold i0 p1 μ, fun i0 p1 μ => rfl⟩
noncomputable def f2_isTold : Nat → Int64 → XM → XR := Classical.choose x2_isTold
theorem f2_isTold_e (i0 : Nat) (p1 : Int64) (μ : XM) : f2_isTold i0 p1 μ = k2_isTold i0 p1 μ := Classical.choose_spec x2_isTold i0 p1 μ
noncomputable def F2_isTold : XF := fun av μ => match av with
  | [.inr (.inr (some (t0, i0, 0))), .inr (.inl p1)] => bif Nat.beq t0 2 then f2_isTold i0 p1 μ else none
  | _ => none
set_option maxRecDepth 100000 in
theorem c2_isTold {X : XP} (hX : XOK X) (l : Launch) : Ctr X l y2_isTold prog_4_method_9_code 3 (some .boolean) (xrm 2) 0 0 F2_isTold :=
  Ctr_of (tab := t2_isTold) (env := e2_isTold) (K := 33) (N := 20000) (fl := fl2) (cl := cl2) (ll := ll2) (jl := jl2) hX mf2_isTold.2.2.2 ⟨by decide +kernel, flk2, clk2, llk2, jlk2⟩
   (List.forall_mem_cons.mpr ⟨xcal_s (c2_find hX l) mf2_find ⟨rfl, rfl⟩ ml2_82 ms2_find (xrm_ok (by omega) (by decide)) (by decide +kernel), fun _ h => absurd h List.not_mem_nil⟩)
   (xrm_1 (by decide)) ⟨_, _, rfl, rfl⟩ (fun av μ r μ' h => by
    unfold F2_isTold at h
    split at h
    · replace h := cond_inv h; obtain ⟨hb, h⟩ := h
      obtain rfl := Nat.eq_of_beq_eq_true hb
      exact ⟨Nat.le_of_ble_eq_true rfl, (q2_isTold _ _ _ _).trans ((f2_isTold_e _ _ _).symm.trans h)⟩
    · cases h)
def t2_leastBelt : List XE := [(0, .iconst (-1), 0, 0, (-1), 0, []),
  (1, .istore_n 2, 2, 0, 0, 0, []),
  (2, .iconst 0, 0, 0, 0, 0, []),
  (3, .istore_n 3, 3, 0, 0, 0, []),
  (4, .nop, 15, 0, 0, 0, []),
  (4, .iload_n 3, 3, 0, 0, 0, []),
  (5, .aload_n 0, 0, 0, 0, 0, []),
  (6, .getfield 57, 2, 1, 0, 0, []),
  (9, .if_icmp .ge 40, 49, 0, 0, 0, []),
  (12, .aload_n 0, 0, 0, 0, 0, []),
  (13, .iload_n 3, 3, 0, 0, 0, []),
  (14, .iload_n 1, 1, 0, 0, 0, []),
  (15, .invokevirtual 86, 3, 2, 0, 0, []),
  (18, .ifCond .eq 25, 43, 0, 0, 0, []),
  (21, .iload_n 2, 2, 0, 0, 0, []),
  (22, .iconst (-1), 0, 0, (-1), 0, []),
  (23, .if_icmp .eq 18, 41, 0, 0, 0, []),
  (26, .aload_n 0, 0, 0, 0, 0, []),
  (27, .getfield 34, 2, 12, 0, 0, []),
  (30, .iload_n 3, 3, 0, 0, 0, []),
  (31, .iaload, 0, 0, 0, 0, []),
  (32, .aload_n 0, 0, 0, 0, 0, []),
  (33, .getfield 34, 2, 12, 0, 0, []),
  (36, .iload_n 2, 2, 0, 0, 0, []),
  (37, .iaload, 0, 0, 0, 0, []),
  (38, .if_icmp .ge 5, 43, 0, 0, 0, []),
  (41, .iload_n 3, 3, 0, 0, 0, []),
  (42, .istore_n 2, 2, 0, 0, 0, []),
  (43, .iinc 3 1, 3, 0, 1, 0, []),
  (46, .goto (-42), 4, 0, 0, 0, []),
  (49, .iload_n 2, 2, 0, 0, 0, []),
  (50, .ireturn, 0, 0, 0, 0, [])]
noncomputable def e2_leastBelt : XN := [(86, 1, 3, 2, F2_isBorne)]
noncomputable def h2_leastBelt_4 (n : Nat) (i0 : Nat) (v1 : Int32) (v2 : Int32) (v3 : Int32) (μ : XM) : XR := arr t2_leastBelt e2_leastBelt 1 37 n 4 [some (xr 2 i0 0), some (xi v1), some (xi v2), some (xi v3)] [] μ
set_option maxRecDepth 100000 in
theorem h2_leastBelt_4_s (n : Nat) (i0 : Nat) (v1 : Int32) (v2 : Int32) (v3 : Int32) (μ : XM) : h2_leastBelt_4 (n + 1) i0 v1 v2 v3 μ = (
  xite (v3 < (rI μ 2 i0 1)) (
    bI (f2_isBorne i0 v3 v1 μ) fun r2 m1 =>
    xite (r2 = 0) (
      vI (v3 + 1) fun x3 =>
      h2_leastBelt_4 n i0 v1 v2 x3 m1) (
      xite (v2 = (-1)) (
        vI v3 fun x4 =>
        vI (v3 + 1) fun x5 =>
        h2_leastBelt_4 n i0 v1 x4 x5 m1) (
        xck (xin v3 5) <|
        xck (xin v2 5) <|
        xite ((aI m1 2 i0 12 (Int32.toNatClampNeg v3)) < (aI m1 2 i0 12 (Int32.toNatClampNeg v2))) (
          vI v3 fun x6 =>
          vI (v3 + 1) fun x7 =>
          h2_leastBelt_4 n i0 v1 x6 x7 m1) (
          vI (v3 + 1) fun x8 =>
          h2_leastBelt_4 n i0 v1 v2 x8 m1)))) (
    xri v2 μ)) := rfl
theorem h2_leastBelt_4_0 (i0 : Nat) (v1 : Int32) (v2 : Int32) (v3 : Int32) (μ : XM) : h2_leastBelt_4 0 i0 v1 v2 v3 μ = none := rfl
noncomputable def k2_leastBelt (n : Nat) (i0 : Nat) (p1 : Int32) (μ : XM) : XR :=
  vI (-1) fun x1 =>
  vI 0 fun x2 =>
  h2_leastBelt_4 n i0 p1 x1 x2 μ
set_option maxRecDepth 100000 in
theorem q2_leastBelt (n : Nat) (i0 : Nat) (p1 : Int32) (μ : XM) : xrun t2_leastBelt e2_leastBelt (xrtk (some .int)) 37 n (xlo [xr 2 i0 0, xi p1] 4) μ = k2_leastBelt n i0 p1 μ := rfl
theorem x2_leastBelt : ∃ f : Nat → Int32 → XM → XR, ∀ (i0 : Nat) (p1 : Int32) (μ : XM), f i0 p1 μ = k2_leastBelt 20000 i0 p1 μ := ⟨fun i0 p1 μ => k2_leastBelt 20000 i0 p1 μ, fun i0 p1 μ => rfl⟩
noncomputable def f2_leastBelt : Nat → Int32 → XM → XR := Classical.choose x2_leastBelt
theorem f2_leastBelt_e (i0 : Nat) (p1 : Int32) (μ : XM) : f2_leastBelt i0 p1 μ = k2_leastBelt 20000 i0 p1 μ := Classical.choose_spec x2_leastBelt i0 p1 μ
noncomputable def F2_leastBelt : XF := fun av μ => match av with
  | [.inr (.inr (some (t0, i0, 0))), .inl p1] => bif Nat.beq t0 2 then f2_leastBelt i0 p1 μ else none
  | _ => none
set_option maxRecDepth 100000 in
theorem c2_leastBelt {X : XP} (hX : XOK X) (l : Launch) : Ctr X l y2_leastBelt prog_4_method_13_code 4 (some .int) (xrm 2) 0 0 F2_leastBelt :=
  Ctr_of (tab := t2_leastBelt) (env := e2_leastBelt) (K := 37) (N := 20000) (fl := fl2) (cl := cl2) (ll := ll2) (jl := jl2) hX mf2_leastBelt.2.2.2 ⟨by decide +kernel, flk2, clk2, llk2, jlk2⟩
   (List.forall_mem_cons.mpr ⟨xcal_v (na := 2) (c2_isBorne hX l) mf2_isBorne ⟨rfl, rfl⟩ ml2_86 mi2_isBorne me2_isBorne (xrm_ok (by omega) (by decide)) rfl (by decide) (by decide +kernel), fun _ h => absurd h List.not_mem_nil⟩)
   (xrm_1 (by decide)) ⟨_, _, rfl, rfl⟩ (fun av μ r μ' h => by
    unfold F2_leastBelt at h
    split at h
    · replace h := cond_inv h; obtain ⟨hb, h⟩ := h
      obtain rfl := Nat.eq_of_beq_eq_true hb
      exact ⟨Nat.le_of_ble_eq_true rfl, (q2_leastBelt _ _ _ _).trans ((f2_leastBelt_e _ _ _).symm.trans h)⟩
    · cases h)
def t2_bearing : List XE := [(0, .iconst 0, 0, 0, 0, 0, []),
  (1, .istore_n 2, 2, 0, 0, 0, []),
  (2, .iconst 0, 0, 0, 0, 0, []),
  (3, .istore_n 3, 3, 0, 0, 0, []),
  (4, .nop, 15, 0, 0, 0, []),
  (4, .iload_n 3, 3, 0, 0, 0, []),
  (5, .aload_n 0, 0, 0, 0, 0, []),
  (6, .getfield 57, 2, 1, 0, 0, []),
  (9, .if_icmp .ge 27, 36, 0, 0, 0, []),
  (12, .iload_n 1, 1, 0, 0, 0, []),
  (13, .iload_n 3, 3, 0, 0, 0, []),
  (14, .ishr, 0, 0, 0, 0, []),
  (15, .iconst 1, 0, 0, 1, 0, []),
  (16, .iand, 0, 0, 0, 0, []),
  (17, .iconst 1, 0, 0, 1, 0, []),
  (18, .if_icmp .ne 12, 30, 0, 0, 0, []),
  (21, .iload_n 2, 2, 0, 0, 0, []),
  (22, .aload_n 0, 0, 0, 0, 0, []),
  (23, .getfield 34, 2, 12, 0, 0, []),
  (26, .iload_n 3, 3, 0, 0, 0, []),
  (27, .iaload, 0, 0, 0, 0, []),
  (28, .iadd, 0, 0, 0, 0, []),
  (29, .istore_n 2, 2, 0, 0, 0, []),
  (30, .iinc 3 1, 3, 0, 1, 0, []),
  (33, .goto (-29), 4, 0, 0, 0, []),
  (36, .iload_n 2, 2, 0, 0, 0, []),
  (37, .ireturn, 0, 0, 0, 0, [])]
noncomputable def e2_bearing : XN := []
noncomputable def h2_bearing_4 (n : Nat) (i0 : Nat) (v1 : Int32) (v2 : Int32) (v3 : Int32) (μ : XM) : XR := arr t2_bearing e2_bearing 1 32 n 4 [some (xr 2 i0 0), some (xi v1), some (xi v2), some (xi v3)] [] μ
set_option maxRecDepth 100000 in
theorem h2_bearing_4_s (n : Nat) (i0 : Nat) (v1 : Int32) (v2 : Int32) (v3 : Int32) (μ : XM) : h2_bearing_4 (n + 1) i0 v1 v2 v3 μ = (
  xite (v3 < (rI μ 2 i0 1)) (
    xite (((v1 >>> (v3 &&& 31)) &&& 1) = 1) (
      xck (xin v3 5) <|
      vI (v2 + (aI μ 2 i0 12 (Int32.toNatClampNeg v3))) fun x1 =>
      vI (v3 + 1) fun x2 =>
      h2_bearing_4 n i0 v1 x1 x2 μ) (
      vI (v3 + 1) fun x3 =>
      h2_bearing_4 n i0 v1 v2 x3 μ)) (
    xri v2 μ)) := rfl
theorem h2_bearing_4_0 (i0 : Nat) (v1 : Int32) (v2 : Int32) (v3 : Int32) (μ : XM) : h2_bearing_4 0 i0 v1 v2 v3 μ = none := rfl
noncomputable def k2_bearing (n : Nat) (i0 : Nat) (p1 : Int32) (μ : XM) : XR :=
  vI 0 fun x1 =>
  vI 0 fun x2 =>
  h2_bearing_4 n i0 p1 x1 x2 μ
set_option maxRecDepth 100000 in
theorem q2_bearing (n : Nat) (i0 : Nat) (p1 : Int32) (μ : XM) : xrun t2_bearing e2_bearing (xrtk (some .int)) 32 n (xlo [xr 2 i0 0, xi p1] 4) μ = k2_bearing n i0 p1 μ := rfl
theorem x2_bearing : ∃ f : Nat → Int32 → XM → XR, ∀ (i0 : Nat) (p1 : Int32) (μ : XM), f i0 p1 μ = k2_bearing 20000 i0 p1 μ := ⟨fun i0 p1 μ => k2_bearing 20000 i0 p1 μ, fun i0 p1 μ => rfl⟩
noncomputable def f2_bearing : Nat → Int32 → XM → XR := Classical.choose x2_bearing
theorem f2_bearing_e (i0 : Nat) (p1 : Int32) (μ : XM) : f2_bearing i0 p1 μ = k2_bearing 20000 i0 p1 μ := Classical.choose_spec x2_bearing i0 p1 μ
noncomputable def F2_bearing : XF := fun av μ => match av with
  | [.inr (.inr (some (t0, i0, 0))), .inl p1] => bif Nat.beq t0 2 then f2_bearing i0 p1 μ else none
  | _ => none
set_option maxRecDepth 100000 in
theorem c2_bearing {X : XP} (hX : XOK X) (l : Launch) : Ctr X l y2_bearing prog_4_method_14_code 4 (some .int) (xrm 1) 0 0 F2_bearing :=
  Ctr_of (tab := t2_bearing) (env := e2_bearing) (K := 32) (N := 20000) (fl := fl2) (cl := cl2) (ll := ll2) (jl := jl2) hX mf2_bearing.2.2.2 ⟨by decide +kernel, flk2, clk2, llk2, jlk2⟩
   (fun _ h => absurd h List.not_mem_nil)
   (xrm_1 (by decide)) ⟨_, _, rfl, rfl⟩ (fun av μ r μ' h => by
    unfold F2_bearing at h
    split at h
    · replace h := cond_inv h; obtain ⟨hb, h⟩ := h
      obtain rfl := Nat.eq_of_beq_eq_true hb
      exact ⟨Nat.le_of_ble_eq_true rfl, (q2_bearing _ _ _ _).trans ((f2_bearing_e _ _ _).symm.trans h)⟩
    · cases h)
def t2_beltsFrom : List XE := [(0, .iconst 0, 0, 0, 0, 0, []),
  (1, .istore_n 3, 3, 0, 0, 0, []),
  (2, .iconst 0, 0, 0, 0, 0, []),
  (3, .istore 4, 4, 0, 0, 0, []),
  (5, .nop, 31, 0, 0, 0, []),
  (5, .iload 4, 4, 0, 0, 0, []),
  (7, .aload_n 0, 0, 0, 0, 0, []),
  (8, .getfield 57, 2, 1, 0, 0, []),
  (11, .if_icmp .ge 33, 44, 0, 0, 0, []),
  (14, .iload_n 1, 1, 0, 0, 0, []),
  (15, .iload 4, 4, 0, 0, 0, []),
  (17, .ishr, 0, 0, 0, 0, []),
  (18, .iconst 1, 0, 0, 1, 0, []),
  (19, .iand, 0, 0, 0, 0, []),
  (20, .iconst 1, 0, 0, 1, 0, []),
  (21, .if_icmp .ne 17, 38, 0, 0, 0, []),
  (24, .aload_n 0, 0, 0, 0, 0, []),
  (25, .getfield 34, 2, 12, 0, 0, []),
  (28, .iload 4, 4, 0, 0, 0, []),
  (30, .iaload, 0, 0, 0, 0, []),
  (31, .iload_n 2, 2, 0, 0, 0, []),
  (32, .if_icmp .lt 6, 38, 0, 0, 0, []),
  (35, .iinc 3 1, 3, 0, 1, 0, []),
  (38, .iinc 4 1, 4, 0, 1, 0, []),
  (41, .goto (-36), 5, 0, 0, 0, []),
  (44, .iload_n 3, 3, 0, 0, 0, []),
  (45, .ireturn, 0, 0, 0, 0, [])]
noncomputable def e2_beltsFrom : XN := []
noncomputable def h2_beltsFrom_5 (n : Nat) (i0 : Nat) (v1 : Int32) (v2 : Int32) (v3 : Int32) (v4 : Int32) (μ : XM) : XR := arr t2_beltsFrom e2_beltsFrom 1 32 n 5 [some (xr 2 i0 0), some (xi v1), some (xi v2), some (xi v3), some (xi v4)] [] μ
set_option maxRecDepth 100000 in
theorem h2_beltsFrom_5_s (n : Nat) (i0 : Nat) (v1 : Int32) (v2 : Int32) (v3 : Int32) (v4 : Int32) (μ : XM) : h2_beltsFrom_5 (n + 1) i0 v1 v2 v3 v4 μ = (
  xite (v4 < (rI μ 2 i0 1)) (
    xite (((v1 >>> (v4 &&& 31)) &&& 1) = 1) (
      xck (xin v4 5) <|
      xite ((aI μ 2 i0 12 (Int32.toNatClampNeg v4)) < v2) (
        vI (v4 + 1) fun x1 =>
        h2_beltsFrom_5 n i0 v1 v2 v3 x1 μ) (
        vI (v3 + 1) fun x2 =>
        vI (v4 + 1) fun x3 =>
        h2_beltsFrom_5 n i0 v1 v2 x2 x3 μ)) (
      vI (v4 + 1) fun x4 =>
      h2_beltsFrom_5 n i0 v1 v2 v3 x4 μ)) (
    xri v3 μ)) := rfl
theorem h2_beltsFrom_5_0 (i0 : Nat) (v1 : Int32) (v2 : Int32) (v3 : Int32) (v4 : Int32) (μ : XM) : h2_beltsFrom_5 0 i0 v1 v2 v3 v4 μ = none := rfl
noncomputable def k2_beltsFrom (n : Nat) (i0 : Nat) (p1 : Int32) (p2 : Int32) (μ : XM) : XR :=
  vI 0 fun x1 =>
  vI 0 fun x2 =>
  h2_beltsFrom_5 n i0 p1 p2 x1 x2 μ
set_option maxRecDepth 100000 in
theorem q2_beltsFrom (n : Nat) (i0 : Nat) (p1 : Int32) (p2 : Int32) (μ : XM) : xrun t2_beltsFrom e2_beltsFrom (xrtk (some .int)) 32 n (xlo [xr 2 i0 0, xi p1, xi p2] 5) μ = k2_beltsFrom n i0 p1 p2 μ := rfl
theorem x2_beltsFrom : ∃ f : Nat → Int32 → Int32 → XM → XR, ∀ (i0 : Nat) (p1 : Int32) (p2 : Int32) (μ : XM), f i0 p1 p2 μ = k2_beltsFrom 20000 i0 p1 p2 μ := ⟨fun i0 p1 p2 μ => k2_beltsFrom 20000 i0 p1 p2 μ, fun i0 p1 p2 μ => rfl⟩
noncomputable def f2_beltsFrom : Nat → Int32 → Int32 → XM → XR := Classical.choose x2_beltsFrom
theorem f2_beltsFrom_e (i0 : Nat) (p1 : Int32) (p2 : Int32) (μ : XM) : f2_beltsFrom i0 p1 p2 μ = k2_beltsFrom 20000 i0 p1 p2 μ := Classical.choose_spec x2_beltsFrom i0 p1 p2 μ
noncomputable def F2_beltsFrom : XF := fun av μ => match av with
  | [.inr (.inr (some (t0, i0, 0))), .inl p1, .inl p2] => bif Nat.beq t0 2 then f2_beltsFrom i0 p1 p2 μ else none
  | _ => none
set_option maxRecDepth 100000 in
theorem c2_beltsFrom {X : XP} (hX : XOK X) (l : Launch) : Ctr X l y2_beltsFrom prog_4_method_16_code 5 (some .int) (xrm 1) 0 0 F2_beltsFrom :=
  Ctr_of (tab := t2_beltsFrom) (env := e2_beltsFrom) (K := 32) (N := 20000) (fl := fl2) (cl := cl2) (ll := ll2) (jl := jl2) hX mf2_beltsFrom.2.2.2 ⟨by decide +kernel, flk2, clk2, llk2, jlk2⟩
   (fun _ h => absurd h List.not_mem_nil)
   (xrm_1 (by decide)) ⟨_, _, rfl, rfl⟩ (fun av μ r μ' h => by
    unfold F2_beltsFrom at h
    split at h
    · replace h := cond_inv h; obtain ⟨hb, h⟩ := h
      obtain rfl := Nat.eq_of_beq_eq_true hb
      exact ⟨Nat.le_of_ble_eq_true rfl, (q2_beltsFrom _ _ _ _ _).trans ((f2_beltsFrom_e _ _ _ _).symm.trans h)⟩
    · cases h)
def t2_guestsFrom : List XE := [(0, .iconst 0, 0, 0, 0, 0, []),
  (1, .istore_n 3, 3, 0, 0, 0, []),
  (2, .iconst 0, 0, 0, 0, 0, []),
  (3, .istore 4, 4, 0, 0, 0, []),
  (5, .nop, 31, 0, 0, 0, []),
  (5, .iload 4, 4, 0, 0, 0, []),
  (7, .aload_n 0, 0, 0, 0, 0, []),
  (8, .getfield 53, 2, 0, 0, 0, []),
  (11, .if_icmp .ge 33, 44, 0, 0, 0, []),
  (14, .iload_n 1, 1, 0, 0, 0, []),
  (15, .iload 4, 4, 0, 0, 0, []),
  (17, .ishr, 0, 0, 0, 0, []),
  (18, .iconst 1, 0, 0, 1, 0, []),
  (19, .iand, 0, 0, 0, 0, []),
  (20, .iconst 1, 0, 0, 1, 0, []),
  (21, .if_icmp .ne 17, 38, 0, 0, 0, []),
  (24, .aload_n 0, 0, 0, 0, 0, []),
  (25, .getfield 28, 2, 10, 0, 0, []),
  (28, .iload 4, 4, 0, 0, 0, []),
  (30, .iaload, 0, 0, 0, 0, []),
  (31, .iload_n 2, 2, 0, 0, 0, []),
  (32, .if_icmp .lt 6, 38, 0, 0, 0, []),
  (35, .iinc 3 1, 3, 0, 1, 0, []),
  (38, .iinc 4 1, 4, 0, 1, 0, []),
  (41, .goto (-36), 5, 0, 0, 0, []),
  (44, .iload_n 3, 3, 0, 0, 0, []),
  (45, .ireturn, 0, 0, 0, 0, [])]
noncomputable def e2_guestsFrom : XN := []
noncomputable def h2_guestsFrom_5 (n : Nat) (i0 : Nat) (v1 : Int32) (v2 : Int32) (v3 : Int32) (v4 : Int32) (μ : XM) : XR := arr t2_guestsFrom e2_guestsFrom 1 32 n 5 [some (xr 2 i0 0), some (xi v1), some (xi v2), some (xi v3), some (xi v4)] [] μ
set_option maxRecDepth 100000 in
theorem h2_guestsFrom_5_s (n : Nat) (i0 : Nat) (v1 : Int32) (v2 : Int32) (v3 : Int32) (v4 : Int32) (μ : XM) : h2_guestsFrom_5 (n + 1) i0 v1 v2 v3 v4 μ = (
  xite (v4 < (rI μ 2 i0 0)) (
    xite (((v1 >>> (v4 &&& 31)) &&& 1) = 1) (
      xck (xin v4 6) <|
      xite ((aI μ 2 i0 10 (Int32.toNatClampNeg v4)) < v2) (
        vI (v4 + 1) fun x1 =>
        h2_guestsFrom_5 n i0 v1 v2 v3 x1 μ) (
        vI (v3 + 1) fun x2 =>
        vI (v4 + 1) fun x3 =>
        h2_guestsFrom_5 n i0 v1 v2 x2 x3 μ)) (
      vI (v4 + 1) fun x4 =>
      h2_guestsFrom_5 n i0 v1 v2 v3 x4 μ)) (
    xri v3 μ)) := rfl
theorem h2_guestsFrom_5_0 (i0 : Nat) (v1 : Int32) (v2 : Int32) (v3 : Int32) (v4 : Int32) (μ : XM) : h2_guestsFrom_5 0 i0 v1 v2 v3 v4 μ = none := rfl
noncomputable def k2_guestsFrom (n : Nat) (i0 : Nat) (p1 : Int32) (p2 : Int32) (μ : XM) : XR :=
  vI 0 fun x1 =>
  vI 0 fun x2 =>
  h2_guestsFrom_5 n i0 p1 p2 x1 x2 μ
set_option maxRecDepth 100000 in
theorem q2_guestsFrom (n : Nat) (i0 : Nat) (p1 : Int32) (p2 : Int32) (μ : XM) : xrun t2_guestsFrom e2_guestsFrom (xrtk (some .int)) 32 n (xlo [xr 2 i0 0, xi p1, xi p2] 5) μ = k2_guestsFrom n i0 p1 p2 μ := rfl
theorem x2_guestsFrom : ∃ f : Nat → Int32 → Int32 → XM → XR, ∀ (i0 : Nat) (p1 : Int32) (p2 : Int32) (μ : XM), f i0 p1 p2 μ = k2_guestsFrom 20000 i0 p1 p2 μ := ⟨fun i0 p1 p2 μ => k2_guestsFrom 20000 i0 p1 p2 μ, fun i0 p1 p2 μ => rfl⟩
noncomputable def f2_guestsFrom : Nat → Int32 → Int32 → XM → XR := Classical.choose x2_guestsFrom
theorem f2_guestsFrom_e (i0 : Nat) (p1 : Int32) (p2 : Int32) (μ : XM) : f2_guestsFrom i0 p1 p2 μ = k2_guestsFrom 20000 i0 p1 p2 μ := Classical.choose_spec x2_guestsFrom i0 p1 p2 μ
noncomputable def F2_guestsFrom : XF := fun av μ => match av with
  | [.inr (.inr (some (t0, i0, 0))), .inl p1, .inl p2] => bif Nat.beq t0 2 then f2_guestsFrom i0 p1 p2 μ else none
  | _ => none
set_option maxRecDepth 100000 in
theorem c2_guestsFrom {X : XP} (hX : XOK X) (l : Launch) : Ctr X l y2_guestsFrom prog_4_method_17_code 5 (some .int) (xrm 1) 0 0 F2_guestsFrom :=
  Ctr_of (tab := t2_guestsFrom) (env := e2_guestsFrom) (K := 32) (N := 20000) (fl := fl2) (cl := cl2) (ll := ll2) (jl := jl2) hX mf2_guestsFrom.2.2.2 ⟨by decide +kernel, flk2, clk2, llk2, jlk2⟩
   (fun _ h => absurd h List.not_mem_nil)
   (xrm_1 (by decide)) ⟨_, _, rfl, rfl⟩ (fun av μ r μ' h => by
    unfold F2_guestsFrom at h
    split at h
    · replace h := cond_inv h; obtain ⟨hb, h⟩ := h
      obtain rfl := Nat.eq_of_beq_eq_true hb
      exact ⟨Nat.le_of_ble_eq_true rfl, (q2_guestsFrom _ _ _ _ _).trans ((f2_guestsFrom_e _ _ _ _).symm.trans h)⟩
    · cases h)
def t2_bearsAll : List XE := [(0, .iload_n 1, 1, 0, 0, 0, []),
  (1, .invokestatic 90, 1, 0, 0, 0, []),
  (4, .iload_n 2, 2, 0, 0, 0, []),
  (5, .invokestatic 90, 1, 0, 0, 0, []),
  (8, .if_icmp .eq 5, 13, 0, 0, 0, []),
  (11, .iconst 0, 0, 0, 0, 0, []),
  (12, .ireturn, 0, 0, 0, 0, []),
  (13, .iconst 0, 0, 0, 0, 0, []),
  (14, .istore_n 3, 3, 0, 0, 0, []),
  (15, .nop, 15, 0, 0, 0, []),
  (15, .iload_n 3, 3, 0, 0, 0, []),
  (16, .aload_n 0, 0, 0, 0, 0, []),
  (17, .getfield 53, 2, 0, 0, 0, []),
  (20, .if_icmp .ge 45, 65, 0, 0, 0, []),
  (23, .iload_n 2, 2, 0, 0, 0, []),
  (24, .iload_n 3, 3, 0, 0, 0, []),
  (25, .ishr, 0, 0, 0, 0, []),
  (26, .iconst 1, 0, 0, 1, 0, []),
  (27, .iand, 0, 0, 0, 0, []),
  (28, .iconst 1, 0, 0, 1, 0, []),
  (29, .if_icmp .ne 30, 59, 0, 0, 0, []),
  (32, .aload_n 0, 0, 0, 0, 0, []),
  (33, .iload_n 1, 1, 0, 0, 0, []),
  (34, .aload_n 0, 0, 0, 0, 0, []),
  (35, .getfield 28, 2, 10, 0, 0, []),
  (38, .iload_n 3, 3, 0, 0, 0, []),
  (39, .iaload, 0, 0, 0, 0, []),
  (40, .invokevirtual 96, 3, 2, 0, 0, []),
  (43, .aload_n 0, 0, 0, 0, 0, []),
  (44, .iload_n 2, 2, 0, 0, 0, []),
  (45, .aload_n 0, 0, 0, 0, 0, []),
  (46, .getfield 28, 2, 10, 0, 0, []),
  (49, .iload_n 3, 3, 0, 0, 0, []),
  (50, .iaload, 0, 0, 0, 0, []),
  (51, .invokevirtual 100, 3, 2, 0, 0, []),
  (54, .if_icmp .ge 5, 59, 0, 0, 0, []),
  (57, .iconst 0, 0, 0, 0, 0, []),
  (58, .ireturn, 0, 0, 0, 0, []),
  (59, .iinc 3 1, 3, 0, 1, 0, []),
  (62, .goto (-47), 15, 0, 0, 0, []),
  (65, .iconst 1, 0, 0, 1, 0, []),
  (66, .ireturn, 0, 0, 0, 0, [])]
noncomputable def e2_bearsAll : XN := [(90, 1, 1, 99, FJ_bitCount), (96, 1, 3, 2, F2_beltsFrom), (100, 1, 3, 2, F2_guestsFrom)]
noncomputable def h2_bearsAll_15 (n : Nat) (i0 : Nat) (v1 : Int32) (v2 : Int32) (v3 : Int32) (μ : XM) : XR := arr t2_bearsAll e2_bearsAll 2 47 n 15 [some (xr 2 i0 0), some (xi v1), some (xi v2), some (xi v3)] [] μ
set_option maxRecDepth 100000 in
theorem h2_bearsAll_15_s (n : Nat) (i0 : Nat) (v1 : Int32) (v2 : Int32) (v3 : Int32) (μ : XM) : h2_bearsAll_15 (n + 1) i0 v1 v2 v3 μ = (
  xite (v3 < (rI μ 2 i0 0)) (
    xite (((v2 >>> (v3 &&& 31)) &&& 1) = 1) (
      xck (xin v3 6) <|
      bI (f2_beltsFrom i0 v1 (aI μ 2 i0 10 (Int32.toNatClampNeg v3)) μ) fun r2 m1 =>
      xck (xin v3 6) <|
      bI (f2_guestsFrom i0 v2 (aI m1 2 i0 10 (Int32.toNatClampNeg v3)) m1) fun r4 m3 =>
      xite (r2 < r4) (
        xrb 0 m3) (
        vI (v3 + 1) fun x5 =>
        h2_bearsAll_15 n i0 v1 v2 x5 m3)) (
      vI (v3 + 1) fun x6 =>
      h2_bearsAll_15 n i0 v1 v2 x6 μ)) (
    xrb 1 μ)) := rfl
theorem h2_bearsAll_15_0 (i0 : Nat) (v1 : Int32) (v2 : Int32) (v3 : Int32) (μ : XM) : h2_bearsAll_15 0 i0 v1 v2 v3 μ = none := rfl
noncomputable def k2_bearsAll (n : Nat) (i0 : Nat) (p1 : Int32) (p2 : Int32) (μ : XM) : XR :=
  bI (fJ_bitCount p1 μ) fun r2 m1 =>
  bI (fJ_bitCount p2 m1) fun r4 m3 =>
  xite (r2 = r4) (
    vI 0 fun x5 =>
    h2_bearsAll_15 n i0 p1 p2 x5 m3) (
    xrb 0 m3)
set_option maxRecDepth 100000 in
theorem q2_bearsAll (n : Nat) (i0 : Nat) (p1 : Int32) (p2 : Int32) (μ : XM) : xrun t2_bearsAll e2_bearsAll (xrtk (some .boolean)) 47 n (xlo [xr 2 i0 0, xi p1, xi p2] 4) μ = k2_bearsAll n i0 p1 p2 μ := rfl
theorem x2_bearsAll : ∃ f : Nat → Int32 → Int32 → XM → XR, ∀ (i0 : Nat) (p1 : Int32) (p2 : Int32) (μ : XM), f i0 p1 p2 μ = k2_bearsAll 20000 i0 p1 p2 μ := ⟨fun i0 p1 p2 μ => k2_bearsAll 20000 i0 p1 p2 μ, fun i0 p1 p2 μ => rfl⟩
noncomputable def f2_bearsAll : Nat → Int32 → Int32 → XM → XR := Classical.choose x2_bearsAll
theorem f2_bearsAll_e (i0 : Nat) (p1 : Int32) (p2 : Int32) (μ : XM) : f2_bearsAll i0 p1 p2 μ = k2_bearsAll 20000 i0 p1 p2 μ := Classical.choose_spec x2_bearsAll i0 p1 p2 μ
noncomputable def F2_bearsAll : XF := fun av μ => match av with
  | [.inr (.inr (some (t0, i0, 0))), .inl p1, .inl p2] => bif Nat.beq t0 2 then f2_bearsAll i0 p1 p2 μ else none
  | _ => none
set_option maxRecDepth 100000 in
theorem c2_bearsAll {X : XP} (hX : XOK X) (l : Launch) : Ctr X l y2_bearsAll prog_4_method_15_code 4 (some .boolean) (xrm 2) 0 0 F2_bearsAll :=
  Ctr_of (tab := t2_bearsAll) (env := e2_bearsAll) (K := 47) (N := 20000) (fl := fl2) (cl := cl2) (ll := ll2) (jl := jl2) hX mf2_bearsAll.2.2.2 ⟨by decide +kernel, flk2, clk2, llk2, jlk2⟩
   (List.forall_mem_cons.mpr ⟨xcal_s (cJ_bitCount hX l) mfJ_bitCount ⟨rfl, rfl⟩ ml2_90 msJ_bitCount (xrm_ok (by omega) (by decide)) (by decide +kernel), List.forall_mem_cons.mpr ⟨xcal_v (na := 2) (c2_beltsFrom hX l) mf2_beltsFrom ⟨rfl, rfl⟩ ml2_96 mi2_beltsFrom me2_beltsFrom (xrm_ok (by omega) (by decide)) rfl (by decide) (by decide +kernel), List.forall_mem_cons.mpr ⟨xcal_v (na := 2) (c2_guestsFrom hX l) mf2_guestsFrom ⟨rfl, rfl⟩ ml2_100 mi2_guestsFrom me2_guestsFrom (xrm_ok (by omega) (by decide)) rfl (by decide) (by decide +kernel), fun _ h => absurd h List.not_mem_nil⟩⟩⟩)
   (xrm_1 (by decide)) ⟨_, _, rfl, rfl⟩ (fun av μ r μ' h => by
    unfold F2_bearsAll at h
    split at h
    · replace h := cond_inv h; obtain ⟨hb, h⟩ := h
      obtain rfl := Nat.eq_of_beq_eq_true hb
      exact ⟨Nat.le_of_ble_eq_true rfl, (q2_bearsAll _ _ _ _ _).trans ((f2_bearsAll_e _ _ _ _).symm.trans h)⟩
    · cases h)
def t3_open : List XE := [(0, .iconst 0, 0, 0, 0, 0, []),
  (1, .istore_n 2, 2, 0, 0, 0, []),
  (2, .nop, 7, 0, 0, 0, []),
  (2, .iload_n 2, 2, 0, 0, 0, []),
  (3, .bipush 9, 0, 0, 9, 0, []),
  (5, .if_icmp .gt 52, 57, 0, 0, 0, []),
  (8, .aload_n 1, 1, 0, 0, 0, []),
  (9, .invokevirtual 17, 1, 8, 0, 0, []),
  (12, .aload_n 1, 1, 0, 0, 0, []),
  (13, .iload_n 2, 2, 0, 0, 0, []),
  (14, .putfield 22, 8, 6, 0, 0, []),
  (17, .iconst 0, 0, 0, 0, 0, []),
  (18, .istore_n 3, 3, 0, 0, 0, []),
  (19, .nop, 15, 0, 0, 0, []),
  (19, .iload_n 3, 3, 0, 0, 0, []),
  (20, .bipush 21, 0, 0, 21, 0, []),
  (22, .if_icmp .ge 29, 51, 0, 0, 0, []),
  (25, .aload_n 0, 0, 0, 0, 0, []),
  (26, .getfield 13, 3, 0, 0, 0, []),
  (29, .iload_n 2, 2, 0, 0, 0, []),
  (30, .bipush 21, 0, 0, 21, 0, []),
  (32, .imul, 0, 0, 0, 0, []),
  (33, .iload_n 3, 3, 0, 0, 0, []),
  (34, .iadd, 0, 0, 0, 0, []),
  (35, .aload_n 1, 1, 0, 0, 0, []),
  (36, .getfield 26, 8, 7, 0, 0, []),
  (39, .iastore, 0, 0, 0, 0, []),
  (40, .aload_n 1, 1, 0, 0, 0, []),
  (41, .invokevirtual 29, 1, 8, 0, 0, []),
  (44, .pop, 0, 0, 0, 0, []),
  (45, .iinc 3 1, 3, 0, 1, 0, []),
  (48, .goto (-29), 19, 0, 0, 0, []),
  (51, .iinc 2 1, 2, 0, 1, 0, []),
  (54, .goto (-52), 2, 0, 0, 0, []),
  (57, .return_, 0, 0, 0, 0, [])]
noncomputable def e3_open : XN := [(17, 0, 1, 8, F8_begin), (29, 1, 1, 8, F8_pass)]
noncomputable def h3_open_2 (n : Nat) (i1 : Nat) (v2 : Int32) (μ : XM) : XR := arr t3_open e3_open 0 40 n 2 [some (xr 3 0 0), some (xr 8 i1 0), some (xi v2), none] [] μ
noncomputable def h3_open_19 (n : Nat) (i1 : Nat) (v2 : Int32) (v3 : Int32) (μ : XM) : XR := arr t3_open e3_open 0 40 n 19 [some (xr 3 0 0), some (xr 8 i1 0), some (xi v2), some (xi v3)] [] μ
set_option maxRecDepth 100000 in
theorem h3_open_2_s (n : Nat) (i1 : Nat) (v2 : Int32) (μ : XM) : h3_open_2 (n + 1) i1 v2 μ = (
  xite ((9 : Int32) < v2) (
    xrv μ) (
    bV (f8_begin i1 μ) fun m1 =>
    mS (sI m1 8 i1 6 v2) fun m2 =>
    vI 0 fun x3 =>
    h3_open_19 n i1 v2 x3 m2)) := rfl
theorem h3_open_2_0 (i1 : Nat) (v2 : Int32) (μ : XM) : h3_open_2 0 i1 v2 μ = none := rfl
set_option maxRecDepth 100000 in
theorem h3_open_19_s (n : Nat) (i1 : Nat) (v2 : Int32) (v3 : Int32) (μ : XM) : h3_open_19 (n + 1) i1 v2 v3 μ = (
  xite (v3 < 21) (
    xck (xin ((v2 * 21) + v3) 210 && true) <|
    mS (pI μ 3 0 0 (Int32.toNatClampNeg ((v2 * 21) + v3)) (rI μ 8 i1 7)) fun m1 =>
    bI (f8_pass i1 m1) fun r3 m2 =>
    vI (v3 + 1) fun x4 =>
    h3_open_19 n i1 v2 x4 m2) (
    vI (v2 + 1) fun x5 =>
    h3_open_2 n i1 x5 μ)) := rfl
theorem h3_open_19_0 (i1 : Nat) (v2 : Int32) (v3 : Int32) (μ : XM) : h3_open_19 0 i1 v2 v3 μ = none := rfl
noncomputable def k3_open (n : Nat) (i1 : Nat) (μ : XM) : XR :=
  vI 0 fun x1 =>
  h3_open_2 n i1 x1 μ
set_option maxRecDepth 100000 in
theorem q3_open (n : Nat) (i1 : Nat) (μ : XM) : xrun t3_open e3_open (xrtk none) 40 n (xlo [xr 3 0 0, xr 8 i1 0] 4) μ = k3_open n i1 μ := rfl
theorem x3_open : ∃ f : Nat → XM → XR, ∀ (i1 : Nat) (μ : XM), f i1 μ = k3_open 20000 i1 μ := ⟨fun i1 μ => k3_open 20000 i1 μ, fun i1 μ => rfl⟩
noncomputable def f3_open : Nat → XM → XR := Classical.choose x3_open
theorem f3_open_e (i1 : Nat) (μ : XM) : f3_open i1 μ = k3_open 20000 i1 μ := Classical.choose_spec x3_open i1 μ
noncomputable def F3_open : XF := fun av μ => match av with
  | [.inr (.inr (some (t0, i0, 0))), .inr (.inr (some (t1, i1, 0)))] => bif Nat.beq t0 3 && Nat.beq i0 0 && Nat.beq t1 8 then f3_open i1 μ else none
  | _ => none
set_option maxRecDepth 100000 in
theorem c3_open {X : XP} (hX : XOK X) (l : Launch) : Ctr X l y3_open prog_5_method_2_code 4 none (xrm 5) 0 0 F3_open :=
  Ctr_of (tab := t3_open) (env := e3_open) (K := 40) (N := 20000) (fl := fl3) (cl := cl3) (ll := ll3) (jl := jl3) hX mf3_open.2.2.2 ⟨by decide +kernel, flk3, clk3, llk3, jlk3⟩
   (List.forall_mem_cons.mpr ⟨xcal_v (na := 0) (c8_begin hX l) mf8_begin ⟨rfl, rfl⟩ ml3_17 mi8_begin me8_begin (xrm_ok (by omega) (by decide)) rfl (by decide) (by decide +kernel), List.forall_mem_cons.mpr ⟨xcal_v (na := 0) (c8_pass hX l) mf8_pass ⟨rfl, rfl⟩ ml3_29 mi8_pass me8_pass (xrm_ok (by omega) (by decide)) rfl (by decide) (by decide +kernel), fun _ h => absurd h List.not_mem_nil⟩⟩)
   (xrm_1 (by decide)) ⟨_, _, rfl, rfl⟩ (fun av μ r μ' h => by
    unfold F3_open at h
    split at h
    · replace h := cond_inv h; obtain ⟨hb, h⟩ := h
      simp only [Bool.and_eq_true] at hb
      obtain ⟨⟨g0, g1⟩, g2⟩ := hb
      obtain rfl := Nat.eq_of_beq_eq_true g0
      obtain rfl := Nat.eq_of_beq_eq_true g1
      obtain rfl := Nat.eq_of_beq_eq_true g2
      exact ⟨Nat.le_of_ble_eq_true rfl, (q3_open _ _ _).trans ((f3_open_e _ _).symm.trans h)⟩
    · cases h)
def t3_depthBehind : List XE := [(0, .iload_n 1, 1, 0, 0, 0, []),
  (1, .ifCond .lt 23, 24, 0, 0, 0, []),
  (4, .iload_n 1, 1, 0, 0, 0, []),
  (5, .bipush 9, 0, 0, 9, 0, []),
  (7, .if_icmp .gt 17, 24, 0, 0, 0, []),
  (10, .iload_n 2, 2, 0, 0, 0, []),
  (11, .ifCond .lt 13, 24, 0, 0, 0, []),
  (14, .iload_n 2, 2, 0, 0, 0, []),
  (15, .bipush 21, 0, 0, 21, 0, []),
  (17, .if_icmp .ge 7, 24, 0, 0, 0, []),
  (20, .iconst 1, 0, 0, 1, 0, []),
  (21, .goto 4, 25, 0, 0, 0, []),
  (24, .iconst 0, 0, 0, 0, 0, []),
  (25, .nop, 7, 0, 0, 0, []),
  (25, .istore_n 3, 3, 0, 0, 0, []),
  (26, .iload_n 3, 3, 0, 0, 0, []),
  (27, .ifCond .eq 17, 44, 0, 0, 0, []),
  (30, .aload_n 0, 0, 0, 0, 0, []),
  (31, .getfield 13, 3, 0, 0, 0, []),
  (34, .iload_n 1, 1, 0, 0, 0, []),
  (35, .bipush 21, 0, 0, 21, 0, []),
  (37, .imul, 0, 0, 0, 0, []),
  (38, .iload_n 2, 2, 0, 0, 0, []),
  (39, .iadd, 0, 0, 0, 0, []),
  (40, .iaload, 0, 0, 0, 0, []),
  (41, .goto 4, 45, 0, 0, 0, []),
  (44, .iconst (-1), 0, 0, (-1), 0, []),
  (45, .ireturn, 0, 0, 0, 0, [])]
noncomputable def e3_depthBehind : XN := []
noncomputable def h3_depthBehind_25 (n : Nat) (v1 : Int32) (v2 : Int32) (s0 : Int32) (μ : XM) : XR := arr t3_depthBehind e3_depthBehind 1 33 n 25 [some (xr 3 0 0), some (xi v1), some (xi v2), none] [xi s0] μ
set_option maxRecDepth 100000 in
theorem h3_depthBehind_25_s (n : Nat) (v1 : Int32) (v2 : Int32) (s0 : Int32) (μ : XM) : h3_depthBehind_25 (n + 1) v1 v2 s0 μ = (
  vI s0 fun x1 =>
  xite (x1 = 0) (
    xri (-1) μ) (
    xck (xin ((v1 * 21) + v2) 210) <|
    xri (aI μ 3 0 0 (Int32.toNatClampNeg ((v1 * 21) + v2))) μ)) := rfl
theorem h3_depthBehind_25_0 (v1 : Int32) (v2 : Int32) (s0 : Int32) (μ : XM) : h3_depthBehind_25 0 v1 v2 s0 μ = none := rfl
noncomputable def k3_depthBehind (n : Nat) (p1 : Int32) (p2 : Int32) (μ : XM) : XR :=
  xite (p1 < 0) (
    h3_depthBehind_25 n p1 p2 0 μ) (
    xite ((9 : Int32) < p1) (
      h3_depthBehind_25 n p1 p2 0 μ) (
      xite (p2 < 0) (
        h3_depthBehind_25 n p1 p2 0 μ) (
        xite (p2 < 21) (
          h3_depthBehind_25 n p1 p2 1 μ) (
          h3_depthBehind_25 n p1 p2 0 μ))))
set_option maxRecDepth 100000 in
theorem q3_depthBehind (n : Nat) (p1 : Int32) (p2 : Int32) (μ : XM) : xrun t3_depthBehind e3_depthBehind (xrtk (some .int)) 33 n (xlo [xr 3 0 0, xi p1, xi p2] 4) μ = k3_depthBehind n p1 p2 μ := rfl
theorem x3_depthBehind : ∃ f : Int32 → Int32 → XM → XR, ∀ (p1 : Int32) (p2 : Int32) (μ : XM), f p1 p2 μ = k3_depthBehind 20000 p1 p2 μ := ⟨fun p1 p2 μ => k3_depthBehind 20000 p1 p2 μ, fun p1 p2 μ => rfl⟩
noncomputable def f3_depthBehind : Int32 → Int32 → XM → XR := Classical.choose x3_depthBehind
theorem f3_depthBehind_e (p1 : Int32) (p2 : Int32) (μ : XM) : f3_depthBehind p1 p2 μ = k3_depthBehind 20000 p1 p2 μ := Classical.choose_spec x3_depthBehind p1 p2 μ
noncomputable def F3_depthBehind : XF := fun av μ => match av with
  | [.inr (.inr (some (t0, i0, 0))), .inl p1, .inl p2] => bif Nat.beq t0 3 && Nat.beq i0 0 then f3_depthBehind p1 p2 μ else none
  | _ => none
set_option maxRecDepth 100000 in
theorem c3_depthBehind {X : XP} (hX : XOK X) (l : Launch) : Ctr X l y3_depthBehind prog_5_method_3_code 4 (some .int) (xrm 1) 0 0 F3_depthBehind :=
  Ctr_of (tab := t3_depthBehind) (env := e3_depthBehind) (K := 33) (N := 20000) (fl := fl3) (cl := cl3) (ll := ll3) (jl := jl3) hX mf3_depthBehind.2.2.2 ⟨by decide +kernel, flk3, clk3, llk3, jlk3⟩
   (fun _ h => absurd h List.not_mem_nil)
   (xrm_1 (by decide)) ⟨_, _, rfl, rfl⟩ (fun av μ r μ' h => by
    unfold F3_depthBehind at h
    split at h
    · replace h := cond_inv h; obtain ⟨hb, h⟩ := h
      simp only [Bool.and_eq_true] at hb
      obtain ⟨g0, g1⟩ := hb
      obtain rfl := Nat.eq_of_beq_eq_true g0
      obtain rfl := Nat.eq_of_beq_eq_true g1
      exact ⟨Nat.le_of_ble_eq_true rfl, (q3_depthBehind _ _ _ _).trans ((f3_depthBehind_e _ _ _).symm.trans h)⟩
    · cases h)
def t9_allows : List XE := [(0, .iconst 0, 0, 0, 0, 0, []),
  (1, .istore_n 3, 3, 0, 0, 0, []),
  (2, .nop, 15, 0, 0, 0, []),
  (2, .iload_n 3, 3, 0, 0, 0, []),
  (3, .aload_n 0, 0, 0, 0, 0, []),
  (4, .getfield 16, 9, 0, 0, 0, []),
  (7, .if_icmp .ge 37, 44, 0, 0, 0, []),
  (10, .iload_n 3, 3, 0, 0, 0, []),
  (11, .bipush 8, 0, 0, 8, 0, []),
  (13, .if_icmp .ge 31, 44, 0, 0, 0, []),
  (16, .aload_n 1, 1, 0, 0, 0, []),
  (17, .iload_n 2, 2, 0, 0, 0, []),
  (18, .aload_n 0, 0, 0, 0, 0, []),
  (19, .getfield 13, 9, 2, 0, 0, []),
  (22, .iload_n 3, 3, 0, 0, 0, []),
  (23, .iaload, 0, 0, 0, 0, []),
  (24, .invokevirtual 26, 3, 3, 0, 0, []),
  (27, .aload_n 0, 0, 0, 0, 0, []),
  (28, .getfield 9, 9, 1, 0, 0, []),
  (31, .iload_n 3, 3, 0, 0, 0, []),
  (32, .iaload, 0, 0, 0, 0, []),
  (33, .if_icmp .eq 5, 38, 0, 0, 0, []),
  (36, .iconst 0, 0, 0, 0, 0, []),
  (37, .ireturn, 0, 0, 0, 0, []),
  (38, .iinc 3 1, 3, 0, 1, 0, []),
  (41, .goto (-39), 2, 0, 0, 0, []),
  (44, .iconst 1, 0, 0, 1, 0, []),
  (45, .ireturn, 0, 0, 0, 0, [])]
noncomputable def e9_allows : XN := [(26, 1, 3, 3, F3_depthBehind)]
noncomputable def h9_allows_2 (n : Nat) (i0 : Nat) (v2 : Int32) (v3 : Int32) (μ : XM) : XR := arr t9_allows e9_allows 2 33 n 2 [some (xr 9 i0 0), some (xr 3 0 0), some (xi v2), some (xi v3)] [] μ
set_option maxRecDepth 100000 in
theorem h9_allows_2_s (n : Nat) (i0 : Nat) (v2 : Int32) (v3 : Int32) (μ : XM) : h9_allows_2 (n + 1) i0 v2 v3 μ = (
  xite (v3 < (rI μ 9 i0 0)) (
    xite (v3 < 8) (
      xck (xin v3 8) <|
      bI (f3_depthBehind v2 (aI μ 9 i0 2 (Int32.toNatClampNeg v3)) μ) fun r2 m1 =>
      xck (xin v3 8) <|
      xite (r2 = (aI m1 9 i0 1 (Int32.toNatClampNeg v3))) (
        vI (v3 + 1) fun x3 =>
        h9_allows_2 n i0 v2 x3 m1) (
        xrb 0 m1)) (
      xrb 1 μ)) (
    xrb 1 μ)) := rfl
theorem h9_allows_2_0 (i0 : Nat) (v2 : Int32) (v3 : Int32) (μ : XM) : h9_allows_2 0 i0 v2 v3 μ = none := rfl
noncomputable def k9_allows (n : Nat) (i0 : Nat) (p2 : Int32) (μ : XM) : XR :=
  vI 0 fun x1 =>
  h9_allows_2 n i0 p2 x1 μ
set_option maxRecDepth 100000 in
theorem q9_allows (n : Nat) (i0 : Nat) (p2 : Int32) (μ : XM) : xrun t9_allows e9_allows (xrtk (some .boolean)) 33 n (xlo [xr 9 i0 0, xr 3 0 0, xi p2] 4) μ = k9_allows n i0 p2 μ := rfl
theorem x9_allows : ∃ f : Nat → Int32 → XM → XR, ∀ (i0 : Nat) (p2 : Int32) (μ : XM), f i0 p2 μ = k9_allows 20000 i0 p2 μ := ⟨fun i0 p2 μ => k9_allows 20000 i0 p2 μ, fun i0 p2 μ => rfl⟩
noncomputable def f9_allows : Nat → Int32 → XM → XR := Classical.choose x9_allows
theorem f9_allows_e (i0 : Nat) (p2 : Int32) (μ : XM) : f9_allows i0 p2 μ = k9_allows 20000 i0 p2 μ := Classical.choose_spec x9_allows i0 p2 μ
noncomputable def F9_allows : XF := fun av μ => match av with
  | [.inr (.inr (some (t0, i0, 0))), .inr (.inr (some (t1, i1, 0))), .inl p2] => bif Nat.beq t0 9 && Nat.beq t1 3 && Nat.beq i1 0 then f9_allows i0 p2 μ else none
  | _ => none
set_option maxRecDepth 100000 in
theorem c9_allows {X : XP} (hX : XOK X) (l : Launch) : Ctr X l y9_allows prog_11_method_5_code 4 (some .boolean) (xrm 2) 0 0 F9_allows :=
  Ctr_of (tab := t9_allows) (env := e9_allows) (K := 33) (N := 20000) (fl := fl9) (cl := cl9) (ll := ll9) (jl := jl9) hX mf9_allows.2.2.2 ⟨by decide +kernel, flk9, clk9, llk9, jlk9⟩
   (List.forall_mem_cons.mpr ⟨xcal_v (na := 2) (c3_depthBehind hX l) mf3_depthBehind ⟨rfl, rfl⟩ ml9_26 mi3_depthBehind me3_depthBehind (xrm_ok (by omega) (by decide)) rfl (by decide) (by decide +kernel), fun _ h => absurd h List.not_mem_nil⟩)
   (xrm_1 (by decide)) ⟨_, _, rfl, rfl⟩ (fun av μ r μ' h => by
    unfold F9_allows at h
    split at h
    · replace h := cond_inv h; obtain ⟨hb, h⟩ := h
      simp only [Bool.and_eq_true] at hb
      obtain ⟨⟨g0, g1⟩, g2⟩ := hb
      obtain rfl := Nat.eq_of_beq_eq_true g0
      obtain rfl := Nat.eq_of_beq_eq_true g1
      obtain rfl := Nat.eq_of_beq_eq_true g2
      exact ⟨Nat.le_of_ble_eq_true rfl, (q9_allows _ _ _ _).trans ((f9_allows_e _ _ _).symm.trans h)⟩
    · cases h)
def t3_possible : List XE := [(0, .iconst 0, 0, 0, 0, 0, []),
  (1, .istore_n 2, 2, 0, 0, 0, []),
  (2, .iconst 0, 0, 0, 0, 0, []),
  (3, .istore_n 3, 3, 0, 0, 0, []),
  (4, .nop, 15, 0, 0, 0, []),
  (4, .iload_n 3, 3, 0, 0, 0, []),
  (5, .bipush 9, 0, 0, 9, 0, []),
  (7, .if_icmp .gt 24, 31, 0, 0, 0, []),
  (10, .aload_n 1, 1, 0, 0, 0, []),
  (11, .aload_n 0, 0, 0, 0, 0, []),
  (12, .iload_n 3, 3, 0, 0, 0, []),
  (13, .invokevirtual 33, 3, 9, 0, 0, []),
  (16, .ifCond .eq 9, 25, 0, 0, 0, []),
  (19, .iload_n 2, 2, 0, 0, 0, []),
  (20, .iconst 1, 0, 0, 1, 0, []),
  (21, .iload_n 3, 3, 0, 0, 0, []),
  (22, .ishl, 0, 0, 0, 0, []),
  (23, .ior, 0, 0, 0, 0, []),
  (24, .istore_n 2, 2, 0, 0, 0, []),
  (25, .iinc 3 1, 3, 0, 1, 0, []),
  (28, .goto (-24), 4, 0, 0, 0, []),
  (31, .iload_n 2, 2, 0, 0, 0, []),
  (32, .ireturn, 0, 0, 0, 0, [])]
noncomputable def e3_possible : XN := [(33, 1, 3, 9, F9_allows)]
noncomputable def h3_possible_4 (n : Nat) (i1 : Nat) (v2 : Int32) (v3 : Int32) (μ : XM) : XR := arr t3_possible e3_possible 1 28 n 4 [some (xr 3 0 0), some (xr 9 i1 0), some (xi v2), some (xi v3)] [] μ
set_option maxRecDepth 100000 in
theorem h3_possible_4_s (n : Nat) (i1 : Nat) (v2 : Int32) (v3 : Int32) (μ : XM) : h3_possible_4 (n + 1) i1 v2 v3 μ = (
  xite ((9 : Int32) < v3) (
    xri v2 μ) (
    bI (f9_allows i1 v3 μ) fun r2 m1 =>
    xite (r2 = 0) (
      vI (v3 + 1) fun x3 =>
      h3_possible_4 n i1 v2 x3 m1) (
      vI (v2 ||| (1 <<< (v3 &&& 31))) fun x4 =>
      vI (v3 + 1) fun x5 =>
      h3_possible_4 n i1 x4 x5 m1))) := rfl
theorem h3_possible_4_0 (i1 : Nat) (v2 : Int32) (v3 : Int32) (μ : XM) : h3_possible_4 0 i1 v2 v3 μ = none := rfl
noncomputable def k3_possible (n : Nat) (i1 : Nat) (μ : XM) : XR :=
  vI 0 fun x1 =>
  vI 0 fun x2 =>
  h3_possible_4 n i1 x1 x2 μ
set_option maxRecDepth 100000 in
theorem q3_possible (n : Nat) (i1 : Nat) (μ : XM) : xrun t3_possible e3_possible (xrtk (some .int)) 28 n (xlo [xr 3 0 0, xr 9 i1 0] 4) μ = k3_possible n i1 μ := rfl
theorem x3_possible : ∃ f : Nat → XM → XR, ∀ (i1 : Nat) (μ : XM), f i1 μ = k3_possible 20000 i1 μ := ⟨fun i1 μ => k3_possible 20000 i1 μ, fun i1 μ => rfl⟩
noncomputable def f3_possible : Nat → XM → XR := Classical.choose x3_possible
theorem f3_possible_e (i1 : Nat) (μ : XM) : f3_possible i1 μ = k3_possible 20000 i1 μ := Classical.choose_spec x3_possible i1 μ
noncomputable def F3_possible : XF := fun av μ => match av with
  | [.inr (.inr (some (t0, i0, 0))), .inr (.inr (some (t1, i1, 0)))] => bif Nat.beq t0 3 && Nat.beq i0 0 && Nat.beq t1 9 then f3_possible i1 μ else none
  | _ => none
set_option maxRecDepth 100000 in
theorem c3_possible {X : XP} (hX : XOK X) (l : Launch) : Ctr X l y3_possible prog_5_method_4_code 4 (some .int) (xrm 3) 0 0 F3_possible :=
  Ctr_of (tab := t3_possible) (env := e3_possible) (K := 28) (N := 20000) (fl := fl3) (cl := cl3) (ll := ll3) (jl := jl3) hX mf3_possible.2.2.2 ⟨by decide +kernel, flk3, clk3, llk3, jlk3⟩
   (List.forall_mem_cons.mpr ⟨xcal_v (na := 2) (c9_allows hX l) mf9_allows ⟨rfl, rfl⟩ ml3_33 mi9_allows me9_allows (xrm_ok (by omega) (by decide)) rfl (by decide) (by decide +kernel), fun _ h => absurd h List.not_mem_nil⟩)
   (xrm_1 (by decide)) ⟨_, _, rfl, rfl⟩ (fun av μ r μ' h => by
    unfold F3_possible at h
    split at h
    · replace h := cond_inv h; obtain ⟨hb, h⟩ := h
      simp only [Bool.and_eq_true] at hb
      obtain ⟨⟨g0, g1⟩, g2⟩ := hb
      obtain rfl := Nat.eq_of_beq_eq_true g0
      obtain rfl := Nat.eq_of_beq_eq_true g1
      obtain rfl := Nat.eq_of_beq_eq_true g2
      exact ⟨Nat.le_of_ble_eq_true rfl, (q3_possible _ _ _).trans ((f3_possible_e _ _).symm.trans h)⟩
    · cases h)
def t3_manyAsDeep : List XE := [(0, .iconst 0, 0, 0, 0, 0, []),
  (1, .istore 4, 4, 0, 0, 0, []),
  (3, .iconst 0, 0, 0, 0, 0, []),
  (4, .istore 5, 5, 0, 0, 0, []),
  (6, .nop, 63, 0, 0, 0, []),
  (6, .iload 5, 5, 0, 0, 0, []),
  (8, .bipush 9, 0, 0, 9, 0, []),
  (10, .if_icmp .gt 33, 43, 0, 0, 0, []),
  (13, .iload_n 1, 1, 0, 0, 0, []),
  (14, .iload 5, 5, 0, 0, 0, []),
  (16, .ishr, 0, 0, 0, 0, []),
  (17, .iconst 1, 0, 0, 1, 0, []),
  (18, .iand, 0, 0, 0, 0, []),
  (19, .iconst 1, 0, 0, 1, 0, []),
  (20, .if_icmp .ne 17, 37, 0, 0, 0, []),
  (23, .aload_n 0, 0, 0, 0, 0, []),
  (24, .iload 5, 5, 0, 0, 0, []),
  (26, .iload_n 2, 2, 0, 0, 0, []),
  (27, .invokevirtual 51, 3, 3, 0, 0, []),
  (30, .iload_n 3, 3, 0, 0, 0, []),
  (31, .if_icmp .ne 6, 37, 0, 0, 0, []),
  (34, .iinc 4 1, 4, 0, 1, 0, []),
  (37, .iinc 5 1, 5, 0, 1, 0, []),
  (40, .goto (-34), 6, 0, 0, 0, []),
  (43, .iload 4, 4, 0, 0, 0, []),
  (45, .ireturn, 0, 0, 0, 0, [])]
noncomputable def e3_manyAsDeep : XN := [(51, 1, 3, 3, F3_depthBehind)]
noncomputable def h3_manyAsDeep_6 (n : Nat) (v1 : Int32) (v2 : Int32) (v3 : Int32) (v4 : Int32) (v5 : Int32) (μ : XM) : XR := arr t3_manyAsDeep e3_manyAsDeep 1 31 n 6 [some (xr 3 0 0), some (xi v1), some (xi v2), some (xi v3), some (xi v4), some (xi v5)] [] μ
set_option maxRecDepth 100000 in
theorem h3_manyAsDeep_6_s (n : Nat) (v1 : Int32) (v2 : Int32) (v3 : Int32) (v4 : Int32) (v5 : Int32) (μ : XM) : h3_manyAsDeep_6 (n + 1) v1 v2 v3 v4 v5 μ = (
  xite ((9 : Int32) < v5) (
    xri v4 μ) (
    xite (((v1 >>> (v5 &&& 31)) &&& 1) = 1) (
      bI (f3_depthBehind v5 v2 μ) fun r2 m1 =>
      xite (r2 = v3) (
        vI (v4 + 1) fun x3 =>
        vI (v5 + 1) fun x4 =>
        h3_manyAsDeep_6 n v1 v2 v3 x3 x4 m1) (
        vI (v5 + 1) fun x5 =>
        h3_manyAsDeep_6 n v1 v2 v3 v4 x5 m1)) (
      vI (v5 + 1) fun x6 =>
      h3_manyAsDeep_6 n v1 v2 v3 v4 x6 μ))) := rfl
theorem h3_manyAsDeep_6_0 (v1 : Int32) (v2 : Int32) (v3 : Int32) (v4 : Int32) (v5 : Int32) (μ : XM) : h3_manyAsDeep_6 0 v1 v2 v3 v4 v5 μ = none := rfl
noncomputable def k3_manyAsDeep (n : Nat) (p1 : Int32) (p2 : Int32) (p3 : Int32) (μ : XM) : XR :=
  vI 0 fun x1 =>
  vI 0 fun x2 =>
  h3_manyAsDeep_6 n p1 p2 p3 x1 x2 μ
set_option maxRecDepth 100000 in
theorem q3_manyAsDeep (n : Nat) (p1 : Int32) (p2 : Int32) (p3 : Int32) (μ : XM) : xrun t3_manyAsDeep e3_manyAsDeep (xrtk (some .int)) 31 n (xlo [xr 3 0 0, xi p1, xi p2, xi p3] 6) μ = k3_manyAsDeep n p1 p2 p3 μ := rfl
theorem x3_manyAsDeep : ∃ f : Int32 → Int32 → Int32 → XM → XR, ∀ (p1 : Int32) (p2 : Int32) (p3 : Int32) (μ : XM), f p1 p2 p3 μ = k3_manyAsDeep 20000 p1 p2 p3 μ := ⟨fun p1 p2 p3 μ => k3_manyAsDeep 20000 p1 p2 p3 μ, fun p1 p2 p3 μ => rfl⟩
noncomputable def f3_manyAsDeep : Int32 → Int32 → Int32 → XM → XR := Classical.choose x3_manyAsDeep
theorem f3_manyAsDeep_e (p1 : Int32) (p2 : Int32) (p3 : Int32) (μ : XM) : f3_manyAsDeep p1 p2 p3 μ = k3_manyAsDeep 20000 p1 p2 p3 μ := Classical.choose_spec x3_manyAsDeep p1 p2 p3 μ
noncomputable def F3_manyAsDeep : XF := fun av μ => match av with
  | [.inr (.inr (some (t0, i0, 0))), .inl p1, .inl p2, .inl p3] => bif Nat.beq t0 3 && Nat.beq i0 0 then f3_manyAsDeep p1 p2 p3 μ else none
  | _ => none
set_option maxRecDepth 100000 in
theorem c3_manyAsDeep {X : XP} (hX : XOK X) (l : Launch) : Ctr X l y3_manyAsDeep prog_5_method_7_code 6 (some .int) (xrm 2) 0 0 F3_manyAsDeep :=
  Ctr_of (tab := t3_manyAsDeep) (env := e3_manyAsDeep) (K := 31) (N := 20000) (fl := fl3) (cl := cl3) (ll := ll3) (jl := jl3) hX mf3_manyAsDeep.2.2.2 ⟨by decide +kernel, flk3, clk3, llk3, jlk3⟩
   (List.forall_mem_cons.mpr ⟨xcal_v (na := 2) (c3_depthBehind hX l) mf3_depthBehind ⟨rfl, rfl⟩ ml3_51 mi3_depthBehind me3_depthBehind (xrm_ok (by omega) (by decide)) rfl (by decide) (by decide +kernel), fun _ h => absurd h List.not_mem_nil⟩)
   (xrm_1 (by decide)) ⟨_, _, rfl, rfl⟩ (fun av μ r μ' h => by
    unfold F3_manyAsDeep at h
    split at h
    · replace h := cond_inv h; obtain ⟨hb, h⟩ := h
      simp only [Bool.and_eq_true] at hb
      obtain ⟨g0, g1⟩ := hb
      obtain rfl := Nat.eq_of_beq_eq_true g0
      obtain rfl := Nat.eq_of_beq_eq_true g1
      exact ⟨Nat.le_of_ble_eq_true rfl, (q3_manyAsDeep _ _ _ _ _).trans ((f3_manyAsDeep_e _ _ _ _).symm.trans h)⟩
    · cases h)
def t3_mostAlike : List XE := [(0, .iconst 0, 0, 0, 0, 0, []),
  (1, .istore_n 3, 3, 0, 0, 0, []),
  (2, .iconst 0, 0, 0, 0, 0, []),
  (3, .istore 4, 4, 0, 0, 0, []),
  (5, .nop, 31, 0, 0, 0, []),
  (5, .iload 4, 4, 0, 0, 0, []),
  (7, .bipush 9, 0, 0, 9, 0, []),
  (9, .if_icmp .gt 37, 46, 0, 0, 0, []),
  (12, .iload_n 1, 1, 0, 0, 0, []),
  (13, .iload 4, 4, 0, 0, 0, []),
  (15, .ishr, 0, 0, 0, 0, []),
  (16, .iconst 1, 0, 0, 1, 0, []),
  (17, .iand, 0, 0, 0, 0, []),
  (18, .iconst 1, 0, 0, 1, 0, []),
  (19, .if_icmp .ne 21, 40, 0, 0, 0, []),
  (22, .iload_n 3, 3, 0, 0, 0, []),
  (23, .aload_n 0, 0, 0, 0, 0, []),
  (24, .iload_n 1, 1, 0, 0, 0, []),
  (25, .iload_n 2, 2, 0, 0, 0, []),
  (26, .aload_n 0, 0, 0, 0, 0, []),
  (27, .iload 4, 4, 0, 0, 0, []),
  (29, .iload_n 2, 2, 0, 0, 0, []),
  (30, .invokevirtual 51, 3, 3, 0, 0, []),
  (33, .invokevirtual 54, 4, 3, 0, 0, []),
  (36, .invokestatic 58, 0, 1, 0, 0, []),
  (39, .istore_n 3, 3, 0, 0, 0, []),
  (40, .iinc 4 1, 4, 0, 1, 0, []),
  (43, .goto (-38), 5, 0, 0, 0, []),
  (46, .iload_n 3, 3, 0, 0, 0, []),
  (47, .ireturn, 0, 0, 0, 0, [])]
noncomputable def e3_mostAlike : XN := [(51, 1, 3, 3, F3_depthBehind), (54, 1, 4, 3, F3_manyAsDeep)]
noncomputable def h3_mostAlike_5 (n : Nat) (v1 : Int32) (v2 : Int32) (v3 : Int32) (v4 : Int32) (μ : XM) : XR := arr t3_mostAlike e3_mostAlike 1 35 n 5 [some (xr 3 0 0), some (xi v1), some (xi v2), some (xi v3), some (xi v4)] [] μ
set_option maxRecDepth 100000 in
theorem h3_mostAlike_5_s (n : Nat) (v1 : Int32) (v2 : Int32) (v3 : Int32) (v4 : Int32) (μ : XM) : h3_mostAlike_5 (n + 1) v1 v2 v3 v4 μ = (
  xite ((9 : Int32) < v4) (
    xri v3 μ) (
    xite (((v1 >>> (v4 &&& 31)) &&& 1) = 1) (
      bI (f3_depthBehind v4 v2 μ) fun r2 m1 =>
      bI (f3_manyAsDeep v1 v2 r2 m1) fun r4 m3 =>
      vI (if v3 < r4 then r4 else v3) fun x5 =>
      vI (v4 + 1) fun x6 =>
      h3_mostAlike_5 n v1 v2 x5 x6 m3) (
      vI (v4 + 1) fun x7 =>
      h3_mostAlike_5 n v1 v2 v3 x7 μ))) := rfl
theorem h3_mostAlike_5_0 (v1 : Int32) (v2 : Int32) (v3 : Int32) (v4 : Int32) (μ : XM) : h3_mostAlike_5 0 v1 v2 v3 v4 μ = none := rfl
noncomputable def k3_mostAlike (n : Nat) (p1 : Int32) (p2 : Int32) (μ : XM) : XR :=
  vI 0 fun x1 =>
  vI 0 fun x2 =>
  h3_mostAlike_5 n p1 p2 x1 x2 μ
set_option maxRecDepth 100000 in
theorem q3_mostAlike (n : Nat) (p1 : Int32) (p2 : Int32) (μ : XM) : xrun t3_mostAlike e3_mostAlike (xrtk (some .int)) 35 n (xlo [xr 3 0 0, xi p1, xi p2] 5) μ = k3_mostAlike n p1 p2 μ := rfl
theorem x3_mostAlike : ∃ f : Int32 → Int32 → XM → XR, ∀ (p1 : Int32) (p2 : Int32) (μ : XM), f p1 p2 μ = k3_mostAlike 20000 p1 p2 μ := ⟨fun p1 p2 μ => k3_mostAlike 20000 p1 p2 μ, fun p1 p2 μ => rfl⟩
noncomputable def f3_mostAlike : Int32 → Int32 → XM → XR := Classical.choose x3_mostAlike
theorem f3_mostAlike_e (p1 : Int32) (p2 : Int32) (μ : XM) : f3_mostAlike p1 p2 μ = k3_mostAlike 20000 p1 p2 μ := Classical.choose_spec x3_mostAlike p1 p2 μ
noncomputable def F3_mostAlike : XF := fun av μ => match av with
  | [.inr (.inr (some (t0, i0, 0))), .inl p1, .inl p2] => bif Nat.beq t0 3 && Nat.beq i0 0 then f3_mostAlike p1 p2 μ else none
  | _ => none
set_option maxRecDepth 100000 in
theorem c3_mostAlike {X : XP} (hX : XOK X) (l : Launch) : Ctr X l y3_mostAlike prog_5_method_6_code 5 (some .int) (xrm 3) 0 0 F3_mostAlike :=
  Ctr_of (tab := t3_mostAlike) (env := e3_mostAlike) (K := 35) (N := 20000) (fl := fl3) (cl := cl3) (ll := ll3) (jl := jl3) hX mf3_mostAlike.2.2.2 ⟨by decide +kernel, flk3, clk3, llk3, jlk3⟩
   (List.forall_mem_cons.mpr ⟨xcal_v (na := 2) (c3_depthBehind hX l) mf3_depthBehind ⟨rfl, rfl⟩ ml3_51 mi3_depthBehind me3_depthBehind (xrm_ok (by omega) (by decide)) rfl (by decide) (by decide +kernel), List.forall_mem_cons.mpr ⟨xcal_v (na := 3) (c3_manyAsDeep hX l) mf3_manyAsDeep ⟨rfl, rfl⟩ ml3_54 mi3_manyAsDeep me3_manyAsDeep (xrm_ok (by omega) (by decide)) rfl (by decide) (by decide +kernel), fun _ h => absurd h List.not_mem_nil⟩⟩)
   (xrm_1 (by decide)) ⟨_, _, rfl, rfl⟩ (fun av μ r μ' h => by
    unfold F3_mostAlike at h
    split at h
    · replace h := cond_inv h; obtain ⟨hb, h⟩ := h
      simp only [Bool.and_eq_true] at hb
      obtain ⟨g0, g1⟩ := hb
      obtain rfl := Nat.eq_of_beq_eq_true g0
      obtain rfl := Nat.eq_of_beq_eq_true g1
      exact ⟨Nat.le_of_ble_eq_true rfl, (q3_mostAlike _ _ _ _).trans ((f3_mostAlike_e _ _ _).symm.trans h)⟩
    · cases h)
def t3_tellingMinute : List XE := [(0, .aload_n 0, 0, 0, 0, 0, []),
  (1, .aload_n 1, 1, 0, 0, 0, []),
  (2, .invokevirtual 37, 2, 3, 0, 0, []),
  (5, .istore_n 2, 2, 0, 0, 0, []),
  (6, .iload_n 2, 2, 0, 0, 0, []),
  (7, .invokestatic 41, 1, 0, 0, 0, []),
  (10, .istore_n 3, 3, 0, 0, 0, []),
  (11, .iconst (-1), 0, 0, (-1), 0, []),
  (12, .istore 4, 4, 0, 0, 0, []),
  (14, .iconst 1, 0, 0, 1, 0, []),
  (15, .istore 5, 5, 0, 0, 0, []),
  (17, .nop, 61, 0, 0, 0, []),
  (17, .iload 5, 5, 0, 0, 0, []),
  (19, .bipush 21, 0, 0, 21, 0, []),
  (21, .if_icmp .ge 31, 52, 0, 0, 0, []),
  (24, .aload_n 0, 0, 0, 0, 0, []),
  (25, .iload_n 2, 2, 0, 0, 0, []),
  (26, .iload 5, 5, 0, 0, 0, []),
  (28, .invokevirtual 47, 3, 3, 0, 0, []),
  (31, .istore 6, 6, 0, 0, 0, []),
  (33, .iload 6, 6, 0, 0, 0, []),
  (35, .iload_n 3, 3, 0, 0, 0, []),
  (36, .if_icmp .ge 10, 46, 0, 0, 0, []),
  (39, .iload 6, 6, 0, 0, 0, []),
  (41, .istore_n 3, 3, 0, 0, 0, []),
  (42, .iload 5, 5, 0, 0, 0, []),
  (44, .istore 4, 4, 0, 0, 0, []),
  (46, .iinc 5 1, 5, 0, 1, 0, []),
  (49, .goto (-32), 17, 0, 0, 0, []),
  (52, .iload 4, 4, 0, 0, 0, []),
  (54, .ireturn, 0, 0, 0, 0, [])]
noncomputable def e3_tellingMinute : XN := [(37, 1, 2, 3, F3_possible), (41, 1, 1, 99, FJ_bitCount), (47, 1, 3, 3, F3_mostAlike)]
noncomputable def h3_tellingMinute_17 (n : Nat) (v2 : Int32) (v3 : Int32) (v4 : Int32) (v5 : Int32) (μ : XM) : XR := arr t3_tellingMinute e3_tellingMinute 1 36 n 17 [some (xr 3 0 0), none, some (xi v2), some (xi v3), some (xi v4), some (xi v5), none] [] μ
set_option maxRecDepth 100000 in
theorem h3_tellingMinute_17_s (n : Nat) (v2 : Int32) (v3 : Int32) (v4 : Int32) (v5 : Int32) (μ : XM) : h3_tellingMinute_17 (n + 1) v2 v3 v4 v5 μ = (
  xite (v5 < 21) (
    bI (f3_mostAlike v2 v5 μ) fun r2 m1 =>
    vI r2 fun x3 =>
    xite (x3 < v3) (
      vI x3 fun x4 =>
      vI v5 fun x5 =>
      vI (v5 + 1) fun x6 =>
      h3_tellingMinute_17 n v2 x4 x5 x6 m1) (
      vI (v5 + 1) fun x7 =>
      h3_tellingMinute_17 n v2 v3 v4 x7 m1)) (
    xri v4 μ)) := rfl
theorem h3_tellingMinute_17_0 (v2 : Int32) (v3 : Int32) (v4 : Int32) (v5 : Int32) (μ : XM) : h3_tellingMinute_17 0 v2 v3 v4 v5 μ = none := rfl
noncomputable def k3_tellingMinute (n : Nat) (i1 : Nat) (μ : XM) : XR :=
  bI (f3_possible i1 μ) fun r2 m1 =>
  vI r2 fun x3 =>
  bI (fJ_bitCount x3 m1) fun r5 m4 =>
  vI r5 fun x6 =>
  vI (-1) fun x7 =>
  vI 1 fun x8 =>
  h3_tellingMinute_17 n x3 x6 x7 x8 m4
set_option maxRecDepth 100000 in
theorem q3_tellingMinute (n : Nat) (i1 : Nat) (μ : XM) : xrun t3_tellingMinute e3_tellingMinute (xrtk (some .int)) 36 n (xlo [xr 3 0 0, xr 9 i1 0] 7) μ = k3_tellingMinute n i1 μ := rfl
theorem x3_tellingMinute : ∃ f : Nat → XM → XR, ∀ (i1 : Nat) (μ : XM), f i1 μ = k3_tellingMinute 20000 i1 μ := ⟨fun i1 μ => k3_tellingMinute 20000 i1 μ, fun i1 μ => rfl⟩
noncomputable def f3_tellingMinute : Nat → XM → XR := Classical.choose x3_tellingMinute
theorem f3_tellingMinute_e (i1 : Nat) (μ : XM) : f3_tellingMinute i1 μ = k3_tellingMinute 20000 i1 μ := Classical.choose_spec x3_tellingMinute i1 μ
noncomputable def F3_tellingMinute : XF := fun av μ => match av with
  | [.inr (.inr (some (t0, i0, 0))), .inr (.inr (some (t1, i1, 0)))] => bif Nat.beq t0 3 && Nat.beq i0 0 && Nat.beq t1 9 then f3_tellingMinute i1 μ else none
  | _ => none
set_option maxRecDepth 100000 in
theorem c3_tellingMinute {X : XP} (hX : XOK X) (l : Launch) : Ctr X l y3_tellingMinute prog_5_method_5_code 7 (some .int) (xrm 4) 0 0 F3_tellingMinute :=
  Ctr_of (tab := t3_tellingMinute) (env := e3_tellingMinute) (K := 36) (N := 20000) (fl := fl3) (cl := cl3) (ll := ll3) (jl := jl3) hX mf3_tellingMinute.2.2.2 ⟨by decide +kernel, flk3, clk3, llk3, jlk3⟩
   (List.forall_mem_cons.mpr ⟨xcal_v (na := 1) (c3_possible hX l) mf3_possible ⟨rfl, rfl⟩ ml3_37 mi3_possible me3_possible (xrm_ok (by omega) (by decide)) rfl (by decide) (by decide +kernel), List.forall_mem_cons.mpr ⟨xcal_s (cJ_bitCount hX l) mfJ_bitCount ⟨rfl, rfl⟩ ml3_41 msJ_bitCount (xrm_ok (by omega) (by decide)) (by decide +kernel), List.forall_mem_cons.mpr ⟨xcal_v (na := 2) (c3_mostAlike hX l) mf3_mostAlike ⟨rfl, rfl⟩ ml3_47 mi3_mostAlike me3_mostAlike (xrm_ok (by omega) (by decide)) rfl (by decide) (by decide +kernel), fun _ h => absurd h List.not_mem_nil⟩⟩⟩)
   (xrm_1 (by decide)) ⟨_, _, rfl, rfl⟩ (fun av μ r μ' h => by
    unfold F3_tellingMinute at h
    split at h
    · replace h := cond_inv h; obtain ⟨hb, h⟩ := h
      simp only [Bool.and_eq_true] at hb
      obtain ⟨⟨g0, g1⟩, g2⟩ := hb
      obtain rfl := Nat.eq_of_beq_eq_true g0
      obtain rfl := Nat.eq_of_beq_eq_true g1
      obtain rfl := Nat.eq_of_beq_eq_true g2
      exact ⟨Nat.le_of_ble_eq_true rfl, (q3_tellingMinute _ _ _).trans ((f3_tellingMinute_e _ _).symm.trans h)⟩
    · cases h)
def t4_add : List XE := [(0, .aload_n 0, 0, 0, 0, 0, []),
  (1, .getfield 18, 4, 1, 0, 0, []),
  (4, .aload_n 0, 0, 0, 0, 0, []),
  (5, .getfield 9, 4, 0, 0, 0, []),
  (8, .arraylength, 0, 0, 0, 0, []),
  (9, .if_icmp .ge 23, 32, 0, 0, 0, []),
  (12, .aload_n 0, 0, 0, 0, 0, []),
  (13, .getfield 9, 4, 0, 0, 0, []),
  (16, .aload_n 0, 0, 0, 0, 0, []),
  (17, .getfield 18, 4, 1, 0, 0, []),
  (20, .iload_n 1, 1, 0, 0, 0, []),
  (21, .iastore, 0, 0, 0, 0, []),
  (22, .aload_n 0, 0, 0, 0, 0, []),
  (23, .dup, 0, 0, 0, 0, []),
  (24, .getfield 18, 4, 1, 0, 0, []),
  (27, .iconst 1, 0, 0, 1, 0, []),
  (28, .iadd, 0, 0, 0, 0, []),
  (29, .putfield 18, 4, 1, 0, 0, []),
  (32, .return_, 0, 0, 0, 0, [])]
noncomputable def e4_add : XN := []
noncomputable def k4_add (i0 : Nat) (p1 : Int32) (μ : XM) : XR :=
  xite ((rI μ 4 i0 1) < (nI 1000)) (
    xck (xin (rI μ 4 i0 1) 1000 && true) <|
    mS (pI μ 4 i0 0 (Int32.toNatClampNeg (rI μ 4 i0 1)) p1) fun m1 =>
    mS (sI m1 4 i0 1 ((rI m1 4 i0 1) + 1)) fun m2 =>
    xrv m2) (
    xrv μ)
set_option maxRecDepth 100000 in
theorem q4_add (n : Nat) (i0 : Nat) (p1 : Int32) (μ : XM) : xrun t4_add e4_add (xrtk none) 24 n (xlo [xr 4 i0 0, xi p1] 2) μ = k4_add i0 p1 μ := rfl
theorem x4_add : ∃ f : Nat → Int32 → XM → XR, ∀ (i0 : Nat) (p1 : Int32) (μ : XM), f i0 p1 μ = k4_add i0 p1 μ := ⟨fun i0 p1 μ => k4_add i0 p1 μ, fun i0 p1 μ => rfl⟩
noncomputable def f4_add : Nat → Int32 → XM → XR := Classical.choose x4_add
theorem f4_add_e (i0 : Nat) (p1 : Int32) (μ : XM) : f4_add i0 p1 μ = k4_add i0 p1 μ := Classical.choose_spec x4_add i0 p1 μ
noncomputable def F4_add : XF := fun av μ => match av with
  | [.inr (.inr (some (t0, i0, 0))), .inl p1] => bif Nat.beq t0 4 then f4_add i0 p1 μ else none
  | _ => none
set_option maxRecDepth 100000 in
theorem c4_add {X : XP} (hX : XOK X) (l : Launch) : Ctr X l y4_add prog_6_method_6_code 2 none (xrm 1) 0 0 F4_add :=
  Ctr_of (tab := t4_add) (env := e4_add) (K := 24) (N := 20000) (fl := fl4) (cl := cl4) (ll := ll4) (jl := jl4) hX mf4_add.2.2.2 ⟨by decide +kernel, flk4, clk4, llk4, jlk4⟩
   (fun _ h => absurd h List.not_mem_nil)
   (xrm_1 (by decide)) ⟨_, _, rfl, rfl⟩ (fun av μ r μ' h => by
    unfold F4_add at h
    split at h
    · replace h := cond_inv h; obtain ⟨hb, h⟩ := h
      obtain rfl := Nat.eq_of_beq_eq_true hb
      exact ⟨Nat.le_of_ble_eq_true rfl, (q4_add _ _ _ _).trans ((f4_add_e _ _ _).symm.trans h)⟩
    · cases h)
def t4_addNumber : List XE := [(0, .aload_n 0, 0, 0, 0, 0, []),
  (1, .iload_n 1, 1, 0, 0, 0, []),
  (2, .invokevirtual 28, 2, 4, 0, 0, []),
  (5, .return_, 0, 0, 0, 0, [])]
noncomputable def e4_addNumber : XN := [(28, 0, 2, 4, F4_add)]
noncomputable def k4_addNumber (i0 : Nat) (p1 : Int32) (μ : XM) : XR :=
  bV (f4_add i0 p1 μ) fun m1 =>
  xrv m1
set_option maxRecDepth 100000 in
theorem q4_addNumber (n : Nat) (i0 : Nat) (p1 : Int32) (μ : XM) : xrun t4_addNumber e4_addNumber (xrtk none) 9 n (xlo [xr 4 i0 0, xi p1] 2) μ = k4_addNumber i0 p1 μ := rfl
theorem x4_addNumber : ∃ f : Nat → Int32 → XM → XR, ∀ (i0 : Nat) (p1 : Int32) (μ : XM), f i0 p1 μ = k4_addNumber i0 p1 μ := ⟨fun i0 p1 μ => k4_addNumber i0 p1 μ, fun i0 p1 μ => rfl⟩
noncomputable def f4_addNumber : Nat → Int32 → XM → XR := Classical.choose x4_addNumber
theorem f4_addNumber_e (i0 : Nat) (p1 : Int32) (μ : XM) : f4_addNumber i0 p1 μ = k4_addNumber i0 p1 μ := Classical.choose_spec x4_addNumber i0 p1 μ
noncomputable def F4_addNumber : XF := fun av μ => match av with
  | [.inr (.inr (some (t0, i0, 0))), .inl p1] => bif Nat.beq t0 4 then f4_addNumber i0 p1 μ else none
  | _ => none
set_option maxRecDepth 100000 in
theorem c4_addNumber {X : XP} (hX : XOK X) (l : Launch) : Ctr X l y4_addNumber prog_6_method_4_code 2 none (xrm 2) 0 0 F4_addNumber :=
  Ctr_of (tab := t4_addNumber) (env := e4_addNumber) (K := 9) (N := 20000) (fl := fl4) (cl := cl4) (ll := ll4) (jl := jl4) hX mf4_addNumber.2.2.2 ⟨by decide +kernel, flk4, clk4, llk4, jlk4⟩
   (List.forall_mem_cons.mpr ⟨xcal_v (na := 1) (c4_add hX l) mf4_add ⟨rfl, rfl⟩ ml4_28 mi4_add me4_add (xrm_ok (by omega) (by decide)) rfl (by decide) (by decide +kernel), fun _ h => absurd h List.not_mem_nil⟩)
   (xrm_1 (by decide)) ⟨_, _, rfl, rfl⟩ (fun av μ r μ' h => by
    unfold F4_addNumber at h
    split at h
    · replace h := cond_inv h; obtain ⟨hb, h⟩ := h
      obtain rfl := Nat.eq_of_beq_eq_true hb
      exact ⟨Nat.le_of_ble_eq_true rfl, (q4_addNumber _ _ _ _).trans ((f4_addNumber_e _ _ _).symm.trans h)⟩
    · cases h)
def t4_addKind : List XE := [(0, .aload_n 0, 0, 0, 0, 0, []),
  (1, .iload_n 1, 1, 0, 0, 0, []),
  (2, .ineg, 0, 0, 0, 0, []),
  (3, .invokevirtual 28, 2, 4, 0, 0, []),
  (6, .return_, 0, 0, 0, 0, [])]
noncomputable def e4_addKind : XN := [(28, 0, 2, 4, F4_add)]
noncomputable def k4_addKind (i0 : Nat) (p1 : Int32) (μ : XM) : XR :=
  bV (f4_add i0 (-p1) μ) fun m1 =>
  xrv m1
set_option maxRecDepth 100000 in
theorem q4_addKind (n : Nat) (i0 : Nat) (p1 : Int32) (μ : XM) : xrun t4_addKind e4_addKind (xrtk none) 10 n (xlo [xr 4 i0 0, xi p1] 2) μ = k4_addKind i0 p1 μ := rfl
theorem x4_addKind : ∃ f : Nat → Int32 → XM → XR, ∀ (i0 : Nat) (p1 : Int32) (μ : XM), f i0 p1 μ = k4_addKind i0 p1 μ := ⟨fun i0 p1 μ => k4_addKind i0 p1 μ, fun i0 p1 μ => rfl⟩
noncomputable def f4_addKind : Nat → Int32 → XM → XR := Classical.choose x4_addKind
theorem f4_addKind_e (i0 : Nat) (p1 : Int32) (μ : XM) : f4_addKind i0 p1 μ = k4_addKind i0 p1 μ := Classical.choose_spec x4_addKind i0 p1 μ
noncomputable def F4_addKind : XF := fun av μ => match av with
  | [.inr (.inr (some (t0, i0, 0))), .inl p1] => bif Nat.beq t0 4 then f4_addKind i0 p1 μ else none
  | _ => none
set_option maxRecDepth 100000 in
theorem c4_addKind {X : XP} (hX : XOK X) (l : Launch) : Ctr X l y4_addKind prog_6_method_5_code 2 none (xrm 2) 0 0 F4_addKind :=
  Ctr_of (tab := t4_addKind) (env := e4_addKind) (K := 10) (N := 20000) (fl := fl4) (cl := cl4) (ll := ll4) (jl := jl4) hX mf4_addKind.2.2.2 ⟨by decide +kernel, flk4, clk4, llk4, jlk4⟩
   (List.forall_mem_cons.mpr ⟨xcal_v (na := 1) (c4_add hX l) mf4_add ⟨rfl, rfl⟩ ml4_28 mi4_add me4_add (xrm_ok (by omega) (by decide)) rfl (by decide) (by decide +kernel), fun _ h => absurd h List.not_mem_nil⟩)
   (xrm_1 (by decide)) ⟨_, _, rfl, rfl⟩ (fun av μ r μ' h => by
    unfold F4_addKind at h
    split at h
    · replace h := cond_inv h; obtain ⟨hb, h⟩ := h
      obtain rfl := Nat.eq_of_beq_eq_true hb
      exact ⟨Nat.le_of_ble_eq_true rfl, (q4_addKind _ _ _ _).trans ((f4_addKind_e _ _ _).symm.trans h)⟩
    · cases h)
def t5_lift : List XE := [(0, .aload_n 0, 0, 0, 0, 0, []),
  (1, .iconst 0, 0, 0, 0, 0, []),
  (2, .putfield 25, 5, 0, 0, 0, []),
  (5, .return_, 0, 0, 0, 0, [])]
noncomputable def e5_lift : XN := []
noncomputable def k5_lift (i0 : Nat) (μ : XM) : XR :=
  xck (xbl 0) <|
  mS (sI μ 5 i0 0 0) fun m1 =>
  xrv m1
set_option maxRecDepth 100000 in
theorem q5_lift (n : Nat) (i0 : Nat) (μ : XM) : xrun t5_lift e5_lift (xrtk none) 9 n (xlo [xr 5 i0 0] 1) μ = k5_lift i0 μ := rfl
theorem x5_lift : ∃ f : Nat → XM → XR, ∀ (i0 : Nat) (μ : XM), f i0 μ = k5_lift i0 μ := ⟨fun i0 μ => k5_lift i0 μ, fun i0 μ => rfl⟩
noncomputable def f5_lift : Nat → XM → XR := Classical.choose x5_lift
theorem f5_lift_e (i0 : Nat) (μ : XM) : f5_lift i0 μ = k5_lift i0 μ := Classical.choose_spec x5_lift i0 μ
noncomputable def F5_lift : XF := fun av μ => match av with
  | [.inr (.inr (some (t0, i0, 0)))] => bif Nat.beq t0 5 then f5_lift i0 μ else none
  | _ => none
set_option maxRecDepth 100000 in
theorem c5_lift {X : XP} (hX : XOK X) (l : Launch) : Ctr X l y5_lift prog_7_method_2_code 1 none (xrm 1) 0 0 F5_lift :=
  Ctr_of (tab := t5_lift) (env := e5_lift) (K := 9) (N := 20000) (fl := fl5) (cl := cl5) (ll := ll5) (jl := jl5) hX mf5_lift.2.2.2 ⟨by decide +kernel, flk5, clk5, llk5, jlk5⟩
   (fun _ h => absurd h List.not_mem_nil)
   (xrm_1 (by decide)) ⟨_, _, rfl, rfl⟩ (fun av μ r μ' h => by
    unfold F5_lift at h
    split at h
    · replace h := cond_inv h; obtain ⟨hb, h⟩ := h
      obtain rfl := Nat.eq_of_beq_eq_true hb
      exact ⟨Nat.le_of_ble_eq_true rfl, (q5_lift _ _ _).trans ((f5_lift_e _ _).symm.trans h)⟩
    · cases h)
def t9_copyFrom : List XE := [(0, .aload_n 0, 0, 0, 0, 0, []),
  (1, .aload_n 1, 1, 0, 0, 0, []),
  (2, .getfield 16, 9, 0, 0, 0, []),
  (5, .putfield 16, 9, 0, 0, 0, []),
  (8, .aload_n 1, 1, 0, 0, 0, []),
  (9, .getfield 9, 9, 1, 0, 0, []),
  (12, .iconst 0, 0, 0, 0, 0, []),
  (13, .aload_n 0, 0, 0, 0, 0, []),
  (14, .getfield 9, 9, 1, 0, 0, []),
  (17, .iconst 0, 0, 0, 0, 0, []),
  (18, .bipush 8, 0, 0, 8, 0, []),
  (20, .invokestatic 20, 0, 4, 0, 0, []),
  (23, .aload_n 1, 1, 0, 0, 0, []),
  (24, .getfield 13, 9, 2, 0, 0, []),
  (27, .iconst 0, 0, 0, 0, 0, []),
  (28, .aload_n 0, 0, 0, 0, 0, []),
  (29, .getfield 13, 9, 2, 0, 0, []),
  (32, .iconst 0, 0, 0, 0, 0, []),
  (33, .bipush 8, 0, 0, 8, 0, []),
  (35, .invokestatic 20, 0, 4, 0, 0, []),
  (38, .return_, 0, 0, 0, 0, [])]
noncomputable def e9_copyFrom : XN := []
noncomputable def k9_copyFrom (i0 : Nat) (i1 : Nat) (μ : XM) : XR :=
  mS (sI μ 9 i0 0 (rI μ 9 i1 0)) fun m1 =>
  xck (xcpok 0 0 8 8 8) <|
  mS (wI m1 9 i0 1 (va_cpy (aI m1 9 i1 1) (aI m1 9 i0 1) (Int32.toNatClampNeg 0) (Int32.toNatClampNeg 0) (Int32.toNatClampNeg 8))) fun m2 =>
  xck (xcpok 0 0 8 8 8) <|
  mS (wI m2 9 i0 2 (va_cpy (aI m2 9 i1 2) (aI m2 9 i0 2) (Int32.toNatClampNeg 0) (Int32.toNatClampNeg 0) (Int32.toNatClampNeg 8))) fun m3 =>
  xrv m3
set_option maxRecDepth 100000 in
theorem q9_copyFrom (n : Nat) (i0 : Nat) (i1 : Nat) (μ : XM) : xrun t9_copyFrom e9_copyFrom (xrtk none) 26 n (xlo [xr 9 i0 0, xr 9 i1 0] 2) μ = k9_copyFrom i0 i1 μ := rfl
theorem x9_copyFrom : ∃ f : Nat → Nat → XM → XR, ∀ (i0 : Nat) (i1 : Nat) (μ : XM), f i0 i1 μ = k9_copyFrom i0 i1 μ := ⟨fun i0 i1 μ => k9_copyFrom i0 i1 μ, fun i0 i1 μ => rfl⟩
noncomputable def f9_copyFrom : Nat → Nat → XM → XR := Classical.choose x9_copyFrom
theorem f9_copyFrom_e (i0 : Nat) (i1 : Nat) (μ : XM) : f9_copyFrom i0 i1 μ = k9_copyFrom i0 i1 μ := Classical.choose_spec x9_copyFrom i0 i1 μ
noncomputable def F9_copyFrom : XF := fun av μ => match av with
  | [.inr (.inr (some (t0, i0, 0))), .inr (.inr (some (t1, i1, 0)))] => bif Nat.beq t0 9 && Nat.beq t1 9 then f9_copyFrom i0 i1 μ else none
  | _ => none
set_option maxRecDepth 100000 in
theorem c9_copyFrom {X : XP} (hX : XOK X) (l : Launch) : Ctr X l y9_copyFrom prog_11_method_3_code 2 none (xrm 1) 0 0 F9_copyFrom :=
  Ctr_of (tab := t9_copyFrom) (env := e9_copyFrom) (K := 26) (N := 20000) (fl := fl9) (cl := cl9) (ll := ll9) (jl := jl9) hX mf9_copyFrom.2.2.2 ⟨by decide +kernel, flk9, clk9, llk9, jlk9⟩
   (fun _ h => absurd h List.not_mem_nil)
   (xrm_1 (by decide)) ⟨_, _, rfl, rfl⟩ (fun av μ r μ' h => by
    unfold F9_copyFrom at h
    split at h
    · replace h := cond_inv h; obtain ⟨hb, h⟩ := h
      simp only [Bool.and_eq_true] at hb
      obtain ⟨g0, g1⟩ := hb
      obtain rfl := Nat.eq_of_beq_eq_true g0
      obtain rfl := Nat.eq_of_beq_eq_true g1
      exact ⟨Nat.le_of_ble_eq_true rfl, (q9_copyFrom _ _ _ _).trans ((f9_copyFrom_e _ _ _).symm.trans h)⟩
    · cases h)
def t5_lay : List XE := [(0, .aload_n 0, 0, 0, 0, 0, []),
  (1, .iconst 1, 0, 0, 1, 0, []),
  (2, .putfield 25, 5, 0, 0, 0, []),
  (5, .aload_n 0, 0, 0, 0, 0, []),
  (6, .getfield 21, 5, 1, 0, 0, []),
  (9, .aload_n 1, 1, 0, 0, 0, []),
  (10, .invokevirtual 29, 2, 8, 0, 0, []),
  (13, .aload_n 0, 0, 0, 0, 0, []),
  (14, .getfield 10, 5, 2, 0, 0, []),
  (17, .aload_n 2, 2, 0, 0, 0, []),
  (18, .invokevirtual 33, 2, 9, 0, 0, []),
  (21, .return_, 0, 0, 0, 0, [])]
noncomputable def e5_lay : XN := [(29, 0, 2, 8, F8_copyFrom), (33, 0, 2, 9, F9_copyFrom)]
noncomputable def k5_lay (i0 : Nat) (i1 : Nat) (i2 : Nat) (μ : XM) : XR :=
  xck (xbl 1) <|
  mS (sI μ 5 i0 0 1) fun m1 =>
  bV (f8_copyFrom (18 + i0) i1 m1) fun m2 =>
  bV (f9_copyFrom (1 + i0) i2 m2) fun m3 =>
  xrv m3
set_option maxRecDepth 100000 in
theorem q5_lay (n : Nat) (i0 : Nat) (i1 : Nat) (i2 : Nat) (μ : XM) : xrun t5_lay e5_lay (xrtk none) 17 n (xlo [xr 5 i0 0, xr 8 i1 0, xr 9 i2 0] 3) μ = k5_lay i0 i1 i2 μ := rfl
theorem x5_lay : ∃ f : Nat → Nat → Nat → XM → XR, ∀ (i0 : Nat) (i1 : Nat) (i2 : Nat) (μ : XM), f i0 i1 i2 μ = k5_lay i0 i1 i2 μ := ⟨fun i0 i1 i2 μ => k5_lay i0 i1 i2 μ, fun i0 i1 i2 μ => rfl⟩
noncomputable def f5_lay : Nat → Nat → Nat → XM → XR := Classical.choose x5_lay
theorem f5_lay_e (i0 : Nat) (i1 : Nat) (i2 : Nat) (μ : XM) : f5_lay i0 i1 i2 μ = k5_lay i0 i1 i2 μ := Classical.choose_spec x5_lay i0 i1 i2 μ
noncomputable def F5_lay : XF := fun av μ => match av with
  | [.inr (.inr (some (t0, i0, 0))), .inr (.inr (some (t1, i1, 0))), .inr (.inr (some (t2, i2, 0)))] => bif Nat.beq t0 5 && Nat.beq t1 8 && Nat.beq t2 9 then f5_lay i0 i1 i2 μ else none
  | _ => none
set_option maxRecDepth 100000 in
theorem c5_lay {X : XP} (hX : XOK X) (l : Launch) : Ctr X l y5_lay prog_7_method_3_code 3 none (xrm 2) 0 0 F5_lay :=
  Ctr_of (tab := t5_lay) (env := e5_lay) (K := 17) (N := 20000) (fl := fl5) (cl := cl5) (ll := ll5) (jl := jl5) hX mf5_lay.2.2.2 ⟨by decide +kernel, flk5, clk5, llk5, jlk5⟩
   (List.forall_mem_cons.mpr ⟨xcal_v (na := 1) (c8_copyFrom hX l) mf8_copyFrom ⟨rfl, rfl⟩ ml5_29 mi8_copyFrom me8_copyFrom (xrm_ok (by omega) (by decide)) rfl (by decide) (by decide +kernel), List.forall_mem_cons.mpr ⟨xcal_v (na := 1) (c9_copyFrom hX l) mf9_copyFrom ⟨rfl, rfl⟩ ml5_33 mi9_copyFrom me9_copyFrom (xrm_ok (by omega) (by decide)) rfl (by decide) (by decide +kernel), fun _ h => absurd h List.not_mem_nil⟩⟩)
   (xrm_1 (by decide)) ⟨_, _, rfl, rfl⟩ (fun av μ r μ' h => by
    unfold F5_lay at h
    split at h
    · replace h := cond_inv h; obtain ⟨hb, h⟩ := h
      simp only [Bool.and_eq_true] at hb
      obtain ⟨⟨g0, g1⟩, g2⟩ := hb
      obtain rfl := Nat.eq_of_beq_eq_true g0
      obtain rfl := Nat.eq_of_beq_eq_true g1
      obtain rfl := Nat.eq_of_beq_eq_true g2
      exact ⟨Nat.le_of_ble_eq_true rfl, (q5_lay _ _ _ _ _).trans ((f5_lay_e _ _ _ _).symm.trans h)⟩
    · cases h)
def t5_bringBack : List XE := [(0, .aload_n 0, 0, 0, 0, 0, []),
  (1, .getfield 25, 5, 0, 0, 0, []),
  (4, .ifCond .eq 19, 23, 0, 0, 0, []),
  (7, .aload_n 1, 1, 0, 0, 0, []),
  (8, .aload_n 0, 0, 0, 0, 0, []),
  (9, .getfield 21, 5, 1, 0, 0, []),
  (12, .invokevirtual 29, 2, 8, 0, 0, []),
  (15, .aload_n 2, 2, 0, 0, 0, []),
  (16, .aload_n 0, 0, 0, 0, 0, []),
  (17, .getfield 10, 5, 2, 0, 0, []),
  (20, .invokevirtual 33, 2, 9, 0, 0, []),
  (23, .aload_n 0, 0, 0, 0, 0, []),
  (24, .getfield 25, 5, 0, 0, 0, []),
  (27, .ireturn, 0, 0, 0, 0, [])]
noncomputable def e5_bringBack : XN := [(29, 0, 2, 8, F8_copyFrom), (33, 0, 2, 9, F9_copyFrom)]
noncomputable def k5_bringBack (i0 : Nat) (i1 : Nat) (i2 : Nat) (μ : XM) : XR :=
  xite ((rI μ 5 i0 0) = 0) (
    xrb (rI μ 5 i0 0) μ) (
    bV (f8_copyFrom i1 (18 + i0) μ) fun m1 =>
    bV (f9_copyFrom i2 (1 + i0) m1) fun m2 =>
    xrb (rI m2 5 i0 0) m2)
set_option maxRecDepth 100000 in
theorem q5_bringBack (n : Nat) (i0 : Nat) (i1 : Nat) (i2 : Nat) (μ : XM) : xrun t5_bringBack e5_bringBack (xrtk (some .boolean)) 19 n (xlo [xr 5 i0 0, xr 8 i1 0, xr 9 i2 0] 3) μ = k5_bringBack i0 i1 i2 μ := rfl
theorem x5_bringBack : ∃ f : Nat → Nat → Nat → XM → XR, ∀ (i0 : Nat) (i1 : Nat) (i2 : Nat) (μ : XM), f i0 i1 i2 μ = k5_bringBack i0 i1 i2 μ := ⟨fun i0 i1 i2 μ => k5_bringBack i0 i1 i2 μ, fun i0 i1 i2 μ => rfl⟩
noncomputable def f5_bringBack : Nat → Nat → Nat → XM → XR := Classical.choose x5_bringBack
theorem f5_bringBack_e (i0 : Nat) (i1 : Nat) (i2 : Nat) (μ : XM) : f5_bringBack i0 i1 i2 μ = k5_bringBack i0 i1 i2 μ := Classical.choose_spec x5_bringBack i0 i1 i2 μ
noncomputable def F5_bringBack : XF := fun av μ => match av with
  | [.inr (.inr (some (t0, i0, 0))), .inr (.inr (some (t1, i1, 0))), .inr (.inr (some (t2, i2, 0)))] => bif Nat.beq t0 5 && Nat.beq t1 8 && Nat.beq t2 9 then f5_bringBack i0 i1 i2 μ else none
  | _ => none
set_option maxRecDepth 100000 in
theorem c5_bringBack {X : XP} (hX : XOK X) (l : Launch) : Ctr X l y5_bringBack prog_7_method_4_code 3 (some .boolean) (xrm 2) 0 0 F5_bringBack :=
  Ctr_of (tab := t5_bringBack) (env := e5_bringBack) (K := 19) (N := 20000) (fl := fl5) (cl := cl5) (ll := ll5) (jl := jl5) hX mf5_bringBack.2.2.2 ⟨by decide +kernel, flk5, clk5, llk5, jlk5⟩
   (List.forall_mem_cons.mpr ⟨xcal_v (na := 1) (c8_copyFrom hX l) mf8_copyFrom ⟨rfl, rfl⟩ ml5_29 mi8_copyFrom me8_copyFrom (xrm_ok (by omega) (by decide)) rfl (by decide) (by decide +kernel), List.forall_mem_cons.mpr ⟨xcal_v (na := 1) (c9_copyFrom hX l) mf9_copyFrom ⟨rfl, rfl⟩ ml5_33 mi9_copyFrom me9_copyFrom (xrm_ok (by omega) (by decide)) rfl (by decide) (by decide +kernel), fun _ h => absurd h List.not_mem_nil⟩⟩)
   (xrm_1 (by decide)) ⟨_, _, rfl, rfl⟩ (fun av μ r μ' h => by
    unfold F5_bringBack at h
    split at h
    · replace h := cond_inv h; obtain ⟨hb, h⟩ := h
      simp only [Bool.and_eq_true] at hb
      obtain ⟨⟨g0, g1⟩, g2⟩ := hb
      obtain rfl := Nat.eq_of_beq_eq_true g0
      obtain rfl := Nat.eq_of_beq_eq_true g1
      obtain rfl := Nat.eq_of_beq_eq_true g2
      exact ⟨Nat.le_of_ble_eq_true rfl, (q5_bringBack _ _ _ _ _).trans ((f5_bringBack_e _ _ _ _).symm.trans h)⟩
    · cases h)
def t6_chooseBelts : List XE := [(0, .iload_n 1, 1, 0, 0, 0, []),
  (1, .aload_n 0, 0, 0, 0, 0, []),
  (2, .getfield 24, 6, 0, 0, 0, []),
  (5, .getfield 40, 2, 2, 0, 0, []),
  (8, .if_icmp .ge 8, 16, 0, 0, 0, []),
  (11, .iload_n 1, 1, 0, 0, 0, []),
  (12, .iconst 3, 0, 0, 3, 0, []),
  (13, .if_icmp .lt 5, 18, 0, 0, 0, []),
  (16, .iconst 1, 0, 0, 1, 0, []),
  (17, .ireturn, 0, 0, 0, 0, []),
  (18, .aload_n 0, 0, 0, 0, 0, []),
  (19, .getfield 18, 6, 5, 0, 0, []),
  (22, .iload_n 1, 1, 0, 0, 0, []),
  (23, .iaload, 0, 0, 0, 0, []),
  (24, .iconst (-1), 0, 0, (-1), 0, []),
  (25, .if_icmp .ne 19, 44, 0, 0, 0, []),
  (28, .aload_n 0, 0, 0, 0, 0, []),
  (29, .getfield 21, 6, 6, 0, 0, []),
  (32, .iload_n 1, 1, 0, 0, 0, []),
  (33, .iconst (-1), 0, 0, (-1), 0, []),
  (34, .iastore, 0, 0, 0, 0, []),
  (35, .aload_n 0, 0, 0, 0, 0, []),
  (36, .iload_n 1, 1, 0, 0, 0, []),
  (37, .iconst 1, 0, 0, 1, 0, []),
  (38, .iadd, 0, 0, 0, 0, []),
  (39, .iload_n 2, 2, 0, 0, 0, []),
  (40, .invokevirtual 57, 3, 6, 0, 0, []),
  (43, .ireturn, 0, 0, 0, 0, []),
  (44, .iconst 0, 0, 0, 0, 0, []),
  (45, .istore_n 3, 3, 0, 0, 0, []),
  (46, .nop, 15, 0, 0, 0, []),
  (46, .iload_n 3, 3, 0, 0, 0, []),
  (47, .aload_n 0, 0, 0, 0, 0, []),
  (48, .getfield 24, 6, 0, 0, 0, []),
  (51, .getfield 75, 2, 1, 0, 0, []),
  (54, .if_icmp .ge 61, 115, 0, 0, 0, []),
  (57, .iload_n 2, 2, 0, 0, 0, []),
  (58, .iload_n 3, 3, 0, 0, 0, []),
  (59, .ishr, 0, 0, 0, 0, []),
  (60, .iconst 1, 0, 0, 1, 0, []),
  (61, .iand, 0, 0, 0, 0, []),
  (62, .iconst 1, 0, 0, 1, 0, []),
  (63, .if_icmp .ne 46, 109, 0, 0, 0, []),
  (66, .aload_n 0, 0, 0, 0, 0, []),
  (67, .getfield 24, 6, 0, 0, 0, []),
  (70, .iload_n 3, 3, 0, 0, 0, []),
  (71, .aload_n 0, 0, 0, 0, 0, []),
  (72, .getfield 18, 6, 5, 0, 0, []),
  (75, .iload_n 1, 1, 0, 0, 0, []),
  (76, .iaload, 0, 0, 0, 0, []),
  (77, .invokevirtual 78, 3, 2, 0, 0, []),
  (80, .ifCond .eq 29, 109, 0, 0, 0, []),
  (83, .aload_n 0, 0, 0, 0, 0, []),
  (84, .getfield 21, 6, 6, 0, 0, []),
  (87, .iload_n 1, 1, 0, 0, 0, []),
  (88, .iload_n 3, 3, 0, 0, 0, []),
  (89, .iastore, 0, 0, 0, 0, []),
  (90, .aload_n 0, 0, 0, 0, 0, []),
  (91, .iload_n 1, 1, 0, 0, 0, []),
  (92, .iconst 1, 0, 0, 1, 0, []),
  (93, .iadd, 0, 0, 0, 0, []),
  (94, .iload_n 2, 2, 0, 0, 0, []),
  (95, .iconst 1, 0, 0, 1, 0, []),
  (96, .iload_n 3, 3, 0, 0, 0, []),
  (97, .ishl, 0, 0, 0, 0, []),
  (98, .iconst (-1), 0, 0, (-1), 0, []),
  (99, .ixor, 0, 0, 0, 0, []),
  (100, .iand, 0, 0, 0, 0, []),
  (101, .invokevirtual 57, 3, 6, 0, 0, []),
  (104, .ifCond .eq 5, 109, 0, 0, 0, []),
  (107, .iconst 1, 0, 0, 1, 0, []),
  (108, .ireturn, 0, 0, 0, 0, []),
  (109, .iinc 3 1, 3, 0, 1, 0, []),
  (112, .goto (-66), 46, 0, 0, 0, []),
  (115, .iconst 0, 0, 0, 0, 0, []),
  (116, .ireturn, 0, 0, 0, 0, [])]
noncomputable def e6_chooseBelts (w : Nat → XF) : XN := [(57, 1, 3, 6, (w 0)), (78, 1, 3, 2, F2_isBorne)]
noncomputable def W6_chooseBelts (N : Nat) (w : Nat → XF) : XF := fun av μ => match av with
  | [.inr (.inr (some (t0, i0, 0))), .inl p1, .inl p2] => bif Nat.beq t0 6 && Nat.beq i0 0 then xrun t6_chooseBelts (e6_chooseBelts w) (xrtk (some .boolean)) 81 N (xlo [xr 6 0 0, xi p1, xi p2] 4) μ else none
  | _ => none
noncomputable def G2 (N d : Nat) : Nat → XF := Nat.rec (fun _ _ _ => none) (fun _ w k => match k with
  | 0 => W6_chooseBelts N w
  | _ => fun _ _ => none) d
noncomputable def f6_chooseBelts (N d : Nat) (p1 : Int32) (p2 : Int32) (μ : XM) : XR := G2 N d 0 [xr 6 0 0, xi p1, xi p2] μ
noncomputable def h6_chooseBelts_46 (N d n : Nat) (v1 : Int32) (v2 : Int32) (v3 : Int32) (μ : XM) : XR := arr t6_chooseBelts (e6_chooseBelts (G2 N d)) 2 81 n 46 [some (xr 6 0 0), some (xi v1), some (xi v2), some (xi v3)] [] μ
set_option maxRecDepth 100000 in
theorem h6_chooseBelts_46_s (N d n : Nat) (v1 : Int32) (v2 : Int32) (v3 : Int32) (μ : XM) : h6_chooseBelts_46 N d (n + 1) v1 v2 v3 μ = (
  xite (v3 < (rI μ 2 0 1)) (
    xite (((v2 >>> (v3 &&& 31)) &&& 1) = 1) (
      xck (xin v1 3) <|
      bI (f2_isBorne 0 v3 (aI μ 6 0 5 (Int32.toNatClampNeg v1)) μ) fun r2 m1 =>
      xite (r2 = 0) (
        vI (v3 + 1) fun x3 =>
        h6_chooseBelts_46 N d n v1 v2 x3 m1) (
        xck (xin v1 3 && true) <|
        mS (pI m1 6 0 6 (Int32.toNatClampNeg v1) v3) fun m4 =>
        bI (f6_chooseBelts N d (v1 + 1) (v2 &&& ((1 <<< (v3 &&& 31)) ^^^ (-1))) m4) fun r6 m5 =>
        xite (r6 = 0) (
          vI (v3 + 1) fun x7 =>
          h6_chooseBelts_46 N d n v1 v2 x7 m5) (
          xrb 1 m5))) (
      vI (v3 + 1) fun x8 =>
      h6_chooseBelts_46 N d n v1 v2 x8 μ)) (
    xrb 0 μ)) := rfl
set_option maxRecDepth 100000 in
theorem f6_chooseBelts_s (N d : Nat) (p1 : Int32) (p2 : Int32) (μ : XM) : f6_chooseBelts N (d + 1) p1 p2 μ = (
  xite (p1 < (rI μ 2 0 2)) (
    xite (p1 < 3) (
      xck (xin p1 3) <|
      xite ((aI μ 6 0 5 (Int32.toNatClampNeg p1)) = (-1)) (
        xck (xin p1 3 && true) <|
        mS (pI μ 6 0 6 (Int32.toNatClampNeg p1) (-1)) fun m1 =>
        bI (f6_chooseBelts N d (p1 + 1) p2 m1) fun r3 m2 =>
        xrb r3 m2) (
        vI 0 fun x4 =>
        h6_chooseBelts_46 N d N p1 p2 x4 μ)) (
      xrb 1 μ)) (
    xrb 1 μ)) := rfl
theorem f6_chooseBelts_0 (N : Nat) (p1 : Int32) (p2 : Int32) (μ : XM) : f6_chooseBelts N 0 p1 p2 μ = none := rfl
set_option maxRecDepth 100000 in
theorem cG2 {X : XP} (hX : XOK X) (l : Launch) : ∀ d : Nat, Ctr X l y6_chooseBelts prog_8_method_4_code 4 (some .boolean) (xrm (2 + d)) 0 0 (G2 20000 d 0) := by
  intro d
  induction d with
  | zero => exact (fun av μ r μ' _ h => by cases h)
  | succ d ih =>
    exact Ctr_of (tab := t6_chooseBelts) (env := e6_chooseBelts (G2 20000 d)) (K := 81) (N := 20000) (fl := fl6) (cl := cl6) (ll := ll6) (jl := jl6) hX mf6_chooseBelts.2.2.2 ⟨by decide +kernel, flk6, clk6, llk6, jlk6⟩
      (List.forall_mem_cons.mpr ⟨xcal_v (na := 2) (ih) mf6_chooseBelts ⟨rfl, rfl⟩ ml6_57 mi6_chooseBelts me6_chooseBelts (xrm_ok (by omega) (by decide)) rfl (by decide) (by decide +kernel), List.forall_mem_cons.mpr ⟨xcal_v (na := 2) (c2_isBorne hX l) mf2_isBorne ⟨rfl, rfl⟩ ml6_78 mi2_isBorne me2_isBorne (xrm_ok (by omega) (by decide)) rfl (by decide) (by decide +kernel), fun _ h => absurd h List.not_mem_nil⟩⟩)
      (xrm_1 (by omega)) ⟨_, _, rfl, rfl⟩ (fun av μ r μ' h => by
        replace h : W6_chooseBelts 20000 (G2 20000 d) av μ = some (r, μ') := h
        unfold W6_chooseBelts at h
        split at h
        · replace h := cond_inv h; obtain ⟨hb, h⟩ := h
          simp only [Bool.and_eq_true] at hb
          obtain ⟨g0, g1⟩ := hb
          obtain rfl := Nat.eq_of_beq_eq_true g0
          obtain rfl := Nat.eq_of_beq_eq_true g1
          exact ⟨Nat.le_of_ble_eq_true rfl, h⟩
        · cases h)
def t6_keepTried : List XE := [(0, .aload_n 0, 0, 0, 0, 0, []),
  (1, .iload_n 1, 1, 0, 0, 0, []),
  (2, .putfield 32, 6, 2, 0, 0, []),
  (5, .iconst 0, 0, 0, 0, 0, []),
  (6, .istore_n 2, 2, 0, 0, 0, []),
  (7, .nop, 5, 0, 0, 0, []),
  (7, .iload_n 2, 2, 0, 0, 0, []),
  (8, .aload_n 0, 0, 0, 0, 0, []),
  (9, .getfield 24, 6, 0, 0, 0, []),
  (12, .getfield 40, 2, 2, 0, 0, []),
  (15, .if_icmp .ge 38, 53, 0, 0, 0, []),
  (18, .iload_n 2, 2, 0, 0, 0, []),
  (19, .iconst 3, 0, 0, 3, 0, []),
  (20, .if_icmp .ge 33, 53, 0, 0, 0, []),
  (23, .aload_n 0, 0, 0, 0, 0, []),
  (24, .getfield 9, 6, 3, 0, 0, []),
  (27, .iload_n 2, 2, 0, 0, 0, []),
  (28, .aload_n 0, 0, 0, 0, 0, []),
  (29, .getfield 18, 6, 5, 0, 0, []),
  (32, .iload_n 2, 2, 0, 0, 0, []),
  (33, .iaload, 0, 0, 0, 0, []),
  (34, .iastore, 0, 0, 0, 0, []),
  (35, .aload_n 0, 0, 0, 0, 0, []),
  (36, .getfield 15, 6, 4, 0, 0, []),
  (39, .iload_n 2, 2, 0, 0, 0, []),
  (40, .aload_n 0, 0, 0, 0, 0, []),
  (41, .getfield 21, 6, 6, 0, 0, []),
  (44, .iload_n 2, 2, 0, 0, 0, []),
  (45, .iaload, 0, 0, 0, 0, []),
  (46, .iastore, 0, 0, 0, 0, []),
  (47, .iinc 2 1, 2, 0, 1, 0, []),
  (50, .goto (-43), 7, 0, 0, 0, []),
  (53, .return_, 0, 0, 0, 0, [])]
noncomputable def e6_keepTried : XN := []
noncomputable def h6_keepTried_7 (n : Nat) (v2 : Int32) (μ : XM) : XR := arr t6_keepTried e6_keepTried 0 38 n 7 [some (xr 6 0 0), none, some (xi v2)] [] μ
set_option maxRecDepth 100000 in
theorem h6_keepTried_7_s (n : Nat) (v2 : Int32) (μ : XM) : h6_keepTried_7 (n + 1) v2 μ = (
  xite (v2 < (rI μ 2 0 2)) (
    xite (v2 < 3) (
      xck (xin v2 3) <|
      xck (xin v2 3 && true) <|
      mS (pI μ 6 0 3 (Int32.toNatClampNeg v2) (aI μ 6 0 5 (Int32.toNatClampNeg v2))) fun m1 =>
      xck (xin v2 3) <|
      xck (xin v2 3 && true) <|
      mS (pI m1 6 0 4 (Int32.toNatClampNeg v2) (aI m1 6 0 6 (Int32.toNatClampNeg v2))) fun m2 =>
      vI (v2 + 1) fun x3 =>
      h6_keepTried_7 n x3 m2) (
      xrv μ)) (
    xrv μ)) := rfl
theorem h6_keepTried_7_0 (v2 : Int32) (μ : XM) : h6_keepTried_7 0 v2 μ = none := rfl
noncomputable def k6_keepTried (n : Nat) (p1 : Int32) (μ : XM) : XR :=
  mS (sI μ 6 0 2 p1) fun m1 =>
  vI 0 fun x2 =>
  h6_keepTried_7 n x2 m1
set_option maxRecDepth 100000 in
theorem q6_keepTried (n : Nat) (p1 : Int32) (μ : XM) : xrun t6_keepTried e6_keepTried (xrtk none) 38 n (xlo [xr 6 0 0, xi p1] 3) μ = k6_keepTried n p1 μ := rfl
theorem x6_keepTried : ∃ f : Int32 → XM → XR, ∀ (p1 : Int32) (μ : XM), f p1 μ = k6_keepTried 20000 p1 μ := ⟨fun p1 μ => k6_keepTried 20000 p1 μ, fun p1 μ => rfl⟩
noncomputable def f6_keepTried : Int32 → XM → XR := Classical.choose x6_keepTried
theorem f6_keepTried_e (p1 : Int32) (μ : XM) : f6_keepTried p1 μ = k6_keepTried 20000 p1 μ := Classical.choose_spec x6_keepTried p1 μ
noncomputable def F6_keepTried : XF := fun av μ => match av with
  | [.inr (.inr (some (t0, i0, 0))), .inl p1] => bif Nat.beq t0 6 && Nat.beq i0 0 then f6_keepTried p1 μ else none
  | _ => none
set_option maxRecDepth 100000 in
theorem c6_keepTried {X : XP} (hX : XOK X) (l : Launch) : Ctr X l y6_keepTried prog_8_method_5_code 3 none (xrm 1) 0 0 F6_keepTried :=
  Ctr_of (tab := t6_keepTried) (env := e6_keepTried) (K := 38) (N := 20000) (fl := fl6) (cl := cl6) (ll := ll6) (jl := jl6) hX mf6_keepTried.2.2.2 ⟨by decide +kernel, flk6, clk6, llk6, jlk6⟩
   (fun _ h => absurd h List.not_mem_nil)
   (xrm_1 (by decide)) ⟨_, _, rfl, rfl⟩ (fun av μ r μ' h => by
    unfold F6_keepTried at h
    split at h
    · replace h := cond_inv h; obtain ⟨hb, h⟩ := h
      simp only [Bool.and_eq_true] at hb
      obtain ⟨g0, g1⟩ := hb
      obtain rfl := Nat.eq_of_beq_eq_true g0
      obtain rfl := Nat.eq_of_beq_eq_true g1
      exact ⟨Nat.le_of_ble_eq_true rfl, (q6_keepTried _ _ _).trans ((f6_keepTried_e _ _).symm.trans h)⟩
    · cases h)
def t8_isCrying : List XE := [(0, .aload_n 0, 0, 0, 0, 0, []),
  (1, .iload_n 1, 1, 0, 0, 0, []),
  (2, .invokevirtual 88, 2, 8, 0, 0, []),
  (5, .ifCond .eq 23, 28, 0, 0, 0, []),
  (8, .aload_n 0, 0, 0, 0, 0, []),
  (9, .getfield 43, 8, 7, 0, 0, []),
  (12, .aload_n 0, 0, 0, 0, 0, []),
  (13, .getfield 24, 8, 0, 0, 0, []),
  (16, .getfield 78, 2, 8, 0, 0, []),
  (19, .iload_n 1, 1, 0, 0, 0, []),
  (20, .iaload, 0, 0, 0, 0, []),
  (21, .if_icmp .le 7, 28, 0, 0, 0, []),
  (24, .iconst 1, 0, 0, 1, 0, []),
  (25, .goto 4, 29, 0, 0, 0, []),
  (28, .iconst 0, 0, 0, 0, 0, []),
  (29, .ireturn, 0, 0, 0, 0, [])]
noncomputable def e8_isCrying : XN := [(88, 1, 2, 8, F8_wantsBelt)]
noncomputable def k8_isCrying (i0 : Nat) (p1 : Int32) (μ : XM) : XR :=
  bI (f8_wantsBelt i0 p1 μ) fun r2 m1 =>
  xite (r2 = 0) (
    xrb 0 m1) (
    xck (xin p1 6) <|
    xite ((aI m1 2 0 8 (Int32.toNatClampNeg p1)) < (rI m1 8 i0 7)) (
      xrb 1 m1) (
      xrb 0 m1))
set_option maxRecDepth 100000 in
theorem q8_isCrying (n : Nat) (i0 : Nat) (p1 : Int32) (μ : XM) : xrun t8_isCrying e8_isCrying (xrtk (some .boolean)) 21 n (xlo [xr 8 i0 0, xi p1] 2) μ = k8_isCrying i0 p1 μ := rfl
theorem x8_isCrying : ∃ f : Nat → Int32 → XM → XR, ∀ (i0 : Nat) (p1 : Int32) (μ : XM), f i0 p1 μ = k8_isCrying i0 p1 μ := ⟨fun i0 p1 μ => k8_isCrying i0 p1 μ, fun i0 p1 μ => rfl⟩
noncomputable def f8_isCrying : Nat → Int32 → XM → XR := Classical.choose x8_isCrying
theorem f8_isCrying_e (i0 : Nat) (p1 : Int32) (μ : XM) : f8_isCrying i0 p1 μ = k8_isCrying i0 p1 μ := Classical.choose_spec x8_isCrying i0 p1 μ
noncomputable def F8_isCrying : XF := fun av μ => match av with
  | [.inr (.inr (some (t0, i0, 0))), .inl p1] => bif Nat.beq t0 8 then f8_isCrying i0 p1 μ else none
  | _ => none
set_option maxRecDepth 100000 in
theorem c8_isCrying {X : XP} (hX : XOK X) (l : Launch) : Ctr X l y8_isCrying prog_10_method_14_code 2 (some .boolean) (xrm 3) 0 0 F8_isCrying :=
  Ctr_of (tab := t8_isCrying) (env := e8_isCrying) (K := 21) (N := 20000) (fl := fl8) (cl := cl8) (ll := ll8) (jl := jl8) hX mf8_isCrying.2.2.2 ⟨by decide +kernel, flk8, clk8, llk8, jlk8⟩
   (List.forall_mem_cons.mpr ⟨xcal_v (na := 1) (c8_wantsBelt hX l) mf8_wantsBelt ⟨rfl, rfl⟩ ml8_88 mi8_wantsBelt me8_wantsBelt (xrm_ok (by omega) (by decide)) rfl (by decide) (by decide +kernel), fun _ h => absurd h List.not_mem_nil⟩)
   (xrm_1 (by decide)) ⟨_, _, rfl, rfl⟩ (fun av μ r μ' h => by
    unfold F8_isCrying at h
    split at h
    · replace h := cond_inv h; obtain ⟨hb, h⟩ := h
      obtain rfl := Nat.eq_of_beq_eq_true hb
      exact ⟨Nat.le_of_ble_eq_true rfl, (q8_isCrying _ _ _ _).trans ((f8_isCrying_e _ _ _).symm.trans h)⟩
    · cases h)
def t6_chooseGuests : List XE := [(0, .iload_n 1, 1, 0, 0, 0, []),
  (1, .aload_n 0, 0, 0, 0, 0, []),
  (2, .getfield 24, 6, 0, 0, 0, []),
  (5, .getfield 40, 2, 2, 0, 0, []),
  (8, .if_icmp .ge 8, 16, 0, 0, 0, []),
  (11, .iload_n 1, 1, 0, 0, 0, []),
  (12, .iconst 3, 0, 0, 3, 0, []),
  (13, .if_icmp .lt 38, 51, 0, 0, 0, []),
  (16, .nop, 5, 0, 0, 0, []),
  (16, .iload_n 2, 2, 0, 0, 0, []),
  (17, .invokestatic 45, 1, 0, 0, 0, []),
  (20, .aload_n 0, 0, 0, 0, 0, []),
  (21, .getfield 32, 6, 2, 0, 0, []),
  (24, .if_icmp .le 26, 50, 0, 0, 0, []),
  (27, .aload_n 0, 0, 0, 0, 0, []),
  (28, .iconst 0, 0, 0, 0, 0, []),
  (29, .aload_n 0, 0, 0, 0, 0, []),
  (30, .getfield 28, 6, 1, 0, 0, []),
  (33, .invokevirtual 51, 1, 8, 0, 0, []),
  (36, .invokevirtual 57, 3, 6, 0, 0, []),
  (39, .ifCond .eq 11, 50, 0, 0, 0, []),
  (42, .aload_n 0, 0, 0, 0, 0, []),
  (43, .iload_n 2, 2, 0, 0, 0, []),
  (44, .invokestatic 45, 1, 0, 0, 0, []),
  (47, .invokevirtual 61, 2, 6, 0, 0, []),
  (50, .return_, 0, 0, 0, 0, []),
  (51, .iconst 0, 0, 0, 0, 0, []),
  (52, .istore_n 3, 3, 0, 0, 0, []),
  (53, .nop, 15, 0, 0, 0, []),
  (53, .iload_n 3, 3, 0, 0, 0, []),
  (54, .aload_n 0, 0, 0, 0, 0, []),
  (55, .getfield 24, 6, 0, 0, 0, []),
  (58, .getfield 65, 2, 0, 0, 0, []),
  (61, .if_icmp .ge 59, 120, 0, 0, 0, []),
  (64, .iload_n 2, 2, 0, 0, 0, []),
  (65, .iload_n 3, 3, 0, 0, 0, []),
  (66, .ishr, 0, 0, 0, 0, []),
  (67, .iconst 1, 0, 0, 1, 0, []),
  (68, .iand, 0, 0, 0, 0, []),
  (69, .ifCond .ne 45, 114, 0, 0, 0, []),
  (72, .aload_n 0, 0, 0, 0, 0, []),
  (73, .getfield 28, 6, 1, 0, 0, []),
  (76, .iload_n 3, 3, 0, 0, 0, []),
  (77, .invokevirtual 68, 2, 8, 0, 0, []),
  (80, .ifCond .eq 34, 114, 0, 0, 0, []),
  (83, .aload_n 0, 0, 0, 0, 0, []),
  (84, .getfield 28, 6, 1, 0, 0, []),
  (87, .iload_n 1, 1, 0, 0, 0, []),
  (88, .iload_n 3, 3, 0, 0, 0, []),
  (89, .invokevirtual 72, 3, 8, 0, 0, []),
  (92, .ifCond .eq 22, 114, 0, 0, 0, []),
  (95, .aload_n 0, 0, 0, 0, 0, []),
  (96, .getfield 18, 6, 5, 0, 0, []),
  (99, .iload_n 1, 1, 0, 0, 0, []),
  (100, .iload_n 3, 3, 0, 0, 0, []),
  (101, .iastore, 0, 0, 0, 0, []),
  (102, .aload_n 0, 0, 0, 0, 0, []),
  (103, .iload_n 1, 1, 0, 0, 0, []),
  (104, .iconst 1, 0, 0, 1, 0, []),
  (105, .iadd, 0, 0, 0, 0, []),
  (106, .iload_n 2, 2, 0, 0, 0, []),
  (107, .iconst 1, 0, 0, 1, 0, []),
  (108, .iload_n 3, 3, 0, 0, 0, []),
  (109, .ishl, 0, 0, 0, 0, []),
  (110, .ior, 0, 0, 0, 0, []),
  (111, .invokevirtual 36, 3, 6, 0, 0, []),
  (114, .iinc 3 1, 3, 0, 1, 0, []),
  (117, .goto (-64), 53, 0, 0, 0, []),
  (120, .aload_n 0, 0, 0, 0, 0, []),
  (121, .getfield 18, 6, 5, 0, 0, []),
  (124, .iload_n 1, 1, 0, 0, 0, []),
  (125, .iconst (-1), 0, 0, (-1), 0, []),
  (126, .iastore, 0, 0, 0, 0, []),
  (127, .aload_n 0, 0, 0, 0, 0, []),
  (128, .iload_n 1, 1, 0, 0, 0, []),
  (129, .iconst 1, 0, 0, 1, 0, []),
  (130, .iadd, 0, 0, 0, 0, []),
  (131, .iload_n 2, 2, 0, 0, 0, []),
  (132, .invokevirtual 36, 3, 6, 0, 0, []),
  (135, .return_, 0, 0, 0, 0, [])]
noncomputable def e6_chooseGuests (w : Nat → XF) : XN := [(45, 1, 1, 99, FJ_bitCount), (51, 1, 1, 8, F8_wall), (57, 1, 3, 6, (G2 20000 64 0)), (61, 0, 2, 6, F6_keepTried), (68, 1, 2, 8, F8_isCrying), (72, 1, 3, 8, F8_canReach), (36, 0, 3, 6, (w 0))]
noncomputable def W6_chooseGuests (N : Nat) (w : Nat → XF) : XF := fun av μ => match av with
  | [.inr (.inr (some (t0, i0, 0))), .inl p1, .inl p2] => bif Nat.beq t0 6 && Nat.beq i0 0 then xrun t6_chooseGuests (e6_chooseGuests w) (xrtk none) 85 N (xlo [xr 6 0 0, xi p1, xi p2] 4) μ else none
  | _ => none
noncomputable def G1 (N d : Nat) : Nat → XF := Nat.rec (fun _ _ _ => none) (fun _ w k => match k with
  | 0 => W6_chooseGuests N w
  | _ => fun _ _ => none) d
noncomputable def f6_chooseGuests (N d : Nat) (p1 : Int32) (p2 : Int32) (μ : XM) : XR := G1 N d 0 [xr 6 0 0, xi p1, xi p2] μ
noncomputable def h6_chooseGuests_16 (N d n : Nat) (v2 : Int32) (μ : XM) : XR := arr t6_chooseGuests (e6_chooseGuests (G1 N d)) 0 85 n 16 [some (xr 6 0 0), none, some (xi v2), none] [] μ
noncomputable def h6_chooseGuests_53 (N d n : Nat) (v1 : Int32) (v2 : Int32) (v3 : Int32) (μ : XM) : XR := arr t6_chooseGuests (e6_chooseGuests (G1 N d)) 0 85 n 53 [some (xr 6 0 0), some (xi v1), some (xi v2), some (xi v3)] [] μ
set_option maxRecDepth 100000 in
theorem h6_chooseGuests_16_s (N d n : Nat) (v2 : Int32) (μ : XM) : h6_chooseGuests_16 N d (n + 1) v2 μ = (
  bI (fJ_bitCount v2 μ) fun r2 m1 =>
  xite ((rI m1 6 0 2) < r2) (
    bI (f8_wall 0 m1) fun r4 m3 =>
    bI (f6_chooseBelts 20000 64 0 r4 m3) fun r6 m5 =>
    xite (r6 = 0) (
      xrv m5) (
      bI (fJ_bitCount v2 m5) fun r8 m7 =>
      bV (f6_keepTried r8 m7) fun m9 =>
      xrv m9)) (
    xrv m1)) := rfl
set_option maxRecDepth 100000 in
theorem h6_chooseGuests_53_s (N d n : Nat) (v1 : Int32) (v2 : Int32) (v3 : Int32) (μ : XM) : h6_chooseGuests_53 N d (n + 1) v1 v2 v3 μ = (
  xite (v3 < (rI μ 2 0 0)) (
    xite (((v2 >>> (v3 &&& 31)) &&& 1) = 0) (
      bI (f8_isCrying 0 v3 μ) fun r2 m1 =>
      xite (r2 = 0) (
        vI (v3 + 1) fun x3 =>
        h6_chooseGuests_53 N d n v1 v2 x3 m1) (
        bI (f8_canReach 0 v1 v3 m1) fun r5 m4 =>
        xite (r5 = 0) (
          vI (v3 + 1) fun x6 =>
          h6_chooseGuests_53 N d n v1 v2 x6 m4) (
          xck (xin v1 3 && true) <|
          mS (pI m4 6 0 5 (Int32.toNatClampNeg v1) v3) fun m7 =>
          bV (f6_chooseGuests N d (v1 + 1) (v2 ||| (1 <<< (v3 &&& 31))) m7) fun m8 =>
          vI (v3 + 1) fun x9 =>
          h6_chooseGuests_53 N d n v1 v2 x9 m8))) (
      vI (v3 + 1) fun x10 =>
      h6_chooseGuests_53 N d n v1 v2 x10 μ)) (
    xck (xin v1 3 && true) <|
    mS (pI μ 6 0 5 (Int32.toNatClampNeg v1) (-1)) fun m11 =>
    bV (f6_chooseGuests N d (v1 + 1) v2 m11) fun m12 =>
    xrv m12)) := rfl
set_option maxRecDepth 100000 in
theorem f6_chooseGuests_s (N d : Nat) (p1 : Int32) (p2 : Int32) (μ : XM) : f6_chooseGuests N (d + 1) p1 p2 μ = (
  xite (p1 < (rI μ 2 0 2)) (
    xite (p1 < 3) (
      vI 0 fun x1 =>
      h6_chooseGuests_53 N d N p1 p2 x1 μ) (
      h6_chooseGuests_16 N d N p2 μ)) (
    h6_chooseGuests_16 N d N p2 μ)) := rfl
theorem f6_chooseGuests_0 (N : Nat) (p1 : Int32) (p2 : Int32) (μ : XM) : f6_chooseGuests N 0 p1 p2 μ = none := rfl
set_option maxRecDepth 100000 in
theorem cG1 {X : XP} (hX : XOK X) (l : Launch) : ∀ d : Nat, Ctr X l y6_chooseGuests prog_8_method_3_code 4 none (xrm (67 + d)) 0 0 (G1 20000 d 0) := by
  intro d
  induction d with
  | zero => exact (fun av μ r μ' _ h => by cases h)
  | succ d ih =>
    exact Ctr_of (tab := t6_chooseGuests) (env := e6_chooseGuests (G1 20000 d)) (K := 85) (N := 20000) (fl := fl6) (cl := cl6) (ll := ll6) (jl := jl6) hX mf6_chooseGuests.2.2.2 ⟨by decide +kernel, flk6, clk6, llk6, jlk6⟩
      (List.forall_mem_cons.mpr ⟨xcal_s (cJ_bitCount hX l) mfJ_bitCount ⟨rfl, rfl⟩ ml6_45 msJ_bitCount (xrm_ok (by omega) (by decide)) (by decide +kernel), List.forall_mem_cons.mpr ⟨xcal_v (na := 0) (c8_wall hX l) mf8_wall ⟨rfl, rfl⟩ ml6_51 mi8_wall me8_wall (xrm_ok (by omega) (by decide)) rfl (by decide) (by decide +kernel), List.forall_mem_cons.mpr ⟨xcal_v (na := 2) ((cG2 hX l 64)) mf6_chooseBelts ⟨rfl, rfl⟩ ml6_57 mi6_chooseBelts me6_chooseBelts (xrm_ok (by omega) (by decide)) rfl (by decide) (by decide +kernel), List.forall_mem_cons.mpr ⟨xcal_v (na := 1) (c6_keepTried hX l) mf6_keepTried ⟨rfl, rfl⟩ ml6_61 mi6_keepTried me6_keepTried (xrm_ok (by omega) (by decide)) rfl (by decide) (by decide +kernel), List.forall_mem_cons.mpr ⟨xcal_v (na := 1) (c8_isCrying hX l) mf8_isCrying ⟨rfl, rfl⟩ ml6_68 mi8_isCrying me8_isCrying (xrm_ok (by omega) (by decide)) rfl (by decide) (by decide +kernel), List.forall_mem_cons.mpr ⟨xcal_v (na := 2) (c8_canReach hX l) mf8_canReach ⟨rfl, rfl⟩ ml6_72 mi8_canReach me8_canReach (xrm_ok (by omega) (by decide)) rfl (by decide) (by decide +kernel), List.forall_mem_cons.mpr ⟨xcal_v (na := 2) (ih) mf6_chooseGuests ⟨rfl, rfl⟩ ml6_36 mi6_chooseGuests me6_chooseGuests (xrm_ok (by omega) (by decide)) rfl (by decide) (by decide +kernel), fun _ h => absurd h List.not_mem_nil⟩⟩⟩⟩⟩⟩⟩)
      (xrm_1 (by omega)) ⟨_, _, rfl, rfl⟩ (fun av μ r μ' h => by
        replace h : W6_chooseGuests 20000 (G1 20000 d) av μ = some (r, μ') := h
        unfold W6_chooseGuests at h
        split at h
        · replace h := cond_inv h; obtain ⟨hb, h⟩ := h
          simp only [Bool.and_eq_true] at hb
          obtain ⟨g0, g1⟩ := hb
          obtain rfl := Nat.eq_of_beq_eq_true g0
          obtain rfl := Nat.eq_of_beq_eq_true g1
          exact ⟨Nat.le_of_ble_eq_true rfl, h⟩
        · cases h)
def t6_plan : List XE := [(0, .aload_n 0, 0, 0, 0, 0, []),
  (1, .iconst 0, 0, 0, 0, 0, []),
  (2, .putfield 32, 6, 2, 0, 0, []),
  (5, .iconst 0, 0, 0, 0, 0, []),
  (6, .istore_n 1, 1, 0, 0, 0, []),
  (7, .nop, 3, 0, 0, 0, []),
  (7, .iload_n 1, 1, 0, 0, 0, []),
  (8, .iconst 3, 0, 0, 3, 0, []),
  (9, .if_icmp .ge 23, 32, 0, 0, 0, []),
  (12, .aload_n 0, 0, 0, 0, 0, []),
  (13, .getfield 9, 6, 3, 0, 0, []),
  (16, .iload_n 1, 1, 0, 0, 0, []),
  (17, .iconst (-1), 0, 0, (-1), 0, []),
  (18, .iastore, 0, 0, 0, 0, []),
  (19, .aload_n 0, 0, 0, 0, 0, []),
  (20, .getfield 15, 6, 4, 0, 0, []),
  (23, .iload_n 1, 1, 0, 0, 0, []),
  (24, .iconst (-1), 0, 0, (-1), 0, []),
  (25, .iastore, 0, 0, 0, 0, []),
  (26, .iinc 1 1, 1, 0, 1, 0, []),
  (29, .goto (-22), 7, 0, 0, 0, []),
  (32, .aload_n 0, 0, 0, 0, 0, []),
  (33, .iconst 0, 0, 0, 0, 0, []),
  (34, .iconst 0, 0, 0, 0, 0, []),
  (35, .invokevirtual 36, 3, 6, 0, 0, []),
  (38, .return_, 0, 0, 0, 0, [])]
noncomputable def e6_plan : XN := [(36, 0, 3, 6, (G1 20000 64 0))]
noncomputable def h6_plan_7 (n : Nat) (v1 : Int32) (μ : XM) : XR := arr t6_plan e6_plan 0 31 n 7 [some (xr 6 0 0), some (xi v1)] [] μ
set_option maxRecDepth 100000 in
theorem h6_plan_7_s (n : Nat) (v1 : Int32) (μ : XM) : h6_plan_7 (n + 1) v1 μ = (
  xite (v1 < 3) (
    xck (xin v1 3 && true) <|
    mS (pI μ 6 0 3 (Int32.toNatClampNeg v1) (-1)) fun m1 =>
    xck (xin v1 3 && true) <|
    mS (pI m1 6 0 4 (Int32.toNatClampNeg v1) (-1)) fun m2 =>
    vI (v1 + 1) fun x3 =>
    h6_plan_7 n x3 m2) (
    bV (f6_chooseGuests 20000 64 0 0 μ) fun m4 =>
    xrv m4)) := rfl
theorem h6_plan_7_0 (v1 : Int32) (μ : XM) : h6_plan_7 0 v1 μ = none := rfl
noncomputable def k6_plan (n : Nat) (μ : XM) : XR :=
  mS (sI μ 6 0 2 0) fun m1 =>
  vI 0 fun x2 =>
  h6_plan_7 n x2 m1
set_option maxRecDepth 100000 in
theorem q6_plan (n : Nat) (μ : XM) : xrun t6_plan e6_plan (xrtk none) 31 n (xlo [xr 6 0 0] 2) μ = k6_plan n  μ := rfl
theorem x6_plan : ∃ f : XM → XR, ∀ (μ : XM), f μ = k6_plan 20000  μ := ⟨fun μ => k6_plan 20000  μ, fun μ => rfl⟩
noncomputable def f6_plan : XM → XR := Classical.choose x6_plan
theorem f6_plan_e (μ : XM) : f6_plan μ = k6_plan 20000  μ := Classical.choose_spec x6_plan μ
noncomputable def F6_plan : XF := fun av μ => match av with
  | [.inr (.inr (some (t0, i0, 0)))] => bif Nat.beq t0 6 && Nat.beq i0 0 then f6_plan  μ else none
  | _ => none
set_option maxRecDepth 100000 in
theorem c6_plan {X : XP} (hX : XOK X) (l : Launch) : Ctr X l y6_plan prog_8_method_2_code 2 none (xrm 132) 0 0 F6_plan :=
  Ctr_of (tab := t6_plan) (env := e6_plan) (K := 31) (N := 20000) (fl := fl6) (cl := cl6) (ll := ll6) (jl := jl6) hX mf6_plan.2.2.2 ⟨by decide +kernel, flk6, clk6, llk6, jlk6⟩
   (List.forall_mem_cons.mpr ⟨xcal_v (na := 2) ((cG1 hX l 64)) mf6_chooseGuests ⟨rfl, rfl⟩ ml6_36 mi6_chooseGuests me6_chooseGuests (xrm_ok (by omega) (by decide)) rfl (by decide) (by decide +kernel), fun _ h => absurd h List.not_mem_nil⟩)
   (xrm_1 (by decide)) ⟨_, _, rfl, rfl⟩ (fun av μ r μ' h => by
    unfold F6_plan at h
    split at h
    · replace h := cond_inv h; obtain ⟨hb, h⟩ := h
      simp only [Bool.and_eq_true] at hb
      obtain ⟨g0, g1⟩ := hb
      obtain rfl := Nat.eq_of_beq_eq_true g0
      obtain rfl := Nat.eq_of_beq_eq_true g1
      exact ⟨Nat.le_of_ble_eq_true rfl, (q6_plan _  _).trans ((f6_plan_e  _).symm.trans h)⟩
    · cases h)
def t7_readName : List XE := [(0, .aload_n 0, 0, 0, 0, 0, []),
  (1, .getfield 18, 7, 1, 0, 0, []),
  (4, .invokevirtual 150, 1, 10, 0, 0, []),
  (7, .ifCond .ne 5, 12, 0, 0, 0, []),
  (10, .iconst 0, 0, 0, 0, 0, []),
  (11, .ireturn, 0, 0, 0, 0, []),
  (12, .aload_n 0, 0, 0, 0, 0, []),
  (13, .getfield 12, 7, 0, 0, 0, []),
  (16, .aload_n 0, 0, 0, 0, 0, []),
  (17, .getfield 18, 7, 1, 0, 0, []),
  (20, .getfield 153, 10, 6, 0, 0, []),
  (23, .invokevirtual 157, 2, 2, 0, 0, []),
  (26, .ifCond .eq 12, 38, 0, 0, 0, []),
  (29, .aload_n 0, 0, 0, 0, 0, []),
  (30, .getfield 18, 7, 1, 0, 0, []),
  (33, .iconst 3, 0, 0, 3, 0, []),
  (34, .invokevirtual 73, 2, 10, 0, 0, []),
  (37, .ireturn, 0, 0, 0, 0, []),
  (38, .iload_n 2, 2, 0, 0, 0, []),
  (39, .ifCond .lt 19, 58, 0, 0, 0, []),
  (42, .iload_n 2, 2, 0, 0, 0, []),
  (43, .aload_n 1, 1, 0, 0, 0, []),
  (44, .arraylength, 0, 0, 0, 0, []),
  (45, .if_icmp .ge 13, 58, 0, 0, 0, []),
  (48, .aload_n 1, 1, 0, 0, 0, []),
  (49, .iload_n 2, 2, 0, 0, 0, []),
  (50, .aload_n 0, 0, 0, 0, 0, []),
  (51, .getfield 18, 7, 1, 0, 0, []),
  (54, .getfield 153, 10, 6, 0, 0, []),
  (57, .lastore, 0, 0, 0, 0, []),
  (58, .aload_n 0, 0, 0, 0, 0, []),
  (59, .getfield 18, 7, 1, 0, 0, []),
  (62, .invokevirtual 79, 1, 10, 0, 0, []),
  (65, .iconst 1, 0, 0, 1, 0, []),
  (66, .ireturn, 0, 0, 0, 0, [])]
noncomputable def e7_readName : XN := [(150, 1, 1, 10, F10_isName), (157, 1, 2, 2, F2_isTold), (73, 1, 2, 10, F10_wrong), (79, 0, 1, 10, F10_advance)]
noncomputable def k7_readName_gn (i1 : Nat) (p2 : Int32) (μ : XM) : XR :=
  bI (f10_isName μ) fun r2 m1 =>
  xite (r2 = 0) (
    xrb 0 m1) (
    bI (f2_isTold 1 (rL m1 10 0 6) m1) fun r4 m3 =>
    xite (r4 = 0) (
      xite (p2 < 0) (
        bV (f10_advance m3) fun m5 =>
        xrb 1 m5) (
        xite (p2 < (nI 6)) (
          xck (xin p2 6) <|
          mS (pL m3 2 i1 5 (Int32.toNatClampNeg p2) (rL m3 10 0 6)) fun m6 =>
          bV (f10_advance m6) fun m7 =>
          xrb 1 m7) (
          bV (f10_advance m3) fun m8 =>
          xrb 1 m8))) (
      bI (f10_wrong 3 m3) fun r10 m9 =>
      xrb r10 m9))
set_option maxRecDepth 100000 in
theorem q7_readName_gn (n : Nat) (i1 : Nat) (p2 : Int32) (μ : XM) : xrun t7_readName e7_readName (xrtk (some .boolean)) 40 n (xlo [xr 7 0 0, xr 2 i1 6, xi p2] 3) μ = k7_readName_gn i1 p2 μ := rfl
theorem x7_readName_gn : ∃ f : Nat → Int32 → XM → XR, ∀ (i1 : Nat) (p2 : Int32) (μ : XM), f i1 p2 μ = k7_readName_gn i1 p2 μ := ⟨fun i1 p2 μ => k7_readName_gn i1 p2 μ, fun i1 p2 μ => rfl⟩
noncomputable def f7_readName_gn : Nat → Int32 → XM → XR := Classical.choose x7_readName_gn
theorem f7_readName_gn_e (i1 : Nat) (p2 : Int32) (μ : XM) : f7_readName_gn i1 p2 μ = k7_readName_gn i1 p2 μ := Classical.choose_spec x7_readName_gn i1 p2 μ
noncomputable def k7_readName_bn (i1 : Nat) (p2 : Int32) (μ : XM) : XR :=
  bI (f10_isName μ) fun r2 m1 =>
  xite (r2 = 0) (
    xrb 0 m1) (
    bI (f2_isTold 1 (rL m1 10 0 6) m1) fun r4 m3 =>
    xite (r4 = 0) (
      xite (p2 < 0) (
        bV (f10_advance m3) fun m5 =>
        xrb 1 m5) (
        xite (p2 < (nI 5)) (
          xck (xin p2 5) <|
          mS (pL m3 2 i1 11 (Int32.toNatClampNeg p2) (rL m3 10 0 6)) fun m6 =>
          bV (f10_advance m6) fun m7 =>
          xrb 1 m7) (
          bV (f10_advance m3) fun m8 =>
          xrb 1 m8))) (
      bI (f10_wrong 3 m3) fun r10 m9 =>
      xrb r10 m9))
set_option maxRecDepth 100000 in
theorem q7_readName_bn (n : Nat) (i1 : Nat) (p2 : Int32) (μ : XM) : xrun t7_readName e7_readName (xrtk (some .boolean)) 40 n (xlo [xr 7 0 0, xr 2 i1 12, xi p2] 3) μ = k7_readName_bn i1 p2 μ := rfl
theorem x7_readName_bn : ∃ f : Nat → Int32 → XM → XR, ∀ (i1 : Nat) (p2 : Int32) (μ : XM), f i1 p2 μ = k7_readName_bn i1 p2 μ := ⟨fun i1 p2 μ => k7_readName_bn i1 p2 μ, fun i1 p2 μ => rfl⟩
noncomputable def f7_readName_bn : Nat → Int32 → XM → XR := Classical.choose x7_readName_bn
theorem f7_readName_bn_e (i1 : Nat) (p2 : Int32) (μ : XM) : f7_readName_bn i1 p2 μ = k7_readName_bn i1 p2 μ := Classical.choose_spec x7_readName_bn i1 p2 μ
noncomputable def k7_readName_mn (i1 : Nat) (p2 : Int32) (μ : XM) : XR :=
  bI (f10_isName μ) fun r2 m1 =>
  xite (r2 = 0) (
    xrb 0 m1) (
    bI (f2_isTold 1 (rL m1 10 0 6) m1) fun r4 m3 =>
    xite (r4 = 0) (
      xite (p2 < 0) (
        bV (f10_advance m3) fun m5 =>
        xrb 1 m5) (
        xite (p2 < (nI 3)) (
          xck (xin p2 3) <|
          mS (pL m3 2 i1 13 (Int32.toNatClampNeg p2) (rL m3 10 0 6)) fun m6 =>
          bV (f10_advance m6) fun m7 =>
          xrb 1 m7) (
          bV (f10_advance m3) fun m8 =>
          xrb 1 m8))) (
      bI (f10_wrong 3 m3) fun r10 m9 =>
      xrb r10 m9))
set_option maxRecDepth 100000 in
theorem q7_readName_mn (n : Nat) (i1 : Nat) (p2 : Int32) (μ : XM) : xrun t7_readName e7_readName (xrtk (some .boolean)) 40 n (xlo [xr 7 0 0, xr 2 i1 14, xi p2] 3) μ = k7_readName_mn i1 p2 μ := rfl
theorem x7_readName_mn : ∃ f : Nat → Int32 → XM → XR, ∀ (i1 : Nat) (p2 : Int32) (μ : XM), f i1 p2 μ = k7_readName_mn i1 p2 μ := ⟨fun i1 p2 μ => k7_readName_mn i1 p2 μ, fun i1 p2 μ => rfl⟩
noncomputable def f7_readName_mn : Nat → Int32 → XM → XR := Classical.choose x7_readName_mn
theorem f7_readName_mn_e (i1 : Nat) (p2 : Int32) (μ : XM) : f7_readName_mn i1 p2 μ = k7_readName_mn i1 p2 μ := Classical.choose_spec x7_readName_mn i1 p2 μ
noncomputable def F7_readName : XF := fun av μ => match av with
  | [.inr (.inr (some (t0, i0, 0))), .inr (.inr (some (t1, i1, j1 + 1))), .inl p2] => bif Nat.beq t0 7 && Nat.beq i0 0 && Nat.beq t1 2 && Nat.beq j1 5 then f7_readName_gn i1 p2 μ else bif Nat.beq t0 7 && Nat.beq i0 0 && Nat.beq t1 2 && Nat.beq j1 11 then f7_readName_bn i1 p2 μ else bif Nat.beq t0 7 && Nat.beq i0 0 && Nat.beq t1 2 && Nat.beq j1 13 then f7_readName_mn i1 p2 μ else none
  | _ => none
set_option maxRecDepth 100000 in
theorem c7_readName {X : XP} (hX : XOK X) (l : Launch) : Ctr X l y7_readName prog_9_method_9_code 3 (some .boolean) (xrm 11) 0 0 F7_readName :=
  Ctr_of (tab := t7_readName) (env := e7_readName) (K := 40) (N := 20000) (fl := fl7) (cl := cl7) (ll := ll7) (jl := jl7) hX mf7_readName.2.2.2 ⟨by decide +kernel, flk7, clk7, llk7, jlk7⟩
   (List.forall_mem_cons.mpr ⟨xcal_v (na := 0) (c10_isName hX l) mf10_isName ⟨rfl, rfl⟩ ml7_150 mi10_isName me10_isName (xrm_ok (by omega) (by decide)) rfl (by decide) (by decide +kernel), List.forall_mem_cons.mpr ⟨xcal_v (na := 1) (c2_isTold hX l) mf2_isTold ⟨rfl, rfl⟩ ml7_157 mi2_isTold me2_isTold (xrm_ok (by omega) (by decide)) rfl (by decide) (by decide +kernel), List.forall_mem_cons.mpr ⟨xcal_v (na := 1) (c10_wrong hX l) mf10_wrong ⟨rfl, rfl⟩ ml7_73 mi10_wrong me10_wrong (xrm_ok (by omega) (by decide)) rfl (by decide) (by decide +kernel), List.forall_mem_cons.mpr ⟨xcal_v (na := 0) (c10_advance hX l) mf10_advance ⟨rfl, rfl⟩ ml7_79 mi10_advance me10_advance (xrm_ok (by omega) (by decide)) rfl (by decide) (by decide +kernel), fun _ h => absurd h List.not_mem_nil⟩⟩⟩⟩)
   (xrm_1 (by decide)) ⟨_, _, rfl, rfl⟩ (fun av μ r μ' h => by
    unfold F7_readName at h
    split at h
    · rcases xcond_inv h with ⟨hb, h⟩ | h
      · simp only [Bool.and_eq_true] at hb
        obtain ⟨⟨⟨g0, g1⟩, g2⟩, g3⟩ := hb
        obtain rfl := Nat.eq_of_beq_eq_true g0
        obtain rfl := Nat.eq_of_beq_eq_true g1
        obtain rfl := Nat.eq_of_beq_eq_true g2
        obtain rfl := Nat.eq_of_beq_eq_true g3
        exact ⟨Nat.le_of_ble_eq_true rfl, (q7_readName_gn _ _ _ _).trans ((f7_readName_gn_e _ _ _).symm.trans h)⟩
      · skip
        rcases xcond_inv h with ⟨hb, h⟩ | h
        · simp only [Bool.and_eq_true] at hb
          obtain ⟨⟨⟨g0, g1⟩, g2⟩, g3⟩ := hb
          obtain rfl := Nat.eq_of_beq_eq_true g0
          obtain rfl := Nat.eq_of_beq_eq_true g1
          obtain rfl := Nat.eq_of_beq_eq_true g2
          obtain rfl := Nat.eq_of_beq_eq_true g3
          exact ⟨Nat.le_of_ble_eq_true rfl, (q7_readName_bn _ _ _ _).trans ((f7_readName_bn_e _ _ _).symm.trans h)⟩
        · skip
          rcases xcond_inv h with ⟨hb, h⟩ | h
          · simp only [Bool.and_eq_true] at hb
            obtain ⟨⟨⟨g0, g1⟩, g2⟩, g3⟩ := hb
            obtain rfl := Nat.eq_of_beq_eq_true g0
            obtain rfl := Nat.eq_of_beq_eq_true g1
            obtain rfl := Nat.eq_of_beq_eq_true g2
            obtain rfl := Nat.eq_of_beq_eq_true g3
            exact ⟨Nat.le_of_ble_eq_true rfl, (q7_readName_mn _ _ _ _).trans ((f7_readName_mn_e _ _ _).symm.trans h)⟩
          · cases h
    · cases h)
