def t11_undo : List XE := [(0, .aload_n 0, 0, 0, 0, 0, []),
  (1, .getfield 57, 11, 7, 0, 0, []),
  (4, .aload_n 0, 0, 0, 0, 0, []),
  (5, .getfield 47, 11, 5, 0, 0, []),
  (8, .invokevirtual 210, 2, 0, 0, 0, []),
  (11, .ireturn, 0, 0, 0, 0, [])]
noncomputable def e11_undo : XN := [(210, 1, 2, 0, F0_bringBack)]
noncomputable def k11_undo (μ : XM) : XR :=
  bI (f0_bringBack 0 μ) fun r2 m1 =>
  xrb r2 m1
set_option maxRecDepth 100000 in
theorem q11_undo (n : Nat) (μ : XM) : xrun t11_undo e11_undo (xrtk (some .boolean)) 11 n (xlo [xr 11 0 0] 1) μ = k11_undo  μ := rfl
theorem x11_undo : ∃ f : XM → XR, ∀ (μ : XM), f μ = k11_undo  μ := ⟨fun μ => k11_undo  μ, fun μ => rfl⟩
noncomputable def f11_undo : XM → XR := Classical.choose x11_undo
theorem f11_undo_e (μ : XM) : f11_undo μ = k11_undo  μ := Classical.choose_spec x11_undo μ
noncomputable def F11_undo : XF := fun av μ => match av with
  | [.inr (.inr (some (t0, i0, 0)))] => bif Nat.beq t0 11 && Nat.beq i0 0 then f11_undo  μ else none
  | _ => none
set_option maxRecDepth 100000 in
theorem c11_undo {X : XP} (hX : XOK X) (l : Launch) : Ctr X l y11_undo prog_1_method_13_code 1 (some .boolean) (xrm 3) 0 0 F11_undo :=
  Ctr_of (tab := t11_undo) (env := e11_undo) (K := 11) (N := 20000) (fl := fl11) (cl := cl11) (ll := ll11) (jl := jl11) hX mf11_undo.2.2.2 ⟨by decide +kernel, flk11, clk11, llk11, jlk11⟩
   (List.forall_mem_cons.mpr ⟨xcal_v (na := 1) (c0_bringBack hX l) mf0_bringBack ⟨rfl, rfl⟩ ml11_210 mi0_bringBack me0_bringBack (xrm_ok (by omega) (by decide)) rfl (by decide) (by decide +kernel), fun _ h => absurd h List.not_mem_nil⟩)
   (xrm_1 (by decide)) ⟨_, _, rfl, rfl⟩ (fun av μ r μ' h => by
    unfold F11_undo at h
    split at h
    · replace h := cond_inv h; obtain ⟨hb, h⟩ := h
      simp only [Bool.and_eq_true] at hb
      obtain ⟨g0, g1⟩ := hb
      obtain rfl := Nat.eq_of_beq_eq_true g0
      obtain rfl := Nat.eq_of_beq_eq_true g1
      exact ⟨Nat.le_of_ble_eq_true rfl, (q11_undo _  _).trans ((f11_undo_e  _).symm.trans h)⟩
    · cases h)
def t11_judged : List XE := [(0, .iload_n 1, 1, 0, 0, 0, []),
  (1, .ifCond .lt 8, 9, 0, 0, 0, []),
  (4, .iload_n 1, 1, 0, 0, 0, []),
  (5, .iconst 2, 0, 0, 2, 0, []),
  (6, .if_icmp .le 6, 12, 0, 0, 0, []),
  (9, .bipush (-2), 0, 0, (-2), 0, []),
  (11, .ireturn, 0, 0, 0, 0, []),
  (12, .aload_n 0, 0, 0, 0, 0, []),
  (13, .getfield 35, 11, 3, 0, 0, []),
  (16, .aload_n 0, 0, 0, 0, 0, []),
  (17, .getfield 51, 11, 6, 0, 0, []),
  (20, .iload_n 1, 1, 0, 0, 0, []),
  (21, .invokevirtual 214, 3, 1, 0, 0, []),
  (24, .ireturn, 0, 0, 0, 0, [])]
noncomputable def e11_judged : XN := [(214, 1, 3, 1, F1_judge)]
noncomputable def k11_judged (p1 : Int32) (μ : XM) : XR :=
  xite (p1 < 0) (
    xri (-2) μ) (
    xite ((2 : Int32) < p1) (
      xri (-2) μ) (
      bI (f1_judge 0 1 p1 μ) fun r2 m1 =>
      xri r2 m1))
set_option maxRecDepth 100000 in
theorem q11_judged (n : Nat) (p1 : Int32) (μ : XM) : xrun t11_judged e11_judged (xrtk (some .int)) 19 n (xlo [xr 11 0 0, xi p1] 2) μ = k11_judged p1 μ := rfl
theorem x11_judged : ∃ f : Int32 → XM → XR, ∀ (p1 : Int32) (μ : XM), f p1 μ = k11_judged p1 μ := ⟨fun p1 μ => k11_judged p1 μ, fun p1 μ => rfl⟩
noncomputable def f11_judged : Int32 → XM → XR := Classical.choose x11_judged
theorem f11_judged_e (p1 : Int32) (μ : XM) : f11_judged p1 μ = k11_judged p1 μ := Classical.choose_spec x11_judged p1 μ
noncomputable def F11_judged : XF := fun av μ => match av with
  | [.inr (.inr (some (t0, i0, 0))), .inl p1] => bif Nat.beq t0 11 && Nat.beq i0 0 then f11_judged p1 μ else none
  | _ => none
set_option maxRecDepth 100000 in
theorem c11_judged {X : XP} (hX : XOK X) (l : Launch) : Ctr X l y11_judged prog_1_method_14_code 2 (some .int) (xrm 7) 0 0 F11_judged :=
  Ctr_of (tab := t11_judged) (env := e11_judged) (K := 19) (N := 20000) (fl := fl11) (cl := cl11) (ll := ll11) (jl := jl11) hX mf11_judged.2.2.2 ⟨by decide +kernel, flk11, clk11, llk11, jlk11⟩
   (List.forall_mem_cons.mpr ⟨xcal_v (na := 2) (c1_judge hX l) mf1_judge ⟨rfl, rfl⟩ ml11_214 mi1_judge me1_judge (xrm_ok (by omega) (by decide)) rfl (by decide) (by decide +kernel), fun _ h => absurd h List.not_mem_nil⟩)
   (xrm_1 (by decide)) ⟨_, _, rfl, rfl⟩ (fun av μ r μ' h => by
    unfold F11_judged at h
    split at h
    · replace h := cond_inv h; obtain ⟨hb, h⟩ := h
      simp only [Bool.and_eq_true] at hb
      obtain ⟨g0, g1⟩ := hb
      obtain rfl := Nat.eq_of_beq_eq_true g0
      obtain rfl := Nat.eq_of_beq_eq_true g1
      exact ⟨Nat.le_of_ble_eq_true rfl, (q11_judged _ _ _).trans ((f11_judged_e _ _).symm.trans h)⟩
    · cases h)
def t11_under : List XE := [(0, .iconst 0, 0, 0, 0, 0, []),
  (1, .istore_n 1, 1, 0, 0, 0, []),
  (2, .iconst 0, 0, 0, 0, 0, []),
  (3, .istore_n 2, 2, 0, 0, 0, []),
  (4, .nop, 7, 0, 0, 0, []),
  (4, .iload_n 2, 2, 0, 0, 0, []),
  (5, .aload_n 0, 0, 0, 0, 0, []),
  (6, .getfield 19, 11, 1, 0, 0, []),
  (9, .getfield 218, 2, 0, 0, 0, []),
  (12, .if_icmp .ge 26, 38, 0, 0, 0, []),
  (15, .aload_n 0, 0, 0, 0, 0, []),
  (16, .getfield 47, 11, 5, 0, 0, []),
  (19, .iload_n 2, 2, 0, 0, 0, []),
  (20, .invokevirtual 221, 2, 8, 0, 0, []),
  (23, .ifCond .eq 9, 32, 0, 0, 0, []),
  (26, .iload_n 1, 1, 0, 0, 0, []),
  (27, .iconst 1, 0, 0, 1, 0, []),
  (28, .iload_n 2, 2, 0, 0, 0, []),
  (29, .ishl, 0, 0, 0, 0, []),
  (30, .ior, 0, 0, 0, 0, []),
  (31, .istore_n 1, 1, 0, 0, 0, []),
  (32, .iinc 2 1, 2, 0, 1, 0, []),
  (35, .goto (-31), 4, 0, 0, 0, []),
  (38, .iload_n 1, 1, 0, 0, 0, []),
  (39, .ireturn, 0, 0, 0, 0, [])]
noncomputable def e11_under : XN := [(221, 1, 2, 8, F8_isUnder)]
noncomputable def h11_under_4 (n : Nat) (v1 : Int32) (v2 : Int32) (μ : XM) : XR := arr t11_under e11_under 1 30 n 4 [some (xr 11 0 0), some (xi v1), some (xi v2)] [] μ
set_option maxRecDepth 100000 in
theorem h11_under_4_s (n : Nat) (v1 : Int32) (v2 : Int32) (μ : XM) : h11_under_4 (n + 1) v1 v2 μ = (
  xite (v2 < (rI μ 2 0 0)) (
    bI (f8_isUnder 0 v2 μ) fun r2 m1 =>
    xite (r2 = 0) (
      vI (v2 + 1) fun x3 =>
      h11_under_4 n v1 x3 m1) (
      vI (v1 ||| (1 <<< (v2 &&& 31))) fun x4 =>
      vI (v2 + 1) fun x5 =>
      h11_under_4 n x4 x5 m1)) (
    xri v1 μ)) := rfl
theorem h11_under_4_0 (v1 : Int32) (v2 : Int32) (μ : XM) : h11_under_4 0 v1 v2 μ = none := rfl
noncomputable def k11_under (n : Nat) (μ : XM) : XR :=
  vI 0 fun x1 =>
  vI 0 fun x2 =>
  h11_under_4 n x1 x2 μ
set_option maxRecDepth 100000 in
theorem q11_under (n : Nat) (μ : XM) : xrun t11_under e11_under (xrtk (some .int)) 30 n (xlo [xr 11 0 0] 3) μ = k11_under n  μ := rfl
theorem x11_under : ∃ f : XM → XR, ∀ (μ : XM), f μ = k11_under 20000  μ := ⟨fun μ => k11_under 20000  μ, fun μ => rfl⟩
noncomputable def f11_under : XM → XR := Classical.choose x11_under
theorem f11_under_e (μ : XM) : f11_under μ = k11_under 20000  μ := Classical.choose_spec x11_under μ
noncomputable def F11_under : XF := fun av μ => match av with
  | [.inr (.inr (some (t0, i0, 0)))] => bif Nat.beq t0 11 && Nat.beq i0 0 then f11_under  μ else none
  | _ => none
set_option maxRecDepth 100000 in
theorem c11_under {X : XP} (hX : XOK X) (l : Launch) : Ctr X l y11_under prog_1_method_15_code 3 (some .int) (xrm 3) 0 0 F11_under :=
  Ctr_of (tab := t11_under) (env := e11_under) (K := 30) (N := 20000) (fl := fl11) (cl := cl11) (ll := ll11) (jl := jl11) hX mf11_under.2.2.2 ⟨by decide +kernel, flk11, clk11, llk11, jlk11⟩
   (List.forall_mem_cons.mpr ⟨xcal_v (na := 1) (c8_isUnder hX l) mf8_isUnder ⟨rfl, rfl⟩ ml11_221 mi8_isUnder me8_isUnder (xrm_ok (by omega) (by decide)) rfl (by decide) (by decide +kernel), fun _ h => absurd h List.not_mem_nil⟩)
   (xrm_1 (by decide)) ⟨_, _, rfl, rfl⟩ (fun av μ r μ' h => by
    unfold F11_under at h
    split at h
    · replace h := cond_inv h; obtain ⟨hb, h⟩ := h
      simp only [Bool.and_eq_true] at hb
      obtain ⟨g0, g1⟩ := hb
      obtain rfl := Nat.eq_of_beq_eq_true g0
      obtain rfl := Nat.eq_of_beq_eq_true g1
      exact ⟨Nat.le_of_ble_eq_true rfl, (q11_under _  _).trans ((f11_under_e  _).symm.trans h)⟩
    · cases h)
def t11_cries : List XE := [(0, .aload_n 0, 0, 0, 0, 0, []),
  (1, .getfield 47, 11, 5, 0, 0, []),
  (4, .invokevirtual 224, 1, 8, 0, 0, []),
  (7, .ireturn, 0, 0, 0, 0, [])]
noncomputable def e11_cries : XN := [(224, 1, 1, 8, F8_criers)]
noncomputable def k11_cries (μ : XM) : XR :=
  bI (f8_criers 0 μ) fun r2 m1 =>
  xri r2 m1
set_option maxRecDepth 100000 in
theorem q11_cries (n : Nat) (μ : XM) : xrun t11_cries e11_cries (xrtk (some .int)) 9 n (xlo [xr 11 0 0] 1) μ = k11_cries  μ := rfl
theorem x11_cries : ∃ f : XM → XR, ∀ (μ : XM), f μ = k11_cries  μ := ⟨fun μ => k11_cries  μ, fun μ => rfl⟩
noncomputable def f11_cries : XM → XR := Classical.choose x11_cries
theorem f11_cries_e (μ : XM) : f11_cries μ = k11_cries  μ := Classical.choose_spec x11_cries μ
noncomputable def F11_cries : XF := fun av μ => match av with
  | [.inr (.inr (some (t0, i0, 0)))] => bif Nat.beq t0 11 && Nat.beq i0 0 then f11_cries  μ else none
  | _ => none
set_option maxRecDepth 100000 in
theorem c11_cries {X : XP} (hX : XOK X) (l : Launch) : Ctr X l y11_cries prog_1_method_16_code 1 (some .int) (xrm 5) 0 0 F11_cries :=
  Ctr_of (tab := t11_cries) (env := e11_cries) (K := 9) (N := 20000) (fl := fl11) (cl := cl11) (ll := ll11) (jl := jl11) hX mf11_cries.2.2.2 ⟨by decide +kernel, flk11, clk11, llk11, jlk11⟩
   (List.forall_mem_cons.mpr ⟨xcal_v (na := 0) (c8_criers hX l) mf8_criers ⟨rfl, rfl⟩ ml11_224 mi8_criers me8_criers (xrm_ok (by omega) (by decide)) rfl (by decide) (by decide +kernel), fun _ h => absurd h List.not_mem_nil⟩)
   (xrm_1 (by decide)) ⟨_, _, rfl, rfl⟩ (fun av μ r μ' h => by
    unfold F11_cries at h
    split at h
    · replace h := cond_inv h; obtain ⟨hb, h⟩ := h
      simp only [Bool.and_eq_true] at hb
      obtain ⟨g0, g1⟩ := hb
      obtain rfl := Nat.eq_of_beq_eq_true g0
      obtain rfl := Nat.eq_of_beq_eq_true g1
      exact ⟨Nat.le_of_ble_eq_true rfl, (q11_cries _  _).trans ((f11_cries_e  _).symm.trans h)⟩
    · cases h)
def t11_goAhead : List XE := [(0, .aload_n 0, 0, 0, 0, 0, []),
  (1, .getfield 51, 11, 6, 0, 0, []),
  (4, .aload_n 0, 0, 0, 0, 0, []),
  (5, .getfield 47, 11, 5, 0, 0, []),
  (8, .invokevirtual 233, 2, 8, 0, 0, []),
  (11, .iconst 0, 0, 0, 0, 0, []),
  (12, .istore_n 2, 2, 0, 0, 0, []),
  (13, .nop, 7, 0, 0, 0, []),
  (13, .iload_n 2, 2, 0, 0, 0, []),
  (14, .iload_n 1, 1, 0, 0, 0, []),
  (15, .if_icmp .ge 17, 32, 0, 0, 0, []),
  (18, .aload_n 0, 0, 0, 0, 0, []),
  (19, .getfield 51, 11, 6, 0, 0, []),
  (22, .invokevirtual 207, 1, 8, 0, 0, []),
  (25, .pop, 0, 0, 0, 0, []),
  (26, .iinc 2 1, 2, 0, 1, 0, []),
  (29, .goto (-16), 13, 0, 0, 0, []),
  (32, .return_, 0, 0, 0, 0, [])]
noncomputable def e11_goAhead : XN := [(233, 0, 2, 8, F8_copyFrom), (207, 1, 1, 8, F8_pass)]
noncomputable def h11_goAhead_13 (n : Nat) (v1 : Int32) (v2 : Int32) (μ : XM) : XR := arr t11_goAhead e11_goAhead 0 23 n 13 [some (xr 11 0 0), some (xi v1), some (xi v2)] [] μ
set_option maxRecDepth 100000 in
theorem h11_goAhead_13_s (n : Nat) (v1 : Int32) (v2 : Int32) (μ : XM) : h11_goAhead_13 (n + 1) v1 v2 μ = (
  xite (v2 < v1) (
    bI (f8_pass 1 μ) fun r2 m1 =>
    vI (v2 + 1) fun x3 =>
    h11_goAhead_13 n v1 x3 m1) (
    xrv μ)) := rfl
theorem h11_goAhead_13_0 (v1 : Int32) (v2 : Int32) (μ : XM) : h11_goAhead_13 0 v1 v2 μ = none := rfl
noncomputable def k11_goAhead (n : Nat) (p1 : Int32) (μ : XM) : XR :=
  bV (f8_copyFrom 1 0 μ) fun m1 =>
  vI 0 fun x2 =>
  h11_goAhead_13 n p1 x2 m1
set_option maxRecDepth 100000 in
theorem q11_goAhead (n : Nat) (p1 : Int32) (μ : XM) : xrun t11_goAhead e11_goAhead (xrtk none) 23 n (xlo [xr 11 0 0, xi p1] 3) μ = k11_goAhead n p1 μ := rfl
theorem x11_goAhead : ∃ f : Int32 → XM → XR, ∀ (p1 : Int32) (μ : XM), f p1 μ = k11_goAhead 20000 p1 μ := ⟨fun p1 μ => k11_goAhead 20000 p1 μ, fun p1 μ => rfl⟩
noncomputable def f11_goAhead : Int32 → XM → XR := Classical.choose x11_goAhead
theorem f11_goAhead_e (p1 : Int32) (μ : XM) : f11_goAhead p1 μ = k11_goAhead 20000 p1 μ := Classical.choose_spec x11_goAhead p1 μ
noncomputable def F11_goAhead : XF := fun av μ => match av with
  | [.inr (.inr (some (t0, i0, 0))), .inl p1] => bif Nat.beq t0 11 && Nat.beq i0 0 then f11_goAhead p1 μ else none
  | _ => none
set_option maxRecDepth 100000 in
theorem c11_goAhead {X : XP} (hX : XOK X) (l : Launch) : Ctr X l y11_goAhead prog_1_method_18_code 3 none (xrm 5) 0 0 F11_goAhead :=
  Ctr_of (tab := t11_goAhead) (env := e11_goAhead) (K := 23) (N := 20000) (fl := fl11) (cl := cl11) (ll := ll11) (jl := jl11) hX mf11_goAhead.2.2.2 ⟨by decide +kernel, flk11, clk11, llk11, jlk11⟩
   (List.forall_mem_cons.mpr ⟨xcal_v (na := 1) (c8_copyFrom hX l) mf8_copyFrom ⟨rfl, rfl⟩ ml11_233 mi8_copyFrom me8_copyFrom (xrm_ok (by omega) (by decide)) rfl (by decide) (by decide +kernel), List.forall_mem_cons.mpr ⟨xcal_v (na := 0) (c8_pass hX l) mf8_pass ⟨rfl, rfl⟩ ml11_207 mi8_pass me8_pass (xrm_ok (by omega) (by decide)) rfl (by decide) (by decide +kernel), fun _ h => absurd h List.not_mem_nil⟩⟩)
   (xrm_1 (by decide)) ⟨_, _, rfl, rfl⟩ (fun av μ r μ' h => by
    unfold F11_goAhead at h
    split at h
    · replace h := cond_inv h; obtain ⟨hb, h⟩ := h
      simp only [Bool.and_eq_true] at hb
      obtain ⟨g0, g1⟩ := hb
      obtain rfl := Nat.eq_of_beq_eq_true g0
      obtain rfl := Nat.eq_of_beq_eq_true g1
      exact ⟨Nat.le_of_ble_eq_true rfl, (q11_goAhead _ _ _).trans ((f11_goAhead_e _ _).symm.trans h)⟩
    · cases h)
def t11_later : List XE := [(0, .iload_n 1, 1, 0, 0, 0, []),
  (1, .ifCond .lt 9, 10, 0, 0, 0, []),
  (4, .iload_n 1, 1, 0, 0, 0, []),
  (5, .bipush 60, 0, 0, 60, 0, []),
  (7, .if_icmp .le 5, 12, 0, 0, 0, []),
  (10, .iconst (-1), 0, 0, (-1), 0, []),
  (11, .ireturn, 0, 0, 0, 0, []),
  (12, .aload_n 0, 0, 0, 0, 0, []),
  (13, .iload_n 1, 1, 0, 0, 0, []),
  (14, .invokevirtual 227, 2, 11, 0, 0, []),
  (17, .aload_n 0, 0, 0, 0, 0, []),
  (18, .getfield 51, 11, 6, 0, 0, []),
  (21, .getfield 230, 8, 7, 0, 0, []),
  (24, .ireturn, 0, 0, 0, 0, [])]
noncomputable def e11_later : XN := [(227, 0, 2, 11, F11_goAhead)]
noncomputable def k11_later (p1 : Int32) (μ : XM) : XR :=
  xite (p1 < 0) (
    xri (-1) μ) (
    xite ((60 : Int32) < p1) (
      xri (-1) μ) (
      bV (f11_goAhead p1 μ) fun m1 =>
      xri (rI m1 8 1 7) m1))
set_option maxRecDepth 100000 in
theorem q11_later (n : Nat) (p1 : Int32) (μ : XM) : xrun t11_later e11_later (xrtk (some .int)) 19 n (xlo [xr 11 0 0, xi p1] 2) μ = k11_later p1 μ := rfl
theorem x11_later : ∃ f : Int32 → XM → XR, ∀ (p1 : Int32) (μ : XM), f p1 μ = k11_later p1 μ := ⟨fun p1 μ => k11_later p1 μ, fun p1 μ => rfl⟩
noncomputable def f11_later : Int32 → XM → XR := Classical.choose x11_later
theorem f11_later_e (p1 : Int32) (μ : XM) : f11_later p1 μ = k11_later p1 μ := Classical.choose_spec x11_later p1 μ
noncomputable def F11_later : XF := fun av μ => match av with
  | [.inr (.inr (some (t0, i0, 0))), .inl p1] => bif Nat.beq t0 11 && Nat.beq i0 0 then f11_later p1 μ else none
  | _ => none
set_option maxRecDepth 100000 in
theorem c11_later {X : XP} (hX : XOK X) (l : Launch) : Ctr X l y11_later prog_1_method_17_code 2 (some .int) (xrm 6) 0 0 F11_later :=
  Ctr_of (tab := t11_later) (env := e11_later) (K := 19) (N := 20000) (fl := fl11) (cl := cl11) (ll := ll11) (jl := jl11) hX mf11_later.2.2.2 ⟨by decide +kernel, flk11, clk11, llk11, jlk11⟩
   (List.forall_mem_cons.mpr ⟨xcal_v (na := 1) (c11_goAhead hX l) mf11_goAhead ⟨rfl, rfl⟩ ml11_227 mi11_goAhead me11_goAhead (xrm_ok (by omega) (by decide)) rfl (by decide) (by decide +kernel), fun _ h => absurd h List.not_mem_nil⟩)
   (xrm_1 (by decide)) ⟨_, _, rfl, rfl⟩ (fun av μ r μ' h => by
    unfold F11_later at h
    split at h
    · replace h := cond_inv h; obtain ⟨hb, h⟩ := h
      simp only [Bool.and_eq_true] at hb
      obtain ⟨g0, g1⟩ := hb
      obtain rfl := Nat.eq_of_beq_eq_true g0
      obtain rfl := Nat.eq_of_beq_eq_true g1
      exact ⟨Nat.le_of_ble_eq_true rfl, (q11_later _ _ _).trans ((f11_later_e _ _).symm.trans h)⟩
    · cases h)
def t11_over : List XE := [(0, .iload_n 1, 1, 0, 0, 0, []),
  (1, .ifCond .lt 9, 10, 0, 0, 0, []),
  (4, .iload_n 1, 1, 0, 0, 0, []),
  (5, .bipush 60, 0, 0, 60, 0, []),
  (7, .if_icmp .le 5, 12, 0, 0, 0, []),
  (10, .iconst (-1), 0, 0, (-1), 0, []),
  (11, .ireturn, 0, 0, 0, 0, []),
  (12, .aload_n 0, 0, 0, 0, 0, []),
  (13, .getfield 51, 11, 6, 0, 0, []),
  (16, .aload_n 0, 0, 0, 0, 0, []),
  (17, .getfield 47, 11, 5, 0, 0, []),
  (20, .invokevirtual 233, 2, 8, 0, 0, []),
  (23, .iconst 0, 0, 0, 0, 0, []),
  (24, .istore_n 2, 2, 0, 0, 0, []),
  (25, .nop, 7, 0, 0, 0, []),
  (25, .iload_n 2, 2, 0, 0, 0, []),
  (26, .bipush 60, 0, 0, 60, 0, []),
  (28, .if_icmp .gt 30, 58, 0, 0, 0, []),
  (31, .aload_n 0, 0, 0, 0, 0, []),
  (32, .getfield 51, 11, 6, 0, 0, []),
  (35, .getfield 230, 8, 7, 0, 0, []),
  (38, .iload_n 1, 1, 0, 0, 0, []),
  (39, .if_icmp .lt 5, 44, 0, 0, 0, []),
  (42, .iload_n 2, 2, 0, 0, 0, []),
  (43, .ireturn, 0, 0, 0, 0, []),
  (44, .aload_n 0, 0, 0, 0, 0, []),
  (45, .getfield 51, 11, 6, 0, 0, []),
  (48, .invokevirtual 207, 1, 8, 0, 0, []),
  (51, .pop, 0, 0, 0, 0, []),
  (52, .iinc 2 1, 2, 0, 1, 0, []),
  (55, .goto (-30), 25, 0, 0, 0, []),
  (58, .iconst (-1), 0, 0, (-1), 0, []),
  (59, .ireturn, 0, 0, 0, 0, [])]
noncomputable def e11_over : XN := [(233, 0, 2, 8, F8_copyFrom), (207, 1, 1, 8, F8_pass)]
noncomputable def h11_over_25 (n : Nat) (v1 : Int32) (v2 : Int32) (μ : XM) : XR := arr t11_over e11_over 1 38 n 25 [some (xr 11 0 0), some (xi v1), some (xi v2)] [] μ
set_option maxRecDepth 100000 in
theorem h11_over_25_s (n : Nat) (v1 : Int32) (v2 : Int32) (μ : XM) : h11_over_25 (n + 1) v1 v2 μ = (
  xite ((60 : Int32) < v2) (
    xri (-1) μ) (
    xite ((rI μ 8 1 7) < v1) (
      bI (f8_pass 1 μ) fun r2 m1 =>
      vI (v2 + 1) fun x3 =>
      h11_over_25 n v1 x3 m1) (
      xri v2 μ))) := rfl
theorem h11_over_25_0 (v1 : Int32) (v2 : Int32) (μ : XM) : h11_over_25 0 v1 v2 μ = none := rfl
noncomputable def k11_over (n : Nat) (p1 : Int32) (μ : XM) : XR :=
  xite (p1 < 0) (
    xri (-1) μ) (
    xite ((60 : Int32) < p1) (
      xri (-1) μ) (
      bV (f8_copyFrom 1 0 μ) fun m1 =>
      vI 0 fun x2 =>
      h11_over_25 n p1 x2 m1))
set_option maxRecDepth 100000 in
theorem q11_over (n : Nat) (p1 : Int32) (μ : XM) : xrun t11_over e11_over (xrtk (some .int)) 38 n (xlo [xr 11 0 0, xi p1] 3) μ = k11_over n p1 μ := rfl
theorem x11_over : ∃ f : Int32 → XM → XR, ∀ (p1 : Int32) (μ : XM), f p1 μ = k11_over 20000 p1 μ := ⟨fun p1 μ => k11_over 20000 p1 μ, fun p1 μ => rfl⟩
noncomputable def f11_over : Int32 → XM → XR := Classical.choose x11_over
theorem f11_over_e (p1 : Int32) (μ : XM) : f11_over p1 μ = k11_over 20000 p1 μ := Classical.choose_spec x11_over p1 μ
noncomputable def F11_over : XF := fun av μ => match av with
  | [.inr (.inr (some (t0, i0, 0))), .inl p1] => bif Nat.beq t0 11 && Nat.beq i0 0 then f11_over p1 μ else none
  | _ => none
set_option maxRecDepth 100000 in
theorem c11_over {X : XP} (hX : XOK X) (l : Launch) : Ctr X l y11_over prog_1_method_19_code 3 (some .int) (xrm 5) 0 0 F11_over :=
  Ctr_of (tab := t11_over) (env := e11_over) (K := 38) (N := 20000) (fl := fl11) (cl := cl11) (ll := ll11) (jl := jl11) hX mf11_over.2.2.2 ⟨by decide +kernel, flk11, clk11, llk11, jlk11⟩
   (List.forall_mem_cons.mpr ⟨xcal_v (na := 1) (c8_copyFrom hX l) mf8_copyFrom ⟨rfl, rfl⟩ ml11_233 mi8_copyFrom me8_copyFrom (xrm_ok (by omega) (by decide)) rfl (by decide) (by decide +kernel), List.forall_mem_cons.mpr ⟨xcal_v (na := 0) (c8_pass hX l) mf8_pass ⟨rfl, rfl⟩ ml11_207 mi8_pass me8_pass (xrm_ok (by omega) (by decide)) rfl (by decide) (by decide +kernel), fun _ h => absurd h List.not_mem_nil⟩⟩)
   (xrm_1 (by decide)) ⟨_, _, rfl, rfl⟩ (fun av μ r μ' h => by
    unfold F11_over at h
    split at h
    · replace h := cond_inv h; obtain ⟨hb, h⟩ := h
      simp only [Bool.and_eq_true] at hb
      obtain ⟨g0, g1⟩ := hb
      obtain rfl := Nat.eq_of_beq_eq_true g0
      obtain rfl := Nat.eq_of_beq_eq_true g1
      exact ⟨Nat.le_of_ble_eq_true rfl, (q11_over _ _ _).trans ((f11_over_e _ _).symm.trans h)⟩
    · cases h)
def t11_minutesUntil : List XE := [(0, .aload_n 0, 0, 0, 0, 0, []),
  (1, .getfield 47, 11, 5, 0, 0, []),
  (4, .iload_n 1, 1, 0, 0, 0, []),
  (5, .invokevirtual 239, 2, 8, 0, 0, []),
  (8, .ifCond .ne 5, 13, 0, 0, 0, []),
  (11, .iconst (-1), 0, 0, (-1), 0, []),
  (12, .ireturn, 0, 0, 0, 0, []),
  (13, .aload_n 0, 0, 0, 0, 0, []),
  (14, .getfield 51, 11, 6, 0, 0, []),
  (17, .aload_n 0, 0, 0, 0, 0, []),
  (18, .getfield 47, 11, 5, 0, 0, []),
  (21, .invokevirtual 233, 2, 8, 0, 0, []),
  (24, .iconst 1, 0, 0, 1, 0, []),
  (25, .istore_n 3, 3, 0, 0, 0, []),
  (26, .nop, 15, 0, 0, 0, []),
  (26, .iload_n 3, 3, 0, 0, 0, []),
  (27, .bipush 60, 0, 0, 60, 0, []),
  (29, .if_icmp .gt 31, 60, 0, 0, 0, []),
  (32, .aload_n 0, 0, 0, 0, 0, []),
  (33, .getfield 51, 11, 6, 0, 0, []),
  (36, .invokevirtual 207, 1, 8, 0, 0, []),
  (39, .pop, 0, 0, 0, 0, []),
  (40, .aload_n 0, 0, 0, 0, 0, []),
  (41, .getfield 51, 11, 6, 0, 0, []),
  (44, .iload_n 1, 1, 0, 0, 0, []),
  (45, .iload_n 2, 2, 0, 0, 0, []),
  (46, .invokevirtual 242, 3, 8, 0, 0, []),
  (49, .ifCond .eq 5, 54, 0, 0, 0, []),
  (52, .iload_n 3, 3, 0, 0, 0, []),
  (53, .ireturn, 0, 0, 0, 0, []),
  (54, .iinc 3 1, 3, 0, 1, 0, []),
  (57, .goto (-31), 26, 0, 0, 0, []),
  (60, .iconst (-1), 0, 0, (-1), 0, []),
  (61, .ireturn, 0, 0, 0, 0, [])]
noncomputable def e11_minutesUntil : XN := [(239, 1, 2, 8, F8_isIn), (233, 0, 2, 8, F8_copyFrom), (207, 1, 1, 8, F8_pass), (242, 1, 3, 8, F8_isInState)]
noncomputable def h11_minutesUntil_26 (n : Nat) (v1 : Int32) (v2 : Int32) (v3 : Int32) (μ : XM) : XR := arr t11_minutesUntil e11_minutesUntil 1 39 n 26 [some (xr 11 0 0), some (xi v1), some (xi v2), some (xi v3)] [] μ
set_option maxRecDepth 100000 in
theorem h11_minutesUntil_26_s (n : Nat) (v1 : Int32) (v2 : Int32) (v3 : Int32) (μ : XM) : h11_minutesUntil_26 (n + 1) v1 v2 v3 μ = (
  xite ((60 : Int32) < v3) (
    xri (-1) μ) (
    bI (f8_pass 1 μ) fun r2 m1 =>
    bI (f8_isInState 1 v1 v2 m1) fun r4 m3 =>
    xite (r4 = 0) (
      vI (v3 + 1) fun x5 =>
      h11_minutesUntil_26 n v1 v2 x5 m3) (
      xri v3 m3))) := rfl
theorem h11_minutesUntil_26_0 (v1 : Int32) (v2 : Int32) (v3 : Int32) (μ : XM) : h11_minutesUntil_26 0 v1 v2 v3 μ = none := rfl
noncomputable def k11_minutesUntil (n : Nat) (p1 : Int32) (p2 : Int32) (μ : XM) : XR :=
  bI (f8_isIn 0 p1 μ) fun r2 m1 =>
  xite (r2 = 0) (
    xri (-1) m1) (
    bV (f8_copyFrom 1 0 m1) fun m3 =>
    vI 1 fun x4 =>
    h11_minutesUntil_26 n p1 p2 x4 m3)
set_option maxRecDepth 100000 in
theorem q11_minutesUntil (n : Nat) (p1 : Int32) (p2 : Int32) (μ : XM) : xrun t11_minutesUntil e11_minutesUntil (xrtk (some .int)) 39 n (xlo [xr 11 0 0, xi p1, xi p2] 4) μ = k11_minutesUntil n p1 p2 μ := rfl
theorem x11_minutesUntil : ∃ f : Int32 → Int32 → XM → XR, ∀ (p1 : Int32) (p2 : Int32) (μ : XM), f p1 p2 μ = k11_minutesUntil 20000 p1 p2 μ := ⟨fun p1 p2 μ => k11_minutesUntil 20000 p1 p2 μ, fun p1 p2 μ => rfl⟩
noncomputable def f11_minutesUntil : Int32 → Int32 → XM → XR := Classical.choose x11_minutesUntil
theorem f11_minutesUntil_e (p1 : Int32) (p2 : Int32) (μ : XM) : f11_minutesUntil p1 p2 μ = k11_minutesUntil 20000 p1 p2 μ := Classical.choose_spec x11_minutesUntil p1 p2 μ
noncomputable def F11_minutesUntil : XF := fun av μ => match av with
  | [.inr (.inr (some (t0, i0, 0))), .inl p1, .inl p2] => bif Nat.beq t0 11 && Nat.beq i0 0 then f11_minutesUntil p1 p2 μ else none
  | _ => none
set_option maxRecDepth 100000 in
theorem c11_minutesUntil {X : XP} (hX : XOK X) (l : Launch) : Ctr X l y11_minutesUntil prog_1_method_21_code 4 (some .int) (xrm 5) 0 0 F11_minutesUntil :=
  Ctr_of (tab := t11_minutesUntil) (env := e11_minutesUntil) (K := 39) (N := 20000) (fl := fl11) (cl := cl11) (ll := ll11) (jl := jl11) hX mf11_minutesUntil.2.2.2 ⟨by decide +kernel, flk11, clk11, llk11, jlk11⟩
   (List.forall_mem_cons.mpr ⟨xcal_v (na := 1) (c8_isIn hX l) mf8_isIn ⟨rfl, rfl⟩ ml11_239 mi8_isIn me8_isIn (xrm_ok (by omega) (by decide)) rfl (by decide) (by decide +kernel), List.forall_mem_cons.mpr ⟨xcal_v (na := 1) (c8_copyFrom hX l) mf8_copyFrom ⟨rfl, rfl⟩ ml11_233 mi8_copyFrom me8_copyFrom (xrm_ok (by omega) (by decide)) rfl (by decide) (by decide +kernel), List.forall_mem_cons.mpr ⟨xcal_v (na := 0) (c8_pass hX l) mf8_pass ⟨rfl, rfl⟩ ml11_207 mi8_pass me8_pass (xrm_ok (by omega) (by decide)) rfl (by decide) (by decide +kernel), List.forall_mem_cons.mpr ⟨xcal_v (na := 2) (c8_isInState hX l) mf8_isInState ⟨rfl, rfl⟩ ml11_242 mi8_isInState me8_isInState (xrm_ok (by omega) (by decide)) rfl (by decide) (by decide +kernel), fun _ h => absurd h List.not_mem_nil⟩⟩⟩⟩)
   (xrm_1 (by decide)) ⟨_, _, rfl, rfl⟩ (fun av μ r μ' h => by
    unfold F11_minutesUntil at h
    split at h
    · replace h := cond_inv h; obtain ⟨hb, h⟩ := h
      simp only [Bool.and_eq_true] at hb
      obtain ⟨g0, g1⟩ := hb
      obtain rfl := Nat.eq_of_beq_eq_true g0
      obtain rfl := Nat.eq_of_beq_eq_true g1
      exact ⟨Nat.le_of_ble_eq_true rfl, (q11_minutesUntil _ _ _ _).trans ((f11_minutesUntil_e _ _ _).symm.trans h)⟩
    · cases h)
def t11_sinks : List XE := [(0, .aload_n 0, 0, 0, 0, 0, []),
  (1, .iload_n 1, 1, 0, 0, 0, []),
  (2, .iconst 2, 0, 0, 2, 0, []),
  (3, .invokevirtual 235, 3, 11, 0, 0, []),
  (6, .ireturn, 0, 0, 0, 0, [])]
noncomputable def e11_sinks : XN := [(235, 1, 3, 11, F11_minutesUntil)]
noncomputable def k11_sinks (p1 : Int32) (μ : XM) : XR :=
  bI (f11_minutesUntil p1 2 μ) fun r2 m1 =>
  xri r2 m1
set_option maxRecDepth 100000 in
theorem q11_sinks (n : Nat) (p1 : Int32) (μ : XM) : xrun t11_sinks e11_sinks (xrtk (some .int)) 10 n (xlo [xr 11 0 0, xi p1] 2) μ = k11_sinks p1 μ := rfl
theorem x11_sinks : ∃ f : Int32 → XM → XR, ∀ (p1 : Int32) (μ : XM), f p1 μ = k11_sinks p1 μ := ⟨fun p1 μ => k11_sinks p1 μ, fun p1 μ => rfl⟩
noncomputable def f11_sinks : Int32 → XM → XR := Classical.choose x11_sinks
theorem f11_sinks_e (p1 : Int32) (μ : XM) : f11_sinks p1 μ = k11_sinks p1 μ := Classical.choose_spec x11_sinks p1 μ
noncomputable def F11_sinks : XF := fun av μ => match av with
  | [.inr (.inr (some (t0, i0, 0))), .inl p1] => bif Nat.beq t0 11 && Nat.beq i0 0 then f11_sinks p1 μ else none
  | _ => none
set_option maxRecDepth 100000 in
theorem c11_sinks {X : XP} (hX : XOK X) (l : Launch) : Ctr X l y11_sinks prog_1_method_20_code 2 (some .int) (xrm 6) 0 0 F11_sinks :=
  Ctr_of (tab := t11_sinks) (env := e11_sinks) (K := 10) (N := 20000) (fl := fl11) (cl := cl11) (ll := ll11) (jl := jl11) hX mf11_sinks.2.2.2 ⟨by decide +kernel, flk11, clk11, llk11, jlk11⟩
   (List.forall_mem_cons.mpr ⟨xcal_v (na := 2) (c11_minutesUntil hX l) mf11_minutesUntil ⟨rfl, rfl⟩ ml11_235 mi11_minutesUntil me11_minutesUntil (xrm_ok (by omega) (by decide)) rfl (by decide) (by decide +kernel), fun _ h => absurd h List.not_mem_nil⟩)
   (xrm_1 (by decide)) ⟨_, _, rfl, rfl⟩ (fun av μ r μ' h => by
    unfold F11_sinks at h
    split at h
    · replace h := cond_inv h; obtain ⟨hb, h⟩ := h
      simp only [Bool.and_eq_true] at hb
      obtain ⟨g0, g1⟩ := hb
      obtain rfl := Nat.eq_of_beq_eq_true g0
      obtain rfl := Nat.eq_of_beq_eq_true g1
      exact ⟨Nat.le_of_ble_eq_true rfl, (q11_sinks _ _ _).trans ((f11_sinks_e _ _).symm.trans h)⟩
    · cases h)
def t11_lowestBit : List XE := [(0, .iconst 0, 0, 0, 0, 0, []),
  (1, .istore_n 1, 1, 0, 0, 0, []),
  (2, .nop, 3, 0, 0, 0, []),
  (2, .iload_n 1, 1, 0, 0, 0, []),
  (3, .bipush 32, 0, 0, 32, 0, []),
  (5, .if_icmp .ge 20, 25, 0, 0, 0, []),
  (8, .iload_n 0, 0, 0, 0, 0, []),
  (9, .iload_n 1, 1, 0, 0, 0, []),
  (10, .ishr, 0, 0, 0, 0, []),
  (11, .iconst 1, 0, 0, 1, 0, []),
  (12, .iand, 0, 0, 0, 0, []),
  (13, .iconst 1, 0, 0, 1, 0, []),
  (14, .if_icmp .ne 5, 19, 0, 0, 0, []),
  (17, .iload_n 1, 1, 0, 0, 0, []),
  (18, .ireturn, 0, 0, 0, 0, []),
  (19, .iinc 1 1, 1, 0, 1, 0, []),
  (22, .goto (-20), 2, 0, 0, 0, []),
  (25, .iconst (-1), 0, 0, (-1), 0, []),
  (26, .ireturn, 0, 0, 0, 0, [])]
noncomputable def e11_lowestBit : XN := []
noncomputable def h11_lowestBit_2 (n : Nat) (v0 : Int32) (v1 : Int32) (μ : XM) : XR := arr t11_lowestBit e11_lowestBit 1 24 n 2 [some (xi v0), some (xi v1)] [] μ
set_option maxRecDepth 100000 in
theorem h11_lowestBit_2_s (n : Nat) (v0 : Int32) (v1 : Int32) (μ : XM) : h11_lowestBit_2 (n + 1) v0 v1 μ = (
  xite (v1 < 32) (
    xite (((v0 >>> (v1 &&& 31)) &&& 1) = 1) (
      xri v1 μ) (
      vI (v1 + 1) fun x1 =>
      h11_lowestBit_2 n v0 x1 μ)) (
    xri (-1) μ)) := rfl
theorem h11_lowestBit_2_0 (v0 : Int32) (v1 : Int32) (μ : XM) : h11_lowestBit_2 0 v0 v1 μ = none := rfl
noncomputable def k11_lowestBit (n : Nat) (p0 : Int32) (μ : XM) : XR :=
  vI 0 fun x1 =>
  h11_lowestBit_2 n p0 x1 μ
set_option maxRecDepth 100000 in
theorem q11_lowestBit (n : Nat) (p0 : Int32) (μ : XM) : xrun t11_lowestBit e11_lowestBit (xrtk (some .int)) 24 n (xlo [xi p0] 2) μ = k11_lowestBit n p0 μ := rfl
theorem x11_lowestBit : ∃ f : Int32 → XM → XR, ∀ (p0 : Int32) (μ : XM), f p0 μ = k11_lowestBit 20000 p0 μ := ⟨fun p0 μ => k11_lowestBit 20000 p0 μ, fun p0 μ => rfl⟩
noncomputable def f11_lowestBit : Int32 → XM → XR := Classical.choose x11_lowestBit
theorem f11_lowestBit_e (p0 : Int32) (μ : XM) : f11_lowestBit p0 μ = k11_lowestBit 20000 p0 μ := Classical.choose_spec x11_lowestBit p0 μ
noncomputable def F11_lowestBit : XF := fun av μ => match av with
  | [.inl p0] => f11_lowestBit p0 μ
  | _ => none
set_option maxRecDepth 100000 in
theorem c11_lowestBit {X : XP} (hX : XOK X) (l : Launch) : Ctr X l y11_lowestBit prog_1_method_23_code 2 (some .int) (xrm 1) 0 0 F11_lowestBit :=
  Ctr_of (tab := t11_lowestBit) (env := e11_lowestBit) (K := 24) (N := 20000) (fl := fl11) (cl := cl11) (ll := ll11) (jl := jl11) hX mf11_lowestBit.2.2.2 ⟨by decide +kernel, flk11, clk11, llk11, jlk11⟩
   (fun _ h => absurd h List.not_mem_nil)
   (xrm_1 (by decide)) ⟨_, _, rfl, rfl⟩ (fun av μ r μ' h => by
    unfold F11_lowestBit at h
    split at h
    · exact ⟨Nat.le_of_ble_eq_true rfl, (q11_lowestBit _ _ _).trans ((f11_lowestBit_e _ _).symm.trans h)⟩
    · cases h)
def t11_first : List XE := [(0, .aload_n 0, 0, 0, 0, 0, []),
  (1, .getfield 51, 11, 6, 0, 0, []),
  (4, .aload_n 0, 0, 0, 0, 0, []),
  (5, .getfield 47, 11, 5, 0, 0, []),
  (8, .invokevirtual 233, 2, 8, 0, 0, []),
  (11, .iconst 1, 0, 0, 1, 0, []),
  (12, .istore_n 1, 1, 0, 0, 0, []),
  (13, .nop, 3, 0, 0, 0, []),
  (13, .iload_n 1, 1, 0, 0, 0, []),
  (14, .bipush 60, 0, 0, 60, 0, []),
  (16, .if_icmp .gt 26, 42, 0, 0, 0, []),
  (19, .aload_n 0, 0, 0, 0, 0, []),
  (20, .getfield 51, 11, 6, 0, 0, []),
  (23, .invokevirtual 207, 1, 8, 0, 0, []),
  (26, .istore_n 2, 2, 0, 0, 0, []),
  (27, .iload_n 2, 2, 0, 0, 0, []),
  (28, .ifCond .eq 8, 36, 0, 0, 0, []),
  (31, .iload_n 2, 2, 0, 0, 0, []),
  (32, .invokestatic 246, 1, 0, 0, 0, []),
  (35, .ireturn, 0, 0, 0, 0, []),
  (36, .iinc 1 1, 1, 0, 1, 0, []),
  (39, .goto (-26), 13, 0, 0, 0, []),
  (42, .iconst (-1), 0, 0, (-1), 0, []),
  (43, .ireturn, 0, 0, 0, 0, [])]
noncomputable def e11_first : XN := [(233, 0, 2, 8, F8_copyFrom), (207, 1, 1, 8, F8_pass), (246, 1, 1, 99, F11_lowestBit)]
noncomputable def h11_first_13 (n : Nat) (v1 : Int32) (μ : XM) : XR := arr t11_first e11_first 1 29 n 13 [some (xr 11 0 0), some (xi v1), none] [] μ
set_option maxRecDepth 100000 in
theorem h11_first_13_s (n : Nat) (v1 : Int32) (μ : XM) : h11_first_13 (n + 1) v1 μ = (
  xite ((60 : Int32) < v1) (
    xri (-1) μ) (
    bI (f8_pass 1 μ) fun r2 m1 =>
    vI r2 fun x3 =>
    xite (x3 = 0) (
      vI (v1 + 1) fun x4 =>
      h11_first_13 n x4 m1) (
      bI (f11_lowestBit x3 m1) fun r6 m5 =>
      xri r6 m5))) := rfl
theorem h11_first_13_0 (v1 : Int32) (μ : XM) : h11_first_13 0 v1 μ = none := rfl
noncomputable def k11_first (n : Nat) (μ : XM) : XR :=
  bV (f8_copyFrom 1 0 μ) fun m1 =>
  vI 1 fun x2 =>
  h11_first_13 n x2 m1
set_option maxRecDepth 100000 in
theorem q11_first (n : Nat) (μ : XM) : xrun t11_first e11_first (xrtk (some .int)) 29 n (xlo [xr 11 0 0] 3) μ = k11_first n  μ := rfl
theorem x11_first : ∃ f : XM → XR, ∀ (μ : XM), f μ = k11_first 20000  μ := ⟨fun μ => k11_first 20000  μ, fun μ => rfl⟩
noncomputable def f11_first : XM → XR := Classical.choose x11_first
theorem f11_first_e (μ : XM) : f11_first μ = k11_first 20000  μ := Classical.choose_spec x11_first μ
noncomputable def F11_first : XF := fun av μ => match av with
  | [.inr (.inr (some (t0, i0, 0)))] => bif Nat.beq t0 11 && Nat.beq i0 0 then f11_first  μ else none
  | _ => none
set_option maxRecDepth 100000 in
theorem c11_first {X : XP} (hX : XOK X) (l : Launch) : Ctr X l y11_first prog_1_method_22_code 3 (some .int) (xrm 5) 0 0 F11_first :=
  Ctr_of (tab := t11_first) (env := e11_first) (K := 29) (N := 20000) (fl := fl11) (cl := cl11) (ll := ll11) (jl := jl11) hX mf11_first.2.2.2 ⟨by decide +kernel, flk11, clk11, llk11, jlk11⟩
   (List.forall_mem_cons.mpr ⟨xcal_v (na := 1) (c8_copyFrom hX l) mf8_copyFrom ⟨rfl, rfl⟩ ml11_233 mi8_copyFrom me8_copyFrom (xrm_ok (by omega) (by decide)) rfl (by decide) (by decide +kernel), List.forall_mem_cons.mpr ⟨xcal_v (na := 0) (c8_pass hX l) mf8_pass ⟨rfl, rfl⟩ ml11_207 mi8_pass me8_pass (xrm_ok (by omega) (by decide)) rfl (by decide) (by decide +kernel), List.forall_mem_cons.mpr ⟨xcal_s (c11_lowestBit hX l) mf11_lowestBit ⟨rfl, rfl⟩ ml11_246 ms11_lowestBit (xrm_ok (by omega) (by decide)) (by decide +kernel), fun _ h => absurd h List.not_mem_nil⟩⟩⟩)
   (xrm_1 (by decide)) ⟨_, _, rfl, rfl⟩ (fun av μ r μ' h => by
    unfold F11_first at h
    split at h
    · replace h := cond_inv h; obtain ⟨hb, h⟩ := h
      simp only [Bool.and_eq_true] at hb
      obtain ⟨g0, g1⟩ := hb
      obtain rfl := Nat.eq_of_beq_eq_true g0
      obtain rfl := Nat.eq_of_beq_eq_true g1
      exact ⟨Nat.le_of_ble_eq_true rfl, (q11_first _  _).trans ((f11_first_e  _).symm.trans h)⟩
    · cases h)
def t11_home : List XE := [(0, .aload_n 0, 0, 0, 0, 0, []),
  (1, .iload_n 1, 1, 0, 0, 0, []),
  (2, .iconst 1, 0, 0, 1, 0, []),
  (3, .invokevirtual 235, 3, 11, 0, 0, []),
  (6, .ireturn, 0, 0, 0, 0, [])]
noncomputable def e11_home : XN := [(235, 1, 3, 11, F11_minutesUntil)]
noncomputable def k11_home (p1 : Int32) (μ : XM) : XR :=
  bI (f11_minutesUntil p1 1 μ) fun r2 m1 =>
  xri r2 m1
set_option maxRecDepth 100000 in
theorem q11_home (n : Nat) (p1 : Int32) (μ : XM) : xrun t11_home e11_home (xrtk (some .int)) 10 n (xlo [xr 11 0 0, xi p1] 2) μ = k11_home p1 μ := rfl
theorem x11_home : ∃ f : Int32 → XM → XR, ∀ (p1 : Int32) (μ : XM), f p1 μ = k11_home p1 μ := ⟨fun p1 μ => k11_home p1 μ, fun p1 μ => rfl⟩
noncomputable def f11_home : Int32 → XM → XR := Classical.choose x11_home
theorem f11_home_e (p1 : Int32) (μ : XM) : f11_home p1 μ = k11_home p1 μ := Classical.choose_spec x11_home p1 μ
noncomputable def F11_home : XF := fun av μ => match av with
  | [.inr (.inr (some (t0, i0, 0))), .inl p1] => bif Nat.beq t0 11 && Nat.beq i0 0 then f11_home p1 μ else none
  | _ => none
set_option maxRecDepth 100000 in
theorem c11_home {X : XP} (hX : XOK X) (l : Launch) : Ctr X l y11_home prog_1_method_24_code 2 (some .int) (xrm 6) 0 0 F11_home :=
  Ctr_of (tab := t11_home) (env := e11_home) (K := 10) (N := 20000) (fl := fl11) (cl := cl11) (ll := ll11) (jl := jl11) hX mf11_home.2.2.2 ⟨by decide +kernel, flk11, clk11, llk11, jlk11⟩
   (List.forall_mem_cons.mpr ⟨xcal_v (na := 2) (c11_minutesUntil hX l) mf11_minutesUntil ⟨rfl, rfl⟩ ml11_235 mi11_minutesUntil me11_minutesUntil (xrm_ok (by omega) (by decide)) rfl (by decide) (by decide +kernel), fun _ h => absurd h List.not_mem_nil⟩)
   (xrm_1 (by decide)) ⟨_, _, rfl, rfl⟩ (fun av μ r μ' h => by
    unfold F11_home at h
    split at h
    · replace h := cond_inv h; obtain ⟨hb, h⟩ := h
      simp only [Bool.and_eq_true] at hb
      obtain ⟨g0, g1⟩ := hb
      obtain rfl := Nat.eq_of_beq_eq_true g0
      obtain rfl := Nat.eq_of_beq_eq_true g1
      exact ⟨Nat.le_of_ble_eq_true rfl, (q11_home _ _ _).trans ((f11_home_e _ _).symm.trans h)⟩
    · cases h)
def t11_quiet : List XE := [(0, .aload_n 0, 0, 0, 0, 0, []),
  (1, .getfield 51, 11, 6, 0, 0, []),
  (4, .aload_n 0, 0, 0, 0, 0, []),
  (5, .getfield 47, 11, 5, 0, 0, []),
  (8, .invokevirtual 233, 2, 8, 0, 0, []),
  (11, .iconst 0, 0, 0, 0, 0, []),
  (12, .istore_n 1, 1, 0, 0, 0, []),
  (13, .nop, 3, 0, 0, 0, []),
  (13, .iload_n 1, 1, 0, 0, 0, []),
  (14, .bipush 60, 0, 0, 60, 0, []),
  (16, .if_icmp .gt 30, 46, 0, 0, 0, []),
  (19, .aload_n 0, 0, 0, 0, 0, []),
  (20, .getfield 51, 11, 6, 0, 0, []),
  (23, .iconst 0, 0, 0, 0, 0, []),
  (24, .invokevirtual 249, 2, 8, 0, 0, []),
  (27, .ifCond .ne 5, 32, 0, 0, 0, []),
  (30, .iload_n 1, 1, 0, 0, 0, []),
  (31, .ireturn, 0, 0, 0, 0, []),
  (32, .aload_n 0, 0, 0, 0, 0, []),
  (33, .getfield 51, 11, 6, 0, 0, []),
  (36, .invokevirtual 207, 1, 8, 0, 0, []),
  (39, .pop, 0, 0, 0, 0, []),
  (40, .iinc 1 1, 1, 0, 1, 0, []),
  (43, .goto (-30), 13, 0, 0, 0, []),
  (46, .iconst (-1), 0, 0, (-1), 0, []),
  (47, .ireturn, 0, 0, 0, 0, [])]
noncomputable def e11_quiet : XN := [(233, 0, 2, 8, F8_copyFrom), (249, 1, 2, 8, F8_whoIs), (207, 1, 1, 8, F8_pass)]
noncomputable def h11_quiet_13 (n : Nat) (v1 : Int32) (μ : XM) : XR := arr t11_quiet e11_quiet 1 31 n 13 [some (xr 11 0 0), some (xi v1)] [] μ
set_option maxRecDepth 100000 in
theorem h11_quiet_13_s (n : Nat) (v1 : Int32) (μ : XM) : h11_quiet_13 (n + 1) v1 μ = (
  xite ((60 : Int32) < v1) (
    xri (-1) μ) (
    bI (f8_whoIs 1 0 μ) fun r2 m1 =>
    xite (r2 = 0) (
      xri v1 m1) (
      bI (f8_pass 1 m1) fun r4 m3 =>
      vI (v1 + 1) fun x5 =>
      h11_quiet_13 n x5 m3))) := rfl
theorem h11_quiet_13_0 (v1 : Int32) (μ : XM) : h11_quiet_13 0 v1 μ = none := rfl
noncomputable def k11_quiet (n : Nat) (μ : XM) : XR :=
  bV (f8_copyFrom 1 0 μ) fun m1 =>
  vI 0 fun x2 =>
  h11_quiet_13 n x2 m1
set_option maxRecDepth 100000 in
theorem q11_quiet (n : Nat) (μ : XM) : xrun t11_quiet e11_quiet (xrtk (some .int)) 31 n (xlo [xr 11 0 0] 2) μ = k11_quiet n  μ := rfl
theorem x11_quiet : ∃ f : XM → XR, ∀ (μ : XM), f μ = k11_quiet 20000  μ := ⟨fun μ => k11_quiet 20000  μ, fun μ => rfl⟩
noncomputable def f11_quiet : XM → XR := Classical.choose x11_quiet
theorem f11_quiet_e (μ : XM) : f11_quiet μ = k11_quiet 20000  μ := Classical.choose_spec x11_quiet μ
noncomputable def F11_quiet : XF := fun av μ => match av with
  | [.inr (.inr (some (t0, i0, 0)))] => bif Nat.beq t0 11 && Nat.beq i0 0 then f11_quiet  μ else none
  | _ => none
set_option maxRecDepth 100000 in
theorem c11_quiet {X : XP} (hX : XOK X) (l : Launch) : Ctr X l y11_quiet prog_1_method_25_code 2 (some .int) (xrm 5) 0 0 F11_quiet :=
  Ctr_of (tab := t11_quiet) (env := e11_quiet) (K := 31) (N := 20000) (fl := fl11) (cl := cl11) (ll := ll11) (jl := jl11) hX mf11_quiet.2.2.2 ⟨by decide +kernel, flk11, clk11, llk11, jlk11⟩
   (List.forall_mem_cons.mpr ⟨xcal_v (na := 1) (c8_copyFrom hX l) mf8_copyFrom ⟨rfl, rfl⟩ ml11_233 mi8_copyFrom me8_copyFrom (xrm_ok (by omega) (by decide)) rfl (by decide) (by decide +kernel), List.forall_mem_cons.mpr ⟨xcal_v (na := 1) (c8_whoIs hX l) mf8_whoIs ⟨rfl, rfl⟩ ml11_249 mi8_whoIs me8_whoIs (xrm_ok (by omega) (by decide)) rfl (by decide) (by decide +kernel), List.forall_mem_cons.mpr ⟨xcal_v (na := 0) (c8_pass hX l) mf8_pass ⟨rfl, rfl⟩ ml11_207 mi8_pass me8_pass (xrm_ok (by omega) (by decide)) rfl (by decide) (by decide +kernel), fun _ h => absurd h List.not_mem_nil⟩⟩⟩)
   (xrm_1 (by decide)) ⟨_, _, rfl, rfl⟩ (fun av μ r μ' h => by
    unfold F11_quiet at h
    split at h
    · replace h := cond_inv h; obtain ⟨hb, h⟩ := h
      simp only [Bool.and_eq_true] at hb
      obtain ⟨g0, g1⟩ := hb
      obtain rfl := Nat.eq_of_beq_eq_true g0
      obtain rfl := Nat.eq_of_beq_eq_true g1
      exact ⟨Nat.le_of_ble_eq_true rfl, (q11_quiet _  _).trans ((f11_quiet_e  _).symm.trans h)⟩
    · cases h)
def t11_when : List XE := [(0, .aload_n 0, 0, 0, 0, 0, []),
  (1, .getfield 51, 11, 6, 0, 0, []),
  (4, .aload_n 0, 0, 0, 0, 0, []),
  (5, .getfield 47, 11, 5, 0, 0, []),
  (8, .invokevirtual 233, 2, 8, 0, 0, []),
  (11, .iconst 0, 0, 0, 0, 0, []),
  (12, .istore_n 2, 2, 0, 0, 0, []),
  (13, .nop, 7, 0, 0, 0, []),
  (13, .iload_n 2, 2, 0, 0, 0, []),
  (14, .bipush 60, 0, 0, 60, 0, []),
  (16, .if_icmp .gt 30, 46, 0, 0, 0, []),
  (19, .aload_n 0, 0, 0, 0, 0, []),
  (20, .getfield 51, 11, 6, 0, 0, []),
  (23, .iload_n 1, 1, 0, 0, 0, []),
  (24, .invokevirtual 252, 2, 8, 0, 0, []),
  (27, .ifCond .eq 5, 32, 0, 0, 0, []),
  (30, .iload_n 2, 2, 0, 0, 0, []),
  (31, .ireturn, 0, 0, 0, 0, []),
  (32, .aload_n 0, 0, 0, 0, 0, []),
  (33, .getfield 51, 11, 6, 0, 0, []),
  (36, .invokevirtual 207, 1, 8, 0, 0, []),
  (39, .pop, 0, 0, 0, 0, []),
  (40, .iinc 2 1, 2, 0, 1, 0, []),
  (43, .goto (-30), 13, 0, 0, 0, []),
  (46, .iconst (-1), 0, 0, (-1), 0, []),
  (47, .ireturn, 0, 0, 0, 0, [])]
noncomputable def e11_when : XN := [(233, 0, 2, 8, F8_copyFrom), (252, 1, 2, 8, F8_isCrying), (207, 1, 1, 8, F8_pass)]
noncomputable def h11_when_13 (n : Nat) (v1 : Int32) (v2 : Int32) (μ : XM) : XR := arr t11_when e11_when 1 31 n 13 [some (xr 11 0 0), some (xi v1), some (xi v2)] [] μ
set_option maxRecDepth 100000 in
theorem h11_when_13_s (n : Nat) (v1 : Int32) (v2 : Int32) (μ : XM) : h11_when_13 (n + 1) v1 v2 μ = (
  xite ((60 : Int32) < v2) (
    xri (-1) μ) (
    bI (f8_isCrying 1 v1 μ) fun r2 m1 =>
    xite (r2 = 0) (
      bI (f8_pass 1 m1) fun r4 m3 =>
      vI (v2 + 1) fun x5 =>
      h11_when_13 n v1 x5 m3) (
      xri v2 m1))) := rfl
theorem h11_when_13_0 (v1 : Int32) (v2 : Int32) (μ : XM) : h11_when_13 0 v1 v2 μ = none := rfl
noncomputable def k11_when (n : Nat) (p1 : Int32) (μ : XM) : XR :=
  bV (f8_copyFrom 1 0 μ) fun m1 =>
  vI 0 fun x2 =>
  h11_when_13 n p1 x2 m1
set_option maxRecDepth 100000 in
theorem q11_when (n : Nat) (p1 : Int32) (μ : XM) : xrun t11_when e11_when (xrtk (some .int)) 31 n (xlo [xr 11 0 0, xi p1] 3) μ = k11_when n p1 μ := rfl
theorem x11_when : ∃ f : Int32 → XM → XR, ∀ (p1 : Int32) (μ : XM), f p1 μ = k11_when 20000 p1 μ := ⟨fun p1 μ => k11_when 20000 p1 μ, fun p1 μ => rfl⟩
noncomputable def f11_when : Int32 → XM → XR := Classical.choose x11_when
theorem f11_when_e (p1 : Int32) (μ : XM) : f11_when p1 μ = k11_when 20000 p1 μ := Classical.choose_spec x11_when p1 μ
noncomputable def F11_when : XF := fun av μ => match av with
  | [.inr (.inr (some (t0, i0, 0))), .inl p1] => bif Nat.beq t0 11 && Nat.beq i0 0 then f11_when p1 μ else none
  | _ => none
set_option maxRecDepth 100000 in
theorem c11_when {X : XP} (hX : XOK X) (l : Launch) : Ctr X l y11_when prog_1_method_26_code 3 (some .int) (xrm 5) 0 0 F11_when :=
  Ctr_of (tab := t11_when) (env := e11_when) (K := 31) (N := 20000) (fl := fl11) (cl := cl11) (ll := ll11) (jl := jl11) hX mf11_when.2.2.2 ⟨by decide +kernel, flk11, clk11, llk11, jlk11⟩
   (List.forall_mem_cons.mpr ⟨xcal_v (na := 1) (c8_copyFrom hX l) mf8_copyFrom ⟨rfl, rfl⟩ ml11_233 mi8_copyFrom me8_copyFrom (xrm_ok (by omega) (by decide)) rfl (by decide) (by decide +kernel), List.forall_mem_cons.mpr ⟨xcal_v (na := 1) (c8_isCrying hX l) mf8_isCrying ⟨rfl, rfl⟩ ml11_252 mi8_isCrying me8_isCrying (xrm_ok (by omega) (by decide)) rfl (by decide) (by decide +kernel), List.forall_mem_cons.mpr ⟨xcal_v (na := 0) (c8_pass hX l) mf8_pass ⟨rfl, rfl⟩ ml11_207 mi8_pass me8_pass (xrm_ok (by omega) (by decide)) rfl (by decide) (by decide +kernel), fun _ h => absurd h List.not_mem_nil⟩⟩⟩)
   (xrm_1 (by decide)) ⟨_, _, rfl, rfl⟩ (fun av μ r μ' h => by
    unfold F11_when at h
    split at h
    · replace h := cond_inv h; obtain ⟨hb, h⟩ := h
      simp only [Bool.and_eq_true] at hb
      obtain ⟨g0, g1⟩ := hb
      obtain rfl := Nat.eq_of_beq_eq_true g0
      obtain rfl := Nat.eq_of_beq_eq_true g1
      exact ⟨Nat.le_of_ble_eq_true rfl, (q11_when _ _ _).trans ((f11_when_e _ _).symm.trans h)⟩
    · cases h)
def t11_lost : List XE := [(0, .iload_n 1, 1, 0, 0, 0, []),
  (1, .ifCond .lt 9, 10, 0, 0, 0, []),
  (4, .iload_n 1, 1, 0, 0, 0, []),
  (5, .bipush 60, 0, 0, 60, 0, []),
  (7, .if_icmp .le 5, 12, 0, 0, 0, []),
  (10, .iconst (-1), 0, 0, (-1), 0, []),
  (11, .ireturn, 0, 0, 0, 0, []),
  (12, .aload_n 0, 0, 0, 0, 0, []),
  (13, .iload_n 1, 1, 0, 0, 0, []),
  (14, .invokevirtual 227, 2, 11, 0, 0, []),
  (17, .aload_n 0, 0, 0, 0, 0, []),
  (18, .getfield 51, 11, 6, 0, 0, []),
  (21, .iconst 2, 0, 0, 2, 0, []),
  (22, .invokevirtual 249, 2, 8, 0, 0, []),
  (25, .ireturn, 0, 0, 0, 0, [])]
noncomputable def e11_lost : XN := [(227, 0, 2, 11, F11_goAhead), (249, 1, 2, 8, F8_whoIs)]
noncomputable def k11_lost (p1 : Int32) (μ : XM) : XR :=
  xite (p1 < 0) (
    xri (-1) μ) (
    xite ((60 : Int32) < p1) (
      xri (-1) μ) (
      bV (f11_goAhead p1 μ) fun m1 =>
      bI (f8_whoIs 1 2 m1) fun r3 m2 =>
      xri r3 m2))
set_option maxRecDepth 100000 in
theorem q11_lost (n : Nat) (p1 : Int32) (μ : XM) : xrun t11_lost e11_lost (xrtk (some .int)) 20 n (xlo [xr 11 0 0, xi p1] 2) μ = k11_lost p1 μ := rfl
theorem x11_lost : ∃ f : Int32 → XM → XR, ∀ (p1 : Int32) (μ : XM), f p1 μ = k11_lost p1 μ := ⟨fun p1 μ => k11_lost p1 μ, fun p1 μ => rfl⟩
noncomputable def f11_lost : Int32 → XM → XR := Classical.choose x11_lost
theorem f11_lost_e (p1 : Int32) (μ : XM) : f11_lost p1 μ = k11_lost p1 μ := Classical.choose_spec x11_lost p1 μ
noncomputable def F11_lost : XF := fun av μ => match av with
  | [.inr (.inr (some (t0, i0, 0))), .inl p1] => bif Nat.beq t0 11 && Nat.beq i0 0 then f11_lost p1 μ else none
  | _ => none
set_option maxRecDepth 100000 in
theorem c11_lost {X : XP} (hX : XOK X) (l : Launch) : Ctr X l y11_lost prog_1_method_27_code 2 (some .int) (xrm 6) 0 0 F11_lost :=
  Ctr_of (tab := t11_lost) (env := e11_lost) (K := 20) (N := 20000) (fl := fl11) (cl := cl11) (ll := ll11) (jl := jl11) hX mf11_lost.2.2.2 ⟨by decide +kernel, flk11, clk11, llk11, jlk11⟩
   (List.forall_mem_cons.mpr ⟨xcal_v (na := 1) (c11_goAhead hX l) mf11_goAhead ⟨rfl, rfl⟩ ml11_227 mi11_goAhead me11_goAhead (xrm_ok (by omega) (by decide)) rfl (by decide) (by decide +kernel), List.forall_mem_cons.mpr ⟨xcal_v (na := 1) (c8_whoIs hX l) mf8_whoIs ⟨rfl, rfl⟩ ml11_249 mi8_whoIs me8_whoIs (xrm_ok (by omega) (by decide)) rfl (by decide) (by decide +kernel), fun _ h => absurd h List.not_mem_nil⟩⟩)
   (xrm_1 (by decide)) ⟨_, _, rfl, rfl⟩ (fun av μ r μ' h => by
    unfold F11_lost at h
    split at h
    · replace h := cond_inv h; obtain ⟨hb, h⟩ := h
      simp only [Bool.and_eq_true] at hb
      obtain ⟨g0, g1⟩ := hb
      obtain rfl := Nat.eq_of_beq_eq_true g0
      obtain rfl := Nat.eq_of_beq_eq_true g1
      exact ⟨Nat.le_of_ble_eq_true rfl, (q11_lost _ _ _).trans ((f11_lost_e _ _).symm.trans h)⟩
    · cases h)
def t11_fits : List XE := [(0, .aload_n 0, 0, 0, 0, 0, []),
  (1, .getfield 19, 11, 1, 0, 0, []),
  (4, .iload_n 1, 1, 0, 0, 0, []),
  (5, .invokevirtual 156, 2, 2, 0, 0, []),
  (8, .ifCond .eq 14, 22, 0, 0, 0, []),
  (11, .aload_n 0, 0, 0, 0, 0, []),
  (12, .getfield 47, 11, 5, 0, 0, []),
  (15, .iload_n 1, 1, 0, 0, 0, []),
  (16, .invokevirtual 255, 2, 8, 0, 0, []),
  (19, .goto 4, 23, 0, 0, 0, []),
  (22, .iconst (-1), 0, 0, (-1), 0, []),
  (23, .ireturn, 0, 0, 0, 0, [])]
noncomputable def e11_fits : XN := [(156, 1, 2, 2, F2_isBelt), (255, 1, 2, 8, F8_borneBy)]
noncomputable def k11_fits (p1 : Int32) (μ : XM) : XR :=
  bI (f2_isBelt 0 p1 μ) fun r2 m1 =>
  xite (r2 = 0) (
    xri (-1) m1) (
    bI (f8_borneBy 0 p1 m1) fun r4 m3 =>
    xri r4 m3)
set_option maxRecDepth 100000 in
theorem q11_fits (n : Nat) (p1 : Int32) (μ : XM) : xrun t11_fits e11_fits (xrtk (some .int)) 17 n (xlo [xr 11 0 0, xi p1] 2) μ = k11_fits p1 μ := rfl
theorem x11_fits : ∃ f : Int32 → XM → XR, ∀ (p1 : Int32) (μ : XM), f p1 μ = k11_fits p1 μ := ⟨fun p1 μ => k11_fits p1 μ, fun p1 μ => rfl⟩
noncomputable def f11_fits : Int32 → XM → XR := Classical.choose x11_fits
theorem f11_fits_e (p1 : Int32) (μ : XM) : f11_fits p1 μ = k11_fits p1 μ := Classical.choose_spec x11_fits p1 μ
noncomputable def F11_fits : XF := fun av μ => match av with
  | [.inr (.inr (some (t0, i0, 0))), .inl p1] => bif Nat.beq t0 11 && Nat.beq i0 0 then f11_fits p1 μ else none
  | _ => none
set_option maxRecDepth 100000 in
theorem c11_fits {X : XP} (hX : XOK X) (l : Launch) : Ctr X l y11_fits prog_1_method_28_code 2 (some .int) (xrm 3) 0 0 F11_fits :=
  Ctr_of (tab := t11_fits) (env := e11_fits) (K := 17) (N := 20000) (fl := fl11) (cl := cl11) (ll := ll11) (jl := jl11) hX mf11_fits.2.2.2 ⟨by decide +kernel, flk11, clk11, llk11, jlk11⟩
   (List.forall_mem_cons.mpr ⟨xcal_v (na := 1) (c2_isBelt hX l) mf2_isBelt ⟨rfl, rfl⟩ ml11_156 mi2_isBelt me2_isBelt (xrm_ok (by omega) (by decide)) rfl (by decide) (by decide +kernel), List.forall_mem_cons.mpr ⟨xcal_v (na := 1) (c8_borneBy hX l) mf8_borneBy ⟨rfl, rfl⟩ ml11_255 mi8_borneBy me8_borneBy (xrm_ok (by omega) (by decide)) rfl (by decide) (by decide +kernel), fun _ h => absurd h List.not_mem_nil⟩⟩)
   (xrm_1 (by decide)) ⟨_, _, rfl, rfl⟩ (fun av μ r μ' h => by
    unfold F11_fits at h
    split at h
    · replace h := cond_inv h; obtain ⟨hb, h⟩ := h
      simp only [Bool.and_eq_true] at hb
      obtain ⟨g0, g1⟩ := hb
      obtain rfl := Nat.eq_of_beq_eq_true g0
      obtain rfl := Nat.eq_of_beq_eq_true g1
      exact ⟨Nat.le_of_ble_eq_true rfl, (q11_fits _ _ _).trans ((f11_fits_e _ _).symm.trans h)⟩
    · cases h)
def t11_could : List XE := [(0, .aload_n 0, 0, 0, 0, 0, []),
  (1, .getfield 19, 11, 1, 0, 0, []),
  (4, .iload_n 1, 1, 0, 0, 0, []),
  (5, .invokevirtual 166, 2, 2, 0, 0, []),
  (8, .ifCond .ne 5, 13, 0, 0, 0, []),
  (11, .iconst (-1), 0, 0, (-1), 0, []),
  (12, .ireturn, 0, 0, 0, 0, []),
  (13, .iconst 0, 0, 0, 0, 0, []),
  (14, .istore_n 2, 2, 0, 0, 0, []),
  (15, .iconst 0, 0, 0, 0, 0, []),
  (16, .istore_n 3, 3, 0, 0, 0, []),
  (17, .nop, 15, 0, 0, 0, []),
  (17, .iload_n 3, 3, 0, 0, 0, []),
  (18, .aload_n 0, 0, 0, 0, 0, []),
  (19, .getfield 19, 11, 1, 0, 0, []),
  (22, .getfield 218, 2, 0, 0, 0, []),
  (25, .if_icmp .ge 27, 52, 0, 0, 0, []),
  (28, .aload_n 0, 0, 0, 0, 0, []),
  (29, .getfield 47, 11, 5, 0, 0, []),
  (32, .iload_n 1, 1, 0, 0, 0, []),
  (33, .iload_n 3, 3, 0, 0, 0, []),
  (34, .invokevirtual 258, 3, 8, 0, 0, []),
  (37, .ifCond .eq 9, 46, 0, 0, 0, []),
  (40, .iload_n 2, 2, 0, 0, 0, []),
  (41, .iconst 1, 0, 0, 1, 0, []),
  (42, .iload_n 3, 3, 0, 0, 0, []),
  (43, .ishl, 0, 0, 0, 0, []),
  (44, .ior, 0, 0, 0, 0, []),
  (45, .istore_n 2, 2, 0, 0, 0, []),
  (46, .iinc 3 1, 3, 0, 1, 0, []),
  (49, .goto (-32), 17, 0, 0, 0, []),
  (52, .iload_n 2, 2, 0, 0, 0, []),
  (53, .ireturn, 0, 0, 0, 0, [])]
noncomputable def e11_could : XN := [(166, 1, 2, 2, F2_isMan), (258, 1, 3, 8, F8_canReach)]
noncomputable def h11_could_17 (n : Nat) (v1 : Int32) (v2 : Int32) (v3 : Int32) (μ : XM) : XR := arr t11_could e11_could 1 38 n 17 [some (xr 11 0 0), some (xi v1), some (xi v2), some (xi v3)] [] μ
set_option maxRecDepth 100000 in
theorem h11_could_17_s (n : Nat) (v1 : Int32) (v2 : Int32) (v3 : Int32) (μ : XM) : h11_could_17 (n + 1) v1 v2 v3 μ = (
  xite (v3 < (rI μ 2 0 0)) (
    bI (f8_canReach 0 v1 v3 μ) fun r2 m1 =>
    xite (r2 = 0) (
      vI (v3 + 1) fun x3 =>
      h11_could_17 n v1 v2 x3 m1) (
      vI (v2 ||| (1 <<< (v3 &&& 31))) fun x4 =>
      vI (v3 + 1) fun x5 =>
      h11_could_17 n v1 x4 x5 m1)) (
    xri v2 μ)) := rfl
theorem h11_could_17_0 (v1 : Int32) (v2 : Int32) (v3 : Int32) (μ : XM) : h11_could_17 0 v1 v2 v3 μ = none := rfl
noncomputable def k11_could (n : Nat) (p1 : Int32) (μ : XM) : XR :=
  bI (f2_isMan 0 p1 μ) fun r2 m1 =>
  xite (r2 = 0) (
    xri (-1) m1) (
    vI 0 fun x3 =>
    vI 0 fun x4 =>
    h11_could_17 n p1 x3 x4 m1)
set_option maxRecDepth 100000 in
theorem q11_could (n : Nat) (p1 : Int32) (μ : XM) : xrun t11_could e11_could (xrtk (some .int)) 38 n (xlo [xr 11 0 0, xi p1] 4) μ = k11_could n p1 μ := rfl
theorem x11_could : ∃ f : Int32 → XM → XR, ∀ (p1 : Int32) (μ : XM), f p1 μ = k11_could 20000 p1 μ := ⟨fun p1 μ => k11_could 20000 p1 μ, fun p1 μ => rfl⟩
noncomputable def f11_could : Int32 → XM → XR := Classical.choose x11_could
theorem f11_could_e (p1 : Int32) (μ : XM) : f11_could p1 μ = k11_could 20000 p1 μ := Classical.choose_spec x11_could p1 μ
noncomputable def F11_could : XF := fun av μ => match av with
  | [.inr (.inr (some (t0, i0, 0))), .inl p1] => bif Nat.beq t0 11 && Nat.beq i0 0 then f11_could p1 μ else none
  | _ => none
set_option maxRecDepth 100000 in
theorem c11_could {X : XP} (hX : XOK X) (l : Launch) : Ctr X l y11_could prog_1_method_29_code 4 (some .int) (xrm 4) 0 0 F11_could :=
  Ctr_of (tab := t11_could) (env := e11_could) (K := 38) (N := 20000) (fl := fl11) (cl := cl11) (ll := ll11) (jl := jl11) hX mf11_could.2.2.2 ⟨by decide +kernel, flk11, clk11, llk11, jlk11⟩
   (List.forall_mem_cons.mpr ⟨xcal_v (na := 1) (c2_isMan hX l) mf2_isMan ⟨rfl, rfl⟩ ml11_166 mi2_isMan me2_isMan (xrm_ok (by omega) (by decide)) rfl (by decide) (by decide +kernel), List.forall_mem_cons.mpr ⟨xcal_v (na := 2) (c8_canReach hX l) mf8_canReach ⟨rfl, rfl⟩ ml11_258 mi8_canReach me8_canReach (xrm_ok (by omega) (by decide)) rfl (by decide) (by decide +kernel), fun _ h => absurd h List.not_mem_nil⟩⟩)
   (xrm_1 (by decide)) ⟨_, _, rfl, rfl⟩ (fun av μ r μ' h => by
    unfold F11_could at h
    split at h
    · replace h := cond_inv h; obtain ⟨hb, h⟩ := h
      simp only [Bool.and_eq_true] at hb
      obtain ⟨g0, g1⟩ := hb
      obtain rfl := Nat.eq_of_beq_eq_true g0
      obtain rfl := Nat.eq_of_beq_eq_true g1
      exact ⟨Nat.le_of_ble_eq_true rfl, (q11_could _ _ _).trans ((f11_could_e _ _).symm.trans h)⟩
    · cases h)
def t11_best : List XE := [(0, .iload_n 1, 1, 0, 0, 0, []),
  (1, .iconst (-1), 0, 0, (-1), 0, []),
  (2, .if_icmp .eq 17, 19, 0, 0, 0, []),
  (5, .aload_n 0, 0, 0, 0, 0, []),
  (6, .getfield 19, 11, 1, 0, 0, []),
  (9, .iload_n 1, 1, 0, 0, 0, []),
  (10, .invokevirtual 166, 2, 2, 0, 0, []),
  (13, .ifCond .ne 6, 19, 0, 0, 0, []),
  (16, .bipush (-2), 0, 0, (-2), 0, []),
  (18, .ireturn, 0, 0, 0, 0, []),
  (19, .nop, 3, 0, 0, 0, []),
  (19, .aload_n 0, 0, 0, 0, 0, []),
  (20, .getfield 87, 11, 11, 0, 0, []),
  (23, .invokevirtual 261, 1, 6, 0, 0, []),
  (26, .iload_n 1, 1, 0, 0, 0, []),
  (27, .iconst (-1), 0, 0, (-1), 0, []),
  (28, .if_icmp .ne 13, 41, 0, 0, 0, []),
  (31, .aload_n 0, 0, 0, 0, 0, []),
  (32, .getfield 87, 11, 11, 0, 0, []),
  (35, .getfield 264, 6, 2, 0, 0, []),
  (38, .goto 12, 50, 0, 0, 0, []),
  (41, .aload_n 0, 0, 0, 0, 0, []),
  (42, .getfield 87, 11, 11, 0, 0, []),
  (45, .getfield 267, 6, 3, 0, 0, []),
  (48, .iload_n 1, 1, 0, 0, 0, []),
  (49, .iaload, 0, 0, 0, 0, []),
  (50, .ireturn, 0, 0, 0, 0, [])]
noncomputable def e11_best : XN := [(166, 1, 2, 2, F2_isMan), (261, 0, 1, 6, F6_plan)]
noncomputable def h11_best_19 (n : Nat) (v1 : Int32) (μ : XM) : XR := arr t11_best e11_best 1 32 n 19 [some (xr 11 0 0), some (xi v1)] [] μ
set_option maxRecDepth 100000 in
theorem h11_best_19_s (n : Nat) (v1 : Int32) (μ : XM) : h11_best_19 (n + 1) v1 μ = (
  bV (f6_plan μ) fun m1 =>
  xite (v1 = (-1)) (
    xri (rI m1 6 0 2) m1) (
    xck (xin v1 3) <|
    xri (aI m1 6 0 3 (Int32.toNatClampNeg v1)) m1)) := rfl
theorem h11_best_19_0 (v1 : Int32) (μ : XM) : h11_best_19 0 v1 μ = none := rfl
noncomputable def k11_best (n : Nat) (p1 : Int32) (μ : XM) : XR :=
  xite (p1 = (-1)) (
    h11_best_19 n p1 μ) (
    bI (f2_isMan 0 p1 μ) fun r2 m1 =>
    xite (r2 = 0) (
      xri (-2) m1) (
      h11_best_19 n p1 m1))
set_option maxRecDepth 100000 in
theorem q11_best (n : Nat) (p1 : Int32) (μ : XM) : xrun t11_best e11_best (xrtk (some .int)) 32 n (xlo [xr 11 0 0, xi p1] 2) μ = k11_best n p1 μ := rfl
theorem x11_best : ∃ f : Int32 → XM → XR, ∀ (p1 : Int32) (μ : XM), f p1 μ = k11_best 20000 p1 μ := ⟨fun p1 μ => k11_best 20000 p1 μ, fun p1 μ => rfl⟩
noncomputable def f11_best : Int32 → XM → XR := Classical.choose x11_best
theorem f11_best_e (p1 : Int32) (μ : XM) : f11_best p1 μ = k11_best 20000 p1 μ := Classical.choose_spec x11_best p1 μ
noncomputable def F11_best : XF := fun av μ => match av with
  | [.inr (.inr (some (t0, i0, 0))), .inl p1] => bif Nat.beq t0 11 && Nat.beq i0 0 then f11_best p1 μ else none
  | _ => none
set_option maxRecDepth 100000 in
theorem c11_best {X : XP} (hX : XOK X) (l : Launch) : Ctr X l y11_best prog_1_method_30_code 2 (some .int) (xrm 133) 0 0 F11_best :=
  Ctr_of (tab := t11_best) (env := e11_best) (K := 32) (N := 20000) (fl := fl11) (cl := cl11) (ll := ll11) (jl := jl11) hX mf11_best.2.2.2 ⟨by decide +kernel, flk11, clk11, llk11, jlk11⟩
   (List.forall_mem_cons.mpr ⟨xcal_v (na := 1) (c2_isMan hX l) mf2_isMan ⟨rfl, rfl⟩ ml11_166 mi2_isMan me2_isMan (xrm_ok (by omega) (by decide)) rfl (by decide) (by decide +kernel), List.forall_mem_cons.mpr ⟨xcal_v (na := 0) (c6_plan hX l) mf6_plan ⟨rfl, rfl⟩ ml11_261 mi6_plan me6_plan (xrm_ok (by omega) (by decide)) rfl (by decide) (by decide +kernel), fun _ h => absurd h List.not_mem_nil⟩⟩)
   (xrm_1 (by decide)) ⟨_, _, rfl, rfl⟩ (fun av μ r μ' h => by
    unfold F11_best at h
    split at h
    · replace h := cond_inv h; obtain ⟨hb, h⟩ := h
      simp only [Bool.and_eq_true] at hb
      obtain ⟨g0, g1⟩ := hb
      obtain rfl := Nat.eq_of_beq_eq_true g0
      obtain rfl := Nat.eq_of_beq_eq_true g1
      exact ⟨Nat.le_of_ble_eq_true rfl, (q11_best _ _ _).trans ((f11_best_e _ _).symm.trans h)⟩
    · cases h)
def t11_with : List XE := [(0, .aload_n 0, 0, 0, 0, 0, []),
  (1, .getfield 19, 11, 1, 0, 0, []),
  (4, .iload_n 1, 1, 0, 0, 0, []),
  (5, .invokevirtual 166, 2, 2, 0, 0, []),
  (8, .ifCond .ne 6, 14, 0, 0, 0, []),
  (11, .bipush (-2), 0, 0, (-2), 0, []),
  (13, .ireturn, 0, 0, 0, 0, []),
  (14, .aload_n 0, 0, 0, 0, 0, []),
  (15, .getfield 87, 11, 11, 0, 0, []),
  (18, .invokevirtual 261, 1, 6, 0, 0, []),
  (21, .aload_n 0, 0, 0, 0, 0, []),
  (22, .getfield 87, 11, 11, 0, 0, []),
  (25, .getfield 270, 6, 4, 0, 0, []),
  (28, .iload_n 1, 1, 0, 0, 0, []),
  (29, .iaload, 0, 0, 0, 0, []),
  (30, .ireturn, 0, 0, 0, 0, [])]
noncomputable def e11_with : XN := [(166, 1, 2, 2, F2_isMan), (261, 0, 1, 6, F6_plan)]
noncomputable def k11_with (p1 : Int32) (μ : XM) : XR :=
  bI (f2_isMan 0 p1 μ) fun r2 m1 =>
  xite (r2 = 0) (
    xri (-2) m1) (
    bV (f6_plan m1) fun m3 =>
    xck (xin p1 3) <|
    xri (aI m3 6 0 4 (Int32.toNatClampNeg p1)) m3)
set_option maxRecDepth 100000 in
theorem q11_with (n : Nat) (p1 : Int32) (μ : XM) : xrun t11_with e11_with (xrtk (some .int)) 21 n (xlo [xr 11 0 0, xi p1] 2) μ = k11_with p1 μ := rfl
theorem x11_with : ∃ f : Int32 → XM → XR, ∀ (p1 : Int32) (μ : XM), f p1 μ = k11_with p1 μ := ⟨fun p1 μ => k11_with p1 μ, fun p1 μ => rfl⟩
noncomputable def f11_with : Int32 → XM → XR := Classical.choose x11_with
theorem f11_with_e (p1 : Int32) (μ : XM) : f11_with p1 μ = k11_with p1 μ := Classical.choose_spec x11_with p1 μ
noncomputable def F11_with : XF := fun av μ => match av with
  | [.inr (.inr (some (t0, i0, 0))), .inl p1] => bif Nat.beq t0 11 && Nat.beq i0 0 then f11_with p1 μ else none
  | _ => none
set_option maxRecDepth 100000 in
theorem c11_with {X : XP} (hX : XOK X) (l : Launch) : Ctr X l y11_with prog_1_method_31_code 2 (some .int) (xrm 133) 0 0 F11_with :=
  Ctr_of (tab := t11_with) (env := e11_with) (K := 21) (N := 20000) (fl := fl11) (cl := cl11) (ll := ll11) (jl := jl11) hX mf11_with.2.2.2 ⟨by decide +kernel, flk11, clk11, llk11, jlk11⟩
   (List.forall_mem_cons.mpr ⟨xcal_v (na := 1) (c2_isMan hX l) mf2_isMan ⟨rfl, rfl⟩ ml11_166 mi2_isMan me2_isMan (xrm_ok (by omega) (by decide)) rfl (by decide) (by decide +kernel), List.forall_mem_cons.mpr ⟨xcal_v (na := 0) (c6_plan hX l) mf6_plan ⟨rfl, rfl⟩ ml11_261 mi6_plan me6_plan (xrm_ok (by omega) (by decide)) rfl (by decide) (by decide +kernel), fun _ h => absurd h List.not_mem_nil⟩⟩)
   (xrm_1 (by decide)) ⟨_, _, rfl, rfl⟩ (fun av μ r μ' h => by
    unfold F11_with at h
    split at h
    · replace h := cond_inv h; obtain ⟨hb, h⟩ := h
      simp only [Bool.and_eq_true] at hb
      obtain ⟨g0, g1⟩ := hb
      obtain rfl := Nat.eq_of_beq_eq_true g0
      obtain rfl := Nat.eq_of_beq_eq_true g1
      exact ⟨Nat.le_of_ble_eq_true rfl, (q11_with _ _ _).trans ((f11_with_e _ _).symm.trans h)⟩
    · cases h)
def t11_need : List XE := [(0, .aload_n 0, 0, 0, 0, 0, []),
  (1, .getfield 47, 11, 5, 0, 0, []),
  (4, .invokevirtual 224, 1, 8, 0, 0, []),
  (7, .istore_n 1, 1, 0, 0, 0, []),
  (8, .iconst (-1), 0, 0, (-1), 0, []),
  (9, .istore_n 2, 2, 0, 0, 0, []),
  (10, .iconst 0, 0, 0, 0, 0, []),
  (11, .istore_n 3, 3, 0, 0, 0, []),
  (12, .iconst 0, 0, 0, 0, 0, []),
  (13, .istore 4, 4, 0, 0, 0, []),
  (15, .nop, 31, 0, 0, 0, []),
  (15, .iload 4, 4, 0, 0, 0, []),
  (17, .iconst 1, 0, 0, 1, 0, []),
  (18, .aload_n 0, 0, 0, 0, 0, []),
  (19, .getfield 19, 11, 1, 0, 0, []),
  (22, .getfield 273, 2, 1, 0, 0, []),
  (25, .ishl, 0, 0, 0, 0, []),
  (26, .if_icmp .ge 53, 79, 0, 0, 0, []),
  (29, .aload_n 0, 0, 0, 0, 0, []),
  (30, .getfield 19, 11, 1, 0, 0, []),
  (33, .iload 4, 4, 0, 0, 0, []),
  (35, .iload_n 1, 1, 0, 0, 0, []),
  (36, .invokevirtual 276, 3, 2, 0, 0, []),
  (39, .ifCond .ne 6, 45, 0, 0, 0, []),
  (42, .goto 31, 73, 0, 0, 0, []),
  (45, .aload_n 0, 0, 0, 0, 0, []),
  (46, .getfield 19, 11, 1, 0, 0, []),
  (49, .iload 4, 4, 0, 0, 0, []),
  (51, .invokevirtual 279, 2, 2, 0, 0, []),
  (54, .istore 5, 5, 0, 0, 0, []),
  (56, .iload_n 2, 2, 0, 0, 0, []),
  (57, .iconst (-1), 0, 0, (-1), 0, []),
  (58, .if_icmp .eq 9, 67, 0, 0, 0, []),
  (61, .iload 5, 5, 0, 0, 0, []),
  (63, .iload_n 3, 3, 0, 0, 0, []),
  (64, .if_icmp .ge 9, 73, 0, 0, 0, []),
  (67, .iload 4, 4, 0, 0, 0, []),
  (69, .istore_n 2, 2, 0, 0, 0, []),
  (70, .iload 5, 5, 0, 0, 0, []),
  (72, .istore_n 3, 3, 0, 0, 0, []),
  (73, .iinc 4 1, 4, 0, 1, 0, []),
  (76, .goto (-61), 15, 0, 0, 0, []),
  (79, .iload_n 2, 2, 0, 0, 0, []),
  (80, .ireturn, 0, 0, 0, 0, [])]
noncomputable def e11_need : XN := [(224, 1, 1, 8, F8_criers), (276, 1, 3, 2, F2_bearsAll), (279, 1, 2, 2, F2_bearing)]
noncomputable def h11_need_15 (n : Nat) (v1 : Int32) (v2 : Int32) (v3 : Int32) (v4 : Int32) (μ : XM) : XR := arr t11_need e11_need 1 49 n 15 [some (xr 11 0 0), some (xi v1), some (xi v2), some (xi v3), some (xi v4), none] [] μ
set_option maxRecDepth 100000 in
theorem h11_need_15_s (n : Nat) (v1 : Int32) (v2 : Int32) (v3 : Int32) (v4 : Int32) (μ : XM) : h11_need_15 (n + 1) v1 v2 v3 v4 μ = (
  xite (v4 < (1 <<< ((rI μ 2 0 1) &&& 31))) (
    bI (f2_bearsAll 0 v4 v1 μ) fun r2 m1 =>
    xite (r2 = 0) (
      vI (v4 + 1) fun x3 =>
      h11_need_15 n v1 v2 v3 x3 m1) (
      bI (f2_bearing 0 v4 m1) fun r5 m4 =>
      vI r5 fun x6 =>
      xite (v2 = (-1)) (
        vI v4 fun x7 =>
        vI x6 fun x8 =>
        vI (v4 + 1) fun x9 =>
        h11_need_15 n v1 x7 x8 x9 m4) (
        xite (x6 < v3) (
          vI v4 fun x10 =>
          vI x6 fun x11 =>
          vI (v4 + 1) fun x12 =>
          h11_need_15 n v1 x10 x11 x12 m4) (
          vI (v4 + 1) fun x13 =>
          h11_need_15 n v1 v2 v3 x13 m4)))) (
    xri v2 μ)) := rfl
theorem h11_need_15_0 (v1 : Int32) (v2 : Int32) (v3 : Int32) (v4 : Int32) (μ : XM) : h11_need_15 0 v1 v2 v3 v4 μ = none := rfl
noncomputable def k11_need (n : Nat) (μ : XM) : XR :=
  bI (f8_criers 0 μ) fun r2 m1 =>
  vI r2 fun x3 =>
  vI (-1) fun x4 =>
  vI 0 fun x5 =>
  vI 0 fun x6 =>
  h11_need_15 n x3 x4 x5 x6 m1
set_option maxRecDepth 100000 in
theorem q11_need (n : Nat) (μ : XM) : xrun t11_need e11_need (xrtk (some .int)) 49 n (xlo [xr 11 0 0] 6) μ = k11_need n  μ := rfl
theorem x11_need : ∃ f : XM → XR, ∀ (μ : XM), f μ = k11_need 20000  μ := ⟨fun μ => k11_need 20000  μ, fun μ => rfl⟩
noncomputable def f11_need : XM → XR := Classical.choose x11_need
theorem f11_need_e (μ : XM) : f11_need μ = k11_need 20000  μ := Classical.choose_spec x11_need μ
noncomputable def F11_need : XF := fun av μ => match av with
  | [.inr (.inr (some (t0, i0, 0)))] => bif Nat.beq t0 11 && Nat.beq i0 0 then f11_need  μ else none
  | _ => none
set_option maxRecDepth 100000 in
theorem c11_need {X : XP} (hX : XOK X) (l : Launch) : Ctr X l y11_need prog_1_method_32_code 6 (some .int) (xrm 5) 0 0 F11_need :=
  Ctr_of (tab := t11_need) (env := e11_need) (K := 49) (N := 20000) (fl := fl11) (cl := cl11) (ll := ll11) (jl := jl11) hX mf11_need.2.2.2 ⟨by decide +kernel, flk11, clk11, llk11, jlk11⟩
   (List.forall_mem_cons.mpr ⟨xcal_v (na := 0) (c8_criers hX l) mf8_criers ⟨rfl, rfl⟩ ml11_224 mi8_criers me8_criers (xrm_ok (by omega) (by decide)) rfl (by decide) (by decide +kernel), List.forall_mem_cons.mpr ⟨xcal_v (na := 2) (c2_bearsAll hX l) mf2_bearsAll ⟨rfl, rfl⟩ ml11_276 mi2_bearsAll me2_bearsAll (xrm_ok (by omega) (by decide)) rfl (by decide) (by decide +kernel), List.forall_mem_cons.mpr ⟨xcal_v (na := 1) (c2_bearing hX l) mf2_bearing ⟨rfl, rfl⟩ ml11_279 mi2_bearing me2_bearing (xrm_ok (by omega) (by decide)) rfl (by decide) (by decide +kernel), fun _ h => absurd h List.not_mem_nil⟩⟩⟩)
   (xrm_1 (by decide)) ⟨_, _, rfl, rfl⟩ (fun av μ r μ' h => by
    unfold F11_need at h
    split at h
    · replace h := cond_inv h; obtain ⟨hb, h⟩ := h
      simp only [Bool.and_eq_true] at hb
      obtain ⟨g0, g1⟩ := hb
      obtain rfl := Nat.eq_of_beq_eq_true g0
      obtain rfl := Nat.eq_of_beq_eq_true g1
      exact ⟨Nat.le_of_ble_eq_true rfl, (q11_need _  _).trans ((f11_need_e  _).symm.trans h)⟩
    · cases h)
def t11_latest : List XE := [(0, .aload_n 0, 0, 0, 0, 0, []),
  (1, .getfield 47, 11, 5, 0, 0, []),
  (4, .iload_n 1, 1, 0, 0, 0, []),
  (5, .invokevirtual 239, 2, 8, 0, 0, []),
  (8, .ifCond .eq 15, 23, 0, 0, 0, []),
  (11, .aload_n 0, 0, 0, 0, 0, []),
  (12, .getfield 19, 11, 1, 0, 0, []),
  (15, .iload_n 1, 1, 0, 0, 0, []),
  (16, .invokevirtual 282, 2, 2, 0, 0, []),
  (19, .iconst (-1), 0, 0, (-1), 0, []),
  (20, .if_icmp .ne 5, 25, 0, 0, 0, []),
  (23, .iconst (-1), 0, 0, (-1), 0, []),
  (24, .ireturn, 0, 0, 0, 0, []),
  (25, .aload_n 0, 0, 0, 0, 0, []),
  (26, .iload_n 1, 1, 0, 0, 0, []),
  (27, .iconst 2, 0, 0, 2, 0, []),
  (28, .invokevirtual 235, 3, 11, 0, 0, []),
  (31, .istore_n 2, 2, 0, 0, 0, []),
  (32, .iload_n 2, 2, 0, 0, 0, []),
  (33, .iconst (-1), 0, 0, (-1), 0, []),
  (34, .if_icmp .ne 8, 42, 0, 0, 0, []),
  (37, .bipush 60, 0, 0, 60, 0, []),
  (39, .goto 6, 45, 0, 0, 0, []),
  (42, .iload_n 2, 2, 0, 0, 0, []),
  (43, .iconst 1, 0, 0, 1, 0, []),
  (44, .isub, 0, 0, 0, 0, []),
  (45, .ireturn, 0, 0, 0, 0, [])]
noncomputable def e11_latest : XN := [(239, 1, 2, 8, F8_isIn), (282, 1, 2, 2, F2_leastBelt), (235, 1, 3, 11, F11_minutesUntil)]
noncomputable def k11_latest (p1 : Int32) (μ : XM) : XR :=
  bI (f8_isIn 0 p1 μ) fun r2 m1 =>
  xite (r2 = 0) (
    xri (-1) m1) (
    bI (f2_leastBelt 0 p1 m1) fun r4 m3 =>
    xite (r4 = (-1)) (
      xri (-1) m3) (
      bI (f11_minutesUntil p1 2 m3) fun r6 m5 =>
      vI r6 fun x7 =>
      xite (x7 = (-1)) (
        xri 60 m5) (
        xri (x7 - 1) m5)))
set_option maxRecDepth 100000 in
theorem q11_latest (n : Nat) (p1 : Int32) (μ : XM) : xrun t11_latest e11_latest (xrtk (some .int)) 32 n (xlo [xr 11 0 0, xi p1] 3) μ = k11_latest p1 μ := rfl
theorem x11_latest : ∃ f : Int32 → XM → XR, ∀ (p1 : Int32) (μ : XM), f p1 μ = k11_latest p1 μ := ⟨fun p1 μ => k11_latest p1 μ, fun p1 μ => rfl⟩
noncomputable def f11_latest : Int32 → XM → XR := Classical.choose x11_latest
theorem f11_latest_e (p1 : Int32) (μ : XM) : f11_latest p1 μ = k11_latest p1 μ := Classical.choose_spec x11_latest p1 μ
noncomputable def F11_latest : XF := fun av μ => match av with
  | [.inr (.inr (some (t0, i0, 0))), .inl p1] => bif Nat.beq t0 11 && Nat.beq i0 0 then f11_latest p1 μ else none
  | _ => none
set_option maxRecDepth 100000 in
theorem c11_latest {X : XP} (hX : XOK X) (l : Launch) : Ctr X l y11_latest prog_1_method_33_code 3 (some .int) (xrm 6) 0 0 F11_latest :=
  Ctr_of (tab := t11_latest) (env := e11_latest) (K := 32) (N := 20000) (fl := fl11) (cl := cl11) (ll := ll11) (jl := jl11) hX mf11_latest.2.2.2 ⟨by decide +kernel, flk11, clk11, llk11, jlk11⟩
   (List.forall_mem_cons.mpr ⟨xcal_v (na := 1) (c8_isIn hX l) mf8_isIn ⟨rfl, rfl⟩ ml11_239 mi8_isIn me8_isIn (xrm_ok (by omega) (by decide)) rfl (by decide) (by decide +kernel), List.forall_mem_cons.mpr ⟨xcal_v (na := 1) (c2_leastBelt hX l) mf2_leastBelt ⟨rfl, rfl⟩ ml11_282 mi2_leastBelt me2_leastBelt (xrm_ok (by omega) (by decide)) rfl (by decide) (by decide +kernel), List.forall_mem_cons.mpr ⟨xcal_v (na := 2) (c11_minutesUntil hX l) mf11_minutesUntil ⟨rfl, rfl⟩ ml11_235 mi11_minutesUntil me11_minutesUntil (xrm_ok (by omega) (by decide)) rfl (by decide) (by decide +kernel), fun _ h => absurd h List.not_mem_nil⟩⟩⟩)
   (xrm_1 (by decide)) ⟨_, _, rfl, rfl⟩ (fun av μ r μ' h => by
    unfold F11_latest at h
    split at h
    · replace h := cond_inv h; obtain ⟨hb, h⟩ := h
      simp only [Bool.and_eq_true] at hb
      obtain ⟨g0, g1⟩ := hb
      obtain rfl := Nat.eq_of_beq_eq_true g0
      obtain rfl := Nat.eq_of_beq_eq_true g1
      exact ⟨Nat.le_of_ble_eq_true rfl, (q11_latest _ _ _).trans ((f11_latest_e _ _).symm.trans h)⟩
    · cases h)
def t11_enough : List XE := [(0, .aload_n 0, 0, 0, 0, 0, []),
  (1, .getfield 19, 11, 1, 0, 0, []),
  (4, .iload_n 1, 1, 0, 0, 0, []),
  (5, .invokevirtual 282, 2, 2, 0, 0, []),
  (8, .ireturn, 0, 0, 0, 0, [])]
noncomputable def e11_enough : XN := [(282, 1, 2, 2, F2_leastBelt)]
noncomputable def k11_enough (p1 : Int32) (μ : XM) : XR :=
  bI (f2_leastBelt 0 p1 μ) fun r2 m1 =>
  xri r2 m1
set_option maxRecDepth 100000 in
theorem q11_enough (n : Nat) (p1 : Int32) (μ : XM) : xrun t11_enough e11_enough (xrtk (some .int)) 10 n (xlo [xr 11 0 0, xi p1] 2) μ = k11_enough p1 μ := rfl
theorem x11_enough : ∃ f : Int32 → XM → XR, ∀ (p1 : Int32) (μ : XM), f p1 μ = k11_enough p1 μ := ⟨fun p1 μ => k11_enough p1 μ, fun p1 μ => rfl⟩
noncomputable def f11_enough : Int32 → XM → XR := Classical.choose x11_enough
theorem f11_enough_e (p1 : Int32) (μ : XM) : f11_enough p1 μ = k11_enough p1 μ := Classical.choose_spec x11_enough p1 μ
noncomputable def F11_enough : XF := fun av μ => match av with
  | [.inr (.inr (some (t0, i0, 0))), .inl p1] => bif Nat.beq t0 11 && Nat.beq i0 0 then f11_enough p1 μ else none
  | _ => none
set_option maxRecDepth 100000 in
theorem c11_enough {X : XP} (hX : XOK X) (l : Launch) : Ctr X l y11_enough prog_1_method_34_code 2 (some .int) (xrm 3) 0 0 F11_enough :=
  Ctr_of (tab := t11_enough) (env := e11_enough) (K := 10) (N := 20000) (fl := fl11) (cl := cl11) (ll := ll11) (jl := jl11) hX mf11_enough.2.2.2 ⟨by decide +kernel, flk11, clk11, llk11, jlk11⟩
   (List.forall_mem_cons.mpr ⟨xcal_v (na := 1) (c2_leastBelt hX l) mf2_leastBelt ⟨rfl, rfl⟩ ml11_282 mi2_leastBelt me2_leastBelt (xrm_ok (by omega) (by decide)) rfl (by decide) (by decide +kernel), fun _ h => absurd h List.not_mem_nil⟩)
   (xrm_1 (by decide)) ⟨_, _, rfl, rfl⟩ (fun av μ r μ' h => by
    unfold F11_enough at h
    split at h
    · replace h := cond_inv h; obtain ⟨hb, h⟩ := h
      simp only [Bool.and_eq_true] at hb
      obtain ⟨g0, g1⟩ := hb
      obtain rfl := Nat.eq_of_beq_eq_true g0
      obtain rfl := Nat.eq_of_beq_eq_true g1
      exact ⟨Nat.le_of_ble_eq_true rfl, (q11_enough _ _ _).trans ((f11_enough_e _ _).symm.trans h)⟩
    · cases h)
def t11_near : List XE := [(0, .aload_n 0, 0, 0, 0, 0, []),
  (1, .getfield 19, 11, 1, 0, 0, []),
  (4, .iload_n 1, 1, 0, 0, 0, []),
  (5, .invokevirtual 130, 2, 2, 0, 0, []),
  (8, .ifCond .ne 5, 13, 0, 0, 0, []),
  (11, .iconst (-1), 0, 0, (-1), 0, []),
  (12, .ireturn, 0, 0, 0, 0, []),
  (13, .iconst (-1), 0, 0, (-1), 0, []),
  (14, .istore_n 2, 2, 0, 0, 0, []),
  (15, .iconst 0, 0, 0, 0, 0, []),
  (16, .istore_n 3, 3, 0, 0, 0, []),
  (17, .iconst 0, 0, 0, 0, 0, []),
  (18, .istore 4, 4, 0, 0, 0, []),
  (20, .nop, 31, 0, 0, 0, []),
  (20, .iload 4, 4, 0, 0, 0, []),
  (22, .aload_n 0, 0, 0, 0, 0, []),
  (23, .getfield 19, 11, 1, 0, 0, []),
  (26, .getfield 285, 2, 2, 0, 0, []),
  (29, .if_icmp .ge 51, 80, 0, 0, 0, []),
  (32, .aload_n 0, 0, 0, 0, 0, []),
  (33, .getfield 19, 11, 1, 0, 0, []),
  (36, .getfield 169, 2, 14, 0, 0, []),
  (39, .iload 4, 4, 0, 0, 0, []),
  (41, .iaload, 0, 0, 0, 0, []),
  (42, .aload_n 0, 0, 0, 0, 0, []),
  (43, .getfield 47, 11, 5, 0, 0, []),
  (46, .getfield 138, 8, 1, 0, 0, []),
  (49, .iload_n 1, 1, 0, 0, 0, []),
  (50, .iaload, 0, 0, 0, 0, []),
  (51, .isub, 0, 0, 0, 0, []),
  (52, .invokestatic 288, 0, 3, 0, 0, []),
  (55, .istore 5, 5, 0, 0, 0, []),
  (57, .iload_n 2, 2, 0, 0, 0, []),
  (58, .iconst (-1), 0, 0, (-1), 0, []),
  (59, .if_icmp .eq 9, 68, 0, 0, 0, []),
  (62, .iload 5, 5, 0, 0, 0, []),
  (64, .iload_n 3, 3, 0, 0, 0, []),
  (65, .if_icmp .ge 9, 74, 0, 0, 0, []),
  (68, .iload 4, 4, 0, 0, 0, []),
  (70, .istore_n 2, 2, 0, 0, 0, []),
  (71, .iload 5, 5, 0, 0, 0, []),
  (73, .istore_n 3, 3, 0, 0, 0, []),
  (74, .iinc 4 1, 4, 0, 1, 0, []),
  (77, .goto (-57), 20, 0, 0, 0, []),
  (80, .iload_n 2, 2, 0, 0, 0, []),
  (81, .ireturn, 0, 0, 0, 0, [])]
noncomputable def e11_near : XN := [(130, 1, 2, 2, F2_isGuest)]
noncomputable def h11_near_20 (n : Nat) (v1 : Int32) (v2 : Int32) (v3 : Int32) (v4 : Int32) (μ : XM) : XR := arr t11_near e11_near 1 51 n 20 [some (xr 11 0 0), some (xi v1), some (xi v2), some (xi v3), some (xi v4), none] [] μ
set_option maxRecDepth 100000 in
theorem h11_near_20_s (n : Nat) (v1 : Int32) (v2 : Int32) (v3 : Int32) (v4 : Int32) (μ : XM) : h11_near_20 (n + 1) v1 v2 v3 v4 μ = (
  xite (v4 < (rI μ 2 0 2)) (
    xck (xin v4 3) <|
    xck (xin v1 6) <|
    vI (if 0 ≤ ((aI μ 2 0 14 (Int32.toNatClampNeg v4)) - (aI μ 8 0 1 (Int32.toNatClampNeg v1))) then ((aI μ 2 0 14 (Int32.toNatClampNeg v4)) - (aI μ 8 0 1 (Int32.toNatClampNeg v1))) else 0 - ((aI μ 2 0 14 (Int32.toNatClampNeg v4)) - (aI μ 8 0 1 (Int32.toNatClampNeg v1)))) fun x1 =>
    xite (v2 = (-1)) (
      vI v4 fun x2 =>
      vI x1 fun x3 =>
      vI (v4 + 1) fun x4 =>
      h11_near_20 n v1 x2 x3 x4 μ) (
      xite (x1 < v3) (
        vI v4 fun x5 =>
        vI x1 fun x6 =>
        vI (v4 + 1) fun x7 =>
        h11_near_20 n v1 x5 x6 x7 μ) (
        vI (v4 + 1) fun x8 =>
        h11_near_20 n v1 v2 v3 x8 μ))) (
    xri v2 μ)) := rfl
theorem h11_near_20_0 (v1 : Int32) (v2 : Int32) (v3 : Int32) (v4 : Int32) (μ : XM) : h11_near_20 0 v1 v2 v3 v4 μ = none := rfl
noncomputable def k11_near (n : Nat) (p1 : Int32) (μ : XM) : XR :=
  bI (f2_isGuest 0 p1 μ) fun r2 m1 =>
  xite (r2 = 0) (
    xri (-1) m1) (
    vI (-1) fun x3 =>
    vI 0 fun x4 =>
    vI 0 fun x5 =>
    h11_near_20 n p1 x3 x4 x5 m1)
set_option maxRecDepth 100000 in
theorem q11_near (n : Nat) (p1 : Int32) (μ : XM) : xrun t11_near e11_near (xrtk (some .int)) 51 n (xlo [xr 11 0 0, xi p1] 6) μ = k11_near n p1 μ := rfl
theorem x11_near : ∃ f : Int32 → XM → XR, ∀ (p1 : Int32) (μ : XM), f p1 μ = k11_near 20000 p1 μ := ⟨fun p1 μ => k11_near 20000 p1 μ, fun p1 μ => rfl⟩
noncomputable def f11_near : Int32 → XM → XR := Classical.choose x11_near
theorem f11_near_e (p1 : Int32) (μ : XM) : f11_near p1 μ = k11_near 20000 p1 μ := Classical.choose_spec x11_near p1 μ
noncomputable def F11_near : XF := fun av μ => match av with
  | [.inr (.inr (some (t0, i0, 0))), .inl p1] => bif Nat.beq t0 11 && Nat.beq i0 0 then f11_near p1 μ else none
  | _ => none
set_option maxRecDepth 100000 in
theorem c11_near {X : XP} (hX : XOK X) (l : Launch) : Ctr X l y11_near prog_1_method_35_code 6 (some .int) (xrm 2) 0 0 F11_near :=
  Ctr_of (tab := t11_near) (env := e11_near) (K := 51) (N := 20000) (fl := fl11) (cl := cl11) (ll := ll11) (jl := jl11) hX mf11_near.2.2.2 ⟨by decide +kernel, flk11, clk11, llk11, jlk11⟩
   (List.forall_mem_cons.mpr ⟨xcal_v (na := 1) (c2_isGuest hX l) mf2_isGuest ⟨rfl, rfl⟩ ml11_130 mi2_isGuest me2_isGuest (xrm_ok (by omega) (by decide)) rfl (by decide) (by decide +kernel), fun _ h => absurd h List.not_mem_nil⟩)
   (xrm_1 (by decide)) ⟨_, _, rfl, rfl⟩ (fun av μ r μ' h => by
    unfold F11_near at h
    split at h
    · replace h := cond_inv h; obtain ⟨hb, h⟩ := h
      simp only [Bool.and_eq_true] at hb
      obtain ⟨g0, g1⟩ := hb
      obtain rfl := Nat.eq_of_beq_eq_true g0
      obtain rfl := Nat.eq_of_beq_eq_true g1
      exact ⟨Nat.le_of_ble_eq_true rfl, (q11_near _ _ _).trans ((f11_near_e _ _).symm.trans h)⟩
    · cases h)
def t11_gap : List XE := [(0, .aload_n 0, 0, 0, 0, 0, []),
  (1, .getfield 19, 11, 1, 0, 0, []),
  (4, .iload_n 1, 1, 0, 0, 0, []),
  (5, .invokevirtual 130, 2, 2, 0, 0, []),
  (8, .ifCond .eq 19, 27, 0, 0, 0, []),
  (11, .aload_n 0, 0, 0, 0, 0, []),
  (12, .getfield 19, 11, 1, 0, 0, []),
  (15, .iload_n 2, 2, 0, 0, 0, []),
  (16, .invokevirtual 130, 2, 2, 0, 0, []),
  (19, .ifCond .eq 8, 27, 0, 0, 0, []),
  (22, .iload_n 1, 1, 0, 0, 0, []),
  (23, .iload_n 2, 2, 0, 0, 0, []),
  (24, .if_icmp .ne 5, 29, 0, 0, 0, []),
  (27, .iconst (-1), 0, 0, (-1), 0, []),
  (28, .ireturn, 0, 0, 0, 0, []),
  (29, .aload_n 0, 0, 0, 0, 0, []),
  (30, .getfield 47, 11, 5, 0, 0, []),
  (33, .getfield 138, 8, 1, 0, 0, []),
  (36, .iload_n 1, 1, 0, 0, 0, []),
  (37, .iaload, 0, 0, 0, 0, []),
  (38, .aload_n 0, 0, 0, 0, 0, []),
  (39, .getfield 47, 11, 5, 0, 0, []),
  (42, .getfield 138, 8, 1, 0, 0, []),
  (45, .iload_n 2, 2, 0, 0, 0, []),
  (46, .iaload, 0, 0, 0, 0, []),
  (47, .isub, 0, 0, 0, 0, []),
  (48, .invokestatic 288, 0, 3, 0, 0, []),
  (51, .ireturn, 0, 0, 0, 0, [])]
noncomputable def e11_gap : XN := [(130, 1, 2, 2, F2_isGuest)]
noncomputable def k11_gap (p1 : Int32) (p2 : Int32) (μ : XM) : XR :=
  bI (f2_isGuest 0 p1 μ) fun r2 m1 =>
  xite (r2 = 0) (
    xri (-1) m1) (
    bI (f2_isGuest 0 p2 m1) fun r4 m3 =>
    xite (r4 = 0) (
      xri (-1) m3) (
      xite (p1 = p2) (
        xri (-1) m3) (
        xck (xin p1 6) <|
        xck (xin p2 6) <|
        xri (if 0 ≤ ((aI m3 8 0 1 (Int32.toNatClampNeg p1)) - (aI m3 8 0 1 (Int32.toNatClampNeg p2))) then ((aI m3 8 0 1 (Int32.toNatClampNeg p1)) - (aI m3 8 0 1 (Int32.toNatClampNeg p2))) else 0 - ((aI m3 8 0 1 (Int32.toNatClampNeg p1)) - (aI m3 8 0 1 (Int32.toNatClampNeg p2)))) m3)))
set_option maxRecDepth 100000 in
theorem q11_gap (n : Nat) (p1 : Int32) (p2 : Int32) (μ : XM) : xrun t11_gap e11_gap (xrtk (some .int)) 33 n (xlo [xr 11 0 0, xi p1, xi p2] 3) μ = k11_gap p1 p2 μ := rfl
theorem x11_gap : ∃ f : Int32 → Int32 → XM → XR, ∀ (p1 : Int32) (p2 : Int32) (μ : XM), f p1 p2 μ = k11_gap p1 p2 μ := ⟨fun p1 p2 μ => k11_gap p1 p2 μ, fun p1 p2 μ => rfl⟩
noncomputable def f11_gap : Int32 → Int32 → XM → XR := Classical.choose x11_gap
theorem f11_gap_e (p1 : Int32) (p2 : Int32) (μ : XM) : f11_gap p1 p2 μ = k11_gap p1 p2 μ := Classical.choose_spec x11_gap p1 p2 μ
noncomputable def F11_gap : XF := fun av μ => match av with
  | [.inr (.inr (some (t0, i0, 0))), .inl p1, .inl p2] => bif Nat.beq t0 11 && Nat.beq i0 0 then f11_gap p1 p2 μ else none
  | _ => none
set_option maxRecDepth 100000 in
theorem c11_gap {X : XP} (hX : XOK X) (l : Launch) : Ctr X l y11_gap prog_1_method_36_code 3 (some .int) (xrm 2) 0 0 F11_gap :=
  Ctr_of (tab := t11_gap) (env := e11_gap) (K := 33) (N := 20000) (fl := fl11) (cl := cl11) (ll := ll11) (jl := jl11) hX mf11_gap.2.2.2 ⟨by decide +kernel, flk11, clk11, llk11, jlk11⟩
   (List.forall_mem_cons.mpr ⟨xcal_v (na := 1) (c2_isGuest hX l) mf2_isGuest ⟨rfl, rfl⟩ ml11_130 mi2_isGuest me2_isGuest (xrm_ok (by omega) (by decide)) rfl (by decide) (by decide +kernel), fun _ h => absurd h List.not_mem_nil⟩)
   (xrm_1 (by decide)) ⟨_, _, rfl, rfl⟩ (fun av μ r μ' h => by
    unfold F11_gap at h
    split at h
    · replace h := cond_inv h; obtain ⟨hb, h⟩ := h
      simp only [Bool.and_eq_true] at hb
      obtain ⟨g0, g1⟩ := hb
      obtain rfl := Nat.eq_of_beq_eq_true g0
      obtain rfl := Nat.eq_of_beq_eq_true g1
      exact ⟨Nat.le_of_ble_eq_true rfl, (q11_gap _ _ _ _).trans ((f11_gap_e _ _ _).symm.trans h)⟩
    · cases h)
def t11_row : List XE := [(0, .iconst 0, 0, 0, 0, 0, []),
  (1, .istore_n 1, 1, 0, 0, 0, []),
  (2, .iconst 1, 0, 0, 1, 0, []),
  (3, .istore_n 2, 2, 0, 0, 0, []),
  (4, .nop, 7, 0, 0, 0, []),
  (4, .iload_n 2, 2, 0, 0, 0, []),
  (5, .bipush 9, 0, 0, 9, 0, []),
  (7, .if_icmp .gt 22, 29, 0, 0, 0, []),
  (10, .iload_n 1, 1, 0, 0, 0, []),
  (11, .aload_n 0, 0, 0, 0, 0, []),
  (12, .getfield 47, 11, 5, 0, 0, []),
  (15, .iload_n 2, 2, 0, 0, 0, []),
  (16, .invokevirtual 293, 2, 8, 0, 0, []),
  (19, .invokestatic 296, 0, 1, 0, 0, []),
  (22, .istore_n 1, 1, 0, 0, 0, []),
  (23, .iinc 2 1, 2, 0, 1, 0, []),
  (26, .goto (-22), 4, 0, 0, 0, []),
  (29, .iload_n 1, 1, 0, 0, 0, []),
  (30, .ireturn, 0, 0, 0, 0, [])]
noncomputable def e11_row : XN := [(293, 1, 2, 8, F8_manyAt)]
noncomputable def h11_row_4 (n : Nat) (v1 : Int32) (v2 : Int32) (μ : XM) : XR := arr t11_row e11_row 1 24 n 4 [some (xr 11 0 0), some (xi v1), some (xi v2)] [] μ
set_option maxRecDepth 100000 in
theorem h11_row_4_s (n : Nat) (v1 : Int32) (v2 : Int32) (μ : XM) : h11_row_4 (n + 1) v1 v2 μ = (
  xite ((9 : Int32) < v2) (
    xri v1 μ) (
    bI (f8_manyAt 0 v2 μ) fun r2 m1 =>
    vI (if v1 < r2 then r2 else v1) fun x3 =>
    vI (v2 + 1) fun x4 =>
    h11_row_4 n x3 x4 m1)) := rfl
theorem h11_row_4_0 (v1 : Int32) (v2 : Int32) (μ : XM) : h11_row_4 0 v1 v2 μ = none := rfl
noncomputable def k11_row (n : Nat) (μ : XM) : XR :=
  vI 0 fun x1 =>
  vI 1 fun x2 =>
  h11_row_4 n x1 x2 μ
set_option maxRecDepth 100000 in
theorem q11_row (n : Nat) (μ : XM) : xrun t11_row e11_row (xrtk (some .int)) 24 n (xlo [xr 11 0 0] 3) μ = k11_row n  μ := rfl
theorem x11_row : ∃ f : XM → XR, ∀ (μ : XM), f μ = k11_row 20000  μ := ⟨fun μ => k11_row 20000  μ, fun μ => rfl⟩
noncomputable def f11_row : XM → XR := Classical.choose x11_row
theorem f11_row_e (μ : XM) : f11_row μ = k11_row 20000  μ := Classical.choose_spec x11_row μ
noncomputable def F11_row : XF := fun av μ => match av with
  | [.inr (.inr (some (t0, i0, 0)))] => bif Nat.beq t0 11 && Nat.beq i0 0 then f11_row  μ else none
  | _ => none
set_option maxRecDepth 100000 in
theorem c11_row {X : XP} (hX : XOK X) (l : Launch) : Ctr X l y11_row prog_1_method_37_code 3 (some .int) (xrm 2) 0 0 F11_row :=
  Ctr_of (tab := t11_row) (env := e11_row) (K := 24) (N := 20000) (fl := fl11) (cl := cl11) (ll := ll11) (jl := jl11) hX mf11_row.2.2.2 ⟨by decide +kernel, flk11, clk11, llk11, jlk11⟩
   (List.forall_mem_cons.mpr ⟨xcal_v (na := 1) (c8_manyAt hX l) mf8_manyAt ⟨rfl, rfl⟩ ml11_293 mi8_manyAt me8_manyAt (xrm_ok (by omega) (by decide)) rfl (by decide) (by decide +kernel), fun _ h => absurd h List.not_mem_nil⟩)
   (xrm_1 (by decide)) ⟨_, _, rfl, rfl⟩ (fun av μ r μ' h => by
    unfold F11_row at h
    split at h
    · replace h := cond_inv h; obtain ⟨hb, h⟩ := h
      simp only [Bool.and_eq_true] at hb
      obtain ⟨g0, g1⟩ := hb
      obtain rfl := Nat.eq_of_beq_eq_true g0
      obtain rfl := Nat.eq_of_beq_eq_true g1
      exact ⟨Nat.le_of_ble_eq_true rfl, (q11_row _  _).trans ((f11_row_e  _).symm.trans h)⟩
    · cases h)
def t11_dense : List XE := [(0, .iconst (-1), 0, 0, (-1), 0, []),
  (1, .istore_n 1, 1, 0, 0, 0, []),
  (2, .iconst 0, 0, 0, 0, 0, []),
  (3, .istore_n 2, 2, 0, 0, 0, []),
  (4, .iconst 1, 0, 0, 1, 0, []),
  (5, .istore_n 3, 3, 0, 0, 0, []),
  (6, .nop, 15, 0, 0, 0, []),
  (6, .iload_n 3, 3, 0, 0, 0, []),
  (7, .bipush 9, 0, 0, 9, 0, []),
  (9, .if_icmp .gt 30, 39, 0, 0, 0, []),
  (12, .aload_n 0, 0, 0, 0, 0, []),
  (13, .getfield 47, 11, 5, 0, 0, []),
  (16, .iload_n 3, 3, 0, 0, 0, []),
  (17, .invokevirtual 293, 2, 8, 0, 0, []),
  (20, .istore 4, 4, 0, 0, 0, []),
  (22, .iload 4, 4, 0, 0, 0, []),
  (24, .iload_n 2, 2, 0, 0, 0, []),
  (25, .if_icmp .le 8, 33, 0, 0, 0, []),
  (28, .iload_n 3, 3, 0, 0, 0, []),
  (29, .istore_n 1, 1, 0, 0, 0, []),
  (30, .iload 4, 4, 0, 0, 0, []),
  (32, .istore_n 2, 2, 0, 0, 0, []),
  (33, .iinc 3 1, 3, 0, 1, 0, []),
  (36, .goto (-30), 6, 0, 0, 0, []),
  (39, .iload_n 1, 1, 0, 0, 0, []),
  (40, .ireturn, 0, 0, 0, 0, [])]
noncomputable def e11_dense : XN := [(293, 1, 2, 8, F8_manyAt)]
noncomputable def h11_dense_6 (n : Nat) (v1 : Int32) (v2 : Int32) (v3 : Int32) (μ : XM) : XR := arr t11_dense e11_dense 1 31 n 6 [some (xr 11 0 0), some (xi v1), some (xi v2), some (xi v3), none] [] μ
set_option maxRecDepth 100000 in
theorem h11_dense_6_s (n : Nat) (v1 : Int32) (v2 : Int32) (v3 : Int32) (μ : XM) : h11_dense_6 (n + 1) v1 v2 v3 μ = (
  xite ((9 : Int32) < v3) (
    xri v1 μ) (
    bI (f8_manyAt 0 v3 μ) fun r2 m1 =>
    vI r2 fun x3 =>
    xite (v2 < x3) (
      vI v3 fun x4 =>
      vI x3 fun x5 =>
      vI (v3 + 1) fun x6 =>
      h11_dense_6 n x4 x5 x6 m1) (
      vI (v3 + 1) fun x7 =>
      h11_dense_6 n v1 v2 x7 m1))) := rfl
theorem h11_dense_6_0 (v1 : Int32) (v2 : Int32) (v3 : Int32) (μ : XM) : h11_dense_6 0 v1 v2 v3 μ = none := rfl
noncomputable def k11_dense (n : Nat) (μ : XM) : XR :=
  vI (-1) fun x1 =>
  vI 0 fun x2 =>
  vI 1 fun x3 =>
  h11_dense_6 n x1 x2 x3 μ
set_option maxRecDepth 100000 in
theorem q11_dense (n : Nat) (μ : XM) : xrun t11_dense e11_dense (xrtk (some .int)) 31 n (xlo [xr 11 0 0] 5) μ = k11_dense n  μ := rfl
theorem x11_dense : ∃ f : XM → XR, ∀ (μ : XM), f μ = k11_dense 20000  μ := ⟨fun μ => k11_dense 20000  μ, fun μ => rfl⟩
noncomputable def f11_dense : XM → XR := Classical.choose x11_dense
theorem f11_dense_e (μ : XM) : f11_dense μ = k11_dense 20000  μ := Classical.choose_spec x11_dense μ
noncomputable def F11_dense : XF := fun av μ => match av with
  | [.inr (.inr (some (t0, i0, 0)))] => bif Nat.beq t0 11 && Nat.beq i0 0 then f11_dense  μ else none
  | _ => none
set_option maxRecDepth 100000 in
theorem c11_dense {X : XP} (hX : XOK X) (l : Launch) : Ctr X l y11_dense prog_1_method_38_code 5 (some .int) (xrm 2) 0 0 F11_dense :=
  Ctr_of (tab := t11_dense) (env := e11_dense) (K := 31) (N := 20000) (fl := fl11) (cl := cl11) (ll := ll11) (jl := jl11) hX mf11_dense.2.2.2 ⟨by decide +kernel, flk11, clk11, llk11, jlk11⟩
   (List.forall_mem_cons.mpr ⟨xcal_v (na := 1) (c8_manyAt hX l) mf8_manyAt ⟨rfl, rfl⟩ ml11_293 mi8_manyAt me8_manyAt (xrm_ok (by omega) (by decide)) rfl (by decide) (by decide +kernel), fun _ h => absurd h List.not_mem_nil⟩)
   (xrm_1 (by decide)) ⟨_, _, rfl, rfl⟩ (fun av μ r μ' h => by
    unfold F11_dense at h
    split at h
    · replace h := cond_inv h; obtain ⟨hb, h⟩ := h
      simp only [Bool.and_eq_true] at hb
      obtain ⟨g0, g1⟩ := hb
      obtain rfl := Nat.eq_of_beq_eq_true g0
      obtain rfl := Nat.eq_of_beq_eq_true g1
      exact ⟨Nat.le_of_ble_eq_true rfl, (q11_dense _  _).trans ((f11_dense_e  _).symm.trans h)⟩
    · cases h)
def t11_tight : List XE := [(0, .iconst (-1), 0, 0, (-1), 0, []),
  (1, .istore_n 1, 1, 0, 0, 0, []),
  (2, .iconst 0, 0, 0, 0, 0, []),
  (3, .istore_n 2, 2, 0, 0, 0, []),
  (4, .iconst 0, 0, 0, 0, 0, []),
  (5, .istore_n 3, 3, 0, 0, 0, []),
  (6, .nop, 15, 0, 0, 0, []),
  (6, .iload_n 3, 3, 0, 0, 0, []),
  (7, .aload_n 0, 0, 0, 0, 0, []),
  (8, .getfield 19, 11, 1, 0, 0, []),
  (11, .getfield 218, 2, 0, 0, 0, []),
  (14, .if_icmp .ge 82, 96, 0, 0, 0, []),
  (17, .aload_n 0, 0, 0, 0, 0, []),
  (18, .getfield 47, 11, 5, 0, 0, []),
  (21, .iload_n 3, 3, 0, 0, 0, []),
  (22, .invokevirtual 239, 2, 8, 0, 0, []),
  (25, .ifCond .eq 65, 90, 0, 0, 0, []),
  (28, .aload_n 0, 0, 0, 0, 0, []),
  (29, .getfield 19, 11, 1, 0, 0, []),
  (32, .iload_n 3, 3, 0, 0, 0, []),
  (33, .invokevirtual 299, 2, 2, 0, 0, []),
  (36, .ifCond .eq 54, 90, 0, 0, 0, []),
  (39, .aload_n 0, 0, 0, 0, 0, []),
  (40, .getfield 47, 11, 5, 0, 0, []),
  (43, .getfield 150, 8, 4, 0, 0, []),
  (46, .iload_n 3, 3, 0, 0, 0, []),
  (47, .iaload, 0, 0, 0, 0, []),
  (48, .iconst (-1), 0, 0, (-1), 0, []),
  (49, .if_icmp .eq 6, 55, 0, 0, 0, []),
  (52, .goto 38, 90, 0, 0, 0, []),
  (55, .aload_n 0, 0, 0, 0, 0, []),
  (56, .getfield 19, 11, 1, 0, 0, []),
  (59, .getfield 141, 2, 8, 0, 0, []),
  (62, .iload_n 3, 3, 0, 0, 0, []),
  (63, .iaload, 0, 0, 0, 0, []),
  (64, .aload_n 0, 0, 0, 0, 0, []),
  (65, .getfield 47, 11, 5, 0, 0, []),
  (68, .getfield 230, 8, 7, 0, 0, []),
  (71, .isub, 0, 0, 0, 0, []),
  (72, .istore 4, 4, 0, 0, 0, []),
  (74, .iload_n 1, 1, 0, 0, 0, []),
  (75, .iconst (-1), 0, 0, (-1), 0, []),
  (76, .if_icmp .eq 9, 85, 0, 0, 0, []),
  (79, .iload 4, 4, 0, 0, 0, []),
  (81, .iload_n 2, 2, 0, 0, 0, []),
  (82, .if_icmp .ge 8, 90, 0, 0, 0, []),
  (85, .iload_n 3, 3, 0, 0, 0, []),
  (86, .istore_n 1, 1, 0, 0, 0, []),
  (87, .iload 4, 4, 0, 0, 0, []),
  (89, .istore_n 2, 2, 0, 0, 0, []),
  (90, .iinc 3 1, 3, 0, 1, 0, []),
  (93, .goto (-87), 6, 0, 0, 0, []),
  (96, .iload_n 1, 1, 0, 0, 0, []),
  (97, .ireturn, 0, 0, 0, 0, [])]
noncomputable def e11_tight : XN := [(239, 1, 2, 8, F8_isIn), (299, 1, 2, 2, F2_canDrown)]
noncomputable def h11_tight_6 (n : Nat) (v1 : Int32) (v2 : Int32) (v3 : Int32) (μ : XM) : XR := arr t11_tight e11_tight 1 59 n 6 [some (xr 11 0 0), some (xi v1), some (xi v2), some (xi v3), none] [] μ
set_option maxRecDepth 100000 in
theorem h11_tight_6_s (n : Nat) (v1 : Int32) (v2 : Int32) (v3 : Int32) (μ : XM) : h11_tight_6 (n + 1) v1 v2 v3 μ = (
  xite (v3 < (rI μ 2 0 0)) (
    bI (f8_isIn 0 v3 μ) fun r2 m1 =>
    xite (r2 = 0) (
      vI (v3 + 1) fun x3 =>
      h11_tight_6 n v1 v2 x3 m1) (
      bI (f2_canDrown 0 v3 m1) fun r5 m4 =>
      xite (r5 = 0) (
        vI (v3 + 1) fun x6 =>
        h11_tight_6 n v1 v2 x6 m4) (
        xck (xin v3 6) <|
        xite ((aI m4 8 0 4 (Int32.toNatClampNeg v3)) = (-1)) (
          xck (xin v3 6) <|
          vI ((aI m4 2 0 8 (Int32.toNatClampNeg v3)) - (rI m4 8 0 7)) fun x7 =>
          xite (v1 = (-1)) (
            vI v3 fun x8 =>
            vI x7 fun x9 =>
            vI (v3 + 1) fun x10 =>
            h11_tight_6 n x8 x9 x10 m4) (
            xite (x7 < v2) (
              vI v3 fun x11 =>
              vI x7 fun x12 =>
              vI (v3 + 1) fun x13 =>
              h11_tight_6 n x11 x12 x13 m4) (
              vI (v3 + 1) fun x14 =>
              h11_tight_6 n v1 v2 x14 m4))) (
          vI (v3 + 1) fun x15 =>
          h11_tight_6 n v1 v2 x15 m4)))) (
    xri v1 μ)) := rfl
theorem h11_tight_6_0 (v1 : Int32) (v2 : Int32) (v3 : Int32) (μ : XM) : h11_tight_6 0 v1 v2 v3 μ = none := rfl
noncomputable def k11_tight (n : Nat) (μ : XM) : XR :=
  vI (-1) fun x1 =>
  vI 0 fun x2 =>
  vI 0 fun x3 =>
  h11_tight_6 n x1 x2 x3 μ
set_option maxRecDepth 100000 in
theorem q11_tight (n : Nat) (μ : XM) : xrun t11_tight e11_tight (xrtk (some .int)) 59 n (xlo [xr 11 0 0] 5) μ = k11_tight n  μ := rfl
theorem x11_tight : ∃ f : XM → XR, ∀ (μ : XM), f μ = k11_tight 20000  μ := ⟨fun μ => k11_tight 20000  μ, fun μ => rfl⟩
noncomputable def f11_tight : XM → XR := Classical.choose x11_tight
theorem f11_tight_e (μ : XM) : f11_tight μ = k11_tight 20000  μ := Classical.choose_spec x11_tight μ
noncomputable def F11_tight : XF := fun av μ => match av with
  | [.inr (.inr (some (t0, i0, 0)))] => bif Nat.beq t0 11 && Nat.beq i0 0 then f11_tight  μ else none
  | _ => none
set_option maxRecDepth 100000 in
theorem c11_tight {X : XP} (hX : XOK X) (l : Launch) : Ctr X l y11_tight prog_1_method_39_code 5 (some .int) (xrm 3) 0 0 F11_tight :=
  Ctr_of (tab := t11_tight) (env := e11_tight) (K := 59) (N := 20000) (fl := fl11) (cl := cl11) (ll := ll11) (jl := jl11) hX mf11_tight.2.2.2 ⟨by decide +kernel, flk11, clk11, llk11, jlk11⟩
   (List.forall_mem_cons.mpr ⟨xcal_v (na := 1) (c8_isIn hX l) mf8_isIn ⟨rfl, rfl⟩ ml11_239 mi8_isIn me8_isIn (xrm_ok (by omega) (by decide)) rfl (by decide) (by decide +kernel), List.forall_mem_cons.mpr ⟨xcal_v (na := 1) (c2_canDrown hX l) mf2_canDrown ⟨rfl, rfl⟩ ml11_299 mi2_canDrown me2_canDrown (xrm_ok (by omega) (by decide)) rfl (by decide) (by decide +kernel), fun _ h => absurd h List.not_mem_nil⟩⟩)
   (xrm_1 (by decide)) ⟨_, _, rfl, rfl⟩ (fun av μ r μ' h => by
    unfold F11_tight at h
    split at h
    · replace h := cond_inv h; obtain ⟨hb, h⟩ := h
      simp only [Bool.and_eq_true] at hb
      obtain ⟨g0, g1⟩ := hb
      obtain rfl := Nat.eq_of_beq_eq_true g0
      obtain rfl := Nat.eq_of_beq_eq_true g1
      exact ⟨Nat.le_of_ble_eq_true rfl, (q11_tight _  _).trans ((f11_tight_e  _).symm.trans h)⟩
    · cases h)
def t11_spare : List XE := [(0, .iconst 0, 0, 0, 0, 0, []),
  (1, .istore_n 1, 1, 0, 0, 0, []),
  (2, .iconst 0, 0, 0, 0, 0, []),
  (3, .istore_n 2, 2, 0, 0, 0, []),
  (4, .nop, 7, 0, 0, 0, []),
  (4, .iload_n 2, 2, 0, 0, 0, []),
  (5, .aload_n 0, 0, 0, 0, 0, []),
  (6, .getfield 19, 11, 1, 0, 0, []),
  (9, .getfield 273, 2, 1, 0, 0, []),
  (12, .if_icmp .ge 37, 49, 0, 0, 0, []),
  (15, .aload_n 0, 0, 0, 0, 0, []),
  (16, .getfield 47, 11, 5, 0, 0, []),
  (19, .iload_n 2, 2, 0, 0, 0, []),
  (20, .invokevirtual 302, 2, 8, 0, 0, []),
  (23, .ifCond .eq 20, 43, 0, 0, 0, []),
  (26, .aload_n 0, 0, 0, 0, 0, []),
  (27, .getfield 47, 11, 5, 0, 0, []),
  (30, .iload_n 2, 2, 0, 0, 0, []),
  (31, .invokevirtual 255, 2, 8, 0, 0, []),
  (34, .ifCond .ne 9, 43, 0, 0, 0, []),
  (37, .iload_n 1, 1, 0, 0, 0, []),
  (38, .iconst 1, 0, 0, 1, 0, []),
  (39, .iload_n 2, 2, 0, 0, 0, []),
  (40, .ishl, 0, 0, 0, 0, []),
  (41, .ior, 0, 0, 0, 0, []),
  (42, .istore_n 1, 1, 0, 0, 0, []),
  (43, .iinc 2 1, 2, 0, 1, 0, []),
  (46, .goto (-42), 4, 0, 0, 0, []),
  (49, .iload_n 1, 1, 0, 0, 0, []),
  (50, .ireturn, 0, 0, 0, 0, [])]
noncomputable def e11_spare : XN := [(302, 1, 2, 8, F8_isOnWall), (255, 1, 2, 8, F8_borneBy)]
noncomputable def h11_spare_4 (n : Nat) (v1 : Int32) (v2 : Int32) (μ : XM) : XR := arr t11_spare e11_spare 1 35 n 4 [some (xr 11 0 0), some (xi v1), some (xi v2)] [] μ
set_option maxRecDepth 100000 in
theorem h11_spare_4_s (n : Nat) (v1 : Int32) (v2 : Int32) (μ : XM) : h11_spare_4 (n + 1) v1 v2 μ = (
  xite (v2 < (rI μ 2 0 1)) (
    bI (f8_isOnWall 0 v2 μ) fun r2 m1 =>
    xite (r2 = 0) (
      vI (v2 + 1) fun x3 =>
      h11_spare_4 n v1 x3 m1) (
      bI (f8_borneBy 0 v2 m1) fun r5 m4 =>
      xite (r5 = 0) (
        vI (v1 ||| (1 <<< (v2 &&& 31))) fun x6 =>
        vI (v2 + 1) fun x7 =>
        h11_spare_4 n x6 x7 m4) (
        vI (v2 + 1) fun x8 =>
        h11_spare_4 n v1 x8 m4))) (
    xri v1 μ)) := rfl
theorem h11_spare_4_0 (v1 : Int32) (v2 : Int32) (μ : XM) : h11_spare_4 0 v1 v2 μ = none := rfl
noncomputable def k11_spare (n : Nat) (μ : XM) : XR :=
  vI 0 fun x1 =>
  vI 0 fun x2 =>
  h11_spare_4 n x1 x2 μ
set_option maxRecDepth 100000 in
theorem q11_spare (n : Nat) (μ : XM) : xrun t11_spare e11_spare (xrtk (some .int)) 35 n (xlo [xr 11 0 0] 3) μ = k11_spare n  μ := rfl
theorem x11_spare : ∃ f : XM → XR, ∀ (μ : XM), f μ = k11_spare 20000  μ := ⟨fun μ => k11_spare 20000  μ, fun μ => rfl⟩
noncomputable def f11_spare : XM → XR := Classical.choose x11_spare
theorem f11_spare_e (μ : XM) : f11_spare μ = k11_spare 20000  μ := Classical.choose_spec x11_spare μ
noncomputable def F11_spare : XF := fun av μ => match av with
  | [.inr (.inr (some (t0, i0, 0)))] => bif Nat.beq t0 11 && Nat.beq i0 0 then f11_spare  μ else none
  | _ => none
set_option maxRecDepth 100000 in
theorem c11_spare {X : XP} (hX : XOK X) (l : Launch) : Ctr X l y11_spare prog_1_method_40_code 3 (some .int) (xrm 3) 0 0 F11_spare :=
  Ctr_of (tab := t11_spare) (env := e11_spare) (K := 35) (N := 20000) (fl := fl11) (cl := cl11) (ll := ll11) (jl := jl11) hX mf11_spare.2.2.2 ⟨by decide +kernel, flk11, clk11, llk11, jlk11⟩
   (List.forall_mem_cons.mpr ⟨xcal_v (na := 1) (c8_isOnWall hX l) mf8_isOnWall ⟨rfl, rfl⟩ ml11_302 mi8_isOnWall me8_isOnWall (xrm_ok (by omega) (by decide)) rfl (by decide) (by decide +kernel), List.forall_mem_cons.mpr ⟨xcal_v (na := 1) (c8_borneBy hX l) mf8_borneBy ⟨rfl, rfl⟩ ml11_255 mi8_borneBy me8_borneBy (xrm_ok (by omega) (by decide)) rfl (by decide) (by decide +kernel), fun _ h => absurd h List.not_mem_nil⟩⟩)
   (xrm_1 (by decide)) ⟨_, _, rfl, rfl⟩ (fun av μ r μ' h => by
    unfold F11_spare at h
    split at h
    · replace h := cond_inv h; obtain ⟨hb, h⟩ := h
      simp only [Bool.and_eq_true] at hb
      obtain ⟨g0, g1⟩ := hb
      obtain rfl := Nat.eq_of_beq_eq_true g0
      obtain rfl := Nat.eq_of_beq_eq_true g1
      exact ⟨Nat.le_of_ble_eq_true rfl, (q11_spare _  _).trans ((f11_spare_e  _).symm.trans h)⟩
    · cases h)
def t11_isSavedBy : List XE := [(0, .aload_n 0, 0, 0, 0, 0, []),
  (1, .getfield 47, 11, 5, 0, 0, []),
  (4, .iload_n 2, 2, 0, 0, 0, []),
  (5, .iload_n 3, 3, 0, 0, 0, []),
  (6, .iload_n 1, 1, 0, 0, 0, []),
  (7, .invokevirtual 178, 4, 8, 0, 0, []),
  (10, .ifCond .ne 5, 15, 0, 0, 0, []),
  (13, .iconst 0, 0, 0, 0, 0, []),
  (14, .ireturn, 0, 0, 0, 0, []),
  (15, .aload_n 0, 0, 0, 0, 0, []),
  (16, .getfield 51, 11, 6, 0, 0, []),
  (19, .aload_n 0, 0, 0, 0, 0, []),
  (20, .getfield 47, 11, 5, 0, 0, []),
  (23, .invokevirtual 233, 2, 8, 0, 0, []),
  (26, .aload_n 0, 0, 0, 0, 0, []),
  (27, .getfield 51, 11, 6, 0, 0, []),
  (30, .iload_n 2, 2, 0, 0, 0, []),
  (31, .iload_n 3, 3, 0, 0, 0, []),
  (32, .iload_n 1, 1, 0, 0, 0, []),
  (33, .invokevirtual 186, 4, 8, 0, 0, []),
  (36, .iconst 0, 0, 0, 0, 0, []),
  (37, .istore 4, 4, 0, 0, 0, []),
  (39, .nop, 19, 0, 0, 0, []),
  (39, .iload 4, 4, 0, 0, 0, []),
  (41, .bipush 60, 0, 0, 60, 0, []),
  (43, .if_icmp .ge 28, 71, 0, 0, 0, []),
  (46, .aload_n 0, 0, 0, 0, 0, []),
  (47, .getfield 51, 11, 6, 0, 0, []),
  (50, .iload_n 1, 1, 0, 0, 0, []),
  (51, .invokevirtual 239, 2, 8, 0, 0, []),
  (54, .ifCond .eq 17, 71, 0, 0, 0, []),
  (57, .aload_n 0, 0, 0, 0, 0, []),
  (58, .getfield 51, 11, 6, 0, 0, []),
  (61, .invokevirtual 207, 1, 8, 0, 0, []),
  (64, .pop, 0, 0, 0, 0, []),
  (65, .iinc 4 1, 4, 0, 1, 0, []),
  (68, .goto (-29), 39, 0, 0, 0, []),
  (71, .aload_n 0, 0, 0, 0, 0, []),
  (72, .getfield 51, 11, 6, 0, 0, []),
  (75, .iload_n 1, 1, 0, 0, 0, []),
  (76, .iconst 2, 0, 0, 2, 0, []),
  (77, .invokevirtual 242, 3, 8, 0, 0, []),
  (80, .ifCond .ne 7, 87, 0, 0, 0, []),
  (83, .iconst 1, 0, 0, 1, 0, []),
  (84, .goto 4, 88, 0, 0, 0, []),
  (87, .iconst 0, 0, 0, 0, 0, []),
  (88, .ireturn, 0, 0, 0, 0, [])]
noncomputable def e11_isSavedBy : XN := [(178, 1, 4, 8, F8_canCast), (233, 0, 2, 8, F8_copyFrom), (186, 0, 4, 8, F8_giveBelt), (239, 1, 2, 8, F8_isIn), (207, 1, 1, 8, F8_pass), (242, 1, 3, 8, F8_isInState)]
noncomputable def h11_isSavedBy_39 (n : Nat) (v1 : Int32) (v4 : Int32) (μ : XM) : XR := arr t11_isSavedBy e11_isSavedBy 2 52 n 39 [some (xr 11 0 0), some (xi v1), none, none, some (xi v4)] [] μ
set_option maxRecDepth 100000 in
theorem h11_isSavedBy_39_s (n : Nat) (v1 : Int32) (v4 : Int32) (μ : XM) : h11_isSavedBy_39 (n + 1) v1 v4 μ = (
  xite (v4 < 60) (
    bI (f8_isIn 1 v1 μ) fun r2 m1 =>
    xite (r2 = 0) (
      bI (f8_isInState 1 v1 2 m1) fun r4 m3 =>
      xite (r4 = 0) (
        xrb 1 m3) (
        xrb 0 m3)) (
      bI (f8_pass 1 m1) fun r6 m5 =>
      vI (v4 + 1) fun x7 =>
      h11_isSavedBy_39 n v1 x7 m5)) (
    bI (f8_isInState 1 v1 2 μ) fun r9 m8 =>
    xite (r9 = 0) (
      xrb 1 m8) (
      xrb 0 m8))) := rfl
theorem h11_isSavedBy_39_0 (v1 : Int32) (v4 : Int32) (μ : XM) : h11_isSavedBy_39 0 v1 v4 μ = none := rfl
noncomputable def k11_isSavedBy (n : Nat) (p1 : Int32) (p2 : Int32) (p3 : Int32) (μ : XM) : XR :=
  bI (f8_canCast 0 p2 p3 p1 μ) fun r2 m1 =>
  xite (r2 = 0) (
    xrb 0 m1) (
    bV (f8_copyFrom 1 0 m1) fun m3 =>
    bV (f8_giveBelt 1 p2 p3 p1 m3) fun m4 =>
    vI 0 fun x5 =>
    h11_isSavedBy_39 n p1 x5 m4)
set_option maxRecDepth 100000 in
theorem q11_isSavedBy (n : Nat) (p1 : Int32) (p2 : Int32) (p3 : Int32) (μ : XM) : xrun t11_isSavedBy e11_isSavedBy (xrtk (some .boolean)) 52 n (xlo [xr 11 0 0, xi p1, xi p2, xi p3] 5) μ = k11_isSavedBy n p1 p2 p3 μ := rfl
theorem x11_isSavedBy : ∃ f : Int32 → Int32 → Int32 → XM → XR, ∀ (p1 : Int32) (p2 : Int32) (p3 : Int32) (μ : XM), f p1 p2 p3 μ = k11_isSavedBy 20000 p1 p2 p3 μ := ⟨fun p1 p2 p3 μ => k11_isSavedBy 20000 p1 p2 p3 μ, fun p1 p2 p3 μ => rfl⟩
noncomputable def f11_isSavedBy : Int32 → Int32 → Int32 → XM → XR := Classical.choose x11_isSavedBy
theorem f11_isSavedBy_e (p1 : Int32) (p2 : Int32) (p3 : Int32) (μ : XM) : f11_isSavedBy p1 p2 p3 μ = k11_isSavedBy 20000 p1 p2 p3 μ := Classical.choose_spec x11_isSavedBy p1 p2 p3 μ
noncomputable def F11_isSavedBy : XF := fun av μ => match av with
  | [.inr (.inr (some (t0, i0, 0))), .inl p1, .inl p2, .inl p3] => bif Nat.beq t0 11 && Nat.beq i0 0 then f11_isSavedBy p1 p2 p3 μ else none
  | _ => none
set_option maxRecDepth 100000 in
theorem c11_isSavedBy {X : XP} (hX : XOK X) (l : Launch) : Ctr X l y11_isSavedBy prog_1_method_42_code 5 (some .boolean) (xrm 5) 0 0 F11_isSavedBy :=
  Ctr_of (tab := t11_isSavedBy) (env := e11_isSavedBy) (K := 52) (N := 20000) (fl := fl11) (cl := cl11) (ll := ll11) (jl := jl11) hX mf11_isSavedBy.2.2.2 ⟨by decide +kernel, flk11, clk11, llk11, jlk11⟩
   (List.forall_mem_cons.mpr ⟨xcal_v (na := 3) (c8_canCast hX l) mf8_canCast ⟨rfl, rfl⟩ ml11_178 mi8_canCast me8_canCast (xrm_ok (by omega) (by decide)) rfl (by decide) (by decide +kernel), List.forall_mem_cons.mpr ⟨xcal_v (na := 1) (c8_copyFrom hX l) mf8_copyFrom ⟨rfl, rfl⟩ ml11_233 mi8_copyFrom me8_copyFrom (xrm_ok (by omega) (by decide)) rfl (by decide) (by decide +kernel), List.forall_mem_cons.mpr ⟨xcal_v (na := 3) (c8_giveBelt hX l) mf8_giveBelt ⟨rfl, rfl⟩ ml11_186 mi8_giveBelt me8_giveBelt (xrm_ok (by omega) (by decide)) rfl (by decide) (by decide +kernel), List.forall_mem_cons.mpr ⟨xcal_v (na := 1) (c8_isIn hX l) mf8_isIn ⟨rfl, rfl⟩ ml11_239 mi8_isIn me8_isIn (xrm_ok (by omega) (by decide)) rfl (by decide) (by decide +kernel), List.forall_mem_cons.mpr ⟨xcal_v (na := 0) (c8_pass hX l) mf8_pass ⟨rfl, rfl⟩ ml11_207 mi8_pass me8_pass (xrm_ok (by omega) (by decide)) rfl (by decide) (by decide +kernel), List.forall_mem_cons.mpr ⟨xcal_v (na := 2) (c8_isInState hX l) mf8_isInState ⟨rfl, rfl⟩ ml11_242 mi8_isInState me8_isInState (xrm_ok (by omega) (by decide)) rfl (by decide) (by decide +kernel), fun _ h => absurd h List.not_mem_nil⟩⟩⟩⟩⟩⟩)
   (xrm_1 (by decide)) ⟨_, _, rfl, rfl⟩ (fun av μ r μ' h => by
    unfold F11_isSavedBy at h
    split at h
    · replace h := cond_inv h; obtain ⟨hb, h⟩ := h
      simp only [Bool.and_eq_true] at hb
      obtain ⟨g0, g1⟩ := hb
      obtain rfl := Nat.eq_of_beq_eq_true g0
      obtain rfl := Nat.eq_of_beq_eq_true g1
      exact ⟨Nat.le_of_ble_eq_true rfl, (q11_isSavedBy _ _ _ _ _).trans ((f11_isSavedBy_e _ _ _ _).symm.trans h)⟩
    · cases h)
def t11_save : List XE := [(0, .aload_n 0, 0, 0, 0, 0, []),
  (1, .iload_n 1, 1, 0, 0, 0, []),
  (2, .iload_n 2, 2, 0, 0, 0, []),
  (3, .iload_n 3, 3, 0, 0, 0, []),
  (4, .invokevirtual 305, 4, 11, 0, 0, []),
  (7, .ireturn, 0, 0, 0, 0, [])]
noncomputable def e11_save : XN := [(305, 1, 4, 11, F11_isSavedBy)]
noncomputable def k11_save (p1 : Int32) (p2 : Int32) (p3 : Int32) (μ : XM) : XR :=
  bI (f11_isSavedBy p1 p2 p3 μ) fun r2 m1 =>
  xrb r2 m1
set_option maxRecDepth 100000 in
theorem q11_save (n : Nat) (p1 : Int32) (p2 : Int32) (p3 : Int32) (μ : XM) : xrun t11_save e11_save (xrtk (some .boolean)) 11 n (xlo [xr 11 0 0, xi p1, xi p2, xi p3] 4) μ = k11_save p1 p2 p3 μ := rfl
theorem x11_save : ∃ f : Int32 → Int32 → Int32 → XM → XR, ∀ (p1 : Int32) (p2 : Int32) (p3 : Int32) (μ : XM), f p1 p2 p3 μ = k11_save p1 p2 p3 μ := ⟨fun p1 p2 p3 μ => k11_save p1 p2 p3 μ, fun p1 p2 p3 μ => rfl⟩
noncomputable def f11_save : Int32 → Int32 → Int32 → XM → XR := Classical.choose x11_save
theorem f11_save_e (p1 : Int32) (p2 : Int32) (p3 : Int32) (μ : XM) : f11_save p1 p2 p3 μ = k11_save p1 p2 p3 μ := Classical.choose_spec x11_save p1 p2 p3 μ
noncomputable def F11_save : XF := fun av μ => match av with
  | [.inr (.inr (some (t0, i0, 0))), .inl p1, .inl p2, .inl p3] => bif Nat.beq t0 11 && Nat.beq i0 0 then f11_save p1 p2 p3 μ else none
  | _ => none
set_option maxRecDepth 100000 in
theorem c11_save {X : XP} (hX : XOK X) (l : Launch) : Ctr X l y11_save prog_1_method_41_code 4 (some .boolean) (xrm 6) 0 0 F11_save :=
  Ctr_of (tab := t11_save) (env := e11_save) (K := 11) (N := 20000) (fl := fl11) (cl := cl11) (ll := ll11) (jl := jl11) hX mf11_save.2.2.2 ⟨by decide +kernel, flk11, clk11, llk11, jlk11⟩
   (List.forall_mem_cons.mpr ⟨xcal_v (na := 3) (c11_isSavedBy hX l) mf11_isSavedBy ⟨rfl, rfl⟩ ml11_305 mi11_isSavedBy me11_isSavedBy (xrm_ok (by omega) (by decide)) rfl (by decide) (by decide +kernel), fun _ h => absurd h List.not_mem_nil⟩)
   (xrm_1 (by decide)) ⟨_, _, rfl, rfl⟩ (fun av μ r μ' h => by
    unfold F11_save at h
    split at h
    · replace h := cond_inv h; obtain ⟨hb, h⟩ := h
      simp only [Bool.and_eq_true] at hb
      obtain ⟨g0, g1⟩ := hb
      obtain rfl := Nat.eq_of_beq_eq_true g0
      obtain rfl := Nat.eq_of_beq_eq_true g1
      exact ⟨Nat.le_of_ble_eq_true rfl, (q11_save _ _ _ _ _).trans ((f11_save_e _ _ _ _).symm.trans h)⟩
    · cases h)
def t11_worth : List XE := [(0, .aload_n 0, 0, 0, 0, 0, []),
  (1, .getfield 19, 11, 1, 0, 0, []),
  (4, .iload_n 1, 1, 0, 0, 0, []),
  (5, .invokevirtual 166, 2, 2, 0, 0, []),
  (8, .ifCond .ne 5, 13, 0, 0, 0, []),
  (11, .iconst (-1), 0, 0, (-1), 0, []),
  (12, .ireturn, 0, 0, 0, 0, []),
  (13, .aload_n 0, 0, 0, 0, 0, []),
  (14, .bipush 60, 0, 0, 60, 0, []),
  (16, .invokevirtual 227, 2, 11, 0, 0, []),
  (19, .aload_n 0, 0, 0, 0, 0, []),
  (20, .getfield 51, 11, 6, 0, 0, []),
  (23, .iconst 2, 0, 0, 2, 0, []),
  (24, .invokevirtual 249, 2, 8, 0, 0, []),
  (27, .istore_n 2, 2, 0, 0, 0, []),
  (28, .iconst 0, 0, 0, 0, 0, []),
  (29, .istore_n 3, 3, 0, 0, 0, []),
  (30, .iconst 0, 0, 0, 0, 0, []),
  (31, .istore 4, 4, 0, 0, 0, []),
  (33, .nop, 31, 0, 0, 0, []),
  (33, .iload 4, 4, 0, 0, 0, []),
  (35, .aload_n 0, 0, 0, 0, 0, []),
  (36, .getfield 19, 11, 1, 0, 0, []),
  (39, .getfield 218, 2, 0, 0, 0, []),
  (42, .if_icmp .ge 41, 83, 0, 0, 0, []),
  (45, .iload_n 2, 2, 0, 0, 0, []),
  (46, .iload 4, 4, 0, 0, 0, []),
  (48, .ishr, 0, 0, 0, 0, []),
  (49, .iconst 1, 0, 0, 1, 0, []),
  (50, .iand, 0, 0, 0, 0, []),
  (51, .iconst 1, 0, 0, 1, 0, []),
  (52, .if_icmp .ne 25, 77, 0, 0, 0, []),
  (55, .aload_n 0, 0, 0, 0, 0, []),
  (56, .iload 4, 4, 0, 0, 0, []),
  (58, .iload_n 1, 1, 0, 0, 0, []),
  (59, .aload_n 0, 0, 0, 0, 0, []),
  (60, .getfield 19, 11, 1, 0, 0, []),
  (63, .iload 4, 4, 0, 0, 0, []),
  (65, .invokevirtual 282, 2, 2, 0, 0, []),
  (68, .invokevirtual 305, 4, 11, 0, 0, []),
  (71, .ifCond .eq 6, 77, 0, 0, 0, []),
  (74, .iinc 3 1, 3, 0, 1, 0, []),
  (77, .iinc 4 1, 4, 0, 1, 0, []),
  (80, .goto (-47), 33, 0, 0, 0, []),
  (83, .iload_n 3, 3, 0, 0, 0, []),
  (84, .ireturn, 0, 0, 0, 0, [])]
noncomputable def e11_worth : XN := [(166, 1, 2, 2, F2_isMan), (227, 0, 2, 11, F11_goAhead), (249, 1, 2, 8, F8_whoIs), (282, 1, 2, 2, F2_leastBelt), (305, 1, 4, 11, F11_isSavedBy)]
noncomputable def h11_worth_33 (n : Nat) (v1 : Int32) (v2 : Int32) (v3 : Int32) (v4 : Int32) (μ : XM) : XR := arr t11_worth e11_worth 1 51 n 33 [some (xr 11 0 0), some (xi v1), some (xi v2), some (xi v3), some (xi v4)] [] μ
set_option maxRecDepth 100000 in
theorem h11_worth_33_s (n : Nat) (v1 : Int32) (v2 : Int32) (v3 : Int32) (v4 : Int32) (μ : XM) : h11_worth_33 (n + 1) v1 v2 v3 v4 μ = (
  xite (v4 < (rI μ 2 0 0)) (
    xite (((v2 >>> (v4 &&& 31)) &&& 1) = 1) (
      bI (f2_leastBelt 0 v4 μ) fun r2 m1 =>
      bI (f11_isSavedBy v4 v1 r2 m1) fun r4 m3 =>
      xite (r4 = 0) (
        vI (v4 + 1) fun x5 =>
        h11_worth_33 n v1 v2 v3 x5 m3) (
        vI (v3 + 1) fun x6 =>
        vI (v4 + 1) fun x7 =>
        h11_worth_33 n v1 v2 x6 x7 m3)) (
      vI (v4 + 1) fun x8 =>
      h11_worth_33 n v1 v2 v3 x8 μ)) (
    xri v3 μ)) := rfl
theorem h11_worth_33_0 (v1 : Int32) (v2 : Int32) (v3 : Int32) (v4 : Int32) (μ : XM) : h11_worth_33 0 v1 v2 v3 v4 μ = none := rfl
noncomputable def k11_worth (n : Nat) (p1 : Int32) (μ : XM) : XR :=
  bI (f2_isMan 0 p1 μ) fun r2 m1 =>
  xite (r2 = 0) (
    xri (-1) m1) (
    bV (f11_goAhead 60 m1) fun m3 =>
    bI (f8_whoIs 1 2 m3) fun r5 m4 =>
    vI r5 fun x6 =>
    vI 0 fun x7 =>
    vI 0 fun x8 =>
    h11_worth_33 n p1 x6 x7 x8 m4)
set_option maxRecDepth 100000 in
theorem q11_worth (n : Nat) (p1 : Int32) (μ : XM) : xrun t11_worth e11_worth (xrtk (some .int)) 51 n (xlo [xr 11 0 0, xi p1] 5) μ = k11_worth n p1 μ := rfl
theorem x11_worth : ∃ f : Int32 → XM → XR, ∀ (p1 : Int32) (μ : XM), f p1 μ = k11_worth 20000 p1 μ := ⟨fun p1 μ => k11_worth 20000 p1 μ, fun p1 μ => rfl⟩
noncomputable def f11_worth : Int32 → XM → XR := Classical.choose x11_worth
theorem f11_worth_e (p1 : Int32) (μ : XM) : f11_worth p1 μ = k11_worth 20000 p1 μ := Classical.choose_spec x11_worth p1 μ
noncomputable def F11_worth : XF := fun av μ => match av with
  | [.inr (.inr (some (t0, i0, 0))), .inl p1] => bif Nat.beq t0 11 && Nat.beq i0 0 then f11_worth p1 μ else none
  | _ => none
set_option maxRecDepth 100000 in
theorem c11_worth {X : XP} (hX : XOK X) (l : Launch) : Ctr X l y11_worth prog_1_method_43_code 5 (some .int) (xrm 6) 0 0 F11_worth :=
  Ctr_of (tab := t11_worth) (env := e11_worth) (K := 51) (N := 20000) (fl := fl11) (cl := cl11) (ll := ll11) (jl := jl11) hX mf11_worth.2.2.2 ⟨by decide +kernel, flk11, clk11, llk11, jlk11⟩
   (List.forall_mem_cons.mpr ⟨xcal_v (na := 1) (c2_isMan hX l) mf2_isMan ⟨rfl, rfl⟩ ml11_166 mi2_isMan me2_isMan (xrm_ok (by omega) (by decide)) rfl (by decide) (by decide +kernel), List.forall_mem_cons.mpr ⟨xcal_v (na := 1) (c11_goAhead hX l) mf11_goAhead ⟨rfl, rfl⟩ ml11_227 mi11_goAhead me11_goAhead (xrm_ok (by omega) (by decide)) rfl (by decide) (by decide +kernel), List.forall_mem_cons.mpr ⟨xcal_v (na := 1) (c8_whoIs hX l) mf8_whoIs ⟨rfl, rfl⟩ ml11_249 mi8_whoIs me8_whoIs (xrm_ok (by omega) (by decide)) rfl (by decide) (by decide +kernel), List.forall_mem_cons.mpr ⟨xcal_v (na := 1) (c2_leastBelt hX l) mf2_leastBelt ⟨rfl, rfl⟩ ml11_282 mi2_leastBelt me2_leastBelt (xrm_ok (by omega) (by decide)) rfl (by decide) (by decide +kernel), List.forall_mem_cons.mpr ⟨xcal_v (na := 3) (c11_isSavedBy hX l) mf11_isSavedBy ⟨rfl, rfl⟩ ml11_305 mi11_isSavedBy me11_isSavedBy (xrm_ok (by omega) (by decide)) rfl (by decide) (by decide +kernel), fun _ h => absurd h List.not_mem_nil⟩⟩⟩⟩⟩)
   (xrm_1 (by decide)) ⟨_, _, rfl, rfl⟩ (fun av μ r μ' h => by
    unfold F11_worth at h
    split at h
    · replace h := cond_inv h; obtain ⟨hb, h⟩ := h
      simp only [Bool.and_eq_true] at hb
      obtain ⟨g0, g1⟩ := hb
      obtain rfl := Nat.eq_of_beq_eq_true g0
      obtain rfl := Nat.eq_of_beq_eq_true g1
      exact ⟨Nat.le_of_ble_eq_true rfl, (q11_worth _ _ _).trans ((f11_worth_e _ _).symm.trans h)⟩
    · cases h)
def t11_see : List XE := [(0, .iload_n 1, 1, 0, 0, 0, []),
  (1, .ifCond .lt 20, 21, 0, 0, 0, []),
  (4, .iload_n 1, 1, 0, 0, 0, []),
  (5, .bipush 60, 0, 0, 60, 0, []),
  (7, .if_icmp .gt 14, 21, 0, 0, 0, []),
  (10, .iload_n 2, 2, 0, 0, 0, []),
  (11, .iconst 1, 0, 0, 1, 0, []),
  (12, .if_icmp .lt 9, 21, 0, 0, 0, []),
  (15, .iload_n 2, 2, 0, 0, 0, []),
  (16, .bipush 20, 0, 0, 20, 0, []),
  (18, .if_icmp .le 5, 23, 0, 0, 0, []),
  (21, .iconst 0, 0, 0, 0, 0, []),
  (22, .ireturn, 0, 0, 0, 0, []),
  (23, .aload_n 0, 0, 0, 0, 0, []),
  (24, .getfield 71, 11, 9, 0, 0, []),
  (27, .iload_n 1, 1, 0, 0, 0, []),
  (28, .iload_n 2, 2, 0, 0, 0, []),
  (29, .invokevirtual 308, 3, 9, 0, 0, []),
  (32, .ireturn, 0, 0, 0, 0, [])]
noncomputable def e11_see : XN := [(308, 1, 3, 9, F9_add)]
noncomputable def k11_see (p1 : Int32) (p2 : Int32) (μ : XM) : XR :=
  xite (p1 < 0) (
    xrb 0 μ) (
    xite ((60 : Int32) < p1) (
      xrb 0 μ) (
      xite (p2 < 1) (
        xrb 0 μ) (
        xite ((20 : Int32) < p2) (
          xrb 0 μ) (
          bI (f9_add 0 p1 p2 μ) fun r2 m1 =>
          xrb r2 m1))))
set_option maxRecDepth 100000 in
theorem q11_see (n : Nat) (p1 : Int32) (p2 : Int32) (μ : XM) : xrun t11_see e11_see (xrtk (some .boolean)) 24 n (xlo [xr 11 0 0, xi p1, xi p2] 3) μ = k11_see p1 p2 μ := rfl
theorem x11_see : ∃ f : Int32 → Int32 → XM → XR, ∀ (p1 : Int32) (p2 : Int32) (μ : XM), f p1 p2 μ = k11_see p1 p2 μ := ⟨fun p1 p2 μ => k11_see p1 p2 μ, fun p1 p2 μ => rfl⟩
noncomputable def f11_see : Int32 → Int32 → XM → XR := Classical.choose x11_see
theorem f11_see_e (p1 : Int32) (p2 : Int32) (μ : XM) : f11_see p1 p2 μ = k11_see p1 p2 μ := Classical.choose_spec x11_see p1 p2 μ
noncomputable def F11_see : XF := fun av μ => match av with
  | [.inr (.inr (some (t0, i0, 0))), .inl p1, .inl p2] => bif Nat.beq t0 11 && Nat.beq i0 0 then f11_see p1 p2 μ else none
  | _ => none
set_option maxRecDepth 100000 in
theorem c11_see {X : XP} (hX : XOK X) (l : Launch) : Ctr X l y11_see prog_1_method_44_code 3 (some .boolean) (xrm 2) 0 0 F11_see :=
  Ctr_of (tab := t11_see) (env := e11_see) (K := 24) (N := 20000) (fl := fl11) (cl := cl11) (ll := ll11) (jl := jl11) hX mf11_see.2.2.2 ⟨by decide +kernel, flk11, clk11, llk11, jlk11⟩
   (List.forall_mem_cons.mpr ⟨xcal_v (na := 2) (c9_add hX l) mf9_add ⟨rfl, rfl⟩ ml11_308 mi9_add me9_add (xrm_ok (by omega) (by decide)) rfl (by decide) (by decide +kernel), fun _ h => absurd h List.not_mem_nil⟩)
   (xrm_1 (by decide)) ⟨_, _, rfl, rfl⟩ (fun av μ r μ' h => by
    unfold F11_see at h
    split at h
    · replace h := cond_inv h; obtain ⟨hb, h⟩ := h
      simp only [Bool.and_eq_true] at hb
      obtain ⟨g0, g1⟩ := hb
      obtain rfl := Nat.eq_of_beq_eq_true g0
      obtain rfl := Nat.eq_of_beq_eq_true g1
      exact ⟨Nat.le_of_ble_eq_true rfl, (q11_see _ _ _ _).trans ((f11_see_e _ _ _).symm.trans h)⟩
    · cases h)
def t11_holes : List XE := [(0, .aload_n 0, 0, 0, 0, 0, []),
  (1, .getfield 78, 11, 10, 0, 0, []),
  (4, .aload_n 0, 0, 0, 0, 0, []),
  (5, .getfield 51, 11, 6, 0, 0, []),
  (8, .invokevirtual 311, 2, 3, 0, 0, []),
  (11, .aload_n 0, 0, 0, 0, 0, []),
  (12, .getfield 78, 11, 10, 0, 0, []),
  (15, .aload_n 0, 0, 0, 0, 0, []),
  (16, .getfield 71, 11, 9, 0, 0, []),
  (19, .invokevirtual 314, 2, 3, 0, 0, []),
  (22, .ireturn, 0, 0, 0, 0, [])]
noncomputable def e11_holes : XN := [(311, 0, 2, 3, F3_open), (314, 1, 2, 3, F3_possible)]
noncomputable def k11_holes (μ : XM) : XR :=
  bV (f3_open 1 μ) fun m1 =>
  bI (f3_possible 0 m1) fun r3 m2 =>
  xri r3 m2
set_option maxRecDepth 100000 in
theorem q11_holes (n : Nat) (μ : XM) : xrun t11_holes e11_holes (xrtk (some .int)) 16 n (xlo [xr 11 0 0] 1) μ = k11_holes  μ := rfl
theorem x11_holes : ∃ f : XM → XR, ∀ (μ : XM), f μ = k11_holes  μ := ⟨fun μ => k11_holes  μ, fun μ => rfl⟩
noncomputable def f11_holes : XM → XR := Classical.choose x11_holes
theorem f11_holes_e (μ : XM) : f11_holes μ = k11_holes  μ := Classical.choose_spec x11_holes μ
noncomputable def F11_holes : XF := fun av μ => match av with
  | [.inr (.inr (some (t0, i0, 0)))] => bif Nat.beq t0 11 && Nat.beq i0 0 then f11_holes  μ else none
  | _ => none
set_option maxRecDepth 100000 in
theorem c11_holes {X : XP} (hX : XOK X) (l : Launch) : Ctr X l y11_holes prog_1_method_45_code 1 (some .int) (xrm 6) 0 0 F11_holes :=
  Ctr_of (tab := t11_holes) (env := e11_holes) (K := 16) (N := 20000) (fl := fl11) (cl := cl11) (ll := ll11) (jl := jl11) hX mf11_holes.2.2.2 ⟨by decide +kernel, flk11, clk11, llk11, jlk11⟩
   (List.forall_mem_cons.mpr ⟨xcal_v (na := 1) (c3_open hX l) mf3_open ⟨rfl, rfl⟩ ml11_311 mi3_open me3_open (xrm_ok (by omega) (by decide)) rfl (by decide) (by decide +kernel), List.forall_mem_cons.mpr ⟨xcal_v (na := 1) (c3_possible hX l) mf3_possible ⟨rfl, rfl⟩ ml11_314 mi3_possible me3_possible (xrm_ok (by omega) (by decide)) rfl (by decide) (by decide +kernel), fun _ h => absurd h List.not_mem_nil⟩⟩)
   (xrm_1 (by decide)) ⟨_, _, rfl, rfl⟩ (fun av μ r μ' h => by
    unfold F11_holes at h
    split at h
    · replace h := cond_inv h; obtain ⟨hb, h⟩ := h
      simp only [Bool.and_eq_true] at hb
      obtain ⟨g0, g1⟩ := hb
      obtain rfl := Nat.eq_of_beq_eq_true g0
      obtain rfl := Nat.eq_of_beq_eq_true g1
      exact ⟨Nat.le_of_ble_eq_true rfl, (q11_holes _  _).trans ((f11_holes_e  _).symm.trans h)⟩
    · cases h)
def t11_look : List XE := [(0, .aload_n 0, 0, 0, 0, 0, []),
  (1, .getfield 78, 11, 10, 0, 0, []),
  (4, .aload_n 0, 0, 0, 0, 0, []),
  (5, .getfield 51, 11, 6, 0, 0, []),
  (8, .invokevirtual 311, 2, 3, 0, 0, []),
  (11, .aload_n 0, 0, 0, 0, 0, []),
  (12, .getfield 78, 11, 10, 0, 0, []),
  (15, .aload_n 0, 0, 0, 0, 0, []),
  (16, .getfield 71, 11, 9, 0, 0, []),
  (19, .invokevirtual 318, 2, 3, 0, 0, []),
  (22, .ireturn, 0, 0, 0, 0, [])]
noncomputable def e11_look : XN := [(311, 0, 2, 3, F3_open), (318, 1, 2, 3, F3_tellingMinute)]
noncomputable def k11_look (μ : XM) : XR :=
  bV (f3_open 1 μ) fun m1 =>
  bI (f3_tellingMinute 0 m1) fun r3 m2 =>
  xri r3 m2
set_option maxRecDepth 100000 in
theorem q11_look (n : Nat) (μ : XM) : xrun t11_look e11_look (xrtk (some .int)) 16 n (xlo [xr 11 0 0] 1) μ = k11_look  μ := rfl
theorem x11_look : ∃ f : XM → XR, ∀ (μ : XM), f μ = k11_look  μ := ⟨fun μ => k11_look  μ, fun μ => rfl⟩
noncomputable def f11_look : XM → XR := Classical.choose x11_look
theorem f11_look_e (μ : XM) : f11_look μ = k11_look  μ := Classical.choose_spec x11_look μ
noncomputable def F11_look : XF := fun av μ => match av with
  | [.inr (.inr (some (t0, i0, 0)))] => bif Nat.beq t0 11 && Nat.beq i0 0 then f11_look  μ else none
  | _ => none
set_option maxRecDepth 100000 in
theorem c11_look {X : XP} (hX : XOK X) (l : Launch) : Ctr X l y11_look prog_1_method_46_code 1 (some .int) (xrm 6) 0 0 F11_look :=
  Ctr_of (tab := t11_look) (env := e11_look) (K := 16) (N := 20000) (fl := fl11) (cl := cl11) (ll := ll11) (jl := jl11) hX mf11_look.2.2.2 ⟨by decide +kernel, flk11, clk11, llk11, jlk11⟩
   (List.forall_mem_cons.mpr ⟨xcal_v (na := 1) (c3_open hX l) mf3_open ⟨rfl, rfl⟩ ml11_311 mi3_open me3_open (xrm_ok (by omega) (by decide)) rfl (by decide) (by decide +kernel), List.forall_mem_cons.mpr ⟨xcal_v (na := 1) (c3_tellingMinute hX l) mf3_tellingMinute ⟨rfl, rfl⟩ ml11_318 mi3_tellingMinute me3_tellingMinute (xrm_ok (by omega) (by decide)) rfl (by decide) (by decide +kernel), fun _ h => absurd h List.not_mem_nil⟩⟩)
   (xrm_1 (by decide)) ⟨_, _, rfl, rfl⟩ (fun av μ r μ' h => by
    unfold F11_look at h
    split at h
    · replace h := cond_inv h; obtain ⟨hb, h⟩ := h
      simp only [Bool.and_eq_true] at hb
      obtain ⟨g0, g1⟩ := hb
      obtain rfl := Nat.eq_of_beq_eq_true g0
      obtain rfl := Nat.eq_of_beq_eq_true g1
      exact ⟨Nat.le_of_ble_eq_true rfl, (q11_look _  _).trans ((f11_look_e  _).symm.trans h)⟩
    · cases h)
def t11_weightOf : List XE := [(0, .iconst 1, 0, 0, 1, 0, []),
  (1, .istore_n 3, 3, 0, 0, 0, []),
  (2, .iconst 0, 0, 0, 0, 0, []),
  (3, .istore 4, 4, 0, 0, 0, []),
  (5, .nop, 31, 0, 0, 0, []),
  (5, .iload 4, 4, 0, 0, 0, []),
  (7, .bipush 6, 0, 0, 6, 0, []),
  (9, .if_icmp .ge 44, 53, 0, 0, 0, []),
  (12, .iload 4, 4, 0, 0, 0, []),
  (14, .iload_n 1, 1, 0, 0, 0, []),
  (15, .if_icmp .lt 11, 26, 0, 0, 0, []),
  (18, .iload_n 3, 3, 0, 0, 0, []),
  (19, .bipush 10, 0, 0, 10, 0, []),
  (21, .imul, 0, 0, 0, 0, []),
  (22, .istore_n 3, 3, 0, 0, 0, []),
  (23, .goto 24, 47, 0, 0, 0, []),
  (26, .iload_n 3, 3, 0, 0, 0, []),
  (27, .iload_n 0, 0, 0, 0, 0, []),
  (28, .iload 4, 4, 0, 0, 0, []),
  (30, .ishr, 0, 0, 0, 0, []),
  (31, .iconst 1, 0, 0, 1, 0, []),
  (32, .iand, 0, 0, 0, 0, []),
  (33, .iconst 1, 0, 0, 1, 0, []),
  (34, .if_icmp .ne 7, 41, 0, 0, 0, []),
  (37, .iload_n 2, 2, 0, 0, 0, []),
  (38, .goto 7, 45, 0, 0, 0, []),
  (41, .bipush 10, 0, 0, 10, 0, []),
  (43, .iload_n 2, 2, 0, 0, 0, []),
  (44, .isub, 0, 0, 0, 0, []),
  (45, .imul, 0, 0, 0, 0, []),
  (46, .istore_n 3, 3, 0, 0, 0, []),
  (47, .iinc 4 1, 4, 0, 1, 0, []),
  (50, .goto (-45), 5, 0, 0, 0, []),
  (53, .iload_n 3, 3, 0, 0, 0, []),
  (54, .ireturn, 0, 0, 0, 0, [])]
noncomputable def e11_weightOf : XN := []
noncomputable def h11_weightOf_5 (n : Nat) (v0 : Int32) (v1 : Int32) (v2 : Int32) (v3 : Int32) (v4 : Int32) (μ : XM) : XR := arr t11_weightOf e11_weightOf 1 40 n 5 [some (xi v0), some (xi v1), some (xi v2), some (xi v3), some (xi v4)] [] μ
set_option maxRecDepth 100000 in
theorem h11_weightOf_5_s (n : Nat) (v0 : Int32) (v1 : Int32) (v2 : Int32) (v3 : Int32) (v4 : Int32) (μ : XM) : h11_weightOf_5 (n + 1) v0 v1 v2 v3 v4 μ = (
  xite (v4 < 6) (
    xite (v4 < v1) (
      xite (((v0 >>> (v4 &&& 31)) &&& 1) = 1) (
        vI (v3 * v2) fun x1 =>
        vI (v4 + 1) fun x2 =>
        h11_weightOf_5 n v0 v1 v2 x1 x2 μ) (
        vI (v3 * (10 - v2)) fun x3 =>
        vI (v4 + 1) fun x4 =>
        h11_weightOf_5 n v0 v1 v2 x3 x4 μ)) (
      vI (v3 * 10) fun x5 =>
      vI (v4 + 1) fun x6 =>
      h11_weightOf_5 n v0 v1 v2 x5 x6 μ)) (
    xri v3 μ)) := rfl
theorem h11_weightOf_5_0 (v0 : Int32) (v1 : Int32) (v2 : Int32) (v3 : Int32) (v4 : Int32) (μ : XM) : h11_weightOf_5 0 v0 v1 v2 v3 v4 μ = none := rfl
noncomputable def k11_weightOf (n : Nat) (p0 : Int32) (p1 : Int32) (p2 : Int32) (μ : XM) : XR :=
  vI 1 fun x1 =>
  vI 0 fun x2 =>
  h11_weightOf_5 n p0 p1 p2 x1 x2 μ
set_option maxRecDepth 100000 in
theorem q11_weightOf (n : Nat) (p0 : Int32) (p1 : Int32) (p2 : Int32) (μ : XM) : xrun t11_weightOf e11_weightOf (xrtk (some .int)) 40 n (xlo [xi p0, xi p1, xi p2] 5) μ = k11_weightOf n p0 p1 p2 μ := rfl
theorem x11_weightOf : ∃ f : Int32 → Int32 → Int32 → XM → XR, ∀ (p0 : Int32) (p1 : Int32) (p2 : Int32) (μ : XM), f p0 p1 p2 μ = k11_weightOf 20000 p0 p1 p2 μ := ⟨fun p0 p1 p2 μ => k11_weightOf 20000 p0 p1 p2 μ, fun p0 p1 p2 μ => rfl⟩
noncomputable def f11_weightOf : Int32 → Int32 → Int32 → XM → XR := Classical.choose x11_weightOf
theorem f11_weightOf_e (p0 : Int32) (p1 : Int32) (p2 : Int32) (μ : XM) : f11_weightOf p0 p1 p2 μ = k11_weightOf 20000 p0 p1 p2 μ := Classical.choose_spec x11_weightOf p0 p1 p2 μ
noncomputable def F11_weightOf : XF := fun av μ => match av with
  | [.inl p0, .inl p1, .inl p2] => f11_weightOf p0 p1 p2 μ
  | _ => none
set_option maxRecDepth 100000 in
theorem c11_weightOf {X : XP} (hX : XOK X) (l : Launch) : Ctr X l y11_weightOf prog_1_method_48_code 5 (some .int) (xrm 1) 0 0 F11_weightOf :=
  Ctr_of (tab := t11_weightOf) (env := e11_weightOf) (K := 40) (N := 20000) (fl := fl11) (cl := cl11) (ll := ll11) (jl := jl11) hX mf11_weightOf.2.2.2 ⟨by decide +kernel, flk11, clk11, llk11, jlk11⟩
   (fun _ h => absurd h List.not_mem_nil)
   (xrm_1 (by decide)) ⟨_, _, rfl, rfl⟩ (fun av μ r μ' h => by
    unfold F11_weightOf at h
    split at h
    · exact ⟨Nat.le_of_ble_eq_true rfl, (q11_weightOf _ _ _ _ _).trans ((f11_weightOf_e _ _ _ _).symm.trans h)⟩
    · cases h)
def t11_isSunkBy : List XE := [(0, .aload_n 0, 0, 0, 0, 0, []),
  (1, .getfield 51, 11, 6, 0, 0, []),
  (4, .aload_n 0, 0, 0, 0, 0, []),
  (5, .getfield 47, 11, 5, 0, 0, []),
  (8, .invokevirtual 233, 2, 8, 0, 0, []),
  (11, .iconst 0, 0, 0, 0, 0, []),
  (12, .istore 4, 4, 0, 0, 0, []),
  (14, .nop, 31, 0, 0, 0, []),
  (14, .iload 4, 4, 0, 0, 0, []),
  (16, .iload_n 3, 3, 0, 0, 0, []),
  (17, .if_icmp .ge 44, 61, 0, 0, 0, []),
  (20, .iload_n 2, 2, 0, 0, 0, []),
  (21, .iload 4, 4, 0, 0, 0, []),
  (23, .ishr, 0, 0, 0, 0, []),
  (24, .iconst 1, 0, 0, 1, 0, []),
  (25, .iand, 0, 0, 0, 0, []),
  (26, .iconst 1, 0, 0, 1, 0, []),
  (27, .if_icmp .ne 20, 47, 0, 0, 0, []),
  (30, .aload_n 0, 0, 0, 0, 0, []),
  (31, .getfield 51, 11, 6, 0, 0, []),
  (34, .invokevirtual 190, 1, 8, 0, 0, []),
  (37, .ifCond .eq 10, 47, 0, 0, 0, []),
  (40, .aload_n 0, 0, 0, 0, 0, []),
  (41, .getfield 51, 11, 6, 0, 0, []),
  (44, .invokevirtual 194, 1, 8, 0, 0, []),
  (47, .aload_n 0, 0, 0, 0, 0, []),
  (48, .getfield 51, 11, 6, 0, 0, []),
  (51, .invokevirtual 207, 1, 8, 0, 0, []),
  (54, .pop, 0, 0, 0, 0, []),
  (55, .iinc 4 1, 4, 0, 1, 0, []),
  (58, .goto (-44), 14, 0, 0, 0, []),
  (61, .aload_n 0, 0, 0, 0, 0, []),
  (62, .getfield 51, 11, 6, 0, 0, []),
  (65, .iload_n 1, 1, 0, 0, 0, []),
  (66, .iconst 2, 0, 0, 2, 0, []),
  (67, .invokevirtual 242, 3, 8, 0, 0, []),
  (70, .ireturn, 0, 0, 0, 0, [])]
noncomputable def e11_isSunkBy : XN := [(233, 0, 2, 8, F8_copyFrom), (190, 1, 1, 8, F8_canAsk), (194, 0, 1, 8, F8_openGap), (207, 1, 1, 8, F8_pass), (242, 1, 3, 8, F8_isInState)]
noncomputable def h11_isSunkBy_14 (n : Nat) (v1 : Int32) (v2 : Int32) (v3 : Int32) (v4 : Int32) (μ : XM) : XR := arr t11_isSunkBy e11_isSunkBy 2 42 n 14 [some (xr 11 0 0), some (xi v1), some (xi v2), some (xi v3), some (xi v4)] [] μ
set_option maxRecDepth 100000 in
theorem h11_isSunkBy_14_s (n : Nat) (v1 : Int32) (v2 : Int32) (v3 : Int32) (v4 : Int32) (μ : XM) : h11_isSunkBy_14 (n + 1) v1 v2 v3 v4 μ = (
  xite (v4 < v3) (
    xite (((v2 >>> (v4 &&& 31)) &&& 1) = 1) (
      bI (f8_canAsk 1 μ) fun r2 m1 =>
      xite (r2 = 0) (
        bI (f8_pass 1 m1) fun r4 m3 =>
        vI (v4 + 1) fun x5 =>
        h11_isSunkBy_14 n v1 v2 v3 x5 m3) (
        bV (f8_openGap 1 m1) fun m6 =>
        bI (f8_pass 1 m6) fun r8 m7 =>
        vI (v4 + 1) fun x9 =>
        h11_isSunkBy_14 n v1 v2 v3 x9 m7)) (
      bI (f8_pass 1 μ) fun r11 m10 =>
      vI (v4 + 1) fun x12 =>
      h11_isSunkBy_14 n v1 v2 v3 x12 m10)) (
    bI (f8_isInState 1 v1 2 μ) fun r14 m13 =>
    xrb r14 m13)) := rfl
theorem h11_isSunkBy_14_0 (v1 : Int32) (v2 : Int32) (v3 : Int32) (v4 : Int32) (μ : XM) : h11_isSunkBy_14 0 v1 v2 v3 v4 μ = none := rfl
noncomputable def k11_isSunkBy (n : Nat) (p1 : Int32) (p2 : Int32) (p3 : Int32) (μ : XM) : XR :=
  bV (f8_copyFrom 1 0 μ) fun m1 =>
  vI 0 fun x2 =>
  h11_isSunkBy_14 n p1 p2 p3 x2 m1
set_option maxRecDepth 100000 in
theorem q11_isSunkBy (n : Nat) (p1 : Int32) (p2 : Int32) (p3 : Int32) (μ : XM) : xrun t11_isSunkBy e11_isSunkBy (xrtk (some .boolean)) 42 n (xlo [xr 11 0 0, xi p1, xi p2, xi p3] 5) μ = k11_isSunkBy n p1 p2 p3 μ := rfl
theorem x11_isSunkBy : ∃ f : Int32 → Int32 → Int32 → XM → XR, ∀ (p1 : Int32) (p2 : Int32) (p3 : Int32) (μ : XM), f p1 p2 p3 μ = k11_isSunkBy 20000 p1 p2 p3 μ := ⟨fun p1 p2 p3 μ => k11_isSunkBy 20000 p1 p2 p3 μ, fun p1 p2 p3 μ => rfl⟩
noncomputable def f11_isSunkBy : Int32 → Int32 → Int32 → XM → XR := Classical.choose x11_isSunkBy
theorem f11_isSunkBy_e (p1 : Int32) (p2 : Int32) (p3 : Int32) (μ : XM) : f11_isSunkBy p1 p2 p3 μ = k11_isSunkBy 20000 p1 p2 p3 μ := Classical.choose_spec x11_isSunkBy p1 p2 p3 μ
noncomputable def F11_isSunkBy : XF := fun av μ => match av with
  | [.inr (.inr (some (t0, i0, 0))), .inl p1, .inl p2, .inl p3] => bif Nat.beq t0 11 && Nat.beq i0 0 then f11_isSunkBy p1 p2 p3 μ else none
  | _ => none
set_option maxRecDepth 100000 in
theorem c11_isSunkBy {X : XP} (hX : XOK X) (l : Launch) : Ctr X l y11_isSunkBy prog_1_method_49_code 5 (some .boolean) (xrm 5) 0 0 F11_isSunkBy :=
  Ctr_of (tab := t11_isSunkBy) (env := e11_isSunkBy) (K := 42) (N := 20000) (fl := fl11) (cl := cl11) (ll := ll11) (jl := jl11) hX mf11_isSunkBy.2.2.2 ⟨by decide +kernel, flk11, clk11, llk11, jlk11⟩
   (List.forall_mem_cons.mpr ⟨xcal_v (na := 1) (c8_copyFrom hX l) mf8_copyFrom ⟨rfl, rfl⟩ ml11_233 mi8_copyFrom me8_copyFrom (xrm_ok (by omega) (by decide)) rfl (by decide) (by decide +kernel), List.forall_mem_cons.mpr ⟨xcal_v (na := 0) (c8_canAsk hX l) mf8_canAsk ⟨rfl, rfl⟩ ml11_190 mi8_canAsk me8_canAsk (xrm_ok (by omega) (by decide)) rfl (by decide) (by decide +kernel), List.forall_mem_cons.mpr ⟨xcal_v (na := 0) (c8_openGap hX l) mf8_openGap ⟨rfl, rfl⟩ ml11_194 mi8_openGap me8_openGap (xrm_ok (by omega) (by decide)) rfl (by decide) (by decide +kernel), List.forall_mem_cons.mpr ⟨xcal_v (na := 0) (c8_pass hX l) mf8_pass ⟨rfl, rfl⟩ ml11_207 mi8_pass me8_pass (xrm_ok (by omega) (by decide)) rfl (by decide) (by decide +kernel), List.forall_mem_cons.mpr ⟨xcal_v (na := 2) (c8_isInState hX l) mf8_isInState ⟨rfl, rfl⟩ ml11_242 mi8_isInState me8_isInState (xrm_ok (by omega) (by decide)) rfl (by decide) (by decide +kernel), fun _ h => absurd h List.not_mem_nil⟩⟩⟩⟩⟩)
   (xrm_1 (by decide)) ⟨_, _, rfl, rfl⟩ (fun av μ r μ' h => by
    unfold F11_isSunkBy at h
    split at h
    · replace h := cond_inv h; obtain ⟨hb, h⟩ := h
      simp only [Bool.and_eq_true] at hb
      obtain ⟨g0, g1⟩ := hb
      obtain rfl := Nat.eq_of_beq_eq_true g0
      obtain rfl := Nat.eq_of_beq_eq_true g1
      exact ⟨Nat.le_of_ble_eq_true rfl, (q11_isSunkBy _ _ _ _ _).trans ((f11_isSunkBy_e _ _ _ _).symm.trans h)⟩
    · cases h)
def t11_chance : List XE := [(0, .aload_n 0, 0, 0, 0, 0, []),
  (1, .getfield 19, 11, 1, 0, 0, []),
  (4, .iload_n 1, 1, 0, 0, 0, []),
  (5, .invokevirtual 130, 2, 2, 0, 0, []),
  (8, .ifCond .eq 24, 32, 0, 0, 0, []),
  (11, .iload_n 2, 2, 0, 0, 0, []),
  (12, .iconst 1, 0, 0, 1, 0, []),
  (13, .if_icmp .lt 19, 32, 0, 0, 0, []),
  (16, .iload_n 2, 2, 0, 0, 0, []),
  (17, .bipush 6, 0, 0, 6, 0, []),
  (19, .if_icmp .gt 13, 32, 0, 0, 0, []),
  (22, .iload_n 3, 3, 0, 0, 0, []),
  (23, .ifCond .lt 9, 32, 0, 0, 0, []),
  (26, .iload_n 3, 3, 0, 0, 0, []),
  (27, .bipush 10, 0, 0, 10, 0, []),
  (29, .if_icmp .le 5, 34, 0, 0, 0, []),
  (32, .iconst (-1), 0, 0, (-1), 0, []),
  (33, .ireturn, 0, 0, 0, 0, []),
  (34, .iconst 0, 0, 0, 0, 0, []),
  (35, .istore 4, 4, 0, 0, 0, []),
  (37, .iconst 0, 0, 0, 0, 0, []),
  (38, .istore 5, 5, 0, 0, 0, []),
  (40, .nop, 63, 0, 0, 0, []),
  (40, .iload 5, 5, 0, 0, 0, []),
  (42, .iconst 1, 0, 0, 1, 0, []),
  (43, .iload_n 2, 2, 0, 0, 0, []),
  (44, .ishl, 0, 0, 0, 0, []),
  (45, .if_icmp .ge 41, 86, 0, 0, 0, []),
  (48, .iload 5, 5, 0, 0, 0, []),
  (50, .iload_n 2, 2, 0, 0, 0, []),
  (51, .iload_n 3, 3, 0, 0, 0, []),
  (52, .invokestatic 321, 3, 0, 0, 0, []),
  (55, .istore 6, 6, 0, 0, 0, []),
  (57, .iload 6, 6, 0, 0, 0, []),
  (59, .ifCond .le 21, 80, 0, 0, 0, []),
  (62, .aload_n 0, 0, 0, 0, 0, []),
  (63, .iload_n 1, 1, 0, 0, 0, []),
  (64, .iload 5, 5, 0, 0, 0, []),
  (66, .iload_n 2, 2, 0, 0, 0, []),
  (67, .invokevirtual 325, 4, 11, 0, 0, []),
  (70, .ifCond .eq 10, 80, 0, 0, 0, []),
  (73, .iload 4, 4, 0, 0, 0, []),
  (75, .iload 6, 6, 0, 0, 0, []),
  (77, .iadd, 0, 0, 0, 0, []),
  (78, .istore 4, 4, 0, 0, 0, []),
  (80, .iinc 5 1, 5, 0, 1, 0, []),
  (83, .goto (-43), 40, 0, 0, 0, []),
  (86, .iload 4, 4, 0, 0, 0, []),
  (88, .ireturn, 0, 0, 0, 0, [])]
noncomputable def e11_chance : XN := [(130, 1, 2, 2, F2_isGuest), (321, 1, 3, 99, F11_weightOf), (325, 1, 4, 11, F11_isSunkBy)]
noncomputable def h11_chance_40 (n : Nat) (v1 : Int32) (v2 : Int32) (v3 : Int32) (v4 : Int32) (v5 : Int32) (μ : XM) : XR := arr t11_chance e11_chance 1 54 n 40 [some (xr 11 0 0), some (xi v1), some (xi v2), some (xi v3), some (xi v4), some (xi v5), none] [] μ
set_option maxRecDepth 100000 in
theorem h11_chance_40_s (n : Nat) (v1 : Int32) (v2 : Int32) (v3 : Int32) (v4 : Int32) (v5 : Int32) (μ : XM) : h11_chance_40 (n + 1) v1 v2 v3 v4 v5 μ = (
  xite (v5 < (1 <<< (v2 &&& 31))) (
    bI (f11_weightOf v5 v2 v3 μ) fun r2 m1 =>
    vI r2 fun x3 =>
    xite ((0 : Int32) < x3) (
      bI (f11_isSunkBy v1 v5 v2 m1) fun r5 m4 =>
      xite (r5 = 0) (
        vI (v5 + 1) fun x6 =>
        h11_chance_40 n v1 v2 v3 v4 x6 m4) (
        vI (v4 + x3) fun x7 =>
        vI (v5 + 1) fun x8 =>
        h11_chance_40 n v1 v2 v3 x7 x8 m4)) (
      vI (v5 + 1) fun x9 =>
      h11_chance_40 n v1 v2 v3 v4 x9 m1)) (
    xri v4 μ)) := rfl
theorem h11_chance_40_0 (v1 : Int32) (v2 : Int32) (v3 : Int32) (v4 : Int32) (v5 : Int32) (μ : XM) : h11_chance_40 0 v1 v2 v3 v4 v5 μ = none := rfl
noncomputable def k11_chance (n : Nat) (p1 : Int32) (p2 : Int32) (p3 : Int32) (μ : XM) : XR :=
  bI (f2_isGuest 0 p1 μ) fun r2 m1 =>
  xite (r2 = 0) (
    xri (-1) m1) (
    xite (p2 < 1) (
      xri (-1) m1) (
      xite ((6 : Int32) < p2) (
        xri (-1) m1) (
        xite (p3 < 0) (
          xri (-1) m1) (
          xite ((10 : Int32) < p3) (
            xri (-1) m1) (
            vI 0 fun x3 =>
            vI 0 fun x4 =>
            h11_chance_40 n p1 p2 p3 x3 x4 m1)))))
set_option maxRecDepth 100000 in
theorem q11_chance (n : Nat) (p1 : Int32) (p2 : Int32) (p3 : Int32) (μ : XM) : xrun t11_chance e11_chance (xrtk (some .int)) 54 n (xlo [xr 11 0 0, xi p1, xi p2, xi p3] 7) μ = k11_chance n p1 p2 p3 μ := rfl
theorem x11_chance : ∃ f : Int32 → Int32 → Int32 → XM → XR, ∀ (p1 : Int32) (p2 : Int32) (p3 : Int32) (μ : XM), f p1 p2 p3 μ = k11_chance 20000 p1 p2 p3 μ := ⟨fun p1 p2 p3 μ => k11_chance 20000 p1 p2 p3 μ, fun p1 p2 p3 μ => rfl⟩
noncomputable def f11_chance : Int32 → Int32 → Int32 → XM → XR := Classical.choose x11_chance
theorem f11_chance_e (p1 : Int32) (p2 : Int32) (p3 : Int32) (μ : XM) : f11_chance p1 p2 p3 μ = k11_chance 20000 p1 p2 p3 μ := Classical.choose_spec x11_chance p1 p2 p3 μ
noncomputable def F11_chance : XF := fun av μ => match av with
  | [.inr (.inr (some (t0, i0, 0))), .inl p1, .inl p2, .inl p3] => bif Nat.beq t0 11 && Nat.beq i0 0 then f11_chance p1 p2 p3 μ else none
  | _ => none
set_option maxRecDepth 100000 in
theorem c11_chance {X : XP} (hX : XOK X) (l : Launch) : Ctr X l y11_chance prog_1_method_47_code 7 (some .int) (xrm 6) 0 0 F11_chance :=
  Ctr_of (tab := t11_chance) (env := e11_chance) (K := 54) (N := 20000) (fl := fl11) (cl := cl11) (ll := ll11) (jl := jl11) hX mf11_chance.2.2.2 ⟨by decide +kernel, flk11, clk11, llk11, jlk11⟩
   (List.forall_mem_cons.mpr ⟨xcal_v (na := 1) (c2_isGuest hX l) mf2_isGuest ⟨rfl, rfl⟩ ml11_130 mi2_isGuest me2_isGuest (xrm_ok (by omega) (by decide)) rfl (by decide) (by decide +kernel), List.forall_mem_cons.mpr ⟨xcal_s (c11_weightOf hX l) mf11_weightOf ⟨rfl, rfl⟩ ml11_321 ms11_weightOf (xrm_ok (by omega) (by decide)) (by decide +kernel), List.forall_mem_cons.mpr ⟨xcal_v (na := 3) (c11_isSunkBy hX l) mf11_isSunkBy ⟨rfl, rfl⟩ ml11_325 mi11_isSunkBy me11_isSunkBy (xrm_ok (by omega) (by decide)) rfl (by decide) (by decide +kernel), fun _ h => absurd h List.not_mem_nil⟩⟩⟩)
   (xrm_1 (by decide)) ⟨_, _, rfl, rfl⟩ (fun av μ r μ' h => by
    unfold F11_chance at h
    split at h
    · replace h := cond_inv h; obtain ⟨hb, h⟩ := h
      simp only [Bool.and_eq_true] at hb
      obtain ⟨g0, g1⟩ := hb
      obtain rfl := Nat.eq_of_beq_eq_true g0
      obtain rfl := Nat.eq_of_beq_eq_true g1
      exact ⟨Nat.le_of_ble_eq_true rfl, (q11_chance _ _ _ _ _).trans ((f11_chance_e _ _ _ _).symm.trans h)⟩
    · cases h)
def t11_isPrize : List XE := [(0, .iload_n 0, 0, 0, 0, 0, []),
  (1, .ifCond .lt 13, 14, 0, 0, 0, []),
  (4, .iload_n 0, 0, 0, 0, 0, []),
  (5, .bipush 9, 0, 0, 9, 0, []),
  (7, .if_icmp .gt 7, 14, 0, 0, 0, []),
  (10, .iconst 1, 0, 0, 1, 0, []),
  (11, .goto 4, 15, 0, 0, 0, []),
  (14, .iconst 0, 0, 0, 0, 0, []),
  (15, .ireturn, 0, 0, 0, 0, [])]
noncomputable def e11_isPrize : XN := []
noncomputable def k11_isPrize (p0 : Int32) (μ : XM) : XR :=
  xite (p0 < 0) (
    xrb 0 μ) (
    xite ((9 : Int32) < p0) (
      xrb 0 μ) (
      xrb 1 μ))
set_option maxRecDepth 100000 in
theorem q11_isPrize (n : Nat) (p0 : Int32) (μ : XM) : xrun t11_isPrize e11_isPrize (xrtk (some .boolean)) 14 n (xlo [xi p0] 1) μ = k11_isPrize p0 μ := rfl
theorem x11_isPrize : ∃ f : Int32 → XM → XR, ∀ (p0 : Int32) (μ : XM), f p0 μ = k11_isPrize p0 μ := ⟨fun p0 μ => k11_isPrize p0 μ, fun p0 μ => rfl⟩
noncomputable def f11_isPrize : Int32 → XM → XR := Classical.choose x11_isPrize
theorem f11_isPrize_e (p0 : Int32) (μ : XM) : f11_isPrize p0 μ = k11_isPrize p0 μ := Classical.choose_spec x11_isPrize p0 μ
noncomputable def F11_isPrize : XF := fun av μ => match av with
  | [.inl p0] => f11_isPrize p0 μ
  | _ => none
set_option maxRecDepth 100000 in
theorem c11_isPrize {X : XP} (hX : XOK X) (l : Launch) : Ctr X l y11_isPrize prog_1_method_51_code 1 (some .boolean) (xrm 1) 0 0 F11_isPrize :=
  Ctr_of (tab := t11_isPrize) (env := e11_isPrize) (K := 14) (N := 20000) (fl := fl11) (cl := cl11) (ll := ll11) (jl := jl11) hX mf11_isPrize.2.2.2 ⟨by decide +kernel, flk11, clk11, llk11, jlk11⟩
   (fun _ h => absurd h List.not_mem_nil)
   (xrm_1 (by decide)) ⟨_, _, rfl, rfl⟩ (fun av μ r μ' h => by
    unfold F11_isPrize at h
    split at h
    · exact ⟨Nat.le_of_ble_eq_true rfl, (q11_isPrize _ _ _).trans ((f11_isPrize_e _ _).symm.trans h)⟩
    · cases h)
def t11_gain : List XE := [(0, .iload_n 0, 0, 0, 0, 0, []),
  (1, .iconst 1, 0, 0, 1, 0, []),
  (2, .if_icmp .ne 15, 17, 0, 0, 0, []),
  (5, .iload_n 1, 1, 0, 0, 0, []),
  (6, .iconst 1, 0, 0, 1, 0, []),
  (7, .if_icmp .ne 8, 15, 0, 0, 0, []),
  (10, .iload_n 2, 2, 0, 0, 0, []),
  (11, .ineg, 0, 0, 0, 0, []),
  (12, .goto 4, 16, 0, 0, 0, []),
  (15, .iload_n 3, 3, 0, 0, 0, []),
  (16, .ireturn, 0, 0, 0, 0, []),
  (17, .iload_n 1, 1, 0, 0, 0, []),
  (18, .iconst 1, 0, 0, 1, 0, []),
  (19, .if_icmp .ne 8, 27, 0, 0, 0, []),
  (22, .iload 4, 4, 0, 0, 0, []),
  (24, .goto 4, 28, 0, 0, 0, []),
  (27, .iconst 0, 0, 0, 0, 0, []),
  (28, .ireturn, 0, 0, 0, 0, [])]
noncomputable def e11_gain : XN := []
noncomputable def k11_gain (p0 : Int32) (p1 : Int32) (p2 : Int32) (p3 : Int32) (p4 : Int32) (μ : XM) : XR :=
  xite (p0 = 1) (
    xite (p1 = 1) (
      xri (-p2) μ) (
      xri p3 μ)) (
    xite (p1 = 1) (
      xri p4 μ) (
      xri 0 μ))
set_option maxRecDepth 100000 in
theorem q11_gain (n : Nat) (p0 : Int32) (p1 : Int32) (p2 : Int32) (p3 : Int32) (p4 : Int32) (μ : XM) : xrun t11_gain e11_gain (xrtk (some .int)) 23 n (xlo [xi p0, xi p1, xi p2, xi p3, xi p4] 5) μ = k11_gain p0 p1 p2 p3 p4 μ := rfl
theorem x11_gain : ∃ f : Int32 → Int32 → Int32 → Int32 → Int32 → XM → XR, ∀ (p0 : Int32) (p1 : Int32) (p2 : Int32) (p3 : Int32) (p4 : Int32) (μ : XM), f p0 p1 p2 p3 p4 μ = k11_gain p0 p1 p2 p3 p4 μ := ⟨fun p0 p1 p2 p3 p4 μ => k11_gain p0 p1 p2 p3 p4 μ, fun p0 p1 p2 p3 p4 μ => rfl⟩
noncomputable def f11_gain : Int32 → Int32 → Int32 → Int32 → Int32 → XM → XR := Classical.choose x11_gain
theorem f11_gain_e (p0 : Int32) (p1 : Int32) (p2 : Int32) (p3 : Int32) (p4 : Int32) (μ : XM) : f11_gain p0 p1 p2 p3 p4 μ = k11_gain p0 p1 p2 p3 p4 μ := Classical.choose_spec x11_gain p0 p1 p2 p3 p4 μ
noncomputable def F11_gain : XF := fun av μ => match av with
  | [.inl p0, .inl p1, .inl p2, .inl p3, .inl p4] => f11_gain p0 p1 p2 p3 p4 μ
  | _ => none
set_option maxRecDepth 100000 in
theorem c11_gain {X : XP} (hX : XOK X) (l : Launch) : Ctr X l y11_gain prog_1_method_52_code 5 (some .int) (xrm 1) 0 0 F11_gain :=
  Ctr_of (tab := t11_gain) (env := e11_gain) (K := 23) (N := 20000) (fl := fl11) (cl := cl11) (ll := ll11) (jl := jl11) hX mf11_gain.2.2.2 ⟨by decide +kernel, flk11, clk11, llk11, jlk11⟩
   (fun _ h => absurd h List.not_mem_nil)
   (xrm_1 (by decide)) ⟨_, _, rfl, rfl⟩ (fun av μ r μ' h => by
    unfold F11_gain at h
    split at h
    · exact ⟨Nat.le_of_ble_eq_true rfl, (q11_gain _ _ _ _ _ _ _).trans ((f11_gain_e _ _ _ _ _ _).symm.trans h)⟩
    · cases h)
def t11_rests : List XE := [(0, .iload_n 1, 1, 0, 0, 0, []),
  (1, .invokestatic 328, 1, 0, 0, 0, []),
  (4, .ifCond .eq 17, 21, 0, 0, 0, []),
  (7, .iload_n 2, 2, 0, 0, 0, []),
  (8, .invokestatic 328, 1, 0, 0, 0, []),
  (11, .ifCond .eq 10, 21, 0, 0, 0, []),
  (14, .iload_n 3, 3, 0, 0, 0, []),
  (15, .invokestatic 328, 1, 0, 0, 0, []),
  (18, .ifCond .ne 11, 29, 0, 0, 0, []),
  (21, .new 331, 0, 0, 0, 0, []),
  (24, .dup, 0, 0, 0, 0, []),
  (25, .invokespecial 333, 0, 0, 0, 0, []),
  (28, .athrow, 0, 0, 0, 0, []),
  (29, .iconst 0, 0, 0, 0, 0, []),
  (30, .istore 5, 5, 0, 0, 0, []),
  (32, .iconst 0, 0, 0, 0, 0, []),
  (33, .istore 6, 6, 0, 0, 0, []),
  (35, .nop, 126, 0, 0, 0, []),
  (35, .iload 6, 6, 0, 0, 0, []),
  (37, .iconst 4, 0, 0, 4, 0, []),
  (38, .if_icmp .ge 108, 146, 0, 0, 0, []),
  (41, .iload 6, 6, 0, 0, 0, []),
  (43, .iconst 1, 0, 0, 1, 0, []),
  (44, .ishr, 0, 0, 0, 0, []),
  (45, .istore 7, 7, 0, 0, 0, []),
  (47, .iload 6, 6, 0, 0, 0, []),
  (49, .iconst 1, 0, 0, 1, 0, []),
  (50, .iand, 0, 0, 0, 0, []),
  (51, .istore 8, 8, 0, 0, 0, []),
  (53, .iconst 1, 0, 0, 1, 0, []),
  (54, .iload 7, 7, 0, 0, 0, []),
  (56, .isub, 0, 0, 0, 0, []),
  (57, .iload 8, 8, 0, 0, 0, []),
  (59, .iload_n 1, 1, 0, 0, 0, []),
  (60, .iload_n 2, 2, 0, 0, 0, []),
  (61, .iload_n 3, 3, 0, 0, 0, []),
  (62, .invokestatic 334, 5, 0, 0, 0, []),
  (65, .iload 7, 7, 0, 0, 0, []),
  (67, .iload 8, 8, 0, 0, 0, []),
  (69, .iload_n 1, 1, 0, 0, 0, []),
  (70, .iload_n 2, 2, 0, 0, 0, []),
  (71, .iload_n 3, 3, 0, 0, 0, []),
  (72, .invokestatic 334, 5, 0, 0, 0, []),
  (75, .if_icmp .gt 7, 82, 0, 0, 0, []),
  (78, .iconst 1, 0, 0, 1, 0, []),
  (79, .goto 4, 83, 0, 0, 0, []),
  (82, .iconst 0, 0, 0, 0, 0, []),
  (83, .nop, 510, 0, 0, 0, []),
  (83, .istore 9, 9, 0, 0, 0, []),
  (85, .iconst 1, 0, 0, 1, 0, []),
  (86, .iload 8, 8, 0, 0, 0, []),
  (88, .isub, 0, 0, 0, 0, []),
  (89, .iload 7, 7, 0, 0, 0, []),
  (91, .iload_n 1, 1, 0, 0, 0, []),
  (92, .iload_n 2, 2, 0, 0, 0, []),
  (93, .iload_n 3, 3, 0, 0, 0, []),
  (94, .invokestatic 334, 5, 0, 0, 0, []),
  (97, .iload 8, 8, 0, 0, 0, []),
  (99, .iload 7, 7, 0, 0, 0, []),
  (101, .iload_n 1, 1, 0, 0, 0, []),
  (102, .iload_n 2, 2, 0, 0, 0, []),
  (103, .iload_n 3, 3, 0, 0, 0, []),
  (104, .invokestatic 334, 5, 0, 0, 0, []),
  (107, .if_icmp .gt 7, 114, 0, 0, 0, []),
  (110, .iconst 1, 0, 0, 1, 0, []),
  (111, .goto 4, 115, 0, 0, 0, []),
  (114, .iconst 0, 0, 0, 0, 0, []),
  (115, .nop, 638, 0, 0, 0, []),
  (115, .istore 10, 10, 0, 0, 0, []),
  (117, .iload 9, 9, 0, 0, 0, []),
  (119, .ifCond .eq 21, 140, 0, 0, 0, []),
  (122, .iload 10, 10, 0, 0, 0, []),
  (124, .ifCond .eq 16, 140, 0, 0, 0, []),
  (127, .iload 5, 5, 0, 0, 0, []),
  (129, .iload 4, 4, 0, 0, 0, []),
  (131, .if_icmp .ne 6, 137, 0, 0, 0, []),
  (134, .iload 6, 6, 0, 0, 0, []),
  (136, .ireturn, 0, 0, 0, 0, []),
  (137, .iinc 5 1, 5, 0, 1, 0, []),
  (140, .iinc 6 1, 6, 0, 1, 0, []),
  (143, .goto (-108), 35, 0, 0, 0, []),
  (146, .iload 4, 4, 0, 0, 0, []),
  (148, .iconst (-1), 0, 0, (-1), 0, []),
  (149, .if_icmp .eq 11, 160, 0, 0, 0, []),
  (152, .new 331, 0, 0, 0, 0, []),
  (155, .dup, 0, 0, 0, 0, []),
  (156, .invokespecial 333, 0, 0, 0, 0, []),
  (159, .athrow, 0, 0, 0, 0, []),
  (160, .iload 5, 5, 0, 0, 0, []),
  (162, .ireturn, 0, 0, 0, 0, [])]
noncomputable def e11_rests : XN := [(328, 1, 1, 99, F11_isPrize), (334, 1, 5, 99, F11_gain)]
noncomputable def h11_rests_35 (n : Nat) (v1 : Int32) (v2 : Int32) (v3 : Int32) (v4 : Int32) (v5 : Int32) (v6 : Int32) (μ : XM) : XR := arr t11_rests e11_rests 1 95 n 35 [none, some (xi v1), some (xi v2), some (xi v3), some (xi v4), some (xi v5), some (xi v6), none, none, none, none] [] μ
noncomputable def h11_rests_83 (n : Nat) (v1 : Int32) (v2 : Int32) (v3 : Int32) (v4 : Int32) (v5 : Int32) (v6 : Int32) (v7 : Int32) (v8 : Int32) (s0 : Int32) (μ : XM) : XR := arr t11_rests e11_rests 1 95 n 83 [none, some (xi v1), some (xi v2), some (xi v3), some (xi v4), some (xi v5), some (xi v6), some (xi v7), some (xi v8), none, none] [xi s0] μ
noncomputable def h11_rests_115 (n : Nat) (v1 : Int32) (v2 : Int32) (v3 : Int32) (v4 : Int32) (v5 : Int32) (v6 : Int32) (v9 : Int32) (s0 : Int32) (μ : XM) : XR := arr t11_rests e11_rests 1 95 n 115 [none, some (xi v1), some (xi v2), some (xi v3), some (xi v4), some (xi v5), some (xi v6), none, none, some (xi v9), none] [xi s0] μ
set_option maxRecDepth 100000 in
theorem h11_rests_35_s (n : Nat) (v1 : Int32) (v2 : Int32) (v3 : Int32) (v4 : Int32) (v5 : Int32) (v6 : Int32) (μ : XM) : h11_rests_35 (n + 1) v1 v2 v3 v4 v5 v6 μ = (
  xite (v6 < 4) (
    vI (v6 >>> (1 &&& 31)) fun x1 =>
    vI (v6 &&& 1) fun x2 =>
    bI (f11_gain (1 - x1) x2 v1 v2 v3 μ) fun r4 m3 =>
    bI (f11_gain x1 x2 v1 v2 v3 m3) fun r6 m5 =>
    xite (r6 < r4) (
      h11_rests_83 n v1 v2 v3 v4 v5 v6 x1 x2 0 m5) (
      h11_rests_83 n v1 v2 v3 v4 v5 v6 x1 x2 1 m5)) (
    xite (v4 = (-1)) (
      xri v5 μ) (
      xrt μ))) := rfl
theorem h11_rests_35_0 (v1 : Int32) (v2 : Int32) (v3 : Int32) (v4 : Int32) (v5 : Int32) (v6 : Int32) (μ : XM) : h11_rests_35 0 v1 v2 v3 v4 v5 v6 μ = none := rfl
set_option maxRecDepth 100000 in
theorem h11_rests_83_s (n : Nat) (v1 : Int32) (v2 : Int32) (v3 : Int32) (v4 : Int32) (v5 : Int32) (v6 : Int32) (v7 : Int32) (v8 : Int32) (s0 : Int32) (μ : XM) : h11_rests_83 (n + 1) v1 v2 v3 v4 v5 v6 v7 v8 s0 μ = (
  vI s0 fun x1 =>
  bI (f11_gain (1 - v8) v7 v1 v2 v3 μ) fun r3 m2 =>
  bI (f11_gain v8 v7 v1 v2 v3 m2) fun r5 m4 =>
  xite (r5 < r3) (
    h11_rests_115 n v1 v2 v3 v4 v5 v6 x1 0 m4) (
    h11_rests_115 n v1 v2 v3 v4 v5 v6 x1 1 m4)) := rfl
theorem h11_rests_83_0 (v1 : Int32) (v2 : Int32) (v3 : Int32) (v4 : Int32) (v5 : Int32) (v6 : Int32) (v7 : Int32) (v8 : Int32) (s0 : Int32) (μ : XM) : h11_rests_83 0 v1 v2 v3 v4 v5 v6 v7 v8 s0 μ = none := rfl
set_option maxRecDepth 100000 in
theorem h11_rests_115_s (n : Nat) (v1 : Int32) (v2 : Int32) (v3 : Int32) (v4 : Int32) (v5 : Int32) (v6 : Int32) (v9 : Int32) (s0 : Int32) (μ : XM) : h11_rests_115 (n + 1) v1 v2 v3 v4 v5 v6 v9 s0 μ = (
  vI s0 fun x1 =>
  xite (v9 = 0) (
    vI (v6 + 1) fun x2 =>
    h11_rests_35 n v1 v2 v3 v4 v5 x2 μ) (
    xite (x1 = 0) (
      vI (v6 + 1) fun x3 =>
      h11_rests_35 n v1 v2 v3 v4 v5 x3 μ) (
      xite (v5 = v4) (
        xri v6 μ) (
        vI (v5 + 1) fun x4 =>
        vI (v6 + 1) fun x5 =>
        h11_rests_35 n v1 v2 v3 v4 x4 x5 μ)))) := rfl
theorem h11_rests_115_0 (v1 : Int32) (v2 : Int32) (v3 : Int32) (v4 : Int32) (v5 : Int32) (v6 : Int32) (v9 : Int32) (s0 : Int32) (μ : XM) : h11_rests_115 0 v1 v2 v3 v4 v5 v6 v9 s0 μ = none := rfl
noncomputable def k11_rests (n : Nat) (p1 : Int32) (p2 : Int32) (p3 : Int32) (p4 : Int32) (μ : XM) : XR :=
  bI (f11_isPrize p1 μ) fun r2 m1 =>
  xite (r2 = 0) (
    xrt m1) (
    bI (f11_isPrize p2 m1) fun r4 m3 =>
    xite (r4 = 0) (
      xrt m3) (
      bI (f11_isPrize p3 m3) fun r6 m5 =>
      xite (r6 = 0) (
        xrt m5) (
        vI 0 fun x7 =>
        vI 0 fun x8 =>
        h11_rests_35 n p1 p2 p3 p4 x7 x8 m5)))
set_option maxRecDepth 100000 in
theorem q11_rests (n : Nat) (p1 : Int32) (p2 : Int32) (p3 : Int32) (p4 : Int32) (μ : XM) : xrun t11_rests e11_rests (xrtk (some .int)) 95 n (xlo [xr 11 0 0, xi p1, xi p2, xi p3, xi p4] 11) μ = k11_rests n p1 p2 p3 p4 μ := rfl
theorem x11_rests : ∃ f : Int32 → Int32 → Int32 → Int32 → XM → XR, ∀ (p1 : Int32) (p2 : Int32) (p3 : Int32) (p4 : Int32) (μ : XM), f p1 p2 p3 p4 μ = k11_rests 20000 p1 p2 p3 p4 μ := ⟨fun p1 p2 p3 p4 μ => k11_rests 20000 p1 p2 p3 p4 μ, fun p1 p2 p3 p4 μ => rfl⟩
noncomputable def f11_rests : Int32 → Int32 → Int32 → Int32 → XM → XR := Classical.choose x11_rests
theorem f11_rests_e (p1 : Int32) (p2 : Int32) (p3 : Int32) (p4 : Int32) (μ : XM) : f11_rests p1 p2 p3 p4 μ = k11_rests 20000 p1 p2 p3 p4 μ := Classical.choose_spec x11_rests p1 p2 p3 p4 μ
noncomputable def F11_rests : XF := fun av μ => match av with
  | [.inr (.inr (some (t0, i0, 0))), .inl p1, .inl p2, .inl p3, .inl p4] => bif Nat.beq t0 11 && Nat.beq i0 0 then f11_rests p1 p2 p3 p4 μ else none
  | _ => none
def t11_nextDraw : List XE := [(0, .lload_n 0, 0, 0, 0, 0, []),
  (1, .ldc2_w 353, 0, 0, 0, 1103515245, []),
  (4, .lmul, 0, 0, 0, 0, []),
  (5, .ldc2_w 355, 0, 0, 0, 12345, []),
  (8, .ladd, 0, 0, 0, 0, []),
  (9, .ldc2_w 357, 0, 0, 0, 2147483648, []),
  (12, .lrem, 0, 0, 0, 0, []),
  (13, .lreturn, 0, 0, 0, 0, [])]
noncomputable def e11_nextDraw : XN := []
noncomputable def k11_nextDraw (p0 : Int64) (μ : XM) : XR :=
  xite ((2147483648 : Int64) = 0) none <|
  xrl (((p0 * 1103515245) + 12345) - ((p0 * 1103515245) + 12345) / 2147483648 * 2147483648) μ
set_option maxRecDepth 100000 in
theorem q11_nextDraw (n : Nat) (p0 : Int64) (μ : XM) : xrun t11_nextDraw e11_nextDraw (xrtk (some .long)) 13 n (xlo [xl p0] 2) μ = k11_nextDraw p0 μ := rfl
theorem x11_nextDraw : ∃ f : Int64 → XM → XR, ∀ (p0 : Int64) (μ : XM), f p0 μ = k11_nextDraw p0 μ := ⟨fun p0 μ => k11_nextDraw p0 μ, fun p0 μ => rfl⟩
noncomputable def f11_nextDraw : Int64 → XM → XR := Classical.choose x11_nextDraw
theorem f11_nextDraw_e (p0 : Int64) (μ : XM) : f11_nextDraw p0 μ = k11_nextDraw p0 μ := Classical.choose_spec x11_nextDraw p0 μ
noncomputable def F11_nextDraw : XF := fun av μ => match av with
  | [.inr (.inl p0)] => f11_nextDraw p0 μ
  | _ => none
set_option maxRecDepth 100000 in
theorem c11_nextDraw {X : XP} (hX : XOK X) (l : Launch) : Ctr X l y11_nextDraw prog_1_method_55_code 2 (some .long) (xrm 1) 0 0 F11_nextDraw :=
  Ctr_of (tab := t11_nextDraw) (env := e11_nextDraw) (K := 13) (N := 20000) (fl := fl11) (cl := cl11) (ll := ll11) (jl := jl11) hX mf11_nextDraw.2.2.2 ⟨by decide +kernel, flk11, clk11, llk11, jlk11⟩
   (fun _ h => absurd h List.not_mem_nil)
   (xrm_1 (by decide)) ⟨_, _, rfl, rfl⟩ (fun av μ r μ' h => by
    unfold F11_nextDraw at h
    split at h
    · exact ⟨Nat.le_of_ble_eq_true rfl, (q11_nextDraw _ _ _).trans ((f11_nextDraw_e _ _).symm.trans h)⟩
    · cases h)
def t11_below : List XE := [(0, .iload_n 2, 2, 0, 0, 0, []),
  (1, .ifCond .le 15, 16, 0, 0, 0, []),
  (4, .lload_n 0, 0, 0, 0, 0, []),
  (5, .ldc2_w 359, 0, 0, 0, 65536, []),
  (8, .ldiv, 0, 0, 0, 0, []),
  (9, .iload_n 2, 2, 0, 0, 0, []),
  (10, .i2l, 0, 0, 0, 0, []),
  (11, .lrem, 0, 0, 0, 0, []),
  (12, .l2i, 0, 0, 0, 0, []),
  (13, .goto 4, 17, 0, 0, 0, []),
  (16, .iconst 0, 0, 0, 0, 0, []),
  (17, .ireturn, 0, 0, 0, 0, [])]
noncomputable def e11_below : XN := []
noncomputable def k11_below (p0 : Int64) (p2 : Int32) (μ : XM) : XR :=
  xite ((0 : Int32) < p2) (
    xite ((65536 : Int64) = 0) none <|
    xite (((Int32.toInt64 p2) : Int64) = 0) none <|
    xri (Int64.toInt32 ((p0 / 65536) - (p0 / 65536) / (Int32.toInt64 p2) * (Int32.toInt64 p2))) μ) (
    xri 0 μ)
set_option maxRecDepth 100000 in
theorem q11_below (n : Nat) (p0 : Int64) (p2 : Int32) (μ : XM) : xrun t11_below e11_below (xrtk (some .int)) 17 n (xlo [xl p0, xi p2] 3) μ = k11_below p0 p2 μ := rfl
theorem x11_below : ∃ f : Int64 → Int32 → XM → XR, ∀ (p0 : Int64) (p2 : Int32) (μ : XM), f p0 p2 μ = k11_below p0 p2 μ := ⟨fun p0 p2 μ => k11_below p0 p2 μ, fun p0 p2 μ => rfl⟩
noncomputable def f11_below : Int64 → Int32 → XM → XR := Classical.choose x11_below
theorem f11_below_e (p0 : Int64) (p2 : Int32) (μ : XM) : f11_below p0 p2 μ = k11_below p0 p2 μ := Classical.choose_spec x11_below p0 p2 μ
noncomputable def F11_below : XF := fun av μ => match av with
  | [.inr (.inl p0), .inl p2] => f11_below p0 p2 μ
  | _ => none
set_option maxRecDepth 100000 in
theorem c11_below {X : XP} (hX : XOK X) (l : Launch) : Ctr X l y11_below prog_1_method_56_code 3 (some .int) (xrm 1) 0 0 F11_below :=
  Ctr_of (tab := t11_below) (env := e11_below) (K := 17) (N := 20000) (fl := fl11) (cl := cl11) (ll := ll11) (jl := jl11) hX mf11_below.2.2.2 ⟨by decide +kernel, flk11, clk11, llk11, jlk11⟩
   (fun _ h => absurd h List.not_mem_nil)
   (xrm_1 (by decide)) ⟨_, _, rfl, rfl⟩ (fun av μ r μ' h => by
    unfold F11_below at h
    split at h
    · exact ⟨Nat.le_of_ble_eq_true rfl, (q11_below _ _ _ _).trans ((f11_below_e _ _ _).symm.trans h)⟩
    · cases h)
def t11_dance : List XE := [(0, .iload_n 1, 1, 0, 0, 0, []),
  (1, .ifCond .ne 23, 24, 0, 0, 0, []),
  (4, .aload_n 0, 0, 0, 0, 0, []),
  (5, .getfield 51, 11, 6, 0, 0, []),
  (8, .invokevirtual 190, 1, 8, 0, 0, []),
  (11, .ifCond .eq 13, 24, 0, 0, 0, []),
  (14, .aload_n 0, 0, 0, 0, 0, []),
  (15, .getfield 51, 11, 6, 0, 0, []),
  (18, .invokevirtual 194, 1, 8, 0, 0, []),
  (21, .goto 67, 88, 0, 0, 0, []),
  (24, .nop, 31, 0, 0, 0, []),
  (24, .iload_n 1, 1, 0, 0, 0, []),
  (25, .iconst 1, 0, 0, 1, 0, []),
  (26, .if_icmp .ne 25, 51, 0, 0, 0, []),
  (29, .aload_n 0, 0, 0, 0, 0, []),
  (30, .getfield 51, 11, 6, 0, 0, []),
  (33, .iload_n 2, 2, 0, 0, 0, []),
  (34, .invokevirtual 200, 2, 8, 0, 0, []),
  (37, .ifCond .eq 14, 51, 0, 0, 0, []),
  (40, .aload_n 0, 0, 0, 0, 0, []),
  (41, .getfield 51, 11, 6, 0, 0, []),
  (44, .iload_n 2, 2, 0, 0, 0, []),
  (45, .invokevirtual 203, 2, 8, 0, 0, []),
  (48, .goto 40, 88, 0, 0, 0, []),
  (51, .iload_n 1, 1, 0, 0, 0, []),
  (52, .iconst 2, 0, 0, 2, 0, []),
  (53, .if_icmp .eq 8, 61, 0, 0, 0, []),
  (56, .iload_n 1, 1, 0, 0, 0, []),
  (57, .iconst 3, 0, 0, 3, 0, []),
  (58, .if_icmp .ne 30, 88, 0, 0, 0, []),
  (61, .nop, 29, 0, 0, 0, []),
  (61, .aload_n 0, 0, 0, 0, 0, []),
  (62, .getfield 51, 11, 6, 0, 0, []),
  (65, .iload_n 2, 2, 0, 0, 0, []),
  (66, .iload_n 3, 3, 0, 0, 0, []),
  (67, .iload 4, 4, 0, 0, 0, []),
  (69, .invokevirtual 178, 4, 8, 0, 0, []),
  (72, .ifCond .eq 16, 88, 0, 0, 0, []),
  (75, .aload_n 0, 0, 0, 0, 0, []),
  (76, .getfield 51, 11, 6, 0, 0, []),
  (79, .iload_n 2, 2, 0, 0, 0, []),
  (80, .iload_n 3, 3, 0, 0, 0, []),
  (81, .iload 4, 4, 0, 0, 0, []),
  (83, .invokevirtual 186, 4, 8, 0, 0, []),
  (86, .iconst 1, 0, 0, 1, 0, []),
  (87, .ireturn, 0, 0, 0, 0, []),
  (88, .iconst 0, 0, 0, 0, 0, []),
  (89, .ireturn, 0, 0, 0, 0, [])]
noncomputable def e11_dance : XN := [(190, 1, 1, 8, F8_canAsk), (194, 0, 1, 8, F8_openGap), (200, 1, 2, 8, F8_canStop), (203, 0, 2, 8, F8_closeGap), (178, 1, 4, 8, F8_canCast), (186, 0, 4, 8, F8_giveBelt)]
noncomputable def h11_dance_24 (n : Nat) (v1 : Int32) (v2 : Int32) (v3 : Int32) (v4 : Int32) (μ : XM) : XR := arr t11_dance e11_dance 1 53 n 24 [some (xr 11 0 0), some (xi v1), some (xi v2), some (xi v3), some (xi v4)] [] μ
noncomputable def h11_dance_61 (n : Nat) (v2 : Int32) (v3 : Int32) (v4 : Int32) (μ : XM) : XR := arr t11_dance e11_dance 1 53 n 61 [some (xr 11 0 0), none, some (xi v2), some (xi v3), some (xi v4)] [] μ
set_option maxRecDepth 100000 in
theorem h11_dance_24_s (n : Nat) (v1 : Int32) (v2 : Int32) (v3 : Int32) (v4 : Int32) (μ : XM) : h11_dance_24 (n + 1) v1 v2 v3 v4 μ = (
  xite (v1 = 1) (
    bI (f8_canStop 1 v2 μ) fun r2 m1 =>
    xite (r2 = 0) (
      xite (v1 = 2) (
        h11_dance_61 n v2 v3 v4 m1) (
        xite (v1 = 3) (
          h11_dance_61 n v2 v3 v4 m1) (
          xri 0 m1))) (
      bV (f8_closeGap 1 v2 m1) fun m3 =>
      xri 0 m3)) (
    xite (v1 = 2) (
      h11_dance_61 n v2 v3 v4 μ) (
      xite (v1 = 3) (
        h11_dance_61 n v2 v3 v4 μ) (
        xri 0 μ)))) := rfl
theorem h11_dance_24_0 (v1 : Int32) (v2 : Int32) (v3 : Int32) (v4 : Int32) (μ : XM) : h11_dance_24 0 v1 v2 v3 v4 μ = none := rfl
set_option maxRecDepth 100000 in
theorem h11_dance_61_s (n : Nat) (v2 : Int32) (v3 : Int32) (v4 : Int32) (μ : XM) : h11_dance_61 (n + 1) v2 v3 v4 μ = (
  bI (f8_canCast 1 v2 v3 v4 μ) fun r2 m1 =>
  xite (r2 = 0) (
    xri 0 m1) (
    bV (f8_giveBelt 1 v2 v3 v4 m1) fun m3 =>
    xri 1 m3)) := rfl
theorem h11_dance_61_0 (v2 : Int32) (v3 : Int32) (v4 : Int32) (μ : XM) : h11_dance_61 0 v2 v3 v4 μ = none := rfl
noncomputable def k11_dance (n : Nat) (p1 : Int32) (p2 : Int32) (p3 : Int32) (p4 : Int32) (μ : XM) : XR :=
  xite (p1 = 0) (
    bI (f8_canAsk 1 μ) fun r2 m1 =>
    xite (r2 = 0) (
      h11_dance_24 n p1 p2 p3 p4 m1) (
      bV (f8_openGap 1 m1) fun m3 =>
      xri 0 m3)) (
    h11_dance_24 n p1 p2 p3 p4 μ)
set_option maxRecDepth 100000 in
theorem q11_dance (n : Nat) (p1 : Int32) (p2 : Int32) (p3 : Int32) (p4 : Int32) (μ : XM) : xrun t11_dance e11_dance (xrtk (some .int)) 53 n (xlo [xr 11 0 0, xi p1, xi p2, xi p3, xi p4] 5) μ = k11_dance n p1 p2 p3 p4 μ := rfl
theorem x11_dance : ∃ f : Int32 → Int32 → Int32 → Int32 → XM → XR, ∀ (p1 : Int32) (p2 : Int32) (p3 : Int32) (p4 : Int32) (μ : XM), f p1 p2 p3 p4 μ = k11_dance 20000 p1 p2 p3 p4 μ := ⟨fun p1 p2 p3 p4 μ => k11_dance 20000 p1 p2 p3 p4 μ, fun p1 p2 p3 p4 μ => rfl⟩
noncomputable def f11_dance : Int32 → Int32 → Int32 → Int32 → XM → XR := Classical.choose x11_dance
theorem f11_dance_e (p1 : Int32) (p2 : Int32) (p3 : Int32) (p4 : Int32) (μ : XM) : f11_dance p1 p2 p3 p4 μ = k11_dance 20000 p1 p2 p3 p4 μ := Classical.choose_spec x11_dance p1 p2 p3 p4 μ
noncomputable def F11_dance : XF := fun av μ => match av with
  | [.inr (.inr (some (t0, i0, 0))), .inl p1, .inl p2, .inl p3, .inl p4] => bif Nat.beq t0 11 && Nat.beq i0 0 then f11_dance p1 p2 p3 p4 μ else none
  | _ => none
set_option maxRecDepth 100000 in
theorem c11_dance {X : XP} (hX : XOK X) (l : Launch) : Ctr X l y11_dance prog_1_method_57_code 5 (some .int) (xrm 5) 0 0 F11_dance :=
  Ctr_of (tab := t11_dance) (env := e11_dance) (K := 53) (N := 20000) (fl := fl11) (cl := cl11) (ll := ll11) (jl := jl11) hX mf11_dance.2.2.2 ⟨by decide +kernel, flk11, clk11, llk11, jlk11⟩
   (List.forall_mem_cons.mpr ⟨xcal_v (na := 0) (c8_canAsk hX l) mf8_canAsk ⟨rfl, rfl⟩ ml11_190 mi8_canAsk me8_canAsk (xrm_ok (by omega) (by decide)) rfl (by decide) (by decide +kernel), List.forall_mem_cons.mpr ⟨xcal_v (na := 0) (c8_openGap hX l) mf8_openGap ⟨rfl, rfl⟩ ml11_194 mi8_openGap me8_openGap (xrm_ok (by omega) (by decide)) rfl (by decide) (by decide +kernel), List.forall_mem_cons.mpr ⟨xcal_v (na := 1) (c8_canStop hX l) mf8_canStop ⟨rfl, rfl⟩ ml11_200 mi8_canStop me8_canStop (xrm_ok (by omega) (by decide)) rfl (by decide) (by decide +kernel), List.forall_mem_cons.mpr ⟨xcal_v (na := 1) (c8_closeGap hX l) mf8_closeGap ⟨rfl, rfl⟩ ml11_203 mi8_closeGap me8_closeGap (xrm_ok (by omega) (by decide)) rfl (by decide) (by decide +kernel), List.forall_mem_cons.mpr ⟨xcal_v (na := 3) (c8_canCast hX l) mf8_canCast ⟨rfl, rfl⟩ ml11_178 mi8_canCast me8_canCast (xrm_ok (by omega) (by decide)) rfl (by decide) (by decide +kernel), List.forall_mem_cons.mpr ⟨xcal_v (na := 3) (c8_giveBelt hX l) mf8_giveBelt ⟨rfl, rfl⟩ ml11_186 mi8_giveBelt me8_giveBelt (xrm_ok (by omega) (by decide)) rfl (by decide) (by decide +kernel), fun _ h => absurd h List.not_mem_nil⟩⟩⟩⟩⟩⟩)
   (xrm_1 (by decide)) ⟨_, _, rfl, rfl⟩ (fun av μ r μ' h => by
    unfold F11_dance at h
    split at h
    · replace h := cond_inv h; obtain ⟨hb, h⟩ := h
      simp only [Bool.and_eq_true] at hb
      obtain ⟨g0, g1⟩ := hb
      obtain rfl := Nat.eq_of_beq_eq_true g0
      obtain rfl := Nat.eq_of_beq_eq_true g1
      exact ⟨Nat.le_of_ble_eq_true rfl, (q11_dance _ _ _ _ _ _).trans ((f11_dance_e _ _ _ _ _).symm.trans h)⟩
    · cases h)
def t11_playBalls : List XE := [(0, .aload_n 0, 0, 0, 0, 0, []),
  (1, .getfield 19, 11, 1, 0, 0, []),
  (4, .getfield 285, 2, 2, 0, 0, []),
  (7, .ifCond .le 27, 34, 0, 0, 0, []),
  (10, .aload_n 0, 0, 0, 0, 0, []),
  (11, .getfield 19, 11, 1, 0, 0, []),
  (14, .getfield 218, 2, 0, 0, 0, []),
  (17, .ifCond .le 17, 34, 0, 0, 0, []),
  (20, .aload_n 0, 0, 0, 0, 0, []),
  (21, .getfield 19, 11, 1, 0, 0, []),
  (24, .getfield 273, 2, 1, 0, 0, []),
  (27, .ifCond .le 7, 34, 0, 0, 0, []),
  (30, .iconst 1, 0, 0, 1, 0, []),
  (31, .goto 4, 35, 0, 0, 0, []),
  (34, .nop, 7, 0, 0, 0, []),
  (34, .iconst 0, 0, 0, 0, 0, []),
  (35, .istore_n 3, 3, 0, 0, 0, []),
  (36, .iload_n 1, 1, 0, 0, 0, []),
  (37, .i2l, 0, 0, 0, 0, []),
  (38, .lstore 4, 4, 0, 0, 0, []),
  (40, .iconst 0, 0, 0, 0, 0, []),
  (41, .istore 6, 6, 0, 0, 0, []),
  (43, .aload_n 0, 0, 0, 0, 0, []),
  (44, .getfield 51, 11, 6, 0, 0, []),
  (47, .aload_n 0, 0, 0, 0, 0, []),
  (48, .getfield 47, 11, 5, 0, 0, []),
  (51, .invokevirtual 233, 2, 8, 0, 0, []),
  (54, .iconst 0, 0, 0, 0, 0, []),
  (55, .istore 7, 7, 0, 0, 0, []),
  (57, .nop, 221, 0, 0, 0, []),
  (57, .iload 7, 7, 0, 0, 0, []),
  (59, .iload_n 2, 2, 0, 0, 0, []),
  (60, .if_icmp .ge 112, 172, 0, 0, 0, []),
  (63, .iload_n 3, 3, 0, 0, 0, []),
  (64, .ifCond .eq 94, 158, 0, 0, 0, []),
  (67, .lload 4, 4, 0, 0, 0, []),
  (69, .invokestatic 341, 1, 0, 0, 0, []),
  (72, .lstore 4, 4, 0, 0, 0, []),
  (74, .lload 4, 4, 0, 0, 0, []),
  (76, .aload_n 0, 0, 0, 0, 0, []),
  (77, .getfield 19, 11, 1, 0, 0, []),
  (80, .getfield 285, 2, 2, 0, 0, []),
  (83, .invokestatic 345, 2, 0, 0, 0, []),
  (86, .istore 8, 8, 0, 0, 0, []),
  (88, .lload 4, 4, 0, 0, 0, []),
  (90, .invokestatic 341, 1, 0, 0, 0, []),
  (93, .lstore 4, 4, 0, 0, 0, []),
  (95, .lload 4, 4, 0, 0, 0, []),
  (97, .aload_n 0, 0, 0, 0, 0, []),
  (98, .getfield 19, 11, 1, 0, 0, []),
  (101, .getfield 273, 2, 1, 0, 0, []),
  (104, .invokestatic 345, 2, 0, 0, 0, []),
  (107, .istore 9, 9, 0, 0, 0, []),
  (109, .lload 4, 4, 0, 0, 0, []),
  (111, .invokestatic 341, 1, 0, 0, 0, []),
  (114, .lstore 4, 4, 0, 0, 0, []),
  (116, .lload 4, 4, 0, 0, 0, []),
  (118, .aload_n 0, 0, 0, 0, 0, []),
  (119, .getfield 19, 11, 1, 0, 0, []),
  (122, .getfield 218, 2, 0, 0, 0, []),
  (125, .invokestatic 345, 2, 0, 0, 0, []),
  (128, .istore 10, 10, 0, 0, 0, []),
  (130, .lload 4, 4, 0, 0, 0, []),
  (132, .invokestatic 341, 1, 0, 0, 0, []),
  (135, .lstore 4, 4, 0, 0, 0, []),
  (137, .iload 6, 6, 0, 0, 0, []),
  (139, .aload_n 0, 0, 0, 0, 0, []),
  (140, .lload 4, 4, 0, 0, 0, []),
  (142, .iconst 5, 0, 0, 5, 0, []),
  (143, .invokestatic 345, 2, 0, 0, 0, []),
  (146, .iload 8, 8, 0, 0, 0, []),
  (148, .iload 9, 9, 0, 0, 0, []),
  (150, .iload 10, 10, 0, 0, 0, []),
  (152, .invokevirtual 349, 5, 11, 0, 0, []),
  (155, .iadd, 0, 0, 0, 0, []),
  (156, .istore 6, 6, 0, 0, 0, []),
  (158, .aload_n 0, 0, 0, 0, 0, []),
  (159, .getfield 51, 11, 6, 0, 0, []),
  (162, .invokevirtual 207, 1, 8, 0, 0, []),
  (165, .pop, 0, 0, 0, 0, []),
  (166, .iinc 7 1, 7, 0, 1, 0, []),
  (169, .goto (-112), 57, 0, 0, 0, []),
  (172, .iload 6, 6, 0, 0, 0, []),
  (174, .ireturn, 0, 0, 0, 0, [])]
noncomputable def e11_playBalls : XN := [(233, 0, 2, 8, F8_copyFrom), (341, 2, 1, 99, F11_nextDraw), (345, 1, 2, 99, F11_below), (349, 1, 5, 11, F11_dance), (207, 1, 1, 8, F8_pass)]
noncomputable def h11_playBalls_34 (n : Nat) (v1 : Int32) (v2 : Int32) (μ : XM) : XR := arr t11_playBalls e11_playBalls 1 89 n 34 [some (xr 11 0 0), some (xi v1), some (xi v2), none, none, none, none, none, none, none, none] [] μ
noncomputable def h11_playBalls_57 (n : Nat) (v2 : Int32) (v3 : Int32) (v4 : Int64) (v6 : Int32) (v7 : Int32) (μ : XM) : XR := arr t11_playBalls e11_playBalls 1 89 n 57 [some (xr 11 0 0), none, some (xi v2), some (xi v3), some (xl v4), none, some (xi v6), some (xi v7), none, none, none] [] μ
set_option maxRecDepth 100000 in
theorem h11_playBalls_34_s (n : Nat) (v1 : Int32) (v2 : Int32) (μ : XM) : h11_playBalls_34 (n + 1) v1 v2 μ = (
  vI 0 fun x1 =>
  vL (Int32.toInt64 v1) fun x2 =>
  vI 0 fun x3 =>
  bV (f8_copyFrom 1 0 μ) fun m4 =>
  vI 0 fun x5 =>
  h11_playBalls_57 n v2 x1 x2 x3 x5 m4) := rfl
theorem h11_playBalls_34_0 (v1 : Int32) (v2 : Int32) (μ : XM) : h11_playBalls_34 0 v1 v2 μ = none := rfl
set_option maxRecDepth 100000 in
theorem h11_playBalls_57_s (n : Nat) (v2 : Int32) (v3 : Int32) (v4 : Int64) (v6 : Int32) (v7 : Int32) (μ : XM) : h11_playBalls_57 (n + 1) v2 v3 v4 v6 v7 μ = (
  xite (v7 < v2) (
    xite (v3 = 0) (
      bI (f8_pass 1 μ) fun r2 m1 =>
      vI (v7 + 1) fun x3 =>
      h11_playBalls_57 n v2 v3 v4 v6 x3 m1) (
      bL (f11_nextDraw v4 μ) fun r5 m4 =>
      vL r5 fun x6 =>
      bI (f11_below x6 (rI m4 2 0 2) m4) fun r8 m7 =>
      vI r8 fun x9 =>
      bL (f11_nextDraw x6 m7) fun r11 m10 =>
      vL r11 fun x12 =>
      bI (f11_below x12 (rI m10 2 0 1) m10) fun r14 m13 =>
      vI r14 fun x15 =>
      bL (f11_nextDraw x12 m13) fun r17 m16 =>
      vL r17 fun x18 =>
      bI (f11_below x18 (rI m16 2 0 0) m16) fun r20 m19 =>
      vI r20 fun x21 =>
      bL (f11_nextDraw x18 m19) fun r23 m22 =>
      vL r23 fun x24 =>
      bI (f11_below x24 5 m22) fun r26 m25 =>
      bI (f11_dance r26 x9 x15 x21 m25) fun r28 m27 =>
      vI (v6 + r28) fun x29 =>
      bI (f8_pass 1 m27) fun r31 m30 =>
      vI (v7 + 1) fun x32 =>
      h11_playBalls_57 n v2 v3 x24 x29 x32 m30)) (
    xri v6 μ)) := rfl
theorem h11_playBalls_57_0 (v2 : Int32) (v3 : Int32) (v4 : Int64) (v6 : Int32) (v7 : Int32) (μ : XM) : h11_playBalls_57 0 v2 v3 v4 v6 v7 μ = none := rfl
noncomputable def k11_playBalls (n : Nat) (p1 : Int32) (p2 : Int32) (μ : XM) : XR :=
  xite ((0 : Int32) < (rI μ 2 0 2)) (
    xite ((0 : Int32) < (rI μ 2 0 0)) (
      xite ((0 : Int32) < (rI μ 2 0 1)) (
        vI 1 fun x1 =>
        vL (Int32.toInt64 p1) fun x2 =>
        vI 0 fun x3 =>
        bV (f8_copyFrom 1 0 μ) fun m4 =>
        vI 0 fun x5 =>
        h11_playBalls_57 n p2 x1 x2 x3 x5 m4) (
        h11_playBalls_34 n p1 p2 μ)) (
      h11_playBalls_34 n p1 p2 μ)) (
    h11_playBalls_34 n p1 p2 μ)
set_option maxRecDepth 100000 in
theorem q11_playBalls (n : Nat) (p1 : Int32) (p2 : Int32) (μ : XM) : xrun t11_playBalls e11_playBalls (xrtk (some .int)) 89 n (xlo [xr 11 0 0, xi p1, xi p2] 11) μ = k11_playBalls n p1 p2 μ := rfl
theorem x11_playBalls : ∃ f : Int32 → Int32 → XM → XR, ∀ (p1 : Int32) (p2 : Int32) (μ : XM), f p1 p2 μ = k11_playBalls 20000 p1 p2 μ := ⟨fun p1 p2 μ => k11_playBalls 20000 p1 p2 μ, fun p1 p2 μ => rfl⟩
noncomputable def f11_playBalls : Int32 → Int32 → XM → XR := Classical.choose x11_playBalls
theorem f11_playBalls_e (p1 : Int32) (p2 : Int32) (μ : XM) : f11_playBalls p1 p2 μ = k11_playBalls 20000 p1 p2 μ := Classical.choose_spec x11_playBalls p1 p2 μ
noncomputable def F11_playBalls : XF := fun av μ => match av with
  | [.inr (.inr (some (t0, i0, 0))), .inl p1, .inl p2] => bif Nat.beq t0 11 && Nat.beq i0 0 then f11_playBalls p1 p2 μ else none
  | _ => none
set_option maxRecDepth 100000 in
theorem c11_playBalls {X : XP} (hX : XOK X) (l : Launch) : Ctr X l y11_playBalls prog_1_method_54_code 11 (some .int) (xrm 6) 0 0 F11_playBalls :=
  Ctr_of (tab := t11_playBalls) (env := e11_playBalls) (K := 89) (N := 20000) (fl := fl11) (cl := cl11) (ll := ll11) (jl := jl11) hX mf11_playBalls.2.2.2 ⟨by decide +kernel, flk11, clk11, llk11, jlk11⟩
   (List.forall_mem_cons.mpr ⟨xcal_v (na := 1) (c8_copyFrom hX l) mf8_copyFrom ⟨rfl, rfl⟩ ml11_233 mi8_copyFrom me8_copyFrom (xrm_ok (by omega) (by decide)) rfl (by decide) (by decide +kernel), List.forall_mem_cons.mpr ⟨xcal_s (c11_nextDraw hX l) mf11_nextDraw ⟨rfl, rfl⟩ ml11_341 ms11_nextDraw (xrm_ok (by omega) (by decide)) (by decide +kernel), List.forall_mem_cons.mpr ⟨xcal_s (c11_below hX l) mf11_below ⟨rfl, rfl⟩ ml11_345 ms11_below (xrm_ok (by omega) (by decide)) (by decide +kernel), List.forall_mem_cons.mpr ⟨xcal_v (na := 4) (c11_dance hX l) mf11_dance ⟨rfl, rfl⟩ ml11_349 mi11_dance me11_dance (xrm_ok (by omega) (by decide)) rfl (by decide) (by decide +kernel), List.forall_mem_cons.mpr ⟨xcal_v (na := 0) (c8_pass hX l) mf8_pass ⟨rfl, rfl⟩ ml11_207 mi8_pass me8_pass (xrm_ok (by omega) (by decide)) rfl (by decide) (by decide +kernel), fun _ h => absurd h List.not_mem_nil⟩⟩⟩⟩⟩)
   (xrm_1 (by decide)) ⟨_, _, rfl, rfl⟩ (fun av μ r μ' h => by
    unfold F11_playBalls at h
    split at h
    · replace h := cond_inv h; obtain ⟨hb, h⟩ := h
      simp only [Bool.and_eq_true] at hb
      obtain ⟨g0, g1⟩ := hb
      obtain rfl := Nat.eq_of_beq_eq_true g0
      obtain rfl := Nat.eq_of_beq_eq_true g1
      exact ⟨Nat.le_of_ble_eq_true rfl, (q11_playBalls _ _ _ _).trans ((f11_playBalls_e _ _ _).symm.trans h)⟩
    · cases h)
