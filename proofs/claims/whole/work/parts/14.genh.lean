def t12_doesSave : List XE := [(0, .aload_n 0, 0, 0, 0, 0, []),
  (1, .iconst 0, 0, 0, 0, 0, []),
  (2, .iload_n 2, 2, 0, 0, 0, []),
  (3, .iload_n 3, 3, 0, 0, 0, []),
  (4, .iload_n 1, 1, 0, 0, 0, []),
  (5, .invokevirtual 362, 5, 12, 0, 0, []),
  (8, .ifCond .ne 5, 13, 0, 0, 0, []),
  (11, .iconst 0, 0, 0, 0, 0, []),
  (12, .ireturn, 0, 0, 0, 0, []),
  (13, .aload_n 0, 0, 0, 0, 0, []),
  (14, .invokevirtual 388, 1, 12, 0, 0, []),
  (17, .aload_n 0, 0, 0, 0, 0, []),
  (18, .sipush 987, 0, 0, 987, 0, []),
  (21, .iload_n 2, 2, 0, 0, 0, []),
  (22, .iload_n 3, 3, 0, 0, 0, []),
  (23, .iload_n 1, 1, 0, 0, 0, []),
  (24, .invokevirtual 369, 5, 12, 0, 0, []),
  (27, .aload_n 0, 0, 0, 0, 0, []),
  (28, .iload_n 1, 1, 0, 0, 0, []),
  (29, .iconst 2, 0, 0, 2, 0, []),
  (30, .invokevirtual 391, 3, 12, 0, 0, []),
  (33, .ifCond .ge 7, 40, 0, 0, 0, []),
  (36, .iconst 1, 0, 0, 1, 0, []),
  (37, .goto 4, 41, 0, 0, 0, []),
  (40, .iconst 0, 0, 0, 0, 0, []),
  (41, .ireturn, 0, 0, 0, 0, [])]
noncomputable def e12_doesSave : XN := [(362, 1, 5, 12, F12_mayCast), (388, 0, 1, 12, F12_triesNow), (369, 0, 5, 12, F12_casts), (391, 1, 3, 12, F12_becomes)]
noncomputable def k12_doesSave (p1 : Int32) (p2 : Int32) (p3 : Int32) (μ : XM) : XR :=
  bI (f12_mayCast 0 p2 p3 p1 μ) fun r2 m1 =>
  xite (r2 = 0) (
    xrb 0 m1) (
    bV (f12_triesNow m1) fun m3 =>
    bV (f12_casts 987 p2 p3 p1 m3) fun m4 =>
    bI (f12_becomes p1 2 m4) fun r6 m5 =>
    xite (r6 < 0) (
      xrb 1 m5) (
      xrb 0 m5))
set_option maxRecDepth 100000 in
theorem q12_doesSave (n : Nat) (p1 : Int32) (p2 : Int32) (p3 : Int32) (μ : XM) : xrun t12_doesSave e12_doesSave (xrtk (some .boolean)) 31 n (xlo [xr 12 0 0, xi p1, xi p2, xi p3] 4) μ = k12_doesSave p1 p2 p3 μ := rfl
theorem x12_doesSave : ∃ f : Int32 → Int32 → Int32 → XM → XR, ∀ (p1 : Int32) (p2 : Int32) (p3 : Int32) (μ : XM), f p1 p2 p3 μ = k12_doesSave p1 p2 p3 μ := ⟨fun p1 p2 p3 μ => k12_doesSave p1 p2 p3 μ, fun p1 p2 p3 μ => rfl⟩
noncomputable def f12_doesSave : Int32 → Int32 → Int32 → XM → XR := Classical.choose x12_doesSave
theorem f12_doesSave_e (p1 : Int32) (p2 : Int32) (p3 : Int32) (μ : XM) : f12_doesSave p1 p2 p3 μ = k12_doesSave p1 p2 p3 μ := Classical.choose_spec x12_doesSave p1 p2 p3 μ
noncomputable def F12_doesSave : XF := fun av μ => match av with
  | [.inr (.inr (some (t0, i0, 0))), .inl p1, .inl p2, .inl p3] => bif Nat.beq t0 12 && Nat.beq i0 0 then f12_doesSave p1 p2 p3 μ else none
  | _ => none
set_option maxRecDepth 100000 in
theorem c12_doesSave {X : XP} (hX : XOK X) (l : Launch) : Ctr X l y12_doesSave prog_14_method_110_code 4 (some .boolean) (xrm 8) 0 0 F12_doesSave :=
  Ctr_of (tab := t12_doesSave) (env := e12_doesSave) (K := 31) (N := 20000) (fl := fl12) (cl := cl12) (ll := ll12) (jl := jl12) hX mf12_doesSave.2.2.2 ⟨by decide +kernel, flk12, clk12, llk12, jlk12⟩
   (List.forall_mem_cons.mpr ⟨xcal_v (na := 4) (c12_mayCast hX l) mf12_mayCast ⟨rfl, rfl⟩ ml12_362 mi12_mayCast me12_mayCast (xrm_ok (by omega) (by decide)) rfl (by decide) (by decide +kernel), List.forall_mem_cons.mpr ⟨xcal_v (na := 0) (c12_triesNow hX l) mf12_triesNow ⟨rfl, rfl⟩ ml12_388 mi12_triesNow me12_triesNow (xrm_ok (by omega) (by decide)) rfl (by decide) (by decide +kernel), List.forall_mem_cons.mpr ⟨xcal_v (na := 4) (c12_casts hX l) mf12_casts ⟨rfl, rfl⟩ ml12_369 mi12_casts me12_casts (xrm_ok (by omega) (by decide)) rfl (by decide) (by decide +kernel), List.forall_mem_cons.mpr ⟨xcal_v (na := 2) (c12_becomes hX l) mf12_becomes ⟨rfl, rfl⟩ ml12_391 mi12_becomes me12_becomes (xrm_ok (by omega) (by decide)) rfl (by decide) (by decide +kernel), fun _ h => absurd h List.not_mem_nil⟩⟩⟩⟩)
   (xrm_1 (by decide)) ⟨_, _, rfl, rfl⟩ (fun av μ r μ' h => by
    unfold F12_doesSave at h
    split at h
    · replace h := cond_inv h; obtain ⟨hb, h⟩ := h
      simp only [Bool.and_eq_true] at hb
      obtain ⟨g0, g1⟩ := hb
      obtain rfl := Nat.eq_of_beq_eq_true g0
      obtain rfl := Nat.eq_of_beq_eq_true g1
      exact ⟨Nat.le_of_ble_eq_true rfl, (q12_doesSave _ _ _ _ _).trans ((f12_doesSave_e _ _ _ _).symm.trans h)⟩
    · cases h)
def t12_save : List XE := [(0, .aload_n 0, 0, 0, 0, 0, []),
  (1, .iconst 0, 0, 0, 0, 0, []),
  (2, .putfield 1, 12, 0, 0, 0, []),
  (5, .aload_n 0, 0, 0, 0, 0, []),
  (6, .iload_n 1, 1, 0, 0, 0, []),
  (7, .invokevirtual 353, 2, 12, 0, 0, []),
  (10, .ifCond .eq 33, 43, 0, 0, 0, []),
  (13, .aload_n 0, 0, 0, 0, 0, []),
  (14, .iload_n 2, 2, 0, 0, 0, []),
  (15, .invokevirtual 359, 2, 12, 0, 0, []),
  (18, .ifCond .eq 25, 43, 0, 0, 0, []),
  (21, .aload_n 0, 0, 0, 0, 0, []),
  (22, .iload_n 3, 3, 0, 0, 0, []),
  (23, .invokevirtual 356, 2, 12, 0, 0, []),
  (26, .ifCond .eq 17, 43, 0, 0, 0, []),
  (29, .aload_n 0, 0, 0, 0, 0, []),
  (30, .iload_n 1, 1, 0, 0, 0, []),
  (31, .iload_n 2, 2, 0, 0, 0, []),
  (32, .iload_n 3, 3, 0, 0, 0, []),
  (33, .invokevirtual 418, 4, 12, 0, 0, []),
  (36, .ifCond .eq 7, 43, 0, 0, 0, []),
  (39, .iconst 1, 0, 0, 1, 0, []),
  (40, .goto 4, 44, 0, 0, 0, []),
  (43, .iconst 0, 0, 0, 0, 0, []),
  (44, .ireturn, 0, 0, 0, 0, [])]
noncomputable def e12_save : XN := [(353, 1, 2, 12, F12_isGuest), (359, 1, 2, 12, F12_isMan), (356, 1, 2, 12, F12_isBelt), (418, 1, 4, 12, F12_doesSave)]
noncomputable def k12_save (p1 : Int32) (p2 : Int32) (p3 : Int32) (μ : XM) : XR :=
  mS (sI μ 12 0 0 0) fun m1 =>
  bI (f12_isGuest p1 m1) fun r3 m2 =>
  xite (r3 = 0) (
    xrb 0 m2) (
    bI (f12_isMan p2 m2) fun r5 m4 =>
    xite (r5 = 0) (
      xrb 0 m4) (
      bI (f12_isBelt p3 m4) fun r7 m6 =>
      xite (r7 = 0) (
        xrb 0 m6) (
        bI (f12_doesSave p1 p2 p3 m6) fun r9 m8 =>
        xite (r9 = 0) (
          xrb 0 m8) (
          xrb 1 m8))))
set_option maxRecDepth 100000 in
theorem q12_save (n : Nat) (p1 : Int32) (p2 : Int32) (p3 : Int32) (μ : XM) : xrun t12_save e12_save (xrtk (some .boolean)) 30 n (xlo [xr 12 0 0, xi p1, xi p2, xi p3] 4) μ = k12_save p1 p2 p3 μ := rfl
theorem x12_save : ∃ f : Int32 → Int32 → Int32 → XM → XR, ∀ (p1 : Int32) (p2 : Int32) (p3 : Int32) (μ : XM), f p1 p2 p3 μ = k12_save p1 p2 p3 μ := ⟨fun p1 p2 p3 μ => k12_save p1 p2 p3 μ, fun p1 p2 p3 μ => rfl⟩
noncomputable def f12_save : Int32 → Int32 → Int32 → XM → XR := Classical.choose x12_save
theorem f12_save_e (p1 : Int32) (p2 : Int32) (p3 : Int32) (μ : XM) : f12_save p1 p2 p3 μ = k12_save p1 p2 p3 μ := Classical.choose_spec x12_save p1 p2 p3 μ
noncomputable def F12_save : XF := fun av μ => match av with
  | [.inr (.inr (some (t0, i0, 0))), .inl p1, .inl p2, .inl p3] => bif Nat.beq t0 12 && Nat.beq i0 0 then f12_save p1 p2 p3 μ else none
  | _ => none
set_option maxRecDepth 100000 in
theorem c12_save {X : XP} (hX : XOK X) (l : Launch) : Ctr X l y12_save prog_14_method_111_code 4 (some .boolean) (xrm 9) 0 0 F12_save :=
  Ctr_of (tab := t12_save) (env := e12_save) (K := 30) (N := 20000) (fl := fl12) (cl := cl12) (ll := ll12) (jl := jl12) hX mf12_save.2.2.2 ⟨by decide +kernel, flk12, clk12, llk12, jlk12⟩
   (List.forall_mem_cons.mpr ⟨xcal_v (na := 1) (c12_isGuest hX l) mf12_isGuest ⟨rfl, rfl⟩ ml12_353 mi12_isGuest me12_isGuest (xrm_ok (by omega) (by decide)) rfl (by decide) (by decide +kernel), List.forall_mem_cons.mpr ⟨xcal_v (na := 1) (c12_isMan hX l) mf12_isMan ⟨rfl, rfl⟩ ml12_359 mi12_isMan me12_isMan (xrm_ok (by omega) (by decide)) rfl (by decide) (by decide +kernel), List.forall_mem_cons.mpr ⟨xcal_v (na := 1) (c12_isBelt hX l) mf12_isBelt ⟨rfl, rfl⟩ ml12_356 mi12_isBelt me12_isBelt (xrm_ok (by omega) (by decide)) rfl (by decide) (by decide +kernel), List.forall_mem_cons.mpr ⟨xcal_v (na := 3) (c12_doesSave hX l) mf12_doesSave ⟨rfl, rfl⟩ ml12_418 mi12_doesSave me12_doesSave (xrm_ok (by omega) (by decide)) rfl (by decide) (by decide +kernel), fun _ h => absurd h List.not_mem_nil⟩⟩⟩⟩)
   (xrm_1 (by decide)) ⟨_, _, rfl, rfl⟩ (fun av μ r μ' h => by
    unfold F12_save at h
    split at h
    · replace h := cond_inv h; obtain ⟨hb, h⟩ := h
      simp only [Bool.and_eq_true] at hb
      obtain ⟨g0, g1⟩ := hb
      obtain rfl := Nat.eq_of_beq_eq_true g0
      obtain rfl := Nat.eq_of_beq_eq_true g1
      exact ⟨Nat.le_of_ble_eq_true rfl, (q12_save _ _ _ _ _).trans ((f12_save_e _ _ _ _).symm.trans h)⟩
    · cases h)
def t12_worth : List XE := [(0, .aload_n 0, 0, 0, 0, 0, []),
  (1, .iconst 0, 0, 0, 0, 0, []),
  (2, .putfield 1, 12, 0, 0, 0, []),
  (5, .aload_n 0, 0, 0, 0, 0, []),
  (6, .iload_n 1, 1, 0, 0, 0, []),
  (7, .invokevirtual 359, 2, 12, 0, 0, []),
  (10, .ifCond .ne 5, 15, 0, 0, 0, []),
  (13, .iconst (-1), 0, 0, (-1), 0, []),
  (14, .ireturn, 0, 0, 0, 0, []),
  (15, .iconst 0, 0, 0, 0, 0, []),
  (16, .istore_n 2, 2, 0, 0, 0, []),
  (17, .iconst 0, 0, 0, 0, 0, []),
  (18, .istore_n 3, 3, 0, 0, 0, []),
  (19, .nop, 15, 0, 0, 0, []),
  (19, .iload_n 3, 3, 0, 0, 0, []),
  (20, .aload_n 0, 0, 0, 0, 0, []),
  (21, .invokevirtual 282, 1, 12, 0, 0, []),
  (24, .if_icmp .ge 57, 81, 0, 0, 0, []),
  (27, .aload_n 0, 0, 0, 0, 0, []),
  (28, .iload_n 3, 3, 0, 0, 0, []),
  (29, .invokevirtual 415, 2, 12, 0, 0, []),
  (32, .istore 4, 4, 0, 0, 0, []),
  (34, .iload_n 2, 2, 0, 0, 0, []),
  (35, .iload 4, 4, 0, 0, 0, []),
  (37, .ifCond .lt 35, 72, 0, 0, 0, []),
  (40, .aload_n 0, 0, 0, 0, 0, []),
  (41, .iconst 0, 0, 0, 0, 0, []),
  (42, .iload_n 3, 3, 0, 0, 0, []),
  (43, .invokevirtual 310, 3, 12, 0, 0, []),
  (46, .ifCond .eq 26, 72, 0, 0, 0, []),
  (49, .aload_n 0, 0, 0, 0, 0, []),
  (50, .iload_n 3, 3, 0, 0, 0, []),
  (51, .invokevirtual 394, 2, 12, 0, 0, []),
  (54, .ifCond .lt 18, 72, 0, 0, 0, []),
  (57, .aload_n 0, 0, 0, 0, 0, []),
  (58, .iload_n 3, 3, 0, 0, 0, []),
  (59, .iload_n 1, 1, 0, 0, 0, []),
  (60, .iload 4, 4, 0, 0, 0, []),
  (62, .invokevirtual 418, 4, 12, 0, 0, []),
  (65, .ifCond .eq 7, 72, 0, 0, 0, []),
  (68, .iconst 1, 0, 0, 1, 0, []),
  (69, .goto 4, 73, 0, 0, 0, []),
  (72, .iconst 0, 0, 0, 0, 0, []),
  (73, .iadd, 0, 0, 0, 0, []),
  (74, .istore_n 2, 2, 0, 0, 0, []),
  (75, .iinc 3 1, 3, 0, 1, 0, []),
  (78, .goto (-59), 19, 0, 0, 0, []),
  (81, .iload_n 2, 2, 0, 0, 0, []),
  (82, .ireturn, 0, 0, 0, 0, [])]
noncomputable def e12_worth : XN := [(359, 1, 2, 12, F12_isMan), (282, 1, 1, 12, F12_guests), (415, 1, 2, 12, F12_enoughFor), (310, 1, 3, 12, F12_isIn), (394, 1, 2, 12, F12_sinksIn), (418, 1, 4, 12, F12_doesSave)]
noncomputable def h12_worth_19 (n : Nat) (v1 : Int32) (v2 : Int32) (v3 : Int32) (μ : XM) : XR := arr t12_worth e12_worth 1 54 n 19 [some (xr 12 0 0), some (xi v1), some (xi v2), some (xi v3), none] [] μ
set_option maxRecDepth 100000 in
theorem h12_worth_19_s (n : Nat) (v1 : Int32) (v2 : Int32) (v3 : Int32) (μ : XM) : h12_worth_19 (n + 1) v1 v2 v3 μ = (
  bI (f12_guests μ) fun r2 m1 =>
  xite (v3 < r2) (
    bI (f12_enoughFor v3 m1) fun r4 m3 =>
    vI r4 fun x5 =>
    xite (x5 < 0) (
      vI (v2 + 0) fun x6 =>
      vI (v3 + 1) fun x7 =>
      h12_worth_19 n v1 x6 x7 m3) (
      bI (f12_isIn 0 v3 m3) fun r9 m8 =>
      xite (r9 = 0) (
        vI (v2 + 0) fun x10 =>
        vI (v3 + 1) fun x11 =>
        h12_worth_19 n v1 x10 x11 m8) (
        bI (f12_sinksIn v3 m8) fun r13 m12 =>
        xite (r13 < 0) (
          vI (v2 + 0) fun x14 =>
          vI (v3 + 1) fun x15 =>
          h12_worth_19 n v1 x14 x15 m12) (
          bI (f12_doesSave v3 v1 x5 m12) fun r17 m16 =>
          xite (r17 = 0) (
            vI (v2 + 0) fun x18 =>
            vI (v3 + 1) fun x19 =>
            h12_worth_19 n v1 x18 x19 m16) (
            vI (v2 + 1) fun x20 =>
            vI (v3 + 1) fun x21 =>
            h12_worth_19 n v1 x20 x21 m16))))) (
    xri v2 m1)) := rfl
theorem h12_worth_19_0 (v1 : Int32) (v2 : Int32) (v3 : Int32) (μ : XM) : h12_worth_19 0 v1 v2 v3 μ = none := rfl
noncomputable def k12_worth (n : Nat) (p1 : Int32) (μ : XM) : XR :=
  mS (sI μ 12 0 0 0) fun m1 =>
  bI (f12_isMan p1 m1) fun r3 m2 =>
  xite (r3 = 0) (
    xri (-1) m2) (
    vI 0 fun x4 =>
    vI 0 fun x5 =>
    h12_worth_19 n p1 x4 x5 m2)
set_option maxRecDepth 100000 in
theorem q12_worth (n : Nat) (p1 : Int32) (μ : XM) : xrun t12_worth e12_worth (xrtk (some .int)) 54 n (xlo [xr 12 0 0, xi p1] 5) μ = k12_worth n p1 μ := rfl
theorem x12_worth : ∃ f : Int32 → XM → XR, ∀ (p1 : Int32) (μ : XM), f p1 μ = k12_worth 20000 p1 μ := ⟨fun p1 μ => k12_worth 20000 p1 μ, fun p1 μ => rfl⟩
noncomputable def f12_worth : Int32 → XM → XR := Classical.choose x12_worth
theorem f12_worth_e (p1 : Int32) (μ : XM) : f12_worth p1 μ = k12_worth 20000 p1 μ := Classical.choose_spec x12_worth p1 μ
noncomputable def F12_worth : XF := fun av μ => match av with
  | [.inr (.inr (some (t0, i0, 0))), .inl p1] => bif Nat.beq t0 12 && Nat.beq i0 0 then f12_worth p1 μ else none
  | _ => none
set_option maxRecDepth 100000 in
theorem c12_worth {X : XP} (hX : XOK X) (l : Launch) : Ctr X l y12_worth prog_14_method_112_code 5 (some .int) (xrm 9) 0 0 F12_worth :=
  Ctr_of (tab := t12_worth) (env := e12_worth) (K := 54) (N := 20000) (fl := fl12) (cl := cl12) (ll := ll12) (jl := jl12) hX mf12_worth.2.2.2 ⟨by decide +kernel, flk12, clk12, llk12, jlk12⟩
   (List.forall_mem_cons.mpr ⟨xcal_v (na := 1) (c12_isMan hX l) mf12_isMan ⟨rfl, rfl⟩ ml12_359 mi12_isMan me12_isMan (xrm_ok (by omega) (by decide)) rfl (by decide) (by decide +kernel), List.forall_mem_cons.mpr ⟨xcal_v (na := 0) (c12_guests hX l) mf12_guests ⟨rfl, rfl⟩ ml12_282 mi12_guests me12_guests (xrm_ok (by omega) (by decide)) rfl (by decide) (by decide +kernel), List.forall_mem_cons.mpr ⟨xcal_v (na := 1) (c12_enoughFor hX l) mf12_enoughFor ⟨rfl, rfl⟩ ml12_415 mi12_enoughFor me12_enoughFor (xrm_ok (by omega) (by decide)) rfl (by decide) (by decide +kernel), List.forall_mem_cons.mpr ⟨xcal_v (na := 2) (c12_isIn hX l) mf12_isIn ⟨rfl, rfl⟩ ml12_310 mi12_isIn me12_isIn (xrm_ok (by omega) (by decide)) rfl (by decide) (by decide +kernel), List.forall_mem_cons.mpr ⟨xcal_v (na := 1) (c12_sinksIn hX l) mf12_sinksIn ⟨rfl, rfl⟩ ml12_394 mi12_sinksIn me12_sinksIn (xrm_ok (by omega) (by decide)) rfl (by decide) (by decide +kernel), List.forall_mem_cons.mpr ⟨xcal_v (na := 3) (c12_doesSave hX l) mf12_doesSave ⟨rfl, rfl⟩ ml12_418 mi12_doesSave me12_doesSave (xrm_ok (by omega) (by decide)) rfl (by decide) (by decide +kernel), fun _ h => absurd h List.not_mem_nil⟩⟩⟩⟩⟩⟩)
   (xrm_1 (by decide)) ⟨_, _, rfl, rfl⟩ (fun av μ r μ' h => by
    unfold F12_worth at h
    split at h
    · replace h := cond_inv h; obtain ⟨hb, h⟩ := h
      simp only [Bool.and_eq_true] at hb
      obtain ⟨g0, g1⟩ := hb
      obtain rfl := Nat.eq_of_beq_eq_true g0
      obtain rfl := Nat.eq_of_beq_eq_true g1
      exact ⟨Nat.le_of_ble_eq_true rfl, (q12_worth _ _ _).trans ((f12_worth_e _ _).symm.trans h)⟩
    · cases h)
def t12_near : List XE := [(0, .aload_n 0, 0, 0, 0, 0, []),
  (1, .iconst 0, 0, 0, 0, 0, []),
  (2, .putfield 1, 12, 0, 0, 0, []),
  (5, .iconst (-1), 0, 0, (-1), 0, []),
  (6, .istore_n 2, 2, 0, 0, 0, []),
  (7, .iconst 0, 0, 0, 0, 0, []),
  (8, .istore_n 3, 3, 0, 0, 0, []),
  (9, .nop, 15, 0, 0, 0, []),
  (9, .iload_n 3, 3, 0, 0, 0, []),
  (10, .aload_n 0, 0, 0, 0, 0, []),
  (11, .invokevirtual 301, 1, 12, 0, 0, []),
  (14, .if_icmp .ge 44, 58, 0, 0, 0, []),
  (17, .aload_n 0, 0, 0, 0, 0, []),
  (18, .iload_n 1, 1, 0, 0, 0, []),
  (19, .invokevirtual 353, 2, 12, 0, 0, []),
  (22, .ifCond .eq 36, 58, 0, 0, 0, []),
  (25, .iload_n 2, 2, 0, 0, 0, []),
  (26, .ifCond .lt 20, 46, 0, 0, 0, []),
  (29, .aload_n 0, 0, 0, 0, 0, []),
  (30, .iconst 0, 0, 0, 0, 0, []),
  (31, .iload_n 3, 3, 0, 0, 0, []),
  (32, .iload_n 1, 1, 0, 0, 0, []),
  (33, .invokevirtual 326, 4, 12, 0, 0, []),
  (36, .aload_n 0, 0, 0, 0, 0, []),
  (37, .iconst 0, 0, 0, 0, 0, []),
  (38, .iload_n 2, 2, 0, 0, 0, []),
  (39, .iload_n 1, 1, 0, 0, 0, []),
  (40, .invokevirtual 326, 4, 12, 0, 0, []),
  (43, .if_icmp .ge 7, 50, 0, 0, 0, []),
  (46, .iload_n 3, 3, 0, 0, 0, []),
  (47, .goto 4, 51, 0, 0, 0, []),
  (50, .iload_n 2, 2, 0, 0, 0, []),
  (51, .istore_n 2, 2, 0, 0, 0, []),
  (52, .iinc 3 1, 3, 0, 1, 0, []),
  (55, .goto (-46), 9, 0, 0, 0, []),
  (58, .iload_n 2, 2, 0, 0, 0, []),
  (59, .ireturn, 0, 0, 0, 0, [])]
noncomputable def e12_near : XN := [(301, 1, 1, 12, F12_men), (353, 1, 2, 12, F12_isGuest), (326, 1, 4, 12, F12_gapTo)]
noncomputable def h12_near_9 (n : Nat) (v1 : Int32) (v2 : Int32) (v3 : Int32) (μ : XM) : XR := arr t12_near e12_near 1 42 n 9 [some (xr 12 0 0), some (xi v1), some (xi v2), some (xi v3)] [] μ
set_option maxRecDepth 100000 in
theorem h12_near_9_s (n : Nat) (v1 : Int32) (v2 : Int32) (v3 : Int32) (μ : XM) : h12_near_9 (n + 1) v1 v2 v3 μ = (
  bI (f12_men μ) fun r2 m1 =>
  xite (v3 < r2) (
    bI (f12_isGuest v1 m1) fun r4 m3 =>
    xite (r4 = 0) (
      xri v2 m3) (
      xite (v2 < 0) (
        vI v3 fun x5 =>
        vI (v3 + 1) fun x6 =>
        h12_near_9 n v1 x5 x6 m3) (
        bI (f12_gapTo 0 v3 v1 m3) fun r8 m7 =>
        bI (f12_gapTo 0 v2 v1 m7) fun r10 m9 =>
        xite (r8 < r10) (
          vI v3 fun x11 =>
          vI (v3 + 1) fun x12 =>
          h12_near_9 n v1 x11 x12 m9) (
          vI v2 fun x13 =>
          vI (v3 + 1) fun x14 =>
          h12_near_9 n v1 x13 x14 m9)))) (
    xri v2 m1)) := rfl
theorem h12_near_9_0 (v1 : Int32) (v2 : Int32) (v3 : Int32) (μ : XM) : h12_near_9 0 v1 v2 v3 μ = none := rfl
noncomputable def k12_near (n : Nat) (p1 : Int32) (μ : XM) : XR :=
  mS (sI μ 12 0 0 0) fun m1 =>
  vI (-1) fun x2 =>
  vI 0 fun x3 =>
  h12_near_9 n p1 x2 x3 m1
set_option maxRecDepth 100000 in
theorem q12_near (n : Nat) (p1 : Int32) (μ : XM) : xrun t12_near e12_near (xrtk (some .int)) 42 n (xlo [xr 12 0 0, xi p1] 4) μ = k12_near n p1 μ := rfl
theorem x12_near : ∃ f : Int32 → XM → XR, ∀ (p1 : Int32) (μ : XM), f p1 μ = k12_near 20000 p1 μ := ⟨fun p1 μ => k12_near 20000 p1 μ, fun p1 μ => rfl⟩
noncomputable def f12_near : Int32 → XM → XR := Classical.choose x12_near
theorem f12_near_e (p1 : Int32) (μ : XM) : f12_near p1 μ = k12_near 20000 p1 μ := Classical.choose_spec x12_near p1 μ
noncomputable def F12_near : XF := fun av μ => match av with
  | [.inr (.inr (some (t0, i0, 0))), .inl p1] => bif Nat.beq t0 12 && Nat.beq i0 0 then f12_near p1 μ else none
  | _ => none
set_option maxRecDepth 100000 in
theorem c12_near {X : XP} (hX : XOK X) (l : Launch) : Ctr X l y12_near prog_14_method_113_code 4 (some .int) (xrm 3) 0 0 F12_near :=
  Ctr_of (tab := t12_near) (env := e12_near) (K := 42) (N := 20000) (fl := fl12) (cl := cl12) (ll := ll12) (jl := jl12) hX mf12_near.2.2.2 ⟨by decide +kernel, flk12, clk12, llk12, jlk12⟩
   (List.forall_mem_cons.mpr ⟨xcal_v (na := 0) (c12_men hX l) mf12_men ⟨rfl, rfl⟩ ml12_301 mi12_men me12_men (xrm_ok (by omega) (by decide)) rfl (by decide) (by decide +kernel), List.forall_mem_cons.mpr ⟨xcal_v (na := 1) (c12_isGuest hX l) mf12_isGuest ⟨rfl, rfl⟩ ml12_353 mi12_isGuest me12_isGuest (xrm_ok (by omega) (by decide)) rfl (by decide) (by decide +kernel), List.forall_mem_cons.mpr ⟨xcal_v (na := 3) (c12_gapTo hX l) mf12_gapTo ⟨rfl, rfl⟩ ml12_326 mi12_gapTo me12_gapTo (xrm_ok (by omega) (by decide)) rfl (by decide) (by decide +kernel), fun _ h => absurd h List.not_mem_nil⟩⟩⟩)
   (xrm_1 (by decide)) ⟨_, _, rfl, rfl⟩ (fun av μ r μ' h => by
    unfold F12_near at h
    split at h
    · replace h := cond_inv h; obtain ⟨hb, h⟩ := h
      simp only [Bool.and_eq_true] at hb
      obtain ⟨g0, g1⟩ := hb
      obtain rfl := Nat.eq_of_beq_eq_true g0
      obtain rfl := Nat.eq_of_beq_eq_true g1
      exact ⟨Nat.le_of_ble_eq_true rfl, (q12_near _ _ _).trans ((f12_near_e _ _).symm.trans h)⟩
    · cases h)
def t12_gap : List XE := [(0, .aload_n 0, 0, 0, 0, 0, []),
  (1, .iconst 0, 0, 0, 0, 0, []),
  (2, .putfield 1, 12, 0, 0, 0, []),
  (5, .aload_n 0, 0, 0, 0, 0, []),
  (6, .iload_n 1, 1, 0, 0, 0, []),
  (7, .invokevirtual 353, 2, 12, 0, 0, []),
  (10, .ifCond .eq 16, 26, 0, 0, 0, []),
  (13, .aload_n 0, 0, 0, 0, 0, []),
  (14, .iload_n 2, 2, 0, 0, 0, []),
  (15, .invokevirtual 353, 2, 12, 0, 0, []),
  (18, .ifCond .eq 8, 26, 0, 0, 0, []),
  (21, .iload_n 1, 1, 0, 0, 0, []),
  (22, .iload_n 2, 2, 0, 0, 0, []),
  (23, .if_icmp .ne 5, 28, 0, 0, 0, []),
  (26, .iconst (-1), 0, 0, (-1), 0, []),
  (27, .ireturn, 0, 0, 0, 0, []),
  (28, .aload_n 0, 0, 0, 0, 0, []),
  (29, .getfield 121, 12, 24, 0, 0, []),
  (32, .iconst 3, 0, 0, 3, 0, []),
  (33, .iload_n 1, 1, 0, 0, 0, []),
  (34, .iadd, 0, 0, 0, 0, []),
  (35, .iaload, 0, 0, 0, 0, []),
  (36, .aload_n 0, 0, 0, 0, 0, []),
  (37, .getfield 121, 12, 24, 0, 0, []),
  (40, .iconst 3, 0, 0, 3, 0, []),
  (41, .iload_n 2, 2, 0, 0, 0, []),
  (42, .iadd, 0, 0, 0, 0, []),
  (43, .iaload, 0, 0, 0, 0, []),
  (44, .isub, 0, 0, 0, 0, []),
  (45, .istore_n 3, 3, 0, 0, 0, []),
  (46, .iload_n 3, 3, 0, 0, 0, []),
  (47, .ifCond .ge 8, 55, 0, 0, 0, []),
  (50, .iload_n 3, 3, 0, 0, 0, []),
  (51, .ineg, 0, 0, 0, 0, []),
  (52, .goto 4, 56, 0, 0, 0, []),
  (55, .iload_n 3, 3, 0, 0, 0, []),
  (56, .ireturn, 0, 0, 0, 0, [])]
noncomputable def e12_gap : XN := [(353, 1, 2, 12, F12_isGuest)]
noncomputable def k12_gap (p1 : Int32) (p2 : Int32) (μ : XM) : XR :=
  mS (sI μ 12 0 0 0) fun m1 =>
  bI (f12_isGuest p1 m1) fun r3 m2 =>
  xite (r3 = 0) (
    xri (-1) m2) (
    bI (f12_isGuest p2 m2) fun r5 m4 =>
    xite (r5 = 0) (
      xri (-1) m4) (
      xite (p1 = p2) (
        xri (-1) m4) (
        xck (xin (3 + p1) 1081) <|
        xck (xin (3 + p2) 1081) <|
        vI ((aI m4 12 0 24 (Int32.toNatClampNeg (3 + p1))) - (aI m4 12 0 24 (Int32.toNatClampNeg (3 + p2)))) fun x6 =>
        xite (x6 < 0) (
          xri (-x6) m4) (
          xri x6 m4))))
set_option maxRecDepth 100000 in
theorem q12_gap (n : Nat) (p1 : Int32) (p2 : Int32) (μ : XM) : xrun t12_gap e12_gap (xrtk (some .int)) 42 n (xlo [xr 12 0 0, xi p1, xi p2] 4) μ = k12_gap p1 p2 μ := rfl
theorem x12_gap : ∃ f : Int32 → Int32 → XM → XR, ∀ (p1 : Int32) (p2 : Int32) (μ : XM), f p1 p2 μ = k12_gap p1 p2 μ := ⟨fun p1 p2 μ => k12_gap p1 p2 μ, fun p1 p2 μ => rfl⟩
noncomputable def f12_gap : Int32 → Int32 → XM → XR := Classical.choose x12_gap
theorem f12_gap_e (p1 : Int32) (p2 : Int32) (μ : XM) : f12_gap p1 p2 μ = k12_gap p1 p2 μ := Classical.choose_spec x12_gap p1 p2 μ
noncomputable def F12_gap : XF := fun av μ => match av with
  | [.inr (.inr (some (t0, i0, 0))), .inl p1, .inl p2] => bif Nat.beq t0 12 && Nat.beq i0 0 then f12_gap p1 p2 μ else none
  | _ => none
set_option maxRecDepth 100000 in
theorem c12_gap {X : XP} (hX : XOK X) (l : Launch) : Ctr X l y12_gap prog_14_method_114_code 4 (some .int) (xrm 3) 0 0 F12_gap :=
  Ctr_of (tab := t12_gap) (env := e12_gap) (K := 42) (N := 20000) (fl := fl12) (cl := cl12) (ll := ll12) (jl := jl12) hX mf12_gap.2.2.2 ⟨by decide +kernel, flk12, clk12, llk12, jlk12⟩
   (List.forall_mem_cons.mpr ⟨xcal_v (na := 1) (c12_isGuest hX l) mf12_isGuest ⟨rfl, rfl⟩ ml12_353 mi12_isGuest me12_isGuest (xrm_ok (by omega) (by decide)) rfl (by decide) (by decide +kernel), fun _ h => absurd h List.not_mem_nil⟩)
   (xrm_1 (by decide)) ⟨_, _, rfl, rfl⟩ (fun av μ r μ' h => by
    unfold F12_gap at h
    split at h
    · replace h := cond_inv h; obtain ⟨hb, h⟩ := h
      simp only [Bool.and_eq_true] at hb
      obtain ⟨g0, g1⟩ := hb
      obtain rfl := Nat.eq_of_beq_eq_true g0
      obtain rfl := Nat.eq_of_beq_eq_true g1
      exact ⟨Nat.le_of_ble_eq_true rfl, (q12_gap _ _ _ _).trans ((f12_gap_e _ _ _).symm.trans h)⟩
    · cases h)
def t12_manyAt : List XE := [(0, .iconst 0, 0, 0, 0, 0, []),
  (1, .istore_n 2, 2, 0, 0, 0, []),
  (2, .iconst 0, 0, 0, 0, 0, []),
  (3, .istore_n 3, 3, 0, 0, 0, []),
  (4, .nop, 15, 0, 0, 0, []),
  (4, .iload_n 3, 3, 0, 0, 0, []),
  (5, .aload_n 0, 0, 0, 0, 0, []),
  (6, .invokevirtual 282, 1, 12, 0, 0, []),
  (9, .if_icmp .ge 38, 47, 0, 0, 0, []),
  (12, .iload_n 2, 2, 0, 0, 0, []),
  (13, .aload_n 0, 0, 0, 0, 0, []),
  (14, .iconst 0, 0, 0, 0, 0, []),
  (15, .iload_n 3, 3, 0, 0, 0, []),
  (16, .invokevirtual 310, 3, 12, 0, 0, []),
  (19, .ifCond .eq 19, 38, 0, 0, 0, []),
  (22, .aload_n 0, 0, 0, 0, 0, []),
  (23, .getfield 121, 12, 24, 0, 0, []),
  (26, .iconst 3, 0, 0, 3, 0, []),
  (27, .iload_n 3, 3, 0, 0, 0, []),
  (28, .iadd, 0, 0, 0, 0, []),
  (29, .iaload, 0, 0, 0, 0, []),
  (30, .iload_n 1, 1, 0, 0, 0, []),
  (31, .if_icmp .ne 7, 38, 0, 0, 0, []),
  (34, .iconst 1, 0, 0, 1, 0, []),
  (35, .goto 4, 39, 0, 0, 0, []),
  (38, .iconst 0, 0, 0, 0, 0, []),
  (39, .iadd, 0, 0, 0, 0, []),
  (40, .istore_n 2, 2, 0, 0, 0, []),
  (41, .iinc 3 1, 3, 0, 1, 0, []),
  (44, .goto (-40), 4, 0, 0, 0, []),
  (47, .iload_n 2, 2, 0, 0, 0, []),
  (48, .ireturn, 0, 0, 0, 0, [])]
noncomputable def e12_manyAt : XN := [(282, 1, 1, 12, F12_guests), (310, 1, 3, 12, F12_isIn)]
noncomputable def h12_manyAt_4 (n : Nat) (v1 : Int32) (v2 : Int32) (v3 : Int32) (μ : XM) : XR := arr t12_manyAt e12_manyAt 1 37 n 4 [some (xr 12 0 0), some (xi v1), some (xi v2), some (xi v3)] [] μ
set_option maxRecDepth 100000 in
theorem h12_manyAt_4_s (n : Nat) (v1 : Int32) (v2 : Int32) (v3 : Int32) (μ : XM) : h12_manyAt_4 (n + 1) v1 v2 v3 μ = (
  bI (f12_guests μ) fun r2 m1 =>
  xite (v3 < r2) (
    bI (f12_isIn 0 v3 m1) fun r4 m3 =>
    xite (r4 = 0) (
      vI (v2 + 0) fun x5 =>
      vI (v3 + 1) fun x6 =>
      h12_manyAt_4 n v1 x5 x6 m3) (
      xck (xin (3 + v3) 1081) <|
      xite ((aI m3 12 0 24 (Int32.toNatClampNeg (3 + v3))) = v1) (
        vI (v2 + 1) fun x7 =>
        vI (v3 + 1) fun x8 =>
        h12_manyAt_4 n v1 x7 x8 m3) (
        vI (v2 + 0) fun x9 =>
        vI (v3 + 1) fun x10 =>
        h12_manyAt_4 n v1 x9 x10 m3))) (
    xri v2 m1)) := rfl
theorem h12_manyAt_4_0 (v1 : Int32) (v2 : Int32) (v3 : Int32) (μ : XM) : h12_manyAt_4 0 v1 v2 v3 μ = none := rfl
noncomputable def k12_manyAt (n : Nat) (p1 : Int32) (μ : XM) : XR :=
  vI 0 fun x1 =>
  vI 0 fun x2 =>
  h12_manyAt_4 n p1 x1 x2 μ
set_option maxRecDepth 100000 in
theorem q12_manyAt (n : Nat) (p1 : Int32) (μ : XM) : xrun t12_manyAt e12_manyAt (xrtk (some .int)) 37 n (xlo [xr 12 0 0, xi p1] 4) μ = k12_manyAt n p1 μ := rfl
theorem x12_manyAt : ∃ f : Int32 → XM → XR, ∀ (p1 : Int32) (μ : XM), f p1 μ = k12_manyAt 20000 p1 μ := ⟨fun p1 μ => k12_manyAt 20000 p1 μ, fun p1 μ => rfl⟩
noncomputable def f12_manyAt : Int32 → XM → XR := Classical.choose x12_manyAt
theorem f12_manyAt_e (p1 : Int32) (μ : XM) : f12_manyAt p1 μ = k12_manyAt 20000 p1 μ := Classical.choose_spec x12_manyAt p1 μ
noncomputable def F12_manyAt : XF := fun av μ => match av with
  | [.inr (.inr (some (t0, i0, 0))), .inl p1] => bif Nat.beq t0 12 && Nat.beq i0 0 then f12_manyAt p1 μ else none
  | _ => none
set_option maxRecDepth 100000 in
theorem c12_manyAt {X : XP} (hX : XOK X) (l : Launch) : Ctr X l y12_manyAt prog_14_method_115_code 4 (some .int) (xrm 2) 0 0 F12_manyAt :=
  Ctr_of (tab := t12_manyAt) (env := e12_manyAt) (K := 37) (N := 20000) (fl := fl12) (cl := cl12) (ll := ll12) (jl := jl12) hX mf12_manyAt.2.2.2 ⟨by decide +kernel, flk12, clk12, llk12, jlk12⟩
   (List.forall_mem_cons.mpr ⟨xcal_v (na := 0) (c12_guests hX l) mf12_guests ⟨rfl, rfl⟩ ml12_282 mi12_guests me12_guests (xrm_ok (by omega) (by decide)) rfl (by decide) (by decide +kernel), List.forall_mem_cons.mpr ⟨xcal_v (na := 2) (c12_isIn hX l) mf12_isIn ⟨rfl, rfl⟩ ml12_310 mi12_isIn me12_isIn (xrm_ok (by omega) (by decide)) rfl (by decide) (by decide +kernel), fun _ h => absurd h List.not_mem_nil⟩⟩)
   (xrm_1 (by decide)) ⟨_, _, rfl, rfl⟩ (fun av μ r μ' h => by
    unfold F12_manyAt at h
    split at h
    · replace h := cond_inv h; obtain ⟨hb, h⟩ := h
      simp only [Bool.and_eq_true] at hb
      obtain ⟨g0, g1⟩ := hb
      obtain rfl := Nat.eq_of_beq_eq_true g0
      obtain rfl := Nat.eq_of_beq_eq_true g1
      exact ⟨Nat.le_of_ble_eq_true rfl, (q12_manyAt _ _ _).trans ((f12_manyAt_e _ _).symm.trans h)⟩
    · cases h)
def t12_denseNow : List XE := [(0, .iconst (-1), 0, 0, (-1), 0, []),
  (1, .istore_n 1, 1, 0, 0, 0, []),
  (2, .iconst 1, 0, 0, 1, 0, []),
  (3, .istore_n 2, 2, 0, 0, 0, []),
  (4, .nop, 7, 0, 0, 0, []),
  (4, .iload_n 2, 2, 0, 0, 0, []),
  (5, .bipush 10, 0, 0, 10, 0, []),
  (7, .if_icmp .ge 36, 43, 0, 0, 0, []),
  (10, .aload_n 0, 0, 0, 0, 0, []),
  (11, .iload_n 2, 2, 0, 0, 0, []),
  (12, .invokevirtual 421, 2, 12, 0, 0, []),
  (15, .iload_n 1, 1, 0, 0, 0, []),
  (16, .ifCond .ge 7, 23, 0, 0, 0, []),
  (19, .iconst 0, 0, 0, 0, 0, []),
  (20, .goto 8, 28, 0, 0, 0, []),
  (23, .aload_n 0, 0, 0, 0, 0, []),
  (24, .iload_n 1, 1, 0, 0, 0, []),
  (25, .invokevirtual 421, 2, 12, 0, 0, []),
  (28, .if_icmp .le 7, 35, 0, 0, 0, []),
  (31, .iload_n 2, 2, 0, 0, 0, []),
  (32, .goto 4, 36, 0, 0, 0, []),
  (35, .iload_n 1, 1, 0, 0, 0, []),
  (36, .istore_n 1, 1, 0, 0, 0, []),
  (37, .iinc 2 1, 2, 0, 1, 0, []),
  (40, .goto (-36), 4, 0, 0, 0, []),
  (43, .iload_n 1, 1, 0, 0, 0, []),
  (44, .ireturn, 0, 0, 0, 0, [])]
noncomputable def e12_denseNow : XN := [(421, 1, 2, 12, F12_manyAt)]
noncomputable def h12_denseNow_4 (n : Nat) (v1 : Int32) (v2 : Int32) (μ : XM) : XR := arr t12_denseNow e12_denseNow 1 32 n 4 [some (xr 12 0 0), some (xi v1), some (xi v2)] [] μ
set_option maxRecDepth 100000 in
theorem h12_denseNow_4_s (n : Nat) (v1 : Int32) (v2 : Int32) (μ : XM) : h12_denseNow_4 (n + 1) v1 v2 μ = (
  xite (v2 < 10) (
    bI (f12_manyAt v2 μ) fun r2 m1 =>
    xite (v1 < 0) (
      xite ((0 : Int32) < r2) (
        vI v2 fun x3 =>
        vI (v2 + 1) fun x4 =>
        h12_denseNow_4 n x3 x4 m1) (
        vI v1 fun x5 =>
        vI (v2 + 1) fun x6 =>
        h12_denseNow_4 n x5 x6 m1)) (
      bI (f12_manyAt v1 m1) fun r8 m7 =>
      xite (r8 < r2) (
        vI v2 fun x9 =>
        vI (v2 + 1) fun x10 =>
        h12_denseNow_4 n x9 x10 m7) (
        vI v1 fun x11 =>
        vI (v2 + 1) fun x12 =>
        h12_denseNow_4 n x11 x12 m7))) (
    xri v1 μ)) := rfl
theorem h12_denseNow_4_0 (v1 : Int32) (v2 : Int32) (μ : XM) : h12_denseNow_4 0 v1 v2 μ = none := rfl
noncomputable def k12_denseNow (n : Nat) (μ : XM) : XR :=
  vI (-1) fun x1 =>
  vI 1 fun x2 =>
  h12_denseNow_4 n x1 x2 μ
set_option maxRecDepth 100000 in
theorem q12_denseNow (n : Nat) (μ : XM) : xrun t12_denseNow e12_denseNow (xrtk (some .int)) 32 n (xlo [xr 12 0 0] 3) μ = k12_denseNow n  μ := rfl
theorem x12_denseNow : ∃ f : XM → XR, ∀ (μ : XM), f μ = k12_denseNow 20000  μ := ⟨fun μ => k12_denseNow 20000  μ, fun μ => rfl⟩
noncomputable def f12_denseNow : XM → XR := Classical.choose x12_denseNow
theorem f12_denseNow_e (μ : XM) : f12_denseNow μ = k12_denseNow 20000  μ := Classical.choose_spec x12_denseNow μ
noncomputable def F12_denseNow : XF := fun av μ => match av with
  | [.inr (.inr (some (t0, i0, 0)))] => bif Nat.beq t0 12 && Nat.beq i0 0 then f12_denseNow  μ else none
  | _ => none
set_option maxRecDepth 100000 in
theorem c12_denseNow {X : XP} (hX : XOK X) (l : Launch) : Ctr X l y12_denseNow prog_14_method_116_code 3 (some .int) (xrm 3) 0 0 F12_denseNow :=
  Ctr_of (tab := t12_denseNow) (env := e12_denseNow) (K := 32) (N := 20000) (fl := fl12) (cl := cl12) (ll := ll12) (jl := jl12) hX mf12_denseNow.2.2.2 ⟨by decide +kernel, flk12, clk12, llk12, jlk12⟩
   (List.forall_mem_cons.mpr ⟨xcal_v (na := 1) (c12_manyAt hX l) mf12_manyAt ⟨rfl, rfl⟩ ml12_421 mi12_manyAt me12_manyAt (xrm_ok (by omega) (by decide)) rfl (by decide) (by decide +kernel), fun _ h => absurd h List.not_mem_nil⟩)
   (xrm_1 (by decide)) ⟨_, _, rfl, rfl⟩ (fun av μ r μ' h => by
    unfold F12_denseNow at h
    split at h
    · replace h := cond_inv h; obtain ⟨hb, h⟩ := h
      simp only [Bool.and_eq_true] at hb
      obtain ⟨g0, g1⟩ := hb
      obtain rfl := Nat.eq_of_beq_eq_true g0
      obtain rfl := Nat.eq_of_beq_eq_true g1
      exact ⟨Nat.le_of_ble_eq_true rfl, (q12_denseNow _  _).trans ((f12_denseNow_e  _).symm.trans h)⟩
    · cases h)
def t12_row : List XE := [(0, .aload_n 0, 0, 0, 0, 0, []),
  (1, .iconst 0, 0, 0, 0, 0, []),
  (2, .putfield 1, 12, 0, 0, 0, []),
  (5, .aload_n 0, 0, 0, 0, 0, []),
  (6, .invokevirtual 424, 1, 12, 0, 0, []),
  (9, .ifCond .ge 7, 16, 0, 0, 0, []),
  (12, .iconst 0, 0, 0, 0, 0, []),
  (13, .goto 11, 24, 0, 0, 0, []),
  (16, .aload_n 0, 0, 0, 0, 0, []),
  (17, .aload_n 0, 0, 0, 0, 0, []),
  (18, .invokevirtual 424, 1, 12, 0, 0, []),
  (21, .invokevirtual 421, 2, 12, 0, 0, []),
  (24, .ireturn, 0, 0, 0, 0, [])]
noncomputable def e12_row : XN := [(424, 1, 1, 12, F12_denseNow), (421, 1, 2, 12, F12_manyAt)]
noncomputable def k12_row (μ : XM) : XR :=
  mS (sI μ 12 0 0 0) fun m1 =>
  bI (f12_denseNow m1) fun r3 m2 =>
  xite (r3 < 0) (
    xri 0 m2) (
    bI (f12_denseNow m2) fun r5 m4 =>
    bI (f12_manyAt r5 m4) fun r7 m6 =>
    xri r7 m6)
set_option maxRecDepth 100000 in
theorem q12_row (n : Nat) (μ : XM) : xrun t12_row e12_row (xrtk (some .int)) 18 n (xlo [xr 12 0 0] 1) μ = k12_row  μ := rfl
theorem x12_row : ∃ f : XM → XR, ∀ (μ : XM), f μ = k12_row  μ := ⟨fun μ => k12_row  μ, fun μ => rfl⟩
noncomputable def f12_row : XM → XR := Classical.choose x12_row
theorem f12_row_e (μ : XM) : f12_row μ = k12_row  μ := Classical.choose_spec x12_row μ
noncomputable def F12_row : XF := fun av μ => match av with
  | [.inr (.inr (some (t0, i0, 0)))] => bif Nat.beq t0 12 && Nat.beq i0 0 then f12_row  μ else none
  | _ => none
set_option maxRecDepth 100000 in
theorem c12_row {X : XP} (hX : XOK X) (l : Launch) : Ctr X l y12_row prog_14_method_117_code 1 (some .int) (xrm 4) 0 0 F12_row :=
  Ctr_of (tab := t12_row) (env := e12_row) (K := 18) (N := 20000) (fl := fl12) (cl := cl12) (ll := ll12) (jl := jl12) hX mf12_row.2.2.2 ⟨by decide +kernel, flk12, clk12, llk12, jlk12⟩
   (List.forall_mem_cons.mpr ⟨xcal_v (na := 0) (c12_denseNow hX l) mf12_denseNow ⟨rfl, rfl⟩ ml12_424 mi12_denseNow me12_denseNow (xrm_ok (by omega) (by decide)) rfl (by decide) (by decide +kernel), List.forall_mem_cons.mpr ⟨xcal_v (na := 1) (c12_manyAt hX l) mf12_manyAt ⟨rfl, rfl⟩ ml12_421 mi12_manyAt me12_manyAt (xrm_ok (by omega) (by decide)) rfl (by decide) (by decide +kernel), fun _ h => absurd h List.not_mem_nil⟩⟩)
   (xrm_1 (by decide)) ⟨_, _, rfl, rfl⟩ (fun av μ r μ' h => by
    unfold F12_row at h
    split at h
    · replace h := cond_inv h; obtain ⟨hb, h⟩ := h
      simp only [Bool.and_eq_true] at hb
      obtain ⟨g0, g1⟩ := hb
      obtain rfl := Nat.eq_of_beq_eq_true g0
      obtain rfl := Nat.eq_of_beq_eq_true g1
      exact ⟨Nat.le_of_ble_eq_true rfl, (q12_row _  _).trans ((f12_row_e  _).symm.trans h)⟩
    · cases h)
def t12_dense : List XE := [(0, .aload_n 0, 0, 0, 0, 0, []),
  (1, .iconst 0, 0, 0, 0, 0, []),
  (2, .putfield 1, 12, 0, 0, 0, []),
  (5, .aload_n 0, 0, 0, 0, 0, []),
  (6, .invokevirtual 424, 1, 12, 0, 0, []),
  (9, .ireturn, 0, 0, 0, 0, [])]
noncomputable def e12_dense : XN := [(424, 1, 1, 12, F12_denseNow)]
noncomputable def k12_dense (μ : XM) : XR :=
  mS (sI μ 12 0 0 0) fun m1 =>
  bI (f12_denseNow m1) fun r3 m2 =>
  xri r3 m2
set_option maxRecDepth 100000 in
theorem q12_dense (n : Nat) (μ : XM) : xrun t12_dense e12_dense (xrtk (some .int)) 11 n (xlo [xr 12 0 0] 1) μ = k12_dense  μ := rfl
theorem x12_dense : ∃ f : XM → XR, ∀ (μ : XM), f μ = k12_dense  μ := ⟨fun μ => k12_dense  μ, fun μ => rfl⟩
noncomputable def f12_dense : XM → XR := Classical.choose x12_dense
theorem f12_dense_e (μ : XM) : f12_dense μ = k12_dense  μ := Classical.choose_spec x12_dense μ
noncomputable def F12_dense : XF := fun av μ => match av with
  | [.inr (.inr (some (t0, i0, 0)))] => bif Nat.beq t0 12 && Nat.beq i0 0 then f12_dense  μ else none
  | _ => none
set_option maxRecDepth 100000 in
theorem c12_dense {X : XP} (hX : XOK X) (l : Launch) : Ctr X l y12_dense prog_14_method_118_code 1 (some .int) (xrm 4) 0 0 F12_dense :=
  Ctr_of (tab := t12_dense) (env := e12_dense) (K := 11) (N := 20000) (fl := fl12) (cl := cl12) (ll := ll12) (jl := jl12) hX mf12_dense.2.2.2 ⟨by decide +kernel, flk12, clk12, llk12, jlk12⟩
   (List.forall_mem_cons.mpr ⟨xcal_v (na := 0) (c12_denseNow hX l) mf12_denseNow ⟨rfl, rfl⟩ ml12_424 mi12_denseNow me12_denseNow (xrm_ok (by omega) (by decide)) rfl (by decide) (by decide +kernel), fun _ h => absurd h List.not_mem_nil⟩)
   (xrm_1 (by decide)) ⟨_, _, rfl, rfl⟩ (fun av μ r μ' h => by
    unfold F12_dense at h
    split at h
    · replace h := cond_inv h; obtain ⟨hb, h⟩ := h
      simp only [Bool.and_eq_true] at hb
      obtain ⟨g0, g1⟩ := hb
      obtain rfl := Nat.eq_of_beq_eq_true g0
      obtain rfl := Nat.eq_of_beq_eq_true g1
      exact ⟨Nat.le_of_ble_eq_true rfl, (q12_dense _  _).trans ((f12_dense_e  _).symm.trans h)⟩
    · cases h)
def t12_tight : List XE := [(0, .aload_n 0, 0, 0, 0, 0, []),
  (1, .iconst 0, 0, 0, 0, 0, []),
  (2, .putfield 1, 12, 0, 0, 0, []),
  (5, .iconst (-1), 0, 0, (-1), 0, []),
  (6, .istore_n 1, 1, 0, 0, 0, []),
  (7, .iconst 0, 0, 0, 0, 0, []),
  (8, .istore_n 2, 2, 0, 0, 0, []),
  (9, .nop, 7, 0, 0, 0, []),
  (9, .iload_n 2, 2, 0, 0, 0, []),
  (10, .aload_n 0, 0, 0, 0, 0, []),
  (11, .invokevirtual 282, 1, 12, 0, 0, []),
  (14, .if_icmp .ge 84, 98, 0, 0, 0, []),
  (17, .aload_n 0, 0, 0, 0, 0, []),
  (18, .iload_n 2, 2, 0, 0, 0, []),
  (19, .iconst 0, 0, 0, 0, 0, []),
  (20, .invokevirtual 286, 3, 12, 0, 0, []),
  (23, .istore_n 3, 3, 0, 0, 0, []),
  (24, .aload_n 0, 0, 0, 0, 0, []),
  (25, .iconst 0, 0, 0, 0, 0, []),
  (26, .iload_n 2, 2, 0, 0, 0, []),
  (27, .invokevirtual 310, 3, 12, 0, 0, []),
  (30, .ifCond .eq 29, 59, 0, 0, 0, []),
  (33, .iload_n 3, 3, 0, 0, 0, []),
  (34, .iconst 1, 0, 0, 1, 0, []),
  (35, .if_icmp .eq 24, 59, 0, 0, 0, []),
  (38, .iload_n 3, 3, 0, 0, 0, []),
  (39, .iconst 3, 0, 0, 3, 0, []),
  (40, .if_icmp .eq 19, 59, 0, 0, 0, []),
  (43, .aload_n 0, 0, 0, 0, 0, []),
  (44, .getfield 121, 12, 24, 0, 0, []),
  (47, .bipush 15, 0, 0, 15, 0, []),
  (49, .iload_n 2, 2, 0, 0, 0, []),
  (50, .iadd, 0, 0, 0, 0, []),
  (51, .iaload, 0, 0, 0, 0, []),
  (52, .ifCond .ge 7, 59, 0, 0, 0, []),
  (55, .iconst 1, 0, 0, 1, 0, []),
  (56, .goto 4, 60, 0, 0, 0, []),
  (59, .iconst 0, 0, 0, 0, 0, []),
  (60, .nop, 7, 0, 0, 0, []),
  (60, .istore 4, 4, 0, 0, 0, []),
  (62, .iload 4, 4, 0, 0, 0, []),
  (64, .ifCond .eq 26, 90, 0, 0, 0, []),
  (67, .iload_n 1, 1, 0, 0, 0, []),
  (68, .ifCond .lt 18, 86, 0, 0, 0, []),
  (71, .aload_n 0, 0, 0, 0, 0, []),
  (72, .iload_n 2, 2, 0, 0, 0, []),
  (73, .iconst 2, 0, 0, 2, 0, []),
  (74, .invokevirtual 286, 3, 12, 0, 0, []),
  (77, .aload_n 0, 0, 0, 0, 0, []),
  (78, .iload_n 1, 1, 0, 0, 0, []),
  (79, .iconst 2, 0, 0, 2, 0, []),
  (80, .invokevirtual 286, 3, 12, 0, 0, []),
  (83, .if_icmp .ge 7, 90, 0, 0, 0, []),
  (86, .iload_n 2, 2, 0, 0, 0, []),
  (87, .goto 4, 91, 0, 0, 0, []),
  (90, .iload_n 1, 1, 0, 0, 0, []),
  (91, .istore_n 1, 1, 0, 0, 0, []),
  (92, .iinc 2 1, 2, 0, 1, 0, []),
  (95, .goto (-86), 9, 0, 0, 0, []),
  (98, .iload_n 1, 1, 0, 0, 0, []),
  (99, .ireturn, 0, 0, 0, 0, [])]
noncomputable def e12_tight : XN := [(282, 1, 1, 12, F12_guests), (286, 1, 3, 12, F12_guestOf), (310, 1, 3, 12, F12_isIn)]
noncomputable def h12_tight_9 (n : Nat) (v1 : Int32) (v2 : Int32) (μ : XM) : XR := arr t12_tight e12_tight 1 66 n 9 [some (xr 12 0 0), some (xi v1), some (xi v2), none, none] [] μ
noncomputable def h12_tight_60 (n : Nat) (v1 : Int32) (v2 : Int32) (s0 : Int32) (μ : XM) : XR := arr t12_tight e12_tight 1 66 n 60 [some (xr 12 0 0), some (xi v1), some (xi v2), none, none] [xi s0] μ
set_option maxRecDepth 100000 in
theorem h12_tight_9_s (n : Nat) (v1 : Int32) (v2 : Int32) (μ : XM) : h12_tight_9 (n + 1) v1 v2 μ = (
  bI (f12_guests μ) fun r2 m1 =>
  xite (v2 < r2) (
    bI (f12_guestOf v2 0 m1) fun r4 m3 =>
    vI r4 fun x5 =>
    bI (f12_isIn 0 v2 m3) fun r7 m6 =>
    xite (r7 = 0) (
      h12_tight_60 n v1 v2 0 m6) (
      xite (x5 = 1) (
        h12_tight_60 n v1 v2 0 m6) (
        xite (x5 = 3) (
          h12_tight_60 n v1 v2 0 m6) (
          xck (xin (15 + v2) 1081) <|
          xite ((aI m6 12 0 24 (Int32.toNatClampNeg (15 + v2))) < 0) (
            h12_tight_60 n v1 v2 1 m6) (
            h12_tight_60 n v1 v2 0 m6))))) (
    xri v1 m1)) := rfl
theorem h12_tight_9_0 (v1 : Int32) (v2 : Int32) (μ : XM) : h12_tight_9 0 v1 v2 μ = none := rfl
set_option maxRecDepth 100000 in
theorem h12_tight_60_s (n : Nat) (v1 : Int32) (v2 : Int32) (s0 : Int32) (μ : XM) : h12_tight_60 (n + 1) v1 v2 s0 μ = (
  vI s0 fun x1 =>
  xite (x1 = 0) (
    vI v1 fun x2 =>
    vI (v2 + 1) fun x3 =>
    h12_tight_9 n x2 x3 μ) (
    xite (v1 < 0) (
      vI v2 fun x4 =>
      vI (v2 + 1) fun x5 =>
      h12_tight_9 n x4 x5 μ) (
      bI (f12_guestOf v2 2 μ) fun r7 m6 =>
      bI (f12_guestOf v1 2 m6) fun r9 m8 =>
      xite (r7 < r9) (
        vI v2 fun x10 =>
        vI (v2 + 1) fun x11 =>
        h12_tight_9 n x10 x11 m8) (
        vI v1 fun x12 =>
        vI (v2 + 1) fun x13 =>
        h12_tight_9 n x12 x13 m8)))) := rfl
theorem h12_tight_60_0 (v1 : Int32) (v2 : Int32) (s0 : Int32) (μ : XM) : h12_tight_60 0 v1 v2 s0 μ = none := rfl
noncomputable def k12_tight (n : Nat) (μ : XM) : XR :=
  mS (sI μ 12 0 0 0) fun m1 =>
  vI (-1) fun x2 =>
  vI 0 fun x3 =>
  h12_tight_9 n x2 x3 m1
set_option maxRecDepth 100000 in
theorem q12_tight (n : Nat) (μ : XM) : xrun t12_tight e12_tight (xrtk (some .int)) 66 n (xlo [xr 12 0 0] 5) μ = k12_tight n  μ := rfl
theorem x12_tight : ∃ f : XM → XR, ∀ (μ : XM), f μ = k12_tight 20000  μ := ⟨fun μ => k12_tight 20000  μ, fun μ => rfl⟩
noncomputable def f12_tight : XM → XR := Classical.choose x12_tight
theorem f12_tight_e (μ : XM) : f12_tight μ = k12_tight 20000  μ := Classical.choose_spec x12_tight μ
noncomputable def F12_tight : XF := fun av μ => match av with
  | [.inr (.inr (some (t0, i0, 0)))] => bif Nat.beq t0 12 && Nat.beq i0 0 then f12_tight  μ else none
  | _ => none
set_option maxRecDepth 100000 in
theorem c12_tight {X : XP} (hX : XOK X) (l : Launch) : Ctr X l y12_tight prog_14_method_119_code 5 (some .int) (xrm 2) 0 0 F12_tight :=
  Ctr_of (tab := t12_tight) (env := e12_tight) (K := 66) (N := 20000) (fl := fl12) (cl := cl12) (ll := ll12) (jl := jl12) hX mf12_tight.2.2.2 ⟨by decide +kernel, flk12, clk12, llk12, jlk12⟩
   (List.forall_mem_cons.mpr ⟨xcal_v (na := 0) (c12_guests hX l) mf12_guests ⟨rfl, rfl⟩ ml12_282 mi12_guests me12_guests (xrm_ok (by omega) (by decide)) rfl (by decide) (by decide +kernel), List.forall_mem_cons.mpr ⟨xcal_v (na := 2) (c12_guestOf hX l) mf12_guestOf ⟨rfl, rfl⟩ ml12_286 mi12_guestOf me12_guestOf (xrm_ok (by omega) (by decide)) rfl (by decide) (by decide +kernel), List.forall_mem_cons.mpr ⟨xcal_v (na := 2) (c12_isIn hX l) mf12_isIn ⟨rfl, rfl⟩ ml12_310 mi12_isIn me12_isIn (xrm_ok (by omega) (by decide)) rfl (by decide) (by decide +kernel), fun _ h => absurd h List.not_mem_nil⟩⟩⟩)
   (xrm_1 (by decide)) ⟨_, _, rfl, rfl⟩ (fun av μ r μ' h => by
    unfold F12_tight at h
    split at h
    · replace h := cond_inv h; obtain ⟨hb, h⟩ := h
      simp only [Bool.and_eq_true] at hb
      obtain ⟨g0, g1⟩ := hb
      obtain rfl := Nat.eq_of_beq_eq_true g0
      obtain rfl := Nat.eq_of_beq_eq_true g1
      exact ⟨Nat.le_of_ble_eq_true rfl, (q12_tight _  _).trans ((f12_tight_e  _).symm.trans h)⟩
    · cases h)
def t12_see : List XE := [(0, .aload_n 0, 0, 0, 0, 0, []),
  (1, .iconst 0, 0, 0, 0, 0, []),
  (2, .putfield 1, 12, 0, 0, 0, []),
  (5, .iload_n 1, 1, 0, 0, 0, []),
  (6, .iconst 0, 0, 0, 0, 0, []),
  (7, .bipush 60, 0, 0, 60, 0, []),
  (9, .invokestatic 215, 3, 0, 0, 0, []),
  (12, .ifCond .eq 25, 37, 0, 0, 0, []),
  (15, .iload_n 2, 2, 0, 0, 0, []),
  (16, .iconst 1, 0, 0, 1, 0, []),
  (17, .bipush 20, 0, 0, 20, 0, []),
  (19, .invokestatic 215, 3, 0, 0, 0, []),
  (22, .ifCond .eq 15, 37, 0, 0, 0, []),
  (25, .aload_n 0, 0, 0, 0, 0, []),
  (26, .getfield 121, 12, 24, 0, 0, []),
  (29, .bipush 30, 0, 0, 30, 0, []),
  (31, .iaload, 0, 0, 0, 0, []),
  (32, .bipush 8, 0, 0, 8, 0, []),
  (34, .if_icmp .ne 5, 39, 0, 0, 0, []),
  (37, .iconst 0, 0, 0, 0, 0, []),
  (38, .ireturn, 0, 0, 0, 0, []),
  (39, .bipush 31, 0, 0, 31, 0, []),
  (41, .iconst 2, 0, 0, 2, 0, []),
  (42, .aload_n 0, 0, 0, 0, 0, []),
  (43, .getfield 121, 12, 24, 0, 0, []),
  (46, .bipush 30, 0, 0, 30, 0, []),
  (48, .iaload, 0, 0, 0, 0, []),
  (49, .imul, 0, 0, 0, 0, []),
  (50, .iadd, 0, 0, 0, 0, []),
  (51, .istore_n 3, 3, 0, 0, 0, []),
  (52, .aload_n 0, 0, 0, 0, 0, []),
  (53, .getfield 121, 12, 24, 0, 0, []),
  (56, .iload_n 3, 3, 0, 0, 0, []),
  (57, .iload_n 1, 1, 0, 0, 0, []),
  (58, .iastore, 0, 0, 0, 0, []),
  (59, .aload_n 0, 0, 0, 0, 0, []),
  (60, .getfield 121, 12, 24, 0, 0, []),
  (63, .iload_n 3, 3, 0, 0, 0, []),
  (64, .iconst 1, 0, 0, 1, 0, []),
  (65, .iadd, 0, 0, 0, 0, []),
  (66, .iload_n 2, 2, 0, 0, 0, []),
  (67, .iastore, 0, 0, 0, 0, []),
  (68, .aload_n 0, 0, 0, 0, 0, []),
  (69, .getfield 121, 12, 24, 0, 0, []),
  (72, .bipush 30, 0, 0, 30, 0, []),
  (74, .dup2, 0, 0, 0, 0, []),
  (75, .iaload, 0, 0, 0, 0, []),
  (76, .iconst 1, 0, 0, 1, 0, []),
  (77, .iadd, 0, 0, 0, 0, []),
  (78, .iastore, 0, 0, 0, 0, []),
  (79, .iconst 1, 0, 0, 1, 0, []),
  (80, .ireturn, 0, 0, 0, 0, [])]
noncomputable def e12_see : XN := [(215, 1, 3, 99, F12_within)]
noncomputable def k12_see (p1 : Int32) (p2 : Int32) (μ : XM) : XR :=
  mS (sI μ 12 0 0 0) fun m1 =>
  bI (f12_within p1 0 60 m1) fun r3 m2 =>
  xite (r3 = 0) (
    xrb 0 m2) (
    bI (f12_within p2 1 20 m2) fun r5 m4 =>
    xite (r5 = 0) (
      xrb 0 m4) (
      xck (xin 30 1081) <|
      xite ((aI m4 12 0 24 (Int32.toNatClampNeg 30)) = 8) (
        xrb 0 m4) (
        xck (xin 30 1081) <|
        vI (31 + (2 * (aI m4 12 0 24 (Int32.toNatClampNeg 30)))) fun x6 =>
        xck (xin x6 1081 && true) <|
        mS (pI m4 12 0 24 (Int32.toNatClampNeg x6) p1) fun m7 =>
        xck (xin (x6 + 1) 1081 && true) <|
        mS (pI m7 12 0 24 (Int32.toNatClampNeg (x6 + 1)) p2) fun m8 =>
        xck (xin 30 1081) <|
        xck (xin 30 1081 && true) <|
        mS (pI m8 12 0 24 (Int32.toNatClampNeg 30) ((aI m8 12 0 24 (Int32.toNatClampNeg 30)) + 1)) fun m9 =>
        xrb 1 m9)))
set_option maxRecDepth 100000 in
theorem q12_see (n : Nat) (p1 : Int32) (p2 : Int32) (μ : XM) : xrun t12_see e12_see (xrtk (some .boolean)) 57 n (xlo [xr 12 0 0, xi p1, xi p2] 4) μ = k12_see p1 p2 μ := rfl
theorem x12_see : ∃ f : Int32 → Int32 → XM → XR, ∀ (p1 : Int32) (p2 : Int32) (μ : XM), f p1 p2 μ = k12_see p1 p2 μ := ⟨fun p1 p2 μ => k12_see p1 p2 μ, fun p1 p2 μ => rfl⟩
noncomputable def f12_see : Int32 → Int32 → XM → XR := Classical.choose x12_see
theorem f12_see_e (p1 : Int32) (p2 : Int32) (μ : XM) : f12_see p1 p2 μ = k12_see p1 p2 μ := Classical.choose_spec x12_see p1 p2 μ
noncomputable def F12_see : XF := fun av μ => match av with
  | [.inr (.inr (some (t0, i0, 0))), .inl p1, .inl p2] => bif Nat.beq t0 12 && Nat.beq i0 0 then f12_see p1 p2 μ else none
  | _ => none
set_option maxRecDepth 100000 in
theorem c12_see {X : XP} (hX : XOK X) (l : Launch) : Ctr X l y12_see prog_14_method_120_code 4 (some .boolean) (xrm 2) 0 0 F12_see :=
  Ctr_of (tab := t12_see) (env := e12_see) (K := 57) (N := 20000) (fl := fl12) (cl := cl12) (ll := ll12) (jl := jl12) hX mf12_see.2.2.2 ⟨by decide +kernel, flk12, clk12, llk12, jlk12⟩
   (List.forall_mem_cons.mpr ⟨xcal_s (c12_within hX l) mf12_within ⟨rfl, rfl⟩ ml12_215 ms12_within (xrm_ok (by omega) (by decide)) (by decide +kernel), fun _ h => absurd h List.not_mem_nil⟩)
   (xrm_1 (by decide)) ⟨_, _, rfl, rfl⟩ (fun av μ r μ' h => by
    unfold F12_see at h
    split at h
    · replace h := cond_inv h; obtain ⟨hb, h⟩ := h
      simp only [Bool.and_eq_true] at hb
      obtain ⟨g0, g1⟩ := hb
      obtain rfl := Nat.eq_of_beq_eq_true g0
      obtain rfl := Nat.eq_of_beq_eq_true g1
      exact ⟨Nat.le_of_ble_eq_true rfl, (q12_see _ _ _ _).trans ((f12_see_e _ _ _).symm.trans h)⟩
    · cases h)
def t12_depthsNow : List XE := [(0, .iconst 0, 0, 0, 0, 0, []),
  (1, .istore_n 1, 1, 0, 0, 0, []),
  (2, .nop, 3, 0, 0, 0, []),
  (2, .iload_n 1, 1, 0, 0, 0, []),
  (3, .bipush 10, 0, 0, 10, 0, []),
  (5, .if_icmp .ge 66, 71, 0, 0, 0, []),
  (8, .aload_n 0, 0, 0, 0, 0, []),
  (9, .sipush 987, 0, 0, 987, 0, []),
  (12, .invokevirtual 289, 2, 12, 0, 0, []),
  (15, .aload_n 0, 0, 0, 0, 0, []),
  (16, .getfield 121, 12, 24, 0, 0, []),
  (19, .sipush 988, 0, 0, 988, 0, []),
  (22, .iload_n 1, 1, 0, 0, 0, []),
  (23, .iastore, 0, 0, 0, 0, []),
  (24, .iconst 0, 0, 0, 0, 0, []),
  (25, .istore_n 2, 2, 0, 0, 0, []),
  (26, .nop, 7, 0, 0, 0, []),
  (26, .iload_n 2, 2, 0, 0, 0, []),
  (27, .bipush 20, 0, 0, 20, 0, []),
  (29, .if_icmp .gt 36, 65, 0, 0, 0, []),
  (32, .aload_n 0, 0, 0, 0, 0, []),
  (33, .getfield 140, 12, 32, 0, 0, []),
  (36, .bipush 21, 0, 0, 21, 0, []),
  (38, .iload_n 1, 1, 0, 0, 0, []),
  (39, .imul, 0, 0, 0, 0, []),
  (40, .iload_n 2, 2, 0, 0, 0, []),
  (41, .iadd, 0, 0, 0, 0, []),
  (42, .aload_n 0, 0, 0, 0, 0, []),
  (43, .getfield 121, 12, 24, 0, 0, []),
  (46, .sipush 989, 0, 0, 989, 0, []),
  (49, .iaload, 0, 0, 0, 0, []),
  (50, .iastore, 0, 0, 0, 0, []),
  (51, .aload_n 0, 0, 0, 0, 0, []),
  (52, .sipush 987, 0, 0, 987, 0, []),
  (55, .invokevirtual 379, 2, 12, 0, 0, []),
  (58, .pop, 0, 0, 0, 0, []),
  (59, .iinc 2 1, 2, 0, 1, 0, []),
  (62, .goto (-36), 26, 0, 0, 0, []),
  (65, .iinc 1 1, 1, 0, 1, 0, []),
  (68, .goto (-66), 2, 0, 0, 0, []),
  (71, .return_, 0, 0, 0, 0, [])]
noncomputable def e12_depthsNow : XN := [(289, 0, 2, 12, F12_starts), (379, 1, 2, 12, F12_passes)]
noncomputable def h12_depthsNow_2 (n : Nat) (v1 : Int32) (μ : XM) : XR := arr t12_depthsNow e12_depthsNow 0 46 n 2 [some (xr 12 0 0), some (xi v1), none] [] μ
noncomputable def h12_depthsNow_26 (n : Nat) (v1 : Int32) (v2 : Int32) (μ : XM) : XR := arr t12_depthsNow e12_depthsNow 0 46 n 26 [some (xr 12 0 0), some (xi v1), some (xi v2)] [] μ
set_option maxRecDepth 100000 in
theorem h12_depthsNow_2_s (n : Nat) (v1 : Int32) (μ : XM) : h12_depthsNow_2 (n + 1) v1 μ = (
  xite (v1 < 10) (
    bV (f12_starts 987 μ) fun m1 =>
    xck (xin 988 1081 && true) <|
    mS (pI m1 12 0 24 (Int32.toNatClampNeg 988) v1) fun m2 =>
    vI 0 fun x3 =>
    h12_depthsNow_26 n v1 x3 m2) (
    xrv μ)) := rfl
theorem h12_depthsNow_2_0 (v1 : Int32) (μ : XM) : h12_depthsNow_2 0 v1 μ = none := rfl
set_option maxRecDepth 100000 in
theorem h12_depthsNow_26_s (n : Nat) (v1 : Int32) (v2 : Int32) (μ : XM) : h12_depthsNow_26 (n + 1) v1 v2 μ = (
  xite ((20 : Int32) < v2) (
    vI (v1 + 1) fun x1 =>
    h12_depthsNow_2 n x1 μ) (
    xck (xin 989 1081) <|
    xck (xin ((21 * v1) + v2) 210 && true) <|
    mS (pI μ 12 0 32 (Int32.toNatClampNeg ((21 * v1) + v2)) (aI μ 12 0 24 (Int32.toNatClampNeg 989))) fun m2 =>
    bI (f12_passes 987 m2) fun r4 m3 =>
    vI (v2 + 1) fun x5 =>
    h12_depthsNow_26 n v1 x5 m3)) := rfl
theorem h12_depthsNow_26_0 (v1 : Int32) (v2 : Int32) (μ : XM) : h12_depthsNow_26 0 v1 v2 μ = none := rfl
noncomputable def k12_depthsNow (n : Nat) (μ : XM) : XR :=
  vI 0 fun x1 =>
  h12_depthsNow_2 n x1 μ
set_option maxRecDepth 100000 in
theorem q12_depthsNow (n : Nat) (μ : XM) : xrun t12_depthsNow e12_depthsNow (xrtk none) 46 n (xlo [xr 12 0 0] 3) μ = k12_depthsNow n  μ := rfl
theorem x12_depthsNow : ∃ f : XM → XR, ∀ (μ : XM), f μ = k12_depthsNow 20000  μ := ⟨fun μ => k12_depthsNow 20000  μ, fun μ => rfl⟩
noncomputable def f12_depthsNow : XM → XR := Classical.choose x12_depthsNow
theorem f12_depthsNow_e (μ : XM) : f12_depthsNow μ = k12_depthsNow 20000  μ := Classical.choose_spec x12_depthsNow μ
noncomputable def F12_depthsNow : XF := fun av μ => match av with
  | [.inr (.inr (some (t0, i0, 0)))] => bif Nat.beq t0 12 && Nat.beq i0 0 then f12_depthsNow  μ else none
  | _ => none
set_option maxRecDepth 100000 in
theorem c12_depthsNow {X : XP} (hX : XOK X) (l : Launch) : Ctr X l y12_depthsNow prog_14_method_121_code 3 none (xrm 7) 0 0 F12_depthsNow :=
  Ctr_of (tab := t12_depthsNow) (env := e12_depthsNow) (K := 46) (N := 20000) (fl := fl12) (cl := cl12) (ll := ll12) (jl := jl12) hX mf12_depthsNow.2.2.2 ⟨by decide +kernel, flk12, clk12, llk12, jlk12⟩
   (List.forall_mem_cons.mpr ⟨xcal_v (na := 1) (c12_starts hX l) mf12_starts ⟨rfl, rfl⟩ ml12_289 mi12_starts me12_starts (xrm_ok (by omega) (by decide)) rfl (by decide) (by decide +kernel), List.forall_mem_cons.mpr ⟨xcal_v (na := 1) (c12_passes hX l) mf12_passes ⟨rfl, rfl⟩ ml12_379 mi12_passes me12_passes (xrm_ok (by omega) (by decide)) rfl (by decide) (by decide +kernel), fun _ h => absurd h List.not_mem_nil⟩⟩)
   (xrm_1 (by decide)) ⟨_, _, rfl, rfl⟩ (fun av μ r μ' h => by
    unfold F12_depthsNow at h
    split at h
    · replace h := cond_inv h; obtain ⟨hb, h⟩ := h
      simp only [Bool.and_eq_true] at hb
      obtain ⟨g0, g1⟩ := hb
      obtain rfl := Nat.eq_of_beq_eq_true g0
      obtain rfl := Nat.eq_of_beq_eq_true g1
      exact ⟨Nat.le_of_ble_eq_true rfl, (q12_depthsNow _  _).trans ((f12_depthsNow_e  _).symm.trans h)⟩
    · cases h)
def t12_holesNow : List XE := [(0, .aload_n 0, 0, 0, 0, 0, []),
  (1, .invokevirtual 427, 1, 12, 0, 0, []),
  (4, .iconst 0, 0, 0, 0, 0, []),
  (5, .istore_n 1, 1, 0, 0, 0, []),
  (6, .iconst 0, 0, 0, 0, 0, []),
  (7, .istore_n 2, 2, 0, 0, 0, []),
  (8, .nop, 7, 0, 0, 0, []),
  (8, .iload_n 2, 2, 0, 0, 0, []),
  (9, .bipush 10, 0, 0, 10, 0, []),
  (11, .if_icmp .ge 94, 105, 0, 0, 0, []),
  (14, .iconst 1, 0, 0, 1, 0, []),
  (15, .istore_n 3, 3, 0, 0, 0, []),
  (16, .iconst 0, 0, 0, 0, 0, []),
  (17, .istore 4, 4, 0, 0, 0, []),
  (19, .nop, 31, 0, 0, 0, []),
  (19, .iload 4, 4, 0, 0, 0, []),
  (21, .aload_n 0, 0, 0, 0, 0, []),
  (22, .getfield 121, 12, 24, 0, 0, []),
  (25, .bipush 30, 0, 0, 30, 0, []),
  (27, .iaload, 0, 0, 0, 0, []),
  (28, .if_icmp .ge 57, 85, 0, 0, 0, []),
  (31, .bipush 31, 0, 0, 31, 0, []),
  (33, .iconst 2, 0, 0, 2, 0, []),
  (34, .iload 4, 4, 0, 0, 0, []),
  (36, .imul, 0, 0, 0, 0, []),
  (37, .iadd, 0, 0, 0, 0, []),
  (38, .istore 5, 5, 0, 0, 0, []),
  (40, .iload_n 3, 3, 0, 0, 0, []),
  (41, .ifCond .eq 36, 77, 0, 0, 0, []),
  (44, .aload_n 0, 0, 0, 0, 0, []),
  (45, .getfield 140, 12, 32, 0, 0, []),
  (48, .bipush 21, 0, 0, 21, 0, []),
  (50, .iload_n 2, 2, 0, 0, 0, []),
  (51, .imul, 0, 0, 0, 0, []),
  (52, .aload_n 0, 0, 0, 0, 0, []),
  (53, .getfield 121, 12, 24, 0, 0, []),
  (56, .iload 5, 5, 0, 0, 0, []),
  (58, .iconst 1, 0, 0, 1, 0, []),
  (59, .iadd, 0, 0, 0, 0, []),
  (60, .iaload, 0, 0, 0, 0, []),
  (61, .iadd, 0, 0, 0, 0, []),
  (62, .iaload, 0, 0, 0, 0, []),
  (63, .aload_n 0, 0, 0, 0, 0, []),
  (64, .getfield 121, 12, 24, 0, 0, []),
  (67, .iload 5, 5, 0, 0, 0, []),
  (69, .iaload, 0, 0, 0, 0, []),
  (70, .if_icmp .ne 7, 77, 0, 0, 0, []),
  (73, .iconst 1, 0, 0, 1, 0, []),
  (74, .goto 4, 78, 0, 0, 0, []),
  (77, .iconst 0, 0, 0, 0, 0, []),
  (78, .istore_n 3, 3, 0, 0, 0, []),
  (79, .iinc 4 1, 4, 0, 1, 0, []),
  (82, .goto (-63), 19, 0, 0, 0, []),
  (85, .iload_n 1, 1, 0, 0, 0, []),
  (86, .iload_n 3, 3, 0, 0, 0, []),
  (87, .ifCond .eq 9, 96, 0, 0, 0, []),
  (90, .iconst 1, 0, 0, 1, 0, []),
  (91, .iload_n 2, 2, 0, 0, 0, []),
  (92, .ishl, 0, 0, 0, 0, []),
  (93, .goto 4, 97, 0, 0, 0, []),
  (96, .iconst 0, 0, 0, 0, 0, []),
  (97, .ior, 0, 0, 0, 0, []),
  (98, .istore_n 1, 1, 0, 0, 0, []),
  (99, .iinc 2 1, 2, 0, 1, 0, []),
  (102, .goto (-94), 8, 0, 0, 0, []),
  (105, .iload_n 1, 1, 0, 0, 0, []),
  (106, .ireturn, 0, 0, 0, 0, [])]
noncomputable def e12_holesNow : XN := [(427, 0, 1, 12, F12_depthsNow)]
noncomputable def h12_holesNow_8 (n : Nat) (v1 : Int32) (v2 : Int32) (μ : XM) : XR := arr t12_holesNow e12_holesNow 1 72 n 8 [some (xr 12 0 0), some (xi v1), some (xi v2), none, none, none] [] μ
noncomputable def h12_holesNow_19 (n : Nat) (v1 : Int32) (v2 : Int32) (v3 : Int32) (v4 : Int32) (μ : XM) : XR := arr t12_holesNow e12_holesNow 1 72 n 19 [some (xr 12 0 0), some (xi v1), some (xi v2), some (xi v3), some (xi v4), none] [] μ
set_option maxRecDepth 100000 in
theorem h12_holesNow_8_s (n : Nat) (v1 : Int32) (v2 : Int32) (μ : XM) : h12_holesNow_8 (n + 1) v1 v2 μ = (
  xite (v2 < 10) (
    vI 1 fun x1 =>
    vI 0 fun x2 =>
    h12_holesNow_19 n v1 v2 x1 x2 μ) (
    xri v1 μ)) := rfl
theorem h12_holesNow_8_0 (v1 : Int32) (v2 : Int32) (μ : XM) : h12_holesNow_8 0 v1 v2 μ = none := rfl
set_option maxRecDepth 100000 in
theorem h12_holesNow_19_s (n : Nat) (v1 : Int32) (v2 : Int32) (v3 : Int32) (v4 : Int32) (μ : XM) : h12_holesNow_19 (n + 1) v1 v2 v3 v4 μ = (
  xck (xin 30 1081) <|
  xite (v4 < (aI μ 12 0 24 (Int32.toNatClampNeg 30))) (
    vI (31 + (2 * v4)) fun x1 =>
    xite (v3 = 0) (
      vI 0 fun x2 =>
      vI (v4 + 1) fun x3 =>
      h12_holesNow_19 n v1 v2 x2 x3 μ) (
      xck (xin (x1 + 1) 1081) <|
      xck (xin ((21 * v2) + (aI μ 12 0 24 (Int32.toNatClampNeg (x1 + 1)))) 210) <|
      xck (xin x1 1081) <|
      xite ((aI μ 12 0 32 (Int32.toNatClampNeg ((21 * v2) + (aI μ 12 0 24 (Int32.toNatClampNeg (x1 + 1)))))) = (aI μ 12 0 24 (Int32.toNatClampNeg x1))) (
        vI 1 fun x4 =>
        vI (v4 + 1) fun x5 =>
        h12_holesNow_19 n v1 v2 x4 x5 μ) (
        vI 0 fun x6 =>
        vI (v4 + 1) fun x7 =>
        h12_holesNow_19 n v1 v2 x6 x7 μ))) (
    xite (v3 = 0) (
      vI (v1 ||| 0) fun x8 =>
      vI (v2 + 1) fun x9 =>
      h12_holesNow_8 n x8 x9 μ) (
      vI (v1 ||| (1 <<< (v2 &&& 31))) fun x10 =>
      vI (v2 + 1) fun x11 =>
      h12_holesNow_8 n x10 x11 μ))) := rfl
theorem h12_holesNow_19_0 (v1 : Int32) (v2 : Int32) (v3 : Int32) (v4 : Int32) (μ : XM) : h12_holesNow_19 0 v1 v2 v3 v4 μ = none := rfl
noncomputable def k12_holesNow (n : Nat) (μ : XM) : XR :=
  bV (f12_depthsNow μ) fun m1 =>
  vI 0 fun x2 =>
  vI 0 fun x3 =>
  h12_holesNow_8 n x2 x3 m1
set_option maxRecDepth 100000 in
theorem q12_holesNow (n : Nat) (μ : XM) : xrun t12_holesNow e12_holesNow (xrtk (some .int)) 72 n (xlo [xr 12 0 0] 6) μ = k12_holesNow n  μ := rfl
theorem x12_holesNow : ∃ f : XM → XR, ∀ (μ : XM), f μ = k12_holesNow 20000  μ := ⟨fun μ => k12_holesNow 20000  μ, fun μ => rfl⟩
noncomputable def f12_holesNow : XM → XR := Classical.choose x12_holesNow
theorem f12_holesNow_e (μ : XM) : f12_holesNow μ = k12_holesNow 20000  μ := Classical.choose_spec x12_holesNow μ
noncomputable def F12_holesNow : XF := fun av μ => match av with
  | [.inr (.inr (some (t0, i0, 0)))] => bif Nat.beq t0 12 && Nat.beq i0 0 then f12_holesNow  μ else none
  | _ => none
set_option maxRecDepth 100000 in
theorem c12_holesNow {X : XP} (hX : XOK X) (l : Launch) : Ctr X l y12_holesNow prog_14_method_122_code 6 (some .int) (xrm 8) 0 0 F12_holesNow :=
  Ctr_of (tab := t12_holesNow) (env := e12_holesNow) (K := 72) (N := 20000) (fl := fl12) (cl := cl12) (ll := ll12) (jl := jl12) hX mf12_holesNow.2.2.2 ⟨by decide +kernel, flk12, clk12, llk12, jlk12⟩
   (List.forall_mem_cons.mpr ⟨xcal_v (na := 0) (c12_depthsNow hX l) mf12_depthsNow ⟨rfl, rfl⟩ ml12_427 mi12_depthsNow me12_depthsNow (xrm_ok (by omega) (by decide)) rfl (by decide) (by decide +kernel), fun _ h => absurd h List.not_mem_nil⟩)
   (xrm_1 (by decide)) ⟨_, _, rfl, rfl⟩ (fun av μ r μ' h => by
    unfold F12_holesNow at h
    split at h
    · replace h := cond_inv h; obtain ⟨hb, h⟩ := h
      simp only [Bool.and_eq_true] at hb
      obtain ⟨g0, g1⟩ := hb
      obtain rfl := Nat.eq_of_beq_eq_true g0
      obtain rfl := Nat.eq_of_beq_eq_true g1
      exact ⟨Nat.le_of_ble_eq_true rfl, (q12_holesNow _  _).trans ((f12_holesNow_e  _).symm.trans h)⟩
    · cases h)
def t12_holes : List XE := [(0, .aload_n 0, 0, 0, 0, 0, []),
  (1, .iconst 0, 0, 0, 0, 0, []),
  (2, .putfield 1, 12, 0, 0, 0, []),
  (5, .aload_n 0, 0, 0, 0, 0, []),
  (6, .invokevirtual 430, 1, 12, 0, 0, []),
  (9, .ireturn, 0, 0, 0, 0, [])]
noncomputable def e12_holes : XN := [(430, 1, 1, 12, F12_holesNow)]
noncomputable def k12_holes (μ : XM) : XR :=
  mS (sI μ 12 0 0 0) fun m1 =>
  bI (f12_holesNow m1) fun r3 m2 =>
  xri r3 m2
set_option maxRecDepth 100000 in
theorem q12_holes (n : Nat) (μ : XM) : xrun t12_holes e12_holes (xrtk (some .int)) 11 n (xlo [xr 12 0 0] 1) μ = k12_holes  μ := rfl
theorem x12_holes : ∃ f : XM → XR, ∀ (μ : XM), f μ = k12_holes  μ := ⟨fun μ => k12_holes  μ, fun μ => rfl⟩
noncomputable def f12_holes : XM → XR := Classical.choose x12_holes
theorem f12_holes_e (μ : XM) : f12_holes μ = k12_holes  μ := Classical.choose_spec x12_holes μ
noncomputable def F12_holes : XF := fun av μ => match av with
  | [.inr (.inr (some (t0, i0, 0)))] => bif Nat.beq t0 12 && Nat.beq i0 0 then f12_holes  μ else none
  | _ => none
set_option maxRecDepth 100000 in
theorem c12_holes {X : XP} (hX : XOK X) (l : Launch) : Ctr X l y12_holes prog_14_method_123_code 1 (some .int) (xrm 9) 0 0 F12_holes :=
  Ctr_of (tab := t12_holes) (env := e12_holes) (K := 11) (N := 20000) (fl := fl12) (cl := cl12) (ll := ll12) (jl := jl12) hX mf12_holes.2.2.2 ⟨by decide +kernel, flk12, clk12, llk12, jlk12⟩
   (List.forall_mem_cons.mpr ⟨xcal_v (na := 0) (c12_holesNow hX l) mf12_holesNow ⟨rfl, rfl⟩ ml12_430 mi12_holesNow me12_holesNow (xrm_ok (by omega) (by decide)) rfl (by decide) (by decide +kernel), fun _ h => absurd h List.not_mem_nil⟩)
   (xrm_1 (by decide)) ⟨_, _, rfl, rfl⟩ (fun av μ r μ' h => by
    unfold F12_holes at h
    split at h
    · replace h := cond_inv h; obtain ⟨hb, h⟩ := h
      simp only [Bool.and_eq_true] at hb
      obtain ⟨g0, g1⟩ := hb
      obtain rfl := Nat.eq_of_beq_eq_true g0
      obtain rfl := Nat.eq_of_beq_eq_true g1
      exact ⟨Nat.le_of_ble_eq_true rfl, (q12_holes _  _).trans ((f12_holes_e  _).symm.trans h)⟩
    · cases h)
def t12_look : List XE := [(0, .aload_n 0, 0, 0, 0, 0, []),
  (1, .iconst 0, 0, 0, 0, 0, []),
  (2, .putfield 1, 12, 0, 0, 0, []),
  (5, .aload_n 0, 0, 0, 0, 0, []),
  (6, .invokevirtual 430, 1, 12, 0, 0, []),
  (9, .istore_n 1, 1, 0, 0, 0, []),
  (10, .iconst (-1), 0, 0, (-1), 0, []),
  (11, .istore_n 2, 2, 0, 0, 0, []),
  (12, .iload_n 1, 1, 0, 0, 0, []),
  (13, .invokestatic 347, 1, 0, 0, 0, []),
  (16, .istore_n 3, 3, 0, 0, 0, []),
  (17, .iconst 1, 0, 0, 1, 0, []),
  (18, .istore 4, 4, 0, 0, 0, []),
  (20, .nop, 31, 0, 0, 0, []),
  (20, .iload 4, 4, 0, 0, 0, []),
  (22, .bipush 20, 0, 0, 20, 0, []),
  (24, .if_icmp .gt 127, 151, 0, 0, 0, []),
  (27, .iconst 0, 0, 0, 0, 0, []),
  (28, .istore 5, 5, 0, 0, 0, []),
  (30, .iconst 0, 0, 0, 0, 0, []),
  (31, .istore 6, 6, 0, 0, 0, []),
  (33, .nop, 127, 0, 0, 0, []),
  (33, .iload 6, 6, 0, 0, 0, []),
  (35, .bipush 60, 0, 0, 60, 0, []),
  (37, .if_icmp .gt 82, 119, 0, 0, 0, []),
  (40, .iconst 0, 0, 0, 0, 0, []),
  (41, .istore 7, 7, 0, 0, 0, []),
  (43, .iconst 0, 0, 0, 0, 0, []),
  (44, .istore 8, 8, 0, 0, 0, []),
  (46, .nop, 511, 0, 0, 0, []),
  (46, .iload 8, 8, 0, 0, 0, []),
  (48, .bipush 10, 0, 0, 10, 0, []),
  (50, .if_icmp .ge 47, 97, 0, 0, 0, []),
  (53, .iload 7, 7, 0, 0, 0, []),
  (55, .iload_n 1, 1, 0, 0, 0, []),
  (56, .iload 8, 8, 0, 0, 0, []),
  (58, .ishr, 0, 0, 0, 0, []),
  (59, .iconst 1, 0, 0, 1, 0, []),
  (60, .iand, 0, 0, 0, 0, []),
  (61, .iconst 1, 0, 0, 1, 0, []),
  (62, .if_icmp .ne 25, 87, 0, 0, 0, []),
  (65, .aload_n 0, 0, 0, 0, 0, []),
  (66, .getfield 140, 12, 32, 0, 0, []),
  (69, .bipush 21, 0, 0, 21, 0, []),
  (71, .iload 8, 8, 0, 0, 0, []),
  (73, .imul, 0, 0, 0, 0, []),
  (74, .iload 4, 4, 0, 0, 0, []),
  (76, .iadd, 0, 0, 0, 0, []),
  (77, .iaload, 0, 0, 0, 0, []),
  (78, .iload 6, 6, 0, 0, 0, []),
  (80, .if_icmp .ne 7, 87, 0, 0, 0, []),
  (83, .iconst 1, 0, 0, 1, 0, []),
  (84, .goto 4, 88, 0, 0, 0, []),
  (87, .iconst 0, 0, 0, 0, 0, []),
  (88, .iadd, 0, 0, 0, 0, []),
  (89, .istore 7, 7, 0, 0, 0, []),
  (91, .iinc 8 1, 8, 0, 1, 0, []),
  (94, .goto (-48), 46, 0, 0, 0, []),
  (97, .iload 7, 7, 0, 0, 0, []),
  (99, .iload 5, 5, 0, 0, 0, []),
  (101, .if_icmp .le 8, 109, 0, 0, 0, []),
  (104, .iload 7, 7, 0, 0, 0, []),
  (106, .goto 5, 111, 0, 0, 0, []),
  (109, .iload 5, 5, 0, 0, 0, []),
  (111, .istore 5, 5, 0, 0, 0, []),
  (113, .iinc 6 1, 6, 0, 1, 0, []),
  (116, .goto (-83), 33, 0, 0, 0, []),
  (119, .iload 5, 5, 0, 0, 0, []),
  (121, .iload_n 3, 3, 0, 0, 0, []),
  (122, .if_icmp .ge 8, 130, 0, 0, 0, []),
  (125, .iload 4, 4, 0, 0, 0, []),
  (127, .goto 4, 131, 0, 0, 0, []),
  (130, .iload_n 2, 2, 0, 0, 0, []),
  (131, .nop, 59, 0, 0, 0, []),
  (131, .istore_n 2, 2, 0, 0, 0, []),
  (132, .iload 5, 5, 0, 0, 0, []),
  (134, .iload_n 3, 3, 0, 0, 0, []),
  (135, .if_icmp .ge 8, 143, 0, 0, 0, []),
  (138, .iload 5, 5, 0, 0, 0, []),
  (140, .goto 4, 144, 0, 0, 0, []),
  (143, .iload_n 3, 3, 0, 0, 0, []),
  (144, .istore_n 3, 3, 0, 0, 0, []),
  (145, .iinc 4 1, 4, 0, 1, 0, []),
  (148, .goto (-128), 20, 0, 0, 0, []),
  (151, .iload_n 2, 2, 0, 0, 0, []),
  (152, .ireturn, 0, 0, 0, 0, [])]
noncomputable def e12_look : XN := [(430, 1, 1, 12, F12_holesNow), (347, 1, 1, 99, F12_bits)]
noncomputable def h12_look_20 (n : Nat) (v1 : Int32) (v2 : Int32) (v3 : Int32) (v4 : Int32) (μ : XM) : XR := arr t12_look e12_look 1 91 n 20 [some (xr 12 0 0), some (xi v1), some (xi v2), some (xi v3), some (xi v4), none, none, none, none] [] μ
noncomputable def h12_look_33 (n : Nat) (v1 : Int32) (v2 : Int32) (v3 : Int32) (v4 : Int32) (v5 : Int32) (v6 : Int32) (μ : XM) : XR := arr t12_look e12_look 1 91 n 33 [some (xr 12 0 0), some (xi v1), some (xi v2), some (xi v3), some (xi v4), some (xi v5), some (xi v6), none, none] [] μ
noncomputable def h12_look_46 (n : Nat) (v1 : Int32) (v2 : Int32) (v3 : Int32) (v4 : Int32) (v5 : Int32) (v6 : Int32) (v7 : Int32) (v8 : Int32) (μ : XM) : XR := arr t12_look e12_look 1 91 n 46 [some (xr 12 0 0), some (xi v1), some (xi v2), some (xi v3), some (xi v4), some (xi v5), some (xi v6), some (xi v7), some (xi v8)] [] μ
noncomputable def h12_look_131 (n : Nat) (v1 : Int32) (v3 : Int32) (v4 : Int32) (v5 : Int32) (s0 : Int32) (μ : XM) : XR := arr t12_look e12_look 1 91 n 131 [some (xr 12 0 0), some (xi v1), none, some (xi v3), some (xi v4), some (xi v5), none, none, none] [xi s0] μ
set_option maxRecDepth 100000 in
theorem h12_look_20_s (n : Nat) (v1 : Int32) (v2 : Int32) (v3 : Int32) (v4 : Int32) (μ : XM) : h12_look_20 (n + 1) v1 v2 v3 v4 μ = (
  xite ((20 : Int32) < v4) (
    xri v2 μ) (
    vI 0 fun x1 =>
    vI 0 fun x2 =>
    h12_look_33 n v1 v2 v3 v4 x1 x2 μ)) := rfl
theorem h12_look_20_0 (v1 : Int32) (v2 : Int32) (v3 : Int32) (v4 : Int32) (μ : XM) : h12_look_20 0 v1 v2 v3 v4 μ = none := rfl
set_option maxRecDepth 100000 in
theorem h12_look_33_s (n : Nat) (v1 : Int32) (v2 : Int32) (v3 : Int32) (v4 : Int32) (v5 : Int32) (v6 : Int32) (μ : XM) : h12_look_33 (n + 1) v1 v2 v3 v4 v5 v6 μ = (
  xite ((60 : Int32) < v6) (
    xite (v5 < v3) (
      h12_look_131 n v1 v3 v4 v5 v4 μ) (
      h12_look_131 n v1 v3 v4 v5 v2 μ)) (
    vI 0 fun x1 =>
    vI 0 fun x2 =>
    h12_look_46 n v1 v2 v3 v4 v5 v6 x1 x2 μ)) := rfl
theorem h12_look_33_0 (v1 : Int32) (v2 : Int32) (v3 : Int32) (v4 : Int32) (v5 : Int32) (v6 : Int32) (μ : XM) : h12_look_33 0 v1 v2 v3 v4 v5 v6 μ = none := rfl
set_option maxRecDepth 100000 in
theorem h12_look_46_s (n : Nat) (v1 : Int32) (v2 : Int32) (v3 : Int32) (v4 : Int32) (v5 : Int32) (v6 : Int32) (v7 : Int32) (v8 : Int32) (μ : XM) : h12_look_46 (n + 1) v1 v2 v3 v4 v5 v6 v7 v8 μ = (
  xite (v8 < 10) (
    xite (((v1 >>> (v8 &&& 31)) &&& 1) = 1) (
      xck (xin ((21 * v8) + v4) 210) <|
      xite ((aI μ 12 0 32 (Int32.toNatClampNeg ((21 * v8) + v4))) = v6) (
        vI (v7 + 1) fun x1 =>
        vI (v8 + 1) fun x2 =>
        h12_look_46 n v1 v2 v3 v4 v5 v6 x1 x2 μ) (
        vI (v7 + 0) fun x3 =>
        vI (v8 + 1) fun x4 =>
        h12_look_46 n v1 v2 v3 v4 v5 v6 x3 x4 μ)) (
      vI (v7 + 0) fun x5 =>
      vI (v8 + 1) fun x6 =>
      h12_look_46 n v1 v2 v3 v4 v5 v6 x5 x6 μ)) (
    xite (v5 < v7) (
      vI v7 fun x7 =>
      vI (v6 + 1) fun x8 =>
      h12_look_33 n v1 v2 v3 v4 x7 x8 μ) (
      vI v5 fun x9 =>
      vI (v6 + 1) fun x10 =>
      h12_look_33 n v1 v2 v3 v4 x9 x10 μ))) := rfl
theorem h12_look_46_0 (v1 : Int32) (v2 : Int32) (v3 : Int32) (v4 : Int32) (v5 : Int32) (v6 : Int32) (v7 : Int32) (v8 : Int32) (μ : XM) : h12_look_46 0 v1 v2 v3 v4 v5 v6 v7 v8 μ = none := rfl
set_option maxRecDepth 100000 in
theorem h12_look_131_s (n : Nat) (v1 : Int32) (v3 : Int32) (v4 : Int32) (v5 : Int32) (s0 : Int32) (μ : XM) : h12_look_131 (n + 1) v1 v3 v4 v5 s0 μ = (
  vI s0 fun x1 =>
  xite (v5 < v3) (
    vI v5 fun x2 =>
    vI (v4 + 1) fun x3 =>
    h12_look_20 n v1 x1 x2 x3 μ) (
    vI v3 fun x4 =>
    vI (v4 + 1) fun x5 =>
    h12_look_20 n v1 x1 x4 x5 μ)) := rfl
theorem h12_look_131_0 (v1 : Int32) (v3 : Int32) (v4 : Int32) (v5 : Int32) (s0 : Int32) (μ : XM) : h12_look_131 0 v1 v3 v4 v5 s0 μ = none := rfl
noncomputable def k12_look (n : Nat) (μ : XM) : XR :=
  mS (sI μ 12 0 0 0) fun m1 =>
  bI (f12_holesNow m1) fun r3 m2 =>
  vI r3 fun x4 =>
  vI (-1) fun x5 =>
  bI (f12_bits x4 m2) fun r7 m6 =>
  vI r7 fun x8 =>
  vI 1 fun x9 =>
  h12_look_20 n x4 x5 x8 x9 m6
set_option maxRecDepth 100000 in
theorem q12_look (n : Nat) (μ : XM) : xrun t12_look e12_look (xrtk (some .int)) 91 n (xlo [xr 12 0 0] 9) μ = k12_look n  μ := rfl
theorem x12_look : ∃ f : XM → XR, ∀ (μ : XM), f μ = k12_look 20000  μ := ⟨fun μ => k12_look 20000  μ, fun μ => rfl⟩
noncomputable def f12_look : XM → XR := Classical.choose x12_look
theorem f12_look_e (μ : XM) : f12_look μ = k12_look 20000  μ := Classical.choose_spec x12_look μ
noncomputable def F12_look : XF := fun av μ => match av with
  | [.inr (.inr (some (t0, i0, 0)))] => bif Nat.beq t0 12 && Nat.beq i0 0 then f12_look  μ else none
  | _ => none
set_option maxRecDepth 100000 in
theorem c12_look {X : XP} (hX : XOK X) (l : Launch) : Ctr X l y12_look prog_14_method_124_code 9 (some .int) (xrm 9) 0 0 F12_look :=
  Ctr_of (tab := t12_look) (env := e12_look) (K := 91) (N := 20000) (fl := fl12) (cl := cl12) (ll := ll12) (jl := jl12) hX mf12_look.2.2.2 ⟨by decide +kernel, flk12, clk12, llk12, jlk12⟩
   (List.forall_mem_cons.mpr ⟨xcal_v (na := 0) (c12_holesNow hX l) mf12_holesNow ⟨rfl, rfl⟩ ml12_430 mi12_holesNow me12_holesNow (xrm_ok (by omega) (by decide)) rfl (by decide) (by decide +kernel), List.forall_mem_cons.mpr ⟨xcal_s (c12_bits hX l) mf12_bits ⟨rfl, rfl⟩ ml12_347 ms12_bits (xrm_ok (by omega) (by decide)) (by decide +kernel), fun _ h => absurd h List.not_mem_nil⟩⟩)
   (xrm_1 (by decide)) ⟨_, _, rfl, rfl⟩ (fun av μ r μ' h => by
    unfold F12_look at h
    split at h
    · replace h := cond_inv h; obtain ⟨hb, h⟩ := h
      simp only [Bool.and_eq_true] at hb
      obtain ⟨g0, g1⟩ := hb
      obtain rfl := Nat.eq_of_beq_eq_true g0
      obtain rfl := Nat.eq_of_beq_eq_true g1
      exact ⟨Nat.le_of_ble_eq_true rfl, (q12_look _  _).trans ((f12_look_e  _).symm.trans h)⟩
    · cases h)
def t12_chance : List XE := [(0, .aload_n 0, 0, 0, 0, 0, []),
  (1, .iconst 0, 0, 0, 0, 0, []),
  (2, .putfield 1, 12, 0, 0, 0, []),
  (5, .aload_n 0, 0, 0, 0, 0, []),
  (6, .iload_n 1, 1, 0, 0, 0, []),
  (7, .invokevirtual 353, 2, 12, 0, 0, []),
  (10, .ifCond .eq 23, 33, 0, 0, 0, []),
  (13, .iload_n 2, 2, 0, 0, 0, []),
  (14, .iconst 1, 0, 0, 1, 0, []),
  (15, .bipush 6, 0, 0, 6, 0, []),
  (17, .invokestatic 215, 3, 0, 0, 0, []),
  (20, .ifCond .eq 13, 33, 0, 0, 0, []),
  (23, .iload_n 3, 3, 0, 0, 0, []),
  (24, .iconst 0, 0, 0, 0, 0, []),
  (25, .bipush 10, 0, 0, 10, 0, []),
  (27, .invokestatic 215, 3, 0, 0, 0, []),
  (30, .ifCond .ne 5, 35, 0, 0, 0, []),
  (33, .iconst (-1), 0, 0, (-1), 0, []),
  (34, .ireturn, 0, 0, 0, 0, []),
  (35, .lconst 1, 0, 0, 0, 1, []),
  (36, .lstore 4, 4, 0, 0, 0, []),
  (38, .lconst 0, 0, 0, 0, 0, []),
  (39, .lstore 6, 6, 0, 0, 0, []),
  (41, .iconst 0, 0, 0, 0, 0, []),
  (42, .istore 8, 8, 0, 0, 0, []),
  (44, .nop, 351, 0, 0, 0, []),
  (44, .iload 8, 8, 0, 0, 0, []),
  (46, .iload_n 2, 2, 0, 0, 0, []),
  (47, .if_icmp .ge 17, 64, 0, 0, 0, []),
  (50, .lload 4, 4, 0, 0, 0, []),
  (52, .ldc2_w 166, 0, 0, 0, 10, []),
  (55, .lmul, 0, 0, 0, 0, []),
  (56, .lstore 4, 4, 0, 0, 0, []),
  (58, .iinc 8 1, 8, 0, 1, 0, []),
  (61, .goto (-17), 44, 0, 0, 0, []),
  (64, .iconst 0, 0, 0, 0, 0, []),
  (65, .istore 8, 8, 0, 0, 0, []),
  (67, .nop, 351, 0, 0, 0, []),
  (67, .iload 8, 8, 0, 0, 0, []),
  (69, .iconst 1, 0, 0, 1, 0, []),
  (70, .iload_n 2, 2, 0, 0, 0, []),
  (71, .ishl, 0, 0, 0, 0, []),
  (72, .if_icmp .ge 136, 208, 0, 0, 0, []),
  (75, .aload_n 0, 0, 0, 0, 0, []),
  (76, .invokevirtual 388, 1, 12, 0, 0, []),
  (79, .lconst 1, 0, 0, 0, 1, []),
  (80, .lstore 9, 9, 0, 0, 0, []),
  (82, .iconst 0, 0, 0, 0, 0, []),
  (83, .istore 11, 11, 0, 0, 0, []),
  (85, .nop, 2911, 0, 0, 0, []),
  (85, .iload 11, 11, 0, 0, 0, []),
  (87, .iload_n 2, 2, 0, 0, 0, []),
  (88, .if_icmp .ge 89, 177, 0, 0, 0, []),
  (91, .iload 8, 8, 0, 0, 0, []),
  (93, .iload 11, 11, 0, 0, 0, []),
  (95, .ishr, 0, 0, 0, 0, []),
  (96, .iconst 1, 0, 0, 1, 0, []),
  (97, .iand, 0, 0, 0, 0, []),
  (98, .iconst 1, 0, 0, 1, 0, []),
  (99, .if_icmp .ne 7, 106, 0, 0, 0, []),
  (102, .iconst 1, 0, 0, 1, 0, []),
  (103, .goto 4, 107, 0, 0, 0, []),
  (106, .iconst 0, 0, 0, 0, 0, []),
  (107, .istore 12, 12, 0, 0, 0, []),
  (109, .lload 9, 9, 0, 0, 0, []),
  (111, .iload 12, 12, 0, 0, 0, []),
  (113, .ifCond .eq 8, 121, 0, 0, 0, []),
  (116, .iload_n 3, 3, 0, 0, 0, []),
  (117, .i2l, 0, 0, 0, 0, []),
  (118, .goto 8, 126, 0, 0, 0, []),
  (121, .bipush 10, 0, 0, 10, 0, []),
  (123, .iload_n 3, 3, 0, 0, 0, []),
  (124, .isub, 0, 0, 0, 0, []),
  (125, .i2l, 0, 0, 0, 0, []),
  (126, .nop, 6495, 0, 0, 0, []),
  (126, .lmul, 0, 0, 0, 0, []),
  (127, .lstore 9, 9, 0, 0, 0, []),
  (129, .aload_n 0, 0, 0, 0, 0, []),
  (130, .getfield 121, 12, 24, 0, 0, []),
  (133, .sipush 988, 0, 0, 988, 0, []),
  (136, .dup2, 0, 0, 0, 0, []),
  (137, .iaload, 0, 0, 0, 0, []),
  (138, .iload 12, 12, 0, 0, 0, []),
  (140, .ifCond .eq 20, 160, 0, 0, 0, []),
  (143, .aload_n 0, 0, 0, 0, 0, []),
  (144, .getfield 121, 12, 24, 0, 0, []),
  (147, .sipush 988, 0, 0, 988, 0, []),
  (150, .iaload, 0, 0, 0, 0, []),
  (151, .bipush 9, 0, 0, 9, 0, []),
  (153, .if_icmp .ge 7, 160, 0, 0, 0, []),
  (156, .iconst 1, 0, 0, 1, 0, []),
  (157, .goto 4, 161, 0, 0, 0, []),
  (160, .iconst 0, 0, 0, 0, 0, []),
  (161, .iadd, 0, 0, 0, 0, []),
  (162, .iastore, 0, 0, 0, 0, []),
  (163, .aload_n 0, 0, 0, 0, 0, []),
  (164, .sipush 987, 0, 0, 987, 0, []),
  (167, .invokevirtual 379, 2, 12, 0, 0, []),
  (170, .pop, 0, 0, 0, 0, []),
  (171, .iinc 11 1, 11, 0, 1, 0, []),
  (174, .goto (-89), 85, 0, 0, 0, []),
  (177, .lload 6, 6, 0, 0, 0, []),
  (179, .aload_n 0, 0, 0, 0, 0, []),
  (180, .getfield 121, 12, 24, 0, 0, []),
  (183, .sipush 1008, 0, 0, 1008, 0, []),
  (186, .iload_n 1, 1, 0, 0, 0, []),
  (187, .iadd, 0, 0, 0, 0, []),
  (188, .iaload, 0, 0, 0, 0, []),
  (189, .iconst 2, 0, 0, 2, 0, []),
  (190, .if_icmp .ne 8, 198, 0, 0, 0, []),
  (193, .lload 9, 9, 0, 0, 0, []),
  (195, .goto 4, 199, 0, 0, 0, []),
  (198, .lconst 0, 0, 0, 0, 0, []),
  (199, .ladd, 0, 0, 0, 0, []),
  (200, .lstore 6, 6, 0, 0, 0, []),
  (202, .iinc 8 1, 8, 0, 1, 0, []),
  (205, .goto (-138), 67, 0, 0, 0, []),
  (208, .lload 6, 6, 0, 0, 0, []),
  (210, .ldc2_w 433, 0, 0, 0, 1000000, []),
  (213, .lmul, 0, 0, 0, 0, []),
  (214, .lload 4, 4, 0, 0, 0, []),
  (216, .ldiv, 0, 0, 0, 0, []),
  (217, .l2i, 0, 0, 0, 0, []),
  (218, .ireturn, 0, 0, 0, 0, [])]
noncomputable def e12_chance : XN := [(353, 1, 2, 12, F12_isGuest), (215, 1, 3, 99, F12_within), (388, 0, 1, 12, F12_triesNow), (379, 1, 2, 12, F12_passes)]
noncomputable def h12_chance_44 (n : Nat) (v1 : Int32) (v2 : Int32) (v3 : Int32) (v4 : Int64) (v6 : Int64) (v8 : Int32) (μ : XM) : XR := arr t12_chance e12_chance 1 129 n 44 [some (xr 12 0 0), some (xi v1), some (xi v2), some (xi v3), some (xl v4), none, some (xl v6), none, some (xi v8), none, none, none, none] [] μ
noncomputable def h12_chance_67 (n : Nat) (v1 : Int32) (v2 : Int32) (v3 : Int32) (v4 : Int64) (v6 : Int64) (v8 : Int32) (μ : XM) : XR := arr t12_chance e12_chance 1 129 n 67 [some (xr 12 0 0), some (xi v1), some (xi v2), some (xi v3), some (xl v4), none, some (xl v6), none, some (xi v8), none, none, none, none] [] μ
noncomputable def h12_chance_85 (n : Nat) (v1 : Int32) (v2 : Int32) (v3 : Int32) (v4 : Int64) (v6 : Int64) (v8 : Int32) (v9 : Int64) (v11 : Int32) (μ : XM) : XR := arr t12_chance e12_chance 1 129 n 85 [some (xr 12 0 0), some (xi v1), some (xi v2), some (xi v3), some (xl v4), none, some (xl v6), none, some (xi v8), some (xl v9), none, some (xi v11), none] [] μ
noncomputable def h12_chance_126 (n : Nat) (v1 : Int32) (v2 : Int32) (v3 : Int32) (v4 : Int64) (v6 : Int64) (v8 : Int32) (v11 : Int32) (v12 : Int32) (s0 : Int64) (s1 : Int64) (μ : XM) : XR := arr t12_chance e12_chance 1 129 n 126 [some (xr 12 0 0), some (xi v1), some (xi v2), some (xi v3), some (xl v4), none, some (xl v6), none, some (xi v8), none, none, some (xi v11), some (xi v12)] [xl s0, xl s1] μ
set_option maxRecDepth 100000 in
theorem h12_chance_44_s (n : Nat) (v1 : Int32) (v2 : Int32) (v3 : Int32) (v4 : Int64) (v6 : Int64) (v8 : Int32) (μ : XM) : h12_chance_44 (n + 1) v1 v2 v3 v4 v6 v8 μ = (
  xite (v8 < v2) (
    vL (v4 * 10) fun x1 =>
    vI (v8 + 1) fun x2 =>
    h12_chance_44 n v1 v2 v3 x1 v6 x2 μ) (
    vI 0 fun x3 =>
    h12_chance_67 n v1 v2 v3 v4 v6 x3 μ)) := rfl
theorem h12_chance_44_0 (v1 : Int32) (v2 : Int32) (v3 : Int32) (v4 : Int64) (v6 : Int64) (v8 : Int32) (μ : XM) : h12_chance_44 0 v1 v2 v3 v4 v6 v8 μ = none := rfl
set_option maxRecDepth 100000 in
theorem h12_chance_67_s (n : Nat) (v1 : Int32) (v2 : Int32) (v3 : Int32) (v4 : Int64) (v6 : Int64) (v8 : Int32) (μ : XM) : h12_chance_67 (n + 1) v1 v2 v3 v4 v6 v8 μ = (
  xite (v8 < (1 <<< (v2 &&& 31))) (
    bV (f12_triesNow μ) fun m1 =>
    vL 1 fun x2 =>
    vI 0 fun x3 =>
    h12_chance_85 n v1 v2 v3 v4 v6 v8 x2 x3 m1) (
    xite ((v4 : Int64) = 0) none <|
    xri (Int64.toInt32 ((v6 * 1000000) / v4)) μ)) := rfl
theorem h12_chance_67_0 (v1 : Int32) (v2 : Int32) (v3 : Int32) (v4 : Int64) (v6 : Int64) (v8 : Int32) (μ : XM) : h12_chance_67 0 v1 v2 v3 v4 v6 v8 μ = none := rfl
set_option maxRecDepth 100000 in
theorem h12_chance_85_s (n : Nat) (v1 : Int32) (v2 : Int32) (v3 : Int32) (v4 : Int64) (v6 : Int64) (v8 : Int32) (v9 : Int64) (v11 : Int32) (μ : XM) : h12_chance_85 (n + 1) v1 v2 v3 v4 v6 v8 v9 v11 μ = (
  xite (v11 < v2) (
    xite (((v8 >>> (v11 &&& 31)) &&& 1) = 1) (
      vI 1 fun x1 =>
      xite (x1 = 0) (
        h12_chance_126 n v1 v2 v3 v4 v6 v8 v11 x1 (Int32.toInt64 (10 - v3)) v9 μ) (
        h12_chance_126 n v1 v2 v3 v4 v6 v8 v11 x1 (Int32.toInt64 v3) v9 μ)) (
      vI 0 fun x2 =>
      xite (x2 = 0) (
        h12_chance_126 n v1 v2 v3 v4 v6 v8 v11 x2 (Int32.toInt64 (10 - v3)) v9 μ) (
        h12_chance_126 n v1 v2 v3 v4 v6 v8 v11 x2 (Int32.toInt64 v3) v9 μ))) (
    xck (xin (1008 + v1) 1081) <|
    xite ((aI μ 12 0 24 (Int32.toNatClampNeg (1008 + v1))) = 2) (
      vL (v6 + v9) fun x3 =>
      vI (v8 + 1) fun x4 =>
      h12_chance_67 n v1 v2 v3 v4 x3 x4 μ) (
      vL (v6 + 0) fun x5 =>
      vI (v8 + 1) fun x6 =>
      h12_chance_67 n v1 v2 v3 v4 x5 x6 μ))) := rfl
theorem h12_chance_85_0 (v1 : Int32) (v2 : Int32) (v3 : Int32) (v4 : Int64) (v6 : Int64) (v8 : Int32) (v9 : Int64) (v11 : Int32) (μ : XM) : h12_chance_85 0 v1 v2 v3 v4 v6 v8 v9 v11 μ = none := rfl
set_option maxRecDepth 100000 in
theorem h12_chance_126_s (n : Nat) (v1 : Int32) (v2 : Int32) (v3 : Int32) (v4 : Int64) (v6 : Int64) (v8 : Int32) (v11 : Int32) (v12 : Int32) (s0 : Int64) (s1 : Int64) (μ : XM) : h12_chance_126 (n + 1) v1 v2 v3 v4 v6 v8 v11 v12 s0 s1 μ = (
  vL (s1 * s0) fun x1 =>
  xck (xin 988 1081) <|
  xite (v12 = 0) (
    xck (xin 988 1081 && true) <|
    mS (pI μ 12 0 24 (Int32.toNatClampNeg 988) ((aI μ 12 0 24 (Int32.toNatClampNeg 988)) + 0)) fun m2 =>
    bI (f12_passes 987 m2) fun r4 m3 =>
    vI (v11 + 1) fun x5 =>
    h12_chance_85 n v1 v2 v3 v4 v6 v8 x1 x5 m3) (
    xck (xin 988 1081) <|
    xite ((aI μ 12 0 24 (Int32.toNatClampNeg 988)) < 9) (
      xck (xin 988 1081 && true) <|
      mS (pI μ 12 0 24 (Int32.toNatClampNeg 988) ((aI μ 12 0 24 (Int32.toNatClampNeg 988)) + 1)) fun m6 =>
      bI (f12_passes 987 m6) fun r8 m7 =>
      vI (v11 + 1) fun x9 =>
      h12_chance_85 n v1 v2 v3 v4 v6 v8 x1 x9 m7) (
      xck (xin 988 1081 && true) <|
      mS (pI μ 12 0 24 (Int32.toNatClampNeg 988) ((aI μ 12 0 24 (Int32.toNatClampNeg 988)) + 0)) fun m10 =>
      bI (f12_passes 987 m10) fun r12 m11 =>
      vI (v11 + 1) fun x13 =>
      h12_chance_85 n v1 v2 v3 v4 v6 v8 x1 x13 m11))) := rfl
theorem h12_chance_126_0 (v1 : Int32) (v2 : Int32) (v3 : Int32) (v4 : Int64) (v6 : Int64) (v8 : Int32) (v11 : Int32) (v12 : Int32) (s0 : Int64) (s1 : Int64) (μ : XM) : h12_chance_126 0 v1 v2 v3 v4 v6 v8 v11 v12 s0 s1 μ = none := rfl
noncomputable def k12_chance (n : Nat) (p1 : Int32) (p2 : Int32) (p3 : Int32) (μ : XM) : XR :=
  mS (sI μ 12 0 0 0) fun m1 =>
  bI (f12_isGuest p1 m1) fun r3 m2 =>
  xite (r3 = 0) (
    xri (-1) m2) (
    bI (f12_within p2 1 6 m2) fun r5 m4 =>
    xite (r5 = 0) (
      xri (-1) m4) (
      bI (f12_within p3 0 10 m4) fun r7 m6 =>
      xite (r7 = 0) (
        xri (-1) m6) (
        vL 1 fun x8 =>
        vL 0 fun x9 =>
        vI 0 fun x10 =>
        h12_chance_44 n p1 p2 p3 x8 x9 x10 m6)))
set_option maxRecDepth 100000 in
theorem q12_chance (n : Nat) (p1 : Int32) (p2 : Int32) (p3 : Int32) (μ : XM) : xrun t12_chance e12_chance (xrtk (some .int)) 129 n (xlo [xr 12 0 0, xi p1, xi p2, xi p3] 13) μ = k12_chance n p1 p2 p3 μ := rfl
theorem x12_chance : ∃ f : Int32 → Int32 → Int32 → XM → XR, ∀ (p1 : Int32) (p2 : Int32) (p3 : Int32) (μ : XM), f p1 p2 p3 μ = k12_chance 20000 p1 p2 p3 μ := ⟨fun p1 p2 p3 μ => k12_chance 20000 p1 p2 p3 μ, fun p1 p2 p3 μ => rfl⟩
noncomputable def f12_chance : Int32 → Int32 → Int32 → XM → XR := Classical.choose x12_chance
theorem f12_chance_e (p1 : Int32) (p2 : Int32) (p3 : Int32) (μ : XM) : f12_chance p1 p2 p3 μ = k12_chance 20000 p1 p2 p3 μ := Classical.choose_spec x12_chance p1 p2 p3 μ
noncomputable def F12_chance : XF := fun av μ => match av with
  | [.inr (.inr (some (t0, i0, 0))), .inl p1, .inl p2, .inl p3] => bif Nat.beq t0 12 && Nat.beq i0 0 then f12_chance p1 p2 p3 μ else none
  | _ => none
set_option maxRecDepth 100000 in
theorem c12_chance {X : XP} (hX : XOK X) (l : Launch) : Ctr X l y12_chance prog_14_method_125_code 13 (some .int) (xrm 7) 0 0 F12_chance :=
  Ctr_of (tab := t12_chance) (env := e12_chance) (K := 129) (N := 20000) (fl := fl12) (cl := cl12) (ll := ll12) (jl := jl12) hX mf12_chance.2.2.2 ⟨by decide +kernel, flk12, clk12, llk12, jlk12⟩
   (List.forall_mem_cons.mpr ⟨xcal_v (na := 1) (c12_isGuest hX l) mf12_isGuest ⟨rfl, rfl⟩ ml12_353 mi12_isGuest me12_isGuest (xrm_ok (by omega) (by decide)) rfl (by decide) (by decide +kernel), List.forall_mem_cons.mpr ⟨xcal_s (c12_within hX l) mf12_within ⟨rfl, rfl⟩ ml12_215 ms12_within (xrm_ok (by omega) (by decide)) (by decide +kernel), List.forall_mem_cons.mpr ⟨xcal_v (na := 0) (c12_triesNow hX l) mf12_triesNow ⟨rfl, rfl⟩ ml12_388 mi12_triesNow me12_triesNow (xrm_ok (by omega) (by decide)) rfl (by decide) (by decide +kernel), List.forall_mem_cons.mpr ⟨xcal_v (na := 1) (c12_passes hX l) mf12_passes ⟨rfl, rfl⟩ ml12_379 mi12_passes me12_passes (xrm_ok (by omega) (by decide)) rfl (by decide) (by decide +kernel), fun _ h => absurd h List.not_mem_nil⟩⟩⟩⟩)
   (xrm_1 (by decide)) ⟨_, _, rfl, rfl⟩ (fun av μ r μ' h => by
    unfold F12_chance at h
    split at h
    · replace h := cond_inv h; obtain ⟨hb, h⟩ := h
      simp only [Bool.and_eq_true] at hb
      obtain ⟨g0, g1⟩ := hb
      obtain rfl := Nat.eq_of_beq_eq_true g0
      obtain rfl := Nat.eq_of_beq_eq_true g1
      exact ⟨Nat.le_of_ble_eq_true rfl, (q12_chance _ _ _ _ _).trans ((f12_chance_e _ _ _ _).symm.trans h)⟩
    · cases h)
def t12_getsBy : List XE := [(0, .iload_n 0, 0, 0, 0, 0, []),
  (1, .iconst 1, 0, 0, 1, 0, []),
  (2, .if_icmp .ne 17, 19, 0, 0, 0, []),
  (5, .iload_n 1, 1, 0, 0, 0, []),
  (6, .iconst 1, 0, 0, 1, 0, []),
  (7, .if_icmp .ne 8, 15, 0, 0, 0, []),
  (10, .iload_n 2, 2, 0, 0, 0, []),
  (11, .ineg, 0, 0, 0, 0, []),
  (12, .goto 18, 30, 0, 0, 0, []),
  (15, .iload_n 3, 3, 0, 0, 0, []),
  (16, .goto 14, 30, 0, 0, 0, []),
  (19, .iload_n 1, 1, 0, 0, 0, []),
  (20, .iconst 1, 0, 0, 1, 0, []),
  (21, .if_icmp .ne 8, 29, 0, 0, 0, []),
  (24, .iload 4, 4, 0, 0, 0, []),
  (26, .goto 4, 30, 0, 0, 0, []),
  (29, .iconst 0, 0, 0, 0, 0, []),
  (30, .ireturn, 0, 0, 0, 0, [])]
noncomputable def e12_getsBy : XN := []
noncomputable def k12_getsBy (p0 : Int32) (p1 : Int32) (p2 : Int32) (p3 : Int32) (p4 : Int32) (μ : XM) : XR :=
  xite (p0 = 1) (
    xite (p1 = 1) (
      xri (-p2) μ) (
      xri p3 μ)) (
    xite (p1 = 1) (
      xri p4 μ) (
      xri 0 μ))
set_option maxRecDepth 100000 in
theorem q12_getsBy (n : Nat) (p0 : Int32) (p1 : Int32) (p2 : Int32) (p3 : Int32) (p4 : Int32) (μ : XM) : xrun t12_getsBy e12_getsBy (xrtk (some .int)) 23 n (xlo [xi p0, xi p1, xi p2, xi p3, xi p4] 5) μ = k12_getsBy p0 p1 p2 p3 p4 μ := rfl
theorem x12_getsBy : ∃ f : Int32 → Int32 → Int32 → Int32 → Int32 → XM → XR, ∀ (p0 : Int32) (p1 : Int32) (p2 : Int32) (p3 : Int32) (p4 : Int32) (μ : XM), f p0 p1 p2 p3 p4 μ = k12_getsBy p0 p1 p2 p3 p4 μ := ⟨fun p0 p1 p2 p3 p4 μ => k12_getsBy p0 p1 p2 p3 p4 μ, fun p0 p1 p2 p3 p4 μ => rfl⟩
noncomputable def f12_getsBy : Int32 → Int32 → Int32 → Int32 → Int32 → XM → XR := Classical.choose x12_getsBy
theorem f12_getsBy_e (p0 : Int32) (p1 : Int32) (p2 : Int32) (p3 : Int32) (p4 : Int32) (μ : XM) : f12_getsBy p0 p1 p2 p3 p4 μ = k12_getsBy p0 p1 p2 p3 p4 μ := Classical.choose_spec x12_getsBy p0 p1 p2 p3 p4 μ
noncomputable def F12_getsBy : XF := fun av μ => match av with
  | [.inl p0, .inl p1, .inl p2, .inl p3, .inl p4] => f12_getsBy p0 p1 p2 p3 p4 μ
  | _ => none
set_option maxRecDepth 100000 in
theorem c12_getsBy {X : XP} (hX : XOK X) (l : Launch) : Ctr X l y12_getsBy prog_14_method_126_code 5 (some .int) (xrm 1) 0 0 F12_getsBy :=
  Ctr_of (tab := t12_getsBy) (env := e12_getsBy) (K := 23) (N := 20000) (fl := fl12) (cl := cl12) (ll := ll12) (jl := jl12) hX mf12_getsBy.2.2.2 ⟨by decide +kernel, flk12, clk12, llk12, jlk12⟩
   (fun _ h => absurd h List.not_mem_nil)
   (xrm_1 (by decide)) ⟨_, _, rfl, rfl⟩ (fun av μ r μ' h => by
    unfold F12_getsBy at h
    split at h
    · exact ⟨Nat.le_of_ble_eq_true rfl, (q12_getsBy _ _ _ _ _ _ _).trans ((f12_getsBy_e _ _ _ _ _ _).symm.trans h)⟩
    · cases h)
def t12_rests : List XE := [(0, .iload_n 1, 1, 0, 0, 0, []),
  (1, .iconst 0, 0, 0, 0, 0, []),
  (2, .bipush 9, 0, 0, 9, 0, []),
  (4, .invokestatic 215, 3, 0, 0, 0, []),
  (7, .ifCond .eq 33, 40, 0, 0, 0, []),
  (10, .iload_n 2, 2, 0, 0, 0, []),
  (11, .iconst 0, 0, 0, 0, 0, []),
  (12, .bipush 9, 0, 0, 9, 0, []),
  (14, .invokestatic 215, 3, 0, 0, 0, []),
  (17, .ifCond .eq 23, 40, 0, 0, 0, []),
  (20, .iload_n 3, 3, 0, 0, 0, []),
  (21, .iconst 0, 0, 0, 0, 0, []),
  (22, .bipush 9, 0, 0, 9, 0, []),
  (24, .invokestatic 215, 3, 0, 0, 0, []),
  (27, .ifCond .eq 13, 40, 0, 0, 0, []),
  (30, .iload 4, 4, 0, 0, 0, []),
  (32, .iconst (-1), 0, 0, (-1), 0, []),
  (33, .if_icmp .lt 7, 40, 0, 0, 0, []),
  (36, .iconst 1, 0, 0, 1, 0, []),
  (37, .goto 4, 41, 0, 0, 0, []),
  (40, .iconst 0, 0, 0, 0, 0, []),
  (41, .istore 5, 5, 0, 0, 0, []),
  (43, .iconst 0, 0, 0, 0, 0, []),
  (44, .istore 6, 6, 0, 0, 0, []),
  (46, .iconst (-1), 0, 0, (-1), 0, []),
  (47, .istore 7, 7, 0, 0, 0, []),
  (49, .iconst 0, 0, 0, 0, 0, []),
  (50, .istore 8, 8, 0, 0, 0, []),
  (52, .nop, 511, 0, 0, 0, []),
  (52, .iload 8, 8, 0, 0, 0, []),
  (54, .iconst 4, 0, 0, 4, 0, []),
  (55, .if_icmp .ge 119, 174, 0, 0, 0, []),
  (58, .iload 5, 5, 0, 0, 0, []),
  (60, .ifCond .eq 114, 174, 0, 0, 0, []),
  (63, .iload 8, 8, 0, 0, 0, []),
  (65, .iconst 2, 0, 0, 2, 0, []),
  (66, .idiv, 0, 0, 0, 0, []),
  (67, .istore 9, 9, 0, 0, 0, []),
  (69, .iload 8, 8, 0, 0, 0, []),
  (71, .iconst 2, 0, 0, 2, 0, []),
  (72, .irem, 0, 0, 0, 0, []),
  (73, .istore 10, 10, 0, 0, 0, []),
  (75, .iconst 1, 0, 0, 1, 0, []),
  (76, .iload 9, 9, 0, 0, 0, []),
  (78, .isub, 0, 0, 0, 0, []),
  (79, .iload 10, 10, 0, 0, 0, []),
  (81, .iload_n 1, 1, 0, 0, 0, []),
  (82, .iload_n 2, 2, 0, 0, 0, []),
  (83, .iload_n 3, 3, 0, 0, 0, []),
  (84, .invokestatic 435, 5, 0, 0, 0, []),
  (87, .iload 9, 9, 0, 0, 0, []),
  (89, .iload 10, 10, 0, 0, 0, []),
  (91, .iload_n 1, 1, 0, 0, 0, []),
  (92, .iload_n 2, 2, 0, 0, 0, []),
  (93, .iload_n 3, 3, 0, 0, 0, []),
  (94, .invokestatic 435, 5, 0, 0, 0, []),
  (97, .if_icmp .gt 32, 129, 0, 0, 0, []),
  (100, .iconst 1, 0, 0, 1, 0, []),
  (101, .iload 10, 10, 0, 0, 0, []),
  (103, .isub, 0, 0, 0, 0, []),
  (104, .iload 9, 9, 0, 0, 0, []),
  (106, .iload_n 1, 1, 0, 0, 0, []),
  (107, .iload_n 2, 2, 0, 0, 0, []),
  (108, .iload_n 3, 3, 0, 0, 0, []),
  (109, .invokestatic 435, 5, 0, 0, 0, []),
  (112, .iload 10, 10, 0, 0, 0, []),
  (114, .iload 9, 9, 0, 0, 0, []),
  (116, .iload_n 1, 1, 0, 0, 0, []),
  (117, .iload_n 2, 2, 0, 0, 0, []),
  (118, .iload_n 3, 3, 0, 0, 0, []),
  (119, .invokestatic 435, 5, 0, 0, 0, []),
  (122, .if_icmp .gt 7, 129, 0, 0, 0, []),
  (125, .iconst 1, 0, 0, 1, 0, []),
  (126, .goto 4, 130, 0, 0, 0, []),
  (129, .iconst 0, 0, 0, 0, 0, []),
  (130, .istore 11, 11, 0, 0, 0, []),
  (132, .iload 11, 11, 0, 0, 0, []),
  (134, .ifCond .eq 15, 149, 0, 0, 0, []),
  (137, .iload 6, 6, 0, 0, 0, []),
  (139, .iload 4, 4, 0, 0, 0, []),
  (141, .if_icmp .ne 8, 149, 0, 0, 0, []),
  (144, .iload 8, 8, 0, 0, 0, []),
  (146, .goto 5, 151, 0, 0, 0, []),
  (149, .iload 7, 7, 0, 0, 0, []),
  (151, .nop, 2431, 0, 0, 0, []),
  (151, .istore 7, 7, 0, 0, 0, []),
  (153, .iload 6, 6, 0, 0, 0, []),
  (155, .iload 11, 11, 0, 0, 0, []),
  (157, .ifCond .eq 7, 164, 0, 0, 0, []),
  (160, .iconst 1, 0, 0, 1, 0, []),
  (161, .goto 4, 165, 0, 0, 0, []),
  (164, .iconst 0, 0, 0, 0, 0, []),
  (165, .iadd, 0, 0, 0, 0, []),
  (166, .istore 6, 6, 0, 0, 0, []),
  (168, .iinc 8 1, 8, 0, 1, 0, []),
  (171, .goto (-119), 52, 0, 0, 0, []),
  (174, .aload_n 0, 0, 0, 0, 0, []),
  (175, .iload 5, 5, 0, 0, 0, []),
  (177, .ifCond .eq 17, 194, 0, 0, 0, []),
  (180, .iload 4, 4, 0, 0, 0, []),
  (182, .ifCond .lt 8, 190, 0, 0, 0, []),
  (185, .iload 7, 7, 0, 0, 0, []),
  (187, .ifCond .lt 7, 194, 0, 0, 0, []),
  (190, .nop, 209, 0, 0, 0, []),
  (190, .iconst 0, 0, 0, 0, 0, []),
  (191, .goto 4, 195, 0, 0, 0, []),
  (194, .nop, 209, 0, 0, 0, []),
  (194, .iconst 1, 0, 0, 1, 0, []),
  (195, .putfield 1, 12, 0, 0, 0, []),
  (198, .aload_n 0, 0, 0, 0, 0, []),
  (199, .getfield 1, 12, 0, 0, 0, []),
  (202, .ifCond .le 7, 209, 0, 0, 0, []),
  (205, .iconst 0, 0, 0, 0, 0, []),
  (206, .goto 15, 221, 0, 0, 0, []),
  (209, .iload 4, 4, 0, 0, 0, []),
  (211, .ifCond .ge 8, 219, 0, 0, 0, []),
  (214, .iload 6, 6, 0, 0, 0, []),
  (216, .goto 5, 221, 0, 0, 0, []),
  (219, .iload 7, 7, 0, 0, 0, []),
  (221, .ireturn, 0, 0, 0, 0, [])]
noncomputable def e12_rests : XN := [(215, 1, 3, 99, F12_within), (435, 1, 5, 99, F12_getsBy)]
noncomputable def h12_rests_52 (n : Nat) (v1 : Int32) (v2 : Int32) (v3 : Int32) (v4 : Int32) (v5 : Int32) (v6 : Int32) (v7 : Int32) (v8 : Int32) (μ : XM) : XR := arr t12_rests e12_rests 1 125 n 52 [some (xr 12 0 0), some (xi v1), some (xi v2), some (xi v3), some (xi v4), some (xi v5), some (xi v6), some (xi v7), some (xi v8), none, none, none] [] μ
noncomputable def h12_rests_151 (n : Nat) (v1 : Int32) (v2 : Int32) (v3 : Int32) (v4 : Int32) (v5 : Int32) (v6 : Int32) (v8 : Int32) (v11 : Int32) (s0 : Int32) (μ : XM) : XR := arr t12_rests e12_rests 1 125 n 151 [some (xr 12 0 0), some (xi v1), some (xi v2), some (xi v3), some (xi v4), some (xi v5), some (xi v6), none, some (xi v8), none, none, some (xi v11)] [xi s0] μ
noncomputable def h12_rests_190 (n : Nat) (v4 : Int32) (v6 : Int32) (v7 : Int32) (μ : XM) : XR := arr t12_rests e12_rests 1 125 n 190 [some (xr 12 0 0), none, none, none, some (xi v4), none, some (xi v6), some (xi v7), none, none, none, none] [xr 12 0 0] μ
noncomputable def h12_rests_194 (n : Nat) (v4 : Int32) (v6 : Int32) (v7 : Int32) (μ : XM) : XR := arr t12_rests e12_rests 1 125 n 194 [some (xr 12 0 0), none, none, none, some (xi v4), none, some (xi v6), some (xi v7), none, none, none, none] [xr 12 0 0] μ
set_option maxRecDepth 100000 in
theorem h12_rests_52_s (n : Nat) (v1 : Int32) (v2 : Int32) (v3 : Int32) (v4 : Int32) (v5 : Int32) (v6 : Int32) (v7 : Int32) (v8 : Int32) (μ : XM) : h12_rests_52 (n + 1) v1 v2 v3 v4 v5 v6 v7 v8 μ = (
  xite (v8 < 4) (
    xite (v5 = 0) (
      xite (v5 = 0) (
        h12_rests_194 n v4 v6 v7 μ) (
        xite (v4 < 0) (
          h12_rests_190 n v4 v6 v7 μ) (
          xite (v7 < 0) (
            h12_rests_194 n v4 v6 v7 μ) (
            h12_rests_190 n v4 v6 v7 μ)))) (
      xite ((2 : Int32) = 0) none <|
      vI (v8 / 2) fun x1 =>
      xite ((2 : Int32) = 0) none <|
      vI (v8 - v8 / 2 * 2) fun x2 =>
      bI (f12_getsBy (1 - x1) x2 v1 v2 v3 μ) fun r4 m3 =>
      bI (f12_getsBy x1 x2 v1 v2 v3 m3) fun r6 m5 =>
      xite (r6 < r4) (
        vI 0 fun x7 =>
        xite (x7 = 0) (
          h12_rests_151 n v1 v2 v3 v4 v5 v6 v8 x7 v7 m5) (
          xite (v6 = v4) (
            h12_rests_151 n v1 v2 v3 v4 v5 v6 v8 x7 v8 m5) (
            h12_rests_151 n v1 v2 v3 v4 v5 v6 v8 x7 v7 m5))) (
        bI (f12_getsBy (1 - x2) x1 v1 v2 v3 m5) fun r9 m8 =>
        bI (f12_getsBy x2 x1 v1 v2 v3 m8) fun r11 m10 =>
        xite (r11 < r9) (
          vI 0 fun x12 =>
          xite (x12 = 0) (
            h12_rests_151 n v1 v2 v3 v4 v5 v6 v8 x12 v7 m10) (
            xite (v6 = v4) (
              h12_rests_151 n v1 v2 v3 v4 v5 v6 v8 x12 v8 m10) (
              h12_rests_151 n v1 v2 v3 v4 v5 v6 v8 x12 v7 m10))) (
          vI 1 fun x13 =>
          xite (x13 = 0) (
            h12_rests_151 n v1 v2 v3 v4 v5 v6 v8 x13 v7 m10) (
            xite (v6 = v4) (
              h12_rests_151 n v1 v2 v3 v4 v5 v6 v8 x13 v8 m10) (
              h12_rests_151 n v1 v2 v3 v4 v5 v6 v8 x13 v7 m10)))))) (
    xite (v5 = 0) (
      h12_rests_194 n v4 v6 v7 μ) (
      xite (v4 < 0) (
        h12_rests_190 n v4 v6 v7 μ) (
        xite (v7 < 0) (
          h12_rests_194 n v4 v6 v7 μ) (
          h12_rests_190 n v4 v6 v7 μ))))) := rfl
theorem h12_rests_52_0 (v1 : Int32) (v2 : Int32) (v3 : Int32) (v4 : Int32) (v5 : Int32) (v6 : Int32) (v7 : Int32) (v8 : Int32) (μ : XM) : h12_rests_52 0 v1 v2 v3 v4 v5 v6 v7 v8 μ = none := rfl
set_option maxRecDepth 100000 in
theorem h12_rests_151_s (n : Nat) (v1 : Int32) (v2 : Int32) (v3 : Int32) (v4 : Int32) (v5 : Int32) (v6 : Int32) (v8 : Int32) (v11 : Int32) (s0 : Int32) (μ : XM) : h12_rests_151 (n + 1) v1 v2 v3 v4 v5 v6 v8 v11 s0 μ = (
  vI s0 fun x1 =>
  xite (v11 = 0) (
    vI (v6 + 0) fun x2 =>
    vI (v8 + 1) fun x3 =>
    h12_rests_52 n v1 v2 v3 v4 v5 x2 x1 x3 μ) (
    vI (v6 + 1) fun x4 =>
    vI (v8 + 1) fun x5 =>
    h12_rests_52 n v1 v2 v3 v4 v5 x4 x1 x5 μ)) := rfl
theorem h12_rests_151_0 (v1 : Int32) (v2 : Int32) (v3 : Int32) (v4 : Int32) (v5 : Int32) (v6 : Int32) (v8 : Int32) (v11 : Int32) (s0 : Int32) (μ : XM) : h12_rests_151 0 v1 v2 v3 v4 v5 v6 v8 v11 s0 μ = none := rfl
set_option maxRecDepth 100000 in
theorem h12_rests_190_s (n : Nat) (v4 : Int32) (v6 : Int32) (v7 : Int32) (μ : XM) : h12_rests_190 (n + 1) v4 v6 v7 μ = (
  mS (sI μ 12 0 0 0) fun m1 =>
  xite ((0 : Int32) < (rI m1 12 0 0)) (
    xri 0 m1) (
    xite (v4 < 0) (
      xri v6 m1) (
      xri v7 m1))) := rfl
theorem h12_rests_190_0 (v4 : Int32) (v6 : Int32) (v7 : Int32) (μ : XM) : h12_rests_190 0 v4 v6 v7 μ = none := rfl
set_option maxRecDepth 100000 in
theorem h12_rests_194_s (n : Nat) (v4 : Int32) (v6 : Int32) (v7 : Int32) (μ : XM) : h12_rests_194 (n + 1) v4 v6 v7 μ = (
  mS (sI μ 12 0 0 1) fun m1 =>
  xite ((0 : Int32) < (rI m1 12 0 0)) (
    xri 0 m1) (
    xite (v4 < 0) (
      xri v6 m1) (
      xri v7 m1))) := rfl
theorem h12_rests_194_0 (v4 : Int32) (v6 : Int32) (v7 : Int32) (μ : XM) : h12_rests_194 0 v4 v6 v7 μ = none := rfl
noncomputable def k12_rests (n : Nat) (p1 : Int32) (p2 : Int32) (p3 : Int32) (p4 : Int32) (μ : XM) : XR :=
  bI (f12_within p1 0 9 μ) fun r2 m1 =>
  xite (r2 = 0) (
    vI 0 fun x3 =>
    vI 0 fun x4 =>
    vI (-1) fun x5 =>
    vI 0 fun x6 =>
    h12_rests_52 n p1 p2 p3 p4 x3 x4 x5 x6 m1) (
    bI (f12_within p2 0 9 m1) fun r8 m7 =>
    xite (r8 = 0) (
      vI 0 fun x9 =>
      vI 0 fun x10 =>
      vI (-1) fun x11 =>
      vI 0 fun x12 =>
      h12_rests_52 n p1 p2 p3 p4 x9 x10 x11 x12 m7) (
      bI (f12_within p3 0 9 m7) fun r14 m13 =>
      xite (r14 = 0) (
        vI 0 fun x15 =>
        vI 0 fun x16 =>
        vI (-1) fun x17 =>
        vI 0 fun x18 =>
        h12_rests_52 n p1 p2 p3 p4 x15 x16 x17 x18 m13) (
        xite (p4 < (-1)) (
          vI 0 fun x19 =>
          vI 0 fun x20 =>
          vI (-1) fun x21 =>
          vI 0 fun x22 =>
          h12_rests_52 n p1 p2 p3 p4 x19 x20 x21 x22 m13) (
          vI 1 fun x23 =>
          vI 0 fun x24 =>
          vI (-1) fun x25 =>
          vI 0 fun x26 =>
          h12_rests_52 n p1 p2 p3 p4 x23 x24 x25 x26 m13))))
set_option maxRecDepth 100000 in
theorem q12_rests (n : Nat) (p1 : Int32) (p2 : Int32) (p3 : Int32) (p4 : Int32) (μ : XM) : xrun t12_rests e12_rests (xrtk (some .int)) 125 n (xlo [xr 12 0 0, xi p1, xi p2, xi p3, xi p4] 12) μ = k12_rests n p1 p2 p3 p4 μ := rfl
theorem x12_rests : ∃ f : Int32 → Int32 → Int32 → Int32 → XM → XR, ∀ (p1 : Int32) (p2 : Int32) (p3 : Int32) (p4 : Int32) (μ : XM), f p1 p2 p3 p4 μ = k12_rests 20000 p1 p2 p3 p4 μ := ⟨fun p1 p2 p3 p4 μ => k12_rests 20000 p1 p2 p3 p4 μ, fun p1 p2 p3 p4 μ => rfl⟩
noncomputable def f12_rests : Int32 → Int32 → Int32 → Int32 → XM → XR := Classical.choose x12_rests
theorem f12_rests_e (p1 : Int32) (p2 : Int32) (p3 : Int32) (p4 : Int32) (μ : XM) : f12_rests p1 p2 p3 p4 μ = k12_rests 20000 p1 p2 p3 p4 μ := Classical.choose_spec x12_rests p1 p2 p3 p4 μ
noncomputable def F12_rests : XF := fun av μ => match av with
  | [.inr (.inr (some (t0, i0, 0))), .inl p1, .inl p2, .inl p3, .inl p4] => bif Nat.beq t0 12 && Nat.beq i0 0 then f12_rests p1 p2 p3 p4 μ else none
  | _ => none
set_option maxRecDepth 100000 in
theorem c12_rests {X : XP} (hX : XOK X) (l : Launch) : Ctr X l y12_rests prog_14_method_127_code 12 (some .int) (xrm 2) 0 0 F12_rests :=
  Ctr_of (tab := t12_rests) (env := e12_rests) (K := 125) (N := 20000) (fl := fl12) (cl := cl12) (ll := ll12) (jl := jl12) hX mf12_rests.2.2.2 ⟨by decide +kernel, flk12, clk12, llk12, jlk12⟩
   (List.forall_mem_cons.mpr ⟨xcal_s (c12_within hX l) mf12_within ⟨rfl, rfl⟩ ml12_215 ms12_within (xrm_ok (by omega) (by decide)) (by decide +kernel), List.forall_mem_cons.mpr ⟨xcal_s (c12_getsBy hX l) mf12_getsBy ⟨rfl, rfl⟩ ml12_435 ms12_getsBy (xrm_ok (by omega) (by decide)) (by decide +kernel), fun _ h => absurd h List.not_mem_nil⟩⟩)
   (xrm_1 (by decide)) ⟨_, _, rfl, rfl⟩ (fun av μ r μ' h => by
    unfold F12_rests at h
    split at h
    · replace h := cond_inv h; obtain ⟨hb, h⟩ := h
      simp only [Bool.and_eq_true] at hb
      obtain ⟨g0, g1⟩ := hb
      obtain rfl := Nat.eq_of_beq_eq_true g0
      obtain rfl := Nat.eq_of_beq_eq_true g1
      exact ⟨Nat.le_of_ble_eq_true rfl, (q12_rests _ _ _ _ _ _).trans ((f12_rests_e _ _ _ _ _).symm.trans h)⟩
    · cases h)
def t12_draw : List XE := [(0, .aload_n 0, 0, 0, 0, 0, []),
  (1, .aload_n 0, 0, 0, 0, 0, []),
  (2, .getfield 439, 12, 33, 0, 0, []),
  (5, .ldc2_w 443, 0, 0, 0, 1103515245, []),
  (8, .lmul, 0, 0, 0, 0, []),
  (9, .ldc2_w 445, 0, 0, 0, 12345, []),
  (12, .ladd, 0, 0, 0, 0, []),
  (13, .ldc2_w 447, 0, 0, 0, 2147483648, []),
  (16, .lrem, 0, 0, 0, 0, []),
  (17, .putfield 439, 12, 33, 0, 0, []),
  (20, .aload_n 0, 0, 0, 0, 0, []),
  (21, .getfield 439, 12, 33, 0, 0, []),
  (24, .ldc2_w 449, 0, 0, 0, 65536, []),
  (27, .ldiv, 0, 0, 0, 0, []),
  (28, .iload_n 1, 1, 0, 0, 0, []),
  (29, .i2l, 0, 0, 0, 0, []),
  (30, .lrem, 0, 0, 0, 0, []),
  (31, .l2i, 0, 0, 0, 0, []),
  (32, .ireturn, 0, 0, 0, 0, [])]
noncomputable def e12_draw : XN := []
noncomputable def k12_draw (p1 : Int32) (μ : XM) : XR :=
  xite ((2147483648 : Int64) = 0) none <|
  mS (sL μ 12 0 33 ((((rL μ 12 0 33) * 1103515245) + 12345) - (((rL μ 12 0 33) * 1103515245) + 12345) / 2147483648 * 2147483648)) fun m1 =>
  xite ((65536 : Int64) = 0) none <|
  xite (((Int32.toInt64 p1) : Int64) = 0) none <|
  xri (Int64.toInt32 (((rL m1 12 0 33) / 65536) - ((rL m1 12 0 33) / 65536) / (Int32.toInt64 p1) * (Int32.toInt64 p1))) m1
set_option maxRecDepth 100000 in
theorem q12_draw (n : Nat) (p1 : Int32) (μ : XM) : xrun t12_draw e12_draw (xrtk (some .int)) 24 n (xlo [xr 12 0 0, xi p1] 2) μ = k12_draw p1 μ := rfl
theorem x12_draw : ∃ f : Int32 → XM → XR, ∀ (p1 : Int32) (μ : XM), f p1 μ = k12_draw p1 μ := ⟨fun p1 μ => k12_draw p1 μ, fun p1 μ => rfl⟩
noncomputable def f12_draw : Int32 → XM → XR := Classical.choose x12_draw
theorem f12_draw_e (p1 : Int32) (μ : XM) : f12_draw p1 μ = k12_draw p1 μ := Classical.choose_spec x12_draw p1 μ
noncomputable def F12_draw : XF := fun av μ => match av with
  | [.inr (.inr (some (t0, i0, 0))), .inl p1] => bif Nat.beq t0 12 && Nat.beq i0 0 then f12_draw p1 μ else none
  | _ => none
set_option maxRecDepth 100000 in
theorem c12_draw {X : XP} (hX : XOK X) (l : Launch) : Ctr X l y12_draw prog_14_method_128_code 2 (some .int) (xrm 1) 0 0 F12_draw :=
  Ctr_of (tab := t12_draw) (env := e12_draw) (K := 24) (N := 20000) (fl := fl12) (cl := cl12) (ll := ll12) (jl := jl12) hX mf12_draw.2.2.2 ⟨by decide +kernel, flk12, clk12, llk12, jlk12⟩
   (fun _ h => absurd h List.not_mem_nil)
   (xrm_1 (by decide)) ⟨_, _, rfl, rfl⟩ (fun av μ r μ' h => by
    unfold F12_draw at h
    split at h
    · replace h := cond_inv h; obtain ⟨hb, h⟩ := h
      simp only [Bool.and_eq_true] at hb
      obtain ⟨g0, g1⟩ := hb
      obtain rfl := Nat.eq_of_beq_eq_true g0
      obtain rfl := Nat.eq_of_beq_eq_true g1
      exact ⟨Nat.le_of_ble_eq_true rfl, (q12_draw _ _ _).trans ((f12_draw_e _ _).symm.trans h)⟩
    · cases h)
def t12_drawsDeed : List XE := [(0, .aload_n 0, 0, 0, 0, 0, []),
  (1, .aload_n 0, 0, 0, 0, 0, []),
  (2, .invokevirtual 301, 1, 12, 0, 0, []),
  (5, .invokevirtual 451, 2, 12, 0, 0, []),
  (8, .istore_n 1, 1, 0, 0, 0, []),
  (9, .aload_n 0, 0, 0, 0, 0, []),
  (10, .aload_n 0, 0, 0, 0, 0, []),
  (11, .invokevirtual 298, 1, 12, 0, 0, []),
  (14, .invokevirtual 451, 2, 12, 0, 0, []),
  (17, .istore_n 2, 2, 0, 0, 0, []),
  (18, .aload_n 0, 0, 0, 0, 0, []),
  (19, .aload_n 0, 0, 0, 0, 0, []),
  (20, .invokevirtual 282, 1, 12, 0, 0, []),
  (23, .invokevirtual 451, 2, 12, 0, 0, []),
  (26, .istore_n 3, 3, 0, 0, 0, []),
  (27, .aload_n 0, 0, 0, 0, 0, []),
  (28, .iconst 5, 0, 0, 5, 0, []),
  (29, .invokevirtual 451, 2, 12, 0, 0, []),
  (32, .istore 4, 4, 0, 0, 0, []),
  (34, .iload 4, 4, 0, 0, 0, []),
  (36, .ifCond .ne 35, 71, 0, 0, 0, []),
  (39, .aload_n 0, 0, 0, 0, 0, []),
  (40, .getfield 121, 12, 24, 0, 0, []),
  (43, .sipush 1035, 0, 0, 1035, 0, []),
  (46, .dup2, 0, 0, 0, 0, []),
  (47, .iaload, 0, 0, 0, 0, []),
  (48, .aload_n 0, 0, 0, 0, 0, []),
  (49, .getfield 121, 12, 24, 0, 0, []),
  (52, .sipush 1035, 0, 0, 1035, 0, []),
  (55, .iaload, 0, 0, 0, 0, []),
  (56, .bipush 9, 0, 0, 9, 0, []),
  (58, .if_icmp .ge 7, 65, 0, 0, 0, []),
  (61, .iconst 1, 0, 0, 1, 0, []),
  (62, .goto 4, 66, 0, 0, 0, []),
  (65, .iconst 0, 0, 0, 0, 0, []),
  (66, .iadd, 0, 0, 0, 0, []),
  (67, .iastore, 0, 0, 0, 0, []),
  (68, .goto 68, 136, 0, 0, 0, []),
  (71, .iload 4, 4, 0, 0, 0, []),
  (73, .iconst 1, 0, 0, 1, 0, []),
  (74, .if_icmp .ne 25, 99, 0, 0, 0, []),
  (77, .aload_n 0, 0, 0, 0, 0, []),
  (78, .sipush 1034, 0, 0, 1034, 0, []),
  (81, .iload_n 1, 1, 0, 0, 0, []),
  (82, .invokevirtual 373, 3, 12, 0, 0, []),
  (85, .ifCond .eq 14, 99, 0, 0, 0, []),
  (88, .aload_n 0, 0, 0, 0, 0, []),
  (89, .sipush 1034, 0, 0, 1034, 0, []),
  (92, .iload_n 1, 1, 0, 0, 0, []),
  (93, .invokevirtual 376, 3, 12, 0, 0, []),
  (96, .goto 40, 136, 0, 0, 0, []),
  (99, .iload 4, 4, 0, 0, 0, []),
  (101, .iconst 2, 0, 0, 2, 0, []),
  (102, .if_icmp .eq 9, 111, 0, 0, 0, []),
  (105, .iload 4, 4, 0, 0, 0, []),
  (107, .iconst 3, 0, 0, 3, 0, []),
  (108, .if_icmp .ne 28, 136, 0, 0, 0, []),
  (111, .nop, 15, 0, 0, 0, []),
  (111, .aload_n 0, 0, 0, 0, 0, []),
  (112, .sipush 1034, 0, 0, 1034, 0, []),
  (115, .iload_n 1, 1, 0, 0, 0, []),
  (116, .iload_n 2, 2, 0, 0, 0, []),
  (117, .iload_n 3, 3, 0, 0, 0, []),
  (118, .invokevirtual 362, 5, 12, 0, 0, []),
  (121, .ifCond .eq 15, 136, 0, 0, 0, []),
  (124, .aload_n 0, 0, 0, 0, 0, []),
  (125, .sipush 1034, 0, 0, 1034, 0, []),
  (128, .iload_n 1, 1, 0, 0, 0, []),
  (129, .iload_n 2, 2, 0, 0, 0, []),
  (130, .iload_n 3, 3, 0, 0, 0, []),
  (131, .invokevirtual 369, 5, 12, 0, 0, []),
  (134, .iconst 1, 0, 0, 1, 0, []),
  (135, .ireturn, 0, 0, 0, 0, []),
  (136, .iconst 0, 0, 0, 0, 0, []),
  (137, .ireturn, 0, 0, 0, 0, [])]
noncomputable def e12_drawsDeed : XN := [(301, 1, 1, 12, F12_men), (451, 1, 2, 12, F12_draw), (298, 1, 1, 12, F12_belts), (282, 1, 1, 12, F12_guests), (373, 1, 3, 12, F12_mayStop), (376, 0, 3, 12, F12_stops), (362, 1, 5, 12, F12_mayCast), (369, 0, 5, 12, F12_casts)]
noncomputable def h12_drawsDeed_111 (n : Nat) (v1 : Int32) (v2 : Int32) (v3 : Int32) (μ : XM) : XR := arr t12_drawsDeed e12_drawsDeed 2 80 n 111 [some (xr 12 0 0), some (xi v1), some (xi v2), some (xi v3), none] [] μ
set_option maxRecDepth 100000 in
theorem h12_drawsDeed_111_s (n : Nat) (v1 : Int32) (v2 : Int32) (v3 : Int32) (μ : XM) : h12_drawsDeed_111 (n + 1) v1 v2 v3 μ = (
  bI (f12_mayCast 1034 v1 v2 v3 μ) fun r2 m1 =>
  xite (r2 = 0) (
    xrb 0 m1) (
    bV (f12_casts 1034 v1 v2 v3 m1) fun m3 =>
    xrb 1 m3)) := rfl
theorem h12_drawsDeed_111_0 (v1 : Int32) (v2 : Int32) (v3 : Int32) (μ : XM) : h12_drawsDeed_111 0 v1 v2 v3 μ = none := rfl
noncomputable def k12_drawsDeed (n : Nat) (μ : XM) : XR :=
  bI (f12_men μ) fun r2 m1 =>
  bI (f12_draw r2 m1) fun r4 m3 =>
  vI r4 fun x5 =>
  bI (f12_belts m3) fun r7 m6 =>
  bI (f12_draw r7 m6) fun r9 m8 =>
  vI r9 fun x10 =>
  bI (f12_guests m8) fun r12 m11 =>
  bI (f12_draw r12 m11) fun r14 m13 =>
  vI r14 fun x15 =>
  bI (f12_draw 5 m13) fun r17 m16 =>
  vI r17 fun x18 =>
  xite (x18 = 0) (
    xck (xin 1035 1081) <|
    xck (xin 1035 1081) <|
    xite ((aI m16 12 0 24 (Int32.toNatClampNeg 1035)) < 9) (
      xck (xin 1035 1081 && true) <|
      mS (pI m16 12 0 24 (Int32.toNatClampNeg 1035) ((aI m16 12 0 24 (Int32.toNatClampNeg 1035)) + 1)) fun m19 =>
      xrb 0 m19) (
      xck (xin 1035 1081 && true) <|
      mS (pI m16 12 0 24 (Int32.toNatClampNeg 1035) ((aI m16 12 0 24 (Int32.toNatClampNeg 1035)) + 0)) fun m20 =>
      xrb 0 m20)) (
    xite (x18 = 1) (
      bI (f12_mayStop 1034 x5 m16) fun r22 m21 =>
      xite (r22 = 0) (
        xite (x18 = 2) (
          h12_drawsDeed_111 n x5 x10 x15 m21) (
          xite (x18 = 3) (
            h12_drawsDeed_111 n x5 x10 x15 m21) (
            xrb 0 m21))) (
        bV (f12_stops 1034 x5 m21) fun m23 =>
        xrb 0 m23)) (
      xite (x18 = 2) (
        h12_drawsDeed_111 n x5 x10 x15 m16) (
        xite (x18 = 3) (
          h12_drawsDeed_111 n x5 x10 x15 m16) (
          xrb 0 m16))))
set_option maxRecDepth 100000 in
theorem q12_drawsDeed (n : Nat) (μ : XM) : xrun t12_drawsDeed e12_drawsDeed (xrtk (some .boolean)) 80 n (xlo [xr 12 0 0] 5) μ = k12_drawsDeed n  μ := rfl
theorem x12_drawsDeed : ∃ f : XM → XR, ∀ (μ : XM), f μ = k12_drawsDeed 20000  μ := ⟨fun μ => k12_drawsDeed 20000  μ, fun μ => rfl⟩
noncomputable def f12_drawsDeed : XM → XR := Classical.choose x12_drawsDeed
theorem f12_drawsDeed_e (μ : XM) : f12_drawsDeed μ = k12_drawsDeed 20000  μ := Classical.choose_spec x12_drawsDeed μ
noncomputable def F12_drawsDeed : XF := fun av μ => match av with
  | [.inr (.inr (some (t0, i0, 0)))] => bif Nat.beq t0 12 && Nat.beq i0 0 then f12_drawsDeed  μ else none
  | _ => none
set_option maxRecDepth 100000 in
theorem c12_drawsDeed {X : XP} (hX : XOK X) (l : Launch) : Ctr X l y12_drawsDeed prog_14_method_129_code 5 (some .boolean) (xrm 5) 0 0 F12_drawsDeed :=
  Ctr_of (tab := t12_drawsDeed) (env := e12_drawsDeed) (K := 80) (N := 20000) (fl := fl12) (cl := cl12) (ll := ll12) (jl := jl12) hX mf12_drawsDeed.2.2.2 ⟨by decide +kernel, flk12, clk12, llk12, jlk12⟩
   (List.forall_mem_cons.mpr ⟨xcal_v (na := 0) (c12_men hX l) mf12_men ⟨rfl, rfl⟩ ml12_301 mi12_men me12_men (xrm_ok (by omega) (by decide)) rfl (by decide) (by decide +kernel), List.forall_mem_cons.mpr ⟨xcal_v (na := 1) (c12_draw hX l) mf12_draw ⟨rfl, rfl⟩ ml12_451 mi12_draw me12_draw (xrm_ok (by omega) (by decide)) rfl (by decide) (by decide +kernel), List.forall_mem_cons.mpr ⟨xcal_v (na := 0) (c12_belts hX l) mf12_belts ⟨rfl, rfl⟩ ml12_298 mi12_belts me12_belts (xrm_ok (by omega) (by decide)) rfl (by decide) (by decide +kernel), List.forall_mem_cons.mpr ⟨xcal_v (na := 0) (c12_guests hX l) mf12_guests ⟨rfl, rfl⟩ ml12_282 mi12_guests me12_guests (xrm_ok (by omega) (by decide)) rfl (by decide) (by decide +kernel), List.forall_mem_cons.mpr ⟨xcal_v (na := 2) (c12_mayStop hX l) mf12_mayStop ⟨rfl, rfl⟩ ml12_373 mi12_mayStop me12_mayStop (xrm_ok (by omega) (by decide)) rfl (by decide) (by decide +kernel), List.forall_mem_cons.mpr ⟨xcal_v (na := 2) (c12_stops hX l) mf12_stops ⟨rfl, rfl⟩ ml12_376 mi12_stops me12_stops (xrm_ok (by omega) (by decide)) rfl (by decide) (by decide +kernel), List.forall_mem_cons.mpr ⟨xcal_v (na := 4) (c12_mayCast hX l) mf12_mayCast ⟨rfl, rfl⟩ ml12_362 mi12_mayCast me12_mayCast (xrm_ok (by omega) (by decide)) rfl (by decide) (by decide +kernel), List.forall_mem_cons.mpr ⟨xcal_v (na := 4) (c12_casts hX l) mf12_casts ⟨rfl, rfl⟩ ml12_369 mi12_casts me12_casts (xrm_ok (by omega) (by decide)) rfl (by decide) (by decide +kernel), fun _ h => absurd h List.not_mem_nil⟩⟩⟩⟩⟩⟩⟩⟩)
   (xrm_1 (by decide)) ⟨_, _, rfl, rfl⟩ (fun av μ r μ' h => by
    unfold F12_drawsDeed at h
    split at h
    · replace h := cond_inv h; obtain ⟨hb, h⟩ := h
      simp only [Bool.and_eq_true] at hb
      obtain ⟨g0, g1⟩ := hb
      obtain rfl := Nat.eq_of_beq_eq_true g0
      obtain rfl := Nat.eq_of_beq_eq_true g1
      exact ⟨Nat.le_of_ble_eq_true rfl, (q12_drawsDeed _  _).trans ((f12_drawsDeed_e  _).symm.trans h)⟩
    · cases h)
def t12_balls : List XE := [(0, .aload_n 0, 0, 0, 0, 0, []),
  (1, .iconst 0, 0, 0, 0, 0, []),
  (2, .putfield 1, 12, 0, 0, 0, []),
  (5, .iload_n 1, 1, 0, 0, 0, []),
  (6, .iconst 0, 0, 0, 0, 0, []),
  (7, .sipush 9999, 0, 0, 9999, 0, []),
  (10, .invokestatic 215, 3, 0, 0, 0, []),
  (13, .ifCond .eq 22, 35, 0, 0, 0, []),
  (16, .iload_n 2, 2, 0, 0, 0, []),
  (17, .iconst 1, 0, 0, 1, 0, []),
  (18, .bipush 99, 0, 0, 99, 0, []),
  (20, .invokestatic 215, 3, 0, 0, 0, []),
  (23, .ifCond .eq 12, 35, 0, 0, 0, []),
  (26, .iload_n 3, 3, 0, 0, 0, []),
  (27, .iconst 0, 0, 0, 0, 0, []),
  (28, .iconst 2, 0, 0, 2, 0, []),
  (29, .invokestatic 215, 3, 0, 0, 0, []),
  (32, .ifCond .ne 5, 37, 0, 0, 0, []),
  (35, .iconst (-1), 0, 0, (-1), 0, []),
  (36, .ireturn, 0, 0, 0, 0, []),
  (37, .aload_n 0, 0, 0, 0, 0, []),
  (38, .iconst 0, 0, 0, 0, 0, []),
  (39, .sipush 1034, 0, 0, 1034, 0, []),
  (42, .bipush 30, 0, 0, 30, 0, []),
  (44, .invokevirtual 295, 4, 12, 0, 0, []),
  (47, .aload_n 0, 0, 0, 0, 0, []),
  (48, .iload_n 1, 1, 0, 0, 0, []),
  (49, .i2l, 0, 0, 0, 0, []),
  (50, .putfield 439, 12, 33, 0, 0, []),
  (53, .iconst 0, 0, 0, 0, 0, []),
  (54, .istore 4, 4, 0, 0, 0, []),
  (56, .iconst 0, 0, 0, 0, 0, []),
  (57, .istore 5, 5, 0, 0, 0, []),
  (59, .nop, 61, 0, 0, 0, []),
  (59, .iload 5, 5, 0, 0, 0, []),
  (61, .iload_n 2, 2, 0, 0, 0, []),
  (62, .if_icmp .ge 55, 117, 0, 0, 0, []),
  (65, .iload 4, 4, 0, 0, 0, []),
  (67, .aload_n 0, 0, 0, 0, 0, []),
  (68, .invokevirtual 301, 1, 12, 0, 0, []),
  (71, .ifCond .le 28, 99, 0, 0, 0, []),
  (74, .aload_n 0, 0, 0, 0, 0, []),
  (75, .invokevirtual 282, 1, 12, 0, 0, []),
  (78, .ifCond .le 21, 99, 0, 0, 0, []),
  (81, .aload_n 0, 0, 0, 0, 0, []),
  (82, .invokevirtual 298, 1, 12, 0, 0, []),
  (85, .ifCond .le 14, 99, 0, 0, 0, []),
  (88, .aload_n 0, 0, 0, 0, 0, []),
  (89, .invokevirtual 454, 1, 12, 0, 0, []),
  (92, .ifCond .eq 7, 99, 0, 0, 0, []),
  (95, .iconst 1, 0, 0, 1, 0, []),
  (96, .goto 4, 100, 0, 0, 0, []),
  (99, .iconst 0, 0, 0, 0, 0, []),
  (100, .iadd, 0, 0, 0, 0, []),
  (101, .istore 4, 4, 0, 0, 0, []),
  (103, .aload_n 0, 0, 0, 0, 0, []),
  (104, .sipush 1034, 0, 0, 1034, 0, []),
  (107, .invokevirtual 379, 2, 12, 0, 0, []),
  (110, .pop, 0, 0, 0, 0, []),
  (111, .iinc 5 1, 5, 0, 1, 0, []),
  (114, .goto (-55), 59, 0, 0, 0, []),
  (117, .iload_n 3, 3, 0, 0, 0, []),
  (118, .ifCond .ne 8, 126, 0, 0, 0, []),
  (121, .iload 4, 4, 0, 0, 0, []),
  (123, .goto 20, 143, 0, 0, 0, []),
  (126, .aload_n 0, 0, 0, 0, 0, []),
  (127, .sipush 1034, 0, 0, 1034, 0, []),
  (130, .iload_n 3, 3, 0, 0, 0, []),
  (131, .iconst 1, 0, 0, 1, 0, []),
  (132, .if_icmp .ne 7, 139, 0, 0, 0, []),
  (135, .iconst 2, 0, 0, 2, 0, []),
  (136, .goto 4, 140, 0, 0, 0, []),
  (139, .iconst 1, 0, 0, 1, 0, []),
  (140, .invokevirtual 338, 3, 12, 0, 0, []),
  (143, .ireturn, 0, 0, 0, 0, [])]
noncomputable def e12_balls : XN := [(215, 1, 3, 99, F12_within), (295, 0, 4, 12, F12_copies), (301, 1, 1, 12, F12_men), (282, 1, 1, 12, F12_guests), (298, 1, 1, 12, F12_belts), (454, 1, 1, 12, F12_drawsDeed), (379, 1, 2, 12, F12_passes), (338, 1, 3, 12, F12_who)]
noncomputable def h12_balls_59 (n : Nat) (v2 : Int32) (v3 : Int32) (v4 : Int32) (v5 : Int32) (μ : XM) : XR := arr t12_balls e12_balls 1 80 n 59 [some (xr 12 0 0), none, some (xi v2), some (xi v3), some (xi v4), some (xi v5)] [] μ
set_option maxRecDepth 100000 in
theorem h12_balls_59_s (n : Nat) (v2 : Int32) (v3 : Int32) (v4 : Int32) (v5 : Int32) (μ : XM) : h12_balls_59 (n + 1) v2 v3 v4 v5 μ = (
  xite (v5 < v2) (
    bI (f12_men μ) fun r2 m1 =>
    xite ((0 : Int32) < r2) (
      bI (f12_guests m1) fun r4 m3 =>
      xite ((0 : Int32) < r4) (
        bI (f12_belts m3) fun r6 m5 =>
        xite ((0 : Int32) < r6) (
          bI (f12_drawsDeed m5) fun r8 m7 =>
          xite (r8 = 0) (
            vI (v4 + 0) fun x9 =>
            bI (f12_passes 1034 m7) fun r11 m10 =>
            vI (v5 + 1) fun x12 =>
            h12_balls_59 n v2 v3 x9 x12 m10) (
            vI (v4 + 1) fun x13 =>
            bI (f12_passes 1034 m7) fun r15 m14 =>
            vI (v5 + 1) fun x16 =>
            h12_balls_59 n v2 v3 x13 x16 m14)) (
          vI (v4 + 0) fun x17 =>
          bI (f12_passes 1034 m5) fun r19 m18 =>
          vI (v5 + 1) fun x20 =>
          h12_balls_59 n v2 v3 x17 x20 m18)) (
        vI (v4 + 0) fun x21 =>
        bI (f12_passes 1034 m3) fun r23 m22 =>
        vI (v5 + 1) fun x24 =>
        h12_balls_59 n v2 v3 x21 x24 m22)) (
      vI (v4 + 0) fun x25 =>
      bI (f12_passes 1034 m1) fun r27 m26 =>
      vI (v5 + 1) fun x28 =>
      h12_balls_59 n v2 v3 x25 x28 m26)) (
    xite (v3 = 0) (
      xri v4 μ) (
      xite (v3 = 1) (
        bI (f12_who 1034 2 μ) fun r30 m29 =>
        xri r30 m29) (
        bI (f12_who 1034 1 μ) fun r32 m31 =>
        xri r32 m31)))) := rfl
theorem h12_balls_59_0 (v2 : Int32) (v3 : Int32) (v4 : Int32) (v5 : Int32) (μ : XM) : h12_balls_59 0 v2 v3 v4 v5 μ = none := rfl
noncomputable def k12_balls (n : Nat) (p1 : Int32) (p2 : Int32) (p3 : Int32) (μ : XM) : XR :=
  mS (sI μ 12 0 0 0) fun m1 =>
  bI (f12_within p1 0 9999 m1) fun r3 m2 =>
  xite (r3 = 0) (
    xri (-1) m2) (
    bI (f12_within p2 1 99 m2) fun r5 m4 =>
    xite (r5 = 0) (
      xri (-1) m4) (
      bI (f12_within p3 0 2 m4) fun r7 m6 =>
      xite (r7 = 0) (
        xri (-1) m6) (
        bV (f12_copies 0 1034 30 m6) fun m8 =>
        mS (sL m8 12 0 33 (Int32.toInt64 p1)) fun m9 =>
        vI 0 fun x10 =>
        vI 0 fun x11 =>
        h12_balls_59 n p2 p3 x10 x11 m9)))
set_option maxRecDepth 100000 in
theorem q12_balls (n : Nat) (p1 : Int32) (p2 : Int32) (p3 : Int32) (μ : XM) : xrun t12_balls e12_balls (xrtk (some .int)) 80 n (xlo [xr 12 0 0, xi p1, xi p2, xi p3] 6) μ = k12_balls n p1 p2 p3 μ := rfl
theorem x12_balls : ∃ f : Int32 → Int32 → Int32 → XM → XR, ∀ (p1 : Int32) (p2 : Int32) (p3 : Int32) (μ : XM), f p1 p2 p3 μ = k12_balls 20000 p1 p2 p3 μ := ⟨fun p1 p2 p3 μ => k12_balls 20000 p1 p2 p3 μ, fun p1 p2 p3 μ => rfl⟩
noncomputable def f12_balls : Int32 → Int32 → Int32 → XM → XR := Classical.choose x12_balls
theorem f12_balls_e (p1 : Int32) (p2 : Int32) (p3 : Int32) (μ : XM) : f12_balls p1 p2 p3 μ = k12_balls 20000 p1 p2 p3 μ := Classical.choose_spec x12_balls p1 p2 p3 μ
noncomputable def F12_balls : XF := fun av μ => match av with
  | [.inr (.inr (some (t0, i0, 0))), .inl p1, .inl p2, .inl p3] => bif Nat.beq t0 12 && Nat.beq i0 0 then f12_balls p1 p2 p3 μ else none
  | _ => none
set_option maxRecDepth 100000 in
theorem c12_balls {X : XP} (hX : XOK X) (l : Launch) : Ctr X l y12_balls prog_14_method_130_code 6 (some .int) (xrm 7) 0 0 F12_balls :=
  Ctr_of (tab := t12_balls) (env := e12_balls) (K := 80) (N := 20000) (fl := fl12) (cl := cl12) (ll := ll12) (jl := jl12) hX mf12_balls.2.2.2 ⟨by decide +kernel, flk12, clk12, llk12, jlk12⟩
   (List.forall_mem_cons.mpr ⟨xcal_s (c12_within hX l) mf12_within ⟨rfl, rfl⟩ ml12_215 ms12_within (xrm_ok (by omega) (by decide)) (by decide +kernel), List.forall_mem_cons.mpr ⟨xcal_v (na := 3) (c12_copies hX l) mf12_copies ⟨rfl, rfl⟩ ml12_295 mi12_copies me12_copies (xrm_ok (by omega) (by decide)) rfl (by decide) (by decide +kernel), List.forall_mem_cons.mpr ⟨xcal_v (na := 0) (c12_men hX l) mf12_men ⟨rfl, rfl⟩ ml12_301 mi12_men me12_men (xrm_ok (by omega) (by decide)) rfl (by decide) (by decide +kernel), List.forall_mem_cons.mpr ⟨xcal_v (na := 0) (c12_guests hX l) mf12_guests ⟨rfl, rfl⟩ ml12_282 mi12_guests me12_guests (xrm_ok (by omega) (by decide)) rfl (by decide) (by decide +kernel), List.forall_mem_cons.mpr ⟨xcal_v (na := 0) (c12_belts hX l) mf12_belts ⟨rfl, rfl⟩ ml12_298 mi12_belts me12_belts (xrm_ok (by omega) (by decide)) rfl (by decide) (by decide +kernel), List.forall_mem_cons.mpr ⟨xcal_v (na := 0) (c12_drawsDeed hX l) mf12_drawsDeed ⟨rfl, rfl⟩ ml12_454 mi12_drawsDeed me12_drawsDeed (xrm_ok (by omega) (by decide)) rfl (by decide) (by decide +kernel), List.forall_mem_cons.mpr ⟨xcal_v (na := 1) (c12_passes hX l) mf12_passes ⟨rfl, rfl⟩ ml12_379 mi12_passes me12_passes (xrm_ok (by omega) (by decide)) rfl (by decide) (by decide +kernel), List.forall_mem_cons.mpr ⟨xcal_v (na := 2) (c12_who hX l) mf12_who ⟨rfl, rfl⟩ ml12_338 mi12_who me12_who (xrm_ok (by omega) (by decide)) rfl (by decide) (by decide +kernel), fun _ h => absurd h List.not_mem_nil⟩⟩⟩⟩⟩⟩⟩⟩)
   (xrm_1 (by decide)) ⟨_, _, rfl, rfl⟩ (fun av μ r μ' h => by
    unfold F12_balls at h
    split at h
    · replace h := cond_inv h; obtain ⟨hb, h⟩ := h
      simp only [Bool.and_eq_true] at hb
      obtain ⟨g0, g1⟩ := hb
      obtain rfl := Nat.eq_of_beq_eq_true g0
      obtain rfl := Nat.eq_of_beq_eq_true g1
      exact ⟨Nat.le_of_ble_eq_true rfl, (q12_balls _ _ _ _ _).trans ((f12_balls_e _ _ _ _).symm.trans h)⟩
    · cases h)
def t12_mark : List XE := [(0, .aload_n 0, 0, 0, 0, 0, []),
  (1, .iconst 0, 0, 0, 0, 0, []),
  (2, .putfield 1, 12, 0, 0, 0, []),
  (5, .iload_n 1, 1, 0, 0, 0, []),
  (6, .iconst 0, 0, 0, 0, 0, []),
  (7, .iconst 3, 0, 0, 3, 0, []),
  (8, .invokestatic 215, 3, 0, 0, 0, []),
  (11, .ifCond .eq 16, 27, 0, 0, 0, []),
  (14, .iload_n 2, 2, 0, 0, 0, []),
  (15, .ifCond .eq 14, 29, 0, 0, 0, []),
  (18, .aload_n 0, 0, 0, 0, 0, []),
  (19, .getfield 124, 12, 26, 0, 0, []),
  (22, .iload_n 1, 1, 0, 0, 0, []),
  (23, .baload, 0, 0, 0, 0, []),
  (24, .ifCond .ne 5, 29, 0, 0, 0, []),
  (27, .iconst 0, 0, 0, 0, 0, []),
  (28, .ireturn, 0, 0, 0, 0, []),
  (29, .nop, 7, 0, 0, 0, []),
  (29, .aload_n 0, 0, 0, 0, 0, []),
  (30, .getfield 124, 12, 26, 0, 0, []),
  (33, .iload_n 1, 1, 0, 0, 0, []),
  (34, .iconst 1, 0, 0, 1, 0, []),
  (35, .bastore, 0, 0, 0, 0, []),
  (36, .aload_n 0, 0, 0, 0, 0, []),
  (37, .iload_n 2, 2, 0, 0, 0, []),
  (38, .ifCond .eq 12, 50, 0, 0, 0, []),
  (41, .bipush 47, 0, 0, 47, 0, []),
  (43, .iconst 1, 0, 0, 1, 0, []),
  (44, .iload_n 1, 1, 0, 0, 0, []),
  (45, .iadd, 0, 0, 0, 0, []),
  (46, .imul, 0, 0, 0, 0, []),
  (47, .goto 4, 51, 0, 0, 0, []),
  (50, .iconst 0, 0, 0, 0, 0, []),
  (51, .iload_n 2, 2, 0, 0, 0, []),
  (52, .ifCond .eq 7, 59, 0, 0, 0, []),
  (55, .iconst 0, 0, 0, 0, 0, []),
  (56, .goto 9, 65, 0, 0, 0, []),
  (59, .bipush 47, 0, 0, 47, 0, []),
  (61, .iconst 1, 0, 0, 1, 0, []),
  (62, .iload_n 1, 1, 0, 0, 0, []),
  (63, .iadd, 0, 0, 0, 0, []),
  (64, .imul, 0, 0, 0, 0, []),
  (65, .nop, 5, 0, 0, 0, []),
  (65, .bipush 47, 0, 0, 47, 0, []),
  (67, .invokevirtual 295, 4, 12, 0, 0, []),
  (70, .aload_n 0, 0, 0, 0, 0, []),
  (71, .iload_n 2, 2, 0, 0, 0, []),
  (72, .ifCond .eq 7, 79, 0, 0, 0, []),
  (75, .iconst 0, 0, 0, 0, 0, []),
  (76, .goto 7, 83, 0, 0, 0, []),
  (79, .aload_n 0, 0, 0, 0, 0, []),
  (80, .getfield 292, 12, 25, 0, 0, []),
  (83, .putfield 292, 12, 25, 0, 0, []),
  (86, .iconst 1, 0, 0, 1, 0, []),
  (87, .ireturn, 0, 0, 0, 0, [])]
noncomputable def e12_mark : XN := [(215, 1, 3, 99, F12_within), (295, 0, 4, 12, F12_copies)]
noncomputable def h12_mark_29 (n : Nat) (v1 : Int32) (v2 : Int32) (μ : XM) : XR := arr t12_mark e12_mark 2 60 n 29 [some (xr 12 0 0), some (xi v1), some (xi v2)] [] μ
noncomputable def h12_mark_65 (n : Nat) (v2 : Int32) (s0 : Int32) (s1 : Int32) (μ : XM) : XR := arr t12_mark e12_mark 2 60 n 65 [some (xr 12 0 0), none, some (xi v2)] [xi s0, xi s1, xr 12 0 0] μ
set_option maxRecDepth 100000 in
theorem h12_mark_29_s (n : Nat) (v1 : Int32) (v2 : Int32) (μ : XM) : h12_mark_29 (n + 1) v1 v2 μ = (
  xck (xin v1 4 && xbl 1) <|
  mS (pI μ 12 0 26 (Int32.toNatClampNeg v1) 1) fun m1 =>
  xite (v2 = 0) (
    xite (v2 = 0) (
      h12_mark_65 n v2 (47 * (1 + v1)) 0 m1) (
      h12_mark_65 n v2 0 0 m1)) (
    xite (v2 = 0) (
      h12_mark_65 n v2 (47 * (1 + v1)) (47 * (1 + v1)) m1) (
      h12_mark_65 n v2 0 (47 * (1 + v1)) m1))) := rfl
theorem h12_mark_29_0 (v1 : Int32) (v2 : Int32) (μ : XM) : h12_mark_29 0 v1 v2 μ = none := rfl
set_option maxRecDepth 100000 in
theorem h12_mark_65_s (n : Nat) (v2 : Int32) (s0 : Int32) (s1 : Int32) (μ : XM) : h12_mark_65 (n + 1) v2 s0 s1 μ = (
  bV (f12_copies s1 s0 47 μ) fun m1 =>
  xite (v2 = 0) (
    mS (sI m1 12 0 25 (rI m1 12 0 25)) fun m2 =>
    xrb 1 m2) (
    mS (sI m1 12 0 25 0) fun m3 =>
    xrb 1 m3)) := rfl
theorem h12_mark_65_0 (v2 : Int32) (s0 : Int32) (s1 : Int32) (μ : XM) : h12_mark_65 0 v2 s0 s1 μ = none := rfl
noncomputable def k12_mark (n : Nat) (p1 : Int32) (p2 : Int32) (μ : XM) : XR :=
  mS (sI μ 12 0 0 0) fun m1 =>
  bI (f12_within p1 0 3 m1) fun r3 m2 =>
  xite (r3 = 0) (
    xrb 0 m2) (
    xite (p2 = 0) (
      h12_mark_29 n p1 p2 m2) (
      xck (xin p1 4) <|
      xite ((aI m2 12 0 26 (Int32.toNatClampNeg p1)) = 0) (
        xrb 0 m2) (
        h12_mark_29 n p1 p2 m2)))
set_option maxRecDepth 100000 in
theorem q12_mark (n : Nat) (p1 : Int32) (p2 : Int32) (μ : XM) : xrun t12_mark e12_mark (xrtk (some .boolean)) 60 n (xlo [xr 12 0 0, xi p1, xi p2] 3) μ = k12_mark n p1 p2 μ := rfl
theorem x12_mark : ∃ f : Int32 → Int32 → XM → XR, ∀ (p1 : Int32) (p2 : Int32) (μ : XM), f p1 p2 μ = k12_mark 20000 p1 p2 μ := ⟨fun p1 p2 μ => k12_mark 20000 p1 p2 μ, fun p1 p2 μ => rfl⟩
noncomputable def f12_mark : Int32 → Int32 → XM → XR := Classical.choose x12_mark
theorem f12_mark_e (p1 : Int32) (p2 : Int32) (μ : XM) : f12_mark p1 p2 μ = k12_mark 20000 p1 p2 μ := Classical.choose_spec x12_mark p1 p2 μ
noncomputable def F12_mark : XF := fun av μ => match av with
  | [.inr (.inr (some (t0, i0, 0))), .inl p1, .inl p2] => bif Nat.beq t0 12 && Nat.beq i0 0 then f12_mark p1 p2 μ else none
  | _ => none
set_option maxRecDepth 100000 in
theorem c12_mark {X : XP} (hX : XOK X) (l : Launch) : Ctr X l y12_mark prog_14_method_131_code 3 (some .boolean) (xrm 2) 0 0 F12_mark :=
  Ctr_of (tab := t12_mark) (env := e12_mark) (K := 60) (N := 20000) (fl := fl12) (cl := cl12) (ll := ll12) (jl := jl12) hX mf12_mark.2.2.2 ⟨by decide +kernel, flk12, clk12, llk12, jlk12⟩
   (List.forall_mem_cons.mpr ⟨xcal_s (c12_within hX l) mf12_within ⟨rfl, rfl⟩ ml12_215 ms12_within (xrm_ok (by omega) (by decide)) (by decide +kernel), List.forall_mem_cons.mpr ⟨xcal_v (na := 3) (c12_copies hX l) mf12_copies ⟨rfl, rfl⟩ ml12_295 mi12_copies me12_copies (xrm_ok (by omega) (by decide)) rfl (by decide) (by decide +kernel), fun _ h => absurd h List.not_mem_nil⟩⟩)
   (xrm_1 (by decide)) ⟨_, _, rfl, rfl⟩ (fun av μ r μ' h => by
    unfold F12_mark at h
    split at h
    · replace h := cond_inv h; obtain ⟨hb, h⟩ := h
      simp only [Bool.and_eq_true] at hb
      obtain ⟨g0, g1⟩ := hb
      obtain rfl := Nat.eq_of_beq_eq_true g0
      obtain rfl := Nat.eq_of_beq_eq_true g1
      exact ⟨Nat.le_of_ble_eq_true rfl, (q12_mark _ _ _ _).trans ((f12_mark_e _ _ _).symm.trans h)⟩
    · cases h)
def t12_count : List XE := [(0, .aload_n 0, 0, 0, 0, 0, []),
  (1, .iconst 0, 0, 0, 0, 0, []),
  (2, .putfield 1, 12, 0, 0, 0, []),
  (5, .iload_n 1, 1, 0, 0, 0, []),
  (6, .tableswitch 127 0 13 #[70, 70, 70, 77, 77, 77, 86, 86, 86, 96, 102, 109, 117, 122], 133, 0, 0, 0, [(0, 76), (1, 76), (2, 76), (3, 83), (4, 83), (5, 83), (6, 92), (7, 92), (8, 92), (9, 102), (10, 108), (11, 115), (12, 123), (13, 128)]),
  (76, .aload_n 0, 0, 0, 0, 0, []),
  (77, .getfield 91, 12, 10, 0, 0, []),
  (80, .iload_n 1, 1, 0, 0, 0, []),
  (81, .iaload, 0, 0, 0, 0, []),
  (82, .ireturn, 0, 0, 0, 0, []),
  (83, .aload_n 0, 0, 0, 0, 0, []),
  (84, .getfield 121, 12, 24, 0, 0, []),
  (87, .iload_n 1, 1, 0, 0, 0, []),
  (88, .iconst 3, 0, 0, 3, 0, []),
  (89, .isub, 0, 0, 0, 0, []),
  (90, .iaload, 0, 0, 0, 0, []),
  (91, .ireturn, 0, 0, 0, 0, []),
  (92, .aload_n 0, 0, 0, 0, 0, []),
  (93, .iconst 0, 0, 0, 0, 0, []),
  (94, .iload_n 1, 1, 0, 0, 0, []),
  (95, .bipush 6, 0, 0, 6, 0, []),
  (97, .isub, 0, 0, 0, 0, []),
  (98, .invokevirtual 338, 3, 12, 0, 0, []),
  (101, .ireturn, 0, 0, 0, 0, []),
  (102, .aload_n 0, 0, 0, 0, 0, []),
  (103, .iconst 0, 0, 0, 0, 0, []),
  (104, .invokevirtual 332, 2, 12, 0, 0, []),
  (107, .ireturn, 0, 0, 0, 0, []),
  (108, .aload_n 0, 0, 0, 0, 0, []),
  (109, .getfield 112, 12, 21, 0, 0, []),
  (112, .iconst 0, 0, 0, 0, 0, []),
  (113, .iaload, 0, 0, 0, 0, []),
  (114, .ireturn, 0, 0, 0, 0, []),
  (115, .aload_n 0, 0, 0, 0, 0, []),
  (116, .getfield 121, 12, 24, 0, 0, []),
  (119, .bipush 30, 0, 0, 30, 0, []),
  (121, .iaload, 0, 0, 0, 0, []),
  (122, .ireturn, 0, 0, 0, 0, []),
  (123, .aload_n 0, 0, 0, 0, 0, []),
  (124, .getfield 292, 12, 25, 0, 0, []),
  (127, .ireturn, 0, 0, 0, 0, []),
  (128, .aload_n 0, 0, 0, 0, 0, []),
  (129, .getfield 11, 12, 2, 0, 0, []),
  (132, .ireturn, 0, 0, 0, 0, []),
  (133, .iconst (-1), 0, 0, (-1), 0, []),
  (134, .ireturn, 0, 0, 0, 0, [])]
noncomputable def e12_count : XN := [(338, 1, 3, 12, F12_who), (332, 1, 2, 12, F12_wall)]
noncomputable def k12_count (p1 : Int32) (μ : XM) : XR :=
  mS (sI μ 12 0 0 0) fun m1 =>
  xite (p1 = 0) (
    xck (xin p1 120) <|
    xri (aI m1 12 0 10 (Int32.toNatClampNeg p1)) m1) (
  xite (p1 = 1) (
    xck (xin p1 120) <|
    xri (aI m1 12 0 10 (Int32.toNatClampNeg p1)) m1) (
  xite (p1 = 2) (
    xck (xin p1 120) <|
    xri (aI m1 12 0 10 (Int32.toNatClampNeg p1)) m1) (
  xite (p1 = 3) (
    xck (xin (p1 - 3) 1081) <|
    xri (aI m1 12 0 24 (Int32.toNatClampNeg (p1 - 3))) m1) (
  xite (p1 = 4) (
    xck (xin (p1 - 3) 1081) <|
    xri (aI m1 12 0 24 (Int32.toNatClampNeg (p1 - 3))) m1) (
  xite (p1 = 5) (
    xck (xin (p1 - 3) 1081) <|
    xri (aI m1 12 0 24 (Int32.toNatClampNeg (p1 - 3))) m1) (
  xite (p1 = 6) (
    bI (f12_who 0 (p1 - 6) m1) fun r3 m2 =>
    xri r3 m2) (
  xite (p1 = 7) (
    bI (f12_who 0 (p1 - 6) m1) fun r5 m4 =>
    xri r5 m4) (
  xite (p1 = 8) (
    bI (f12_who 0 (p1 - 6) m1) fun r7 m6 =>
    xri r7 m6) (
  xite (p1 = 9) (
    bI (f12_wall 0 m1) fun r9 m8 =>
    xri r9 m8) (
  xite (p1 = 10) (
    xck (xin 0 330) <|
    xri (aI m1 12 0 21 (Int32.toNatClampNeg 0)) m1) (
  xite (p1 = 11) (
    xck (xin 30 1081) <|
    xri (aI m1 12 0 24 (Int32.toNatClampNeg 30)) m1) (
  xite (p1 = 12) (
    xri (rI m1 12 0 25) m1) (
  xite (p1 = 13) (
    xri (rI m1 12 0 2) m1) (
  xri (-1) m1))))))))))))))
set_option maxRecDepth 100000 in
theorem q12_count (n : Nat) (p1 : Int32) (μ : XM) : xrun t12_count e12_count (xrtk (some .int)) 51 n (xlo [xr 12 0 0, xi p1] 2) μ = k12_count p1 μ := rfl
theorem x12_count : ∃ f : Int32 → XM → XR, ∀ (p1 : Int32) (μ : XM), f p1 μ = k12_count p1 μ := ⟨fun p1 μ => k12_count p1 μ, fun p1 μ => rfl⟩
noncomputable def f12_count : Int32 → XM → XR := Classical.choose x12_count
theorem f12_count_e (p1 : Int32) (μ : XM) : f12_count p1 μ = k12_count p1 μ := Classical.choose_spec x12_count p1 μ
noncomputable def F12_count : XF := fun av μ => match av with
  | [.inr (.inr (some (t0, i0, 0))), .inl p1] => bif Nat.beq t0 12 && Nat.beq i0 0 then f12_count p1 μ else none
  | _ => none
set_option maxRecDepth 100000 in
theorem c12_count {X : XP} (hX : XOK X) (l : Launch) : Ctr X l y12_count prog_14_method_132_code 2 (some .int) (xrm 3) 0 0 F12_count :=
  Ctr_of (tab := t12_count) (env := e12_count) (K := 51) (N := 20000) (fl := fl12) (cl := cl12) (ll := ll12) (jl := jl12) hX mf12_count.2.2.2 ⟨by decide +kernel, flk12, clk12, llk12, jlk12⟩
   (List.forall_mem_cons.mpr ⟨xcal_v (na := 2) (c12_who hX l) mf12_who ⟨rfl, rfl⟩ ml12_338 mi12_who me12_who (xrm_ok (by omega) (by decide)) rfl (by decide) (by decide +kernel), List.forall_mem_cons.mpr ⟨xcal_v (na := 1) (c12_wall hX l) mf12_wall ⟨rfl, rfl⟩ ml12_332 mi12_wall me12_wall (xrm_ok (by omega) (by decide)) rfl (by decide) (by decide +kernel), fun _ h => absurd h List.not_mem_nil⟩⟩)
   (xrm_1 (by decide)) ⟨_, _, rfl, rfl⟩ (fun av μ r μ' h => by
    unfold F12_count at h
    split at h
    · replace h := cond_inv h; obtain ⟨hb, h⟩ := h
      simp only [Bool.and_eq_true] at hb
      obtain ⟨g0, g1⟩ := hb
      obtain rfl := Nat.eq_of_beq_eq_true g0
      obtain rfl := Nat.eq_of_beq_eq_true g1
      exact ⟨Nat.le_of_ble_eq_true rfl, (q12_count _ _ _).trans ((f12_count_e _ _).symm.trans h)⟩
    · cases h)
