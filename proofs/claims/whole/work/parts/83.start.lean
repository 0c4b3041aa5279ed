/-! THE START: rows 0 to 22 of the law, and the claim -/
theorem lx_0 : decode code 0 = .ok (.new 8, 3) := by decide +kernel
theorem lx_3 : decode code 3 = .ok (.dup, 1) := by decide +kernel
theorem lx_4 : decode code 4 = .ok (.invokespecial 15, 3) := by decide +kernel
theorem lx_7 : decode code 7 = .ok (.astore_n 1, 1) := by decide +kernel
theorem lx_8 : decode code 8 = .ok (.new 16, 3) := by decide +kernel
theorem lx_11 : decode code 11 = .ok (.dup, 1) := by decide +kernel
theorem lx_12 : decode code 12 = .ok (.invokespecial 18, 3) := by decide +kernel
theorem lx_15 : decode code 15 = .ok (.astore_n 2, 1) := by decide +kernel
theorem lx_16 : decode code 16 = .ok (.iconst 1, 1) := by decide +kernel
theorem lx_17 : decode code 17 = .ok (.newarray .long, 2) := by decide +kernel
theorem lx_19 : decode code 19 = .ok (.astore_n 3, 1) := by decide +kernel
theorem lx_20 : decode code 20 = .ok (.iconst 0, 1) := by decide +kernel
theorem lx_21 : decode code 21 = .ok (.istore 4, 2) := by decide +kernel
abbrev y11i : MethodName := ⟨xR11, "<init>", "()V"⟩
abbrev y12i : MethodName := ⟨xR12, "<init>", "()V"⟩
theorem lx_w11 : Cond.code y11i prog_1_method_1_code 2 none ∈ lw_tbl ∧ Cond.initialized xR11 ∈ lw_tbl ∧ Cond.instanceMethod y11i ∈ lw_tbl ∧ Cond.methodLink "SilenceBallLaw" 15 y11i ∈ lw_tbl ∧ Cond.classLink "SilenceBallLaw" 8 xR11 ∈ lw_tbl := by decide +kernel
theorem lx_w12 : Cond.code y12i prog_14_method_4_code 1 none ∈ lw_tbl ∧ Cond.initialized xR12 ∈ lw_tbl ∧ Cond.instanceMethod y12i ∈ lw_tbl ∧ Cond.methodLink "SilenceBallLaw" 18 y12i ∈ lw_tbl ∧ Cond.classLink "SilenceBallLaw" 16 xR12 ∈ lw_tbl := by decide +kernel
theorem lx_g {w : Cond} (h : w ∈ lw_tbl) (hg : goodWord w = true) : w ∈ xG := List.mem_filter.mpr ⟨h, hg⟩
theorem lx_ins {t : Nat} {C : String} {T : u_T} {N : Nat} (h : xcl[t]? = some (C, T, N)) : Cond.instantiable C N ∈ xG := lx_g (of_decide_eq_true (List.all_eq_true.mp w_inst (C, T, N) (List.mem_of_getElem? h))) rfl
theorem lx_n11 : ynw R_law 8 11 := ⟨xR11, _, _, rfl, lx_g lx_w11.2.2.2.2 rfl, lx_ins (t := 11) rfl, lx_g lx_w11.2.1 rfl⟩
theorem lx_n12 : ynw R_law 16 12 := ⟨xR12, _, _, rfl, lx_g lx_w12.2.2.2.2 rfl, lx_ins (t := 12) rfl, lx_g lx_w12.2.1 rfl⟩
theorem lx_I0 (D : va_G) (cy : Nat → ClassId) (s : State) (ad : XQ → Nat) : YI (wlP D cy s) ad s (0, yz, fun _ _ => false) s.heap [] :=
  ⟨fun k q h => (by cases h), ⟨fun i j p q h => (by cases h), fun k q h => (by cases h)⟩, va_S.rf, Nat.zero_le _, fun _ _ _ _ h => (by cases h), fun _ _ _ _ h => (by cases h), fun _ _ _ _ => ⟨fun _ => rfl, fun _ => ⟨rfl, rfl⟩⟩, fun _ _ _ _ _ => ⟨fun _ => rfl, fun _ => ⟨rfl, rfl⟩⟩⟩
set_option maxHeartbeats 1000000 in
/-- at the loop -/
theorem lx_loop {p : Program} {e : Env} {s : State} {m : MethodId} {below : List Frame} {meth : Method} {c : Code} (l : Launch) (hst : l.stackTraces = false) {b L : Nat} {xs : Nat → Int32} (hL : L ≤ 3584) (hC0 : lw_At p s m meth c b L xs) {D : va_G} {cy : Nat → ClassId} (hK : ∀ A : Nat → Prop, va_K D xcl (ytys (D, cy, A)) s) {adK adV : Nat → Nat} {fm : Option Nat} (hFS : FS (SA s) adK adV fm s s.heap) (hvR : ∀ k q, xstrT[k]? = some q → vk_R q.1 q.2.1 q.2.2 (adK k) s) (hRs : RsC (SA s) s s.heap)
    {T : XM × (XQ → Nat → Bool)} (hrf : ynl.all (yref1 T.2) = true) (hmem : ymem T.1 = true) {ad5 : XQ → Nat} {H5 : Heap} {locs4 : List Loc} (hI5 : YI (wlP D cy s) ad5 s (207, T) H5 locs4) {ls : Array Slot} (hl : lv_has ls 7 [(4, .int 0), (3, .ref (ad5 (14, 0, 1))), (2, .ref (ad5 (12, 0, 0))), (1, .ref (ad5 (11, 0, 0))), (0, .ref b)]) {cells slots : Nat} (hbd : xbd 601024 7293033 1 8 (600 * 201) cells slots) :
    W p l e room_1 s m #[Value.ref b] below meth c H5 locs4 cells slots (lw_Z below #[Value.ref b] s) (F0 m 23 ls []) := by
  obtain ⟨hx, hb, hret, hml, hown, hts, hXs, hbl, hlk, hgv⟩ := id hC0
  have hG : ∀ w ∈ xG, w.before #[Value.ref b] s = true := fun w hw => hts w (xG_tbl w hw)
  have hXok : XOK (wlX D cy ad5 s b L xs adK adV fm) := wlX_ok (S := (207, T)) rfl hI5.2.1 hbl hL
  have hXI : XI (wlX D cy ad5 s b L xs adK adV fm) s (μS (207, T) L xs) H5 locs4 := wlX_I (S := (207, T)) rfl hI5 hrf
  have hC9 : wlC s b L xs adK adV fm s s.heap := ⟨hXs, hFS, hvR, hRs, hbl⟩
  have CX : XCt (wlX D cy ad5 s b L xs adK adV fm) p room_1 s m #[Value.ref b] c code "SilenceBallLaw" 7 := ⟨hx, hb, hml, hown, hG, hK (SA s), hC9, hXok, by decide, by decide⟩
  have hrest := rs_rest (X := wlX D cy ad5 s b L xs adK adV fm) hXok (fun U H h => h.2.2.2.1) hst
  obtain ⟨μ', hgood⟩ := law_good (S := (207, T)) (L := L) (xs := xs) hmem hL
  have hloc : xloc (wlX D cy ad5 s b L xs adK adV fm) ls 7 [some (xr 13 0 1), some (xr 11 0 0), some (xr 12 0 0), some (xr 14 0 1), some (xi 0), none, none] := by
    refine ⟨?_, rfl, ?_⟩
    · have e9 : xlv (wlX D cy ad5 s b L xs adK adV fm) 0 [some (xr 13 0 1), some (xr 11 0 0), some (xr 12 0 0), some (xr 14 0 1), some (xi 0), none, none] = [(0, .ref b), (1, .ref (ad5 (11, 0, 0))), (2, .ref (ad5 (12, 0, 0))), (3, .ref (ad5 (14, 0, 1))), (4, .int 0)] := by
        show [(0, Value.ref (wlad b adK ad5 (13, 0, 1))), (1, Value.ref (wlad b adK ad5 (11, 0, 0))), (2, Value.ref (wlad b adK ad5 (12, 0, 0))), (3, Value.ref (wlad b adK ad5 (14, 0, 1))), (4, Value.int 0)] = _
        rw [wlad_s, wlad_y (by decide +kernel), wlad_y (by decide +kernel), wlad_y (by decide +kernel)]
      rw [e9]
      exact lv_sub hl [4, 3, 2, 1, 0] rfl
    · intro v hv
      simp only [List.mem_cons, Option.some.injEq, List.not_mem_nil, or_false, reduceCtorEq] at hv
      rcases hv with rfl | rfl | rfl | rfl | rfl
      · exact Or.inr (Or.inl rfl)
      · exact Or.inl (by decide +kernel)
      · exact Or.inl (by decide +kernel)
      · exact Or.inl (by decide +kernel)
      · trivial
  exact law_loop l hC0 rfl CX hrest hgood hXI hloc hbd
set_option maxHeartbeats 4000000 in
/-- from the entry, for every script of at most 3584 ints, the law comes to its end with true -/
theorem whole_start {p : Program} {e : Env} {s : State} {m : MethodId} {below : List Frame} {meth : Method} {c : Code} (l : Launch) (hflags : l.flags = flags0) {b L : Nat} {xs : Nat → Int32} (hL : L ≤ 3584) (C0 : lw_At p s m meth c b L xs) : W p l e room_1 s m #[Value.ref b] below meth c s.heap [] 0 0 (lw_Z below #[Value.ref b] s) (entryFrame m ([Value.ref b] : List Value).toArray 7) := by
  have hC0 := C0
  obtain ⟨hx, hb, hret, hml, hown, hts, hXs, hbl, hlk, hgv⟩ := C0
  have hst : l.stackTraces = false := by unfold Launch.stackTraces; rw [hflags]; decide +kernel
  obtain ⟨D, cy, hK⟩ := ws_K hts
  have hAO := ws_O hts
  have hNW := ws_N hts
  have hAn : ∀ a : Nat, a < s.heap.size → ¬ SA s a := fun a h => Nat.not_le.mpr h
  obtain ⟨adK, adV, fm, hFS, hvR⟩ := ws_S hts hgv hAn
  have hRs := ws_R hts hgv hAn
  obtain ⟨⟨n1, T1⟩, ⟨n2, T2⟩, hF11, hF12, e1, e2, hrf, hmem⟩ := yrun_all
  obtain rfl : n1 = 183 := e1
  obtain rfl : n2 = 206 := e2
  have hG : ∀ w ∈ xG, w.before #[Value.ref b] s = true := fun w hw => hts w (xG_tbl w hw)
  have CC : YCt (wlP D cy s) p room_1 s m #[Value.ref b] meth c code ⟨R_law, meth.name, ""⟩ 7 := ⟨hx, hb, hml, hown, hG, hK (SA s), fun q h => h, by decide, by decide, ⟨hAO.1, hAO.2, hNW⟩, rfl⟩
  rw [lg_entry_eq]
  have hl := lv_entry ([Value.ref b]) (n := 7) (by simp [lg_sl, Value.category])
  generalize (lg_sl ([Value.ref b]) ++ List.replicate (7 - (lg_sl ([Value.ref b])).length) Slot.unset).toArray = ls at hl ⊢
  have hl : lv_has ls 7 [(0, .ref b)] := hl
  -- the component
  refine yr_new CC (lx_I0 D cy s (fun _ => 0)) (t := 11) (i := 0) (idx := 8) rfl lx_n11 (by decide) (by decide +kernel) lx_0 (fun a1 H1 hI1 => ?_)
  have ea1 : yad (fun _ => 0) (11, 0, 0) a1 (11, 0, 0) = a1 := yad_s
  generalize yad (fun _ => 0) (11, 0, 0) a1 = ad1 at hI1 ea1
  subst ea1
  refine lv_dup hx hb lx_3 rfl ?_
  refine yr_callS CC hl.1 hI1 (idx := 15) (tg := 11) (mc := 182) (i := 0) (n := 0) (bs := []) (rest := [xr 11 0 0]) (cy11_init (wlP D cy s) l) (yrun_mk _ _ _ _ _ _) (lx_g lx_w11.1 rfl) (lx_g lx_w11.2.1 rfl) ⟨by decide +kernel, by decide +kernel⟩ (lx_g lx_w11.2.2.1 rfl) ⟨by decide, by decide⟩ (by decide +kernel) rfl (Or.inl (lx_g lx_w11.2.2.2.1 rfl))
    (List.forall_mem_cons.mpr ⟨(by decide +kernel : (11, 0, 0) ∈ ynl.take 1), fun v h => absurd h List.not_mem_nil⟩) rfl hF11 (by decide) lx_4 ⟨by decide, by decide +kernel⟩ (fun ad2 H2 locs2 hag2 hI2 => ?_)
  refine lv_astore_n (x := ad1 (11, 0, 0)) (lv' := [(1, .ref (ad1 (11, 0, 0))), (0, .ref b)]) hx hb lx_7 rfl hl (by decide) rfl (fun ls hl => ?_)
  -- the model
  refine yr_new CC hI2 (t := 12) (i := 0) (idx := 16) rfl lx_n12 (by decide) (by decide +kernel) lx_8 (fun a3 H3 hI3 => ?_)
  have ht3 : ∀ q ∈ ynl.take 183, yad ad2 (12, 0, 0) a3 q = ad2 q := fun q hq => yad_n (fun e => ytk_no (n := 183) (q := (12, 0, 0)) rfl (e ▸ hq))
  have ea3 : yad ad2 (12, 0, 0) a3 (12, 0, 0) = a3 := yad_s
  generalize yad ad2 (12, 0, 0) a3 = ad3 at hI3 ht3 ea3
  subst ea3
  refine lv_dup hx hb lx_11 rfl ?_
  refine yr_callS CC hl.1 hI3 (idx := 18) (tg := 12) (mc := 22) (i := 0) (n := 0) (bs := []) (rest := [xr 12 0 0]) (cy12_init (wlP D cy s) l) (yrun_mk _ _ _ _ _ _) (lx_g lx_w12.1 rfl) (lx_g lx_w12.2.1 rfl) ⟨by decide +kernel, by decide +kernel⟩ (lx_g lx_w12.2.2.1 rfl) ⟨by decide, by decide⟩ (by decide +kernel) rfl (Or.inl (lx_g lx_w12.2.2.2.1 rfl))
    (List.forall_mem_cons.mpr ⟨(by decide +kernel : (12, 0, 0) ∈ ynl.take 184), fun v h => absurd h List.not_mem_nil⟩) rfl hF12 (by decide) lx_12 ⟨by decide +kernel, (by dsimp only; decide +kernel)⟩ (fun ad4 H4 locs4 hag4 hI4 => ?_)
  refine lv_astore_n (x := ad3 (12, 0, 0)) (lv' := [(2, .ref (ad3 (12, 0, 0))), (1, .ref (ad1 (11, 0, 0))), (0, .ref b)]) hx hb lx_15 rfl hl (by decide) rfl (fun ls hl => ?_)
  -- the answers
  refine lv_iconst (v := nI 1) hx hb lx_16 (by decide) ?_
  refine yr_new1 CC hI4 (t := 14) (i := 0) (j := 0) (n := 1) rfl rfl (by decide +kernel) (by dsimp only; decide +kernel) lx_17 (fun a5 H5 hI5 => ?_)
  have ht5 : ∀ q ∈ ynl.take 206, yad ad4 (14, 0, 1) a5 q = ad4 q := fun q hq => yad_n (fun e => ytk_no (n := 206) (q := (14, 0, 1)) rfl (e ▸ hq))
  have ea5 : yad ad4 (14, 0, 1) a5 (14, 0, 1) = a5 := yad_s
  generalize yad ad4 (14, 0, 1) a5 = ad5 at hI5 ht5 ea5
  subst ea5
  refine lv_astore_n (x := ad5 (14, 0, 1)) (lv' := [(3, .ref (ad5 (14, 0, 1))), (2, .ref (ad3 (12, 0, 0))), (1, .ref (ad1 (11, 0, 0))), (0, .ref b)]) hx hb lx_19 rfl hl (by decide) rfl (fun ls hl => ?_)
  refine lv_iconst (v := 0) hx hb lx_20 (by decide) ?_
  refine lv_istore (lv' := [(4, .int 0), (3, .ref (ad5 (14, 0, 1))), (2, .ref (ad3 (12, 0, 0))), (1, .ref (ad1 (11, 0, 0))), (0, .ref b)]) hx hb lx_21 hl (by decide) rfl (fun ls hl => ?_)
  -- the loop
  have e11 : ad5 (11, 0, 0) = ad1 (11, 0, 0) := (ht5 _ (by decide +kernel)).trans ((hag4 _ (by decide +kernel : (11, 0, 0) ∈ ynl.take 184)).trans ((ht3 _ (by decide +kernel)).trans (hag2 _ (by decide +kernel : (11, 0, 0) ∈ ynl.take 1))))
  have e12 : ad5 (12, 0, 0) = ad3 (12, 0, 0) := (ht5 _ (by decide +kernel)).trans (hag4 _ (by decide +kernel : (12, 0, 0) ∈ ynl.take 184))
  rw [← e11, ← e12] at hl
  exact lx_loop l hst hL hC0 hK hFS hvR hRs hrf hmem hI5 hl (by unfold xbd; dsimp only; decide +kernel)
