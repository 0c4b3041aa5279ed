/-! rows over the world -/
section
variable {p : Program} {l : Launch} {e : Env} {R : Room} {s : State} {m : MethodId} {args : Array Value} {below : List Frame} {meth : Method} {c : Code} {Z : State → Prop} {cc : ByteArray} {own : String} {X : XP} {nL : Nat} {μ : XM} {H : Heap} {locs : List Loc} {cells slots pc : Nat} {ls : Array Slot} {rest : List Value}
theorem xr_get (C : XCt X p R s m args c cc own nL) (hI : XI X s μ H locs) {a b i idx : Nat} (hf : xfl own (idx, a, b)) (hq : (a, i, 0) ∈ xdom) {sl : Nat ⊕ (Nat → XQ)} (hs : (xlay a)[b]? = some sl) (hdg : decode cc pc = .ok (.getfield idx, 3))
    (kk : W p l e R s m args below meth c H locs cells slots Z (F0 m (pc + 3) ls (xslot X μ a i b sl :: rest))) : W p l e R s m args below meth c H locs cells slots Z (F0 m pc ls (.ref (xad X (a, i, 0)) :: rest)) := by
  obtain ⟨hx, hb, hml, hown, hts, hK, hC, hX, -, -⟩ := C
  obtain ⟨hP, hS, -⟩ := hI
  obtain ⟨C, T, N, hcl, hbN, hw⟩ := hf
  obtain ⟨hlen, hin, -, -, -⟩ := xcfs hcl
  obtain ⟨q0, hq0⟩ := xpos hq
  have he := xws_get X μ hq0
  exact va_get (D := xD X) (cl := xcl) (ws := xws X μ) (tys := xtys X) hx hb hts hin hown hK hP q0 he hcl b hbN (hts _ hw) (fun _ h => h) (v := xslot X μ a i b sl) (by rw [xfs_get, hs]; rfl) hdg kk
theorem xr_putI (C : XCt X p R s m args c cc own nL) (hI : XI X s μ H locs) {a b i idx k : Nat} {x : Int32} (hf : xfl own (idx, a, b)) (hq : (a, i, 0) ∈ xdom) (hs : (xlay a)[b]? = some (.inl k)) (hk : k = 0 ∨ (k = 3 ∧ (x = 0 ∨ x = 1))) (hdg : decode cc pc = .ok (.putfield idx, 3))
    (kk : ∀ H1 locs1, XI X s (sI μ a i b x) H1 locs1 → W p l e R s m args below meth c H1 locs1 cells slots Z (F0 m (pc + 3) ls rest)) : W p l e R s m args below meth c H locs cells slots Z (F0 m pc ls (.int x :: .ref (xad X (a, i, 0)) :: rest)) := by
  obtain ⟨hx, hb, hml, hown, hts, hK, hC, hX, -, -⟩ := C
  obtain ⟨hP, hS, hscr⟩ := hI
  obtain ⟨C, T, N, hcl, hbN, hw⟩ := hf
  obtain ⟨hlen, hin, ⟨ty0, hty⟩, hnm, hsl⟩ := xcfs hcl
  have ⟨hfin, hpd⟩ : (T b).2.2.2 = false ∧ parseFieldDescriptor (T b).2.2.1 = some (xsty k) := by have h := hsl b hbN; rw [hs] at h; exact h
  obtain ⟨q0, hq0⟩ := xpos hq
  have he := xws_get X μ hq0
  have hk1 : k ≠ 1 := by omega
  have hlt : b < (xfs X μ a i).length := by simp [xfs, hlen, hbN]
  have hset : (xws X μ).set q0 (xad X (a, i, 0), .inr (a, (xfs X μ a i).set b (.int x))) = xws X (sI μ a i b x) := xws_set X μ (sI μ a i b x) hq0 (by show Sum.inr (a, xfs X (sI μ a i b x) a i) = _; rw [xfs_sI X μ a i b x hs hk1]) (fun q' h => xe_sI X μ a i b x q' h)
  have hn : narrow (xsty k) (.int x) = .int x := by
    rcases hk with rfl | ⟨rfl, rfl | rfl⟩ <;> first | rfl | decide +kernel
  have hfit : fits (xsty k) (.int x) = true := by
    rcases hk with rfl | ⟨rfl, rfl | rfl⟩ <;> first | rfl | decide +kernel
  refine va_put (D := xD X) (cl := xcl) (ws := xws X μ) (tys := xtys X) (A := xA X) (H0 := s.heap) hx hb hts hin ty0 hty hnm hown hK hP (hX.1 μ) hS q0 he hcl b hbN (hts _ hw) (fun _ h => h) hfin (ty := xsty k) (v := .int x) hpd hn hfit hlt hdg (fun H1 locs1 hP1 _ hS1 => ?_)
  rw [hset] at hP1
  exact kk H1 locs1 ⟨hP1, hS1, by unfold xscr; rw [aI_sI, rI_sI, if_neg (fun z => by have := xlay_lt hs; omega)]; exact hscr⟩
theorem xr_putL (C : XCt X p R s m args c cc own nL) (hI : XI X s μ H locs) {a b i idx : Nat} {x : Int64} (hf : xfl own (idx, a, b)) (hq : (a, i, 0) ∈ xdom) (hs : (xlay a)[b]? = some (.inl 1)) (hdg : decode cc pc = .ok (.putfield idx, 3))
    (kk : ∀ H1 locs1, XI X s (sL μ a i b x) H1 locs1 → W p l e R s m args below meth c H1 locs1 cells slots Z (F0 m (pc + 3) ls rest)) : W p l e R s m args below meth c H locs cells slots Z (F0 m pc ls (.long x :: .ref (xad X (a, i, 0)) :: rest)) := by
  obtain ⟨hx, hb, hml, hown, hts, hK, hC, hX, -, -⟩ := C
  obtain ⟨hP, hS, hscr⟩ := hI
  obtain ⟨C, T, N, hcl, hbN, hw⟩ := hf
  obtain ⟨hlen, hin, ⟨ty0, hty⟩, hnm, hsl⟩ := xcfs hcl
  have ⟨hfin, hpd⟩ : (T b).2.2.2 = false ∧ parseFieldDescriptor (T b).2.2.1 = some (xsty 1) := by have h := hsl b hbN; rw [hs] at h; exact h
  obtain ⟨q0, hq0⟩ := xpos hq
  have he := xws_get X μ hq0
  have hlt : b < (xfs X μ a i).length := by simp [xfs, hlen, hbN]
  have hset : (xws X μ).set q0 (xad X (a, i, 0), .inr (a, (xfs X μ a i).set b (.long x))) = xws X (sL μ a i b x) := xws_set X μ (sL μ a i b x) hq0 (by show Sum.inr (a, xfs X (sL μ a i b x) a i) = _; rw [xfs_sL X μ a i b x hs]) (fun q' h => xe_sL X μ a i b x q' h)
  refine va_put (D := xD X) (cl := xcl) (ws := xws X μ) (tys := xtys X) (A := xA X) (H0 := s.heap) hx hb hts hin ty0 hty hnm hown hK hP (hX.1 μ) hS q0 he hcl b hbN (hts _ hw) (fun _ h => h) hfin (ty := .long) (v := .long x) hpd rfl rfl hlt hdg (fun H1 locs1 hP1 _ hS1 => ?_)
  rw [hset] at hP1
  exact kk H1 locs1 ⟨hP1, hS1, by unfold xscr; rw [aI_sL, rI_sL]; exact hscr⟩
-- arrays: loads
theorem xae_i (X : XP) (μ : XM) {t i j kd n : Nat} (h : xarr t j = (kd, n)) (hk : kd = 0 ∨ kd = 2 ∨ kd = 3) : xe X μ (t, i, j + 1) = .inl (xcy X kd, n, .inl (aI μ t i j)) := by
  rcases hk with rfl | rfl | rfl <;> simp [xe, xae, h]
theorem xae_l (X : XP) (μ : XM) {t i j n : Nat} (h : xarr t j = (1, n)) : xe X μ (t, i, j + 1) = .inl (xcy X 1, n, .inr (.inl (aL μ t i j))) := by simp [xe, xae, h]
theorem xr_ld (C : XCt X p R s m args c cc own nL) (hI : XI X s μ H locs) {t i j kd n : Nat} {x : Int32} (hq : (t, i, j + 1) ∈ xdom) (ha : xarr t j = (kd, n)) (hin : xin x n = true)
    (hdg : (kd = 0 ∧ decode cc pc = .ok (.iaload, 1)) ∨ (kd = 2 ∧ decode cc pc = .ok (.caload, 1)) ∨ (kd = 3 ∧ decode cc pc = .ok (.baload, 1)))
    (kk : W p l e R s m args below meth c H locs cells slots Z (F0 m (pc + 1) ls (.int (aI μ t i j x.toNatClampNeg) :: rest))) : W p l e R s m args below meth c H locs cells slots Z (F0 m pc ls (.int x :: .ref (xad X (t, i, j + 1)) :: rest)) := by
  obtain ⟨hx, hb, hml, hown, hts, hK, hC, hX, -, -⟩ := C
  obtain ⟨hP, hS, -⟩ := hI
  obtain ⟨q0, hq0⟩ := xpos hq
  have he := xws_get X μ hq0
  rw [xae_i X μ ha (by omega)] at he
  rcases hdg with ⟨rfl, hdg⟩ | ⟨rfl, hdg⟩ | ⟨rfl, hdg⟩
  · exact va_iald hx hb hK hP q0 0 he rfl (xin_vp hin) hdg kk
  · exact va_cald hx hb hK hP q0 2 he rfl (xin_vp hin) hdg kk
  · exact va_zald hx hb hK hP q0 3 he rfl (xin_vp hin) hdg kk
theorem xr_ldl (C : XCt X p R s m args c cc own nL) (hI : XI X s μ H locs) {t i j n : Nat} {x : Int32} (hq : (t, i, j + 1) ∈ xdom) (ha : xarr t j = (1, n)) (hin : xin x n = true) (hdg : decode cc pc = .ok (.laload, 1))
    (kk : W p l e R s m args below meth c H locs cells slots Z (F0 m (pc + 1) ls (.long (aL μ t i j x.toNatClampNeg) :: rest))) : W p l e R s m args below meth c H locs cells slots Z (F0 m pc ls (.int x :: .ref (xad X (t, i, j + 1)) :: rest)) := by
  obtain ⟨hx, hb, hml, hown, hts, hK, hC, hX, -, -⟩ := C
  obtain ⟨hP, hS, -⟩ := hI
  obtain ⟨q0, hq0⟩ := xpos hq
  have he := xws_get X μ hq0
  rw [xae_l X μ ha] at he
  exact va_lald hx hb hK hP q0 1 he rfl (xin_vp hin) hdg kk
theorem xr_ldr (C : XCt X p R s m args c cc own nL) (hI : XI X s μ H locs) {t i j kd n : Nat} {x : Int32} (hq : (t, i, j + 1) ∈ xdom) (ha : xarr t j = (kd, n)) (hkd : kd = 4 ∨ kd = 5) (hin : xin x n = true) (hdg : decode cc pc = .ok (.aaload, 1))
    (kk : W p l e R s m args below meth c H locs cells slots Z (F0 m (pc + 1) ls (.ref (xad X (xrow kd x.toNatClampNeg)) :: rest))) : W p l e R s m args below meth c H locs cells slots Z (F0 m pc ls (.int x :: .ref (xad X (t, i, j + 1)) :: rest)) := by
  obtain ⟨hx, hb, hml, hown, hts, hK, hC, hX, -, -⟩ := C
  obtain ⟨hP, hS, -⟩ := hI
  obtain ⟨q0, hq0⟩ := xpos hq
  have he := xws_get X μ hq0
  rcases hkd with rfl | rfl
  · rw [show xe X μ (t, i, j + 1) = .inl (xcy X 4, n, .inr (.inr (.inr (.inr (fun k => some (xad X (xrow 4 k))))))) by simp [xe, xae, ha]] at he
    exact va_aldq hx hb hK hP q0 4 he rfl (xin_vp hin) hdg kk
  · rw [show xe X μ (t, i, j + 1) = .inl (xcy X 5, n, .inr (.inr (.inr (.inr (fun k => some (xad X (xrow 5 k))))))) by simp [xe, xae, ha]] at he
    exact va_aldq hx hb hK hP q0 5 he rfl (xin_vp hin) hdg kk
theorem xr_scr (C : XCt X p R s m args c cc own nL) (hI : XI X s μ H locs) {x : Int32} (hin : xin x (rI μ 13 0 0).toNatClampNeg = true) (hdg : decode cc pc = .ok (.iaload, 1))
    (kk : W p l e R s m args below meth c H locs cells slots Z (F0 m (pc + 1) ls (.int (aI μ 13 0 0 x.toNatClampNeg) :: rest))) : W p l e R s m args below meth c H locs cells slots Z (F0 m pc ls (.int x :: .ref (xad X (13, 0, 1)) :: rest)) := by
  obtain ⟨hx, hb, hml, hown, hts, hK, hC, hX, -, -⟩ := C
  obtain ⟨hP, hS, h1, h2⟩ := hI
  obtain ⟨g1, g2, g3⟩ := hX.2.2.2.1 s s.heap hC
  rw [h2, nI_clamp hX.2.2.2.2.2.2.1] at hin
  rw [h1] at kk
  exact va_sld hx hb g1 g3 g2 hS (xin_vp hin) hdg kk
theorem xr_scl (C : XCt X p R s m args c cc own nL) (hI : XI X s μ H locs) (hdg : decode cc pc = .ok (.arraylength, 1))
    (kk : W p l e R s m args below meth c H locs cells slots Z (F0 m (pc + 1) ls (.int (rI μ 13 0 0) :: rest))) : W p l e R s m args below meth c H locs cells slots Z (F0 m pc ls (.ref (xad X (13, 0, 1)) :: rest)) := by
  obtain ⟨hx, hb, hml, hown, hts, hK, hC, hX, -, -⟩ := C
  obtain ⟨hP, hS, h1, h2⟩ := hI
  obtain ⟨⟨scr, g1, g2, g3, g4, g5⟩, gA, gl⟩ := hX.2.2.2.1 s s.heap hC
  refine W.alen (n := rI μ 13 0 0) hx hb (a := xad X (13, 0, 1)) (cell := scr) (by rw [hS.2.1 _ gl gA]; exact g1) g2 (by rw [g4, h2]; rfl) (g := F0 m pc ls (.ref (xad X (13, 0, 1)) :: rest)) rfl rfl hdg kk
theorem xr_alen (C : XCt X p R s m args c cc own nL) (hI : XI X s μ H locs) {t i j kd n : Nat} (hq : (t, i, j + 1) ∈ xdom) (ha : xarr t j = (kd, n)) (hkd : kd ≤ 5) (hdg : decode cc pc = .ok (.arraylength, 1))
    (kk : W p l e R s m args below meth c H locs cells slots Z (F0 m (pc + 1) ls (.int (nI n) :: rest))) : W p l e R s m args below meth c H locs cells slots Z (F0 m pc ls (.ref (xad X (t, i, j + 1)) :: rest)) := by
  obtain ⟨hx, hb, hml, hown, hts, hK, hC, hX, -, -⟩ := C
  obtain ⟨hP, hS, -⟩ := hI
  obtain ⟨q0, hq0⟩ := xpos hq
  have he := xws_get X μ hq0
  rcases (show kd = 0 ∨ kd = 1 ∨ kd = 2 ∨ kd = 3 ∨ kd = 4 ∨ kd = 5 by omega) with rfl | rfl | rfl | rfl | rfl | rfl
  · rw [xae_i X μ ha (by omega)] at he; exact va_alen hx hb hK hP q0 0 he rfl rfl hdg kk
  · rw [xae_l X μ ha] at he; exact va_alen hx hb hK hP q0 1 he rfl rfl hdg kk
  · rw [xae_i X μ ha (by omega)] at he; exact va_alen hx hb hK hP q0 2 he rfl rfl hdg kk
  · rw [xae_i X μ ha (by omega)] at he; exact va_alen hx hb hK hP q0 3 he rfl rfl hdg kk
  · rw [show xe X μ (t, i, j + 1) = .inl (xcy X 4, n, .inr (.inr (.inr (.inr (fun k => some (xad X (xrow 4 k))))))) by simp [xe, xae, ha]] at he
    exact va_alen hx hb hK hP q0 4 he rfl rfl hdg kk
  · rw [show xe X μ (t, i, j + 1) = .inl (xcy X 5, n, .inr (.inr (.inr (.inr (fun k => some (xad X (xrow 5 k))))))) by simp [xe, xae, ha]] at he
    exact va_alen hx hb hK hP q0 5 he rfl rfl hdg kk
-- arrays: stores
theorem xarr_lt {t j kd n : Nat} (h : xarr t j = (kd, n)) (hk : kd ≤ 5) : t ≠ 13 := by
  intro ht
  subst ht
  rcases j with _ | j
  · have : xarr 13 0 = (8, 0) := rfl
    rw [this] at h; cases h; omega
  · have : xarr 13 (j + 1) = (9, 0) := by simp [xarr]
    rw [this] at h; cases h; omega
theorem xscr_wI {t i j : Nat} {f : Nat → Int32} (h : xscr X μ) (ht : t ≠ 13) : xscr X (wI μ t i j f) := by
  unfold xscr
  rw [aI_wI, rI_wI, if_neg (fun z => ht z.1.symm)]
  exact h
theorem xscr_wL {t i j : Nat} {f : Nat → Int64} (h : xscr X μ) : xscr X (wL μ t i j f) := by
  unfold xscr
  rw [aI_wL, rI_wL]
  exact h
theorem xset_wI (X : XP) (μ : XM) {t i j kd n p : Nat} (f : Nat → Int32) (hp : xdom[p]? = some (t, i, j + 1)) (ha : xarr t j = (kd, n)) (hk : kd = 0 ∨ kd = 2 ∨ kd = 3) :
    (xws X μ).set p (xad X (t, i, j + 1), .inl (xcy X kd, n, .inl f)) = xws X (wI μ t i j f) :=
  xws_set X μ (wI μ t i j f) hp (by rw [xae_i X _ ha hk, aI_wI, if_pos ⟨rfl, rfl, rfl⟩]) (fun q' h => xe_wI X μ t i j f q' h)
theorem xset_wL (X : XP) (μ : XM) {t i j n p : Nat} (f : Nat → Int64) (hp : xdom[p]? = some (t, i, j + 1)) (ha : xarr t j = (1, n)) :
    (xws X μ).set p (xad X (t, i, j + 1), .inl (xcy X 1, n, .inr (.inl f))) = xws X (wL μ t i j f) :=
  xws_set X μ (wL μ t i j f) hp (by rw [xae_l X _ ha, aL_wL, if_pos ⟨rfl, rfl, rfl⟩]) (fun q' h => xe_wL X μ t i j f q' h)
theorem vp_nar_bool {x : Int32} (h : x = 0 ∨ x = 1) : vp_nar .boolean x = x := by
  rcases h with rfl | rfl <;> decide +kernel
theorem xr_st (C : XCt X p R s m args c cc own nL) (hI : XI X s μ H locs) {t i j kd n : Nat} {x v w : Int32} (hq : (t, i, j + 1) ∈ xdom) (ha : xarr t j = (kd, n)) (hin : xin x n = true)
    (hdg : (kd = 0 ∧ w = v ∧ decode cc pc = .ok (.iastore, 1)) ∨ (kd = 2 ∧ w = vp_nar .char v ∧ decode cc pc = .ok (.castore, 1)) ∨ (kd = 3 ∧ w = v ∧ (v = 0 ∨ v = 1) ∧ decode cc pc = .ok (.bastore, 1)))
    (kk : ∀ H1 locs1, XI X s (pI μ t i j x.toNatClampNeg w) H1 locs1 → W p l e R s m args below meth c H1 locs1 cells slots Z (F0 m (pc + 1) ls rest)) : W p l e R s m args below meth c H locs cells slots Z (F0 m pc ls (.int v :: .int x :: .ref (xad X (t, i, j + 1)) :: rest)) := by
  obtain ⟨hx, hb, hml, hown, hts, hK, hC, hX, -, -⟩ := C
  obtain ⟨hP, hS, hscr⟩ := hI
  obtain ⟨q0, hq0⟩ := xpos hq
  have he := xws_get X μ hq0
  rw [xae_i X μ ha (by omega)] at he
  have ht : t ≠ 13 := xarr_lt ha (by omega)
  rcases hdg with ⟨rfl, rfl, hdg⟩ | ⟨rfl, rfl, hdg⟩ | ⟨rfl, rfl, hv, hdg⟩
  · refine va_iast (A := xA X) (H0 := s.heap) hx hb hK hP (hX.1 μ) hS q0 0 he rfl (xin_vp hin) hdg (fun H1 locs1 hP1 _ hS1 => kk H1 locs1 ⟨?_, hS1, xscr_wI hscr ht⟩)
    rw [xset_wI X μ _ hq0 ha (by omega)] at hP1; exact hP1
  · refine va_cast (A := xA X) (H0 := s.heap) hx hb hK hP (hX.1 μ) hS q0 2 he rfl (xin_vp hin) hdg (fun H1 locs1 hP1 _ hS1 => kk H1 locs1 ⟨?_, hS1, xscr_wI hscr ht⟩)
    rw [xset_wI X μ _ hq0 ha (by omega)] at hP1; exact hP1
  · refine va_zast (A := xA X) (H0 := s.heap) hx hb hK hP (hX.1 μ) hS q0 3 he rfl (xin_vp hin) hdg (fun H1 locs1 hP1 _ hS1 => kk H1 locs1 ⟨?_, hS1, xscr_wI hscr ht⟩)
    rw [vp_nar_bool hv, xset_wI X μ _ hq0 ha (by omega)] at hP1; exact hP1
theorem xr_stl (C : XCt X p R s m args c cc own nL) (hI : XI X s μ H locs) {t i j n : Nat} {x : Int32} {v : Int64} (hq : (t, i, j + 1) ∈ xdom) (ha : xarr t j = (1, n)) (hin : xin x n = true) (hdg : decode cc pc = .ok (.lastore, 1))
    (kk : ∀ H1 locs1, XI X s (pL μ t i j x.toNatClampNeg v) H1 locs1 → W p l e R s m args below meth c H1 locs1 cells slots Z (F0 m (pc + 1) ls rest)) : W p l e R s m args below meth c H locs cells slots Z (F0 m pc ls (.long v :: .int x :: .ref (xad X (t, i, j + 1)) :: rest)) := by
  obtain ⟨hx, hb, hml, hown, hts, hK, hC, hX, -, -⟩ := C
  obtain ⟨hP, hS, hscr⟩ := hI
  obtain ⟨q0, hq0⟩ := xpos hq
  have he := xws_get X μ hq0
  rw [xae_l X μ ha] at he
  refine va_last (A := xA X) (H0 := s.heap) hx hb hK hP (hX.1 μ) hS q0 1 he rfl (xin_vp hin) hdg (fun H1 locs1 hP1 _ hS1 => kk H1 locs1 ⟨?_, hS1, xscr_wL hscr⟩)
  rw [xset_wL X μ _ hq0 ha] at hP1; exact hP1
/-- the JDK's functions that are rows here: 1 max, 2 min, 3 abs, 4 arraycopy -/
def xjd (own : String) (q : Nat × Nat) : Prop :=
  (q.2 = 1 ∧ Cond.methodLink own q.1 Lib.Math.max.name ∈ xG ∧ Cond.static Lib.Math.max.name ∈ xG ∧ Cond.initialized "java/lang/Math" ∈ xG ∧ Cond.code Lib.Math.max.name Lib.Math.max.code 2 (some .int) ∈ xG) ∨
  (q.2 = 2 ∧ Cond.methodLink own q.1 Lib.Math.min.name ∈ xG ∧ Cond.static Lib.Math.min.name ∈ xG ∧ Cond.initialized "java/lang/Math" ∈ xG ∧ Cond.code Lib.Math.min.name Lib.Math.min.code 2 (some .int) ∈ xG) ∨
  (q.2 = 3 ∧ Cond.methodLink own q.1 Lib.Math.abs.name ∈ xG ∧ Cond.static Lib.Math.abs.name ∈ xG ∧ Cond.initialized "java/lang/Math" ∈ xG ∧ Cond.code Lib.Math.abs.name Lib.Math.abs.code 1 (some .int) ∈ xG) ∨
  (q.2 = 4 ∧ Cond.methodLink own q.1 arraycopyName ∈ xG ∧ Cond.native arraycopyName ∈ xG ∧ Cond.static arraycopyName ∈ xG ∧ Cond.initialized "java/lang/System" ∈ xG)
theorem xcpok_of {sp dp n : Int32} {n0 n1 : Nat} (h : xcpok sp dp n n0 n1 = true) : ¬ sp < 0 ∧ ¬ dp < 0 ∧ ¬ n < 0 ∧ sp.toNatClampNeg + n.toNatClampNeg ≤ n0 ∧ dp.toNatClampNeg + n.toNatClampNeg ≤ n1 := by
  simp only [xcpok, Bool.and_eq_true, Bool.not_eq_true', decide_eq_false_iff_not, decide_eq_true_eq] at h
  exact ⟨h.1.1.1.1, h.1.1.1.2, h.1.1.2, h.1.2, h.2⟩
theorem xnfw : nativeFrameWords "java/lang/System" "arraycopy" 5 ≤ 60 := by decide +kernel
theorem xr_cpi (C : XCt X p R s m args c cc own nL) (hls : ls.size = nL) (hI : XI X s μ H locs) {t0 i0 j0 t1 i1 j1 n0 n1 idx : Nat} {sp dp n : Int32} (hj : xjd own (idx, 4)) (hq0 : (t0, i0, j0 + 1) ∈ xdom) (hq1 : (t1, i1, j1 + 1) ∈ xdom) (ha0 : xarr t0 j0 = (0, n0)) (ha1 : xarr t1 j1 = (0, n1)) (hok : xcpok sp dp n n0 n1 = true) (hr : (rest.map fun v => v.category).sum ≤ 8) (hdg : decode cc pc = .ok (.invokestatic idx, 3))
    (kk : ∀ H1 locs1, XI X s (wI μ t1 i1 j1 (va_cpy (aI μ t0 i0 j0) (aI μ t1 i1 j1) sp.toNatClampNeg dp.toNatClampNeg n.toNatClampNeg)) H1 locs1 → W p l e R s m args below meth c H1 locs1 cells slots Z (F0 m (pc + 3) ls rest)) : W p l e R s m args below meth c H locs cells slots Z (F0 m pc ls (.int n :: .int dp :: .ref (xad X (t1, i1, j1 + 1)) :: .int sp :: .ref (xad X (t0, i0, j0 + 1)) :: rest)) := by
  obtain ⟨hx, hb, hml, hown, hts, hK, hC, hX, hfr, hlo⟩ := C
  obtain ⟨hP, hS, hscr⟩ := hI
  obtain ⟨z, -⟩ | ⟨z, -⟩ | ⟨z, -⟩ | ⟨-, w1, w2, w3, w4⟩ := hj
  · cases z
  · cases z
  · cases z
  obtain ⟨p0, hp0⟩ := xpos hq0
  obtain ⟨p1, hp1⟩ := xpos hq1
  have he0 := xws_get X μ hp0
  have he1 := xws_get X μ hp1
  rw [xae_i X μ ha0 (by omega)] at he0
  rw [xae_i X μ ha1 (by omega)] at he1
  obtain ⟨k1, k2, k3, k4, k5⟩ := xcpok_of hok
  have hrm : (rest.map fun v => v.category).sum + (nativeFrameWords "java/lang/System" "arraycopy" 5 + 11) ≤ R.locals := by
    have := xnfw
    omega
  refine va_copyi (A := xA X) (H0 := s.heap) hx hb (by rw [hml, hls]) hown (hts _ w1) (hts _ w2) (hts _ w3) (hts _ w4) hK hP (hX.1 μ) hS p0 p1 0 0 he0 he1 rfl rfl rfl k1 k2 k3 k4 k5 (fun _ _ => rfl) hfr hrm hdg (fun H1 locs1 hP1 _ hS1 => kk H1 locs1 ⟨?_, hS1, xscr_wI hscr (xarr_lt ha1 (by omega))⟩)
  rw [xset_wI X μ _ hp1 ha1 (by omega)] at hP1; exact hP1
theorem xr_cpl (C : XCt X p R s m args c cc own nL) (hls : ls.size = nL) (hI : XI X s μ H locs) {t0 i0 j0 t1 i1 j1 n0 n1 idx : Nat} {sp dp n : Int32} (hj : xjd own (idx, 4)) (hq0 : (t0, i0, j0 + 1) ∈ xdom) (hq1 : (t1, i1, j1 + 1) ∈ xdom) (ha0 : xarr t0 j0 = (1, n0)) (ha1 : xarr t1 j1 = (1, n1)) (hok : xcpok sp dp n n0 n1 = true) (hr : (rest.map fun v => v.category).sum ≤ 8) (hdg : decode cc pc = .ok (.invokestatic idx, 3))
    (kk : ∀ H1 locs1, XI X s (wL μ t1 i1 j1 (va_cpy (aL μ t0 i0 j0) (aL μ t1 i1 j1) sp.toNatClampNeg dp.toNatClampNeg n.toNatClampNeg)) H1 locs1 → W p l e R s m args below meth c H1 locs1 cells slots Z (F0 m (pc + 3) ls rest)) : W p l e R s m args below meth c H locs cells slots Z (F0 m pc ls (.int n :: .int dp :: .ref (xad X (t1, i1, j1 + 1)) :: .int sp :: .ref (xad X (t0, i0, j0 + 1)) :: rest)) := by
  obtain ⟨hx, hb, hml, hown, hts, hK, hC, hX, hfr, hlo⟩ := C
  obtain ⟨hP, hS, hscr⟩ := hI
  obtain ⟨z, -⟩ | ⟨z, -⟩ | ⟨z, -⟩ | ⟨-, w1, w2, w3, w4⟩ := hj
  · cases z
  · cases z
  · cases z
  obtain ⟨p0, hp0⟩ := xpos hq0
  obtain ⟨p1, hp1⟩ := xpos hq1
  have he0 := xws_get X μ hp0
  have he1 := xws_get X μ hp1
  rw [xae_l X μ ha0] at he0
  rw [xae_l X μ ha1] at he1
  obtain ⟨k1, k2, k3, k4, k5⟩ := xcpok_of hok
  have hrm : (rest.map fun v => v.category).sum + (nativeFrameWords "java/lang/System" "arraycopy" 5 + 11) ≤ R.locals := by
    have := xnfw
    omega
  refine va_copyl (A := xA X) (H0 := s.heap) hx hb (by rw [hml, hls]) hown (hts _ w1) (hts _ w2) (hts _ w3) (hts _ w4) hK hP (hX.1 μ) hS p0 p1 1 1 he0 he1 rfl rfl rfl k1 k2 k3 k4 k5 (fun _ _ => rfl) hfr hrm hdg (fun H1 locs1 hP1 _ hS1 => kk H1 locs1 ⟨?_, hS1, xscr_wL hscr⟩)
  rw [xset_wL X μ _ hp1 ha1] at hP1; exact hP1
end
