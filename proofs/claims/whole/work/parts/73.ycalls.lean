/-! THE MAKING: calls, one row, a body, a contract -/
set_option maxRecDepth 20000 in
theorem yO1 : Cond.instanceMethod Lib.objectInit ∈ xG := xG_k xT_1 32 rfl rfl
set_option maxRecDepth 20000 in
theorem yO2 : Cond.code Lib.objectInit ⟨#[0xb1]⟩ 1 none ∈ xG := xG_k xT_1 33 rfl rfl
def yslt (q : XQ) : Nat := match q with | (t, _, 0) => (xlay t).length | (t, _, j + 1) => (xarr t j).2
def ysl (n : Nat) : Nat := ((ynl.take n).map yslt).sum
theorem ysl_succ {n : Nat} {q : XQ} (h : ynl[n]? = some q) : ysl (n + 1) = ysl n + yslt q := by
  unfold ysl; rw [ytk_succ h, List.map_append, List.sum_append]; simp
theorem ysl_1 (n : Nat) : ysl n ≤ ysl (n + 1) := by
  cases h : ynl[n]? with
  | none =>
    have hl := List.getElem?_eq_none_iff.mp h
    unfold ysl
    rw [List.take_of_length_le hl, List.take_of_length_le (by omega)]
    exact Nat.le_refl _
  | some q => rw [ysl_succ h]; omega
theorem ysl_le {n m : Nat} (h : n ≤ m) : ysl n ≤ ysl m := by
  induction h with
  | refl => exact Nat.le_refl _
  | step _ ih => exact Nat.le_trans ih (ysl_1 _)
def yrm (n mc ms : Nat) : Room := { frames := n, cells := mc, slots := ms, locals := 40 * n + 100 }
def YW (P : YP) (ad : XQ → Nat) (S : YS) (U : State) : Prop := va_P P.1 xcl (yws (yX P ad) S) U.heap ∧ va_D P.2.2 (yws (yX P ad) S) ∧ YV S ∧ va_K P.1 xcl (ytys P) U ∧ (∀ q, U.heap.size ≤ q → P.2.2 q) ∧ va_AO xR8 U ∧ va_AO xR5 U ∧ YNW U
def YB (P : YP) (S' : YS) (ad' : XQ → Nat) (t : State) : Prop := va_P P.1 xcl (yws (yX P ad') S') t.heap ∧ va_D P.2.2 (yws (yX P ad') S') ∧ YV S'
def yQ (P : YP) (ad : XQ → Nat) (S : YS) (r : Option XV) (S' : YS) : Array Value → State → Outcome → State → Prop := match r with
  | none => va_Qv (S := XQ → Nat) (fun ad' => ∀ q ∈ ynl.take S.1, ad' q = ad q) (fun ad' t => YB P S' ad' t) P.2.2
  | some (.inl x) => va_Qi (S := XQ → Nat) (fun z ad' => z = x ∧ ∀ q ∈ ynl.take S.1, ad' q = ad q) (fun ad' t => YB P S' ad' t) P.2.2
  | _ => fun _ _ _ _ => True
def CtrY (P : YP) (l : Launch) (y : MethodName) (bytes : ByteArray) (maxL : Nat) (ret : Option FieldType) (fr mc : Nat) (F : YF) : Prop :=
  ∀ (ad : XQ → Nat) (av : List XV) (S : YS) (r : Option XV) (S' : YS), (∀ v ∈ av, ylv S.1 v) → F av S = some (r, S') →
    Met l y (Cond.code y bytes maxL ret :: xG) (yrm fr mc (ysl (S.1 + mc) - ysl S.1)) (va_Pc (av.map (xc (yX P ad))) (YW P ad S)) (yQ P ad S r S') mc (ysl (S.1 + mc) - ysl S.1) P.2.2
def ymk (mc : Nat) (F : YF) : Prop := ∀ av S r S', F av S = some (r, S') → S'.1 = S.1 + mc ∧ (∀ q, r ≠ some (.inr q))
def ycal (P : YP) (l : Launch) (Rf Rl : Nat) (own : String) (q : Nat × Nat × Nat × Nat × YF) : Prop :=
  ∃ (y : MethodName) (bytes : ByteArray) (maxL : Nat) (ret : Option FieldType) (fr n : Nat), CtrY P l y bytes maxL ret fr q.2.2.2.1 q.2.2.2.2 ∧ ymk q.2.2.2.1 q.2.2.2.2 ∧ Cond.code y bytes maxL ret ∈ xG ∧ Cond.initialized y.cls ∈ xG ∧ (y.cls ≠ "java/lang/invoke/MethodHandle" ∧ y.cls ≠ "java/lang/invoke/VarHandle") ∧ Cond.instanceMethod y ∈ xG ∧ (fr + 1 ≤ Rf ∧ 8 + (maxL + 11) + (40 * fr + 100) ≤ Rl) ∧
    (xcl[q.2.2.1]?).map (fun q => q.1) = some y.cls ∧ q.2.1 = n + 1 ∧ (parseMethodDescriptor y.desc).map (fun d => d.parameters.length) = some n ∧
    ((q.1 < 100000 ∧ y.name = "<init>" ∧ ret = none ∧ (Cond.methodLink own q.1 y ∈ xG ∨ (own, q.1, y) ∈ ynk)) ∨ (∃ i, q.1 = i + 100000 ∧ Cond.methodLink own i y ∈ xG ∧ Cond.selects y.cls y y ∈ xG))
theorem yW_blind (P : YP) (ad : XQ → Nat) (S : YS) (av : List Value) : FrameBlind (va_Pc av (YW P ad S)) := by
  intro a U g mk h
  obtain ⟨h0, h1, h2, h3, h4, h5, h6, h7, h8⟩ := h
  exact ⟨h0, h1, h2, h3, va_K.moved (u := U) (U := U.calling g mk a) (Vm.Alike.refl U.vm) h4, h5, va_AO.moved (u := U) (U := U.calling g mk a) (Vm.Alike.refl U.vm) h6, va_AO.moved (u := U) (U := U.calling g mk a) (Vm.Alike.refl U.vm) h7, fun q hq => va_Nw.same rfl (u := U) (U := U.calling g mk a) rfl (h8 q hq)⟩
section
variable {p : Program} {l : Launch} {e : Env} {R : Room} {s : State} {m : MethodId} {args : Array Value} {below : List Frame} {meth : Method} {c : Code} {Z : State → Prop} {cc : ByteArray} {y : MethodName} {P : YP} {ad : XQ → Nat} {nL : Nat} {S : YS} {H : Heap} {locs : List Loc} {cells slots pc : Nat} {ls : Array Slot}
theorem yW_now (C : YCt P p R s m args meth c cc y nL) (hI : YI P ad s S H locs) {U : State} (hU : U.heap = H) (hW : s.WarmedH U.vm) : YW P ad S U := by
  obtain ⟨hx, hb, hml, hown, hts, hK, hA, -, -, ⟨ha1, ha2, hnw⟩, -⟩ := C
  obtain ⟨hP, hD, hS, hV⟩ := hI
  refine ⟨by rw [hU]; exact hP, hD, hV, va_K.moved hW.alike hK, fun q hq => hA q (Nat.le_trans hS.1 (by rw [hU] at hq; exact hq)), va_AO.moved hW.alike ha1, va_AO.moved hW.alike ha2, fun q hq => va_Nw.warmM hW (hnw q hq)⟩
theorem yr_back (hI : YI P ad s S H locs) {st0 rest : List Value} {mc ms : Nat} {a : Array Value} {r : Option XV} {S' : YS} (hr0 : ∀ q, r ≠ some (.inr q))
    (hr : va_Run p l e R s m args below meth c H locs cells slots mc ms (F0 m pc ls st0) rest (yQ P ad S r S' a) P.2.2)
    (kk : ∀ ad' H1 locs1, (∀ q ∈ ynl.take S.1, ad' q = ad q) → YI P ad' s S' H1 locs1 → W p l e R s m args below meth c H1 locs1 (cells + mc) (slots + ms) Z (F0 m (pc + 3) ls ((r.toList).map (xc (yX P ad')) ++ rest))) : W p l e R s m args below meth c H locs cells slots Z (F0 m pc ls st0) := by
  rcases r with _ | x | q
  · exact va_callv (a := a) hr hI.2.2.1 (fun _ _ h => h) (fun _ h => h) (fun u t H1 locs1 ht hvm hw hB hz hk hS => kk u H1 locs1 hw ⟨by rw [← ht]; exact hB.1, hB.2.1, hS, hB.2.2⟩)
  · refine va_calli (a := a) hr hI.2.2.1 (fun _ _ h => h) (fun _ h => h) (fun z u t H1 locs1 ht hvm hw hB hz hk hS => ?_)
    rw [show z = x from hw.1]
    exact kk u H1 locs1 hw.2 ⟨by rw [← ht]; exact hB.1, hB.2.1, hS, hB.2.2⟩
  · exact absurd rfl (hr0 q)
theorem yrecv (C : YCt P p R s m args meth c cc y nL) (hI : YI P ad s S H locs) {t i : Nat} {C1 : String} (hq : (t, i, 0) ∈ ynl.take S.1) (hc : (xcl[t]?).map (fun q => q.1) = some C1) : ∃ cellB : Cell, H[ad (t, i, 0)]? = some cellB ∧ cellB.vm.isStatics = false ∧ s.vm.findClass C1 = some cellB.cls := by
  obtain ⟨q0, -, he⟩ := yws_pos (X := yX P ad) hq
  obtain ⟨C2, T1, N1, hcl⟩ := xcl_of (yln_o (ytk_in hq))
  rw [hcl] at hc
  obtain rfl : C2 = C1 := Option.some.inj hc
  exact va_recv (q0 := q0) C.2.2.2.2.2.1 hI.1 hcl he
theorem yr_callS (C : YCt P p R s m args meth c cc y nL) (hls : ls.size = nL) (hI : YI P ad s S H locs) {idx tg mc i n : Nat} {F : YF} {yy : MethodName} {bytes : ByteArray} {maxL fr : Nat} (hCtr : CtrY P l yy bytes maxL none fr mc F) (hmk : ymk mc F) (hcode : Cond.code yy bytes maxL none ∈ xG) (hini : Cond.initialized yy.cls ∈ xG) (hy : yy.cls ≠ "java/lang/invoke/MethodHandle" ∧ yy.cls ≠ "java/lang/invoke/VarHandle") (hinst : Cond.instanceMethod yy ∈ xG) (hR : fr + 1 ≤ R.frames ∧ 8 + (maxL + 11) + (40 * fr + 100) ≤ R.locals) (hpar : (parseMethodDescriptor yy.desc).map (fun d => d.parameters.length) = some n) (hname : yy.name = "<init>") (hlink : Cond.methodLink y.cls idx yy ∈ xG ∨ (y.cls, idx, yy) ∈ ynk)
    {bs rest : List XV} (hok : ∀ v ∈ (xr tg i 0 :: bs), ylv S.1 v) (hlen : bs.length = n) {r : Option XV} {S' : YS} (hF : F (xr tg i 0 :: bs) S = some (r, S')) (hsum : xsum rest ≤ 8) (hdg : decode cc pc = .ok (.invokespecial idx, 3)) (hcap : cells + mc ≤ R.cells ∧ slots + (ysl (S.1 + mc) - ysl S.1) ≤ R.slots)
    (kk : ∀ ad' H1 locs1, (∀ q ∈ ynl.take S.1, ad' q = ad q) → YI P ad' s S' H1 locs1 → W p l e R s m args below meth c H1 locs1 (cells + mc) (slots + (ysl (S.1 + mc) - ysl S.1)) Z (F0 m (pc + 3) ls ((r.toList).map (xc (yX P ad')) ++ rest.map (xc (yX P ad))))) :
    W p l e R s m args below meth c H locs cells slots Z (F0 m pc ls ((bs.reverse ++ xr tg i 0 :: rest).map (xc (yX P ad)))) := by
  have hts := C.2.2.2.2.1
  have hMet := hCtr ad (xr tg i 0 :: bs) S r S' hok hF
  have hr0 := (hmk _ _ _ _ hF).2
  rcases hlink with hlink | hlink
  · have hrun := va_runI (p := p) (e := e) (R := R) (m := m) (below := below) (meth := meth) (H := H) (locs := locs) (cells := cells) (slots := slots) (As := bs.map (xc (yX P ad))) (rest := rest.map (xc (yX P ad))) (b := ad (tg, i, 0)) (n := n) (index := idx) (g := F0 m pc ls ((bs.reverse ++ xr tg i 0 :: rest).map (xc (yX P ad)))) ⟨C.1, C.2.1, C.2.2.1, C.2.2.2.1, hts⟩ hMet
      (cwI n hts (xG_GoodIn hcode) rfl rfl rfl (hts _ hini) (hts _ hlink) (hts _ hinst) hname ⟨hy.1, hy.2, hpar⟩ hR)
      ⟨yW_blind P ad S _, fun U hU hW => ⟨rfl, yW_now C hI hU hW⟩⟩ rfl (by simp [hlen]) hls (by simp [xc]) (lv_room (by rw [xsum_xc]; exact hsum)) hdg hcap
    exact yr_back hI hr0 hrun kk
  · have hrun := va_runIN (p := p) (e := e) (R := R) (m := m) (below := below) (meth := meth) (H := H) (locs := locs) (cells := cells) (slots := slots) (As := bs.map (xc (yX P ad))) (rest := rest.map (xc (yX P ad))) (b := ad (tg, i, 0)) (n := n) (index := idx) (g := F0 m pc ls ((bs.reverse ++ xr tg i 0 :: rest).map (xc (yX P ad)))) ⟨C.1, C.2.1, C.2.2.1, C.2.2.2.1, hts⟩ hMet
      ⟨va_cnB n hts (xG_GoodIn hcode) rfl rfl rfl (C.2.2.2.2.2.2.2.2.2.1.2.2 _ hlink) (hts _ hini) ⟨hy.1, hy.2, hpar⟩ hR, hname, hts _ hinst⟩
      ⟨yW_blind P ad S _, fun U hU hW => ⟨rfl, yW_now C hI hU hW⟩⟩ rfl (by simp [hlen]) hls (by simp [xc]) (lv_room (by rw [xsum_xc]; exact hsum)) hdg hcap
    exact yr_back hI hr0 hrun kk
theorem yr_callV (C : YCt P p R s m args meth c cc y nL) (hls : ls.size = nL) (hI : YI P ad s S H locs) {idx tg mc i n : Nat} {F : YF} {yy : MethodName} {bytes : ByteArray} {maxL fr : Nat} {ret : Option FieldType} (hCtr : CtrY P l yy bytes maxL ret fr mc F) (hmk : ymk mc F) (hcode : Cond.code yy bytes maxL ret ∈ xG) (hini : Cond.initialized yy.cls ∈ xG) (hy : yy.cls ≠ "java/lang/invoke/MethodHandle" ∧ yy.cls ≠ "java/lang/invoke/VarHandle") (hinst : Cond.instanceMethod yy ∈ xG) (hR : fr + 1 ≤ R.frames ∧ 8 + (maxL + 11) + (40 * fr + 100) ≤ R.locals) (hpar : (parseMethodDescriptor yy.desc).map (fun d => d.parameters.length) = some n) (hlink : Cond.methodLink y.cls idx yy ∈ xG) (hsel : Cond.selects yy.cls yy yy ∈ xG) (hcls : (xcl[tg]?).map (fun q => q.1) = some yy.cls)
    {bs rest : List XV} (hok : ∀ v ∈ (xr tg i 0 :: bs), ylv S.1 v) (hlen : bs.length = n) {r : Option XV} {S' : YS} (hF : F (xr tg i 0 :: bs) S = some (r, S')) (hsum : xsum rest ≤ 8) (hdg : decode cc pc = .ok (.invokevirtual idx, 3)) (hcap : cells + mc ≤ R.cells ∧ slots + (ysl (S.1 + mc) - ysl S.1) ≤ R.slots)
    (kk : ∀ ad' H1 locs1, (∀ q ∈ ynl.take S.1, ad' q = ad q) → YI P ad' s S' H1 locs1 → W p l e R s m args below meth c H1 locs1 (cells + mc) (slots + (ysl (S.1 + mc) - ysl S.1)) Z (F0 m (pc + 3) ls ((r.toList).map (xc (yX P ad')) ++ rest.map (xc (yX P ad))))) :
    W p l e R s m args below meth c H locs cells slots Z (F0 m pc ls ((bs.reverse ++ xr tg i 0 :: rest).map (xc (yX P ad)))) := by
  have hts := C.2.2.2.2.1
  have hMet := hCtr ad (xr tg i 0 :: bs) S r S' hok hF
  have hr0 := (hmk _ _ _ _ hF).2
  have hrecv := yrecv C hI (hok _ List.mem_cons_self) hcls
  have hrun := va_runV (p := p) (e := e) (R := R) (m := m) (below := below) (meth := meth) (H := H) (locs := locs) (cells := cells) (slots := slots) (As := bs.map (xc (yX P ad))) (rest := rest.map (xc (yX P ad))) (b := ad (tg, i, 0)) (C := yy.cls) (n := n) (index := idx) (g := F0 m pc ls ((bs.reverse ++ xr tg i 0 :: rest).map (xc (yX P ad)))) ⟨C.1, C.2.1, C.2.2.1, C.2.2.2.1, hts⟩ hMet
    ⟨callB_of n hts (xG_GoodIn hcode) rfl rfl rfl (hts _ hini) (hts _ hlink) ⟨hy.1, hy.2, hpar⟩ hR, hts _ hinst, hts _ hsel⟩
    ⟨yW_blind P ad S _, hrecv, fun U hU hW => ⟨rfl, yW_now C hI hU hW⟩⟩ rfl (by simp [hlen]) hls (by simp [xc]) (lv_room (by rw [xsum_xc]; exact hsum)) hdg hcap
  exact yr_back hI hr0 hrun kk
end
