/-! RESTS: the component's throws, the law's own catches -/
abbrev rsE : String := "java/util/NoSuchElementException"
abbrev rsA : List Cond := vx_at0 xR11 333 rsE ["java/lang/RuntimeException", "java/lang/Exception"]
theorem rsA_x : ∀ w ∈ rsA.filter goodWord, w ∈ lw_tbl := by decide +kernel
theorem rsA_o : ∀ w ∈ rsA, vx_ot w = true := by decide +kernel
def rsB : List Cond := [.castable rsE rsE, .declares (Bundle.init0 "java/lang/RuntimeException"), .declares (Bundle.init0 "java/lang/Exception"), .declares (Bundle.init0 Bundle.tN)]
theorem rsA_b : ∀ w ∈ rsA.filter (fun w => !goodWord w), w ∈ rsB := by decide +kernel
theorem rsB_moved {u U : State} (hal : u.vm.Alike U.vm) (h : ∀ w ∈ rsB, w.before #[] u = true) : ∀ w ∈ rsB, w.before #[] U = true := by
  intro w hw
  have h1 := h w hw
  simp only [rsB, List.mem_cons, List.not_mem_nil, or_false] at hw
  rcases hw with rfl | rfl | rfl | rfl
  · exact va_tabs (u := u.setVm U.vm) rfl rfl (by rw [Cond.castable_setVm hal]; exact h1)
  all_goals exact va_tabs (u := u.setVm U.vm) rfl rfl (by rw [Cond.declares_setVm hal]; exact h1)
/-- what the throw asks of the world -/
def RsC (A : Nat → Prop) (U : State) (H : Heap) : Prop := (∀ w ∈ rsB, w.before #[] U = true) ∧ vx_Zq Bundle.tN "UNASSIGNED_STACK" Bundle.steD A U H ∧ vx_Zq Bundle.tN "SUPPRESSED_SENTINEL" Bundle.listD A U H
theorem RsC.moved {A : Nat → Prop} {u U : State} {H : Heap} (hal : u.vm.Alike U.vm) (h : RsC A u H) : RsC A U H := ⟨rsB_moved hal h.1, vx_Zq.moved hal h.2.1, vx_Zq.moved hal h.2.2⟩
theorem RsC.kept {A : Nat → Prop} {U : State} {H H1 : Heap} (h : RsC A U H) (hq : ∀ a : Nat, a < H.size → ¬ A a → H1[a]? = H[a]?) : RsC A U H1 := ⟨h.1, h.2.1.kept hq, h.2.2.kept hq⟩
theorem rs_tab : xtab xR11 prog_1_method_50_code true fl11 cl11 ll11 jl11 t11_rests := ⟨by decide +kernel, flk11, clk11, llk11, jlk11⟩
theorem rs_out {cc : ByteArray} {pc : Nat} (h : ¬ pc < cc.size) (r : Instr × Nat) : decode cc pc ≠ .ok r := by
  intro hr
  have h1 : (ClassFile.Reader.u1 : ClassFile.Decoder Nat) cc pc = .error (ClassFile.HasTruncated.truncated pc) := by
    unfold ClassFile.Reader.u1
    show (if h : pc < cc.size then _ else _ : ClassFile.Decoder Nat) cc pc = _
    rw [dif_neg h]
    rfl
  have h2 : ∃ (g : Nat × Nat → Except ClassFile.DecodeError (Instr × Nat)) (k : Instr × Nat → Except ClassFile.DecodeError (Instr × Nat)), decode cc pc = Except.bind (Except.bind ((ClassFile.Reader.u1 : ClassFile.Decoder Nat) cc pc) g) k := ⟨_, _, rfl⟩
  obtain ⟨g, k, h2⟩ := h2
  rw [h2, h1] at hr
  cases hr
theorem rs_new {pc idx : Nat} (h : decode prog_1_method_50_code pc = .ok (.new idx, 3)) : (pc = 21 ∨ pc = 152) ∧ idx = 331 := by
  by_cases hp : pc < prog_1_method_50_code.size
  · have h0 : (List.range prog_1_method_50_code.size).all (fun k => match decode prog_1_method_50_code k with | .ok (.new i, 3) => (Nat.beq k 21 || Nat.beq k 152) && Nat.beq i 331 | _ => true) = true := by decide +kernel
    have h1 := List.all_eq_true.mp h0 pc (List.mem_range.mpr hp)
    rw [h] at h1
    simp only [Bool.and_eq_true, Bool.or_eq_true] at h1
    exact ⟨h1.1.imp Nat.eq_of_beq_eq_true Nat.eq_of_beq_eq_true, Nat.eq_of_beq_eq_true h1.2⟩
  · exact absurd h (rs_out hp _)
section
variable {p : Program} {l : Launch} {e : Env} {R : Room} {s : State} {m : MethodId} {args : Array Value} {below : List Frame} {meth : Method} {c : Code} {H : Heap} {locs : List Loc} {cells slots : Nat} {free : Addr → Prop} {ls : Array Slot} {rest : List Value}
variable {Qc : Array Value → State → Outcome → State → Prop} {XC : String → State → State → Prop}
theorem rs_throw0 {cc : ByteArray} {pc : Nat} (hexec : p.tables.exec = Jvm.exec) (hb : c.code = cc) (hl : l.stackTraces = false) {own cls : String} {names : List String} {ik ic mc ms : Nat} {A : Nat → Prop}
    (hown : s.vm.findClass own = some m.cls) (hcls : Bundle.fit cls = true) (hnames : ∀ n ∈ names, Bundle.fit n = true)
    (hk : (Cond.classLink own ik cls).before args s = true) (hini : (Cond.initialized cls).before args s = true) (hat : ∀ w ∈ vx_at0 own ic cls names, w.before args s = true)
    (hgood : ∀ w ∈ Cond.classLink own ik cls :: Cond.initialized cls :: vx_at0 own ic cls names, vx_ot w = true)
    (hU : vx_Zq Bundle.tN "UNASSIGNED_STACK" Bundle.steD A s s.heap) (hN : vx_Zq Bundle.tN "SUPPRESSED_SENTINEL" Bundle.listD A s s.heap) (hS : va_S A s.heap H locs) (hsize : ls.size = c.maxLocals)
    (d0 : decode cc pc = .ok (.new ik, 3)) (d3 : decode cc (pc + 3) = .ok (.dup, 1)) (d4 : decode cc (pc + 4) = .ok (.invokespecial ic, 3)) (d7 : decode cc (pc + 7) = .ok (.athrow, 1))
    (hout : ∀ x ∈ c.exceptionTable.toList, covers x (pc + 7) = false)
    (hRframes : names.length + 3 < R.frames) (hRlocals : (rest.map fun v => v.category).sum + (13 * (names.length + 1) + 42) ≤ R.locals) (hRcells : cells + 1 ≤ R.cells) (hRslots : slots + 6 ≤ R.slots) (hlocks : meth.locks = false)
    (hx : ∀ t : State, s.WarmedH t.vm → H.size ≤ t.heap.size → (∀ q : Nat, q < H.size → t.heap[q]? = H[q]?) → XC cls s t)
    (hf : ∀ z ∈ locs, free z.base) (hc : cells + 1 ≤ mc) (hs : slots + 6 ≤ ms) :
    W p l e R s m args below meth c H locs cells slots (vx_MQ below Qc XC args s mc ms free) (F0 m pc ls rest) := by
  intro T hT X
  have htr : e.platform.stackTraces = false := (show e.platform.stackTraces = l.stackTraces by rw [X.admits.platform]).trans hl
  have Y := vx_rebase X (R' := { frames := R.frames, locals := R.locals, cells := 1, slots := 6 }) (Nat.le_refl _) (Nat.le_refl _) hRcells hRslots
  obtain ⟨s', hA⟩ : ∃ z, z = (T.setVm s.vm).setFrames (.invoking m args :: below) := ⟨_, rfl⟩
  rw [← hA] at Y
  have hvm : s'.vm = s.vm := by rw [hA]; rfl
  have hhp : s'.heap = H := by rw [hA]; exact hT
  have hW0 : s.WarmedH s'.vm := by rw [hvm]; exact State.WarmedH.refl s
  have hat' : ∀ w ∈ vx_at0 own ic cls names, w.before args s' = true := fun w hw => vx_ot_at hW0 hvm.symm (hgood w (List.mem_cons_of_mem _ (List.mem_cons_of_mem _ hw))) (hat w hw)
  have hk' : (Cond.classLink own ik cls).before args s' = true := vx_ot_at hW0 hvm.symm (hgood _ List.mem_cons_self) hk
  have hini' : (Cond.initialized cls).before args s' = true := vx_ot_at hW0 hvm.symm (hgood _ (List.mem_cons_of_mem _ List.mem_cons_self)) hini
  have hU' : vx_Zq Bundle.tN "UNASSIGNED_STACK" Bundle.steD A s' s'.heap := by rw [hhp]; exact vx_Zq.moved hW0.alike (hU.kept hS.2.1)
  have hN' : vx_Zq Bundle.tN "SUPPRESSED_SENTINEL" Bundle.listD A s' s'.heap := by rw [hhp]; exact vx_Zq.moved hW0.alike (hN.kept hS.2.1)
  have h : ∀ w ∈ Bundle.ownAtoms0 own ic cls names, w.before args s' = true := vx_own hat' (vx_isRefq hU'.1) (vx_isRefq hN'.1) hU'.2.word hN'.2.word
  have hown' : s'.vm.findClass own = some m.cls := by rw [hvm]; exact hown
  have hins : (Cond.instantiable cls 6).before args s' = true := h _ (by simp [Bundle.ownAtoms0])
  obtain ⟨vm₁, cX, kX, hfX, hkX, -, -, X₁, st1⟩ := Y.newCold hexec (own := own) (C := cls) (index := ik) (n := 6) hown' hk' hins hini'
    (g := F0 m pc ls rest) rfl (by rw [hb]; exact d0) (Nat.le_refl _) (Nat.le_refl _)
  generalize hT1 : (T.setVm vm₁).pushCell { cls := cX, slots := kX.instanceTypes.map defaultValue, vm := .none } = T1 at X₁ st1
  have hcat : (Value.ref T.heap.size).category = 1 := rfl
  have hcellA : T1.heap[T.heap.size]? = some (freshCell cX kX) := by rw [← hT1]; exact State.heap_pushCell_size _ _
  have d3' : decode c.code (pc + 3) = .ok (.dup, 1) := by rw [hb]; exact d3
  obtain ⟨U, hsteps, hrun, hend, hW, hsame, ce, hce, hO⟩ := X₁.ctorThrow0 hexec htr (own := own) (cls := cls) (names := names) (ic := ic) hown' hcls hnames h (fun x hx => nomatch hx) hfX hkX hcellA (by rw [hhp, hT]; exact Nat.le_refl _)
    (g := { method := m, pc := pc + 4, locals := ls, stack := .ref T.heap.size :: .ref T.heap.size :: rest, locked := none }) rfl hsize rfl rfl (rest := rest) rfl
    (by rw [hb]; exact d4) (by rw [hb]; exact d7) hout hRframes (by simp only [List.map_cons, List.sum_cons, hcat]; omega) hlocks
  obtain ⟨f1, f2⟩ := vx_frame hsame
  rw [hhp] at f1 f2
  have hWs : s.WarmedH U.vm := State.WarmedH.trans hW0 hW
  have hcl : s.vm.findClass cls = some ce.cls := by
    have h9 := hO.cls
    rw [hvm] at h9
    exact h9
  have hall : s.sameButNew ({ U with vm := s.vm } : State) locs mc ms := by
    subst hA
    obtain ⟨e1, e2⟩ := hsame
    rw [State.setFrames_setFrames] at e1
    have h2 : (T.setVm s.vm).sameButNew ({ U with vm := s.vm } : State) [] (0 + 1) (0 + 6) := ⟨e1, e2⟩
    have h3 := X.same.trans h2
    rw [List.append_nil] at h3
    exact h3.mono hc hs
  refine ⟨U, ?_, .threw T.heap.size, hrun, hend, Or.inr ⟨T.heap.size, rfl, cls, ce, locs, hx U hWs f1 (fun q hq => f2 q hq (fun z hz => nomatch hz)), hce, hO.vm, hcl, hWs, hall, hf⟩⟩
  refine st1 _ ?_
  show Steps p.tables e below (T1.setTop { method := m, pc := pc + 3, locals := ls, stack := .ref T.heap.size :: rest, locked := none }) _
  jvm_step X₁.here [X₁.here.top, hexec, d3', Value.category]
  exact hsteps
end
theorem Met_ofWH {l : Launch} {y : MethodName} {ws ws' : List Cond} {rm : Room} {Pc : Array Value → State → Prop} {Qc : Array Value → State → Outcome → State → Prop} {mc ms : Nat} {free : Addr → Prop} {cc : ByteArray} {maxL : Nat} {ret : Option FieldType} {hh : List (Nat × Nat × Nat × Nat)}
    (hy : plainName y.cls = true) (hw : ws = Cond.codeWith y cc maxL ret hh :: ws')
    (body : ∀ p e s m args below meth c s₁, BodyLoose p l y (headSpec ws rm) cc maxL ret e s m args below meth c s₁ → c.maxLocals = maxL → Pc args s →
      W p l e (headSpec ws rm).room s m args below meth c s.heap [] 0 0 (MQ below Qc args s mc ms free) (entryFrame m args maxL)) : Met l y ws rm Pc Qc mc ms free := by
  refine MetFree.of_bodyS (code := cc) (maxLocals := maxL) (ret := ret) hy ?_ ?_
  · intro args s m h hn
    obtain ⟨m9, meth, c, hn9, h1, h2, h3, h4, -, h5, h6, -⟩ := Cond.codeWith_spec (atoms_spec (ws := ws) h _ (by rw [hw]; exact List.mem_cons_self))
    cases hn.symm.trans hn9
    exact ⟨meth, c, h1, h2, h3, h4, h5, h6⟩
  · intro p e s m args below meth c s₁ B hml hP _
    have hh0 : s₁.heap = s.heap := by rw [B.state]; rfl
    obtain ⟨t, a1, o, b1, b2, b3, b4⟩ := body p e s m args below meth c s₁ B hml hP s₁ hh0 (Stand.of_body B)
    exact ⟨t, o, a1, b1, b2, b3, b4⟩
theorem rsB_o : ∀ w ∈ rsB, w.onTables = true := by decide +kernel
theorem rs_cl : Cond.classLink xR11 331 rsE ∈ xG := List.mem_filter.mpr ⟨by decide +kernel, rfl⟩
theorem rs_in : Cond.initialized rsE ∈ xG := List.mem_filter.mpr ⟨by decide +kernel, rfl⟩
theorem rsL_cl : Cond.classLink "SilenceBallLaw" 13 rsE ∈ xG := List.mem_filter.mpr ⟨by decide +kernel, rfl⟩
theorem rsL_in : Cond.initialized yL_rests.cls ∈ xG := List.mem_filter.mpr ⟨by decide +kernel, rfl⟩
theorem rsL_code : Cond.codeWith yL_rests method_3_code 7 (some .int) [(0, 14, 17, 13)] ∈ xG := List.mem_filter.mpr ⟨by decide +kernel, rfl⟩
theorem rsL_7 : Cond.methodLink "SilenceBallLaw" 7 y11_rests ∈ xG := List.mem_filter.mpr ⟨by decide +kernel, rfl⟩
def rmR : Room := { frames := 8, cells := 1, slots := 6, locals := 420 }
def rmL : Room := { frames := 12, cells := 1, slots := 6, locals := 500 }
abbrev rsQ (X : XP) (r : Option XV) (μ' : XM) : Array Value → State → Outcome → State → Prop := va_Qi (S := Unit) (fun y _ => r = some (xi y)) (fun _ t => XW X μ' t) (xA X)
abbrev rsXC (X : XP) (r : Option XV) (μ' : XM) : String → State → State → Prop := vx_X (S := Unit) (fun _ => r = some (xr 99 0 0)) (fun E _ t => E = rsE ∧ XW X μ' t) (xA X)
theorem rs_env {X : XP} (hX : XOK X) (l : Launch) : ∀ q ∈ e11_rests, xcal X l rmR xR11 0 0 q := List.forall_mem_cons.mpr ⟨xcal_s (na := 1) (c11_isPrize hX l) mf11_isPrize ⟨rfl, rfl⟩ ml11_328 ms11_isPrize ⟨by decide, by decide⟩ (by decide +kernel), List.forall_mem_cons.mpr ⟨xcal_s (na := 5) (c11_gain hX l) mf11_gain ⟨rfl, rfl⟩ ml11_334 ms11_gain ⟨by decide, by decide⟩ (by decide +kernel), fun q h => absurd h List.not_mem_nil⟩⟩
theorem xlo_loc (X : XP) {av : List XV} {n : Nat} (hlen : (xargs av).length ≤ n) (hok : ∀ v ∈ av, xok v) {ls : Array Slot} (hl : lv_has ls n (lv_args 0 (av.map (xc X)))) : xloc X ls n (xlo av n) := by
  refine ⟨?_, by simp [xlo]; omega, ?_⟩
  · unfold xlo
    rw [xlv_app, xlv_repl, List.append_nil, xargs_lv]
    exact hl
  · intro v hv
    rcases List.mem_append.mp hv with hv | hv
    · exact xargs_ok av hok v hv
    · exact absurd (List.eq_of_mem_replicate hv) (by simp)
set_option maxHeartbeats 1000000 in
/-- the component's rests: it returns or throws -/
theorem rs_met {X : XP} (hX : XOK X) (hC : ∀ U H, xC X U H → RsC (xA X) U H) {l : Launch} (hl : l.stackTraces = false) {p1 p2 p3 p4 : Int32} {μ μ' : XM} {r : Option XV} (h : f11_rests p1 p2 p3 p4 μ = some (r, μ')) :
    vx_Met l y11_rests (Cond.code y11_rests prog_1_method_50_code 11 (some .int) :: xG) rmR (va_Pc ([xr 11 0 0, xi p1, xi p2, xi p3, xi p4].map (xc X)) (XW X μ)) (rsQ X r μ') (rsXC X r μ') 1 6 (xA X) := by
  refine vx_ofW (cc := prog_1_method_50_code) (maxL := 11) (ret := some .int) mf11_rests.2.2.2 rfl ?_
  intro p e s m args below meth c s₁ B hml hno hv
  obtain ⟨rfl, hP, hK, hCC, hscr⟩ := hv
  have hown : s.vm.findClass xR11 = some m.cls := findClass_of_methodNamed B.named
  have hts : ∀ w ∈ xG, w.before ([xr 11 0 0, xi p1, xi p2, xi p3, xi p4].map (xc X)).toArray s = true := fun w hw => atoms_spec (ws := Cond.code y11_rests prog_1_method_50_code 11 (some .int) :: xG) B.pre w (List.mem_cons_of_mem _ hw)
  have CC : XCt X p (headSpec (Cond.code y11_rests prog_1_method_50_code 11 (some .int) :: xG) rmR).room s m ([xr 11 0 0, xi p1, xi p2, xi p3, xi p4].map (xc X)).toArray c prog_1_method_50_code xR11 11 := ⟨B.exec, B.bytes, hml, hown, hts, hK, hCC, hX, (by decide : 1 ≤ 8), (by decide : 100 ≤ 420)⟩
  have hI : XI X s μ s.heap [] := ⟨hP, va_S.rf, hscr⟩
  have hcx := hC s s.heap hCC
  rw [lg_entry_eq]
  have hlen : (xargs [xr 11 0 0, xi p1, xi p2, xi p3, xi p4]).length ≤ 11 := by simp [xargs]
  have hlv := lv_entry ([xr 11 0 0, xi p1, xi p2, xi p3, xi p4].map (xc X)) (n := 11) (by rw [xargs_sl]; exact hlen)
  generalize (lg_sl ([xr 11 0 0, xi p1, xi p2, xi p3, xi p4].map (xc X)) ++ List.replicate (11 - (lg_sl ([xr 11 0 0, xi p1, xi p2, xi p3, xi p4].map (xc X))).length) Slot.unset).toArray = ls at hlv ⊢
  have hL : xloc X ls 11 (xlo [xr 11 0 0, xi p1, xi p2, xi p3, xi p4] 11) := xlo_loc X hlen (List.forall_mem_cons.mpr ⟨Or.inl (by decide +kernel), List.forall_mem_cons.mpr ⟨trivial, List.forall_mem_cons.mpr ⟨trivial, List.forall_mem_cons.mpr ⟨trivial, List.forall_mem_cons.mpr ⟨trivial, fun v h => absurd h List.not_mem_nil⟩⟩⟩⟩⟩) hlv
  have hfin : XFin p l e (headSpec (Cond.code y11_rests prog_1_method_50_code 11 (some .int) :: xG) rmR).room s m ([xr 11 0 0, xi p1, xi p2, xi p3, xi p4].map (xc X)).toArray below meth c (vx_MQ below (rsQ X r μ') (rsXC X r μ') ([xr 11 0 0, xi p1, xi p2, xi p3, xi p4].map (xc X)).toArray s 1 6 (xA X)) prog_1_method_50_code X true 1 0 0 r μ' := by
    intro H locs cells slots pc ls' hsz hI' hc hs
    obtain rfl : cells = 0 := by omega
    obtain rfl : slots = 0 := by omega
    refine ⟨fun hrt => absurd hrt (by decide), fun x hr hrt hd => ?_, fun x hrt => absurd hrt (by decide), fun idx hz hr hd => ?_⟩
    · refine W.widen (k := 1) (n := 6) (by omega) (by omega) (vx_ret ?_)
      exact W.iret B.exec B.bytes (by rw [B.returns]) (fun t ht hW => ⟨⟨x, (), rfl, hr, xW_now CC hI' ht hW⟩, hI'.2.1.F ht⟩) hI'.2.1.2.2 hd (hlocks := B.notSynchronized)
    · obtain ⟨hp, rfl⟩ := rs_new hd
      have hat : ∀ w ∈ rsA, w.before ([xr 11 0 0, xi p1, xi p2, xi p3, xi p4].map (xc X)).toArray s = true := vx_hat (B := rsB) (fun w hw => hts w (List.mem_filter.mpr ⟨rsA_x w hw, (List.mem_filter.mp hw).2⟩)) rsA_b (fun w hw => va_any (rsB_o w hw) (hcx.1 w hw))
      have hx9 : ∀ t : State, s.WarmedH t.vm → H.size ≤ t.heap.size → (∀ q : Nat, q < H.size → t.heap[q]? = H[q]?) → rsXC X r μ' rsE s t := by
        intro t hW hz hq
        refine ⟨(), hr, ⟨rfl, hI'.1.kept (fun k q hk => hq _ (vx_lt hI'.1 hk)), va_K.moved hW.alike hK, ?_, hI'.2.2⟩, Nat.le_trans hI'.2.1.1 hz, fun q h1 h2 => ?_⟩
        · exact hX.2.2.1 t H t.heap hz (fun q h1 _ => hq q h1) (hX.2.1 s t H (Or.inl hW) (xC_now CC hI'))
        · rw [hq q (Nat.lt_of_lt_of_le h1 hI'.2.1.1)]; exact hI'.2.1.2.1 q h1 h2
      rcases hp with rfl | rfl
      · exact rs_throw0 (cc := prog_1_method_50_code) (own := xR11) (cls := rsE) (names := ["java/lang/RuntimeException", "java/lang/Exception"]) (ik := 331) (ic := 333) (A := xA X) B.exec B.bytes hl hown (by decide +kernel) (by decide +kernel) (hts _ rs_cl) (hts _ rs_in) hat
          (List.forall_mem_cons.mpr ⟨by decide +kernel, List.forall_mem_cons.mpr ⟨by decide +kernel, rsA_o⟩⟩) hcx.2.1 hcx.2.2 hI'.2.1 hsz hd (by decide +kernel) (by decide +kernel) (by decide +kernel) (fun x hx => (hno x hx).elim)
          (by decide) (by decide) (by decide) (by decide) B.notSynchronized hx9 hI'.2.1.2.2 (by decide) (by decide)
      · exact rs_throw0 (cc := prog_1_method_50_code) (own := xR11) (cls := rsE) (names := ["java/lang/RuntimeException", "java/lang/Exception"]) (ik := 331) (ic := 333) (A := xA X) B.exec B.bytes hl hown (by decide +kernel) (by decide +kernel) (hts _ rs_cl) (hts _ rs_in) hat
          (List.forall_mem_cons.mpr ⟨by decide +kernel, List.forall_mem_cons.mpr ⟨by decide +kernel, rsA_o⟩⟩) hcx.2.1 hcx.2.2 hI'.2.1 hsz hd (by decide +kernel) (by decide +kernel) (by decide +kernel) (fun x hx => (hno x hx).elim)
          (by decide) (by decide) (by decide) (by decide) B.notSynchronized hx9 hI'.2.1.2.2 (by decide) (by decide)
  have hrun : ex (arr t11_rests e11_rests 1 95 20000) t11_rests e11_rests 1 95 t11_rests (xlo [xr 11 0 0, xi p1, xi p2, xi p3, xi p4] 11) [] μ = some (r, μ') := by
    rw [f11_rests_e, ← q11_rests] at h
    exact h
  obtain ⟨e0, nx, htab, he0⟩ : ∃ e0 nx, t11_rests = e0 :: nx ∧ e0.1 = 0 := ⟨_, _, rfl, rfl⟩
  have := (xs_body CC rs_tab (rs_env hX l) (ac := 0) (as := 0) (capc := 0) (caps := 0) ⟨Nat.zero_le _, Nat.zero_le _⟩ hfin 20000).2 95 e0 nx [] htab (xlo [xr 11 0 0, xi p1, xi p2, xi p3, xi p4] 11) [] μ s.heap [] 0 0 ls (by rw [← htab]; exact hrun) hI hL (fun v h => absurd h List.not_mem_nil) ⟨by simp, by simp⟩
  rw [he0] at this
  exact this
theorem rl_0 : decode method_3_code 0 = .ok (.aload 5, 2) := by decide +kernel
theorem rl_2 : decode method_3_code 2 = .ok (.iconst 0, 1) := by decide +kernel
theorem rl_3 : decode method_3_code 3 = .ok (.aload_n 0, 1) := by decide +kernel
theorem rl_4 : decode method_3_code 4 = .ok (.iload_n 1, 1) := by decide +kernel
theorem rl_5 : decode method_3_code 5 = .ok (.iload_n 2, 1) := by decide +kernel
theorem rl_6 : decode method_3_code 6 = .ok (.iload_n 3, 1) := by decide +kernel
theorem rl_7 : decode method_3_code 7 = .ok (.iload 4, 2) := by decide +kernel
theorem rl_9 : decode method_3_code 9 = .ok (.invokevirtual 7, 3) := by decide +kernel
theorem rl_12 : decode method_3_code 12 = .ok (.i2l, 1) := by decide +kernel
theorem rl_13 : decode method_3_code 13 = .ok (.lastore, 1) := by decide +kernel
theorem rl_14 : decode method_3_code 14 = .ok (.goto 7, 3) := by decide +kernel
theorem rl_17 : decode method_3_code 17 = .ok (.astore 6, 2) := by decide +kernel
theorem rl_19 : decode method_3_code 19 = .ok (.iconst 1, 1) := by decide +kernel
theorem rl_20 : decode method_3_code 20 = .ok (.ireturn, 1) := by decide +kernel
theorem rl_21 : decode method_3_code 21 = .ok (.iconst 0, 1) := by decide +kernel
theorem rl_22 : decode method_3_code 22 = .ok (.ireturn, 1) := by decide +kernel
theorem fL_inv {p1 p2 p3 p4 : Int32} {μ μ' : XM} {r : Option XV} (h : fL_rests p1 p2 p3 p4 μ = some (r, μ')) : ∃ r1 μ1, f11_rests p1 p2 p3 p4 μ = some (r1, μ1) ∧ ((∃ x, r1 = some (xi x) ∧ r = some (xi 0) ∧ μ' = pL μ1 14 0 0 0 x.toInt64) ∨ (r1 = some (xr 99 0 0) ∧ r = some (xi 1) ∧ μ' = μ1)) := by
  unfold fL_rests at h
  split at h
  · rename_i x μ1 e
    unfold xri at h
    cases h
    exact ⟨_, _, e, Or.inl ⟨x, rfl, rfl, rfl⟩⟩
  · rename_i μ1 e
    unfold xri at h
    cases h
    exact ⟨_, _, e, Or.inr ⟨rfl, rfl, rfl⟩⟩
  · cases h
theorem FL_inv {av : List XV} {μ μ' : XM} {r : Option XV} (h : FL_rests av μ = some (r, μ')) : ∃ p1 p2 p3 p4, av = [xr 11 0 0, xi p1, xi p2, xi p3, xi p4, xr 14 0 1] ∧ fL_rests p1 p2 p3 p4 μ = some (r, μ') := by
  unfold FL_rests at h
  split at h
  · rename_i t i p1 p2 p3 p4 t1 i1 j
    replace h := cond_inv h
    obtain ⟨hb, h⟩ := h
    simp only [Bool.and_eq_true] at hb
    obtain ⟨⟨⟨⟨h1, h2⟩, h3⟩, h4⟩, h5⟩ := hb
    obtain rfl := Nat.eq_of_beq_eq_true h1
    obtain rfl := Nat.eq_of_beq_eq_true h2
    obtain rfl := Nat.eq_of_beq_eq_true h3
    obtain rfl := Nat.eq_of_beq_eq_true h4
    obtain rfl := Nat.eq_of_beq_eq_true h5
    exact ⟨p1, p2, p3, p4, rfl, h⟩
  · cases h
set_option maxHeartbeats 1000000 in
/-- the law's own rests: it catches -/
theorem rs_law {X : XP} (hX : XOK X) (hC : ∀ U H, xC X U H → RsC (xA X) U H) {l : Launch} (hl : l.stackTraces = false) : CtrW X l yL_rests method_3_code 7 (some .int) [(0, 14, 17, 13)] rmL 1 6 FL_rests := by
  intro av μ r μ' hok h
  obtain ⟨p1, p2, p3, p4, rfl, h⟩ := FL_inv h
  obtain ⟨r1, μ1, h1, hcase⟩ := fL_inv h
  refine Met_ofWH (cc := method_3_code) (maxL := 7) (ret := some .int) (hh := [(0, 14, 17, 13)]) (by decide +kernel) rfl ?_
  intro p e s m args below meth c s₁ B hml hv
  obtain ⟨rfl, hP, hK, hCC, hscr⟩ := hv
  have hx := B.exec
  have hb := B.bytes
  have hown : s.vm.findClass "SilenceBallLaw" = some m.cls := findClass_of_methodNamed B.named
  have hts : ∀ w ∈ xG, w.before ([xr 11 0 0, xi p1, xi p2, xi p3, xi p4, xr 14 0 1].map (xc X)).toArray s = true := fun w hw => atoms_spec (ws := Cond.codeWith yL_rests method_3_code 7 (some .int) [(0, 14, 17, 13)] :: xG) B.pre w (List.mem_cons_of_mem _ hw)
  have htb : c.exceptionTable.toList = [] ++ ({ startPc := 0, endPc := 14, handlerPc := 17, catchType := 13 } : ExceptionTableEntry) :: [] := (vx_table (x := yL_rests) B (hts _ rsL_code)).trans rfl
  have CC : XCt X p (headSpec (Cond.codeWith yL_rests method_3_code 7 (some .int) [(0, 14, 17, 13)] :: xG) rmL).room s m ([xr 11 0 0, xi p1, xi p2, xi p3, xi p4, xr 14 0 1].map (xc X)).toArray c method_3_code "SilenceBallLaw" 7 := ⟨hx, hb, hml, hown, hts, hK, hCC, hX, (by decide : 1 ≤ 12), (by decide : 100 ≤ 500)⟩
  have hI : XI X s μ s.heap [] := ⟨hP, va_S.rf, hscr⟩
  have hcx := hC s s.heap hCC
  rw [lg_entry_eq]
  have hlv := lv_entry ([xr 11 0 0, xi p1, xi p2, xi p3, xi p4, xr 14 0 1].map (xc X)) (n := 7) (by rw [xargs_sl]; simp [xargs])
  generalize (lg_sl ([xr 11 0 0, xi p1, xi p2, xi p3, xi p4, xr 14 0 1].map (xc X)) ++ List.replicate (7 - (lg_sl ([xr 11 0 0, xi p1, xi p2, xi p3, xi p4, xr 14 0 1].map (xc X))).length) Slot.unset).toArray = ls at hlv ⊢
  have hl7 : lv_has ls 7 [(0, .ref (xad X (11, 0, 0))), (1, .int p1), (2, .int p2), (3, .int p3), (4, .int p4), (5, .ref (xad X (14, 0, 1)))] := hlv
  have hrecv : ∃ cellB : Cell, s.heap[xad X (11, 0, 0)]? = some cellB ∧ cellB.vm.isStatics = false ∧ s.vm.findClass xR11 = some cellB.cls := by
    obtain ⟨q0, hq0⟩ := xpos (show (11, 0, 0) ∈ xdom from by decide +kernel)
    have he := xws_get X μ hq0
    obtain ⟨C1, T1, N1, hcl⟩ := xcl_of (show 11 < 13 by decide)
    obtain ⟨cell, g1, g2, g3⟩ := va_recv (q0 := q0) hK hI.1 hcl he
    refine ⟨cell, g1, g2, ?_⟩
    rw [show xR11 = xcn 11 from by decide +kernel]
    simp only [xcn, if_neg (by decide : ¬ 11 = 15), hcl, Option.map_some, Option.getD_some]
    exact g3
  refine lv_aload hx hb rl_0 (lv_at hl7 5 rfl) ?_
  refine lv_iconst (v := 0) hx hb rl_2 (by decide) ?_
  refine lv_aload_n hx hb rl_3 rfl (lv_at hl7 0 rfl) ?_
  refine lv_iload_n hx hb rl_4 rfl (lv_at hl7 1 rfl) ?_
  refine lv_iload_n hx hb rl_5 rfl (lv_at hl7 2 rfl) ?_
  refine lv_iload_n hx hb rl_6 rfl (lv_at hl7 3 rfl) ?_
  refine lv_iload hx hb rl_7 (lv_at hl7 4 rfl) ?_
  have hrun := vx_runV (p := p) (e := e) (R := (headSpec (Cond.codeWith yL_rests method_3_code 7 (some .int) [(0, 14, 17, 13)] :: xG) rmL).room) (m := m) (below := below) (meth := meth) (H := s.heap) (locs := []) (cells := 0) (slots := 0) (As := [.int p1, .int p2, .int p3, .int p4]) (rest := [.int 0, .ref (xad X (14, 0, 1))]) (b := xad X (11, 0, 0)) (C := xR11) (n := 4) (index := 7)
    (g := F0 m 9 ls [.int p4, .int p3, .int p2, .int p1, .ref (xad X (11, 0, 0)), .int 0, .ref (xad X (14, 0, 1))]) ⟨hx, hb, hml, hown, hts⟩ (rs_met hX hC hl h1)
    ⟨callB_of 4 hts (xG_GoodIn mf11_rests.1) rfl rfl rfl (hts _ mf11_rests.2.1) (hts _ rsL_7) ⟨mf11_rests.2.2.1.1, mf11_rests.2.2.1.2, by decide +kernel⟩ ⟨by decide, by decide⟩, hts _ mi11_rests, hts _ me11_rests⟩
    ⟨xW_blind X hX μ _, hrecv, fun U hU hW => ⟨rfl, xW_now CC hI hU hW⟩⟩ rfl rfl hl7.1 rfl (lv_room (by simp [Value.category])) rl_9 ⟨by decide, by decide⟩
  refine vx_calli hrun hI.2.1 (fun _ _ h => h) (fun _ h => h) (fun _ _ h => h) (fun E ce q9 u t H1 locs1 ht hvm hpx hBX hz hk hS hce hcv hcl => ?_) (fun y u t H1 locs1 ht hvm hpo hB hz hk hS => ?_)
  · obtain ⟨rfl, hXW⟩ := hBX
    rcases hcase with ⟨x, e1, -⟩ | ⟨-, rfl, rfl⟩
    · rw [e1] at hpx
      cases hpx
    · have hI1 : XI X s μ' H1 locs1 := ⟨by rw [← ht]; exact hXW.1, hS, hXW.2.2.2⟩
      refine vx_catch (own := "SilenceBallLaw") (E := rsE) (name := rsE) hown [] _ [] htb (fun z hz => nomatch hz) (by decide) (by decide) (hts _ rsL_cl) (va_any rfl (hcx.1 _ (by simp [rsB]))) hce hcv hcl ?_
      refine lv_astore hx hb rl_17 hl7 (by decide) rfl (fun ls hl => ?_)
      refine lv_iconst (v := 1) hx hb rl_19 (by decide) ?_
      exact W.iret hx hb (by rw [B.returns]) (fun t ht hW => ⟨⟨1, (), rfl, rfl, xW_now CC hI1 ht hW⟩, hS.F ht⟩) hS.2.2 rl_20 (hlocks := B.notSynchronized)
  · rcases hcase with ⟨x, e1, rfl, rfl⟩ | ⟨e1, -⟩
    · rw [e1] at hpo
      obtain rfl : x = y := by cases hpo; rfl
      have hI1 : XI X s μ1 H1 locs1 := ⟨by rw [← ht]; exact hB.1, hS, hB.2.2.2⟩
      refine lv_i2l hx hb rl_12 rfl ?_
      refine xr_stl CC hI1 (t := 14) (i := 0) (j := 0) (n := 1) (x := 0) (by decide +kernel) rfl (by decide +kernel) rl_13 (fun H2 locs2 hI2 => ?_)
      refine lv_goto hx hb rl_14 (tgt := 21) (by decide) ?_
      refine lv_iconst (v := 0) hx hb rl_21 (by decide) ?_
      exact W.iret hx hb (by rw [B.returns]) (fun t ht hW => ⟨⟨0, (), rfl, rfl, xW_now CC hI2 ht hW⟩, hI2.2.1.F ht⟩) hI2.2.1.2.2 rl_22 (hlocks := B.notSynchronized)
    · rw [e1] at hpo
      cases hpo
/-- what the law's loop asks for -/
theorem rs_rest {X : XP} (hX : XOK X) (hC : ∀ U H, xC X U H → RsC (xA X) U H) {l : Launch} (hl : l.stackTraces = false) : xcal X l room_1 "SilenceBallLaw" 1 8 (193, 1, 6, 99, FL_rests) :=
  Or.inr ⟨yL_rests, method_3_code, 7, some .int, [(0, 14, 17, 13)], rmL, 1, 6, rs_law hX hC hl, rfl, rfl, by decide, by decide, rsL_code, mlL_193, rsL_in, ⟨by decide +kernel, by decide +kernel⟩, by decide, by decide, rfl, msL_rests, by decide +kernel⟩
