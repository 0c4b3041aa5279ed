/-! A BODY -/
set_option maxHeartbeats 1000000 in
theorem xs_body {p : Program} {l : Launch} {e : Env} {R : Room} {s : State} {m : MethodId} {args : Array Value} {below : List Frame} {meth : Method} {c : Code} {Z : State → Prop} {cc : ByteArray} {own : String} {X : XP} {nL : Nat}
    (C : XCt X p R s m args c cc own nL) {tab : List XE} {env : XN} {rt K : Nat} {nw : Bool} {fl : List (Nat × Nat × Nat)} {cl : List (Nat × Int32)} {ll : List (Nat × Int64)} {jl : List (Nat × Nat)} (hT : xtab own cc nw fl cl ll jl tab)
    {ac as capc caps : Nat} (hE : ∀ q ∈ env, xcal X l R own ac as q) (hcap : capc ≤ R.cells ∧ caps ≤ R.slots) {r : Option XV} {μr : XM}
    (hF : XFin p l e R s m args below meth c Z cc X nw rt capc caps r μr) :
    ∀ n : Nat, (∀ h L st μ H locs cells slots ls, arr tab env rt K n h L st μ = some (r, μr) → XI X s μ H locs → xloc X ls nL L → (∀ v ∈ st, xok v) → xbd capc caps ac as (n * (K + 1)) cells slots → W p l e R s m args below meth c H locs cells slots Z (F0 m h ls (st.map (xc X)))) ∧
      ∀ k : Nat, ∀ (e' : XE) (nx pre : List XE), tab = pre ++ e' :: nx → ∀ L st μ H locs cells slots ls, ex (arr tab env rt K n) tab env rt k (e' :: nx) L st μ = some (r, μr) → XI X s μ H locs → xloc X ls nL L → (∀ v ∈ st, xok v) → xbd capc caps ac as (n * (K + 1) + k) cells slots → W p l e R s m args below meth c H locs cells slots Z (F0 m e'.1 ls (st.map (xc X))) := by
  have hnil : ∀ (A : Nat → XL → List XV → XM → XR) (k : Nat) (L : XL) (st : List XV) (μ : XM), ex A tab env rt k [] L st μ = none := by
    intro A k L st μ
    cases k <;> rfl
  have hex : ∀ n : Nat, (∀ h L st μ H locs cells slots ls, arr tab env rt K n h L st μ = some (r, μr) → XI X s μ H locs → xloc X ls nL L → (∀ v ∈ st, xok v) → xbd capc caps ac as (n * (K + 1)) cells slots → W p l e R s m args below meth c H locs cells slots Z (F0 m h ls (st.map (xc X)))) →
      ∀ k : Nat, ∀ (e' : XE) (nx pre : List XE), tab = pre ++ e' :: nx → ∀ L st μ H locs cells slots ls, ex (arr tab env rt K n) tab env rt k (e' :: nx) L st μ = some (r, μr) → XI X s μ H locs → xloc X ls nL L → (∀ v ∈ st, xok v) → xbd capc caps ac as (n * (K + 1) + k) cells slots → W p l e R s m args below meth c H locs cells slots Z (F0 m e'.1 ls (st.map (xc X))) := by
    intro n hA k
    induction k with
    | zero => intro e' nx pre _ L st μ H locs cells slots ls h; cases h
    | succ k ih =>
      intro e' nx pre htab L st μ H locs cells slots ls h hI hL hst hbd
      exact xs_step C hT hE hcap hF (A := arr tab env rt K n) (rec := ex (arr tab env rt K n) tab env rt k) (w := n * (K + 1) + k) (wA := n * (K + 1)) (Nat.le_add_right _ _) hA (hnil _ k) ih htab h hI hL hst hbd
  intro n
  induction n with
  | zero => exact ⟨(fun h L st μ H locs cells slots ls q => by cases q), hex 0 (fun h L st μ H locs cells slots ls q => by cases q)⟩
  | succ n ih =>
    have hA : ∀ h L st μ H locs cells slots ls, arr tab env rt K (n + 1) h L st μ = some (r, μr) → XI X s μ H locs → xloc X ls nL L → (∀ v ∈ st, xok v) → xbd capc caps ac as ((n + 1) * (K + 1)) cells slots → W p l e R s m args below meth c H locs cells slots Z (F0 m h ls (st.map (xc X))) := by
      intro h L st μ H locs cells slots ls q hI hL hst hbd
      replace q : ex (arr tab env rt K n) tab env rt K (xhd (xseek h tab)) L st μ = some (r, μr) := q
      rcases xseek_at tab h with h6 | ⟨pre', e', nx', h6, h7, h8⟩
      · rw [h6] at q
        rw [show xhd ([] : List XE) = [] from rfl, hnil] at q
        cases q
      · rw [h7] at q
        obtain ⟨pc, ins, a⟩ := e'
        by_cases hnop : ins = .nop
        · subst hnop
          replace q : ex (arr tab env rt K n) tab env rt K nx' L st μ = some (r, μr) := q
          cases nx' with
          | nil => rw [hnil] at q; cases q
          | cons e2 nx2 =>
            obtain ⟨n1, hn1, hnx⟩ := xwf_at hT.1 h6
            have e3 : n1 = pc := by
              have : xnx own cc nw fl cl ll jl (pc, Instr.nop, a) = some pc := by unfold xnx; rw [if_pos rfl]
              rw [this] at hn1
              exact (Option.some.inj hn1).symm
            have e4 := hnx e2 nx2 rfl
            have e5 : e2.1 = h := by rw [← e4, e3]; exact h8
            rw [← e5]
            refine ih.2 K e2 nx2 (pre' ++ [(pc, .nop, a)]) (by rw [h6]; simp) _ _ _ _ _ _ _ _ q hI hL hst (xbd_le hbd ?_)
            rw [Nat.succ_mul]
            omega
        · have : xhd ((pc, ins, a) :: nx') = [] := by cases ins <;> first | rfl | exact absurd rfl hnop
          rw [this, hnil] at q
          cases q
    exact ⟨hA, hex (n + 1) hA⟩
/-- the locals at a method's start -/
def xargs : List XV → XL
  | [] => []
  | .inr (.inl x) :: vs => some (.inr (.inl x)) :: none :: xargs vs
  | v :: vs => some v :: xargs vs
def xlo (av : List XV) (n : Nat) : XL := xargs av ++ List.replicate (n - (xargs av).length) none
theorem xlv_repl (X : XP) (k n : Nat) : xlv X k (List.replicate n none) = [] := by
  induction n generalizing k with
  | zero => rfl
  | succ n ih => simp [List.replicate_succ, xlv, ih]
theorem xlv_app (X : XP) : ∀ (L M : XL) (k : Nat), xlv X k (L ++ M) = xlv X k L ++ xlv X (k + L.length) M := by
  intro L
  induction L with
  | nil => intro M k; simp [xlv]
  | cons a L ih =>
    intro M k
    cases a <;> simp [xlv, ih, Nat.add_assoc, Nat.add_comm 1]
theorem xargs_lv (X : XP) : ∀ (av : List XV) (k : Nat), xlv X k (xargs av) = lv_args k (av.map (xc X)) := by
  intro av
  induction av with
  | nil => intro k; rfl
  | cons v av ih =>
    intro k
    rcases v with x | x | x
    · show (k, Value.int x) :: xlv X (k + 1) (xargs av) = _
      rw [ih]; rfl
    · show (k, Value.long x) :: xlv X (k + 1 + 1) (xargs av) = _
      rw [ih]; rfl
    · show (k, xc X (.inr (.inr x))) :: xlv X (k + 1) (xargs av) = _
      rw [ih]
      cases x <;> rfl
theorem xargs_sl (X : XP) : ∀ (av : List XV), (lg_sl (av.map (xc X))).length = (xargs av).length := by
  intro av
  induction av with
  | nil => rfl
  | cons v av ih =>
    rcases v with x | x | x
    · show (lg_sl (Value.int x :: av.map (xc X))).length = (xargs av).length + 1
      rw [← ih]; simp [lg_sl, Value.category]
    · show (lg_sl (Value.long x :: av.map (xc X))).length = (xargs av).length + 1 + 1
      rw [← ih]; simp [lg_sl, Value.category]
    · show (lg_sl (xc X (.inr (.inr x)) :: av.map (xc X))).length = (xargs av).length + 1
      rw [← ih]
      cases x <;> simp [lg_sl, xc, Value.category]
theorem xargs_ok : ∀ (av : List XV), (∀ v ∈ av, xok v) → ∀ v, some v ∈ xargs av → xok v := by
  intro av
  induction av with
  | nil => intro _ v h; cases h
  | cons w av ih =>
    intro h v hv
    have h2 := ih (okt h)
    rcases w with x | x | x
    · rcases List.mem_cons.mp hv with hv | hv
      · cases hv; trivial
      · exact h2 v hv
    · rcases List.mem_cons.mp hv with hv | hv
      · cases hv; trivial
      · rcases List.mem_cons.mp hv with hv | hv
        · cases hv
        · exact h2 v hv
    · rcases List.mem_cons.mp hv with hv | hv
      · cases hv; exact okh h
      · exact h2 v hv
def xrtk (ret : Option FieldType) : Nat := match ret with | none => 0 | some .int => 1 | some .boolean => 2 | some .char => 3 | some .long => 4 | _ => 9
set_option maxHeartbeats 1000000 in
/-- a method's contract, out of its table and its function -/
theorem Ctr_of {X : XP} (hX : XOK X) {l : Launch} {y : MethodName} {cc : ByteArray} {maxL : Nat} {ret : Option FieldType} {rm : Room} {F : XF} {tab : List XE} {env : XN} {K N : Nat} {fl : List (Nat × Nat × Nat)} {cl : List (Nat × Int32)} {ll : List (Nat × Int64)} {jl : List (Nat × Nat)}
    (hy : plainName y.cls = true) (hT : xtab y.cls cc false fl cl ll jl tab) (hE : ∀ q ∈ env, xcal X l rm y.cls 0 0 q) (hrm : rm.cells = 0 ∧ rm.slots = 0 ∧ 1 ≤ rm.frames ∧ 100 ≤ rm.locals) (h0 : ∃ e0 nx, tab = e0 :: nx ∧ e0.1 = 0)
    (hF : ∀ av μ r μ', F av μ = some (r, μ') → (xargs av).length ≤ maxL ∧ xrun tab env (xrtk ret) K N (xlo av maxL) μ = some (r, μ')) : Ctr X l y cc maxL ret rm 0 0 F := by
  intro av μ r μ' hok h
  obtain ⟨hlen, h⟩ := hF av μ r μ' h
  refine Met.ofW (cc := cc) (maxL := maxL) (ret := ret) hy rfl ?_
  intro p e s m args below meth c s₁ B hml hv
  obtain ⟨rfl, hP, hK, hC, hscr⟩ := hv
  have hown : s.vm.findClass y.cls = some m.cls := findClass_of_methodNamed B.named
  have hts : ∀ w ∈ xG, w.before (av.map (xc X)).toArray s = true := fun w hw => atoms_spec (ws := Cond.code y cc maxL ret :: xG) B.pre w (List.mem_cons_of_mem _ hw)
  have CC : XCt X p (headSpec (Cond.code y cc maxL ret :: xG) rm).room s m (av.map (xc X)).toArray c cc y.cls maxL := ⟨B.exec, B.bytes, hml, hown, hts, hK, hC, hX, hrm.2.2.1, hrm.2.2.2⟩
  have hI : XI X s μ s.heap [] := ⟨hP, va_S.rf, hscr⟩
  rw [lg_entry_eq]
  have hl := lv_entry (av.map (xc X)) (n := maxL) (by rw [xargs_sl]; exact hlen)
  generalize (lg_sl (av.map (xc X)) ++ List.replicate (maxL - (lg_sl (av.map (xc X))).length) Slot.unset).toArray = ls at hl ⊢
  have hL : xloc X ls maxL (xlo av maxL) := by
    refine ⟨?_, by simp [xlo]; omega, ?_⟩
    · unfold xlo
      rw [xlv_app, xlv_repl, List.append_nil, xargs_lv]
      exact hl
    · intro v hv
      rcases List.mem_append.mp hv with hv | hv
      · exact xargs_ok av hok v hv
      · exact absurd (List.eq_of_mem_replicate hv) (by simp)
  have hfin : XFin p l e (headSpec (Cond.code y cc maxL ret :: xG) rm).room s m (av.map (xc X)).toArray below meth c (MQ below (xQ X r μ') (av.map (xc X)).toArray s 0 0 (xA X)) cc X false (xrtk ret) 0 0 r μ' := by
    intro H locs cells slots pc ls' hsz hI' hc hs
    obtain rfl : cells = 0 := by omega
    obtain rfl : slots = 0 := by omega
    refine ⟨fun hrt hr hd => ?_, fun x hr hrt hd => ?_, fun x hrt hr hd => ?_, fun idx hz => by cases hz⟩
    · subst hr
      have hret : ret = none := by
        unfold xrtk at hrt; split at hrt <;> first | rfl | omega
      exact W.vret CC.1 CC.2.1 (by rw [B.returns]; exact hret) (fun t ht hW => ⟨⟨(), rfl, trivial, xW_now CC hI' ht hW⟩, hI'.2.1.F ht⟩) hI'.2.1.2.2 hd (hlocks := B.notSynchronized)
    · subst hr
      have hq : ∀ t : State, t.heap = H → s.WarmedH t.vm → xQ X (some (xi x)) μ' (av.map (xc X)).toArray s (.returned (some (.int x))) t := fun t ht hW => ⟨⟨x, (), rfl, rfl, xW_now CC hI' ht hW⟩, hI'.2.1.F ht⟩
      rcases hrt with hrt | ⟨hrt, hv⟩ | ⟨hrt, hv⟩
      · have hret : ret = some .int := by
          unfold xrtk at hrt; split at hrt <;> first | rfl | omega
        exact W.iret CC.1 CC.2.1 (by rw [B.returns]; exact hret) hq hI'.2.1.2.2 hd (hlocks := B.notSynchronized)
      · have hret : ret = some .boolean := by
          unfold xrtk at hrt; split at hrt <;> first | rfl | omega
        exact W.zret (ty := .boolean) CC.1 CC.2.1 (by rw [B.returns]; exact hret) (by rcases hv with rfl | rfl <;> decide +kernel) hq hI'.2.1.2.2 hd (hlocks := B.notSynchronized)
      · have hret : ret = some .char := by
          unfold xrtk at hrt; split at hrt <;> first | rfl | omega
        have hn : narrow .char (.int x) = .int x := by
          have h9 : narrow .char (.int x) = .int (vp_nar .char x) := rfl
          rw [h9, hv]
        exact W.zret (ty := .char) CC.1 CC.2.1 (by rw [B.returns]; exact hret) hn hq hI'.2.1.2.2 hd (hlocks := B.notSynchronized)
    · subst hr
      have hret : ret = some .long := by
        unfold xrtk at hrt; split at hrt <;> first | rfl | omega
      exact W.lret CC.1 CC.2.1 (by rw [B.returns]; exact hret) (fun t ht hW => ⟨⟨x, (), rfl, rfl, xW_now CC hI' ht hW⟩, hI'.2.1.F ht⟩) hI'.2.1.2.2 hd (hlocks := B.notSynchronized)
  obtain ⟨e0, nx, htab, he0⟩ := h0
  have hrun : ex (arr tab env (xrtk ret) K N) tab env (xrtk ret) K (e0 :: nx) (xlo av maxL) [] μ = some (r, μ') := by
    have : xrun tab env (xrtk ret) K N (xlo av maxL) μ = ex (arr tab env (xrtk ret) K N) tab env (xrtk ret) K tab (xlo av maxL) [] μ := rfl
    rw [this] at h
    rw [← htab]; exact h
  have := (xs_body CC hT hE (ac := 0) (as := 0) (capc := 0) (caps := 0) ⟨Nat.zero_le _, Nat.zero_le _⟩ hfin N).2 K e0 nx [] htab (xlo av maxL) [] μ s.heap [] 0 0 ls hrun hI hL (fun v h => absurd h List.not_mem_nil) ⟨by simp, by simp⟩
  rw [he0] at this
  exact this
