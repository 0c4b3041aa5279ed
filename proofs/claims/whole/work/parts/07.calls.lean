/-! calls -/
def xcal1 (X : XP) (l : Launch) (R : Room) (own : String) (ac as : Nat) (q : Nat × Nat × Nat × Nat × XF) : Prop :=
  ∃ (y : MethodName) (bytes : ByteArray) (maxL : Nat) (ret : Option FieldType) (rm : Room) (mc ms : Nat), Ctr X l y bytes maxL ret rm mc ms q.2.2.2.2 ∧ rm.cells = mc ∧ rm.slots = ms ∧ mc ≤ ac ∧ ms ≤ as ∧
    Cond.code y bytes maxL ret ∈ xG ∧ Cond.methodLink own q.1 y ∈ xG ∧ Cond.initialized y.cls ∈ xG ∧ (y.cls ≠ "java/lang/invoke/MethodHandle" ∧ y.cls ≠ "java/lang/invoke/VarHandle") ∧ rm.frames + 1 ≤ R.frames ∧ 8 + (maxL + 11) + rm.locals ≤ R.locals ∧
    ((q.2.2.2.1 = 99 ∧ Cond.static y ∈ xG ∧ (parseMethodDescriptor y.desc).map (fun d => d.parameters.length) = some q.2.2.1) ∨
     (q.2.2.2.1 ≠ 99 ∧ Cond.instanceMethod y ∈ xG ∧ Cond.selects y.cls y y ∈ xG ∧ y.cls = xcn q.2.2.2.1 ∧ ∃ n, q.2.2.1 = n + 1 ∧ (parseMethodDescriptor y.desc).map (fun d => d.parameters.length) = some n))
/-- the contract of a method with a table of handlers -/
def CtrW (X : XP) (l : Launch) (y : MethodName) (bytes : ByteArray) (maxL : Nat) (ret : Option FieldType) (hh : List (Nat × Nat × Nat × Nat)) (rm : Room) (mc ms : Nat) (F : XF) : Prop :=
  ∀ (av : List XV) (μ : XM) (r : Option XV) (μ' : XM), (∀ v ∈ av, xok v) → F av μ = some (r, μ') →
    Met l y (Cond.codeWith y bytes maxL ret hh :: xG) rm (va_Pc (av.map (xc X)) (XW X μ)) (xQ X r μ') mc ms (xA X)
def xcal2 (X : XP) (l : Launch) (R : Room) (own : String) (ac as : Nat) (q : Nat × Nat × Nat × Nat × XF) : Prop :=
  ∃ (y : MethodName) (bytes : ByteArray) (maxL : Nat) (ret : Option FieldType) (hh : List (Nat × Nat × Nat × Nat)) (rm : Room) (mc ms : Nat), CtrW X l y bytes maxL ret hh rm mc ms q.2.2.2.2 ∧ rm.cells = mc ∧ rm.slots = ms ∧ mc ≤ ac ∧ ms ≤ as ∧
    Cond.codeWith y bytes maxL ret hh ∈ xG ∧ Cond.methodLink own q.1 y ∈ xG ∧ Cond.initialized y.cls ∈ xG ∧ (y.cls ≠ "java/lang/invoke/MethodHandle" ∧ y.cls ≠ "java/lang/invoke/VarHandle") ∧ rm.frames + 1 ≤ R.frames ∧ 8 + (maxL + 11) + rm.locals ≤ R.locals ∧
    (q.2.2.2.1 = 99 ∧ Cond.static y ∈ xG ∧ (parseMethodDescriptor y.desc).map (fun d => d.parameters.length) = some q.2.2.1)
def xcal (X : XP) (l : Launch) (R : Room) (own : String) (ac as : Nat) (q : Nat × Nat × Nat × Nat × XF) : Prop := xcal1 X l R own ac as q ∨ xcal2 X l R own ac as q
theorem xpop_some : ∀ (a : Nat) (acc st : List XV) (as rest : List XV), xpop a acc st = some (as, rest) → ∃ bs, as = bs ++ acc ∧ bs.length = a ∧ st = bs.reverse ++ rest := by
  intro a
  induction a with
  | zero => intro acc st as rest h; simp only [xpop, Option.some.injEq, Prod.mk.injEq] at h; exact ⟨[], by rw [← h.1]; rfl, rfl, by rw [← h.2]; rfl⟩
  | succ a ih =>
    intro acc st as rest h
    cases st with
    | nil => simp [xpop] at h
    | cons v st =>
      obtain ⟨bs, h1, h2, h3⟩ := ih (v :: acc) st as rest h
      exact ⟨bs ++ [v], by rw [h1]; simp, by simp [h2], by rw [h3]; simp⟩
theorem xsum_xc (X : XP) (st : List XV) : ((st.map (xc X)).map fun v => v.category).sum = xsum st := by
  unfold xsum
  congr 1
  rw [List.map_map]
  apply List.map_congr_left
  intro v _
  exact xc_cat X v
theorem xG_GoodIn {y : MethodName} {bytes : ByteArray} {maxL : Nat} {ret : Option FieldType} (h : Cond.code y bytes maxL ret ∈ xG) : GoodIn xG (Cond.code y bytes maxL ret :: xG) := by
  intro w hw
  rcases List.mem_cons.mp hw with rfl | hw
  · exact ⟨h, good_of_word (xG_good _ h)⟩
  · exact ⟨hw, good_of_word (xG_good _ hw)⟩
section
variable {p : Program} {l : Launch} {e : Env} {R : Room} {s : State} {m : MethodId} {args : Array Value} {below : List Frame} {meth : Method} {c : Code} {Z : State → Prop} {cc : ByteArray} {own : String} {X : XP} {nL : Nat} {μ : XM} {H : Heap} {locs : List Loc} {cells slots pc : Nat} {ls : Array Slot} {rest : List XV}
theorem xC_now (C : XCt X p R s m args c cc own nL) (hI : XI X s μ H locs) : xC X s H := C.2.2.2.2.2.2.2.1.2.2.1 s s.heap H hI.2.1.1 hI.2.1.2.1 C.2.2.2.2.2.2.1
theorem xW_now (C : XCt X p R s m args c cc own nL) (hI : XI X s μ H locs) {U : State} (hU : U.heap = H) (hW : s.WarmedH U.vm) : XW X μ U := by
  refine ⟨by rw [hU]; exact hI.1, va_K.moved hW.alike C.2.2.2.2.2.1, ?_, hI.2.2⟩
  rw [hU]
  exact C.2.2.2.2.2.2.2.1.2.1 s U H (Or.inl hW) (xC_now C hI)
/-- what comes behind a call -/
theorem xr_back (hI : XI X s μ H locs) {st0 : List Value} {mc ms : Nat} {a : Array Value} {r : Option XV} {μ' : XM} (hr0 : ∀ q, r ≠ some (.inr (.inr q)))
    (hr : va_Run p l e R s m args below meth c H locs cells slots mc ms (F0 m pc ls st0) (rest.map (xc X)) (xQ X r μ' a) (xA X))
    (kk : ∀ H1 locs1, XI X s μ' H1 locs1 → W p l e R s m args below meth c H1 locs1 (cells + mc) (slots + ms) Z (F0 m (pc + 3) ls ((r.toList ++ rest).map (xc X)))) : W p l e R s m args below meth c H locs cells slots Z (F0 m pc ls st0) := by
  rcases r with _ | x | x | q
  · exact va_callv (a := a) hr hI.2.1 (fun _ _ h => h) (fun _ h => h) (fun u t H1 locs1 ht hvm hw hB hz hk hS => kk H1 locs1 ⟨by rw [← ht]; exact hB.1, hS, hB.2.2.2⟩)
  · refine va_calli (a := a) hr hI.2.1 (fun _ _ h => h) (fun _ h => h) (fun y u t H1 locs1 ht hvm hw hB hz hk hS => ?_)
    rw [show y = x from hw]
    exact kk H1 locs1 ⟨by rw [← ht]; exact hB.1, hS, hB.2.2.2⟩
  · refine va_calll (a := a) hr hI.2.1 (fun _ _ h => h) (fun _ h => h) (fun y u t H1 locs1 ht hvm hw hB hz hk hS => ?_)
    rw [show y = x from hw]
    exact kk H1 locs1 ⟨by rw [← ht]; exact hB.1, hS, hB.2.2.2⟩
  · exact absurd rfl (hr0 q)
theorem xr_callV (C : XCt X p R s m args c cc own nL) (hls : ls.size = nL) (hI : XI X s μ H locs) {ac as idx rk na tg : Nat} {F : XF} (hcal : xcal X l R own ac as (idx, rk, na, tg, F)) (htg : tg ≠ 99) {i : Nat} {bs : List XV} (hok : ∀ v ∈ (xr tg i 0 :: bs), xok v) (hlen : bs.length + 1 = na) {r : Option XV} {μ' : XM} (hr0 : ∀ q, r ≠ some (.inr (.inr q))) (hF : F (xr tg i 0 :: bs) μ = some (r, μ'))
    (hsum : xsum rest ≤ 8) (hdg : decode cc pc = .ok (.invokevirtual idx, 3)) (hcap : cells + ac ≤ R.cells ∧ slots + as ≤ R.slots)
    (kk : ∀ mc ms H1 locs1, mc ≤ ac → ms ≤ as → XI X s μ' H1 locs1 → W p l e R s m args below meth c H1 locs1 (cells + mc) (slots + ms) Z (F0 m (pc + 3) ls ((r.toList ++ rest).map (xc X)))) :
    W p l e R s m args below meth c H locs cells slots Z (F0 m pc ls ((bs.reverse ++ xr tg i 0 :: rest).map (xc X))) := by
  replace hcal : xcal1 X l R own ac as (idx, rk, na, tg, F) := by
    rcases hcal with hcal | ⟨y, bytes, maxL, ret, hh, rm, mc, ms, -, -, -, -, -, -, -, -, -, -, -, z, -⟩
    · exact hcal
    · exact absurd z htg
  obtain ⟨y, bytes, maxL, ret, rm, mc, ms, hCtr, hrc, hrs, hmc, hms, hcode, hlink, hini, hy, hfr, hlo, hkind⟩ := hcal
  rcases hkind with ⟨z, -⟩ | ⟨-, hinst, hsel, hycl, n, hn, hpar⟩
  · exact absurd z htg
  have hts := C.2.2.2.2.1
  have hX := C.2.2.2.2.2.2.2.1
  have hMet := hCtr (xr tg i 0 :: bs) μ r μ' hok hF
  have hrecv : ∃ cellB : Cell, H[xad X (tg, i, 0)]? = some cellB ∧ cellB.vm.isStatics = false ∧ s.vm.findClass y.cls = some cellB.cls := by
    have ho : (tg, i, 0) ∈ xdom ∨ (tg, i, 0) = (13, 0, 1) ∨ (tg = 15 ∧ i < 2 ∧ 0 = 0) := hok (xr tg i 0) List.mem_cons_self
    rcases ho with ho | ho | ⟨rfl, hi, -⟩
    · obtain ⟨q0, hq0⟩ := xpos ho
      have he := xws_get X μ hq0
      have ht : tg < 13 := by
        have h0 : xdom.all (fun q => match q with | (t, _, 0) => decide (t < 13) | _ => true) = true := by decide +kernel
        exact of_decide_eq_true (List.all_eq_true.mp h0 _ ho)
      obtain ⟨C1, T1, N1, hcl⟩ := xcl_of ht
      obtain ⟨cell, g1, g2, g3⟩ := va_recv (q0 := q0) C.2.2.2.2.2.1 hI.1 hcl he
      refine ⟨cell, g1, g2, ?_⟩
      rw [hycl]
      have h15 : ¬ tg = 15 := by omega
      simp only [xcn, if_neg h15, hcl, Option.map_some, Option.getD_some]
      exact g3
    · simp at ho
    · rw [hycl]
      exact hX.2.2.2.2.1 s H i hi (xC_now C hI)
  have hrun := va_runV (p := p) (e := e) (R := R) (m := m) (below := below) (meth := meth) (H := H) (locs := locs) (cells := cells) (slots := slots) (As := bs.map (xc X)) (rest := rest.map (xc X)) (b := xad X (tg, i, 0)) (C := y.cls) (n := n) (index := idx) (g := F0 m pc ls ((bs.reverse ++ xr tg i 0 :: rest).map (xc X))) ⟨C.1, C.2.1, C.2.2.1, C.2.2.2.1, hts⟩ hMet
    ⟨callB_of n hts (xG_GoodIn hcode) rfl hrc hrs (hts _ hini) (hts _ hlink) ⟨hy.1, hy.2, hpar⟩ ⟨hfr, hlo⟩, hts _ hinst, hts _ hsel⟩
    ⟨xW_blind X hX μ _, hrecv, fun U hU hW => ⟨rfl, xW_now C hI hU hW⟩⟩ rfl (by simp at hn ⊢; omega) hls (by simp [xc]) (lv_room (by rw [xsum_xc]; exact hsum)) hdg ⟨by omega, by omega⟩
  exact xr_back hI hr0 hrun (fun H1 locs1 h => kk mc ms H1 locs1 hmc hms h)
theorem xr_callS (C : XCt X p R s m args c cc own nL) (hls : ls.size = nL) (hI : XI X s μ H locs) {ac as idx rk na : Nat} {F : XF} (hcal : xcal X l R own ac as (idx, rk, na, 99, F)) {bs : List XV} (hok : ∀ v ∈ bs, xok v) (hlen : bs.length = na) {r : Option XV} {μ' : XM} (hr0 : ∀ q, r ≠ some (.inr (.inr q))) (hF : F bs μ = some (r, μ'))
    (hsum : xsum rest ≤ 8) (hdg : decode cc pc = .ok (.invokestatic idx, 3)) (hcap : cells + ac ≤ R.cells ∧ slots + as ≤ R.slots)
    (kk : ∀ mc ms H1 locs1, mc ≤ ac → ms ≤ as → XI X s μ' H1 locs1 → W p l e R s m args below meth c H1 locs1 (cells + mc) (slots + ms) Z (F0 m (pc + 3) ls ((r.toList ++ rest).map (xc X)))) :
    W p l e R s m args below meth c H locs cells slots Z (F0 m pc ls ((bs.reverse ++ rest).map (xc X))) := by
  rcases hcal with hcal | ⟨y, bytes, maxL, ret, hh, rm, mc, ms, hCtr, hrc, hrs, hmc, hms, hcode, hlink, hini, hy, hfr, hlo, -, hstat, hpar⟩
  rotate_left
  · have hts := C.2.2.2.2.1
    have hX := C.2.2.2.2.2.2.2.1
    have hMet := hCtr bs μ r μ' hok hF
    have hG : GoodIn xG (va_wsS own idx y (Cond.codeWith y bytes maxL ret hh :: xG)) := by
      intro w hw
      have hw2 : w ∈ xG := by
        simp only [va_wsS, List.cons_append, List.nil_append, List.mem_cons] at hw
        rcases hw with rfl | rfl | rfl | rfl | hw
        · exact hlink
        · exact hstat
        · exact hini
        · exact hcode
        · exact hw
      exact ⟨hw2, good_of_word (xG_good _ hw2)⟩
    have hrun := vx_runSW (p := p) (e := e) (R := R) (m := m) (below := below) (meth := meth) (H := H) (locs := locs) (cells := cells) (slots := slots) (As := bs.map (xc X)) (rest := rest.map (xc X)) (n := na) (index := idx) (g := F0 m pc ls ((bs.reverse ++ rest).map (xc X))) ⟨C.1, C.2.1, C.2.2.1, C.2.2.2.1, hts⟩ hMet
      (vx_cwSW na hts hG rfl hrc hrs ⟨hy.1, hy.2, hpar⟩ ⟨hfr, hlo⟩)
      ⟨xW_blind X hX μ _, fun U hU hW => ⟨rfl, xW_now C hI hU hW⟩⟩ rfl (by simp [hlen]) hls (by simp) (lv_room (by rw [xsum_xc]; exact hsum)) hdg ⟨by omega, by omega⟩
    exact xr_back hI hr0 hrun (fun H1 locs1 h => kk mc ms H1 locs1 hmc hms h)
  obtain ⟨y, bytes, maxL, ret, rm, mc, ms, hCtr, hrc, hrs, hmc, hms, hcode, hlink, hini, hy, hfr, hlo, hkind⟩ := hcal
  obtain ⟨hstat, hpar⟩ : Cond.static y ∈ xG ∧ (parseMethodDescriptor y.desc).map (fun d => d.parameters.length) = some na := by
    rcases hkind with ⟨-, hstat, hpar⟩ | ⟨z, -⟩
    · exact ⟨hstat, hpar⟩
    · exact absurd rfl z
  have hts := C.2.2.2.2.1
  have hX := C.2.2.2.2.2.2.2.1
  have hMet := hCtr bs μ r μ' hok hF
  have hrun := va_runS (p := p) (e := e) (R := R) (m := m) (below := below) (meth := meth) (H := H) (locs := locs) (cells := cells) (slots := slots) (As := bs.map (xc X)) (rest := rest.map (xc X)) (n := na) (index := idx) (g := F0 m pc ls ((bs.reverse ++ rest).map (xc X))) ⟨C.1, C.2.1, C.2.2.1, C.2.2.2.1, hts⟩ hMet
    ⟨callB_of na hts (xG_GoodIn hcode) rfl hrc hrs (hts _ hini) (hts _ hlink) ⟨hy.1, hy.2, hpar⟩ ⟨hfr, hlo⟩, hts _ hstat⟩
    ⟨xW_blind X hX μ _, fun U hU hW => ⟨rfl, xW_now C hI hU hW⟩⟩ rfl (by simp [hlen]) hls (by simp) (lv_room (by rw [xsum_xc]; exact hsum)) hdg ⟨by omega, by omega⟩
  exact xr_back hI hr0 hrun (fun H1 locs1 h => kk mc ms H1 locs1 hmc hms h)
end
