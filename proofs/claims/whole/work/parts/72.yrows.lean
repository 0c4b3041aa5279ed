/-! THE MAKING: rows over the world of what is made -/
set_option maxRecDepth 20000 in
theorem yA0 : Cond.arrayClass .int ∈ xG := xG_k xT_1 100 rfl rfl
set_option maxRecDepth 20000 in
theorem yA1 : Cond.arrayClass .long ∈ xG := xG_k xT_1 99 rfl rfl
set_option maxRecDepth 20000 in
theorem yA2 : Cond.arrayClass .char ∈ xG := xG_k xT_1 73 rfl rfl
set_option maxRecDepth 20000 in
theorem yA3 : Cond.arrayClass .boolean ∈ xG := xG_k xT_7 53 rfl rfl
def yrt (ty : FieldType) : Bool := match ty with | .object _ => true | .array _ => true | _ => false
theorem yrt_ok {ty : FieldType} (h : yrt ty = true) (a : Nat) : narrow ty (.ref a) = .ref a ∧ fits ty (.ref a) = true ∧ defaultValue ty = .null := by
  cases ty <;> first | exact ⟨rfl, rfl, rfl⟩ | exact absurd h (by decide)
def ycf (a : Nat) (C : String) (T : u_T) (N : Nat) : Prop := ∀ b, b < N → (match (xlay a)[b]? with | some (.inr _) => (T b).2.2.2 = true ∧ (T b).1 = C ∧ (parseFieldDescriptor (T b).2.2.1).map yrt = some true | _ => True)
theorem ycf0 : ycf 0 xR0 xT0 3 := by
  intro b hb
  match b, hb with
  | 0, _ => first | exact trivial | exact ⟨rfl, rfl, by decide +kernel⟩
  | 1, _ => first | exact trivial | exact ⟨rfl, rfl, by decide +kernel⟩
  | 2, _ => first | exact trivial | exact ⟨rfl, rfl, by decide +kernel⟩
  | b + 3, hb => exact absurd hb (by omega)
theorem ycf1 : ycf 1 xR1 xT1 5 := by
  intro b hb
  match b, hb with
  | 0, _ => first | exact trivial | exact ⟨rfl, rfl, by decide +kernel⟩
  | 1, _ => first | exact trivial | exact ⟨rfl, rfl, by decide +kernel⟩
  | 2, _ => first | exact trivial | exact ⟨rfl, rfl, by decide +kernel⟩
  | 3, _ => first | exact trivial | exact ⟨rfl, rfl, by decide +kernel⟩
  | 4, _ => first | exact trivial | exact ⟨rfl, rfl, by decide +kernel⟩
  | b + 5, hb => exact absurd hb (by omega)
theorem ycf2 : ycf 2 xR2 xT2 17 := by
  intro b hb
  match b, hb with
  | 0, _ => first | exact trivial | exact ⟨rfl, rfl, by decide +kernel⟩
  | 1, _ => first | exact trivial | exact ⟨rfl, rfl, by decide +kernel⟩
  | 2, _ => first | exact trivial | exact ⟨rfl, rfl, by decide +kernel⟩
  | 3, _ => first | exact trivial | exact ⟨rfl, rfl, by decide +kernel⟩
  | 4, _ => first | exact trivial | exact ⟨rfl, rfl, by decide +kernel⟩
  | 5, _ => first | exact trivial | exact ⟨rfl, rfl, by decide +kernel⟩
  | 6, _ => first | exact trivial | exact ⟨rfl, rfl, by decide +kernel⟩
  | 7, _ => first | exact trivial | exact ⟨rfl, rfl, by decide +kernel⟩
  | 8, _ => first | exact trivial | exact ⟨rfl, rfl, by decide +kernel⟩
  | 9, _ => first | exact trivial | exact ⟨rfl, rfl, by decide +kernel⟩
  | 10, _ => first | exact trivial | exact ⟨rfl, rfl, by decide +kernel⟩
  | 11, _ => first | exact trivial | exact ⟨rfl, rfl, by decide +kernel⟩
  | 12, _ => first | exact trivial | exact ⟨rfl, rfl, by decide +kernel⟩
  | 13, _ => first | exact trivial | exact ⟨rfl, rfl, by decide +kernel⟩
  | 14, _ => first | exact trivial | exact ⟨rfl, rfl, by decide +kernel⟩
  | 15, _ => first | exact trivial | exact ⟨rfl, rfl, by decide +kernel⟩
  | 16, _ => first | exact trivial | exact ⟨rfl, rfl, by decide +kernel⟩
  | b + 17, hb => exact absurd hb (by omega)
theorem ycf3 : ycf 3 xR3 xT3 1 := by
  intro b hb
  match b, hb with
  | 0, _ => first | exact trivial | exact ⟨rfl, rfl, by decide +kernel⟩
  | b + 1, hb => exact absurd hb (by omega)
theorem ycf4 : ycf 4 xR4 xT4 4 := by
  intro b hb
  match b, hb with
  | 0, _ => first | exact trivial | exact ⟨rfl, rfl, by decide +kernel⟩
  | 1, _ => first | exact trivial | exact ⟨rfl, rfl, by decide +kernel⟩
  | 2, _ => first | exact trivial | exact ⟨rfl, rfl, by decide +kernel⟩
  | 3, _ => first | exact trivial | exact ⟨rfl, rfl, by decide +kernel⟩
  | b + 4, hb => exact absurd hb (by omega)
theorem ycf5 : ycf 5 xR5 xT5 3 := by
  intro b hb
  match b, hb with
  | 0, _ => first | exact trivial | exact ⟨rfl, rfl, by decide +kernel⟩
  | 1, _ => first | exact trivial | exact ⟨rfl, rfl, by decide +kernel⟩
  | 2, _ => first | exact trivial | exact ⟨rfl, rfl, by decide +kernel⟩
  | b + 3, hb => exact absurd hb (by omega)
theorem ycf6 : ycf 6 xR6 xT6 7 := by
  intro b hb
  match b, hb with
  | 0, _ => first | exact trivial | exact ⟨rfl, rfl, by decide +kernel⟩
  | 1, _ => first | exact trivial | exact ⟨rfl, rfl, by decide +kernel⟩
  | 2, _ => first | exact trivial | exact ⟨rfl, rfl, by decide +kernel⟩
  | 3, _ => first | exact trivial | exact ⟨rfl, rfl, by decide +kernel⟩
  | 4, _ => first | exact trivial | exact ⟨rfl, rfl, by decide +kernel⟩
  | 5, _ => first | exact trivial | exact ⟨rfl, rfl, by decide +kernel⟩
  | 6, _ => first | exact trivial | exact ⟨rfl, rfl, by decide +kernel⟩
  | b + 7, hb => exact absurd hb (by omega)
theorem ycf7 : ycf 7 xR7 xT7 5 := by
  intro b hb
  match b, hb with
  | 0, _ => first | exact trivial | exact ⟨rfl, rfl, by decide +kernel⟩
  | 1, _ => first | exact trivial | exact ⟨rfl, rfl, by decide +kernel⟩
  | 2, _ => first | exact trivial | exact ⟨rfl, rfl, by decide +kernel⟩
  | 3, _ => first | exact trivial | exact ⟨rfl, rfl, by decide +kernel⟩
  | 4, _ => first | exact trivial | exact ⟨rfl, rfl, by decide +kernel⟩
  | b + 5, hb => exact absurd hb (by omega)
theorem ycf8 : ycf 8 xR8 xT8 9 := by
  intro b hb
  match b, hb with
  | 0, _ => first | exact trivial | exact ⟨rfl, rfl, by decide +kernel⟩
  | 1, _ => first | exact trivial | exact ⟨rfl, rfl, by decide +kernel⟩
  | 2, _ => first | exact trivial | exact ⟨rfl, rfl, by decide +kernel⟩
  | 3, _ => first | exact trivial | exact ⟨rfl, rfl, by decide +kernel⟩
  | 4, _ => first | exact trivial | exact ⟨rfl, rfl, by decide +kernel⟩
  | 5, _ => first | exact trivial | exact ⟨rfl, rfl, by decide +kernel⟩
  | 6, _ => first | exact trivial | exact ⟨rfl, rfl, by decide +kernel⟩
  | 7, _ => first | exact trivial | exact ⟨rfl, rfl, by decide +kernel⟩
  | 8, _ => first | exact trivial | exact ⟨rfl, rfl, by decide +kernel⟩
  | b + 9, hb => exact absurd hb (by omega)
theorem ycf9 : ycf 9 xR9 xT9 3 := by
  intro b hb
  match b, hb with
  | 0, _ => first | exact trivial | exact ⟨rfl, rfl, by decide +kernel⟩
  | 1, _ => first | exact trivial | exact ⟨rfl, rfl, by decide +kernel⟩
  | 2, _ => first | exact trivial | exact ⟨rfl, rfl, by decide +kernel⟩
  | b + 3, hb => exact absurd hb (by omega)
theorem ycf10 : ycf 10 xR10 xT10 8 := by
  intro b hb
  match b, hb with
  | 0, _ => first | exact trivial | exact ⟨rfl, rfl, by decide +kernel⟩
  | 1, _ => first | exact trivial | exact ⟨rfl, rfl, by decide +kernel⟩
  | 2, _ => first | exact trivial | exact ⟨rfl, rfl, by decide +kernel⟩
  | 3, _ => first | exact trivial | exact ⟨rfl, rfl, by decide +kernel⟩
  | 4, _ => first | exact trivial | exact ⟨rfl, rfl, by decide +kernel⟩
  | 5, _ => first | exact trivial | exact ⟨rfl, rfl, by decide +kernel⟩
  | 6, _ => first | exact trivial | exact ⟨rfl, rfl, by decide +kernel⟩
  | 7, _ => first | exact trivial | exact ⟨rfl, rfl, by decide +kernel⟩
  | b + 8, hb => exact absurd hb (by omega)
theorem ycf11 : ycf 11 xR11 xT11 12 := by
  intro b hb
  match b, hb with
  | 0, _ => first | exact trivial | exact ⟨rfl, rfl, by decide +kernel⟩
  | 1, _ => first | exact trivial | exact ⟨rfl, rfl, by decide +kernel⟩
  | 2, _ => first | exact trivial | exact ⟨rfl, rfl, by decide +kernel⟩
  | 3, _ => first | exact trivial | exact ⟨rfl, rfl, by decide +kernel⟩
  | 4, _ => first | exact trivial | exact ⟨rfl, rfl, by decide +kernel⟩
  | 5, _ => first | exact trivial | exact ⟨rfl, rfl, by decide +kernel⟩
  | 6, _ => first | exact trivial | exact ⟨rfl, rfl, by decide +kernel⟩
  | 7, _ => first | exact trivial | exact ⟨rfl, rfl, by decide +kernel⟩
  | 8, _ => first | exact trivial | exact ⟨rfl, rfl, by decide +kernel⟩
  | 9, _ => first | exact trivial | exact ⟨rfl, rfl, by decide +kernel⟩
  | 10, _ => first | exact trivial | exact ⟨rfl, rfl, by decide +kernel⟩
  | 11, _ => first | exact trivial | exact ⟨rfl, rfl, by decide +kernel⟩
  | b + 12, hb => exact absurd hb (by omega)
theorem ycf12 : ycf 12 xR12 xT12 34 := by
  intro b hb
  match b, hb with
  | 0, _ => first | exact trivial | exact ⟨rfl, rfl, by decide +kernel⟩
  | 1, _ => first | exact trivial | exact ⟨rfl, rfl, by decide +kernel⟩
  | 2, _ => first | exact trivial | exact ⟨rfl, rfl, by decide +kernel⟩
  | 3, _ => first | exact trivial | exact ⟨rfl, rfl, by decide +kernel⟩
  | 4, _ => first | exact trivial | exact ⟨rfl, rfl, by decide +kernel⟩
  | 5, _ => first | exact trivial | exact ⟨rfl, rfl, by decide +kernel⟩
  | 6, _ => first | exact trivial | exact ⟨rfl, rfl, by decide +kernel⟩
  | 7, _ => first | exact trivial | exact ⟨rfl, rfl, by decide +kernel⟩
  | 8, _ => first | exact trivial | exact ⟨rfl, rfl, by decide +kernel⟩
  | 9, _ => first | exact trivial | exact ⟨rfl, rfl, by decide +kernel⟩
  | 10, _ => first | exact trivial | exact ⟨rfl, rfl, by decide +kernel⟩
  | 11, _ => first | exact trivial | exact ⟨rfl, rfl, by decide +kernel⟩
  | 12, _ => first | exact trivial | exact ⟨rfl, rfl, by decide +kernel⟩
  | 13, _ => first | exact trivial | exact ⟨rfl, rfl, by decide +kernel⟩
  | 14, _ => first | exact trivial | exact ⟨rfl, rfl, by decide +kernel⟩
  | 15, _ => first | exact trivial | exact ⟨rfl, rfl, by decide +kernel⟩
  | 16, _ => first | exact trivial | exact ⟨rfl, rfl, by decide +kernel⟩
  | 17, _ => first | exact trivial | exact ⟨rfl, rfl, by decide +kernel⟩
  | 18, _ => first | exact trivial | exact ⟨rfl, rfl, by decide +kernel⟩
  | 19, _ => first | exact trivial | exact ⟨rfl, rfl, by decide +kernel⟩
  | 20, _ => first | exact trivial | exact ⟨rfl, rfl, by decide +kernel⟩
  | 21, _ => first | exact trivial | exact ⟨rfl, rfl, by decide +kernel⟩
  | 22, _ => first | exact trivial | exact ⟨rfl, rfl, by decide +kernel⟩
  | 23, _ => first | exact trivial | exact ⟨rfl, rfl, by decide +kernel⟩
  | 24, _ => first | exact trivial | exact ⟨rfl, rfl, by decide +kernel⟩
  | 25, _ => first | exact trivial | exact ⟨rfl, rfl, by decide +kernel⟩
  | 26, _ => first | exact trivial | exact ⟨rfl, rfl, by decide +kernel⟩
  | 27, _ => first | exact trivial | exact ⟨rfl, rfl, by decide +kernel⟩
  | 28, _ => first | exact trivial | exact ⟨rfl, rfl, by decide +kernel⟩
  | 29, _ => first | exact trivial | exact ⟨rfl, rfl, by decide +kernel⟩
  | 30, _ => first | exact trivial | exact ⟨rfl, rfl, by decide +kernel⟩
  | 31, _ => first | exact trivial | exact ⟨rfl, rfl, by decide +kernel⟩
  | 32, _ => first | exact trivial | exact ⟨rfl, rfl, by decide +kernel⟩
  | 33, _ => first | exact trivial | exact ⟨rfl, rfl, by decide +kernel⟩
  | b + 34, hb => exact absurd hb (by omega)
theorem ycfs {a : Nat} {C : String} {T : u_T} {N : Nat} (h : xcl[a]? = some (C, T, N)) : ycf a C T N := by
  match a, h with
  | 0, h => cases h; exact ycf0
  | 1, h => cases h; exact ycf1
  | 2, h => cases h; exact ycf2
  | 3, h => cases h; exact ycf3
  | 4, h => cases h; exact ycf4
  | 5, h => cases h; exact ycf5
  | 6, h => cases h; exact ycf6
  | 7, h => cases h; exact ycf7
  | 8, h => cases h; exact ycf8
  | 9, h => cases h; exact ycf9
  | 10, h => cases h; exact ycf10
  | 11, h => cases h; exact ycf11
  | 12, h => cases h; exact ycf12
  | a + 13, h => simp [xcl] at h
theorem yln_b {t i j : Nat} (h : (t, i, j + 1) ∈ ynl) : (xarr t j).2 ≤ 2200 ∧ (xarr t j).1 ≤ 5 := by
  have h0 : ynl.all (fun q => match q with | (t, _, j + 1) => decide ((xarr t j).2 ≤ 2200) && decide ((xarr t j).1 ≤ 5) | _ => true) = true := by decide +kernel
  have := List.all_eq_true.mp h0 _ h
  simpa using this
theorem yln_o {t i : Nat} (h : (t, i, 0) ∈ ynl) : t < 13 := by
  have h0 : ynl.all (fun q => match q with | (t, _, 0) => decide (t < 13) | _ => true) = true := by decide +kernel
  have := List.all_eq_true.mp h0 _ h
  simpa using this
/-- the nest's links -/
def ynk : List (String × Nat × MethodName) := [(xR11, 9, ⟨xR10, "<init>", "()V"⟩), (xR11, 18, ⟨xR2, "<init>", "()V"⟩), (xR2, 48, ⟨xR4, "<init>", "()V"⟩), (xR7, 11, ⟨xR2, "<init>", "()V"⟩), (xR11, 34, ⟨xR1, "<init>", "()V"⟩), (xR5, 9, ⟨xR9, "<init>", "()V"⟩), (xR11, 70, ⟨xR9, "<init>", "()V"⟩), (xR11, 77, ⟨xR3, "<init>", "()V"⟩)]
def YNW (U : State) : Prop := ∀ q ∈ ynk, va_Nw (.methodLinkNest q.1 q.2.1 q.2.2 "SilenceBall") U
def YCt (P : YP) (p : Program) (R : Room) (s : State) (m : MethodId) (args : Array Value) (meth : Method) (c : Code) (cc : ByteArray) (y : MethodName) (nL : Nat) : Prop :=
  p.tables.exec = Jvm.exec ∧ c.code = cc ∧ c.maxLocals = nL ∧ s.vm.findClass y.cls = some m.cls ∧ (∀ w ∈ xG, w.before args s = true) ∧ va_K P.1 xcl (ytys P) s ∧ (∀ q, s.heap.size ≤ q → P.2.2 q) ∧ 1 ≤ R.frames ∧ 100 ≤ R.locals ∧ (va_AO xR8 s ∧ va_AO xR5 s ∧ YNW s) ∧ meth.name = y.name
def YI (P : YP) (ad : XQ → Nat) (s : State) (S : YS) (H : Heap) (locs : List Loc) : Prop := va_P P.1 xcl (yws (yX P ad) S) H ∧ va_D P.2.2 (yws (yX P ad) S) ∧ va_S P.2.2 s.heap H locs ∧ YV S
/-- the link of a class that is made -/
def ynw (own : String) (idx t : Nat) : Prop := ∃ C T N, xcl[t]? = some (C, T, N) ∧ Cond.classLink own idx C ∈ xG ∧ Cond.instantiable C N ∈ xG ∧ Cond.initialized C ∈ xG
section
variable {p : Program} {l : Launch} {e : Env} {R : Room} {s : State} {m : MethodId} {args : Array Value} {below : List Frame} {meth : Method} {c : Code} {Z : State → Prop} {cc : ByteArray} {y : MethodName} {P : YP} {ad : XQ → Nat} {nL : Nat} {S : YS} {H : Heap} {locs : List Loc} {cells slots pc : Nat} {ls : Array Slot} {rest : List Value}
theorem yr_new (C : YCt P p R s m args meth c cc y nL) (hI : YI P ad s S H locs) {t i idx : Nat} (hq : ynl[S.1]? = some (t, i, 0)) (hn : ynw y.cls idx t) (hcells : cells + 1 ≤ R.cells) (hslots : slots + (xlay t).length ≤ R.slots) (hdg : decode cc pc = .ok (.new idx, 3))
    (kk : ∀ (a : Nat) (H1 : Heap), YI P (yad ad (t, i, 0) a) s (S.1 + 1, S.2) H1 locs → W p l e R s m args below meth c H1 locs (cells + 1) (slots + (xlay t).length) Z (F0 m (pc + 3) ls (.ref a :: rest))) : W p l e R s m args below meth c H locs cells slots Z (F0 m pc ls rest) := by
  obtain ⟨hx, hb, hml, hown, hts, hK, hA, -, -, -, -⟩ := C
  obtain ⟨hP, hD, hS, hV⟩ := hI
  obtain ⟨C1, T, N, hcl, w1, w2, w3⟩ := hn
  obtain ⟨hlen, hin, ⟨ty0, hty⟩, hnm, hsl⟩ := xcfs hcl
  have hyc := ycfs hcl
  have hfresh := hV.2.2.2.1 t i (List.mem_of_getElem? hq) (ytk_no hq)
  rw [hlen] at hslots kk
  refine va_new (D := P.1) (cl := xcl) (ws := yws (yX P ad) S) (tys := ytys P) (A := P.2.2) (H0 := s.heap) (ci := t) (fs := yfs (yX P ad) S.2.1 S.2.2 t i) hx hb hts hin ty0 hty hown (hts _ w1) (hts _ w2) (hts _ w3) hK hP hD hS hA hcl (fun j hj => ?_) hcells hslots hdg (fun q H1 hP1 hD1 hS1 => ?_)
  · unfold vp_V
    rw [List.getD_eq_getElem?_getD, yfs_get]
    have h1 := hsl j hj
    have h2 := hyc j hj
    cases hs : (xlay t)[j]? with
    | none => exact absurd (List.getElem?_eq_none_iff.mp hs) (by omega)
    | some sl =>
      rw [hs] at h1 h2
      simp only [Option.map_some, Option.getD_some]
      rcases sl with k | f
      · have h3 : ty0 j = xsty k := Option.some.inj ((hty j hj).symm.trans h1.2)
        rw [h3]
        unfold ynul; rw [hs]
        rcases k with _ | _ | k
        · show defaultValue .int = Value.int (rI S.2.1 t i j); rw [(hfresh.2 j).1]; rfl
        · show defaultValue .long = Value.long (rL S.2.1 t i j); rw [(hfresh.2 j).2]; rfl
        · have h4 : xslot (yX P ad) S.2.1 t i j (.inl (k + 2)) = .int (rI S.2.1 t i j) := rfl
          rw [h4, (hfresh.2 j).1]
          unfold xsty
          rw [if_neg (by omega)]
          split <;> rfl
      · have h3 : yrt (ty0 j) = true := by
          have := h2.2.2
          rw [hty j hj] at this
          exact Option.some.inj this
        rw [(yrt_ok h3 0).2.2]
        unfold ynul; rw [hs]
        rw [hfresh.1 j]; rfl
  · have e := yws_push (P := P) (ad := ad) hV hq (a := q)
    exact kk q H1 ⟨by rw [e]; exact hP1, by rw [e]; exact hD1, hS1, YV_push hV hq⟩
theorem yr_new0 (C : YCt P p R s m args meth c cc y nL) (hI : YI P ad s S H locs) {t i j n : Nat} (hq : ynl[S.1]? = some (t, i, j + 1)) (ha : xarr t j = (0, n)) (hcells : cells + 1 ≤ R.cells) (hslots : slots + n ≤ R.slots) (hdg : decode cc pc = .ok (.newarray .int, 2))
    (kk : ∀ (a : Nat) (H1 : Heap), YI P (yad ad (t, i, j + 1) a) s (S.1 + 1, S.2) H1 locs → W p l e R s m args below meth c H1 locs (cells + 1) (slots + n) Z (F0 m (pc + 2) ls (.ref a :: rest))) : W p l e R s m args below meth c H locs cells slots Z (F0 m pc ls (.int (nI n) :: rest)) := by
  obtain ⟨hx, hb, hml, hown, hts, hK, hA, -, -, -, -⟩ := C
  obtain ⟨hP, hD, hS, hV⟩ := hI
  have hb2 := (yln_b (List.mem_of_getElem? hq)).1
  rw [ha] at hb2
  have hle : n ≤ 2200 := hb2
  have hz : aI S.2.1 t i j = fun _ => 0 := funext (fun k => ((hV.2.2.2.2 t i j (List.mem_of_getElem? hq) (ytk_no hq)).2 k).1)
  refine va_newa (D := P.1) (cl := xcl) (ws := yws (yX P ad) S) (tys := ytys P) (A := P.2.2) (H0 := s.heap) (atype := .int) (ty := .int) hx hb (hts _ yA0) rfl hK hP hD hS hA (a0 := (n, .inl (aI S.2.1 t i j))) (fun cA => by rw [hz]; rfl) (nI_pos (by omega)) (nI_clamp (by omega)) (by show n * 4 ≤ 536870912; omega) hcells hslots hdg (fun q cA H1 hK1 hP1 hD1 hS1 => ?_)
  obtain rfl : cA = P.2.1 0 := Option.some.inj ((show s.vm.findClass _ = some cA from (hK1.2 6 (cA, .int) rfl).2).symm.trans (hK.2 0 (P.2.1 0, .int) rfl).2)
  have e := yws_push (P := P) (ad := ad) hV hq (a := q)
  rw [yae_i (yX P ad) S.2.1 S.2.2 ha (by omega)] at e
  exact kk q H1 ⟨by rw [e]; exact hP1, by rw [e]; exact hD1, hS1, YV_push hV hq⟩
theorem yr_new1 (C : YCt P p R s m args meth c cc y nL) (hI : YI P ad s S H locs) {t i j n : Nat} (hq : ynl[S.1]? = some (t, i, j + 1)) (ha : xarr t j = (1, n)) (hcells : cells + 1 ≤ R.cells) (hslots : slots + n ≤ R.slots) (hdg : decode cc pc = .ok (.newarray .long, 2))
    (kk : ∀ (a : Nat) (H1 : Heap), YI P (yad ad (t, i, j + 1) a) s (S.1 + 1, S.2) H1 locs → W p l e R s m args below meth c H1 locs (cells + 1) (slots + n) Z (F0 m (pc + 2) ls (.ref a :: rest))) : W p l e R s m args below meth c H locs cells slots Z (F0 m pc ls (.int (nI n) :: rest)) := by
  obtain ⟨hx, hb, hml, hown, hts, hK, hA, -, -, -, -⟩ := C
  obtain ⟨hP, hD, hS, hV⟩ := hI
  have hb2 := (yln_b (List.mem_of_getElem? hq)).1
  rw [ha] at hb2
  have hle : n ≤ 2200 := hb2
  have hz : aL S.2.1 t i j = fun _ => 0 := funext (fun k => ((hV.2.2.2.2 t i j (List.mem_of_getElem? hq) (ytk_no hq)).2 k).2)
  refine va_newa (D := P.1) (cl := xcl) (ws := yws (yX P ad) S) (tys := ytys P) (A := P.2.2) (H0 := s.heap) (atype := .long) (ty := .long) hx hb (hts _ yA1) rfl hK hP hD hS hA (a0 := (n, .inr (.inl (aL S.2.1 t i j)))) (fun cA => by rw [hz]; rfl) (nI_pos (by omega)) (nI_clamp (by omega)) (by show n * 8 ≤ 536870912; omega) hcells hslots hdg (fun q cA H1 hK1 hP1 hD1 hS1 => ?_)
  obtain rfl : cA = P.2.1 1 := Option.some.inj ((show s.vm.findClass _ = some cA from (hK1.2 6 (cA, .long) rfl).2).symm.trans (hK.2 1 (P.2.1 1, .long) rfl).2)
  have e := yws_push (P := P) (ad := ad) hV hq (a := q)
  rw [yae_l (yX P ad) S.2.1 S.2.2 ha] at e
  exact kk q H1 ⟨by rw [e]; exact hP1, by rw [e]; exact hD1, hS1, YV_push hV hq⟩
theorem yr_new2 (C : YCt P p R s m args meth c cc y nL) (hI : YI P ad s S H locs) {t i j n : Nat} (hq : ynl[S.1]? = some (t, i, j + 1)) (ha : xarr t j = (2, n)) (hcells : cells + 1 ≤ R.cells) (hslots : slots + n ≤ R.slots) (hdg : decode cc pc = .ok (.newarray .char, 2))
    (kk : ∀ (a : Nat) (H1 : Heap), YI P (yad ad (t, i, j + 1) a) s (S.1 + 1, S.2) H1 locs → W p l e R s m args below meth c H1 locs (cells + 1) (slots + n) Z (F0 m (pc + 2) ls (.ref a :: rest))) : W p l e R s m args below meth c H locs cells slots Z (F0 m pc ls (.int (nI n) :: rest)) := by
  obtain ⟨hx, hb, hml, hown, hts, hK, hA, -, -, -, -⟩ := C
  obtain ⟨hP, hD, hS, hV⟩ := hI
  have hb2 := (yln_b (List.mem_of_getElem? hq)).1
  rw [ha] at hb2
  have hle : n ≤ 2200 := hb2
  have hz : aI S.2.1 t i j = fun _ => 0 := funext (fun k => ((hV.2.2.2.2 t i j (List.mem_of_getElem? hq) (ytk_no hq)).2 k).1)
  refine va_newa (D := P.1) (cl := xcl) (ws := yws (yX P ad) S) (tys := ytys P) (A := P.2.2) (H0 := s.heap) (atype := .char) (ty := .char) hx hb (hts _ yA2) rfl hK hP hD hS hA (a0 := (n, .inl (aI S.2.1 t i j))) (fun cA => by rw [hz]; rfl) (nI_pos (by omega)) (nI_clamp (by omega)) (by show n * 2 ≤ 536870912; omega) hcells hslots hdg (fun q cA H1 hK1 hP1 hD1 hS1 => ?_)
  obtain rfl : cA = P.2.1 2 := Option.some.inj ((show s.vm.findClass _ = some cA from (hK1.2 6 (cA, .char) rfl).2).symm.trans (hK.2 2 (P.2.1 2, .char) rfl).2)
  have e := yws_push (P := P) (ad := ad) hV hq (a := q)
  rw [yae_i (yX P ad) S.2.1 S.2.2 ha (by omega)] at e
  exact kk q H1 ⟨by rw [e]; exact hP1, by rw [e]; exact hD1, hS1, YV_push hV hq⟩
theorem yr_new3 (C : YCt P p R s m args meth c cc y nL) (hI : YI P ad s S H locs) {t i j n : Nat} (hq : ynl[S.1]? = some (t, i, j + 1)) (ha : xarr t j = (3, n)) (hcells : cells + 1 ≤ R.cells) (hslots : slots + n ≤ R.slots) (hdg : decode cc pc = .ok (.newarray .boolean, 2))
    (kk : ∀ (a : Nat) (H1 : Heap), YI P (yad ad (t, i, j + 1) a) s (S.1 + 1, S.2) H1 locs → W p l e R s m args below meth c H1 locs (cells + 1) (slots + n) Z (F0 m (pc + 2) ls (.ref a :: rest))) : W p l e R s m args below meth c H locs cells slots Z (F0 m pc ls (.int (nI n) :: rest)) := by
  obtain ⟨hx, hb, hml, hown, hts, hK, hA, -, -, -, -⟩ := C
  obtain ⟨hP, hD, hS, hV⟩ := hI
  have hb2 := (yln_b (List.mem_of_getElem? hq)).1
  rw [ha] at hb2
  have hle : n ≤ 2200 := hb2
  have hz : aI S.2.1 t i j = fun _ => 0 := funext (fun k => ((hV.2.2.2.2 t i j (List.mem_of_getElem? hq) (ytk_no hq)).2 k).1)
  refine va_newa (D := P.1) (cl := xcl) (ws := yws (yX P ad) S) (tys := ytys P) (A := P.2.2) (H0 := s.heap) (atype := .boolean) (ty := .boolean) hx hb (hts _ yA3) rfl hK hP hD hS hA (a0 := (n, .inl (aI S.2.1 t i j))) (fun cA => by rw [hz]; rfl) (nI_pos (by omega)) (nI_clamp (by omega)) (by show n * 1 ≤ 536870912; omega) hcells hslots hdg (fun q cA H1 hK1 hP1 hD1 hS1 => ?_)
  obtain rfl : cA = P.2.1 3 := Option.some.inj ((show s.vm.findClass _ = some cA from (hK1.2 6 (cA, .boolean) rfl).2).symm.trans (hK.2 3 (P.2.1 3, .boolean) rfl).2)
  have e := yws_push (P := P) (ad := ad) hV hq (a := q)
  rw [yae_i (yX P ad) S.2.1 S.2.2 ha (by omega)] at e
  exact kk q H1 ⟨by rw [e]; exact hP1, by rw [e]; exact hD1, hS1, YV_push hV hq⟩
theorem yr_new4 (C : YCt P p R s m args meth c cc y nL) (hI : YI P ad s S H locs) {t i j n idx : Nat} (hq : ynl[S.1]? = some (t, i, j + 1)) (ha : xarr t j = (4, n)) (hl : Cond.classLink y.cls idx xR8 ∈ xG) (hcells : cells + 1 ≤ R.cells) (hslots : slots + n ≤ R.slots) (hdg : decode cc pc = .ok (.anewarray idx, 3))
    (kk : ∀ (a : Nat) (H1 : Heap), YI P (yad ad (t, i, j + 1) a) s (S.1 + 1, S.2) H1 locs → W p l e R s m args below meth c H1 locs (cells + 1) (slots + n) Z (F0 m (pc + 3) ls (.ref a :: rest))) : W p l e R s m args below meth c H locs cells slots Z (F0 m pc ls (.int (nI n) :: rest)) := by
  obtain ⟨hx, hb, hml, hown, hts, hK, hA, -, -, hao, -⟩ := C
  obtain ⟨hP, hD, hS, hV⟩ := hI
  have hb2 := (yln_b (List.mem_of_getElem? hq)).1
  rw [ha] at hb2
  have hle : n ≤ 2200 := hb2
  have hz : yrf (yX P ad) S.2.2 (t, i, j + 1) 4 = fun _ => none := funext (fun k => by
    unfold yrf
    rw [(hV.2.2.2.2 t i j (List.mem_of_getElem? hq) (ytk_no hq)).1 k]; rfl)
  refine va_newq (D := P.1) (cl := xcl) (ws := yws (yX P ad) S) (tys := ytys P) (A := P.2.2) (H0 := s.heap) (C := xR8) hx hb hown (hts _ hl) hao.1 hK hP hD hS hA (nI_pos (by omega)) (nI_clamp (by omega)) (by omega) hcells hslots hdg (fun q cA H1 hK1 hP1 hD1 hS1 => ?_)
  obtain ⟨-, -, -, -, -, f1⟩ := (hK1.2 6 (cA, .object xR8) rfl).2
  obtain ⟨-, -, -, -, -, f2⟩ := (hK.2 4 (P.2.1 4, .object xR8) rfl).2
  obtain rfl : cA = P.2.1 4 := Option.some.inj (f1.symm.trans f2)
  have e := yws_push (P := P) (ad := ad) hV hq (a := q)
  rw [yae_q (yX P ad) S.2.1 S.2.2 ha (by omega), hz] at e
  exact kk q H1 ⟨by rw [e]; exact hP1, by rw [e]; exact hD1, hS1, YV_push hV hq⟩
theorem yr_new5 (C : YCt P p R s m args meth c cc y nL) (hI : YI P ad s S H locs) {t i j n idx : Nat} (hq : ynl[S.1]? = some (t, i, j + 1)) (ha : xarr t j = (5, n)) (hl : Cond.classLink y.cls idx xR5 ∈ xG) (hcells : cells + 1 ≤ R.cells) (hslots : slots + n ≤ R.slots) (hdg : decode cc pc = .ok (.anewarray idx, 3))
    (kk : ∀ (a : Nat) (H1 : Heap), YI P (yad ad (t, i, j + 1) a) s (S.1 + 1, S.2) H1 locs → W p l e R s m args below meth c H1 locs (cells + 1) (slots + n) Z (F0 m (pc + 3) ls (.ref a :: rest))) : W p l e R s m args below meth c H locs cells slots Z (F0 m pc ls (.int (nI n) :: rest)) := by
  obtain ⟨hx, hb, hml, hown, hts, hK, hA, -, -, hao, -⟩ := C
  obtain ⟨hP, hD, hS, hV⟩ := hI
  have hb2 := (yln_b (List.mem_of_getElem? hq)).1
  rw [ha] at hb2
  have hle : n ≤ 2200 := hb2
  have hz : yrf (yX P ad) S.2.2 (t, i, j + 1) 5 = fun _ => none := funext (fun k => by
    unfold yrf
    rw [(hV.2.2.2.2 t i j (List.mem_of_getElem? hq) (ytk_no hq)).1 k]; rfl)
  refine va_newq (D := P.1) (cl := xcl) (ws := yws (yX P ad) S) (tys := ytys P) (A := P.2.2) (H0 := s.heap) (C := xR5) hx hb hown (hts _ hl) hao.2.1 hK hP hD hS hA (nI_pos (by omega)) (nI_clamp (by omega)) (by omega) hcells hslots hdg (fun q cA H1 hK1 hP1 hD1 hS1 => ?_)
  obtain ⟨-, -, -, -, -, f1⟩ := (hK1.2 6 (cA, .object xR5) rfl).2
  obtain ⟨-, -, -, -, -, f2⟩ := (hK.2 5 (P.2.1 5, .object xR5) rfl).2
  obtain rfl : cA = P.2.1 5 := Option.some.inj (f1.symm.trans f2)
  have e := yws_push (P := P) (ad := ad) hV hq (a := q)
  rw [yae_q (yX P ad) S.2.1 S.2.2 ha (by omega), hz] at e
  exact kk q H1 ⟨by rw [e]; exact hP1, by rw [e]; exact hD1, hS1, YV_push hV hq⟩
-- fields
theorem yr_get (C : YCt P p R s m args meth c cc y nL) (hI : YI P ad s S H locs) {a b i idx : Nat} (hf : xfl y.cls (idx, a, b)) (hq : (a, i, 0) ∈ ynl.take S.1) {v : Value} (hv : (yfs (yX P ad) S.2.1 S.2.2 a i)[b]? = some v) (hdg : decode cc pc = .ok (.getfield idx, 3))
    (kk : W p l e R s m args below meth c H locs cells slots Z (F0 m (pc + 3) ls (v :: rest))) : W p l e R s m args below meth c H locs cells slots Z (F0 m pc ls (.ref (ad (a, i, 0)) :: rest)) := by
  obtain ⟨hx, hb, hml, hown, hts, hK, hA, -, -, -, -⟩ := C
  obtain ⟨hP, hD, hS, hV⟩ := hI
  obtain ⟨C1, T, N, hcl, hbN, hw⟩ := hf
  obtain ⟨hlen, hin, -, -, -⟩ := xcfs hcl
  obtain ⟨q0, -, he⟩ := yws_pos (X := yX P ad) hq
  exact va_get (D := P.1) (cl := xcl) (ws := yws (yX P ad) S) (tys := ytys P) hx hb hts hin hown hK hP q0 he hcl b hbN (hts _ hw) (fun _ h => h) hv hdg kk
theorem yr_putI (C : YCt P p R s m args meth c cc y nL) (hI : YI P ad s S H locs) {a b i idx : Nat} {x : Int32} (hf : xfl y.cls (idx, a, b)) (hq : (a, i, 0) ∈ ynl.take S.1) (hs : (xlay a)[b]? = some (.inl 0)) (hdg : decode cc pc = .ok (.putfield idx, 3))
    (kk : ∀ H1 locs1, YI P ad s (S.1, sI S.2.1 a i b x, S.2.2) H1 locs1 → W p l e R s m args below meth c H1 locs1 cells slots Z (F0 m (pc + 3) ls rest)) : W p l e R s m args below meth c H locs cells slots Z (F0 m pc ls (.int x :: .ref (ad (a, i, 0)) :: rest)) := by
  obtain ⟨hx, hb, hml, hown, hts, hK, hA, -, -, -, -⟩ := C
  obtain ⟨hP, hD, hS, hV⟩ := hI
  obtain ⟨C1, T, N, hcl, hbN, hw⟩ := hf
  obtain ⟨hlen, hin, ⟨ty0, hty⟩, hnm, hsl⟩ := xcfs hcl
  have ⟨hfin, hpd⟩ : (T b).2.2.2 = false ∧ parseFieldDescriptor (T b).2.2.1 = some (xsty 0) := by have h := hsl b hbN; rw [hs] at h; exact h
  obtain ⟨q0, hq0, he⟩ := yws_pos (X := yX P ad) hq
  have hlt : b < (yfs (yX P ad) S.2.1 S.2.2 a i).length := by rw [yfs_len, hlen]; exact hbN
  have hset : (yws (yX P ad) S).set q0 (ad (a, i, 0), .inr (a, (yfs (yX P ad) S.2.1 S.2.2 a i).set b (.int x))) = yws (yX P ad) (S.1, sI S.2.1 a i b x, S.2.2) := yws_set (yX P ad) hq0 (by show Sum.inr (a, yfs (yX P ad) (sI S.2.1 a i b x) S.2.2 a i) = _; rw [yfs_sI (yX P ad) S.2.1 S.2.2 a i b x hs (by decide)]) (fun q' h => ye_sI (yX P ad) S.2.1 S.2.2 a i b x q' h)
  refine va_put (D := P.1) (cl := xcl) (ws := yws (yX P ad) S) (tys := ytys P) (A := P.2.2) (H0 := s.heap) hx hb hts hin ty0 hty hnm hown hK hP hD hS q0 he hcl b hbN (hts _ hw) (fun _ h => h) hfin (ty := xsty 0) (v := .int x) hpd rfl rfl hlt hdg (fun H1 locs1 hP1 hD1 hS1 => ?_)
  rw [hset] at hP1 hD1
  exact kk H1 locs1 ⟨hP1, hD1, hS1, YV_sI hV hq⟩
theorem yr_putR (C : YCt P p R s m args meth c cc y nL) (hI : YI P ad s S H locs) {a b i idx : Nat} {f : Nat → XQ} (hy : y.name = "<init>") (hown2 : (xcl[a]?).map (fun q => q.1) = some y.cls) (hf : xfl y.cls (idx, a, b)) (hq : (a, i, 0) ∈ ynl.take S.1) (hs : (xlay a)[b]? = some (.inr f)) (hv : f i ∈ ynl.take S.1) (hdg : decode cc pc = .ok (.putfield idx, 3))
    (kk : ∀ H1 locs1, YI P ad s (S.1, S.2.1, yrs S.2.2 (a, i, 0) b) H1 locs1 → W p l e R s m args below meth c H1 locs1 cells slots Z (F0 m (pc + 3) ls rest)) : W p l e R s m args below meth c H locs cells slots Z (F0 m pc ls (.ref (ad (f i)) :: .ref (ad (a, i, 0)) :: rest)) := by
  obtain ⟨hx, hb, hml, hown, hts, hK, hA, -, -, -, hname⟩ := C
  obtain ⟨hP, hD, hS, hV⟩ := hI
  obtain ⟨C1, T, N, hcl, hbN, hw⟩ := hf
  obtain ⟨hlen, hin, ⟨ty0, hty⟩, hnm, hsl⟩ := xcfs hcl
  have ⟨hfin, hdecl, hpt⟩ : (T b).2.2.2 = true ∧ (T b).1 = C1 ∧ (parseFieldDescriptor (T b).2.2.1).map yrt = some true := by have h := ycfs hcl b hbN; rw [hs] at h; exact h
  have hCy : C1 = y.cls := by
    rw [show (xcl[(idx, a, b).2.1]?) = xcl[a]? from rfl] at hcl
    rw [hcl] at hown2
    exact Option.some.inj hown2
  have hyt : yrt (ty0 b) = true := by
    rw [hty b hbN] at hpt
    exact Option.some.inj hpt
  obtain ⟨n1, n2, -⟩ := yrt_ok hyt (ad (f i))
  obtain ⟨q0, hq0, he⟩ := yws_pos (X := yX P ad) hq
  have hlt : b < (yfs (yX P ad) S.2.1 S.2.2 a i).length := by rw [yfs_len, hlen]; exact hbN
  have hset : (yws (yX P ad) S).set q0 (ad (a, i, 0), .inr (a, (yfs (yX P ad) S.2.1 S.2.2 a i).set b (.ref (ad (f i))))) = yws (yX P ad) (S.1, S.2.1, yrs S.2.2 (a, i, 0) b) := yws_set (yX P ad) hq0 (by show Sum.inr (a, yfs (yX P ad) S.2.1 (yrs S.2.2 (a, i, 0) b) a i) = _; rw [yfs_rs (yX P ad) S.2.1 S.2.2 a i b hs]) (fun q' h => ye_rs (yX P ad) S.2.1 S.2.2 (a, i, 0) b q' h)
  refine va_putF (D := P.1) (cl := xcl) (ws := yws (yX P ad) S) (tys := ytys P) (A := P.2.2) (H0 := s.heap) hx hb hts hin ty0 hty hnm hown hK hP hD hS q0 he hcl b hbN (hts _ hw) (fun _ h => h) hfin (hname.trans hy) (hdecl.trans hCy) (ty := ty0 b) (v := .ref (ad (f i))) (hty b hbN) n1 n2 hlt hdg (fun H1 locs1 hP1 hD1 hS1 => ?_)
  rw [hset] at hP1 hD1
  exact kk H1 locs1 ⟨hP1, hD1, hS1, YV_rs0 hV hs hq hv⟩
-- arrays
theorem yr_alen (C : YCt P p R s m args meth c cc y nL) (hI : YI P ad s S H locs) {t i j kd n : Nat} (hq : (t, i, j + 1) ∈ ynl.take S.1) (ha : xarr t j = (kd, n)) (hkd : kd ≤ 5) (hdg : decode cc pc = .ok (.arraylength, 1))
    (kk : W p l e R s m args below meth c H locs cells slots Z (F0 m (pc + 1) ls (.int (nI n) :: rest))) : W p l e R s m args below meth c H locs cells slots Z (F0 m pc ls (.ref (ad (t, i, j + 1)) :: rest)) := by
  obtain ⟨hx, hb, hml, hown, hts, hK, hA, -, -, -, -⟩ := C
  obtain ⟨hP, hD, hS, hV⟩ := hI
  obtain ⟨q0, -, he⟩ := yws_pos (X := yX P ad) hq
  rcases (show kd = 0 ∨ kd = 1 ∨ kd = 2 ∨ kd = 3 ∨ kd = 4 ∨ kd = 5 by omega) with rfl | rfl | rfl | rfl | rfl | rfl
  · rw [yae_i _ _ _ ha (by omega)] at he; exact va_alen hx hb hK hP q0 0 he rfl rfl hdg kk
  · rw [yae_l _ _ _ ha] at he; exact va_alen hx hb hK hP q0 1 he rfl rfl hdg kk
  · rw [yae_i _ _ _ ha (by omega)] at he; exact va_alen hx hb hK hP q0 2 he rfl rfl hdg kk
  · rw [yae_i _ _ _ ha (by omega)] at he; exact va_alen hx hb hK hP q0 3 he rfl rfl hdg kk
  · rw [yae_q _ _ _ ha (by omega)] at he; exact va_alen hx hb hK hP q0 4 he rfl rfl hdg kk
  · rw [yae_q _ _ _ ha (by omega)] at he; exact va_alen hx hb hK hP q0 5 he rfl rfl hdg kk
theorem yr_ld (C : YCt P p R s m args meth c cc y nL) (hI : YI P ad s S H locs) {t i j n : Nat} {x : Int32} (hq : (t, i, j + 1) ∈ ynl.take S.1) (ha : xarr t j = (0, n)) (hin : xin x n = true) (hdg : decode cc pc = .ok (.iaload, 1))
    (kk : W p l e R s m args below meth c H locs cells slots Z (F0 m (pc + 1) ls (.int (aI S.2.1 t i j x.toNatClampNeg) :: rest))) : W p l e R s m args below meth c H locs cells slots Z (F0 m pc ls (.int x :: .ref (ad (t, i, j + 1)) :: rest)) := by
  obtain ⟨hx, hb, hml, hown, hts, hK, hA, -, -, -, -⟩ := C
  obtain ⟨hP, hD, hS, hV⟩ := hI
  obtain ⟨q0, -, he⟩ := yws_pos (X := yX P ad) hq
  rw [yae_i _ _ _ ha (by omega)] at he
  exact va_iald hx hb hK hP q0 0 he rfl (xin_vp hin) hdg kk
theorem yr_st (C : YCt P p R s m args meth c cc y nL) (hI : YI P ad s S H locs) {t i j kd n : Nat} {x v : Int32} (hq : (t, i, j + 1) ∈ ynl.take S.1) (ha : xarr t j = (kd, n)) (hin : xin x n = true)
    (hdg : (kd = 0 ∧ decode cc pc = .ok (.iastore, 1)) ∨ (kd = 3 ∧ (v = 0 ∨ v = 1) ∧ decode cc pc = .ok (.bastore, 1)))
    (kk : ∀ H1 locs1, YI P ad s (S.1, pI S.2.1 t i j x.toNatClampNeg v, S.2.2) H1 locs1 → W p l e R s m args below meth c H1 locs1 cells slots Z (F0 m (pc + 1) ls rest)) : W p l e R s m args below meth c H locs cells slots Z (F0 m pc ls (.int v :: .int x :: .ref (ad (t, i, j + 1)) :: rest)) := by
  obtain ⟨hx, hb, hml, hown, hts, hK, hA, -, -, -, -⟩ := C
  obtain ⟨hP, hD, hS, hV⟩ := hI
  obtain ⟨q0, hq0, he⟩ := yws_pos (X := yX P ad) hq
  rw [yae_i _ _ _ ha (by omega)] at he
  have hset : ∀ f, (yws (yX P ad) S).set q0 (ad (t, i, j + 1), .inl (P.2.1 kd, n, .inl f)) = yws (yX P ad) (S.1, wI S.2.1 t i j f, S.2.2) := fun f => yws_set (yX P ad) hq0 (by rw [yae_i _ _ _ ha (by omega), aI_wI, if_pos ⟨rfl, rfl, rfl⟩]) (fun q' h => ye_wI (yX P ad) S.2.1 S.2.2 t i j f q' h)
  rcases hdg with ⟨rfl, hdg⟩ | ⟨rfl, hv, hdg⟩
  · refine va_iast (A := P.2.2) (H0 := s.heap) hx hb hK hP hD hS q0 0 he rfl (xin_vp hin) hdg (fun H1 locs1 hP1 hD1 hS1 => kk H1 locs1 ⟨?_, ?_, hS1, YV_wI hV hq⟩)
    · exact (hset _) ▸ hP1
    · exact (hset _) ▸ hD1
  · refine va_zast (A := P.2.2) (H0 := s.heap) hx hb hK hP hD hS q0 3 he rfl (xin_vp hin) hdg (fun H1 locs1 hP1 hD1 hS1 => kk H1 locs1 ⟨?_, ?_, hS1, YV_wI hV hq⟩)
    · rw [vp_nar_bool hv] at hP1; exact (hset _) ▸ hP1
    · rw [vp_nar_bool hv] at hD1; exact (hset _) ▸ hD1
theorem yr_stl (C : YCt P p R s m args meth c cc y nL) (hI : YI P ad s S H locs) {t i j n : Nat} {x : Int32} {v : Int64} (hq : (t, i, j + 1) ∈ ynl.take S.1) (ha : xarr t j = (1, n)) (hin : xin x n = true) (hdg : decode cc pc = .ok (.lastore, 1))
    (kk : ∀ H1 locs1, YI P ad s (S.1, pL S.2.1 t i j x.toNatClampNeg v, S.2.2) H1 locs1 → W p l e R s m args below meth c H1 locs1 cells slots Z (F0 m (pc + 1) ls rest)) : W p l e R s m args below meth c H locs cells slots Z (F0 m pc ls (.long v :: .int x :: .ref (ad (t, i, j + 1)) :: rest)) := by
  obtain ⟨hx, hb, hml, hown, hts, hK, hA, -, -, -, -⟩ := C
  obtain ⟨hP, hD, hS, hV⟩ := hI
  obtain ⟨q0, hq0, he⟩ := yws_pos (X := yX P ad) hq
  rw [yae_l _ _ _ ha] at he
  have hset : ∀ f, (yws (yX P ad) S).set q0 (ad (t, i, j + 1), .inl (P.2.1 1, n, .inr (.inl f))) = yws (yX P ad) (S.1, wL S.2.1 t i j f, S.2.2) := fun f => yws_set (yX P ad) hq0 (by rw [yae_l _ _ _ ha, aL_wL, if_pos ⟨rfl, rfl, rfl⟩]) (fun q' h => ye_wL (yX P ad) S.2.1 S.2.2 t i j f q' h)
  refine va_last (A := P.2.2) (H0 := s.heap) hx hb hK hP hD hS q0 1 he rfl (xin_vp hin) hdg (fun H1 locs1 hP1 hD1 hS1 => kk H1 locs1 ⟨?_, ?_, hS1, YV_wL hV hq⟩)
  · exact (hset _) ▸ hP1
  · exact (hset _) ▸ hD1
theorem yr_stq (C : YCt P p R s m args meth c cc y nL) (hI : YI P ad s S H locs) {t i j kd n : Nat} {x : Int32} (hq : (t, i, j + 1) ∈ ynl.take S.1) (ha : xarr t j = (kd, n)) (hk : kd = 4 ∨ kd = 5) (hin : xin x n = true) (hv : xrow kd x.toNatClampNeg ∈ ynl.take S.1) (hdg : decode cc pc = .ok (.aastore, 1))
    (kk : ∀ H1 locs1, YI P ad s (S.1, S.2.1, yrs S.2.2 (t, i, j + 1) x.toNatClampNeg) H1 locs1 → W p l e R s m args below meth c H1 locs1 cells slots Z (F0 m (pc + 1) ls rest)) : W p l e R s m args below meth c H locs cells slots Z (F0 m pc ls (.ref (ad (xrow kd x.toNatClampNeg)) :: .int x :: .ref (ad (t, i, j + 1)) :: rest)) := by
  obtain ⟨hx, hb, hml, hown, hts, hK, hA, -, -, -, -⟩ := C
  obtain ⟨hP, hD, hS, hV⟩ := hI
  obtain ⟨q0, hq0, he⟩ := yws_pos (X := yX P ad) hq
  obtain ⟨qk, -, hvk⟩ := yws_pos (X := yX P ad) hv
  rw [yae_q _ _ _ ha hk] at he
  have hset : (yws (yX P ad) S).set q0 (ad (t, i, j + 1), .inl (P.2.1 kd, n, .inr (.inr (.inr (.inr (va_up (yrf (yX P ad) S.2.2 (t, i, j + 1) kd) x.toNatClampNeg (some (ad (xrow kd x.toNatClampNeg))))))))) = yws (yX P ad) (S.1, S.2.1, yrs S.2.2 (t, i, j + 1) x.toNatClampNeg) := yws_set (yX P ad) hq0 (by rw [yae_q _ _ _ ha hk, yrf_rs]) (fun q' h => ye_rs (yX P ad) S.2.1 S.2.2 (t, i, j + 1) x.toNatClampNeg q' h)
  have hV2 : YV (S.1, S.2.1, yrs S.2.2 (t, i, j + 1) x.toNatClampNeg) := YV_rs1 hV hq (by rw [ha]; exact hv)
  rcases hk with rfl | rfl
  · have hvk2 : (yws (yX P ad) S)[qk]? = some (ad (xrow 4 x.toNatClampNeg), .inr (8, yfs (yX P ad) S.2.1 S.2.2 8 (2 + x.toNatClampNeg))) := hvk
    refine va_astq (A := P.2.2) (H0 := s.heap) hx hb hK hP hD hS q0 4 qk 8 (r := (xR8, xT8, 9)) he rfl hvk2 rfl (xin_vp hin) hdg (fun H1 locs1 hP1 hD1 hS1 => kk H1 locs1 ⟨?_, ?_, hS1, hV2⟩)
    · exact hset ▸ hP1
    · exact hset ▸ hD1
  · have hvk2 : (yws (yX P ad) S)[qk]? = some (ad (xrow 5 x.toNatClampNeg), .inr (5, yfs (yX P ad) S.2.1 S.2.2 5 x.toNatClampNeg)) := hvk
    refine va_astq (A := P.2.2) (H0 := s.heap) hx hb hK hP hD hS q0 5 qk 5 (r := (xR5, xT5, 3)) he rfl hvk2 rfl (xin_vp hin) hdg (fun H1 locs1 hP1 hD1 hS1 => kk H1 locs1 ⟨?_, ?_, hS1, hV2⟩)
    · exact hset ▸ hP1
    · exact hset ▸ hD1
end
