/-! SOUNDNESS: what the interpreter answers, the machine answers -/
/-- the String constants of the class: its own name, the pool index, the text -/
def xstrT : List (String × Nat × String) := [("SilenceBall$Tape", 67, "guest belt man holes water rises at chin breath weighs bears reach plain waver heavy shabby minute cast ask stop not and or gaps depth talk out "), ("SilenceBall$Tape", 59, "()<=+-*;")]
def xcn (t : Nat) : String := if t = 15 then "java/lang/String" else ((xcl[t]?).map (fun q => q.1)).getD ""
def xrecv (X : XP) (U : State) (H : Heap) (q : XQ) : Prop := ∃ cell : Cell, H[xad X q]? = some cell ∧ cell.vm.isStatics = false ∧ U.vm.findClass (xcn q.1) = some cell.cls
def xscr (X : XP) (μ : XM) : Prop := aI μ 13 0 0 = xxs X ∧ rI μ 13 0 0 = nI (xLn X)
/-- the world of a memory, at a state -/
def XW (X : XP) (μ : XM) (U : State) : Prop := va_P (xD X) xcl (xws X μ) U.heap ∧ va_K (xD X) xcl (xtys X) U ∧ xC X U U.heap ∧ xscr X μ
/-- a value leads to a cell of the world -/
def xok (v : XV) : Prop := match v with
  | .inr (.inr (some q)) => q ∈ xdom ∨ q = (13, 0, 1) ∨ (q.1 = 15 ∧ q.2.1 < 2 ∧ q.2.2 = 0)
  | _ => True
/-- a method's end -/
def xQ (X : XP) (r : Option XV) (μ : XM) : Array Value → State → Outcome → State → Prop := match r with
  | none => va_Qv (S := Unit) (fun _ => True) (fun _ t => XW X μ t) (xA X)
  | some (.inl x) => va_Qi (S := Unit) (fun y _ => y = x) (fun _ t => XW X μ t) (xA X)
  | some (.inr (.inl x)) => va_Ql (S := Unit) (fun y _ => y = x) (fun _ t => XW X μ t) (xA X)
  | some (.inr (.inr _)) => fun _ _ _ _ => True
/-- a method's contract: it does what the function F says -/
def Ctr (X : XP) (l : Launch) (y : MethodName) (bytes : ByteArray) (maxL : Nat) (ret : Option FieldType) (rm : Room) (mc ms : Nat) (F : XF) : Prop :=
  ∀ (av : List XV) (μ : XM) (r : Option XV) (μ' : XM), (∀ v ∈ av, xok v) → F av μ = some (r, μ') →
    Met l y (Cond.code y bytes maxL ret :: xG) rm (va_Pc (av.map (xc X)) (XW X μ)) (xQ X r μ') mc ms (xA X)
/-! the strings' methods -/
def xstxt (s : Nat) : List Nat := if s = 0 then [103, 117, 101, 115, 116, 32, 98, 101, 108, 116, 32, 109, 97, 110, 32, 104, 111, 108, 101, 115, 32, 119, 97, 116, 101, 114, 32, 114, 105, 115, 101, 115, 32, 97, 116, 32, 99, 104, 105, 110, 32, 98, 114, 101, 97, 116, 104, 32, 119, 101, 105, 103, 104, 115, 32, 98, 101, 97, 114, 115, 32, 114, 101, 97, 99, 104, 32, 112, 108, 97, 105, 110, 32, 119, 97, 118, 101, 114, 32, 104, 101, 97, 118, 121, 32, 115, 104, 97, 98, 98, 121, 32, 109, 105, 110, 117, 116, 101, 32, 99, 97, 115, 116, 32, 97, 115, 107, 32, 115, 116, 111, 112, 32, 110, 111, 116, 32, 97, 110, 100, 32, 111, 114, 32, 103, 97, 112, 115, 32, 100, 101, 112, 116, 104, 32, 116, 97, 108, 107, 32, 111, 117, 116, 32] else [40, 41, 60, 61, 43, 45, 42, 59]
def fS_length (s : Nat) (μ : XM) : XR := xri (nI (xstxt s).length) μ
noncomputable def fS_charAt (s : Nat) (k : Int32) (μ : XM) : XR := xck (xin k (xstxt s).length) (xri (nI ((xstxt s).getD k.toNatClampNeg 0)) μ)
def xidx (c : Int32) : Nat → List Nat → Int32
  | _, [] => -1
  | i, x :: l => if c = nI x then nI i else xidx c (i + 1) l
def fS_indexOf (s : Nat) (c : Int32) (μ : XM) : XR := xri (xidx c 0 (xstxt s)) μ
def FS_length : XF := fun av μ => match av with
  | [.inr (.inr (some (t, i, 0)))] => bif Nat.beq t 15 then fS_length i μ else none
  | _ => none
noncomputable def FS_charAt : XF := fun av μ => match av with
  | [.inr (.inr (some (t, i, 0))), .inl k] => bif Nat.beq t 15 then fS_charAt i k μ else none
  | _ => none
def FS_indexOf : XF := fun av μ => match av with
  | [.inr (.inr (some (t, i, 0))), .inl k] => bif Nat.beq t 15 then fS_indexOf i k μ else none
  | _ => none
/-- the strings' methods keep their contracts -/
def XOS (X : XP) : Prop := (∀ l, Ctr X l ⟨"java/lang/String", "length", "()I"⟩ prog_23_method_54_code 1 (some .int) { frames := 8, cells := 0, slots := 0, locals := 420 } 0 0 FS_length) ∧ (∀ l, Ctr X l ⟨"java/lang/String", "charAt", "(I)C"⟩ prog_23_method_56_code 2 (some .char) { frames := 8, cells := 0, slots := 0, locals := 420 } 0 0 FS_charAt) ∧ (∀ l, Ctr X l ⟨"java/lang/String", "indexOf", "(I)I"⟩ prog_23_method_79_code 2 (some .int) { frames := 8, cells := 0, slots := 0, locals := 420 } 0 0 FS_indexOf)
def XOK (X : XP) : Prop :=
  (∀ μ, va_D (xA X) (xws X μ)) ∧
  (∀ (u U : State) (H : Heap), (u.WarmedH U.vm ∨ U.vm = u.vm) → xC X u H → xC X U H) ∧
  (∀ (U : State) (H H1 : Heap), H.size ≤ H1.size → (∀ q : Nat, q < H.size → ¬ xA X q → H1[q]? = H[q]?) → xC X U H → xC X U H1) ∧
  (∀ (U : State) (H : Heap), xC X U H → va_X (xad X (13, 0, 1)) (xLn X) (xxs X) U H ∧ ¬ xA X (xad X (13, 0, 1)) ∧ xad X (13, 0, 1) < H.size) ∧
  (∀ (U : State) (H : Heap) (k : Nat), k < 2 → xC X U H → xrecv X U H (15, k, 0)) ∧
  (∀ (U : State) (H : Heap) (k : Nat) (q : String × Nat × String), xC X U H → xstrT[k]? = some q → vk_R q.1 q.2.1 q.2.2 (xad X (15, k, 0)) U) ∧ xLn X < 2 ^ 31 ∧ XOS X
theorem xW_blind (X : XP) (hX : XOK X) (μ : XM) (av : List Value) : FrameBlind (va_Pc av (XW X μ)) := by
  intro a U g mk h
  obtain ⟨h0, h1, h2, h3, h4⟩ := h
  exact ⟨h0, h1, va_K.moved (u := U) (U := U.calling g mk a) (Vm.Alike.refl U.vm) h2, hX.2.1 U (U.calling g mk a) _ (Or.inr rfl) h3, h4⟩
/-- what stands all along a body -/
def XI (X : XP) (s : State) (μ : XM) (H : Heap) (locs : List Loc) : Prop := va_P (xD X) xcl (xws X μ) H ∧ va_S (xA X) s.heap H locs ∧ xscr X μ
def XCt (X : XP) (p : Program) (R : Room) (s : State) (m : MethodId) (args : Array Value) (c : Code) (cc : ByteArray) (own : String) (nL : Nat) : Prop :=
  p.tables.exec = Jvm.exec ∧ c.code = cc ∧ c.maxLocals = nL ∧ s.vm.findClass own = some m.cls ∧ (∀ w ∈ xG, w.before args s = true) ∧ va_K (xD X) xcl (xtys X) s ∧ xC X s s.heap ∧ XOK X ∧ 1 ≤ R.frames ∧ 100 ≤ R.locals
-- locals
def xlv (X : XP) : Nat → XL → List (Nat × Value)
  | _, [] => []
  | i, none :: l => xlv X (i + 1) l
  | i, some v :: l => (i, xc X v) :: xlv X (i + 1) l
theorem xlv_mem (X : XP) : ∀ (L : XL) (k i : Nat) (w : Value), (k + i, w) ∈ xlv X k L ↔ ∃ v, L[i]? = some (some v) ∧ w = xc X v := by
  intro L
  induction L with
  | nil => intro k i w; simp [xlv]
  | cons a L ih =>
    intro k i w
    cases i with
    | zero =>
      have hno : ∀ (l : XL) (n : Nat) (w : Value) (j : Nat), (j, w) ∈ xlv X n l → n ≤ j := by
        intro l
        induction l with
        | nil => intro n w j h; simp [xlv] at h
        | cons b l ih2 =>
          intro n w j h
          cases b with
          | none => have := ih2 (n + 1) w j h; omega
          | some v =>
            simp only [xlv, List.mem_cons, Prod.mk.injEq] at h
            rcases h with ⟨h, -⟩ | h
            · omega
            · have := ih2 (n + 1) w j h; omega
      cases a with
      | none =>
        simp only [xlv, List.getElem?_cons_zero, Option.some.injEq]
        constructor
        · intro h; have := hno _ _ _ _ h; omega
        · rintro ⟨v, h, -⟩; cases h
      | some v =>
        simp only [xlv, List.mem_cons, Prod.mk.injEq, List.getElem?_cons_zero, Option.some.injEq]
        constructor
        · rintro (⟨-, h⟩ | h)
          · exact ⟨v, rfl, h⟩
          · have := hno _ _ _ _ h; omega
        · rintro ⟨v', rfl, h⟩; exact Or.inl ⟨by omega, h⟩
    | succ i =>
      have e : k + (i + 1) = (k + 1) + i := by omega
      rw [e, List.getElem?_cons_succ]
      cases a with
      | none => exact ih (k + 1) i w
      | some v =>
        simp only [xlv, List.mem_cons, Prod.mk.injEq]
        rw [← ih (k + 1) i w]
        constructor
        · rintro (⟨h, -⟩ | h)
          · omega
          · exact h
        · exact Or.inr
theorem xlv_le (X : XP) {L : XL} {k j : Nat} {w : Value} (h : (j, w) ∈ xlv X k L) : k ≤ j := by
  induction L generalizing k with
  | nil => simp [xlv] at h
  | cons b l ih =>
    cases b with
    | none => have := ih h; omega
    | some v =>
      simp only [xlv, List.mem_cons, Prod.mk.injEq] at h
      rcases h with ⟨h, -⟩ | h
      · omega
      · have := ih h; omega
theorem xlv_iff (X : XP) (L : XL) (i : Nat) (w : Value) : (i, w) ∈ xlv X 0 L ↔ ∃ v, L[i]? = some (some v) ∧ w = xc X v := by
  have := xlv_mem X L 0 i w
  simpa using this
/-- the locals hold what the list says, and lead into the world -/
def xloc (X : XP) (ls : Array Slot) (nL : Nat) (L : XL) : Prop := lv_has ls nL (xlv X 0 L) ∧ L.length = nL ∧ ∀ v, some v ∈ L → xok v
theorem lv_mono {ls : Array Slot} {nL : Nat} {l l' : List (Nat × Value)} (h : lv_has ls nL l) (hs : ∀ q ∈ l', q ∈ l) : lv_has ls nL l' := ⟨h.1, h.2.1, fun q hq => h.2.2 q (hs q hq)⟩
theorem xloc_get {X : XP} {ls : Array Slot} {nL i : Nat} {L : XL} {v : XV} (h : xloc X ls nL L) (hi : L[i]? = some (some v)) : ls[i]? = some (.val (xc X v)) := h.1.2.2 (i, xc X v) ((xlv_iff X L i _).mpr ⟨v, hi, rfl⟩)
theorem xloc_ok {X : XP} {ls : Array Slot} {nL i : Nat} {L : XL} {v : XV} (h : xloc X ls nL L) (hi : L[i]? = some (some v)) : xok v := h.2.2 v (List.mem_of_getElem? hi)
theorem xc_cat (X : XP) (v : XV) : (xc X v).category = xcat v := by
  rcases v with x | x | _ | q <;> rfl
theorem xmask_len : ∀ (m : Nat) (L : XL), (xmask m L).length = L.length := by
  intro m L
  induction L generalizing m with
  | nil => rfl
  | cons a L ih => simp [xmask, ih]
theorem xmask_get : ∀ (m : Nat) (L : XL) (i : Nat) (v : XV), (xmask m L)[i]? = some (some v) → L[i]? = some (some v) := by
  intro m L
  induction L generalizing m with
  | nil => intro i v h; simp [xmask] at h
  | cons a L ih =>
    intro i v h
    cases i with
    | zero =>
      simp only [xmask, List.getElem?_cons_zero, Option.some.injEq] at h ⊢
      cases hb : Nat.beq (m % 2) 1 <;> rw [hb] at h
      · cases h
      · exact h
    | succ i => exact ih _ i v (by simpa [xmask] using h)
theorem xloc_mask {X : XP} {ls : Array Slot} {nL : Nat} {L : XL} (m : Nat) (h : xloc X ls nL L) : xloc X ls nL (xmask m L) := by
  refine ⟨lv_mono h.1 ?_, by rw [xmask_len]; exact h.2.1, ?_⟩
  · rintro ⟨i, w⟩ hq
    obtain ⟨v, h1, h2⟩ := (xlv_iff X _ i w).mp hq
    exact (xlv_iff X L i w).mpr ⟨v, xmask_get m L i v h1, h2⟩
  · intro v hv
    obtain ⟨i, hi⟩ := List.mem_iff_getElem?.mp hv
    exact xloc_ok h (xmask_get m L i v hi)
theorem xdl_len (b a : Nat) (L : XL) : (xdl b a L).length = L.length := by
  cases b <;> simp [xdl]
theorem xdl_get {b a : Nat} {L : XL} {i : Nat} {v : XV} (h : (xdl b a L)[i]? = some (some v)) : L[i]? = some (some v) ∧ (b ≠ 0 → i ≠ a - 1) := by
  cases b with
  | zero => exact ⟨h, fun z => absurd rfl z⟩
  | succ b =>
    replace h : (L.set (a - 1) none)[i]? = some (some v) := h
    by_cases hi : i = a - 1
    · subst hi
      have : a - 1 < L.length := by
        have := (List.getElem?_eq_some_iff.mp h).1
        simpa using this
      rw [List.getElem?_set_self this] at h
      cases h
    · rw [List.getElem?_set_ne (Ne.symm hi)] at h
      exact ⟨h, fun _ => hi⟩
/-- what is left of the locals when one is stored: none of the stored place, and no long just below it -/
theorem xst_keep {b a : Nat} {L : XL} {i : Nat} {v : XV} (hk : xsk b a L = true) (ha : i ≠ a) (h : (xdl b a L)[i]? = some (some v)) : L[i]? = some (some v) ∧ ¬ (i + 1 = a ∧ xcat v = 2) := by
  obtain ⟨h1, h2⟩ := xdl_get h
  refine ⟨h1, fun ⟨h3, h4⟩ => ?_⟩
  have e : a - 1 = i := by omega
  cases b with
  | zero =>
    have hl : xlong L[a - 1]? = true := by
      rw [e, h1]
      rcases v with x | x | _ | q <;> simp_all [xlong, xcat]
    simp [xsk, hl] at hk
  | succ b => exact h2 (by omega) e.symm
theorem xloc_st1 {X : XP} {ls ls' : Array Slot} {nL b a : Nat} {L : XL} {v : XV} (hk : xsk b a L = true) (h : xloc X ls nL L) (ha : a < nL) (hv : xok v)
    (h' : lv_has ls' nL ((a, xc X v) :: (xlv X 0 L).filter (fun q => !(q.1 == a) && !(q.1 + 1 == a && q.2.category == 2)))) : xloc X ls' nL ((xdl b a L).set a (some v)) := by
  have hlen : a < (xdl b a L).length := by rw [xdl_len, h.2.1]; exact ha
  refine ⟨lv_mono h' ?_, by simp [xdl_len, h.2.1], ?_⟩
  · rintro ⟨i, w⟩ hq
    obtain ⟨v', h1, rfl⟩ := (xlv_iff X _ i w).mp hq
    by_cases hi : i = a
    · subst hi
      rw [List.getElem?_set_self hlen] at h1
      cases h1
      exact List.mem_cons_self
    · rw [List.getElem?_set_ne (Ne.symm hi)] at h1
      obtain ⟨k1, k2⟩ := xst_keep hk hi h1
      refine List.mem_cons_of_mem _ (List.mem_filter.mpr ⟨(xlv_iff X L i _).mpr ⟨v', k1, rfl⟩, ?_⟩)
      simp only [xc_cat]
      simp [hi]
      omega
  · intro w hw
    obtain ⟨i, hi⟩ := List.mem_iff_getElem?.mp hw
    by_cases hia : i = a
    · subst hia
      rw [List.getElem?_set_self hlen] at hi
      cases hi
      exact hv
    · rw [List.getElem?_set_ne (Ne.symm hia)] at hi
      exact xloc_ok h (xdl_get hi).1
theorem xloc_st2 {X : XP} {ls ls' : Array Slot} {nL b a : Nat} {L : XL} {v : XV} (hk : xsk b a L = true) (h : xloc X ls nL L) (ha : a + 1 < nL) (hv : xok v)
    (h' : lv_has ls' nL ((a, xc X v) :: (xlv X 0 L).filter (fun q => !(q.1 == a) && (!(q.1 == a + 1) && !(q.1 + 1 == a && q.2.category == 2))))) : xloc X ls' nL (((xdl b a L).set (a + 1) none).set a (some v)) := by
  have hlen : a < ((xdl b a L).set (a + 1) none).length := by simp only [List.length_set, xdl_len, h.2.1]; omega
  have key : ∀ (i : Nat) (v' : XV), i ≠ a → (((xdl b a L).set (a + 1) none).set a (some v))[i]? = some (some v') → i ≠ a + 1 ∧ (xdl b a L)[i]? = some (some v') := by
    intro i v' hi h1
    rw [List.getElem?_set_ne (Ne.symm hi)] at h1
    by_cases hi2 : i = a + 1
    · subst hi2
      rw [List.getElem?_set_self (by rw [xdl_len, h.2.1]; exact ha)] at h1
      cases h1
    · rw [List.getElem?_set_ne (Ne.symm hi2)] at h1
      exact ⟨hi2, h1⟩
  refine ⟨lv_mono h' ?_, by simp [xdl_len, h.2.1], ?_⟩
  · rintro ⟨i, w⟩ hq
    obtain ⟨v', h1, rfl⟩ := (xlv_iff X _ i w).mp hq
    by_cases hi : i = a
    · subst hi
      rw [List.getElem?_set_self hlen] at h1
      cases h1
      exact List.mem_cons_self
    · obtain ⟨hi2, h1⟩ := key i v' hi h1
      obtain ⟨k1, k2⟩ := xst_keep hk hi h1
      refine List.mem_cons_of_mem _ (List.mem_filter.mpr ⟨(xlv_iff X L i _).mpr ⟨v', k1, rfl⟩, ?_⟩)
      simp only [xc_cat]
      simp [hi, hi2]
      omega
  · intro w hw
    obtain ⟨i, hi⟩ := List.mem_iff_getElem?.mp hw
    by_cases hia : i = a
    · subst hia
      rw [List.getElem?_set_self hlen] at hi
      cases hi
      exact hv
    · exact xloc_ok h (xdl_get (key i w hia hi).2).1

-- classes
def xsty (k : Nat) : FieldType := if k = 1 then .long else if k = 3 then .boolean else .int
def xcf (a : Nat) (C : String) (T : u_T) (N : Nat) : Prop := (xlay a).length = N ∧ (∀ w ∈ u_ws C T N, w ∈ xG) ∧ (∃ ty0 : Nat → FieldType, ∀ k, k < N → parseFieldDescriptor (T k).2.2.1 = some (ty0 k)) ∧ (∀ x, x < N → ∀ y, y < N → x ≠ y → (T x).2.1 ≠ (T y).2.1) ∧ (∀ b, b < N → (match (xlay a)[b]? with | some (.inl k) => (T b).2.2.2 = false ∧ parseFieldDescriptor (T b).2.2.1 = some (xsty k) | _ => True))
theorem xcf0 : xcf 0 xR0 xT0 3 := ⟨rfl, xI0, ⟨xY0, xP0⟩, xN0, by
  intro b hb
  match b, hb with
  | 0, _ => first | exact trivial | exact ⟨rfl, by decide +kernel⟩
  | 1, _ => first | exact trivial | exact ⟨rfl, by decide +kernel⟩
  | 2, _ => first | exact trivial | exact ⟨rfl, by decide +kernel⟩
  | b + 3, hb => exact absurd hb (by omega)⟩
theorem xcf1 : xcf 1 xR1 xT1 5 := ⟨rfl, xI1, ⟨xY1, xP1⟩, xN1, by
  intro b hb
  match b, hb with
  | 0, _ => first | exact trivial | exact ⟨rfl, by decide +kernel⟩
  | 1, _ => first | exact trivial | exact ⟨rfl, by decide +kernel⟩
  | 2, _ => first | exact trivial | exact ⟨rfl, by decide +kernel⟩
  | 3, _ => first | exact trivial | exact ⟨rfl, by decide +kernel⟩
  | 4, _ => first | exact trivial | exact ⟨rfl, by decide +kernel⟩
  | b + 5, hb => exact absurd hb (by omega)⟩
theorem xcf2 : xcf 2 xR2 xT2 17 := ⟨rfl, xI2, ⟨xY2, xP2⟩, xN2, by
  intro b hb
  match b, hb with
  | 0, _ => first | exact trivial | exact ⟨rfl, by decide +kernel⟩
  | 1, _ => first | exact trivial | exact ⟨rfl, by decide +kernel⟩
  | 2, _ => first | exact trivial | exact ⟨rfl, by decide +kernel⟩
  | 3, _ => first | exact trivial | exact ⟨rfl, by decide +kernel⟩
  | 4, _ => first | exact trivial | exact ⟨rfl, by decide +kernel⟩
  | 5, _ => first | exact trivial | exact ⟨rfl, by decide +kernel⟩
  | 6, _ => first | exact trivial | exact ⟨rfl, by decide +kernel⟩
  | 7, _ => first | exact trivial | exact ⟨rfl, by decide +kernel⟩
  | 8, _ => first | exact trivial | exact ⟨rfl, by decide +kernel⟩
  | 9, _ => first | exact trivial | exact ⟨rfl, by decide +kernel⟩
  | 10, _ => first | exact trivial | exact ⟨rfl, by decide +kernel⟩
  | 11, _ => first | exact trivial | exact ⟨rfl, by decide +kernel⟩
  | 12, _ => first | exact trivial | exact ⟨rfl, by decide +kernel⟩
  | 13, _ => first | exact trivial | exact ⟨rfl, by decide +kernel⟩
  | 14, _ => first | exact trivial | exact ⟨rfl, by decide +kernel⟩
  | 15, _ => first | exact trivial | exact ⟨rfl, by decide +kernel⟩
  | 16, _ => first | exact trivial | exact ⟨rfl, by decide +kernel⟩
  | b + 17, hb => exact absurd hb (by omega)⟩
theorem xcf3 : xcf 3 xR3 xT3 1 := ⟨rfl, xI3, ⟨xY3, xP3⟩, xN3, by
  intro b hb
  match b, hb with
  | 0, _ => first | exact trivial | exact ⟨rfl, by decide +kernel⟩
  | b + 1, hb => exact absurd hb (by omega)⟩
theorem xcf4 : xcf 4 xR4 xT4 4 := ⟨rfl, xI4, ⟨xY4, xP4⟩, xN4, by
  intro b hb
  match b, hb with
  | 0, _ => first | exact trivial | exact ⟨rfl, by decide +kernel⟩
  | 1, _ => first | exact trivial | exact ⟨rfl, by decide +kernel⟩
  | 2, _ => first | exact trivial | exact ⟨rfl, by decide +kernel⟩
  | 3, _ => first | exact trivial | exact ⟨rfl, by decide +kernel⟩
  | b + 4, hb => exact absurd hb (by omega)⟩
theorem xcf5 : xcf 5 xR5 xT5 3 := ⟨rfl, xI5, ⟨xY5, xP5⟩, xN5, by
  intro b hb
  match b, hb with
  | 0, _ => first | exact trivial | exact ⟨rfl, by decide +kernel⟩
  | 1, _ => first | exact trivial | exact ⟨rfl, by decide +kernel⟩
  | 2, _ => first | exact trivial | exact ⟨rfl, by decide +kernel⟩
  | b + 3, hb => exact absurd hb (by omega)⟩
theorem xcf6 : xcf 6 xR6 xT6 7 := ⟨rfl, xI6, ⟨xY6, xP6⟩, xN6, by
  intro b hb
  match b, hb with
  | 0, _ => first | exact trivial | exact ⟨rfl, by decide +kernel⟩
  | 1, _ => first | exact trivial | exact ⟨rfl, by decide +kernel⟩
  | 2, _ => first | exact trivial | exact ⟨rfl, by decide +kernel⟩
  | 3, _ => first | exact trivial | exact ⟨rfl, by decide +kernel⟩
  | 4, _ => first | exact trivial | exact ⟨rfl, by decide +kernel⟩
  | 5, _ => first | exact trivial | exact ⟨rfl, by decide +kernel⟩
  | 6, _ => first | exact trivial | exact ⟨rfl, by decide +kernel⟩
  | b + 7, hb => exact absurd hb (by omega)⟩
theorem xcf7 : xcf 7 xR7 xT7 5 := ⟨rfl, xI7, ⟨xY7, xP7⟩, xN7, by
  intro b hb
  match b, hb with
  | 0, _ => first | exact trivial | exact ⟨rfl, by decide +kernel⟩
  | 1, _ => first | exact trivial | exact ⟨rfl, by decide +kernel⟩
  | 2, _ => first | exact trivial | exact ⟨rfl, by decide +kernel⟩
  | 3, _ => first | exact trivial | exact ⟨rfl, by decide +kernel⟩
  | 4, _ => first | exact trivial | exact ⟨rfl, by decide +kernel⟩
  | b + 5, hb => exact absurd hb (by omega)⟩
theorem xcf8 : xcf 8 xR8 xT8 9 := ⟨rfl, xI8, ⟨xY8, xP8⟩, xN8, by
  intro b hb
  match b, hb with
  | 0, _ => first | exact trivial | exact ⟨rfl, by decide +kernel⟩
  | 1, _ => first | exact trivial | exact ⟨rfl, by decide +kernel⟩
  | 2, _ => first | exact trivial | exact ⟨rfl, by decide +kernel⟩
  | 3, _ => first | exact trivial | exact ⟨rfl, by decide +kernel⟩
  | 4, _ => first | exact trivial | exact ⟨rfl, by decide +kernel⟩
  | 5, _ => first | exact trivial | exact ⟨rfl, by decide +kernel⟩
  | 6, _ => first | exact trivial | exact ⟨rfl, by decide +kernel⟩
  | 7, _ => first | exact trivial | exact ⟨rfl, by decide +kernel⟩
  | 8, _ => first | exact trivial | exact ⟨rfl, by decide +kernel⟩
  | b + 9, hb => exact absurd hb (by omega)⟩
theorem xcf9 : xcf 9 xR9 xT9 3 := ⟨rfl, xI9, ⟨xY9, xP9⟩, xN9, by
  intro b hb
  match b, hb with
  | 0, _ => first | exact trivial | exact ⟨rfl, by decide +kernel⟩
  | 1, _ => first | exact trivial | exact ⟨rfl, by decide +kernel⟩
  | 2, _ => first | exact trivial | exact ⟨rfl, by decide +kernel⟩
  | b + 3, hb => exact absurd hb (by omega)⟩
theorem xcf10 : xcf 10 xR10 xT10 8 := ⟨rfl, xI10, ⟨xY10, xP10⟩, xN10, by
  intro b hb
  match b, hb with
  | 0, _ => first | exact trivial | exact ⟨rfl, by decide +kernel⟩
  | 1, _ => first | exact trivial | exact ⟨rfl, by decide +kernel⟩
  | 2, _ => first | exact trivial | exact ⟨rfl, by decide +kernel⟩
  | 3, _ => first | exact trivial | exact ⟨rfl, by decide +kernel⟩
  | 4, _ => first | exact trivial | exact ⟨rfl, by decide +kernel⟩
  | 5, _ => first | exact trivial | exact ⟨rfl, by decide +kernel⟩
  | 6, _ => first | exact trivial | exact ⟨rfl, by decide +kernel⟩
  | 7, _ => first | exact trivial | exact ⟨rfl, by decide +kernel⟩
  | b + 8, hb => exact absurd hb (by omega)⟩
theorem xcf11 : xcf 11 xR11 xT11 12 := ⟨rfl, xI11, ⟨xY11, xP11⟩, xN11, by
  intro b hb
  match b, hb with
  | 0, _ => first | exact trivial | exact ⟨rfl, by decide +kernel⟩
  | 1, _ => first | exact trivial | exact ⟨rfl, by decide +kernel⟩
  | 2, _ => first | exact trivial | exact ⟨rfl, by decide +kernel⟩
  | 3, _ => first | exact trivial | exact ⟨rfl, by decide +kernel⟩
  | 4, _ => first | exact trivial | exact ⟨rfl, by decide +kernel⟩
  | 5, _ => first | exact trivial | exact ⟨rfl, by decide +kernel⟩
  | 6, _ => first | exact trivial | exact ⟨rfl, by decide +kernel⟩
  | 7, _ => first | exact trivial | exact ⟨rfl, by decide +kernel⟩
  | 8, _ => first | exact trivial | exact ⟨rfl, by decide +kernel⟩
  | 9, _ => first | exact trivial | exact ⟨rfl, by decide +kernel⟩
  | 10, _ => first | exact trivial | exact ⟨rfl, by decide +kernel⟩
  | 11, _ => first | exact trivial | exact ⟨rfl, by decide +kernel⟩
  | b + 12, hb => exact absurd hb (by omega)⟩
theorem xcf12 : xcf 12 xR12 xT12 34 := ⟨rfl, xI12, ⟨xY12, xP12⟩, xN12, by
  intro b hb
  match b, hb with
  | 0, _ => first | exact trivial | exact ⟨rfl, by decide +kernel⟩
  | 1, _ => first | exact trivial | exact ⟨rfl, by decide +kernel⟩
  | 2, _ => first | exact trivial | exact ⟨rfl, by decide +kernel⟩
  | 3, _ => first | exact trivial | exact ⟨rfl, by decide +kernel⟩
  | 4, _ => first | exact trivial | exact ⟨rfl, by decide +kernel⟩
  | 5, _ => first | exact trivial | exact ⟨rfl, by decide +kernel⟩
  | 6, _ => first | exact trivial | exact ⟨rfl, by decide +kernel⟩
  | 7, _ => first | exact trivial | exact ⟨rfl, by decide +kernel⟩
  | 8, _ => first | exact trivial | exact ⟨rfl, by decide +kernel⟩
  | 9, _ => first | exact trivial | exact ⟨rfl, by decide +kernel⟩
  | 10, _ => first | exact trivial | exact ⟨rfl, by decide +kernel⟩
  | 11, _ => first | exact trivial | exact ⟨rfl, by decide +kernel⟩
  | 12, _ => first | exact trivial | exact ⟨rfl, by decide +kernel⟩
  | 13, _ => first | exact trivial | exact ⟨rfl, by decide +kernel⟩
  | 14, _ => first | exact trivial | exact ⟨rfl, by decide +kernel⟩
  | 15, _ => first | exact trivial | exact ⟨rfl, by decide +kernel⟩
  | 16, _ => first | exact trivial | exact ⟨rfl, by decide +kernel⟩
  | 17, _ => first | exact trivial | exact ⟨rfl, by decide +kernel⟩
  | 18, _ => first | exact trivial | exact ⟨rfl, by decide +kernel⟩
  | 19, _ => first | exact trivial | exact ⟨rfl, by decide +kernel⟩
  | 20, _ => first | exact trivial | exact ⟨rfl, by decide +kernel⟩
  | 21, _ => first | exact trivial | exact ⟨rfl, by decide +kernel⟩
  | 22, _ => first | exact trivial | exact ⟨rfl, by decide +kernel⟩
  | 23, _ => first | exact trivial | exact ⟨rfl, by decide +kernel⟩
  | 24, _ => first | exact trivial | exact ⟨rfl, by decide +kernel⟩
  | 25, _ => first | exact trivial | exact ⟨rfl, by decide +kernel⟩
  | 26, _ => first | exact trivial | exact ⟨rfl, by decide +kernel⟩
  | 27, _ => first | exact trivial | exact ⟨rfl, by decide +kernel⟩
  | 28, _ => first | exact trivial | exact ⟨rfl, by decide +kernel⟩
  | 29, _ => first | exact trivial | exact ⟨rfl, by decide +kernel⟩
  | 30, _ => first | exact trivial | exact ⟨rfl, by decide +kernel⟩
  | 31, _ => first | exact trivial | exact ⟨rfl, by decide +kernel⟩
  | 32, _ => first | exact trivial | exact ⟨rfl, by decide +kernel⟩
  | 33, _ => first | exact trivial | exact ⟨rfl, by decide +kernel⟩
  | b + 34, hb => exact absurd hb (by omega)⟩
theorem xcfs {a : Nat} {C : String} {T : u_T} {N : Nat} (h : xcl[a]? = some (C, T, N)) : xcf a C T N := by
  match a, h with
  | 0, h => cases h; exact xcf0
  | 1, h => cases h; exact xcf1
  | 2, h => cases h; exact xcf2
  | 3, h => cases h; exact xcf3
  | 4, h => cases h; exact xcf4
  | 5, h => cases h; exact xcf5
  | 6, h => cases h; exact xcf6
  | 7, h => cases h; exact xcf7
  | 8, h => cases h; exact xcf8
  | 9, h => cases h; exact xcf9
  | 10, h => cases h; exact xcf10
  | 11, h => cases h; exact xcf11
  | 12, h => cases h; exact xcf12
  | a + 13, h => simp [xcl] at h
theorem xlay_lt {a b : Nat} {sl : Nat ⊕ (Nat → XQ)} (h : (xlay a)[b]? = some sl) : a < 13 := by
  by_cases ha : a < 13
  · exact ha
  · exfalso
    have : xlay a = [] := by
      unfold xlay
      rw [List.getD_eq_getElem?_getD, List.getElem?_eq_none (by simp; omega)]
      rfl
    rw [this] at h
    simp at h
theorem xcl_of {a : Nat} (h : a < 13) : ∃ C T N, xcl[a]? = some (C, T, N) := by
  have hl : a < xcl.length := h
  exact ⟨(xcl[a]).1, (xcl[a]).2.1, (xcl[a]).2.2, by rw [List.getElem?_eq_getElem hl]⟩
/-- a field's link: by the class's own name and the pool index: class and slot -/
def xfl (own : String) (q : Nat × Nat × Nat) : Prop := ∃ C T N, xcl[q.2.1]? = some (C, T, N) ∧ q.2.2 < N ∧ Cond.fieldLink own q.1 (T q.2.2).1 (T q.2.2).2.1 (T q.2.2).2.2.1 ∈ xG
-- the references lead into the world
theorem xlink_ok : xdom.all (fun q => match q with | (t, i, 0) => (xlay t).all (fun s => match s with | .inr f => decide (f i ∈ xdom) | _ => true) | (t, _, j + 1) => (match xarr t j with | (4, n) => (List.range n).all (fun k => decide (xrow 4 k ∈ xdom)) | (5, n) => (List.range n).all (fun k => decide (xrow 5 k ∈ xdom)) | _ => true)) = true := by decide +kernel
theorem xlink {t i b : Nat} {f : Nat → XQ} (hq : (t, i, 0) ∈ xdom) (hs : (xlay t)[b]? = some (.inr f)) : f i ∈ xdom := by
  have h := List.all_eq_true.mp xlink_ok _ hq
  have h2 := List.all_eq_true.mp h _ (List.mem_of_getElem? hs)
  exact of_decide_eq_true h2
theorem xlink4 {t i j n k kd : Nat} (hq : (t, i, j + 1) ∈ xdom) (hs : xarr t j = (kd, n)) (hkd : kd = 4 ∨ kd = 5) (hk : k < n) : xrow kd k ∈ xdom := by
  have h := List.all_eq_true.mp xlink_ok _ hq
  rcases hkd with rfl | rfl <;> (simp only [hs] at h; exact of_decide_eq_true (List.all_eq_true.mp h _ (List.mem_range.mpr hk)))
theorem xin_vp {x : Int32} {n : Nat} (h : xin x n = true) : vp_in x n := by
  simp only [xin, Bool.and_eq_true, Bool.not_eq_true', decide_eq_false_iff_not, decide_eq_true_eq] at h
  exact fun q => q.elim h.1 (fun z => by omega)
theorem xin_lt {x : Int32} {n : Nat} (h : xin x n = true) : x.toNatClampNeg < n := by
  simp only [xin, Bool.and_eq_true, Bool.not_eq_true', decide_eq_false_iff_not, decide_eq_true_eq] at h
  exact h.2
theorem xbl_or {x : Int32} (h : xbl x = true) : x = 0 ∨ x = 1 := by
  simpa [xbl] using h
