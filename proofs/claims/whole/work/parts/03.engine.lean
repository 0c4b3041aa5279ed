/-! THE ABSTRACT MACHINE: values, memory, and an interpreter of decoded rows that stops ('none') where the machine could throw -/
abbrev XV : Type := Int32 ⊕ (Int64 ⊕ Option XQ)
abbrev XO : Type := (Nat → Int32) × (Nat → Int64) × (Nat → Nat → Int32) × (Nat → Nat → Int64)
abbrev XM : Type := Nat → Nat → XO
abbrev XR : Type := Option (Option XV × XM)
abbrev XF : Type := List XV → XM → XR
abbrev XL : Type := List (Option XV)
abbrev XE : Type := Nat × Instr × Nat × Nat × Int32 × Int64 × List (Int32 × Nat)
/-- callees: pool index, kind of the answer (0 none, 1 int, 2 long), how many arguments, the receiver's class (99 none), the function -/
abbrev XN : Type := List (Nat × Nat × Nat × Nat × XF)
abbrev xi (x : Int32) : XV := .inl x
abbrev xl (x : Int64) : XV := .inr (.inl x)
abbrev xr (t i k : Nat) : XV := .inr (.inr (some (t, i, k)))
abbrev xn : XV := .inr (.inr none)
def rI (μ : XM) (t i j : Nat) : Int32 := (μ t i).1 j
def rL (μ : XM) (t i j : Nat) : Int64 := (μ t i).2.1 j
def aI (μ : XM) (t i j : Nat) : Nat → Int32 := (μ t i).2.2.1 j
def aL (μ : XM) (t i j : Nat) : Nat → Int64 := (μ t i).2.2.2 j
def xset (μ : XM) (t i : Nat) (o : XO) : XM := fun t' i' => if t' = t ∧ i' = i then o else μ t' i'
def sI (μ : XM) (t i j : Nat) (x : Int32) : XM := xset μ t i (va_up (μ t i).1 j x, (μ t i).2)
def sL (μ : XM) (t i j : Nat) (x : Int64) : XM := xset μ t i ((μ t i).1, va_up (μ t i).2.1 j x, (μ t i).2.2)
/-- a whole row of ints is written anew -/
def wI (μ : XM) (t i j : Nat) (f : Nat → Int32) : XM := xset μ t i ((μ t i).1, (μ t i).2.1, va_up (μ t i).2.2.1 j f, (μ t i).2.2.2)
def wL (μ : XM) (t i j : Nat) (f : Nat → Int64) : XM := xset μ t i ((μ t i).1, (μ t i).2.1, (μ t i).2.2.1, va_up (μ t i).2.2.2 j f)
/-- one cell of a row -/
def pI (μ : XM) (t i j k : Nat) (x : Int32) : XM := wI μ t i j (upd (aI μ t i j) k x)
def pL (μ : XM) (t i j k : Nat) (x : Int64) : XM := wL μ t i j (vp_updL (aL μ t i j) k x)
/-- a value that is used below, named: memory, an int, a long (by choice, that nothing reckons them away) -/
theorem mS_ex : ∃ f : XM → (XM → XR) → XR, ∀ x k, f x k = k x := ⟨fun x k => k x, fun _ _ => rfl⟩
noncomputable def mS : XM → (XM → XR) → XR := Classical.choose mS_ex
theorem mS_eq (x : XM) (k : XM → XR) : mS x k = k x := Classical.choose_spec mS_ex x k
theorem vI_ex : ∃ f : Int32 → (Int32 → XR) → XR, ∀ x k, f x k = k x := ⟨fun x k => k x, fun _ _ => rfl⟩
noncomputable def vI : Int32 → (Int32 → XR) → XR := Classical.choose vI_ex
theorem vI_eq (x : Int32) (k : Int32 → XR) : vI x k = k x := Classical.choose_spec vI_ex x k
theorem vL_ex : ∃ f : Int64 → (Int64 → XR) → XR, ∀ x k, f x k = k x := ⟨fun x k => k x, fun _ _ => rfl⟩
noncomputable def vL : Int64 → (Int64 → XR) → XR := Classical.choose vL_ex
theorem vL_eq (x : Int64) (k : Int64 → XR) : vL x k = k x := Classical.choose_spec vL_ex x k
/-- a check that the table decides -/
def xsc (b : Bool) (r : XR) : XR := bif b then r else none
/-- a check: else the interpreter stops; a branch (conditions are never reckoned) -/
theorem xck_ex : ∃ f : Bool → XR → XR, ∀ b r, f b r = bif b then r else none := ⟨fun b r => bif b then r else none, fun _ _ => rfl⟩
noncomputable def xck : Bool → XR → XR := Classical.choose xck_ex
theorem xck_eq (b : Bool) (r : XR) : xck b r = bif b then r else none := Classical.choose_spec xck_ex b r
theorem xck_t {b : Bool} (h : b = true) (r : XR) : xck b r = r := by rw [xck_eq, h]; rfl
theorem xck_inv {b : Bool} {r : XR} {o : Option XV × XM} (h : xck b r = some o) : b = true ∧ r = some o := by
  rw [xck_eq] at h
  cases b
  · cases h
  · exact ⟨rfl, h⟩
noncomputable def xite (c : Prop) (a b : XR) : XR := @ite XR c (Classical.propDecidable c) a b
theorem xite_t {c : Prop} {a b : XR} (h : c) : xite c a b = a := if_pos h
theorem xite_f {c : Prop} {a b : XR} (h : ¬ c) : xite c a b = b := if_neg h
def xin (x : Int32) (n : Nat) : Bool := !(decide (x < 0)) && decide (x.toNatClampNeg < n)
def xbl (x : Int32) : Bool := decide (x = 0) || decide (x = 1)
/-- the results: nothing, an int, a boolean, a char, a long, a throw -/
def xrv (μ : XM) : XR := some (none, μ)
def xri (x : Int32) (μ : XM) : XR := some (some (xi x), μ)
def xrb (x : Int32) (μ : XM) : XR := bif xbl x then some (some (xi x), μ) else none
def xrc (x : Int32) (μ : XM) : XR := bif decide (vp_nar .char x = x) then some (some (xi x), μ) else none
def xrl (x : Int64) (μ : XM) : XR := some (some (xl x), μ)
def xrt (μ : XM) : XR := some (some (xr 99 0 0), μ)
/-- behind a call: its answer, then what goes on -/
def bV (r : XR) (k : XM → XR) : XR := match r with | some (none, μ) => k μ | _ => none
def bI (r : XR) (k : Int32 → XM → XR) : XR := match r with | some (some (.inl x), μ) => k x μ | _ => none
def bL (r : XR) (k : Int64 → XM → XR) : XR := match r with | some (some (.inr (.inl x)), μ) => k x μ | _ => none
noncomputable def xseek (a : Nat) (l : List XE) : List XE := List.rec [] (fun e l ih => bif Nat.beq e.1 a then e :: l else ih) l
noncomputable def xfind (a : Nat) (l : XN) : Option (Nat × Nat × Nat × XF) := List.rec none (fun e _ ih => bif Nat.beq e.1 a then some e.2 else ih) l
def xmask : Nat → XL → XL
  | _, [] => []
  | m, v :: l => (bif Nat.beq (m % 2) 1 then v else none) :: xmask (m / 2) l
def xpop : Nat → List XV → List XV → Option (List XV × List XV)
  | 0, acc, st => some (acc, st)
  | n + 1, acc, v :: st => xpop n (v :: acc) st
  | _ + 1, _, [] => none
def xcat (v : XV) : Nat := match v with | .inr (.inl _) => 2 | _ => 1
def xsum (st : List XV) : Nat := (st.map xcat).sum
def xlong (v : Option (Option XV)) : Bool := match v with | some (some (.inr (.inl _))) => true | _ => false
/-- a store's flag: 1: a long just below the place goes; 0: there is none (checked) -/
def xdl (b a : Nat) (L : XL) : XL := match b with | 0 => L | _ + 1 => L.set (a - 1) none
def xsk (b a : Nat) (L : XL) : Bool := match b with | 0 => !(xlong L[a - 1]?) | _ + 1 => true
noncomputable def xsw (K : Nat → XR) (x : Int32) (d : Nat) : List (Int32 × Nat) → XR
  | [] => K d
  | (v, t) :: l => xite (x = v) (K t) (xsw K x d l)
def xcpok (sp dp n : Int32) (n0 n1 : Nat) : Bool := !(decide (sp < 0)) && !(decide (dp < 0)) && !(decide (n < 0)) && decide (sp.toNatClampNeg + n.toNatClampNeg ≤ n0) && decide (dp.toNatClampNeg + n.toNatClampNeg ≤ n1)
abbrev XK : Type := List XE → XL → List XV → XM → XR
-- the rows by their shapes
def xo1 (f : Int32 → XV) (k : List XV → XR) (st : List XV) : XR := match st with | .inl x :: st => k (f x :: st) | _ => none
def xo1l (f : Int64 → XV) (k : List XV → XR) (st : List XV) : XR := match st with | .inr (.inl x) :: st => k (f x :: st) | _ => none
def xo2 (f : Int32 → Int32 → Int32) (k : List XV → XR) (st : List XV) : XR := match st with | .inl y :: .inl x :: st => k (xi (f x y) :: st) | _ => none
noncomputable def xo2n (f : Int32 → Int32 → Int32) (k : List XV → XR) (st : List XV) : XR := match st with | .inl y :: .inl x :: st => xite (y = 0) none (k (xi (f x y) :: st)) | _ => none
def xo2l (f : Int64 → Int64 → XV) (k : List XV → XR) (st : List XV) : XR := match st with | .inr (.inl y) :: .inr (.inl x) :: st => k (f x y :: st) | _ => none
noncomputable def xo2ln (f : Int64 → Int64 → Int64) (k : List XV → XR) (st : List XV) : XR := match st with | .inr (.inl y) :: .inr (.inl x) :: st => xite (y = 0) none (k (xl (f x y) :: st)) | _ => none
def xo2s (f : Int64 → Int32 → Int64) (k : List XV → XR) (st : List XV) : XR := match st with | .inl y :: .inr (.inl x) :: st => k (xl (f x y) :: st) | _ => none
def xldI (L : XL) (a : Nat) (k : XV → XR) : XR := match L[a]? with | some (some (.inl x)) => k (xi x) | _ => none
def xldL (L : XL) (a : Nat) (k : XV → XR) : XR := match L[a]? with | some (some (.inr (.inl x))) => k (xl x) | _ => none
def xldR (L : XL) (a : Nat) (k : XV → XR) : XR := match L[a]? with | some (some (.inr (.inr x))) => k (.inr (.inr x)) | _ => none
noncomputable def xstI (L : XL) (a b : Nat) (k : XL → List XV → XR) (st : List XV) : XR := match st, L[a]? with | .inl x :: st, some _ => xsc (xsk b a L) (vI x (fun x => k ((xdl b a L).set a (some (xi x))) st)) | _, _ => none
def xstR (L : XL) (a b : Nat) (k : XL → List XV → XR) (st : List XV) : XR := match st, L[a]? with | .inr (.inr x) :: st, some _ => xsc (xsk b a L) (k ((xdl b a L).set a (some (.inr (.inr x)))) st) | _, _ => none
noncomputable def xstL (L : XL) (a b : Nat) (k : XL → List XV → XR) (st : List XV) : XR := match st, L[a + 1]? with | .inr (.inl x) :: st, some _ => xsc (xsk b a L) (vL x (fun x => k (((xdl b a L).set (a + 1) none).set a (some (xl x))) st)) | _, _ => none
noncomputable def xinc (L : XL) (a : Nat) (c : Int32) (k : XL → XR) : XR := match L[a]? with | some (some (.inl x)) => xsc (xsk 0 a L) (vI (x + c) (fun y => k (L.set a (some (xi y))))) | _ => none
def xdup (k : List XV → XR) (st : List XV) : XR := match st with | .inl x :: st => k (xi x :: xi x :: st) | .inr (.inr x) :: st => k (.inr (.inr x) :: .inr (.inr x) :: st) | _ => none
def xdup2 (k : List XV → XR) (st : List XV) : XR := match st with | .inl y :: .inr (.inr x) :: st => k (xi y :: .inr (.inr x) :: xi y :: .inr (.inr x) :: st) | _ => none
def xpp (k : List XV → XR) (st : List XV) : XR := match st with | .inl _ :: st => k st | .inr (.inr _) :: st => k st | _ => none
def xgf (μ : XM) (a b : Nat) (k : List XV → XR) (st : List XV) : XR := match st with
  | .inr (.inr (some (t, i, 0))) :: st => xsc (Nat.beq t a) ((match (xlay a)[b]? with
    | some (.inl 1) => k (xl (rL μ a i b) :: st)
    | some (.inl _) => k (xi (rI μ a i b) :: st)
    | some (.inr f) => k (.inr (.inr (some (f i))) :: st)
    | none => none))
  | _ => none
noncomputable def xpf (μ : XM) (a b : Nat) (k : List XV → XM → XR) (st : List XV) : XR := match st with
  | v :: .inr (.inr (some (t, i, 0))) :: st => xsc (Nat.beq t a) ((match (xlay a)[b]?, v with
    | some (.inl 0), .inl x => mS (sI μ a i b x) (fun μ => k st μ)
    | some (.inl 1), .inr (.inl x) => mS (sL μ a i b x) (fun μ => k st μ)
    | some (.inl 3), .inl x => xck (xbl x) (mS (sI μ a i b x) (fun μ => k st μ))
    | _, _ => none))
  | _ => none
def xal (μ : XM) (k : List XV → XR) (st : List XV) : XR := match st with
  | .inr (.inr (some (t, i, j + 1))) :: st => (match xarr t j with
    | (8, _) => k (xi (rI μ t i j) :: st)
    | (9, _) => none
    | (_, n) => k (xi (nI n) :: st))
  | _ => none
/-- an element of an int, char, boolean row (by its kind), of the script too -/
noncomputable def xga (μ : XM) (kind : Nat) (k : List XV → XR) (st : List XV) : XR := match st with
  | .inl x :: .inr (.inr (some (t, i, j + 1))) :: st => (match xarr t j with
    | (8, _) => xsc (Nat.beq kind 0) (xck (xin x (rI μ t i j).toNatClampNeg) (k (xi (aI μ t i j x.toNatClampNeg) :: st)))
    | (kd, n) => xsc (Nat.beq kd kind) ((xck (xin x n) (k (xi (aI μ t i j x.toNatClampNeg) :: st)))))
  | _ => none
noncomputable def xgl (μ : XM) (k : List XV → XR) (st : List XV) : XR := match st with
  | .inl x :: .inr (.inr (some (t, i, j + 1))) :: st => (match xarr t j with
    | (kd, n) => xsc (Nat.beq kd 1) ((xck (xin x n) (k (xl (aL μ t i j x.toNatClampNeg) :: st)))))
  | _ => none
noncomputable def xgr (k : List XV → XR) (st : List XV) : XR := match st with
  | .inl x :: .inr (.inr (some (t, _, j + 1))) :: st => (match xarr t j with
    | (kd, n) => xsc (Nat.beq kd 4 || Nat.beq kd 5) ((xck (xin x n) (k (.inr (.inr (some (xrow kd x.toNatClampNeg))) :: st)))))
  | _ => none
noncomputable def xpa (μ : XM) (kind : Nat) (f : Int32 → Int32) (ok : Int32 → Bool) (k : List XV → XM → XR) (st : List XV) : XR := match st with
  | .inl v :: .inl x :: .inr (.inr (some (t, i, j + 1))) :: st => (match xarr t j with
    | (kd, n) => xsc (Nat.beq kd kind) ((xck (xin x n && ok v) (mS (pI μ t i j x.toNatClampNeg (f v)) (fun μ => k st μ)))))
  | _ => none
noncomputable def xpl (μ : XM) (k : List XV → XM → XR) (st : List XV) : XR := match st with
  | .inr (.inl v) :: .inl x :: .inr (.inr (some (t, i, j + 1))) :: st => (match xarr t j with
    | (kd, n) => xsc (Nat.beq kd 1) ((xck (xin x n) (mS (pL μ t i j x.toNatClampNeg v) (fun μ => k st μ)))))
  | _ => none
noncomputable def xcp (μ : XM) (k : List XV → XM → XR) (st : List XV) : XR := match st with
  | .inl n :: .inl dp :: .inr (.inr (some (t1, i1, j1 + 1))) :: .inl sp :: .inr (.inr (some (t0, i0, j0 + 1))) :: st => (match xarr t0 j0, xarr t1 j1 with
    | (0, n0), (0, n1) => xck (xcpok sp dp n n0 n1) (mS (wI μ t1 i1 j1 (va_cpy (aI μ t0 i0 j0) (aI μ t1 i1 j1) sp.toNatClampNeg dp.toNatClampNeg n.toNatClampNeg)) (fun μ => k st μ))
    | (1, n0), (1, n1) => xck (xcpok sp dp n n0 n1) (mS (wL μ t1 i1 j1 (va_cpy (aL μ t0 i0 j0) (aL μ t1 i1 j1) sp.toNatClampNeg dp.toNatClampNeg n.toNatClampNeg)) (fun μ => k st μ))
    | _, _ => none)
  | _ => none
noncomputable def xca (env : XN) (idx a tg : Nat) (μ : XM) (as rest : List XV) (k : List XV → XM → XR) : XR := xsc (Nat.ble (xsum rest) 8) ((match xfind idx env with
    | some (rk, na, tg', F) => xsc (Nat.beq na a && Nat.beq tg' tg) ((match rk with
      | 0 => bV (F as μ) (fun μ => k rest μ)
      | 1 => bI (F as μ) (fun x μ => k (xi x :: rest) μ)
      | 2 => bL (F as μ) (fun x μ => k (xl x :: rest) μ)
      | _ => none))
    | none => none))
noncomputable def xcv (env : XN) (idx a b : Nat) (μ : XM) (k : List XV → XM → XR) (st : List XV) : XR := match xpop a [] st with
  | some (.inr (.inr (some (t, i, 0))) :: as, rest) => xsc (Nat.beq t b) (xca env idx a b μ (xr t i 0 :: as) rest k)
  | _ => none
noncomputable def xcs (env : XN) (idx a : Nat) (μ : XM) (k : List XV → XM → XR) (st : List XV) : XR := match xpop a [] st with
  | some (as, rest) => xca env idx a 99 μ as rest k
  | _ => none
noncomputable def xmn (k : List XV → XR) (st : List XV) : XR := match st with | .inl y :: .inl x :: st => xsc (Nat.ble (xsum st) 8) (k (xi (if y < x then y else x) :: st)) | _ => none
noncomputable def xmx (k : List XV → XR) (st : List XV) : XR := match st with | .inl y :: .inl x :: st => xsc (Nat.ble (xsum st) 8) (k (xi (if x < y then y else x) :: st)) | _ => none
noncomputable def xab (k : List XV → XR) (st : List XV) : XR := match st with | .inl x :: st => xsc (Nat.ble (xsum st) 8) (k (xi (if 0 ≤ x then x else 0 - x) :: st)) | _ => none
noncomputable def xif (cd : Jvm.ClassFile.Cond) (kt kf : List XV → XR) (st : List XV) : XR := match st with
  | .inl x :: st => (match cd with
    | .eq => xite (x = 0) (kt st) (kf st)
    | .ne => xite (x = 0) (kf st) (kt st)
    | .lt => xite (x < 0) (kt st) (kf st)
    | .ge => xite (x < 0) (kf st) (kt st)
    | .gt => xite (0 < x) (kt st) (kf st)
    | .le => xite (0 < x) (kf st) (kt st))
  | _ => none
noncomputable def xic (cd : Jvm.ClassFile.Cond) (kt kf : List XV → XR) (st : List XV) : XR := match st with
  | .inl y :: .inl x :: st => (match cd with
    | .eq => xite (x = y) (kt st) (kf st)
    | .ne => xite (x = y) (kf st) (kt st)
    | .lt => xite (x < y) (kt st) (kf st)
    | .ge => xite (x < y) (kf st) (kt st)
    | .gt => xite (y < x) (kt st) (kf st)
    | .le => xite (y < x) (kf st) (kt st))
  | _ => none
def xnl (kt kf : List XV → XR) (st : List XV) : XR := match st with
  | .inr (.inr none) :: st => kt st
  | .inr (.inr (some _)) :: st => kf st
  | _ => none
def xret (rt : Nat) (μ : XM) (st : List XV) : XR := match rt, st with
  | 1, [.inl x] => xri x μ
  | 2, [.inl x] => xrb x μ
  | 3, [.inl x] => xrc x μ
  | _, _ => none
noncomputable def xstep (A : Nat → XL → List XV → XM → XR) (tab : List XE) (env : XN) (rt : Nat) (rec : XK) (suf : List XE) (L : XL) (st : List XV) (μ : XM) : XR :=
  match suf with
  | [] => none
  | (pc, ins, a, b, c, d, sw) :: nx =>
    match ins with
    | .nop => A pc (xmask a L) st μ
    | .iconst _ => rec nx L (xi c :: st) μ
    | .bipush _ => rec nx L (xi c :: st) μ
    | .sipush _ => rec nx L (xi c :: st) μ
    | .ldc _ => (match b with | 0 => rec nx L (xi c :: st) μ | _ + 1 => rec nx L (xr 15 a 0 :: st) μ)
    | .ldc_w _ => rec nx L (xi c :: st) μ
    | .lconst _ => rec nx L (xl d :: st) μ
    | .ldc2_w _ => rec nx L (xl d :: st) μ
    | .aconst_null => rec nx L (xn :: st) μ
    | .iload_n _ => xldI L a (fun v => rec nx L (v :: st) μ)
    | .iload _ => xldI L a (fun v => rec nx L (v :: st) μ)
    | .lload_n _ => xldL L a (fun v => rec nx L (v :: st) μ)
    | .lload _ => xldL L a (fun v => rec nx L (v :: st) μ)
    | .aload_n _ => xldR L a (fun v => rec nx L (v :: st) μ)
    | .aload _ => xldR L a (fun v => rec nx L (v :: st) μ)
    | .istore_n _ => xstI L a b (fun L st => rec nx L st μ) st
    | .istore _ => xstI L a b (fun L st => rec nx L st μ) st
    | .lstore_n _ => xstL L a b (fun L st => rec nx L st μ) st
    | .lstore _ => xstL L a b (fun L st => rec nx L st μ) st
    | .astore_n _ => xstR L a b (fun L st => rec nx L st μ) st
    | .astore _ => xstR L a b (fun L st => rec nx L st μ) st
    | .iinc _ _ => xinc L a c (fun L => rec nx L st μ)
    | .iadd => xo2 (fun x y => x + y) (fun st => rec nx L st μ) st
    | .isub => xo2 (fun x y => x - y) (fun st => rec nx L st μ) st
    | .imul => xo2 (fun x y => x * y) (fun st => rec nx L st μ) st
    | .iand => xo2 (fun x y => x &&& y) (fun st => rec nx L st μ) st
    | .ior => xo2 (fun x y => x ||| y) (fun st => rec nx L st μ) st
    | .ixor => xo2 (fun x y => x ^^^ y) (fun st => rec nx L st μ) st
    | .ishl => xo2 (fun x y => x <<< (y &&& 31)) (fun st => rec nx L st μ) st
    | .ishr => xo2 (fun x y => x >>> (y &&& 31)) (fun st => rec nx L st μ) st
    | .iushr => xo2 (fun x y => (x.toUInt32 >>> (y.toUInt32 &&& Int32.toUInt32 31)).toInt32) (fun st => rec nx L st μ) st
    | .idiv => xo2n (fun x y => x / y) (fun st => rec nx L st μ) st
    | .irem => xo2n (fun x y => x - x / y * y) (fun st => rec nx L st μ) st
    | .ineg => xo1 (fun x => xi (-x)) (fun st => rec nx L st μ) st
    | .i2l => xo1 (fun x => xl x.toInt64) (fun st => rec nx L st μ) st
    | .i2c => xo1 (fun x => xi (x.toUInt32 % 65536).toInt32) (fun st => rec nx L st μ) st
    | .l2i => xo1l (fun x => xi x.toInt32) (fun st => rec nx L st μ) st
    | .ladd => xo2l (fun x y => xl (x + y)) (fun st => rec nx L st μ) st
    | .lsub => xo2l (fun x y => xl (x - y)) (fun st => rec nx L st μ) st
    | .lmul => xo2l (fun x y => xl (x * y)) (fun st => rec nx L st μ) st
    | .land => xo2l (fun x y => xl (x &&& y)) (fun st => rec nx L st μ) st
    | .lor => xo2l (fun x y => xl (x ||| y)) (fun st => rec nx L st μ) st
    | .lcmp => xo2l (fun x y => xi (lg_cmp x y)) (fun st => rec nx L st μ) st
    | .ldiv => xo2ln (fun x y => x / y) (fun st => rec nx L st μ) st
    | .lrem => xo2ln (fun x y => x - x / y * y) (fun st => rec nx L st μ) st
    | .lshl => xo2s (fun x y => x <<< (y.toInt64 &&& 63)) (fun st => rec nx L st μ) st
    | .lshr => xo2s (fun x y => x >>> (y.toInt64 &&& 63)) (fun st => rec nx L st μ) st
    | .lushr => xo2s (fun x y => (x.toUInt64 >>> (y.toInt64.toUInt64 &&& Int64.toUInt64 63)).toInt64) (fun st => rec nx L st μ) st
    | .dup => xdup (fun st => rec nx L st μ) st
    | .dup2 => xdup2 (fun st => rec nx L st μ) st
    | .pop => xpp (fun st => rec nx L st μ) st
    | .getfield _ => xgf μ a b (fun st => rec nx L st μ) st
    | .putfield _ => xpf μ a b (fun st μ => rec nx L st μ) st
    | .arraylength => xal μ (fun st => rec nx L st μ) st
    | .iaload => xga μ 0 (fun st => rec nx L st μ) st
    | .caload => xga μ 2 (fun st => rec nx L st μ) st
    | .baload => xga μ 3 (fun st => rec nx L st μ) st
    | .laload => xgl μ (fun st => rec nx L st μ) st
    | .aaload => xgr (fun st => rec nx L st μ) st
    | .iastore => xpa μ 0 (fun v => v) (fun _ => true) (fun st μ => rec nx L st μ) st
    | .castore => xpa μ 2 (fun v => vp_nar .char v) (fun _ => true) (fun st μ => rec nx L st μ) st
    | .bastore => xpa μ 3 (fun v => v) xbl (fun st μ => rec nx L st μ) st
    | .lastore => xpl μ (fun st μ => rec nx L st μ) st
    | .invokevirtual idx => xcv env idx a b μ (fun st μ => rec nx L st μ) st
    | .invokestatic idx => (match b with
      | 0 => xcs env idx a μ (fun st μ => rec nx L st μ) st
      | 1 => xmx (fun st => rec nx L st μ) st
      | 2 => xmn (fun st => rec nx L st μ) st
      | 3 => xab (fun st => rec nx L st μ) st
      | 4 => xcp μ (fun st μ => xsc (Nat.ble (xsum st) 8) (rec nx L st μ)) st
      | _ => none)
    | .goto _ => rec (xseek a tab) L st μ
    | .ifCond cd _ => xif cd (fun st => rec (xseek a tab) L st μ) (fun st => rec nx L st μ) st
    | .if_icmp cd _ => xic cd (fun st => rec (xseek a tab) L st μ) (fun st => rec nx L st μ) st
    | .ifnull _ => xnl (fun st => rec (xseek a tab) L st μ) (fun st => rec nx L st μ) st
    | .ifnonnull _ => xnl (fun st => rec nx L st μ) (fun st => rec (xseek a tab) L st μ) st
    | .tableswitch _ _ _ _ => (match st with | .inl x :: st => xsw (fun t => rec (xseek t tab) L st μ) x a sw | _ => none)
    | .lookupswitch _ _ => (match st with | .inl x :: st => xsw (fun t => rec (xseek t tab) L st μ) x a sw | _ => none)
    | .ireturn => xret rt μ st
    | .lreturn => (match rt, st with | 4, [.inr (.inl x)] => xrl x μ | _, _ => none)
    | .return_ => (match rt, st with | 0, [] => xrv μ | _, _ => none)
    | .new _ => (match st with | [] => xrt μ | _ => none)
    | _ => none
/-- from a row on, at most so many rows -/
noncomputable def ex (A : Nat → XL → List XV → XM → XR) (tab : List XE) (env : XN) (rt : Nat) (k : Nat) : XK :=
  Nat.rec (fun _ _ _ _ => none) (fun _ ih => xstep A tab env rt ih) k
/-- behind a head's mark -/
def xhd (l : List XE) : List XE := match l with | (_, .nop, _) :: nx => nx | _ => []
/-- arriving at a head (a loop's, a join's), with fuel -/
noncomputable def arr (tab : List XE) (env : XN) (rt K : Nat) (n : Nat) : Nat → XL → List XV → XM → XR :=
  Nat.rec (fun _ _ _ _ => none) (fun _ ih h L st μ => ex ih tab env rt K (xhd (xseek h tab)) L st μ) n
/-- a whole body: from its first row, heads with fuel N -/
noncomputable def xrun (tab : List XE) (env : XN) (rt K N : Nat) (L : XL) (μ : XM) : XR := ex (arr tab env rt K N) tab env rt K tab L [] μ
