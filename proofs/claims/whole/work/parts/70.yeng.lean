/-! THE MAKING: an interpreter that makes objects, each by its name, in their order -/
abbrev YS : Type := Nat × XM × (XQ → Nat → Bool)
abbrev YR : Type := Option (Option XV × YS)
abbrev YF : Type := List XV → YS → YR
/-- callees: pool index, how many arguments, the receiver's class, how many cells it makes, the function -/
abbrev YN : Type := List (Nat × Nat × Nat × Nat × YF)
/-- all cells in the order in which they are made -/
def ynl : List XQ := [(11, 0, 0), (10, 0, 0), (10, 0, 1), (2, 0, 0), (2, 0, 6), (2, 0, 7), (2, 0, 8), (2, 0, 9), (2, 0, 10), (2, 0, 11), (2, 0, 12), (2, 0, 13), (2, 0, 14), (2, 0, 15), (2, 0, 16), (4, 0, 0), (4, 0, 1), (4, 0, 3), (7, 0, 0), (2, 1, 0), (2, 1, 6), (2, 1, 7), (2, 1, 8), (2, 1, 9), (2, 1, 10), (2, 1, 11), (2, 1, 12), (2, 1, 13), (2, 1, 14), (2, 1, 15), (2, 1, 16), (4, 1, 0), (4, 1, 1), (4, 1, 3), (1, 0, 0), (1, 0, 2), (1, 0, 3), (1, 0, 4), (1, 0, 5), (1, 1, 0), (1, 1, 2), (1, 1, 3), (1, 1, 4), (1, 1, 5), (8, 0, 0), (8, 0, 2), (8, 0, 3), (8, 0, 4), (8, 0, 5), (8, 1, 0), (8, 1, 2), (8, 1, 3), (8, 1, 4), (8, 1, 5), (0, 0, 0), (0, 0, 1), (8, 2, 0), (8, 2, 2), (8, 2, 3), (8, 2, 4), (8, 2, 5), (8, 3, 0), (8, 3, 2), (8, 3, 3), (8, 3, 4), (8, 3, 5), (8, 4, 0), (8, 4, 2), (8, 4, 3), (8, 4, 4), (8, 4, 5), (8, 5, 0), (8, 5, 2), (8, 5, 3), (8, 5, 4), (8, 5, 5), (8, 6, 0), (8, 6, 2), (8, 6, 3), (8, 6, 4), (8, 6, 5), (8, 7, 0), (8, 7, 2), (8, 7, 3), (8, 7, 4), (8, 7, 5), (8, 8, 0), (8, 8, 2), (8, 8, 3), (8, 8, 4), (8, 8, 5), (8, 9, 0), (8, 9, 2), (8, 9, 3), (8, 9, 4), (8, 9, 5), (8, 10, 0), (8, 10, 2), (8, 10, 3), (8, 10, 4), (8, 10, 5), (8, 11, 0), (8, 11, 2), (8, 11, 3), (8, 11, 4), (8, 11, 5), (8, 12, 0), (8, 12, 2), (8, 12, 3), (8, 12, 4), (8, 12, 5), (8, 13, 0), (8, 13, 2), (8, 13, 3), (8, 13, 4), (8, 13, 5), (8, 14, 0), (8, 14, 2), (8, 14, 3), (8, 14, 4), (8, 14, 5), (8, 15, 0), (8, 15, 2), (8, 15, 3), (8, 15, 4), (8, 15, 5), (8, 16, 0), (8, 16, 2), (8, 16, 3), (8, 16, 4), (8, 16, 5), (8, 17, 0), (8, 17, 2), (8, 17, 3), (8, 17, 4), (8, 17, 5), (11, 0, 9), (5, 0, 0), (9, 1, 0), (9, 1, 2), (9, 1, 3), (8, 18, 0), (8, 18, 2), (8, 18, 3), (8, 18, 4), (8, 18, 5), (5, 1, 0), (9, 2, 0), (9, 2, 2), (9, 2, 3), (8, 19, 0), (8, 19, 2), (8, 19, 3), (8, 19, 4), (8, 19, 5), (5, 2, 0), (9, 3, 0), (9, 3, 2), (9, 3, 3), (8, 20, 0), (8, 20, 2), (8, 20, 3), (8, 20, 4), (8, 20, 5), (5, 3, 0), (9, 4, 0), (9, 4, 2), (9, 4, 3), (8, 21, 0), (8, 21, 2), (8, 21, 3), (8, 21, 4), (8, 21, 5), (9, 0, 0), (9, 0, 2), (9, 0, 3), (3, 0, 0), (3, 0, 1), (6, 0, 0), (6, 0, 4), (6, 0, 5), (6, 0, 6), (6, 0, 7), (12, 0, 0), (12, 0, 2), (12, 0, 5), (12, 0, 6), (12, 0, 7), (12, 0, 10), (12, 0, 11), (12, 0, 12), (12, 0, 13), (12, 0, 15), (12, 0, 16), (12, 0, 17), (12, 0, 18), (12, 0, 22), (12, 0, 23), (12, 0, 24), (12, 0, 25), (12, 0, 27), (12, 0, 28), (12, 0, 29), (12, 0, 30), (12, 0, 31), (12, 0, 33), (14, 0, 1)]
def yrs (ρ : XQ → Nat → Bool) (q : XQ) (k : Nat) : XQ → Nat → Bool := fun q' k' => if q' = q ∧ k' = k then true else ρ q' k'
noncomputable def yfind (a : Nat) (l : YN) : Option (Nat × Nat × Nat × YF) := List.rec none (fun e _ ih => bif Nat.beq e.1 a then some e.2 else ih) l
noncomputable def ycall (env : YN) (cap idx a b : Nat) (k : List XV → YS → YR) (st : List XV) (S : YS) : YR := match xpop a [] st with
  | some (.inr (.inr (some (t, i, 0))) :: as, rest) => bif Nat.beq t b && Nat.ble (xsum rest) 8 then (match yfind idx env with
    | some (na, tg, mc, F) => bif Nat.beq na a && (Nat.beq tg b && Nat.ble (S.1 + mc) cap) then (match F (xr t i 0 :: as) S with
      | some (none, S') => k rest S'
      | some (some (.inl x), S') => k (xi x :: rest) S'
      | _ => none) else none
    | none => none) else none
  | _ => none
abbrev YK : Type := List XE → XL → List XV → YS → YR
def yldI (L : XL) (a : Nat) (k : XV → YR) : YR := match L[a]? with | some (some (.inl x)) => k (xi x) | _ => none
def yldR (L : XL) (a : Nat) (k : XV → YR) : YR := match L[a]? with | some (some (.inr (.inr x))) => k (.inr (.inr x)) | _ => none
def ystI (L : XL) (a : Nat) (k : XL → List XV → YR) (st : List XV) : YR := match st, L[a]? with | .inl x :: st, some _ => bif xsk 0 a L then k (L.set a (some (xi x))) st else none | _, _ => none
def ystR (L : XL) (a : Nat) (k : XL → List XV → YR) (st : List XV) : YR := match st, L[a]? with | .inr (.inr x) :: st, some _ => bif xsk 0 a L then k (L.set a (some (.inr (.inr x)))) st else none | _, _ => none
def yinc (L : XL) (a : Nat) (c : Int32) (k : XL → YR) : YR := match L[a]? with | some (some (.inl x)) => bif xsk 0 a L then k (L.set a (some (xi (x + c)))) else none | _ => none
def yad2 (k : List XV → YR) (st : List XV) : YR := match st with | .inl y :: .inl x :: st => k (xi (x + y) :: st) | _ => none
def ydup (k : List XV → YR) (st : List XV) : YR := match st with | .inl x :: st => k (xi x :: xi x :: st) | .inr (.inr x) :: st => k (.inr (.inr x) :: .inr (.inr x) :: st) | _ => none
/-- an object of class a is made -/
def ynew (cap a : Nat) (k : List XV → YS → YR) (st : List XV) (S : YS) : YR := match ynl[S.1]? with
  | some (t, i, 0) => bif Nat.beq t a && Nat.ble (S.1 + 1) cap then k (xr t i 0 :: st) (S.1 + 1, S.2) else none
  | _ => none
/-- an array of kind a is made -/
def ynar (cap a : Nat) (k : List XV → YS → YR) (st : List XV) (S : YS) : YR := match st, ynl[S.1]? with
  | .inl x :: st, some (t, i, j + 1) => bif Nat.beq (xarr t j).1 a && (decide (x = nI (xarr t j).2) && Nat.ble (S.1 + 1) cap) then k (xr t i (j + 1) :: st) (S.1 + 1, S.2) else none
  | _, _ => none
def ygf (a b : Nat) (k : List XV → YR) (st : List XV) (S : YS) : YR := match st with
  | .inr (.inr (some (t, i, 0))) :: st => bif Nat.beq t a then (match (xlay a)[b]? with
    | some (.inl 0) => k (xi (rI S.2.1 a i b) :: st)
    | some (.inr f) => bif S.2.2 (a, i, 0) b then k (.inr (.inr (some (f i))) :: st) else none
    | _ => none) else none
  | _ => none
def ypf (a b : Nat) (k : List XV → YS → YR) (st : List XV) (S : YS) : YR := match st with
  | .inl x :: .inr (.inr (some (t, i, 0))) :: st => bif Nat.beq t a then (match (xlay a)[b]? with
    | some (.inl 0) => k st (S.1, sI S.2.1 a i b x, S.2.2)
    | _ => none) else none
  | .inr (.inr (some q)) :: .inr (.inr (some (t, i, 0))) :: st => bif Nat.beq t a then (match (xlay a)[b]? with
    | some (.inr f) => bif decide (q = f i) then k st (S.1, S.2.1, yrs S.2.2 (a, i, 0) b) else none
    | _ => none) else none
  | _ => none
def yal (k : List XV → YR) (st : List XV) : YR := match st with
  | .inr (.inr (some (t, _, j + 1))) :: st => bif Nat.ble (xarr t j).1 5 then k (xi (nI (xarr t j).2) :: st) else none
  | _ => none
def yga (k : List XV → YR) (st : List XV) (S : YS) : YR := match st with
  | .inl x :: .inr (.inr (some (t, i, j + 1))) :: st => bif Nat.beq (xarr t j).1 0 && xin x (xarr t j).2 then k (xi (aI S.2.1 t i j x.toNatClampNeg) :: st) else none
  | _ => none
/-- an element of an int row (kind 0) or a boolean row (3) is written -/
def ypa (kind : Nat) (k : List XV → YS → YR) (st : List XV) (S : YS) : YR := match st with
  | .inl v :: .inl x :: .inr (.inr (some (t, i, j + 1))) :: st => bif Nat.beq (xarr t j).1 kind && (xin x (xarr t j).2 && (Nat.beq kind 0 || xbl v)) then k st (S.1, pI S.2.1 t i j x.toNatClampNeg v, S.2.2) else none
  | _ => none
def ypl (k : List XV → YS → YR) (st : List XV) (S : YS) : YR := match st with
  | .inr (.inl v) :: .inl x :: .inr (.inr (some (t, i, j + 1))) :: st => bif Nat.beq (xarr t j).1 1 && xin x (xarr t j).2 then k st (S.1, pL S.2.1 t i j x.toNatClampNeg v, S.2.2) else none
  | _ => none
def ypq (k : List XV → YS → YR) (st : List XV) (S : YS) : YR := match st with
  | .inr (.inr (some q)) :: .inl x :: .inr (.inr (some (t, i, j + 1))) :: st => bif (Nat.beq (xarr t j).1 4 || Nat.beq (xarr t j).1 5) && (xin x (xarr t j).2 && decide (q = xrow (xarr t j).1 x.toNatClampNeg)) then k st (S.1, S.2.1, yrs S.2.2 (t, i, j + 1) x.toNatClampNeg) else none
  | _ => none
def yge (kt kf : List XV → YR) (st : List XV) : YR := match st with
  | .inl y :: .inl x :: st => if x < y then kf st else kt st
  | _ => none
def yob (k : List XV → YR) (st : List XV) : YR := match st with | .inr (.inr (some _)) :: st => bif Nat.ble (xsum st) 8 then k st else none | _ => none
def yrt0 (rt : Nat) (st : List XV) (S : YS) : YR := match rt, st with | 0, [] => some (none, S) | _, _ => none
def yrt1 (rt : Nat) (st : List XV) (S : YS) : YR := match rt, st with | 1, [.inl x] => some (some (xi x), S) | _, _ => none
noncomputable def ystep (tab : List XE) (env : YN) (rt cap : Nat) (rec : YK) (suf : List XE) (L : XL) (st : List XV) (S : YS) : YR :=
  match suf with
  | [] => none
  | (_, ins, a, b, c, d, _) :: nx =>
    match ins with
    | .iconst _ => rec nx L (xi c :: st) S
    | .bipush _ => rec nx L (xi c :: st) S
    | .sipush _ => rec nx L (xi c :: st) S
    | .ldc2_w _ => rec nx L (xl d :: st) S
    | .iload_n _ => yldI L a (fun v => rec nx L (v :: st) S)
    | .iload _ => yldI L a (fun v => rec nx L (v :: st) S)
    | .aload_n _ => yldR L a (fun v => rec nx L (v :: st) S)
    | .istore_n _ => ystI L a (fun L st => rec nx L st S) st
    | .istore _ => ystI L a (fun L st => rec nx L st S) st
    | .astore_n _ => ystR L a (fun L st => rec nx L st S) st
    | .iinc _ _ => yinc L a c (fun L => rec nx L st S)
    | .iadd => yad2 (fun st => rec nx L st S) st
    | .dup => ydup (fun st => rec nx L st S) st
    | .new _ => ynew cap a (fun st S => rec nx L st S) st S
    | .newarray _ => ynar cap a (fun st S => rec nx L st S) st S
    | .anewarray _ => ynar cap a (fun st S => rec nx L st S) st S
    | .getfield _ => ygf a b (fun st => rec nx L st S) st S
    | .putfield _ => ypf a b (fun st S => rec nx L st S) st S
    | .arraylength => yal (fun st => rec nx L st S) st
    | .iaload => yga (fun st => rec nx L st S) st S
    | .iastore => ypa 0 (fun st S => rec nx L st S) st S
    | .bastore => ypa 3 (fun st S => rec nx L st S) st S
    | .lastore => ypl (fun st S => rec nx L st S) st S
    | .aastore => ypq (fun st S => rec nx L st S) st S
    | .invokespecial idx => (match b with
      | 98 => yob (fun st => rec nx L st S) st
      | _ => ycall env cap idx a b (fun st S => rec nx L st S) st S)
    | .invokevirtual idx => ycall env cap (idx + 100000) a b (fun st S => rec nx L st S) st S
    | .goto _ => rec (xseek a tab) L st S
    | .if_icmp cd _ => (match cd with | .ge => yge (fun st => rec (xseek a tab) L st S) (fun st => rec nx L st S) st | _ => none)
    | .return_ => yrt0 rt st S
    | .ireturn => yrt1 rt st S
    | _ => none
noncomputable def yex (tab : List XE) (env : YN) (rt cap : Nat) (k : Nat) : YK := Nat.rec (fun _ _ _ _ => none) (fun _ ih => ystep tab env rt cap ih) k
def yrok (r : Option XV) : Bool := match r with | some (.inr _) => false | _ => true
/-- a method that makes mc cells -/
noncomputable def yrun (tab : List XE) (env : YN) (rt mc K nL : Nat) : YF := fun av S => match yex tab env rt (S.1 + mc) K tab (xlo av nL) [] S with
  | some (r, S') => bif Nat.beq S'.1 (S.1 + mc) && (Nat.ble (xargs av).length nL && yrok r) then some (r, S') else none
  | none => none
