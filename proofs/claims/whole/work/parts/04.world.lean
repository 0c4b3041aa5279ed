/-! THE WORLD: what the heap holds for a memory -/
abbrev XP : Type := va_G × (Nat → ClassId) × (XQ → Nat) × (Nat → Prop) × (State → Heap → Prop) × Nat × (Nat → Int32)
abbrev xD (X : XP) : va_G := X.1
abbrev xcy (X : XP) : Nat → ClassId := X.2.1
abbrev xad (X : XP) : XQ → Nat := X.2.2.1
abbrev xA (X : XP) : Nat → Prop := X.2.2.2.1
abbrev xC (X : XP) : State → Heap → Prop := X.2.2.2.2.1
abbrev xLn (X : XP) : Nat := X.2.2.2.2.2.1
abbrev xxs (X : XP) : Nat → Int32 := X.2.2.2.2.2.2
def xc (X : XP) (v : XV) : Value := match v with
  | .inl x => .int x
  | .inr (.inl x) => .long x
  | .inr (.inr none) => .null
  | .inr (.inr (some q)) => .ref (xad X q)
def xslot (X : XP) (μ : XM) (t i j : Nat) (s : Nat ⊕ (Nat → XQ)) : Value := match s with
  | .inl 1 => .long (rL μ t i j)
  | .inl _ => .int (rI μ t i j)
  | .inr f => .ref (xad X (f i))
def xfs (X : XP) (μ : XM) (t i : Nat) : List Value := (xlay t).mapIdx (fun j s => xslot X μ t i j s)
def xae (X : XP) (μ : XM) (t i j : Nat) : va_E := match xarr t j with
  | (1, n) => .inl (xcy X 1, n, .inr (.inl (aL μ t i j)))
  | (4, n) => .inl (xcy X 4, n, .inr (.inr (.inr (.inr (fun k => some (xad X (xrow 4 k)))))))
  | (5, n) => .inl (xcy X 5, n, .inr (.inr (.inr (.inr (fun k => some (xad X (xrow 5 k)))))))
  | (kd, n) => .inl (xcy X kd, n, .inl (aI μ t i j))
def xe (X : XP) (μ : XM) (q : XQ) : va_E := match q with
  | (t, i, 0) => .inr (t, xfs X μ t i)
  | (t, i, j + 1) => xae X μ t i j
def xws (X : XP) (μ : XM) : va_W := xdom.map (fun q => (xad X q, xe X μ q))
def xtys (X : XP) : List (ClassId × FieldType) := [(xcy X 0, .int), (xcy X 1, .long), (xcy X 2, .char), (xcy X 3, .boolean), (xcy X 4, .object xR8), (xcy X 5, .object xR5)]
theorem xdom_nodup : xdom.Nodup := by decide +kernel
theorem xpos {q : XQ} (h : q ∈ xdom) : ∃ p : Nat, xdom[p]? = some q := List.mem_iff_getElem?.mp h
theorem xws_get (X : XP) (μ : XM) {p : Nat} {q : XQ} (h : xdom[p]? = some q) : (xws X μ)[p]? = some (xad X q, xe X μ q) := by
  simp [xws, List.getElem?_map, h]
theorem xws_set (X : XP) (μ μ' : XM) {p : Nat} {q : XQ} (hp : xdom[p]? = some q) {e : va_E} (he : xe X μ' q = e) (h1 : ∀ q' : XQ, q' ≠ q → xe X μ' q' = xe X μ q') : (xws X μ).set p (xad X q, e) = xws X μ' := by
  subst he
  apply List.ext_getElem?
  intro k
  by_cases hk : k = p
  · subst hk
    have hl : k < (xws X μ).length := (List.getElem?_eq_some_iff.mp (xws_get X μ hp)).1
    rw [List.getElem?_set_self hl, xws_get X μ' hp]
  · rw [List.getElem?_set_ne (Ne.symm hk)]
    cases hq : xdom[k]? with
    | none => simp [xws, List.getElem?_map, hq]
    | some q' =>
      rw [xws_get X μ hq, xws_get X μ' hq]
      have hne : q' ≠ q := by
        intro h
        subst h
        obtain ⟨a1, a2⟩ := List.getElem?_eq_some_iff.mp hq
        obtain ⟨b1, b2⟩ := List.getElem?_eq_some_iff.mp hp
        exact hk ((List.getElem_inj xdom_nodup).mp (a2.trans b2.symm))
      rw [h1 q' hne]
-- readers behind writers
theorem xset_s (μ : XM) (t i : Nat) (o : XO) : xset μ t i o t i = o := by simp [xset]
theorem xset_n (μ : XM) (t i : Nat) (o : XO) {t' i' : Nat} (h : ¬ (t' = t ∧ i' = i)) : xset μ t i o t' i' = μ t' i' := by simp [xset, h]
theorem rI_sI (μ : XM) (t i j : Nat) (x : Int32) (t' i' j' : Nat) : rI (sI μ t i j x) t' i' j' = if t' = t ∧ i' = i ∧ j' = j then x else rI μ t' i' j' := by
  by_cases h : t' = t ∧ i' = i
  · obtain ⟨rfl, rfl⟩ := h
    by_cases hj : j' = j <;> simp [rI, sI, xset, va_up, hj]
  · have h2 : ¬ (t' = t ∧ i' = i ∧ j' = j) := fun q => h ⟨q.1, q.2.1⟩
    simp [rI, sI, xset, h, h2]
theorem rL_sL (μ : XM) (t i j : Nat) (x : Int64) (t' i' j' : Nat) : rL (sL μ t i j x) t' i' j' = if t' = t ∧ i' = i ∧ j' = j then x else rL μ t' i' j' := by
  by_cases h : t' = t ∧ i' = i
  · obtain ⟨rfl, rfl⟩ := h
    by_cases hj : j' = j <;> simp [rL, sL, xset, va_up, hj]
  · have h2 : ¬ (t' = t ∧ i' = i ∧ j' = j) := fun q => h ⟨q.1, q.2.1⟩
    simp [rL, sL, xset, h, h2]
theorem aI_wI (μ : XM) (t i j : Nat) (f : Nat → Int32) (t' i' j' : Nat) : aI (wI μ t i j f) t' i' j' = if t' = t ∧ i' = i ∧ j' = j then f else aI μ t' i' j' := by
  by_cases h : t' = t ∧ i' = i
  · obtain ⟨rfl, rfl⟩ := h
    by_cases hj : j' = j <;> simp [aI, wI, xset, va_up, hj]
  · have h2 : ¬ (t' = t ∧ i' = i ∧ j' = j) := fun q => h ⟨q.1, q.2.1⟩
    simp [aI, wI, xset, h, h2]
theorem aL_wL (μ : XM) (t i j : Nat) (f : Nat → Int64) (t' i' j' : Nat) : aL (wL μ t i j f) t' i' j' = if t' = t ∧ i' = i ∧ j' = j then f else aL μ t' i' j' := by
  by_cases h : t' = t ∧ i' = i
  · obtain ⟨rfl, rfl⟩ := h
    by_cases hj : j' = j <;> simp [aL, wL, xset, va_up, hj]
  · have h2 : ¬ (t' = t ∧ i' = i ∧ j' = j) := fun q => h ⟨q.1, q.2.1⟩
    simp [aL, wL, xset, h, h2]
theorem rI_sL (μ : XM) (t i j : Nat) (x : Int64) (t' i' j' : Nat) : rI (sL μ t i j x) t' i' j' = rI μ t' i' j' := by
  by_cases h : t' = t ∧ i' = i <;> simp [rI, sL, xset, h]
theorem rI_wI (μ : XM) (t i j : Nat) (f : Nat → Int32) (t' i' j' : Nat) : rI (wI μ t i j f) t' i' j' = rI μ t' i' j' := by
  by_cases h : t' = t ∧ i' = i <;> simp [rI, wI, xset, h]
theorem rI_wL (μ : XM) (t i j : Nat) (f : Nat → Int64) (t' i' j' : Nat) : rI (wL μ t i j f) t' i' j' = rI μ t' i' j' := by
  by_cases h : t' = t ∧ i' = i <;> simp [rI, wL, xset, h]
theorem rL_sI (μ : XM) (t i j : Nat) (x : Int32) (t' i' j' : Nat) : rL (sI μ t i j x) t' i' j' = rL μ t' i' j' := by
  by_cases h : t' = t ∧ i' = i <;> simp [rL, sI, xset, h]
theorem rL_wI (μ : XM) (t i j : Nat) (f : Nat → Int32) (t' i' j' : Nat) : rL (wI μ t i j f) t' i' j' = rL μ t' i' j' := by
  by_cases h : t' = t ∧ i' = i <;> simp [rL, wI, xset, h]
theorem rL_wL (μ : XM) (t i j : Nat) (f : Nat → Int64) (t' i' j' : Nat) : rL (wL μ t i j f) t' i' j' = rL μ t' i' j' := by
  by_cases h : t' = t ∧ i' = i <;> simp [rL, wL, xset, h]
theorem aI_sI (μ : XM) (t i j : Nat) (x : Int32) (t' i' j' : Nat) : aI (sI μ t i j x) t' i' j' = aI μ t' i' j' := by
  by_cases h : t' = t ∧ i' = i <;> simp [aI, sI, xset, h]
theorem aI_sL (μ : XM) (t i j : Nat) (x : Int64) (t' i' j' : Nat) : aI (sL μ t i j x) t' i' j' = aI μ t' i' j' := by
  by_cases h : t' = t ∧ i' = i <;> simp [aI, sL, xset, h]
theorem aI_wL (μ : XM) (t i j : Nat) (f : Nat → Int64) (t' i' j' : Nat) : aI (wL μ t i j f) t' i' j' = aI μ t' i' j' := by
  by_cases h : t' = t ∧ i' = i <;> simp [aI, wL, xset, h]
theorem aL_sI (μ : XM) (t i j : Nat) (x : Int32) (t' i' j' : Nat) : aL (sI μ t i j x) t' i' j' = aL μ t' i' j' := by
  by_cases h : t' = t ∧ i' = i <;> simp [aL, sI, xset, h]
theorem aL_sL (μ : XM) (t i j : Nat) (x : Int64) (t' i' j' : Nat) : aL (sL μ t i j x) t' i' j' = aL μ t' i' j' := by
  by_cases h : t' = t ∧ i' = i <;> simp [aL, sL, xset, h]
theorem aL_wI (μ : XM) (t i j : Nat) (f : Nat → Int32) (t' i' j' : Nat) : aL (wI μ t i j f) t' i' j' = aL μ t' i' j' := by
  by_cases h : t' = t ∧ i' = i <;> simp [aL, wI, xset, h]
-- a cell behind a writer
theorem xfs_get (X : XP) (μ : XM) (t i j : Nat) : (xfs X μ t i)[j]? = ((xlay t)[j]?).map (fun s => xslot X μ t i j s) := by
  simp [xfs, List.getElem?_mapIdx]
theorem xfs_congr (X : XP) (μ μ' : XM) {t i : Nat} (h1 : ∀ j, rI μ' t i j = rI μ t i j) (h2 : ∀ j, rL μ' t i j = rL μ t i j) : xfs X μ' t i = xfs X μ t i := by
  apply List.ext_getElem?
  intro j
  rw [xfs_get, xfs_get]
  congr 1
  funext s
  simp only [xslot, h1, h2]
theorem xe_sI (X : XP) (μ : XM) (t i j : Nat) (x : Int32) (q : XQ) (h : q ≠ (t, i, 0)) : xe X (sI μ t i j x) q = xe X μ q := by
  obtain ⟨t', i', k⟩ := q
  cases k with
  | zero =>
    have h2 : ¬ (t' = t ∧ i' = i) := fun ⟨a, b⟩ => h (by rw [a, b])
    show Sum.inr (t', xfs X _ t' i') = Sum.inr (t', xfs X _ t' i')
    rw [xfs_congr X μ _ (fun j' => by rw [rI_sI, if_neg (fun z => h2 ⟨z.1, z.2.1⟩)]) (fun j' => by rw [rL_sI])]
  | succ k => simp only [xe, xae, aI_sI, aL_sI]
theorem xe_sL (X : XP) (μ : XM) (t i j : Nat) (x : Int64) (q : XQ) (h : q ≠ (t, i, 0)) : xe X (sL μ t i j x) q = xe X μ q := by
  obtain ⟨t', i', k⟩ := q
  cases k with
  | zero =>
    have h2 : ¬ (t' = t ∧ i' = i) := fun ⟨a, b⟩ => h (by rw [a, b])
    show Sum.inr (t', xfs X _ t' i') = Sum.inr (t', xfs X _ t' i')
    rw [xfs_congr X μ _ (fun j' => by rw [rI_sL]) (fun j' => by rw [rL_sL, if_neg (fun z => h2 ⟨z.1, z.2.1⟩)])]
  | succ k => simp only [xe, xae, aI_sL, aL_sL]
theorem xe_wI (X : XP) (μ : XM) (t i j : Nat) (f : Nat → Int32) (q : XQ) (h : q ≠ (t, i, j + 1)) : xe X (wI μ t i j f) q = xe X μ q := by
  obtain ⟨t', i', k⟩ := q
  cases k with
  | zero =>
    show Sum.inr (t', xfs X _ t' i') = Sum.inr (t', xfs X _ t' i')
    rw [xfs_congr X μ _ (fun j' => by rw [rI_wI]) (fun j' => by rw [rL_wI])]
  | succ k =>
    have h2 : ¬ (t' = t ∧ i' = i ∧ k = j) := fun ⟨a, b, c⟩ => h (by rw [a, b, c])
    simp only [xe, xae, aI_wI, aL_wI, if_neg h2]
theorem xe_wL (X : XP) (μ : XM) (t i j : Nat) (f : Nat → Int64) (q : XQ) (h : q ≠ (t, i, j + 1)) : xe X (wL μ t i j f) q = xe X μ q := by
  obtain ⟨t', i', k⟩ := q
  cases k with
  | zero =>
    show Sum.inr (t', xfs X _ t' i') = Sum.inr (t', xfs X _ t' i')
    rw [xfs_congr X μ _ (fun j' => by rw [rI_wL]) (fun j' => by rw [rL_wL])]
  | succ k =>
    have h2 : ¬ (t' = t ∧ i' = i ∧ k = j) := fun ⟨a, b, c⟩ => h (by rw [a, b, c])
    simp only [xe, xae, aI_wL, aL_wL, if_neg h2]
theorem xfs_sI (X : XP) (μ : XM) (t i j : Nat) (x : Int32) {k : Nat} (hk : (xlay t)[j]? = some (.inl k)) (h1 : k ≠ 1) : xfs X (sI μ t i j x) t i = (xfs X μ t i).set j (.int x) := by
  apply List.ext_getElem?
  intro j'
  by_cases hj : j' = j
  · subst hj
    have hl : j' < (xfs X μ t i).length := by
      have := (List.getElem?_eq_some_iff.mp hk).1
      simpa [xfs] using this
    rw [List.getElem?_set_self hl, xfs_get, hk]
    simp only [Option.map_some, xslot]
    rcases k with _ | _ | k
    · simp [rI_sI]
    · exact absurd rfl h1
    · simp [rI_sI]
  · rw [List.getElem?_set_ne (Ne.symm hj), xfs_get, xfs_get]
    congr 1
    funext s
    simp [xslot, rI_sI, rL_sI, hj]
theorem xfs_sL (X : XP) (μ : XM) (t i j : Nat) (x : Int64) (hk : (xlay t)[j]? = some (.inl 1)) : xfs X (sL μ t i j x) t i = (xfs X μ t i).set j (.long x) := by
  apply List.ext_getElem?
  intro j'
  by_cases hj : j' = j
  · subst hj
    have hl : j' < (xfs X μ t i).length := by
      have := (List.getElem?_eq_some_iff.mp hk).1
      simpa [xfs] using this
    rw [List.getElem?_set_self hl, xfs_get, hk]
    simp [xslot, rL_sL]
  · rw [List.getElem?_set_ne (Ne.symm hj), xfs_get, xfs_get]
    congr 1
    funext s
    simp [xslot, rI_sL, rL_sL, hj]
