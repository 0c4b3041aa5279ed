/-! THE MAKING: the world of what is made -/
abbrev YP : Type := va_G × (Nat → ClassId) × (Nat → Prop)
abbrev yX (P : YP) (ad : XQ → Nat) : XP := (P.1, P.2.1, ad, P.2.2, (fun _ _ => True), 0, (fun _ => 0))
def ynul (t j : Nat) (b : Bool) (v : Value) : Value := match (xlay t)[j]? with | some (.inr _) => (bif b then v else .null) | _ => v
def yfs (X : XP) (μ : XM) (ρ : XQ → Nat → Bool) (t i : Nat) : List Value := (xfs X μ t i).mapIdx (fun j v => ynul t j (ρ (t, i, 0) j) v)
def yrf (X : XP) (ρ : XQ → Nat → Bool) (q : XQ) (kd : Nat) : Nat → Option Nat := fun k => if ρ q k = true then some (xad X (xrow kd k)) else none
def yae (X : XP) (μ : XM) (ρ : XQ → Nat → Bool) (t i j : Nat) : va_E := match xarr t j with
  | (1, n) => .inl (xcy X 1, n, .inr (.inl (aL μ t i j)))
  | (4, n) => .inl (xcy X 4, n, .inr (.inr (.inr (.inr (yrf X ρ (t, i, j + 1) 4)))))
  | (5, n) => .inl (xcy X 5, n, .inr (.inr (.inr (.inr (yrf X ρ (t, i, j + 1) 5)))))
  | (kd, n) => .inl (xcy X kd, n, .inl (aI μ t i j))
def ye (X : XP) (μ : XM) (ρ : XQ → Nat → Bool) (q : XQ) : va_E := match q with
  | (t, i, 0) => .inr (t, yfs X μ ρ t i)
  | (t, i, j + 1) => yae X μ ρ t i j
def yws (X : XP) (S : YS) : va_W := (ynl.take S.1).map (fun q => (xad X q, ye X S.2.1 S.2.2 q))
def ytys (P : YP) : List (ClassId × FieldType) := [(P.2.1 0, .int), (P.2.1 1, .long), (P.2.1 2, .char), (P.2.1 3, .boolean), (P.2.1 4, .object xR8), (P.2.1 5, .object xR5)]
def ylv (n : Nat) (v : XV) : Prop := match v with | .inr (.inr (some q)) => q ∈ ynl.take n | _ => True
def YV (S : YS) : Prop :=
  S.1 ≤ ynl.length ∧
  (∀ t i b f, S.2.2 (t, i, 0) b = true → (xlay t)[b]? = some (.inr f) → f i ∈ ynl.take S.1) ∧
  (∀ t i j k, S.2.2 (t, i, j + 1) k = true → (xarr t j).1 = 4 ∨ (xarr t j).1 = 5 → xrow (xarr t j).1 k ∈ ynl.take S.1) ∧
  (∀ t i, (t, i, 0) ∈ ynl → (t, i, 0) ∉ ynl.take S.1 → (∀ k, S.2.2 (t, i, 0) k = false) ∧ ∀ j, rI S.2.1 t i j = 0 ∧ rL S.2.1 t i j = 0) ∧
  (∀ t i j, (t, i, j + 1) ∈ ynl → (t, i, j + 1) ∉ ynl.take S.1 → (∀ k, S.2.2 (t, i, j + 1) k = false) ∧ ∀ k, aI S.2.1 t i j k = 0 ∧ aL S.2.1 t i j k = 0)
theorem ynl_nodup : ynl.Nodup := by decide +kernel
theorem ynl_len : ynl.length = 207 := by decide +kernel
theorem ynl_perm : (∀ q ∈ ynl, q ∈ xdom) ∧ ∀ q ∈ xdom, q ∈ ynl := ⟨by decide +kernel, by decide +kernel⟩
theorem ytk_get {n k : Nat} {q : XQ} : (ynl.take n)[k]? = some q ↔ k < n ∧ ynl[k]? = some q := by
  rw [List.getElem?_take]
  by_cases h : k < n <;> simp [h]
theorem ytk_in {n : Nat} {q : XQ} (h : q ∈ ynl.take n) : q ∈ ynl := List.mem_of_mem_take h
theorem ytk_le {n m : Nat} (h : n ≤ m) {q : XQ} (hq : q ∈ ynl.take n) : q ∈ ynl.take m := by
  obtain ⟨k, hk⟩ := List.mem_iff_getElem?.mp hq
  obtain ⟨h1, h2⟩ := ytk_get.mp hk
  exact List.mem_of_getElem? (ytk_get.mpr ⟨Nat.lt_of_lt_of_le h1 h, h2⟩)
theorem ytk_no {n : Nat} {q : XQ} (h : ynl[n]? = some q) : q ∉ ynl.take n := by
  intro hq
  obtain ⟨k, hk⟩ := List.mem_iff_getElem?.mp hq
  obtain ⟨h1, h2⟩ := ytk_get.mp hk
  obtain ⟨a1, a2⟩ := List.getElem?_eq_some_iff.mp h
  obtain ⟨b1, b2⟩ := List.getElem?_eq_some_iff.mp h2
  have := (List.getElem_inj ynl_nodup).mp (a2.trans b2.symm)
  omega
theorem ytk_succ {n : Nat} {q : XQ} (h : ynl[n]? = some q) : ynl.take (n + 1) = ynl.take n ++ [q] := by rw [List.take_succ, h]; rfl
theorem ytk_new {n : Nat} {q : XQ} (h : ynl[n]? = some q) : q ∈ ynl.take (n + 1) := by rw [ytk_succ h]; exact List.mem_append_right _ List.mem_cons_self
theorem ytk_or {n : Nat} {q q' : XQ} (h : ynl[n]? = some q) (hq : q' ∈ ynl.take (n + 1)) : q' ∈ ynl.take n ∨ q' = q := by
  rw [ytk_succ h] at hq
  rcases List.mem_append.mp hq with hq | hq
  · exact .inl hq
  · exact .inr (List.mem_singleton.mp hq)
theorem ylv_ok {n : Nat} {v : XV} (h : ylv n v) : xok v := by
  rcases v with x | x | _ | q
  · trivial
  · trivial
  · trivial
  · exact .inl (ynl_perm.1 q (ytk_in h))
theorem ylv_le {n m : Nat} (h : n ≤ m) {v : XV} (hv : ylv n v) : ylv m v := by
  rcases v with x | x | _ | q
  · trivial
  · trivial
  · trivial
  · exact ytk_le h hv
theorem yws_get (X : XP) (S : YS) {k : Nat} {q : XQ} (h : (ynl.take S.1)[k]? = some q) : (yws X S)[k]? = some (xad X q, ye X S.2.1 S.2.2 q) := by
  unfold yws; rw [List.getElem?_map, h]; rfl
theorem yws_pos {X : XP} {S : YS} {q : XQ} (h : q ∈ ynl.take S.1) : ∃ k : Nat, (ynl.take S.1)[k]? = some q ∧ (yws X S)[k]? = some (xad X q, ye X S.2.1 S.2.2 q) := by
  obtain ⟨k, hk⟩ := List.mem_iff_getElem?.mp h
  exact ⟨k, hk, yws_get X S hk⟩
theorem yws_set (X : XP) {n : Nat} {μ μ' : XM} {ρ ρ' : XQ → Nat → Bool} {p : Nat} {q : XQ} (hp : (ynl.take n)[p]? = some q) {e : va_E} (he : ye X μ' ρ' q = e) (h1 : ∀ q' : XQ, q' ≠ q → ye X μ' ρ' q' = ye X μ ρ q') : (yws X (n, μ, ρ)).set p (xad X q, e) = yws X (n, μ', ρ') := by
  subst he
  apply List.ext_getElem?
  intro k
  by_cases hk : k = p
  · subst hk
    have hl : k < (yws X (n, μ, ρ)).length := (List.getElem?_eq_some_iff.mp (yws_get X (n, μ, ρ) hp)).1
    rw [List.getElem?_set_self hl, yws_get X (n, μ', ρ') hp]
  · rw [List.getElem?_set_ne (Ne.symm hk)]
    cases hq : (ynl.take n)[k]? with
    | none => unfold yws; rw [List.getElem?_map, List.getElem?_map, hq]; rfl
    | some q' =>
      rw [yws_get X (n, μ, ρ) hq, yws_get X (n, μ', ρ') hq]
      have hne : q' ≠ q := by
        intro h
        subst h
        obtain ⟨a1, a2⟩ := List.getElem?_eq_some_iff.mp (ytk_get.mp hq).2
        obtain ⟨b1, b2⟩ := List.getElem?_eq_some_iff.mp (ytk_get.mp hp).2
        exact hk ((List.getElem_inj ynl_nodup).mp (a2.trans b2.symm))
      rw [h1 q' hne]
-- what an address more changes
def yad (ad : XQ → Nat) (q : XQ) (a : Nat) : XQ → Nat := fun q' => if q' = q then a else ad q'
theorem yad_s {ad : XQ → Nat} {q : XQ} {a : Nat} : yad ad q a q = a := if_pos rfl
theorem yad_n {ad : XQ → Nat} {q q' : XQ} {a : Nat} (h : q' ≠ q) : yad ad q a q' = ad q' := if_neg h
theorem yfs_get (X : XP) (μ : XM) (ρ : XQ → Nat → Bool) (t i j : Nat) : (yfs X μ ρ t i)[j]? = ((xlay t)[j]?).map (fun s => ynul t j (ρ (t, i, 0) j) (xslot X μ t i j s)) := by
  unfold yfs
  rw [List.getElem?_mapIdx, xfs_get, Option.map_map]; rfl
theorem ye_ad {P : YP} {ad ad' : XQ → Nat} {μ : XM} {ρ : XQ → Nat → Bool} {q : XQ} (h1 : ∀ t i b f, q = (t, i, 0) → ρ (t, i, 0) b = true → (xlay t)[b]? = some (.inr f) → ad' (f i) = ad (f i))
    (h2 : ∀ t i j k, q = (t, i, j + 1) → ρ (t, i, j + 1) k = true → (xarr t j).1 = 4 ∨ (xarr t j).1 = 5 → ad' (xrow (xarr t j).1 k) = ad (xrow (xarr t j).1 k)) : ye (yX P ad') μ ρ q = ye (yX P ad) μ ρ q := by
  obtain ⟨t, i, k⟩ := q
  cases k with
  | zero =>
    show Sum.inr (t, yfs (yX P ad') μ ρ t i) = Sum.inr (t, yfs (yX P ad) μ ρ t i)
    congr 2
    apply List.ext_getElem?
    intro j
    rw [yfs_get, yfs_get]
    cases hs : (xlay t)[j]? with
    | none => rfl
    | some s =>
      simp only [Option.map_some]
      congr 1
      rcases s with k | f
      · unfold ynul; rw [hs]; rcases k with _ | _ | k <;> rfl
      · unfold ynul; rw [hs]
        cases hb : ρ (t, i, 0) j with
        | false => rfl
        | true => exact congrArg Value.ref (h1 t i j f rfl hb hs)
  | succ j =>
    show yae (yX P ad') μ ρ t i j = yae (yX P ad) μ ρ t i j
    have hr : ∀ kd, (xarr t j).1 = kd → kd = 4 ∨ kd = 5 → yrf (yX P ad') ρ (t, i, j + 1) kd = yrf (yX P ad) ρ (t, i, j + 1) kd := by
      intro kd hkd h45
      funext k
      unfold yrf
      by_cases hb : ρ (t, i, j + 1) k = true
      · rw [if_pos hb, if_pos hb]
        have := h2 t i j k rfl hb (by rw [hkd]; exact h45)
        rw [hkd] at this
        exact congrArg some this
      · rw [if_neg hb, if_neg hb]
    unfold yae
    split
    · rfl
    · rename_i n h; rw [hr 4 (by rw [h]) (.inl rfl)]
    · rename_i n h; rw [hr 5 (by rw [h]) (.inr rfl)]
    · rfl
theorem yws_ad {P : YP} {ad ad' : XQ → Nat} {S : YS} (hV : YV S) (h : ∀ q ∈ ynl.take S.1, ad' q = ad q) : yws (yX P ad') S = yws (yX P ad) S := by
  unfold yws
  apply List.map_congr_left
  intro q hq
  have e1 : xad (yX P ad') q = xad (yX P ad) q := h q hq
  rw [e1, ye_ad (fun t i b f _ hb hs => h _ (hV.2.1 t i b f hb hs)) (fun t i j k _ hb hk => h _ (hV.2.2.1 t i j k hb hk))]
theorem yws_push {P : YP} {ad : XQ → Nat} {S : YS} (hV : YV S) {q : XQ} {a : Nat} (hq : ynl[S.1]? = some q) : yws (yX P (yad ad q a)) (S.1 + 1, S.2) = yws (yX P ad) S ++ [(a, ye (yX P ad) S.2.1 S.2.2 q)] := by
  have hno := ytk_no hq
  have hag : ∀ q' ∈ ynl.take S.1, yad ad q a q' = ad q' := fun q' h => yad_n (fun e => hno (e ▸ h))
  have h1 : yws (yX P (yad ad q a)) (S.1 + 1, S.2) = yws (yX P (yad ad q a)) S ++ [(a, ye (yX P (yad ad q a)) S.2.1 S.2.2 q)] := by
    unfold yws
    rw [ytk_succ hq, List.map_append]
    simp only [List.map_cons, List.map_nil]
    rw [show xad (yX P (yad ad q a)) q = a from yad_s]
  rw [h1, yws_ad hV hag, ye_ad (fun t i b f _ hb hs => hag _ (hV.2.1 t i b f hb hs)) (fun t i j k _ hb hk => hag _ (hV.2.2.1 t i j k hb hk))]
-- values and locals
theorem xc_ad {P : YP} {ad ad' : XQ → Nat} {n : Nat} (h : ∀ q ∈ ynl.take n, ad' q = ad q) {v : XV} (hv : ylv n v) : xc (yX P ad') v = xc (yX P ad) v := by
  rcases v with x | x | _ | q
  · rfl
  · rfl
  · rfl
  · exact congrArg Value.ref (h q hv)
theorem xlv_ad {P : YP} {ad ad' : XQ → Nat} {n : Nat} (h : ∀ q ∈ ynl.take n, ad' q = ad q) : ∀ (L : XL) (k : Nat), (∀ v, some v ∈ L → ylv n v) → xlv (yX P ad') k L = xlv (yX P ad) k L := by
  intro L
  induction L with
  | nil => intro k _; rfl
  | cons a L ih =>
    intro k hL
    have h2 := ih (k + 1) (fun v hv => hL v (List.mem_cons_of_mem _ hv))
    cases a with
    | none => exact h2
    | some v =>
      show (k, xc (yX P ad') v) :: xlv (yX P ad') (k + 1) L = (k, xc (yX P ad) v) :: xlv (yX P ad) (k + 1) L
      rw [h2, xc_ad h (hL v List.mem_cons_self)]
theorem xmap_ad {P : YP} {ad ad' : XQ → Nat} {n : Nat} (h : ∀ q ∈ ynl.take n, ad' q = ad q) {st : List XV} (hs : ∀ v ∈ st, ylv n v) : st.map (xc (yX P ad')) = st.map (xc (yX P ad)) := List.map_congr_left (fun v hv => xc_ad h (hs v hv))
def yloc (P : YP) (ad : XQ → Nat) (n : Nat) (ls : Array Slot) (nL : Nat) (L : XL) : Prop := xloc (yX P ad) ls nL L ∧ ∀ v, some v ∈ L → ylv n v
theorem yloc_ad {P : YP} {ad ad' : XQ → Nat} {n m : Nat} (hn : n ≤ m) (h : ∀ q ∈ ynl.take n, ad' q = ad q) {ls : Array Slot} {nL : Nat} {L : XL} (hL : yloc P ad n ls nL L) : yloc P ad' m ls nL L :=
  ⟨⟨by rw [xlv_ad h L 0 hL.2]; exact hL.1.1, hL.1.2⟩, fun v hv => ylv_le hn (hL.2 v hv)⟩
-- how cells change
theorem yfs_len (X : XP) (μ : XM) (ρ : XQ → Nat → Bool) (t i : Nat) : (yfs X μ ρ t i).length = (xlay t).length := by simp [yfs, xfs]
theorem ye_sI (X : XP) (μ : XM) (ρ : XQ → Nat → Bool) (t i j : Nat) (x : Int32) (q : XQ) (h : q ≠ (t, i, 0)) : ye X (sI μ t i j x) ρ q = ye X μ ρ q := by
  obtain ⟨t', i', k⟩ := q
  cases k with
  | zero =>
    have h2 := xe_sI X μ t i j x (t', i', 0) h
    have h3 : xfs X (sI μ t i j x) t' i' = xfs X μ t' i' := by
      have : (Sum.inr (t', xfs X (sI μ t i j x) t' i') : va_E) = Sum.inr (t', xfs X μ t' i') := h2
      exact (Prod.mk.inj (Sum.inr.inj this)).2
    show Sum.inr (t', yfs X _ ρ t' i') = Sum.inr (t', yfs X _ ρ t' i')
    unfold yfs; rw [h3]
  | succ k => simp only [ye, yae, aI_sI, aL_sI]
theorem ye_wI (X : XP) (μ : XM) (ρ : XQ → Nat → Bool) (t i j : Nat) (f : Nat → Int32) (q : XQ) (h : q ≠ (t, i, j + 1)) : ye X (wI μ t i j f) ρ q = ye X μ ρ q := by
  obtain ⟨t', i', k⟩ := q
  cases k with
  | zero =>
    show Sum.inr (t', yfs X _ ρ t' i') = Sum.inr (t', yfs X _ ρ t' i')
    unfold yfs; rw [xfs_congr X μ _ (fun j' => by rw [rI_wI]) (fun j' => by rw [rL_wI])]
  | succ k =>
    have h2 : ¬ (t' = t ∧ i' = i ∧ k = j) := fun ⟨a, b, c⟩ => h (by rw [a, b, c])
    simp only [ye, yae, aI_wI, aL_wI, if_neg h2]
theorem ye_wL (X : XP) (μ : XM) (ρ : XQ → Nat → Bool) (t i j : Nat) (f : Nat → Int64) (q : XQ) (h : q ≠ (t, i, j + 1)) : ye X (wL μ t i j f) ρ q = ye X μ ρ q := by
  obtain ⟨t', i', k⟩ := q
  cases k with
  | zero =>
    show Sum.inr (t', yfs X _ ρ t' i') = Sum.inr (t', yfs X _ ρ t' i')
    unfold yfs; rw [xfs_congr X μ _ (fun j' => by rw [rI_wL]) (fun j' => by rw [rL_wL])]
  | succ k =>
    have h2 : ¬ (t' = t ∧ i' = i ∧ k = j) := fun ⟨a, b, c⟩ => h (by rw [a, b, c])
    simp only [ye, yae, aI_wL, aL_wL, if_neg h2]
theorem yrs_n {ρ : XQ → Nat → Bool} {q q' : XQ} {k : Nat} (h : q' ≠ q) : yrs ρ q k q' = ρ q' := by
  funext k'; unfold yrs; rw [if_neg (fun e => h e.1)]
theorem ye_rs (X : XP) (μ : XM) (ρ : XQ → Nat → Bool) (q0 : XQ) (k0 : Nat) (q : XQ) (h : q ≠ q0) : ye X μ (yrs ρ q0 k0) q = ye X μ ρ q := by
  obtain ⟨t', i', k⟩ := q
  cases k with
  | zero => simp only [ye, yfs, yrs_n h]
  | succ k =>
    have hr : ∀ kd, yrf X (yrs ρ q0 k0) (t', i', k + 1) kd = yrf X ρ (t', i', k + 1) kd := fun kd => by funext k'; unfold yrf; rw [yrs_n h]
    simp only [ye, yae, hr]
theorem yfs_sI (X : XP) (μ : XM) (ρ : XQ → Nat → Bool) (t i j : Nat) (x : Int32) {k : Nat} (hk : (xlay t)[j]? = some (.inl k)) (h1 : k ≠ 1) : yfs X (sI μ t i j x) ρ t i = (yfs X μ ρ t i).set j (.int x) := by
  unfold yfs
  rw [xfs_sI X μ t i j x hk h1]
  apply List.ext_getElem?
  intro j'
  rw [List.getElem?_mapIdx]
  by_cases hj : j' = j
  · subst hj
    have hl : j' < (xfs X μ t i).length := by
      have := (List.getElem?_eq_some_iff.mp hk).1
      simpa [xfs] using this
    rw [List.getElem?_set_self hl, List.getElem?_set_self (by simpa using hl)]
    simp only [Option.map_some, ynul, hk]
  · rw [List.getElem?_set_ne (Ne.symm hj), List.getElem?_set_ne (Ne.symm hj), List.getElem?_mapIdx]
theorem yfs_rs (X : XP) (μ : XM) (ρ : XQ → Nat → Bool) (t i j : Nat) {f : Nat → XQ} (hk : (xlay t)[j]? = some (.inr f)) : yfs X μ (yrs ρ (t, i, 0) j) t i = (yfs X μ ρ t i).set j (.ref (xad X (f i))) := by
  apply List.ext_getElem?
  intro j'
  rw [yfs_get]
  by_cases hj : j' = j
  · subst hj
    have hl : j' < (yfs X μ ρ t i).length := by rw [yfs_len]; exact (List.getElem?_eq_some_iff.mp hk).1
    rw [List.getElem?_set_self hl, hk]
    simp only [Option.map_some, ynul, hk, yrs, and_self, ↓reduceIte, cond_true]; rfl
  · rw [List.getElem?_set_ne (Ne.symm hj), yfs_get]
    simp only [yrs, hj, and_false, ↓reduceIte]
theorem yrf_rs (X : XP) (ρ : XQ → Nat → Bool) (q : XQ) (kd k : Nat) : yrf X (yrs ρ q k) q kd = va_up (yrf X ρ q kd) k (some (xad X (xrow kd k))) := by
  funext k'
  unfold yrf yrs va_up
  by_cases h : k' = k
  · simp [h]
  · simp [h]
theorem yae_i (X : XP) (μ : XM) (ρ : XQ → Nat → Bool) {t i j kd n : Nat} (h : xarr t j = (kd, n)) (hk : kd = 0 ∨ kd = 2 ∨ kd = 3) : ye X μ ρ (t, i, j + 1) = .inl (xcy X kd, n, .inl (aI μ t i j)) := by
  rcases hk with rfl | rfl | rfl <;> simp [ye, yae, h]
theorem yae_l (X : XP) (μ : XM) (ρ : XQ → Nat → Bool) {t i j n : Nat} (h : xarr t j = (1, n)) : ye X μ ρ (t, i, j + 1) = .inl (xcy X 1, n, .inr (.inl (aL μ t i j))) := by simp [ye, yae, h]
theorem yae_q (X : XP) (μ : XM) (ρ : XQ → Nat → Bool) {t i j kd n : Nat} (h : xarr t j = (kd, n)) (hk : kd = 4 ∨ kd = 5) : ye X μ ρ (t, i, j + 1) = .inl (xcy X kd, n, .inr (.inr (.inr (.inr (yrf X ρ (t, i, j + 1) kd))))) := by
  rcases hk with rfl | rfl <;> simp [ye, yae, h]
-- the invariant
theorem YV_push {S : YS} (hV : YV S) {q : XQ} (hq : ynl[S.1]? = some q) : YV (S.1 + 1, S.2) := by
  obtain ⟨h1, h2, h3, h4, h5⟩ := hV
  refine ⟨(List.getElem?_eq_some_iff.mp hq).1, fun t i b f hb hs => ytk_le (Nat.le_succ _) (h2 t i b f hb hs), fun t i j k hb hk => ytk_le (Nat.le_succ _) (h3 t i j k hb hk), fun t i hi hn => h4 t i hi (fun h => hn (ytk_le (Nat.le_succ _) h)), fun t i j hi hn => h5 t i j hi (fun h => hn (ytk_le (Nat.le_succ _) h))⟩
theorem YV_sI {n : Nat} {μ : XM} {ρ : XQ → Nat → Bool} (hV : YV (n, μ, ρ)) {t i j : Nat} {x : Int32} (hq : (t, i, 0) ∈ ynl.take n) : YV (n, sI μ t i j x, ρ) := by
  obtain ⟨h1, h2, h3, h4, h5⟩ := hV
  refine ⟨h1, h2, h3, fun t' i' hi hn => ⟨(h4 t' i' hi hn).1, fun j' => ?_⟩, fun t' i' j' hi hn => ⟨(h5 t' i' j' hi hn).1, fun k => ?_⟩⟩
  · rw [rI_sI, rL_sI, if_neg (fun e => hn (by rw [e.1, e.2.1]; exact hq))]; exact (h4 t' i' hi hn).2 j'
  · rw [aI_sI, aL_sI]; exact (h5 t' i' j' hi hn).2 k
theorem YV_wI {n : Nat} {μ : XM} {ρ : XQ → Nat → Bool} (hV : YV (n, μ, ρ)) {t i j : Nat} {f : Nat → Int32} (hq : (t, i, j + 1) ∈ ynl.take n) : YV (n, wI μ t i j f, ρ) := by
  obtain ⟨h1, h2, h3, h4, h5⟩ := hV
  refine ⟨h1, h2, h3, fun t' i' hi hn => ⟨(h4 t' i' hi hn).1, fun j' => ?_⟩, fun t' i' j' hi hn => ⟨(h5 t' i' j' hi hn).1, fun k => ?_⟩⟩
  · rw [rI_wI, rL_wI]; exact (h4 t' i' hi hn).2 j'
  · rw [aI_wI, aL_wI, if_neg (fun e => hn (by rw [e.1, e.2.1, e.2.2]; exact hq))]; exact (h5 t' i' j' hi hn).2 k
theorem YV_wL {n : Nat} {μ : XM} {ρ : XQ → Nat → Bool} (hV : YV (n, μ, ρ)) {t i j : Nat} {f : Nat → Int64} (hq : (t, i, j + 1) ∈ ynl.take n) : YV (n, wL μ t i j f, ρ) := by
  obtain ⟨h1, h2, h3, h4, h5⟩ := hV
  refine ⟨h1, h2, h3, fun t' i' hi hn => ⟨(h4 t' i' hi hn).1, fun j' => ?_⟩, fun t' i' j' hi hn => ⟨(h5 t' i' j' hi hn).1, fun k => ?_⟩⟩
  · rw [rI_wL, rL_wL]; exact (h4 t' i' hi hn).2 j'
  · rw [aI_wL, aL_wL, if_neg (fun e => hn (by rw [e.1, e.2.1, e.2.2]; exact hq))]; exact (h5 t' i' j' hi hn).2 k
theorem YV_rs0 {n : Nat} {μ : XM} {ρ : XQ → Nat → Bool} (hV : YV (n, μ, ρ)) {t i b : Nat} {f : Nat → XQ} (hs : (xlay t)[b]? = some (.inr f)) (hq : (t, i, 0) ∈ ynl.take n) (hv : f i ∈ ynl.take n) : YV (n, μ, yrs ρ (t, i, 0) b) := by
  obtain ⟨h1, h2, h3, h4, h5⟩ := hV
  refine ⟨h1, fun t' i' b' f' hb hs' => ?_, fun t' i' j' k hb hk => ?_, fun t' i' hi hn => ⟨fun k => ?_, (h4 t' i' hi hn).2⟩, fun t' i' j' hi hn => ⟨fun k => ?_, (h5 t' i' j' hi hn).2⟩⟩
  · dsimp only [yrs] at hb
    by_cases e : (t', i', 0) = ((t, i, 0) : XQ) ∧ b' = b
    · obtain ⟨e1, rfl⟩ := e
      simp only [Prod.mk.injEq] at e1
      obtain ⟨rfl, rfl, -⟩ := e1
      rw [hs] at hs'
      cases hs'
      exact hv
    · rw [if_neg e] at hb; exact h2 t' i' b' f' hb hs'
  · dsimp only [yrs] at hb
    rw [if_neg (fun e => by simp at e)] at hb; exact h3 t' i' j' k hb hk
  · dsimp only [yrs]
    rw [if_neg (fun e => hn (by rw [e.1]; exact hq))]; exact (h4 t' i' hi hn).1 k
  · dsimp only [yrs]
    rw [if_neg (fun e => by simp at e)]; exact (h5 t' i' j' hi hn).1 k
theorem YV_rs1 {n : Nat} {μ : XM} {ρ : XQ → Nat → Bool} (hV : YV (n, μ, ρ)) {t i j k : Nat} (hq : (t, i, j + 1) ∈ ynl.take n) (hv : xrow (xarr t j).1 k ∈ ynl.take n) : YV (n, μ, yrs ρ (t, i, j + 1) k) := by
  obtain ⟨h1, h2, h3, h4, h5⟩ := hV
  refine ⟨h1, fun t' i' b' f' hb hs' => ?_, fun t' i' j' k' hb hk => ?_, fun t' i' hi hn => ⟨fun k' => ?_, (h4 t' i' hi hn).2⟩, fun t' i' j' hi hn => ⟨fun k' => ?_, (h5 t' i' j' hi hn).2⟩⟩
  · dsimp only [yrs] at hb
    rw [if_neg (fun e => by simp at e)] at hb; exact h2 t' i' b' f' hb hs'
  · dsimp only [yrs] at hb
    by_cases e : (t', i', j' + 1) = ((t, i, j + 1) : XQ) ∧ k' = k
    · obtain ⟨e1, rfl⟩ := e
      simp only [Prod.mk.injEq, Nat.succ.injEq] at e1
      obtain ⟨rfl, rfl, e3⟩ := e1
      obtain rfl : j' = j := by omega
      exact hv
    · rw [if_neg e] at hb; exact h3 t' i' j' k' hb hk
  · dsimp only [yrs]
    rw [if_neg (fun e => by simp at e)]; exact (h4 t' i' hi hn).1 k'
  · dsimp only [yrs]
    rw [if_neg (fun e => hn (by rw [e.1]; exact hq))]; exact (h5 t' i' j' hi hn).1 k'
