/-! THE WORLD OF THE LAW'S LOOP -/
abbrev wlP (D : va_G) (cy : Nat → ClassId) (s : State) : YP := (D, cy, SA s)
def wlad (b : Nat) (adK : Nat → Nat) (ad : XQ → Nat) : XQ → Nat := fun q => if q = (13, 0, 1) then b else if q.1 = 15 then adK q.2.1 else ad q
theorem wlad_s {b : Nat} {adK : Nat → Nat} {ad : XQ → Nat} : wlad b adK ad (13, 0, 1) = b := if_pos rfl
theorem wlad_k {b : Nat} {adK : Nat → Nat} {ad : XQ → Nat} (k : Nat) : wlad b adK ad (15, k, 0) = adK k := by
  unfold wlad
  rw [if_neg (by simp), if_pos rfl]
theorem ynl_tag {q : XQ} (h : q ∈ ynl) : q.1 ≠ 13 ∧ q.1 ≠ 15 := by
  have h0 : ynl.all (fun q => !(Nat.beq q.1 13) && !(Nat.beq q.1 15)) = true := by decide +kernel
  have h1 := List.all_eq_true.mp h0 q h
  rw [Bool.and_eq_true] at h1
  refine ⟨fun e => ?_, fun e => ?_⟩
  · rw [e] at h1; exact absurd h1.1 (by decide)
  · rw [e] at h1; exact absurd h1.2 (by decide)
theorem wlad_y {b : Nat} {adK : Nat → Nat} {ad : XQ → Nat} {q : XQ} (h : q ∈ ynl) : wlad b adK ad q = ad q := by
  obtain ⟨h1, h2⟩ := ynl_tag h
  unfold wlad
  rw [if_neg (fun e => h1 (by rw [e])), if_neg h2]
def wlC (s : State) (b L : Nat) (xs : Nat → Int32) (adK adV : Nat → Nat) (fm : Option Nat) (U : State) (H : Heap) : Prop :=
  va_X b L xs U H ∧ FS (SA s) adK adV fm U H ∧ (∀ k q, xstrT[k]? = some q → vk_R q.1 q.2.1 q.2.2 (adK k) U) ∧ RsC (SA s) U H ∧ b < H.size
abbrev wlX (D : va_G) (cy : Nat → ClassId) (ad : XQ → Nat) (s : State) (b L : Nat) (xs : Nat → Int32) (adK adV : Nat → Nat) (fm : Option Nat) : XP := (D, cy, wlad b adK ad, SA s, wlC s b L xs adK adV fm, L, xs)
theorem wlC_moved {s : State} {b L : Nat} {xs : Nat → Int32} {adK adV : Nat → Nat} {fm : Option Nat} {u U : State} {H : Heap} (hv : u.WarmedH U.vm ∨ U.vm = u.vm) (h : wlC s b L xs adK adV fm u H) : wlC s b L xs adK adV fm U H := by
  have hal : u.vm.Alike U.vm := by
    rcases hv with hv | hv
    · exact hv.alike
    · rw [hv]; exact (State.WarmedH.refl u).alike
  refine ⟨va_X.moved hal h.1, FS_moved hal h.2.1, fun k q hq => ?_, RsC.moved hal h.2.2.2.1, h.2.2.2.2⟩
  rcases hv with hv | hv
  · exact vk_R.warm hv (h.2.2.1 k q hq)
  · exact vk_R.same hv (h.2.2.1 k q hq)
theorem wlC_kept {s : State} {b L : Nat} {xs : Nat → Int32} {adK adV : Nat → Nat} {fm : Option Nat} {U : State} {H H1 : Heap} (hb : b < s.heap.size) (hz : H.size ≤ H1.size) (hq : ∀ q : Nat, q < H.size → ¬ SA s q → H1[q]? = H[q]?) (h : wlC s b L xs adK adV fm U H) : wlC s b L xs adK adV fm U H1 :=
  ⟨h.1.kept (hq b h.2.2.2.2 (Nat.not_le.mpr hb)), FS_kept h.2.1 hq, h.2.2.1, h.2.2.2.1.kept hq, Nat.lt_of_lt_of_le h.2.2.2.2 hz⟩
section
variable {D : va_G} {cy : Nat → ClassId} {ad : XQ → Nat} {s : State} {b L : Nat} {xs : Nat → Int32} {adK adV : Nat → Nat} {fm : Option Nat} {S : YS} {H : Heap} {locs : List Loc}
theorem ytk_all (h : S.1 = 207) {q : XQ} (hq : q ∈ ynl) : q ∈ ynl.take S.1 := by
  rw [h, List.take_of_length_le (by rw [ynl_len]; exact Nat.le_refl _)]
  exact hq
theorem wlad_inj (h : S.1 = 207) (hD : va_D (SA s) (yws (yX (wlP D cy s) ad) S)) {q q' : XQ} (hq : q ∈ ynl) (hq' : q' ∈ ynl) (e : ad q = ad q') : q = q' := by
  obtain ⟨k, h1, h2⟩ := yws_pos (X := yX (wlP D cy s) ad) (S := S) (ytk_all h hq)
  obtain ⟨k', h1', h2'⟩ := yws_pos (X := yX (wlP D cy s) ad) (S := S) (ytk_all h hq')
  have e2 : k = k' := hD.1 k k' _ _ h2 h2' e
  subst e2
  exact Option.some.inj (h1.symm.trans h1')
theorem wlX_D (h : S.1 = 207) (hD : va_D (SA s) (yws (yX (wlP D cy s) ad) S)) (μ : XM) : va_D (SA s) (xws (wlX D cy ad s b L xs adK adV fm) μ) := by
  have hpos : ∀ (k : Nat) (p : Nat × va_E), (xws (wlX D cy ad s b L xs adK adV fm) μ)[k]? = some p → ∃ a, xdom[k]? = some a ∧ a ∈ ynl ∧ p.1 = ad a := by
    intro k p hp
    unfold xws at hp
    rw [List.getElem?_map] at hp
    obtain ⟨a, ha, rfl⟩ := Option.map_eq_some_iff.mp hp
    have hy := ynl_perm.2 a (List.mem_of_getElem? ha)
    exact ⟨a, ha, hy, wlad_y hy⟩
  refine ⟨fun i j p q hp hq e => ?_, fun k q hk => ?_⟩
  · obtain ⟨a, h1, h2, h3⟩ := hpos i p hp
    obtain ⟨a', h1', h2', h3'⟩ := hpos j q hq
    have e2 : a = a' := wlad_inj h hD h2 h2' (by rw [← h3, ← h3']; exact e)
    subst e2
    obtain ⟨b1, b2⟩ := List.getElem?_eq_some_iff.mp h1
    obtain ⟨c1, c2⟩ := List.getElem?_eq_some_iff.mp h1'
    exact (List.getElem_inj xdom_nodup).mp (b2.trans c2.symm)
  · obtain ⟨a, h1, h2, h3⟩ := hpos k q hk
    obtain ⟨k', g1, g2⟩ := yws_pos (X := yX (wlP D cy s) ad) (S := S) (ytk_all h h2)
    have h4 : SA s (ad a) := hD.2 k' _ g2
    rw [h3]
    exact h4
theorem wlX_S : SX (wlX D cy ad s b L xs adK adV fm) adK adV fm := ⟨fun U H h => h.2.1, fun i _ => wlad_k (b := b) (ad := ad) i, fun u U H hv h => wlC_moved hv h⟩
theorem wlX_ok (h : S.1 = 207) (hD : va_D (SA s) (yws (yX (wlP D cy s) ad) S)) (hb : b < s.heap.size) (hL : L ≤ 3584) : XOK (wlX D cy ad s b L xs adK adV fm) := by
  refine ⟨fun μ => wlX_D h hD μ, fun u U H hv h => wlC_moved hv h, fun U H H1 hz hq h => wlC_kept hb hz hq h, fun U H h => ?_, fun U H k hk h => ?_, fun U H k q h hq => ?_, ?_, fun l => cX_length wlX_S l, fun l => cX_charAt wlX_S l, fun l => cX_indexOf wlX_S l⟩
  · have e : xad (wlX D cy ad s b L xs adK adV fm) (13, 0, 1) = b := wlad_s (b := b) (adK := adK) (ad := ad)
    rw [e]
    exact ⟨h.1, Nat.not_le.mpr hb, h.2.2.2.2⟩
  · have e : xad (wlX D cy ad s b L xs adK adV fm) (15, k, 0) = adK k := wlad_k (b := b) (ad := ad) k
    obtain ⟨cell, h1, h2, h3, -⟩ := (h.2.1.1.1 k hk).1
    refine ⟨cell, ?_, h2, h3⟩
    rw [e]
    exact h1
  · have e : xad (wlX D cy ad s b L xs adK adV fm) (15, k, 0) = adK k := wlad_k (b := b) (ad := ad) k
    rw [e]
    exact h.2.2.1 k q hq
  · show L < 2 ^ 31
    omega
-- the cells
theorem arrV_eq {c : ClassId} {n : Nat} {f g : Nat → Value} (h : ∀ j, j < n → f j = g j) : arrV c n f = arrV c n g := by
  have e : (fun j : Fin n => f j.val) = fun j : Fin n => g j.val := funext fun j => h j.val j.isLt
  unfold arrV
  rw [e]
theorem wlfs {μ μ' : XM} {ρ : XQ → Nat → Bool} {t i : Nat} (hm : μ' t i = μ t i) (hr : yref1 ρ (t, i, 0) = true) (hin : ∀ b' f, ρ (t, i, 0) b' = true → (xlay t)[b']? = some (.inr f) → f i ∈ ynl) :
    xfs (wlX D cy ad s b L xs adK adV fm) μ' t i = yfs (yX (wlP D cy s) ad) μ ρ t i := by
  apply List.ext_getElem?
  intro j
  rw [yfs_get, xfs_get]
  cases hs : (xlay t)[j]? with
  | none => rfl
  | some sl =>
    simp only [Option.map_some]
    congr 1
    rcases sl with k | f
    · unfold ynul
      rw [hs]
      rcases k with _ | _ | k
      · exact congrArg Value.int (rI_ob hm _)
      · exact congrArg Value.long (rL_ob hm _)
      · exact congrArg Value.int (rI_ob hm _)
    · have h1 := yall_at (n := (xlay t).length) hr (List.getElem?_eq_some_iff.mp hs).1
      rw [hs] at h1
      unfold ynul
      rw [hs]
      have h2 : ρ (t, i, 0) j = true := h1
      show Value.ref (wlad b adK ad (f i)) = (bif ρ (t, i, 0) j then Value.ref (ad (f i)) else .null)
      rw [h2, wlad_y (hin j f h2 hs)]
      rfl
theorem wlae {μ μ' : XM} {ρ : XQ → Nat → Bool} {t i j : Nat} (hm : μ' t i = μ t i) (hr : yref1 ρ (t, i, j + 1) = true) (hin : ∀ k, ρ (t, i, j + 1) k = true → (xarr t j).1 = 4 ∨ (xarr t j).1 = 5 → xrow (xarr t j).1 k ∈ ynl) {a : Nat}
    (h : va_at D xcl (a, yae (yX (wlP D cy s) ad) μ ρ t i j) H) : va_at D xcl (a, xae (wlX D cy ad s b L xs adK adV fm) μ' t i j) H := by
  have eI : aI μ' t i j = aI μ t i j := aI_ob hm _
  have eL : aL μ' t i j = aL μ t i j := aL_ob hm _
  have hR : ∀ kd, (xarr t j).1 = kd → kd = 4 ∨ kd = 5 → ∀ k, k < (xarr t j).2 → va_rf (yrf (yX (wlP D cy s) ad) ρ (t, i, j + 1) kd k) = va_rf (some (wlad b adK ad (xrow kd k))) := by
    intro kd hkd h45 k hk
    have h1 : ρ (t, i, j + 1) k = true := by
      have h2 : (bif Nat.beq (xarr t j).1 4 || Nat.beq (xarr t j).1 5 then yall (xarr t j).2 (fun k => ρ (t, i, j + 1) k) else true) = true := hr
      have h3 : (Nat.beq (xarr t j).1 4 || Nat.beq (xarr t j).1 5) = true := by
        rw [hkd]
        rcases h45 with rfl | rfl <;> rfl
      rw [h3] at h2
      exact yall_at h2 hk
    unfold yrf
    rw [if_pos h1]
    have h4 := hin k h1 (by rw [hkd]; exact h45)
    rw [hkd] at h4
    rw [wlad_y h4]
  unfold yae at h
  unfold xae
  generalize hx : xarr t j = p at h hR ⊢
  obtain ⟨kd, n⟩ := p
  match kd, h, hR with
  | 0, h, _ => rw [eI]; exact h
  | 1, h, _ => rw [eL]; exact h
  | 2, h, _ => rw [eI]; exact h
  | 3, h, _ => rw [eI]; exact h
  | 4, h, hR => exact h.trans (congrArg some (arrV_eq (hR 4 rfl (.inl rfl))))
  | 5, h, hR => exact h.trans (congrArg some (arrV_eq (hR 5 rfl (.inr rfl))))
  | k + 6, h, _ => rw [eI]; exact h
theorem wlX_I (h : S.1 = 207) (hI : YI (wlP D cy s) ad s S H locs) (hr : ynl.all (yref1 S.2.2) = true) : XI (wlX D cy ad s b L xs adK adV fm) s (μS S L xs) H locs := by
  obtain ⟨hP, hD, hS, hV⟩ := hI
  refine ⟨fun k q hk => ?_, hS, μS_13.2, μS_13.1⟩
  unfold xws at hk
  rw [List.getElem?_map] at hk
  obtain ⟨a, ha, rfl⟩ := Option.map_eq_some_iff.mp hk
  have hy := ynl_perm.2 a (List.mem_of_getElem? ha)
  have hra := List.all_eq_true.mp hr a hy
  obtain ⟨k', g1, g2⟩ := yws_pos (X := yX (wlP D cy s) ad) (S := S) (ytk_all h hy)
  have h3 : va_at D xcl (ad a, ye (yX (wlP D cy s) ad) S.2.1 S.2.2 a) H := hP k' _ g2
  have e : xad (wlX D cy ad s b L xs adK adV fm) a = ad a := wlad_y hy
  rw [e]
  have h13 := (ynl_tag hy).1
  obtain ⟨t, i, j⟩ := a
  have hm : μS S L xs t i = S.2.1 t i := μS_n h13
  cases j with
  | zero =>
    show va_at D xcl (ad (t, i, 0), .inr (t, xfs (wlX D cy ad s b L xs adK adV fm) (μS S L xs) t i)) H
    rw [wlfs hm hra (fun b' f h1 h2 => ytk_in (hV.2.1 t i b' f h1 h2))]
    exact h3
  | succ j => exact wlae hm hra (fun k h1 h2 => ytk_in (hV.2.2.1 t i j k h1 h2)) h3
end
