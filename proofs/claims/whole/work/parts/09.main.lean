/-! ONE ROW IS SOUND; a body is sound -/
theorem xdom_kd {t i j : Nat} (h : (t, i, j + 1) ∈ xdom) : (xarr t j).1 ≤ 5 := by
  have h0 : xdom.all (fun q => match q with | (t, _, j + 1) => decide ((xarr t j).1 ≤ 5) | _ => true) = true := by decide +kernel
  exact of_decide_eq_true (List.all_eq_true.mp h0 _ h)
theorem xok_obj {a i b : Nat} {sl : Nat ⊕ (Nat → XQ)} (h : xok (xr a i 0)) (hs : (xlay a)[b]? = some sl) : (a, i, 0) ∈ xdom := by
  have ho : (a, i, 0) ∈ xdom ∨ (a, i, 0) = (13, 0, 1) ∨ (a = 15 ∧ i < 2 ∧ 0 = 0) := h
  rcases ho with ho | ho | ⟨rfl, -, -⟩
  · exact ho
  · simp at ho
  · exact absurd (xlay_lt hs) (by omega)
theorem xok_arr {t i j kd n : Nat} (h : xok (xr t i (j + 1))) (hs : xarr t j = (kd, n)) (hk : kd ≠ 8) : (t, i, j + 1) ∈ xdom := by
  have ho : (t, i, j + 1) ∈ xdom ∨ (t, i, j + 1) = (13, 0, 1) ∨ (t = 15 ∧ i < 2 ∧ j + 1 = 0) := h
  rcases ho with ho | ho | ⟨-, -, z⟩
  · exact ho
  · simp only [Prod.mk.injEq] at ho
    obtain ⟨rfl, rfl, hj⟩ := ho
    obtain rfl : j = 0 := by omega
    have : xarr 13 0 = (8, 0) := rfl
    rw [this] at hs
    cases hs
    exact absurd rfl hk
  · omega
theorem xok_scr {t i j n : Nat} (h : xok (xr t i (j + 1))) (hs : xarr t j = (8, n)) : t = 13 ∧ i = 0 ∧ j = 0 := by
  have ho : (t, i, j + 1) ∈ xdom ∨ (t, i, j + 1) = (13, 0, 1) ∨ (t = 15 ∧ i < 2 ∧ j + 1 = 0) := h
  rcases ho with ho | ho | ⟨-, -, z⟩
  · have := xdom_kd ho
    rw [hs] at this
    exact absurd this (by show ¬ 8 ≤ 5; omega)
  · simp only [Prod.mk.injEq] at ho
    omega
  · omega
def xsv (μ : XM) (a i b : Nat) (sl : Nat ⊕ (Nat → XQ)) : XV := match sl with | .inl 1 => xl (rL μ a i b) | .inl _ => xi (rI μ a i b) | .inr f => .inr (.inr (some (f i)))
theorem xsv_c (X : XP) (μ : XM) (a i b : Nat) (sl : Nat ⊕ (Nat → XQ)) : xc X (xsv μ a i b sl) = xslot X μ a i b sl := by
  rcases sl with k | f
  · rcases k with _ | _ | k <;> rfl
  · rfl
theorem xgf_inv {μ : XM} {a b : Nat} {k : List XV → XR} {st : List XV} {o : Option XV × XM} (h : xgf μ a b k st = some o) : ∃ i st' sl, st = xr a i 0 :: st' ∧ (xlay a)[b]? = some sl ∧ k (xsv μ a i b sl :: st') = some o := by
  unfold xgf at h; split at h
  · replace h := cond_inv h; obtain ⟨ht, h⟩ := h
    replace ht := Nat.eq_of_beq_eq_true ht
    subst ht
    split at h
    · rename_i h1; exact ⟨_, _, _, rfl, h1, h⟩
    · rename_i k1 h2 h1
      refine ⟨_, _, _, rfl, h1, ?_⟩
      rcases k1 with _ | _ | k1
      · exact h
      · exact absurd rfl h2
      · exact h
    · rename_i h1; exact ⟨_, _, _, rfl, h1, h⟩
    · cases h
  · cases h
theorem xpf_inv {μ : XM} {a b : Nat} {k : List XV → XM → XR} {st : List XV} {o : Option XV × XM} (h : xpf μ a b k st = some o) :
    (∃ i st' kd x, st = xi x :: xr a i 0 :: st' ∧ (xlay a)[b]? = some (.inl kd) ∧ (kd = 0 ∨ (kd = 3 ∧ (x = 0 ∨ x = 1))) ∧ k st' (sI μ a i b x) = some o) ∨ (∃ i st' x, st = xl x :: xr a i 0 :: st' ∧ (xlay a)[b]? = some (.inl 1) ∧ k st' (sL μ a i b x) = some o) := by
  unfold xpf at h; split at h
  · replace h := cond_inv h; obtain ⟨ht, h⟩ := h
    replace ht := Nat.eq_of_beq_eq_true ht
    subst ht
    split at h
    · rename_i h1; rw [mS_eq] at h; exact Or.inl ⟨_, _, _, _, rfl, h1, Or.inl rfl, h⟩
    · rename_i h1; rw [mS_eq] at h; exact Or.inr ⟨_, _, _, rfl, h1, h⟩
    · rename_i h1
      replace h := xck_inv h; obtain ⟨hb, h⟩ := h
      rw [mS_eq] at h
      exact Or.inl ⟨_, _, _, _, rfl, h1, Or.inr ⟨rfl, xbl_or hb⟩, h⟩
    · cases h
  · cases h
theorem xal_inv {μ : XM} {k : List XV → XR} {st : List XV} {o : Option XV × XM} (h : xal μ k st = some o) : ∃ t i j st', st = xr t i (j + 1) :: st' ∧ ((∃ n, xarr t j = (8, n) ∧ k (xi (rI μ t i j) :: st') = some o) ∨ (∃ kd n, xarr t j = (kd, n) ∧ kd ≠ 8 ∧ k (xi (nI n) :: st') = some o)) := by
  unfold xal at h; split at h
  · refine ⟨_, _, _, _, rfl, ?_⟩
    split at h
    · rename_i h1; exact Or.inl ⟨_, h1, h⟩
    · cases h
    · rename_i kd n h2 h3 h1
      exact Or.inr ⟨_, _, h1, fun z => h2 z, h⟩
  · cases h
theorem xga_inv {μ : XM} {kind : Nat} {k : List XV → XR} {st : List XV} {o : Option XV × XM} (h : xga μ kind k st = some o) : ∃ x t i j st', st = xi x :: xr t i (j + 1) :: st' ∧ k (xi (aI μ t i j x.toNatClampNeg) :: st') = some o ∧ ((∃ n, xarr t j = (8, n) ∧ kind = 0 ∧ xin x (rI μ t i j).toNatClampNeg = true) ∨ (∃ n, xarr t j = (kind, n) ∧ kind ≠ 8 ∧ xin x n = true)) := by
  unfold xga at h; split at h
  · refine ⟨_, _, _, _, _, rfl, ?_⟩
    split at h
    · rename_i h1
      replace h := cond_inv h; obtain ⟨hb, h⟩ := h
      replace h := xck_inv h; obtain ⟨hb2, h⟩ := h
      exact ⟨h, Or.inl ⟨_, h1, Nat.eq_of_beq_eq_true hb, hb2⟩⟩
    · rename_i kd n h2 h1
      replace h := cond_inv h; obtain ⟨hb, h⟩ := h
      replace h := xck_inv h; obtain ⟨hb2, h⟩ := h
      replace hb := Nat.eq_of_beq_eq_true hb
      subst hb
      exact ⟨h, Or.inr ⟨_, h1, fun z => h2 z, hb2⟩⟩
  · cases h
theorem xgl_inv {μ : XM} {k : List XV → XR} {st : List XV} {o : Option XV × XM} (h : xgl μ k st = some o) : ∃ x t i j st' n, st = xi x :: xr t i (j + 1) :: st' ∧ xarr t j = (1, n) ∧ xin x n = true ∧ k (xl (aL μ t i j x.toNatClampNeg) :: st') = some o := by
  unfold xgl at h; split at h
  · split at h
    rename_i h1
    replace h := cond_inv h; obtain ⟨hb, h⟩ := h
    replace h := xck_inv h; obtain ⟨hb2, h⟩ := h
    replace hb := Nat.eq_of_beq_eq_true hb
    subst hb
    exact ⟨_, _, _, _, _, _, rfl, h1, hb2, h⟩
  · cases h
theorem xgr_inv {k : List XV → XR} {st : List XV} {o : Option XV × XM} (h : xgr k st = some o) : ∃ x t i j st' kd n, st = xi x :: xr t i (j + 1) :: st' ∧ xarr t j = (kd, n) ∧ (kd = 4 ∨ kd = 5) ∧ xin x n = true ∧ k (.inr (.inr (some (xrow kd x.toNatClampNeg))) :: st') = some o := by
  unfold xgr at h; split at h
  · split at h
    rename_i h1
    replace h := cond_inv h; obtain ⟨hb, h⟩ := h
    replace h := xck_inv h; obtain ⟨hb2, h⟩ := h
    rw [Bool.or_eq_true] at hb
    exact ⟨_, _, _, _, _, _, _, rfl, h1, hb.imp Nat.eq_of_beq_eq_true Nat.eq_of_beq_eq_true, hb2, h⟩
  · cases h
theorem xpa_inv {μ : XM} {kind : Nat} {f : Int32 → Int32} {ok : Int32 → Bool} {k : List XV → XM → XR} {st : List XV} {o : Option XV × XM} (h : xpa μ kind f ok k st = some o) : ∃ v x t i j st' n, st = xi v :: xi x :: xr t i (j + 1) :: st' ∧ xarr t j = (kind, n) ∧ xin x n = true ∧ ok v = true ∧ k st' (pI μ t i j x.toNatClampNeg (f v)) = some o := by
  unfold xpa at h; split at h
  · split at h
    rename_i h1
    replace h := cond_inv h; obtain ⟨hb, h⟩ := h
    replace h := xck_inv h; obtain ⟨hb2, h⟩ := h
    replace hb := Nat.eq_of_beq_eq_true hb
    subst hb
    rw [Bool.and_eq_true] at hb2
    rw [mS_eq] at h
    exact ⟨_, _, _, _, _, _, _, rfl, h1, hb2.1, hb2.2, h⟩
  · cases h
theorem xpl_inv {μ : XM} {k : List XV → XM → XR} {st : List XV} {o : Option XV × XM} (h : xpl μ k st = some o) : ∃ v x t i j st' n, st = xl v :: xi x :: xr t i (j + 1) :: st' ∧ xarr t j = (1, n) ∧ xin x n = true ∧ k st' (pL μ t i j x.toNatClampNeg v) = some o := by
  unfold xpl at h; split at h
  · split at h
    rename_i h1
    replace h := cond_inv h; obtain ⟨hb, h⟩ := h
    replace h := xck_inv h; obtain ⟨hb2, h⟩ := h
    replace hb := Nat.eq_of_beq_eq_true hb
    subst hb
    rw [mS_eq] at h
    exact ⟨_, _, _, _, _, _, _, rfl, h1, hb2, h⟩
  · cases h
theorem xcp_inv {μ : XM} {k : List XV → XM → XR} {st : List XV} {o : Option XV × XM} (h : xcp μ k st = some o) : ∃ n dp t1 i1 j1 sp t0 i0 j0 st' n0 n1, st = xi n :: xi dp :: xr t1 i1 (j1 + 1) :: xi sp :: xr t0 i0 (j0 + 1) :: st' ∧ xcpok sp dp n n0 n1 = true ∧
    ((xarr t0 j0 = (0, n0) ∧ xarr t1 j1 = (0, n1) ∧ k st' (wI μ t1 i1 j1 (va_cpy (aI μ t0 i0 j0) (aI μ t1 i1 j1) sp.toNatClampNeg dp.toNatClampNeg n.toNatClampNeg)) = some o) ∨ (xarr t0 j0 = (1, n0) ∧ xarr t1 j1 = (1, n1) ∧ k st' (wL μ t1 i1 j1 (va_cpy (aL μ t0 i0 j0) (aL μ t1 i1 j1) sp.toNatClampNeg dp.toNatClampNeg n.toNatClampNeg)) = some o)) := by
  unfold xcp at h; split at h
  · split at h
    · rename_i h1 h2
      replace h := xck_inv h; obtain ⟨hb, h⟩ := h
      rw [mS_eq] at h
      exact ⟨_, _, _, _, _, _, _, _, _, _, _, _, rfl, hb, Or.inl ⟨h1, h2, h⟩⟩
    · rename_i h1 h2
      replace h := xck_inv h; obtain ⟨hb, h⟩ := h
      rw [mS_eq] at h
      exact ⟨_, _, _, _, _, _, _, _, _, _, _, _, rfl, hb, Or.inr ⟨h1, h2, h⟩⟩
    · cases h
  · cases h
theorem xca_inv {env : XN} {idx a tg : Nat} {μ : XM} {as rest : List XV} {k : List XV → XM → XR} {o : Option XV × XM} (h : xca env idx a tg μ as rest k = some o) : xsum rest ≤ 8 ∧ ∃ rk F r μ', (idx, rk, a, tg, F) ∈ env ∧ F as μ = some (r, μ') ∧ (∀ q, r ≠ some (.inr (.inr q))) ∧ k (r.toList ++ rest) μ' = some o := by
  unfold xca at h
  replace h := cond_inv h; obtain ⟨hb, h⟩ := h
  refine ⟨Nat.le_of_ble_eq_true hb, ?_⟩
  split at h
  · rename_i rk na tg' F hf
    replace h := cond_inv h; obtain ⟨hb2, h⟩ := h
    rw [Bool.and_eq_true] at hb2
    have e1 := Nat.eq_of_beq_eq_true hb2.1
    have e2 := Nat.eq_of_beq_eq_true hb2.2
    subst e1; subst e2
    have hm := xfind_mem hf
    split at h
    · unfold bV at h; split at h
      · rename_i he; exact ⟨_, _, _, _, hm, he, (fun q z => by cases z), h⟩
      · cases h
    · unfold bI at h; split at h
      · rename_i he; exact ⟨_, _, _, _, hm, he, (fun q z => by cases z), h⟩
      · cases h
    · unfold bL at h; split at h
      · rename_i he; exact ⟨_, _, _, _, hm, he, (fun q z => by cases z), h⟩
      · cases h
    · cases h
  · cases h
def xbd (capc caps ac as w cells slots : Nat) : Prop := cells + w * ac ≤ capc ∧ slots + w * as ≤ caps
theorem xbd_dec {capc caps ac as w cells slots : Nat} (h : xbd capc caps ac as (w + 1) cells slots) : xbd capc caps ac as w cells slots := by
  obtain ⟨h1, h2⟩ := h
  rw [Nat.succ_mul] at h1 h2
  exact ⟨by omega, by omega⟩
theorem xbd_call {capc caps ac as w cells slots mc ms : Nat} (h : xbd capc caps ac as (w + 1) cells slots) (h3 : mc ≤ ac) (h4 : ms ≤ as) : xbd capc caps ac as w (cells + mc) (slots + ms) := by
  obtain ⟨h1, h2⟩ := h
  rw [Nat.succ_mul] at h1 h2
  exact ⟨by omega, by omega⟩
theorem xbd_now {capc caps ac as w cells slots : Nat} (h : xbd capc caps ac as (w + 1) cells slots) : cells + ac ≤ capc ∧ slots + as ≤ caps := by
  obtain ⟨h1, h2⟩ := h
  rw [Nat.succ_mul] at h1 h2
  exact ⟨by omega, by omega⟩
theorem xbd_le {capc caps ac as w w' cells slots : Nat} (h : xbd capc caps ac as w cells slots) (hw : w' ≤ w) : xbd capc caps ac as w' cells slots :=
  ⟨Nat.le_trans (Nat.add_le_add_left (Nat.mul_le_mul_right _ hw) _) h.1, Nat.le_trans (Nat.add_le_add_left (Nat.mul_le_mul_right _ hw) _) h.2⟩
theorem xbd_0 {capc caps ac as w cells slots : Nat} (h : xbd capc caps ac as w cells slots) : cells ≤ capc ∧ slots ≤ caps :=
  ⟨Nat.le_trans (Nat.le_add_right _ _) h.1, Nat.le_trans (Nat.le_add_right _ _) h.2⟩
theorem okc {v : XV} {st : List XV} (h : xok v) (hs : ∀ w ∈ st, xok w) : ∀ w ∈ v :: st, xok w := List.forall_mem_cons.mpr ⟨h, hs⟩
theorem okt {v : XV} {st : List XV} (hs : ∀ w ∈ v :: st, xok w) : ∀ w ∈ st, xok w := (List.forall_mem_cons.mp hs).2
theorem okh {v : XV} {st : List XV} (hs : ∀ w ∈ v :: st, xok w) : xok v := (List.forall_mem_cons.mp hs).1
/-- a method's ends -/
def XFin (p : Program) (l : Launch) (e : Env) (R : Room) (s : State) (m : MethodId) (args : Array Value) (below : List Frame) (meth : Method) (c : Code) (Z : State → Prop) (cc : ByteArray) (X : XP) (nw : Bool) (rt capc caps : Nat) (r : Option XV) (μr : XM) : Prop :=
  ∀ (H : Heap) (locs : List Loc) (cells slots pc : Nat) (ls : Array Slot), ls.size = c.maxLocals → XI X s μr H locs → cells ≤ capc → slots ≤ caps →
    (rt = 0 → r = none → decode cc pc = .ok (.return_, 1) → W p l e R s m args below meth c H locs cells slots Z (F0 m pc ls [])) ∧
    (∀ x, r = some (xi x) → (rt = 1 ∨ (rt = 2 ∧ (x = 0 ∨ x = 1)) ∨ (rt = 3 ∧ vp_nar .char x = x)) → decode cc pc = .ok (.ireturn, 1) → W p l e R s m args below meth c H locs cells slots Z (F0 m pc ls [.int x])) ∧
    (∀ x, rt = 4 → r = some (xl x) → decode cc pc = .ok (.lreturn, 1) → W p l e R s m args below meth c H locs cells slots Z (F0 m pc ls [.long x])) ∧
    (∀ idx, nw = true → r = some (xr 99 0 0) → decode cc pc = .ok (.new idx, 3) → W p l e R s m args below meth c H locs cells slots Z (F0 m pc ls []))
