/-! THE PURE PART: all that an object holds, on both sides -/
abbrev EV : Type := Nat × (Nat → Nat → Nat)
abbrev UN : Type := Nat × (Nat → SS)
abbrev SQ : Type := Nat × (Nat → Nat × Nat)
abbrev MK : Type := Nat → Bool × SS × SQ
abbrev TP : Type := Nat × (Nat → Nat)
abbrev AS : Type := HS × SS × EV × UN × MK × SQ × TP
def aH (A : AS) : HS := A.1
def aS (A : AS) : SS := A.2.1
def aE (A : AS) : EV := A.2.2.1
def aU (A : AS) : UN := A.2.2.2.1
def aM (A : AS) : MK := A.2.2.2.2.1
def aQ (A : AS) : SQ := A.2.2.2.2.2.1
def aT (A : AS) : TP := A.2.2.2.2.2.2
/-- words, as letters from 1 to 26, and as numbers -/
def vb (base : Nat) (w : List Nat) : Nat := w.foldl (fun a x => base * a + x) 0
def WV (w : List Nat) : Prop := 1 ≤ w.length ∧ w.length ≤ 8 ∧ ∀ x, x ∈ w → 1 ≤ x ∧ x ≤ 26
/-- the words that the language has, as the reference numbers them -/
def wd (k : Nat) : List Nat := match k with
  | 0 => [7, 21, 5, 19, 20]
  | 1 => [1, 20]
  | 2 => [3, 8, 9, 14]
  | 3 => [2, 18, 5, 1, 20, 8]
  | 4 => [23, 5, 9, 7, 8, 19]
  | 5 => [2, 5, 12, 20]
  | 6 => [2, 5, 1, 18, 19]
  | 7 => [13, 1, 14]
  | 8 => [18, 5, 1, 3, 8]
  | 9 => [8, 15, 12, 5, 19]
  | 10 => [23, 1, 20, 5, 18]
  | 11 => [18, 9, 19, 5, 19]
  | 12 => [13, 9, 14, 21, 20, 5]
  | 13 => [3, 1, 19, 20]
  | 14 => [1, 19, 11]
  | 15 => [19, 20, 15, 16]
  | 16 => [16, 12, 1, 9, 14]
  | 17 => [23, 1, 22, 5, 18]
  | 18 => [8, 5, 1, 22, 25]
  | 19 => [19, 8, 1, 2, 2, 25]
  | 20 => [14, 15, 20]
  | 21 => [1, 14, 4]
  | 22 => [15, 18]
  | 23 => [7, 1, 16, 19]
  | 24 => [4, 5, 16, 20, 8]
  | 25 => [20, 1, 12, 11]
  | _ => [15, 21, 20]
def cnt (h : HS) (t : Nat) : Nat := match t with | 0 => hG h | 1 => hB h | _ => hM h
-- the component
def CNm (h : HS) (i : Nat) (μ : XM) : Prop := (∀ g, g < hG h → aL μ 2 i 5 g = lN (vb 32 (hN h 0 g))) ∧ (∀ g, g < hB h → aL μ 2 i 11 g = lN (vb 32 (hN h 1 g))) ∧ ∀ g, g < hM h → aL μ 2 i 13 g = lN (vb 32 (hN h 2 g))
def CE (i : Nat) (e : EV) (μ : XM) : Prop := rI μ 1 i 0 = nI e.1 ∧ ∀ l, l < e.1 → aI μ 1 i 1 l = nI (144 + e.2 l 0) ∧ ((e.2 l 0 = 1 ∨ e.2 l 0 = 3) → aI μ 1 i 2 l = nI (e.2 l 1)) ∧ (e.2 l 0 = 1 → aI μ 1 i 3 l = nI (e.2 l 2) ∧ aI μ 1 i 4 l = nI (e.2 l 3))
def CU (h : HS) (u : UN) (μ : XM) : Prop := ∃ nx, nx < 16 ∧ rI μ 0 0 1 = nI nx ∧ rI μ 0 0 2 = nI u.1 ∧ ∀ i, i < u.1 → CS (2 + (nx + 16 - u.1 + i) % 16) h (u.2 i) μ
def CQ (i : Nat) (q : SQ) (μ : XM) : Prop := rI μ 9 i 0 = nI q.1 ∧ ∀ k, k < q.1 → aI μ 9 i 1 k = nI (q.2 k).1 ∧ aI μ 9 i 2 k = nI (q.2 k).2
def CM (h : HS) (mk : MK) (μ : XM) : Prop := ∀ j, j < 4 → rI μ 5 j 0 = b2 (mk j).1 ∧ ((mk j).1 = true → CS (18 + j) h (mk j).2.1 μ ∧ CQ (1 + j) (mk j).2.2 μ)
def CT (t : TP) (μ : XM) : Prop := rI μ 10 0 1 = nI t.1 ∧ ∀ k, k < t.1 → aI μ 10 0 0 k = nI (t.2 k)
def RC (A : AS) (μ : XM) : Prop := CH 0 (aH A) μ ∧ LC 0 (hC (aH A)) μ ∧ CNm (aH A) 0 μ ∧ CS 0 (aH A) (aS A) μ ∧ CE 0 (aE A) μ ∧ CU (aH A) (aU A) μ ∧ CM (aH A) (aM A) μ ∧ CQ 0 (aQ A) μ ∧ CT (aT A) μ
-- the reference
def RN (h : HS) (μ : XM) : Prop := ∃ (nm : Nat) (tk ik : Nat → Nat), nm ≤ 14 ∧ rI μ 12 0 18 = nI nm ∧ (∀ k, k < nm → tk k < 3 ∧ ik k < cnt h (tk k) ∧ aI μ 12 0 16 k = nI (20 * tk k + ik k) ∧ aL μ 12 0 14 k = lN (vb 37 (hN h (tk k) (ik k)))) ∧ ∀ t i, t < 3 → i < cnt h t → ∃ k, k < nm ∧ tk k = t ∧ ik k = i
def RE (e : EV) (μ : XM) : Prop := aI μ 12 0 21 0 = nI e.1 ∧ ∀ l, l < e.1 → aI μ 12 0 21 (1 + 4 * l) = nI (e.2 l 0) ∧ ((e.2 l 0 = 1 ∨ e.2 l 0 = 3) → aI μ 12 0 21 (1 + 4 * l + 1) = nI (e.2 l 1)) ∧ (e.2 l 0 = 1 → aI μ 12 0 21 (1 + 4 * l + 2) = nI (e.2 l 2) ∧ aI μ 12 0 21 (1 + 4 * l + 3) = nI (e.2 l 3))
def RU (h : HS) (u : UN) (μ : XM) : Prop := rI μ 12 0 25 = nI u.1 ∧ ∀ i, i < u.1 → RS (47 * (5 + i)) h (u.2 i) μ
def RQ (b : Nat) (q : SQ) (μ : XM) : Prop := aI μ 12 0 24 (b + 30) = nI q.1 ∧ ∀ k, k < q.1 → aI μ 12 0 24 (b + 31 + 2 * k) = nI (q.2 k).1 ∧ aI μ 12 0 24 (b + 31 + 2 * k + 1) = nI (q.2 k).2
def RMk (h : HS) (mk : MK) (μ : XM) : Prop := ∀ j, j < 4 → aI μ 12 0 26 j = b2 (mk j).1 ∧ ((mk j).1 = true → RS (47 * (1 + j)) h (mk j).2.1 μ ∧ RQ (47 * (1 + j)) (mk j).2.2 μ)
def RT (t : TP) (μ : XM) : Prop := rI μ 12 0 2 = nI t.1 ∧ ∀ k, k < t.1 → aI μ 12 0 1 k = nI (t.2 k)
def RW (μ : XM) : Prop := ∀ k, k < 27 → aL μ 12 0 9 k = lN (vb 37 (wd k))
def RM (A : AS) (μ : XM) : Prop := RH (aH A) μ ∧ RL (hC (aH A)) μ ∧ RN (aH A) μ ∧ RS 0 (aH A) (aS A) μ ∧ RE (aE A) μ ∧ RU (aH A) (aU A) μ ∧ RMk (aH A) (aM A) μ ∧ RQ 0 (aQ A) μ ∧ RT (aT A) μ ∧ RW μ
-- what holds
def QI (q : SQ) : Prop := q.1 ≤ 8 ∧ ∀ k, k < q.1 → (q.2 k).1 ≤ 60 ∧ 1 ≤ (q.2 k).2 ∧ (q.2 k).2 ≤ 20
def EI (h : HS) (e : EV) : Prop := e.1 ≤ 40 ∧ ∀ l, l < e.1 → e.2 l 0 ≤ 3 ∧ ((e.2 l 0 = 1 ∨ e.2 l 0 = 3) → e.2 l 1 < hM h) ∧ (e.2 l 0 = 1 → e.2 l 2 < hB h ∧ e.2 l 3 < hG h)
def NI (h : HS) : Prop := (∀ t i, t < 3 → i < cnt h t → WV (hN h t i)) ∧ ∀ t i t' i', t < 3 → i < cnt h t → t' < 3 → i' < cnt h t' → hN h t i = hN h t' i' → t = t' ∧ i = i'
def TI (t : TP) : Prop := t.1 ≤ 1000 ∧ ∀ k, k < t.1 → t.2 k = 10 ∨ (32 ≤ t.2 k ∧ t.2 k ≤ 126)
def AI (A : AS) : Prop := HI (aH A) ∧ LW (hC (aH A)) ∧ NI (aH A) ∧ SI (aH A) (aS A) ∧ EI (aH A) (aE A) ∧ ((aU A).1 ≤ 16 ∧ ∀ i, i < (aU A).1 → SI (aH A) ((aU A).2 i)) ∧ (∀ j, j < 4 → (aM A j).1 = true → SI (aH A) (aM A j).2.1 ∧ QI (aM A j).2.2) ∧ QI (aQ A) ∧ TI (aT A)
-- the frames
theorem CNm_ob {h : HS} {i : Nat} {μ ν : XM} (e : ν 2 i = μ 2 i) (hh : CNm h i μ) : CNm h i ν := by unfold CNm at *; simp only [aL_ob e]; exact hh
theorem CE_ob {i : Nat} {x : EV} {μ ν : XM} (e : ν 1 i = μ 1 i) (hh : CE i x μ) : CE i x ν := by unfold CE at *; simp only [rI_ob e, aI_ob e]; exact hh
theorem CQ_ob {i : Nat} {x : SQ} {μ ν : XM} (e : ν 9 i = μ 9 i) (hh : CQ i x μ) : CQ i x ν := by unfold CQ at *; simp only [rI_ob e, aI_ob e]; exact hh
theorem CT_ob {x : TP} {μ ν : XM} (e : ν 10 0 = μ 10 0) (hh : CT x μ) : CT x ν := by unfold CT at *; simp only [rI_ob e, aI_ob e]; exact hh
theorem CU_ob {h : HS} {u : UN} {μ ν : XM} (e : ν 0 0 = μ 0 0) (e2 : ∀ j, 2 ≤ j → j < 18 → ν 8 j = μ 8 j) (hh : CU h u μ) : CU h u ν := by
  obtain ⟨nx, h1, h2, h3, h4⟩ := hh
  refine ⟨nx, h1, by rw [rI_ob e]; exact h2, by rw [rI_ob e]; exact h3, fun i hi => CS_ob (e2 _ (by omega) (by omega)) (h4 i hi)⟩
theorem CM_ob {h : HS} {mk : MK} {μ ν : XM} (e : ∀ j, j < 4 → ν 5 j = μ 5 j) (e2 : ∀ j, j < 4 → ν 8 (18 + j) = μ 8 (18 + j)) (e3 : ∀ j, j < 4 → ν 9 (1 + j) = μ 9 (1 + j)) (hh : CM h mk μ) : CM h mk ν := by
  intro j hj
  obtain ⟨a, b⟩ := hh j hj
  refine ⟨by rw [rI_ob (e j hj)]; exact a, fun c => ⟨CS_ob (e2 j hj) (b c).1, CQ_ob (e3 j hj) (b c).2⟩⟩
/-- a question of the component: its working rows alone are other -/
def QC (μ ν : XM) : Prop := ∀ t j, ¬ (t = 8 ∧ j = 1) → ¬ (t = 4 ∧ j = 0) → t ≠ 6 → t ≠ 3 → ν t j = μ t j
theorem QC_r {μ : XM} : QC μ μ := fun _ _ _ _ _ _ => rfl
theorem QC_t {μ ν ξ : XM} (a : QC μ ν) (b : QC ν ξ) : QC μ ξ := fun t j h1 h2 h3 h4 => (b t j h1 h2 h3 h4).trans (a t j h1 h2 h3 h4)
theorem FrP_Q {μ ν : XM} (a : FrP 1 μ ν) : QC μ ν := fun t j h1 h2 _ _ => a t j h1 h2
theorem FrS_Q {μ ν : XM} (a : FrS 1 μ ν) : QC μ ν := fun t j h1 _ _ _ => a t j h1
theorem RC_q {A : AS} {μ ν : XM} (hR : RC A μ) (hQ : QC μ ν) (hL : LC 0 (hC (aH A)) ν) : RC A ν := by
  obtain ⟨r1, r2, r3, r4, r5, r6, r7, r8, r9⟩ := hR
  refine ⟨CH_ob (hQ 2 0 (by omega) (by omega) (by omega) (by omega)) r1, hL, CNm_ob (hQ 2 0 (by omega) (by omega) (by omega) (by omega)) r3, CS_ob (hQ 8 0 (by omega) (by omega) (by omega) (by omega)) r4, CE_ob (hQ 1 0 (by omega) (by omega) (by omega) (by omega)) r5, CU_ob (hQ 0 0 (by omega) (by omega) (by omega) (by omega)) (fun j h1 h2 => hQ 8 j (by omega) (by omega) (by omega) (by omega)) r6, CM_ob (fun j hj => hQ 5 j (by omega) (by omega) (by omega) (by omega)) (fun j hj => hQ 8 _ (by omega) (by omega) (by omega) (by omega)) (fun j hj => hQ 9 _ (by omega) (by omega) (by omega) (by omega)) r7, CQ_ob (hQ 9 0 (by omega) (by omega) (by omega) (by omega)) r8, CT_ob (hQ 10 0 (by omega) (by omega) (by omega) (by omega)) r9⟩
/-- what the component's calls leave alone -/
def Fr11 (μ ν : XM) : Prop := ∀ t j, 11 ≤ t → ν t j = μ t j
theorem QC_11 {μ ν : XM} (a : QC μ ν) : Fr11 μ ν := fun t j h => a t j (by omega) (by omega) (by omega) (by omega)
theorem Fr11_t {μ ν ξ : XM} (a : Fr11 μ ν) (b : Fr11 ν ξ) : Fr11 μ ξ := fun t j h => (b t j h).trans (a t j h)
def Fr12 (μ ν : XM) : Prop := ∀ t j, ¬ (t = 12 ∧ j = 0) → ν t j = μ t j
theorem Fr12_t {μ ν ξ : XM} (a : Fr12 μ ν) (b : Fr12 ν ξ) : Fr12 μ ξ := fun t j h => (b t j h).trans (a t j h)
/-- a question of the reference -/
def QM (μ ν : XM) : Prop :=
  Fr12 μ ν ∧ (∀ j, j ≠ 0 → j ≠ 31 → rI ν 12 0 j = rI μ 12 0 j) ∧
  (∀ j, j ≠ 22 → j ≠ 23 → j ≠ 24 → j ≠ 27 → j ≠ 28 → j ≠ 29 → j ≠ 30 → j ≠ 32 → aI ν 12 0 j = aI μ 12 0 j) ∧ (∀ j, aL ν 12 0 j = aL μ 12 0 j) ∧
  (∀ k, k < 987 → aI ν 12 0 24 k = aI μ 12 0 24 k)
theorem QM_r {μ : XM} : QM μ μ := ⟨fun _ _ _ => rfl, fun _ _ _ => rfl, fun _ _ _ _ _ _ _ _ _ => rfl, fun _ => rfl, fun _ _ => rfl⟩
theorem QM_t {μ ν ξ : XM} (a : QM μ ν) (c : QM ν ξ) : QM μ ξ :=
  ⟨Fr12_t a.1 c.1, fun j h1 h2 => (c.2.1 j h1 h2).trans (a.2.1 j h1 h2), fun j h1 h2 h3 h4 h5 h6 h7 h8 => (c.2.2.1 j h1 h2 h3 h4 h5 h6 h7 h8).trans (a.2.2.1 j h1 h2 h3 h4 h5 h6 h7 h8), fun j => (c.2.2.2.1 j).trans (a.2.2.2.1 j), fun k h => (c.2.2.2.2 k h).trans (a.2.2.2.2 k h)⟩
theorem FX_Q {lo hi : Nat} {μ ν : XM} (a : FX lo hi μ ν) (h : 987 ≤ lo) : QM μ ν :=
  ⟨a.1, fun j _ _ => a.2.1 j, fun j h1 h2 h3 _ _ _ _ _ => a.2.2.2.1 j h1 h2 h3, a.2.2.2.2.1, fun k hk => a.2.2.2.2.2 k (by omega)⟩
theorem QM_s {μ : XM} {j : Nat} {x : Int32} (h : j = 0 ∨ j = 31) : QM μ (sI μ 12 0 j x) := by
  refine ⟨fun t i hn => sI_ne hn, fun i h1 h2 => ?_, fun i _ _ _ _ _ _ _ _ => aI_sI _ _ _ _ _ _ _ _, fun i => aL_sI _ _ _ _ _ _ _ _, fun k _ => by rw [aI_sI]⟩
  have : ¬ i = j := by omega
  rw [rI_sI]; simp only [this, and_false, ↓reduceIte]
theorem QM_p {μ : XM} {o q : Nat} {x : Int32} (h : o = 22 ∨ o = 23 ∨ o = 27 ∨ o = 28 ∨ o = 29 ∨ o = 30 ∨ o = 32) : QM μ (pI μ 12 0 o q x) := by
  refine ⟨fun t i hn => pI_ne hn, fun i _ _ => rI_pI _ _ _ _ _ _ _ _ _, fun i h1 h2 h3 h4 h5 h6 h7 h8 => ?_, fun i => aL_pI _ _ _ _ _ _ _ _ _, fun k _ => ?_⟩
  · have : ¬ i = o := by omega
    rw [pI, aI_wI]; simp only [this, and_false, ↓reduceIte]
  · have : ¬ 24 = o := by omega
    rw [aI_pI]; simp only [this, false_and, and_false, ↓reduceIte]
theorem QM_L {μ : XM} {j : Nat} {x : Int64} : QM μ (sL μ 12 0 j x) :=
  ⟨fun t i hn => sL_ne hn, fun i _ _ => rI_sL _ _ _ _ _ _ _ _, fun i _ _ _ _ _ _ _ _ => aI_sL _ _ _ _ _ _ _ _, fun i => aL_sL _ _ _ _ _ _ _ _, fun k _ => by rw [aI_sL]⟩
theorem QM_a {μ ν : XM} (a : QM μ ν) {j : Nat} (h : j = 1 ∨ j = 10 ∨ j = 11 ∨ j = 12 ∨ j = 16 ∨ j = 21 ∨ j = 26) : aI ν 12 0 j = aI μ 12 0 j :=
  a.2.2.1 j (by omega) (by omega) (by omega) (by omega) (by omega) (by omega) (by omega) (by omega)
theorem RH_q {h : HS} {μ ν : XM} (a : QM μ ν) (r : RH h μ) : RH h ν := RH_ar (QM_a a (by omega)) r
theorem RL_q {l : List (Nat × Int32)} {μ ν : XM} (a : QM μ ν) (r : RL l μ) : RL l ν := RL_ar (QM_a a (by omega)) (QM_a a (by omega)) (QM_a a (by omega)) r
theorem RS_q {b : Nat} {h : HS} {s : SS} {μ ν : XM} (a : QM μ ν) (h6 : hG h ≤ 6) (h3 : hM h ≤ 3) (hb : b + 30 ≤ 987) (r : RS b h s μ) : RS b h s ν := RS_out h6 h3 (fun k h1 h2 => a.2.2.2.2 k (by omega)) r
theorem RQ_q {b : Nat} {q : SQ} {μ ν : XM} (f : ∀ k, b + 30 ≤ k → k < b + 47 → aI ν 12 0 24 k = aI μ 12 0 24 k) (hq : q.1 ≤ 8) (r : RQ b q μ) : RQ b q ν := by
  refine ⟨by rw [f _ (by omega) (by omega)]; exact r.1, fun k hk => ?_⟩
  rw [f _ (by omega) (by omega), f _ (by omega) (by omega)]
  exact r.2 k hk
theorem RM_q {A : AS} {μ ν : XM} (hI : AI A) (hR : RM A μ) (a : QM μ ν) : RM A ν := by
  obtain ⟨r1, r2, r3, r4, r5, r6, r7, r8, r9, r10⟩ := hR
  have h6 := RH_6 r1
  have h3 := RH_3 r1
  refine ⟨RH_q a r1, RL_q a r2, ?_, RS_q a h6 h3 (by omega) r4, ?_, ?_, ?_, ?_, ?_, ?_⟩
  · unfold RN at *; rw [a.2.1 18 (by omega) (by omega), QM_a a (j := 16) (by omega), a.2.2.2.1 14]; exact r3
  · unfold RE at *; rw [QM_a a (j := 21) (by omega)]; exact r5
  · refine ⟨by rw [a.2.1 25 (by omega) (by omega)]; exact r6.1, fun i hi => RS_q a h6 h3 ?_ (r6.2 i hi)⟩
    have := hI.2.2.2.2.2.1.1
    omega
  · intro j hj
    obtain ⟨c1, c2⟩ := r7 j hj
    refine ⟨by rw [QM_a a (j := 26) (by omega)]; exact c1, fun e => ⟨RS_q a h6 h3 (by omega) (c2 e).1, RQ_q (fun k h1 h2 => a.2.2.2.2 k (by omega)) (hI.2.2.2.2.2.2.1 j hj e).2.1 (c2 e).2⟩⟩
  · exact RQ_q (fun k h1 h2 => a.2.2.2.2 k (by omega)) hI.2.2.2.2.2.2.2.1.1 r8
  · unfold RT at *; rw [a.2.1 2 (by omega) (by omega), QM_a a (j := 1) (by omega)]; exact r9
  · unfold RW at *; rw [a.2.2.2.1 9]; exact r10
/-- each side by its own objects -/
theorem RM_ob {A : AS} {μ ν : XM} (e : ν 12 0 = μ 12 0) (hR : RM A μ) : RM A ν := by
  unfold RM RH RL RN RE RU RMk RT RW RQ RS at *
  simp only [rI_ob e, aI_ob e, aL_ob e]
  exact hR
theorem RC_ob {A : AS} {μ ν : XM} (e : ∀ t j, t ≤ 10 → ν t j = μ t j) (hR : RC A μ) : RC A ν := by
  obtain ⟨r1, r2, r3, r4, r5, r6, r7, r8, r9⟩ := hR
  exact ⟨CH_ob (e 2 0 (by omega)) r1, LC_ob (e 4 0 (by omega)) r2, CNm_ob (e 2 0 (by omega)) r3, CS_ob (e 8 0 (by omega)) r4, CE_ob (e 1 0 (by omega)) r5, CU_ob (e 0 0 (by omega)) (fun j _ _ => e 8 j (by omega)) r6, CM_ob (fun j _ => e 5 j (by omega)) (fun j _ => e 8 _ (by omega)) (fun j _ => e 9 _ (by omega)) r7, CQ_ob (e 9 0 (by omega)) r8, CT_ob (e 10 0 (by omega)) r9⟩
/-- what is asked of a call on both sides: the answer, and the state behind it -/
def OKc (A A' : AS) (μ : XM) (r : XR) (x : Int32) : Prop := ∃ ν, r = xri x ν ∧ RC A' ν ∧ Fr11 μ ν
def OKm (A A' : AS) (μ : XM) (r : XR) (x : Int32) : Prop := ∃ ν, r = xri x ν ∧ RM A' ν ∧ Fr12 μ ν
