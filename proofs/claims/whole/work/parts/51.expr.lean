/-! THE PURE PART: the E of rises, read on both sides -/
/-- only the tape and the draft's law are other -/
def FE (μ ν : XM) : Prop := ∀ t j, ¬ (t = 10 ∧ j = 0) → ¬ (t = 4 ∧ j = 1) → ν t j = μ t j
theorem FE_r {μ : XM} : FE μ μ := fun _ _ _ _ => rfl
theorem FE_t {μ ν ξ : XM} (a : FE μ ν) (b : FE ν ξ) : FE μ ξ := fun t j h h2 => (b t j h h2).trans (a t j h h2)
theorem FTp_E {μ ν : XM} (a : FTp μ ν) : FE μ ν := fun t j h _ => a t j h
theorem F41_E {μ ν : XM} (a : ∀ t j, ¬ (t = 4 ∧ j = 1) → ν t j = μ t j) : FE μ ν := fun t j _ h => a t j h
/-- only the token, the fault and the codes are other -/
def FZ (μ ν : XM) : Prop := Fr12 μ ν ∧ (∀ j, j ≠ 7 → j ≠ 8 → j ≠ 13 → rI ν 12 0 j = rI μ 12 0 j) ∧ (∀ j, j ≠ 11 → j ≠ 12 → aI ν 12 0 j = aI μ 12 0 j) ∧ (∀ j, aL ν 12 0 j = aL μ 12 0 j) ∧ ∀ k, k < 1100 → aI ν 12 0 11 k = aI μ 12 0 11 k ∧ aI ν 12 0 12 k = aI μ 12 0 12 k
theorem FZ_r {μ : XM} : FZ μ μ := ⟨fun _ _ _ => rfl, fun _ _ _ _ => rfl, fun _ _ _ => rfl, fun _ => rfl, fun _ _ => ⟨rfl, rfl⟩⟩
theorem FZ_t {μ ν ξ : XM} (a : FZ μ ν) (b : FZ ν ξ) : FZ μ ξ := ⟨Fr12_t a.1 b.1, fun j h1 h2 h3 => (b.2.1 j h1 h2 h3).trans (a.2.1 j h1 h2 h3), fun j h1 h2 => (b.2.2.1 j h1 h2).trans (a.2.2.1 j h1 h2), fun j => (b.2.2.2.1 j).trans (a.2.2.2.1 j), fun k h => ⟨(b.2.2.2.2 k h).1.trans (a.2.2.2.2 k h).1, (b.2.2.2.2 k h).2.trans (a.2.2.2.2 k h).2⟩⟩
theorem FZ_R {μ ν : XM} (a : FZ μ ν) : FR μ ν := ⟨a.1, fun j h1 h2 h3 _ _ => a.2.1 j h1 h2 h3, fun j _ h1 h2 _ _ => a.2.2.1 j h1 h2, fun j _ => a.2.2.2.1 j, fun k _ => by rw [a.2.2.1 10 (by decide) (by decide)], a.2.2.2.2, fun k _ => by rw [a.2.2.1 21 (by decide) (by decide)]⟩
theorem FZ_s {μ : XM} {j : Nat} {x : Int32} (h : j = 7 ∨ j = 8 ∨ j = 13) : FZ μ (sI μ 12 0 j x) := by
  refine ⟨fun t i hn => sI_ne hn, fun k h1 h2 h3 => ?_, fun k _ _ => aI_sI _ _ _ _ _ _ _ _, fun k => aL_sI _ _ _ _ _ _ _ _, fun k _ => by rw [aI_sI, aI_sI]; exact ⟨rfl, rfl⟩⟩
  have : ¬ k = j := by omega
  rw [rI_sI]; simp only [this, and_false, ↓reduceIte]
theorem FZ_p {μ : XM} {o q : Nat} {x : Int32} (h : (o = 11 ∨ o = 12) ∧ 1100 ≤ q) : FZ μ (pI μ 12 0 o q x) := by
  have key : ∀ o' k, ¬ (o' = o ∧ k = q) → aI (pI μ 12 0 o q x) 12 0 o' k = aI μ 12 0 o' k := fun o' k hne => by
    rw [aI_pI]; rw [if_neg (fun e => hne ⟨e.2.2.1, e.2.2.2⟩)]
  refine ⟨fun t i hn => pI_ne hn, fun k _ _ _ => rI_pI _ _ _ _ _ _ _ _ _, fun j h1 h2 => ?_, fun k => aL_pI _ _ _ _ _ _ _ _ _, fun k hk => ⟨key _ _ (by omega), key _ _ (by omega)⟩⟩
  have : ¬ j = o := by omega
  rw [pI, aI_wI]; simp only [this, and_false, ↓reduceIte]
theorem RO_adZ {μ : XM} {T : TP} {m i : Nat} (h : RO T m i μ) (hi : i < m) : RO T m (i + 1) (ad μ i) ∧ FZ μ (ad μ i) := ⟨(RO_ad h hi).1, FZ_s (.inl rfl)⟩
theorem ft_Z {μ : XM} {F : Nat} (h : 0 < F) (h2 : F < 2 ^ 31) : FF F (ft μ F) ∧ FZ μ (ft μ F) := ⟨(ft_F h h2).1, FZ_s (.inr (.inl rfl))⟩
/-- the reference's codes so far -/
def RD (l : List (Nat × Int32)) (μ : XM) : Prop := rI μ 12 0 13 = nI l.length ∧ ∀ k, (hk : k < l.length) → aI μ 12 0 11 (1100 + k) = nI l[k].1 ∧ aI μ 12 0 12 (1100 + k) = l[k].2
/-- how high a piece piles: one more at last -/
def Hg (k : Nat) (sg : List (Nat × Int32)) : Prop := ∀ a, a + k ≤ 32 → hws sg a = some (a + 1)
def HL (k : Nat) (sg : List (Nat × Int32)) : Prop := ∀ a, 1 ≤ a → a + k ≤ 32 → hws sg a = some a
theorem hws_app : ∀ (s1 s2 : List (Nat × Int32)) (a b : Nat), hws s1 a = some b → hws (s1 ++ s2) a = hws s2 b
  | [], s2, a, b, h => by cases h; rfl
  | c :: s1, s2, a, b, h => by
    unfold hws at h
    show hws (c :: (s1 ++ s2)) a = _
    rw [hws]
    cases e : hw c a with
    | none => rw [e] at h; cases h
    | some b' => rw [e] at h; exact hws_app s1 s2 b' b h
theorem Hg_le {k k' : Nat} {sg : List (Nat × Int32)} (h : Hg k sg) (hk : k ≤ k') : Hg k' sg := fun a ha => h a (by omega)
theorem Hg_L {k : Nat} {s1 s2 : List (Nat × Int32)} (h1 : Hg k s1) (h2 : HL k s2) : Hg (k + 1) (s1 ++ s2) := fun a ha => by
  rw [hws_app s1 s2 a (a + 1) (h1 a (by omega))]; exact h2 (a + 1) (by omega) (by omega)
/-- a second one, and what joins both -/
theorem HL_op {k o : Nat} {x : Int32} {s1 s2 : List (Nat × Int32)} (h1 : Hg k s1) (ho : 4 ≤ o) (h2 : HL k s2) : HL k (s1 ++ [(o, x)] ++ s2) := fun a h1a ha => by
  have e : hw (o, x) (a + 1) = some a := by
    unfold hw
    split
    · rename_i h; simp at h; omega
    · rename_i h; simp at h; omega
    · rename_i h; simp at h; omega
    · rw [if_pos (by omega)]; rfl
  rw [List.append_assoc, hws_app s1 _ a (a + 1) (h1 a (by omega))]
  show hws ((o, x) :: s2) (a + 1) = _
  rw [hws, e]
  exact h2 a h1a ha
theorem HL_nil {k : Nat} : HL k [] := fun _ _ _ => rfl
theorem Hg_not {k : Nat} {x : Int32} {s1 : List (Nat × Int32)} (h1 : Hg k s1) : Hg k (s1 ++ [(3, x)]) := fun a ha => by
  rw [hws_app s1 _ a (a + 1) (h1 a ha), hws]
  show (match (if 1 ≤ a + 1 then some (a + 1) else none) with | none => none | some b => hws [] b) = _
  rw [if_pos (by omega)]; rfl
theorem Hg_one {k o : Nat} {x : Int32} (hk : 1 ≤ k) (ho : o = 1 ∨ o = 2) : Hg k [(o, x)] := fun a ha => by
  rcases ho with rfl | rfl
  · rw [hws]
    show (match (if a < 32 then some (a + 1) else none) with | none => none | some b => hws [] b) = _
    rw [if_pos (by omega)]; rfl
  · rw [hws]
    show (match (if a < 32 then some (a + 1) else none) with | none => none | some b => hws [] b) = _
    rw [if_pos (by omega)]; rfl
section
variable {μ : XM} {T : TP} {m i : Nat} {l : List (Nat × Int32)}
theorem c_add1 (hl : l.length < 1000) (hL : LC 1 l μ) (c : Nat × Int32) {p : Int32} (hp : p = enc c) : ∃ ν, f4_add 1 p μ = xrv ν ∧ LC 1 (l ++ [c]) ν ∧ ∀ t j, ¬ (t = 4 ∧ j = 1) → ν t j = μ t j := by
  have e3 : ∀ y, rI (pI μ 4 1 0 l.length y) 4 1 1 = nI l.length := fun y => by rw [rI_pI]; exact hL.1
  rw [f4_add_e, k4_add, hL.1, xite_t (nI_lt hl (by omega)), xck_t (xin_a (show 1000 < 2 ^ 31 by omega) hl), nI_clamp (by omega), mS_eq, e3, ← nI_succ, mS_eq]
  refine ⟨_, rfl, ⟨?_, fun k hk => ?_⟩, fun t j h => by rw [sI_ne h, pI_ne h]⟩
  · rw [rI_sI]; simp
  · rw [aI_sI, aI_pI]
    by_cases e : k = l.length
    · subst e
      simp [hp]
    · have hk' : k < l.length := by simp at hk; omega
      simp only [e, and_false, ↓reduceIte]
      rw [List.getElem_append_left hk']; exact hL.2 k hk'
theorem c_write (hl : l.length < 1000) (hL : LC 1 l μ) (c : Nat × Int32) {p : Int32} (hp : -p = enc c) : ∃ ν, f7_write p μ = xri 1 ν ∧ LC 1 (l ++ [c]) ν ∧ ∀ t j, ¬ (t = 4 ∧ j = 1) → ν t j = μ t j := by
  obtain ⟨ν, a1, a2, a3⟩ := c_add1 hl hL c hp
  refine ⟨ν, ?_, a2, a3⟩
  rw [f7_write_e, k7_write, f4_addKind_e, k4_addKind, a1, bV_v, bV_v, xrb_1]
theorem c_number (hl : l.length < 1000) (hL : LC 1 l μ) (c : Nat × Int32) {p : Int32} (hp : p = enc c) : ∃ ν, f4_addNumber 1 p μ = xrv ν ∧ LC 1 (l ++ [c]) ν ∧ ∀ t j, ¬ (t = 4 ∧ j = 1) → ν t j = μ t j := by
  obtain ⟨ν, a1, a2, a3⟩ := c_add1 hl hL c hp
  refine ⟨ν, ?_, a2, a3⟩
  rw [f4_addNumber_e, k4_addNumber, a1, bV_v]
def em (μ : XM) (c : Nat) (p q : Int32) : XM := sI (pI (pI μ 12 0 11 (1100 + c) p) 12 0 12 (1100 + c) q) 12 0 13 (nI (c + 1))
theorem em_F {c : Nat} {p q : Int32} : FZ μ (em μ c p q) ∧ rI (em μ c p q) 12 0 7 = rI μ 12 0 7 ∧ rI (em μ c p q) 12 0 8 = rI μ 12 0 8 ∧ rI (em μ c p q) 12 0 13 = nI (c + 1) := by
  refine ⟨FZ_t (FZ_p ⟨.inl rfl, by omega⟩) (FZ_t (FZ_p ⟨.inr rfl, by omega⟩) (FZ_s (.inr (.inr rfl)))), ?_, ?_, ?_⟩
  · unfold em; rw [rI_sI, rI_pI, rI_pI]; simp
  · unfold em; rw [rI_sI, rI_pI, rI_pI]; simp
  · unfold em; rw [rI_sI]; simp
theorem m_emit0 {c : Nat} (hc : rI μ 12 0 13 = nI c) (h : c < 1100) (p q : Int32) : f12_emit p q μ = xrv (em μ c p q) := by
  have e1 : (1100 : Int32) + nI c = nI (1100 + c) := nI_add 1100 c
  have e3 : ∀ o k y, rI (pI μ 12 0 o k y) 12 0 13 = nI c := fun o k y => by rw [rI_pI]; exact hc
  have e4 : ∀ o k y o' k' y', rI (pI (pI μ 12 0 o k y) 12 0 o' k' y') 12 0 13 = nI c := fun o k y o' k' y' => by rw [rI_pI]; exact e3 o k y
  rw [f12_emit_e, k12_emit, hc, e1, xck_t (xin_a (show 2200 < 2 ^ 31 by omega) (by omega)), nI_clamp (by omega), mS_eq, e3, e1, xck_t (xin_a (show 2200 < 2 ^ 31 by omega) (by omega)), nI_clamp (by omega), mS_eq, e4, ← nI_succ, mS_eq]
  rfl
theorem m_emit (hl : l.length < 1000) (hR : RD l μ) (hO : RO T m i μ) (c : Nat × Int32) {p q : Int32} (hp : p = nI c.1) (hq : q = c.2) : ∃ ν, f12_emit p q μ = xrv ν ∧ RD (l ++ [c]) ν ∧ RO T m i ν ∧ FZ μ ν := by
  obtain ⟨f1, f2, f3, f4⟩ := em_F (μ := μ) (c := l.length) (p := p) (q := q)
  refine ⟨_, m_emit0 hR.1 (by omega) p q, ⟨by rw [f4]; simp, fun k hk => ?_⟩, RO_F hO (FZ_R f1) f2 f3, f1⟩
  unfold em
  by_cases e : k = l.length
  · subst e
    rw [aI_sI, aI_sI, aI_pI, aI_pI, aI_pI]
    simp [hp, hq]
  · have hk' : k < l.length := by simp at hk; omega
    have e' : ¬ 1100 + k = 1100 + l.length := by omega
    rw [aI_sI, aI_sI, aI_pI, aI_pI, aI_pI, aI_pI]
    simp only [e', and_false, ↓reduceIte]
    rw [List.getElem_append_left hk']; exact hR.2 k hk'
theorem RD_ad (hR : RD l μ) : RD l (ad μ i) := by
  unfold RD ad
  rw [rI_sI]
  simp only [aI_sI, show ¬ (13 = 7) by decide, and_false, ↓reduceIte]
  exact hR
theorem ft_13 {F : Nat} : rI (ft μ F) 12 0 13 = rI μ 12 0 13 ∧ rI (ft μ F) 12 0 7 = rI μ 12 0 7 := by
  unfold ft; rw [rI_sI, rI_sI]; simp
-- the outcomes
abbrev OUT : Type := Nat ⊕ (Nat × List (Nat × Int32))
def CR (T : TP) (m : Nat) (μ : XM) (r : XR) : OUT → Prop
  | .inl F => ∃ μ', r = xri 0 μ' ∧ rI μ' 10 0 7 = nI F ∧ FE μ μ'
  | .inr q => ∃ μ', r = xri 1 μ' ∧ CO T m q.1 μ' ∧ LC 1 q.2 μ' ∧ FE μ μ'
/-- the reference behind a fault, from token i and c codes on -/
def RF (m i c F : Nat) (μ ν : XM) : Prop := FF F ν ∧ FZ μ ν ∧ ∃ i' c', rI ν 12 0 7 = nI i' ∧ i' ≤ m ∧ i ≤ i' ∧ rI ν 12 0 13 = nI c' ∧ c' + i ≤ c + i'
def RR (T : TP) (m i c : Nat) (ν : XM) (r : XR) : OUT → Prop
  | .inl F => ∃ ν', r = xrv ν' ∧ RF m i c F ν ν'
  | .inr q => ∃ ν', r = xrv ν' ∧ RO T m q.1 ν' ∧ RD q.2 ν' ∧ FZ ν ν'
def GD (m i k : Nat) (l : List (Nat × Int32)) : OUT → Prop
  | .inl F => 0 < F ∧ F < 2 ^ 31
  | .inr q => i < q.1 ∧ q.1 ≤ m ∧ ∃ sg, q.2 = l ++ sg ∧ (∀ c, c ∈ sg → cw c) ∧ sg.length + i ≤ q.1 ∧ Hg k sg
def GL (m i k : Nat) (l : List (Nat × Int32)) : OUT → Prop
  | .inl F => 0 < F ∧ F < 2 ^ 31
  | .inr q => i ≤ q.1 ∧ q.1 ≤ m ∧ ∃ sg, q.2 = l ++ sg ∧ (∀ c, c ∈ sg → cw c) ∧ sg.length + i ≤ q.1 ∧ HL k sg
def JJ (T : TP) (m lev k : Nat) (fc fr : Int32 → XM → XR) : Prop := ∀ i l μ ν, CO T m i μ → LC 1 l μ → RO T m i ν → RD l ν → l.length ≤ i → ∃ o, GD m i k l o ∧ CR T m μ (fc (nI lev) μ) o ∧ RR T m i l.length ν (fr (nI lev) ν) o
theorem RF_w {i0 c0 c F : Nat} {μ0 ν : XM} (h : RF m i c F μ ν) (h1 : c + i0 ≤ c0 + i) (h2 : i0 ≤ i) (f : FZ μ0 μ) : RF m i0 c0 F μ0 ν := by
  obtain ⟨a1, a2, i', c', a3, a4, a5, a6, a7⟩ := h
  exact ⟨a1, FZ_t f a2, i', c', a3, a4, by omega, a6, by omega⟩
/-- a fault at token i -/
theorem RF_ft (hO : RO T m i μ) {c F : Nat} (hc : rI μ 12 0 13 = nI c) (h0 : 0 < F) (h1 : F < 2 ^ 31) : RF m i c F μ (ft μ F) := by
  obtain ⟨f1, f2⟩ := ft_Z (μ := μ) h0 h1
  exact ⟨f1, f2, i, c, by rw [ft_13.2]; exact hO.2.2.1, hO.2.1, Nat.le_refl _, by rw [ft_13.1]; exact hc, Nat.le_refl _⟩
/-- a code more behind a fault -/
theorem RF_em {c F : Nat} {ν : XM} (h : RF m (i + 1) c F μ ν) (hm : m ≤ 1000) (hc : c ≤ i) (p q : Int32) : ∃ ξ, f12_emit p q ν = xrv ξ ∧ RF m i c F μ ξ := by
  obtain ⟨a1, a2, i', c', a3, a4, a5, a6, a7⟩ := h
  obtain ⟨f1, f2, f3, f4⟩ := em_F (μ := ν) (c := c') (p := p) (q := q)
  refine ⟨_, m_emit0 a6 (by omega) p q, ⟨a1.1, a1.2.1, f3.trans a1.2.2⟩, FZ_t a2 f1, i', c' + 1, f2.trans a3, a4, by omega, f4, by omega⟩
theorem wr_lt (hO : RO T m i μ) {w : Nat} (hw : w < 16) (h0 : 0 < w) : 0 < w + 16 * PT T i ∧ w + 16 * PT T i < 2 ^ 31 := by
  have := PT_le T i
  have := hO.2.2.2.2.2
  omega
theorem CR_F {F : Nat} : CR T m μ (xri 0 (fc μ F)) (.inl F) := ⟨_, rfl, fc_7, FTp_E FTp_c⟩
theorem CR_w {μ0 : XM} {r : XR} {o : OUT} (f : FE μ0 μ) (h : CR T m μ r o) : CR T m μ0 r o := by
  rcases o with F | q
  · obtain ⟨μ', a1, a2, a3⟩ := h; exact ⟨μ', a1, a2, FE_t f a3⟩
  · obtain ⟨μ', a1, a2, a3, a4⟩ := h; exact ⟨μ', a1, a2, a3, FE_t f a4⟩
theorem sg_app {i' i'' : Nat} {sg : List (Nat × Int32)} {c : Nat × Int32} (h1 : ∀ c, c ∈ sg → cw c) (h2 : cw c) : ∀ d, d ∈ sg ++ [c] → cw d := fun d hd => by
  rw [List.mem_append] at hd
  rcases hd with hd | hd
  · exact h1 d hd
  · rw [List.mem_singleton] at hd; rw [hd]; exact h2
theorem cw_op {o : Nat} {x : Int32} (h : 3 ≤ o ∧ o ≤ 10) : cw (o, x) := .inr (.inr h)
theorem mem_app3 {s1 s2 : List (Nat × Int32)} (h1 : ∀ c, c ∈ s1 → cw c) (h2 : ∀ c, c ∈ s2 → cw c) : ∀ c, c ∈ s1 ++ s2 → cw c := fun c hc => by
  rw [List.mem_append] at hc
  exact hc.elim (h1 c) (h2 c)
theorem ad_eq (hO : RO T m i μ) : sI μ 12 0 7 ((rI μ 12 0 7) + 1) = ad μ i := by rw [hO.2.2.1, ← nI_succ]; rfl
end
