/-! THE PURE PART: the law of a room, and a minute of the component -/
/-- codes: 1 number, 2 fact, 3 not, 4 +, 5 -, 6 *, 7 <, 8 =, 9 and, 10 or -/
def cw (c : Nat × Int32) : Prop := (c.1 = 1 ∧ ∃ n, n < 10000 ∧ c.2 = nI n) ∨ (c.1 = 2 ∧ ∃ k, k < 4 ∧ c.2 = nI k) ∨ (3 ≤ c.1 ∧ c.1 ≤ 10)
def both (o : Nat) (x y : Int32) : Int32 := match o with
  | 4 => x + y
  | 5 => x - y
  | 6 => x * y
  | 7 => if x < y then 1 else 0
  | 8 => if x = y then 1 else 0
  | 9 => if x = 0 then 0 else if y = 0 then 0 else 1
  | _ => if x = 0 then (if y = 0 then 0 else 1) else 1
/-- one code: height and pile behind it -/
def ev (fs : Nat → Int32) (c : Nat × Int32) (p : Nat × (Nat → Int32)) : Nat × (Nat → Int32) := match c.1 with
  | 1 => (p.1 + 1, upd p.2 p.1 c.2)
  | 2 => (p.1 + 1, upd p.2 p.1 (fs c.2.toNatClampNeg))
  | 3 => (p.1, upd p.2 (p.1 - 1) (if p.2 (p.1 - 1) = 0 then 1 else 0))
  | o => (p.1 - 1, upd p.2 (p.1 - 2) (both o (p.2 (p.1 - 2)) (p.2 (p.1 - 1))))
def evs (fs : Nat → Int32) : List (Nat × Int32) → Nat × (Nat → Int32) → Nat × (Nat → Int32)
  | [], p => p
  | c :: l, p => evs fs l (ev fs c p)
/-- heights that are borne -/
def hw (c : Nat × Int32) (a : Nat) : Option Nat := match c.1 with
  | 1 => if a < 32 then some (a + 1) else none
  | 2 => if a < 32 then some (a + 1) else none
  | 3 => if 1 ≤ a then some a else none
  | _ => if 2 ≤ a then some (a - 1) else none
def hws : List (Nat × Int32) → Nat → Option Nat
  | [], a => some a
  | c :: l, a => match hw c a with | none => none | some b => hws l b
def lawV (h : HS) (fs : Nat → Int32) : Int32 := if hC h = [] then fs 0 else (evs fs (hC h) (0, fun _ => 0)).2 0
/-- a law as it can be told -/
def LW (l : List (Nat × Int32)) : Prop := (∀ c, c ∈ l → cw c) ∧ (l = [] ∨ hws l 0 = some 1) ∧ l.length < 1000
def enc (c : Nat × Int32) : Int32 := match c.1 with
  | 1 => c.2
  | 2 => -(151 + c.2)
  | 3 => -148
  | 4 => -43
  | 5 => -45
  | 6 => -42
  | 7 => -60
  | 8 => -61
  | 9 => -149
  | _ => -150
/-- the component's law i -/
def LC (i : Nat) (l : List (Nat × Int32)) (μ : XM) : Prop := rI μ 4 i 1 = nI l.length ∧ ∀ k, (hk : k < l.length) → aI μ 4 i 0 k = enc l[k]
theorem LC_ob {i : Nat} {l : List (Nat × Int32)} {μ ν : XM} (e : ν 4 i = μ 4 i) (hH : LC i l μ) : LC i l ν := by
  unfold LC at *
  simp only [rI_ob e, aI_ob e]
  exact hH
def FrL (i : Nat) (μ ν : XM) : Prop := ∀ t j, ¬ (t = 4 ∧ j = i) → ν t j = μ t j
theorem FrL_r {i : Nat} {μ : XM} : FrL i μ μ := fun _ _ _ => rfl
theorem FrL_t {i : Nat} {μ ν ξ : XM} (a : FrL i μ ν) (b : FrL i ν ξ) : FrL i μ ξ := fun t j h => (b t j h).trans (a t j h)
/-- two piles alike below -/
theorem evs_same (fs : Nat → Int32) : ∀ (l : List (Nat × Int32)) (a b : Nat) (P Q : Nat → Int32), (∀ c, c ∈ l → 1 ≤ c.1) → hws l a = some b → (∀ k, k < a → P k = Q k) → (evs fs l (a, P)).1 = b ∧ (evs fs l (a, Q)).1 = b ∧ ∀ k, k < b → (evs fs l (a, P)).2 k = (evs fs l (a, Q)).2 k
  | [], a, b, P, Q, _, h, e => by cases h; exact ⟨rfl, rfl, e⟩
  | c :: l, a, b, P, Q, hc, h, e => by
    have hcl := fun c' hc' => hc c' (List.mem_cons_of_mem _ hc')
    unfold hws at h
    split at h
    · cases h
    · rename_i b' e'
      have key : (ev fs c (a, P)).1 = b' ∧ (ev fs c (a, Q)).1 = b' ∧ ∀ k, k < b' → (ev fs c (a, P)).2 k = (ev fs c (a, Q)).2 k := by
        unfold hw at e'
        unfold ev
        split at e' <;> split at e' <;> cases e' <;> rename_i hc1 hc2 <;> simp only [hc1]
        · refine ⟨trivial, trivial, fun k hk => ?_⟩
          by_cases ek : k = a
          · subst ek; rw [pk_us, pk_us]
          · rw [pk_un ek, pk_un ek]; exact e k (by omega)
        · refine ⟨trivial, trivial, fun k hk => ?_⟩
          by_cases ek : k = a
          · subst ek; rw [pk_us, pk_us]
          · rw [pk_un ek, pk_un ek]; exact e k (by omega)
        · refine ⟨trivial, trivial, fun k hk => ?_⟩
          have e1 := e (a - 1) (by omega)
          simp only [e1]
          by_cases ek : k = a - 1
          · subst ek; rw [pk_us, pk_us]
          · rw [pk_un ek, pk_un ek]; exact e k (by omega)
        · refine ⟨trivial, trivial, fun k hk => ?_⟩
          have e1 := e (a - 1) (by omega)
          have e2 := e (a - 2) (by omega)
          simp only [e1, e2]
          by_cases ek : k = a - 2
          · subst ek; simp only [pk_us]
          · simp only [pk_un ek]; exact e k (by omega)
      obtain ⟨k1, k2, k3⟩ := key
      unfold evs
      obtain ⟨m1, m2⟩ : (ev fs c (a, P)) = (b', (ev fs c (a, P)).2) ∧ (ev fs c (a, Q)) = (b', (ev fs c (a, Q)).2) := ⟨by rw [← k1], by rw [← k2]⟩
      rw [m1, m2]
      exact evs_same fs l b' b _ _ hcl h k3
section
variable {i : Nat} {h : HS} {s : SS} {μ : XM}
theorem s4_push {a : Nat} (ha : a < 32) (e : rI μ 4 i 3 = nI a) (x : Int32) : f4_push i x μ = xrv (sI (pI μ 4 i 2 a x) 4 i 3 (nI (a + 1))) := by
  rw [f4_push_e, k4_push, e]
  simp (disch := (first | assumption | omega)) only [mS_eq, vI_eq, vL_eq, bV_v, bI_i, bL_l, xrb_b, xrb_0, xrb_1, xite_eq, b2_t, b2_f, i10, b2_eq0, b2_eq1, Bool.and_true, Bool.true_and, Bool.false_and, Bool.not_true, Bool.not_false, ↓reduceIte, not_false_eq_true, not_true_eq_false, decide_true, decide_false, nI_lt, xck_if, xin_t, nI_clamp, rI_sI, rI_sL, rI_wI, rI_wL, rI_pI, rI_pL, rL_sI, rL_sL, rL_wI, rL_wL, rL_pI, rL_pL, aI_sI, aI_sL, aI_wI, aI_wL, aI_pI, aI_pL, aL_sI, aL_sL, aL_wI, aL_wL, aL_pI, aL_pL, e, ← nI_succ]
theorem s4_pop {a : Nat} (ha : a < 32) (e : rI μ 4 i 3 = nI (a + 1)) : f4_pop i μ = xri (aI μ 4 i 2 a) (sI μ 4 i 3 (nI a)) := by
  rw [f4_pop_e, k4_pop, e]
  have h1 : (0 : Int32) < nI (a + 1) := nI_lt (a := 0) (by omega) (by omega)
  have h2 : ¬ nI 32 < nI (a + 1) := nI_nlt (by omega) (by omega)
  simp (disch := (first | assumption | omega)) only [mS_eq, vI_eq, vL_eq, bV_v, bI_i, bL_l, xrb_b, xrb_0, xrb_1, xite_eq, b2_t, b2_f, i10, b2_eq0, b2_eq1, Bool.and_true, Bool.true_and, Bool.false_and, Bool.not_true, Bool.not_false, ↓reduceIte, not_false_eq_true, not_true_eq_false, decide_true, decide_false, h1, h2, nI_pred, rI_sI, rI_sL, rI_wI, rI_wL, rI_pI, rI_pL, rL_sI, rL_sL, rL_wI, rL_wL, rL_pI, rL_pL, aI_sI, aI_sL, aI_wI, aI_wL, aI_pI, aI_pL, aL_sI, aL_sL, aL_wI, aL_wL, aL_pI, aL_pL, xck_if, xin_t, nI_clamp, and_self]
theorem s4_joined_4 (x y : Int32) : f4_joined 43 x y μ = xri (both 4 x y) μ := by
  rw [f4_joined_e, k4_joined]; simp [xite_eq, both]
theorem s4_joined_5 (x y : Int32) : f4_joined 45 x y μ = xri (both 5 x y) μ := by
  rw [f4_joined_e, k4_joined]; simp [xite_eq, both]
theorem s4_joined_6 (x y : Int32) : f4_joined 42 x y μ = xri (both 6 x y) μ := by
  rw [f4_joined_e, k4_joined]; simp [xite_eq, both]
theorem s4_joined_7 (x y : Int32) : f4_joined 60 x y μ = xri (both 7 x y) μ := by
  rw [f4_joined_e, k4_joined]; simp [xite_eq, both]; split <;> rfl
theorem s4_joined_8 (x y : Int32) : f4_joined 61 x y μ = xri (both 8 x y) μ := by
  rw [f4_joined_e, k4_joined]; simp [xite_eq, both]; split <;> rfl
theorem s4_joined_9 (x y : Int32) : f4_joined 149 x y μ = xri (both 9 x y) μ := by
  rw [f4_joined_e, k4_joined]; simp [xite_eq, both]; split <;> first | rfl | (split <;> rfl)
theorem s4_joined_10 (x y : Int32) : f4_joined 150 x y μ = xri (both 10 x y) μ := by
  rw [f4_joined_e, k4_joined]; simp [xite_eq, both]; split <;> first | rfl | (split <;> rfl)

theorem neg_eq (x y : Int32) : (-x = y) = (x = -y) := by
  apply propext
  constructor
  · intro h; rw [← h, Int32.neg_neg]
  · intro h; rw [h, Int32.neg_neg]
theorem nI_nneg {m : Nat} (hm : m < 2 ^ 31) {y : Int32} (hy : y < 0) : (nI m = y) = False := by
  apply propext
  refine ⟨fun h => ?_, False.elim⟩
  rw [← h] at hy
  exact nI_pos hm hy
/-- the step of a code x -/
theorem s4_step {n i k len : Nat} {f0 f1 f2 f3 x : Int32} {ν : XM} (hk : k < len) (hn : len < 1000) (e : rI ν 4 i 1 = nI len) (hx : aI ν 4 i 0 k = x) :
    h4_value_17 (n + 1) i f0 f1 f2 f3 (nI k) ν =
      (xite (x = -148) (bI (f4_pop i ν) fun r3 m2 => xite (r3 = 0) (bV (f4_push i 1 m2) fun m4 => h4_value_17 n i f0 f1 f2 f3 (nI (k + 1)) m4) (bV (f4_push i 0 m2) fun m6 => h4_value_17 n i f0 f1 f2 f3 (nI (k + 1)) m6))
      (xite (x = -149) (h4_value_144 n i f0 f1 f2 f3 (nI k) x ν)
      (xite (x = -150) (h4_value_144 n i f0 f1 f2 f3 (nI k) x ν)
      (xite (x = -151) (bV (f4_push i f0 ν) fun m8 => h4_value_17 n i f0 f1 f2 f3 (nI (k + 1)) m8)
      (xite (x = -152) (bV (f4_push i f1 ν) fun m8 => h4_value_17 n i f0 f1 f2 f3 (nI (k + 1)) m8)
      (xite (x = -153) (bV (f4_push i f2 ν) fun m8 => h4_value_17 n i f0 f1 f2 f3 (nI (k + 1)) m8)
      (xite (x = -154) (bV (f4_push i f3 ν) fun m8 => h4_value_17 n i f0 f1 f2 f3 (nI (k + 1)) m8)
      (h4_value_144 n i f0 f1 f2 f3 (nI k) x ν)))))))) := by
  have h1 : nI k < nI len := nI_lt hk (by omega)
  have h2 : nI k < nI 1000 := nI_lt (by omega) (by omega)
  have h3 : (nI k).toNatClampNeg = k := nI_clamp (by omega)
  have h4 : xin (nI k) 1000 = true := xin_t (by omega) (by omega)
  rw [h4_value_17_s, e, xite_t h1, xite_t h2, xck_t h4, vI_eq, h3, hx]
  simp only [vI_eq, neg_eq, ← nI_succ]
def fct (f0 f1 f2 f3 : Int32) : Nat → Int32 := fun k => match k with | 0 => f0 | 1 => f1 | 2 => f2 | _ => f3
theorem s4_loop {l : List (Nat × Int32)} (hl : ∀ c, c ∈ l → cw c) (hn : l.length < 1000) (f0 f1 f2 f3 : Int32) :
    ∀ d k n a P ν, k + d = l.length → 2 * d < n → a ≤ 32 → hws (l.drop k) a = some 1 → LC i l ν → rI ν 4 i 3 = nI a → (∀ j, j < a → aI ν 4 i 2 j = P j) → FrL i μ ν →
      ∃ ξ, h4_value_17 n i f0 f1 f2 f3 (nI k) ν = xri ((evs (fct f0 f1 f2 f3) (l.drop k) (a, P)).2 0) ξ ∧ LC i l ξ ∧ FrL i μ ξ := by
  intro d
  induction d with
  | zero =>
    intro k n a P ν hk hn' h32 hh hL ha hP hF
    obtain ⟨m, rfl⟩ : ∃ m, n = m + 1 := ⟨n - 1, by omega⟩
    obtain rfl : k = l.length := by omega
    rw [List.drop_length] at hh ⊢
    obtain rfl : a = 1 := by simpa [hws] using hh
    have hpop := s4_pop (i := i) (μ := ν) (a := 0) (by omega) ha
    simp only [h4_value_17_s, hL.1, mS_eq, vI_eq, vL_eq, bV_v, bI_i, bL_l, xrb_b, xrb_0, xrb_1, xite_eq, b2_t, b2_f, i10, b2_eq0, b2_eq1, Bool.and_true, Bool.true_and, Bool.false_and, Bool.not_true, Bool.not_false, ↓reduceIte, not_false_eq_true, not_true_eq_false, decide_true, decide_false, Int32.lt_irrefl, hpop, evs]
    rw [hP 0 (by omega)]
    exact ⟨_, rfl, ⟨by simpa [rI_sI, rI_sL, rI_wI, rI_wL, rI_pI, rI_pL, rL_sI, rL_sL, rL_wI, rL_wL, rL_pI, rL_pL, aI_sI, aI_sL, aI_wI, aI_wL, aI_pI, aI_pL, aL_sI, aL_sL, aL_wI, aL_wL, aL_pI, aL_pL] using hL.1, fun j hj => by simpa [rI_sI, rI_sL, rI_wI, rI_wL, rI_pI, rI_pL, rL_sI, rL_sL, rL_wI, rL_wL, rL_pI, rL_pL, aI_sI, aI_sL, aI_wI, aI_wL, aI_pI, aI_pL, aL_sI, aL_sL, aL_wI, aL_wL, aL_pI, aL_pL] using hL.2 j hj⟩, fun t j hne => by rw [sI_ne hne]; exact hF t j hne⟩
  | succ d ih =>
    intro k n a P ν hk hn' h32 hh hL ha hP hF
    obtain ⟨m, rfl⟩ : ∃ m, n = m + 1 + 1 := ⟨n - 2, by omega⟩
    have hk' : k < l.length := by omega
    rw [List.drop_eq_getElem_cons hk'] at hh ⊢
    have hc := hl _ (List.getElem_mem hk')
    have hx := hL.2 k hk'
    have hlen : nI k < nI l.length := nI_lt hk' (by omega)
    have hlen2 : nI k < nI 1000 := nI_lt (by omega) (by omega)
    have go : ∀ (m' : Nat) (b : Nat) (P' : Nat → Int32) (ν' : XM), 2 * d < m' → b ≤ 32 → hws (l.drop (k + 1)) b = some 1 → LC i l ν' → rI ν' 4 i 3 = nI b → (∀ j, j < b → aI ν' 4 i 2 j = P' j) → FrL i μ ν' → ev (fct f0 f1 f2 f3) l[k] (a, P) = (b, P') →
        ∃ ξ, h4_value_17 m' i f0 f1 f2 f3 (nI (k + 1)) ν' = xri ((evs (fct f0 f1 f2 f3) (l[k] :: l.drop (k + 1)) (a, P)).2 0) ξ ∧ LC i l ξ ∧ FrL i μ ξ := by
      intro m' b P' ν' h1 h32' h2 h3 h4 h5 h6 h7
      rw [evs, h7]
      exact ih (k + 1) m' b P' ν' (by omega) h1 h32' h2 h3 h4 h5 h6
    unfold hws at hh
    split at hh
    · cases hh
    rename_i b eb
    -- a push at the height
    have push : ∀ (m' : Nat) (x : Int32) (ν1 : XM) (c : Nat), 2 * d < m' → c < 32 → b = c + 1 → rI ν1 4 i 3 = nI c → LC i l ν1 → (∀ j, j < c → aI ν1 4 i 2 j = P j) → FrL i μ ν1 → ev (fct f0 f1 f2 f3) l[k] (a, P) = (c + 1, upd P c x) →
        ∃ ξ, (bV (f4_push i x ν1) fun m4 => h4_value_17 m' i f0 f1 f2 f3 (nI (k + 1)) m4) = xri ((evs (fct f0 f1 f2 f3) (l[k] :: l.drop (k + 1)) (a, P)).2 0) ξ ∧ LC i l ξ ∧ FrL i μ ξ := by
      intro m' x ν1 c h1 h2 h3 h4 h5 h6 h7 h8
      rw [s4_push h2 h4, bV_v]
      refine go m' (c + 1) _ _ h1 h2 (h3 ▸ hh) ⟨by simpa [rI_sI, rI_sL, rI_wI, rI_wL, rI_pI, rI_pL, rL_sI, rL_sL, rL_wI, rL_wL, rL_pI, rL_pL, aI_sI, aI_sL, aI_wI, aI_wL, aI_pI, aI_pL, aL_sI, aL_sL, aL_wI, aL_wL, aL_pI, aL_pL] using h5.1, fun j hj => by simpa [rI_sI, rI_sL, rI_wI, rI_wL, rI_pI, rI_pL, rL_sI, rL_sL, rL_wI, rL_wL, rL_pI, rL_pL, aI_sI, aI_sL, aI_wI, aI_wL, aI_pI, aI_pL, aL_sI, aL_sL, aL_wI, aL_wL, aL_pI, aL_pL] using h5.2 j hj⟩ (by simp [rI_sI, rI_sL, rI_wI, rI_wL, rI_pI, rI_pL, rL_sI, rL_sL, rL_wI, rL_wL, rL_pI, rL_pL, aI_sI, aI_sL, aI_wI, aI_wL, aI_pI, aI_pL, aL_sI, aL_sL, aL_wI, aL_wL, aL_pI, aL_pL]) (fun j hj => ?_) (fun t j hne => ?_) h8
      · by_cases ej : j = c
        · subst ej; simp [rI_sI, rI_sL, rI_wI, rI_wL, rI_pI, rI_pL, rL_sI, rL_sL, rL_wI, rL_wL, rL_pI, rL_pL, aI_sI, aI_sL, aI_wI, aI_wL, aI_pI, aI_pL, aL_sI, aL_sL, aL_wI, aL_wL, aL_pI, aL_pL, pk_us]
        · simp [rI_sI, rI_sL, rI_wI, rI_wL, rI_pI, rI_pL, rL_sI, rL_sL, rL_wI, rL_wL, rL_pI, rL_pL, aI_sI, aI_sL, aI_wI, aI_wL, aI_pI, aI_pL, aL_sI, aL_sL, aL_wI, aL_wL, aL_pI, aL_pL, ej, pk_un ej]; exact h6 j (by omega)
      · rw [sI_ne hne, pI_ne hne]; exact h7 t j hne
    have bin : ∀ (m' : Nat) (o : Nat) (v : Int32), 2 * d < m' → l[k].1 = o → 4 ≤ o → v < 0 → (∀ x y ξ, f4_joined (-v) x y ξ = xri (both o x y) ξ) →
        ∃ ξ, h4_value_144 (m' + 1) i f0 f1 f2 f3 (nI k) v ν = xri ((evs (fct f0 f1 f2 f3) (l[k] :: l.drop (k + 1)) (a, P)).2 0) ξ ∧ LC i l ξ ∧ FrL i μ ξ := by
      intro m' o v h1 h2 h3 h4 h5
      have eb' : hw l[k] a = if 2 ≤ a then some (a - 1) else none := by
        unfold hw
        split <;> first | rfl | omega
      rw [eb'] at eb
      by_cases ha2 : 2 ≤ a
      · rw [if_pos ha2] at eb
        cases eb
        obtain ⟨c, rfl⟩ : ∃ c, a = c + 2 := ⟨a - 2, by omega⟩
        have p1 := s4_pop (i := i) (μ := ν) (a := c + 1) (by omega) ha
        have p2 := s4_pop (i := i) (μ := sI ν 4 i 3 (nI (c + 1))) (a := c) (by omega) (by simp [rI_sI, rI_sL, rI_wI, rI_wL, rI_pI, rI_pL, rL_sI, rL_sL, rL_wI, rL_wL, rL_pI, rL_pL, aI_sI, aI_sL, aI_wI, aI_wL, aI_pI, aI_pL, aL_sI, aL_sL, aL_wI, aL_wL, aL_pI, aL_pL])
        rw [h4_value_144_s]
        simp only [mS_eq, vI_eq, vL_eq, bV_v, bI_i, bL_l, xrb_b, xrb_0, xrb_1, xite_eq, b2_t, b2_f, i10, b2_eq0, b2_eq1, Bool.and_true, Bool.true_and, Bool.false_and, Bool.not_true, Bool.not_false, ↓reduceIte, not_false_eq_true, not_true_eq_false, decide_true, decide_false, h4, p1, p2, h5, rI_sI, rI_sL, rI_wI, rI_wL, rI_pI, rI_pL, rL_sI, rL_sL, rL_wI, rL_wL, rL_pI, rL_pL, aI_sI, aI_sL, aI_wI, aI_wL, aI_pI, aI_pL, aL_sI, aL_sL, aL_wI, aL_wL, aL_pI, aL_pL, hP (c + 1) (by omega), hP c (by omega), ← nI_succ]
        refine push m' _ _ c h1 (by omega) (by omega) (by simp [rI_sI, rI_sL, rI_wI, rI_wL, rI_pI, rI_pL, rL_sI, rL_sL, rL_wI, rL_wL, rL_pI, rL_pL, aI_sI, aI_sL, aI_wI, aI_wL, aI_pI, aI_pL, aL_sI, aL_sL, aL_wI, aL_wL, aL_pI, aL_pL]) ⟨by simpa [rI_sI, rI_sL, rI_wI, rI_wL, rI_pI, rI_pL, rL_sI, rL_sL, rL_wI, rL_wL, rL_pI, rL_pL, aI_sI, aI_sL, aI_wI, aI_wL, aI_pI, aI_pL, aL_sI, aL_sL, aL_wI, aL_wL, aL_pI, aL_pL] using hL.1, fun j hj => by simpa [rI_sI, rI_sL, rI_wI, rI_wL, rI_pI, rI_pL, rL_sI, rL_sL, rL_wI, rL_wL, rL_pI, rL_pL, aI_sI, aI_sL, aI_wI, aI_wL, aI_pI, aI_pL, aL_sI, aL_sL, aL_wI, aL_wL, aL_pI, aL_pL] using hL.2 j hj⟩ (fun j hj => ?_) (fun t j hne => ?_) ?_
        · simp only [rI_sI, rI_sL, rI_wI, rI_wL, rI_pI, rI_pL, rL_sI, rL_sL, rL_wI, rL_wL, rL_pI, rL_pL, aI_sI, aI_sL, aI_wI, aI_wL, aI_pI, aI_pL, aL_sI, aL_sL, aL_wI, aL_wL, aL_pI, aL_pL]; exact hP j (by omega)
        · rw [sI_ne hne, sI_ne hne]; exact hF t j hne
        · unfold ev
          split <;> first | omega | (rw [h2]; rfl)
      · rw [if_neg ha2] at eb; cases eb
    rcases hc with ⟨c1, v, hv, cv⟩ | ⟨c1, v, hv, cv⟩ | ⟨c1, c2⟩
    · -- a number
      have e1 : enc l[k] = nI v := by unfold enc; rw [c1]; exact cv
      have hb : b = a + 1 ∧ a < 32 := by
        unfold hw at eb; rw [c1] at eb
        simp only at eb
        split at eb
        · cases eb; exact ⟨rfl, by omega⟩
        · cases eb
      have w1 : ∀ y : Int32, y < 0 → (nI v = y) = False := fun y hy => nI_nneg (by omega) hy
      have hnn : ¬ nI v < 0 := nI_pos (by omega)
      rw [s4_step hk' hn hL.1 (hx.trans e1), xite_f (by rw [w1 _ (by decide)]; exact not_false), xite_f (by rw [w1 _ (by decide)]; exact not_false), xite_f (by rw [w1 _ (by decide)]; exact not_false), xite_f (by rw [w1 _ (by decide)]; exact not_false), xite_f (by rw [w1 _ (by decide)]; exact not_false), xite_f (by rw [w1 _ (by decide)]; exact not_false), xite_f (by rw [w1 _ (by decide)]; exact not_false), h4_value_144_s, xite_f hnn]
      simp only [vI_eq, ← nI_succ]
      refine push m _ ν a (by omega) hb.2 hb.1 ha hL hP hF ?_
      unfold ev; rw [c1]; simp only [cv]
    · -- a fact
      have hb : b = a + 1 ∧ a < 32 := by
        unfold hw at eb; rw [c1] at eb
        simp only at eb
        split at eb
        · cases eb; exact ⟨rfl, by omega⟩
        · cases eb
      have hev : ev (fct f0 f1 f2 f3) l[k] (a, P) = (a + 1, upd P a (fct f0 f1 f2 f3 v)) := by
        unfold ev; rw [c1]; simp only [cv, nI_clamp (show v < 2 ^ 31 by omega)]
      have hv4 : v = 0 ∨ v = 1 ∨ v = 2 ∨ v = 3 := by omega
      rcases hv4 with rfl | rfl | rfl | rfl
      · have e1 : enc l[k] = -151 := by unfold enc; rw [c1, cv]; decide
        rw [s4_step hk' hn hL.1 (hx.trans e1), xite_f (by decide), xite_f (by decide), xite_f (by decide), xite_t rfl]
        exact push (m + 1) f0 ν a (by omega) hb.2 hb.1 ha hL hP hF hev
      · have e1 : enc l[k] = -152 := by unfold enc; rw [c1, cv]; decide
        rw [s4_step hk' hn hL.1 (hx.trans e1), xite_f (by decide), xite_f (by decide), xite_f (by decide), xite_f (by decide), xite_t rfl]
        exact push (m + 1) f1 ν a (by omega) hb.2 hb.1 ha hL hP hF hev
      · have e1 : enc l[k] = -153 := by unfold enc; rw [c1, cv]; decide
        rw [s4_step hk' hn hL.1 (hx.trans e1), xite_f (by decide), xite_f (by decide), xite_f (by decide), xite_f (by decide), xite_f (by decide), xite_t rfl]
        exact push (m + 1) f2 ν a (by omega) hb.2 hb.1 ha hL hP hF hev
      · have e1 : enc l[k] = -154 := by unfold enc; rw [c1, cv]; decide
        rw [s4_step hk' hn hL.1 (hx.trans e1), xite_f (by decide), xite_f (by decide), xite_f (by decide), xite_f (by decide), xite_f (by decide), xite_f (by decide), xite_t rfl]
        exact push (m + 1) f3 ν a (by omega) hb.2 hb.1 ha hL hP hF hev
    · have hc7 : l[k].1 = 3 ∨ l[k].1 = 4 ∨ l[k].1 = 5 ∨ l[k].1 = 6 ∨ l[k].1 = 7 ∨ l[k].1 = 8 ∨ l[k].1 = 9 ∨ l[k].1 = 10 := by omega
      rcases hc7 with c3 | c3 | c3 | c3 | c3 | c3 | c3 | c3
      · -- not
        have e1 : enc l[k] = -148 := by unfold enc; rw [c3]; rfl
        have hb : 1 ≤ a ∧ b = a := by
          unfold hw at eb; rw [c3] at eb
          simp only at eb
          split at eb
          · cases eb; exact ⟨by assumption, rfl⟩
          · cases eb
        obtain ⟨c, rfl⟩ : ∃ c, a = c + 1 := ⟨a - 1, by omega⟩
        have p1 := s4_pop (i := i) (μ := ν) (a := c) (by omega) ha
        rw [s4_step hk' hn hL.1 (hx.trans e1), xite_t rfl, p1, bI_i, hP c (by omega)]
        have hL' : LC i l (sI ν 4 i 3 (nI c)) := ⟨by simpa [rI_sI, rI_sL, rI_wI, rI_wL, rI_pI, rI_pL, rL_sI, rL_sL, rL_wI, rL_wL, rL_pI, rL_pL, aI_sI, aI_sL, aI_wI, aI_wL, aI_pI, aI_pL, aL_sI, aL_sL, aL_wI, aL_wL, aL_pI, aL_pL] using hL.1, fun j hj => by simpa [rI_sI, rI_sL, rI_wI, rI_wL, rI_pI, rI_pL, rL_sI, rL_sL, rL_wI, rL_wL, rL_pI, rL_pL, aI_sI, aI_sL, aI_wI, aI_wL, aI_pI, aI_pL, aL_sI, aL_sL, aL_wI, aL_wL, aL_pI, aL_pL] using hL.2 j hj⟩
        have hF' : FrL i μ (sI ν 4 i 3 (nI c)) := fun t j hne => by rw [sI_ne hne]; exact hF t j hne
        have hP' : ∀ j, j < c → aI (sI ν 4 i 3 (nI c)) 4 i 2 j = P j := fun j hj => by simp only [rI_sI, rI_sL, rI_wI, rI_wL, rI_pI, rI_pL, rL_sI, rL_sL, rL_wI, rL_wL, rL_pI, rL_pL, aI_sI, aI_sL, aI_wI, aI_wL, aI_pI, aI_pL, aL_sI, aL_sL, aL_wI, aL_wL, aL_pI, aL_pL]; exact hP j (by omega)
        have hev : ∀ x, x = (if P c = 0 then (1 : Int32) else 0) → ev (fct f0 f1 f2 f3) l[k] (c + 1, P) = (c + 1, upd P c x) := by
          intro x hx'; unfold ev; rw [c3, hx']; rfl
        by_cases hz : P c = 0
        · rw [xite_t hz]
          exact push (m + 1) 1 _ c (by omega) (by omega) hb.2 (by simp [rI_sI, rI_sL, rI_wI, rI_wL, rI_pI, rI_pL, rL_sI, rL_sL, rL_wI, rL_wL, rL_pI, rL_pL, aI_sI, aI_sL, aI_wI, aI_wL, aI_pI, aI_pL, aL_sI, aL_sL, aL_wI, aL_wL, aL_pI, aL_pL]) hL' hP' hF' (hev 1 (by rw [if_pos hz]))
        · rw [xite_f hz]
          exact push (m + 1) 0 _ c (by omega) (by omega) hb.2 (by simp [rI_sI, rI_sL, rI_wI, rI_wL, rI_pI, rI_pL, rL_sI, rL_sL, rL_wI, rL_wL, rL_pI, rL_pL, aI_sI, aI_sL, aI_wI, aI_wL, aI_pI, aI_pL, aL_sI, aL_sL, aL_wI, aL_wL, aL_pI, aL_pL]) hL' hP' hF' (hev 0 (by rw [if_neg hz]))
      · have e1 : enc l[k] = -43 := by unfold enc; rw [c3]; rfl
        rw [s4_step hk' hn hL.1 (hx.trans e1), xite_f (by decide), xite_f (by decide), xite_f (by decide), xite_f (by decide), xite_f (by decide), xite_f (by decide), xite_f (by decide)]
        exact bin m 4 (-43) (by omega) c3 (by omega) (by decide) (fun x y ξ => by rw [Int32.neg_neg]; exact s4_joined_4 x y)
      · have e1 : enc l[k] = -45 := by unfold enc; rw [c3]; rfl
        rw [s4_step hk' hn hL.1 (hx.trans e1), xite_f (by decide), xite_f (by decide), xite_f (by decide), xite_f (by decide), xite_f (by decide), xite_f (by decide), xite_f (by decide)]
        exact bin m 5 (-45) (by omega) c3 (by omega) (by decide) (fun x y ξ => by rw [Int32.neg_neg]; exact s4_joined_5 x y)
      · have e1 : enc l[k] = -42 := by unfold enc; rw [c3]; rfl
        rw [s4_step hk' hn hL.1 (hx.trans e1), xite_f (by decide), xite_f (by decide), xite_f (by decide), xite_f (by decide), xite_f (by decide), xite_f (by decide), xite_f (by decide)]
        exact bin m 6 (-42) (by omega) c3 (by omega) (by decide) (fun x y ξ => by rw [Int32.neg_neg]; exact s4_joined_6 x y)
      · have e1 : enc l[k] = -60 := by unfold enc; rw [c3]; rfl
        rw [s4_step hk' hn hL.1 (hx.trans e1), xite_f (by decide), xite_f (by decide), xite_f (by decide), xite_f (by decide), xite_f (by decide), xite_f (by decide), xite_f (by decide)]
        exact bin m 7 (-60) (by omega) c3 (by omega) (by decide) (fun x y ξ => by rw [Int32.neg_neg]; exact s4_joined_7 x y)
      · have e1 : enc l[k] = -61 := by unfold enc; rw [c3]; rfl
        rw [s4_step hk' hn hL.1 (hx.trans e1), xite_f (by decide), xite_f (by decide), xite_f (by decide), xite_f (by decide), xite_f (by decide), xite_f (by decide), xite_f (by decide)]
        exact bin m 8 (-61) (by omega) c3 (by omega) (by decide) (fun x y ξ => by rw [Int32.neg_neg]; exact s4_joined_8 x y)
      · have e1 : enc l[k] = -149 := by unfold enc; rw [c3]; rfl
        rw [s4_step hk' hn hL.1 (hx.trans e1), xite_f (by decide), xite_t rfl]
        exact bin m 9 (-149) (by omega) c3 (by omega) (by decide) (fun x y ξ => by rw [Int32.neg_neg]; exact s4_joined_9 x y)
      · have e1 : enc l[k] = -150 := by unfold enc; rw [c3]; rfl
        rw [s4_step hk' hn hL.1 (hx.trans e1), xite_f (by decide), xite_f (by decide), xite_t rfl]
        exact bin m 10 (-150) (by omega) c3 (by omega) (by decide) (fun x y ξ => by rw [Int32.neg_neg]; exact s4_joined_10 x y)
end
