/-! THE PURE PART: chance -/
theorem wit_cs {p : Int32} {a n : Nat} (ha : a < 2 ^ 30) (hn : n < 2 ^ 30) : (wit (nI a) (nI n) p = false ∧ (p < nI a ∨ nI n < p)) ∨ ∃ j, a ≤ j ∧ j ≤ n ∧ p = nI j ∧ ¬ p < nI a ∧ ¬ nI n < p ∧ wit (nI a) (nI n) p = true := by
  by_cases h0 : p < nI a
  · left; exact ⟨by simp [wit, h0], .inl h0⟩
  · by_cases h1 : nI n < p
    · left; exact ⟨by simp [wit, h1], .inr h1⟩
    · right
      have hp0 : ¬ p < 0 := by
        intro h
        apply h0
        have e : (0 : Int32) ≤ nI a := nI_pos' (by omega)
        exact Int32.lt_of_lt_of_le h e
      obtain ⟨j, j1, j2⟩ := nI_of2 (x := p) (M := nI n) (n := n) (nI_toInt (by omega)) hp0 (Int32.not_lt.mp h1)
      refine ⟨j, ?_, j1, j2, h0, h1, by simp [wit, h0, h1]⟩
      rw [j2, nI_ltI (by omega) (by omega)] at h0
      omega
def wgt (path o k : Nat) : Nat := if path.testBit k then o else 10 - o
def wM (path o : Nat) : Nat → Nat
  | 0 => 1
  | k + 1 => wM path o k * wgt path o k
def wC (path m o : Nat) : Nat → Nat
  | 0 => 1
  | k + 1 => wC path m o k * (if k < m then wgt path o k else 10)
theorem wgt_le {path o k : Nat} (ho : o ≤ 10) : wgt path o k ≤ 10 := by unfold wgt; split <;> omega
theorem wM_le {path o : Nat} (ho : o ≤ 10) : ∀ k, wM path o k ≤ 10 ^ k
  | 0 => Nat.le_refl _
  | k + 1 => by
    rw [wM, Nat.pow_succ]
    exact Nat.mul_le_mul (wM_le ho k) (wgt_le ho)
theorem wC_eq {path m o : Nat} : ∀ k, wC path m o k = if k ≤ m then wM path o k else wM path o m * 10 ^ (k - m)
  | 0 => by simp [wC, wM]
  | k + 1 => by
    rw [wC, wC_eq k]
    by_cases h : k < m
    · have h1 : k ≤ m := by omega
      have h2 : k + 1 ≤ m := by omega
      simp only [h, h1, h2, ↓reduceIte, wM]
    · have h2 : ¬ k + 1 ≤ m := by omega
      simp only [h, h2, ↓reduceIte]
      by_cases e : k = m
      · subst e
        have : k + 1 - k = 1 := by omega
        simp [this]
      · have h1 : ¬ k ≤ m := by omega
        have : k + 1 - m = (k - m) + 1 := by omega
        simp only [h1, ↓reduceIte, this, Nat.pow_succ, Nat.mul_assoc]
/-- an evening of questions -/
def pth (h : HS) (s : SS) (path : Nat) : Nat → SS
  | 0 => s
  | n + 1 => pss h (if path.testBit n = true ∧ pth h s path n 5 0 < 9 then up (pth h s path n) 5 0 (pth h s path n 5 0 + 1) else pth h s path n)
theorem SI_gap {h : HS} {s : SS} (hI : SI h s) (hg : s 5 0 < 9) : SI h (up s 5 0 (s 5 0 + 1)) := by
  obtain ⟨k, k1, k2⟩ := hI.2.2.2.1
  have hk : k < 9 := by
    rw [k2, show (9 : Int32) = nI 9 from rfl, nI_ltI (by omega) (by omega)] at hg; exact hg
  refine ⟨fun g hg => by simpa [up] using hI.1 g hg, fun g g' hg hg' hne e => ?_, fun m hm => by simpa [up] using hI.2.2.1 m hm, ⟨k + 1, by omega, by simp [up, k2, nI_succ]⟩, by simpa [up] using hI.2.2.2.2⟩
  simp [up] at e ⊢
  exact hI.2.1 g g' hg hg' hne e
theorem SI_pth {h : HS} {s : SS} (hH : HI h) (hI : SI h s) (path : Nat) : ∀ n, SI h (pth h s path n)
  | 0 => hI
  | n + 1 => by
    rw [pth]
    apply SI_pss hH
    split
    · rename_i hc; exact SI_gap (SI_pth hH hI path n) hc.2
    · exact SI_pth hH hI path n
def csm (h : HS) (s : SS) (g m o : Nat) : Nat → Nat
  | 0 => 0
  | p + 1 => csm h s g m o p + if pth h s p m 2 g = 2 then wM p o m else 0
theorem csm_le {h : HS} {s : SS} {g m o : Nat} (ho : o ≤ 10) : ∀ n, csm h s g m o n ≤ n * 10 ^ m
  | 0 => by simp [csm]
  | n + 1 => by
    rw [csm, Nat.add_mul, Nat.one_mul]
    have h1 := csm_le (h := h) (s := s) (g := g) (m := m) ho n
    have h2 := wM_le (path := n) ho m
    split <;> omega
def aChance (A : AS) (p mi od : Int32) : Int32 := if inR (hG (aH A)) p then (if wit 1 6 mi then (if wit 0 10 od then nI (csm (aH A) (aS A) p.toNatClampNeg mi.toNatClampNeg od.toNatClampNeg (2 ^ mi.toNatClampNeg) * 10 ^ (6 - mi.toNatClampNeg)) else -1) else -1) else -1
theorem tsp {v k : Nat} (hv : v < 2 ^ 31) (hk : k < 31) : (((nI v >>> (nI k &&& 31)) &&& 1) = 1) = (v.testBit k = true) := by rw [tst hv hk, b2_eq1]
section
variable {A : AS} {μ : XM}
theorem c_weightOf {path m o : Nat} (hp : path < 64) (hm : m ≤ 6) (ho : o ≤ 10) : f11_weightOf (nI path) (nI m) (nI o) μ = xri (nI (wM path o m * 10 ^ (6 - m))) μ := by
  have e6 : wM path o m * 10 ^ (6 - m) = wC path m o 6 := by
    rw [wC_eq]
    split
    · have : m = 6 := by omega
      subst this; simp
    · rfl
  rw [e6, f11_weightOf_e, k11_weightOf, vI_eq, vI_eq]
  have key := lp_fo (F := fun n (a : Nat) k => h11_weightOf_5 n (nI path) (nI m) (nI o) (nI a) k μ) (st := fun k a => a * (if k < m then wgt path o k else 10)) (G := 6) (R := fun a => xri (nI a) μ) ?_ ?_ 1 6 0 20000 (by omega) (by omega)
  · have e : ∀ n, fo (fun k a => a * (if k < m then wgt path o k else 10)) 1 n = wC path m o n := by
      intro n
      induction n with
      | zero => rfl
      | succ n ih => rw [fo, ih, wC]
    rw [e, e] at key
    exact key
  · intro n a
    rw [h11_weightOf_5_s, xite_f (by decide)]
  · intro n a k hk
    have h6 : nI k < (6 : Int32) := nI_lt (b := 6) hk (by omega)
    have hkm : (nI k < nI m) = (k < m) := propext (nI_ltI (by omega) (by omega))
    have e10 : (10 : Int32) - nI o = nI (10 - o) := pk_sub (a := 10) ho
    have e10' : nI a * (10 : Int32) = nI (a * 10) := pk_mul a 10
    simp only [h11_weightOf_5_s, xite_t h6, xite_eq, hkm, tsp (show path < 2 ^ 31 by omega) (show k < 31 by omega), vI_eq, e10, e10', pk_mul, ← nI_succ, wgt]
    by_cases h1 : k < m
    · by_cases h2 : path.testBit k = true
      · simp only [h1, h2, ↓reduceIte]
      · simp only [h1, h2, ↓reduceIte, Bool.false_eq_true]
    · simp only [h1, ↓reduceIte]
theorem c_isSunkBy (hI : AI A) (hR : RC A μ) {g path m : Nat} (hg : g < hG (aH A)) (hp : path < 64) (hm : m ≤ 6) : ∃ ν, f11_isSunkBy (nI g) (nI path) (nI m) μ = xri (b2 (decide (pth (aH A) (aS A) path m 2 g = 2))) ν ∧ RC A ν ∧ QC μ ν := by
  have h6 := CH_6 (RC_H hR)
  have hr : inR (hG (aH A)) (nI g) = true := inR_t (by omega) hg
  have hcl : (nI g).toNatClampNeg = g := nI_clamp (by omega)
  obtain ⟨ν, e1, e2⟩ := KC_start hR
  rw [f11_isSunkBy_e, k11_isSunkBy, e1, bV_v, vI_eq]
  refine lp_rel (F := fun n ν k => h11_isSunkBy_14 n (nI g) (nI path) (nI m) k ν) (fun k ν => KC A (pth (aH A) (aS A) path k) 0 μ ν) (Q := fun x => ∃ ν, x = xri (b2 (decide (pth (aH A) (aS A) path m 2 g = 2))) ν ∧ RC A ν ∧ QC μ ν) (e := m) ?_ ?_ m 0 20000 ν (by omega) (by omega) e2
  · intro n ν hK
    rw [h11_isSunkBy_14_s, xite_f Int32.lt_irrefl, s8_isInState (KC_H hR hK) hK.1, bI_i, xrb_b, hr, hcl, Bool.true_and]
    exact ⟨ν, rfl, (KC_end hR hK).1, hK.2.2⟩
  · intro n ν k hk hK
    have hs := SI_pth (AI_H hI) (AI_S hI) path k
    rw [h11_isSunkBy_14_s, xite_t (nI_lt hk (by omega)), tst (show path < 2 ^ 31 by omega) (show k < 31 by omega), s8_canAsk hK.1, bI_i]
    have step : ∀ (t : SS) (ν' : XM), KC A t 0 μ ν' → SI (aH A) t → pth (aH A) (aS A) path (k + 1) = pss (aH A) t → ∃ ξ, KC A (pth (aH A) (aS A) path (k + 1)) 0 μ ξ ∧ (bI (f8_pass 1 ν') fun r11 m10 => vI (nI k + 1) fun x12 => h11_isSunkBy_14 n (nI g) (nI path) (nI m) x12 m10) = h11_isSunkBy_14 n (nI g) (nI path) (nI m) (nI (k + 1)) ξ := by
      intro t ν' hK' ht he
      obtain ⟨ξ, e3, e4⟩ := KC_step hI hR ht hK'
      refine ⟨ξ, ?_, ?_⟩
      · rw [he]; exact e4
      · rw [e3, bI_i, vI_eq, ← nI_succ]
    by_cases hb : path.testBit k = true
    · rw [hb, xite_t (by decide)]
      by_cases h9 : pth (aH A) (aS A) path k 5 0 < 9
      · obtain ⟨ν2, d1, d2, d3⟩ := s8_openGap hK.1
        have hK2 : KC A (up (pth (aH A) (aS A) path k) 5 0 (pth (aH A) (aS A) path k 5 0 + 1)) 0 μ ν2 := ⟨d2, LC_ob (d3 4 0 (by omega)) hK.2.1, QC_t hK.2.2 (FrS_Q d3)⟩
        rw [show decide ((itr (aH A) (pth (aH A) (aS A) path k) 0) 5 0 < 9) = true from decide_eq_true h9, xite_f (by decide), d1, bV_v]
        exact step _ _ hK2 (SI_gap hs h9) (by rw [pth, if_pos ⟨hb, h9⟩])
      · rw [show decide ((itr (aH A) (pth (aH A) (aS A) path k) 0) 5 0 < 9) = false from decide_eq_false h9, xite_t (by decide)]
        exact step _ _ hK hs (by rw [pth, if_neg (fun h => h9 h.2)])
    · have hb' : path.testBit k = false := by simpa using hb
      rw [hb', xite_f (by decide)]
      exact step _ _ hK hs (by rw [pth, if_neg (fun h => hb h.1)])
theorem pw31 : ∀ m, m ≤ 6 → (1 : Int32) <<< (nI m &&& 31) = nI (2 ^ m) := fun m hm => bit_pw m (by omega)
theorem pw64 {m : Nat} (hm : m ≤ 6) : 2 ^ m ≤ 64 := by
  have : (2 : Nat) ^ m ≤ 2 ^ 6 := Nat.pow_le_pow_right (by decide) hm
  omega
theorem csm_b {h : HS} {s : SS} {g m o n : Nat} (ho : o ≤ 10) (hm : m ≤ 6) (hn : n ≤ 64) : csm h s g m o n * 10 ^ (6 - m) ≤ 64000000 := by
  have h1 := csm_le (h := h) (s := s) (g := g) (m := m) ho n
  have h2 : csm h s g m o n * 10 ^ (6 - m) ≤ (n * 10 ^ m) * 10 ^ (6 - m) := Nat.mul_le_mul_right _ h1
  have h3 : (n * 10 ^ m) * 10 ^ (6 - m) = n * 10 ^ 6 := by rw [Nat.mul_assoc, ← Nat.pow_add]; congr 2; omega
  have h4 : n * 10 ^ 6 ≤ 64 * 10 ^ 6 := Nat.mul_le_mul_right _ hn
  omega
theorem c_chance (hI : AI A) (hR : RC A μ) (p mi od : Int32) : OKc A A μ (f11_chance p mi od μ) (aChance A p mi od) := by
  have hH := RC_H hR
  have h6 := CH_6 hH
  rw [f11_chance_e, k11_chance, s2_isGuest hH, bI_i]
  rcases inR_cases (n := hG (aH A)) (by omega) p with ⟨hp, _⟩ | ⟨g, hg, rfl, _, _, hp3⟩
  · rw [hp, xite_t (by decide), aChance, hp]; exact OKc_r hR
  rw [hp3, xite_f (by decide), aChance, hp3, if_pos rfl]
  rcases wit_cs (p := mi) (a := 1) (n := 6) (by omega) (by omega) with ⟨h1, h2⟩ | ⟨m, m1, m2, rfl, h3, h4, h5⟩
  · have h1 : wit 1 6 mi = false := h1
    rw [h1, if_neg (by decide)]
    apply OKc_m hR
    rcases h2 with h | h
    · exact xite_t h
    · by_cases h0 : mi < 1
      · exact xite_t h0
      · rw [xite_f h0]; exact xite_t h
  have h3 : ¬ nI m < (1 : Int32) := h3
  have h4 : ¬ (6 : Int32) < nI m := h4
  have h5 : wit 1 6 (nI m) = true := h5
  rw [xite_f h3, xite_f h4, h5, if_pos rfl]
  rcases wit_cs (p := od) (a := 0) (n := 10) (by omega) (by omega) with ⟨h1, h2⟩ | ⟨o, _, o2, rfl, g3, g4, g5⟩
  · have h1 : wit 0 10 od = false := h1
    rw [h1, if_neg (by decide)]
    apply OKc_m hR
    rcases h2 with h | h
    · exact xite_t h
    · by_cases h0 : od < 0
      · exact xite_t h0
      · rw [xite_f h0]; exact xite_t h
  have g3 : ¬ nI o < (0 : Int32) := g3
  have g4 : ¬ (10 : Int32) < nI o := g4
  have g5 : wit 0 10 (nI o) = true := g5
  have hpw := pw64 m2
  rw [xite_f g3, xite_f g4, g5, if_pos rfl, nI_clamp (show g < 2 ^ 31 by omega), nI_clamp (show m < 2 ^ 31 by omega), nI_clamp (show o < 2 ^ 31 by omega), vI_eq, vI_eq]
  refine lp_rel (F := fun n (s : Int32 × XM) k => h11_chance_40 n (nI g) (nI m) (nI o) s.1 k s.2) (fun k s => s.1 = nI (csm (aH A) (aS A) g m o k * 10 ^ (6 - m)) ∧ RC A s.2 ∧ QC μ s.2) (Q := fun x => OKc A A μ x (nI (csm (aH A) (aS A) g m o (2 ^ m) * 10 ^ (6 - m)))) (e := 2 ^ m) ?_ ?_ (2 ^ m) 0 20000 (0, μ) (by omega) (by omega) ⟨by simp [csm, nI_0], hR, QC_r⟩
  · intro n s hJ
    rw [h11_chance_40_s, pw31 m m2, xite_f Int32.lt_irrefl, hJ.1]
    exact ⟨s.2, rfl, hJ.2.1, QC_11 hJ.2.2⟩
  · intro n s k hk hJ
    have hw : wM k o m * 10 ^ (6 - m) ≤ 1000000 := by
      have := Nat.mul_le_mul_right (10 ^ (6 - m)) (wM_le (path := k) o2 m)
      rw [← Nat.pow_add, show m + (6 - m) = 6 by omega] at this
      exact this
    rw [h11_chance_40_s, pw31 m m2, xite_t (nI_lt hk (by omega)), c_weightOf (by omega) m2 o2, bI_i, vI_eq]
    by_cases hz : wM k o m * 10 ^ (6 - m) = 0
    · rw [hz, xite_f (by decide), vI_eq, ← nI_succ]
      refine ⟨(s.1, s.2), ⟨?_, hJ.2⟩, rfl⟩
      rw [hJ.1, csm, Nat.add_mul]
      congr 1
      have hz2 : wM k o m = 0 := by
        rcases Nat.mul_eq_zero.mp hz with h | h
        · exact h
        · have := Nat.pow_pos (n := 6 - m) (show 0 < 10 by decide); omega
      rw [hz2]; simp
    · have hpos : (0 : Int32) < nI (wM k o m * 10 ^ (6 - m)) := nI_lt (a := 0) (by omega) (by omega)
      obtain ⟨ν2, d1, d2, d3⟩ := c_isSunkBy hI hJ.2.1 hg (show k < 64 by omega) m2
      rw [xite_t hpos, d1, bI_i]
      by_cases hs : pth (aH A) (aS A) k m 2 g = 2
      · rw [decide_eq_true hs, xite_f (by decide), vI_eq, vI_eq, ← nI_succ]
        refine ⟨(s.1 + nI (wM k o m * 10 ^ (6 - m)), ν2), ⟨?_, d2, QC_t hJ.2.2 d3⟩, rfl⟩
        rw [hJ.1, nI_add, csm, Nat.add_mul, if_pos hs]
      · rw [decide_eq_false hs, xite_t (by decide), vI_eq, ← nI_succ]
        refine ⟨(s.1, ν2), ⟨?_, d2, QC_t hJ.2.2 d3⟩, rfl⟩
        rw [hJ.1, csm, Nat.add_mul, if_neg hs]; simp
-- the reference
theorem RS_gap {b : Nat} {h : HS} {t : SS} {ν : XM} {x : Int32} (h6 : hG h ≤ 6) (h3 : hM h ≤ 3) (hS : RS b h t ν) : RS b h (up t 5 0 x) (pI ν 12 0 24 (b + 1) x) := by
  refine ⟨fun g hg => ?_, fun m' hm' => ?_, ?_, ?_, ?_⟩
  · obtain ⟨a1, a2, a3, a4⟩ := hS.1 g hg
    refine ⟨?_, ?_, ?_, ?_⟩
    · rw [st_ne (by omega), a1]; simp [up]
    · rw [st_ne (by omega), a2]; simp [up]
    · rw [st_ne (by omega), a3]; simp [up]
    · rw [st_ne (by omega), a4]; simp [up]
  · rw [st_ne (by omega), hS.2.1 m' hm']; simp [up]
  · rw [st_eq]; simp [up]
  · rw [st_ne (by omega), hS.2.2.2.1]; simp [up]
  · rw [st_ne (by omega), hS.2.2.2.2]; simp [up]
theorem up_same (t : SS) : up t 5 0 (t 5 0 + 0) = t := by
  funext f k
  unfold up
  split
  · rename_i h; rw [h.1, h.2, Int32.add_zero]
  · rfl
theorem m_ch_in (hI : AI A) (hR1 : RM A μ) {g path m o : Nat} (hg : g < hG (aH A)) (hp : path < 64) (hm : m ≤ 6) (ho : o ≤ 10) (v4 v6 : Int64) : ∀ d k n ν, k + d = m → 2 * d + 1 ≤ n → KM A 987 (pth (aH A) (aS A) path k) 0 μ ν →
    ∃ n' ν', n ≤ n' + 2 * d + 1 ∧ h12_chance_85 n (nI g) (nI m) (nI o) v4 v6 (nI path) (lN (wM path o k)) (nI k) ν = h12_chance_67 n' (nI g) (nI m) (nI o) v4 (if pth (aH A) (aS A) path m 2 g = 2 then v6 + lN (wM path o m) else v6 + 0) (nI (path + 1)) ν' ∧ QM μ ν' := by
  have h6 := RH_6 (RM_H hR1)
  have h3 := RH_3 (RM_H hR1)
  intro d
  induction d with
  | zero =>
    intro k n ν e hn hK
    obtain ⟨q, rfl⟩ : ∃ q, n = q + 1 := ⟨n - 1, by omega⟩
    obtain rfl : k = m := by omega
    have k3 : (1008 + nI g : Int32) = nI (987 + 21 + g) := by rw [show (1008 : Int32) = nI 1008 from rfl, nI_add]
    have x3 : xin (nI (987 + 21 + g)) 1081 = true := xin_t (by omega) (by omega)
    have q3 : (nI (987 + 21 + g)).toNatClampNeg = 987 + 21 + g := nI_clamp (by omega)
    refine ⟨q, ν, by omega, ?_, hK.2⟩
    rw [h12_chance_85_s, xite_f Int32.lt_irrefl, k3, xck_t x3, q3, (hK.1.1 g hg).2.2.1, xite_eq, vL_eq, vL_eq, vI_eq, ← nI_succ]
    simp only [vI_eq]
    show (if pth (aH A) (aS A) path k 2 g = 2 then _ else _) = _
    split <;> rfl
  | succ d ih =>
    intro k n ν e hn hK
    obtain ⟨q, rfl⟩ : ∃ q, n = q + 1 + 1 := ⟨n - 2, by omega⟩
    have hs := SI_pth (AI_H hI) (AI_S hI) path k
    have hgap : aI ν 12 0 24 (987 + 1) = pth (aH A) (aS A) path k 5 0 := hK.1.2.2.1
    have x8 : xin 988 1081 = true := xin_t (k := 988) (by omega) (by omega)
    have x8' : (xin 988 1081 && true) = true := xin_a (k := 988) (by omega) (by omega)
    have t8 : Int32.toNatClampNeg 988 = 987 + 1 := rfl
    have e10 : ((10 : Int32) - nI o).toInt64 = lN (10 - o) := by
      rw [show (10 : Int32) - nI o = nI (10 - o) from pk_sub (a := 10) ho, nI_l (by omega)]
    have eo : (nI o).toInt64 = lN o := nI_l (by omega)
    -- one minute, with gaps x
    have step : ∀ (t : SS) (x : Int32), pth (aH A) (aS A) path (k + 1) = pss (aH A) t → t = up (pth (aH A) (aS A) path k) 5 0 x → SI (aH A) t →
        ∃ n' ν', q + 1 + 1 ≤ n' + 2 * (d + 1) + 1 ∧ (bI (f12_passes 987 (pI ν 12 0 24 (987 + 1) x)) fun _ m3 => vI (nI k + 1) fun x5 => h12_chance_85 q (nI g) (nI m) (nI o) v4 v6 (nI path) (lN (wM path o (k + 1))) x5 m3) = h12_chance_67 n' (nI g) (nI m) (nI o) v4 (if pth (aH A) (aS A) path m 2 g = 2 then v6 + lN (wM path o m) else v6 + 0) (nI (path + 1)) ν' ∧ QM μ ν' := by
      intro t x he ht hst
      have hS2 : RS 987 (aH A) t (pI ν 12 0 24 (987 + 1) x) := by rw [ht]; exact RS_gap h6 h3 hK.1
      have hK2 : KM A 987 t 0 μ (pI ν 12 0 24 (987 + 1) x) := ⟨hS2, QM_t hK.2 (FX_Q (lo := 987) (hi := 1017) (FX_p FX_r (by omega) (by omega)) (by omega))⟩
      obtain ⟨ξ, e3, e4⟩ := KM_step hI hR1 hst (.inl rfl) (p := 987) rfl hK2
      have e4' : KM A 987 (pth (aH A) (aS A) path (k + 1)) 0 μ ξ := by rw [he]; exact e4
      obtain ⟨n', ν', g1, g2, g3⟩ := ih (k + 1) q ξ (by omega) (by omega) e4'
      refine ⟨n', ν', by omega, ?_, g3⟩
      rw [e3, bI_i, vI_eq, ← nI_succ]; exact g2
    rw [h12_chance_85_s, xite_t (nI_lt (by omega) (by omega)), tst (show path < 2 ^ 31 by omega) (show k < 31 by omega)]
    by_cases hb : path.testBit k = true
    · rw [hb, xite_t (by decide), vI_eq, xite_f (by decide), h12_chance_126_s, vL_eq, xck_t x8, xite_f (by decide), xck_t x8, t8, hgap, eo, lN_mul]
      have ew : wM path o k * o = wM path o (k + 1) := by rw [wM, wgt, if_pos hb]
      rw [ew]
      show ∃ n' ν', _ ∧ xite (pth (aH A) (aS A) path k 5 0 < 9) _ _ = _ ∧ _
      by_cases h9 : pth (aH A) (aS A) path k 5 0 < 9
      · rw [xite_t h9, xck_t x8', mS_eq]
        exact step _ _ (by rw [pth, if_pos ⟨hb, h9⟩]) rfl (SI_gap hs h9)
      · rw [xite_f h9, xck_t x8', mS_eq]
        exact step _ _ (by rw [pth, if_neg (fun h => h9 h.2)]) (up_same _).symm hs
    · have hb' : path.testBit k = false := by simpa using hb
      rw [hb', xite_f (by decide), vI_eq, xite_t (by decide), h12_chance_126_s, vL_eq, xck_t x8, xite_t (by decide), t8, hgap, e10, lN_mul]
      have ew : wM path o k * (10 - o) = wM path o (k + 1) := by rw [wM, wgt, if_neg hb]
      rw [ew, xck_t x8', mS_eq]
      exact step _ _ (by rw [pth, if_neg (fun h => hb h.1)]) (up_same _).symm hs
theorem m_chance (hI : AI A) (hR : RM A μ) (p mi od : Int32) : OKm A A μ (f12_chance p mi od μ) (aChance A p mi od) := by
  have hR1 := m0_R hI hR
  have hH := RM_H hR1
  have h6 := RH_6 hH
  rw [f12_chance_e, k12_chance, mS_eq]
  change OKm A A μ (bI (f12_isGuest p (m0 μ)) _) _
  rw [s12_isGuest hH, bI_i]
  rcases inR_cases (n := hG (aH A)) (by omega) p with ⟨hp, _⟩ | ⟨g, hg, rfl, _, _, hp3⟩
  · rw [hp, xite_t (by decide), aChance, hp]; exact OKm_r hI hR
  rw [hp3, xite_f (by decide), aChance, hp3, if_pos rfl, s12_within, bI_i]
  rcases wit_cs (p := mi) (a := 1) (n := 6) (by omega) (by omega) with ⟨h1, h2⟩ | ⟨m, m1, m2, rfl, h3, h4, h5⟩
  · have h1 : wit 1 6 mi = false := h1
    rw [h1, xite_t (by decide), if_neg (by decide)]; exact OKm_r hI hR
  have h5 : wit 1 6 (nI m) = true := h5
  rw [h5, xite_f (by decide), if_pos rfl, s12_within, bI_i]
  rcases wit_cs (p := od) (a := 0) (n := 10) (by omega) (by omega) with ⟨h1, h2⟩ | ⟨o, _, o2, rfl, g3, g4, g5⟩
  · have h1 : wit 0 10 od = false := h1
    rw [h1, xite_t (by decide), if_neg (by decide)]; exact OKm_r hI hR
  have g5 : wit 0 10 (nI o) = true := g5
  have hpw := pw64 m2
  rw [g5, xite_f (by decide), if_pos rfl, nI_clamp (show g < 2 ^ 31 by omega), nI_clamp (show m < 2 ^ 31 by omega), nI_clamp (show o < 2 ^ 31 by omega), vL_eq, vL_eq, vI_eq]
  have e10 : ∀ k, fo (fun _ (a : Nat) => a * 10) 1 k = 10 ^ k := by
    intro k
    induction k with
    | zero => rfl
    | succ k ih => rw [fo, ih, Nat.pow_succ]
  -- the paths
  have paths : ∀ n, 20 * 65 ≤ n → OKm A A μ (h12_chance_67 n (nI g) (nI m) (nI o) (lN (10 ^ m)) 0 0 (m0 μ)) (nI (csm (aH A) (aS A) g m o (2 ^ m) * 10 ^ (6 - m))) := by
    intro n hn
    refine lp_rexq (F := fun n (s : Int64 × XM) k => h12_chance_67 n (nI g) (nI m) (nI o) (lN (10 ^ m)) s.1 k s.2) 20 (by omega) (fun k s => s.1 = lN (csm (aH A) (aS A) g m o k) ∧ QM (m0 μ) s.2) (fun _ => false) (Q := fun _ x => OKm A A μ x (nI (csm (aH A) (aS A) g m o (2 ^ m) * 10 ^ (6 - m)))) (e := 2 ^ m) ?_ ?_ (2 ^ m) 0 n (0, m0 μ) (by omega) (by omega) ⟨rfl, QM_r⟩
    · intro n s hJ
      have hb := csm_b (h := aH A) (s := aS A) (g := g) (m := m) (o := o) (n := 2 ^ m) o2 m2 hpw
      have hp10 : 0 < 10 ^ m := Nat.pow_pos (by decide)
      have hp10' : 10 ^ m ≤ 10 ^ 6 := Nat.pow_le_pow_right (by decide) m2
      have hc : csm (aH A) (aS A) g m o (2 ^ m) ≤ 64000000 := Nat.le_trans (Nat.le_mul_of_pos_right _ (Nat.pow_pos (by decide))) hb
      have hne : ¬ lN (10 ^ m) = 0 := by
        intro e
        have := (pk_lEQ (a := 10 ^ m) (b := 0) (by omega) (by omega)).mp e
        omega
      have e6 : csm (aH A) (aS A) g m o (2 ^ m) * 1000000 / 10 ^ m = csm (aH A) (aS A) g m o (2 ^ m) * 10 ^ (6 - m) := by
        have : 1000000 = 10 ^ (6 - m) * 10 ^ m := by rw [← Nat.pow_add, show 6 - m + m = 6 by omega]
        rw [this, ← Nat.mul_assoc, Nat.mul_div_cancel _ hp10]
      rw [h12_chance_67_s, pw31 m m2, xite_f Int32.lt_irrefl, xite_f hne, hJ.1, show (1000000 : Int64) = lN 1000000 from rfl, lN_mul, pk_lDiv (by omega) hp10 (by omega), lN_i, e6]
      exact OKm_of hI hR hJ.2
    · intro n s k hn hk hJ
      refine ⟨fun hc => absurd hc (by decide), fun _ => ?_⟩
      obtain ⟨q, rfl⟩ : ∃ q, n = q + 1 := ⟨n - 1, by omega⟩
      obtain ⟨ν, e1, e2⟩ := KM_start (RM_q hI hR1 hJ.2)
      have e2' : KM A 987 (pth (aH A) (aS A) k 0) 0 (m0 μ) ν := ⟨e2.1, QM_t hJ.2 e2.2⟩
      obtain ⟨n', ν', g1, g2, g3⟩ := m_ch_in hI hR1 hg (show k < 64 by omega) m2 o2 (lN (10 ^ m)) s.1 m 0 q ν (by omega) (by omega) e2'
      refine ⟨((if pth (aH A) (aS A) k m 2 g = 2 then s.1 + lN (wM k o m) else s.1 + 0), ν'), n', by omega, ?_, ?_⟩
      rotate_left
      · rw [h12_chance_67_s, pw31 m m2, xite_t (nI_lt hk (by omega)), e1, bV_v, vL_eq, vI_eq]
        exact g2
      · refine ⟨?_, g3⟩
        show (if pth (aH A) (aS A) k m 2 g = 2 then s.1 + lN (wM k o m) else s.1 + 0) = _
        rw [hJ.1, csm]
        split
        · rw [lN_add]
        · rw [Nat.add_zero, Int64.add_zero]
  refine lp_relc 2000 (F := fun n (v : Int64) k => h12_chance_44 n (nI g) (nI m) (nI o) v 0 k (m0 μ)) (fun k v => v = lN (10 ^ k)) (Q := fun x => OKm A A μ x (nI (csm (aH A) (aS A) g m o (2 ^ m) * 10 ^ (6 - m)))) (e := m) ?_ ?_ m 0 20000 1 (by omega) (by omega) rfl
  · intro n v hc hv
    rw [h12_chance_44_s, xite_f Int32.lt_irrefl, vI_eq, hv]
    exact paths n (by omega)
  · intro n v k hk hv
    refine ⟨lN (10 ^ (k + 1)), rfl, ?_⟩
    rw [h12_chance_44_s, xite_t (nI_lt hk (by omega)), vL_eq, vI_eq, ← nI_succ, hv, show (10 : Int64) = lN 10 from rfl, lN_mul, Nat.pow_succ]
end
