/-! THE PURE PART: the reference cuts the tape -/
def sqk (k : Nat) : Nat := if k = 0 then 0 else if k = 1 then 4 else if k = 2 then 2 else if k = 3 ∨ 128 ≤ k then 1 else 3
/-- the reference's token j stands at q -/
def RK (T : TP) (q j : Nat) (μ : XM) : Prop := aI μ 12 0 4 j = nI (sqk (kq T q)) ∧ aI μ 12 0 5 j = nI q ∧ (kq T q = 2 → aL μ 12 0 6 j = lN (vq T q)) ∧ ((kq T q = 3 ∨ 128 ≤ kq T q) → aL μ 12 0 6 j = lN (vb 37 (wq T q))) ∧ (sqk (kq T q) = 3 → aL μ 12 0 6 j = lN (kq T q))
/-- the same but for the tokens -/
def FC (μ ν : XM) : Prop := Fr12 μ ν ∧ (∀ j, j ≠ 7 → j ≠ 8 → rI ν 12 0 j = rI μ 12 0 j) ∧ (∀ j, j ≠ 4 → j ≠ 5 → aI ν 12 0 j = aI μ 12 0 j) ∧ (∀ j, j ≠ 6 → aL ν 12 0 j = aL μ 12 0 j)
section
variable {μ : XM}
theorem FC_r : FC μ μ := ⟨fun _ _ _ => rfl, fun _ _ _ => rfl, fun _ _ _ => rfl, fun _ _ => rfl⟩
theorem FC_t {ν ξ : XM} (a : FC μ ν) (b : FC ν ξ) : FC μ ξ := ⟨Fr12_t a.1 b.1, fun j h1 h2 => (b.2.1 j h1 h2).trans (a.2.1 j h1 h2), fun j h1 h2 => (b.2.2.1 j h1 h2).trans (a.2.2.1 j h1 h2), fun j h => (b.2.2.2 j h).trans (a.2.2.2 j h)⟩
theorem FC_p {o q : Nat} {x : Int32} (h : o = 4 ∨ o = 5) : FC μ (pI μ 12 0 o q x) := by
  refine ⟨fun t i hn => pI_ne hn, fun j _ _ => rI_pI _ _ _ _ _ _ _ _ _, fun j h1 h2 => ?_, fun j _ => aL_pI _ _ _ _ _ _ _ _ _⟩
  have : ¬ j = o := by omega
  rw [pI, aI_wI]; simp only [this, and_false, ↓reduceIte]
theorem FC_l {q : Nat} {x : Int64} : FC μ (pL μ 12 0 6 q x) := by
  refine ⟨fun t i hn => pL_ne hn, fun j _ _ => rI_pL _ _ _ _ _ _ _ _ _, fun j _ _ => aI_pL _ _ _ _ _ _ _ _ _, fun j h => ?_⟩
  rw [pL, aL_wL]; simp only [h, and_false, ↓reduceIte]
theorem FC_s {j : Nat} {x : Int32} (h : j = 7 ∨ j = 8) : FC μ (sI μ 12 0 j x) := by
  refine ⟨fun t i hn => sI_ne hn, fun k h1 h2 => ?_, fun k _ _ => aI_sI _ _ _ _ _ _ _ _, fun k _ => aL_sI _ _ _ _ _ _ _ _⟩
  have : ¬ k = j := by omega
  rw [rI_sI]; simp only [this, and_false, ↓reduceIte]
theorem m_isL {c : Nat} (h : c < 256) : f12_isLetter (nI c) μ = xri (b2 (isL c)) μ := by
  have q1 : (nI c < 97) = (c < 97) := propext (nI_ltI (b := 97) (by omega) (by omega))
  have q2 : ((122 : Int32) < nI c) = (122 < c) := propext (nI_ltI (a := 122) (by omega) (by omega))
  rw [f12_isLetter_e, k12_isLetter, q1, q2]
  unfold isL
  by_cases h1 : c < 97
  · rw [xite_t h1, decide_eq_false (by omega)]; rfl
  · by_cases h2 : 122 < c
    · rw [xite_f h1, xite_t h2, decide_eq_true (by omega), decide_eq_false (by omega)]; rfl
    · rw [xite_f h1, xite_f h2, decide_eq_true (by omega), decide_eq_true (by omega)]; rfl
theorem m_isD {c : Nat} (h : c < 256) : f12_isDigit (nI c) μ = xri (b2 (isD c)) μ := by
  have q1 : (nI c < 48) = (c < 48) := propext (nI_ltI (b := 48) (by omega) (by omega))
  have q2 : ((57 : Int32) < nI c) = (57 < c) := propext (nI_ltI (a := 57) (by omega) (by omega))
  rw [f12_isDigit_e, k12_isDigit, q1, q2]
  unfold isD
  by_cases h1 : c < 48
  · rw [xite_t h1, decide_eq_false (by omega)]; rfl
  · by_cases h2 : 57 < c
    · rw [xite_f h1, xite_t h2, decide_eq_true (by omega), decide_eq_false (by omega)]; rfl
    · rw [xite_f h1, xite_f h2, decide_eq_true (by omega), decide_eq_true (by omega)]; rfl
theorem m_isG {c : Nat} (h : c < 256) : f12_isSignOf (nI c) μ = xri (b2 (isG c)) μ := by
  have q : ∀ k, k < 256 → (nI c = nI k) = (c = k) := fun k hk => propext (nI_eq (by omega) (by omega))
  have q1 : (nI c = 40) = (c = 40) := q 40 (by omega)
  have q2 : (nI c = 41) = (c = 41) := q 41 (by omega)
  have q3 : (nI c = 59) = (c = 59) := q 59 (by omega)
  have q4 : (nI c = 61) = (c = 61) := q 61 (by omega)
  have q5 : (nI c = 60) = (c = 60) := q 60 (by omega)
  have q6 : (nI c = 43) = (c = 43) := q 43 (by omega)
  have q7 : (nI c = 45) = (c = 45) := q 45 (by omega)
  have q8 : (nI c = 42) = (c = 42) := q 42 (by omega)
  rw [f12_isSignOf_e, k12_isSignOf, q1, q2, q3, q4, q5, q6, q7, q8]
  unfold isG
  simp only [xite_eq, xrb_0, xrb_1]
  by_cases h1 : c = 40
  · subst h1; rfl
  by_cases h2 : c = 41
  · subst h2; rfl
  by_cases h3 : c = 59
  · subst h3; rfl
  by_cases h4 : c = 61
  · subst h4; rfl
  by_cases h5 : c = 60
  · subst h5; rfl
  by_cases h6 : c = 43
  · subst h6; rfl
  by_cases h7 : c = 45
  · subst h7; rfl
  by_cases h8 : c = 42
  · subst h8; rfl
  simp only [h1, h2, h3, h4, h5, h6, h7, h8, ↓reduceIte, decide_false, Bool.or_false]; rfl
variable {T : TP}
/-- the row of signs, and its length in slot 3 -/
def RZ (T : TP) (μ : XM) : Prop := rI μ 12 0 3 = nI T.1 ∧ ∀ k, k < T.1 → aI μ 12 0 1 k = nI (T.2 k)
theorem RZ_C {ν : XM} (a : FC μ ν) (h : RZ T μ) : RZ T ν := by unfold RZ at *; rw [a.2.1 3 (by decide) (by decide), a.2.2.1 1 (by decide) (by decide)]; exact h
theorem cut_word (hT : TI T) {q : Nat} {v1 : Int32} : ∀ d n j (v : Int64), q + j + d = T.1 → d < n → RZ T μ → (j ≤ 8 → v = lN (vb 37 (wrd T q j))) →
    ∃ m w, n ≤ m + (run (fun k => isL (T.2 k)) d (q + j) - (q + j)) + 1 ∧ h12_cutAll_70 n v1 (nI (q + j)) (nI q) v μ = h12_cutAll_129 m v1 (nI (run (fun k => isL (T.2 k)) d (q + j))) (nI q) w μ ∧ (run (fun k => isL (T.2 k)) d (q + j) - q ≤ 8 → w = lN (vb 37 (wrd T q (run (fun k => isL (T.2 k)) d (q + j) - q))))
  | 0, n, j, v, hp, hn, hC, h6 => by
    obtain ⟨n, rfl⟩ : ∃ m, n = m + 1 := ⟨n - 1, by omega⟩
    have := hT.1
    rw [h12_cutAll_70_s, hC.1, xite_f (nI_nlt (by omega) (by omega))]
    exact ⟨n, v, by omega, rfl, fun h => by rw [run, Nat.add_sub_cancel_left] at *; exact h6 h⟩
  | d + 1, n, j, v, hp, hn, hC, h6 => by
    obtain ⟨n, rfl⟩ : ∃ m, n = m + 1 := ⟨n - 1, by omega⟩
    have := hT.1
    have h256 := T_256 hT (show q + j < T.1 by omega)
    rw [h12_cutAll_70_s, hC.1, xite_t (nI_lt (by omega) (by omega)), xck_t (xin_t (by omega) (by omega)), nI_clamp (by omega), hC.2 _ (by omega), m_isL h256, bI_i, run]
    by_cases hb : isL (T.2 (q + j)) = true
    · have hc : 97 ≤ T.2 (q + j) ∧ T.2 (q + j) ≤ 122 := by simpa [isL] using hb
      have e8 : (nI (q + j) - nI q < 8) = (j < 8) := by
        rw [pk_sub (by omega), Nat.add_sub_cancel_left]; exact propext (nI_ltI (b := 8) (by omega) (by omega))
      rw [hb, xite_f (by decide), if_pos rfl, e8]
      by_cases h8 : j < 8
      · have er : f12_rank (nI (T.2 (q + j))) μ = xri (nI (T.2 (q + j) - 96)) μ := by
          rw [f12_rank_e, k12_rank, m_isL h256, bI_i, hb, xite_f (by decide), show (96 : Int32) = nI 96 from rfl, pk_sub (by omega)]
        have e4 : (37 * lN (vb 37 (wrd T q j)) + lN (T.2 (q + j) - 96) : Int64) = lN (vb 37 (wrd T q (j + 1))) := by
          rw [show (37 : Int64) = lN 37 from rfl, lN_mul, lN_add, wrd, vb_snoc]
        rw [xite_t h8, xck_t (xin_t (by omega) (by omega)), hC.2 _ (by omega), er, bI_i, nI_l (by omega), h6 (by omega), e4, vL_eq, vI_eq, ← nI_succ]
        have hrg := run_ge (fun k => isL (T.2 k)) d (q + j + 1)
        obtain ⟨m, w, a1, a2, a3⟩ := cut_word hT (q := q) (v1 := v1) d n (j + 1) _ (by omega) (by omega) hC (fun _ => rfl)
        rw [← Nat.add_assoc] at a1
        exact ⟨m, w, by omega, a2, a3⟩
      · rw [xite_f h8, vL_eq, vI_eq, ← nI_succ]
        have hrg := run_ge (fun k => isL (T.2 k)) d (q + j + 1)
        obtain ⟨m, w, a1, a2, a3⟩ := cut_word hT (q := q) (v1 := v1) d n (j + 1) v (by omega) (by omega) hC (fun h => by omega)
        rw [← Nat.add_assoc] at a1
        exact ⟨m, w, by omega, a2, a3⟩
    · have hb' : isL (T.2 (q + j)) = false := by simpa using hb
      rw [hb', xite_t (by decide), if_neg (by decide)]
      exact ⟨n, v, by omega, rfl, fun h => by rw [Nat.add_sub_cancel_left] at *; exact h6 h⟩
theorem cut_fig (hT : TI T) {q : Nat} {v1 : Int32} : ∀ d n j (v : Int64), q + j + d = T.1 → d < n → RZ T μ → (j ≤ 4 → v = lN (fig T q j)) →
    ∃ m w, n ≤ m + (run (fun k => isD (T.2 k)) d (q + j) - (q + j)) + 1 ∧ h12_cutAll_159 n v1 (nI (q + j)) (nI q) v μ = h12_cutAll_218 m v1 (nI (run (fun k => isD (T.2 k)) d (q + j))) (nI q) w μ ∧ (run (fun k => isD (T.2 k)) d (q + j) - q ≤ 4 → w = lN (fig T q (run (fun k => isD (T.2 k)) d (q + j) - q)))
  | 0, n, j, v, hp, hn, hC, h6 => by
    obtain ⟨n, rfl⟩ : ∃ m, n = m + 1 := ⟨n - 1, by omega⟩
    have := hT.1
    rw [h12_cutAll_159_s, hC.1, xite_f (nI_nlt (by omega) (by omega))]
    exact ⟨n, v, by omega, rfl, fun h => by rw [run, Nat.add_sub_cancel_left] at *; exact h6 h⟩
  | d + 1, n, j, v, hp, hn, hC, h6 => by
    obtain ⟨n, rfl⟩ : ∃ m, n = m + 1 := ⟨n - 1, by omega⟩
    have := hT.1
    have h256 := T_256 hT (show q + j < T.1 by omega)
    rw [h12_cutAll_159_s, hC.1, xite_t (nI_lt (by omega) (by omega)), xck_t (xin_t (by omega) (by omega)), nI_clamp (by omega), hC.2 _ (by omega), m_isD h256, bI_i, run]
    by_cases hb : isD (T.2 (q + j)) = true
    · have hc : 48 ≤ T.2 (q + j) ∧ T.2 (q + j) ≤ 57 := by simpa [isD] using hb
      have e8 : (nI (q + j) - nI q < 4) = (j < 4) := by
        rw [pk_sub (by omega), Nat.add_sub_cancel_left]; exact propext (nI_ltI (b := 4) (by omega) (by omega))
      rw [hb, xite_f (by decide), if_pos rfl, e8]
      by_cases h8 : j < 4
      · have e4 : ((10 * lN (fig T q j) + lN (T.2 (q + j))) - 48 : Int64) = lN (fig T q (j + 1)) := by
          rw [show (10 : Int64) = lN 10 from rfl, show (48 : Int64) = lN 48 from rfl, lN_mul, lN_add, lN_sub (by omega), fig]; congr 1; omega
        rw [xite_t h8, xck_t (xin_t (by omega) (by omega)), hC.2 _ (by omega), nI_l (by omega), h6 (by omega), e4, vL_eq, vI_eq, ← nI_succ]
        have hrg := run_ge (fun k => isD (T.2 k)) d (q + j + 1)
        obtain ⟨m, w, a1, a2, a3⟩ := cut_fig hT (q := q) (v1 := v1) d n (j + 1) _ (by omega) (by omega) hC (fun _ => rfl)
        rw [← Nat.add_assoc] at a1
        exact ⟨m, w, by omega, a2, a3⟩
      · rw [xite_f h8, vL_eq, vI_eq, ← nI_succ]
        have hrg := run_ge (fun k => isD (T.2 k)) d (q + j + 1)
        obtain ⟨m, w, a1, a2, a3⟩ := cut_fig hT (q := q) (v1 := v1) d n (j + 1) v (by omega) (by omega) hC (fun h => by omega)
        rw [← Nat.add_assoc] at a1
        exact ⟨m, w, by omega, a2, a3⟩
    · have hb' : isD (T.2 (q + j)) = false := by simpa using hb
      rw [hb', xite_t (by decide), if_neg (by decide)]
      exact ⟨n, v, by omega, rfl, fun h => by rw [Nat.add_sub_cancel_left] at *; exact h6 h⟩
theorem RK_C {ν : XM} {q j : Nat} (e4 : aI ν 12 0 4 j = aI μ 12 0 4 j) (e5 : aI ν 12 0 5 j = aI μ 12 0 5 j) (e6 : aL ν 12 0 6 j = aL μ 12 0 6 j) (h : RK T q j μ) : RK T q j ν := by
  unfold RK at *; rw [e4, e5, e6]; exact h
theorem skp_unf {p : Nat} (h : p < T.1) : skp T p = if isB (T.2 p) = true then skp T (p + 1) else p := by
  unfold skp
  obtain ⟨d, hd⟩ : ∃ d, T.1 - p = d + 1 := ⟨T.1 - p - 1, by omega⟩
  rw [hd, run]
  have : T.1 - (p + 1) = d := by omega
  rw [this]
/-- one token is cut -/
theorem cut_one (hT : TI T) {p j n : Nat} (hp : p < T.1) (hj : j < 1002) (hb : isB (T.2 p) = false) (hC : RZ T μ) (hn : (T.1 - p) * 4 < n) :
    ∃ ν m, n ≤ m + (nq T p - p) * 4 ∧ h12_cutAll_17 n (nI j) (nI p) μ = h12_cutAll_17 m (nI (j + 1)) (nI (nq T p)) ν ∧ RK T p j ν ∧ (∀ k, k ≠ j → aI ν 12 0 4 k = aI μ 12 0 4 k ∧ aI ν 12 0 5 k = aI μ 12 0 5 k ∧ aL ν 12 0 6 k = aL μ 12 0 6 k) ∧ FC μ ν := by
  have h1000 := hT.1
  have h256 := T_256 hT hp
  obtain ⟨n, rfl⟩ : ∃ m, n = m + 1 := ⟨n - 1, by omega⟩
  have hb1 : ¬ T.2 p = 32 ∧ ¬ T.2 p = 10 := by simpa [isB] using hb
  have q1 : ¬ nI (T.2 p) = 10 := fun e => hb1.2 ((nI_eq (b := 10) (by omega) (by omega)).mp e)
  have q2 : ¬ nI (T.2 p) = 32 := fun e => hb1.1 ((nI_eq (b := 32) (by omega) (by omega)).mp e)
  have x5 : (xin (nI j) 1002 && true) = true := xin_a (by omega) hj
  have x6 : xin (nI j) 1002 = true := xin_t (by omega) hj
  have cj : (nI j).toNatClampNeg = j := nI_clamp (by omega)
  have f0 : FC μ (pI μ 12 0 5 j (nI p)) := FC_p (.inr rfl)
  have hC0 := RZ_C f0 hC
  rw [h12_cutAll_17_s, hC.1, xite_t (nI_lt hp (by omega)), xck_t (xin_t (by omega) (by omega)), nI_clamp (show p < 2 ^ 31 by omega), hC.2 p hp, vI_eq, xite_f q1, xite_f q2, vI_eq, vL_eq, xck_t x5, cj, mS_eq, m_isL h256, bI_i]
  -- the end of each
  have fin : ∀ (so : Int32) (w : Int64), (∀ k, k ≠ j → aI (pL (pI (pI μ 12 0 5 j (nI p)) 12 0 4 j so) 12 0 6 j w) 12 0 4 k = aI μ 12 0 4 k ∧ aI (pL (pI (pI μ 12 0 5 j (nI p)) 12 0 4 j so) 12 0 6 j w) 12 0 5 k = aI μ 12 0 5 k ∧ aL (pL (pI (pI μ 12 0 5 j (nI p)) 12 0 4 j so) 12 0 6 j w) 12 0 6 k = aL μ 12 0 6 k) ∧ FC μ (pL (pI (pI μ 12 0 5 j (nI p)) 12 0 4 j so) 12 0 6 j w) ∧ aI (pL (pI (pI μ 12 0 5 j (nI p)) 12 0 4 j so) 12 0 6 j w) 12 0 4 j = so ∧ aI (pL (pI (pI μ 12 0 5 j (nI p)) 12 0 4 j so) 12 0 6 j w) 12 0 5 j = nI p ∧ aL (pL (pI (pI μ 12 0 5 j (nI p)) 12 0 4 j so) 12 0 6 j w) 12 0 6 j = w := by
    intro so w
    refine ⟨fun k hk => ⟨?_, ?_, ?_⟩, FC_t f0 (FC_t (FC_p (.inl rfl)) FC_l), ?_, ?_, ?_⟩
    · simp [aI_pL, aI_pI, hk]
    · simp [aI_pL, aI_pI, hk]
    · rw [aL_pL, aL_pI, aL_pI]; simp [hk]
    · simp [aI_pL, aI_pI]
    · simp [aI_pL, aI_pI]
    · simp [aL_pL]
  by_cases hl : isL (T.2 p) = true
  · obtain ⟨m, w, a1, a2, a3⟩ := cut_word hT (q := p) (v1 := nI j) (T.1 - p) n 0 0 (by omega) (by omega) hC0 (fun _ => rfl)
    have a1 : n ≤ m + (eL T p - p) + 1 := a1
    have a2 : h12_cutAll_70 n (nI j) (nI p) (nI p) 0 (pI μ 12 0 5 j (nI p)) = h12_cutAll_129 m (nI j) (nI (eL T p)) (nI p) w (pI μ 12 0 5 j (nI p)) := a2
    have a3 : eL T p - p ≤ 8 → w = lN (vb 37 (wq T p)) := a3
    have hg := eL_gt hp hl
    have hle := (eL_le (T := T) (p := p) (by omega)).2
    obtain ⟨m, rfl⟩ : ∃ k, m = k + 1 := ⟨m - 1, by omega⟩
    have hnq : nq T p = eL T p := by unfold nq; rw [if_neg (by omega), if_pos hl]
    have hkq : kq T p = if 8 < eL T p - p then 1 else kdw (wq T p) := by unfold kq; rw [if_neg (by omega), if_pos hl]
    have q8 : ((8 : Int32) < nI (eL T p) - nI p) = (8 < eL T p - p) := by
      rw [pk_sub (by omega)]; exact propext (nI_ltI (a := 8) (by omega) (by omega))
    rw [hl, xite_f (by decide), a2, h12_cutAll_129_s, q8, hnq]
    by_cases h8 : 8 < eL T p - p
    · obtain ⟨g1, g2, g3, g4, g5⟩ := fin 4 w
      rw [if_pos h8] at hkq
      rw [xite_t h8, xck_t x5, cj, mS_eq, xck_t x6, mS_eq, vI_eq, ← nI_succ]
      exact ⟨_, m, by omega, rfl, ⟨by rw [g3, hkq]; rfl, g4, fun h => by omega, fun h => by omega, fun h => by rw [hkq] at h; exact absurd h (by decide)⟩, g1, g2⟩
    · obtain ⟨g1, g2, g3, g4, g5⟩ := fin 1 w
      rw [if_neg h8] at hkq
      have hk : sqk (kq T p) = 1 ∧ kq T p ≠ 2 := by
        rw [hkq]
        rcases kdw_cases (wq T p) with ⟨h1, _⟩ | ⟨k, hk, h1, _⟩
        · rw [h1]; decide
        · rw [h1]; unfold sqk
          rw [if_neg (by omega), if_neg (by omega), if_neg (by omega), if_pos (by omega)]; omega
      rw [xite_f h8, xck_t x5, cj, mS_eq, xck_t x6, mS_eq, vI_eq, ← nI_succ]
      exact ⟨_, m, by omega, rfl, ⟨by rw [g3, hk.1]; rfl, g4, fun h => absurd h hk.2, fun h => by rw [g5]; exact a3 (by omega), fun h => by rw [hk.1] at h; exact absurd h (by decide)⟩, g1, g2⟩
  · have hl' : isL (T.2 p) = false := by simpa using hl
    rw [hl', xite_t (by decide), m_isD h256, bI_i]
    by_cases hd : isD (T.2 p) = true
    · obtain ⟨m, w, a1, a2, a3⟩ := cut_fig hT (q := p) (v1 := nI j) (T.1 - p) n 0 0 (by omega) (by omega) hC0 (fun _ => rfl)
      have a1 : n ≤ m + (eD T p - p) + 1 := a1
      have a2 : h12_cutAll_159 n (nI j) (nI p) (nI p) 0 (pI μ 12 0 5 j (nI p)) = h12_cutAll_218 m (nI j) (nI (eD T p)) (nI p) w (pI μ 12 0 5 j (nI p)) := a2
      have a3 : eD T p - p ≤ 4 → w = lN (vq T p) := a3
      have hg := eD_gt hp hd
      have hle := (eD_le (T := T) (p := p) (by omega)).2
      obtain ⟨m, rfl⟩ : ∃ k, m = k + 1 := ⟨m - 1, by omega⟩
      have hnq : nq T p = eD T p := by unfold nq; rw [if_neg (by omega), if_neg hl, if_pos hd]
      have hkq : kq T p = if 4 < eD T p - p then 1 else 2 := by unfold kq; rw [if_neg (by omega), if_neg hl, if_pos hd]
      have q8 : ((4 : Int32) < nI (eD T p) - nI p) = (4 < eD T p - p) := by
        rw [pk_sub (by omega)]; exact propext (nI_ltI (a := 4) (by omega) (by omega))
      rw [hd, xite_f (by decide), a2, h12_cutAll_218_s, q8, hnq]
      by_cases h8 : 4 < eD T p - p
      · obtain ⟨g1, g2, g3, g4, g5⟩ := fin 4 w
        rw [if_pos h8] at hkq
        rw [xite_t h8, xck_t x5, cj, mS_eq, xck_t x6, mS_eq, vI_eq, ← nI_succ]
        exact ⟨_, m, by omega, rfl, ⟨by rw [g3, hkq]; rfl, g4, fun h => by omega, fun h => by omega, fun h => by rw [hkq] at h; exact absurd h (by decide)⟩, g1, g2⟩
      · obtain ⟨g1, g2, g3, g4, g5⟩ := fin 2 w
        rw [if_neg h8] at hkq
        rw [xite_f h8, xck_t x5, cj, mS_eq, xck_t x6, mS_eq, vI_eq, ← nI_succ]
        exact ⟨_, m, by omega, rfl, ⟨by rw [g3, hkq]; rfl, g4, fun h => by rw [g5]; exact a3 (by omega), fun h => by omega, fun h => by rw [hkq] at h; exact absurd h (by decide)⟩, g1, g2⟩
    · have hd' : isD (T.2 p) = false := by simpa using hd
      have hnq : nq T p = p + 1 := by unfold nq; rw [if_neg (by omega), if_neg hl, if_neg hd]
      have hkq : kq T p = if isG (T.2 p) = true then T.2 p else 1 := by unfold kq; rw [if_neg (by omega), if_neg hl, if_neg hd]
      rw [hd', xite_t (by decide), nI_l (show T.2 p < 2 ^ 31 by omega), vL_eq, m_isG h256, bI_i, hnq]
      by_cases hg : isG (T.2 p) = true
      · obtain ⟨g1, g2, g3, g4, g5⟩ := fin 3 (lN (T.2 p))
        have h61 : T.2 p ≤ 61 ∧ 40 ≤ T.2 p := by simp [isG] at hg; omega
        rw [if_pos hg] at hkq
        have hk : sqk (kq T p) = 3 := by
          rw [hkq]; unfold sqk
          rw [if_neg (by omega), if_neg (by omega), if_neg (by omega), if_neg (by omega)]
        rw [hg, xite_f (by decide), xck_t x5, mS_eq, vI_eq, xck_t x6, mS_eq, vI_eq, ← nI_succ, ← nI_succ]
        exact ⟨_, n, by omega, rfl, ⟨by rw [g3, hk]; rfl, g4, fun h => by omega, fun h => by omega, fun h => by rw [g5, hkq]⟩, g1, g2⟩
      · obtain ⟨g1, g2, g3, g4, g5⟩ := fin 4 (lN (T.2 p))
        have hg' : isG (T.2 p) = false := by simpa using hg
        rw [if_neg hg] at hkq
        rw [hg', xite_t (by decide), xck_t x5, mS_eq, vI_eq, xck_t x6, mS_eq, vI_eq, ← nI_succ, ← nI_succ]
        exact ⟨_, n, by omega, rfl, ⟨by rw [g3, hkq]; rfl, g4, fun h => by omega, fun h => by omega, fun h => by rw [hkq] at h; exact absurd h (by decide)⟩, g1, g2⟩
theorem cut_all (hT : TI T) : ∀ d p j n μ, T.1 - p ≤ d → p ≤ T.1 → skp T p = PT T j → (∀ k, k < j → PT T k < T.1) → RZ T μ → (∀ k, k < j → RK T (PT T k) k μ) → (T.1 - p) * 4 + 1 < n →
    ∃ ν m, h12_cutAll_17 n (nI j) (nI p) μ = xrv ν ∧ PT T m = T.1 ∧ (∀ k, k < m → PT T k < T.1) ∧ (∀ k, k ≤ m → RK T (PT T k) k ν) ∧ FC μ ν ∧ rI ν 12 0 7 = 0 ∧ rI ν 12 0 8 = 0 := by
  have h1000 := hT.1
  intro d
  induction d with
  | zero =>
    intro p j n μ hd hp hs hk hC hR hn
    obtain ⟨n, rfl⟩ : ∃ m, n = m + 1 := ⟨n - 1, by omega⟩
    obtain rfl : p = T.1 := by omega
    have hs2 := skp_le (T := T) (p := T.1) (Nat.le_refl _)
    have hj : j < 1002 := by
      by_cases e : j = 0
      · omega
      · have h1 := hk (j - 1) (by omega)
        rcases PT_ge T (j - 1) with h | h <;> omega
    have hPT : PT T j = T.1 := by omega
    have x5 : (xin (nI j) 1002 && true) = true := xin_a (by omega) hj
    have cj : (nI j).toNatClampNeg = j := nI_clamp (by omega)
    have e3 : ∀ x, rI (pI μ 12 0 4 j x) 12 0 3 = nI T.1 := fun x => by rw [rI_pI]; exact hC.1
    rw [h12_cutAll_17_s, hC.1, xite_f Int32.lt_irrefl, xck_t x5, cj, mS_eq, xck_t x5, e3, mS_eq, mS_eq, mS_eq]
    refine ⟨_, j, rfl, hPT, hk, fun k hk2 => ?_, FC_t (FC_p (.inl rfl)) (FC_t (FC_p (.inr rfl)) (FC_t (FC_s (.inl rfl)) (FC_s (.inr rfl)))), by simp [rI_sI], by simp [rI_sI]⟩
    by_cases e : k = j
    · subst e
      have hk0 : kq T (PT T k) = 0 := by rw [kq_0]; omega
      exact ⟨by rw [hk0]; simp [aI_sI, aI_pI, sqk]; rfl, by rw [hPT]; simp [aI_sI, aI_pI], fun h => by omega, fun h => by omega, fun h => by rw [hk0] at h; exact absurd h (by decide)⟩
    · refine RK_C ?_ ?_ ?_ (hR k (by omega))
      · simp [aI_sI, aI_pI, e]
      · simp [aI_sI, aI_pI, e]
      · rw [aL_sI, aL_sI, aL_pI, aL_pI]
  | succ d ih =>
    intro p j n μ hd hp hs hk hC hR hn
    by_cases hlt : T.1 - p ≤ d
    · exact ih p j n μ hlt hp hs hk hC hR hn
    have hp' : p < T.1 := by omega
    have h256 := T_256 hT hp'
    rw [skp_unf hp'] at hs
    by_cases hb : isB (T.2 p) = true
    · rw [if_pos hb] at hs
      obtain ⟨n, rfl⟩ : ∃ m, n = m + 1 := ⟨n - 1, by omega⟩
      obtain ⟨ν, m, a⟩ := ih (p + 1) j n μ (by omega) (by omega) hs hk hC hR (by omega)
      refine ⟨ν, m, ?_, a.2⟩
      have hb1 : T.2 p = 32 ∨ T.2 p = 10 := by simpa [isB] using hb
      rw [h12_cutAll_17_s, hC.1, xite_t (nI_lt hp' (by omega)), xck_t (xin_t (by omega) (by omega)), nI_clamp (show p < 2 ^ 31 by omega), hC.2 p hp', vI_eq]
      rcases hb1 with hb1 | hb1
      · rw [hb1, xite_f (by decide), xite_t (show nI 32 = (32 : Int32) from rfl), vI_eq, ← nI_succ]; exact a.1
      · rw [hb1, xite_t (show nI 10 = (10 : Int32) from rfl), vI_eq, ← nI_succ]; exact a.1
    · rw [if_neg hb] at hs
      have hb' : isB (T.2 p) = false := by simpa using hb
      have hj : j < 1002 := by rcases PT_ge T j with h | h <;> omega
      have hng := nq_gt hp'
      obtain ⟨ν, m, a1, a2, a3, a4, a5⟩ := cut_one hT hp' hj hb' hC (n := n) (by omega)
      obtain ⟨ξ, i, b1, b2, b3, b4, b5, b6⟩ := ih (nq T p) (j + 1) m ν (by omega) hng.2 (by rw [PT, ← hs]) (fun k hk2 => by
        by_cases e : k = j
        · rw [e]; omega
        · exact hk k (by omega)) (RZ_C a5 hC) (fun k hk2 => by
        by_cases e : k = j
        · rw [e, ← hs]; exact a3
        · obtain ⟨c1, c2, c3⟩ := a4 k e
          exact RK_C c1 c2 c3 (hR k (by omega))) (by omega)
      exact ⟨ξ, i, a2.trans b1, b2, b3, b4, FC_t a5 b5, b6⟩
/-- the reference's tape is cut; m tokens -/
theorem m_cut (hT : TI T) (hC : RT T μ) : ∃ ν m, f12_cutAll μ = xrv ν ∧ m ≤ T.1 ∧ PT T m = T.1 ∧ (∀ k, k < m → PT T k < T.1) ∧ (∀ k, k ≤ m → RK T (PT T k) k ν) ∧ Fr12 μ ν ∧ rI ν 12 0 7 = 0 ∧ rI ν 12 0 8 = 0 ∧ rI ν 12 0 2 = 0 ∧ (∀ j, j ≠ 2 → j ≠ 3 → j ≠ 7 → j ≠ 8 → rI ν 12 0 j = rI μ 12 0 j) ∧ (∀ j, j ≠ 4 → j ≠ 5 → aI ν 12 0 j = aI μ 12 0 j) ∧ (∀ j, j ≠ 6 → aL ν 12 0 j = aL μ 12 0 j) := by
  have h1000 := hT.1
  rw [f12_cutAll_e, k12_cutAll, hC.1, mS_eq, mS_eq, vI_eq, vI_eq]
  have hZ : RZ T (sI (sI μ 12 0 3 (nI T.1)) 12 0 2 0) := by
    refine ⟨by simp [rI_sI], fun k hk => ?_⟩
    rw [aI_sI, aI_sI]; exact hC.2 k hk
  obtain ⟨ν, m, a1, a2, a3, a4, a5, a6, a7⟩ := cut_all hT T.1 0 0 20000 (sI (sI μ 12 0 3 (nI T.1)) 12 0 2 0) (by omega) (by omega) rfl (fun k hk => absurd hk (Nat.not_lt_zero k)) hZ (fun k hk => absurd hk (Nat.not_lt_zero k)) (by omega)
  have hm : m ≤ T.1 := by
    by_cases e : m = 0
    · omega
    · have h1 := a3 (m - 1) (by omega)
      rcases PT_ge T (m - 1) with h | h <;> omega
  refine ⟨ν, m, a1, hm, a2, a3, a4, Fr12_t (fun t j h => by rw [sI_ne h, sI_ne h]) a5.1, a6, a7, ?_, fun j h1 h2 h3 h4 => ?_, fun j h1 h2 => ?_, fun j h => ?_⟩
  · rw [a5.2.1 2 (by decide) (by decide), rI_sI]; simp only [and_self, ↓reduceIte]
  · rw [a5.2.1 j h3 h4, rI_sI, rI_sI]; simp only [h1, h2, and_false, ↓reduceIte]
  · rw [a5.2.2.1 j h1 h2, aI_sI, aI_sI]
  · rw [a5.2.2.2 j h, aL_sI, aL_sI]
end
