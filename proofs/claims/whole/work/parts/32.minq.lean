/-! THE PURE PART: the reference's holes, look -/
/-- the reference's row of depths -/
def MD (h : HS) (μ : XM) : Prop := ∀ x n, x < 10 → n < 21 → aI μ 12 0 32 (21 * x + n) = dp h x n
section
variable {A : AS} {μ : XM}
theorem m_depths (hI : AI A) (hR1 : RM A μ) : ∃ ν, f12_depthsNow μ = xrv ν ∧ MD (aH A) ν ∧ QM μ ν := by
  rw [f12_depthsNow_e, k12_depthsNow, vI_eq]
  have inner : ∀ x, x < 10 → ∀ d k n ν, k + d = 21 → d + 1 ≤ n → KM A 987 (s0g (aH A) x) k μ ν → (∀ x' n, x' < x → n < 21 → aI ν 12 0 32 (21 * x' + n) = dp (aH A) x' n) → (∀ n, n < k → aI ν 12 0 32 (21 * x + n) = dp (aH A) x n) →
      ∃ n' ν', n ≤ n' + d + 1 ∧ h12_depthsNow_26 n (nI x) (nI k) ν = h12_depthsNow_2 n' (nI (x + 1)) ν' ∧ QM μ ν' ∧ ∀ x' n, x' < x + 1 → n < 21 → aI ν' 12 0 32 (21 * x' + n) = dp (aH A) x' n := by
    intro x hx d
    induction d with
    | zero =>
      intro k n ν e hn hK h1 h2
      obtain ⟨m, rfl⟩ : ∃ m, n = m + 1 := ⟨n - 1, by omega⟩
      obtain rfl : k = 21 := by omega
      refine ⟨m, ν, by omega, ?_, hK.2, fun x' n hx' hn' => ?_⟩
      · rw [h12_depthsNow_26_s, xite_t (by decide), vI_eq, ← nI_succ]
      · by_cases ex : x' = x
        · subst ex; exact h2 n hn'
        · exact h1 x' n (by omega) hn'
    | succ d ih =>
      intro k n ν e hn hK h1 h2
      obtain ⟨m, rfl⟩ : ∃ m, n = m + 1 := ⟨n - 1, by omega⟩
      have h20 : ¬ (20 : Int32) < nI k := nI_nlt (a := 20) (b := k) (by omega) (by omega)
      have ee : (21 * nI x + nI k : Int32) = nI (21 * x + k) := by rw [show (21 : Int32) = nI 21 from rfl, pk_mul, nI_add]
      have x9 : xin 989 1081 = true := xin_t (k := 989) (by omega) (by omega)
      have t9 : Int32.toNatClampNeg 989 = 987 + 2 := rfl
      have hQ' : QM ν (pI ν 12 0 32 (21 * x + k) (itr (aH A) (s0g (aH A) x) k 6 0)) := QM_p (by omega)
      have hS' : RS 987 (aH A) (itr (aH A) (s0g (aH A) x) k) (pI ν 12 0 32 (21 * x + k) (itr (aH A) (s0g (aH A) x) k 6 0)) := by
        have e24 : ∀ j, aI (pI ν 12 0 32 (21 * x + k) (itr (aH A) (s0g (aH A) x) k 6 0)) 12 0 24 j = aI ν 12 0 24 j := by
          intro j; rw [aI_pI]; simp only [show ¬ (24 = 32) by decide, false_and, and_false, ↓reduceIte]
        exact RS_out (RH_6 (RM_H hR1)) (RH_3 (RM_H hR1)) (fun j _ _ => e24 j) hK.1
      have hK' : KM A 987 (s0g (aH A) x) k μ (pI ν 12 0 32 (21 * x + k) (itr (aH A) (s0g (aH A) x) k 6 0)) := ⟨hS', QM_t hK.2 hQ'⟩
      obtain ⟨ξ, e3, e4, e5⟩ := s12_passes (KM_H hR1 hK') (RL_q hK'.2 hR1.2.1) (AI_W hI) (AI_H hI) hK'.1 (SI_itr (AI_H hI) (s0g_SI (AI_H hI) (show x ≤ 9 by omega)) k) (by omega)
      have e3' : f12_passes 987 (pI ν 12 0 32 (21 * x + k) (itr (aH A) (s0g (aH A) x) k 6 0)) = xri (nI (sunkN (aH A) (itr (aH A) (s0g (aH A) x) k))) ξ := e3
      have hK2 : KM A 987 (s0g (aH A) x) (k + 1) μ ξ := ⟨e4, QM_t hK'.2 (FX_Q e5 (by omega))⟩
      have hfr : aI ξ 12 0 32 = aI (pI ν 12 0 32 (21 * x + k) (itr (aH A) (s0g (aH A) x) k 6 0)) 12 0 32 := e5.2.2.2.1 32 (by decide) (by decide) (by decide)
      have q1 : ∀ x' n, x' < x → n < 21 → aI ξ 12 0 32 (21 * x' + n) = dp (aH A) x' n := by
        intro x' n hx' hn'
        rw [hfr, aI_pI]
        have : ¬ 21 * x' + n = 21 * x + k := by omega
        simp only [this, and_false, ↓reduceIte]
        exact h1 x' n hx' hn'
      have q2 : ∀ n, n < k + 1 → aI ξ 12 0 32 (21 * x + n) = dp (aH A) x n := by
        intro n hn'
        rw [hfr, aI_pI]
        by_cases en : n = k
        · subst en; simp only [and_self, ↓reduceIte, dp]
        · have : ¬ 21 * x + n = 21 * x + k := by omega
          simp only [this, and_false, ↓reduceIte]
          exact h2 n (by omega)
      obtain ⟨n', ν', g1, g2, g3⟩ := ih (k + 1) m ξ (by omega) (by omega) hK2 q1 q2
      rw [h12_depthsNow_26_s, xite_f h20, xck_t x9, ee, xck_t (xin_a (by omega) (show 21 * x + k < 210 by omega)), mS_eq, nI_clamp (show 21 * x + k < 2 ^ 31 by omega), t9, hK.1.2.2.2.1, e3', bI_i, vI_eq, ← nI_succ]
      exact ⟨n', ν', by omega, g2, g3⟩
  have hend := lp_rexq (F := fun n ν k => h12_depthsNow_2 n k ν) 23 (by omega) (fun x ν => QM μ ν ∧ ∀ x' n, x' < x → n < 21 → aI ν 12 0 32 (21 * x' + n) = dp (aH A) x' n) (fun _ => false) (Q := fun _ r => ∃ ν, r = xrv ν ∧ MD (aH A) ν ∧ QM μ ν) (e := 10) ?_ ?_ 10 0 20000 μ (by omega) (by omega) ⟨QM_r, fun x' n hx' => by omega⟩
  · exact hend
  · intro n ν hJ
    rw [h12_depthsNow_2_s, xite_f (by decide)]
    exact ⟨ν, rfl, fun x n hx hn => hJ.2 x n hx hn, hJ.1⟩
  · intro n ν x hn hx hJ
    refine ⟨fun hc => absurd hc (by decide), fun _ => ?_⟩
    obtain ⟨m, rfl⟩ : ∃ m, n = m + 1 := ⟨n - 1, by omega⟩
    have h10 : nI x < (10 : Int32) := nI_lt (b := 10) (by omega) (by omega)
    have x8 : (xin 988 1081 && true) = true := xin_a (k := 988) (by omega) (by omega)
    have t8 : Int32.toNatClampNeg 988 = 987 + 1 := rfl
    obtain ⟨ν2, e1, e2, e3⟩ := s12_starts (b := 987) (RH_q hJ.1 (RM_H hR1)) (by omega) (p := 987) rfl
    have hF3 := FX_p (q := 987 + 1) (x := nI x) e3 (by omega) (by omega)
    have h32 : aI (pI ν2 12 0 24 (987 + 1) (nI x)) 12 0 32 = aI ν 12 0 32 := hF3.2.2.2.1 32 (by decide) (by decide) (by decide)
    have hK : KM A 987 (s0g (aH A) x) 0 μ (pI ν2 12 0 24 (987 + 1) (nI x)) := by
      refine ⟨?_, QM_t hJ.1 (FX_Q hF3 (by omega))⟩
      refine ⟨fun g hg => ?_, fun m' hm' => ?_, ?_, ?_, ?_⟩
      · obtain ⟨a1, a2, a3, a4⟩ := e2.1 g hg
        refine ⟨?_, ?_, ?_, ?_⟩
        · rw [st_ne (by omega), a1]; simp [itr, s0g, up]
        · rw [st_ne (by omega), a2]; simp [itr, s0g, up]
        · rw [st_ne (by omega), a3]; simp [itr, s0g, up]
        · rw [st_ne (by omega), a4]; simp [itr, s0g, up]
      · rw [st_ne (by omega), e2.2.1 m' hm']; simp [itr, s0g, up]
      · rw [st_eq]; simp [itr, s0g, up]
      · rw [st_ne (by omega), e2.2.2.2.1]; simp [itr, s0g, up]
      · rw [st_ne (by omega), e2.2.2.2.2]; simp [itr, s0g, up]
    obtain ⟨n', ν', g1, g2, g3, g4⟩ := inner x hx 21 0 m _ (by omega) (by omega) hK (fun x' n hx' hn' => by rw [h32]; exact hJ.2 x' n hx' hn') (fun n hn' => by omega)
    rw [h12_depthsNow_2_s, xite_t h10, e1, bV_v, xck_t x8, mS_eq, vI_eq, t8]
    exact ⟨ν', n', by omega, ⟨g3, g4⟩, g2⟩
theorem m_hol_in {h : HS} {q : SQ} (hD : MD h μ) (hQ : RQ 0 q μ) (hq : QI q) {x : Nat} (hx : x < 10) (a : Nat) : ∀ d k n, k + d = q.1 → d + 1 ≤ n → ∃ n', n ≤ n' + d + 1 ∧ h12_holesNow_19 n (nI a) (nI x) (b2 (alw h q x k)) (nI k) μ = h12_holesNow_8 n' (nI (if poss h q x then a ||| 2 ^ x else a)) (nI (x + 1)) μ := by
  have hq8 := hq.1
  have x30 : xin 30 1081 = true := xin_t (k := 30) (by omega) (by omega)
  have t30 : Int32.toNatClampNeg 30 = 0 + 30 := rfl
  intro d
  induction d with
  | zero =>
    intro k n e hn
    obtain ⟨m, rfl⟩ : ∃ m, n = m + 1 := ⟨n - 1, by omega⟩
    obtain rfl : k = q.1 := by omega
    refine ⟨m, by omega, ?_⟩
    have hp : alw h q x q.1 = poss h q x := rfl
    rw [h12_holesNow_19_s, xck_t x30, t30, hQ.1, xite_f Int32.lt_irrefl, hp]
    cases poss h q x with
    | true => rw [xite_f (by decide), vI_eq, vI_eq, or_bit _ (show x < 31 by omega), ← nI_succ]; rfl
    | false => rw [xite_t (by decide), vI_eq, vI_eq, or_0, ← nI_succ]; rfl
  | succ d ih =>
    intro k n e hn
    obtain ⟨m, rfl⟩ : ∃ m, n = m + 1 := ⟨n - 1, by omega⟩
    obtain ⟨q1, q2, q3⟩ := hq.2 k (by omega)
    obtain ⟨a1, a2⟩ := hQ.2 k (by omega)
    obtain ⟨n', g1, g2⟩ := ih (k + 1) m (by omega) (by omega)
    refine ⟨n', by omega, ?_⟩
    have e1 : (31 + 2 * nI k : Int32) = nI (0 + 31 + 2 * k) := by rw [show (31 : Int32) = nI 31 from rfl, L2, pk_mul, nI_add]
    have e2 : (nI (0 + 31 + 2 * k) + 1 : Int32) = nI (0 + 31 + 2 * k + 1) := (nI_succ _).symm
    have e3 : (21 * nI x + nI (q.2 k).2 : Int32) = nI (21 * x + (q.2 k).2) := by rw [show (21 : Int32) = nI 21 from rfl, pk_mul, nI_add]
    have p1 : xin (nI (0 + 31 + 2 * k)) 1081 = true := xin_t (by omega) (by omega)
    have p2 : xin (nI (0 + 31 + 2 * k + 1)) 1081 = true := xin_t (by omega) (by omega)
    have p3 : xin (nI (21 * x + (q.2 k).2)) 210 = true := xin_t (by omega) (by omega)
    have t1 : (nI (0 + 31 + 2 * k)).toNatClampNeg = 0 + 31 + 2 * k := nI_clamp (by omega)
    have t2 : (nI (0 + 31 + 2 * k + 1)).toNatClampNeg = 0 + 31 + 2 * k + 1 := nI_clamp (by omega)
    have t3 : (nI (21 * x + (q.2 k).2)).toNatClampNeg = 21 * x + (q.2 k).2 := nI_clamp (by omega)
    rw [h12_holesNow_19_s, xck_t x30, t30, hQ.1, xite_t (nI_lt (by omega) (by omega)), e1]
    simp only [vI_eq, e2, t1, t2, a1, a2, e3, xck_t p1, xck_t p2, xck_t p3, t3, hD x (q.2 k).2 hx (by omega), ← nI_succ, xite_eq]
    rw [← g2]
    cases hal : alw h q x k with
    | false =>
      have : alw h q x (k + 1) = false := by rw [alw, hal, Bool.false_and]
      rw [this, if_pos (by decide)]; rfl
    | true =>
      rw [if_neg (by decide)]
      by_cases hz : dp h x (q.2 k).2 = nI (q.2 k).1
      · have : alw h q x (k + 1) = true := by rw [alw, hal, decide_eq_true hz]; rfl
        rw [this, if_pos hz]; rfl
      · have : alw h q x (k + 1) = false := by rw [alw, hal, decide_eq_false hz]; rfl
        rw [this, if_neg hz]; rfl
theorem m_holesNow (hI : AI A) (hR1 : RM A μ) : ∃ ν, f12_holesNow μ = xri (nI (possN (aH A) (aQ A))) ν ∧ MD (aH A) ν ∧ QM μ ν := by
  obtain ⟨ν, e1, e2, e3⟩ := m_depths hI hR1
  have hR2 := RM_q hI hR1 e3
  have hQ : RQ 0 (aQ A) ν := hR2.2.2.2.2.2.2.2.1
  have hq := AI_Q hI
  have hq8 := hq.1
  rw [f12_holesNow_e, k12_holesNow, e1, bV_v, vI_eq, vI_eq]
  have key := lp_rexq (F := fun n (a : Nat) k => h12_holesNow_8 n (nI a) k ν) 10 (by omega) (fun x a => a = bN (fun x => poss (aH A) (aQ A) x) x) (fun _ => false) (Q := fun _ r => r = xri (nI (possN (aH A) (aQ A))) ν) (e := 10) ?_ ?_ 10 0 20000 0 (by omega) (by omega) rfl
  · exact ⟨ν, key, e2, e3⟩
  · intro n a ha
    rw [h12_holesNow_8_s, xite_f (by decide), ha]; rfl
  · intro n a x hn hx ha
    refine ⟨fun hc => absurd hc (by decide), fun _ => ?_⟩
    obtain ⟨m, rfl⟩ : ∃ m, n = m + 1 := ⟨n - 1, by omega⟩
    obtain ⟨n', g1, g2⟩ := m_hol_in e2 hQ hq hx a (aQ A).1 0 m (by omega) (by omega)
    have h10 : nI x < (10 : Int32) := nI_lt (b := 10) (by omega) (by omega)
    refine ⟨if poss (aH A) (aQ A) x then a ||| 2 ^ x else a, n', by omega, ?_, ?_⟩
    · rw [ha]; rfl
    · rw [h12_holesNow_8_s, xite_t h10, vI_eq, vI_eq]
      exact g2
theorem m_holes (hI : AI A) (hR : RM A μ) : OKm A A μ (f12_holes μ) (aHoles A) := by
  obtain ⟨ν, e1, e2, e3⟩ := m_holesNow hI (m0_R hI hR)
  rw [f12_holes_e, k12_holes, mS_eq]
  change OKm A A μ (bI (f12_holesNow (m0 μ)) _) _
  rw [e1, bI_i]
  exact OKm_of hI hR e3
theorem m_lk46 {h : HS} {q : SQ} (hD : MD h μ) {N dd mo : Nat} (hN : N < 21) (hdd : dd < 61) (hmo : mo ≤ 10) (best least : Int32) : ∀ d k n, k + d = 10 → d + 1 ≤ n → ∃ n', n ≤ n' + d + 1 ∧ h12_look_46 n (nI (possN h q)) best least (nI N) (nI mo) (nI dd) (nI (ct (fun y => poss h q y && decide (dp h y N = nI dd)) k)) (nI k) μ = h12_look_33 n' (nI (possN h q)) best least (nI N) (nI (if mo < cntd h q N (nI dd) then cntd h q N (nI dd) else mo)) (nI (dd + 1)) μ := by
  intro d
  induction d with
  | zero =>
    intro k n e hn
    obtain ⟨m, rfl⟩ : ∃ m, n = m + 1 := ⟨n - 1, by omega⟩
    obtain rfl : k = 10 := by omega
    refine ⟨m, by omega, ?_⟩
    have hc := cntd_le h q N (nI dd)
    rw [h12_look_46_s, xite_f (by decide)]
    simp only [vI_eq, ← nI_succ]
    change xite (nI mo < nI (cntd h q N (nI dd))) _ _ = _
    rw [xite_eq]
    by_cases hz : mo < cntd h q N (nI dd)
    · rw [if_pos (nI_lt hz (by omega)), if_pos hz]; rfl
    · rw [if_neg (nI_nlt (by omega) (by omega)), if_neg hz]
  | succ d ih =>
    intro k n e hn
    obtain ⟨m, rfl⟩ : ∃ m, n = m + 1 := ⟨n - 1, by omega⟩
    obtain ⟨n', g1, g2⟩ := ih (k + 1) m (by omega) (by omega)
    refine ⟨n', by omega, ?_⟩
    have h10 : nI k < (10 : Int32) := nI_lt (b := 10) (by omega) (by omega)
    have e3 : (21 * nI k + nI N : Int32) = nI (21 * k + N) := by rw [show (21 : Int32) = nI 21 from rfl, pk_mul, nI_add]
    have p3 : xin (nI (21 * k + N)) 210 = true := xin_t (by omega) (by omega)
    have t3 : (nI (21 * k + N)).toNatClampNeg = 21 * k + N := nI_clamp (by omega)
    have z : ∀ x : Int32, x + 0 = x := fun x => Int32.add_zero x
    rw [← g2, h12_look_46_s, xite_t h10, possN_t (by omega)]
    simp only [vI_eq, e3, xck_t p3, t3, hD k N (by omega) hN, ← nI_succ, xite_eq, b2_eq1, z, ct]
    by_cases hp : poss h q k = true
    · by_cases hz : dp h k N = nI dd
      · simp only [hp, hz, ↓reduceIte, decide_true, Bool.and_self]
      · simp only [hp, hz, ↓reduceIte, decide_false, Bool.and_false, Bool.false_eq_true]
    · simp only [hp, Bool.false_eq_true, ↓reduceIte, Bool.false_and]
theorem m_lk33 {h : HS} {q : SQ} (hD : MD h μ) {N : Nat} (hN : N < 21) (best least : Int32) : ∀ d k n, k + d = 61 → 12 * d + 1 ≤ n → ∃ n', n ≤ n' + 12 * d + 1 ∧ h12_look_33 n (nI (possN h q)) best least (nI N) (nI (mxf (fun d => cntd h q N (nI d)) k)) (nI k) μ =
      xite (nI (mxf (fun d => cntd h q N (nI d)) 61) < least) (h12_look_131 n' (nI (possN h q)) least (nI N) (nI (mxf (fun d => cntd h q N (nI d)) 61)) (nI N) μ) (h12_look_131 n' (nI (possN h q)) least (nI N) (nI (mxf (fun d => cntd h q N (nI d)) 61)) best μ) := by
  intro d
  induction d with
  | zero =>
    intro k n e hn
    obtain ⟨m, rfl⟩ : ∃ m, n = m + 1 := ⟨n - 1, by omega⟩
    obtain rfl : k = 61 := by omega
    exact ⟨m, by omega, by rw [h12_look_33_s, xite_t (by decide)]⟩
  | succ d ih =>
    intro k n e hn
    obtain ⟨m, rfl⟩ : ∃ m, n = m + 1 := ⟨n - 1, by omega⟩
    have h60 : ¬ (60 : Int32) < nI k := nI_nlt (a := 60) (b := k) (by omega) (by omega)
    have hmx : mxf (fun d => cntd h q N (nI d)) k ≤ 10 := mxf_le (fun x => cntd_le _ _ _ _) k
    obtain ⟨n1, g1, g2⟩ := m_lk46 (h := h) (q := q) hD hN (show k < 61 by omega) hmx best least 10 0 m (by omega) (by omega)
    obtain ⟨n', g3, g4⟩ := ih (k + 1) n1 (by omega) (by omega)
    refine ⟨n', by omega, ?_⟩
    rw [h12_look_33_s, xite_f h60, vI_eq, vI_eq, ← g4]
    exact g2
theorem m_look (hI : AI A) (hR : RM A μ) : OKm A A μ (f12_look μ) (aLook A) := by
  obtain ⟨ν, e1, e2, e3⟩ := m_holesNow hI (m0_R hI hR)
  have hlt : possN (aH A) (aQ A) < 1024 := bN_lt' _ (by omega)
  have hpc : pc (possN (aH A) (aQ A)) ≤ 10 := ct_le _ _
  rw [f12_look_e, k12_look, mS_eq]
  change OKm A A μ (bI (f12_holesNow (m0 μ)) _) _
  rw [e1, bI_i, vI_eq, vI_eq, s12_bits hlt, bI_i, vI_eq, vI_eq]
  have key := lp_rexq (F := fun n (a : Option Nat × Nat) k => h12_look_20 n (nI (possN (aH A) (aQ A))) (oI a.1) (nI a.2) k ν) 740 (by omega) (fun k a => 1 ≤ k ∧ a = fo (lkst (aH A) (aQ A)) (none, pc (possN (aH A) (aQ A))) k ∧ a.2 ≤ 10) (fun _ => false) (Q := fun _ r => r = xri (oI (look (aH A) (aQ A))) ν) (e := 21) ?_ ?_ 20 1 20000 (none, pc (possN (aH A) (aQ A))) (by omega) (by omega) ⟨by omega, rfl, hpc⟩
  · have key' : h12_look_20 20000 (nI (possN (aH A) (aQ A))) (-1) (nI (pc (possN (aH A) (aQ A)))) 1 ν = xri (oI (look (aH A) (aQ A))) ν := key
    rw [key']
    exact OKm_of hI hR e3
  · intro n a ha
    rw [h12_look_20_s, xite_t (by decide), ha.2.1]; rfl
  · intro n a k hn hk ha
    refine ⟨fun hc => absurd hc (by decide), fun _ => ?_⟩
    obtain ⟨m, rfl⟩ : ∃ m, n = m + 1 := ⟨n - 1, by omega⟩
    have h20 : ¬ (20 : Int32) < nI k := nI_nlt (a := 20) (b := k) (by omega) (by omega)
    obtain ⟨n1, g1, g2⟩ := m_lk33 (h := aH A) (q := aQ A) e2 hk (oI a.1) (nI a.2) 61 0 m (by omega) (by omega)
    obtain ⟨n', rfl⟩ : ∃ n', n1 = n' + 1 := ⟨n1 - 1, by omega⟩
    have halk := alk_eq (AI_H hI) (aQ A) k
    have hal : alk (aH A) (aQ A) k ≤ 10 := by rw [halk]; exact mxf_le (fun x => cntd_le _ _ _ _) _
    rw [← halk] at g2
    have hlt2 : (nI (alk (aH A) (aQ A) k) < nI a.2) = (alk (aH A) (aQ A) k < a.2) := propext (nI_ltI (by omega) (by omega))
    have hk0 : ¬ k = 0 := by omega
    refine ⟨lkst (aH A) (aQ A) k a, n', by omega, ⟨by omega, ?_, ?_⟩, ?_⟩
    · rw [fo, ha.2.1]
    · unfold lkst; rw [if_neg hk0]; have := ha.2.2; split <;> omega
    · rw [h12_look_20_s, xite_f h20, vI_eq, vI_eq]
      have g2' : h12_look_33 m (nI (possN (aH A) (aQ A))) (oI a.1) (nI a.2) (nI k) 0 0 ν = _ := g2
      rw [g2']
      simp only [h12_look_131_s, vI_eq, xite_eq, hlt2, ← nI_succ, lkst, hk0, ↓reduceIte]
      by_cases hz : alk (aH A) (aQ A) k < a.2
      · simp only [hz, ↓reduceIte, oI]
      · simp only [hz, ↓reduceIte]
end
