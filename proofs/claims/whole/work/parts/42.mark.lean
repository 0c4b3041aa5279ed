/-! THE PURE PART: mark -/
section
variable {A : AS} {μ : XM}
theorem c_mark (hI : AI A) (hR : RC A μ) (p w : Int32) : OKc A (nMark A p w) μ (f11_mark p w μ) (b2 (vMark A p w)) := by
  obtain ⟨r1, r2, r3, r4, r5, r6, r7, r8, r9⟩ := id hR
  have hq8 := (AI_Q hI).1
  have no : ∀ n, h11_mark_22 (n + 1) w μ = xri 0 μ := fun n => by rw [h11_mark_22_s, xrb_0]
  rw [f11_mark_e, k11_mark, nMark, vMark]
  rcases inR_cases (n := 4) (by omega) p with ⟨hp, hp'⟩ | ⟨j, hj, rfl, hp1, hp2, hp3⟩
  · rw [hp, if_neg (by decide), Bool.false_and]
    by_cases h0 : p < 0
    · rw [xite_t h0, no]; exact OKc_r hR
    · rw [xite_f h0, xite_f (hp'.resolve_left h0), no]; exact OKc_r hR
  rw [hp3, xite_f hp1, xite_t hp2, xck_t (xin_t (by omega) hj), if_pos rfl, nI_clamp (show j < 2 ^ 31 by omega), Bool.true_and]
  obtain ⟨m1, m2⟩ := r7 j hj
  by_cases hw : w = 0
  · rw [xite_t hw, if_pos hw, decide_eq_true hw, Bool.true_or, f5_lay_e, k5_lay, xck_t (by decide), mS_eq]
    have a1 : ∀ t k, ¬ (t = 5 ∧ k = j) → sI μ 5 j 0 1 t k = μ t k := fun t k hn => sI_ne hn
    obtain ⟨ν, d1, d2, d3⟩ := s8_copyFrom (i := 18 + j) (j := 0) (CH_ob (a1 2 0 (by omega)) r1) (CS_ob (a1 8 0 (by omega)) r4) (by omega)
    have hq0 : CQ 0 (aQ A) ν := CQ_ob ((d3 9 0 (by omega)).trans (a1 9 0 (by omega))) r8
    obtain ⟨ξ, e1, e2, e3⟩ := s9_copyFrom (i := 1 + j) hq0 hq8 (by omega)
    rw [d1, bV_v, e1, bV_v, bV_v, xrb_1]
    have ff : ∀ t k, ¬ (t = 5 ∧ k = j) → ¬ (t = 8 ∧ k = 18 + j) → ¬ (t = 9 ∧ k = 1 + j) → ξ t k = μ t k := fun t k h1 h2 h3 => (e3 t k h3).trans ((d3 t k h2).trans (a1 t k h1))
    refine ⟨ξ, rfl, ⟨CH_ob (ff 2 0 (by omega) (by omega) (by omega)) r1, LC_ob (ff 4 0 (by omega) (by omega) (by omega)) r2, CNm_ob (ff 2 0 (by omega) (by omega) (by omega)) r3, CS_ob (ff 8 0 (by omega) (by omega) (by omega)) r4, CE_ob (ff 1 0 (by omega) (by omega) (by omega)) r5, CU_ob (ff 0 0 (by omega) (by omega) (by omega)) (fun k _ _ => ff 8 k (by omega) (by omega) (by omega)) r6, ?_, CQ_ob (ff 9 0 (by omega) (by omega) (by omega)) r8, CT_ob (ff 10 0 (by omega) (by omega) (by omega)) r9⟩, fun t k h => ff t k (by omega) (by omega) (by omega)⟩
    intro k hk
    show rI ξ 5 k 0 = b2 (layM A j k).1 ∧ ((layM A j k).1 = true → CS (18 + k) (aH A) (layM A j k).2.1 ξ ∧ CQ (1 + k) (layM A j k).2.2 ξ)
    unfold layM
    by_cases e : k = j
    · subst e
      rw [if_pos rfl]
      refine ⟨?_, fun _ => ⟨CS_ob (e3 8 _ (by omega)) d2, e2⟩⟩
      rw [rI_ob ((e3 5 k (by omega)).trans (d3 5 k (by omega))), rI_sI]; simp only [and_self, ↓reduceIte]; rfl
    · rw [if_neg e]
      obtain ⟨k1, k2⟩ := r7 k hk
      exact ⟨by rw [rI_ob (ff 5 k (by omega) (by omega) (by omega))]; exact k1, fun h => ⟨CS_ob (ff 8 _ (by omega) (by omega) (by omega)) (k2 h).1, CQ_ob (ff 9 _ (by omega) (by omega) (by omega)) (k2 h).2⟩⟩
  · rw [xite_f hw, if_neg hw, decide_eq_false hw, Bool.false_or, f5_bringBack_e, k5_bringBack, m1]
    by_cases hl : (aM A j).1 = true
    · obtain ⟨m3, m4⟩ := m2 hl
      have hj8 := (AI_M hI j hj hl).2.1
      obtain ⟨ν, d1, d2, d3⟩ := s8_copyFrom (i := 0) (j := 18 + j) r1 m3 (by omega)
      obtain ⟨ξ, e1, e2, e3⟩ := s9_copyFrom (i := 0) (CQ_ob (d3 9 (1 + j) (by omega)) m4) hj8 (by omega)
      have ff : ∀ t k, ¬ (t = 8 ∧ k = 0) → ¬ (t = 9 ∧ k = 0) → ξ t k = μ t k := fun t k h2 h3 => (e3 t k h3).trans (d3 t k h2)
      have e0 : rI ξ 5 j 0 = 1 := by rw [rI_ob (ff 5 j (by omega) (by omega)), m1, hl]; rfl
      rw [hl, xite_f (by decide), d1, bV_v, e1, bV_v, e0, xrb_1, bI_i, xite_f (by decide), f0_clear_e, k0_clear, mS_eq, bV_v, xrb_1, if_pos rfl]
      have fg : ∀ t k, ¬ (t = 8 ∧ k = 0) → ¬ (t = 9 ∧ k = 0) → ¬ (t = 0 ∧ k = 0) → sI ξ 0 0 2 0 t k = μ t k := fun t k h1 h2 h3 => (sI_ne h3).trans (ff t k h1 h2)
      obtain ⟨nx, n1, n2, n3, n4⟩ := r6
      refine ⟨_, rfl, ⟨CH_ob (fg 2 0 (by omega) (by omega) (by omega)) r1, LC_ob (fg 4 0 (by omega) (by omega) (by omega)) r2, CNm_ob (fg 2 0 (by omega) (by omega) (by omega)) r3, CS_ob ((sI_ne (by omega)).trans (e3 8 0 (by omega))) d2, CE_ob (fg 1 0 (by omega) (by omega) (by omega)) r5, ?_, CM_ob (fun k _ => fg 5 k (by omega) (by omega) (by omega)) (fun k _ => fg 8 _ (by omega) (by omega) (by omega)) (fun k _ => fg 9 _ (by omega) (by omega) (by omega)) r7, CQ_ob (sI_ne (by omega)) e2, CT_ob (fg 10 0 (by omega) (by omega) (by omega)) r9⟩, fun t k h => fg t k (by omega) (by omega) (by omega)⟩
      refine ⟨nx, n1, ?_, ?_, fun i hi => absurd hi (Nat.not_lt_zero i)⟩
      · rw [rI_sI]; simp only [show ¬ (1 = 2) by decide, and_false, ↓reduceIte]
        rw [rI_ob (ff 0 0 (by omega) (by omega))]; exact n2
      · rw [rI_sI]; simp only [and_self, ↓reduceIte]; rfl
    · have hl' : (aM A j).1 = false := by simpa using hl
      rw [hl', xite_t (by decide), show b2 false = 0 from rfl, xrb_0, bI_i, xite_t rfl, xrb_0, if_neg (by decide)]
      exact OKc_r hR
theorem RQ_copy {a c : Nat} {q : SQ} {ν : XM} (hq : q.1 ≤ 8) (e : ∀ k, k < 47 → aI ν 12 0 24 (c + k) = aI μ 12 0 24 (a + k)) (h : RQ a q μ) : RQ c q ν := by
  refine ⟨(e 30 (by omega)).trans h.1, fun k hk => ?_⟩
  have e1 := e (31 + 2 * k) (by omega)
  have e2 := e (31 + 2 * k + 1) (by omega)
  rw [show c + (31 + 2 * k) = c + 31 + 2 * k by omega, show a + (31 + 2 * k) = a + 31 + 2 * k by omega] at e1
  have e2' : aI ν 12 0 24 (c + 31 + 2 * k + 1) = aI μ 12 0 24 (a + 31 + 2 * k + 1) := by rw [show c + 31 + 2 * k + 1 = c + (31 + 2 * k + 1) by omega, show a + 31 + 2 * k + 1 = a + (31 + 2 * k + 1) by omega]; exact e2
  exact ⟨e1.trans (h.2 k hk).1, e2'.trans (h.2 k hk).2⟩
theorem m_mark (hI : AI A) (hR : RM A μ) (p w : Int32) : OKm A (nMark A p w) μ (f12_mark p w μ) (b2 (vMark A p w)) := by
  have hR1 := m0_R hI hR
  have hH := RM_H hR1
  have h6 := RH_6 hH
  have h3 := RH_3 hH
  obtain ⟨r1, r2, r3, r4, r5, r6, r7, r8, r9, r10⟩ := id hR1
  have hq8 := (AI_Q hI).1
  have hu := AI_U hI
  rw [f12_mark_e, k12_mark, mS_eq]
  change OKm A _ μ (bI (f12_within p 0 3 (m0 μ)) _) _
  rw [s12_within, bI_i, nMark, vMark]
  change OKm A _ μ (xite (b2 (wit (nI 0) (nI 3) p) = 0) _ _) _
  have hpw : wit (nI 0) (nI 3) p = inR 4 p := by
    rcases wit_cs (p := p) (a := 0) (n := 3) (by omega) (by omega) with ⟨hp, hp'⟩ | ⟨j, _, hj, rfl, hp1, hp2, hp⟩
    · rcases inR_cases (n := 4) (by omega) p with ⟨hq, _⟩ | ⟨j, hj, rfl, hp1, hp2, hp3⟩
      · rw [hp, hq]
      · exfalso
        rcases hp' with h | h
        · exact hp1 h
        · have := (nI_ltI (by omega) (by omega)).mp h; omega
    · rw [hp, inR_t (by omega) (by omega)]
  rw [hpw]
  rcases inR_cases (n := 4) (by omega) p with ⟨hp, hp'⟩ | ⟨j, hj, rfl, hp1, hp2, hp3⟩
  · rw [hp, xite_t (by decide), xrb_0, if_neg (by decide), Bool.false_and]; exact OKm_r hI hR
  rw [hp3, xite_f (by decide), if_pos rfl, nI_clamp (show j < 2 ^ 31 by omega), Bool.true_and]
  obtain ⟨m1, m2⟩ := r7 j hj
  have ej : (47 * (1 + nI j) : Int32) = nI (47 * (1 + j)) := by rw [L47, L1, nI_add, pk_mul]
  have f26 : ∀ k x, k ≠ j → aI (pI (m0 μ) 12 0 26 j x) 12 0 26 k = aI (m0 μ) 12 0 26 k := fun k x hk => by rw [aI_pI]; simp only [hk, and_false, ↓reduceIte]
  have g26 : ∀ x, aI (pI (m0 μ) 12 0 26 j x) 12 0 26 j = x := fun x => by rw [aI_pI]; simp only [and_self, ↓reduceIte]
  have a24 : ∀ x, aI (pI (m0 μ) 12 0 26 j x) 12 0 24 = aI (m0 μ) 12 0 24 := fun x => by rw [pI, aI_wI]; simp
  have fz : ∀ x, Fz (m0 μ) (pI (m0 μ) 12 0 26 j x) := fun x => ⟨rI_pI _ _ _ _ _ _ _ _ _, rI_pI _ _ _ _ _ _ _ _ _, fun k hk => by rw [pI, aI_wI]; simp only [show ¬ k = 26 by omega, and_false, ↓reduceIte], aL_pI _ _ _ _ _ _ _ _ _, aL_pI _ _ _ _ _ _ _ _ _⟩
  by_cases hw : w = 0
  · rw [xite_t hw, if_pos hw, decide_eq_true hw, Bool.true_or, h12_mark_29_s, xck_t (by rw [xin_t (by omega) hj]; rfl), nI_clamp (show j < 2 ^ 31 by omega), mS_eq, xite_t hw, xite_t hw, h12_mark_65_s, ej]
    obtain ⟨ξ, d1, d2, d3⟩ := s12_copies (μ := pI (m0 μ) 12 0 26 j 1) (a := 0) (c := 47 * (1 + j)) (n := 47) (by omega) (by omega) (by omega) (p := 0) (q := nI (47 * (1 + j))) (r := 47) rfl rfl rfl
    rw [d1, bV_v, xite_t hw, mS_eq, xrb_1]
    have z1 : Fz ξ (sI ξ 12 0 25 (rI ξ 12 0 25)) := Fz_s (by decide) (by decide)
    have b24 : aI (sI ξ 12 0 25 (rI ξ 12 0 25)) 12 0 24 = aI ξ 12 0 24 := aI_sI _ _ _ _ _ _ _ _
    have k24 : ∀ k, k < 47 * (1 + j) ∨ 47 * (1 + j) + 47 ≤ k → aI (sI ξ 12 0 25 (rI ξ 12 0 25)) 12 0 24 k = aI (m0 μ) 12 0 24 k := fun k hk => by rw [b24, d3.2.2.2.2.2 k hk, a24]
    suffices hfin : RM (aH A, aS A, aE A, aU A, layM A j, aQ A, aT A) (sI ξ 12 0 25 (rI ξ 12 0 25)) from
      ⟨_, rfl, hfin, Fr12_t m0_F (Fr12_t (fun t k h => pI_ne h) (Fr12_t d3.1 (fun t k h => sI_ne h)))⟩
    refine RM_of hR1 (Fz_t (fz 1) (Fz_t (FX_z d3) z1)) ?_ ⟨?_, fun i hi => ?_⟩ (fun k hk => ?_) ?_
    · exact RS_out h6 h3 (fun k h1 h2 => k24 k (by omega)) r4
    · rw [rI_sI]; simp only [and_self, ↓reduceIte]
      rw [d3.2.1, rI_pI]; exact r6.1
    · exact RS_out h6 h3 (fun k h1 h2 => k24 k (by omega)) (r6.2 i hi)
    · have a26 : aI (sI ξ 12 0 25 (rI ξ 12 0 25)) 12 0 26 = aI (pI (m0 μ) 12 0 26 j 1) 12 0 26 := by rw [aI_sI, d3.2.2.2.1 26 (by decide) (by decide) (by decide)]
      rw [a26]
      unfold layM
      by_cases e : k = j
      · subst e
        rw [if_pos rfl, g26]
        refine ⟨rfl, fun _ => ⟨RS_copy (a := 0) (μ := m0 μ) h6 h3 (fun i hi => ?_) r4, RQ_copy (a := 0) (μ := m0 μ) hq8 (fun i hi => ?_) r8⟩⟩
        · rw [b24, d2 i (by omega), a24]
        · rw [b24, d2 i (by omega), a24]
      · rw [if_neg e, f26 k 1 e]
        obtain ⟨k1, k2⟩ := r7 k hk
        refine ⟨k1, fun h => ⟨RS_out h6 h3 (fun i h1 h2 => k24 i (by omega)) (k2 h).1, RQ_q (fun i h1 h2 => k24 i (by omega)) ((AI_M hI k hk h).2.1) (k2 h).2⟩⟩
    · exact RQ_q (fun k h1 h2 => k24 k (by omega)) hq8 r8
  · rw [xite_f hw, if_neg hw, decide_eq_false hw, Bool.false_or, xck_t (xin_t (by omega) hj), m1]
    by_cases hl : (aM A j).1 = true
    · obtain ⟨m3, m4⟩ := m2 hl
      have hj8 := (AI_M hI j hj hl).2.1
      rw [hl, xite_f (by decide), if_pos rfl, h12_mark_29_s, xck_t (by rw [xin_t (by omega) hj]; rfl), nI_clamp (show j < 2 ^ 31 by omega), mS_eq, xite_f hw, xite_f hw, h12_mark_65_s, ej]
      obtain ⟨ξ, d1, d2, d3⟩ := s12_copies (μ := pI (m0 μ) 12 0 26 j 1) (a := 47 * (1 + j)) (c := 0) (n := 47) (by omega) (by omega) (by omega) (p := nI (47 * (1 + j))) (q := 0) (r := 47) rfl rfl rfl
      rw [d1, bV_v, xite_f hw, mS_eq, xrb_1]
      have z1 : Fz ξ (sI ξ 12 0 25 0) := Fz_s (by decide) (by decide)
      have b24 : aI (sI ξ 12 0 25 0) 12 0 24 = aI ξ 12 0 24 := aI_sI _ _ _ _ _ _ _ _
      have k24 : ∀ k, 47 ≤ k → aI (sI ξ 12 0 25 0) 12 0 24 k = aI (m0 μ) 12 0 24 k := fun k hk => by rw [b24, d3.2.2.2.2.2 k (by omega), a24]
      suffices hfin : RM (aH A, (aM A j).2.1, aE A, (0, (aU A).2), aM A, (aM A j).2.2, aT A) (sI ξ 12 0 25 0) from
        ⟨_, rfl, hfin, Fr12_t m0_F (Fr12_t (fun t k h => pI_ne h) (Fr12_t d3.1 (fun t k h => sI_ne h)))⟩
      refine RM_of hR1 (Fz_t (fz 1) (Fz_t (FX_z d3) z1)) ?_ ⟨?_, fun i hi => absurd hi (Nat.not_lt_zero i)⟩ (fun k hk => ?_) ?_
      · exact RS_copy (μ := m0 μ) h6 h3 (fun i hi => by rw [b24, d2 i (by omega), a24]) m3
      · rw [rI_sI]; simp only [and_self, ↓reduceIte]; rfl
      · have a26 : aI (sI ξ 12 0 25 0) 12 0 26 = aI (pI (m0 μ) 12 0 26 j 1) 12 0 26 := by rw [aI_sI, d3.2.2.2.1 26 (by decide) (by decide) (by decide)]
        rw [a26]
        obtain ⟨k1, k2⟩ := r7 k hk
        refine ⟨?_, fun h => ⟨RS_out h6 h3 (fun i h1 h2 => k24 i (by omega)) (k2 h).1, RQ_q (fun i h1 h2 => k24 i (by omega)) ((AI_M hI k hk h).2.1) (k2 h).2⟩⟩
        by_cases e : k = j
        · subst e; rw [g26, hl]; rfl
        · rw [f26 k 1 e]; exact k1
      · exact RQ_copy (μ := m0 μ) hj8 (fun i hi => by rw [b24, d2 i (by omega), a24]) m4
    · have hl' : (aM A j).1 = false := by simpa using hl
      rw [hl', xite_t (by decide), xrb_0, if_neg (by decide)]
      exact OKm_r hI hR
end
