/-! THE PURE PART: see, mark -/
section
variable {A : AS} {μ : XM}
-- see
def addq (q : SQ) (a b : Nat) : SQ := (q.1 + 1, fun k => if k = q.1 then (a, b) else q.2 k)
def cSee (A : AS) (p q : Int32) : Bool := wit (nI 0) (nI 60) p && (wit (nI 1) (nI 20) q && decide ((aQ A).1 < 8))
def nSee (A : AS) (p q : Int32) : AS := if cSee A p q then wQ A (addq (aQ A) p.toNatClampNeg q.toNatClampNeg) else A
theorem AI_wQ {q : SQ} (hI : AI A) (hq : QI q) : AI (wQ A q) := by
  obtain ⟨a1, a2, a3, a4, a5, a6, a7, a8, a9⟩ := hI
  exact ⟨a1, a2, a3, a4, a5, a6, a7, hq, a9⟩
theorem QI_add {q : SQ} (hq : QI q) {a b : Nat} (h : q.1 < 8) (ha : a ≤ 60) (hb : 1 ≤ b) (hb2 : b ≤ 20) : QI (addq q a b) := by
  refine ⟨by show q.1 + 1 ≤ 8; omega, fun k hk => ?_⟩
  have hk' : k < q.1 + 1 := hk
  show ((if k = q.1 then (a, b) else q.2 k) : Nat × Nat).1 ≤ 60 ∧ _
  by_cases e : k = q.1
  · have : (addq q a b).2 k = (a, b) := by show (if k = q.1 then (a, b) else q.2 k) = _; rw [if_pos e]
    rw [if_pos e, this]; exact ⟨ha, hb, hb2⟩
  · have : (addq q a b).2 k = q.2 k := by show (if k = q.1 then (a, b) else q.2 k) = _; rw [if_neg e]
    rw [if_neg e, this]; exact hq.2 k (by omega)
theorem AI_see (hI : AI A) (p q : Int32) : AI (nSee A p q) := by
  unfold nSee cSee
  rcases wit_cs (p := p) (a := 0) (n := 60) (by omega) (by omega) with ⟨hp, _⟩ | ⟨a, _, ha, rfl, _, _, hp⟩
  · rw [hp]; exact hI
  rcases wit_cs (p := q) (a := 1) (n := 20) (by omega) (by omega) with ⟨hq, _⟩ | ⟨b, hb, hb2, rfl, _, _, hq⟩
  · rw [hp, hq]; exact hI
  rw [hp, hq, Bool.true_and, Bool.true_and, nI_clamp (by omega), nI_clamp (by omega)]
  by_cases h : (aQ A).1 < 8
  · rw [decide_eq_true h, if_pos rfl]; exact AI_wQ hI (QI_add (AI_Q hI) h ha hb hb2)
  · rw [decide_eq_false h, if_neg (by decide)]; exact hI
theorem c_see (hI : AI A) (hR : RC A μ) (p q : Int32) : OKc A (nSee A p q) μ (f11_see p q μ) (b2 (cSee A p q)) := by
  rw [f11_see_e, k11_see, nSee, cSee]
  rcases wit_cs (p := p) (a := 0) (n := 60) (by omega) (by omega) with ⟨hp, hp'⟩ | ⟨a, _, ha, rfl, hp1, hp2, hp⟩
  · rw [hp]
    rcases hp' with h | h
    · rw [xite_t (show p < 0 from h), xrb_0]; exact OKc_r hR
    · by_cases h0 : p < 0
      · rw [xite_t h0, xrb_0]; exact OKc_r hR
      · rw [xite_f h0, xite_t (show (60 : Int32) < p from h), xrb_0]; exact OKc_r hR
  rw [xite_f (show ¬ nI a < (0 : Int32) from hp1), xite_f (show ¬ (60 : Int32) < nI a from hp2), hp]
  rcases wit_cs (p := q) (a := 1) (n := 20) (by omega) (by omega) with ⟨hq, hq'⟩ | ⟨b, hb, hb2, rfl, hq1, hq2, hq⟩
  · rw [hq]
    rcases hq' with h | h
    · rw [xite_t (show q < 1 from h), xrb_0]; exact OKc_r hR
    · by_cases h0 : q < 1
      · rw [xite_t h0, xrb_0]; exact OKc_r hR
      · rw [xite_f h0, xite_t (show (20 : Int32) < q from h), xrb_0]; exact OKc_r hR
  rw [xite_f (show ¬ nI b < (1 : Int32) from hq1), xite_f (show ¬ (20 : Int32) < nI b from hq2), hq, Bool.true_and, Bool.true_and, nI_clamp (by omega), nI_clamp (by omega), f9_add_e, k9_add]
  obtain ⟨r1, r2, r3, r4, r5, r6, r7, r8, r9⟩ := id hR
  have hq8 := (AI_Q hI).1
  rw [r8.1]
  by_cases h : (aQ A).1 < 8
  · have e0 : nI (aQ A).1 < (8 : Int32) := nI_lt (b := 8) h (by omega)
    have e1 : ∀ x, rI (pI μ 9 0 1 (aQ A).1 x) 9 0 0 = nI (aQ A).1 := fun x => by rw [rI_pI]; exact r8.1
    have e2 : ∀ x y, rI (pI (pI μ 9 0 1 (aQ A).1 x) 9 0 2 (aQ A).1 y) 9 0 0 = nI (aQ A).1 := fun x y => by rw [rI_pI, rI_pI]; exact r8.1
    rw [decide_eq_true h, xite_t e0, xck_t (xin_a (show 8 < 2 ^ 31 by omega) h), nI_clamp (show (aQ A).1 < 2 ^ 31 by omega), mS_eq, e1, xck_t (xin_a (show 8 < 2 ^ 31 by omega) h), nI_clamp (show (aQ A).1 < 2 ^ 31 by omega), mS_eq, e2, ← nI_succ, mS_eq, xrb_1, bI_i, xrb_1, if_pos rfl]
    have ff : ∀ t j, ¬ (t = 9 ∧ j = 0) → sI (pI (pI μ 9 0 1 (aQ A).1 (nI a)) 9 0 2 (aQ A).1 (nI b)) 9 0 0 (nI ((aQ A).1 + 1)) t j = μ t j := fun t j hn => by rw [sI_ne hn, pI_ne hn, pI_ne hn]
    refine ⟨_, rfl, ⟨CH_ob (ff 2 0 (by omega)) r1, LC_ob (ff 4 0 (by omega)) r2, CNm_ob (ff 2 0 (by omega)) r3, CS_ob (ff 8 0 (by omega)) r4, CE_ob (ff 1 0 (by omega)) r5, CU_ob (ff 0 0 (by omega)) (fun j _ _ => ff 8 j (by omega)) r6, CM_ob (fun j _ => ff 5 j (by omega)) (fun j _ => ff 8 _ (by omega)) (fun j _ => ff 9 _ (by omega)) r7, ⟨?_, fun k hk => ?_⟩, CT_ob (ff 10 0 (by omega)) r9⟩, fun t j hn => ff t j (by omega)⟩
    · rw [rI_sI]; simp only [and_self, ↓reduceIte]; rfl
    · have hk' : k < (aQ A).1 + 1 := hk
      show aI _ 9 0 1 k = nI ((if k = (aQ A).1 then (a, b) else (aQ A).2 k) : Nat × Nat).1 ∧ aI _ 9 0 2 k = nI ((if k = (aQ A).1 then (a, b) else (aQ A).2 k) : Nat × Nat).2
      by_cases e : k = (aQ A).1
      · rw [if_pos e, e]; simp [rI_sI, rI_sL, rI_wI, rI_wL, rI_pI, rI_pL, rL_sI, rL_sL, rL_wI, rL_wL, rL_pI, rL_pL, aI_sI, aI_sL, aI_wI, aI_wL, aI_pI, aI_pL, aL_sI, aL_sL, aL_wI, aL_wL, aL_pI, aL_pL]
      · rw [if_neg e]
        have := r8.2 k (by omega)
        simpa [rI_sI, rI_sL, rI_wI, rI_wL, rI_pI, rI_pL, rL_sI, rL_sL, rL_wI, rL_wL, rL_pI, rL_pL, aI_sI, aI_sL, aI_wI, aI_wL, aI_pI, aI_pL, aL_sI, aL_sL, aL_wI, aL_wL, aL_pI, aL_pL, e] using this
  · have e0 : ¬ nI (aQ A).1 < (8 : Int32) := nI_nlt (b := 8) (by omega) (by omega)
    rw [decide_eq_false h, xite_f e0, xrb_0, bI_i, xrb_0, if_neg (by decide)]
    exact OKc_r hR
theorem m_see (hI : AI A) (hR : RM A μ) (p q : Int32) : OKm A (nSee A p q) μ (f12_see p q μ) (b2 (cSee A p q)) := by
  have hR1 := m0_R hI hR
  have hH := RM_H hR1
  have h6 := RH_6 hH
  have h3 := RH_3 hH
  obtain ⟨r1, r2, r3, r4, r5, r6, r7, r8, r9, r10⟩ := id hR1
  have hq8 := (AI_Q hI).1
  have hu := AI_U hI
  have e30 : aI (m0 μ) 12 0 24 30 = nI (aQ A).1 := r8.1
  rw [f12_see_e, k12_see, mS_eq]
  change OKm A _ μ (bI (f12_within p 0 60 (m0 μ)) _) _
  rw [s12_within, bI_i, nSee, cSee]
  change OKm A _ μ (xite (b2 (wit (nI 0) (nI 60) p) = 0) _ _) _
  rcases wit_cs (p := p) (a := 0) (n := 60) (by omega) (by omega) with ⟨hp, hp'⟩ | ⟨a, _, ha, rfl, hp1, hp2, hp⟩
  · rw [hp, xite_t (by decide), xrb_0]; exact OKm_r hI hR
  rw [hp, xite_f (by decide), s12_within, bI_i]
  change OKm A _ μ (xite (b2 (wit (nI 1) (nI 20) q) = 0) _ _) _
  rcases wit_cs (p := q) (a := 1) (n := 20) (by omega) (by omega) with ⟨hq, hq'⟩ | ⟨b, hb, hb2, rfl, hq1, hq2, hq⟩
  · rw [hq, xite_t (by decide), xrb_0]; exact OKm_r hI hR
  rw [hq, xite_f (by decide), Bool.true_and, Bool.true_and, nI_clamp (show a < 2 ^ 31 by omega), nI_clamp (show b < 2 ^ 31 by omega), xck_t (by decide), show Int32.toNatClampNeg 30 = 30 from rfl, e30]
  by_cases h : (aQ A).1 < 8
  · have e0 : ¬ nI (aQ A).1 = (8 : Int32) := fun e => by have := (nI_eq (b := 8) (by omega) (by omega)).mp e; omega
    have e1 : (31 + 2 * nI (aQ A).1 : Int32) = nI (31 + 2 * (aQ A).1) := by rw [show (31 : Int32) = nI 31 from rfl, show (2 : Int32) = nI 2 from rfl, pk_mul, nI_add]
    rw [decide_eq_true h, if_pos rfl, xite_f e0, xck_t (by decide), e1, vI_eq, xck_t (xin_a (show 1081 < 2 ^ 31 by omega) (show 31 + 2 * (aQ A).1 < 1081 by omega)), nI_clamp (show 31 + 2 * (aQ A).1 < 2 ^ 31 by omega), mS_eq, ← nI_succ, xck_t (xin_a (show 1081 < 2 ^ 31 by omega) (show 31 + 2 * (aQ A).1 + 1 < 1081 by omega)), nI_clamp (show 31 + 2 * (aQ A).1 + 1 < 2 ^ 31 by omega), mS_eq, xck_t (by decide), xck_t (by decide), mS_eq, st_ne (by omega), st_ne (by omega), e30, ← nI_succ, xrb_1]
    have f : FX 30 47 (m0 μ) (pI (pI (pI (m0 μ) 12 0 24 (31 + 2 * (aQ A).1) (nI a)) 12 0 24 (31 + 2 * (aQ A).1 + 1) (nI b)) 12 0 24 30 (nI ((aQ A).1 + 1))) := FX_p (FX_p (FX_p FX_r (by omega) (by omega)) (by omega) (by omega)) (by omega) (by omega)
    refine ⟨_, rfl, RM_of hR1 (FX_z f) ?_ ⟨?_, fun i hi => ?_⟩ ?_ ⟨?_, fun k hk => ?_⟩, Fr12_t m0_F f.1⟩
    · exact RS_out h6 h3 (fun k _ _ => f.2.2.2.2.2 k (by omega)) r4
    · rw [f.2.1]; exact r6.1
    · exact RS_out h6 h3 (fun k _ _ => f.2.2.2.2.2 k (by omega)) (r6.2 i hi)
    · exact RMk_fr h6 h3 (AI_M8 hI) (fun k _ _ => f.2.2.2.2.2 k (by omega)) (f.2.2.2.1 26 (by decide) (by decide) (by decide)) r7
    · exact st_eq
    · have hk' : k < (aQ A).1 + 1 := hk
      show aI _ 12 0 24 (0 + 31 + 2 * k) = nI ((if k = (aQ A).1 then (a, b) else (aQ A).2 k) : Nat × Nat).1 ∧ aI _ 12 0 24 (0 + 31 + 2 * k + 1) = nI ((if k = (aQ A).1 then (a, b) else (aQ A).2 k) : Nat × Nat).2
      by_cases e : k = (aQ A).1
      · subst e
        rw [if_pos rfl, Nat.zero_add]
        exact ⟨by rw [st_ne (by omega), st_ne (by omega), st_eq], by rw [st_ne (by omega), st_eq]⟩
      · rw [if_neg e]
        have := r8.2 k (by omega)
        rw [st_ne (by omega), st_ne (by omega), st_ne (by omega), st_ne (by omega), st_ne (by omega), st_ne (by omega)]
        exact this
  · have e0 : nI (aQ A).1 = (8 : Int32) := by rw [show (aQ A).1 = 8 by omega]; rfl
    rw [decide_eq_false h, xite_t e0, if_neg (by decide), xrb_0]
    exact OKm_r hI hR
-- mark
def layM (A : AS) (j : Nat) : MK := fun k => if k = j then (true, aS A, aQ A) else aM A k
def nMark (A : AS) (p w : Int32) : AS :=
  if inR 4 p = true then
    if w = 0 then wMk A (layM A p.toNatClampNeg)
    else if (aM A p.toNatClampNeg).1 = true then wU (wQ (wS A (aM A p.toNatClampNeg).2.1) (aM A p.toNatClampNeg).2.2) (0, (aU A).2) else A
  else A
def vMark (A : AS) (p w : Int32) : Bool := inR 4 p && (decide (w = 0) || (aM A p.toNatClampNeg).1)
theorem AI_wM {m : MK} (hI : AI A) (hm : ∀ j, j < 4 → (m j).1 = true → SI (aH A) (m j).2.1 ∧ QI (m j).2.2) : AI (wMk A m) := by
  obtain ⟨a1, a2, a3, a4, a5, a6, a7, a8, a9⟩ := hI
  exact ⟨a1, a2, a3, a4, a5, a6, hm, a8, a9⟩
theorem AI_M (hI : AI A) : ∀ j, j < 4 → (aM A j).1 = true → SI (aH A) (aM A j).2.1 ∧ QI (aM A j).2.2 := hI.2.2.2.2.2.2.1
theorem AI_mark (hI : AI A) (p w : Int32) : AI (nMark A p w) := by
  unfold nMark
  rcases inR_cases (n := 4) (by omega) p with ⟨hp, _⟩ | ⟨j, hj, rfl, _, _, hp⟩
  · rw [hp]; exact hI
  rw [hp, if_pos rfl, nI_clamp (by omega)]
  by_cases hw : w = 0
  · rw [if_pos hw]
    refine AI_wM hI (fun k hk => ?_)
    unfold layM
    by_cases e : k = j
    · rw [if_pos e]; exact fun _ => ⟨AI_S hI, AI_Q hI⟩
    · rw [if_neg e]; exact AI_M hI k hk
  · rw [if_neg hw]
    by_cases hl : (aM A j).1 = true
    · rw [if_pos hl]
      obtain ⟨m1, m2⟩ := AI_M hI j hj hl
      exact AI_wU (AI_wQ (AI_wS hI m1) m2) ⟨Nat.zero_le _, fun i hi => absurd hi (Nat.not_lt_zero i)⟩
    · rw [if_neg hl]; exact hI
theorem s9_copyFrom {i j : Nat} {q : SQ} (hq : CQ j q μ) (h8 : q.1 ≤ 8) (hij : i ≠ j) : ∃ ν, f9_copyFrom i j μ = xrv ν ∧ CQ i q ν ∧ ∀ t k, ¬ (t = 9 ∧ k = i) → ν t k = μ t k := by
  rw [f9_copyFrom_e, k9_copyFrom, mS_eq, xck_t (by decide), mS_eq, xck_t (by decide), mS_eq, hq.1]
  refine ⟨_, rfl, ⟨?_, fun k hk => ?_⟩, fun t k hn => by rw [wI_ne hn, wI_ne hn, sI_ne hn]⟩
  · simp [rI_sI, rI_sL, rI_wI, rI_wL, rI_pI, rI_pL, rL_sI, rL_sL, rL_wI, rL_wL, rL_pI, rL_pL, aI_sI, aI_sL, aI_wI, aI_wL, aI_pI, aI_pL, aL_sI, aL_sL, aL_wI, aL_wL, aL_pI, aL_pL]
  · have := hq.2 k hk
    have hij' : ¬ j = i := fun e => hij e.symm
    have k8 : k < 8 := by omega
    rw [show Int32.toNatClampNeg 0 = 0 from rfl, show Int32.toNatClampNeg 8 = 8 from rfl]
    simp [rI_sI, rI_sL, rI_wI, rI_wL, rI_pI, rI_pL, rL_sI, rL_sL, rL_wI, rL_wL, rL_pI, rL_pL, aI_sI, aI_sL, aI_wI, aI_wL, aI_pI, aI_pL, aL_sI, aL_sL, aL_wI, aL_wL, aL_pI, aL_pL, hij', hij, cpy_at, k8]
    exact this
end
