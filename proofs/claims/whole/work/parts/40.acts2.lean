/-! THE PURE PART: ask, stop, minute, undo, see, mark -/
section
variable {A : AS} {μ : XM}
-- ask
def nAsk (A : AS) : AS := if aS A 5 0 < 9 then nowA A (up (aS A) 5 0 (aS A 5 0 + 1)) else A
def vAsk (A : AS) : Int32 := if aS A 5 0 < 9 then aS A 5 0 + 1 else -1
theorem AI_ask (hI : AI A) : AI (nAsk A) := by
  unfold nAsk
  split
  · rename_i h; exact AI_now hI (SI_gap (AI_S hI) h)
  · exact hI
theorem c_ask (hI : AI A) (hR : RC A μ) : OKc A (nAsk A) μ (f11_ask μ) (vAsk A) := by
  rw [f11_ask_e, k11_ask, s8_canAsk (RC_S hR), bI_i, nAsk, vAsk]
  by_cases h : aS A 5 0 < 9
  · obtain ⟨ν, d1, d2, d3, d4⟩ := c_keep hR (AI_U hI)
    obtain ⟨ξ, e1, e2, e3⟩ := s8_openGap d4
    rw [decide_eq_true h, xite_f (by decide), d1, bV_v, e1, bV_v, if_pos h, if_pos h, CS_ga e2]
    exact ⟨ξ, by simp [up], RC_s d2 e2 (FrS_P e3) (LC_ob (e3 4 0 (by omega)) (RC_L d2)), Fr11_t d3 (FrP_11 (FrS_P e3))⟩
  · rw [decide_eq_false h, xite_t (by decide), if_neg h, if_neg h]
    exact OKc_r hR
theorem m_ask (hI : AI A) (hR : RM A μ) : OKm A (nAsk A) μ (f12_ask μ) (vAsk A) := by
  have hR1 := m0_R hI hR
  have h6 := RH_6 (RM_H hR1)
  have h3 := RH_3 (RM_H hR1)
  have hg : aI (m0 μ) 12 0 24 1 = aS A 5 0 := (RM_S hR1).2.2.1
  have e1 : Int32.toNatClampNeg 1 = 1 := rfl
  rw [f12_ask_e, k12_ask, mS_eq]
  change OKm A _ μ (xck _ (xite (aI (m0 μ) 12 0 24 (Int32.toNatClampNeg 1) = 9) (xri (-1) (m0 μ)) (bV (f12_keeps (m0 μ)) _))) _
  rw [xck_t (by decide), e1, hg, nAsk, vAsk]
  obtain ⟨k, k1, k2⟩ := (AI_S hI).2.2.2.1
  have hc : (aS A 5 0 < 9) ↔ ¬ (aS A 5 0 = 9) := by
    rw [k2, show (9 : Int32) = nI 9 from rfl, nI_ltI (by omega) (by omega), nI_eq (by omega) (by omega)]; omega
  by_cases h : aS A 5 0 = 9
  · rw [xite_t h, if_neg (fun x => hc.mp x h), if_neg (fun x => hc.mp x h)]
    exact OKm_r hI hR
  · obtain ⟨ν, d1, d2, d3⟩ := m_keeps hI hR1
    have hS2 : RS 0 (aH A) (aS A) ν := RM_S (A := wU A (psh (aU A) (aS A))) d2
    have hg2 : aI ν 12 0 24 1 = aS A 5 0 := hS2.2.2.1
    rw [xite_f h, d1, bV_v, xck_t (by decide), xck_t (by decide), mS_eq, hg2, xck_t (by decide), st_eq, if_pos (hc.mpr h), if_pos (hc.mpr h)]
    refine ⟨_, rfl, RM_s (AI_psh hI) d2 ⟨fun g' hg' => ?_, fun m' hm' => ?_, ?_, ?_, ?_⟩ (FX_p FX_r (by omega) (by omega)), Fr12_t m0_F (Fr12_t d3 (FX_p (lo := 0) (hi := 30) FX_r (by omega) (by omega)).1)⟩
    · obtain ⟨a1, a2, a3, a4⟩ := hS2.1 g' hg'
      refine ⟨?_, ?_, ?_, ?_⟩
      · rw [st_ne (by omega), a1]; simp [up]
      · rw [st_ne (by omega), a2]; simp [up]
      · rw [st_ne (by omega), a3]; simp [up]
      · rw [st_ne (by omega), a4]; simp [up]
    · rw [st_ne (by omega), hS2.2.1 m' hm']; simp [up]
    · rw [st_eq]; simp [up]
    · rw [st_ne (by omega), hS2.2.2.2.1]; simp [up]
    · rw [st_ne (by omega), hS2.2.2.2.2]; simp [up]
-- stop
def cStp (A : AS) (p : Int32) : Bool := inR (hM (aH A)) p && (free (aS A) p.toNatClampNeg && decide (0 < aS A 5 0))
def nStop (A : AS) (p : Int32) : AS := if cStp A p then nowA A (stp (aS A) p.toNatClampNeg) else A
def vStop (A : AS) (p : Int32) : Int32 := if cStp A p then aS A 5 0 - 1 else -1
theorem cStp_inv {p : Int32} (h3 : hM (aH A) ≤ 3) (h : cStp A p = true) : ∃ m, m < hM (aH A) ∧ p = nI m ∧ free (aS A) m = true ∧ 0 < aS A 5 0 := by
  unfold cStp at h
  simp only [Bool.and_eq_true, decide_eq_true_eq] at h
  obtain ⟨c1, c2, c3⟩ := h
  rcases inR_cases (n := hM (aH A)) (by omega) p with ⟨hq, _⟩ | ⟨m, hm, rfl, _, _, _⟩
  · rw [hq] at c1; cases c1
  rw [nI_clamp (by omega)] at c2
  exact ⟨m, hm, rfl, c2, c3⟩
theorem AI_stop (hI : AI A) (p : Int32) : AI (nStop A p) := by
  unfold nStop
  by_cases hc : cStp A p = true
  · obtain ⟨m, hm, rfl, c1, c2⟩ := cStp_inv (AI_H hI).1.2.2 hc
    rw [if_pos hc]
    exact AI_now hI (SI_stp (AI_S hI) c2)
  · rw [if_neg hc]; exact hI
theorem stp_g {s : SS} {m : Nat} : stp s m 5 0 = s 5 0 - 1 := by simp [stp, up]
theorem c_stop (hI : AI A) (hR : RC A μ) (p : Int32) : OKc A (nStop A p) μ (f11_stop p μ) (vStop A p) := by
  have hH := RC_H hR
  have h3 := CH_3 hH
  rw [f11_stop_e, k11_stop, s8_canStop hH (RC_S hR), bI_i, nStop, vStop]
  change OKc A _ μ (xite (b2 (cStp A p) = 0) _ _) _
  by_cases hc : cStp A p = true
  · obtain ⟨m, hm, rfl, c1, c2⟩ := cStp_inv h3 hc
    obtain ⟨ν, d1, d2, d3, d4⟩ := c_keep hR (AI_U hI)
    obtain ⟨ξ, e1, e2, e3⟩ := s8_closeGap (RC_H d2) d4 hm
    rw [hc, xite_f (by decide), d1, bV_v, e1, bV_v, if_pos rfl, if_pos rfl, CS_ga e2, nI_clamp (by omega)]
    exact ⟨ξ, by simp [up], RC_s d2 e2 (FrS_P e3) (LC_ob (e3 4 0 (by omega)) (RC_L d2)), Fr11_t d3 (FrP_11 (FrS_P e3))⟩
  · have hc' : cStp A p = false := by simpa using hc
    rw [hc', xite_t (by decide), if_neg (by decide), if_neg (by decide)]
    exact OKc_r hR
theorem m_stop (hI : AI A) (hR : RM A μ) (p : Int32) : OKm A (nStop A p) μ (f12_stop p μ) (vStop A p) := by
  have hR1 := m0_R hI hR
  have hH := RM_H hR1
  have h6 := RH_6 hH
  have h3 := RH_3 hH
  rw [f12_stop_e, k12_stop, mS_eq]
  change OKm A _ μ (bI (f12_isMan p (m0 μ)) _) _
  rw [s12_isMan hH, bI_i, nStop, vStop, cStp]
  rcases inR_cases (n := hM (aH A)) (by omega) p with ⟨hp, _⟩ | ⟨m, hm, rfl, _, _, hp3⟩
  · rw [hp, xite_t (by decide)]; exact OKm_r hI hR
  rw [hp3, xite_f (by decide), s12_mayStop hH (RM_S hR1) (by omega) B0 hm, bI_i, nI_clamp (show m < 2 ^ 31 by omega), Bool.true_and]
  by_cases hc : (free (aS A) m && decide (0 < aS A 5 0)) = true
  · obtain ⟨ν, d1, d2, d3⟩ := m_keeps hI hR1
    have hS2 : RS 0 (aH A) (aS A) ν := RM_S (A := wU A (psh (aU A) (aS A))) d2
    obtain ⟨ξ, e1, e2, e3⟩ := s12_stops h6 h3 hS2 (by omega) B0 hm
    have hg : aI ξ 12 0 24 1 = aS A 5 0 - 1 := by
      have := e2.2.2.1; simpa [up] using this
    rw [hc, xite_f (by decide), d1, bV_v, e1, bV_v, if_pos rfl, if_pos rfl, xck_t (by decide), show Int32.toNatClampNeg 1 = 1 from rfl, hg]
    exact ⟨ξ, rfl, RM_s (AI_psh hI) d2 e2 e3, Fr12_t m0_F (Fr12_t d3 e3.1)⟩
  · have hc' : (free (aS A) m && decide (0 < aS A 5 0)) = false := by simpa using hc
    rw [hc', xite_t (by decide), if_neg (by decide), if_neg (by decide)]
    exact OKm_r hI hR
-- minute
def nMin (A : AS) : AS := nowA A (pss (aH A) (aS A))
theorem AI_min (hI : AI A) : AI (nMin A) := AI_now hI (SI_pss (AI_H hI) (AI_S hI))
theorem c_minute (hI : AI A) (hR : RC A μ) : OKc A (nMin A) μ (f11_minute μ) (nI (sunkN (aH A) (aS A))) := by
  obtain ⟨ν, d1, d2, d3, d4⟩ := c_keep hR (AI_U hI)
  have hH2 : CH 0 (aH A) ν := RC_H (A := wU A (psh (aU A) (aS A))) d2
  have hL2 : LC 0 (hC (aH A)) ν := RC_L (A := wU A (psh (aU A) (aS A))) d2
  obtain ⟨ξ, e1, e2, e3, e4⟩ := s8_pass hH2 hL2 (AI_W hI) d4 (AI_S hI)
  rw [f11_minute_e, k11_minute, d1, bV_v, e1, bI_i]
  exact ⟨ξ, rfl, RC_s d2 e2 e4 e3, Fr11_t d3 (FrP_11 e4)⟩
theorem m_minute (hI : AI A) (hR : RM A μ) : OKm A (nMin A) μ (f12_minute μ) (nI (sunkN (aH A) (aS A))) := by
  have hR1 := m0_R hI hR
  obtain ⟨ν, d1, d2, d3⟩ := m_keeps hI hR1
  have hH2 : RH (aH A) ν := RM_H (A := wU A (psh (aU A) (aS A))) d2
  have hL2 : RL (hC (aH A)) ν := d2.2.1
  have hS2 : RS 0 (aH A) (aS A) ν := RM_S (A := wU A (psh (aU A) (aS A))) d2
  obtain ⟨ξ, e1, e2, e3⟩ := s12_passes hH2 hL2 (AI_W hI) (AI_H hI) hS2 (AI_S hI) (show 0 ≤ 1034 by omega)
  rw [f12_minute_e, k12_minute, mS_eq]
  change OKm A _ μ (bV (f12_keeps (m0 μ)) _) _
  rw [d1, bV_v, B0, e1, bI_i]
  exact ⟨ξ, rfl, RM_s (AI_psh hI) d2 e2 e3, Fr12_t m0_F (Fr12_t d3 e3.1)⟩
-- undo
def nUndo (A : AS) : AS := if (aU A).1 = 0 then A else wS (wU A ((aU A).1 - 1, (aU A).2)) ((aU A).2 ((aU A).1 - 1))
theorem AI_undo (hI : AI A) : AI (nUndo A) := by
  have hu := hI.2.2.2.2.2.1
  unfold nUndo
  split
  · exact hI
  · refine AI_wS (AI_wU hI ⟨?_, fun i hi => ?_⟩) (hu.2 _ (by omega))
    · show (aU A).1 - 1 ≤ 16; omega
    · have hi' : i < (aU A).1 - 1 := hi
      exact hu.2 i (by omega)
theorem c_undo (hI : AI A) (hR : RC A μ) : OKc A (nUndo A) μ (f11_undo μ) (b2 (decide (0 < (aU A).1))) := by
  have hu := AI_U hI
  obtain ⟨r1, r2, r3, r4, r5, ⟨nx, n1, n2, n3, n4⟩, r7, r8, r9⟩ := id hR
  have e1 : (((rI μ 0 0 1) + 16) - 1) - (((rI μ 0 0 1) + 16) - 1) / 16 * 16 = nI ((nx + 15) % 16) := by
    rw [n2, show (16 : Int32) = nI 16 from rfl, nI_add, show nx + 16 = (nx + 15) + 1 by omega, nI_pred, show (nI 16 : Int32) = 16 from rfl, rem16 (by omega)]
  rw [f11_undo_e, k11_undo, f0_bringBack_e, k0_bringBack, xite_f (by decide), e1, vI_eq, xck_t (xin_t (by omega) (by omega)), n3, nUndo]
  by_cases h : (aU A).1 = 0
  · rw [xite_t (by rw [h]; rfl), if_pos h, show decide (0 < (aU A).1) = false from decide_eq_false (by omega), xrb_0, bI_i, xrb_0]
    exact OKc_r hR
  · have h0 : ¬ (nI (aU A).1 = 0) := fun e => h ((nI_eq (b := 0) (by omega) (by omega)).mp e)
    rw [xite_f h0, if_neg h, show decide (0 < (aU A).1) = true from decide_eq_true (by omega), nI_clamp (show (nx + 15) % 16 < 2 ^ 31 by omega)]
    have hs := n4 ((aU A).1 - 1) (by omega)
    rw [show (nx + 16 - (aU A).1 + ((aU A).1 - 1)) % 16 = (nx + 15) % 16 by omega] at hs
    obtain ⟨ν, d1, d2, d3⟩ := s8_copyFrom (i := 0) r1 hs (by omega)
    have f0 : ν 0 0 = μ 0 0 := d3 0 0 (by omega)
    have e2 : ∀ x, rI (sI ν 0 0 1 x) 0 0 2 = nI (aU A).1 := fun x => by simp [rI_sI, rI_ob f0, n3]
    rw [d1, bV_v, mS_eq, mS_eq, e2, xrb_1, bI_i, xrb_1, show nI (aU A).1 - 1 = nI ((aU A).1 - 1) from by
      obtain ⟨k, hk⟩ : ∃ k, (aU A).1 = k + 1 := ⟨(aU A).1 - 1, by omega⟩
      rw [hk, nI_pred]; rfl]
    have ff : ∀ t j, ¬ (t = 8 ∧ j = 0) → ¬ (t = 0 ∧ j = 0) → sI (sI ν 0 0 1 (nI ((nx + 15) % 16))) 0 0 2 (nI ((aU A).1 - 1)) t j = μ t j := by
      intro t j h1 h2
      rw [sI_ne h2, sI_ne h2]; exact d3 t j h1
    refine ⟨_, rfl, ⟨CH_ob (ff 2 0 (by omega) (by omega)) r1, LC_ob (ff 4 0 (by omega) (by omega)) r2, CNm_ob (ff 2 0 (by omega) (by omega)) r3, CS_ob (by rw [sI_ne (by omega), sI_ne (by omega)]) d2, CE_ob (ff 1 0 (by omega) (by omega)) r5, ?_, CM_ob (fun j hj => ff 5 j (by omega) (by omega)) (fun j hj => ff 8 _ (by omega) (by omega)) (fun j hj => ff 9 _ (by omega) (by omega)) r7, CQ_ob (ff 9 0 (by omega) (by omega)) r8, CT_ob (ff 10 0 (by omega) (by omega)) r9⟩, fun t j h => ff t j (by omega) (by omega)⟩
    refine ⟨(nx + 15) % 16, Nat.mod_lt _ (by omega), by simp [rI_sI], by simp [rI_sI]; rfl, fun i hi => ?_⟩
    have hi' : i < (aU A).1 - 1 := hi
    show CS (2 + ((nx + 15) % 16 + 16 - ((aU A).1 - 1) + i) % 16) (aH A) ((aU A).2 i) _
    rw [show ((nx + 15) % 16 + 16 - ((aU A).1 - 1) + i) % 16 = (nx + 16 - (aU A).1 + i) % 16 by omega]
    exact CS_ob (ff 8 _ (by omega) (by omega)) (n4 i (by omega))
theorem m_undo (hI : AI A) (hR : RM A μ) : OKm A (nUndo A) μ (f12_undo μ) (b2 (decide (0 < (aU A).1))) := by
  have hR1 := m0_R hI hR
  have hH := RM_H hR1
  have h6 := RH_6 hH
  have h3 := RH_3 hH
  have hu := AI_U hI
  obtain ⟨r1, r2, r3, r4, r5, r6, r7, r8, r9, r10⟩ := id hR1
  rw [f12_undo_e, k12_undo, mS_eq]
  change OKm A _ μ (xite (rI (m0 μ) 12 0 25 = 0) (xrb 0 (m0 μ)) (mS (sI (m0 μ) 12 0 25 (rI (m0 μ) 12 0 25 - 1)) _)) _
  rw [r6.1, nUndo]
  by_cases h : (aU A).1 = 0
  · rw [xite_t (by rw [h]; rfl), if_pos h, show decide (0 < (aU A).1) = false from decide_eq_false (by omega), xrb_0]
    exact OKm_r hI hR
  · have h0 : ¬ (nI (aU A).1 = 0) := fun e => h ((nI_eq (b := 0) (by omega) (by omega)).mp e)
    rw [xite_f h0, if_neg h, show decide (0 < (aU A).1) = true from decide_eq_true (by omega), mS_eq, show nI (aU A).1 - 1 = nI ((aU A).1 - 1) from by
      obtain ⟨k, hk⟩ : ∃ k, (aU A).1 = k + 1 := ⟨(aU A).1 - 1, by omega⟩
      rw [hk, nI_pred]; rfl]
    have e47 : (47 * (5 + rI (sI (m0 μ) 12 0 25 (nI ((aU A).1 - 1))) 12 0 25) : Int32) = nI (47 * (5 + ((aU A).1 - 1))) := by
      rw [rI_sI]; simp only [and_self, ↓reduceIte]
      rw [L47, L5, nI_add, pk_mul]
    obtain ⟨ξ, d1, d2, d3⟩ := s12_copies (μ := sI (m0 μ) 12 0 25 (nI ((aU A).1 - 1))) (a := 47 * (5 + ((aU A).1 - 1))) (c := 0) (n := 30) (by omega) (by omega) (by omega) (q := 0) (r := 30) e47 rfl rfl
    rw [d1, bV_v, xrb_1]
    have k24 : ∀ j, 30 ≤ j → aI ξ 12 0 24 j = aI (m0 μ) 12 0 24 j := fun j hj => by rw [d3.2.2.2.2.2 j (by omega), aI_sI]
    suffices hfin : RM (aH A, (aU A).2 ((aU A).1 - 1), aE A, ((aU A).1 - 1, (aU A).2), aM A, aQ A, aT A) ξ from
      ⟨ξ, rfl, hfin, Fr12_t m0_F (Fr12_t (fun t j h => sI_ne h) d3.1)⟩
    refine RM_of hR1 (Fz_t (Fz_s (j := 25) (x := nI ((aU A).1 - 1)) (by decide) (by decide)) (FX_z d3)) ?_ ⟨?_, fun i hi => ?_⟩ ?_ ?_
    · exact RS_copy h6 h3 d2 (RS_out h6 h3 (fun j _ _ => by rw [aI_sI]) (r6.2 ((aU A).1 - 1) (by omega)))
    · rw [d3.2.1, rI_sI]; simp only [and_self, ↓reduceIte]
    · have hi' : i < (aU A).1 - 1 := hi
      exact RS_out h6 h3 (fun j h1 h2 => k24 j (by omega)) (r6.2 i (by omega))
    · exact RMk_fr h6 h3 (AI_M8 hI) (fun j h1 h2 => k24 j (by omega)) (by rw [d3.2.2.2.1 26 (by decide) (by decide) (by decide), aI_sI]) r7
    · exact RQ_q (fun j h1 h2 => k24 j (by omega)) (AI_Q hI).1 r8
end
