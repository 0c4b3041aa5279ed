/-! THE PURE PART: judged -/
theorem lp_v {σ : Type} {F : Nat → σ → Nat → XR} (q : Nat) (I : Nat → σ → Prop) {Q : XR → Prop} {e : Nat}
    (hx : ∀ n s, q ≤ n → I e s → Q (F n s e))
    (hs : ∀ n s k, q ≤ n → k < e → I k s → ∃ s' n', n ≤ n' + q ∧ I (k + 1) s' ∧ F n s k = F n' s' (k + 1)) :
    ∀ d k n s, k + d = e → (d + 1) * q ≤ n → I k s → Q (F n s k) := by
  intro d
  induction d with
  | zero =>
    intro k n s h hn hI
    rw [Nat.zero_add, Nat.one_mul] at hn
    obtain rfl : k = e := by omega
    exact hx n s hn hI
  | succ d ih =>
    intro k n s h hn hI
    have h2 : (d + 1 + 1) * q = (d + 1) * q + q := by rw [Nat.add_mul (d + 1) 1 q, Nat.one_mul]
    obtain ⟨s', n', h5, h6, h7⟩ := hs n s k (by omega) (by omega) hI
    rw [h7]
    exact ih (k + 1) n' s' (by omega) (by omega) h6
def ply (h : HS) (e : EV) (t : SS) (l : Nat) : SS × Int32 :=
  if e.2 l 0 = 0 then (pss h t, nI (sunkN h t))
  else if e.2 l 0 = 1 then (if (rch h t (e.2 l 1) (e.2 l 3) && wl h t (nI (e.2 l 2))) = true then (cst t (e.2 l 1) (e.2 l 2) (e.2 l 3), 0) else (t, -1))
  else if e.2 l 0 = 2 then (if t 5 0 < 9 then (up t 5 0 (t 5 0 + 1), 0) else (t, -1))
  else (if (free t (e.2 l 1) && decide (0 < t 5 0)) = true then (stp t (e.2 l 1), 0) else (t, -1))
def jdg (h : HS) (e : EV) : Nat → SS × Int32 × Int32
  | 0 => (s0 h, -1, -1)
  | l + 1 => ((ply h e (jdg h e l).1 l).1, if (ply h e (jdg h e l).1 l).2 = -1 ∧ (jdg h e l).2.1 = -1 then nI l else (jdg h e l).2.1, if 0 < (ply h e (jdg h e l).1 l).2 ∧ (jdg h e l).2.2 = -1 then nI l else (jdg h e l).2.2)
theorem SI_ply {h : HS} {e : EV} {t : SS} {l : Nat} (hH : HI h) (hE : EI h e) (hl : l < e.1) (hI : SI h t) : SI h (ply h e t l).1 := by
  obtain ⟨e1, e2, e3⟩ := hE.2 l hl
  unfold ply
  split
  · exact SI_pss hH hI
  · split
    · rename_i h1
      obtain ⟨b1, b2⟩ := e3 h1
      split
      · rename_i hc
        rw [Bool.and_eq_true] at hc
        exact SI_cst hI hH.1.1 hH.1.2.1 b1 b2 (rch_in hc.1) hc.2
      · exact hI
    · split
      · split
        · rename_i hc; exact SI_gap hI hc
        · exact hI
      · split
        · rename_i hc
          rw [Bool.and_eq_true, decide_eq_true_eq] at hc
          exact SI_stp hI hc.2
        · exact hI
theorem SI_jdg {h : HS} {e : EV} (hH : HI h) (hE : EI h e) : ∀ l, l ≤ e.1 → SI h (jdg h e l).1
  | 0, _ => s0_SI hH
  | l + 1, hl => SI_ply hH hE (by omega) (SI_jdg hH hE l (by omega))
theorem sunk_lt {h : HS} {s : SS} (h6 : hG h ≤ 6) : sunkN h s < 64 := by
  have h1 := bN_lt (fun g => isIn s g && drB h s g) (hG h)
  have h2 : (2 : Nat) ^ hG h ≤ 2 ^ 6 := Nat.pow_le_pow_right (by decide) h6
  unfold sunkN; omega
/-- what is barred, or sinks: none, or a line -/
def JV (n : Nat) (x : Int32) : Prop := x = -1 ∨ ∃ k, k < n ∧ x = nI k
theorem JV_s {n : Nat} {x : Int32} (h : JV n x) : JV (n + 1) x := by
  rcases h with h | ⟨k, h1, h2⟩
  · exact .inl h
  · exact .inr ⟨k, by omega, h2⟩
theorem JV_i {n : Nat} {x : Int32} (h : JV n x) (hn : n < 1000) : (x < 0) = (x = -1) := by
  rcases h with h | ⟨k, h1, h2⟩
  · rw [h]; exact propext ⟨fun _ => rfl, fun _ => by decide⟩
  · rw [h2]
    refine propext ⟨fun e => absurd e (nI_pos (by omega)), fun e => ?_⟩
    have e2 := congrArg Int32.toInt e
    rw [nI_toInt (by omega)] at e2
    have : (-1 : Int32).toInt = -1 := rfl
    omega
theorem jdg_V {h : HS} {e : EV} : ∀ l, JV l (jdg h e l).2.1 ∧ JV l (jdg h e l).2.2
  | 0 => ⟨.inl rfl, .inl rfl⟩
  | l + 1 => by
    obtain ⟨a, b⟩ := jdg_V (h := h) (e := e) l
    refine ⟨?_, ?_⟩
    · show JV (l + 1) (if _ then nI l else _)
      split
      · exact .inr ⟨l, by omega, rfl⟩
      · exact JV_s a
    · show JV (l + 1) (if _ then nI l else _)
      split
      · exact .inr ⟨l, by omega, rfl⟩
      · exact JV_s b
def aJudged (A : AS) (p : Int32) : Int32 := if wit (nI 0) (nI 2) p then (if p = 0 then (jdg (aH A) (aE A) (aE A).1).2.1 else if p = 1 then (jdg (aH A) (aE A) (aE A).1).2.2 else nI (pc (who (aH A) (jdg (aH A) (aE A) (aE A).1).1 1))) else -2
section
variable {A : AS} {μ : XM}
def J1 (A : AS) (t : SS) (μ ν : XM) : Prop := CS 1 (aH A) t ν ∧ LC 0 (hC (aH A)) ν ∧ QC μ ν
theorem J1_H {t : SS} {ν : XM} (hR : RC A μ) (hJ : J1 A t μ ν) : CH 0 (aH A) ν := CH_ob (hJ.2.2 2 0 (by omega) (by omega) (by omega) (by omega)) (RC_H hR)
theorem J1_S {t : SS} {ν ξ : XM} {t' : SS} (hJ : J1 A t μ ν) (hS : CS 1 (aH A) t' ξ) (f : FrS 1 ν ξ) : J1 A t' μ ξ := ⟨hS, LC_ob (f 4 0 (by omega)) hJ.2.1, QC_t hJ.2.2 (FrS_Q f)⟩
theorem c_ply (hI : AI A) (hR : RC A μ) {t : SS} {ν : XM} (hJ : J1 A t μ ν) (hs : SI (aH A) t) {l : Nat} (hl : l < (aE A).1) :
    ∃ ξ, f1_play 0 (nI l) 1 ν = xri (ply (aH A) (aE A) t l).2 ξ ∧ J1 A (ply (aH A) (aE A) t l).1 μ ξ := by
  have hE : EI (aH A) (aE A) := hI.2.2.2.2.1
  have h40 := hE.1
  have hH := J1_H hR hJ
  have h6 := CH_6 hH
  have h5 := CH_5 hH
  have h3 := CH_3 hH
  obtain ⟨r1, r2, r3, r4, r5, r6, r7, r8, r9⟩ := id hR
  have r5' : CE 0 (aE A) ν := CE_ob (hJ.2.2 1 0 (by omega) (by omega) (by omega) (by omega)) r5
  obtain ⟨c1, c2, c3⟩ := r5'.2 l hl
  obtain ⟨i1, i2, i3⟩ := hE.2 l hl
  have cl : (nI l).toNatClampNeg = l := nI_clamp (by omega)
  have x40 : xin (nI l) 40 = true := xin_t (by omega) (by omega)
  have ne : ∀ k, k < 4 → (nI (144 + (aE A).2 l 0) = nI (144 + k)) = ((aE A).2 l 0 = k) := fun k hk => propext ⟨fun e => by have := (nI_eq (by omega) (by omega)).mp e; omega, fun e => by rw [e]⟩
  rw [f1_play_e, k1_play, vI_eq, xck_t x40, cl, c1]
  change ∃ ξ, xite (nI (144 + (aE A).2 l 0) = nI (144 + 0)) _ (xite (nI (144 + (aE A).2 l 0) = nI (144 + 1)) _ (xite (nI (144 + (aE A).2 l 0) = nI (144 + 2)) _ (xite (nI (144 + (aE A).2 l 0) = nI (144 + 3)) _ _))) = _ ∧ _
  rw [ne 0 (by omega), ne 1 (by omega), ne 2 (by omega), ne 3 (by omega), ply]
  by_cases k0 : (aE A).2 l 0 = 0
  · rw [xite_t k0, if_pos k0]
    obtain ⟨ξ, e1, e2, e3, e4⟩ := s8_pass hH hJ.2.1 (AI_W hI) hJ.1 hs
    rw [e1, bI_i]
    exact ⟨ξ, rfl, e2, e3, QC_t hJ.2.2 (FrP_Q e4)⟩
  rw [xite_f k0, if_neg k0]
  by_cases k1 : (aE A).2 l 0 = 1
  · obtain ⟨j2, j3⟩ := i3 k1
    have j1 := i2 (.inl k1)
    have hr1 : inR (hM (aH A)) (nI ((aE A).2 l 1)) = true := inR_t (by omega) j1
    have hr2 : inR (hB (aH A)) (nI ((aE A).2 l 2)) = true := inR_t (by omega) j2
    have hr3 : inR (hG (aH A)) (nI ((aE A).2 l 3)) = true := inR_t (by omega) j3
    have cc : ((inR (hB (aH A)) (nI ((aE A).2 l 2)) && wl (aH A) t (nI ((aE A).2 l 2))) && (inR (hM (aH A)) (nI ((aE A).2 l 1)) && (inR (hG (aH A)) (nI ((aE A).2 l 3)) && rch (aH A) t (nI ((aE A).2 l 1)).toNatClampNeg (nI ((aE A).2 l 3)).toNatClampNeg))) = (rch (aH A) t ((aE A).2 l 1) ((aE A).2 l 3) && wl (aH A) t (nI ((aE A).2 l 2))) := by
      rw [hr1, hr2, hr3, nI_clamp (by omega), nI_clamp (by omega), Bool.true_and, Bool.true_and, Bool.true_and, Bool.and_comm]
    rw [xite_t k1, if_pos k1, h1_play_89_s, xck_t x40, xck_t x40, xck_t x40, cl, c2 (.inl k1), (c3 k1).1, (c3 k1).2, s8_canCast hH hJ.1, bI_i, vI_eq, cc]
    by_cases hc : (rch (aH A) t ((aE A).2 l 1) ((aE A).2 l 3) && wl (aH A) t (nI ((aE A).2 l 2))) = true
    · obtain ⟨ξ, e1, e2, e3⟩ := s8_giveBelt hH hJ.1 j1 j3 (nI ((aE A).2 l 2))
      rw [hc, if_pos rfl, xite_f (by decide), xck_t x40, xck_t x40, xck_t x40, c2 (.inl k1), (c3 k1).1, (c3 k1).2, e1, bV_v, xite_f (by decide)]
      exact ⟨ξ, rfl, J1_S hJ e2 e3⟩
    · have hc' : (rch (aH A) t ((aE A).2 l 1) ((aE A).2 l 3) && wl (aH A) t (nI ((aE A).2 l 2))) = false := by simpa using hc
      rw [hc', if_neg (by decide), xite_t (by decide), xite_t (by decide)]
      exact ⟨ν, rfl, hJ⟩
  rw [xite_f k1, if_neg k1]
  by_cases k2 : (aE A).2 l 0 = 2
  · rw [xite_t k2, if_pos k2, s8_canAsk hJ.1, bI_i, vI_eq]
    by_cases hc : t 5 0 < 9
    · obtain ⟨ξ, e1, e2, e3⟩ := s8_openGap hJ.1
      rw [decide_eq_true hc, if_pos hc, xite_f (by decide), e1, bV_v, xite_f (by decide)]
      exact ⟨ξ, rfl, J1_S hJ e2 e3⟩
    · rw [decide_eq_false hc, if_neg hc, xite_t (by decide), xite_t (by decide)]
      exact ⟨ν, rfl, hJ⟩
  have k3 : (aE A).2 l 0 = 3 := by omega
  have j1 := i2 (.inr k3)
  have hr1 : inR (hM (aH A)) (nI ((aE A).2 l 1)) = true := inR_t (by omega) j1
  rw [xite_f k2, if_neg k2, xite_t k3, xck_t x40, c2 (.inr k3), s8_canStop hH hJ.1, bI_i, vI_eq, hr1, nI_clamp (show (aE A).2 l 1 < 2 ^ 31 by omega), Bool.true_and]
  by_cases hc : (free t ((aE A).2 l 1) && decide (0 < t 5 0)) = true
  · obtain ⟨ξ, e1, e2, e3⟩ := s8_closeGap hH hJ.1 j1
    rw [hc, if_pos rfl, xite_f (by decide), xck_t x40, c2 (.inr k3), e1, bV_v, xite_f (by decide)]
    exact ⟨ξ, rfl, J1_S hJ e2 e3⟩
  · have hc' : (free t ((aE A).2 l 1) && decide (0 < t 5 0)) = false := by simpa using hc
    rw [hc', if_neg (by decide), xite_t (by decide), xite_t (by decide)]
    exact ⟨ν, rfl, hJ⟩
theorem jdg_1 {h : HS} {e : EV} {l : Nat} : (jdg h e (l + 1)).1 = (ply h e (jdg h e l).1 l).1 := rfl
theorem jdg_2 {h : HS} {e : EV} {l : Nat} : (jdg h e (l + 1)).2.1 = if (ply h e (jdg h e l).1 l).2 = -1 ∧ (jdg h e l).2.1 = -1 then nI l else (jdg h e l).2.1 := rfl
theorem jdg_3 {h : HS} {e : EV} {l : Nat} : (jdg h e (l + 1)).2.2 = if 0 < (ply h e (jdg h e l).1 l).2 ∧ (jdg h e l).2.2 = -1 then nI l else (jdg h e l).2.2 := rfl
theorem who_64 {h : HS} {s : SS} {v : Int32} (h6 : hG h ≤ 6) : who h s v < 64 := by
  have h1 := bN_lt (fun g => decide (s 2 g = v)) (hG h)
  have h2 : (2 : Nat) ^ hG h ≤ 2 ^ 6 := Nat.pow_le_pow_right (by decide) h6
  unfold who; omega
theorem c_judged (hI : AI A) (hR : RC A μ) (p : Int32) : OKc A A μ (f11_judged p μ) (aJudged A p) := by
  have hE : EI (aH A) (aE A) := hI.2.2.2.2.1
  have h40 := hE.1
  have h6 := CH_6 (RC_H hR)
  rw [f11_judged_e, k11_judged, aJudged]
  rcases wit_cs (p := p) (a := 0) (n := 2) (by omega) (by omega) with ⟨hp, hp'⟩ | ⟨j, _, hj, rfl, hp1, hp2, hp⟩
  · rw [hp, if_neg (by decide)]
    by_cases h0 : p < 0
    · rw [xite_t h0]; exact OKc_r hR
    · rw [xite_f h0, xite_t (show (2 : Int32) < p from hp'.resolve_left h0)]; exact OKc_r hR
  rw [xite_f (show ¬ nI j < (0 : Int32) from hp1), xite_f (show ¬ (2 : Int32) < nI j from hp2), hp, if_pos rfl, f1_judge_e, k1_judge, vI_eq, vI_eq]
  obtain ⟨ν, d1, d2, d3⟩ := s8_begin (i := 1) (RC_H hR)
  rw [d1, bV_v, vI_eq]
  have key : ∃ ξ, h1_judge_12 20000 0 1 (nI j) (-1) (-1) (nI 0) ν = xri (if nI j = 0 then (jdg (aH A) (aE A) (aE A).1).2.1 else if nI j = 1 then (jdg (aH A) (aE A) (aE A).1).2.2 else nI (pc (who (aH A) (jdg (aH A) (aE A) (aE A).1).1 1))) ξ ∧ J1 A (jdg (aH A) (aE A) (aE A).1).1 μ ξ := by
    refine lp_v 2 (F := fun n (ν : XM) k => h1_judge_12 n 0 1 (nI j) (jdg (aH A) (aE A) k).2.1 (jdg (aH A) (aE A) k).2.2 (nI k) ν) (fun k ν => J1 A (jdg (aH A) (aE A) k).1 μ ν) (Q := fun x => ∃ ξ, x = xri (if nI j = 0 then (jdg (aH A) (aE A) (aE A).1).2.1 else if nI j = 1 then (jdg (aH A) (aE A) (aE A).1).2.2 else nI (pc (who (aH A) (jdg (aH A) (aE A) (aE A).1).1 1))) ξ ∧ J1 A (jdg (aH A) (aE A) (aE A).1).1 μ ξ) (e := (aE A).1) ?_ ?_ (aE A).1 0 20000 ν (by omega) (by omega) ⟨d2, LC_ob (d3 4 0 (by omega)) (RC_L hR), FrS_Q d3⟩
    · intro n ν hn hJ
      obtain ⟨n, rfl⟩ : ∃ m, n = m + 1 + 1 := ⟨n - 2, by omega⟩
      have ec : rI ν 1 0 0 = nI (aE A).1 := (CE_ob (hJ.2.2 1 0 (by omega) (by omega) (by omega) (by omega)) hR.2.2.2.2.1).1
      rw [h1_judge_12_s, ec, xite_f Int32.lt_irrefl, h1_judge_72_s]
      by_cases h0 : nI j = 0
      · rw [xite_t h0, if_pos h0]; exact ⟨ν, rfl, hJ⟩
      · rw [xite_f h0, if_neg h0]
        by_cases h1 : nI j = 1
        · rw [xite_t h1, if_pos h1]; exact ⟨ν, rfl, hJ⟩
        · rw [xite_f h1, if_neg h1, s8_whoIs (J1_H hR hJ) hJ.1, bI_i, sJ_bitCount (Nat.lt_trans (who_64 h6) (by decide)), bI_i]
          exact ⟨ν, rfl, hJ⟩
    · intro n ν k hn hk hJ
      obtain ⟨n, rfl⟩ : ∃ m, n = m + 1 + 1 := ⟨n - 2, by omega⟩
      have ec : rI ν 1 0 0 = nI (aE A).1 := (CE_ob (hJ.2.2 1 0 (by omega) (by omega) (by omega) (by omega)) hR.2.2.2.2.1).1
      obtain ⟨ξ, e1, e2⟩ := c_ply hI hR hJ (SI_jdg (AI_H hI) hE k (by omega)) hk
      rw [h1_judge_12_s, ec, xite_t (nI_lt hk (by omega)), xite_t (show nI k < (40 : Int32) from nI_lt (b := 40) (by omega) (by omega)), e1, bI_i, vI_eq]
      refine ⟨ξ, n, by omega, e2, ?_⟩
      rw [jdg_2, jdg_3]
      obtain ⟨v1, v2⟩ := jdg_V (h := aH A) (e := aE A) k
      generalize (ply (aH A) (aE A) (jdg (aH A) (aE A) k).1 k).2 = r
      generalize (jdg (aH A) (aE A) k).2.1 = a
      generalize (jdg (aH A) (aE A) k).2.2 = b
      simp only [h1_judge_51_s, vI_eq, xite_eq, ← nI_succ]
      by_cases q1 : r = -1
      · have q2 : ¬ 0 < r := by rw [q1]; decide
        by_cases q3 : a = -1
        · simp only [q1, q2, q3, ↓reduceIte, and_self, true_and, false_and]; simp
        · simp only [q1, q2, q3, ↓reduceIte, and_self, true_and, false_and]; simp
      · by_cases q2 : 0 < r
        · by_cases q3 : b = -1
          · simp only [q1, q2, q3, ↓reduceIte, and_self, true_and, false_and]
          · simp only [q1, q2, q3, ↓reduceIte, and_self, true_and, false_and, and_false]
        · simp only [q1, q2, ↓reduceIte, and_self, true_and, false_and, and_false]
  obtain ⟨ξ, e1, e2⟩ := key
  rw [show (0 : Int32) = nI 0 from rfl, e1, bI_i]
  exact ⟨ξ, rfl, RC_q hR e2.2.2 e2.2.1, QC_11 e2.2.2⟩
-- the reference
def JM (A : AS) (t : SS) (μ ν : XM) : Prop := RS 987 (aH A) t ν ∧ QM μ ν
theorem JM_H {t : SS} {ν : XM} (hR : RM A μ) (hJ : JM A t μ ν) : RH (aH A) ν := RH_q hJ.2 (RM_H hR)
theorem JM_S {t : SS} {ν ξ : XM} {t' : SS} (hJ : JM A t μ ν) (hS : RS 987 (aH A) t' ξ) (f : FM 987 ν ξ) : JM A t' μ ξ := ⟨hS, QM_t hJ.2 (FX_Q f (by omega))⟩
theorem m_line (hI : AI A) (hR : RM A μ) {t : SS} {ν : XM} (hJ : JM A t μ ν) (hs : SI (aH A) t) {l : Nat} (hl : l < (aE A).1) {p a b : Int32} (ha : JV l a) (hb : JV l b) {n : Nat} (hn : 3 ≤ n) :
    ∃ ξ m, n ≤ m + 3 ∧ h12_judged_31 n p a b (nI l) ν = h12_judged_31 m p (if (ply (aH A) (aE A) t l).2 = -1 ∧ a = -1 then nI l else a) (if 0 < (ply (aH A) (aE A) t l).2 ∧ b = -1 then nI l else b) (nI (l + 1)) ξ ∧ JM A (ply (aH A) (aE A) t l).1 μ ξ := by
  have hE : EI (aH A) (aE A) := hI.2.2.2.2.1
  have h40 := hE.1
  have hH := JM_H hR hJ
  have h6 := RH_6 hH
  have h5 := RH_5 hH
  have h3 := RH_3 hH
  obtain ⟨n, rfl⟩ : ∃ m, n = m + 1 + 1 + 1 := ⟨n - 3, by omega⟩
  have r5 : RE (aE A) ν := by
    have := hR.2.2.2.2.1
    unfold RE at *; rw [QM_a hJ.2 (j := 21) (by omega)]; exact this
  obtain ⟨c1, c2, c3⟩ := r5.2 l hl
  obtain ⟨i1, i2, i3⟩ := hE.2 l hl
  have ex : (1 + 4 * nI l : Int32) = nI (1 + 4 * l) := by rw [show (1 : Int32) = nI 1 from rfl, show (4 : Int32) = nI 4 from rfl, pk_mul, nI_add]
  have x0 : xin (nI (1 + 4 * l)) 330 = true := xin_t (by omega) (by omega)
  have x1 : xin (nI (1 + 4 * l + 1)) 330 = true := xin_t (by omega) (by omega)
  have x2 : xin (nI (1 + 4 * l + 2)) 330 = true := xin_t (by omega) (by omega)
  have x3 : xin (nI (1 + 4 * l + 3)) 330 = true := xin_t (by omega) (by omega)
  have k1' : (nI (1 + 4 * l)).toNatClampNeg = 1 + 4 * l := nI_clamp (by omega)
  have k2' : (nI (1 + 4 * l + 1)).toNatClampNeg = 1 + 4 * l + 1 := nI_clamp (by omega)
  have k3' : (nI (1 + 4 * l + 2)).toNatClampNeg = 1 + 4 * l + 2 := nI_clamp (by omega)
  have k4' : (nI (1 + 4 * l + 3)).toNatClampNeg = 1 + 4 * l + 3 := nI_clamp (by omega)
  have a1 : nI (1 + 4 * l) + 1 = nI (1 + 4 * l + 1) := nI_add _ 1
  have a2 : nI (1 + 4 * l) + 2 = nI (1 + 4 * l + 2) := nI_add _ 2
  have a3 : nI (1 + 4 * l) + 3 = nI (1 + 4 * l + 3) := nI_add _ 3
  have ne : ∀ k, k < 4 → (nI ((aE A).2 l 0) = nI k) = ((aE A).2 l 0 = k) := fun k hk => propext ⟨fun e => by have := (nI_eq (by omega) (by omega)).mp e; omega, fun e => by rw [e]⟩
  have n0 : (nI ((aE A).2 l 0) = 0) = ((aE A).2 l 0 = 0) := ne 0 (by omega)
  have n1 : (nI ((aE A).2 l 0) = 1) = ((aE A).2 l 0 = 1) := ne 1 (by omega)
  have n2 : (nI ((aE A).2 l 0) = 2) = ((aE A).2 l 0 = 2) := ne 2 (by omega)
  have va := JV_i ha (by omega)
  have vb' := JV_i hb (by omega)
  rw [h12_judged_31_s, xck_t (by decide), show Int32.toNatClampNeg 0 = 0 from rfl, r5.1, xite_t (nI_lt hl (by omega)), ex, vI_eq, xck_t x0, k1', c1, vI_eq, a1, xck_t x1, k2', vI_eq, n0, n1, n2, a2, a3, k3', k4', ply]
  by_cases k0 : (aE A).2 l 0 = 0
  · obtain ⟨ξ, e1, e2, e3⟩ := s12_passes hH (RL_q hJ.2 hR.2.1) (AI_W hI) (AI_H hI) hJ.1 hs (show 987 ≤ 1034 by omega)
    have hsk := sunk_lt (h := aH A) (s := t) h6
    have q1 : ¬ nI (sunkN (aH A) t) = -1 := fun e => by
      have e2 := congrArg Int32.toInt e
      rw [nI_toInt (by omega)] at e2
      have : (-1 : Int32).toInt = -1 := rfl
      omega
    have q2 : (0 < nI (sunkN (aH A) t)) = ¬ (nI (sunkN (aH A) t) = 0) := by
      rw [show (0 : Int32) = nI 0 from rfl, show (nI 0 < nI (sunkN (aH A) t)) = (0 < sunkN (aH A) t) from propext (nI_ltI (by omega) (by omega)), show (nI (sunkN (aH A) t) = nI 0) = (sunkN (aH A) t = 0) from propext (nI_eq (by omega) (by omega))]
      exact propext ⟨fun h => by omega, fun h => by omega⟩
    have z : nI ((aE A).2 l 0) = 0 := by rw [k0]; rfl
    rw [xite_t k0, vI_eq, xite_f (show ¬ (1 : Int32) = 0 by decide), h12_judged_170_s, vI_eq, xite_t z, B987, e1, bI_i, if_pos k0]
    refine ⟨ξ, n + 1, by omega, ?_, JM_S hJ e2 e3⟩
    simp only [q1, q2, false_and, ↓reduceIte, xite_eq, vI_eq, ← nI_succ, vb']
    by_cases q3 : nI (sunkN (aH A) t) = 0
    · simp only [q3, not_true_eq_false, false_and, ↓reduceIte]
    · by_cases q4 : b = -1
      · simp only [q3, q4, not_false_eq_true, and_self, ↓reduceIte]
      · simp only [q3, q4, not_false_eq_true, and_false, ↓reduceIte]
  rw [xite_f k0, if_neg k0]
  have nz : ¬ nI ((aE A).2 l 0) = 0 := by rw [n0]; exact k0
  -- what may not be done
  have bad : ∀ s0 s1 v7, s0 = (if a = -1 then nI l else a) → h12_judged_170 (n + 1 + 1) p b (nI l) s1 (nI ((aE A).2 l 0)) v7 0 s0 ν = h12_judged_31 n p (if (-1 : Int32) = -1 ∧ a = -1 then nI l else a) (if (0 : Int32) < -1 ∧ b = -1 then nI l else b) (nI (l + 1)) ν := by
    intro s0 s1 v7 e
    rw [h12_judged_170_s, vI_eq, xite_f nz, xite_t rfl, h12_judged_241_s, xite_t rfl, xite_t rfl, vI_eq, nI_succ, e]
    simp only [true_and, show ¬ (0 : Int32) < -1 by decide, false_and, ↓reduceIte]
  have badw : ∀ s1 v7, xite (a < 0) (h12_judged_170 (n + 1 + 1) p b (nI l) s1 (nI ((aE A).2 l 0)) v7 0 (nI l) ν) (h12_judged_170 (n + 1 + 1) p b (nI l) s1 (nI ((aE A).2 l 0)) v7 0 a ν) = h12_judged_31 n p (if (-1 : Int32) = -1 ∧ a = -1 then nI l else a) (if (0 : Int32) < -1 ∧ b = -1 then nI l else b) (nI (l + 1)) ν := by
    intro s1 v7
    rw [va]
    by_cases q : a = -1
    · rw [xite_t q]; exact bad _ _ _ (by rw [if_pos q])
    · rw [xite_f q]; exact bad _ _ _ (by rw [if_neg q])
  have good : ∀ m ξ, h12_judged_31 m p a b (nI l + 1) ξ = h12_judged_31 m p (if (0 : Int32) = -1 ∧ a = -1 then nI l else a) (if (0 : Int32) < 0 ∧ b = -1 then nI l else b) (nI (l + 1)) ξ := by
    intro m ξ
    simp only [show ¬ (0 : Int32) = -1 by decide, show ¬ (0 : Int32) < 0 by decide, false_and, ↓reduceIte, nI_succ]
  by_cases k1 : (aE A).2 l 0 = 1
  · obtain ⟨j2, j3⟩ := i3 k1
    have j1 := i2 (.inl k1)
    have z : nI ((aE A).2 l 0) = 1 := by rw [k1]; rfl
    rw [xite_t k1, if_pos k1, xck_t x2, xck_t x3, c2 (.inl k1), (c3 k1).1, (c3 k1).2, s12_mayCast hH hJ.1 hs (show 987 ≤ 1034 by omega) B987 j1 j2 j3, bI_i]
    by_cases hc : (rch (aH A) t ((aE A).2 l 1) ((aE A).2 l 3) && wl (aH A) t (nI ((aE A).2 l 2))) = true
    · obtain ⟨ξ, e1, e2, e3⟩ := s12_casts h6 h3 hJ.1 (show 987 ≤ 1034 by omega) B987 j1 j3 (nI ((aE A).2 l 2))
      rw [hc, if_pos rfl, xite_f (by decide), vI_eq, xite_f (show ¬ (1 : Int32) = 0 by decide), h12_judged_170_s, vI_eq, xite_f nz, xite_f (show ¬ (1 : Int32) = 0 by decide), xite_t z, a2, a3, xck_t x2, xck_t x3, k3', k4', (c3 k1).1, (c3 k1).2, e1, bV_v, vI_eq]
      exact ⟨ξ, n + 1, by omega, good _ _, JM_S hJ e2 e3⟩
    · have hc' : (rch (aH A) t ((aE A).2 l 1) ((aE A).2 l 3) && wl (aH A) t (nI ((aE A).2 l 2))) = false := by simpa using hc
      rw [hc', if_neg (show ¬ (false = true) by decide), xite_t (by decide), vI_eq, xite_t rfl]
      exact ⟨ν, n, by omega, badw _ _, hJ⟩
  rw [xite_f k1, if_neg k1]
  have nz1 : ¬ nI ((aE A).2 l 0) = 1 := by rw [n1]; exact k1
  by_cases k2 : (aE A).2 l 0 = 2
  · have z : nI ((aE A).2 l 0) = 2 := by rw [k2]; rfl
    have hg : aI ν 12 0 24 (Int32.toNatClampNeg 988) = t 5 0 := hJ.1.2.2.1
    rw [xite_t k2, if_pos k2, xck_t (by decide), hg]
    by_cases hc : t 5 0 < 9
    · rw [xite_t hc, if_pos hc, vI_eq, xite_f (show ¬ (1 : Int32) = 0 by decide), h12_judged_170_s, vI_eq, xite_f nz, xite_f (show ¬ (1 : Int32) = 0 by decide), xite_f nz1, h12_judged_241_s, xite_f (show ¬ (1 : Int32) = 0 by decide), xite_t z, xck_t (by decide), xck_t (by decide), hg, mS_eq, vI_eq]
      refine ⟨_, n, by omega, good _ _, ?_⟩
      have f : FM 987 ν (pI ν 12 0 24 (Int32.toNatClampNeg 988) (t 5 0 + 1)) := FX_p FX_r (by decide) (by decide)
      have e988 : Int32.toNatClampNeg 988 = 988 := rfl
      rw [e988] at f ⊢
      refine JM_S hJ ⟨fun g' hg' => ?_, fun m' hm' => ?_, ?_, ?_, ?_⟩ f
      · obtain ⟨a1, a2, a3, a4⟩ := hJ.1.1 g' hg'
        refine ⟨?_, ?_, ?_, ?_⟩
        · rw [st_ne (by omega), a1]; simp [up]
        · rw [st_ne (by omega), a2]; simp [up]
        · rw [st_ne (by omega), a3]; simp [up]
        · rw [st_ne (by omega), a4]; simp [up]
      · rw [st_ne (by omega), hJ.1.2.1 m' hm']; simp [up]
      · rw [st_eq]; simp [up]
      · rw [st_ne (by omega), hJ.1.2.2.2.1]; simp [up]
      · rw [st_ne (by omega), hJ.1.2.2.2.2]; simp [up]
    · rw [xite_f hc, if_neg hc, vI_eq, xite_t rfl]
      exact ⟨ν, n, by omega, badw _ _, hJ⟩
  have k3 : (aE A).2 l 0 = 3 := by omega
  have nz2 : ¬ nI ((aE A).2 l 0) = 2 := by rw [n2]; exact k2
  have j1 := i2 (.inr k3)
  rw [xite_f k2, if_neg k2, c2 (.inr k3), s12_mayStop hH hJ.1 (show 987 ≤ 1034 by omega) B987 j1, bI_i]
  by_cases hc : (free t ((aE A).2 l 1) && decide (0 < t 5 0)) = true
  · obtain ⟨ξ, e1, e2, e3⟩ := s12_stops h6 h3 hJ.1 (show 987 ≤ 1034 by omega) B987 j1
    rw [hc, if_pos rfl, xite_f (by decide), vI_eq, xite_f (show ¬ (1 : Int32) = 0 by decide), h12_judged_170_s, vI_eq, xite_f nz, xite_f (show ¬ (1 : Int32) = 0 by decide), xite_f nz1, h12_judged_241_s, xite_f (show ¬ (1 : Int32) = 0 by decide), xite_f nz2, xite_f (show ¬ (1 : Int32) = 0 by decide), e1, bV_v, vI_eq]
    exact ⟨ξ, n, by omega, good _ _, JM_S hJ e2 e3⟩
  · have hc' : (free t ((aE A).2 l 1) && decide (0 < t 5 0)) = false := by simpa using hc
    rw [hc', if_neg (show ¬ (false = true) by decide), xite_t (by decide), vI_eq, xite_t rfl]
    exact ⟨ν, n, by omega, badw _ _, hJ⟩
theorem m_judged (hI : AI A) (hR : RM A μ) (p : Int32) : OKm A A μ (f12_judged p μ) (aJudged A p) := by
  have hR1 := m0_R hI hR
  have hE : EI (aH A) (aE A) := hI.2.2.2.2.1
  have h40 := hE.1
  have h6 := RH_6 (RM_H hR1)
  rw [f12_judged_e, k12_judged, mS_eq]
  change OKm A _ μ (bI (f12_within p 0 2 (m0 μ)) _) _
  rw [s12_within, bI_i, aJudged]
  change OKm A _ μ (xite (b2 (wit (nI 0) (nI 2) p) = 0) _ _) _
  rcases wit_cs (p := p) (a := 0) (n := 2) (by omega) (by omega) with ⟨hp, hp'⟩ | ⟨j, _, hj, rfl, hp1, hp2, hp⟩
  · rw [hp, xite_t (by decide), if_neg (by decide)]; exact OKm_r hI hR
  obtain ⟨ν, d1, d2, d3⟩ := s12_starts (RM_H hR1) (show 987 ≤ 1034 by omega) B987
  rw [hp, xite_f (by decide), d1, bV_v, vI_eq, vI_eq, vI_eq, if_pos rfl]
  have key : ∃ ξ, h12_judged_31 20000 (nI j) (-1) (-1) (nI 0) ν = xri (if nI j = 0 then (jdg (aH A) (aE A) (aE A).1).2.1 else if nI j = 1 then (jdg (aH A) (aE A) (aE A).1).2.2 else nI (pc (who (aH A) (jdg (aH A) (aE A) (aE A).1).1 1))) ξ ∧ QM (m0 μ) ξ := by
    refine lp_v 3 (F := fun n (ν : XM) k => h12_judged_31 n (nI j) (jdg (aH A) (aE A) k).2.1 (jdg (aH A) (aE A) k).2.2 (nI k) ν) (fun k ν => JM A (jdg (aH A) (aE A) k).1 (m0 μ) ν) (Q := fun x => ∃ ξ, x = xri (if nI j = 0 then (jdg (aH A) (aE A) (aE A).1).2.1 else if nI j = 1 then (jdg (aH A) (aE A) (aE A).1).2.2 else nI (pc (who (aH A) (jdg (aH A) (aE A) (aE A).1).1 1))) ξ ∧ QM (m0 μ) ξ) (e := (aE A).1) ?_ ?_ (aE A).1 0 20000 ν (by omega) (by omega) ⟨d2, FX_Q d3 (by omega)⟩
    · intro n ν hn hJ
      obtain ⟨n, rfl⟩ : ∃ m, n = m + 1 + 1 + 1 := ⟨n - 3, by omega⟩
      have ec : aI ν 12 0 21 0 = nI (aE A).1 := by rw [QM_a hJ.2 (j := 21) (by omega)]; exact hR1.2.2.2.2.1.1
      rw [h12_judged_31_s, xck_t (by decide), show Int32.toNatClampNeg 0 = 0 from rfl, ec, xite_f Int32.lt_irrefl]
      by_cases h0 : nI j = 0
      · rw [xite_t h0, if_pos h0]; exact ⟨ν, rfl, hJ.2⟩
      · rw [xite_f h0, if_neg h0]
        by_cases h1 : nI j = 1
        · rw [xite_t h1, if_pos h1]; exact ⟨ν, rfl, hJ.2⟩
        · rw [xite_f h1, if_neg h1, s12_who (JM_H hR1 hJ) hJ.1 (show 987 ≤ 1034 by omega) B987, bI_i, s12_bits (Nat.lt_trans (who_64 h6) (by decide)), bI_i]
          exact ⟨ν, rfl, hJ.2⟩
    · intro n ν k hn hk hJ
      obtain ⟨v1, v2⟩ := jdg_V (h := aH A) (e := aE A) k
      obtain ⟨ξ, m, e1, e2, e3⟩ := m_line hI hR1 hJ (SI_jdg (AI_H hI) hE k (by omega)) hk (p := nI j) v1 v2 hn
      exact ⟨ξ, m, e1, e3, e2⟩
  obtain ⟨ξ, e1, e2⟩ := key
  rw [show (0 : Int32) = nI 0 from rfl, e1]
  exact OKm_of hI hR e2
end
