/-! THE PURE PART: first, latest, save, worth -/
theorem f1_ext {c : Nat → Bool} : ∀ n k m b, f1 c k n = some b → n ≤ m → f1 c k m = some b
  | 0, k, m, b, h, _ => by cases h
  | n + 1, k, m, b, h, hm => by
    obtain ⟨m', rfl⟩ : ∃ m', m = m' + 1 := ⟨m - 1, by omega⟩
    rw [f1] at h ⊢
    split at h
    · rename_i hc; rw [if_pos hc]; exact h
    · rename_i hc; rw [if_neg hc]; exact f1_ext n (k + 1) m' b h (by omega)
/-- the lowest bit -/
def lowN (v : Nat) : Option Nat := f1 (fun g => v.testBit g) 0 31
theorem low_ex {c : Nat → Bool} {n : Nat} (h : bN c n ≠ 0) : ∃ g, f1 (fun g => (bN c n).testBit g) 0 n = some g := by
  cases e : f1 (fun g => (bN c n).testBit g) 0 n with
  | some g => exact ⟨g, rfl⟩
  | none =>
    exfalso; apply h
    apply bN_0.mpr
    intro k hk
    have := (f1_none n 0).mp e k (Nat.zero_le k) (by omega)
    rw [bN_test] at this
    simpa [hk] using this
section
variable {A : AS} {μ : XM} {s0 : SS}
theorem low_loop {v : Nat} (hv : v < 1024) : ∀ d k n, k + d = 31 → d < n → (∃ g, k ≤ g ∧ g < 31 ∧ v.testBit g = true) → h11_lowestBit_2 n (nI v) (nI k) μ = xri (oI (f1 (fun g => v.testBit g) k d)) μ := by
  intro d
  induction d with
  | zero => intro k n e _ hx; obtain ⟨g, g1, g2, _⟩ := hx; omega
  | succ d ih =>
    intro k n e hn hx
    obtain ⟨m, rfl⟩ : ∃ m, n = m + 1 := ⟨n - 1, by omega⟩
    have h1 : nI k < (32 : Int32) := nI_lt (b := 32) (by omega) (by omega)
    rw [h11_lowestBit_2_s, xite_t h1, tst (show v < 2 ^ 31 by omega) (show k < 31 by omega), vI_eq, ← nI_succ, f1]
    by_cases ht : v.testBit k = true
    · rw [ht, xite_t (by decide), if_pos rfl]; rfl
    · have ht' : v.testBit k = false := by simpa using ht
      rw [ht', xite_f (by decide), if_neg (by decide)]
      apply ih (k + 1) m (by omega) (by omega)
      obtain ⟨g, g1, g2, g3⟩ := hx
      refine ⟨g, ?_, g2, g3⟩
      by_cases e : k = g
      · subst e; exact absurd g3 ht
      · omega
theorem s11_lowestBit {c : Nat → Bool} {n : Nat} (hn : n ≤ 6) (h : bN c n ≠ 0) : f11_lowestBit (nI (bN c n)) μ = xri (oI (lowN (bN c n))) μ := by
  obtain ⟨g, hg⟩ := low_ex h
  obtain ⟨g1, g2, g3⟩ := f1_lt _ _ _ hg
  have hlt : bN c n < 1024 := bN_lt' c (by omega)
  rw [f11_lowestBit_e, k11_lowestBit, vI_eq]
  exact low_loop hlt 31 0 20000 (by omega) (by omega) ⟨g, by omega, by omega, g3⟩
def aFirst (A : AS) : Int32 := match f1 (fun n => decide (sunkN (aH A) (itr (aH A) (aS A) (n - 1)) ≠ 0)) 1 60 with
  | none => -1
  | some n => oI (lowN (sunkN (aH A) (itr (aH A) (aS A) (n - 1))))
theorem sunk_0 {h : HS} {s : SS} (h6 : hG h ≤ 6) : (nI (sunkN h s) = 0) = (sunkN h s = 0) := by
  have : sunkN h s < 1024 := bN_lt' _ (by omega)
  exact propext (nI_eq (b := 0) (by omega) (by omega))
theorem c_first (hI : AI A) (hR : RC A μ) : OKc A A μ (f11_first μ) (aFirst A) := by
  have h6 := CH_6 (RC_H hR)
  obtain ⟨ν, e1, e2⟩ := KC_start hR
  rw [f11_first_e, k11_first, e1, bV_v, vI_eq]
  refine lp_rex (F := fun n ν k => h11_first_13 n k ν) (fun k ν => 1 ≤ k ∧ KC A (aS A) (k - 1) μ ν) (fun n => decide (sunkN (aH A) (itr (aH A) (aS A) (n - 1)) ≠ 0)) (Q := fun a x => OKc A A μ x (match a with | none => -1 | some n => oI (lowN (sunkN (aH A) (itr (aH A) (aS A) (n - 1)))))) (e := 61) ?_ ?_ 60 1 20000 ν (by omega) (by omega) ⟨by omega, e2⟩
  · intro n ν hK
    rw [h11_first_13_s, xite_t (by decide)]
    exact OKc_of hR hK.2
  · intro n ν k hk hK
    have h9 : ¬ (60 : Int32) < nI k := nI_nlt (a := 60) (b := k) (by omega) (by omega)
    obtain ⟨ξ, e3, e4⟩ := KC_step hI hR (AI_S hI) hK.2
    rw [show k - 1 + 1 = k by omega] at e4
    rw [h11_first_13_s, xite_f h9, e3, bI_i, vI_eq, sunk_0 h6]
    refine ⟨fun hc => ?_, fun hc => ?_⟩
    · have hc' := of_decide_eq_true hc
      rw [xite_f hc', show sunkN (aH A) (itr (aH A) (aS A) (k - 1)) = bN _ _ from rfl, s11_lowestBit h6 hc', bI_i]
      exact OKc_of hR e4
    · have hc' : sunkN (aH A) (itr (aH A) (aS A) (k - 1)) = 0 := by simpa using hc
      rw [xite_t hc', vI_eq, ← nI_succ]
      exact ⟨ξ, ⟨by omega, by rw [show k + 1 - 1 = k by omega]; exact e4⟩, rfl⟩
theorem m_first_in {h : HS} {ν : XM} (hH : RH h ν) {v : Nat} (hv : v < 1024) (x : Int32) : ∀ d k n, k + d = hG h → d + 1 ≤ n →
    (∃ g, f1 (fun g => v.testBit g) k d = some g ∧ h12_first_27 n x (nI v) (nI k) ν = xri (nI g) ν) ∨ (f1 (fun g => v.testBit g) k d = none ∧ ∃ n', n ≤ n' + d + 1 ∧ h12_first_27 n x (nI v) (nI k) ν = h12_first_11 n' (x + 1) ν) := by
  have h6 := RH_6 hH
  intro d
  induction d with
  | zero =>
    intro k n e hn
    obtain ⟨m, rfl⟩ : ∃ m, n = m + 1 := ⟨n - 1, by omega⟩
    obtain rfl : k = hG h := by omega
    right
    refine ⟨rfl, m, by omega, ?_⟩
    rw [h12_first_27_s, s12_guests hH, bI_i, xite_f Int32.lt_irrefl, vI_eq]
  | succ d ih =>
    intro k n e hn
    obtain ⟨m, rfl⟩ : ∃ m, n = m + 1 := ⟨n - 1, by omega⟩
    rw [h12_first_27_s, s12_guests hH, bI_i, xite_t (nI_lt (by omega) (by omega)), tst (show v < 2 ^ 31 by omega) (show k < 31 by omega), vI_eq, ← nI_succ, f1]
    by_cases ht : v.testBit k = true
    · left; rw [ht, xite_t (by decide), if_pos rfl]; exact ⟨k, rfl, rfl⟩
    · have ht' : v.testBit k = false := by simpa using ht
      rw [ht', xite_f (by decide), if_neg (by decide)]
      rcases ih (k + 1) m (by omega) (by omega) with h | ⟨h1, n', h2, h3⟩
      · exact .inl h
      · exact .inr ⟨h1, n', by omega, h3⟩
theorem m_first (hI : AI A) (hR : RM A μ) : OKm A A μ (f12_first μ) (aFirst A) := by
  have hR1 := m0_R hI hR
  have h6 := RH_6 (RM_H hR1)
  obtain ⟨ν, e1, e2⟩ := KM_start hR1
  rw [f12_first_e, k12_first, mS_eq]
  change OKm A A μ (bV (f12_triesNow (m0 μ)) _) _
  rw [e1, bV_v, vI_eq]
  refine lp_rexq (F := fun n ν k => h12_first_11 n k ν) 8 (by omega) (fun k ν => 1 ≤ k ∧ KM A 987 (aS A) (k - 1) (m0 μ) ν) (fun n => decide (sunkN (aH A) (itr (aH A) (aS A) (n - 1)) ≠ 0)) (Q := fun a x => OKm A A μ x (match a with | none => -1 | some n => oI (lowN (sunkN (aH A) (itr (aH A) (aS A) (n - 1)))))) (e := 61) ?_ ?_ 60 1 20000 ν (by omega) (by omega) ⟨by omega, e2⟩
  · intro n ν hK
    rw [h12_first_11_s, xite_t (by decide)]
    exact OKm_of hI hR hK.2.2
  · intro n ν k hn hk hK
    obtain ⟨m, rfl⟩ : ∃ m, n = m + 1 := ⟨n - 1, by omega⟩
    have h9 : ¬ (60 : Int32) < nI k := nI_nlt (a := 60) (b := k) (by omega) (by omega)
    obtain ⟨ξ, e3, e4⟩ := KM_step hI hR1 (AI_S hI) (.inl rfl) (p := 987) rfl hK.2
    rw [show k - 1 + 1 = k by omega] at e4
    have hlt : sunkN (aH A) (itr (aH A) (aS A) (k - 1)) < 1024 := bN_lt' _ (by omega)
    rw [h12_first_11_s, xite_f h9, e3, bI_i, vI_eq, vI_eq]
    have hin := m_first_in (KM_H hR1 e4) hlt (nI k) (hG (aH A)) 0 m (by omega) (by omega)
    refine ⟨fun hc => ?_, fun hc => ?_⟩
    · have hc' := of_decide_eq_true hc
      obtain ⟨g, hg⟩ := low_ex (c := fun g => isIn (itr (aH A) (aS A) (k - 1)) g && drB (aH A) (itr (aH A) (aS A) (k - 1)) g) (n := hG (aH A)) hc'
      have hg' : f1 (fun g => (sunkN (aH A) (itr (aH A) (aS A) (k - 1))).testBit g) 0 (hG (aH A)) = some g := hg
      rcases hin with ⟨g2, h1, h2⟩ | ⟨h1, _⟩
      · rw [hg'] at h1; cases h1
        have h2' : h12_first_27 m (nI k) (nI (sunkN (aH A) (itr (aH A) (aS A) (k - 1)))) 0 ξ = xri (nI g) ξ := h2
        have he := f1_ext _ _ 31 _ hg' (by omega)
        rw [h2']
        show OKm A A μ _ (oI (lowN _))
        rw [lowN, he]
        exact OKm_of hI hR e4.2
      · rw [hg'] at h1; cases h1
    · have hc' : sunkN (aH A) (itr (aH A) (aS A) (k - 1)) = 0 := by simpa using hc
      rcases hin with ⟨g2, h1, _⟩ | ⟨_, n', h2, h3⟩
      · have := (f1_lt _ _ _ h1).2.2
        rw [hc'] at this; simp at this
      · refine ⟨ξ, n', by omega, ⟨by omega, by rw [show k + 1 - 1 = k by omega]; exact e4⟩, ?_⟩
        rw [nI_succ]; exact h3
-- latest
def aLatest (A : AS) (p : Int32) : Int32 := if inR (hG (aH A)) p && isIn (aS A) p.toNatClampNeg then (match leastB (aH A) p.toNatClampNeg with | none => -1 | some _ => (match unt (aH A) (aS A) p.toNatClampNeg 2 with | none => 60 | some n => nI n - 1)) else -1
theorem unt_lt {h : HS} {s : SS} {g : Nat} {v : Int32} {b : Nat} (e : unt h s g v = some b) : b < 2 ^ 31 := by
  have := f1_lt _ _ _ e; omega
theorem least_lt {h : HS} {g b : Nat} (h5 : hB h ≤ 5) (e : leastB h g = some b) : b < 2 ^ 31 := by
  have := lo_lt e; omega
theorem c_latest (hI : AI A) (hR : RC A μ) (p : Int32) : OKc A A μ (f11_latest p μ) (aLatest A p) := by
  have h6 := CH_6 (RC_H hR)
  have h5 := CH_5 (RC_H hR)
  rw [f11_latest_e, k11_latest, s8_isIn (RC_H hR) (RC_S hR), bI_i]
  by_cases hp : (inR (hG (aH A)) p && isIn (aS A) p.toNatClampNeg) = true
  · rcases inR_cases (n := hG (aH A)) (by omega) p with ⟨hq, _⟩ | ⟨j, hj, rfl, hp1, hp2, hp3⟩
    · rw [hq] at hp; cases hp
    · rw [hp3, nI_clamp (show j < 2 ^ 31 by omega), Bool.true_and] at hp
      rw [aLatest, hp3, nI_clamp (show j < 2 ^ 31 by omega), hp, Bool.and_self, xite_f (by decide), s2_leastBelt (RC_H hR) hj, bI_i, oI_m1 (fun b hb => least_lt h5 hb), if_pos rfl]
      cases hl : leastB (aH A) j with
      | none => rw [xite_t rfl]; exact OKc_r hR
      | some b =>
        obtain ⟨ν, e1, e2, e3⟩ := c_until hI hR hj hp 2
        rw [xite_f (by simp), e1, bI_i, vI_eq, oI_m1 (fun b hb => unt_lt hb)]
        cases hu : unt (aH A) (aS A) j 2 with
        | none => rw [xite_t rfl]; exact ⟨ν, rfl, e2, e3⟩
        | some n => rw [xite_f (by simp)]; exact ⟨ν, rfl, e2, e3⟩
  · have hp' : (inR (hG (aH A)) p && isIn (aS A) p.toNatClampNeg) = false := by simpa using hp
    rw [aLatest, hp', xite_t (by decide)]
    exact OKc_r hR
theorem m_latest (hI : AI A) (hR : RM A μ) (p : Int32) : OKm A A μ (f12_latest p μ) (aLatest A p) := by
  have hR1 := m0_R hI hR
  have h6 := RH_6 (RM_H hR1)
  have h5 := RH_5 (RM_H hR1)
  rw [f12_latest_e, k12_latest, mS_eq]
  change OKm A A μ (bI (f12_isGuest p (m0 μ)) _) _
  rw [s12_isGuest (RM_H hR1), bI_i]
  rcases inR_cases (n := hG (aH A)) (by omega) p with ⟨hp, hp'⟩ | ⟨j, hj, rfl, hp1, hp2, hp3⟩
  · rw [hp, xite_t (by decide), aLatest, hp]; exact OKm_r hI hR
  · rw [hp3, xite_f (by decide), s12_isIn (RM_S hR1) (by omega) h6 B0 hj, bI_i, aLatest, hp3, nI_clamp (by omega), Bool.true_and]
    by_cases hin : isIn (aS A) j = true
    · rw [hin, xite_f (by decide), s12_enoughFor (RM_H hR1) hj, bI_i, oI_neg (fun b hb => least_lt h5 hb), if_pos rfl]
      cases hl : leastB (aH A) j with
      | none => rw [xite_t rfl]; exact OKm_r hI hR
      | some b =>
        obtain ⟨ξ, e3, e4⟩ := m_sinksIn hI hR1 hj
        rw [xite_f (by simp), e3, bI_i, vI_eq, oI_neg (fun b hb => unt_lt hb)]
        cases hu : unt (aH A) (aS A) j 2 with
        | none => rw [xite_t rfl]; exact OKm_of hI hR e4
        | some n => rw [xite_f (by simp)]; exact OKm_of hI hR e4
    · have hin' : isIn (aS A) j = false := by simpa using hin
      rw [hin', xite_t (by decide)]; exact OKm_r hI hR
-- save
def cst (s : SS) (m b g : Nat) : SS := up (up s 3 g (nI b)) 4 m 1
theorem SI_cst {h : HS} {s : SS} (hI : SI h s) (h6 : hG h ≤ 6) (h5 : hB h ≤ 5) {m b g : Nat} (hb : b < hB h) (hg : g < hG h) (hin : isIn s g = true) (hw : wl h s (nI b) = true) : SI h (cst s m b g) := by
  have hw' := (wl_iff h6 (nI b)).mp hw
  have h2 : s 2 g = 0 := by simpa [isIn] using hin
  have hbm : ¬ nI b = -1 := by rw [nI_nneg (by omega) (by decide)]; exact not_false
  refine ⟨fun g' hg' => ?_, fun g1 g2 h1 h2' hne e => ?_, fun m' hm' => ?_, ?_, ?_⟩
  · obtain ⟨a1, a2, a3, a4⟩ := hI.1 g' hg'
    refine ⟨by simpa [cst, up] using a1, by simpa [cst, up] using a2, by simpa [cst, up] using a3, ?_⟩
    by_cases e : g' = g
    · subst e; right; exact ⟨by simpa [cst, up] using h2, b, hb, by simp [cst, up]⟩
    · simpa [cst, up, e] using a4
  · have e' : up s 3 g (nI b) 3 g1 = up s 3 g (nI b) 3 g2 := by simpa [cst, up] using e
    have goal : up s 3 g (nI b) 3 g1 = -1 := by
      by_cases e1 : g1 = g
      · subst e1
        have e2 : ¬ g2 = g1 := fun x => hne x.symm
        simp [up, e2] at e'
        exact absurd e'.symm (hw' g2 h2')
      · by_cases e2 : g2 = g
        · subst e2
          simp [up, e1] at e'
          exact absurd e' (hw' g1 h1)
        · simp [up, e1, e2] at e' ⊢
          exact hI.2.1 g1 g2 h1 h2' hne e'
    simpa [cst, up] using goal
  · by_cases e : m' = m
    · right; simp [cst, up, e]
    · simpa [cst, up, e] using hI.2.2.1 m' hm'
  · simpa [cst, up] using hI.2.2.2.1
  · simpa [cst, up] using hI.2.2.2.2
def svs (h : HS) (s : SS) (m b g : Nat) : Bool := rch h s m g && (wl h s (nI b) && decide (unt h (cst s m b g) g 2 = none))
theorem rch_in {h : HS} {s : SS} {m g : Nat} (hr : rch h s m g = true) : isIn s g = true := by
  unfold rch want at hr
  simp only [Bool.and_eq_true] at hr
  exact hr.2.1.1
def svA (A : AS) (p q r : Int32) : Bool := (inR (hG (aH A)) p && (inR (hM (aH A)) q && inR (hB (aH A)) r)) && svs (aH A) (aS A) q.toNatClampNeg r.toNatClampNeg p.toNatClampNeg
/-- a loop that stops when one is not in it any more -/
theorem unt_stop {h : HS} {s : SS} {g k : Nat} (hg : g < hG h) (hk : k ≤ 60) (hin : isIn s g = true) (hb : ∀ j, j < k → isIn (itr h s j) g = true) (he : k = 60 ∨ isIn (itr h s k) g = false) : decide (unt h s g 2 = none) = !decide (itr h s k 2 g = 2) := by
  by_cases h2 : itr h s k 2 g = 2
  · have : unt h s g 2 ≠ none := by
      intro e
      have h0 : k ≠ 0 := by
        rintro rfl
        have : s 2 g = 2 := h2
        unfold isIn at hin; rw [this] at hin; simp at hin
      have := (f1_none 60 1).mp e k (by omega) (by omega)
      rw [h2] at this; simp at this
    simp [h2, this]
  · have : unt h s g 2 = none := by
      apply (f1_none 60 1).mpr
      intro j j1 j2
      by_cases hj : j < k
      · have := hb j hj
        unfold isIn at this
        simp only [decide_eq_true_eq] at this
        rw [this]; decide
      · by_cases e : j = k
        · subst e; simp [h2]
        · rcases he with rfl | he
          · omega
          · rw [itr_out hg he j (by omega)]; simp [h2]
    simp [h2, this]
theorem c_isSavedBy (hI : AI A) (hR : RC A μ) (p q r : Int32) : ∃ ν, f11_isSavedBy p q r μ = xri (b2 (svA A p q r)) ν ∧ RC A ν ∧ QC μ ν := by
  have hH := RC_H hR
  have h6 := CH_6 hH
  have h5 := CH_5 hH
  have h3 := CH_3 hH
  rw [f11_isSavedBy_e, k11_isSavedBy, s8_canCast hH (RC_S hR), bI_i]
  by_cases hc : ((inR (hB (aH A)) r && wl (aH A) (aS A) r) && (inR (hM (aH A)) q && (inR (hG (aH A)) p && rch (aH A) (aS A) q.toNatClampNeg p.toNatClampNeg))) = true
  · rw [hc, xite_f (by decide)]
    simp only [Bool.and_eq_true] at hc
    obtain ⟨⟨c1, c2⟩, c3, c4, c5⟩ := hc
    rcases inR_cases (n := hG (aH A)) (by omega) p with ⟨hq, _⟩ | ⟨g, hg, rfl, _, _, hp3⟩
    · rw [hq] at c4; cases c4
    rcases inR_cases (n := hM (aH A)) (by omega) q with ⟨hq, _⟩ | ⟨m, hm, rfl, _, _, hq3⟩
    · rw [hq] at c3; cases c3
    rcases inR_cases (n := hB (aH A)) (by omega) r with ⟨hq, _⟩ | ⟨b, hb, rfl, _, _, hr3⟩
    · rw [hq] at c1; cases c1
    have kg : (nI g).toNatClampNeg = g := nI_clamp (by omega)
    have km : (nI m).toNatClampNeg = m := nI_clamp (by omega)
    have kb : (nI b).toNatClampNeg = b := nI_clamp (by omega)
    rw [kg, km] at c5
    have hin := rch_in c5
    obtain ⟨ν, e1, e2⟩ := KC_start hR
    obtain ⟨ν2, d1, d2, d3⟩ := s8_giveBelt (KC_H hR e2) e2.1 hm hg (nI b)
    have hSI : SI (aH A) (cst (aS A) m b g) := SI_cst (AI_S hI) h6 h5 hb hg hin c2
    have hK : KC A (cst (aS A) m b g) 0 μ ν2 := ⟨d2, LC_ob (d3 4 0 (by omega)) e2.2.1, QC_t e2.2.2 (FrS_Q d3)⟩
    have hin1 : isIn (cst (aS A) m b g) g = true := by simpa [isIn, cst, up] using hin
    rw [e1, bV_v, d1, bV_v, vI_eq]
    have ans : ∀ k ν, k ≤ 60 → KC A (cst (aS A) m b g) k μ ν → (∀ j, j < k → isIn (itr (aH A) (cst (aS A) m b g) j) g = true) → (k = 60 ∨ isIn (itr (aH A) (cst (aS A) m b g) k) g = false) →
        ∃ ξ, (bI (f8_isInState 1 (nI g) 2 ν) fun r4 m3 => xite (r4 = 0) (xrb 1 m3) (xrb 0 m3)) = xri (b2 (svA A (nI g) (nI m) (nI b))) ξ ∧ RC A ξ ∧ QC μ ξ := by
      intro k ν hk hK hb' he
      refine ⟨ν, ?_, (KC_end hR hK).1, hK.2.2⟩
      rw [s8_isInState (KC_H hR hK) hK.1, bI_i, hp3, kg, Bool.true_and]
      have hst := unt_stop hg hk hin1 hb' he
      simp only [svA, hp3, hq3, hr3, kg, km, kb, svs, c5, c2, Bool.and_self, Bool.true_and, hst, xite_eq, xrb_0, xrb_1]
      cases decide (itr (aH A) (cst (aS A) m b g) k 2 g = 2) <;> rfl
    refine lp_rex (F := fun n ν k => h11_isSavedBy_39 n (nI g) k ν) (fun k ν => KC A (cst (aS A) m b g) k μ ν ∧ ∀ j, j < k → isIn (itr (aH A) (cst (aS A) m b g) j) g = true) (fun k => !isIn (itr (aH A) (cst (aS A) m b g) k) g) (Q := fun a x => ∃ ξ, x = xri (b2 (svA A (nI g) (nI m) (nI b))) ξ ∧ RC A ξ ∧ QC μ ξ) (e := 60) ?_ ?_ 60 0 20000 ν2 (by omega) (by omega) ⟨hK, fun j hj => absurd hj (Nat.not_lt_zero j)⟩
    · intro n ν hJ
      rw [h11_isSavedBy_39_s, xite_f (by decide)]
      exact ans 60 ν (by omega) hJ.1 hJ.2 (.inl rfl)
    · intro n ν k hk hJ
      have h9 : nI k < (60 : Int32) := nI_lt (b := 60) hk (by omega)
      rw [h11_isSavedBy_39_s, xite_t h9, s8_isIn (KC_H hR hJ.1) hJ.1.1, bI_i, hp3, kg, Bool.true_and]
      refine ⟨fun hc => ?_, fun hc => ?_⟩
      · have hc' : isIn (itr (aH A) (cst (aS A) m b g) k) g = false := by simpa using hc
        rw [hc', xite_t (by decide)]
        exact ans k ν (by omega) hJ.1 hJ.2 (.inr hc')
      · have hc' : isIn (itr (aH A) (cst (aS A) m b g) k) g = true := by simpa using hc
        obtain ⟨ξ, e3, e4⟩ := KC_step hI hR hSI hJ.1
        rw [hc', xite_f (by decide), e3, bI_i, vI_eq, ← nI_succ]
        refine ⟨ξ, ⟨e4, fun j hj => ?_⟩, rfl⟩
        by_cases e : j = k
        · subst e; exact hc'
        · exact hJ.2 j (by omega)
  · have hc' : ((inR (hB (aH A)) r && wl (aH A) (aS A) r) && (inR (hM (aH A)) q && (inR (hG (aH A)) p && rch (aH A) (aS A) q.toNatClampNeg p.toNatClampNeg))) = false := by simpa using hc
    rw [hc', xite_t (by decide)]
    refine ⟨μ, ?_, hR, QC_r⟩
    have : svA A p q r = false := by
      by_cases hs : svA A p q r = true
      · exfalso
        have hs' := hs
        simp only [svA, svs, Bool.and_eq_true] at hs'
        obtain ⟨⟨s1, s2, s3⟩, s4, s5, s6⟩ := hs'
        rcases inR_cases (n := hB (aH A)) (by omega) r with ⟨hq, _⟩ | ⟨b, hb, rfl, _, _, hr3⟩
        · rw [hq] at s3; cases s3
        rw [nI_clamp (by omega)] at s5
        rw [s1, s2, s3, s4, s5] at hc'
        cases hc'
      · simpa using hs
    rw [this]; rfl
theorem c_save (hI : AI A) (hR : RC A μ) (p q r : Int32) : OKc A A μ (f11_save p q r μ) (b2 (svA A p q r)) := by
  obtain ⟨ν, e1, e2, e3⟩ := c_isSavedBy hI hR p q r
  rw [f11_save_e, k11_save, e1, bI_i, xrb_b]
  exact ⟨ν, rfl, e2, QC_11 e3⟩
theorem m_doesSave (hI : AI A) (hR1 : RM A μ) {m b g : Nat} (hm : m < hM (aH A)) (hb : b < hB (aH A)) (hg : g < hG (aH A)) : ∃ ξ, f12_doesSave (nI g) (nI m) (nI b) μ = xri (b2 (svs (aH A) (aS A) m b g)) ξ ∧ QM μ ξ := by
  have hH := RM_H hR1
  have h6 := RH_6 hH
  have h5 := RH_5 hH
  have h3 := RH_3 hH
  rw [f12_doesSave_e, k12_doesSave, s12_mayCast hH (RM_S hR1) (AI_S hI) (by omega) B0 hm hb hg, bI_i]
  by_cases c5 : rch (aH A) (aS A) m g = true
  · by_cases c2 : wl (aH A) (aS A) (nI b) = true
    · obtain ⟨ν, e1, e2⟩ := KM_start hR1
      obtain ⟨ν2, d1, d2, d3⟩ := s12_casts h6 h3 e2.1 (by omega) (p := 987) rfl hm hg (nI b)
      have hSI : SI (aH A) (cst (aS A) m b g) := SI_cst (AI_S hI) h6 h5 hb hg (rch_in c5) c2
      have hK : KM A 987 (cst (aS A) m b g) 0 μ ν2 := ⟨d2, QM_t e2.2 (FX_Q d3 (by omega))⟩
      obtain ⟨ξ, e3, e4⟩ := m_becomes hI hR1 hSI hK hg 2
      rw [c5, c2, Bool.and_self, xite_f (by decide), e1, bV_v, d1, bV_v, e3, bI_i, oI_neg (fun b hb => unt_lt hb)]
      refine ⟨ξ, ?_, e4⟩
      unfold svs
      rw [c5, c2]
      cases hu : unt (aH A) (cst (aS A) m b g) g 2 with
      | none => rw [xite_t rfl]; rfl
      | some n => rw [xite_f (by simp)]; rfl
    · have c2' : wl (aH A) (aS A) (nI b) = false := by simpa using c2
      rw [c5, c2', Bool.and_false, xite_t (by decide)]
      exact ⟨μ, by unfold svs; rw [c2']; simp [xrb_0, b2], QM_r⟩
  · have c5' : rch (aH A) (aS A) m g = false := by simpa using c5
    rw [c5', Bool.false_and, xite_t (by decide)]
    exact ⟨μ, by unfold svs; rw [c5']; simp [xrb_0, b2], QM_r⟩
theorem m_save (hI : AI A) (hR : RM A μ) (p q r : Int32) : OKm A A μ (f12_save p q r μ) (b2 (svA A p q r)) := by
  have hR1 := m0_R hI hR
  have hH := RM_H hR1
  have h6 := RH_6 hH
  have h5 := RH_5 hH
  have h3 := RH_3 hH
  rw [f12_save_e, k12_save, mS_eq]
  change OKm A A μ (bI (f12_isGuest p (m0 μ)) _) _
  rw [s12_isGuest hH, bI_i, svA]
  rcases inR_cases (n := hG (aH A)) (by omega) p with ⟨hp, _⟩ | ⟨g, hg, rfl, _, _, hp3⟩
  · rw [hp, xite_t (by decide)]; exact OKm_r hI hR
  rw [hp3, xite_f (by decide), s12_isMan hH, bI_i]
  rcases inR_cases (n := hM (aH A)) (by omega) q with ⟨hq, _⟩ | ⟨m, hm, rfl, _, _, hq3⟩
  · rw [hq, xite_t (by decide)]; exact OKm_r hI hR
  rw [hq3, xite_f (by decide), s12_isBelt hH, bI_i]
  rcases inR_cases (n := hB (aH A)) (by omega) r with ⟨hr, _⟩ | ⟨b, hb, rfl, _, _, hr3⟩
  · rw [hr, xite_t (by decide)]; exact OKm_r hI hR
  obtain ⟨ξ, e3, e4⟩ := m_doesSave hI hR1 hm hb hg
  rw [hr3, xite_f (by decide), e3, bI_i, nI_clamp (show g < 2 ^ 31 by omega), nI_clamp (show m < 2 ^ 31 by omega), nI_clamp (show b < 2 ^ 31 by omega)]
  cases svs (aH A) (aS A) m b g with
  | true => rw [xite_f (by decide)]; exact OKm_of hI hR e4
  | false => rw [xite_t (by decide)]; exact OKm_of hI hR e4
-- worth
def wth (h : HS) (s : SS) (m g : Nat) : Bool := match leastB h g with
  | none => false
  | some b => isIn s g && (!decide (unt h s g 2 = none) && svs h s m b g)
def aWorth (A : AS) (p : Int32) : Int32 := if inR (hM (aH A)) p then nI (ct (fun g => wth (aH A) (aS A) p.toNatClampNeg g) (hG (aH A))) else -1
theorem unt_60 {h : HS} {s : SS} {g : Nat} (hg : g < hG h) : (!decide (unt h s g 2 = none)) = decide (itr h s 60 2 g = 2) := by
  cases hu : unt h s g 2 with
  | none =>
    have := (f1_none 60 1).mp hu 60 (by omega) (by omega)
    simp [this]
  | some n =>
    obtain ⟨n1, n2, n3⟩ := f1_lt _ _ _ hu
    have n3' := of_decide_eq_true n3
    have : itr h s 60 2 g = 2 := by
      rw [itr_out hg (n := n) (by unfold isIn; rw [n3']; decide) 60 (by omega), n3']
    simp [this]
theorem c_worth (hI : AI A) (hR : RC A μ) (p : Int32) : OKc A A μ (f11_worth p μ) (aWorth A p) := by
  have hH := RC_H hR
  have h6 := CH_6 hH
  have h5 := CH_5 hH
  have h3 := CH_3 hH
  rw [f11_worth_e, k11_worth, s2_isMan hH, bI_i]
  rcases inR_cases (n := hM (aH A)) (by omega) p with ⟨hp, _⟩ | ⟨m, hm, rfl, _, _, hp3⟩
  · rw [hp, xite_t (by decide), aWorth, hp]; exact OKc_r hR
  obtain ⟨ν, e1, e2⟩ := c_goAhead hI hR (j := 60) (by omega)
  have e1' : f11_goAhead 60 μ = xrv ν := e1
  have hw : who (aH A) (itr (aH A) (aS A) 60) 2 < 1024 := bN_lt' _ (by omega)
  have km : (nI m).toNatClampNeg = m := nI_clamp (by omega)
  rw [hp3, xite_f (by decide), e1', bV_v, s8_whoIs (KC_H hR e2) e2.1, bI_i, vI_eq, vI_eq, vI_eq, aWorth, hp3, if_pos rfl, km]
  refine lp_rel (F := fun n (s : Int32 × XM) k => h11_worth_33 n (nI m) (nI (who (aH A) (itr (aH A) (aS A) 60) 2)) s.1 k s.2) (fun k s => s.1 = nI (ct (fun g => wth (aH A) (aS A) m g) k) ∧ RC A s.2 ∧ QC μ s.2) (Q := fun x => OKc A A μ x (nI (ct (fun g => wth (aH A) (aS A) m g) (hG (aH A))))) (e := hG (aH A)) ?_ ?_ (hG (aH A)) 0 20000 (0, ν) (by omega) (by omega) ⟨rfl, (KC_end hR e2).1, e2.2.2⟩
  · intro n s hJ
    rw [h11_worth_33_s, CH_G (RC_H hJ.2.1), xite_f Int32.lt_irrefl, hJ.1]
    exact ⟨s.2, rfl, hJ.2.1, QC_11 hJ.2.2⟩
  · intro n s k hk hJ
    have hk31 : k < 31 := by omega
    have hbit : (who (aH A) (itr (aH A) (aS A) 60) 2).testBit k = decide (itr (aH A) (aS A) 60 2 k = 2) := by
      unfold who; rw [bN_test]; simp [hk]
    rw [h11_worth_33_s, CH_G (RC_H hJ.2.1), xite_t (nI_lt hk (by omega)), tst (show _ < 2 ^ 31 by omega) hk31, hbit, s2_leastBelt (RC_H hJ.2.1) hk, bI_i]
    have hct : ∀ x : Bool, wth (aH A) (aS A) m k = x → nI (ct (fun g => wth (aH A) (aS A) m g) (k + 1)) = if x then s.1 + 1 else s.1 := by
      intro x hx
      rw [ct, hx, hJ.1]
      cases x
      · rfl
      · simp only [↓reduceIte]; exact nI_succ _
    obtain ⟨ν2, d1, d2, d3⟩ := c_isSavedBy hI hJ.2.1 (nI k) (nI m) (oI (leastB (aH A) k))
    rw [d1, bI_i]
    by_cases h60 : itr (aH A) (aS A) 60 2 k = 2
    · rw [show decide (itr (aH A) (aS A) 60 2 k = 2) = true from decide_eq_true h60, xite_t (by decide)]
      have hwt : wth (aH A) (aS A) m k = svA A (nI k) (nI m) (oI (leastB (aH A) k)) := by
        unfold wth svA
        simp only [unt_60 hk, decide_eq_true h60, inR_t (show hG (aH A) < 2 ^ 31 by omega) hk, hp3, Bool.true_and, nI_clamp (show k < 2 ^ 31 by omega), km]
        cases hl : leastB (aH A) k with
        | none =>
          have : inR (hB (aH A)) (oI none) = false := by simp [inR, oI]
          rw [this]; rfl
        | some b =>
          have hb := (lo_lt hl).1
          simp only [oI]
          rw [inR_t (by omega) hb, nI_clamp (show b < 2 ^ 31 by omega), Bool.true_and]
          by_cases hs : svs (aH A) (aS A) m b k = true
          · have hs' := hs
            unfold svs at hs'
            simp only [Bool.and_eq_true] at hs'
            rw [rch_in hs'.1, Bool.true_and]
          · have hs' : svs (aH A) (aS A) m b k = false := by simpa using hs
            rw [hs', Bool.and_false]
      cases hsv : svA A (nI k) (nI m) (oI (leastB (aH A) k)) with
      | false =>
        rw [xite_t (by decide), vI_eq, ← nI_succ]
        exact ⟨(s.1, ν2), ⟨(hct false (hwt.trans hsv)).symm, d2, QC_t hJ.2.2 d3⟩, rfl⟩
      | true =>
        rw [xite_f (by decide), vI_eq, vI_eq, ← nI_succ]
        exact ⟨(s.1 + 1, ν2), ⟨(hct true (hwt.trans hsv)).symm, d2, QC_t hJ.2.2 d3⟩, rfl⟩
    · rw [show decide (itr (aH A) (aS A) 60 2 k = 2) = false from decide_eq_false h60, xite_f (by decide), vI_eq, ← nI_succ]
      have hwt : wth (aH A) (aS A) m k = false := by
        unfold wth
        rw [unt_60 hk, decide_eq_false h60]
        split
        · rfl
        · simp
      exact ⟨(s.1, s.2), ⟨(hct false hwt).symm, hJ.2⟩, rfl⟩
theorem m_worth (hI : AI A) (hR : RM A μ) (p : Int32) : OKm A A μ (f12_worth p μ) (aWorth A p) := by
  have hR1 := m0_R hI hR
  have hH := RM_H hR1
  have h6 := RH_6 hH
  have h5 := RH_5 hH
  have h3 := RH_3 hH
  rw [f12_worth_e, k12_worth, mS_eq]
  change OKm A A μ (bI (f12_isMan p (m0 μ)) _) _
  rw [s12_isMan hH, bI_i]
  rcases inR_cases (n := hM (aH A)) (by omega) p with ⟨hp, _⟩ | ⟨m, hm, rfl, _, _, hp3⟩
  · rw [hp, xite_t (by decide), aWorth, hp]; exact OKm_r hI hR
  have km : (nI m).toNatClampNeg = m := nI_clamp (by omega)
  rw [hp3, xite_f (by decide), vI_eq, vI_eq, aWorth, hp3, if_pos rfl, km]
  refine lp_rel (F := fun n (s : Int32 × XM) k => h12_worth_19 n (nI m) s.1 k s.2) (fun k s => s.1 = nI (ct (fun g => wth (aH A) (aS A) m g) k) ∧ QM (m0 μ) s.2) (Q := fun x => OKm A A μ x (nI (ct (fun g => wth (aH A) (aS A) m g) (hG (aH A))))) (e := hG (aH A)) ?_ ?_ (hG (aH A)) 0 20000 (0, m0 μ) (by omega) (by omega) ⟨rfl, QM_r⟩
  · intro n s hJ
    have hRs := RM_q hI hR1 hJ.2
    rw [h12_worth_19_s, s12_guests (RM_H hRs), bI_i, xite_f Int32.lt_irrefl, hJ.1]
    exact OKm_of hI hR hJ.2
  · intro n s k hk hJ
    have hRs := RM_q hI hR1 hJ.2
    have z : s.1 + 0 = s.1 := Int32.add_zero _
    rw [h12_worth_19_s, s12_guests (RM_H hRs), bI_i, xite_t (nI_lt hk (by omega)), s12_enoughFor (RM_H hRs) hk, bI_i, vI_eq, oI_neg (fun b hb => least_lt h5 hb), z]
    simp only [vI_eq, ← nI_succ]
    have hct : ∀ x : Bool, wth (aH A) (aS A) m k = x → nI (ct (fun g => wth (aH A) (aS A) m g) (k + 1)) = if x then s.1 + 1 else s.1 := by
      intro x hx
      rw [ct, hx, hJ.1]
      cases x
      · rfl
      · simp only [↓reduceIte]; exact nI_succ _
    cases hl : leastB (aH A) k with
    | none =>
      rw [xite_t rfl]
      exact ⟨(s.1, s.2), ⟨(hct false (by unfold wth; rw [hl])).symm, hJ.2⟩, rfl⟩
    | some b =>
      have hb := (lo_lt hl).1
      rw [xite_f (by simp), s12_isIn (RM_S hRs) (by omega) h6 B0 hk, bI_i]
      by_cases hin : isIn (aS A) k = true
      · obtain ⟨ξ, e3, e4⟩ := m_sinksIn hI hRs hk
        have hQ2 := QM_t hJ.2 e4
        rw [hin, xite_f (by decide), e3, bI_i, oI_neg (fun b hb => unt_lt hb)]
        cases hu : unt (aH A) (aS A) k 2 with
        | none =>
          rw [xite_t rfl]
          exact ⟨(s.1, ξ), ⟨(hct false (by unfold wth; rw [hl]; simp [hu])).symm, hQ2⟩, rfl⟩
        | some u =>
          obtain ⟨ζ, d3, d4⟩ := m_doesSave hI (RM_q hI hR1 hQ2) hm hb hk
          rw [xite_f (by simp), show oI (some b) = nI b from rfl, d3, bI_i]
          have hwt : wth (aH A) (aS A) m k = svs (aH A) (aS A) m b k := by unfold wth; rw [hl]; simp [hu, hin]
          cases hsv : svs (aH A) (aS A) m b k with
          | false =>
            rw [xite_t (by decide)]
            exact ⟨(s.1, ζ), ⟨(hct false (hwt.trans hsv)).symm, QM_t hQ2 d4⟩, rfl⟩
          | true =>
            rw [xite_f (by decide)]
            exact ⟨(s.1 + 1, ζ), ⟨(hct true (hwt.trans hsv)).symm, QM_t hQ2 d4⟩, rfl⟩
      · have hin' : isIn (aS A) k = false := by simpa using hin
        rw [hin', xite_t (by decide)]
        exact ⟨(s.1, s.2), ⟨(hct false (by unfold wth; rw [hl]; simp [hin'])).symm, hJ.2⟩, rfl⟩
end
