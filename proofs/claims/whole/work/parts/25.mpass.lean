/-! THE PURE PART: what a minute keeps; the reference's minute -/
section
variable {b : Nat} {h : HS} {s : SS} {μ : XM}
theorem cn_no {g : Nat} (hc : s 3 g = -1 ∧ shb h g = false) : cn h s g = s := if_pos hc
theorem cn_yes {g : Nat} (hc : ¬ (s 3 g = -1 ∧ shb h g = false)) : cn h s g = if s 0 g - 1 = 0 then up (up (up s 0 g (s 0 g - 1)) 2 g 1) 3 g (-1) else up s 0 g (s 0 g - 1) := if_neg hc
theorem mdr (s : SS) {n g f : Nat} (hg : g < n) (hf : f ≤ 3) : mix (dr h) s n f g = if isIn s g = true then dr h s g f g else s f g := by simp [mix, hf, hg]
theorem mcn (s : SS) {n g f : Nat} (hg : g < n) (hf : f ≤ 3) : mix (cn h) s n f g = if isIn s g = true then cn h s g f g else s f g := by simp [mix, hf, hg]
theorem mxh (D : SS → Nat → SS) (s : SS) {n g f : Nat} (hf : 4 ≤ f) : mix D s n f g = s f g := by
  have : ¬ f ≤ 3 := by omega
  simp [mix, this]
theorem dr3 (s : SS) (g : Nat) : dr h s g 3 g = s 3 g ∨ dr h s g 3 g = -1 := by
  unfold dr
  split
  · split <;> simp [up]
  · simp [up]
theorem cn3 (s : SS) (g : Nat) : cn h s g 3 g = s 3 g ∨ cn h s g 3 g = -1 := by
  unfold cn
  split
  · simp
  · split <;> simp [up]
theorem dr0 (s : SS) (g : Nat) : dr h s g 0 g = s 0 g := by
  unfold dr
  split
  · split <;> simp [up]
  · simp [up]
theorem dr2 (s : SS) (g : Nat) : dr h s g 2 g = if drB h s g then 2 else s 2 g := by
  unfold dr drB
  by_cases h1 : undr h s g = true
  · by_cases h2 : s 1 g - 1 = 0 <;> simp [h1, h2, up]
  · simp [h1, up]
theorem SI_dr (hH : HI h) (hI : SI h s) : SI h (mix (dr h) s (hG h)) := by
  refine ⟨fun g hg => ?_, fun g g' hg hg' hne e => ?_, fun m hm => ?_, ?_, ?_⟩
  · obtain ⟨a1, a2, a3, a4⟩ := hI.1 g hg
    rw [mdr s hg (by omega), mdr s hg (by omega), mdr s hg (by omega), mdr s hg (by omega)]
    by_cases hin : isIn s g = true
    · have h2 : s 2 g = 0 := by simpa [isIn] using hin
      obtain ⟨p, p1, p2, p3⟩ := a2
      obtain ⟨r, r1, r2, r3⟩ := a3 h2
      simp only [hin, ↓reduceIte]
      unfold dr
      by_cases hu : undr h s g = true
      · by_cases hz : s 1 g - 1 = 0
        · simp only [hu, hz, ↓reduceIte, up]
          refine ⟨.inr (.inr (by simp)), ⟨p, p1, by simpa using p2, fun _ => p3 h2⟩, fun e => ?_, .inl (by simp)⟩
          simp at e
        · simp only [hu, hz, ↓reduceIte, up]
          refine ⟨.inl (by simpa using h2), ⟨p, p1, by simpa using p2, fun _ => p3 h2⟩, fun _ => ?_, by simpa [h2] using a4⟩
          obtain ⟨r', rfl⟩ : ∃ r', r = r' + 1 := ⟨r - 1, by omega⟩
          rw [r3, nI_pred] at hz ⊢
          refine ⟨r', ?_, by omega, by simp⟩
          by_cases e : r' = 0
          · subst e; exact absurd rfl hz
          · omega
      · have hu' : ¬ undr h s g = true := hu
        simp only [hu', ↓reduceIte]
        refine ⟨.inl (by simpa [up] using h2), ⟨p, p1, by simpa [up] using p2, fun _ => p3 h2⟩, fun _ => ?_, by simpa [up, h2] using a4⟩
        obtain ⟨q, q1, q2, q3⟩ := (hH.2.1 g hg).2.2.1
        exact ⟨q, q1, q2, by simpa [up] using q3⟩
    · simp only [hin]
      exact ⟨a1, a2, a3, a4⟩
  · rw [mdr s hg (by omega), mdr s hg' (by omega)] at e
    rw [mdr s hg (by omega)]
    have e1 : ∀ x, (if isIn s x = true then dr h s x 3 x else s 3 x) = s 3 x ∨ (if isIn s x = true then dr h s x 3 x else s 3 x) = -1 := by
      intro x
      split
      · exact dr3 s x
      · exact .inl rfl
    rcases e1 g with h1 | h1
    · rcases e1 g' with h2 | h2
      · rw [h1, h2] at e
        rw [h1]; exact hI.2.1 g g' hg hg' hne e
      · rw [e, h2]
    · exact h1
  · rw [mxh _ _ (by omega)]; exact hI.2.2.1 m hm
  · rw [mxh _ _ (by omega)]; exact hI.2.2.2.1
  · rw [mxh _ _ (by omega)]; exact hI.2.2.2.2
theorem SI_cn (hI : SI h s) : SI h (mix (cn h) s (hG h)) := by
  refine ⟨fun g hg => ?_, fun g g' hg hg' hne e => ?_, fun m hm => ?_, ?_, ?_⟩
  · obtain ⟨a1, a2, a3, a4⟩ := hI.1 g hg
    rw [mcn s hg (by omega), mcn s hg (by omega), mcn s hg (by omega), mcn s hg (by omega)]
    by_cases hin : isIn s g = true
    · have h2 : s 2 g = 0 := by simpa [isIn] using hin
      obtain ⟨p, p1, p2, p3⟩ := a2
      obtain ⟨r, r1, r2, r3⟩ := a3 h2
      have p3' := p3 h2
      obtain ⟨p', rfl⟩ : ∃ p', p = p' + 1 := ⟨p - 1, by omega⟩
      have e0 : s 0 g - 1 = nI p' := by rw [p2, nI_pred]
      simp only [hin, ↓reduceIte]
      unfold cn
      by_cases hu : s 3 g = -1 ∧ shb h g = false
      · simp only [hu, and_self, ↓reduceIte]
        exact ⟨a1, ⟨p' + 1, p1, p2, p3⟩, a3, by simp⟩
      · simp only [hu, ↓reduceIte]
        by_cases hz : s 0 g - 1 = 0
        · simp only [hz, ↓reduceIte, up]
          refine ⟨.inr (.inl (by simp)), ⟨0, by omega, by simp [nI_0], fun e => ?_⟩, fun e => ?_, .inl (by simp)⟩
          · simp at e
          · simp at e
        · simp only [hz, ↓reduceIte, up]
          refine ⟨.inl (by simpa using h2), ⟨p', by omega, by simpa using e0, fun _ => ?_⟩, fun _ => ⟨r, r1, r2, by simpa using r3⟩, by simpa [h2] using a4⟩
          by_cases e : p' = 0
          · subst e; rw [e0] at hz; exact absurd rfl hz
          · omega
    · simp only [hin]
      exact ⟨a1, a2, a3, a4⟩
  · rw [mcn s hg (by omega), mcn s hg' (by omega)] at e
    rw [mcn s hg (by omega)]
    have e1 : ∀ x, (if isIn s x = true then cn h s x 3 x else s 3 x) = s 3 x ∨ (if isIn s x = true then cn h s x 3 x else s 3 x) = -1 := by
      intro x
      split
      · exact cn3 s x
      · exact .inl rfl
    rcases e1 g with h1 | h1
    · rcases e1 g' with h2 | h2
      · rw [h1, h2] at e
        rw [h1]; exact hI.2.1 g g' hg hg' hne e
      · rw [e, h2]
    · exact h1
  · rw [mxh _ _ (by omega)]; exact hI.2.2.1 m hm
  · rw [mxh _ _ (by omega)]; exact hI.2.2.2.1
  · rw [mxh _ _ (by omega)]; exact hI.2.2.2.2
theorem dep_rng (d v : Int32) : ∃ k, k ≤ 60 ∧ dep d v = nI k := by
  unfold dep
  generalize cla v + d = x
  by_cases h1 : x < 0
  · exact ⟨0, by omega, by rw [if_pos h1]; rfl⟩
  · by_cases h2 : 60 < x
    · exact ⟨60, by omega, by rw [if_neg h1, if_pos h2]; rfl⟩
    · obtain ⟨j, j1, j2⟩ := nI_of2 (x := x) (M := 60) (n := 60) (by decide) h1 (Int32.not_lt.mp h2)
      exact ⟨j, j1, by rw [if_neg h1, if_neg h2]; exact j2⟩
theorem SI_ri (hI : SI h s) : SI h (ri h s) := by
  unfold ri
  refine ⟨fun g hg => ?_, fun g g' hg hg' hne e => ?_, fun m hm => ?_, ?_, ?_⟩
  · simpa [up] using hI.1 g hg
  · simp [up] at e ⊢; exact hI.2.1 g g' hg hg' hne e
  · simpa [up] using hI.2.2.1 m hm
  · simpa [up] using hI.2.2.2.1
  · obtain ⟨k, k1, k2⟩ := dep_rng (s 6 0) (lawV h (fsOf h s))
    exact ⟨k, k1, by simp [up, k2]⟩
theorem SI_fin (hI : SI h s) : SI h (fin s) := by
  refine ⟨fun g hg => ?_, fun g g' hg hg' hne e => ?_, fun m hm => .inl (by simp [fin]), ?_, ?_⟩
  · simpa [fin] using hI.1 g hg
  · simp [fin] at e ⊢; exact hI.2.1 g g' hg hg' hne e
  · simpa [fin] using hI.2.2.2.1
  · simpa [fin] using hI.2.2.2.2
theorem SI_pss (hH : HI h) (hI : SI h s) : SI h (pss h s) := SI_fin (SI_ri (SI_cn (SI_dr hH hI)))
/-- who is sunk behind a minute, and was not -/
theorem pss_2 {g : Nat} (hg : g < hG h) : pss h s 2 g = mix (cn h) (mix (dr h) s (hG h)) (hG h) 2 g := by simp [pss, fin, ri, up]
theorem cn2 (s : SS) (g : Nat) : cn h s g 2 g = s 2 g ∨ cn h s g 2 g = 1 := by
  unfold cn
  split
  · simp
  · split <;> simp [up]
theorem sunk_eq {g : Nat} (hg : g < hG h) : (decide (mix (cn h) (mix (dr h) s (hG h)) (hG h) 2 g = 2) && !decide (s 2 g = 2)) = (isIn s g && drB h s g) := by
  rw [mcn _ hg (by omega)]
  have e1 := mdr (h := h) s hg (f := 2) (by omega)
  rw [dr2] at e1
  by_cases hin : isIn s g = true
  · have h2 : s 2 g = 0 := by simpa [isIn] using hin
    rw [if_pos hin] at e1
    by_cases hd : drB h s g = true
    · rw [if_pos hd] at e1
      have : isIn (mix (dr h) s (hG h)) g = false := by unfold isIn; rw [e1]; decide
      simp [this, e1, hin, hd, h2]
    · have hd' : drB h s g = false := by simpa using hd
      rw [if_neg hd] at e1
      have e3 : isIn (mix (dr h) s (hG h)) g = true := by unfold isIn; rw [e1, h2]; decide
      rw [if_pos e3]
      rcases cn2 (h := h) (mix (dr h) s (hG h)) g with e | e
      · rw [e, e1, h2]; simp [hd']
      · rw [e]; simp [hd']
  · have hin' : isIn s g = false := by simpa using hin
    rw [if_neg hin] at e1
    have e3 : isIn (mix (dr h) s (hG h)) g = false := by unfold isIn; rw [e1]; simpa [isIn] using hin'
    simp only [e3, e1, hin', Bool.false_eq_true, ↓reduceIte]
    cases decide (s 2 g = 2) <;> rfl
theorem s12_passes (hH : RH h μ) (hL : RL (hC h) μ) (hW : LW (hC h)) (hHI : HI h) (hS : RS b h s μ) (hI : SI h s) (hb : b ≤ 1034) :
    ∃ ν, f12_passes (nI b) μ = xri (nI (sunkN h s)) ν ∧ RS b h (pss h s) ν ∧ FM b μ ν := by
  have h6 := RH_6 hH
  have h5 := RH_5 hH
  have h3 := RH_3 hH
  rw [f12_passes_e, k12_passes, s12_who hH hS hb rfl, bI_i, vI_eq, vI_eq]
  have hw64 : who h s 2 < 64 := by
    have h1 := bN_lt (fun g => decide (s 2 g = 2)) (hG h)
    have h2 : (2 : Nat) ^ hG h ≤ 2 ^ 6 := Nat.pow_le_pow_right (by decide) h6
    unfold who; omega
  have hI1 := SI_dr hHI hI
  have hI2 := SI_cn hI1
  -- behind both loops
  have tail : ∀ n ν, 5 < n → RS b h (mix (cn h) (mix (dr h) s (hG h)) (hG h)) ν → FM b μ ν → ∀ v,
      ∃ ξ, h12_passes_183 n (nI b) (nI (who h s 2)) v ν = xri (nI (sunkN h s)) ξ ∧ RS b h (fin (up (mix (cn h) (mix (dr h) s (hG h)) (hG h)) 6 0 (dep ((mix (cn h) (mix (dr h) s (hG h)) (hG h)) 6 0) v))) ξ ∧ FM b μ ξ := by
    intro n ν hn hS2 hF v
    obtain ⟨m, rfl⟩ : ∃ m, n = m + 1 + 1 := ⟨n - 2, by omega⟩
    have hr : sunkN h s = bN (fun g => decide (mix (cn h) (mix (dr h) s (hG h)) (hG h) 2 g = 2) && !(who h s 2).testBit g) (hG h) := by
      unfold sunkN
      apply bN_cong
      intro g hg
      unfold who
      rw [bN_test, ← sunk_eq hg]
      simp [hg]
    have fin250 := fun x => s12_p250 (v := x) hH hb hF hS2 hw64 hr m (by omega)
    have k2 : (nI b + 2) = nI (b + 2) := by rw [L2, nI_add]
    have c2 : xin (nI (b + 2)) 1081 = true := xin_t (by omega) (by omega)
    have c2' : (xin (nI (b + 2)) 1081 && true) = true := xin_a (by omega) (by omega)
    have q2 : (nI (b + 2)).toNatClampNeg = b + 2 := nI_clamp (by omega)
    have h207 : ∀ x, h12_passes_207 (m + 1) (nI b) (nI (who h s 2)) x ν = h12_passes_250 m (nI b) (nI (who h s 2)) (nI 0) (pI ν 12 0 24 (b + 2) (if x + (mix (cn h) (mix (dr h) s (hG h)) (hG h)) 6 0 < 0 then 0 else if 60 < x + (mix (cn h) (mix (dr h) s (hG h)) (hG h)) 6 0 then 60 else x + (mix (cn h) (mix (dr h) s (hG h)) (hG h)) 6 0)) := by
      intro x
      rw [h12_passes_207_s]
      simp only [vI_eq, mS_eq, k2, xck_t c2, xck_t c2', q2, hS2.2.2.2.1, xite_eq]
      split
      · rfl
      · split <;> rfl
    have h183 : h12_passes_183 (m + 1 + 1) (nI b) (nI (who h s 2)) v ν = h12_passes_250 m (nI b) (nI (who h s 2)) (nI 0) (pI ν 12 0 24 (b + 2) (dep ((mix (cn h) (mix (dr h) s (hG h)) (hG h)) 6 0) v)) := by
      rw [h12_passes_183_s, vI_eq, h207, h207, h207, xite_eq, xite_eq]
      unfold dep cla
      split
      · rfl
      · split <;> rfl
    rw [h183]
    exact fin250 _
  -- the second loop
  have two : ∀ n ν, hG h + 8 < n → RS b h (mix (dr h) s (hG h)) ν → FM b μ ν →
      ∃ ξ, h12_passes_40 n (nI b) (nI (who h s 2)) (nI 0) ν = xri (nI (sunkN h s)) ξ ∧ RS b h (pss h s) ξ ∧ FM b μ ξ := by
    intro n ν hn hS1 hF
    refine lp_relc 7 (F := fun n ν k => h12_passes_40 n (nI b) (nI (who h s 2)) k ν) (fun k ν => RS b h (mix (cn h) (mix (dr h) s (hG h)) k) ν ∧ FM b μ ν) (Q := fun x => ∃ ξ, x = xri (nI (sunkN h s)) ξ ∧ RS b h (pss h s) ξ ∧ FM b μ ξ) (e := hG h) ?_ ?_ (hG h) 0 n ν (by omega) (by omega) ⟨by rw [mix_0]; exact hS1, hF⟩
    · intro n ν hc hI'
      obtain ⟨hS2, hF2⟩ := hI'
      have hH2 := FM_H hF2 hH
      have k1 : (nI b + 1) = nI (b + 1) := by rw [L1, nI_add]
      have k2 : (nI b + 2) = nI (b + 2) := by rw [L2, nI_add]
      have c1 : xin (nI (b + 1)) 1081 = true := xin_t (by omega) (by omega)
      have c2 : xin (nI (b + 2)) 1081 = true := xin_t (by omega) (by omega)
      have q1 : (nI (b + 1)).toNatClampNeg = b + 1 := nI_clamp (by omega)
      have q2 : (nI (b + 2)).toNatClampNeg = b + 2 := nI_clamp (by omega)
      have d0 : (xin 0 4 && true) = true := xin_a (k := 0) (by omega) (by omega)
      have d0' : xin 0 4 = true := xin0 (by omega) (by omega)
      have d1 : (xin 1 4 && true) = true := xin_a (k := 1) (by omega) (by omega)
      have d2 : (xin 2 4 && true) = true := xin_a (k := 2) (by omega) (by omega)
      have d3 : (xin 3 4 && true) = true := xin_a (k := 3) (by omega) (by omega)
      have d5 : xin 5 120 = true := xin_t (k := 5) (by omega) (by omega)
      have t1 : Int32.toNatClampNeg 1 = 1 := rfl
      have t2 : Int32.toNatClampNeg 2 = 2 := rfl
      have t3 : Int32.toNatClampNeg 3 = 3 := rfl
      have t5 : Int32.toNatClampNeg 5 = 5 := rfl
      rw [h12_passes_40_s]
      simp only [s12_guests hH2, bI_i, Int32.lt_irrefl, xite_f (not_false), k1, k2, xck_t c1, xck_t c2, q1, q2, xck_t d0, xck_t d0', xck_t d1, mS_eq, nI_cl0, t1, t2, t3, t5, fc_o (show (24 : Nat) ≠ 22 by decide), hS2.2.2.1, hS2.2.2.2.1]
      generalize hs2 : mix (cn h) (mix (dr h) s (hG h)) (hG h) = s2 at *
      -- facts
      have hF3 : FM b μ (pI (pI ν 12 0 22 0 (s2 5 0)) 12 0 22 1 (s2 6 0)) := FX_f (FX_f hF2 (.inl rfl)) (.inl rfl)
      have hS3 : RS b h s2 (pI (pI ν 12 0 22 0 (s2 5 0)) 12 0 22 1 (s2 6 0)) := fc_s (fc_s hS2)
      have hH3 := FM_H hF3 hH
      have w1 : who h s2 0 < 1024 := bN_lt' _ (by omega)
      have w2 : wall h s2 < 1024 := bN_lt' _ (by omega)
      have e1 : pc (who h s2 0) = ct (fun g => decide (s2 2 g = 0)) (hG h) := pc_bN _ (by omega)
      have e2 : pc (wall h s2) = ct (fun b => wl h s2 (nI b)) (hB h) := pc_bN _ (by omega)
      simp only [s12_who hH3 hS3 hb rfl, bI_i, s12_bits w1, e1, xck_t d2]
      have hF4 := FX_f (q := 2) (x := nI (ct (fun g => decide (s2 2 g = 0)) (hG h))) hF3 (.inl rfl)
      have hS4 := fc_s (q := 2) (x := nI (ct (fun g => decide (s2 2 g = 0)) (hG h))) hS3
      have hH4 := FM_H hF4 hH
      simp only [s12_belts hH4, s12_wall hH4 hS4 hI2 hb rfl, bI_i, s12_bits w2, e2, xck_t d3, xck_t d5]
      have hF5 := FX_f (q := 3) (x := nI (hB h) - nI (ct (fun b => wl h s2 (nI b)) (hB h))) hF4 (.inl rfl)
      have hS5 := fc_s (q := 3) (x := nI (hB h) - nI (ct (fun b => wl h s2 (nI b)) (hB h))) hS4
      have hL5 := FM_L hF5 hL
      generalize hν5 : pI (pI (pI (pI ν 12 0 22 0 (s2 5 0)) 12 0 22 1 (s2 6 0)) 12 0 22 2 (nI (ct (fun g => decide (s2 2 g = 0)) (hG h)))) 12 0 22 3 (nI (hB h) - nI (ct (fun b => wl h s2 (nI b)) (hB h))) = ν5 at *
      have hfs : ∀ k, k < 4 → aI ν5 12 0 22 k = fsOf h s2 k := by
        intro k hk
        rw [← hν5, fc_eq, fc_eq, fc_eq, fc_eq]
        have hk4 : k = 0 ∨ k = 1 ∨ k = 2 ∨ k = 3 := by omega
        rcases hk4 with rfl | rfl | rfl | rfl <;> simp [fsOf, fct]
      have hp : pss h s = fin (up s2 6 0 (dep (s2 6 0) (lawV h (fsOf h s2)))) := by
        unfold pss ri; rw [hs2]
      rcases hL5 with ⟨l1, l2⟩ | ⟨l1, l2, l3, l4⟩
      · have hv : lawV h (fsOf h s2) = fsOf h s2 0 := by unfold lawV; rw [if_pos l1]
        rw [l2, xite_t (by decide), hfs 0 (by omega), hp, hv]
        exact tail n ν5 (by omega) hS5 hF5 _
      · have hv : lawV h (fsOf h s2) = (evs (fsOf h s2) (hC h) (0, fun _ => 0)).2 0 := by unfold lawV; rw [if_neg l1]
        rw [l2, xite_f (by decide)]
        obtain ⟨ξ, e1, e2, e3⟩ := s12_worthAt (b := b) hW l1 (fs := fsOf h s2) (μ := ν5) ⟨l3, l4, hfs⟩
        have e1' : f12_worthAt (nI 0) ν5 = xri ((evs (fsOf h s2) (hC h) (0, fun _ => 0)).2 0) ξ := e1
        rw [e1', bI_i, hp, hv]
        have hS6 : RS b h s2 ξ := RS_out h6 h3 (fun k _ _ => by rw [e3]) hS5
        exact tail n ξ (by omega) hS6 (FX_t hF5 e2) _
    · intro n ν k hk hI'
      obtain ⟨hS2, hF2⟩ := hI'
      have hH2 := FM_H hF2 hH
      have hlt : nI k < nI (hG h) := nI_lt hk (by omega)
      obtain ⟨x1, x2⟩ := s12_has hS2 hb h6 rfl hk
      simp only [h12_passes_40_s, s12_guests hH2, bI_i, xite_t hlt, s12_isIn hS2 hb h6 rfl hk, mix_in, vI_eq, ← nI_succ, xck_t x1, x2]
      have hms := mix_suc (cn_LD h) (mix (dr h) s (hG h)) k
      by_cases hin : isIn (mix (dr h) s (hG h)) k = true
      · rw [if_pos hin] at hms
        obtain ⟨ξ, d1, d2, d3⟩ := s12_drawsIn h6 h3 hS2 hb hk
        have e3 : (mix (cn h) (mix (dr h) s (hG h)) k) 3 k = (mix (dr h) s (hG h)) 3 k := mix_at.1 3 (by omega)
        have hn := has_neg hI1 h5 hk
        rw [← e3] at hn
        rw [hin, xite_f (show ¬ (b2 true = 0) by decide), hn]
        by_cases h1 : (mix (cn h) (mix (dr h) s (hG h)) k) 3 k = -1
        · rw [xite_t h1, s12_kd hH2 hk, bI_i]
          by_cases h2 : hf h 0 k = 3
          · have hc : ¬ ((mix (cn h) (mix (dr h) s (hG h)) k) 3 k = -1 ∧ shb h k = false) := by simp [shb, h2]
            rw [xite_t h2, d1, bV_v]
            refine ⟨ξ, ⟨?_, FX_t hF2 d3⟩, rfl⟩
            rw [← hms, cn_yes hc]; exact d2
          · have hc : ((mix (cn h) (mix (dr h) s (hG h)) k) 3 k = -1 ∧ shb h k = false) := by simp [shb, h2, h1]
            rw [xite_f h2]
            refine ⟨ν, ⟨?_, hF2⟩, rfl⟩
            rw [← hms, cn_no hc]; exact hS2
        · have hc : ¬ ((mix (cn h) (mix (dr h) s (hG h)) k) 3 k = -1 ∧ shb h k = false) := fun e => h1 e.1
          rw [xite_f h1, d1, bV_v]
          refine ⟨ξ, ⟨?_, FX_t hF2 d3⟩, rfl⟩
          rw [← hms, cn_yes hc]; exact d2
      · rw [if_neg hin] at hms
        have hin' : isIn (mix (dr h) s (hG h)) k = false := by simpa using hin
        rw [hin', xite_t (show b2 false = 0 from rfl)]
        exact ⟨ν, ⟨hms ▸ hS2, hF2⟩, rfl⟩
  refine lp_relc 20 (F := fun n ν k => h12_passes_9 n (nI b) (nI (who h s 2)) k ν) (fun k ν => RS b h (mix (dr h) s k) ν ∧ FM b μ ν) (Q := fun x => ∃ ξ, x = xri (nI (sunkN h s)) ξ ∧ RS b h (pss h s) ξ ∧ FM b μ ξ) (e := hG h) ?_ ?_ (hG h) 0 20000 μ (by omega) (by omega) ⟨by rw [mix_0]; exact hS, FX_r⟩
  · intro n ν hc hI'
    obtain ⟨hS2, hF2⟩ := hI'
    simp only [h12_passes_9_s, s12_guests (FM_H hF2 hH), bI_i, Int32.lt_irrefl, xite_f (not_false), vI_eq]
    exact two n ν (by omega) hS2 hF2
  · intro n ν k hk hI'
    obtain ⟨hS2, hF2⟩ := hI'
    have hH2 := FM_H hF2 hH
    have hlt : nI k < nI (hG h) := nI_lt hk (by omega)
    simp only [h12_passes_9_s, s12_guests hH2, bI_i, xite_t hlt, s12_isIn hS2 hb h6 rfl hk, mix_in, vI_eq, ← nI_succ]
    have hms := mix_suc (dr_LD h) s k
    by_cases hin : isIn s k = true
    · rw [if_pos hin] at hms
      have hl : lcl k (mix (dr h) s k) s := mix_at
      have hgd : good h (mix (dr h) s k) k = good h s k := by unfold good; rw [hl.1 3 (by omega)]
      have hu := s12_isUnder' hH2 hS2 hb rfl hk (by rw [hl.1 3 (by omega), hgd]; exact good_eq hI h5 hk)
      obtain ⟨ξ, d1, d2, d3⟩ := s12_breathes hH2 hS2 hu hb hk
      rw [hin, xite_f (show ¬ (b2 true = 0) by decide), d1, bV_v]
      exact ⟨ξ, ⟨hms ▸ d2, FX_t hF2 d3⟩, rfl⟩
    · rw [if_neg hin] at hms
      have hin' : isIn s k = false := by simpa using hin
      rw [hin', xite_t (show b2 false = 0 from rfl)]
      exact ⟨ν, ⟨hms ▸ hS2, hF2⟩, rfl⟩
end
