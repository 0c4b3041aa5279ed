/-! THE PURE PART: need -/
theorem ct_one {c : Nat → Bool} {p : Nat} : ∀ {n}, p < n → ct c n = ct (fun j => c j && decide (j ≠ p)) n + (if c p then 1 else 0)
  | 0, h => by omega
  | n + 1, h => by
    rw [ct, ct]
    by_cases e : n = p
    · subst e
      have : ct (fun j => c j && decide (j ≠ n)) n = ct c n := by
        apply ct_cong
        intro k hk
        have h2 : k ≠ n := by omega
        simp [h2]
      rw [this]
      by_cases hc : c n = true <;> simp [hc]
    · have ih := ct_one (c := c) (p := p) (n := n) (by omega)
      rw [ih]
      by_cases hc : c n = true
      · simp only [hc, ↓reduceIte, ne_eq, e, not_false_eq_true, decide_true, Bool.and_self]; omega
      · simp only [hc, Bool.false_eq_true, ↓reduceIte, Bool.false_and]
theorem ct_mono {c d : Nat → Bool} : ∀ {n}, (∀ k, k < n → c k = true → d k = true) → ct c n ≤ ct d n
  | 0, _ => Nat.le_refl _
  | n + 1, h => by
    have ih := ct_mono (c := c) (d := d) (n := n) (fun k hk => h k (by omega))
    rw [ct, ct]
    by_cases hc : c n = true
    · rw [if_pos hc, if_pos (h n (by omega) hc)]; omega
    · rw [if_neg hc]; split <;> omega
theorem ct_lt {c d : Nat → Bool} {p n : Nat} (hp : p < n) (h : ∀ k, k < n → c k = true → d k = true) (h1 : c p = false) (h2 : d p = true) : ct c n + 1 ≤ ct d n := by
  have e := ct_one (c := d) hp
  rw [h2] at e
  have : ct c n ≤ ct (fun j => d j && decide (j ≠ p)) n := ct_mono (fun k hk hc => by
    have hne : k ≠ p := fun e => by rw [e, h1] at hc; cases hc
    simp [h k hk hc, hne])
  simp only [↓reduceIte] at e
  omega
theorem ct_zero {c : Nat → Bool} : ∀ {n}, (∀ k, k < n → c k = false) → ct c n = 0
  | 0, _ => rfl
  | n + 1, h => by rw [ct, h n (by omega)]; exact ct_zero (fun k hk => h k (by omega))
theorem min_ex (c : Nat → Bool) (f : Nat → Nat) : ∀ n, (∃ k, k < n ∧ c k = true) → ∃ k, k < n ∧ c k = true ∧ ∀ j, j < n → c j = true → f k ≤ f j
  | 0, h => by obtain ⟨k, h1, _⟩ := h; omega
  | n + 1, h => by
    by_cases hx : ∃ k, k < n ∧ c k = true
    · obtain ⟨k, k1, k2, k3⟩ := min_ex c f n hx
      by_cases hn : c n = true ∧ f n < f k
      · refine ⟨n, by omega, hn.1, fun j hj hc => ?_⟩
        by_cases e : j = n
        · subst e; exact Nat.le_refl _
        · have := k3 j (by omega) hc; omega
      · refine ⟨k, by omega, k2, fun j hj hc => ?_⟩
        by_cases e : j = n
        · subst e
          by_cases hf : f j < f k
          · exact absurd ⟨hc, hf⟩ hn
          · omega
        · exact k3 j (by omega) hc
    · obtain ⟨k, k1, k2⟩ := h
      have e : k = n := by
        by_cases e : k = n
        · exact e
        · exact absurd ⟨k, by omega, k2⟩ hx
      subst e
      refine ⟨k, by omega, k2, fun j hj hc => ?_⟩
      by_cases e : j = k
      · subst e; exact Nat.le_refl _
      · exact absurd ⟨j, by omega, hc⟩ hx
/-- guests as heavy as t, belts that bear t -/
def cW (w : Nat → Nat) (G : Nat) (W : Nat → Bool) (t : Nat) : Nat := ct (fun g => W g && decide (t ≤ w g)) G
def Cnd (w c : Nat → Nat) (G B : Nat) (W S : Nat → Bool) : Prop := ∀ t, cW w G W t ≤ cW c B S t
theorem cW_del (w : Nat → Nat) {G p : Nat} (W : Nat → Bool) (t : Nat) (hp : p < G) (hW : W p = true) : cW w G W t = cW w G (fun g => W g && decide (g ≠ p)) t + (if t ≤ w p then 1 else 0) := by
  unfold cW
  rw [ct_one (c := fun g => W g && decide (t ≤ w g)) hp, hW]
  congr 1
  · apply ct_cong
    intro k _
    show ((W k && decide (t ≤ w k)) && decide (k ≠ p)) = ((W k && decide (k ≠ p)) && decide (t ≤ w k))
    cases W k <;> cases decide (t ≤ w k) <;> cases decide (k ≠ p) <;> rfl
  · by_cases h : t ≤ w p <;> simp [h]
theorem Cnd_of {w c : Nat → Nat} {G B : Nat} {W S : Nat → Bool} (h : ∀ g, g < G → W g = true → cW w G W (w g) ≤ cW c B S (w g)) : Cnd w c G B W S := by
  intro t
  by_cases hx : ∃ g, g < G ∧ (W g && decide (t ≤ w g)) = true
  · obtain ⟨g, g1, g2, g3⟩ := min_ex (fun g => W g && decide (t ≤ w g)) w G hx
    simp only [Bool.and_eq_true, decide_eq_true_eq] at g2
    have h1 : cW w G W t ≤ cW w G W (w g) := ct_mono (fun k hk hc => by
      have := g3 k hk hc
      simp only [Bool.and_eq_true, decide_eq_true_eq] at hc ⊢
      exact ⟨hc.1, this⟩)
    have h2 : cW c B S (w g) ≤ cW c B S t := ct_mono (fun k hk hc => by
      simp only [Bool.and_eq_true, decide_eq_true_eq] at hc ⊢
      exact ⟨hc.1, by omega⟩)
    have := h g g1 g2.1
    omega
  · have : cW w G W t = 0 := ct_zero (fun k hk => by
      by_cases hc : (W k && decide (t ≤ w k)) = true
      · exact absurd ⟨k, hk, hc⟩ hx
      · simpa using hc)
    omega
theorem Cnd_step {w c : Nat → Nat} {G B : Nat} {W S : Nat → Bool} {p : Nat} (hp : p < G) (hW : W p = true) :
    Cnd w c G B W S ↔ ∃ k, k < B ∧ S k = true ∧ w p ≤ c k ∧ Cnd w c G B (fun g => W g && decide (g ≠ p)) (fun b => S b && decide (b ≠ k)) := by
  constructor
  · intro h
    have h0 : 0 < cW c B S (w p) := by
      have h1 := h (w p)
      have h2 := cW_del w W (w p) hp hW
      simp only [Nat.le_refl, ↓reduceIte] at h2
      omega
    obtain ⟨k0, k1, k2⟩ := ct_pos h0
    obtain ⟨k, k3, k4, k5⟩ := min_ex (fun b => S b && decide (w p ≤ c b)) c B ⟨k0, k1, k2⟩
    simp only [Bool.and_eq_true, decide_eq_true_eq] at k4
    refine ⟨k, k3, k4.1, k4.2, fun t => ?_⟩
    have d1 := cW_del w W t hp hW
    have d2 := cW_del c S t k3 k4.1
    have d3 := h t
    by_cases t1 : t ≤ w p
    · have t2 : t ≤ c k := by omega
      simp only [t1, ↓reduceIte] at d1
      simp only [t2, ↓reduceIte] at d2
      omega
    · simp only [t1, ↓reduceIte] at d1
      by_cases t2 : t ≤ c k
      · simp only [t2, ↓reduceIte] at d2
        have e1 : cW c B S (w p) ≤ cW c B S t := ct_mono (fun b hb hc => by
          have := k5 b hb hc
          simp only [Bool.and_eq_true, decide_eq_true_eq] at hc ⊢
          exact ⟨hc.1, by omega⟩)
        have e2 : cW w G W t + 1 ≤ cW w G W (w p) := ct_lt hp (fun g hg hc => by
          simp only [Bool.and_eq_true, decide_eq_true_eq] at hc ⊢
          exact ⟨hc.1, by omega⟩) (by simp; omega) (by simp [hW])
        have e3 := h (w p)
        omega
      · simp only [t2, ↓reduceIte] at d2
        omega
  · intro h t
    obtain ⟨k, k1, k2, k3, k4⟩ := h
    have d1 := cW_del w W t hp hW
    have d2 := cW_del c S t k1 k2
    have d3 := k4 t
    by_cases t1 : t ≤ w p
    · have t2 : t ≤ c k := by omega
      simp only [t1, ↓reduceIte] at d1
      simp only [t2, ↓reduceIte] at d2
      omega
    · simp only [t1, ↓reduceIte] at d1
      by_cases t2 : t ≤ c k
      · simp only [t2, ↓reduceIte] at d2; omega
      · simp only [t2, ↓reduceIte] at d2; omega
def wN (h : HS) (g : Nat) : Nat := (hf h 4 g).toNatClampNeg
def cN (h : HS) (b : Nat) : Nat := (hf h 5 b).toNatClampNeg
noncomputable def cndB (h : HS) (who set : Nat) : Bool := @decide (Cnd (wN h) (cN h) (hG h) (hB h) (fun g => who.testBit g) (fun b => set.testBit b)) (Classical.propDecidable _)
theorem cndB_t {h : HS} {who set : Nat} : cndB h who set = true ↔ Cnd (wN h) (cN h) (hG h) (hB h) (fun g => who.testBit g) (fun b => set.testBit b) := by
  unfold cndB; exact @decide_eq_true_iff _ (Classical.propDecidable _)
theorem HI_w {h : HS} (hI : HI h) {g : Nat} (hg : g < hG h) : hf h 4 g = nI (wN h g) ∧ wN h g ≤ 35 := by
  obtain ⟨w, w1, w2⟩ := (hI.2.1 g hg).2.2.2.1
  unfold wN; rw [w2, nI_clamp (by omega)]; exact ⟨rfl, w1⟩
theorem HI_c {h : HS} (hI : HI h) {b : Nat} (hb : b < hB h) : hf h 5 b = nI (cN h b) ∧ cN h b ≤ 40 := by
  obtain ⟨w, w1, w2⟩ := hI.2.2.1 b hb
  unfold cN; rw [w2, nI_clamp (by omega)]; exact ⟨rfl, w1⟩
theorem brn_N {h : HS} (hI : HI h) {b g : Nat} (hb : b < hB h) (hg : g < hG h) : brn h b g = decide (wN h g ≤ cN h b) := by
  obtain ⟨w1, w2⟩ := HI_w hI hg
  obtain ⟨c1, c2⟩ := HI_c hI hb
  unfold brn
  rw [w1, c1]
  congr 1
  rw [nI_ltI (by omega) (by omega)]
  apply propext; omega
theorem Cnd_cong {w c : Nat → Nat} {G B : Nat} {W W' S S' : Nat → Bool} (h1 : ∀ g, g < G → W g = W' g) (h2 : ∀ b, b < B → S b = S' b) : Cnd w c G B W S ↔ Cnd w c G B W' S' := by
  have e1 : ∀ t, cW w G W t = cW w G W' t := fun t => ct_cong (fun k hk => by rw [h1 k hk])
  have e2 : ∀ t, cW c B S t = cW c B S' t := fun t => ct_cong (fun k hk => by rw [h2 k hk])
  unfold Cnd
  simp only [e1, e2]
theorem cndB_step {h : HS} (h6 : hG h ≤ 6) (h5 : hB h ≤ 5) {who set p : Nat} (hw : who < 64) (hs : set < 32) (hp : p < hG h) (ht : who.testBit p = true) :
    cndB h who set = true ↔ ∃ k, k < hB h ∧ set.testBit k = true ∧ wN h p ≤ cN h k ∧ cndB h (clr who p) (clr set k) = true := by
  rw [cndB_t, Cnd_step hp ht]
  constructor
  · rintro ⟨k, k1, k2, k3, k4⟩
    refine ⟨k, k1, k2, k3, cndB_t.mpr ((Cnd_cong (fun g hg => ?_) (fun b hb => ?_)).mp k4)⟩
    · exact (clr_t who hw p (by omega) g (by omega)).symm
    · exact (clr_t set (by omega) k (by omega) b (by omega)).symm
  · rintro ⟨k, k1, k2, k3, k4⟩
    refine ⟨k, k1, k2, k3, (Cnd_cong (fun g hg => ?_) (fun b hb => ?_)).mp (cndB_t.mp k4)⟩
    · exact clr_t who hw p (by omega) g (by omega)
    · exact clr_t set (by omega) k (by omega) b (by omega)
theorem cndB_0 {h : HS} {set : Nat} : cndB h 0 set = true := by
  rw [cndB_t]
  intro t
  have : cW (wN h) (hG h) (fun g => (0 : Nat).testBit g) t = 0 := ct_zero (fun k _ => by simp)
  omega
/-- sets of belts -/
noncomputable def nok (h : HS) (c set : Nat) : Bool := decide (pc set = pc c) && cndB h c set
def bsum (h : HS) (set : Nat) : Int32 := fo (fun b a => if set.testBit b then a + hf h 5 b else a) 0 (hB h)
noncomputable def needN (h : HS) (c : Nat) : Option Nat := lo (fun set => nok h c set) (fun set => bsum h set) (2 ^ hB h)
noncomputable def aNeed (A : AS) : Int32 := oI (needN (aH A) (criers (aH A) (aS A)))
theorem pw32 {h : HS} (h5 : hB h ≤ 5) : 2 ^ hB h ≤ 32 := by
  have : (2 : Nat) ^ hB h ≤ 2 ^ 5 := Nat.pow_le_pow_right (by decide) h5
  omega
theorem criers_lt {h : HS} {s : SS} (h6 : hG h ≤ 6) : criers h s < 64 := by
  have h1 := bN_lt (fun g => cry h s g) (hG h)
  have h2 : (2 : Nat) ^ hG h ≤ 2 ^ 6 := Nat.pow_le_pow_right (by decide) h6
  unfold criers; omega
section
variable {A : AS} {μ : XM} {h : HS}
theorem s2_beltsFrom (hH : CH 0 h μ) {set : Nat} (hs : set < 64) (w : Int32) : f2_beltsFrom 0 (nI set) w μ = xri (nI (ct (fun b => set.testBit b && decide (¬ hf h 5 b < w)) (hB h))) μ := by
  have h5 := CH_5 hH
  rw [f2_beltsFrom_e, k2_beltsFrom, vI_eq, vI_eq]
  refine lp_ct (F := fun n a k => h2_beltsFrom_5 n 0 (nI set) w a k μ) (c := fun b => set.testBit b && decide (¬ hf h 5 b < w)) (G := hB h) (R := fun a => xri a μ) ?_ ?_ (hB h) 0 20000 (by omega) (by omega)
  · intro n a
    simp only [h2_beltsFrom_5_s, CH_B hH, xite_f Int32.lt_irrefl]
  · intro n a k hk
    have h1 := nI_lt hk (show hB h < 2 ^ 31 by omega)
    have x1 : xin (nI k) 5 = true := xin_t (by omega) (by omega)
    simp only [h2_beltsFrom_5_s, CH_B hH, xite_t h1, tst (show set < 2 ^ 31 by omega) (show k < 31 by omega), xck_t x1, nI_clamp (show k < 2 ^ 31 by omega), CH_be hH hk, vI_eq, ← nI_succ, xite_eq, b2_eq1]
    grind
theorem s2_guestsFrom (hH : CH 0 h μ) {set : Nat} (hs : set < 64) (w : Int32) : f2_guestsFrom 0 (nI set) w μ = xri (nI (ct (fun g => set.testBit g && decide (¬ hf h 4 g < w)) (hG h))) μ := by
  have h6 := CH_6 hH
  rw [f2_guestsFrom_e, k2_guestsFrom, vI_eq, vI_eq]
  refine lp_ct (F := fun n a k => h2_guestsFrom_5 n 0 (nI set) w a k μ) (c := fun g => set.testBit g && decide (¬ hf h 4 g < w)) (G := hG h) (R := fun a => xri a μ) ?_ ?_ (hG h) 0 20000 (by omega) (by omega)
  · intro n a
    simp only [h2_guestsFrom_5_s, CH_G hH, xite_f Int32.lt_irrefl]
  · intro n a k hk
    have h1 := nI_lt hk (show hG h < 2 ^ 31 by omega)
    have x1 : xin (nI k) 6 = true := xin_t (by omega) (by omega)
    simp only [h2_guestsFrom_5_s, CH_G hH, xite_t h1, tst (show set < 2 ^ 31 by omega) (show k < 31 by omega), xck_t x1, nI_clamp (show k < 2 ^ 31 by omega), CH_we hH hk, vI_eq, ← nI_succ, xite_eq, b2_eq1]
    grind
theorem s2_bearing (hH : CH 0 h μ) {set : Nat} (hs : set < 64) : f2_bearing 0 (nI set) μ = xri (bsum h set) μ := by
  have h5 := CH_5 hH
  rw [f2_bearing_e, k2_bearing, vI_eq, vI_eq]
  refine lp_fo (F := fun n a k => h2_bearing_4 n 0 (nI set) a k μ) (st := fun b a => if set.testBit b then a + hf h 5 b else a) (G := hB h) (R := fun a => xri a μ) ?_ ?_ 0 (hB h) 0 20000 (by omega) (by omega)
  · intro n a
    simp only [h2_bearing_4_s, CH_B hH, xite_f Int32.lt_irrefl]
  · intro n a k hk
    have h1 := nI_lt hk (show hB h < 2 ^ 31 by omega)
    have x1 : xin (nI k) 5 = true := xin_t (by omega) (by omega)
    simp only [h2_bearing_4_s, CH_B hH, xite_t h1, tst (show set < 2 ^ 31 by omega) (show k < 31 by omega), xck_t x1, nI_clamp (show k < 2 ^ 31 by omega), CH_be hH hk, vI_eq, ← nI_succ, xite_eq, b2_eq1]
    split <;> rfl
theorem s2_bearsAll (hI : HI h) (hH : CH 0 h μ) {set c : Nat} (hs : set < 64) (hc : c < 64) : f2_bearsAll 0 (nI set) (nI c) μ = xri (b2 (nok h c set)) μ := by
  have h6 := CH_6 hH
  have h5 := CH_5 hH
  have p1 : pc set ≤ 10 := ct_le _ _
  have p2 : pc c ≤ 10 := ct_le _ _
  rw [f2_bearsAll_e, k2_bearsAll, sJ_bitCount (by omega), bI_i, sJ_bitCount (by omega), bI_i, show (nI (pc set) = nI (pc c)) = (pc set = pc c) from propext (nI_eq (by omega) (by omega)), nok]
  by_cases hp : pc set = pc c
  · rw [xite_t hp, vI_eq, decide_eq_true hp, Bool.true_and]
    have eb : ∀ g, g < hG h → ct (fun b => set.testBit b && decide (¬ hf h 5 b < hf h 4 g)) (hB h) = cW (cN h) (hB h) (fun b => set.testBit b) (wN h g) := by
      intro g hg
      exact ct_cong (fun b hb => by
        have := brn_N hI hb hg
        unfold brn at this
        rw [this])
    have eg : ∀ g, g < hG h → ct (fun g' => c.testBit g' && decide (¬ hf h 4 g' < hf h 4 g)) (hG h) = cW (wN h) (hG h) (fun g => c.testBit g) (wN h g) := by
      intro g hg
      exact ct_cong (fun g' hg' => by
        obtain ⟨w1, w2⟩ := HI_w hI hg
        obtain ⟨c1, c2⟩ := HI_w hI hg'
        rw [w1, c1]
        congr 2
        rw [nI_ltI (by omega) (by omega)]
        apply propext; omega)
    have key := lp_rex (F := fun n (_ : Unit) k => h2_bearsAll_15 n 0 (nI set) (nI c) k μ) (fun _ _ => True) (fun g => c.testBit g && decide (cW (cN h) (hB h) (fun b => set.testBit b) (wN h g) < cW (wN h) (hG h) (fun g => c.testBit g) (wN h g))) (Q := fun a x => x = xri (b2 a.isNone) μ) (e := hG h) ?_ ?_ (hG h) 0 20000 () (by omega) (by omega) trivial
    · have key' : h2_bearsAll_15 20000 0 (nI set) (nI c) 0 μ = _ := key
      rw [key']
      congr 2
      cases hf1 : f1 (fun g => c.testBit g && decide (cW (cN h) (hB h) (fun b => set.testBit b) (wN h g) < cW (wN h) (hG h) (fun g => c.testBit g) (wN h g))) 0 (hG h) with
      | none =>
        have hall := (f1_none (hG h) 0).mp hf1
        have : cndB h c set = true := cndB_t.mpr (Cnd_of (fun g hg hw => by
          have := hall g (by omega) (by omega)
          have hw' : c.testBit g = true := hw
          rw [hw', Bool.true_and, decide_eq_false_iff_not] at this
          omega))
        rw [this]; rfl
      | some g =>
        obtain ⟨g1, g2, g3⟩ := f1_lt _ _ _ hf1
        simp only [Bool.and_eq_true, decide_eq_true_eq] at g3
        have : cndB h c set = false := by
          by_cases hcb : cndB h c set = true
          · have := cndB_t.mp hcb (wN h g); omega
          · simpa using hcb
        rw [this]; rfl
    · intro n s _
      rw [h2_bearsAll_15_s, CH_G hH, xite_f Int32.lt_irrefl]; rfl
    · intro n s k hk _
      have h1 := nI_lt hk (show hG h < 2 ^ 31 by omega)
      have x1 : xin (nI k) 6 = true := xin_t (by omega) (by omega)
      have b1 : cW (cN h) (hB h) (fun b => set.testBit b) (wN h k) ≤ hB h := ct_le _ _
      have b2' : cW (wN h) (hG h) (fun g => c.testBit g) (wN h k) ≤ hG h := ct_le _ _
      rw [h2_bearsAll_15_s, CH_G hH, xite_t h1, tst (show c < 2 ^ 31 by omega) (show k < 31 by omega), xck_t x1, nI_clamp (show k < 2 ^ 31 by omega), CH_we hH hk, s2_beltsFrom hH hs, bI_i, xck_t x1, CH_we hH hk, s2_guestsFrom hH hc, bI_i, eb k hk, eg k hk, show (nI (cW (cN h) (hB h) (fun b => set.testBit b) (wN h k)) < nI (cW (wN h) (hG h) (fun g => c.testBit g) (wN h k))) = (cW (cN h) (hB h) (fun b => set.testBit b) (wN h k) < cW (wN h) (hG h) (fun g => c.testBit g) (wN h k)) from propext (nI_ltI (by omega) (by omega)), vI_eq, ← nI_succ]
      refine ⟨fun hq => ?_, fun hq => ?_⟩
      · simp only [Bool.and_eq_true, decide_eq_true_eq] at hq
        rw [hq.1, xite_t (by decide), xite_t hq.2]; rfl
      · refine ⟨(), trivial, ?_⟩
        by_cases hb : c.testBit k = true
        · have hz : ¬ cW (cN h) (hB h) (fun b => set.testBit b) (wN h k) < cW (wN h) (hG h) (fun g => c.testBit g) (wN h k) := by
            intro hz; rw [hb, decide_eq_true hz] at hq; cases hq
          rw [hb, xite_t (by decide), xite_f hz]
        · have hb' : c.testBit k = false := by simpa using hb
          rw [hb', xite_f (by decide)]
  · rw [xite_f hp, decide_eq_false hp]; rfl
theorem c_need (hI : AI A) (hR : RC A μ) : OKc A A μ (f11_need μ) (aNeed A) := by
  have hH := RC_H hR
  have h5 := CH_5 hH
  have h6 := CH_6 hH
  have hw := pw32 h5
  have hcr := criers_lt (s := aS A) h6
  apply OKc_m hR
  rw [f11_need_e, k11_need, s8_criers hH (RC_S hR), bI_i, vI_eq, vI_eq, vI_eq, vI_eq]
  refine lp_lo2 (F := fun n a l k => h11_need_15 n (nI (criers (aH A) (aS A))) a l k μ) (c := fun set => nok (aH A) (criers (aH A) (aS A)) set) (f := fun set => bsum (aH A) set) (G := 2 ^ hB (aH A)) (R := fun a => xri a μ) ?_ ?_ (2 ^ hB (aH A)) 0 20000 (by omega) (by omega)
  · intro n a _
    rw [h11_need_15_s, CH_B hH, bit_pw _ (by omega), xite_f Int32.lt_irrefl]
  · intro n a a2 k hk ha e2
    subst e2
    have ho := oI_m1 (a := a) (fun b hb => by have := ha b hb; omega)
    rw [h11_need_15_s, CH_B hH, bit_pw _ (by omega), xite_t (nI_lt hk (by omega)), s2_bearsAll (AI_H hI) hH (by omega) hcr, bI_i, s2_bearing hH (by omega), bI_i, ho]
    simp only [vI_eq, ← nI_succ, xite_eq, b2_eq0]
    cases hk2 : nok (aH A) (criers (aH A) (aS A)) k with
    | false => simp only [↓reduceIte, Bool.false_eq_true]
    | true =>
      simp only [Bool.true_eq_false, ↓reduceIte]
      cases a with
      | none => simp only [↓reduceIte, oI, lov]
      | some b =>
        simp only [reduceCtorEq, ↓reduceIte, oI, lov]
        by_cases hz : bsum (aH A) k < bsum (aH A) b
        · simp only [hz, ↓reduceIte]
        · simp only [hz, ↓reduceIte]
-- the reference
theorem s12_bearOf (hH : RH h μ) {set : Nat} (hs : set < 64) : f12_bearOf (nI set) μ = xri (bsum h set) μ := by
  have h5 := RH_5 hH
  rw [f12_bearOf_e, k12_bearOf, vI_eq, vI_eq]
  refine lp_fo (F := fun n a k => h12_bearOf_4 n (nI set) a k μ) (st := fun b a => if set.testBit b then a + hf h 5 b else a) (G := hB h) (R := fun a => xri a μ) ?_ ?_ 0 (hB h) 0 20000 (by omega) (by omega)
  · intro n a
    rw [h12_bearOf_4_s, s12_belts hH, bI_i, xite_f Int32.lt_irrefl]
  · intro n a k hk
    have z : a + 0 = a := Int32.add_zero a
    rw [h12_bearOf_4_s, s12_belts hH, bI_i, xite_t (nI_lt hk (by omega)), tst (show set < 2 ^ 31 by omega) (show k < 31 by omega), s12_bearsOf hH hk, bI_i]
    simp only [vI_eq, ← nI_succ, xite_eq, b2_eq1, z]
    split <;> rfl
theorem m_holds (hI : HI h) (hH : RH h μ) : ∀ d dep who set, pc who ≤ d → d < dep → who < 2 ^ hG h → set < 32 → f12_doesHold 20000 dep (nI who) (nI set) μ = xri (b2 (cndB h who set)) μ := by
  have h6 := RH_6 hH
  have h5 := RH_5 hH
  have h64 : (2 : Nat) ^ hG h ≤ 2 ^ 6 := Nat.pow_le_pow_right (by decide) h6
  intro d
  induction d with
  | zero =>
    intro dep who set hp hd hw hs
    obtain ⟨dep, rfl⟩ : ∃ d', dep = d' + 1 := ⟨dep - 1, by omega⟩
    have : who = 0 := by
      by_cases e : who = 0
      · exact e
      · have := pc_pos who (by omega) e; omega
    subst this
    rw [f12_doesHold_s, xite_t (show nI 0 = 0 from rfl), cndB_0]; rfl
  | succ d ih =>
    intro dep who set hp hd hw hs
    obtain ⟨dep, rfl⟩ : ∃ d', dep = d' + 1 := ⟨dep - 1, by omega⟩
    by_cases e : who = 0
    · subst e; rw [f12_doesHold_s, xite_t (show nI 0 = 0 from rfl), cndB_0]; rfl
    · have hn0 : ¬ nI who = 0 := nI_ne0 (by omega) (by omega)
      -- the lowest one
      have hex : ∃ g, g < hG h ∧ who.testBit g = true := by
        by_cases hx : ∃ g, g < hG h ∧ who.testBit g = true
        · exact hx
        · exfalso; apply e
          have := bN_eq (v := who) hw (c := fun _ => false) (fun k hk => by
            by_cases ht : who.testBit k = true
            · exact absurd ⟨k, hk, ht⟩ hx
            · simpa using ht)
          rw [this]; exact bN_0.mpr (fun _ _ => rfl)
      have h25 : ∀ p n, p < hG h → who.testBit p = true → 6 < n → h12_doesHold_25 20000 dep n (nI who) (nI set) (nI p) (nI 0) μ = xri (b2 (cndB h who set)) μ := by
        intro p n hp' ht hn
        have hpc : pc (clr who p) ≤ d := by
          have key : ∀ v, v < 64 → ∀ p, p < 6 → v.testBit p = true → pc (clr v p) + 1 = pc v := by decide +kernel
          have := key who (by omega) p (by omega) ht
          omega
        have hclr : clr who p < 2 ^ hG h := Nat.lt_of_le_of_lt (clr_le who p) hw
        have key := lp_rex (F := fun n (_ : Unit) k => h12_doesHold_25 20000 dep n (nI who) (nI set) (nI p) k μ) (fun _ _ => True) (fun k => set.testBit k && (brn h k p && cndB h (clr who p) (clr set k))) (Q := fun a x => x = xri (b2 a.isSome) μ) (e := hB h) ?_ ?_ (hB h) 0 n () (by omega) (by omega) trivial
        · have key' : h12_doesHold_25 20000 dep n (nI who) (nI set) (nI p) (nI 0) μ = _ := key
          rw [key']
          congr 2
          cases hf1 : f1 (fun k => set.testBit k && (brn h k p && cndB h (clr who p) (clr set k))) 0 (hB h) with
          | none =>
            have hall := (f1_none (hB h) 0).mp hf1
            have : cndB h who set = false := by
              by_cases hcb : cndB h who set = true
              · obtain ⟨k, k1, k2, k3, k4⟩ := (cndB_step h6 h5 (by omega) hs hp' ht).mp hcb
                have := hall k (by omega) (by omega)
                rw [k2, brn_N hI k1 hp', decide_eq_true k3, k4] at this
                cases this
              · simpa using hcb
            rw [this]; rfl
          | some k =>
            obtain ⟨k1, k2, k3⟩ := f1_lt _ _ _ hf1
            simp only [Bool.and_eq_true] at k3
            obtain ⟨k4, k5, k6⟩ := k3
            rw [brn_N hI (show k < hB h by omega) hp'] at k5
            have : cndB h who set = true := (cndB_step h6 h5 (by omega) hs hp' ht).mpr ⟨k, by omega, k4, of_decide_eq_true k5, k6⟩
            rw [this]; rfl
        · intro n s _
          rw [h12_doesHold_25_s, s12_belts hH, bI_i, xite_f Int32.lt_irrefl]; rfl
        · intro n s k hk _
          have hcs : clr set k < 32 := clr_lt hs
          rw [h12_doesHold_25_s, s12_belts hH, bI_i, xite_t (nI_lt hk (by omega)), tst (show set < 2 ^ 31 by omega) (show k < 31 by omega), s12_doesBear hH hk hp', bI_i, clr_I who (by omega) p (by omega), clr_I set (by omega) k (by omega), ih dep (clr who p) (clr set k) hpc (by omega) hclr hcs, bI_i]
          simp only [vI_eq, ← nI_succ, xite_eq, b2_eq0, b2_eq1]
          refine ⟨fun hq => ?_, fun hq => ?_⟩
          · simp only [Bool.and_eq_true] at hq
            simp only [hq.1, hq.2.1, hq.2.2, ↓reduceIte, Bool.true_eq_false]; rfl
          · refine ⟨(), trivial, ?_⟩
            by_cases q1 : set.testBit k = true
            · by_cases q2 : brn h k p = true
              · have q3 : cndB h (clr who p) (clr set k) = false := by rw [q1, q2] at hq; simpa using hq
                simp only [q1, q2, q3, ↓reduceIte, Bool.true_eq_false]
              · have q2' : brn h k p = false := by simpa using q2
                simp only [q1, q2', ↓reduceIte]
            · simp only [q1, ↓reduceIte, Bool.false_eq_true]
      have h8 : ∀ d2 p n, p + d2 = hG h → d2 + 10 < n → (∀ j, j < p → who.testBit j = false) → h12_doesHold_8 20000 dep n (nI who) (nI set) (nI p) μ = xri (b2 (cndB h who set)) μ := by
        intro d2
        induction d2 with
        | zero =>
          intro p n hp' hn hz
          exfalso
          obtain ⟨g, g1, g2⟩ := hex
          rw [hz g (by omega)] at g2; cases g2
        | succ d2 ih2 =>
          intro p n hp' hn hz
          obtain ⟨n, rfl⟩ : ∃ n', n = n' + 1 := ⟨n - 1, by omega⟩
          rw [h12_doesHold_8_s, tst (show who < 2 ^ 31 by omega) (show p < 31 by omega), vI_eq, vI_eq, ← nI_succ]
          by_cases ht : who.testBit p = true
          · rw [ht, xite_f (by decide)]
            exact h25 p n (by omega) ht (by omega)
          · have ht' : who.testBit p = false := by simpa using ht
            rw [ht', xite_t (by decide)]
            exact ih2 (p + 1) n (by omega) (by omega) (fun j hj => by
              by_cases ej : j = p
              · subst ej; exact ht'
              · exact hz j (by omega))
      rw [f12_doesHold_s, xite_f hn0, vI_eq]
      exact h8 (hG h) 0 20000 (by omega) (by omega) (fun j hj => absurd hj (Nat.not_lt_zero j))
theorem m_need (hI : AI A) (hR : RM A μ) : OKm A A μ (f12_need μ) (aNeed A) := by
  have hR1 := m0_R hI hR
  have hH := RM_H hR1
  have h5 := RH_5 hH
  have h6 := RH_6 hH
  have hw := pw32 h5
  have hcr := criers_lt (s := aS A) h6
  have hcr2 : criers (aH A) (aS A) < 2 ^ hG (aH A) := bN_lt _ _
  have hpc : pc (criers (aH A) (aS A)) ≤ 10 := ct_le _ _
  apply OKm_m hI hR
  rw [f12_need_e, k12_need, mS_eq]
  change (bI (f12_criers 0 (m0 μ)) _) = _
  rw [s12_criers hH (RM_S hR1) (AI_S hI) (by omega) B0, bI_i, vI_eq, vI_eq, vI_eq]
  refine lp_lo (F := fun n a k => h12_need_15 (2 * n) (nI (criers (aH A) (aS A))) a k (m0 μ)) (c := fun set => nok (aH A) (criers (aH A) (aS A)) set) (f := fun set => bsum (aH A) set) (G := 2 ^ hB (aH A)) (R := fun a => xri a (m0 μ)) ?_ ?_ (2 ^ hB (aH A)) 0 10000 (by omega) (by omega)
  · intro n a _
    show h12_need_15 (2 * n + 1 + 1) _ _ _ _ = _
    rw [h12_need_15_s, s12_belts hH, bI_i, bit_pw _ (by omega), xite_f Int32.lt_irrefl]
  · intro n a k hk ha
    show h12_need_15 (2 * n + 1 + 1) _ _ _ _ = _
    have ho := oI_neg (a := a) (fun b hb => by have := ha b hb; omega)
    have p1 : pc k ≤ 10 := ct_le _ _
    have hho : f12_doesHold 20000 64 (nI (criers (aH A) (aS A))) (nI k) (m0 μ) = xri (b2 (cndB (aH A) (criers (aH A) (aS A)) k)) (m0 μ) := m_holds (AI_H hI) hH 10 64 _ k hpc (by omega) hcr2 (by omega)
    rw [h12_need_15_s, s12_belts hH, bI_i, bit_pw _ (by omega), xite_t (nI_lt hk (by omega)), s12_bits (by omega), bI_i, s12_bits (by omega), bI_i, hho, bI_i]
    simp only [h12_need_50_s, vI_eq, ← nI_succ, xite_eq, b2_eq0, nI_eq (show pc k < 2 ^ 31 by omega) (show pc (criers (aH A) (aS A)) < 2 ^ 31 by omega), i10, ↓reduceIte, ho, s12_bearOf hH (show k < 64 by omega), bI_i]
    by_cases hq : pc k = pc (criers (aH A) (aS A))
    · cases hcb : cndB (aH A) (criers (aH A) (aS A)) k with
      | false =>
        have : nok (aH A) (criers (aH A) (aS A)) k = false := by unfold nok; rw [hcb, Bool.and_false]
        simp only [hq, this, ↓reduceIte, Bool.false_eq_true]
      | true =>
        have : nok (aH A) (criers (aH A) (aS A)) k = true := by unfold nok; rw [hcb, decide_eq_true hq]; rfl
        simp only [hq, this, ↓reduceIte, Bool.true_eq_false]
        cases a with
        | none => simp only [↓reduceIte, oI]
        | some b =>
          have hb := ha b rfl
          simp only [reduceCtorEq, ↓reduceIte, oI, s12_bearOf hH (show b < 64 by omega), bI_i]
          by_cases hz : bsum (aH A) k < bsum (aH A) b
          · simp only [hz, ↓reduceIte]
          · simp only [hz, ↓reduceIte]
    · have : nok (aH A) (criers (aH A) (aS A)) k = false := by unfold nok; rw [decide_eq_false hq, Bool.false_and]
      simp only [hq, this, ↓reduceIte, Bool.false_eq_true]
end
