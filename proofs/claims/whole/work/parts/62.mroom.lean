/-! THE PURE PART: room of the reference -/
/-- only slot o from lo to hi is other -/
def Fq (o lo hi : Nat) (μ ν : XM) : Prop := Fr12 μ ν ∧ (∀ j, rI ν 12 0 j = rI μ 12 0 j) ∧ (∀ j, aL ν 12 0 j = aL μ 12 0 j) ∧ (∀ j, j ≠ o → aI ν 12 0 j = aI μ 12 0 j) ∧ ∀ k, k < lo ∨ hi ≤ k → aI ν 12 0 o k = aI μ 12 0 o k
theorem Fq_r {o lo hi : Nat} {μ : XM} : Fq o lo hi μ μ := ⟨fun _ _ _ => rfl, fun _ => rfl, fun _ => rfl, fun _ _ => rfl, fun _ _ => rfl⟩
theorem Fq_p {o lo hi q : Nat} {x : Int32} {μ ν : XM} (a : Fq o lo hi μ ν) (h1 : lo ≤ q) (h2 : q < hi) : Fq o lo hi μ (pI ν 12 0 o q x) := by
  refine ⟨fun t j h => by rw [pI_ne h]; exact a.1 t j h, fun j => by rw [rI_pI]; exact a.2.1 j, fun j => by rw [aL_pI]; exact a.2.2.1 j, fun j hj => ?_, fun k hk => ?_⟩
  · rw [pI, aI_wI]; simp only [hj, and_false, ↓reduceIte]; exact a.2.2.2.1 j hj
  · have : ¬ k = q := by omega
    rw [aI_pI]; simp only [this, and_false, ↓reduceIte]; exact a.2.2.2.2 k hk
/-- behind a reading, whatever came of it -/
def FK (μ ν : XM) : Prop := Fr12 μ ν ∧ (∀ j, j ≠ 0 → j ≠ 2 → j ≠ 3 → j ≠ 7 → j ≠ 8 → j ≠ 13 → j ≠ 19 → j ≠ 20 → rI ν 12 0 j = rI μ 12 0 j) ∧ rI ν 12 0 2 = 0 ∧ (∀ j, j ≠ 4 → j ≠ 5 → j ≠ 10 → j ≠ 11 → j ≠ 12 → j ≠ 17 → j ≠ 21 → aI ν 12 0 j = aI μ 12 0 j) ∧ (∀ j, j ≠ 6 → j ≠ 15 → aL ν 12 0 j = aL μ 12 0 j) ∧
  (∀ k, k < 60 → aI ν 12 0 10 k = aI μ 12 0 10 k) ∧ (∀ k, k < 1100 → aI ν 12 0 11 k = aI μ 12 0 11 k ∧ aI ν 12 0 12 k = aI μ 12 0 12 k) ∧ (∀ k, k < 165 → aI ν 12 0 21 k = aI μ 12 0 21 k)
theorem FK_R {μ ν ξ : XM} (a : FK μ ν) (b : FR ν ξ) : FK μ ξ :=
  ⟨Fr12_t a.1 b.1, fun j h1 h2 h3 h4 h5 h6 h7 h8 => (b.2.1 j h4 h5 h6 h7 h8).trans (a.2.1 j h1 h2 h3 h4 h5 h6 h7 h8), (b.2.1 2 (by decide) (by decide) (by decide) (by decide) (by decide)).trans a.2.2.1, fun j h1 h2 h3 h4 h5 h6 h7 => (b.2.2.1 j h3 h4 h5 h6 h7).trans (a.2.2.2.1 j h1 h2 h3 h4 h5 h6 h7), fun j h1 h2 => (b.2.2.2.1 j h2).trans (a.2.2.2.2.1 j h1 h2), fun k hk => (b.2.2.2.2.1 k hk).trans (a.2.2.2.2.2.1 k hk), fun k hk => ⟨(b.2.2.2.2.2.1 k hk).1.trans (a.2.2.2.2.2.2.1 k hk).1, (b.2.2.2.2.2.1 k hk).2.trans (a.2.2.2.2.2.2.1 k hk).2⟩, fun k hk => (b.2.2.2.2.2.2 k hk).trans (a.2.2.2.2.2.2.2 k hk)⟩
section
variable {A : AS} {μ ν : XM} {h : HS}
theorem RM_K (hI : AI A) (hR : RM A μ) (a : FK μ ν) : RM (clT A) ν := by
  obtain ⟨r1, r2, r3, r4, r5, r6, r7, r8, r9, r10⟩ := hR
  have s24 : aI ν 12 0 24 = aI μ 12 0 24 := a.2.2.2.1 24 (by decide) (by decide) (by decide) (by decide) (by decide) (by decide) (by decide)
  have k10 := a.2.2.2.2.2.1
  have k11 := a.2.2.2.2.2.2.1
  have k21 := a.2.2.2.2.2.2.2
  have hlen : (hC (aH A)).length < 1000 := hI.2.1.2.2
  refine ⟨?_, ?_, ?_, ?_, ?_, ?_, ?_, ?_, ?_, ?_⟩
  · show RH (aH A) ν
    obtain ⟨⟨q1, q2, q3⟩, ⟨q4, q5, q6, q7, q8⟩, q9, q10, q11⟩ := r1
    refine ⟨⟨q1, q2, q3⟩, ⟨(k10 _ (by omega)).trans q4, (k10 _ (by omega)).trans q5, (k10 _ (by omega)).trans q6, (k10 _ (by omega)).trans q7, (k10 _ (by omega)).trans q8⟩, fun g hg => ?_, fun g hg => ?_, fun g hg => ?_⟩
    · rw [k10 _ (by omega), k10 _ (by omega), k10 _ (by omega), k10 _ (by omega), k10 _ (by omega)]; exact q9 g hg
    · rw [k10 _ (by omega)]; exact q10 g hg
    · rw [k10 _ (by omega), k10 _ (by omega)]; exact q11 g hg
  · show RL (hC (aH A)) ν
    rcases r2 with ⟨l1, l2⟩ | ⟨l1, l2, l3, l4⟩
    · exact .inl ⟨l1, by rw [k10 5 (by omega)]; exact l2⟩
    · refine .inr ⟨l1, by rw [k10 5 (by omega)]; exact l2, fun k hk => ?_, ?_⟩
      · rw [(k11 k (by omega)).1, (k11 k (by omega)).2]; exact l3 k hk
      · rw [(k11 _ (by omega)).1]; exact l4
  · show RN (aH A) ν
    unfold RN at *
    rw [a.2.1 18 (by decide) (by decide) (by decide) (by decide) (by decide) (by decide) (by decide) (by decide), a.2.2.2.1 16 (by decide) (by decide) (by decide) (by decide) (by decide) (by decide) (by decide), a.2.2.2.2.1 14 (by decide) (by decide)]
    exact r3
  · show RS 0 (aH A) (aS A) ν
    unfold RS at *; rw [s24]; exact r4
  · show RE (aE A) ν
    have hE : (aE A).1 ≤ 40 := hI.2.2.2.2.1.1
    refine ⟨(k21 0 (by omega)).trans r5.1, fun l hl => ?_⟩
    rw [k21 _ (by omega), k21 _ (by omega), k21 _ (by omega), k21 _ (by omega)]
    exact r5.2 l hl
  · show RU (aH A) (aU A) ν
    unfold RU RS at *
    rw [a.2.1 25 (by decide) (by decide) (by decide) (by decide) (by decide) (by decide) (by decide) (by decide), s24]; exact r6
  · show RMk (aH A) (aM A) ν
    unfold RMk RS RQ at *
    rw [s24, a.2.2.2.1 26 (by decide) (by decide) (by decide) (by decide) (by decide) (by decide) (by decide)]; exact r7
  · show RQ 0 (aQ A) ν
    unfold RQ at *; rw [s24]; exact r8
  · exact ⟨a.2.2.1, fun k hk => absurd hk (Nat.not_lt_zero k)⟩
  · unfold RW at *; rw [a.2.2.2.2.1 9 (by decide) (by decide)]; exact r10
theorem m_stands : ∃ ν, f12_standsAsAlways 60 μ = xrv ν ∧ (∀ k, k < 60 → k ≠ 5 → aI ν 12 0 10 (60 + k) = 0) ∧ aI ν 12 0 10 65 = -1 ∧ Fq 10 60 120 μ ν := by
  rw [f12_standsAsAlways_e, k12_standsAsAlways, vI_eq]
  refine lp_rel (F := fun f ν k => h12_standsAsAlways_2 f 60 k ν) (fun k ν => (∀ j, j < k → aI ν 12 0 10 (60 + j) = 0) ∧ Fq 10 60 120 μ ν) (Q := fun x => ∃ ν, x = xrv ν ∧ (∀ k, k < 60 → k ≠ 5 → aI ν 12 0 10 (60 + k) = 0) ∧ aI ν 12 0 10 65 = -1 ∧ Fq 10 60 120 μ ν) (e := 60) ?_ ?_ 60 0 20000 μ (by omega) (by omega) ⟨fun j hj => absurd hj (Nat.not_lt_zero j), Fq_r⟩
  · intro f ν hI
    show ∃ ξ, h12_standsAsAlways_2 (f + 1) 60 (nI 60) ν = xrv ξ ∧ _
    rw [h12_standsAsAlways_2_s, xite_f (show ¬ nI 60 < (60 : Int32) from Int32.lt_irrefl), show (60 : Int32) + 5 = nI 65 from rfl, xck_t (xin_a (show 120 < 2 ^ 31 by omega) (by omega)), nI_clamp (by omega), mS_eq]
    refine ⟨_, rfl, fun k hk hk5 => ?_, ?_, Fq_p hI.2 (by omega) (by omega)⟩
    · rw [aI_pI]; simp only [show ¬ 60 + k = 65 by omega, and_false, ↓reduceIte]; exact hI.1 k hk
    · rw [aI_pI]; simp
  · intro f ν k hk hI
    refine ⟨pI ν 12 0 10 (60 + k) 0, ⟨fun j hj => ?_, Fq_p hI.2 (by omega) (by omega)⟩, ?_⟩
    · rw [aI_pI]
      by_cases e : j = k
      · simp [e]
      · simp only [show ¬ 60 + j = 60 + k by omega, and_false, ↓reduceIte]; exact hI.1 j (by omega)
    · show h12_standsAsAlways_2 (f + 1) 60 (nI k) ν = _
      rw [h12_standsAsAlways_2_s, xite_t (show nI k < (60 : Int32) from nI_lt (b := 60) hk (by omega)), show (60 : Int32) + nI k = nI (60 + k) from nI_add 60 k, xck_t (xin_a (show 120 < 2 ^ 31 by omega) (by omega)), nI_clamp (by omega), mS_eq, vI_eq, ← nI_succ]
/-- the reference cuts its tape, and is ready to read -/
theorem m_cutStart (hI : AI A) (hR : RM A μ) : ∃ ν m, f12_cutAll (m0 μ) = xrv ν ∧ PT (aT A) m = (aT A).1 ∧ m ≤ 1000 ∧ RO (aT A) m 0 ν ∧ FK μ ν := by
  have hR1 := m0_R hI hR
  have hT : TI (aT A) := hI.2.2.2.2.2.2.2.2
  have h1000 := hT.1
  obtain ⟨ν, m, b1, b2', b3, b4, b5, b6, b7, b8, b9, b10, b11, b12⟩ := m_cut hT hR1.2.2.2.2.2.2.2.2.1
  refine ⟨ν, m, b1, b3, by omega, ⟨⟨b5, ?_⟩, Nat.zero_le _, b7, b8, by omega, h1000⟩, Fr12_t m0_F b6, fun j h1 h2 h3 h4 h5 _ _ _ => ?_, b9, fun j h1 h2 _ _ _ _ _ => ?_, fun j h1 _ => ?_, fun k _ => ?_, fun k _ => ?_, fun k _ => ?_⟩
  · have := hR1.2.2.2.2.2.2.2.2.2
    unfold RW at *; rw [b12 9 (by decide)]; exact this
  · rw [b10 j h2 h3 h4 h5]; unfold m0; rw [rI_sI]; simp only [h1, and_false, ↓reduceIte]
  · rw [b11 j h1 h2]; exact aI_sI _ _ _ _ _ _ _ _
  · rw [b12 j h1]; exact aL_sI _ _ _ _ _ _ _ _
  · rw [b11 10 (by decide) (by decide)]; unfold m0; rw [aI_sI]
  · rw [b11 11 (by decide) (by decide), b11 12 (by decide) (by decide)]; unfold m0; rw [aI_sI, aI_sI]; exact ⟨rfl, rfl⟩
  · rw [b11 21 (by decide) (by decide)]; unfold m0; rw [aI_sI]
theorem m_roomStart (hI : AI A) (hR : RM A μ) : ∃ ν m, f12_room μ = h12_room_30 20000 ν ∧ PT (aT A) m = (aT A).1 ∧ m ≤ 1000 ∧ RO (aT A) m 0 ν ∧ DR h00 false false false ν ∧ FK μ ν := by
  obtain ⟨ν1, m, a1, a2, a3, a4, a5⟩ := m_cutStart hI hR
  obtain ⟨ν6, b1, b2', b3, b4⟩ := m_stands (μ := sI (sI (sI ν1 12 0 13 0) 12 0 19 0) 12 0 20 0)
  have fq : FR (sI (sI (sI ν1 12 0 13 0) 12 0 19 0) 12 0 20 0) ν6 := ⟨b4.1, fun j _ _ _ _ _ => b4.2.1 j, fun j h1 _ _ _ _ => b4.2.2.2.1 j h1, fun j _ => b4.2.2.1 j, fun k hk => b4.2.2.2.2 k (.inl hk), fun k _ => by rw [b4.2.2.2.1 11 (by decide), b4.2.2.2.1 12 (by decide)]; exact ⟨rfl, rfl⟩, fun k _ => by rw [b4.2.2.2.1 21 (by decide)]⟩
  have f1 : FR ν1 ν6 := FR_t (FR_s (by omega)) (FR_t (FR_s (by omega)) (FR_t (FR_s (by omega)) fq))
  refine ⟨ν6, m, ?_, a2, a3, RO_F a4 f1 ?_ ?_, ⟨⟨⟨Nat.zero_le _, Nat.zero_le _, Nat.zero_le _⟩, ⟨b2' 0 (by omega) (by omega), b2' 1 (by omega) (by omega), b2' 2 (by omega) (by omega), b2' 3 (by omega) (by omega), b2' 4 (by omega) (by omega)⟩, fun g hg => absurd hg (Nat.not_lt_zero g), fun g hg => absurd hg (Nat.not_lt_zero g), fun g hg => absurd hg (Nat.not_lt_zero g)⟩, ⟨0, fun _ => 0, fun _ => 0, Nat.zero_le _, ?_, fun k hk => absurd hk (Nat.not_lt_zero k), fun t i ht hi => ?_⟩, ?_, ?_, .inl ⟨rfl, rfl, b3, ?_, fun k hk => absurd hk (Nat.not_lt_zero k)⟩⟩, FK_R a5 f1⟩
  · rw [f12_room_e, k12_room, mS_eq]
    show bV (f12_cutAll (m0 μ)) _ = _
    rw [a1, bV_v, mS_eq, mS_eq, mS_eq, b1, bV_v]
  · rw [b4.2.1 7, rI_sI, rI_sI, rI_sI]; simp
  · rw [b4.2.1 8, rI_sI, rI_sI, rI_sI]; simp
  · rw [b4.2.1 19, rI_sI, rI_sI]; simp; rfl
  · unfold cnt at hi; split at hi <;> exact absurd hi (Nat.not_lt_zero i)
  · rw [b4.2.1 19, rI_sI, rI_sI]; simp; rfl
  · rw [b4.2.1 20, rI_sI]; simp; rfl
  · rw [b4.2.1 13, rI_sI, rI_sI, rI_sI]; simp; rfl
/-- the draft's row is copied -/
theorem m_76 {c n : Nat} (hn : 60 + c < n) : ∃ ξ n1, c ≤ n1 ∧ h12_room_76 n 0 μ = h12_room_105 n1 0 ξ ∧ (∀ j, j < 60 → aI ξ 12 0 10 j = aI μ 12 0 10 (60 + j)) ∧ Fq 10 0 60 μ ξ := by
  refine lp_relc c (F := fun f ν k => h12_room_76 f k ν) (fun k ν => (∀ j, j < k → aI ν 12 0 10 j = aI μ 12 0 10 (60 + j)) ∧ Fq 10 0 60 μ ν) (Q := fun x => ∃ ξ n1, c ≤ n1 ∧ x = h12_room_105 n1 0 ξ ∧ (∀ j, j < 60 → aI ξ 12 0 10 j = aI μ 12 0 10 (60 + j)) ∧ Fq 10 0 60 μ ξ) (e := 60) ?_ ?_ 60 0 n μ (by omega) (by omega) ⟨fun j hj => absurd hj (Nat.not_lt_zero j), Fq_r⟩
  · intro f ν hf hI
    show ∃ ξ n1, c ≤ n1 ∧ h12_room_76 (f + 1) (nI 60) ν = h12_room_105 n1 0 ξ ∧ _
    rw [h12_room_76_s, xite_f (show ¬ nI 60 < (60 : Int32) from Int32.lt_irrefl), vI_eq]
    exact ⟨ν, f, hf, rfl, hI.1, hI.2⟩
  · intro f ν k hk hI
    refine ⟨pI ν 12 0 10 k (aI μ 12 0 10 (60 + k)), ⟨fun j hj => ?_, Fq_p hI.2 (by omega) (by omega)⟩, ?_⟩
    · rw [aI_pI]
      by_cases e : j = k
      · simp [e]
      · simp only [e, and_false, ↓reduceIte]; exact hI.1 j (by omega)
    · show h12_room_76 (f + 1) (nI k) ν = _
      rw [h12_room_76_s, xite_t (show nI k < (60 : Int32) from nI_lt (b := 60) hk (by omega)), show (60 : Int32) + nI k = nI (60 + k) from nI_add 60 k, xck_t (xin_t (by omega) (by omega)), xck_t (xin_a (show 120 < 2 ^ 31 by omega) (by omega)), nI_clamp (show 60 + k < 2 ^ 31 by omega), nI_clamp (show k < 2 ^ 31 by omega), hI.2.2.2.2.2 (60 + k) (by omega), mS_eq, vI_eq, ← nI_succ]
def F2 (μ ν : XM) : Prop := Fr12 μ ν ∧ (∀ j, rI ν 12 0 j = rI μ 12 0 j) ∧ (∀ j, aL ν 12 0 j = aL μ 12 0 j) ∧ (∀ j, j ≠ 11 → j ≠ 12 → aI ν 12 0 j = aI μ 12 0 j) ∧ ∀ k, 1100 ≤ k → aI ν 12 0 11 k = aI μ 12 0 11 k ∧ aI ν 12 0 12 k = aI μ 12 0 12 k
theorem F2_p {k : Nat} {x y : Int32} (a : F2 μ ν) (hk : k < 1100) : F2 μ (pI (pI ν 12 0 11 k x) 12 0 12 k y) := by
  refine ⟨fun t j h => by rw [pI_ne h, pI_ne h]; exact a.1 t j h, fun j => by rw [rI_pI, rI_pI]; exact a.2.1 j, fun j => by rw [aL_pI, aL_pI]; exact a.2.2.1 j, fun j h1 h2 => ?_, fun q hq => ?_⟩
  · rw [pI, aI_wI]; simp only [h2, and_false, ↓reduceIte]; rw [pI, aI_wI]; simp only [h1, and_false, ↓reduceIte]; exact a.2.2.2.1 j h1 h2
  · have : ¬ q = k := by omega
    rw [aI_pI, aI_pI, aI_pI, aI_pI]; simp only [this, and_false, ↓reduceIte]; exact a.2.2.2.2 q hq
theorem m_105 {c n L : Nat} (hn : L + c < n) (hL : rI μ 12 0 13 = nI L) (hL2 : L ≤ 1100) : ∃ ξ n1, c ≤ n1 ∧ h12_room_105 n 0 μ = h12_room_153 n1 0 ξ ∧ (∀ j, j < L → aI ξ 12 0 11 j = aI μ 12 0 11 (1100 + j) ∧ aI ξ 12 0 12 j = aI μ 12 0 12 (1100 + j)) ∧ F2 μ ξ := by
  refine lp_relc c (F := fun f ν k => h12_room_105 f k ν) (fun k ν => (∀ j, j < k → aI ν 12 0 11 j = aI μ 12 0 11 (1100 + j) ∧ aI ν 12 0 12 j = aI μ 12 0 12 (1100 + j)) ∧ F2 μ ν) (Q := fun x => ∃ ξ n1, c ≤ n1 ∧ x = h12_room_153 n1 0 ξ ∧ (∀ j, j < L → aI ξ 12 0 11 j = aI μ 12 0 11 (1100 + j) ∧ aI ξ 12 0 12 j = aI μ 12 0 12 (1100 + j)) ∧ F2 μ ξ) (e := L) ?_ ?_ L 0 n μ (by omega) (by omega) ⟨fun j hj => absurd hj (Nat.not_lt_zero j), fun _ _ _ => rfl, fun _ => rfl, fun _ => rfl, fun _ _ _ => rfl, fun _ _ => ⟨rfl, rfl⟩⟩
  · intro f ν hf hI
    show ∃ ξ n1, c ≤ n1 ∧ h12_room_105 (f + 1) (nI L) ν = h12_room_153 n1 0 ξ ∧ _
    rw [h12_room_105_s, hI.2.2.1 13, hL, xite_f Int32.lt_irrefl, vI_eq]
    exact ⟨ν, f, hf, rfl, hI.1, hI.2⟩
  · intro f ν k hk hI
    refine ⟨pI (pI ν 12 0 11 k (aI μ 12 0 11 (1100 + k))) 12 0 12 k (aI μ 12 0 12 (1100 + k)), ⟨fun j hj => ?_, F2_p hI.2 (by omega)⟩, ?_⟩
    · rw [aI_pI, aI_pI, aI_pI, aI_pI]
      by_cases e : j = k
      · simp [e]
      · simp only [e, and_false, ↓reduceIte]; exact hI.1 j (by omega)
    · show h12_room_105 (f + 1) (nI k) ν = _
      have hf := hI.2.2.2.2.2 (1100 + k) (by omega)
      have e12 : aI (pI ν 12 0 11 k (aI μ 12 0 11 (1100 + k))) 12 0 12 (1100 + k) = aI μ 12 0 12 (1100 + k) := by rw [aI_pI]; simp; exact hf.2
      rw [h12_room_105_s, hI.2.2.1 13, hL, xite_t (nI_lt hk (by omega)), show (1100 : Int32) + nI k = nI (1100 + k) from nI_add 1100 k, xck_t (xin_t (by omega) (by omega)), xck_t (xin_a (show 2200 < 2 ^ 31 by omega) (by omega)), nI_clamp (show 1100 + k < 2 ^ 31 by omega), nI_clamp (show k < 2 ^ 31 by omega), hf.1, mS_eq, xck_t (xin_t (by omega) (by omega)), xck_t (xin_a (show 2200 < 2 ^ 31 by omega) (by omega)), e12, mS_eq, vI_eq, ← nI_succ]
def F3' (μ ν : XM) : Prop := Fr12 μ ν ∧ (∀ j, rI ν 12 0 j = rI μ 12 0 j) ∧ (∀ j, j ≠ 14 → aL ν 12 0 j = aL μ 12 0 j) ∧ ∀ j, j ≠ 16 → aI ν 12 0 j = aI μ 12 0 j
theorem F3_p {k : Nat} {x : Int64} {y : Int32} (a : F3' μ ν) : F3' μ (pI (pL ν 12 0 14 k x) 12 0 16 k y) := by
  refine ⟨fun t j h => by rw [pI_ne h, pL_ne h]; exact a.1 t j h, fun j => by rw [rI_pI, rI_pL]; exact a.2.1 j, fun j hj => ?_, fun j hj => ?_⟩
  · rw [aL_pI, pL, aL_wL]; simp only [hj, and_false, ↓reduceIte]; exact a.2.2.1 j hj
  · rw [pI, aI_wI]; simp only [hj, and_false, ↓reduceIte]; rw [aI_pL]; exact a.2.2.2 j hj
theorem m_153 {n N : Nat} (hn : N < n) (hN : rI μ 12 0 19 = nI N) (hN2 : N ≤ 14) : ∃ ξ, h12_room_153 n 0 μ = (bV (f12_begins (sI ξ 12 0 18 (nI N))) fun m5 => xri 0 m5) ∧ (∀ j, j < N → aL ξ 12 0 14 j = aL μ 12 0 15 j ∧ aI ξ 12 0 16 j = aI μ 12 0 17 j) ∧ F3' μ ξ := by
  refine lp_rel (F := fun f ν k => h12_room_153 f k ν) (fun k ν => (∀ j, j < k → aL ν 12 0 14 j = aL μ 12 0 15 j ∧ aI ν 12 0 16 j = aI μ 12 0 17 j) ∧ F3' μ ν) (Q := fun x => ∃ ξ, x = (bV (f12_begins (sI ξ 12 0 18 (nI N))) fun m5 => xri 0 m5) ∧ (∀ j, j < N → aL ξ 12 0 14 j = aL μ 12 0 15 j ∧ aI ξ 12 0 16 j = aI μ 12 0 17 j) ∧ F3' μ ξ) (e := N) ?_ ?_ N 0 n μ (by omega) (by omega) ⟨fun j hj => absurd hj (Nat.not_lt_zero j), fun _ _ _ => rfl, fun _ => rfl, fun _ _ => rfl, fun _ _ => rfl⟩
  · intro f ν hI
    show ∃ ξ, h12_room_153 (f + 1) (nI N) ν = _ ∧ _
    rw [h12_room_153_s, hI.2.2.1 19, hN, xite_f Int32.lt_irrefl, mS_eq]
    exact ⟨ν, rfl, hI.1, hI.2⟩
  · intro f ν k hk hI
    refine ⟨pI (pL ν 12 0 14 k (aL μ 12 0 15 k)) 12 0 16 k (aI μ 12 0 17 k), ⟨fun j hj => ?_, F3_p hI.2⟩, ?_⟩
    · rw [aL_pI, aL_pL, aI_pI, aI_pL]
      by_cases e : j = k
      · simp [e]
      · simp only [e, and_false, ↓reduceIte]; exact hI.1 j (by omega)
    · show h12_room_153 (f + 1) (nI k) ν = _
      have e17 : aI (pL ν 12 0 14 k (aL μ 12 0 15 k)) 12 0 17 k = aI μ 12 0 17 k := by rw [aI_pL, hI.2.2.2.2 17 (by decide)]
      rw [h12_room_153_s, hI.2.2.1 19, hN, xite_t (nI_lt hk (by omega)), xck_t (xin_t (by omega) (by omega)), xck_t (xin_t (by omega) (by omega)), nI_clamp (show k < 2 ^ 31 by omega), hI.2.2.2.1 15 (by decide), mS_eq, xck_t (xin_t (by omega) (by omega)), xck_t (xin_a (show 14 < 2 ^ 31 by omega) (by omega)), e17, mS_eq, vI_eq, ← nI_succ]
def FBg (μ ν : XM) : Prop := Fr12 μ ν ∧ (∀ j, j ≠ 25 → rI ν 12 0 j = rI μ 12 0 j) ∧ (∀ j, aL ν 12 0 j = aL μ 12 0 j) ∧ ∀ j, j ≠ 21 → j ≠ 22 → j ≠ 23 → j ≠ 24 → j ≠ 26 → aI ν 12 0 j = aI μ 12 0 j
theorem m_begins (hH : RH h μ) : ∃ ν, f12_begins μ = xrv ν ∧ RS 0 h (s0 h) ν ∧ aI ν 12 0 24 30 = 0 ∧ aI ν 12 0 21 0 = 0 ∧ rI ν 12 0 25 = 0 ∧ (∀ j, j < 4 → aI ν 12 0 26 j = 0) ∧ FBg μ ν := by
  obtain ⟨ν1, a1, a2, a3⟩ := s12_starts (p := 0) hH (show 0 ≤ 1034 by omega) rfl
  have h6 := RH_6 hH
  have h3 := RH_3 hH
  rw [f12_begins_e, k12_begins, a1, bV_v, xck_t (show (xin 30 1081 && true) = true by decide), show Int32.toNatClampNeg 30 = 30 from rfl, mS_eq, xck_t (show (xin 0 330 && true) = true by decide), show Int32.toNatClampNeg 0 = 0 from rfl, mS_eq, mS_eq, vI_eq]
  have f0 : FBg μ (sI (pI (pI ν1 12 0 24 30 0) 12 0 21 0 0) 12 0 25 0) := by
    refine ⟨fun t j hn => by rw [sI_ne hn, pI_ne hn, pI_ne hn]; exact a3.1 t j hn, fun j hj => ?_, fun j => by rw [aL_sI, aL_pI, aL_pI]; exact a3.2.2.2.2.1 j, fun j j1 j2 j3 j4 j5 => ?_⟩
    · rw [rI_sI]; simp only [hj, and_false, ↓reduceIte]; rw [rI_pI, rI_pI]; exact a3.2.1 j
    · rw [aI_sI, pI, aI_wI]; simp only [j1, and_false, ↓reduceIte]; rw [pI, aI_wI]; simp only [j4, and_false, ↓reduceIte]; exact a3.2.2.2.1 j j2 j3 j4
  refine lp_rel (F := fun f ν k => h12_begins_27 f k ν) (fun k ν => (∀ j, j < k → aI ν 12 0 26 j = 0) ∧ RS 0 h (s0 h) ν ∧ aI ν 12 0 24 30 = 0 ∧ aI ν 12 0 21 0 = 0 ∧ rI ν 12 0 25 = 0 ∧ FBg μ ν) (Q := fun x => ∃ ν, x = xrv ν ∧ RS 0 h (s0 h) ν ∧ aI ν 12 0 24 30 = 0 ∧ aI ν 12 0 21 0 = 0 ∧ rI ν 12 0 25 = 0 ∧ (∀ j, j < 4 → aI ν 12 0 26 j = 0) ∧ FBg μ ν) (e := 4) ?_ ?_ 4 0 20000 _ (by omega) (by omega) ⟨fun j hj => absurd hj (Nat.not_lt_zero j), ?_, ?_, ?_, ?_, f0⟩
  · intro f ν hI
    show ∃ ξ, h12_begins_27 (f + 1) (nI 4) ν = xrv ξ ∧ _
    rw [h12_begins_27_s, xite_f (show ¬ nI 4 < (4 : Int32) from Int32.lt_irrefl)]
    exact ⟨ν, rfl, hI.2.1, hI.2.2.1, hI.2.2.2.1, hI.2.2.2.2.1, hI.1, hI.2.2.2.2.2⟩
  · intro f ν k hk hI
    obtain ⟨i1, i2, i3, i4, i5, i6⟩ := hI
    have e24 : ∀ q, aI (pI ν 12 0 26 k 0) 12 0 24 q = aI ν 12 0 24 q := fun q => by rw [aI_pI]; simp
    refine ⟨pI ν 12 0 26 k 0, ⟨fun j hj => ?_, RS_out h6 h3 (fun q _ _ => e24 q) i2, (e24 30).trans i3, ?_, by rw [rI_pI]; exact i5, fun t j hn => by rw [pI_ne hn]; exact i6.1 t j hn, fun j hj => by rw [rI_pI]; exact i6.2.1 j hj, fun j => by rw [aL_pI]; exact i6.2.2.1 j, fun j j1 j2 j3 j4 j5 => ?_⟩, ?_⟩
    · rw [aI_pI]
      by_cases e : j = k
      · simp [e]
      · simp only [e, and_false, ↓reduceIte]; exact i1 j (by omega)
    · rw [aI_pI]; simp; exact i4
    · rw [pI, aI_wI]; simp only [j5, and_false, ↓reduceIte]; exact i6.2.2.2 j j1 j2 j3 j4 j5
    · show h12_begins_27 (f + 1) (nI k) ν = _
      rw [h12_begins_27_s, xite_t (show nI k < (4 : Int32) from nI_lt (b := 4) hk (by omega)), xck_t (show (xin (nI k) 4 && xbl 0) = true by rw [xin_t (by omega) hk]; rfl), nI_clamp (by omega), mS_eq, vI_eq, ← nI_succ]
  · refine RS_out h6 h3 (fun q h1 h2 => ?_) a2
    rw [aI_sI, aI_pI, aI_pI]; simp; intro; omega
  · rw [aI_sI, aI_pI, aI_pI]; simp
  · rw [aI_sI, aI_pI]; simp
  · rw [rI_sI]; simp
end
