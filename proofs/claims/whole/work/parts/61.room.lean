/-! THE PURE PART: room, on both sides -/
/-- the tape is empty -/
def clT (A : AS) : AS := (aH A, aS A, aE A, aU A, aM A, aQ A, (0, (aT A).2))
theorem AI_clT {A : AS} (hI : AI A) : AI (clT A) := by
  obtain ⟨a1, a2, a3, a4, a5, a6, a7, a8, a9⟩ := hI
  exact ⟨a1, a2, a3, a4, a5, a6, a7, a8, Nat.zero_le _, fun k hk => absurd hk (Nat.not_lt_zero k)⟩
/-- a new room -/
def nRoom (A : AS) (h : HS) : AS := (h, s0 h, (0, fun _ _ => 0), (0, fun _ => s0 h), (fun _ => (false, s0 h, (0, fun _ => (0, 0)))), (0, fun _ => (0, 0)), (0, (aT A).2))
theorem AI_nRoom {A : AS} {h : HS} (hD : DI h) : AI (nRoom A h) := by
  refine ⟨hD.1, hD.2.1, hD.2.2, s0_SI hD.1, ⟨Nat.zero_le _, fun l hl => absurd hl (Nat.not_lt_zero l)⟩, ⟨Nat.zero_le _, fun l hl => absurd hl (Nat.not_lt_zero l)⟩, fun j _ e => ?_, ⟨Nat.zero_le _, fun l hl => absurd hl (Nat.not_lt_zero l)⟩, Nat.zero_le _, fun l hl => absurd hl (Nat.not_lt_zero l)⟩
  exact absurd e (by show ¬ false = true; decide)
section
variable {A : AS} {μ ν : XM} {h : HS}
theorem mS_step {x : XM} {k : XM → XR} (P : XR → Prop) (h : ∀ y, y = x → P (k y)) : P (mS x k) := by rw [mS_eq]; exact h x rfl
theorem st_s {a b m p : XM} {j : Nat} (h : m = sI p 2 0 j (rI p 2 1 j)) (hp : ∀ t i, ¬ (t = 2 ∧ i = 0) → p t i = a t i) : (∀ t i, ¬ (t = 2 ∧ i = 0) → m t i = a t i) ∧ rI m 2 0 j = rI a 2 1 j ∧ (∀ q, q ≠ j → rI m 2 0 q = rI p 2 0 q) ∧ (∀ q, aI m 2 0 q = aI p 2 0 q) ∧ ∀ q, aL m 2 0 q = aL p 2 0 q := by
  subst h
  refine ⟨fun t i hn => by rw [sI_ne hn]; exact hp t i hn, ?_, fun q hq => ?_, fun q => aI_sI _ _ _ _ _ _ _ _, fun q => aL_sI _ _ _ _ _ _ _ _⟩
  · rw [rI_sI]; simp only [and_self, ↓reduceIte]; exact rI_ob (hp 2 1 (by omega)) j
  · rw [rI_sI]; simp only [hq, and_false, ↓reduceIte]
theorem st_I {a m p : XM} {j n : Nat} (h : m = wI p 2 0 j (va_cpy (aI p 2 1 j) (aI p 2 0 j) 0 0 n)) (hp : ∀ t i, ¬ (t = 2 ∧ i = 0) → p t i = a t i) : (∀ t i, ¬ (t = 2 ∧ i = 0) → m t i = a t i) ∧ (∀ g, g < n → aI m 2 0 j g = aI a 2 1 j g) ∧ (∀ q, q ≠ j → aI m 2 0 q = aI p 2 0 q) ∧ (∀ q, rI m 2 0 q = rI p 2 0 q) ∧ ∀ q, aL m 2 0 q = aL p 2 0 q := by
  subst h
  refine ⟨fun t i hn => by rw [wI_ne hn]; exact hp t i hn, fun g hg => ?_, fun q hq => ?_, fun q => rI_wI _ _ _ _ _ _ _ _, fun q => aL_wI _ _ _ _ _ _ _ _⟩
  · rw [aI_wI]; simp only [and_self, ↓reduceIte]; rw [cpy_at, if_pos hg, aI_ob (hp 2 1 (by omega)) j]
  · rw [aI_wI]; simp only [hq, and_false, ↓reduceIte]
theorem st_L {a m p : XM} {j n : Nat} (h : m = wL p 2 0 j (va_cpy (aL p 2 1 j) (aL p 2 0 j) 0 0 n)) (hp : ∀ t i, ¬ (t = 2 ∧ i = 0) → p t i = a t i) : (∀ t i, ¬ (t = 2 ∧ i = 0) → m t i = a t i) ∧ (∀ g, g < n → aL m 2 0 j g = aL a 2 1 j g) ∧ (∀ q, q ≠ j → aL m 2 0 q = aL p 2 0 q) ∧ (∀ q, rI m 2 0 q = rI p 2 0 q) ∧ ∀ q, aI m 2 0 q = aI p 2 0 q := by
  subst h
  refine ⟨fun t i hn => by rw [wL_ne hn]; exact hp t i hn, fun g hg => ?_, fun q hq => ?_, fun q => rI_wL _ _ _ _ _ _ _ _, fun q => aI_wL _ _ _ _ _ _ _ _⟩
  · rw [aL_wL]; simp only [and_self, ↓reduceIte]; rw [cpy_atL, if_pos hg, aL_ob (hp 2 1 (by omega)) j]
  · rw [aL_wL]; simp only [hq, and_false, ↓reduceIte]
theorem s4_copyFrom {l : List (Nat × Int32)} (hL : LC 1 l μ) (hlen : l.length < 1000) : ∃ ν, f4_copyFrom 0 1 μ = xrv ν ∧ LC 0 l ν ∧ ∀ t j, ¬ (t = 4 ∧ j = 0) → ν t j = μ t j := by
  have x1 : xcpok 0 0 (nI 1000) 1000 1000 = true := xcpk 1000 (by omega) (Nat.le_refl _) (Nat.le_refl _)
  rw [f4_copyFrom_e, k4_copyFrom, mS_eq, xck_t x1, mS_eq]
  have c1 : (nI 1000).toNatClampNeg = 1000 := rfl
  have c0 : Int32.toNatClampNeg 0 = 0 := rfl
  rw [c1, c0]
  refine ⟨_, rfl, ⟨?_, fun k hk => ?_⟩, fun t j hn => by rw [wI_ne hn, sI_ne hn]⟩
  · rw [rI_wI, rI_sI]; simp only [and_self, ↓reduceIte]; exact hL.1
  · rw [aI_wI]; simp only [and_self, ↓reduceIte]
    rw [cpy_at, if_pos (by omega), aI_sI]; exact hL.2 k hk
theorem s2_copyFrom (hH : CH 1 h μ) (hNm : CNm h 1 μ) (hL : LC 1 (hC h) μ) (hlen : (hC h).length < 1000) : ∃ ν, f2_copyFrom 0 1 μ = xrv ν ∧ CH 0 h ν ∧ CNm h 0 ν ∧ LC 0 (hC h) ν ∧ ∀ t j, ¬ (t = 2 ∧ j = 0) → ¬ (t = 4 ∧ j = 0) → ν t j = μ t j := by
  have h6 := CH_6 hH
  have h5 := CH_5 hH
  have h3 := CH_3 hH
  have x6 : xcpok 0 0 6 6 6 = true := xcpk 6 (by omega) (Nat.le_refl _) (Nat.le_refl _)
  have x5 : xcpok 0 0 5 5 5 = true := xcpk 5 (by omega) (Nat.le_refl _) (Nat.le_refl _)
  have x3 : xcpok 0 0 3 3 3 = true := xcpk 3 (by omega) (Nat.le_refl _) (Nat.le_refl _)
  have o0 : ∀ t i, ¬ (t = 2 ∧ i = 0) → μ t i = μ t i := fun _ _ _ => rfl
  rw [f2_copyFrom_e, k2_copyFrom]
  refine mS_step (fun r => ∃ ν, r = xrv ν ∧ CH 0 h ν ∧ CNm h 0 ν ∧ LC 0 (hC h) ν ∧ ∀ t j, ¬ (t = 2 ∧ j = 0) → ¬ (t = 4 ∧ j = 0) → ν t j = μ t j) (fun m1 e1 => ?_)
  obtain ⟨o1, w1, n1, a1, l1⟩ := st_s (a := μ) (b := μ) e1 o0
  clear e1
  refine mS_step (fun r => ∃ ν, r = xrv ν ∧ CH 0 h ν ∧ CNm h 0 ν ∧ LC 0 (hC h) ν ∧ ∀ t j, ¬ (t = 2 ∧ j = 0) → ¬ (t = 4 ∧ j = 0) → ν t j = μ t j) (fun m2 e2 => ?_)
  obtain ⟨o2, w2, n2, a2, l2⟩ := st_s (a := μ) (b := μ) e2 o1
  clear e2
  refine mS_step (fun r => ∃ ν, r = xrv ν ∧ CH 0 h ν ∧ CNm h 0 ν ∧ LC 0 (hC h) ν ∧ ∀ t j, ¬ (t = 2 ∧ j = 0) → ¬ (t = 4 ∧ j = 0) → ν t j = μ t j) (fun m3 e3 => ?_)
  obtain ⟨o3, w3, n3, a3, l3⟩ := st_s (a := μ) (b := μ) e3 o2
  clear e3
  refine mS_step (fun r => ∃ ν, r = xrv ν ∧ CH 0 h ν ∧ CNm h 0 ν ∧ LC 0 (hC h) ν ∧ ∀ t j, ¬ (t = 2 ∧ j = 0) → ¬ (t = 4 ∧ j = 0) → ν t j = μ t j) (fun m4 e4 => ?_)
  obtain ⟨o4, w4, n4, a4, l4⟩ := st_s (a := μ) (b := μ) e4 o3
  clear e4
  refine mS_step (fun r => ∃ ν, r = xrv ν ∧ CH 0 h ν ∧ CNm h 0 ν ∧ LC 0 (hC h) ν ∧ ∀ t j, ¬ (t = 2 ∧ j = 0) → ¬ (t = 4 ∧ j = 0) → ν t j = μ t j) (fun m5 e5 => ?_)
  obtain ⟨o5, w5, n5, a5, l5⟩ := st_s (a := μ) (b := μ) e5 o4
  clear e5
  rw [xck_t x6]
  refine mS_step (fun r => ∃ ν, r = xrv ν ∧ CH 0 h ν ∧ CNm h 0 ν ∧ LC 0 (hC h) ν ∧ ∀ t j, ¬ (t = 2 ∧ j = 0) → ¬ (t = 4 ∧ j = 0) → ν t j = μ t j) (fun m6 e6 => ?_)
  obtain ⟨o6, w6, n6, r6, a6⟩ := st_L (a := μ) (n := 6) e6 o5
  clear e6
  rw [xck_t x6]
  refine mS_step (fun r => ∃ ν, r = xrv ν ∧ CH 0 h ν ∧ CNm h 0 ν ∧ LC 0 (hC h) ν ∧ ∀ t j, ¬ (t = 2 ∧ j = 0) → ¬ (t = 4 ∧ j = 0) → ν t j = μ t j) (fun m7 e7 => ?_)
  obtain ⟨o7, w7, n7, r7, l7⟩ := st_I (a := μ) (n := 6) e7 o6
  clear e7
  rw [xck_t x6]
  refine mS_step (fun r => ∃ ν, r = xrv ν ∧ CH 0 h ν ∧ CNm h 0 ν ∧ LC 0 (hC h) ν ∧ ∀ t j, ¬ (t = 2 ∧ j = 0) → ¬ (t = 4 ∧ j = 0) → ν t j = μ t j) (fun m8 e8 => ?_)
  obtain ⟨o8, w8, n8, r8, l8⟩ := st_I (a := μ) (n := 6) e8 o7
  clear e8
  rw [xck_t x6]
  refine mS_step (fun r => ∃ ν, r = xrv ν ∧ CH 0 h ν ∧ CNm h 0 ν ∧ LC 0 (hC h) ν ∧ ∀ t j, ¬ (t = 2 ∧ j = 0) → ¬ (t = 4 ∧ j = 0) → ν t j = μ t j) (fun m9 e9 => ?_)
  obtain ⟨o9, w9, n9, r9, l9⟩ := st_I (a := μ) (n := 6) e9 o8
  clear e9
  rw [xck_t x6]
  refine mS_step (fun r => ∃ ν, r = xrv ν ∧ CH 0 h ν ∧ CNm h 0 ν ∧ LC 0 (hC h) ν ∧ ∀ t j, ¬ (t = 2 ∧ j = 0) → ¬ (t = 4 ∧ j = 0) → ν t j = μ t j) (fun m10 e10 => ?_)
  obtain ⟨o10, w10, n10, r10, l10⟩ := st_I (a := μ) (n := 6) e10 o9
  clear e10
  rw [xck_t x6]
  refine mS_step (fun r => ∃ ν, r = xrv ν ∧ CH 0 h ν ∧ CNm h 0 ν ∧ LC 0 (hC h) ν ∧ ∀ t j, ¬ (t = 2 ∧ j = 0) → ¬ (t = 4 ∧ j = 0) → ν t j = μ t j) (fun m11 e11 => ?_)
  obtain ⟨o11, w11, n11, r11, l11⟩ := st_I (a := μ) (n := 6) e11 o10
  clear e11
  rw [xck_t x5]
  refine mS_step (fun r => ∃ ν, r = xrv ν ∧ CH 0 h ν ∧ CNm h 0 ν ∧ LC 0 (hC h) ν ∧ ∀ t j, ¬ (t = 2 ∧ j = 0) → ¬ (t = 4 ∧ j = 0) → ν t j = μ t j) (fun m12 e12 => ?_)
  obtain ⟨o12, w12, n12, r12, a12⟩ := st_L (a := μ) (n := 5) e12 o11
  clear e12
  rw [xck_t x5]
  refine mS_step (fun r => ∃ ν, r = xrv ν ∧ CH 0 h ν ∧ CNm h 0 ν ∧ LC 0 (hC h) ν ∧ ∀ t j, ¬ (t = 2 ∧ j = 0) → ¬ (t = 4 ∧ j = 0) → ν t j = μ t j) (fun m13 e13 => ?_)
  obtain ⟨o13, w13, n13, r13, l13⟩ := st_I (a := μ) (n := 5) e13 o12
  clear e13
  rw [xck_t x3]
  refine mS_step (fun r => ∃ ν, r = xrv ν ∧ CH 0 h ν ∧ CNm h 0 ν ∧ LC 0 (hC h) ν ∧ ∀ t j, ¬ (t = 2 ∧ j = 0) → ¬ (t = 4 ∧ j = 0) → ν t j = μ t j) (fun m14 e14 => ?_)
  obtain ⟨o14, w14, n14, r14, a14⟩ := st_L (a := μ) (n := 3) e14 o13
  clear e14
  rw [xck_t x3]
  refine mS_step (fun r => ∃ ν, r = xrv ν ∧ CH 0 h ν ∧ CNm h 0 ν ∧ LC 0 (hC h) ν ∧ ∀ t j, ¬ (t = 2 ∧ j = 0) → ¬ (t = 4 ∧ j = 0) → ν t j = μ t j) (fun m15 e15 => ?_)
  obtain ⟨o15, w15, n15, r15, l15⟩ := st_I (a := μ) (n := 3) e15 o14
  clear e15
  rw [xck_t x3]
  refine mS_step (fun r => ∃ ν, r = xrv ν ∧ CH 0 h ν ∧ CNm h 0 ν ∧ LC 0 (hC h) ν ∧ ∀ t j, ¬ (t = 2 ∧ j = 0) → ¬ (t = 4 ∧ j = 0) → ν t j = μ t j) (fun m16 e16 => ?_)
  obtain ⟨o16, w16, n16, r16, l16⟩ := st_I (a := μ) (n := 3) e16 o15
  clear e16
  obtain ⟨ν, f1, f2, f3⟩ := s4_copyFrom (μ := m16) (LC_ob (o16 4 1 (by omega)) hL) hlen
  have z2 : ν 2 0 = m16 2 0 := f3 2 0 (by omega)
  rw [f1, bV_v]
  obtain ⟨q0, ⟨q4, q5, q6, q7, q8⟩, q9, q10, q11⟩ := hH
  refine ⟨_, rfl, ⟨q0, ⟨?_, ?_, ?_, ?_, ?_⟩, fun g hg => ⟨?_, ?_, ?_, ?_, ?_⟩, fun g hg => ?_, fun g hg => ⟨?_, ?_⟩⟩, ⟨fun g hg => ?_, fun g hg => ?_, fun g hg => ?_⟩, f2, fun t j h1 h2 => by rw [f3 t j h2]; exact o16 t j h1⟩
  · rw [rI_ob z2, r16, r15, r14, r13, r12, r11, r10, r9, r8, r7, r6, n5 0 (by decide), n4 0 (by decide), n3 0 (by decide), n2 0 (by decide), w1]; exact q4
  · rw [rI_ob z2, r16, r15, r14, r13, r12, r11, r10, r9, r8, r7, r6, n5 1 (by decide), n4 1 (by decide), n3 1 (by decide), w2]; exact q5
  · rw [rI_ob z2, r16, r15, r14, r13, r12, r11, r10, r9, r8, r7, r6, n5 2 (by decide), n4 2 (by decide), w3]; exact q6
  · rw [rI_ob z2, r16, r15, r14, r13, r12, r11, r10, r9, r8, r7, r6, n5 3 (by decide), w4]; exact q7
  · rw [rI_ob z2, r16, r15, r14, r13, r12, r11, r10, r9, r8, r7, r6, w5]; exact q8
  · rw [aI_ob z2, n16 6 (by decide), n15 6 (by decide), a14, n13 6 (by decide), a12, n11 6 (by decide), n10 6 (by decide), n9 6 (by decide), n8 6 (by decide), w7 g (by omega)]; exact (q9 g hg).1
  · rw [aI_ob z2, n16 7 (by decide), n15 7 (by decide), a14, n13 7 (by decide), a12, n11 7 (by decide), n10 7 (by decide), n9 7 (by decide), w8 g (by omega)]; exact (q9 g hg).2.1
  · rw [aI_ob z2, n16 8 (by decide), n15 8 (by decide), a14, n13 8 (by decide), a12, n11 8 (by decide), n10 8 (by decide), w9 g (by omega)]; exact (q9 g hg).2.2.1
  · rw [aI_ob z2, n16 9 (by decide), n15 9 (by decide), a14, n13 9 (by decide), a12, n11 9 (by decide), w10 g (by omega)]; exact (q9 g hg).2.2.2.1
  · rw [aI_ob z2, n16 10 (by decide), n15 10 (by decide), a14, n13 10 (by decide), a12, w11 g (by omega)]; exact (q9 g hg).2.2.2.2
  · rw [aI_ob z2, n16 12 (by decide), n15 12 (by decide), a14, w13 g (by omega)]; exact q10 g hg
  · rw [aI_ob z2, n16 14 (by decide), w15 g (by omega)]; exact (q11 g hg).1
  · rw [aI_ob z2, w16 g (by omega)]; exact (q11 g hg).2
  · rw [aL_ob z2, l16, l15, n14 5 (by decide), l13, n12 5 (by decide), l11, l10, l9, l8, l7, w6 g (by omega)]; exact hNm.1 g hg
  · rw [aL_ob z2, l16, l15, n14 11 (by decide), l13, w12 g (by omega)]; exact hNm.2.1 g hg
  · rw [aL_ob z2, l16, l15, w14 g (by omega)]; exact hNm.2.2 g hg
theorem c_lift : ∃ ν, f11_liftMarks μ = xrv ν ∧ (∀ j, j < 4 → rI ν 5 j 0 = 0) ∧ ∀ t j, t ≠ 5 → ν t j = μ t j := by
  rw [f11_liftMarks_e, k11_liftMarks, vI_eq]
  refine lp_rel (F := fun f ν k => h11_liftMarks_2 f k ν) (fun k ν => (∀ j, j < k → rI ν 5 j 0 = 0) ∧ ∀ t j, t ≠ 5 → ν t j = μ t j) (Q := fun x => ∃ ν, x = xrv ν ∧ (∀ j, j < 4 → rI ν 5 j 0 = 0) ∧ ∀ t j, t ≠ 5 → ν t j = μ t j) (e := 4) ?_ ?_ 4 0 20000 μ (by omega) (by omega) ⟨fun j hj => absurd hj (Nat.not_lt_zero j), fun _ _ _ => rfl⟩
  · intro f ν hI
    show ∃ ξ, h11_liftMarks_2 (f + 1) (nI 4) ν = xrv ξ ∧ _
    rw [h11_liftMarks_2_s, xite_f Int32.lt_irrefl]
    exact ⟨ν, rfl, hI.1, hI.2⟩
  · intro f ν k hk hI
    refine ⟨sI ν 5 k 0 0, ⟨fun j hj => ?_, fun t j ht => ?_⟩, ?_⟩
    · rw [rI_sI]
      by_cases e : j = k
      · simp [e]
      · simp only [e, false_and, and_false, ↓reduceIte]; exact hI.1 j (by omega)
    · rw [sI_ne (fun q => ht q.1)]; exact hI.2 t j ht
    · show h11_liftMarks_2 (f + 1) (nI k) ν = _
      rw [h11_liftMarks_2_s, xite_t (nI_lt hk (by omega)), xck_t (xin_t (by omega) hk), nI_clamp (by omega), f5_lift_e, k5_lift, xck_t (show xbl 0 = true by decide), mS_eq, bV_v, vI_eq, ← nI_succ]
theorem FD_11 (f : FD μ ν) : Fr11 μ ν := fun t j ht => f t j (by omega) (by omega) (by omega) (by omega)
/-- the component stops at a fault -/
theorem c_roomF {F : Nat} (hF : 0 < F ∧ F < 2 ^ 31) (hR : RC A μ) (he : f7_read μ = xri (nI F) ν) (f : FD μ ν) : OKc A (clT A) μ (f11_room μ) (nI F) := by
  rw [f11_room_e, k11_room, he, bI_i, vI_eq, f10_clear_e, k10_clear, mS_eq, bV_v, xite_f (nI_ne0 hF.1 hF.2)]
  have f2 : ∀ t j, ¬ (t = 10 ∧ j = 0) → ¬ (t = 2 ∧ j = 1) → ¬ (t = 4 ∧ j = 1) → ¬ (t = 7 ∧ j = 0) → (sI ν 10 0 1 0) t j = μ t j := fun t j h1 h2 h3 h4 => by rw [sI_ne h1]; exact f t j h1 h2 h3 h4
  obtain ⟨r1, r2, r3, r4, r5, r6, r7, r8, r9⟩ := hR
  refine ⟨_, rfl, ⟨CH_ob (f2 2 0 (by omega) (by omega) (by omega) (by omega)) r1, LC_ob (f2 4 0 (by omega) (by omega) (by omega) (by omega)) r2, CNm_ob (f2 2 0 (by omega) (by omega) (by omega) (by omega)) r3, CS_ob (f2 8 0 (by omega) (by omega) (by omega) (by omega)) r4, CE_ob (f2 1 0 (by omega) (by omega) (by omega) (by omega)) r5, CU_ob (f2 0 0 (by omega) (by omega) (by omega) (by omega)) (fun j _ _ => f2 8 j (by omega) (by omega) (by omega) (by omega)) r6, CM_ob (fun j _ => f2 5 j (by omega) (by omega) (by omega) (by omega)) (fun j _ => f2 8 _ (by omega) (by omega) (by omega) (by omega)) (fun j _ => f2 9 _ (by omega) (by omega) (by omega) (by omega)) r7, CQ_ob (f2 9 0 (by omega) (by omega) (by omega) (by omega)) r8, ⟨by rw [rI_sI]; simp; rfl, fun k hk => absurd hk (Nat.not_lt_zero k)⟩⟩, fun t j ht => f2 t j (by omega) (by omega) (by omega) (by omega)⟩
/-- the component takes the draft -/
theorem c_roomOk {f1 f2 f3 : Bool} (hR : RC A μ) (he : f7_read μ = xri 0 ν) (f : FD μ ν) (hD : DC h f1 f2 f3 ν) (hI : DI h) : OKc A (nRoom A h) μ (f11_room μ) 0 := by
  obtain ⟨D1, D2, D3, D4, D5, D6⟩ := hD
  have g1 : ∀ t j, ¬ (t = 10 ∧ j = 0) → (sI ν 10 0 1 0) t j = ν t j := fun t j hn => sI_ne hn
  obtain ⟨ν2, b1, b2', b3, b4, b5⟩ := s2_copyFrom (CH_ob (g1 2 1 (by omega)) D1) (CNm_ob (g1 2 1 (by omega)) D2) (LC_ob (g1 4 1 (by omega)) D3) hI.2.1.2.2
  obtain ⟨ν3, c1, c2, c3⟩ := s8_begin (i := 0) b2'
  obtain ⟨ν7, d1, d2, d3⟩ := c_lift (μ := sI (sI (sI ν3 1 0 0 0) 9 0 0 0) 0 0 2 0)
  rw [f11_room_e, k11_room, he, bI_i, vI_eq, f10_clear_e, k10_clear, mS_eq, bV_v, xite_t rfl, b1, bV_v, c1, bV_v, f1_clear_e, k1_clear, mS_eq, bV_v, f9_clear_e, k9_clear, mS_eq, bV_v, f0_clear_e, k0_clear, mS_eq, bV_v, d1, bV_v]
  have g7 : ∀ t j, ¬ (t = 1 ∧ j = 0) → ¬ (t = 9 ∧ j = 0) → ¬ (t = 0 ∧ j = 0) → t ≠ 5 → ν7 t j = ν3 t j := fun t j h1 h2 h3 h4 => by rw [d3 t j h4, sI_ne h3, sI_ne h2, sI_ne h1]
  have k2 : ν7 2 0 = ν2 2 0 := (g7 2 0 (by omega) (by omega) (by omega) (by omega)).trans (c3 2 0 (by omega))
  have k4 : ν7 4 0 = ν2 4 0 := (g7 4 0 (by omega) (by omega) (by omega) (by omega)).trans (c3 4 0 (by omega))
  have k8 : ν7 8 0 = ν3 8 0 := g7 8 0 (by omega) (by omega) (by omega) (by omega)
  have k1 : ν7 1 0 = (sI ν3 1 0 0 0) 1 0 := by rw [d3 1 0 (by omega), sI_ne (by omega), sI_ne (by omega)]
  have k9 : ν7 9 0 = (sI (sI ν3 1 0 0 0) 9 0 0 0) 9 0 := by rw [d3 9 0 (by omega), sI_ne (by omega)]
  have k0 : ν7 0 0 = (sI (sI (sI ν3 1 0 0 0) 9 0 0 0) 0 0 2 0) 0 0 := d3 0 0 (by omega)
  have k10 : ν7 10 0 = (sI ν 10 0 1 0) 10 0 := by rw [g7 10 0 (by omega) (by omega) (by omega) (by omega), c3 10 0 (by omega), b5 10 0 (by omega) (by omega)]
  have kall : ∀ t j, ¬ (t = 1 ∧ j = 0) → ¬ (t = 9 ∧ j = 0) → ¬ (t = 0 ∧ j = 0) → t ≠ 5 → ¬ (t = 8 ∧ j = 0) → ¬ (t = 2 ∧ j = 0) → ¬ (t = 4 ∧ j = 0) → ¬ (t = 10 ∧ j = 0) → ν7 t j = ν t j := fun t j h1 h2 h3 h4 h5 h6 h7 h8 => by rw [g7 t j h1 h2 h3 h4, c3 t j h5, b5 t j h6 h7, sI_ne h8]
  obtain ⟨r1, r2, r3, r4, r5, ⟨nx, n1, n2, n3, n4⟩, r7, r8, r9⟩ := hR
  have e00 : ν3 0 0 = μ 0 0 := by rw [c3 0 0 (by omega), b5 0 0 (by omega) (by omega), sI_ne (by omega), f 0 0 (by omega) (by omega) (by omega) (by omega)]
  refine ⟨_, rfl, ⟨CH_ob k2 b2', LC_ob k4 b4, CNm_ob k2 b3, CS_ob k8 c2, ⟨?_, fun l hl => absurd hl (Nat.not_lt_zero l)⟩, ⟨nx, n1, ?_, ?_, fun l hl => absurd hl (Nat.not_lt_zero l)⟩, fun j hj => ⟨d2 j hj, fun e => absurd e (by show ¬ false = true; decide)⟩, ⟨?_, fun l hl => absurd hl (Nat.not_lt_zero l)⟩, ⟨?_, fun l hl => absurd hl (Nat.not_lt_zero l)⟩⟩, fun t j ht => ?_⟩
  · rw [rI_ob k1, rI_sI]; simp; rfl
  · rw [rI_ob k0, rI_sI, rI_sI, rI_sI]; simp; rw [rI_ob e00]; exact n2
  · rw [rI_ob k0, rI_sI]; simp; rfl
  · rw [rI_ob k9, rI_sI]; simp; rfl
  · rw [rI_ob k10, rI_sI]; simp; rfl
  · rw [kall t j (by omega) (by omega) (by omega) (by omega) (by omega) (by omega) (by omega) (by omega)]; exact f t j (by omega) (by omega) (by omega) (by omega)
end
