/-! THE PURE PART: a ROOM is read, on both sides -/
def h00 : HS := ((0, 0, 0), fun _ _ => 0, [], fun _ _ => [])
theorem h00_DI : DI h00 := by
  refine ⟨⟨⟨Nat.zero_le _, Nat.zero_le _, Nat.zero_le _⟩, fun g hg => absurd hg (Nat.not_lt_zero g), fun g hg => absurd hg (Nat.not_lt_zero g), fun g hg => absurd hg (Nat.not_lt_zero g), ⟨0, by omega, rfl⟩, 0, by omega, rfl⟩, ⟨fun c hc => absurd hc List.not_mem_nil, .inl rfl, by decide⟩, fun t i ht hi => ?_, fun t i t' i' ht hi _ _ _ => ?_⟩
  · unfold cnt at hi; split at hi <;> exact absurd hi (Nat.not_lt_zero i)
  · unfold cnt at hi; split at hi <;> exact absurd hi (Nat.not_lt_zero i)
section
variable {T : TP} {m : Nat}
theorem R_loop : ∀ f i w n c h f1 f2 f3 μ ν, m ≤ i + f → f + 1 < n → w ≤ i → CO T m i μ → DC h f1 f2 f3 μ → RO T m i ν → DR h f1 f2 f3 ν → DI h →
    (∃ F, (0 < F ∧ F < 2 ^ 31) ∧ (∃ μ', h7_read_33 n 1 (nI w) μ = xri (nI F) μ' ∧ FD μ μ') ∧ ∃ ν', h12_room_30 (f + 2 + c) ν = xri (nI F) ν' ∧ FR ν ν') ∨
    (∃ h' f1' f2' f3', DI h' ∧ (∃ μ', h7_read_33 n 1 (nI w) μ = xri 0 μ' ∧ DC h' f1' f2' f3' μ' ∧ FD μ μ') ∧ ∃ ν' n', c ≤ n' ∧ h12_room_30 (f + 2 + c) ν = h12_room_76 n' 0 ν' ∧ DR h' f1' f2' f3' ν' ∧ FR ν ν' ∧ TKs T m ν') := by
  intro f
  induction f with
  | zero =>
    intro i w n c h f1 f2 f3 μ ν hm hn hw hC hD hO hE hI
    obtain ⟨n, rfl⟩ : ∃ k, n = k + 1 := ⟨n - 1, by omega⟩
    have h1 := hC.2.1
    obtain rfl : i = m := by omega
    have h0 : kt T i = 0 := by unfold kt; rw [kq_0, hC.2.2.2.1]; exact Nat.le_refl _
    obtain ⟨x1, x2⟩ := ok_x hO
    have e0 : aI ν 12 0 4 i = 0 := by
      have := (hO.1.1 i hO.2.1).1
      rw [this]; unfold kt at h0; rw [h0]; rfl
    refine .inr ⟨h, f1, f2, f3, hI, ⟨μ, ?_, hD, FD_r⟩, ν, c + 1, by omega, ?_, hE, FR_r, hO.1⟩
    · rw [h7_read_33_s, xite_f (by decide), CO_eq hC (c := 0) (by omega) 0 rfl, xite_t (c := kt T i = 0) h0, hC.2.2.1]
      by_cases e : nI w < 1000
      · rw [xite_t e]
      · rw [xite_f e]
    · rw [show 0 + 2 + c = (c + 1) + 1 by omega, h12_room_30_s, xite_t hO.2.2.2.1, xck_t x1, x2, xite_t e0, xite_f (RO_p hO), vI_eq]
  | succ f ih =>
    intro i w n c h f1 f2 f3 μ ν hm hn hw hC hD hO hE hI
    obtain ⟨n, rfl⟩ : ∃ k, n = k + 2 := ⟨n - 2, by omega⟩
    have h1 := hC.2.1
    have hm1 := hC.2.2.2.2.2
    obtain ⟨x1, x2⟩ := ok_x hO
    by_cases h0 : kt T i = 0
    · have e0 : aI ν 12 0 4 i = 0 := by
        have := (hO.1.1 i hO.2.1).1
        rw [this]; unfold kt at h0; rw [h0]; rfl
      refine .inr ⟨h, f1, f2, f3, hI, ⟨μ, ?_, hD, FD_r⟩, ν, f + 2 + c, by omega, ?_, hE, FR_r, hO.1⟩
      · rw [show n + 2 = (n + 1) + 1 from rfl, h7_read_33_s, xite_f (by decide), CO_eq hC (c := 0) (by omega) 0 rfl, xite_t (c := kt T i = 0) h0, hC.2.2.1]
        by_cases e : nI w < 1000
        · rw [xite_t e]
        · rw [xite_f e]
      · rw [show f + 1 + 2 + c = (f + 2 + c) + 1 by omega, h12_room_30_s, xite_t hO.2.2.2.1, xck_t x1, x2, xite_t e0, xite_f (RO_p hO), vI_eq]
    have hi := CO_lt hC h0
    have hw0 : nI w < (1000 : Int32) := nI_lt (b := 1000) (by omega) (by omega)
    have e0 : ¬ aI ν 12 0 4 i = 0 := by
      have := (hO.1.1 i hO.2.1).1
      rw [this]
      intro e
      have hs : sqk (kq T (PT T i)) < 5 := by unfold sqk; split <;> (try split) <;> (try split) <;> (try split) <;> omega
      have := (nI_eq (b := 0) (show sqk (kq T (PT T i)) < 2 ^ 31 by omega) (by omega)).mp e
      unfold sqk at this
      split at this
      · rename_i q; exact h0 q
      · split at this
        · omega
        · split at this
          · omega
          · split at this <;> omega
    -- one line
    have one : ∀ rc, LO T m i μ ν rc (bV (f12_readLine ν) fun m2 => f12_takeSign 59 m2) → h7_read_33 (n + 2) 1 (nI w) μ = (bI rc fun r2 m1 => vI r2 fun x3 => vI (nI w + 1) fun x4 => h7_read_33 (n + 1) x3 x4 m1) →
        (∃ F, (0 < F ∧ F < 2 ^ 31) ∧ (∃ μ', h7_read_33 (n + 2) 1 (nI w) μ = xri (nI F) μ' ∧ FD μ μ') ∧ ∃ ν', h12_room_30 (f + 1 + 2 + c) ν = xri (nI F) ν' ∧ FR ν ν') ∨
        (∃ h' f1' f2' f3', DI h' ∧ (∃ μ', h7_read_33 (n + 2) 1 (nI w) μ = xri 0 μ' ∧ DC h' f1' f2' f3' μ' ∧ FD μ μ') ∧ ∃ ν' n', c ≤ n' ∧ h12_room_30 (f + 1 + 2 + c) ν = h12_room_76 n' 0 ν' ∧ DR h' f1' f2' f3' ν' ∧ FR ν ν' ∧ TKs T m ν') := by
      intro rc hLO hrc
      have href : h12_room_30 (f + 1 + 2 + c) ν = bV (bV (f12_readLine ν) fun m2 => f12_takeSign 59 m2) fun m3 => h12_room_30 (f + 2 + c) m3 := by
        rw [show f + 1 + 2 + c = (f + 2 + c) + 1 by omega, h12_room_30_s, xite_t hO.2.2.2.1, xck_t x1, x2, xite_f e0, bV_assoc]
      rw [hrc, href]
      rcases hLO with ⟨F, hF, ⟨μ', c1, c2, c3⟩, ν', d1, d2, d3⟩ | ⟨i', h', g1, g2, g3, hi', hI', ⟨μ', c1, c2, c3, c4⟩, ν', d1, d2, d3, d4⟩
      · refine .inl ⟨F, hF, ⟨μ', ?_, c3⟩, ν', ?_, d3⟩
        · rw [c1, bI_i, vI_eq, vI_eq, h7_read_33_s, xite_t rfl, c2]
        · rw [d1, bV_v, show f + 2 + c = (f + 1 + c) + 1 by omega, h12_room_30_s, xite_f (FF_0 d2), xite_t (FF_p d2), d2.2.2]
      · have := ih i' (w + 1) (n + 1) c h' g1 g2 g3 μ' ν' (by omega) (by omega) (by omega) c2 c3 d2 d3 hI'
        rw [c1, bI_i, vI_eq, vI_eq, ← nI_succ, d1, bV_v]
        rcases this with ⟨F, hF, ⟨μ2, p1, p2⟩, ν2, q1, q2⟩ | ⟨h2, k1, k2, k3, hI2, ⟨μ2, p1, p2, p3⟩, ν2, n2, q0, q1, q2, q3, q4⟩
        · exact .inl ⟨F, hF, ⟨μ2, p1, FD_t c4 p2⟩, ν2, q1, FR_t d4 q2⟩
        · exact .inr ⟨h2, k1, k2, k3, hI2, ⟨μ2, p1, p2, FD_t c4 p3⟩, ν2, n2, q0, q1, q2, FR_t d4 q3, q4⟩
    have D1 := hD.1
    have head : h7_read_33 (n + 2) 1 (nI w) μ = xite (kt T i = 128) (bI (f7_readGuest (nI (hG h)) μ) fun r2 m1 => vI r2 fun x3 => vI (nI w + 1) fun x4 => h7_read_33 (n + 1) x3 x4 m1) (xite (kt T i = 129) (bI (f7_readBelt (nI (hB h)) μ) fun r2 m1 => vI r2 fun x3 => vI (nI w + 1) fun x4 => h7_read_33 (n + 1) x3 x4 m1) (xite (kt T i = 130) (bI (f7_readMan (nI (hM h)) μ) fun r2 m1 => vI r2 fun x3 => vI (nI w + 1) fun x4 => h7_read_33 (n + 1) x3 x4 m1) (xite (kt T i = 131) (bI (f7_readGaps μ) fun r2 m1 => vI r2 fun x3 => vI (nI w + 1) fun x4 => h7_read_33 (n + 1) x3 x4 m1) (xite (kt T i = 132) (bI (f7_readWater μ) fun r2 m1 => vI r2 fun x3 => vI (nI w + 1) fun x4 => h7_read_33 (n + 1) x3 x4 m1) (xite (kt T i = 133) (bI (f7_readLaw μ) fun r2 m1 => vI r2 fun x3 => vI (nI w + 1) fun x4 => h7_read_33 (n + 1) x3 x4 m1) (bI (f10_wrong 1 μ) fun r2 m1 => vI r2 fun x3 => vI (nI w + 1) fun x4 => h7_read_33 (n + 1) x3 x4 m1)))))) := by
      rw [show n + 2 = (n + 1) + 1 from rfl, h7_read_33_s, xite_f (by decide), xite_t hw0, CO_eq hC (c := 0) (by omega) 0 rfl, xite_f h0, CO_eq hC (c := 128) (by omega) 128 rfl, CO_eq hC (c := 129) (by omega) 129 rfl, CO_eq hC (c := 130) (by omega) 130 rfl, CO_eq hC (c := 131) (by omega) 131 rfl, CO_eq hC (c := 132) (by omega) 132 rfl, CO_eq hC (c := 133) (by omega) 133 rfl, CH_G D1, CH_B D1, CH_M D1]
    by_cases z1 : kt T i = 128
    · exact one _ (L_guest hC hD hO hE hI z1) (by rw [head, xite_t z1])
    by_cases z2 : kt T i = 129
    · exact one _ (L_belt hC hD hO hE hI z2) (by rw [head, xite_f z1, xite_t z2])
    by_cases z3 : kt T i = 130
    · exact one _ (L_man hC hD hO hE hI z3) (by rw [head, xite_f z1, xite_f z2, xite_t z3])
    by_cases z4 : kt T i = 131
    · exact one _ (L_gaps hC hD hO hE hI z4) (by rw [head, xite_f z1, xite_f z2, xite_f z3, xite_t z4])
    by_cases z5 : kt T i = 132
    · exact one _ (L_water hC hD hO hE hI z5) (by rw [head, xite_f z1, xite_f z2, xite_f z3, xite_f z4, xite_t z5])
    by_cases z6 : kt T i = 133
    · exact one _ (L_law hC hD hO hE hI z6) (by rw [head, xite_f z1, xite_f z2, xite_f z3, xite_f z4, xite_f z5, xite_t z6])
    · exact one _ (L_other hC hO (by omega)) (by rw [head, xite_f z1, xite_f z2, xite_f z3, xite_f z4, xite_f z5, xite_f z6])
end
section
variable {μ ν : XM} {T : TP} {m : Nat} {h : HS}
/-- the reader of the component begins -/
theorem c_begin (hT : TI T) (hC : CT T μ) (hm : PT T m = T.1) (hm1 : m ≤ 1000) : ∃ ν, f10_begin μ = xrv ν ∧ CO T m 0 ν ∧ FTp μ ν := by
  have fa : FTp μ (sI (sI μ 10 0 2 0) 10 0 7 0) := fun t j hn => by rw [sI_ne hn, sI_ne hn]
  have hC1 : CT T (sI (sI μ 10 0 2 0) 10 0 7 0) := ⟨by rw [rI_sI, rI_sI]; simp; exact hC.1, fun k hk => by rw [aI_sI, aI_sI]; exact hC.2 k hk⟩
  obtain ⟨ν, a1, a2, a3⟩ := c_adv hT hC1 (p := 0) (Nat.zero_le _) (by rw [rI_sI, rI_sI]; simp; rfl)
  refine ⟨ν, by rw [f10_begin_e, k10_begin, mS_eq, mS_eq, a1, bV_v], ⟨a2, Nat.zero_le _, ?_, hm, hT, hm1⟩, FTp_t fa a3.1⟩
  rw [a3.2.2.2, rI_sI]; simp
/-- the whole reading of the component, at first -/
theorem c_readStart (hT : TI T) (hC : CT T μ) (hm : PT T m = T.1) (hm1 : m ≤ 1000) : ∃ μ', f7_read μ = h7_read_33 20000 1 (nI 0) μ' ∧ CO T m 0 μ' ∧ DC h00 false false false μ' ∧ FD μ μ' := by
  have e1 : f2_clear 1 μ = xrv (sI (sI (sI (sI (sI (sI μ 2 1 0 0) 2 1 1 0) 2 1 2 0) 2 1 3 0) 2 1 4 0) 4 1 1 0) := by
    rw [f2_clear_e, k2_clear, mS_eq, mS_eq, mS_eq, mS_eq, mS_eq, f4_clear_e, k4_clear, mS_eq, bV_v]
  have hC1 : CT T (sI (sI (sI (sI (sI (sI (sI (sI (sI μ 2 1 0 0) 2 1 1 0) 2 1 2 0) 2 1 3 0) 2 1 4 0) 4 1 1 0) 7 0 2 0) 7 0 3 0) 7 0 4 0) := CT_ob (by rw [sI_ne (by omega), sI_ne (by omega), sI_ne (by omega), sI_ne (by omega), sI_ne (by omega), sI_ne (by omega), sI_ne (by omega), sI_ne (by omega), sI_ne (by omega)]) hC
  obtain ⟨ξ, a1, a2, a3⟩ := c_begin hT hC1 hm hm1
  have fd : FD μ (sI (sI (sI (sI (sI (sI (sI (sI (sI μ 2 1 0 0) 2 1 1 0) 2 1 2 0) 2 1 3 0) 2 1 4 0) 4 1 1 0) 7 0 2 0) 7 0 3 0) 7 0 4 0) := fun t j h1 h2 h3 h4 => by rw [sI_ne h4, sI_ne h4, sI_ne h4, sI_ne h3, sI_ne h2, sI_ne h2, sI_ne h2, sI_ne h2, sI_ne h2]
  have k2 := a3 2 1 (by omega)
  have k4 := a3 4 1 (by omega)
  have k7 := a3 7 0 (by omega)
  refine ⟨ξ, ?_, a2, ⟨⟨⟨Nat.zero_le _, Nat.zero_le _, Nat.zero_le _⟩, ?_, fun g hg => absurd hg (Nat.not_lt_zero g), fun g hg => absurd hg (Nat.not_lt_zero g), fun g hg => absurd hg (Nat.not_lt_zero g)⟩, ⟨fun g hg => absurd hg (Nat.not_lt_zero g), fun g hg => absurd hg (Nat.not_lt_zero g), fun g hg => absurd hg (Nat.not_lt_zero g)⟩, ⟨?_, fun k hk => absurd hk (Nat.not_lt_zero k)⟩, ?_, ?_, ?_⟩, FD_t fd (FTp_D a3)⟩
  · rw [f7_read_e, k7_read, e1, bV_v, xck_t (show xbl 0 = true by decide), mS_eq, xck_t (show xbl 0 = true by decide), mS_eq, xck_t (show xbl 0 = true by decide), mS_eq, a1, bV_v, vI_eq, vI_eq]; rfl
  · simp only [rI_ob k2, rI_sI]; simp; exact ⟨rfl, rfl, rfl, rfl, rfl⟩
  · rw [rI_ob k4]; simp only [rI_sI]; simp; rfl
  · rw [rI_ob k7]; simp only [rI_sI]; simp; rfl
  · rw [rI_ob k7]; simp only [rI_sI]; simp; rfl
  · rw [rI_ob k7]; simp only [rI_sI]; simp; rfl
end
