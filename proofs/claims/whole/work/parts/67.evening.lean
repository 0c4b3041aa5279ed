/-! THE PURE PART: evening, on both sides -/
section
variable {T : TP} {m : Nat} {h : HS}
theorem cpx_ev : ∀ j, j < 4 → 128 + cpx (12 + j) = 144 + j := by decide
theorem sq_0 {ν : XM} {i : Nat} (hO : RO T m i ν) : (aI ν 12 0 4 i = 0) = (kt T i = 0) := by
  have h1 := (hO.1.1 i hO.2.1).1
  have hs : sqk (kq T (PT T i)) < 5 := by unfold sqk; split <;> (try split) <;> (try split) <;> (try split) <;> omega
  rw [h1]
  refine propext ⟨fun e => ?_, fun e => ?_⟩
  · have := (nI_eq (b := 0) (show sqk (kq T (PT T i)) < 2 ^ 31 by omega) (by omega)).mp e
    unfold sqk at this
    split at this
    · rename_i q; exact q
    · split at this
      · omega
      · split at this
        · omega
        · split at this <;> omega
  · unfold kt at e; rw [e]; rfl
theorem V_loop : ∀ f i w n c e μ ν, m ≤ i + f → f + 1 < n → w ≤ i → CO T m i μ → CE 1 e μ → CH 0 h μ → CNm h 0 μ → RO T m i ν → REd e ν → RN h ν → NI h → EI h e →
    (∃ F, (0 < F ∧ F < 2 ^ 31) ∧ (∃ μ', h1_read_14 n 1 0 1 (nI w) μ = xri (nI F) μ' ∧ FV μ μ') ∧ ∃ ν', h12_evening_11 (f + 2 + c) (nI e.1) ν = xri (nI F) ν' ∧ FR ν ν') ∨
    (∃ e', EI h e' ∧ (∃ μ', h1_read_14 n 1 0 1 (nI w) μ = xri 0 μ' ∧ CE 1 e' μ' ∧ FV μ μ') ∧ ∃ ν' n', c ≤ n' ∧ h12_evening_11 (f + 2 + c) (nI e.1) ν = h12_evening_119 n' (nI e'.1) 0 (pI ν' 12 0 21 0 (nI e'.1)) ∧ REd e' ν' ∧ FR ν ν' ∧ TKs T m ν') := by
  intro f
  induction f with
  | zero =>
    intro i w n c e μ ν hm hn hw hC hE hH hNm hO hD hR hN hI
    obtain ⟨n, rfl⟩ : ∃ k, n = k + 1 := ⟨n - 1, by omega⟩
    have h1 := hC.2.1
    obtain rfl : i = m := by omega
    have h0 : kt T i = 0 := by unfold kt; rw [kq_0, hC.2.2.2.1]; exact Nat.le_refl _
    obtain ⟨x1, x2⟩ := ok_x hO
    refine .inr ⟨e, hI, ⟨μ, ?_, hE, FV_r⟩, ν, c + 1, by omega, ?_, hD, FR_r, hO.1⟩
    · rw [h1_read_14_s, xite_f (by decide), CO_eq hC (c := 0) (by omega) 0 rfl, xite_t (c := kt T i = 0) h0, hC.2.2.1]
      by_cases e : nI w < 1000
      · rw [xite_t e]
      · rw [xite_f e]
    · rw [show 0 + 2 + c = (c + 1) + 1 by omega, h12_evening_11_s, xite_t hO.2.2.2.1, xck_t x1, x2, sq_0 hO, xite_t (c := kt T i = 0) h0, xite_f (RO_p hO), xck_t (show (xin 0 330 && true) = true by decide), mS_eq, vI_eq]; rfl
  | succ f ih =>
    intro i w n c e μ ν hm hn hw hC hE hH hNm hO hD hR hN hI
    obtain ⟨n, rfl⟩ : ∃ k, n = k + 2 := ⟨n - 2, by omega⟩
    have h1 := hC.2.1
    have hm1 := hC.2.2.2.2.2
    obtain ⟨x1, x2⟩ := ok_x hO
    by_cases h0 : kt T i = 0
    · refine .inr ⟨e, hI, ⟨μ, ?_, hE, FV_r⟩, ν, f + 2 + c, by omega, ?_, hD, FR_r, hO.1⟩
      · rw [show n + 2 = (n + 1) + 1 from rfl, h1_read_14_s, xite_f (by decide), CO_eq hC (c := 0) (by omega) 0 rfl, xite_t (c := kt T i = 0) h0, hC.2.2.1]
        by_cases e : nI w < 1000
        · rw [xite_t e]
        · rw [xite_f e]
      · rw [show f + 1 + 2 + c = (f + 2 + c) + 1 by omega, h12_evening_11_s, xite_t hO.2.2.2.1, xck_t x1, x2, sq_0 hO, xite_t (c := kt T i = 0) h0, xite_f (RO_p hO), xck_t (show (xin 0 330 && true) = true by decide), mS_eq, vI_eq]; rfl
    have hi := CO_lt hC h0
    have hw0 : nI w < (1000 : Int32) := nI_lt (b := 1000) (by omega) (by omega)
    have hrc : h1_read_14 (n + 2) 1 0 1 (nI w) μ = (bI (f1_readLine 1 0 μ) fun r2 m1 => vI r2 fun x3 => vI (nI w + 1) fun x4 => h1_read_14 (n + 1) 1 0 x3 x4 m1) := by
      rw [show n + 2 = (n + 1) + 1 from rfl, h1_read_14_s, xite_f (by decide), xite_t hw0, CO_eq hC (c := 0) (by omega) 0 rfl, xite_f h0]
    have href : h12_evening_11 (f + 1 + 2 + c) (nI e.1) ν = (bI (f12_wordHere 12 4 ν) fun r4 m3 => vI r4 fun x5 => xite (x5 < 0) (bV (f12_wrong 1 m3) fun m6 => bV (f12_takeSign 59 m6) fun m7 => h12_evening_11 (f + 2 + c) (nI e.1) m7) (xite (nI e.1 = 40) (bV (f12_wrong 5 m3) fun m8 => bV (f12_takeSign 59 m8) fun m9 => h12_evening_11 (f + 2 + c) (nI e.1) m9) (mS (sI m3 12 0 7 ((rI m3 12 0 7) + 1)) fun m10 => bV (f12_readEvening (165 + (4 * nI e.1)) x5 m10) fun m11 => vI (nI e.1 + 1) fun x12 => bV (f12_takeSign 59 m11) fun m13 => h12_evening_11 (f + 2 + c) x12 m13))) := by
      rw [show f + 1 + 2 + c = (f + 2 + c) + 1 by omega, h12_evening_11_s, xite_t hO.2.2.2.1, xck_t x1, x2, sq_0 hO, xite_f h0]
    -- a line
    have one : ∀ K, LEo T m i h e μ ν (f1_readLine 1 0 μ) K → h12_evening_11 (f + 1 + 2 + c) (nI e.1) ν = K (fun v m => h12_evening_11 (f + 2 + c) v m) →
        (∃ F, (0 < F ∧ F < 2 ^ 31) ∧ (∃ μ', h1_read_14 (n + 2) 1 0 1 (nI w) μ = xri (nI F) μ' ∧ FV μ μ') ∧ ∃ ν', h12_evening_11 (f + 1 + 2 + c) (nI e.1) ν = xri (nI F) ν' ∧ FR ν ν') ∨
        (∃ e', EI h e' ∧ (∃ μ', h1_read_14 (n + 2) 1 0 1 (nI w) μ = xri 0 μ' ∧ CE 1 e' μ' ∧ FV μ μ') ∧ ∃ ν' n', c ≤ n' ∧ h12_evening_11 (f + 1 + 2 + c) (nI e.1) ν = h12_evening_119 n' (nI e'.1) 0 (pI ν' 12 0 21 0 (nI e'.1)) ∧ REd e' ν' ∧ FR ν ν' ∧ TKs T m ν') := by
      intro K hL hK
      rw [hrc, hK]
      rcases hL with ⟨F, hF, ⟨μ', c1, c2, c3⟩, v, ν', d1, d2, d3⟩ | ⟨i', e', hi', hI', ⟨μ', c1, c2, c3, c4⟩, ν', d1, d2, d3, d4⟩
      · refine .inl ⟨F, hF, ⟨μ', ?_, c3⟩, ν', ?_, d3⟩
        · rw [c1, bI_i, vI_eq, vI_eq, h1_read_14_s, xite_t rfl, c2]
        · rw [d1, show f + 2 + c = (f + 1 + c) + 1 by omega, h12_evening_11_s, xite_f (FF_0 d2), xite_t (FF_p d2), d2.2.2]
      · have k20 : μ' 2 0 = μ 2 0 := c4 2 0 (by omega) (by omega)
        have := ih i' (w + 1) (n + 1) c e' μ' ν' (by omega) (by omega) (by omega) c2 c3 (CH_ob k20 hH) (CNm_ob k20 hNm) d2 d3 (RN_F d4 hR) hN hI'
        rw [c1, bI_i, vI_eq, vI_eq, ← nI_succ, d1]
        rcases this with ⟨F, hF, ⟨μ2, p1, p2⟩, ν2, q1, q2⟩ | ⟨e2, hI2, ⟨μ2, p1, p2, p3⟩, ν2, n2, q0, q1, q2, q3, q4⟩
        · exact .inl ⟨F, hF, ⟨μ2, p1, FV_t c4 p2⟩, ν2, q1, FR_t d4 q2⟩
        · exact .inr ⟨e2, hI2, ⟨μ2, p1, p2, FV_t c4 p3⟩, ν2, n2, q0, q1, q2, FR_t d4 q3, q4⟩
    -- a fault at once
    have bad : ∀ w', (0 < w' ∧ w' < 16) → f1_readLine 1 0 μ = xri 0 (fc μ (w' + 16 * PT T i)) → LEo T m i h e μ ν (f1_readLine 1 0 μ) (fun k => k (nI e.1) (ft ν (w' + 16 * PT T i))) := fun w' hw' hc => by
      have hwr := wr_lt hO (w := w') hw'.2 hw'.1
      obtain ⟨z1, z2⟩ := ft_F (μ := ν) hwr.1 hwr.2
      exact .inl ⟨_, hwr, ⟨_, hc, fc_7, FTp_V FTp_c⟩, _, _, fun k => rfl, z1, z2⟩
    have he40 : e.1 ≤ 40 := hI.1
    have hkle := kt_le (T := T) i
    rcases lastw_cases (T := T) (i := i) (a := 12) (n := 4) (by omega) with ⟨w1, w2⟩ | ⟨j, w1, w2, w3⟩
    · have hno : kt T i < 144 ∨ 147 < kt T i := by
        have q0 := w2 0 (by omega); rw [cpx_ev 0 (by omega)] at q0
        have q1 := w2 1 (by omega); rw [cpx_ev 1 (by omega)] at q1
        have q2 := w2 2 (by omega); rw [cpx_ev 2 (by omega)] at q2
        have q3 := w2 3 (by omega); rw [cpx_ev 3 (by omega)] at q3
        omega
      have hwr := wr_lt hO (w := 1) (by omega) (by omega)
      obtain ⟨z1, z2⟩ := ft_F (μ := ν) hwr.1 hwr.2
      refine one _ (bad 1 (by omega) ?_) ?_
      · rw [f1_readLine_e, k1_readLine, CO_4 hC, vI_eq, cp_wrong hC 1 (w := 1) rfl, bI_i, xrb_0]
        rcases hno with q | q
        · rw [xite_t (show nI (kt T i) < 144 from nI_lt (b := 144) q (by omega))]
        · rw [xite_f (show ¬ nI (kt T i) < 144 from nI_nlt (a := kt T i) (b := 144) (by omega) (by omega)), xite_t (show (147 : Int32) < nI (kt T i) from nI_lt (a := 147) q (by omega))]
      · rw [href, ok_wordHere hO (a := 12) (n := 4) (p := 12) (q := 4) rfl rfl (by omega), bI_i, vI_eq, w1, xite_t (by decide), ok_wrong hO 1 (w := 1) rfl, bV_v, fl_takeSign z1, bV_v]
    · rw [cpx_ev j w1] at w3
      have hx : f12_wordHere 12 4 ν = xri (nI j) ν := by rw [ok_wordHere hO (a := 12) (n := 4) (p := 12) (q := 4) rfl rfl (by omega), w2]
      by_cases h40 : e.1 = 40
      · have hwr := wr_lt hO (w := 5) (by omega) (by omega)
        obtain ⟨z1, z2⟩ := ft_F (μ := ν) hwr.1 hwr.2
        refine one _ (bad 5 (by omega) ?_) ?_
        · rw [f1_readLine_e, k1_readLine, CO_4 hC, w3, vI_eq, xite_f (show ¬ nI (144 + j) < 144 from nI_nlt (a := 144 + j) (b := 144) (by omega) (by omega)), xite_f (show ¬ (147 : Int32) < nI (144 + j) from nI_nlt (a := 147) (b := 144 + j) (by omega) (by omega)), hE.1, h40, xite_f (show ¬ nI 40 < (40 : Int32) by decide), cp_wrong hC 5 (w := 5) rfl, bI_i, xrb_0]
        · rw [href, hx, bI_i, vI_eq, xite_f (nI_pos (by omega)), h40, xite_t (show nI 40 = (40 : Int32) from rfl), ok_wrong hO 5 (w := 5) rfl, bV_v, fl_takeSign z1, bV_v]
      · have hlt : e.1 < 40 := by omega
        have n40 : ¬ nI e.1 = (40 : Int32) := fun q => h40 ((nI_eq (b := 40) (show e.1 < 2 ^ 31 by omega) (by omega)).mp q)
        have hK : h12_evening_11 (f + 1 + 2 + c) (nI e.1) ν = KE e j i ν (fun v m => h12_evening_11 (f + 2 + c) v m) := by
          rw [href, hx, bI_i, vI_eq, xite_f (nI_pos (by omega)), xite_f n40, ad_eq hO, mS_eq]; rfl
        have j4 : j = 0 ∨ j = 1 ∨ j = 2 ∨ j = 3 := by omega
        rcases j4 with rfl | rfl | rfl | rfl
        · exact one _ (L_plain hC hE hO hD hI hlt (.inl rfl) w3) hK
        · exact one _ (L_cast hC hH hNm hE hO hD hR hN hI hlt w3) hK
        · exact one _ (L_plain hC hE hO hD hI hlt (.inr rfl) w3) hK
        · exact one _ (L_stop hC hH hNm hE hO hD hR hN hI hlt w3) hK
end
/-- a new evening -/
def nEve (A : AS) (e : EV) : AS := (aH A, aS A, e, aU A, aM A, aQ A, (0, (aT A).2))
theorem AI_nEve {A : AS} {e : EV} (hI : AI A) (hE : EI (aH A) e) : AI (nEve A e) := by
  obtain ⟨a1, a2, a3, a4, a5, a6, a7, a8, a9⟩ := hI
  exact ⟨a1, a2, a3, a4, hE, a6, a7, a8, Nat.zero_le _, fun k hk => absurd hk (Nat.not_lt_zero k)⟩
section
variable {A : AS} {μ ν : XM} {e : EV}
theorem st_1 {a m p : XM} {j n : Nat} (h : m = wI p 1 0 j (va_cpy (aI p 1 1 j) (aI p 1 0 j) 0 0 n)) (hp : ∀ t i, ¬ (t = 1 ∧ i = 0) → p t i = a t i) : (∀ t i, ¬ (t = 1 ∧ i = 0) → m t i = a t i) ∧ (∀ g, g < n → aI m 1 0 j g = aI a 1 1 j g) ∧ (∀ q, q ≠ j → aI m 1 0 q = aI p 1 0 q) ∧ (∀ q, rI m 1 0 q = rI p 1 0 q) := by
  subst h
  refine ⟨fun t i hn => by rw [wI_ne hn]; exact hp t i hn, fun g hg => ?_, fun q hq => ?_, fun q => rI_wI _ _ _ _ _ _ _ _⟩
  · rw [aI_wI]; simp only [and_self, ↓reduceIte]; rw [cpy_at, if_pos hg, aI_ob (hp 1 1 (by omega)) j]
  · rw [aI_wI]; simp only [hq, and_false, ↓reduceIte]
theorem s1_copyFrom (hE : CE 1 e μ) (he : e.1 ≤ 40) : ∃ ν, f1_copyFrom 0 1 μ = xrv ν ∧ CE 0 e ν ∧ ∀ t j, ¬ (t = 1 ∧ j = 0) → ν t j = μ t j := by
  have x40 : xcpok 0 0 40 40 40 = true := xcpk 40 (by omega) (Nat.le_refl _) (Nat.le_refl _)
  have o0 : ∀ t i, ¬ (t = 1 ∧ i = 0) → (sI μ 1 0 0 (rI μ 1 1 0)) t i = μ t i := fun t i hn => sI_ne hn
  have w0 : rI (sI μ 1 0 0 (rI μ 1 1 0)) 1 0 0 = rI μ 1 1 0 := by rw [rI_sI]; simp
  rw [f1_copyFrom_e, k1_copyFrom, mS_eq]
  generalize sI μ 1 0 0 (rI μ 1 1 0) = m1 at o0 w0
  rw [xck_t x40]
  refine mS_step (fun r => ∃ ν, r = xrv ν ∧ CE 0 e ν ∧ ∀ t j, ¬ (t = 1 ∧ j = 0) → ν t j = μ t j) (fun m2 e2 => ?_)
  obtain ⟨o2, w2, n2, r2⟩ := st_1 (a := μ) (n := 40) e2 o0
  clear e2
  rw [xck_t x40]
  refine mS_step (fun r => ∃ ν, r = xrv ν ∧ CE 0 e ν ∧ ∀ t j, ¬ (t = 1 ∧ j = 0) → ν t j = μ t j) (fun m3 e3 => ?_)
  obtain ⟨o3, w3, n3, r3⟩ := st_1 (a := μ) (n := 40) e3 o2
  clear e3
  rw [xck_t x40]
  refine mS_step (fun r => ∃ ν, r = xrv ν ∧ CE 0 e ν ∧ ∀ t j, ¬ (t = 1 ∧ j = 0) → ν t j = μ t j) (fun m4 e4 => ?_)
  obtain ⟨o4, w4, n4, r4⟩ := st_1 (a := μ) (n := 40) e4 o3
  clear e4
  rw [xck_t x40]
  refine mS_step (fun r => ∃ ν, r = xrv ν ∧ CE 0 e ν ∧ ∀ t j, ¬ (t = 1 ∧ j = 0) → ν t j = μ t j) (fun m5 e5 => ?_)
  obtain ⟨o5, w5, n5, r5⟩ := st_1 (a := μ) (n := 40) e5 o4
  clear e5
  refine ⟨m5, rfl, ⟨by rw [r5, r4, r3, r2, w0]; exact hE.1, fun l hl => ?_⟩, o5⟩
  have hl40 : l < 40 := by omega
  rw [n5 1 (by decide), n4 1 (by decide), n3 1 (by decide), w2 l hl40, n5 2 (by decide), n4 2 (by decide), w3 l hl40, n5 3 (by decide), w4 l hl40, w5 l hl40]
  exact hE.2 l hl
theorem c_readE (hT : TI (aT A)) (hC : CT (aT A) μ) {m : Nat} (hm : PT (aT A) m = (aT A).1) (hm1 : m ≤ 1000) : ∃ μ', f1_read 1 0 μ = h1_read_14 20000 1 0 1 (nI 0) μ' ∧ CO (aT A) m 0 μ' ∧ CE 1 (0, fun _ _ => 0) μ' ∧ FV μ μ' := by
  have hC1 : CT (aT A) (sI μ 1 1 0 0) := CT_ob (sI_ne (by omega)) hC
  obtain ⟨ξ, a1, a2, a3⟩ := c_begin hT hC1 hm hm1
  refine ⟨ξ, ?_, a2, ⟨?_, fun l hl => absurd hl (Nat.not_lt_zero l)⟩, FV_t FV_s (FTp_V a3)⟩
  · rw [f1_read_e, k1_read, mS_eq, a1, bV_v, vI_eq, vI_eq]; rfl
  · rw [rI_ob (a3 1 1 (by omega)), rI_sI]; simp; rfl
theorem FV_11 (f : FV μ ν) : Fr11 μ ν := fun t j ht => f t j (by omega) (by omega)
theorem c_eveF {F : Nat} (hF : 0 < F ∧ F < 2 ^ 31) (hR : RC A μ) (he : f1_read 1 0 μ = xri (nI F) ν) (f : FV μ ν) : OKc A (clT A) μ (f11_evening μ) (nI F) := by
  rw [f11_evening_e, k11_evening, he, bI_i, vI_eq, f10_clear_e, k10_clear, mS_eq, bV_v, xite_f (nI_ne0 hF.1 hF.2)]
  have f2 : ∀ t j, ¬ (t = 10 ∧ j = 0) → ¬ (t = 1 ∧ j = 1) → (sI ν 10 0 1 0) t j = μ t j := fun t j h1 h2 => by rw [sI_ne h1]; exact f t j h1 h2
  obtain ⟨r1, r2, r3, r4, r5, r6, r7, r8, r9⟩ := hR
  refine ⟨_, rfl, ⟨CH_ob (f2 2 0 (by omega) (by omega)) r1, LC_ob (f2 4 0 (by omega) (by omega)) r2, CNm_ob (f2 2 0 (by omega) (by omega)) r3, CS_ob (f2 8 0 (by omega) (by omega)) r4, CE_ob (f2 1 0 (by omega) (by omega)) r5, CU_ob (f2 0 0 (by omega) (by omega)) (fun j _ _ => f2 8 j (by omega) (by omega)) r6, CM_ob (fun j _ => f2 5 j (by omega) (by omega)) (fun j _ => f2 8 _ (by omega) (by omega)) (fun j _ => f2 9 _ (by omega) (by omega)) r7, CQ_ob (f2 9 0 (by omega) (by omega)) r8, ⟨by rw [rI_sI]; simp; rfl, fun k hk => absurd hk (Nat.not_lt_zero k)⟩⟩, fun t j ht => f2 t j (by omega) (by omega)⟩
theorem c_eveOk (hR : RC A μ) (he : f1_read 1 0 μ = xri 0 ν) (f : FV μ ν) (hE : CE 1 e ν) (hE2 : e.1 ≤ 40) : OKc A (nEve A e) μ (f11_evening μ) 0 := by
  have g1 : ∀ t j, ¬ (t = 10 ∧ j = 0) → (sI ν 10 0 1 0) t j = ν t j := fun t j hn => sI_ne hn
  obtain ⟨ξ, b1, b2', b3⟩ := s1_copyFrom (CE_ob (g1 1 1 (by omega)) hE) hE2
  rw [f11_evening_e, k11_evening, he, bI_i, vI_eq, f10_clear_e, k10_clear, mS_eq, bV_v, xite_t rfl, b1, bV_v]
  have f2 : ∀ t j, ¬ (t = 10 ∧ j = 0) → t ≠ 1 → ξ t j = μ t j := fun t j h1 h2 => by rw [b3 t j (by omega), g1 t j h1]; exact f t j h1 (by omega)
  have k10 : ξ 10 0 = (sI ν 10 0 1 0) 10 0 := b3 10 0 (by omega)
  obtain ⟨r1, r2, r3, r4, r5, r6, r7, r8, r9⟩ := hR
  refine ⟨_, rfl, ⟨CH_ob (f2 2 0 (by omega) (by omega)) r1, LC_ob (f2 4 0 (by omega) (by omega)) r2, CNm_ob (f2 2 0 (by omega) (by omega)) r3, CS_ob (f2 8 0 (by omega) (by omega)) r4, b2', CU_ob (f2 0 0 (by omega) (by omega)) (fun j _ _ => f2 8 j (by omega) (by omega)) r6, CM_ob (fun j _ => f2 5 j (by omega) (by omega)) (fun j _ => f2 8 _ (by omega) (by omega)) (fun j _ => f2 9 _ (by omega) (by omega)) r7, CQ_ob (f2 9 0 (by omega) (by omega)) r8, ⟨by rw [rI_ob k10, rI_sI]; simp; rfl, fun k hk => absurd hk (Nat.not_lt_zero k)⟩⟩, fun t j ht => f2 t j (by omega) (by omega)⟩
theorem m_119 {n N : Nat} (hn : 4 * N < n) (hN : N ≤ 40) : ∃ ξ, h12_evening_119 n (nI N) 0 μ = xri 0 ξ ∧ (∀ j, j < 4 * N → aI ξ 12 0 21 (1 + j) = aI μ 12 0 21 (165 + j)) ∧ Fq 21 1 165 μ ξ := by
  have e4 : (4 : Int32) * nI N = nI (4 * N) := by rw [show (4 : Int32) = nI 4 from rfl, pk_mul]
  refine lp_rel (F := fun f ν k => h12_evening_119 f (nI N) k ν) (fun k ν => (∀ j, j < k → aI ν 12 0 21 (1 + j) = aI μ 12 0 21 (165 + j)) ∧ Fq 21 1 165 μ ν) (Q := fun x => ∃ ξ, x = xri 0 ξ ∧ (∀ j, j < 4 * N → aI ξ 12 0 21 (1 + j) = aI μ 12 0 21 (165 + j)) ∧ Fq 21 1 165 μ ξ) (e := 4 * N) ?_ ?_ (4 * N) 0 n μ (by omega) (by omega) ⟨fun j hj => absurd hj (Nat.not_lt_zero j), Fq_r⟩
  · intro f ν hI
    show ∃ ξ, h12_evening_119 (f + 1) (nI N) (nI (4 * N)) ν = xri 0 ξ ∧ _
    rw [h12_evening_119_s, e4, xite_f Int32.lt_irrefl]
    exact ⟨ν, rfl, hI.1, hI.2⟩
  · intro f ν k hk hI
    refine ⟨pI ν 12 0 21 (1 + k) (aI μ 12 0 21 (165 + k)), ⟨fun j hj => ?_, Fq_p hI.2 (by omega) (by omega)⟩, ?_⟩
    · rw [aI_pI]
      by_cases e : j = k
      · simp [e]
      · simp only [show ¬ 1 + j = 1 + k by omega, and_false, ↓reduceIte]; exact hI.1 j (by omega)
    · show h12_evening_119 (f + 1) (nI N) (nI k) ν = _
      have e165 : aI ν 12 0 21 (165 + k) = aI μ 12 0 21 (165 + k) := hI.2.2.2.2.2 (165 + k) (.inr (by omega))
      rw [h12_evening_119_s, e4, xite_t (nI_lt hk (by omega)), show (165 : Int32) + nI k = nI (165 + k) from nI_add 165 k, show (1 : Int32) + nI k = nI (1 + k) from nI_add 1 k, xck_t (xin_t (by omega) (by omega)), xck_t (xin_a (show 330 < 2 ^ 31 by omega) (by omega)), nI_clamp (show 165 + k < 2 ^ 31 by omega), nI_clamp (show 1 + k < 2 ^ 31 by omega), e165, mS_eq, vI_eq, ← nI_succ]
theorem RM_E {ξ : XM} (hR : RM A ν) (hT : (aT A).1 = 0) (f : Fq 21 0 165 ν ξ) (hE : RE e ξ) : RM (aH A, aS A, e, aU A, aM A, aQ A, aT A) ξ := by
  obtain ⟨r1, r2, r3, r4, r5, r6, r7, r8, r9, r10⟩ := hR
  have hA : ∀ j, j ≠ 21 → aI ξ 12 0 j = aI ν 12 0 j := f.2.2.2.1
  refine ⟨RH_ar (hA 10 (by decide)) r1, RL_ar (hA 10 (by decide)) (hA 11 (by decide)) (hA 12 (by decide)) r2, ?_, ?_, hE, ?_, ?_, ?_, ?_, ?_⟩
  · show RN (aH A) ξ
    unfold RN at *; rw [f.2.1, hA 16 (by decide), f.2.2.1]; exact r3
  · show RS 0 (aH A) (aS A) ξ
    unfold RS at *; rw [hA 24 (by decide)]; exact r4
  · show RU (aH A) (aU A) ξ
    unfold RU RS at *; rw [f.2.1, hA 24 (by decide)]; exact r6
  · show RMk (aH A) (aM A) ξ
    unfold RMk RS RQ at *; rw [hA 24 (by decide), hA 26 (by decide)]; exact r7
  · show RQ 0 (aQ A) ξ
    unfold RQ at *; rw [hA 24 (by decide)]; exact r8
  · show RT (aT A) ξ
    unfold RT at *; rw [f.2.1, hA 1 (by decide)]; exact r9
  · unfold RW at *; rw [f.2.2.1]; exact r10
theorem m_eveStart (hI : AI A) (hR : RM A μ) : ∃ ν m, f12_evening μ = h12_evening_11 20000 (nI 0) ν ∧ PT (aT A) m = (aT A).1 ∧ m ≤ 1000 ∧ RO (aT A) m 0 ν ∧ FK μ ν := by
  obtain ⟨ν1, m, a1, a2, a3, a4, a5⟩ := m_cutStart hI hR
  refine ⟨ν1, m, ?_, a2, a3, a4, a5⟩
  rw [f12_evening_e, k12_evening, mS_eq]
  show (bV (f12_cutAll (m0 μ)) _) = _
  rw [a1, bV_v, vI_eq]; rfl
theorem m_eveOk {T : TP} {m n : Nat} (hI : AI A) (hR : RM A μ) (hK : FK μ ν) (hD : REd e ν) (hE : EI (aH A) e) (hn : 18000 ≤ n) (he : f12_evening μ = h12_evening_119 n (nI e.1) 0 (pI ν 12 0 21 0 (nI e.1))) : OKm A (nEve A e) μ (f12_evening μ) 0 := by
  have e40 := hE.1
  obtain ⟨ξ, b1, b2', b3⟩ := m_119 (μ := pI ν 12 0 21 0 (nI e.1)) (n := n) (N := e.1) (by omega) (by omega)
  have hRK := RM_K hI hR hK
  have f0 : Fq 21 0 165 ν (pI ν 12 0 21 0 (nI e.1)) := Fq_p Fq_r (by omega) (by omega)
  have f1 : Fq 21 0 165 ν ξ := ⟨Fr12_t f0.1 b3.1, fun j => (b3.2.1 j).trans (f0.2.1 j), fun j => (b3.2.2.1 j).trans (f0.2.2.1 j), fun j hj => (b3.2.2.2.1 j hj).trans (f0.2.2.2.1 j hj), fun k hk => (b3.2.2.2.2 k (by omega)).trans (f0.2.2.2.2 k hk)⟩
  have hRE : RE e ξ := by
    refine ⟨?_, fun l hl => ?_⟩
    · rw [b3.2.2.2.2 0 (by omega), aI_pI]; simp
    · have hp : ∀ j, j < 4 → aI ξ 12 0 21 (1 + 4 * l + j) = aI ν 12 0 21 (165 + 4 * l + j) := fun j hj => by
        have := b2' (4 * l + j) (by omega)
        rw [show 1 + 4 * l + j = 1 + (4 * l + j) by omega, this, aI_pI, show 165 + (4 * l + j) = 165 + 4 * l + j by omega]
        simp only [show ¬ 165 + 4 * l + j = 0 by omega, and_false, ↓reduceIte]
      have h0 := hp 0 (by omega)
      rw [Nat.add_zero, Nat.add_zero] at h0
      rw [h0, hp 1 (by omega), hp 2 (by omega), hp 3 (by omega)]
      exact hD l hl
  refine ⟨ξ, he.trans b1, ?_, Fr12_t hK.1 f1.1⟩
  exact RM_E (A := clT A) hRK rfl f1 hRE
/-- evening, both sides -/
theorem J_evening (hI : AI A) (hR : RC A μ) (hM : RM A ν) : ∃ A' x, AI A' ∧ OKc A A' μ (f11_evening μ) x ∧ OKm A A' ν (f12_evening ν) x := by
  have hT : TI (aT A) := hI.2.2.2.2.2.2.2.2
  obtain ⟨ν6, m, a1, a2, a3, a4, a6⟩ := m_eveStart hI hM
  obtain ⟨μ1, b1, b2', b3, b4⟩ := c_readE hT hR.2.2.2.2.2.2.2.2 a2 a3
  have k20 : μ1 2 0 = μ 2 0 := b4 2 0 (by omega) (by omega)
  have hRN : RN (aH A) ν6 := by
    have := hM.2.2.1
    unfold RN at *
    rw [a6.2.1 18 (by decide) (by decide) (by decide) (by decide) (by decide) (by decide) (by decide) (by decide), a6.2.2.2.1 16 (by decide) (by decide) (by decide) (by decide) (by decide) (by decide) (by decide), a6.2.2.2.2.1 14 (by decide) (by decide)]
    exact this
  have hE0 : EI (aH A) (0, fun _ _ => 0) := ⟨Nat.zero_le _, fun l hl => absurd hl (Nat.not_lt_zero l)⟩
  have hD0 : REd (0, fun _ _ => 0) ν6 := fun l hl => absurd hl (Nat.not_lt_zero l)
  have := V_loop (T := aT A) (m := m) (h := aH A) m 0 0 20000 (19998 - m) (0, fun _ _ => 0) μ1 ν6 (by omega) (by omega) (Nat.le_refl _) b2' b3 (CH_ob k20 hR.1) (CNm_ob k20 hR.2.2.1) a4 hD0 hRN hI.2.2.1 hE0
  rw [show m + 2 + (19998 - m) = 20000 by omega] at this
  rcases this with ⟨F, hF, ⟨μ2, c1, c2⟩, ν2, d1, d2⟩ | ⟨e', hE, ⟨μ2, c1, c2, c3⟩, ν2, n2, d0, d1, d2, d3, d4⟩
  · refine ⟨clT A, nI F, AI_clT hI, c_eveF hF hR (b1.trans c1) (FV_t b4 c2), ν2, a1.trans d1, RM_K hI hM (FK_R a6 d2), (FK_R a6 d2).1⟩
  · exact ⟨nEve A e', 0, AI_nEve hI hE, c_eveOk hR (b1.trans c1) (FV_t b4 c3) c2 hE.1, m_eveOk (T := aT A) (m := m) hI hM (FK_R a6 d3) d2 hE (by omega) (a1.trans d1)⟩
end
