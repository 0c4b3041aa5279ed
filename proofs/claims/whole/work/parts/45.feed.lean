/-! THE PURE PART: feed -/
theorem byte_eq0 (v : Int64) (s : Nat) (hs : s ≤ 56) (a : UInt64) (b : Int64) (ha : a.toBitVec % 64#64 = BitVec.ofNat 64 s) (hb : b.toBitVec.smod 64#64 = BitVec.ofNat 64 s) :
    (Int64.toInt32 ((Int64.toUInt64 v) >>> a).toInt64) &&& 255 = (Int64.toInt32 (v >>> b)) &&& 255 := by
  apply Int32.toBitVec_inj.mp
  have e1 : ((Int64.toUInt64 v) >>> a).toInt64.toBitVec = v.toBitVec >>> (BitVec.ofNat 64 s) := by
    show ((Int64.toUInt64 v) >>> a).toBitVec = _
    rw [UInt64.toBitVec_shiftRight]
    show v.toBitVec >>> (a.toBitVec % 64#64) = _
    rw [ha]
  have e2 : (v >>> b).toBitVec = v.toBitVec.sshiftRight s := by
    rw [Int64.toBitVec_shiftRight]
    show v.toBitVec.sshiftRight' (b.toBitVec.smod 64#64) = _
    rw [hb]
    show v.toBitVec.sshiftRight (BitVec.ofNat 64 s).toNat = _
    rw [BitVec.toNat_ofNat, Nat.mod_eq_of_lt (by omega)]
  rw [Int32.toBitVec_and, Int32.toBitVec_and, Int64.toBitVec_toInt32, Int64.toBitVec_toInt32, e1, e2]
  apply BitVec.eq_of_getLsbD_eq
  intro i hi
  rw [BitVec.getLsbD_and, BitVec.getLsbD_and]
  by_cases h8 : i < 8
  · congr 1
    rw [BitVec.getLsbD_signExtend, BitVec.getLsbD_signExtend]
    have : i < 64 := by omega
    simp only [hi, this, decide_true, Bool.true_and, ↓reduceIte]
    rw [BitVec.ushiftRight_eq', BitVec.getLsbD_ushiftRight, BitVec.getLsbD_sshiftRight, BitVec.toNat_ofNat, Nat.mod_eq_of_lt (by omega)]
    have h1 : s + i < 64 := by omega
    have h2 : ¬ 64 ≤ i := by omega
    simp [h1, h2]
  · have : (255 : Int32).toBitVec.getLsbD i = false := by
      have hi' : i < 32 := hi
      have : ∀ i, i < 32 → ¬ i < 8 → (255 : Int32).toBitVec.getLsbD i = false := by decide
      exact this i hi' h8
    rw [this, Bool.and_false, Bool.and_false]
theorem byte_eq (v : Int64) {x : Int32} (hx : x = 56 ∨ x = 48 ∨ x = 40 ∨ x = 32 ∨ x = 24 ∨ x = 16 ∨ x = 8 ∨ x = 0) :
    (Int64.toInt32 ((Int64.toUInt64 v) >>> ((Int32.toInt64 x).toUInt64 &&& Int64.toUInt64 63)).toInt64) &&& 255 = (Int64.toInt32 (v >>> ((Int32.toInt64 x) &&& 63))) &&& 255 := by
  rcases hx with rfl | rfl | rfl | rfl | rfl | rfl | rfl | rfl
  · exact byte_eq0 v 56 (by omega) _ _ (by decide) (by decide)
  · exact byte_eq0 v 48 (by omega) _ _ (by decide) (by decide)
  · exact byte_eq0 v 40 (by omega) _ _ (by decide) (by decide)
  · exact byte_eq0 v 32 (by omega) _ _ (by decide) (by decide)
  · exact byte_eq0 v 24 (by omega) _ _ (by decide) (by decide)
  · exact byte_eq0 v 16 (by omega) _ _ (by decide) (by decide)
  · exact byte_eq0 v 8 (by omega) _ _ (by decide) (by decide)
  · exact byte_eq0 v 0 (by omega) _ _ (by decide) (by decide)
theorem byte_nat (x : Int32) : ∃ n, n < 256 ∧ x &&& 255 = nI n := by
  have h : (x &&& 255).toBitVec.toNat < 256 := by
    rw [Int32.toBitVec_and, BitVec.toNat_and]
    exact Nat.lt_of_le_of_lt Nat.and_le_right (by decide)
  refine ⟨(x &&& 255).toBitVec.toNat, h, ?_⟩
  apply Int32.toBitVec_inj.mp
  apply BitVec.eq_of_toNat_eq
  show _ = (Int32.ofNat _).toBitVec.toNat
  rw [Int32.toBitVec_ofNat', BitVec.toNat_ofNat, Nat.mod_eq_of_lt (by omega)]
/-- a sign is laid down -/
def sgn (b : Nat) : Bool := decide (b = 10) || (decide (32 ≤ b) && decide (b ≤ 126))
def lay1 (t : TP) (b : Nat) : TP := if sgn b = true ∧ t.1 < 1000 then (t.1 + 1, fun k => if k = t.1 then b else t.2 k) else t
def byt (v : Int64) (x : Int32) : Nat := ((Int64.toInt32 (v >>> ((Int32.toInt64 x) &&& 63))) &&& 255).toNatClampNeg
def lay8 (t : TP) (v : Int64) : TP := lay1 (lay1 (lay1 (lay1 (lay1 (lay1 (lay1 (lay1 t (byt v 56)) (byt v 48)) (byt v 40)) (byt v 32)) (byt v 24)) (byt v 16)) (byt v 8)) (byt v 0)
theorem byt_lt (v : Int64) (x : Int32) : byt v x < 256 ∧ (Int64.toInt32 (v >>> ((Int32.toInt64 x) &&& 63))) &&& 255 = nI (byt v x) := by
  obtain ⟨n, h1, h2⟩ := byte_nat (Int64.toInt32 (v >>> ((Int32.toInt64 x) &&& 63)))
  unfold byt
  rw [h2, nI_clamp (by omega)]
  exact ⟨h1, rfl⟩
theorem TI_lay1 {t : TP} {b : Nat} (hT : TI t) : TI (lay1 t b) := by
  unfold lay1
  by_cases h : sgn b = true ∧ t.1 < 1000
  · rw [if_pos h]
    refine ⟨by show t.1 + 1 ≤ 1000; omega, fun k hk => ?_⟩
    have hk' : k < t.1 + 1 := hk
    show (if k = t.1 then b else t.2 k) = 10 ∨ _
    have hb : b = 10 ∨ (32 ≤ b ∧ b ≤ 126) := by simpa [sgn] using h.1
    by_cases e : k = t.1
    · have : (if k = t.1 then b else t.2 k) = b := if_pos e
      show (if k = t.1 then b else t.2 k) = 10 ∨ (32 ≤ (if k = t.1 then b else t.2 k) ∧ (if k = t.1 then b else t.2 k) ≤ 126)
      rw [this]; exact hb
    · show (if k = t.1 then b else t.2 k) = 10 ∨ (32 ≤ (if k = t.1 then b else t.2 k) ∧ (if k = t.1 then b else t.2 k) ≤ 126)
      rw [if_neg e]; exact hT.2 k (by omega)
  · rw [if_neg h]; exact hT
theorem TI_lay8 {t : TP} {v : Int64} (hT : TI t) : TI (lay8 t v) := TI_lay1 (TI_lay1 (TI_lay1 (TI_lay1 (TI_lay1 (TI_lay1 (TI_lay1 (TI_lay1 hT)))))))
section
variable {A : AS} {μ : XM}
theorem nar_c : ∀ b, b < 256 → vp_nar .char ((Int32.toUInt32 (nI b) % 65536).toInt32) = nI b := by decide +kernel
theorem c_put1 {t : TP} (hT : TI t) (hC : CT t μ) {v : Int64} {x : Int32} (hx : x = 56 ∨ x = 48 ∨ x = 40 ∨ x = 32 ∨ x = 24 ∨ x = 16 ∨ x = 8 ∨ x = 0) {n : Nat} :
    ∃ ν, h10_putEight_3 (n + 2) v x μ = h10_putEight_3 n v (x + (-8)) ν ∧ CT (lay1 t (byt v x)) ν ∧ ∀ t j, ¬ (t = 10 ∧ j = 0) → ν t j = μ t j := by
  have h0 : ¬ x < 0 := by rcases hx with rfl | rfl | rfl | rfl | rfl | rfl | rfl | rfl <;> decide
  have h1000 := hT.1
  obtain ⟨b1, b2⟩ := byt_lt v x
  have e2 : h10_putEight_3 (n + 2) v x μ = h10_putEight_43 (n + 1) v x (nI (byt v x)) (if sgn (byt v x) = true then 1 else 0) μ := by
    rw [show n + 2 = n + 1 + 1 from rfl, h10_putEight_3_s, xite_f h0, byte_eq v hx, b2, vI_eq]
    have q1 : (nI (byt v x) = 10) = (byt v x = 10) := propext (nI_eq (b := 10) (by omega) (by omega))
    have q2 : (nI (byt v x) < 32) = (byt v x < 32) := propext (nI_ltI (b := 32) (by omega) (by omega))
    have q3 : ((126 : Int32) < nI (byt v x)) = (126 < byt v x) := propext (nI_ltI (a := 126) (by omega) (by omega))
    rw [q1, q2, q3]
    unfold sgn
    by_cases c1 : byt v x = 10
    · rw [xite_t c1, if_pos (by simp [c1])]
    · rw [xite_f c1]
      by_cases c2 : byt v x < 32
      · rw [xite_t c2, if_neg (by simp [c1]; omega)]
      · rw [xite_f c2]
        by_cases c3 : 126 < byt v x
        · rw [xite_t c3, if_neg (by simp [c1]; omega)]
        · rw [xite_f c3, if_pos (by simp [c1]; omega)]
  rw [e2, h10_putEight_43_s, vI_eq]
  unfold lay1
  by_cases hs : sgn (byt v x) = true
  · rw [if_pos hs, xite_f (by decide), hC.1]
    by_cases hl : t.1 < 1000
    · have e3 : ∀ y, rI (pI μ 10 0 0 t.1 y) 10 0 1 = nI t.1 := fun y => by rw [rI_pI]; exact hC.1
      rw [xite_t (show nI t.1 < nI 1000 from nI_lt hl (by omega)), xck_t (xin_a (show 1000 < 2 ^ 31 by omega) hl), nI_clamp (show t.1 < 2 ^ 31 by omega), nar_c _ b1, mS_eq, e3, ← nI_succ, mS_eq, vI_eq, if_pos ⟨hs, hl⟩]
      refine ⟨_, rfl, ⟨?_, fun k hk => ?_⟩, fun t' j hn => by rw [sI_ne hn, pI_ne hn]⟩
      · rw [rI_sI]; simp only [and_self, ↓reduceIte]
      · have hk' : k < t.1 + 1 := hk
        show aI _ 10 0 0 k = nI (if k = t.1 then byt v x else t.2 k)
        by_cases e : k = t.1
        · rw [if_pos e, e]; simp [rI_sI, rI_sL, rI_wI, rI_wL, rI_pI, rI_pL, rL_sI, rL_sL, rL_wI, rL_wL, rL_pI, rL_pL, aI_sI, aI_sL, aI_wI, aI_wL, aI_pI, aI_pL, aL_sI, aL_sL, aL_wI, aL_wL, aL_pI, aL_pL]
        · rw [if_neg e]
          have := hC.2 k (by omega)
          simpa [rI_sI, rI_sL, rI_wI, rI_wL, rI_pI, rI_pL, rL_sI, rL_sL, rL_wI, rL_wL, rL_pI, rL_pL, aI_sI, aI_sL, aI_wI, aI_wL, aI_pI, aI_pL, aL_sI, aL_sL, aL_wI, aL_wL, aL_pI, aL_pL, e] using this
    · rw [xite_f (show ¬ nI t.1 < nI 1000 from nI_nlt (by omega) (by omega)), vI_eq, if_neg (fun h => hl h.2)]
      exact ⟨μ, rfl, hC, fun _ _ _ => rfl⟩
  · rw [if_neg hs, xite_t (by decide), vI_eq, if_neg (fun h => hs h.1)]
    exact ⟨μ, rfl, hC, fun _ _ _ => rfl⟩
theorem c_put8 {t : TP} (hT : TI t) (hC : CT t μ) (v : Int64) : ∃ ν, f10_putEight v μ = xrv ν ∧ CT (lay8 t v) ν ∧ ∀ t j, ¬ (t = 10 ∧ j = 0) → ν t j = μ t j := by
  have t1 := TI_lay1 (b := byt v 56) hT
  have t2 := TI_lay1 (b := byt v 48) t1
  have t3 := TI_lay1 (b := byt v 40) t2
  have t4 := TI_lay1 (b := byt v 32) t3
  have t5 := TI_lay1 (b := byt v 24) t4
  have t6 := TI_lay1 (b := byt v 16) t5
  have t7 := TI_lay1 (b := byt v 8) t6
  rw [f10_putEight_e, k10_putEight, vI_eq]
  obtain ⟨μ1, a1, b1, c1⟩ := c_put1 (n := 19998) (v := v) (x := 56) hT hC (by simp)
  obtain ⟨μ2, a2, b2, c2⟩ := c_put1 (n := 19996) (v := v) (x := 48) t1 b1 (by simp)
  obtain ⟨μ3, a3, b3, c3⟩ := c_put1 (n := 19994) (v := v) (x := 40) t2 b2 (by simp)
  obtain ⟨μ4, a4, b4, c4⟩ := c_put1 (n := 19992) (v := v) (x := 32) t3 b3 (by simp)
  obtain ⟨μ5, a5, b5, c5⟩ := c_put1 (n := 19990) (v := v) (x := 24) t4 b4 (by simp)
  obtain ⟨μ6, a6, b6, c6⟩ := c_put1 (n := 19988) (v := v) (x := 16) t5 b5 (by simp)
  obtain ⟨μ7, a7, b7, c7⟩ := c_put1 (n := 19986) (v := v) (x := 8) t6 b6 (by simp)
  obtain ⟨μ8, a8, b8, c8⟩ := c_put1 (n := 19984) (v := v) (x := 0) t7 b7 (by simp)
  refine ⟨μ8, ?_, b8, fun t j h => (c8 t j h).trans ((c7 t j h).trans ((c6 t j h).trans ((c5 t j h).trans ((c4 t j h).trans ((c3 t j h).trans ((c2 t j h).trans (c1 t j h)))))))⟩
  refine a1.trans (a2.trans (a3.trans (a4.trans (a5.trans (a6.trans (a7.trans (a8.trans ?_)))))))
  rw [h10_putEight_3_s, xite_t (by decide)]
def nFeed (A : AS) (a b c : Int64) : AS := (aH A, aS A, aE A, aU A, aM A, aQ A, lay8 (lay8 (lay8 (aT A) a) b) c)
theorem AI_feed (hI : AI A) (a b c : Int64) : AI (nFeed A a b c) := by
  obtain ⟨a1, a2, a3, a4, a5, a6, a7, a8, a9⟩ := hI
  exact ⟨a1, a2, a3, a4, a5, a6, a7, a8, TI_lay8 (TI_lay8 (TI_lay8 a9))⟩
theorem c_feed (hI : AI A) (hR : RC A μ) (a b c : Int64) : OKc A (nFeed A a b c) μ (f11_feed a b c μ) (nI (lay8 (lay8 (lay8 (aT A) a) b) c).1) := by
  have hT : TI (aT A) := hI.2.2.2.2.2.2.2.2
  obtain ⟨r1, r2, r3, r4, r5, r6, r7, r8, r9⟩ := hR
  obtain ⟨μ1, d1, d2, d3⟩ := c_put8 hT r9 a
  obtain ⟨μ2, e1, e2, e3⟩ := c_put8 (TI_lay8 hT) d2 b
  obtain ⟨μ3, g1, g2, g3⟩ := c_put8 (TI_lay8 (TI_lay8 hT)) e2 c
  rw [f11_feed_e, k11_feed, d1, bV_v, e1, bV_v, g1, bV_v, g2.1]
  have ff : ∀ t j, ¬ (t = 10 ∧ j = 0) → μ3 t j = μ t j := fun t j h => (g3 t j h).trans ((e3 t j h).trans (d3 t j h))
  exact ⟨μ3, rfl, ⟨CH_ob (ff 2 0 (by omega)) r1, LC_ob (ff 4 0 (by omega)) r2, CNm_ob (ff 2 0 (by omega)) r3, CS_ob (ff 8 0 (by omega)) r4, CE_ob (ff 1 0 (by omega)) r5, CU_ob (ff 0 0 (by omega)) (fun j _ _ => ff 8 j (by omega)) r6, CM_ob (fun j _ => ff 5 j (by omega)) (fun j _ => ff 8 _ (by omega)) (fun j _ => ff 9 _ (by omega)) r7, CQ_ob (ff 9 0 (by omega)) r8, g2⟩, fun t j h => ff t j (by omega)⟩
/-- what the laying of the reference leaves alone -/
def FT (μ ν : XM) : Prop := Fr12 μ ν ∧ (∀ j, j ≠ 2 → rI ν 12 0 j = rI μ 12 0 j) ∧ (∀ j, j ≠ 1 → aI ν 12 0 j = aI μ 12 0 j) ∧ ∀ j, aL ν 12 0 j = aL μ 12 0 j
theorem FT_r : FT μ μ := ⟨fun _ _ _ => rfl, fun _ _ => rfl, fun _ _ => rfl, fun _ => rfl⟩
theorem FT_t {ν ξ : XM} (a : FT μ ν) (b : FT ν ξ) : FT μ ξ := ⟨Fr12_t a.1 b.1, fun j h => (b.2.1 j h).trans (a.2.1 j h), fun j h => (b.2.2.1 j h).trans (a.2.2.1 j h), fun j => (b.2.2.2 j).trans (a.2.2.2 j)⟩
theorem m_lay1 {t : TP} (hT : TI t) (hC : RT t μ) {v : Int64} {x : Int32} (hx : ¬ x < 0) {n : Nat} :
    ∃ ν m, n ≤ m ∧ h12_lay_3 (n + 2) v x μ = h12_lay_3 m v (x + (-8)) ν ∧ RT (lay1 t (byt v x)) ν ∧ FT μ ν := by
  have h1000 := hT.1
  obtain ⟨b1, b2⟩ := byt_lt v x
  have q1 : (nI (byt v x) = 10) = (byt v x = 10) := propext (nI_eq (b := 10) (by omega) (by omega))
  have q2 : (nI (byt v x) < 32) = (byt v x < 32) := propext (nI_ltI (b := 32) (by omega) (by omega))
  have q3 : ((126 : Int32) < nI (byt v x)) = (126 < byt v x) := propext (nI_ltI (a := 126) (by omega) (by omega))
  have put : sgn (byt v x) = true → ∃ ν m, n ≤ m ∧ h12_lay_38 (n + 1) v x (nI (byt v x)) μ = h12_lay_3 m v (x + (-8)) ν ∧ RT (lay1 t (byt v x)) ν ∧ FT μ ν := by
    intro hs
    rw [h12_lay_38_s, hC.1]
    unfold lay1
    by_cases hl : t.1 < 1000
    · have e3 : ∀ y, rI (pI μ 12 0 1 t.1 y) 12 0 2 = nI t.1 := fun y => by rw [rI_pI]; exact hC.1
      rw [xite_t (show nI t.1 < (1000 : Int32) from nI_lt (b := 1000) hl (by omega)), xck_t (xin_a (show 1000 < 2 ^ 31 by omega) hl), nI_clamp (show t.1 < 2 ^ 31 by omega), mS_eq, e3, ← nI_succ, mS_eq, vI_eq, if_pos ⟨hs, hl⟩]
      refine ⟨_, n, Nat.le_refl _, rfl, ⟨?_, fun k hk => ?_⟩, fun t' j hn => by rw [sI_ne hn, pI_ne hn], fun j hj => ?_, fun j hj => ?_, fun j => ?_⟩
      · rw [rI_sI]; simp only [and_self, ↓reduceIte]
      · have hk' : k < t.1 + 1 := hk
        show aI _ 12 0 1 k = nI (if k = t.1 then byt v x else t.2 k)
        by_cases e : k = t.1
        · rw [if_pos e, e]; simp [rI_sI, rI_sL, rI_wI, rI_wL, rI_pI, rI_pL, rL_sI, rL_sL, rL_wI, rL_wL, rL_pI, rL_pL, aI_sI, aI_sL, aI_wI, aI_wL, aI_pI, aI_pL, aL_sI, aL_sL, aL_wI, aL_wL, aL_pI, aL_pL]
        · rw [if_neg e]
          have := hC.2 k (by omega)
          simpa [rI_sI, rI_sL, rI_wI, rI_wL, rI_pI, rI_pL, rL_sI, rL_sL, rL_wI, rL_wL, rL_pI, rL_pL, aI_sI, aI_sL, aI_wI, aI_wL, aI_pI, aI_pL, aL_sI, aL_sL, aL_wI, aL_wL, aL_pI, aL_pL, e] using this
      · rw [rI_sI]; simp only [hj, and_false, ↓reduceIte]; rw [rI_pI]
      · rw [aI_sI, pI, aI_wI]; simp only [hj, and_false, ↓reduceIte]
      · rw [aL_sI, aL_pI]
    · rw [xite_f (show ¬ nI t.1 < (1000 : Int32) from nI_nlt (b := 1000) (by omega) (by omega)), vI_eq, if_neg (fun h => hl h.2)]
      exact ⟨μ, n, Nat.le_refl _, rfl, hC, FT_r⟩
  have skip : ¬ sgn (byt v x) = true → ∃ ν m, n ≤ m ∧ h12_lay_3 (n + 1) v (x + (-8)) μ = h12_lay_3 m v (x + (-8)) ν ∧ RT (lay1 t (byt v x)) ν ∧ FT μ ν := by
    intro hs
    unfold lay1
    rw [if_neg (fun h => hs h.1)]
    exact ⟨μ, n + 1, by omega, rfl, hC, FT_r⟩
  rw [show n + 2 = n + 1 + 1 from rfl, h12_lay_3_s, xite_f hx, b2, vI_eq, q1, q2, q3]
  by_cases c1 : byt v x = 10
  · rw [xite_t c1]; exact put (by simp [sgn, c1])
  · rw [xite_f c1]
    by_cases c2 : byt v x < 32
    · rw [xite_t c2, vI_eq]; exact skip (by simp [sgn, c1]; omega)
    · rw [xite_f c2]
      by_cases c3 : 126 < byt v x
      · rw [xite_t c3, vI_eq]; exact skip (by simp [sgn, c1]; omega)
      · rw [xite_f c3]; exact put (by simp [sgn, c1]; omega)
theorem m_lay1' {t : TP} (hT : TI t) (hC : RT t μ) {v : Int64} {x : Int32} (hx : ¬ x < 0) {n : Nat} (hn : 2 ≤ n) :
    ∃ ν m, n ≤ m + 2 ∧ h12_lay_3 n v x μ = h12_lay_3 m v (x + (-8)) ν ∧ RT (lay1 t (byt v x)) ν ∧ FT μ ν := by
  obtain ⟨n, rfl⟩ : ∃ k, n = k + 2 := ⟨n - 2, by omega⟩
  obtain ⟨ν, m, h1, h2⟩ := m_lay1 hT hC hx (n := n) (v := v)
  exact ⟨ν, m, by omega, h2⟩
theorem m_lay8 {t : TP} (hT : TI t) (hC : RT t μ) (v : Int64) : ∃ ν, f12_lay v μ = xrv ν ∧ RT (lay8 t v) ν ∧ FT μ ν := by
  have t1 := TI_lay1 (b := byt v 56) hT
  have t2 := TI_lay1 (b := byt v 48) t1
  have t3 := TI_lay1 (b := byt v 40) t2
  have t4 := TI_lay1 (b := byt v 32) t3
  have t5 := TI_lay1 (b := byt v 24) t4
  have t6 := TI_lay1 (b := byt v 16) t5
  have t7 := TI_lay1 (b := byt v 8) t6
  rw [f12_lay_e, k12_lay, vI_eq]
  obtain ⟨μ1, n1, l1, a1, b1, c1⟩ := m_lay1' (n := 20000) (v := v) (x := 56) hT hC (by decide) (by omega)
  obtain ⟨μ2, n2, l2, a2, b2, c2⟩ := m_lay1' (n := n1) (v := v) (x := 48) t1 b1 (by decide) (by omega)
  obtain ⟨μ3, n3, l3, a3, b3, c3⟩ := m_lay1' (n := n2) (v := v) (x := 40) t2 b2 (by decide) (by omega)
  obtain ⟨μ4, n4, l4, a4, b4, c4⟩ := m_lay1' (n := n3) (v := v) (x := 32) t3 b3 (by decide) (by omega)
  obtain ⟨μ5, n5, l5, a5, b5, c5⟩ := m_lay1' (n := n4) (v := v) (x := 24) t4 b4 (by decide) (by omega)
  obtain ⟨μ6, n6, l6, a6, b6, c6⟩ := m_lay1' (n := n5) (v := v) (x := 16) t5 b5 (by decide) (by omega)
  obtain ⟨μ7, n7, l7, a7, b7, c7⟩ := m_lay1' (n := n6) (v := v) (x := 8) t6 b6 (by decide) (by omega)
  obtain ⟨μ8, n8, l8, a8, b8, c8⟩ := m_lay1' (n := n7) (v := v) (x := 0) t7 b7 (by decide) (by omega)
  refine ⟨μ8, ?_, b8, FT_t c1 (FT_t c2 (FT_t c3 (FT_t c4 (FT_t c5 (FT_t c6 (FT_t c7 c8))))))⟩
  refine a1.trans (a2.trans (a3.trans (a4.trans (a5.trans (a6.trans (a7.trans (a8.trans ?_)))))))
  obtain ⟨n, rfl⟩ : ∃ k, n8 = k + 1 := ⟨n8 - 1, by omega⟩
  rw [h12_lay_3_s, xite_t (by decide)]
theorem m_feed (hI : AI A) (hR : RM A μ) (a b c : Int64) : OKm A (nFeed A a b c) μ (f12_feed a b c μ) (nI (lay8 (lay8 (lay8 (aT A) a) b) c).1) := by
  have hT : TI (aT A) := hI.2.2.2.2.2.2.2.2
  have hR1 := m0_R hI hR
  have r9 : RT (aT A) (m0 μ) := hR1.2.2.2.2.2.2.2.2.1
  obtain ⟨μ1, d1, d2, d3⟩ := m_lay8 hT r9 a
  obtain ⟨μ2, e1, e2, e3⟩ := m_lay8 (TI_lay8 hT) d2 b
  obtain ⟨μ3, g1, g2, g3⟩ := m_lay8 (TI_lay8 (TI_lay8 hT)) e2 c
  rw [f12_feed_e, k12_feed, mS_eq]
  change OKm A _ μ (bV (f12_lay a (m0 μ)) _) _
  rw [d1, bV_v, e1, bV_v, g1, bV_v, g2.1]
  have f := FT_t d3 (FT_t e3 g3)
  obtain ⟨q1, q2, q3, q4, q5, q6, q7, q8, q9, q10⟩ := hR1
  refine ⟨μ3, rfl, ⟨RH_ar (f.2.2.1 10 (by decide)) q1, RL_ar (f.2.2.1 10 (by decide)) (f.2.2.1 11 (by decide)) (f.2.2.1 12 (by decide)) q2, ?_, ?_, ?_, ?_, ?_, ?_, g2, ?_⟩, Fr12_t m0_F f.1⟩
  · show RN (aH A) μ3; unfold RN at *; rw [f.2.1 18 (by decide), f.2.2.1 16 (by decide), f.2.2.2 14]; exact q3
  · show RS 0 (aH A) (aS A) μ3; unfold RS at *; rw [f.2.2.1 24 (by decide)]; exact q4
  · show RE (aE A) μ3; unfold RE at *; rw [f.2.2.1 21 (by decide)]; exact q5
  · show RU (aH A) (aU A) μ3; unfold RU RS at *; rw [f.2.1 25 (by decide), f.2.2.1 24 (by decide)]; exact q6
  · show RMk (aH A) (aM A) μ3; unfold RMk RS RQ at *; rw [f.2.2.1 26 (by decide), f.2.2.1 24 (by decide)]; exact q7
  · show RQ 0 (aQ A) μ3; unfold RQ at *; rw [f.2.2.1 24 (by decide)]; exact q8
  · unfold RW at *; rw [f.2.2.2 9]; exact q10
end
