/-! THE PURE PART: names that are told, on both sides -/
def told (h : HS) (w : List Nat) : Prop := ∃ t i, t < 3 ∧ i < cnt h t ∧ hN h t i = w
def NV (h : HS) : Prop := ∀ t i, t < 3 → i < cnt h t → WV (hN h t i)
/-- the reference's row of names: how many in slot c, whose in s, the words in l -/
def RNs (c s l : Nat) (h : HS) (μ : XM) : Prop := ∃ (nm : Nat) (tk ik : Nat → Nat), nm ≤ 14 ∧ rI μ 12 0 c = nI nm ∧ (∀ k, k < nm → tk k < 3 ∧ ik k < cnt h (tk k) ∧ aI μ 12 0 s k = nI (20 * tk k + ik k) ∧ aL μ 12 0 l k = lN (vb 37 (hN h (tk k) (ik k)))) ∧ ∀ t i, t < 3 → i < cnt h t → ∃ k, k < nm ∧ tk k = t ∧ ik k = i
theorem RN_s {h : HS} {μ : XM} : RN h μ = RNs 18 16 14 h μ := rfl
section
variable {μ : XM} {T : TP} {m i : Nat} {h : HS} {w : List Nat}
theorem isN_W (hn : isN T i = true) : kq T (PT T i) = 3 ∨ 128 ≤ kq T (PT T i) := by
  have : kt T i = 3 ∨ 151 ≤ kt T i := by simpa [isN] using hn
  unfold kt at this; omega
theorem isN_V (hn : isN T i = true) : WV (wq T (PT T i)) := (wq_W (isN_W hn)).2.2.2.1
theorem fst_m1 {c : Nat → Bool} {n : Nat} (hn : n < 2 ^ 31) : (fst c (-1) 0 n = -1) ↔ ∀ j, j < n → c j = false := by
  rw [fst_none n 0 (by omega) (by decide)]
  exact ⟨fun a j hj => a j (Nat.zero_le _) (by omega), fun a j _ hj => a j (by omega)⟩
theorem s2_find_gn {n : Nat} {nm : Nat → List Nat} (hn : n ≤ 6) (hN : ∀ g, g < n → aL μ 2 i 5 g = lN (vb 32 (nm g))) (hv : ∀ g, g < n → WV (nm g)) (hw : WV w) : f2_find_gn i (nI n) (lN (vb 32 w)) μ = xri (fst (fun g => decide (nm g = w)) (-1) 0 n) μ := by
  rw [f2_find_gn_e, k2_find_gn, vI_eq]
  refine lp_fst (F := fun f k => h2_find_gn_3 f i (nI n) (lN (vb 32 w)) k μ) (c := fun g => decide (nm g = w)) (G := n) (d0 := -1) (R := fun x => xri x μ) ?_ ?_ n 0 20000 (by omega) (by omega)
  · intro f
    show h2_find_gn_3 (f + 1) i (nI n) (lN (vb 32 w)) (nI n) μ = _
    rw [h2_find_gn_3_s, xite_f Int32.lt_irrefl]
  · intro f k hk
    show h2_find_gn_3 (f + 1) i (nI n) (lN (vb 32 w)) (nI k) μ = _
    rw [h2_find_gn_3_s, xite_t (nI_lt hk (by omega)), xite_t (show nI k < nI 6 from nI_lt (by omega) (by omega)), xck_t (xin_t (by omega) (by omega)), nI_clamp (by omega), hN k hk, propext (lg_cmp_eq _ _), vb_eq (by omega) (by omega) (hv k hk) hw, vI_eq, ← nI_succ]
    by_cases e : nm k = w
    · rw [xite_t e, if_pos (by simpa using e)]
    · rw [xite_f e, if_neg (by simpa using e)]
theorem s2_find_bn {n : Nat} {nm : Nat → List Nat} (hn : n ≤ 5) (hN : ∀ g, g < n → aL μ 2 i 11 g = lN (vb 32 (nm g))) (hv : ∀ g, g < n → WV (nm g)) (hw : WV w) : f2_find_bn i (nI n) (lN (vb 32 w)) μ = xri (fst (fun g => decide (nm g = w)) (-1) 0 n) μ := by
  rw [f2_find_bn_e, k2_find_bn, vI_eq]
  refine lp_fst (F := fun f k => h2_find_bn_3 f i (nI n) (lN (vb 32 w)) k μ) (c := fun g => decide (nm g = w)) (G := n) (d0 := -1) (R := fun x => xri x μ) ?_ ?_ n 0 20000 (by omega) (by omega)
  · intro f
    show h2_find_bn_3 (f + 1) i (nI n) (lN (vb 32 w)) (nI n) μ = _
    rw [h2_find_bn_3_s, xite_f Int32.lt_irrefl]
  · intro f k hk
    show h2_find_bn_3 (f + 1) i (nI n) (lN (vb 32 w)) (nI k) μ = _
    rw [h2_find_bn_3_s, xite_t (nI_lt hk (by omega)), xite_t (show nI k < nI 5 from nI_lt (by omega) (by omega)), xck_t (xin_t (by omega) (by omega)), nI_clamp (by omega), hN k hk, propext (lg_cmp_eq _ _), vb_eq (by omega) (by omega) (hv k hk) hw, vI_eq, ← nI_succ]
    by_cases e : nm k = w
    · rw [xite_t e, if_pos (by simpa using e)]
    · rw [xite_f e, if_neg (by simpa using e)]
theorem s2_find_mn {n : Nat} {nm : Nat → List Nat} (hn : n ≤ 3) (hN : ∀ g, g < n → aL μ 2 i 13 g = lN (vb 32 (nm g))) (hv : ∀ g, g < n → WV (nm g)) (hw : WV w) : f2_find_mn i (nI n) (lN (vb 32 w)) μ = xri (fst (fun g => decide (nm g = w)) (-1) 0 n) μ := by
  rw [f2_find_mn_e, k2_find_mn, vI_eq]
  refine lp_fst (F := fun f k => h2_find_mn_3 f i (nI n) (lN (vb 32 w)) k μ) (c := fun g => decide (nm g = w)) (G := n) (d0 := -1) (R := fun x => xri x μ) ?_ ?_ n 0 20000 (by omega) (by omega)
  · intro f
    show h2_find_mn_3 (f + 1) i (nI n) (lN (vb 32 w)) (nI n) μ = _
    rw [h2_find_mn_3_s, xite_f Int32.lt_irrefl]
  · intro f k hk
    show h2_find_mn_3 (f + 1) i (nI n) (lN (vb 32 w)) (nI k) μ = _
    rw [h2_find_mn_3_s, xite_t (nI_lt hk (by omega)), xite_t (show nI k < nI 3 from nI_lt (by omega) (by omega)), xck_t (xin_t (by omega) (by omega)), nI_clamp (by omega), hN k hk, propext (lg_cmp_eq _ _), vb_eq (by omega) (by omega) (hv k hk) hw, vI_eq, ← nI_succ]
    by_cases e : nm k = w
    · rw [xite_t e, if_pos (by simpa using e)]
    · rw [xite_f e, if_neg (by simpa using e)]
theorem fst_some {c : Nat → Bool} : ∀ n k, k + n < 2 ^ 31 → (fst c (-1) k n = -1 ∧ ∀ j, k ≤ j → j < k + n → c j = false) ∨ ∃ j, k ≤ j ∧ j < k + n ∧ c j = true ∧ fst c (-1) k n = nI j
  | 0, k, _ => .inl ⟨rfl, fun j h1 h2 => by omega⟩
  | n + 1, k, hk => by
    rw [fst]
    by_cases e : c k = true
    · rw [if_pos e]; exact .inr ⟨k, Nat.le_refl _, by omega, e, rfl⟩
    · rw [if_neg e]
      rcases fst_some n (k + 1) (by omega) with ⟨h1, h2⟩ | ⟨j, h1, h2, h3, h4⟩
      · refine .inl ⟨h1, fun j j1 j2 => ?_⟩
        by_cases ej : j = k
        · rw [ej]; simpa using e
        · exact h2 j (by omega) (by omega)
      · exact .inr ⟨j, by omega, by omega, h3, h4⟩
/-- the house i of the component tells a name -/
theorem c_isTold (hH : CH i h μ) (hNm : CNm h i μ) (hv : NV h) (hw : WV w) : (told h w ∧ f2_isTold i (lN (vb 32 w)) μ = xri 1 μ) ∨ (¬ told h w ∧ f2_isTold i (lN (vb 32 w)) μ = xri 0 μ) := by
  have h6 := CH_6 hH
  have h5 := CH_5 hH
  have h3 := CH_3 hH
  rw [f2_isTold_e, k2_isTold, CH_G hH, s2_find_gn h6 hNm.1 (fun g hg => hv 0 g (by omega) hg) hw, bI_i, CH_B hH, s2_find_bn h5 hNm.2.1 (fun g hg => hv 1 g (by omega) hg) hw, bI_i, CH_M hH, s2_find_mn h3 hNm.2.2 (fun g hg => hv 2 g (by omega) hg) hw, bI_i]
  rcases fst_some (c := fun g => decide (hN h 0 g = w)) (hG h) 0 (by omega) with ⟨a1, a2⟩ | ⟨j, a1, a2, a3, a4⟩
  · rw [xite_t a1]
    rcases fst_some (c := fun g => decide (hN h 1 g = w)) (hB h) 0 (by omega) with ⟨b1, b2⟩ | ⟨j, b1, b2, b3, b4⟩
    · rw [xite_t b1]
      rcases fst_some (c := fun g => decide (hN h 2 g = w)) (hM h) 0 (by omega) with ⟨c1, c2⟩ | ⟨j, c1, c2, c3, c4⟩
      · rw [xite_t c1, xrb_0]
        refine .inr ⟨?_, rfl⟩
        rintro ⟨t, k, t1, t2, t3⟩
        have t4 : t = 0 ∨ t = 1 ∨ t = 2 := by omega
        rcases t4 with rfl | rfl | rfl
        · have := a2 k (Nat.zero_le _) (by rw [Nat.zero_add]; exact t2); simp [t3] at this
        · have := b2 k (Nat.zero_le _) (by rw [Nat.zero_add]; exact t2); simp [t3] at this
        · have := c2 k (Nat.zero_le _) (by rw [Nat.zero_add]; exact t2); simp [t3] at this
      · rw [c4, xite_f (by rw [nI_nneg (show j < 2 ^ 31 by omega) (show (-1 : Int32) < 0 by decide)]; exact not_false), xrb_1]
        exact .inl ⟨⟨2, j, by omega, by rw [Nat.zero_add] at c2; exact c2, by simpa using c3⟩, rfl⟩
    · rw [b4, xite_f (by rw [nI_nneg (show j < 2 ^ 31 by omega) (show (-1 : Int32) < 0 by decide)]; exact not_false), xrb_1]
      exact .inl ⟨⟨1, j, by omega, by rw [Nat.zero_add] at b2; exact b2, by simpa using b3⟩, rfl⟩
  · rw [a4, xite_f (by rw [nI_nneg (show j < 2 ^ 31 by omega) (show (-1 : Int32) < 0 by decide)]; exact not_false), xrb_1]
    exact .inl ⟨⟨0, j, by omega, by rw [Nat.zero_add] at a2; exact a2, by simpa using a3⟩, rfl⟩
/-- the reference seeks a name -/
theorem m_nameAt0 (hO : RO T m i μ) (hR : RNs 18 16 14 h μ) (hv : NV h) (hn : isN T i = true) : (¬ told h (wq T (PT T i)) ∧ f12_nameAt 0 μ = xri (-1) μ) ∨ ∃ t k, t < 3 ∧ k < cnt h t ∧ hN h t k = wq T (PT T i) ∧ f12_nameAt 0 μ = xri (nI (20 * t + k)) μ := by
  obtain ⟨nm, tk, ik, n1, n2, n3, n4⟩ := hR
  obtain ⟨x1, x2⟩ := ok_x hO
  have r4 := (hO.1.1 i hO.2.1).2.2.2.1 (isN_W hn)
  have hw := isN_V hn
  have loop : ∀ d f j, j + d = nm → 3 * d + 3 < f → (∀ k, k < j → ¬ hN h (tk k) (ik k) = wq T (PT T i)) → ((∀ k, k < nm → ¬ hN h (tk k) (ik k) = wq T (PT T i)) ∧ h12_nameAt_2 f 0 (nI j) μ = xri (-1) μ) ∨ ∃ k, k < nm ∧ hN h (tk k) (ik k) = wq T (PT T i) ∧ h12_nameAt_2 f 0 (nI j) μ = xri (nI (20 * tk k + ik k)) μ := by
    intro d
    induction d with
    | zero =>
      intro f j hj hf ha
      obtain ⟨f, rfl⟩ : ∃ k, f = k + 2 := ⟨f - 2, by omega⟩
      obtain rfl : j = nm := by omega
      refine .inl ⟨ha, ?_⟩
      rw [h12_nameAt_2_s, xite_t rfl, h12_nameAt_18_s, n2, xite_f Int32.lt_irrefl]
    | succ d ih =>
      intro f j hj hf ha
      obtain ⟨f, rfl⟩ : ∃ k, f = k + 3 := ⟨f - 3, by omega⟩
      have hj' : j < nm := by omega
      obtain ⟨m1, m2, m3, m4⟩ := n3 j hj'
      have x14 : xin (nI j) 14 = true := xin_t (by omega) (by omega)
      rw [h12_nameAt_2_s, xite_t rfl, h12_nameAt_18_s, n2, xite_t (nI_lt hj' (by omega)), xite_t rfl, xck_t x14, h12_nameAt_40_s, xck_t x1, x2, nI_clamp (by omega), m4, r4, propext (lg_cmp_eq _ _), vb_eq (by omega) (by omega) (hv _ _ m1 m2) hw, xite_t rfl, xck_t x14, m3, vI_eq, ← nI_succ]
      by_cases e : hN h (tk j) (ik j) = wq T (PT T i)
      · rw [xite_t e]
        exact .inr ⟨j, hj', e, rfl⟩
      · rw [xite_f e]
        refine ih f (j + 1) (by omega) (by omega) (fun k hk => ?_)
        by_cases ek : k = j
        · rw [ek]; exact e
        · exact ha k (by omega)
  rw [f12_nameAt_e, k12_nameAt, vI_eq]
  rcases loop nm 20000 0 (by omega) (by omega) (fun k hk => by omega) with ⟨a1, a2⟩ | ⟨k, a1, a2, a3⟩
  · refine .inl ⟨?_, a2⟩
    rintro ⟨t, j, t1, t2, t3⟩
    obtain ⟨k, k1, rfl, rfl⟩ := n4 t j t1 t2
    exact a1 k k1 t3
  · obtain ⟨m1, m2, m3, m4⟩ := n3 k a1
    exact .inr ⟨tk k, ik k, m1, m2, a2, a3⟩
/-- the reference seeks a name -/
theorem m_nameAt1 (hO : RO T m i μ) (hR : RNs 19 17 15 h μ) (hv : NV h) (hn : isN T i = true) : (¬ told h (wq T (PT T i)) ∧ f12_nameAt 1 μ = xri (-1) μ) ∨ ∃ t k, t < 3 ∧ k < cnt h t ∧ hN h t k = wq T (PT T i) ∧ f12_nameAt 1 μ = xri (nI (20 * t + k)) μ := by
  obtain ⟨nm, tk, ik, n1, n2, n3, n4⟩ := hR
  obtain ⟨x1, x2⟩ := ok_x hO
  have r4 := (hO.1.1 i hO.2.1).2.2.2.1 (isN_W hn)
  have hw := isN_V hn
  have loop : ∀ d f j, j + d = nm → 3 * d + 3 < f → (∀ k, k < j → ¬ hN h (tk k) (ik k) = wq T (PT T i)) → ((∀ k, k < nm → ¬ hN h (tk k) (ik k) = wq T (PT T i)) ∧ h12_nameAt_2 f 1 (nI j) μ = xri (-1) μ) ∨ ∃ k, k < nm ∧ hN h (tk k) (ik k) = wq T (PT T i) ∧ h12_nameAt_2 f 1 (nI j) μ = xri (nI (20 * tk k + ik k)) μ := by
    intro d
    induction d with
    | zero =>
      intro f j hj hf ha
      obtain ⟨f, rfl⟩ : ∃ k, f = k + 2 := ⟨f - 2, by omega⟩
      obtain rfl : j = nm := by omega
      refine .inl ⟨ha, ?_⟩
      rw [h12_nameAt_2_s, xite_f (show ¬ (1 : Int32) = 0 by decide), h12_nameAt_18_s, n2, xite_f Int32.lt_irrefl]
    | succ d ih =>
      intro f j hj hf ha
      obtain ⟨f, rfl⟩ : ∃ k, f = k + 3 := ⟨f - 3, by omega⟩
      have hj' : j < nm := by omega
      obtain ⟨m1, m2, m3, m4⟩ := n3 j hj'
      have x14 : xin (nI j) 14 = true := xin_t (by omega) (by omega)
      rw [h12_nameAt_2_s, xite_f (show ¬ (1 : Int32) = 0 by decide), h12_nameAt_18_s, n2, xite_t (nI_lt hj' (by omega)), xite_f (show ¬ (1 : Int32) = 0 by decide), xck_t x14, h12_nameAt_40_s, xck_t x1, x2, nI_clamp (by omega), m4, r4, propext (lg_cmp_eq _ _), vb_eq (by omega) (by omega) (hv _ _ m1 m2) hw, xite_f (show ¬ (1 : Int32) = 0 by decide), xck_t x14, m3, vI_eq, ← nI_succ]
      by_cases e : hN h (tk j) (ik j) = wq T (PT T i)
      · rw [xite_t e]
        exact .inr ⟨j, hj', e, rfl⟩
      · rw [xite_f e]
        refine ih f (j + 1) (by omega) (by omega) (fun k hk => ?_)
        by_cases ek : k = j
        · rw [ek]; exact e
        · exact ha k (by omega)
  rw [f12_nameAt_e, k12_nameAt, vI_eq]
  rcases loop nm 20000 0 (by omega) (by omega) (fun k hk => by omega) with ⟨a1, a2⟩ | ⟨k, a1, a2, a3⟩
  · refine .inl ⟨?_, a2⟩
    rintro ⟨t, j, t1, t2, t3⟩
    obtain ⟨k, k1, rfl, rfl⟩ := n4 t j t1 t2
    exact a1 k k1 t3
  · obtain ⟨m1, m2, m3, m4⟩ := n3 k a1
    exact .inr ⟨tk k, ik k, m1, m2, a2, a3⟩
end
