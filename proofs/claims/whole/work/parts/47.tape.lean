/-! THE PURE PART: the component's tape -/
/-- a text of words, a blank behind each -/
def kL (l : Int64) : List Nat → Int64 → Nat → Int32
  | [], _, _ => 3
  | c :: t, v, k => if c = 32 then (if v = l then nI k else kL l t 0 (k + 1)) else kL l t (32 * v + lN (c - 96)) k
theorem kL_word (l : Int64) (t : List Nat) (k : Nat) : ∀ (w : List Nat) (n : Nat), (∀ x, x ∈ w → 1 ≤ x ∧ x ≤ 26) → kL l (w.map (· + 96) ++ 32 :: t) (lN n) k = if lN (w.foldl (fun a x => 32 * a + x) n) = l then nI k else kL l t 0 (k + 1)
  | [], n, _ => by
    show kL l (32 :: t) (lN n) k = _
    rw [kL, if_pos rfl]; rfl
  | x :: w, n, h => by
    have hx := h x List.mem_cons_self
    show kL l ((x + 96) :: (w.map (· + 96) ++ 32 :: t)) (lN n) k = _
    rw [kL, if_neg (by omega), show (32 : Int64) = lN 32 from rfl, lN_mul, lN_add, Nat.add_sub_cancel, kL_word l t k w _ (fun y hy => h y (List.mem_cons_of_mem _ hy))]
    rfl
def wtx : Nat → List Nat
  | 0 => []
  | n + 1 => (cow (26 - n)).map (· + 96) ++ 32 :: wtx n
theorem wtx_27 : xstxt 0 = wtx 27 := by decide +kernel
theorem kL_all {w : List Nat} (hw : WV w) : ∀ n, n ≤ 27 → kL (lN (vb 32 w)) (wtx n) 0 (128 + (27 - n)) = nI (kdf w n)
  | 0, _ => rfl
  | n + 1, hn => by
    have hc := cow_W (show 26 - n < 27 by omega)
    have e0 : (0 : Int64) = lN 0 := rfl
    rw [wtx, e0, kL_word _ _ _ _ _ hc.2.2, kdf]
    have e1 : (lN (List.foldl (fun a x => 32 * a + x) 0 (cow (26 - n))) = lN (vb 32 w)) = (w = cow (26 - n)) := by
      have := vb_eq (b := 32) (by omega) (by omega) hc hw
      rw [show lN (List.foldl (fun a x => 32 * a + x) 0 (cow (26 - n))) = lN (vb 32 (cow (26 - n))) from rfl, this]
      exact propext ⟨fun e => e.symm, fun e => e.symm⟩
    rw [show (128 + (27 - (n + 1))) = 128 + (26 - n) by omega]
    by_cases e : w = cow (26 - n)
    · rw [if_pos (e1 ▸ e), if_pos e]
    · rw [if_neg (e1 ▸ e), if_neg e, show 128 + (26 - n) + 1 = 128 + (27 - n) by omega]
      exact kL_all hw n (by omega)
section
variable {μ : XM}
theorem xst_c : ∀ c, c ∈ xstxt 0 → c = 32 ∨ (97 ≤ c ∧ c ≤ 122) := by decide +kernel
theorem c_kind {w : List Nat} (hw : WV w) : f10_kindOf (lN (vb 32 w)) μ = xri (nI (kdw w)) μ := by
  have hlen : (xstxt 0).length = 144 := by decide +kernel
  have loop : ∀ d n p v k, p + d = 144 → d < n → h10_kindOf_10 n (lN (vb 32 w)) v (nI k) (nI p) μ = xri (kL (lN (vb 32 w)) ((xstxt 0).drop p) v k) μ := by
    intro d
    induction d with
    | zero =>
      intro n p v k hp hn
      obtain ⟨n, rfl⟩ : ∃ m, n = m + 1 := ⟨n - 1, by omega⟩
      obtain rfl : p = 144 := by omega
      rw [h10_kindOf_10_s, fS_length, bI_i, hlen, xite_f Int32.lt_irrefl, List.drop_eq_nil_of_le (by omega), kL]
    | succ d ih =>
      intro n p v k hp hn
      obtain ⟨n, rfl⟩ : ∃ m, n = m + 1 := ⟨n - 1, by omega⟩
      have hp' : p < (xstxt 0).length := by omega
      have hd : (xstxt 0).drop p = (xstxt 0)[p] :: (xstxt 0).drop (p + 1) := List.drop_eq_getElem_cons hp'
      have hc := xst_c _ (List.getElem_mem hp')
      have hg : (xstxt 0).getD p 0 = (xstxt 0)[p] := by rw [List.getD_eq_getElem?_getD, List.getElem?_eq_getElem hp']; rfl
      rw [h10_kindOf_10_s, fS_length, bI_i, hlen, xite_t (nI_lt (by omega) (by omega)), fS_charAt, xck_t (xin_t (by omega) hp'), bI_i, nI_clamp (by omega), hg, vI_eq, hd, kL]
      have q1 : (nI (xstxt 0)[p] = 32) = ((xstxt 0)[p] = 32) := propext (nI_eq (b := 32) (by omega) (by omega))
      rw [q1]
      by_cases e : (xstxt 0)[p] = 32
      · rw [xite_t e, if_pos e]
        by_cases e2 : v = lN (vb 32 w)
        · rw [xite_t ((lg_cmp_eq _ _).mpr e2), if_pos e2]
        · rw [xite_f (fun h => e2 ((lg_cmp_eq _ _).mp h)), if_neg e2, vL_eq, vI_eq, vI_eq, ← nI_succ, ← nI_succ]
          exact ih n (p + 1) 0 (k + 1) (by omega) (by omega)
      · have hc' := hc.resolve_left e
        have e3 : (nI (xstxt 0)[p] - 97) + 1 = nI ((xstxt 0)[p] - 96) := by
          rw [show (97 : Int32) = nI 97 from rfl, pk_sub (by omega), ← nI_succ]; congr 1; omega
        rw [xite_f e, if_neg e, e3, nI_l (by omega), vL_eq, vI_eq, ← nI_succ]
        exact ih n (p + 1) _ k (by omega) (by omega)
  rw [f10_kindOf_e, k10_kindOf, vL_eq, vI_eq, vI_eq]
  have := loop 144 20000 0 0 128 (by omega) (by omega)
  rw [show (0 : Int32) = nI 0 from rfl, show (128 : Int32) = nI 128 from rfl, this, List.drop_zero, wtx_27]
  have := kL_all hw 27 (by omega)
  rw [Nat.sub_self, Nat.add_zero] at this
  rw [this]; rfl
theorem xidx_g : ∀ c, c < 256 → (xidx (nI c) 0 (xstxt 1) < 0) = (isG c = false) := by decide +kernel
/-- the same but for the token -/
def FA (μ ν : XM) : Prop := (∀ t j, ¬ (t = 10 ∧ j = 0) → ν t j = μ t j) ∧ aI ν 10 0 0 = aI μ 10 0 0 ∧ rI ν 10 0 1 = rI μ 10 0 1 ∧ rI ν 10 0 7 = rI μ 10 0 7
theorem FA_r : FA μ μ := ⟨fun _ _ _ => rfl, rfl, rfl, rfl⟩
theorem FA_t {ν ξ : XM} (a : FA μ ν) (b : FA ν ξ) : FA μ ξ := ⟨fun t j h => (b.1 t j h).trans (a.1 t j h), b.2.1.trans a.2.1, b.2.2.1.trans a.2.2.1, b.2.2.2.trans a.2.2.2⟩
theorem FA_s {j : Nat} {x : Int32} (h : j ≠ 1) (h2 : j ≠ 7) : FA μ (sI μ 10 0 j x) := by
  refine ⟨fun t i hn => sI_ne hn, aI_sI _ _ _ _ _ _ _ _, ?_, ?_⟩
  · rw [rI_sI]; simp only [show ¬ (1 = j) from fun e => h e.symm, and_false, ↓reduceIte]
  · rw [rI_sI]; simp only [show ¬ (7 = j) from fun e => h2 e.symm, and_false, ↓reduceIte]
theorem FA_L {j : Nat} {x : Int64} : FA μ (sL μ 10 0 j x) := ⟨fun t i hn => sL_ne hn, aI_sL _ _ _ _ _ _ _ _, rI_sL _ _ _ _ _ _ _ _, rI_sL _ _ _ _ _ _ _ _⟩
theorem CT_A {T : TP} {ν : XM} (a : FA μ ν) (h : CT T μ) : CT T ν := by unfold CT at *; rw [a.2.1, a.2.2.1]; exact h
variable {T : TP}
theorem T_256 (hT : TI T) {p : Nat} (hp : p < T.1) : T.2 p < 256 := by
  have := hT.2 p hp; omega
theorem c_signAt (hT : TI T) (hC : CT T μ) {p : Nat} (hp : p < T.1) : f10_signAt (nI p) μ = xri (nI (T.2 p)) μ := by
  have h1 := hT.1
  have h2 := T_256 hT hp
  have e : ∀ b, b < 256 → vp_nar .char (nI b) = nI b := by decide +kernel
  rw [f10_signAt_e, k10_signAt, hC.1, xite_f (nI_pos (by omega)), xite_t (nI_lt hp (by omega)), xite_t (nI_lt (by omega) (by omega)), xck_t (xin_t (by omega) (by omega)), nI_clamp (by omega), hC.2 p hp, xrc, e _ h2]
  simp [xri]
theorem c_isB {c : Nat} (h : c < 256) : f10_isBlank (nI c) μ = xri (b2 (isB c)) μ := by
  have q1 : (nI c = 32) = (c = 32) := propext (nI_eq (b := 32) (by omega) (by omega))
  have q2 : (nI c = 10) = (c = 10) := propext (nI_eq (b := 10) (by omega) (by omega))
  rw [f10_isBlank_e, k10_isBlank, q1, q2]
  unfold isB
  by_cases h1 : c = 32
  · rw [xite_t h1, decide_eq_true h1]; rfl
  · by_cases h2 : c = 10
    · rw [xite_f h1, xite_t h2, decide_eq_false h1, decide_eq_true h2]; rfl
    · rw [xite_f h1, xite_f h2, decide_eq_false h1, decide_eq_false h2]; rfl
theorem c_isL {c : Nat} (h : c < 256) : f10_isLetter (nI c) μ = xri (b2 (isL c)) μ := by
  have q1 : (nI c < 97) = (c < 97) := propext (nI_ltI (b := 97) (by omega) (by omega))
  have q2 : ((122 : Int32) < nI c) = (122 < c) := propext (nI_ltI (a := 122) (by omega) (by omega))
  rw [f10_isLetter_e, k10_isLetter, q1, q2]
  unfold isL
  by_cases h1 : c < 97
  · rw [xite_t h1, decide_eq_false (by omega)]; rfl
  · by_cases h2 : 122 < c
    · rw [xite_f h1, xite_t h2, decide_eq_true (by omega), decide_eq_false (by omega)]; rfl
    · rw [xite_f h1, xite_f h2, decide_eq_true (by omega), decide_eq_true (by omega)]; rfl
theorem c_isD {c : Nat} (h : c < 256) : f10_isDigit (nI c) μ = xri (b2 (isD c)) μ := by
  have q1 : (nI c < 48) = (c < 48) := propext (nI_ltI (b := 48) (by omega) (by omega))
  have q2 : ((57 : Int32) < nI c) = (57 < c) := propext (nI_ltI (a := 57) (by omega) (by omega))
  rw [f10_isDigit_e, k10_isDigit, q1, q2]
  unfold isD
  by_cases h1 : c < 48
  · rw [xite_t h1, decide_eq_false (by omega)]; rfl
  · by_cases h2 : 57 < c
    · rw [xite_f h1, xite_t h2, decide_eq_true (by omega), decide_eq_false (by omega)]; rfl
    · rw [xite_f h1, xite_f h2, decide_eq_true (by omega), decide_eq_true (by omega)]; rfl
/-- the component's token at q -/
def CK (T : TP) (q : Nat) (μ : XM) : Prop := CT T μ ∧ rI μ 10 0 2 = nI (nq T q) ∧ rI μ 10 0 3 = nI q ∧ rI μ 10 0 4 = nI (kq T q) ∧ (kq T q = 2 → rI μ 10 0 5 = nI (vq T q)) ∧ ((kq T q = 3 ∨ 128 ≤ kq T q) → rL μ 10 0 6 = lN (vb 32 (wq T q)))
theorem adv_skip (hT : TI T) : ∀ d n p μ, p + d = T.1 → d < n → CT T μ → rI μ 10 0 2 = nI p → ∃ ν m, n ≤ m + d + 1 ∧ h10_advance_0 n μ = h10_advance_38 m ν ∧ rI ν 10 0 2 = nI (run (fun k => isB (T.2 k)) d p) ∧ FA μ ν
  | 0, n, p, μ, hp, hn, hC, h2 => by
    obtain ⟨n, rfl⟩ : ∃ m, n = m + 1 := ⟨n - 1, by omega⟩
    have := hT.1
    obtain rfl : p = T.1 := by omega
    rw [h10_advance_0_s, h2, hC.1, xite_f Int32.lt_irrefl]
    exact ⟨μ, n, by omega, rfl, h2, FA_r⟩
  | d + 1, n, p, μ, hp, hn, hC, h2 => by
    obtain ⟨n, rfl⟩ : ∃ m, n = m + 1 := ⟨n - 1, by omega⟩
    have := hT.1
    rw [h10_advance_0_s, h2, hC.1, xite_t (nI_lt (by omega) (by omega)), c_signAt hT hC (by omega), bI_i, c_isB (T_256 hT (by omega)), bI_i, run]
    by_cases hb : isB (T.2 p) = true
    · rw [hb, xite_f (by decide), mS_eq, h2, ← nI_succ, if_pos rfl]
      have fa : FA μ (sI μ 10 0 2 (nI (p + 1))) := FA_s (by decide) (by decide)
      obtain ⟨ν, m, a1, a2, a3, a4⟩ := adv_skip hT d n (p + 1) (sI μ 10 0 2 (nI (p + 1))) (by omega) (by omega) (CT_A fa hC) (by rw [rI_sI]; simp only [and_self, ↓reduceIte])
      exact ⟨ν, m, by omega, a2, a3, FA_t fa a4⟩
    · have hb' : isB (T.2 p) = false := by simpa using hb
      rw [hb', xite_t (by decide), if_neg (by decide)]
      exact ⟨μ, n, by omega, rfl, h2, FA_r⟩
theorem adv_word (hT : TI T) {q : Nat} : ∀ d n j μ, q + j + d = T.1 → d < n → CT T μ → rI μ 10 0 2 = nI (q + j) → rI μ 10 0 3 = nI q → rL μ 10 0 6 = lN (vb 32 (wrd T q j)) → (∀ i, q ≤ i → i < q + j → isL (T.2 i) = true) →
    ∃ ν m, n ≤ m + d + 1 ∧ h10_advance_86 n μ = h10_advance_151 m ν ∧ rI ν 10 0 2 = nI (run (fun k => isL (T.2 k)) d (q + j)) ∧ rI ν 10 0 3 = nI q ∧ rL ν 10 0 6 = lN (vb 32 (wrd T q (run (fun k => isL (T.2 k)) d (q + j) - q))) ∧ FA μ ν
  | 0, n, j, μ, hp, hn, hC, h2, h3, h6, hl => by
    obtain ⟨n, rfl⟩ : ∃ m, n = m + 1 := ⟨n - 1, by omega⟩
    have := hT.1
    rw [h10_advance_86_s, h2, hC.1, xite_f (nI_nlt (by omega) (by omega))]
    exact ⟨μ, n, by omega, rfl, h2, h3, by rw [run, Nat.add_sub_cancel_left]; exact h6, FA_r⟩
  | d + 1, n, j, μ, hp, hn, hC, h2, h3, h6, hl => by
    obtain ⟨n, rfl⟩ : ∃ m, n = m + 1 := ⟨n - 1, by omega⟩
    have := hT.1
    rw [h10_advance_86_s, h2, hC.1, xite_t (nI_lt (by omega) (by omega)), c_signAt hT hC (by omega), bI_i, c_isL (T_256 hT (by omega)), bI_i, run]
    by_cases hb : isL (T.2 (q + j)) = true
    · have hc : 97 ≤ T.2 (q + j) ∧ T.2 (q + j) ≤ 122 := by simpa [isL] using hb
      have e3 : (nI (T.2 (q + j)) - 97) + 1 = nI (T.2 (q + j) - 96) := by
        rw [show (97 : Int32) = nI 97 from rfl, pk_sub (by omega), ← nI_succ]; congr 1; omega
      have e4 : (32 * lN (vb 32 (wrd T q j)) + lN (T.2 (q + j) - 96) : Int64) = lN (vb 32 (wrd T q (j + 1))) := by
        rw [show (32 : Int64) = lN 32 from rfl, lN_mul, lN_add, wrd, vb_snoc]
      have e2 : ∀ x, rI (sL μ 10 0 6 x) 10 0 2 = nI (q + j) := fun x => by rw [rI_sL]; exact h2
      rw [hb, xite_f (by decide), h2, c_signAt hT hC (by omega), bI_i, h6, e3, nI_l (by omega), e4, mS_eq, e2, ← nI_succ, mS_eq, if_pos rfl]
      have fa : FA μ (sI (sL μ 10 0 6 (lN (vb 32 (wrd T q (j + 1))))) 10 0 2 (nI (q + j + 1))) := FA_t FA_L (FA_s (by decide) (by decide))
      obtain ⟨ν, m, a1, a2, a3, a4, a5, a6⟩ := adv_word hT (q := q) d n (j + 1) _ (by omega) (by omega) (CT_A fa hC) (by rw [rI_sI]; simp only [and_self, ↓reduceIte]; rfl) (by rw [rI_sI]; simp only [show ¬ (3 = 2) by decide, and_false, ↓reduceIte]; rw [rI_sL]; exact h3) (by rw [rL_sI, rL_sL]; simp only [and_self, ↓reduceIte]) (fun i i1 i2 => by
        by_cases e : i = q + j
        · rw [e]; exact hb
        · exact hl i i1 (by omega))
      exact ⟨ν, m, by omega, a2, a3, a4, a5, FA_t fa a6⟩
    · have hb' : isL (T.2 (q + j)) = false := by simpa using hb
      rw [hb', xite_t (by decide), if_neg (by decide)]
      exact ⟨μ, n, by omega, rfl, h2, h3, by rw [Nat.add_sub_cancel_left]; exact h6, FA_r⟩
theorem adv_fig (hT : TI T) {q : Nat} : ∀ d n j μ, q + j + d = T.1 → d < n → CT T μ → rI μ 10 0 2 = nI (q + j) → rI μ 10 0 3 = nI q → rI μ 10 0 5 = nI (fig T q j) → 
    ∃ ν m, n ≤ m + d + 1 ∧ h10_advance_195 n μ = h10_advance_256 m ν ∧ rI ν 10 0 2 = nI (run (fun k => isD (T.2 k)) d (q + j)) ∧ rI ν 10 0 3 = nI q ∧ rI ν 10 0 5 = nI (fig T q (run (fun k => isD (T.2 k)) d (q + j) - q)) ∧ FA μ ν
  | 0, n, j, μ, hp, hn, hC, h2, h3, h6 => by
    obtain ⟨n, rfl⟩ : ∃ m, n = m + 1 := ⟨n - 1, by omega⟩
    have := hT.1
    rw [h10_advance_195_s, h2, hC.1, xite_f (nI_nlt (by omega) (by omega))]
    exact ⟨μ, n, by omega, rfl, h2, h3, by rw [run, Nat.add_sub_cancel_left]; exact h6, FA_r⟩
  | d + 1, n, j, μ, hp, hn, hC, h2, h3, h6 => by
    obtain ⟨n, rfl⟩ : ∃ m, n = m + 1 := ⟨n - 1, by omega⟩
    have := hT.1
    rw [h10_advance_195_s, h2, hC.1, xite_t (nI_lt (by omega) (by omega)), c_signAt hT hC (by omega), bI_i, c_isD (T_256 hT (by omega)), bI_i, run]
    by_cases hb : isD (T.2 (q + j)) = true
    · have hc : 48 ≤ T.2 (q + j) ∧ T.2 (q + j) ≤ 57 := by simpa [isD] using hb
      have e4 : (10 * nI (fig T q j) + (nI (T.2 (q + j)) - 48) : Int32) = nI (fig T q (j + 1)) := by
        rw [show (10 : Int32) = nI 10 from rfl, show (48 : Int32) = nI 48 from rfl, pk_mul, pk_sub (by omega), nI_add, fig]
      have e2 : ∀ x, rI (sI μ 10 0 5 x) 10 0 2 = nI (q + j) := fun x => by rw [rI_sI]; simp only [show ¬ (2 = 5) by decide, and_false, ↓reduceIte]; exact h2
      rw [hb, xite_f (by decide), h2, c_signAt hT hC (by omega), bI_i, h6, e4, mS_eq, e2, ← nI_succ, mS_eq, if_pos rfl]
      have fa : FA μ (sI (sI μ 10 0 5 (nI (fig T q (j + 1)))) 10 0 2 (nI (q + j + 1))) := FA_t (FA_s (by decide) (by decide)) (FA_s (by decide) (by decide))
      obtain ⟨ν, m, a1, a2, a3, a4, a5, a6⟩ := adv_fig hT (q := q) d n (j + 1) _ (by omega) (by omega) (CT_A fa hC) (by rw [rI_sI]; simp only [and_self, ↓reduceIte]; rfl) (by simp [rI_sI, h3]) (by simp [rI_sI])
      exact ⟨ν, m, by omega, a2, a3, a4, a5, FA_t fa a6⟩
    · have hb' : isD (T.2 (q + j)) = false := by simpa using hb
      rw [hb', xite_t (by decide), if_neg (by decide)]
      exact ⟨μ, n, by omega, rfl, h2, h3, by rw [Nat.add_sub_cancel_left]; exact h6, FA_r⟩
theorem xir {x y : Int32} {μ ν : XM} (h : μ = ν) : xri x μ = xri x ν := by rw [h]
/-- the component goes on to the next token -/
theorem c_adv (hT : TI T) (hC : CT T μ) {p : Nat} (hp : p ≤ T.1) (h2 : rI μ 10 0 2 = nI p) : ∃ ν, f10_advance μ = xrv ν ∧ CK T (skp T p) ν ∧ FA μ ν := by
  have h1000 := hT.1
  obtain ⟨ν, m, a1, a2, a3, a4⟩ := adv_skip hT (T.1 - p) 20000 p μ (by omega) (by omega) hC h2
  obtain ⟨m, rfl⟩ : ∃ k, m = k + 1 := ⟨m - 1, by omega⟩
  have a3 : rI ν 10 0 2 = nI (skp T p) := a3
  have hs := skp_le hp
  have hCν := CT_A a4 hC
  have f1 : FA ν (sI ν 10 0 3 (nI (skp T p))) := FA_s (by decide) (by decide)
  have hC1 := CT_A f1 hCν
  have b2' : rI (sI ν 10 0 3 (nI (skp T p))) 10 0 2 = nI (skp T p) := by rw [rI_sI]; simp only [show ¬ (2 = 3) by decide, and_false, ↓reduceIte]; exact a3
  have b3 : rI (sI ν 10 0 3 (nI (skp T p))) 10 0 3 = nI (skp T p) := by rw [rI_sI]; simp only [and_self, ↓reduceIte]
  rw [f10_advance_e, k10_advance, a2, h10_advance_38_s, a3, mS_eq, b2']
  generalize hq : skp T p = q at *
  by_cases e : q < T.1
  · have h256 := T_256 hT e
    rw [c_signAt hT hC1 e, bI_i, vI_eq, b2', hC1.1, xite_t (nI_lt e (by omega)), c_isL h256, bI_i]
    by_cases hl : isL (T.2 q) = true
    · -- a word
      have f2 := FA_t f1 (FA_L (μ := sI ν 10 0 3 (nI q)) (j := 6) (x := 0))
      obtain ⟨ξ, k, c1, c2, c3, c4, c5, c6⟩ := adv_word hT (q := q) (T.1 - q) m 0 (sL (sI ν 10 0 3 (nI q)) 10 0 6 0) (by omega) (by omega) (CT_A f2 hCν) (by rw [rI_sL]; exact b2') (by rw [rI_sL]; exact b3) (by rw [rL_sL]; simp only [and_self, ↓reduceIte]; rfl) (fun i i1 i2 => by omega)
      obtain ⟨k, rfl⟩ : ∃ n, k = n + 1 := ⟨k - 1, by omega⟩
      have c3 : rI ξ 10 0 2 = nI (eL T q) := c3
      have c5 : rL ξ 10 0 6 = lN (vb 32 (wq T q)) := c5
      have hg := eL_gt e hl
      have hle := (eL_le (T := T) (p := q) (by omega)).2
      have hnq : nq T q = eL T q := by unfold nq; rw [if_neg (by omega), if_pos hl]
      have hkq : kq T q = if 8 < eL T q - q then 1 else kdw (wq T q) := by unfold kq; rw [if_neg (by omega), if_pos hl]
      have q8 : ((8 : Int32) < nI (eL T q) - nI q) = (8 < eL T q - q) := by
        rw [pk_sub (by omega)]; exact propext (nI_ltI (a := 8) (by omega) (by omega))
      rw [hl, xite_f (by decide), mS_eq, c2, h10_advance_151_s, c3, c4, q8]
      have fz := FA_t a4 (FA_t f2 c6)
      by_cases h8 : 8 < eL T q - q
      · rw [xite_t h8, mS_eq]
        have fy : FA ξ (sI ξ 10 0 4 1) := FA_s (by decide) (by decide)
        rw [if_pos h8] at hkq
        refine ⟨_, rfl, ⟨CT_A (FA_t fz fy) hC, by simp [rI_sI, c3, hnq], by simp [rI_sI, c4], by simp [rI_sI, hkq]; rfl, fun h => by omega, fun h => by omega⟩, FA_t fz fy⟩
      · rw [if_neg h8] at hkq
        have hwW : WV (wq T q) := by
          refine ⟨by unfold wq; rw [wrd_len]; omega, by unfold wq; rw [wrd_len]; omega, wrd_in _ (fun j j1 j2 => run_in _ (T.1 - q) q j j1 (by show j < eL T q; omega))⟩
        rw [xite_f h8, c5, c_kind hwW, bI_i, mS_eq]
        have fy : FA ξ (sI ξ 10 0 4 (nI (kdw (wq T q)))) := FA_s (by decide) (by decide)
        refine ⟨_, rfl, ⟨CT_A (FA_t fz fy) hC, by simp [rI_sI, c3, hnq], by simp [rI_sI, c4], by simp [rI_sI, hkq], fun h => ?_, fun h => by rw [rL_sI]; exact c5⟩, FA_t fz fy⟩
        rw [hkq] at h
        rcases kdw_cases (wq T q) with ⟨h1, _⟩ | ⟨k, _, h1, _⟩ <;> omega
    · have hl' : isL (T.2 q) = false := by simpa using hl
      rw [hl', xite_t (by decide), c_isD h256, bI_i]
      by_cases hd : isD (T.2 q) = true
      · -- a number
        have f2 := FA_t f1 (FA_s (μ := sI ν 10 0 3 (nI q)) (j := 5) (x := 0) (by decide) (by decide))
        obtain ⟨ξ, k, c1, c2, c3, c4, c5, c6⟩ := adv_fig hT (q := q) (T.1 - q) m 0 (sI (sI ν 10 0 3 (nI q)) 10 0 5 0) (by omega) (by omega) (CT_A f2 hCν) (by rw [rI_sI]; simp only [show ¬ (2 = 5) by decide, and_false, ↓reduceIte]; exact b2') (by rw [rI_sI]; simp only [show ¬ (3 = 5) by decide, and_false, ↓reduceIte]; exact b3) (by rw [rI_sI]; simp only [and_self, ↓reduceIte]; rfl)
        obtain ⟨k, rfl⟩ : ∃ n, k = n + 1 := ⟨k - 1, by omega⟩
        have c3 : rI ξ 10 0 2 = nI (eD T q) := c3
        have c5 : rI ξ 10 0 5 = nI (vq T q) := c5
        have hg := eD_gt e hd
        have hle := (eD_le (T := T) (p := q) (by omega)).2
        have hnq : nq T q = eD T q := by unfold nq; rw [if_neg (by omega), if_neg hl, if_pos hd]
        have hkq : kq T q = if 4 < eD T q - q then 1 else 2 := by unfold kq; rw [if_neg (by omega), if_neg hl, if_pos hd]
        have q8 : ((4 : Int32) < nI (eD T q) - nI q) = (4 < eD T q - q) := by
          rw [pk_sub (by omega)]; exact propext (nI_ltI (a := 4) (by omega) (by omega))
        rw [hd, xite_f (by decide), mS_eq, c2, h10_advance_256_s, c3, c4, q8]
        have fz := FA_t a4 (FA_t f2 c6)
        by_cases h8 : 4 < eD T q - q
        · rw [xite_t h8, mS_eq]
          have fy : FA ξ (sI ξ 10 0 4 1) := FA_s (by decide) (by decide)
          rw [if_pos h8] at hkq
          refine ⟨_, rfl, ⟨CT_A (FA_t fz fy) hC, by simp [rI_sI, c3, hnq], by simp [rI_sI, c4], by simp [rI_sI, hkq]; rfl, fun h => by omega, fun h => by omega⟩, FA_t fz fy⟩
        · rw [if_neg h8] at hkq
          rw [xite_f h8, mS_eq]
          have fy : FA ξ (sI ξ 10 0 4 2) := FA_s (by decide) (by decide)
          refine ⟨_, rfl, ⟨CT_A (FA_t fz fy) hC, by simp [rI_sI, c3, hnq], by simp [rI_sI, c4], by simp [rI_sI, hkq]; rfl, fun h => by simp [rI_sI, c5], fun h => by omega⟩, FA_t fz fy⟩
      · -- a sign
        have hd' : isD (T.2 q) = false := by simpa using hd
        have hnq : nq T q = q + 1 := by unfold nq; rw [if_neg (by omega), if_neg hl, if_neg hd]
        have hkq : kq T q = if isG (T.2 q) = true then T.2 q else 1 := by unfold kq; rw [if_neg (by omega), if_neg hl, if_neg hd]
        have e2 : ∀ x, rI (sI (sI ν 10 0 3 (nI q)) 10 0 4 x) 10 0 2 = nI q := fun x => by rw [rI_sI]; simp only [show ¬ (2 = 4) by decide, and_false, ↓reduceIte]; exact b2'
        have fz := FA_t a4 f1
        rw [hd', xite_t (by decide), fS_indexOf, bI_i, xidx_g _ h256]
        by_cases hg : isG (T.2 q) = true
        · have h61 : T.2 q ≤ 61 ∧ 40 ≤ T.2 q := by simp [isG] at hg; omega
          rw [if_pos hg] at hkq
          rw [hg, xite_f (by decide), mS_eq, e2, ← nI_succ, mS_eq]
          have fy : FA (sI ν 10 0 3 (nI q)) (sI (sI (sI ν 10 0 3 (nI q)) 10 0 4 (nI (T.2 q))) 10 0 2 (nI (q + 1))) := FA_t (FA_s (by decide) (by decide)) (FA_s (by decide) (by decide))
          refine ⟨_, rfl, ⟨CT_A (FA_t fz fy) hC, by simp [rI_sI, hnq], by simp [rI_sI], by simp [rI_sI, hkq], fun h => by omega, fun h => by omega⟩, FA_t fz fy⟩
        · have hg' : isG (T.2 q) = false := by simpa using hg
          rw [if_neg hg] at hkq
          rw [hg', xite_t rfl, mS_eq, e2, ← nI_succ, mS_eq]
          have fy : FA (sI ν 10 0 3 (nI q)) (sI (sI (sI ν 10 0 3 (nI q)) 10 0 4 1) 10 0 2 (nI (q + 1))) := FA_t (FA_s (by decide) (by decide)) (FA_s (by decide) (by decide))
          refine ⟨_, rfl, ⟨CT_A (FA_t fz fy) hC, by simp [rI_sI, hnq], by simp [rI_sI], by simp [rI_sI, hkq]; rfl, fun h => by omega, fun h => by omega⟩, FA_t fz fy⟩
  · have eq : q = T.1 := by omega
    have hk : kq T q = 0 := by rw [kq_0]; omega
    have hn : nq T q = q := by unfold nq; rw [if_pos (by omega)]
    have hsg : ∃ x, f10_signAt (nI q) (sI ν 10 0 3 (nI q)) = xri x (sI ν 10 0 3 (nI q)) := by
      refine ⟨32, ?_⟩
      rw [f10_signAt_e, k10_signAt, hC1.1, xite_f (nI_pos (by omega)), xite_f (nI_nlt (by omega) (by omega)), xrc, show vp_nar .char 32 = 32 from by decide +kernel]
      simp [xri]
    obtain ⟨x, hx⟩ := hsg
    rw [hx, bI_i, vI_eq, b2', hC1.1, xite_f (nI_nlt (by omega) (by omega)), mS_eq]
    have fy : FA (sI ν 10 0 3 (nI q)) (sI (sI ν 10 0 3 (nI q)) 10 0 4 0) := FA_s (by decide) (by decide)
    have fz := FA_t (FA_t a4 f1) fy
    exact ⟨_, rfl, ⟨CT_A fz hC, by simp [rI_sI, hn, a3], by simp [rI_sI], by simp [rI_sI, hk]; rfl, fun h => by omega, fun h => by omega⟩, fz⟩
end
