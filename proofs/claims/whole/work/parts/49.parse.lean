/-! THE PURE PART: the reference's questions to the tape -/
/-- what the reading of the reference leaves alone -/
def FR (μ ν : XM) : Prop := Fr12 μ ν ∧ (∀ j, j ≠ 7 → j ≠ 8 → j ≠ 13 → j ≠ 19 → j ≠ 20 → rI ν 12 0 j = rI μ 12 0 j) ∧ (∀ j, j ≠ 10 → j ≠ 11 → j ≠ 12 → j ≠ 17 → j ≠ 21 → aI ν 12 0 j = aI μ 12 0 j) ∧ (∀ j, j ≠ 15 → aL ν 12 0 j = aL μ 12 0 j) ∧
  (∀ k, k < 60 → aI ν 12 0 10 k = aI μ 12 0 10 k) ∧ (∀ k, k < 1100 → aI ν 12 0 11 k = aI μ 12 0 11 k ∧ aI ν 12 0 12 k = aI μ 12 0 12 k) ∧ (∀ k, k < 165 → aI ν 12 0 21 k = aI μ 12 0 21 k)
/-- the tokens and the words -/
def TKs (T : TP) (m : Nat) (μ : XM) : Prop := (∀ k, k ≤ m → RK T (PT T k) k μ) ∧ RW μ
/-- at token i, no fault -/
def RO (T : TP) (m i : Nat) (μ : XM) : Prop := TKs T m μ ∧ i ≤ m ∧ rI μ 12 0 7 = nI i ∧ rI μ 12 0 8 = 0 ∧ m ≤ 1000 ∧ T.1 ≤ 1000
def kt (T : TP) (i : Nat) : Nat := kq T (PT T i)
section
variable {μ : XM}
theorem FR_r : FR μ μ := ⟨fun _ _ _ => rfl, fun _ _ _ _ _ _ => rfl, fun _ _ _ _ _ _ => rfl, fun _ _ => rfl, fun _ _ => rfl, fun _ _ => ⟨rfl, rfl⟩, fun _ _ => rfl⟩
theorem FR_t {ν ξ : XM} (a : FR μ ν) (b : FR ν ξ) : FR μ ξ := ⟨Fr12_t a.1 b.1, fun j h1 h2 h3 h4 h5 => (b.2.1 j h1 h2 h3 h4 h5).trans (a.2.1 j h1 h2 h3 h4 h5), fun j h1 h2 h3 h4 h5 => (b.2.2.1 j h1 h2 h3 h4 h5).trans (a.2.2.1 j h1 h2 h3 h4 h5), fun j h => (b.2.2.2.1 j h).trans (a.2.2.2.1 j h), fun k h => (b.2.2.2.2.1 k h).trans (a.2.2.2.2.1 k h), fun k h => ⟨(b.2.2.2.2.2.1 k h).1.trans (a.2.2.2.2.2.1 k h).1, (b.2.2.2.2.2.1 k h).2.trans (a.2.2.2.2.2.1 k h).2⟩, fun k h => (b.2.2.2.2.2.2 k h).trans (a.2.2.2.2.2.2 k h)⟩
theorem FR_s {j : Nat} {x : Int32} (h : j = 7 ∨ j = 8 ∨ j = 13 ∨ j = 19 ∨ j = 20) : FR μ (sI μ 12 0 j x) := by
  refine ⟨fun t i hn => sI_ne hn, fun k h1 h2 h3 h4 h5 => ?_, fun k _ _ _ _ _ => aI_sI _ _ _ _ _ _ _ _, fun k _ => aL_sI _ _ _ _ _ _ _ _, fun k _ => by rw [aI_sI], fun k _ => by rw [aI_sI, aI_sI]; exact ⟨rfl, rfl⟩, fun k _ => by rw [aI_sI]⟩
  have : ¬ k = j := by omega
  rw [rI_sI]; simp only [this, and_false, ↓reduceIte]
theorem FR_p {o q : Nat} {x : Int32} (h : (o = 10 ∧ 60 ≤ q) ∨ ((o = 11 ∨ o = 12) ∧ 1100 ≤ q) ∨ o = 17 ∨ (o = 21 ∧ 165 ≤ q)) : FR μ (pI μ 12 0 o q x) := by
  have key : ∀ o' k, ¬ (o' = o ∧ k = q) → aI (pI μ 12 0 o q x) 12 0 o' k = aI μ 12 0 o' k := fun o' k hne => by
    rw [aI_pI]; rw [if_neg (fun e => hne ⟨e.2.2.1, e.2.2.2⟩)]
  refine ⟨fun t i hn => pI_ne hn, fun k _ _ _ _ _ => rI_pI _ _ _ _ _ _ _ _ _, fun j h1 h2 h3 h4 h5 => ?_, fun k _ => aL_pI _ _ _ _ _ _ _ _ _, fun k hk => key _ _ (by omega), fun k hk => ⟨key _ _ (by omega), key _ _ (by omega)⟩, fun k hk => key _ _ (by omega)⟩
  have : ¬ j = o := by omega
  rw [pI, aI_wI]; simp only [this, and_false, ↓reduceIte]
theorem FR_l {q : Nat} {x : Int64} : FR μ (pL μ 12 0 15 q x) := by
  refine ⟨fun t i hn => pL_ne hn, fun k _ _ _ _ _ => rI_pL _ _ _ _ _ _ _ _ _, fun j _ _ _ _ _ => aI_pL _ _ _ _ _ _ _ _ _, fun k h => ?_, fun k _ => by rw [aI_pL], fun k _ => by rw [aI_pL, aI_pL]; exact ⟨rfl, rfl⟩, fun k _ => by rw [aI_pL]⟩
  rw [pL, aL_wL]; simp only [h, and_false, ↓reduceIte]
variable {T : TP} {m i : Nat}
theorem TK_F {ν : XM} (a : FR μ ν) (h : TKs T m μ) : TKs T m ν := by
  refine ⟨fun k hk => ?_, ?_⟩
  · exact RK_C (by rw [a.2.2.1 4 (by decide) (by decide) (by decide) (by decide) (by decide)]) (by rw [a.2.2.1 5 (by decide) (by decide) (by decide) (by decide) (by decide)]) (by rw [a.2.2.2.1 6 (by decide)]) (h.1 k hk)
  · have := h.2
    unfold RW at *; rw [a.2.2.2.1 9 (by decide)]; exact this
theorem sI_same {t i j : Nat} {x : Int32} (h : x = rI μ t i j) : sI μ t i j x = μ := by
  subst h
  funext t' i'
  unfold sI xset
  by_cases e : t' = t ∧ i' = i
  · rw [if_pos e]
    obtain ⟨rfl, rfl⟩ := e
    have : va_up (μ t' i').1 j (rI μ t' i' j) = (μ t' i').1 := by
      funext k
      unfold va_up rI
      by_cases ek : k = j
      · simp [ek]
      · simp [ek]
    rw [this]
  · rw [if_neg e]
theorem sI_add0 {t i j : Nat} : sI μ t i j (rI μ t i j + 0) = μ := sI_same (by simp)
/-- the next token -/
def ad (μ : XM) (i : Nat) : XM := sI μ 12 0 7 (nI (i + 1))
theorem RO_ad (h : RO T m i μ) (hi : i < m) : RO T m (i + 1) (ad μ i) ∧ FR μ (ad μ i) := by
  have f : FR μ (ad μ i) := FR_s (.inl rfl)
  refine ⟨⟨TK_F f h.1, by omega, ?_, ?_, h.2.2.2.2⟩, f⟩
  · unfold ad; rw [rI_sI]; simp only [and_self, ↓reduceIte]
  · unfold ad; rw [rI_sI]; simp only [show ¬ (8 = 7) by decide, and_false, ↓reduceIte]; exact h.2.2.2.1
theorem RO_F {ν : XM} (h : RO T m i μ) (a : FR μ ν) (h7 : rI ν 12 0 7 = rI μ 12 0 7) (h8 : rI ν 12 0 8 = rI μ 12 0 8) : RO T m i ν := ⟨TK_F a h.1, h.2.1, h7.trans h.2.2.1, h8.trans h.2.2.2.1, h.2.2.2.2⟩
/-- a fault -/
def FF (F : Nat) (μ : XM) : Prop := 0 < F ∧ F < 2 ^ 31 ∧ rI μ 12 0 8 = nI F
def ft (μ : XM) (F : Nat) : XM := sI μ 12 0 8 (nI F)
theorem ft_F {F : Nat} (h : 0 < F) (h2 : F < 2 ^ 31) : FF F (ft μ F) ∧ FR μ (ft μ F) := by
  refine ⟨⟨h, h2, ?_⟩, FR_s (.inr (.inl rfl))⟩
  unfold ft; rw [rI_sI]; simp only [and_self, ↓reduceIte]
theorem FF_0 {F : Nat} (h : FF F μ) : ¬ rI μ 12 0 8 = 0 := by rw [h.2.2]; exact nI_ne0 h.1 h.2.1
theorem FF_p {F : Nat} (h : FF F μ) : (0 : Int32) < rI μ 12 0 8 := by rw [h.2.2]; exact nI_lt (a := 0) h.1 h.2.1
theorem RO_p (h : RO T m i μ) : ¬ (0 : Int32) < rI μ 12 0 8 := by rw [h.2.2.2.1]; decide
-- with a fault
theorem fl_isSign {F : Nat} (hF : FF F μ) (p : Int32) : f12_isSign p μ = xri 0 μ := by rw [f12_isSign_e, k12_isSign, xite_f (FF_0 hF), xrb_0]
theorem fl_isWord {F : Nat} (hF : FF F μ) (p : Int32) : f12_isWord p μ = xri 0 μ := by rw [f12_isWord_e, k12_isWord, xite_f (FF_0 hF), xrb_0]
theorem fl_wrong {F : Nat} (hF : FF F μ) (p : Int32) : f12_wrong p μ = xrv μ := by rw [f12_wrong_e, k12_wrong, xite_f (FF_0 hF)]
theorem fl_takeSign {F : Nat} (hF : FF F μ) (p : Int32) : f12_takeSign p μ = xrv μ := by rw [f12_takeSign_e, k12_takeSign, fl_isSign hF, bI_i, xite_t rfl, fl_wrong hF, bV_v]
theorem fl_hasSign {F : Nat} (hF : FF F μ) (p : Int32) : f12_hasSign p μ = xri 0 μ := by rw [f12_hasSign_e, k12_hasSign, fl_isSign hF, bI_i, vI_eq, xite_t rfl, sI_add0, mS_eq, xrb_0]
theorem fl_hasWord {F : Nat} (hF : FF F μ) (p : Int32) : f12_hasWord p μ = xri 0 μ := by rw [f12_hasWord_e, k12_hasWord, fl_isWord hF, bI_i, vI_eq, xite_t rfl, sI_add0, mS_eq, xrb_0]
theorem fl_takeWord {F : Nat} (hF : FF F μ) (p : Int32) : f12_takeWord p μ = xrv μ := by rw [f12_takeWord_e, k12_takeWord, fl_hasWord hF, bI_i, xite_t rfl, fl_wrong hF, bV_v]
theorem fl_takeNumber {F : Nat} (hF : FF F μ) (p q : Int32) : f12_takeNumber p q μ = xri 0 μ := by
  rw [f12_takeNumber_e, k12_takeNumber, xite_f (FF_0 hF), h12_takeNumber_28_s, xite_f (FF_0 hF), h12_takeNumber_70_s, xite_t (FF_p hF)]
theorem fl_takeAfter {F : Nat} (hF : FF F μ) (p q r : Int32) : f12_takeAfter p q r μ = xri 0 μ := by
  rw [f12_takeAfter_e, k12_takeAfter, fl_takeWord hF, bV_v, fl_takeNumber hF, bI_i]
theorem fl_takeOne {F : Nat} (hF : FF F μ) (p q : Int32) : f12_takeOne p q μ = xri 0 μ := by
  rw [f12_takeOne_e, k12_takeOne, xite_t (FF_p hF), vI_eq, xite_f (FF_0 hF), h12_takeOne_34_s, xite_t (FF_p hF), sI_add0, mS_eq, xite_t (FF_p hF)]
theorem fl_isName {F : Nat} (hF : FF F μ) : f12_isName μ = xri 0 μ := by rw [f12_isName_e, k12_isName, xite_f (FF_0 hF), xrb_0]
theorem fl_takeTold {F : Nat} (hF : FF F μ) (p : Int32) : f12_takeTold p μ = xri 0 μ := by
  rw [f12_takeTold_e, k12_takeTold, xite_f (FF_0 hF), xite_t (FF_p hF), h12_takeTold_37_s, vI_eq, xite_f (FF_0 hF), h12_takeTold_59_s, xite_t (FF_p hF), sI_add0, mS_eq, xite_t (FF_p hF)]
theorem fl_name61 {F : Nat} (hF : FF F μ) (n : Nat) (p q r : Int32) : h12_readName_61 (n + 1) p q r μ = xrv μ := by rw [h12_readName_61_s, xite_f (FF_0 hF)]
-- without
theorem ok_x (hO : RO T m i μ) : xin (rI μ 12 0 7) 1002 = true ∧ (rI μ 12 0 7).toNatClampNeg = i := by
  have := hO.2.1
  have := hO.2.2.2.2.1
  rw [hO.2.2.1]; exact ⟨xin_t (by omega) (by omega), nI_clamp (by omega)⟩
theorem ok_wrong (hO : RO T m i μ) {w : Nat} (p : Int32) (hp : p = nI w) : f12_wrong p μ = xrv (ft μ (w + 16 * PT T i)) := by
  obtain ⟨x1, x2⟩ := ok_x hO
  rw [f12_wrong_e, k12_wrong, xite_t hO.2.2.2.1, xck_t x1, x2, (hO.1.1 i hO.2.1).2.1, hp, show (16 : Int32) = nI 16 from rfl, pk_mul, nI_add, mS_eq]; rfl
theorem ok_isSign (hO : RO T m i μ) {c : Nat} {p : Int32} (hp : p = nI c) (hc : 40 ≤ c ∧ c ≤ 61) : f12_isSign p μ = xri (b2 (decide (kt T i = c))) μ := by
  obtain ⟨x1, x2⟩ := ok_x hO
  obtain ⟨r1, r2, r3, r4, r5⟩ := hO.1.1 i hO.2.1
  have hs : ∀ k, sqk k < 5 := by intro k; unfold sqk; split <;> (try split) <;> (try split) <;> (try split) <;> omega
  have e3 : (nI (sqk (kq T (PT T i))) = 3) = (sqk (kt T i) = 3) := propext (nI_eq (b := 3) (by have := hs (kq T (PT T i)); omega) (by omega))
  rw [f12_isSign_e, k12_isSign, xite_t hO.2.2.2.1, xck_t x1, x2, r1, e3, hp, nI_l (by omega)]
  by_cases h3 : sqk (kt T i) = 3
  · have h61 : kt T i < 128 := by
      unfold sqk at h3
      split at h3
      · cases h3
      · split at h3
        · cases h3
        · split at h3
          · cases h3
          · split at h3
            · cases h3
            · omega
    have e4 : (lg_cmp (lN (kq T (PT T i))) (lN c) = 0) = (kt T i = c) := by
      rw [propext (lg_cmp_eq _ _)]; exact propext (pk_lEQ (by unfold kt at h61; omega) (by omega))
    rw [xite_t h3, xck_t x1, r5 h3, e4]
    by_cases e : kt T i = c
    · rw [xite_t e, decide_eq_true e]; rfl
    · rw [xite_f e, decide_eq_false e]; rfl
  · have : ¬ kt T i = c := by
      intro e; apply h3; rw [e]; unfold sqk
      rw [if_neg (by omega), if_neg (by omega), if_neg (by omega), if_neg (by omega)]
    rw [xite_f h3, decide_eq_false this]; rfl
theorem ok_isWord (hO : RO T m i μ) {w : Nat} {p : Int32} (hp : p = nI w) (hw : w < 27) : f12_isWord p μ = xri (b2 (decide (kt T i = 128 + cpx w))) μ := by
  obtain ⟨x1, x2⟩ := ok_x hO
  obtain ⟨r1, r2, r3, r4, r5⟩ := hO.1.1 i hO.2.1
  have hs : ∀ k, sqk k < 5 := by intro k; unfold sqk; split <;> (try split) <;> (try split) <;> (try split) <;> omega
  have e3 : (nI (sqk (kq T (PT T i))) = 1) = (sqk (kt T i) = 1) := propext (nI_eq (b := 1) (by have := hs (kq T (PT T i)); omega) (by omega))
  have hcx := cpx_lt w
  rw [f12_isWord_e, k12_isWord, xite_t hO.2.2.2.1, xck_t x1, x2, r1, e3, hp]
  by_cases h3 : sqk (kt T i) = 1
  · have hk : kq T (PT T i) = 3 ∨ 128 ≤ kq T (PT T i) := by
      unfold sqk kt at h3
      split at h3
      · cases h3
      · split at h3
        · cases h3
        · split at h3
          · cases h3
          · split at h3
            · assumption
            · cases h3
    obtain ⟨w1, w2, w3, w4, w5⟩ := wq_W hk
    have e4 : (lg_cmp (lN (vb 37 (wq T (PT T i)))) (lN (vb 37 (wd w))) = 0) = (kt T i = 128 + cpx w) := by
      rw [propext (lg_cmp_eq _ _), wd_cow w hw, vb_eq (by omega) (by omega) w4 (cow_W hcx)]
      unfold kt; rw [w5, kdw_eq hcx]
    rw [xite_t h3, xck_t x1, xck_t (xin_t (by omega) hw), r4 hk, nI_clamp (show w < 2 ^ 31 by omega), hO.1.2 w hw, e4]
    by_cases e : kt T i = 128 + cpx w
    · rw [xite_t e, decide_eq_true e]; rfl
    · rw [xite_f e, decide_eq_false e]; rfl
  · have : ¬ kt T i = 128 + cpx w := by
      intro e; apply h3; rw [e]; unfold sqk
      rw [if_neg (by omega), if_neg (by omega), if_neg (by omega), if_pos (by omega)]
    rw [xite_f h3, decide_eq_false this]; rfl
theorem ok_takeSign (hO : RO T m i μ) {c : Nat} {p : Int32} (hp : p = nI c) (hc : 40 ≤ c ∧ c ≤ 61) : f12_takeSign p μ = if kt T i = c then xrv (ad μ i) else xrv (ft μ (1 + 16 * PT T i)) := by
  rw [f12_takeSign_e, k12_takeSign, ok_isSign hO hp hc, bI_i]
  by_cases e : kt T i = c
  · rw [decide_eq_true e, xite_f (by decide), hO.2.2.1, ← nI_succ, mS_eq, if_pos e]; rfl
  · rw [decide_eq_false e, xite_t (by decide), ok_wrong hO 1 (w := 1) rfl, bV_v, if_neg e]
theorem ok_hasSign (hO : RO T m i μ) {c : Nat} {p : Int32} (hp : p = nI c) (hc : 40 ≤ c ∧ c ≤ 61) : f12_hasSign p μ = if kt T i = c then xri 1 (ad μ i) else xri 0 μ := by
  rw [f12_hasSign_e, k12_hasSign, ok_isSign hO hp hc, bI_i, vI_eq]
  by_cases e : kt T i = c
  · rw [decide_eq_true e, xite_f (by decide), hO.2.2.1, ← nI_succ, mS_eq, if_pos e]; rfl
  · rw [decide_eq_false e, xite_t (by decide), sI_add0, mS_eq, if_neg e]; rfl
theorem ok_hasWord (hO : RO T m i μ) {w : Nat} {p : Int32} (hp : p = nI w) (hw : w < 27) : f12_hasWord p μ = if kt T i = 128 + cpx w then xri 1 (ad μ i) else xri 0 μ := by
  rw [f12_hasWord_e, k12_hasWord, ok_isWord hO hp hw, bI_i, vI_eq]
  by_cases e : kt T i = 128 + cpx w
  · rw [decide_eq_true e, xite_f (by decide), hO.2.2.1, ← nI_succ, mS_eq, if_pos e]; rfl
  · rw [decide_eq_false e, xite_t (by decide), sI_add0, mS_eq, if_neg e]; rfl
theorem ok_takeWord (hO : RO T m i μ) {w : Nat} {p : Int32} (hp : p = nI w) (hw : w < 27) : f12_takeWord p μ = if kt T i = 128 + cpx w then xrv (ad μ i) else xrv (ft μ (1 + 16 * PT T i)) := by
  rw [f12_takeWord_e, k12_takeWord, ok_hasWord hO hp hw]
  by_cases e : kt T i = 128 + cpx w
  · rw [if_pos e, bI_i, xite_f (by decide), if_pos e]
  · rw [if_neg e, bI_i, xite_t rfl, ok_wrong hO 1 (w := 1) rfl, bV_v, if_neg e]
/-- the last of n words from a on that it is, or -1 -/
def lastw (T : TP) (i a : Nat) : Nat → Int32
  | 0 => -1
  | n + 1 => if kt T i = 128 + cpx (a + n) then nI n else lastw T i a n
theorem ok_wordHere (hO : RO T m i μ) {a n : Nat} {p q : Int32} (hp : p = nI a) (hq : q = nI n) (hw : a + n ≤ 27) : f12_wordHere p q μ = xri (lastw T i a n) μ := by
  have loop : ∀ d k f, k + d = n → d < f → h12_wordHere_5 f (nI a) (nI n) (lastw T i a k) (nI k) μ = xri (lastw T i a n) μ := by
    intro d
    induction d with
    | zero =>
      intro k f hk hf
      obtain ⟨f, rfl⟩ : ∃ g, f = g + 1 := ⟨f - 1, by omega⟩
      obtain rfl : k = n := by omega
      rw [h12_wordHere_5_s, xite_f Int32.lt_irrefl]
    | succ d ih =>
      intro k f hk hf
      obtain ⟨f, rfl⟩ : ∃ g, f = g + 1 := ⟨f - 1, by omega⟩
      rw [h12_wordHere_5_s, xite_t (nI_lt (by omega) (by omega)), nI_add, ok_isWord hO rfl (show a + k < 27 by omega), bI_i]
      have := ih (k + 1) f (by omega) (by omega)
      rw [lastw] at this
      by_cases e : kt T i = 128 + cpx (a + k)
      · rw [if_pos e] at this
        rw [decide_eq_true e, xite_f (by decide), vI_eq, vI_eq, ← nI_succ]; exact this
      · rw [if_neg e] at this
        rw [decide_eq_false e, xite_t (by decide), vI_eq, vI_eq, ← nI_succ]; exact this
  rw [f12_wordHere_e, k12_wordHere, vI_eq, vI_eq, hp, hq]
  exact loop n 0 20000 (by omega) (by omega)
theorem lastw_none {a : Nat} : ∀ n, (∀ j, j < n → ¬ kt T i = 128 + cpx (a + j)) → lastw T i a n = -1
  | 0, _ => rfl
  | n + 1, h => by rw [lastw, if_neg (h n (by omega))]; exact lastw_none n (fun j hj => h j (by omega))
theorem cpx_inj : ∀ a, a < 27 → ∀ b, b < 27 → cpx a = cpx b → a = b := by decide +kernel
theorem lastw_some {a j : Nat} : ∀ n, a + n ≤ 27 → j < n → kt T i = 128 + cpx (a + j) → lastw T i a n = nI j
  | 0, _, h, _ => by omega
  | n + 1, hn, h, e => by
    rw [lastw]
    by_cases ej : j = n
    · rw [← ej, if_pos e]
    · rw [if_neg (fun e2 => ej ?_)]
      · exact lastw_some n (by omega) (by omega) e
      · have := cpx_inj (a + j) (by omega) (a + n) (by omega) (by omega)
        omega
theorem lastw_cases {a n : Nat} (hn : a + n ≤ 27) : (lastw T i a n = -1 ∧ ∀ j, j < n → ¬ kt T i = 128 + cpx (a + j)) ∨ ∃ j, j < n ∧ lastw T i a n = nI j ∧ kt T i = 128 + cpx (a + j) := by
  by_cases h : ∃ j, j < n ∧ kt T i = 128 + cpx (a + j)
  · obtain ⟨j, h1, h2⟩ := h
    exact .inr ⟨j, h1, lastw_some n hn h1 h2, h2⟩
  · have h' : ∀ j, j < n → ¬ kt T i = 128 + cpx (a + j) := fun j hj e => h ⟨j, hj, e⟩
    exact .inl ⟨lastw_none n h', h'⟩
theorem ok_takeNumber (hO : RO T m i μ) {a b : Nat} {p q : Int32} (hp : p = nI a) (hq : q = nI b) (ha : a < 1000) (hb : b < 1000) : f12_takeNumber p q μ = if kt T i = 2 then (if a ≤ vq T (PT T i) ∧ vq T (PT T i) ≤ b then xri (nI (vq T (PT T i))) (ad μ i) else xri 0 (ft μ (4 + 16 * PT T i))) else xri 0 (ft μ (1 + 16 * PT T i)) := by
  obtain ⟨x1, x2⟩ := ok_x hO
  obtain ⟨r1, r2, r3, r4, r5⟩ := hO.1.1 i hO.2.1
  have hs : ∀ k, sqk k < 5 := by intro k; unfold sqk; split <;> (try split) <;> (try split) <;> (try split) <;> omega
  have e3 : (nI (sqk (kq T (PT T i))) = 2) = (kt T i = 2) := by
    rw [show (2 : Int32) = nI 2 from rfl, propext (nI_eq (by have := hs (kq T (PT T i)); omega) (by omega))]
    unfold kt sqk
    refine propext ⟨fun e => ?_, fun e => ?_⟩
    · split at e
      · cases e
      · split at e
        · cases e
        · split at e
          · assumption
          · split at e <;> cases e
    · rw [if_neg (by omega), if_neg (by omega), if_pos e]
  have h70 : ∀ n F ν, FF F ν → h12_takeNumber_70 (n + 1) ν = xri 0 ν := fun n F ν h => by rw [h12_takeNumber_70_s, xite_t (FF_p h)]
  have hpl := PT_le T i
  have hpm := hO.2.2.2.2.2
  have hi7 : ∀ n, h12_takeNumber_70 (n + 1) μ = xri (Int64.toInt32 (aL μ 12 0 6 i)) (ad μ i) := fun n => by
    have e7 : rI (sI μ 12 0 7 (nI (i + 1))) 12 0 7 - 1 = nI i := by rw [rI_sI]; simp only [and_self, ↓reduceIte]; exact nI_pred i
    have hi2 := hO.2.1
    have hi3 := hO.2.2.2.2.1
    rw [h12_takeNumber_70_s, xite_f (RO_p hO), hO.2.2.1, ← nI_succ, mS_eq, e7, xck_t (xin_t (by omega) (by omega)), nI_clamp (by omega), aL_sI]; rfl
  rw [f12_takeNumber_e, k12_takeNumber, xite_t hO.2.2.2.1, xck_t x1, x2, r1, e3]
  by_cases h2 : kt T i = 2
  · obtain ⟨_, _, _, _, v5⟩ := vq_lt h2
    have c1 : (lg_cmp (lN (vq T (PT T i))) (lN a) < 0) = (vq T (PT T i) < a) := by
      rw [propext (lg_cmp_lt _ _)]; exact propext (pk_lLT (by omega) (by omega))
    have c2 : ((0 : Int32) < lg_cmp (lN (vq T (PT T i))) (lN b)) = (b < vq T (PT T i)) := by
      rw [propext (lg_cmp_gt _ _)]; exact propext (pk_lLT (by omega) (by omega))
    rw [xite_t h2, if_pos h2, h12_takeNumber_28_s, xite_t hO.2.2.2.1, xck_t x1, x2, r3 h2, hp, hq, nI_l (by omega), nI_l (by omega), c1, c2, ok_wrong hO 4 (w := 4) rfl, bV_v]
    by_cases g1 : vq T (PT T i) < a
    · rw [xite_t g1, if_neg (by omega), h70 _ (4 + 16 * PT T i) _ (ft_F (by omega) (by omega)).1]
    · rw [xite_f g1, xck_t x1]
      by_cases g2 : b < vq T (PT T i)
      · rw [xite_t g2, if_neg (by omega), h70 _ (4 + 16 * PT T i) _ (ft_F (by omega) (by omega)).1]
      · rw [xite_f g2, if_pos (by omega), hi7, r3 h2, lN_i]
  · rw [xite_f h2, if_neg h2, ok_wrong hO 1 (w := 1) rfl, bV_v, h70 _ (1 + 16 * PT T i) _ (ft_F (by omega) (by omega)).1]
end
