/-! THE PURE PART: holes, look -/
def s0g (h : HS) (x : Nat) : SS := up (s0 h) 5 0 (nI x)
def dp (h : HS) (x n : Nat) : Int32 := itr h (s0g h x) n 6 0
def alw (h : HS) (q : SQ) (x : Nat) : Nat → Bool
  | 0 => true
  | k + 1 => alw h q x k && decide (dp h x (q.2 k).2 = nI (q.2 k).1)
def poss (h : HS) (q : SQ) (x : Nat) : Bool := alw h q x q.1
def possN (h : HS) (q : SQ) : Nat := bN (fun x => poss h q x) 10
def cntd (h : HS) (q : SQ) (n : Nat) (d : Int32) : Nat := ct (fun y => poss h q y && decide (dp h y n = d)) 10
def mxf (f : Nat → Nat) (n : Nat) : Nat := fo (fun k a => if a < f k then f k else a) 0 n
def alk (h : HS) (q : SQ) (n : Nat) : Nat := mxf (fun x => if poss h q x then cntd h q n (dp h x n) else 0) 10
def lkst (h : HS) (q : SQ) (k : Nat) (a : Option Nat × Nat) : Option Nat × Nat := if k = 0 then a else if alk h q k < a.2 then (some k, alk h q k) else a
def look (h : HS) (q : SQ) : Option Nat := (fo (lkst h q) (none, pc (possN h q)) 21).1
theorem mxf_ge (f : Nat → Nat) : ∀ n k, k < n → f k ≤ mxf f n
  | 0, k, h => by omega
  | n + 1, k, h => by
    have ih := mxf_ge f n
    unfold mxf at *
    rw [fo]
    by_cases hlt : fo (fun k a => if a < f k then f k else a) 0 n < f n
    · rw [if_pos hlt]
      by_cases e : k = n
      · subst e; exact Nat.le_refl _
      · have := ih k (by omega); omega
    · rw [if_neg hlt]
      by_cases e : k = n
      · subst e; omega
      · exact ih k (by omega)
theorem mxf_at (f : Nat → Nat) : ∀ n, mxf f n = 0 ∨ ∃ k, k < n ∧ mxf f n = f k
  | 0 => .inl rfl
  | n + 1 => by
    have ih := mxf_at f n
    unfold mxf at *
    rw [fo]
    by_cases hlt : fo (fun k a => if a < f k then f k else a) 0 n < f n
    · rw [if_pos hlt]; exact .inr ⟨n, by omega, rfl⟩
    · rw [if_neg hlt]
      rcases ih with h | ⟨k, h1, h2⟩
      · exact .inl h
      · exact .inr ⟨k, by omega, h2⟩
theorem ct_pos {c : Nat → Bool} : ∀ {n}, 0 < ct c n → ∃ k, k < n ∧ c k = true
  | 0, h => by simp [ct] at h
  | n + 1, h => by
    rw [ct] at h
    by_cases hc : c n = true
    · exact ⟨n, by omega, hc⟩
    · rw [if_neg hc] at h
      obtain ⟨k, h1, h2⟩ := ct_pos h
      exact ⟨k, by omega, h2⟩
theorem s0g_SI {h : HS} (hI : HI h) {x : Nat} (hx : x ≤ 9) : SI h (s0g h x) := by
  have := s0_SI hI
  unfold s0g
  refine ⟨fun g hg => by simpa [up] using this.1 g hg, fun g g' hg hg' hne e => ?_, fun m hm => by simpa [up] using this.2.2.1 m hm, ⟨x, hx, by simp [up]⟩, by simpa [up] using this.2.2.2.2⟩
  simp [up] at e ⊢
  exact this.2.1 g g' hg hg' hne e
theorem dp_rng {h : HS} (hI : HI h) {x n : Nat} (hx : x ≤ 9) : ∃ d, d ≤ 60 ∧ dp h x n = nI d := (SI_itr hI (s0g_SI hI hx) n).2.2.2.2
theorem alk_eq {h : HS} (hI : HI h) (q : SQ) (n : Nat) : alk h q n = mxf (fun d => cntd h q n (nI d)) 61 := by
  apply Nat.le_antisymm
  · unfold alk
    rcases mxf_at (fun x => if poss h q x then cntd h q n (dp h x n) else 0) 10 with e | ⟨x, x1, x2⟩
    · rw [e]; exact Nat.zero_le _
    · rw [x2]
      split
      · obtain ⟨d, d1, d2⟩ := dp_rng hI (x := x) (n := n) (by omega)
        rw [d2]
        exact mxf_ge (fun d => cntd h q n (nI d)) 61 d (by omega)
      · exact Nat.zero_le _
  · rcases mxf_at (fun d => cntd h q n (nI d)) 61 with e | ⟨d, d1, d2⟩
    · rw [e]; exact Nat.zero_le _
    · rw [d2]
      by_cases hz : cntd h q n (nI d) = 0
      · rw [hz]; exact Nat.zero_le _
      · obtain ⟨y, y1, y2⟩ := ct_pos (Nat.pos_of_ne_zero hz)
        simp only [Bool.and_eq_true, decide_eq_true_eq] at y2
        have := mxf_ge (fun x => if poss h q x then cntd h q n (dp h x n) else 0) 10 y y1
        rw [if_pos y2.1, y2.2] at this
        exact this
theorem cntd_le (h : HS) (q : SQ) (n : Nat) (d : Int32) : cntd h q n d ≤ 10 := ct_le _ _
theorem mxf_le {f : Nat → Nat} {b : Nat} (hb : ∀ k, f k ≤ b) (n : Nat) : mxf f n ≤ b := by
  rcases mxf_at f n with e | ⟨k, _, e⟩
  · rw [e]; exact Nat.zero_le _
  · rw [e]; exact hb k
/-- the component's rows of depths -/
def CD (h : HS) (μ : XM) : Prop := ∀ x n, x < 10 → n < 21 → aI μ 3 0 0 (x * 21 + n) = dp h x n
section
variable {A : AS} {μ : XM}
theorem s3_depthBehind {h : HS} (hD : CD h μ) {x n : Nat} (hx : x < 10) (hn : n < 21) : f3_depthBehind (nI x) (nI n) μ = xri (dp h x n) μ := by
  have h9 : ¬ (9 : Int32) < nI x := nI_nlt (a := 9) (b := x) (by omega) (by omega)
  have h21 : nI n < (21 : Int32) := nI_lt (b := 21) hn (by omega)
  have e : (nI x * 21 + nI n : Int32) = nI (x * 21 + n) := by rw [show (21 : Int32) = nI 21 from rfl, pk_mul, nI_add]
  rw [f3_depthBehind_e, k3_depthBehind, xite_f (nI_pos (by omega)), xite_f h9, xite_f (nI_pos (by omega)), xite_t h21, h3_depthBehind_25_s, vI_eq, xite_f (by decide), e, xck_t (xin_t (by omega) (by omega)), nI_clamp (by omega), hD x n hx hn]
theorem s9_allows {h : HS} {q : SQ} (hD : CD h μ) (hQ : CQ 0 q μ) (hq : QI q) {x : Nat} (hx : x < 10) : f9_allows 0 (nI x) μ = xri (b2 (poss h q x)) μ := by
  have hq8 := hq.1
  rw [f9_allows_e, k9_allows, vI_eq]
  have key : ∀ d k n, k + d = q.1 → d < n → h9_allows_2 n 0 (nI x) (nI k) μ = if alw h q x k then xri (b2 (poss h q x)) μ else h9_allows_2 n 0 (nI x) (nI k) μ := by
    intro d
    induction d with
    | zero =>
      intro k n e hn
      obtain ⟨m, rfl⟩ : ∃ m, n = m + 1 := ⟨n - 1, by omega⟩
      obtain rfl : k = q.1 := by omega
      split
      · rename_i ha
        rw [h9_allows_2_s, hQ.1, xite_f Int32.lt_irrefl, poss, ha]; rfl
      · rfl
    | succ d ih =>
      intro k n e hn
      obtain ⟨m, rfl⟩ : ∃ m, n = m + 1 := ⟨n - 1, by omega⟩
      have hk : k < q.1 := by omega
      have hk8 : k < 8 := by have := hq.1; omega
      split
      · rename_i ha
        obtain ⟨q1, q2, q3⟩ := hq.2 k hk
        have e8 : nI k < (8 : Int32) := nI_lt (b := 8) hk8 (by omega)
        obtain ⟨a1, a2⟩ := hQ.2 k hk
        rw [h9_allows_2_s, hQ.1, xite_t (nI_lt hk (by omega)), xite_t e8, xck_t (xin_t (by omega) hk8), nI_clamp (show k < 2 ^ 31 by omega), a2, s3_depthBehind hD hx (by omega), bI_i, xck_t (xin_t (by omega) hk8), a1, vI_eq, ← nI_succ, xite_eq]
        have ha2 : alw h q x (k + 1) = decide (dp h x (q.2 k).2 = nI (q.2 k).1) := by rw [alw, ha, Bool.true_and]
        by_cases hz : dp h x (q.2 k).2 = nI (q.2 k).1
        · rw [if_pos hz, ih (k + 1) m (by omega) (by omega), ha2, decide_eq_true hz, if_pos rfl]
        · rw [if_neg hz]
          have no : ∀ j, k + 1 ≤ j → alw h q x j = false := by
            intro j hj
            induction j with
            | zero => omega
            | succ j ihj =>
              by_cases ej : j = k
              · subst ej; rw [ha2, decide_eq_false hz]
              · rw [alw, ihj (by omega), Bool.false_and]
          rw [poss, no q.1 (by omega)]; rfl
      · rfl
  have := key q.1 0 20000 (by omega) (by have := hq.1; omega)
  rw [alw, if_pos rfl] at this
  exact this
theorem s3_possible {h : HS} {q : SQ} (hD : CD h μ) (hQ : CQ 0 q μ) (hq : QI q) : f3_possible 0 μ = xri (nI (possN h q)) μ := by
  rw [f3_possible_e, k3_possible, vI_eq, vI_eq]
  refine lp_bits (F := fun n a k => h3_possible_4 n 0 a k μ) (c := fun x => poss h q x) (G := 10) (R := fun a => xri a μ) (by omega) ?_ ?_ 10 0 20000 (by omega) (by omega)
  · intro n a
    rw [h3_possible_4_s, xite_t (by decide)]
  · intro n a k hk
    have h9 : ¬ (9 : Int32) < nI k := nI_nlt (a := 9) (b := k) (by omega) (by omega)
    simp only [h3_possible_4_s, xite_f h9, s9_allows hD hQ hq hk, bI_i, vI_eq, or_bit _ (show k < 31 by omega), ← nI_succ, xite_eq, b2_eq0]
    grind
theorem possN_t {h : HS} {q : SQ} {x : Nat} (hx : x < 10) : ((nI (possN h q) >>> (nI x &&& 31)) &&& 1) = b2 (poss h q x) := by
  have hlt : possN h q < 1024 := bN_lt' _ (by omega)
  rw [tst (by omega) (by omega)]
  unfold possN
  rw [bN_test]
  simp [hx]
theorem s3_manyAsDeep {h : HS} {q : SQ} (hD : CD h μ) {n : Nat} (hn : n < 21) (d : Int32) : f3_manyAsDeep (nI (possN h q)) (nI n) d μ = xri (nI (cntd h q n d)) μ := by
  rw [f3_manyAsDeep_e, k3_manyAsDeep, vI_eq, vI_eq]
  refine lp_ct (F := fun f a k => h3_manyAsDeep_6 f (nI (possN h q)) (nI n) d a k μ) (c := fun y => poss h q y && decide (dp h y n = d)) (G := 10) (R := fun a => xri a μ) ?_ ?_ 10 0 20000 (by omega) (by omega)
  · intro f a
    rw [h3_manyAsDeep_6_s, xite_t (by decide)]
  · intro f a k hk
    have h9 : ¬ (9 : Int32) < nI k := nI_nlt (a := 9) (b := k) (by omega) (by omega)
    simp only [h3_manyAsDeep_6_s, xite_f h9, possN_t hk, s3_depthBehind hD hk hn, bI_i, vI_eq, ← nI_succ, xite_eq, b2_eq1]
    grind
theorem s3_mostAlike {h : HS} {q : SQ} (hD : CD h μ) {n : Nat} (hn : n < 21) : f3_mostAlike (nI (possN h q)) (nI n) μ = xri (nI (alk h q n)) μ := by
  rw [f3_mostAlike_e, k3_mostAlike, vI_eq, vI_eq]
  refine lp_foI (F := fun f (a : Nat) k => h3_mostAlike_5 f (nI (possN h q)) (nI n) (nI a) k μ) (st := fun x a => if a < (if poss h q x then cntd h q n (dp h x n) else 0) then (if poss h q x then cntd h q n (dp h x n) else 0) else a) (G := 10) (R := fun a => xri (nI a) μ) (fun _ a => a ≤ 10) ?_ ?_ 0 (by omega) 20000 (by omega)
  · intro f a _
    rw [h3_mostAlike_5_s, xite_t (by decide)]
  · intro f a k hk ha
    have h9 : ¬ (9 : Int32) < nI k := nI_nlt (a := 9) (b := k) (by omega) (by omega)
    have hc := cntd_le h q n (dp h k n)
    refine ⟨by split <;> (try split) <;> omega, ?_⟩
    have hlt : (nI a < nI (cntd h q n (dp h k n))) = (a < cntd h q n (dp h k n)) := propext (nI_ltI (by omega) (by omega))
    simp only [h3_mostAlike_5_s, xite_f h9, possN_t hk, s3_depthBehind hD hk hn, s3_manyAsDeep hD hn, bI_i, vI_eq, ← nI_succ, xite_eq, b2_eq1, hlt]
    by_cases hp : poss h q k = true
    · simp only [hp, ↓reduceIte]
      by_cases hq : a < cntd h q n (dp h k n)
      · simp only [hq, ↓reduceIte]
      · simp only [hq, ↓reduceIte]
    · simp only [hp, Bool.false_eq_true, ↓reduceIte, Nat.not_lt_zero]
theorem s3_telling {h : HS} {q : SQ} (hD : CD h μ) (hQ : CQ 0 q μ) (hq : QI q) : f3_tellingMinute 0 μ = xri (oI (look h q)) μ := by
  have hlt : possN h q < 1024 := bN_lt' _ (by omega)
  have hpc : pc (possN h q) ≤ 10 := ct_le _ _
  rw [f3_tellingMinute_e, k3_tellingMinute, s3_possible hD hQ hq, bI_i, vI_eq, sJ_bitCount hlt, bI_i, vI_eq, vI_eq, vI_eq]
  have key := lp_foI (F := fun f (a : Option Nat × Nat) k => h3_tellingMinute_17 f (nI (possN h q)) (nI a.2) (oI a.1) (k + 1) μ) (st := fun k a => lkst h q (k + 1) a) (G := 20) (R := fun a => xri (oI a.1) μ) (fun _ a => a.2 ≤ 10) ?_ ?_ (none, pc (possN h q)) hpc 20000 (by omega)
  · rw [fo_shift (lkst h q) _ rfl 20] at key
    exact key
  · intro f a _
    have e : ¬ (nI 20 + 1 : Int32) < 21 := by decide
    rw [h3_tellingMinute_17_s, xite_f e]
  · intro f a k hk ha
    have ha' : alk h q (k + 1) ≤ 10 := mxf_le (fun x => by split; exact cntd_le _ _ _ _; exact Nat.zero_le _) 10
    have h21 : nI (k + 1) < (21 : Int32) := nI_lt (b := 21) (by omega) (by omega)
    have hk0 : ¬ k + 1 = 0 := by omega
    have hlt : (nI (alk h q (k + 1)) < nI a.2) = (alk h q (k + 1) < a.2) := propext (nI_ltI (by omega) (by omega))
    refine ⟨by unfold lkst; rw [if_neg hk0]; split <;> omega, ?_⟩
    simp only [h3_tellingMinute_17_s, ← nI_succ, xite_t h21, s3_mostAlike hD (show k + 1 < 21 by omega), bI_i, vI_eq, xite_eq, hlt, lkst, hk0]
    by_cases hz : alk h q (k + 1) < a.2
    · simp only [hz, ↓reduceIte, oI]
    · simp only [hz, ↓reduceIte]
-- opening
theorem c_open (hI : AI A) (hR : RC A μ) : ∃ ν, f3_open 1 μ = xrv ν ∧ CD (aH A) ν ∧ LC 0 (hC (aH A)) ν ∧ QC μ ν := by
  rw [f3_open_e, k3_open, vI_eq]
  have inner : ∀ x, x < 10 → ∀ d k n ν, k + d = 21 → d + 1 ≤ n → KC A (s0g (aH A) x) k μ ν → (∀ x' n, x' < x → n < 21 → aI ν 3 0 0 (x' * 21 + n) = dp (aH A) x' n) → (∀ n, n < k → aI ν 3 0 0 (x * 21 + n) = dp (aH A) x n) →
      ∃ n' ν', n ≤ n' + d + 1 ∧ h3_open_19 n 1 (nI x) (nI k) ν = h3_open_2 n' 1 (nI (x + 1)) ν' ∧ LC 0 (hC (aH A)) ν' ∧ QC μ ν' ∧ ∀ x' n, x' < x + 1 → n < 21 → aI ν' 3 0 0 (x' * 21 + n) = dp (aH A) x' n := by
    intro x hx d
    induction d with
    | zero =>
      intro k n ν e hn hK h1 h2
      obtain ⟨m, rfl⟩ : ∃ m, n = m + 1 := ⟨n - 1, by omega⟩
      obtain rfl : k = 21 := by omega
      refine ⟨m, ν, by omega, ?_, hK.2.1, hK.2.2, fun x' n hx' hn' => ?_⟩
      · rw [h3_open_19_s, xite_f (by decide), vI_eq, ← nI_succ]
      · by_cases ex : x' = x
        · subst ex; exact h2 n hn'
        · exact h1 x' n (by omega) hn'
    | succ d ih =>
      intro k n ν e hn hK h1 h2
      obtain ⟨m, rfl⟩ : ∃ m, n = m + 1 := ⟨n - 1, by omega⟩
      have h21 : nI k < (21 : Int32) := nI_lt (b := 21) (by omega) (by omega)
      have ee : (nI x * 21 + nI k : Int32) = nI (x * 21 + k) := by rw [show (21 : Int32) = nI 21 from rfl, pk_mul, nI_add]
      have hQ' : QC ν (pI ν 3 0 0 (x * 21 + k) (itr (aH A) (s0g (aH A) x) k 6 0)) := fun t j _ _ _ h4 => pI_ne (fun h => h4 h.1)
      have hK' : KC A (s0g (aH A) x) k μ (pI ν 3 0 0 (x * 21 + k) (itr (aH A) (s0g (aH A) x) k 6 0)) := ⟨CS_ob (pI_ne (by omega)) hK.1, LC_ob (pI_ne (by omega)) hK.2.1, QC_t hK.2.2 hQ'⟩
      obtain ⟨ξ, e3, e4⟩ := KC_step hI hR (s0g_SI (AI_H hI) (by omega)) hK'
      have hfr : aI ξ 3 0 0 = aI (pI ν 3 0 0 (x * 21 + k) (itr (aH A) (s0g (aH A) x) k 6 0)) 3 0 0 := by
        obtain ⟨ξ', f1', f2', f3', f4'⟩ := s8_pass (KC_H hR hK') hK'.2.1 (AI_W hI) hK'.1 (SI_itr (AI_H hI) (s0g_SI (AI_H hI) (show x ≤ 9 by omega)) k)
        rw [e3] at f1'
        have : ξ = ξ' := by
          simp only [xri, Option.some.injEq, Prod.mk.injEq, true_and] at f1'
          exact f1'
        rw [this]
        exact aI_ob (f4' 3 0 (by omega) (by omega)) 0
      rw [h3_open_19_s, xite_t h21, ee, xck_t (xin_a (by omega) (by omega)), mS_eq, nI_clamp (by omega), CS_de hK.1, e3, bI_i, vI_eq, ← nI_succ]
      have q1 : ∀ x' n, x' < x → n < 21 → aI ξ 3 0 0 (x' * 21 + n) = dp (aH A) x' n := by
        intro x' n hx' hn'
        rw [hfr, aI_pI]
        have : ¬ x' * 21 + n = x * 21 + k := by omega
        simp only [this, and_false, ↓reduceIte]
        exact h1 x' n hx' hn'
      have q2 : ∀ n, n < k + 1 → aI ξ 3 0 0 (x * 21 + n) = dp (aH A) x n := by
        intro n hn'
        rw [hfr, aI_pI]
        by_cases en : n = k
        · subst en; simp only [and_self, ↓reduceIte, dp]
        · have : ¬ x * 21 + n = x * 21 + k := by omega
          simp only [this, and_false, ↓reduceIte]
          exact h2 n (by omega)
      obtain ⟨n', ν', g1, g2, g3⟩ := ih (k + 1) m ξ (by omega) (by omega) e4 q1 q2
      exact ⟨n', ν', by omega, g2, g3⟩
  have hend := lp_rexq (F := fun n ν k => h3_open_2 n 1 k ν) 23 (by omega) (fun x ν => LC 0 (hC (aH A)) ν ∧ QC μ ν ∧ ∀ x' n, x' < x → n < 21 → aI ν 3 0 0 (x' * 21 + n) = dp (aH A) x' n) (fun _ => false) (Q := fun _ r => ∃ ν, r = xrv ν ∧ CD (aH A) ν ∧ LC 0 (hC (aH A)) ν ∧ QC μ ν) (e := 10) ?_ ?_ 10 0 20000 μ (by omega) (by omega) ⟨RC_L hR, QC_r, fun x' n hx' => by omega⟩
  · exact hend
  · intro n ν hJ
    rw [h3_open_2_s, xite_t (by decide)]
    exact ⟨ν, rfl, fun x n hx hn => hJ.2.2 x n hx hn, hJ.1, hJ.2.1⟩
  · intro n ν x hn hx hJ
    refine ⟨fun hc => absurd hc (by decide), fun _ => ?_⟩
    obtain ⟨m, rfl⟩ : ∃ m, n = m + 1 := ⟨n - 1, by omega⟩
    have h9 : ¬ (9 : Int32) < nI x := nI_nlt (a := 9) (b := x) (by omega) (by omega)
    have hH : CH 0 (aH A) ν := CH_ob (hJ.2.1 2 0 (by omega) (by omega) (by omega) (by omega)) (RC_H hR)
    obtain ⟨ν2, e1, e2, e3⟩ := s8_begin (i := 1) hH
    have hQ2 : QC ν ν2 := FrS_Q e3
    have hQ3 : QC ν2 (sI ν2 8 1 6 (nI x)) := fun t j h1 _ _ _ => sI_ne h1
    have hK : KC A (s0g (aH A) x) 0 μ (sI ν2 8 1 6 (nI x)) := by
      refine ⟨?_, LC_ob (sI_ne (by omega)) (LC_ob (e3 4 0 (by omega)) hJ.1), QC_t hJ.2.1 (QC_t hQ2 hQ3)⟩
      obtain ⟨v, hv, ev, hb⟩ := e2.2.1
      refine ⟨fun g hg => ?_, ⟨v, hv, ?_, fun m hm => ?_⟩, ?_⟩
      · obtain ⟨a, b, c, d⟩ := e2.1 g hg
        simp [rI_sI, rI_sL, rI_wI, rI_wL, rI_pI, rI_pL, rL_sI, rL_sL, rL_wI, rL_wL, rL_pI, rL_pL, aI_sI, aI_sL, aI_wI, aI_wL, aI_pI, aI_pL, aL_sI, aL_sL, aL_wI, aL_wL, aL_pI, aL_pL, itr, s0g, up, a, b, c, d]
      · simp [rI_sI, rI_sL, rI_wI, rI_wL, rI_pI, rI_pL, rL_sI, rL_sL, rL_wI, rL_wL, rL_pI, rL_pL, aI_sI, aI_sL, aI_wI, aI_wL, aI_pI, aI_pL, aL_sI, aL_sL, aL_wI, aL_wL, aL_pI, aL_pL, ev]
      · rw [hb m hm]; simp [free, itr, s0g, up]
      · simp [rI_sI, rI_sL, rI_wI, rI_wL, rI_pI, rI_pL, rL_sI, rL_sL, rL_wI, rL_wL, rL_pI, rL_pL, aI_sI, aI_sL, aI_wI, aI_wL, aI_pI, aI_pL, aL_sI, aL_sL, aL_wI, aL_wL, aL_pI, aL_pL, itr, s0g, up, CS_de e2, CS_mi e2]
    have h3 : aI (sI ν2 8 1 6 (nI x)) 3 0 0 = aI ν 3 0 0 := by rw [aI_sI]; exact aI_ob (e3 3 0 (by omega)) 0
    obtain ⟨n', ν', g1, g2, g3, g4, g5⟩ := inner x hx 21 0 m _ (by omega) (by omega) hK (fun x' n hx' hn' => by rw [h3]; exact hJ.2.2 x' n hx' hn') (fun n hn' => by omega)
    rw [h3_open_2_s, xite_f h9, e1, bV_v, mS_eq, vI_eq]
    exact ⟨ν', n', by omega, ⟨g3, g4, g5⟩, g2⟩
def aHoles (A : AS) : Int32 := nI (possN (aH A) (aQ A))
def aLook (A : AS) : Int32 := oI (look (aH A) (aQ A))
theorem AI_Q (hI : AI A) : QI (aQ A) := hI.2.2.2.2.2.2.2.1
theorem RC_Q (hR : RC A μ) : CQ 0 (aQ A) μ := hR.2.2.2.2.2.2.2.1
theorem c_holes (hI : AI A) (hR : RC A μ) : OKc A A μ (f11_holes μ) (aHoles A) := by
  obtain ⟨ν, e1, e2, e3, e4⟩ := c_open hI hR
  have hR2 := RC_q hR e4 e3
  rw [f11_holes_e, k11_holes, e1, bV_v, s3_possible e2 (RC_Q hR2) (AI_Q hI), bI_i]
  exact ⟨ν, rfl, hR2, QC_11 e4⟩
theorem c_look (hI : AI A) (hR : RC A μ) : OKc A A μ (f11_look μ) (aLook A) := by
  obtain ⟨ν, e1, e2, e3, e4⟩ := c_open hI hR
  have hR2 := RC_q hR e4 e3
  rw [f11_look_e, k11_look, e1, bV_v, s3_telling e2 (RC_Q hR2) (AI_Q hI), bI_i]
  exact ⟨ν, rfl, hR2, QC_11 e4⟩
end
