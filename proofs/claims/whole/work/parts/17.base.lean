/-! THE PURE PART: base. How the texts run; memory read behind writing; small numbers -/
def b2 (b : Bool) : Int32 := if b then 1 else 0
theorem bV_v (μ : XM) (k : XM → XR) : bV (xrv μ) k = k μ := rfl
theorem bI_i (x : Int32) (μ : XM) (k : Int32 → XM → XR) : bI (xri x μ) k = k x μ := rfl
theorem bL_l (x : Int64) (μ : XM) (k : Int64 → XM → XR) : bL (xrl x μ) k = k x μ := rfl
theorem xrb_b (b : Bool) (μ : XM) : xrb (b2 b) μ = xri (b2 b) μ := by cases b <;> rfl
theorem xrb_0 (μ : XM) : xrb 0 μ = xri 0 μ := rfl
theorem xrb_1 (μ : XM) : xrb 1 μ = xri 1 μ := rfl
theorem xite_eq (c : Prop) [Decidable c] (a b : XR) : xite c a b = if c then a else b := by
  by_cases h : c
  · rw [xite_t h, if_pos h]
  · rw [xite_f h, if_neg h]
theorem xck_if (b : Bool) (r : XR) : xck b r = if b then r else none := by
  rw [xck_eq]; cases b <;> rfl
theorem i10 : ((1 : Int32) = 0) = False := by decide
theorem b2_t : b2 true = 1 := rfl
theorem b2_f : b2 false = 0 := rfl
theorem b2_eq0 (b : Bool) : (b2 b = 0) = (b = false) := by cases b <;> simp [b2]
theorem b2_eq1 (b : Bool) : (b2 b = 1) = (b = true) := by cases b <;> simp [b2]
theorem xri_and (a b : Bool) (μ : XM) : xri (b2 (a && b)) μ = if a then xri (b2 b) μ else xri 0 μ := by cases a <;> rfl
theorem xri_dec (c : Prop) [Decidable c] (μ : XM) : xri (b2 (decide c)) μ = if c then xri 1 μ else xri 0 μ := by
  by_cases h : c <;> simp [h, b2]
theorem xri_not (a : Bool) (μ : XM) : xri (b2 (!a)) μ = if a then xri 0 μ else xri 1 μ := by cases a <;> rfl
theorem xri_bool (a : Bool) (μ : XM) : xri (b2 a) μ = if a then xri 1 μ else xri 0 μ := by cases a <;> rfl
-- small numbers
theorem xin_nI {k N : Nat} (hk : k < 2 ^ 31) : xin (nI k) N = decide (k < N) := by
  unfold xin
  rw [nI_clamp hk]
  have : decide (nI k < 0) = false := by rw [decide_eq_false_iff_not]; exact nI_pos hk
  rw [this]; rfl
theorem xin_t {k N : Nat} (hN : N < 2 ^ 31) (hk : k < N) : xin (nI k) N = true := by
  rw [xin_nI (by omega)]; simpa using hk
theorem nI_lit (n : Nat) : (OfNat.ofNat n : Int32) = nI n := rfl
theorem nI_or (a b : Nat) : nI a ||| nI b = nI (a ||| b) := by
  apply Int32.toBitVec_inj.1
  show BitVec.ofNat 32 a ||| BitVec.ofNat 32 b = BitVec.ofNat 32 (a ||| b)
  apply BitVec.eq_of_getLsbD_eq
  intro i hi
  simp [hi]
theorem nI_and (a b : Nat) : nI a &&& nI b = nI (a &&& b) := by
  apply Int32.toBitVec_inj.1
  show BitVec.ofNat 32 a &&& BitVec.ofNat 32 b = BitVec.ofNat 32 (a &&& b)
  apply BitVec.eq_of_getLsbD_eq
  intro i hi
  simp [hi]
theorem bit_pw : ∀ k, k < 31 → (1 : Int32) <<< (nI k &&& 31) = nI (2 ^ k) := by decide +kernel
theorem sh_cnt : ∀ k, k < 31 → ((nI k &&& 31).toBitVec.smod 32).toNat = k := by decide +kernel
theorem or_bit {k : Nat} (v : Nat) (hk : k < 31) : nI v ||| (1 <<< (nI k &&& 31)) = nI (v ||| 2 ^ k) := by
  rw [bit_pw k hk, nI_or]
theorem or_0 (v : Int32) : v ||| 0 = v := by simp
theorem and_1 {n : Nat} (h : n < 2 ^ 32) : nI n &&& 1 = nI (n % 2) := by
  have := pk_andN h (m := 1) 1 (by decide)
  simpa using this
theorem tst {v k : Nat} (hv : v < 2 ^ 31) (hk : k < 31) : (nI v >>> (nI k &&& 31)) &&& 1 = b2 (v.testBit k) := by
  rw [pk_shrN hv _ k (sh_cnt k hk)]
  have h1 : v / 2 ^ k < 2 ^ 32 := Nat.lt_of_le_of_lt (Nat.div_le_self _ _) (by omega)
  rw [and_1 h1, Nat.testBit_eq_decide_div_mod_eq]
  have : v / 2 ^ k % 2 = 0 ∨ v / 2 ^ k % 2 = 1 := by omega
  rcases this with h | h <;> rw [h] <;> rfl
/-- sets as numbers -/
def bN (c : Nat → Bool) : Nat → Nat
  | 0 => 0
  | n + 1 => if c n then bN c n ||| 2 ^ n else bN c n
theorem bN_lt (c : Nat → Bool) : ∀ n, bN c n < 2 ^ n
  | 0 => by simp [bN]
  | n + 1 => by
    have h := bN_lt c n
    have h2 : (2 : Nat) ^ n < 2 ^ (n + 1) := Nat.pow_lt_pow_right (by decide) (Nat.lt_succ_self n)
    unfold bN
    split
    · exact Nat.or_lt_two_pow (Nat.lt_trans h h2) h2
    · exact Nat.lt_trans h h2
theorem bN_test (c : Nat → Bool) : ∀ n k, (bN c n).testBit k = (decide (k < n) && c k)
  | 0, k => by simp [bN]
  | n + 1, k => by
    have h := bN_test c n k
    unfold bN
    by_cases hc : c n = true
    · rw [if_pos hc, Nat.testBit_or, h, Nat.testBit_two_pow]
      by_cases e : n = k
      · subst e; simp [hc]
      · have : (decide (k < n + 1)) = decide (k < n) := by
          by_cases h1 : k < n <;> simp [h1] <;> omega
        simp [e, this]
    · rw [if_neg hc, h]
      by_cases e : n = k
      · subst e; simp [hc]
      · have : (decide (k < n + 1)) = decide (k < n) := by
          by_cases h1 : k < n <;> simp [h1] <;> omega
        simp [this]
theorem bN_cong {c d : Nat → Bool} : ∀ {n}, (∀ k, k < n → c k = d k) → bN c n = bN d n
  | 0, _ => rfl
  | n + 1, h => by
    unfold bN
    rw [bN_cong (fun k hk => h k (Nat.lt_succ_of_lt hk)), h n (Nat.lt_succ_self n)]
theorem bN_eq {v n : Nat} (hv : v < 2 ^ n) {c : Nat → Bool} (h : ∀ k, k < n → v.testBit k = c k) : v = bN c n := by
  apply Nat.eq_of_testBit_eq
  intro k
  rw [bN_test]
  by_cases hk : k < n
  · simp [hk, h k hk]
  · simp only [hk, decide_false, Bool.false_and]
    exact Nat.testBit_lt_two_pow (Nat.lt_of_lt_of_le hv (Nat.pow_le_pow_right (by decide) (by omega)))
theorem bN_0 {c : Nat → Bool} {n : Nat} : bN c n = 0 ↔ ∀ k, k < n → c k = false := by
  constructor
  · intro h k hk
    have := bN_test c n k
    rw [h] at this
    simpa [hk] using this.symm
  · intro h
    exact (bN_eq (v := 0) (Nat.two_pow_pos n) (fun k hk => by simp [h k hk])).symm
/-- a loop that gathers bits -/
theorem lp_bits {F : Nat → Int32 → Int32 → XR} {c : Nat → Bool} {G : Nat} {R : Int32 → XR} (hG : G < 31)
    (hx : ∀ n v, F (n + 1) (nI v) (nI G) = R (nI v))
    (hs : ∀ n v k, k < G → F (n + 1) (nI v) (nI k) = F n (nI (if c k then v ||| 2 ^ k else v)) (nI (k + 1))) :
    ∀ d k n, k + d = G → d < n → F n (nI (bN c k)) (nI k) = R (nI (bN c G)) := by
  intro d
  induction d with
  | zero =>
    intro k n e hn
    obtain ⟨m, rfl⟩ : ∃ m, n = m + 1 := ⟨n - 1, by omega⟩
    obtain rfl : k = G := by omega
    exact hx m _
  | succ d ih =>
    intro k n e hn
    obtain ⟨m, rfl⟩ : ∃ m, n = m + 1 := ⟨n - 1, by omega⟩
    rw [hs m _ k (by omega)]
    exact ih (k + 1) m (by omega) (by omega)
/-- a loop with a state of its own -/
def fo {α : Type} (st : Nat → α → α) (a : α) : Nat → α
  | 0 => a
  | k + 1 => st k (fo st a k)
theorem lp_fo {α : Type} {F : Nat → α → Int32 → XR} {st : Nat → α → α} {G : Nat} {R : α → XR}
    (hx : ∀ n a, F (n + 1) a (nI G) = R a)
    (hs : ∀ n a k, k < G → F (n + 1) a (nI k) = F n (st k a) (nI (k + 1))) (a : α) :
    ∀ d k n, k + d = G → d < n → F n (fo st a k) (nI k) = R (fo st a G) := by
  intro d
  induction d with
  | zero =>
    intro k n e hn
    obtain ⟨m, rfl⟩ : ∃ m, n = m + 1 := ⟨n - 1, by omega⟩
    obtain rfl : k = G := by omega
    exact hx m _
  | succ d ih =>
    intro k n e hn
    obtain ⟨m, rfl⟩ : ∃ m, n = m + 1 := ⟨n - 1, by omega⟩
    rw [hs m _ k (by omega)]
    exact ih (k + 1) m (by omega) (by omega)
/-- the same with an invariant -/
theorem lp_foI {α : Type} {F : Nat → α → Int32 → XR} {st : Nat → α → α} {G : Nat} {R : α → XR} (I : Nat → α → Prop)
    (hx : ∀ n a, I G a → F (n + 1) a (nI G) = R a)
    (hs : ∀ n a k, k < G → I k a → I (k + 1) (st k a) ∧ F (n + 1) a (nI k) = F n (st k a) (nI (k + 1))) (a : α) (h0 : I 0 a) :
    ∀ n, G < n → F n a (nI 0) = R (fo st a G) := by
  have key : ∀ d k n, k + d = G → d < n → I k (fo st a k) → F n (fo st a k) (nI k) = R (fo st a G) := by
    intro d
    induction d with
    | zero =>
      intro k n e hn hI
      obtain ⟨m, rfl⟩ : ∃ m, n = m + 1 := ⟨n - 1, by omega⟩
      obtain rfl : k = G := by omega
      exact hx m _ hI
    | succ d ih =>
      intro k n e hn hI
      obtain ⟨m, rfl⟩ : ∃ m, n = m + 1 := ⟨n - 1, by omega⟩
      obtain ⟨hI', he⟩ := hs m _ k (by omega) hI
      rw [he]
      exact ih (k + 1) m (by omega) (by omega) hI'
  intro n hn
  exact key G 0 n (by omega) hn h0
/-- the first that is so: a loop that ends there -/
def fst (c : Nat → Bool) (d : Int32) : Nat → Nat → Int32
  | _, 0 => d
  | k, n + 1 => if c k then nI k else fst c d (k + 1) n
theorem lp_fst {F : Nat → Int32 → XR} {c : Nat → Bool} {G : Nat} {d0 : Int32} {R : Int32 → XR}
    (hx : ∀ n, F (n + 1) (nI G) = R d0)
    (hs : ∀ n k, k < G → F (n + 1) (nI k) = if c k then R (nI k) else F n (nI (k + 1))) :
    ∀ d k n, k + d = G → d < n → F n (nI k) = R (fst c d0 k d) := by
  intro d
  induction d with
  | zero =>
    intro k n e hn
    obtain ⟨m, rfl⟩ : ∃ m, n = m + 1 := ⟨n - 1, by omega⟩
    obtain rfl : k = G := by omega
    exact hx m
  | succ d ih =>
    intro k n e hn
    obtain ⟨m, rfl⟩ : ∃ m, n = m + 1 := ⟨n - 1, by omega⟩
    rw [hs m k (by omega), fst]
    split
    · rfl
    · exact ih (k + 1) m (by omega) (by omega)
/-- a number below n -/
def inR (n : Nat) (p : Int32) : Bool := decide (¬ p < 0) && decide (p < nI n)
theorem inR_nI {k n : Nat} (hk : k < 2 ^ 31) (hn : n < 2 ^ 31) : inR n (nI k) = decide (k < n) := by
  unfold inR
  have h0 : decide (¬ nI k < 0) = true := by rw [decide_eq_true_iff]; exact nI_pos hk
  rw [h0, Bool.true_and]
  by_cases h : k < n
  · simp [h, nI_lt h hn]
  · simp [h, nI_nlt (Nat.le_of_not_lt h) hk]
theorem inR_t {k n : Nat} (hn : n < 2 ^ 31) (hk : k < n) : inR n (nI k) = true := by
  rw [inR_nI (by omega) hn]; simpa using hk
theorem inR_cases {n : Nat} (hn : n < 2 ^ 31) (p : Int32) :
    (inR n p = false ∧ (p < 0 ∨ ¬ p < nI n)) ∨ ∃ j, j < n ∧ p = nI j ∧ ¬ p < 0 ∧ p < nI n ∧ inR n p = true := by
  rcases pk_ix p hn with h | h | ⟨j, hj, rfl⟩
  · left; refine ⟨?_, .inl h⟩; simp [inR, h]
  · left
    have h2 : ¬ p < nI n := Int32.not_lt.mpr h
    refine ⟨?_, .inr h2⟩; simp [inR, h2]
  · right; exact ⟨j, hj, rfl, nI_pos (by omega), nI_lt hj hn, inR_t hn hj⟩
-- memory
theorem xs_ne {μ : XM} {t i t' i' : Nat} {o : XO} (h : ¬ (t' = t ∧ i' = i)) : xset μ t i o t' i' = μ t' i' := if_neg h
theorem sI_ne {μ : XM} {t i j t' i' : Nat} {x : Int32} (h : ¬ (t' = t ∧ i' = i)) : sI μ t i j x t' i' = μ t' i' := if_neg h
theorem sL_ne {μ : XM} {t i j t' i' : Nat} {x : Int64} (h : ¬ (t' = t ∧ i' = i)) : sL μ t i j x t' i' = μ t' i' := if_neg h
theorem wI_ne {μ : XM} {t i j t' i' : Nat} {f : Nat → Int32} (h : ¬ (t' = t ∧ i' = i)) : wI μ t i j f t' i' = μ t' i' := if_neg h
theorem wL_ne {μ : XM} {t i j t' i' : Nat} {f : Nat → Int64} (h : ¬ (t' = t ∧ i' = i)) : wL μ t i j f t' i' = μ t' i' := if_neg h
theorem pI_ne {μ : XM} {t i j k t' i' : Nat} {x : Int32} (h : ¬ (t' = t ∧ i' = i)) : pI μ t i j k x t' i' = μ t' i' := if_neg h
theorem pL_ne {μ : XM} {t i j k t' i' : Nat} {x : Int64} (h : ¬ (t' = t ∧ i' = i)) : pL μ t i j k x t' i' = μ t' i' := if_neg h
theorem rI_pI (μ : XM) (t i j k t' i' j' : Nat) (x : Int32) : rI (pI μ t i j k x) t' i' j' = rI μ t' i' j' := rI_wI _ _ _ _ _ _ _ _
theorem rI_pL (μ : XM) (t i j k t' i' j' : Nat) (x : Int64) : rI (pL μ t i j k x) t' i' j' = rI μ t' i' j' := rI_wL _ _ _ _ _ _ _ _
theorem rL_pI (μ : XM) (t i j k t' i' j' : Nat) (x : Int32) : rL (pI μ t i j k x) t' i' j' = rL μ t' i' j' := rL_wI _ _ _ _ _ _ _ _
theorem rL_pL (μ : XM) (t i j k t' i' j' : Nat) (x : Int64) : rL (pL μ t i j k x) t' i' j' = rL μ t' i' j' := rL_wL _ _ _ _ _ _ _ _
theorem aI_pL (μ : XM) (t i j k t' i' j' : Nat) (x : Int64) : aI (pL μ t i j k x) t' i' j' = aI μ t' i' j' := aI_wL _ _ _ _ _ _ _ _
theorem aI_pI (μ : XM) (t i j k t' i' j' k' : Nat) (x : Int32) : aI (pI μ t i j k x) t' i' j' k' = if t' = t ∧ i' = i ∧ j' = j ∧ k' = k then x else aI μ t' i' j' k' := by
  unfold pI
  rw [aI_wI]
  by_cases h : t' = t ∧ i' = i ∧ j' = j
  · obtain ⟨rfl, rfl, rfl⟩ := h
    by_cases hk : k' = k
    · subst hk; simp [pk_us]
    · simp [hk, pk_un]
  · have : ¬ (t' = t ∧ i' = i ∧ j' = j ∧ k' = k) := fun e => h ⟨e.1, e.2.1, e.2.2.1⟩
    rw [if_neg h, if_neg this]
theorem aL_pI (μ : XM) (t i j k t' i' j' : Nat) (x : Int32) : aL (pI μ t i j k x) t' i' j' = aL μ t' i' j' := aL_wI _ _ _ _ _ _ _ _
theorem aL_pL (μ : XM) (t i j k t' i' j' k' : Nat) (x : Int64) : aL (pL μ t i j k x) t' i' j' k' = if t' = t ∧ i' = i ∧ j' = j ∧ k' = k then x else aL μ t' i' j' k' := by
  unfold pL
  rw [aL_wL]
  by_cases h : t' = t ∧ i' = i ∧ j' = j
  · obtain ⟨rfl, rfl, rfl⟩ := h
    by_cases hk : k' = k
    · subst hk; simp [pk_uLs]
    · simp [hk, pk_uLn]
  · have : ¬ (t' = t ∧ i' = i ∧ j' = j ∧ k' = k) := fun e => h ⟨e.1, e.2.1, e.2.2.1⟩
    rw [if_neg h, if_neg this]
theorem xcpk (n : Nat) (h : n < 2 ^ 31) {a b : Nat} (ha : n ≤ a) (hb : n ≤ b) : xcpok 0 0 (nI n) a b = true := by
  unfold xcpok
  rw [nI_clamp h]
  have : decide (nI n < 0) = false := by rw [decide_eq_false_iff_not]; exact nI_pos h
  rw [this]
  have e : Int32.toNatClampNeg 0 = 0 := rfl
  rw [e]
  simp [ha, hb]
theorem cpy_at {f g : Nat → Int32} {n k : Nat} : va_cpy f g 0 0 n k = if k < n then f k else g k := by
  by_cases h : k < n
  · rw [if_pos h, pk_cpy_in (Nat.zero_le _) (by omega)]; simp
  · rw [if_neg h, pk_cpy_out (by omega)]
theorem cpy_atL {f g : Nat → Int64} {n k : Nat} : va_cpy f g 0 0 n k = if k < n then f k else g k := by
  by_cases h : k < n
  · rw [if_pos h, pk_cpy_in (Nat.zero_le _) (by omega)]; simp
  · rw [if_neg h, pk_cpy_out (by omega)]
/-- a read of an object that is the same -/
theorem rI_ob {μ ν : XM} {t i : Nat} (h : μ t i = ν t i) (j : Nat) : rI μ t i j = rI ν t i j := by unfold rI; rw [h]
theorem rL_ob {μ ν : XM} {t i : Nat} (h : μ t i = ν t i) (j : Nat) : rL μ t i j = rL ν t i j := by unfold rL; rw [h]
theorem aI_ob {μ ν : XM} {t i : Nat} (h : μ t i = ν t i) (j : Nat) : aI μ t i j = aI ν t i j := by unfold aI; rw [h]
theorem aL_ob {μ ν : XM} {t i : Nat} (h : μ t i = ν t i) (j : Nat) : aL μ t i j = aL ν t i j := by unfold aL; rw [h]
