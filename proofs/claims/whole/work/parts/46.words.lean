/-! THE PURE PART: words and tokens -/
def cow (k : Nat) : List Nat := match k with
  | 0 => [7, 21, 5, 19, 20]
  | 1 => [2, 5, 12, 20]
  | 2 => [13, 1, 14]
  | 3 => [8, 15, 12, 5, 19]
  | 4 => [23, 1, 20, 5, 18]
  | 5 => [18, 9, 19, 5, 19]
  | 6 => [1, 20]
  | 7 => [3, 8, 9, 14]
  | 8 => [2, 18, 5, 1, 20, 8]
  | 9 => [23, 5, 9, 7, 8, 19]
  | 10 => [2, 5, 1, 18, 19]
  | 11 => [18, 5, 1, 3, 8]
  | 12 => [16, 12, 1, 9, 14]
  | 13 => [23, 1, 22, 5, 18]
  | 14 => [8, 5, 1, 22, 25]
  | 15 => [19, 8, 1, 2, 2, 25]
  | 16 => [13, 9, 14, 21, 20, 5]
  | 17 => [3, 1, 19, 20]
  | 18 => [1, 19, 11]
  | 19 => [19, 20, 15, 16]
  | 20 => [14, 15, 20]
  | 21 => [1, 14, 4]
  | 22 => [15, 18]
  | 23 => [7, 1, 16, 19]
  | 24 => [4, 5, 16, 20, 8]
  | 25 => [20, 1, 12, 11]
  | _ => [15, 21, 20]
/-- the reference's word k is the component's word cpx k -/
def cpx (k : Nat) : Nat := match k with
  | 0 => 0 | 1 => 6 | 2 => 7 | 3 => 8 | 4 => 9 | 5 => 1 | 6 => 10 | 7 => 2 | 8 => 11 | 9 => 3 | 10 => 4 | 11 => 5 | 12 => 16 | 13 => 17 | 14 => 18 | 15 => 19
  | 16 => 12 | 17 => 13 | 18 => 14 | 19 => 15 | 20 => 20 | 21 => 21 | 22 => 22 | 23 => 23 | 24 => 24 | 25 => 25 | _ => 26
theorem wd_cow : ∀ k, k < 27 → wd k = cow (cpx k) := by decide
theorem cpx_lt : ∀ k, cpx k < 27 := by intro k; unfold cpx; split <;> decide
theorem cow_inj : ∀ j, j < 27 → ∀ k, k < 27 → cow j = cow k → j = k := by decide +kernel
theorem cow_WV : ∀ k, k < 27 → 1 ≤ (cow k).length ∧ (cow k).length ≤ 8 ∧ (cow k).all (fun x => decide (1 ≤ x) && decide (x ≤ 26)) = true := by decide +kernel
def kdf (w : List Nat) : Nat → Nat
  | 0 => 3
  | n + 1 => if w = cow (26 - n) then 128 + (26 - n) else kdf w n
/-- a word's kind: 128 and so on for the words of the language, else 3 -/
def kdw (w : List Nat) : Nat := kdf w 27
theorem kdf_cases (w : List Nat) : ∀ n, n ≤ 27 → (kdf w n = 3 ∧ ∀ k, 27 - n ≤ k → k < 27 → ¬ w = cow k) ∨ ∃ k, 27 - n ≤ k ∧ k < 27 ∧ kdf w n = 128 + k ∧ w = cow k
  | 0, _ => .inl ⟨rfl, fun k h1 h2 => by omega⟩
  | n + 1, hn => by
    rw [kdf]
    by_cases e : w = cow (26 - n)
    · rw [if_pos e]; exact .inr ⟨26 - n, by omega, by omega, rfl, e⟩
    · rw [if_neg e]
      rcases kdf_cases w n (by omega) with ⟨h1, h2⟩ | ⟨k, h1, h2, h3, h4⟩
      · refine .inl ⟨h1, fun k k1 k2 => ?_⟩
        by_cases ek : k = 26 - n
        · rw [ek]; exact e
        · exact h2 k (by omega) k2
      · exact .inr ⟨k, by omega, h2, h3, h4⟩
theorem kdw_cases (w : List Nat) : (kdw w = 3 ∧ ∀ k, k < 27 → ¬ w = cow k) ∨ ∃ k, k < 27 ∧ kdw w = 128 + k ∧ w = cow k := by
  rcases kdf_cases w 27 (by omega) with ⟨h1, h2⟩ | ⟨k, h1, h2, h3, h4⟩
  · exact .inl ⟨h1, fun k hk => h2 k (by omega) hk⟩
  · exact .inr ⟨k, h2, h3, h4⟩
theorem kdw_eq {w : List Nat} {k : Nat} (hk : k < 27) : (kdw w = 128 + k) = (w = cow k) := by
  rcases kdw_cases w with ⟨h1, h2⟩ | ⟨j, h2, h3, h4⟩
  · rw [h1]; exact propext ⟨fun e => by omega, fun e => absurd e (h2 k hk)⟩
  · rw [h3]
    refine propext ⟨fun e => ?_, fun e => ?_⟩
    · have : j = k := by omega
      rw [← this]; exact h4
    · have := cow_inj j h2 k hk (h4.symm.trans e)
      omega
-- words as numbers
theorem vb_snoc (b : Nat) (w : List Nat) (x : Nat) : vb b (w ++ [x]) = b * vb b w + x := by unfold vb; rw [List.foldl_append]; rfl
theorem vb_nil (b : Nat) : vb b [] = 0 := rfl
theorem vb_inj {b : Nat} (hb : 26 < b) : ∀ n (w w' : List Nat), w.length = n → (∀ x, x ∈ w → 1 ≤ x ∧ x ≤ 26) → (∀ x, x ∈ w' → 1 ≤ x ∧ x ≤ 26) → vb b w = vb b w' → w = w'
  | 0, w, w', hn, _, h2, e => by
    have : w = [] := List.length_eq_zero_iff.mp hn
    subst this
    rcases List.eq_nil_or_concat w' with rfl | ⟨u, x, rfl⟩
    · rfl
    · rw [List.concat_eq_append, vb_snoc, vb_nil] at e
      have := h2 x (by simp)
      omega
  | n + 1, w, w', hn, h1, h2, e => by
    rcases List.eq_nil_or_concat w with rfl | ⟨v, y, rfl⟩
    · simp at hn
    · rw [List.concat_eq_append] at *
      have hy := h1 y (by simp)
      rcases List.eq_nil_or_concat w' with rfl | ⟨u, x, rfl⟩
      · rw [vb_snoc, vb_nil] at e; omega
      · rw [List.concat_eq_append] at *
        have hx := h2 x (by simp)
        rw [vb_snoc, vb_snoc] at e
        have e1 : y = x := by
          have a := congrArg (· % b) e
          simp only [Nat.mul_add_mod] at a
          rwa [Nat.mod_eq_of_lt (by omega), Nat.mod_eq_of_lt (by omega)] at a
        subst e1
        have e2 : vb b v = vb b u := Nat.eq_of_mul_eq_mul_left (show 0 < b by omega) (by omega)
        have := vb_inj hb n v u (by simpa using hn) (fun z hz => h1 z (by simp [hz])) (fun z hz => h2 z (by simp [hz])) e2
        rw [this]
theorem vb_lt {b : Nat} (hb : 26 < b) : ∀ n (w : List Nat), w.length = n → (∀ x, x ∈ w → 1 ≤ x ∧ x ≤ 26) → vb b w < b ^ n
  | 0, w, hn, _ => by
    have : w = [] := List.length_eq_zero_iff.mp hn
    subst this; rw [vb_nil]; exact Nat.one_pos
  | n + 1, w, hn, h1 => by
    rcases List.eq_nil_or_concat w with rfl | ⟨v, y, rfl⟩
    · simp at hn
    · rw [List.concat_eq_append] at *
      have hy := h1 y (by simp)
      have ih := vb_lt hb n v (by simpa using hn) (fun z hz => h1 z (by simp [hz]))
      rw [vb_snoc, Nat.pow_succ]
      have : b * vb b v + b ≤ b ^ n * b := by
        have := Nat.mul_le_mul_left b (show vb b v + 1 ≤ b ^ n from ih)
        rw [Nat.mul_comm (b ^ n) b]; rw [Nat.mul_add, Nat.mul_one] at this; exact this
      omega
theorem vb_63 {b : Nat} (hb : 26 < b) (hb2 : b ≤ 37) {w : List Nat} (h : WV w) : vb b w < 2 ^ 63 := by
  have h1 := vb_lt hb w.length w rfl h.2.2
  have h2 : b ^ w.length ≤ 37 ^ 8 := Nat.le_trans (Nat.pow_le_pow_left hb2 _) (Nat.pow_le_pow_right (by decide) h.2.1)
  have h3 : (37 : Nat) ^ 8 < 2 ^ 63 := by decide
  omega
theorem vb_eq {b : Nat} (hb : 26 < b) (hb2 : b ≤ 37) {w w' : List Nat} (h : WV w) (h' : WV w') : (lN (vb b w) = lN (vb b w')) = (w = w') := by
  refine propext ⟨fun e => ?_, fun e => by rw [e]⟩
  exact vb_inj hb _ w w' rfl h.2.2 h'.2.2 ((pk_lEQ (vb_63 hb hb2 h) (vb_63 hb hb2 h')).mp e)
theorem cow_W {k : Nat} (hk : k < 27) : WV (cow k) := by
  obtain ⟨h1, h2, h3⟩ := cow_WV k hk
  refine ⟨h1, h2, fun x hx => ?_⟩
  have := List.all_eq_true.mp h3 x hx
  simpa using this
-- the tokens of a tape
def isB (c : Nat) : Bool := decide (c = 32) || decide (c = 10)
def isL (c : Nat) : Bool := decide (97 ≤ c) && decide (c ≤ 122)
def isD (c : Nat) : Bool := decide (48 ≤ c) && decide (c ≤ 57)
def isG (c : Nat) : Bool := decide (c = 40) || (decide (c = 41) || (decide (c = 59) || (decide (c = 61) || (decide (c = 60) || (decide (c = 43) || (decide (c = 45) || decide (c = 42)))))))
def run (c : Nat → Bool) : Nat → Nat → Nat
  | 0, k => k
  | d + 1, k => if c k = true then run c d (k + 1) else k
theorem run_ge (c : Nat → Bool) : ∀ d k, k ≤ run c d k ∧ run c d k ≤ k + d
  | 0, k => ⟨Nat.le_refl _, Nat.le_refl _⟩
  | d + 1, k => by
    rw [run]
    split
    · have := run_ge c d (k + 1); omega
    · omega
theorem run_in (c : Nat → Bool) : ∀ d k j, k ≤ j → j < run c d k → c j = true
  | 0, k, j, h1, h2 => by rw [run] at h2; omega
  | d + 1, k, j, h1, h2 => by
    rw [run] at h2
    split at h2
    · rename_i hc
      by_cases e : j = k
      · rw [e]; exact hc
      · exact run_in c d (k + 1) j (by omega) h2
    · omega
def skp (T : TP) (p : Nat) : Nat := run (fun k => isB (T.2 k)) (T.1 - p) p
def eL (T : TP) (q : Nat) : Nat := run (fun k => isL (T.2 k)) (T.1 - q) q
def eD (T : TP) (q : Nat) : Nat := run (fun k => isD (T.2 k)) (T.1 - q) q
/-- n letters from q on, and the number of n figures -/
def wrd (T : TP) (q : Nat) : Nat → List Nat
  | 0 => []
  | n + 1 => wrd T q n ++ [T.2 (q + n) - 96]
def fig (T : TP) (q : Nat) : Nat → Nat
  | 0 => 0
  | n + 1 => 10 * fig T q n + (T.2 (q + n) - 48)
def wq (T : TP) (q : Nat) : List Nat := wrd T q (eL T q - q)
def vq (T : TP) (q : Nat) : Nat := fig T q (eD T q - q)
def kq (T : TP) (q : Nat) : Nat :=
  if T.1 ≤ q then 0 else if isL (T.2 q) = true then (if 8 < eL T q - q then 1 else kdw (wq T q)) else if isD (T.2 q) = true then (if 4 < eD T q - q then 1 else 2) else if isG (T.2 q) = true then T.2 q else 1
def nq (T : TP) (q : Nat) : Nat :=
  if T.1 ≤ q then q else if isL (T.2 q) = true then eL T q else if isD (T.2 q) = true then eD T q else q + 1
def PT (T : TP) : Nat → Nat
  | 0 => skp T 0
  | j + 1 => skp T (nq T (PT T j))
theorem wrd_len {T : TP} {q : Nat} : ∀ n, (wrd T q n).length = n
  | 0 => rfl
  | n + 1 => by rw [wrd, List.length_append, wrd_len n]; rfl
theorem wrd_in {T : TP} {q : Nat} : ∀ n, (∀ j, q ≤ j → j < q + n → isL (T.2 j) = true) → ∀ x, x ∈ wrd T q n → 1 ≤ x ∧ x ≤ 26
  | 0, _, x, hx => by cases hx
  | n + 1, h, x, hx => by
    rw [wrd, List.mem_append] at hx
    rcases hx with hx | hx
    · exact wrd_in n (fun j h1 h2 => h j h1 (by omega)) x hx
    · have := h (q + n) (by omega) (by omega)
      simp [isL] at this hx
      omega
theorem skp_le {T : TP} {p : Nat} (h : p ≤ T.1) : p ≤ skp T p ∧ skp T p ≤ T.1 := by
  have := run_ge (fun k => isB (T.2 k)) (T.1 - p) p
  unfold skp; omega
theorem eL_le {T : TP} {p : Nat} (h : p ≤ T.1) : p ≤ eL T p ∧ eL T p ≤ T.1 := by
  have := run_ge (fun k => isL (T.2 k)) (T.1 - p) p
  unfold eL; omega
theorem eD_le {T : TP} {p : Nat} (h : p ≤ T.1) : p ≤ eD T p ∧ eD T p ≤ T.1 := by
  have := run_ge (fun k => isD (T.2 k)) (T.1 - p) p
  unfold eD; omega
theorem eL_gt {T : TP} {p : Nat} (h : p < T.1) (hc : isL (T.2 p) = true) : p < eL T p := by
  unfold eL
  obtain ⟨d, hd⟩ : ∃ d, T.1 - p = d + 1 := ⟨T.1 - p - 1, by omega⟩
  rw [hd, run, if_pos hc]
  have := run_ge (fun k => isL (T.2 k)) d (p + 1); omega
theorem eD_gt {T : TP} {p : Nat} (h : p < T.1) (hc : isD (T.2 p) = true) : p < eD T p := by
  unfold eD
  obtain ⟨d, hd⟩ : ∃ d, T.1 - p = d + 1 := ⟨T.1 - p - 1, by omega⟩
  rw [hd, run, if_pos hc]
  have := run_ge (fun k => isD (T.2 k)) d (p + 1); omega
theorem nq_gt {T : TP} {q : Nat} (h : q < T.1) : q < nq T q ∧ nq T q ≤ T.1 := by
  unfold nq
  rw [if_neg (by omega)]
  split
  · rename_i hc; exact ⟨eL_gt h hc, (eL_le (by omega)).2⟩
  · split
    · rename_i hc; exact ⟨eD_gt h hc, (eD_le (by omega)).2⟩
    · omega
theorem nq_le {T : TP} {q : Nat} (h : q ≤ T.1) : q ≤ nq T q ∧ nq T q ≤ T.1 := by
  by_cases e : q < T.1
  · have := nq_gt e; omega
  · unfold nq; rw [if_pos (by omega)]; omega
theorem PT_le (T : TP) : ∀ j, PT T j ≤ T.1
  | 0 => (skp_le (Nat.zero_le _)).2
  | j + 1 => (skp_le (nq_le (PT_le T j)).2).2
theorem PT_gt (T : TP) {j : Nat} (h : PT T j < T.1) : PT T j < PT T (j + 1) := by
  have h1 := nq_gt h
  have h2 := skp_le h1.2
  rw [PT]; omega
theorem PT_ge (T : TP) : ∀ j, j ≤ PT T j ∨ PT T j = T.1
  | 0 => .inl (Nat.zero_le _)
  | j + 1 => by
    by_cases e : PT T j = T.1
    · right
      rw [PT, e]
      have h1 := nq_le (T := T) (q := T.1) (Nat.le_refl _)
      have h2 := skp_le h1.2
      omega
    · have h1 := PT_le T j
      have h2 := PT_gt T (show PT T j < T.1 by omega)
      rcases PT_ge T j with h | h
      · left; omega
      · exact absurd h e
/-- how many tokens there are -/
theorem PT_end (T : TP) : ∃ m, m ≤ T.1 ∧ PT T m = T.1 ∧ ∀ j, j < m → PT T j < T.1 := by
  obtain ⟨m, h1, h2⟩ := pk_least (fun j => PT T j = T.1) ⟨T.1, by
    have := PT_le T T.1
    rcases PT_ge T T.1 with h | h
    · omega
    · exact h⟩
  refine ⟨m, ?_, h1, fun j hj => ?_⟩
  · by_cases e : m = 0
    · omega
    · have h3 := h2 (m - 1) (by omega)
      have h4 := PT_le T (m - 1)
      rcases PT_ge T (m - 1) with h | h
      · omega
      · exact absurd h h3
  · have := PT_le T j
    have h3 := h2 j hj
    omega
theorem kq_0 {T : TP} {q : Nat} : (kq T q = 0) = (T.1 ≤ q) := by
  unfold kq
  by_cases h : T.1 ≤ q
  · rw [if_pos h]; simp [h]
  · rw [if_neg h]
    refine propext ⟨fun e => ?_, fun e => absurd e h⟩
    exfalso
    split at e
    · split at e
      · cases e
      · rcases kdw_cases (wq T q) with ⟨h1, _⟩ | ⟨k, _, h1, _⟩ <;> omega
    · split at e
      · split at e <;> cases e
      · split at e
        · rename_i hg; rw [e] at hg; revert hg; decide
        · cases e
theorem wq_W {T : TP} {q : Nat} (h : kq T q = 3 ∨ 128 ≤ kq T q) : q < T.1 ∧ isL (T.2 q) = true ∧ eL T q - q ≤ 8 ∧ WV (wq T q) ∧ kq T q = kdw (wq T q) := by
  unfold kq at *
  by_cases h0 : T.1 ≤ q
  · rw [if_pos h0] at h; omega
  rw [if_neg h0] at *
  by_cases h1 : isL (T.2 q) = true
  · rw [if_pos h1] at *
    by_cases h2 : 8 < eL T q - q
    · rw [if_pos h2] at h; omega
    · rw [if_neg h2] at *
      have h3 := eL_gt (show q < T.1 by omega) h1
      refine ⟨by omega, h1, by omega, ⟨?_, ?_, ?_⟩, rfl⟩
      · unfold wq; rw [wrd_len]; omega
      · unfold wq; rw [wrd_len]; omega
      · exact wrd_in _ (fun j j1 j2 => run_in _ (T.1 - q) q j j1 (by show j < eL T q; omega))
  · rw [if_neg h1] at *
    exfalso
    split at h
    · split at h <;> omega
    · split at h
      · rename_i hg; simp [isG] at hg; omega
      · omega
theorem fig_lt {T : TP} {q : Nat} : ∀ n, (∀ j, q ≤ j → j < q + n → isD (T.2 j) = true) → fig T q n < 10 ^ n
  | 0, _ => Nat.one_pos
  | n + 1, h => by
    have ih := fig_lt n (fun j h1 h2 => h j h1 (by omega))
    have := h (q + n) (by omega) (by omega)
    simp [isD] at this
    rw [fig, Nat.pow_succ]
    omega
theorem vq_lt {T : TP} {q : Nat} (h : kq T q = 2) : q < T.1 ∧ isL (T.2 q) = false ∧ isD (T.2 q) = true ∧ eD T q - q ≤ 4 ∧ vq T q < 10000 := by
  unfold kq at h
  by_cases h0 : T.1 ≤ q
  · rw [if_pos h0] at h; omega
  rw [if_neg h0] at h
  by_cases h1 : isL (T.2 q) = true
  · rw [if_pos h1] at h
    split at h
    · omega
    · rcases kdw_cases (wq T q) with ⟨h1, _⟩ | ⟨k, _, h1, _⟩ <;> omega
  · rw [if_neg h1] at h
    by_cases h2 : isD (T.2 q) = true
    · rw [if_pos h2] at h
      have h3 : ¬ 4 < eD T q - q := fun h3 => by rw [if_pos h3] at h; omega
      have h4 := fig_lt (T := T) (q := q) (eD T q - q) (fun j j1 j2 => run_in _ (T.1 - q) q j j1 (by show j < eD T q; omega))
      have h5 : 10 ^ (eD T q - q) ≤ 10 ^ 4 := Nat.pow_le_pow_right (by decide) (by omega)
      refine ⟨by omega, by simpa using h1, h2, by omega, ?_⟩
      unfold vq; omega
    · rw [if_neg h2] at h
      exfalso
      split at h
      · rename_i hg; simp [isG] at hg; omega
      · omega
