/-! THE PURE PART: a drafted house on both sides, and how it grows -/
/-- the reference's drafted house -/
def RHd (h : HS) (μ : XM) : Prop :=
  (hG h ≤ 6 ∧ hB h ≤ 5 ∧ hM h ≤ 3) ∧
  (aI μ 12 0 10 60 = nI (hG h) ∧ aI μ 12 0 10 61 = nI (hB h) ∧ aI μ 12 0 10 62 = nI (hM h) ∧ aI μ 12 0 10 63 = hf h 8 0 ∧ aI μ 12 0 10 64 = hf h 9 0) ∧
  (∀ g, g < hG h → aI μ 12 0 10 (66 + 5 * g + 0) = hf h 0 g ∧ aI μ 12 0 10 (66 + 5 * g + 1) = hf h 1 g ∧ aI μ 12 0 10 (66 + 5 * g + 2) = hf h 2 g ∧ aI μ 12 0 10 (66 + 5 * g + 3) = hf h 3 g ∧ (aI μ 12 0 10 (66 + 5 * g + 4) + (if hf h 0 g = 2 then 5 else 0) = hf h 4 g)) ∧
  (∀ b, b < hB h → aI μ 12 0 10 (96 + b) = hf h 5 b) ∧
  (∀ m, m < hM h → aI μ 12 0 10 (101 + 2 * m + 0) = hf h 6 m ∧ aI μ 12 0 10 (101 + 2 * m + 1) = hf h 7 m)
def flg (f1 f2 f3 : Bool) : Nat := (if f1 then 1 else 0) + (if f2 then 2 else 0) + (if f3 then 4 else 0)
def DC (h : HS) (f1 f2 f3 : Bool) (μ : XM) : Prop := CH 1 h μ ∧ CNm h 1 μ ∧ LC 1 (hC h) μ ∧ rI μ 7 0 2 = b2 f1 ∧ rI μ 7 0 3 = b2 f2 ∧ rI μ 7 0 4 = b2 f3
def DL (h : HS) (f3 : Bool) (μ : XM) : Prop := (f3 = false ∧ hC h = [] ∧ aI μ 12 0 10 65 = -1 ∧ RD [] μ) ∨ (f3 = true ∧ hC h ≠ [] ∧ aI μ 12 0 10 65 = 0 ∧ RD (hC h ++ [(0, 0)]) μ)
def DR (h : HS) (f1 f2 f3 : Bool) (μ : XM) : Prop := RHd h μ ∧ RNs 19 17 15 h μ ∧ rI μ 12 0 19 = nI (hG h + hB h + hM h) ∧ rI μ 12 0 20 = nI (flg f1 f2 f3) ∧ DL h f3 μ
def DI (h : HS) : Prop := HI h ∧ LW (hC h) ∧ NI h
/-- the draft and the tape alone are other -/
def FD (μ ν : XM) : Prop := ∀ t j, ¬ (t = 10 ∧ j = 0) → ¬ (t = 2 ∧ j = 1) → ¬ (t = 4 ∧ j = 1) → ¬ (t = 7 ∧ j = 0) → ν t j = μ t j
theorem FD_t {μ ν ξ : XM} (a : FD μ ν) (b : FD ν ξ) : FD μ ξ := fun t j h1 h2 h3 h4 => (b t j h1 h2 h3 h4).trans (a t j h1 h2 h3 h4)
theorem FD_r {μ : XM} : FD μ μ := fun _ _ _ _ _ _ => rfl
theorem FTp_D {μ ν : XM} (a : FTp μ ν) : FD μ ν := fun t j h _ _ _ => a t j h
theorem FE_D {μ ν : XM} (a : FE μ ν) : FD μ ν := fun t j h _ h3 _ => a t j h h3
theorem FD_pI {μ : XM} {j k : Nat} {x : Int32} : FD μ (pI μ 2 1 j k x) := fun t i _ h _ _ => pI_ne h
theorem FD_pL {μ : XM} {j k : Nat} {x : Int64} : FD μ (pL μ 2 1 j k x) := fun t i _ h _ _ => pL_ne h
theorem FD_sI {μ : XM} {j : Nat} {x : Int32} : FD μ (sI μ 2 1 j x) := fun t i _ h _ _ => sI_ne h
theorem FD_s7 {μ : XM} {j : Nat} {x : Int32} : FD μ (sI μ 7 0 j x) := fun t i _ _ _ h => sI_ne h
/-- a line's outcome on both sides -/
def LO (T : TP) (m i : Nat) (μ ν : XM) (rc rr : XR) : Prop :=
  (∃ F, (0 < F ∧ F < 2 ^ 31) ∧ (∃ μ', rc = xri 0 μ' ∧ rI μ' 10 0 7 = nI F ∧ FD μ μ') ∧ ∃ ν', rr = xrv ν' ∧ FF F ν' ∧ FR ν ν') ∨
  (∃ i' h' f1 f2 f3, i < i' ∧ DI h' ∧ (∃ μ', rc = xri 1 μ' ∧ CO T m i' μ' ∧ DC h' f1 f2 f3 μ' ∧ FD μ μ') ∧ ∃ ν', rr = xrv ν' ∧ RO T m i' ν' ∧ DR h' f1 f2 f3 ν' ∧ FR ν ν')
theorem bV_assoc (r : XR) (f : XM → XR) (k : XM → XR) : (bV r fun m => bV (f m) k) = bV (bV r f) k := by
  unfold bV
  rcases r with _ | ⟨_ | v, μ⟩ <;> rfl
/-- one more of kind t, with a name -/
def adN (h : HS) (t : Nat) (w : List Nat) (f : Nat → Nat → Int32) : HS := ((hG h + (if t = 0 then 1 else 0), hB h + (if t = 1 then 1 else 0), hM h + (if t = 2 then 1 else 0)), f, hC h, fun t' i' => if t' = t ∧ i' = cnt h t then w else hN h t' i')
theorem adN_cnt {h : HS} {t : Nat} {w : List Nat} {f : Nat → Nat → Int32} {t' : Nat} (ht : t < 3) (ht' : t' < 3) : cnt (adN h t w f) t' = cnt h t' + if t' = t then 1 else 0 := by
  have h1 : t = 0 ∨ t = 1 ∨ t = 2 := by omega
  have h2 : t' = 0 ∨ t' = 1 ∨ t' = 2 := by omega
  rcases h1 with rfl | rfl | rfl <;> rcases h2 with rfl | rfl | rfl <;> rfl
theorem adN_N {h : HS} {t : Nat} {w : List Nat} {f : Nat → Nat → Int32} {t' i' : Nat} : hN (adN h t w f) t' i' = if t' = t ∧ i' = cnt h t then w else hN h t' i' := rfl
theorem adN_C {h : HS} {t : Nat} {w : List Nat} {f : Nat → Nat → Int32} : hC (adN h t w f) = hC h := rfl
theorem NI_adN {h : HS} {t : Nat} {w : List Nat} {f : Nat → Nat → Int32} (hN' : NI h) (hw : WV w) (hn : ¬ told h w) (ht : t < 3) : NI (adN h t w f) := by
  have old : ∀ t' i', t' < 3 → i' < cnt (adN h t w f) t' → ¬ (t' = t ∧ i' = cnt h t) → i' < cnt h t' := by
    intro t' i' h1 h2 h3
    rw [adN_cnt ht h1] at h2
    by_cases e : t' = t
    · rw [if_pos e] at h2
      have : i' ≠ cnt h t' := fun e2 => h3 ⟨e, by rw [e2, e]⟩
      omega
    · rw [if_neg e] at h2; exact h2
  refine ⟨fun t' i' h1 h2 => ?_, fun t1 i1 t2 i2 h1 h2 h3 h4 e => ?_⟩
  · rw [adN_N]
    by_cases e : t' = t ∧ i' = cnt h t
    · rw [if_pos e]; exact hw
    · rw [if_neg e]; exact hN'.1 t' i' h1 (old t' i' h1 h2 e)
  · rw [adN_N, adN_N] at e
    by_cases e1 : t1 = t ∧ i1 = cnt h t
    · by_cases e2 : t2 = t ∧ i2 = cnt h t
      · exact ⟨e1.1.trans e2.1.symm, e1.2.trans e2.2.symm⟩
      · rw [if_pos e1, if_neg e2] at e
        exact absurd ⟨t2, i2, h3, old t2 i2 h3 h4 e2, e.symm⟩ hn
    · by_cases e2 : t2 = t ∧ i2 = cnt h t
      · rw [if_neg e1, if_pos e2] at e
        exact absurd ⟨t1, i1, h1, old t1 i1 h1 h2 e1, e⟩ hn
      · rw [if_neg e1, if_neg e2] at e
        exact hN'.2 t1 i1 t2 i2 h1 (old t1 i1 h1 h2 e1) h3 (old t2 i2 h3 h4 e2) e
theorem RNs_adN {h : HS} {t : Nat} {w : List Nat} {f : Nat → Nat → Int32} {μ ν : XM} {N : Nat} (hR : RNs 19 17 15 h μ) (ht : t < 3) (hN : N < 14) (h19 : rI μ 12 0 19 = nI N) (g19 : rI ν 12 0 19 = nI (N + 1)) (g17 : ∀ k, aI ν 12 0 17 k = if k = N then nI (20 * t + cnt h t) else aI μ 12 0 17 k) (g15 : ∀ k, aL ν 12 0 15 k = if k = N then lN (vb 37 w) else aL μ 12 0 15 k) : RNs 19 17 15 (adN h t w f) ν := by
  obtain ⟨nm, tk, ik, n1, n2, n3, n4⟩ := hR
  have hnm : nm = N := (nI_eq (by omega) (by omega)).mp (n2.symm.trans h19)
  subst hnm
  refine ⟨nm + 1, fun k => if k = nm then t else tk k, fun k => if k = nm then cnt h t else ik k, by omega, g19, fun k hk => ?_, fun t' i' h1 h2 => ?_⟩
  · by_cases e : k = nm
    · simp only [e, ↓reduceIte]
      refine ⟨ht, ?_, ?_, ?_⟩
      · rw [adN_cnt ht ht, if_pos rfl]; omega
      · rw [g17, if_pos rfl]
      · rw [g15, if_pos rfl, adN_N, if_pos ⟨rfl, rfl⟩]
    · simp only [e, ↓reduceIte]
      obtain ⟨m1, m2, m3, m4⟩ := n3 k (by omega)
      have hne : ¬ (tk k = t ∧ ik k = cnt h t) := fun q => by
        have := q.2; rw [q.1] at m2; omega
      refine ⟨m1, ?_, ?_, ?_⟩
      · rw [adN_cnt ht m1]; omega
      · rw [g17, if_neg e]; exact m3
      · rw [g15, if_neg e, adN_N, if_neg hne]; exact m4
  · by_cases e : t' = t ∧ i' = cnt h t
    · exact ⟨nm, by omega, by simp [e.1], by simp [e.2]⟩
    · have hi : i' < cnt h t' := by
        rw [adN_cnt ht h1] at h2
        by_cases e1 : t' = t
        · rw [if_pos e1] at h2
          have : i' ≠ cnt h t' := fun e2 => e ⟨e1, by rw [e2, e1]⟩
          omega
        · rw [if_neg e1] at h2; exact h2
      obtain ⟨k, k1, k2, k3⟩ := n4 t' i' h1 hi
      refine ⟨k, by omega, ?_, ?_⟩
      · have : ¬ k = nm := by omega
        simp only [this, ↓reduceIte]; exact k2
      · have : ¬ k = nm := by omega
        simp only [this, ↓reduceIte]; exact k3
-- the three
def fG (h : HS) (k p c b wt : Nat) : Nat → Nat → Int32 := fun j g => if g = hG h then (match j with | 0 => nI k | 1 => nI p | 2 => nI c | 3 => nI b | 4 => nI wt + (if nI k = 2 then 5 else 0) | _ => hf h j g) else hf h j g
def fB (h : HS) (x : Nat) : Nat → Nat → Int32 := fun j g => if j = 5 ∧ g = hB h then nI x else hf h j g
def fM (h : HS) (p r : Nat) : Nat → Nat → Int32 := fun j g => if g = hM h then (match j with | 6 => nI p | 7 => nI r | _ => hf h j g) else hf h j g
section
variable {μ ν : XM} {h : HS} {w : List Nat}
theorem CH_adG {k p c b wt : Nat} (hH : CH 1 h μ) (hNm : CNm h 1 μ) (hn : hG h < 6) (r0 : rI ν 2 1 0 = nI (hG h + 1)) (r : ∀ j, 1 ≤ j → j ≤ 4 → rI ν 2 1 j = rI μ 2 1 j) (a5 : ∀ g, aL ν 2 1 5 g = if g = hG h then lN (vb 32 w) else aL μ 2 1 5 g) (a6 : ∀ g, aI ν 2 1 6 g = if g = hG h then nI k else aI μ 2 1 6 g) (a7 : ∀ g, aI ν 2 1 7 g = if g = hG h then nI p else aI μ 2 1 7 g) (a8 : ∀ g, aI ν 2 1 8 g = if g = hG h then nI c else aI μ 2 1 8 g) (a9 : ∀ g, aI ν 2 1 9 g = if g = hG h then nI b else aI μ 2 1 9 g) (a10 : ∀ g, aI ν 2 1 10 g = if g = hG h then nI wt + (if nI k = 2 then 5 else 0) else aI μ 2 1 10 g) (a12 : ∀ j, 12 ≤ j → aI ν 2 1 j = aI μ 2 1 j) (aL11 : ∀ j, 11 ≤ j → aL ν 2 1 j = aL μ 2 1 j) : CH 1 (adN h 0 w (fG h k p c b wt)) ν ∧ CNm (adN h 0 w (fG h k p c b wt)) 1 ν := by
  obtain ⟨⟨q1, q2, q3⟩, ⟨q4, q5, q6, q7, q8⟩, q9, q10, q11⟩ := hH
  refine ⟨⟨⟨by show hG h + 1 ≤ 6; omega, q2, q3⟩, ⟨r0, (r 1 (by omega) (by omega)).trans q5, (r 2 (by omega) (by omega)).trans q6, ?_, ?_⟩, fun g hg => ?_, fun g hg => ?_, fun g hg => ?_⟩, fun g hg => ?_, fun g hg => ?_, fun g hg => ?_⟩
  · rw [r 3 (by omega) (by omega), q7]; show hf h 8 0 = fG h k p c b wt 8 0; unfold fG; split <;> rfl
  · rw [r 4 (by omega) (by omega), q8]; show hf h 9 0 = fG h k p c b wt 9 0; unfold fG; split <;> rfl
  · replace hg : g < hG h + 1 := hg
    show aI ν 2 1 6 g = fG h k p c b wt 0 g ∧ aI ν 2 1 7 g = fG h k p c b wt 1 g ∧ aI ν 2 1 8 g = fG h k p c b wt 2 g ∧ aI ν 2 1 9 g = fG h k p c b wt 3 g ∧ aI ν 2 1 10 g = fG h k p c b wt 4 g
    rw [a6, a7, a8, a9, a10]
    unfold fG
    by_cases e : g = hG h
    · simp only [e, ↓reduceIte, and_self]
    · simp only [e, ↓reduceIte]; exact q9 g (by omega)
  · rw [a12 12 (by omega)]
    show _ = fG h k p c b wt 5 g
    have := q10 g hg
    rw [this]; unfold fG; split <;> rfl
  · rw [a12 14 (by omega), a12 15 (by omega)]
    show _ = fG h k p c b wt 6 g ∧ _ = fG h k p c b wt 7 g
    have := q11 g hg
    rw [this.1, this.2]; unfold fG; split <;> exact ⟨rfl, rfl⟩
  · replace hg : g < hG h + 1 := hg
    rw [a5, adN_N]
    by_cases e : g = hG h
    · rw [if_pos e, if_pos ⟨rfl, e⟩]
    · rw [if_neg e, if_neg (fun q => e q.2)]; exact hNm.1 g (by omega)
  · rw [aL11 11 (by omega), adN_N, if_neg (fun q => by omega)]; exact hNm.2.1 g hg
  · rw [aL11 13 (by omega), adN_N, if_neg (fun q => by omega)]; exact hNm.2.2 g hg
theorem CH_adB {x : Nat} (hH : CH 1 h μ) (hNm : CNm h 1 μ) (hn : hB h < 5) (r1 : rI ν 2 1 1 = nI (hB h + 1)) (r : ∀ j, j ≠ 1 → j ≤ 4 → rI ν 2 1 j = rI μ 2 1 j) (a11 : ∀ g, aL ν 2 1 11 g = if g = hB h then lN (vb 32 w) else aL μ 2 1 11 g) (a12 : ∀ g, aI ν 2 1 12 g = if g = hB h then nI x else aI μ 2 1 12 g) (ao : ∀ j, j ≠ 12 → aI ν 2 1 j = aI μ 2 1 j) (aLo : ∀ j, j ≠ 11 → aL ν 2 1 j = aL μ 2 1 j) : CH 1 (adN h 1 w (fB h x)) ν ∧ CNm (adN h 1 w (fB h x)) 1 ν := by
  obtain ⟨⟨q1, q2, q3⟩, ⟨q4, q5, q6, q7, q8⟩, q9, q10, q11⟩ := hH
  refine ⟨⟨⟨q1, by show hB h + 1 ≤ 5; omega, q3⟩, ⟨(r 0 (by omega) (by omega)).trans q4, r1, (r 2 (by omega) (by omega)).trans q6, (r 3 (by omega) (by omega)).trans q7, (r 4 (by omega) (by omega)).trans q8⟩, fun g hg => ?_, fun g hg => ?_, fun g hg => ?_⟩, fun g hg => ?_, fun g hg => ?_, fun g hg => ?_⟩
  · rw [ao 6 (by omega), ao 7 (by omega), ao 8 (by omega), ao 9 (by omega), ao 10 (by omega)]; exact q9 g hg
  · replace hg : g < hB h + 1 := hg
    rw [a12]
    show _ = fB h x 5 g
    unfold fB
    by_cases e : g = hB h
    · rw [if_pos e, if_pos ⟨rfl, e⟩]
    · rw [if_neg e, if_neg (fun q => e q.2)]; exact q10 g (by omega)
  · rw [ao 14 (by omega), ao 15 (by omega)]; exact q11 g hg
  · rw [aLo 5 (by omega), adN_N, if_neg (fun q => by omega)]; exact hNm.1 g hg
  · replace hg : g < hB h + 1 := hg
    rw [a11, adN_N]
    by_cases e : g = hB h
    · rw [if_pos e, if_pos ⟨rfl, e⟩]
    · rw [if_neg e, if_neg (fun q => e q.2)]; exact hNm.2.1 g (by omega)
  · rw [aLo 13 (by omega), adN_N, if_neg (fun q => by omega)]; exact hNm.2.2 g hg
theorem CH_adM {p r' : Nat} (hH : CH 1 h μ) (hNm : CNm h 1 μ) (hn : hM h < 3) (r2 : rI ν 2 1 2 = nI (hM h + 1)) (r : ∀ j, j ≠ 2 → j ≤ 4 → rI ν 2 1 j = rI μ 2 1 j) (a13 : ∀ g, aL ν 2 1 13 g = if g = hM h then lN (vb 32 w) else aL μ 2 1 13 g) (a14 : ∀ g, aI ν 2 1 14 g = if g = hM h then nI p else aI μ 2 1 14 g) (a15 : ∀ g, aI ν 2 1 15 g = if g = hM h then nI r' else aI μ 2 1 15 g) (ao : ∀ j, j ≠ 14 → j ≠ 15 → aI ν 2 1 j = aI μ 2 1 j) (aLo : ∀ j, j ≠ 13 → aL ν 2 1 j = aL μ 2 1 j) : CH 1 (adN h 2 w (fM h p r')) ν ∧ CNm (adN h 2 w (fM h p r')) 1 ν := by
  obtain ⟨⟨q1, q2, q3⟩, ⟨q4, q5, q6, q7, q8⟩, q9, q10, q11⟩ := hH
  have ff : ∀ j g, j ≠ 6 → j ≠ 7 → fM h p r' j g = hf h j g := by
    intro j g h6 h7
    unfold fM
    split
    · split
      · exact absurd rfl h6
      · exact absurd rfl h7
      · rfl
    · rfl
  refine ⟨⟨⟨q1, q2, by show hM h + 1 ≤ 3; omega⟩, ⟨(r 0 (by omega) (by omega)).trans q4, (r 1 (by omega) (by omega)).trans q5, r2, ?_, ?_⟩, fun g hg => ?_, fun g hg => ?_, fun g hg => ?_⟩, fun g hg => ?_, fun g hg => ?_, fun g hg => ?_⟩
  · show _ = fM h p r' 8 0
    rw [ff 8 0 (by omega) (by omega)]; exact (r 3 (by omega) (by omega)).trans q7
  · show _ = fM h p r' 9 0
    rw [ff 9 0 (by omega) (by omega)]; exact (r 4 (by omega) (by omega)).trans q8
  · show _ = fM h p r' 0 g ∧ _ = fM h p r' 1 g ∧ _ = fM h p r' 2 g ∧ _ = fM h p r' 3 g ∧ _ = fM h p r' 4 g
    rw [ao 6 (by omega) (by omega), ao 7 (by omega) (by omega), ao 8 (by omega) (by omega), ao 9 (by omega) (by omega), ao 10 (by omega) (by omega), ff 0 g (by omega) (by omega), ff 1 g (by omega) (by omega), ff 2 g (by omega) (by omega), ff 3 g (by omega) (by omega), ff 4 g (by omega) (by omega)]
    exact q9 g hg
  · show _ = fM h p r' 5 g
    rw [ao 12 (by omega) (by omega), ff 5 g (by omega) (by omega)]; exact q10 g hg
  · replace hg : g < hM h + 1 := hg
    show _ = fM h p r' 6 g ∧ _ = fM h p r' 7 g
    rw [a14, a15]
    unfold fM
    by_cases e : g = hM h
    · simp only [e, ↓reduceIte, and_self]
    · simp only [e, ↓reduceIte]; exact q11 g (by omega)
  · rw [aLo 5 (by omega), adN_N, if_neg (fun q => by omega)]; exact hNm.1 g hg
  · rw [aLo 11 (by omega), adN_N, if_neg (fun q => by omega)]; exact hNm.2.1 g hg
  · replace hg : g < hM h + 1 := hg
    rw [a13, adN_N]
    by_cases e : g = hM h
    · rw [if_pos e, if_pos ⟨rfl, e⟩]
    · rw [if_neg e, if_neg (fun q => e q.2)]; exact hNm.2.2 g (by omega)
/-- the reference's -/
theorem RH_adG {k p c b wt : Nat} (hH : RHd h μ) (hn : hG h < 6) (a : ∀ q, aI ν 12 0 10 q = if q = 66 + 5 * hG h + 4 then nI wt else if q = 66 + 5 * hG h + 3 then nI b else if q = 66 + 5 * hG h + 2 then nI c else if q = 66 + 5 * hG h + 1 then nI p else if q = 66 + 5 * hG h then nI k else if q = 60 then nI (hG h + 1) else aI μ 12 0 10 q) : RHd (adN h 0 w (fG h k p c b wt)) ν := by
  obtain ⟨⟨q1, q2, q3⟩, ⟨q4, q5, q6, q7, q8⟩, q9, q10, q11⟩ := hH
  have o : ∀ q, q ≠ 60 → (q < 66 + 5 * hG h ∨ 66 + 5 * hG h + 4 < q) → aI ν 12 0 10 q = aI μ 12 0 10 q := by
    intro q h1 h2
    rw [a, if_neg (by omega), if_neg (by omega), if_neg (by omega), if_neg (by omega), if_neg (by omega), if_neg h1]
  refine ⟨⟨by show hG h + 1 ≤ 6; omega, q2, q3⟩, ⟨?_, ?_, ?_, ?_, ?_⟩, fun g hg => ?_, fun g hg => ?_, fun g hg => ?_⟩
  · rw [a, if_neg (by omega), if_neg (by omega), if_neg (by omega), if_neg (by omega), if_neg (by omega), if_pos rfl]; rfl
  · rw [o 61 (by omega) (by omega)]; exact q5
  · rw [o 62 (by omega) (by omega)]; exact q6
  · rw [o 63 (by omega) (by omega), q7]; show hf h 8 0 = fG h k p c b wt 8 0; unfold fG; split <;> rfl
  · rw [o 64 (by omega) (by omega), q8]; show hf h 9 0 = fG h k p c b wt 9 0; unfold fG; split <;> rfl
  · replace hg : g < hG h + 1 := hg
    show _ = fG h k p c b wt 0 g ∧ _ = fG h k p c b wt 1 g ∧ _ = fG h k p c b wt 2 g ∧ _ = fG h k p c b wt 3 g ∧ _ + (if fG h k p c b wt 0 g = 2 then 5 else 0) = fG h k p c b wt 4 g
    by_cases e : g = hG h
    · subst e
      have e0 : aI ν 12 0 10 (66 + 5 * hG h + 0) = nI k := by rw [a, if_neg (by omega), if_neg (by omega), if_neg (by omega), if_neg (by omega), if_pos (by omega)]
      have e1 : aI ν 12 0 10 (66 + 5 * hG h + 1) = nI p := by rw [a, if_neg (by omega), if_neg (by omega), if_neg (by omega), if_pos rfl]
      have e2 : aI ν 12 0 10 (66 + 5 * hG h + 2) = nI c := by rw [a, if_neg (by omega), if_neg (by omega), if_pos rfl]
      have e3 : aI ν 12 0 10 (66 + 5 * hG h + 3) = nI b := by rw [a, if_neg (by omega), if_pos rfl]
      have e4 : aI ν 12 0 10 (66 + 5 * hG h + 4) = nI wt := by rw [a, if_pos rfl]
      rw [e0, e1, e2, e3, e4]
      unfold fG
      simp only [↓reduceIte, and_self]
    · have := q9 g (by omega)
      rw [o _ (by omega) (by omega), o _ (by omega) (by omega), o _ (by omega) (by omega), o _ (by omega) (by omega), o _ (by omega) (by omega)]
      unfold fG
      simp only [e, ↓reduceIte]
      exact this
  · show _ = fG h k p c b wt 5 g
    rw [o _ (by omega) (by omega)]
    have := q10 g hg
    rw [this]; unfold fG; split <;> rfl
  · show _ = fG h k p c b wt 6 g ∧ _ = fG h k p c b wt 7 g
    replace hg : g < hM h := hg
    rw [o _ (by omega) (by omega), o _ (by omega) (by omega)]
    have := q11 g hg
    rw [this.1, this.2]; unfold fG; split <;> exact ⟨rfl, rfl⟩
theorem RH_adB {x : Nat} (hH : RHd h μ) (hn : hB h < 5) (a : ∀ q, aI ν 12 0 10 q = if q = 96 + hB h then nI x else if q = 61 then nI (hB h + 1) else aI μ 12 0 10 q) : RHd (adN h 1 w (fB h x)) ν := by
  obtain ⟨⟨q1, q2, q3⟩, ⟨q4, q5, q6, q7, q8⟩, q9, q10, q11⟩ := hH
  have o : ∀ q, q ≠ 61 → q ≠ 96 + hB h → aI ν 12 0 10 q = aI μ 12 0 10 q := by
    intro q h1 h2
    rw [a, if_neg h2, if_neg h1]
  refine ⟨⟨q1, by show hB h + 1 ≤ 5; omega, q3⟩, ⟨?_, ?_, ?_, ?_, ?_⟩, fun g hg => ?_, fun g hg => ?_, fun g hg => ?_⟩
  · rw [o 60 (by omega) (by omega)]; exact q4
  · rw [a, if_neg (by omega), if_pos rfl]; rfl
  · rw [o 62 (by omega) (by omega)]; exact q6
  · rw [o 63 (by omega) (by omega)]; exact q7
  · rw [o 64 (by omega) (by omega)]; exact q8
  · replace hg : g < hG h := hg
    rw [o _ (by omega) (by omega), o _ (by omega) (by omega), o _ (by omega) (by omega), o _ (by omega) (by omega), o _ (by omega) (by omega)]
    exact q9 g hg
  · replace hg : g < hB h + 1 := hg
    show _ = fB h x 5 g
    unfold fB
    by_cases e : g = hB h
    · rw [a, if_pos (by omega), if_pos ⟨rfl, e⟩]
    · rw [o _ (by omega) (by omega), if_neg (fun q => e q.2)]; exact q10 g (by omega)
  · replace hg : g < hM h := hg
    rw [o _ (by omega) (by omega), o _ (by omega) (by omega)]; exact q11 g hg
theorem RH_adM {p r : Nat} (hH : RHd h μ) (hn : hM h < 3) (a : ∀ q, aI ν 12 0 10 q = if q = 101 + 2 * hM h + 1 then nI r else if q = 101 + 2 * hM h then nI p else if q = 62 then nI (hM h + 1) else aI μ 12 0 10 q) : RHd (adN h 2 w (fM h p r)) ν := by
  obtain ⟨⟨q1, q2, q3⟩, ⟨q4, q5, q6, q7, q8⟩, q9, q10, q11⟩ := hH
  have o : ∀ q, q ≠ 62 → q ≠ 101 + 2 * hM h → q ≠ 101 + 2 * hM h + 1 → aI ν 12 0 10 q = aI μ 12 0 10 q := by
    intro q h1 h2 h3
    rw [a, if_neg h3, if_neg h2, if_neg h1]
  have ff : ∀ j g, j ≠ 6 → j ≠ 7 → fM h p r j g = hf h j g := by
    intro j g h6 h7
    unfold fM
    split
    · split
      · exact absurd rfl h6
      · exact absurd rfl h7
      · rfl
    · rfl
  refine ⟨⟨q1, q2, by show hM h + 1 ≤ 3; omega⟩, ⟨?_, ?_, ?_, ?_, ?_⟩, fun g hg => ?_, fun g hg => ?_, fun g hg => ?_⟩
  · rw [o 60 (by omega) (by omega) (by omega)]; exact q4
  · rw [o 61 (by omega) (by omega) (by omega)]; exact q5
  · rw [a, if_neg (by omega), if_neg (by omega), if_pos rfl]; rfl
  · show _ = fM h p r 8 0
    rw [o 63 (by omega) (by omega) (by omega), ff 8 0 (by omega) (by omega)]; exact q7
  · show _ = fM h p r 9 0
    rw [o 64 (by omega) (by omega) (by omega), ff 9 0 (by omega) (by omega)]; exact q8
  · replace hg : g < hG h := hg
    show _ = fM h p r 0 g ∧ _ = fM h p r 1 g ∧ _ = fM h p r 2 g ∧ _ = fM h p r 3 g ∧ _ + (if fM h p r 0 g = 2 then 5 else 0) = fM h p r 4 g
    rw [o _ (by omega) (by omega) (by omega), o _ (by omega) (by omega) (by omega), o _ (by omega) (by omega) (by omega), o _ (by omega) (by omega) (by omega), o _ (by omega) (by omega) (by omega), ff 0 g (by omega) (by omega), ff 1 g (by omega) (by omega), ff 2 g (by omega) (by omega), ff 3 g (by omega) (by omega), ff 4 g (by omega) (by omega)]
    exact q9 g hg
  · replace hg : g < hB h := hg
    show _ = fM h p r 5 g
    rw [o _ (by omega) (by omega) (by omega), ff 5 g (by omega) (by omega)]; exact q10 g hg
  · replace hg : g < hM h + 1 := hg
    show _ = fM h p r 6 g ∧ _ = fM h p r 7 g
    unfold fM
    by_cases e : g = hM h
    · subst e
      have e0 : aI ν 12 0 10 (101 + 2 * hM h + 0) = nI p := by rw [a, if_neg (by omega), if_pos (by omega)]
      have e1 : aI ν 12 0 10 (101 + 2 * hM h + 1) = nI r := by rw [a, if_pos rfl]
      rw [e0, e1]
      simp only [↓reduceIte, and_self]
    · simp only [e, ↓reduceIte]
      rw [o _ (by omega) (by omega) (by omega), o _ (by omega) (by omega) (by omega)]
      exact q11 g (by omega)
theorem HI_adG {k p c b wt : Nat} (hI : HI h) (hn : hG h < 6) (hk : k < 4) (hp : 1 ≤ p ∧ p ≤ 9) (hc : 1 ≤ c ∧ c ≤ 40) (hb : 1 ≤ b ∧ b ≤ 9) (hw : 1 ≤ wt ∧ wt ≤ 30) : HI (adN h 0 w (fG h k p c b wt)) := by
  obtain ⟨⟨q1, q2, q3⟩, q4, q5, q6, q7, q8⟩ := hI
  refine ⟨⟨by show hG h + 1 ≤ 6; omega, q2, q3⟩, fun g hg => ?_, fun g hg => ?_, fun g hg => ?_, ?_, ?_⟩
  · replace hg : g < hG h + 1 := hg
    show (∃ p', 1 ≤ p' ∧ p' ≤ 9 ∧ fG h k p c b wt 1 g = nI p') ∧ (∃ c', c' ≤ 40 ∧ fG h k p c b wt 2 g = nI c') ∧ (∃ r, 1 ≤ r ∧ r ≤ 9 ∧ fG h k p c b wt 3 g = nI r) ∧ (∃ w', w' ≤ 35 ∧ fG h k p c b wt 4 g = nI w') ∧ ∃ k', k' ≤ 3 ∧ fG h k p c b wt 0 g = nI k'
    unfold fG
    by_cases e : g = hG h
    · simp only [e, ↓reduceIte]
      refine ⟨⟨p, hp.1, hp.2, rfl⟩, ⟨c, hc.2, rfl⟩, ⟨b, hb.1, hb.2, rfl⟩, ?_, k, by omega, rfl⟩
      by_cases e2 : nI k = 2
      · rw [if_pos e2]; exact ⟨wt + 5, by omega, nI_add wt 5⟩
      · rw [if_neg e2]; exact ⟨wt, by omega, by simp⟩
    · simp only [e, ↓reduceIte]; exact q4 g (by omega)
  · show ∃ w', w' ≤ 40 ∧ fG h k p c b wt 5 g = nI w'
    have := q5 g hg
    unfold fG; split <;> exact this
  · show (∃ p', p' ≤ 9 ∧ fG h k p c b wt 6 g = nI p') ∧ ∃ r, r ≤ 9 ∧ fG h k p c b wt 7 g = nI r
    have := q6 g hg
    unfold fG; split <;> exact this
  · show ∃ k', k' ≤ 9 ∧ fG h k p c b wt 8 0 = nI k'
    unfold fG; split <;> exact q7
  · show ∃ w', w' ≤ 40 ∧ fG h k p c b wt 9 0 = nI w'
    unfold fG; split <;> exact q8
theorem HI_adB {x : Nat} (hI : HI h) (hn : hB h < 5) (hx : x ≤ 40) : HI (adN h 1 w (fB h x)) := by
  obtain ⟨⟨q1, q2, q3⟩, q4, q5, q6, q7, q8⟩ := hI
  refine ⟨⟨q1, by show hB h + 1 ≤ 5; omega, q3⟩, q4, fun g hg => ?_, q6, q7, q8⟩
  replace hg : g < hB h + 1 := hg
  show ∃ w', w' ≤ 40 ∧ fB h x 5 g = nI w'
  unfold fB
  by_cases e : g = hB h
  · rw [if_pos ⟨rfl, e⟩]; exact ⟨x, hx, rfl⟩
  · rw [if_neg (fun q => e q.2)]; exact q5 g (by omega)
theorem HI_adM {p r : Nat} (hI : HI h) (hn : hM h < 3) (hp : p ≤ 9) (hr : r ≤ 9) : HI (adN h 2 w (fM h p r)) := by
  obtain ⟨⟨q1, q2, q3⟩, q4, q5, q6, q7, q8⟩ := hI
  have ff : ∀ j g, j ≠ 6 → j ≠ 7 → fM h p r j g = hf h j g := by
    intro j g h6 h7
    unfold fM
    split
    · split
      · exact absurd rfl h6
      · exact absurd rfl h7
      · rfl
    · rfl
  refine ⟨⟨q1, q2, by show hM h + 1 ≤ 3; omega⟩, fun g hg => ?_, fun g hg => ?_, fun g hg => ?_, ?_, ?_⟩
  · show (∃ p', 1 ≤ p' ∧ p' ≤ 9 ∧ fM h p r 1 g = nI p') ∧ (∃ c', c' ≤ 40 ∧ fM h p r 2 g = nI c') ∧ (∃ r', 1 ≤ r' ∧ r' ≤ 9 ∧ fM h p r 3 g = nI r') ∧ (∃ w', w' ≤ 35 ∧ fM h p r 4 g = nI w') ∧ ∃ k', k' ≤ 3 ∧ fM h p r 0 g = nI k'
    rw [ff 0 g (by omega) (by omega), ff 1 g (by omega) (by omega), ff 2 g (by omega) (by omega), ff 3 g (by omega) (by omega), ff 4 g (by omega) (by omega)]
    exact q4 g hg
  · show ∃ w', w' ≤ 40 ∧ fM h p r 5 g = nI w'
    rw [ff 5 g (by omega) (by omega)]; exact q5 g hg
  · replace hg : g < hM h + 1 := hg
    show (∃ p', p' ≤ 9 ∧ fM h p r 6 g = nI p') ∧ ∃ r', r' ≤ 9 ∧ fM h p r 7 g = nI r'
    unfold fM
    by_cases e : g = hM h
    · simp only [e, ↓reduceIte]; exact ⟨⟨p, hp, rfl⟩, r, hr, rfl⟩
    · simp only [e, ↓reduceIte]; exact q6 g (by omega)
  · show ∃ k', k' ≤ 9 ∧ fM h p r 8 0 = nI k'
    rw [ff 8 0 (by omega) (by omega)]; exact q7
  · show ∃ k', k' ≤ 40 ∧ fM h p r 9 0 = nI k'
    rw [ff 9 0 (by omega) (by omega)]; exact q8
end
