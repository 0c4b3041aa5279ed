/-! THE PURE PART: cast, ask, stop, minute, undo -/
def wS (A : AS) (s : SS) : AS := (aH A, s, aE A, aU A, aM A, aQ A, aT A)
def wU (A : AS) (u : UN) : AS := (aH A, aS A, aE A, u, aM A, aQ A, aT A)
def wQ (A : AS) (q : SQ) : AS := (aH A, aS A, aE A, aU A, aM A, q, aT A)
def wMk (A : AS) (m : MK) : AS := (aH A, aS A, aE A, aU A, m, aQ A, aT A)
def psh (u : UN) (s : SS) : UN := if u.1 = 16 then (16, fun i => if i < 15 then u.2 (i + 1) else s) else (u.1 + 1, fun i => if i = u.1 then s else u.2 i)
section
variable {A : AS} {μ : XM}
theorem RC_s {ν : XM} {s : SS} (hR : RC A μ) (hS : CS 0 (aH A) s ν) (hF : FrP 0 μ ν) (hL : LC 0 (hC (aH A)) ν) : RC (wS A s) ν := by
  obtain ⟨r1, r2, r3, r4, r5, r6, r7, r8, r9⟩ := hR
  exact ⟨CH_ob (hF 2 0 (by omega) (by omega)) r1, hL, CNm_ob (hF 2 0 (by omega) (by omega)) r3, hS, CE_ob (hF 1 0 (by omega) (by omega)) r5, CU_ob (hF 0 0 (by omega) (by omega)) (fun j h1 h2 => hF 8 j (by omega) (by omega)) r6, CM_ob (fun j hj => hF 5 j (by omega) (by omega)) (fun j hj => hF 8 _ (by omega) (by omega)) (fun j hj => hF 9 _ (by omega) (by omega)) r7, CQ_ob (hF 9 0 (by omega) (by omega)) r8, CT_ob (hF 10 0 (by omega) (by omega)) r9⟩
theorem FrP_11 {ν : XM} {i : Nat} (hF : FrP i μ ν) : Fr11 μ ν := fun t j h => hF t j (by omega) (by omega)
theorem SI_psh {h : HS} {u : UN} {s : SS} (hu : u.1 ≤ 16 ∧ ∀ i, i < u.1 → SI h (u.2 i)) (hs : SI h s) : (psh u s).1 ≤ 16 ∧ ∀ i, i < (psh u s).1 → SI h ((psh u s).2 i) := by
  unfold psh
  by_cases e : u.1 = 16
  · rw [if_pos e]
    refine ⟨Nat.le_refl _, fun i hi => ?_⟩
    show SI h (if i < 15 then u.2 (i + 1) else s)
    split
    · exact hu.2 (i + 1) (by omega)
    · exact hs
  · rw [if_neg e]
    have := hu.1
    refine ⟨by show u.1 + 1 ≤ 16; omega, fun i hi => ?_⟩
    have hi' : i < u.1 + 1 := hi
    show SI h (if i = u.1 then s else u.2 i)
    split
    · exact hs
    · exact hu.2 i (by omega)
theorem rem16 {n : Nat} (h : n < 1000) : (nI n - nI n / 16 * 16 : Int32) = nI (n % 16) := by
  rw [show (16 : Int32) = nI 16 from rfl]; exact pk_rem (by omega) (by omega) (by omega)
theorem c_keep (hR : RC A μ) (hu : (aU A).1 ≤ 16) : ∃ ν, f0_keep 0 μ = xrv ν ∧ RC (wU A (psh (aU A) (aS A))) ν ∧ Fr11 μ ν ∧ CS 0 (aH A) (aS A) ν := by
  obtain ⟨r1, r2, r3, r4, r5, ⟨nx, n1, n2, n3, n4⟩, r7, r8, r9⟩ := hR
  have e1 : (rI μ 0 0 1 - rI μ 0 0 1 / 16 * 16 : Int32) = nI nx := by rw [n2, rem16 (by omega), Nat.mod_eq_of_lt n1]
  obtain ⟨ν, d1, d2, d3⟩ := s8_copyFrom (i := 2 + nx) r1 r4 (by omega)
  rw [f0_keep_e, k0_keep, xite_f (by decide), e1, xck_t (xin_t (by omega) (by omega)), nI_clamp (show nx < 2 ^ 31 by omega), d1, bV_v, xite_f (by decide), mS_eq, mS_eq]
  have f0 : ν 0 0 = μ 0 0 := d3 0 0 (by omega)
  have e2 : rI ν 0 0 1 = nI nx := by rw [rI_ob f0]; exact n2
  have e3 : rI ν 0 0 2 = nI (aU A).1 := by rw [rI_ob f0]; exact n3
  have e4 : ((rI ν 0 0 1 + 1) - (rI ν 0 0 1 + 1) / 16 * 16 : Int32) = nI ((nx + 1) % 16) := by rw [e2, ← nI_succ, rem16 (by omega)]
  have e5 : ∀ x, rI (sI ν 0 0 1 x) 0 0 2 = nI (aU A).1 := fun x => by simp [rI_sI, e3]
  rw [e4, e5, ← nI_succ]
  have e6 : (if nI ((aU A).1 + 1) < 16 then nI ((aU A).1 + 1) else (16 : Int32)) = nI (psh (aU A) (aS A)).1 := by
    unfold psh
    rw [show (16 : Int32) = nI 16 from rfl]
    by_cases e : (aU A).1 = 16
    · rw [if_pos e, if_neg (nI_nlt (by omega) (by omega))]
    · rw [if_neg e]
      by_cases e' : (aU A).1 + 1 = 16
      · rw [if_neg (nI_nlt (by omega) (by omega)), e']
      · rw [if_pos (nI_lt (by omega) (by omega))]
  rw [e6]
  have ff : ∀ t j, ¬ (t = 8 ∧ j = 2 + nx) → ¬ (t = 0 ∧ j = 0) → sI (sI ν 0 0 1 (nI ((nx + 1) % 16))) 0 0 2 (nI (psh (aU A) (aS A)).1) t j = μ t j := by
    intro t j h1 h2
    rw [sI_ne h2, sI_ne h2]; exact d3 t j h1
  have hS0 : CS 0 (aH A) (aS A) (sI (sI ν 0 0 1 (nI ((nx + 1) % 16))) 0 0 2 (nI (psh (aU A) (aS A)).1)) := CS_ob (ff 8 0 (by omega) (by omega)) r4
  refine ⟨_, rfl, ⟨CH_ob (ff 2 0 (by omega) (by omega)) r1, LC_ob (ff 4 0 (by omega) (by omega)) r2, CNm_ob (ff 2 0 (by omega) (by omega)) r3, hS0, CE_ob (ff 1 0 (by omega) (by omega)) r5, ?_, CM_ob (fun j hj => ff 5 j (by omega) (by omega)) (fun j hj => ff 8 _ (by omega) (by omega)) (fun j hj => ff 9 _ (by omega) (by omega)) r7, CQ_ob (ff 9 0 (by omega) (by omega)) r8, CT_ob (ff 10 0 (by omega) (by omega)) r9⟩, fun t j h => ff t j (by omega) (by omega), hS0⟩
  refine ⟨(nx + 1) % 16, Nat.mod_lt _ (by omega), by simp [rI_sI], by simp [rI_sI]; rfl, fun i hi => ?_⟩
  have hnew : CS (2 + nx) (aH A) (aS A) (sI (sI ν 0 0 1 (nI ((nx + 1) % 16))) 0 0 2 (nI (psh (aU A) (aS A)).1)) := CS_ob (by rw [sI_ne (by omega), sI_ne (by omega)]) d2
  have hold' : ∀ i', i' < (aU A).1 → (nx + 16 - (aU A).1 + i') % 16 ≠ nx → CS (2 + (nx + 16 - (aU A).1 + i') % 16) (aH A) ((aU A).2 i') (sI (sI ν 0 0 1 (nI ((nx + 1) % 16))) 0 0 2 (nI (psh (aU A) (aS A)).1)) := fun i' hi' hne => CS_ob (ff 8 _ (by omega) (by omega)) (n4 i' hi')
  show CS (2 + ((nx + 1) % 16 + 16 - (psh (aU A) (aS A)).1 + i) % 16) (aH A) ((psh (aU A) (aS A)).2 i) _
  have hi' : i < (psh (aU A) (aS A)).1 := hi
  unfold psh at hi' ⊢
  by_cases e : (aU A).1 = 16
  · rw [if_pos e] at hi' ⊢
    have hi' : i < 16 := hi'
    show CS (2 + ((nx + 1) % 16 + 16 - 16 + i) % 16) (aH A) (if i < 15 then (aU A).2 (i + 1) else aS A) _
    by_cases h15 : i < 15
    · rw [if_pos h15]
      have := hold' (i + 1) (by omega) (by omega)
      rw [show (nx + 16 - (aU A).1 + (i + 1)) % 16 = ((nx + 1) % 16 + 16 - 16 + i) % 16 by omega] at this
      unfold psh at this; rw [if_pos e] at this
      exact this
    · rw [if_neg h15, show ((nx + 1) % 16 + 16 - 16 + i) % 16 = nx by omega]
      unfold psh at hnew; rw [if_pos e] at hnew
      exact hnew
  · rw [if_neg e] at hi' ⊢
    have hi' : i < (aU A).1 + 1 := hi'
    show CS (2 + ((nx + 1) % 16 + 16 - ((aU A).1 + 1) + i) % 16) (aH A) (if i = (aU A).1 then aS A else (aU A).2 i) _
    unfold psh at hnew hold'
    rw [if_neg e] at hnew
    by_cases ei : i = (aU A).1
    · rw [if_pos ei, show ((nx + 1) % 16 + 16 - ((aU A).1 + 1) + i) % 16 = nx by omega]
      exact hnew
    · rw [if_neg ei]
      have := hold' i (by omega) (by omega)
      rw [show (nx + 16 - (aU A).1 + i) % 16 = ((nx + 1) % 16 + 16 - ((aU A).1 + 1) + i) % 16 by omega, if_neg e] at this
      exact this
-- the reference
/-- what no deed changes -/
def Fz (μ ν : XM) : Prop := rI ν 12 0 2 = rI μ 12 0 2 ∧ rI ν 12 0 18 = rI μ 12 0 18 ∧ (∀ j, j = 1 ∨ j = 10 ∨ j = 11 ∨ j = 12 ∨ j = 16 ∨ j = 21 → aI ν 12 0 j = aI μ 12 0 j) ∧ aL ν 12 0 9 = aL μ 12 0 9 ∧ aL ν 12 0 14 = aL μ 12 0 14
theorem FX_z {lo hi : Nat} {ν : XM} (a : FX lo hi μ ν) : Fz μ ν := ⟨a.2.1 2, a.2.1 18, fun j hj => a.2.2.2.1 j (by omega) (by omega) (by omega), a.2.2.2.2.1 9, a.2.2.2.2.1 14⟩
theorem Fz_t {ν ξ : XM} (a : Fz μ ν) (b : Fz ν ξ) : Fz μ ξ := ⟨b.1.trans a.1, b.2.1.trans a.2.1, fun j hj => (b.2.2.1 j hj).trans (a.2.2.1 j hj), b.2.2.2.1.trans a.2.2.2.1, b.2.2.2.2.trans a.2.2.2.2⟩
theorem QM_z {ν : XM} (a : QM μ ν) : Fz μ ν := ⟨a.2.1 2 (by omega) (by omega), a.2.1 18 (by omega) (by omega), fun j hj => QM_a a (by omega), a.2.2.2.1 9, a.2.2.2.1 14⟩
theorem Fz_s {j : Nat} {x : Int32} (h : j ≠ 2) (h2 : j ≠ 18) : Fz μ (sI μ 12 0 j x) := by
  refine ⟨?_, ?_, fun i _ => aI_sI _ _ _ _ _ _ _ _, aL_sI _ _ _ _ _ _ _ _, aL_sI _ _ _ _ _ _ _ _⟩
  · rw [rI_sI]; simp only [show ¬ (2 = j) from fun e => h e.symm, and_false, ↓reduceIte]
  · rw [rI_sI]; simp only [show ¬ (18 = j) from fun e => h2 e.symm, and_false, ↓reduceIte]
theorem RM_of {ν : XM} {s : SS} {u : UN} {m : MK} {q : SQ} (hR : RM A μ) (f : Fz μ ν) (hS : RS 0 (aH A) s ν) (hU : RU (aH A) u ν) (hM : RMk (aH A) m ν) (hQ : RQ 0 q ν) : RM (aH A, s, aE A, u, m, q, aT A) ν := by
  obtain ⟨r1, r2, r3, r4, r5, r6, r7, r8, r9, r10⟩ := hR
  refine ⟨RH_ar (f.2.2.1 10 (by omega)) r1, RL_ar (f.2.2.1 10 (by omega)) (f.2.2.1 11 (by omega)) (f.2.2.1 12 (by omega)) r2, ?_, hS, ?_, hU, hM, hQ, ?_, ?_⟩
  · unfold RN at *; rw [f.2.1, f.2.2.1 16 (by omega), f.2.2.2.2]; exact r3
  · unfold RE at *; rw [f.2.2.1 21 (by omega)]; exact r5
  · unfold RT at *; rw [f.1, f.2.2.1 1 (by omega)]; exact r9
  · unfold RW at *; rw [f.2.2.2.1]; exact r10
theorem RMk_fr {h : HS} {m : MK} {ν : XM} (h6 : hG h ≤ 6) (h3 : hM h ≤ 3) (hq : ∀ j, j < 4 → (m j).1 = true → (m j).2.2.1 ≤ 8) (f : ∀ k, 47 ≤ k → k < 235 → aI ν 12 0 24 k = aI μ 12 0 24 k) (f2 : aI ν 12 0 26 = aI μ 12 0 26) (hM : RMk h m μ) : RMk h m ν := by
  intro j hj
  obtain ⟨a, b⟩ := hM j hj
  exact ⟨by rw [f2]; exact a, fun c => ⟨RS_out h6 h3 (fun k h1 h2 => f k (by omega) (by omega)) (b c).1, RQ_q (fun k h1 h2 => f k (by omega) (by omega)) (hq j hj c) (b c).2⟩⟩
theorem AI_M8 (hI : AI A) : ∀ j, j < 4 → (aM A j).1 = true → (aM A j).2.2.1 ≤ 8 := fun j hj e => (hI.2.2.2.2.2.2.1 j hj e).2.1
theorem AI_U (hI : AI A) : (aU A).1 ≤ 16 := hI.2.2.2.2.2.1.1
/-- a deed in the scene of now alone -/
theorem RM_s {ν : XM} {s : SS} (hI : AI A) (hR : RM A μ) (hS : RS 0 (aH A) s ν) (f : FM 0 μ ν) : RM (wS A s) ν := by
  have h6 := RH_6 (RM_H hR)
  have h3 := RH_3 (RM_H hR)
  obtain ⟨r1, r2, r3, r4, r5, r6, r7, r8, r9, r10⟩ := id hR
  have hu := AI_U hI
  exact RM_of hR (FX_z f) hS ⟨by rw [f.2.1]; exact r6.1, fun i hi => RS_out h6 h3 (fun k h1 h2 => f.2.2.2.2.2 k (by omega)) (r6.2 i hi)⟩ (RMk_fr h6 h3 (AI_M8 hI) (fun k h1 h2 => f.2.2.2.2.2 k (by omega)) (f.2.2.2.1 26 (by decide) (by decide) (by decide)) r7) (RQ_q (fun k h1 h2 => f.2.2.2.2.2 k (by omega)) (AI_Q hI).1 r8)
theorem m_keeps (hI : AI A) (hR : RM A μ) : ∃ ν, f12_keeps μ = xrv ν ∧ RM (wU A (psh (aU A) (aS A))) ν ∧ Fr12 μ ν := by
  have h6 := RH_6 (RM_H hR)
  have h3 := RH_3 (RM_H hR)
  have hu := AI_U hI
  obtain ⟨r1, r2, r3, r4, r5, r6, r7, r8, r9, r10⟩ := id hR
  rw [f12_keeps_e, k12_keeps, r6.1]
  -- the last step
  have last : ∀ n ν (k : Nat) (u : Nat → SS), 0 < n → k < 16 → Fz μ ν → Fr12 μ ν → rI ν 12 0 25 = nI k → (∀ i, i < k → RS (47 * (5 + i)) (aH A) (u i) ν) → (∀ j, j < 235 → aI ν 12 0 24 j = aI μ 12 0 24 j) → aI ν 12 0 26 = aI μ 12 0 26 →
      ∃ ξ, h12_keeps_53 n ν = xrv ξ ∧ RM (wU A (k + 1, fun i => if i = k then aS A else u i)) ξ ∧ Fr12 μ ξ := by
    intro n ν k u hn hk hz hF h25 hRS h24 h26
    obtain ⟨n, rfl⟩ : ∃ n', n = n' + 1 := ⟨n - 1, by omega⟩
    have e47 : (47 * (5 + rI ν 12 0 25) : Int32) = nI (47 * (5 + k)) := by rw [h25, L47, L5, nI_add, pk_mul]
    obtain ⟨ξ, d1, d2, d3⟩ := s12_copies (μ := ν) (a := 0) (c := 47 * (5 + k)) (n := 30) (by omega) (by omega) (by omega) (p := 0) (q := 47 * (5 + rI ν 12 0 25)) (r := 30) rfl e47 rfl
    have e25 : rI ξ 12 0 25 + 1 = nI (k + 1) := by rw [d3.2.1, h25, nI_succ]
    rw [h12_keeps_53_s, d1, bV_v, mS_eq, e25]
    have hz2 : Fz ξ (sI ξ 12 0 25 (nI (k + 1))) := Fz_s (by decide) (by decide)
    have a24 : aI (sI ξ 12 0 25 (nI (k + 1))) 12 0 24 = aI ξ 12 0 24 := aI_sI _ _ _ _ _ _ _ _
    have k24 : ∀ j, j < 47 * (5 + k) ∨ 47 * (5 + k) + 30 ≤ j → aI (sI ξ 12 0 25 (nI (k + 1))) 12 0 24 j = aI ν 12 0 24 j := fun j hj => by rw [a24]; exact d3.2.2.2.2.2 j hj
    refine ⟨_, rfl, RM_of hR (Fz_t hz (Fz_t (FX_z d3) hz2)) ?_ ?_ ?_ ?_, Fr12_t hF (Fr12_t d3.1 (fun t j h => sI_ne h))⟩
    · exact RS_out h6 h3 (fun j h1 h2 => (k24 j (by omega)).trans (h24 j (by omega))) r4
    · refine ⟨by simp [rI_sI], fun i hi => ?_⟩
      have hi' : i < k + 1 := hi
      show RS (47 * (5 + i)) (aH A) (if i = k then aS A else u i) _
      by_cases ei : i = k
      · subst ei
        rw [if_pos rfl]
        refine RS_copy (a := 0) (μ := μ) h6 h3 (fun j hj => ?_) r4
        rw [a24, d2 j hj]; exact h24 (0 + j) (by omega)
      · rw [if_neg ei]
        exact RS_out h6 h3 (fun j h1 h2 => k24 j (by omega)) (hRS i (by omega))
    · exact RMk_fr h6 h3 (AI_M8 hI) (fun j h1 h2 => (k24 j (by omega)).trans (h24 j (by omega))) (by rw [aI_sI, d3.2.2.2.1 26 (by decide) (by decide) (by decide)]; exact h26) r7
    · exact RQ_q (fun j h1 h2 => (k24 j (by omega)).trans (h24 j (by omega))) (AI_Q hI).1 r8
  by_cases e : (aU A).1 = 16
  · rw [show (nI (aU A).1 = (16 : Int32)) = True from by rw [e]; simp [nI_lit], xite_t trivial, vI_eq]
    refine lp_relc 2 (F := fun n ν k => h12_keeps_11 n (k + 1) ν) (fun k ν => Fz μ ν ∧ Fr12 μ ν ∧ rI ν 12 0 25 = nI 16 ∧ (∀ i, i < k → RS (47 * (5 + i)) (aH A) ((aU A).2 (i + 1)) ν) ∧ (∀ i, k ≤ i → i < 16 → RS (47 * (5 + i)) (aH A) ((aU A).2 i) ν) ∧ (∀ j, j < 235 → aI ν 12 0 24 j = aI μ 12 0 24 j) ∧ aI ν 12 0 26 = aI μ 12 0 26) (Q := fun x => ∃ ξ, x = xrv ξ ∧ RM (wU A (psh (aU A) (aS A))) ξ ∧ Fr12 μ ξ) (e := 15) ?_ ?_ 15 0 20000 μ (by omega) (by omega) ⟨⟨rfl, rfl, fun _ _ => rfl, rfl, rfl⟩, Fr12_r, by rw [r6.1, e], fun i hi => absurd hi (Nat.not_lt_zero i), fun i _ hi => r6.2 i (by omega), fun _ _ => rfl, rfl⟩
    · intro n ν hc hJ
      obtain ⟨j1, j2, j3, j4, j5, j6, j7⟩ := hJ
      have e25 : rI ν 12 0 25 - 1 = nI 15 := by rw [j3]; exact nI_pred 15
      rw [h12_keeps_11_s, xite_f (by decide), mS_eq, e25]
      obtain ⟨ξ, d1, d2, d3⟩ := last n (sI ν 12 0 25 (nI 15)) 15 (fun i => (aU A).2 (i + 1)) (by omega) (by omega) (Fz_t j1 (Fz_s (by decide) (by decide))) (Fr12_t j2 (fun t j h => sI_ne h)) (by simp [rI_sI]) (fun i hi => RS_out h6 h3 (fun k _ _ => by rw [aI_sI]) (j4 i hi)) (fun j hj => by rw [aI_sI]; exact j6 j hj) (by rw [aI_sI]; exact j7)
      refine ⟨ξ, d1, ?_, d3⟩
      have : psh (aU A) (aS A) = (16, fun i => if i < 15 then (aU A).2 (i + 1) else aS A) := by unfold psh; rw [if_pos e]
      rw [this]
      -- the same up to places that nothing reads
      obtain ⟨w1, w2, w3, w4, w5, w6, w7, w8, w9, w10⟩ := d2
      refine ⟨w1, w2, w3, w4, w5, ⟨w6.1, fun i hi => ?_⟩, w7, w8, w9, w10⟩
      have hi' : i < 16 := hi
      have := w6.2 i hi
      show RS (47 * (5 + i)) (aH A) (if i < 15 then (aU A).2 (i + 1) else aS A) ξ
      have this' : RS (47 * (5 + i)) (aH A) (if i = 15 then aS A else (aU A).2 (i + 1)) ξ := this
      by_cases h15 : i = 15
      · subst h15; rw [if_pos rfl] at this'; rw [if_neg (by omega)]; exact this'
      · rw [if_neg h15] at this'; rw [if_pos (by omega)]; exact this'
    · intro n ν k hk hJ
      obtain ⟨j1, j2, j3, j4, j5, j6, j7⟩ := hJ
      have h16 : nI (k + 1) < (16 : Int32) := nI_lt (b := 16) (by omega) (by omega)
      have ea : (47 * (5 + nI (k + 1)) : Int32) = nI (47 * (5 + (k + 1))) := by rw [L47, L5, nI_add, pk_mul]
      have eb : (47 * ((5 + nI (k + 1)) - 1) : Int32) = nI (47 * (5 + k)) := by rw [L47, L5, nI_add, show 5 + (k + 1) = (5 + k) + 1 by omega, nI_pred, pk_mul]
      obtain ⟨ξ, d1, d2, d3⟩ := s12_copies (μ := ν) (a := 47 * (5 + (k + 1))) (c := 47 * (5 + k)) (n := 30) (by omega) (by omega) (by omega) (p := 47 * (5 + nI (k + 1))) (q := 47 * ((5 + nI (k + 1)) - 1)) (r := 30) ea eb rfl
      rw [← nI_succ, h12_keeps_11_s, xite_t h16, d1, bV_v, vI_eq]
      refine ⟨ξ, ⟨Fz_t j1 (FX_z d3), Fr12_t j2 d3.1, by rw [d3.2.1]; exact j3, fun i hi => ?_, fun i hi hi2 => ?_, fun j hj => by rw [d3.2.2.2.2.2 j (by omega)]; exact j6 j hj, by rw [d3.2.2.2.1 26 (by decide) (by decide) (by decide)]; exact j7⟩, rfl⟩
      · by_cases ei : i = k
        · subst ei
          exact RS_copy h6 h3 d2 (j5 (i + 1) (by omega) (by omega))
        · exact RS_out h6 h3 (fun j h1 h2 => d3.2.2.2.2.2 j (by omega)) (j4 i (by omega))
      · exact RS_out h6 h3 (fun j h1 h2 => d3.2.2.2.2.2 j (by omega)) (j5 i (by omega) hi2)
  · have hne : ¬ nI (aU A).1 = (16 : Int32) := fun h => e ((nI_eq (b := 16) (by omega) (by omega)).mp h)
    rw [xite_f hne]
    have : psh (aU A) (aS A) = ((aU A).1 + 1, fun i => if i = (aU A).1 then aS A else (aU A).2 i) := by unfold psh; rw [if_neg e]
    rw [this]
    exact last 20000 μ (aU A).1 (aU A).2 (by omega) (by omega) ⟨rfl, rfl, fun _ _ => rfl, rfl, rfl⟩ Fr12_r r6.1 (fun i hi => r6.2 i hi) (fun _ _ => rfl) rfl
theorem AI_wU {u : UN} (hI : AI A) (hu : u.1 ≤ 16 ∧ ∀ i, i < u.1 → SI (aH A) (u.2 i)) : AI (wU A u) := by
  obtain ⟨a1, a2, a3, a4, a5, a6, a7, a8, a9⟩ := hI
  exact ⟨a1, a2, a3, a4, a5, hu, a7, a8, a9⟩
theorem AI_wS {s : SS} (hI : AI A) (hs : SI (aH A) s) : AI (wS A s) := by
  obtain ⟨a1, a2, a3, a4, a5, a6, a7, a8, a9⟩ := hI
  exact ⟨a1, a2, a3, hs, a5, a6, a7, a8, a9⟩
theorem AI_psh (hI : AI A) : AI (wU A (psh (aU A) (aS A))) := AI_wU hI (SI_psh hI.2.2.2.2.2.1 (AI_S hI))
/-- now is kept, and is other -/
def nowA (A : AS) (s : SS) : AS := wS (wU A (psh (aU A) (aS A))) s
theorem AI_now {s : SS} (hI : AI A) (hs : SI (aH A) s) : AI (nowA A s) := AI_wS (AI_psh hI) hs
-- cast
def cnC (A : AS) (p q r : Int32) : Bool := (inR (hM (aH A)) p && (inR (hB (aH A)) q && inR (hG (aH A)) r)) && (rch (aH A) (aS A) p.toNatClampNeg r.toNatClampNeg && wl (aH A) (aS A) q)
def nCast (A : AS) (p q r : Int32) : AS := if cnC A p q r then nowA A (cst (aS A) p.toNatClampNeg q.toNatClampNeg r.toNatClampNeg) else A
theorem cnC_inv {p q r : Int32} (h6 : hG (aH A) ≤ 6) (h5 : hB (aH A) ≤ 5) (h3 : hM (aH A) ≤ 3) (h : cnC A p q r = true) : ∃ m b g, m < hM (aH A) ∧ b < hB (aH A) ∧ g < hG (aH A) ∧ p = nI m ∧ q = nI b ∧ r = nI g ∧ rch (aH A) (aS A) m g = true ∧ wl (aH A) (aS A) (nI b) = true := by
  unfold cnC at h
  simp only [Bool.and_eq_true] at h
  obtain ⟨⟨c1, c2, c3⟩, c4, c5⟩ := h
  rcases inR_cases (n := hM (aH A)) (by omega) p with ⟨hq, _⟩ | ⟨m, hm, rfl, _, _, _⟩
  · rw [hq] at c1; cases c1
  rcases inR_cases (n := hB (aH A)) (by omega) q with ⟨hq, _⟩ | ⟨b, hb, rfl, _, _, _⟩
  · rw [hq] at c2; cases c2
  rcases inR_cases (n := hG (aH A)) (by omega) r with ⟨hq, _⟩ | ⟨g, hg, rfl, _, _, _⟩
  · rw [hq] at c3; cases c3
  rw [nI_clamp (by omega), nI_clamp (by omega)] at c4
  exact ⟨m, b, g, hm, hb, hg, rfl, rfl, rfl, c4, c5⟩
theorem AI_cast (hI : AI A) (p q r : Int32) : AI (nCast A p q r) := by
  unfold nCast
  by_cases hc : cnC A p q r = true
  · rw [if_pos hc]
    have hH := (AI_H hI).1
    obtain ⟨m, b, g, hm, hb, hg, rfl, rfl, rfl, c4, c5⟩ := cnC_inv hH.1 hH.2.1 hH.2.2 hc
    rw [nI_clamp (by omega), nI_clamp (by omega), nI_clamp (by omega)]
    exact AI_now hI (SI_cst (AI_S hI) hH.1 hH.2.1 hb hg (rch_in c4) c5)
  · rw [if_neg hc]; exact hI
theorem c_cast (hI : AI A) (hR : RC A μ) (p q r : Int32) : OKc A (nCast A p q r) μ (f11_cast p q r μ) (b2 (cnC A p q r)) := by
  have hH := RC_H hR
  have h6 := CH_6 hH
  have h5 := CH_5 hH
  have h3 := CH_3 hH
  have e : ((inR (hB (aH A)) q && wl (aH A) (aS A) q) && (inR (hM (aH A)) p && (inR (hG (aH A)) r && rch (aH A) (aS A) p.toNatClampNeg r.toNatClampNeg))) = cnC A p q r := by
    unfold cnC
    cases inR (hB (aH A)) q <;> cases wl (aH A) (aS A) q <;> cases inR (hM (aH A)) p <;> cases inR (hG (aH A)) r <;> cases rch (aH A) (aS A) p.toNatClampNeg r.toNatClampNeg <;> rfl
  rw [f11_cast_e, k11_cast, s8_canCast hH (RC_S hR), bI_i, e]
  unfold nCast
  by_cases hc : cnC A p q r = true
  · obtain ⟨m, b, g, hm, hb, hg, rfl, rfl, rfl, c4, c5⟩ := cnC_inv h6 h5 h3 hc
    obtain ⟨ν, d1, d2, d3, d4⟩ := c_keep hR (AI_U hI)
    obtain ⟨ξ, e1, e2, e3⟩ := s8_giveBelt (RC_H d2) d4 hm hg (nI b)
    rw [hc, xite_f (by decide), d1, bV_v, e1, bV_v, if_pos rfl, nI_clamp (by omega), nI_clamp (by omega), nI_clamp (by omega)]
    exact ⟨ξ, rfl, RC_s d2 e2 (FrS_P e3) (LC_ob (e3 4 0 (by omega)) (RC_L d2)), Fr11_t d3 (FrP_11 (FrS_P e3))⟩
  · have hc' : cnC A p q r = false := by simpa using hc
    rw [hc', xite_t (by decide), if_neg (by decide)]
    exact OKc_r hR
theorem m_cast (hI : AI A) (hR : RM A μ) (p q r : Int32) : OKm A (nCast A p q r) μ (f12_cast p q r μ) (b2 (cnC A p q r)) := by
  have hR1 := m0_R hI hR
  have hH := RM_H hR1
  have h6 := RH_6 hH
  have h5 := RH_5 hH
  have h3 := RH_3 hH
  rw [f12_cast_e, k12_cast, mS_eq]
  change OKm A (nCast A p q r) μ (bI (f12_isMan p (m0 μ)) _) _
  rw [s12_isMan hH, bI_i, nCast, cnC]
  rcases inR_cases (n := hM (aH A)) (by omega) p with ⟨hp, _⟩ | ⟨m, hm, rfl, _, _, hp3⟩
  · rw [hp, xite_t (by decide)]; exact OKm_r hI hR
  rw [hp3, xite_f (by decide), s12_isBelt hH, bI_i]
  rcases inR_cases (n := hB (aH A)) (by omega) q with ⟨hq, _⟩ | ⟨b, hb, rfl, _, _, hq3⟩
  · rw [hq, xite_t (by decide)]; exact OKm_r hI hR
  rw [hq3, xite_f (by decide), s12_isGuest hH, bI_i]
  rcases inR_cases (n := hG (aH A)) (by omega) r with ⟨hr, _⟩ | ⟨g, hg, rfl, _, _, hr3⟩
  · rw [hr, xite_t (by decide)]; exact OKm_r hI hR
  rw [hr3, xite_f (by decide), s12_mayCast hH (RM_S hR1) (AI_S hI) (by omega) B0 hm hb hg, bI_i, nI_clamp (show m < 2 ^ 31 by omega), nI_clamp (show b < 2 ^ 31 by omega), nI_clamp (show g < 2 ^ 31 by omega), Bool.true_and, Bool.true_and, Bool.true_and]
  by_cases hc : (rch (aH A) (aS A) m g && wl (aH A) (aS A) (nI b)) = true
  · obtain ⟨ν, d1, d2, d3⟩ := m_keeps hI hR1
    have hS2 : RS 0 (aH A) (aS A) ν := RM_S (A := wU A (psh (aU A) (aS A))) d2
    obtain ⟨ξ, e1, e2, e3⟩ := s12_casts h6 h3 hS2 (by omega) B0 hm hg (nI b)
    rw [hc, xite_f (by decide), d1, bV_v, e1, bV_v, if_pos rfl]
    exact ⟨ξ, rfl, RM_s (AI_psh hI) d2 e2 e3, Fr12_t m0_F (Fr12_t d3 e3.1)⟩
  · have hc' : (rch (aH A) (aS A) m g && wl (aH A) (aS A) (nI b)) = false := by simpa using hc
    rw [hc', xite_t (by decide), if_neg (by decide)]
    exact OKm_r hI hR
end
