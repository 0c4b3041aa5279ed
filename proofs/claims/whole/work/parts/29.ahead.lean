/-! THE PURE PART: questions that look ahead -/
def f1 (c : Nat → Bool) : Nat → Nat → Option Nat
  | _, 0 => none
  | k, n + 1 => if c k then some k else f1 c (k + 1) n
theorem f1_lt {c : Nat → Bool} : ∀ n k b, f1 c k n = some b → k ≤ b ∧ b < k + n ∧ c b = true
  | 0, k, b, h => by cases h
  | n + 1, k, b, h => by
    rw [f1] at h
    split at h
    · rename_i hc; cases h; exact ⟨by omega, by omega, hc⟩
    · have := f1_lt n (k + 1) b h; exact ⟨by omega, by omega, this.2.2⟩
theorem f1_none {c : Nat → Bool} : ∀ n k, f1 c k n = none ↔ ∀ j, k ≤ j → j < k + n → c j = false
  | 0, k => by simp only [f1, true_iff]; intro j h1 h2; omega
  | n + 1, k => by
    rw [f1]
    by_cases hc : c k = true
    · rw [if_pos hc]
      constructor
      · intro h; cases h
      · intro h; have := h k (by omega) (by omega); rw [hc] at this; cases this
    · rw [if_neg hc, f1_none n (k + 1)]
      constructor
      · intro h j h1 h2
        by_cases e : j = k
        · subst e; simpa using hc
        · exact h j (by omega) (by omega)
      · intro h j h1 h2; exact h j (by omega) (by omega)
theorem f1_cong {c d : Nat → Bool} : ∀ n k, (∀ j, k ≤ j → j < k + n → c j = d j) → f1 c k n = f1 d k n
  | 0, _, _ => rfl
  | n + 1, k, h => by
    rw [f1, f1, h k (by omega) (by omega), f1_cong n (k + 1) (fun j h1 h2 => h j (by omega) (by omega))]
/-- a loop that ends at the first that is so; each turn costs q at most -/
theorem lp_rexq {σ : Type} {F : Nat → σ → Int32 → XR} (q : Nat) (hq : 0 < q) (I : Nat → σ → Prop) (c : Nat → Bool) {Q : Option Nat → XR → Prop} {e : Nat}
    (hx : ∀ n s, I e s → Q none (F (n + 1) s (nI e)))
    (hs : ∀ n s k, q ≤ n → k < e → I k s → (c k = true → Q (some k) (F n s (nI k))) ∧ (c k = false → ∃ s' n', n ≤ n' + q ∧ I (k + 1) s' ∧ F n s (nI k) = F n' s' (nI (k + 1)))) :
    ∀ d k n s, k + d = e → (d + 1) * q ≤ n → I k s → Q (f1 c k d) (F n s (nI k)) := by
  intro d
  induction d with
  | zero =>
    intro k n s h hn hI
    rw [Nat.zero_add, Nat.one_mul] at hn
    obtain ⟨m, rfl⟩ : ∃ m, n = m + 1 := ⟨n - 1, by omega⟩
    obtain rfl : k = e := by omega
    exact hx m s hI
  | succ d ih =>
    intro k n s h hn hI
    have h2 : (d + 1 + 1) * q = (d + 1) * q + q := by rw [Nat.add_mul (d + 1) 1 q, Nat.one_mul]
    obtain ⟨h3, h4⟩ := hs n s k (by omega) (by omega) hI
    rw [f1]
    by_cases hc : c k = true
    · rw [if_pos hc]; exact h3 hc
    · rw [if_neg hc]
      obtain ⟨s', n', h5, h6, h7⟩ := h4 (by simpa using hc)
      rw [h7]
      exact ih (k + 1) n' s' (by omega) (by omega) h6
theorem lp_rex {σ : Type} {F : Nat → σ → Int32 → XR} (I : Nat → σ → Prop) (c : Nat → Bool) {Q : Option Nat → XR → Prop} {e : Nat}
    (hx : ∀ n s, I e s → Q none (F (n + 1) s (nI e)))
    (hs : ∀ n s k, k < e → I k s → (c k = true → Q (some k) (F (n + 1) s (nI k))) ∧ (c k = false → ∃ s', I (k + 1) s' ∧ F (n + 1) s (nI k) = F n s' (nI (k + 1)))) :
    ∀ d k n s, k + d = e → d < n → I k s → Q (f1 c k d) (F n s (nI k)) := by
  intro d k n s h1 h2 h3
  refine lp_rexq (F := F) 1 (by omega) I c hx ?_ d k n s h1 (by omega) h3
  intro n s k hn hk hI
  obtain ⟨m, rfl⟩ : ∃ m, n = m + 1 := ⟨n - 1, by omega⟩
  obtain ⟨a, b⟩ := hs m s k hk hI
  exact ⟨a, fun hc => by obtain ⟨s', x, y⟩ := b hc; exact ⟨s', m, by omega, x, y⟩⟩
def itr (h : HS) (s : SS) : Nat → SS
  | 0 => s
  | n + 1 => pss h (itr h s n)
theorem SI_itr {h : HS} {s : SS} (hH : HI h) (hI : SI h s) : ∀ n, SI h (itr h s n)
  | 0 => hI
  | n + 1 => SI_pss hH (SI_itr hH hI n)
/-- who is not in it stays so -/
theorem pss_out {h : HS} {s : SS} {g : Nat} (hg : g < hG h) (ho : isIn s g = false) : pss h s 2 g = s 2 g := by
  rw [pss_2 hg, mcn _ hg (by omega)]
  have e1 := mdr (h := h) s hg (f := 2) (by omega)
  rw [ho] at e1
  have e1' : mix (dr h) s (hG h) 2 g = s 2 g := by rw [e1]; rfl
  have : isIn (mix (dr h) s (hG h)) g = false := by unfold isIn at *; rw [e1']; exact ho
  rw [this, e1']; rfl
theorem itr_out {h : HS} {s : SS} {g : Nat} (hg : g < hG h) {n : Nat} (ho : isIn (itr h s n) g = false) : ∀ m, n ≤ m → itr h s m 2 g = itr h s n 2 g := by
  intro m
  induction m with
  | zero => intro hm; obtain rfl : n = 0 := by omega
            rfl
  | succ m ih =>
    intro hm
    by_cases e : n = m + 1
    · subst e; rfl
    · have := ih (by omega)
      rw [itr, pss_out hg (by unfold isIn at *; rw [this]; exact ho), this]
theorem wit_cases {p : Int32} {n : Nat} (hn : n < 2 ^ 30) : (wit 0 (nI n) p = false ∧ (p < 0 ∨ nI n < p)) ∨ ∃ j, j ≤ n ∧ p = nI j ∧ ¬ p < 0 ∧ ¬ nI n < p ∧ wit 0 (nI n) p = true := by
  by_cases h0 : p < 0
  · left; exact ⟨by simp [wit, h0], .inl h0⟩
  · by_cases h1 : nI n < p
    · left; exact ⟨by simp [wit, h1], .inr h1⟩
    · right
      obtain ⟨j, j1, j2⟩ := nI_of2 (x := p) (M := nI n) (n := n) (nI_toInt (by omega)) h0 (Int32.not_lt.mp h1)
      exact ⟨j, j1, j2, h0, h1, by simp [wit, h0, h1]⟩
def KC (A : AS) (s0 : SS) (k : Nat) (μ ν : XM) : Prop := CS 1 (aH A) (itr (aH A) s0 k) ν ∧ LC 0 (hC (aH A)) ν ∧ QC μ ν
def KM (A : AS) (b : Nat) (s0 : SS) (k : Nat) (μ ν : XM) : Prop := RS b (aH A) (itr (aH A) s0 k) ν ∧ QM μ ν
section
variable {A : AS} {μ : XM} {s0 : SS}
theorem KC_H (hR : RC A μ) {k : Nat} {ν : XM} (hK : KC A s0 k μ ν) : CH 0 (aH A) ν := CH_ob (hK.2.2 2 0 (by omega) (by omega) (by omega) (by omega)) (RC_H hR)
theorem KM_H (hR : RM A μ) {b k : Nat} {ν : XM} (hK : KM A b s0 k μ ν) : RH (aH A) ν := RH_q hK.2 (RM_H hR)
theorem KC_step (hI : AI A) (hR : RC A μ) (hs : SI (aH A) s0) {k : Nat} {ν : XM} (hK : KC A s0 k μ ν) : ∃ ξ, f8_pass 1 ν = xri (nI (sunkN (aH A) (itr (aH A) s0 k))) ξ ∧ KC A s0 (k + 1) μ ξ := by
  obtain ⟨ξ, e1, e2, e3, e4⟩ := s8_pass (KC_H hR hK) hK.2.1 (AI_W hI) hK.1 (SI_itr (AI_H hI) hs k)
  exact ⟨ξ, e1, e2, e3, QC_t hK.2.2 (FrP_Q e4)⟩
theorem KM_step (hI : AI A) (hR : RM A μ) (hs : SI (aH A) s0) {b k : Nat} (hb : b = 987 ∨ b = 1034) {p : Int32} (hp : p = nI b) {ν : XM} (hK : KM A b s0 k μ ν) : ∃ ξ, f12_passes p ν = xri (nI (sunkN (aH A) (itr (aH A) s0 k))) ξ ∧ KM A b s0 (k + 1) μ ξ := by
  subst hp
  obtain ⟨ξ, e1, e2, e3⟩ := s12_passes (KM_H hR hK) (RL_q hK.2 hR.2.1) (AI_W hI) (AI_H hI) hK.1 (SI_itr (AI_H hI) hs k) (by omega)
  exact ⟨ξ, e1, e2, QM_t hK.2 (FX_Q e3 (by omega))⟩
theorem KC_start (hR : RC A μ) : ∃ ν, f8_copyFrom 1 0 μ = xrv ν ∧ KC A (aS A) 0 μ ν := by
  obtain ⟨ν, e1, e2, e3⟩ := s8_copyFrom (i := 1) (RC_H hR) (RC_S hR) (by decide)
  exact ⟨ν, e1, e2, LC_ob (e3 4 0 (by omega)) (RC_L hR), FrS_Q e3⟩
theorem RS_copy {a c : Nat} {h : HS} {s : SS} {ν : XM} (h6 : hG h ≤ 6) (h3 : hM h ≤ 3) (e : ∀ k, k < 30 → aI ν 12 0 24 (c + k) = aI μ 12 0 24 (a + k)) (hS : RS a h s μ) : RS c h s ν := by
  refine ⟨fun g hg => ?_, fun m hm => ?_, ?_, ?_, ?_⟩
  · obtain ⟨a1, a2, a3, a4⟩ := hS.1 g hg
    have e1 := e (3 + g) (by omega)
    have e2 := e (9 + g) (by omega)
    have e3 := e (21 + g) (by omega)
    have e4 := e (15 + g) (by omega)
    rw [← Nat.add_assoc, ← Nat.add_assoc] at e1 e2 e3 e4
    exact ⟨e1.trans a1, e2.trans a2, e3.trans a3, e4.trans a4⟩
  · have e1 := e (27 + m) (by omega)
    rw [← Nat.add_assoc, ← Nat.add_assoc] at e1
    exact e1.trans (hS.2.1 m hm)
  · exact (e 1 (by omega)).trans hS.2.2.1
  · exact (e 2 (by omega)).trans hS.2.2.2.1
  · exact (e 0 (by omega)).trans hS.2.2.2.2
theorem KM_copy (hR : RM A μ) {c : Nat} (hc : c = 987 ∨ c = 1034) {q : Int32} (hq : q = nI c) : ∃ ν, f12_copies 0 q 30 μ = xrv ν ∧ KM A c (aS A) 0 μ ν := by
  obtain ⟨ν, e1, e2, e3⟩ := s12_copies (μ := μ) (a := 0) (c := c) (n := 30) (by omega) (by omega) (by omega) (p := 0) (q := q) (r := 30) rfl hq rfl
  exact ⟨ν, e1, RS_copy (RH_6 (RM_H hR)) (RH_3 (RM_H hR)) e2 (RM_S hR), FX_Q e3 (by omega)⟩
theorem KM_start (hR : RM A μ) : ∃ ν, f12_triesNow μ = xrv ν ∧ KM A 987 (aS A) 0 μ ν := by
  obtain ⟨ν, e1, e2⟩ := KM_copy hR (c := 987) (.inl rfl) (q := 987) rfl
  exact ⟨ν, by rw [f12_triesNow_e, k12_triesNow, e1, bV_v], e2⟩
/-- the ends -/
theorem KC_end (hR : RC A μ) {k : Nat} {ν : XM} (hK : KC A s0 k μ ν) : RC A ν ∧ Fr11 μ ν := ⟨RC_q hR hK.2.2 hK.2.1, QC_11 hK.2.2⟩
theorem OKc_of (hR : RC A μ) {k : Nat} {ν : XM} (hK : KC A s0 k μ ν) {x : Int32} : OKc A A μ (xri x ν) x := ⟨ν, rfl, (KC_end hR hK).1, (KC_end hR hK).2⟩
theorem OKc_r (hR : RC A μ) {x : Int32} : OKc A A μ (xri x μ) x := ⟨μ, rfl, hR, Fr11_r⟩
theorem OKm_of (hI : AI A) (hR : RM A μ) {ν : XM} (hQ : QM (m0 μ) ν) {x : Int32} : OKm A A μ (xri x ν) x :=
  have hQ' := QM_t (QM_s (.inl rfl)) hQ
  ⟨ν, rfl, RM_q hI hR hQ', hQ'.1⟩
theorem OKm_r (hI : AI A) (hR : RM A μ) {x : Int32} : OKm A A μ (xri x (m0 μ)) x := OKm_of hI hR QM_r
theorem OKm_m (hI : AI A) (hR : RM A μ) {r : XR} {x : Int32} (h : r = xri x (m0 μ)) : OKm A A μ r x := h ▸ OKm_r hI hR
theorem OKc_m (hR : RC A μ) {r : XR} {x : Int32} (h : r = xri x μ) : OKc A A μ r x := h ▸ OKc_r hR
-- goAhead
theorem c_goAhead (hI : AI A) (hR : RC A μ) {j : Nat} (hj : j ≤ 60) : ∃ ν, f11_goAhead (nI j) μ = xrv ν ∧ KC A (aS A) j μ ν := by
  obtain ⟨ν, e1, e2⟩ := KC_start hR
  rw [f11_goAhead_e, k11_goAhead, e1, bV_v, vI_eq]
  refine lp_rel (F := fun n ν k => h11_goAhead_13 n (nI j) k ν) (fun k ν => KC A (aS A) k μ ν) (Q := fun x => ∃ ν, x = xrv ν ∧ KC A (aS A) j μ ν) (e := j) ?_ ?_ j 0 20000 ν (by omega) (by omega) e2
  · intro n ν hK
    rw [h11_goAhead_13_s, xite_f (by rw [nI_ltI (by omega) (by omega)]; omega)]
    exact ⟨ν, rfl, hK⟩
  · intro n ν k hk hK
    obtain ⟨ξ, e3, e4⟩ := KC_step hI hR (AI_S hI) hK
    rw [h11_goAhead_13_s, xite_t (nI_lt hk (by omega)), e3, bI_i, vI_eq, ← nI_succ]
    exact ⟨ξ, e4, rfl⟩
-- later, lost
def aLater (A : AS) (p : Int32) : Int32 := if wit 0 60 p then itr (aH A) (aS A) p.toNatClampNeg 6 0 else -1
def aLost (A : AS) (p : Int32) : Int32 := if wit 0 60 p then nI (who (aH A) (itr (aH A) (aS A) p.toNatClampNeg) 2) else -1
theorem c_later (hI : AI A) (hR : RC A μ) (p : Int32) : OKc A A μ (f11_later p μ) (aLater A p) := by
  rw [f11_later_e, k11_later]
  rcases wit_cases (p := p) (n := 60) (by omega) with ⟨hp, hp'⟩ | ⟨j, hj, rfl, hp1, hp2, hp3⟩
  · have hp : wit 0 60 p = false := hp
    apply OKc_m hR
    simp only [aLater, hp, Bool.false_eq_true, ↓reduceIte, xite_eq]
    rcases hp' with h | h
    · simp only [h, ↓reduceIte]
    · have h : (60 : Int32) < p := h
      simp only [h, ↓reduceIte, ite_self]
  · have hp2 : ¬ (60 : Int32) < nI j := hp2
    have hp3 : wit 0 60 (nI j) = true := hp3
    obtain ⟨ν, e1, e2⟩ := c_goAhead hI hR hj
    rw [xite_f hp1, xite_f hp2, e1, bV_v, CS_de e2.1, aLater, if_pos hp3, nI_clamp (by omega)]
    exact OKc_of hR e2
theorem c_lost (hI : AI A) (hR : RC A μ) (p : Int32) : OKc A A μ (f11_lost p μ) (aLost A p) := by
  rw [f11_lost_e, k11_lost]
  rcases wit_cases (p := p) (n := 60) (by omega) with ⟨hp, hp'⟩ | ⟨j, hj, rfl, hp1, hp2, hp3⟩
  · have hp : wit 0 60 p = false := hp
    apply OKc_m hR
    simp only [aLost, hp, Bool.false_eq_true, ↓reduceIte, xite_eq]
    rcases hp' with h | h
    · simp only [h, ↓reduceIte]
    · have h : (60 : Int32) < p := h
      simp only [h, ↓reduceIte, ite_self]
  · have hp2 : ¬ (60 : Int32) < nI j := hp2
    have hp3 : wit 0 60 (nI j) = true := hp3
    obtain ⟨ν, e1, e2⟩ := c_goAhead hI hR hj
    rw [xite_f hp1, xite_f hp2, e1, bV_v, s8_whoIs (KC_H hR e2) e2.1, bI_i, aLost, if_pos hp3, nI_clamp (by omega)]
    exact OKc_of hR e2
theorem m0_H (hI : AI A) (hR : RM A μ) : RM A (m0 μ) := m0_R hI hR
theorem m_later (hI : AI A) (hR : RM A μ) (p : Int32) : OKm A A μ (f12_later p μ) (aLater A p) := by
  have hR1 := m0_R hI hR
  rw [f12_later_e, k12_later, mS_eq]
  change OKm A A μ (bI (f12_within p 0 60 (m0 μ)) _) _
  rw [s12_within, bI_i]
  rcases wit_cases (p := p) (n := 60) (by omega) with ⟨hp, hp'⟩ | ⟨j, hj, rfl, hp1, hp2, hp3⟩
  · have hp : wit 0 60 p = false := hp
    rw [hp, xite_t (by decide)]
    simp only [aLater, hp, Bool.false_eq_true, ↓reduceIte]
    exact OKm_r hI hR
  · have hp3 : wit 0 60 (nI j) = true := hp3
    obtain ⟨ν, e1, e2⟩ := KM_start hR1
    rw [hp3, xite_f (by decide), e1, bV_v, vI_eq, aLater, if_pos hp3, nI_clamp (by omega)]
    refine lp_rel (F := fun n ν k => h12_later_23 n (nI j) k ν) (fun k ν => KM A 987 (aS A) k (m0 μ) ν) (Q := fun x => OKm A A μ x (itr (aH A) (aS A) j 6 0)) (e := j) ?_ ?_ j 0 20000 ν (by omega) (by omega) e2
    · intro n ν hK
      have x9 : xin 989 1081 = true := xin_t (k := 989) (by omega) (by omega)
      have t9 : Int32.toNatClampNeg 989 = 987 + 2 := rfl
      rw [h12_later_23_s, xite_f (by rw [nI_ltI (by omega) (by omega)]; omega), xck_t x9, t9, hK.1.2.2.2.1]
      exact OKm_of hI hR hK.2
    · intro n ν k hk hK
      obtain ⟨ξ, e3, e4⟩ := KM_step hI hR1 (AI_S hI) (.inl rfl) (p := 987) rfl hK
      rw [h12_later_23_s, xite_t (nI_lt hk (by omega)), e3, bI_i, vI_eq, ← nI_succ]
      exact ⟨ξ, e4, rfl⟩
theorem m_lost (hI : AI A) (hR : RM A μ) (p : Int32) : OKm A A μ (f12_lost p μ) (aLost A p) := by
  have hR1 := m0_R hI hR
  rw [f12_lost_e, k12_lost, mS_eq]
  change OKm A A μ (bI (f12_within p 0 60 (m0 μ)) _) _
  rw [s12_within, bI_i]
  rcases wit_cases (p := p) (n := 60) (by omega) with ⟨hp, hp'⟩ | ⟨j, hj, rfl, hp1, hp2, hp3⟩
  · have hp : wit 0 60 p = false := hp
    rw [hp, xite_t (by decide)]
    simp only [aLost, hp, Bool.false_eq_true, ↓reduceIte]
    exact OKm_r hI hR
  · have hp3 : wit 0 60 (nI j) = true := hp3
    obtain ⟨ν, e1, e2⟩ := KM_start hR1
    rw [hp3, xite_f (by decide), e1, bV_v, vI_eq, aLost, if_pos hp3, nI_clamp (by omega)]
    refine lp_rel (F := fun n ν k => h12_lost_23 n (nI j) k ν) (fun k ν => KM A 987 (aS A) k (m0 μ) ν) (Q := fun x => OKm A A μ x (nI (who (aH A) (itr (aH A) (aS A) j) 2))) (e := j) ?_ ?_ j 0 20000 ν (by omega) (by omega) e2
    · intro n ν hK
      rw [h12_lost_23_s, xite_f (by rw [nI_ltI (by omega) (by omega)]; omega), s12_who (KM_H hR1 hK) hK.1 (by omega) B987, bI_i]
      exact OKm_of hI hR hK.2
    · intro n ν k hk hK
      obtain ⟨ξ, e3, e4⟩ := KM_step hI hR1 (AI_S hI) (.inl rfl) (p := 987) rfl hK
      rw [h12_lost_23_s, xite_t (nI_lt hk (by omega)), e3, bI_i, vI_eq, ← nI_succ]
      exact ⟨ξ, e4, rfl⟩
-- over
def aOver (A : AS) (p : Int32) : Int32 := if wit 0 60 p then oI (f1 (fun n => decide (¬ itr (aH A) (aS A) n 6 0 < p)) 0 61) else -1
theorem c_over (hI : AI A) (hR : RC A μ) (p : Int32) : OKc A A μ (f11_over p μ) (aOver A p) := by
  rw [f11_over_e, k11_over]
  by_cases hw : wit 0 60 p = true
  · have hw' := hw
    simp only [wit, Bool.and_eq_true, decide_eq_true_eq] at hw'
    obtain ⟨ν, e1, e2⟩ := KC_start hR
    rw [xite_f hw'.1, xite_f hw'.2, e1, bV_v, vI_eq, aOver, if_pos hw]
    refine lp_rex (F := fun n ν k => h11_over_25 n p k ν) (fun k ν => KC A (aS A) k μ ν) (fun n => decide (¬ itr (aH A) (aS A) n 6 0 < p)) (Q := fun a x => OKc A A μ x (oI a)) (e := 61) ?_ ?_ 61 0 20000 ν (by omega) (by omega) e2
    · intro n ν hK
      rw [h11_over_25_s, xite_t (by decide)]
      exact OKc_of hR hK
    · intro n ν k hk hK
      have h6 : ¬ (60 : Int32) < nI k := nI_nlt (a := 60) (b := k) (by omega) (by omega)
      refine ⟨fun hc => ?_, fun hc => ?_⟩
      · rw [h11_over_25_s, xite_f h6, CS_de hK.1, xite_f (of_decide_eq_true hc)]
        exact OKc_of hR hK
      · obtain ⟨ξ, e3, e4⟩ := KC_step hI hR (AI_S hI) hK
        have hc' : itr (aH A) (aS A) k 6 0 < p := by simpa using hc
        rw [h11_over_25_s, xite_f h6, CS_de hK.1, xite_t hc', e3, bI_i, vI_eq, ← nI_succ]
        exact ⟨ξ, e4, rfl⟩
  · rw [aOver, if_neg hw]
    have hw2 : wit 0 60 p = false := by simpa using hw
    apply OKc_m hR
    by_cases h0 : p < 0
    · rw [xite_t h0]
    · have h1 : (60 : Int32) < p := by
        by_cases h1 : (60 : Int32) < p
        · exact h1
        · simp [wit, h0, h1] at hw2
      rw [xite_f h0, xite_t h1]
theorem m_over (hI : AI A) (hR : RM A μ) (p : Int32) : OKm A A μ (f12_over p μ) (aOver A p) := by
  have hR1 := m0_R hI hR
  obtain ⟨ν, e1, e2⟩ := KM_start hR1
  rw [f12_over_e, k12_over, mS_eq]
  change OKm A A μ (bV (f12_triesNow (m0 μ)) _) _
  rw [e1, bV_v, vI_eq, aOver]
  by_cases hw : wit 0 60 p = true
  · rw [if_pos hw]
    refine lp_rex (F := fun n ν k => h12_over_11 n p k ν) (fun k ν => KM A 987 (aS A) k (m0 μ) ν) (fun n => decide (¬ itr (aH A) (aS A) n 6 0 < p)) (Q := fun a x => OKm A A μ x (oI a)) (e := 61) ?_ ?_ 61 0 20000 ν (by omega) (by omega) e2
    · intro n ν hK
      rw [h12_over_11_s, xite_t (by decide)]
      exact OKm_of hI hR hK.2
    · intro n ν k hk hK
      have h6 : ¬ (60 : Int32) < nI k := nI_nlt (a := 60) (b := k) (by omega) (by omega)
      have x9 : xin 989 1081 = true := xin_t (k := 989) (by omega) (by omega)
      have t9 : Int32.toNatClampNeg 989 = 987 + 2 := rfl
      refine ⟨fun hc => ?_, fun hc => ?_⟩
      · rw [h12_over_11_s, xite_f h6, s12_within, bI_i, hw, xite_f (by decide), xck_t x9, t9, hK.1.2.2.2.1, xite_f (of_decide_eq_true hc)]
        exact OKm_of hI hR hK.2
      · obtain ⟨ξ, e3, e4⟩ := KM_step hI hR1 (AI_S hI) (.inl rfl) (p := 987) rfl hK
        have hc' : itr (aH A) (aS A) k 6 0 < p := by simpa using hc
        rw [h12_over_11_s, xite_f h6, s12_within, bI_i, hw, xite_f (by decide), xck_t x9, t9, hK.1.2.2.2.1, xite_t hc', e3, bI_i, vI_eq, ← nI_succ]
        exact ⟨ξ, e4, rfl⟩
  · have hw2 : wit 0 60 p = false := by simpa using hw
    have e3 : h12_over_11 20000 p 0 ν = xri (-1) ν := by
      rw [h12_over_11_s, xite_f (by decide), s12_within, bI_i, hw2, xite_t (by decide)]
    rw [if_neg hw]
    change OKm A A μ (h12_over_11 20000 p 0 ν) _
    rw [e3]
    exact OKm_of hI hR e2.2
-- sinks, home
/-- in how many minutes one is so -/
def unt (h : HS) (s : SS) (g : Nat) (v : Int32) : Option Nat := f1 (fun n => decide (itr h s n 2 g = v)) 1 60
theorem c_until (hI : AI A) (hR : RC A μ) {g : Nat} (hg : g < hG (aH A)) (hin : isIn (aS A) g = true) (v : Int32) : OKc A A μ (f11_minutesUntil (nI g) v μ) (oI (unt (aH A) (aS A) g v)) := by
  have h6 := CH_6 (RC_H hR)
  have hr : inR (hG (aH A)) (nI g) = true := inR_t (by omega) hg
  have hcl : (nI g).toNatClampNeg = g := nI_clamp (by omega)
  obtain ⟨ν, e1, e2⟩ := KC_start hR
  rw [f11_minutesUntil_e, k11_minutesUntil, s8_isIn (RC_H hR) (RC_S hR), bI_i, hr, hcl, hin, Bool.and_self, xite_f (by decide), e1, bV_v, vI_eq]
  refine lp_rex (F := fun n ν k => h11_minutesUntil_26 n (nI g) v k ν) (fun k ν => 1 ≤ k ∧ KC A (aS A) (k - 1) μ ν) (fun n => decide (itr (aH A) (aS A) n 2 g = v)) (Q := fun a x => OKc A A μ x (oI a)) (e := 61) ?_ ?_ 60 1 20000 ν (by omega) (by omega) ⟨by omega, e2⟩
  · intro n ν hK
    rw [h11_minutesUntil_26_s, xite_t (by decide)]
    exact OKc_of hR hK.2
  · intro n ν k hk hK
    have h9 : ¬ (60 : Int32) < nI k := nI_nlt (a := 60) (b := k) (by omega) (by omega)
    obtain ⟨ξ, e3, e4⟩ := KC_step hI hR (AI_S hI) hK.2
    rw [show k - 1 + 1 = k by omega] at e4
    rw [h11_minutesUntil_26_s, xite_f h9, e3, bI_i, s8_isInState (KC_H hR e4) e4.1, bI_i, hr, hcl, Bool.true_and]
    refine ⟨fun hc => ?_, fun hc => ?_⟩
    · rw [hc, xite_f (by decide)]; exact OKc_of hR e4
    · rw [hc, xite_t (by decide), vI_eq, ← nI_succ]
      exact ⟨ξ, ⟨by omega, by rw [show k + 1 - 1 = k by omega]; exact e4⟩, rfl⟩
theorem c_until_no (hR : RC A μ) {p : Int32} (hp : (inR (hG (aH A)) p && isIn (aS A) p.toNatClampNeg) = false) (v : Int32) : f11_minutesUntil p v μ = xri (-1) μ := by
  rw [f11_minutesUntil_e, k11_minutesUntil, s8_isIn (RC_H hR) (RC_S hR), bI_i, hp, xite_t (by decide)]
def aUntil (A : AS) (p v : Int32) : Int32 := if inR (hG (aH A)) p && isIn (aS A) p.toNatClampNeg then oI (unt (aH A) (aS A) p.toNatClampNeg v) else -1
theorem c_untilA (hI : AI A) (hR : RC A μ) (p v : Int32) : OKc A A μ (f11_minutesUntil p v μ) (aUntil A p v) := by
  have h6 := CH_6 (RC_H hR)
  by_cases hp : (inR (hG (aH A)) p && isIn (aS A) p.toNatClampNeg) = true
  · rcases inR_cases (n := hG (aH A)) (by omega) p with ⟨hq, _⟩ | ⟨j, hj, rfl, hp1, hp2, hp3⟩
    · rw [hq] at hp; cases hp
    · rw [hp3, nI_clamp (show j < 2 ^ 31 by omega), Bool.true_and] at hp
      simp only [aUntil, hp3, nI_clamp (show j < 2 ^ 31 by omega), hp, Bool.and_self, ↓reduceIte]
      exact c_until hI hR hj hp v
  · have hp' : (inR (hG (aH A)) p && isIn (aS A) p.toNatClampNeg) = false := by simpa using hp
    rw [aUntil, hp', c_until_no hR hp']
    exact OKc_r hR
theorem c_sinks (hI : AI A) (hR : RC A μ) (p : Int32) : OKc A A μ (f11_sinks p μ) (aUntil A p 2) := by
  obtain ⟨ν, e1, e2, e3⟩ := c_untilA hI hR p 2
  rw [f11_sinks_e, k11_sinks, e1, bI_i]
  exact ⟨ν, rfl, e2, e3⟩
theorem c_home (hI : AI A) (hR : RC A μ) (p : Int32) : OKc A A μ (f11_home p μ) (aUntil A p 1) := by
  obtain ⟨ν, e1, e2, e3⟩ := c_untilA hI hR p 1
  rw [f11_home_e, k11_home, e1, bI_i]
  exact ⟨ν, rfl, e2, e3⟩
theorem m_becomes (hI : AI A) (hR1 : RM A μ) (hs : SI (aH A) s0) {ν : XM} (hK : KM A 987 s0 0 μ ν) {g : Nat} (hg : g < hG (aH A)) (v : Int32) : ∃ ξ, f12_becomes (nI g) v ν = xri (oI (unt (aH A) s0 g v)) ξ ∧ QM μ ξ := by
  have h6 := RH_6 (RM_H hR1)
  rw [f12_becomes_e, k12_becomes, vI_eq]
  refine lp_rex (F := fun n ν k => h12_becomes_2 n (nI g) v k ν) (fun k ν => 1 ≤ k ∧ KM A 987 s0 (k - 1) μ ν) (fun n => decide (itr (aH A) s0 n 2 g = v)) (Q := fun a x => ∃ ξ, x = xri (oI a) ξ ∧ QM μ ξ) (e := 61) ?_ ?_ 60 1 20000 ν (by omega) (by omega) ⟨by omega, hK⟩
  · intro n ν hK
    rw [h12_becomes_2_s, xite_t (by decide)]
    exact ⟨ν, rfl, hK.2.2⟩
  · intro n ν k hk hK
    have h9 : ¬ (60 : Int32) < nI k := nI_nlt (a := 60) (b := k) (by omega) (by omega)
    obtain ⟨ξ, e3, e4⟩ := KM_step hI hR1 hs (.inl rfl) (p := 987) rfl hK.2
    rw [show k - 1 + 1 = k by omega] at e4
    have k3 : (1008 + nI g : Int32) = nI (987 + 21 + g) := by rw [show (1008 : Int32) = nI 1008 from rfl, nI_add]
    have x3 : xin (nI (987 + 21 + g)) 1081 = true := xin_t (by omega) (by omega)
    have q3 : (nI (987 + 21 + g)).toNatClampNeg = 987 + 21 + g := nI_clamp (by omega)
    rw [h12_becomes_2_s, xite_f h9, e3, bI_i, k3, xck_t x3, q3, (e4.1.1 g hg).2.2.1]
    refine ⟨fun hc => ?_, fun hc => ?_⟩
    · rw [xite_t (of_decide_eq_true hc)]; exact ⟨ξ, rfl, e4.2⟩
    · rw [xite_f (of_decide_eq_false hc), vI_eq, ← nI_succ]
      exact ⟨ξ, ⟨by omega, by rw [show k + 1 - 1 = k by omega]; exact e4⟩, rfl⟩
theorem m_sinksIn (hI : AI A) (hR1 : RM A μ) {g : Nat} (hg : g < hG (aH A)) : ∃ ξ, f12_sinksIn (nI g) μ = xri (oI (unt (aH A) (aS A) g 2)) ξ ∧ QM μ ξ := by
  obtain ⟨ν, e1, e2⟩ := KM_start hR1
  obtain ⟨ξ, e3, e4⟩ := m_becomes hI hR1 (AI_S hI) e2 hg 2
  exact ⟨ξ, by rw [f12_sinksIn_e, k12_sinksIn, e1, bV_v, e3, bI_i], e4⟩
theorem m_sinks (hI : AI A) (hR : RM A μ) (p : Int32) : OKm A A μ (f12_sinks p μ) (aUntil A p 2) := by
  have hR1 := m0_R hI hR
  have h6 := RH_6 (RM_H hR1)
  rw [f12_sinks_e, k12_sinks, mS_eq]
  change OKm A A μ (bI (f12_isGuest p (m0 μ)) _) _
  rw [s12_isGuest (RM_H hR1), bI_i]
  rcases inR_cases (n := hG (aH A)) (by omega) p with ⟨hp, hp'⟩ | ⟨j, hj, rfl, hp1, hp2, hp3⟩
  · rw [hp, xite_t (by decide), aUntil, hp]; exact OKm_r hI hR
  · rw [hp3, xite_f (by decide), s12_isIn (RM_S hR1) (by omega) h6 B0 hj, bI_i, aUntil, hp3, nI_clamp (by omega), Bool.true_and]
    by_cases hin : isIn (aS A) j = true
    · obtain ⟨ξ, e3, e4⟩ := m_sinksIn hI hR1 hj
      rw [hin, xite_f (by decide), e3, bI_i]; exact OKm_of hI hR e4
    · have hin' : isIn (aS A) j = false := by simpa using hin
      rw [hin', xite_t (by decide)]; exact OKm_r hI hR
theorem m_home (hI : AI A) (hR : RM A μ) (p : Int32) : OKm A A μ (f12_home p μ) (aUntil A p 1) := by
  have hR1 := m0_R hI hR
  have h6 := RH_6 (RM_H hR1)
  rw [f12_home_e, k12_home, mS_eq]
  change OKm A A μ (bI (f12_isGuest p (m0 μ)) _) _
  rw [s12_isGuest (RM_H hR1), bI_i]
  rcases inR_cases (n := hG (aH A)) (by omega) p with ⟨hp, hp'⟩ | ⟨j, hj, rfl, hp1, hp2, hp3⟩
  · rw [hp, xite_t (by decide), aUntil, hp]; exact OKm_r hI hR
  · rw [hp3, xite_f (by decide), s12_isIn (RM_S hR1) (by omega) h6 B0 hj, bI_i, aUntil, hp3, nI_clamp (by omega), Bool.true_and]
    by_cases hin : isIn (aS A) j = true
    · obtain ⟨ν, e1, e2⟩ := KM_start hR1
      obtain ⟨ξ, e3, e4⟩ := m_becomes hI hR1 (AI_S hI) e2 hj 1
      rw [hin, xite_f (by decide), e1, bV_v, e3, bI_i]; exact OKm_of hI hR e4
    · have hin' : isIn (aS A) j = false := by simpa using hin
      rw [hin', xite_t (by decide)]; exact OKm_r hI hR
-- quiet
def aQuiet (A : AS) : Int32 := oI (f1 (fun n => decide (who (aH A) (itr (aH A) (aS A) n) 0 = 0)) 0 61)
theorem who_0 {h : HS} {s : SS} {v : Int32} (h6 : hG h ≤ 6) : (nI (who h s v) = 0) = (who h s v = 0) := by
  have : who h s v < 1024 := bN_lt' _ (by omega)
  exact propext (nI_eq (b := 0) (by omega) (by omega))
theorem c_quiet (hI : AI A) (hR : RC A μ) : OKc A A μ (f11_quiet μ) (aQuiet A) := by
  have h6 := CH_6 (RC_H hR)
  obtain ⟨ν, e1, e2⟩ := KC_start hR
  rw [f11_quiet_e, k11_quiet, e1, bV_v, vI_eq]
  refine lp_rex (F := fun n ν k => h11_quiet_13 n k ν) (fun k ν => KC A (aS A) k μ ν) (fun n => decide (who (aH A) (itr (aH A) (aS A) n) 0 = 0)) (Q := fun a x => OKc A A μ x (oI a)) (e := 61) ?_ ?_ 61 0 20000 ν (by omega) (by omega) e2
  · intro n ν hK
    rw [h11_quiet_13_s, xite_t (by decide)]
    exact OKc_of hR hK
  · intro n ν k hk hK
    have h9 : ¬ (60 : Int32) < nI k := nI_nlt (a := 60) (b := k) (by omega) (by omega)
    rw [h11_quiet_13_s, xite_f h9, s8_whoIs (KC_H hR hK) hK.1, bI_i, who_0 h6]
    refine ⟨fun hc => ?_, fun hc => ?_⟩
    · rw [xite_t (of_decide_eq_true hc)]; exact OKc_of hR hK
    · obtain ⟨ξ, e3, e4⟩ := KC_step hI hR (AI_S hI) hK
      rw [xite_f (of_decide_eq_false hc), e3, bI_i, vI_eq, ← nI_succ]
      exact ⟨ξ, e4, rfl⟩
theorem m_quiet (hI : AI A) (hR : RM A μ) : OKm A A μ (f12_quiet μ) (aQuiet A) := by
  have hR1 := m0_R hI hR
  have h6 := RH_6 (RM_H hR1)
  obtain ⟨ν, e1, e2⟩ := KM_start hR1
  rw [f12_quiet_e, k12_quiet, mS_eq]
  change OKm A A μ (bV (f12_triesNow (m0 μ)) _) _
  rw [e1, bV_v, vI_eq]
  refine lp_rex (F := fun n ν k => h12_quiet_11 n k ν) (fun k ν => KM A 987 (aS A) k (m0 μ) ν) (fun n => decide (who (aH A) (itr (aH A) (aS A) n) 0 = 0)) (Q := fun a x => OKm A A μ x (oI a)) (e := 61) ?_ ?_ 61 0 20000 ν (by omega) (by omega) e2
  · intro n ν hK
    rw [h12_quiet_11_s, xite_t (by decide)]
    exact OKm_of hI hR hK.2
  · intro n ν k hk hK
    have h9 : ¬ (60 : Int32) < nI k := nI_nlt (a := 60) (b := k) (by omega) (by omega)
    rw [h12_quiet_11_s, xite_f h9, s12_who (KM_H hR1 hK) hK.1 (by omega) B987, bI_i, who_0 h6]
    refine ⟨fun hc => ?_, fun hc => ?_⟩
    · rw [xite_t (of_decide_eq_true hc)]; exact OKm_of hI hR hK.2
    · obtain ⟨ξ, e3, e4⟩ := KM_step hI hR1 (AI_S hI) (.inl rfl) (p := 987) rfl hK
      rw [xite_f (of_decide_eq_false hc), e3, bI_i, vI_eq, ← nI_succ]
      exact ⟨ξ, e4, rfl⟩
-- when
def aWhen (A : AS) (p : Int32) : Int32 := oI (f1 (fun n => inR (hG (aH A)) p && cry (aH A) (itr (aH A) (aS A) n) p.toNatClampNeg) 0 61)
theorem c_when (hI : AI A) (hR : RC A μ) (p : Int32) : OKc A A μ (f11_when p μ) (aWhen A p) := by
  obtain ⟨ν, e1, e2⟩ := KC_start hR
  rw [f11_when_e, k11_when, e1, bV_v, vI_eq]
  refine lp_rex (F := fun n ν k => h11_when_13 n p k ν) (fun k ν => KC A (aS A) k μ ν) (fun n => inR (hG (aH A)) p && cry (aH A) (itr (aH A) (aS A) n) p.toNatClampNeg) (Q := fun a x => OKc A A μ x (oI a)) (e := 61) ?_ ?_ 61 0 20000 ν (by omega) (by omega) e2
  · intro n ν hK
    rw [h11_when_13_s, xite_t (by decide)]
    exact OKc_of hR hK
  · intro n ν k hk hK
    have h9 : ¬ (60 : Int32) < nI k := nI_nlt (a := 60) (b := k) (by omega) (by omega)
    rw [h11_when_13_s, xite_f h9, s8_isCrying (KC_H hR hK) hK.1, bI_i]
    refine ⟨fun hc => ?_, fun hc => ?_⟩
    · rw [hc, xite_f (by decide)]; exact OKc_of hR hK
    · obtain ⟨ξ, e3, e4⟩ := KC_step hI hR (AI_S hI) hK
      rw [hc, xite_t (by decide), e3, bI_i, vI_eq, ← nI_succ]
      exact ⟨ξ, e4, rfl⟩
theorem m_when (hI : AI A) (hR : RM A μ) (p : Int32) : OKm A A μ (f12_when p μ) (aWhen A p) := by
  have hR1 := m0_R hI hR
  have h6 := RH_6 (RM_H hR1)
  obtain ⟨ν, e1, e2⟩ := KM_start hR1
  rw [f12_when_e, k12_when, mS_eq]
  change OKm A A μ (bV (f12_triesNow (m0 μ)) _) _
  rw [e1, bV_v, vI_eq]
  rcases inR_cases (n := hG (aH A)) (by omega) p with ⟨hp, hp'⟩ | ⟨j, hj, rfl, hp1, hp2, hp3⟩
  · have hn : f1 (fun n => inR (hG (aH A)) p && cry (aH A) (itr (aH A) (aS A) n) p.toNatClampNeg) 0 61 = none := (f1_none 61 0).mpr (fun j _ _ => by rw [hp]; rfl)
    rw [aWhen, hn]
    have e3 : h12_when_11 20000 p 0 ν = xri (-1) ν := by
      rw [h12_when_11_s, xite_f (by decide), s12_isGuest (KM_H hR1 e2), bI_i, hp, xite_t (by decide)]
    change OKm A A μ (h12_when_11 20000 p 0 ν) _
    rw [e3]; exact OKm_of hI hR e2.2
  · rw [aWhen, hp3, nI_clamp (by omega)]
    refine lp_rex (F := fun n ν k => h12_when_11 n (nI j) k ν) (fun k ν => KM A 987 (aS A) k (m0 μ) ν) (fun n => true && cry (aH A) (itr (aH A) (aS A) n) j) (Q := fun a x => OKm A A μ x (oI a)) (e := 61) ?_ ?_ 61 0 20000 ν (by omega) (by omega) e2
    · intro n ν hK
      rw [h12_when_11_s, xite_t (by decide)]
      exact OKm_of hI hR hK.2
    · intro n ν k hk hK
      have h9 : ¬ (60 : Int32) < nI k := nI_nlt (a := 60) (b := k) (by omega) (by omega)
      have hH := KM_H hR1 hK
      rw [h12_when_11_s, xite_f h9, s12_isGuest hH, bI_i, hp3, xite_f (by decide), s12_doesCry hH hK.1 (SI_itr (AI_H hI) (AI_S hI) k) (by omega) B987 hj, bI_i, Bool.true_and]
      refine ⟨fun hc => ?_, fun hc => ?_⟩
      · rw [hc, xite_f (by decide)]; exact OKm_of hI hR hK.2
      · obtain ⟨ξ, e3, e4⟩ := KM_step hI hR1 (AI_S hI) (.inl rfl) (p := 987) rfl hK
        rw [hc, xite_t (by decide), e3, bI_i, vI_eq, ← nI_succ]
        exact ⟨ξ, e4, rfl⟩
end
