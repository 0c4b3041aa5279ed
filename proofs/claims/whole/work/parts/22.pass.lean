/-! THE PURE PART: a minute of the component -/
theorem lp_relc {σ : Type} {F : Nat → σ → Int32 → XR} (c : Nat) (I : Nat → σ → Prop) {Q : XR → Prop} {e : Nat}
    (hx : ∀ n s, c ≤ n → I e s → Q (F (n + 1) s (nI e)))
    (hs : ∀ n s k, k < e → I k s → ∃ s', I (k + 1) s' ∧ F (n + 1) s (nI k) = F n s' (nI (k + 1))) :
    ∀ d k n s, k + d = e → d + c < n → I k s → Q (F n s (nI k)) := by
  intro d
  induction d with
  | zero =>
    intro k n s h hn hI
    obtain ⟨m, rfl⟩ : ∃ m, n = m + 1 := ⟨n - 1, by omega⟩
    obtain rfl : k = e := by omega
    exact hx m s (by omega) hI
  | succ d ih =>
    intro k n s h hn hI
    obtain ⟨m, rfl⟩ : ∃ m, n = m + 1 := ⟨n - 1, by omega⟩
    obtain ⟨s', hI', he⟩ := hs m s k (by omega) hI
    rw [he]
    exact ih (k + 1) m s' (by omega) (by omega) hI'
def FrP (i : Nat) (μ ν : XM) : Prop := ∀ t j, ¬ (t = 8 ∧ j = i) → ¬ (t = 4 ∧ j = 0) → ν t j = μ t j
theorem FrP_r {i : Nat} {μ : XM} : FrP i μ μ := fun _ _ _ _ => rfl
theorem FrP_t {i : Nat} {μ ν ξ : XM} (a : FrP i μ ν) (b : FrP i ν ξ) : FrP i μ ξ := fun t j h h2 => (b t j h h2).trans (a t j h h2)
theorem FrS_P {i : Nat} {μ ν : XM} (a : FrS i μ ν) : FrP i μ ν := fun t j h _ => a t j h
theorem FrL_P {i : Nat} {μ ν : XM} (a : FrL 0 μ ν) : FrP i μ ν := fun t j _ h => a t j h
theorem ct_in (c : Nat → Bool) (n : Nat) : ∀ m, n ≤ m → ct (fun k => decide (k < n) && c k) m = ct c n
  | 0, h => by obtain rfl : n = 0 := by omega
               rfl
  | m + 1, h => by
    by_cases e : n = m + 1
    · subst e
      exact ct_cong (fun k hk => by simp [hk])
    · have := ct_in c n m (by omega)
      have h2 : ¬ m < n := by omega
      rw [ct, this]
      simp [h2]
/-- how many bits -/
def pc (v : Nat) : Nat := ct (fun k => v.testBit k) 10
theorem pc_bN (c : Nat → Bool) {n : Nat} (hn : n ≤ 10) : pc (bN c n) = ct c n := by
  unfold pc
  rw [ct_cong (d := fun k => decide (k < n) && c k) (fun k _ => bN_test c n k)]
  exact ct_in c n 10 hn
def swar (p0 : Int32) : Int32 :=
  (fun x1 => (fun x2 => (fun x3 => (fun x4 => (fun x5 : Int32 => x5 &&& 63)
    (x4 + ((Int32.toUInt32 x4) >>> ((Int32.toUInt32 16) &&& Int32.toUInt32 31)).toInt32))
    (x3 + ((Int32.toUInt32 x3) >>> ((Int32.toUInt32 8) &&& Int32.toUInt32 31)).toInt32))
    ((x2 + ((Int32.toUInt32 x2) >>> ((Int32.toUInt32 4) &&& Int32.toUInt32 31)).toInt32) &&& 252645135))
    ((x1 &&& 858993459) + (((Int32.toUInt32 x1) >>> ((Int32.toUInt32 2) &&& Int32.toUInt32 31)).toInt32 &&& 858993459)))
    (p0 - (((Int32.toUInt32 p0) >>> ((Int32.toUInt32 1) &&& Int32.toUInt32 31)).toInt32 &&& 1431655765))
theorem swar_pc : ∀ v, v < 1024 → swar (nI v) = nI (pc v) := by decide +kernel
theorem sJ_bitCount {v : Nat} (hv : v < 1024) (μ : XM) : fJ_bitCount (nI v) μ = xri (nI (pc v)) μ := by
  rw [fJ_bitCount_e, kJ_bitCount]
  simp only [vI_eq]
  rw [← swar_pc v hv]
  rfl
theorem bN_lt' (c : Nat → Bool) {n : Nat} (hn : n ≤ 10) : bN c n < 1024 := by
  have h := bN_lt c n
  have h2 : (2 : Nat) ^ n ≤ 2 ^ 10 := Nat.pow_le_pow_right (by decide) hn
  omega
-- the spec of a minute
def fsOf (h : HS) (s : SS) : Nat → Int32 := fct (s 5 0) (s 6 0) (nI (ct (fun g => decide (s 2 g = 0)) (hG h))) (nI (hB h) - nI (ct (fun b => wl h s (nI b)) (hB h)))
def cla (v : Int32) : Int32 := if v < -9 then -9 else if 9 < v then 9 else v
def dep (d v : Int32) : Int32 := if cla v + d < 0 then 0 else if 60 < cla v + d then 60 else cla v + d
def ri (h : HS) (s : SS) : SS := up s 6 0 (dep (s 6 0) (lawV h (fsOf h s)))
def fin (s : SS) : SS := fun f k => if f = 4 then 0 else if f = 7 ∧ k = 0 then s 7 0 + 1 else s f k
/-- each guest below k who is in it -/
def mix (D : SS → Nat → SS) (s : SS) (k : Nat) : SS := fun f g => if f ≤ 3 ∧ g < k ∧ isIn s g = true then D s g f g else s f g
def pss (h : HS) (s : SS) : SS := fin (ri h (mix (cn h) (mix (dr h) s (hG h)) (hG h)))
def sunkN (h : HS) (s : SS) : Nat := bN (fun g => isIn s g && drB h s g) (hG h)
def lcl (g : Nat) (s s' : SS) : Prop := (∀ f, f ≤ 3 → s f g = s' f g) ∧ (∀ f k, 4 ≤ f → s f k = s' f k)
/-- D changes what is g's alone, and by nothing else -/
def LD (D : SS → Nat → SS) : Prop := (∀ s g f' g', (g' ≠ g ∨ 4 ≤ f') → D s g f' g' = s f' g') ∧ ∀ s s' g f, f ≤ 3 → lcl g s s' → D s g f g = D s' g f g
theorem mix_at {D : SS → Nat → SS} {s : SS} {k : Nat} : lcl k (mix D s k) s := by
  refine ⟨fun f hf => ?_, fun f j hf => ?_⟩
  · simp [mix]
  · have : ¬ f ≤ 3 := by omega
    simp [mix, this]
theorem mix_in {D : SS → Nat → SS} {s : SS} {k : Nat} : isIn (mix D s k) k = isIn s k := by
  unfold isIn; rw [mix_at.1 2 (by omega)]
theorem mix_suc {D : SS → Nat → SS} (hD : LD D) (s : SS) (k : Nat) : (if isIn s k = true then D (mix D s k) k else mix D s k) = mix D s (k + 1) := by
  funext f g
  by_cases hin : isIn s k = true
  · rw [if_pos hin]
    by_cases e : g = k
    · subst e
      by_cases hf : f ≤ 3
      · rw [hD.2 _ s g f hf mix_at]
        simp [mix, hf, hin]
      · rw [hD.1 _ _ _ _ (.inr (by omega))]
        simp [mix, hf]
    · rw [hD.1 _ _ _ _ (.inl e)]
      have : (g < k + 1) = (g < k) := by apply propext; omega
      simp [mix, this]
  · rw [if_neg hin]
    by_cases e : g = k
    · subst e; simp [mix, hin]
    · have : (g < k + 1) = (g < k) := by apply propext; omega
      simp [mix, this]
theorem mix_0 {D : SS → Nat → SS} (s : SS) : mix D s 0 = s := by funext f g; simp [mix]
theorem undr_lcl {h : HS} {s s' : SS} {g : Nat} (e : lcl g s s') : undr h s g = undr h s' g := by
  unfold undr good isIn
  rw [e.1 2 (by omega), e.1 3 (by omega), e.2 6 0 (by omega)]
theorem dr_LD (h : HS) : LD (dr h) := by
  refine ⟨fun s g f' g' hne => ?_, fun s s' g f hf e => ?_⟩
  · unfold dr
    have h1 : ¬ (f' = 1 ∧ g' = g) := by omega
    have h2 : ¬ (f' = 2 ∧ g' = g) := by omega
    have h3 : ¬ (f' = 3 ∧ g' = g) := by omega
    split
    · split <;> simp only [up, h1, h2, h3, ↓reduceIte]
    · simp only [up, h1, ↓reduceIte]
  · unfold dr
    rw [undr_lcl e, e.1 1 (by omega)]
    split
    · split <;> simp only [up, e.1 f hf]
    · simp only [up, e.1 f hf]
theorem cn_LD (h : HS) : LD (cn h) := by
  refine ⟨fun s g f' g' hne => ?_, fun s s' g f hf e => ?_⟩
  · unfold cn
    have h1 : ¬ (f' = 0 ∧ g' = g) := by omega
    have h2 : ¬ (f' = 2 ∧ g' = g) := by omega
    have h3 : ¬ (f' = 3 ∧ g' = g) := by omega
    split
    · rfl
    · split <;> simp only [up, h1, h2, h3, ↓reduceIte]
  · unfold cn
    rw [e.1 3 (by omega), e.1 0 (by omega)]
    split
    · exact e.1 f hf
    · split <;> simp only [up, e.1 f hf]
theorem drB_lcl {h : HS} {s s' : SS} {g : Nat} (e : lcl g s s') : drB h s g = drB h s' g := by
  unfold drB; rw [undr_lcl e, e.1 1 (by omega)]
section
variable {i : Nat} {h : HS} {s : SS} {μ : XM}
theorem s4_value {l : List (Nat × Int32)} (hl : LW l) (hL : LC i l μ) (f0 f1 f2 f3 : Int32) :
    ∃ ξ, f4_value i f0 f1 f2 f3 μ = xri (if l = [] then f0 else (evs (fct f0 f1 f2 f3) l (0, fun _ => 0)).2 0) ξ ∧ LC i l ξ ∧ FrL i μ ξ := by
  rw [f4_value_e, k4_value, hL.1]
  by_cases e : l = []
  · rw [if_pos e, e]
    refine ⟨μ, xite_t rfl, ?_, FrL_r⟩
    rw [← e]; exact hL
  · rw [if_neg e]
    have hlen : 0 < l.length := List.length_pos_iff.mpr e
    have h0 : ¬ nI l.length = 0 := nI_ne0 hlen (by have := hl.2.2; omega)
    rw [xite_f h0]
    simp only [mS_eq, vI_eq]
    have hh : hws l 0 = some 1 := by rcases hl.2.1 with h | h; exact absurd h e; exact h
    have := s4_loop (i := i) (μ := μ) hl.1 hl.2.2 f0 f1 f2 f3 l.length 0 20000 0 (fun _ => 0) (sI μ 4 i 3 0) (by omega) (by have := hl.2.2; omega) (by omega) (by simpa using hh)
      ⟨by simpa [rI_sI, rI_sL, rI_wI, rI_wL, rI_pI, rI_pL, rL_sI, rL_sL, rL_wI, rL_wL, rL_pI, rL_pL, aI_sI, aI_sL, aI_wI, aI_wL, aI_pI, aI_pL, aL_sI, aL_sL, aL_wI, aL_wL, aL_pI, aL_pL] using hL.1, fun j hj => by simpa [rI_sI, rI_sL, rI_wI, rI_wL, rI_pI, rI_pL, rL_sI, rL_sL, rL_wI, rL_wL, rL_pI, rL_pL, aI_sI, aI_sL, aI_wI, aI_wL, aI_pI, aI_pL, aL_sI, aL_sL, aL_wI, aL_wL, aL_pI, aL_pL] using hL.2 j hj⟩ (by simp [rI_sI, rI_sL, rI_wI, rI_wL, rI_pI, rI_pL, rL_sI, rL_sL, rL_wI, rL_wL, rL_pI, rL_pL, aI_sI, aI_sL, aI_wI, aI_wL, aI_pI, aI_pL, aL_sI, aL_sL, aL_wI, aL_wL, aL_pI, aL_pL, nI_0]) (fun j hj => absurd hj (Nat.not_lt_zero j)) (fun t j hne => by rw [sI_ne hne])
    simpa [nI_0] using this
theorem cla_c (v : Int32) : (if -9 < (if v < 9 then v else 9) then (if v < 9 then v else 9) else (-9)) = cla v := by
  unfold cla; grind
theorem dep_c (d v : Int32) : (if 0 < (if (d + cla v) < 60 then (d + cla v) else 60) then (if (d + cla v) < 60 then (d + cla v) else 60) else 0) = dep d v := by
  unfold dep
  rw [Int32.add_comm d]
  generalize cla v + d = x
  grind
theorem s8_rise (hH : CH 0 h μ) (hL : LC 0 (hC h) μ) (hW : LW (hC h)) (hS : CS i h s μ) : ∃ ν, f8_rise i μ = xrv ν ∧ CS i h (ri h s) ν ∧ LC 0 (hC h) ν ∧ FrP i μ ν := by
  have h6 := CH_6 hH
  have h5 := CH_5 hH
  obtain ⟨v, hv, ev, hb⟩ := hS.2.1
  rw [f8_rise_e, k8_rise]
  have w1 : who h s 0 < 1024 := bN_lt' _ (by omega)
  have w2 : wall h s < 1024 := bN_lt' _ (by omega)
  simp only [s8_whoIs hH hS, bI_i, sJ_bitCount w1, vI_eq, s8_wall hH hS, sJ_bitCount w2, CH_B hH, CS_ga hS, CS_de hS]
  have e1 : pc (who h s 0) = ct (fun g => decide (s 2 g = 0)) (hG h) := pc_bN _ (by omega)
  have e2 : pc (wall h s) = ct (fun b => wl h s (nI b)) (hB h) := pc_bN _ (by omega)
  rw [e1, e2]
  obtain ⟨ξ, e3, hL', hF⟩ := s4_value hW hL (s 5 0) (s 6 0) (nI (ct (fun g => decide (s 2 g = 0)) (hG h))) (nI (hB h) - nI (ct (fun b => wl h s (nI b)) (hB h)))
  rw [e3]
  have hS' : CS i h s ξ := CS_ob (hF 8 i (by omega)) hS
  simp only [bI_i, vI_eq, CS_de hS', mS_eq, cla_c, dep_c]
  obtain ⟨v', hv', ev', hb'⟩ := hS'.2.1
  refine ⟨_, rfl, ⟨fun g' hg' => ?_, ⟨v', hv', ?_, hb'⟩, ?_⟩, ?_, ?_⟩
  · obtain ⟨a, b, c, d⟩ := hS'.1 g' hg'
    simp [rI_sI, rI_sL, rI_wI, rI_wL, rI_pI, rI_pL, rL_sI, rL_sL, rL_wI, rL_wL, rL_pI, rL_pL, aI_sI, aI_sL, aI_wI, aI_wL, aI_pI, aI_pL, aL_sI, aL_sL, aL_wI, aL_wL, aL_pI, aL_pL, ri, up, a, b, c, d]
  · simp [rI_sI, rI_sL, rI_wI, rI_wL, rI_pI, rI_pL, rL_sI, rL_sL, rL_wI, rL_wL, rL_pI, rL_pL, aI_sI, aI_sL, aI_wI, aI_wL, aI_pI, aI_pL, aL_sI, aL_sL, aL_wI, aL_wL, aL_pI, aL_pL, ev']
  · simp [rI_sI, rI_sL, rI_wI, rI_wL, rI_pI, rI_pL, rL_sI, rL_sL, rL_wI, rL_wL, rL_pI, rL_pL, aI_sI, aI_sL, aI_wI, aI_wL, aI_pI, aI_pL, aL_sI, aL_sL, aL_wI, aL_wL, aL_pI, aL_pL, ri, up, CS_ga hS', CS_mi hS', lawV, fsOf, fct]
  · exact ⟨by simpa [rI_sI, rI_sL, rI_wI, rI_wL, rI_pI, rI_pL, rL_sI, rL_sL, rL_wI, rL_wL, rL_pI, rL_pL, aI_sI, aI_sL, aI_wI, aI_wL, aI_pI, aI_pL, aL_sI, aL_sL, aL_wI, aL_wL, aL_pI, aL_pL] using hL'.1, fun j hj => by simpa [rI_sI, rI_sL, rI_wI, rI_wL, rI_pI, rI_pL, rL_sI, rL_sL, rL_wI, rL_wL, rL_pI, rL_pL, aI_sI, aI_sL, aI_wI, aI_wL, aI_pI, aI_pL, aL_sI, aL_sL, aL_wI, aL_wL, aL_pI, aL_pL] using hL'.2 j hj⟩
  · intro t j h1 h2
    rw [sI_ne h1]; exact hF t j h2
theorem s8_pass (hH : CH 0 h μ) (hL : LC 0 (hC h) μ) (hW : LW (hC h)) (hS : CS i h s μ) (hI : SI h s) :
    ∃ ν, f8_pass i μ = xri (nI (sunkN h s)) ν ∧ CS i h (pss h s) ν ∧ LC 0 (hC h) ν ∧ FrP i μ ν := by
  have h6 := CH_6 hH
  rw [f8_pass_e, k8_pass, vI_eq, vI_eq]
  -- the second loop
  have two : ∀ n ν, hG h + 1 < n → CS i h (mix (dr h) s (hG h)) ν → FrS i μ ν → ∀ r, ∃ ξ, h8_pass_45 n i r (nI 0) ν = xri r ξ ∧ CS i h (pss h s) ξ ∧ LC 0 (hC h) ξ ∧ FrP i μ ξ := by
    intro n ν hn hS' hF r
    refine lp_rel (F := fun n ν k => h8_pass_45 n i r k ν) (fun k ν => CS i h (mix (cn h) (mix (dr h) s (hG h)) k) ν ∧ FrS i μ ν) (Q := fun x => ∃ ξ, x = xri r ξ ∧ CS i h (pss h s) ξ ∧ LC 0 (hC h) ξ ∧ FrP i μ ξ) (e := hG h) ?_ ?_ (hG h) 0 n ν (by omega) (by omega) ⟨by rw [mix_0]; exact hS', hF⟩
    · intro n ν hI'
      obtain ⟨hS2, hF2⟩ := hI'
      have hH2 : CH 0 h ν := CH_ob (hF2 2 0 (by omega)) hH
      have hL2 : LC 0 (hC h) ν := LC_ob (hF2 4 0 (by omega)) hL
      obtain ⟨ξ, e1, hS3, hL3, hF3⟩ := s8_rise hH2 hL2 hW hS2
      obtain ⟨v, hv, ev, hb⟩ := hS3.2.1
      simp only [h8_pass_45_s, CH_G hH2, Int32.lt_irrefl, xite_f (not_false), e1, bV_v, mS_eq, CS_mi hS3, rI_sI, rI_sL, rI_wI, rI_wL, rI_pI, rI_pL, rL_sI, rL_sL, rL_wI, rL_wL, rL_pI, rL_pL, aI_sI, aI_sL, aI_wI, aI_wL, aI_pI, aI_pL, aL_sI, aL_sL, aL_wI, aL_wL, aL_pI, aL_pL, Nat.reduceEqDiff, and_false, ↓reduceIte]
      refine ⟨_, rfl, ⟨fun g' hg' => ?_, ⟨0, by omega, ?_, fun m hm => ?_⟩, ?_⟩, ?_, ?_⟩
      · obtain ⟨a, b, c, d⟩ := hS3.1 g' hg'
        simp [rI_sI, rI_sL, rI_wI, rI_wL, rI_pI, rI_pL, rL_sI, rL_sL, rL_wI, rL_wL, rL_pI, rL_pL, aI_sI, aI_sL, aI_wI, aI_wL, aI_pI, aI_pL, aL_sI, aL_sL, aL_wI, aL_wL, aL_pI, aL_pL, pss, fin, a, b, c, d]
      · simp [rI_sI, rI_sL, rI_wI, rI_wL, rI_pI, rI_pL, rL_sI, rL_sL, rL_wI, rL_wL, rL_pI, rL_pL, aI_sI, aI_sL, aI_wI, aI_wL, aI_pI, aI_pL, aL_sI, aL_sL, aL_wI, aL_wL, aL_pI, aL_pL, nI_0]
      · simp [free, pss, fin]
      · simp [rI_sI, rI_sL, rI_wI, rI_wL, rI_pI, rI_pL, rL_sI, rL_sL, rL_wI, rL_wL, rL_pI, rL_pL, aI_sI, aI_sL, aI_wI, aI_wL, aI_pI, aI_pL, aL_sI, aL_sL, aL_wI, aL_wL, aL_pI, aL_pL, pss, fin, CS_ga hS3, CS_de hS3]
      · exact ⟨by simpa [rI_sI, rI_sL, rI_wI, rI_wL, rI_pI, rI_pL, rL_sI, rL_sL, rL_wI, rL_wL, rL_pI, rL_pL, aI_sI, aI_sL, aI_wI, aI_wL, aI_pI, aI_pL, aL_sI, aL_sL, aL_wI, aL_wL, aL_pI, aL_pL] using hL3.1, fun j hj => by simpa [rI_sI, rI_sL, rI_wI, rI_wL, rI_pI, rI_pL, rL_sI, rL_sL, rL_wI, rL_wL, rL_pI, rL_pL, aI_sI, aI_sL, aI_wI, aI_wL, aI_pI, aI_pL, aL_sI, aL_sL, aL_wI, aL_wL, aL_pI, aL_pL] using hL3.2 j hj⟩
      · intro t j h1 h2
        rw [sI_ne h1, sI_ne h1]; exact (hF3 t j h1 h2).trans (hF2 t j h1)
    · intro n ν k hk hI'
      obtain ⟨hS2, hF2⟩ := hI'
      have hH2 : CH 0 h ν := CH_ob (hF2 2 0 (by omega)) hH
      have hlt : nI k < nI (hG h) := nI_lt hk (by omega)
      have hcl : (nI k).toNatClampNeg = k := nI_clamp (by omega)
      simp only [h8_pass_45_s, CH_G hH2, xite_t hlt, s8_isIn hH2 hS2, bI_i, inR_t (show hG h < 2 ^ 31 by omega) hk, Bool.true_and, hcl, mix_in, vI_eq, ← nI_succ]
      by_cases hin : isIn (mix (dr h) s (hG h)) k = true
      · have hpl : ∃ r, 1 ≤ r ∧ r ≤ 9 ∧ mix (cn h) (mix (dr h) s (hG h)) k 0 k = nI r := by
          rw [mix_at.1 0 (by omega)]
          have h2 : s 2 k = 0 := by
            by_cases hz : isIn s k = true
            · simpa [isIn] using hz
            · have : (mix (dr h) s (hG h)) 2 k = s 2 k := by simp [mix, hz]
              simp only [isIn, this, decide_eq_true_eq] at hin
              exact hin
          obtain ⟨p, p1, p2, p3⟩ := (hI.1 k hk).2.1
          refine ⟨p, p3 h2, p1, ?_⟩
          rw [← p2]
          have : ∀ s' : SS, dr h s' k 0 k = s' 0 k := by
            intro s'; unfold dr
            split
            · split <;> simp [up]
            · simp [up]
          by_cases hz : isIn s k = true
          · simp [mix, hz, hk, this]
          · simp [mix, hz]
        obtain ⟨ξ, e1, hS3, hF3⟩ := s8_comeNearer hH2 hS2 hk hpl
        have e2 : ¬ (b2 true = 0) := by decide
        rw [hin, xite_f e2, e1, bV_v]
        have := mix_suc (cn_LD h) (mix (dr h) s (hG h)) k
        rw [if_pos hin] at this
        exact ⟨ξ, ⟨this ▸ hS3, FrS_t hF2 hF3⟩, rfl⟩
      · have hin' : isIn (mix (dr h) s (hG h)) k = false := by simpa using hin
        have e2 : b2 false = 0 := rfl
        rw [hin', xite_t e2]
        have := mix_suc (cn_LD h) (mix (dr h) s (hG h)) k
        rw [if_neg hin] at this
        exact ⟨ν, ⟨this ▸ hS2, hF2⟩, rfl⟩
  refine lp_relc 10 (F := fun n (p : Int32 × XM) k => h8_pass_4 n i p.1 k p.2) (fun k p => CS i h (mix (dr h) s k) p.2 ∧ FrS i μ p.2 ∧ p.1 = nI (bN (fun g => isIn s g && drB h s g) k)) (Q := fun x => ∃ ξ, x = xri (nI (sunkN h s)) ξ ∧ CS i h (pss h s) ξ ∧ LC 0 (hC h) ξ ∧ FrP i μ ξ) (e := hG h)
    (fun n p hc hI' => ?_) (fun n p k hk hI' => ?_) (hG h) 0 20000 (nI 0, μ) (by omega) (by omega) ⟨by rw [mix_0]; exact hS, FrS_r, rfl⟩
  · obtain ⟨hS2, hF2, hv⟩ := hI'
    have hH2 : CH 0 h p.2 := CH_ob (hF2 2 0 (by omega)) hH
    simp only [h8_pass_4_s, CH_G hH2, Int32.lt_irrefl, xite_f (not_false), vI_eq, hv]
    exact two n p.2 (by omega) hS2 hF2 _
  · obtain ⟨hS2, hF2, hv⟩ := hI'
    have hH2 : CH 0 h p.2 := CH_ob (hF2 2 0 (by omega)) hH
    have hlt : nI k < nI (hG h) := nI_lt hk (by omega)
    have hcl : (nI k).toNatClampNeg = k := nI_clamp (by omega)
    simp only [h8_pass_4_s, CH_G hH2, xite_t hlt, s8_isIn hH2 hS2, bI_i, inR_t (show hG h < 2 ^ 31 by omega) hk, Bool.true_and, hcl, mix_in, vI_eq, ← nI_succ]
    by_cases hin : isIn s k = true
    · have hbr : ∃ r, 1 ≤ r ∧ r ≤ 9 ∧ mix (dr h) s k 1 k = nI r := by
        rw [mix_at.1 1 (by omega)]
        exact (hI.1 k hk).2.2.1 (by simpa [isIn] using hin)
      obtain ⟨ξ, e1, hS3, hF3⟩ := s8_drowns hH2 hS2 hk hbr
      have e2 : ¬ (b2 true = 0) := by decide
      have := mix_suc (dr_LD h) s k
      rw [if_pos hin] at this
      have hdl : drB h (mix (dr h) s k) k = drB h s k := drB_lcl mix_at
      rw [hin, xite_f e2, e1, bI_i, hdl]
      by_cases hd : drB h s k = true
      · rw [hd, xite_f e2]
        refine ⟨(p.1 ||| (1 <<< (nI k &&& 31)), ξ), ⟨this ▸ hS3, FrS_t hF2 hF3, ?_⟩, rfl⟩
        simp only [hv, or_bit _ (show k < 31 by omega), bN, hin, hd, Bool.and_self, ↓reduceIte]
      · have hd' : drB h s k = false := by simpa using hd
        have e3 : b2 false = 0 := rfl
        rw [hd', xite_t e3]
        refine ⟨(p.1, ξ), ⟨this ▸ hS3, FrS_t hF2 hF3, ?_⟩, rfl⟩
        simp only [hv, bN, hin, hd', Bool.and_false, Bool.false_eq_true, ↓reduceIte]
    · have hin' : isIn s k = false := by simpa using hin
      have e3 : b2 false = 0 := rfl
      have := mix_suc (dr_LD h) s k
      rw [if_neg hin] at this
      rw [hin', xite_t e3]
      refine ⟨p, ⟨this ▸ hS2, hF2, ?_⟩, rfl⟩
      simp only [hv, bN, hin', Bool.false_and, Bool.false_eq_true, ↓reduceIte]
end
