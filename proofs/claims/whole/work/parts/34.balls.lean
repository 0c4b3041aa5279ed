/-! THE PURE PART: balls -/
theorem nxt_ex : ∃ f : Nat → Nat, ∀ g, f g = (g * 1103515245 + 12345) % 2147483648 := ⟨fun g => (g * 1103515245 + 12345) % 2147483648, fun _ => rfl⟩
noncomputable def nxt : Nat → Nat := Classical.choose nxt_ex
theorem nxt_eq (g : Nat) : nxt g = (g * 1103515245 + 12345) % 2147483648 := Classical.choose_spec nxt_ex g
theorem nxt_lt (g : Nat) : nxt g < 2147483648 := by rw [nxt_eq]; exact Nat.mod_lt _ (by decide)
theorem drw_ex : ∃ f : Nat → Nat → Nat, ∀ g m, f g m = g / 65536 % m := ⟨fun g m => g / 65536 % m, fun _ _ => rfl⟩
noncomputable def drw : Nat → Nat → Nat := Classical.choose drw_ex
theorem drw_eq (g m : Nat) : drw g m = g / 65536 % m := Classical.choose_spec drw_ex g m
theorem drw_lt (g : Nat) {m : Nat} (h : 0 < m) : drw g m < m := by rw [drw_eq]; exact Nat.mod_lt _ h
def stp (t : SS) (m : Nat) : SS := up (up t 5 0 (t 5 0 - 1)) 4 m 1
def dnc (h : HS) (t : SS) (f m b g : Nat) : SS × Nat :=
  if f = 0 then (if t 5 0 < 9 then (up t 5 0 (t 5 0 + 1), 0) else (t, 0))
  else if f = 1 then (if free t m = true ∧ 0 < t 5 0 then (stp t m, 0) else (t, 0))
  else if f = 2 ∨ f = 3 then (if rch h t m g = true ∧ wl h t (nI b) = true then (cst t m b g, 1) else (t, 0))
  else (t, 0)
def drn3 (h : HS) : Prop := 0 < hM h ∧ 0 < hG h ∧ 0 < hB h
noncomputable def blst (h : HS) (p : Nat × SS × Nat) : Nat × SS × Nat :=
  let g1 := nxt p.1; let g2 := nxt g1; let g3 := nxt g2; let g4 := nxt g3
  let d := dnc h p.2.1 (drw g4 5) (drw g1 (hM h)) (drw g2 (hB h)) (drw g3 (hG h))
  (g4, pss h d.1, p.2.2 + d.2)
noncomputable def bls (h : HS) (s : SS) (seed : Nat) : Nat → Nat × SS × Nat
  | 0 => (seed, s, 0)
  | n + 1 => @ite _ (drn3 h) (Classical.propDecidable _) (blst h (bls h s seed n)) ((bls h s seed n).1, pss h (bls h s seed n).2.1, (bls h s seed n).2.2)
theorem SI_stp {h : HS} {t : SS} (hI : SI h t) {m : Nat} (hp : 0 < t 5 0) : SI h (stp t m) := by
  obtain ⟨k, k1, k2⟩ := hI.2.2.2.1
  have hk : 0 < k := by
    rw [k2, show (0 : Int32) = nI 0 from rfl, nI_ltI (by omega) (by omega)] at hp; exact hp
  obtain ⟨k', rfl⟩ : ∃ k', k = k' + 1 := ⟨k - 1, by omega⟩
  refine ⟨fun g hg => by simpa [stp, up] using hI.1 g hg, fun g g' hg hg' hne e => ?_, fun m' hm => ?_, ⟨k', by omega, by simp [stp, up, k2, nI_pred]⟩, by simpa [stp, up] using hI.2.2.2.2⟩
  · simp [stp, up] at e ⊢
    exact hI.2.1 g g' hg hg' hne e
  · by_cases e : m' = m
    · right; simp [stp, up, e]
    · simpa [stp, up, e] using hI.2.2.1 m' hm
theorem SI_dnc {h : HS} {t : SS} (hI : SI h t) (h6 : hG h ≤ 6) (h5 : hB h ≤ 5) {f m b g : Nat} (hb : b < hB h) (hg : g < hG h) : SI h (dnc h t f m b g).1 := by
  unfold dnc
  split
  · split
    · rename_i hc; exact SI_gap hI hc
    · exact hI
  · split
    · split
      · rename_i hc; exact SI_stp hI hc.2
      · exact hI
    · split
      · split
        · rename_i hc; exact SI_cst hI h6 h5 hb hg (rch_in hc.1) hc.2
        · exact hI
      · exact hI
theorem SI_bls {h : HS} {s : SS} (hH : HI h) (hI : SI h s) (seed : Nat) : ∀ n, SI h (bls h s seed n).2.1
  | 0 => hI
  | n + 1 => by
    rw [bls]
    split
    · rename_i hd
      refine SI_pss hH (SI_dnc (SI_bls hH hI seed n) hH.1.1 hH.1.2.1 (drw_lt _ hd.2.2) (drw_lt _ hd.2.1))
    · exact SI_pss hH (SI_bls hH hI seed n)
theorem bls_lt {h : HS} {s : SS} {seed : Nat} (hs : seed < 2147483648) : ∀ n, (bls h s seed n).1 < 2147483648
  | 0 => hs
  | n + 1 => by
    rw [bls]
    split
    · exact nxt_lt _
    · exact bls_lt hs n
noncomputable def aBalls (A : AS) (sd mi wh : Int32) : Int32 :=
  if wit 0 9999 sd then (if wit 1 99 mi then (if wit 0 2 wh then
    (if wh = 0 then nI (bls (aH A) (aS A) sd.toNatClampNeg mi.toNatClampNeg).2.2 else if wh = 1 then nI (who (aH A) (bls (aH A) (aS A) sd.toNatClampNeg mi.toNatClampNeg).2.1 2) else nI (who (aH A) (bls (aH A) (aS A) sd.toNatClampNeg mi.toNatClampNeg).2.1 1))
    else -1) else -1) else -1
section
variable {A : AS} {μ : XM}
theorem nxt_L {g : Nat} (hg : g < 2147483648) : (((lN g * 1103515245) + 12345) - ((lN g * 1103515245) + 12345) / 2147483648 * 2147483648 : Int64) = lN (nxt g) := by
  rw [show (1103515245 : Int64) = lN 1103515245 from rfl, show (12345 : Int64) = lN 12345 from rfl, show (2147483648 : Int64) = lN 2147483648 from rfl, lN_mul, lN_add, pk_lRem (by omega) (by omega) (by omega), nxt_eq]
theorem drw_L {g m : Nat} (hg : g < 2147483648) (h0 : 0 < m) (hm : m < 2 ^ 31) : Int64.toInt32 ((lN g / 65536) - (lN g / 65536) / (Int32.toInt64 (nI m)) * (Int32.toInt64 (nI m))) = nI (drw g m) := by
  rw [show (65536 : Int64) = lN 65536 from rfl, nI_l hm, pk_lDiv (by omega) (by omega) (by omega), pk_lRem (by omega) h0 (by omega), lN_i, drw_eq]
theorem lN_ne0 {m : Nat} (h0 : 0 < m) (hm : m < 2 ^ 31) : ¬ (Int32.toInt64 (nI m) : Int64) = 0 := by
  rw [nI_l hm]
  intro e
  have := (pk_lEQ (a := m) (b := 0) (by omega) (by omega)).mp e
  omega
theorem c_nextDraw {g : Nat} (hg : g < 2147483648) : f11_nextDraw (lN g) μ = xrl (lN (nxt g)) μ := by
  rw [f11_nextDraw_e, k11_nextDraw, xite_f (by decide), nxt_L hg]
theorem c_below {g m : Nat} (hg : g < 2147483648) (h0 : 0 < m) (hm : m < 2 ^ 31) : f11_below (lN g) (nI m) μ = xri (nI (drw g m)) μ := by
  rw [f11_below_e, k11_below, xite_t (show (0 : Int32) < nI m from nI_lt (a := 0) h0 hm), xite_f (by decide), xite_f (lN_ne0 h0 hm), drw_L hg h0 hm]
theorem KC_g {t t' : SS} {ν ν2 : XM} (hK : KC A t 0 μ ν) (d2 : CS 1 (aH A) t' ν2) (d3 : FrS 1 ν ν2) : KC A t' 0 μ ν2 := ⟨d2, LC_ob (d3 4 0 (by omega)) hK.2.1, QC_t hK.2.2 (FrS_Q d3)⟩
theorem c_dance (hR : RC A μ) {t : SS} {ν : XM} (hK : KC A t 0 μ ν) {f m b g : Nat} (hf : f < 5) (hm : m < hM (aH A)) (hb : b < hB (aH A)) (hg : g < hG (aH A)) :
    ∃ ξ, f11_dance (nI f) (nI m) (nI b) (nI g) ν = xri (nI (dnc (aH A) t f m b g).2) ξ ∧ KC A (dnc (aH A) t f m b g).1 0 μ ξ := by
  have hH := KC_H hR hK
  have h6 := CH_6 hH
  have h5 := CH_5 hH
  have h3 := CH_3 hH
  have cstop : f8_canStop 1 (nI m) ν = xri (b2 (free t m && decide (0 < t 5 0))) ν := by
    rw [s8_canStop hH hK.1, inR_t (by omega) hm, nI_clamp (by omega), Bool.true_and]; rfl
  have ccast : f8_canCast 1 (nI m) (nI b) (nI g) ν = xri (b2 (wl (aH A) t (nI b) && rch (aH A) t m g)) ν := by
    rw [s8_canCast hH hK.1, inR_t (by omega) hm, inR_t (by omega) hb, inR_t (by omega) hg, nI_clamp (show m < 2 ^ 31 by omega), nI_clamp (show g < 2 ^ 31 by omega), Bool.true_and, Bool.true_and, Bool.true_and]; rfl
  have cask : f8_canAsk 1 ν = xri (b2 (decide (t 5 0 < 9))) ν := s8_canAsk hK.1
  have h61 : ∀ n, (f = 2 ∨ f = 3) → ∃ ξ, h11_dance_61 (n + 1) (nI m) (nI b) (nI g) ν = xri (nI (dnc (aH A) t f m b g).2) ξ ∧ KC A (dnc (aH A) t f m b g).1 0 μ ξ := by
    intro n hf2
    have n0 : ¬ f = 0 := by omega
    have n1 : ¬ f = 1 := by omega
    rw [h11_dance_61_s, ccast, bI_i]
    unfold dnc
    rw [if_neg n0, if_neg n1, if_pos hf2]
    by_cases hc : rch (aH A) t m g = true ∧ wl (aH A) t (nI b) = true
    · obtain ⟨ξ, d1, d2, d3⟩ := s8_giveBelt hH hK.1 hm hg (nI b)
      rw [hc.1, hc.2, Bool.and_self, xite_f (by decide), d1, bV_v, if_pos ⟨rfl, rfl⟩]
      exact ⟨ξ, rfl, KC_g hK d2 d3⟩
    · have hc' : (wl (aH A) t (nI b) && rch (aH A) t m g) = false := by
        cases h1 : rch (aH A) t m g <;> cases h2 : wl (aH A) t (nI b) <;> simp [h1, h2] at hc ⊢
      rw [hc', xite_t (by decide), if_neg hc]
      exact ⟨ν, rfl, hK⟩
  rw [f11_dance_e, k11_dance]
  have hf5 : f = 0 ∨ f = 1 ∨ f = 2 ∨ f = 3 ∨ f = 4 := by omega
  rcases hf5 with rfl | rfl | rfl | rfl | rfl
  · rw [xite_t (by decide), cask, bI_i]
    unfold dnc
    rw [if_pos rfl]
    by_cases h9 : t 5 0 < 9
    · obtain ⟨ξ, d1, d2, d3⟩ := s8_openGap hK.1
      rw [decide_eq_true h9, xite_f (by decide), d1, bV_v, if_pos h9]
      exact ⟨ξ, rfl, KC_g hK d2 d3⟩
    · rw [decide_eq_false h9, xite_t (by decide), if_neg h9, h11_dance_24_s, xite_f (by decide), xite_f (by decide), xite_f (by decide)]
      exact ⟨ν, rfl, hK⟩
  · rw [xite_f (by decide), h11_dance_24_s, xite_t (by decide), cstop, bI_i]
    unfold dnc
    rw [if_neg (by decide), if_pos rfl]
    by_cases hc : free t m = true ∧ 0 < t 5 0
    · obtain ⟨ξ, d1, d2, d3⟩ := s8_closeGap hH hK.1 hm
      rw [hc.1, decide_eq_true hc.2, Bool.and_self, xite_f (by decide), d1, bV_v, if_pos ⟨rfl, hc.2⟩]
      exact ⟨ξ, rfl, KC_g hK d2 d3⟩
    · have hc' : (free t m && decide (0 < t 5 0)) = false := by
        cases h1 : free t m <;> by_cases h2 : 0 < t 5 0 <;> simp [h1, h2] at hc ⊢
      rw [hc', xite_t (by decide), if_neg hc, xite_f (by decide), xite_f (by decide)]
      exact ⟨ν, rfl, hK⟩
  · rw [xite_f (by decide), h11_dance_24_s, xite_f (by decide), xite_t (by decide)]
    exact h61 _ (.inl rfl)
  · rw [xite_f (by decide), h11_dance_24_s, xite_f (by decide), xite_f (by decide), xite_t (by decide)]
    exact h61 _ (.inr rfl)
  · rw [xite_f (by decide), h11_dance_24_s, xite_f (by decide), xite_f (by decide), xite_f (by decide)]
    exact ⟨ν, rfl, hK⟩
theorem c_play (hI : AI A) (hR : RC A μ) {sd mi : Nat} (hsd : sd < 2147483648) (hmi : mi ≤ 99) : ∃ ν, f11_playBalls (nI sd) (nI mi) μ = xri (nI (bls (aH A) (aS A) sd mi).2.2) ν ∧ KC A (bls (aH A) (aS A) sd mi).2.1 0 μ ν := by
  have hH := RC_H hR
  have h6 := CH_6 hH
  have h5 := CH_5 hH
  have h3 := CH_3 hH
  obtain ⟨ν, e1, e2⟩ := KC_start hR
  -- the loop, by the flag
  have loop : ∀ (f : Int32) n, (f = 0 ∧ ¬ drn3 (aH A)) ∨ (f = 1 ∧ drn3 (aH A)) → 100 < n →
      ∃ ξ, h11_playBalls_57 n (nI mi) f (lN sd) (nI 0) (nI 0) ν = xri (nI (bls (aH A) (aS A) sd mi).2.2) ξ ∧ KC A (bls (aH A) (aS A) sd mi).2.1 0 μ ξ := by
    intro f n hf hn
    refine lp_rel (F := fun n (s : (Int64 × Int32) × XM) k => h11_playBalls_57 n (nI mi) f s.1.1 s.1.2 k s.2) (fun k s => s.1.1 = lN (bls (aH A) (aS A) sd k).1 ∧ s.1.2 = nI (bls (aH A) (aS A) sd k).2.2 ∧ KC A (bls (aH A) (aS A) sd k).2.1 0 μ s.2) (Q := fun x => ∃ ξ, x = xri (nI (bls (aH A) (aS A) sd mi).2.2) ξ ∧ KC A (bls (aH A) (aS A) sd mi).2.1 0 μ ξ) (e := mi) ?_ ?_ mi 0 n ((lN sd, nI 0), ν) (by omega) (by omega) ⟨rfl, rfl, e2⟩
    · intro n s hJ
      rw [h11_playBalls_57_s, xite_f Int32.lt_irrefl, hJ.2.1]
      exact ⟨s.2, rfl, hJ.2.2⟩
    · intro n s k hk hJ
      obtain ⟨j1, j2, j3⟩ := hJ
      have hs := SI_bls (AI_H hI) (AI_S hI) sd k
      have hlt := bls_lt (h := aH A) (s := aS A) hsd k
      rw [h11_playBalls_57_s, xite_t (nI_lt hk (by omega))]
      rcases hf with ⟨rfl, hd⟩ | ⟨rfl, hd⟩
      · have hb : bls (aH A) (aS A) sd (k + 1) = ((bls (aH A) (aS A) sd k).1, pss (aH A) (bls (aH A) (aS A) sd k).2.1, (bls (aH A) (aS A) sd k).2.2) := by
          rw [bls]; exact if_neg hd
        obtain ⟨ξ, d1, d2⟩ := KC_step hI hR hs j3
        rw [xite_t (by decide), d1, bI_i, vI_eq, ← nI_succ]
        refine ⟨((s.1.1, s.1.2), ξ), ⟨?_, ?_, ?_⟩, rfl⟩
        · rw [hb]; exact j1
        · rw [hb]; exact j2
        · rw [hb]; exact d2
      · have hb : bls (aH A) (aS A) sd (k + 1) = blst (aH A) (bls (aH A) (aS A) sd k) := by
          rw [bls]; exact if_pos hd
        have hHs := KC_H hR j3
        have q1 := nxt_lt (bls (aH A) (aS A) sd k).1
        have q2 := nxt_lt (nxt (bls (aH A) (aS A) sd k).1)
        have q3 := nxt_lt (nxt (nxt (bls (aH A) (aS A) sd k).1))
        have q4 := nxt_lt (nxt (nxt (nxt (bls (aH A) (aS A) sd k).1)))
        obtain ⟨ξ, d1, d2⟩ := c_dance hR j3 (f := drw (nxt (nxt (nxt (nxt (bls (aH A) (aS A) sd k).1)))) 5) (m := drw (nxt (bls (aH A) (aS A) sd k).1) (hM (aH A))) (b := drw (nxt (nxt (bls (aH A) (aS A) sd k).1)) (hB (aH A))) (g := drw (nxt (nxt (nxt (bls (aH A) (aS A) sd k).1))) (hG (aH A))) (drw_lt _ (by decide)) (drw_lt _ hd.1) (drw_lt _ hd.2.2) (drw_lt _ hd.2.1)
        have hs2 := SI_dnc hs h6 h5 (f := drw (nxt (nxt (nxt (nxt (bls (aH A) (aS A) sd k).1)))) 5) (m := drw (nxt (bls (aH A) (aS A) sd k).1) (hM (aH A))) (drw_lt (nxt (nxt (bls (aH A) (aS A) sd k).1)) hd.2.2) (drw_lt (nxt (nxt (nxt (bls (aH A) (aS A) sd k).1))) hd.2.1)
        obtain ⟨ζ, d3, d4⟩ := KC_step hI hR hs2 d2
        rw [xite_f (by decide), j1, c_nextDraw hlt, bL_l, vL_eq, CH_M hHs, c_below q1 hd.1 (by omega), bI_i, vI_eq, c_nextDraw q1, bL_l, vL_eq, CH_B hHs, c_below q2 hd.2.2 (by omega), bI_i, vI_eq, c_nextDraw q2, bL_l, vL_eq, CH_G hHs, c_below q3 hd.2.1 (by omega), bI_i, vI_eq, c_nextDraw q3, bL_l, vL_eq, show (5 : Int32) = nI 5 from rfl, c_below q4 (by decide) (by decide), bI_i, d1, bI_i, vI_eq]
        have d3' : f8_pass 1 ξ = _ := d3
        rw [d3', bI_i, vI_eq, ← nI_succ, j2, nI_add]
        refine ⟨((_, _), ζ), ⟨?_, ?_, ?_⟩, rfl⟩
        · rw [hb]; rfl
        · rw [hb]; rfl
        · rw [hb]; exact d4
  have h34 : ∀ n, 101 < n → ¬ drn3 (aH A) → ∃ ξ, h11_playBalls_34 n (nI sd) (nI mi) μ = xri (nI (bls (aH A) (aS A) sd mi).2.2) ξ ∧ KC A (bls (aH A) (aS A) sd mi).2.1 0 μ ξ := by
    intro n hn hd
    obtain ⟨m, rfl⟩ : ∃ m, n = m + 1 := ⟨n - 1, by omega⟩
    rw [h11_playBalls_34_s, vI_eq, nI_l (by omega), vL_eq, vI_eq, e1, bV_v, vI_eq]
    exact loop 0 m (.inl ⟨rfl, hd⟩) (by omega)
  have z : ∀ a, a < 2 ^ 31 → ((0 : Int32) < nI a) = (0 < a) := fun a ha => propext (nI_ltI (a := 0) (by omega) ha)
  rw [f11_playBalls_e, k11_playBalls, CH_M hH, CH_G hH, CH_B hH, z _ (by omega), z _ (by omega), z _ (by omega)]
  by_cases hm : 0 < hM (aH A)
  · by_cases hg : 0 < hG (aH A)
    · by_cases hb : 0 < hB (aH A)
      · rw [xite_t hm, xite_t hg, xite_t hb, vI_eq, nI_l (by omega), vL_eq, vI_eq, e1, bV_v, vI_eq]
        exact loop 1 20000 (.inr ⟨rfl, hm, hg, hb⟩) (by omega)
      · rw [xite_t hm, xite_t hg, xite_f hb]; exact h34 _ (by omega) (fun h => hb h.2.2)
    · rw [xite_t hm, xite_f hg]; exact h34 _ (by omega) (fun h => hg h.2.1)
  · rw [xite_f hm]; exact h34 _ (by omega) (fun h => hm h.1)
theorem c_balls (hI : AI A) (hR : RC A μ) (sd mi wh : Int32) : OKc A A μ (f11_balls sd mi wh μ) (aBalls A sd mi wh) := by
  rw [f11_balls_e, k11_balls, aBalls]
  rcases wit_cs (p := sd) (a := 0) (n := 9999) (by omega) (by omega) with ⟨h1, h2⟩ | ⟨s, _, s2, rfl, h3, h4, h5⟩
  · have h1 : wit 0 9999 sd = false := h1
    rw [h1, if_neg (by decide)]
    apply OKc_m hR
    rcases h2 with h | h
    · exact xite_t h
    · by_cases h0 : sd < 0
      · exact xite_t h0
      · rw [xite_f h0]; exact xite_t h
  have h3 : ¬ nI s < (0 : Int32) := h3
  have h4 : ¬ (9999 : Int32) < nI s := h4
  have h5 : wit 0 9999 (nI s) = true := h5
  rw [xite_f h3, xite_f h4, h5, if_pos rfl]
  rcases wit_cs (p := mi) (a := 1) (n := 99) (by omega) (by omega) with ⟨h1, h2⟩ | ⟨m, m1, m2, rfl, g3, g4, g5⟩
  · have h1 : wit 1 99 mi = false := h1
    rw [h1, if_neg (by decide)]
    apply OKc_m hR
    rcases h2 with h | h
    · exact xite_t h
    · by_cases h0 : mi < 1
      · exact xite_t h0
      · rw [xite_f h0]; exact xite_t h
  have g3 : ¬ nI m < (1 : Int32) := g3
  have g4 : ¬ (99 : Int32) < nI m := g4
  have g5 : wit 1 99 (nI m) = true := g5
  rw [xite_f g3, xite_f g4, g5, if_pos rfl]
  rcases wit_cs (p := wh) (a := 0) (n := 2) (by omega) (by omega) with ⟨h1, h2⟩ | ⟨w, _, w2, rfl, k3, k4, k5⟩
  · have h1 : wit 0 2 wh = false := h1
    rw [h1, if_neg (by decide)]
    apply OKc_m hR
    rcases h2 with h | h
    · exact xite_t h
    · by_cases h0 : wh < 0
      · exact xite_t h0
      · rw [xite_f h0]; exact xite_t h
  have k3 : ¬ nI w < (0 : Int32) := k3
  have k4 : ¬ (2 : Int32) < nI w := k4
  have k5 : wit 0 2 (nI w) = true := k5
  obtain ⟨ν, e1, e2⟩ := c_play hI hR (show s < 2147483648 by omega) m2
  rw [xite_f k3, xite_f k4, k5, if_pos rfl, nI_clamp (show s < 2 ^ 31 by omega), nI_clamp (show m < 2 ^ 31 by omega), e1, bI_i, vI_eq]
  by_cases w0 : nI w = 0
  · rw [xite_t w0, if_pos w0]; exact OKc_of hR e2
  · rw [xite_f w0, if_neg w0]
    by_cases w1 : nI w = 1
    · rw [xite_t w1, if_pos w1, s8_whoIs (KC_H hR e2) e2.1, bI_i]; exact OKc_of hR e2
    · rw [xite_f w1, if_neg w1, s8_whoIs (KC_H hR e2) e2.1, bI_i]; exact OKc_of hR e2
end
