/-! THE PURE PART: the reference's balls -/
def KG (A : AS) (t : SS) (g : Nat) (μ ν : XM) : Prop := RS 1034 (aH A) t ν ∧ QM μ ν ∧ rL ν 12 0 33 = lN g
section
variable {A : AS} {μ : XM}
theorem s12_draw {g m : Nat} {ν : XM} (e : rL ν 12 0 33 = lN g) (hg : g < 2147483648) (h0 : 0 < m) (hm : m < 2 ^ 31) : f12_draw (nI m) ν = xri (nI (drw (nxt g) m)) (sL ν 12 0 33 (lN (nxt g))) := by
  have h1 := nxt_lt g
  have e2 : rL (sL ν 12 0 33 (lN (nxt g))) 12 0 33 = lN (nxt g) := by rw [rL_sL]; simp only [and_self, ↓reduceIte]
  rw [f12_draw_e, k12_draw, xite_f (by decide), mS_eq, e, nxt_L hg, xite_f (by decide), xite_f (lN_ne0 h0 hm), e2, drw_L h1 h0 hm]
theorem KG_d {t : SS} {g g' : Nat} {ν : XM} (hK : KG A t g μ ν) : KG A t g' μ (sL ν 12 0 33 (lN g')) := by
  refine ⟨?_, QM_t hK.2.1 QM_L, by rw [rL_sL]; simp only [and_self, ↓reduceIte]⟩
  have := hK.1
  unfold RS at *
  simp only [aI_sL]
  exact this
theorem KG_H (hR : RM A μ) {t : SS} {g : Nat} {ν : XM} (hK : KG A t g μ ν) : RH (aH A) ν := RH_q hK.2.1 (RM_H hR)
theorem KG_f {t t' : SS} {g : Nat} {ν ν2 : XM} (hK : KG A t g μ ν) (d2 : RS 1034 (aH A) t' ν2) (d3 : FM 1034 ν ν2) : KG A t' g μ ν2 := ⟨d2, QM_t hK.2.1 (FX_Q d3 (by omega)), by rw [d3.2.2.1]; exact hK.2.2⟩
theorem m_deed (hI : AI A) (hR : RM A μ) (hd : drn3 (aH A)) {t : SS} (ht : SI (aH A) t) {g : Nat} (hg : g < 2147483648) {ν : XM} (hK : KG A t g μ ν) :
    ∃ ξ, f12_drawsDeed ν = xri (b2 (decide ((dnc (aH A) t (drw (nxt (nxt (nxt (nxt g)))) 5) (drw (nxt g) (hM (aH A))) (drw (nxt (nxt g)) (hB (aH A))) (drw (nxt (nxt (nxt g))) (hG (aH A)))).2 = 1))) ξ ∧
      KG A (dnc (aH A) t (drw (nxt (nxt (nxt (nxt g)))) 5) (drw (nxt g) (hM (aH A))) (drw (nxt (nxt g)) (hB (aH A))) (drw (nxt (nxt (nxt g))) (hG (aH A)))).1 (nxt (nxt (nxt (nxt g)))) μ ξ := by
  have h6 := RH_6 (RM_H hR)
  have h5 := RH_5 (RM_H hR)
  have h3 := RH_3 (RM_H hR)
  have q1 := nxt_lt g
  have q2 := nxt_lt (nxt g)
  have q3 := nxt_lt (nxt (nxt g))
  have k1 := KG_d (g' := nxt g) hK
  have k2 := KG_d (g' := nxt (nxt g)) k1
  have k3 := KG_d (g' := nxt (nxt (nxt g))) k2
  have k4 := KG_d (g' := nxt (nxt (nxt (nxt g)))) k3
  have hm := drw_lt (nxt g) hd.1
  have hb := drw_lt (nxt (nxt g)) hd.2.2
  have hgg := drw_lt (nxt (nxt (nxt g))) hd.2.1
  have hf := drw_lt (nxt (nxt (nxt (nxt g)))) (m := 5) (by decide)
  rw [f12_drawsDeed_e, k12_drawsDeed, s12_men (KG_H hR hK), bI_i, s12_draw hK.2.2 hg hd.1 (by omega), bI_i, vI_eq, s12_belts (KG_H hR k1), bI_i, s12_draw k1.2.2 q1 hd.2.2 (by omega), bI_i, vI_eq, s12_guests (KG_H hR k2), bI_i, s12_draw k2.2.2 q2 hd.2.1 (by omega), bI_i, vI_eq, L5, s12_draw k3.2.2 q3 (by decide) (by decide), bI_i, vI_eq]
  generalize drw (nxt g) (hM (aH A)) = m at *
  generalize drw (nxt (nxt g)) (hB (aH A)) = b at *
  generalize drw (nxt (nxt (nxt g))) (hG (aH A)) = gg at *
  generalize drw (nxt (nxt (nxt (nxt g)))) 5 = f at *
  generalize sL (sL (sL (sL ν 12 0 33 (lN (nxt g))) 12 0 33 (lN (nxt (nxt g)))) 12 0 33 (lN (nxt (nxt (nxt g))))) 12 0 33 (lN (nxt (nxt (nxt (nxt g))))) = ν4 at *
  have hH := KG_H hR k4
  have x5 : xin 1035 1081 = true := xin_t (k := 1035) (by omega) (by omega)
  have x5' : (xin 1035 1081 && true) = true := xin_a (k := 1035) (by omega) (by omega)
  have t5 : Int32.toNatClampNeg 1035 = 1034 + 1 := rfl
  have hgap : aI ν4 12 0 24 (1034 + 1) = t 5 0 := k4.1.2.2.1
  have cstop : f12_mayStop 1034 (nI m) ν4 = xri (b2 (free t m && decide (0 < t 5 0))) ν4 := s12_mayStop hH k4.1 (by omega) B1034 hm
  have ccast : f12_mayCast 1034 (nI m) (nI b) (nI gg) ν4 = xri (b2 (rch (aH A) t m gg && wl (aH A) t (nI b))) ν4 := s12_mayCast hH k4.1 ht (by omega) B1034 hm hb hgg
  have h111 : ∀ n, (f = 2 ∨ f = 3) → ∃ ξ, h12_drawsDeed_111 (n + 1) (nI m) (nI b) (nI gg) ν4 = xri (b2 (decide ((dnc (aH A) t f m b gg).2 = 1))) ξ ∧ KG A (dnc (aH A) t f m b gg).1 (nxt (nxt (nxt (nxt g)))) μ ξ := by
    intro n hf2
    have n0 : ¬ f = 0 := by omega
    have n1 : ¬ f = 1 := by omega
    rw [h12_drawsDeed_111_s, ccast, bI_i]
    unfold dnc
    rw [if_neg n0, if_neg n1, if_pos hf2]
    by_cases hc : rch (aH A) t m gg = true ∧ wl (aH A) t (nI b) = true
    · obtain ⟨ξ, d1, d2, d3⟩ := s12_casts h6 h3 k4.1 (by omega) B1034 hm hgg (nI b)
      rw [hc.1, hc.2, Bool.and_self, xite_f (by decide), d1, bV_v, if_pos ⟨rfl, rfl⟩]
      exact ⟨ξ, rfl, KG_f k4 d2 d3⟩
    · have hc' : (rch (aH A) t m gg && wl (aH A) t (nI b)) = false := by
        cases h1 : rch (aH A) t m gg <;> cases h2 : wl (aH A) t (nI b) <;> simp [h1, h2] at hc ⊢
      rw [hc', xite_t (by decide), if_neg hc]
      exact ⟨ν4, rfl, k4⟩
  have hf5 : f = 0 ∨ f = 1 ∨ f = 2 ∨ f = 3 ∨ f = 4 := by omega
  rcases hf5 with rfl | rfl | rfl | rfl | rfl
  · rw [xite_t (by decide), xck_t x5, xck_t x5, t5, hgap]
    unfold dnc
    rw [if_pos rfl]
    by_cases h9 : t 5 0 < 9
    · rw [xite_t h9, xck_t x5', mS_eq, if_pos h9]
      exact ⟨_, rfl, KG_f k4 (RS_gap h6 h3 k4.1) (FX_p FX_r (by omega) (by omega))⟩
    · rw [xite_f h9, xck_t x5', mS_eq, if_neg h9]
      refine ⟨_, rfl, KG_f k4 ?_ (FX_p FX_r (by omega) (by omega))⟩
      have := RS_gap (x := t 5 0 + 0) h6 h3 k4.1
      rw [up_same] at this
      exact this
  · rw [xite_f (by decide), xite_t (by decide), cstop, bI_i]
    unfold dnc
    rw [if_neg (by decide), if_pos rfl]
    by_cases hc : free t m = true ∧ 0 < t 5 0
    · obtain ⟨ξ, d1, d2, d3⟩ := s12_stops h6 h3 k4.1 (by omega) B1034 hm
      rw [hc.1, decide_eq_true hc.2, Bool.and_self, xite_f (by decide), d1, bV_v, if_pos ⟨rfl, hc.2⟩]
      exact ⟨ξ, rfl, KG_f k4 d2 d3⟩
    · have hc' : (free t m && decide (0 < t 5 0)) = false := by
        cases h1 : free t m <;> by_cases h2 : 0 < t 5 0 <;> simp [h1, h2] at hc ⊢
      rw [hc', xite_t (by decide), if_neg hc, xite_f (by decide), xite_f (by decide)]
      exact ⟨ν4, rfl, k4⟩
  · rw [xite_f (by decide), xite_f (by decide), xite_t (by decide)]
    exact h111 _ (.inl rfl)
  · rw [xite_f (by decide), xite_f (by decide), xite_f (by decide), xite_t (by decide)]
    exact h111 _ (.inr rfl)
  · rw [xite_f (by decide), xite_f (by decide), xite_f (by decide), xite_f (by decide)]
    exact ⟨ν4, rfl, k4⟩
theorem dnc_01 (h : HS) (t : SS) (f m b g : Nat) : (dnc h t f m b g).2 = 0 ∨ (dnc h t f m b g).2 = 1 := by
  unfold dnc
  split
  · split <;> simp
  · split
    · split <;> simp
    · split
      · split <;> simp
      · simp
theorem m_balls (hI : AI A) (hR : RM A μ) (sd mi wh : Int32) : OKm A A μ (f12_balls sd mi wh μ) (aBalls A sd mi wh) := by
  have hR1 := m0_R hI hR
  have h6 := RH_6 (RM_H hR1)
  have h5 := RH_5 (RM_H hR1)
  have h3 := RH_3 (RM_H hR1)
  rw [f12_balls_e, k12_balls, mS_eq]
  change OKm A A μ (bI (f12_within sd 0 9999 (m0 μ)) _) _
  rw [s12_within, bI_i, aBalls]
  rcases wit_cs (p := sd) (a := 0) (n := 9999) (by omega) (by omega) with ⟨h1, h2⟩ | ⟨s, _, s2, rfl, _, _, h5'⟩
  · have h1 : wit 0 9999 sd = false := h1
    rw [h1, xite_t (by decide), if_neg (by decide)]; exact OKm_r hI hR
  have h5' : wit 0 9999 (nI s) = true := h5'
  rw [h5', xite_f (by decide), if_pos rfl, s12_within, bI_i]
  rcases wit_cs (p := mi) (a := 1) (n := 99) (by omega) (by omega) with ⟨h1, h2⟩ | ⟨m, m1, m2, rfl, _, _, g5⟩
  · have h1 : wit 1 99 mi = false := h1
    rw [h1, xite_t (by decide), if_neg (by decide)]; exact OKm_r hI hR
  have g5 : wit 1 99 (nI m) = true := g5
  rw [g5, xite_f (by decide), if_pos rfl, s12_within, bI_i]
  rcases wit_cs (p := wh) (a := 0) (n := 2) (by omega) (by omega) with ⟨h1, h2⟩ | ⟨w, _, w2, rfl, _, _, k5⟩
  · have h1 : wit 0 2 wh = false := h1
    rw [h1, xite_t (by decide), if_neg (by decide)]; exact OKm_r hI hR
  have k5 : wit 0 2 (nI w) = true := k5
  obtain ⟨ν, e1, e2⟩ := KM_copy hR1 (c := 1034) (.inr rfl) (q := 1034) rfl
  have hK0 : KG A (aS A) s (m0 μ) (sL ν 12 0 33 (lN s)) := by
    have : KG A (aS A) s (m0 μ) (sL ν 12 0 33 (lN s)) := by
      refine ⟨?_, QM_t e2.2 QM_L, by rw [rL_sL]; simp only [and_self, ↓reduceIte]⟩
      have h0 : RS 1034 (aH A) (aS A) ν := e2.1
      unfold RS at *
      simp only [aI_sL]
      exact h0
    exact this
  rw [k5, xite_f (by decide), if_pos rfl, nI_clamp (show s < 2 ^ 31 by omega), nI_clamp (show m < 2 ^ 31 by omega), e1, bV_v, nI_l (by omega), mS_eq, vI_eq, vI_eq]
  have z : ∀ a, a < 2 ^ 31 → ((0 : Int32) < nI a) = (0 < a) := fun a ha => propext (nI_ltI (a := 0) (by omega) ha)
  refine lp_rel (F := fun n (st : Int32 × XM) k => h12_balls_59 n (nI m) (nI w) st.1 k st.2) (fun k st => st.1 = nI (bls (aH A) (aS A) s k).2.2 ∧ KG A (bls (aH A) (aS A) s k).2.1 (bls (aH A) (aS A) s k).1 (m0 μ) st.2) (Q := fun x => OKm A A μ x (if nI w = 0 then nI (bls (aH A) (aS A) s m).2.2 else if nI w = 1 then nI (who (aH A) (bls (aH A) (aS A) s m).2.1 2) else nI (who (aH A) (bls (aH A) (aS A) s m).2.1 1))) (e := m) ?_ ?_ m 0 20000 (0, _) (by omega) (by omega) ⟨rfl, hK0⟩
  · intro n st hJ
    rw [h12_balls_59_s, xite_f Int32.lt_irrefl]
    have hwho := fun v => s12_who (KG_H hR1 hJ.2) hJ.2.1 (by omega) B1034 v
    by_cases w0 : nI w = 0
    · rw [xite_t w0, if_pos w0, hJ.1]; exact OKm_of hI hR hJ.2.2.1
    · rw [xite_f w0, if_neg w0]
      by_cases w1 : nI w = 1
      · rw [xite_t w1, if_pos w1, hwho, bI_i]; exact OKm_of hI hR hJ.2.2.1
      · rw [xite_f w1, if_neg w1, hwho, bI_i]; exact OKm_of hI hR hJ.2.2.1
  · intro n st k hk hJ
    obtain ⟨j1, j2⟩ := hJ
    have hs := SI_bls (AI_H hI) (AI_S hI) s k
    have hlt := bls_lt (h := aH A) (s := aS A) (seed := s) (by omega) k
    have hH := KG_H hR1 j2
    have zz : st.1 + 0 = st.1 := Int32.add_zero _
    -- a minute behind the deed
    have mins : ∀ (t : SS) (g : Nat) (ν' : XM) (c : Int32) (c' : Nat), KG A t g (m0 μ) ν' → SI (aH A) t → c = nI c' → bls (aH A) (aS A) s (k + 1) = (g, pss (aH A) t, c') →
        ∃ st' : Int32 × XM, (st'.1 = nI (bls (aH A) (aS A) s (k + 1)).2.2 ∧ KG A (bls (aH A) (aS A) s (k + 1)).2.1 (bls (aH A) (aS A) s (k + 1)).1 (m0 μ) st'.2) ∧ (bI (f12_passes 1034 ν') fun _ m' => vI (nI k + 1) fun x => h12_balls_59 n (nI m) (nI w) c x m') = h12_balls_59 n (nI m) (nI w) st'.1 (nI (k + 1)) st'.2 := by
      intro t g ν' c c' hK' ht hc hb
      obtain ⟨ξ, d1, d2, d3⟩ := s12_passes (KG_H hR1 hK') (RL_q hK'.2.1 hR1.2.1) (AI_W hI) (AI_H hI) hK'.1 ht (by omega)
      have d1' : f12_passes 1034 ν' = xri (nI (sunkN (aH A) t)) ξ := d1
      refine ⟨(c, ξ), ⟨?_, ?_⟩, ?_⟩
      · rw [hb]; exact hc
      · rw [hb]; exact KG_f hK' d2 d3
      · rw [d1', bI_i, vI_eq, ← nI_succ]
    rw [h12_balls_59_s, xite_t (nI_lt hk (by omega)), s12_men hH, bI_i, z _ (by omega)]
    by_cases hd : drn3 (aH A)
    · have hb : bls (aH A) (aS A) s (k + 1) = blst (aH A) (bls (aH A) (aS A) s k) := by
        rw [bls]; exact if_pos hd
      obtain ⟨ξ, d1, d2⟩ := m_deed hI hR1 hd hs hlt j2
      have hs2 := SI_dnc hs h6 h5 (f := drw (nxt (nxt (nxt (nxt (bls (aH A) (aS A) s k).1)))) 5) (m := drw (nxt (bls (aH A) (aS A) s k).1) (hM (aH A))) (drw_lt (nxt (nxt (bls (aH A) (aS A) s k).1)) hd.2.2) (drw_lt (nxt (nxt (nxt (bls (aH A) (aS A) s k).1))) hd.2.1)
      rw [xite_t hd.1, s12_guests hH, bI_i, z _ (by omega), xite_t hd.2.1, s12_belts hH, bI_i, z _ (by omega), xite_t hd.2.2, d1, bI_i]
      rcases dnc_01 (aH A) (bls (aH A) (aS A) s k).2.1 (drw (nxt (nxt (nxt (nxt (bls (aH A) (aS A) s k).1)))) 5) (drw (nxt (bls (aH A) (aS A) s k).1) (hM (aH A))) (drw (nxt (nxt (bls (aH A) (aS A) s k).1)) (hB (aH A))) (drw (nxt (nxt (nxt (bls (aH A) (aS A) s k).1))) (hG (aH A))) with e0 | e0
      · rw [e0, xite_t (by decide), vI_eq, zz]
        refine mins _ _ ξ _ _ d2 hs2 j1 ?_
        rw [hb]; unfold blst; simp only [e0, Nat.add_zero]
      · rw [e0, xite_f (by decide), vI_eq]
        refine mins _ _ ξ _ ((bls (aH A) (aS A) s k).2.2 + 1) d2 hs2 (by rw [j1, nI_succ]) ?_
        rw [hb]; unfold blst; simp only [e0]
    · have hb : bls (aH A) (aS A) s (k + 1) = ((bls (aH A) (aS A) s k).1, pss (aH A) (bls (aH A) (aS A) s k).2.1, (bls (aH A) (aS A) s k).2.2) := by
        rw [bls]; exact if_neg hd
      have fin := mins _ _ st.2 st.1 _ j2 hs j1 hb
      by_cases hm : 0 < hM (aH A)
      · rw [xite_t hm, s12_guests hH, bI_i, z _ (by omega)]
        by_cases hg : 0 < hG (aH A)
        · rw [xite_t hg, s12_belts hH, bI_i, z _ (by omega)]
          have hbn : ¬ 0 < hB (aH A) := fun h => hd ⟨hm, hg, h⟩
          rw [xite_f hbn, vI_eq, zz]
          exact fin
        · rw [xite_f hg, vI_eq, zz]; exact fin
      · rw [xite_f hm, vI_eq, zz]; exact fin
end
