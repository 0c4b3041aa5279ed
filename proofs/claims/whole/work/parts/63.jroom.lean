/-! THE PURE PART: room, both sides at once -/
section
variable {A : AS} {μ ν : XM} {h : HS}
theorem m_roomOk {T : TP} {m n : Nat} {f1 f2 f3 : Bool} (hK : FK μ ν) (hD : DR h f1 f2 f3 ν) (hI : DI h) (hT : TKs T m ν) (hn : 18000 ≤ n) (he : f12_room μ = h12_room_76 n 0 ν) : OKm A (nRoom A h) μ (f12_room μ) 0 := by
  obtain ⟨E1, E2, E3, E4, E5⟩ := hD
  have h6 := E1.1.1
  have h5 := E1.1.2.1
  have h3 := E1.1.2.2
  have hlen : (hC h).length < 1000 := hI.2.1.2.2
  obtain ⟨ξ1, n1, a1, a2, a3, a4⟩ := m_76 (μ := ν) (c := 15000) (n := n) (by omega)
  have hL : ∃ L, L ≤ 1100 ∧ rI ν 12 0 13 = nI L ∧ (f3 = true → L = (hC h).length + 1) := by
    rcases E5 with ⟨y1, y2, y3, y4⟩ | ⟨y1, y2, y3, y4⟩
    · exact ⟨0, by omega, y4.1, fun e => absurd (y1.symm.trans e) (by decide)⟩
    · refine ⟨(hC h).length + 1, by omega, ?_, fun _ => rfl⟩
      have := y4.1
      rw [List.length_append, List.length_singleton] at this; exact this
  obtain ⟨L, L1, L2, L3⟩ := hL
  obtain ⟨ξ2, n2, b1, b2', b3, b4⟩ := m_105 (μ := ξ1) (c := 5000) (n := n1) (L := L) (by omega) ((a4.2.1 13).trans L2) L1
  have hN : rI ξ2 12 0 19 = nI (hG h + hB h + hM h) := by rw [b4.2.1 19, a4.2.1 19]; exact E3
  obtain ⟨ξ3, c1, c2, c3⟩ := m_153 (μ := ξ2) (n := n2) (N := hG h + hB h + hM h) (by omega) hN (by omega)
  have e10 : ∀ k, k < 60 → aI (sI ξ3 12 0 18 (nI (hG h + hB h + hM h))) 12 0 10 k = aI ν 12 0 10 (60 + k) := fun k hk => by
    rw [aI_sI, c3.2.2.2 10 (by decide), b4.2.2.2.1 10 (by decide) (by decide)]; exact a3 k hk
  have H1 : RH h (sI ξ3 12 0 18 (nI (hG h + hB h + hM h))) := by
    obtain ⟨q0, ⟨q4, q5, q6, q7, q8⟩, q9, q10, q11⟩ := E1
    refine ⟨q0, ⟨(e10 0 (by omega)).trans q4, (e10 1 (by omega)).trans q5, (e10 2 (by omega)).trans q6, (e10 3 (by omega)).trans q7, (e10 4 (by omega)).trans q8⟩, fun g hg => ?_, fun g hg => ?_, fun g hg => ?_⟩
    · have := q9 g hg
      rw [e10 _ (by omega), e10 _ (by omega), e10 _ (by omega), e10 _ (by omega), e10 _ (by omega), show 60 + (6 + 5 * g + 0) = 66 + 5 * g + 0 by omega, show 60 + (6 + 5 * g + 1) = 66 + 5 * g + 1 by omega, show 60 + (6 + 5 * g + 2) = 66 + 5 * g + 2 by omega, show 60 + (6 + 5 * g + 3) = 66 + 5 * g + 3 by omega, show 60 + (6 + 5 * g + 4) = 66 + 5 * g + 4 by omega]
      exact this
    · rw [e10 _ (by omega), show 60 + (36 + g) = 96 + g by omega]; exact q10 g hg
    · rw [e10 _ (by omega), e10 _ (by omega), show 60 + (41 + 2 * g + 0) = 101 + 2 * g + 0 by omega, show 60 + (41 + 2 * g + 1) = 101 + 2 * g + 1 by omega]; exact q11 g hg
  obtain ⟨ν7, d1, d2, d3, d4, d5, d6, d7⟩ := m_begins H1
  have hr : f12_room μ = xri 0 ν7 := by
    rw [he, a2, b2', c1, d1, bV_v]
  have f12 : Fr12 ν ν7 := Fr12_t a4.1 (Fr12_t b4.1 (Fr12_t c3.1 (Fr12_t (fun t j hn => sI_ne hn) d7.1)))
  have k11 : ∀ k, k < 1100 → aI ν7 12 0 11 k = aI ξ2 12 0 11 k ∧ aI ν7 12 0 12 k = aI ξ2 12 0 12 k := fun k _ => by
    rw [d7.2.2.2 11 (by decide) (by decide) (by decide) (by decide) (by decide), d7.2.2.2 12 (by decide) (by decide) (by decide) (by decide) (by decide), aI_sI, aI_sI, c3.2.2.2 11 (by decide), c3.2.2.2 12 (by decide)]; exact ⟨rfl, rfl⟩
  have e5 : aI ν7 12 0 10 5 = aI ν 12 0 10 65 := by
    rw [d7.2.2.2 10 (by decide) (by decide) (by decide) (by decide) (by decide)]; exact e10 5 (by omega)
  refine ⟨ν7, hr, ⟨RH_ar (d7.2.2.2 10 (by decide) (by decide) (by decide) (by decide) (by decide)) H1, ?_, ?_, d2, ⟨d4, fun l hl => absurd hl (Nat.not_lt_zero l)⟩, ⟨d5, fun l hl => absurd hl (Nat.not_lt_zero l)⟩, fun j hj => ⟨d6 j hj, fun e => absurd e (by show ¬ false = true; decide)⟩, ⟨d3, fun l hl => absurd hl (Nat.not_lt_zero l)⟩, ⟨?_, fun l hl => absurd hl (Nat.not_lt_zero l)⟩, ?_⟩, Fr12_t hK.1 f12⟩
  · show RL (hC h) ν7
    rcases E5 with ⟨y1, y2, y3, y4⟩ | ⟨y1, y2, y3, y4⟩
    · exact .inl ⟨y2, e5.trans y3⟩
    · have hLL := L3 y1
      have cc : ∀ k, k < L → aI ν7 12 0 11 k = aI ν 12 0 11 (1100 + k) ∧ aI ν7 12 0 12 k = aI ν 12 0 12 (1100 + k) := fun k hk => by
        obtain ⟨z1, z2⟩ := k11 k (by omega)
        obtain ⟨z3, z4⟩ := b3 k hk
        rw [z1, z2, z3, z4, a4.2.2.2.1 11 (by decide), a4.2.2.2.1 12 (by decide)]; exact ⟨rfl, rfl⟩
      refine .inr ⟨y2, e5.trans y3, fun k hk => ?_, ?_⟩
      · have hk2 : k < (hC h ++ [(0, 0)]).length := by rw [List.length_append, List.length_singleton]; omega
        have := y4.2 k hk2
        rw [(cc k (by omega)).1, (cc k (by omega)).2]
        rw [List.getElem_append_left hk] at this; exact this
      · have hk2 : (hC h).length < (hC h ++ [(0, 0)]).length := by rw [List.length_append, List.length_singleton]; omega
        have := (y4.2 _ hk2).1
        rw [(cc _ (by omega)).1, this]
        simp; rfl
  · show RN h ν7
    obtain ⟨nm, tk, ik, q1, q2, q3, q4⟩ := E2
    have hnm : nm = hG h + hB h + hM h := (nI_eq (by omega) (by omega)).mp (q2.symm.trans E3)
    refine ⟨nm, tk, ik, q1, ?_, fun k hk => ?_, q4⟩
    · rw [d7.2.1 18 (by decide), rI_sI]; simp [hnm]
    · obtain ⟨p1, p2, p3, p4⟩ := q3 k hk
      obtain ⟨z1, z2⟩ := c2 k (by omega)
      refine ⟨p1, p2, ?_, ?_⟩
      · rw [d7.2.2.2 16 (by decide) (by decide) (by decide) (by decide) (by decide), aI_sI, z2, b4.2.2.2.1 17 (by decide) (by decide), a4.2.2.2.1 17 (by decide)]; exact p3
      · rw [d7.2.2.1 14, aL_sI, z1, b4.2.2.1 15, a4.2.2.1 15]; exact p4
  · rw [d7.2.1 2 (by decide), rI_sI]; simp only [show ¬ (2 = 18) by decide, and_false, ↓reduceIte]; rw [c3.2.1 2, b4.2.1 2, a4.2.1 2]; exact hK.2.2.1
  · have := hT.2
    unfold RW at *
    intro k hk
    rw [d7.2.2.1 9, aL_sI, c3.2.2.1 9 (by decide), b4.2.2.1 9, a4.2.2.1 9]; exact this k hk
/-- room, both sides -/
theorem J_room (hI : AI A) (hR : RC A μ) (hM : RM A ν) : ∃ A' x, AI A' ∧ OKc A A' μ (f11_room μ) x ∧ OKm A A' ν (f12_room ν) x := by
  have hT : TI (aT A) := hI.2.2.2.2.2.2.2.2
  obtain ⟨ν6, m, a1, a2, a3, a4, a5, a6⟩ := m_roomStart hI hM
  obtain ⟨μ1, b1, b2', b3, b4⟩ := c_readStart hT hR.2.2.2.2.2.2.2.2 a2 a3
  have := R_loop (T := aT A) (m := m) m 0 0 20000 (19998 - m) h00 false false false μ1 ν6 (by omega) (by omega) (Nat.le_refl _) b2' b3 a4 a5 h00_DI
  rw [show m + 2 + (19998 - m) = 20000 by omega] at this
  rcases this with ⟨F, hF, ⟨μ2, c1, c2⟩, ν2, d1, d2⟩ | ⟨h', g1, g2, g3, hD, ⟨μ2, c1, c2, c3⟩, ν2, n2, d0, d1, d2, d3, d4⟩
  · refine ⟨clT A, nI F, AI_clT hI, c_roomF hF hR (b1.trans c1) (FD_t b4 c2), ν2, a1.trans d1, RM_K hI hM (FK_R a6 d2), (FK_R a6 d2).1⟩
  · exact ⟨nRoom A h', 0, AI_nRoom hD, c_roomOk hR (b1.trans c1) (FD_t b4 c3) c2 hD, m_roomOk (FK_R a6 d3) d2 hD d4 (by omega) (a1.trans d1)⟩
end
