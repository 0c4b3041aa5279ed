/-! THE PURE PART: what the reference does to a scene, and its minute -/
theorem L1 : (1 : Int32) = nI 1 := rfl
theorem L2 : (2 : Int32) = nI 2 := rfl
theorem L3 : (3 : Int32) = nI 3 := rfl
theorem L4 : (4 : Int32) = nI 4 := rfl
theorem L5 : (5 : Int32) = nI 5 := rfl
theorem L6 : (6 : Int32) = nI 6 := rfl
theorem L9 : (9 : Int32) = nI 9 := rfl
theorem L10 : (10 : Int32) = nI 10 := rfl
theorem L15 : (15 : Int32) = nI 15 := rfl
theorem L16 : (16 : Int32) = nI 16 := rfl
theorem L21 : (21 : Int32) = nI 21 := rfl
theorem L27 : (27 : Int32) = nI 27 := rfl
theorem L30 : (30 : Int32) = nI 30 := rfl
theorem L47 : (47 : Int32) = nI 47 := rfl
theorem L60 : (60 : Int32) = nI 60 := rfl
/-- a cell written, its place reckoned -/
theorem xin_a {k N : Nat} (hN : N < 2 ^ 31) (hk : k < N) : (xin (nI k) N && true) = true := by rw [xin_t hN hk]; rfl
section
variable {b : Nat} {h : HS} {s : SS} {μ : XM}
theorem s12_copies {a c n : Nat} (ha : a + n ≤ 1081) (hc : c + n ≤ 1081) (hd : a + n ≤ c ∨ c + n ≤ a) {p q r : Int32} (hp : p = nI a) (hq : q = nI c) (hr : r = nI n) :
    ∃ ν, f12_copies p q r μ = xrv ν ∧ (∀ k, k < n → aI ν 12 0 24 (c + k) = aI μ 12 0 24 (a + k)) ∧ FX c (c + n) μ ν := by
  subst hp hq hr
  rw [f12_copies_e, k12_copies, vI_eq]
  refine lp_rel (F := fun f ν k => h12_copies_3 f (nI a) (nI c) (nI n) k ν) (fun k ν => (∀ j, j < k → aI ν 12 0 24 (c + j) = aI μ 12 0 24 (a + j)) ∧ FX c (c + n) μ ν) (Q := fun x => ∃ ν, x = xrv ν ∧ (∀ k, k < n → aI ν 12 0 24 (c + k) = aI μ 12 0 24 (a + k)) ∧ FX c (c + n) μ ν) (e := n) ?_ ?_ n 0 20000 μ (by omega) (by omega) ⟨fun j hj => absurd hj (Nat.not_lt_zero j), FX_r⟩
  · intro f ν hI
    simp only [h12_copies_3_s, Int32.lt_irrefl, xite_f (not_false)]
    exact ⟨ν, rfl, hI.1, hI.2⟩
  · intro f ν k hk hI
    have h1 := nI_lt hk (show n < 2 ^ 31 by omega)
    have e1 : aI ν 12 0 24 (a + k) = aI μ 12 0 24 (a + k) := hI.2.2.2.2.2.2 (a + k) (by omega)
    simp only [h12_copies_3_s, xite_t h1, nI_add, xck_t (xin_t (show 1081 < 2 ^ 31 by omega) (show a + k < 1081 by omega)), xck_t (xin_a (show 1081 < 2 ^ 31 by omega) (show c + k < 1081 by omega)), mS_eq, vI_eq, nI_clamp (show c + k < 2 ^ 31 by omega), nI_clamp (show a + k < 2 ^ 31 by omega), ← nI_succ, e1]
    refine ⟨_, ⟨fun j hj => ?_, FX_p hI.2 (by omega) (by omega)⟩, rfl⟩
    by_cases ej : j = k
    · subst ej; rw [st_eq]
    · rw [st_ne (by omega)]; exact hI.1 j (by omega)
theorem s12_starts (hH : RH h μ) (hb : b ≤ 1034) {p : Int32} (hp : p = nI b) : ∃ ν, f12_starts p μ = xrv ν ∧ RS b h (s0 h) ν ∧ FM b μ ν := by
  have h6 := RH_6 hH
  have h3 := RH_3 hH
  subst hp
  rw [f12_starts_e, k12_starts, vI_eq]
  have three : ∀ n ν, 6 < n → FM b μ ν → ((∀ g, g < hG h → aI ν 12 0 24 (b + 3 + g) = hf h 1 g ∧ aI ν 12 0 24 (b + 9 + g) = hf h 3 g) ∧ (∀ g, g < 9 → aI ν 12 0 24 (b + 21 + g) = 0) ∧ aI ν 12 0 24 (b + 1) = hf h 8 0 ∧ aI ν 12 0 24 (b + 2) = hf h 9 0 ∧ aI ν 12 0 24 (b + 0) = 0) → ∃ ξ, h12_starts_102 n (nI b) (nI 0) ν = xrv ξ ∧ RS b h (s0 h) ξ ∧ FM b μ ξ := by
    intro n ν hn hF hP
    refine lp_rel (F := fun f ν k => h12_starts_102 f (nI b) k ν) (fun k ν => FM b μ ν ∧ ((∀ g, g < hG h → aI ν 12 0 24 (b + 3 + g) = hf h 1 g ∧ aI ν 12 0 24 (b + 9 + g) = hf h 3 g) ∧ (∀ g, g < 9 → aI ν 12 0 24 (b + 21 + g) = 0) ∧ aI ν 12 0 24 (b + 1) = hf h 8 0 ∧ aI ν 12 0 24 (b + 2) = hf h 9 0 ∧ aI ν 12 0 24 (b + 0) = 0) ∧ ∀ g, g < k → aI ν 12 0 24 (b + 15 + g) = -1) (Q := fun x => ∃ ξ, x = xrv ξ ∧ RS b h (s0 h) ξ ∧ FM b μ ξ) (e := 6) ?_ ?_ 6 0 n ν (by omega) (by omega) ⟨hF, hP, fun g hg => absurd hg (Nat.not_lt_zero g)⟩
    · intro f ν hI
      obtain ⟨hF, ⟨p1, p2, p3, p4, p5⟩, p6⟩ := hI
      simp only [h12_starts_102_s, L6, Int32.lt_irrefl, xite_f (not_false)]
      refine ⟨ν, rfl, ⟨fun g hg => ⟨(p1 g hg).1, (p1 g hg).2, p2 g (by omega), p6 g (by omega)⟩, fun m hm => ?_, p3, p4, p5⟩, hF⟩
      have := p2 (6 + m) (by omega)
      rw [show b + 21 + (6 + m) = b + 27 + m by omega] at this
      exact this
    · intro f ν k hk hI
      obtain ⟨hF, ⟨p1, p2, p3, p4, p5⟩, p6⟩ := hI
      have h1 := nI_lt hk (show 6 < 2 ^ 31 by omega)
      simp only [h12_starts_102_s, L6, L15, xite_t h1, nI_add, xck_t (xin_a (show 1081 < 2 ^ 31 by omega) (show b + 15 + k < 1081 by omega)), mS_eq, vI_eq, nI_clamp (show b + 15 + k < 2 ^ 31 by omega), ← nI_succ]
      refine ⟨_, ⟨FX_p hF (by omega) (by omega), ⟨fun g hg => ?_, fun g hg => ?_, ?_, ?_, ?_⟩, fun g hg => ?_⟩, rfl⟩
      · rw [st_ne (by omega), st_ne (by omega)]; exact p1 g hg
      · rw [st_ne (by omega)]; exact p2 g hg
      · rw [st_ne (by omega)]; exact p3
      · rw [st_ne (by omega)]; exact p4
      · rw [st_ne (by omega)]; exact p5
      · by_cases e : g = k
        · subst e; rw [st_eq]
        · rw [st_ne (by omega)]; exact p6 g (by omega)
  have two : ∀ n ν, hG h + 8 < n → FM b μ ν → ((∀ g, g < 9 → aI ν 12 0 24 (b + 21 + g) = 0) ∧ aI ν 12 0 24 (b + 1) = hf h 8 0 ∧ aI ν 12 0 24 (b + 2) = hf h 9 0 ∧ aI ν 12 0 24 (b + 0) = 0) → ∃ ξ, h12_starts_53 n (nI b) (nI 0) ν = xrv ξ ∧ RS b h (s0 h) ξ ∧ FM b μ ξ := by
    intro n ν hn hF hP
    refine lp_relc 7 (F := fun f ν k => h12_starts_53 f (nI b) k ν) (fun k ν => FM b μ ν ∧ ((∀ g, g < 9 → aI ν 12 0 24 (b + 21 + g) = 0) ∧ aI ν 12 0 24 (b + 1) = hf h 8 0 ∧ aI ν 12 0 24 (b + 2) = hf h 9 0 ∧ aI ν 12 0 24 (b + 0) = 0) ∧ ∀ g, g < k → aI ν 12 0 24 (b + 3 + g) = hf h 1 g ∧ aI ν 12 0 24 (b + 9 + g) = hf h 3 g) (Q := fun x => ∃ ξ, x = xrv ξ ∧ RS b h (s0 h) ξ ∧ FM b μ ξ) (e := hG h) ?_ ?_ (hG h) 0 n ν (by omega) (by omega) ⟨hF, hP, fun g hg => absurd hg (Nat.not_lt_zero g)⟩
    · intro f ν hc hI
      obtain ⟨hF, ⟨p2, p3, p4, p5⟩, p6⟩ := hI
      simp only [h12_starts_53_s, s12_guests (FM_H hF hH), bI_i, Int32.lt_irrefl, xite_f (not_false), vI_eq]
      exact three f ν (by omega) hF ⟨p6, p2, p3, p4, p5⟩
    · intro f ν k hk hI
      obtain ⟨hF, ⟨p2, p3, p4, p5⟩, p6⟩ := hI
      have h1 := nI_lt hk (show hG h < 2 ^ 31 by omega)
      have hH1 := FM_H hF hH
      have hF1 : FM b μ (pI ν 12 0 24 (b + 3 + k) (hf h 1 k)) := FX_p hF (by omega) (by omega)
      simp only [h12_starts_53_s, s12_guests hH1, s12_pl hH1 hk, bI_i, L9, xite_t h1, nI_add, mS_eq, vI_eq]
      rw [show (nI b + 3 + nI k) = nI (b + 3 + k) from by rw [L3, nI_add, nI_add], xck_t (xin_a (show 1081 < 2 ^ 31 by omega) (show b + 3 + k < 1081 by omega)), nI_clamp (show b + 3 + k < 2 ^ 31 by omega), s12_br (FM_H hF1 hH) hk, bI_i, xck_t (xin_a (show 1081 < 2 ^ 31 by omega) (show b + 9 + k < 1081 by omega)), nI_clamp (show b + 9 + k < 2 ^ 31 by omega), ← nI_succ]
      refine ⟨_, ⟨FX_p hF1 (by omega) (by omega), ⟨fun g hg => ?_, ?_, ?_, ?_⟩, fun g hg => ?_⟩, rfl⟩
      · rw [st_ne (by omega), st_ne (by omega)]; exact p2 g hg
      · rw [st_ne (by omega), st_ne (by omega)]; exact p3
      · rw [st_ne (by omega), st_ne (by omega)]; exact p4
      · rw [st_ne (by omega), st_ne (by omega)]; exact p5
      · by_cases e : g = k
        · subst e; rw [st_eq, st_ne (by omega), st_eq]; exact ⟨rfl, rfl⟩
        · rw [st_ne (by omega), st_ne (by omega), st_ne (by omega), st_ne (by omega)]; exact p6 g (by omega)
  refine lp_relc 20 (F := fun f ν k => h12_starts_2 f (nI b) k ν) (fun k ν => FM b μ ν ∧ ∀ j, j < k → aI ν 12 0 24 (b + j) = 0) (Q := fun x => ∃ ξ, x = xrv ξ ∧ RS b h (s0 h) ξ ∧ FM b μ ξ) (e := 30) ?_ ?_ 30 0 20000 μ (by omega) (by omega) ⟨FX_r, fun g hg => absurd hg (Nat.not_lt_zero g)⟩
  · intro f ν hc hI
    obtain ⟨hF, hP⟩ := hI
    have hH1 := FM_H hF hH
    simp only [h12_starts_2_s, L30, Int32.lt_irrefl, xite_f (not_false), vI_eq, mS_eq]
    have i3 : (3 : Int32).toNatClampNeg = 3 := rfl
    have i4 : (4 : Int32).toNatClampNeg = 4 := rfl
    rw [show (nI b + 1) = nI (b + 1) from by rw [L1, nI_add], show (nI b + 2) = nI (b + 2) from by rw [L2, nI_add], xck_t (show xin 3 120 = true by decide), xck_t (show xin 4 120 = true by decide), xck_t (xin_a (show 1081 < 2 ^ 31 by omega) (show b + 1 < 1081 by omega)), xck_t (xin_a (show 1081 < 2 ^ 31 by omega) (show b + 2 < 1081 by omega)), nI_clamp (show b + 1 < 2 ^ 31 by omega), nI_clamp (show b + 2 < 2 ^ 31 by omega), i3, i4, hH1.2.1.2.2.2.1]
    have hF1 : FM b μ (pI ν 12 0 24 (b + 1) (hf h 8 0)) := FX_p hF (by omega) (by omega)
    have hH2 := FM_H hF1 hH
    rw [hH2.2.1.2.2.2.2]
    refine two f _ (by omega) (FX_p hF1 (by omega) (by omega)) ⟨fun g hg => ?_, ?_, ?_, ?_⟩
    · rw [st_ne (by omega), st_ne (by omega)]
      have := hP (21 + g) (by omega)
      rw [show b + (21 + g) = b + 21 + g by omega] at this
      exact this
    · rw [st_ne (by omega), st_eq]
    · rw [st_eq]
    · rw [st_ne (by omega), st_ne (by omega)]; exact hP 0 (by omega)
  · intro f ν k hk hI
    obtain ⟨hF, hP⟩ := hI
    have h1 := nI_lt hk (show 30 < 2 ^ 31 by omega)
    simp only [h12_starts_2_s, L30, xite_t h1, nI_add, xck_t (xin_a (show 1081 < 2 ^ 31 by omega) (show b + k < 1081 by omega)), mS_eq, vI_eq, nI_clamp (show b + k < 2 ^ 31 by omega), ← nI_succ]
    refine ⟨_, ⟨FX_p hF (by omega) (by omega), fun g hg => ?_⟩, rfl⟩
    by_cases e : g = k
    · subst e; rw [st_eq]
    · rw [st_ne (by omega)]; exact hP g (by omega)
theorem s12_casts (h6 : hG h ≤ 6) (h3 : hM h ≤ 3) (hS : RS b h s μ) (hb : b ≤ 1034) {p : Int32} (hp : p = nI b) {m g : Nat} (hm : m < hM h) (hg : g < hG h) (w : Int32) :
    ∃ ν, f12_casts p (nI m) w (nI g) μ = xrv ν ∧ RS b h (up (up s 3 g w) 4 m 1) ν ∧ FM b μ ν := by
  subst hp
  rw [f12_casts_e, k12_casts, show (nI b + 15 + nI g) = nI (b + 15 + g) from by rw [L15, nI_add, nI_add], show (nI b + 27 + nI m) = nI (b + 27 + m) from by rw [L27, nI_add, nI_add], xck_t (xin_a (show 1081 < 2 ^ 31 by omega) (show b + 15 + g < 1081 by omega)), mS_eq, xck_t (xin_a (show 1081 < 2 ^ 31 by omega) (show b + 27 + m < 1081 by omega)), mS_eq, nI_clamp (show b + 15 + g < 2 ^ 31 by omega), nI_clamp (show b + 27 + m < 2 ^ 31 by omega)]
  refine ⟨_, rfl, ⟨fun g' hg' => ?_, fun m' hm' => ?_, ?_, ?_, ?_⟩, FX_p (FX_p FX_r (by omega) (by omega)) (by omega) (by omega)⟩
  · obtain ⟨a1, a2, a3, a4⟩ := hS.1 g' hg'
    refine ⟨?_, ?_, ?_, ?_⟩
    · rw [st_ne (by omega), st_ne (by omega), a1]; simp [up]
    · rw [st_ne (by omega), st_ne (by omega), a2]; simp [up]
    · rw [st_ne (by omega), st_ne (by omega), a3]; simp [up]
    · by_cases e : g' = g
      · subst e; rw [st_ne (by omega), st_eq]; simp [up]
      · rw [st_ne (by omega), st_ne (by omega), a4]; simp [up, e]
  · by_cases e : m' = m
    · subst e; rw [st_eq]; simp [up]
    · rw [st_ne (by omega), st_ne (by omega), hS.2.1 m' hm']; simp [up, e]
  · rw [st_ne (by omega), st_ne (by omega), hS.2.2.1]; simp [up]
  · rw [st_ne (by omega), st_ne (by omega), hS.2.2.2.1]; simp [up]
  · rw [st_ne (by omega), st_ne (by omega), hS.2.2.2.2]; simp [up]
theorem s12_stops (h6 : hG h ≤ 6) (h3 : hM h ≤ 3) (hS : RS b h s μ) (hb : b ≤ 1034) {p : Int32} (hp : p = nI b) {m : Nat} (hm : m < hM h) :
    ∃ ν, f12_stops p (nI m) μ = xrv ν ∧ RS b h (up (up s 5 0 (s 5 0 - 1)) 4 m 1) ν ∧ FM b μ ν := by
  subst hp
  rw [f12_stops_e, k12_stops, show (nI b + 27 + nI m) = nI (b + 27 + m) from by rw [L27, nI_add, nI_add], show (nI b + 1) = nI (b + 1) from by rw [L1, nI_add], xck_t (xin_t (show 1081 < 2 ^ 31 by omega) (show b + 1 < 1081 by omega)), xck_t (xin_a (show 1081 < 2 ^ 31 by omega) (show b + 1 < 1081 by omega)), mS_eq, xck_t (xin_a (show 1081 < 2 ^ 31 by omega) (show b + 27 + m < 1081 by omega)), mS_eq, nI_clamp (show b + 1 < 2 ^ 31 by omega), nI_clamp (show b + 27 + m < 2 ^ 31 by omega), hS.2.2.1]
  refine ⟨_, rfl, ⟨fun g' hg' => ?_, fun m' hm' => ?_, ?_, ?_, ?_⟩, FX_p (FX_p FX_r (by omega) (by omega)) (by omega) (by omega)⟩
  · obtain ⟨a1, a2, a3, a4⟩ := hS.1 g' hg'
    refine ⟨?_, ?_, ?_, ?_⟩
    · rw [st_ne (by omega), st_ne (by omega), a1]; simp [up]
    · rw [st_ne (by omega), st_ne (by omega), a2]; simp [up]
    · rw [st_ne (by omega), st_ne (by omega), a3]; simp [up]
    · rw [st_ne (by omega), st_ne (by omega), a4]; simp [up]
  · by_cases e : m' = m
    · subst e; rw [st_eq]; simp [up]
    · rw [st_ne (by omega), st_ne (by omega), hS.2.1 m' hm']; simp [up, e]
  · rw [st_ne (by omega), st_eq]; simp [up]
  · rw [st_ne (by omega), st_ne (by omega), hS.2.2.2.1]; simp [up]
  · rw [st_ne (by omega), st_ne (by omega), hS.2.2.2.2]; simp [up]
/-- one cell of a scene -/
theorem RS_up (h6 : hG h ≤ 6) (h3 : hM h ≤ 3) (hS : RS b h s μ) {f o g : Nat} (hf : (f = 0 ∧ o = 3) ∨ (f = 1 ∧ o = 9) ∨ (f = 2 ∧ o = 21) ∨ (f = 3 ∧ o = 15)) (hg : g < hG h) (x : Int32) : RS b h (up s f g x) (pI μ 12 0 24 (b + o + g) x) := by
  refine ⟨fun g' hg' => ?_, fun m' hm' => ?_, ?_, ?_, ?_⟩
  · obtain ⟨a1, a2, a3, a4⟩ := hS.1 g' hg'
    rcases hf with ⟨rfl, rfl⟩ | ⟨rfl, rfl⟩ | ⟨rfl, rfl⟩ | ⟨rfl, rfl⟩
    · refine ⟨?_, ?_, ?_, ?_⟩
      · by_cases e : g' = g
        · subst e; rw [st_eq]; simp [up]
        · rw [st_ne (by omega), a1]; simp [up, e]
      · rw [st_ne (by omega), a2]; simp [up]
      · rw [st_ne (by omega), a3]; simp [up]
      · rw [st_ne (by omega), a4]; simp [up]
    · refine ⟨?_, ?_, ?_, ?_⟩
      · rw [st_ne (by omega), a1]; simp [up]
      · by_cases e : g' = g
        · subst e; rw [st_eq]; simp [up]
        · rw [st_ne (by omega), a2]; simp [up, e]
      · rw [st_ne (by omega), a3]; simp [up]
      · rw [st_ne (by omega), a4]; simp [up]
    · refine ⟨?_, ?_, ?_, ?_⟩
      · rw [st_ne (by omega), a1]; simp [up]
      · rw [st_ne (by omega), a2]; simp [up]
      · by_cases e : g' = g
        · subst e; rw [st_eq]; simp [up]
        · rw [st_ne (by omega), a3]; simp [up, e]
      · rw [st_ne (by omega), a4]; simp [up]
    · refine ⟨?_, ?_, ?_, ?_⟩
      · rw [st_ne (by omega), a1]; simp [up]
      · rw [st_ne (by omega), a2]; simp [up]
      · rw [st_ne (by omega), a3]; simp [up]
      · by_cases e : g' = g
        · subst e; rw [st_eq]; simp [up]
        · rw [st_ne (by omega), a4]; simp [up, e]
  · have : ¬ 4 = f := by omega
    rw [st_ne (by omega), hS.2.1 m' hm']; simp [up, this]
  · have : ¬ 5 = f := by omega
    rw [st_ne (by omega), hS.2.2.1]; simp [up, this]
  · have : ¬ 6 = f := by omega
    rw [st_ne (by omega), hS.2.2.2.1]; simp [up, this]
  · have : ¬ 7 = f := by omega
    rw [st_ne (by omega), hS.2.2.2.2]; simp [up, this]
theorem ix3 (b o g : Nat) : (nI b + nI o + nI g) = nI (b + o + g) := by rw [nI_add, nI_add]
theorem bre_up {g : Nat} (s : SS) (h : HS) : dr h s g = if undr h s g = true then (if s 1 g - 1 = 0 then up (up (up s 1 g (s 1 g - 1)) 2 g 2) 3 g (-1) else up s 1 g (s 1 g - 1)) else up s 1 g (hf h 3 g) := rfl
theorem s12_breathes {g : Nat} (hH : RH h μ) (hS : RS b h s μ) (hu : f12_isUnder (nI b) (nI g) μ = xri (b2 (undr h s g)) μ) (hb : b ≤ 1034) (hg : g < hG h) :
    ∃ ν, f12_breathes (nI b) (nI g) μ = xrv ν ∧ RS b h (dr h s g) ν ∧ FM b μ ν := by
  have h6 := RH_6 hH
  have h3 := RH_3 hH
  have c1 : xin (nI (b + 9 + g)) 1081 = true := xin_t (by omega) (by omega)
  have c1' : (xin (nI (b + 9 + g)) 1081 && true) = true := xin_a (by omega) (by omega)
  have c2' : (xin (nI (b + 21 + g)) 1081 && true) = true := xin_a (by omega) (by omega)
  have c3' : (xin (nI (b + 15 + g)) 1081 && true) = true := xin_a (by omega) (by omega)
  have k1 : (nI (b + 9 + g)).toNatClampNeg = b + 9 + g := nI_clamp (by omega)
  have k2 : (nI (b + 21 + g)).toNatClampNeg = b + 21 + g := nI_clamp (by omega)
  have k3 : (nI (b + 15 + g)).toNatClampNeg = b + 15 + g := nI_clamp (by omega)
  rw [f12_breathes_e, k12_breathes, hu, bI_i, s12_br hH hg, bI_i, show (nI b + 9 + nI g) = nI (b + 9 + g) from ix3 b 9 g, show (nI b + 21 + nI g) = nI (b + 21 + g) from ix3 b 21 g, show (nI b + 15 + nI g) = nI (b + 15 + g) from ix3 b 15 g]
  simp only [xck_t c1, xck_t c1', xck_t c2', xck_t c3', mS_eq, k1, k2, k3, (hS.1 g hg).2.1, st_eq, bre_up]
  have r1 := fun x => RS_up h6 h3 hS (f := 1) (o := 9) (.inr (.inl ⟨rfl, rfl⟩)) hg x
  have f1 : ∀ x, FM b μ (pI μ 12 0 24 (b + 9 + g) x) := fun x => FX_p FX_r (by omega) (by omega)
  by_cases hn : undr h s g = true
  · rw [hn, xite_f (show ¬ (b2 true = 0) by decide), if_pos rfl]
    by_cases hz : s 1 g - 1 = 0
    · rw [xite_t hz, if_pos hz]
      have r2 := RS_up h6 h3 (r1 (s 1 g - 1)) (f := 2) (o := 21) (.inr (.inr (.inl ⟨rfl, rfl⟩))) hg 2
      have r3 := RS_up h6 h3 r2 (f := 3) (o := 15) (.inr (.inr (.inr ⟨rfl, rfl⟩))) hg (-1)
      exact ⟨_, rfl, r3, FX_p (FX_p (f1 _) (by omega) (by omega)) (by omega) (by omega)⟩
    · rw [xite_f hz, if_neg hz]
      exact ⟨_, rfl, r1 _, f1 _⟩
  · have hn' : undr h s g = false := by simpa using hn
    rw [hn', xite_t (show (b2 false = 0) from rfl), if_neg (by decide)]
    exact ⟨_, rfl, r1 _, f1 _⟩
theorem s12_drawsIn {g : Nat} (h6 : hG h ≤ 6) (h3 : hM h ≤ 3) (hS : RS b h s μ) (hb : b ≤ 1034) (hg : g < hG h) :
    ∃ ν, f12_drawsIn (nI b) (nI g) μ = xrv ν ∧ RS b h (if s 0 g - 1 = 0 then up (up (up s 0 g (s 0 g - 1)) 2 g 1) 3 g (-1) else up s 0 g (s 0 g - 1)) ν ∧ FM b μ ν := by
  have c1 : xin (nI (b + 3 + g)) 1081 = true := xin_t (by omega) (by omega)
  have c1' : (xin (nI (b + 3 + g)) 1081 && true) = true := xin_a (by omega) (by omega)
  have c2' : (xin (nI (b + 21 + g)) 1081 && true) = true := xin_a (by omega) (by omega)
  have c3' : (xin (nI (b + 15 + g)) 1081 && true) = true := xin_a (by omega) (by omega)
  have k1 : (nI (b + 3 + g)).toNatClampNeg = b + 3 + g := nI_clamp (by omega)
  have k2 : (nI (b + 21 + g)).toNatClampNeg = b + 21 + g := nI_clamp (by omega)
  have k3 : (nI (b + 15 + g)).toNatClampNeg = b + 15 + g := nI_clamp (by omega)
  rw [f12_drawsIn_e, k12_drawsIn, show (nI b + 3 + nI g) = nI (b + 3 + g) from ix3 b 3 g, show (nI b + 21 + nI g) = nI (b + 21 + g) from ix3 b 21 g, show (nI b + 15 + nI g) = nI (b + 15 + g) from ix3 b 15 g]
  simp only [xck_t c1, xck_t c1', xck_t c2', xck_t c3', mS_eq, k1, k2, k3, (hS.1 g hg).1, st_eq]
  have r1 := fun x => RS_up h6 h3 hS (f := 0) (o := 3) (.inl ⟨rfl, rfl⟩) hg x
  have f1 : ∀ x, FM b μ (pI μ 12 0 24 (b + 3 + g) x) := fun x => FX_p FX_r (by omega) (by omega)
  by_cases hz : s 0 g - 1 = 0
  · rw [xite_t hz, if_pos hz]
    have r2 := RS_up h6 h3 (r1 (s 0 g - 1)) (f := 2) (o := 21) (.inr (.inr (.inl ⟨rfl, rfl⟩))) hg 1
    have r3 := RS_up h6 h3 r2 (f := 3) (o := 15) (.inr (.inr (.inr ⟨rfl, rfl⟩))) hg (-1)
    exact ⟨_, rfl, r3, FX_p (FX_p (f1 _) (by omega) (by omega)) (by omega) (by omega)⟩
  · rw [xite_f hz, if_neg hz]
    exact ⟨_, rfl, r1 _, f1 _⟩
-- the law
theorem s12_both {o : Nat} (h1 : 4 ≤ o) (h2 : o ≤ 10) (x y : Int32) : f12_both (nI o) x y μ = xri (both o x y) μ := by
  have ho : o = 4 ∨ o = 5 ∨ o = 6 ∨ o = 7 ∨ o = 8 ∨ o = 9 ∨ o = 10 := by omega
  rw [f12_both_e, k12_both]
  rcases ho with rfl | rfl | rfl | rfl | rfl | rfl | rfl
  · rw [xite_t (by decide)]; rfl
  · rw [xite_f (by decide), xite_t (by decide)]; rfl
  · rw [xite_f (by decide), xite_f (by decide), xite_t (by decide)]; rfl
  · rw [xite_f (by decide), xite_f (by decide), xite_f (by decide), xite_t (by decide), xite_eq]; unfold both; split <;> rfl
  · rw [xite_f (by decide), xite_f (by decide), xite_f (by decide), xite_f (by decide), xite_t (by decide), xite_eq]; unfold both; split <;> rfl
  · rw [xite_f (by decide), xite_f (by decide), xite_f (by decide), xite_f (by decide), xite_f (by decide), xite_t (by decide), xite_eq, xite_eq]; unfold both; split <;> first | rfl | (split <;> rfl)
  · rw [xite_f (by decide), xite_f (by decide), xite_f (by decide), xite_f (by decide), xite_f (by decide), xite_f (by decide), xite_eq, xite_eq]; unfold both; split <;> first | rfl | (split <;> rfl)
theorem pl_eq {ν : XM} {q k : Nat} {x : Int32} : aI (pI ν 12 0 23 q x) 12 0 23 k = upd (aI ν 12 0 23) q x k := by
  rw [aI_pI, upd]; simp only [true_and]
theorem pl_o {ν : XM} {q k j : Nat} {x : Int32} (h : j ≠ 23) : aI (pI ν 12 0 23 q x) 12 0 j k = aI ν 12 0 j k := by
  rw [aI_pI]; simp only [h, false_and, and_false, ↓reduceIte]
/-- the law's codes, and the facts -/
def RC12 (l : List (Nat × Int32)) (fs : Nat → Int32) (ν : XM) : Prop := (∀ k, (hk : k < l.length) → aI ν 12 0 11 k = nI l[k].1 ∧ aI ν 12 0 12 k = l[k].2) ∧ aI ν 12 0 11 l.length = 0 ∧ ∀ k, k < 4 → aI ν 12 0 22 k = fs k
theorem RC12_p {l : List (Nat × Int32)} {fs : Nat → Int32} {ν : XM} {q : Nat} {x : Int32} (hL : RC12 l fs ν) : RC12 l fs (pI ν 12 0 23 q x) :=
  ⟨fun k hk => by rw [pl_o (by decide), pl_o (by decide)]; exact hL.1 k hk, by rw [pl_o (by decide)]; exact hL.2.1, fun k hk => by rw [pl_o (by decide)]; exact hL.2.2 k hk⟩
theorem s12_loop {l : List (Nat × Int32)} (hl : ∀ c, c ∈ l → cw c) (hn : l.length < 1000) (fs : Nat → Int32) :
    ∀ d k n a P ν, k + d = l.length → 2 * d < n → a ≤ 32 → hws (l.drop k) a = some 1 → RC12 l fs ν → (∀ j, j < a → aI ν 12 0 23 j = P j) → FM b μ ν →
      ∃ ξ, h12_worthAt_4 n (nI a) (nI k) ν = xri ((evs fs (l.drop k) (a, P)).2 0) ξ ∧ RC12 l fs ξ ∧ FM b μ ξ ∧ aI ξ 12 0 24 = aI ν 12 0 24 := by
  intro d
  induction d with
  | zero =>
    intro k n a P ν hk hn' h32 hh hL hP hF
    obtain ⟨m, rfl⟩ : ∃ m, n = m + 1 := ⟨n - 1, by omega⟩
    obtain rfl : k = l.length := by omega
    rw [List.drop_length] at hh ⊢
    obtain rfl : a = 1 := by simpa [hws] using hh
    rw [h12_worthAt_4_s, xck_t (xin_t (by omega) (by omega)), nI_clamp (by omega), hL.2.1, xite_t (by decide), xck_t (xin0 (by omega) (by omega)), nI_cl0, hP 0 (by omega)]
    exact ⟨ν, rfl, hL, hF, rfl⟩
  | succ d ih =>
    intro k n a P ν hk hn' h32 hh hL hP hF
    obtain ⟨m, rfl⟩ : ∃ m, n = m + 1 + 1 := ⟨n - 2, by omega⟩
    have hk' : k < l.length := by omega
    rw [List.drop_eq_getElem_cons hk'] at hh ⊢
    have hc := hl _ (List.getElem_mem hk')
    obtain ⟨hx, hy⟩ := hL.1 k hk'
    have ck : xin (nI k) 2200 = true := xin_t (by omega) (by omega)
    have kk : (nI k).toNatClampNeg = k := nI_clamp (by omega)
    unfold hws at hh
    split at hh
    · cases hh
    rename_i c ec
    have go : ∀ (m' : Nat) (q : Nat) (x : Int32), 2 * d < m' → q < 1100 → c ≤ 32 → (∀ j, j < c → j ≠ q → j < a) → ev fs l[k] (a, P) = (c, upd P q x) →
        ∃ ξ, h12_worthAt_4 m' (nI c) (nI (k + 1)) (pI ν 12 0 23 q x) = xri ((evs fs (l[k] :: l.drop (k + 1)) (a, P)).2 0) ξ ∧ RC12 l fs ξ ∧ FM b μ ξ ∧ aI ξ 12 0 24 = aI ν 12 0 24 := by
      intro m' q x h1 h2 h3 h4 h5
      rw [evs, h5]
      have hPj : ∀ j, j < c → aI (pI ν 12 0 23 q x) 12 0 23 j = upd P q x j := by
        intro j hj
        rw [pl_eq]
        by_cases e : j = q
        · subst e; rw [pk_us, pk_us]
        · rw [pk_un e, pk_un e]; exact hP j (h4 j hj e)
      obtain ⟨ξ, e1, e2, e3, e4⟩ := ih (k + 1) m' c (upd P q x) (pI ν 12 0 23 q x) (by omega) h1 h3 hh (RC12_p hL) hPj (FX_f hF (.inr rfl))
      refine ⟨ξ, e1, e2, e3, ?_⟩
      rw [e4]; funext j; rw [pl_o (by decide)]
    rw [h12_worthAt_4_s, xck_t ck, kk, hx, xck_t ck, vI_eq]
    rcases hc with ⟨c1, v, hv, cv⟩ | ⟨c1, v, hv, cv⟩ | ⟨c1, c2⟩
    · have hb : c = a + 1 ∧ a < 32 := by
        unfold hw at ec; rw [c1] at ec
        simp only at ec
        split at ec
        · cases ec; exact ⟨rfl, by omega⟩
        · cases ec
      obtain ⟨rfl, ha⟩ := hb
      rw [c1, xite_f (by decide), xite_t (by decide), h12_worthAt_33_s, xite_t (by decide), xck_t ck, xck_t (xin_a (by omega) (by omega)), mS_eq, kk, hy, nI_clamp (by omega), vI_eq, vI_eq, ← nI_succ, ← nI_succ]
      exact go m a _ (by omega) (by omega) (by omega) (fun j h1 h2 => by omega) (by unfold ev; rw [c1]; simp)
    · have hb : c = a + 1 ∧ a < 32 := by
        unfold hw at ec; rw [c1] at ec
        simp only at ec
        split at ec
        · cases ec; exact ⟨rfl, by omega⟩
        · cases ec
      obtain ⟨rfl, ha⟩ := hb
      rw [c1, xite_f (by decide), xite_f (by decide), xite_t (by decide), h12_worthAt_33_s, xite_f (by decide), xck_t ck, kk, hy, cv, xck_t (xin_t (by omega) (by omega)), xck_t (xin_a (by omega) (by omega)), mS_eq, nI_clamp (by omega), nI_clamp (by omega), hL.2.2 v hv, vI_eq, vI_eq, ← nI_succ, ← nI_succ]
      exact go m a _ (by omega) (by omega) (by omega) (fun j h1 h2 => by omega) (by unfold ev; rw [c1]; simp only [cv, nI_clamp (show v < 2 ^ 31 by omega)])
    · by_cases c3 : l[k].1 = 3
      · have hb : 1 ≤ a ∧ c = a := by
          unfold hw at ec; rw [c3] at ec
          simp only at ec
          split at ec
          · cases ec; exact ⟨by assumption, rfl⟩
          · cases ec
        obtain ⟨ha, rfl⟩ := hb
        obtain ⟨a', rfl⟩ : ∃ a', c = a' + 1 := ⟨c - 1, by omega⟩
        rw [c3, xite_f (by decide), xite_f (by decide), xite_f (by decide), xite_t (by decide), nI_pred, xck_t (xin_t (by omega) (by omega)), nI_clamp (by omega), xck_t (xin_a (by omega) (by omega)), xck_t (xin_a (by omega) (by omega)), mS_eq, mS_eq, hP a' (by omega), vI_eq, vI_eq, ← nI_succ, xite_eq]
        by_cases hz : P a' = 0
        · rw [if_pos hz]
          exact go (m + 1) a' 1 (by omega) (by omega) (by omega) (fun j h1 h2 => by omega) (by unfold ev; rw [c3]; simp [hz])
        · rw [if_neg hz]
          exact go (m + 1) a' 0 (by omega) (by omega) (by omega) (fun j h1 h2 => by omega) (by unfold ev; rw [c3]; simp [hz])
      · have hb : 2 ≤ a ∧ c = a - 1 := by
          have : hw l[k] a = if 2 ≤ a then some (a - 1) else none := by
            unfold hw
            split <;> first | rfl | omega
          rw [this] at ec
          split at ec
          · cases ec; exact ⟨by assumption, rfl⟩
          · cases ec
        obtain ⟨ha, rfl⟩ := hb
        obtain ⟨a', rfl⟩ : ∃ a', a = a' + 2 := ⟨a - 2, by omega⟩
        have n0 : ¬ nI l[k].1 = 0 := nI_ne0 (by omega) (by omega)
        have n1 : ¬ nI l[k].1 = 1 := fun e => by have := (nI_eq (show l[k].1 < 2 ^ 31 by omega) (show 1 < 2 ^ 31 by omega)).mp e; omega
        have n2 : ¬ nI l[k].1 = 2 := fun e => by have := (nI_eq (show l[k].1 < 2 ^ 31 by omega) (show 2 < 2 ^ 31 by omega)).mp e; omega
        have n3 : ¬ nI l[k].1 = 3 := fun e => by have := (nI_eq (show l[k].1 < 2 ^ 31 by omega) (show 3 < 2 ^ 31 by omega)).mp e; omega
        rw [xite_f n0, xite_f n1, xite_f n2, xite_f n3, show nI (a' + 2) + (-1) = nI (a' + 1) from pk_m1 (a' + 1), vI_eq, nI_pred, xck_t (xin_t (by omega) (by omega)), xck_t (xin_t (by omega) (by omega)), nI_clamp (by omega), nI_clamp (by omega), hP (a' + 1) (by omega), hP a' (by omega), s12_both (by omega) c2, bI_i, xck_t (xin_a (by omega) (by omega)), mS_eq, vI_eq, ← nI_succ]
        refine go (m + 1) a' _ (by omega) (by omega) (by omega) (fun j h1 h2 => by omega) ?_
        unfold ev
        split <;> first | omega | rfl

theorem s12_worthAt {l : List (Nat × Int32)} (hl : LW l) (hne : l ≠ []) {fs : Nat → Int32} (hL : RC12 l fs μ) :
    ∃ ξ, f12_worthAt 0 μ = xri ((evs fs l (0, fun _ => 0)).2 0) ξ ∧ FM b μ ξ ∧ aI ξ 12 0 24 = aI μ 12 0 24 := by
  have hh : hws l 0 = some 1 := by rcases hl.2.1 with h | h; exact absurd h hne; exact h
  rw [f12_worthAt_e, k12_worthAt, vI_eq, vI_eq]
  obtain ⟨ξ, e1, _, e3, e4⟩ := s12_loop (b := b) (μ := μ) hl.1 hl.2.2 fs l.length 0 20000 0 (fun _ => 0) μ (by omega) (by have := hl.2.2; omega) (by omega) (by simpa using hh) hL (fun j hj => absurd hj (Nat.not_lt_zero j)) FX_r
  rw [List.drop_zero] at e1
  exact ⟨ξ, e1, e3, e4⟩
theorem fc_eq {ν : XM} {q k : Nat} {x : Int32} : aI (pI ν 12 0 22 q x) 12 0 22 k = if k = q then x else aI ν 12 0 22 k := by
  rw [aI_pI]; simp only [true_and]
theorem fc_o {ν : XM} {q k j : Nat} {x : Int32} (h : j ≠ 22) : aI (pI ν 12 0 22 q x) 12 0 j k = aI ν 12 0 j k := by
  rw [aI_pI]; simp only [h, false_and, and_false, ↓reduceIte]
theorem fc_s {ν : XM} {q : Nat} {x : Int32} (hS : RS b h s ν) : RS b h s (pI ν 12 0 22 q x) := by
  unfold RS at *; simp only [fc_o (ν := ν) (q := q) (x := x) (show 24 ≠ 22 by decide)]; exact hS
/-- the end of a minute -/
theorem s12_p250 (hH : RH h μ) (hb : b ≤ 1034) {w0 : Nat} {r : Nat} {ν : XM} {s2 : SS} (hF : FM b μ ν) (hS : RS b h s2 ν) (hw : w0 < 64) {v : Int32} (hr : r = bN (fun g => decide (s2 2 g = 2) && !w0.testBit g) (hG h)) : ∀ n, 3 < n →
    ∃ ξ, h12_passes_250 n (nI b) (nI w0) (nI 0) (pI ν 12 0 24 (b + 2) v) = xri (nI r) ξ ∧ RS b h (fin (up s2 6 0 v)) ξ ∧ FM b μ ξ := by
  have h6 := RH_6 hH
  have h3 := RH_3 hH
  intro n hn
  have hI0 : RS b h (up s2 6 0 v) (pI ν 12 0 24 (b + 2) v) := by
    refine ⟨fun g' hg' => ?_, fun m' hm' => ?_, ?_, ?_, ?_⟩
    · obtain ⟨a1, a2, a3, a4⟩ := hS.1 g' hg'
      refine ⟨?_, ?_, ?_, ?_⟩
      · rw [st_ne (by omega), a1]; simp [up]
      · rw [st_ne (by omega), a2]; simp [up]
      · rw [st_ne (by omega), a3]; simp [up]
      · rw [st_ne (by omega), a4]; simp [up]
    · rw [st_ne (by omega), hS.2.1 m' hm']; simp [up]
    · rw [st_ne (by omega), hS.2.2.1]; simp [up]
    · rw [st_eq]; simp [up]
    · rw [st_ne (by omega), hS.2.2.2.2]; simp [up]
  refine lp_rel (F := fun f ν k => h12_passes_250 f (nI b) (nI w0) k ν) (fun k ξ => FM b μ ξ ∧ RS b h (fun f j => if f = 4 ∧ j < k then 0 else up s2 6 0 v f j) ξ) (Q := fun x => ∃ ξ, x = xri (nI r) ξ ∧ RS b h (fin (up s2 6 0 v)) ξ ∧ FM b μ ξ) (e := 3) ?_ ?_ 3 0 n _ (by omega) (by omega) ⟨FX_p hF (by omega) (by omega), by simpa using hI0⟩
  · intro f ξ hI
    obtain ⟨hF1, hS1⟩ := hI
    have k0 : (nI b + 0) = nI (b + 0) := by rw [B0, nI_add]
    have c0 : xin (nI (b + 0)) 1081 = true := xin_t (by omega) (by omega)
    have c0' : (xin (nI (b + 0)) 1081 && true) = true := xin_a (by omega) (by omega)
    have q0 : (nI (b + 0)).toNatClampNeg = b + 0 := nI_clamp (by omega)
    have hS2 : RS b h (fin (up s2 6 0 v)) (pI ξ 12 0 24 (b + 0) (aI ξ 12 0 24 (b + 0) + 1)) := by
      refine ⟨fun g' hg' => ?_, fun m' hm' => ?_, ?_, ?_, ?_⟩
      · obtain ⟨a1, a2, a3, a4⟩ := hS1.1 g' hg'
        refine ⟨?_, ?_, ?_, ?_⟩
        · rw [st_ne (by omega), a1]; simp [up, fin]
        · rw [st_ne (by omega), a2]; simp [up, fin]
        · rw [st_ne (by omega), a3]; simp [up, fin]
        · rw [st_ne (by omega), a4]; simp [up, fin]
      · have : m' < 3 := by omega
        rw [st_ne (by omega), hS1.2.1 m' hm']; simp [up, fin, this]
      · rw [st_ne (by omega), hS1.2.2.1]; simp [up, fin]
      · rw [st_ne (by omega), hS1.2.2.2.1]; simp [up, fin]
      · rw [st_eq, hS1.2.2.2.2]; simp [up, fin]
    have hF2 : FM b μ (pI ξ 12 0 24 (b + 0) (aI ξ 12 0 24 (b + 0) + 1)) := FX_p hF1 (by omega) (by omega)
    have hH2 := FM_H hF2 hH
    simp only [h12_passes_250_s, L3, Int32.lt_irrefl, xite_f (not_false), k0, xck_t c0, xck_t c0', mS_eq, q0, s12_who hH2 hS2 hb rfl, bI_i]
    refine ⟨_, ?_, hS2, hF2⟩
    have hlt : who h (fin (up s2 6 0 v)) 2 < 64 := by
      have h1 := bN_lt (fun g => decide ((fin (up s2 6 0 v)) 2 g = 2)) (hG h)
      have h2 : (2 : Nat) ^ hG h ≤ 2 ^ 6 := Nat.pow_le_pow_right (by decide) h6
      unfold who; omega
    have key : ∀ x, x < 64 → ∀ y, y < 64 → nI x &&& (nI y ^^^ (-1)) = nI (x &&& (63 ^^^ y)) := by decide +kernel
    have key2 : ∀ y, y < 64 → ∀ g, g < 6 → (63 ^^^ y).testBit g = !y.testBit g := by decide +kernel
    rw [key _ hlt _ hw]
    congr 2
    rw [hr]
    apply bN_eq
    · have h1 := bN_lt (fun g => decide ((fin (up s2 6 0 v)) 2 g = 2)) (hG h)
      exact Nat.lt_of_le_of_lt Nat.and_le_left h1
    · intro g hg
      rw [Nat.testBit_and, key2 _ hw g (by omega)]
      unfold who
      rw [bN_test]
      simp [hg, fin, up]
  · intro f ξ k hk hI
    obtain ⟨hF1, hS1⟩ := hI
    have h1 := nI_lt hk (show 3 < 2 ^ 31 by omega)
    have k0 : (nI b + 27 + nI k) = nI (b + 27 + k) := ix3 b 27 k
    have c0' : (xin (nI (b + 27 + k)) 1081 && true) = true := xin_a (by omega) (by omega)
    have q0 : (nI (b + 27 + k)).toNatClampNeg = b + 27 + k := nI_clamp (by omega)
    simp only [h12_passes_250_s, L3, xite_t h1, k0, xck_t c0', mS_eq, vI_eq, q0, ← nI_succ]
    refine ⟨_, ⟨FX_p hF1 (by omega) (by omega), ?_⟩, rfl⟩
    refine ⟨fun g' hg' => ?_, fun m' hm' => ?_, ?_, ?_, ?_⟩
    · obtain ⟨a1, a2, a3, a4⟩ := hS1.1 g' hg'
      refine ⟨?_, ?_, ?_, ?_⟩
      · rw [st_ne (by omega), a1]; simp
      · rw [st_ne (by omega), a2]; simp
      · rw [st_ne (by omega), a3]; simp
      · rw [st_ne (by omega), a4]; simp
    · by_cases e : m' = k
      · subst e; rw [st_eq]; simp
      · have : (m' < k + 1) = (m' < k) := by apply propext; omega
        rw [st_ne (by omega), hS1.2.1 m' hm']; simp [this]
    · rw [st_ne (by omega), hS1.2.2.1]; simp
    · rw [st_ne (by omega), hS1.2.2.2.1]; simp
    · rw [st_ne (by omega), hS1.2.2.2.2]; simp
end
