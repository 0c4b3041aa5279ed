/-! THE PURE PART: what the reference does to a scene, and its minute -/
theorem L1 : (1 : Int32) = nI 1 := rfl
theorem L2 : (2 : Int32) = nI 2 := rfl
theorem L3 : (3 : Int32) = nI 3 := rfl
theorem L4 : (4 : Int32) = nI 4 := rfl
theorem L5 : (5 : Int32) = nI 5 := rfl
theorem L6 : (6 : Int32) = nI 6 := rfl
theorem L9 : (9 : Int32) = nI 9 := rfl
theorem L10 : (10 : Int32) = nI 10 := rfl
theorem L15 : (15 : Int32) = nI 15 := rfl
theorem L16 : (16 : Int32) = nI 16 := rfl
theorem L21 : (21 : Int32) = nI 21 := rfl
theorem L27 : (27 : Int32) = nI 27 := rfl
theorem L30 : (30 : Int32) = nI 30 := rfl
theorem L47 : (47 : Int32) = nI 47 := rfl
theorem L60 : (60 : Int32) = nI 60 := rfl
/-- a cell written, its place reckoned -/
theorem xin_a {k N : Nat} (hN : N < 2 ^ 31) (hk : k < N) : (xin (nI k) N && true) = true := by rw [xin_t hN hk]; rfl
section
variable {b : Nat} {h : HS} {s : SS} {μ : XM}
theorem s12_copies {a c n : Nat} (ha : a + n ≤ 1081) (hc : c + n ≤ 1081) (hd : a + n ≤ c ∨ c + n ≤ a) {p q r : Int32} (hp : p = nI a) (hq : q = nI c) (hr : r = nI n) :
    ∃ ν, f12_copies p q r μ = xrv ν ∧ (∀ k, k < n → aI ν 12 0 24 (c + k) = aI μ 12 0 24 (a + k)) ∧ FX c (c + n) μ ν := by
  subst hp hq hr
  rw [f12_copies_e, k12_copies, vI_eq]
  refine lp_rel (F := fun f ν k => h12_copies_3 f (nI a) (nI c) (nI n) k ν) (fun k ν => (∀ j, j < k → aI ν 12 0 24 (c + j) = aI μ 12 0 24 (a + j)) ∧ FX c (c + n) μ ν) (Q := fun x => ∃ ν, x = xrv ν ∧ (∀ k, k < n → aI ν 12 0 24 (c + k) = aI μ 12 0 24 (a + k)) ∧ FX c (c + n) μ ν) (e := n) ?_ ?_ n 0 20000 μ (by omega) (by omega) ⟨fun j hj => absurd hj (Nat.not_lt_zero j), FX_r⟩
  · intro f ν hI
    simp only [h12_copies_3_s, Int32.lt_irrefl, xite_f (not_false)]
    exact ⟨ν, rfl, hI.1, hI.2⟩
  · intro f ν k hk hI
    have h1 := nI_lt hk (show n < 2 ^ 31 by omega)
    have e1 : aI ν 12 0 24 (a + k) = aI μ 12 0 24 (a + k) := hI.2.2.2.2.2.2 (a + k) (by omega)
    simp only [h12_copies_3_s, xite_t h1, nI_add, xck_t (xin_t (show 1081 < 2 ^ 31 by omega) (show a + k < 1081 by omega)), xck_t (xin_a (show 1081 < 2 ^ 31 by omega) (show c + k < 1081 by omega)), mS_eq, vI_eq, nI_clamp (show c + k < 2 ^ 31 by omega), nI_clamp (show a + k < 2 ^ 31 by omega), ← nI_succ, e1]
    refine ⟨_, ⟨fun j hj => ?_, FX_p hI.2 (by omega) (by omega)⟩, rfl⟩
    by_cases ej : j = k
    · subst ej; rw [st_eq]
    · rw [st_ne (by omega)]; exact hI.1 j (by omega)
theorem s12_starts (hH : RH h μ) (hb : b ≤ 1034) {p : Int32} (hp : p = nI b) : ∃ ν, f12_starts p μ = xrv ν ∧ RS b h (s0 h) ν ∧ FM b μ ν := by
  have h6 := RH_6 hH
  have h3 := RH_3 hH
  subst hp
  rw [f12_starts_e, k12_starts, vI_eq]
  have three : ∀ n ν, 6 < n → FM b μ ν → ((∀ g, g < hG h → aI ν 12 0 24 (b + 3 + g) = hf h 1 g ∧ aI ν 12 0 24 (b + 9 + g) = hf h 3 g) ∧ (∀ g, g < 9 → aI ν 12 0 24 (b + 21 + g) = 0) ∧ aI ν 12 0 24 (b + 1) = hf h 8 0 ∧ aI ν 12 0 24 (b + 2) = hf h 9 0 ∧ aI ν 12 0 24 (b + 0) = 0) → ∃ ξ, h12_starts_102 n (nI b) (nI 0) ν = xrv ξ ∧ RS b h (s0 h) ξ ∧ FM b μ ξ := by
    intro n ν hn hF hP
    refine lp_rel (F := fun f ν k => h12_starts_102 f (nI b) k ν) (fun k ν => FM b μ ν ∧ ((∀ g, g < hG h → aI ν 12 0 24 (b + 3 + g) = hf h 1 g ∧ aI ν 12 0 24 (b + 9 + g) = hf h 3 g) ∧ (∀ g, g < 9 → aI ν 12 0 24 (b + 21 + g) = 0) ∧ aI ν 12 0 24 (b + 1) = hf h 8 0 ∧ aI ν 12 0 24 (b + 2) = hf h 9 0 ∧ aI ν 12 0 24 (b + 0) = 0) ∧ ∀ g, g < k → aI ν 12 0 24 (b + 15 + g) = -1) (Q := fun x => ∃ ξ, x = xrv ξ ∧ RS b h (s0 h) ξ ∧ FM b μ ξ) (e := 6) ?_ ?_ 6 0 n ν (by omega) (by omega) ⟨hF, hP, fun g hg => absurd hg (Nat.not_lt_zero g)⟩
    · intro f ν hI
      obtain ⟨hF, ⟨p1, p2, p3, p4, p5⟩, p6⟩ := hI
      simp only [h12_starts_102_s, L6, Int32.lt_irrefl, xite_f (not_false)]
      refine ⟨ν, rfl, ⟨fun g hg => ⟨(p1 g hg).1, (p1 g hg).2, p2 g (by omega), p6 g (by omega)⟩, fun m hm => ?_, p3, p4, p5⟩, hF⟩
      have := p2 (6 + m) (by omega)
      rw [show b + 21 + (6 + m) = b + 27 + m by omega] at this
      exact this
    · intro f ν k hk hI
      obtain ⟨hF, ⟨p1, p2, p3, p4, p5⟩, p6⟩ := hI
      have h1 := nI_lt hk (show 6 < 2 ^ 31 by omega)
      simp only [h12_starts_102_s, L6, L15, xite_t h1, nI_add, xck_t (xin_a (show 1081 < 2 ^ 31 by omega) (show b + 15 + k < 1081 by omega)), mS_eq, vI_eq, nI_clamp (show b + 15 + k < 2 ^ 31 by omega), ← nI_succ]
      refine ⟨_, ⟨FX_p hF (by omega) (by omega), ⟨fun g hg => ?_, fun g hg => ?_, ?_, ?_, ?_⟩, fun g hg => ?_⟩, rfl⟩
      · rw [st_ne (by omega), st_ne (by omega)]; exact p1 g hg
      · rw [st_ne (by omega)]; exact p2 g hg
      · rw [st_ne (by omega)]; exact p3
      · rw [st_ne (by omega)]; exact p4
      · rw [st_ne (by omega)]; exact p5
      · by_cases e : g = k
        · subst e; rw [st_eq]
        · rw [st_ne (by omega)]; exact p6 g (by omega)
  have two : ∀ n ν, hG h + 8 < n → FM b μ ν → ((∀ g, g < 9 → aI ν 12 0 24 (b + 21 + g) = 0) ∧ aI ν 12 0 24 (b + 1) = hf h 8 0 ∧ aI ν 12 0 24 (b + 2) = hf h 9 0 ∧ aI ν 12 0 24 (b + 0) = 0) → ∃ ξ, h12_starts_53 n (nI b) (nI 0) ν = xrv ξ ∧ RS b h (s0 h) ξ ∧ FM b μ ξ := by
    intro n ν hn hF hP
    refine lp_relc 7 (F := fun f ν k => h12_starts_53 f (nI b) k ν) (fun k ν => FM b μ ν ∧ ((∀ g, g < 9 → aI ν 12 0 24 (b + 21 + g) = 0) ∧ aI ν 12 0 24 (b + 1) = hf h 8 0 ∧ aI ν 12 0 24 (b + 2) = hf h 9 0 ∧ aI ν 12 0 24 (b + 0) = 0) ∧ ∀ g, g < k → aI ν 12 0 24 (b + 3 + g) = hf h 1 g ∧ aI ν 12 0 24 (b + 9 + g) = hf h 3 g) (Q := fun x => ∃ ξ, x = xrv ξ ∧ RS b h (s0 h) ξ ∧ FM b μ ξ) (e := hG h) ?_ ?_ (hG h) 0 n ν (by omega) (by omega) ⟨hF, hP, fun g hg => absurd hg (Nat.not_lt_zero g)⟩
    · intro f ν hc hI
      obtain ⟨hF, ⟨p2, p3, p4, p5⟩, p6⟩ := hI
      simp only [h12_starts_53_s, s12_guests (FM_H hF hH), bI_i, Int32.lt_irrefl, xite_f (not_false), vI_eq]
      exact three f ν (by omega) hF ⟨p6, p2, p3, p4, p5⟩
    · intro f ν k hk hI
      obtain ⟨hF, ⟨p2, p3, p4, p5⟩, p6⟩ := hI
      have h1 := nI_lt hk (show hG h < 2 ^ 31 by omega)
      have hH1 := FM_H hF hH
      have hF1 : FM b μ (pI ν 12 0 24 (b + 3 + k) (hf h 1 k)) := FX_p hF (by omega) (by omega)
      simp only [h12_starts_53_s, s12_guests hH1, s12_pl hH1 hk, bI_i, L9, xite_t h1, nI_add, mS_eq, vI_eq]
      rw [show (nI b + 3 + nI k) = nI (b + 3 + k) from by rw [L3, nI_add, nI_add], xck_t (xin_a (show 1081 < 2 ^ 31 by omega) (show b + 3 + k < 1081 by omega)), nI_clamp (show b + 3 + k < 2 ^ 31 by omega), s12_br (FM_H hF1 hH) hk, bI_i, xck_t (xin_a (show 1081 < 2 ^ 31 by omega) (show b + 9 + k < 1081 by omega)), nI_clamp (show b + 9 + k < 2 ^ 31 by omega), ← nI_succ]
      refine ⟨_, ⟨FX_p hF1 (by omega) (by omega), ⟨fun g hg => ?_, ?_, ?_, ?_⟩, fun g hg => ?_⟩, rfl⟩
      · rw [st_ne (by omega), st_ne (by omega)]; exact p2 g hg
      · rw [st_ne (by omega), st_ne (by omega)]; exact p3
      · rw [st_ne (by omega), st_ne (by omega)]; exact p4
      · rw [st_ne (by omega), st_ne (by omega)]; exact p5
      · by_cases e : g = k
        · subst e; rw [st_eq, st_ne (by omega), st_eq]; exact ⟨rfl, rfl⟩
        · rw [st_ne (by omega), st_ne (by omega), st_ne (by omega), st_ne (by omega)]; exact p6 g (by omega)
  refine lp_relc 20 (F := fun f ν k => h12_starts_2 f (nI b) k ν) (fun k ν => FM b μ ν ∧ ∀ j, j < k → aI ν 12 0 24 (b + j) = 0) (Q := fun x => ∃ ξ, x = xrv ξ ∧ RS b h (s0 h) ξ ∧ FM b μ ξ) (e := 30) ?_ ?_ 30 0 20000 μ (by omega) (by omega) ⟨FX_r, fun g hg => absurd hg (Nat.not_lt_zero g)⟩
  · intro f ν hc hI
    obtain ⟨hF, hP⟩ := hI
    have hH1 := FM_H hF hH
    simp only [h12_starts_2_s, L30, Int32.lt_irrefl, xite_f (not_false), vI_eq, mS_eq]
    have i3 : (3 : Int32).toNatClampNeg = 3 := rfl
    have i4 : (4 : Int32).toNatClampNeg = 4 := rfl
    rw [show (nI b + 1) = nI (b + 1) from by rw [L1, nI_add], show (nI b + 2) = nI (b + 2) from by rw [L2, nI_add], xck_t (show xin 3 120 = true by decide), xck_t (show xin 4 120 = true by decide), xck_t (xin_a (show 1081 < 2 ^ 31 by omega) (show b + 1 < 1081 by omega)), xck_t (xin_a (show 1081 < 2 ^ 31 by omega) (show b + 2 < 1081 by omega)), nI_clamp (show b + 1 < 2 ^ 31 by omega), nI_clamp (show b + 2 < 2 ^ 31 by omega), i3, i4, hH1.2.1.2.2.2.1]
    have hF1 : FM b μ (pI ν 12 0 24 (b + 1) (hf h 8 0)) := FX_p hF (by omega) (by omega)
    have hH2 := FM_H hF1 hH
    rw [hH2.2.1.2.2.2.2]
    refine two f _ (by omega) (FX_p hF1 (by omega) (by omega)) ⟨fun g hg => ?_, ?_, ?_, ?_⟩
    · rw [st_ne (by omega), st_ne (by omega)]
      have := hP (21 + g) (by omega)
      rw [show b + (21 + g) = b + 21 + g by omega] at this
      exact this
    · rw [st_ne (by omega), st_eq]
    · rw [st_eq]
    · rw [st_ne (by omega), st_ne (by omega)]; exact hP 0 (by omega)
  · intro f ν k hk hI
    obtain ⟨hF, hP⟩ := hI
    have h1 := nI_lt hk (show 30 < 2 ^ 31 by omega)
    simp only [h12_starts_2_s, L30, xite_t h1, nI_add, xck_t (xin_a (show 1081 < 2 ^ 31 by omega) (show b + k < 1081 by omega)), mS_eq, vI_eq, nI_clamp (show b + k < 2 ^ 31 by omega), ← nI_succ]
    refine ⟨_, ⟨FX_p hF (by omega) (by omega), fun g hg => ?_⟩, rfl⟩
    by_cases e : g = k
    · subst e; rw [st_eq]
    · rw [st_ne (by omega)]; exact hP g (by omega)
theorem s12_casts (h6 : hG h ≤ 6) (h3 : hM h ≤ 3) (hS : RS b h s μ) (hb : b ≤ 1034) {p : Int32} (hp : p = nI b) {m g : Nat} (hm : m < hM h) (hg : g < hG h) (w : Int32) :
    ∃ ν, f12_casts p (nI m) w (nI g) μ = xrv ν ∧ RS b h (up (up s 3 g w) 4 m 1) ν ∧ FM b μ ν := by
  subst hp
  rw [f12_casts_e, k12_casts, show (nI b + 15 + nI g) = nI (b + 15 + g) from by rw [L15, nI_add, nI_add], show (nI b + 27 + nI m) = nI (b + 27 + m) from by rw [L27, nI_add, nI_add], xck_t (xin_a (show 1081 < 2 ^ 31 by omega) (show b + 15 + g < 1081 by omega)), mS_eq, xck_t (xin_a (show 1081 < 2 ^ 31 by omega) (show b + 27 + m < 1081 by omega)), mS_eq, nI_clamp (show b + 15 + g < 2 ^ 31 by omega), nI_clamp (show b + 27 + m < 2 ^ 31 by omega)]
  refine ⟨_, rfl, ⟨fun g' hg' => ?_, fun m' hm' => ?_, ?_, ?_, ?_⟩, FX_p (FX_p FX_r (by omega) (by omega)) (by omega) (by omega)⟩
  · obtain ⟨a1, a2, a3, a4⟩ := hS.1 g' hg'
    refine ⟨?_, ?_, ?_, ?_⟩
    · rw [st_ne (by omega), st_ne (by omega), a1]; simp [up]
    · rw [st_ne (by omega), st_ne (by omega), a2]; simp [up]
    · rw [st_ne (by omega), st_ne (by omega), a3]; simp [up]
    · by_cases e : g' = g
      · subst e; rw [st_ne (by omega), st_eq]; simp [up]
      · rw [st_ne (by omega), st_ne (by omega), a4]; simp [up, e]
  · by_cases e : m' = m
    · subst e; rw [st_eq]; simp [up]
    · rw [st_ne (by omega), st_ne (by omega), hS.2.1 m' hm']; simp [up, e]
  · rw [st_ne (by omega), st_ne (by omega), hS.2.2.1]; simp [up]
  · rw [st_ne (by omega), st_ne (by omega), hS.2.2.2.1]; simp [up]
  · rw [st_ne (by omega), st_ne (by omega), hS.2.2.2.2]; simp [up]
theorem s12_stops (h6 : hG h ≤ 6) (h3 : hM h ≤ 3) (hS : RS b h s μ) (hb : b ≤ 1034) {p : Int32} (hp : p = nI b) {m : Nat} (hm : m < hM h) :
    ∃ ν, f12_stops p (nI m) μ = xrv ν ∧ RS b h (up (up s 5 0 (s 5 0 - 1)) 4 m 1) ν ∧ FM b μ ν := by
  subst hp
  rw [f12_stops_e, k12_stops, show (nI b + 27 + nI m) = nI (b + 27 + m) from by rw [L27, nI_add, nI_add], show (nI b + 1) = nI (b + 1) from by rw [L1, nI_add], xck_t (xin_t (show 1081 < 2 ^ 31 by omega) (show b + 1 < 1081 by omega)), xck_t (xin_a (show 1081 < 2 ^ 31 by omega) (show b + 1 < 1081 by omega)), mS_eq, xck_t (xin_a (show 1081 < 2 ^ 31 by omega) (show b + 27 + m < 1081 by omega)), mS_eq, nI_clamp (show b + 1 < 2 ^ 31 by omega), nI_clamp (show b + 27 + m < 2 ^ 31 by omega), hS.2.2.1]
  refine ⟨_, rfl, ⟨fun g' hg' => ?_, fun m' hm' => ?_, ?_, ?_, ?_⟩, FX_p (FX_p FX_r (by omega) (by omega)) (by omega) (by omega)⟩
  · obtain ⟨a1, a2, a3, a4⟩ := hS.1 g' hg'
    refine ⟨?_, ?_, ?_, ?_⟩
    · rw [st_ne (by omega), st_ne (by omega), a1]; simp [up]
    · rw [st_ne (by omega), st_ne (by omega), a2]; simp [up]
    · rw [st_ne (by omega), st_ne (by omega), a3]; simp [up]
    · rw [st_ne (by omega), st_ne (by omega), a4]; simp [up]
  · by_cases e : m' = m
    · subst e; rw [st_eq]; simp [up]
    · rw [st_ne (by omega), st_ne (by omega), hS.2.1 m' hm']; simp [up, e]
  · rw [st_ne (by omega), st_eq]; simp [up]
  · rw [st_ne (by omega), st_ne (by omega), hS.2.2.2.1]; simp [up]
  · rw [st_ne (by omega), st_ne (by omega), hS.2.2.2.2]; simp [up]
/-- one cell of a scene -/
theorem RS_up (h6 : hG h ≤ 6) (h3 : hM h ≤ 3) (hS : RS b h s μ) {f o g : Nat} (hf : (f = 0 ∧ o = 3) ∨ (f = 1 ∧ o = 9) ∨ (f = 2 ∧ o = 21) ∨ (f = 3 ∧ o = 15)) (hg : g < hG h) (x : Int32) : RS b h (up s f g x) (pI μ 12 0 24 (b + o + g) x) := by
  refine ⟨fun g' hg' => ?_, fun m' hm' => ?_, ?_, ?_, ?_⟩
  · obtain ⟨a1, a2, a3, a4⟩ := hS.1 g' hg'
    rcases hf with ⟨rfl, rfl⟩ | ⟨rfl, rfl⟩ | ⟨rfl, rfl⟩ | ⟨rfl, rfl⟩
    · refine ⟨?_, ?_, ?_, ?_⟩
      · by_cases e : g' = g
        · subst e; rw [st_eq]; simp [up]
        · rw [st_ne (by omega), a1]; simp [up, e]
      · rw [st_ne (by omega), a2]; simp [up]
      · rw [st_ne (by omega), a3]; simp [up]
      · rw [st_ne (by omega), a4]; simp [up]
    · refine ⟨?_, ?_, ?_, ?_⟩
      · rw [st_ne (by omega), a1]; simp [up]
      · by_cases e : g' = g
        · subst e; rw [st_eq]; simp [up]
        · rw [st_ne (by omega), a2]; simp [up, e]
      · rw [st_ne (by omega), a3]; simp [up]
      · rw [st_ne (by omega), a4]; simp [up]
    · refine ⟨?_, ?_, ?_, ?_⟩
      · rw [st_ne (by omega), a1]; simp [up]
      · rw [st_ne (by omega), a2]; simp [up]
      · by_cases e : g' = g
        · subst e; rw [st_eq]; simp [up]
        · rw [st_ne (by omega), a3]; simp [up, e]
      · rw [st_ne (by omega), a4]; simp [up]
    · refine ⟨?_, ?_, ?_, ?_⟩
      · rw [st_ne (by omega), a1]; simp [up]
      · rw [st_ne (by omega), a2]; simp [up]
      · rw [st_ne (by omega), a3]; simp [up]
      · by_cases e : g' = g
        · subst e; rw [st_eq]; simp [up]
        · rw [st_ne (by omega), a4]; simp [up, e]
  · have : ¬ 4 = f := by omega
    rw [st_ne (by omega), hS.2.1 m' hm']; simp [up, this]
  · have : ¬ 5 = f := by omega
    rw [st_ne (by omega), hS.2.2.1]; simp [up, this]
  · have : ¬ 6 = f := by omega
    rw [st_ne (by omega), hS.2.2.2.1]; simp [up, this]
  · have : ¬ 7 = f := by omega
    rw [st_ne (by omega), hS.2.2.2.2]; simp [up, this]
theorem ix3 (b o g : Nat) : (nI b + nI o + nI g) = nI (b + o + g) := by rw [nI_add, nI_add]
theorem s12_breathes {g : Nat} (hH : RH h μ) (hS : RS b h s μ) (hI : (s 3 g = -1 ∧ good h s g = false) ∨ ∃ k, k < hB h ∧ s 3 g = nI k ∧ ¬ s 3 g < 0 ∧ ¬ s 3 g = -1 ∧ good h s g = brn h k g) (hb : b ≤ 1034) {p : Int32} (hp : p = nI b) (hg : g < hG h) :
    ∃ ν, f12_breathes p (nI g) μ = xrv ν ∧ RS b h (dr h s g) ν ∧ FM b μ ν := by
  sorry
end
