/-! THE START: what memory holds at first, and that both sides stand alike -/
/-- the first memory: the script's ints, and what the constructors have made -/
def μS (S : YS) (L : Nat) (xs : Nat → Int32) : XM := fun t i => if t = 13 then (fun _ => nI L, fun _ => 0, fun _ => xs, fun _ _ => 0) else S.2.1 t i
section
variable {S : YS} {L : Nat} {xs : Nat → Int32}
theorem μS_13 : rI (μS S L xs) 13 0 0 = nI L ∧ aI (μS S L xs) 13 0 0 = xs := ⟨rfl, rfl⟩
theorem μS_n {t i : Nat} (h : t ≠ 13) : μS S L xs t i = S.2.1 t i := if_neg h
theorem yscal (h : ymem S.2.1 = true) {t i b : Nat} (hq : (t, i, 0) ∈ ynl) (hb : b < (xlay t).length) : rI S.2.1 t i b = 0 ∧ rL S.2.1 t i b = 0 := by
  unfold ymem at h
  rw [Bool.and_eq_true] at h
  have h1 : ysc1 S.2.1 (t, i, 0) = true := List.all_eq_true.mp h.1 _ hq
  have h2 := yall_at h1 hb
  rw [Bool.and_eq_true] at h2
  exact ⟨of_decide_eq_true h2.1, of_decide_eq_true h2.2⟩
theorem yzero (h : ymem S.2.1 = true) {t i b : Nat} (ht : t ≠ 13) (hq : (t, i, 0) ∈ ynl) (hb : b < (xlay t).length) : rI (μS S L xs) t i b = 0 := by
  rw [rI_ob (μS_n ht)]; exact (yscal h hq hb).1
def A00 : AS := (h00, s0 h00, (0, fun _ _ => 0), (0, fun _ => s0 h00), (fun _ => (false, s0 h00, (0, fun _ => (0, 0)))), (0, fun _ => (0, 0)), (0, fun _ => 0))
theorem A00_I : AI A00 := AI_nRoom (A := A00) h00_DI
theorem A00_C (h : ymem S.2.1 = true) : RC A00 (μS S L xs) := by
  have Z : ∀ t i b, t ≠ 13 → (t, i, 0) ∈ ynl → b < (xlay t).length → rI (μS S L xs) t i b = 0 := fun t i b h1 h2 h3 => yzero h h1 h2 h3
  have n0 : ∀ {k : Nat} {p : Prop}, k < 0 → p := fun hk => absurd hk (Nat.not_lt_zero _)
  refine ⟨⟨⟨Nat.zero_le _, Nat.zero_le _, Nat.zero_le _⟩, ⟨?_, ?_, ?_, ?_, ?_⟩, fun g hg => n0 hg, fun g hg => n0 hg, fun g hg => n0 hg⟩, ⟨?_, fun k hk => n0 hk⟩, ⟨fun g hg => n0 hg, fun g hg => n0 hg, fun g hg => n0 hg⟩, ⟨fun g hg => n0 hg, ⟨0, by omega, ?_, fun m hm => n0 hm⟩, ?_, ?_, ?_⟩, ⟨?_, fun l hl => n0 hl⟩, ⟨0, by omega, ?_, ?_, fun i hi => n0 hi⟩, fun j hj => ⟨?_, fun e => absurd e (by show ¬ false = true; decide)⟩, ⟨?_, fun k hk => n0 hk⟩, ⟨?_, fun k hk => n0 hk⟩⟩
  · exact Z 2 0 0 (by decide) (by decide) (by decide)
  · exact Z 2 0 1 (by decide) (by decide) (by decide)
  · exact Z 2 0 2 (by decide) (by decide) (by decide)
  · exact Z 2 0 3 (by decide) (by decide) (by decide)
  · exact Z 2 0 4 (by decide) (by decide) (by decide)
  · exact Z 4 0 1 (by decide) (by decide) (by decide)
  · exact Z 8 0 5 (by decide) (by decide) (by decide)
  · exact Z 8 0 6 (by decide) (by decide) (by decide)
  · exact Z 8 0 7 (by decide) (by decide) (by decide)
  · exact Z 8 0 8 (by decide) (by decide) (by decide)
  · exact Z 1 0 0 (by decide) (by decide) (by decide)
  · exact Z 0 0 1 (by decide) (by decide) (by decide)
  · exact Z 0 0 2 (by decide) (by decide) (by decide)
  · have hj4 : j = 0 ∨ j = 1 ∨ j = 2 ∨ j = 3 := by omega
    rcases hj4 with rfl | rfl | rfl | rfl
    · exact Z 5 0 0 (by decide) (by decide) (by decide)
    · exact Z 5 1 0 (by decide) (by decide) (by decide)
    · exact Z 5 2 0 (by decide) (by decide) (by decide)
    · exact Z 5 3 0 (by decide) (by decide) (by decide)
  · exact Z 9 0 0 (by decide) (by decide) (by decide)
  · exact Z 10 0 1 (by decide) (by decide) (by decide)
theorem A00_M (h : ymem S.2.1 = true) : RM A00 (μS S L xs) := by
  have Z : ∀ b, b < (xlay 12).length → rI (μS S L xs) 12 0 b = 0 := fun b h3 => yzero h (by decide) (by decide) h3
  have n0 : ∀ {k : Nat} {p : Prop}, k < 0 → p := fun hk => absurd hk (Nat.not_lt_zero _)
  have e12 : μS S L xs 12 0 = S.2.1 12 0 := μS_n (by decide)
  unfold ymem at h
  rw [Bool.and_eq_true, Bool.and_eq_true, Bool.and_eq_true, Bool.and_eq_true, Bool.and_eq_true] at h
  obtain ⟨-, hw, hr, hs, h21, h26⟩ := h
  have R : ∀ k, k < 60 → aI (μS S L xs) 12 0 10 k = bif Nat.beq k 5 then -1 else 0 := fun k hk => by rw [aI_ob e12]; exact of_decide_eq_true (yall_at hr hk)
  have T : ∀ k, k < 47 → aI (μS S L xs) 12 0 24 k = bif Nat.ble 15 k && Nat.ble k 20 then -1 else 0 := fun k hk => by rw [aI_ob e12]; exact of_decide_eq_true (yall_at hs hk)
  refine ⟨⟨⟨Nat.zero_le _, Nat.zero_le _, Nat.zero_le _⟩, ⟨R 0 (by omega), R 1 (by omega), R 2 (by omega), R 3 (by omega), R 4 (by omega)⟩, fun g hg => n0 hg, fun g hg => n0 hg, fun g hg => n0 hg⟩, .inl ⟨rfl, R 5 (by omega)⟩, ⟨0, fun _ => 0, fun _ => 0, by omega, Z 18 (by decide), fun k hk => n0 hk, fun t i ht hi => ?_⟩, ⟨fun g hg => n0 hg, fun m hm => n0 hm, T 1 (by omega), T 2 (by omega), T 0 (by omega)⟩, ⟨?_, fun l hl => n0 hl⟩, ⟨Z 25 (by decide), fun i hi => n0 hi⟩, fun j hj => ⟨?_, fun e => absurd e (by show ¬ false = true; decide)⟩, ⟨T 30 (by omega), fun k hk => n0 hk⟩, ⟨Z 2 (by decide), fun k hk => n0 hk⟩, fun k hk => ?_⟩
  · exfalso
    have : cnt A00.1 t = 0 := by unfold cnt; split <;> rfl
    have hi' : i < cnt A00.1 t := hi
    omega
  · rw [aI_ob e12]; exact of_decide_eq_true h21
  · rw [aI_ob e12]; exact of_decide_eq_true (yall_at h26 hj)
  · rw [aL_ob e12]; exact of_decide_eq_true (yall_at hw hk)
theorem A00_J (h : ymem S.2.1 = true) : JR A00 (μS S L xs) := ⟨A00_I, A00_C h, A00_M h⟩
/-- the law's loop ends well -/
theorem law_good (h : ymem S.2.1 = true) (hL : L ≤ 3584) : ∃ μ', hL_law_23 600 0 (μS S L xs) = some (some (xi 1), μ') :=
  law_all (L := L) (by omega) 512 600 0 A00 (μS S L xs) rfl (by omega) (by omega) (by omega) (A00_J h)
end
