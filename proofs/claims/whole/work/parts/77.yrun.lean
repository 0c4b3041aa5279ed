/-! THE MAKING: it is run -/
def yz : XM := fun _ _ => (fun _ => 0, fun _ => 0, fun _ _ => 0, fun _ _ => 0)
def yS0 : YS := (1, yz, fun _ _ => false)
noncomputable def yR1 : YR := yF11_init [xr 11 0 0] yS0
noncomputable def yR2 : YR := match yR1 with | some (none, S1) => yF12_init [xr 12 0 0] (S1.1 + 1, S1.2) | _ => none
def yall (n : Nat) (p : Nat → Bool) : Bool := (List.range n).all p
theorem yall_at {n : Nat} {p : Nat → Bool} (h : yall n p = true) {k : Nat} (hk : k < n) : p k = true := List.all_eq_true.mp h k (List.mem_range.mpr hk)
def yref1 (ρ : XQ → Nat → Bool) (q : XQ) : Bool := match q with
  | (t, i, 0) => yall (xlay t).length (fun b => match (xlay t)[b]? with | some (.inr _) => ρ (t, i, 0) b | _ => true)
  | (t, i, j + 1) => bif Nat.beq (xarr t j).1 4 || Nat.beq (xarr t j).1 5 then yall (xarr t j).2 (fun k => ρ (t, i, j + 1) k) else true
def ysc1 (μ : XM) (q : XQ) : Bool := match q with
  | (t, i, 0) => yall (xlay t).length (fun b => decide (rI μ t i b = 0) && decide (rL μ t i b = 0))
  | _ => true
def ymem (μ : XM) : Bool := ynl.all (ysc1 μ) && (yall 27 (fun k => decide (aL μ 12 0 9 k = lN (vb 37 (wd k)))) && (yall 60 (fun k => decide (aI μ 12 0 10 k = bif Nat.beq k 5 then -1 else 0)) && (yall 47 (fun k => decide (aI μ 12 0 24 k = bif Nat.ble 15 k && Nat.ble k 20 then -1 else 0)) && (decide (aI μ 12 0 21 0 = 0) && yall 4 (fun j => decide (aI μ 12 0 26 j = 0))))))
noncomputable def ychk : Bool := match yR1 with
  | some (none, S1) => (match yF12_init [xr 12 0 0] (S1.1 + 1, S1.2) with
    | some (none, S2) => Nat.beq S1.1 183 && (Nat.beq S2.1 206 && (ynl.all (yref1 S2.2.2) && ymem S2.2.1))
    | _ => false)
  | _ => false
set_option maxRecDepth 100000 in
theorem ychk_t : ychk = true := by decide +kernel
theorem yrun_all : ∃ S1 S2 : YS, yF11_init [xr 11 0 0] yS0 = some (none, S1) ∧ yF12_init [xr 12 0 0] (S1.1 + 1, S1.2) = some (none, S2) ∧ S1.1 = 183 ∧ S2.1 = 206 ∧ ynl.all (yref1 S2.2.2) = true ∧ ymem S2.2.1 = true := by
  have h := ychk_t
  unfold ychk at h
  split at h
  · rename_i S1 h1
    split at h
    · rename_i S2 h2
      rw [Bool.and_eq_true, Bool.and_eq_true, Bool.and_eq_true] at h
      exact ⟨S1, S2, h1, h2, Nat.eq_of_beq_eq_true h.1, Nat.eq_of_beq_eq_true h.2.1, h.2.2.1, h.2.2.2⟩
    · cases h
  · cases h
