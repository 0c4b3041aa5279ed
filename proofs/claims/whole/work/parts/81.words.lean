/-! OUT OF THE WORDS: what the start knows -/
abbrev SA (s : State) : Nat → Prop := fun q => s.heap.size ≤ q
section
variable {s : State} {args : Array Value}
theorem w_prim {ty : FieldType} (h : (Cond.arrayClass ty).before args s = true) (hr : ∀ c, va_RA s c ty = (s.vm.findClass ("[" ++ ty.toString) = some c)) : ∃ cA, ArrOfT s cA ty ∧ va_RA s cA ty := by
  obtain ⟨c, k, comp, h1, h2, h3⟩ := Cond.arrayClass_spec h
  exact ⟨c, fun n z => ⟨fun k h => (by cases h), k, h2, comp, h3⟩, by rw [hr]; exact h1⟩
theorem w_obj {C : String} (h : (Cond.arrayOver (.object C)).before args s = true) : ∃ cA, ArrOfT s cA (.object C) ∧ va_RA s cA (.object C) := by
  obtain ⟨comp, c, k, h1, h2, h3, h4, h5⟩ := Cond.arrayOver_spec h
  exact ⟨c, fun n z => ⟨fun k h => (by cases h), k, h3, comp, h4⟩, k, comp, h3, h4, h1, h5⟩
theorem w_inst : xcl.all (fun q => decide (Cond.instantiable q.1 q.2.2 ∈ lw_tbl)) = true := by decide +kernel
theorem w_cls (hts : ∀ w ∈ lw_tbl, w.before args s = true) (c : Nat) : ∃ x : ClassId × (Nat → Nat), ∀ q, xcl[c]? = some q → u_Kn s q.1 q.2.1 q.2.2 x.1 x.2 := by
  cases h : xcl[c]? with
  | none => exact ⟨((0 : Nat), fun _ => 0), fun q hq => by cases hq⟩
  | some q =>
    obtain ⟨C, T, N⟩ := q
    have hi : Cond.instantiable C N ∈ lw_tbl := of_decide_eq_true (List.all_eq_true.mp w_inst (C, T, N) (List.mem_of_getElem? h))
    obtain ⟨cC, iS, hk⟩ := u_known (ws := lw_tbl) hts (fun w hw => xG_tbl w ((xcfs h).2.1 w hw)) (hts _ hi)
    exact ⟨(cC, iS), fun q hq => by cases hq; exact hk⟩
theorem w_c0 : Cond.arrayClass .int ∈ lw_tbl ∧ Cond.arrayClass .long ∈ lw_tbl ∧ Cond.arrayClass .char ∈ lw_tbl ∧ Cond.arrayClass .boolean ∈ lw_tbl ∧ Cond.arrayOver (.object xR8) ∈ lw_tbl ∧ Cond.arrayOver (.object xR5) ∈ lw_tbl := by decide +kernel
theorem w_tys (hts : ∀ w ∈ lw_tbl, w.before args s = true) : ∃ cy : Nat → ClassId, ∀ (D : va_G) (A : Nat → Prop) (k : Nat) (q : ClassId × FieldType), (ytys (D, cy, A))[k]? = some q → ArrOfT s q.1 q.2 ∧ va_RA s q.1 q.2 := by
  obtain ⟨w0, w1, w2, w3, w4, w5⟩ := w_c0
  obtain ⟨c0, h0⟩ := w_prim (hts _ w0) (fun _ => rfl)
  obtain ⟨c1, h1⟩ := w_prim (hts _ w1) (fun _ => rfl)
  obtain ⟨c2, h2⟩ := w_prim (hts _ w2) (fun _ => rfl)
  obtain ⟨c3, h3⟩ := w_prim (hts _ w3) (fun _ => rfl)
  obtain ⟨c4, h4⟩ := w_obj (hts _ w4)
  obtain ⟨c5, h5⟩ := w_obj (hts _ w5)
  refine ⟨fun k => [c0, c1, c2, c3, c4, c5].getD k c0, fun D A k q hk => ?_⟩
  match k, hk with
  | 0, hk => cases hk; exact h0
  | 1, hk => cases hk; exact h1
  | 2, hk => cases hk; exact h2
  | 3, hk => cases hk; exact h3
  | 4, hk => cases hk; exact h4
  | 5, hk => cases hk; exact h5
  | k + 6, hk => cases hk
theorem ws_K (hts : ∀ w ∈ lw_tbl, w.before args s = true) : ∃ (D : va_G) (cy : Nat → ClassId), ∀ A : Nat → Prop, va_K D xcl (ytys (D, cy, A)) s := by
  obtain ⟨cy, hcy⟩ := w_tys hts
  exact ⟨(fun c => (Classical.choose (w_cls hts c)).1, fun c => (Classical.choose (w_cls hts c)).2), cy, fun A => ⟨fun c q hq => Classical.choose_spec (w_cls hts c) q hq, hcy _ A⟩⟩
theorem ws_O (hts : ∀ w ∈ lw_tbl, w.before args s = true) : va_AO xR8 s ∧ va_AO xR5 s := ⟨va_AO.of (hts _ w_c0.2.2.2.2.1), va_AO.of (hts _ w_c0.2.2.2.2.2)⟩
theorem w_nest : ∀ q ∈ ynk, Cond.methodLinkNest q.1 q.2.1 q.2.2 "SilenceBall" ∈ lw_tbl := by decide +kernel
theorem ws_N (hts : ∀ w ∈ lw_tbl, w.before args s = true) : YNW s := fun q hq => va_Nw.of rfl (hts _ (w_nest q hq))
-- the String constants
def wtm (i : Nat) : Term := .string "SilenceBall$Tape" (bif Nat.beq i 0 then 67 else 59)
abbrev welt (i j : Nat) : Cond := .eq (.elem (.field (wtm i) "java/lang/String" "value" "[B") (.int (Int32.ofNat j))) (.int ((bytS.getD i []).getD j 0))
abbrev wNC : List Cond := flatC (Jvm.Cond.and given_1 narrow_1)
set_option maxRecDepth 100000 in
theorem w_seg0 : (wNC.drop 58).take 144 = (List.range 144).map (welt 0) := by decide +kernel
set_option maxRecDepth 100000 in
theorem w_seg1 : (wNC.drop 206).take 8 = (List.range 8).map (welt 1) := by decide +kernel
theorem w_elt : ∀ i, i < 2 → ∀ j, j < lenS.getD i 0 → welt i j ∈ wNC := by
  intro i hi j hj
  rcases (show i = 0 ∨ i = 1 by omega) with rfl | rfl
  · have hj' : j < 144 := Nat.lt_of_lt_of_eq hj (by decide +kernel)
    have h1 : welt 0 j ∈ (wNC.drop 58).take 144 := by rw [w_seg0]; exact List.mem_map.mpr ⟨j, List.mem_range.mpr hj', rfl⟩
    exact List.mem_of_mem_drop (List.mem_of_mem_take h1)
  · have hj' : j < 8 := Nat.lt_of_lt_of_eq hj (by decide +kernel)
    have h1 : welt 1 j ∈ (wNC.drop 206).take 8 := by rw [w_seg1]; exact List.mem_map.mpr ⟨j, List.mem_range.mpr hj', rfl⟩
    exact List.mem_of_mem_drop (List.mem_of_mem_take h1)
theorem w_lt2 {Q : Nat → Prop} (h0 : Q 0) (h1 : Q 1) : ∀ i, i < 2 → Q i := fun i hi => by
  rcases (show i = 0 ∨ i = 1 by omega) with rfl | rfl
  · exact h0
  · exact h1
theorem w_st0 : Cond.stringRef "SilenceBall$Tape" 67 "guest belt man holes water rises at chin breath weighs bears reach plain waver heavy shabby minute cast ask stop not and or gaps depth talk out " ∈ lw_tbl ∧ Cond.stringRef "SilenceBall$Tape" 59 "()<=+-*;" ∈ lw_tbl := by decide +kernel
theorem w_zs : Cond.laysStatic "java/lang/String" "COMPACT_STRINGS" "Z" ∈ lw_tbl ∧ Cond.initialized "java/lang/String" ∈ lw_tbl ∧ Cond.laysStatic "jdk/internal/util/Preconditions" "SIOOBE_FORMATTER" "Ljava/util/function/BiFunction;" ∈ lw_tbl ∧ Cond.initialized "jdk/internal/util/Preconditions" ∈ lw_tbl ∧
    Cond.laysStatic Bundle.tN "UNASSIGNED_STACK" Bundle.steD ∈ lw_tbl ∧ Cond.laysStatic Bundle.tN "SUPPRESSED_SENTINEL" Bundle.listD ∈ lw_tbl ∧ Cond.initialized Bundle.tN ∈ lw_tbl := by decide +kernel
set_option maxRecDepth 100000 in
theorem ws_S (hts : ∀ w ∈ lw_tbl, w.before args s = true) (hg : (Jvm.Cond.and given_1 narrow_1).before args s = true) (hA : ∀ a : Nat, a < s.heap.size → ¬ SA s a) :
    ∃ (adK adV : Nat → Nat) (fm : Option Nat), FS (SA s) adK adV fm s s.heap ∧ ∀ k q, xstrT[k]? = some q → vk_R q.1 q.2.1 q.2.2 (adK k) s := by
  have hs := flat_of_before _ hg
  obtain ⟨adK, adV, hS, hev⟩ := vk_Sof (args := args) (s := s) (N := 2) (tm := wtm) (len := lenS) (byt := bytS) (A := SA s) (w_lt2 (by decide) (by decide)) (w_lt2 (hs _ (by decide +kernel)) (hs _ (by decide +kernel))) (w_lt2 (hs _ (by decide +kernel)) (hs _ (by decide +kernel)))
    (w_lt2 (hs _ (by decide +kernel)) (hs _ (by decide +kernel))) (w_lt2 (hs _ (by decide +kernel)) (hs _ (by decide +kernel)))
    (fun i hi j hj => hs _ (w_elt i hi j hj))
    (fun i j hi hj hij => by
      rcases (show i = 0 ∧ j = 1 ∨ i = 1 ∧ j = 0 by omega) with ⟨rfl, rfl⟩ | ⟨rfl, rfl⟩
      · exact Or.inl (hs _ (by decide +kernel))
      · exact Or.inr (hs _ (by decide +kernel))) hA
  have hZ := va_Zof (A := SA s) (hts _ w_zs.1) (hts _ w_zs.2.1) (va_eqi (hs _ (by decide +kernel : Cond.eq (.static "java/lang/String" "COMPACT_STRINGS" "Z") (.int 1) ∈ _))) hA
  have hR : ∀ k q, xstrT[k]? = some q → vk_R q.1 q.2.1 q.2.2 (adK k) s := by
    intro k q hq
    match k, hq with
    | 0, hq => cases hq; exact vk_R.of (hts _ w_st0.1) (hev 0 (by decide))
    | 1, hq => cases hq; exact vk_R.of (hts _ w_st0.2) (hev 1 (by decide))
    | k + 2, hq => cases hq
  rcases va_Zqof (A := SA s) (hts _ w_zs.2.2.1) (hts _ w_zs.2.2.2.1) (hs _ (by decide +kernel : Cond.isRef (.static "jdk/internal/util/Preconditions" "SIOOBE_FORMATTER" "Ljava/util/function/BiFunction;") ∈ _)) hA with hf | ⟨t, hf⟩
  · exact ⟨adK, adV, none, ⟨hS, hZ, hf⟩, hR⟩
  · exact ⟨adK, adV, some t, ⟨hS, hZ, hf⟩, hR⟩
theorem w_rs : ∀ w ∈ rsB, w ∈ lw_tbl := by decide +kernel
theorem ws_R (hts : ∀ w ∈ lw_tbl, w.before args s = true) (hg : (Jvm.Cond.and given_1 narrow_1).before args s = true) (hA : ∀ a : Nat, a < s.heap.size → ¬ SA s a) : RsC (SA s) s s.heap := by
  have hs := flat_of_before _ hg
  exact ⟨fun w hw => va_any (rsB_o w hw) (hts _ (w_rs w hw)), vx_Zqof (hts _ w_zs.2.2.2.2.1) (hts _ w_zs.2.2.2.2.2.2) (hs _ (by decide +kernel)) hA, vx_Zqof (hts _ w_zs.2.2.2.2.2.1) (hts _ w_zs.2.2.2.2.2.2) (hs _ (by decide +kernel)) hA⟩
end
