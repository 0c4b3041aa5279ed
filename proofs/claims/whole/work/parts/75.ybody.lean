/-! THE MAKING: a body, a method's contract -/
theorem yrun_inv {tab : List XE} {env : YN} {rt mc K nL : Nat} {av : List XV} {S S' : YS} {r : Option XV} (h : yrun tab env rt mc K nL av S = some (r, S')) : yex tab env rt (S.1 + mc) K tab (xlo av nL) [] S = some (r, S') ∧ S'.1 = S.1 + mc ∧ (xargs av).length ≤ nL ∧ ∀ q, r ≠ some (.inr q) := by
  unfold yrun at h
  split at h
  · rename_i r1 S1 he
    replace h := ycond h
    obtain ⟨h1, h⟩ := h
    cases h
    rw [Bool.and_eq_true, Bool.and_eq_true] at h1
    refine ⟨he, Nat.eq_of_beq_eq_true h1.1, Nat.le_of_ble_eq_true h1.2.1, fun q e => ?_⟩
    have := h1.2.2
    rw [e] at this
    cases this
  · cases h
theorem yrun_mk (tab : List XE) (env : YN) (rt mc K nL : Nat) : ymk mc (yrun tab env rt mc K nL) := fun av S r S' h => ⟨(yrun_inv h).2.1, (yrun_inv h).2.2.2⟩
set_option maxHeartbeats 1000000 in
theorem ys_body {p : Program} {l : Launch} {e : Env} {R : Room} {s : State} {m : MethodId} {args : Array Value} {below : List Frame} {meth : Method} {c : Code} {Z : State → Prop} {cc : ByteArray} {y : MethodName} {P : YP} {nL : Nat}
    (C : YCt P p R s m args meth c cc y nL) {tab : List XE} {env : YN} {rt n0 cap oc : Nat} {ad0 : XQ → Nat} {ol : List Nat} {fl : List (Nat × Nat × Nat)} {ll : List (Nat × Int64)} {nl ql : List (Nat × Nat)} (hT : ytab y cc oc ol fl ll nl ql tab) (hoc : oc < 13 ∨ oc = 99)
    (hE : ∀ q ∈ env, ycal P l R.frames R.locals y.cls q) (hcap : cap - n0 ≤ R.cells ∧ ysl cap - ysl n0 ≤ R.slots) {r : Option XV} {Sr : YS}
    (hF : YFin p l e R s m args below meth c Z cc P ad0 n0 rt r Sr) :
    ∀ (k : Nat) (e' : XE) (nx pre : List XE), tab = pre ++ e' :: nx → ∀ ad L st S H locs ls, yex tab env rt cap k (e' :: nx) L st S = some (r, Sr) → YG P s ad0 n0 cap nL ad S H locs ls L st → W p l e R s m args below meth c H locs (S.1 - n0) (ysl S.1 - ysl n0) Z (F0 m e'.1 ls (st.map (xc (yX P ad)))) := by
  intro k
  induction k with
  | zero => intro e' nx pre _ ad L st S H locs ls h; cases h
  | succ k ih =>
    intro e' nx pre htab ad L st S H locs ls h hg
    have hnil : ∀ L st S, yex tab env rt cap k [] L st S = none := by intro L st S; cases k <;> rfl
    exact ys_step C hT hoc hE hcap hF (rec := yex tab env rt cap k) hnil ih htab h hg
set_option maxHeartbeats 1000000 in
theorem CtrY_of {P : YP} {l : Launch} {y : MethodName} {cc : ByteArray} {maxL : Nat} {ret : Option FieldType} {fr mc K : Nat} {tab : List XE} {env : YN} {oc : Nat} {ol : List Nat} {fl : List (Nat × Nat × Nat)} {ll : List (Nat × Int64)} {nl ql : List (Nat × Nat)}
    (hy : plainName y.cls = true) (hT : ytab y cc oc ol fl ll nl ql tab) (hoc : oc < 13 ∨ oc = 99) (hE : ∀ q ∈ env, ycal P l fr (40 * fr + 100) y.cls q) (hfr : 1 ≤ fr) (h0 : ∃ e0 nx, tab = e0 :: nx ∧ e0.1 = 0) (hret : ret = none ∨ ret = some .int) : CtrY P l y cc maxL ret fr mc (yrun tab env (xrtk ret) mc K maxL) := by
  intro ad av S r S' hok h
  obtain ⟨hrun, hmc, hlen, hr0⟩ := yrun_inv h
  refine Met.ofW (cc := cc) (maxL := maxL) (ret := ret) hy rfl ?_
  intro p e s m args below meth c s₁ B hml hv
  obtain ⟨rfl, hP, hD, hV, hK, hA, ha1, ha2, hnw⟩ := hv
  have hown : s.vm.findClass y.cls = some m.cls := findClass_of_methodNamed B.named
  have hts : ∀ w ∈ xG, w.before (av.map (xc (yX P ad))).toArray s = true := fun w hw => atoms_spec (ws := Cond.code y cc maxL ret :: xG) B.pre w (List.mem_cons_of_mem _ hw)
  have hname : meth.name = y.name := (name_of_methodNamed B.named B.method).1
  have CC : YCt P p (headSpec (Cond.code y cc maxL ret :: xG) (yrm fr mc (ysl (S.1 + mc) - ysl S.1))).room s m (av.map (xc (yX P ad))).toArray meth c cc y maxL := ⟨B.exec, B.bytes, hml, hown, hts, hK, hA, hfr, (by show 100 ≤ 40 * fr + 100; omega), ⟨ha1, ha2, hnw⟩, hname⟩
  have hI : YI P ad s S s.heap [] := ⟨hP, hD, va_S.rf, hV⟩
  rw [lg_entry_eq]
  have hl := lv_entry (av.map (xc (yX P ad))) (n := maxL) (by rw [xargs_sl]; exact hlen)
  generalize (lg_sl (av.map (xc (yX P ad))) ++ List.replicate (maxL - (lg_sl (av.map (xc (yX P ad)))).length) Slot.unset).toArray = ls at hl ⊢
  have hLv : ∀ v, some v ∈ xlo av maxL → ylv S.1 v := by
    intro v hv
    rcases List.mem_append.mp hv with hv | hv
    · have : ∀ (av : List XV), (∀ v ∈ av, ylv S.1 v) → ∀ v, some v ∈ xargs av → ylv S.1 v := by
        intro av
        induction av with
        | nil => intro _ v h; cases h
        | cons w av ih =>
          intro h v hv
          have h2 := ih (fun v hv => h v (List.mem_cons_of_mem _ hv))
          have h1 := h w List.mem_cons_self
          rcases w with x | x | x
          · rcases List.mem_cons.mp hv with hv | hv
            · cases hv; trivial
            · exact h2 v hv
          · rcases List.mem_cons.mp hv with hv | hv
            · cases hv; trivial
            · rcases List.mem_cons.mp hv with hv | hv
              · cases hv
              · exact h2 v hv
          · rcases List.mem_cons.mp hv with hv | hv
            · cases hv; exact h1
            · exact h2 v hv
      exact this av hok v hv
    · exact absurd (List.eq_of_mem_replicate hv) (by simp)
  have hL : xloc (yX P ad) ls maxL (xlo av maxL) := by
    refine ⟨?_, by simp [xlo]; omega, fun v hv => ylv_ok (hLv v hv)⟩
    unfold xlo
    rw [xlv_app, xlv_repl, List.append_nil, xargs_lv]
    exact hl
  have hfin : YFin p l e (headSpec (Cond.code y cc maxL ret :: xG) (yrm fr mc (ysl (S.1 + mc) - ysl S.1))).room s m (av.map (xc (yX P ad))).toArray below meth c (MQ below (yQ P ad S r S') (av.map (xc (yX P ad))).toArray s mc (ysl (S.1 + mc) - ysl S.1) P.2.2) cc P ad S.1 (xrtk ret) r S' := by
    intro ad' H locs pc ls' hsz hag hI'
    rw [hmc, show S.1 + mc - S.1 = mc by omega]
    refine ⟨fun hrt hr hd => ?_, fun x hrt hr hd => ?_⟩
    · subst hr
      have hrn : ret = none := by
        rcases hret with rfl | rfl
        · rfl
        · exact absurd hrt (by decide)
      exact W.vret CC.1 CC.2.1 (by rw [B.returns]; exact hrn) (fun t ht hW => ⟨⟨ad', rfl, hag, by rw [ht]; exact hI'.1, hI'.2.1, hI'.2.2.2⟩, hI'.2.2.1.F ht⟩) hI'.2.2.1.2.2 hd (hlocks := B.notSynchronized)
    · subst hr
      have hrn : ret = some .int := by
        rcases hret with rfl | rfl
        · exact absurd hrt (by decide)
        · rfl
      exact W.iret CC.1 CC.2.1 (by rw [B.returns]; exact hrn) (fun t ht hW => ⟨⟨x, ad', rfl, ⟨rfl, hag⟩, by rw [ht]; exact hI'.1, hI'.2.1, hI'.2.2.2⟩, hI'.2.2.1.F ht⟩) hI'.2.2.1.2.2 hd (hlocks := B.notSynchronized)
  obtain ⟨e0, nx, htab, he0⟩ := h0
  have hrun2 : yex tab env (xrtk ret) (S.1 + mc) K (e0 :: nx) (xlo av maxL) [] S = some (r, S') := by rw [← htab]; exact hrun
  have := ys_body CC hT hoc hE (n0 := S.1) (cap := S.1 + mc) (ad0 := ad) ⟨by show S.1 + mc - S.1 ≤ mc; omega, Nat.le_refl _⟩ hfin K e0 nx [] htab ad (xlo av maxL) [] S s.heap [] ls hrun2 ⟨fun _ _ => rfl, Nat.le_refl _, by omega, hI, ⟨hL, hLv⟩, fun v h => absurd h List.not_mem_nil⟩
  rw [he0, Nat.sub_self, Nat.sub_self] at this
  exact this
