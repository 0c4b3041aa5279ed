/-! ONE ROW -/
-- the shapes, turned round
theorem cond_inv {α : Type} {b : Bool} {x : Option α} {o : α} (h : (bif b then x else none) = some o) : b = true ∧ x = some o := by
  cases b
  · cases h
  · exact ⟨rfl, h⟩
theorem xo1_inv {f : Int32 → XV} {k : List XV → XR} {st : List XV} {o : Option XV × XM} (h : xo1 f k st = some o) : ∃ x st', st = .inl x :: st' ∧ k (f x :: st') = some o := by
  unfold xo1 at h; split at h
  · exact ⟨_, _, rfl, h⟩
  · cases h
theorem xo1l_inv {f : Int64 → XV} {k : List XV → XR} {st : List XV} {o : Option XV × XM} (h : xo1l f k st = some o) : ∃ x st', st = .inr (.inl x) :: st' ∧ k (f x :: st') = some o := by
  unfold xo1l at h; split at h
  · exact ⟨_, _, rfl, h⟩
  · cases h
theorem xo2_inv {f : Int32 → Int32 → Int32} {k : List XV → XR} {st : List XV} {o : Option XV × XM} (h : xo2 f k st = some o) : ∃ x y st', st = .inl y :: .inl x :: st' ∧ k (xi (f x y) :: st') = some o := by
  unfold xo2 at h; split at h
  · exact ⟨_, _, _, rfl, h⟩
  · cases h
theorem xo2n_inv {f : Int32 → Int32 → Int32} {k : List XV → XR} {st : List XV} {o : Option XV × XM} (h : xo2n f k st = some o) : ∃ x y st', st = .inl y :: .inl x :: st' ∧ ¬ y = 0 ∧ k (xi (f x y) :: st') = some o := by
  unfold xo2n at h; split at h
  · rename_i y x st'
    by_cases hy : y = 0
    · rw [xite_t hy] at h; cases h
    · rw [xite_f hy] at h; exact ⟨_, _, _, rfl, hy, h⟩
  · cases h
theorem xo2l_inv {f : Int64 → Int64 → XV} {k : List XV → XR} {st : List XV} {o : Option XV × XM} (h : xo2l f k st = some o) : ∃ x y st', st = .inr (.inl y) :: .inr (.inl x) :: st' ∧ k (f x y :: st') = some o := by
  unfold xo2l at h; split at h
  · exact ⟨_, _, _, rfl, h⟩
  · cases h
theorem xo2ln_inv {f : Int64 → Int64 → Int64} {k : List XV → XR} {st : List XV} {o : Option XV × XM} (h : xo2ln f k st = some o) : ∃ x y st', st = .inr (.inl y) :: .inr (.inl x) :: st' ∧ ¬ y = 0 ∧ k (xl (f x y) :: st') = some o := by
  unfold xo2ln at h; split at h
  · rename_i y x st'
    by_cases hy : y = 0
    · rw [xite_t hy] at h; cases h
    · rw [xite_f hy] at h; exact ⟨_, _, _, rfl, hy, h⟩
  · cases h
theorem xo2s_inv {f : Int64 → Int32 → Int64} {k : List XV → XR} {st : List XV} {o : Option XV × XM} (h : xo2s f k st = some o) : ∃ x y st', st = .inl y :: .inr (.inl x) :: st' ∧ k (xl (f x y) :: st') = some o := by
  unfold xo2s at h; split at h
  · exact ⟨_, _, _, rfl, h⟩
  · cases h
theorem xldI_inv {L : XL} {a : Nat} {k : XV → XR} {o : Option XV × XM} (h : xldI L a k = some o) : ∃ x, L[a]? = some (some (xi x)) ∧ k (xi x) = some o := by
  unfold xldI at h; split at h
  · exact ⟨_, by assumption, h⟩
  · cases h
theorem xldL_inv {L : XL} {a : Nat} {k : XV → XR} {o : Option XV × XM} (h : xldL L a k = some o) : ∃ x, L[a]? = some (some (xl x)) ∧ k (xl x) = some o := by
  unfold xldL at h; split at h
  · exact ⟨_, by assumption, h⟩
  · cases h
theorem xldR_inv {L : XL} {a : Nat} {k : XV → XR} {o : Option XV × XM} (h : xldR L a k = some o) : ∃ x, L[a]? = some (some (.inr (.inr x))) ∧ k (.inr (.inr x)) = some o := by
  unfold xldR at h; split at h
  · exact ⟨_, by assumption, h⟩
  · cases h
theorem xstI_inv {L : XL} {a b : Nat} {k : XL → List XV → XR} {st : List XV} {o : Option XV × XM} (h : xstI L a b k st = some o) : ∃ x st', st = .inl x :: st' ∧ a < L.length ∧ xsk b a L = true ∧ k ((xdl b a L).set a (some (xi x))) st' = some o := by
  unfold xstI at h; split at h
  · rename_i h1; replace h := cond_inv h; obtain ⟨hk, h⟩ := h; rw [vI_eq] at h; exact ⟨_, _, rfl, (List.getElem?_eq_some_iff.mp h1).1, hk, h⟩
  · cases h
theorem xstR_inv {L : XL} {a b : Nat} {k : XL → List XV → XR} {st : List XV} {o : Option XV × XM} (h : xstR L a b k st = some o) : ∃ x st', st = .inr (.inr x) :: st' ∧ a < L.length ∧ xsk b a L = true ∧ k ((xdl b a L).set a (some (.inr (.inr x)))) st' = some o := by
  unfold xstR at h; split at h
  · rename_i h1; replace h := cond_inv h; obtain ⟨hk, h⟩ := h; exact ⟨_, _, rfl, (List.getElem?_eq_some_iff.mp h1).1, hk, h⟩
  · cases h
theorem xstL_inv {L : XL} {a b : Nat} {k : XL → List XV → XR} {st : List XV} {o : Option XV × XM} (h : xstL L a b k st = some o) : ∃ x st', st = .inr (.inl x) :: st' ∧ a + 1 < L.length ∧ xsk b a L = true ∧ k (((xdl b a L).set (a + 1) none).set a (some (xl x))) st' = some o := by
  unfold xstL at h; split at h
  · rename_i h1; replace h := cond_inv h; obtain ⟨hk, h⟩ := h; rw [vL_eq] at h; exact ⟨_, _, rfl, (List.getElem?_eq_some_iff.mp h1).1, hk, h⟩
  · cases h
theorem xinc_inv {L : XL} {a : Nat} {c : Int32} {k : XL → XR} {o : Option XV × XM} (h : xinc L a c k = some o) : ∃ x, L[a]? = some (some (xi x)) ∧ xsk 0 a L = true ∧ k (L.set a (some (xi (x + c)))) = some o := by
  unfold xinc at h; split at h
  · rename_i h1; replace h := cond_inv h; obtain ⟨hk, h⟩ := h; rw [vI_eq] at h; exact ⟨_, h1, hk, h⟩
  · cases h
theorem xdup_inv {k : List XV → XR} {st : List XV} {o : Option XV × XM} (h : xdup k st = some o) : ∃ v st', st = v :: st' ∧ xcat v = 1 ∧ k (v :: v :: st') = some o := by
  unfold xdup at h; split at h
  · exact ⟨_, _, rfl, rfl, h⟩
  · exact ⟨_, _, rfl, rfl, h⟩
  · cases h
theorem xdup2_inv {k : List XV → XR} {st : List XV} {o : Option XV × XM} (h : xdup2 k st = some o) : ∃ v w st', st = v :: w :: st' ∧ xcat v = 1 ∧ xcat w = 1 ∧ k (v :: w :: v :: w :: st') = some o := by
  unfold xdup2 at h; split at h
  · exact ⟨_, _, _, rfl, rfl, rfl, h⟩
  · cases h
theorem xpp_inv {k : List XV → XR} {st : List XV} {o : Option XV × XM} (h : xpp k st = some o) : ∃ v st', st = v :: st' ∧ xcat v = 1 ∧ k st' = some o := by
  unfold xpp at h; split at h
  · exact ⟨_, _, rfl, rfl, h⟩
  · exact ⟨_, _, rfl, rfl, h⟩
  · cases h
-- the tables
def xln : Instr → Nat
  | .bipush _ => 2 | .iload _ => 2 | .lload _ => 2 | .aload _ => 2 | .istore _ => 2 | .lstore _ => 2 | .astore _ => 2 | .ldc _ => 2
  | .sipush _ => 3 | .ldc_w _ => 3 | .ldc2_w _ => 3 | .iinc _ _ => 3 | .ifCond _ _ => 3 | .if_icmp _ _ => 3 | .ifnull _ => 3 | .ifnonnull _ => 3 | .goto _ => 3
  | .getfield _ => 3 | .putfield _ => 3 | .invokevirtual _ => 3 | .invokestatic _ => 3 | .invokespecial _ => 3 | .new _ => 3 | .tableswitch _ _ _ _ => 0 | .lookupswitch _ _ => 0
  | _ => 1
def xsb (x : Int) (y : Nat) : Bool := decide (x = (y : Int))
def xau (own : String) (nw : Bool) (fl : List (Nat × Nat × Nat)) (cl : List (Nat × Int32)) (ll : List (Nat × Int64)) (jl : List (Nat × Nat)) (pc : Nat) (ins : Instr) (a b : Nat) (c : Int32) (d : Int64) (sw : List (Int32 × Nat)) : Bool := match ins with
  | .iconst n => decide (Int32.ofInt n = c)
  | .bipush n => decide ((Int8.ofInt n).toInt32 = c)
  | .sipush n => decide ((Int16.ofInt n).toInt32 = c)
  | .ldc i => (match b with | 0 => decide ((i, c) ∈ cl) | _ + 1 => decide (a < 2) && decide ((xstrT[a]?).map (fun q => (q.1, q.2.1)) = some (own, i)))
  | .ldc_w i => decide ((i, c) ∈ cl)
  | .lconst k => decide (Int64.ofNat (k : Nat) = d)
  | .ldc2_w i => decide ((i, d) ∈ ll)
  | .iload_n k => decide ((k : Nat) = a) | .lload_n k => decide ((k : Nat) = a) | .aload_n k => decide ((k : Nat) = a)
  | .istore_n k => decide ((k : Nat) = a) | .lstore_n k => decide ((k : Nat) = a) | .astore_n k => decide ((k : Nat) = a)
  | .iload k => decide (k = a) | .lload k => decide (k = a) | .aload k => decide (k = a)
  | .istore k => decide (k = a) | .lstore k => decide (k = a) | .astore k => decide (k = a)
  | .iinc k n => decide (k = a) && decide (Int32.ofInt n = c)
  | .getfield i => decide ((i, a, b) ∈ fl)
  | .putfield i => decide ((i, a, b) ∈ fl)
  | .goto off => xsb ((pc : Int) + off) a
  | .ifCond _ off => xsb ((pc : Int) + off) a
  | .if_icmp _ off => xsb ((pc : Int) + off) a
  | .ifnull off => xsb ((pc : Int) + off) a
  | .ifnonnull off => xsb ((pc : Int) + off) a
  | .tableswitch df lo hi offs => xsb ((pc : Int) + df) a && sw.all (fun q => decide (lo ≤ q.1.toInt) && decide (q.1.toInt ≤ hi) && decide (offs[(q.1.toInt - lo).toNat]? = some ((q.2 : Int) - pc))) && (List.range (hi - lo + 1).toNat).all (fun k => sw.any (fun q => decide (q.1.toInt = lo + k)))
  | .lookupswitch df ps => xsb ((pc : Int) + df) a && (ps.toList.zip (ps.toList.drop 1)).all (fun (x, next) => decide (x.1 < next.1)) && decide (ps.toList = sw.map (fun q => (q.1.toInt, (q.2 : Int) - pc)))
  | .new _ => nw
  | .invokestatic i => (match b with | 0 => true | b' + 1 => decide ((i, b' + 1) ∈ jl))
  | .invokevirtual _ => decide (b ≠ 99)
  | _ => true
/-- the pc behind a row, if the row is as the table says -/
def xnx (own : String) (cc : ByteArray) (nw : Bool) (fl : List (Nat × Nat × Nat)) (cl : List (Nat × Int32)) (ll : List (Nat × Int64)) (jl : List (Nat × Nat)) (e : XE) : Option Nat :=
  if e.2.1 = .nop then some e.1 else
  match decode cc e.1 with
  | .ok (i, n) => bif decide (i = e.2.1) && (Nat.beq (xln i) n || Nat.beq (xln i) 0) && xau own nw fl cl ll jl e.1 e.2.1 e.2.2.1 e.2.2.2.1 e.2.2.2.2.1 e.2.2.2.2.2.1 e.2.2.2.2.2.2 then some (e.1 + n) else none
  | _ => none
def xwf (nx : XE → Option Nat) : List XE → Bool
  | [] => true
  | e :: l => (match nx e, l with | some _, [] => true | some n, e' :: _ => Nat.beq n e'.1 | none, _ => false) && xwf nx l
theorem xwf_at {nx : XE → Option Nat} : ∀ {tab pre : List XE} {e : XE} {suf : List XE}, xwf nx tab = true → tab = pre ++ e :: suf → ∃ n, nx e = some n ∧ ∀ e' suf', suf = e' :: suf' → n = e'.1 := by
  intro tab pre
  induction pre generalizing tab with
  | nil =>
    intro e suf h htab
    subst htab
    simp only [List.nil_append, xwf, Bool.and_eq_true] at h
    cases hn : nx e with
    | none => rw [hn] at h; simp at h
    | some n =>
      refine ⟨n, rfl, fun e' suf' hs => ?_⟩
      subst hs
      rw [hn] at h
      exact Nat.eq_of_beq_eq_true h.1
  | cons a pre ih =>
    intro e suf h htab
    subst htab
    simp only [List.cons_append, xwf, Bool.and_eq_true] at h
    exact ih h.2 rfl
def xtab (own : String) (cc : ByteArray) (nw : Bool) (fl : List (Nat × Nat × Nat)) (cl : List (Nat × Int32)) (ll : List (Nat × Int64)) (jl : List (Nat × Nat)) (tab : List XE) : Prop :=
  xwf (xnx own cc nw fl cl ll jl) tab = true ∧ (∀ q ∈ fl, xfl own q) ∧ (∀ q ∈ cl, Cond.constant own q.1 q.2 ∈ xG) ∧ (∀ q ∈ ll, Cond.constantLong own q.1 q.2 ∈ xG) ∧ (∀ q ∈ jl, xjd own q)
theorem xseek_at : ∀ (tab : List XE) (a : Nat), xseek a tab = [] ∨ ∃ pre e nx, tab = pre ++ e :: nx ∧ xseek a tab = e :: nx ∧ e.1 = a := by
  intro tab a
  induction tab with
  | nil => exact Or.inl rfl
  | cons e l ih =>
    have hx : xseek a (e :: l) = bif Nat.beq e.1 a then e :: l else xseek a l := rfl
    cases hb : Nat.beq e.1 a
    · rw [hb] at hx
      replace hx : xseek a (e :: l) = xseek a l := hx
      rcases ih with h | ⟨pre, e', nx, h1, h2, h3⟩
      · exact Or.inl (hx.trans h)
      · exact Or.inr ⟨e :: pre, e', nx, by rw [h1]; rfl, hx.trans h2, h3⟩
    · rw [hb] at hx
      exact Or.inr ⟨[], e, l, rfl, hx, Nat.eq_of_beq_eq_true hb⟩
theorem xfind_mem {a : Nat} {l : XN} {q : Nat × Nat × Nat × XF} (h : xfind a l = some q) : (a, q) ∈ l := by
  induction l with
  | nil => cases h
  | cons e l ih =>
    have hx : xfind a (e :: l) = bif Nat.beq e.1 a then some e.2 else xfind a l := rfl
    rw [hx] at h
    cases hb : Nat.beq e.1 a
    · rw [hb] at h
      exact List.mem_cons_of_mem _ (ih h)
    · rw [hb] at h
      replace h : some e.2 = some q := h
      have h1 := Nat.eq_of_beq_eq_true hb
      have h2 := Option.some.inj h
      rw [← h1, ← h2]
      exact List.mem_cons_self
theorem xsw_inv {K : Nat → XR} {x : Int32} {d : Nat} {sw : List (Int32 × Nat)} {o : Option XV × XM} (h : xsw K x d sw = some o) : (∃ q ∈ sw, x = q.1 ∧ K q.2 = some o) ∨ ((∀ q ∈ sw, x ≠ q.1) ∧ K d = some o) := by
  induction sw with
  | nil => exact Or.inr ⟨fun _ h => absurd h List.not_mem_nil, h⟩
  | cons a sw ih =>
    obtain ⟨v, t⟩ := a
    unfold xsw at h
    by_cases hv : x = v
    · rw [xite_t hv] at h
      exact Or.inl ⟨_, List.mem_cons_self, hv, h⟩
    · rw [xite_f hv] at h
      rcases ih h with ⟨q, h1, h2⟩ | ⟨h1, h2⟩
      · exact Or.inl ⟨q, List.mem_cons_of_mem _ h1, h2⟩
      · exact Or.inr ⟨fun q hq => (List.mem_cons.mp hq).elim (fun z => by rw [z]; exact hv) (h1 q), h2⟩
theorem xlook {pc : Nat} {x : Int32} {df : Int} : ∀ {sw : List (Int32 × Nat)} {K : Nat → XR} {d : Nat} {o : Option XV × XM}, (pc : Int) + df = (d : Int) → xsw K x d sw = some o → ∃ t : Nat, K t = some o ∧ (pc : Int) + Op.lookupswitch.offset (sw.map (fun q => (q.1.toInt, (q.2 : Int) - pc))) df x.toInt = (t : Int) := by
  intro sw
  induction sw with
  | nil => intro K d o hd h; exact ⟨d, h, by rw [← hd]; rfl⟩
  | cons a sw ih =>
    intro K d o hd h
    obtain ⟨v, t⟩ := a
    unfold xsw at h
    by_cases hv : x = v
    · rw [xite_t hv] at h
      refine ⟨t, h, ?_⟩
      subst hv
      simp [Op.lookupswitch.offset]
      omega
    · rw [xite_f hv] at h
      obtain ⟨t', h1, h2⟩ := ih hd h
      refine ⟨t', h1, ?_⟩
      rw [List.map_cons, lv_osw (k := v) hv rfl]
      exact h2
