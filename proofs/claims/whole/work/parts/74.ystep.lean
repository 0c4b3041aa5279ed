/-! THE MAKING: one row is sound, a body, a contract -/
def yln : Instr → Nat
  | .bipush _ => 2 | .iload _ => 2 | .istore _ => 2 | .newarray _ => 2
  | .sipush _ => 3 | .ldc2_w _ => 3 | .iinc _ _ => 3 | .if_icmp _ _ => 3 | .goto _ => 3
  | .getfield _ => 3 | .putfield _ => 3 | .invokevirtual _ => 3 | .invokespecial _ => 3 | .new _ => 3 | .anewarray _ => 3
  | _ => 1
def yint (a b : Nat) : Bool := match (xlay a)[b]? with | some (.inl 0) => true | _ => false
def yat (t : ArrayType) : Nat := match t with | .int => 0 | .long => 1 | .char => 2 | .boolean => 3 | _ => 9
def yau (oc : Nat) (ol : List Nat) (fl : List (Nat × Nat × Nat)) (ll : List (Nat × Int64)) (nl ql : List (Nat × Nat)) (pc : Nat) (ins : Instr) (a b : Nat) (c : Int32) (d : Int64) : Bool := match ins with
  | .iconst n => decide (Int32.ofInt n = c)
  | .bipush n => decide ((Int8.ofInt n).toInt32 = c)
  | .sipush n => decide ((Int16.ofInt n).toInt32 = c)
  | .ldc2_w i => decide ((i, d) ∈ ll)
  | .iload_n k => decide ((k : Nat) = a) | .aload_n k => decide ((k : Nat) = a)
  | .istore_n k => decide ((k : Nat) = a) | .astore_n k => decide ((k : Nat) = a)
  | .iload k => decide (k = a) | .istore k => decide (k = a)
  | .iinc k n => decide (k = a) && decide (Int32.ofInt n = c)
  | .getfield i => decide ((i, a, b) ∈ fl)
  | .putfield i => decide ((i, a, b) ∈ fl) && (Nat.beq a oc || yint a b)
  | .goto off => xsb ((pc : Int) + off) a
  | .if_icmp _ off => xsb ((pc : Int) + off) a
  | .new i => decide ((i, a) ∈ nl)
  | .newarray t => Nat.beq (yat t) a && Nat.ble a 3
  | .anewarray i => decide ((i, a) ∈ ql) && (Nat.beq a 4 || Nat.beq a 5)
  | .invokespecial i => (match b with | 98 => decide (i ∈ ol) | _ => Nat.ble (i + 1) 100000)
  | _ => true
def ynx (cc : ByteArray) (oc : Nat) (ol : List Nat) (fl : List (Nat × Nat × Nat)) (ll : List (Nat × Int64)) (nl ql : List (Nat × Nat)) (e : XE) : Option Nat :=
  match decode cc e.1 with
  | .ok (i, n) => bif decide (i = e.2.1) && (Nat.beq (yln i) n && yau oc ol fl ll nl ql e.1 e.2.1 e.2.2.1 e.2.2.2.1 e.2.2.2.2.1 e.2.2.2.2.2.1) then some (e.1 + n) else none
  | _ => none
def yqr (kd : Nat) : String := if kd = 4 then xR8 else xR5
def ytab (y : MethodName) (cc : ByteArray) (oc : Nat) (ol : List Nat) (fl : List (Nat × Nat × Nat)) (ll : List (Nat × Int64)) (nl ql : List (Nat × Nat)) (tab : List XE) : Prop :=
  xwf (ynx cc oc ol fl ll nl ql) tab = true ∧ (∀ i ∈ ol, Cond.methodLink y.cls i Lib.objectInit ∈ xG) ∧ (∀ q ∈ fl, xfl y.cls q) ∧ (∀ q ∈ ll, Cond.constantLong y.cls q.1 q.2 ∈ xG) ∧ (∀ q ∈ nl, ynw y.cls q.1 q.2) ∧ (∀ q ∈ ql, Cond.classLink y.cls q.1 (yqr q.2) ∈ xG) ∧ (oc ≠ 99 → y.name = "<init>" ∧ (xcl[oc]?).map (fun q => q.1) = some y.cls)
theorem ycond {α : Type} {b : Bool} {x : Option α} {o : α} (h : (bif b then x else none) = some o) : b = true ∧ x = some o := by
  cases b
  · cases h
  · exact ⟨rfl, h⟩
theorem yldI_inv {L : XL} {a : Nat} {k : XV → YR} {o : Option XV × YS} (h : yldI L a k = some o) : ∃ x, L[a]? = some (some (xi x)) ∧ k (xi x) = some o := by
  unfold yldI at h; split at h
  · exact ⟨_, by assumption, h⟩
  · cases h
theorem yldR_inv {L : XL} {a : Nat} {k : XV → YR} {o : Option XV × YS} (h : yldR L a k = some o) : ∃ x, L[a]? = some (some (.inr (.inr x))) ∧ k (.inr (.inr x)) = some o := by
  unfold yldR at h; split at h
  · exact ⟨_, by assumption, h⟩
  · cases h
theorem ystI_inv {L : XL} {a : Nat} {k : XL → List XV → YR} {st : List XV} {o : Option XV × YS} (h : ystI L a k st = some o) : ∃ x st', st = .inl x :: st' ∧ a < L.length ∧ xsk 0 a L = true ∧ k (L.set a (some (xi x))) st' = some o := by
  unfold ystI at h; split at h
  · rename_i h1; replace h := ycond h; exact ⟨_, _, rfl, (List.getElem?_eq_some_iff.mp h1).1, h.1, h.2⟩
  · cases h
theorem ystR_inv {L : XL} {a : Nat} {k : XL → List XV → YR} {st : List XV} {o : Option XV × YS} (h : ystR L a k st = some o) : ∃ x st', st = .inr (.inr x) :: st' ∧ a < L.length ∧ xsk 0 a L = true ∧ k (L.set a (some (.inr (.inr x)))) st' = some o := by
  unfold ystR at h; split at h
  · rename_i h1; replace h := ycond h; exact ⟨_, _, rfl, (List.getElem?_eq_some_iff.mp h1).1, h.1, h.2⟩
  · cases h
theorem yinc_inv {L : XL} {a : Nat} {c : Int32} {k : XL → YR} {o : Option XV × YS} (h : yinc L a c k = some o) : ∃ x, L[a]? = some (some (xi x)) ∧ xsk 0 a L = true ∧ k (L.set a (some (xi (x + c)))) = some o := by
  unfold yinc at h; split at h
  · rename_i h1; replace h := ycond h; exact ⟨_, h1, h.1, h.2⟩
  · cases h
theorem ylv_set {n a : Nat} {L : XL} {v : XV} (hL : ∀ v, some v ∈ L → ylv n v) (hv : ylv n v) : ∀ w, some w ∈ L.set a (some v) → ylv n w := by
  intro w hw
  rcases List.mem_or_eq_of_mem_set hw with h | h
  · exact hL w h
  · cases h; exact hv
theorem yfind_mem {a : Nat} {l : YN} {q : Nat × Nat × Nat × YF} (h : yfind a l = some q) : (a, q) ∈ l := by
  induction l with
  | nil => cases h
  | cons e l ih =>
    have hx : yfind a (e :: l) = bif Nat.beq e.1 a then some e.2 else yfind a l := rfl
    rw [hx] at h
    cases hb : Nat.beq e.1 a
    · rw [hb] at h
      exact List.mem_cons_of_mem _ (ih h)
    · rw [hb] at h
      replace h : some e.2 = some q := h
      have h1 := Nat.eq_of_beq_eq_true hb
      have h2 := Option.some.inj h
      rw [← h1, ← h2]
      exact List.mem_cons_self
theorem ycall_inv {env : YN} {cap idx a b : Nat} {k : List XV → YS → YR} {st : List XV} {S : YS} {o : Option XV × YS} (h : ycall env cap idx a b k st S = some o) :
    ∃ bs i rest mc F r S', st = bs.reverse ++ xr b i 0 :: rest ∧ bs.length + 1 = a ∧ xsum rest ≤ 8 ∧ (idx, a, b, mc, F) ∈ env ∧ S.1 + mc ≤ cap ∧ F (xr b i 0 :: bs) S = some (r, S') ∧ (∀ q, r ≠ some (.inr q)) ∧ k (r.toList ++ rest) S' = some o := by
  unfold ycall at h
  split at h
  · rename_i t i as rest hp
    replace h := ycond h
    obtain ⟨h1, h⟩ := h
    rw [Bool.and_eq_true] at h1
    have e0 := Nat.eq_of_beq_eq_true h1.1
    subst e0
    have hsum := Nat.le_of_ble_eq_true h1.2
    split at h
    · rename_i na tg mc F hf
      replace h := ycond h
      obtain ⟨h2, h⟩ := h
      rw [Bool.and_eq_true, Bool.and_eq_true] at h2
      have e1 := Nat.eq_of_beq_eq_true h2.1
      have e2 := (Nat.eq_of_beq_eq_true h2.2.1).symm
      subst e1; subst e2
      have hcap := Nat.le_of_ble_eq_true h2.2.2
      obtain ⟨bs, g1, g2, g3⟩ := xpop_some _ _ _ _ _ hp
      rw [List.append_nil] at g1
      subst g1
      have hst : st = as.reverse ++ xr t i 0 :: rest := by rw [g3]; simp
      have hlen : as.length + 1 = na := by simpa using g2
      split at h
      · rename_i hF; exact ⟨as, i, rest, mc, F, _, _, hst, hlen, hsum, yfind_mem hf, hcap, hF, (fun q z => by cases z), h⟩
      · rename_i hF; exact ⟨as, i, rest, mc, F, _, _, hst, hlen, hsum, yfind_mem hf, hcap, hF, (fun q z => by cases z), h⟩
      · cases h
    · cases h
  · cases h
/-- a method's ends -/
def YFin (p : Program) (l : Launch) (e : Env) (R : Room) (s : State) (m : MethodId) (args : Array Value) (below : List Frame) (meth : Method) (c : Code) (Z : State → Prop) (cc : ByteArray) (P : YP) (ad0 : XQ → Nat) (n0 rt : Nat) (r : Option XV) (Sr : YS) : Prop :=
  ∀ (ad : XQ → Nat) (H : Heap) (locs : List Loc) (pc : Nat) (ls : Array Slot), ls.size = c.maxLocals → (∀ q ∈ ynl.take n0, ad q = ad0 q) → YI P ad s Sr H locs →
    (rt = 0 → r = none → decode cc pc = .ok (.return_, 1) → W p l e R s m args below meth c H locs (Sr.1 - n0) (ysl Sr.1 - ysl n0) Z (F0 m pc ls [])) ∧
    (∀ x, rt = 1 → r = some (xi x) → decode cc pc = .ok (.ireturn, 1) → W p l e R s m args below meth c H locs (Sr.1 - n0) (ysl Sr.1 - ysl n0) Z (F0 m pc ls [.int x]))
/-- where a body stands -/
def YG (P : YP) (s : State) (ad0 : XQ → Nat) (n0 cap nL : Nat) (ad : XQ → Nat) (S : YS) (H : Heap) (locs : List Loc) (ls : Array Slot) (L : XL) (st : List XV) : Prop :=
  (∀ q ∈ ynl.take n0, ad q = ad0 q) ∧ n0 ≤ S.1 ∧ S.1 ≤ cap ∧ YI P ad s S H locs ∧ yloc P ad S.1 ls nL L ∧ ∀ v ∈ st, ylv S.1 v
theorem ylc {n : Nat} {v : XV} {st : List XV} (h : ylv n v) (hs : ∀ w ∈ st, ylv n w) : ∀ w ∈ v :: st, ylv n w := List.forall_mem_cons.mpr ⟨h, hs⟩
theorem ylt {n : Nat} {v : XV} {st : List XV} (hs : ∀ w ∈ v :: st, ylv n w) : ∀ w ∈ st, ylv n w := (List.forall_mem_cons.mp hs).2
theorem ylh {n : Nat} {v : XV} {st : List XV} (hs : ∀ w ∈ v :: st, ylv n w) : ylv n v := (List.forall_mem_cons.mp hs).1
theorem ylv_m {n m : Nat} (h : n ≤ m) {st : List XV} (hs : ∀ v ∈ st, ylv n v) : ∀ v ∈ st, ylv m v := fun v hv => ylv_le h (hs v hv)
set_option maxHeartbeats 4000000 in
theorem ys_step {p : Program} {l : Launch} {e : Env} {R : Room} {s : State} {m : MethodId} {args : Array Value} {below : List Frame} {meth : Method} {c : Code} {Z : State → Prop} {cc : ByteArray} {y : MethodName} {P : YP} {nL : Nat}
    (C : YCt P p R s m args meth c cc y nL) {tab : List XE} {env : YN} {rt n0 cap oc : Nat} {ad0 : XQ → Nat} {ol : List Nat} {fl : List (Nat × Nat × Nat)} {ll : List (Nat × Int64)} {nl ql : List (Nat × Nat)} (hT : ytab y cc oc ol fl ll nl ql tab) (hoc : oc < 13 ∨ oc = 99)
    (hE : ∀ q ∈ env, ycal P l R.frames R.locals y.cls q) (hcap : cap - n0 ≤ R.cells ∧ ysl cap - ysl n0 ≤ R.slots) {r : Option XV} {Sr : YS}
    (hF : YFin p l e R s m args below meth c Z cc P ad0 n0 rt r Sr) {rec : YK}
    (hnil : ∀ L st S, rec [] L st S = none)
    (hrec : ∀ (e' : XE) (nx pre : List XE), tab = pre ++ e' :: nx → ∀ ad L st S H locs ls, rec (e' :: nx) L st S = some (r, Sr) → YG P s ad0 n0 cap nL ad S H locs ls L st → W p l e R s m args below meth c H locs (S.1 - n0) (ysl S.1 - ysl n0) Z (F0 m e'.1 ls (st.map (xc (yX P ad)))))
    {e0 : XE} {nx pre : List XE} (htab : tab = pre ++ e0 :: nx) {ad : XQ → Nat} {L : XL} {st : List XV} {S : YS} {H : Heap} {locs : List Loc} {ls : Array Slot} (h : ystep tab env rt cap rec (e0 :: nx) L st S = some (r, Sr)) (hg : YG P s ad0 n0 cap nL ad S H locs ls L st) :
    W p l e R s m args below meth c H locs (S.1 - n0) (ysl S.1 - ysl n0) Z (F0 m e0.1 ls (st.map (xc (yX P ad)))) := by
  obtain ⟨pc, ins, a, b, c0, d, sw⟩ := e0
  obtain ⟨hg1, hg2, hg3, hI, ⟨hL, hLl⟩, hst⟩ := hg
  have hls : ls.size = nL := hL.1.1
  have hnL : L.length = nL := hL.2.1
  obtain ⟨n1, hn1, hnx⟩ := xwf_at hT.1 htab
  obtain ⟨n, hd, hln, hau, hnn⟩ : ∃ n, decode cc pc = .ok (ins, n) ∧ yln ins = n ∧ yau oc ol fl ll nl ql pc ins a b c0 d = true ∧ pc + n = n1 := by
    unfold ynx at hn1
    cases hd : decode cc pc with
    | error z => rw [hd] at hn1; cases hn1
    | ok z =>
      obtain ⟨i, n⟩ := z
      rw [hd] at hn1
      replace hn1 := ycond hn1
      obtain ⟨h1, h2⟩ := hn1
      rw [Bool.and_eq_true, Bool.and_eq_true] at h1
      have e1 := of_decide_eq_true h1.1
      dsimp only at e1 h2
      subst e1
      exact ⟨n, rfl, Nat.eq_of_beq_eq_true h1.2.1, h1.2.2, Option.some.inj h2⟩
  have hnext : ∀ {n : Nat}, pc + n = n1 → ∀ {ad' : XQ → Nat} {L' : XL} {st' : List XV} {S' : YS} {H' : Heap} {locs' : List Loc} {ls' : Array Slot}, rec nx L' st' S' = some (r, Sr) → YG P s ad0 n0 cap nL ad' S' H' locs' ls' L' st' → W p l e R s m args below meth c H' locs' (S'.1 - n0) (ysl S'.1 - ysl n0) Z (F0 m (pc + n) ls' (st'.map (xc (yX P ad')))) := by
    intro n hn ad' L' st' S' H' locs' ls' h1 h2
    cases nx with
    | nil => rw [hnil] at h1; cases h1
    | cons e' nx' =>
      rw [hn, hnx e' nx' rfl]
      exact hrec e' nx' (pre ++ [(pc, ins, a, b, c0, d, sw)]) (by rw [htab]; simp) _ _ _ _ _ _ _ h1 h2
  have hjump : ∀ {t : Nat} {L' : XL} {st' : List XV}, rec (xseek t tab) L' st' S = some (r, Sr) → YG P s ad0 n0 cap nL ad S H locs ls L' st' → W p l e R s m args below meth c H locs (S.1 - n0) (ysl S.1 - ysl n0) Z (F0 m t ls (st'.map (xc (yX P ad)))) := by
    intro t L' st' h1 h2
    rcases xseek_at tab t with h6 | ⟨pre', e', nx', h6, h7, h8⟩
    · rw [h6, hnil] at h1; cases h1
    · rw [h7] at h1
      rw [← h8]
      exact hrec e' nx' pre' h6 _ _ _ _ _ _ _ h1 h2
  have hx := C.1
  have hbb := C.2.1
  have hml := C.2.2.1
  have hown := C.2.2.2.1
  have hts := C.2.2.2.2.1
  have hfr : 1 ≤ R.frames := C.2.2.2.2.2.2.2.1
  have hlo : 100 ≤ R.locals := C.2.2.2.2.2.2.2.2.1
  have hmls : c.maxLocals = ls.size := by rw [hml, hls]
  -- the same place, another stack or other locals
  have G : ∀ {L' : XL} {st' : List XV} {ls' : Array Slot}, xloc (yX P ad) ls' nL L' → (∀ v, some v ∈ L' → ylv S.1 v) → (∀ v ∈ st', ylv S.1 v) → YG P s ad0 n0 cap nL ad S H locs ls' L' st' := fun h1 h2 h3 => ⟨hg1, hg2, hg3, hI, ⟨h1, h2⟩, h3⟩
  have Gm : ∀ {μ' : XM} {ρ' : XQ → Nat → Bool} {H' : Heap} {locs' : List Loc} {st' : List XV}, YI P ad s (S.1, μ', ρ') H' locs' → (∀ v ∈ st', ylv S.1 v) → YG P s ad0 n0 cap nL ad (S.1, μ', ρ') H' locs' ls L st' := fun h1 h2 => ⟨hg1, hg2, hg3, h1, ⟨hL, hLl⟩, h2⟩
  have Hm : ∀ {n : Nat}, pc + n = n1 → ∀ {μ' : XM} {ρ' : XQ → Nat → Bool} {H' : Heap} {locs' : List Loc} {st' : List XV}, rec nx L st' (S.1, μ', ρ') = some (r, Sr) → YI P ad s (S.1, μ', ρ') H' locs' → (∀ v ∈ st', ylv S.1 v) → W p l e R s m args below meth c H' locs' (S.1 - n0) (ysl S.1 - ysl n0) Z (F0 m (pc + n) ls (st'.map (xc (yX P ad)))) := by
    intro n hn μ' ρ' H' locs' st' h1 h2 h3
    exact hnext (S' := (S.1, μ', ρ')) hn h1 (Gm h2 h3)
  -- a cell more
  have Gn : ∀ {q : XQ} {ad1 : Nat} {H1 : Heap} {st' : List XV}, ynl[S.1]? = some q → S.1 + 1 ≤ cap → YI P (yad ad q ad1) s (S.1 + 1, S.2) H1 locs → (∀ v ∈ st', ylv S.1 v) → YG P s ad0 n0 cap nL (yad ad q ad1) (S.1 + 1, S.2) H1 locs ls L (.inr (.inr (some q)) :: st') ∧ (st'.map (xc (yX P (yad ad q ad1))) = st'.map (xc (yX P ad))) := by
    intro q ad1 H1 st' hq hc1 hI1 hs
    have hno := ytk_no hq
    have hag : ∀ q' ∈ ynl.take S.1, yad ad q ad1 q' = ad q' := fun q' h => yad_n (fun e => hno (e ▸ h))
    exact ⟨⟨fun q' hq' => (hag q' (ytk_le hg2 hq')).trans (hg1 q' hq'), Nat.le_succ_of_le hg2, hc1, hI1, yloc_ad (Nat.le_succ _) hag ⟨hL, hLl⟩, ylc (ytk_new hq) (ylv_m (Nat.le_succ _) hs)⟩, xmap_ad hag hs⟩
  have hroom : ∀ {q : XQ}, ynl[S.1]? = some q → S.1 + 1 ≤ cap → (S.1 - n0 + 1 ≤ R.cells ∧ ysl S.1 - ysl n0 + yslt q ≤ R.slots) ∧ (S.1 - n0 + 1 = S.1 + 1 - n0 ∧ ysl S.1 - ysl n0 + yslt q = ysl (S.1 + 1) - ysl n0) := by
    intro q hq hc1
    have k1 := ysl_succ hq
    have k2 := ysl_le hc1
    have k3 := ysl_le hg2
    omega
  cases ins with
  | iconst n0' =>
    simp only [ystep] at h
    obtain rfl : n = 1 := by simp only [yln] at hln; omega
    exact lv_iconst hx hbb hd (of_decide_eq_true hau) (hnext hnn h (G hL hLl (ylc trivial hst)))
  | bipush n0' =>
    simp only [ystep] at h
    obtain rfl : n = 2 := by simp only [yln] at hln; omega
    exact lv_bipush hx hbb hd (of_decide_eq_true hau) (hnext hnn h (G hL hLl (ylc trivial hst)))
  | sipush n0' =>
    simp only [ystep] at h
    obtain rfl : n = 3 := by simp only [yln] at hln; omega
    exact lv_sipush hx hbb hd (of_decide_eq_true hau) (hnext hnn h (G hL hLl (ylc trivial hst)))
  | ldc2_w i0 =>
    simp only [ystep] at h
    obtain rfl : n = 3 := by simp only [yln] at hln; omega
    exact lv_ldc2 hx hbb hown (hts _ (hT.2.2.2.1 _ (of_decide_eq_true hau))) hd (hnext hnn h (G hL hLl (ylc trivial hst)))
  | iload_n k0 =>
    simp only [ystep] at h
    obtain rfl : n = 1 := by simp only [yln] at hln; omega
    obtain ⟨x, h1, h⟩ := yldI_inv h
    exact lv_iload_n hx hbb hd (of_decide_eq_true hau) (xloc_get hL h1) (hnext hnn h (G hL hLl (ylc trivial hst)))
  | iload k0 =>
    simp only [ystep] at h
    obtain rfl : n = 2 := by simp only [yln] at hln; omega
    obtain rfl : k0 = a := of_decide_eq_true hau
    obtain ⟨x, h1, h⟩ := yldI_inv h
    exact lv_iload hx hbb hd (xloc_get hL h1) (hnext hnn h (G hL hLl (ylc trivial hst)))
  | aload_n k0 =>
    simp only [ystep] at h
    obtain rfl : n = 1 := by simp only [yln] at hln; omega
    obtain ⟨x, h1, h⟩ := yldR_inv h
    rcases x with _ | q
    · exact lv_aload_nN hx hbb hd (of_decide_eq_true hau) (xloc_get hL h1) (hnext hnn h (G hL hLl (ylc trivial hst)))
    · exact lv_aload_n hx hbb hd (of_decide_eq_true hau) (xloc_get hL h1) (hnext hnn h (G hL hLl (ylc (hLl _ (List.mem_of_getElem? h1)) hst)))
  | istore_n k0 =>
    simp only [ystep] at h
    obtain rfl : n = 1 := by simp only [yln] at hln; omega
    obtain ⟨x, st', rfl, h1, hk, h⟩ := ystI_inv h
    rw [hnL] at h1
    exact lv_istore_n hx hbb hd (of_decide_eq_true hau) hL.1 h1 rfl (fun ls' h2 => hnext hnn h (G (xloc_st1 (b := 0) (v := xi x) hk hL h1 trivial h2) (ylv_set hLl trivial) (ylt hst)))
  | istore k0 =>
    simp only [ystep] at h
    obtain rfl : n = 2 := by simp only [yln] at hln; omega
    obtain ⟨x, st', rfl, h1, hk, h⟩ := ystI_inv h
    obtain rfl : k0 = a := of_decide_eq_true hau
    rw [hnL] at h1
    exact lv_istore hx hbb hd hL.1 h1 rfl (fun ls' h2 => hnext hnn h (G (xloc_st1 (b := 0) (v := xi x) hk hL h1 trivial h2) (ylv_set hLl trivial) (ylt hst)))
  | astore_n k0 =>
    simp only [ystep] at h
    obtain rfl : n = 1 := by simp only [yln] at hln; omega
    obtain ⟨x, st', rfl, h1, hk, h⟩ := ystR_inv h
    rw [hnL] at h1
    rcases x with _ | q
    · exact lv_astore_nN hx hbb hd (of_decide_eq_true hau) hL.1 h1 rfl (fun ls' h2 => hnext hnn h (G (xloc_st1 (b := 0) (v := xn) hk hL h1 trivial h2) (ylv_set hLl trivial) (ylt hst)))
    · exact lv_astore_n hx hbb hd (of_decide_eq_true hau) hL.1 h1 rfl (fun ls' h2 => hnext hnn h (G (xloc_st1 (b := 0) (v := .inr (.inr (some q))) hk hL h1 (ylv_ok (ylh hst)) h2) (ylv_set hLl (ylh hst)) (ylt hst)))
  | iinc k0 n0' =>
    simp only [ystep] at h
    obtain rfl : n = 3 := by simp only [yln] at hln; omega
    obtain ⟨x, h1, hk, h⟩ := yinc_inv h
    simp only [yau, Bool.and_eq_true, decide_eq_true_eq] at hau
    obtain ⟨rfl, hc0⟩ := hau
    have ha : k0 < nL := by rw [← hnL]; exact (List.getElem?_eq_some_iff.mp h1).1
    have hm : (k0, Value.int x) ∈ xlv (yX P ad) 0 L := (xlv_iff (yX P ad) L k0 _).mpr ⟨xi x, h1, rfl⟩
    obtain ⟨kk, hkk⟩ := List.mem_iff_getElem?.mp hm
    exact lv_iinc (v := x + c0) hx hbb hd hL.1 hkk (by rw [hc0]) ha rfl (fun ls' h2 => hnext hnn h (G (xloc_st1 (b := 0) (v := xi (x + c0)) hk hL ha trivial h2) (ylv_set hLl trivial) hst))
  | iadd =>
    simp only [ystep] at h
    obtain rfl : n = 1 := by simp only [yln] at hln; omega
    replace h : yad2 (fun st => rec nx L st S) st = some (r, Sr) := h
    unfold yad2 at h
    split at h
    · exact lv_iadd hx hbb hd (hnext hnn h (G hL hLl (ylc trivial (ylt (ylt hst)))))
    · cases h
  | dup =>
    simp only [ystep] at h
    obtain rfl : n = 1 := by simp only [yln] at hln; omega
    replace h : ydup (fun st => rec nx L st S) st = some (r, Sr) := h
    unfold ydup at h
    split at h
    · exact lv_dup hx hbb hd rfl (hnext hnn h (G hL hLl (ylc trivial hst)))
    · exact lv_dup hx hbb hd (by rw [xc_cat]; rfl) (hnext hnn h (G hL hLl (ylc (ylh hst) hst)))
    · cases h
  | new i0 =>
    simp only [ystep] at h
    obtain rfl : n = 3 := by simp only [yln] at hln; omega
    replace h : ynew cap a (fun st S => rec nx L st S) st S = some (r, Sr) := h
    unfold ynew at h
    split at h
    · rename_i t i hq
      replace h := ycond h
      obtain ⟨h1, h⟩ := h
      rw [Bool.and_eq_true] at h1
      have e9 := Nat.eq_of_beq_eq_true h1.1
      subst e9
      have hc1 := Nat.le_of_ble_eq_true h1.2
      obtain ⟨⟨r1, r2⟩, r3, r4⟩ := hroom hq hc1
      have r5 : ysl S.1 - ysl n0 + (xlay t).length = ysl (S.1 + 1) - ysl n0 := r4
      refine yr_new C hI hq (hT.2.2.2.2.1 _ (of_decide_eq_true hau)) r1 r2 hd (fun ad1 H1 hI1 => ?_)
      obtain ⟨g1, g2⟩ := Gn hq hc1 hI1 hst
      rw [r3, r5]
      have := hnext hnn h g1
      rw [List.map_cons, g2] at this
      rw [show xc (yX P (yad ad (t, i, 0) ad1)) (xr t i 0) = .ref ad1 from congrArg Value.ref yad_s] at this
      exact this
    · cases h
  | newarray t0 =>
    simp only [ystep] at h
    obtain rfl : n = 2 := by simp only [yln] at hln; omega
    replace h : ynar cap a (fun st S => rec nx L st S) st S = some (r, Sr) := h
    unfold ynar at h
    split at h
    · rename_i x st' t i j hq
      replace h := ycond h
      obtain ⟨h1, h⟩ := h
      rw [Bool.and_eq_true, Bool.and_eq_true] at h1
      have ha := Nat.eq_of_beq_eq_true h1.1
      obtain rfl := of_decide_eq_true h1.2.1
      have hc1 := Nat.le_of_ble_eq_true h1.2.2
      obtain ⟨⟨r1, r2⟩, r3, r4⟩ := hroom hq hc1
      have r5 : ysl S.1 - ysl n0 + (xarr t j).2 = ysl (S.1 + 1) - ysl n0 := r4
      have K : ∀ (ad1 : Nat) (H1 : Heap), YI P (yad ad (t, i, j + 1) ad1) s (S.1 + 1, S.2) H1 locs → W p l e R s m args below meth c H1 locs (S.1 - n0 + 1) (ysl S.1 - ysl n0 + (xarr t j).2) Z (F0 m (pc + 2) ls (.ref ad1 :: st'.map (xc (yX P ad)))) := by
        intro ad1 H1 hI1
        obtain ⟨g1, g2⟩ := Gn hq hc1 hI1 (ylt hst)
        rw [r3, r5]
        have := hnext hnn h g1
        rw [List.map_cons, g2] at this
        rw [show xc (yX P (yad ad (t, i, j + 1) ad1)) (xr t i (j + 1)) = .ref ad1 from congrArg Value.ref yad_s] at this
        exact this
      simp only [yau, Bool.and_eq_true] at hau
      have ea := Nat.eq_of_beq_eq_true hau.1
      have eb := Nat.le_of_ble_eq_true hau.2
      cases t0 <;> simp only [yat] at ea <;> first | (exfalso; omega) | skip
      all_goals subst ea
      · exact yr_new3 C hI hq (Prod.ext ha rfl) r1 r2 hd K
      · exact yr_new2 C hI hq (Prod.ext ha rfl) r1 r2 hd K
      · exact yr_new0 C hI hq (Prod.ext ha rfl) r1 r2 hd K
      · exact yr_new1 C hI hq (Prod.ext ha rfl) r1 r2 hd K
    · cases h
  | anewarray i0 =>
    simp only [ystep] at h
    obtain rfl : n = 3 := by simp only [yln] at hln; omega
    replace h : ynar cap a (fun st S => rec nx L st S) st S = some (r, Sr) := h
    unfold ynar at h
    split at h
    · rename_i x st' t i j hq
      replace h := ycond h
      obtain ⟨h1, h⟩ := h
      rw [Bool.and_eq_true, Bool.and_eq_true] at h1
      have ha := Nat.eq_of_beq_eq_true h1.1
      obtain rfl := of_decide_eq_true h1.2.1
      have hc1 := Nat.le_of_ble_eq_true h1.2.2
      obtain ⟨⟨r1, r2⟩, r3, r4⟩ := hroom hq hc1
      have r5 : ysl S.1 - ysl n0 + (xarr t j).2 = ysl (S.1 + 1) - ysl n0 := r4
      have K : ∀ (ad1 : Nat) (H1 : Heap), YI P (yad ad (t, i, j + 1) ad1) s (S.1 + 1, S.2) H1 locs → W p l e R s m args below meth c H1 locs (S.1 - n0 + 1) (ysl S.1 - ysl n0 + (xarr t j).2) Z (F0 m (pc + 3) ls (.ref ad1 :: st'.map (xc (yX P ad)))) := by
        intro ad1 H1 hI1
        obtain ⟨g1, g2⟩ := Gn hq hc1 hI1 (ylt hst)
        rw [r3, r5]
        have := hnext hnn h g1
        rw [List.map_cons, g2] at this
        rw [show xc (yX P (yad ad (t, i, j + 1) ad1)) (xr t i (j + 1)) = .ref ad1 from congrArg Value.ref yad_s] at this
        exact this
      simp only [yau, Bool.and_eq_true, Bool.or_eq_true, decide_eq_true_eq] at hau
      obtain ⟨hau1, hau2⟩ := hau
      have hl := hT.2.2.2.2.2.1 _ hau1
      rcases hau2 with hau2 | hau2
      · have e9 := Nat.eq_of_beq_eq_true hau2
        subst e9
        exact yr_new4 C hI hq (Prod.ext ha rfl) hl r1 r2 hd K
      · have e9 := Nat.eq_of_beq_eq_true hau2
        subst e9
        exact yr_new5 C hI hq (Prod.ext ha rfl) hl r1 r2 hd K
    · cases h
  | getfield i0 =>
    simp only [ystep] at h
    obtain rfl : n = 3 := by simp only [yln] at hln; omega
    replace h : ygf a b (fun st => rec nx L st S) st S = some (r, Sr) := h
    unfold ygf at h
    split at h
    · rename_i t i st'
      replace h := ycond h
      obtain ⟨h1, h⟩ := h
      have e9 := Nat.eq_of_beq_eq_true h1
      subst e9
      have hq : (t, i, 0) ∈ ynl.take S.1 := ylh hst
      split at h
      · rename_i hs
        refine yr_get C hI (hT.2.2.1 _ (of_decide_eq_true hau)) hq (v := .int (rI S.2.1 t i b)) ?_ hd (hnext hnn h (G hL hLl (ylc trivial (ylt hst))))
        rw [yfs_get, hs]; simp only [Option.map_some, ynul, hs]; rfl
      · rename_i f hs
        replace h := ycond h
        obtain ⟨hb, h⟩ := h
        refine yr_get C hI (hT.2.2.1 _ (of_decide_eq_true hau)) hq (v := .ref (ad (f i))) ?_ hd (hnext hnn h (G hL hLl (ylc (hI.2.2.2.2.1 t i b f hb hs) (ylt hst))))
        rw [yfs_get, hs]; simp only [Option.map_some, ynul, hs]; rw [hb]; rfl
      · cases h
    · cases h
  | putfield i0 =>
    simp only [ystep] at h
    obtain rfl : n = 3 := by simp only [yln] at hln; omega
    replace h : ypf a b (fun st S => rec nx L st S) st S = some (r, Sr) := h
    simp only [yau, Bool.and_eq_true, Bool.or_eq_true, decide_eq_true_eq] at hau
    obtain ⟨hau1, hau2⟩ := hau
    unfold ypf at h
    split at h
    · rename_i x t i st'
      replace h := ycond h
      obtain ⟨h1, h⟩ := h
      have e9 := Nat.eq_of_beq_eq_true h1
      subst e9
      have hq : (t, i, 0) ∈ ynl.take S.1 := ylh (ylt hst)
      split at h
      · rename_i hs
        exact yr_putI C hI (hT.2.2.1 _ hau1) hq hs hd (fun H1 locs1 hI1 => Hm hnn h hI1 (ylt (ylt hst)))
      · cases h
    · rename_i q t i st'
      replace h := ycond h
      obtain ⟨h1, h⟩ := h
      have e9 := Nat.eq_of_beq_eq_true h1
      subst e9
      have hq : (t, i, 0) ∈ ynl.take S.1 := ylh (ylt hst)
      split at h
      · rename_i f hs
        replace h := ycond h
        obtain ⟨hv, h⟩ := h
        obtain rfl := of_decide_eq_true hv
        have hqv : f i ∈ ynl.take S.1 := ylh hst
        rcases hau2 with hau2 | hau2
        · have e9 := Nat.eq_of_beq_eq_true hau2
          subst e9
          have h13 := yln_o (ytk_in hq)
          obtain ⟨w1, w2⟩ := hT.2.2.2.2.2.2 (by omega)
          exact yr_putR C hI w1 w2 (hT.2.2.1 _ hau1) hq hs hqv hd (fun H1 locs1 hI1 => Hm hnn h hI1 (ylt (ylt hst)))
        · unfold yint at hau2; rw [hs] at hau2; cases hau2
      · cases h
    · cases h
  | arraylength =>
    simp only [ystep] at h
    obtain rfl : n = 1 := by simp only [yln] at hln; omega
    replace h : yal (fun st => rec nx L st S) st = some (r, Sr) := h
    unfold yal at h
    split at h
    · rename_i t i j st'
      replace h := ycond h
      obtain ⟨h1, h⟩ := h
      exact yr_alen C hI (t := t) (i := i) (j := j) (ylh hst) (kd := (xarr t j).1) (n := (xarr t j).2) rfl (Nat.le_of_ble_eq_true h1) hd (hnext hnn h (G hL hLl (ylc trivial (ylt hst))))
    · cases h
  | iaload =>
    simp only [ystep] at h
    obtain rfl : n = 1 := by simp only [yln] at hln; omega
    replace h : yga (fun st => rec nx L st S) st S = some (r, Sr) := h
    unfold yga at h
    split at h
    · rename_i x t i j st'
      replace h := ycond h
      obtain ⟨h1, h⟩ := h
      rw [Bool.and_eq_true] at h1
      exact yr_ld C hI (t := t) (i := i) (j := j) (ylh (ylt hst)) (n := (xarr t j).2) (Prod.ext (Nat.eq_of_beq_eq_true h1.1) rfl) h1.2 hd (hnext hnn h (G hL hLl (ylc trivial (ylt (ylt hst)))))
    · cases h
  | iastore =>
    simp only [ystep] at h
    obtain rfl : n = 1 := by simp only [yln] at hln; omega
    replace h : ypa 0 (fun st S => rec nx L st S) st S = some (r, Sr) := h
    unfold ypa at h
    split at h
    · rename_i v x t i j st'
      replace h := ycond h
      obtain ⟨h1, h⟩ := h
      rw [Bool.and_eq_true, Bool.and_eq_true] at h1
      exact yr_st C hI (t := t) (i := i) (j := j) (ylh (ylt (ylt hst))) (kd := 0) (n := (xarr t j).2) (Prod.ext (Nat.eq_of_beq_eq_true h1.1) rfl) h1.2.1 (.inl ⟨rfl, hd⟩) (fun H1 locs1 hI1 => Hm hnn h hI1 (ylt (ylt (ylt hst))))
    · cases h
  | bastore =>
    simp only [ystep] at h
    obtain rfl : n = 1 := by simp only [yln] at hln; omega
    replace h : ypa 3 (fun st S => rec nx L st S) st S = some (r, Sr) := h
    unfold ypa at h
    split at h
    · rename_i v x t i j st'
      replace h := ycond h
      obtain ⟨h1, h⟩ := h
      rw [Bool.and_eq_true, Bool.and_eq_true, Bool.or_eq_true] at h1
      have hv : v = 0 ∨ v = 1 := by
        rcases h1.2.2 with q | q
        · exact absurd (Nat.eq_of_beq_eq_true q) (by decide)
        · exact xbl_or q
      exact yr_st C hI (t := t) (i := i) (j := j) (ylh (ylt (ylt hst))) (kd := 3) (n := (xarr t j).2) (Prod.ext (Nat.eq_of_beq_eq_true h1.1) rfl) h1.2.1 (.inr ⟨rfl, hv, hd⟩) (fun H1 locs1 hI1 => Hm hnn h hI1 (ylt (ylt (ylt hst))))
    · cases h
  | lastore =>
    simp only [ystep] at h
    obtain rfl : n = 1 := by simp only [yln] at hln; omega
    replace h : ypl (fun st S => rec nx L st S) st S = some (r, Sr) := h
    unfold ypl at h
    split at h
    · rename_i v x t i j st'
      replace h := ycond h
      obtain ⟨h1, h⟩ := h
      rw [Bool.and_eq_true] at h1
      exact yr_stl C hI (t := t) (i := i) (j := j) (ylh (ylt (ylt hst))) (n := (xarr t j).2) (Prod.ext (Nat.eq_of_beq_eq_true h1.1) rfl) h1.2 hd (fun H1 locs1 hI1 => Hm hnn h hI1 (ylt (ylt (ylt hst))))
    · cases h
  | aastore =>
    simp only [ystep] at h
    obtain rfl : n = 1 := by simp only [yln] at hln; omega
    replace h : ypq (fun st S => rec nx L st S) st S = some (r, Sr) := h
    unfold ypq at h
    split at h
    · rename_i q x t i j st'
      replace h := ycond h
      obtain ⟨h1, h⟩ := h
      rw [Bool.and_eq_true, Bool.and_eq_true, Bool.or_eq_true] at h1
      obtain rfl := of_decide_eq_true h1.2.2
      have hk : (xarr t j).1 = 4 ∨ (xarr t j).1 = 5 := h1.1.imp Nat.eq_of_beq_eq_true Nat.eq_of_beq_eq_true
      exact yr_stq C hI (t := t) (i := i) (j := j) (ylh (ylt (ylt hst))) (kd := (xarr t j).1) (n := (xarr t j).2) rfl hk h1.2.1 (ylh hst) hd (fun H1 locs1 hI1 => Hm hnn h hI1 (ylt (ylt (ylt hst))))
    · cases h
  | invokespecial i0 =>
    simp only [ystep] at h
    obtain rfl : n = 3 := by simp only [yln] at hln; omega
    have CALL : ycall env cap i0 a b (fun st S => rec nx L st S) st S = some (r, Sr) → i0 < 100000 → W p l e R s m args below meth c H locs (S.1 - n0) (ysl S.1 - ysl n0) Z (F0 m pc ls (st.map (xc (yX P ad)))) := by
      intro h hi0
      obtain ⟨bs, i, rest, mc, F, r0, S', rfl, hlen, hsum, hm, hc1, hF0, hr0, h⟩ := ycall_inv h
      have hokb : ∀ v ∈ bs, ylv S.1 v := fun v hv => hst v (List.mem_append_left _ (List.mem_reverse.mpr hv))
      have hokr : ∀ v ∈ xr b i 0 :: rest, ylv S.1 v := fun v hv => hst v (List.mem_append_right _ hv)
      obtain ⟨yy, bytes, maxL, ret, fr, n', hCtr, hmk, hcode, hini, hy, hinst, hR, hcls, hna, hpar, hkind⟩ := hE _ hm
      have e1 := (hmk _ _ _ _ hF0).1
      have e3 : S'.1 = S.1 + mc := e1
      have k1 := ysl_le hc1
      have k2 := ysl_le hg2
      have k3 := ysl_le (show S.1 ≤ S.1 + mc by omega)
      rcases hkind with ⟨-, hname, rfl, hlink⟩ | ⟨i1, z, -⟩
      · refine yr_callS C hls hI hCtr hmk hcode hini hy hinst hR hpar hname hlink (ylc (ylh hokr) hokb) (by simp only at hna; omega) hF0 hsum hd ⟨by dsimp only; omega, by dsimp only; omega⟩ (fun ad' H1 locs1 hag hI1 => ?_)
        have g : YG P s ad0 n0 cap nL ad' S' H1 locs1 ls L (r0.toList ++ rest) := ⟨fun q hq => (hag q (ytk_le hg2 hq)).trans (hg1 q hq), by omega, by omega, hI1, yloc_ad (by omega) hag ⟨hL, hLl⟩, fun v hv => by
          rcases List.mem_append.mp hv with hv | hv
          · rcases r0 with _ | x | q
            · cases hv
            · cases List.mem_singleton.mp hv; trivial
            · exact absurd rfl (hr0 q)
          · exact ylv_le (by omega) (ylt hokr v hv)⟩
        have := hnext hnn h g
        rw [List.map_append, xmap_ad hag (ylt hokr)] at this
        have c1 : S.1 - n0 + mc = S'.1 - n0 := by omega
        have c2 : ysl S.1 - ysl n0 + (ysl (S.1 + mc) - ysl S.1) = ysl S'.1 - ysl n0 := by rw [e3]; omega
        dsimp only at *
        rw [c1, c2]
        exact this
      · exact absurd z (by dsimp only; omega)
    by_cases hb98 : b = 98
    · subst hb98
      replace h : yob (fun st => rec nx L st S) st = some (r, Sr) := h
      unfold yob at h
      split at h
      · rename_i q st'
        replace h := ycond h
        obtain ⟨h1, h⟩ := h
        have hl : Cond.methodLink y.cls i0 Lib.objectInit ∈ xG := hT.2.1 _ (of_decide_eq_true hau)
        refine W.objInit hx hbb hown (hts _ hl) (hts _ yO1) (hts _ yO2) (g := F0 m pc ls ((.inr (.inr (some q)) :: st').map (xc (yX P ad)))) rfl (by rw [hml]; exact hls) (a := ad q) (rest := st'.map (xc (yX P ad))) rfl hd hfr ?_ (hnext hnn h (G hL hLl (ylt hst)))
        have : 2 * (F0 m pc ls ((.inr (.inr (some q)) :: st').map (xc (yX P ad)))).monitorRoom + ((st'.map (xc (yX P ad))).map fun v => v.category).sum ≤ 8 := lv_room (by rw [xsum_xc]; exact Nat.le_of_ble_eq_true h1)
        omega
      · cases h
    · simp only [yau] at hau
      have hbl : Nat.ble (i0 + 1) 100000 = true := by
        first
          | exact hau
          | (split at hau
             · exact absurd rfl hb98
             · exact hau)
      have hi1 := Nat.le_of_ble_eq_true hbl
      refine CALL ?_ (by omega)
      first
        | exact h
        | (split at h
           · exact absurd rfl hb98
           · exact h)
  | invokevirtual i0 =>
    simp only [ystep] at h
    obtain rfl : n = 3 := by simp only [yln] at hln; omega
    replace h : ycall env cap (i0 + 100000) a b (fun st S => rec nx L st S) st S = some (r, Sr) := h
    obtain ⟨bs, i, rest, mc, F, r0, S', rfl, hlen, hsum, hm, hc1, hF0, hr0, h⟩ := ycall_inv h
    have hokb : ∀ v ∈ bs, ylv S.1 v := fun v hv => hst v (List.mem_append_left _ (List.mem_reverse.mpr hv))
    have hokr : ∀ v ∈ xr b i 0 :: rest, ylv S.1 v := fun v hv => hst v (List.mem_append_right _ hv)
    obtain ⟨yy, bytes, maxL, ret, fr, n', hCtr, hmk, hcode, hini, hy, hinst, hR, hcls, hna, hpar, hkind⟩ := hE _ hm
    have e1 := (hmk _ _ _ _ hF0).1
    have e3 : S'.1 = S.1 + mc := e1
    have k1 := ysl_le hc1
    have k2 := ysl_le hg2
    have k3 := ysl_le (show S.1 ≤ S.1 + mc by omega)
    rcases hkind with ⟨z, -⟩ | ⟨i1, z, hlink, hsel⟩
    · exact absurd z (by dsimp only; omega)
    · obtain rfl : i0 = i1 := by dsimp only at z; omega
      refine yr_callV C hls hI hCtr hmk hcode hini hy hinst hR hpar hlink hsel hcls (ylc (ylh hokr) hokb) (by simp only at hna; omega) hF0 hsum hd ⟨by dsimp only; omega, by dsimp only; omega⟩ (fun ad' H1 locs1 hag hI1 => ?_)
      have g : YG P s ad0 n0 cap nL ad' S' H1 locs1 ls L (r0.toList ++ rest) := ⟨fun q hq => (hag q (ytk_le hg2 hq)).trans (hg1 q hq), by omega, by omega, hI1, yloc_ad (by omega) hag ⟨hL, hLl⟩, fun v hv => by
        rcases List.mem_append.mp hv with hv | hv
        · rcases r0 with _ | x | q
          · cases hv
          · cases List.mem_singleton.mp hv; trivial
          · exact absurd rfl (hr0 q)
        · exact ylv_le (by omega) (ylt hokr v hv)⟩
      have := hnext hnn h g
      rw [List.map_append, xmap_ad hag (ylt hokr)] at this
      have c1 : S.1 - n0 + mc = S'.1 - n0 := by omega
      have c2 : ysl S.1 - ysl n0 + (ysl (S.1 + mc) - ysl S.1) = ysl S'.1 - ysl n0 := by rw [e3]; omega
      dsimp only at *
      rw [c1, c2]
      exact this
  | goto off =>
    simp only [ystep] at h
    obtain rfl : n = 3 := by simp only [yln] at hln; omega
    exact lv_goto hx hbb hd (of_decide_eq_true hau) (hjump h (G hL hLl hst))
  | if_icmp cd off =>
    obtain rfl : n = 3 := by simp only [yln] at hln; omega
    have ht : (pc : Int) + off = (a : Int) := of_decide_eq_true hau
    cases cd with
    | ge =>
      simp only [ystep] at h
      replace h : yge (fun st => rec (xseek a tab) L st S) (fun st => rec nx L st S) st = some (r, Sr) := h
      unfold yge at h
      split at h
      · rename_i z x st'
        have hst2 := ylt (ylt hst)
        refine lv_icmp_ge hx hbb hd ht (fun q => ?_) (fun q => ?_)
        · rw [if_neg (Int32.not_lt.mpr q)] at h; exact hjump h (G hL hLl hst2)
        · rw [if_pos (Int32.not_le.mp q)] at h; exact hnext hnn h (G hL hLl hst2)
      · cases h
    | eq => simp only [ystep] at h; cases h
    | ne => simp only [ystep] at h; cases h
    | lt => simp only [ystep] at h; cases h
    | gt => simp only [ystep] at h; cases h
    | le => simp only [ystep] at h; cases h
  | return_ =>
    simp only [ystep] at h
    replace h : yrt0 rt st S = some (r, Sr) := h
    unfold yrt0 at h
    obtain rfl : n = 1 := by simp only [yln] at hln; omega
    split at h
    · cases h
      exact (hF ad H locs pc ls hmls.symm hg1 hI).1 rfl rfl hd
    · cases h
  | ireturn =>
    simp only [ystep] at h
    replace h : yrt1 rt st S = some (r, Sr) := h
    unfold yrt1 at h
    obtain rfl : n = 1 := by simp only [yln] at hln; omega
    split at h
    · rename_i x
      cases h
      exact (hF ad H locs pc ls hmls.symm hg1 hI).2 x rfl rfl hd
    · cases h
  | _ => simp only [ystep] at h; cases h
