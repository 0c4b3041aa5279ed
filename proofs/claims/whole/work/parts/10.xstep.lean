set_option maxHeartbeats 4000000 in
theorem xs_step {p : Program} {l : Launch} {e : Env} {R : Room} {s : State} {m : MethodId} {args : Array Value} {below : List Frame} {meth : Method} {c : Code} {Z : State → Prop} {cc : ByteArray} {own : String} {X : XP} {nL : Nat}
    (C : XCt X p R s m args c cc own nL) {tab : List XE} {env : XN} {rt : Nat} {nw : Bool} {fl : List (Nat × Nat × Nat)} {cl : List (Nat × Int32)} {ll : List (Nat × Int64)} {jl : List (Nat × Nat)} (hT : xtab own cc nw fl cl ll jl tab)
    {ac as capc caps : Nat} (hE : ∀ q ∈ env, xcal X l R own ac as q) (hcap : capc ≤ R.cells ∧ caps ≤ R.slots) {r : Option XV} {μr : XM}
    (hF : XFin p l e R s m args below meth c Z cc X nw rt capc caps r μr) {A : Nat → XL → List XV → XM → XR} {rec : XK} {w wA : Nat} (hwA : wA ≤ w)
    (hA : ∀ h L st μ H locs cells slots ls, A h L st μ = some (r, μr) → XI X s μ H locs → xloc X ls nL L → (∀ v ∈ st, xok v) → xbd capc caps ac as wA cells slots → W p l e R s m args below meth c H locs cells slots Z (F0 m h ls (st.map (xc X))))
    (hnil : ∀ L st μ, rec [] L st μ = none)
    (hrec : ∀ (e' : XE) (nx pre : List XE), tab = pre ++ e' :: nx → ∀ L st μ H locs cells slots ls, rec (e' :: nx) L st μ = some (r, μr) → XI X s μ H locs → xloc X ls nL L → (∀ v ∈ st, xok v) → xbd capc caps ac as w cells slots → W p l e R s m args below meth c H locs cells slots Z (F0 m e'.1 ls (st.map (xc X))))
    {e0 : XE} {nx pre : List XE} (htab : tab = pre ++ e0 :: nx) {L : XL} {st : List XV} {μ : XM} {H : Heap} {locs : List Loc} {cells slots : Nat} {ls : Array Slot} (h : xstep A tab env rt rec (e0 :: nx) L st μ = some (r, μr)) (hI : XI X s μ H locs) (hL : xloc X ls nL L) (hst : ∀ v ∈ st, xok v) (hbd : xbd capc caps ac as (w + 1) cells slots) :
    W p l e R s m args below meth c H locs cells slots Z (F0 m e0.1 ls (st.map (xc X))) := by
  obtain ⟨pc, ins, a, b, c0, d, sw⟩ := e0
  have hls : ls.size = nL := hL.1.1
  have hb := xbd_dec hbd
  obtain ⟨n1, hn1, hnx⟩ := xwf_at hT.1 htab
  have hnext : ∀ {n : Nat}, pc + n = n1 → ∀ {L' : XL} {st' : List XV} {μ' : XM} {H' : Heap} {locs' : List Loc} {cells' slots' : Nat} {ls' : Array Slot}, rec nx L' st' μ' = some (r, μr) → XI X s μ' H' locs' → xloc X ls' nL L' → (∀ v ∈ st', xok v) → xbd capc caps ac as w cells' slots' → W p l e R s m args below meth c H' locs' cells' slots' Z (F0 m (pc + n) ls' (st'.map (xc X))) := by
    intro n hn L' st' μ' H' locs' cells' slots' ls' h1 h2 h3 h4 h5
    cases nx with
    | nil => rw [hnil] at h1; cases h1
    | cons e' nx' =>
      rw [hn, hnx e' nx' rfl]
      exact hrec e' nx' (pre ++ [(pc, ins, a, b, c0, d, sw)]) (by rw [htab]; simp) _ _ _ _ _ _ _ _ h1 h2 h3 h4 h5
  have hjump : ∀ {t : Nat} {L' : XL} {st' : List XV} {μ' : XM} {H' : Heap} {locs' : List Loc} {cells' slots' : Nat} {ls' : Array Slot}, rec (xseek t tab) L' st' μ' = some (r, μr) → XI X s μ' H' locs' → xloc X ls' nL L' → (∀ v ∈ st', xok v) → xbd capc caps ac as w cells' slots' → W p l e R s m args below meth c H' locs' cells' slots' Z (F0 m t ls' (st'.map (xc X))) := by
    intro t L' st' μ' H' locs' cells' slots' ls' h1 h2 h3 h4 h5
    rcases xseek_at tab t with h6 | ⟨pre', e', nx', h6, h7, h8⟩
    · rw [h6, hnil] at h1; cases h1
    · rw [h7] at h1
      rw [← h8]
      exact hrec e' nx' pre' h6 _ _ _ _ _ _ _ _ h1 h2 h3 h4 h5
  by_cases hnop : ins = .nop
  · subst hnop
    simp only [xstep] at h
    exact hA pc _ st μ H locs cells slots ls h hI (xloc_mask a hL) hst (xbd_le hb hwA)
  obtain ⟨n, hd, hln, hau, hnn⟩ : ∃ n, decode cc pc = .ok (ins, n) ∧ (xln ins = n ∨ xln ins = 0) ∧ xau own nw fl cl ll jl pc ins a b c0 d sw = true ∧ pc + n = n1 := by
    unfold xnx at hn1
    rw [if_neg hnop] at hn1
    cases hd : decode cc pc with
    | error z => rw [hd] at hn1; cases hn1
    | ok z =>
      obtain ⟨i, n⟩ := z
      rw [hd] at hn1
      replace hn1 := cond_inv hn1
      obtain ⟨h1, h2⟩ := hn1
      rw [Bool.and_eq_true, Bool.and_eq_true, Bool.or_eq_true] at h1
      have e1 := of_decide_eq_true h1.1.1
      dsimp only at e1 h2
      subst e1
      exact ⟨n, rfl, h1.1.2.imp Nat.eq_of_beq_eq_true Nat.eq_of_beq_eq_true, h1.2, Option.some.inj h2⟩
  have hx := C.1
  have hbb := C.2.1
  have hml := C.2.2.1
  have hown := C.2.2.2.1
  have hts := C.2.2.2.2.1
  have hfr : 1 ≤ R.frames := C.2.2.2.2.2.2.2.2.1
  have hlo : 100 ≤ R.locals := C.2.2.2.2.2.2.2.2.2
  have hmls : c.maxLocals = ls.size := by rw [hml, hls]
  have hnL : L.length = nL := hL.2.1
  have hcr : cells ≤ R.cells ∧ slots ≤ R.slots := ⟨Nat.le_trans (xbd_0 hbd).1 hcap.1, Nat.le_trans (xbd_0 hbd).2 hcap.2⟩
  have hcw : cells + ac ≤ R.cells ∧ slots + as ≤ R.slots := ⟨Nat.le_trans (xbd_now hbd).1 hcap.1, Nat.le_trans (xbd_now hbd).2 hcap.2⟩
  cases ins with
  | iconst n0 => obtain rfl : n = 1 := by simp only [xln] at hln; omega
                 simp only [xstep] at h; exact lv_iconst hx hbb hd (of_decide_eq_true hau) (hnext hnn h hI hL (okc trivial hst) hb)
  | bipush n0 => obtain rfl : n = 2 := by simp only [xln] at hln; omega
                 simp only [xstep] at h; exact lv_bipush hx hbb hd (of_decide_eq_true hau) (hnext hnn h hI hL (okc trivial hst) hb)
  | sipush n0 => obtain rfl : n = 3 := by simp only [xln] at hln; omega
                 simp only [xstep] at h; exact lv_sipush hx hbb hd (of_decide_eq_true hau) (hnext hnn h hI hL (okc trivial hst) hb)
  | ldc i0 =>
    obtain rfl : n = 2 := by simp only [xln] at hln; omega
    cases b with
    | zero => exact lv_ldc hx hbb hown (hts _ (hT.2.2.1 _ (of_decide_eq_true hau))) hd (hnext hnn h hI hL (okc trivial hst) hb)
    | succ b =>
      simp only [xau, Bool.and_eq_true, decide_eq_true_eq] at hau
      obtain ⟨ha, hau⟩ := hau
      cases hq : xstrT[a]? with
      | none => rw [hq] at hau; cases hau
      | some q =>
        rw [hq] at hau
        simp only [Option.map_some, Option.some.injEq, Prod.mk.injEq] at hau
        have hv := C.2.2.2.2.2.2.2.1.2.2.2.2.2.1 s s.heap a q C.2.2.2.2.2.2.1 hq
        rw [hau.1, hau.2] at hv
        exact va_ldcS hx hbb hown hv hd (hnext hnn h hI hL (okc (Or.inr (Or.inr ⟨rfl, ha, rfl⟩)) hst) hb)
  | ldc_w i0 => obtain rfl : n = 3 := by simp only [xln] at hln; omega
                simp only [xstep] at h; exact lv_ldcw hx hbb hown (hts _ (hT.2.2.1 _ (of_decide_eq_true hau))) hd (hnext hnn h hI hL (okc trivial hst) hb)
  | lconst k0 => obtain rfl : n = 1 := by simp only [xln] at hln; omega
                 simp only [xstep] at h; exact lv_lconst hx hbb hd (of_decide_eq_true hau) (hnext hnn h hI hL (okc trivial hst) hb)
  | ldc2_w i0 => obtain rfl : n = 3 := by simp only [xln] at hln; omega
                 simp only [xstep] at h; exact lv_ldc2 hx hbb hown (hts _ (hT.2.2.2.1 _ (of_decide_eq_true hau))) hd (hnext hnn h hI hL (okc trivial hst) hb)
  | aconst_null => obtain rfl : n = 1 := by simp only [xln] at hln; omega
                   simp only [xstep] at h; exact lv_null hx hbb hd (hnext hnn h hI hL (okc trivial hst) hb)
  | iload_n k0 => obtain rfl : n = 1 := by simp only [xln] at hln; omega
                  simp only [xstep] at h; obtain ⟨x, h1, h⟩ := xldI_inv h
                  exact lv_iload_n hx hbb hd (of_decide_eq_true hau) (xloc_get hL h1) (hnext hnn h hI hL (okc trivial hst) hb)
  | iload k0 => obtain rfl : n = 2 := by simp only [xln] at hln; omega
                obtain rfl : k0 = a := of_decide_eq_true hau
                simp only [xstep] at h; obtain ⟨x, h1, h⟩ := xldI_inv h
                exact lv_iload hx hbb hd (xloc_get hL h1) (hnext hnn h hI hL (okc trivial hst) hb)
  | lload_n k0 => obtain rfl : n = 1 := by simp only [xln] at hln; omega
                  simp only [xstep] at h; obtain ⟨x, h1, h⟩ := xldL_inv h
                  exact lv_lload_n hx hbb hd (of_decide_eq_true hau) (xloc_get hL h1) (hnext hnn h hI hL (okc trivial hst) hb)
  | lload k0 => obtain rfl : n = 2 := by simp only [xln] at hln; omega
                obtain rfl : k0 = a := of_decide_eq_true hau
                simp only [xstep] at h; obtain ⟨x, h1, h⟩ := xldL_inv h
                exact lv_lload hx hbb hd (xloc_get hL h1) (hnext hnn h hI hL (okc trivial hst) hb)
  | aload_n k0 => obtain rfl : n = 1 := by simp only [xln] at hln; omega
                  simp only [xstep] at h; obtain ⟨x, h1, h⟩ := xldR_inv h
                  rcases x with _ | q
                  · exact lv_aload_nN hx hbb hd (of_decide_eq_true hau) (xloc_get hL h1) (hnext hnn h hI hL (okc trivial hst) hb)
                  · exact lv_aload_n hx hbb hd (of_decide_eq_true hau) (xloc_get hL h1) (hnext hnn h hI hL (okc (xloc_ok hL h1) hst) hb)
  | aload k0 => obtain rfl : n = 2 := by simp only [xln] at hln; omega
                obtain rfl : k0 = a := of_decide_eq_true hau
                simp only [xstep] at h; obtain ⟨x, h1, h⟩ := xldR_inv h
                rcases x with _ | q
                · exact lv_aloadN hx hbb hd (xloc_get hL h1) (hnext hnn h hI hL (okc trivial hst) hb)
                · exact lv_aload hx hbb hd (xloc_get hL h1) (hnext hnn h hI hL (okc (xloc_ok hL h1) hst) hb)
  | istore_n k0 => obtain rfl : n = 1 := by simp only [xln] at hln; omega
                   simp only [xstep] at h; obtain ⟨x, st', rfl, h1, hk, h⟩ := xstI_inv h
                   rw [hnL] at h1
                   exact lv_istore_n hx hbb hd (of_decide_eq_true hau) hL.1 h1 rfl (fun ls' h2 => hnext hnn h hI (xloc_st1 (v := xi x) hk hL h1 trivial h2) (okt hst) hb)
  | istore k0 => obtain rfl : n = 2 := by simp only [xln] at hln; omega
                 simp only [xstep] at h; obtain ⟨x, st', rfl, h1, hk, h⟩ := xstI_inv h
                 obtain rfl : k0 = a := of_decide_eq_true hau
                 rw [hnL] at h1
                 exact lv_istore hx hbb hd hL.1 h1 rfl (fun ls' h2 => hnext hnn h hI (xloc_st1 (v := xi x) hk hL h1 trivial h2) (okt hst) hb)
  | lstore_n k0 => obtain rfl : n = 1 := by simp only [xln] at hln; omega
                   simp only [xstep] at h; obtain ⟨x, st', rfl, h1, hk, h⟩ := xstL_inv h
                   rw [hnL] at h1
                   exact lv_lstore_n hx hbb hd (of_decide_eq_true hau) hL.1 h1 rfl (fun ls' h2 => hnext hnn h hI (xloc_st2 (v := xl x) hk hL h1 trivial h2) (okt hst) hb)
  | lstore k0 => obtain rfl : n = 2 := by simp only [xln] at hln; omega
                 simp only [xstep] at h; obtain ⟨x, st', rfl, h1, hk, h⟩ := xstL_inv h
                 obtain rfl : k0 = a := of_decide_eq_true hau
                 rw [hnL] at h1
                 exact lv_lstore hx hbb hd hL.1 h1 rfl (fun ls' h2 => hnext hnn h hI (xloc_st2 (v := xl x) hk hL h1 trivial h2) (okt hst) hb)
  | astore_n k0 => obtain rfl : n = 1 := by simp only [xln] at hln; omega
                   simp only [xstep] at h; obtain ⟨x, st', rfl, h1, hk, h⟩ := xstR_inv h
                   rw [hnL] at h1
                   rcases x with _ | q
                   · exact lv_astore_nN hx hbb hd (of_decide_eq_true hau) hL.1 h1 rfl (fun ls' h2 => hnext hnn h hI (xloc_st1 (v := xn) hk hL h1 trivial h2) (okt hst) hb)
                   · exact lv_astore_n hx hbb hd (of_decide_eq_true hau) hL.1 h1 rfl (fun ls' h2 => hnext hnn h hI (xloc_st1 (v := .inr (.inr (some q))) hk hL h1 (okh hst) h2) (okt hst) hb)
  | astore k0 => obtain rfl : n = 2 := by simp only [xln] at hln; omega
                 simp only [xstep] at h; obtain ⟨x, st', rfl, h1, hk, h⟩ := xstR_inv h
                 obtain rfl : k0 = a := of_decide_eq_true hau
                 rw [hnL] at h1
                 rcases x with _ | q
                 · exact lv_astoreN hx hbb hd hL.1 h1 rfl (fun ls' h2 => hnext hnn h hI (xloc_st1 (v := xn) hk hL h1 trivial h2) (okt hst) hb)
                 · exact lv_astore hx hbb hd hL.1 h1 rfl (fun ls' h2 => hnext hnn h hI (xloc_st1 (v := .inr (.inr (some q))) hk hL h1 (okh hst) h2) (okt hst) hb)
  | iinc k0 n0 => obtain rfl : n = 3 := by simp only [xln] at hln; omega
                  simp only [xstep] at h; obtain ⟨x, h1, hk, h⟩ := xinc_inv h
                  simp only [xau, Bool.and_eq_true, decide_eq_true_eq] at hau
                  obtain ⟨rfl, hc0⟩ := hau
                  have ha : k0 < nL := by rw [← hnL]; exact (List.getElem?_eq_some_iff.mp h1).1
                  have hm : (k0, Value.int x) ∈ xlv X 0 L := (xlv_iff X L k0 _).mpr ⟨xi x, h1, rfl⟩
                  obtain ⟨kk, hkk⟩ := List.mem_iff_getElem?.mp hm
                  exact lv_iinc (v := x + c0) hx hbb hd hL.1 hkk (by rw [hc0]) ha rfl (fun ls' h2 => hnext hnn h hI (xloc_st1 (b := 0) (v := xi (x + c0)) hk hL ha trivial h2) hst hb)
  | iadd => obtain rfl : n = 1 := by simp only [xln] at hln; omega
            simp only [xstep] at h; obtain ⟨x, y, st', rfl, h⟩ := xo2_inv h; exact lv_iadd hx hbb hd (hnext hnn h hI hL (okc trivial (okt (okt hst))) hb)
  | isub => obtain rfl : n = 1 := by simp only [xln] at hln; omega
            simp only [xstep] at h; obtain ⟨x, y, st', rfl, h⟩ := xo2_inv h; exact lv_isub hx hbb hd (hnext hnn h hI hL (okc trivial (okt (okt hst))) hb)
  | imul => obtain rfl : n = 1 := by simp only [xln] at hln; omega
            simp only [xstep] at h; obtain ⟨x, y, st', rfl, h⟩ := xo2_inv h; exact lv_imul hx hbb hd (hnext hnn h hI hL (okc trivial (okt (okt hst))) hb)
  | iand => obtain rfl : n = 1 := by simp only [xln] at hln; omega
            simp only [xstep] at h; obtain ⟨x, y, st', rfl, h⟩ := xo2_inv h; exact lv_iand hx hbb hd (hnext hnn h hI hL (okc trivial (okt (okt hst))) hb)
  | ior => obtain rfl : n = 1 := by simp only [xln] at hln; omega
           simp only [xstep] at h; obtain ⟨x, y, st', rfl, h⟩ := xo2_inv h; exact lv_ior hx hbb hd (hnext hnn h hI hL (okc trivial (okt (okt hst))) hb)
  | ixor => obtain rfl : n = 1 := by simp only [xln] at hln; omega
            simp only [xstep] at h; obtain ⟨x, y, st', rfl, h⟩ := xo2_inv h; exact lv_ixor hx hbb hd (hnext hnn h hI hL (okc trivial (okt (okt hst))) hb)
  | ishl => obtain rfl : n = 1 := by simp only [xln] at hln; omega
            simp only [xstep] at h; obtain ⟨x, y, st', rfl, h⟩ := xo2_inv h; exact lv_ishl hx hbb hd (hnext hnn h hI hL (okc trivial (okt (okt hst))) hb)
  | ishr => obtain rfl : n = 1 := by simp only [xln] at hln; omega
            simp only [xstep] at h; obtain ⟨x, y, st', rfl, h⟩ := xo2_inv h; exact lv_ishr hx hbb hd (hnext hnn h hI hL (okc trivial (okt (okt hst))) hb)
  | iushr => obtain rfl : n = 1 := by simp only [xln] at hln; omega
             simp only [xstep] at h; obtain ⟨x, y, st', rfl, h⟩ := xo2_inv h; exact lv_iushr hx hbb hd rfl (hnext hnn h hI hL (okc trivial (okt (okt hst))) hb)
  | idiv => obtain rfl : n = 1 := by simp only [xln] at hln; omega
            simp only [xstep] at h; obtain ⟨x, y, st', rfl, hy, h⟩ := xo2n_inv h; exact lv_idiv hx hbb hd hy (hnext hnn h hI hL (okc trivial (okt (okt hst))) hb)
  | irem => obtain rfl : n = 1 := by simp only [xln] at hln; omega
            simp only [xstep] at h; obtain ⟨x, y, st', rfl, hy, h⟩ := xo2n_inv h; exact lv_irem hx hbb hd hy (hnext hnn h hI hL (okc trivial (okt (okt hst))) hb)
  | ineg => obtain rfl : n = 1 := by simp only [xln] at hln; omega
            simp only [xstep] at h; obtain ⟨x, st', rfl, h⟩ := xo1_inv h; exact lv_ineg hx hbb hd (hnext hnn h hI hL (okc trivial (okt hst)) hb)
  | i2l => obtain rfl : n = 1 := by simp only [xln] at hln; omega
           simp only [xstep] at h; obtain ⟨x, st', rfl, h⟩ := xo1_inv h; exact lv_i2l hx hbb hd rfl (hnext hnn h hI hL (okc trivial (okt hst)) hb)
  | i2c => obtain rfl : n = 1 := by simp only [xln] at hln; omega
           simp only [xstep] at h; obtain ⟨x, st', rfl, h⟩ := xo1_inv h; exact lv_i2c hx hbb hd rfl (hnext hnn h hI hL (okc trivial (okt hst)) hb)
  | l2i => obtain rfl : n = 1 := by simp only [xln] at hln; omega
           simp only [xstep] at h; obtain ⟨x, st', rfl, h⟩ := xo1l_inv h; exact lv_l2i hx hbb hd rfl (hnext hnn h hI hL (okc trivial (okt hst)) hb)
  | ladd => obtain rfl : n = 1 := by simp only [xln] at hln; omega
            simp only [xstep] at h; obtain ⟨x, y, st', rfl, h⟩ := xo2l_inv h; exact lv_ladd hx hbb hd (hnext hnn h hI hL (okc trivial (okt (okt hst))) hb)
  | lsub => obtain rfl : n = 1 := by simp only [xln] at hln; omega
            simp only [xstep] at h; obtain ⟨x, y, st', rfl, h⟩ := xo2l_inv h; exact lv_lsub hx hbb hd (hnext hnn h hI hL (okc trivial (okt (okt hst))) hb)
  | lmul => obtain rfl : n = 1 := by simp only [xln] at hln; omega
            simp only [xstep] at h; obtain ⟨x, y, st', rfl, h⟩ := xo2l_inv h; exact lv_lmul hx hbb hd (hnext hnn h hI hL (okc trivial (okt (okt hst))) hb)
  | land => obtain rfl : n = 1 := by simp only [xln] at hln; omega
            simp only [xstep] at h; obtain ⟨x, y, st', rfl, h⟩ := xo2l_inv h; exact lv_land hx hbb hd (hnext hnn h hI hL (okc trivial (okt (okt hst))) hb)
  | lor => obtain rfl : n = 1 := by simp only [xln] at hln; omega
           simp only [xstep] at h; obtain ⟨x, y, st', rfl, h⟩ := xo2l_inv h; exact lv_lor hx hbb hd (hnext hnn h hI hL (okc trivial (okt (okt hst))) hb)
  | lcmp => obtain rfl : n = 1 := by simp only [xln] at hln; omega
            simp only [xstep] at h; obtain ⟨x, y, st', rfl, h⟩ := xo2l_inv h; exact W.lcmp hx hbb hd (hnext hnn h hI hL (okc trivial (okt (okt hst))) hb)
  | ldiv => obtain rfl : n = 1 := by simp only [xln] at hln; omega
            simp only [xstep] at h; obtain ⟨x, y, st', rfl, hy, h⟩ := xo2ln_inv h; exact lv_ldiv hx hbb hd hy (hnext hnn h hI hL (okc trivial (okt (okt hst))) hb)
  | lrem => obtain rfl : n = 1 := by simp only [xln] at hln; omega
            simp only [xstep] at h; obtain ⟨x, y, st', rfl, hy, h⟩ := xo2ln_inv h; exact lv_lrem hx hbb hd hy (hnext hnn h hI hL (okc trivial (okt (okt hst))) hb)
  | lshl => obtain rfl : n = 1 := by simp only [xln] at hln; omega
            simp only [xstep] at h; obtain ⟨x, y, st', rfl, h⟩ := xo2s_inv h; exact lv_lshl hx hbb hd rfl (hnext hnn h hI hL (okc trivial (okt (okt hst))) hb)
  | lshr => obtain rfl : n = 1 := by simp only [xln] at hln; omega
            simp only [xstep] at h; obtain ⟨x, y, st', rfl, h⟩ := xo2s_inv h; exact lv_lshr hx hbb hd rfl (hnext hnn h hI hL (okc trivial (okt (okt hst))) hb)
  | lushr => obtain rfl : n = 1 := by simp only [xln] at hln; omega
             simp only [xstep] at h; obtain ⟨x, y, st', rfl, h⟩ := xo2s_inv h; exact lv_lushr hx hbb hd rfl (hnext hnn h hI hL (okc trivial (okt (okt hst))) hb)
  | dup => obtain rfl : n = 1 := by simp only [xln] at hln; omega
           simp only [xstep] at h; obtain ⟨v, st', rfl, hv, h⟩ := xdup_inv h
           exact lv_dup hx hbb hd (by rw [xc_cat]; exact hv) (hnext hnn h hI hL (okc (okh hst) hst) hb)
  | dup2 => obtain rfl : n = 1 := by simp only [xln] at hln; omega
            simp only [xstep] at h; obtain ⟨v, v2, st', rfl, hv, hv2, h⟩ := xdup2_inv h
            exact lv_dup2_11 hx hbb hd (by rw [xc_cat]; exact hv) (by rw [xc_cat]; exact hv2) (hnext hnn h hI hL (okc (okh hst) (okc (okh (okt hst)) hst)) hb)
  | pop => obtain rfl : n = 1 := by simp only [xln] at hln; omega
           simp only [xstep] at h; obtain ⟨v, st', rfl, hv, h⟩ := xpp_inv h
           exact lv_pop hx hbb hd (by rw [xc_cat]; exact hv) (hnext hnn h hI hL (okt hst) hb)
  | getfield i0 =>
    obtain rfl : n = 3 := by simp only [xln] at hln; omega
    simp only [xstep] at h; obtain ⟨i, st', sl, rfl, hs, h⟩ := xgf_inv h
    have hq := xok_obj (okh hst) hs
    refine xr_get C hI (hT.2.1 _ (of_decide_eq_true hau)) hq hs hd ?_
    rw [← xsv_c]
    refine hnext hnn h hI hL (okc ?_ (okt hst)) hb
    rcases sl with k | f
    · rcases k with _ | _ | k <;> trivial
    · exact Or.inl (xlink hq hs)
  | putfield i0 =>
    obtain rfl : n = 3 := by simp only [xln] at hln; omega
    simp only [xstep] at h
    rcases xpf_inv h with ⟨i, st', kd, x, rfl, hs, hk, h⟩ | ⟨i, st', x, rfl, hs, h⟩
    · exact xr_putI C hI (hT.2.1 _ (of_decide_eq_true hau)) (xok_obj (okh (okt hst)) hs) hs hk hd (fun H1 locs1 hI1 => hnext hnn h hI1 hL (okt (okt hst)) hb)
    · exact xr_putL C hI (hT.2.1 _ (of_decide_eq_true hau)) (xok_obj (okh (okt hst)) hs) hs hd (fun H1 locs1 hI1 => hnext hnn h hI1 hL (okt (okt hst)) hb)
  | arraylength =>
    obtain rfl : n = 1 := by simp only [xln] at hln; omega
    simp only [xstep] at h
    obtain ⟨t, i, j, st', rfl, ⟨n0, ha, h⟩ | ⟨kd, n0, ha, hk, h⟩⟩ := xal_inv h
    · obtain ⟨rfl, rfl, rfl⟩ := xok_scr (okh hst) ha
      exact xr_scl C hI hd (hnext hnn h hI hL (okc trivial (okt hst)) hb)
    · have hq := xok_arr (okh hst) ha hk
      have := xdom_kd hq
      rw [ha] at this
      exact xr_alen C hI hq ha this hd (hnext hnn h hI hL (okc trivial (okt hst)) hb)
  | iaload =>
    obtain rfl : n = 1 := by simp only [xln] at hln; omega
    simp only [xstep] at h
    obtain ⟨x, t, i, j, st', rfl, h, ⟨n0, ha, -, hin⟩ | ⟨n0, ha, hk, hin⟩⟩ := xga_inv h
    · obtain ⟨rfl, rfl, rfl⟩ := xok_scr (okh (okt hst)) ha
      exact xr_scr C hI hin hd (hnext hnn h hI hL (okc trivial (okt (okt hst))) hb)
    · exact xr_ld C hI (xok_arr (okh (okt hst)) ha hk) ha hin (Or.inl ⟨rfl, hd⟩) (hnext hnn h hI hL (okc trivial (okt (okt hst))) hb)
  | caload =>
    obtain rfl : n = 1 := by simp only [xln] at hln; omega
    simp only [xstep] at h
    obtain ⟨x, t, i, j, st', rfl, h, ⟨n0, ha, hz, hin⟩ | ⟨n0, ha, hk, hin⟩⟩ := xga_inv h
    · exact absurd hz (by decide)
    · exact xr_ld C hI (xok_arr (okh (okt hst)) ha hk) ha hin (Or.inr (Or.inl ⟨rfl, hd⟩)) (hnext hnn h hI hL (okc trivial (okt (okt hst))) hb)
  | baload =>
    obtain rfl : n = 1 := by simp only [xln] at hln; omega
    simp only [xstep] at h
    obtain ⟨x, t, i, j, st', rfl, h, ⟨n0, ha, hz, hin⟩ | ⟨n0, ha, hk, hin⟩⟩ := xga_inv h
    · exact absurd hz (by decide)
    · exact xr_ld C hI (xok_arr (okh (okt hst)) ha hk) ha hin (Or.inr (Or.inr ⟨rfl, hd⟩)) (hnext hnn h hI hL (okc trivial (okt (okt hst))) hb)
  | laload =>
    obtain rfl : n = 1 := by simp only [xln] at hln; omega
    simp only [xstep] at h
    obtain ⟨x, t, i, j, st', n0, rfl, ha, hin, h⟩ := xgl_inv h
    exact xr_ldl C hI (xok_arr (okh (okt hst)) ha (by decide)) ha hin hd (hnext hnn h hI hL (okc trivial (okt (okt hst))) hb)
  | aaload =>
    obtain rfl : n = 1 := by simp only [xln] at hln; omega
    simp only [xstep] at h
    obtain ⟨x, t, i, j, st', kd, n0, rfl, ha, hk, hin, h⟩ := xgr_inv h
    have hq := xok_arr (okh (okt hst)) ha (by omega)
    exact xr_ldr C hI hq ha hk hin hd (hnext hnn h hI hL (okc (Or.inl (xlink4 hq ha hk (xin_lt hin))) (okt (okt hst))) hb)
  | iastore =>
    obtain rfl : n = 1 := by simp only [xln] at hln; omega
    simp only [xstep] at h
    obtain ⟨v, x, t, i, j, st', n0, rfl, ha, hin, hv, h⟩ := xpa_inv h
    exact xr_st C hI (xok_arr (okh (okt (okt hst))) ha (by decide)) ha hin (Or.inl ⟨rfl, rfl, hd⟩) (fun H1 locs1 hI1 => hnext hnn h hI1 hL (okt (okt (okt hst))) hb)
  | castore =>
    obtain rfl : n = 1 := by simp only [xln] at hln; omega
    simp only [xstep] at h
    obtain ⟨v, x, t, i, j, st', n0, rfl, ha, hin, hv, h⟩ := xpa_inv h
    exact xr_st C hI (xok_arr (okh (okt (okt hst))) ha (by decide)) ha hin (Or.inr (Or.inl ⟨rfl, rfl, hd⟩)) (fun H1 locs1 hI1 => hnext hnn h hI1 hL (okt (okt (okt hst))) hb)
  | bastore =>
    obtain rfl : n = 1 := by simp only [xln] at hln; omega
    simp only [xstep] at h
    obtain ⟨v, x, t, i, j, st', n0, rfl, ha, hin, hv, h⟩ := xpa_inv h
    exact xr_st C hI (xok_arr (okh (okt (okt hst))) ha (by decide)) ha hin (Or.inr (Or.inr ⟨rfl, rfl, xbl_or hv, hd⟩)) (fun H1 locs1 hI1 => hnext hnn h hI1 hL (okt (okt (okt hst))) hb)
  | lastore =>
    obtain rfl : n = 1 := by simp only [xln] at hln; omega
    simp only [xstep] at h
    obtain ⟨v, x, t, i, j, st', n0, rfl, ha, hin, h⟩ := xpl_inv h
    exact xr_stl C hI (xok_arr (okh (okt (okt hst))) ha (by decide)) ha hin hd (fun H1 locs1 hI1 => hnext hnn h hI1 hL (okt (okt (okt hst))) hb)
  | invokevirtual i0 =>
    obtain rfl : n = 3 := by simp only [xln] at hln; omega
    simp only [xstep] at h
    unfold xcv at h
    split at h
    · rename_i t i as' rest hp
      replace h := cond_inv h; obtain ⟨ht, h⟩ := h
      replace ht := Nat.eq_of_beq_eq_true ht
      subst ht
      obtain ⟨bs, h1, h2, h3⟩ := xpop_some _ _ _ _ _ hp
      rw [List.append_nil] at h1
      obtain ⟨hsum, rk, F, r0, μ', hm, hF0, hr0, h⟩ := xca_inv h
      subst h3
      have hokb : ∀ v ∈ bs, xok v := fun v hv => hst v (List.mem_append_left _ (List.mem_reverse.mpr hv))
      have hokr : ∀ v ∈ rest, xok v := fun v hv => hst v (List.mem_append_right _ hv)
      rw [← h1] at hokb h2 ⊢
      rw [show (xr t i 0 :: as').reverse ++ rest = as'.reverse ++ xr t i 0 :: rest by simp]
      refine xr_callV C hls hI (hE _ hm) (of_decide_eq_true hau) hokb (by simpa using h2) hr0 hF0 hsum hd hcw (fun mc ms H1 locs1 hmc hms hI1 => ?_)
      refine hnext hnn h hI1 hL ?_ (xbd_call hbd hmc hms)
      intro v hv
      rcases List.mem_append.mp hv with hv | hv
      · rcases r0 with _ | x | x | q
        · cases hv
        · obtain rfl : v = .inl x := by simpa using hv
          trivial
        · obtain rfl : v = .inr (.inl x) := by simpa using hv
          trivial
        · exact absurd rfl (hr0 q)
      · exact hokr v hv
    · cases h
  | invokestatic i0 =>
    obtain rfl : n = 3 := by simp only [xln] at hln; omega
    rcases b with _ | _ | _ | _ | _ | b
    · replace h : xcs env i0 a μ (fun st μ => rec nx L st μ) st = some (r, μr) := h
      unfold xcs at h
      split at h
      · rename_i as' rest hp
        obtain ⟨bs, h1, h2, h3⟩ := xpop_some _ _ _ _ _ hp
        rw [List.append_nil] at h1
        obtain ⟨hsum, rk, F, r0, μ', hm, hF0, hr0, h⟩ := xca_inv h
        subst h3
        have hokb : ∀ v ∈ bs, xok v := fun v hv => hst v (List.mem_append_left _ (List.mem_reverse.mpr hv))
        have hokr : ∀ v ∈ rest, xok v := fun v hv => hst v (List.mem_append_right _ hv)
        rw [← h1] at hokb h2 ⊢
        refine xr_callS C hls hI (hE _ hm) hokb h2 hr0 hF0 hsum hd hcw (fun mc ms H1 locs1 hmc hms hI1 => ?_)
        refine hnext hnn h hI1 hL ?_ (xbd_call hbd hmc hms)
        intro v hv
        rcases List.mem_append.mp hv with hv | hv
        · rcases r0 with _ | x | x | q
          · cases hv
          · obtain rfl : v = .inl x := by simpa using hv
            trivial
          · obtain rfl : v = .inr (.inl x) := by simpa using hv
            trivial
          · exact absurd rfl (hr0 q)
        · exact hokr v hv
      · cases h
    · replace h : xmx (fun st => rec nx L st μ) st = some (r, μr) := h
      unfold xmx at h
      split at h
      · rename_i y x st'
        replace h := cond_inv h; obtain ⟨hs, h⟩ := h
        obtain ⟨-, w1, w2, w3, w4⟩ | ⟨z, -⟩ | ⟨z, -⟩ | ⟨z, -⟩ := hT.2.2.2.2 _ (of_decide_eq_true hau)
        · exact va_mmax hx hbb hmls hown (hts _ w1) (hts _ w2) (hts _ w3) (hts _ w4) hfr (by rw [xsum_xc]; have := Nat.le_of_ble_eq_true hs; omega) hcr.1 hcr.2 hd (hnext hnn h hI hL (okc trivial (okt (okt hst))) hb)
        · cases z
        · cases z
        · cases z
      · cases h
    · replace h : xmn (fun st => rec nx L st μ) st = some (r, μr) := h
      unfold xmn at h
      split at h
      · rename_i y x st'
        replace h := cond_inv h; obtain ⟨hs, h⟩ := h
        obtain ⟨z, -⟩ | ⟨-, w1, w2, w3, w4⟩ | ⟨z, -⟩ | ⟨z, -⟩ := hT.2.2.2.2 _ (of_decide_eq_true hau)
        · cases z
        · exact va_mmin hx hbb hmls hown (hts _ w1) (hts _ w2) (hts _ w3) (hts _ w4) hfr (by rw [xsum_xc]; have := Nat.le_of_ble_eq_true hs; omega) hcr.1 hcr.2 hd (hnext hnn h hI hL (okc trivial (okt (okt hst))) hb)
        · cases z
        · cases z
      · cases h
    · replace h : xab (fun st => rec nx L st μ) st = some (r, μr) := h
      unfold xab at h
      split at h
      · rename_i x st'
        replace h := cond_inv h; obtain ⟨hs, h⟩ := h
        obtain ⟨z, -⟩ | ⟨z, -⟩ | ⟨-, w1, w2, w3, w4⟩ | ⟨z, -⟩ := hT.2.2.2.2 _ (of_decide_eq_true hau)
        · cases z
        · cases z
        · exact va_mabs hx hbb hmls hown (hts _ w1) (hts _ w2) (hts _ w3) (hts _ w4) hfr (by rw [xsum_xc]; have := Nat.le_of_ble_eq_true hs; omega) hcr.1 hcr.2 hd (hnext hnn h hI hL (okc trivial (okt hst)) hb)
        · cases z
      · cases h
    · replace h : xcp μ (fun st μ => bif Nat.ble (xsum st) 8 then rec nx L st μ else none) st = some (r, μr) := h
      obtain ⟨n0, dp, t1, i1, j1, sp, t0, i0', j0, st', m0, m1, rfl, hok, ⟨ha0, ha1, h⟩ | ⟨ha0, ha1, h⟩⟩ := xcp_inv h
      · replace h := cond_inv h; obtain ⟨hs, h⟩ := h
        exact xr_cpi C hls hI (hT.2.2.2.2 _ (of_decide_eq_true hau)) (xok_arr (okh (okt (okt (okt (okt hst))))) ha0 (by decide)) (xok_arr (okh (okt (okt hst))) ha1 (by decide)) ha0 ha1 hok (by rw [xsum_xc]; exact Nat.le_of_ble_eq_true hs) hd (fun H1 locs1 hI1 => hnext hnn h hI1 hL (okt (okt (okt (okt (okt hst))))) hb)
      · replace h := cond_inv h; obtain ⟨hs, h⟩ := h
        exact xr_cpl C hls hI (hT.2.2.2.2 _ (of_decide_eq_true hau)) (xok_arr (okh (okt (okt (okt (okt hst))))) ha0 (by decide)) (xok_arr (okh (okt (okt hst))) ha1 (by decide)) ha0 ha1 hok (by rw [xsum_xc]; exact Nat.le_of_ble_eq_true hs) hd (fun H1 locs1 hI1 => hnext hnn h hI1 hL (okt (okt (okt (okt (okt hst))))) hb)
    · cases h
  | goto off => obtain rfl : n = 3 := by simp only [xln] at hln; omega
                simp only [xstep] at h; exact lv_goto hx hbb hd (of_decide_eq_true hau) (hjump h hI hL hst hb)
  | ifCond cd off =>
    obtain rfl : n = 3 := by simp only [xln] at hln; omega
    simp only [xstep] at h
    have ht : (pc : Int) + off = (a : Int) := of_decide_eq_true hau
    unfold xif at h
    split at h
    · rename_i x st'
      cases cd <;> dsimp only at h
      · refine lv_if_eq hx hbb hd ht (fun q => ?_) (fun q => ?_)
        · rw [xite_t q] at h; exact hjump h hI hL (okt hst) hb
        · rw [xite_f q] at h; exact hnext hnn h hI hL (okt hst) hb
      · refine lv_if_ne hx hbb hd ht (fun q => ?_) (fun q => ?_)
        · rw [xite_f q] at h; exact hjump h hI hL (okt hst) hb
        · rw [xite_t q] at h; exact hnext hnn h hI hL (okt hst) hb
      · refine lv_if_lt hx hbb hd ht (fun q => ?_) (fun q => ?_)
        · rw [xite_t q] at h; exact hjump h hI hL (okt hst) hb
        · rw [xite_f q] at h; exact hnext hnn h hI hL (okt hst) hb
      · refine lv_if_ge hx hbb hd ht (fun q => ?_) (fun q => ?_)
        · rw [xite_f (Int32.not_lt.mpr q)] at h; exact hjump h hI hL (okt hst) hb
        · rw [xite_t (Int32.not_le.mp q)] at h; exact hnext hnn h hI hL (okt hst) hb
      · refine lv_if_gt hx hbb hd ht (fun q => ?_) (fun q => ?_)
        · rw [xite_t q] at h; exact hjump h hI hL (okt hst) hb
        · rw [xite_f q] at h; exact hnext hnn h hI hL (okt hst) hb
      · refine lv_if_le hx hbb hd ht (fun q => ?_) (fun q => ?_)
        · rw [xite_f (Int32.not_lt.mpr q)] at h; exact hjump h hI hL (okt hst) hb
        · rw [xite_t (Int32.not_le.mp q)] at h; exact hnext hnn h hI hL (okt hst) hb
    · cases h
  | if_icmp cd off =>
    obtain rfl : n = 3 := by simp only [xln] at hln; omega
    simp only [xstep] at h
    have ht : (pc : Int) + off = (a : Int) := of_decide_eq_true hau
    unfold xic at h
    split at h
    · rename_i y x st'
      have hst2 := okt (okt hst)
      cases cd <;> dsimp only at h
      · refine lv_icmp_eq hx hbb hd ht (fun q => ?_) (fun q => ?_)
        · rw [xite_t q] at h; exact hjump h hI hL hst2 hb
        · rw [xite_f q] at h; exact hnext hnn h hI hL hst2 hb
      · refine lv_icmp_ne hx hbb hd ht (fun q => ?_) (fun q => ?_)
        · rw [xite_f q] at h; exact hjump h hI hL hst2 hb
        · rw [xite_t q] at h; exact hnext hnn h hI hL hst2 hb
      · refine lv_icmp_lt hx hbb hd ht (fun q => ?_) (fun q => ?_)
        · rw [xite_t q] at h; exact hjump h hI hL hst2 hb
        · rw [xite_f q] at h; exact hnext hnn h hI hL hst2 hb
      · refine lv_icmp_ge hx hbb hd ht (fun q => ?_) (fun q => ?_)
        · rw [xite_f (Int32.not_lt.mpr q)] at h; exact hjump h hI hL hst2 hb
        · rw [xite_t (Int32.not_le.mp q)] at h; exact hnext hnn h hI hL hst2 hb
      · refine lv_icmp_gt hx hbb hd ht (fun q => ?_) (fun q => ?_)
        · rw [xite_t q] at h; exact hjump h hI hL hst2 hb
        · rw [xite_f q] at h; exact hnext hnn h hI hL hst2 hb
      · refine lv_icmp_le hx hbb hd ht (fun q => ?_) (fun q => ?_)
        · rw [xite_f (Int32.not_lt.mpr q)] at h; exact hjump h hI hL hst2 hb
        · rw [xite_t (Int32.not_le.mp q)] at h; exact hnext hnn h hI hL hst2 hb
    · cases h
  | ifnull off =>
    obtain rfl : n = 3 := by simp only [xln] at hln; omega
    simp only [xstep] at h
    unfold xnl at h
    split at h
    · exact lv_ifnullN hx hbb hd (of_decide_eq_true hau) (hjump h hI hL (okt hst) hb)
    · exact lv_ifnull hx hbb hd (hnext hnn h hI hL (okt hst) hb)
    · cases h
  | ifnonnull off =>
    obtain rfl : n = 3 := by simp only [xln] at hln; omega
    simp only [xstep] at h
    unfold xnl at h
    split at h
    · exact lv_ifnonnullN hx hbb hd (hnext hnn h hI hL (okt hst) hb)
    · exact lv_ifnonnull hx hbb hd (of_decide_eq_true hau) (hjump h hI hL (okt hst) hb)
    · cases h
  | tableswitch df lo hi offs =>
    simp only [xstep] at h
    split at h
    · rename_i x st'
      simp only [xau, Bool.and_eq_true] at hau
      obtain ⟨⟨h1, h2⟩, h3⟩ := hau
      have ht : (pc : Int) + df = (a : Int) := of_decide_eq_true h1
      rcases xsw_inv h with ⟨q, hq, hxq, h9⟩ | ⟨hne, h9⟩
      · have h4 := List.all_eq_true.mp h2 q hq
        simp only [Bool.and_eq_true, decide_eq_true_eq] at h4
        rw [← hxq] at h4
        exact lv_tableIn hx hbb hd (by omega) (by omega) h4.2 (tgt := q.2) (by omega) (hjump h9 hI hL (okt hst) hb)
      · refine lv_tableOut hx hbb hd ?_ ht (hjump h9 hI hL (okt hst) hb)
        by_cases h5 : x.toInt < lo
        · exact Or.inl h5
        by_cases h6 : hi < x.toInt
        · exact Or.inr h6
        exfalso
        have h7 := List.all_eq_true.mp h3 (x.toInt - lo).toNat (List.mem_range.mpr (by omega))
        obtain ⟨q, hq, hq2⟩ := List.any_eq_true.mp h7
        have hq3 := of_decide_eq_true hq2
        refine hne q hq (Int32.toInt_inj.mp ?_)
        rw [hq3]
        omega
    · cases h
  | lookupswitch df ps =>
    simp only [xstep] at h
    split at h
    · rename_i x st'
      simp only [xau, Bool.and_eq_true] at hau
      obtain ⟨⟨h1, h2⟩, h3⟩ := hau
      have ht : (pc : Int) + df = (a : Int) := of_decide_eq_true h1
      have h3 := of_decide_eq_true h3
      obtain ⟨t, h4, h5⟩ := xlook ht h
      rw [← h3] at h5
      exact lv_lookup hx hbb hd h2 rfl h5 (hjump h4 hI hL (okt hst) hb)
    · cases h
  | ireturn =>
    obtain rfl : n = 1 := by simp only [xln] at hln; omega
    simp only [xstep] at h
    unfold xret at h
    split at h
    · rename_i x
      cases h
      exact (hF H locs cells slots pc ls hmls.symm hI (xbd_0 hbd).1 (xbd_0 hbd).2).2.1 x rfl (Or.inl rfl) hd
    · rename_i x
      unfold xrb at h
      replace h := cond_inv h; obtain ⟨hv, h⟩ := h
      cases h
      exact (hF H locs cells slots pc ls hmls.symm hI (xbd_0 hbd).1 (xbd_0 hbd).2).2.1 x rfl (Or.inr (Or.inl ⟨rfl, xbl_or hv⟩)) hd
    · rename_i x
      unfold xrc at h
      replace h := cond_inv h; obtain ⟨hv, h⟩ := h
      cases h
      exact (hF H locs cells slots pc ls hmls.symm hI (xbd_0 hbd).1 (xbd_0 hbd).2).2.1 x rfl (Or.inr (Or.inr ⟨rfl, of_decide_eq_true hv⟩)) hd
    · cases h
  | lreturn =>
    obtain rfl : n = 1 := by simp only [xln] at hln; omega
    simp only [xstep] at h
    split at h
    · rename_i x
      cases h
      exact (hF H locs cells slots pc ls hmls.symm hI (xbd_0 hbd).1 (xbd_0 hbd).2).2.2.1 x rfl rfl hd
    · cases h
  | return_ =>
    obtain rfl : n = 1 := by simp only [xln] at hln; omega
    simp only [xstep] at h
    split at h
    · cases h
      exact (hF H locs cells slots pc ls hmls.symm hI (xbd_0 hbd).1 (xbd_0 hbd).2).1 rfl rfl hd
    · cases h
  | new i0 =>
    obtain rfl : n = 3 := by simp only [xln] at hln; omega
    simp only [xstep] at h
    split at h
    · cases h
      exact (hF H locs cells slots pc ls hmls.symm hI (xbd_0 hbd).1 (xbd_0 hbd).2).2.2.2 i0 hau rfl hd
    · cases h
  | nop => exact absurd rfl hnop
  | _ => simp only [xstep] at h; cases h
