/-! the tables' words by class: links of fields, constants, methods -/
theorem xG_k {l : List Cond} {w : Cond} (hl : ∀ w ∈ l, w ∈ lw_tbl) (i : Nat) (h : l[i]? = some w) (hg : goodWord w = true) : w ∈ xG := List.mem_filter.mpr ⟨hl w (List.mem_of_getElem? h), hg⟩
theorem xT_1 : ∀ w ∈ tables_1_1, w ∈ lw_tbl := fun w h => List.mem_append_right _ (List.mem_append_left _ h)
theorem xT_2 : ∀ w ∈ tables_1_2, w ∈ lw_tbl := fun w h => List.mem_append_right _ (List.mem_append_right _ (List.mem_append_left _ h))
theorem xT_3 : ∀ w ∈ tables_1_3, w ∈ lw_tbl := fun w h => List.mem_append_right _ (List.mem_append_right _ (List.mem_append_right _ (List.mem_append_left _ h)))
theorem xT_4 : ∀ w ∈ tables_1_4, w ∈ lw_tbl := fun w h => List.mem_append_right _ (List.mem_append_right _ (List.mem_append_right _ (List.mem_append_right _ (List.mem_append_left _ h))))
theorem xT_5 : ∀ w ∈ tables_1_5, w ∈ lw_tbl := fun w h => List.mem_append_right _ (List.mem_append_right _ (List.mem_append_right _ (List.mem_append_right _ (List.mem_append_right _ (List.mem_append_left _ h)))))
theorem xT_6 : ∀ w ∈ tables_1_6, w ∈ lw_tbl := fun w h => List.mem_append_right _ (List.mem_append_right _ (List.mem_append_right _ (List.mem_append_right _ (List.mem_append_right _ (List.mem_append_right _ (List.mem_append_left _ h))))))
theorem xT_7 : ∀ w ∈ tables_1_7, w ∈ lw_tbl := fun w h => List.mem_append_right _ (List.mem_append_right _ (List.mem_append_right _ (List.mem_append_right _ (List.mem_append_right _ (List.mem_append_right _ (List.mem_append_right _ (List.mem_append_left _ h)))))))
theorem xT_8 : ∀ w ∈ tables_1_8, w ∈ lw_tbl := fun w h => List.mem_append_right _ (List.mem_append_right _ (List.mem_append_right _ (List.mem_append_right _ (List.mem_append_right _ (List.mem_append_right _ (List.mem_append_right _ (List.mem_append_right _ (List.mem_append_left _ h))))))))
theorem xT_9 : ∀ w ∈ tables_1_9, w ∈ lw_tbl := fun w h => List.mem_append_right _ (List.mem_append_right _ (List.mem_append_right _ (List.mem_append_right _ (List.mem_append_right _ (List.mem_append_right _ (List.mem_append_right _ (List.mem_append_right _ (List.mem_append_right _ (h)))))))))
theorem xV_1 : ∀ q ∈ lw_privs_1, q ∈ lw_privs := fun q h => List.mem_append_left _ h
theorem xV_2 : ∀ q ∈ lw_privs_2, q ∈ lw_privs := fun q h => List.mem_append_right _ (List.mem_append_left _ h)
theorem xV_3 : ∀ q ∈ lw_privs_3, q ∈ lw_privs := fun q h => List.mem_append_right _ (List.mem_append_right _ (List.mem_append_left _ h))
theorem xV_4 : ∀ q ∈ lw_privs_4, q ∈ lw_privs := fun q h => List.mem_append_right _ (List.mem_append_right _ (List.mem_append_right _ (List.mem_append_left _ h)))
theorem xV_5 : ∀ q ∈ lw_privs_5, q ∈ lw_privs := fun q h => List.mem_append_right _ (List.mem_append_right _ (List.mem_append_right _ (List.mem_append_right _ (List.mem_append_left _ h))))
theorem xV_6 : ∀ q ∈ lw_privs_6, q ∈ lw_privs := fun q h => List.mem_append_right _ (List.mem_append_right _ (List.mem_append_right _ (List.mem_append_right _ (List.mem_append_right _ (List.mem_append_left _ h)))))
theorem xV_7 : ∀ q ∈ lw_privs_7, q ∈ lw_privs := fun q h => List.mem_append_right _ (List.mem_append_right _ (List.mem_append_right _ (List.mem_append_right _ (List.mem_append_right _ (List.mem_append_right _ (List.mem_append_left _ h))))))
theorem xV_8 : ∀ q ∈ lw_privs_8, q ∈ lw_privs := fun q h => List.mem_append_right _ (List.mem_append_right _ (List.mem_append_right _ (List.mem_append_right _ (List.mem_append_right _ (List.mem_append_right _ (List.mem_append_right _ (h)))))))
theorem xG_s {l : List (MethodName × Nat)} {q : MethodName × Nat} (hl : ∀ q ∈ l, q ∈ lw_privs) (i : Nat) (h : l[i]? = some q) : Cond.selects q.1.cls q.1 q.1 ∈ xG := List.mem_filter.mpr ⟨List.mem_append_left _ (List.mem_map.mpr ⟨q, hl q (List.mem_of_getElem? h), rfl⟩), rfl⟩
/-- what a method's callers need: its own words -/
def xmf (y : MethodName) (b : ByteArray) (n : Nat) (r : Option FieldType) : Prop := Cond.code y b n r ∈ xG ∧ Cond.initialized y.cls ∈ xG ∧ (y.cls ≠ "java/lang/invoke/MethodHandle" ∧ y.cls ≠ "java/lang/invoke/VarHandle") ∧ plainName y.cls = true
def xrm (n : Nat) : Room := { frames := n, cells := 0, slots := 0, locals := 40 * n + 100 }
theorem xrm_ok {k n m : Nat} (h : k < n) (hm : m ≤ 21) : (xrm k).frames + 1 ≤ (xrm n).frames ∧ 8 + (m + 11) + (xrm k).locals ≤ (xrm n).locals := ⟨h, by show 8 + (m + 11) + (40 * k + 100) ≤ 40 * n + 100; omega⟩
theorem xrm_1 {n : Nat} (h : 1 ≤ n) : (xrm n).cells = 0 ∧ (xrm n).slots = 0 ∧ 1 ≤ (xrm n).frames ∧ 100 ≤ (xrm n).locals := ⟨rfl, rfl, h, by show 100 ≤ 40 * n + 100; omega⟩
theorem xcal_v {X : XP} {l : Launch} {R : Room} {own : String} {y : MethodName} {b : ByteArray} {n idx rk na tg : Nat} {r : Option FieldType} {rm : Room} {F : XF} (h : Ctr X l y b n r rm 0 0 F) (hm : xmf y b n r) (hrm : rm.cells = 0 ∧ rm.slots = 0) (hl : Cond.methodLink own idx y ∈ xG) (hi : Cond.instanceMethod y ∈ xG) (hs : Cond.selects y.cls y y ∈ xG) (hR : rm.frames + 1 ≤ R.frames ∧ 8 + (n + 11) + rm.locals ≤ R.locals) (hc : y.cls = xcn tg) (ht : tg ≠ 99) (hn : (parseMethodDescriptor y.desc).map (fun d => d.parameters.length) = some na) : xcal X l R own 0 0 (idx, rk, na + 1, tg, F) :=
  Or.inl ⟨y, b, n, r, rm, 0, 0, h, hrm.1, hrm.2, Nat.le_refl _, Nat.le_refl _, hm.1, hl, hm.2.1, hm.2.2.1, hR.1, hR.2, Or.inr ⟨ht, hi, hs, hc, na, rfl, hn⟩⟩
theorem xcal_s {X : XP} {l : Launch} {R : Room} {own : String} {y : MethodName} {b : ByteArray} {n idx rk na : Nat} {r : Option FieldType} {rm : Room} {F : XF} (h : Ctr X l y b n r rm 0 0 F) (hm : xmf y b n r) (hrm : rm.cells = 0 ∧ rm.slots = 0) (hl : Cond.methodLink own idx y ∈ xG) (hs : Cond.static y ∈ xG) (hR : rm.frames + 1 ≤ R.frames ∧ 8 + (n + 11) + rm.locals ≤ R.locals) (hn : (parseMethodDescriptor y.desc).map (fun d => d.parameters.length) = some na) : xcal X l R own 0 0 (idx, rk, na, 99, F) :=
  Or.inl ⟨y, b, n, r, rm, 0, 0, h, hrm.1, hrm.2, Nat.le_refl _, Nat.le_refl _, hm.1, hl, hm.2.1, hm.2.2.1, hR.1, hR.2, Or.inl ⟨rfl, hs, hn⟩⟩
def y8_copyFrom : MethodName := ⟨xR8, "copyFrom", "(LSilenceBall$Scene;)V"⟩
def y10_begin : MethodName := ⟨xR10, "begin", "()V"⟩
def y1_readLine : MethodName := ⟨xR1, "readLine", "(LSilenceBall$Tape;LSilenceBall$House;)Z"⟩
def y10_wrong : MethodName := ⟨xR10, "wrong", "(I)Z"⟩
def y10_advance : MethodName := ⟨xR10, "advance", "()V"⟩
def y1_readName : MethodName := ⟨xR1, "readName", "(LSilenceBall$Tape;[JI[I)Z"⟩
def y10_take : MethodName := ⟨xR10, "take", "(I)Z"⟩
def y10_isName : MethodName := ⟨xR10, "isName", "()Z"⟩
def y2_find : MethodName := ⟨xR2, "find", "([JIJ)I"⟩
def y8_begin : MethodName := ⟨xR8, "begin", "()V"⟩
def y1_play : MethodName := ⟨xR1, "play", "(ILSilenceBall$Scene;)I"⟩
def y8_whoIs : MethodName := ⟨xR8, "whoIs", "(I)I"⟩
def yJ_bitCount : MethodName := ⟨"java/lang/Integer", "bitCount", "(I)I"⟩
def y8_pass : MethodName := ⟨xR8, "pass", "()I"⟩
def y8_canAsk : MethodName := ⟨xR8, "canAsk", "()Z"⟩
def y8_openGap : MethodName := ⟨xR8, "openGap", "()V"⟩
def y8_canStop : MethodName := ⟨xR8, "canStop", "(I)Z"⟩
def y8_closeGap : MethodName := ⟨xR8, "closeGap", "(I)V"⟩
def y8_canCast : MethodName := ⟨xR8, "canCast", "(III)Z"⟩
def y8_giveBelt : MethodName := ⟨xR8, "giveBelt", "(III)V"⟩
def y4_clear : MethodName := ⟨xR4, "clear", "()V"⟩
def y4_copyFrom : MethodName := ⟨xR4, "copyFrom", "(LSilenceBall$Law;)V"⟩
def y2_isBorne : MethodName := ⟨xR2, "isBorne", "(II)Z"⟩
def y2_beltsFrom : MethodName := ⟨xR2, "beltsFrom", "(II)I"⟩
def y2_guestsFrom : MethodName := ⟨xR2, "guestsFrom", "(II)I"⟩
def y9_allows : MethodName := ⟨xR9, "allows", "(LSilenceBall$Inquest;I)Z"⟩
def y3_possible : MethodName := ⟨xR3, "possible", "(LSilenceBall$Seen;)I"⟩
def y3_mostAlike : MethodName := ⟨xR3, "mostAlike", "(II)I"⟩
def y3_depthBehind : MethodName := ⟨xR3, "depthBehind", "(II)I"⟩
def y3_manyAsDeep : MethodName := ⟨xR3, "manyAsDeep", "(III)I"⟩
def y4_add : MethodName := ⟨xR4, "add", "(I)V"⟩
def y4_push : MethodName := ⟨xR4, "push", "(I)V"⟩
def y4_pop : MethodName := ⟨xR4, "pop", "()I"⟩
def y4_joined : MethodName := ⟨xR4, "joined", "(III)I"⟩
def y9_copyFrom : MethodName := ⟨xR9, "copyFrom", "(LSilenceBall$Seen;)V"⟩
def y6_chooseGuests : MethodName := ⟨xR6, "chooseGuests", "(II)V"⟩
def y8_wall : MethodName := ⟨xR8, "wall", "()I"⟩
def y6_chooseBelts : MethodName := ⟨xR6, "chooseBelts", "(II)Z"⟩
def y6_keepTried : MethodName := ⟨xR6, "keepTried", "(I)V"⟩
def y8_isCrying : MethodName := ⟨xR8, "isCrying", "(I)Z"⟩
def y8_canReach : MethodName := ⟨xR8, "canReach", "(II)Z"⟩
def y2_clear : MethodName := ⟨xR2, "clear", "()V"⟩
def y7_readGuest : MethodName := ⟨xR7, "readGuest", "(I)Z"⟩
def y7_readBelt : MethodName := ⟨xR7, "readBelt", "(I)Z"⟩
def y7_readMan : MethodName := ⟨xR7, "readMan", "(I)Z"⟩
def y7_readGaps : MethodName := ⟨xR7, "readGaps", "()Z"⟩
def y7_readWater : MethodName := ⟨xR7, "readWater", "()Z"⟩
def y7_readLaw : MethodName := ⟨xR7, "readLaw", "()Z"⟩
def y7_readName : MethodName := ⟨xR7, "readName", "([JI)Z"⟩
def y7_readKind : MethodName := ⟨xR7, "readKind", "([II)Z"⟩
def y7_readMeasure : MethodName := ⟨xR7, "readMeasure", "(III[II)Z"⟩
def y2_addGuest : MethodName := ⟨xR2, "addGuest", "()V"⟩
def y10_isNumber : MethodName := ⟨xR10, "isNumber", "(II)Z"⟩
def y7_readE : MethodName := ⟨xR7, "readE", "(I)Z"⟩
def y2_isTold : MethodName := ⟨xR2, "isTold", "(J)Z"⟩
def y7_readTest : MethodName := ⟨xR7, "readTest", "(I)Z"⟩
def y7_write : MethodName := ⟨xR7, "write", "(I)Z"⟩
def y7_readSum : MethodName := ⟨xR7, "readSum", "(I)Z"⟩
def y7_readProduct : MethodName := ⟨xR7, "readProduct", "(I)Z"⟩
def y7_readPart : MethodName := ⟨xR7, "readPart", "(I)Z"⟩
def y10_isFact : MethodName := ⟨xR10, "isFact", "()Z"⟩
def y4_addNumber : MethodName := ⟨xR4, "addNumber", "(I)V"⟩
def y4_addKind : MethodName := ⟨xR4, "addKind", "(I)V"⟩
def y2_isGuest : MethodName := ⟨xR2, "isGuest", "(I)Z"⟩
def y2_isBelt : MethodName := ⟨xR2, "isBelt", "(I)Z"⟩
def y8_holderOf : MethodName := ⟨xR8, "holderOf", "(I)I"⟩
def y2_isMan : MethodName := ⟨xR2, "isMan", "(I)Z"⟩
def y2_canDrown : MethodName := ⟨xR2, "canDrown", "(I)Z"⟩
def y2_isShabby : MethodName := ⟨xR2, "isShabby", "(I)Z"⟩
def y8_wantsBelt : MethodName := ⟨xR8, "wantsBelt", "(I)Z"⟩
def y8_isFree : MethodName := ⟨xR8, "isFree", "(I)Z"⟩
def y8_isOnWall : MethodName := ⟨xR8, "isOnWall", "(I)Z"⟩
def y8_isIn : MethodName := ⟨xR8, "isIn", "(I)Z"⟩
def y8_drowns : MethodName := ⟨xR8, "drowns", "(I)Z"⟩
def y8_comeNearer : MethodName := ⟨xR8, "comeNearer", "(I)V"⟩
def y8_rise : MethodName := ⟨xR8, "rise", "()V"⟩
def y8_isUnder : MethodName := ⟨xR8, "isUnder", "(I)Z"⟩
def y4_value : MethodName := ⟨xR4, "value", "(IIII)I"⟩
def y10_signAt : MethodName := ⟨xR10, "signAt", "(I)C"⟩
def y10_isBlank : MethodName := ⟨xR10, "isBlank", "(C)Z"⟩
def y10_isLetter : MethodName := ⟨xR10, "isLetter", "(C)Z"⟩
def y10_kindOf : MethodName := ⟨xR10, "kindOf", "(J)I"⟩
def y10_isDigit : MethodName := ⟨xR10, "isDigit", "(C)Z"⟩
def yS_indexOf : MethodName := ⟨"java/lang/String", "indexOf", "(I)I"⟩
def yS_length : MethodName := ⟨"java/lang/String", "length", "()I"⟩
def yS_charAt : MethodName := ⟨"java/lang/String", "charAt", "(I)C"⟩
def y10_putEight : MethodName := ⟨xR10, "putEight", "(J)V"⟩
def y7_read : MethodName := ⟨xR7, "read", "()I"⟩
def y10_clear : MethodName := ⟨xR10, "clear", "()V"⟩
def y2_copyFrom : MethodName := ⟨xR2, "copyFrom", "(LSilenceBall$House;)V"⟩
def y1_clear : MethodName := ⟨xR1, "clear", "()V"⟩
def y9_clear : MethodName := ⟨xR9, "clear", "()V"⟩
def y0_clear : MethodName := ⟨xR0, "clear", "()V"⟩
def y11_liftMarks : MethodName := ⟨xR11, "liftMarks", "()V"⟩
def y5_lift : MethodName := ⟨xR5, "lift", "()V"⟩
def y1_read : MethodName := ⟨xR1, "read", "(LSilenceBall$Tape;LSilenceBall$House;)I"⟩
def y1_copyFrom : MethodName := ⟨xR1, "copyFrom", "(LSilenceBall$Evening;)V"⟩
def y0_keep : MethodName := ⟨xR0, "keep", "(LSilenceBall$Scene;)V"⟩
def y0_bringBack : MethodName := ⟨xR0, "bringBack", "(LSilenceBall$Scene;)Z"⟩
def y1_judge : MethodName := ⟨xR1, "judge", "(LSilenceBall$Scene;I)I"⟩
def y8_criers : MethodName := ⟨xR8, "criers", "()I"⟩
def y11_goAhead : MethodName := ⟨xR11, "goAhead", "(I)V"⟩
def y11_minutesUntil : MethodName := ⟨xR11, "minutesUntil", "(II)I"⟩
def y8_isInState : MethodName := ⟨xR8, "isInState", "(II)Z"⟩
def y11_lowestBit : MethodName := ⟨xR11, "lowestBit", "(I)I"⟩
def y8_borneBy : MethodName := ⟨xR8, "borneBy", "(I)I"⟩
def y6_plan : MethodName := ⟨xR6, "plan", "()V"⟩
def y2_bearsAll : MethodName := ⟨xR2, "bearsAll", "(II)Z"⟩
def y2_bearing : MethodName := ⟨xR2, "bearing", "(I)I"⟩
def y2_leastBelt : MethodName := ⟨xR2, "leastBelt", "(I)I"⟩
def y8_manyAt : MethodName := ⟨xR8, "manyAt", "(I)I"⟩
def y11_isSavedBy : MethodName := ⟨xR11, "isSavedBy", "(III)Z"⟩
def y9_add : MethodName := ⟨xR9, "add", "(II)Z"⟩
def y3_open : MethodName := ⟨xR3, "open", "(LSilenceBall$Scene;)V"⟩
def y3_tellingMinute : MethodName := ⟨xR3, "tellingMinute", "(LSilenceBall$Seen;)I"⟩
def y11_weightOf : MethodName := ⟨xR11, "weightOf", "(III)I"⟩
def y11_isSunkBy : MethodName := ⟨xR11, "isSunkBy", "(III)Z"⟩
def y11_isPrize : MethodName := ⟨xR11, "isPrize", "(I)Z"⟩
def y11_gain : MethodName := ⟨xR11, "gain", "(IIIII)I"⟩
def y11_playBalls : MethodName := ⟨xR11, "playBalls", "(II)I"⟩
def y11_nextDraw : MethodName := ⟨xR11, "nextDraw", "(J)J"⟩
def y11_below : MethodName := ⟨xR11, "below", "(JI)I"⟩
def y11_dance : MethodName := ⟨xR11, "dance", "(IIII)I"⟩
def y5_lay : MethodName := ⟨xR5, "lay", "(LSilenceBall$Scene;LSilenceBall$Seen;)V"⟩
def y5_bringBack : MethodName := ⟨xR5, "bringBack", "(LSilenceBall$Scene;LSilenceBall$Seen;)Z"⟩
def y12_lay : MethodName := ⟨xR12, "lay", "(J)V"⟩
def y12_isLetter : MethodName := ⟨xR12, "isLetter", "(I)Z"⟩
def y12_rank : MethodName := ⟨xR12, "rank", "(I)I"⟩
def y12_isDigit : MethodName := ⟨xR12, "isDigit", "(I)Z"⟩
def y12_isSignOf : MethodName := ⟨xR12, "isSignOf", "(I)Z"⟩
def y12_isSign : MethodName := ⟨xR12, "isSign", "(I)Z"⟩
def y12_wrong : MethodName := ⟨xR12, "wrong", "(I)V"⟩
def y12_isWord : MethodName := ⟨xR12, "isWord", "(I)Z"⟩
def y12_hasWord : MethodName := ⟨xR12, "hasWord", "(I)Z"⟩
def y12_takeWord : MethodName := ⟨xR12, "takeWord", "(I)V"⟩
def y12_takeNumber : MethodName := ⟨xR12, "takeNumber", "(II)I"⟩
def y12_wordHere : MethodName := ⟨xR12, "wordHere", "(II)I"⟩
def y12_isName : MethodName := ⟨xR12, "isName", "()Z"⟩
def y12_nameAt : MethodName := ⟨xR12, "nameAt", "(Z)I"⟩
def y12_within : MethodName := ⟨xR12, "within", "(III)Z"⟩
def y12_cutAll : MethodName := ⟨xR12, "cutAll", "()V"⟩
def y12_standsAsAlways : MethodName := ⟨xR12, "standsAsAlways", "(I)V"⟩
def y12_readLine : MethodName := ⟨xR12, "readLine", "()V"⟩
def y12_takeSign : MethodName := ⟨xR12, "takeSign", "(I)V"⟩
def y12_begins : MethodName := ⟨xR12, "begins", "()V"⟩
def y12_readGuest : MethodName := ⟨xR12, "readGuest", "()V"⟩
def y12_readName : MethodName := ⟨xR12, "readName", "(III)V"⟩
def y12_takeAfter : MethodName := ⟨xR12, "takeAfter", "(III)I"⟩
def y12_readOnce : MethodName := ⟨xR12, "readOnce", "()V"⟩
def y12_takeOne : MethodName := ⟨xR12, "takeOne", "(II)I"⟩
def y12_whole : MethodName := ⟨xR12, "whole", "(I)V"⟩
def y12_emit : MethodName := ⟨xR12, "emit", "(II)V"⟩
def y12_readEvening : MethodName := ⟨xR12, "readEvening", "(II)V"⟩
def y12_takeTold : MethodName := ⟨xR12, "takeTold", "(I)I"⟩
def y12_test : MethodName := ⟨xR12, "test", "(I)V"⟩
def y12_sums : MethodName := ⟨xR12, "sums", "(I)V"⟩
def y12_hasSign : MethodName := ⟨xR12, "hasSign", "(I)Z"⟩
def y12_products : MethodName := ⟨xR12, "products", "(I)V"⟩
def y12_takePart : MethodName := ⟨xR12, "takePart", "(I)V"⟩
def y12_both : MethodName := ⟨xR12, "both", "(III)I"⟩
def y12_guests : MethodName := ⟨xR12, "guests", "()I"⟩
def y12_guestOf : MethodName := ⟨xR12, "guestOf", "(II)I"⟩
def y12_starts : MethodName := ⟨xR12, "starts", "(I)V"⟩
def y12_copies : MethodName := ⟨xR12, "copies", "(III)V"⟩
def y12_belts : MethodName := ⟨xR12, "belts", "()I"⟩
def y12_men : MethodName := ⟨xR12, "men", "()I"⟩
def y12_bearsOf : MethodName := ⟨xR12, "bearsOf", "(I)I"⟩
def y12_weightOf : MethodName := ⟨xR12, "weightOf", "(I)I"⟩
def y12_isIn : MethodName := ⟨xR12, "isIn", "(II)Z"⟩
def y12_doesBear : MethodName := ⟨xR12, "doesBear", "(II)Z"⟩
def y12_doesCry : MethodName := ⟨xR12, "doesCry", "(II)Z"⟩
def y12_manOf : MethodName := ⟨xR12, "manOf", "(II)I"⟩
def y12_isFree : MethodName := ⟨xR12, "isFree", "(II)Z"⟩
def y12_gapTo : MethodName := ⟨xR12, "gapTo", "(III)I"⟩
def y12_couldCast : MethodName := ⟨xR12, "couldCast", "(III)Z"⟩
def y12_wall : MethodName := ⟨xR12, "wall", "(I)I"⟩
def y12_isUnder : MethodName := ⟨xR12, "isUnder", "(II)Z"⟩
def y12_who : MethodName := ⟨xR12, "who", "(II)I"⟩
def y12_breathes : MethodName := ⟨xR12, "breathes", "(II)V"⟩
def y12_drawsIn : MethodName := ⟨xR12, "drawsIn", "(II)V"⟩
def y12_bits : MethodName := ⟨xR12, "bits", "(I)I"⟩
def y12_worthAt : MethodName := ⟨xR12, "worthAt", "(I)I"⟩
def y12_isGuest : MethodName := ⟨xR12, "isGuest", "(I)Z"⟩
def y12_isBelt : MethodName := ⟨xR12, "isBelt", "(I)Z"⟩
def y12_isMan : MethodName := ⟨xR12, "isMan", "(I)Z"⟩
def y12_mayCast : MethodName := ⟨xR12, "mayCast", "(IIII)Z"⟩
def y12_keeps : MethodName := ⟨xR12, "keeps", "()V"⟩
def y12_casts : MethodName := ⟨xR12, "casts", "(IIII)V"⟩
def y12_mayStop : MethodName := ⟨xR12, "mayStop", "(II)Z"⟩
def y12_stops : MethodName := ⟨xR12, "stops", "(II)V"⟩
def y12_passes : MethodName := ⟨xR12, "passes", "(I)I"⟩
def y12_underNow : MethodName := ⟨xR12, "underNow", "()I"⟩
def y12_criers : MethodName := ⟨xR12, "criers", "(I)I"⟩
def y12_triesNow : MethodName := ⟨xR12, "triesNow", "()V"⟩
def y12_becomes : MethodName := ⟨xR12, "becomes", "(II)I"⟩
def y12_sinksIn : MethodName := ⟨xR12, "sinksIn", "(I)I"⟩
def y12_fitsOf : MethodName := ⟨xR12, "fitsOf", "(I)I"⟩
def y12_beltsFrom : MethodName := ⟨xR12, "beltsFrom", "(II)Z"⟩
def y12_castsFrom : MethodName := ⟨xR12, "castsFrom", "(II)V"⟩
def y12_doesHold : MethodName := ⟨xR12, "doesHold", "(II)Z"⟩
def y12_bearOf : MethodName := ⟨xR12, "bearOf", "(I)I"⟩
def y12_enoughFor : MethodName := ⟨xR12, "enoughFor", "(I)I"⟩
def y12_doesSave : MethodName := ⟨xR12, "doesSave", "(III)Z"⟩
def y12_manyAt : MethodName := ⟨xR12, "manyAt", "(I)I"⟩
def y12_denseNow : MethodName := ⟨xR12, "denseNow", "()I"⟩
def y12_depthsNow : MethodName := ⟨xR12, "depthsNow", "()V"⟩
def y12_holesNow : MethodName := ⟨xR12, "holesNow", "()I"⟩
def y12_getsBy : MethodName := ⟨xR12, "getsBy", "(IIIII)I"⟩
def y12_draw : MethodName := ⟨xR12, "draw", "(I)I"⟩
def y12_drawsDeed : MethodName := ⟨xR12, "drawsDeed", "()Z"⟩
def y11_feed : MethodName := ⟨xR11, "feed", "(JJJ)I"⟩
def y12_feed : MethodName := ⟨xR12, "feed", "(JJJ)I"⟩
def y11_room : MethodName := ⟨xR11, "room", "()I"⟩
def y12_room : MethodName := ⟨xR12, "room", "()I"⟩
def y11_evening : MethodName := ⟨xR11, "evening", "()I"⟩
def y12_evening : MethodName := ⟨xR12, "evening", "()I"⟩
def y11_guest : MethodName := ⟨xR11, "guest", "(II)I"⟩
def y12_guest : MethodName := ⟨xR12, "guest", "(II)I"⟩
def y11_belt : MethodName := ⟨xR11, "belt", "(II)I"⟩
def y12_belt : MethodName := ⟨xR12, "belt", "(II)I"⟩
def y11_man : MethodName := ⟨xR11, "man", "(II)I"⟩
def y12_man : MethodName := ⟨xR12, "man", "(II)I"⟩
def y11_cast : MethodName := ⟨xR11, "cast", "(III)Z"⟩
def y12_cast : MethodName := ⟨xR12, "cast", "(III)Z"⟩
def y11_ask : MethodName := ⟨xR11, "ask", "()I"⟩
def y12_ask : MethodName := ⟨xR12, "ask", "()I"⟩
def y11_stop : MethodName := ⟨xR11, "stop", "(I)I"⟩
def y12_stop : MethodName := ⟨xR12, "stop", "(I)I"⟩
def y11_minute : MethodName := ⟨xR11, "minute", "()I"⟩
def y12_minute : MethodName := ⟨xR12, "minute", "()I"⟩
def y11_undo : MethodName := ⟨xR11, "undo", "()Z"⟩
def y12_undo : MethodName := ⟨xR12, "undo", "()Z"⟩
def y11_judged : MethodName := ⟨xR11, "judged", "(I)I"⟩
def y12_judged : MethodName := ⟨xR12, "judged", "(I)I"⟩
def y11_under : MethodName := ⟨xR11, "under", "()I"⟩
def y12_under : MethodName := ⟨xR12, "under", "()I"⟩
def y11_cries : MethodName := ⟨xR11, "cries", "()I"⟩
def y12_cries : MethodName := ⟨xR12, "cries", "()I"⟩
def y11_later : MethodName := ⟨xR11, "later", "(I)I"⟩
def y12_later : MethodName := ⟨xR12, "later", "(I)I"⟩
def y11_over : MethodName := ⟨xR11, "over", "(I)I"⟩
def y12_over : MethodName := ⟨xR12, "over", "(I)I"⟩
def y11_sinks : MethodName := ⟨xR11, "sinks", "(I)I"⟩
def y12_sinks : MethodName := ⟨xR12, "sinks", "(I)I"⟩
def y11_first : MethodName := ⟨xR11, "first", "()I"⟩
def y12_first : MethodName := ⟨xR12, "first", "()I"⟩
def y11_home : MethodName := ⟨xR11, "home", "(I)I"⟩
def y12_home : MethodName := ⟨xR12, "home", "(I)I"⟩
def y11_quiet : MethodName := ⟨xR11, "quiet", "()I"⟩
def y12_quiet : MethodName := ⟨xR12, "quiet", "()I"⟩
def y11_when : MethodName := ⟨xR11, "when", "(I)I"⟩
def y12_when : MethodName := ⟨xR12, "when", "(I)I"⟩
def y11_lost : MethodName := ⟨xR11, "lost", "(I)I"⟩
def y12_lost : MethodName := ⟨xR12, "lost", "(I)I"⟩
def y11_fits : MethodName := ⟨xR11, "fits", "(I)I"⟩
def y12_fits : MethodName := ⟨xR12, "fits", "(I)I"⟩
def y11_could : MethodName := ⟨xR11, "could", "(I)I"⟩
def y12_could : MethodName := ⟨xR12, "could", "(I)I"⟩
def y11_best : MethodName := ⟨xR11, "best", "(I)I"⟩
def y12_best : MethodName := ⟨xR12, "best", "(I)I"⟩
def y11_with : MethodName := ⟨xR11, "with", "(I)I"⟩
def y12_with : MethodName := ⟨xR12, "with", "(I)I"⟩
def y11_need : MethodName := ⟨xR11, "need", "()I"⟩
def y12_need : MethodName := ⟨xR12, "need", "()I"⟩
def y11_latest : MethodName := ⟨xR11, "latest", "(I)I"⟩
def y12_latest : MethodName := ⟨xR12, "latest", "(I)I"⟩
def y11_enough : MethodName := ⟨xR11, "enough", "(I)I"⟩
def y12_enough : MethodName := ⟨xR12, "enough", "(I)I"⟩
def y11_near : MethodName := ⟨xR11, "near", "(I)I"⟩
def y12_near : MethodName := ⟨xR12, "near", "(I)I"⟩
def y11_gap : MethodName := ⟨xR11, "gap", "(II)I"⟩
def y12_gap : MethodName := ⟨xR12, "gap", "(II)I"⟩
def y11_row : MethodName := ⟨xR11, "row", "()I"⟩
def y12_row : MethodName := ⟨xR12, "row", "()I"⟩
def y11_dense : MethodName := ⟨xR11, "dense", "()I"⟩
def y12_dense : MethodName := ⟨xR12, "dense", "()I"⟩
def y11_tight : MethodName := ⟨xR11, "tight", "()I"⟩
def y12_tight : MethodName := ⟨xR12, "tight", "()I"⟩
def y11_spare : MethodName := ⟨xR11, "spare", "()I"⟩
def y12_spare : MethodName := ⟨xR12, "spare", "()I"⟩
def y11_save : MethodName := ⟨xR11, "save", "(III)Z"⟩
def y12_save : MethodName := ⟨xR12, "save", "(III)Z"⟩
def y11_worth : MethodName := ⟨xR11, "worth", "(I)I"⟩
def y12_worth : MethodName := ⟨xR12, "worth", "(I)I"⟩
def y11_see : MethodName := ⟨xR11, "see", "(II)Z"⟩
def y12_see : MethodName := ⟨xR12, "see", "(II)Z"⟩
def y11_holes : MethodName := ⟨xR11, "holes", "()I"⟩
def y12_holes : MethodName := ⟨xR12, "holes", "()I"⟩
def y11_look : MethodName := ⟨xR11, "look", "()I"⟩
def y12_look : MethodName := ⟨xR12, "look", "()I"⟩
def y11_chance : MethodName := ⟨xR11, "chance", "(III)I"⟩
def y12_chance : MethodName := ⟨xR12, "chance", "(III)I"⟩
def yL_rests : MethodName := ⟨"SilenceBallLaw", "rests", "(LSilenceBall;IIII[J)I"⟩
def y12_rests : MethodName := ⟨xR12, "rests", "(IIII)I"⟩
def y12_thrown : MethodName := ⟨xR12, "thrown", "()I"⟩
def y11_balls : MethodName := ⟨xR11, "balls", "(III)I"⟩
def y12_balls : MethodName := ⟨xR12, "balls", "(III)I"⟩
def y11_mark : MethodName := ⟨xR11, "mark", "(IZ)Z"⟩
def y12_mark : MethodName := ⟨xR12, "mark", "(IZ)Z"⟩
def y11_count : MethodName := ⟨xR11, "count", "(I)I"⟩
def y12_count : MethodName := ⟨xR12, "count", "(I)I"⟩
def y11_rests : MethodName := ⟨xR11, "rests", "(IIII)I"⟩
def fl0 : List (Nat × Nat × Nat) := [(18, 0, 2), (11, 0, 0), (22, 0, 1)]
set_option maxRecDepth 20000 in
theorem flk0 : ∀ q ∈ fl0, xfl xR0 q := List.forall_mem_cons.mpr ⟨⟨xR0, xT0, 3, rfl, by decide, xG_k xT_2 60 rfl rfl⟩, List.forall_mem_cons.mpr ⟨⟨xR0, xT0, 3, rfl, by decide, xG_k xT_2 58 rfl rfl⟩, List.forall_mem_cons.mpr ⟨⟨xR0, xT0, 3, rfl, by decide, xG_k xT_2 59 rfl rfl⟩, fun _ h => absurd h List.not_mem_nil⟩⟩⟩
def cl0 : List (Nat × Int32) := []
set_option maxRecDepth 20000 in
theorem clk0 : ∀ q ∈ cl0, Cond.constant xR0 q.1 q.2 ∈ xG := fun _ h => absurd h List.not_mem_nil
def ll0 : List (Nat × Int64) := []
set_option maxRecDepth 20000 in
theorem llk0 : ∀ q ∈ ll0, Cond.constantLong xR0 q.1 q.2 ∈ xG := fun _ h => absurd h List.not_mem_nil
def jl0 : List (Nat × Nat) := [(29, 2)]
set_option maxRecDepth 20000 in
theorem jlk0 : ∀ q ∈ jl0, xjd xR0 q := List.forall_mem_cons.mpr ⟨Or.inr (Or.inl (⟨rfl, xG_k xT_4 110 rfl rfl, xG_k xT_3 63 rfl rfl, xG_k xT_1 18 rfl rfl, xG_k xT_3 64 rfl rfl⟩)), fun _ h => absurd h List.not_mem_nil⟩
set_option maxRecDepth 20000 in
theorem ml0_25 : Cond.methodLink xR0 25 y8_copyFrom ∈ xG := xG_k xT_4 105 rfl rfl
def fl1 : List (Nat × Nat × Nat) := [(24, 1, 0), (11, 1, 1), (15, 1, 2), (18, 1, 3), (21, 1, 4), (39, 10, 4), (46, 10, 7), (56, 2, 13), (62, 2, 2), (69, 2, 11), (72, 2, 1), (75, 2, 5), (78, 2, 0), (88, 10, 6)]
set_option maxRecDepth 20000 in
theorem flk1 : ∀ q ∈ fl1, xfl xR1 q := List.forall_mem_cons.mpr ⟨⟨xR1, xT1, 5, rfl, by decide, xG_k xT_1 229 rfl rfl⟩, List.forall_mem_cons.mpr ⟨⟨xR1, xT1, 5, rfl, by decide, xG_k xT_1 231 rfl rfl⟩, List.forall_mem_cons.mpr ⟨⟨xR1, xT1, 5, rfl, by decide, xG_k xT_1 232 rfl rfl⟩, List.forall_mem_cons.mpr ⟨⟨xR1, xT1, 5, rfl, by decide, xG_k xT_1 233 rfl rfl⟩, List.forall_mem_cons.mpr ⟨⟨xR1, xT1, 5, rfl, by decide, xG_k xT_1 234 rfl rfl⟩, List.forall_mem_cons.mpr ⟨⟨xR10, xT10, 8, rfl, by decide, xG_k xT_1 46 rfl rfl⟩, List.forall_mem_cons.mpr ⟨⟨xR10, xT10, 8, rfl, by decide, xG_k xT_1 54 rfl rfl⟩, List.forall_mem_cons.mpr ⟨⟨xR2, xT2, 17, rfl, by decide, xG_k xT_1 151 rfl rfl⟩, List.forall_mem_cons.mpr ⟨⟨xR2, xT2, 17, rfl, by decide, xG_k xT_1 116 rfl rfl⟩, List.forall_mem_cons.mpr ⟨⟨xR2, xT2, 17, rfl, by decide, xG_k xT_1 145 rfl rfl⟩, List.forall_mem_cons.mpr ⟨⟨xR2, xT2, 17, rfl, by decide, xG_k xT_1 110 rfl rfl⟩, List.forall_mem_cons.mpr ⟨⟨xR2, xT2, 17, rfl, by decide, xG_k xT_1 126 rfl rfl⟩, List.forall_mem_cons.mpr ⟨⟨xR2, xT2, 17, rfl, by decide, xG_k xT_1 104 rfl rfl⟩, List.forall_mem_cons.mpr ⟨⟨xR10, xT10, 8, rfl, by decide, xG_k xT_1 50 rfl rfl⟩, fun _ h => absurd h List.not_mem_nil⟩⟩⟩⟩⟩⟩⟩⟩⟩⟩⟩⟩⟩⟩
def cl1 : List (Nat × Int32) := []
set_option maxRecDepth 20000 in
theorem clk1 : ∀ q ∈ cl1, Cond.constant xR1 q.1 q.2 ∈ xG := fun _ h => absurd h List.not_mem_nil
def ll1 : List (Nat × Int64) := []
set_option maxRecDepth 20000 in
theorem llk1 : ∀ q ∈ ll1, Cond.constantLong xR1 q.1 q.2 ∈ xG := fun _ h => absurd h List.not_mem_nil
def jl1 : List (Nat × Nat) := [(28, 4)]
set_option maxRecDepth 20000 in
theorem jlk1 : ∀ q ∈ jl1, xjd xR1 q := List.forall_mem_cons.mpr ⟨Or.inr (Or.inr (Or.inr (⟨rfl, xG_k xT_4 36 rfl rfl, xG_k xT_3 219 rfl rfl, xG_k xT_3 218 rfl rfl, xG_k xT_1 20 rfl rfl⟩))), fun _ h => absurd h List.not_mem_nil⟩
set_option maxRecDepth 20000 in
theorem ml1_34 : Cond.methodLink xR1 34 y10_begin ∈ xG := xG_k xT_4 18 rfl rfl
set_option maxRecDepth 20000 in
theorem ml1_42 : Cond.methodLink xR1 42 y1_readLine ∈ xG := xG_k xT_4 19 rfl rfl
set_option maxRecDepth 20000 in
theorem ml1_49 : Cond.methodLink xR1 49 y10_wrong ∈ xG := xG_k xT_4 23 rfl rfl
set_option maxRecDepth 20000 in
theorem ml1_53 : Cond.methodLink xR1 53 y10_advance ∈ xG := xG_k xT_4 24 rfl rfl
set_option maxRecDepth 20000 in
theorem ml1_65 : Cond.methodLink xR1 65 y1_readName ∈ xG := xG_k xT_4 25 rfl rfl
set_option maxRecDepth 20000 in
theorem ml1_81 : Cond.methodLink xR1 81 y10_take ∈ xG := xG_k xT_4 31 rfl rfl
set_option maxRecDepth 20000 in
theorem ml1_84 : Cond.methodLink xR1 84 y10_isName ∈ xG := xG_k xT_4 29 rfl rfl
set_option maxRecDepth 20000 in
theorem ml1_92 : Cond.methodLink xR1 92 y2_find ∈ xG := xG_k xT_4 30 rfl rfl
set_option maxRecDepth 20000 in
theorem ml1_96 : Cond.methodLink xR1 96 y8_begin ∈ xG := xG_k xT_4 222 rfl rfl
set_option maxRecDepth 20000 in
theorem ml1_99 : Cond.methodLink xR1 99 y1_play ∈ xG := xG_k xT_4 223 rfl rfl
set_option maxRecDepth 20000 in
theorem ml1_103 : Cond.methodLink xR1 103 y8_whoIs ∈ xG := xG_k xT_4 234 rfl rfl
set_option maxRecDepth 20000 in
theorem ml1_107 : Cond.methodLink xR1 107 yJ_bitCount ∈ xG := xG_k xT_4 235 rfl rfl
set_option maxRecDepth 20000 in
theorem ml1_112 : Cond.methodLink xR1 112 y8_pass ∈ xG := xG_k xT_4 227 rfl rfl
set_option maxRecDepth 20000 in
theorem ml1_116 : Cond.methodLink xR1 116 y8_canAsk ∈ xG := xG_k xT_4 228 rfl rfl
set_option maxRecDepth 20000 in
theorem ml1_119 : Cond.methodLink xR1 119 y8_openGap ∈ xG := xG_k xT_4 229 rfl rfl
set_option maxRecDepth 20000 in
theorem ml1_122 : Cond.methodLink xR1 122 y8_canStop ∈ xG := xG_k xT_4 230 rfl rfl
set_option maxRecDepth 20000 in
theorem ml1_125 : Cond.methodLink xR1 125 y8_closeGap ∈ xG := xG_k xT_4 231 rfl rfl
set_option maxRecDepth 20000 in
theorem ml1_129 : Cond.methodLink xR1 129 y8_canCast ∈ xG := xG_k xT_4 232 rfl rfl
set_option maxRecDepth 20000 in
theorem ml1_133 : Cond.methodLink xR1 133 y8_giveBelt ∈ xG := xG_k xT_4 233 rfl rfl
def fl2 : List (Nat × Nat × Nat) := [(53, 2, 0), (57, 2, 1), (60, 2, 2), (63, 2, 3), (66, 2, 4), (49, 2, 16), (9, 2, 5), (15, 2, 6), (19, 2, 7), (22, 2, 8), (25, 2, 9), (28, 2, 10), (31, 2, 11), (34, 2, 12), (37, 2, 13), (40, 2, 14), (43, 2, 15)]
set_option maxRecDepth 20000 in
theorem flk2 : ∀ q ∈ fl2, xfl xR2 q := List.forall_mem_cons.mpr ⟨⟨xR2, xT2, 17, rfl, by decide, xG_k xT_1 101 rfl rfl⟩, List.forall_mem_cons.mpr ⟨⟨xR2, xT2, 17, rfl, by decide, xG_k xT_1 107 rfl rfl⟩, List.forall_mem_cons.mpr ⟨⟨xR2, xT2, 17, rfl, by decide, xG_k xT_1 113 rfl rfl⟩, List.forall_mem_cons.mpr ⟨⟨xR2, xT2, 17, rfl, by decide, xG_k xT_1 118 rfl rfl⟩, List.forall_mem_cons.mpr ⟨⟨xR2, xT2, 17, rfl, by decide, xG_k xT_1 121 rfl rfl⟩, List.forall_mem_cons.mpr ⟨⟨xR2, xT2, 17, rfl, by decide, xG_k xT_1 160 rfl rfl⟩, List.forall_mem_cons.mpr ⟨⟨xR2, xT2, 17, rfl, by decide, xG_k xT_1 124 rfl rfl⟩, List.forall_mem_cons.mpr ⟨⟨xR2, xT2, 17, rfl, by decide, xG_k xT_1 127 rfl rfl⟩, List.forall_mem_cons.mpr ⟨⟨xR2, xT2, 17, rfl, by decide, xG_k xT_1 130 rfl rfl⟩, List.forall_mem_cons.mpr ⟨⟨xR2, xT2, 17, rfl, by decide, xG_k xT_1 133 rfl rfl⟩, List.forall_mem_cons.mpr ⟨⟨xR2, xT2, 17, rfl, by decide, xG_k xT_1 137 rfl rfl⟩, List.forall_mem_cons.mpr ⟨⟨xR2, xT2, 17, rfl, by decide, xG_k xT_1 140 rfl rfl⟩, List.forall_mem_cons.mpr ⟨⟨xR2, xT2, 17, rfl, by decide, xG_k xT_1 143 rfl rfl⟩, List.forall_mem_cons.mpr ⟨⟨xR2, xT2, 17, rfl, by decide, xG_k xT_1 146 rfl rfl⟩, List.forall_mem_cons.mpr ⟨⟨xR2, xT2, 17, rfl, by decide, xG_k xT_1 149 rfl rfl⟩, List.forall_mem_cons.mpr ⟨⟨xR2, xT2, 17, rfl, by decide, xG_k xT_1 152 rfl rfl⟩, List.forall_mem_cons.mpr ⟨⟨xR2, xT2, 17, rfl, by decide, xG_k xT_1 156 rfl rfl⟩, fun _ h => absurd h List.not_mem_nil⟩⟩⟩⟩⟩⟩⟩⟩⟩⟩⟩⟩⟩⟩⟩⟩⟩
def cl2 : List (Nat × Int32) := []
set_option maxRecDepth 20000 in
theorem clk2 : ∀ q ∈ cl2, Cond.constant xR2 q.1 q.2 ∈ xG := fun _ h => absurd h List.not_mem_nil
def ll2 : List (Nat × Int64) := []
set_option maxRecDepth 20000 in
theorem llk2 : ∀ q ∈ ll2, Cond.constantLong xR2 q.1 q.2 ∈ xG := fun _ h => absurd h List.not_mem_nil
def jl2 : List (Nat × Nat) := [(72, 4)]
set_option maxRecDepth 20000 in
theorem jlk2 : ∀ q ∈ jl2, xjd xR2 q := List.forall_mem_cons.mpr ⟨Or.inr (Or.inr (Or.inr (⟨rfl, xG_k xT_3 217 rfl rfl, xG_k xT_3 219 rfl rfl, xG_k xT_3 218 rfl rfl, xG_k xT_1 20 rfl rfl⟩))), fun _ h => absurd h List.not_mem_nil⟩
set_option maxRecDepth 20000 in
theorem ml2_69 : Cond.methodLink xR2 69 y4_clear ∈ xG := xG_k xT_2 205 rfl rfl
set_option maxRecDepth 20000 in
theorem ml2_78 : Cond.methodLink xR2 78 y4_copyFrom ∈ xG := xG_k xT_3 220 rfl rfl
set_option maxRecDepth 20000 in
theorem ml2_82 : Cond.methodLink xR2 82 y2_find ∈ xG := xG_k xT_3 129 rfl rfl
set_option maxRecDepth 20000 in
theorem ml2_86 : Cond.methodLink xR2 86 y2_isBorne ∈ xG := xG_k xT_5 135 rfl rfl
set_option maxRecDepth 20000 in
theorem ml2_90 : Cond.methodLink xR2 90 yJ_bitCount ∈ xG := xG_k xT_5 114 rfl rfl
set_option maxRecDepth 20000 in
theorem ml2_96 : Cond.methodLink xR2 96 y2_beltsFrom ∈ xG := xG_k xT_5 115 rfl rfl
set_option maxRecDepth 20000 in
theorem ml2_100 : Cond.methodLink xR2 100 y2_guestsFrom ∈ xG := xG_k xT_5 119 rfl rfl
def fl3 : List (Nat × Nat × Nat) := [(22, 8, 6), (13, 3, 0), (26, 8, 7)]
set_option maxRecDepth 20000 in
theorem flk3 : ∀ q ∈ fl3, xfl xR3 q := List.forall_mem_cons.mpr ⟨⟨xR8, xT8, 9, rfl, by decide, xG_k xT_2 22 rfl rfl⟩, List.forall_mem_cons.mpr ⟨⟨xR3, xT3, 1, rfl, by decide, xG_k xT_2 113 rfl rfl⟩, List.forall_mem_cons.mpr ⟨⟨xR8, xT8, 9, rfl, by decide, xG_k xT_2 25 rfl rfl⟩, fun _ h => absurd h List.not_mem_nil⟩⟩⟩
def cl3 : List (Nat × Int32) := []
set_option maxRecDepth 20000 in
theorem clk3 : ∀ q ∈ cl3, Cond.constant xR3 q.1 q.2 ∈ xG := fun _ h => absurd h List.not_mem_nil
def ll3 : List (Nat × Int64) := []
set_option maxRecDepth 20000 in
theorem llk3 : ∀ q ∈ ll3, Cond.constantLong xR3 q.1 q.2 ∈ xG := fun _ h => absurd h List.not_mem_nil
def jl3 : List (Nat × Nat) := [(58, 1)]
set_option maxRecDepth 20000 in
theorem jlk3 : ∀ q ∈ jl3, xjd xR3 q := List.forall_mem_cons.mpr ⟨Or.inl (⟨rfl, xG_k xT_5 233 rfl rfl, xG_k xT_3 60 rfl rfl, xG_k xT_1 18 rfl rfl, xG_k xT_3 61 rfl rfl⟩), fun _ h => absurd h List.not_mem_nil⟩
set_option maxRecDepth 20000 in
theorem ml3_17 : Cond.methodLink xR3 17 y8_begin ∈ xG := xG_k xT_5 200 rfl rfl
set_option maxRecDepth 20000 in
theorem ml3_29 : Cond.methodLink xR3 29 y8_pass ∈ xG := xG_k xT_5 201 rfl rfl
set_option maxRecDepth 20000 in
theorem ml3_33 : Cond.methodLink xR3 33 y9_allows ∈ xG := xG_k xT_5 206 rfl rfl
set_option maxRecDepth 20000 in
theorem ml3_37 : Cond.methodLink xR3 37 y3_possible ∈ xG := xG_k xT_5 222 rfl rfl
set_option maxRecDepth 20000 in
theorem ml3_41 : Cond.methodLink xR3 41 yJ_bitCount ∈ xG := xG_k xT_5 223 rfl rfl
set_option maxRecDepth 20000 in
theorem ml3_47 : Cond.methodLink xR3 47 y3_mostAlike ∈ xG := xG_k xT_5 224 rfl rfl
set_option maxRecDepth 20000 in
theorem ml3_51 : Cond.methodLink xR3 51 y3_depthBehind ∈ xG := xG_k xT_5 228 rfl rfl
set_option maxRecDepth 20000 in
theorem ml3_54 : Cond.methodLink xR3 54 y3_manyAsDeep ∈ xG := xG_k xT_5 229 rfl rfl
def fl4 : List (Nat × Nat × Nat) := [(18, 4, 1), (9, 4, 0), (32, 4, 3), (15, 4, 2)]
set_option maxRecDepth 20000 in
theorem flk4 : ∀ q ∈ fl4, xfl xR4 q := List.forall_mem_cons.mpr ⟨⟨xR4, xT4, 4, rfl, by decide, xG_k xT_1 87 rfl rfl⟩, List.forall_mem_cons.mpr ⟨⟨xR4, xT4, 4, rfl, by decide, xG_k xT_1 86 rfl rfl⟩, List.forall_mem_cons.mpr ⟨⟨xR4, xT4, 4, rfl, by decide, xG_k xT_1 89 rfl rfl⟩, List.forall_mem_cons.mpr ⟨⟨xR4, xT4, 4, rfl, by decide, xG_k xT_1 88 rfl rfl⟩, fun _ h => absurd h List.not_mem_nil⟩⟩⟩⟩
def cl4 : List (Nat × Int32) := []
set_option maxRecDepth 20000 in
theorem clk4 : ∀ q ∈ cl4, Cond.constant xR4 q.1 q.2 ∈ xG := fun _ h => absurd h List.not_mem_nil
def ll4 : List (Nat × Int64) := []
set_option maxRecDepth 20000 in
theorem llk4 : ∀ q ∈ ll4, Cond.constantLong xR4 q.1 q.2 ∈ xG := fun _ h => absurd h List.not_mem_nil
def jl4 : List (Nat × Nat) := [(22, 4)]
set_option maxRecDepth 20000 in
theorem jlk4 : ∀ q ∈ jl4, xjd xR4 q := List.forall_mem_cons.mpr ⟨Or.inr (Or.inr (Or.inr (⟨rfl, xG_k xT_3 224 rfl rfl, xG_k xT_3 219 rfl rfl, xG_k xT_3 218 rfl rfl, xG_k xT_1 20 rfl rfl⟩))), fun _ h => absurd h List.not_mem_nil⟩
set_option maxRecDepth 20000 in
theorem ml4_28 : Cond.methodLink xR4 28 y4_add ∈ xG := xG_k xT_3 201 rfl rfl
set_option maxRecDepth 20000 in
theorem ml4_35 : Cond.methodLink xR4 35 y4_push ∈ xG := xG_k xT_4 193 rfl rfl
set_option maxRecDepth 20000 in
theorem ml4_38 : Cond.methodLink xR4 38 y4_pop ∈ xG := xG_k xT_4 197 rfl rfl
set_option maxRecDepth 20000 in
theorem ml4_42 : Cond.methodLink xR4 42 y4_joined ∈ xG := xG_k xT_4 201 rfl rfl
def fl5 : List (Nat × Nat × Nat) := [(25, 5, 0), (21, 5, 1), (10, 5, 2)]
set_option maxRecDepth 20000 in
theorem flk5 : ∀ q ∈ fl5, xfl xR5 q := List.forall_mem_cons.mpr ⟨⟨xR5, xT5, 3, rfl, by decide, xG_k xT_2 95 rfl rfl⟩, List.forall_mem_cons.mpr ⟨⟨xR5, xT5, 3, rfl, by decide, xG_k xT_2 96 rfl rfl⟩, List.forall_mem_cons.mpr ⟨⟨xR5, xT5, 3, rfl, by decide, xG_k xT_2 97 rfl rfl⟩, fun _ h => absurd h List.not_mem_nil⟩⟩⟩
def cl5 : List (Nat × Int32) := []
set_option maxRecDepth 20000 in
theorem clk5 : ∀ q ∈ cl5, Cond.constant xR5 q.1 q.2 ∈ xG := fun _ h => absurd h List.not_mem_nil
def ll5 : List (Nat × Int64) := []
set_option maxRecDepth 20000 in
theorem llk5 : ∀ q ∈ ll5, Cond.constantLong xR5 q.1 q.2 ∈ xG := fun _ h => absurd h List.not_mem_nil
def jl5 : List (Nat × Nat) := []
set_option maxRecDepth 20000 in
theorem jlk5 : ∀ q ∈ jl5, xjd xR5 q := fun _ h => absurd h List.not_mem_nil
set_option maxRecDepth 20000 in
theorem ml5_29 : Cond.methodLink xR5 29 y8_copyFrom ∈ xG := xG_k xT_6 35 rfl rfl
set_option maxRecDepth 20000 in
theorem ml5_33 : Cond.methodLink xR5 33 y9_copyFrom ∈ xG := xG_k xT_6 36 rfl rfl
def fl6 : List (Nat × Nat × Nat) := [(32, 6, 2), (9, 6, 3), (15, 6, 4), (24, 6, 0), (40, 2, 2), (28, 6, 1), (65, 2, 0), (18, 6, 5), (21, 6, 6), (75, 2, 1)]
set_option maxRecDepth 20000 in
theorem flk6 : ∀ q ∈ fl6, xfl xR6 q := List.forall_mem_cons.mpr ⟨⟨xR6, xT6, 7, rfl, by decide, xG_k xT_2 125 rfl rfl⟩, List.forall_mem_cons.mpr ⟨⟨xR6, xT6, 7, rfl, by decide, xG_k xT_2 127 rfl rfl⟩, List.forall_mem_cons.mpr ⟨⟨xR6, xT6, 7, rfl, by decide, xG_k xT_2 129 rfl rfl⟩, List.forall_mem_cons.mpr ⟨⟨xR6, xT6, 7, rfl, by decide, xG_k xT_2 123 rfl rfl⟩, List.forall_mem_cons.mpr ⟨⟨xR2, xT2, 17, rfl, by decide, xG_k xT_1 115 rfl rfl⟩, List.forall_mem_cons.mpr ⟨⟨xR6, xT6, 7, rfl, by decide, xG_k xT_2 124 rfl rfl⟩, List.forall_mem_cons.mpr ⟨⟨xR2, xT2, 17, rfl, by decide, xG_k xT_1 103 rfl rfl⟩, List.forall_mem_cons.mpr ⟨⟨xR6, xT6, 7, rfl, by decide, xG_k xT_2 131 rfl rfl⟩, List.forall_mem_cons.mpr ⟨⟨xR6, xT6, 7, rfl, by decide, xG_k xT_2 132 rfl rfl⟩, List.forall_mem_cons.mpr ⟨⟨xR2, xT2, 17, rfl, by decide, xG_k xT_1 109 rfl rfl⟩, fun _ h => absurd h List.not_mem_nil⟩⟩⟩⟩⟩⟩⟩⟩⟩⟩
def cl6 : List (Nat × Int32) := []
set_option maxRecDepth 20000 in
theorem clk6 : ∀ q ∈ cl6, Cond.constant xR6 q.1 q.2 ∈ xG := fun _ h => absurd h List.not_mem_nil
def ll6 : List (Nat × Int64) := []
set_option maxRecDepth 20000 in
theorem llk6 : ∀ q ∈ ll6, Cond.constantLong xR6 q.1 q.2 ∈ xG := fun _ h => absurd h List.not_mem_nil
def jl6 : List (Nat × Nat) := []
set_option maxRecDepth 20000 in
theorem jlk6 : ∀ q ∈ jl6, xjd xR6 q := fun _ h => absurd h List.not_mem_nil
set_option maxRecDepth 20000 in
theorem ml6_36 : Cond.methodLink xR6 36 y6_chooseGuests ∈ xG := xG_k xT_5 85 rfl rfl
set_option maxRecDepth 20000 in
theorem ml6_45 : Cond.methodLink xR6 45 yJ_bitCount ∈ xG := xG_k xT_5 89 rfl rfl
set_option maxRecDepth 20000 in
theorem ml6_51 : Cond.methodLink xR6 51 y8_wall ∈ xG := xG_k xT_5 90 rfl rfl
set_option maxRecDepth 20000 in
theorem ml6_57 : Cond.methodLink xR6 57 y6_chooseBelts ∈ xG := xG_k xT_5 91 rfl rfl
set_option maxRecDepth 20000 in
theorem ml6_61 : Cond.methodLink xR6 61 y6_keepTried ∈ xG := xG_k xT_5 96 rfl rfl
set_option maxRecDepth 20000 in
theorem ml6_68 : Cond.methodLink xR6 68 y8_isCrying ∈ xG := xG_k xT_5 100 rfl rfl
set_option maxRecDepth 20000 in
theorem ml6_72 : Cond.methodLink xR6 72 y8_canReach ∈ xG := xG_k xT_5 101 rfl rfl
set_option maxRecDepth 20000 in
theorem ml6_78 : Cond.methodLink xR6 78 y2_isBorne ∈ xG := xG_k xT_5 95 rfl rfl
def fl7 : List (Nat × Nat × Nat) := [(12, 7, 0), (25, 7, 2), (29, 7, 3), (32, 7, 4), (18, 7, 1), (40, 10, 4), (44, 2, 0), (51, 2, 1), (57, 2, 2), (76, 10, 7), (82, 2, 5), (90, 2, 6), (97, 2, 7), (104, 2, 8), (107, 2, 9), (110, 2, 10), (119, 2, 11), (122, 2, 12), (125, 2, 13), (128, 2, 14), (131, 2, 15), (138, 10, 5), (141, 2, 3), (144, 2, 4), (153, 10, 6), (179, 2, 16)]
set_option maxRecDepth 20000 in
theorem flk7 : ∀ q ∈ fl7, xfl xR7 q := List.forall_mem_cons.mpr ⟨⟨xR7, xT7, 5, rfl, by decide, xG_k xT_1 206 rfl rfl⟩, List.forall_mem_cons.mpr ⟨⟨xR7, xT7, 5, rfl, by decide, xG_k xT_1 209 rfl rfl⟩, List.forall_mem_cons.mpr ⟨⟨xR7, xT7, 5, rfl, by decide, xG_k xT_1 210 rfl rfl⟩, List.forall_mem_cons.mpr ⟨⟨xR7, xT7, 5, rfl, by decide, xG_k xT_1 211 rfl rfl⟩, List.forall_mem_cons.mpr ⟨⟨xR7, xT7, 5, rfl, by decide, xG_k xT_1 208 rfl rfl⟩, List.forall_mem_cons.mpr ⟨⟨xR10, xT10, 8, rfl, by decide, xG_k xT_1 45 rfl rfl⟩, List.forall_mem_cons.mpr ⟨⟨xR2, xT2, 17, rfl, by decide, xG_k xT_1 102 rfl rfl⟩, List.forall_mem_cons.mpr ⟨⟨xR2, xT2, 17, rfl, by decide, xG_k xT_1 108 rfl rfl⟩, List.forall_mem_cons.mpr ⟨⟨xR2, xT2, 17, rfl, by decide, xG_k xT_1 114 rfl rfl⟩, List.forall_mem_cons.mpr ⟨⟨xR10, xT10, 8, rfl, by decide, xG_k xT_1 53 rfl rfl⟩, List.forall_mem_cons.mpr ⟨⟨xR2, xT2, 17, rfl, by decide, xG_k xT_1 125 rfl rfl⟩, List.forall_mem_cons.mpr ⟨⟨xR2, xT2, 17, rfl, by decide, xG_k xT_1 128 rfl rfl⟩, List.forall_mem_cons.mpr ⟨⟨xR2, xT2, 17, rfl, by decide, xG_k xT_1 132 rfl rfl⟩, List.forall_mem_cons.mpr ⟨⟨xR2, xT2, 17, rfl, by decide, xG_k xT_1 134 rfl rfl⟩, List.forall_mem_cons.mpr ⟨⟨xR2, xT2, 17, rfl, by decide, xG_k xT_1 139 rfl rfl⟩, List.forall_mem_cons.mpr ⟨⟨xR2, xT2, 17, rfl, by decide, xG_k xT_1 141 rfl rfl⟩, List.forall_mem_cons.mpr ⟨⟨xR2, xT2, 17, rfl, by decide, xG_k xT_1 144 rfl rfl⟩, List.forall_mem_cons.mpr ⟨⟨xR2, xT2, 17, rfl, by decide, xG_k xT_1 147 rfl rfl⟩, List.forall_mem_cons.mpr ⟨⟨xR2, xT2, 17, rfl, by decide, xG_k xT_1 150 rfl rfl⟩, List.forall_mem_cons.mpr ⟨⟨xR2, xT2, 17, rfl, by decide, xG_k xT_1 153 rfl rfl⟩, List.forall_mem_cons.mpr ⟨⟨xR2, xT2, 17, rfl, by decide, xG_k xT_1 157 rfl rfl⟩, List.forall_mem_cons.mpr ⟨⟨xR10, xT10, 8, rfl, by decide, xG_k xT_1 48 rfl rfl⟩, List.forall_mem_cons.mpr ⟨⟨xR2, xT2, 17, rfl, by decide, xG_k xT_1 120 rfl rfl⟩, List.forall_mem_cons.mpr ⟨⟨xR2, xT2, 17, rfl, by decide, xG_k xT_1 123 rfl rfl⟩, List.forall_mem_cons.mpr ⟨⟨xR10, xT10, 8, rfl, by decide, xG_k xT_1 52 rfl rfl⟩, List.forall_mem_cons.mpr ⟨⟨xR2, xT2, 17, rfl, by decide, xG_k xT_1 161 rfl rfl⟩, fun _ h => absurd h List.not_mem_nil⟩⟩⟩⟩⟩⟩⟩⟩⟩⟩⟩⟩⟩⟩⟩⟩⟩⟩⟩⟩⟩⟩⟩⟩⟩⟩
def cl7 : List (Nat × Int32) := []
set_option maxRecDepth 20000 in
theorem clk7 : ∀ q ∈ cl7, Cond.constant xR7 q.1 q.2 ∈ xG := fun _ h => absurd h List.not_mem_nil
def ll7 : List (Nat × Int64) := []
set_option maxRecDepth 20000 in
theorem llk7 : ∀ q ∈ ll7, Cond.constantLong xR7 q.1 q.2 ∈ xG := fun _ h => absurd h List.not_mem_nil
def jl7 : List (Nat × Nat) := []
set_option maxRecDepth 20000 in
theorem jlk7 : ∀ q ∈ jl7, xjd xR7 q := fun _ h => absurd h List.not_mem_nil
set_option maxRecDepth 20000 in
theorem ml7_22 : Cond.methodLink xR7 22 y2_clear ∈ xG := xG_k xT_2 201 rfl rfl
set_option maxRecDepth 20000 in
theorem ml7_35 : Cond.methodLink xR7 35 y10_begin ∈ xG := xG_k xT_2 209 rfl rfl
set_option maxRecDepth 20000 in
theorem ml7_47 : Cond.methodLink xR7 47 y7_readGuest ∈ xG := xG_k xT_3 103 rfl rfl
set_option maxRecDepth 20000 in
theorem ml7_54 : Cond.methodLink xR7 54 y7_readBelt ∈ xG := xG_k xT_3 152 rfl rfl
set_option maxRecDepth 20000 in
theorem ml7_60 : Cond.methodLink xR7 60 y7_readMan ∈ xG := xG_k xT_3 156 rfl rfl
set_option maxRecDepth 20000 in
theorem ml7_63 : Cond.methodLink xR7 63 y7_readGaps ∈ xG := xG_k xT_3 160 rfl rfl
set_option maxRecDepth 20000 in
theorem ml7_67 : Cond.methodLink xR7 67 y7_readWater ∈ xG := xG_k xT_3 164 rfl rfl
set_option maxRecDepth 20000 in
theorem ml7_70 : Cond.methodLink xR7 70 y7_readLaw ∈ xG := xG_k xT_3 168 rfl rfl
set_option maxRecDepth 20000 in
theorem ml7_73 : Cond.methodLink xR7 73 y10_wrong ∈ xG := xG_k xT_3 107 rfl rfl
set_option maxRecDepth 20000 in
theorem ml7_79 : Cond.methodLink xR7 79 y10_advance ∈ xG := xG_k xT_3 111 rfl rfl
set_option maxRecDepth 20000 in
theorem ml7_86 : Cond.methodLink xR7 86 y7_readName ∈ xG := xG_k xT_3 112 rfl rfl
set_option maxRecDepth 20000 in
theorem ml7_93 : Cond.methodLink xR7 93 y7_readKind ∈ xG := xG_k xT_3 132 rfl rfl
set_option maxRecDepth 20000 in
theorem ml7_100 : Cond.methodLink xR7 100 y7_readMeasure ∈ xG := xG_k xT_3 136 rfl rfl
set_option maxRecDepth 20000 in
theorem ml7_113 : Cond.methodLink xR7 113 y10_take ∈ xG := xG_k xT_3 144 rfl rfl
set_option maxRecDepth 20000 in
theorem ml7_116 : Cond.methodLink xR7 116 y2_addGuest ∈ xG := xG_k xT_3 148 rfl rfl
set_option maxRecDepth 20000 in
theorem ml7_134 : Cond.methodLink xR7 134 y10_isNumber ∈ xG := xG_k xT_3 140 rfl rfl
set_option maxRecDepth 20000 in
theorem ml7_147 : Cond.methodLink xR7 147 y7_readE ∈ xG := xG_k xT_3 172 rfl rfl
set_option maxRecDepth 20000 in
theorem ml7_150 : Cond.methodLink xR7 150 y10_isName ∈ xG := xG_k xT_3 116 rfl rfl
set_option maxRecDepth 20000 in
theorem ml7_157 : Cond.methodLink xR7 157 y2_isTold ∈ xG := xG_k xT_3 125 rfl rfl
set_option maxRecDepth 20000 in
theorem ml7_161 : Cond.methodLink xR7 161 y7_readTest ∈ xG := xG_k xT_3 176 rfl rfl
set_option maxRecDepth 20000 in
theorem ml7_164 : Cond.methodLink xR7 164 y7_write ∈ xG := xG_k xT_3 193 rfl rfl
set_option maxRecDepth 20000 in
theorem ml7_167 : Cond.methodLink xR7 167 y7_readSum ∈ xG := xG_k xT_3 180 rfl rfl
set_option maxRecDepth 20000 in
theorem ml7_170 : Cond.methodLink xR7 170 y7_readProduct ∈ xG := xG_k xT_3 184 rfl rfl
set_option maxRecDepth 20000 in
theorem ml7_173 : Cond.methodLink xR7 173 y7_readPart ∈ xG := xG_k xT_3 188 rfl rfl
set_option maxRecDepth 20000 in
theorem ml7_176 : Cond.methodLink xR7 176 y10_isFact ∈ xG := xG_k xT_3 192 rfl rfl
set_option maxRecDepth 20000 in
theorem ml7_183 : Cond.methodLink xR7 183 y4_addNumber ∈ xG := xG_k xT_3 205 rfl rfl
set_option maxRecDepth 20000 in
theorem ml7_189 : Cond.methodLink xR7 189 y4_addKind ∈ xG := xG_k xT_3 197 rfl rfl
def fl8 : List (Nat × Nat × Nat) := [(9, 8, 1), (24, 8, 0), (28, 2, 7), (15, 8, 2), (31, 2, 9), (18, 8, 3), (21, 8, 4), (32, 8, 5), (36, 2, 3), (39, 8, 6), (40, 2, 4), (43, 8, 7), (46, 8, 8), (59, 2, 0), (69, 2, 1), (78, 2, 8), (97, 2, 14), (105, 2, 15), (142, 2, 16)]
set_option maxRecDepth 20000 in
theorem flk8 : ∀ q ∈ fl8, xfl xR8 q := List.forall_mem_cons.mpr ⟨⟨xR8, xT8, 9, rfl, by decide, xG_k xT_2 13 rfl rfl⟩, List.forall_mem_cons.mpr ⟨⟨xR8, xT8, 9, rfl, by decide, xG_k xT_2 12 rfl rfl⟩, List.forall_mem_cons.mpr ⟨⟨xR2, xT2, 17, rfl, by decide, xG_k xT_1 131 rfl rfl⟩, List.forall_mem_cons.mpr ⟨⟨xR8, xT8, 9, rfl, by decide, xG_k xT_2 15 rfl rfl⟩, List.forall_mem_cons.mpr ⟨⟨xR2, xT2, 17, rfl, by decide, xG_k xT_1 138 rfl rfl⟩, List.forall_mem_cons.mpr ⟨⟨xR8, xT8, 9, rfl, by decide, xG_k xT_2 17 rfl rfl⟩, List.forall_mem_cons.mpr ⟨⟨xR8, xT8, 9, rfl, by decide, xG_k xT_2 19 rfl rfl⟩, List.forall_mem_cons.mpr ⟨⟨xR8, xT8, 9, rfl, by decide, xG_k xT_2 21 rfl rfl⟩, List.forall_mem_cons.mpr ⟨⟨xR2, xT2, 17, rfl, by decide, xG_k xT_1 119 rfl rfl⟩, List.forall_mem_cons.mpr ⟨⟨xR8, xT8, 9, rfl, by decide, xG_k xT_2 23 rfl rfl⟩, List.forall_mem_cons.mpr ⟨⟨xR2, xT2, 17, rfl, by decide, xG_k xT_1 122 rfl rfl⟩, List.forall_mem_cons.mpr ⟨⟨xR8, xT8, 9, rfl, by decide, xG_k xT_2 26 rfl rfl⟩, List.forall_mem_cons.mpr ⟨⟨xR8, xT8, 9, rfl, by decide, xG_k xT_2 28 rfl rfl⟩, List.forall_mem_cons.mpr ⟨⟨xR2, xT2, 17, rfl, by decide, xG_k xT_1 105 rfl rfl⟩, List.forall_mem_cons.mpr ⟨⟨xR2, xT2, 17, rfl, by decide, xG_k xT_1 111 rfl rfl⟩, List.forall_mem_cons.mpr ⟨⟨xR2, xT2, 17, rfl, by decide, xG_k xT_1 136 rfl rfl⟩, List.forall_mem_cons.mpr ⟨⟨xR2, xT2, 17, rfl, by decide, xG_k xT_1 155 rfl rfl⟩, List.forall_mem_cons.mpr ⟨⟨xR2, xT2, 17, rfl, by decide, xG_k xT_1 159 rfl rfl⟩, List.forall_mem_cons.mpr ⟨⟨xR2, xT2, 17, rfl, by decide, xG_k xT_1 162 rfl rfl⟩, fun _ h => absurd h List.not_mem_nil⟩⟩⟩⟩⟩⟩⟩⟩⟩⟩⟩⟩⟩⟩⟩⟩⟩⟩⟩
def cl8 : List (Nat × Int32) := []
set_option maxRecDepth 20000 in
theorem clk8 : ∀ q ∈ cl8, Cond.constant xR8 q.1 q.2 ∈ xG := fun _ h => absurd h List.not_mem_nil
def ll8 : List (Nat × Int64) := []
set_option maxRecDepth 20000 in
theorem llk8 : ∀ q ∈ ll8, Cond.constantLong xR8 q.1 q.2 ∈ xG := fun _ h => absurd h List.not_mem_nil
def jl8 : List (Nat × Nat) := [(49, 4), (100, 3), (152, 2), (156, 1)]
set_option maxRecDepth 20000 in
theorem jlk8 : ∀ q ∈ jl8, xjd xR8 q := List.forall_mem_cons.mpr ⟨Or.inr (Or.inr (Or.inr (⟨rfl, xG_k xT_4 109 rfl rfl, xG_k xT_3 219 rfl rfl, xG_k xT_3 218 rfl rfl, xG_k xT_1 20 rfl rfl⟩))), List.forall_mem_cons.mpr ⟨Or.inr (Or.inr (Or.inl (⟨rfl, xG_k xT_4 98 rfl rfl, xG_k xT_4 99 rfl rfl, xG_k xT_1 18 rfl rfl, xG_k xT_4 100 rfl rfl⟩))), List.forall_mem_cons.mpr ⟨Or.inr (Or.inl (⟨rfl, xG_k xT_4 204 rfl rfl, xG_k xT_3 63 rfl rfl, xG_k xT_1 18 rfl rfl, xG_k xT_3 64 rfl rfl⟩)), List.forall_mem_cons.mpr ⟨Or.inl (⟨rfl, xG_k xT_4 205 rfl rfl, xG_k xT_3 60 rfl rfl, xG_k xT_1 18 rfl rfl, xG_k xT_3 61 rfl rfl⟩), fun _ h => absurd h List.not_mem_nil⟩⟩⟩⟩
set_option maxRecDepth 20000 in
theorem ml8_55 : Cond.methodLink xR8 55 y2_isGuest ∈ xG := xG_k xT_4 93 rfl rfl
set_option maxRecDepth 20000 in
theorem ml8_62 : Cond.methodLink xR8 62 y2_isBelt ∈ xG := xG_k xT_4 82 rfl rfl
set_option maxRecDepth 20000 in
theorem ml8_65 : Cond.methodLink xR8 65 y8_holderOf ∈ xG := xG_k xT_4 83 rfl rfl
set_option maxRecDepth 20000 in
theorem ml8_72 : Cond.methodLink xR8 72 y2_isMan ∈ xG := xG_k xT_4 69 rfl rfl
set_option maxRecDepth 20000 in
theorem ml8_75 : Cond.methodLink xR8 75 y2_canDrown ∈ xG := xG_k xT_4 159 rfl rfl
set_option maxRecDepth 20000 in
theorem ml8_81 : Cond.methodLink xR8 81 y2_isBorne ∈ xG := xG_k xT_4 163 rfl rfl
set_option maxRecDepth 20000 in
theorem ml8_85 : Cond.methodLink xR8 85 y2_isShabby ∈ xG := xG_k xT_4 94 rfl rfl
set_option maxRecDepth 20000 in
theorem ml8_88 : Cond.methodLink xR8 88 y8_wantsBelt ∈ xG := xG_k xT_4 89 rfl rfl
set_option maxRecDepth 20000 in
theorem ml8_91 : Cond.methodLink xR8 91 y8_isCrying ∈ xG := xG_k xT_5 9 rfl rfl
set_option maxRecDepth 20000 in
theorem ml8_94 : Cond.methodLink xR8 94 y8_isFree ∈ xG := xG_k xT_4 88 rfl rfl
set_option maxRecDepth 20000 in
theorem ml8_108 : Cond.methodLink xR8 108 y8_isOnWall ∈ xG := xG_k xT_4 78 rfl rfl
set_option maxRecDepth 20000 in
theorem ml8_111 : Cond.methodLink xR8 111 y8_canReach ∈ xG := xG_k xT_4 84 rfl rfl
set_option maxRecDepth 20000 in
theorem ml8_114 : Cond.methodLink xR8 114 y8_isIn ∈ xG := xG_k xT_4 147 rfl rfl
set_option maxRecDepth 20000 in
theorem ml8_117 : Cond.methodLink xR8 117 y8_drowns ∈ xG := xG_k xT_4 151 rfl rfl
set_option maxRecDepth 20000 in
theorem ml8_120 : Cond.methodLink xR8 120 y8_comeNearer ∈ xG := xG_k xT_4 167 rfl rfl
set_option maxRecDepth 20000 in
theorem ml8_124 : Cond.methodLink xR8 124 y8_rise ∈ xG := xG_k xT_4 171 rfl rfl
set_option maxRecDepth 20000 in
theorem ml8_127 : Cond.methodLink xR8 127 y8_isUnder ∈ xG := xG_k xT_4 155 rfl rfl
set_option maxRecDepth 20000 in
theorem ml8_130 : Cond.methodLink xR8 130 y8_whoIs ∈ xG := xG_k xT_4 175 rfl rfl
set_option maxRecDepth 20000 in
theorem ml8_133 : Cond.methodLink xR8 133 yJ_bitCount ∈ xG := xG_k xT_4 179 rfl rfl
set_option maxRecDepth 20000 in
theorem ml8_138 : Cond.methodLink xR8 138 y8_wall ∈ xG := xG_k xT_4 185 rfl rfl
set_option maxRecDepth 20000 in
theorem ml8_146 : Cond.methodLink xR8 146 y4_value ∈ xG := xG_k xT_4 189 rfl rfl
def fl9 : List (Nat × Nat × Nat) := [(16, 9, 0), (9, 9, 1), (13, 9, 2)]
set_option maxRecDepth 20000 in
theorem flk9 : ∀ q ∈ fl9, xfl xR9 q := List.forall_mem_cons.mpr ⟨⟨xR9, xT9, 3, rfl, by decide, xG_k xT_2 82 rfl rfl⟩, List.forall_mem_cons.mpr ⟨⟨xR9, xT9, 3, rfl, by decide, xG_k xT_2 84 rfl rfl⟩, List.forall_mem_cons.mpr ⟨⟨xR9, xT9, 3, rfl, by decide, xG_k xT_2 85 rfl rfl⟩, fun _ h => absurd h List.not_mem_nil⟩⟩⟩
def cl9 : List (Nat × Int32) := []
set_option maxRecDepth 20000 in
theorem clk9 : ∀ q ∈ cl9, Cond.constant xR9 q.1 q.2 ∈ xG := fun _ h => absurd h List.not_mem_nil
def ll9 : List (Nat × Int64) := []
set_option maxRecDepth 20000 in
theorem llk9 : ∀ q ∈ ll9, Cond.constantLong xR9 q.1 q.2 ∈ xG := fun _ h => absurd h List.not_mem_nil
def jl9 : List (Nat × Nat) := [(20, 4)]
set_option maxRecDepth 20000 in
theorem jlk9 : ∀ q ∈ jl9, xjd xR9 q := List.forall_mem_cons.mpr ⟨Or.inr (Or.inr (Or.inr (⟨rfl, xG_k xT_6 40 rfl rfl, xG_k xT_3 219 rfl rfl, xG_k xT_3 218 rfl rfl, xG_k xT_1 20 rfl rfl⟩))), fun _ h => absurd h List.not_mem_nil⟩
set_option maxRecDepth 20000 in
theorem ml9_26 : Cond.methodLink xR9 26 y3_depthBehind ∈ xG := xG_k xT_5 210 rfl rfl
def fl10 : List (Nat × Nat × Nat) := [(13, 10, 1), (9, 10, 0), (17, 10, 2), (20, 10, 7), (34, 10, 3), (37, 10, 4), (43, 10, 6), (56, 10, 5)]
set_option maxRecDepth 20000 in
theorem flk10 : ∀ q ∈ fl10, xfl xR10 q := List.forall_mem_cons.mpr ⟨⟨xR10, xT10, 8, rfl, by decide, xG_k xT_1 41 rfl rfl⟩, List.forall_mem_cons.mpr ⟨⟨xR10, xT10, 8, rfl, by decide, xG_k xT_1 40 rfl rfl⟩, List.forall_mem_cons.mpr ⟨⟨xR10, xT10, 8, rfl, by decide, xG_k xT_1 43 rfl rfl⟩, List.forall_mem_cons.mpr ⟨⟨xR10, xT10, 8, rfl, by decide, xG_k xT_1 55 rfl rfl⟩, List.forall_mem_cons.mpr ⟨⟨xR10, xT10, 8, rfl, by decide, xG_k xT_1 44 rfl rfl⟩, List.forall_mem_cons.mpr ⟨⟨xR10, xT10, 8, rfl, by decide, xG_k xT_1 47 rfl rfl⟩, List.forall_mem_cons.mpr ⟨⟨xR10, xT10, 8, rfl, by decide, xG_k xT_1 51 rfl rfl⟩, List.forall_mem_cons.mpr ⟨⟨xR10, xT10, 8, rfl, by decide, xG_k xT_1 49 rfl rfl⟩, fun _ h => absurd h List.not_mem_nil⟩⟩⟩⟩⟩⟩⟩⟩
def cl10 : List (Nat × Int32) := []
set_option maxRecDepth 20000 in
theorem clk10 : ∀ q ∈ cl10, Cond.constant xR10 q.1 q.2 ∈ xG := fun _ h => absurd h List.not_mem_nil
def ll10 : List (Nat × Int64) := [(47, 32)]
set_option maxRecDepth 20000 in
theorem llk10 : ∀ q ∈ ll10, Cond.constantLong xR10 q.1 q.2 ∈ xG := List.forall_mem_cons.mpr ⟨xG_k xT_2 227 rfl rfl, fun _ h => absurd h List.not_mem_nil⟩
def jl10 : List (Nat × Nat) := []
set_option maxRecDepth 20000 in
theorem jlk10 : ∀ q ∈ jl10, xjd xR10 q := fun _ h => absurd h List.not_mem_nil
set_option maxRecDepth 20000 in
theorem ml10_23 : Cond.methodLink xR10 23 y10_advance ∈ xG := xG_k xT_2 213 rfl rfl
set_option maxRecDepth 20000 in
theorem ml10_26 : Cond.methodLink xR10 26 y10_signAt ∈ xG := xG_k xT_2 217 rfl rfl
set_option maxRecDepth 20000 in
theorem ml10_30 : Cond.methodLink xR10 30 y10_isBlank ∈ xG := xG_k xT_2 221 rfl rfl
set_option maxRecDepth 20000 in
theorem ml10_40 : Cond.methodLink xR10 40 y10_isLetter ∈ xG := xG_k xT_2 224 rfl rfl
set_option maxRecDepth 20000 in
theorem ml10_49 : Cond.methodLink xR10 49 y10_kindOf ∈ xG := xG_k xT_2 228 rfl rfl
set_option maxRecDepth 20000 in
theorem ml10_53 : Cond.methodLink xR10 53 y10_isDigit ∈ xG := xG_k xT_3 40 rfl rfl
set_option maxRecDepth 20000 in
theorem ml10_61 : Cond.methodLink xR10 61 yS_indexOf ∈ xG := xG_k xT_3 44 rfl rfl
set_option maxRecDepth 20000 in
theorem ml10_69 : Cond.methodLink xR10 69 yS_length ∈ xG := xG_k xT_2 232 rfl rfl
set_option maxRecDepth 20000 in
theorem ml10_72 : Cond.methodLink xR10 72 yS_charAt ∈ xG := xG_k xT_3 2 rfl rfl
set_option maxRecDepth 20000 in
theorem ml10_75 : Cond.methodLink xR10 75 y10_isFact ∈ xG := xG_k xT_3 120 rfl rfl
set_option maxRecDepth 20000 in
theorem ml10_79 : Cond.methodLink xR10 79 y10_wrong ∈ xG := xG_k xT_3 124 rfl rfl
def fl11 : List (Nat × Nat × Nat) := [(10, 11, 0), (95, 10, 1), (28, 11, 2), (19, 11, 1), (106, 7, 0), (47, 11, 5), (35, 11, 3), (71, 11, 9), (57, 11, 7), (63, 11, 8), (39, 11, 4), (134, 2, 6), (138, 8, 1), (141, 2, 8), (144, 8, 2), (147, 2, 10), (150, 8, 4), (153, 8, 3), (159, 2, 12), (169, 2, 14), (172, 2, 15), (197, 8, 6), (51, 11, 6), (218, 2, 0), (230, 8, 7), (87, 11, 11), (264, 6, 2), (267, 6, 3), (270, 6, 4), (273, 2, 1), (285, 2, 2), (78, 11, 10), (368, 8, 8), (374, 1, 0), (377, 9, 0), (380, 0, 2)]
set_option maxRecDepth 20000 in
theorem flk11 : ∀ q ∈ fl11, xfl xR11 q := List.forall_mem_cons.mpr ⟨⟨xR11, xT11, 12, rfl, by decide, xG_k xT_2 148 rfl rfl⟩, List.forall_mem_cons.mpr ⟨⟨xR10, xT10, 8, rfl, by decide, xG_k xT_1 42 rfl rfl⟩, List.forall_mem_cons.mpr ⟨⟨xR11, xT11, 12, rfl, by decide, xG_k xT_2 150 rfl rfl⟩, List.forall_mem_cons.mpr ⟨⟨xR11, xT11, 12, rfl, by decide, xG_k xT_2 149 rfl rfl⟩, List.forall_mem_cons.mpr ⟨⟨xR7, xT7, 5, rfl, by decide, xG_k xT_1 207 rfl rfl⟩, List.forall_mem_cons.mpr ⟨⟨xR11, xT11, 12, rfl, by decide, xG_k xT_2 153 rfl rfl⟩, List.forall_mem_cons.mpr ⟨⟨xR11, xT11, 12, rfl, by decide, xG_k xT_2 151 rfl rfl⟩, List.forall_mem_cons.mpr ⟨⟨xR11, xT11, 12, rfl, by decide, xG_k xT_2 157 rfl rfl⟩, List.forall_mem_cons.mpr ⟨⟨xR11, xT11, 12, rfl, by decide, xG_k xT_2 155 rfl rfl⟩, List.forall_mem_cons.mpr ⟨⟨xR11, xT11, 12, rfl, by decide, xG_k xT_2 156 rfl rfl⟩, List.forall_mem_cons.mpr ⟨⟨xR11, xT11, 12, rfl, by decide, xG_k xT_2 152 rfl rfl⟩, List.forall_mem_cons.mpr ⟨⟨xR2, xT2, 17, rfl, by decide, xG_k xT_1 129 rfl rfl⟩, List.forall_mem_cons.mpr ⟨⟨xR8, xT8, 9, rfl, by decide, xG_k xT_2 14 rfl rfl⟩, List.forall_mem_cons.mpr ⟨⟨xR2, xT2, 17, rfl, by decide, xG_k xT_1 135 rfl rfl⟩, List.forall_mem_cons.mpr ⟨⟨xR8, xT8, 9, rfl, by decide, xG_k xT_2 16 rfl rfl⟩, List.forall_mem_cons.mpr ⟨⟨xR2, xT2, 17, rfl, by decide, xG_k xT_1 142 rfl rfl⟩, List.forall_mem_cons.mpr ⟨⟨xR8, xT8, 9, rfl, by decide, xG_k xT_2 20 rfl rfl⟩, List.forall_mem_cons.mpr ⟨⟨xR8, xT8, 9, rfl, by decide, xG_k xT_2 18 rfl rfl⟩, List.forall_mem_cons.mpr ⟨⟨xR2, xT2, 17, rfl, by decide, xG_k xT_1 148 rfl rfl⟩, List.forall_mem_cons.mpr ⟨⟨xR2, xT2, 17, rfl, by decide, xG_k xT_1 154 rfl rfl⟩, List.forall_mem_cons.mpr ⟨⟨xR2, xT2, 17, rfl, by decide, xG_k xT_1 158 rfl rfl⟩, List.forall_mem_cons.mpr ⟨⟨xR8, xT8, 9, rfl, by decide, xG_k xT_2 24 rfl rfl⟩, List.forall_mem_cons.mpr ⟨⟨xR11, xT11, 12, rfl, by decide, xG_k xT_2 154 rfl rfl⟩, List.forall_mem_cons.mpr ⟨⟨xR2, xT2, 17, rfl, by decide, xG_k xT_1 106 rfl rfl⟩, List.forall_mem_cons.mpr ⟨⟨xR8, xT8, 9, rfl, by decide, xG_k xT_2 27 rfl rfl⟩, List.forall_mem_cons.mpr ⟨⟨xR11, xT11, 12, rfl, by decide, xG_k xT_2 159 rfl rfl⟩, List.forall_mem_cons.mpr ⟨⟨xR6, xT6, 7, rfl, by decide, xG_k xT_2 126 rfl rfl⟩, List.forall_mem_cons.mpr ⟨⟨xR6, xT6, 7, rfl, by decide, xG_k xT_2 128 rfl rfl⟩, List.forall_mem_cons.mpr ⟨⟨xR6, xT6, 7, rfl, by decide, xG_k xT_2 130 rfl rfl⟩, List.forall_mem_cons.mpr ⟨⟨xR2, xT2, 17, rfl, by decide, xG_k xT_1 112 rfl rfl⟩, List.forall_mem_cons.mpr ⟨⟨xR2, xT2, 17, rfl, by decide, xG_k xT_1 117 rfl rfl⟩, List.forall_mem_cons.mpr ⟨⟨xR11, xT11, 12, rfl, by decide, xG_k xT_2 158 rfl rfl⟩, List.forall_mem_cons.mpr ⟨⟨xR8, xT8, 9, rfl, by decide, xG_k xT_2 29 rfl rfl⟩, List.forall_mem_cons.mpr ⟨⟨xR1, xT1, 5, rfl, by decide, xG_k xT_1 230 rfl rfl⟩, List.forall_mem_cons.mpr ⟨⟨xR9, xT9, 3, rfl, by decide, xG_k xT_2 83 rfl rfl⟩, List.forall_mem_cons.mpr ⟨⟨xR0, xT0, 3, rfl, by decide, xG_k xT_2 61 rfl rfl⟩, fun _ h => absurd h List.not_mem_nil⟩⟩⟩⟩⟩⟩⟩⟩⟩⟩⟩⟩⟩⟩⟩⟩⟩⟩⟩⟩⟩⟩⟩⟩⟩⟩⟩⟩⟩⟩⟩⟩⟩⟩⟩⟩
def cl11 : List (Nat × Int32) := []
set_option maxRecDepth 20000 in
theorem clk11 : ∀ q ∈ cl11, Cond.constant xR11 q.1 q.2 ∈ xG := fun _ h => absurd h List.not_mem_nil
def ll11 : List (Nat × Int64) := [(353, 1103515245), (355, 12345), (357, 2147483648), (359, 65536)]
set_option maxRecDepth 20000 in
theorem llk11 : ∀ q ∈ ll11, Cond.constantLong xR11 q.1 q.2 ∈ xG := List.forall_mem_cons.mpr ⟨xG_k xT_6 16 rfl rfl, List.forall_mem_cons.mpr ⟨xG_k xT_6 17 rfl rfl, List.forall_mem_cons.mpr ⟨xG_k xT_6 18 rfl rfl, List.forall_mem_cons.mpr ⟨xG_k xT_6 22 rfl rfl, fun _ h => absurd h List.not_mem_nil⟩⟩⟩⟩
def jl11 : List (Nat × Nat) := [(288, 3), (296, 1)]
set_option maxRecDepth 20000 in
theorem jlk11 : ∀ q ∈ jl11, xjd xR11 q := List.forall_mem_cons.mpr ⟨Or.inr (Or.inr (Or.inl (⟨rfl, xG_k xT_5 144 rfl rfl, xG_k xT_4 99 rfl rfl, xG_k xT_1 18 rfl rfl, xG_k xT_4 100 rfl rfl⟩))), List.forall_mem_cons.mpr ⟨Or.inl (⟨rfl, xG_k xT_5 157 rfl rfl, xG_k xT_3 60 rfl rfl, xG_k xT_1 18 rfl rfl, xG_k xT_3 61 rfl rfl⟩), fun _ h => absurd h List.not_mem_nil⟩⟩
set_option maxRecDepth 20000 in
theorem ml11_91 : Cond.methodLink xR11 91 y10_putEight ∈ xG := xG_k xT_2 189 rfl rfl
set_option maxRecDepth 20000 in
theorem ml11_99 : Cond.methodLink xR11 99 y7_read ∈ xG := xG_k xT_2 197 rfl rfl
set_option maxRecDepth 20000 in
theorem ml11_103 : Cond.methodLink xR11 103 y10_clear ∈ xG := xG_k xT_3 209 rfl rfl
set_option maxRecDepth 20000 in
theorem ml11_109 : Cond.methodLink xR11 109 y2_copyFrom ∈ xG := xG_k xT_3 213 rfl rfl
set_option maxRecDepth 20000 in
theorem ml11_112 : Cond.methodLink xR11 112 y8_begin ∈ xG := xG_k xT_3 225 rfl rfl
set_option maxRecDepth 20000 in
theorem ml11_115 : Cond.methodLink xR11 115 y1_clear ∈ xG := xG_k xT_3 229 rfl rfl
set_option maxRecDepth 20000 in
theorem ml11_116 : Cond.methodLink xR11 116 y9_clear ∈ xG := xG_k xT_3 233 rfl rfl
set_option maxRecDepth 20000 in
theorem ml11_117 : Cond.methodLink xR11 117 y0_clear ∈ xG := xG_k xT_3 237 rfl rfl
set_option maxRecDepth 20000 in
theorem ml11_118 : Cond.methodLink xR11 118 y11_liftMarks ∈ xG := xG_k xT_4 1 rfl rfl
set_option maxRecDepth 20000 in
theorem ml11_121 : Cond.methodLink xR11 121 y5_lift ∈ xG := xG_k xT_4 5 rfl rfl
set_option maxRecDepth 20000 in
theorem ml11_124 : Cond.methodLink xR11 124 y1_read ∈ xG := xG_k xT_4 14 rfl rfl
set_option maxRecDepth 20000 in
theorem ml11_127 : Cond.methodLink xR11 127 y1_copyFrom ∈ xG := xG_k xT_4 32 rfl rfl
set_option maxRecDepth 20000 in
theorem ml11_130 : Cond.methodLink xR11 130 y2_isGuest ∈ xG := xG_k xT_4 41 rfl rfl
set_option maxRecDepth 20000 in
theorem ml11_156 : Cond.methodLink xR11 156 y2_isBelt ∈ xG := xG_k xT_4 49 rfl rfl
set_option maxRecDepth 20000 in
theorem ml11_162 : Cond.methodLink xR11 162 y8_holderOf ∈ xG := xG_k xT_4 53 rfl rfl
set_option maxRecDepth 20000 in
theorem ml11_166 : Cond.methodLink xR11 166 y2_isMan ∈ xG := xG_k xT_4 61 rfl rfl
set_option maxRecDepth 20000 in
theorem ml11_175 : Cond.methodLink xR11 175 y8_isFree ∈ xG := xG_k xT_4 65 rfl rfl
set_option maxRecDepth 20000 in
theorem ml11_178 : Cond.methodLink xR11 178 y8_canCast ∈ xG := xG_k xT_4 74 rfl rfl
set_option maxRecDepth 20000 in
theorem ml11_182 : Cond.methodLink xR11 182 y0_keep ∈ xG := xG_k xT_4 101 rfl rfl
set_option maxRecDepth 20000 in
theorem ml11_186 : Cond.methodLink xR11 186 y8_giveBelt ∈ xG := xG_k xT_4 111 rfl rfl
set_option maxRecDepth 20000 in
theorem ml11_190 : Cond.methodLink xR11 190 y8_canAsk ∈ xG := xG_k xT_4 119 rfl rfl
set_option maxRecDepth 20000 in
theorem ml11_194 : Cond.methodLink xR11 194 y8_openGap ∈ xG := xG_k xT_4 123 rfl rfl
set_option maxRecDepth 20000 in
theorem ml11_200 : Cond.methodLink xR11 200 y8_canStop ∈ xG := xG_k xT_4 131 rfl rfl
set_option maxRecDepth 20000 in
theorem ml11_203 : Cond.methodLink xR11 203 y8_closeGap ∈ xG := xG_k xT_4 135 rfl rfl
set_option maxRecDepth 20000 in
theorem ml11_207 : Cond.methodLink xR11 207 y8_pass ∈ xG := xG_k xT_4 143 rfl rfl
set_option maxRecDepth 20000 in
theorem ml11_210 : Cond.methodLink xR11 210 y0_bringBack ∈ xG := xG_k xT_4 210 rfl rfl
set_option maxRecDepth 20000 in
theorem ml11_214 : Cond.methodLink xR11 214 y1_judge ∈ xG := xG_k xT_4 218 rfl rfl
set_option maxRecDepth 20000 in
theorem ml11_221 : Cond.methodLink xR11 221 y8_isUnder ∈ xG := xG_k xT_5 0 rfl rfl
set_option maxRecDepth 20000 in
theorem ml11_224 : Cond.methodLink xR11 224 y8_criers ∈ xG := xG_k xT_5 5 rfl rfl
set_option maxRecDepth 20000 in
theorem ml11_227 : Cond.methodLink xR11 227 y11_goAhead ∈ xG := xG_k xT_5 17 rfl rfl
set_option maxRecDepth 20000 in
theorem ml11_233 : Cond.methodLink xR11 233 y8_copyFrom ∈ xG := xG_k xT_5 21 rfl rfl
set_option maxRecDepth 20000 in
theorem ml11_235 : Cond.methodLink xR11 235 y11_minutesUntil ∈ xG := xG_k xT_5 30 rfl rfl
set_option maxRecDepth 20000 in
theorem ml11_239 : Cond.methodLink xR11 239 y8_isIn ∈ xG := xG_k xT_5 34 rfl rfl
set_option maxRecDepth 20000 in
theorem ml11_242 : Cond.methodLink xR11 242 y8_isInState ∈ xG := xG_k xT_5 35 rfl rfl
set_option maxRecDepth 20000 in
theorem ml11_246 : Cond.methodLink xR11 246 y11_lowestBit ∈ xG := xG_k xT_5 43 rfl rfl
set_option maxRecDepth 20000 in
theorem ml11_249 : Cond.methodLink xR11 249 y8_whoIs ∈ xG := xG_k xT_5 54 rfl rfl
set_option maxRecDepth 20000 in
theorem ml11_252 : Cond.methodLink xR11 252 y8_isCrying ∈ xG := xG_k xT_5 59 rfl rfl
set_option maxRecDepth 20000 in
theorem ml11_255 : Cond.methodLink xR11 255 y8_borneBy ∈ xG := xG_k xT_5 68 rfl rfl
set_option maxRecDepth 20000 in
theorem ml11_258 : Cond.methodLink xR11 258 y8_canReach ∈ xG := xG_k xT_5 76 rfl rfl
set_option maxRecDepth 20000 in
theorem ml11_261 : Cond.methodLink xR11 261 y6_plan ∈ xG := xG_k xT_5 81 rfl rfl
set_option maxRecDepth 20000 in
theorem ml11_276 : Cond.methodLink xR11 276 y2_bearsAll ∈ xG := xG_k xT_5 110 rfl rfl
set_option maxRecDepth 20000 in
theorem ml11_279 : Cond.methodLink xR11 279 y2_bearing ∈ xG := xG_k xT_5 123 rfl rfl
set_option maxRecDepth 20000 in
theorem ml11_282 : Cond.methodLink xR11 282 y2_leastBelt ∈ xG := xG_k xT_5 131 rfl rfl
set_option maxRecDepth 20000 in
theorem ml11_293 : Cond.methodLink xR11 293 y8_manyAt ∈ xG := xG_k xT_5 153 rfl rfl
set_option maxRecDepth 20000 in
theorem ml11_299 : Cond.methodLink xR11 299 y2_canDrown ∈ xG := xG_k xT_5 166 rfl rfl
set_option maxRecDepth 20000 in
theorem ml11_302 : Cond.methodLink xR11 302 y8_isOnWall ∈ xG := xG_k xT_5 171 rfl rfl
set_option maxRecDepth 20000 in
theorem ml11_305 : Cond.methodLink xR11 305 y11_isSavedBy ∈ xG := xG_k xT_5 176 rfl rfl
set_option maxRecDepth 20000 in
theorem ml11_308 : Cond.methodLink xR11 308 y9_add ∈ xG := xG_k xT_5 188 rfl rfl
set_option maxRecDepth 20000 in
theorem ml11_311 : Cond.methodLink xR11 311 y3_open ∈ xG := xG_k xT_5 196 rfl rfl
set_option maxRecDepth 20000 in
theorem ml11_314 : Cond.methodLink xR11 314 y3_possible ∈ xG := xG_k xT_5 202 rfl rfl
set_option maxRecDepth 20000 in
theorem ml11_318 : Cond.methodLink xR11 318 y3_tellingMinute ∈ xG := xG_k xT_5 218 rfl rfl
set_option maxRecDepth 20000 in
theorem ml11_321 : Cond.methodLink xR11 321 y11_weightOf ∈ xG := xG_k xT_5 238 rfl rfl
set_option maxRecDepth 20000 in
theorem ml11_325 : Cond.methodLink xR11 325 y11_isSunkBy ∈ xG := xG_k xT_6 1 rfl rfl
set_option maxRecDepth 20000 in
theorem ml11_328 : Cond.methodLink xR11 328 y11_isPrize ∈ xG := xG_k xT_6 58 rfl rfl
set_option maxRecDepth 20000 in
theorem ml11_334 : Cond.methodLink xR11 334 y11_gain ∈ xG := xG_k xT_6 122 rfl rfl
set_option maxRecDepth 20000 in
theorem ml11_338 : Cond.methodLink xR11 338 y11_playBalls ∈ xG := xG_k xT_6 9 rfl rfl
set_option maxRecDepth 20000 in
theorem ml11_341 : Cond.methodLink xR11 341 y11_nextDraw ∈ xG := xG_k xT_6 13 rfl rfl
set_option maxRecDepth 20000 in
theorem ml11_345 : Cond.methodLink xR11 345 y11_below ∈ xG := xG_k xT_6 19 rfl rfl
set_option maxRecDepth 20000 in
theorem ml11_349 : Cond.methodLink xR11 349 y11_dance ∈ xG := xG_k xT_6 23 rfl rfl
set_option maxRecDepth 20000 in
theorem ml11_361 : Cond.methodLink xR11 361 y5_lay ∈ xG := xG_k xT_6 31 rfl rfl
set_option maxRecDepth 20000 in
theorem ml11_365 : Cond.methodLink xR11 365 y5_bringBack ∈ xG := xG_k xT_6 41 rfl rfl
set_option maxRecDepth 20000 in
theorem ml11_371 : Cond.methodLink xR11 371 y8_wall ∈ xG := xG_k xT_6 49 rfl rfl
def fl12 : List (Nat × Nat × Nat) := [(1, 12, 0), (11, 12, 2), (14, 12, 1), (154, 12, 3), (27, 12, 5), (24, 12, 4), (30, 12, 6), (173, 12, 7), (176, 12, 8), (88, 12, 9), (91, 12, 10), (201, 12, 19), (204, 12, 18), (103, 12, 15), (100, 12, 14), (109, 12, 17), (106, 12, 16), (222, 12, 13), (225, 12, 20), (94, 12, 11), (97, 12, 12), (112, 12, 21), (118, 12, 23), (115, 12, 22), (121, 12, 24), (292, 12, 25), (124, 12, 26), (128, 12, 27), (131, 12, 28), (403, 12, 31), (134, 12, 29), (137, 12, 30), (140, 12, 32), (439, 12, 33)]
set_option maxRecDepth 20000 in
theorem flk12 : ∀ q ∈ fl12, xfl xR12 q := List.forall_mem_cons.mpr ⟨⟨xR12, xT12, 34, rfl, by decide, xG_k xT_6 190 rfl rfl⟩, List.forall_mem_cons.mpr ⟨⟨xR12, xT12, 34, rfl, by decide, xG_k xT_6 192 rfl rfl⟩, List.forall_mem_cons.mpr ⟨⟨xR12, xT12, 34, rfl, by decide, xG_k xT_6 191 rfl rfl⟩, List.forall_mem_cons.mpr ⟨⟨xR12, xT12, 34, rfl, by decide, xG_k xT_6 193 rfl rfl⟩, List.forall_mem_cons.mpr ⟨⟨xR12, xT12, 34, rfl, by decide, xG_k xT_6 195 rfl rfl⟩, List.forall_mem_cons.mpr ⟨⟨xR12, xT12, 34, rfl, by decide, xG_k xT_6 194 rfl rfl⟩, List.forall_mem_cons.mpr ⟨⟨xR12, xT12, 34, rfl, by decide, xG_k xT_6 196 rfl rfl⟩, List.forall_mem_cons.mpr ⟨⟨xR12, xT12, 34, rfl, by decide, xG_k xT_6 197 rfl rfl⟩, List.forall_mem_cons.mpr ⟨⟨xR12, xT12, 34, rfl, by decide, xG_k xT_6 198 rfl rfl⟩, List.forall_mem_cons.mpr ⟨⟨xR12, xT12, 34, rfl, by decide, xG_k xT_6 199 rfl rfl⟩, List.forall_mem_cons.mpr ⟨⟨xR12, xT12, 34, rfl, by decide, xG_k xT_6 200 rfl rfl⟩, List.forall_mem_cons.mpr ⟨⟨xR12, xT12, 34, rfl, by decide, xG_k xT_6 209 rfl rfl⟩, List.forall_mem_cons.mpr ⟨⟨xR12, xT12, 34, rfl, by decide, xG_k xT_6 208 rfl rfl⟩, List.forall_mem_cons.mpr ⟨⟨xR12, xT12, 34, rfl, by decide, xG_k xT_6 205 rfl rfl⟩, List.forall_mem_cons.mpr ⟨⟨xR12, xT12, 34, rfl, by decide, xG_k xT_6 204 rfl rfl⟩, List.forall_mem_cons.mpr ⟨⟨xR12, xT12, 34, rfl, by decide, xG_k xT_6 207 rfl rfl⟩, List.forall_mem_cons.mpr ⟨⟨xR12, xT12, 34, rfl, by decide, xG_k xT_6 206 rfl rfl⟩, List.forall_mem_cons.mpr ⟨⟨xR12, xT12, 34, rfl, by decide, xG_k xT_6 203 rfl rfl⟩, List.forall_mem_cons.mpr ⟨⟨xR12, xT12, 34, rfl, by decide, xG_k xT_6 210 rfl rfl⟩, List.forall_mem_cons.mpr ⟨⟨xR12, xT12, 34, rfl, by decide, xG_k xT_6 201 rfl rfl⟩, List.forall_mem_cons.mpr ⟨⟨xR12, xT12, 34, rfl, by decide, xG_k xT_6 202 rfl rfl⟩, List.forall_mem_cons.mpr ⟨⟨xR12, xT12, 34, rfl, by decide, xG_k xT_6 211 rfl rfl⟩, List.forall_mem_cons.mpr ⟨⟨xR12, xT12, 34, rfl, by decide, xG_k xT_6 213 rfl rfl⟩, List.forall_mem_cons.mpr ⟨⟨xR12, xT12, 34, rfl, by decide, xG_k xT_6 212 rfl rfl⟩, List.forall_mem_cons.mpr ⟨⟨xR12, xT12, 34, rfl, by decide, xG_k xT_6 214 rfl rfl⟩, List.forall_mem_cons.mpr ⟨⟨xR12, xT12, 34, rfl, by decide, xG_k xT_6 215 rfl rfl⟩, List.forall_mem_cons.mpr ⟨⟨xR12, xT12, 34, rfl, by decide, xG_k xT_6 216 rfl rfl⟩, List.forall_mem_cons.mpr ⟨⟨xR12, xT12, 34, rfl, by decide, xG_k xT_6 217 rfl rfl⟩, List.forall_mem_cons.mpr ⟨⟨xR12, xT12, 34, rfl, by decide, xG_k xT_6 218 rfl rfl⟩, List.forall_mem_cons.mpr ⟨⟨xR12, xT12, 34, rfl, by decide, xG_k xT_6 221 rfl rfl⟩, List.forall_mem_cons.mpr ⟨⟨xR12, xT12, 34, rfl, by decide, xG_k xT_6 219 rfl rfl⟩, List.forall_mem_cons.mpr ⟨⟨xR12, xT12, 34, rfl, by decide, xG_k xT_6 220 rfl rfl⟩, List.forall_mem_cons.mpr ⟨⟨xR12, xT12, 34, rfl, by decide, xG_k xT_6 222 rfl rfl⟩, List.forall_mem_cons.mpr ⟨⟨xR12, xT12, 34, rfl, by decide, xG_k xT_6 223 rfl rfl⟩, fun _ h => absurd h List.not_mem_nil⟩⟩⟩⟩⟩⟩⟩⟩⟩⟩⟩⟩⟩⟩⟩⟩⟩⟩⟩⟩⟩⟩⟩⟩⟩⟩⟩⟩⟩⟩⟩⟩⟩⟩
def cl12 : List (Nat × Int32) := []
set_option maxRecDepth 20000 in
theorem clk12 : ∀ q ∈ cl12, Cond.constant xR12 q.1 q.2 ∈ xG := fun _ h => absurd h List.not_mem_nil
def ll12 : List (Nat × Int64) := [(157, 37), (166, 10), (168, 48), (433, 1000000), (443, 1103515245), (445, 12345), (447, 2147483648), (449, 65536)]
set_option maxRecDepth 20000 in
theorem llk12 : ∀ q ∈ ll12, Cond.constantLong xR12 q.1 q.2 ∈ xG := List.forall_mem_cons.mpr ⟨xG_k xT_7 65 rfl rfl, List.forall_mem_cons.mpr ⟨xG_k xT_7 72 rfl rfl, List.forall_mem_cons.mpr ⟨xG_k xT_7 73 rfl rfl, List.forall_mem_cons.mpr ⟨xG_k xT_9 34 rfl rfl, List.forall_mem_cons.mpr ⟨xG_k xT_9 54 rfl rfl, List.forall_mem_cons.mpr ⟨xG_k xT_9 55 rfl rfl, List.forall_mem_cons.mpr ⟨xG_k xT_9 56 rfl rfl, List.forall_mem_cons.mpr ⟨xG_k xT_9 57 rfl rfl, fun _ h => absurd h List.not_mem_nil⟩⟩⟩⟩⟩⟩⟩⟩
def jl12 : List (Nat × Nat) := []
set_option maxRecDepth 20000 in
theorem jlk12 : ∀ q ∈ jl12, xjd xR12 q := fun _ h => absurd h List.not_mem_nil
set_option maxRecDepth 20000 in
theorem ml12_7 : Cond.methodLink xR12 7 y12_lay ∈ xG := xG_k xT_6 133 rfl rfl
set_option maxRecDepth 20000 in
theorem ml12_150 : Cond.methodLink xR12 150 y12_isLetter ∈ xG := xG_k xT_7 62 rfl rfl
set_option maxRecDepth 20000 in
theorem ml12_159 : Cond.methodLink xR12 159 y12_rank ∈ xG := xG_k xT_7 66 rfl rfl
set_option maxRecDepth 20000 in
theorem ml12_163 : Cond.methodLink xR12 163 y12_isDigit ∈ xG := xG_k xT_7 69 rfl rfl
set_option maxRecDepth 20000 in
theorem ml12_170 : Cond.methodLink xR12 170 y12_isSignOf ∈ xG := xG_k xT_7 74 rfl rfl
set_option maxRecDepth 20000 in
theorem ml12_179 : Cond.methodLink xR12 179 y12_isSign ∈ xG := xG_k xT_7 153 rfl rfl
set_option maxRecDepth 20000 in
theorem ml12_182 : Cond.methodLink xR12 182 y12_wrong ∈ xG := xG_k xT_7 93 rfl rfl
set_option maxRecDepth 20000 in
theorem ml12_185 : Cond.methodLink xR12 185 y12_isWord ∈ xG := xG_k xT_7 81 rfl rfl
set_option maxRecDepth 20000 in
theorem ml12_188 : Cond.methodLink xR12 188 y12_hasWord ∈ xG := xG_k xT_7 121 rfl rfl
set_option maxRecDepth 20000 in
theorem ml12_191 : Cond.methodLink xR12 191 y12_takeWord ∈ xG := xG_k xT_7 117 rfl rfl
set_option maxRecDepth 20000 in
theorem ml12_194 : Cond.methodLink xR12 194 y12_takeNumber ∈ xG := xG_k xT_7 125 rfl rfl
set_option maxRecDepth 20000 in
theorem ml12_198 : Cond.methodLink xR12 198 y12_wordHere ∈ xG := xG_k xT_7 101 rfl rfl
set_option maxRecDepth 20000 in
theorem ml12_207 : Cond.methodLink xR12 207 y12_isName ∈ xG := xG_k xT_7 97 rfl rfl
set_option maxRecDepth 20000 in
theorem ml12_211 : Cond.methodLink xR12 211 y12_nameAt ∈ xG := xG_k xT_7 105 rfl rfl
set_option maxRecDepth 20000 in
theorem ml12_215 : Cond.methodLink xR12 215 y12_within ∈ xG := xG_k xT_7 181 rfl rfl
set_option maxRecDepth 20000 in
theorem ml12_219 : Cond.methodLink xR12 219 y12_cutAll ∈ xG := xG_k xT_7 58 rfl rfl
set_option maxRecDepth 20000 in
theorem ml12_143 : Cond.methodLink xR12 143 y12_standsAsAlways ∈ xG := xG_k xT_6 170 rfl rfl
set_option maxRecDepth 20000 in
theorem ml12_228 : Cond.methodLink xR12 228 y12_readLine ∈ xG := xG_k xT_7 77 rfl rfl
set_option maxRecDepth 20000 in
theorem ml12_231 : Cond.methodLink xR12 231 y12_takeSign ∈ xG := xG_k xT_7 165 rfl rfl
set_option maxRecDepth 20000 in
theorem ml12_147 : Cond.methodLink xR12 147 y12_begins ∈ xG := xG_k xT_6 174 rfl rfl
set_option maxRecDepth 20000 in
theorem ml12_234 : Cond.methodLink xR12 234 y12_readGuest ∈ xG := xG_k xT_7 85 rfl rfl
set_option maxRecDepth 20000 in
theorem ml12_237 : Cond.methodLink xR12 237 y12_readName ∈ xG := xG_k xT_7 89 rfl rfl
set_option maxRecDepth 20000 in
theorem ml12_241 : Cond.methodLink xR12 241 y12_takeAfter ∈ xG := xG_k xT_7 113 rfl rfl
set_option maxRecDepth 20000 in
theorem ml12_245 : Cond.methodLink xR12 245 y12_readOnce ∈ xG := xG_k xT_7 129 rfl rfl
set_option maxRecDepth 20000 in
theorem ml12_248 : Cond.methodLink xR12 248 y12_takeOne ∈ xG := xG_k xT_7 109 rfl rfl
set_option maxRecDepth 20000 in
theorem ml12_251 : Cond.methodLink xR12 251 y12_whole ∈ xG := xG_k xT_7 133 rfl rfl
set_option maxRecDepth 20000 in
theorem ml12_254 : Cond.methodLink xR12 254 y12_emit ∈ xG := xG_k xT_7 157 rfl rfl
set_option maxRecDepth 20000 in
theorem ml12_258 : Cond.methodLink xR12 258 y12_readEvening ∈ xG := xG_k xT_7 173 rfl rfl
set_option maxRecDepth 20000 in
theorem ml12_261 : Cond.methodLink xR12 261 y12_takeTold ∈ xG := xG_k xT_7 177 rfl rfl
set_option maxRecDepth 20000 in
theorem ml12_264 : Cond.methodLink xR12 264 y12_test ∈ xG := xG_k xT_7 137 rfl rfl
set_option maxRecDepth 20000 in
theorem ml12_267 : Cond.methodLink xR12 267 y12_sums ∈ xG := xG_k xT_7 141 rfl rfl
set_option maxRecDepth 20000 in
theorem ml12_270 : Cond.methodLink xR12 270 y12_hasSign ∈ xG := xG_k xT_7 161 rfl rfl
set_option maxRecDepth 20000 in
theorem ml12_273 : Cond.methodLink xR12 273 y12_products ∈ xG := xG_k xT_7 145 rfl rfl
set_option maxRecDepth 20000 in
theorem ml12_276 : Cond.methodLink xR12 276 y12_takePart ∈ xG := xG_k xT_7 149 rfl rfl
set_option maxRecDepth 20000 in
theorem ml12_279 : Cond.methodLink xR12 279 y12_both ∈ xG := xG_k xT_8 79 rfl rfl
set_option maxRecDepth 20000 in
theorem ml12_282 : Cond.methodLink xR12 282 y12_guests ∈ xG := xG_k xT_6 182 rfl rfl
set_option maxRecDepth 20000 in
theorem ml12_286 : Cond.methodLink xR12 286 y12_guestOf ∈ xG := xG_k xT_6 186 rfl rfl
set_option maxRecDepth 20000 in
theorem ml12_289 : Cond.methodLink xR12 289 y12_starts ∈ xG := xG_k xT_6 178 rfl rfl
set_option maxRecDepth 20000 in
theorem ml12_295 : Cond.methodLink xR12 295 y12_copies ∈ xG := xG_k xT_8 20 rfl rfl
set_option maxRecDepth 20000 in
theorem ml12_298 : Cond.methodLink xR12 298 y12_belts ∈ xG := xG_k xT_7 204 rfl rfl
set_option maxRecDepth 20000 in
theorem ml12_301 : Cond.methodLink xR12 301 y12_men ∈ xG := xG_k xT_7 220 rfl rfl
set_option maxRecDepth 20000 in
theorem ml12_304 : Cond.methodLink xR12 304 y12_bearsOf ∈ xG := xG_k xT_7 208 rfl rfl
set_option maxRecDepth 20000 in
theorem ml12_307 : Cond.methodLink xR12 307 y12_weightOf ∈ xG := xG_k xT_7 192 rfl rfl
set_option maxRecDepth 20000 in
theorem ml12_310 : Cond.methodLink xR12 310 y12_isIn ∈ xG := xG_k xT_8 4 rfl rfl
set_option maxRecDepth 20000 in
theorem ml12_314 : Cond.methodLink xR12 314 y12_doesBear ∈ xG := xG_k xT_8 64 rfl rfl
set_option maxRecDepth 20000 in
theorem ml12_317 : Cond.methodLink xR12 317 y12_doesCry ∈ xG := xG_k xT_8 106 rfl rfl
set_option maxRecDepth 20000 in
theorem ml12_320 : Cond.methodLink xR12 320 y12_manOf ∈ xG := xG_k xT_7 224 rfl rfl
set_option maxRecDepth 20000 in
theorem ml12_323 : Cond.methodLink xR12 323 y12_isFree ∈ xG := xG_k xT_7 228 rfl rfl
set_option maxRecDepth 20000 in
theorem ml12_326 : Cond.methodLink xR12 326 y12_gapTo ∈ xG := xG_k xT_8 8 rfl rfl
set_option maxRecDepth 20000 in
theorem ml12_329 : Cond.methodLink xR12 329 y12_couldCast ∈ xG := xG_k xT_8 0 rfl rfl
set_option maxRecDepth 20000 in
theorem ml12_332 : Cond.methodLink xR12 332 y12_wall ∈ xG := xG_k xT_8 12 rfl rfl
set_option maxRecDepth 20000 in
theorem ml12_335 : Cond.methodLink xR12 335 y12_isUnder ∈ xG := xG_k xT_8 60 rfl rfl
set_option maxRecDepth 20000 in
theorem ml12_338 : Cond.methodLink xR12 338 y12_who ∈ xG := xG_k xT_8 52 rfl rfl
set_option maxRecDepth 20000 in
theorem ml12_341 : Cond.methodLink xR12 341 y12_breathes ∈ xG := xG_k xT_8 56 rfl rfl
set_option maxRecDepth 20000 in
theorem ml12_344 : Cond.methodLink xR12 344 y12_drawsIn ∈ xG := xG_k xT_8 68 rfl rfl
set_option maxRecDepth 20000 in
theorem ml12_347 : Cond.methodLink xR12 347 y12_bits ∈ xG := xG_k xT_8 72 rfl rfl
set_option maxRecDepth 20000 in
theorem ml12_350 : Cond.methodLink xR12 350 y12_worthAt ∈ xG := xG_k xT_8 75 rfl rfl
set_option maxRecDepth 20000 in
theorem ml12_353 : Cond.methodLink xR12 353 y12_isGuest ∈ xG := xG_k xT_7 188 rfl rfl
set_option maxRecDepth 20000 in
theorem ml12_356 : Cond.methodLink xR12 356 y12_isBelt ∈ xG := xG_k xT_7 200 rfl rfl
set_option maxRecDepth 20000 in
theorem ml12_359 : Cond.methodLink xR12 359 y12_isMan ∈ xG := xG_k xT_7 216 rfl rfl
set_option maxRecDepth 20000 in
theorem ml12_362 : Cond.methodLink xR12 362 y12_mayCast ∈ xG := xG_k xT_7 236 rfl rfl
set_option maxRecDepth 20000 in
theorem ml12_366 : Cond.methodLink xR12 366 y12_keeps ∈ xG := xG_k xT_8 16 rfl rfl
set_option maxRecDepth 20000 in
theorem ml12_369 : Cond.methodLink xR12 369 y12_casts ∈ xG := xG_k xT_8 24 rfl rfl
set_option maxRecDepth 20000 in
theorem ml12_373 : Cond.methodLink xR12 373 y12_mayStop ∈ xG := xG_k xT_8 36 rfl rfl
set_option maxRecDepth 20000 in
theorem ml12_376 : Cond.methodLink xR12 376 y12_stops ∈ xG := xG_k xT_8 40 rfl rfl
set_option maxRecDepth 20000 in
theorem ml12_379 : Cond.methodLink xR12 379 y12_passes ∈ xG := xG_k xT_8 48 rfl rfl
set_option maxRecDepth 20000 in
theorem ml12_382 : Cond.methodLink xR12 382 y12_underNow ∈ xG := xG_k xT_8 94 rfl rfl
set_option maxRecDepth 20000 in
theorem ml12_385 : Cond.methodLink xR12 385 y12_criers ∈ xG := xG_k xT_8 102 rfl rfl
set_option maxRecDepth 20000 in
theorem ml12_388 : Cond.methodLink xR12 388 y12_triesNow ∈ xG := xG_k xT_8 114 rfl rfl
set_option maxRecDepth 20000 in
theorem ml12_391 : Cond.methodLink xR12 391 y12_becomes ∈ xG := xG_k xT_8 130 rfl rfl
set_option maxRecDepth 20000 in
theorem ml12_394 : Cond.methodLink xR12 394 y12_sinksIn ∈ xG := xG_k xT_8 126 rfl rfl
set_option maxRecDepth 20000 in
theorem ml12_397 : Cond.methodLink xR12 397 y12_fitsOf ∈ xG := xG_k xT_8 158 rfl rfl
set_option maxRecDepth 20000 in
theorem ml12_400 : Cond.methodLink xR12 400 y12_beltsFrom ∈ xG := xG_k xT_8 174 rfl rfl
set_option maxRecDepth 20000 in
theorem ml12_406 : Cond.methodLink xR12 406 y12_castsFrom ∈ xG := xG_k xT_8 170 rfl rfl
set_option maxRecDepth 20000 in
theorem ml12_409 : Cond.methodLink xR12 409 y12_doesHold ∈ xG := xG_k xT_8 186 rfl rfl
set_option maxRecDepth 20000 in
theorem ml12_412 : Cond.methodLink xR12 412 y12_bearOf ∈ xG := xG_k xT_8 190 rfl rfl
set_option maxRecDepth 20000 in
theorem ml12_415 : Cond.methodLink xR12 415 y12_enoughFor ∈ xG := xG_k xT_8 198 rfl rfl
set_option maxRecDepth 20000 in
theorem ml12_418 : Cond.methodLink xR12 418 y12_doesSave ∈ xG := xG_k xT_8 214 rfl rfl
set_option maxRecDepth 20000 in
theorem ml12_421 : Cond.methodLink xR12 421 y12_manyAt ∈ xG := xG_k xT_8 238 rfl rfl
set_option maxRecDepth 20000 in
theorem ml12_424 : Cond.methodLink xR12 424 y12_denseNow ∈ xG := xG_k xT_8 234 rfl rfl
set_option maxRecDepth 20000 in
theorem ml12_427 : Cond.methodLink xR12 427 y12_depthsNow ∈ xG := xG_k xT_9 22 rfl rfl
set_option maxRecDepth 20000 in
theorem ml12_430 : Cond.methodLink xR12 430 y12_holesNow ∈ xG := xG_k xT_9 18 rfl rfl
set_option maxRecDepth 20000 in
theorem ml12_435 : Cond.methodLink xR12 435 y12_getsBy ∈ xG := xG_k xT_9 39 rfl rfl
set_option maxRecDepth 20000 in
theorem ml12_451 : Cond.methodLink xR12 451 y12_draw ∈ xG := xG_k xT_9 50 rfl rfl
set_option maxRecDepth 20000 in
theorem ml12_454 : Cond.methodLink xR12 454 y12_drawsDeed ∈ xG := xG_k xT_9 46 rfl rfl
def flJ : List (Nat × Nat × Nat) := []
set_option maxRecDepth 20000 in
theorem flkJ : ∀ q ∈ flJ, xfl "java/lang/Integer" q := fun _ h => absurd h List.not_mem_nil
def clJ : List (Nat × Int32) := [(265, 1431655765), (266, 858993459), (267, 252645135)]
set_option maxRecDepth 20000 in
theorem clkJ : ∀ q ∈ clJ, Cond.constant "java/lang/Integer" q.1 q.2 ∈ xG := List.forall_mem_cons.mpr ⟨xG_k xT_4 182 rfl rfl, List.forall_mem_cons.mpr ⟨xG_k xT_4 183 rfl rfl, List.forall_mem_cons.mpr ⟨xG_k xT_4 184 rfl rfl, fun _ h => absurd h List.not_mem_nil⟩⟩⟩
def llJ : List (Nat × Int64) := []
set_option maxRecDepth 20000 in
theorem llkJ : ∀ q ∈ llJ, Cond.constantLong "java/lang/Integer" q.1 q.2 ∈ xG := fun _ h => absurd h List.not_mem_nil
def jlJ : List (Nat × Nat) := []
set_option maxRecDepth 20000 in
theorem jlkJ : ∀ q ∈ jlJ, xjd "java/lang/Integer" q := fun _ h => absurd h List.not_mem_nil
def flL : List (Nat × Nat × Nat) := []
set_option maxRecDepth 20000 in
theorem flkL : ∀ q ∈ flL, xfl "SilenceBallLaw" q := fun _ h => absurd h List.not_mem_nil
def clL : List (Nat × Int32) := []
set_option maxRecDepth 20000 in
theorem clkL : ∀ q ∈ clL, Cond.constant "SilenceBallLaw" q.1 q.2 ∈ xG := fun _ h => absurd h List.not_mem_nil
def llL : List (Nat × Int64) := [(19, 4294967295)]
set_option maxRecDepth 20000 in
theorem llkL : ∀ q ∈ llL, Cond.constantLong "SilenceBallLaw" q.1 q.2 ∈ xG := List.forall_mem_cons.mpr ⟨xG_k xT_9 66 rfl rfl, fun _ h => absurd h List.not_mem_nil⟩
def jlL : List (Nat × Nat) := []
set_option maxRecDepth 20000 in
theorem jlkL : ∀ q ∈ jlL, xjd "SilenceBallLaw" q := fun _ h => absurd h List.not_mem_nil
set_option maxRecDepth 20000 in
theorem mlL_21 : Cond.methodLink "SilenceBallLaw" 21 y11_feed ∈ xG := xG_k xT_2 185 rfl rfl
set_option maxRecDepth 20000 in
theorem mlL_25 : Cond.methodLink "SilenceBallLaw" 25 y12_feed ∈ xG := xG_k xT_6 129 rfl rfl
set_option maxRecDepth 20000 in
theorem mlL_26 : Cond.methodLink "SilenceBallLaw" 26 y11_room ∈ xG := xG_k xT_2 193 rfl rfl
set_option maxRecDepth 20000 in
theorem mlL_30 : Cond.methodLink "SilenceBallLaw" 30 y12_room ∈ xG := xG_k xT_7 54 rfl rfl
set_option maxRecDepth 20000 in
theorem mlL_31 : Cond.methodLink "SilenceBallLaw" 31 y11_evening ∈ xG := xG_k xT_4 10 rfl rfl
set_option maxRecDepth 20000 in
theorem mlL_34 : Cond.methodLink "SilenceBallLaw" 34 y12_evening ∈ xG := xG_k xT_7 169 rfl rfl
set_option maxRecDepth 20000 in
theorem mlL_35 : Cond.methodLink "SilenceBallLaw" 35 y11_guest ∈ xG := xG_k xT_4 37 rfl rfl
set_option maxRecDepth 20000 in
theorem mlL_39 : Cond.methodLink "SilenceBallLaw" 39 y12_guest ∈ xG := xG_k xT_7 184 rfl rfl
set_option maxRecDepth 20000 in
theorem mlL_40 : Cond.methodLink "SilenceBallLaw" 40 y11_belt ∈ xG := xG_k xT_4 45 rfl rfl
set_option maxRecDepth 20000 in
theorem mlL_43 : Cond.methodLink "SilenceBallLaw" 43 y12_belt ∈ xG := xG_k xT_7 196 rfl rfl
set_option maxRecDepth 20000 in
theorem mlL_44 : Cond.methodLink "SilenceBallLaw" 44 y11_man ∈ xG := xG_k xT_4 57 rfl rfl
set_option maxRecDepth 20000 in
theorem mlL_47 : Cond.methodLink "SilenceBallLaw" 47 y12_man ∈ xG := xG_k xT_7 212 rfl rfl
set_option maxRecDepth 20000 in
theorem mlL_48 : Cond.methodLink "SilenceBallLaw" 48 y11_cast ∈ xG := xG_k xT_4 70 rfl rfl
set_option maxRecDepth 20000 in
theorem mlL_52 : Cond.methodLink "SilenceBallLaw" 52 y12_cast ∈ xG := xG_k xT_7 232 rfl rfl
set_option maxRecDepth 20000 in
theorem mlL_53 : Cond.methodLink "SilenceBallLaw" 53 y11_ask ∈ xG := xG_k xT_4 115 rfl rfl
set_option maxRecDepth 20000 in
theorem mlL_56 : Cond.methodLink "SilenceBallLaw" 56 y12_ask ∈ xG := xG_k xT_8 28 rfl rfl
set_option maxRecDepth 20000 in
theorem mlL_57 : Cond.methodLink "SilenceBallLaw" 57 y11_stop ∈ xG := xG_k xT_4 127 rfl rfl
set_option maxRecDepth 20000 in
theorem mlL_61 : Cond.methodLink "SilenceBallLaw" 61 y12_stop ∈ xG := xG_k xT_8 32 rfl rfl
set_option maxRecDepth 20000 in
theorem mlL_62 : Cond.methodLink "SilenceBallLaw" 62 y11_minute ∈ xG := xG_k xT_4 139 rfl rfl
set_option maxRecDepth 20000 in
theorem mlL_65 : Cond.methodLink "SilenceBallLaw" 65 y12_minute ∈ xG := xG_k xT_8 44 rfl rfl
set_option maxRecDepth 20000 in
theorem mlL_66 : Cond.methodLink "SilenceBallLaw" 66 y11_undo ∈ xG := xG_k xT_4 206 rfl rfl
set_option maxRecDepth 20000 in
theorem mlL_70 : Cond.methodLink "SilenceBallLaw" 70 y12_undo ∈ xG := xG_k xT_8 82 rfl rfl
set_option maxRecDepth 20000 in
theorem mlL_71 : Cond.methodLink "SilenceBallLaw" 71 y11_judged ∈ xG := xG_k xT_4 214 rfl rfl
set_option maxRecDepth 20000 in
theorem mlL_74 : Cond.methodLink "SilenceBallLaw" 74 y12_judged ∈ xG := xG_k xT_8 86 rfl rfl
set_option maxRecDepth 20000 in
theorem mlL_75 : Cond.methodLink "SilenceBallLaw" 75 y11_under ∈ xG := xG_k xT_4 236 rfl rfl
set_option maxRecDepth 20000 in
theorem mlL_78 : Cond.methodLink "SilenceBallLaw" 78 y12_under ∈ xG := xG_k xT_8 90 rfl rfl
set_option maxRecDepth 20000 in
theorem mlL_79 : Cond.methodLink "SilenceBallLaw" 79 y11_cries ∈ xG := xG_k xT_5 1 rfl rfl
set_option maxRecDepth 20000 in
theorem mlL_82 : Cond.methodLink "SilenceBallLaw" 82 y12_cries ∈ xG := xG_k xT_8 98 rfl rfl
set_option maxRecDepth 20000 in
theorem mlL_83 : Cond.methodLink "SilenceBallLaw" 83 y11_later ∈ xG := xG_k xT_5 13 rfl rfl
set_option maxRecDepth 20000 in
theorem mlL_86 : Cond.methodLink "SilenceBallLaw" 86 y12_later ∈ xG := xG_k xT_8 110 rfl rfl
set_option maxRecDepth 20000 in
theorem mlL_87 : Cond.methodLink "SilenceBallLaw" 87 y11_over ∈ xG := xG_k xT_5 22 rfl rfl
set_option maxRecDepth 20000 in
theorem mlL_90 : Cond.methodLink "SilenceBallLaw" 90 y12_over ∈ xG := xG_k xT_8 118 rfl rfl
set_option maxRecDepth 20000 in
theorem mlL_91 : Cond.methodLink "SilenceBallLaw" 91 y11_sinks ∈ xG := xG_k xT_5 26 rfl rfl
set_option maxRecDepth 20000 in
theorem mlL_94 : Cond.methodLink "SilenceBallLaw" 94 y12_sinks ∈ xG := xG_k xT_8 122 rfl rfl
set_option maxRecDepth 20000 in
theorem mlL_95 : Cond.methodLink "SilenceBallLaw" 95 y11_first ∈ xG := xG_k xT_5 39 rfl rfl
set_option maxRecDepth 20000 in
theorem mlL_98 : Cond.methodLink "SilenceBallLaw" 98 y12_first ∈ xG := xG_k xT_8 134 rfl rfl
set_option maxRecDepth 20000 in
theorem mlL_99 : Cond.methodLink "SilenceBallLaw" 99 y11_home ∈ xG := xG_k xT_5 46 rfl rfl
set_option maxRecDepth 20000 in
theorem mlL_102 : Cond.methodLink "SilenceBallLaw" 102 y12_home ∈ xG := xG_k xT_8 138 rfl rfl
set_option maxRecDepth 20000 in
theorem mlL_103 : Cond.methodLink "SilenceBallLaw" 103 y11_quiet ∈ xG := xG_k xT_5 50 rfl rfl
set_option maxRecDepth 20000 in
theorem mlL_106 : Cond.methodLink "SilenceBallLaw" 106 y12_quiet ∈ xG := xG_k xT_8 142 rfl rfl
set_option maxRecDepth 20000 in
theorem mlL_107 : Cond.methodLink "SilenceBallLaw" 107 y11_when ∈ xG := xG_k xT_5 55 rfl rfl
set_option maxRecDepth 20000 in
theorem mlL_110 : Cond.methodLink "SilenceBallLaw" 110 y12_when ∈ xG := xG_k xT_8 146 rfl rfl
set_option maxRecDepth 20000 in
theorem mlL_111 : Cond.methodLink "SilenceBallLaw" 111 y11_lost ∈ xG := xG_k xT_5 60 rfl rfl
set_option maxRecDepth 20000 in
theorem mlL_114 : Cond.methodLink "SilenceBallLaw" 114 y12_lost ∈ xG := xG_k xT_8 150 rfl rfl
set_option maxRecDepth 20000 in
theorem mlL_115 : Cond.methodLink "SilenceBallLaw" 115 y11_fits ∈ xG := xG_k xT_5 64 rfl rfl
set_option maxRecDepth 20000 in
theorem mlL_118 : Cond.methodLink "SilenceBallLaw" 118 y12_fits ∈ xG := xG_k xT_8 154 rfl rfl
set_option maxRecDepth 20000 in
theorem mlL_119 : Cond.methodLink "SilenceBallLaw" 119 y11_could ∈ xG := xG_k xT_5 72 rfl rfl
set_option maxRecDepth 20000 in
theorem mlL_122 : Cond.methodLink "SilenceBallLaw" 122 y12_could ∈ xG := xG_k xT_8 162 rfl rfl
set_option maxRecDepth 20000 in
theorem mlL_123 : Cond.methodLink "SilenceBallLaw" 123 y11_best ∈ xG := xG_k xT_5 77 rfl rfl
set_option maxRecDepth 20000 in
theorem mlL_126 : Cond.methodLink "SilenceBallLaw" 126 y12_best ∈ xG := xG_k xT_8 166 rfl rfl
set_option maxRecDepth 20000 in
theorem mlL_127 : Cond.methodLink "SilenceBallLaw" 127 y11_with ∈ xG := xG_k xT_5 102 rfl rfl
set_option maxRecDepth 20000 in
theorem mlL_130 : Cond.methodLink "SilenceBallLaw" 130 y12_with ∈ xG := xG_k xT_8 178 rfl rfl
set_option maxRecDepth 20000 in
theorem mlL_131 : Cond.methodLink "SilenceBallLaw" 131 y11_need ∈ xG := xG_k xT_5 106 rfl rfl
set_option maxRecDepth 20000 in
theorem mlL_134 : Cond.methodLink "SilenceBallLaw" 134 y12_need ∈ xG := xG_k xT_8 182 rfl rfl
set_option maxRecDepth 20000 in
theorem mlL_135 : Cond.methodLink "SilenceBallLaw" 135 y11_latest ∈ xG := xG_k xT_5 127 rfl rfl
set_option maxRecDepth 20000 in
theorem mlL_138 : Cond.methodLink "SilenceBallLaw" 138 y12_latest ∈ xG := xG_k xT_8 202 rfl rfl
set_option maxRecDepth 20000 in
theorem mlL_139 : Cond.methodLink "SilenceBallLaw" 139 y11_enough ∈ xG := xG_k xT_5 136 rfl rfl
set_option maxRecDepth 20000 in
theorem mlL_142 : Cond.methodLink "SilenceBallLaw" 142 y12_enough ∈ xG := xG_k xT_8 194 rfl rfl
set_option maxRecDepth 20000 in
theorem mlL_143 : Cond.methodLink "SilenceBallLaw" 143 y11_near ∈ xG := xG_k xT_5 140 rfl rfl
set_option maxRecDepth 20000 in
theorem mlL_146 : Cond.methodLink "SilenceBallLaw" 146 y12_near ∈ xG := xG_k xT_8 222 rfl rfl
set_option maxRecDepth 20000 in
theorem mlL_147 : Cond.methodLink "SilenceBallLaw" 147 y11_gap ∈ xG := xG_k xT_5 145 rfl rfl
set_option maxRecDepth 20000 in
theorem mlL_150 : Cond.methodLink "SilenceBallLaw" 150 y12_gap ∈ xG := xG_k xT_8 226 rfl rfl
set_option maxRecDepth 20000 in
theorem mlL_151 : Cond.methodLink "SilenceBallLaw" 151 y11_row ∈ xG := xG_k xT_5 149 rfl rfl
set_option maxRecDepth 20000 in
theorem mlL_154 : Cond.methodLink "SilenceBallLaw" 154 y12_row ∈ xG := xG_k xT_8 230 rfl rfl
set_option maxRecDepth 20000 in
theorem mlL_155 : Cond.methodLink "SilenceBallLaw" 155 y11_dense ∈ xG := xG_k xT_5 158 rfl rfl
set_option maxRecDepth 20000 in
theorem mlL_158 : Cond.methodLink "SilenceBallLaw" 158 y12_dense ∈ xG := xG_k xT_9 2 rfl rfl
set_option maxRecDepth 20000 in
theorem mlL_159 : Cond.methodLink "SilenceBallLaw" 159 y11_tight ∈ xG := xG_k xT_5 162 rfl rfl
set_option maxRecDepth 20000 in
theorem mlL_162 : Cond.methodLink "SilenceBallLaw" 162 y12_tight ∈ xG := xG_k xT_9 6 rfl rfl
set_option maxRecDepth 20000 in
theorem mlL_163 : Cond.methodLink "SilenceBallLaw" 163 y11_spare ∈ xG := xG_k xT_5 167 rfl rfl
set_option maxRecDepth 20000 in
theorem mlL_166 : Cond.methodLink "SilenceBallLaw" 166 y12_spare ∈ xG := xG_k xT_8 206 rfl rfl
set_option maxRecDepth 20000 in
theorem mlL_167 : Cond.methodLink "SilenceBallLaw" 167 y11_save ∈ xG := xG_k xT_5 172 rfl rfl
set_option maxRecDepth 20000 in
theorem mlL_170 : Cond.methodLink "SilenceBallLaw" 170 y12_save ∈ xG := xG_k xT_8 210 rfl rfl
set_option maxRecDepth 20000 in
theorem mlL_171 : Cond.methodLink "SilenceBallLaw" 171 y11_worth ∈ xG := xG_k xT_5 180 rfl rfl
set_option maxRecDepth 20000 in
theorem mlL_174 : Cond.methodLink "SilenceBallLaw" 174 y12_worth ∈ xG := xG_k xT_8 218 rfl rfl
set_option maxRecDepth 20000 in
theorem mlL_175 : Cond.methodLink "SilenceBallLaw" 175 y11_see ∈ xG := xG_k xT_5 184 rfl rfl
set_option maxRecDepth 20000 in
theorem mlL_179 : Cond.methodLink "SilenceBallLaw" 179 y12_see ∈ xG := xG_k xT_9 10 rfl rfl
set_option maxRecDepth 20000 in
theorem mlL_180 : Cond.methodLink "SilenceBallLaw" 180 y11_holes ∈ xG := xG_k xT_5 192 rfl rfl
set_option maxRecDepth 20000 in
theorem mlL_183 : Cond.methodLink "SilenceBallLaw" 183 y12_holes ∈ xG := xG_k xT_9 14 rfl rfl
set_option maxRecDepth 20000 in
theorem mlL_184 : Cond.methodLink "SilenceBallLaw" 184 y11_look ∈ xG := xG_k xT_5 214 rfl rfl
set_option maxRecDepth 20000 in
theorem mlL_187 : Cond.methodLink "SilenceBallLaw" 187 y12_look ∈ xG := xG_k xT_9 26 rfl rfl
set_option maxRecDepth 20000 in
theorem mlL_188 : Cond.methodLink "SilenceBallLaw" 188 y11_chance ∈ xG := xG_k xT_5 234 rfl rfl
set_option maxRecDepth 20000 in
theorem mlL_192 : Cond.methodLink "SilenceBallLaw" 192 y12_chance ∈ xG := xG_k xT_9 30 rfl rfl
set_option maxRecDepth 20000 in
theorem mlL_193 : Cond.methodLink "SilenceBallLaw" 193 yL_rests ∈ xG := xG_k xT_6 50 rfl rfl
set_option maxRecDepth 20000 in
theorem mlL_198 : Cond.methodLink "SilenceBallLaw" 198 y12_rests ∈ xG := xG_k xT_9 35 rfl rfl
set_option maxRecDepth 20000 in
theorem mlL_199 : Cond.methodLink "SilenceBallLaw" 199 y12_thrown ∈ xG := xG_k xT_6 125 rfl rfl
set_option maxRecDepth 20000 in
theorem mlL_202 : Cond.methodLink "SilenceBallLaw" 202 y11_balls ∈ xG := xG_k xT_6 5 rfl rfl
set_option maxRecDepth 20000 in
theorem mlL_205 : Cond.methodLink "SilenceBallLaw" 205 y12_balls ∈ xG := xG_k xT_9 42 rfl rfl
set_option maxRecDepth 20000 in
theorem mlL_206 : Cond.methodLink "SilenceBallLaw" 206 y11_mark ∈ xG := xG_k xT_6 27 rfl rfl
set_option maxRecDepth 20000 in
theorem mlL_210 : Cond.methodLink "SilenceBallLaw" 210 y12_mark ∈ xG := xG_k xT_9 58 rfl rfl
set_option maxRecDepth 20000 in
theorem mlL_211 : Cond.methodLink "SilenceBallLaw" 211 y11_count ∈ xG := xG_k xT_6 45 rfl rfl
set_option maxRecDepth 20000 in
theorem mlL_214 : Cond.methodLink "SilenceBallLaw" 214 y12_count ∈ xG := xG_k xT_9 62 rfl rfl
set_option maxRecDepth 20000 in
theorem mf8_copyFrom : xmf y8_copyFrom prog_10_method_3_code 2 none := ⟨xG_k xT_4 108 rfl rfl, xG_k xT_1 7 rfl rfl, ⟨by decide +kernel, by decide +kernel⟩, by decide +kernel⟩
set_option maxRecDepth 20000 in
theorem mi8_copyFrom : Cond.instanceMethod y8_copyFrom ∈ xG := xG_k xT_4 106 rfl rfl
set_option maxRecDepth 20000 in
theorem me8_copyFrom : Cond.selects y8_copyFrom.cls y8_copyFrom y8_copyFrom ∈ xG := xG_k xT_4 107 rfl rfl
set_option maxRecDepth 20000 in
theorem mf10_begin : xmf y10_begin prog_12_method_5_code 1 none := ⟨xG_k xT_2 212 rfl rfl, xG_k xT_1 2 rfl rfl, ⟨by decide +kernel, by decide +kernel⟩, by decide +kernel⟩
set_option maxRecDepth 20000 in
theorem mi10_begin : Cond.instanceMethod y10_begin ∈ xG := xG_k xT_2 210 rfl rfl
set_option maxRecDepth 20000 in
theorem me10_begin : Cond.selects y10_begin.cls y10_begin y10_begin ∈ xG := xG_k xT_2 211 rfl rfl
set_option maxRecDepth 20000 in
theorem mf1_readLine : xmf y1_readLine prog_3_method_5_code 5 (some .boolean) := ⟨xG_k xT_4 22 rfl rfl, xG_k xT_1 6 rfl rfl, ⟨by decide +kernel, by decide +kernel⟩, by decide +kernel⟩
set_option maxRecDepth 20000 in
theorem mi1_readLine : Cond.instanceMethod y1_readLine ∈ xG := xG_k xT_4 21 rfl rfl
set_option maxRecDepth 20000 in
theorem me1_readLine : Cond.selects y1_readLine.cls y1_readLine y1_readLine ∈ xG := xG_s xV_2 2 rfl
set_option maxRecDepth 20000 in
theorem mf10_wrong : xmf y10_wrong prog_12_method_15_code 2 (some .boolean) := ⟨xG_k xT_3 110 rfl rfl, xG_k xT_1 2 rfl rfl, ⟨by decide +kernel, by decide +kernel⟩, by decide +kernel⟩
set_option maxRecDepth 20000 in
theorem mi10_wrong : Cond.instanceMethod y10_wrong ∈ xG := xG_k xT_3 108 rfl rfl
set_option maxRecDepth 20000 in
theorem me10_wrong : Cond.selects y10_wrong.cls y10_wrong y10_wrong ∈ xG := xG_k xT_3 109 rfl rfl
set_option maxRecDepth 20000 in
theorem mf10_advance : xmf y10_advance prog_12_method_6_code 2 none := ⟨xG_k xT_2 216 rfl rfl, xG_k xT_1 2 rfl rfl, ⟨by decide +kernel, by decide +kernel⟩, by decide +kernel⟩
set_option maxRecDepth 20000 in
theorem mi10_advance : Cond.instanceMethod y10_advance ∈ xG := xG_k xT_2 214 rfl rfl
set_option maxRecDepth 20000 in
theorem me10_advance : Cond.selects y10_advance.cls y10_advance y10_advance ∈ xG := xG_k xT_2 215 rfl rfl
set_option maxRecDepth 20000 in
theorem mf1_readName : xmf y1_readName prog_3_method_6_code 6 (some .boolean) := ⟨xG_k xT_4 28 rfl rfl, xG_k xT_1 6 rfl rfl, ⟨by decide +kernel, by decide +kernel⟩, by decide +kernel⟩
set_option maxRecDepth 20000 in
theorem mi1_readName : Cond.instanceMethod y1_readName ∈ xG := xG_k xT_4 27 rfl rfl
set_option maxRecDepth 20000 in
theorem me1_readName : Cond.selects y1_readName.cls y1_readName y1_readName ∈ xG := xG_s xV_2 3 rfl
set_option maxRecDepth 20000 in
theorem mf10_take : xmf y10_take prog_12_method_14_code 2 (some .boolean) := ⟨xG_k xT_3 147 rfl rfl, xG_k xT_1 2 rfl rfl, ⟨by decide +kernel, by decide +kernel⟩, by decide +kernel⟩
set_option maxRecDepth 20000 in
theorem mi10_take : Cond.instanceMethod y10_take ∈ xG := xG_k xT_3 145 rfl rfl
set_option maxRecDepth 20000 in
theorem me10_take : Cond.selects y10_take.cls y10_take y10_take ∈ xG := xG_k xT_3 146 rfl rfl
set_option maxRecDepth 20000 in
theorem mf10_isName : xmf y10_isName prog_12_method_12_code 1 (some .boolean) := ⟨xG_k xT_3 119 rfl rfl, xG_k xT_1 2 rfl rfl, ⟨by decide +kernel, by decide +kernel⟩, by decide +kernel⟩
set_option maxRecDepth 20000 in
theorem mi10_isName : Cond.instanceMethod y10_isName ∈ xG := xG_k xT_3 117 rfl rfl
set_option maxRecDepth 20000 in
theorem me10_isName : Cond.selects y10_isName.cls y10_isName y10_isName ∈ xG := xG_k xT_3 118 rfl rfl
set_option maxRecDepth 20000 in
theorem mf2_find : xmf y2_find prog_4_method_8_code 5 (some .int) := ⟨xG_k xT_3 131 rfl rfl, xG_k xT_1 3 rfl rfl, ⟨by decide +kernel, by decide +kernel⟩, by decide +kernel⟩
set_option maxRecDepth 20000 in
theorem ms2_find : Cond.static y2_find ∈ xG := xG_k xT_3 130 rfl rfl
set_option maxRecDepth 20000 in
theorem mf8_begin : xmf y8_begin prog_10_method_2_code 2 none := ⟨xG_k xT_3 228 rfl rfl, xG_k xT_1 7 rfl rfl, ⟨by decide +kernel, by decide +kernel⟩, by decide +kernel⟩
set_option maxRecDepth 20000 in
theorem mi8_begin : Cond.instanceMethod y8_begin ∈ xG := xG_k xT_3 226 rfl rfl
set_option maxRecDepth 20000 in
theorem me8_begin : Cond.selects y8_begin.cls y8_begin y8_begin ∈ xG := xG_k xT_3 227 rfl rfl
set_option maxRecDepth 20000 in
theorem mf1_play : xmf y1_play prog_3_method_8_code 4 (some .int) := ⟨xG_k xT_4 226 rfl rfl, xG_k xT_1 6 rfl rfl, ⟨by decide +kernel, by decide +kernel⟩, by decide +kernel⟩
set_option maxRecDepth 20000 in
theorem mi1_play : Cond.instanceMethod y1_play ∈ xG := xG_k xT_4 225 rfl rfl
set_option maxRecDepth 20000 in
theorem me1_play : Cond.selects y1_play.cls y1_play y1_play ∈ xG := xG_s xV_2 10 rfl
set_option maxRecDepth 20000 in
theorem mf8_whoIs : xmf y8_whoIs prog_10_method_6_code 4 (some .int) := ⟨xG_k xT_4 178 rfl rfl, xG_k xT_1 7 rfl rfl, ⟨by decide +kernel, by decide +kernel⟩, by decide +kernel⟩
set_option maxRecDepth 20000 in
theorem mi8_whoIs : Cond.instanceMethod y8_whoIs ∈ xG := xG_k xT_4 176 rfl rfl
set_option maxRecDepth 20000 in
theorem me8_whoIs : Cond.selects y8_whoIs.cls y8_whoIs y8_whoIs ∈ xG := xG_k xT_4 177 rfl rfl
set_option maxRecDepth 20000 in
theorem mfJ_bitCount : xmf yJ_bitCount prog_20_method_49_code 1 (some .int) := ⟨xG_k xT_4 181 rfl rfl, xG_k xT_1 21 rfl rfl, ⟨by decide +kernel, by decide +kernel⟩, by decide +kernel⟩
set_option maxRecDepth 20000 in
theorem msJ_bitCount : Cond.static yJ_bitCount ∈ xG := xG_k xT_4 180 rfl rfl
set_option maxRecDepth 20000 in
theorem mf8_pass : xmf y8_pass prog_10_method_24_code 3 (some .int) := ⟨xG_k xT_4 146 rfl rfl, xG_k xT_1 7 rfl rfl, ⟨by decide +kernel, by decide +kernel⟩, by decide +kernel⟩
set_option maxRecDepth 20000 in
theorem mi8_pass : Cond.instanceMethod y8_pass ∈ xG := xG_k xT_4 144 rfl rfl
set_option maxRecDepth 20000 in
theorem me8_pass : Cond.selects y8_pass.cls y8_pass y8_pass ∈ xG := xG_k xT_4 145 rfl rfl
set_option maxRecDepth 20000 in
theorem mf8_canAsk : xmf y8_canAsk prog_10_method_20_code 1 (some .boolean) := ⟨xG_k xT_4 122 rfl rfl, xG_k xT_1 7 rfl rfl, ⟨by decide +kernel, by decide +kernel⟩, by decide +kernel⟩
set_option maxRecDepth 20000 in
theorem mi8_canAsk : Cond.instanceMethod y8_canAsk ∈ xG := xG_k xT_4 120 rfl rfl
set_option maxRecDepth 20000 in
theorem me8_canAsk : Cond.selects y8_canAsk.cls y8_canAsk y8_canAsk ∈ xG := xG_k xT_4 121 rfl rfl
set_option maxRecDepth 20000 in
theorem mf8_openGap : xmf y8_openGap prog_10_method_21_code 1 none := ⟨xG_k xT_4 126 rfl rfl, xG_k xT_1 7 rfl rfl, ⟨by decide +kernel, by decide +kernel⟩, by decide +kernel⟩
set_option maxRecDepth 20000 in
theorem mi8_openGap : Cond.instanceMethod y8_openGap ∈ xG := xG_k xT_4 124 rfl rfl
set_option maxRecDepth 20000 in
theorem me8_openGap : Cond.selects y8_openGap.cls y8_openGap y8_openGap ∈ xG := xG_k xT_4 125 rfl rfl
set_option maxRecDepth 20000 in
theorem mf8_canStop : xmf y8_canStop prog_10_method_22_code 2 (some .boolean) := ⟨xG_k xT_4 134 rfl rfl, xG_k xT_1 7 rfl rfl, ⟨by decide +kernel, by decide +kernel⟩, by decide +kernel⟩
set_option maxRecDepth 20000 in
theorem mi8_canStop : Cond.instanceMethod y8_canStop ∈ xG := xG_k xT_4 132 rfl rfl
set_option maxRecDepth 20000 in
theorem me8_canStop : Cond.selects y8_canStop.cls y8_canStop y8_canStop ∈ xG := xG_k xT_4 133 rfl rfl
set_option maxRecDepth 20000 in
theorem mf8_closeGap : xmf y8_closeGap prog_10_method_23_code 2 none := ⟨xG_k xT_4 138 rfl rfl, xG_k xT_1 7 rfl rfl, ⟨by decide +kernel, by decide +kernel⟩, by decide +kernel⟩
set_option maxRecDepth 20000 in
theorem mi8_closeGap : Cond.instanceMethod y8_closeGap ∈ xG := xG_k xT_4 136 rfl rfl
set_option maxRecDepth 20000 in
theorem me8_closeGap : Cond.selects y8_closeGap.cls y8_closeGap y8_closeGap ∈ xG := xG_k xT_4 137 rfl rfl
set_option maxRecDepth 20000 in
theorem mf8_canCast : xmf y8_canCast prog_10_method_18_code 4 (some .boolean) := ⟨xG_k xT_4 77 rfl rfl, xG_k xT_1 7 rfl rfl, ⟨by decide +kernel, by decide +kernel⟩, by decide +kernel⟩
set_option maxRecDepth 20000 in
theorem mi8_canCast : Cond.instanceMethod y8_canCast ∈ xG := xG_k xT_4 75 rfl rfl
set_option maxRecDepth 20000 in
theorem me8_canCast : Cond.selects y8_canCast.cls y8_canCast y8_canCast ∈ xG := xG_k xT_4 76 rfl rfl
set_option maxRecDepth 20000 in
theorem mf8_giveBelt : xmf y8_giveBelt prog_10_method_19_code 4 none := ⟨xG_k xT_4 114 rfl rfl, xG_k xT_1 7 rfl rfl, ⟨by decide +kernel, by decide +kernel⟩, by decide +kernel⟩
set_option maxRecDepth 20000 in
theorem mi8_giveBelt : Cond.instanceMethod y8_giveBelt ∈ xG := xG_k xT_4 112 rfl rfl
set_option maxRecDepth 20000 in
theorem me8_giveBelt : Cond.selects y8_giveBelt.cls y8_giveBelt y8_giveBelt ∈ xG := xG_k xT_4 113 rfl rfl
set_option maxRecDepth 20000 in
theorem mf4_clear : xmf y4_clear prog_6_method_2_code 1 none := ⟨xG_k xT_2 208 rfl rfl, xG_k xT_1 4 rfl rfl, ⟨by decide +kernel, by decide +kernel⟩, by decide +kernel⟩
set_option maxRecDepth 20000 in
theorem mi4_clear : Cond.instanceMethod y4_clear ∈ xG := xG_k xT_2 206 rfl rfl
set_option maxRecDepth 20000 in
theorem me4_clear : Cond.selects y4_clear.cls y4_clear y4_clear ∈ xG := xG_k xT_2 207 rfl rfl
set_option maxRecDepth 20000 in
theorem mf4_copyFrom : xmf y4_copyFrom prog_6_method_3_code 2 none := ⟨xG_k xT_3 223 rfl rfl, xG_k xT_1 4 rfl rfl, ⟨by decide +kernel, by decide +kernel⟩, by decide +kernel⟩
set_option maxRecDepth 20000 in
theorem mi4_copyFrom : Cond.instanceMethod y4_copyFrom ∈ xG := xG_k xT_3 221 rfl rfl
set_option maxRecDepth 20000 in
theorem me4_copyFrom : Cond.selects y4_copyFrom.cls y4_copyFrom y4_copyFrom ∈ xG := xG_k xT_3 222 rfl rfl
set_option maxRecDepth 20000 in
theorem mf2_isBorne : xmf y2_isBorne prog_4_method_12_code 3 (some .boolean) := ⟨xG_k xT_4 166 rfl rfl, xG_k xT_1 3 rfl rfl, ⟨by decide +kernel, by decide +kernel⟩, by decide +kernel⟩
set_option maxRecDepth 20000 in
theorem mi2_isBorne : Cond.instanceMethod y2_isBorne ∈ xG := xG_k xT_4 164 rfl rfl
set_option maxRecDepth 20000 in
theorem me2_isBorne : Cond.selects y2_isBorne.cls y2_isBorne y2_isBorne ∈ xG := xG_k xT_4 165 rfl rfl
set_option maxRecDepth 20000 in
theorem mf2_beltsFrom : xmf y2_beltsFrom prog_4_method_16_code 5 (some .int) := ⟨xG_k xT_5 118 rfl rfl, xG_k xT_1 3 rfl rfl, ⟨by decide +kernel, by decide +kernel⟩, by decide +kernel⟩
set_option maxRecDepth 20000 in
theorem mi2_beltsFrom : Cond.instanceMethod y2_beltsFrom ∈ xG := xG_k xT_5 117 rfl rfl
set_option maxRecDepth 20000 in
theorem me2_beltsFrom : Cond.selects y2_beltsFrom.cls y2_beltsFrom y2_beltsFrom ∈ xG := xG_s xV_3 0 rfl
set_option maxRecDepth 20000 in
theorem mf2_guestsFrom : xmf y2_guestsFrom prog_4_method_17_code 5 (some .int) := ⟨xG_k xT_5 122 rfl rfl, xG_k xT_1 3 rfl rfl, ⟨by decide +kernel, by decide +kernel⟩, by decide +kernel⟩
set_option maxRecDepth 20000 in
theorem mi2_guestsFrom : Cond.instanceMethod y2_guestsFrom ∈ xG := xG_k xT_5 121 rfl rfl
set_option maxRecDepth 20000 in
theorem me2_guestsFrom : Cond.selects y2_guestsFrom.cls y2_guestsFrom y2_guestsFrom ∈ xG := xG_s xV_3 1 rfl
set_option maxRecDepth 20000 in
theorem mf9_allows : xmf y9_allows prog_11_method_5_code 4 (some .boolean) := ⟨xG_k xT_5 209 rfl rfl, xG_k xT_1 10 rfl rfl, ⟨by decide +kernel, by decide +kernel⟩, by decide +kernel⟩
set_option maxRecDepth 20000 in
theorem mi9_allows : Cond.instanceMethod y9_allows ∈ xG := xG_k xT_5 207 rfl rfl
set_option maxRecDepth 20000 in
theorem me9_allows : Cond.selects y9_allows.cls y9_allows y9_allows ∈ xG := xG_k xT_5 208 rfl rfl
set_option maxRecDepth 20000 in
theorem mf3_possible : xmf y3_possible prog_5_method_4_code 4 (some .int) := ⟨xG_k xT_5 205 rfl rfl, xG_k xT_1 11 rfl rfl, ⟨by decide +kernel, by decide +kernel⟩, by decide +kernel⟩
set_option maxRecDepth 20000 in
theorem mi3_possible : Cond.instanceMethod y3_possible ∈ xG := xG_k xT_5 203 rfl rfl
set_option maxRecDepth 20000 in
theorem me3_possible : Cond.selects y3_possible.cls y3_possible y3_possible ∈ xG := xG_k xT_5 204 rfl rfl
set_option maxRecDepth 20000 in
theorem mf3_mostAlike : xmf y3_mostAlike prog_5_method_6_code 5 (some .int) := ⟨xG_k xT_5 227 rfl rfl, xG_k xT_1 11 rfl rfl, ⟨by decide +kernel, by decide +kernel⟩, by decide +kernel⟩
set_option maxRecDepth 20000 in
theorem mi3_mostAlike : Cond.instanceMethod y3_mostAlike ∈ xG := xG_k xT_5 226 rfl rfl
set_option maxRecDepth 20000 in
theorem me3_mostAlike : Cond.selects y3_mostAlike.cls y3_mostAlike y3_mostAlike ∈ xG := xG_s xV_3 3 rfl
set_option maxRecDepth 20000 in
theorem mf3_depthBehind : xmf y3_depthBehind prog_5_method_3_code 4 (some .int) := ⟨xG_k xT_5 213 rfl rfl, xG_k xT_1 11 rfl rfl, ⟨by decide +kernel, by decide +kernel⟩, by decide +kernel⟩
set_option maxRecDepth 20000 in
theorem mi3_depthBehind : Cond.instanceMethod y3_depthBehind ∈ xG := xG_k xT_5 211 rfl rfl
set_option maxRecDepth 20000 in
theorem me3_depthBehind : Cond.selects y3_depthBehind.cls y3_depthBehind y3_depthBehind ∈ xG := xG_k xT_5 212 rfl rfl
set_option maxRecDepth 20000 in
theorem mf3_manyAsDeep : xmf y3_manyAsDeep prog_5_method_7_code 6 (some .int) := ⟨xG_k xT_5 232 rfl rfl, xG_k xT_1 11 rfl rfl, ⟨by decide +kernel, by decide +kernel⟩, by decide +kernel⟩
set_option maxRecDepth 20000 in
theorem mi3_manyAsDeep : Cond.instanceMethod y3_manyAsDeep ∈ xG := xG_k xT_5 231 rfl rfl
set_option maxRecDepth 20000 in
theorem me3_manyAsDeep : Cond.selects y3_manyAsDeep.cls y3_manyAsDeep y3_manyAsDeep ∈ xG := xG_s xV_3 4 rfl
set_option maxRecDepth 20000 in
theorem mf4_add : xmf y4_add prog_6_method_6_code 2 none := ⟨xG_k xT_3 204 rfl rfl, xG_k xT_1 4 rfl rfl, ⟨by decide +kernel, by decide +kernel⟩, by decide +kernel⟩
set_option maxRecDepth 20000 in
theorem mi4_add : Cond.instanceMethod y4_add ∈ xG := xG_k xT_3 203 rfl rfl
set_option maxRecDepth 20000 in
theorem me4_add : Cond.selects y4_add.cls y4_add y4_add ∈ xG := xG_s xV_2 0 rfl
set_option maxRecDepth 20000 in
theorem mf4_push : xmf y4_push prog_6_method_9_code 2 none := ⟨xG_k xT_4 196 rfl rfl, xG_k xT_1 4 rfl rfl, ⟨by decide +kernel, by decide +kernel⟩, by decide +kernel⟩
set_option maxRecDepth 20000 in
theorem mi4_push : Cond.instanceMethod y4_push ∈ xG := xG_k xT_4 195 rfl rfl
set_option maxRecDepth 20000 in
theorem me4_push : Cond.selects y4_push.cls y4_push y4_push ∈ xG := xG_s xV_2 8 rfl
set_option maxRecDepth 20000 in
theorem mf4_pop : xmf y4_pop prog_6_method_10_code 1 (some .int) := ⟨xG_k xT_4 200 rfl rfl, xG_k xT_1 4 rfl rfl, ⟨by decide +kernel, by decide +kernel⟩, by decide +kernel⟩
set_option maxRecDepth 20000 in
theorem mi4_pop : Cond.instanceMethod y4_pop ∈ xG := xG_k xT_4 199 rfl rfl
set_option maxRecDepth 20000 in
theorem me4_pop : Cond.selects y4_pop.cls y4_pop y4_pop ∈ xG := xG_s xV_2 9 rfl
set_option maxRecDepth 20000 in
theorem mf4_joined : xmf y4_joined prog_6_method_8_code 3 (some .int) := ⟨xG_k xT_4 203 rfl rfl, xG_k xT_1 4 rfl rfl, ⟨by decide +kernel, by decide +kernel⟩, by decide +kernel⟩
set_option maxRecDepth 20000 in
theorem ms4_joined : Cond.static y4_joined ∈ xG := xG_k xT_4 202 rfl rfl
set_option maxRecDepth 20000 in
theorem mf9_copyFrom : xmf y9_copyFrom prog_11_method_3_code 2 none := ⟨xG_k xT_6 39 rfl rfl, xG_k xT_1 10 rfl rfl, ⟨by decide +kernel, by decide +kernel⟩, by decide +kernel⟩
set_option maxRecDepth 20000 in
theorem mi9_copyFrom : Cond.instanceMethod y9_copyFrom ∈ xG := xG_k xT_6 37 rfl rfl
set_option maxRecDepth 20000 in
theorem me9_copyFrom : Cond.selects y9_copyFrom.cls y9_copyFrom y9_copyFrom ∈ xG := xG_k xT_6 38 rfl rfl
set_option maxRecDepth 20000 in
theorem mf6_chooseGuests : xmf y6_chooseGuests prog_8_method_3_code 4 none := ⟨xG_k xT_5 88 rfl rfl, xG_k xT_1 12 rfl rfl, ⟨by decide +kernel, by decide +kernel⟩, by decide +kernel⟩
set_option maxRecDepth 20000 in
theorem mi6_chooseGuests : Cond.instanceMethod y6_chooseGuests ∈ xG := xG_k xT_5 87 rfl rfl
set_option maxRecDepth 20000 in
theorem me6_chooseGuests : Cond.selects y6_chooseGuests.cls y6_chooseGuests y6_chooseGuests ∈ xG := xG_s xV_2 13 rfl
set_option maxRecDepth 20000 in
theorem mf8_wall : xmf y8_wall prog_10_method_10_code 3 (some .int) := ⟨xG_k xT_4 188 rfl rfl, xG_k xT_1 7 rfl rfl, ⟨by decide +kernel, by decide +kernel⟩, by decide +kernel⟩
set_option maxRecDepth 20000 in
theorem mi8_wall : Cond.instanceMethod y8_wall ∈ xG := xG_k xT_4 186 rfl rfl
set_option maxRecDepth 20000 in
theorem me8_wall : Cond.selects y8_wall.cls y8_wall y8_wall ∈ xG := xG_k xT_4 187 rfl rfl
set_option maxRecDepth 20000 in
theorem mf6_chooseBelts : xmf y6_chooseBelts prog_8_method_4_code 4 (some .boolean) := ⟨xG_k xT_5 94 rfl rfl, xG_k xT_1 12 rfl rfl, ⟨by decide +kernel, by decide +kernel⟩, by decide +kernel⟩
set_option maxRecDepth 20000 in
theorem mi6_chooseBelts : Cond.instanceMethod y6_chooseBelts ∈ xG := xG_k xT_5 93 rfl rfl
set_option maxRecDepth 20000 in
theorem me6_chooseBelts : Cond.selects y6_chooseBelts.cls y6_chooseBelts y6_chooseBelts ∈ xG := xG_s xV_2 14 rfl
set_option maxRecDepth 20000 in
theorem mf6_keepTried : xmf y6_keepTried prog_8_method_5_code 3 none := ⟨xG_k xT_5 99 rfl rfl, xG_k xT_1 12 rfl rfl, ⟨by decide +kernel, by decide +kernel⟩, by decide +kernel⟩
set_option maxRecDepth 20000 in
theorem mi6_keepTried : Cond.instanceMethod y6_keepTried ∈ xG := xG_k xT_5 98 rfl rfl
set_option maxRecDepth 20000 in
theorem me6_keepTried : Cond.selects y6_keepTried.cls y6_keepTried y6_keepTried ∈ xG := xG_s xV_2 15 rfl
set_option maxRecDepth 20000 in
theorem mf8_isCrying : xmf y8_isCrying prog_10_method_14_code 2 (some .boolean) := ⟨xG_k xT_5 12 rfl rfl, xG_k xT_1 7 rfl rfl, ⟨by decide +kernel, by decide +kernel⟩, by decide +kernel⟩
set_option maxRecDepth 20000 in
theorem mi8_isCrying : Cond.instanceMethod y8_isCrying ∈ xG := xG_k xT_5 10 rfl rfl
set_option maxRecDepth 20000 in
theorem me8_isCrying : Cond.selects y8_isCrying.cls y8_isCrying y8_isCrying ∈ xG := xG_k xT_5 11 rfl rfl
set_option maxRecDepth 20000 in
theorem mf8_canReach : xmf y8_canReach prog_10_method_17_code 3 (some .boolean) := ⟨xG_k xT_4 87 rfl rfl, xG_k xT_1 7 rfl rfl, ⟨by decide +kernel, by decide +kernel⟩, by decide +kernel⟩
set_option maxRecDepth 20000 in
theorem mi8_canReach : Cond.instanceMethod y8_canReach ∈ xG := xG_k xT_4 85 rfl rfl
set_option maxRecDepth 20000 in
theorem me8_canReach : Cond.selects y8_canReach.cls y8_canReach y8_canReach ∈ xG := xG_k xT_4 86 rfl rfl
set_option maxRecDepth 20000 in
theorem mf2_clear : xmf y2_clear prog_4_method_2_code 1 none := ⟨xG_k xT_2 204 rfl rfl, xG_k xT_1 3 rfl rfl, ⟨by decide +kernel, by decide +kernel⟩, by decide +kernel⟩
set_option maxRecDepth 20000 in
theorem mi2_clear : Cond.instanceMethod y2_clear ∈ xG := xG_k xT_2 202 rfl rfl
set_option maxRecDepth 20000 in
theorem me2_clear : Cond.selects y2_clear.cls y2_clear y2_clear ∈ xG := xG_k xT_2 203 rfl rfl
set_option maxRecDepth 20000 in
theorem mf7_readGuest : xmf y7_readGuest prog_9_method_3_code 3 (some .boolean) := ⟨xG_k xT_3 106 rfl rfl, xG_k xT_1 5 rfl rfl, ⟨by decide +kernel, by decide +kernel⟩, by decide +kernel⟩
set_option maxRecDepth 20000 in
theorem mi7_readGuest : Cond.instanceMethod y7_readGuest ∈ xG := xG_k xT_3 105 rfl rfl
set_option maxRecDepth 20000 in
theorem me7_readGuest : Cond.selects y7_readGuest.cls y7_readGuest y7_readGuest ∈ xG := xG_s xV_1 1 rfl
set_option maxRecDepth 20000 in
theorem mf7_readBelt : xmf y7_readBelt prog_9_method_4_code 3 (some .boolean) := ⟨xG_k xT_3 155 rfl rfl, xG_k xT_1 5 rfl rfl, ⟨by decide +kernel, by decide +kernel⟩, by decide +kernel⟩
set_option maxRecDepth 20000 in
theorem mi7_readBelt : Cond.instanceMethod y7_readBelt ∈ xG := xG_k xT_3 154 rfl rfl
set_option maxRecDepth 20000 in
theorem me7_readBelt : Cond.selects y7_readBelt.cls y7_readBelt y7_readBelt ∈ xG := xG_s xV_1 5 rfl
set_option maxRecDepth 20000 in
theorem mf7_readMan : xmf y7_readMan prog_9_method_5_code 3 (some .boolean) := ⟨xG_k xT_3 159 rfl rfl, xG_k xT_1 5 rfl rfl, ⟨by decide +kernel, by decide +kernel⟩, by decide +kernel⟩
set_option maxRecDepth 20000 in
theorem mi7_readMan : Cond.instanceMethod y7_readMan ∈ xG := xG_k xT_3 158 rfl rfl
set_option maxRecDepth 20000 in
theorem me7_readMan : Cond.selects y7_readMan.cls y7_readMan y7_readMan ∈ xG := xG_s xV_1 6 rfl
set_option maxRecDepth 20000 in
theorem mf7_readGaps : xmf y7_readGaps prog_9_method_6_code 1 (some .boolean) := ⟨xG_k xT_3 163 rfl rfl, xG_k xT_1 5 rfl rfl, ⟨by decide +kernel, by decide +kernel⟩, by decide +kernel⟩
set_option maxRecDepth 20000 in
theorem mi7_readGaps : Cond.instanceMethod y7_readGaps ∈ xG := xG_k xT_3 162 rfl rfl
set_option maxRecDepth 20000 in
theorem me7_readGaps : Cond.selects y7_readGaps.cls y7_readGaps y7_readGaps ∈ xG := xG_s xV_1 7 rfl
set_option maxRecDepth 20000 in
theorem mf7_readWater : xmf y7_readWater prog_9_method_7_code 1 (some .boolean) := ⟨xG_k xT_3 167 rfl rfl, xG_k xT_1 5 rfl rfl, ⟨by decide +kernel, by decide +kernel⟩, by decide +kernel⟩
set_option maxRecDepth 20000 in
theorem mi7_readWater : Cond.instanceMethod y7_readWater ∈ xG := xG_k xT_3 166 rfl rfl
set_option maxRecDepth 20000 in
theorem me7_readWater : Cond.selects y7_readWater.cls y7_readWater y7_readWater ∈ xG := xG_s xV_1 8 rfl
set_option maxRecDepth 20000 in
theorem mf7_readLaw : xmf y7_readLaw prog_9_method_8_code 1 (some .boolean) := ⟨xG_k xT_3 171 rfl rfl, xG_k xT_1 5 rfl rfl, ⟨by decide +kernel, by decide +kernel⟩, by decide +kernel⟩
set_option maxRecDepth 20000 in
theorem mi7_readLaw : Cond.instanceMethod y7_readLaw ∈ xG := xG_k xT_3 170 rfl rfl
set_option maxRecDepth 20000 in
theorem me7_readLaw : Cond.selects y7_readLaw.cls y7_readLaw y7_readLaw ∈ xG := xG_s xV_1 9 rfl
set_option maxRecDepth 20000 in
theorem mf7_readName : xmf y7_readName prog_9_method_9_code 3 (some .boolean) := ⟨xG_k xT_3 115 rfl rfl, xG_k xT_1 5 rfl rfl, ⟨by decide +kernel, by decide +kernel⟩, by decide +kernel⟩
set_option maxRecDepth 20000 in
theorem mi7_readName : Cond.instanceMethod y7_readName ∈ xG := xG_k xT_3 114 rfl rfl
set_option maxRecDepth 20000 in
theorem me7_readName : Cond.selects y7_readName.cls y7_readName y7_readName ∈ xG := xG_s xV_1 2 rfl
set_option maxRecDepth 20000 in
theorem mf7_readKind : xmf y7_readKind prog_9_method_10_code 3 (some .boolean) := ⟨xG_k xT_3 135 rfl rfl, xG_k xT_1 5 rfl rfl, ⟨by decide +kernel, by decide +kernel⟩, by decide +kernel⟩
set_option maxRecDepth 20000 in
theorem mi7_readKind : Cond.instanceMethod y7_readKind ∈ xG := xG_k xT_3 134 rfl rfl
set_option maxRecDepth 20000 in
theorem me7_readKind : Cond.selects y7_readKind.cls y7_readKind y7_readKind ∈ xG := xG_s xV_1 3 rfl
set_option maxRecDepth 20000 in
theorem mf7_readMeasure : xmf y7_readMeasure prog_9_method_11_code 6 (some .boolean) := ⟨xG_k xT_3 139 rfl rfl, xG_k xT_1 5 rfl rfl, ⟨by decide +kernel, by decide +kernel⟩, by decide +kernel⟩
set_option maxRecDepth 20000 in
theorem mi7_readMeasure : Cond.instanceMethod y7_readMeasure ∈ xG := xG_k xT_3 138 rfl rfl
set_option maxRecDepth 20000 in
theorem me7_readMeasure : Cond.selects y7_readMeasure.cls y7_readMeasure y7_readMeasure ∈ xG := xG_s xV_1 4 rfl
set_option maxRecDepth 20000 in
theorem mf2_addGuest : xmf y2_addGuest prog_4_method_4_code 1 none := ⟨xG_k xT_3 151 rfl rfl, xG_k xT_1 3 rfl rfl, ⟨by decide +kernel, by decide +kernel⟩, by decide +kernel⟩
set_option maxRecDepth 20000 in
theorem mi2_addGuest : Cond.instanceMethod y2_addGuest ∈ xG := xG_k xT_3 149 rfl rfl
set_option maxRecDepth 20000 in
theorem me2_addGuest : Cond.selects y2_addGuest.cls y2_addGuest y2_addGuest ∈ xG := xG_k xT_3 150 rfl rfl
set_option maxRecDepth 20000 in
theorem mf10_isNumber : xmf y10_isNumber prog_12_method_13_code 3 (some .boolean) := ⟨xG_k xT_3 143 rfl rfl, xG_k xT_1 2 rfl rfl, ⟨by decide +kernel, by decide +kernel⟩, by decide +kernel⟩
set_option maxRecDepth 20000 in
theorem mi10_isNumber : Cond.instanceMethod y10_isNumber ∈ xG := xG_k xT_3 141 rfl rfl
set_option maxRecDepth 20000 in
theorem me10_isNumber : Cond.selects y10_isNumber.cls y10_isNumber y10_isNumber ∈ xG := xG_k xT_3 142 rfl rfl
set_option maxRecDepth 20000 in
theorem mf7_readE : xmf y7_readE prog_9_method_12_code 5 (some .boolean) := ⟨xG_k xT_3 175 rfl rfl, xG_k xT_1 5 rfl rfl, ⟨by decide +kernel, by decide +kernel⟩, by decide +kernel⟩
set_option maxRecDepth 20000 in
theorem mi7_readE : Cond.instanceMethod y7_readE ∈ xG := xG_k xT_3 174 rfl rfl
set_option maxRecDepth 20000 in
theorem me7_readE : Cond.selects y7_readE.cls y7_readE y7_readE ∈ xG := xG_s xV_1 10 rfl
set_option maxRecDepth 20000 in
theorem mf2_isTold : xmf y2_isTold prog_4_method_9_code 3 (some .boolean) := ⟨xG_k xT_3 128 rfl rfl, xG_k xT_1 3 rfl rfl, ⟨by decide +kernel, by decide +kernel⟩, by decide +kernel⟩
set_option maxRecDepth 20000 in
theorem mi2_isTold : Cond.instanceMethod y2_isTold ∈ xG := xG_k xT_3 126 rfl rfl
set_option maxRecDepth 20000 in
theorem me2_isTold : Cond.selects y2_isTold.cls y2_isTold y2_isTold ∈ xG := xG_k xT_3 127 rfl rfl
set_option maxRecDepth 20000 in
theorem mf7_readTest : xmf y7_readTest prog_9_method_13_code 3 (some .boolean) := ⟨xG_k xT_3 179 rfl rfl, xG_k xT_1 5 rfl rfl, ⟨by decide +kernel, by decide +kernel⟩, by decide +kernel⟩
set_option maxRecDepth 20000 in
theorem mi7_readTest : Cond.instanceMethod y7_readTest ∈ xG := xG_k xT_3 178 rfl rfl
set_option maxRecDepth 20000 in
theorem me7_readTest : Cond.selects y7_readTest.cls y7_readTest y7_readTest ∈ xG := xG_s xV_1 11 rfl
set_option maxRecDepth 20000 in
theorem mf7_write : xmf y7_write prog_9_method_17_code 2 (some .boolean) := ⟨xG_k xT_3 196 rfl rfl, xG_k xT_1 5 rfl rfl, ⟨by decide +kernel, by decide +kernel⟩, by decide +kernel⟩
set_option maxRecDepth 20000 in
theorem mi7_write : Cond.instanceMethod y7_write ∈ xG := xG_k xT_3 195 rfl rfl
set_option maxRecDepth 20000 in
theorem me7_write : Cond.selects y7_write.cls y7_write y7_write ∈ xG := xG_s xV_1 15 rfl
set_option maxRecDepth 20000 in
theorem mf7_readSum : xmf y7_readSum prog_9_method_14_code 5 (some .boolean) := ⟨xG_k xT_3 183 rfl rfl, xG_k xT_1 5 rfl rfl, ⟨by decide +kernel, by decide +kernel⟩, by decide +kernel⟩
set_option maxRecDepth 20000 in
theorem mi7_readSum : Cond.instanceMethod y7_readSum ∈ xG := xG_k xT_3 182 rfl rfl
set_option maxRecDepth 20000 in
theorem me7_readSum : Cond.selects y7_readSum.cls y7_readSum y7_readSum ∈ xG := xG_s xV_1 12 rfl
set_option maxRecDepth 20000 in
theorem mf7_readProduct : xmf y7_readProduct prog_9_method_15_code 4 (some .boolean) := ⟨xG_k xT_3 187 rfl rfl, xG_k xT_1 5 rfl rfl, ⟨by decide +kernel, by decide +kernel⟩, by decide +kernel⟩
set_option maxRecDepth 20000 in
theorem mi7_readProduct : Cond.instanceMethod y7_readProduct ∈ xG := xG_k xT_3 186 rfl rfl
set_option maxRecDepth 20000 in
theorem me7_readProduct : Cond.selects y7_readProduct.cls y7_readProduct y7_readProduct ∈ xG := xG_s xV_1 13 rfl
set_option maxRecDepth 20000 in
theorem mf7_readPart : xmf y7_readPart prog_9_method_16_code 4 (some .boolean) := ⟨xG_k xT_3 191 rfl rfl, xG_k xT_1 5 rfl rfl, ⟨by decide +kernel, by decide +kernel⟩, by decide +kernel⟩
set_option maxRecDepth 20000 in
theorem mi7_readPart : Cond.instanceMethod y7_readPart ∈ xG := xG_k xT_3 190 rfl rfl
set_option maxRecDepth 20000 in
theorem me7_readPart : Cond.selects y7_readPart.cls y7_readPart y7_readPart ∈ xG := xG_s xV_1 14 rfl
set_option maxRecDepth 20000 in
theorem mf10_isFact : xmf y10_isFact prog_12_method_11_code 1 (some .boolean) := ⟨xG_k xT_3 123 rfl rfl, xG_k xT_1 2 rfl rfl, ⟨by decide +kernel, by decide +kernel⟩, by decide +kernel⟩
set_option maxRecDepth 20000 in
theorem mi10_isFact : Cond.instanceMethod y10_isFact ∈ xG := xG_k xT_3 121 rfl rfl
set_option maxRecDepth 20000 in
theorem me10_isFact : Cond.selects y10_isFact.cls y10_isFact y10_isFact ∈ xG := xG_k xT_3 122 rfl rfl
set_option maxRecDepth 20000 in
theorem mf4_addNumber : xmf y4_addNumber prog_6_method_4_code 2 none := ⟨xG_k xT_3 208 rfl rfl, xG_k xT_1 4 rfl rfl, ⟨by decide +kernel, by decide +kernel⟩, by decide +kernel⟩
set_option maxRecDepth 20000 in
theorem mi4_addNumber : Cond.instanceMethod y4_addNumber ∈ xG := xG_k xT_3 206 rfl rfl
set_option maxRecDepth 20000 in
theorem me4_addNumber : Cond.selects y4_addNumber.cls y4_addNumber y4_addNumber ∈ xG := xG_k xT_3 207 rfl rfl
set_option maxRecDepth 20000 in
theorem mf4_addKind : xmf y4_addKind prog_6_method_5_code 2 none := ⟨xG_k xT_3 200 rfl rfl, xG_k xT_1 4 rfl rfl, ⟨by decide +kernel, by decide +kernel⟩, by decide +kernel⟩
set_option maxRecDepth 20000 in
theorem mi4_addKind : Cond.instanceMethod y4_addKind ∈ xG := xG_k xT_3 198 rfl rfl
set_option maxRecDepth 20000 in
theorem me4_addKind : Cond.selects y4_addKind.cls y4_addKind y4_addKind ∈ xG := xG_k xT_3 199 rfl rfl
set_option maxRecDepth 20000 in
theorem mf2_isGuest : xmf y2_isGuest prog_4_method_5_code 2 (some .boolean) := ⟨xG_k xT_4 44 rfl rfl, xG_k xT_1 3 rfl rfl, ⟨by decide +kernel, by decide +kernel⟩, by decide +kernel⟩
set_option maxRecDepth 20000 in
theorem mi2_isGuest : Cond.instanceMethod y2_isGuest ∈ xG := xG_k xT_4 42 rfl rfl
set_option maxRecDepth 20000 in
theorem me2_isGuest : Cond.selects y2_isGuest.cls y2_isGuest y2_isGuest ∈ xG := xG_k xT_4 43 rfl rfl
set_option maxRecDepth 20000 in
theorem mf2_isBelt : xmf y2_isBelt prog_4_method_6_code 2 (some .boolean) := ⟨xG_k xT_4 52 rfl rfl, xG_k xT_1 3 rfl rfl, ⟨by decide +kernel, by decide +kernel⟩, by decide +kernel⟩
set_option maxRecDepth 20000 in
theorem mi2_isBelt : Cond.instanceMethod y2_isBelt ∈ xG := xG_k xT_4 50 rfl rfl
set_option maxRecDepth 20000 in
theorem me2_isBelt : Cond.selects y2_isBelt.cls y2_isBelt y2_isBelt ∈ xG := xG_k xT_4 51 rfl rfl
set_option maxRecDepth 20000 in
theorem mf8_holderOf : xmf y8_holderOf prog_10_method_8_code 3 (some .int) := ⟨xG_k xT_4 56 rfl rfl, xG_k xT_1 7 rfl rfl, ⟨by decide +kernel, by decide +kernel⟩, by decide +kernel⟩
set_option maxRecDepth 20000 in
theorem mi8_holderOf : Cond.instanceMethod y8_holderOf ∈ xG := xG_k xT_4 54 rfl rfl
set_option maxRecDepth 20000 in
theorem me8_holderOf : Cond.selects y8_holderOf.cls y8_holderOf y8_holderOf ∈ xG := xG_k xT_4 55 rfl rfl
set_option maxRecDepth 20000 in
theorem mf2_isMan : xmf y2_isMan prog_4_method_7_code 2 (some .boolean) := ⟨xG_k xT_4 64 rfl rfl, xG_k xT_1 3 rfl rfl, ⟨by decide +kernel, by decide +kernel⟩, by decide +kernel⟩
set_option maxRecDepth 20000 in
theorem mi2_isMan : Cond.instanceMethod y2_isMan ∈ xG := xG_k xT_4 62 rfl rfl
set_option maxRecDepth 20000 in
theorem me2_isMan : Cond.selects y2_isMan.cls y2_isMan y2_isMan ∈ xG := xG_k xT_4 63 rfl rfl
set_option maxRecDepth 20000 in
theorem mf2_canDrown : xmf y2_canDrown prog_4_method_10_code 2 (some .boolean) := ⟨xG_k xT_4 162 rfl rfl, xG_k xT_1 3 rfl rfl, ⟨by decide +kernel, by decide +kernel⟩, by decide +kernel⟩
set_option maxRecDepth 20000 in
theorem mi2_canDrown : Cond.instanceMethod y2_canDrown ∈ xG := xG_k xT_4 160 rfl rfl
set_option maxRecDepth 20000 in
theorem me2_canDrown : Cond.selects y2_canDrown.cls y2_canDrown y2_canDrown ∈ xG := xG_k xT_4 161 rfl rfl
set_option maxRecDepth 20000 in
theorem mf2_isShabby : xmf y2_isShabby prog_4_method_11_code 2 (some .boolean) := ⟨xG_k xT_4 97 rfl rfl, xG_k xT_1 3 rfl rfl, ⟨by decide +kernel, by decide +kernel⟩, by decide +kernel⟩
set_option maxRecDepth 20000 in
theorem mi2_isShabby : Cond.instanceMethod y2_isShabby ∈ xG := xG_k xT_4 95 rfl rfl
set_option maxRecDepth 20000 in
theorem me2_isShabby : Cond.selects y2_isShabby.cls y2_isShabby y2_isShabby ∈ xG := xG_k xT_4 96 rfl rfl
set_option maxRecDepth 20000 in
theorem mf8_wantsBelt : xmf y8_wantsBelt prog_10_method_13_code 2 (some .boolean) := ⟨xG_k xT_4 92 rfl rfl, xG_k xT_1 7 rfl rfl, ⟨by decide +kernel, by decide +kernel⟩, by decide +kernel⟩
set_option maxRecDepth 20000 in
theorem mi8_wantsBelt : Cond.instanceMethod y8_wantsBelt ∈ xG := xG_k xT_4 91 rfl rfl
set_option maxRecDepth 20000 in
theorem me8_wantsBelt : Cond.selects y8_wantsBelt.cls y8_wantsBelt y8_wantsBelt ∈ xG := xG_s xV_2 4 rfl
set_option maxRecDepth 20000 in
theorem mf8_isFree : xmf y8_isFree prog_10_method_11_code 2 (some .boolean) := ⟨xG_k xT_4 68 rfl rfl, xG_k xT_1 7 rfl rfl, ⟨by decide +kernel, by decide +kernel⟩, by decide +kernel⟩
set_option maxRecDepth 20000 in
theorem mi8_isFree : Cond.instanceMethod y8_isFree ∈ xG := xG_k xT_4 66 rfl rfl
set_option maxRecDepth 20000 in
theorem me8_isFree : Cond.selects y8_isFree.cls y8_isFree y8_isFree ∈ xG := xG_k xT_4 67 rfl rfl
set_option maxRecDepth 20000 in
theorem mf8_isOnWall : xmf y8_isOnWall prog_10_method_9_code 2 (some .boolean) := ⟨xG_k xT_4 81 rfl rfl, xG_k xT_1 7 rfl rfl, ⟨by decide +kernel, by decide +kernel⟩, by decide +kernel⟩
set_option maxRecDepth 20000 in
theorem mi8_isOnWall : Cond.instanceMethod y8_isOnWall ∈ xG := xG_k xT_4 79 rfl rfl
set_option maxRecDepth 20000 in
theorem me8_isOnWall : Cond.selects y8_isOnWall.cls y8_isOnWall y8_isOnWall ∈ xG := xG_k xT_4 80 rfl rfl
set_option maxRecDepth 20000 in
theorem mf8_isIn : xmf y8_isIn prog_10_method_5_code 2 (some .boolean) := ⟨xG_k xT_4 150 rfl rfl, xG_k xT_1 7 rfl rfl, ⟨by decide +kernel, by decide +kernel⟩, by decide +kernel⟩
set_option maxRecDepth 20000 in
theorem mi8_isIn : Cond.instanceMethod y8_isIn ∈ xG := xG_k xT_4 148 rfl rfl
set_option maxRecDepth 20000 in
theorem me8_isIn : Cond.selects y8_isIn.cls y8_isIn y8_isIn ∈ xG := xG_k xT_4 149 rfl rfl
set_option maxRecDepth 20000 in
theorem mf8_drowns : xmf y8_drowns prog_10_method_25_code 2 (some .boolean) := ⟨xG_k xT_4 154 rfl rfl, xG_k xT_1 7 rfl rfl, ⟨by decide +kernel, by decide +kernel⟩, by decide +kernel⟩
set_option maxRecDepth 20000 in
theorem mi8_drowns : Cond.instanceMethod y8_drowns ∈ xG := xG_k xT_4 153 rfl rfl
set_option maxRecDepth 20000 in
theorem me8_drowns : Cond.selects y8_drowns.cls y8_drowns y8_drowns ∈ xG := xG_s xV_2 5 rfl
set_option maxRecDepth 20000 in
theorem mf8_comeNearer : xmf y8_comeNearer prog_10_method_26_code 2 none := ⟨xG_k xT_4 170 rfl rfl, xG_k xT_1 7 rfl rfl, ⟨by decide +kernel, by decide +kernel⟩, by decide +kernel⟩
set_option maxRecDepth 20000 in
theorem mi8_comeNearer : Cond.instanceMethod y8_comeNearer ∈ xG := xG_k xT_4 169 rfl rfl
set_option maxRecDepth 20000 in
theorem me8_comeNearer : Cond.selects y8_comeNearer.cls y8_comeNearer y8_comeNearer ∈ xG := xG_s xV_2 6 rfl
set_option maxRecDepth 20000 in
theorem mf8_rise : xmf y8_rise prog_10_method_27_code 4 none := ⟨xG_k xT_4 174 rfl rfl, xG_k xT_1 7 rfl rfl, ⟨by decide +kernel, by decide +kernel⟩, by decide +kernel⟩
set_option maxRecDepth 20000 in
theorem mi8_rise : Cond.instanceMethod y8_rise ∈ xG := xG_k xT_4 173 rfl rfl
set_option maxRecDepth 20000 in
theorem me8_rise : Cond.selects y8_rise.cls y8_rise y8_rise ∈ xG := xG_s xV_2 7 rfl
set_option maxRecDepth 20000 in
theorem mf8_isUnder : xmf y8_isUnder prog_10_method_12_code 2 (some .boolean) := ⟨xG_k xT_4 158 rfl rfl, xG_k xT_1 7 rfl rfl, ⟨by decide +kernel, by decide +kernel⟩, by decide +kernel⟩
set_option maxRecDepth 20000 in
theorem mi8_isUnder : Cond.instanceMethod y8_isUnder ∈ xG := xG_k xT_4 156 rfl rfl
set_option maxRecDepth 20000 in
theorem me8_isUnder : Cond.selects y8_isUnder.cls y8_isUnder y8_isUnder ∈ xG := xG_k xT_4 157 rfl rfl
set_option maxRecDepth 20000 in
theorem mf4_value : xmf y4_value prog_6_method_7_code 9 (some .int) := ⟨xG_k xT_4 192 rfl rfl, xG_k xT_1 4 rfl rfl, ⟨by decide +kernel, by decide +kernel⟩, by decide +kernel⟩
set_option maxRecDepth 20000 in
theorem mi4_value : Cond.instanceMethod y4_value ∈ xG := xG_k xT_4 190 rfl rfl
set_option maxRecDepth 20000 in
theorem me4_value : Cond.selects y4_value.cls y4_value y4_value ∈ xG := xG_k xT_4 191 rfl rfl
set_option maxRecDepth 20000 in
theorem mf10_signAt : xmf y10_signAt prog_12_method_4_code 2 (some .char) := ⟨xG_k xT_2 220 rfl rfl, xG_k xT_1 2 rfl rfl, ⟨by decide +kernel, by decide +kernel⟩, by decide +kernel⟩
set_option maxRecDepth 20000 in
theorem mi10_signAt : Cond.instanceMethod y10_signAt ∈ xG := xG_k xT_2 219 rfl rfl
set_option maxRecDepth 20000 in
theorem me10_signAt : Cond.selects y10_signAt.cls y10_signAt y10_signAt ∈ xG := xG_s xV_1 0 rfl
set_option maxRecDepth 20000 in
theorem mf10_isBlank : xmf y10_isBlank prog_12_method_7_code 1 (some .boolean) := ⟨xG_k xT_2 223 rfl rfl, xG_k xT_1 2 rfl rfl, ⟨by decide +kernel, by decide +kernel⟩, by decide +kernel⟩
set_option maxRecDepth 20000 in
theorem ms10_isBlank : Cond.static y10_isBlank ∈ xG := xG_k xT_2 222 rfl rfl
set_option maxRecDepth 20000 in
theorem mf10_isLetter : xmf y10_isLetter prog_12_method_8_code 1 (some .boolean) := ⟨xG_k xT_2 226 rfl rfl, xG_k xT_1 2 rfl rfl, ⟨by decide +kernel, by decide +kernel⟩, by decide +kernel⟩
set_option maxRecDepth 20000 in
theorem ms10_isLetter : Cond.static y10_isLetter ∈ xG := xG_k xT_2 225 rfl rfl
set_option maxRecDepth 20000 in
theorem mf10_kindOf : xmf y10_kindOf prog_12_method_10_code 7 (some .int) := ⟨xG_k xT_2 230 rfl rfl, xG_k xT_1 2 rfl rfl, ⟨by decide +kernel, by decide +kernel⟩, by decide +kernel⟩
set_option maxRecDepth 20000 in
theorem ms10_kindOf : Cond.static y10_kindOf ∈ xG := xG_k xT_2 229 rfl rfl
set_option maxRecDepth 20000 in
theorem mf10_isDigit : xmf y10_isDigit prog_12_method_9_code 1 (some .boolean) := ⟨xG_k xT_3 42 rfl rfl, xG_k xT_1 2 rfl rfl, ⟨by decide +kernel, by decide +kernel⟩, by decide +kernel⟩
set_option maxRecDepth 20000 in
theorem ms10_isDigit : Cond.static y10_isDigit ∈ xG := xG_k xT_3 41 rfl rfl
set_option maxRecDepth 20000 in
theorem mfS_indexOf : xmf yS_indexOf prog_23_method_79_code 2 (some .int) := ⟨xG_k xT_3 47 rfl rfl, xG_k xT_1 14 rfl rfl, ⟨by decide +kernel, by decide +kernel⟩, by decide +kernel⟩
set_option maxRecDepth 20000 in
theorem miS_indexOf : Cond.instanceMethod yS_indexOf ∈ xG := xG_k xT_3 45 rfl rfl
set_option maxRecDepth 20000 in
theorem meS_indexOf : Cond.selects yS_indexOf.cls yS_indexOf yS_indexOf ∈ xG := xG_k xT_3 46 rfl rfl
set_option maxRecDepth 20000 in
theorem mfS_length : xmf yS_length prog_23_method_54_code 1 (some .int) := ⟨xG_k xT_2 235 rfl rfl, xG_k xT_1 14 rfl rfl, ⟨by decide +kernel, by decide +kernel⟩, by decide +kernel⟩
set_option maxRecDepth 20000 in
theorem miS_length : Cond.instanceMethod yS_length ∈ xG := xG_k xT_2 233 rfl rfl
set_option maxRecDepth 20000 in
theorem meS_length : Cond.selects yS_length.cls yS_length yS_length ∈ xG := xG_k xT_2 234 rfl rfl
set_option maxRecDepth 20000 in
theorem mfS_charAt : xmf yS_charAt prog_23_method_56_code 2 (some .char) := ⟨xG_k xT_3 5 rfl rfl, xG_k xT_1 14 rfl rfl, ⟨by decide +kernel, by decide +kernel⟩, by decide +kernel⟩
set_option maxRecDepth 20000 in
theorem miS_charAt : Cond.instanceMethod yS_charAt ∈ xG := xG_k xT_3 3 rfl rfl
set_option maxRecDepth 20000 in
theorem meS_charAt : Cond.selects yS_charAt.cls yS_charAt yS_charAt ∈ xG := xG_k xT_3 4 rfl rfl
set_option maxRecDepth 20000 in
theorem mf10_putEight : xmf y10_putEight prog_12_method_3_code 6 none := ⟨xG_k xT_2 192 rfl rfl, xG_k xT_1 2 rfl rfl, ⟨by decide +kernel, by decide +kernel⟩, by decide +kernel⟩
set_option maxRecDepth 20000 in
theorem mi10_putEight : Cond.instanceMethod y10_putEight ∈ xG := xG_k xT_2 190 rfl rfl
set_option maxRecDepth 20000 in
theorem me10_putEight : Cond.selects y10_putEight.cls y10_putEight y10_putEight ∈ xG := xG_k xT_2 191 rfl rfl
set_option maxRecDepth 20000 in
theorem mf7_read : xmf y7_read prog_9_method_2_code 3 (some .int) := ⟨xG_k xT_2 200 rfl rfl, xG_k xT_1 5 rfl rfl, ⟨by decide +kernel, by decide +kernel⟩, by decide +kernel⟩
set_option maxRecDepth 20000 in
theorem mi7_read : Cond.instanceMethod y7_read ∈ xG := xG_k xT_2 198 rfl rfl
set_option maxRecDepth 20000 in
theorem me7_read : Cond.selects y7_read.cls y7_read y7_read ∈ xG := xG_k xT_2 199 rfl rfl
set_option maxRecDepth 20000 in
theorem mf10_clear : xmf y10_clear prog_12_method_2_code 1 none := ⟨xG_k xT_3 212 rfl rfl, xG_k xT_1 2 rfl rfl, ⟨by decide +kernel, by decide +kernel⟩, by decide +kernel⟩
set_option maxRecDepth 20000 in
theorem mi10_clear : Cond.instanceMethod y10_clear ∈ xG := xG_k xT_3 210 rfl rfl
set_option maxRecDepth 20000 in
theorem me10_clear : Cond.selects y10_clear.cls y10_clear y10_clear ∈ xG := xG_k xT_3 211 rfl rfl
set_option maxRecDepth 20000 in
theorem mf2_copyFrom : xmf y2_copyFrom prog_4_method_3_code 2 none := ⟨xG_k xT_3 216 rfl rfl, xG_k xT_1 3 rfl rfl, ⟨by decide +kernel, by decide +kernel⟩, by decide +kernel⟩
set_option maxRecDepth 20000 in
theorem mi2_copyFrom : Cond.instanceMethod y2_copyFrom ∈ xG := xG_k xT_3 214 rfl rfl
set_option maxRecDepth 20000 in
theorem me2_copyFrom : Cond.selects y2_copyFrom.cls y2_copyFrom y2_copyFrom ∈ xG := xG_k xT_3 215 rfl rfl
set_option maxRecDepth 20000 in
theorem mf1_clear : xmf y1_clear prog_3_method_2_code 1 none := ⟨xG_k xT_3 232 rfl rfl, xG_k xT_1 6 rfl rfl, ⟨by decide +kernel, by decide +kernel⟩, by decide +kernel⟩
set_option maxRecDepth 20000 in
theorem mi1_clear : Cond.instanceMethod y1_clear ∈ xG := xG_k xT_3 230 rfl rfl
set_option maxRecDepth 20000 in
theorem me1_clear : Cond.selects y1_clear.cls y1_clear y1_clear ∈ xG := xG_k xT_3 231 rfl rfl
set_option maxRecDepth 20000 in
theorem mf9_clear : xmf y9_clear prog_11_method_2_code 1 none := ⟨xG_k xT_3 236 rfl rfl, xG_k xT_1 10 rfl rfl, ⟨by decide +kernel, by decide +kernel⟩, by decide +kernel⟩
set_option maxRecDepth 20000 in
theorem mi9_clear : Cond.instanceMethod y9_clear ∈ xG := xG_k xT_3 234 rfl rfl
set_option maxRecDepth 20000 in
theorem me9_clear : Cond.selects y9_clear.cls y9_clear y9_clear ∈ xG := xG_k xT_3 235 rfl rfl
set_option maxRecDepth 20000 in
theorem mf0_clear : xmf y0_clear prog_2_method_2_code 1 none := ⟨xG_k xT_4 0 rfl rfl, xG_k xT_1 8 rfl rfl, ⟨by decide +kernel, by decide +kernel⟩, by decide +kernel⟩
set_option maxRecDepth 20000 in
theorem mi0_clear : Cond.instanceMethod y0_clear ∈ xG := xG_k xT_3 238 rfl rfl
set_option maxRecDepth 20000 in
theorem me0_clear : Cond.selects y0_clear.cls y0_clear y0_clear ∈ xG := xG_k xT_3 239 rfl rfl
set_option maxRecDepth 20000 in
theorem mf11_liftMarks : xmf y11_liftMarks prog_1_method_4_code 3 none := ⟨xG_k xT_4 4 rfl rfl, xG_k xT_1 1 rfl rfl, ⟨by decide +kernel, by decide +kernel⟩, by decide +kernel⟩
set_option maxRecDepth 20000 in
theorem mi11_liftMarks : Cond.instanceMethod y11_liftMarks ∈ xG := xG_k xT_4 3 rfl rfl
set_option maxRecDepth 20000 in
theorem me11_liftMarks : Cond.selects y11_liftMarks.cls y11_liftMarks y11_liftMarks ∈ xG := xG_s xV_2 1 rfl
set_option maxRecDepth 20000 in
theorem mf5_lift : xmf y5_lift prog_7_method_2_code 1 none := ⟨xG_k xT_4 8 rfl rfl, xG_k xT_1 9 rfl rfl, ⟨by decide +kernel, by decide +kernel⟩, by decide +kernel⟩
set_option maxRecDepth 20000 in
theorem mi5_lift : Cond.instanceMethod y5_lift ∈ xG := xG_k xT_4 6 rfl rfl
set_option maxRecDepth 20000 in
theorem me5_lift : Cond.selects y5_lift.cls y5_lift y5_lift ∈ xG := xG_k xT_4 7 rfl rfl
set_option maxRecDepth 20000 in
theorem mf1_read : xmf y1_read prog_3_method_4_code 5 (some .int) := ⟨xG_k xT_4 17 rfl rfl, xG_k xT_1 6 rfl rfl, ⟨by decide +kernel, by decide +kernel⟩, by decide +kernel⟩
set_option maxRecDepth 20000 in
theorem mi1_read : Cond.instanceMethod y1_read ∈ xG := xG_k xT_4 15 rfl rfl
set_option maxRecDepth 20000 in
theorem me1_read : Cond.selects y1_read.cls y1_read y1_read ∈ xG := xG_k xT_4 16 rfl rfl
set_option maxRecDepth 20000 in
theorem mf1_copyFrom : xmf y1_copyFrom prog_3_method_3_code 2 none := ⟨xG_k xT_4 35 rfl rfl, xG_k xT_1 6 rfl rfl, ⟨by decide +kernel, by decide +kernel⟩, by decide +kernel⟩
set_option maxRecDepth 20000 in
theorem mi1_copyFrom : Cond.instanceMethod y1_copyFrom ∈ xG := xG_k xT_4 33 rfl rfl
set_option maxRecDepth 20000 in
theorem me1_copyFrom : Cond.selects y1_copyFrom.cls y1_copyFrom y1_copyFrom ∈ xG := xG_k xT_4 34 rfl rfl
set_option maxRecDepth 20000 in
theorem mf0_keep : xmf y0_keep prog_2_method_3_code 3 none := ⟨xG_k xT_4 104 rfl rfl, xG_k xT_1 8 rfl rfl, ⟨by decide +kernel, by decide +kernel⟩, by decide +kernel⟩
set_option maxRecDepth 20000 in
theorem mi0_keep : Cond.instanceMethod y0_keep ∈ xG := xG_k xT_4 102 rfl rfl
set_option maxRecDepth 20000 in
theorem me0_keep : Cond.selects y0_keep.cls y0_keep y0_keep ∈ xG := xG_k xT_4 103 rfl rfl
set_option maxRecDepth 20000 in
theorem mf0_bringBack : xmf y0_bringBack prog_2_method_4_code 4 (some .boolean) := ⟨xG_k xT_4 213 rfl rfl, xG_k xT_1 8 rfl rfl, ⟨by decide +kernel, by decide +kernel⟩, by decide +kernel⟩
set_option maxRecDepth 20000 in
theorem mi0_bringBack : Cond.instanceMethod y0_bringBack ∈ xG := xG_k xT_4 211 rfl rfl
set_option maxRecDepth 20000 in
theorem me0_bringBack : Cond.selects y0_bringBack.cls y0_bringBack y0_bringBack ∈ xG := xG_k xT_4 212 rfl rfl
set_option maxRecDepth 20000 in
theorem mf1_judge : xmf y1_judge prog_3_method_7_code 7 (some .int) := ⟨xG_k xT_4 221 rfl rfl, xG_k xT_1 6 rfl rfl, ⟨by decide +kernel, by decide +kernel⟩, by decide +kernel⟩
set_option maxRecDepth 20000 in
theorem mi1_judge : Cond.instanceMethod y1_judge ∈ xG := xG_k xT_4 219 rfl rfl
set_option maxRecDepth 20000 in
theorem me1_judge : Cond.selects y1_judge.cls y1_judge y1_judge ∈ xG := xG_k xT_4 220 rfl rfl
set_option maxRecDepth 20000 in
theorem mf8_criers : xmf y8_criers prog_10_method_15_code 3 (some .int) := ⟨xG_k xT_5 8 rfl rfl, xG_k xT_1 7 rfl rfl, ⟨by decide +kernel, by decide +kernel⟩, by decide +kernel⟩
set_option maxRecDepth 20000 in
theorem mi8_criers : Cond.instanceMethod y8_criers ∈ xG := xG_k xT_5 6 rfl rfl
set_option maxRecDepth 20000 in
theorem me8_criers : Cond.selects y8_criers.cls y8_criers y8_criers ∈ xG := xG_k xT_5 7 rfl rfl
set_option maxRecDepth 20000 in
theorem mf11_goAhead : xmf y11_goAhead prog_1_method_18_code 3 none := ⟨xG_k xT_5 20 rfl rfl, xG_k xT_1 1 rfl rfl, ⟨by decide +kernel, by decide +kernel⟩, by decide +kernel⟩
set_option maxRecDepth 20000 in
theorem mi11_goAhead : Cond.instanceMethod y11_goAhead ∈ xG := xG_k xT_5 19 rfl rfl
set_option maxRecDepth 20000 in
theorem me11_goAhead : Cond.selects y11_goAhead.cls y11_goAhead y11_goAhead ∈ xG := xG_s xV_2 11 rfl
set_option maxRecDepth 20000 in
theorem mf11_minutesUntil : xmf y11_minutesUntil prog_1_method_21_code 4 (some .int) := ⟨xG_k xT_5 33 rfl rfl, xG_k xT_1 1 rfl rfl, ⟨by decide +kernel, by decide +kernel⟩, by decide +kernel⟩
set_option maxRecDepth 20000 in
theorem mi11_minutesUntil : Cond.instanceMethod y11_minutesUntil ∈ xG := xG_k xT_5 32 rfl rfl
set_option maxRecDepth 20000 in
theorem me11_minutesUntil : Cond.selects y11_minutesUntil.cls y11_minutesUntil y11_minutesUntil ∈ xG := xG_s xV_2 12 rfl
set_option maxRecDepth 20000 in
theorem mf8_isInState : xmf y8_isInState prog_10_method_4_code 3 (some .boolean) := ⟨xG_k xT_5 38 rfl rfl, xG_k xT_1 7 rfl rfl, ⟨by decide +kernel, by decide +kernel⟩, by decide +kernel⟩
set_option maxRecDepth 20000 in
theorem mi8_isInState : Cond.instanceMethod y8_isInState ∈ xG := xG_k xT_5 36 rfl rfl
set_option maxRecDepth 20000 in
theorem me8_isInState : Cond.selects y8_isInState.cls y8_isInState y8_isInState ∈ xG := xG_k xT_5 37 rfl rfl
set_option maxRecDepth 20000 in
theorem mf11_lowestBit : xmf y11_lowestBit prog_1_method_23_code 2 (some .int) := ⟨xG_k xT_5 45 rfl rfl, xG_k xT_1 1 rfl rfl, ⟨by decide +kernel, by decide +kernel⟩, by decide +kernel⟩
set_option maxRecDepth 20000 in
theorem ms11_lowestBit : Cond.static y11_lowestBit ∈ xG := xG_k xT_5 44 rfl rfl
set_option maxRecDepth 20000 in
theorem mf8_borneBy : xmf y8_borneBy prog_10_method_16_code 4 (some .int) := ⟨xG_k xT_5 71 rfl rfl, xG_k xT_1 7 rfl rfl, ⟨by decide +kernel, by decide +kernel⟩, by decide +kernel⟩
set_option maxRecDepth 20000 in
theorem mi8_borneBy : Cond.instanceMethod y8_borneBy ∈ xG := xG_k xT_5 69 rfl rfl
set_option maxRecDepth 20000 in
theorem me8_borneBy : Cond.selects y8_borneBy.cls y8_borneBy y8_borneBy ∈ xG := xG_k xT_5 70 rfl rfl
set_option maxRecDepth 20000 in
theorem mf6_plan : xmf y6_plan prog_8_method_2_code 2 none := ⟨xG_k xT_5 84 rfl rfl, xG_k xT_1 12 rfl rfl, ⟨by decide +kernel, by decide +kernel⟩, by decide +kernel⟩
set_option maxRecDepth 20000 in
theorem mi6_plan : Cond.instanceMethod y6_plan ∈ xG := xG_k xT_5 82 rfl rfl
set_option maxRecDepth 20000 in
theorem me6_plan : Cond.selects y6_plan.cls y6_plan y6_plan ∈ xG := xG_k xT_5 83 rfl rfl
set_option maxRecDepth 20000 in
theorem mf2_bearsAll : xmf y2_bearsAll prog_4_method_15_code 4 (some .boolean) := ⟨xG_k xT_5 113 rfl rfl, xG_k xT_1 3 rfl rfl, ⟨by decide +kernel, by decide +kernel⟩, by decide +kernel⟩
set_option maxRecDepth 20000 in
theorem mi2_bearsAll : Cond.instanceMethod y2_bearsAll ∈ xG := xG_k xT_5 111 rfl rfl
set_option maxRecDepth 20000 in
theorem me2_bearsAll : Cond.selects y2_bearsAll.cls y2_bearsAll y2_bearsAll ∈ xG := xG_k xT_5 112 rfl rfl
set_option maxRecDepth 20000 in
theorem mf2_bearing : xmf y2_bearing prog_4_method_14_code 4 (some .int) := ⟨xG_k xT_5 126 rfl rfl, xG_k xT_1 3 rfl rfl, ⟨by decide +kernel, by decide +kernel⟩, by decide +kernel⟩
set_option maxRecDepth 20000 in
theorem mi2_bearing : Cond.instanceMethod y2_bearing ∈ xG := xG_k xT_5 124 rfl rfl
set_option maxRecDepth 20000 in
theorem me2_bearing : Cond.selects y2_bearing.cls y2_bearing y2_bearing ∈ xG := xG_k xT_5 125 rfl rfl
set_option maxRecDepth 20000 in
theorem mf2_leastBelt : xmf y2_leastBelt prog_4_method_13_code 4 (some .int) := ⟨xG_k xT_5 134 rfl rfl, xG_k xT_1 3 rfl rfl, ⟨by decide +kernel, by decide +kernel⟩, by decide +kernel⟩
set_option maxRecDepth 20000 in
theorem mi2_leastBelt : Cond.instanceMethod y2_leastBelt ∈ xG := xG_k xT_5 132 rfl rfl
set_option maxRecDepth 20000 in
theorem me2_leastBelt : Cond.selects y2_leastBelt.cls y2_leastBelt y2_leastBelt ∈ xG := xG_k xT_5 133 rfl rfl
set_option maxRecDepth 20000 in
theorem mf8_manyAt : xmf y8_manyAt prog_10_method_7_code 4 (some .int) := ⟨xG_k xT_5 156 rfl rfl, xG_k xT_1 7 rfl rfl, ⟨by decide +kernel, by decide +kernel⟩, by decide +kernel⟩
set_option maxRecDepth 20000 in
theorem mi8_manyAt : Cond.instanceMethod y8_manyAt ∈ xG := xG_k xT_5 154 rfl rfl
set_option maxRecDepth 20000 in
theorem me8_manyAt : Cond.selects y8_manyAt.cls y8_manyAt y8_manyAt ∈ xG := xG_k xT_5 155 rfl rfl
set_option maxRecDepth 20000 in
theorem mf11_isSavedBy : xmf y11_isSavedBy prog_1_method_42_code 5 (some .boolean) := ⟨xG_k xT_5 179 rfl rfl, xG_k xT_1 1 rfl rfl, ⟨by decide +kernel, by decide +kernel⟩, by decide +kernel⟩
set_option maxRecDepth 20000 in
theorem mi11_isSavedBy : Cond.instanceMethod y11_isSavedBy ∈ xG := xG_k xT_5 178 rfl rfl
set_option maxRecDepth 20000 in
theorem me11_isSavedBy : Cond.selects y11_isSavedBy.cls y11_isSavedBy y11_isSavedBy ∈ xG := xG_s xV_3 2 rfl
set_option maxRecDepth 20000 in
theorem mf9_add : xmf y9_add prog_11_method_4_code 3 (some .boolean) := ⟨xG_k xT_5 191 rfl rfl, xG_k xT_1 10 rfl rfl, ⟨by decide +kernel, by decide +kernel⟩, by decide +kernel⟩
set_option maxRecDepth 20000 in
theorem mi9_add : Cond.instanceMethod y9_add ∈ xG := xG_k xT_5 189 rfl rfl
set_option maxRecDepth 20000 in
theorem me9_add : Cond.selects y9_add.cls y9_add y9_add ∈ xG := xG_k xT_5 190 rfl rfl
set_option maxRecDepth 20000 in
theorem mf3_open : xmf y3_open prog_5_method_2_code 4 none := ⟨xG_k xT_5 199 rfl rfl, xG_k xT_1 11 rfl rfl, ⟨by decide +kernel, by decide +kernel⟩, by decide +kernel⟩
set_option maxRecDepth 20000 in
theorem mi3_open : Cond.instanceMethod y3_open ∈ xG := xG_k xT_5 197 rfl rfl
set_option maxRecDepth 20000 in
theorem me3_open : Cond.selects y3_open.cls y3_open y3_open ∈ xG := xG_k xT_5 198 rfl rfl
set_option maxRecDepth 20000 in
theorem mf3_tellingMinute : xmf y3_tellingMinute prog_5_method_5_code 7 (some .int) := ⟨xG_k xT_5 221 rfl rfl, xG_k xT_1 11 rfl rfl, ⟨by decide +kernel, by decide +kernel⟩, by decide +kernel⟩
set_option maxRecDepth 20000 in
theorem mi3_tellingMinute : Cond.instanceMethod y3_tellingMinute ∈ xG := xG_k xT_5 219 rfl rfl
set_option maxRecDepth 20000 in
theorem me3_tellingMinute : Cond.selects y3_tellingMinute.cls y3_tellingMinute y3_tellingMinute ∈ xG := xG_k xT_5 220 rfl rfl
set_option maxRecDepth 20000 in
theorem mf11_weightOf : xmf y11_weightOf prog_1_method_48_code 5 (some .int) := ⟨xG_k xT_6 0 rfl rfl, xG_k xT_1 1 rfl rfl, ⟨by decide +kernel, by decide +kernel⟩, by decide +kernel⟩
set_option maxRecDepth 20000 in
theorem ms11_weightOf : Cond.static y11_weightOf ∈ xG := xG_k xT_5 239 rfl rfl
set_option maxRecDepth 20000 in
theorem mf11_isSunkBy : xmf y11_isSunkBy prog_1_method_49_code 5 (some .boolean) := ⟨xG_k xT_6 4 rfl rfl, xG_k xT_1 1 rfl rfl, ⟨by decide +kernel, by decide +kernel⟩, by decide +kernel⟩
set_option maxRecDepth 20000 in
theorem mi11_isSunkBy : Cond.instanceMethod y11_isSunkBy ∈ xG := xG_k xT_6 3 rfl rfl
set_option maxRecDepth 20000 in
theorem me11_isSunkBy : Cond.selects y11_isSunkBy.cls y11_isSunkBy y11_isSunkBy ∈ xG := xG_s xV_3 5 rfl
set_option maxRecDepth 20000 in
theorem mf11_isPrize : xmf y11_isPrize prog_1_method_51_code 1 (some .boolean) := ⟨xG_k xT_6 60 rfl rfl, xG_k xT_1 1 rfl rfl, ⟨by decide +kernel, by decide +kernel⟩, by decide +kernel⟩
set_option maxRecDepth 20000 in
theorem ms11_isPrize : Cond.static y11_isPrize ∈ xG := xG_k xT_6 59 rfl rfl
set_option maxRecDepth 20000 in
theorem mf11_gain : xmf y11_gain prog_1_method_52_code 5 (some .int) := ⟨xG_k xT_6 124 rfl rfl, xG_k xT_1 1 rfl rfl, ⟨by decide +kernel, by decide +kernel⟩, by decide +kernel⟩
set_option maxRecDepth 20000 in
theorem ms11_gain : Cond.static y11_gain ∈ xG := xG_k xT_6 123 rfl rfl
set_option maxRecDepth 20000 in
theorem mf11_playBalls : xmf y11_playBalls prog_1_method_54_code 11 (some .int) := ⟨xG_k xT_6 12 rfl rfl, xG_k xT_1 1 rfl rfl, ⟨by decide +kernel, by decide +kernel⟩, by decide +kernel⟩
set_option maxRecDepth 20000 in
theorem mi11_playBalls : Cond.instanceMethod y11_playBalls ∈ xG := xG_k xT_6 11 rfl rfl
set_option maxRecDepth 20000 in
theorem me11_playBalls : Cond.selects y11_playBalls.cls y11_playBalls y11_playBalls ∈ xG := xG_s xV_3 6 rfl
set_option maxRecDepth 20000 in
theorem mf11_nextDraw : xmf y11_nextDraw prog_1_method_55_code 2 (some .long) := ⟨xG_k xT_6 15 rfl rfl, xG_k xT_1 1 rfl rfl, ⟨by decide +kernel, by decide +kernel⟩, by decide +kernel⟩
set_option maxRecDepth 20000 in
theorem ms11_nextDraw : Cond.static y11_nextDraw ∈ xG := xG_k xT_6 14 rfl rfl
set_option maxRecDepth 20000 in
theorem mf11_below : xmf y11_below prog_1_method_56_code 3 (some .int) := ⟨xG_k xT_6 21 rfl rfl, xG_k xT_1 1 rfl rfl, ⟨by decide +kernel, by decide +kernel⟩, by decide +kernel⟩
set_option maxRecDepth 20000 in
theorem ms11_below : Cond.static y11_below ∈ xG := xG_k xT_6 20 rfl rfl
set_option maxRecDepth 20000 in
theorem mf11_dance : xmf y11_dance prog_1_method_57_code 5 (some .int) := ⟨xG_k xT_6 26 rfl rfl, xG_k xT_1 1 rfl rfl, ⟨by decide +kernel, by decide +kernel⟩, by decide +kernel⟩
set_option maxRecDepth 20000 in
theorem mi11_dance : Cond.instanceMethod y11_dance ∈ xG := xG_k xT_6 25 rfl rfl
set_option maxRecDepth 20000 in
theorem me11_dance : Cond.selects y11_dance.cls y11_dance y11_dance ∈ xG := xG_s xV_3 7 rfl
set_option maxRecDepth 20000 in
theorem mf5_lay : xmf y5_lay prog_7_method_3_code 3 none := ⟨xG_k xT_6 34 rfl rfl, xG_k xT_1 9 rfl rfl, ⟨by decide +kernel, by decide +kernel⟩, by decide +kernel⟩
set_option maxRecDepth 20000 in
theorem mi5_lay : Cond.instanceMethod y5_lay ∈ xG := xG_k xT_6 32 rfl rfl
set_option maxRecDepth 20000 in
theorem me5_lay : Cond.selects y5_lay.cls y5_lay y5_lay ∈ xG := xG_k xT_6 33 rfl rfl
set_option maxRecDepth 20000 in
theorem mf5_bringBack : xmf y5_bringBack prog_7_method_4_code 3 (some .boolean) := ⟨xG_k xT_6 44 rfl rfl, xG_k xT_1 9 rfl rfl, ⟨by decide +kernel, by decide +kernel⟩, by decide +kernel⟩
set_option maxRecDepth 20000 in
theorem mi5_bringBack : Cond.instanceMethod y5_bringBack ∈ xG := xG_k xT_6 42 rfl rfl
set_option maxRecDepth 20000 in
theorem me5_bringBack : Cond.selects y5_bringBack.cls y5_bringBack y5_bringBack ∈ xG := xG_k xT_6 43 rfl rfl
set_option maxRecDepth 20000 in
theorem mf12_lay : xmf y12_lay prog_14_method_3_code 5 none := ⟨xG_k xT_6 137 rfl rfl, xG_k xT_1 13 rfl rfl, ⟨by decide +kernel, by decide +kernel⟩, by decide +kernel⟩
set_option maxRecDepth 20000 in
theorem mi12_lay : Cond.instanceMethod y12_lay ∈ xG := xG_k xT_6 135 rfl rfl
set_option maxRecDepth 20000 in
theorem me12_lay : Cond.selects y12_lay.cls y12_lay y12_lay ∈ xG := xG_s xV_3 9 rfl
set_option maxRecDepth 20000 in
theorem mf12_isLetter : xmf y12_isLetter prog_14_method_5_code 1 (some .boolean) := ⟨xG_k xT_7 64 rfl rfl, xG_k xT_1 13 rfl rfl, ⟨by decide +kernel, by decide +kernel⟩, by decide +kernel⟩
set_option maxRecDepth 20000 in
theorem ms12_isLetter : Cond.static y12_isLetter ∈ xG := xG_k xT_7 63 rfl rfl
set_option maxRecDepth 20000 in
theorem mf12_rank : xmf y12_rank prog_14_method_7_code 1 (some .int) := ⟨xG_k xT_7 68 rfl rfl, xG_k xT_1 13 rfl rfl, ⟨by decide +kernel, by decide +kernel⟩, by decide +kernel⟩
set_option maxRecDepth 20000 in
theorem ms12_rank : Cond.static y12_rank ∈ xG := xG_k xT_7 67 rfl rfl
set_option maxRecDepth 20000 in
theorem mf12_isDigit : xmf y12_isDigit prog_14_method_6_code 1 (some .boolean) := ⟨xG_k xT_7 71 rfl rfl, xG_k xT_1 13 rfl rfl, ⟨by decide +kernel, by decide +kernel⟩, by decide +kernel⟩
set_option maxRecDepth 20000 in
theorem ms12_isDigit : Cond.static y12_isDigit ∈ xG := xG_k xT_7 70 rfl rfl
set_option maxRecDepth 20000 in
theorem mf12_isSignOf : xmf y12_isSignOf prog_14_method_8_code 1 (some .boolean) := ⟨xG_k xT_7 76 rfl rfl, xG_k xT_1 13 rfl rfl, ⟨by decide +kernel, by decide +kernel⟩, by decide +kernel⟩
set_option maxRecDepth 20000 in
theorem ms12_isSignOf : Cond.static y12_isSignOf ∈ xG := xG_k xT_7 75 rfl rfl
set_option maxRecDepth 20000 in
theorem mf12_isSign : xmf y12_isSign prog_14_method_11_code 2 (some .boolean) := ⟨xG_k xT_7 156 rfl rfl, xG_k xT_1 13 rfl rfl, ⟨by decide +kernel, by decide +kernel⟩, by decide +kernel⟩
set_option maxRecDepth 20000 in
theorem mi12_isSign : Cond.instanceMethod y12_isSign ∈ xG := xG_k xT_7 155 rfl rfl
set_option maxRecDepth 20000 in
theorem me12_isSign : Cond.selects y12_isSign.cls y12_isSign y12_isSign ∈ xG := xG_s xV_5 3 rfl
set_option maxRecDepth 20000 in
theorem mf12_wrong : xmf y12_wrong prog_14_method_10_code 2 none := ⟨xG_k xT_7 96 rfl rfl, xG_k xT_1 13 rfl rfl, ⟨by decide +kernel, by decide +kernel⟩, by decide +kernel⟩
set_option maxRecDepth 20000 in
theorem mi12_wrong : Cond.instanceMethod y12_wrong ∈ xG := xG_k xT_7 95 rfl rfl
set_option maxRecDepth 20000 in
theorem me12_wrong : Cond.selects y12_wrong.cls y12_wrong y12_wrong ∈ xG := xG_s xV_4 4 rfl
set_option maxRecDepth 20000 in
theorem mf12_isWord : xmf y12_isWord prog_14_method_12_code 2 (some .boolean) := ⟨xG_k xT_7 84 rfl rfl, xG_k xT_1 13 rfl rfl, ⟨by decide +kernel, by decide +kernel⟩, by decide +kernel⟩
set_option maxRecDepth 20000 in
theorem mi12_isWord : Cond.instanceMethod y12_isWord ∈ xG := xG_k xT_7 83 rfl rfl
set_option maxRecDepth 20000 in
theorem me12_isWord : Cond.selects y12_isWord.cls y12_isWord y12_isWord ∈ xG := xG_s xV_4 1 rfl
set_option maxRecDepth 20000 in
theorem mf12_hasWord : xmf y12_hasWord prog_14_method_15_code 3 (some .boolean) := ⟨xG_k xT_7 124 rfl rfl, xG_k xT_1 13 rfl rfl, ⟨by decide +kernel, by decide +kernel⟩, by decide +kernel⟩
set_option maxRecDepth 20000 in
theorem mi12_hasWord : Cond.instanceMethod y12_hasWord ∈ xG := xG_k xT_7 123 rfl rfl
set_option maxRecDepth 20000 in
theorem me12_hasWord : Cond.selects y12_hasWord.cls y12_hasWord y12_hasWord ∈ xG := xG_s xV_4 11 rfl
set_option maxRecDepth 20000 in
theorem mf12_takeWord : xmf y12_takeWord prog_14_method_16_code 2 none := ⟨xG_k xT_7 120 rfl rfl, xG_k xT_1 13 rfl rfl, ⟨by decide +kernel, by decide +kernel⟩, by decide +kernel⟩
set_option maxRecDepth 20000 in
theorem mi12_takeWord : Cond.instanceMethod y12_takeWord ∈ xG := xG_k xT_7 119 rfl rfl
set_option maxRecDepth 20000 in
theorem me12_takeWord : Cond.selects y12_takeWord.cls y12_takeWord y12_takeWord ∈ xG := xG_s xV_4 10 rfl
set_option maxRecDepth 20000 in
theorem mf12_takeNumber : xmf y12_takeNumber prog_14_method_19_code 3 (some .int) := ⟨xG_k xT_7 128 rfl rfl, xG_k xT_1 13 rfl rfl, ⟨by decide +kernel, by decide +kernel⟩, by decide +kernel⟩
set_option maxRecDepth 20000 in
theorem mi12_takeNumber : Cond.instanceMethod y12_takeNumber ∈ xG := xG_k xT_7 127 rfl rfl
set_option maxRecDepth 20000 in
theorem me12_takeNumber : Cond.selects y12_takeNumber.cls y12_takeNumber y12_takeNumber ∈ xG := xG_s xV_4 12 rfl
set_option maxRecDepth 20000 in
theorem mf12_wordHere : xmf y12_wordHere prog_14_method_21_code 5 (some .int) := ⟨xG_k xT_7 104 rfl rfl, xG_k xT_1 13 rfl rfl, ⟨by decide +kernel, by decide +kernel⟩, by decide +kernel⟩
set_option maxRecDepth 20000 in
theorem mi12_wordHere : Cond.instanceMethod y12_wordHere ∈ xG := xG_k xT_7 103 rfl rfl
set_option maxRecDepth 20000 in
theorem me12_wordHere : Cond.selects y12_wordHere.cls y12_wordHere y12_wordHere ∈ xG := xG_s xV_4 6 rfl
set_option maxRecDepth 20000 in
theorem mf12_isName : xmf y12_isName prog_14_method_23_code 1 (some .boolean) := ⟨xG_k xT_7 100 rfl rfl, xG_k xT_1 13 rfl rfl, ⟨by decide +kernel, by decide +kernel⟩, by decide +kernel⟩
set_option maxRecDepth 20000 in
theorem mi12_isName : Cond.instanceMethod y12_isName ∈ xG := xG_k xT_7 99 rfl rfl
set_option maxRecDepth 20000 in
theorem me12_isName : Cond.selects y12_isName.cls y12_isName y12_isName ∈ xG := xG_s xV_4 5 rfl
set_option maxRecDepth 20000 in
theorem mf12_nameAt : xmf y12_nameAt prog_14_method_24_code 3 (some .int) := ⟨xG_k xT_7 108 rfl rfl, xG_k xT_1 13 rfl rfl, ⟨by decide +kernel, by decide +kernel⟩, by decide +kernel⟩
set_option maxRecDepth 20000 in
theorem mi12_nameAt : Cond.instanceMethod y12_nameAt ∈ xG := xG_k xT_7 107 rfl rfl
set_option maxRecDepth 20000 in
theorem me12_nameAt : Cond.selects y12_nameAt.cls y12_nameAt y12_nameAt ∈ xG := xG_s xV_4 7 rfl
set_option maxRecDepth 20000 in
theorem mf12_within : xmf y12_within prog_14_method_17_code 3 (some .boolean) := ⟨xG_k xT_7 183 rfl rfl, xG_k xT_1 13 rfl rfl, ⟨by decide +kernel, by decide +kernel⟩, by decide +kernel⟩
set_option maxRecDepth 20000 in
theorem ms12_within : Cond.static y12_within ∈ xG := xG_k xT_7 182 rfl rfl
set_option maxRecDepth 20000 in
theorem mf12_cutAll : xmf y12_cutAll prog_14_method_9_code 7 none := ⟨xG_k xT_7 61 rfl rfl, xG_k xT_1 13 rfl rfl, ⟨by decide +kernel, by decide +kernel⟩, by decide +kernel⟩
set_option maxRecDepth 20000 in
theorem mi12_cutAll : Cond.instanceMethod y12_cutAll ∈ xG := xG_k xT_7 60 rfl rfl
set_option maxRecDepth 20000 in
theorem me12_cutAll : Cond.selects y12_cutAll.cls y12_cutAll y12_cutAll ∈ xG := xG_s xV_3 15 rfl
set_option maxRecDepth 20000 in
theorem mf12_standsAsAlways : xmf y12_standsAsAlways prog_14_method_18_code 3 none := ⟨xG_k xT_6 173 rfl rfl, xG_k xT_1 13 rfl rfl, ⟨by decide +kernel, by decide +kernel⟩, by decide +kernel⟩
set_option maxRecDepth 20000 in
theorem mi12_standsAsAlways : Cond.instanceMethod y12_standsAsAlways ∈ xG := xG_k xT_6 172 rfl rfl
set_option maxRecDepth 20000 in
theorem me12_standsAsAlways : Cond.selects y12_standsAsAlways.cls y12_standsAsAlways y12_standsAsAlways ∈ xG := xG_s xV_3 10 rfl
set_option maxRecDepth 20000 in
theorem mf12_readLine : xmf y12_readLine prog_14_method_27_code 4 none := ⟨xG_k xT_7 80 rfl rfl, xG_k xT_1 13 rfl rfl, ⟨by decide +kernel, by decide +kernel⟩, by decide +kernel⟩
set_option maxRecDepth 20000 in
theorem mi12_readLine : Cond.instanceMethod y12_readLine ∈ xG := xG_k xT_7 79 rfl rfl
set_option maxRecDepth 20000 in
theorem me12_readLine : Cond.selects y12_readLine.cls y12_readLine y12_readLine ∈ xG := xG_s xV_4 0 rfl
set_option maxRecDepth 20000 in
theorem mf12_takeSign : xmf y12_takeSign prog_14_method_13_code 2 none := ⟨xG_k xT_7 168 rfl rfl, xG_k xT_1 13 rfl rfl, ⟨by decide +kernel, by decide +kernel⟩, by decide +kernel⟩
set_option maxRecDepth 20000 in
theorem mi12_takeSign : Cond.instanceMethod y12_takeSign ∈ xG := xG_k xT_7 167 rfl rfl
set_option maxRecDepth 20000 in
theorem me12_takeSign : Cond.selects y12_takeSign.cls y12_takeSign y12_takeSign ∈ xG := xG_s xV_5 6 rfl
set_option maxRecDepth 20000 in
theorem mf12_begins : xmf y12_begins prog_14_method_43_code 2 none := ⟨xG_k xT_6 177 rfl rfl, xG_k xT_1 13 rfl rfl, ⟨by decide +kernel, by decide +kernel⟩, by decide +kernel⟩
set_option maxRecDepth 20000 in
theorem mi12_begins : Cond.instanceMethod y12_begins ∈ xG := xG_k xT_6 176 rfl rfl
set_option maxRecDepth 20000 in
theorem me12_begins : Cond.selects y12_begins.cls y12_begins y12_begins ∈ xG := xG_s xV_3 11 rfl
set_option maxRecDepth 20000 in
theorem mf12_readGuest : xmf y12_readGuest prog_14_method_28_code 7 none := ⟨xG_k xT_7 88 rfl rfl, xG_k xT_1 13 rfl rfl, ⟨by decide +kernel, by decide +kernel⟩, by decide +kernel⟩
set_option maxRecDepth 20000 in
theorem mi12_readGuest : Cond.instanceMethod y12_readGuest ∈ xG := xG_k xT_7 87 rfl rfl
set_option maxRecDepth 20000 in
theorem me12_readGuest : Cond.selects y12_readGuest.cls y12_readGuest y12_readGuest ∈ xG := xG_s xV_4 2 rfl
set_option maxRecDepth 20000 in
theorem mf12_readName : xmf y12_readName prog_14_method_29_code 5 none := ⟨xG_k xT_7 92 rfl rfl, xG_k xT_1 13 rfl rfl, ⟨by decide +kernel, by decide +kernel⟩, by decide +kernel⟩
set_option maxRecDepth 20000 in
theorem mi12_readName : Cond.instanceMethod y12_readName ∈ xG := xG_k xT_7 91 rfl rfl
set_option maxRecDepth 20000 in
theorem me12_readName : Cond.selects y12_readName.cls y12_readName y12_readName ∈ xG := xG_s xV_4 3 rfl
set_option maxRecDepth 20000 in
theorem mf12_takeAfter : xmf y12_takeAfter prog_14_method_20_code 4 (some .int) := ⟨xG_k xT_7 116 rfl rfl, xG_k xT_1 13 rfl rfl, ⟨by decide +kernel, by decide +kernel⟩, by decide +kernel⟩
set_option maxRecDepth 20000 in
theorem mi12_takeAfter : Cond.instanceMethod y12_takeAfter ∈ xG := xG_k xT_7 115 rfl rfl
set_option maxRecDepth 20000 in
theorem me12_takeAfter : Cond.selects y12_takeAfter.cls y12_takeAfter y12_takeAfter ∈ xG := xG_s xV_4 9 rfl
set_option maxRecDepth 20000 in
theorem mf12_readOnce : xmf y12_readOnce prog_14_method_30_code 2 none := ⟨xG_k xT_7 132 rfl rfl, xG_k xT_1 13 rfl rfl, ⟨by decide +kernel, by decide +kernel⟩, by decide +kernel⟩
set_option maxRecDepth 20000 in
theorem mi12_readOnce : Cond.instanceMethod y12_readOnce ∈ xG := xG_k xT_7 131 rfl rfl
set_option maxRecDepth 20000 in
theorem me12_readOnce : Cond.selects y12_readOnce.cls y12_readOnce y12_readOnce ∈ xG := xG_s xV_4 13 rfl
set_option maxRecDepth 20000 in
theorem mf12_takeOne : xmf y12_takeOne prog_14_method_22_code 4 (some .int) := ⟨xG_k xT_7 112 rfl rfl, xG_k xT_1 13 rfl rfl, ⟨by decide +kernel, by decide +kernel⟩, by decide +kernel⟩
set_option maxRecDepth 20000 in
theorem mi12_takeOne : Cond.instanceMethod y12_takeOne ∈ xG := xG_k xT_7 111 rfl rfl
set_option maxRecDepth 20000 in
theorem me12_takeOne : Cond.selects y12_takeOne.cls y12_takeOne y12_takeOne ∈ xG := xG_s xV_4 8 rfl
set_option maxRecDepth 20000 in
theorem mf12_whole : xmf y12_whole prog_14_method_34_code 3 none := ⟨xG_k xT_7 136 rfl rfl, xG_k xT_1 13 rfl rfl, ⟨by decide +kernel, by decide +kernel⟩, by decide +kernel⟩
set_option maxRecDepth 20000 in
theorem mi12_whole : Cond.instanceMethod y12_whole ∈ xG := xG_k xT_7 135 rfl rfl
set_option maxRecDepth 20000 in
theorem me12_whole : Cond.selects y12_whole.cls y12_whole y12_whole ∈ xG := xG_s xV_4 14 rfl
set_option maxRecDepth 20000 in
theorem mf12_emit : xmf y12_emit prog_14_method_33_code 3 none := ⟨xG_k xT_7 160 rfl rfl, xG_k xT_1 13 rfl rfl, ⟨by decide +kernel, by decide +kernel⟩, by decide +kernel⟩
set_option maxRecDepth 20000 in
theorem mi12_emit : Cond.instanceMethod y12_emit ∈ xG := xG_k xT_7 159 rfl rfl
set_option maxRecDepth 20000 in
theorem me12_emit : Cond.selects y12_emit.cls y12_emit y12_emit ∈ xG := xG_s xV_5 4 rfl
set_option maxRecDepth 20000 in
theorem mf12_readEvening : xmf y12_readEvening prog_14_method_32_code 3 none := ⟨xG_k xT_7 176 rfl rfl, xG_k xT_1 13 rfl rfl, ⟨by decide +kernel, by decide +kernel⟩, by decide +kernel⟩
set_option maxRecDepth 20000 in
theorem mi12_readEvening : Cond.instanceMethod y12_readEvening ∈ xG := xG_k xT_7 175 rfl rfl
set_option maxRecDepth 20000 in
theorem me12_readEvening : Cond.selects y12_readEvening.cls y12_readEvening y12_readEvening ∈ xG := xG_s xV_5 7 rfl
set_option maxRecDepth 20000 in
theorem mf12_takeTold : xmf y12_takeTold prog_14_method_25_code 3 (some .int) := ⟨xG_k xT_7 180 rfl rfl, xG_k xT_1 13 rfl rfl, ⟨by decide +kernel, by decide +kernel⟩, by decide +kernel⟩
set_option maxRecDepth 20000 in
theorem mi12_takeTold : Cond.instanceMethod y12_takeTold ∈ xG := xG_k xT_7 179 rfl rfl
set_option maxRecDepth 20000 in
theorem me12_takeTold : Cond.selects y12_takeTold.cls y12_takeTold y12_takeTold ∈ xG := xG_s xV_5 8 rfl
set_option maxRecDepth 20000 in
theorem mf12_test : xmf y12_test prog_14_method_35_code 3 none := ⟨xG_k xT_7 140 rfl rfl, xG_k xT_1 13 rfl rfl, ⟨by decide +kernel, by decide +kernel⟩, by decide +kernel⟩
set_option maxRecDepth 20000 in
theorem mi12_test : Cond.instanceMethod y12_test ∈ xG := xG_k xT_7 139 rfl rfl
set_option maxRecDepth 20000 in
theorem me12_test : Cond.selects y12_test.cls y12_test y12_test ∈ xG := xG_s xV_4 15 rfl
set_option maxRecDepth 20000 in
theorem mf12_sums : xmf y12_sums prog_14_method_36_code 3 none := ⟨xG_k xT_7 144 rfl rfl, xG_k xT_1 13 rfl rfl, ⟨by decide +kernel, by decide +kernel⟩, by decide +kernel⟩
set_option maxRecDepth 20000 in
theorem mi12_sums : Cond.instanceMethod y12_sums ∈ xG := xG_k xT_7 143 rfl rfl
set_option maxRecDepth 20000 in
theorem me12_sums : Cond.selects y12_sums.cls y12_sums y12_sums ∈ xG := xG_s xV_5 0 rfl
set_option maxRecDepth 20000 in
theorem mf12_hasSign : xmf y12_hasSign prog_14_method_14_code 3 (some .boolean) := ⟨xG_k xT_7 164 rfl rfl, xG_k xT_1 13 rfl rfl, ⟨by decide +kernel, by decide +kernel⟩, by decide +kernel⟩
set_option maxRecDepth 20000 in
theorem mi12_hasSign : Cond.instanceMethod y12_hasSign ∈ xG := xG_k xT_7 163 rfl rfl
set_option maxRecDepth 20000 in
theorem me12_hasSign : Cond.selects y12_hasSign.cls y12_hasSign y12_hasSign ∈ xG := xG_s xV_5 5 rfl
set_option maxRecDepth 20000 in
theorem mf12_products : xmf y12_products prog_14_method_37_code 2 none := ⟨xG_k xT_7 148 rfl rfl, xG_k xT_1 13 rfl rfl, ⟨by decide +kernel, by decide +kernel⟩, by decide +kernel⟩
set_option maxRecDepth 20000 in
theorem mi12_products : Cond.instanceMethod y12_products ∈ xG := xG_k xT_7 147 rfl rfl
set_option maxRecDepth 20000 in
theorem me12_products : Cond.selects y12_products.cls y12_products y12_products ∈ xG := xG_s xV_5 1 rfl
set_option maxRecDepth 20000 in
theorem mf12_takePart : xmf y12_takePart prog_14_method_38_code 4 none := ⟨xG_k xT_7 152 rfl rfl, xG_k xT_1 13 rfl rfl, ⟨by decide +kernel, by decide +kernel⟩, by decide +kernel⟩
set_option maxRecDepth 20000 in
theorem mi12_takePart : Cond.instanceMethod y12_takePart ∈ xG := xG_k xT_7 151 rfl rfl
set_option maxRecDepth 20000 in
theorem me12_takePart : Cond.selects y12_takePart.cls y12_takePart y12_takePart ∈ xG := xG_s xV_5 2 rfl
set_option maxRecDepth 20000 in
theorem mf12_both : xmf y12_both prog_14_method_40_code 3 (some .int) := ⟨xG_k xT_8 81 rfl rfl, xG_k xT_1 13 rfl rfl, ⟨by decide +kernel, by decide +kernel⟩, by decide +kernel⟩
set_option maxRecDepth 20000 in
theorem ms12_both : Cond.static y12_both ∈ xG := xG_k xT_8 80 rfl rfl
set_option maxRecDepth 20000 in
theorem mf12_guests : xmf y12_guests prog_14_method_45_code 1 (some .int) := ⟨xG_k xT_6 185 rfl rfl, xG_k xT_1 13 rfl rfl, ⟨by decide +kernel, by decide +kernel⟩, by decide +kernel⟩
set_option maxRecDepth 20000 in
theorem mi12_guests : Cond.instanceMethod y12_guests ∈ xG := xG_k xT_6 184 rfl rfl
set_option maxRecDepth 20000 in
theorem me12_guests : Cond.selects y12_guests.cls y12_guests y12_guests ∈ xG := xG_s xV_3 13 rfl
set_option maxRecDepth 20000 in
theorem mf12_guestOf : xmf y12_guestOf prog_14_method_48_code 3 (some .int) := ⟨xG_k xT_6 189 rfl rfl, xG_k xT_1 13 rfl rfl, ⟨by decide +kernel, by decide +kernel⟩, by decide +kernel⟩
set_option maxRecDepth 20000 in
theorem mi12_guestOf : Cond.instanceMethod y12_guestOf ∈ xG := xG_k xT_6 188 rfl rfl
set_option maxRecDepth 20000 in
theorem me12_guestOf : Cond.selects y12_guestOf.cls y12_guestOf y12_guestOf ∈ xG := xG_s xV_3 14 rfl
set_option maxRecDepth 20000 in
theorem mf12_starts : xmf y12_starts prog_14_method_42_code 3 none := ⟨xG_k xT_6 181 rfl rfl, xG_k xT_1 13 rfl rfl, ⟨by decide +kernel, by decide +kernel⟩, by decide +kernel⟩
set_option maxRecDepth 20000 in
theorem mi12_starts : Cond.instanceMethod y12_starts ∈ xG := xG_k xT_6 180 rfl rfl
set_option maxRecDepth 20000 in
theorem me12_starts : Cond.selects y12_starts.cls y12_starts y12_starts ∈ xG := xG_s xV_3 12 rfl
set_option maxRecDepth 20000 in
theorem mf12_copies : xmf y12_copies prog_14_method_41_code 5 none := ⟨xG_k xT_8 23 rfl rfl, xG_k xT_1 13 rfl rfl, ⟨by decide +kernel, by decide +kernel⟩, by decide +kernel⟩
set_option maxRecDepth 20000 in
theorem mi12_copies : Cond.instanceMethod y12_copies ∈ xG := xG_k xT_8 22 rfl rfl
set_option maxRecDepth 20000 in
theorem me12_copies : Cond.selects y12_copies.cls y12_copies y12_copies ∈ xG := xG_s xV_6 8 rfl
set_option maxRecDepth 20000 in
theorem mf12_belts : xmf y12_belts prog_14_method_46_code 1 (some .int) := ⟨xG_k xT_7 207 rfl rfl, xG_k xT_1 13 rfl rfl, ⟨by decide +kernel, by decide +kernel⟩, by decide +kernel⟩
set_option maxRecDepth 20000 in
theorem mi12_belts : Cond.instanceMethod y12_belts ∈ xG := xG_k xT_7 206 rfl rfl
set_option maxRecDepth 20000 in
theorem me12_belts : Cond.selects y12_belts.cls y12_belts y12_belts ∈ xG := xG_s xV_5 12 rfl
set_option maxRecDepth 20000 in
theorem mf12_men : xmf y12_men prog_14_method_47_code 1 (some .int) := ⟨xG_k xT_7 223 rfl rfl, xG_k xT_1 13 rfl rfl, ⟨by decide +kernel, by decide +kernel⟩, by decide +kernel⟩
set_option maxRecDepth 20000 in
theorem mi12_men : Cond.instanceMethod y12_men ∈ xG := xG_k xT_7 222 rfl rfl
set_option maxRecDepth 20000 in
theorem me12_men : Cond.selects y12_men.cls y12_men y12_men ∈ xG := xG_s xV_5 15 rfl
set_option maxRecDepth 20000 in
theorem mf12_bearsOf : xmf y12_bearsOf prog_14_method_49_code 2 (some .int) := ⟨xG_k xT_7 211 rfl rfl, xG_k xT_1 13 rfl rfl, ⟨by decide +kernel, by decide +kernel⟩, by decide +kernel⟩
set_option maxRecDepth 20000 in
theorem mi12_bearsOf : Cond.instanceMethod y12_bearsOf ∈ xG := xG_k xT_7 210 rfl rfl
set_option maxRecDepth 20000 in
theorem me12_bearsOf : Cond.selects y12_bearsOf.cls y12_bearsOf y12_bearsOf ∈ xG := xG_s xV_5 13 rfl
set_option maxRecDepth 20000 in
theorem mf12_weightOf : xmf y12_weightOf prog_14_method_55_code 2 (some .int) := ⟨xG_k xT_7 195 rfl rfl, xG_k xT_1 13 rfl rfl, ⟨by decide +kernel, by decide +kernel⟩, by decide +kernel⟩
set_option maxRecDepth 20000 in
theorem mi12_weightOf : Cond.instanceMethod y12_weightOf ∈ xG := xG_k xT_7 194 rfl rfl
set_option maxRecDepth 20000 in
theorem me12_weightOf : Cond.selects y12_weightOf.cls y12_weightOf y12_weightOf ∈ xG := xG_s xV_5 10 rfl
set_option maxRecDepth 20000 in
theorem mf12_isIn : xmf y12_isIn prog_14_method_57_code 3 (some .boolean) := ⟨xG_k xT_8 7 rfl rfl, xG_k xT_1 13 rfl rfl, ⟨by decide +kernel, by decide +kernel⟩, by decide +kernel⟩
set_option maxRecDepth 20000 in
theorem mi12_isIn : Cond.instanceMethod y12_isIn ∈ xG := xG_k xT_8 6 rfl rfl
set_option maxRecDepth 20000 in
theorem me12_isIn : Cond.selects y12_isIn.cls y12_isIn y12_isIn ∈ xG := xG_s xV_6 4 rfl
set_option maxRecDepth 20000 in
theorem mf12_doesBear : xmf y12_doesBear prog_14_method_56_code 3 (some .boolean) := ⟨xG_k xT_8 67 rfl rfl, xG_k xT_1 13 rfl rfl, ⟨by decide +kernel, by decide +kernel⟩, by decide +kernel⟩
set_option maxRecDepth 20000 in
theorem mi12_doesBear : Cond.instanceMethod y12_doesBear ∈ xG := xG_k xT_8 66 rfl rfl
set_option maxRecDepth 20000 in
theorem me12_doesBear : Cond.selects y12_doesBear.cls y12_doesBear y12_doesBear ∈ xG := xG_s xV_7 0 rfl
set_option maxRecDepth 20000 in
theorem mf12_doesCry : xmf y12_doesCry prog_14_method_60_code 3 (some .boolean) := ⟨xG_k xT_8 109 rfl rfl, xG_k xT_1 13 rfl rfl, ⟨by decide +kernel, by decide +kernel⟩, by decide +kernel⟩
set_option maxRecDepth 20000 in
theorem mi12_doesCry : Cond.instanceMethod y12_doesCry ∈ xG := xG_k xT_8 108 rfl rfl
set_option maxRecDepth 20000 in
theorem me12_doesCry : Cond.selects y12_doesCry.cls y12_doesCry y12_doesCry ∈ xG := xG_s xV_7 5 rfl
set_option maxRecDepth 20000 in
theorem mf12_manOf : xmf y12_manOf prog_14_method_50_code 3 (some .int) := ⟨xG_k xT_7 227 rfl rfl, xG_k xT_1 13 rfl rfl, ⟨by decide +kernel, by decide +kernel⟩, by decide +kernel⟩
set_option maxRecDepth 20000 in
theorem mi12_manOf : Cond.instanceMethod y12_manOf ∈ xG := xG_k xT_7 226 rfl rfl
set_option maxRecDepth 20000 in
theorem me12_manOf : Cond.selects y12_manOf.cls y12_manOf y12_manOf ∈ xG := xG_s xV_6 0 rfl
set_option maxRecDepth 20000 in
theorem mf12_isFree : xmf y12_isFree prog_14_method_63_code 3 (some .boolean) := ⟨xG_k xT_7 231 rfl rfl, xG_k xT_1 13 rfl rfl, ⟨by decide +kernel, by decide +kernel⟩, by decide +kernel⟩
set_option maxRecDepth 20000 in
theorem mi12_isFree : Cond.instanceMethod y12_isFree ∈ xG := xG_k xT_7 230 rfl rfl
set_option maxRecDepth 20000 in
theorem me12_isFree : Cond.selects y12_isFree.cls y12_isFree y12_isFree ∈ xG := xG_s xV_6 1 rfl
set_option maxRecDepth 20000 in
theorem mf12_gapTo : xmf y12_gapTo prog_14_method_64_code 5 (some .int) := ⟨xG_k xT_8 11 rfl rfl, xG_k xT_1 13 rfl rfl, ⟨by decide +kernel, by decide +kernel⟩, by decide +kernel⟩
set_option maxRecDepth 20000 in
theorem mi12_gapTo : Cond.instanceMethod y12_gapTo ∈ xG := xG_k xT_8 10 rfl rfl
set_option maxRecDepth 20000 in
theorem me12_gapTo : Cond.selects y12_gapTo.cls y12_gapTo y12_gapTo ∈ xG := xG_s xV_6 5 rfl
set_option maxRecDepth 20000 in
theorem mf12_couldCast : xmf y12_couldCast prog_14_method_65_code 4 (some .boolean) := ⟨xG_k xT_8 3 rfl rfl, xG_k xT_1 13 rfl rfl, ⟨by decide +kernel, by decide +kernel⟩, by decide +kernel⟩
set_option maxRecDepth 20000 in
theorem mi12_couldCast : Cond.instanceMethod y12_couldCast ∈ xG := xG_k xT_8 2 rfl rfl
set_option maxRecDepth 20000 in
theorem me12_couldCast : Cond.selects y12_couldCast.cls y12_couldCast y12_couldCast ∈ xG := xG_s xV_6 3 rfl
set_option maxRecDepth 20000 in
theorem mf12_wall : xmf y12_wall prog_14_method_62_code 4 (some .int) := ⟨xG_k xT_8 15 rfl rfl, xG_k xT_1 13 rfl rfl, ⟨by decide +kernel, by decide +kernel⟩, by decide +kernel⟩
set_option maxRecDepth 20000 in
theorem mi12_wall : Cond.instanceMethod y12_wall ∈ xG := xG_k xT_8 14 rfl rfl
set_option maxRecDepth 20000 in
theorem me12_wall : Cond.selects y12_wall.cls y12_wall y12_wall ∈ xG := xG_s xV_6 6 rfl
set_option maxRecDepth 20000 in
theorem mf12_isUnder : xmf y12_isUnder prog_14_method_59_code 6 (some .boolean) := ⟨xG_k xT_8 63 rfl rfl, xG_k xT_1 13 rfl rfl, ⟨by decide +kernel, by decide +kernel⟩, by decide +kernel⟩
set_option maxRecDepth 20000 in
theorem mi12_isUnder : Cond.instanceMethod y12_isUnder ∈ xG := xG_k xT_8 62 rfl rfl
set_option maxRecDepth 20000 in
theorem me12_isUnder : Cond.selects y12_isUnder.cls y12_isUnder y12_isUnder ∈ xG := xG_s xV_6 15 rfl
set_option maxRecDepth 20000 in
theorem mf12_who : xmf y12_who prog_14_method_58_code 5 (some .int) := ⟨xG_k xT_8 55 rfl rfl, xG_k xT_1 13 rfl rfl, ⟨by decide +kernel, by decide +kernel⟩, by decide +kernel⟩
set_option maxRecDepth 20000 in
theorem mi12_who : Cond.instanceMethod y12_who ∈ xG := xG_k xT_8 54 rfl rfl
set_option maxRecDepth 20000 in
theorem me12_who : Cond.selects y12_who.cls y12_who y12_who ∈ xG := xG_s xV_6 13 rfl
set_option maxRecDepth 20000 in
theorem mf12_breathes : xmf y12_breathes prog_14_method_70_code 3 none := ⟨xG_k xT_8 59 rfl rfl, xG_k xT_1 13 rfl rfl, ⟨by decide +kernel, by decide +kernel⟩, by decide +kernel⟩
set_option maxRecDepth 20000 in
theorem mi12_breathes : Cond.instanceMethod y12_breathes ∈ xG := xG_k xT_8 58 rfl rfl
set_option maxRecDepth 20000 in
theorem me12_breathes : Cond.selects y12_breathes.cls y12_breathes y12_breathes ∈ xG := xG_s xV_6 14 rfl
set_option maxRecDepth 20000 in
theorem mf12_drawsIn : xmf y12_drawsIn prog_14_method_71_code 3 none := ⟨xG_k xT_8 71 rfl rfl, xG_k xT_1 13 rfl rfl, ⟨by decide +kernel, by decide +kernel⟩, by decide +kernel⟩
set_option maxRecDepth 20000 in
theorem mi12_drawsIn : Cond.instanceMethod y12_drawsIn ∈ xG := xG_k xT_8 70 rfl rfl
set_option maxRecDepth 20000 in
theorem me12_drawsIn : Cond.selects y12_drawsIn.cls y12_drawsIn y12_drawsIn ∈ xG := xG_s xV_7 1 rfl
set_option maxRecDepth 20000 in
theorem mf12_bits : xmf y12_bits prog_14_method_54_code 3 (some .int) := ⟨xG_k xT_8 74 rfl rfl, xG_k xT_1 13 rfl rfl, ⟨by decide +kernel, by decide +kernel⟩, by decide +kernel⟩
set_option maxRecDepth 20000 in
theorem ms12_bits : Cond.static y12_bits ∈ xG := xG_k xT_8 73 rfl rfl
set_option maxRecDepth 20000 in
theorem mf12_worthAt : xmf y12_worthAt prog_14_method_39_code 5 (some .int) := ⟨xG_k xT_8 78 rfl rfl, xG_k xT_1 13 rfl rfl, ⟨by decide +kernel, by decide +kernel⟩, by decide +kernel⟩
set_option maxRecDepth 20000 in
theorem mi12_worthAt : Cond.instanceMethod y12_worthAt ∈ xG := xG_k xT_8 77 rfl rfl
set_option maxRecDepth 20000 in
theorem me12_worthAt : Cond.selects y12_worthAt.cls y12_worthAt y12_worthAt ∈ xG := xG_s xV_7 2 rfl
set_option maxRecDepth 20000 in
theorem mf12_isGuest : xmf y12_isGuest prog_14_method_51_code 2 (some .boolean) := ⟨xG_k xT_7 191 rfl rfl, xG_k xT_1 13 rfl rfl, ⟨by decide +kernel, by decide +kernel⟩, by decide +kernel⟩
set_option maxRecDepth 20000 in
theorem mi12_isGuest : Cond.instanceMethod y12_isGuest ∈ xG := xG_k xT_7 190 rfl rfl
set_option maxRecDepth 20000 in
theorem me12_isGuest : Cond.selects y12_isGuest.cls y12_isGuest y12_isGuest ∈ xG := xG_s xV_5 9 rfl
set_option maxRecDepth 20000 in
theorem mf12_isBelt : xmf y12_isBelt prog_14_method_52_code 2 (some .boolean) := ⟨xG_k xT_7 203 rfl rfl, xG_k xT_1 13 rfl rfl, ⟨by decide +kernel, by decide +kernel⟩, by decide +kernel⟩
set_option maxRecDepth 20000 in
theorem mi12_isBelt : Cond.instanceMethod y12_isBelt ∈ xG := xG_k xT_7 202 rfl rfl
set_option maxRecDepth 20000 in
theorem me12_isBelt : Cond.selects y12_isBelt.cls y12_isBelt y12_isBelt ∈ xG := xG_s xV_5 11 rfl
set_option maxRecDepth 20000 in
theorem mf12_isMan : xmf y12_isMan prog_14_method_53_code 2 (some .boolean) := ⟨xG_k xT_7 219 rfl rfl, xG_k xT_1 13 rfl rfl, ⟨by decide +kernel, by decide +kernel⟩, by decide +kernel⟩
set_option maxRecDepth 20000 in
theorem mi12_isMan : Cond.instanceMethod y12_isMan ∈ xG := xG_k xT_7 218 rfl rfl
set_option maxRecDepth 20000 in
theorem me12_isMan : Cond.selects y12_isMan.cls y12_isMan y12_isMan ∈ xG := xG_s xV_5 14 rfl
set_option maxRecDepth 20000 in
theorem mf12_mayCast : xmf y12_mayCast prog_14_method_66_code 5 (some .boolean) := ⟨xG_k xT_7 239 rfl rfl, xG_k xT_1 13 rfl rfl, ⟨by decide +kernel, by decide +kernel⟩, by decide +kernel⟩
set_option maxRecDepth 20000 in
theorem mi12_mayCast : Cond.instanceMethod y12_mayCast ∈ xG := xG_k xT_7 238 rfl rfl
set_option maxRecDepth 20000 in
theorem me12_mayCast : Cond.selects y12_mayCast.cls y12_mayCast y12_mayCast ∈ xG := xG_s xV_6 2 rfl
set_option maxRecDepth 20000 in
theorem mf12_keeps : xmf y12_keeps prog_14_method_44_code 2 none := ⟨xG_k xT_8 19 rfl rfl, xG_k xT_1 13 rfl rfl, ⟨by decide +kernel, by decide +kernel⟩, by decide +kernel⟩
set_option maxRecDepth 20000 in
theorem mi12_keeps : Cond.instanceMethod y12_keeps ∈ xG := xG_k xT_8 18 rfl rfl
set_option maxRecDepth 20000 in
theorem me12_keeps : Cond.selects y12_keeps.cls y12_keeps y12_keeps ∈ xG := xG_s xV_6 7 rfl
set_option maxRecDepth 20000 in
theorem mf12_casts : xmf y12_casts prog_14_method_67_code 5 none := ⟨xG_k xT_8 27 rfl rfl, xG_k xT_1 13 rfl rfl, ⟨by decide +kernel, by decide +kernel⟩, by decide +kernel⟩
set_option maxRecDepth 20000 in
theorem mi12_casts : Cond.instanceMethod y12_casts ∈ xG := xG_k xT_8 26 rfl rfl
set_option maxRecDepth 20000 in
theorem me12_casts : Cond.selects y12_casts.cls y12_casts y12_casts ∈ xG := xG_s xV_6 9 rfl
set_option maxRecDepth 20000 in
theorem mf12_mayStop : xmf y12_mayStop prog_14_method_68_code 3 (some .boolean) := ⟨xG_k xT_8 39 rfl rfl, xG_k xT_1 13 rfl rfl, ⟨by decide +kernel, by decide +kernel⟩, by decide +kernel⟩
set_option maxRecDepth 20000 in
theorem mi12_mayStop : Cond.instanceMethod y12_mayStop ∈ xG := xG_k xT_8 38 rfl rfl
set_option maxRecDepth 20000 in
theorem me12_mayStop : Cond.selects y12_mayStop.cls y12_mayStop y12_mayStop ∈ xG := xG_s xV_6 10 rfl
set_option maxRecDepth 20000 in
theorem mf12_stops : xmf y12_stops prog_14_method_69_code 3 none := ⟨xG_k xT_8 43 rfl rfl, xG_k xT_1 13 rfl rfl, ⟨by decide +kernel, by decide +kernel⟩, by decide +kernel⟩
set_option maxRecDepth 20000 in
theorem mi12_stops : Cond.instanceMethod y12_stops ∈ xG := xG_k xT_8 42 rfl rfl
set_option maxRecDepth 20000 in
theorem me12_stops : Cond.selects y12_stops.cls y12_stops y12_stops ∈ xG := xG_s xV_6 11 rfl
set_option maxRecDepth 20000 in
theorem mf12_passes : xmf y12_passes prog_14_method_72_code 5 (some .int) := ⟨xG_k xT_8 51 rfl rfl, xG_k xT_1 13 rfl rfl, ⟨by decide +kernel, by decide +kernel⟩, by decide +kernel⟩
set_option maxRecDepth 20000 in
theorem mi12_passes : Cond.instanceMethod y12_passes ∈ xG := xG_k xT_8 50 rfl rfl
set_option maxRecDepth 20000 in
theorem me12_passes : Cond.selects y12_passes.cls y12_passes y12_passes ∈ xG := xG_s xV_6 12 rfl
set_option maxRecDepth 20000 in
theorem mf12_underNow : xmf y12_underNow prog_14_method_83_code 3 (some .int) := ⟨xG_k xT_8 97 rfl rfl, xG_k xT_1 13 rfl rfl, ⟨by decide +kernel, by decide +kernel⟩, by decide +kernel⟩
set_option maxRecDepth 20000 in
theorem mi12_underNow : Cond.instanceMethod y12_underNow ∈ xG := xG_k xT_8 96 rfl rfl
set_option maxRecDepth 20000 in
theorem me12_underNow : Cond.selects y12_underNow.cls y12_underNow y12_underNow ∈ xG := xG_s xV_7 3 rfl
set_option maxRecDepth 20000 in
theorem mf12_criers : xmf y12_criers prog_14_method_61_code 4 (some .int) := ⟨xG_k xT_8 105 rfl rfl, xG_k xT_1 13 rfl rfl, ⟨by decide +kernel, by decide +kernel⟩, by decide +kernel⟩
set_option maxRecDepth 20000 in
theorem mi12_criers : Cond.instanceMethod y12_criers ∈ xG := xG_k xT_8 104 rfl rfl
set_option maxRecDepth 20000 in
theorem me12_criers : Cond.selects y12_criers.cls y12_criers y12_criers ∈ xG := xG_s xV_7 4 rfl
set_option maxRecDepth 20000 in
theorem mf12_triesNow : xmf y12_triesNow prog_14_method_82_code 1 none := ⟨xG_k xT_8 117 rfl rfl, xG_k xT_1 13 rfl rfl, ⟨by decide +kernel, by decide +kernel⟩, by decide +kernel⟩
set_option maxRecDepth 20000 in
theorem mi12_triesNow : Cond.instanceMethod y12_triesNow ∈ xG := xG_k xT_8 116 rfl rfl
set_option maxRecDepth 20000 in
theorem me12_triesNow : Cond.selects y12_triesNow.cls y12_triesNow y12_triesNow ∈ xG := xG_s xV_7 6 rfl
set_option maxRecDepth 20000 in
theorem mf12_becomes : xmf y12_becomes prog_14_method_88_code 4 (some .int) := ⟨xG_k xT_8 133 rfl rfl, xG_k xT_1 13 rfl rfl, ⟨by decide +kernel, by decide +kernel⟩, by decide +kernel⟩
set_option maxRecDepth 20000 in
theorem mi12_becomes : Cond.instanceMethod y12_becomes ∈ xG := xG_k xT_8 132 rfl rfl
set_option maxRecDepth 20000 in
theorem me12_becomes : Cond.selects y12_becomes.cls y12_becomes y12_becomes ∈ xG := xG_s xV_7 8 rfl
set_option maxRecDepth 20000 in
theorem mf12_sinksIn : xmf y12_sinksIn prog_14_method_89_code 2 (some .int) := ⟨xG_k xT_8 129 rfl rfl, xG_k xT_1 13 rfl rfl, ⟨by decide +kernel, by decide +kernel⟩, by decide +kernel⟩
set_option maxRecDepth 20000 in
theorem mi12_sinksIn : Cond.instanceMethod y12_sinksIn ∈ xG := xG_k xT_8 128 rfl rfl
set_option maxRecDepth 20000 in
theorem me12_sinksIn : Cond.selects y12_sinksIn.cls y12_sinksIn y12_sinksIn ∈ xG := xG_s xV_7 7 rfl
set_option maxRecDepth 20000 in
theorem mf12_fitsOf : xmf y12_fitsOf prog_14_method_96_code 4 (some .int) := ⟨xG_k xT_8 161 rfl rfl, xG_k xT_1 13 rfl rfl, ⟨by decide +kernel, by decide +kernel⟩, by decide +kernel⟩
set_option maxRecDepth 20000 in
theorem mi12_fitsOf : Cond.instanceMethod y12_fitsOf ∈ xG := xG_k xT_8 160 rfl rfl
set_option maxRecDepth 20000 in
theorem me12_fitsOf : Cond.selects y12_fitsOf.cls y12_fitsOf y12_fitsOf ∈ xG := xG_s xV_7 9 rfl
set_option maxRecDepth 20000 in
theorem mf12_beltsFrom : xmf y12_beltsFrom prog_14_method_99_code 4 (some .boolean) := ⟨xG_k xT_8 177 rfl rfl, xG_k xT_1 13 rfl rfl, ⟨by decide +kernel, by decide +kernel⟩, by decide +kernel⟩
set_option maxRecDepth 20000 in
theorem mi12_beltsFrom : Cond.instanceMethod y12_beltsFrom ∈ xG := xG_k xT_8 176 rfl rfl
set_option maxRecDepth 20000 in
theorem me12_beltsFrom : Cond.selects y12_beltsFrom.cls y12_beltsFrom y12_beltsFrom ∈ xG := xG_s xV_7 11 rfl
set_option maxRecDepth 20000 in
theorem mf12_castsFrom : xmf y12_castsFrom prog_14_method_100_code 4 none := ⟨xG_k xT_8 173 rfl rfl, xG_k xT_1 13 rfl rfl, ⟨by decide +kernel, by decide +kernel⟩, by decide +kernel⟩
set_option maxRecDepth 20000 in
theorem mi12_castsFrom : Cond.instanceMethod y12_castsFrom ∈ xG := xG_k xT_8 172 rfl rfl
set_option maxRecDepth 20000 in
theorem me12_castsFrom : Cond.selects y12_castsFrom.cls y12_castsFrom y12_castsFrom ∈ xG := xG_s xV_7 10 rfl
set_option maxRecDepth 20000 in
theorem mf12_doesHold : xmf y12_doesHold prog_14_method_103_code 5 (some .boolean) := ⟨xG_k xT_8 189 rfl rfl, xG_k xT_1 13 rfl rfl, ⟨by decide +kernel, by decide +kernel⟩, by decide +kernel⟩
set_option maxRecDepth 20000 in
theorem mi12_doesHold : Cond.instanceMethod y12_doesHold ∈ xG := xG_k xT_8 188 rfl rfl
set_option maxRecDepth 20000 in
theorem me12_doesHold : Cond.selects y12_doesHold.cls y12_doesHold y12_doesHold ∈ xG := xG_s xV_7 12 rfl
set_option maxRecDepth 20000 in
theorem mf12_bearOf : xmf y12_bearOf prog_14_method_104_code 4 (some .int) := ⟨xG_k xT_8 193 rfl rfl, xG_k xT_1 13 rfl rfl, ⟨by decide +kernel, by decide +kernel⟩, by decide +kernel⟩
set_option maxRecDepth 20000 in
theorem mi12_bearOf : Cond.instanceMethod y12_bearOf ∈ xG := xG_k xT_8 192 rfl rfl
set_option maxRecDepth 20000 in
theorem me12_bearOf : Cond.selects y12_bearOf.cls y12_bearOf y12_bearOf ∈ xG := xG_s xV_7 13 rfl
set_option maxRecDepth 20000 in
theorem mf12_enoughFor : xmf y12_enoughFor prog_14_method_106_code 4 (some .int) := ⟨xG_k xT_8 201 rfl rfl, xG_k xT_1 13 rfl rfl, ⟨by decide +kernel, by decide +kernel⟩, by decide +kernel⟩
set_option maxRecDepth 20000 in
theorem mi12_enoughFor : Cond.instanceMethod y12_enoughFor ∈ xG := xG_k xT_8 200 rfl rfl
set_option maxRecDepth 20000 in
theorem me12_enoughFor : Cond.selects y12_enoughFor.cls y12_enoughFor y12_enoughFor ∈ xG := xG_s xV_7 14 rfl
set_option maxRecDepth 20000 in
theorem mf12_doesSave : xmf y12_doesSave prog_14_method_110_code 4 (some .boolean) := ⟨xG_k xT_8 217 rfl rfl, xG_k xT_1 13 rfl rfl, ⟨by decide +kernel, by decide +kernel⟩, by decide +kernel⟩
set_option maxRecDepth 20000 in
theorem mi12_doesSave : Cond.instanceMethod y12_doesSave ∈ xG := xG_k xT_8 216 rfl rfl
set_option maxRecDepth 20000 in
theorem me12_doesSave : Cond.selects y12_doesSave.cls y12_doesSave y12_doesSave ∈ xG := xG_s xV_7 15 rfl
set_option maxRecDepth 20000 in
theorem mf12_manyAt : xmf y12_manyAt prog_14_method_115_code 4 (some .int) := ⟨xG_k xT_9 1 rfl rfl, xG_k xT_1 13 rfl rfl, ⟨by decide +kernel, by decide +kernel⟩, by decide +kernel⟩
set_option maxRecDepth 20000 in
theorem mi12_manyAt : Cond.instanceMethod y12_manyAt ∈ xG := xG_k xT_9 0 rfl rfl
set_option maxRecDepth 20000 in
theorem me12_manyAt : Cond.selects y12_manyAt.cls y12_manyAt y12_manyAt ∈ xG := xG_s xV_8 1 rfl
set_option maxRecDepth 20000 in
theorem mf12_denseNow : xmf y12_denseNow prog_14_method_116_code 3 (some .int) := ⟨xG_k xT_8 237 rfl rfl, xG_k xT_1 13 rfl rfl, ⟨by decide +kernel, by decide +kernel⟩, by decide +kernel⟩
set_option maxRecDepth 20000 in
theorem mi12_denseNow : Cond.instanceMethod y12_denseNow ∈ xG := xG_k xT_8 236 rfl rfl
set_option maxRecDepth 20000 in
theorem me12_denseNow : Cond.selects y12_denseNow.cls y12_denseNow y12_denseNow ∈ xG := xG_s xV_8 0 rfl
set_option maxRecDepth 20000 in
theorem mf12_depthsNow : xmf y12_depthsNow prog_14_method_121_code 3 none := ⟨xG_k xT_9 25 rfl rfl, xG_k xT_1 13 rfl rfl, ⟨by decide +kernel, by decide +kernel⟩, by decide +kernel⟩
set_option maxRecDepth 20000 in
theorem mi12_depthsNow : Cond.instanceMethod y12_depthsNow ∈ xG := xG_k xT_9 24 rfl rfl
set_option maxRecDepth 20000 in
theorem me12_depthsNow : Cond.selects y12_depthsNow.cls y12_depthsNow y12_depthsNow ∈ xG := xG_s xV_8 3 rfl
set_option maxRecDepth 20000 in
theorem mf12_holesNow : xmf y12_holesNow prog_14_method_122_code 6 (some .int) := ⟨xG_k xT_9 21 rfl rfl, xG_k xT_1 13 rfl rfl, ⟨by decide +kernel, by decide +kernel⟩, by decide +kernel⟩
set_option maxRecDepth 20000 in
theorem mi12_holesNow : Cond.instanceMethod y12_holesNow ∈ xG := xG_k xT_9 20 rfl rfl
set_option maxRecDepth 20000 in
theorem me12_holesNow : Cond.selects y12_holesNow.cls y12_holesNow y12_holesNow ∈ xG := xG_s xV_8 2 rfl
set_option maxRecDepth 20000 in
theorem mf12_getsBy : xmf y12_getsBy prog_14_method_126_code 5 (some .int) := ⟨xG_k xT_9 41 rfl rfl, xG_k xT_1 13 rfl rfl, ⟨by decide +kernel, by decide +kernel⟩, by decide +kernel⟩
set_option maxRecDepth 20000 in
theorem ms12_getsBy : Cond.static y12_getsBy ∈ xG := xG_k xT_9 40 rfl rfl
set_option maxRecDepth 20000 in
theorem mf12_draw : xmf y12_draw prog_14_method_128_code 2 (some .int) := ⟨xG_k xT_9 53 rfl rfl, xG_k xT_1 13 rfl rfl, ⟨by decide +kernel, by decide +kernel⟩, by decide +kernel⟩
set_option maxRecDepth 20000 in
theorem mi12_draw : Cond.instanceMethod y12_draw ∈ xG := xG_k xT_9 52 rfl rfl
set_option maxRecDepth 20000 in
theorem me12_draw : Cond.selects y12_draw.cls y12_draw y12_draw ∈ xG := xG_s xV_8 5 rfl
set_option maxRecDepth 20000 in
theorem mf12_drawsDeed : xmf y12_drawsDeed prog_14_method_129_code 5 (some .boolean) := ⟨xG_k xT_9 49 rfl rfl, xG_k xT_1 13 rfl rfl, ⟨by decide +kernel, by decide +kernel⟩, by decide +kernel⟩
set_option maxRecDepth 20000 in
theorem mi12_drawsDeed : Cond.instanceMethod y12_drawsDeed ∈ xG := xG_k xT_9 48 rfl rfl
set_option maxRecDepth 20000 in
theorem me12_drawsDeed : Cond.selects y12_drawsDeed.cls y12_drawsDeed y12_drawsDeed ∈ xG := xG_s xV_8 4 rfl
set_option maxRecDepth 20000 in
theorem mf11_feed : xmf y11_feed prog_1_method_2_code 7 (some .int) := ⟨xG_k xT_2 188 rfl rfl, xG_k xT_1 1 rfl rfl, ⟨by decide +kernel, by decide +kernel⟩, by decide +kernel⟩
set_option maxRecDepth 20000 in
theorem mi11_feed : Cond.instanceMethod y11_feed ∈ xG := xG_k xT_2 186 rfl rfl
set_option maxRecDepth 20000 in
theorem me11_feed : Cond.selects y11_feed.cls y11_feed y11_feed ∈ xG := xG_k xT_2 187 rfl rfl
set_option maxRecDepth 20000 in
theorem mf12_feed : xmf y12_feed prog_14_method_2_code 7 (some .int) := ⟨xG_k xT_6 132 rfl rfl, xG_k xT_1 13 rfl rfl, ⟨by decide +kernel, by decide +kernel⟩, by decide +kernel⟩
set_option maxRecDepth 20000 in
theorem mi12_feed : Cond.instanceMethod y12_feed ∈ xG := xG_k xT_6 130 rfl rfl
set_option maxRecDepth 20000 in
theorem me12_feed : Cond.selects y12_feed.cls y12_feed y12_feed ∈ xG := xG_k xT_6 131 rfl rfl
set_option maxRecDepth 20000 in
theorem mf11_room : xmf y11_room prog_1_method_3_code 2 (some .int) := ⟨xG_k xT_2 196 rfl rfl, xG_k xT_1 1 rfl rfl, ⟨by decide +kernel, by decide +kernel⟩, by decide +kernel⟩
set_option maxRecDepth 20000 in
theorem mi11_room : Cond.instanceMethod y11_room ∈ xG := xG_k xT_2 194 rfl rfl
set_option maxRecDepth 20000 in
theorem me11_room : Cond.selects y11_room.cls y11_room y11_room ∈ xG := xG_k xT_2 195 rfl rfl
set_option maxRecDepth 20000 in
theorem mf12_room : xmf y12_room prog_14_method_26_code 2 (some .int) := ⟨xG_k xT_7 57 rfl rfl, xG_k xT_1 13 rfl rfl, ⟨by decide +kernel, by decide +kernel⟩, by decide +kernel⟩
set_option maxRecDepth 20000 in
theorem mi12_room : Cond.instanceMethod y12_room ∈ xG := xG_k xT_7 55 rfl rfl
set_option maxRecDepth 20000 in
theorem me12_room : Cond.selects y12_room.cls y12_room y12_room ∈ xG := xG_k xT_7 56 rfl rfl
set_option maxRecDepth 20000 in
theorem mf11_evening : xmf y11_evening prog_1_method_5_code 2 (some .int) := ⟨xG_k xT_4 13 rfl rfl, xG_k xT_1 1 rfl rfl, ⟨by decide +kernel, by decide +kernel⟩, by decide +kernel⟩
set_option maxRecDepth 20000 in
theorem mi11_evening : Cond.instanceMethod y11_evening ∈ xG := xG_k xT_4 11 rfl rfl
set_option maxRecDepth 20000 in
theorem me11_evening : Cond.selects y11_evening.cls y11_evening y11_evening ∈ xG := xG_k xT_4 12 rfl rfl
set_option maxRecDepth 20000 in
theorem mf12_evening : xmf y12_evening prog_14_method_31_code 3 (some .int) := ⟨xG_k xT_7 172 rfl rfl, xG_k xT_1 13 rfl rfl, ⟨by decide +kernel, by decide +kernel⟩, by decide +kernel⟩
set_option maxRecDepth 20000 in
theorem mi12_evening : Cond.instanceMethod y12_evening ∈ xG := xG_k xT_7 170 rfl rfl
set_option maxRecDepth 20000 in
theorem me12_evening : Cond.selects y12_evening.cls y12_evening y12_evening ∈ xG := xG_k xT_7 171 rfl rfl
set_option maxRecDepth 20000 in
theorem mf11_guest : xmf y11_guest prog_1_method_6_code 3 (some .int) := ⟨xG_k xT_4 40 rfl rfl, xG_k xT_1 1 rfl rfl, ⟨by decide +kernel, by decide +kernel⟩, by decide +kernel⟩
set_option maxRecDepth 20000 in
theorem mi11_guest : Cond.instanceMethod y11_guest ∈ xG := xG_k xT_4 38 rfl rfl
set_option maxRecDepth 20000 in
theorem me11_guest : Cond.selects y11_guest.cls y11_guest y11_guest ∈ xG := xG_k xT_4 39 rfl rfl
set_option maxRecDepth 20000 in
theorem mf12_guest : xmf y12_guest prog_14_method_73_code 3 (some .int) := ⟨xG_k xT_7 187 rfl rfl, xG_k xT_1 13 rfl rfl, ⟨by decide +kernel, by decide +kernel⟩, by decide +kernel⟩
set_option maxRecDepth 20000 in
theorem mi12_guest : Cond.instanceMethod y12_guest ∈ xG := xG_k xT_7 185 rfl rfl
set_option maxRecDepth 20000 in
theorem me12_guest : Cond.selects y12_guest.cls y12_guest y12_guest ∈ xG := xG_k xT_7 186 rfl rfl
set_option maxRecDepth 20000 in
theorem mf11_belt : xmf y11_belt prog_1_method_7_code 3 (some .int) := ⟨xG_k xT_4 48 rfl rfl, xG_k xT_1 1 rfl rfl, ⟨by decide +kernel, by decide +kernel⟩, by decide +kernel⟩
set_option maxRecDepth 20000 in
theorem mi11_belt : Cond.instanceMethod y11_belt ∈ xG := xG_k xT_4 46 rfl rfl
set_option maxRecDepth 20000 in
theorem me11_belt : Cond.selects y11_belt.cls y11_belt y11_belt ∈ xG := xG_k xT_4 47 rfl rfl
set_option maxRecDepth 20000 in
theorem mf12_belt : xmf y12_belt prog_14_method_74_code 5 (some .int) := ⟨xG_k xT_7 199 rfl rfl, xG_k xT_1 13 rfl rfl, ⟨by decide +kernel, by decide +kernel⟩, by decide +kernel⟩
set_option maxRecDepth 20000 in
theorem mi12_belt : Cond.instanceMethod y12_belt ∈ xG := xG_k xT_7 197 rfl rfl
set_option maxRecDepth 20000 in
theorem me12_belt : Cond.selects y12_belt.cls y12_belt y12_belt ∈ xG := xG_k xT_7 198 rfl rfl
set_option maxRecDepth 20000 in
theorem mf11_man : xmf y11_man prog_1_method_8_code 3 (some .int) := ⟨xG_k xT_4 60 rfl rfl, xG_k xT_1 1 rfl rfl, ⟨by decide +kernel, by decide +kernel⟩, by decide +kernel⟩
set_option maxRecDepth 20000 in
theorem mi11_man : Cond.instanceMethod y11_man ∈ xG := xG_k xT_4 58 rfl rfl
set_option maxRecDepth 20000 in
theorem me11_man : Cond.selects y11_man.cls y11_man y11_man ∈ xG := xG_k xT_4 59 rfl rfl
set_option maxRecDepth 20000 in
theorem mf12_man : xmf y12_man prog_14_method_75_code 3 (some .int) := ⟨xG_k xT_7 215 rfl rfl, xG_k xT_1 13 rfl rfl, ⟨by decide +kernel, by decide +kernel⟩, by decide +kernel⟩
set_option maxRecDepth 20000 in
theorem mi12_man : Cond.instanceMethod y12_man ∈ xG := xG_k xT_7 213 rfl rfl
set_option maxRecDepth 20000 in
theorem me12_man : Cond.selects y12_man.cls y12_man y12_man ∈ xG := xG_k xT_7 214 rfl rfl
set_option maxRecDepth 20000 in
theorem mf11_cast : xmf y11_cast prog_1_method_9_code 4 (some .boolean) := ⟨xG_k xT_4 73 rfl rfl, xG_k xT_1 1 rfl rfl, ⟨by decide +kernel, by decide +kernel⟩, by decide +kernel⟩
set_option maxRecDepth 20000 in
theorem mi11_cast : Cond.instanceMethod y11_cast ∈ xG := xG_k xT_4 71 rfl rfl
set_option maxRecDepth 20000 in
theorem me11_cast : Cond.selects y11_cast.cls y11_cast y11_cast ∈ xG := xG_k xT_4 72 rfl rfl
set_option maxRecDepth 20000 in
theorem mf12_cast : xmf y12_cast prog_14_method_76_code 4 (some .boolean) := ⟨xG_k xT_7 235 rfl rfl, xG_k xT_1 13 rfl rfl, ⟨by decide +kernel, by decide +kernel⟩, by decide +kernel⟩
set_option maxRecDepth 20000 in
theorem mi12_cast : Cond.instanceMethod y12_cast ∈ xG := xG_k xT_7 233 rfl rfl
set_option maxRecDepth 20000 in
theorem me12_cast : Cond.selects y12_cast.cls y12_cast y12_cast ∈ xG := xG_k xT_7 234 rfl rfl
set_option maxRecDepth 20000 in
theorem mf11_ask : xmf y11_ask prog_1_method_10_code 1 (some .int) := ⟨xG_k xT_4 118 rfl rfl, xG_k xT_1 1 rfl rfl, ⟨by decide +kernel, by decide +kernel⟩, by decide +kernel⟩
set_option maxRecDepth 20000 in
theorem mi11_ask : Cond.instanceMethod y11_ask ∈ xG := xG_k xT_4 116 rfl rfl
set_option maxRecDepth 20000 in
theorem me11_ask : Cond.selects y11_ask.cls y11_ask y11_ask ∈ xG := xG_k xT_4 117 rfl rfl
set_option maxRecDepth 20000 in
theorem mf12_ask : xmf y12_ask prog_14_method_77_code 1 (some .int) := ⟨xG_k xT_8 31 rfl rfl, xG_k xT_1 13 rfl rfl, ⟨by decide +kernel, by decide +kernel⟩, by decide +kernel⟩
set_option maxRecDepth 20000 in
theorem mi12_ask : Cond.instanceMethod y12_ask ∈ xG := xG_k xT_8 29 rfl rfl
set_option maxRecDepth 20000 in
theorem me12_ask : Cond.selects y12_ask.cls y12_ask y12_ask ∈ xG := xG_k xT_8 30 rfl rfl
set_option maxRecDepth 20000 in
theorem mf11_stop : xmf y11_stop prog_1_method_11_code 2 (some .int) := ⟨xG_k xT_4 130 rfl rfl, xG_k xT_1 1 rfl rfl, ⟨by decide +kernel, by decide +kernel⟩, by decide +kernel⟩
set_option maxRecDepth 20000 in
theorem mi11_stop : Cond.instanceMethod y11_stop ∈ xG := xG_k xT_4 128 rfl rfl
set_option maxRecDepth 20000 in
theorem me11_stop : Cond.selects y11_stop.cls y11_stop y11_stop ∈ xG := xG_k xT_4 129 rfl rfl
set_option maxRecDepth 20000 in
theorem mf12_stop : xmf y12_stop prog_14_method_78_code 2 (some .int) := ⟨xG_k xT_8 35 rfl rfl, xG_k xT_1 13 rfl rfl, ⟨by decide +kernel, by decide +kernel⟩, by decide +kernel⟩
set_option maxRecDepth 20000 in
theorem mi12_stop : Cond.instanceMethod y12_stop ∈ xG := xG_k xT_8 33 rfl rfl
set_option maxRecDepth 20000 in
theorem me12_stop : Cond.selects y12_stop.cls y12_stop y12_stop ∈ xG := xG_k xT_8 34 rfl rfl
set_option maxRecDepth 20000 in
theorem mf11_minute : xmf y11_minute prog_1_method_12_code 1 (some .int) := ⟨xG_k xT_4 142 rfl rfl, xG_k xT_1 1 rfl rfl, ⟨by decide +kernel, by decide +kernel⟩, by decide +kernel⟩
set_option maxRecDepth 20000 in
theorem mi11_minute : Cond.instanceMethod y11_minute ∈ xG := xG_k xT_4 140 rfl rfl
set_option maxRecDepth 20000 in
theorem me11_minute : Cond.selects y11_minute.cls y11_minute y11_minute ∈ xG := xG_k xT_4 141 rfl rfl
set_option maxRecDepth 20000 in
theorem mf12_minute : xmf y12_minute prog_14_method_79_code 1 (some .int) := ⟨xG_k xT_8 47 rfl rfl, xG_k xT_1 13 rfl rfl, ⟨by decide +kernel, by decide +kernel⟩, by decide +kernel⟩
set_option maxRecDepth 20000 in
theorem mi12_minute : Cond.instanceMethod y12_minute ∈ xG := xG_k xT_8 45 rfl rfl
set_option maxRecDepth 20000 in
theorem me12_minute : Cond.selects y12_minute.cls y12_minute y12_minute ∈ xG := xG_k xT_8 46 rfl rfl
set_option maxRecDepth 20000 in
theorem mf11_undo : xmf y11_undo prog_1_method_13_code 1 (some .boolean) := ⟨xG_k xT_4 209 rfl rfl, xG_k xT_1 1 rfl rfl, ⟨by decide +kernel, by decide +kernel⟩, by decide +kernel⟩
set_option maxRecDepth 20000 in
theorem mi11_undo : Cond.instanceMethod y11_undo ∈ xG := xG_k xT_4 207 rfl rfl
set_option maxRecDepth 20000 in
theorem me11_undo : Cond.selects y11_undo.cls y11_undo y11_undo ∈ xG := xG_k xT_4 208 rfl rfl
set_option maxRecDepth 20000 in
theorem mf12_undo : xmf y12_undo prog_14_method_80_code 1 (some .boolean) := ⟨xG_k xT_8 85 rfl rfl, xG_k xT_1 13 rfl rfl, ⟨by decide +kernel, by decide +kernel⟩, by decide +kernel⟩
set_option maxRecDepth 20000 in
theorem mi12_undo : Cond.instanceMethod y12_undo ∈ xG := xG_k xT_8 83 rfl rfl
set_option maxRecDepth 20000 in
theorem me12_undo : Cond.selects y12_undo.cls y12_undo y12_undo ∈ xG := xG_k xT_8 84 rfl rfl
set_option maxRecDepth 20000 in
theorem mf11_judged : xmf y11_judged prog_1_method_14_code 2 (some .int) := ⟨xG_k xT_4 217 rfl rfl, xG_k xT_1 1 rfl rfl, ⟨by decide +kernel, by decide +kernel⟩, by decide +kernel⟩
set_option maxRecDepth 20000 in
theorem mi11_judged : Cond.instanceMethod y11_judged ∈ xG := xG_k xT_4 215 rfl rfl
set_option maxRecDepth 20000 in
theorem me11_judged : Cond.selects y11_judged.cls y11_judged y11_judged ∈ xG := xG_k xT_4 216 rfl rfl
set_option maxRecDepth 20000 in
theorem mf12_judged : xmf y12_judged prog_14_method_81_code 9 (some .int) := ⟨xG_k xT_8 89 rfl rfl, xG_k xT_1 13 rfl rfl, ⟨by decide +kernel, by decide +kernel⟩, by decide +kernel⟩
set_option maxRecDepth 20000 in
theorem mi12_judged : Cond.instanceMethod y12_judged ∈ xG := xG_k xT_8 87 rfl rfl
set_option maxRecDepth 20000 in
theorem me12_judged : Cond.selects y12_judged.cls y12_judged y12_judged ∈ xG := xG_k xT_8 88 rfl rfl
set_option maxRecDepth 20000 in
theorem mf11_under : xmf y11_under prog_1_method_15_code 3 (some .int) := ⟨xG_k xT_4 239 rfl rfl, xG_k xT_1 1 rfl rfl, ⟨by decide +kernel, by decide +kernel⟩, by decide +kernel⟩
set_option maxRecDepth 20000 in
theorem mi11_under : Cond.instanceMethod y11_under ∈ xG := xG_k xT_4 237 rfl rfl
set_option maxRecDepth 20000 in
theorem me11_under : Cond.selects y11_under.cls y11_under y11_under ∈ xG := xG_k xT_4 238 rfl rfl
set_option maxRecDepth 20000 in
theorem mf12_under : xmf y12_under prog_14_method_84_code 1 (some .int) := ⟨xG_k xT_8 93 rfl rfl, xG_k xT_1 13 rfl rfl, ⟨by decide +kernel, by decide +kernel⟩, by decide +kernel⟩
set_option maxRecDepth 20000 in
theorem mi12_under : Cond.instanceMethod y12_under ∈ xG := xG_k xT_8 91 rfl rfl
set_option maxRecDepth 20000 in
theorem me12_under : Cond.selects y12_under.cls y12_under y12_under ∈ xG := xG_k xT_8 92 rfl rfl
set_option maxRecDepth 20000 in
theorem mf11_cries : xmf y11_cries prog_1_method_16_code 1 (some .int) := ⟨xG_k xT_5 4 rfl rfl, xG_k xT_1 1 rfl rfl, ⟨by decide +kernel, by decide +kernel⟩, by decide +kernel⟩
set_option maxRecDepth 20000 in
theorem mi11_cries : Cond.instanceMethod y11_cries ∈ xG := xG_k xT_5 2 rfl rfl
set_option maxRecDepth 20000 in
theorem me11_cries : Cond.selects y11_cries.cls y11_cries y11_cries ∈ xG := xG_k xT_5 3 rfl rfl
set_option maxRecDepth 20000 in
theorem mf12_cries : xmf y12_cries prog_14_method_85_code 1 (some .int) := ⟨xG_k xT_8 101 rfl rfl, xG_k xT_1 13 rfl rfl, ⟨by decide +kernel, by decide +kernel⟩, by decide +kernel⟩
set_option maxRecDepth 20000 in
theorem mi12_cries : Cond.instanceMethod y12_cries ∈ xG := xG_k xT_8 99 rfl rfl
set_option maxRecDepth 20000 in
theorem me12_cries : Cond.selects y12_cries.cls y12_cries y12_cries ∈ xG := xG_k xT_8 100 rfl rfl
set_option maxRecDepth 20000 in
theorem mf11_later : xmf y11_later prog_1_method_17_code 2 (some .int) := ⟨xG_k xT_5 16 rfl rfl, xG_k xT_1 1 rfl rfl, ⟨by decide +kernel, by decide +kernel⟩, by decide +kernel⟩
set_option maxRecDepth 20000 in
theorem mi11_later : Cond.instanceMethod y11_later ∈ xG := xG_k xT_5 14 rfl rfl
set_option maxRecDepth 20000 in
theorem me11_later : Cond.selects y11_later.cls y11_later y11_later ∈ xG := xG_k xT_5 15 rfl rfl
set_option maxRecDepth 20000 in
theorem mf12_later : xmf y12_later prog_14_method_86_code 3 (some .int) := ⟨xG_k xT_8 113 rfl rfl, xG_k xT_1 13 rfl rfl, ⟨by decide +kernel, by decide +kernel⟩, by decide +kernel⟩
set_option maxRecDepth 20000 in
theorem mi12_later : Cond.instanceMethod y12_later ∈ xG := xG_k xT_8 111 rfl rfl
set_option maxRecDepth 20000 in
theorem me12_later : Cond.selects y12_later.cls y12_later y12_later ∈ xG := xG_k xT_8 112 rfl rfl
set_option maxRecDepth 20000 in
theorem mf11_over : xmf y11_over prog_1_method_19_code 3 (some .int) := ⟨xG_k xT_5 25 rfl rfl, xG_k xT_1 1 rfl rfl, ⟨by decide +kernel, by decide +kernel⟩, by decide +kernel⟩
set_option maxRecDepth 20000 in
theorem mi11_over : Cond.instanceMethod y11_over ∈ xG := xG_k xT_5 23 rfl rfl
set_option maxRecDepth 20000 in
theorem me11_over : Cond.selects y11_over.cls y11_over y11_over ∈ xG := xG_k xT_5 24 rfl rfl
set_option maxRecDepth 20000 in
theorem mf12_over : xmf y12_over prog_14_method_87_code 3 (some .int) := ⟨xG_k xT_8 121 rfl rfl, xG_k xT_1 13 rfl rfl, ⟨by decide +kernel, by decide +kernel⟩, by decide +kernel⟩
set_option maxRecDepth 20000 in
theorem mi12_over : Cond.instanceMethod y12_over ∈ xG := xG_k xT_8 119 rfl rfl
set_option maxRecDepth 20000 in
theorem me12_over : Cond.selects y12_over.cls y12_over y12_over ∈ xG := xG_k xT_8 120 rfl rfl
set_option maxRecDepth 20000 in
theorem mf11_sinks : xmf y11_sinks prog_1_method_20_code 2 (some .int) := ⟨xG_k xT_5 29 rfl rfl, xG_k xT_1 1 rfl rfl, ⟨by decide +kernel, by decide +kernel⟩, by decide +kernel⟩
set_option maxRecDepth 20000 in
theorem mi11_sinks : Cond.instanceMethod y11_sinks ∈ xG := xG_k xT_5 27 rfl rfl
set_option maxRecDepth 20000 in
theorem me11_sinks : Cond.selects y11_sinks.cls y11_sinks y11_sinks ∈ xG := xG_k xT_5 28 rfl rfl
set_option maxRecDepth 20000 in
theorem mf12_sinks : xmf y12_sinks prog_14_method_90_code 2 (some .int) := ⟨xG_k xT_8 125 rfl rfl, xG_k xT_1 13 rfl rfl, ⟨by decide +kernel, by decide +kernel⟩, by decide +kernel⟩
set_option maxRecDepth 20000 in
theorem mi12_sinks : Cond.instanceMethod y12_sinks ∈ xG := xG_k xT_8 123 rfl rfl
set_option maxRecDepth 20000 in
theorem me12_sinks : Cond.selects y12_sinks.cls y12_sinks y12_sinks ∈ xG := xG_k xT_8 124 rfl rfl
set_option maxRecDepth 20000 in
theorem mf11_first : xmf y11_first prog_1_method_22_code 3 (some .int) := ⟨xG_k xT_5 42 rfl rfl, xG_k xT_1 1 rfl rfl, ⟨by decide +kernel, by decide +kernel⟩, by decide +kernel⟩
set_option maxRecDepth 20000 in
theorem mi11_first : Cond.instanceMethod y11_first ∈ xG := xG_k xT_5 40 rfl rfl
set_option maxRecDepth 20000 in
theorem me11_first : Cond.selects y11_first.cls y11_first y11_first ∈ xG := xG_k xT_5 41 rfl rfl
set_option maxRecDepth 20000 in
theorem mf12_first : xmf y12_first prog_14_method_91_code 4 (some .int) := ⟨xG_k xT_8 137 rfl rfl, xG_k xT_1 13 rfl rfl, ⟨by decide +kernel, by decide +kernel⟩, by decide +kernel⟩
set_option maxRecDepth 20000 in
theorem mi12_first : Cond.instanceMethod y12_first ∈ xG := xG_k xT_8 135 rfl rfl
set_option maxRecDepth 20000 in
theorem me12_first : Cond.selects y12_first.cls y12_first y12_first ∈ xG := xG_k xT_8 136 rfl rfl
set_option maxRecDepth 20000 in
theorem mf11_home : xmf y11_home prog_1_method_24_code 2 (some .int) := ⟨xG_k xT_5 49 rfl rfl, xG_k xT_1 1 rfl rfl, ⟨by decide +kernel, by decide +kernel⟩, by decide +kernel⟩
set_option maxRecDepth 20000 in
theorem mi11_home : Cond.instanceMethod y11_home ∈ xG := xG_k xT_5 47 rfl rfl
set_option maxRecDepth 20000 in
theorem me11_home : Cond.selects y11_home.cls y11_home y11_home ∈ xG := xG_k xT_5 48 rfl rfl
set_option maxRecDepth 20000 in
theorem mf12_home : xmf y12_home prog_14_method_92_code 2 (some .int) := ⟨xG_k xT_8 141 rfl rfl, xG_k xT_1 13 rfl rfl, ⟨by decide +kernel, by decide +kernel⟩, by decide +kernel⟩
set_option maxRecDepth 20000 in
theorem mi12_home : Cond.instanceMethod y12_home ∈ xG := xG_k xT_8 139 rfl rfl
set_option maxRecDepth 20000 in
theorem me12_home : Cond.selects y12_home.cls y12_home y12_home ∈ xG := xG_k xT_8 140 rfl rfl
set_option maxRecDepth 20000 in
theorem mf11_quiet : xmf y11_quiet prog_1_method_25_code 2 (some .int) := ⟨xG_k xT_5 53 rfl rfl, xG_k xT_1 1 rfl rfl, ⟨by decide +kernel, by decide +kernel⟩, by decide +kernel⟩
set_option maxRecDepth 20000 in
theorem mi11_quiet : Cond.instanceMethod y11_quiet ∈ xG := xG_k xT_5 51 rfl rfl
set_option maxRecDepth 20000 in
theorem me11_quiet : Cond.selects y11_quiet.cls y11_quiet y11_quiet ∈ xG := xG_k xT_5 52 rfl rfl
set_option maxRecDepth 20000 in
theorem mf12_quiet : xmf y12_quiet prog_14_method_93_code 2 (some .int) := ⟨xG_k xT_8 145 rfl rfl, xG_k xT_1 13 rfl rfl, ⟨by decide +kernel, by decide +kernel⟩, by decide +kernel⟩
set_option maxRecDepth 20000 in
theorem mi12_quiet : Cond.instanceMethod y12_quiet ∈ xG := xG_k xT_8 143 rfl rfl
set_option maxRecDepth 20000 in
theorem me12_quiet : Cond.selects y12_quiet.cls y12_quiet y12_quiet ∈ xG := xG_k xT_8 144 rfl rfl
set_option maxRecDepth 20000 in
theorem mf11_when : xmf y11_when prog_1_method_26_code 3 (some .int) := ⟨xG_k xT_5 58 rfl rfl, xG_k xT_1 1 rfl rfl, ⟨by decide +kernel, by decide +kernel⟩, by decide +kernel⟩
set_option maxRecDepth 20000 in
theorem mi11_when : Cond.instanceMethod y11_when ∈ xG := xG_k xT_5 56 rfl rfl
set_option maxRecDepth 20000 in
theorem me11_when : Cond.selects y11_when.cls y11_when y11_when ∈ xG := xG_k xT_5 57 rfl rfl
set_option maxRecDepth 20000 in
theorem mf12_when : xmf y12_when prog_14_method_94_code 3 (some .int) := ⟨xG_k xT_8 149 rfl rfl, xG_k xT_1 13 rfl rfl, ⟨by decide +kernel, by decide +kernel⟩, by decide +kernel⟩
set_option maxRecDepth 20000 in
theorem mi12_when : Cond.instanceMethod y12_when ∈ xG := xG_k xT_8 147 rfl rfl
set_option maxRecDepth 20000 in
theorem me12_when : Cond.selects y12_when.cls y12_when y12_when ∈ xG := xG_k xT_8 148 rfl rfl
set_option maxRecDepth 20000 in
theorem mf11_lost : xmf y11_lost prog_1_method_27_code 2 (some .int) := ⟨xG_k xT_5 63 rfl rfl, xG_k xT_1 1 rfl rfl, ⟨by decide +kernel, by decide +kernel⟩, by decide +kernel⟩
set_option maxRecDepth 20000 in
theorem mi11_lost : Cond.instanceMethod y11_lost ∈ xG := xG_k xT_5 61 rfl rfl
set_option maxRecDepth 20000 in
theorem me11_lost : Cond.selects y11_lost.cls y11_lost y11_lost ∈ xG := xG_k xT_5 62 rfl rfl
set_option maxRecDepth 20000 in
theorem mf12_lost : xmf y12_lost prog_14_method_95_code 3 (some .int) := ⟨xG_k xT_8 153 rfl rfl, xG_k xT_1 13 rfl rfl, ⟨by decide +kernel, by decide +kernel⟩, by decide +kernel⟩
set_option maxRecDepth 20000 in
theorem mi12_lost : Cond.instanceMethod y12_lost ∈ xG := xG_k xT_8 151 rfl rfl
set_option maxRecDepth 20000 in
theorem me12_lost : Cond.selects y12_lost.cls y12_lost y12_lost ∈ xG := xG_k xT_8 152 rfl rfl
set_option maxRecDepth 20000 in
theorem mf11_fits : xmf y11_fits prog_1_method_28_code 2 (some .int) := ⟨xG_k xT_5 67 rfl rfl, xG_k xT_1 1 rfl rfl, ⟨by decide +kernel, by decide +kernel⟩, by decide +kernel⟩
set_option maxRecDepth 20000 in
theorem mi11_fits : Cond.instanceMethod y11_fits ∈ xG := xG_k xT_5 65 rfl rfl
set_option maxRecDepth 20000 in
theorem me11_fits : Cond.selects y11_fits.cls y11_fits y11_fits ∈ xG := xG_k xT_5 66 rfl rfl
set_option maxRecDepth 20000 in
theorem mf12_fits : xmf y12_fits prog_14_method_97_code 2 (some .int) := ⟨xG_k xT_8 157 rfl rfl, xG_k xT_1 13 rfl rfl, ⟨by decide +kernel, by decide +kernel⟩, by decide +kernel⟩
set_option maxRecDepth 20000 in
theorem mi12_fits : Cond.instanceMethod y12_fits ∈ xG := xG_k xT_8 155 rfl rfl
set_option maxRecDepth 20000 in
theorem me12_fits : Cond.selects y12_fits.cls y12_fits y12_fits ∈ xG := xG_k xT_8 156 rfl rfl
set_option maxRecDepth 20000 in
theorem mf11_could : xmf y11_could prog_1_method_29_code 4 (some .int) := ⟨xG_k xT_5 75 rfl rfl, xG_k xT_1 1 rfl rfl, ⟨by decide +kernel, by decide +kernel⟩, by decide +kernel⟩
set_option maxRecDepth 20000 in
theorem mi11_could : Cond.instanceMethod y11_could ∈ xG := xG_k xT_5 73 rfl rfl
set_option maxRecDepth 20000 in
theorem me11_could : Cond.selects y11_could.cls y11_could y11_could ∈ xG := xG_k xT_5 74 rfl rfl
set_option maxRecDepth 20000 in
theorem mf12_could : xmf y12_could prog_14_method_98_code 4 (some .int) := ⟨xG_k xT_8 165 rfl rfl, xG_k xT_1 13 rfl rfl, ⟨by decide +kernel, by decide +kernel⟩, by decide +kernel⟩
set_option maxRecDepth 20000 in
theorem mi12_could : Cond.instanceMethod y12_could ∈ xG := xG_k xT_8 163 rfl rfl
set_option maxRecDepth 20000 in
theorem me12_could : Cond.selects y12_could.cls y12_could y12_could ∈ xG := xG_k xT_8 164 rfl rfl
set_option maxRecDepth 20000 in
theorem mf11_best : xmf y11_best prog_1_method_30_code 2 (some .int) := ⟨xG_k xT_5 80 rfl rfl, xG_k xT_1 1 rfl rfl, ⟨by decide +kernel, by decide +kernel⟩, by decide +kernel⟩
set_option maxRecDepth 20000 in
theorem mi11_best : Cond.instanceMethod y11_best ∈ xG := xG_k xT_5 78 rfl rfl
set_option maxRecDepth 20000 in
theorem me11_best : Cond.selects y11_best.cls y11_best y11_best ∈ xG := xG_k xT_5 79 rfl rfl
set_option maxRecDepth 20000 in
theorem mf12_best : xmf y12_best prog_14_method_101_code 2 (some .int) := ⟨xG_k xT_8 169 rfl rfl, xG_k xT_1 13 rfl rfl, ⟨by decide +kernel, by decide +kernel⟩, by decide +kernel⟩
set_option maxRecDepth 20000 in
theorem mi12_best : Cond.instanceMethod y12_best ∈ xG := xG_k xT_8 167 rfl rfl
set_option maxRecDepth 20000 in
theorem me12_best : Cond.selects y12_best.cls y12_best y12_best ∈ xG := xG_k xT_8 168 rfl rfl
set_option maxRecDepth 20000 in
theorem mf11_with : xmf y11_with prog_1_method_31_code 2 (some .int) := ⟨xG_k xT_5 105 rfl rfl, xG_k xT_1 1 rfl rfl, ⟨by decide +kernel, by decide +kernel⟩, by decide +kernel⟩
set_option maxRecDepth 20000 in
theorem mi11_with : Cond.instanceMethod y11_with ∈ xG := xG_k xT_5 103 rfl rfl
set_option maxRecDepth 20000 in
theorem me11_with : Cond.selects y11_with.cls y11_with y11_with ∈ xG := xG_k xT_5 104 rfl rfl
set_option maxRecDepth 20000 in
theorem mf12_with : xmf y12_with prog_14_method_102_code 2 (some .int) := ⟨xG_k xT_8 181 rfl rfl, xG_k xT_1 13 rfl rfl, ⟨by decide +kernel, by decide +kernel⟩, by decide +kernel⟩
set_option maxRecDepth 20000 in
theorem mi12_with : Cond.instanceMethod y12_with ∈ xG := xG_k xT_8 179 rfl rfl
set_option maxRecDepth 20000 in
theorem me12_with : Cond.selects y12_with.cls y12_with y12_with ∈ xG := xG_k xT_8 180 rfl rfl
set_option maxRecDepth 20000 in
theorem mf11_need : xmf y11_need prog_1_method_32_code 6 (some .int) := ⟨xG_k xT_5 109 rfl rfl, xG_k xT_1 1 rfl rfl, ⟨by decide +kernel, by decide +kernel⟩, by decide +kernel⟩
set_option maxRecDepth 20000 in
theorem mi11_need : Cond.instanceMethod y11_need ∈ xG := xG_k xT_5 107 rfl rfl
set_option maxRecDepth 20000 in
theorem me11_need : Cond.selects y11_need.cls y11_need y11_need ∈ xG := xG_k xT_5 108 rfl rfl
set_option maxRecDepth 20000 in
theorem mf12_need : xmf y12_need prog_14_method_105_code 5 (some .int) := ⟨xG_k xT_8 185 rfl rfl, xG_k xT_1 13 rfl rfl, ⟨by decide +kernel, by decide +kernel⟩, by decide +kernel⟩
set_option maxRecDepth 20000 in
theorem mi12_need : Cond.instanceMethod y12_need ∈ xG := xG_k xT_8 183 rfl rfl
set_option maxRecDepth 20000 in
theorem me12_need : Cond.selects y12_need.cls y12_need y12_need ∈ xG := xG_k xT_8 184 rfl rfl
set_option maxRecDepth 20000 in
theorem mf11_latest : xmf y11_latest prog_1_method_33_code 3 (some .int) := ⟨xG_k xT_5 130 rfl rfl, xG_k xT_1 1 rfl rfl, ⟨by decide +kernel, by decide +kernel⟩, by decide +kernel⟩
set_option maxRecDepth 20000 in
theorem mi11_latest : Cond.instanceMethod y11_latest ∈ xG := xG_k xT_5 128 rfl rfl
set_option maxRecDepth 20000 in
theorem me11_latest : Cond.selects y11_latest.cls y11_latest y11_latest ∈ xG := xG_k xT_5 129 rfl rfl
set_option maxRecDepth 20000 in
theorem mf12_latest : xmf y12_latest prog_14_method_108_code 3 (some .int) := ⟨xG_k xT_8 205 rfl rfl, xG_k xT_1 13 rfl rfl, ⟨by decide +kernel, by decide +kernel⟩, by decide +kernel⟩
set_option maxRecDepth 20000 in
theorem mi12_latest : Cond.instanceMethod y12_latest ∈ xG := xG_k xT_8 203 rfl rfl
set_option maxRecDepth 20000 in
theorem me12_latest : Cond.selects y12_latest.cls y12_latest y12_latest ∈ xG := xG_k xT_8 204 rfl rfl
set_option maxRecDepth 20000 in
theorem mf11_enough : xmf y11_enough prog_1_method_34_code 2 (some .int) := ⟨xG_k xT_5 139 rfl rfl, xG_k xT_1 1 rfl rfl, ⟨by decide +kernel, by decide +kernel⟩, by decide +kernel⟩
set_option maxRecDepth 20000 in
theorem mi11_enough : Cond.instanceMethod y11_enough ∈ xG := xG_k xT_5 137 rfl rfl
set_option maxRecDepth 20000 in
theorem me11_enough : Cond.selects y11_enough.cls y11_enough y11_enough ∈ xG := xG_k xT_5 138 rfl rfl
set_option maxRecDepth 20000 in
theorem mf12_enough : xmf y12_enough prog_14_method_107_code 2 (some .int) := ⟨xG_k xT_8 197 rfl rfl, xG_k xT_1 13 rfl rfl, ⟨by decide +kernel, by decide +kernel⟩, by decide +kernel⟩
set_option maxRecDepth 20000 in
theorem mi12_enough : Cond.instanceMethod y12_enough ∈ xG := xG_k xT_8 195 rfl rfl
set_option maxRecDepth 20000 in
theorem me12_enough : Cond.selects y12_enough.cls y12_enough y12_enough ∈ xG := xG_k xT_8 196 rfl rfl
set_option maxRecDepth 20000 in
theorem mf11_near : xmf y11_near prog_1_method_35_code 6 (some .int) := ⟨xG_k xT_5 143 rfl rfl, xG_k xT_1 1 rfl rfl, ⟨by decide +kernel, by decide +kernel⟩, by decide +kernel⟩
set_option maxRecDepth 20000 in
theorem mi11_near : Cond.instanceMethod y11_near ∈ xG := xG_k xT_5 141 rfl rfl
set_option maxRecDepth 20000 in
theorem me11_near : Cond.selects y11_near.cls y11_near y11_near ∈ xG := xG_k xT_5 142 rfl rfl
set_option maxRecDepth 20000 in
theorem mf12_near : xmf y12_near prog_14_method_113_code 4 (some .int) := ⟨xG_k xT_8 225 rfl rfl, xG_k xT_1 13 rfl rfl, ⟨by decide +kernel, by decide +kernel⟩, by decide +kernel⟩
set_option maxRecDepth 20000 in
theorem mi12_near : Cond.instanceMethod y12_near ∈ xG := xG_k xT_8 223 rfl rfl
set_option maxRecDepth 20000 in
theorem me12_near : Cond.selects y12_near.cls y12_near y12_near ∈ xG := xG_k xT_8 224 rfl rfl
set_option maxRecDepth 20000 in
theorem mf11_gap : xmf y11_gap prog_1_method_36_code 3 (some .int) := ⟨xG_k xT_5 148 rfl rfl, xG_k xT_1 1 rfl rfl, ⟨by decide +kernel, by decide +kernel⟩, by decide +kernel⟩
set_option maxRecDepth 20000 in
theorem mi11_gap : Cond.instanceMethod y11_gap ∈ xG := xG_k xT_5 146 rfl rfl
set_option maxRecDepth 20000 in
theorem me11_gap : Cond.selects y11_gap.cls y11_gap y11_gap ∈ xG := xG_k xT_5 147 rfl rfl
set_option maxRecDepth 20000 in
theorem mf12_gap : xmf y12_gap prog_14_method_114_code 4 (some .int) := ⟨xG_k xT_8 229 rfl rfl, xG_k xT_1 13 rfl rfl, ⟨by decide +kernel, by decide +kernel⟩, by decide +kernel⟩
set_option maxRecDepth 20000 in
theorem mi12_gap : Cond.instanceMethod y12_gap ∈ xG := xG_k xT_8 227 rfl rfl
set_option maxRecDepth 20000 in
theorem me12_gap : Cond.selects y12_gap.cls y12_gap y12_gap ∈ xG := xG_k xT_8 228 rfl rfl
set_option maxRecDepth 20000 in
theorem mf11_row : xmf y11_row prog_1_method_37_code 3 (some .int) := ⟨xG_k xT_5 152 rfl rfl, xG_k xT_1 1 rfl rfl, ⟨by decide +kernel, by decide +kernel⟩, by decide +kernel⟩
set_option maxRecDepth 20000 in
theorem mi11_row : Cond.instanceMethod y11_row ∈ xG := xG_k xT_5 150 rfl rfl
set_option maxRecDepth 20000 in
theorem me11_row : Cond.selects y11_row.cls y11_row y11_row ∈ xG := xG_k xT_5 151 rfl rfl
set_option maxRecDepth 20000 in
theorem mf12_row : xmf y12_row prog_14_method_117_code 1 (some .int) := ⟨xG_k xT_8 233 rfl rfl, xG_k xT_1 13 rfl rfl, ⟨by decide +kernel, by decide +kernel⟩, by decide +kernel⟩
set_option maxRecDepth 20000 in
theorem mi12_row : Cond.instanceMethod y12_row ∈ xG := xG_k xT_8 231 rfl rfl
set_option maxRecDepth 20000 in
theorem me12_row : Cond.selects y12_row.cls y12_row y12_row ∈ xG := xG_k xT_8 232 rfl rfl
set_option maxRecDepth 20000 in
theorem mf11_dense : xmf y11_dense prog_1_method_38_code 5 (some .int) := ⟨xG_k xT_5 161 rfl rfl, xG_k xT_1 1 rfl rfl, ⟨by decide +kernel, by decide +kernel⟩, by decide +kernel⟩
set_option maxRecDepth 20000 in
theorem mi11_dense : Cond.instanceMethod y11_dense ∈ xG := xG_k xT_5 159 rfl rfl
set_option maxRecDepth 20000 in
theorem me11_dense : Cond.selects y11_dense.cls y11_dense y11_dense ∈ xG := xG_k xT_5 160 rfl rfl
set_option maxRecDepth 20000 in
theorem mf12_dense : xmf y12_dense prog_14_method_118_code 1 (some .int) := ⟨xG_k xT_9 5 rfl rfl, xG_k xT_1 13 rfl rfl, ⟨by decide +kernel, by decide +kernel⟩, by decide +kernel⟩
set_option maxRecDepth 20000 in
theorem mi12_dense : Cond.instanceMethod y12_dense ∈ xG := xG_k xT_9 3 rfl rfl
set_option maxRecDepth 20000 in
theorem me12_dense : Cond.selects y12_dense.cls y12_dense y12_dense ∈ xG := xG_k xT_9 4 rfl rfl
set_option maxRecDepth 20000 in
theorem mf11_tight : xmf y11_tight prog_1_method_39_code 5 (some .int) := ⟨xG_k xT_5 165 rfl rfl, xG_k xT_1 1 rfl rfl, ⟨by decide +kernel, by decide +kernel⟩, by decide +kernel⟩
set_option maxRecDepth 20000 in
theorem mi11_tight : Cond.instanceMethod y11_tight ∈ xG := xG_k xT_5 163 rfl rfl
set_option maxRecDepth 20000 in
theorem me11_tight : Cond.selects y11_tight.cls y11_tight y11_tight ∈ xG := xG_k xT_5 164 rfl rfl
set_option maxRecDepth 20000 in
theorem mf12_tight : xmf y12_tight prog_14_method_119_code 5 (some .int) := ⟨xG_k xT_9 9 rfl rfl, xG_k xT_1 13 rfl rfl, ⟨by decide +kernel, by decide +kernel⟩, by decide +kernel⟩
set_option maxRecDepth 20000 in
theorem mi12_tight : Cond.instanceMethod y12_tight ∈ xG := xG_k xT_9 7 rfl rfl
set_option maxRecDepth 20000 in
theorem me12_tight : Cond.selects y12_tight.cls y12_tight y12_tight ∈ xG := xG_k xT_9 8 rfl rfl
set_option maxRecDepth 20000 in
theorem mf11_spare : xmf y11_spare prog_1_method_40_code 3 (some .int) := ⟨xG_k xT_5 170 rfl rfl, xG_k xT_1 1 rfl rfl, ⟨by decide +kernel, by decide +kernel⟩, by decide +kernel⟩
set_option maxRecDepth 20000 in
theorem mi11_spare : Cond.instanceMethod y11_spare ∈ xG := xG_k xT_5 168 rfl rfl
set_option maxRecDepth 20000 in
theorem me11_spare : Cond.selects y11_spare.cls y11_spare y11_spare ∈ xG := xG_k xT_5 169 rfl rfl
set_option maxRecDepth 20000 in
theorem mf12_spare : xmf y12_spare prog_14_method_109_code 3 (some .int) := ⟨xG_k xT_8 209 rfl rfl, xG_k xT_1 13 rfl rfl, ⟨by decide +kernel, by decide +kernel⟩, by decide +kernel⟩
set_option maxRecDepth 20000 in
theorem mi12_spare : Cond.instanceMethod y12_spare ∈ xG := xG_k xT_8 207 rfl rfl
set_option maxRecDepth 20000 in
theorem me12_spare : Cond.selects y12_spare.cls y12_spare y12_spare ∈ xG := xG_k xT_8 208 rfl rfl
set_option maxRecDepth 20000 in
theorem mf11_save : xmf y11_save prog_1_method_41_code 4 (some .boolean) := ⟨xG_k xT_5 175 rfl rfl, xG_k xT_1 1 rfl rfl, ⟨by decide +kernel, by decide +kernel⟩, by decide +kernel⟩
set_option maxRecDepth 20000 in
theorem mi11_save : Cond.instanceMethod y11_save ∈ xG := xG_k xT_5 173 rfl rfl
set_option maxRecDepth 20000 in
theorem me11_save : Cond.selects y11_save.cls y11_save y11_save ∈ xG := xG_k xT_5 174 rfl rfl
set_option maxRecDepth 20000 in
theorem mf12_save : xmf y12_save prog_14_method_111_code 4 (some .boolean) := ⟨xG_k xT_8 213 rfl rfl, xG_k xT_1 13 rfl rfl, ⟨by decide +kernel, by decide +kernel⟩, by decide +kernel⟩
set_option maxRecDepth 20000 in
theorem mi12_save : Cond.instanceMethod y12_save ∈ xG := xG_k xT_8 211 rfl rfl
set_option maxRecDepth 20000 in
theorem me12_save : Cond.selects y12_save.cls y12_save y12_save ∈ xG := xG_k xT_8 212 rfl rfl
set_option maxRecDepth 20000 in
theorem mf11_worth : xmf y11_worth prog_1_method_43_code 5 (some .int) := ⟨xG_k xT_5 183 rfl rfl, xG_k xT_1 1 rfl rfl, ⟨by decide +kernel, by decide +kernel⟩, by decide +kernel⟩
set_option maxRecDepth 20000 in
theorem mi11_worth : Cond.instanceMethod y11_worth ∈ xG := xG_k xT_5 181 rfl rfl
set_option maxRecDepth 20000 in
theorem me11_worth : Cond.selects y11_worth.cls y11_worth y11_worth ∈ xG := xG_k xT_5 182 rfl rfl
set_option maxRecDepth 20000 in
theorem mf12_worth : xmf y12_worth prog_14_method_112_code 5 (some .int) := ⟨xG_k xT_8 221 rfl rfl, xG_k xT_1 13 rfl rfl, ⟨by decide +kernel, by decide +kernel⟩, by decide +kernel⟩
set_option maxRecDepth 20000 in
theorem mi12_worth : Cond.instanceMethod y12_worth ∈ xG := xG_k xT_8 219 rfl rfl
set_option maxRecDepth 20000 in
theorem me12_worth : Cond.selects y12_worth.cls y12_worth y12_worth ∈ xG := xG_k xT_8 220 rfl rfl
set_option maxRecDepth 20000 in
theorem mf11_see : xmf y11_see prog_1_method_44_code 3 (some .boolean) := ⟨xG_k xT_5 187 rfl rfl, xG_k xT_1 1 rfl rfl, ⟨by decide +kernel, by decide +kernel⟩, by decide +kernel⟩
set_option maxRecDepth 20000 in
theorem mi11_see : Cond.instanceMethod y11_see ∈ xG := xG_k xT_5 185 rfl rfl
set_option maxRecDepth 20000 in
theorem me11_see : Cond.selects y11_see.cls y11_see y11_see ∈ xG := xG_k xT_5 186 rfl rfl
set_option maxRecDepth 20000 in
theorem mf12_see : xmf y12_see prog_14_method_120_code 4 (some .boolean) := ⟨xG_k xT_9 13 rfl rfl, xG_k xT_1 13 rfl rfl, ⟨by decide +kernel, by decide +kernel⟩, by decide +kernel⟩
set_option maxRecDepth 20000 in
theorem mi12_see : Cond.instanceMethod y12_see ∈ xG := xG_k xT_9 11 rfl rfl
set_option maxRecDepth 20000 in
theorem me12_see : Cond.selects y12_see.cls y12_see y12_see ∈ xG := xG_k xT_9 12 rfl rfl
set_option maxRecDepth 20000 in
theorem mf11_holes : xmf y11_holes prog_1_method_45_code 1 (some .int) := ⟨xG_k xT_5 195 rfl rfl, xG_k xT_1 1 rfl rfl, ⟨by decide +kernel, by decide +kernel⟩, by decide +kernel⟩
set_option maxRecDepth 20000 in
theorem mi11_holes : Cond.instanceMethod y11_holes ∈ xG := xG_k xT_5 193 rfl rfl
set_option maxRecDepth 20000 in
theorem me11_holes : Cond.selects y11_holes.cls y11_holes y11_holes ∈ xG := xG_k xT_5 194 rfl rfl
set_option maxRecDepth 20000 in
theorem mf12_holes : xmf y12_holes prog_14_method_123_code 1 (some .int) := ⟨xG_k xT_9 17 rfl rfl, xG_k xT_1 13 rfl rfl, ⟨by decide +kernel, by decide +kernel⟩, by decide +kernel⟩
set_option maxRecDepth 20000 in
theorem mi12_holes : Cond.instanceMethod y12_holes ∈ xG := xG_k xT_9 15 rfl rfl
set_option maxRecDepth 20000 in
theorem me12_holes : Cond.selects y12_holes.cls y12_holes y12_holes ∈ xG := xG_k xT_9 16 rfl rfl
set_option maxRecDepth 20000 in
theorem mf11_look : xmf y11_look prog_1_method_46_code 1 (some .int) := ⟨xG_k xT_5 217 rfl rfl, xG_k xT_1 1 rfl rfl, ⟨by decide +kernel, by decide +kernel⟩, by decide +kernel⟩
set_option maxRecDepth 20000 in
theorem mi11_look : Cond.instanceMethod y11_look ∈ xG := xG_k xT_5 215 rfl rfl
set_option maxRecDepth 20000 in
theorem me11_look : Cond.selects y11_look.cls y11_look y11_look ∈ xG := xG_k xT_5 216 rfl rfl
set_option maxRecDepth 20000 in
theorem mf12_look : xmf y12_look prog_14_method_124_code 9 (some .int) := ⟨xG_k xT_9 29 rfl rfl, xG_k xT_1 13 rfl rfl, ⟨by decide +kernel, by decide +kernel⟩, by decide +kernel⟩
set_option maxRecDepth 20000 in
theorem mi12_look : Cond.instanceMethod y12_look ∈ xG := xG_k xT_9 27 rfl rfl
set_option maxRecDepth 20000 in
theorem me12_look : Cond.selects y12_look.cls y12_look y12_look ∈ xG := xG_k xT_9 28 rfl rfl
set_option maxRecDepth 20000 in
theorem mf11_chance : xmf y11_chance prog_1_method_47_code 7 (some .int) := ⟨xG_k xT_5 237 rfl rfl, xG_k xT_1 1 rfl rfl, ⟨by decide +kernel, by decide +kernel⟩, by decide +kernel⟩
set_option maxRecDepth 20000 in
theorem mi11_chance : Cond.instanceMethod y11_chance ∈ xG := xG_k xT_5 235 rfl rfl
set_option maxRecDepth 20000 in
theorem me11_chance : Cond.selects y11_chance.cls y11_chance y11_chance ∈ xG := xG_k xT_5 236 rfl rfl
set_option maxRecDepth 20000 in
theorem mf12_chance : xmf y12_chance prog_14_method_125_code 13 (some .int) := ⟨xG_k xT_9 33 rfl rfl, xG_k xT_1 13 rfl rfl, ⟨by decide +kernel, by decide +kernel⟩, by decide +kernel⟩
set_option maxRecDepth 20000 in
theorem mi12_chance : Cond.instanceMethod y12_chance ∈ xG := xG_k xT_9 31 rfl rfl
set_option maxRecDepth 20000 in
theorem me12_chance : Cond.selects y12_chance.cls y12_chance y12_chance ∈ xG := xG_k xT_9 32 rfl rfl
set_option maxRecDepth 20000 in
theorem msL_rests : Cond.static yL_rests ∈ xG := xG_k xT_6 51 rfl rfl
set_option maxRecDepth 20000 in
theorem mf12_rests : xmf y12_rests prog_14_method_127_code 12 (some .int) := ⟨xG_k xT_9 38 rfl rfl, xG_k xT_1 13 rfl rfl, ⟨by decide +kernel, by decide +kernel⟩, by decide +kernel⟩
set_option maxRecDepth 20000 in
theorem mi12_rests : Cond.instanceMethod y12_rests ∈ xG := xG_k xT_9 36 rfl rfl
set_option maxRecDepth 20000 in
theorem me12_rests : Cond.selects y12_rests.cls y12_rests y12_rests ∈ xG := xG_k xT_9 37 rfl rfl
set_option maxRecDepth 20000 in
theorem mf12_thrown : xmf y12_thrown prog_14_method_1_code 1 (some .int) := ⟨xG_k xT_6 128 rfl rfl, xG_k xT_1 13 rfl rfl, ⟨by decide +kernel, by decide +kernel⟩, by decide +kernel⟩
set_option maxRecDepth 20000 in
theorem mi12_thrown : Cond.instanceMethod y12_thrown ∈ xG := xG_k xT_6 126 rfl rfl
set_option maxRecDepth 20000 in
theorem me12_thrown : Cond.selects y12_thrown.cls y12_thrown y12_thrown ∈ xG := xG_k xT_6 127 rfl rfl
set_option maxRecDepth 20000 in
theorem mf11_balls : xmf y11_balls prog_1_method_53_code 5 (some .int) := ⟨xG_k xT_6 8 rfl rfl, xG_k xT_1 1 rfl rfl, ⟨by decide +kernel, by decide +kernel⟩, by decide +kernel⟩
set_option maxRecDepth 20000 in
theorem mi11_balls : Cond.instanceMethod y11_balls ∈ xG := xG_k xT_6 6 rfl rfl
set_option maxRecDepth 20000 in
theorem me11_balls : Cond.selects y11_balls.cls y11_balls y11_balls ∈ xG := xG_k xT_6 7 rfl rfl
set_option maxRecDepth 20000 in
theorem mf12_balls : xmf y12_balls prog_14_method_130_code 6 (some .int) := ⟨xG_k xT_9 45 rfl rfl, xG_k xT_1 13 rfl rfl, ⟨by decide +kernel, by decide +kernel⟩, by decide +kernel⟩
set_option maxRecDepth 20000 in
theorem mi12_balls : Cond.instanceMethod y12_balls ∈ xG := xG_k xT_9 43 rfl rfl
set_option maxRecDepth 20000 in
theorem me12_balls : Cond.selects y12_balls.cls y12_balls y12_balls ∈ xG := xG_k xT_9 44 rfl rfl
set_option maxRecDepth 20000 in
theorem mf11_mark : xmf y11_mark prog_1_method_58_code 4 (some .boolean) := ⟨xG_k xT_6 30 rfl rfl, xG_k xT_1 1 rfl rfl, ⟨by decide +kernel, by decide +kernel⟩, by decide +kernel⟩
set_option maxRecDepth 20000 in
theorem mi11_mark : Cond.instanceMethod y11_mark ∈ xG := xG_k xT_6 28 rfl rfl
set_option maxRecDepth 20000 in
theorem me11_mark : Cond.selects y11_mark.cls y11_mark y11_mark ∈ xG := xG_k xT_6 29 rfl rfl
set_option maxRecDepth 20000 in
theorem mf12_mark : xmf y12_mark prog_14_method_131_code 3 (some .boolean) := ⟨xG_k xT_9 61 rfl rfl, xG_k xT_1 13 rfl rfl, ⟨by decide +kernel, by decide +kernel⟩, by decide +kernel⟩
set_option maxRecDepth 20000 in
theorem mi12_mark : Cond.instanceMethod y12_mark ∈ xG := xG_k xT_9 59 rfl rfl
set_option maxRecDepth 20000 in
theorem me12_mark : Cond.selects y12_mark.cls y12_mark y12_mark ∈ xG := xG_k xT_9 60 rfl rfl
set_option maxRecDepth 20000 in
theorem mf11_count : xmf y11_count prog_1_method_59_code 2 (some .int) := ⟨xG_k xT_6 48 rfl rfl, xG_k xT_1 1 rfl rfl, ⟨by decide +kernel, by decide +kernel⟩, by decide +kernel⟩
set_option maxRecDepth 20000 in
theorem mi11_count : Cond.instanceMethod y11_count ∈ xG := xG_k xT_6 46 rfl rfl
set_option maxRecDepth 20000 in
theorem me11_count : Cond.selects y11_count.cls y11_count y11_count ∈ xG := xG_k xT_6 47 rfl rfl
set_option maxRecDepth 20000 in
theorem mf12_count : xmf y12_count prog_14_method_132_code 2 (some .int) := ⟨xG_k xT_9 65 rfl rfl, xG_k xT_1 13 rfl rfl, ⟨by decide +kernel, by decide +kernel⟩, by decide +kernel⟩
set_option maxRecDepth 20000 in
theorem mi12_count : Cond.instanceMethod y12_count ∈ xG := xG_k xT_9 63 rfl rfl
set_option maxRecDepth 20000 in
theorem me12_count : Cond.selects y12_count.cls y12_count y12_count ∈ xG := xG_k xT_9 64 rfl rfl
set_option maxRecDepth 20000 in
theorem mf11_rests : xmf y11_rests prog_1_method_50_code 11 (some .int) := ⟨xG_k xT_6 57 rfl rfl, xG_k xT_1 1 rfl rfl, ⟨by decide +kernel, by decide +kernel⟩, by decide +kernel⟩
set_option maxRecDepth 20000 in
theorem mi11_rests : Cond.instanceMethod y11_rests ∈ xG := xG_k xT_6 55 rfl rfl
set_option maxRecDepth 20000 in
theorem me11_rests : Cond.selects y11_rests.cls y11_rests y11_rests ∈ xG := xG_k xT_6 56 rfl rfl
theorem xcond_inv {α : Type} {b : Bool} {x y : Option α} {o : α} (h : (bif b then x else y) = some o) : (b = true ∧ x = some o) ∨ y = some o := by
  cases b
  · exact Or.inr h
  · exact Or.inl ⟨rfl, h⟩
