/-! THE STRINGS: their methods, by contract -/
abbrev sb_coder : ByteArray := prog_23_method_152_code
def sy_coder : MethodName := ⟨"java/lang/String", "coder", "()B"⟩
set_option maxRecDepth 20000 in
theorem sc_coder : Cond.code sy_coder sb_coder 1 (some .byte) ∈ xG := xG_k xT_2 239 rfl rfl
set_option maxRecDepth 20000 in
theorem si_coder : Cond.initialized sy_coder.cls ∈ xG := xG_k xT_1 14 rfl rfl
set_option maxRecDepth 20000 in
theorem sm_coder : Cond.instanceMethod sy_coder ∈ xG := xG_k xT_2 237 rfl rfl
set_option maxRecDepth 20000 in
theorem se_coder : Cond.selects sy_coder.cls sy_coder sy_coder ∈ xG := xG_k xT_2 238 rfl rfl
theorem sd_coder_0 : decode sb_coder 0 = .ok (.getstatic 38, 3) := by decide +kernel
theorem sd_coder_3 : decode sb_coder 3 = .ok (.ifCond .eq 10, 3) := by decide +kernel
theorem sd_coder_6 : decode sb_coder 6 = .ok (.aload_n 0, 1) := by decide +kernel
theorem sd_coder_7 : decode sb_coder 7 = .ok (.getfield 15, 3) := by decide +kernel
theorem sd_coder_10 : decode sb_coder 10 = .ok (.goto 4, 3) := by decide +kernel
theorem sd_coder_13 : decode sb_coder 13 = .ok (.iconst 1, 1) := by decide +kernel
theorem sd_coder_14 : decode sb_coder 14 = .ok (.ireturn, 1) := by decide +kernel
abbrev sb_isLatin1 : ByteArray := prog_23_method_154_code
def sy_isLatin1 : MethodName := ⟨"java/lang/String", "isLatin1", "()Z"⟩
set_option maxRecDepth 20000 in
theorem sc_isLatin1 : Cond.code sy_isLatin1 sb_isLatin1 1 (some .boolean) ∈ xG := xG_k xT_3 9 rfl rfl
set_option maxRecDepth 20000 in
theorem si_isLatin1 : Cond.initialized sy_isLatin1.cls ∈ xG := xG_k xT_1 14 rfl rfl
set_option maxRecDepth 20000 in
theorem sm_isLatin1 : Cond.instanceMethod sy_isLatin1 ∈ xG := xG_k xT_3 7 rfl rfl
set_option maxRecDepth 20000 in
theorem se_isLatin1 : Cond.selects sy_isLatin1.cls sy_isLatin1 sy_isLatin1 ∈ xG := xG_k xT_3 8 rfl rfl
theorem sd_isLatin1_0 : decode sb_isLatin1 0 = .ok (.getstatic 38, 3) := by decide +kernel
theorem sd_isLatin1_3 : decode sb_isLatin1 3 = .ok (.ifCond .eq 14, 3) := by decide +kernel
theorem sd_isLatin1_6 : decode sb_isLatin1 6 = .ok (.aload_n 0, 1) := by decide +kernel
theorem sd_isLatin1_7 : decode sb_isLatin1 7 = .ok (.getfield 15, 3) := by decide +kernel
theorem sd_isLatin1_10 : decode sb_isLatin1 10 = .ok (.ifCond .ne 7, 3) := by decide +kernel
theorem sd_isLatin1_13 : decode sb_isLatin1 13 = .ok (.iconst 1, 1) := by decide +kernel
theorem sd_isLatin1_14 : decode sb_isLatin1 14 = .ok (.goto 4, 3) := by decide +kernel
theorem sd_isLatin1_17 : decode sb_isLatin1 17 = .ok (.iconst 0, 1) := by decide +kernel
theorem sd_isLatin1_18 : decode sb_isLatin1 18 = .ok (.ireturn, 1) := by decide +kernel
abbrev sb_length : ByteArray := prog_23_method_54_code
def sy_length : MethodName := ⟨"java/lang/String", "length", "()I"⟩
set_option maxRecDepth 20000 in
theorem sc_length : Cond.code sy_length sb_length 1 (some .int) ∈ xG := xG_k xT_2 235 rfl rfl
set_option maxRecDepth 20000 in
theorem si_length : Cond.initialized sy_length.cls ∈ xG := xG_k xT_1 14 rfl rfl
set_option maxRecDepth 20000 in
theorem sm_length : Cond.instanceMethod sy_length ∈ xG := xG_k xT_2 233 rfl rfl
set_option maxRecDepth 20000 in
theorem se_length : Cond.selects sy_length.cls sy_length sy_length ∈ xG := xG_k xT_2 234 rfl rfl
theorem sd_length_0 : decode sb_length 0 = .ok (.aload_n 0, 1) := by decide +kernel
theorem sd_length_1 : decode sb_length 1 = .ok (.getfield 9, 3) := by decide +kernel
theorem sd_length_4 : decode sb_length 4 = .ok (.arraylength, 1) := by decide +kernel
theorem sd_length_5 : decode sb_length 5 = .ok (.aload_n 0, 1) := by decide +kernel
theorem sd_length_6 : decode sb_length 6 = .ok (.invokevirtual 335, 3) := by decide +kernel
theorem sd_length_9 : decode sb_length 9 = .ok (.ishr, 1) := by decide +kernel
theorem sd_length_10 : decode sb_length 10 = .ok (.ireturn, 1) := by decide +kernel
abbrev sb_canEncode : ByteArray := prog_24_method_4_code
def sy_canEncode : MethodName := ⟨"java/lang/StringLatin1", "canEncode", "(I)Z"⟩
set_option maxRecDepth 20000 in
theorem sc_canEncode : Cond.code sy_canEncode sb_canEncode 1 (some .boolean) ∈ xG := xG_k xT_3 58 rfl rfl
set_option maxRecDepth 20000 in
theorem si_canEncode : Cond.initialized sy_canEncode.cls ∈ xG := xG_k xT_1 15 rfl rfl
set_option maxRecDepth 20000 in
theorem ss_canEncode : Cond.static sy_canEncode ∈ xG := xG_k xT_3 57 rfl rfl
theorem sd_canEncode_0 : decode sb_canEncode 0 = .ok (.iload_n 0, 1) := by decide +kernel
theorem sd_canEncode_1 : decode sb_canEncode 1 = .ok (.ifCond .lt 14, 3) := by decide +kernel
theorem sd_canEncode_4 : decode sb_canEncode 4 = .ok (.iload_n 0, 1) := by decide +kernel
theorem sd_canEncode_5 : decode sb_canEncode 5 = .ok (.sipush 255, 3) := by decide +kernel
theorem sd_canEncode_8 : decode sb_canEncode 8 = .ok (.if_icmp .gt 7, 3) := by decide +kernel
theorem sd_canEncode_11 : decode sb_canEncode 11 = .ok (.iconst 1, 1) := by decide +kernel
theorem sd_canEncode_12 : decode sb_canEncode 12 = .ok (.goto 4, 3) := by decide +kernel
theorem sd_canEncode_15 : decode sb_canEncode 15 = .ok (.iconst 0, 1) := by decide +kernel
theorem sd_canEncode_16 : decode sb_canEncode 16 = .ok (.ireturn, 1) := by decide +kernel
abbrev sb_pcheck : ByteArray := prog_31_method_11_code
def sy_pcheck : MethodName := ⟨"jdk/internal/util/Preconditions", "checkIndex", "(IILjava/util/function/BiFunction;)I"⟩
set_option maxRecDepth 20000 in
theorem sc_pcheck : Cond.code sy_pcheck sb_pcheck 3 (some .int) ∈ xG := xG_k xT_3 20 rfl rfl
set_option maxRecDepth 20000 in
theorem si_pcheck : Cond.initialized sy_pcheck.cls ∈ xG := xG_k xT_1 16 rfl rfl
set_option maxRecDepth 20000 in
theorem ss_pcheck : Cond.static sy_pcheck ∈ xG := xG_k xT_3 19 rfl rfl
theorem sd_pcheck_0 : decode sb_pcheck 0 = .ok (.iload_n 0, 1) := by decide +kernel
theorem sd_pcheck_1 : decode sb_pcheck 1 = .ok (.ifCond .lt 8, 3) := by decide +kernel
theorem sd_pcheck_4 : decode sb_pcheck 4 = .ok (.iload_n 0, 1) := by decide +kernel
theorem sd_pcheck_5 : decode sb_pcheck 5 = .ok (.iload_n 1, 1) := by decide +kernel
theorem sd_pcheck_6 : decode sb_pcheck 6 = .ok (.if_icmp .lt 10, 3) := by decide +kernel
theorem sd_pcheck_9 : decode sb_pcheck 9 = .ok (.aload_n 2, 1) := by decide +kernel
theorem sd_pcheck_10 : decode sb_pcheck 10 = .ok (.iload_n 0, 1) := by decide +kernel
theorem sd_pcheck_11 : decode sb_pcheck 11 = .ok (.iload_n 1, 1) := by decide +kernel
theorem sd_pcheck_12 : decode sb_pcheck 12 = .ok (.invokestatic 95, 3) := by decide +kernel
theorem sd_pcheck_15 : decode sb_pcheck 15 = .ok (.athrow, 1) := by decide +kernel
theorem sd_pcheck_16 : decode sb_pcheck 16 = .ok (.iload_n 0, 1) := by decide +kernel
theorem sd_pcheck_17 : decode sb_pcheck 17 = .ok (.ireturn, 1) := by decide +kernel
abbrev sb_check : ByteArray := prog_23_method_155_code
def sy_check : MethodName := ⟨"java/lang/String", "checkIndex", "(II)V"⟩
set_option maxRecDepth 20000 in
theorem sc_check : Cond.code sy_check sb_check 2 none ∈ xG := xG_k xT_3 15 rfl rfl
set_option maxRecDepth 20000 in
theorem si_check : Cond.initialized sy_check.cls ∈ xG := xG_k xT_1 14 rfl rfl
set_option maxRecDepth 20000 in
theorem ss_check : Cond.static sy_check ∈ xG := xG_k xT_3 14 rfl rfl
theorem sd_check_0 : decode sb_check 0 = .ok (.iload_n 0, 1) := by decide +kernel
theorem sd_check_1 : decode sb_check 1 = .ok (.iload_n 1, 1) := by decide +kernel
theorem sd_check_2 : decode sb_check 2 = .ok (.getstatic 1053, 3) := by decide +kernel
theorem sd_check_5 : decode sb_check 5 = .ok (.invokestatic 1059, 3) := by decide +kernel
theorem sd_check_8 : decode sb_check 8 = .ok (.pop, 1) := by decide +kernel
theorem sd_check_9 : decode sb_check 9 = .ok (.return_, 1) := by decide +kernel
abbrev sb_l1charAt : ByteArray := prog_24_method_2_code
def sy_l1charAt : MethodName := ⟨"java/lang/StringLatin1", "charAt", "([BI)C"⟩
set_option maxRecDepth 20000 in
theorem sc_l1charAt : Cond.code sy_l1charAt sb_l1charAt 2 (some .char) ∈ xG := xG_k xT_3 12 rfl rfl
set_option maxRecDepth 20000 in
theorem si_l1charAt : Cond.initialized sy_l1charAt.cls ∈ xG := xG_k xT_1 15 rfl rfl
set_option maxRecDepth 20000 in
theorem ss_l1charAt : Cond.static sy_l1charAt ∈ xG := xG_k xT_3 11 rfl rfl
theorem sd_l1charAt_0 : decode sb_l1charAt 0 = .ok (.iload_n 1, 1) := by decide +kernel
theorem sd_l1charAt_1 : decode sb_l1charAt 1 = .ok (.aload_n 0, 1) := by decide +kernel
theorem sd_l1charAt_2 : decode sb_l1charAt 2 = .ok (.arraylength, 1) := by decide +kernel
theorem sd_l1charAt_3 : decode sb_l1charAt 3 = .ok (.invokestatic 9, 3) := by decide +kernel
theorem sd_l1charAt_6 : decode sb_l1charAt 6 = .ok (.aload_n 0, 1) := by decide +kernel
theorem sd_l1charAt_7 : decode sb_l1charAt 7 = .ok (.iload_n 1, 1) := by decide +kernel
theorem sd_l1charAt_8 : decode sb_l1charAt 8 = .ok (.baload, 1) := by decide +kernel
theorem sd_l1charAt_9 : decode sb_l1charAt 9 = .ok (.sipush 255, 3) := by decide +kernel
theorem sd_l1charAt_12 : decode sb_l1charAt 12 = .ok (.iand, 1) := by decide +kernel
theorem sd_l1charAt_13 : decode sb_l1charAt 13 = .ok (.i2c, 1) := by decide +kernel
theorem sd_l1charAt_14 : decode sb_l1charAt 14 = .ok (.ireturn, 1) := by decide +kernel
abbrev sb_charAt : ByteArray := prog_23_method_56_code
def sy_charAt : MethodName := ⟨"java/lang/String", "charAt", "(I)C"⟩
set_option maxRecDepth 20000 in
theorem sc_charAt : Cond.code sy_charAt sb_charAt 2 (some .char) ∈ xG := xG_k xT_3 5 rfl rfl
set_option maxRecDepth 20000 in
theorem si_charAt : Cond.initialized sy_charAt.cls ∈ xG := xG_k xT_1 14 rfl rfl
set_option maxRecDepth 20000 in
theorem sm_charAt : Cond.instanceMethod sy_charAt ∈ xG := xG_k xT_3 3 rfl rfl
set_option maxRecDepth 20000 in
theorem se_charAt : Cond.selects sy_charAt.cls sy_charAt sy_charAt ∈ xG := xG_k xT_3 4 rfl rfl
theorem sd_charAt_0 : decode sb_charAt 0 = .ok (.aload_n 0, 1) := by decide +kernel
theorem sd_charAt_1 : decode sb_charAt 1 = .ok (.invokevirtual 492, 3) := by decide +kernel
theorem sd_charAt_4 : decode sb_charAt 4 = .ok (.ifCond .eq 12, 3) := by decide +kernel
theorem sd_charAt_7 : decode sb_charAt 7 = .ok (.aload_n 0, 1) := by decide +kernel
theorem sd_charAt_8 : decode sb_charAt 8 = .ok (.getfield 9, 3) := by decide +kernel
theorem sd_charAt_11 : decode sb_charAt 11 = .ok (.iload_n 1, 1) := by decide +kernel
theorem sd_charAt_12 : decode sb_charAt 12 = .ok (.invokestatic 495, 3) := by decide +kernel
theorem sd_charAt_15 : decode sb_charAt 15 = .ok (.ireturn, 1) := by decide +kernel
theorem sd_charAt_16 : decode sb_charAt 16 = .ok (.aload_n 0, 1) := by decide +kernel
theorem sd_charAt_17 : decode sb_charAt 17 = .ok (.getfield 9, 3) := by decide +kernel
theorem sd_charAt_20 : decode sb_charAt 20 = .ok (.iload_n 1, 1) := by decide +kernel
theorem sd_charAt_21 : decode sb_charAt 21 = .ok (.invokestatic 498, 3) := by decide +kernel
theorem sd_charAt_24 : decode sb_charAt 24 = .ok (.ireturn, 1) := by decide +kernel
abbrev sb_idxChar : ByteArray := prog_24_method_23_code
def sy_idxChar : MethodName := ⟨"java/lang/StringLatin1", "indexOfChar", "([BIII)I"⟩
set_option maxRecDepth 20000 in
theorem sc_idxChar : Cond.code sy_idxChar sb_idxChar 6 (some .int) ∈ xG := xG_k xT_3 67 rfl rfl
set_option maxRecDepth 20000 in
theorem si_idxChar : Cond.initialized sy_idxChar.cls ∈ xG := xG_k xT_1 15 rfl rfl
set_option maxRecDepth 20000 in
theorem ss_idxChar : Cond.static sy_idxChar ∈ xG := xG_k xT_3 66 rfl rfl
theorem sd_idxChar_0 : decode sb_idxChar 0 = .ok (.iload_n 1, 1) := by decide +kernel
theorem sd_idxChar_1 : decode sb_idxChar 1 = .ok (.i2b, 1) := by decide +kernel
theorem sd_idxChar_2 : decode sb_idxChar 2 = .ok (.istore 4, 2) := by decide +kernel
theorem sd_idxChar_4 : decode sb_idxChar 4 = .ok (.iload_n 2, 1) := by decide +kernel
theorem sd_idxChar_5 : decode sb_idxChar 5 = .ok (.istore 5, 2) := by decide +kernel
theorem sd_idxChar_7 : decode sb_idxChar 7 = .ok (.iload 5, 2) := by decide +kernel
theorem sd_idxChar_9 : decode sb_idxChar 9 = .ok (.iload_n 3, 1) := by decide +kernel
theorem sd_idxChar_10 : decode sb_idxChar 10 = .ok (.if_icmp .ge 21, 3) := by decide +kernel
theorem sd_idxChar_13 : decode sb_idxChar 13 = .ok (.aload_n 0, 1) := by decide +kernel
theorem sd_idxChar_14 : decode sb_idxChar 14 = .ok (.iload 5, 2) := by decide +kernel
theorem sd_idxChar_16 : decode sb_idxChar 16 = .ok (.baload, 1) := by decide +kernel
theorem sd_idxChar_17 : decode sb_idxChar 17 = .ok (.iload 4, 2) := by decide +kernel
theorem sd_idxChar_19 : decode sb_idxChar 19 = .ok (.if_icmp .ne 6, 3) := by decide +kernel
theorem sd_idxChar_22 : decode sb_idxChar 22 = .ok (.iload 5, 2) := by decide +kernel
theorem sd_idxChar_24 : decode sb_idxChar 24 = .ok (.ireturn, 1) := by decide +kernel
theorem sd_idxChar_25 : decode sb_idxChar 25 = .ok (.iinc 5 1, 3) := by decide +kernel
theorem sd_idxChar_28 : decode sb_idxChar 28 = .ok (.goto (-21), 3) := by decide +kernel
theorem sd_idxChar_31 : decode sb_idxChar 31 = .ok (.iconst (-1), 1) := by decide +kernel
theorem sd_idxChar_32 : decode sb_idxChar 32 = .ok (.ireturn, 1) := by decide +kernel
abbrev sb_l1indexOf : ByteArray := prog_24_method_22_code
def sy_l1indexOf : MethodName := ⟨"java/lang/StringLatin1", "indexOf", "([BIII)I"⟩
set_option maxRecDepth 20000 in
theorem sc_l1indexOf : Cond.code sy_l1indexOf sb_l1indexOf 4 (some .int) ∈ xG := xG_k xT_3 55 rfl rfl
set_option maxRecDepth 20000 in
theorem si_l1indexOf : Cond.initialized sy_l1indexOf.cls ∈ xG := xG_k xT_1 15 rfl rfl
set_option maxRecDepth 20000 in
theorem ss_l1indexOf : Cond.static sy_l1indexOf ∈ xG := xG_k xT_3 54 rfl rfl
theorem sd_l1indexOf_0 : decode sb_l1indexOf 0 = .ok (.iload_n 1, 1) := by decide +kernel
theorem sd_l1indexOf_1 : decode sb_l1indexOf 1 = .ok (.invokestatic 88, 3) := by decide +kernel
theorem sd_l1indexOf_4 : decode sb_l1indexOf 4 = .ok (.ifCond .ne 5, 3) := by decide +kernel
theorem sd_l1indexOf_7 : decode sb_l1indexOf 7 = .ok (.iconst (-1), 1) := by decide +kernel
theorem sd_l1indexOf_8 : decode sb_l1indexOf 8 = .ok (.ireturn, 1) := by decide +kernel
theorem sd_l1indexOf_9 : decode sb_l1indexOf 9 = .ok (.iload_n 2, 1) := by decide +kernel
theorem sd_l1indexOf_10 : decode sb_l1indexOf 10 = .ok (.iconst 0, 1) := by decide +kernel
theorem sd_l1indexOf_11 : decode sb_l1indexOf 11 = .ok (.invokestatic 92, 3) := by decide +kernel
theorem sd_l1indexOf_14 : decode sb_l1indexOf 14 = .ok (.istore_n 2, 1) := by decide +kernel
theorem sd_l1indexOf_15 : decode sb_l1indexOf 15 = .ok (.iload_n 3, 1) := by decide +kernel
theorem sd_l1indexOf_16 : decode sb_l1indexOf 16 = .ok (.aload_n 0, 1) := by decide +kernel
theorem sd_l1indexOf_17 : decode sb_l1indexOf 17 = .ok (.arraylength, 1) := by decide +kernel
theorem sd_l1indexOf_18 : decode sb_l1indexOf 18 = .ok (.invokestatic 38, 3) := by decide +kernel
theorem sd_l1indexOf_21 : decode sb_l1indexOf 21 = .ok (.istore_n 3, 1) := by decide +kernel
theorem sd_l1indexOf_22 : decode sb_l1indexOf 22 = .ok (.iload_n 2, 1) := by decide +kernel
theorem sd_l1indexOf_23 : decode sb_l1indexOf 23 = .ok (.iload_n 3, 1) := by decide +kernel
theorem sd_l1indexOf_24 : decode sb_l1indexOf 24 = .ok (.if_icmp .lt 5, 3) := by decide +kernel
theorem sd_l1indexOf_27 : decode sb_l1indexOf 27 = .ok (.iconst (-1), 1) := by decide +kernel
theorem sd_l1indexOf_28 : decode sb_l1indexOf 28 = .ok (.ireturn, 1) := by decide +kernel
theorem sd_l1indexOf_29 : decode sb_l1indexOf 29 = .ok (.aload_n 0, 1) := by decide +kernel
theorem sd_l1indexOf_30 : decode sb_l1indexOf 30 = .ok (.iload_n 1, 1) := by decide +kernel
theorem sd_l1indexOf_31 : decode sb_l1indexOf 31 = .ok (.iload_n 2, 1) := by decide +kernel
theorem sd_l1indexOf_32 : decode sb_l1indexOf 32 = .ok (.iload_n 3, 1) := by decide +kernel
theorem sd_l1indexOf_33 : decode sb_l1indexOf 33 = .ok (.invokestatic 95, 3) := by decide +kernel
theorem sd_l1indexOf_36 : decode sb_l1indexOf 36 = .ok (.ireturn, 1) := by decide +kernel
abbrev sb_indexOf2 : ByteArray := prog_23_method_80_code
def sy_indexOf2 : MethodName := ⟨"java/lang/String", "indexOf", "(II)I"⟩
set_option maxRecDepth 20000 in
theorem sc_indexOf2 : Cond.code sy_indexOf2 sb_indexOf2 3 (some .int) ∈ xG := xG_k xT_3 51 rfl rfl
set_option maxRecDepth 20000 in
theorem si_indexOf2 : Cond.initialized sy_indexOf2.cls ∈ xG := xG_k xT_1 14 rfl rfl
set_option maxRecDepth 20000 in
theorem sm_indexOf2 : Cond.instanceMethod sy_indexOf2 ∈ xG := xG_k xT_3 49 rfl rfl
set_option maxRecDepth 20000 in
theorem se_indexOf2 : Cond.selects sy_indexOf2.cls sy_indexOf2 sy_indexOf2 ∈ xG := xG_k xT_3 50 rfl rfl
theorem sd_indexOf2_0 : decode sb_indexOf2 0 = .ok (.aload_n 0, 1) := by decide +kernel
theorem sd_indexOf2_1 : decode sb_indexOf2 1 = .ok (.invokevirtual 492, 3) := by decide +kernel
theorem sd_indexOf2_4 : decode sb_indexOf2 4 = .ok (.ifCond .eq 19, 3) := by decide +kernel
theorem sd_indexOf2_7 : decode sb_indexOf2 7 = .ok (.aload_n 0, 1) := by decide +kernel
theorem sd_indexOf2_8 : decode sb_indexOf2 8 = .ok (.getfield 9, 3) := by decide +kernel
theorem sd_indexOf2_11 : decode sb_indexOf2 11 = .ok (.iload_n 1, 1) := by decide +kernel
theorem sd_indexOf2_12 : decode sb_indexOf2 12 = .ok (.iload_n 2, 1) := by decide +kernel
theorem sd_indexOf2_13 : decode sb_indexOf2 13 = .ok (.aload_n 0, 1) := by decide +kernel
theorem sd_indexOf2_14 : decode sb_indexOf2 14 = .ok (.invokevirtual 505, 3) := by decide +kernel
theorem sd_indexOf2_17 : decode sb_indexOf2 17 = .ok (.invokestatic 637, 3) := by decide +kernel
theorem sd_indexOf2_20 : decode sb_indexOf2 20 = .ok (.goto 16, 3) := by decide +kernel
theorem sd_indexOf2_23 : decode sb_indexOf2 23 = .ok (.aload_n 0, 1) := by decide +kernel
theorem sd_indexOf2_24 : decode sb_indexOf2 24 = .ok (.getfield 9, 3) := by decide +kernel
theorem sd_indexOf2_27 : decode sb_indexOf2 27 = .ok (.iload_n 1, 1) := by decide +kernel
theorem sd_indexOf2_28 : decode sb_indexOf2 28 = .ok (.iload_n 2, 1) := by decide +kernel
theorem sd_indexOf2_29 : decode sb_indexOf2 29 = .ok (.aload_n 0, 1) := by decide +kernel
theorem sd_indexOf2_30 : decode sb_indexOf2 30 = .ok (.invokevirtual 505, 3) := by decide +kernel
theorem sd_indexOf2_33 : decode sb_indexOf2 33 = .ok (.invokestatic 640, 3) := by decide +kernel
theorem sd_indexOf2_36 : decode sb_indexOf2 36 = .ok (.ireturn, 1) := by decide +kernel
abbrev sb_indexOf : ByteArray := prog_23_method_79_code
def sy_indexOf : MethodName := ⟨"java/lang/String", "indexOf", "(I)I"⟩
set_option maxRecDepth 20000 in
theorem sc_indexOf : Cond.code sy_indexOf sb_indexOf 2 (some .int) ∈ xG := xG_k xT_3 47 rfl rfl
set_option maxRecDepth 20000 in
theorem si_indexOf : Cond.initialized sy_indexOf.cls ∈ xG := xG_k xT_1 14 rfl rfl
set_option maxRecDepth 20000 in
theorem sm_indexOf : Cond.instanceMethod sy_indexOf ∈ xG := xG_k xT_3 45 rfl rfl
set_option maxRecDepth 20000 in
theorem se_indexOf : Cond.selects sy_indexOf.cls sy_indexOf sy_indexOf ∈ xG := xG_k xT_3 46 rfl rfl
theorem sd_indexOf_0 : decode sb_indexOf 0 = .ok (.aload_n 0, 1) := by decide +kernel
theorem sd_indexOf_1 : decode sb_indexOf 1 = .ok (.iload_n 1, 1) := by decide +kernel
theorem sd_indexOf_2 : decode sb_indexOf 2 = .ok (.iconst 0, 1) := by decide +kernel
theorem sd_indexOf_3 : decode sb_indexOf 3 = .ok (.invokevirtual 633, 3) := by decide +kernel
theorem sd_indexOf_6 : decode sb_indexOf 6 = .ok (.ireturn, 1) := by decide +kernel
set_option maxRecDepth 20000 in
theorem sl_coder : Cond.methodLink "java/lang/String" 335 sy_coder ∈ xG := xG_k xT_2 236 rfl rfl
set_option maxRecDepth 20000 in
theorem sl_isLatin1 : Cond.methodLink "java/lang/String" 492 sy_isLatin1 ∈ xG := xG_k xT_3 6 rfl rfl
set_option maxRecDepth 20000 in
theorem sl_length : Cond.methodLink "java/lang/String" 505 sy_length ∈ xG := xG_k xT_3 52 rfl rfl
set_option maxRecDepth 20000 in
theorem sl_l1charAt : Cond.methodLink "java/lang/String" 495 sy_l1charAt ∈ xG := xG_k xT_3 10 rfl rfl
set_option maxRecDepth 20000 in
theorem sl_indexOf2 : Cond.methodLink "java/lang/String" 633 sy_indexOf2 ∈ xG := xG_k xT_3 48 rfl rfl
set_option maxRecDepth 20000 in
theorem sl_l1indexOf : Cond.methodLink "java/lang/String" 637 sy_l1indexOf ∈ xG := xG_k xT_3 53 rfl rfl
set_option maxRecDepth 20000 in
theorem sl_pcheck : Cond.methodLink "java/lang/String" 1059 sy_pcheck ∈ xG := xG_k xT_3 18 rfl rfl
set_option maxRecDepth 20000 in
theorem sl_check : Cond.methodLink "java/lang/StringLatin1" 9 sy_check ∈ xG := xG_k xT_3 13 rfl rfl
set_option maxRecDepth 20000 in
theorem sl_canEncode : Cond.methodLink "java/lang/StringLatin1" 88 sy_canEncode ∈ xG := xG_k xT_3 56 rfl rfl
set_option maxRecDepth 20000 in
theorem sl_idxChar : Cond.methodLink "java/lang/StringLatin1" 95 sy_idxChar ∈ xG := xG_k xT_3 65 rfl rfl
set_option maxRecDepth 20000 in
theorem sf_cs : Cond.fieldLink "java/lang/String" 38 "java/lang/String" "COMPACT_STRINGS" "Z" ∈ xG := xG_k xT_3 0 rfl rfl
set_option maxRecDepth 20000 in
theorem sf_co : Cond.fieldLink "java/lang/String" 15 "java/lang/String" "coder" "B" ∈ xG := xG_k xT_9 85 rfl rfl
set_option maxRecDepth 20000 in
theorem sf_va : Cond.fieldLink "java/lang/String" 9 "java/lang/String" "value" "[B" ∈ xG := xG_k xT_9 84 rfl rfl
set_option maxRecDepth 20000 in
theorem sf_fo : Cond.fieldLink "java/lang/String" 1053 "jdk/internal/util/Preconditions" "SIOOBE_FORMATTER" "Ljava/util/function/BiFunction;" ∈ xG := xG_k xT_3 16 rfl rfl
set_option maxRecDepth 20000 in
theorem sx_max : Cond.methodLink "java/lang/StringLatin1" 92 Lib.Math.max.name ∈ xG := xG_k xT_3 59 rfl rfl
set_option maxRecDepth 20000 in
theorem sxs_max : Cond.static Lib.Math.max.name ∈ xG := xG_k xT_3 60 rfl rfl
set_option maxRecDepth 20000 in
theorem sxc_max : Cond.code Lib.Math.max.name Lib.Math.max.code 2 (some .int) ∈ xG := xG_k xT_3 61 rfl rfl
set_option maxRecDepth 20000 in
theorem sx_min : Cond.methodLink "java/lang/StringLatin1" 38 Lib.Math.min.name ∈ xG := xG_k xT_3 62 rfl rfl
set_option maxRecDepth 20000 in
theorem sxs_min : Cond.static Lib.Math.min.name ∈ xG := xG_k xT_3 63 rfl rfl
set_option maxRecDepth 20000 in
theorem sxc_min : Cond.code Lib.Math.min.name Lib.Math.min.code 2 (some .int) ∈ xG := xG_k xT_3 64 rfl rfl
set_option maxRecDepth 20000 in
theorem sx_math : Cond.initialized "java/lang/Math" ∈ xG := xG_k xT_1 18 rfl rfl
def lenS : List Nat := [(xstxt 0).length, (xstxt 1).length]
def bytS : List (List Int32) := [(xstxt 0).map nI, (xstxt 1).map nI]
def vf : Option Nat → Value
  | some a => .ref a
  | none => .null
def FS (A : Nat → Prop) (adK adV : Nat → Nat) (fm : Option Nat) (U : State) (H : Heap) : Prop := vk_S 2 lenS bytS adK adV A U H ∧ va_Z "java/lang/String" "COMPACT_STRINGS" "Z" (.int 1) A U H ∧ va_Z "jdk/internal/util/Preconditions" "SIOOBE_FORMATTER" "Ljava/util/function/BiFunction;" (vf fm) A U H
theorem FS_moved {A : Nat → Prop} {adK adV : Nat → Nat} {fm : Option Nat} {u U : State} {H : Heap} (hvm : u.vm.Alike U.vm) (h : FS A adK adV fm u H) : FS A adK adV fm U H := ⟨vk_S.moved hvm h.1, va_Z.moved hvm h.2.1, va_Z.moved hvm h.2.2⟩
theorem FS_kept {A : Nat → Prop} {adK adV : Nat → Nat} {fm : Option Nat} {U : State} {H H1 : Heap} (h : FS A adK adV fm U H) (hq : ∀ a : Nat, a < H.size → ¬ A a → H1[a]? = H[a]?) : FS A adK adV fm U H1 := ⟨h.1.kept hq, h.2.1.kept hq, h.2.2.kept hq⟩
theorem xst_len : ∀ i, i < 2 → (xstxt i).length < 1000 ∧ lenS.getD i 0 = (xstxt i).length ∧ (∀ c, c ∈ xstxt i → c < 128) := by decide +kernel
theorem xst_byt {i j : Nat} (hi : i < 2) (hj : j < (xstxt i).length) : (bytS.getD i []).getD j 0 = nI ((xstxt i).getD j 0) := by
  have : i = 0 ∨ i = 1 := by omega
  rcases this with rfl | rfl
  · show ((xstxt 0).map nI).getD j 0 = _
    rw [List.getD_eq_getElem?_getD, List.getElem?_map, List.getD_eq_getElem?_getD, List.getElem?_eq_getElem hj]; rfl
  · show ((xstxt 1).map nI).getD j 0 = _
    rw [List.getD_eq_getElem?_getD, List.getElem?_map, List.getD_eq_getElem?_getD, List.getElem?_eq_getElem hj]; rfl
def SPc (A : Nat → Prop) (adK adV : Nat → Nat) (fm : Option Nat) (H0 : Heap) (av : List Value) : Array Value → State → Prop := va_Pc av (fun U => U.heap = H0 ∧ FS A adK adV fm U H0)
def CtI (l : Launch) (A : Nat → Prop) (adK adV : Nat → Nat) (fm : Option Nat) (y : MethodName) (bytes : ByteArray) (maxL : Nat) (ret : Option FieldType) (fr : Nat) (av : List Value) (x : Int32) : Prop :=
  ∀ H0 : Heap, Met l y (Cond.code y bytes maxL ret :: xG) (xrm fr) (SPc A adK adV fm H0 av) (va_Qi (S := Unit) (fun z _ => z = x) (fun _ t => t.heap = H0) A) 0 0 A
def CtV (l : Launch) (A : Nat → Prop) (adK adV : Nat → Nat) (fm : Option Nat) (y : MethodName) (bytes : ByteArray) (maxL : Nat) (ret : Option FieldType) (fr : Nat) (av : List Value) : Prop :=
  ∀ H0 : Heap, Met l y (Cond.code y bytes maxL ret :: xG) (xrm fr) (SPc A adK adV fm H0 av) (va_Qv (S := Unit) (fun _ => True) (fun _ t => t.heap = H0) A) 0 0 A
def SCt (p : Program) (R : Room) (s : State) (m : MethodId) (args : Array Value) (c : Code) (cc : ByteArray) (own : String) (nL : Nat) : Prop :=
  p.tables.exec = Jvm.exec ∧ c.code = cc ∧ c.maxLocals = nL ∧ s.vm.findClass own = some m.cls ∧ (∀ w ∈ xG, w.before args s = true) ∧ 1 ≤ R.frames ∧ 100 ≤ R.locals
/-- a static's, an instance's words -/
def sW (y : MethodName) (bytes : ByteArray) (maxL : Nat) (ret : Option FieldType) (n : Nat) : Prop := Cond.code y bytes maxL ret ∈ xG ∧ Cond.initialized y.cls ∈ xG ∧ (y.cls ≠ "java/lang/invoke/MethodHandle" ∧ y.cls ≠ "java/lang/invoke/VarHandle") ∧ (parseMethodDescriptor y.desc).map (fun d => d.parameters.length) = some n
theorem sblind {A : Nat → Prop} {adK adV : Nat → Nat} {fm : Option Nat} {H0 : Heap} {av : List Value} : FrameBlind (SPc A adK adV fm H0 av) := by
  intro a U g mk h
  obtain ⟨h0, h1, h2⟩ := h
  exact ⟨h0, h1, FS_moved (u := U) (U := U.calling g mk a) (Vm.Alike.refl U.vm) h2⟩
section
variable {p : Program} {l : Launch} {e : Env} {R : Room} {s : State} {m : MethodId} {args : Array Value} {below : List Frame} {meth : Method} {c : Code} {Z : State → Prop} {cc : ByteArray} {own : String} {nL : Nat} {A : Nat → Prop} {adK adV : Nat → Nat} {fm : Option Nat} {locs : List Loc} {cells slots pc : Nat} {ls : Array Slot}
theorem fs_callS (C : SCt p R s m args c cc own nL) (hF : FS A adK adV fm s s.heap) (hls : ls.size = nL) (hS : va_S A s.heap s.heap locs) {yy : MethodName} {bytes : ByteArray} {maxL fr n idx : Nat} {ret : Option FieldType} {av rest : List Value} {x : Int32} (hC : CtI l A adK adV fm yy bytes maxL ret fr av x) (hw : sW yy bytes maxL ret n) (hlink : Cond.methodLink own idx yy ∈ xG) (hstat : Cond.static yy ∈ xG) (hR : fr + 1 ≤ R.frames ∧ 8 + (maxL + 11) + (40 * fr + 100) ≤ R.locals) (hlen : av.length = n) (hsum : (rest.map fun v => v.category).sum ≤ 8) (hdg : decode cc pc = .ok (.invokestatic idx, 3)) (hcap : cells ≤ R.cells ∧ slots ≤ R.slots)
    (kk : ∀ locs1, va_S A s.heap s.heap locs1 → W p l e R s m args below meth c s.heap locs1 cells slots Z (F0 m (pc + 3) ls (.int x :: rest))) : W p l e R s m args below meth c s.heap locs cells slots Z (F0 m pc ls (av.reverse ++ rest)) := by
  obtain ⟨hx, hb, hml, hown, hts, -, -⟩ := C
  have hrun := va_runS (p := p) (e := e) (R := R) (m := m) (below := below) (meth := meth) (H := s.heap) (locs := locs) (cells := cells) (slots := slots) (As := av) (rest := rest) (n := n) (index := idx) (g := F0 m pc ls (av.reverse ++ rest)) ⟨hx, hb, hml, hown, hts⟩ (hC s.heap)
    ⟨callB_of n hts (xG_GoodIn hw.1) rfl rfl rfl (hts _ hw.2.1) (hts _ hlink) ⟨hw.2.2.1.1, hw.2.2.1.2, hw.2.2.2⟩ hR, hts _ hstat⟩
    ⟨sblind, fun U hU hW => ⟨rfl, hU, FS_moved hW.alike hF⟩⟩ rfl hlen hls rfl (lv_room hsum) hdg hcap
  exact va_calli (a := av.toArray) hrun hS (fun _ _ h => h) (fun _ h => h) (fun z u t H1 locs1 ht hvm hw hB hz hk hS1 => by
    have e1 : H1 = s.heap := ht.symm.trans hB
    subst e1
    rw [show z = x from hw]
    exact kk locs1 hS1)
theorem fs_callSV (C : SCt p R s m args c cc own nL) (hF : FS A adK adV fm s s.heap) (hls : ls.size = nL) (hS : va_S A s.heap s.heap locs) {yy : MethodName} {bytes : ByteArray} {maxL fr n idx : Nat} {ret : Option FieldType} {av rest : List Value} (hC : CtV l A adK adV fm yy bytes maxL ret fr av) (hw : sW yy bytes maxL ret n) (hlink : Cond.methodLink own idx yy ∈ xG) (hstat : Cond.static yy ∈ xG) (hR : fr + 1 ≤ R.frames ∧ 8 + (maxL + 11) + (40 * fr + 100) ≤ R.locals) (hlen : av.length = n) (hsum : (rest.map fun v => v.category).sum ≤ 8) (hdg : decode cc pc = .ok (.invokestatic idx, 3)) (hcap : cells ≤ R.cells ∧ slots ≤ R.slots)
    (kk : ∀ locs1, va_S A s.heap s.heap locs1 → W p l e R s m args below meth c s.heap locs1 cells slots Z (F0 m (pc + 3) ls rest)) : W p l e R s m args below meth c s.heap locs cells slots Z (F0 m pc ls (av.reverse ++ rest)) := by
  obtain ⟨hx, hb, hml, hown, hts, -, -⟩ := C
  have hrun := va_runS (p := p) (e := e) (R := R) (m := m) (below := below) (meth := meth) (H := s.heap) (locs := locs) (cells := cells) (slots := slots) (As := av) (rest := rest) (n := n) (index := idx) (g := F0 m pc ls (av.reverse ++ rest)) ⟨hx, hb, hml, hown, hts⟩ (hC s.heap)
    ⟨callB_of n hts (xG_GoodIn hw.1) rfl rfl rfl (hts _ hw.2.1) (hts _ hlink) ⟨hw.2.2.1.1, hw.2.2.1.2, hw.2.2.2⟩ hR, hts _ hstat⟩
    ⟨sblind, fun U hU hW => ⟨rfl, hU, FS_moved hW.alike hF⟩⟩ rfl hlen hls rfl (lv_room hsum) hdg hcap
  exact va_callv (a := av.toArray) hrun hS (fun _ _ h => h) (fun _ h => h) (fun u t H1 locs1 ht hvm hw hB hz hk hS1 => by
    have e1 : H1 = s.heap := ht.symm.trans hB
    subst e1
    exact kk locs1 hS1)
theorem fs_callM (C : SCt p R s m args c cc own nL) (hF : FS A adK adV fm s s.heap) (hls : ls.size = nL) (hS : va_S A s.heap s.heap locs) {yy : MethodName} {bytes : ByteArray} {maxL fr n idx i : Nat} {ret : Option FieldType} {As rest : List Value} {x : Int32} (hi : i < 2) (hcls : yy.cls = "java/lang/String") (hC : CtI l A adK adV fm yy bytes maxL ret fr (.ref (adK i) :: As) x) (hw : sW yy bytes maxL ret n) (hlink : Cond.methodLink own idx yy ∈ xG) (hinst : Cond.instanceMethod yy ∈ xG) (hsel : Cond.selects yy.cls yy yy ∈ xG) (hR : fr + 1 ≤ R.frames ∧ 8 + (maxL + 11) + (40 * fr + 100) ≤ R.locals) (hlen : As.length = n) (hsum : (rest.map fun v => v.category).sum ≤ 8) (hdg : decode cc pc = .ok (.invokevirtual idx, 3)) (hcap : cells ≤ R.cells ∧ slots ≤ R.slots)
    (kk : ∀ locs1, va_S A s.heap s.heap locs1 → W p l e R s m args below meth c s.heap locs1 cells slots Z (F0 m (pc + 3) ls (.int x :: rest))) : W p l e R s m args below meth c s.heap locs cells slots Z (F0 m pc ls (As.reverse ++ .ref (adK i) :: rest)) := by
  obtain ⟨hx, hb, hml, hown, hts, -, -⟩ := C
  have hrecv := vk_recv hF.1 hi hS
  rw [← hcls] at hrecv
  have hrun := va_runV (p := p) (e := e) (R := R) (m := m) (below := below) (meth := meth) (H := s.heap) (locs := locs) (cells := cells) (slots := slots) (As := As) (rest := rest) (b := adK i) (C := yy.cls) (n := n) (index := idx) (g := F0 m pc ls (As.reverse ++ .ref (adK i) :: rest)) ⟨hx, hb, hml, hown, hts⟩ (hC s.heap)
    ⟨callB_of n hts (xG_GoodIn hw.1) rfl rfl rfl (hts _ hw.2.1) (hts _ hlink) ⟨hw.2.2.1.1, hw.2.2.1.2, hw.2.2.2⟩ hR, hts _ hinst, hts _ hsel⟩
    ⟨sblind, hrecv, fun U hU hW => ⟨rfl, hU, FS_moved hW.alike hF⟩⟩ rfl hlen hls rfl (lv_room hsum) hdg hcap
  exact va_calli (a := (.ref (adK i) :: As).toArray) hrun hS (fun _ _ h => h) (fun _ h => h) (fun z u t H1 locs1 ht hvm hw hB hz hk hS1 => by
    have e1 : H1 = s.heap := ht.symm.trans hB
    subst e1
    rw [show z = x from hw]
    exact kk locs1 hS1)
end
theorem sw_coder : sW sy_coder sb_coder 1 (some .byte) 0 := ⟨sc_coder, si_coder, ⟨by decide +kernel, by decide +kernel⟩, by decide +kernel⟩
theorem sw_isLatin1 : sW sy_isLatin1 sb_isLatin1 1 (some .boolean) 0 := ⟨sc_isLatin1, si_isLatin1, ⟨by decide +kernel, by decide +kernel⟩, by decide +kernel⟩
theorem sw_length : sW sy_length sb_length 1 (some .int) 0 := ⟨sc_length, si_length, ⟨by decide +kernel, by decide +kernel⟩, by decide +kernel⟩
theorem sw_canEncode : sW sy_canEncode sb_canEncode 1 (some .boolean) 1 := ⟨sc_canEncode, si_canEncode, ⟨by decide +kernel, by decide +kernel⟩, by decide +kernel⟩
theorem sw_pcheck : sW sy_pcheck sb_pcheck 3 (some .int) 3 := ⟨sc_pcheck, si_pcheck, ⟨by decide +kernel, by decide +kernel⟩, by decide +kernel⟩
theorem sw_check : sW sy_check sb_check 2 none 2 := ⟨sc_check, si_check, ⟨by decide +kernel, by decide +kernel⟩, by decide +kernel⟩
theorem sw_l1charAt : sW sy_l1charAt sb_l1charAt 2 (some .char) 2 := ⟨sc_l1charAt, si_l1charAt, ⟨by decide +kernel, by decide +kernel⟩, by decide +kernel⟩
theorem sw_charAt : sW sy_charAt sb_charAt 2 (some .char) 1 := ⟨sc_charAt, si_charAt, ⟨by decide +kernel, by decide +kernel⟩, by decide +kernel⟩
theorem sw_idxChar : sW sy_idxChar sb_idxChar 6 (some .int) 4 := ⟨sc_idxChar, si_idxChar, ⟨by decide +kernel, by decide +kernel⟩, by decide +kernel⟩
theorem sw_l1indexOf : sW sy_l1indexOf sb_l1indexOf 4 (some .int) 4 := ⟨sc_l1indexOf, si_l1indexOf, ⟨by decide +kernel, by decide +kernel⟩, by decide +kernel⟩
theorem sw_indexOf2 : sW sy_indexOf2 sb_indexOf2 3 (some .int) 2 := ⟨sc_indexOf2, si_indexOf2, ⟨by decide +kernel, by decide +kernel⟩, by decide +kernel⟩
theorem sw_indexOf : sW sy_indexOf sb_indexOf 2 (some .int) 1 := ⟨sc_indexOf, si_indexOf, ⟨by decide +kernel, by decide +kernel⟩, by decide +kernel⟩
section
variable {l : Launch} {A : Nat → Prop} {adK adV : Nat → Nat} {fm : Option Nat}
theorem st_coder {i : Nat} (hi : i < 2) : CtI l A adK adV fm sy_coder sb_coder 1 (some .byte) 1 ([.ref (adK i)]) 0 := by
  intro H0
  refine Met.ofW (cc := sb_coder) (maxL := 1) (ret := (some .byte)) (by decide +kernel) rfl ?_
  intro p e s m args below meth c s₁ B hml hv
  obtain ⟨rfl, rfl, hF⟩ := hv
  have hx := B.exec
  have hb := B.bytes
  have hown : s.vm.findClass sy_coder.cls = some m.cls := findClass_of_methodNamed B.named
  have hts : ∀ w ∈ xG, w.before ([.ref (adK i)] : List Value).toArray s = true := fun w hw => atoms_spec (ws := Cond.code sy_coder sb_coder 1 (some .byte) :: xG) B.pre w (List.mem_cons_of_mem _ hw)
  have C : SCt p (headSpec (Cond.code sy_coder sb_coder 1 (some .byte) :: xG) (xrm 1)).room s m ([.ref (adK i)] : List Value).toArray c sb_coder "java/lang/String" 1 := ⟨hx, hb, hml, hown, hts, by show 1 ≤ 1; omega, by show 100 ≤ 40 * 1 + 100; omega⟩
  have hS : va_S A s.heap s.heap [] := va_S.rf
  rw [lg_entry_eq]
  have hl := lv_entry ([.ref (adK i)]) (n := 1) (by simp [lg_sl, Value.category])
  generalize (lg_sl ([.ref (adK i)]) ++ List.replicate (1 - (lg_sl ([.ref (adK i)])).length) Slot.unset).toArray = ls at hl ⊢
  have hl : lv_has ls 1 [(0, .ref (adK i))] := hl
  refine va_gets hx hb hF.2.1 hS hown (hts _ sf_cs) (fun _ h => h) sd_coder_0 ?_
  refine lv_if_eq hx hb sd_coder_3 (tgt := 13) (by decide) (fun q => absurd q (by decide)) (fun _ => ?_)
  refine lv_aload_n hx hb sd_coder_6 rfl (lv_at hl 0 rfl) ?_
  refine vk_getf hx hb (hF.1.1 i hi).2.1 hS hown (hts _ sf_co) (fun _ h => h) sd_coder_7 ?_
  refine lv_goto hx hb sd_coder_10 (tgt := 14) (by decide) ?_
  exact W.zret (ty := .byte) hx hb (by rw [B.returns]) (by decide +kernel) (fun t ht hW => ⟨⟨0, (), rfl, rfl, ht⟩, hS.F ht⟩) hS.2.2 sd_coder_14 (hlocks := B.notSynchronized)
theorem st_isLatin1 {i : Nat} (hi : i < 2) : CtI l A adK adV fm sy_isLatin1 sb_isLatin1 1 (some .boolean) 1 ([.ref (adK i)]) 1 := by
  intro H0
  refine Met.ofW (cc := sb_isLatin1) (maxL := 1) (ret := (some .boolean)) (by decide +kernel) rfl ?_
  intro p e s m args below meth c s₁ B hml hv
  obtain ⟨rfl, rfl, hF⟩ := hv
  have hx := B.exec
  have hb := B.bytes
  have hown : s.vm.findClass sy_isLatin1.cls = some m.cls := findClass_of_methodNamed B.named
  have hts : ∀ w ∈ xG, w.before ([.ref (adK i)] : List Value).toArray s = true := fun w hw => atoms_spec (ws := Cond.code sy_isLatin1 sb_isLatin1 1 (some .boolean) :: xG) B.pre w (List.mem_cons_of_mem _ hw)
  have C : SCt p (headSpec (Cond.code sy_isLatin1 sb_isLatin1 1 (some .boolean) :: xG) (xrm 1)).room s m ([.ref (adK i)] : List Value).toArray c sb_isLatin1 "java/lang/String" 1 := ⟨hx, hb, hml, hown, hts, by show 1 ≤ 1; omega, by show 100 ≤ 40 * 1 + 100; omega⟩
  have hS : va_S A s.heap s.heap [] := va_S.rf
  rw [lg_entry_eq]
  have hl := lv_entry ([.ref (adK i)]) (n := 1) (by simp [lg_sl, Value.category])
  generalize (lg_sl ([.ref (adK i)]) ++ List.replicate (1 - (lg_sl ([.ref (adK i)])).length) Slot.unset).toArray = ls at hl ⊢
  have hl : lv_has ls 1 [(0, .ref (adK i))] := hl
  refine va_gets hx hb hF.2.1 hS hown (hts _ sf_cs) (fun _ h => h) sd_isLatin1_0 ?_
  refine lv_if_eq hx hb sd_isLatin1_3 (tgt := 17) (by decide) (fun q => absurd q (by decide)) (fun _ => ?_)
  refine lv_aload_n hx hb sd_isLatin1_6 rfl (lv_at hl 0 rfl) ?_
  refine vk_getf hx hb (hF.1.1 i hi).2.1 hS hown (hts _ sf_co) (fun _ h => h) sd_isLatin1_7 ?_
  refine lv_if_ne hx hb sd_isLatin1_10 (tgt := 17) (by decide) (fun q => absurd q (by decide)) (fun _ => ?_)
  refine lv_iconst (v := 1) hx hb sd_isLatin1_13 (by decide) ?_
  refine lv_goto hx hb sd_isLatin1_14 (tgt := 18) (by decide) ?_
  exact W.zret (ty := .boolean) hx hb (by rw [B.returns]) (by decide +kernel) (fun t ht hW => ⟨⟨1, (), rfl, rfl, ht⟩, hS.F ht⟩) hS.2.2 sd_isLatin1_18 (hlocks := B.notSynchronized)
theorem st_length {i : Nat} (hi : i < 2) : CtI l A adK adV fm sy_length sb_length 1 (some .int) 2 ([.ref (adK i)]) (nI (xstxt i).length) := by
  intro H0
  refine Met.ofW (cc := sb_length) (maxL := 1) (ret := (some .int)) (by decide +kernel) rfl ?_
  intro p e s m args below meth c s₁ B hml hv
  obtain ⟨rfl, rfl, hF⟩ := hv
  have hx := B.exec
  have hb := B.bytes
  have hown : s.vm.findClass sy_length.cls = some m.cls := findClass_of_methodNamed B.named
  have hts : ∀ w ∈ xG, w.before ([.ref (adK i)] : List Value).toArray s = true := fun w hw => atoms_spec (ws := Cond.code sy_length sb_length 1 (some .int) :: xG) B.pre w (List.mem_cons_of_mem _ hw)
  have C : SCt p (headSpec (Cond.code sy_length sb_length 1 (some .int) :: xG) (xrm 2)).room s m ([.ref (adK i)] : List Value).toArray c sb_length "java/lang/String" 1 := ⟨hx, hb, hml, hown, hts, by show 1 ≤ 2; omega, by show 100 ≤ 40 * 2 + 100; omega⟩
  have hS : va_S A s.heap s.heap [] := va_S.rf
  rw [lg_entry_eq]
  have hl := lv_entry ([.ref (adK i)]) (n := 1) (by simp [lg_sl, Value.category])
  generalize (lg_sl ([.ref (adK i)]) ++ List.replicate (1 - (lg_sl ([.ref (adK i)])).length) Slot.unset).toArray = ls at hl ⊢
  have hl : lv_has ls 1 [(0, .ref (adK i))] := hl
  refine lv_aload_n hx hb sd_length_0 rfl (lv_at hl 0 rfl) ?_
  refine vk_getf hx hb (hF.1.1 i hi).2.2.1 hS hown (hts _ sf_va) (fun _ h => h) sd_length_1 ?_
  refine va_tlen hx hb (hF.1.1 i hi).2.2.2 hS (v := nI (xstxt i).length) (by rw [(xst_len i hi).2.1]; rfl) sd_length_4 ?_
  refine lv_aload_n hx hb sd_length_5 rfl (lv_at hl 0 rfl) ?_
  refine fs_callM C hF hl.1 hS (As := []) (rest := [.int (nI (xstxt i).length)]) hi rfl (st_coder hi) sw_coder sl_coder sm_coder se_coder ⟨by show 1 + 1 ≤ 2; omega, by show 8 + (1 + 11) + (40 * 1 + 100) ≤ 40 * 2 + 100; omega⟩ rfl (Nat.le_of_ble_eq_true rfl) sd_length_6 ⟨Nat.le_refl _, Nat.le_refl _⟩ (fun locs1 hS => ?_)
  refine lv_ishr hx hb sd_length_9 ?_
  rw [show nI (xstxt i).length >>> ((0 : Int32) &&& 31) = nI (xstxt i).length from by rcases (show i = 0 ∨ i = 1 by omega) with rfl | rfl <;> decide +kernel]
  exact W.iret hx hb (by rw [B.returns]) (fun t ht hW => ⟨⟨nI (xstxt i).length, (), rfl, rfl, ht⟩, hS.F ht⟩) hS.2.2 sd_length_10 (hlocks := B.notSynchronized)
theorem st_canEncode {c0 : Int32} : CtI l A adK adV fm sy_canEncode sb_canEncode 1 (some .boolean) 1 ([.int c0]) (if ¬ c0 < 0 ∧ ¬ (255 : Int32) < c0 then 1 else 0) := by
  intro H0
  refine Met.ofW (cc := sb_canEncode) (maxL := 1) (ret := (some .boolean)) (by decide +kernel) rfl ?_
  intro p e s m args below meth c s₁ B hml hv
  obtain ⟨rfl, rfl, hF⟩ := hv
  have hx := B.exec
  have hb := B.bytes
  have hown : s.vm.findClass sy_canEncode.cls = some m.cls := findClass_of_methodNamed B.named
  have hts : ∀ w ∈ xG, w.before ([.int c0] : List Value).toArray s = true := fun w hw => atoms_spec (ws := Cond.code sy_canEncode sb_canEncode 1 (some .boolean) :: xG) B.pre w (List.mem_cons_of_mem _ hw)
  have C : SCt p (headSpec (Cond.code sy_canEncode sb_canEncode 1 (some .boolean) :: xG) (xrm 1)).room s m ([.int c0] : List Value).toArray c sb_canEncode "java/lang/StringLatin1" 1 := ⟨hx, hb, hml, hown, hts, by show 1 ≤ 1; omega, by show 100 ≤ 40 * 1 + 100; omega⟩
  have hS : va_S A s.heap s.heap [] := va_S.rf
  rw [lg_entry_eq]
  have hl := lv_entry ([.int c0]) (n := 1) (by simp [lg_sl, Value.category])
  generalize (lg_sl ([.int c0]) ++ List.replicate (1 - (lg_sl ([.int c0])).length) Slot.unset).toArray = ls at hl ⊢
  have hl : lv_has ls 1 [(0, .int c0)] := hl
  by_cases h0 : c0 < 0
  · refine lv_iload_n hx hb sd_canEncode_0 rfl (lv_at hl 0 rfl) ?_
    refine lv_if_lt hx hb sd_canEncode_1 (tgt := 15) (by decide) (fun _ => ?_) (fun q => absurd h0 q)
    refine lv_iconst (v := 0) hx hb sd_canEncode_15 (by decide) ?_
    rw [if_neg (fun q => q.1 h0)]
    exact W.zret (ty := .boolean) hx hb (by rw [B.returns]) (by decide +kernel) (fun t ht hW => ⟨⟨0, (), rfl, rfl, ht⟩, hS.F ht⟩) hS.2.2 sd_canEncode_16 (hlocks := B.notSynchronized)
  · refine lv_iload_n hx hb sd_canEncode_0 rfl (lv_at hl 0 rfl) ?_
    refine lv_if_lt hx hb sd_canEncode_1 (tgt := 15) (by decide) (fun q => absurd q h0) (fun _ => ?_)
    refine lv_iload_n hx hb sd_canEncode_4 rfl (lv_at hl 0 rfl) ?_
    refine lv_sipush (v := 255) hx hb sd_canEncode_5 (by decide) ?_
    by_cases h1 : (255 : Int32) < c0
    · refine lv_icmp_gt hx hb sd_canEncode_8 (tgt := 15) (by decide) (fun _ => ?_) (fun q => absurd h1 q)
      refine lv_iconst (v := 0) hx hb sd_canEncode_15 (by decide) ?_
      rw [if_neg (fun q => q.2 h1)]
      exact W.zret (ty := .boolean) hx hb (by rw [B.returns]) (by decide +kernel) (fun t ht hW => ⟨⟨0, (), rfl, rfl, ht⟩, hS.F ht⟩) hS.2.2 sd_canEncode_16 (hlocks := B.notSynchronized)
    · refine lv_icmp_gt hx hb sd_canEncode_8 (tgt := 15) (by decide) (fun q => absurd q h1) (fun _ => ?_)
      refine lv_iconst (v := 1) hx hb sd_canEncode_11 (by decide) ?_
      refine lv_goto hx hb sd_canEncode_12 (tgt := 16) (by decide) ?_
      rw [if_pos ⟨h0, h1⟩]
      exact W.zret (ty := .boolean) hx hb (by rw [B.returns]) (by decide +kernel) (fun t ht hW => ⟨⟨1, (), rfl, rfl, ht⟩, hS.F ht⟩) hS.2.2 sd_canEncode_16 (hlocks := B.notSynchronized)
theorem nI_255 : ∀ x, x < 128 → nI x &&& 255 = nI x ∧ ((nI x).toUInt32 % 65536).toInt32 = nI x ∧ narrow .char (.int (nI x)) = .int (nI x) := by decide +kernel
theorem nI_b8 : ∀ n, n < 256 → (nI n).toInt8.toInt32 = (if n < 128 then nI n else nI n - 256) ∧ (128 ≤ n → nI n - 256 < 0) := by decide +kernel
theorem nI_b8eq {n x : Nat} (hn : n < 256) (hx : x < 128) : (nI x = (nI n).toInt8.toInt32) ↔ nI n = nI x := by
  obtain ⟨h1, h2⟩ := nI_b8 n hn
  rw [h1]
  by_cases h : n < 128
  · rw [if_pos h]; exact ⟨fun e => e.symm, fun e => e.symm⟩
  · rw [if_neg h]
    refine ⟨fun e => ?_, fun e => ?_⟩
    · have := h2 (by omega)
      rw [← e] at this
      exact absurd this (nI_pos (by omega))
    · have := (nI_eq (show n < 2 ^ 31 by omega) (show x < 2 ^ 31 by omega)).mp e
      omega
theorem xidx_out {c : Int32} (h : c < 0 ∨ (255 : Int32) < c) : ∀ (l : List Nat) (k : Nat), (∀ x, x ∈ l → x < 128) → xidx c k l = -1 := by
  intro l
  induction l with
  | nil => intro k _; rfl
  | cons x l ih =>
    intro k hl
    have hx := hl x List.mem_cons_self
    rw [xidx, if_neg (fun e => ?_)]
    · exact ih (k + 1) (fun y hy => hl y (List.mem_cons_of_mem _ hy))
    · rw [e] at h
      rcases h with h | h
      · exact absurd h (nI_pos (by omega))
      · exact absurd h (nI_nlt (a := 255) (b := x) (by omega) (by omega))
theorem st_pcheckR {a9 j N : Nat} (hj : j < N) (hN : N < 2 ^ 31) : CtI l A adK adV fm sy_pcheck sb_pcheck 3 (some .int) 1 ([.int (nI j), .int (nI N), .ref a9]) (nI j) := by
  intro H0
  refine Met.ofW (cc := sb_pcheck) (maxL := 3) (ret := (some .int)) (by decide +kernel) rfl ?_
  intro p e s m args below meth c s₁ B hml hv
  obtain ⟨rfl, rfl, hF⟩ := hv
  have hx := B.exec
  have hb := B.bytes
  have hown : s.vm.findClass sy_pcheck.cls = some m.cls := findClass_of_methodNamed B.named
  have hts : ∀ w ∈ xG, w.before ([.int (nI j), .int (nI N), .ref a9] : List Value).toArray s = true := fun w hw => atoms_spec (ws := Cond.code sy_pcheck sb_pcheck 3 (some .int) :: xG) B.pre w (List.mem_cons_of_mem _ hw)
  have C : SCt p (headSpec (Cond.code sy_pcheck sb_pcheck 3 (some .int) :: xG) (xrm 1)).room s m ([.int (nI j), .int (nI N), .ref a9] : List Value).toArray c sb_pcheck "jdk/internal/util/Preconditions" 3 := ⟨hx, hb, hml, hown, hts, by show 1 ≤ 1; omega, by show 100 ≤ 40 * 1 + 100; omega⟩
  have hS : va_S A s.heap s.heap [] := va_S.rf
  rw [lg_entry_eq]
  have hl := lv_entry ([.int (nI j), .int (nI N), .ref a9]) (n := 3) (by simp [lg_sl, Value.category])
  generalize (lg_sl ([.int (nI j), .int (nI N), .ref a9]) ++ List.replicate (3 - (lg_sl ([.int (nI j), .int (nI N), .ref a9])).length) Slot.unset).toArray = ls at hl ⊢
  have hl : lv_has ls 3 [(0, .int (nI j)), (1, .int (nI N)), (2, .ref a9)] := hl
  refine lv_iload_n hx hb sd_pcheck_0 rfl (lv_at hl 0 rfl) ?_
  refine lv_if_lt hx hb sd_pcheck_1 (tgt := 9) (by decide) (fun q => absurd q (nI_pos (by omega))) (fun _ => ?_)
  refine lv_iload_n hx hb sd_pcheck_4 rfl (lv_at hl 0 rfl) ?_
  refine lv_iload_n hx hb sd_pcheck_5 rfl (lv_at hl 1 rfl) ?_
  refine lv_icmp_lt hx hb sd_pcheck_6 (tgt := 16) (by decide) (fun _ => ?_) (fun q => absurd (nI_lt hj hN) q)
  refine lv_iload_n hx hb sd_pcheck_16 rfl (lv_at hl 0 rfl) ?_
  exact W.iret hx hb (by rw [B.returns]) (fun t ht hW => ⟨⟨nI j, (), rfl, rfl, ht⟩, hS.F ht⟩) hS.2.2 sd_pcheck_17 (hlocks := B.notSynchronized)
theorem st_pcheckN {j N : Nat} (hj : j < N) (hN : N < 2 ^ 31) : CtI l A adK adV fm sy_pcheck sb_pcheck 3 (some .int) 1 ([.int (nI j), .int (nI N), .null]) (nI j) := by
  intro H0
  refine Met.ofW (cc := sb_pcheck) (maxL := 3) (ret := (some .int)) (by decide +kernel) rfl ?_
  intro p e s m args below meth c s₁ B hml hv
  obtain ⟨rfl, rfl, hF⟩ := hv
  have hx := B.exec
  have hb := B.bytes
  have hown : s.vm.findClass sy_pcheck.cls = some m.cls := findClass_of_methodNamed B.named
  have hts : ∀ w ∈ xG, w.before ([.int (nI j), .int (nI N), .null] : List Value).toArray s = true := fun w hw => atoms_spec (ws := Cond.code sy_pcheck sb_pcheck 3 (some .int) :: xG) B.pre w (List.mem_cons_of_mem _ hw)
  have C : SCt p (headSpec (Cond.code sy_pcheck sb_pcheck 3 (some .int) :: xG) (xrm 1)).room s m ([.int (nI j), .int (nI N), .null] : List Value).toArray c sb_pcheck "jdk/internal/util/Preconditions" 3 := ⟨hx, hb, hml, hown, hts, by show 1 ≤ 1; omega, by show 100 ≤ 40 * 1 + 100; omega⟩
  have hS : va_S A s.heap s.heap [] := va_S.rf
  rw [lg_entry_eq]
  have hl := lv_entry ([.int (nI j), .int (nI N), .null]) (n := 3) (by simp [lg_sl, Value.category])
  generalize (lg_sl ([.int (nI j), .int (nI N), .null]) ++ List.replicate (3 - (lg_sl ([.int (nI j), .int (nI N), .null])).length) Slot.unset).toArray = ls at hl ⊢
  have hl : lv_has ls 3 [(0, .int (nI j)), (1, .int (nI N)), (2, .null)] := hl
  refine lv_iload_n hx hb sd_pcheck_0 rfl (lv_at hl 0 rfl) ?_
  refine lv_if_lt hx hb sd_pcheck_1 (tgt := 9) (by decide) (fun q => absurd q (nI_pos (by omega))) (fun _ => ?_)
  refine lv_iload_n hx hb sd_pcheck_4 rfl (lv_at hl 0 rfl) ?_
  refine lv_iload_n hx hb sd_pcheck_5 rfl (lv_at hl 1 rfl) ?_
  refine lv_icmp_lt hx hb sd_pcheck_6 (tgt := 16) (by decide) (fun _ => ?_) (fun q => absurd (nI_lt hj hN) q)
  refine lv_iload_n hx hb sd_pcheck_16 rfl (lv_at hl 0 rfl) ?_
  exact W.iret hx hb (by rw [B.returns]) (fun t ht hW => ⟨⟨nI j, (), rfl, rfl, ht⟩, hS.F ht⟩) hS.2.2 sd_pcheck_17 (hlocks := B.notSynchronized)
theorem st_pcheck {j N : Nat} (hj : j < N) (hN : N < 2 ^ 31) : CtI l A adK adV fm sy_pcheck sb_pcheck 3 (some .int) 1 ([.int (nI j), .int (nI N), vf fm]) (nI j) := by
  cases fm with
  | none => exact st_pcheckN hj hN
  | some a => exact st_pcheckR hj hN
theorem st_check {j N : Nat} (hj : j < N) (hN : N < 2 ^ 31) : CtV l A adK adV fm sy_check sb_check 2 none 2 ([.int (nI j), .int (nI N)]) := by
  intro H0
  refine Met.ofW (cc := sb_check) (maxL := 2) (ret := none) (by decide +kernel) rfl ?_
  intro p e s m args below meth c s₁ B hml hv
  obtain ⟨rfl, rfl, hF⟩ := hv
  have hx := B.exec
  have hb := B.bytes
  have hown : s.vm.findClass sy_check.cls = some m.cls := findClass_of_methodNamed B.named
  have hts : ∀ w ∈ xG, w.before ([.int (nI j), .int (nI N)] : List Value).toArray s = true := fun w hw => atoms_spec (ws := Cond.code sy_check sb_check 2 none :: xG) B.pre w (List.mem_cons_of_mem _ hw)
  have C : SCt p (headSpec (Cond.code sy_check sb_check 2 none :: xG) (xrm 2)).room s m ([.int (nI j), .int (nI N)] : List Value).toArray c sb_check "java/lang/String" 2 := ⟨hx, hb, hml, hown, hts, by show 1 ≤ 2; omega, by show 100 ≤ 40 * 2 + 100; omega⟩
  have hS : va_S A s.heap s.heap [] := va_S.rf
  rw [lg_entry_eq]
  have hl := lv_entry ([.int (nI j), .int (nI N)]) (n := 2) (by simp [lg_sl, Value.category])
  generalize (lg_sl ([.int (nI j), .int (nI N)]) ++ List.replicate (2 - (lg_sl ([.int (nI j), .int (nI N)])).length) Slot.unset).toArray = ls at hl ⊢
  have hl : lv_has ls 2 [(0, .int (nI j)), (1, .int (nI N))] := hl
  refine lv_iload_n hx hb sd_check_0 rfl (lv_at hl 0 rfl) ?_
  refine lv_iload_n hx hb sd_check_1 rfl (lv_at hl 1 rfl) ?_
  refine va_gets hx hb hF.2.2 hS hown (hts _ sf_fo) (fun _ h => h) sd_check_2 ?_
  refine fs_callS C hF hl.1 hS (av := [.int (nI j), .int (nI N), vf fm]) (rest := []) (st_pcheck hj hN) sw_pcheck sl_pcheck ss_pcheck ⟨by show 1 + 1 ≤ 2; omega, by show 8 + (3 + 11) + (40 * 1 + 100) ≤ 40 * 2 + 100; omega⟩ rfl (Nat.le_of_ble_eq_true rfl) sd_check_5 ⟨Nat.le_refl _, Nat.le_refl _⟩ (fun locs1 hS => ?_)
  refine lv_pop hx hb sd_check_8 rfl ?_
  exact W.vret hx hb (by rw [B.returns]) (fun t ht hW => ⟨⟨(), rfl, trivial, ht⟩, hS.F ht⟩) hS.2.2 sd_check_9 (hlocks := B.notSynchronized)
theorem st_l1charAt {i j : Nat} (hi : i < 2) (hj : j < (xstxt i).length) : CtI l A adK adV fm sy_l1charAt sb_l1charAt 2 (some .char) 3 ([.ref (adV i), .int (nI j)]) (nI ((xstxt i).getD j 0)) := by
  intro H0
  refine Met.ofW (cc := sb_l1charAt) (maxL := 2) (ret := (some .char)) (by decide +kernel) rfl ?_
  intro p e s m args below meth c s₁ B hml hv
  obtain ⟨rfl, rfl, hF⟩ := hv
  have hx := B.exec
  have hb := B.bytes
  have hown : s.vm.findClass sy_l1charAt.cls = some m.cls := findClass_of_methodNamed B.named
  have hts : ∀ w ∈ xG, w.before ([.ref (adV i), .int (nI j)] : List Value).toArray s = true := fun w hw => atoms_spec (ws := Cond.code sy_l1charAt sb_l1charAt 2 (some .char) :: xG) B.pre w (List.mem_cons_of_mem _ hw)
  have C : SCt p (headSpec (Cond.code sy_l1charAt sb_l1charAt 2 (some .char) :: xG) (xrm 3)).room s m ([.ref (adV i), .int (nI j)] : List Value).toArray c sb_l1charAt "java/lang/StringLatin1" 2 := ⟨hx, hb, hml, hown, hts, by show 1 ≤ 3; omega, by show 100 ≤ 40 * 3 + 100; omega⟩
  have hS : va_S A s.heap s.heap [] := va_S.rf
  rw [lg_entry_eq]
  have hl := lv_entry ([.ref (adV i), .int (nI j)]) (n := 2) (by simp [lg_sl, Value.category])
  generalize (lg_sl ([.ref (adV i), .int (nI j)]) ++ List.replicate (2 - (lg_sl ([.ref (adV i), .int (nI j)])).length) Slot.unset).toArray = ls at hl ⊢
  have hl : lv_has ls 2 [(0, .ref (adV i)), (1, .int (nI j))] := hl
  obtain ⟨g1, g2, g3⟩ := xst_len i hi
  have hch : (xstxt i).getD j 0 < 128 := by
    rw [List.getD_eq_getElem?_getD, List.getElem?_eq_getElem hj]; exact g3 _ (List.getElem_mem hj)
  obtain ⟨u1, u2, u3⟩ := nI_255 _ hch
  refine lv_iload_n hx hb sd_l1charAt_0 rfl (lv_at hl 1 rfl) ?_
  refine lv_aload_n hx hb sd_l1charAt_1 rfl (lv_at hl 0 rfl) ?_
  refine va_tlen hx hb (hF.1.1 i hi).2.2.2 hS (v := nI (xstxt i).length) (by rw [g2]; rfl) sd_l1charAt_2 ?_
  refine fs_callSV C hF hl.1 hS (av := [.int (nI j), .int (nI (xstxt i).length)]) (rest := []) (st_check hj (by omega)) sw_check sl_check ss_check ⟨by show 2 + 1 ≤ 3; omega, by show 8 + (2 + 11) + (40 * 2 + 100) ≤ 40 * 3 + 100; omega⟩ rfl (Nat.le_of_ble_eq_true rfl) sd_l1charAt_3 ⟨Nat.le_refl _, Nat.le_refl _⟩ (fun locs1 hS => ?_)
  refine lv_aload_n hx hb sd_l1charAt_6 rfl (lv_at hl 0 rfl) ?_
  refine lv_iload_n hx hb sd_l1charAt_7 rfl (lv_at hl 1 rfl) ?_
  refine va_tb hx hb (hF.1.1 i hi).2.2.2 hS (i := nI j) (v := .int (nI ((xstxt i).getD j 0))) (xin_vp (by rw [g2]; exact xin_t (by omega) hj)) (by rw [nI_clamp (by omega)]; exact congrArg Value.int (xst_byt hi hj)) sd_l1charAt_8 ?_
  refine lv_sipush (v := 255) hx hb sd_l1charAt_9 (by decide) ?_
  refine lv_iand hx hb sd_l1charAt_12 ?_
  rw [u1]
  refine lv_i2c (v := nI ((xstxt i).getD j 0)) hx hb sd_l1charAt_13 u2 ?_
  exact W.zret (ty := .char) hx hb (by rw [B.returns]) u3 (fun t ht hW => ⟨⟨nI ((xstxt i).getD j 0), (), rfl, rfl, ht⟩, hS.F ht⟩) hS.2.2 sd_l1charAt_14 (hlocks := B.notSynchronized)
theorem st_idxChar {i n : Nat} (hi : i < 2) (hn : n < 256) : CtI l A adK adV fm sy_idxChar sb_idxChar 6 (some .int) 1 ([.ref (adV i), .int (nI n), .int 0, .int (nI (xstxt i).length)]) (xidx (nI n) 0 (xstxt i)) := by
  intro H0
  refine Met.ofW (cc := sb_idxChar) (maxL := 6) (ret := (some .int)) (by decide +kernel) rfl ?_
  intro p e s m args below meth c s₁ B hml hv
  obtain ⟨rfl, rfl, hF⟩ := hv
  have hx := B.exec
  have hb := B.bytes
  have hown : s.vm.findClass sy_idxChar.cls = some m.cls := findClass_of_methodNamed B.named
  have hts : ∀ w ∈ xG, w.before ([.ref (adV i), .int (nI n), .int 0, .int (nI (xstxt i).length)] : List Value).toArray s = true := fun w hw => atoms_spec (ws := Cond.code sy_idxChar sb_idxChar 6 (some .int) :: xG) B.pre w (List.mem_cons_of_mem _ hw)
  have C : SCt p (headSpec (Cond.code sy_idxChar sb_idxChar 6 (some .int) :: xG) (xrm 1)).room s m ([.ref (adV i), .int (nI n), .int 0, .int (nI (xstxt i).length)] : List Value).toArray c sb_idxChar "java/lang/StringLatin1" 6 := ⟨hx, hb, hml, hown, hts, by show 1 ≤ 1; omega, by show 100 ≤ 40 * 1 + 100; omega⟩
  have hS : va_S A s.heap s.heap [] := va_S.rf
  rw [lg_entry_eq]
  have hl := lv_entry ([.ref (adV i), .int (nI n), .int 0, .int (nI (xstxt i).length)]) (n := 6) (by simp [lg_sl, Value.category])
  generalize (lg_sl ([.ref (adV i), .int (nI n), .int 0, .int (nI (xstxt i).length)]) ++ List.replicate (6 - (lg_sl ([.ref (adV i), .int (nI n), .int 0, .int (nI (xstxt i).length)])).length) Slot.unset).toArray = ls at hl ⊢
  have hl : lv_has ls 6 [(0, .ref (adV i)), (1, .int (nI n)), (2, .int 0), (3, .int (nI (xstxt i).length))] := hl
  obtain ⟨g1, g2, g3⟩ := xst_len i hi
  refine lv_iload_n hx hb sd_idxChar_0 rfl (lv_at hl 1 rfl) ?_
  refine lv_i2b (v := (nI n).toInt8.toInt32) hx hb sd_idxChar_1 rfl ?_
  refine lv_istore (lv' := [(4, .int ((nI n).toInt8.toInt32)), (0, .ref (adV i)), (1, .int (nI n)), (2, .int 0), (3, .int (nI (xstxt i).length))]) hx hb sd_idxChar_2 hl (by decide) rfl (fun ls hl => ?_)
  refine lv_iload_n hx hb sd_idxChar_4 rfl (lv_at hl 3 rfl) ?_
  refine lv_istore (lv' := [(5, .int 0), (4, .int ((nI n).toInt8.toInt32)), (0, .ref (adV i)), (1, .int (nI n)), (2, .int 0), (3, .int (nI (xstxt i).length))]) hx hb sd_idxChar_5 hl (by decide) rfl (fun ls hl => ?_)
  have loop : ∀ d k, k + d = (xstxt i).length → xidx (nI n) k ((xstxt i).drop k) = xidx (nI n) 0 (xstxt i) → ∀ ls, lv_has ls 6 [(5, .int (nI k)), (4, .int ((nI n).toInt8.toInt32)), (0, .ref (adV i)), (1, .int (nI n)), (2, .int 0), (3, .int (nI (xstxt i).length))] → W p l e (headSpec (Cond.code sy_idxChar sb_idxChar 6 (some .int) :: xG) (xrm 1)).room s m ([.ref (adV i), .int (nI n), .int 0, .int (nI (xstxt i).length)] : List Value).toArray below meth c s.heap [] 0 0 (MQ below (va_Qi (S := Unit) (fun z _ => z = xidx (nI n) 0 (xstxt i)) (fun _ t => t.heap = s.heap) A) ([.ref (adV i), .int (nI n), .int 0, .int (nI (xstxt i).length)] : List Value).toArray s 0 0 A) (F0 m 7 ls []) := by
    intro d
    induction d with
    | zero =>
      intro k hk hx0 ls hl
      refine lv_iload hx hb sd_idxChar_7 (lv_at hl 0 rfl) ?_
      refine lv_iload_n hx hb sd_idxChar_9 rfl (lv_at hl 5 rfl) ?_
      refine lv_icmp_ge hx hb sd_idxChar_10 (tgt := 31) (by decide) (fun _ => ?_) (fun q => absurd (nI_le (by omega) (by omega)) q)
      refine lv_iconst (v := -1) hx hb sd_idxChar_31 (by decide) ?_
      have e1 : (-1 : Int32) = xidx (nI n) 0 (xstxt i) := by
        rw [← hx0, List.drop_eq_nil_iff.mpr (by omega)]; rfl
      rw [e1]
      exact W.iret hx hb (by rw [B.returns]) (fun t ht hW => ⟨⟨_, (), rfl, rfl, ht⟩, hS.F ht⟩) hS.2.2 sd_idxChar_32 (hlocks := B.notSynchronized)
    | succ d ih =>
      intro k hk hx0 ls hl
      have hkl : k < (xstxt i).length := by omega
      have hch : (xstxt i).getD k 0 < 128 := by
        rw [List.getD_eq_getElem?_getD, List.getElem?_eq_getElem hkl]; exact g3 _ (List.getElem_mem hkl)
      have hdr : (xstxt i).drop k = (xstxt i).getD k 0 :: (xstxt i).drop (k + 1) := by
        rw [List.drop_eq_getElem_cons hkl, List.getD_eq_getElem?_getD, List.getElem?_eq_getElem hkl]; rfl
      rw [hdr, xidx] at hx0
      refine lv_iload hx hb sd_idxChar_7 (lv_at hl 0 rfl) ?_
      refine lv_iload_n hx hb sd_idxChar_9 rfl (lv_at hl 5 rfl) ?_
      refine lv_icmp_ge hx hb sd_idxChar_10 (tgt := 31) (by decide) (fun q => absurd (nI_lt hkl (by omega)) (Int32.not_lt.mpr q)) (fun _ => ?_)
      refine lv_aload_n hx hb sd_idxChar_13 rfl (lv_at hl 2 rfl) ?_
      refine lv_iload hx hb sd_idxChar_14 (lv_at hl 0 rfl) ?_
      refine va_tb hx hb (hF.1.1 i hi).2.2.2 hS (i := nI k) (v := .int (nI ((xstxt i).getD k 0))) (xin_vp (by rw [g2]; exact xin_t (by omega) hkl)) (by rw [nI_clamp (by omega)]; exact congrArg Value.int (xst_byt hi hkl)) sd_idxChar_16 ?_
      refine lv_iload hx hb sd_idxChar_17 (lv_at hl 1 rfl) ?_
      refine lv_icmp_ne hx hb sd_idxChar_19 (tgt := 25) (by decide) (fun q => ?_) (fun q => ?_)
      · rw [if_neg (fun z => q ((nI_b8eq hn hch).mpr z))] at hx0
        refine lv_iinc (lv' := [(5, .int (nI (k + 1))), (4, .int ((nI n).toInt8.toInt32)), (0, .ref (adV i)), (1, .int (nI n)), (2, .int 0), (3, .int (nI (xstxt i).length))]) (v := nI (k + 1)) hx hb sd_idxChar_25 hl (k := 0) rfl (by rw [nI_succ]; rfl) (by decide) rfl (fun ls hl => ?_)
        refine lv_goto hx hb sd_idxChar_28 (tgt := 7) (by decide) ?_
        exact ih (k + 1) (by omega) hx0 ls hl
      · rw [if_pos ((nI_b8eq hn hch).mp q)] at hx0
        refine lv_iload hx hb sd_idxChar_22 (lv_at hl 0 rfl) ?_
        rw [hx0]
        exact W.iret hx hb (by rw [B.returns]) (fun t ht hW => ⟨⟨_, (), rfl, rfl, ht⟩, hS.F ht⟩) hS.2.2 sd_idxChar_24 (hlocks := B.notSynchronized)
  exact loop (xstxt i).length 0 (by omega) rfl ls hl
theorem st_l1indexOf {i : Nat} {c0 : Int32} (hi : i < 2) : CtI l A adK adV fm sy_l1indexOf sb_l1indexOf 4 (some .int) 2 ([.ref (adV i), .int c0, .int 0, .int (nI (xstxt i).length)]) (xidx c0 0 (xstxt i)) := by
  intro H0
  refine Met.ofW (cc := sb_l1indexOf) (maxL := 4) (ret := (some .int)) (by decide +kernel) rfl ?_
  intro p e s m args below meth c s₁ B hml hv
  obtain ⟨rfl, rfl, hF⟩ := hv
  have hx := B.exec
  have hb := B.bytes
  have hown : s.vm.findClass sy_l1indexOf.cls = some m.cls := findClass_of_methodNamed B.named
  have hts : ∀ w ∈ xG, w.before ([.ref (adV i), .int c0, .int 0, .int (nI (xstxt i).length)] : List Value).toArray s = true := fun w hw => atoms_spec (ws := Cond.code sy_l1indexOf sb_l1indexOf 4 (some .int) :: xG) B.pre w (List.mem_cons_of_mem _ hw)
  have C : SCt p (headSpec (Cond.code sy_l1indexOf sb_l1indexOf 4 (some .int) :: xG) (xrm 2)).room s m ([.ref (adV i), .int c0, .int 0, .int (nI (xstxt i).length)] : List Value).toArray c sb_l1indexOf "java/lang/StringLatin1" 4 := ⟨hx, hb, hml, hown, hts, by show 1 ≤ 2; omega, by show 100 ≤ 40 * 2 + 100; omega⟩
  have hS : va_S A s.heap s.heap [] := va_S.rf
  rw [lg_entry_eq]
  have hl := lv_entry ([.ref (adV i), .int c0, .int 0, .int (nI (xstxt i).length)]) (n := 4) (by simp [lg_sl, Value.category])
  generalize (lg_sl ([.ref (adV i), .int c0, .int 0, .int (nI (xstxt i).length)]) ++ List.replicate (4 - (lg_sl ([.ref (adV i), .int c0, .int 0, .int (nI (xstxt i).length)])).length) Slot.unset).toArray = ls at hl ⊢
  have hl : lv_has ls 4 [(0, .ref (adV i)), (1, .int c0), (2, .int 0), (3, .int (nI (xstxt i).length))] := hl
  obtain ⟨g1, g2, g3⟩ := xst_len i hi
  have g0 : 0 < (xstxt i).length := by rcases (show i = 0 ∨ i = 1 by omega) with rfl | rfl <;> decide +kernel
  refine lv_iload_n hx hb sd_l1indexOf_0 rfl (lv_at hl 1 rfl) ?_
  refine fs_callS C hF hl.1 hS (av := [.int c0]) (rest := []) st_canEncode sw_canEncode sl_canEncode ss_canEncode ⟨by show 1 + 1 ≤ 2; omega, by show 8 + (1 + 11) + (40 * 1 + 100) ≤ 40 * 2 + 100; omega⟩ rfl (Nat.le_of_ble_eq_true rfl) sd_l1indexOf_1 ⟨Nat.le_refl _, Nat.le_refl _⟩ (fun locs1 hS => ?_)
  by_cases hc : ¬ c0 < 0 ∧ ¬ (255 : Int32) < c0
  · rw [if_pos hc]
    refine lv_if_ne hx hb sd_l1indexOf_4 (tgt := 9) (by decide) (fun _ => ?_) (fun q => absurd q (by decide))
    obtain ⟨n, hn, rfl⟩ := nI_of hc.1
    have h256 : n < 256 := by
      rcases Nat.lt_or_ge n 256 with q | q
      · exact q
      · exact absurd (nI_lt (a := 255) (b := n) (by omega) hn) hc.2
    refine lv_iload_n hx hb sd_l1indexOf_9 rfl (lv_at hl 2 rfl) ?_
    refine lv_iconst (v := 0) hx hb sd_l1indexOf_10 (by decide) ?_
    refine va_mmax hx hb (by rw [C.2.2.1, hl.1]) hown (hts _ sx_max) (hts _ sxs_max) (hts _ sx_math) (hts _ sxc_max) (by show 1 ≤ 2; omega) (by show 0 + 13 ≤ 40 * 2 + 100; omega) (Nat.le_refl _) (Nat.le_refl _) sd_l1indexOf_11 ?_
    rw [if_neg (show ¬ (0 : Int32) < 0 by decide)]
    refine lv_istore_n (lv' := [(2, .int 0), (0, .ref (adV i)), (1, .int (nI n)), (3, .int (nI (xstxt i).length))]) hx hb sd_l1indexOf_14 rfl hl (by decide) rfl (fun ls hl => ?_)
    refine lv_iload_n hx hb sd_l1indexOf_15 rfl (lv_at hl 3 rfl) ?_
    refine lv_aload_n hx hb sd_l1indexOf_16 rfl (lv_at hl 1 rfl) ?_
    refine va_tlen hx hb (hF.1.1 i hi).2.2.2 hS (v := nI (xstxt i).length) (by rw [g2]; rfl) sd_l1indexOf_17 ?_
    refine va_mmin hx hb (by rw [C.2.2.1, hl.1]) hown (hts _ sx_min) (hts _ sxs_min) (hts _ sx_math) (hts _ sxc_min) (by show 1 ≤ 2; omega) (by show 0 + 13 ≤ 40 * 2 + 100; omega) (Nat.le_refl _) (Nat.le_refl _) sd_l1indexOf_18 ?_
    rw [if_neg (Int32.lt_irrefl)]
    refine lv_istore_n (lv' := [(3, .int (nI (xstxt i).length)), (2, .int 0), (0, .ref (adV i)), (1, .int (nI n))]) hx hb sd_l1indexOf_21 rfl hl (by decide) rfl (fun ls hl => ?_)
    refine lv_iload_n hx hb sd_l1indexOf_22 rfl (lv_at hl 1 rfl) ?_
    refine lv_iload_n hx hb sd_l1indexOf_23 rfl (lv_at hl 0 rfl) ?_
    refine lv_icmp_lt hx hb sd_l1indexOf_24 (tgt := 29) (by decide) (fun _ => ?_) (fun q => absurd (nI_lt (a := 0) g0 (by omega)) q)
    refine lv_aload_n hx hb sd_l1indexOf_29 rfl (lv_at hl 2 rfl) ?_
    refine lv_iload_n hx hb sd_l1indexOf_30 rfl (lv_at hl 3 rfl) ?_
    refine lv_iload_n hx hb sd_l1indexOf_31 rfl (lv_at hl 1 rfl) ?_
    refine lv_iload_n hx hb sd_l1indexOf_32 rfl (lv_at hl 0 rfl) ?_
    refine fs_callS C hF hl.1 hS (av := [.ref (adV i), .int (nI n), .int 0, .int (nI (xstxt i).length)]) (rest := []) (st_idxChar hi h256) sw_idxChar sl_idxChar ss_idxChar ⟨by show 1 + 1 ≤ 2; omega, by show 8 + (6 + 11) + (40 * 1 + 100) ≤ 40 * 2 + 100; omega⟩ rfl (Nat.le_of_ble_eq_true rfl) sd_l1indexOf_33 ⟨Nat.le_refl _, Nat.le_refl _⟩ (fun locs1 hS => ?_)
    exact W.iret hx hb (by rw [B.returns]) (fun t ht hW => ⟨⟨_, (), rfl, rfl, ht⟩, hS.F ht⟩) hS.2.2 sd_l1indexOf_36 (hlocks := B.notSynchronized)
  · rw [if_neg hc]
    refine lv_if_ne hx hb sd_l1indexOf_4 (tgt := 9) (by decide) (fun q => absurd rfl q) (fun _ => ?_)
    refine lv_iconst (v := -1) hx hb sd_l1indexOf_7 (by decide) ?_
    have e1 : (-1 : Int32) = xidx c0 0 (xstxt i) := by
      refine (xidx_out ?_ (xstxt i) 0 g3).symm
      by_cases h0 : c0 < 0
      · exact .inl h0
      · exact .inr (Classical.byContradiction fun z => hc ⟨h0, z⟩)
    rw [e1]
    exact W.iret hx hb (by rw [B.returns]) (fun t ht hW => ⟨⟨_, (), rfl, rfl, ht⟩, hS.F ht⟩) hS.2.2 sd_l1indexOf_8 (hlocks := B.notSynchronized)
theorem st_indexOf2 {i : Nat} {c0 : Int32} (hi : i < 2) : CtI l A adK adV fm sy_indexOf2 sb_indexOf2 3 (some .int) 3 ([.ref (adK i), .int c0, .int 0]) (xidx c0 0 (xstxt i)) := by
  intro H0
  refine Met.ofW (cc := sb_indexOf2) (maxL := 3) (ret := (some .int)) (by decide +kernel) rfl ?_
  intro p e s m args below meth c s₁ B hml hv
  obtain ⟨rfl, rfl, hF⟩ := hv
  have hx := B.exec
  have hb := B.bytes
  have hown : s.vm.findClass sy_indexOf2.cls = some m.cls := findClass_of_methodNamed B.named
  have hts : ∀ w ∈ xG, w.before ([.ref (adK i), .int c0, .int 0] : List Value).toArray s = true := fun w hw => atoms_spec (ws := Cond.code sy_indexOf2 sb_indexOf2 3 (some .int) :: xG) B.pre w (List.mem_cons_of_mem _ hw)
  have C : SCt p (headSpec (Cond.code sy_indexOf2 sb_indexOf2 3 (some .int) :: xG) (xrm 3)).room s m ([.ref (adK i), .int c0, .int 0] : List Value).toArray c sb_indexOf2 "java/lang/String" 3 := ⟨hx, hb, hml, hown, hts, by show 1 ≤ 3; omega, by show 100 ≤ 40 * 3 + 100; omega⟩
  have hS : va_S A s.heap s.heap [] := va_S.rf
  rw [lg_entry_eq]
  have hl := lv_entry ([.ref (adK i), .int c0, .int 0]) (n := 3) (by simp [lg_sl, Value.category])
  generalize (lg_sl ([.ref (adK i), .int c0, .int 0]) ++ List.replicate (3 - (lg_sl ([.ref (adK i), .int c0, .int 0])).length) Slot.unset).toArray = ls at hl ⊢
  have hl : lv_has ls 3 [(0, .ref (adK i)), (1, .int c0), (2, .int 0)] := hl
  refine lv_aload_n hx hb sd_indexOf2_0 rfl (lv_at hl 0 rfl) ?_
  refine fs_callM C hF hl.1 hS (As := []) (rest := []) hi rfl (st_isLatin1 hi) sw_isLatin1 sl_isLatin1 sm_isLatin1 se_isLatin1 ⟨by show 1 + 1 ≤ 3; omega, by show 8 + (1 + 11) + (40 * 1 + 100) ≤ 40 * 3 + 100; omega⟩ rfl (Nat.le_of_ble_eq_true rfl) sd_indexOf2_1 ⟨Nat.le_refl _, Nat.le_refl _⟩ (fun locs1 hS => ?_)
  refine lv_if_eq hx hb sd_indexOf2_4 (tgt := 23) (by decide) (fun q => absurd q (by decide)) (fun _ => ?_)
  refine lv_aload_n hx hb sd_indexOf2_7 rfl (lv_at hl 0 rfl) ?_
  refine vk_getf hx hb (hF.1.1 i hi).2.2.1 hS hown (hts _ sf_va) (fun _ h => h) sd_indexOf2_8 ?_
  refine lv_iload_n hx hb sd_indexOf2_11 rfl (lv_at hl 1 rfl) ?_
  refine lv_iload_n hx hb sd_indexOf2_12 rfl (lv_at hl 2 rfl) ?_
  refine lv_aload_n hx hb sd_indexOf2_13 rfl (lv_at hl 0 rfl) ?_
  refine fs_callM C hF hl.1 hS (As := []) (rest := [.int 0, .int c0, .ref (adV i)]) hi rfl (st_length hi) sw_length sl_length sm_length se_length ⟨by show 2 + 1 ≤ 3; omega, by show 8 + (1 + 11) + (40 * 2 + 100) ≤ 40 * 3 + 100; omega⟩ rfl (Nat.le_of_ble_eq_true rfl) sd_indexOf2_14 ⟨Nat.le_refl _, Nat.le_refl _⟩ (fun locs2 hS => ?_)
  refine fs_callS C hF hl.1 hS (av := [.ref (adV i), .int c0, .int 0, .int (nI (xstxt i).length)]) (rest := []) (st_l1indexOf hi) sw_l1indexOf sl_l1indexOf ss_l1indexOf ⟨by show 2 + 1 ≤ 3; omega, by show 8 + (4 + 11) + (40 * 2 + 100) ≤ 40 * 3 + 100; omega⟩ rfl (Nat.le_of_ble_eq_true rfl) sd_indexOf2_17 ⟨Nat.le_refl _, Nat.le_refl _⟩ (fun locs3 hS => ?_)
  refine lv_goto hx hb sd_indexOf2_20 (tgt := 36) (by decide) ?_
  exact W.iret hx hb (by rw [B.returns]) (fun t ht hW => ⟨⟨_, (), rfl, rfl, ht⟩, hS.F ht⟩) hS.2.2 sd_indexOf2_36 (hlocks := B.notSynchronized)
def SX (X : XP) (adK adV : Nat → Nat) (fm : Option Nat) : Prop := (∀ U H, xC X U H → FS (xA X) adK adV fm U H) ∧ (∀ i, i < 2 → xad X (15, i, 0) = adK i) ∧ (∀ (u U : State) (H : Heap), (u.WarmedH U.vm ∨ U.vm = u.vm) → xC X u H → xC X U H)
theorem xok15 {i : Nat} (h : xok (xr 15 i 0)) : i < 2 := by
  have h' : (15, i, 0) ∈ xdom ∨ (15, i, 0) = ((13, 0, 1) : XQ) ∨ (15 = 15 ∧ i < 2 ∧ 0 = 0) := h
  rcases h' with h' | h' | h'
  · have h0 : xdom.all (fun q => decide (q.1 < 15)) = true := by decide +kernel
    have := of_decide_eq_true (List.all_eq_true.mp h0 _ h')
    omega
  · simp at h'
  · exact h'.2.1
theorem cX_length {X : XP} {adK adV : Nat → Nat} {fm : Option Nat} (hX : SX X adK adV fm) (l : Launch) : Ctr X l ⟨"java/lang/String", "length", "()I"⟩ prog_23_method_54_code 1 (some .int) { frames := 8, cells := 0, slots := 0, locals := 420 } 0 0 FS_length := by
  intro av μ r μ' hok h
  obtain ⟨i, hi, rfl, rfl, rfl⟩ : ∃ i, i < 2 ∧ av = [xr 15 i 0] ∧ r = some (xi (nI (xstxt i).length)) ∧ μ' = μ := by
    unfold FS_length at h
    split at h
    · rename_i t i
      replace h := cond_inv h
      obtain ⟨h1, h⟩ := h
      have e1 := Nat.eq_of_beq_eq_true h1
      subst e1
      cases h
      exact ⟨i, xok15 (hok _ List.mem_cons_self), rfl, rfl, rfl⟩
    · cases h
  refine Met.ofW (cc := sb_length) (maxL := 1) (ret := (some .int)) (by decide +kernel) rfl ?_
  intro p e s m args below meth c s₁ B hml hv
  obtain ⟨rfl, hP, hK, hC, hscr⟩ := hv
  have hF := hX.1 s s.heap hC
  have hXW : ∀ t : State, t.heap = s.heap → s.WarmedH t.vm → XW X μ' t := fun t ht hW => ⟨by rw [ht]; exact hP, va_K.moved hW.alike hK, by rw [ht]; exact hX.2.2 s t s.heap (.inl hW) hC, hscr⟩
  have hx := B.exec
  have hb := B.bytes
  have hown : s.vm.findClass sy_length.cls = some m.cls := findClass_of_methodNamed B.named
  have hts : ∀ w ∈ xG, w.before (([xr 15 i 0] : List XV).map (xc X)).toArray s = true := fun w hw => atoms_spec (ws := Cond.code sy_length sb_length 1 (some .int) :: xG) B.pre w (List.mem_cons_of_mem _ hw)
  have C : SCt p (headSpec (Cond.code sy_length sb_length 1 (some .int) :: xG) { frames := 8, cells := 0, slots := 0, locals := 420 }).room s m (([xr 15 i 0] : List XV).map (xc X)).toArray c sb_length "java/lang/String" 1 := ⟨hx, hb, hml, hown, hts, by show 1 ≤ 8; omega, by show 100 ≤ 420; omega⟩
  have hS : va_S (xA X) s.heap s.heap [] := va_S.rf
  rw [lg_entry_eq]
  have hl := lv_entry (([xr 15 i 0] : List XV).map (xc X)) (n := 1) (by show _ ≤ _; exact Nat.le_of_ble_eq_true rfl)
  generalize (lg_sl (([xr 15 i 0] : List XV).map (xc X)) ++ List.replicate (1 - (lg_sl (([xr 15 i 0] : List XV).map (xc X))).length) Slot.unset).toArray = ls at hl ⊢
  have hl : lv_has ls 1 [(0, .ref (xad X (15, i, 0)))] := hl
  rw [hX.2.1 i hi] at hl
  refine lv_aload_n hx hb sd_length_0 rfl (lv_at hl 0 rfl) ?_
  refine vk_getf hx hb (hF.1.1 i hi).2.2.1 hS hown (hts _ sf_va) (fun _ h => h) sd_length_1 ?_
  refine va_tlen hx hb (hF.1.1 i hi).2.2.2 hS (v := nI (xstxt i).length) (by rw [(xst_len i hi).2.1]; rfl) sd_length_4 ?_
  refine lv_aload_n hx hb sd_length_5 rfl (lv_at hl 0 rfl) ?_
  refine fs_callM C hF hl.1 hS (As := []) (rest := [.int (nI (xstxt i).length)]) hi rfl (st_coder hi) sw_coder sl_coder sm_coder se_coder ⟨by show 1 + 1 ≤ 8; omega, by show 8 + (1 + 11) + (40 * 1 + 100) ≤ 40 * 8 + 100; omega⟩ rfl (Nat.le_of_ble_eq_true rfl) sd_length_6 ⟨Nat.le_refl _, Nat.le_refl _⟩ (fun locs1 hS => ?_)
  refine lv_ishr hx hb sd_length_9 ?_
  rw [show nI (xstxt i).length >>> ((0 : Int32) &&& 31) = nI (xstxt i).length from by rcases (show i = 0 ∨ i = 1 by omega) with rfl | rfl <;> decide +kernel]
  exact W.iret hx hb (by rw [B.returns]) (fun t ht hW => ⟨⟨_, (), rfl, rfl, hXW t ht hW⟩, hS.F ht⟩) hS.2.2 sd_length_10 (hlocks := B.notSynchronized)
theorem cX_charAt {X : XP} {adK adV : Nat → Nat} {fm : Option Nat} (hX : SX X adK adV fm) (l : Launch) : Ctr X l ⟨"java/lang/String", "charAt", "(I)C"⟩ prog_23_method_56_code 2 (some .char) { frames := 8, cells := 0, slots := 0, locals := 420 } 0 0 FS_charAt := by
  intro av μ r μ' hok h
  obtain ⟨i, j, hi, hj, rfl, rfl, rfl⟩ : ∃ i j, i < 2 ∧ j < (xstxt i).length ∧ av = [xr 15 i 0, xi (nI j)] ∧ r = some (xi (nI ((xstxt i).getD j 0))) ∧ μ' = μ := by
    unfold FS_charAt at h
    split at h
    · rename_i t i k
      replace h := cond_inv h
      obtain ⟨h1, h⟩ := h
      have e1 := Nat.eq_of_beq_eq_true h1
      subst e1
      have hi := xok15 (hok _ List.mem_cons_self)
      unfold fS_charAt at h
      obtain ⟨h2, h⟩ := xck_inv h
      unfold xin at h2
      rw [Bool.and_eq_true] at h2
      have h3 : ¬ k < 0 := by simpa using h2.1
      have h4 := of_decide_eq_true h2.2
      obtain ⟨n, hn, rfl⟩ := nI_of h3
      rw [nI_clamp hn] at h4 h
      cases h
      exact ⟨i, n, hi, h4, rfl, rfl, rfl⟩
    · cases h
  refine Met.ofW (cc := sb_charAt) (maxL := 2) (ret := (some .char)) (by decide +kernel) rfl ?_
  intro p e s m args below meth c s₁ B hml hv
  obtain ⟨rfl, hP, hK, hC, hscr⟩ := hv
  have hF := hX.1 s s.heap hC
  have hXW : ∀ t : State, t.heap = s.heap → s.WarmedH t.vm → XW X μ' t := fun t ht hW => ⟨by rw [ht]; exact hP, va_K.moved hW.alike hK, by rw [ht]; exact hX.2.2 s t s.heap (.inl hW) hC, hscr⟩
  have hx := B.exec
  have hb := B.bytes
  have hown : s.vm.findClass sy_charAt.cls = some m.cls := findClass_of_methodNamed B.named
  have hts : ∀ w ∈ xG, w.before (([xr 15 i 0, xi (nI j)] : List XV).map (xc X)).toArray s = true := fun w hw => atoms_spec (ws := Cond.code sy_charAt sb_charAt 2 (some .char) :: xG) B.pre w (List.mem_cons_of_mem _ hw)
  have C : SCt p (headSpec (Cond.code sy_charAt sb_charAt 2 (some .char) :: xG) { frames := 8, cells := 0, slots := 0, locals := 420 }).room s m (([xr 15 i 0, xi (nI j)] : List XV).map (xc X)).toArray c sb_charAt "java/lang/String" 2 := ⟨hx, hb, hml, hown, hts, by show 1 ≤ 8; omega, by show 100 ≤ 420; omega⟩
  have hS : va_S (xA X) s.heap s.heap [] := va_S.rf
  rw [lg_entry_eq]
  have hl := lv_entry (([xr 15 i 0, xi (nI j)] : List XV).map (xc X)) (n := 2) (by show _ ≤ _; exact Nat.le_of_ble_eq_true rfl)
  generalize (lg_sl (([xr 15 i 0, xi (nI j)] : List XV).map (xc X)) ++ List.replicate (2 - (lg_sl (([xr 15 i 0, xi (nI j)] : List XV).map (xc X))).length) Slot.unset).toArray = ls at hl ⊢
  have hl : lv_has ls 2 [(0, .ref (xad X (15, i, 0))), (1, .int (nI j))] := hl
  rw [hX.2.1 i hi] at hl
  obtain ⟨g1, g2, g3⟩ := xst_len i hi
  have hch : (xstxt i).getD j 0 < 128 := by
    rw [List.getD_eq_getElem?_getD, List.getElem?_eq_getElem hj]; exact g3 _ (List.getElem_mem hj)
  obtain ⟨u1, u2, u3⟩ := nI_255 _ hch
  refine lv_aload_n hx hb sd_charAt_0 rfl (lv_at hl 0 rfl) ?_
  refine fs_callM C hF hl.1 hS (As := []) (rest := []) hi rfl (st_isLatin1 hi) sw_isLatin1 sl_isLatin1 sm_isLatin1 se_isLatin1 ⟨by show 1 + 1 ≤ 8; omega, by show 8 + (1 + 11) + (40 * 1 + 100) ≤ 420; omega⟩ rfl (Nat.le_of_ble_eq_true rfl) sd_charAt_1 ⟨Nat.le_refl _, Nat.le_refl _⟩ (fun locs1 hS => ?_)
  refine lv_if_eq hx hb sd_charAt_4 (tgt := 16) (by decide) (fun q => absurd q (by decide)) (fun _ => ?_)
  refine lv_aload_n hx hb sd_charAt_7 rfl (lv_at hl 0 rfl) ?_
  refine vk_getf hx hb (hF.1.1 i hi).2.2.1 hS hown (hts _ sf_va) (fun _ h => h) sd_charAt_8 ?_
  refine lv_iload_n hx hb sd_charAt_11 rfl (lv_at hl 1 rfl) ?_
  refine fs_callS C hF hl.1 hS (av := [.ref (adV i), .int (nI j)]) (rest := []) (st_l1charAt hi hj) sw_l1charAt sl_l1charAt ss_l1charAt ⟨by show 3 + 1 ≤ 8; omega, by show 8 + (2 + 11) + (40 * 3 + 100) ≤ 420; omega⟩ rfl (Nat.le_of_ble_eq_true rfl) sd_charAt_12 ⟨Nat.le_refl _, Nat.le_refl _⟩ (fun locs3 hS => ?_)
  exact W.zret (ty := .char) hx hb (by rw [B.returns]) u3 (fun t ht hW => ⟨⟨_, (), rfl, rfl, hXW t ht hW⟩, hS.F ht⟩) hS.2.2 sd_charAt_15 (hlocks := B.notSynchronized)
theorem cX_indexOf {X : XP} {adK adV : Nat → Nat} {fm : Option Nat} (hX : SX X adK adV fm) (l : Launch) : Ctr X l ⟨"java/lang/String", "indexOf", "(I)I"⟩ prog_23_method_79_code 2 (some .int) { frames := 8, cells := 0, slots := 0, locals := 420 } 0 0 FS_indexOf := by
  intro av μ r μ' hok h
  obtain ⟨i, c0, hi, rfl, rfl, rfl⟩ : ∃ i c0, i < 2 ∧ av = [xr 15 i 0, xi c0] ∧ r = some (xi (xidx c0 0 (xstxt i))) ∧ μ' = μ := by
    unfold FS_indexOf at h
    split at h
    · rename_i t i k
      replace h := cond_inv h
      obtain ⟨h1, h⟩ := h
      have e1 := Nat.eq_of_beq_eq_true h1
      subst e1
      cases h
      exact ⟨i, k, xok15 (hok _ List.mem_cons_self), rfl, rfl, rfl⟩
    · cases h
  refine Met.ofW (cc := sb_indexOf) (maxL := 2) (ret := (some .int)) (by decide +kernel) rfl ?_
  intro p e s m args below meth c s₁ B hml hv
  obtain ⟨rfl, hP, hK, hC, hscr⟩ := hv
  have hF := hX.1 s s.heap hC
  have hXW : ∀ t : State, t.heap = s.heap → s.WarmedH t.vm → XW X μ' t := fun t ht hW => ⟨by rw [ht]; exact hP, va_K.moved hW.alike hK, by rw [ht]; exact hX.2.2 s t s.heap (.inl hW) hC, hscr⟩
  have hx := B.exec
  have hb := B.bytes
  have hown : s.vm.findClass sy_indexOf.cls = some m.cls := findClass_of_methodNamed B.named
  have hts : ∀ w ∈ xG, w.before (([xr 15 i 0, xi c0] : List XV).map (xc X)).toArray s = true := fun w hw => atoms_spec (ws := Cond.code sy_indexOf sb_indexOf 2 (some .int) :: xG) B.pre w (List.mem_cons_of_mem _ hw)
  have C : SCt p (headSpec (Cond.code sy_indexOf sb_indexOf 2 (some .int) :: xG) { frames := 8, cells := 0, slots := 0, locals := 420 }).room s m (([xr 15 i 0, xi c0] : List XV).map (xc X)).toArray c sb_indexOf "java/lang/String" 2 := ⟨hx, hb, hml, hown, hts, by show 1 ≤ 8; omega, by show 100 ≤ 420; omega⟩
  have hS : va_S (xA X) s.heap s.heap [] := va_S.rf
  rw [lg_entry_eq]
  have hl := lv_entry (([xr 15 i 0, xi c0] : List XV).map (xc X)) (n := 2) (by show _ ≤ _; exact Nat.le_of_ble_eq_true rfl)
  generalize (lg_sl (([xr 15 i 0, xi c0] : List XV).map (xc X)) ++ List.replicate (2 - (lg_sl (([xr 15 i 0, xi c0] : List XV).map (xc X))).length) Slot.unset).toArray = ls at hl ⊢
  have hl : lv_has ls 2 [(0, .ref (xad X (15, i, 0))), (1, .int c0)] := hl
  rw [hX.2.1 i hi] at hl
  refine lv_aload_n hx hb sd_indexOf_0 rfl (lv_at hl 0 rfl) ?_
  refine lv_iload_n hx hb sd_indexOf_1 rfl (lv_at hl 1 rfl) ?_
  refine lv_iconst (v := 0) hx hb sd_indexOf_2 (by decide) ?_
  refine fs_callM C hF hl.1 hS (As := [.int c0, .int 0]) (rest := []) hi rfl (st_indexOf2 hi) sw_indexOf2 sl_indexOf2 sm_indexOf2 se_indexOf2 ⟨by show 3 + 1 ≤ 8; omega, by show 8 + (3 + 11) + (40 * 3 + 100) ≤ 420; omega⟩ rfl (Nat.le_of_ble_eq_true rfl) sd_indexOf_3 ⟨Nat.le_refl _, Nat.le_refl _⟩ (fun locs1 hS => ?_)
  exact W.iret hx hb (by rw [B.returns]) (fun t ht hW => ⟨⟨_, (), rfl, rfl, hXW t ht hW⟩, hS.F ht⟩) hS.2.2 sd_indexOf_6 (hlocks := B.notSynchronized)
end
