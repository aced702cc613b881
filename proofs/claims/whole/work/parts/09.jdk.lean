abbrev y_Ji_bitCount : MethodName := ⟨"java/lang/Integer", "bitCount", "(I)I"⟩
abbrev b_Ji_bitCount : ByteArray := prog_12_method_49_code
theorem cm_Ji_bitCount : cmS y_Ji_bitCount b_Ji_bitCount 1 (some .int) 1 := ⟨⟨wd606, wd88, wd607⟩, by decide, by decide, by decide +kernel⟩
abbrev y_Jl_bitCount : MethodName := ⟨"java/lang/Long", "bitCount", "(J)I"⟩
abbrev b_Jl_bitCount : ByteArray := prog_13_method_50_code
theorem cm_Jl_bitCount : cmS y_Jl_bitCount b_Jl_bitCount 2 (some .int) 1 := ⟨⟨wd846, wd90, wd847⟩, by decide, by decide, by decide +kernel⟩
abbrev y_Js_charAt : MethodName := ⟨"java/lang/String", "charAt", "(I)C"⟩
abbrev b_Js_charAt : ByteArray := prog_15_method_56_code
theorem cm_Js_charAt : cmV y_Js_charAt "java/lang/String" b_Js_charAt 2 (some .char) 1 := ⟨⟨wd426, wd427, wd83, wd428⟩, rfl, by decide, by decide, by decide +kernel⟩
abbrev y_Js_checkIndex : MethodName := ⟨"java/lang/String", "checkIndex", "(II)V"⟩
abbrev b_Js_checkIndex : ByteArray := prog_15_method_155_code
theorem cm_Js_checkIndex : cmS y_Js_checkIndex b_Js_checkIndex 2 none 2 := ⟨⟨wd437, wd83, wd438⟩, by decide, by decide, by decide +kernel⟩
abbrev y_Js_coder : MethodName := ⟨"java/lang/String", "coder", "()B"⟩
abbrev b_Js_coder : ByteArray := prog_15_method_152_code
theorem cm_Js_coder : cmV y_Js_coder "java/lang/String" b_Js_coder 1 (some .byte) 0 := ⟨⟨wd420, wd421, wd83, wd422⟩, rfl, by decide, by decide, by decide +kernel⟩
abbrev y_Js_isLatin1 : MethodName := ⟨"java/lang/String", "isLatin1", "()Z"⟩
abbrev b_Js_isLatin1 : ByteArray := prog_15_method_154_code
theorem cm_Js_isLatin1 : cmV y_Js_isLatin1 "java/lang/String" b_Js_isLatin1 1 (some .boolean) 0 := ⟨⟨wd430, wd431, wd83, wd432⟩, rfl, by decide, by decide, by decide +kernel⟩
abbrev y_Js_length : MethodName := ⟨"java/lang/String", "length", "()I"⟩
abbrev b_Js_length : ByteArray := prog_15_method_54_code
theorem cm_Js_length : cmV y_Js_length "java/lang/String" b_Js_length 1 (some .int) 0 := ⟨⟨wd416, wd417, wd83, wd418⟩, rfl, by decide, by decide, by decide +kernel⟩
abbrev y_Jt_charAt : MethodName := ⟨"java/lang/StringLatin1", "charAt", "([BI)C"⟩
abbrev b_Jt_charAt : ByteArray := prog_16_method_2_code
theorem cm_Jt_charAt : cmS y_Jt_charAt b_Jt_charAt 2 (some .char) 2 := ⟨⟨wd434, wd84, wd435⟩, by decide, by decide, by decide +kernel⟩
abbrev y_Jp_checkIndex : MethodName := ⟨"jdk/internal/util/Preconditions", "checkIndex", "(IILjava/util/function/BiFunction;)I"⟩
abbrev b_Jp_checkIndex : ByteArray := prog_19_method_11_code
theorem cm_Jp_checkIndex : cmS y_Jp_checkIndex b_Jp_checkIndex 3 (some .int) 3 := ⟨⟨wd442, wd85, wd443⟩, by decide, by decide, by decide +kernel⟩
theorem d_Ji_bitCount_0 : dc b_Ji_bitCount 0 (.iload_n 0) 1 1 := ⟨by decide +kernel, rfl⟩
theorem d_Ji_bitCount_1 : dc b_Ji_bitCount 1 (.iload_n 0) 1 2 := ⟨by decide +kernel, rfl⟩
theorem d_Ji_bitCount_2 : dc b_Ji_bitCount 2 (.iconst 1) 1 3 := ⟨by decide +kernel, rfl⟩
theorem d_Ji_bitCount_3 : dc b_Ji_bitCount 3 (.iushr) 1 4 := ⟨by decide +kernel, rfl⟩
theorem d_Ji_bitCount_4 : dc b_Ji_bitCount 4 (.ldc_w 265) 3 7 := ⟨by decide +kernel, rfl⟩
theorem d_Ji_bitCount_7 : dc b_Ji_bitCount 7 (.iand) 1 8 := ⟨by decide +kernel, rfl⟩
theorem d_Ji_bitCount_8 : dc b_Ji_bitCount 8 (.isub) 1 9 := ⟨by decide +kernel, rfl⟩
theorem d_Ji_bitCount_9 : dc b_Ji_bitCount 9 (.istore_n 0) 1 10 := ⟨by decide +kernel, rfl⟩
theorem d_Ji_bitCount_10 : dc b_Ji_bitCount 10 (.iload_n 0) 1 11 := ⟨by decide +kernel, rfl⟩
theorem d_Ji_bitCount_11 : dc b_Ji_bitCount 11 (.ldc_w 266) 3 14 := ⟨by decide +kernel, rfl⟩
theorem d_Ji_bitCount_14 : dc b_Ji_bitCount 14 (.iand) 1 15 := ⟨by decide +kernel, rfl⟩
theorem d_Ji_bitCount_15 : dc b_Ji_bitCount 15 (.iload_n 0) 1 16 := ⟨by decide +kernel, rfl⟩
theorem d_Ji_bitCount_16 : dc b_Ji_bitCount 16 (.iconst 2) 1 17 := ⟨by decide +kernel, rfl⟩
theorem d_Ji_bitCount_17 : dc b_Ji_bitCount 17 (.iushr) 1 18 := ⟨by decide +kernel, rfl⟩
theorem d_Ji_bitCount_18 : dc b_Ji_bitCount 18 (.ldc_w 266) 3 21 := ⟨by decide +kernel, rfl⟩
theorem d_Ji_bitCount_21 : dc b_Ji_bitCount 21 (.iand) 1 22 := ⟨by decide +kernel, rfl⟩
theorem d_Ji_bitCount_22 : dc b_Ji_bitCount 22 (.iadd) 1 23 := ⟨by decide +kernel, rfl⟩
theorem d_Ji_bitCount_23 : dc b_Ji_bitCount 23 (.istore_n 0) 1 24 := ⟨by decide +kernel, rfl⟩
theorem d_Ji_bitCount_24 : dc b_Ji_bitCount 24 (.iload_n 0) 1 25 := ⟨by decide +kernel, rfl⟩
theorem d_Ji_bitCount_25 : dc b_Ji_bitCount 25 (.iload_n 0) 1 26 := ⟨by decide +kernel, rfl⟩
theorem d_Ji_bitCount_26 : dc b_Ji_bitCount 26 (.iconst 4) 1 27 := ⟨by decide +kernel, rfl⟩
theorem d_Ji_bitCount_27 : dc b_Ji_bitCount 27 (.iushr) 1 28 := ⟨by decide +kernel, rfl⟩
theorem d_Ji_bitCount_28 : dc b_Ji_bitCount 28 (.iadd) 1 29 := ⟨by decide +kernel, rfl⟩
theorem d_Ji_bitCount_29 : dc b_Ji_bitCount 29 (.ldc_w 267) 3 32 := ⟨by decide +kernel, rfl⟩
theorem d_Ji_bitCount_32 : dc b_Ji_bitCount 32 (.iand) 1 33 := ⟨by decide +kernel, rfl⟩
theorem d_Ji_bitCount_33 : dc b_Ji_bitCount 33 (.istore_n 0) 1 34 := ⟨by decide +kernel, rfl⟩
theorem d_Ji_bitCount_34 : dc b_Ji_bitCount 34 (.iload_n 0) 1 35 := ⟨by decide +kernel, rfl⟩
theorem d_Ji_bitCount_35 : dc b_Ji_bitCount 35 (.iload_n 0) 1 36 := ⟨by decide +kernel, rfl⟩
theorem d_Ji_bitCount_36 : dc b_Ji_bitCount 36 (.bipush 8) 2 38 := ⟨by decide +kernel, rfl⟩
theorem d_Ji_bitCount_38 : dc b_Ji_bitCount 38 (.iushr) 1 39 := ⟨by decide +kernel, rfl⟩
theorem d_Ji_bitCount_39 : dc b_Ji_bitCount 39 (.iadd) 1 40 := ⟨by decide +kernel, rfl⟩
theorem d_Ji_bitCount_40 : dc b_Ji_bitCount 40 (.istore_n 0) 1 41 := ⟨by decide +kernel, rfl⟩
theorem d_Ji_bitCount_41 : dc b_Ji_bitCount 41 (.iload_n 0) 1 42 := ⟨by decide +kernel, rfl⟩
theorem d_Ji_bitCount_42 : dc b_Ji_bitCount 42 (.iload_n 0) 1 43 := ⟨by decide +kernel, rfl⟩
theorem d_Ji_bitCount_43 : dc b_Ji_bitCount 43 (.bipush 16) 2 45 := ⟨by decide +kernel, rfl⟩
theorem d_Ji_bitCount_45 : dc b_Ji_bitCount 45 (.iushr) 1 46 := ⟨by decide +kernel, rfl⟩
theorem d_Ji_bitCount_46 : dc b_Ji_bitCount 46 (.iadd) 1 47 := ⟨by decide +kernel, rfl⟩
theorem d_Ji_bitCount_47 : dc b_Ji_bitCount 47 (.istore_n 0) 1 48 := ⟨by decide +kernel, rfl⟩
theorem d_Ji_bitCount_48 : dc b_Ji_bitCount 48 (.iload_n 0) 1 49 := ⟨by decide +kernel, rfl⟩
theorem d_Ji_bitCount_49 : dc b_Ji_bitCount 49 (.bipush 63) 2 51 := ⟨by decide +kernel, rfl⟩
theorem d_Ji_bitCount_51 : dc b_Ji_bitCount 51 (.iand) 1 52 := ⟨by decide +kernel, rfl⟩
theorem d_Ji_bitCount_52 : dc b_Ji_bitCount 52 (.ireturn) 1 53 := ⟨by decide +kernel, rfl⟩
theorem d_Jl_bitCount_0 : dc b_Jl_bitCount 0 (.lload_n 0) 1 1 := ⟨by decide +kernel, rfl⟩
theorem d_Jl_bitCount_1 : dc b_Jl_bitCount 1 (.lload_n 0) 1 2 := ⟨by decide +kernel, rfl⟩
theorem d_Jl_bitCount_2 : dc b_Jl_bitCount 2 (.iconst 1) 1 3 := ⟨by decide +kernel, rfl⟩
theorem d_Jl_bitCount_3 : dc b_Jl_bitCount 3 (.lushr) 1 4 := ⟨by decide +kernel, rfl⟩
theorem d_Jl_bitCount_4 : dc b_Jl_bitCount 4 (.ldc2_w 314) 3 7 := ⟨by decide +kernel, rfl⟩
theorem d_Jl_bitCount_7 : dc b_Jl_bitCount 7 (.land) 1 8 := ⟨by decide +kernel, rfl⟩
theorem d_Jl_bitCount_8 : dc b_Jl_bitCount 8 (.lsub) 1 9 := ⟨by decide +kernel, rfl⟩
theorem d_Jl_bitCount_9 : dc b_Jl_bitCount 9 (.lstore_n 0) 1 10 := ⟨by decide +kernel, rfl⟩
theorem d_Jl_bitCount_10 : dc b_Jl_bitCount 10 (.lload_n 0) 1 11 := ⟨by decide +kernel, rfl⟩
theorem d_Jl_bitCount_11 : dc b_Jl_bitCount 11 (.ldc2_w 316) 3 14 := ⟨by decide +kernel, rfl⟩
theorem d_Jl_bitCount_14 : dc b_Jl_bitCount 14 (.land) 1 15 := ⟨by decide +kernel, rfl⟩
theorem d_Jl_bitCount_15 : dc b_Jl_bitCount 15 (.lload_n 0) 1 16 := ⟨by decide +kernel, rfl⟩
theorem d_Jl_bitCount_16 : dc b_Jl_bitCount 16 (.iconst 2) 1 17 := ⟨by decide +kernel, rfl⟩
theorem d_Jl_bitCount_17 : dc b_Jl_bitCount 17 (.lushr) 1 18 := ⟨by decide +kernel, rfl⟩
theorem d_Jl_bitCount_18 : dc b_Jl_bitCount 18 (.ldc2_w 316) 3 21 := ⟨by decide +kernel, rfl⟩
theorem d_Jl_bitCount_21 : dc b_Jl_bitCount 21 (.land) 1 22 := ⟨by decide +kernel, rfl⟩
theorem d_Jl_bitCount_22 : dc b_Jl_bitCount 22 (.ladd) 1 23 := ⟨by decide +kernel, rfl⟩
theorem d_Jl_bitCount_23 : dc b_Jl_bitCount 23 (.lstore_n 0) 1 24 := ⟨by decide +kernel, rfl⟩
theorem d_Jl_bitCount_24 : dc b_Jl_bitCount 24 (.lload_n 0) 1 25 := ⟨by decide +kernel, rfl⟩
theorem d_Jl_bitCount_25 : dc b_Jl_bitCount 25 (.lload_n 0) 1 26 := ⟨by decide +kernel, rfl⟩
theorem d_Jl_bitCount_26 : dc b_Jl_bitCount 26 (.iconst 4) 1 27 := ⟨by decide +kernel, rfl⟩
theorem d_Jl_bitCount_27 : dc b_Jl_bitCount 27 (.lushr) 1 28 := ⟨by decide +kernel, rfl⟩
theorem d_Jl_bitCount_28 : dc b_Jl_bitCount 28 (.ladd) 1 29 := ⟨by decide +kernel, rfl⟩
theorem d_Jl_bitCount_29 : dc b_Jl_bitCount 29 (.ldc2_w 318) 3 32 := ⟨by decide +kernel, rfl⟩
theorem d_Jl_bitCount_32 : dc b_Jl_bitCount 32 (.land) 1 33 := ⟨by decide +kernel, rfl⟩
theorem d_Jl_bitCount_33 : dc b_Jl_bitCount 33 (.lstore_n 0) 1 34 := ⟨by decide +kernel, rfl⟩
theorem d_Jl_bitCount_34 : dc b_Jl_bitCount 34 (.lload_n 0) 1 35 := ⟨by decide +kernel, rfl⟩
theorem d_Jl_bitCount_35 : dc b_Jl_bitCount 35 (.lload_n 0) 1 36 := ⟨by decide +kernel, rfl⟩
theorem d_Jl_bitCount_36 : dc b_Jl_bitCount 36 (.bipush 8) 2 38 := ⟨by decide +kernel, rfl⟩
theorem d_Jl_bitCount_38 : dc b_Jl_bitCount 38 (.lushr) 1 39 := ⟨by decide +kernel, rfl⟩
theorem d_Jl_bitCount_39 : dc b_Jl_bitCount 39 (.ladd) 1 40 := ⟨by decide +kernel, rfl⟩
theorem d_Jl_bitCount_40 : dc b_Jl_bitCount 40 (.lstore_n 0) 1 41 := ⟨by decide +kernel, rfl⟩
theorem d_Jl_bitCount_41 : dc b_Jl_bitCount 41 (.lload_n 0) 1 42 := ⟨by decide +kernel, rfl⟩
theorem d_Jl_bitCount_42 : dc b_Jl_bitCount 42 (.lload_n 0) 1 43 := ⟨by decide +kernel, rfl⟩
theorem d_Jl_bitCount_43 : dc b_Jl_bitCount 43 (.bipush 16) 2 45 := ⟨by decide +kernel, rfl⟩
theorem d_Jl_bitCount_45 : dc b_Jl_bitCount 45 (.lushr) 1 46 := ⟨by decide +kernel, rfl⟩
theorem d_Jl_bitCount_46 : dc b_Jl_bitCount 46 (.ladd) 1 47 := ⟨by decide +kernel, rfl⟩
theorem d_Jl_bitCount_47 : dc b_Jl_bitCount 47 (.lstore_n 0) 1 48 := ⟨by decide +kernel, rfl⟩
theorem d_Jl_bitCount_48 : dc b_Jl_bitCount 48 (.lload_n 0) 1 49 := ⟨by decide +kernel, rfl⟩
theorem d_Jl_bitCount_49 : dc b_Jl_bitCount 49 (.lload_n 0) 1 50 := ⟨by decide +kernel, rfl⟩
theorem d_Jl_bitCount_50 : dc b_Jl_bitCount 50 (.bipush 32) 2 52 := ⟨by decide +kernel, rfl⟩
theorem d_Jl_bitCount_52 : dc b_Jl_bitCount 52 (.lushr) 1 53 := ⟨by decide +kernel, rfl⟩
theorem d_Jl_bitCount_53 : dc b_Jl_bitCount 53 (.ladd) 1 54 := ⟨by decide +kernel, rfl⟩
theorem d_Jl_bitCount_54 : dc b_Jl_bitCount 54 (.lstore_n 0) 1 55 := ⟨by decide +kernel, rfl⟩
theorem d_Jl_bitCount_55 : dc b_Jl_bitCount 55 (.lload_n 0) 1 56 := ⟨by decide +kernel, rfl⟩
theorem d_Jl_bitCount_56 : dc b_Jl_bitCount 56 (.l2i) 1 57 := ⟨by decide +kernel, rfl⟩
theorem d_Jl_bitCount_57 : dc b_Jl_bitCount 57 (.bipush 127) 2 59 := ⟨by decide +kernel, rfl⟩
theorem d_Jl_bitCount_59 : dc b_Jl_bitCount 59 (.iand) 1 60 := ⟨by decide +kernel, rfl⟩
theorem d_Jl_bitCount_60 : dc b_Jl_bitCount 60 (.ireturn) 1 61 := ⟨by decide +kernel, rfl⟩
theorem d_Js_charAt_0 : dc b_Js_charAt 0 (.aload_n 0) 1 1 := ⟨by decide +kernel, rfl⟩
theorem d_Js_charAt_1 : dc b_Js_charAt 1 (.invokevirtual 492) 3 4 := ⟨by decide +kernel, rfl⟩
theorem d_Js_charAt_4 : dj b_Js_charAt 4 (.ifCond .eq 12) (12) 7 16 := ⟨by decide +kernel, rfl, by decide⟩
theorem d_Js_charAt_7 : dc b_Js_charAt 7 (.aload_n 0) 1 8 := ⟨by decide +kernel, rfl⟩
theorem d_Js_charAt_8 : dc b_Js_charAt 8 (.getfield 9) 3 11 := ⟨by decide +kernel, rfl⟩
theorem d_Js_charAt_11 : dc b_Js_charAt 11 (.iload_n 1) 1 12 := ⟨by decide +kernel, rfl⟩
theorem d_Js_charAt_12 : dc b_Js_charAt 12 (.invokestatic 495) 3 15 := ⟨by decide +kernel, rfl⟩
theorem d_Js_charAt_15 : dc b_Js_charAt 15 (.ireturn) 1 16 := ⟨by decide +kernel, rfl⟩
theorem d_Js_charAt_16 : dc b_Js_charAt 16 (.aload_n 0) 1 17 := ⟨by decide +kernel, rfl⟩
theorem d_Js_charAt_17 : dc b_Js_charAt 17 (.getfield 9) 3 20 := ⟨by decide +kernel, rfl⟩
theorem d_Js_charAt_20 : dc b_Js_charAt 20 (.iload_n 1) 1 21 := ⟨by decide +kernel, rfl⟩
theorem d_Js_charAt_21 : dc b_Js_charAt 21 (.invokestatic 498) 3 24 := ⟨by decide +kernel, rfl⟩
theorem d_Js_charAt_24 : dc b_Js_charAt 24 (.ireturn) 1 25 := ⟨by decide +kernel, rfl⟩
theorem d_Js_checkIndex_0 : dc b_Js_checkIndex 0 (.iload_n 0) 1 1 := ⟨by decide +kernel, rfl⟩
theorem d_Js_checkIndex_1 : dc b_Js_checkIndex 1 (.iload_n 1) 1 2 := ⟨by decide +kernel, rfl⟩
theorem d_Js_checkIndex_2 : dc b_Js_checkIndex 2 (.getstatic 1053) 3 5 := ⟨by decide +kernel, rfl⟩
theorem d_Js_checkIndex_5 : dc b_Js_checkIndex 5 (.invokestatic 1059) 3 8 := ⟨by decide +kernel, rfl⟩
theorem d_Js_checkIndex_8 : dc b_Js_checkIndex 8 (.pop) 1 9 := ⟨by decide +kernel, rfl⟩
theorem d_Js_checkIndex_9 : dc b_Js_checkIndex 9 (.return_) 1 10 := ⟨by decide +kernel, rfl⟩
theorem d_Js_coder_0 : dc b_Js_coder 0 (.getstatic 38) 3 3 := ⟨by decide +kernel, rfl⟩
theorem d_Js_coder_3 : dj b_Js_coder 3 (.ifCond .eq 10) (10) 6 13 := ⟨by decide +kernel, rfl, by decide⟩
theorem d_Js_coder_6 : dc b_Js_coder 6 (.aload_n 0) 1 7 := ⟨by decide +kernel, rfl⟩
theorem d_Js_coder_7 : dc b_Js_coder 7 (.getfield 15) 3 10 := ⟨by decide +kernel, rfl⟩
theorem d_Js_coder_10 : dj b_Js_coder 10 (.goto 4) (4) 13 14 := ⟨by decide +kernel, rfl, by decide⟩
theorem d_Js_coder_13 : dc b_Js_coder 13 (.iconst 1) 1 14 := ⟨by decide +kernel, rfl⟩
theorem d_Js_coder_14 : dc b_Js_coder 14 (.ireturn) 1 15 := ⟨by decide +kernel, rfl⟩
theorem d_Js_isLatin1_0 : dc b_Js_isLatin1 0 (.getstatic 38) 3 3 := ⟨by decide +kernel, rfl⟩
theorem d_Js_isLatin1_3 : dj b_Js_isLatin1 3 (.ifCond .eq 14) (14) 6 17 := ⟨by decide +kernel, rfl, by decide⟩
theorem d_Js_isLatin1_6 : dc b_Js_isLatin1 6 (.aload_n 0) 1 7 := ⟨by decide +kernel, rfl⟩
theorem d_Js_isLatin1_7 : dc b_Js_isLatin1 7 (.getfield 15) 3 10 := ⟨by decide +kernel, rfl⟩
theorem d_Js_isLatin1_10 : dj b_Js_isLatin1 10 (.ifCond .ne 7) (7) 13 17 := ⟨by decide +kernel, rfl, by decide⟩
theorem d_Js_isLatin1_13 : dc b_Js_isLatin1 13 (.iconst 1) 1 14 := ⟨by decide +kernel, rfl⟩
theorem d_Js_isLatin1_14 : dj b_Js_isLatin1 14 (.goto 4) (4) 17 18 := ⟨by decide +kernel, rfl, by decide⟩
theorem d_Js_isLatin1_17 : dc b_Js_isLatin1 17 (.iconst 0) 1 18 := ⟨by decide +kernel, rfl⟩
theorem d_Js_isLatin1_18 : dc b_Js_isLatin1 18 (.ireturn) 1 19 := ⟨by decide +kernel, rfl⟩
theorem d_Js_length_0 : dc b_Js_length 0 (.aload_n 0) 1 1 := ⟨by decide +kernel, rfl⟩
theorem d_Js_length_1 : dc b_Js_length 1 (.getfield 9) 3 4 := ⟨by decide +kernel, rfl⟩
theorem d_Js_length_4 : dc b_Js_length 4 (.arraylength) 1 5 := ⟨by decide +kernel, rfl⟩
theorem d_Js_length_5 : dc b_Js_length 5 (.aload_n 0) 1 6 := ⟨by decide +kernel, rfl⟩
theorem d_Js_length_6 : dc b_Js_length 6 (.invokevirtual 335) 3 9 := ⟨by decide +kernel, rfl⟩
theorem d_Js_length_9 : dc b_Js_length 9 (.ishr) 1 10 := ⟨by decide +kernel, rfl⟩
theorem d_Js_length_10 : dc b_Js_length 10 (.ireturn) 1 11 := ⟨by decide +kernel, rfl⟩
theorem d_Jt_charAt_0 : dc b_Jt_charAt 0 (.iload_n 1) 1 1 := ⟨by decide +kernel, rfl⟩
theorem d_Jt_charAt_1 : dc b_Jt_charAt 1 (.aload_n 0) 1 2 := ⟨by decide +kernel, rfl⟩
theorem d_Jt_charAt_2 : dc b_Jt_charAt 2 (.arraylength) 1 3 := ⟨by decide +kernel, rfl⟩
theorem d_Jt_charAt_3 : dc b_Jt_charAt 3 (.invokestatic 9) 3 6 := ⟨by decide +kernel, rfl⟩
theorem d_Jt_charAt_6 : dc b_Jt_charAt 6 (.aload_n 0) 1 7 := ⟨by decide +kernel, rfl⟩
theorem d_Jt_charAt_7 : dc b_Jt_charAt 7 (.iload_n 1) 1 8 := ⟨by decide +kernel, rfl⟩
theorem d_Jt_charAt_8 : dc b_Jt_charAt 8 (.baload) 1 9 := ⟨by decide +kernel, rfl⟩
theorem d_Jt_charAt_9 : dc b_Jt_charAt 9 (.sipush 255) 3 12 := ⟨by decide +kernel, rfl⟩
theorem d_Jt_charAt_12 : dc b_Jt_charAt 12 (.iand) 1 13 := ⟨by decide +kernel, rfl⟩
theorem d_Jt_charAt_13 : dc b_Jt_charAt 13 (.i2c) 1 14 := ⟨by decide +kernel, rfl⟩
theorem d_Jt_charAt_14 : dc b_Jt_charAt 14 (.ireturn) 1 15 := ⟨by decide +kernel, rfl⟩
theorem d_Jp_checkIndex_0 : dc b_Jp_checkIndex 0 (.iload_n 0) 1 1 := ⟨by decide +kernel, rfl⟩
theorem d_Jp_checkIndex_1 : dj b_Jp_checkIndex 1 (.ifCond .lt 8) (8) 4 9 := ⟨by decide +kernel, rfl, by decide⟩
theorem d_Jp_checkIndex_4 : dc b_Jp_checkIndex 4 (.iload_n 0) 1 5 := ⟨by decide +kernel, rfl⟩
theorem d_Jp_checkIndex_5 : dc b_Jp_checkIndex 5 (.iload_n 1) 1 6 := ⟨by decide +kernel, rfl⟩
theorem d_Jp_checkIndex_6 : dj b_Jp_checkIndex 6 (.if_icmp .lt 10) (10) 9 16 := ⟨by decide +kernel, rfl, by decide⟩
theorem d_Jp_checkIndex_9 : dc b_Jp_checkIndex 9 (.aload_n 2) 1 10 := ⟨by decide +kernel, rfl⟩
theorem d_Jp_checkIndex_10 : dc b_Jp_checkIndex 10 (.iload_n 0) 1 11 := ⟨by decide +kernel, rfl⟩
theorem d_Jp_checkIndex_11 : dc b_Jp_checkIndex 11 (.iload_n 1) 1 12 := ⟨by decide +kernel, rfl⟩
theorem d_Jp_checkIndex_12 : dc b_Jp_checkIndex 12 (.invokestatic 95) 3 15 := ⟨by decide +kernel, rfl⟩
theorem d_Jp_checkIndex_15 : dc b_Jp_checkIndex 15 (.athrow) 1 16 := ⟨by decide +kernel, rfl⟩
theorem d_Jp_checkIndex_16 : dc b_Jp_checkIndex 16 (.iload_n 0) 1 17 := ⟨by decide +kernel, rfl⟩
theorem d_Jp_checkIndex_17 : dc b_Jp_checkIndex 17 (.ireturn) 1 18 := ⟨by decide +kernel, rfl⟩
def Ji_bitCount (F : Nat) (S : St) (p1 : Int32) : Option Int32 := bnd (p1 - ((jushr p1 1) &&& 1431655765)) fun v1 => bnd ((v1 &&& 858993459) + ((jushr v1 2) &&& 858993459)) fun v2 => bnd ((v2 + (jushr v2 4)) &&& 252645135) fun v3 => bnd (v3 + (jushr v3 8)) fun v4 => bnd (v4 + (jushr v4 16)) fun v5 => some (v5 &&& 63)
set_option maxRecDepth 4000 in
theorem m_Ji_bitCount {w : Ww} {l0 : Launch} {F : Nat} {sh : List Sh} {S : St} {p1 : Int32} {rs : Int32}  (hf : Ji_bitCount F S p1 = some rs) : MI sh w l0 y_Ji_bitCount b_Ji_bitCount 1 .int 0 [.int p1] S rs S bzT := by
  refine MI.of (by decide) (Nat.le_of_ble_eq_true rfl) rfl (fun _ _ => rfl) (fun x hnL C hR => ?_)
  rw [Ji_bitCount] at hf
  refine x_iload_n C d_Ji_bitCount_0 0 rfl ?_
  refine x_iload_n C d_Ji_bitCount_1 0 rfl ?_
  refine x_iconst C d_Ji_bitCount_2 1 ?_
  refine x_iushr C d_Ji_bitCount_3 ?_
  refine x_ldcw C d_Ji_bitCount_4 wd608 ?_
  refine x_iand C d_Ji_bitCount_7 ?_
  refine x_isub C d_Ji_bitCount_8 ?_
  refine x_bi hf (fun v1 hf => ?_)
  refine x_istore_n C d_Ji_bitCount_9 [(0, .int v1)] (by rw [hnL]; decide) rfl ?_
  refine x_iload_n C d_Ji_bitCount_10 0 rfl ?_
  refine x_ldcw C d_Ji_bitCount_11 wd609 ?_
  refine x_iand C d_Ji_bitCount_14 ?_
  refine x_iload_n C d_Ji_bitCount_15 0 rfl ?_
  refine x_iconst C d_Ji_bitCount_16 2 ?_
  refine x_iushr C d_Ji_bitCount_17 ?_
  refine x_ldcw C d_Ji_bitCount_18 wd609 ?_
  refine x_iand C d_Ji_bitCount_21 ?_
  refine x_iadd C d_Ji_bitCount_22 ?_
  refine x_bi hf (fun v2 hf => ?_)
  refine x_istore_n C d_Ji_bitCount_23 [(0, .int v2)] (by rw [hnL]; decide) rfl ?_
  refine x_iload_n C d_Ji_bitCount_24 0 rfl ?_
  refine x_iload_n C d_Ji_bitCount_25 0 rfl ?_
  refine x_iconst C d_Ji_bitCount_26 4 ?_
  refine x_iushr C d_Ji_bitCount_27 ?_
  refine x_iadd C d_Ji_bitCount_28 ?_
  refine x_ldcw C d_Ji_bitCount_29 wd610 ?_
  refine x_iand C d_Ji_bitCount_32 ?_
  refine x_bi hf (fun v3 hf => ?_)
  refine x_istore_n C d_Ji_bitCount_33 [(0, .int v3)] (by rw [hnL]; decide) rfl ?_
  refine x_iload_n C d_Ji_bitCount_34 0 rfl ?_
  refine x_iload_n C d_Ji_bitCount_35 0 rfl ?_
  refine x_bipush C d_Ji_bitCount_36 8 ?_
  refine x_iushr C d_Ji_bitCount_38 ?_
  refine x_iadd C d_Ji_bitCount_39 ?_
  refine x_bi hf (fun v4 hf => ?_)
  refine x_istore_n C d_Ji_bitCount_40 [(0, .int v4)] (by rw [hnL]; decide) rfl ?_
  refine x_iload_n C d_Ji_bitCount_41 0 rfl ?_
  refine x_iload_n C d_Ji_bitCount_42 0 rfl ?_
  refine x_bipush C d_Ji_bitCount_43 16 ?_
  refine x_iushr C d_Ji_bitCount_45 ?_
  refine x_iadd C d_Ji_bitCount_46 ?_
  refine x_bi hf (fun v5 hf => ?_)
  refine x_istore_n C d_Ji_bitCount_47 [(0, .int v5)] (by rw [hnL]; decide) rfl ?_
  refine x_iload_n C d_Ji_bitCount_48 0 rfl ?_
  refine x_bipush C d_Ji_bitCount_49 63 ?_
  refine x_iand C d_Ji_bitCount_51 ?_
  exact x_retR hR d_Ji_bitCount_52 hf trivial
def Jl_bitCount (F : Nat) (S : St) (p1 : Int64) : Option Int32 := bnd (p1 - ((jlushr p1 1) &&& 6148914691236517205)) fun u1 => bnd ((u1 &&& 3689348814741910323) + ((jlushr u1 2) &&& 3689348814741910323)) fun u2 => bnd ((u2 + (jlushr u2 4)) &&& 1085102592571150095) fun u3 => bnd (u3 + (jlushr u3 8)) fun u4 => bnd (u4 + (jlushr u4 16)) fun u5 => bnd (u5 + (jlushr u5 32)) fun u6 => some ((Int64.toInt32 u6) &&& 127)
set_option maxRecDepth 4000 in
theorem m_Jl_bitCount {w : Ww} {l0 : Launch} {F : Nat} {sh : List Sh} {S : St} {p1 : Int64} {rs : Int32}  (hf : Jl_bitCount F S p1 = some rs) : MI sh w l0 y_Jl_bitCount b_Jl_bitCount 2 .int 0 [.long p1] S rs S bzT := by
  refine MI.of (by decide) (Nat.le_of_ble_eq_true rfl) rfl (fun _ _ => rfl) (fun x hnL C hR => ?_)
  rw [Jl_bitCount] at hf
  refine x_lload_n C d_Jl_bitCount_0 0 rfl ?_
  refine x_lload_n C d_Jl_bitCount_1 0 rfl ?_
  refine x_iconst C d_Jl_bitCount_2 1 ?_
  refine x_lushr C d_Jl_bitCount_3 ?_
  refine x_ldc2 C d_Jl_bitCount_4 wd848 ?_
  refine x_land C d_Jl_bitCount_7 ?_
  refine x_lsub C d_Jl_bitCount_8 ?_
  refine x_bl hf (fun u1 hf => ?_)
  refine x_lstore_n C d_Jl_bitCount_9 [(0, .long u1)] (by rw [hnL]; decide) rfl ?_
  refine x_lload_n C d_Jl_bitCount_10 0 rfl ?_
  refine x_ldc2 C d_Jl_bitCount_11 wd849 ?_
  refine x_land C d_Jl_bitCount_14 ?_
  refine x_lload_n C d_Jl_bitCount_15 0 rfl ?_
  refine x_iconst C d_Jl_bitCount_16 2 ?_
  refine x_lushr C d_Jl_bitCount_17 ?_
  refine x_ldc2 C d_Jl_bitCount_18 wd849 ?_
  refine x_land C d_Jl_bitCount_21 ?_
  refine x_ladd C d_Jl_bitCount_22 ?_
  refine x_bl hf (fun u2 hf => ?_)
  refine x_lstore_n C d_Jl_bitCount_23 [(0, .long u2)] (by rw [hnL]; decide) rfl ?_
  refine x_lload_n C d_Jl_bitCount_24 0 rfl ?_
  refine x_lload_n C d_Jl_bitCount_25 0 rfl ?_
  refine x_iconst C d_Jl_bitCount_26 4 ?_
  refine x_lushr C d_Jl_bitCount_27 ?_
  refine x_ladd C d_Jl_bitCount_28 ?_
  refine x_ldc2 C d_Jl_bitCount_29 wd850 ?_
  refine x_land C d_Jl_bitCount_32 ?_
  refine x_bl hf (fun u3 hf => ?_)
  refine x_lstore_n C d_Jl_bitCount_33 [(0, .long u3)] (by rw [hnL]; decide) rfl ?_
  refine x_lload_n C d_Jl_bitCount_34 0 rfl ?_
  refine x_lload_n C d_Jl_bitCount_35 0 rfl ?_
  refine x_bipush C d_Jl_bitCount_36 8 ?_
  refine x_lushr C d_Jl_bitCount_38 ?_
  refine x_ladd C d_Jl_bitCount_39 ?_
  refine x_bl hf (fun u4 hf => ?_)
  refine x_lstore_n C d_Jl_bitCount_40 [(0, .long u4)] (by rw [hnL]; decide) rfl ?_
  refine x_lload_n C d_Jl_bitCount_41 0 rfl ?_
  refine x_lload_n C d_Jl_bitCount_42 0 rfl ?_
  refine x_bipush C d_Jl_bitCount_43 16 ?_
  refine x_lushr C d_Jl_bitCount_45 ?_
  refine x_ladd C d_Jl_bitCount_46 ?_
  refine x_bl hf (fun u5 hf => ?_)
  refine x_lstore_n C d_Jl_bitCount_47 [(0, .long u5)] (by rw [hnL]; decide) rfl ?_
  refine x_lload_n C d_Jl_bitCount_48 0 rfl ?_
  refine x_lload_n C d_Jl_bitCount_49 0 rfl ?_
  refine x_bipush C d_Jl_bitCount_50 32 ?_
  refine x_lushr C d_Jl_bitCount_52 ?_
  refine x_ladd C d_Jl_bitCount_53 ?_
  refine x_bl hf (fun u6 hf => ?_)
  refine x_lstore_n C d_Jl_bitCount_54 [(0, .long u6)] (by rw [hnL]; decide) rfl ?_
  refine x_lload_n C d_Jl_bitCount_55 0 rfl ?_
  refine x_l2i C d_Jl_bitCount_56 ?_
  refine x_bipush C d_Jl_bitCount_57 127 ?_
  refine x_iand C d_Jl_bitCount_59 ?_
  exact x_retR hR d_Jl_bitCount_60 hf trivial
/-! STRING CONSTANTS: length and charAt over the tape's names -/
def Js_length (j : Nat) : Option Int32 := some (nI (lenS.getD j 0))
def Js_charAt (j : Nat) (i : Int32) : Option Int32 := chk i (lenS.getD j 0) (some ((bytS.getD j []).getD i.toNatClampNeg 0 &&& 255))
section STRS
variable {sh : List Sh} {w : Ww} {own : String} {cc : ByteArray} {l0 : Launch} {d0 : Nat} {x : Cx} {S : St} {pc n : Nat} {lo lo' : List (Nat × Value)} {st : List Value}
theorem x_strV (C : XC sh w own cc l0 d0 x) {idx j : Nat} (hd : dc cc pc (.getfield idx) 3 n) (hj : j < 6) (hl : Cond.fieldLink own idx "java/lang/String" "value" "[B" ∈ tw) (kk : WX sh w x S n lo (.ref (w.2.2.2.2 j) :: st)) : WX sh w x S pc lo (.ref (w.2.2.2.1 j) :: st) := by
  obtain ⟨p, l, e, R, s, m, args, below, meth, c, Q, A, nL⟩ := x
  obtain ⟨⟨hx, hb, hml, hown, hts⟩, rfl, hK, hA, hAk, hSX, hlk, hfr, hlo⟩ := C
  obtain ⟨hd, rfl⟩ := hd
  intro H lc ls hP hD hS hl2
  exact vk_getf hx hb (hSX.1.1 j hj).2.2.1 hS hown (hts _ hl) (fun _ h => h) hd (kk H lc ls hP hD hS hl2)
theorem x_strC (C : XC sh w own cc l0 d0 x) {idx j : Nat} (hd : dc cc pc (.getfield idx) 3 n) (hj : j < 6) (hl : Cond.fieldLink own idx "java/lang/String" "coder" "B" ∈ tw) (kk : WX sh w x S n lo (.int 0 :: st)) : WX sh w x S pc lo (.ref (w.2.2.2.1 j) :: st) := by
  obtain ⟨p, l, e, R, s, m, args, below, meth, c, Q, A, nL⟩ := x
  obtain ⟨⟨hx, hb, hml, hown, hts⟩, rfl, hK, hA, hAk, hSX, hlk, hfr, hlo⟩ := C
  obtain ⟨hd, rfl⟩ := hd
  intro H lc ls hP hD hS hl2
  exact vk_getf hx hb (hSX.1.1 j hj).2.1 hS hown (hts _ hl) (fun _ h => h) hd (kk H lc ls hP hD hS hl2)
theorem x_strL (C : XC sh w own cc l0 d0 x) {j : Nat} (hd : dc cc pc .arraylength 1 n) (hj : j < 6) (kk : WX sh w x S n lo (.int (nI (lenS.getD j 0)) :: st)) : WX sh w x S pc lo (.ref (w.2.2.2.2 j) :: st) := by
  obtain ⟨p, l, e, R, s, m, args, below, meth, c, Q, A, nL⟩ := x
  obtain ⟨⟨hx, hb, hml, hown, hts⟩, rfl, hK, hA, hAk, hSX, hlk, hfr, hlo⟩ := C
  obtain ⟨hd, rfl⟩ := hd
  intro H lc ls hP hD hS hl2
  exact va_tlen hx hb (hSX.1.1 j hj).2.2.2 hS rfl hd (kk H lc ls hP hD hS hl2)
theorem x_strB (C : XC sh w own cc l0 d0 x) {j : Nat} {i : Int32} (hd : dc cc pc .baload 1 n) (hj : j < 6) (hi : vp_in i (lenS.getD j 0)) (kk : WX sh w x S n lo (.int ((bytS.getD j []).getD i.toNatClampNeg 0) :: st)) : WX sh w x S pc lo (.int i :: .ref (w.2.2.2.2 j) :: st) := by
  obtain ⟨p, l, e, R, s, m, args, below, meth, c, Q, A, nL⟩ := x
  obtain ⟨⟨hx, hb, hml, hown, hts⟩, rfl, hK, hA, hAk, hSX, hlk, hfr, hlo⟩ := C
  obtain ⟨hd, rfl⟩ := hd
  intro H lc ls hP hD hS hl2
  exact va_tb hx hb (hSX.1.1 j hj).2.2.2 hS hi rfl hd (kk H lc ls hP hD hS hl2)
theorem x_compact (C : XC sh w own cc l0 d0 x) {idx : Nat} (hd : dc cc pc (.getstatic idx) 3 n) (hl : Cond.fieldLink own idx "java/lang/String" "COMPACT_STRINGS" "Z" ∈ tw) (kk : WX sh w x S n lo (.int 1 :: st)) : WX sh w x S pc lo st := by
  obtain ⟨p, l, e, R, s, m, args, below, meth, c, Q, A, nL⟩ := x
  obtain ⟨⟨hx, hb, hml, hown, hts⟩, rfl, hK, hA, hAk, hSX, hlk, hfr, hlo⟩ := C
  obtain ⟨hd, rfl⟩ := hd
  intro H lc ls hP hD hS hl2
  exact va_gets hx hb hSX.2.2.1 hS hown (hts _ hl) (fun _ h => h) hd (kk H lc ls hP hD hS hl2)
theorem x_form (C : XC sh w own cc l0 d0 x) {idx : Nat} (hd : dc cc pc (.getstatic idx) 3 n) (hl : Cond.fieldLink own idx "jdk/internal/util/Preconditions" "SIOOBE_FORMATTER" "Ljava/util/function/BiFunction;" ∈ tw) (kk : ∀ va : Value, (va = .null ∨ ∃ t : Nat, va = .ref t) → WX sh w x S n lo (va :: st)) : WX sh w x S pc lo st := by
  obtain ⟨p, l, e, R, s, m, args, below, meth, c, Q, A, nL⟩ := x
  obtain ⟨⟨hx, hb, hml, hown, hts⟩, rfl, hK, hA, hAk, hSX, hlk, hfr, hlo⟩ := C
  obtain ⟨hd, rfl⟩ := hd
  intro H lc ls hP hD hS hl2
  rcases hSX.2.2.2 with hz | ⟨t, hz⟩
  · exact va_gets hx hb hz hS hown (hts _ hl) (fun _ h => h) hd (kk .null (Or.inl rfl) H lc ls hP hD hS hl2)
  · exact va_gets hx hb hz hS hown (hts _ hl) (fun _ h => h) hd (kk (.ref t) (Or.inr ⟨t, rfl⟩) H lc ls hP hD hS hl2)
theorem x_i2c (C : XC sh w own cc l0 d0 x) {a : Int32} (hd : dc cc pc .i2c 1 n) (kk : WX sh w x S n lo (.int ((a.toUInt32 % 65536).toInt32) :: st)) : WX sh w x S pc lo (.int a :: st) := by
  obtain ⟨p, l, e, R, s, m, args, below, meth, c, Q, A, nL⟩ := x
  obtain ⟨⟨hx, hb, hml, hown, hts⟩, rfl, hK, hA, hAk, hSX, hlk, hfr, hlo⟩ := C
  obtain ⟨hd, rfl⟩ := hd
  intro H lc ls hP hD hS hl2
  exact lv_i2c hx hb hd rfl (kk H lc ls hP hD hS hl2)
def bz0 (v : Int32) : Prop := v = 0
def bzC (v : Int32) : Prop := narrow .char (.int v) = .int v
theorem m_Js_coder {w : Ww} {l0 : Launch} {sh : List Sh} {S : St} {j : Nat} (hj : j < 6) : MI sh w l0 y_Js_coder b_Js_coder 1 .byte 0 [.ref (w.2.2.2.1 j)] S 0 S bz0 := by
  refine MI.of (by decide) (Nat.le_of_ble_eq_true rfl) rfl (fun v hb => by cases hb; decide) (fun x hnL C hR => ?_)
  have hf : (if (1 : Int32) = 0 then (none : Option Int32) else some 0) = some 0 := by decide
  refine x_compact C d_Js_coder_0 wd423 ?_
  refine x_if_eq C d_Js_coder_3 hf (fun hf => by cases hf) (fun hf => ?_)
  refine x_aload_n C d_Js_coder_6 0 rfl ?_
  refine x_strC C d_Js_coder_7 hj wd1370 ?_
  refine x_goto C d_Js_coder_10 ?_
  exact x_retR hR d_Js_coder_14 hf rfl
theorem m_Js_isLatin1 {w : Ww} {l0 : Launch} {sh : List Sh} {S : St} {j : Nat} (hj : j < 6) : MI sh w l0 y_Js_isLatin1 b_Js_isLatin1 1 .boolean 0 [.ref (w.2.2.2.1 j)] S 1 S bz01 := by
  refine MI.of (by decide) (Nat.le_of_ble_eq_true rfl) rfl (fun v hb => by rcases hb with rfl | rfl <;> decide) (fun x hnL C hR => ?_)
  have hf : (if (1 : Int32) = 0 then (none : Option Int32) else if (0 : Int32) = 0 then some 1 else none) = some 1 := by decide
  refine x_compact C d_Js_isLatin1_0 wd423 ?_
  refine x_if_eq C d_Js_isLatin1_3 hf (fun hf => by cases hf) (fun hf => ?_)
  refine x_aload_n C d_Js_isLatin1_6 0 rfl ?_
  refine x_strC C d_Js_isLatin1_7 hj wd1370 ?_
  refine x_if_ne C d_Js_isLatin1_10 hf (fun hf => ?_) (fun hf => by cases hf)
  refine x_iconst C d_Js_isLatin1_13 1 ?_
  refine x_goto C d_Js_isLatin1_14 ?_
  exact x_retR hR d_Js_isLatin1_18 hf (Or.inr rfl)
theorem m_Js_length {w : Ww} {l0 : Launch} {sh : List Sh} {S : St} {j : Nat} {rs : Int32} (hj : j < 6) (hf : Js_length j = some rs) : MI sh w l0 y_Js_length b_Js_length 1 .int 1 [.ref (w.2.2.2.1 j)] S rs S bzT := by
  refine MI.of (by decide) (Nat.le_of_ble_eq_true rfl) rfl (fun _ _ => rfl) (fun x hnL C hR => ?_)
  rw [Js_length] at hf
  refine x_aload_n C d_Js_length_0 0 rfl ?_
  refine x_strV C d_Js_length_1 hj wd1369 ?_
  refine x_strL C d_Js_length_4 hj ?_
  refine x_aload_n C d_Js_length_5 0 rfl ?_
  have h2 : crd (some (0 : Int32)) (fun r => some (jshr (nI (lenS.getD j 0)) r)) = some rs := by
    rw [← hf]
    show some (jshr (nI (lenS.getD j 0)) 0) = _
    rw [show jshr (nI (lenS.getD j 0)) 0 = nI (lenS.getD j 0) from by unfold jshr; exact sc_shr0 (by rcases (show j = 0 ∨ j = 1 ∨ j = 2 ∨ j = 3 ∨ j = 4 ∨ j = 5 by omega) with rfl | rfl | rfl | rfl | rfl | rfl <;> decide)]
  refine x_cxr (d := 0) C d_Js_length_6 wd419 cm_Js_coder hj [] rfl rfl (by decide) (Nat.le_of_ble_eq_true rfl) h2 (fun r h => by cases h; exact m_Js_coder hj) (fun r hf hb => ?_)
  refine x_ishr C d_Js_length_9 ?_
  exact x_retR hR d_Js_length_10 hf trivial
theorem m_Jp_checkIndex {w : Ww} {l0 : Launch} {sh : List Sh} {S : St} {i k : Int32} {va : Value} (hva : va = .null ∨ ∃ t : Nat, va = .ref t) (h0 : ¬ i < 0) (h1 : i < k) : MI sh w l0 y_Jp_checkIndex b_Jp_checkIndex 3 .int 0 [.int i, .int k, va] S i S bzT := by
  have hf : (if i < 0 then (none : Option Int32) else if i < k then some i else none) = some i := by rw [if_neg h0, if_pos h1]
  rcases hva with rfl | ⟨t, rfl⟩
  · refine MI.of (by decide) (Nat.le_of_ble_eq_true rfl) rfl (fun _ _ => rfl) (fun x hnL C hR => ?_)
    refine x_iload_n C d_Jp_checkIndex_0 0 rfl ?_
    refine x_if_lt C d_Jp_checkIndex_1 hf (fun hf => by cases hf) (fun hf => ?_)
    refine x_iload_n C d_Jp_checkIndex_4 0 rfl ?_
    refine x_iload_n C d_Jp_checkIndex_5 1 rfl ?_
    refine x_icmp_lt C d_Jp_checkIndex_6 hf (fun hf => ?_) (fun hf => by cases hf)
    refine x_iload_n C d_Jp_checkIndex_16 0 rfl ?_
    exact x_retR hR d_Jp_checkIndex_17 hf trivial
  · refine MI.of (by decide) (Nat.le_of_ble_eq_true rfl) rfl (fun _ _ => rfl) (fun x hnL C hR => ?_)
    refine x_iload_n C d_Jp_checkIndex_0 0 rfl ?_
    refine x_if_lt C d_Jp_checkIndex_1 hf (fun hf => by cases hf) (fun hf => ?_)
    refine x_iload_n C d_Jp_checkIndex_4 0 rfl ?_
    refine x_iload_n C d_Jp_checkIndex_5 1 rfl ?_
    refine x_icmp_lt C d_Jp_checkIndex_6 hf (fun hf => ?_) (fun hf => by cases hf)
    refine x_iload_n C d_Jp_checkIndex_16 0 rfl ?_
    exact x_retR hR d_Jp_checkIndex_17 hf trivial
theorem m_Js_checkIndex {w : Ww} {l0 : Launch} {sh : List Sh} {S : St} {i k : Int32} (h0 : ¬ i < 0) (h1 : i < k) : MV sh w l0 y_Js_checkIndex b_Js_checkIndex 2 1 [.int i, .int k] S S := by
  refine MV.of (by decide) (Nat.le_of_ble_eq_true rfl) rfl (fun x hnL C hR => ?_)
  refine x_iload_n C d_Js_checkIndex_0 0 rfl ?_
  refine x_iload_n C d_Js_checkIndex_1 1 rfl ?_
  refine x_form C d_Js_checkIndex_2 wd439 (fun va hva => ?_)
  have hf : crd (some i) (fun _ => some S) = some S := rfl
  refine x_csr (d := 0) C d_Js_checkIndex_5 wd441 cm_Jp_checkIndex [.int i, .int k, va] rfl rfl (by decide) (Nat.le_of_ble_eq_true rfl) hf (fun r h => by cases h; exact m_Jp_checkIndex hva h0 h1) (fun r hf hb => ?_)
  refine x_pop C d_Js_checkIndex_8 rfl ?_
  exact hR _ _ _ d_Js_checkIndex_9.1 hf
theorem m_Jt_charAt {w : Ww} {l0 : Launch} {sh : List Sh} {S : St} {j : Nat} {i rs : Int32} (hj : j < 6) (hf : Js_charAt j i = some rs) : MI sh w l0 y_Jt_charAt b_Jt_charAt 2 .char 2 [.ref (w.2.2.2.2 j), .int i] S rs S bzC := by
  refine MI.of (by decide) (Nat.le_of_ble_eq_true rfl) rfl (fun v hb => hb) (fun x hnL C hR => ?_)
  rw [Js_charAt] at hf
  obtain ⟨hi, hi2, hf⟩ := chk_in hf
  have hlen : lenS.getD j 0 < 2 ^ 31 := by rcases (show j = 0 ∨ j = 1 ∨ j = 2 ∨ j = 3 ∨ j = 4 ∨ j = 5 by omega) with rfl | rfl | rfl | rfl | rfl | rfl <;> decide
  obtain ⟨k, hk, rfl⟩ := vp_in_of hi hlen
  refine x_iload_n C d_Jt_charAt_0 1 rfl ?_
  refine x_aload_n C d_Jt_charAt_1 0 rfl ?_
  refine x_strL C d_Jt_charAt_2 hj ?_
  have h2 : cav (some S) (fun S1 => some S1) = some S := rfl
  refine x_csv (d := 1) C d_Jt_charAt_3 wd436 cm_Js_checkIndex [.int (nI k), .int (nI (lenS.getD j 0))] rfl rfl (by decide) (Nat.le_of_ble_eq_true rfl) h2 (fun S1 h => by cases h; exact m_Js_checkIndex (nI_pos (by omega)) (nI_lt hk hlen)) (fun S1 hf2 => ?_)
  cases hf2
  refine x_aload_n C d_Jt_charAt_6 0 rfl ?_
  refine x_iload_n C d_Jt_charAt_7 1 rfl ?_
  refine x_strB C d_Jt_charAt_8 hj (vp_in_nI hk hlen) ?_
  refine x_sipush C d_Jt_charAt_9 255 ?_
  refine x_iand C d_Jt_charAt_12 ?_
  refine x_i2c C d_Jt_charAt_13 ?_
  exact x_retR hR d_Jt_charAt_14 (by rw [sc_c2]; exact hf) (by rw [sc_c2]; exact sc_nar _)
theorem m_Js_charAt {w : Ww} {l0 : Launch} {sh : List Sh} {S : St} {j : Nat} {i rs : Int32} (hj : j < 6) (hf : Js_charAt j i = some rs) : MI sh w l0 y_Js_charAt b_Js_charAt 2 .char 3 [.ref (w.2.2.2.1 j), .int i] S rs S bzC := by
  refine MI.of (by decide) (Nat.le_of_ble_eq_true rfl) rfl (fun v hb => hb) (fun x hnL C hR => ?_)
  refine x_aload_n C d_Js_charAt_0 0 rfl ?_
  have h2 : crd (some (1 : Int32)) (fun r => if r = 0 then none else crd (Js_charAt j i) fun r => some r) = some rs := by
    show (if (1 : Int32) = 0 then none else crd (Js_charAt j i) fun r => some r) = some rs
    rw [if_neg (by decide), hf]
    rfl
  refine x_cxr (d := 0) C d_Js_charAt_1 wd429 cm_Js_isLatin1 hj [] rfl rfl (by decide) (Nat.le_of_ble_eq_true rfl) h2 (fun r h => by cases h; exact m_Js_isLatin1 hj) (fun r hf hb => ?_)
  refine x_if_eq C d_Js_charAt_4 hf (fun hf => by cases hf) (fun hf => ?_)
  refine x_aload_n C d_Js_charAt_7 0 rfl ?_
  refine x_strV C d_Js_charAt_8 hj wd1369 ?_
  refine x_iload_n C d_Js_charAt_11 1 rfl ?_
  refine x_csr (d := 2) C d_Js_charAt_12 wd433 cm_Jt_charAt [.ref (w.2.2.2.2 j), .int i] rfl rfl (by decide) (Nat.le_of_ble_eq_true rfl) hf (fun r h => m_Jt_charAt hj h) (fun r hf hb => ?_)
  exact x_retR hR d_Js_charAt_15 hf hb
end STRS
