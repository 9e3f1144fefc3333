theorem m_8 : (Cond.initialized "java/lang/String") ∈ wAll := List.mem_filter.mpr ⟨List.mem_append_right _ (List.mem_of_getElem? (i := 8) (by decide +kernel)), by decide +kernel⟩
theorem m_9 : (Cond.initialized "java/lang/StringLatin1") ∈ wAll := List.mem_filter.mpr ⟨List.mem_append_right _ (List.mem_of_getElem? (i := 9) (by decide +kernel)), by decide +kernel⟩
theorem m_260 : (Cond.instanceMethod ({ cls := "java/lang/String", name := "indexOf", desc := "(I)I" } : Jvm.MethodName)) ∈ wAll := List.mem_filter.mpr ⟨List.mem_append_right _ (List.mem_of_getElem? (i := 260) (by decide +kernel)), by decide +kernel⟩
theorem m_261 : (Cond.selects "java/lang/String" ({ cls := "java/lang/String", name := "indexOf", desc := "(I)I" } : Jvm.MethodName) ({ cls := "java/lang/String", name := "indexOf", desc := "(I)I" } : Jvm.MethodName)) ∈ wAll := List.mem_filter.mpr ⟨List.mem_append_right _ (List.mem_of_getElem? (i := 261) (by decide +kernel)), by decide +kernel⟩
theorem m_262 : (Cond.code ({ cls := "java/lang/String", name := "indexOf", desc := "(I)I" } : Jvm.MethodName) prog_10_method_79_code (2 : Nat) (Option.some Jvm.ClassFile.FieldType.int)) ∈ wAll := List.mem_filter.mpr ⟨List.mem_append_right _ (List.mem_of_getElem? (i := 262) (by decide +kernel)), by decide +kernel⟩
theorem m_263 : (Cond.methodLink "java/lang/String" (633 : Nat) ({ cls := "java/lang/String", name := "indexOf", desc := "(II)I" } : Jvm.MethodName)) ∈ wAll := List.mem_filter.mpr ⟨List.mem_append_right _ (List.mem_of_getElem? (i := 263) (by decide +kernel)), by decide +kernel⟩
theorem m_264 : (Cond.instanceMethod ({ cls := "java/lang/String", name := "indexOf", desc := "(II)I" } : Jvm.MethodName)) ∈ wAll := List.mem_filter.mpr ⟨List.mem_append_right _ (List.mem_of_getElem? (i := 264) (by decide +kernel)), by decide +kernel⟩
theorem m_265 : (Cond.selects "java/lang/String" ({ cls := "java/lang/String", name := "indexOf", desc := "(II)I" } : Jvm.MethodName) ({ cls := "java/lang/String", name := "indexOf", desc := "(II)I" } : Jvm.MethodName)) ∈ wAll := List.mem_filter.mpr ⟨List.mem_append_right _ (List.mem_of_getElem? (i := 265) (by decide +kernel)), by decide +kernel⟩
theorem m_266 : (Cond.code ({ cls := "java/lang/String", name := "indexOf", desc := "(II)I" } : Jvm.MethodName) prog_10_method_80_code (3 : Nat) (Option.some Jvm.ClassFile.FieldType.int)) ∈ wAll := List.mem_filter.mpr ⟨List.mem_append_right _ (List.mem_of_getElem? (i := 266) (by decide +kernel)), by decide +kernel⟩
theorem m_267 : (Cond.methodLink "java/lang/String" (492 : Nat) ({ cls := "java/lang/String", name := "isLatin1", desc := "()Z" } : Jvm.MethodName)) ∈ wAll := List.mem_filter.mpr ⟨List.mem_append_right _ (List.mem_of_getElem? (i := 267) (by decide +kernel)), by decide +kernel⟩
theorem m_268 : (Cond.instanceMethod ({ cls := "java/lang/String", name := "isLatin1", desc := "()Z" } : Jvm.MethodName)) ∈ wAll := List.mem_filter.mpr ⟨List.mem_append_right _ (List.mem_of_getElem? (i := 268) (by decide +kernel)), by decide +kernel⟩
theorem m_269 : (Cond.selects "java/lang/String" ({ cls := "java/lang/String", name := "isLatin1", desc := "()Z" } : Jvm.MethodName) ({ cls := "java/lang/String", name := "isLatin1", desc := "()Z" } : Jvm.MethodName)) ∈ wAll := List.mem_filter.mpr ⟨List.mem_append_right _ (List.mem_of_getElem? (i := 269) (by decide +kernel)), by decide +kernel⟩
theorem m_270 : (Cond.code ({ cls := "java/lang/String", name := "isLatin1", desc := "()Z" } : Jvm.MethodName) prog_10_method_154_code (1 : Nat) (Option.some Jvm.ClassFile.FieldType.boolean)) ∈ wAll := List.mem_filter.mpr ⟨List.mem_append_right _ (List.mem_of_getElem? (i := 270) (by decide +kernel)), by decide +kernel⟩
theorem m_271 : (Cond.fieldLink "java/lang/String" (38 : Nat) "java/lang/String" "COMPACT_STRINGS" "Z") ∈ wAll := List.mem_filter.mpr ⟨List.mem_append_right _ (List.mem_of_getElem? (i := 271) (by decide +kernel)), by decide +kernel⟩
theorem m_273 : (Cond.methodLink "java/lang/String" (505 : Nat) ({ cls := "java/lang/String", name := "length", desc := "()I" } : Jvm.MethodName)) ∈ wAll := List.mem_filter.mpr ⟨List.mem_append_right _ (List.mem_of_getElem? (i := 273) (by decide +kernel)), by decide +kernel⟩
theorem m_274 : (Cond.instanceMethod ({ cls := "java/lang/String", name := "length", desc := "()I" } : Jvm.MethodName)) ∈ wAll := List.mem_filter.mpr ⟨List.mem_append_right _ (List.mem_of_getElem? (i := 274) (by decide +kernel)), by decide +kernel⟩
theorem m_275 : (Cond.selects "java/lang/String" ({ cls := "java/lang/String", name := "length", desc := "()I" } : Jvm.MethodName) ({ cls := "java/lang/String", name := "length", desc := "()I" } : Jvm.MethodName)) ∈ wAll := List.mem_filter.mpr ⟨List.mem_append_right _ (List.mem_of_getElem? (i := 275) (by decide +kernel)), by decide +kernel⟩
theorem m_276 : (Cond.code ({ cls := "java/lang/String", name := "length", desc := "()I" } : Jvm.MethodName) prog_10_method_54_code (1 : Nat) (Option.some Jvm.ClassFile.FieldType.int)) ∈ wAll := List.mem_filter.mpr ⟨List.mem_append_right _ (List.mem_of_getElem? (i := 276) (by decide +kernel)), by decide +kernel⟩
theorem m_277 : (Cond.methodLink "java/lang/String" (335 : Nat) ({ cls := "java/lang/String", name := "coder", desc := "()B" } : Jvm.MethodName)) ∈ wAll := List.mem_filter.mpr ⟨List.mem_append_right _ (List.mem_of_getElem? (i := 277) (by decide +kernel)), by decide +kernel⟩
theorem m_278 : (Cond.instanceMethod ({ cls := "java/lang/String", name := "coder", desc := "()B" } : Jvm.MethodName)) ∈ wAll := List.mem_filter.mpr ⟨List.mem_append_right _ (List.mem_of_getElem? (i := 278) (by decide +kernel)), by decide +kernel⟩
theorem m_279 : (Cond.selects "java/lang/String" ({ cls := "java/lang/String", name := "coder", desc := "()B" } : Jvm.MethodName) ({ cls := "java/lang/String", name := "coder", desc := "()B" } : Jvm.MethodName)) ∈ wAll := List.mem_filter.mpr ⟨List.mem_append_right _ (List.mem_of_getElem? (i := 279) (by decide +kernel)), by decide +kernel⟩
theorem m_280 : (Cond.code ({ cls := "java/lang/String", name := "coder", desc := "()B" } : Jvm.MethodName) prog_10_method_152_code (1 : Nat) (Option.some Jvm.ClassFile.FieldType.byte)) ∈ wAll := List.mem_filter.mpr ⟨List.mem_append_right _ (List.mem_of_getElem? (i := 280) (by decide +kernel)), by decide +kernel⟩
theorem m_281 : (Cond.methodLink "java/lang/String" (637 : Nat) ({ cls := "java/lang/StringLatin1", name := "indexOf", desc := "([BIII)I" } : Jvm.MethodName)) ∈ wAll := List.mem_filter.mpr ⟨List.mem_append_right _ (List.mem_of_getElem? (i := 281) (by decide +kernel)), by decide +kernel⟩
theorem m_282 : (Cond.static ({ cls := "java/lang/StringLatin1", name := "indexOf", desc := "([BIII)I" } : Jvm.MethodName)) ∈ wAll := List.mem_filter.mpr ⟨List.mem_append_right _ (List.mem_of_getElem? (i := 282) (by decide +kernel)), by decide +kernel⟩
theorem m_283 : (Cond.code ({ cls := "java/lang/StringLatin1", name := "indexOf", desc := "([BIII)I" } : Jvm.MethodName) prog_11_method_22_code (4 : Nat) (Option.some Jvm.ClassFile.FieldType.int)) ∈ wAll := List.mem_filter.mpr ⟨List.mem_append_right _ (List.mem_of_getElem? (i := 283) (by decide +kernel)), by decide +kernel⟩
theorem m_284 : (Cond.methodLink "java/lang/StringLatin1" (88 : Nat) ({ cls := "java/lang/StringLatin1", name := "canEncode", desc := "(I)Z" } : Jvm.MethodName)) ∈ wAll := List.mem_filter.mpr ⟨List.mem_append_right _ (List.mem_of_getElem? (i := 284) (by decide +kernel)), by decide +kernel⟩
theorem m_285 : (Cond.static ({ cls := "java/lang/StringLatin1", name := "canEncode", desc := "(I)Z" } : Jvm.MethodName)) ∈ wAll := List.mem_filter.mpr ⟨List.mem_append_right _ (List.mem_of_getElem? (i := 285) (by decide +kernel)), by decide +kernel⟩
theorem m_286 : (Cond.code ({ cls := "java/lang/StringLatin1", name := "canEncode", desc := "(I)Z" } : Jvm.MethodName) prog_11_method_4_code (1 : Nat) (Option.some Jvm.ClassFile.FieldType.boolean)) ∈ wAll := List.mem_filter.mpr ⟨List.mem_append_right _ (List.mem_of_getElem? (i := 286) (by decide +kernel)), by decide +kernel⟩
theorem m_287 : (Cond.methodLink "java/lang/StringLatin1" (92 : Nat) ({ cls := "java/lang/Math", name := "max", desc := "(II)I" } : Jvm.MethodName)) ∈ wAll := List.mem_filter.mpr ⟨List.mem_append_right _ (List.mem_of_getElem? (i := 287) (by decide +kernel)), by decide +kernel⟩
theorem m_288 : (Cond.static ({ cls := "java/lang/Math", name := "max", desc := "(II)I" } : Jvm.MethodName)) ∈ wAll := List.mem_filter.mpr ⟨List.mem_append_right _ (List.mem_of_getElem? (i := 288) (by decide +kernel)), by decide +kernel⟩
theorem m_289 : (Cond.code ({ cls := "java/lang/Math", name := "max", desc := "(II)I" } : Jvm.MethodName) prog_9_method_65_code (2 : Nat) (Option.some Jvm.ClassFile.FieldType.int)) ∈ wAll := List.mem_filter.mpr ⟨List.mem_append_right _ (List.mem_of_getElem? (i := 289) (by decide +kernel)), by decide +kernel⟩
theorem m_290 : (Cond.methodLink "java/lang/StringLatin1" (38 : Nat) ({ cls := "java/lang/Math", name := "min", desc := "(II)I" } : Jvm.MethodName)) ∈ wAll := List.mem_filter.mpr ⟨List.mem_append_right _ (List.mem_of_getElem? (i := 290) (by decide +kernel)), by decide +kernel⟩
theorem m_291 : (Cond.methodLink "java/lang/StringLatin1" (95 : Nat) ({ cls := "java/lang/StringLatin1", name := "indexOfChar", desc := "([BIII)I" } : Jvm.MethodName)) ∈ wAll := List.mem_filter.mpr ⟨List.mem_append_right _ (List.mem_of_getElem? (i := 291) (by decide +kernel)), by decide +kernel⟩
theorem m_292 : (Cond.static ({ cls := "java/lang/StringLatin1", name := "indexOfChar", desc := "([BIII)I" } : Jvm.MethodName)) ∈ wAll := List.mem_filter.mpr ⟨List.mem_append_right _ (List.mem_of_getElem? (i := 292) (by decide +kernel)), by decide +kernel⟩
theorem m_293 : (Cond.code ({ cls := "java/lang/StringLatin1", name := "indexOfChar", desc := "([BIII)I" } : Jvm.MethodName) prog_11_method_23_code (6 : Nat) (Option.some Jvm.ClassFile.FieldType.int)) ∈ wAll := List.mem_filter.mpr ⟨List.mem_append_right _ (List.mem_of_getElem? (i := 293) (by decide +kernel)), by decide +kernel⟩
theorem m_544 : (Cond.fieldLink "java/lang/String" (15 : Nat) "java/lang/String" "coder" "B") ∈ wAll := List.mem_filter.mpr ⟨List.mem_append_right _ (List.mem_of_getElem? (i := 544) (by decide +kernel)), by decide +kernel⟩
theorem m_545 : (Cond.fieldLink "java/lang/String" (9 : Nat) "java/lang/String" "value" "[B") ∈ wAll := List.mem_filter.mpr ⟨List.mem_append_right _ (List.mem_of_getElem? (i := 545) (by decide +kernel)), by decide +kernel⟩
theorem d_La_canEncode_0 : decode prog_11_method_4_code 0 = .ok (.iload_n 0, 1) := by decide +kernel
theorem d_La_canEncode_1 : decode prog_11_method_4_code 1 = .ok (.ifCond .lt 14, 3) := by decide +kernel
theorem d_La_canEncode_4 : decode prog_11_method_4_code 4 = .ok (.iload_n 0, 1) := by decide +kernel
theorem d_La_canEncode_5 : decode prog_11_method_4_code 5 = .ok (.sipush 255, 3) := by decide +kernel
theorem d_La_canEncode_8 : decode prog_11_method_4_code 8 = .ok (.if_icmp .gt 7, 3) := by decide +kernel
theorem d_La_canEncode_11 : decode prog_11_method_4_code 11 = .ok (.iconst 1, 1) := by decide +kernel
theorem d_La_canEncode_12 : decode prog_11_method_4_code 12 = .ok (.goto 4, 3) := by decide +kernel
theorem d_La_canEncode_15 : decode prog_11_method_4_code 15 = .ok (.iconst 0, 1) := by decide +kernel
theorem d_La_canEncode_16 : decode prog_11_method_4_code 16 = .ok (.ireturn, 1) := by decide +kernel
theorem d_La_indexOfChar_0 : decode prog_11_method_23_code 0 = .ok (.iload_n 1, 1) := by decide +kernel
theorem d_La_indexOfChar_1 : decode prog_11_method_23_code 1 = .ok (.i2b, 1) := by decide +kernel
theorem d_La_indexOfChar_2 : decode prog_11_method_23_code 2 = .ok (.istore 4, 2) := by decide +kernel
theorem d_La_indexOfChar_4 : decode prog_11_method_23_code 4 = .ok (.iload_n 2, 1) := by decide +kernel
theorem d_La_indexOfChar_5 : decode prog_11_method_23_code 5 = .ok (.istore 5, 2) := by decide +kernel
theorem d_La_indexOfChar_7 : decode prog_11_method_23_code 7 = .ok (.iload 5, 2) := by decide +kernel
theorem d_La_indexOfChar_9 : decode prog_11_method_23_code 9 = .ok (.iload_n 3, 1) := by decide +kernel
theorem d_La_indexOfChar_10 : decode prog_11_method_23_code 10 = .ok (.if_icmp .ge 21, 3) := by decide +kernel
theorem d_La_indexOfChar_13 : decode prog_11_method_23_code 13 = .ok (.aload_n 0, 1) := by decide +kernel
theorem d_La_indexOfChar_14 : decode prog_11_method_23_code 14 = .ok (.iload 5, 2) := by decide +kernel
theorem d_La_indexOfChar_16 : decode prog_11_method_23_code 16 = .ok (.baload, 1) := by decide +kernel
theorem d_La_indexOfChar_17 : decode prog_11_method_23_code 17 = .ok (.iload 4, 2) := by decide +kernel
theorem d_La_indexOfChar_19 : decode prog_11_method_23_code 19 = .ok (.if_icmp .ne 6, 3) := by decide +kernel
theorem d_La_indexOfChar_22 : decode prog_11_method_23_code 22 = .ok (.iload 5, 2) := by decide +kernel
theorem d_La_indexOfChar_24 : decode prog_11_method_23_code 24 = .ok (.ireturn, 1) := by decide +kernel
theorem d_La_indexOfChar_25 : decode prog_11_method_23_code 25 = .ok (.iinc 5 1, 3) := by decide +kernel
theorem d_La_indexOfChar_28 : decode prog_11_method_23_code 28 = .ok (.goto (-21), 3) := by decide +kernel
theorem d_La_indexOfChar_31 : decode prog_11_method_23_code 31 = .ok (.iconst (-1), 1) := by decide +kernel
theorem d_La_indexOfChar_32 : decode prog_11_method_23_code 32 = .ok (.ireturn, 1) := by decide +kernel
theorem d_La_indexOf_0 : decode prog_11_method_22_code 0 = .ok (.iload_n 1, 1) := by decide +kernel
theorem d_La_indexOf_1 : decode prog_11_method_22_code 1 = .ok (.invokestatic 88, 3) := by decide +kernel
theorem d_La_indexOf_4 : decode prog_11_method_22_code 4 = .ok (.ifCond .ne 5, 3) := by decide +kernel
theorem d_La_indexOf_7 : decode prog_11_method_22_code 7 = .ok (.iconst (-1), 1) := by decide +kernel
theorem d_La_indexOf_8 : decode prog_11_method_22_code 8 = .ok (.ireturn, 1) := by decide +kernel
theorem d_La_indexOf_9 : decode prog_11_method_22_code 9 = .ok (.iload_n 2, 1) := by decide +kernel
theorem d_La_indexOf_10 : decode prog_11_method_22_code 10 = .ok (.iconst 0, 1) := by decide +kernel
theorem d_La_indexOf_11 : decode prog_11_method_22_code 11 = .ok (.invokestatic 92, 3) := by decide +kernel
theorem d_La_indexOf_14 : decode prog_11_method_22_code 14 = .ok (.istore_n 2, 1) := by decide +kernel
theorem d_La_indexOf_15 : decode prog_11_method_22_code 15 = .ok (.iload_n 3, 1) := by decide +kernel
theorem d_La_indexOf_16 : decode prog_11_method_22_code 16 = .ok (.aload_n 0, 1) := by decide +kernel
theorem d_La_indexOf_17 : decode prog_11_method_22_code 17 = .ok (.arraylength, 1) := by decide +kernel
theorem d_La_indexOf_18 : decode prog_11_method_22_code 18 = .ok (.invokestatic 38, 3) := by decide +kernel
theorem d_La_indexOf_21 : decode prog_11_method_22_code 21 = .ok (.istore_n 3, 1) := by decide +kernel
theorem d_La_indexOf_22 : decode prog_11_method_22_code 22 = .ok (.iload_n 2, 1) := by decide +kernel
theorem d_La_indexOf_23 : decode prog_11_method_22_code 23 = .ok (.iload_n 3, 1) := by decide +kernel
theorem d_La_indexOf_24 : decode prog_11_method_22_code 24 = .ok (.if_icmp .lt 5, 3) := by decide +kernel
theorem d_La_indexOf_27 : decode prog_11_method_22_code 27 = .ok (.iconst (-1), 1) := by decide +kernel
theorem d_La_indexOf_28 : decode prog_11_method_22_code 28 = .ok (.ireturn, 1) := by decide +kernel
theorem d_La_indexOf_29 : decode prog_11_method_22_code 29 = .ok (.aload_n 0, 1) := by decide +kernel
theorem d_La_indexOf_30 : decode prog_11_method_22_code 30 = .ok (.iload_n 1, 1) := by decide +kernel
theorem d_La_indexOf_31 : decode prog_11_method_22_code 31 = .ok (.iload_n 2, 1) := by decide +kernel
theorem d_La_indexOf_32 : decode prog_11_method_22_code 32 = .ok (.iload_n 3, 1) := by decide +kernel
theorem d_La_indexOf_33 : decode prog_11_method_22_code 33 = .ok (.invokestatic 95, 3) := by decide +kernel
theorem d_La_indexOf_36 : decode prog_11_method_22_code 36 = .ok (.ireturn, 1) := by decide +kernel
theorem d_St_isLatin1_0 : decode prog_10_method_154_code 0 = .ok (.getstatic 38, 3) := by decide +kernel
theorem d_St_isLatin1_3 : decode prog_10_method_154_code 3 = .ok (.ifCond .eq 14, 3) := by decide +kernel
theorem d_St_isLatin1_6 : decode prog_10_method_154_code 6 = .ok (.aload_n 0, 1) := by decide +kernel
theorem d_St_isLatin1_7 : decode prog_10_method_154_code 7 = .ok (.getfield 15, 3) := by decide +kernel
theorem d_St_isLatin1_10 : decode prog_10_method_154_code 10 = .ok (.ifCond .ne 7, 3) := by decide +kernel
theorem d_St_isLatin1_13 : decode prog_10_method_154_code 13 = .ok (.iconst 1, 1) := by decide +kernel
theorem d_St_isLatin1_14 : decode prog_10_method_154_code 14 = .ok (.goto 4, 3) := by decide +kernel
theorem d_St_isLatin1_17 : decode prog_10_method_154_code 17 = .ok (.iconst 0, 1) := by decide +kernel
theorem d_St_isLatin1_18 : decode prog_10_method_154_code 18 = .ok (.ireturn, 1) := by decide +kernel
theorem d_St_coder_0 : decode prog_10_method_152_code 0 = .ok (.getstatic 38, 3) := by decide +kernel
theorem d_St_coder_3 : decode prog_10_method_152_code 3 = .ok (.ifCond .eq 10, 3) := by decide +kernel
theorem d_St_coder_6 : decode prog_10_method_152_code 6 = .ok (.aload_n 0, 1) := by decide +kernel
theorem d_St_coder_7 : decode prog_10_method_152_code 7 = .ok (.getfield 15, 3) := by decide +kernel
theorem d_St_coder_10 : decode prog_10_method_152_code 10 = .ok (.goto 4, 3) := by decide +kernel
theorem d_St_coder_13 : decode prog_10_method_152_code 13 = .ok (.iconst 1, 1) := by decide +kernel
theorem d_St_coder_14 : decode prog_10_method_152_code 14 = .ok (.ireturn, 1) := by decide +kernel
theorem d_St_length_0 : decode prog_10_method_54_code 0 = .ok (.aload_n 0, 1) := by decide +kernel
theorem d_St_length_1 : decode prog_10_method_54_code 1 = .ok (.getfield 9, 3) := by decide +kernel
theorem d_St_length_4 : decode prog_10_method_54_code 4 = .ok (.arraylength, 1) := by decide +kernel
theorem d_St_length_5 : decode prog_10_method_54_code 5 = .ok (.aload_n 0, 1) := by decide +kernel
theorem d_St_length_6 : decode prog_10_method_54_code 6 = .ok (.invokevirtual 335, 3) := by decide +kernel
theorem d_St_length_9 : decode prog_10_method_54_code 9 = .ok (.ishr, 1) := by decide +kernel
theorem d_St_length_10 : decode prog_10_method_54_code 10 = .ok (.ireturn, 1) := by decide +kernel
theorem d_St_indexOf2_0 : decode prog_10_method_80_code 0 = .ok (.aload_n 0, 1) := by decide +kernel
theorem d_St_indexOf2_1 : decode prog_10_method_80_code 1 = .ok (.invokevirtual 492, 3) := by decide +kernel
theorem d_St_indexOf2_4 : decode prog_10_method_80_code 4 = .ok (.ifCond .eq 19, 3) := by decide +kernel
theorem d_St_indexOf2_7 : decode prog_10_method_80_code 7 = .ok (.aload_n 0, 1) := by decide +kernel
theorem d_St_indexOf2_8 : decode prog_10_method_80_code 8 = .ok (.getfield 9, 3) := by decide +kernel
theorem d_St_indexOf2_11 : decode prog_10_method_80_code 11 = .ok (.iload_n 1, 1) := by decide +kernel
theorem d_St_indexOf2_12 : decode prog_10_method_80_code 12 = .ok (.iload_n 2, 1) := by decide +kernel
theorem d_St_indexOf2_13 : decode prog_10_method_80_code 13 = .ok (.aload_n 0, 1) := by decide +kernel
theorem d_St_indexOf2_14 : decode prog_10_method_80_code 14 = .ok (.invokevirtual 505, 3) := by decide +kernel
theorem d_St_indexOf2_17 : decode prog_10_method_80_code 17 = .ok (.invokestatic 637, 3) := by decide +kernel
theorem d_St_indexOf2_20 : decode prog_10_method_80_code 20 = .ok (.goto 16, 3) := by decide +kernel
theorem d_St_indexOf2_36 : decode prog_10_method_80_code 36 = .ok (.ireturn, 1) := by decide +kernel
theorem d_St_indexOf1_0 : decode prog_10_method_79_code 0 = .ok (.aload_n 0, 1) := by decide +kernel
theorem d_St_indexOf1_1 : decode prog_10_method_79_code 1 = .ok (.iload_n 1, 1) := by decide +kernel
theorem d_St_indexOf1_2 : decode prog_10_method_79_code 2 = .ok (.iconst 0, 1) := by decide +kernel
theorem d_St_indexOf1_3 : decode prog_10_method_79_code 3 = .ok (.invokevirtual 633, 3) := by decide +kernel
theorem d_St_indexOf1_6 : decode prog_10_method_79_code 6 = .ok (.ireturn, 1) := by decide +kernel
theorem ok_La_canEncode : okS y_La_canEncode prog_11_method_4_code 1 (some .boolean) 1 := ⟨m_285, m_9, m_286, by decide +kernel⟩
theorem ok_La_indexOfChar : okS y_La_indexOfChar prog_11_method_23_code 6 (some .int) 4 := ⟨m_292, m_9, m_293, by decide +kernel⟩
theorem ok_La_indexOf : okS y_La_indexOf prog_11_method_22_code 4 (some .int) 4 := ⟨m_282, m_9, m_283, by decide +kernel⟩
theorem ok_St_isLatin1 : okM y_St_isLatin1 prog_10_method_154_code 1 (some .boolean) 0 := ⟨m_268, m_269, m_8, m_270, by decide +kernel⟩
theorem ok_St_coder : okM y_St_coder prog_10_method_152_code 1 (some .byte) 0 := ⟨m_278, m_279, m_8, m_280, by decide +kernel⟩
theorem ok_St_length : okM y_St_length prog_10_method_54_code 1 (some .int) 0 := ⟨m_274, m_275, m_8, m_276, by decide +kernel⟩
theorem ok_St_indexOf2 : okM y_St_indexOf2 prog_10_method_80_code 3 (some .int) 2 := ⟨m_264, m_265, m_8, m_266, by decide +kernel⟩
theorem ok_St_indexOf1 : okM y_St_indexOf1 prog_10_method_79_code 2 (some .int) 1 := ⟨m_260, m_261, m_8, m_262, by decide +kernel⟩
def f_La_canEncode (N : Nat) (x0 : Int32) : Option (Int32) := (if x0 < 0 then some 0 else (if 255 < x0 then some 0 else some 1))
def f_La_indexOfChar_7 (N : Nat) (i0 : Nat) (x3 : Int32) : Nat → Int32 → Int32 → Option (Int32)
  | 0, _, _ => none
  | n + 1, x4, x5 => (if x3 ≤ x5 then some (-1) else (if i0 < strN then (if inB x5 (strLen.getD i0 0) = true then (if ((strByt.getD i0 []).getD x5.toNatClampNeg 0) = x4 then some x5 else f_La_indexOfChar_7 N i0 x3 n x4 (x5 + 1)) else none) else none))
def f_La_indexOfChar (N : Nat) (i0 : Nat) (x1 : Int32) (x2 : Int32) (x3 : Int32) : Option (Int32) := f_La_indexOfChar_7 N i0 x3 N x1.toInt8.toInt32 x2
def f_La_indexOf (N : Nat) (i0 : Nat) (x1 : Int32) (x2 : Int32) (x3 : Int32) : Option (Int32) := ((f_La_canEncode N x1).bind fun z1 => (if z1 = 0 then some (-1) else (if i0 < strN then (if (if x2 < 0 then 0 else x2) < (if (Int32.ofNat (strLen.getD i0 0)) < x3 then (Int32.ofNat (strLen.getD i0 0)) else x3) then ((f_La_indexOfChar N i0 x1 (if x2 < 0 then 0 else x2) (if (Int32.ofNat (strLen.getD i0 0)) < x3 then (Int32.ofNat (strLen.getD i0 0)) else x3)).bind fun z5 => some z5) else some (-1)) else none)))
def f_St_isLatin1 (N : Nat) (i0 : Nat) : Option (Int32) := (if (1 : Int32) = 0 then some 0 else (if i0 < strN then (if (0 : Int32) = 0 then some 1 else some 0) else none))
def f_St_coder (N : Nat) (i0 : Nat) : Option (Int32) := (if (1 : Int32) = 0 then some 1 else (if i0 < strN then some 0 else none))
def f_St_length (N : Nat) (i0 : Nat) : Option (Int32) := (if i0 < strN then (if i0 < strN then (if i0 < strN then (f_St_coder N i0).bind fun z3 => some ((Int32.ofNat (strLen.getD i0 0)) >>> (z3 &&& 31)) else none) else none) else none)
def f_St_indexOf2 (N : Nat) (i0 : Nat) (x1 : Int32) (x2 : Int32) : Option (Int32) := (if i0 < strN then (f_St_isLatin1 N i0).bind fun z1 => (if z1 = 0 then none else (if i0 < strN then (if i0 < strN then (f_St_length N i0).bind fun z5 => ((f_La_indexOf N i0 x1 x2 z5).bind fun z7 => some z7) else none) else none)) else none)
def f_St_indexOf1 (N : Nat) (i0 : Nat) (x1 : Int32) : Option (Int32) := (if i0 < strN then (f_St_indexOf2 N i0 x1 0).bind fun z1 => some z1 else none)
set_option maxHeartbeats 4000000 in
set_option maxRecDepth 100000 in
theorem c_La_canEncode {l : Launch} {dC : Nat → ClassId} {dI : Nat → Nat → Nat} {cB cI : ClassId} {aK aV : Nat → Nat} (N : Nat) (x0 : Int32) (z : Int32) (h : f_La_canEncode N x0 = some z) : Ci l y_La_canEncode prog_11_method_4_code 1 (some .boolean) ({ frames := 0, cells := 0, slots := 0, locals := 0 }) (dC, dI) cB cI aK aV [.int x0] [] (fun A => (Qi (dC, dI) [] A z)) := by
  refine Ci_of (by decide) (Nat.le_of_ble_eq_true rfl) (fun p e s m below meth c A C hK hnm hA hP hD ls hl => ?_)
  obtain ⟨hx, hb, hr, hml, hown, hts, hlk⟩ := id C
  have hS : va_S A s.heap s.heap [] := va_S.rf
  have hl : lv_has ls 1 [(0, .int x0)] := hl
  rw [f_La_canEncode] at h
  refine lv_iload_n hx hb d_La_canEncode_0 rfl (lv_at hl 0 rfl) ?_
  refine lv_if_lt (tgt := 15) hx hb d_La_canEncode_1 (by decide) (fun c_1 => ?_) (fun c_1 => ?_)
  · replace h := itT h c_1
    refine lv_iconst (v := 0) hx hb d_La_canEncode_15 (by decide) ?_
    obtain rfl := Option.some.inj h
    exact W.zret (v := 0) hx hb hr rfl (fun t ht hW => ⟨⟨0, (), rfl, rfl, by rw [ht]; exact hP, hD⟩, hS.F ht⟩) hS.2.2 d_La_canEncode_16 hlk
  · replace h := itF h c_1
    refine lv_iload_n hx hb d_La_canEncode_4 rfl (lv_at hl 0 rfl) ?_
    refine lv_sipush (v := 255) hx hb d_La_canEncode_5 (by decide) ?_
    refine lv_icmp_gt (tgt := 15) hx hb d_La_canEncode_8 (by decide) (fun c_2 => ?_) (fun c_2 => ?_)
    · replace h := itT h c_2
      refine lv_iconst (v := 0) hx hb d_La_canEncode_15 (by decide) ?_
      obtain rfl := Option.some.inj h
      exact W.zret (v := 0) hx hb hr rfl (fun t ht hW => ⟨⟨0, (), rfl, rfl, by rw [ht]; exact hP, hD⟩, hS.F ht⟩) hS.2.2 d_La_canEncode_16 hlk
    · replace h := itF h c_2
      refine lv_iconst (v := 1) hx hb d_La_canEncode_11 (by decide) ?_
      refine lv_goto (tgt := 16) hx hb d_La_canEncode_12 (by decide) ?_
      obtain rfl := Option.some.inj h
      exact W.zret (v := 1) hx hb hr rfl (fun t ht hW => ⟨⟨1, (), rfl, rfl, by rw [ht]; exact hP, hD⟩, hS.F ht⟩) hS.2.2 d_La_canEncode_16 hlk
set_option maxHeartbeats 4000000 in
set_option maxRecDepth 100000 in
theorem k_La_indexOfChar_7 {p : Program} {l : Launch} {e : Env} {s : State} {m : MethodId} {args : Array Value} {below : List Frame} {meth : Method} {c : Code} {dC : Nat → ClassId} {dI : Nat → Nat → Nat} {cB cI : ClassId} {aK aV : Nat → Nat} {A : Nat → Prop} (C : cx p s m args meth c R_La prog_11_method_23_code 6 (some .int)) (hK : kx (dC, dI) cB cI aK aV A s) (hA : ∀ q : Nat, s.heap.size ≤ q → A q) (N : Nat) (i0 : Nat) (x3 : Int32) (z : Int32) :
    ∀ (n : Nat), ∀ (x4 : Int32) (x5 : Int32), f_La_indexOfChar_7 N i0 x3 n x4 x5 = some z → ∀ (H : Heap) (locs : List Loc), va_P (dC, dI) classes [] H → va_D A [] → va_S A s.heap H locs → ∀ ls : Array Slot, lv_has ls 6 [(0, .ref (aV i0)), (3, .int x3), (4, .int x4), (5, .int x5)] → W p l e ({ frames := 0, cells := 0, slots := 0, locals := 0 }) s m args below meth c H locs 0 0 (MQ below (Qi (dC, dI) [] A z) args s 0 0 A) (F0 m 7 ls []) := by
  obtain ⟨hx, hb, hr, hml, hown, hts, hlk⟩ := id C
  intro n
  induction n with
  | zero =>
    intro x4 x5 h
    rw [f_La_indexOfChar_7] at h
    cases h
  | succ n ih =>
    intro x4 x5 h H locs hP hD hS ls hl
    rw [f_La_indexOfChar_7] at h
    refine lv_iload hx hb d_La_indexOfChar_7 (lv_at hl 3 rfl) ?_
    refine lv_iload_n hx hb d_La_indexOfChar_9 rfl (lv_at hl 1 rfl) ?_
    refine lv_icmp_ge (tgt := 31) hx hb d_La_indexOfChar_10 (by decide) (fun c_1 => ?_) (fun c_1 => ?_)
    · replace h := itT h c_1
      refine lv_iconst (v := (-1)) hx hb d_La_indexOfChar_31 (by decide) ?_
      obtain rfl := Option.some.inj h
      exact W.iret (v := (-1)) hx hb hr (fun t ht hW => ⟨⟨(-1), (), rfl, rfl, by rw [ht]; exact hP, hD⟩, hS.F ht⟩) hS.2.2 d_La_indexOfChar_32 hlk
    · replace h := itF h c_1
      refine lv_aload_n hx hb d_La_indexOfChar_13 rfl (lv_at hl 0 rfl) ?_
      refine lv_iload hx hb d_La_indexOfChar_14 (lv_at hl 3 rfl) ?_
      obtain ⟨g_2, h⟩ := grd h
      obtain ⟨g_3, h⟩ := grd h
      refine va_tb hx hb (hK.2.2.1.1 _ g_2).2.2.2 hS (inB_in g_3) rfl d_La_indexOfChar_16 ?_
      refine lv_iload hx hb d_La_indexOfChar_17 (lv_at hl 2 rfl) ?_
      refine lv_icmp_ne (tgt := 25) hx hb d_La_indexOfChar_19 (by decide) (fun c_4 => ?_) (fun c_4 => ?_)
      · replace h := itF h c_4
        refine lv_iinc (v := x5 + 1) (lv' := [(5, .int (x5 + 1)), (0, .ref (aV i0)), (3, .int x3), (4, .int x4)]) hx hb d_La_indexOfChar_25 hl (k := 3) rfl rfl (by decide) rfl (fun ls hl => ?_)
        refine lv_goto (tgt := 7) hx hb d_La_indexOfChar_28 (by decide) ?_
        exact ih x4 (x5 + 1) h _ _ hP hD hS _ (lv_sub hl [1, 2, 3, 0] rfl)
      · replace h := itT h c_4
        refine lv_iload hx hb d_La_indexOfChar_22 (lv_at hl 3 rfl) ?_
        obtain rfl := Option.some.inj h
        exact W.iret (v := x5) hx hb hr (fun t ht hW => ⟨⟨x5, (), rfl, rfl, by rw [ht]; exact hP, hD⟩, hS.F ht⟩) hS.2.2 d_La_indexOfChar_24 hlk
set_option maxHeartbeats 4000000 in
set_option maxRecDepth 100000 in
theorem c_La_indexOfChar {l : Launch} {dC : Nat → ClassId} {dI : Nat → Nat → Nat} {cB cI : ClassId} {aK aV : Nat → Nat} (N : Nat) (i0 : Nat) (x1 : Int32) (x2 : Int32) (x3 : Int32) (z : Int32) (h : f_La_indexOfChar N i0 x1 x2 x3 = some z) : Ci l y_La_indexOfChar prog_11_method_23_code 6 (some .int) ({ frames := 0, cells := 0, slots := 0, locals := 0 }) (dC, dI) cB cI aK aV [.ref (aV i0), .int x1, .int x2, .int x3] [] (fun A => (Qi (dC, dI) [] A z)) := by
  refine Ci_of (by decide) (Nat.le_of_ble_eq_true rfl) (fun p e s m below meth c A C hK hnm hA hP hD ls hl => ?_)
  obtain ⟨hx, hb, hr, hml, hown, hts, hlk⟩ := id C
  have hS : va_S A s.heap s.heap [] := va_S.rf
  have hl : lv_has ls 6 [(0, .ref (aV i0)), (1, .int x1), (2, .int x2), (3, .int x3)] := hl
  rw [f_La_indexOfChar] at h
  refine lv_iload_n hx hb d_La_indexOfChar_0 rfl (lv_at hl 1 rfl) ?_
  refine lv_i2b hx hb d_La_indexOfChar_1 rfl ?_
  refine lv_istore (lv' := [(4, .int x1.toInt8.toInt32), (0, .ref (aV i0)), (1, .int x1), (2, .int x2), (3, .int x3)]) hx hb d_La_indexOfChar_2 hl (by decide) rfl (fun ls hl => ?_)
  refine lv_iload_n hx hb d_La_indexOfChar_4 rfl (lv_at hl 3 rfl) ?_
  refine lv_istore (lv' := [(5, .int x2), (4, .int x1.toInt8.toInt32), (0, .ref (aV i0)), (1, .int x1), (2, .int x2), (3, .int x3)]) hx hb d_La_indexOfChar_5 hl (by decide) rfl (fun ls hl => ?_)
  exact k_La_indexOfChar_7 C hK hA N i0 x3 z N x1.toInt8.toInt32 x2 h _ _ hP hD hS _ (lv_sub hl [2, 5, 1, 0] rfl)
set_option maxHeartbeats 4000000 in
set_option maxRecDepth 100000 in
theorem c_La_indexOf {l : Launch} {dC : Nat → ClassId} {dI : Nat → Nat → Nat} {cB cI : ClassId} {aK aV : Nat → Nat} (N : Nat) (i0 : Nat) (x1 : Int32) (x2 : Int32) (x3 : Int32) (z : Int32) (h : f_La_indexOf N i0 x1 x2 x3 = some z) : Ci l y_La_indexOf prog_11_method_22_code 4 (some .int) ({ frames := 1, cells := 0, slots := 0, locals := 25 }) (dC, dI) cB cI aK aV [.ref (aV i0), .int x1, .int x2, .int x3] [] (fun A => (Qi (dC, dI) [] A z)) := by
  refine Ci_of (by decide) (Nat.le_of_ble_eq_true rfl) (fun p e s m below meth c A C hK hnm hA hP hD ls hl => ?_)
  obtain ⟨hx, hb, hr, hml, hown, hts, hlk⟩ := id C
  have hS : va_S A s.heap s.heap [] := va_S.rf
  have hl : lv_has ls 4 [(0, .ref (aV i0)), (1, .int x1), (2, .int x2), (3, .int x3)] := hl
  rw [f_La_indexOf] at h
  refine lv_iload_n hx hb d_La_indexOf_0 rfl (lv_at hl 1 rfl) ?_
  obtain ⟨z1, hc_1, h⟩ := bs h
  refine go_i (wr := []) (w1 := []) (ws2 := []) hP hD hS hA [] [] [] rfl (by decide) rfl (by decide) (by decide) rfl (by decide) (fun hPc hDc hFc => rn_S (As := [.int x1]) (rest := []) C hK (c_La_canEncode N x1 z1 hc_1 _) ⟨rfl, rfl⟩ m_284 ok_La_canEncode ⟨by decide, by decide⟩ hl.1 rfl (Nat.le_of_ble_eq_true rfl) d_La_indexOf_1 ⟨by decide, by decide⟩ hS hPc hDc hFc) (fun H locs hP hD hS => ?_)
  refine lv_if_ne (tgt := 9) hx hb d_La_indexOf_4 (by decide) (fun c_2 => ?_) (fun c_2 => ?_)
  · replace h := itF h c_2
    refine lv_iload_n hx hb d_La_indexOf_9 rfl (lv_at hl 2 rfl) ?_
    refine lv_iconst (v := 0) hx hb d_La_indexOf_10 (by decide) ?_
    refine va_mmax hx hb (hml.trans hl.1.symm) hown (hts _ m_287) (hts _ m_288) (hts _ m_7) (hts _ m_289) (by decide) (Nat.le_of_ble_eq_true rfl) (by decide) (by decide) d_La_indexOf_11 ?_
    refine lv_istore_n (lv' := [(2, .int (if x2 < 0 then 0 else x2)), (0, .ref (aV i0)), (1, .int x1), (3, .int x3)]) hx hb d_La_indexOf_14 rfl hl (by decide) rfl (fun ls hl => ?_)
    refine lv_iload_n hx hb d_La_indexOf_15 rfl (lv_at hl 3 rfl) ?_
    refine lv_aload_n hx hb d_La_indexOf_16 rfl (lv_at hl 1 rfl) ?_
    obtain ⟨g_3, h⟩ := grd h
    refine va_tlen hx hb (hK.2.2.1.1 _ g_3).2.2.2 hS rfl d_La_indexOf_17 ?_
    refine va_mmin hx hb (hml.trans hl.1.symm) hown (hts _ m_290) (hts _ m_194) (hts _ m_7) (hts _ m_195) (by decide) (Nat.le_of_ble_eq_true rfl) (by decide) (by decide) d_La_indexOf_18 ?_
    refine lv_istore_n (lv' := [(3, .int (if (Int32.ofNat (strLen.getD i0 0)) < x3 then (Int32.ofNat (strLen.getD i0 0)) else x3)), (2, .int (if x2 < 0 then 0 else x2)), (0, .ref (aV i0)), (1, .int x1)]) hx hb d_La_indexOf_21 rfl hl (by decide) rfl (fun ls hl => ?_)
    refine lv_iload_n hx hb d_La_indexOf_22 rfl (lv_at hl 1 rfl) ?_
    refine lv_iload_n hx hb d_La_indexOf_23 rfl (lv_at hl 0 rfl) ?_
    refine lv_icmp_lt (tgt := 29) hx hb d_La_indexOf_24 (by decide) (fun c_4 => ?_) (fun c_4 => ?_)
    · replace h := itT h c_4
      refine lv_aload_n hx hb d_La_indexOf_29 rfl (lv_at hl 2 rfl) ?_
      refine lv_iload_n hx hb d_La_indexOf_30 rfl (lv_at hl 3 rfl) ?_
      refine lv_iload_n hx hb d_La_indexOf_31 rfl (lv_at hl 1 rfl) ?_
      refine lv_iload_n hx hb d_La_indexOf_32 rfl (lv_at hl 0 rfl) ?_
      obtain ⟨z5, hc_5, h⟩ := bs h
      refine go_i (wr := []) (w1 := []) (ws2 := []) hP hD hS hA [] [] [] rfl (by decide) rfl (by decide) (by decide) rfl (by decide) (fun hPc hDc hFc => rn_S (As := [.ref (aV i0), .int x1, .int (if x2 < 0 then 0 else x2), .int (if (Int32.ofNat (strLen.getD i0 0)) < x3 then (Int32.ofNat (strLen.getD i0 0)) else x3)]) (rest := []) C hK (c_La_indexOfChar N i0 x1 (if x2 < 0 then 0 else x2) (if (Int32.ofNat (strLen.getD i0 0)) < x3 then (Int32.ofNat (strLen.getD i0 0)) else x3) z5 hc_5 _) ⟨rfl, rfl⟩ m_291 ok_La_indexOfChar ⟨by decide, by decide⟩ hl.1 rfl (Nat.le_of_ble_eq_true rfl) d_La_indexOf_33 ⟨by decide, by decide⟩ hS hPc hDc hFc) (fun H locs hP hD hS => ?_)
      obtain rfl := Option.some.inj h
      exact W.iret (v := z5) hx hb hr (fun t ht hW => ⟨⟨z5, (), rfl, rfl, by rw [ht]; exact hP, hD⟩, hS.F ht⟩) hS.2.2 d_La_indexOf_36 hlk
    · replace h := itF h c_4
      refine lv_iconst (v := (-1)) hx hb d_La_indexOf_27 (by decide) ?_
      obtain rfl := Option.some.inj h
      exact W.iret (v := (-1)) hx hb hr (fun t ht hW => ⟨⟨(-1), (), rfl, rfl, by rw [ht]; exact hP, hD⟩, hS.F ht⟩) hS.2.2 d_La_indexOf_28 hlk
  · replace h := itT h c_2
    refine lv_iconst (v := (-1)) hx hb d_La_indexOf_7 (by decide) ?_
    obtain rfl := Option.some.inj h
    exact W.iret (v := (-1)) hx hb hr (fun t ht hW => ⟨⟨(-1), (), rfl, rfl, by rw [ht]; exact hP, hD⟩, hS.F ht⟩) hS.2.2 d_La_indexOf_8 hlk
set_option maxHeartbeats 4000000 in
set_option maxRecDepth 100000 in
theorem c_St_isLatin1 {l : Launch} {dC : Nat → ClassId} {dI : Nat → Nat → Nat} {cB cI : ClassId} {aK aV : Nat → Nat} (N : Nat) (i0 : Nat) (z : Int32) (h : f_St_isLatin1 N i0 = some z) : Ci l y_St_isLatin1 prog_10_method_154_code 1 (some .boolean) ({ frames := 0, cells := 0, slots := 0, locals := 0 }) (dC, dI) cB cI aK aV [.ref (aK i0)] [] (fun A => (Qi (dC, dI) [] A z)) := by
  refine Ci_of (by decide) (Nat.le_of_ble_eq_true rfl) (fun p e s m below meth c A C hK hnm hA hP hD ls hl => ?_)
  obtain ⟨hx, hb, hr, hml, hown, hts, hlk⟩ := id C
  have hS : va_S A s.heap s.heap [] := va_S.rf
  have hl : lv_has ls 1 [(0, .ref (aK i0))] := hl
  rw [f_St_isLatin1] at h
  refine va_gets hx hb hK.2.2.2.2 hS hown (hts _ m_271) (fun _ h9 => h9) d_St_isLatin1_0 ?_
  refine lv_if_eq (tgt := 17) hx hb d_St_isLatin1_3 (by decide) (fun c_1 => ?_) (fun c_1 => ?_)
  · replace h := itT h c_1
    refine lv_iconst (v := 0) hx hb d_St_isLatin1_17 (by decide) ?_
    obtain rfl := Option.some.inj h
    exact W.zret (v := 0) hx hb hr rfl (fun t ht hW => ⟨⟨0, (), rfl, rfl, by rw [ht]; exact hP, hD⟩, hS.F ht⟩) hS.2.2 d_St_isLatin1_18 hlk
  · replace h := itF h c_1
    refine lv_aload_n hx hb d_St_isLatin1_6 rfl (lv_at hl 0 rfl) ?_
    obtain ⟨g_2, h⟩ := grd h
    refine vk_getf hx hb (hK.2.2.1.1 _ g_2).2.1 hS hown (hts _ m_544) (fun _ h9 => h9) d_St_isLatin1_7 ?_
    refine lv_if_ne (tgt := 17) hx hb d_St_isLatin1_10 (by decide) (fun c_3 => ?_) (fun c_3 => ?_)
    · replace h := itF h c_3
      refine lv_iconst (v := 0) hx hb d_St_isLatin1_17 (by decide) ?_
      obtain rfl := Option.some.inj h
      exact W.zret (v := 0) hx hb hr rfl (fun t ht hW => ⟨⟨0, (), rfl, rfl, by rw [ht]; exact hP, hD⟩, hS.F ht⟩) hS.2.2 d_St_isLatin1_18 hlk
    · replace h := itT h c_3
      refine lv_iconst (v := 1) hx hb d_St_isLatin1_13 (by decide) ?_
      refine lv_goto (tgt := 18) hx hb d_St_isLatin1_14 (by decide) ?_
      obtain rfl := Option.some.inj h
      exact W.zret (v := 1) hx hb hr rfl (fun t ht hW => ⟨⟨1, (), rfl, rfl, by rw [ht]; exact hP, hD⟩, hS.F ht⟩) hS.2.2 d_St_isLatin1_18 hlk
set_option maxHeartbeats 4000000 in
set_option maxRecDepth 100000 in
theorem c_St_coder {l : Launch} {dC : Nat → ClassId} {dI : Nat → Nat → Nat} {cB cI : ClassId} {aK aV : Nat → Nat} (N : Nat) (i0 : Nat) (z : Int32) (h : f_St_coder N i0 = some z) : Ci l y_St_coder prog_10_method_152_code 1 (some .byte) ({ frames := 0, cells := 0, slots := 0, locals := 0 }) (dC, dI) cB cI aK aV [.ref (aK i0)] [] (fun A => (Qi (dC, dI) [] A z)) := by
  refine Ci_of (by decide) (Nat.le_of_ble_eq_true rfl) (fun p e s m below meth c A C hK hnm hA hP hD ls hl => ?_)
  obtain ⟨hx, hb, hr, hml, hown, hts, hlk⟩ := id C
  have hS : va_S A s.heap s.heap [] := va_S.rf
  have hl : lv_has ls 1 [(0, .ref (aK i0))] := hl
  rw [f_St_coder] at h
  refine va_gets hx hb hK.2.2.2.2 hS hown (hts _ m_271) (fun _ h9 => h9) d_St_coder_0 ?_
  refine lv_if_eq (tgt := 13) hx hb d_St_coder_3 (by decide) (fun c_1 => ?_) (fun c_1 => ?_)
  · replace h := itT h c_1
    refine lv_iconst (v := 1) hx hb d_St_coder_13 (by decide) ?_
    obtain rfl := Option.some.inj h
    exact W.zret (v := 1) hx hb hr rfl (fun t ht hW => ⟨⟨1, (), rfl, rfl, by rw [ht]; exact hP, hD⟩, hS.F ht⟩) hS.2.2 d_St_coder_14 hlk
  · replace h := itF h c_1
    refine lv_aload_n hx hb d_St_coder_6 rfl (lv_at hl 0 rfl) ?_
    obtain ⟨g_2, h⟩ := grd h
    refine vk_getf hx hb (hK.2.2.1.1 _ g_2).2.1 hS hown (hts _ m_544) (fun _ h9 => h9) d_St_coder_7 ?_
    refine lv_goto (tgt := 14) hx hb d_St_coder_10 (by decide) ?_
    obtain rfl := Option.some.inj h
    exact W.zret (v := 0) hx hb hr rfl (fun t ht hW => ⟨⟨0, (), rfl, rfl, by rw [ht]; exact hP, hD⟩, hS.F ht⟩) hS.2.2 d_St_coder_14 hlk
set_option maxHeartbeats 4000000 in
set_option maxRecDepth 100000 in
theorem c_St_length {l : Launch} {dC : Nat → ClassId} {dI : Nat → Nat → Nat} {cB cI : ClassId} {aK aV : Nat → Nat} (N : Nat) (i0 : Nat) (z : Int32) (h : f_St_length N i0 = some z) : Ci l y_St_length prog_10_method_54_code 1 (some .int) ({ frames := 1, cells := 0, slots := 0, locals := 20 }) (dC, dI) cB cI aK aV [.ref (aK i0)] [] (fun A => (Qi (dC, dI) [] A z)) := by
  refine Ci_of (by decide) (Nat.le_of_ble_eq_true rfl) (fun p e s m below meth c A C hK hnm hA hP hD ls hl => ?_)
  obtain ⟨hx, hb, hr, hml, hown, hts, hlk⟩ := id C
  have hS : va_S A s.heap s.heap [] := va_S.rf
  have hl : lv_has ls 1 [(0, .ref (aK i0))] := hl
  rw [f_St_length] at h
  refine lv_aload_n hx hb d_St_length_0 rfl (lv_at hl 0 rfl) ?_
  obtain ⟨g_1, h⟩ := grd h
  refine vk_getf hx hb (hK.2.2.1.1 _ g_1).2.2.1 hS hown (hts _ m_545) (fun _ h9 => h9) d_St_length_1 ?_
  obtain ⟨g_2, h⟩ := grd h
  refine va_tlen hx hb (hK.2.2.1.1 _ g_2).2.2.2 hS rfl d_St_length_4 ?_
  refine lv_aload_n hx hb d_St_length_5 rfl (lv_at hl 0 rfl) ?_
  obtain ⟨g_4, h⟩ := grd h
  obtain ⟨z3, hc_3, h⟩ := bs h
  refine go_i (wr := []) (w1 := []) (ws2 := []) hP hD hS hA [] [] [] rfl (by decide) rfl (by decide) (by decide) rfl (by decide) (fun hPc hDc hFc => rn_VS (As := []) (rest := [.int (Int32.ofNat (strLen.getD i0 0))]) C hK (c_St_coder N i0 z3 hc_3 _) ⟨rfl, rfl⟩ m_277 ok_St_coder ⟨by decide, by decide⟩ (vk_recv hK.2.2.1 g_4 hS) hl.1 rfl (Nat.le_of_ble_eq_true rfl) d_St_length_6 ⟨by decide, by decide⟩ hS hPc hDc hFc) (fun H locs hP hD hS => ?_)
  refine lv_ishr hx hb d_St_length_9 ?_
  obtain rfl := Option.some.inj h
  exact W.iret (v := (Int32.ofNat (strLen.getD i0 0)) >>> (z3 &&& 31)) hx hb hr (fun t ht hW => ⟨⟨(Int32.ofNat (strLen.getD i0 0)) >>> (z3 &&& 31), (), rfl, rfl, by rw [ht]; exact hP, hD⟩, hS.F ht⟩) hS.2.2 d_St_length_10 hlk
set_option maxHeartbeats 4000000 in
set_option maxRecDepth 100000 in
theorem c_St_indexOf2 {l : Launch} {dC : Nat → ClassId} {dI : Nat → Nat → Nat} {cB cI : ClassId} {aK aV : Nat → Nat} (N : Nat) (i0 : Nat) (x1 : Int32) (x2 : Int32) (z : Int32) (h : f_St_indexOf2 N i0 x1 x2 = some z) : Ci l y_St_indexOf2 prog_10_method_80_code 3 (some .int) ({ frames := 2, cells := 0, slots := 0, locals := 48 }) (dC, dI) cB cI aK aV [.ref (aK i0), .int x1, .int x2] [] (fun A => (Qi (dC, dI) [] A z)) := by
  refine Ci_of (by decide) (Nat.le_of_ble_eq_true rfl) (fun p e s m below meth c A C hK hnm hA hP hD ls hl => ?_)
  obtain ⟨hx, hb, hr, hml, hown, hts, hlk⟩ := id C
  have hS : va_S A s.heap s.heap [] := va_S.rf
  have hl : lv_has ls 3 [(0, .ref (aK i0)), (1, .int x1), (2, .int x2)] := hl
  rw [f_St_indexOf2] at h
  refine lv_aload_n hx hb d_St_indexOf2_0 rfl (lv_at hl 0 rfl) ?_
  obtain ⟨g_2, h⟩ := grd h
  obtain ⟨z1, hc_1, h⟩ := bs h
  refine go_i (wr := []) (w1 := []) (ws2 := []) hP hD hS hA [] [] [] rfl (by decide) rfl (by decide) (by decide) rfl (by decide) (fun hPc hDc hFc => rn_VS (As := []) (rest := []) C hK (c_St_isLatin1 N i0 z1 hc_1 _) ⟨rfl, rfl⟩ m_267 ok_St_isLatin1 ⟨by decide, by decide⟩ (vk_recv hK.2.2.1 g_2 hS) hl.1 rfl (Nat.le_of_ble_eq_true rfl) d_St_indexOf2_1 ⟨by decide, by decide⟩ hS hPc hDc hFc) (fun H locs hP hD hS => ?_)
  refine lv_if_eq (tgt := 23) hx hb d_St_indexOf2_4 (by decide) (fun c_3 => ?_) (fun c_3 => ?_)
  · replace h := itT h c_3
    cases (show none = some z from h)
  · replace h := itF h c_3
    refine lv_aload_n hx hb d_St_indexOf2_7 rfl (lv_at hl 0 rfl) ?_
    obtain ⟨g_4, h⟩ := grd h
    refine vk_getf hx hb (hK.2.2.1.1 _ g_4).2.2.1 hS hown (hts _ m_545) (fun _ h9 => h9) d_St_indexOf2_8 ?_
    refine lv_iload_n hx hb d_St_indexOf2_11 rfl (lv_at hl 1 rfl) ?_
    refine lv_iload_n hx hb d_St_indexOf2_12 rfl (lv_at hl 2 rfl) ?_
    refine lv_aload_n hx hb d_St_indexOf2_13 rfl (lv_at hl 0 rfl) ?_
    obtain ⟨g_6, h⟩ := grd h
    obtain ⟨z5, hc_5, h⟩ := bs h
    refine go_i (wr := []) (w1 := []) (ws2 := []) hP hD hS hA [] [] [] rfl (by decide) rfl (by decide) (by decide) rfl (by decide) (fun hPc hDc hFc => rn_VS (As := []) (rest := [.int x2, .int x1, .ref (aV i0)]) C hK (c_St_length N i0 z5 hc_5 _) ⟨rfl, rfl⟩ m_273 ok_St_length ⟨by decide, by decide⟩ (vk_recv hK.2.2.1 g_6 hS) hl.1 rfl (Nat.le_of_ble_eq_true rfl) d_St_indexOf2_14 ⟨by decide, by decide⟩ hS hPc hDc hFc) (fun H locs hP hD hS => ?_)
    obtain ⟨z7, hc_7, h⟩ := bs h
    refine go_i (wr := []) (w1 := []) (ws2 := []) hP hD hS hA [] [] [] rfl (by decide) rfl (by decide) (by decide) rfl (by decide) (fun hPc hDc hFc => rn_S (As := [.ref (aV i0), .int x1, .int x2, .int z5]) (rest := []) C hK (c_La_indexOf N i0 x1 x2 z5 z7 hc_7 _) ⟨rfl, rfl⟩ m_281 ok_La_indexOf ⟨by decide, by decide⟩ hl.1 rfl (Nat.le_of_ble_eq_true rfl) d_St_indexOf2_17 ⟨by decide, by decide⟩ hS hPc hDc hFc) (fun H locs hP hD hS => ?_)
    refine lv_goto (tgt := 36) hx hb d_St_indexOf2_20 (by decide) ?_
    obtain rfl := Option.some.inj h
    exact W.iret (v := z7) hx hb hr (fun t ht hW => ⟨⟨z7, (), rfl, rfl, by rw [ht]; exact hP, hD⟩, hS.F ht⟩) hS.2.2 d_St_indexOf2_36 hlk
set_option maxHeartbeats 4000000 in
set_option maxRecDepth 100000 in
theorem c_St_indexOf1 {l : Launch} {dC : Nat → ClassId} {dI : Nat → Nat → Nat} {cB cI : ClassId} {aK aV : Nat → Nat} (N : Nat) (i0 : Nat) (x1 : Int32) (z : Int32) (h : f_St_indexOf1 N i0 x1 = some z) : Ci l y_St_indexOf1 prog_10_method_79_code 2 (some .int) ({ frames := 3, cells := 0, slots := 0, locals := 70 }) (dC, dI) cB cI aK aV [.ref (aK i0), .int x1] [] (fun A => (Qi (dC, dI) [] A z)) := by
  refine Ci_of (by decide) (Nat.le_of_ble_eq_true rfl) (fun p e s m below meth c A C hK hnm hA hP hD ls hl => ?_)
  obtain ⟨hx, hb, hr, hml, hown, hts, hlk⟩ := id C
  have hS : va_S A s.heap s.heap [] := va_S.rf
  have hl : lv_has ls 2 [(0, .ref (aK i0)), (1, .int x1)] := hl
  rw [f_St_indexOf1] at h
  refine lv_aload_n hx hb d_St_indexOf1_0 rfl (lv_at hl 0 rfl) ?_
  refine lv_iload_n hx hb d_St_indexOf1_1 rfl (lv_at hl 1 rfl) ?_
  refine lv_iconst (v := 0) hx hb d_St_indexOf1_2 (by decide) ?_
  obtain ⟨g_2, h⟩ := grd h
  obtain ⟨z1, hc_1, h⟩ := bs h
  refine go_i (wr := []) (w1 := []) (ws2 := []) hP hD hS hA [] [] [] rfl (by decide) rfl (by decide) (by decide) rfl (by decide) (fun hPc hDc hFc => rn_VS (As := [.int x1, .int 0]) (rest := []) C hK (c_St_indexOf2 N i0 x1 0 z1 hc_1 _) ⟨rfl, rfl⟩ m_263 ok_St_indexOf2 ⟨by decide, by decide⟩ (vk_recv hK.2.2.1 g_2 hS) hl.1 rfl (Nat.le_of_ble_eq_true rfl) d_St_indexOf1_3 ⟨by decide, by decide⟩ hS hPc hDc hFc) (fun H locs hP hD hS => ?_)
  obtain rfl := Option.some.inj h
  exact W.iret (v := z1) hx hb hr (fun t ht hW => ⟨⟨z1, (), rfl, rfl, by rw [ht]; exact hP, hD⟩, hS.F ht⟩) hS.2.2 d_St_indexOf1_6 hlk
