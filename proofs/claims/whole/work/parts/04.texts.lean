theorem m_4 : (Cond.initialized "HeaderDesk$Texts") ∈ wAll := List.mem_filter.mpr ⟨List.mem_append_right _ (List.mem_of_getElem? (i := 4) (by decide +kernel)), by decide +kernel⟩
theorem m_46 : (Cond.instanceMethod ({ cls := "HeaderDesk$Texts", name := "<init>", desc := "()V" } : Jvm.MethodName)) ∈ wAll := List.mem_filter.mpr ⟨List.mem_append_right _ (List.mem_of_getElem? (i := 46) (by decide +kernel)), by decide +kernel⟩
theorem m_47 : (Cond.code ({ cls := "HeaderDesk$Texts", name := "<init>", desc := "()V" } : Jvm.MethodName) prog_5_method_1_code (1 : Nat) (Option.none : Option Jvm.ClassFile.FieldType)) ∈ wAll := List.mem_filter.mpr ⟨List.mem_append_right _ (List.mem_of_getElem? (i := 47) (by decide +kernel)), by decide +kernel⟩
theorem m_48 : (Cond.methodLink "HeaderDesk$Texts" (3 : Nat) ({ cls := "java/lang/Object", name := "<init>", desc := "()V" } : Jvm.MethodName)) ∈ wAll := List.mem_filter.mpr ⟨List.mem_append_right _ (List.mem_of_getElem? (i := 48) (by decide +kernel)), by decide +kernel⟩
theorem m_49 : (Cond.fieldLink "HeaderDesk$Texts" (9 : Nat) "HeaderDesk$Texts" "row" "[B") ∈ wAll := List.mem_filter.mpr ⟨List.mem_append_right _ (List.mem_of_getElem? (i := 49) (by decide +kernel)), by decide +kernel⟩
theorem m_50 : (Cond.fieldLink "HeaderDesk$Texts" (15 : Nat) "HeaderDesk$Texts" "starts" "[I") ∈ wAll := List.mem_filter.mpr ⟨List.mem_append_right _ (List.mem_of_getElem? (i := 50) (by decide +kernel)), by decide +kernel⟩
theorem m_51 : (Cond.fieldLink "HeaderDesk$Texts" (19 : Nat) "HeaderDesk$Texts" "lengths" "[I") ∈ wAll := List.mem_filter.mpr ⟨List.mem_append_right _ (List.mem_of_getElem? (i := 51) (by decide +kernel)), by decide +kernel⟩
theorem m_52 : (Cond.fieldLink "HeaderDesk$Texts" (22 : Nat) "HeaderDesk$Texts" "size" "I") ∈ wAll := List.mem_filter.mpr ⟨List.mem_append_right _ (List.mem_of_getElem? (i := 52) (by decide +kernel)), by decide +kernel⟩
theorem m_55 : (Cond.fieldLink "HeaderDesk$Texts" (26 : Nat) "HeaderDesk$Texts" "openStart" "I") ∈ wAll := List.mem_filter.mpr ⟨List.mem_append_right _ (List.mem_of_getElem? (i := 55) (by decide +kernel)), by decide +kernel⟩
theorem m_56 : (Cond.fieldLink "HeaderDesk$Texts" (29 : Nat) "HeaderDesk$Texts" "openLength" "I") ∈ wAll := List.mem_filter.mpr ⟨List.mem_append_right _ (List.mem_of_getElem? (i := 56) (by decide +kernel)), by decide +kernel⟩
theorem m_72 : (Cond.arrayClass Jvm.ClassFile.FieldType.int) ∈ wAll := List.mem_filter.mpr ⟨List.mem_append_right _ (List.mem_of_getElem? (i := 72) (by decide +kernel)), by decide +kernel⟩
theorem m_151 : (Cond.instanceMethod ({ cls := "HeaderDesk$Texts", name := "clear", desc := "()V" } : Jvm.MethodName)) ∈ wAll := List.mem_filter.mpr ⟨List.mem_append_right _ (List.mem_of_getElem? (i := 151) (by decide +kernel)), by decide +kernel⟩
theorem m_152 : (Cond.code ({ cls := "HeaderDesk$Texts", name := "clear", desc := "()V" } : Jvm.MethodName) prog_5_method_2_code (1 : Nat) (Option.none : Option Jvm.ClassFile.FieldType)) ∈ wAll := List.mem_filter.mpr ⟨List.mem_append_right _ (List.mem_of_getElem? (i := 152) (by decide +kernel)), by decide +kernel⟩
theorem m_178 : (Cond.instanceMethod ({ cls := "HeaderDesk$Texts", name := "append", desc := "(I)V" } : Jvm.MethodName)) ∈ wAll := List.mem_filter.mpr ⟨List.mem_append_right _ (List.mem_of_getElem? (i := 178) (by decide +kernel)), by decide +kernel⟩
theorem m_179 : (Cond.code ({ cls := "HeaderDesk$Texts", name := "append", desc := "(I)V" } : Jvm.MethodName) prog_5_method_3_code (3 : Nat) (Option.none : Option Jvm.ClassFile.FieldType)) ∈ wAll := List.mem_filter.mpr ⟨List.mem_append_right _ (List.mem_of_getElem? (i := 179) (by decide +kernel)), by decide +kernel⟩
theorem m_182 : (Cond.instanceMethod ({ cls := "HeaderDesk$Texts", name := "closeOpen", desc := "()V" } : Jvm.MethodName)) ∈ wAll := List.mem_filter.mpr ⟨List.mem_append_right _ (List.mem_of_getElem? (i := 182) (by decide +kernel)), by decide +kernel⟩
theorem m_183 : (Cond.code ({ cls := "HeaderDesk$Texts", name := "closeOpen", desc := "()V" } : Jvm.MethodName) prog_5_method_7_code (1 : Nat) (Option.none : Option Jvm.ClassFile.FieldType)) ∈ wAll := List.mem_filter.mpr ⟨List.mem_append_right _ (List.mem_of_getElem? (i := 183) (by decide +kernel)), by decide +kernel⟩
theorem m_198 : (Cond.instanceMethod ({ cls := "HeaderDesk$Texts", name := "dropBlanksAtOpenEnd", desc := "()V" } : Jvm.MethodName)) ∈ wAll := List.mem_filter.mpr ⟨List.mem_append_right _ (List.mem_of_getElem? (i := 198) (by decide +kernel)), by decide +kernel⟩
theorem m_199 : (Cond.code ({ cls := "HeaderDesk$Texts", name := "dropBlanksAtOpenEnd", desc := "()V" } : Jvm.MethodName) prog_5_method_6_code (1 : Nat) (Option.none : Option Jvm.ClassFile.FieldType)) ∈ wAll := List.mem_filter.mpr ⟨List.mem_append_right _ (List.mem_of_getElem? (i := 199) (by decide +kernel)), by decide +kernel⟩
theorem m_200 : (Cond.methodLink "HeaderDesk$Texts" (32 : Nat) ({ cls := "HeaderDesk$Texts", name := "openByteAt", desc := "(I)I" } : Jvm.MethodName)) ∈ wAll := List.mem_filter.mpr ⟨List.mem_append_right _ (List.mem_of_getElem? (i := 200) (by decide +kernel)), by decide +kernel⟩
theorem m_202 : (Cond.instanceMethod ({ cls := "HeaderDesk$Texts", name := "openByteAt", desc := "(I)I" } : Jvm.MethodName)) ∈ wAll := List.mem_filter.mpr ⟨List.mem_append_right _ (List.mem_of_getElem? (i := 202) (by decide +kernel)), by decide +kernel⟩
theorem m_203 : (Cond.code ({ cls := "HeaderDesk$Texts", name := "openByteAt", desc := "(I)I" } : Jvm.MethodName) prog_5_method_4_code (3 : Nat) (Option.some Jvm.ClassFile.FieldType.int)) ∈ wAll := List.mem_filter.mpr ⟨List.mem_append_right _ (List.mem_of_getElem? (i := 203) (by decide +kernel)), by decide +kernel⟩
theorem m_216 : (Cond.instanceMethod ({ cls := "HeaderDesk$Texts", name := "lengthOf", desc := "(I)I" } : Jvm.MethodName)) ∈ wAll := List.mem_filter.mpr ⟨List.mem_append_right _ (List.mem_of_getElem? (i := 216) (by decide +kernel)), by decide +kernel⟩
theorem m_217 : (Cond.code ({ cls := "HeaderDesk$Texts", name := "lengthOf", desc := "(I)I" } : Jvm.MethodName) prog_5_method_9_code (2 : Nat) (Option.some Jvm.ClassFile.FieldType.int)) ∈ wAll := List.mem_filter.mpr ⟨List.mem_append_right _ (List.mem_of_getElem? (i := 217) (by decide +kernel)), by decide +kernel⟩
theorem m_218 : (Cond.methodLink "HeaderDesk$Texts" (40 : Nat) ({ cls := "HeaderDesk$Texts", name := "has", desc := "(I)Z" } : Jvm.MethodName)) ∈ wAll := List.mem_filter.mpr ⟨List.mem_append_right _ (List.mem_of_getElem? (i := 218) (by decide +kernel)), by decide +kernel⟩
theorem m_220 : (Cond.instanceMethod ({ cls := "HeaderDesk$Texts", name := "has", desc := "(I)Z" } : Jvm.MethodName)) ∈ wAll := List.mem_filter.mpr ⟨List.mem_append_right _ (List.mem_of_getElem? (i := 220) (by decide +kernel)), by decide +kernel⟩
theorem m_221 : (Cond.code ({ cls := "HeaderDesk$Texts", name := "has", desc := "(I)Z" } : Jvm.MethodName) prog_5_method_8_code (2 : Nat) (Option.some Jvm.ClassFile.FieldType.boolean)) ∈ wAll := List.mem_filter.mpr ⟨List.mem_append_right _ (List.mem_of_getElem? (i := 221) (by decide +kernel)), by decide +kernel⟩
theorem m_224 : (Cond.instanceMethod ({ cls := "HeaderDesk$Texts", name := "byteAt", desc := "(II)I" } : Jvm.MethodName)) ∈ wAll := List.mem_filter.mpr ⟨List.mem_append_right _ (List.mem_of_getElem? (i := 224) (by decide +kernel)), by decide +kernel⟩
theorem m_225 : (Cond.code ({ cls := "HeaderDesk$Texts", name := "byteAt", desc := "(II)I" } : Jvm.MethodName) prog_5_method_10_code (4 : Nat) (Option.some Jvm.ClassFile.FieldType.int)) ∈ wAll := List.mem_filter.mpr ⟨List.mem_append_right _ (List.mem_of_getElem? (i := 225) (by decide +kernel)), by decide +kernel⟩
theorem m_347 : (Cond.instanceMethod ({ cls := "HeaderDesk$Texts", name := "dropOpen", desc := "()V" } : Jvm.MethodName)) ∈ wAll := List.mem_filter.mpr ⟨List.mem_append_right _ (List.mem_of_getElem? (i := 347) (by decide +kernel)), by decide +kernel⟩
theorem m_348 : (Cond.code ({ cls := "HeaderDesk$Texts", name := "dropOpen", desc := "()V" } : Jvm.MethodName) prog_5_method_5_code (1 : Nat) (Option.none : Option Jvm.ClassFile.FieldType)) ∈ wAll := List.mem_filter.mpr ⟨List.mem_append_right _ (List.mem_of_getElem? (i := 348) (by decide +kernel)), by decide +kernel⟩
theorem m_374 : (Cond.instanceMethod ({ cls := "HeaderDesk$Texts", name := "eightBytes", desc := "(II)J" } : Jvm.MethodName)) ∈ wAll := List.mem_filter.mpr ⟨List.mem_append_right _ (List.mem_of_getElem? (i := 374) (by decide +kernel)), by decide +kernel⟩
theorem m_375 : (Cond.code ({ cls := "HeaderDesk$Texts", name := "eightBytes", desc := "(II)J" } : Jvm.MethodName) prog_5_method_11_code (7 : Nat) (Option.some Jvm.ClassFile.FieldType.long)) ∈ wAll := List.mem_filter.mpr ⟨List.mem_append_right _ (List.mem_of_getElem? (i := 375) (by decide +kernel)), by decide +kernel⟩
theorem m_376 : (Cond.constantLong "HeaderDesk$Texts" (43 : Nat) (-1 : Int64)) ∈ wAll := List.mem_filter.mpr ⟨List.mem_append_right _ (List.mem_of_getElem? (i := 376) (by decide +kernel)), by decide +kernel⟩
theorem m_377 : (Cond.methodLink "HeaderDesk$Texts" (45 : Nat) ({ cls := "HeaderDesk$Texts", name := "byteAt", desc := "(II)I" } : Jvm.MethodName)) ∈ wAll := List.mem_filter.mpr ⟨List.mem_append_right _ (List.mem_of_getElem? (i := 377) (by decide +kernel)), by decide +kernel⟩
theorem m_403 : (Cond.instanceMethod ({ cls := "HeaderDesk$Texts", name := "areAlike", desc := "(II)Z" } : Jvm.MethodName)) ∈ wAll := List.mem_filter.mpr ⟨List.mem_append_right _ (List.mem_of_getElem? (i := 403) (by decide +kernel)), by decide +kernel⟩
theorem m_404 : (Cond.code ({ cls := "HeaderDesk$Texts", name := "areAlike", desc := "(II)Z" } : Jvm.MethodName) prog_5_method_12_code (5 : Nat) (Option.some Jvm.ClassFile.FieldType.boolean)) ∈ wAll := List.mem_filter.mpr ⟨List.mem_append_right _ (List.mem_of_getElem? (i := 404) (by decide +kernel)), by decide +kernel⟩
theorem m_405 : (Cond.methodLink "HeaderDesk$Texts" (49 : Nat) ({ cls := "HeaderDesk$Texts", name := "lengthOf", desc := "(I)I" } : Jvm.MethodName)) ∈ wAll := List.mem_filter.mpr ⟨List.mem_append_right _ (List.mem_of_getElem? (i := 405) (by decide +kernel)), by decide +kernel⟩
theorem mn_204 : (Cond.methodLinkNest "HeaderDesk$Texts" (36 : Nat) ({ cls := "HeaderDesk", name := "isBlank", desc := "(I)Z" } : Jvm.MethodName) "HeaderDesk") ∈ nwAll := List.mem_filter.mpr ⟨List.mem_append_right _ (List.mem_of_getElem? (i := 204) (by decide +kernel)), by decide +kernel⟩
theorem mn_406 : (Cond.methodLinkNest "HeaderDesk$Texts" (52 : Nat) ({ cls := "HeaderDesk", name := "lowered", desc := "(I)I" } : Jvm.MethodName) "HeaderDesk") ∈ nwAll := List.mem_filter.mpr ⟨List.mem_append_right _ (List.mem_of_getElem? (i := 406) (by decide +kernel)), by decide +kernel⟩
theorem d_Te_init_0 : decode prog_5_method_1_code 0 = .ok (.aload_n 0, 1) := by decide +kernel
theorem d_Te_init_1 : decode prog_5_method_1_code 1 = .ok (.invokespecial 3, 3) := by decide +kernel
theorem d_Te_init_4 : decode prog_5_method_1_code 4 = .ok (.aload_n 0, 1) := by decide +kernel
theorem d_Te_init_5 : decode prog_5_method_1_code 5 = .ok (.sipush 300, 3) := by decide +kernel
theorem d_Te_init_8 : decode prog_5_method_1_code 8 = .ok (.newarray .byte, 2) := by decide +kernel
theorem d_Te_init_10 : decode prog_5_method_1_code 10 = .ok (.putfield 9, 3) := by decide +kernel
theorem d_Te_init_13 : decode prog_5_method_1_code 13 = .ok (.aload_n 0, 1) := by decide +kernel
theorem d_Te_init_14 : decode prog_5_method_1_code 14 = .ok (.bipush 100, 2) := by decide +kernel
theorem d_Te_init_16 : decode prog_5_method_1_code 16 = .ok (.newarray .int, 2) := by decide +kernel
theorem d_Te_init_18 : decode prog_5_method_1_code 18 = .ok (.putfield 15, 3) := by decide +kernel
theorem d_Te_init_21 : decode prog_5_method_1_code 21 = .ok (.aload_n 0, 1) := by decide +kernel
theorem d_Te_init_22 : decode prog_5_method_1_code 22 = .ok (.bipush 100, 2) := by decide +kernel
theorem d_Te_init_24 : decode prog_5_method_1_code 24 = .ok (.newarray .int, 2) := by decide +kernel
theorem d_Te_init_26 : decode prog_5_method_1_code 26 = .ok (.putfield 19, 3) := by decide +kernel
theorem d_Te_init_29 : decode prog_5_method_1_code 29 = .ok (.return_, 1) := by decide +kernel
theorem d_Te_clear_0 : decode prog_5_method_2_code 0 = .ok (.aload_n 0, 1) := by decide +kernel
theorem d_Te_clear_1 : decode prog_5_method_2_code 1 = .ok (.iconst 0, 1) := by decide +kernel
theorem d_Te_clear_2 : decode prog_5_method_2_code 2 = .ok (.putfield 22, 3) := by decide +kernel
theorem d_Te_clear_5 : decode prog_5_method_2_code 5 = .ok (.aload_n 0, 1) := by decide +kernel
theorem d_Te_clear_6 : decode prog_5_method_2_code 6 = .ok (.iconst 0, 1) := by decide +kernel
theorem d_Te_clear_7 : decode prog_5_method_2_code 7 = .ok (.putfield 26, 3) := by decide +kernel
theorem d_Te_clear_10 : decode prog_5_method_2_code 10 = .ok (.aload_n 0, 1) := by decide +kernel
theorem d_Te_clear_11 : decode prog_5_method_2_code 11 = .ok (.iconst 0, 1) := by decide +kernel
theorem d_Te_clear_12 : decode prog_5_method_2_code 12 = .ok (.putfield 29, 3) := by decide +kernel
theorem d_Te_clear_15 : decode prog_5_method_2_code 15 = .ok (.return_, 1) := by decide +kernel
theorem d_Te_append_0 : decode prog_5_method_3_code 0 = .ok (.aload_n 0, 1) := by decide +kernel
theorem d_Te_append_1 : decode prog_5_method_3_code 1 = .ok (.getfield 26, 3) := by decide +kernel
theorem d_Te_append_4 : decode prog_5_method_3_code 4 = .ok (.aload_n 0, 1) := by decide +kernel
theorem d_Te_append_5 : decode prog_5_method_3_code 5 = .ok (.getfield 29, 3) := by decide +kernel
theorem d_Te_append_8 : decode prog_5_method_3_code 8 = .ok (.iadd, 1) := by decide +kernel
theorem d_Te_append_9 : decode prog_5_method_3_code 9 = .ok (.istore_n 2, 1) := by decide +kernel
theorem d_Te_append_10 : decode prog_5_method_3_code 10 = .ok (.iload_n 2, 1) := by decide +kernel
theorem d_Te_append_11 : decode prog_5_method_3_code 11 = .ok (.ifCond .lt 28, 3) := by decide +kernel
theorem d_Te_append_14 : decode prog_5_method_3_code 14 = .ok (.iload_n 2, 1) := by decide +kernel
theorem d_Te_append_15 : decode prog_5_method_3_code 15 = .ok (.sipush 300, 3) := by decide +kernel
theorem d_Te_append_18 : decode prog_5_method_3_code 18 = .ok (.if_icmp .ge 21, 3) := by decide +kernel
theorem d_Te_append_21 : decode prog_5_method_3_code 21 = .ok (.aload_n 0, 1) := by decide +kernel
theorem d_Te_append_22 : decode prog_5_method_3_code 22 = .ok (.getfield 9, 3) := by decide +kernel
theorem d_Te_append_25 : decode prog_5_method_3_code 25 = .ok (.iload_n 2, 1) := by decide +kernel
theorem d_Te_append_26 : decode prog_5_method_3_code 26 = .ok (.iload_n 1, 1) := by decide +kernel
theorem d_Te_append_27 : decode prog_5_method_3_code 27 = .ok (.i2b, 1) := by decide +kernel
theorem d_Te_append_28 : decode prog_5_method_3_code 28 = .ok (.bastore, 1) := by decide +kernel
theorem d_Te_append_29 : decode prog_5_method_3_code 29 = .ok (.aload_n 0, 1) := by decide +kernel
theorem d_Te_append_30 : decode prog_5_method_3_code 30 = .ok (.dup, 1) := by decide +kernel
theorem d_Te_append_31 : decode prog_5_method_3_code 31 = .ok (.getfield 29, 3) := by decide +kernel
theorem d_Te_append_34 : decode prog_5_method_3_code 34 = .ok (.iconst 1, 1) := by decide +kernel
theorem d_Te_append_35 : decode prog_5_method_3_code 35 = .ok (.iadd, 1) := by decide +kernel
theorem d_Te_append_36 : decode prog_5_method_3_code 36 = .ok (.putfield 29, 3) := by decide +kernel
theorem d_Te_append_39 : decode prog_5_method_3_code 39 = .ok (.return_, 1) := by decide +kernel
theorem d_Te_openByteAt_0 : decode prog_5_method_4_code 0 = .ok (.aload_n 0, 1) := by decide +kernel
theorem d_Te_openByteAt_1 : decode prog_5_method_4_code 1 = .ok (.getfield 26, 3) := by decide +kernel
theorem d_Te_openByteAt_4 : decode prog_5_method_4_code 4 = .ok (.iload_n 1, 1) := by decide +kernel
theorem d_Te_openByteAt_5 : decode prog_5_method_4_code 5 = .ok (.iadd, 1) := by decide +kernel
theorem d_Te_openByteAt_6 : decode prog_5_method_4_code 6 = .ok (.istore_n 2, 1) := by decide +kernel
theorem d_Te_openByteAt_7 : decode prog_5_method_4_code 7 = .ok (.iload_n 1, 1) := by decide +kernel
theorem d_Te_openByteAt_8 : decode prog_5_method_4_code 8 = .ok (.ifCond .lt 22, 3) := by decide +kernel
theorem d_Te_openByteAt_11 : decode prog_5_method_4_code 11 = .ok (.iload_n 1, 1) := by decide +kernel
theorem d_Te_openByteAt_12 : decode prog_5_method_4_code 12 = .ok (.aload_n 0, 1) := by decide +kernel
theorem d_Te_openByteAt_13 : decode prog_5_method_4_code 13 = .ok (.getfield 29, 3) := by decide +kernel
theorem d_Te_openByteAt_16 : decode prog_5_method_4_code 16 = .ok (.if_icmp .ge 14, 3) := by decide +kernel
theorem d_Te_openByteAt_19 : decode prog_5_method_4_code 19 = .ok (.iload_n 2, 1) := by decide +kernel
theorem d_Te_openByteAt_20 : decode prog_5_method_4_code 20 = .ok (.ifCond .lt 10, 3) := by decide +kernel
theorem d_Te_openByteAt_23 : decode prog_5_method_4_code 23 = .ok (.iload_n 2, 1) := by decide +kernel
theorem d_Te_openByteAt_24 : decode prog_5_method_4_code 24 = .ok (.sipush 300, 3) := by decide +kernel
theorem d_Te_openByteAt_27 : decode prog_5_method_4_code 27 = .ok (.if_icmp .lt 7, 3) := by decide +kernel
theorem d_Te_openByteAt_30 : decode prog_5_method_4_code 30 = .ok (.iconst (-1), 1) := by decide +kernel
theorem d_Te_openByteAt_31 : decode prog_5_method_4_code 31 = .ok (.goto 13, 3) := by decide +kernel
theorem d_Te_openByteAt_34 : decode prog_5_method_4_code 34 = .ok (.aload_n 0, 1) := by decide +kernel
theorem d_Te_openByteAt_35 : decode prog_5_method_4_code 35 = .ok (.getfield 9, 3) := by decide +kernel
theorem d_Te_openByteAt_38 : decode prog_5_method_4_code 38 = .ok (.iload_n 2, 1) := by decide +kernel
theorem d_Te_openByteAt_39 : decode prog_5_method_4_code 39 = .ok (.baload, 1) := by decide +kernel
theorem d_Te_openByteAt_40 : decode prog_5_method_4_code 40 = .ok (.sipush 255, 3) := by decide +kernel
theorem d_Te_openByteAt_43 : decode prog_5_method_4_code 43 = .ok (.iand, 1) := by decide +kernel
theorem d_Te_openByteAt_44 : decode prog_5_method_4_code 44 = .ok (.ireturn, 1) := by decide +kernel
theorem d_Te_dropOpen_0 : decode prog_5_method_5_code 0 = .ok (.aload_n 0, 1) := by decide +kernel
theorem d_Te_dropOpen_1 : decode prog_5_method_5_code 1 = .ok (.iconst 0, 1) := by decide +kernel
theorem d_Te_dropOpen_2 : decode prog_5_method_5_code 2 = .ok (.putfield 29, 3) := by decide +kernel
theorem d_Te_dropOpen_5 : decode prog_5_method_5_code 5 = .ok (.return_, 1) := by decide +kernel
theorem d_Te_dropBlanksAtOpenEnd_0 : decode prog_5_method_6_code 0 = .ok (.aload_n 0, 1) := by decide +kernel
theorem d_Te_dropBlanksAtOpenEnd_1 : decode prog_5_method_6_code 1 = .ok (.getfield 29, 3) := by decide +kernel
theorem d_Te_dropBlanksAtOpenEnd_4 : decode prog_5_method_6_code 4 = .ok (.ifCond .le 32, 3) := by decide +kernel
theorem d_Te_dropBlanksAtOpenEnd_7 : decode prog_5_method_6_code 7 = .ok (.aload_n 0, 1) := by decide +kernel
theorem d_Te_dropBlanksAtOpenEnd_8 : decode prog_5_method_6_code 8 = .ok (.aload_n 0, 1) := by decide +kernel
theorem d_Te_dropBlanksAtOpenEnd_9 : decode prog_5_method_6_code 9 = .ok (.getfield 29, 3) := by decide +kernel
theorem d_Te_dropBlanksAtOpenEnd_12 : decode prog_5_method_6_code 12 = .ok (.iconst 1, 1) := by decide +kernel
theorem d_Te_dropBlanksAtOpenEnd_13 : decode prog_5_method_6_code 13 = .ok (.isub, 1) := by decide +kernel
theorem d_Te_dropBlanksAtOpenEnd_14 : decode prog_5_method_6_code 14 = .ok (.invokevirtual 32, 3) := by decide +kernel
theorem d_Te_dropBlanksAtOpenEnd_17 : decode prog_5_method_6_code 17 = .ok (.invokestatic 36, 3) := by decide +kernel
theorem d_Te_dropBlanksAtOpenEnd_20 : decode prog_5_method_6_code 20 = .ok (.ifCond .eq 16, 3) := by decide +kernel
theorem d_Te_dropBlanksAtOpenEnd_23 : decode prog_5_method_6_code 23 = .ok (.aload_n 0, 1) := by decide +kernel
theorem d_Te_dropBlanksAtOpenEnd_24 : decode prog_5_method_6_code 24 = .ok (.dup, 1) := by decide +kernel
theorem d_Te_dropBlanksAtOpenEnd_25 : decode prog_5_method_6_code 25 = .ok (.getfield 29, 3) := by decide +kernel
theorem d_Te_dropBlanksAtOpenEnd_28 : decode prog_5_method_6_code 28 = .ok (.iconst 1, 1) := by decide +kernel
theorem d_Te_dropBlanksAtOpenEnd_29 : decode prog_5_method_6_code 29 = .ok (.isub, 1) := by decide +kernel
theorem d_Te_dropBlanksAtOpenEnd_30 : decode prog_5_method_6_code 30 = .ok (.putfield 29, 3) := by decide +kernel
theorem d_Te_dropBlanksAtOpenEnd_33 : decode prog_5_method_6_code 33 = .ok (.goto (-33), 3) := by decide +kernel
theorem d_Te_dropBlanksAtOpenEnd_36 : decode prog_5_method_6_code 36 = .ok (.return_, 1) := by decide +kernel
theorem d_Te_closeOpen_0 : decode prog_5_method_7_code 0 = .ok (.aload_n 0, 1) := by decide +kernel
theorem d_Te_closeOpen_1 : decode prog_5_method_7_code 1 = .ok (.getfield 22, 3) := by decide +kernel
theorem d_Te_closeOpen_4 : decode prog_5_method_7_code 4 = .ok (.ifCond .lt 61, 3) := by decide +kernel
theorem d_Te_closeOpen_7 : decode prog_5_method_7_code 7 = .ok (.aload_n 0, 1) := by decide +kernel
theorem d_Te_closeOpen_8 : decode prog_5_method_7_code 8 = .ok (.getfield 22, 3) := by decide +kernel
theorem d_Te_closeOpen_11 : decode prog_5_method_7_code 11 = .ok (.bipush 100, 2) := by decide +kernel
theorem d_Te_closeOpen_13 : decode prog_5_method_7_code 13 = .ok (.if_icmp .ge 52, 3) := by decide +kernel
theorem d_Te_closeOpen_16 : decode prog_5_method_7_code 16 = .ok (.aload_n 0, 1) := by decide +kernel
theorem d_Te_closeOpen_17 : decode prog_5_method_7_code 17 = .ok (.getfield 15, 3) := by decide +kernel
theorem d_Te_closeOpen_20 : decode prog_5_method_7_code 20 = .ok (.aload_n 0, 1) := by decide +kernel
theorem d_Te_closeOpen_21 : decode prog_5_method_7_code 21 = .ok (.getfield 22, 3) := by decide +kernel
theorem d_Te_closeOpen_24 : decode prog_5_method_7_code 24 = .ok (.aload_n 0, 1) := by decide +kernel
theorem d_Te_closeOpen_25 : decode prog_5_method_7_code 25 = .ok (.getfield 26, 3) := by decide +kernel
theorem d_Te_closeOpen_28 : decode prog_5_method_7_code 28 = .ok (.iastore, 1) := by decide +kernel
theorem d_Te_closeOpen_29 : decode prog_5_method_7_code 29 = .ok (.aload_n 0, 1) := by decide +kernel
theorem d_Te_closeOpen_30 : decode prog_5_method_7_code 30 = .ok (.getfield 19, 3) := by decide +kernel
theorem d_Te_closeOpen_33 : decode prog_5_method_7_code 33 = .ok (.aload_n 0, 1) := by decide +kernel
theorem d_Te_closeOpen_34 : decode prog_5_method_7_code 34 = .ok (.getfield 22, 3) := by decide +kernel
theorem d_Te_closeOpen_37 : decode prog_5_method_7_code 37 = .ok (.aload_n 0, 1) := by decide +kernel
theorem d_Te_closeOpen_38 : decode prog_5_method_7_code 38 = .ok (.getfield 29, 3) := by decide +kernel
theorem d_Te_closeOpen_41 : decode prog_5_method_7_code 41 = .ok (.iastore, 1) := by decide +kernel
theorem d_Te_closeOpen_42 : decode prog_5_method_7_code 42 = .ok (.aload_n 0, 1) := by decide +kernel
theorem d_Te_closeOpen_43 : decode prog_5_method_7_code 43 = .ok (.dup, 1) := by decide +kernel
theorem d_Te_closeOpen_44 : decode prog_5_method_7_code 44 = .ok (.getfield 22, 3) := by decide +kernel
theorem d_Te_closeOpen_47 : decode prog_5_method_7_code 47 = .ok (.iconst 1, 1) := by decide +kernel
theorem d_Te_closeOpen_48 : decode prog_5_method_7_code 48 = .ok (.iadd, 1) := by decide +kernel
theorem d_Te_closeOpen_49 : decode prog_5_method_7_code 49 = .ok (.putfield 22, 3) := by decide +kernel
theorem d_Te_closeOpen_52 : decode prog_5_method_7_code 52 = .ok (.aload_n 0, 1) := by decide +kernel
theorem d_Te_closeOpen_53 : decode prog_5_method_7_code 53 = .ok (.dup, 1) := by decide +kernel
theorem d_Te_closeOpen_54 : decode prog_5_method_7_code 54 = .ok (.getfield 26, 3) := by decide +kernel
theorem d_Te_closeOpen_57 : decode prog_5_method_7_code 57 = .ok (.aload_n 0, 1) := by decide +kernel
theorem d_Te_closeOpen_58 : decode prog_5_method_7_code 58 = .ok (.getfield 29, 3) := by decide +kernel
theorem d_Te_closeOpen_61 : decode prog_5_method_7_code 61 = .ok (.iadd, 1) := by decide +kernel
theorem d_Te_closeOpen_62 : decode prog_5_method_7_code 62 = .ok (.putfield 26, 3) := by decide +kernel
theorem d_Te_closeOpen_65 : decode prog_5_method_7_code 65 = .ok (.aload_n 0, 1) := by decide +kernel
theorem d_Te_closeOpen_66 : decode prog_5_method_7_code 66 = .ok (.iconst 0, 1) := by decide +kernel
theorem d_Te_closeOpen_67 : decode prog_5_method_7_code 67 = .ok (.putfield 29, 3) := by decide +kernel
theorem d_Te_closeOpen_70 : decode prog_5_method_7_code 70 = .ok (.return_, 1) := by decide +kernel
theorem d_Te_has_0 : decode prog_5_method_8_code 0 = .ok (.iload_n 1, 1) := by decide +kernel
theorem d_Te_has_1 : decode prog_5_method_8_code 1 = .ok (.ifCond .lt 21, 3) := by decide +kernel
theorem d_Te_has_4 : decode prog_5_method_8_code 4 = .ok (.iload_n 1, 1) := by decide +kernel
theorem d_Te_has_5 : decode prog_5_method_8_code 5 = .ok (.aload_n 0, 1) := by decide +kernel
theorem d_Te_has_6 : decode prog_5_method_8_code 6 = .ok (.getfield 22, 3) := by decide +kernel
theorem d_Te_has_9 : decode prog_5_method_8_code 9 = .ok (.if_icmp .ge 13, 3) := by decide +kernel
theorem d_Te_has_12 : decode prog_5_method_8_code 12 = .ok (.iload_n 1, 1) := by decide +kernel
theorem d_Te_has_13 : decode prog_5_method_8_code 13 = .ok (.bipush 100, 2) := by decide +kernel
theorem d_Te_has_15 : decode prog_5_method_8_code 15 = .ok (.if_icmp .ge 7, 3) := by decide +kernel
theorem d_Te_has_18 : decode prog_5_method_8_code 18 = .ok (.iconst 1, 1) := by decide +kernel
theorem d_Te_has_19 : decode prog_5_method_8_code 19 = .ok (.goto 4, 3) := by decide +kernel
theorem d_Te_has_22 : decode prog_5_method_8_code 22 = .ok (.iconst 0, 1) := by decide +kernel
theorem d_Te_has_23 : decode prog_5_method_8_code 23 = .ok (.ireturn, 1) := by decide +kernel
theorem d_Te_lengthOf_0 : decode prog_5_method_9_code 0 = .ok (.aload_n 0, 1) := by decide +kernel
theorem d_Te_lengthOf_1 : decode prog_5_method_9_code 1 = .ok (.iload_n 1, 1) := by decide +kernel
theorem d_Te_lengthOf_2 : decode prog_5_method_9_code 2 = .ok (.invokevirtual 40, 3) := by decide +kernel
theorem d_Te_lengthOf_5 : decode prog_5_method_9_code 5 = .ok (.ifCond .eq 12, 3) := by decide +kernel
theorem d_Te_lengthOf_8 : decode prog_5_method_9_code 8 = .ok (.aload_n 0, 1) := by decide +kernel
theorem d_Te_lengthOf_9 : decode prog_5_method_9_code 9 = .ok (.getfield 19, 3) := by decide +kernel
theorem d_Te_lengthOf_12 : decode prog_5_method_9_code 12 = .ok (.iload_n 1, 1) := by decide +kernel
theorem d_Te_lengthOf_13 : decode prog_5_method_9_code 13 = .ok (.iaload, 1) := by decide +kernel
theorem d_Te_lengthOf_14 : decode prog_5_method_9_code 14 = .ok (.goto 4, 3) := by decide +kernel
theorem d_Te_lengthOf_17 : decode prog_5_method_9_code 17 = .ok (.iconst 0, 1) := by decide +kernel
theorem d_Te_lengthOf_18 : decode prog_5_method_9_code 18 = .ok (.ireturn, 1) := by decide +kernel
theorem d_Te_byteAt_0 : decode prog_5_method_10_code 0 = .ok (.aload_n 0, 1) := by decide +kernel
theorem d_Te_byteAt_1 : decode prog_5_method_10_code 1 = .ok (.iload_n 1, 1) := by decide +kernel
theorem d_Te_byteAt_2 : decode prog_5_method_10_code 2 = .ok (.invokevirtual 40, 3) := by decide +kernel
theorem d_Te_byteAt_5 : decode prog_5_method_10_code 5 = .ok (.ifCond .eq 17, 3) := by decide +kernel
theorem d_Te_byteAt_8 : decode prog_5_method_10_code 8 = .ok (.iload_n 2, 1) := by decide +kernel
theorem d_Te_byteAt_9 : decode prog_5_method_10_code 9 = .ok (.ifCond .lt 13, 3) := by decide +kernel
theorem d_Te_byteAt_12 : decode prog_5_method_10_code 12 = .ok (.iload_n 2, 1) := by decide +kernel
theorem d_Te_byteAt_13 : decode prog_5_method_10_code 13 = .ok (.aload_n 0, 1) := by decide +kernel
theorem d_Te_byteAt_14 : decode prog_5_method_10_code 14 = .ok (.getfield 19, 3) := by decide +kernel
theorem d_Te_byteAt_17 : decode prog_5_method_10_code 17 = .ok (.iload_n 1, 1) := by decide +kernel
theorem d_Te_byteAt_18 : decode prog_5_method_10_code 18 = .ok (.iaload, 1) := by decide +kernel
theorem d_Te_byteAt_19 : decode prog_5_method_10_code 19 = .ok (.if_icmp .lt 5, 3) := by decide +kernel
theorem d_Te_byteAt_22 : decode prog_5_method_10_code 22 = .ok (.iconst (-1), 1) := by decide +kernel
theorem d_Te_byteAt_23 : decode prog_5_method_10_code 23 = .ok (.ireturn, 1) := by decide +kernel
theorem d_Te_byteAt_24 : decode prog_5_method_10_code 24 = .ok (.aload_n 0, 1) := by decide +kernel
theorem d_Te_byteAt_25 : decode prog_5_method_10_code 25 = .ok (.getfield 15, 3) := by decide +kernel
theorem d_Te_byteAt_28 : decode prog_5_method_10_code 28 = .ok (.iload_n 1, 1) := by decide +kernel
theorem d_Te_byteAt_29 : decode prog_5_method_10_code 29 = .ok (.iaload, 1) := by decide +kernel
theorem d_Te_byteAt_30 : decode prog_5_method_10_code 30 = .ok (.iload_n 2, 1) := by decide +kernel
theorem d_Te_byteAt_31 : decode prog_5_method_10_code 31 = .ok (.iadd, 1) := by decide +kernel
theorem d_Te_byteAt_32 : decode prog_5_method_10_code 32 = .ok (.istore_n 3, 1) := by decide +kernel
theorem d_Te_byteAt_33 : decode prog_5_method_10_code 33 = .ok (.iload_n 3, 1) := by decide +kernel
theorem d_Te_byteAt_34 : decode prog_5_method_10_code 34 = .ok (.ifCond .lt 10, 3) := by decide +kernel
theorem d_Te_byteAt_37 : decode prog_5_method_10_code 37 = .ok (.iload_n 3, 1) := by decide +kernel
theorem d_Te_byteAt_38 : decode prog_5_method_10_code 38 = .ok (.sipush 300, 3) := by decide +kernel
theorem d_Te_byteAt_41 : decode prog_5_method_10_code 41 = .ok (.if_icmp .lt 7, 3) := by decide +kernel
theorem d_Te_byteAt_44 : decode prog_5_method_10_code 44 = .ok (.iconst (-1), 1) := by decide +kernel
theorem d_Te_byteAt_45 : decode prog_5_method_10_code 45 = .ok (.goto 13, 3) := by decide +kernel
theorem d_Te_byteAt_48 : decode prog_5_method_10_code 48 = .ok (.aload_n 0, 1) := by decide +kernel
theorem d_Te_byteAt_49 : decode prog_5_method_10_code 49 = .ok (.getfield 9, 3) := by decide +kernel
theorem d_Te_byteAt_52 : decode prog_5_method_10_code 52 = .ok (.iload_n 3, 1) := by decide +kernel
theorem d_Te_byteAt_53 : decode prog_5_method_10_code 53 = .ok (.baload, 1) := by decide +kernel
theorem d_Te_byteAt_54 : decode prog_5_method_10_code 54 = .ok (.sipush 255, 3) := by decide +kernel
theorem d_Te_byteAt_57 : decode prog_5_method_10_code 57 = .ok (.iand, 1) := by decide +kernel
theorem d_Te_byteAt_58 : decode prog_5_method_10_code 58 = .ok (.ireturn, 1) := by decide +kernel
theorem d_Te_eightBytes_0 : decode prog_5_method_11_code 0 = .ok (.aload_n 0, 1) := by decide +kernel
theorem d_Te_eightBytes_1 : decode prog_5_method_11_code 1 = .ok (.iload_n 1, 1) := by decide +kernel
theorem d_Te_eightBytes_2 : decode prog_5_method_11_code 2 = .ok (.invokevirtual 40, 3) := by decide +kernel
theorem d_Te_eightBytes_5 : decode prog_5_method_11_code 5 = .ok (.ifCond .eq 7, 3) := by decide +kernel
theorem d_Te_eightBytes_8 : decode prog_5_method_11_code 8 = .ok (.iload_n 2, 1) := by decide +kernel
theorem d_Te_eightBytes_9 : decode prog_5_method_11_code 9 = .ok (.ifCond .ge 7, 3) := by decide +kernel
theorem d_Te_eightBytes_12 : decode prog_5_method_11_code 12 = .ok (.ldc2_w 43, 3) := by decide +kernel
theorem d_Te_eightBytes_15 : decode prog_5_method_11_code 15 = .ok (.lreturn, 1) := by decide +kernel
theorem d_Te_eightBytes_16 : decode prog_5_method_11_code 16 = .ok (.aload_n 0, 1) := by decide +kernel
theorem d_Te_eightBytes_17 : decode prog_5_method_11_code 17 = .ok (.getfield 19, 3) := by decide +kernel
theorem d_Te_eightBytes_20 : decode prog_5_method_11_code 20 = .ok (.iload_n 1, 1) := by decide +kernel
theorem d_Te_eightBytes_21 : decode prog_5_method_11_code 21 = .ok (.iaload, 1) := by decide +kernel
theorem d_Te_eightBytes_22 : decode prog_5_method_11_code 22 = .ok (.iload_n 2, 1) := by decide +kernel
theorem d_Te_eightBytes_23 : decode prog_5_method_11_code 23 = .ok (.isub, 1) := by decide +kernel
theorem d_Te_eightBytes_24 : decode prog_5_method_11_code 24 = .ok (.istore_n 3, 1) := by decide +kernel
theorem d_Te_eightBytes_25 : decode prog_5_method_11_code 25 = .ok (.lconst 0, 1) := by decide +kernel
theorem d_Te_eightBytes_26 : decode prog_5_method_11_code 26 = .ok (.lstore 4, 2) := by decide +kernel
theorem d_Te_eightBytes_28 : decode prog_5_method_11_code 28 = .ok (.iconst 0, 1) := by decide +kernel
theorem d_Te_eightBytes_29 : decode prog_5_method_11_code 29 = .ok (.istore 6, 2) := by decide +kernel
theorem d_Te_eightBytes_31 : decode prog_5_method_11_code 31 = .ok (.iload 6, 2) := by decide +kernel
theorem d_Te_eightBytes_33 : decode prog_5_method_11_code 33 = .ok (.bipush 8, 2) := by decide +kernel
theorem d_Te_eightBytes_35 : decode prog_5_method_11_code 35 = .ok (.if_icmp .ge 37, 3) := by decide +kernel
theorem d_Te_eightBytes_38 : decode prog_5_method_11_code 38 = .ok (.lload 4, 2) := by decide +kernel
theorem d_Te_eightBytes_40 : decode prog_5_method_11_code 40 = .ok (.bipush 8, 2) := by decide +kernel
theorem d_Te_eightBytes_42 : decode prog_5_method_11_code 42 = .ok (.lshl, 1) := by decide +kernel
theorem d_Te_eightBytes_43 : decode prog_5_method_11_code 43 = .ok (.iload 6, 2) := by decide +kernel
theorem d_Te_eightBytes_45 : decode prog_5_method_11_code 45 = .ok (.iload_n 3, 1) := by decide +kernel
theorem d_Te_eightBytes_46 : decode prog_5_method_11_code 46 = .ok (.if_icmp .ge 15, 3) := by decide +kernel
theorem d_Te_eightBytes_49 : decode prog_5_method_11_code 49 = .ok (.aload_n 0, 1) := by decide +kernel
theorem d_Te_eightBytes_50 : decode prog_5_method_11_code 50 = .ok (.iload_n 1, 1) := by decide +kernel
theorem d_Te_eightBytes_51 : decode prog_5_method_11_code 51 = .ok (.iload_n 2, 1) := by decide +kernel
theorem d_Te_eightBytes_52 : decode prog_5_method_11_code 52 = .ok (.iload 6, 2) := by decide +kernel
theorem d_Te_eightBytes_54 : decode prog_5_method_11_code 54 = .ok (.iadd, 1) := by decide +kernel
theorem d_Te_eightBytes_55 : decode prog_5_method_11_code 55 = .ok (.invokevirtual 45, 3) := by decide +kernel
theorem d_Te_eightBytes_58 : decode prog_5_method_11_code 58 = .ok (.goto 4, 3) := by decide +kernel
theorem d_Te_eightBytes_61 : decode prog_5_method_11_code 61 = .ok (.iconst 0, 1) := by decide +kernel
theorem d_Te_eightBytes_62 : decode prog_5_method_11_code 62 = .ok (.i2l, 1) := by decide +kernel
theorem d_Te_eightBytes_63 : decode prog_5_method_11_code 63 = .ok (.lor, 1) := by decide +kernel
theorem d_Te_eightBytes_64 : decode prog_5_method_11_code 64 = .ok (.lstore 4, 2) := by decide +kernel
theorem d_Te_eightBytes_66 : decode prog_5_method_11_code 66 = .ok (.iinc 6 1, 3) := by decide +kernel
theorem d_Te_eightBytes_69 : decode prog_5_method_11_code 69 = .ok (.goto (-38), 3) := by decide +kernel
theorem d_Te_eightBytes_72 : decode prog_5_method_11_code 72 = .ok (.lload 4, 2) := by decide +kernel
theorem d_Te_eightBytes_74 : decode prog_5_method_11_code 74 = .ok (.lreturn, 1) := by decide +kernel
theorem d_Te_areAlike_0 : decode prog_5_method_12_code 0 = .ok (.aload_n 0, 1) := by decide +kernel
theorem d_Te_areAlike_1 : decode prog_5_method_12_code 1 = .ok (.iload_n 1, 1) := by decide +kernel
theorem d_Te_areAlike_2 : decode prog_5_method_12_code 2 = .ok (.invokevirtual 49, 3) := by decide +kernel
theorem d_Te_areAlike_5 : decode prog_5_method_12_code 5 = .ok (.istore_n 3, 1) := by decide +kernel
theorem d_Te_areAlike_6 : decode prog_5_method_12_code 6 = .ok (.iload_n 3, 1) := by decide +kernel
theorem d_Te_areAlike_7 : decode prog_5_method_12_code 7 = .ok (.aload_n 0, 1) := by decide +kernel
theorem d_Te_areAlike_8 : decode prog_5_method_12_code 8 = .ok (.iload_n 2, 1) := by decide +kernel
theorem d_Te_areAlike_9 : decode prog_5_method_12_code 9 = .ok (.invokevirtual 49, 3) := by decide +kernel
theorem d_Te_areAlike_12 : decode prog_5_method_12_code 12 = .ok (.if_icmp .eq 5, 3) := by decide +kernel
theorem d_Te_areAlike_15 : decode prog_5_method_12_code 15 = .ok (.iconst 0, 1) := by decide +kernel
theorem d_Te_areAlike_16 : decode prog_5_method_12_code 16 = .ok (.ireturn, 1) := by decide +kernel
theorem d_Te_areAlike_17 : decode prog_5_method_12_code 17 = .ok (.iconst 0, 1) := by decide +kernel
theorem d_Te_areAlike_18 : decode prog_5_method_12_code 18 = .ok (.istore 4, 2) := by decide +kernel
theorem d_Te_areAlike_20 : decode prog_5_method_12_code 20 = .ok (.iload 4, 2) := by decide +kernel
theorem d_Te_areAlike_22 : decode prog_5_method_12_code 22 = .ok (.iload_n 3, 1) := by decide +kernel
theorem d_Te_areAlike_23 : decode prog_5_method_12_code 23 = .ok (.if_icmp .ge 34, 3) := by decide +kernel
theorem d_Te_areAlike_26 : decode prog_5_method_12_code 26 = .ok (.aload_n 0, 1) := by decide +kernel
theorem d_Te_areAlike_27 : decode prog_5_method_12_code 27 = .ok (.iload_n 1, 1) := by decide +kernel
theorem d_Te_areAlike_28 : decode prog_5_method_12_code 28 = .ok (.iload 4, 2) := by decide +kernel
theorem d_Te_areAlike_30 : decode prog_5_method_12_code 30 = .ok (.invokevirtual 45, 3) := by decide +kernel
theorem d_Te_areAlike_33 : decode prog_5_method_12_code 33 = .ok (.invokestatic 52, 3) := by decide +kernel
theorem d_Te_areAlike_36 : decode prog_5_method_12_code 36 = .ok (.aload_n 0, 1) := by decide +kernel
theorem d_Te_areAlike_37 : decode prog_5_method_12_code 37 = .ok (.iload_n 2, 1) := by decide +kernel
theorem d_Te_areAlike_38 : decode prog_5_method_12_code 38 = .ok (.iload 4, 2) := by decide +kernel
theorem d_Te_areAlike_40 : decode prog_5_method_12_code 40 = .ok (.invokevirtual 45, 3) := by decide +kernel
theorem d_Te_areAlike_43 : decode prog_5_method_12_code 43 = .ok (.invokestatic 52, 3) := by decide +kernel
theorem d_Te_areAlike_46 : decode prog_5_method_12_code 46 = .ok (.if_icmp .eq 5, 3) := by decide +kernel
theorem d_Te_areAlike_49 : decode prog_5_method_12_code 49 = .ok (.iconst 0, 1) := by decide +kernel
theorem d_Te_areAlike_50 : decode prog_5_method_12_code 50 = .ok (.ireturn, 1) := by decide +kernel
theorem d_Te_areAlike_51 : decode prog_5_method_12_code 51 = .ok (.iinc 4 1, 3) := by decide +kernel
theorem d_Te_areAlike_54 : decode prog_5_method_12_code 54 = .ok (.goto (-34), 3) := by decide +kernel
theorem d_Te_areAlike_57 : decode prog_5_method_12_code 57 = .ok (.iconst 1, 1) := by decide +kernel
theorem d_Te_areAlike_58 : decode prog_5_method_12_code 58 = .ok (.ireturn, 1) := by decide +kernel
theorem ok_Te_init : okN y_Te_init prog_5_method_1_code 1 0 := ⟨m_46, m_4, m_47, by decide +kernel, rfl⟩
theorem ok_Te_clear : okM y_Te_clear prog_5_method_2_code 1 none 0 := ⟨m_151, (List.mem_filter.mpr ⟨List.mem_append_left _ (List.mem_of_getElem? (i := 2) (by decide +kernel)), by decide +kernel⟩), m_4, m_152, by decide +kernel⟩
theorem ok_Te_append : okM y_Te_append prog_5_method_3_code 3 none 1 := ⟨m_178, (List.mem_filter.mpr ⟨List.mem_append_left _ (List.mem_of_getElem? (i := 7) (by decide +kernel)), by decide +kernel⟩), m_4, m_179, by decide +kernel⟩
theorem ok_Te_openByteAt : okM y_Te_openByteAt prog_5_method_4_code 3 (some .int) 1 := ⟨m_202, (List.mem_filter.mpr ⟨List.mem_append_left _ (List.mem_of_getElem? (i := 12) (by decide +kernel)), by decide +kernel⟩), m_4, m_203, by decide +kernel⟩
theorem ok_Te_dropOpen : okM y_Te_dropOpen prog_5_method_5_code 1 none 0 := ⟨m_347, (List.mem_filter.mpr ⟨List.mem_append_left _ (List.mem_of_getElem? (i := 24) (by decide +kernel)), by decide +kernel⟩), m_4, m_348, by decide +kernel⟩
theorem ok_Te_dropBlanksAtOpenEnd : okM y_Te_dropBlanksAtOpenEnd prog_5_method_6_code 1 none 0 := ⟨m_198, (List.mem_filter.mpr ⟨List.mem_append_left _ (List.mem_of_getElem? (i := 11) (by decide +kernel)), by decide +kernel⟩), m_4, m_199, by decide +kernel⟩
theorem ok_Te_closeOpen : okM y_Te_closeOpen prog_5_method_7_code 1 none 0 := ⟨m_182, (List.mem_filter.mpr ⟨List.mem_append_left _ (List.mem_of_getElem? (i := 8) (by decide +kernel)), by decide +kernel⟩), m_4, m_183, by decide +kernel⟩
theorem ok_Te_has : okM y_Te_has prog_5_method_8_code 2 (some .boolean) 1 := ⟨m_220, (List.mem_filter.mpr ⟨List.mem_append_left _ (List.mem_of_getElem? (i := 16) (by decide +kernel)), by decide +kernel⟩), m_4, m_221, by decide +kernel⟩
theorem ok_Te_lengthOf : okM y_Te_lengthOf prog_5_method_9_code 2 (some .int) 1 := ⟨m_216, (List.mem_filter.mpr ⟨List.mem_append_left _ (List.mem_of_getElem? (i := 15) (by decide +kernel)), by decide +kernel⟩), m_4, m_217, by decide +kernel⟩
theorem ok_Te_byteAt : okM y_Te_byteAt prog_5_method_10_code 4 (some .int) 2 := ⟨m_224, (List.mem_filter.mpr ⟨List.mem_append_left _ (List.mem_of_getElem? (i := 17) (by decide +kernel)), by decide +kernel⟩), m_4, m_225, by decide +kernel⟩
theorem ok_Te_eightBytes : okM y_Te_eightBytes prog_5_method_11_code 7 (some .long) 2 := ⟨m_374, (List.mem_filter.mpr ⟨List.mem_append_left _ (List.mem_of_getElem? (i := 28) (by decide +kernel)), by decide +kernel⟩), m_4, m_375, by decide +kernel⟩
theorem ok_Te_areAlike : okM y_Te_areAlike prog_5_method_12_code 5 (some .boolean) 2 := ⟨m_403, (List.mem_filter.mpr ⟨List.mem_append_left _ (List.mem_of_getElem? (i := 31) (by decide +kernel)), by decide +kernel⟩), m_4, m_404, by decide +kernel⟩
def f_Te_clear (N : Nat) (v_size : Int32) (v_openStart : Int32) (v_openLength : Int32) : Option (Int32 × Int32 × Int32) := some (0, 0, 0)
def f_Te_append (N : Nat) (x1 : Int32) (v_openStart : Int32) (v_openLength : Int32) (v_row : Nat → Int32) : Option (Int32 × (Nat → Int32)) := (if (v_openStart + v_openLength) < 0 then some (v_openLength, v_row) else (if 300 ≤ (v_openStart + v_openLength) then some (v_openLength, v_row) else (if inB (v_openStart + v_openLength) 300 = true then some (v_openLength + 1, upd v_row (v_openStart + v_openLength).toNatClampNeg (vp_nar .byte x1.toInt8.toInt32)) else none)))
def f_Te_openByteAt (N : Nat) (x1 : Int32) (v_openStart : Int32) (v_openLength : Int32) (v_row : Nat → Int32) : Option (Int32) := (if x1 < 0 then some (-1) else (if v_openLength ≤ x1 then some (-1) else (if (v_openStart + x1) < 0 then some (-1) else (if (v_openStart + x1) < 300 then (if inB (v_openStart + x1) 300 = true then some ((v_row (v_openStart + x1).toNatClampNeg) &&& 255) else none) else some (-1)))))
def f_Te_dropOpen (N : Nat) (v_openLength : Int32) : Option (Int32) := some 0
def f_Te_dropBlanksAtOpenEnd_0 (N : Nat) (v_openStart : Int32) (v_row : Nat → Int32) : Nat → Int32 → Option (Int32)
  | 0, _ => none
  | n + 1, v_openLength => (if v_openLength ≤ 0 then some v_openLength else ((f_Te_openByteAt N (v_openLength - 1) v_openStart v_openLength v_row).bind fun z2 => ((f_De_isBlank N z2).bind fun z3 => (if z3 = 0 then some v_openLength else f_Te_dropBlanksAtOpenEnd_0 N v_openStart v_row n (v_openLength - 1)))))
def f_Te_dropBlanksAtOpenEnd (N : Nat) (v_openStart : Int32) (v_openLength : Int32) (v_row : Nat → Int32) : Option (Int32) := f_Te_dropBlanksAtOpenEnd_0 N v_openStart v_row N v_openLength
def f_Te_closeOpen (N : Nat) (v_size : Int32) (v_openStart : Int32) (v_openLength : Int32) (v_starts : Nat → Int32) (v_lengths : Nat → Int32) : Option (Int32 × Int32 × Int32 × (Nat → Int32) × (Nat → Int32)) := (if v_size < 0 then some (v_size, v_openStart, 0, v_starts, v_lengths) else (if 100 ≤ v_size then some (v_size, v_openStart, 0, v_starts, v_lengths) else (if inB v_size 100 = true then (if inB v_size 100 = true then some (v_size + 1, v_openStart + v_openLength, 0, upd v_starts v_size.toNatClampNeg v_openStart, upd v_lengths v_size.toNatClampNeg v_openLength) else none) else none)))
def f_Te_has (N : Nat) (x1 : Int32) (v_size : Int32) : Option (Int32) := (if x1 < 0 then some 0 else (if v_size ≤ x1 then some 0 else (if 100 ≤ x1 then some 0 else some 1)))
def f_Te_lengthOf (N : Nat) (x1 : Int32) (v_size : Int32) (v_lengths : Nat → Int32) : Option (Int32) := ((f_Te_has N x1 v_size).bind fun z1 => (if z1 = 0 then some 0 else (if inB x1 100 = true then some (v_lengths x1.toNatClampNeg) else none)))
def f_Te_byteAt (N : Nat) (x1 : Int32) (x2 : Int32) (v_size : Int32) (v_row : Nat → Int32) (v_starts : Nat → Int32) (v_lengths : Nat → Int32) : Option (Int32) := ((f_Te_has N x1 v_size).bind fun z1 => (if z1 = 0 then some (-1) else (if x2 < 0 then some (-1) else (if inB x1 100 = true then (if x2 < (v_lengths x1.toNatClampNeg) then (if inB x1 100 = true then (if ((v_starts x1.toNatClampNeg) + x2) < 0 then some (-1) else (if ((v_starts x1.toNatClampNeg) + x2) < 300 then (if inB ((v_starts x1.toNatClampNeg) + x2) 300 = true then some ((v_row ((v_starts x1.toNatClampNeg) + x2).toNatClampNeg) &&& 255) else none) else some (-1))) else none) else some (-1)) else none))))
def f_Te_eightBytes_31 (N : Nat) (x1 : Int32) (x2 : Int32) (v_size : Int32) (v_row : Nat → Int32) (v_starts : Nat → Int32) (v_lengths : Nat → Int32) : Nat → Int32 → Int64 → Int32 → Option (Int64)
  | 0, _, _, _ => none
  | n + 1, x3, x4, x6 => (if 8 ≤ x6 then some x4 else (if x3 ≤ x6 then f_Te_eightBytes_31 N x1 x2 v_size v_row v_starts v_lengths n x3 ((x4 <<< ((8 : Int32).toInt64 &&& 63)) ||| ((0 : Int32).toInt64)) (x6 + 1) else ((f_Te_byteAt N x1 (x2 + x6) v_size v_row v_starts v_lengths).bind fun z3 => f_Te_eightBytes_31 N x1 x2 v_size v_row v_starts v_lengths n x3 ((x4 <<< ((8 : Int32).toInt64 &&& 63)) ||| z3.toInt64) (x6 + 1))))
def f_Te_eightBytes (N : Nat) (x1 : Int32) (x2 : Int32) (v_size : Int32) (v_row : Nat → Int32) (v_starts : Nat → Int32) (v_lengths : Nat → Int32) : Option (Int64) := ((f_Te_has N x1 v_size).bind fun z4 => (if z4 = 0 then some (-1) else (if 0 ≤ x2 then (if inB x1 100 = true then f_Te_eightBytes_31 N x1 x2 v_size v_row v_starts v_lengths N ((v_lengths x1.toNatClampNeg) - x2) 0 0 else none) else some (-1))))
def f_Te_areAlike_20 (N : Nat) (x1 : Int32) (x2 : Int32) (v_size : Int32) (v_row : Nat → Int32) (v_starts : Nat → Int32) (v_lengths : Nat → Int32) : Nat → Int32 → Int32 → Option (Int32)
  | 0, _, _ => none
  | n + 1, x3, x4 => (if x3 ≤ x4 then some 1 else ((f_Te_byteAt N x1 x4 v_size v_row v_starts v_lengths).bind fun z2 => ((f_De_lowered N z2).bind fun z3 => ((f_Te_byteAt N x2 x4 v_size v_row v_starts v_lengths).bind fun z4 => ((f_De_lowered N z4).bind fun z5 => (if z3 = z5 then f_Te_areAlike_20 N x1 x2 v_size v_row v_starts v_lengths n x3 (x4 + 1) else some 0))))))
def f_Te_areAlike (N : Nat) (x1 : Int32) (x2 : Int32) (v_size : Int32) (v_row : Nat → Int32) (v_starts : Nat → Int32) (v_lengths : Nat → Int32) : Option (Int32) := ((f_Te_lengthOf N x1 v_size v_lengths).bind fun z7 => ((f_Te_lengthOf N x2 v_size v_lengths).bind fun z8 => (if z7 = z8 then f_Te_areAlike_20 N x1 x2 v_size v_row v_starts v_lengths N z7 0 else some 0)))
set_option maxHeartbeats 4000000 in
set_option maxRecDepth 100000 in
theorem c_Te_init {l : Launch} {dC : Nat → ClassId} {dI : Nat → Nat → Nat} {cB cI : ClassId} {aK aV : Nat → Nat} (h_this : Nat) : Ci l y_Te_init prog_5_method_1_code 1 none ({ frames := 1, cells := 3, slots := 500, locals := 20 }) (dC, dI) cB cI aK aV [.ref h_this] [(h_this, .inr (3, [.null, .null, .null, .int 0, .int 0, .int 0]))] (fun A => Qn (α := Nat × Nat × Nat) (dC, dI) (fun q => [(h_this, .inr (3, [.ref q.1, .ref q.2.1, .ref q.2.2, .int 0, .int 0, .int 0])), (q.1, .inl (cB, 300, .inl (fun _ => 0))), (q.2.1, .inl (cI, 100, .inl (fun _ => 0))), (q.2.2, .inl (cI, 100, .inl (fun _ => 0)))]) A) := by
  refine Ci_of (by decide) (Nat.le_of_ble_eq_true rfl) (fun p e s m below meth c A C hK hnm hA hP hD ls hl => ?_)
  obtain ⟨hx, hb, hr, hml, hown, hts, hlk⟩ := id C
  have hS : va_S A s.heap s.heap [] := va_S.rf
  have hl : lv_has ls 1 [(0, .ref h_this)] := hl
  refine lv_aload_n hx hb d_Te_init_0 rfl (lv_at hl 0 rfl) ?_
  refine W.objInit hx hb hown (hts _ m_48) (hts _ m_19) (hts _ m_20) rfl (by rw [hml]; exact hl.1) rfl d_Te_init_1 (by decide) (Nat.le_of_ble_eq_true rfl) ?_
  refine W.eq (g2 := F0 m 4 ls []) rfl ?_
  refine lv_aload_n hx hb d_Te_init_4 rfl (lv_at hl 0 rfl) ?_
  refine lv_sipush (v := 300) hx hb d_Te_init_5 (by decide) ?_
  refine na_B hx hb (hts _ m_36) hK hP hD hS hA (by decide) (N' := 300) (by decide) (by decide) (by decide) (by decide) d_Te_init_8 (fun q1 H hP hD hS => ?_)
  refine W.widen (k := 1) (n := 300) (by decide) (by decide) ?_
  have hP : va_P (dC, dI) classes [(h_this, .inr (3, [.null, .null, .null, .int 0, .int 0, .int 0])), (q1, .inl (cB, 300, .inl (fun _ => 0)))] H := hP
  have hD : va_D A [(h_this, .inr (3, [.null, .null, .null, .int 0, .int 0, .int 0])), (q1, .inl (cB, 300, .inl (fun _ => 0)))] := hD
  refine va_putF (D := (dC, dI)) (ci := 3) (v := .ref q1) (ty := (.array .byte)) (C := R_Te) (T := F_Te) (N := 6) hx hb hts in_Te t_Te t_Te_ok n_Te hown hK.1 hP hD hS 0 rfl rfl 0 (by decide) (hts _ m_49) (fun _ h9 => h9) rfl hnm rfl (by decide +kernel) rfl rfl (Nat.le_of_ble_eq_true rfl) d_Te_init_10 (fun H locs hP hD hS => ?_)
  have hP : va_P (dC, dI) classes [(h_this, .inr (3, [.ref q1, .null, .null, .int 0, .int 0, .int 0])), (q1, .inl (cB, 300, .inl (fun _ => 0)))] H := hP
  have hD : va_D A [(h_this, .inr (3, [.ref q1, .null, .null, .int 0, .int 0, .int 0])), (q1, .inl (cB, 300, .inl (fun _ => 0)))] := hD
  refine lv_aload_n hx hb d_Te_init_13 rfl (lv_at hl 0 rfl) ?_
  refine lv_bipush (v := 100) hx hb d_Te_init_14 (by decide) ?_
  refine na_I hx hb (hts _ m_72) hK hP hD hS hA (by decide) (N' := 100) (by decide) (by decide) (by decide) (by decide) d_Te_init_16 (fun q2 H hP hD hS => ?_)
  refine W.widen (k := 2) (n := 400) (by decide) (by decide) ?_
  have hP : va_P (dC, dI) classes [(h_this, .inr (3, [.ref q1, .null, .null, .int 0, .int 0, .int 0])), (q1, .inl (cB, 300, .inl (fun _ => 0))), (q2, .inl (cI, 100, .inl (fun _ => 0)))] H := hP
  have hD : va_D A [(h_this, .inr (3, [.ref q1, .null, .null, .int 0, .int 0, .int 0])), (q1, .inl (cB, 300, .inl (fun _ => 0))), (q2, .inl (cI, 100, .inl (fun _ => 0)))] := hD
  refine va_putF (D := (dC, dI)) (ci := 3) (v := .ref q2) (ty := (.array .int)) (C := R_Te) (T := F_Te) (N := 6) hx hb hts in_Te t_Te t_Te_ok n_Te hown hK.1 hP hD hS 0 rfl rfl 1 (by decide) (hts _ m_50) (fun _ h9 => h9) rfl hnm rfl (by decide +kernel) rfl rfl (Nat.le_of_ble_eq_true rfl) d_Te_init_18 (fun H locs hP hD hS => ?_)
  have hP : va_P (dC, dI) classes [(h_this, .inr (3, [.ref q1, .ref q2, .null, .int 0, .int 0, .int 0])), (q1, .inl (cB, 300, .inl (fun _ => 0))), (q2, .inl (cI, 100, .inl (fun _ => 0)))] H := hP
  have hD : va_D A [(h_this, .inr (3, [.ref q1, .ref q2, .null, .int 0, .int 0, .int 0])), (q1, .inl (cB, 300, .inl (fun _ => 0))), (q2, .inl (cI, 100, .inl (fun _ => 0)))] := hD
  refine lv_aload_n hx hb d_Te_init_21 rfl (lv_at hl 0 rfl) ?_
  refine lv_bipush (v := 100) hx hb d_Te_init_22 (by decide) ?_
  refine na_I hx hb (hts _ m_72) hK hP hD hS hA (by decide) (N' := 100) (by decide) (by decide) (by decide) (by decide) d_Te_init_24 (fun q3 H hP hD hS => ?_)
  refine W.widen (k := 3) (n := 500) (by decide) (by decide) ?_
  have hP : va_P (dC, dI) classes [(h_this, .inr (3, [.ref q1, .ref q2, .null, .int 0, .int 0, .int 0])), (q1, .inl (cB, 300, .inl (fun _ => 0))), (q2, .inl (cI, 100, .inl (fun _ => 0))), (q3, .inl (cI, 100, .inl (fun _ => 0)))] H := hP
  have hD : va_D A [(h_this, .inr (3, [.ref q1, .ref q2, .null, .int 0, .int 0, .int 0])), (q1, .inl (cB, 300, .inl (fun _ => 0))), (q2, .inl (cI, 100, .inl (fun _ => 0))), (q3, .inl (cI, 100, .inl (fun _ => 0)))] := hD
  refine va_putF (D := (dC, dI)) (ci := 3) (v := .ref q3) (ty := (.array .int)) (C := R_Te) (T := F_Te) (N := 6) hx hb hts in_Te t_Te t_Te_ok n_Te hown hK.1 hP hD hS 0 rfl rfl 2 (by decide) (hts _ m_51) (fun _ h9 => h9) rfl hnm rfl (by decide +kernel) rfl rfl (Nat.le_of_ble_eq_true rfl) d_Te_init_26 (fun H locs hP hD hS => ?_)
  have hP : va_P (dC, dI) classes [(h_this, .inr (3, [.ref q1, .ref q2, .ref q3, .int 0, .int 0, .int 0])), (q1, .inl (cB, 300, .inl (fun _ => 0))), (q2, .inl (cI, 100, .inl (fun _ => 0))), (q3, .inl (cI, 100, .inl (fun _ => 0)))] H := hP
  have hD : va_D A [(h_this, .inr (3, [.ref q1, .ref q2, .ref q3, .int 0, .int 0, .int 0])), (q1, .inl (cB, 300, .inl (fun _ => 0))), (q2, .inl (cI, 100, .inl (fun _ => 0))), (q3, .inl (cI, 100, .inl (fun _ => 0)))] := hD
  have hP9 := va_P_perm (ws' := [(h_this, .inr (3, [.ref q1, .ref q2, .ref q3, .int 0, .int 0, .int 0])), (q1, .inl (cB, 300, .inl (fun _ => 0))), (q2, .inl (cI, 100, .inl (fun _ => 0))), (q3, .inl (cI, 100, .inl (fun _ => 0)))]) hP [0, 1, 2, 3] rfl
  have hD9 := hD.sub (ws' := [(h_this, .inr (3, [.ref q1, .ref q2, .ref q3, .int 0, .int 0, .int 0])), (q1, .inl (cB, 300, .inl (fun _ => 0))), (q2, .inl (cI, 100, .inl (fun _ => 0))), (q3, .inl (cI, 100, .inl (fun _ => 0)))]) [0, 1, 2, 3] (by decide) rfl
  exact W.vret hx hb hr (fun t ht hW => ⟨⟨(), rfl, trivial, (q1, q2, q3), by rw [ht]; exact hP9, hD9⟩, hS.F ht⟩) hS.2.2 d_Te_init_29 hlk
set_option maxHeartbeats 4000000 in
set_option maxRecDepth 100000 in
theorem c_Te_clear {l : Launch} {dC : Nat → ClassId} {dI : Nat → Nat → Nat} {cB cI : ClassId} {aK aV : Nat → Nat} (N : Nat) (h_this h_this_row h_this_starts h_this_lengths : Nat) (v_size : Int32) (v_openStart : Int32) (v_openLength : Int32) (v_row : Nat → Int32) (v_starts : Nat → Int32) (v_lengths : Nat → Int32) (z : Int32 × Int32 × Int32) (h : f_Te_clear N v_size v_openStart v_openLength = some z) : Ci l y_Te_clear prog_5_method_2_code 1 none ({ frames := 0, cells := 0, slots := 0, locals := 0 }) (dC, dI) cB cI aK aV [.ref h_this] [(h_this, .inr (3, [.ref h_this_row, .ref h_this_starts, .ref h_this_lengths, .int v_size, .int v_openStart, .int v_openLength])), (h_this_row, .inl (cB, 300, .inl v_row)), (h_this_starts, .inl (cI, 100, .inl v_starts)), (h_this_lengths, .inl (cI, 100, .inl v_lengths))] (fun A => (Qv (dC, dI) [(h_this, .inr (3, [.ref h_this_row, .ref h_this_starts, .ref h_this_lengths, .int z.1, .int z.2.1, .int z.2.2])), (h_this_row, .inl (cB, 300, .inl v_row)), (h_this_starts, .inl (cI, 100, .inl v_starts)), (h_this_lengths, .inl (cI, 100, .inl v_lengths))] A)) := by
  refine Ci_of (by decide) (Nat.le_of_ble_eq_true rfl) (fun p e s m below meth c A C hK hnm hA hP hD ls hl => ?_)
  obtain ⟨hx, hb, hr, hml, hown, hts, hlk⟩ := id C
  have hS : va_S A s.heap s.heap [] := va_S.rf
  have hl : lv_has ls 1 [(0, .ref h_this)] := hl
  rw [f_Te_clear] at h
  refine lv_aload_n hx hb d_Te_clear_0 rfl (lv_at hl 0 rfl) ?_
  refine lv_iconst (v := 0) hx hb d_Te_clear_1 (by decide) ?_
  refine va_put (D := (dC, dI)) (ci := 3) (v := .int 0) (ty := .int) (C := R_Te) (T := F_Te) (N := 6) hx hb hts in_Te t_Te t_Te_ok n_Te hown hK.1 hP hD hS 0 rfl rfl 3 (by decide) (hts _ m_52) (fun _ h9 => h9) rfl (by decide +kernel) rfl rfl (Nat.le_of_ble_eq_true rfl) d_Te_clear_2 (fun H locs hP hD hS => ?_)
  have hP : va_P (dC, dI) classes [(h_this, .inr (3, [.ref h_this_row, .ref h_this_starts, .ref h_this_lengths, .int 0, .int v_openStart, .int v_openLength])), (h_this_row, .inl (cB, 300, .inl v_row)), (h_this_starts, .inl (cI, 100, .inl v_starts)), (h_this_lengths, .inl (cI, 100, .inl v_lengths))] H := hP
  have hD : va_D A [(h_this, .inr (3, [.ref h_this_row, .ref h_this_starts, .ref h_this_lengths, .int 0, .int v_openStart, .int v_openLength])), (h_this_row, .inl (cB, 300, .inl v_row)), (h_this_starts, .inl (cI, 100, .inl v_starts)), (h_this_lengths, .inl (cI, 100, .inl v_lengths))] := hD
  refine lv_aload_n hx hb d_Te_clear_5 rfl (lv_at hl 0 rfl) ?_
  refine lv_iconst (v := 0) hx hb d_Te_clear_6 (by decide) ?_
  refine va_put (D := (dC, dI)) (ci := 3) (v := .int 0) (ty := .int) (C := R_Te) (T := F_Te) (N := 6) hx hb hts in_Te t_Te t_Te_ok n_Te hown hK.1 hP hD hS 0 rfl rfl 4 (by decide) (hts _ m_55) (fun _ h9 => h9) rfl (by decide +kernel) rfl rfl (Nat.le_of_ble_eq_true rfl) d_Te_clear_7 (fun H locs hP hD hS => ?_)
  have hP : va_P (dC, dI) classes [(h_this, .inr (3, [.ref h_this_row, .ref h_this_starts, .ref h_this_lengths, .int 0, .int 0, .int v_openLength])), (h_this_row, .inl (cB, 300, .inl v_row)), (h_this_starts, .inl (cI, 100, .inl v_starts)), (h_this_lengths, .inl (cI, 100, .inl v_lengths))] H := hP
  have hD : va_D A [(h_this, .inr (3, [.ref h_this_row, .ref h_this_starts, .ref h_this_lengths, .int 0, .int 0, .int v_openLength])), (h_this_row, .inl (cB, 300, .inl v_row)), (h_this_starts, .inl (cI, 100, .inl v_starts)), (h_this_lengths, .inl (cI, 100, .inl v_lengths))] := hD
  refine lv_aload_n hx hb d_Te_clear_10 rfl (lv_at hl 0 rfl) ?_
  refine lv_iconst (v := 0) hx hb d_Te_clear_11 (by decide) ?_
  refine va_put (D := (dC, dI)) (ci := 3) (v := .int 0) (ty := .int) (C := R_Te) (T := F_Te) (N := 6) hx hb hts in_Te t_Te t_Te_ok n_Te hown hK.1 hP hD hS 0 rfl rfl 5 (by decide) (hts _ m_56) (fun _ h9 => h9) rfl (by decide +kernel) rfl rfl (Nat.le_of_ble_eq_true rfl) d_Te_clear_12 (fun H locs hP hD hS => ?_)
  have hP : va_P (dC, dI) classes [(h_this, .inr (3, [.ref h_this_row, .ref h_this_starts, .ref h_this_lengths, .int 0, .int 0, .int 0])), (h_this_row, .inl (cB, 300, .inl v_row)), (h_this_starts, .inl (cI, 100, .inl v_starts)), (h_this_lengths, .inl (cI, 100, .inl v_lengths))] H := hP
  have hD : va_D A [(h_this, .inr (3, [.ref h_this_row, .ref h_this_starts, .ref h_this_lengths, .int 0, .int 0, .int 0])), (h_this_row, .inl (cB, 300, .inl v_row)), (h_this_starts, .inl (cI, 100, .inl v_starts)), (h_this_lengths, .inl (cI, 100, .inl v_lengths))] := hD
  obtain rfl := Option.some.inj h
  exact W.vret hx hb hr (fun t ht hW => ⟨⟨(), rfl, trivial, by rw [ht]; exact hP, hD⟩, hS.F ht⟩) hS.2.2 d_Te_clear_15 hlk
set_option maxHeartbeats 4000000 in
set_option maxRecDepth 100000 in
theorem c_Te_append {l : Launch} {dC : Nat → ClassId} {dI : Nat → Nat → Nat} {cB cI : ClassId} {aK aV : Nat → Nat} (N : Nat) (h_this h_this_row h_this_starts h_this_lengths : Nat) (v_size : Int32) (v_openStart : Int32) (v_openLength : Int32) (v_row : Nat → Int32) (v_starts : Nat → Int32) (v_lengths : Nat → Int32) (x1 : Int32) (z : Int32 × (Nat → Int32)) (h : f_Te_append N x1 v_openStart v_openLength v_row = some z) : Ci l y_Te_append prog_5_method_3_code 3 none ({ frames := 0, cells := 0, slots := 0, locals := 0 }) (dC, dI) cB cI aK aV [.ref h_this, .int x1] [(h_this, .inr (3, [.ref h_this_row, .ref h_this_starts, .ref h_this_lengths, .int v_size, .int v_openStart, .int v_openLength])), (h_this_row, .inl (cB, 300, .inl v_row)), (h_this_starts, .inl (cI, 100, .inl v_starts)), (h_this_lengths, .inl (cI, 100, .inl v_lengths))] (fun A => (Qv (dC, dI) [(h_this, .inr (3, [.ref h_this_row, .ref h_this_starts, .ref h_this_lengths, .int v_size, .int v_openStart, .int z.1])), (h_this_row, .inl (cB, 300, .inl z.2)), (h_this_starts, .inl (cI, 100, .inl v_starts)), (h_this_lengths, .inl (cI, 100, .inl v_lengths))] A)) := by
  refine Ci_of (by decide) (Nat.le_of_ble_eq_true rfl) (fun p e s m below meth c A C hK hnm hA hP hD ls hl => ?_)
  obtain ⟨hx, hb, hr, hml, hown, hts, hlk⟩ := id C
  have hS : va_S A s.heap s.heap [] := va_S.rf
  have hl : lv_has ls 3 [(0, .ref h_this), (1, .int x1)] := hl
  rw [f_Te_append] at h
  refine lv_aload_n hx hb d_Te_append_0 rfl (lv_at hl 0 rfl) ?_
  refine va_get (D := (dC, dI)) (ci := 3) (v := .int v_openStart) (C := R_Te) (T := F_Te) (N := 6) hx hb hts in_Te hown hK.1 hP 0 rfl rfl 4 (by decide) (hts _ m_55) (fun _ h9 => h9) rfl d_Te_append_1 ?_
  refine lv_aload_n hx hb d_Te_append_4 rfl (lv_at hl 0 rfl) ?_
  refine va_get (D := (dC, dI)) (ci := 3) (v := .int v_openLength) (C := R_Te) (T := F_Te) (N := 6) hx hb hts in_Te hown hK.1 hP 0 rfl rfl 5 (by decide) (hts _ m_56) (fun _ h9 => h9) rfl d_Te_append_5 ?_
  refine lv_iadd hx hb d_Te_append_8 ?_
  refine lv_istore_n (lv' := [(2, .int (v_openStart + v_openLength)), (0, .ref h_this), (1, .int x1)]) hx hb d_Te_append_9 rfl hl (by decide) rfl (fun ls hl => ?_)
  refine lv_iload_n hx hb d_Te_append_10 rfl (lv_at hl 0 rfl) ?_
  refine lv_if_lt (tgt := 39) hx hb d_Te_append_11 (by decide) (fun c_1 => ?_) (fun c_1 => ?_)
  · replace h := itT h c_1
    obtain rfl := Option.some.inj h
    exact W.vret hx hb hr (fun t ht hW => ⟨⟨(), rfl, trivial, by rw [ht]; exact hP, hD⟩, hS.F ht⟩) hS.2.2 d_Te_append_39 hlk
  · replace h := itF h c_1
    refine lv_iload_n hx hb d_Te_append_14 rfl (lv_at hl 0 rfl) ?_
    refine lv_sipush (v := 300) hx hb d_Te_append_15 (by decide) ?_
    refine lv_icmp_ge (tgt := 39) hx hb d_Te_append_18 (by decide) (fun c_2 => ?_) (fun c_2 => ?_)
    · replace h := itT h c_2
      obtain rfl := Option.some.inj h
      exact W.vret hx hb hr (fun t ht hW => ⟨⟨(), rfl, trivial, by rw [ht]; exact hP, hD⟩, hS.F ht⟩) hS.2.2 d_Te_append_39 hlk
    · replace h := itF h c_2
      refine lv_aload_n hx hb d_Te_append_21 rfl (lv_at hl 1 rfl) ?_
      refine va_get (D := (dC, dI)) (ci := 3) (v := .ref h_this_row) (C := R_Te) (T := F_Te) (N := 6) hx hb hts in_Te hown hK.1 hP 0 rfl rfl 0 (by decide) (hts _ m_49) (fun _ h9 => h9) rfl d_Te_append_22 ?_
      refine lv_iload_n hx hb d_Te_append_25 rfl (lv_at hl 0 rfl) ?_
      refine lv_iload_n hx hb d_Te_append_26 rfl (lv_at hl 2 rfl) ?_
      refine lv_i2b hx hb d_Te_append_27 rfl ?_
      obtain ⟨g_3, h⟩ := grd h
      refine va_bast hx hb hK.1 hP hD hS 1 0 rfl rfl (inB_in g_3) d_Te_append_28 (fun H locs hP hD hS => ?_)
      have hP : va_P (dC, dI) classes [(h_this, .inr (3, [.ref h_this_row, .ref h_this_starts, .ref h_this_lengths, .int v_size, .int v_openStart, .int v_openLength])), (h_this_row, .inl (cB, 300, .inl (upd v_row (v_openStart + v_openLength).toNatClampNeg (vp_nar .byte x1.toInt8.toInt32)))), (h_this_starts, .inl (cI, 100, .inl v_starts)), (h_this_lengths, .inl (cI, 100, .inl v_lengths))] H := hP
      have hD : va_D A [(h_this, .inr (3, [.ref h_this_row, .ref h_this_starts, .ref h_this_lengths, .int v_size, .int v_openStart, .int v_openLength])), (h_this_row, .inl (cB, 300, .inl (upd v_row (v_openStart + v_openLength).toNatClampNeg (vp_nar .byte x1.toInt8.toInt32)))), (h_this_starts, .inl (cI, 100, .inl v_starts)), (h_this_lengths, .inl (cI, 100, .inl v_lengths))] := hD
      refine lv_aload_n hx hb d_Te_append_29 rfl (lv_at hl 1 rfl) ?_
      refine lv_dup hx hb d_Te_append_30 rfl ?_
      refine va_get (D := (dC, dI)) (ci := 3) (v := .int v_openLength) (C := R_Te) (T := F_Te) (N := 6) hx hb hts in_Te hown hK.1 hP 0 rfl rfl 5 (by decide) (hts _ m_56) (fun _ h9 => h9) rfl d_Te_append_31 ?_
      refine lv_iconst (v := 1) hx hb d_Te_append_34 (by decide) ?_
      refine lv_iadd hx hb d_Te_append_35 ?_
      refine va_put (D := (dC, dI)) (ci := 3) (v := .int (v_openLength + 1)) (ty := .int) (C := R_Te) (T := F_Te) (N := 6) hx hb hts in_Te t_Te t_Te_ok n_Te hown hK.1 hP hD hS 0 rfl rfl 5 (by decide) (hts _ m_56) (fun _ h9 => h9) rfl (by decide +kernel) rfl rfl (Nat.le_of_ble_eq_true rfl) d_Te_append_36 (fun H locs hP hD hS => ?_)
      have hP : va_P (dC, dI) classes [(h_this, .inr (3, [.ref h_this_row, .ref h_this_starts, .ref h_this_lengths, .int v_size, .int v_openStart, .int (v_openLength + 1)])), (h_this_row, .inl (cB, 300, .inl (upd v_row (v_openStart + v_openLength).toNatClampNeg (vp_nar .byte x1.toInt8.toInt32)))), (h_this_starts, .inl (cI, 100, .inl v_starts)), (h_this_lengths, .inl (cI, 100, .inl v_lengths))] H := hP
      have hD : va_D A [(h_this, .inr (3, [.ref h_this_row, .ref h_this_starts, .ref h_this_lengths, .int v_size, .int v_openStart, .int (v_openLength + 1)])), (h_this_row, .inl (cB, 300, .inl (upd v_row (v_openStart + v_openLength).toNatClampNeg (vp_nar .byte x1.toInt8.toInt32)))), (h_this_starts, .inl (cI, 100, .inl v_starts)), (h_this_lengths, .inl (cI, 100, .inl v_lengths))] := hD
      obtain rfl := Option.some.inj h
      exact W.vret hx hb hr (fun t ht hW => ⟨⟨(), rfl, trivial, by rw [ht]; exact hP, hD⟩, hS.F ht⟩) hS.2.2 d_Te_append_39 hlk
set_option maxHeartbeats 4000000 in
set_option maxRecDepth 100000 in
theorem c_Te_openByteAt {l : Launch} {dC : Nat → ClassId} {dI : Nat → Nat → Nat} {cB cI : ClassId} {aK aV : Nat → Nat} (N : Nat) (h_this h_this_row h_this_starts h_this_lengths : Nat) (v_size : Int32) (v_openStart : Int32) (v_openLength : Int32) (v_row : Nat → Int32) (v_starts : Nat → Int32) (v_lengths : Nat → Int32) (x1 : Int32) (z : Int32) (h : f_Te_openByteAt N x1 v_openStart v_openLength v_row = some z) : Ci l y_Te_openByteAt prog_5_method_4_code 3 (some .int) ({ frames := 0, cells := 0, slots := 0, locals := 0 }) (dC, dI) cB cI aK aV [.ref h_this, .int x1] [(h_this, .inr (3, [.ref h_this_row, .ref h_this_starts, .ref h_this_lengths, .int v_size, .int v_openStart, .int v_openLength])), (h_this_row, .inl (cB, 300, .inl v_row)), (h_this_starts, .inl (cI, 100, .inl v_starts)), (h_this_lengths, .inl (cI, 100, .inl v_lengths))] (fun A => (Qi (dC, dI) [(h_this, .inr (3, [.ref h_this_row, .ref h_this_starts, .ref h_this_lengths, .int v_size, .int v_openStart, .int v_openLength])), (h_this_row, .inl (cB, 300, .inl v_row)), (h_this_starts, .inl (cI, 100, .inl v_starts)), (h_this_lengths, .inl (cI, 100, .inl v_lengths))] A z)) := by
  refine Ci_of (by decide) (Nat.le_of_ble_eq_true rfl) (fun p e s m below meth c A C hK hnm hA hP hD ls hl => ?_)
  obtain ⟨hx, hb, hr, hml, hown, hts, hlk⟩ := id C
  have hS : va_S A s.heap s.heap [] := va_S.rf
  have hl : lv_has ls 3 [(0, .ref h_this), (1, .int x1)] := hl
  rw [f_Te_openByteAt] at h
  refine lv_aload_n hx hb d_Te_openByteAt_0 rfl (lv_at hl 0 rfl) ?_
  refine va_get (D := (dC, dI)) (ci := 3) (v := .int v_openStart) (C := R_Te) (T := F_Te) (N := 6) hx hb hts in_Te hown hK.1 hP 0 rfl rfl 4 (by decide) (hts _ m_55) (fun _ h9 => h9) rfl d_Te_openByteAt_1 ?_
  refine lv_iload_n hx hb d_Te_openByteAt_4 rfl (lv_at hl 1 rfl) ?_
  refine lv_iadd hx hb d_Te_openByteAt_5 ?_
  refine lv_istore_n (lv' := [(2, .int (v_openStart + x1)), (0, .ref h_this), (1, .int x1)]) hx hb d_Te_openByteAt_6 rfl hl (by decide) rfl (fun ls hl => ?_)
  refine lv_iload_n hx hb d_Te_openByteAt_7 rfl (lv_at hl 2 rfl) ?_
  refine lv_if_lt (tgt := 30) hx hb d_Te_openByteAt_8 (by decide) (fun c_1 => ?_) (fun c_1 => ?_)
  · replace h := itT h c_1
    refine lv_iconst (v := (-1)) hx hb d_Te_openByteAt_30 (by decide) ?_
    refine lv_goto (tgt := 44) hx hb d_Te_openByteAt_31 (by decide) ?_
    obtain rfl := Option.some.inj h
    exact W.iret (v := (-1)) hx hb hr (fun t ht hW => ⟨⟨(-1), (), rfl, rfl, by rw [ht]; exact hP, hD⟩, hS.F ht⟩) hS.2.2 d_Te_openByteAt_44 hlk
  · replace h := itF h c_1
    refine lv_iload_n hx hb d_Te_openByteAt_11 rfl (lv_at hl 2 rfl) ?_
    refine lv_aload_n hx hb d_Te_openByteAt_12 rfl (lv_at hl 1 rfl) ?_
    refine va_get (D := (dC, dI)) (ci := 3) (v := .int v_openLength) (C := R_Te) (T := F_Te) (N := 6) hx hb hts in_Te hown hK.1 hP 0 rfl rfl 5 (by decide) (hts _ m_56) (fun _ h9 => h9) rfl d_Te_openByteAt_13 ?_
    refine lv_icmp_ge (tgt := 30) hx hb d_Te_openByteAt_16 (by decide) (fun c_2 => ?_) (fun c_2 => ?_)
    · replace h := itT h c_2
      refine lv_iconst (v := (-1)) hx hb d_Te_openByteAt_30 (by decide) ?_
      refine lv_goto (tgt := 44) hx hb d_Te_openByteAt_31 (by decide) ?_
      obtain rfl := Option.some.inj h
      exact W.iret (v := (-1)) hx hb hr (fun t ht hW => ⟨⟨(-1), (), rfl, rfl, by rw [ht]; exact hP, hD⟩, hS.F ht⟩) hS.2.2 d_Te_openByteAt_44 hlk
    · replace h := itF h c_2
      refine lv_iload_n hx hb d_Te_openByteAt_19 rfl (lv_at hl 0 rfl) ?_
      refine lv_if_lt (tgt := 30) hx hb d_Te_openByteAt_20 (by decide) (fun c_3 => ?_) (fun c_3 => ?_)
      · replace h := itT h c_3
        refine lv_iconst (v := (-1)) hx hb d_Te_openByteAt_30 (by decide) ?_
        refine lv_goto (tgt := 44) hx hb d_Te_openByteAt_31 (by decide) ?_
        obtain rfl := Option.some.inj h
        exact W.iret (v := (-1)) hx hb hr (fun t ht hW => ⟨⟨(-1), (), rfl, rfl, by rw [ht]; exact hP, hD⟩, hS.F ht⟩) hS.2.2 d_Te_openByteAt_44 hlk
      · replace h := itF h c_3
        refine lv_iload_n hx hb d_Te_openByteAt_23 rfl (lv_at hl 0 rfl) ?_
        refine lv_sipush (v := 300) hx hb d_Te_openByteAt_24 (by decide) ?_
        refine lv_icmp_lt (tgt := 34) hx hb d_Te_openByteAt_27 (by decide) (fun c_4 => ?_) (fun c_4 => ?_)
        · replace h := itT h c_4
          refine lv_aload_n hx hb d_Te_openByteAt_34 rfl (lv_at hl 1 rfl) ?_
          refine va_get (D := (dC, dI)) (ci := 3) (v := .ref h_this_row) (C := R_Te) (T := F_Te) (N := 6) hx hb hts in_Te hown hK.1 hP 0 rfl rfl 0 (by decide) (hts _ m_49) (fun _ h9 => h9) rfl d_Te_openByteAt_35 ?_
          refine lv_iload_n hx hb d_Te_openByteAt_38 rfl (lv_at hl 0 rfl) ?_
          obtain ⟨g_5, h⟩ := grd h
          refine va_bald hx hb hK.1 hP 1 0 rfl rfl (inB_in g_5) d_Te_openByteAt_39 ?_
          refine lv_sipush (v := 255) hx hb d_Te_openByteAt_40 (by decide) ?_
          refine lv_iand hx hb d_Te_openByteAt_43 ?_
          obtain rfl := Option.some.inj h
          exact W.iret (v := (v_row (v_openStart + x1).toNatClampNeg) &&& 255) hx hb hr (fun t ht hW => ⟨⟨(v_row (v_openStart + x1).toNatClampNeg) &&& 255, (), rfl, rfl, by rw [ht]; exact hP, hD⟩, hS.F ht⟩) hS.2.2 d_Te_openByteAt_44 hlk
        · replace h := itF h c_4
          refine lv_iconst (v := (-1)) hx hb d_Te_openByteAt_30 (by decide) ?_
          refine lv_goto (tgt := 44) hx hb d_Te_openByteAt_31 (by decide) ?_
          obtain rfl := Option.some.inj h
          exact W.iret (v := (-1)) hx hb hr (fun t ht hW => ⟨⟨(-1), (), rfl, rfl, by rw [ht]; exact hP, hD⟩, hS.F ht⟩) hS.2.2 d_Te_openByteAt_44 hlk
set_option maxHeartbeats 4000000 in
set_option maxRecDepth 100000 in
theorem c_Te_dropOpen {l : Launch} {dC : Nat → ClassId} {dI : Nat → Nat → Nat} {cB cI : ClassId} {aK aV : Nat → Nat} (N : Nat) (h_this h_this_row h_this_starts h_this_lengths : Nat) (v_size : Int32) (v_openStart : Int32) (v_openLength : Int32) (v_row : Nat → Int32) (v_starts : Nat → Int32) (v_lengths : Nat → Int32) (z : Int32) (h : f_Te_dropOpen N v_openLength = some z) : Ci l y_Te_dropOpen prog_5_method_5_code 1 none ({ frames := 0, cells := 0, slots := 0, locals := 0 }) (dC, dI) cB cI aK aV [.ref h_this] [(h_this, .inr (3, [.ref h_this_row, .ref h_this_starts, .ref h_this_lengths, .int v_size, .int v_openStart, .int v_openLength])), (h_this_row, .inl (cB, 300, .inl v_row)), (h_this_starts, .inl (cI, 100, .inl v_starts)), (h_this_lengths, .inl (cI, 100, .inl v_lengths))] (fun A => (Qv (dC, dI) [(h_this, .inr (3, [.ref h_this_row, .ref h_this_starts, .ref h_this_lengths, .int v_size, .int v_openStart, .int z])), (h_this_row, .inl (cB, 300, .inl v_row)), (h_this_starts, .inl (cI, 100, .inl v_starts)), (h_this_lengths, .inl (cI, 100, .inl v_lengths))] A)) := by
  refine Ci_of (by decide) (Nat.le_of_ble_eq_true rfl) (fun p e s m below meth c A C hK hnm hA hP hD ls hl => ?_)
  obtain ⟨hx, hb, hr, hml, hown, hts, hlk⟩ := id C
  have hS : va_S A s.heap s.heap [] := va_S.rf
  have hl : lv_has ls 1 [(0, .ref h_this)] := hl
  rw [f_Te_dropOpen] at h
  refine lv_aload_n hx hb d_Te_dropOpen_0 rfl (lv_at hl 0 rfl) ?_
  refine lv_iconst (v := 0) hx hb d_Te_dropOpen_1 (by decide) ?_
  refine va_put (D := (dC, dI)) (ci := 3) (v := .int 0) (ty := .int) (C := R_Te) (T := F_Te) (N := 6) hx hb hts in_Te t_Te t_Te_ok n_Te hown hK.1 hP hD hS 0 rfl rfl 5 (by decide) (hts _ m_56) (fun _ h9 => h9) rfl (by decide +kernel) rfl rfl (Nat.le_of_ble_eq_true rfl) d_Te_dropOpen_2 (fun H locs hP hD hS => ?_)
  have hP : va_P (dC, dI) classes [(h_this, .inr (3, [.ref h_this_row, .ref h_this_starts, .ref h_this_lengths, .int v_size, .int v_openStart, .int 0])), (h_this_row, .inl (cB, 300, .inl v_row)), (h_this_starts, .inl (cI, 100, .inl v_starts)), (h_this_lengths, .inl (cI, 100, .inl v_lengths))] H := hP
  have hD : va_D A [(h_this, .inr (3, [.ref h_this_row, .ref h_this_starts, .ref h_this_lengths, .int v_size, .int v_openStart, .int 0])), (h_this_row, .inl (cB, 300, .inl v_row)), (h_this_starts, .inl (cI, 100, .inl v_starts)), (h_this_lengths, .inl (cI, 100, .inl v_lengths))] := hD
  obtain rfl := Option.some.inj h
  exact W.vret hx hb hr (fun t ht hW => ⟨⟨(), rfl, trivial, by rw [ht]; exact hP, hD⟩, hS.F ht⟩) hS.2.2 d_Te_dropOpen_5 hlk
set_option maxHeartbeats 4000000 in
set_option maxRecDepth 100000 in
theorem k_Te_dropBlanksAtOpenEnd_0 {p : Program} {l : Launch} {e : Env} {s : State} {m : MethodId} {args : Array Value} {below : List Frame} {meth : Method} {c : Code} {dC : Nat → ClassId} {dI : Nat → Nat → Nat} {cB cI : ClassId} {aK aV : Nat → Nat} {A : Nat → Prop} (C : cx p s m args meth c R_Te prog_5_method_6_code 1 none) (hK : kx (dC, dI) cB cI aK aV A s) (hA : ∀ q : Nat, s.heap.size ≤ q → A q) (N : Nat) (h_this h_this_row h_this_starts h_this_lengths : Nat) (v_size : Int32) (v_starts : Nat → Int32) (v_lengths : Nat → Int32) (v_openStart : Int32) (v_row : Nat → Int32) (z : Int32) :
    ∀ (n : Nat), ∀ (v_openLength : Int32), f_Te_dropBlanksAtOpenEnd_0 N v_openStart v_row n v_openLength = some z → ∀ (H : Heap) (locs : List Loc), va_P (dC, dI) classes [(h_this, .inr (3, [.ref h_this_row, .ref h_this_starts, .ref h_this_lengths, .int v_size, .int v_openStart, .int v_openLength])), (h_this_row, .inl (cB, 300, .inl v_row)), (h_this_starts, .inl (cI, 100, .inl v_starts)), (h_this_lengths, .inl (cI, 100, .inl v_lengths))] H → va_D A [(h_this, .inr (3, [.ref h_this_row, .ref h_this_starts, .ref h_this_lengths, .int v_size, .int v_openStart, .int v_openLength])), (h_this_row, .inl (cB, 300, .inl v_row)), (h_this_starts, .inl (cI, 100, .inl v_starts)), (h_this_lengths, .inl (cI, 100, .inl v_lengths))] → va_S A s.heap H locs → ∀ ls : Array Slot, lv_has ls 1 [(0, .ref h_this)] → W p l e ({ frames := 1, cells := 0, slots := 0, locals := 22 }) s m args below meth c H locs 0 0 (MQ below (Qv (dC, dI) [(h_this, .inr (3, [.ref h_this_row, .ref h_this_starts, .ref h_this_lengths, .int v_size, .int v_openStart, .int z])), (h_this_row, .inl (cB, 300, .inl v_row)), (h_this_starts, .inl (cI, 100, .inl v_starts)), (h_this_lengths, .inl (cI, 100, .inl v_lengths))] A) args s 0 0 A) (F0 m 0 ls []) := by
  obtain ⟨hx, hb, hr, hml, hown, hts, hlk⟩ := id C
  intro n
  induction n with
  | zero =>
    intro v_openLength h
    rw [f_Te_dropBlanksAtOpenEnd_0] at h
    cases h
  | succ n ih =>
    intro v_openLength h H locs hP hD hS ls hl
    rw [f_Te_dropBlanksAtOpenEnd_0] at h
    refine lv_aload_n hx hb d_Te_dropBlanksAtOpenEnd_0 rfl (lv_at hl 0 rfl) ?_
    refine va_get (D := (dC, dI)) (ci := 3) (v := .int v_openLength) (C := R_Te) (T := F_Te) (N := 6) hx hb hts in_Te hown hK.1 hP 0 rfl rfl 5 (by decide) (hts _ m_56) (fun _ h9 => h9) rfl d_Te_dropBlanksAtOpenEnd_1 ?_
    refine lv_if_le (tgt := 36) hx hb d_Te_dropBlanksAtOpenEnd_4 (by decide) (fun c_1 => ?_) (fun c_1 => ?_)
    · replace h := itT h c_1
      obtain rfl := Option.some.inj h
      exact W.vret hx hb hr (fun t ht hW => ⟨⟨(), rfl, trivial, by rw [ht]; exact hP, hD⟩, hS.F ht⟩) hS.2.2 d_Te_dropBlanksAtOpenEnd_36 hlk
    · replace h := itF h c_1
      refine lv_aload_n hx hb d_Te_dropBlanksAtOpenEnd_7 rfl (lv_at hl 0 rfl) ?_
      refine lv_aload_n hx hb d_Te_dropBlanksAtOpenEnd_8 rfl (lv_at hl 0 rfl) ?_
      refine va_get (D := (dC, dI)) (ci := 3) (v := .int v_openLength) (C := R_Te) (T := F_Te) (N := 6) hx hb hts in_Te hown hK.1 hP 0 rfl rfl 5 (by decide) (hts _ m_56) (fun _ h9 => h9) rfl d_Te_dropBlanksAtOpenEnd_9 ?_
      refine lv_iconst (v := 1) hx hb d_Te_dropBlanksAtOpenEnd_12 (by decide) ?_
      refine lv_isub hx hb d_Te_dropBlanksAtOpenEnd_13 ?_
      obtain ⟨z2, hc_2, h⟩ := bs h
      refine go_i (wr := []) (w1 := [(h_this, .inr (3, [.ref h_this_row, .ref h_this_starts, .ref h_this_lengths, .int v_size, .int v_openStart, .int v_openLength])), (h_this_row, .inl (cB, 300, .inl v_row)), (h_this_starts, .inl (cI, 100, .inl v_starts)), (h_this_lengths, .inl (cI, 100, .inl v_lengths))]) (ws2 := [(h_this, .inr (3, [.ref h_this_row, .ref h_this_starts, .ref h_this_lengths, .int v_size, .int v_openStart, .int v_openLength])), (h_this_row, .inl (cB, 300, .inl v_row)), (h_this_starts, .inl (cI, 100, .inl v_starts)), (h_this_lengths, .inl (cI, 100, .inl v_lengths))]) hP hD hS hA [0, 1, 2, 3] [] [0, 1, 2, 3] rfl (by decide) rfl (by decide) (by decide) rfl (by decide) (fun hPc hDc hFc => rn_V (As := [.int (v_openLength - 1)]) (rest := []) C hK (c_Te_openByteAt N h_this h_this_row h_this_starts h_this_lengths v_size v_openStart v_openLength v_row v_starts v_lengths (v_openLength - 1) z2 hc_2 _) ⟨rfl, rfl⟩ m_200 ok_Te_openByteAt ⟨by decide, by decide⟩ rfl rfl rfl hl.1 rfl (Nat.le_of_ble_eq_true rfl) d_Te_dropBlanksAtOpenEnd_14 ⟨by decide, by decide⟩ hS hPc hDc hFc) (fun H locs hP hD hS => ?_)
      obtain ⟨z3, hc_3, h⟩ := bs h
      refine go_i (wr := [(h_this, .inr (3, [.ref h_this_row, .ref h_this_starts, .ref h_this_lengths, .int v_size, .int v_openStart, .int v_openLength])), (h_this_row, .inl (cB, 300, .inl v_row)), (h_this_starts, .inl (cI, 100, .inl v_starts)), (h_this_lengths, .inl (cI, 100, .inl v_lengths))]) (w1 := []) (ws2 := [(h_this, .inr (3, [.ref h_this_row, .ref h_this_starts, .ref h_this_lengths, .int v_size, .int v_openStart, .int v_openLength])), (h_this_row, .inl (cB, 300, .inl v_row)), (h_this_starts, .inl (cI, 100, .inl v_starts)), (h_this_lengths, .inl (cI, 100, .inl v_lengths))]) hP hD hS hA [] [0, 1, 2, 3] [0, 1, 2, 3] rfl (by decide) rfl (by decide) (by decide) rfl (by decide) (fun hPc hDc hFc => rn_SN (As := [.int z2]) (rest := []) C hK (c_De_isBlank N z2 z3 hc_3 _) ⟨rfl, rfl⟩ mn_204 ok_De_isBlank ⟨by decide, by decide⟩ hl.1 rfl (Nat.le_of_ble_eq_true rfl) d_Te_dropBlanksAtOpenEnd_17 ⟨by decide, by decide⟩ hS hPc hDc hFc) (fun H locs hP hD hS => ?_)
      refine lv_if_eq (tgt := 36) hx hb d_Te_dropBlanksAtOpenEnd_20 (by decide) (fun c_4 => ?_) (fun c_4 => ?_)
      · replace h := itT h c_4
        obtain rfl := Option.some.inj h
        exact W.vret hx hb hr (fun t ht hW => ⟨⟨(), rfl, trivial, by rw [ht]; exact hP, hD⟩, hS.F ht⟩) hS.2.2 d_Te_dropBlanksAtOpenEnd_36 hlk
      · replace h := itF h c_4
        refine lv_aload_n hx hb d_Te_dropBlanksAtOpenEnd_23 rfl (lv_at hl 0 rfl) ?_
        refine lv_dup hx hb d_Te_dropBlanksAtOpenEnd_24 rfl ?_
        refine va_get (D := (dC, dI)) (ci := 3) (v := .int v_openLength) (C := R_Te) (T := F_Te) (N := 6) hx hb hts in_Te hown hK.1 hP 0 rfl rfl 5 (by decide) (hts _ m_56) (fun _ h9 => h9) rfl d_Te_dropBlanksAtOpenEnd_25 ?_
        refine lv_iconst (v := 1) hx hb d_Te_dropBlanksAtOpenEnd_28 (by decide) ?_
        refine lv_isub hx hb d_Te_dropBlanksAtOpenEnd_29 ?_
        refine va_put (D := (dC, dI)) (ci := 3) (v := .int (v_openLength - 1)) (ty := .int) (C := R_Te) (T := F_Te) (N := 6) hx hb hts in_Te t_Te t_Te_ok n_Te hown hK.1 hP hD hS 0 rfl rfl 5 (by decide) (hts _ m_56) (fun _ h9 => h9) rfl (by decide +kernel) rfl rfl (Nat.le_of_ble_eq_true rfl) d_Te_dropBlanksAtOpenEnd_30 (fun H locs hP hD hS => ?_)
        have hP : va_P (dC, dI) classes [(h_this, .inr (3, [.ref h_this_row, .ref h_this_starts, .ref h_this_lengths, .int v_size, .int v_openStart, .int (v_openLength - 1)])), (h_this_row, .inl (cB, 300, .inl v_row)), (h_this_starts, .inl (cI, 100, .inl v_starts)), (h_this_lengths, .inl (cI, 100, .inl v_lengths))] H := hP
        have hD : va_D A [(h_this, .inr (3, [.ref h_this_row, .ref h_this_starts, .ref h_this_lengths, .int v_size, .int v_openStart, .int (v_openLength - 1)])), (h_this_row, .inl (cB, 300, .inl v_row)), (h_this_starts, .inl (cI, 100, .inl v_starts)), (h_this_lengths, .inl (cI, 100, .inl v_lengths))] := hD
        refine lv_goto (tgt := 0) hx hb d_Te_dropBlanksAtOpenEnd_33 (by decide) ?_
        exact ih (v_openLength - 1) h _ _ hP hD hS _ (lv_sub hl [0] rfl)
set_option maxHeartbeats 4000000 in
set_option maxRecDepth 100000 in
theorem c_Te_dropBlanksAtOpenEnd {l : Launch} {dC : Nat → ClassId} {dI : Nat → Nat → Nat} {cB cI : ClassId} {aK aV : Nat → Nat} (N : Nat) (h_this h_this_row h_this_starts h_this_lengths : Nat) (v_size : Int32) (v_openStart : Int32) (v_openLength : Int32) (v_row : Nat → Int32) (v_starts : Nat → Int32) (v_lengths : Nat → Int32) (z : Int32) (h : f_Te_dropBlanksAtOpenEnd N v_openStart v_openLength v_row = some z) : Ci l y_Te_dropBlanksAtOpenEnd prog_5_method_6_code 1 none ({ frames := 1, cells := 0, slots := 0, locals := 22 }) (dC, dI) cB cI aK aV [.ref h_this] [(h_this, .inr (3, [.ref h_this_row, .ref h_this_starts, .ref h_this_lengths, .int v_size, .int v_openStart, .int v_openLength])), (h_this_row, .inl (cB, 300, .inl v_row)), (h_this_starts, .inl (cI, 100, .inl v_starts)), (h_this_lengths, .inl (cI, 100, .inl v_lengths))] (fun A => (Qv (dC, dI) [(h_this, .inr (3, [.ref h_this_row, .ref h_this_starts, .ref h_this_lengths, .int v_size, .int v_openStart, .int z])), (h_this_row, .inl (cB, 300, .inl v_row)), (h_this_starts, .inl (cI, 100, .inl v_starts)), (h_this_lengths, .inl (cI, 100, .inl v_lengths))] A)) := by
  refine Ci_of (by decide) (Nat.le_of_ble_eq_true rfl) (fun p e s m below meth c A C hK hnm hA hP hD ls hl => ?_)
  obtain ⟨hx, hb, hr, hml, hown, hts, hlk⟩ := id C
  have hS : va_S A s.heap s.heap [] := va_S.rf
  have hl : lv_has ls 1 [(0, .ref h_this)] := hl
  rw [f_Te_dropBlanksAtOpenEnd] at h
  exact k_Te_dropBlanksAtOpenEnd_0 C hK hA N h_this h_this_row h_this_starts h_this_lengths v_size v_starts v_lengths v_openStart v_row z N v_openLength h _ _ hP hD hS _ (lv_sub hl [0] rfl)
set_option maxHeartbeats 4000000 in
set_option maxRecDepth 100000 in
theorem c_Te_closeOpen {l : Launch} {dC : Nat → ClassId} {dI : Nat → Nat → Nat} {cB cI : ClassId} {aK aV : Nat → Nat} (N : Nat) (h_this h_this_row h_this_starts h_this_lengths : Nat) (v_size : Int32) (v_openStart : Int32) (v_openLength : Int32) (v_row : Nat → Int32) (v_starts : Nat → Int32) (v_lengths : Nat → Int32) (z : Int32 × Int32 × Int32 × (Nat → Int32) × (Nat → Int32)) (h : f_Te_closeOpen N v_size v_openStart v_openLength v_starts v_lengths = some z) : Ci l y_Te_closeOpen prog_5_method_7_code 1 none ({ frames := 0, cells := 0, slots := 0, locals := 0 }) (dC, dI) cB cI aK aV [.ref h_this] [(h_this, .inr (3, [.ref h_this_row, .ref h_this_starts, .ref h_this_lengths, .int v_size, .int v_openStart, .int v_openLength])), (h_this_row, .inl (cB, 300, .inl v_row)), (h_this_starts, .inl (cI, 100, .inl v_starts)), (h_this_lengths, .inl (cI, 100, .inl v_lengths))] (fun A => (Qv (dC, dI) [(h_this, .inr (3, [.ref h_this_row, .ref h_this_starts, .ref h_this_lengths, .int z.1, .int z.2.1, .int z.2.2.1])), (h_this_row, .inl (cB, 300, .inl v_row)), (h_this_starts, .inl (cI, 100, .inl z.2.2.2.1)), (h_this_lengths, .inl (cI, 100, .inl z.2.2.2.2))] A)) := by
  refine Ci_of (by decide) (Nat.le_of_ble_eq_true rfl) (fun p e s m below meth c A C hK hnm hA hP hD ls hl => ?_)
  obtain ⟨hx, hb, hr, hml, hown, hts, hlk⟩ := id C
  have hS : va_S A s.heap s.heap [] := va_S.rf
  have hl : lv_has ls 1 [(0, .ref h_this)] := hl
  rw [f_Te_closeOpen] at h
  refine lv_aload_n hx hb d_Te_closeOpen_0 rfl (lv_at hl 0 rfl) ?_
  refine va_get (D := (dC, dI)) (ci := 3) (v := .int v_size) (C := R_Te) (T := F_Te) (N := 6) hx hb hts in_Te hown hK.1 hP 0 rfl rfl 3 (by decide) (hts _ m_52) (fun _ h9 => h9) rfl d_Te_closeOpen_1 ?_
  refine lv_if_lt (tgt := 65) hx hb d_Te_closeOpen_4 (by decide) (fun c_1 => ?_) (fun c_1 => ?_)
  · replace h := itT h c_1
    refine lv_aload_n hx hb d_Te_closeOpen_65 rfl (lv_at hl 0 rfl) ?_
    refine lv_iconst (v := 0) hx hb d_Te_closeOpen_66 (by decide) ?_
    refine va_put (D := (dC, dI)) (ci := 3) (v := .int 0) (ty := .int) (C := R_Te) (T := F_Te) (N := 6) hx hb hts in_Te t_Te t_Te_ok n_Te hown hK.1 hP hD hS 0 rfl rfl 5 (by decide) (hts _ m_56) (fun _ h9 => h9) rfl (by decide +kernel) rfl rfl (Nat.le_of_ble_eq_true rfl) d_Te_closeOpen_67 (fun H locs hP hD hS => ?_)
    have hP : va_P (dC, dI) classes [(h_this, .inr (3, [.ref h_this_row, .ref h_this_starts, .ref h_this_lengths, .int v_size, .int v_openStart, .int 0])), (h_this_row, .inl (cB, 300, .inl v_row)), (h_this_starts, .inl (cI, 100, .inl v_starts)), (h_this_lengths, .inl (cI, 100, .inl v_lengths))] H := hP
    have hD : va_D A [(h_this, .inr (3, [.ref h_this_row, .ref h_this_starts, .ref h_this_lengths, .int v_size, .int v_openStart, .int 0])), (h_this_row, .inl (cB, 300, .inl v_row)), (h_this_starts, .inl (cI, 100, .inl v_starts)), (h_this_lengths, .inl (cI, 100, .inl v_lengths))] := hD
    obtain rfl := Option.some.inj h
    exact W.vret hx hb hr (fun t ht hW => ⟨⟨(), rfl, trivial, by rw [ht]; exact hP, hD⟩, hS.F ht⟩) hS.2.2 d_Te_closeOpen_70 hlk
  · replace h := itF h c_1
    refine lv_aload_n hx hb d_Te_closeOpen_7 rfl (lv_at hl 0 rfl) ?_
    refine va_get (D := (dC, dI)) (ci := 3) (v := .int v_size) (C := R_Te) (T := F_Te) (N := 6) hx hb hts in_Te hown hK.1 hP 0 rfl rfl 3 (by decide) (hts _ m_52) (fun _ h9 => h9) rfl d_Te_closeOpen_8 ?_
    refine lv_bipush (v := 100) hx hb d_Te_closeOpen_11 (by decide) ?_
    refine lv_icmp_ge (tgt := 65) hx hb d_Te_closeOpen_13 (by decide) (fun c_2 => ?_) (fun c_2 => ?_)
    · replace h := itT h c_2
      refine lv_aload_n hx hb d_Te_closeOpen_65 rfl (lv_at hl 0 rfl) ?_
      refine lv_iconst (v := 0) hx hb d_Te_closeOpen_66 (by decide) ?_
      refine va_put (D := (dC, dI)) (ci := 3) (v := .int 0) (ty := .int) (C := R_Te) (T := F_Te) (N := 6) hx hb hts in_Te t_Te t_Te_ok n_Te hown hK.1 hP hD hS 0 rfl rfl 5 (by decide) (hts _ m_56) (fun _ h9 => h9) rfl (by decide +kernel) rfl rfl (Nat.le_of_ble_eq_true rfl) d_Te_closeOpen_67 (fun H locs hP hD hS => ?_)
      have hP : va_P (dC, dI) classes [(h_this, .inr (3, [.ref h_this_row, .ref h_this_starts, .ref h_this_lengths, .int v_size, .int v_openStart, .int 0])), (h_this_row, .inl (cB, 300, .inl v_row)), (h_this_starts, .inl (cI, 100, .inl v_starts)), (h_this_lengths, .inl (cI, 100, .inl v_lengths))] H := hP
      have hD : va_D A [(h_this, .inr (3, [.ref h_this_row, .ref h_this_starts, .ref h_this_lengths, .int v_size, .int v_openStart, .int 0])), (h_this_row, .inl (cB, 300, .inl v_row)), (h_this_starts, .inl (cI, 100, .inl v_starts)), (h_this_lengths, .inl (cI, 100, .inl v_lengths))] := hD
      obtain rfl := Option.some.inj h
      exact W.vret hx hb hr (fun t ht hW => ⟨⟨(), rfl, trivial, by rw [ht]; exact hP, hD⟩, hS.F ht⟩) hS.2.2 d_Te_closeOpen_70 hlk
    · replace h := itF h c_2
      refine lv_aload_n hx hb d_Te_closeOpen_16 rfl (lv_at hl 0 rfl) ?_
      refine va_get (D := (dC, dI)) (ci := 3) (v := .ref h_this_starts) (C := R_Te) (T := F_Te) (N := 6) hx hb hts in_Te hown hK.1 hP 0 rfl rfl 1 (by decide) (hts _ m_50) (fun _ h9 => h9) rfl d_Te_closeOpen_17 ?_
      refine lv_aload_n hx hb d_Te_closeOpen_20 rfl (lv_at hl 0 rfl) ?_
      refine va_get (D := (dC, dI)) (ci := 3) (v := .int v_size) (C := R_Te) (T := F_Te) (N := 6) hx hb hts in_Te hown hK.1 hP 0 rfl rfl 3 (by decide) (hts _ m_52) (fun _ h9 => h9) rfl d_Te_closeOpen_21 ?_
      refine lv_aload_n hx hb d_Te_closeOpen_24 rfl (lv_at hl 0 rfl) ?_
      refine va_get (D := (dC, dI)) (ci := 3) (v := .int v_openStart) (C := R_Te) (T := F_Te) (N := 6) hx hb hts in_Te hown hK.1 hP 0 rfl rfl 4 (by decide) (hts _ m_55) (fun _ h9 => h9) rfl d_Te_closeOpen_25 ?_
      obtain ⟨g_3, h⟩ := grd h
      refine va_iast hx hb hK.1 hP hD hS 2 1 rfl rfl (inB_in g_3) d_Te_closeOpen_28 (fun H locs hP hD hS => ?_)
      have hP : va_P (dC, dI) classes [(h_this, .inr (3, [.ref h_this_row, .ref h_this_starts, .ref h_this_lengths, .int v_size, .int v_openStart, .int v_openLength])), (h_this_row, .inl (cB, 300, .inl v_row)), (h_this_starts, .inl (cI, 100, .inl (upd v_starts v_size.toNatClampNeg v_openStart))), (h_this_lengths, .inl (cI, 100, .inl v_lengths))] H := hP
      have hD : va_D A [(h_this, .inr (3, [.ref h_this_row, .ref h_this_starts, .ref h_this_lengths, .int v_size, .int v_openStart, .int v_openLength])), (h_this_row, .inl (cB, 300, .inl v_row)), (h_this_starts, .inl (cI, 100, .inl (upd v_starts v_size.toNatClampNeg v_openStart))), (h_this_lengths, .inl (cI, 100, .inl v_lengths))] := hD
      refine lv_aload_n hx hb d_Te_closeOpen_29 rfl (lv_at hl 0 rfl) ?_
      refine va_get (D := (dC, dI)) (ci := 3) (v := .ref h_this_lengths) (C := R_Te) (T := F_Te) (N := 6) hx hb hts in_Te hown hK.1 hP 0 rfl rfl 2 (by decide) (hts _ m_51) (fun _ h9 => h9) rfl d_Te_closeOpen_30 ?_
      refine lv_aload_n hx hb d_Te_closeOpen_33 rfl (lv_at hl 0 rfl) ?_
      refine va_get (D := (dC, dI)) (ci := 3) (v := .int v_size) (C := R_Te) (T := F_Te) (N := 6) hx hb hts in_Te hown hK.1 hP 0 rfl rfl 3 (by decide) (hts _ m_52) (fun _ h9 => h9) rfl d_Te_closeOpen_34 ?_
      refine lv_aload_n hx hb d_Te_closeOpen_37 rfl (lv_at hl 0 rfl) ?_
      refine va_get (D := (dC, dI)) (ci := 3) (v := .int v_openLength) (C := R_Te) (T := F_Te) (N := 6) hx hb hts in_Te hown hK.1 hP 0 rfl rfl 5 (by decide) (hts _ m_56) (fun _ h9 => h9) rfl d_Te_closeOpen_38 ?_
      obtain ⟨g_4, h⟩ := grd h
      refine va_iast hx hb hK.1 hP hD hS 3 1 rfl rfl (inB_in g_4) d_Te_closeOpen_41 (fun H locs hP hD hS => ?_)
      have hP : va_P (dC, dI) classes [(h_this, .inr (3, [.ref h_this_row, .ref h_this_starts, .ref h_this_lengths, .int v_size, .int v_openStart, .int v_openLength])), (h_this_row, .inl (cB, 300, .inl v_row)), (h_this_starts, .inl (cI, 100, .inl (upd v_starts v_size.toNatClampNeg v_openStart))), (h_this_lengths, .inl (cI, 100, .inl (upd v_lengths v_size.toNatClampNeg v_openLength)))] H := hP
      have hD : va_D A [(h_this, .inr (3, [.ref h_this_row, .ref h_this_starts, .ref h_this_lengths, .int v_size, .int v_openStart, .int v_openLength])), (h_this_row, .inl (cB, 300, .inl v_row)), (h_this_starts, .inl (cI, 100, .inl (upd v_starts v_size.toNatClampNeg v_openStart))), (h_this_lengths, .inl (cI, 100, .inl (upd v_lengths v_size.toNatClampNeg v_openLength)))] := hD
      refine lv_aload_n hx hb d_Te_closeOpen_42 rfl (lv_at hl 0 rfl) ?_
      refine lv_dup hx hb d_Te_closeOpen_43 rfl ?_
      refine va_get (D := (dC, dI)) (ci := 3) (v := .int v_size) (C := R_Te) (T := F_Te) (N := 6) hx hb hts in_Te hown hK.1 hP 0 rfl rfl 3 (by decide) (hts _ m_52) (fun _ h9 => h9) rfl d_Te_closeOpen_44 ?_
      refine lv_iconst (v := 1) hx hb d_Te_closeOpen_47 (by decide) ?_
      refine lv_iadd hx hb d_Te_closeOpen_48 ?_
      refine va_put (D := (dC, dI)) (ci := 3) (v := .int (v_size + 1)) (ty := .int) (C := R_Te) (T := F_Te) (N := 6) hx hb hts in_Te t_Te t_Te_ok n_Te hown hK.1 hP hD hS 0 rfl rfl 3 (by decide) (hts _ m_52) (fun _ h9 => h9) rfl (by decide +kernel) rfl rfl (Nat.le_of_ble_eq_true rfl) d_Te_closeOpen_49 (fun H locs hP hD hS => ?_)
      have hP : va_P (dC, dI) classes [(h_this, .inr (3, [.ref h_this_row, .ref h_this_starts, .ref h_this_lengths, .int (v_size + 1), .int v_openStart, .int v_openLength])), (h_this_row, .inl (cB, 300, .inl v_row)), (h_this_starts, .inl (cI, 100, .inl (upd v_starts v_size.toNatClampNeg v_openStart))), (h_this_lengths, .inl (cI, 100, .inl (upd v_lengths v_size.toNatClampNeg v_openLength)))] H := hP
      have hD : va_D A [(h_this, .inr (3, [.ref h_this_row, .ref h_this_starts, .ref h_this_lengths, .int (v_size + 1), .int v_openStart, .int v_openLength])), (h_this_row, .inl (cB, 300, .inl v_row)), (h_this_starts, .inl (cI, 100, .inl (upd v_starts v_size.toNatClampNeg v_openStart))), (h_this_lengths, .inl (cI, 100, .inl (upd v_lengths v_size.toNatClampNeg v_openLength)))] := hD
      refine lv_aload_n hx hb d_Te_closeOpen_52 rfl (lv_at hl 0 rfl) ?_
      refine lv_dup hx hb d_Te_closeOpen_53 rfl ?_
      refine va_get (D := (dC, dI)) (ci := 3) (v := .int v_openStart) (C := R_Te) (T := F_Te) (N := 6) hx hb hts in_Te hown hK.1 hP 0 rfl rfl 4 (by decide) (hts _ m_55) (fun _ h9 => h9) rfl d_Te_closeOpen_54 ?_
      refine lv_aload_n hx hb d_Te_closeOpen_57 rfl (lv_at hl 0 rfl) ?_
      refine va_get (D := (dC, dI)) (ci := 3) (v := .int v_openLength) (C := R_Te) (T := F_Te) (N := 6) hx hb hts in_Te hown hK.1 hP 0 rfl rfl 5 (by decide) (hts _ m_56) (fun _ h9 => h9) rfl d_Te_closeOpen_58 ?_
      refine lv_iadd hx hb d_Te_closeOpen_61 ?_
      refine va_put (D := (dC, dI)) (ci := 3) (v := .int (v_openStart + v_openLength)) (ty := .int) (C := R_Te) (T := F_Te) (N := 6) hx hb hts in_Te t_Te t_Te_ok n_Te hown hK.1 hP hD hS 0 rfl rfl 4 (by decide) (hts _ m_55) (fun _ h9 => h9) rfl (by decide +kernel) rfl rfl (Nat.le_of_ble_eq_true rfl) d_Te_closeOpen_62 (fun H locs hP hD hS => ?_)
      have hP : va_P (dC, dI) classes [(h_this, .inr (3, [.ref h_this_row, .ref h_this_starts, .ref h_this_lengths, .int (v_size + 1), .int (v_openStart + v_openLength), .int v_openLength])), (h_this_row, .inl (cB, 300, .inl v_row)), (h_this_starts, .inl (cI, 100, .inl (upd v_starts v_size.toNatClampNeg v_openStart))), (h_this_lengths, .inl (cI, 100, .inl (upd v_lengths v_size.toNatClampNeg v_openLength)))] H := hP
      have hD : va_D A [(h_this, .inr (3, [.ref h_this_row, .ref h_this_starts, .ref h_this_lengths, .int (v_size + 1), .int (v_openStart + v_openLength), .int v_openLength])), (h_this_row, .inl (cB, 300, .inl v_row)), (h_this_starts, .inl (cI, 100, .inl (upd v_starts v_size.toNatClampNeg v_openStart))), (h_this_lengths, .inl (cI, 100, .inl (upd v_lengths v_size.toNatClampNeg v_openLength)))] := hD
      refine lv_aload_n hx hb d_Te_closeOpen_65 rfl (lv_at hl 0 rfl) ?_
      refine lv_iconst (v := 0) hx hb d_Te_closeOpen_66 (by decide) ?_
      refine va_put (D := (dC, dI)) (ci := 3) (v := .int 0) (ty := .int) (C := R_Te) (T := F_Te) (N := 6) hx hb hts in_Te t_Te t_Te_ok n_Te hown hK.1 hP hD hS 0 rfl rfl 5 (by decide) (hts _ m_56) (fun _ h9 => h9) rfl (by decide +kernel) rfl rfl (Nat.le_of_ble_eq_true rfl) d_Te_closeOpen_67 (fun H locs hP hD hS => ?_)
      have hP : va_P (dC, dI) classes [(h_this, .inr (3, [.ref h_this_row, .ref h_this_starts, .ref h_this_lengths, .int (v_size + 1), .int (v_openStart + v_openLength), .int 0])), (h_this_row, .inl (cB, 300, .inl v_row)), (h_this_starts, .inl (cI, 100, .inl (upd v_starts v_size.toNatClampNeg v_openStart))), (h_this_lengths, .inl (cI, 100, .inl (upd v_lengths v_size.toNatClampNeg v_openLength)))] H := hP
      have hD : va_D A [(h_this, .inr (3, [.ref h_this_row, .ref h_this_starts, .ref h_this_lengths, .int (v_size + 1), .int (v_openStart + v_openLength), .int 0])), (h_this_row, .inl (cB, 300, .inl v_row)), (h_this_starts, .inl (cI, 100, .inl (upd v_starts v_size.toNatClampNeg v_openStart))), (h_this_lengths, .inl (cI, 100, .inl (upd v_lengths v_size.toNatClampNeg v_openLength)))] := hD
      obtain rfl := Option.some.inj h
      exact W.vret hx hb hr (fun t ht hW => ⟨⟨(), rfl, trivial, by rw [ht]; exact hP, hD⟩, hS.F ht⟩) hS.2.2 d_Te_closeOpen_70 hlk
set_option maxHeartbeats 4000000 in
set_option maxRecDepth 100000 in
theorem c_Te_has {l : Launch} {dC : Nat → ClassId} {dI : Nat → Nat → Nat} {cB cI : ClassId} {aK aV : Nat → Nat} (N : Nat) (h_this h_this_row h_this_starts h_this_lengths : Nat) (v_size : Int32) (v_openStart : Int32) (v_openLength : Int32) (v_row : Nat → Int32) (v_starts : Nat → Int32) (v_lengths : Nat → Int32) (x1 : Int32) (z : Int32) (h : f_Te_has N x1 v_size = some z) : Ci l y_Te_has prog_5_method_8_code 2 (some .boolean) ({ frames := 0, cells := 0, slots := 0, locals := 0 }) (dC, dI) cB cI aK aV [.ref h_this, .int x1] [(h_this, .inr (3, [.ref h_this_row, .ref h_this_starts, .ref h_this_lengths, .int v_size, .int v_openStart, .int v_openLength])), (h_this_row, .inl (cB, 300, .inl v_row)), (h_this_starts, .inl (cI, 100, .inl v_starts)), (h_this_lengths, .inl (cI, 100, .inl v_lengths))] (fun A => (Qi (dC, dI) [(h_this, .inr (3, [.ref h_this_row, .ref h_this_starts, .ref h_this_lengths, .int v_size, .int v_openStart, .int v_openLength])), (h_this_row, .inl (cB, 300, .inl v_row)), (h_this_starts, .inl (cI, 100, .inl v_starts)), (h_this_lengths, .inl (cI, 100, .inl v_lengths))] A z)) := by
  refine Ci_of (by decide) (Nat.le_of_ble_eq_true rfl) (fun p e s m below meth c A C hK hnm hA hP hD ls hl => ?_)
  obtain ⟨hx, hb, hr, hml, hown, hts, hlk⟩ := id C
  have hS : va_S A s.heap s.heap [] := va_S.rf
  have hl : lv_has ls 2 [(0, .ref h_this), (1, .int x1)] := hl
  rw [f_Te_has] at h
  refine lv_iload_n hx hb d_Te_has_0 rfl (lv_at hl 1 rfl) ?_
  refine lv_if_lt (tgt := 22) hx hb d_Te_has_1 (by decide) (fun c_1 => ?_) (fun c_1 => ?_)
  · replace h := itT h c_1
    refine lv_iconst (v := 0) hx hb d_Te_has_22 (by decide) ?_
    obtain rfl := Option.some.inj h
    exact W.zret (v := 0) hx hb hr rfl (fun t ht hW => ⟨⟨0, (), rfl, rfl, by rw [ht]; exact hP, hD⟩, hS.F ht⟩) hS.2.2 d_Te_has_23 hlk
  · replace h := itF h c_1
    refine lv_iload_n hx hb d_Te_has_4 rfl (lv_at hl 1 rfl) ?_
    refine lv_aload_n hx hb d_Te_has_5 rfl (lv_at hl 0 rfl) ?_
    refine va_get (D := (dC, dI)) (ci := 3) (v := .int v_size) (C := R_Te) (T := F_Te) (N := 6) hx hb hts in_Te hown hK.1 hP 0 rfl rfl 3 (by decide) (hts _ m_52) (fun _ h9 => h9) rfl d_Te_has_6 ?_
    refine lv_icmp_ge (tgt := 22) hx hb d_Te_has_9 (by decide) (fun c_2 => ?_) (fun c_2 => ?_)
    · replace h := itT h c_2
      refine lv_iconst (v := 0) hx hb d_Te_has_22 (by decide) ?_
      obtain rfl := Option.some.inj h
      exact W.zret (v := 0) hx hb hr rfl (fun t ht hW => ⟨⟨0, (), rfl, rfl, by rw [ht]; exact hP, hD⟩, hS.F ht⟩) hS.2.2 d_Te_has_23 hlk
    · replace h := itF h c_2
      refine lv_iload_n hx hb d_Te_has_12 rfl (lv_at hl 1 rfl) ?_
      refine lv_bipush (v := 100) hx hb d_Te_has_13 (by decide) ?_
      refine lv_icmp_ge (tgt := 22) hx hb d_Te_has_15 (by decide) (fun c_3 => ?_) (fun c_3 => ?_)
      · replace h := itT h c_3
        refine lv_iconst (v := 0) hx hb d_Te_has_22 (by decide) ?_
        obtain rfl := Option.some.inj h
        exact W.zret (v := 0) hx hb hr rfl (fun t ht hW => ⟨⟨0, (), rfl, rfl, by rw [ht]; exact hP, hD⟩, hS.F ht⟩) hS.2.2 d_Te_has_23 hlk
      · replace h := itF h c_3
        refine lv_iconst (v := 1) hx hb d_Te_has_18 (by decide) ?_
        refine lv_goto (tgt := 23) hx hb d_Te_has_19 (by decide) ?_
        obtain rfl := Option.some.inj h
        exact W.zret (v := 1) hx hb hr rfl (fun t ht hW => ⟨⟨1, (), rfl, rfl, by rw [ht]; exact hP, hD⟩, hS.F ht⟩) hS.2.2 d_Te_has_23 hlk
set_option maxHeartbeats 4000000 in
set_option maxRecDepth 100000 in
theorem c_Te_lengthOf {l : Launch} {dC : Nat → ClassId} {dI : Nat → Nat → Nat} {cB cI : ClassId} {aK aV : Nat → Nat} (N : Nat) (h_this h_this_row h_this_starts h_this_lengths : Nat) (v_size : Int32) (v_openStart : Int32) (v_openLength : Int32) (v_row : Nat → Int32) (v_starts : Nat → Int32) (v_lengths : Nat → Int32) (x1 : Int32) (z : Int32) (h : f_Te_lengthOf N x1 v_size v_lengths = some z) : Ci l y_Te_lengthOf prog_5_method_9_code 2 (some .int) ({ frames := 1, cells := 0, slots := 0, locals := 21 }) (dC, dI) cB cI aK aV [.ref h_this, .int x1] [(h_this, .inr (3, [.ref h_this_row, .ref h_this_starts, .ref h_this_lengths, .int v_size, .int v_openStart, .int v_openLength])), (h_this_row, .inl (cB, 300, .inl v_row)), (h_this_starts, .inl (cI, 100, .inl v_starts)), (h_this_lengths, .inl (cI, 100, .inl v_lengths))] (fun A => (Qi (dC, dI) [(h_this, .inr (3, [.ref h_this_row, .ref h_this_starts, .ref h_this_lengths, .int v_size, .int v_openStart, .int v_openLength])), (h_this_row, .inl (cB, 300, .inl v_row)), (h_this_starts, .inl (cI, 100, .inl v_starts)), (h_this_lengths, .inl (cI, 100, .inl v_lengths))] A z)) := by
  refine Ci_of (by decide) (Nat.le_of_ble_eq_true rfl) (fun p e s m below meth c A C hK hnm hA hP hD ls hl => ?_)
  obtain ⟨hx, hb, hr, hml, hown, hts, hlk⟩ := id C
  have hS : va_S A s.heap s.heap [] := va_S.rf
  have hl : lv_has ls 2 [(0, .ref h_this), (1, .int x1)] := hl
  rw [f_Te_lengthOf] at h
  refine lv_aload_n hx hb d_Te_lengthOf_0 rfl (lv_at hl 0 rfl) ?_
  refine lv_iload_n hx hb d_Te_lengthOf_1 rfl (lv_at hl 1 rfl) ?_
  obtain ⟨z1, hc_1, h⟩ := bs h
  refine go_i (wr := []) (w1 := [(h_this, .inr (3, [.ref h_this_row, .ref h_this_starts, .ref h_this_lengths, .int v_size, .int v_openStart, .int v_openLength])), (h_this_row, .inl (cB, 300, .inl v_row)), (h_this_starts, .inl (cI, 100, .inl v_starts)), (h_this_lengths, .inl (cI, 100, .inl v_lengths))]) (ws2 := [(h_this, .inr (3, [.ref h_this_row, .ref h_this_starts, .ref h_this_lengths, .int v_size, .int v_openStart, .int v_openLength])), (h_this_row, .inl (cB, 300, .inl v_row)), (h_this_starts, .inl (cI, 100, .inl v_starts)), (h_this_lengths, .inl (cI, 100, .inl v_lengths))]) hP hD hS hA [0, 1, 2, 3] [] [0, 1, 2, 3] rfl (by decide) rfl (by decide) (by decide) rfl (by decide) (fun hPc hDc hFc => rn_V (As := [.int x1]) (rest := []) C hK (c_Te_has N h_this h_this_row h_this_starts h_this_lengths v_size v_openStart v_openLength v_row v_starts v_lengths x1 z1 hc_1 _) ⟨rfl, rfl⟩ m_218 ok_Te_has ⟨by decide, by decide⟩ rfl rfl rfl hl.1 rfl (Nat.le_of_ble_eq_true rfl) d_Te_lengthOf_2 ⟨by decide, by decide⟩ hS hPc hDc hFc) (fun H locs hP hD hS => ?_)
  refine lv_if_eq (tgt := 17) hx hb d_Te_lengthOf_5 (by decide) (fun c_2 => ?_) (fun c_2 => ?_)
  · replace h := itT h c_2
    refine lv_iconst (v := 0) hx hb d_Te_lengthOf_17 (by decide) ?_
    obtain rfl := Option.some.inj h
    exact W.iret (v := 0) hx hb hr (fun t ht hW => ⟨⟨0, (), rfl, rfl, by rw [ht]; exact hP, hD⟩, hS.F ht⟩) hS.2.2 d_Te_lengthOf_18 hlk
  · replace h := itF h c_2
    refine lv_aload_n hx hb d_Te_lengthOf_8 rfl (lv_at hl 0 rfl) ?_
    refine va_get (D := (dC, dI)) (ci := 3) (v := .ref h_this_lengths) (C := R_Te) (T := F_Te) (N := 6) hx hb hts in_Te hown hK.1 hP 0 rfl rfl 2 (by decide) (hts _ m_51) (fun _ h9 => h9) rfl d_Te_lengthOf_9 ?_
    refine lv_iload_n hx hb d_Te_lengthOf_12 rfl (lv_at hl 1 rfl) ?_
    obtain ⟨g_3, h⟩ := grd h
    refine va_iald hx hb hK.1 hP 3 1 rfl rfl (inB_in g_3) d_Te_lengthOf_13 ?_
    refine lv_goto (tgt := 18) hx hb d_Te_lengthOf_14 (by decide) ?_
    obtain rfl := Option.some.inj h
    exact W.iret (v := v_lengths x1.toNatClampNeg) hx hb hr (fun t ht hW => ⟨⟨v_lengths x1.toNatClampNeg, (), rfl, rfl, by rw [ht]; exact hP, hD⟩, hS.F ht⟩) hS.2.2 d_Te_lengthOf_18 hlk
set_option maxHeartbeats 4000000 in
set_option maxRecDepth 100000 in
theorem c_Te_byteAt {l : Launch} {dC : Nat → ClassId} {dI : Nat → Nat → Nat} {cB cI : ClassId} {aK aV : Nat → Nat} (N : Nat) (h_this h_this_row h_this_starts h_this_lengths : Nat) (v_size : Int32) (v_openStart : Int32) (v_openLength : Int32) (v_row : Nat → Int32) (v_starts : Nat → Int32) (v_lengths : Nat → Int32) (x1 : Int32) (x2 : Int32) (z : Int32) (h : f_Te_byteAt N x1 x2 v_size v_row v_starts v_lengths = some z) : Ci l y_Te_byteAt prog_5_method_10_code 4 (some .int) ({ frames := 1, cells := 0, slots := 0, locals := 21 }) (dC, dI) cB cI aK aV [.ref h_this, .int x1, .int x2] [(h_this, .inr (3, [.ref h_this_row, .ref h_this_starts, .ref h_this_lengths, .int v_size, .int v_openStart, .int v_openLength])), (h_this_row, .inl (cB, 300, .inl v_row)), (h_this_starts, .inl (cI, 100, .inl v_starts)), (h_this_lengths, .inl (cI, 100, .inl v_lengths))] (fun A => (Qi (dC, dI) [(h_this, .inr (3, [.ref h_this_row, .ref h_this_starts, .ref h_this_lengths, .int v_size, .int v_openStart, .int v_openLength])), (h_this_row, .inl (cB, 300, .inl v_row)), (h_this_starts, .inl (cI, 100, .inl v_starts)), (h_this_lengths, .inl (cI, 100, .inl v_lengths))] A z)) := by
  refine Ci_of (by decide) (Nat.le_of_ble_eq_true rfl) (fun p e s m below meth c A C hK hnm hA hP hD ls hl => ?_)
  obtain ⟨hx, hb, hr, hml, hown, hts, hlk⟩ := id C
  have hS : va_S A s.heap s.heap [] := va_S.rf
  have hl : lv_has ls 4 [(0, .ref h_this), (1, .int x1), (2, .int x2)] := hl
  rw [f_Te_byteAt] at h
  refine lv_aload_n hx hb d_Te_byteAt_0 rfl (lv_at hl 0 rfl) ?_
  refine lv_iload_n hx hb d_Te_byteAt_1 rfl (lv_at hl 1 rfl) ?_
  obtain ⟨z1, hc_1, h⟩ := bs h
  refine go_i (wr := []) (w1 := [(h_this, .inr (3, [.ref h_this_row, .ref h_this_starts, .ref h_this_lengths, .int v_size, .int v_openStart, .int v_openLength])), (h_this_row, .inl (cB, 300, .inl v_row)), (h_this_starts, .inl (cI, 100, .inl v_starts)), (h_this_lengths, .inl (cI, 100, .inl v_lengths))]) (ws2 := [(h_this, .inr (3, [.ref h_this_row, .ref h_this_starts, .ref h_this_lengths, .int v_size, .int v_openStart, .int v_openLength])), (h_this_row, .inl (cB, 300, .inl v_row)), (h_this_starts, .inl (cI, 100, .inl v_starts)), (h_this_lengths, .inl (cI, 100, .inl v_lengths))]) hP hD hS hA [0, 1, 2, 3] [] [0, 1, 2, 3] rfl (by decide) rfl (by decide) (by decide) rfl (by decide) (fun hPc hDc hFc => rn_V (As := [.int x1]) (rest := []) C hK (c_Te_has N h_this h_this_row h_this_starts h_this_lengths v_size v_openStart v_openLength v_row v_starts v_lengths x1 z1 hc_1 _) ⟨rfl, rfl⟩ m_218 ok_Te_has ⟨by decide, by decide⟩ rfl rfl rfl hl.1 rfl (Nat.le_of_ble_eq_true rfl) d_Te_byteAt_2 ⟨by decide, by decide⟩ hS hPc hDc hFc) (fun H locs hP hD hS => ?_)
  refine lv_if_eq (tgt := 22) hx hb d_Te_byteAt_5 (by decide) (fun c_2 => ?_) (fun c_2 => ?_)
  · replace h := itT h c_2
    refine lv_iconst (v := (-1)) hx hb d_Te_byteAt_22 (by decide) ?_
    obtain rfl := Option.some.inj h
    exact W.iret (v := (-1)) hx hb hr (fun t ht hW => ⟨⟨(-1), (), rfl, rfl, by rw [ht]; exact hP, hD⟩, hS.F ht⟩) hS.2.2 d_Te_byteAt_23 hlk
  · replace h := itF h c_2
    refine lv_iload_n hx hb d_Te_byteAt_8 rfl (lv_at hl 2 rfl) ?_
    refine lv_if_lt (tgt := 22) hx hb d_Te_byteAt_9 (by decide) (fun c_3 => ?_) (fun c_3 => ?_)
    · replace h := itT h c_3
      refine lv_iconst (v := (-1)) hx hb d_Te_byteAt_22 (by decide) ?_
      obtain rfl := Option.some.inj h
      exact W.iret (v := (-1)) hx hb hr (fun t ht hW => ⟨⟨(-1), (), rfl, rfl, by rw [ht]; exact hP, hD⟩, hS.F ht⟩) hS.2.2 d_Te_byteAt_23 hlk
    · replace h := itF h c_3
      refine lv_iload_n hx hb d_Te_byteAt_12 rfl (lv_at hl 2 rfl) ?_
      refine lv_aload_n hx hb d_Te_byteAt_13 rfl (lv_at hl 0 rfl) ?_
      refine va_get (D := (dC, dI)) (ci := 3) (v := .ref h_this_lengths) (C := R_Te) (T := F_Te) (N := 6) hx hb hts in_Te hown hK.1 hP 0 rfl rfl 2 (by decide) (hts _ m_51) (fun _ h9 => h9) rfl d_Te_byteAt_14 ?_
      refine lv_iload_n hx hb d_Te_byteAt_17 rfl (lv_at hl 1 rfl) ?_
      obtain ⟨g_4, h⟩ := grd h
      refine va_iald hx hb hK.1 hP 3 1 rfl rfl (inB_in g_4) d_Te_byteAt_18 ?_
      refine lv_icmp_lt (tgt := 24) hx hb d_Te_byteAt_19 (by decide) (fun c_5 => ?_) (fun c_5 => ?_)
      · replace h := itT h c_5
        refine lv_aload_n hx hb d_Te_byteAt_24 rfl (lv_at hl 0 rfl) ?_
        refine va_get (D := (dC, dI)) (ci := 3) (v := .ref h_this_starts) (C := R_Te) (T := F_Te) (N := 6) hx hb hts in_Te hown hK.1 hP 0 rfl rfl 1 (by decide) (hts _ m_50) (fun _ h9 => h9) rfl d_Te_byteAt_25 ?_
        refine lv_iload_n hx hb d_Te_byteAt_28 rfl (lv_at hl 1 rfl) ?_
        obtain ⟨g_6, h⟩ := grd h
        refine va_iald hx hb hK.1 hP 2 1 rfl rfl (inB_in g_6) d_Te_byteAt_29 ?_
        refine lv_iload_n hx hb d_Te_byteAt_30 rfl (lv_at hl 2 rfl) ?_
        refine lv_iadd hx hb d_Te_byteAt_31 ?_
        refine lv_istore_n (lv' := [(3, .int ((v_starts x1.toNatClampNeg) + x2)), (0, .ref h_this), (1, .int x1), (2, .int x2)]) hx hb d_Te_byteAt_32 rfl hl (by decide) rfl (fun ls hl => ?_)
        refine lv_iload_n hx hb d_Te_byteAt_33 rfl (lv_at hl 0 rfl) ?_
        refine lv_if_lt (tgt := 44) hx hb d_Te_byteAt_34 (by decide) (fun c_7 => ?_) (fun c_7 => ?_)
        · replace h := itT h c_7
          refine lv_iconst (v := (-1)) hx hb d_Te_byteAt_44 (by decide) ?_
          refine lv_goto (tgt := 58) hx hb d_Te_byteAt_45 (by decide) ?_
          obtain rfl := Option.some.inj h
          exact W.iret (v := (-1)) hx hb hr (fun t ht hW => ⟨⟨(-1), (), rfl, rfl, by rw [ht]; exact hP, hD⟩, hS.F ht⟩) hS.2.2 d_Te_byteAt_58 hlk
        · replace h := itF h c_7
          refine lv_iload_n hx hb d_Te_byteAt_37 rfl (lv_at hl 0 rfl) ?_
          refine lv_sipush (v := 300) hx hb d_Te_byteAt_38 (by decide) ?_
          refine lv_icmp_lt (tgt := 48) hx hb d_Te_byteAt_41 (by decide) (fun c_8 => ?_) (fun c_8 => ?_)
          · replace h := itT h c_8
            refine lv_aload_n hx hb d_Te_byteAt_48 rfl (lv_at hl 1 rfl) ?_
            refine va_get (D := (dC, dI)) (ci := 3) (v := .ref h_this_row) (C := R_Te) (T := F_Te) (N := 6) hx hb hts in_Te hown hK.1 hP 0 rfl rfl 0 (by decide) (hts _ m_49) (fun _ h9 => h9) rfl d_Te_byteAt_49 ?_
            refine lv_iload_n hx hb d_Te_byteAt_52 rfl (lv_at hl 0 rfl) ?_
            obtain ⟨g_9, h⟩ := grd h
            refine va_bald hx hb hK.1 hP 1 0 rfl rfl (inB_in g_9) d_Te_byteAt_53 ?_
            refine lv_sipush (v := 255) hx hb d_Te_byteAt_54 (by decide) ?_
            refine lv_iand hx hb d_Te_byteAt_57 ?_
            obtain rfl := Option.some.inj h
            exact W.iret (v := (v_row ((v_starts x1.toNatClampNeg) + x2).toNatClampNeg) &&& 255) hx hb hr (fun t ht hW => ⟨⟨(v_row ((v_starts x1.toNatClampNeg) + x2).toNatClampNeg) &&& 255, (), rfl, rfl, by rw [ht]; exact hP, hD⟩, hS.F ht⟩) hS.2.2 d_Te_byteAt_58 hlk
          · replace h := itF h c_8
            refine lv_iconst (v := (-1)) hx hb d_Te_byteAt_44 (by decide) ?_
            refine lv_goto (tgt := 58) hx hb d_Te_byteAt_45 (by decide) ?_
            obtain rfl := Option.some.inj h
            exact W.iret (v := (-1)) hx hb hr (fun t ht hW => ⟨⟨(-1), (), rfl, rfl, by rw [ht]; exact hP, hD⟩, hS.F ht⟩) hS.2.2 d_Te_byteAt_58 hlk
      · replace h := itF h c_5
        refine lv_iconst (v := (-1)) hx hb d_Te_byteAt_22 (by decide) ?_
        obtain rfl := Option.some.inj h
        exact W.iret (v := (-1)) hx hb hr (fun t ht hW => ⟨⟨(-1), (), rfl, rfl, by rw [ht]; exact hP, hD⟩, hS.F ht⟩) hS.2.2 d_Te_byteAt_23 hlk
set_option maxHeartbeats 4000000 in
set_option maxRecDepth 100000 in
theorem k_Te_eightBytes_31 {p : Program} {l : Launch} {e : Env} {s : State} {m : MethodId} {args : Array Value} {below : List Frame} {meth : Method} {c : Code} {dC : Nat → ClassId} {dI : Nat → Nat → Nat} {cB cI : ClassId} {aK aV : Nat → Nat} {A : Nat → Prop} (C : cx p s m args meth c R_Te prog_5_method_11_code 7 (some .long)) (hK : kx (dC, dI) cB cI aK aV A s) (hA : ∀ q : Nat, s.heap.size ≤ q → A q) (N : Nat) (h_this h_this_row h_this_starts h_this_lengths : Nat) (v_openStart : Int32) (v_openLength : Int32) (x1 : Int32) (x2 : Int32) (v_size : Int32) (v_row : Nat → Int32) (v_starts : Nat → Int32) (v_lengths : Nat → Int32) (z : Int64) :
    ∀ (n : Nat), ∀ (x3 : Int32) (x4 : Int64) (x6 : Int32), f_Te_eightBytes_31 N x1 x2 v_size v_row v_starts v_lengths n x3 x4 x6 = some z → ∀ (H : Heap) (locs : List Loc), va_P (dC, dI) classes [(h_this, .inr (3, [.ref h_this_row, .ref h_this_starts, .ref h_this_lengths, .int v_size, .int v_openStart, .int v_openLength])), (h_this_row, .inl (cB, 300, .inl v_row)), (h_this_starts, .inl (cI, 100, .inl v_starts)), (h_this_lengths, .inl (cI, 100, .inl v_lengths))] H → va_D A [(h_this, .inr (3, [.ref h_this_row, .ref h_this_starts, .ref h_this_lengths, .int v_size, .int v_openStart, .int v_openLength])), (h_this_row, .inl (cB, 300, .inl v_row)), (h_this_starts, .inl (cI, 100, .inl v_starts)), (h_this_lengths, .inl (cI, 100, .inl v_lengths))] → va_S A s.heap H locs → ∀ ls : Array Slot, lv_has ls 7 [(0, .ref h_this), (1, .int x1), (2, .int x2), (3, .int x3), (4, .long x4), (6, .int x6)] → W p l e ({ frames := 2, cells := 0, slots := 0, locals := 44 }) s m args below meth c H locs 0 0 (MQ below (Ql (dC, dI) [(h_this, .inr (3, [.ref h_this_row, .ref h_this_starts, .ref h_this_lengths, .int v_size, .int v_openStart, .int v_openLength])), (h_this_row, .inl (cB, 300, .inl v_row)), (h_this_starts, .inl (cI, 100, .inl v_starts)), (h_this_lengths, .inl (cI, 100, .inl v_lengths))] A z) args s 0 0 A) (F0 m 31 ls []) := by
  obtain ⟨hx, hb, hr, hml, hown, hts, hlk⟩ := id C
  intro n
  induction n with
  | zero =>
    intro x3 x4 x6 h
    rw [f_Te_eightBytes_31] at h
    cases h
  | succ n ih =>
    intro x3 x4 x6 h H locs hP hD hS ls hl
    rw [f_Te_eightBytes_31] at h
    refine lv_iload hx hb d_Te_eightBytes_31 (lv_at hl 5 rfl) ?_
    refine lv_bipush (v := 8) hx hb d_Te_eightBytes_33 (by decide) ?_
    refine lv_icmp_ge (tgt := 72) hx hb d_Te_eightBytes_35 (by decide) (fun c_1 => ?_) (fun c_1 => ?_)
    · replace h := itT h c_1
      refine lv_lload hx hb d_Te_eightBytes_72 (lv_at hl 4 rfl) ?_
      obtain rfl := Option.some.inj h
      exact W.lret (v := x4) hx hb hr (fun t ht hW => ⟨⟨x4, (), rfl, rfl, by rw [ht]; exact hP, hD⟩, hS.F ht⟩) hS.2.2 d_Te_eightBytes_74 hlk
    · replace h := itF h c_1
      refine lv_lload hx hb d_Te_eightBytes_38 (lv_at hl 4 rfl) ?_
      refine lv_bipush (v := 8) hx hb d_Te_eightBytes_40 (by decide) ?_
      refine lv_lshl hx hb d_Te_eightBytes_42 rfl ?_
      refine lv_iload hx hb d_Te_eightBytes_43 (lv_at hl 5 rfl) ?_
      refine lv_iload_n hx hb d_Te_eightBytes_45 rfl (lv_at hl 3 rfl) ?_
      refine lv_icmp_ge (tgt := 61) hx hb d_Te_eightBytes_46 (by decide) (fun c_2 => ?_) (fun c_2 => ?_)
      · replace h := itT h c_2
        refine lv_iconst (v := 0) hx hb d_Te_eightBytes_61 (by decide) ?_
        refine lv_i2l hx hb d_Te_eightBytes_62 rfl ?_
        refine lv_lor hx hb d_Te_eightBytes_63 ?_
        refine lv_lstore (lv' := [(4, .long ((x4 <<< ((8 : Int32).toInt64 &&& 63)) ||| ((0 : Int32).toInt64))), (0, .ref h_this), (1, .int x1), (2, .int x2), (3, .int x3), (6, .int x6)]) hx hb d_Te_eightBytes_64 hl (by decide) rfl (fun ls hl => ?_)
        refine lv_iinc (v := x6 + 1) (lv' := [(6, .int (x6 + 1)), (4, .long ((x4 <<< ((8 : Int32).toInt64 &&& 63)) ||| ((0 : Int32).toInt64))), (0, .ref h_this), (1, .int x1), (2, .int x2), (3, .int x3)]) hx hb d_Te_eightBytes_66 hl (k := 5) rfl rfl (by decide) rfl (fun ls hl => ?_)
        refine lv_goto (tgt := 31) hx hb d_Te_eightBytes_69 (by decide) ?_
        exact ih x3 ((x4 <<< ((8 : Int32).toInt64 &&& 63)) ||| ((0 : Int32).toInt64)) (x6 + 1) h _ _ hP hD hS _ (lv_sub hl [2, 3, 4, 5, 1, 0] rfl)
      · replace h := itF h c_2
        refine lv_aload_n hx hb d_Te_eightBytes_49 rfl (lv_at hl 0 rfl) ?_
        refine lv_iload_n hx hb d_Te_eightBytes_50 rfl (lv_at hl 1 rfl) ?_
        refine lv_iload_n hx hb d_Te_eightBytes_51 rfl (lv_at hl 2 rfl) ?_
        refine lv_iload hx hb d_Te_eightBytes_52 (lv_at hl 5 rfl) ?_
        refine lv_iadd hx hb d_Te_eightBytes_54 ?_
        obtain ⟨z3, hc_3, h⟩ := bs h
        refine go_i (wr := []) (w1 := [(h_this, .inr (3, [.ref h_this_row, .ref h_this_starts, .ref h_this_lengths, .int v_size, .int v_openStart, .int v_openLength])), (h_this_row, .inl (cB, 300, .inl v_row)), (h_this_starts, .inl (cI, 100, .inl v_starts)), (h_this_lengths, .inl (cI, 100, .inl v_lengths))]) (ws2 := [(h_this, .inr (3, [.ref h_this_row, .ref h_this_starts, .ref h_this_lengths, .int v_size, .int v_openStart, .int v_openLength])), (h_this_row, .inl (cB, 300, .inl v_row)), (h_this_starts, .inl (cI, 100, .inl v_starts)), (h_this_lengths, .inl (cI, 100, .inl v_lengths))]) hP hD hS hA [0, 1, 2, 3] [] [0, 1, 2, 3] rfl (by decide) rfl (by decide) (by decide) rfl (by decide) (fun hPc hDc hFc => rn_V (As := [.int x1, .int (x2 + x6)]) (rest := [.long (x4 <<< ((8 : Int32).toInt64 &&& 63))]) C hK (c_Te_byteAt N h_this h_this_row h_this_starts h_this_lengths v_size v_openStart v_openLength v_row v_starts v_lengths x1 (x2 + x6) z3 hc_3 _) ⟨rfl, rfl⟩ m_377 ok_Te_byteAt ⟨by decide, by decide⟩ rfl rfl rfl hl.1 rfl (Nat.le_of_ble_eq_true rfl) d_Te_eightBytes_55 ⟨by decide, by decide⟩ hS hPc hDc hFc) (fun H locs hP hD hS => ?_)
        refine lv_goto (tgt := 62) hx hb d_Te_eightBytes_58 (by decide) ?_
        refine lv_i2l hx hb d_Te_eightBytes_62 rfl ?_
        refine lv_lor hx hb d_Te_eightBytes_63 ?_
        refine lv_lstore (lv' := [(4, .long ((x4 <<< ((8 : Int32).toInt64 &&& 63)) ||| z3.toInt64)), (0, .ref h_this), (1, .int x1), (2, .int x2), (3, .int x3), (6, .int x6)]) hx hb d_Te_eightBytes_64 hl (by decide) rfl (fun ls hl => ?_)
        refine lv_iinc (v := x6 + 1) (lv' := [(6, .int (x6 + 1)), (4, .long ((x4 <<< ((8 : Int32).toInt64 &&& 63)) ||| z3.toInt64)), (0, .ref h_this), (1, .int x1), (2, .int x2), (3, .int x3)]) hx hb d_Te_eightBytes_66 hl (k := 5) rfl rfl (by decide) rfl (fun ls hl => ?_)
        refine lv_goto (tgt := 31) hx hb d_Te_eightBytes_69 (by decide) ?_
        exact ih x3 ((x4 <<< ((8 : Int32).toInt64 &&& 63)) ||| z3.toInt64) (x6 + 1) h _ _ hP hD hS _ (lv_sub hl [2, 3, 4, 5, 1, 0] rfl)
set_option maxHeartbeats 4000000 in
set_option maxRecDepth 100000 in
theorem c_Te_eightBytes {l : Launch} {dC : Nat → ClassId} {dI : Nat → Nat → Nat} {cB cI : ClassId} {aK aV : Nat → Nat} (N : Nat) (h_this h_this_row h_this_starts h_this_lengths : Nat) (v_size : Int32) (v_openStart : Int32) (v_openLength : Int32) (v_row : Nat → Int32) (v_starts : Nat → Int32) (v_lengths : Nat → Int32) (x1 : Int32) (x2 : Int32) (z : Int64) (h : f_Te_eightBytes N x1 x2 v_size v_row v_starts v_lengths = some z) : Ci l y_Te_eightBytes prog_5_method_11_code 7 (some .long) ({ frames := 2, cells := 0, slots := 0, locals := 44 }) (dC, dI) cB cI aK aV [.ref h_this, .int x1, .int x2] [(h_this, .inr (3, [.ref h_this_row, .ref h_this_starts, .ref h_this_lengths, .int v_size, .int v_openStart, .int v_openLength])), (h_this_row, .inl (cB, 300, .inl v_row)), (h_this_starts, .inl (cI, 100, .inl v_starts)), (h_this_lengths, .inl (cI, 100, .inl v_lengths))] (fun A => (Ql (dC, dI) [(h_this, .inr (3, [.ref h_this_row, .ref h_this_starts, .ref h_this_lengths, .int v_size, .int v_openStart, .int v_openLength])), (h_this_row, .inl (cB, 300, .inl v_row)), (h_this_starts, .inl (cI, 100, .inl v_starts)), (h_this_lengths, .inl (cI, 100, .inl v_lengths))] A z)) := by
  refine Ci_of (by decide) (Nat.le_of_ble_eq_true rfl) (fun p e s m below meth c A C hK hnm hA hP hD ls hl => ?_)
  obtain ⟨hx, hb, hr, hml, hown, hts, hlk⟩ := id C
  have hS : va_S A s.heap s.heap [] := va_S.rf
  have hl : lv_has ls 7 [(0, .ref h_this), (1, .int x1), (2, .int x2)] := hl
  rw [f_Te_eightBytes] at h
  refine lv_aload_n hx hb d_Te_eightBytes_0 rfl (lv_at hl 0 rfl) ?_
  refine lv_iload_n hx hb d_Te_eightBytes_1 rfl (lv_at hl 1 rfl) ?_
  obtain ⟨z4, hc_4, h⟩ := bs h
  refine go_i (wr := []) (w1 := [(h_this, .inr (3, [.ref h_this_row, .ref h_this_starts, .ref h_this_lengths, .int v_size, .int v_openStart, .int v_openLength])), (h_this_row, .inl (cB, 300, .inl v_row)), (h_this_starts, .inl (cI, 100, .inl v_starts)), (h_this_lengths, .inl (cI, 100, .inl v_lengths))]) (ws2 := [(h_this, .inr (3, [.ref h_this_row, .ref h_this_starts, .ref h_this_lengths, .int v_size, .int v_openStart, .int v_openLength])), (h_this_row, .inl (cB, 300, .inl v_row)), (h_this_starts, .inl (cI, 100, .inl v_starts)), (h_this_lengths, .inl (cI, 100, .inl v_lengths))]) hP hD hS hA [0, 1, 2, 3] [] [0, 1, 2, 3] rfl (by decide) rfl (by decide) (by decide) rfl (by decide) (fun hPc hDc hFc => rn_V (As := [.int x1]) (rest := []) C hK (c_Te_has N h_this h_this_row h_this_starts h_this_lengths v_size v_openStart v_openLength v_row v_starts v_lengths x1 z4 hc_4 _) ⟨rfl, rfl⟩ m_218 ok_Te_has ⟨by decide, by decide⟩ rfl rfl rfl hl.1 rfl (Nat.le_of_ble_eq_true rfl) d_Te_eightBytes_2 ⟨by decide, by decide⟩ hS hPc hDc hFc) (fun H locs hP hD hS => ?_)
  refine lv_if_eq (tgt := 12) hx hb d_Te_eightBytes_5 (by decide) (fun c_5 => ?_) (fun c_5 => ?_)
  · replace h := itT h c_5
    refine lv_ldc2 (v := (-1)) hx hb hown (hts _ m_376) d_Te_eightBytes_12 ?_
    obtain rfl := Option.some.inj h
    exact W.lret (v := (-1)) hx hb hr (fun t ht hW => ⟨⟨(-1), (), rfl, rfl, by rw [ht]; exact hP, hD⟩, hS.F ht⟩) hS.2.2 d_Te_eightBytes_15 hlk
  · replace h := itF h c_5
    refine lv_iload_n hx hb d_Te_eightBytes_8 rfl (lv_at hl 2 rfl) ?_
    refine lv_if_ge (tgt := 16) hx hb d_Te_eightBytes_9 (by decide) (fun c_6 => ?_) (fun c_6 => ?_)
    · replace h := itT h c_6
      refine lv_aload_n hx hb d_Te_eightBytes_16 rfl (lv_at hl 0 rfl) ?_
      refine va_get (D := (dC, dI)) (ci := 3) (v := .ref h_this_lengths) (C := R_Te) (T := F_Te) (N := 6) hx hb hts in_Te hown hK.1 hP 0 rfl rfl 2 (by decide) (hts _ m_51) (fun _ h9 => h9) rfl d_Te_eightBytes_17 ?_
      refine lv_iload_n hx hb d_Te_eightBytes_20 rfl (lv_at hl 1 rfl) ?_
      obtain ⟨g_7, h⟩ := grd h
      refine va_iald hx hb hK.1 hP 3 1 rfl rfl (inB_in g_7) d_Te_eightBytes_21 ?_
      refine lv_iload_n hx hb d_Te_eightBytes_22 rfl (lv_at hl 2 rfl) ?_
      refine lv_isub hx hb d_Te_eightBytes_23 ?_
      refine lv_istore_n (lv' := [(3, .int ((v_lengths x1.toNatClampNeg) - x2)), (0, .ref h_this), (1, .int x1), (2, .int x2)]) hx hb d_Te_eightBytes_24 rfl hl (by decide) rfl (fun ls hl => ?_)
      refine lv_lconst (v := 0) hx hb d_Te_eightBytes_25 (by decide) ?_
      refine lv_lstore (lv' := [(4, .long 0), (3, .int ((v_lengths x1.toNatClampNeg) - x2)), (0, .ref h_this), (1, .int x1), (2, .int x2)]) hx hb d_Te_eightBytes_26 hl (by decide) rfl (fun ls hl => ?_)
      refine lv_iconst (v := 0) hx hb d_Te_eightBytes_28 (by decide) ?_
      refine lv_istore (lv' := [(6, .int 0), (4, .long 0), (3, .int ((v_lengths x1.toNatClampNeg) - x2)), (0, .ref h_this), (1, .int x1), (2, .int x2)]) hx hb d_Te_eightBytes_29 hl (by decide) rfl (fun ls hl => ?_)
      exact k_Te_eightBytes_31 C hK hA N h_this h_this_row h_this_starts h_this_lengths v_openStart v_openLength x1 x2 v_size v_row v_starts v_lengths z N ((v_lengths x1.toNatClampNeg) - x2) 0 0 h _ _ hP hD hS _ (lv_sub hl [3, 4, 5, 2, 1, 0] rfl)
    · replace h := itF h c_6
      refine lv_ldc2 (v := (-1)) hx hb hown (hts _ m_376) d_Te_eightBytes_12 ?_
      obtain rfl := Option.some.inj h
      exact W.lret (v := (-1)) hx hb hr (fun t ht hW => ⟨⟨(-1), (), rfl, rfl, by rw [ht]; exact hP, hD⟩, hS.F ht⟩) hS.2.2 d_Te_eightBytes_15 hlk
set_option maxHeartbeats 4000000 in
set_option maxRecDepth 100000 in
theorem k_Te_areAlike_20 {p : Program} {l : Launch} {e : Env} {s : State} {m : MethodId} {args : Array Value} {below : List Frame} {meth : Method} {c : Code} {dC : Nat → ClassId} {dI : Nat → Nat → Nat} {cB cI : ClassId} {aK aV : Nat → Nat} {A : Nat → Prop} (C : cx p s m args meth c R_Te prog_5_method_12_code 5 (some .boolean)) (hK : kx (dC, dI) cB cI aK aV A s) (hA : ∀ q : Nat, s.heap.size ≤ q → A q) (N : Nat) (h_this h_this_row h_this_starts h_this_lengths : Nat) (v_openStart : Int32) (v_openLength : Int32) (x1 : Int32) (x2 : Int32) (v_size : Int32) (v_row : Nat → Int32) (v_starts : Nat → Int32) (v_lengths : Nat → Int32) (z : Int32) :
    ∀ (n : Nat), ∀ (x3 : Int32) (x4 : Int32), f_Te_areAlike_20 N x1 x2 v_size v_row v_starts v_lengths n x3 x4 = some z → ∀ (H : Heap) (locs : List Loc), va_P (dC, dI) classes [(h_this, .inr (3, [.ref h_this_row, .ref h_this_starts, .ref h_this_lengths, .int v_size, .int v_openStart, .int v_openLength])), (h_this_row, .inl (cB, 300, .inl v_row)), (h_this_starts, .inl (cI, 100, .inl v_starts)), (h_this_lengths, .inl (cI, 100, .inl v_lengths))] H → va_D A [(h_this, .inr (3, [.ref h_this_row, .ref h_this_starts, .ref h_this_lengths, .int v_size, .int v_openStart, .int v_openLength])), (h_this_row, .inl (cB, 300, .inl v_row)), (h_this_starts, .inl (cI, 100, .inl v_starts)), (h_this_lengths, .inl (cI, 100, .inl v_lengths))] → va_S A s.heap H locs → ∀ ls : Array Slot, lv_has ls 5 [(0, .ref h_this), (1, .int x1), (2, .int x2), (3, .int x3), (4, .int x4)] → W p l e ({ frames := 2, cells := 0, slots := 0, locals := 44 }) s m args below meth c H locs 0 0 (MQ below (Qi (dC, dI) [(h_this, .inr (3, [.ref h_this_row, .ref h_this_starts, .ref h_this_lengths, .int v_size, .int v_openStart, .int v_openLength])), (h_this_row, .inl (cB, 300, .inl v_row)), (h_this_starts, .inl (cI, 100, .inl v_starts)), (h_this_lengths, .inl (cI, 100, .inl v_lengths))] A z) args s 0 0 A) (F0 m 20 ls []) := by
  obtain ⟨hx, hb, hr, hml, hown, hts, hlk⟩ := id C
  intro n
  induction n with
  | zero =>
    intro x3 x4 h
    rw [f_Te_areAlike_20] at h
    cases h
  | succ n ih =>
    intro x3 x4 h H locs hP hD hS ls hl
    rw [f_Te_areAlike_20] at h
    refine lv_iload hx hb d_Te_areAlike_20 (lv_at hl 4 rfl) ?_
    refine lv_iload_n hx hb d_Te_areAlike_22 rfl (lv_at hl 3 rfl) ?_
    refine lv_icmp_ge (tgt := 57) hx hb d_Te_areAlike_23 (by decide) (fun c_1 => ?_) (fun c_1 => ?_)
    · replace h := itT h c_1
      refine lv_iconst (v := 1) hx hb d_Te_areAlike_57 (by decide) ?_
      obtain rfl := Option.some.inj h
      exact W.zret (v := 1) hx hb hr rfl (fun t ht hW => ⟨⟨1, (), rfl, rfl, by rw [ht]; exact hP, hD⟩, hS.F ht⟩) hS.2.2 d_Te_areAlike_58 hlk
    · replace h := itF h c_1
      refine lv_aload_n hx hb d_Te_areAlike_26 rfl (lv_at hl 0 rfl) ?_
      refine lv_iload_n hx hb d_Te_areAlike_27 rfl (lv_at hl 1 rfl) ?_
      refine lv_iload hx hb d_Te_areAlike_28 (lv_at hl 4 rfl) ?_
      obtain ⟨z2, hc_2, h⟩ := bs h
      refine go_i (wr := []) (w1 := [(h_this, .inr (3, [.ref h_this_row, .ref h_this_starts, .ref h_this_lengths, .int v_size, .int v_openStart, .int v_openLength])), (h_this_row, .inl (cB, 300, .inl v_row)), (h_this_starts, .inl (cI, 100, .inl v_starts)), (h_this_lengths, .inl (cI, 100, .inl v_lengths))]) (ws2 := [(h_this, .inr (3, [.ref h_this_row, .ref h_this_starts, .ref h_this_lengths, .int v_size, .int v_openStart, .int v_openLength])), (h_this_row, .inl (cB, 300, .inl v_row)), (h_this_starts, .inl (cI, 100, .inl v_starts)), (h_this_lengths, .inl (cI, 100, .inl v_lengths))]) hP hD hS hA [0, 1, 2, 3] [] [0, 1, 2, 3] rfl (by decide) rfl (by decide) (by decide) rfl (by decide) (fun hPc hDc hFc => rn_V (As := [.int x1, .int x4]) (rest := []) C hK (c_Te_byteAt N h_this h_this_row h_this_starts h_this_lengths v_size v_openStart v_openLength v_row v_starts v_lengths x1 x4 z2 hc_2 _) ⟨rfl, rfl⟩ m_377 ok_Te_byteAt ⟨by decide, by decide⟩ rfl rfl rfl hl.1 rfl (Nat.le_of_ble_eq_true rfl) d_Te_areAlike_30 ⟨by decide, by decide⟩ hS hPc hDc hFc) (fun H locs hP hD hS => ?_)
      obtain ⟨z3, hc_3, h⟩ := bs h
      refine go_i (wr := [(h_this, .inr (3, [.ref h_this_row, .ref h_this_starts, .ref h_this_lengths, .int v_size, .int v_openStart, .int v_openLength])), (h_this_row, .inl (cB, 300, .inl v_row)), (h_this_starts, .inl (cI, 100, .inl v_starts)), (h_this_lengths, .inl (cI, 100, .inl v_lengths))]) (w1 := []) (ws2 := [(h_this, .inr (3, [.ref h_this_row, .ref h_this_starts, .ref h_this_lengths, .int v_size, .int v_openStart, .int v_openLength])), (h_this_row, .inl (cB, 300, .inl v_row)), (h_this_starts, .inl (cI, 100, .inl v_starts)), (h_this_lengths, .inl (cI, 100, .inl v_lengths))]) hP hD hS hA [] [0, 1, 2, 3] [0, 1, 2, 3] rfl (by decide) rfl (by decide) (by decide) rfl (by decide) (fun hPc hDc hFc => rn_SN (As := [.int z2]) (rest := []) C hK (c_De_lowered N z2 z3 hc_3 _) ⟨rfl, rfl⟩ mn_406 ok_De_lowered ⟨by decide, by decide⟩ hl.1 rfl (Nat.le_of_ble_eq_true rfl) d_Te_areAlike_33 ⟨by decide, by decide⟩ hS hPc hDc hFc) (fun H locs hP hD hS => ?_)
      refine lv_aload_n hx hb d_Te_areAlike_36 rfl (lv_at hl 0 rfl) ?_
      refine lv_iload_n hx hb d_Te_areAlike_37 rfl (lv_at hl 2 rfl) ?_
      refine lv_iload hx hb d_Te_areAlike_38 (lv_at hl 4 rfl) ?_
      obtain ⟨z4, hc_4, h⟩ := bs h
      refine go_i (wr := []) (w1 := [(h_this, .inr (3, [.ref h_this_row, .ref h_this_starts, .ref h_this_lengths, .int v_size, .int v_openStart, .int v_openLength])), (h_this_row, .inl (cB, 300, .inl v_row)), (h_this_starts, .inl (cI, 100, .inl v_starts)), (h_this_lengths, .inl (cI, 100, .inl v_lengths))]) (ws2 := [(h_this, .inr (3, [.ref h_this_row, .ref h_this_starts, .ref h_this_lengths, .int v_size, .int v_openStart, .int v_openLength])), (h_this_row, .inl (cB, 300, .inl v_row)), (h_this_starts, .inl (cI, 100, .inl v_starts)), (h_this_lengths, .inl (cI, 100, .inl v_lengths))]) hP hD hS hA [0, 1, 2, 3] [] [0, 1, 2, 3] rfl (by decide) rfl (by decide) (by decide) rfl (by decide) (fun hPc hDc hFc => rn_V (As := [.int x2, .int x4]) (rest := [.int z3]) C hK (c_Te_byteAt N h_this h_this_row h_this_starts h_this_lengths v_size v_openStart v_openLength v_row v_starts v_lengths x2 x4 z4 hc_4 _) ⟨rfl, rfl⟩ m_377 ok_Te_byteAt ⟨by decide, by decide⟩ rfl rfl rfl hl.1 rfl (Nat.le_of_ble_eq_true rfl) d_Te_areAlike_40 ⟨by decide, by decide⟩ hS hPc hDc hFc) (fun H locs hP hD hS => ?_)
      obtain ⟨z5, hc_5, h⟩ := bs h
      refine go_i (wr := [(h_this, .inr (3, [.ref h_this_row, .ref h_this_starts, .ref h_this_lengths, .int v_size, .int v_openStart, .int v_openLength])), (h_this_row, .inl (cB, 300, .inl v_row)), (h_this_starts, .inl (cI, 100, .inl v_starts)), (h_this_lengths, .inl (cI, 100, .inl v_lengths))]) (w1 := []) (ws2 := [(h_this, .inr (3, [.ref h_this_row, .ref h_this_starts, .ref h_this_lengths, .int v_size, .int v_openStart, .int v_openLength])), (h_this_row, .inl (cB, 300, .inl v_row)), (h_this_starts, .inl (cI, 100, .inl v_starts)), (h_this_lengths, .inl (cI, 100, .inl v_lengths))]) hP hD hS hA [] [0, 1, 2, 3] [0, 1, 2, 3] rfl (by decide) rfl (by decide) (by decide) rfl (by decide) (fun hPc hDc hFc => rn_SN (As := [.int z4]) (rest := [.int z3]) C hK (c_De_lowered N z4 z5 hc_5 _) ⟨rfl, rfl⟩ mn_406 ok_De_lowered ⟨by decide, by decide⟩ hl.1 rfl (Nat.le_of_ble_eq_true rfl) d_Te_areAlike_43 ⟨by decide, by decide⟩ hS hPc hDc hFc) (fun H locs hP hD hS => ?_)
      refine lv_icmp_eq (tgt := 51) hx hb d_Te_areAlike_46 (by decide) (fun c_6 => ?_) (fun c_6 => ?_)
      · replace h := itT h c_6
        refine lv_iinc (v := x4 + 1) (lv' := [(4, .int (x4 + 1)), (0, .ref h_this), (1, .int x1), (2, .int x2), (3, .int x3)]) hx hb d_Te_areAlike_51 hl (k := 4) rfl rfl (by decide) rfl (fun ls hl => ?_)
        refine lv_goto (tgt := 20) hx hb d_Te_areAlike_54 (by decide) ?_
        exact ih x3 (x4 + 1) h _ _ hP hD hS _ (lv_sub hl [1, 2, 3, 4, 0] rfl)
      · replace h := itF h c_6
        refine lv_iconst (v := 0) hx hb d_Te_areAlike_49 (by decide) ?_
        obtain rfl := Option.some.inj h
        exact W.zret (v := 0) hx hb hr rfl (fun t ht hW => ⟨⟨0, (), rfl, rfl, by rw [ht]; exact hP, hD⟩, hS.F ht⟩) hS.2.2 d_Te_areAlike_50 hlk
set_option maxHeartbeats 4000000 in
set_option maxRecDepth 100000 in
theorem c_Te_areAlike {l : Launch} {dC : Nat → ClassId} {dI : Nat → Nat → Nat} {cB cI : ClassId} {aK aV : Nat → Nat} (N : Nat) (h_this h_this_row h_this_starts h_this_lengths : Nat) (v_size : Int32) (v_openStart : Int32) (v_openLength : Int32) (v_row : Nat → Int32) (v_starts : Nat → Int32) (v_lengths : Nat → Int32) (x1 : Int32) (x2 : Int32) (z : Int32) (h : f_Te_areAlike N x1 x2 v_size v_row v_starts v_lengths = some z) : Ci l y_Te_areAlike prog_5_method_12_code 5 (some .boolean) ({ frames := 2, cells := 0, slots := 0, locals := 44 }) (dC, dI) cB cI aK aV [.ref h_this, .int x1, .int x2] [(h_this, .inr (3, [.ref h_this_row, .ref h_this_starts, .ref h_this_lengths, .int v_size, .int v_openStart, .int v_openLength])), (h_this_row, .inl (cB, 300, .inl v_row)), (h_this_starts, .inl (cI, 100, .inl v_starts)), (h_this_lengths, .inl (cI, 100, .inl v_lengths))] (fun A => (Qi (dC, dI) [(h_this, .inr (3, [.ref h_this_row, .ref h_this_starts, .ref h_this_lengths, .int v_size, .int v_openStart, .int v_openLength])), (h_this_row, .inl (cB, 300, .inl v_row)), (h_this_starts, .inl (cI, 100, .inl v_starts)), (h_this_lengths, .inl (cI, 100, .inl v_lengths))] A z)) := by
  refine Ci_of (by decide) (Nat.le_of_ble_eq_true rfl) (fun p e s m below meth c A C hK hnm hA hP hD ls hl => ?_)
  obtain ⟨hx, hb, hr, hml, hown, hts, hlk⟩ := id C
  have hS : va_S A s.heap s.heap [] := va_S.rf
  have hl : lv_has ls 5 [(0, .ref h_this), (1, .int x1), (2, .int x2)] := hl
  rw [f_Te_areAlike] at h
  refine lv_aload_n hx hb d_Te_areAlike_0 rfl (lv_at hl 0 rfl) ?_
  refine lv_iload_n hx hb d_Te_areAlike_1 rfl (lv_at hl 1 rfl) ?_
  obtain ⟨z7, hc_7, h⟩ := bs h
  refine go_i (wr := []) (w1 := [(h_this, .inr (3, [.ref h_this_row, .ref h_this_starts, .ref h_this_lengths, .int v_size, .int v_openStart, .int v_openLength])), (h_this_row, .inl (cB, 300, .inl v_row)), (h_this_starts, .inl (cI, 100, .inl v_starts)), (h_this_lengths, .inl (cI, 100, .inl v_lengths))]) (ws2 := [(h_this, .inr (3, [.ref h_this_row, .ref h_this_starts, .ref h_this_lengths, .int v_size, .int v_openStart, .int v_openLength])), (h_this_row, .inl (cB, 300, .inl v_row)), (h_this_starts, .inl (cI, 100, .inl v_starts)), (h_this_lengths, .inl (cI, 100, .inl v_lengths))]) hP hD hS hA [0, 1, 2, 3] [] [0, 1, 2, 3] rfl (by decide) rfl (by decide) (by decide) rfl (by decide) (fun hPc hDc hFc => rn_V (As := [.int x1]) (rest := []) C hK (c_Te_lengthOf N h_this h_this_row h_this_starts h_this_lengths v_size v_openStart v_openLength v_row v_starts v_lengths x1 z7 hc_7 _) ⟨rfl, rfl⟩ m_405 ok_Te_lengthOf ⟨by decide, by decide⟩ rfl rfl rfl hl.1 rfl (Nat.le_of_ble_eq_true rfl) d_Te_areAlike_2 ⟨by decide, by decide⟩ hS hPc hDc hFc) (fun H locs hP hD hS => ?_)
  refine lv_istore_n (lv' := [(3, .int z7), (0, .ref h_this), (1, .int x1), (2, .int x2)]) hx hb d_Te_areAlike_5 rfl hl (by decide) rfl (fun ls hl => ?_)
  refine lv_iload_n hx hb d_Te_areAlike_6 rfl (lv_at hl 0 rfl) ?_
  refine lv_aload_n hx hb d_Te_areAlike_7 rfl (lv_at hl 1 rfl) ?_
  refine lv_iload_n hx hb d_Te_areAlike_8 rfl (lv_at hl 3 rfl) ?_
  obtain ⟨z8, hc_8, h⟩ := bs h
  refine go_i (wr := []) (w1 := [(h_this, .inr (3, [.ref h_this_row, .ref h_this_starts, .ref h_this_lengths, .int v_size, .int v_openStart, .int v_openLength])), (h_this_row, .inl (cB, 300, .inl v_row)), (h_this_starts, .inl (cI, 100, .inl v_starts)), (h_this_lengths, .inl (cI, 100, .inl v_lengths))]) (ws2 := [(h_this, .inr (3, [.ref h_this_row, .ref h_this_starts, .ref h_this_lengths, .int v_size, .int v_openStart, .int v_openLength])), (h_this_row, .inl (cB, 300, .inl v_row)), (h_this_starts, .inl (cI, 100, .inl v_starts)), (h_this_lengths, .inl (cI, 100, .inl v_lengths))]) hP hD hS hA [0, 1, 2, 3] [] [0, 1, 2, 3] rfl (by decide) rfl (by decide) (by decide) rfl (by decide) (fun hPc hDc hFc => rn_V (As := [.int x2]) (rest := [.int z7]) C hK (c_Te_lengthOf N h_this h_this_row h_this_starts h_this_lengths v_size v_openStart v_openLength v_row v_starts v_lengths x2 z8 hc_8 _) ⟨rfl, rfl⟩ m_405 ok_Te_lengthOf ⟨by decide, by decide⟩ rfl rfl rfl hl.1 rfl (Nat.le_of_ble_eq_true rfl) d_Te_areAlike_9 ⟨by decide, by decide⟩ hS hPc hDc hFc) (fun H locs hP hD hS => ?_)
  refine lv_icmp_eq (tgt := 17) hx hb d_Te_areAlike_12 (by decide) (fun c_9 => ?_) (fun c_9 => ?_)
  · replace h := itT h c_9
    refine lv_iconst (v := 0) hx hb d_Te_areAlike_17 (by decide) ?_
    refine lv_istore (lv' := [(4, .int 0), (3, .int z7), (0, .ref h_this), (1, .int x1), (2, .int x2)]) hx hb d_Te_areAlike_18 hl (by decide) rfl (fun ls hl => ?_)
    exact k_Te_areAlike_20 C hK hA N h_this h_this_row h_this_starts h_this_lengths v_openStart v_openLength x1 x2 v_size v_row v_starts v_lengths z N z7 0 h _ _ hP hD hS _ (lv_sub hl [2, 3, 4, 1, 0] rfl)
  · replace h := itF h c_9
    refine lv_iconst (v := 0) hx hb d_Te_areAlike_15 (by decide) ?_
    obtain rfl := Option.some.inj h
    exact W.zret (v := 0) hx hb hr rfl (fun t ht hW => ⟨⟨0, (), rfl, rfl, by rw [ht]; exact hP, hD⟩, hS.F ht⟩) hS.2.2 d_Te_areAlike_16 hlk
