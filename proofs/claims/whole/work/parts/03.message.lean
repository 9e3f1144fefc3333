theorem in_Ad : ∀ w ∈ u_ws R_Ad F_Ad 9, w ∈ wAll := by decide +kernel
theorem in_He : ∀ w ∈ u_ws R_He F_He 3, w ∈ wAll := by decide +kernel
theorem in_Me : ∀ w ∈ u_ws R_Me F_Me 2, w ∈ wAll := by decide +kernel
theorem in_Te : ∀ w ∈ u_ws R_Te F_Te 6, w ∈ wAll := by decide +kernel
theorem in_De : ∀ w ∈ u_ws R_De F_De 3, w ∈ wAll := by decide +kernel
theorem in_Mo : ∀ w ∈ u_ws R_Mo F_Mo 12, w ∈ wAll := by decide +kernel
theorem m_1 : (Cond.initialized "HeaderDesk") ∈ wAll := List.mem_filter.mpr ⟨List.mem_append_right _ (List.mem_of_getElem? (i := 1) (by decide +kernel)), by decide +kernel⟩
theorem m_2 : (Cond.initialized "HeaderDesk$Message") ∈ wAll := List.mem_filter.mpr ⟨List.mem_append_right _ (List.mem_of_getElem? (i := 2) (by decide +kernel)), by decide +kernel⟩
theorem m_19 : (Cond.instanceMethod ({ cls := "java/lang/Object", name := "<init>", desc := "()V" } : Jvm.MethodName)) ∈ wAll := List.mem_filter.mpr ⟨List.mem_append_right _ (List.mem_of_getElem? (i := 19) (by decide +kernel)), by decide +kernel⟩
theorem m_20 : (Cond.code ({ cls := "java/lang/Object", name := "<init>", desc := "()V" } : Jvm.MethodName) object_method_1_code (1 : Nat) (Option.none : Option Jvm.ClassFile.FieldType)) ∈ wAll := List.mem_filter.mpr ⟨List.mem_append_right _ (List.mem_of_getElem? (i := 20) (by decide +kernel)), by decide +kernel⟩
theorem m_24 : (Cond.instanceMethod ({ cls := "HeaderDesk$Message", name := "<init>", desc := "()V" } : Jvm.MethodName)) ∈ wAll := List.mem_filter.mpr ⟨List.mem_append_right _ (List.mem_of_getElem? (i := 24) (by decide +kernel)), by decide +kernel⟩
theorem m_25 : (Cond.code ({ cls := "HeaderDesk$Message", name := "<init>", desc := "()V" } : Jvm.MethodName) prog_4_method_1_code (1 : Nat) (Option.none : Option Jvm.ClassFile.FieldType)) ∈ wAll := List.mem_filter.mpr ⟨List.mem_append_right _ (List.mem_of_getElem? (i := 25) (by decide +kernel)), by decide +kernel⟩
theorem m_26 : (Cond.methodLink "HeaderDesk$Message" (3 : Nat) ({ cls := "java/lang/Object", name := "<init>", desc := "()V" } : Jvm.MethodName)) ∈ wAll := List.mem_filter.mpr ⟨List.mem_append_right _ (List.mem_of_getElem? (i := 26) (by decide +kernel)), by decide +kernel⟩
theorem m_27 : (Cond.fieldLink "HeaderDesk$Message" (9 : Nat) "HeaderDesk$Message" "row" "[B") ∈ wAll := List.mem_filter.mpr ⟨List.mem_append_right _ (List.mem_of_getElem? (i := 27) (by decide +kernel)), by decide +kernel⟩
theorem m_28 : (Cond.fieldLink "HeaderDesk$Message" (15 : Nat) "HeaderDesk$Message" "size" "I") ∈ wAll := List.mem_filter.mpr ⟨List.mem_append_right _ (List.mem_of_getElem? (i := 28) (by decide +kernel)), by decide +kernel⟩
theorem m_36 : (Cond.arrayClass Jvm.ClassFile.FieldType.byte) ∈ wAll := List.mem_filter.mpr ⟨List.mem_append_right _ (List.mem_of_getElem? (i := 36) (by decide +kernel)), by decide +kernel⟩
theorem m_139 : (Cond.instanceMethod ({ cls := "HeaderDesk$Message", name := "append", desc := "(I)V" } : Jvm.MethodName)) ∈ wAll := List.mem_filter.mpr ⟨List.mem_append_right _ (List.mem_of_getElem? (i := 139) (by decide +kernel)), by decide +kernel⟩
theorem m_140 : (Cond.code ({ cls := "HeaderDesk$Message", name := "append", desc := "(I)V" } : Jvm.MethodName) prog_4_method_3_code (2 : Nat) (Option.none : Option Jvm.ClassFile.FieldType)) ∈ wAll := List.mem_filter.mpr ⟨List.mem_append_right _ (List.mem_of_getElem? (i := 140) (by decide +kernel)), by decide +kernel⟩
theorem m_159 : (Cond.instanceMethod ({ cls := "HeaderDesk$Message", name := "endOfName", desc := "(I)I" } : Jvm.MethodName)) ∈ wAll := List.mem_filter.mpr ⟨List.mem_append_right _ (List.mem_of_getElem? (i := 159) (by decide +kernel)), by decide +kernel⟩
theorem m_160 : (Cond.code ({ cls := "HeaderDesk$Message", name := "endOfName", desc := "(I)I" } : Jvm.MethodName) prog_4_method_6_code (3 : Nat) (Option.some Jvm.ClassFile.FieldType.int)) ∈ wAll := List.mem_filter.mpr ⟨List.mem_append_right _ (List.mem_of_getElem? (i := 160) (by decide +kernel)), by decide +kernel⟩
theorem m_161 : (Cond.methodLink "HeaderDesk$Message" (19 : Nat) ({ cls := "HeaderDesk$Message", name := "byteAt", desc := "(I)I" } : Jvm.MethodName)) ∈ wAll := List.mem_filter.mpr ⟨List.mem_append_right _ (List.mem_of_getElem? (i := 161) (by decide +kernel)), by decide +kernel⟩
theorem m_163 : (Cond.instanceMethod ({ cls := "HeaderDesk$Message", name := "byteAt", desc := "(I)I" } : Jvm.MethodName)) ∈ wAll := List.mem_filter.mpr ⟨List.mem_append_right _ (List.mem_of_getElem? (i := 163) (by decide +kernel)), by decide +kernel⟩
theorem m_164 : (Cond.code ({ cls := "HeaderDesk$Message", name := "byteAt", desc := "(I)I" } : Jvm.MethodName) prog_4_method_4_code (2 : Nat) (Option.some Jvm.ClassFile.FieldType.int)) ∈ wAll := List.mem_filter.mpr ⟨List.mem_append_right _ (List.mem_of_getElem? (i := 164) (by decide +kernel)), by decide +kernel⟩
theorem m_165 : (Cond.methodLink "HeaderDesk$Message" (23 : Nat) ({ cls := "HeaderDesk$Message", name := "isNameByte", desc := "(I)Z" } : Jvm.MethodName)) ∈ wAll := List.mem_filter.mpr ⟨List.mem_append_right _ (List.mem_of_getElem? (i := 165) (by decide +kernel)), by decide +kernel⟩
theorem m_166 : (Cond.static ({ cls := "HeaderDesk$Message", name := "isNameByte", desc := "(I)Z" } : Jvm.MethodName)) ∈ wAll := List.mem_filter.mpr ⟨List.mem_append_right _ (List.mem_of_getElem? (i := 166) (by decide +kernel)), by decide +kernel⟩
theorem m_167 : (Cond.code ({ cls := "HeaderDesk$Message", name := "isNameByte", desc := "(I)Z" } : Jvm.MethodName) prog_4_method_8_code (1 : Nat) (Option.some Jvm.ClassFile.FieldType.boolean)) ∈ wAll := List.mem_filter.mpr ⟨List.mem_append_right _ (List.mem_of_getElem? (i := 167) (by decide +kernel)), by decide +kernel⟩
theorem m_170 : (Cond.instanceMethod ({ cls := "HeaderDesk$Message", name := "endOfBlanks", desc := "(I)I" } : Jvm.MethodName)) ∈ wAll := List.mem_filter.mpr ⟨List.mem_append_right _ (List.mem_of_getElem? (i := 170) (by decide +kernel)), by decide +kernel⟩
theorem m_171 : (Cond.code ({ cls := "HeaderDesk$Message", name := "endOfBlanks", desc := "(I)I" } : Jvm.MethodName) prog_4_method_7_code (3 : Nat) (Option.some Jvm.ClassFile.FieldType.int)) ∈ wAll := List.mem_filter.mpr ⟨List.mem_append_right _ (List.mem_of_getElem? (i := 171) (by decide +kernel)), by decide +kernel⟩
theorem m_173 : (Cond.static ({ cls := "HeaderDesk", name := "isBlank", desc := "(I)Z" } : Jvm.MethodName)) ∈ wAll := List.mem_filter.mpr ⟨List.mem_append_right _ (List.mem_of_getElem? (i := 173) (by decide +kernel)), by decide +kernel⟩
theorem m_174 : (Cond.code ({ cls := "HeaderDesk", name := "isBlank", desc := "(I)Z" } : Jvm.MethodName) prog_1_method_10_code (1 : Nat) (Option.some Jvm.ClassFile.FieldType.boolean)) ∈ wAll := List.mem_filter.mpr ⟨List.mem_append_right _ (List.mem_of_getElem? (i := 174) (by decide +kernel)), by decide +kernel⟩
theorem m_190 : (Cond.instanceMethod ({ cls := "HeaderDesk$Message", name := "endOfLine", desc := "(I)I" } : Jvm.MethodName)) ∈ wAll := List.mem_filter.mpr ⟨List.mem_append_right _ (List.mem_of_getElem? (i := 190) (by decide +kernel)), by decide +kernel⟩
theorem m_191 : (Cond.code ({ cls := "HeaderDesk$Message", name := "endOfLine", desc := "(I)I" } : Jvm.MethodName) prog_4_method_5_code (3 : Nat) (Option.some Jvm.ClassFile.FieldType.int)) ∈ wAll := List.mem_filter.mpr ⟨List.mem_append_right _ (List.mem_of_getElem? (i := 191) (by decide +kernel)), by decide +kernel⟩
theorem m_257 : (Cond.static ({ cls := "HeaderDesk", name := "lowered", desc := "(I)I" } : Jvm.MethodName)) ∈ wAll := List.mem_filter.mpr ⟨List.mem_append_right _ (List.mem_of_getElem? (i := 257) (by decide +kernel)), by decide +kernel⟩
theorem m_258 : (Cond.code ({ cls := "HeaderDesk", name := "lowered", desc := "(I)I" } : Jvm.MethodName) prog_1_method_11_code (1 : Nat) (Option.some Jvm.ClassFile.FieldType.int)) ∈ wAll := List.mem_filter.mpr ⟨List.mem_append_right _ (List.mem_of_getElem? (i := 258) (by decide +kernel)), by decide +kernel⟩
theorem m_356 : (Cond.instanceMethod ({ cls := "HeaderDesk$Message", name := "clear", desc := "()V" } : Jvm.MethodName)) ∈ wAll := List.mem_filter.mpr ⟨List.mem_append_right _ (List.mem_of_getElem? (i := 356) (by decide +kernel)), by decide +kernel⟩
theorem m_357 : (Cond.code ({ cls := "HeaderDesk$Message", name := "clear", desc := "()V" } : Jvm.MethodName) prog_4_method_2_code (1 : Nat) (Option.none : Option Jvm.ClassFile.FieldType)) ∈ wAll := List.mem_filter.mpr ⟨List.mem_append_right _ (List.mem_of_getElem? (i := 357) (by decide +kernel)), by decide +kernel⟩
theorem mn_172 : (Cond.methodLinkNest "HeaderDesk$Message" (27 : Nat) ({ cls := "HeaderDesk", name := "isBlank", desc := "(I)Z" } : Jvm.MethodName) "HeaderDesk") ∈ nwAll := List.mem_filter.mpr ⟨List.mem_append_right _ (List.mem_of_getElem? (i := 172) (by decide +kernel)), by decide +kernel⟩
theorem d_Me_init_0 : decode prog_4_method_1_code 0 = .ok (.aload_n 0, 1) := by decide +kernel
theorem d_Me_init_1 : decode prog_4_method_1_code 1 = .ok (.invokespecial 3, 3) := by decide +kernel
theorem d_Me_init_4 : decode prog_4_method_1_code 4 = .ok (.aload_n 0, 1) := by decide +kernel
theorem d_Me_init_5 : decode prog_4_method_1_code 5 = .ok (.sipush 300, 3) := by decide +kernel
theorem d_Me_init_8 : decode prog_4_method_1_code 8 = .ok (.newarray .byte, 2) := by decide +kernel
theorem d_Me_init_10 : decode prog_4_method_1_code 10 = .ok (.putfield 9, 3) := by decide +kernel
theorem d_Me_init_13 : decode prog_4_method_1_code 13 = .ok (.return_, 1) := by decide +kernel
theorem d_Me_clear_0 : decode prog_4_method_2_code 0 = .ok (.aload_n 0, 1) := by decide +kernel
theorem d_Me_clear_1 : decode prog_4_method_2_code 1 = .ok (.iconst 0, 1) := by decide +kernel
theorem d_Me_clear_2 : decode prog_4_method_2_code 2 = .ok (.putfield 15, 3) := by decide +kernel
theorem d_Me_clear_5 : decode prog_4_method_2_code 5 = .ok (.return_, 1) := by decide +kernel
theorem d_Me_append_0 : decode prog_4_method_3_code 0 = .ok (.aload_n 0, 1) := by decide +kernel
theorem d_Me_append_1 : decode prog_4_method_3_code 1 = .ok (.getfield 15, 3) := by decide +kernel
theorem d_Me_append_4 : decode prog_4_method_3_code 4 = .ok (.ifCond .lt 34, 3) := by decide +kernel
theorem d_Me_append_7 : decode prog_4_method_3_code 7 = .ok (.aload_n 0, 1) := by decide +kernel
theorem d_Me_append_8 : decode prog_4_method_3_code 8 = .ok (.getfield 15, 3) := by decide +kernel
theorem d_Me_append_11 : decode prog_4_method_3_code 11 = .ok (.sipush 300, 3) := by decide +kernel
theorem d_Me_append_14 : decode prog_4_method_3_code 14 = .ok (.if_icmp .ge 24, 3) := by decide +kernel
theorem d_Me_append_17 : decode prog_4_method_3_code 17 = .ok (.aload_n 0, 1) := by decide +kernel
theorem d_Me_append_18 : decode prog_4_method_3_code 18 = .ok (.getfield 9, 3) := by decide +kernel
theorem d_Me_append_21 : decode prog_4_method_3_code 21 = .ok (.aload_n 0, 1) := by decide +kernel
theorem d_Me_append_22 : decode prog_4_method_3_code 22 = .ok (.getfield 15, 3) := by decide +kernel
theorem d_Me_append_25 : decode prog_4_method_3_code 25 = .ok (.iload_n 1, 1) := by decide +kernel
theorem d_Me_append_26 : decode prog_4_method_3_code 26 = .ok (.i2b, 1) := by decide +kernel
theorem d_Me_append_27 : decode prog_4_method_3_code 27 = .ok (.bastore, 1) := by decide +kernel
theorem d_Me_append_28 : decode prog_4_method_3_code 28 = .ok (.aload_n 0, 1) := by decide +kernel
theorem d_Me_append_29 : decode prog_4_method_3_code 29 = .ok (.dup, 1) := by decide +kernel
theorem d_Me_append_30 : decode prog_4_method_3_code 30 = .ok (.getfield 15, 3) := by decide +kernel
theorem d_Me_append_33 : decode prog_4_method_3_code 33 = .ok (.iconst 1, 1) := by decide +kernel
theorem d_Me_append_34 : decode prog_4_method_3_code 34 = .ok (.iadd, 1) := by decide +kernel
theorem d_Me_append_35 : decode prog_4_method_3_code 35 = .ok (.putfield 15, 3) := by decide +kernel
theorem d_Me_append_38 : decode prog_4_method_3_code 38 = .ok (.return_, 1) := by decide +kernel
theorem d_Me_byteAt_0 : decode prog_4_method_4_code 0 = .ok (.iload_n 1, 1) := by decide +kernel
theorem d_Me_byteAt_1 : decode prog_4_method_4_code 1 = .ok (.ifCond .lt 18, 3) := by decide +kernel
theorem d_Me_byteAt_4 : decode prog_4_method_4_code 4 = .ok (.iload_n 1, 1) := by decide +kernel
theorem d_Me_byteAt_5 : decode prog_4_method_4_code 5 = .ok (.aload_n 0, 1) := by decide +kernel
theorem d_Me_byteAt_6 : decode prog_4_method_4_code 6 = .ok (.getfield 15, 3) := by decide +kernel
theorem d_Me_byteAt_9 : decode prog_4_method_4_code 9 = .ok (.if_icmp .ge 10, 3) := by decide +kernel
theorem d_Me_byteAt_12 : decode prog_4_method_4_code 12 = .ok (.iload_n 1, 1) := by decide +kernel
theorem d_Me_byteAt_13 : decode prog_4_method_4_code 13 = .ok (.sipush 300, 3) := by decide +kernel
theorem d_Me_byteAt_16 : decode prog_4_method_4_code 16 = .ok (.if_icmp .lt 7, 3) := by decide +kernel
theorem d_Me_byteAt_19 : decode prog_4_method_4_code 19 = .ok (.iconst (-1), 1) := by decide +kernel
theorem d_Me_byteAt_20 : decode prog_4_method_4_code 20 = .ok (.goto 13, 3) := by decide +kernel
theorem d_Me_byteAt_23 : decode prog_4_method_4_code 23 = .ok (.aload_n 0, 1) := by decide +kernel
theorem d_Me_byteAt_24 : decode prog_4_method_4_code 24 = .ok (.getfield 9, 3) := by decide +kernel
theorem d_Me_byteAt_27 : decode prog_4_method_4_code 27 = .ok (.iload_n 1, 1) := by decide +kernel
theorem d_Me_byteAt_28 : decode prog_4_method_4_code 28 = .ok (.baload, 1) := by decide +kernel
theorem d_Me_byteAt_29 : decode prog_4_method_4_code 29 = .ok (.sipush 255, 3) := by decide +kernel
theorem d_Me_byteAt_32 : decode prog_4_method_4_code 32 = .ok (.iand, 1) := by decide +kernel
theorem d_Me_byteAt_33 : decode prog_4_method_4_code 33 = .ok (.ireturn, 1) := by decide +kernel
theorem d_Me_endOfLine_0 : decode prog_4_method_5_code 0 = .ok (.iload_n 1, 1) := by decide +kernel
theorem d_Me_endOfLine_1 : decode prog_4_method_5_code 1 = .ok (.istore_n 2, 1) := by decide +kernel
theorem d_Me_endOfLine_2 : decode prog_4_method_5_code 2 = .ok (.iload_n 2, 1) := by decide +kernel
theorem d_Me_endOfLine_3 : decode prog_4_method_5_code 3 = .ok (.aload_n 0, 1) := by decide +kernel
theorem d_Me_endOfLine_4 : decode prog_4_method_5_code 4 = .ok (.getfield 15, 3) := by decide +kernel
theorem d_Me_endOfLine_7 : decode prog_4_method_5_code 7 = .ok (.if_icmp .ge 33, 3) := by decide +kernel
theorem d_Me_endOfLine_10 : decode prog_4_method_5_code 10 = .ok (.aload_n 0, 1) := by decide +kernel
theorem d_Me_endOfLine_11 : decode prog_4_method_5_code 11 = .ok (.iload_n 2, 1) := by decide +kernel
theorem d_Me_endOfLine_12 : decode prog_4_method_5_code 12 = .ok (.invokevirtual 19, 3) := by decide +kernel
theorem d_Me_endOfLine_15 : decode prog_4_method_5_code 15 = .ok (.bipush 13, 2) := by decide +kernel
theorem d_Me_endOfLine_17 : decode prog_4_method_5_code 17 = .ok (.if_icmp .ne 17, 3) := by decide +kernel
theorem d_Me_endOfLine_20 : decode prog_4_method_5_code 20 = .ok (.aload_n 0, 1) := by decide +kernel
theorem d_Me_endOfLine_21 : decode prog_4_method_5_code 21 = .ok (.iload_n 2, 1) := by decide +kernel
theorem d_Me_endOfLine_22 : decode prog_4_method_5_code 22 = .ok (.iconst 1, 1) := by decide +kernel
theorem d_Me_endOfLine_23 : decode prog_4_method_5_code 23 = .ok (.iadd, 1) := by decide +kernel
theorem d_Me_endOfLine_24 : decode prog_4_method_5_code 24 = .ok (.invokevirtual 19, 3) := by decide +kernel
theorem d_Me_endOfLine_27 : decode prog_4_method_5_code 27 = .ok (.bipush 10, 2) := by decide +kernel
theorem d_Me_endOfLine_29 : decode prog_4_method_5_code 29 = .ok (.if_icmp .ne 5, 3) := by decide +kernel
theorem d_Me_endOfLine_32 : decode prog_4_method_5_code 32 = .ok (.iload_n 2, 1) := by decide +kernel
theorem d_Me_endOfLine_33 : decode prog_4_method_5_code 33 = .ok (.ireturn, 1) := by decide +kernel
theorem d_Me_endOfLine_34 : decode prog_4_method_5_code 34 = .ok (.iinc 2 1, 3) := by decide +kernel
theorem d_Me_endOfLine_37 : decode prog_4_method_5_code 37 = .ok (.goto (-35), 3) := by decide +kernel
theorem d_Me_endOfLine_40 : decode prog_4_method_5_code 40 = .ok (.aload_n 0, 1) := by decide +kernel
theorem d_Me_endOfLine_41 : decode prog_4_method_5_code 41 = .ok (.getfield 15, 3) := by decide +kernel
theorem d_Me_endOfLine_44 : decode prog_4_method_5_code 44 = .ok (.ireturn, 1) := by decide +kernel
theorem d_Me_isNameByte_0 : decode prog_4_method_8_code 0 = .ok (.iload_n 0, 1) := by decide +kernel
theorem d_Me_isNameByte_1 : decode prog_4_method_8_code 1 = .ok (.bipush 33, 2) := by decide +kernel
theorem d_Me_isNameByte_3 : decode prog_4_method_8_code 3 = .ok (.if_icmp .lt 19, 3) := by decide +kernel
theorem d_Me_isNameByte_6 : decode prog_4_method_8_code 6 = .ok (.iload_n 0, 1) := by decide +kernel
theorem d_Me_isNameByte_7 : decode prog_4_method_8_code 7 = .ok (.bipush 126, 2) := by decide +kernel
theorem d_Me_isNameByte_9 : decode prog_4_method_8_code 9 = .ok (.if_icmp .gt 13, 3) := by decide +kernel
theorem d_Me_isNameByte_12 : decode prog_4_method_8_code 12 = .ok (.iload_n 0, 1) := by decide +kernel
theorem d_Me_isNameByte_13 : decode prog_4_method_8_code 13 = .ok (.bipush 58, 2) := by decide +kernel
theorem d_Me_isNameByte_15 : decode prog_4_method_8_code 15 = .ok (.if_icmp .eq 7, 3) := by decide +kernel
theorem d_Me_isNameByte_18 : decode prog_4_method_8_code 18 = .ok (.iconst 1, 1) := by decide +kernel
theorem d_Me_isNameByte_19 : decode prog_4_method_8_code 19 = .ok (.goto 4, 3) := by decide +kernel
theorem d_Me_isNameByte_22 : decode prog_4_method_8_code 22 = .ok (.iconst 0, 1) := by decide +kernel
theorem d_Me_isNameByte_23 : decode prog_4_method_8_code 23 = .ok (.ireturn, 1) := by decide +kernel
theorem d_Me_endOfName_0 : decode prog_4_method_6_code 0 = .ok (.iload_n 1, 1) := by decide +kernel
theorem d_Me_endOfName_1 : decode prog_4_method_6_code 1 = .ok (.istore_n 2, 1) := by decide +kernel
theorem d_Me_endOfName_2 : decode prog_4_method_6_code 2 = .ok (.iload_n 2, 1) := by decide +kernel
theorem d_Me_endOfName_3 : decode prog_4_method_6_code 3 = .ok (.aload_n 0, 1) := by decide +kernel
theorem d_Me_endOfName_4 : decode prog_4_method_6_code 4 = .ok (.getfield 15, 3) := by decide +kernel
theorem d_Me_endOfName_7 : decode prog_4_method_6_code 7 = .ok (.if_icmp .ge 20, 3) := by decide +kernel
theorem d_Me_endOfName_10 : decode prog_4_method_6_code 10 = .ok (.aload_n 0, 1) := by decide +kernel
theorem d_Me_endOfName_11 : decode prog_4_method_6_code 11 = .ok (.iload_n 2, 1) := by decide +kernel
theorem d_Me_endOfName_12 : decode prog_4_method_6_code 12 = .ok (.invokevirtual 19, 3) := by decide +kernel
theorem d_Me_endOfName_15 : decode prog_4_method_6_code 15 = .ok (.invokestatic 23, 3) := by decide +kernel
theorem d_Me_endOfName_18 : decode prog_4_method_6_code 18 = .ok (.ifCond .eq 9, 3) := by decide +kernel
theorem d_Me_endOfName_21 : decode prog_4_method_6_code 21 = .ok (.iinc 2 1, 3) := by decide +kernel
theorem d_Me_endOfName_24 : decode prog_4_method_6_code 24 = .ok (.goto (-22), 3) := by decide +kernel
theorem d_Me_endOfName_27 : decode prog_4_method_6_code 27 = .ok (.iload_n 2, 1) := by decide +kernel
theorem d_Me_endOfName_28 : decode prog_4_method_6_code 28 = .ok (.ireturn, 1) := by decide +kernel
theorem d_De_isBlank_0 : decode prog_1_method_10_code 0 = .ok (.iload_n 0, 1) := by decide +kernel
theorem d_De_isBlank_1 : decode prog_1_method_10_code 1 = .ok (.bipush 32, 2) := by decide +kernel
theorem d_De_isBlank_3 : decode prog_1_method_10_code 3 = .ok (.if_icmp .eq 9, 3) := by decide +kernel
theorem d_De_isBlank_6 : decode prog_1_method_10_code 6 = .ok (.iload_n 0, 1) := by decide +kernel
theorem d_De_isBlank_7 : decode prog_1_method_10_code 7 = .ok (.bipush 9, 2) := by decide +kernel
theorem d_De_isBlank_9 : decode prog_1_method_10_code 9 = .ok (.if_icmp .ne 7, 3) := by decide +kernel
theorem d_De_isBlank_12 : decode prog_1_method_10_code 12 = .ok (.iconst 1, 1) := by decide +kernel
theorem d_De_isBlank_13 : decode prog_1_method_10_code 13 = .ok (.goto 4, 3) := by decide +kernel
theorem d_De_isBlank_16 : decode prog_1_method_10_code 16 = .ok (.iconst 0, 1) := by decide +kernel
theorem d_De_isBlank_17 : decode prog_1_method_10_code 17 = .ok (.ireturn, 1) := by decide +kernel
theorem d_Me_endOfBlanks_0 : decode prog_4_method_7_code 0 = .ok (.iload_n 1, 1) := by decide +kernel
theorem d_Me_endOfBlanks_1 : decode prog_4_method_7_code 1 = .ok (.istore_n 2, 1) := by decide +kernel
theorem d_Me_endOfBlanks_2 : decode prog_4_method_7_code 2 = .ok (.iload_n 2, 1) := by decide +kernel
theorem d_Me_endOfBlanks_3 : decode prog_4_method_7_code 3 = .ok (.aload_n 0, 1) := by decide +kernel
theorem d_Me_endOfBlanks_4 : decode prog_4_method_7_code 4 = .ok (.getfield 15, 3) := by decide +kernel
theorem d_Me_endOfBlanks_7 : decode prog_4_method_7_code 7 = .ok (.if_icmp .ge 20, 3) := by decide +kernel
theorem d_Me_endOfBlanks_10 : decode prog_4_method_7_code 10 = .ok (.aload_n 0, 1) := by decide +kernel
theorem d_Me_endOfBlanks_11 : decode prog_4_method_7_code 11 = .ok (.iload_n 2, 1) := by decide +kernel
theorem d_Me_endOfBlanks_12 : decode prog_4_method_7_code 12 = .ok (.invokevirtual 19, 3) := by decide +kernel
theorem d_Me_endOfBlanks_15 : decode prog_4_method_7_code 15 = .ok (.invokestatic 27, 3) := by decide +kernel
theorem d_Me_endOfBlanks_18 : decode prog_4_method_7_code 18 = .ok (.ifCond .eq 9, 3) := by decide +kernel
theorem d_Me_endOfBlanks_21 : decode prog_4_method_7_code 21 = .ok (.iinc 2 1, 3) := by decide +kernel
theorem d_Me_endOfBlanks_24 : decode prog_4_method_7_code 24 = .ok (.goto (-22), 3) := by decide +kernel
theorem d_Me_endOfBlanks_27 : decode prog_4_method_7_code 27 = .ok (.iload_n 2, 1) := by decide +kernel
theorem d_Me_endOfBlanks_28 : decode prog_4_method_7_code 28 = .ok (.ireturn, 1) := by decide +kernel
theorem d_De_lowered_0 : decode prog_1_method_11_code 0 = .ok (.iload_n 0, 1) := by decide +kernel
theorem d_De_lowered_1 : decode prog_1_method_11_code 1 = .ok (.bipush 65, 2) := by decide +kernel
theorem d_De_lowered_3 : decode prog_1_method_11_code 3 = .ok (.if_icmp .lt 19, 3) := by decide +kernel
theorem d_De_lowered_6 : decode prog_1_method_11_code 6 = .ok (.iload_n 0, 1) := by decide +kernel
theorem d_De_lowered_7 : decode prog_1_method_11_code 7 = .ok (.bipush 90, 2) := by decide +kernel
theorem d_De_lowered_9 : decode prog_1_method_11_code 9 = .ok (.if_icmp .gt 13, 3) := by decide +kernel
theorem d_De_lowered_12 : decode prog_1_method_11_code 12 = .ok (.iload_n 0, 1) := by decide +kernel
theorem d_De_lowered_13 : decode prog_1_method_11_code 13 = .ok (.bipush 65, 2) := by decide +kernel
theorem d_De_lowered_15 : decode prog_1_method_11_code 15 = .ok (.isub, 1) := by decide +kernel
theorem d_De_lowered_16 : decode prog_1_method_11_code 16 = .ok (.bipush 97, 2) := by decide +kernel
theorem d_De_lowered_18 : decode prog_1_method_11_code 18 = .ok (.iadd, 1) := by decide +kernel
theorem d_De_lowered_19 : decode prog_1_method_11_code 19 = .ok (.goto 4, 3) := by decide +kernel
theorem d_De_lowered_22 : decode prog_1_method_11_code 22 = .ok (.iload_n 0, 1) := by decide +kernel
theorem d_De_lowered_23 : decode prog_1_method_11_code 23 = .ok (.ireturn, 1) := by decide +kernel
theorem ok_Me_init : okN y_Me_init prog_4_method_1_code 1 0 := ⟨m_24, m_2, m_25, by decide +kernel, rfl⟩
theorem ok_Me_clear : okM y_Me_clear prog_4_method_2_code 1 none 0 := ⟨m_356, (List.mem_filter.mpr ⟨List.mem_append_left _ (List.mem_of_getElem? (i := 26) (by decide +kernel)), by decide +kernel⟩), m_2, m_357, by decide +kernel⟩
theorem ok_Me_append : okM y_Me_append prog_4_method_3_code 2 none 1 := ⟨m_139, (List.mem_filter.mpr ⟨List.mem_append_left _ (List.mem_of_getElem? (i := 0) (by decide +kernel)), by decide +kernel⟩), m_2, m_140, by decide +kernel⟩
theorem ok_Me_byteAt : okM y_Me_byteAt prog_4_method_4_code 2 (some .int) 1 := ⟨m_163, (List.mem_filter.mpr ⟨List.mem_append_left _ (List.mem_of_getElem? (i := 5) (by decide +kernel)), by decide +kernel⟩), m_2, m_164, by decide +kernel⟩
theorem ok_Me_endOfLine : okM y_Me_endOfLine prog_4_method_5_code 3 (some .int) 1 := ⟨m_190, (List.mem_filter.mpr ⟨List.mem_append_left _ (List.mem_of_getElem? (i := 10) (by decide +kernel)), by decide +kernel⟩), m_2, m_191, by decide +kernel⟩
theorem ok_Me_isNameByte : okS y_Me_isNameByte prog_4_method_8_code 1 (some .boolean) 1 := ⟨m_166, m_2, m_167, by decide +kernel⟩
theorem ok_Me_endOfName : okM y_Me_endOfName prog_4_method_6_code 3 (some .int) 1 := ⟨m_159, (List.mem_filter.mpr ⟨List.mem_append_left _ (List.mem_of_getElem? (i := 4) (by decide +kernel)), by decide +kernel⟩), m_2, m_160, by decide +kernel⟩
theorem ok_De_isBlank : okS y_De_isBlank prog_1_method_10_code 1 (some .boolean) 1 := ⟨m_173, m_1, m_174, by decide +kernel⟩
theorem ok_Me_endOfBlanks : okM y_Me_endOfBlanks prog_4_method_7_code 3 (some .int) 1 := ⟨m_170, (List.mem_filter.mpr ⟨List.mem_append_left _ (List.mem_of_getElem? (i := 6) (by decide +kernel)), by decide +kernel⟩), m_2, m_171, by decide +kernel⟩
theorem ok_De_lowered : okS y_De_lowered prog_1_method_11_code 1 (some .int) 1 := ⟨m_257, m_1, m_258, by decide +kernel⟩
def f_Me_clear (N : Nat) (v_size : Int32) : Option (Int32) := some 0
def f_Me_append (N : Nat) (x1 : Int32) (v_size : Int32) (v_row : Nat → Int32) : Option (Int32 × (Nat → Int32)) := (if v_size < 0 then some (v_size, v_row) else (if 300 ≤ v_size then some (v_size, v_row) else (if inB v_size 300 = true then some (v_size + 1, upd v_row v_size.toNatClampNeg (vp_nar .byte x1.toInt8.toInt32)) else none)))
def f_Me_byteAt (N : Nat) (x1 : Int32) (v_size : Int32) (v_row : Nat → Int32) : Option (Int32) := (if x1 < 0 then some (-1) else (if v_size ≤ x1 then some (-1) else (if x1 < 300 then (if inB x1 300 = true then some ((v_row x1.toNatClampNeg) &&& 255) else none) else some (-1))))
def f_Me_endOfLine_2 (N : Nat) (v_size : Int32) (v_row : Nat → Int32) : Nat → Int32 → Option (Int32)
  | 0, _ => none
  | n + 1, x2 => (if v_size ≤ x2 then some v_size else ((f_Me_byteAt N x2 v_size v_row).bind fun z2 => (if z2 = 13 then ((f_Me_byteAt N (x2 + 1) v_size v_row).bind fun z4 => (if z4 = 10 then some x2 else f_Me_endOfLine_2 N v_size v_row n (x2 + 1))) else f_Me_endOfLine_2 N v_size v_row n (x2 + 1))))
def f_Me_endOfLine (N : Nat) (x1 : Int32) (v_size : Int32) (v_row : Nat → Int32) : Option (Int32) := f_Me_endOfLine_2 N v_size v_row N x1
def f_Me_isNameByte (N : Nat) (x0 : Int32) : Option (Int32) := (if x0 < 33 then some 0 else (if 126 < x0 then some 0 else (if x0 = 58 then some 0 else some 1)))
def f_Me_endOfName_2 (N : Nat) (v_size : Int32) (v_row : Nat → Int32) : Nat → Int32 → Option (Int32)
  | 0, _ => none
  | n + 1, x2 => (if v_size ≤ x2 then some x2 else ((f_Me_byteAt N x2 v_size v_row).bind fun z2 => ((f_Me_isNameByte N z2).bind fun z3 => (if z3 = 0 then some x2 else f_Me_endOfName_2 N v_size v_row n (x2 + 1)))))
def f_Me_endOfName (N : Nat) (x1 : Int32) (v_size : Int32) (v_row : Nat → Int32) : Option (Int32) := f_Me_endOfName_2 N v_size v_row N x1
def f_De_isBlank (N : Nat) (x0 : Int32) : Option (Int32) := (if x0 = 32 then some 1 else (if x0 = 9 then some 1 else some 0))
def f_Me_endOfBlanks_2 (N : Nat) (v_size : Int32) (v_row : Nat → Int32) : Nat → Int32 → Option (Int32)
  | 0, _ => none
  | n + 1, x2 => (if v_size ≤ x2 then some x2 else ((f_Me_byteAt N x2 v_size v_row).bind fun z2 => ((f_De_isBlank N z2).bind fun z3 => (if z3 = 0 then some x2 else f_Me_endOfBlanks_2 N v_size v_row n (x2 + 1)))))
def f_Me_endOfBlanks (N : Nat) (x1 : Int32) (v_size : Int32) (v_row : Nat → Int32) : Option (Int32) := f_Me_endOfBlanks_2 N v_size v_row N x1
def f_De_lowered (N : Nat) (x0 : Int32) : Option (Int32) := (if x0 < 65 then some x0 else (if 90 < x0 then some x0 else some ((x0 - 65) + 97)))
set_option maxHeartbeats 4000000 in
set_option maxRecDepth 100000 in
theorem c_Me_init {l : Launch} {dC : Nat → ClassId} {dI : Nat → Nat → Nat} {cB cI : ClassId} {aK aV : Nat → Nat} (h_this : Nat) : Ci l y_Me_init prog_4_method_1_code 1 none ({ frames := 1, cells := 1, slots := 300, locals := 20 }) (dC, dI) cB cI aK aV [.ref h_this] [(h_this, .inr (2, [.null, .int 0]))] (fun A => Qn (α := Nat) (dC, dI) (fun q => [(h_this, .inr (2, [.ref q, .int 0])), (q, .inl (cB, 300, .inl (fun _ => 0)))]) A) := by
  refine Ci_of (by decide) (Nat.le_of_ble_eq_true rfl) (fun p e s m below meth c A C hK hnm hA hP hD ls hl => ?_)
  obtain ⟨hx, hb, hr, hml, hown, hts, hlk⟩ := id C
  have hS : va_S A s.heap s.heap [] := va_S.rf
  have hl : lv_has ls 1 [(0, .ref h_this)] := hl
  refine lv_aload_n hx hb d_Me_init_0 rfl (lv_at hl 0 rfl) ?_
  refine W.objInit hx hb hown (hts _ m_26) (hts _ m_19) (hts _ m_20) rfl (by rw [hml]; exact hl.1) rfl d_Me_init_1 (by decide) (Nat.le_of_ble_eq_true rfl) ?_
  refine W.eq (g2 := F0 m 4 ls []) rfl ?_
  refine lv_aload_n hx hb d_Me_init_4 rfl (lv_at hl 0 rfl) ?_
  refine lv_sipush (v := 300) hx hb d_Me_init_5 (by decide) ?_
  refine na_B hx hb (hts _ m_36) hK hP hD hS hA (by decide) (N' := 300) (by decide) (by decide) (by decide) (by decide) d_Me_init_8 (fun q1 H hP hD hS => ?_)
  refine W.widen (k := 1) (n := 300) (by decide) (by decide) ?_
  have hP : va_P (dC, dI) classes [(h_this, .inr (2, [.null, .int 0])), (q1, .inl (cB, 300, .inl (fun _ => 0)))] H := hP
  have hD : va_D A [(h_this, .inr (2, [.null, .int 0])), (q1, .inl (cB, 300, .inl (fun _ => 0)))] := hD
  refine va_putF (D := (dC, dI)) (ci := 2) (v := .ref q1) (ty := (.array .byte)) (C := R_Me) (T := F_Me) (N := 2) hx hb hts in_Me t_Me t_Me_ok n_Me hown hK.1 hP hD hS 0 rfl rfl 0 (by decide) (hts _ m_27) (fun _ h9 => h9) rfl hnm rfl (by decide +kernel) rfl rfl (Nat.le_of_ble_eq_true rfl) d_Me_init_10 (fun H locs hP hD hS => ?_)
  have hP : va_P (dC, dI) classes [(h_this, .inr (2, [.ref q1, .int 0])), (q1, .inl (cB, 300, .inl (fun _ => 0)))] H := hP
  have hD : va_D A [(h_this, .inr (2, [.ref q1, .int 0])), (q1, .inl (cB, 300, .inl (fun _ => 0)))] := hD
  have hP9 := va_P_perm (ws' := [(h_this, .inr (2, [.ref q1, .int 0])), (q1, .inl (cB, 300, .inl (fun _ => 0)))]) hP [0, 1] rfl
  have hD9 := hD.sub (ws' := [(h_this, .inr (2, [.ref q1, .int 0])), (q1, .inl (cB, 300, .inl (fun _ => 0)))]) [0, 1] (by decide) rfl
  exact W.vret hx hb hr (fun t ht hW => ⟨⟨(), rfl, trivial, q1, by rw [ht]; exact hP9, hD9⟩, hS.F ht⟩) hS.2.2 d_Me_init_13 hlk
set_option maxHeartbeats 4000000 in
set_option maxRecDepth 100000 in
theorem c_Me_clear {l : Launch} {dC : Nat → ClassId} {dI : Nat → Nat → Nat} {cB cI : ClassId} {aK aV : Nat → Nat} (N : Nat) (h_this h_this_row : Nat) (v_size : Int32) (v_row : Nat → Int32) (z : Int32) (h : f_Me_clear N v_size = some z) : Ci l y_Me_clear prog_4_method_2_code 1 none ({ frames := 0, cells := 0, slots := 0, locals := 0 }) (dC, dI) cB cI aK aV [.ref h_this] [(h_this, .inr (2, [.ref h_this_row, .int v_size])), (h_this_row, .inl (cB, 300, .inl v_row))] (fun A => (Qv (dC, dI) [(h_this, .inr (2, [.ref h_this_row, .int z])), (h_this_row, .inl (cB, 300, .inl v_row))] A)) := by
  refine Ci_of (by decide) (Nat.le_of_ble_eq_true rfl) (fun p e s m below meth c A C hK hnm hA hP hD ls hl => ?_)
  obtain ⟨hx, hb, hr, hml, hown, hts, hlk⟩ := id C
  have hS : va_S A s.heap s.heap [] := va_S.rf
  have hl : lv_has ls 1 [(0, .ref h_this)] := hl
  rw [f_Me_clear] at h
  refine lv_aload_n hx hb d_Me_clear_0 rfl (lv_at hl 0 rfl) ?_
  refine lv_iconst (v := 0) hx hb d_Me_clear_1 (by decide) ?_
  refine va_put (D := (dC, dI)) (ci := 2) (v := .int 0) (ty := .int) (C := R_Me) (T := F_Me) (N := 2) hx hb hts in_Me t_Me t_Me_ok n_Me hown hK.1 hP hD hS 0 rfl rfl 1 (by decide) (hts _ m_28) (fun _ h9 => h9) rfl (by decide +kernel) rfl rfl (Nat.le_of_ble_eq_true rfl) d_Me_clear_2 (fun H locs hP hD hS => ?_)
  have hP : va_P (dC, dI) classes [(h_this, .inr (2, [.ref h_this_row, .int 0])), (h_this_row, .inl (cB, 300, .inl v_row))] H := hP
  have hD : va_D A [(h_this, .inr (2, [.ref h_this_row, .int 0])), (h_this_row, .inl (cB, 300, .inl v_row))] := hD
  obtain rfl := Option.some.inj h
  exact W.vret hx hb hr (fun t ht hW => ⟨⟨(), rfl, trivial, by rw [ht]; exact hP, hD⟩, hS.F ht⟩) hS.2.2 d_Me_clear_5 hlk
set_option maxHeartbeats 4000000 in
set_option maxRecDepth 100000 in
theorem c_Me_append {l : Launch} {dC : Nat → ClassId} {dI : Nat → Nat → Nat} {cB cI : ClassId} {aK aV : Nat → Nat} (N : Nat) (h_this h_this_row : Nat) (v_size : Int32) (v_row : Nat → Int32) (x1 : Int32) (z : Int32 × (Nat → Int32)) (h : f_Me_append N x1 v_size v_row = some z) : Ci l y_Me_append prog_4_method_3_code 2 none ({ frames := 0, cells := 0, slots := 0, locals := 0 }) (dC, dI) cB cI aK aV [.ref h_this, .int x1] [(h_this, .inr (2, [.ref h_this_row, .int v_size])), (h_this_row, .inl (cB, 300, .inl v_row))] (fun A => (Qv (dC, dI) [(h_this, .inr (2, [.ref h_this_row, .int z.1])), (h_this_row, .inl (cB, 300, .inl z.2))] A)) := by
  refine Ci_of (by decide) (Nat.le_of_ble_eq_true rfl) (fun p e s m below meth c A C hK hnm hA hP hD ls hl => ?_)
  obtain ⟨hx, hb, hr, hml, hown, hts, hlk⟩ := id C
  have hS : va_S A s.heap s.heap [] := va_S.rf
  have hl : lv_has ls 2 [(0, .ref h_this), (1, .int x1)] := hl
  rw [f_Me_append] at h
  refine lv_aload_n hx hb d_Me_append_0 rfl (lv_at hl 0 rfl) ?_
  refine va_get (D := (dC, dI)) (ci := 2) (v := .int v_size) (C := R_Me) (T := F_Me) (N := 2) hx hb hts in_Me hown hK.1 hP 0 rfl rfl 1 (by decide) (hts _ m_28) (fun _ h9 => h9) rfl d_Me_append_1 ?_
  refine lv_if_lt (tgt := 38) hx hb d_Me_append_4 (by decide) (fun c_1 => ?_) (fun c_1 => ?_)
  · replace h := itT h c_1
    obtain rfl := Option.some.inj h
    exact W.vret hx hb hr (fun t ht hW => ⟨⟨(), rfl, trivial, by rw [ht]; exact hP, hD⟩, hS.F ht⟩) hS.2.2 d_Me_append_38 hlk
  · replace h := itF h c_1
    refine lv_aload_n hx hb d_Me_append_7 rfl (lv_at hl 0 rfl) ?_
    refine va_get (D := (dC, dI)) (ci := 2) (v := .int v_size) (C := R_Me) (T := F_Me) (N := 2) hx hb hts in_Me hown hK.1 hP 0 rfl rfl 1 (by decide) (hts _ m_28) (fun _ h9 => h9) rfl d_Me_append_8 ?_
    refine lv_sipush (v := 300) hx hb d_Me_append_11 (by decide) ?_
    refine lv_icmp_ge (tgt := 38) hx hb d_Me_append_14 (by decide) (fun c_2 => ?_) (fun c_2 => ?_)
    · replace h := itT h c_2
      obtain rfl := Option.some.inj h
      exact W.vret hx hb hr (fun t ht hW => ⟨⟨(), rfl, trivial, by rw [ht]; exact hP, hD⟩, hS.F ht⟩) hS.2.2 d_Me_append_38 hlk
    · replace h := itF h c_2
      refine lv_aload_n hx hb d_Me_append_17 rfl (lv_at hl 0 rfl) ?_
      refine va_get (D := (dC, dI)) (ci := 2) (v := .ref h_this_row) (C := R_Me) (T := F_Me) (N := 2) hx hb hts in_Me hown hK.1 hP 0 rfl rfl 0 (by decide) (hts _ m_27) (fun _ h9 => h9) rfl d_Me_append_18 ?_
      refine lv_aload_n hx hb d_Me_append_21 rfl (lv_at hl 0 rfl) ?_
      refine va_get (D := (dC, dI)) (ci := 2) (v := .int v_size) (C := R_Me) (T := F_Me) (N := 2) hx hb hts in_Me hown hK.1 hP 0 rfl rfl 1 (by decide) (hts _ m_28) (fun _ h9 => h9) rfl d_Me_append_22 ?_
      refine lv_iload_n hx hb d_Me_append_25 rfl (lv_at hl 1 rfl) ?_
      refine lv_i2b hx hb d_Me_append_26 rfl ?_
      obtain ⟨g_3, h⟩ := grd h
      refine va_bast hx hb hK.1 hP hD hS 1 0 rfl rfl (inB_in g_3) d_Me_append_27 (fun H locs hP hD hS => ?_)
      have hP : va_P (dC, dI) classes [(h_this, .inr (2, [.ref h_this_row, .int v_size])), (h_this_row, .inl (cB, 300, .inl (upd v_row v_size.toNatClampNeg (vp_nar .byte x1.toInt8.toInt32))))] H := hP
      have hD : va_D A [(h_this, .inr (2, [.ref h_this_row, .int v_size])), (h_this_row, .inl (cB, 300, .inl (upd v_row v_size.toNatClampNeg (vp_nar .byte x1.toInt8.toInt32))))] := hD
      refine lv_aload_n hx hb d_Me_append_28 rfl (lv_at hl 0 rfl) ?_
      refine lv_dup hx hb d_Me_append_29 rfl ?_
      refine va_get (D := (dC, dI)) (ci := 2) (v := .int v_size) (C := R_Me) (T := F_Me) (N := 2) hx hb hts in_Me hown hK.1 hP 0 rfl rfl 1 (by decide) (hts _ m_28) (fun _ h9 => h9) rfl d_Me_append_30 ?_
      refine lv_iconst (v := 1) hx hb d_Me_append_33 (by decide) ?_
      refine lv_iadd hx hb d_Me_append_34 ?_
      refine va_put (D := (dC, dI)) (ci := 2) (v := .int (v_size + 1)) (ty := .int) (C := R_Me) (T := F_Me) (N := 2) hx hb hts in_Me t_Me t_Me_ok n_Me hown hK.1 hP hD hS 0 rfl rfl 1 (by decide) (hts _ m_28) (fun _ h9 => h9) rfl (by decide +kernel) rfl rfl (Nat.le_of_ble_eq_true rfl) d_Me_append_35 (fun H locs hP hD hS => ?_)
      have hP : va_P (dC, dI) classes [(h_this, .inr (2, [.ref h_this_row, .int (v_size + 1)])), (h_this_row, .inl (cB, 300, .inl (upd v_row v_size.toNatClampNeg (vp_nar .byte x1.toInt8.toInt32))))] H := hP
      have hD : va_D A [(h_this, .inr (2, [.ref h_this_row, .int (v_size + 1)])), (h_this_row, .inl (cB, 300, .inl (upd v_row v_size.toNatClampNeg (vp_nar .byte x1.toInt8.toInt32))))] := hD
      obtain rfl := Option.some.inj h
      exact W.vret hx hb hr (fun t ht hW => ⟨⟨(), rfl, trivial, by rw [ht]; exact hP, hD⟩, hS.F ht⟩) hS.2.2 d_Me_append_38 hlk
set_option maxHeartbeats 4000000 in
set_option maxRecDepth 100000 in
theorem c_Me_byteAt {l : Launch} {dC : Nat → ClassId} {dI : Nat → Nat → Nat} {cB cI : ClassId} {aK aV : Nat → Nat} (N : Nat) (h_this h_this_row : Nat) (v_size : Int32) (v_row : Nat → Int32) (x1 : Int32) (z : Int32) (h : f_Me_byteAt N x1 v_size v_row = some z) : Ci l y_Me_byteAt prog_4_method_4_code 2 (some .int) ({ frames := 0, cells := 0, slots := 0, locals := 0 }) (dC, dI) cB cI aK aV [.ref h_this, .int x1] [(h_this, .inr (2, [.ref h_this_row, .int v_size])), (h_this_row, .inl (cB, 300, .inl v_row))] (fun A => (Qi (dC, dI) [(h_this, .inr (2, [.ref h_this_row, .int v_size])), (h_this_row, .inl (cB, 300, .inl v_row))] A z)) := by
  refine Ci_of (by decide) (Nat.le_of_ble_eq_true rfl) (fun p e s m below meth c A C hK hnm hA hP hD ls hl => ?_)
  obtain ⟨hx, hb, hr, hml, hown, hts, hlk⟩ := id C
  have hS : va_S A s.heap s.heap [] := va_S.rf
  have hl : lv_has ls 2 [(0, .ref h_this), (1, .int x1)] := hl
  rw [f_Me_byteAt] at h
  refine lv_iload_n hx hb d_Me_byteAt_0 rfl (lv_at hl 1 rfl) ?_
  refine lv_if_lt (tgt := 19) hx hb d_Me_byteAt_1 (by decide) (fun c_1 => ?_) (fun c_1 => ?_)
  · replace h := itT h c_1
    refine lv_iconst (v := (-1)) hx hb d_Me_byteAt_19 (by decide) ?_
    refine lv_goto (tgt := 33) hx hb d_Me_byteAt_20 (by decide) ?_
    obtain rfl := Option.some.inj h
    exact W.iret (v := (-1)) hx hb hr (fun t ht hW => ⟨⟨(-1), (), rfl, rfl, by rw [ht]; exact hP, hD⟩, hS.F ht⟩) hS.2.2 d_Me_byteAt_33 hlk
  · replace h := itF h c_1
    refine lv_iload_n hx hb d_Me_byteAt_4 rfl (lv_at hl 1 rfl) ?_
    refine lv_aload_n hx hb d_Me_byteAt_5 rfl (lv_at hl 0 rfl) ?_
    refine va_get (D := (dC, dI)) (ci := 2) (v := .int v_size) (C := R_Me) (T := F_Me) (N := 2) hx hb hts in_Me hown hK.1 hP 0 rfl rfl 1 (by decide) (hts _ m_28) (fun _ h9 => h9) rfl d_Me_byteAt_6 ?_
    refine lv_icmp_ge (tgt := 19) hx hb d_Me_byteAt_9 (by decide) (fun c_2 => ?_) (fun c_2 => ?_)
    · replace h := itT h c_2
      refine lv_iconst (v := (-1)) hx hb d_Me_byteAt_19 (by decide) ?_
      refine lv_goto (tgt := 33) hx hb d_Me_byteAt_20 (by decide) ?_
      obtain rfl := Option.some.inj h
      exact W.iret (v := (-1)) hx hb hr (fun t ht hW => ⟨⟨(-1), (), rfl, rfl, by rw [ht]; exact hP, hD⟩, hS.F ht⟩) hS.2.2 d_Me_byteAt_33 hlk
    · replace h := itF h c_2
      refine lv_iload_n hx hb d_Me_byteAt_12 rfl (lv_at hl 1 rfl) ?_
      refine lv_sipush (v := 300) hx hb d_Me_byteAt_13 (by decide) ?_
      refine lv_icmp_lt (tgt := 23) hx hb d_Me_byteAt_16 (by decide) (fun c_3 => ?_) (fun c_3 => ?_)
      · replace h := itT h c_3
        refine lv_aload_n hx hb d_Me_byteAt_23 rfl (lv_at hl 0 rfl) ?_
        refine va_get (D := (dC, dI)) (ci := 2) (v := .ref h_this_row) (C := R_Me) (T := F_Me) (N := 2) hx hb hts in_Me hown hK.1 hP 0 rfl rfl 0 (by decide) (hts _ m_27) (fun _ h9 => h9) rfl d_Me_byteAt_24 ?_
        refine lv_iload_n hx hb d_Me_byteAt_27 rfl (lv_at hl 1 rfl) ?_
        obtain ⟨g_4, h⟩ := grd h
        refine va_bald hx hb hK.1 hP 1 0 rfl rfl (inB_in g_4) d_Me_byteAt_28 ?_
        refine lv_sipush (v := 255) hx hb d_Me_byteAt_29 (by decide) ?_
        refine lv_iand hx hb d_Me_byteAt_32 ?_
        obtain rfl := Option.some.inj h
        exact W.iret (v := (v_row x1.toNatClampNeg) &&& 255) hx hb hr (fun t ht hW => ⟨⟨(v_row x1.toNatClampNeg) &&& 255, (), rfl, rfl, by rw [ht]; exact hP, hD⟩, hS.F ht⟩) hS.2.2 d_Me_byteAt_33 hlk
      · replace h := itF h c_3
        refine lv_iconst (v := (-1)) hx hb d_Me_byteAt_19 (by decide) ?_
        refine lv_goto (tgt := 33) hx hb d_Me_byteAt_20 (by decide) ?_
        obtain rfl := Option.some.inj h
        exact W.iret (v := (-1)) hx hb hr (fun t ht hW => ⟨⟨(-1), (), rfl, rfl, by rw [ht]; exact hP, hD⟩, hS.F ht⟩) hS.2.2 d_Me_byteAt_33 hlk
set_option maxHeartbeats 4000000 in
set_option maxRecDepth 100000 in
theorem k_Me_endOfLine_2 {p : Program} {l : Launch} {e : Env} {s : State} {m : MethodId} {args : Array Value} {below : List Frame} {meth : Method} {c : Code} {dC : Nat → ClassId} {dI : Nat → Nat → Nat} {cB cI : ClassId} {aK aV : Nat → Nat} {A : Nat → Prop} (C : cx p s m args meth c R_Me prog_4_method_5_code 3 (some .int)) (hK : kx (dC, dI) cB cI aK aV A s) (hA : ∀ q : Nat, s.heap.size ≤ q → A q) (N : Nat) (h_this h_this_row : Nat) (v_size : Int32) (v_row : Nat → Int32) (z : Int32) :
    ∀ (n : Nat), ∀ (x2 : Int32), f_Me_endOfLine_2 N v_size v_row n x2 = some z → ∀ (H : Heap) (locs : List Loc), va_P (dC, dI) classes [(h_this, .inr (2, [.ref h_this_row, .int v_size])), (h_this_row, .inl (cB, 300, .inl v_row))] H → va_D A [(h_this, .inr (2, [.ref h_this_row, .int v_size])), (h_this_row, .inl (cB, 300, .inl v_row))] → va_S A s.heap H locs → ∀ ls : Array Slot, lv_has ls 3 [(0, .ref h_this), (2, .int x2)] → W p l e ({ frames := 1, cells := 0, slots := 0, locals := 21 }) s m args below meth c H locs 0 0 (MQ below (Qi (dC, dI) [(h_this, .inr (2, [.ref h_this_row, .int v_size])), (h_this_row, .inl (cB, 300, .inl v_row))] A z) args s 0 0 A) (F0 m 2 ls []) := by
  obtain ⟨hx, hb, hr, hml, hown, hts, hlk⟩ := id C
  intro n
  induction n with
  | zero =>
    intro x2 h
    rw [f_Me_endOfLine_2] at h
    cases h
  | succ n ih =>
    intro x2 h H locs hP hD hS ls hl
    rw [f_Me_endOfLine_2] at h
    refine lv_iload_n hx hb d_Me_endOfLine_2 rfl (lv_at hl 1 rfl) ?_
    refine lv_aload_n hx hb d_Me_endOfLine_3 rfl (lv_at hl 0 rfl) ?_
    refine va_get (D := (dC, dI)) (ci := 2) (v := .int v_size) (C := R_Me) (T := F_Me) (N := 2) hx hb hts in_Me hown hK.1 hP 0 rfl rfl 1 (by decide) (hts _ m_28) (fun _ h9 => h9) rfl d_Me_endOfLine_4 ?_
    refine lv_icmp_ge (tgt := 40) hx hb d_Me_endOfLine_7 (by decide) (fun c_1 => ?_) (fun c_1 => ?_)
    · replace h := itT h c_1
      refine lv_aload_n hx hb d_Me_endOfLine_40 rfl (lv_at hl 0 rfl) ?_
      refine va_get (D := (dC, dI)) (ci := 2) (v := .int v_size) (C := R_Me) (T := F_Me) (N := 2) hx hb hts in_Me hown hK.1 hP 0 rfl rfl 1 (by decide) (hts _ m_28) (fun _ h9 => h9) rfl d_Me_endOfLine_41 ?_
      obtain rfl := Option.some.inj h
      exact W.iret (v := v_size) hx hb hr (fun t ht hW => ⟨⟨v_size, (), rfl, rfl, by rw [ht]; exact hP, hD⟩, hS.F ht⟩) hS.2.2 d_Me_endOfLine_44 hlk
    · replace h := itF h c_1
      refine lv_aload_n hx hb d_Me_endOfLine_10 rfl (lv_at hl 0 rfl) ?_
      refine lv_iload_n hx hb d_Me_endOfLine_11 rfl (lv_at hl 1 rfl) ?_
      obtain ⟨z2, hc_2, h⟩ := bs h
      refine go_i (wr := []) (w1 := [(h_this, .inr (2, [.ref h_this_row, .int v_size])), (h_this_row, .inl (cB, 300, .inl v_row))]) (ws2 := [(h_this, .inr (2, [.ref h_this_row, .int v_size])), (h_this_row, .inl (cB, 300, .inl v_row))]) hP hD hS hA [0, 1] [] [0, 1] rfl (by decide) rfl (by decide) (by decide) rfl (by decide) (fun hPc hDc hFc => rn_V (As := [.int x2]) (rest := []) C hK (c_Me_byteAt N h_this h_this_row v_size v_row x2 z2 hc_2 _) ⟨rfl, rfl⟩ m_161 ok_Me_byteAt ⟨by decide, by decide⟩ rfl rfl rfl hl.1 rfl (Nat.le_of_ble_eq_true rfl) d_Me_endOfLine_12 ⟨by decide, by decide⟩ hS hPc hDc hFc) (fun H locs hP hD hS => ?_)
      refine lv_bipush (v := 13) hx hb d_Me_endOfLine_15 (by decide) ?_
      refine lv_icmp_ne (tgt := 34) hx hb d_Me_endOfLine_17 (by decide) (fun c_3 => ?_) (fun c_3 => ?_)
      · replace h := itF h c_3
        refine lv_iinc (v := x2 + 1) (lv' := [(2, .int (x2 + 1)), (0, .ref h_this)]) hx hb d_Me_endOfLine_34 hl (k := 1) rfl rfl (by decide) rfl (fun ls hl => ?_)
        refine lv_goto (tgt := 2) hx hb d_Me_endOfLine_37 (by decide) ?_
        exact ih (x2 + 1) h _ _ hP hD hS _ (lv_sub hl [1, 0] rfl)
      · replace h := itT h c_3
        refine lv_aload_n hx hb d_Me_endOfLine_20 rfl (lv_at hl 0 rfl) ?_
        refine lv_iload_n hx hb d_Me_endOfLine_21 rfl (lv_at hl 1 rfl) ?_
        refine lv_iconst (v := 1) hx hb d_Me_endOfLine_22 (by decide) ?_
        refine lv_iadd hx hb d_Me_endOfLine_23 ?_
        obtain ⟨z4, hc_4, h⟩ := bs h
        refine go_i (wr := []) (w1 := [(h_this, .inr (2, [.ref h_this_row, .int v_size])), (h_this_row, .inl (cB, 300, .inl v_row))]) (ws2 := [(h_this, .inr (2, [.ref h_this_row, .int v_size])), (h_this_row, .inl (cB, 300, .inl v_row))]) hP hD hS hA [0, 1] [] [0, 1] rfl (by decide) rfl (by decide) (by decide) rfl (by decide) (fun hPc hDc hFc => rn_V (As := [.int (x2 + 1)]) (rest := []) C hK (c_Me_byteAt N h_this h_this_row v_size v_row (x2 + 1) z4 hc_4 _) ⟨rfl, rfl⟩ m_161 ok_Me_byteAt ⟨by decide, by decide⟩ rfl rfl rfl hl.1 rfl (Nat.le_of_ble_eq_true rfl) d_Me_endOfLine_24 ⟨by decide, by decide⟩ hS hPc hDc hFc) (fun H locs hP hD hS => ?_)
        refine lv_bipush (v := 10) hx hb d_Me_endOfLine_27 (by decide) ?_
        refine lv_icmp_ne (tgt := 34) hx hb d_Me_endOfLine_29 (by decide) (fun c_5 => ?_) (fun c_5 => ?_)
        · replace h := itF h c_5
          refine lv_iinc (v := x2 + 1) (lv' := [(2, .int (x2 + 1)), (0, .ref h_this)]) hx hb d_Me_endOfLine_34 hl (k := 1) rfl rfl (by decide) rfl (fun ls hl => ?_)
          refine lv_goto (tgt := 2) hx hb d_Me_endOfLine_37 (by decide) ?_
          exact ih (x2 + 1) h _ _ hP hD hS _ (lv_sub hl [1, 0] rfl)
        · replace h := itT h c_5
          refine lv_iload_n hx hb d_Me_endOfLine_32 rfl (lv_at hl 1 rfl) ?_
          obtain rfl := Option.some.inj h
          exact W.iret (v := x2) hx hb hr (fun t ht hW => ⟨⟨x2, (), rfl, rfl, by rw [ht]; exact hP, hD⟩, hS.F ht⟩) hS.2.2 d_Me_endOfLine_33 hlk
set_option maxHeartbeats 4000000 in
set_option maxRecDepth 100000 in
theorem c_Me_endOfLine {l : Launch} {dC : Nat → ClassId} {dI : Nat → Nat → Nat} {cB cI : ClassId} {aK aV : Nat → Nat} (N : Nat) (h_this h_this_row : Nat) (v_size : Int32) (v_row : Nat → Int32) (x1 : Int32) (z : Int32) (h : f_Me_endOfLine N x1 v_size v_row = some z) : Ci l y_Me_endOfLine prog_4_method_5_code 3 (some .int) ({ frames := 1, cells := 0, slots := 0, locals := 21 }) (dC, dI) cB cI aK aV [.ref h_this, .int x1] [(h_this, .inr (2, [.ref h_this_row, .int v_size])), (h_this_row, .inl (cB, 300, .inl v_row))] (fun A => (Qi (dC, dI) [(h_this, .inr (2, [.ref h_this_row, .int v_size])), (h_this_row, .inl (cB, 300, .inl v_row))] A z)) := by
  refine Ci_of (by decide) (Nat.le_of_ble_eq_true rfl) (fun p e s m below meth c A C hK hnm hA hP hD ls hl => ?_)
  obtain ⟨hx, hb, hr, hml, hown, hts, hlk⟩ := id C
  have hS : va_S A s.heap s.heap [] := va_S.rf
  have hl : lv_has ls 3 [(0, .ref h_this), (1, .int x1)] := hl
  rw [f_Me_endOfLine] at h
  refine lv_iload_n hx hb d_Me_endOfLine_0 rfl (lv_at hl 1 rfl) ?_
  refine lv_istore_n (lv' := [(2, .int x1), (0, .ref h_this), (1, .int x1)]) hx hb d_Me_endOfLine_1 rfl hl (by decide) rfl (fun ls hl => ?_)
  exact k_Me_endOfLine_2 C hK hA N h_this h_this_row v_size v_row z N x1 h _ _ hP hD hS _ (lv_sub hl [1, 0] rfl)
set_option maxHeartbeats 4000000 in
set_option maxRecDepth 100000 in
theorem c_Me_isNameByte {l : Launch} {dC : Nat → ClassId} {dI : Nat → Nat → Nat} {cB cI : ClassId} {aK aV : Nat → Nat} (N : Nat) (x0 : Int32) (z : Int32) (h : f_Me_isNameByte N x0 = some z) : Ci l y_Me_isNameByte prog_4_method_8_code 1 (some .boolean) ({ frames := 0, cells := 0, slots := 0, locals := 0 }) (dC, dI) cB cI aK aV [.int x0] [] (fun A => (Qi (dC, dI) [] A z)) := by
  refine Ci_of (by decide) (Nat.le_of_ble_eq_true rfl) (fun p e s m below meth c A C hK hnm hA hP hD ls hl => ?_)
  obtain ⟨hx, hb, hr, hml, hown, hts, hlk⟩ := id C
  have hS : va_S A s.heap s.heap [] := va_S.rf
  have hl : lv_has ls 1 [(0, .int x0)] := hl
  rw [f_Me_isNameByte] at h
  refine lv_iload_n hx hb d_Me_isNameByte_0 rfl (lv_at hl 0 rfl) ?_
  refine lv_bipush (v := 33) hx hb d_Me_isNameByte_1 (by decide) ?_
  refine lv_icmp_lt (tgt := 22) hx hb d_Me_isNameByte_3 (by decide) (fun c_1 => ?_) (fun c_1 => ?_)
  · replace h := itT h c_1
    refine lv_iconst (v := 0) hx hb d_Me_isNameByte_22 (by decide) ?_
    obtain rfl := Option.some.inj h
    exact W.zret (v := 0) hx hb hr rfl (fun t ht hW => ⟨⟨0, (), rfl, rfl, by rw [ht]; exact hP, hD⟩, hS.F ht⟩) hS.2.2 d_Me_isNameByte_23 hlk
  · replace h := itF h c_1
    refine lv_iload_n hx hb d_Me_isNameByte_6 rfl (lv_at hl 0 rfl) ?_
    refine lv_bipush (v := 126) hx hb d_Me_isNameByte_7 (by decide) ?_
    refine lv_icmp_gt (tgt := 22) hx hb d_Me_isNameByte_9 (by decide) (fun c_2 => ?_) (fun c_2 => ?_)
    · replace h := itT h c_2
      refine lv_iconst (v := 0) hx hb d_Me_isNameByte_22 (by decide) ?_
      obtain rfl := Option.some.inj h
      exact W.zret (v := 0) hx hb hr rfl (fun t ht hW => ⟨⟨0, (), rfl, rfl, by rw [ht]; exact hP, hD⟩, hS.F ht⟩) hS.2.2 d_Me_isNameByte_23 hlk
    · replace h := itF h c_2
      refine lv_iload_n hx hb d_Me_isNameByte_12 rfl (lv_at hl 0 rfl) ?_
      refine lv_bipush (v := 58) hx hb d_Me_isNameByte_13 (by decide) ?_
      refine lv_icmp_eq (tgt := 22) hx hb d_Me_isNameByte_15 (by decide) (fun c_3 => ?_) (fun c_3 => ?_)
      · replace h := itT h c_3
        refine lv_iconst (v := 0) hx hb d_Me_isNameByte_22 (by decide) ?_
        obtain rfl := Option.some.inj h
        exact W.zret (v := 0) hx hb hr rfl (fun t ht hW => ⟨⟨0, (), rfl, rfl, by rw [ht]; exact hP, hD⟩, hS.F ht⟩) hS.2.2 d_Me_isNameByte_23 hlk
      · replace h := itF h c_3
        refine lv_iconst (v := 1) hx hb d_Me_isNameByte_18 (by decide) ?_
        refine lv_goto (tgt := 23) hx hb d_Me_isNameByte_19 (by decide) ?_
        obtain rfl := Option.some.inj h
        exact W.zret (v := 1) hx hb hr rfl (fun t ht hW => ⟨⟨1, (), rfl, rfl, by rw [ht]; exact hP, hD⟩, hS.F ht⟩) hS.2.2 d_Me_isNameByte_23 hlk
set_option maxHeartbeats 4000000 in
set_option maxRecDepth 100000 in
theorem k_Me_endOfName_2 {p : Program} {l : Launch} {e : Env} {s : State} {m : MethodId} {args : Array Value} {below : List Frame} {meth : Method} {c : Code} {dC : Nat → ClassId} {dI : Nat → Nat → Nat} {cB cI : ClassId} {aK aV : Nat → Nat} {A : Nat → Prop} (C : cx p s m args meth c R_Me prog_4_method_6_code 3 (some .int)) (hK : kx (dC, dI) cB cI aK aV A s) (hA : ∀ q : Nat, s.heap.size ≤ q → A q) (N : Nat) (h_this h_this_row : Nat) (v_size : Int32) (v_row : Nat → Int32) (z : Int32) :
    ∀ (n : Nat), ∀ (x2 : Int32), f_Me_endOfName_2 N v_size v_row n x2 = some z → ∀ (H : Heap) (locs : List Loc), va_P (dC, dI) classes [(h_this, .inr (2, [.ref h_this_row, .int v_size])), (h_this_row, .inl (cB, 300, .inl v_row))] H → va_D A [(h_this, .inr (2, [.ref h_this_row, .int v_size])), (h_this_row, .inl (cB, 300, .inl v_row))] → va_S A s.heap H locs → ∀ ls : Array Slot, lv_has ls 3 [(0, .ref h_this), (2, .int x2)] → W p l e ({ frames := 1, cells := 0, slots := 0, locals := 21 }) s m args below meth c H locs 0 0 (MQ below (Qi (dC, dI) [(h_this, .inr (2, [.ref h_this_row, .int v_size])), (h_this_row, .inl (cB, 300, .inl v_row))] A z) args s 0 0 A) (F0 m 2 ls []) := by
  obtain ⟨hx, hb, hr, hml, hown, hts, hlk⟩ := id C
  intro n
  induction n with
  | zero =>
    intro x2 h
    rw [f_Me_endOfName_2] at h
    cases h
  | succ n ih =>
    intro x2 h H locs hP hD hS ls hl
    rw [f_Me_endOfName_2] at h
    refine lv_iload_n hx hb d_Me_endOfName_2 rfl (lv_at hl 1 rfl) ?_
    refine lv_aload_n hx hb d_Me_endOfName_3 rfl (lv_at hl 0 rfl) ?_
    refine va_get (D := (dC, dI)) (ci := 2) (v := .int v_size) (C := R_Me) (T := F_Me) (N := 2) hx hb hts in_Me hown hK.1 hP 0 rfl rfl 1 (by decide) (hts _ m_28) (fun _ h9 => h9) rfl d_Me_endOfName_4 ?_
    refine lv_icmp_ge (tgt := 27) hx hb d_Me_endOfName_7 (by decide) (fun c_1 => ?_) (fun c_1 => ?_)
    · replace h := itT h c_1
      refine lv_iload_n hx hb d_Me_endOfName_27 rfl (lv_at hl 1 rfl) ?_
      obtain rfl := Option.some.inj h
      exact W.iret (v := x2) hx hb hr (fun t ht hW => ⟨⟨x2, (), rfl, rfl, by rw [ht]; exact hP, hD⟩, hS.F ht⟩) hS.2.2 d_Me_endOfName_28 hlk
    · replace h := itF h c_1
      refine lv_aload_n hx hb d_Me_endOfName_10 rfl (lv_at hl 0 rfl) ?_
      refine lv_iload_n hx hb d_Me_endOfName_11 rfl (lv_at hl 1 rfl) ?_
      obtain ⟨z2, hc_2, h⟩ := bs h
      refine go_i (wr := []) (w1 := [(h_this, .inr (2, [.ref h_this_row, .int v_size])), (h_this_row, .inl (cB, 300, .inl v_row))]) (ws2 := [(h_this, .inr (2, [.ref h_this_row, .int v_size])), (h_this_row, .inl (cB, 300, .inl v_row))]) hP hD hS hA [0, 1] [] [0, 1] rfl (by decide) rfl (by decide) (by decide) rfl (by decide) (fun hPc hDc hFc => rn_V (As := [.int x2]) (rest := []) C hK (c_Me_byteAt N h_this h_this_row v_size v_row x2 z2 hc_2 _) ⟨rfl, rfl⟩ m_161 ok_Me_byteAt ⟨by decide, by decide⟩ rfl rfl rfl hl.1 rfl (Nat.le_of_ble_eq_true rfl) d_Me_endOfName_12 ⟨by decide, by decide⟩ hS hPc hDc hFc) (fun H locs hP hD hS => ?_)
      obtain ⟨z3, hc_3, h⟩ := bs h
      refine go_i (wr := [(h_this, .inr (2, [.ref h_this_row, .int v_size])), (h_this_row, .inl (cB, 300, .inl v_row))]) (w1 := []) (ws2 := [(h_this, .inr (2, [.ref h_this_row, .int v_size])), (h_this_row, .inl (cB, 300, .inl v_row))]) hP hD hS hA [] [0, 1] [0, 1] rfl (by decide) rfl (by decide) (by decide) rfl (by decide) (fun hPc hDc hFc => rn_S (As := [.int z2]) (rest := []) C hK (c_Me_isNameByte N z2 z3 hc_3 _) ⟨rfl, rfl⟩ m_165 ok_Me_isNameByte ⟨by decide, by decide⟩ hl.1 rfl (Nat.le_of_ble_eq_true rfl) d_Me_endOfName_15 ⟨by decide, by decide⟩ hS hPc hDc hFc) (fun H locs hP hD hS => ?_)
      refine lv_if_eq (tgt := 27) hx hb d_Me_endOfName_18 (by decide) (fun c_4 => ?_) (fun c_4 => ?_)
      · replace h := itT h c_4
        refine lv_iload_n hx hb d_Me_endOfName_27 rfl (lv_at hl 1 rfl) ?_
        obtain rfl := Option.some.inj h
        exact W.iret (v := x2) hx hb hr (fun t ht hW => ⟨⟨x2, (), rfl, rfl, by rw [ht]; exact hP, hD⟩, hS.F ht⟩) hS.2.2 d_Me_endOfName_28 hlk
      · replace h := itF h c_4
        refine lv_iinc (v := x2 + 1) (lv' := [(2, .int (x2 + 1)), (0, .ref h_this)]) hx hb d_Me_endOfName_21 hl (k := 1) rfl rfl (by decide) rfl (fun ls hl => ?_)
        refine lv_goto (tgt := 2) hx hb d_Me_endOfName_24 (by decide) ?_
        exact ih (x2 + 1) h _ _ hP hD hS _ (lv_sub hl [1, 0] rfl)
set_option maxHeartbeats 4000000 in
set_option maxRecDepth 100000 in
theorem c_Me_endOfName {l : Launch} {dC : Nat → ClassId} {dI : Nat → Nat → Nat} {cB cI : ClassId} {aK aV : Nat → Nat} (N : Nat) (h_this h_this_row : Nat) (v_size : Int32) (v_row : Nat → Int32) (x1 : Int32) (z : Int32) (h : f_Me_endOfName N x1 v_size v_row = some z) : Ci l y_Me_endOfName prog_4_method_6_code 3 (some .int) ({ frames := 1, cells := 0, slots := 0, locals := 21 }) (dC, dI) cB cI aK aV [.ref h_this, .int x1] [(h_this, .inr (2, [.ref h_this_row, .int v_size])), (h_this_row, .inl (cB, 300, .inl v_row))] (fun A => (Qi (dC, dI) [(h_this, .inr (2, [.ref h_this_row, .int v_size])), (h_this_row, .inl (cB, 300, .inl v_row))] A z)) := by
  refine Ci_of (by decide) (Nat.le_of_ble_eq_true rfl) (fun p e s m below meth c A C hK hnm hA hP hD ls hl => ?_)
  obtain ⟨hx, hb, hr, hml, hown, hts, hlk⟩ := id C
  have hS : va_S A s.heap s.heap [] := va_S.rf
  have hl : lv_has ls 3 [(0, .ref h_this), (1, .int x1)] := hl
  rw [f_Me_endOfName] at h
  refine lv_iload_n hx hb d_Me_endOfName_0 rfl (lv_at hl 1 rfl) ?_
  refine lv_istore_n (lv' := [(2, .int x1), (0, .ref h_this), (1, .int x1)]) hx hb d_Me_endOfName_1 rfl hl (by decide) rfl (fun ls hl => ?_)
  exact k_Me_endOfName_2 C hK hA N h_this h_this_row v_size v_row z N x1 h _ _ hP hD hS _ (lv_sub hl [1, 0] rfl)
set_option maxHeartbeats 4000000 in
set_option maxRecDepth 100000 in
theorem c_De_isBlank {l : Launch} {dC : Nat → ClassId} {dI : Nat → Nat → Nat} {cB cI : ClassId} {aK aV : Nat → Nat} (N : Nat) (x0 : Int32) (z : Int32) (h : f_De_isBlank N x0 = some z) : Ci l y_De_isBlank prog_1_method_10_code 1 (some .boolean) ({ frames := 0, cells := 0, slots := 0, locals := 0 }) (dC, dI) cB cI aK aV [.int x0] [] (fun A => (Qi (dC, dI) [] A z)) := by
  refine Ci_of (by decide) (Nat.le_of_ble_eq_true rfl) (fun p e s m below meth c A C hK hnm hA hP hD ls hl => ?_)
  obtain ⟨hx, hb, hr, hml, hown, hts, hlk⟩ := id C
  have hS : va_S A s.heap s.heap [] := va_S.rf
  have hl : lv_has ls 1 [(0, .int x0)] := hl
  rw [f_De_isBlank] at h
  refine lv_iload_n hx hb d_De_isBlank_0 rfl (lv_at hl 0 rfl) ?_
  refine lv_bipush (v := 32) hx hb d_De_isBlank_1 (by decide) ?_
  refine lv_icmp_eq (tgt := 12) hx hb d_De_isBlank_3 (by decide) (fun c_1 => ?_) (fun c_1 => ?_)
  · replace h := itT h c_1
    refine lv_iconst (v := 1) hx hb d_De_isBlank_12 (by decide) ?_
    refine lv_goto (tgt := 17) hx hb d_De_isBlank_13 (by decide) ?_
    obtain rfl := Option.some.inj h
    exact W.zret (v := 1) hx hb hr rfl (fun t ht hW => ⟨⟨1, (), rfl, rfl, by rw [ht]; exact hP, hD⟩, hS.F ht⟩) hS.2.2 d_De_isBlank_17 hlk
  · replace h := itF h c_1
    refine lv_iload_n hx hb d_De_isBlank_6 rfl (lv_at hl 0 rfl) ?_
    refine lv_bipush (v := 9) hx hb d_De_isBlank_7 (by decide) ?_
    refine lv_icmp_ne (tgt := 16) hx hb d_De_isBlank_9 (by decide) (fun c_2 => ?_) (fun c_2 => ?_)
    · replace h := itF h c_2
      refine lv_iconst (v := 0) hx hb d_De_isBlank_16 (by decide) ?_
      obtain rfl := Option.some.inj h
      exact W.zret (v := 0) hx hb hr rfl (fun t ht hW => ⟨⟨0, (), rfl, rfl, by rw [ht]; exact hP, hD⟩, hS.F ht⟩) hS.2.2 d_De_isBlank_17 hlk
    · replace h := itT h c_2
      refine lv_iconst (v := 1) hx hb d_De_isBlank_12 (by decide) ?_
      refine lv_goto (tgt := 17) hx hb d_De_isBlank_13 (by decide) ?_
      obtain rfl := Option.some.inj h
      exact W.zret (v := 1) hx hb hr rfl (fun t ht hW => ⟨⟨1, (), rfl, rfl, by rw [ht]; exact hP, hD⟩, hS.F ht⟩) hS.2.2 d_De_isBlank_17 hlk
set_option maxHeartbeats 4000000 in
set_option maxRecDepth 100000 in
theorem k_Me_endOfBlanks_2 {p : Program} {l : Launch} {e : Env} {s : State} {m : MethodId} {args : Array Value} {below : List Frame} {meth : Method} {c : Code} {dC : Nat → ClassId} {dI : Nat → Nat → Nat} {cB cI : ClassId} {aK aV : Nat → Nat} {A : Nat → Prop} (C : cx p s m args meth c R_Me prog_4_method_7_code 3 (some .int)) (hK : kx (dC, dI) cB cI aK aV A s) (hA : ∀ q : Nat, s.heap.size ≤ q → A q) (N : Nat) (h_this h_this_row : Nat) (v_size : Int32) (v_row : Nat → Int32) (z : Int32) :
    ∀ (n : Nat), ∀ (x2 : Int32), f_Me_endOfBlanks_2 N v_size v_row n x2 = some z → ∀ (H : Heap) (locs : List Loc), va_P (dC, dI) classes [(h_this, .inr (2, [.ref h_this_row, .int v_size])), (h_this_row, .inl (cB, 300, .inl v_row))] H → va_D A [(h_this, .inr (2, [.ref h_this_row, .int v_size])), (h_this_row, .inl (cB, 300, .inl v_row))] → va_S A s.heap H locs → ∀ ls : Array Slot, lv_has ls 3 [(0, .ref h_this), (2, .int x2)] → W p l e ({ frames := 1, cells := 0, slots := 0, locals := 21 }) s m args below meth c H locs 0 0 (MQ below (Qi (dC, dI) [(h_this, .inr (2, [.ref h_this_row, .int v_size])), (h_this_row, .inl (cB, 300, .inl v_row))] A z) args s 0 0 A) (F0 m 2 ls []) := by
  obtain ⟨hx, hb, hr, hml, hown, hts, hlk⟩ := id C
  intro n
  induction n with
  | zero =>
    intro x2 h
    rw [f_Me_endOfBlanks_2] at h
    cases h
  | succ n ih =>
    intro x2 h H locs hP hD hS ls hl
    rw [f_Me_endOfBlanks_2] at h
    refine lv_iload_n hx hb d_Me_endOfBlanks_2 rfl (lv_at hl 1 rfl) ?_
    refine lv_aload_n hx hb d_Me_endOfBlanks_3 rfl (lv_at hl 0 rfl) ?_
    refine va_get (D := (dC, dI)) (ci := 2) (v := .int v_size) (C := R_Me) (T := F_Me) (N := 2) hx hb hts in_Me hown hK.1 hP 0 rfl rfl 1 (by decide) (hts _ m_28) (fun _ h9 => h9) rfl d_Me_endOfBlanks_4 ?_
    refine lv_icmp_ge (tgt := 27) hx hb d_Me_endOfBlanks_7 (by decide) (fun c_1 => ?_) (fun c_1 => ?_)
    · replace h := itT h c_1
      refine lv_iload_n hx hb d_Me_endOfBlanks_27 rfl (lv_at hl 1 rfl) ?_
      obtain rfl := Option.some.inj h
      exact W.iret (v := x2) hx hb hr (fun t ht hW => ⟨⟨x2, (), rfl, rfl, by rw [ht]; exact hP, hD⟩, hS.F ht⟩) hS.2.2 d_Me_endOfBlanks_28 hlk
    · replace h := itF h c_1
      refine lv_aload_n hx hb d_Me_endOfBlanks_10 rfl (lv_at hl 0 rfl) ?_
      refine lv_iload_n hx hb d_Me_endOfBlanks_11 rfl (lv_at hl 1 rfl) ?_
      obtain ⟨z2, hc_2, h⟩ := bs h
      refine go_i (wr := []) (w1 := [(h_this, .inr (2, [.ref h_this_row, .int v_size])), (h_this_row, .inl (cB, 300, .inl v_row))]) (ws2 := [(h_this, .inr (2, [.ref h_this_row, .int v_size])), (h_this_row, .inl (cB, 300, .inl v_row))]) hP hD hS hA [0, 1] [] [0, 1] rfl (by decide) rfl (by decide) (by decide) rfl (by decide) (fun hPc hDc hFc => rn_V (As := [.int x2]) (rest := []) C hK (c_Me_byteAt N h_this h_this_row v_size v_row x2 z2 hc_2 _) ⟨rfl, rfl⟩ m_161 ok_Me_byteAt ⟨by decide, by decide⟩ rfl rfl rfl hl.1 rfl (Nat.le_of_ble_eq_true rfl) d_Me_endOfBlanks_12 ⟨by decide, by decide⟩ hS hPc hDc hFc) (fun H locs hP hD hS => ?_)
      obtain ⟨z3, hc_3, h⟩ := bs h
      refine go_i (wr := [(h_this, .inr (2, [.ref h_this_row, .int v_size])), (h_this_row, .inl (cB, 300, .inl v_row))]) (w1 := []) (ws2 := [(h_this, .inr (2, [.ref h_this_row, .int v_size])), (h_this_row, .inl (cB, 300, .inl v_row))]) hP hD hS hA [] [0, 1] [0, 1] rfl (by decide) rfl (by decide) (by decide) rfl (by decide) (fun hPc hDc hFc => rn_SN (As := [.int z2]) (rest := []) C hK (c_De_isBlank N z2 z3 hc_3 _) ⟨rfl, rfl⟩ mn_172 ok_De_isBlank ⟨by decide, by decide⟩ hl.1 rfl (Nat.le_of_ble_eq_true rfl) d_Me_endOfBlanks_15 ⟨by decide, by decide⟩ hS hPc hDc hFc) (fun H locs hP hD hS => ?_)
      refine lv_if_eq (tgt := 27) hx hb d_Me_endOfBlanks_18 (by decide) (fun c_4 => ?_) (fun c_4 => ?_)
      · replace h := itT h c_4
        refine lv_iload_n hx hb d_Me_endOfBlanks_27 rfl (lv_at hl 1 rfl) ?_
        obtain rfl := Option.some.inj h
        exact W.iret (v := x2) hx hb hr (fun t ht hW => ⟨⟨x2, (), rfl, rfl, by rw [ht]; exact hP, hD⟩, hS.F ht⟩) hS.2.2 d_Me_endOfBlanks_28 hlk
      · replace h := itF h c_4
        refine lv_iinc (v := x2 + 1) (lv' := [(2, .int (x2 + 1)), (0, .ref h_this)]) hx hb d_Me_endOfBlanks_21 hl (k := 1) rfl rfl (by decide) rfl (fun ls hl => ?_)
        refine lv_goto (tgt := 2) hx hb d_Me_endOfBlanks_24 (by decide) ?_
        exact ih (x2 + 1) h _ _ hP hD hS _ (lv_sub hl [1, 0] rfl)
set_option maxHeartbeats 4000000 in
set_option maxRecDepth 100000 in
theorem c_Me_endOfBlanks {l : Launch} {dC : Nat → ClassId} {dI : Nat → Nat → Nat} {cB cI : ClassId} {aK aV : Nat → Nat} (N : Nat) (h_this h_this_row : Nat) (v_size : Int32) (v_row : Nat → Int32) (x1 : Int32) (z : Int32) (h : f_Me_endOfBlanks N x1 v_size v_row = some z) : Ci l y_Me_endOfBlanks prog_4_method_7_code 3 (some .int) ({ frames := 1, cells := 0, slots := 0, locals := 21 }) (dC, dI) cB cI aK aV [.ref h_this, .int x1] [(h_this, .inr (2, [.ref h_this_row, .int v_size])), (h_this_row, .inl (cB, 300, .inl v_row))] (fun A => (Qi (dC, dI) [(h_this, .inr (2, [.ref h_this_row, .int v_size])), (h_this_row, .inl (cB, 300, .inl v_row))] A z)) := by
  refine Ci_of (by decide) (Nat.le_of_ble_eq_true rfl) (fun p e s m below meth c A C hK hnm hA hP hD ls hl => ?_)
  obtain ⟨hx, hb, hr, hml, hown, hts, hlk⟩ := id C
  have hS : va_S A s.heap s.heap [] := va_S.rf
  have hl : lv_has ls 3 [(0, .ref h_this), (1, .int x1)] := hl
  rw [f_Me_endOfBlanks] at h
  refine lv_iload_n hx hb d_Me_endOfBlanks_0 rfl (lv_at hl 1 rfl) ?_
  refine lv_istore_n (lv' := [(2, .int x1), (0, .ref h_this), (1, .int x1)]) hx hb d_Me_endOfBlanks_1 rfl hl (by decide) rfl (fun ls hl => ?_)
  exact k_Me_endOfBlanks_2 C hK hA N h_this h_this_row v_size v_row z N x1 h _ _ hP hD hS _ (lv_sub hl [1, 0] rfl)
set_option maxHeartbeats 4000000 in
set_option maxRecDepth 100000 in
theorem c_De_lowered {l : Launch} {dC : Nat → ClassId} {dI : Nat → Nat → Nat} {cB cI : ClassId} {aK aV : Nat → Nat} (N : Nat) (x0 : Int32) (z : Int32) (h : f_De_lowered N x0 = some z) : Ci l y_De_lowered prog_1_method_11_code 1 (some .int) ({ frames := 0, cells := 0, slots := 0, locals := 0 }) (dC, dI) cB cI aK aV [.int x0] [] (fun A => (Qi (dC, dI) [] A z)) := by
  refine Ci_of (by decide) (Nat.le_of_ble_eq_true rfl) (fun p e s m below meth c A C hK hnm hA hP hD ls hl => ?_)
  obtain ⟨hx, hb, hr, hml, hown, hts, hlk⟩ := id C
  have hS : va_S A s.heap s.heap [] := va_S.rf
  have hl : lv_has ls 1 [(0, .int x0)] := hl
  rw [f_De_lowered] at h
  refine lv_iload_n hx hb d_De_lowered_0 rfl (lv_at hl 0 rfl) ?_
  refine lv_bipush (v := 65) hx hb d_De_lowered_1 (by decide) ?_
  refine lv_icmp_lt (tgt := 22) hx hb d_De_lowered_3 (by decide) (fun c_1 => ?_) (fun c_1 => ?_)
  · replace h := itT h c_1
    refine lv_iload_n hx hb d_De_lowered_22 rfl (lv_at hl 0 rfl) ?_
    obtain rfl := Option.some.inj h
    exact W.iret (v := x0) hx hb hr (fun t ht hW => ⟨⟨x0, (), rfl, rfl, by rw [ht]; exact hP, hD⟩, hS.F ht⟩) hS.2.2 d_De_lowered_23 hlk
  · replace h := itF h c_1
    refine lv_iload_n hx hb d_De_lowered_6 rfl (lv_at hl 0 rfl) ?_
    refine lv_bipush (v := 90) hx hb d_De_lowered_7 (by decide) ?_
    refine lv_icmp_gt (tgt := 22) hx hb d_De_lowered_9 (by decide) (fun c_2 => ?_) (fun c_2 => ?_)
    · replace h := itT h c_2
      refine lv_iload_n hx hb d_De_lowered_22 rfl (lv_at hl 0 rfl) ?_
      obtain rfl := Option.some.inj h
      exact W.iret (v := x0) hx hb hr (fun t ht hW => ⟨⟨x0, (), rfl, rfl, by rw [ht]; exact hP, hD⟩, hS.F ht⟩) hS.2.2 d_De_lowered_23 hlk
    · replace h := itF h c_2
      refine lv_iload_n hx hb d_De_lowered_12 rfl (lv_at hl 0 rfl) ?_
      refine lv_bipush (v := 65) hx hb d_De_lowered_13 (by decide) ?_
      refine lv_isub hx hb d_De_lowered_15 ?_
      refine lv_bipush (v := 97) hx hb d_De_lowered_16 (by decide) ?_
      refine lv_iadd hx hb d_De_lowered_18 ?_
      refine lv_goto (tgt := 23) hx hb d_De_lowered_19 (by decide) ?_
      obtain rfl := Option.some.inj h
      exact W.iret (v := (x0 - 65) + 97) hx hb hr (fun t ht hW => ⟨⟨(x0 - 65) + 97, (), rfl, rfl, by rw [ht]; exact hP, hD⟩, hS.F ht⟩) hS.2.2 d_De_lowered_23 hlk
