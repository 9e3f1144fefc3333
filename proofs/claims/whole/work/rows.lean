section
-- ===== PART A: goes FIRST, ahead of the names: the tables' words, and 'selects' of the private methods out of them =====
/-- a private method of a class that the tables say can be made, by its rows of tables_1 -/
def lw_okq (q : MethodName × Nat) : Prop := (q.1.cls ≠ "java/lang/invoke/MethodHandle" ∧ q.1.cls ≠ "java/lang/invoke/VarHandle") ∧ Cond.instantiable q.1.cls q.2 ∈ tables_1 ∧ Cond.privateMethod q.1 ∈ tables_1 ∧ Cond.instanceMethod q.1 ∈ tables_1
theorem lw_p0 : lw_okq (⟨"HeaderDesk$Message", "append", "(I)V"⟩, 2) := ⟨⟨by decide +kernel, by decide +kernel⟩, List.mem_of_getElem? (i := 22) (by decide +kernel), List.mem_of_getElem? (i := 138) (by decide +kernel), List.mem_of_getElem? (i := 139) (by decide +kernel)⟩
theorem lw_p1 : lw_okq (⟨"HeaderDesk$Header", "readFrom", "(LHeaderDesk$Message;)V"⟩, 3) := ⟨⟨by decide +kernel, by decide +kernel⟩, List.mem_of_getElem? (i := 38) (by decide +kernel), List.mem_of_getElem? (i := 146) (by decide +kernel), List.mem_of_getElem? (i := 147) (by decide +kernel)⟩
theorem lw_p2 : lw_okq (⟨"HeaderDesk$Texts", "clear", "()V"⟩, 6) := ⟨⟨by decide +kernel, by decide +kernel⟩, List.mem_of_getElem? (i := 44) (by decide +kernel), List.mem_of_getElem? (i := 150) (by decide +kernel), List.mem_of_getElem? (i := 151) (by decide +kernel)⟩
theorem lw_p3 : lw_okq (⟨"HeaderDesk$Header", "readField", "(LHeaderDesk$Message;I)I"⟩, 3) := ⟨⟨by decide +kernel, by decide +kernel⟩, List.mem_of_getElem? (i := 38) (by decide +kernel), List.mem_of_getElem? (i := 154) (by decide +kernel), List.mem_of_getElem? (i := 155) (by decide +kernel)⟩
theorem lw_p4 : lw_okq (⟨"HeaderDesk$Message", "endOfName", "(I)I"⟩, 2) := ⟨⟨by decide +kernel, by decide +kernel⟩, List.mem_of_getElem? (i := 22) (by decide +kernel), List.mem_of_getElem? (i := 158) (by decide +kernel), List.mem_of_getElem? (i := 159) (by decide +kernel)⟩
theorem lw_p5 : lw_okq (⟨"HeaderDesk$Message", "byteAt", "(I)I"⟩, 2) := ⟨⟨by decide +kernel, by decide +kernel⟩, List.mem_of_getElem? (i := 22) (by decide +kernel), List.mem_of_getElem? (i := 162) (by decide +kernel), List.mem_of_getElem? (i := 163) (by decide +kernel)⟩
theorem lw_p6 : lw_okq (⟨"HeaderDesk$Message", "endOfBlanks", "(I)I"⟩, 2) := ⟨⟨by decide +kernel, by decide +kernel⟩, List.mem_of_getElem? (i := 22) (by decide +kernel), List.mem_of_getElem? (i := 169) (by decide +kernel), List.mem_of_getElem? (i := 170) (by decide +kernel)⟩
theorem lw_p7 : lw_okq (⟨"HeaderDesk$Texts", "append", "(I)V"⟩, 6) := ⟨⟨by decide +kernel, by decide +kernel⟩, List.mem_of_getElem? (i := 44) (by decide +kernel), List.mem_of_getElem? (i := 177) (by decide +kernel), List.mem_of_getElem? (i := 178) (by decide +kernel)⟩
theorem lw_p8 : lw_okq (⟨"HeaderDesk$Texts", "closeOpen", "()V"⟩, 6) := ⟨⟨by decide +kernel, by decide +kernel⟩, List.mem_of_getElem? (i := 44) (by decide +kernel), List.mem_of_getElem? (i := 181) (by decide +kernel), List.mem_of_getElem? (i := 182) (by decide +kernel)⟩
theorem lw_p9 : lw_okq (⟨"HeaderDesk$Header", "readLine", "(LHeaderDesk$Message;I)I"⟩, 3) := ⟨⟨by decide +kernel, by decide +kernel⟩, List.mem_of_getElem? (i := 38) (by decide +kernel), List.mem_of_getElem? (i := 185) (by decide +kernel), List.mem_of_getElem? (i := 186) (by decide +kernel)⟩
theorem lw_p10 : lw_okq (⟨"HeaderDesk$Message", "endOfLine", "(I)I"⟩, 2) := ⟨⟨by decide +kernel, by decide +kernel⟩, List.mem_of_getElem? (i := 22) (by decide +kernel), List.mem_of_getElem? (i := 189) (by decide +kernel), List.mem_of_getElem? (i := 190) (by decide +kernel)⟩
theorem lw_p11 : lw_okq (⟨"HeaderDesk$Texts", "dropBlanksAtOpenEnd", "()V"⟩, 6) := ⟨⟨by decide +kernel, by decide +kernel⟩, List.mem_of_getElem? (i := 44) (by decide +kernel), List.mem_of_getElem? (i := 197) (by decide +kernel), List.mem_of_getElem? (i := 198) (by decide +kernel)⟩
theorem lw_p12 : lw_okq (⟨"HeaderDesk$Texts", "openByteAt", "(I)I"⟩, 6) := ⟨⟨by decide +kernel, by decide +kernel⟩, List.mem_of_getElem? (i := 44) (by decide +kernel), List.mem_of_getElem? (i := 201) (by decide +kernel), List.mem_of_getElem? (i := 202) (by decide +kernel)⟩
theorem lw_p13 : lw_okq (⟨"HeaderDesk$Addresses", "clear", "()V"⟩, 9) := ⟨⟨by decide +kernel, by decide +kernel⟩, List.mem_of_getElem? (i := 87) (by decide +kernel), List.mem_of_getElem? (i := 206) (by decide +kernel), List.mem_of_getElem? (i := 207) (by decide +kernel)⟩
theorem lw_p14 : lw_okq (⟨"HeaderDesk$Addresses", "readValue", "(LHeaderDesk$Texts;I)V"⟩, 9) := ⟨⟨by decide +kernel, by decide +kernel⟩, List.mem_of_getElem? (i := 87) (by decide +kernel), List.mem_of_getElem? (i := 211) (by decide +kernel), List.mem_of_getElem? (i := 212) (by decide +kernel)⟩
theorem lw_p15 : lw_okq (⟨"HeaderDesk$Texts", "lengthOf", "(I)I"⟩, 6) := ⟨⟨by decide +kernel, by decide +kernel⟩, List.mem_of_getElem? (i := 44) (by decide +kernel), List.mem_of_getElem? (i := 215) (by decide +kernel), List.mem_of_getElem? (i := 216) (by decide +kernel)⟩
def lw_privs_1 : List (MethodName × Nat) := [(⟨"HeaderDesk$Message", "append", "(I)V"⟩, 2), (⟨"HeaderDesk$Header", "readFrom", "(LHeaderDesk$Message;)V"⟩, 3), (⟨"HeaderDesk$Texts", "clear", "()V"⟩, 6), (⟨"HeaderDesk$Header", "readField", "(LHeaderDesk$Message;I)I"⟩, 3), (⟨"HeaderDesk$Message", "endOfName", "(I)I"⟩, 2), (⟨"HeaderDesk$Message", "byteAt", "(I)I"⟩, 2), (⟨"HeaderDesk$Message", "endOfBlanks", "(I)I"⟩, 2), (⟨"HeaderDesk$Texts", "append", "(I)V"⟩, 6), (⟨"HeaderDesk$Texts", "closeOpen", "()V"⟩, 6), (⟨"HeaderDesk$Header", "readLine", "(LHeaderDesk$Message;I)I"⟩, 3), (⟨"HeaderDesk$Message", "endOfLine", "(I)I"⟩, 2), (⟨"HeaderDesk$Texts", "dropBlanksAtOpenEnd", "()V"⟩, 6), (⟨"HeaderDesk$Texts", "openByteAt", "(I)I"⟩, 6), (⟨"HeaderDesk$Addresses", "clear", "()V"⟩, 9), (⟨"HeaderDesk$Addresses", "readValue", "(LHeaderDesk$Texts;I)V"⟩, 9), (⟨"HeaderDesk$Texts", "lengthOf", "(I)I"⟩, 6)]
theorem lw_r1 : ∀ q ∈ lw_privs_1, lw_okq q := List.forall_mem_cons.mpr ⟨lw_p0, List.forall_mem_cons.mpr ⟨lw_p1, List.forall_mem_cons.mpr ⟨lw_p2, List.forall_mem_cons.mpr ⟨lw_p3, List.forall_mem_cons.mpr ⟨lw_p4, List.forall_mem_cons.mpr ⟨lw_p5, List.forall_mem_cons.mpr ⟨lw_p6, List.forall_mem_cons.mpr ⟨lw_p7, List.forall_mem_cons.mpr ⟨lw_p8, List.forall_mem_cons.mpr ⟨lw_p9, List.forall_mem_cons.mpr ⟨lw_p10, List.forall_mem_cons.mpr ⟨lw_p11, List.forall_mem_cons.mpr ⟨lw_p12, List.forall_mem_cons.mpr ⟨lw_p13, List.forall_mem_cons.mpr ⟨lw_p14, List.forall_mem_cons.mpr ⟨lw_p15, fun _ h => absurd h List.not_mem_nil⟩⟩⟩⟩⟩⟩⟩⟩⟩⟩⟩⟩⟩⟩⟩⟩
theorem lw_p16 : lw_okq (⟨"HeaderDesk$Texts", "has", "(I)Z"⟩, 6) := ⟨⟨by decide +kernel, by decide +kernel⟩, List.mem_of_getElem? (i := 44) (by decide +kernel), List.mem_of_getElem? (i := 219) (by decide +kernel), List.mem_of_getElem? (i := 220) (by decide +kernel)⟩
theorem lw_p17 : lw_okq (⟨"HeaderDesk$Texts", "byteAt", "(II)I"⟩, 6) := ⟨⟨by decide +kernel, by decide +kernel⟩, List.mem_of_getElem? (i := 44) (by decide +kernel), List.mem_of_getElem? (i := 223) (by decide +kernel), List.mem_of_getElem? (i := 224) (by decide +kernel)⟩
theorem lw_p18 : lw_okq (⟨"HeaderDesk$Addresses", "takeInBrackets", "(I)V"⟩, 9) := ⟨⟨by decide +kernel, by decide +kernel⟩, List.mem_of_getElem? (i := 87) (by decide +kernel), List.mem_of_getElem? (i := 227) (by decide +kernel), List.mem_of_getElem? (i := 228) (by decide +kernel)⟩
theorem lw_p19 : lw_okq (⟨"HeaderDesk$Addresses", "takeInQuotes", "(I)V"⟩, 9) := ⟨⟨by decide +kernel, by decide +kernel⟩, List.mem_of_getElem? (i := 87) (by decide +kernel), List.mem_of_getElem? (i := 231) (by decide +kernel), List.mem_of_getElem? (i := 232) (by decide +kernel)⟩
theorem lw_p20 : lw_okq (⟨"HeaderDesk$Addresses", "keep", "(I)V"⟩, 9) := ⟨⟨by decide +kernel, by decide +kernel⟩, List.mem_of_getElem? (i := 87) (by decide +kernel), List.mem_of_getElem? (i := 235) (by decide +kernel), List.mem_of_getElem? (i := 236) (by decide +kernel)⟩
theorem lw_p21 : lw_okq (⟨"HeaderDesk$Addresses", "endPart", "()V"⟩, 9) := ⟨⟨by decide +kernel, by decide +kernel⟩, List.mem_of_getElem? (i := 87) (by decide +kernel), List.mem_of_getElem? (i := 240) (by decide +kernel), List.mem_of_getElem? (i := 241) (by decide +kernel)⟩
theorem lw_p22 : lw_okq (⟨"HeaderDesk$Addresses", "atSignOfOpen", "()I"⟩, 9) := ⟨⟨by decide +kernel, by decide +kernel⟩, List.mem_of_getElem? (i := 87) (by decide +kernel), List.mem_of_getElem? (i := 244) (by decide +kernel), List.mem_of_getElem? (i := 245) (by decide +kernel)⟩
theorem lw_p23 : lw_okq (⟨"HeaderDesk$Addresses", "isDotted", "(IIILjava/lang/String;)Z"⟩, 9) := ⟨⟨by decide +kernel, by decide +kernel⟩, List.mem_of_getElem? (i := 87) (by decide +kernel), List.mem_of_getElem? (i := 250) (by decide +kernel), List.mem_of_getElem? (i := 251) (by decide +kernel)⟩
theorem lw_p24 : lw_okq (⟨"HeaderDesk$Texts", "dropOpen", "()V"⟩, 6) := ⟨⟨by decide +kernel, by decide +kernel⟩, List.mem_of_getElem? (i := 44) (by decide +kernel), List.mem_of_getElem? (i := 346) (by decide +kernel), List.mem_of_getElem? (i := 347) (by decide +kernel)⟩
theorem lw_p25 : lw_okq (⟨"HeaderDesk$Addresses", "takePlain", "(I)V"⟩, 9) := ⟨⟨by decide +kernel, by decide +kernel⟩, List.mem_of_getElem? (i := 87) (by decide +kernel), List.mem_of_getElem? (i := 350) (by decide +kernel), List.mem_of_getElem? (i := 351) (by decide +kernel)⟩
theorem lw_p26 : lw_okq (⟨"HeaderDesk$Message", "clear", "()V"⟩, 2) := ⟨⟨by decide +kernel, by decide +kernel⟩, List.mem_of_getElem? (i := 22) (by decide +kernel), List.mem_of_getElem? (i := 355) (by decide +kernel), List.mem_of_getElem? (i := 356) (by decide +kernel)⟩
theorem lw_p27 : lw_okq (⟨"HeaderDesk$Addresses", "amountIn", "(I)I"⟩, 9) := ⟨⟨by decide +kernel, by decide +kernel⟩, List.mem_of_getElem? (i := 87) (by decide +kernel), List.mem_of_getElem? (i := 365) (by decide +kernel), List.mem_of_getElem? (i := 366) (by decide +kernel)⟩
theorem lw_p28 : lw_okq (⟨"HeaderDesk$Texts", "eightBytes", "(II)J"⟩, 6) := ⟨⟨by decide +kernel, by decide +kernel⟩, List.mem_of_getElem? (i := 44) (by decide +kernel), List.mem_of_getElem? (i := 373) (by decide +kernel), List.mem_of_getElem? (i := 374) (by decide +kernel)⟩
theorem lw_p29 : lw_okq (⟨"HeaderDesk$Addresses", "indexOf", "(II)I"⟩, 9) := ⟨⟨by decide +kernel, by decide +kernel⟩, List.mem_of_getElem? (i := 87) (by decide +kernel), List.mem_of_getElem? (i := 384) (by decide +kernel), List.mem_of_getElem? (i := 385) (by decide +kernel)⟩
theorem lw_p30 : lw_okq (⟨"HeaderDesk$Addresses", "atSignOf", "(I)I"⟩, 9) := ⟨⟨by decide +kernel, by decide +kernel⟩, List.mem_of_getElem? (i := 87) (by decide +kernel), List.mem_of_getElem? (i := 392) (by decide +kernel), List.mem_of_getElem? (i := 393) (by decide +kernel)⟩
theorem lw_p31 : lw_okq (⟨"HeaderDesk$Texts", "areAlike", "(II)Z"⟩, 6) := ⟨⟨by decide +kernel, by decide +kernel⟩, List.mem_of_getElem? (i := 44) (by decide +kernel), List.mem_of_getElem? (i := 402) (by decide +kernel), List.mem_of_getElem? (i := 403) (by decide +kernel)⟩
def lw_privs_2 : List (MethodName × Nat) := [(⟨"HeaderDesk$Texts", "has", "(I)Z"⟩, 6), (⟨"HeaderDesk$Texts", "byteAt", "(II)I"⟩, 6), (⟨"HeaderDesk$Addresses", "takeInBrackets", "(I)V"⟩, 9), (⟨"HeaderDesk$Addresses", "takeInQuotes", "(I)V"⟩, 9), (⟨"HeaderDesk$Addresses", "keep", "(I)V"⟩, 9), (⟨"HeaderDesk$Addresses", "endPart", "()V"⟩, 9), (⟨"HeaderDesk$Addresses", "atSignOfOpen", "()I"⟩, 9), (⟨"HeaderDesk$Addresses", "isDotted", "(IIILjava/lang/String;)Z"⟩, 9), (⟨"HeaderDesk$Texts", "dropOpen", "()V"⟩, 6), (⟨"HeaderDesk$Addresses", "takePlain", "(I)V"⟩, 9), (⟨"HeaderDesk$Message", "clear", "()V"⟩, 2), (⟨"HeaderDesk$Addresses", "amountIn", "(I)I"⟩, 9), (⟨"HeaderDesk$Texts", "eightBytes", "(II)J"⟩, 6), (⟨"HeaderDesk$Addresses", "indexOf", "(II)I"⟩, 9), (⟨"HeaderDesk$Addresses", "atSignOf", "(I)I"⟩, 9), (⟨"HeaderDesk$Texts", "areAlike", "(II)Z"⟩, 6)]
theorem lw_r2 : ∀ q ∈ lw_privs_2, lw_okq q := List.forall_mem_cons.mpr ⟨lw_p16, List.forall_mem_cons.mpr ⟨lw_p17, List.forall_mem_cons.mpr ⟨lw_p18, List.forall_mem_cons.mpr ⟨lw_p19, List.forall_mem_cons.mpr ⟨lw_p20, List.forall_mem_cons.mpr ⟨lw_p21, List.forall_mem_cons.mpr ⟨lw_p22, List.forall_mem_cons.mpr ⟨lw_p23, List.forall_mem_cons.mpr ⟨lw_p24, List.forall_mem_cons.mpr ⟨lw_p25, List.forall_mem_cons.mpr ⟨lw_p26, List.forall_mem_cons.mpr ⟨lw_p27, List.forall_mem_cons.mpr ⟨lw_p28, List.forall_mem_cons.mpr ⟨lw_p29, List.forall_mem_cons.mpr ⟨lw_p30, List.forall_mem_cons.mpr ⟨lw_p31, fun _ h => absurd h List.not_mem_nil⟩⟩⟩⟩⟩⟩⟩⟩⟩⟩⟩⟩⟩⟩⟩⟩
theorem lw_p32 : lw_okq (⟨"HeaderDeskModel", "fields", "()I"⟩, 12) := ⟨⟨by decide +kernel, by decide +kernel⟩, List.mem_of_getElem? (i := 412) (by decide +kernel), List.mem_of_getElem? (i := 463) (by decide +kernel), List.mem_of_getElem? (i := 464) (by decide +kernel)⟩
theorem lw_p33 : lw_okq (⟨"HeaderDeskModel", "look", "(I)Z"⟩, 12) := ⟨⟨by decide +kernel, by decide +kernel⟩, List.mem_of_getElem? (i := 412) (by decide +kernel), List.mem_of_getElem? (i := 467) (by decide +kernel), List.mem_of_getElem? (i := 468) (by decide +kernel)⟩
theorem lw_p34 : lw_okq (⟨"HeaderDeskModel", "colon", "(I)I"⟩, 12) := ⟨⟨by decide +kernel, by decide +kernel⟩, List.mem_of_getElem? (i := 412) (by decide +kernel), List.mem_of_getElem? (i := 471) (by decide +kernel), List.mem_of_getElem? (i := 472) (by decide +kernel)⟩
theorem lw_p35 : lw_okq (⟨"HeaderDeskModel", "lineEnd", "(I)I"⟩, 12) := ⟨⟨by decide +kernel, by decide +kernel⟩, List.mem_of_getElem? (i := 412) (by decide +kernel), List.mem_of_getElem? (i := 475) (by decide +kernel), List.mem_of_getElem? (i := 476) (by decide +kernel)⟩
theorem lw_p36 : lw_okq (⟨"HeaderDeskModel", "takeLine", "(I)V"⟩, 12) := ⟨⟨by decide +kernel, by decide +kernel⟩, List.mem_of_getElem? (i := 412) (by decide +kernel), List.mem_of_getElem? (i := 482) (by decide +kernel), List.mem_of_getElem? (i := 483) (by decide +kernel)⟩
theorem lw_p37 : lw_okq (⟨"HeaderDeskModel", "trim", "()V"⟩, 12) := ⟨⟨by decide +kernel, by decide +kernel⟩, List.mem_of_getElem? (i := 412) (by decide +kernel), List.mem_of_getElem? (i := 486) (by decide +kernel), List.mem_of_getElem? (i := 487) (by decide +kernel)⟩
theorem lw_p38 : lw_okq (⟨"HeaderDeskModel", "addresses", "()I"⟩, 12) := ⟨⟨by decide +kernel, by decide +kernel⟩, List.mem_of_getElem? (i := 412) (by decide +kernel), List.mem_of_getElem? (i := 494) (by decide +kernel), List.mem_of_getElem? (i := 495) (by decide +kernel)⟩
theorem lw_p39 : lw_okq (⟨"HeaderDeskModel", "onePart", "(I)I"⟩, 12) := ⟨⟨by decide +kernel, by decide +kernel⟩, List.mem_of_getElem? (i := 412) (by decide +kernel), List.mem_of_getElem? (i := 498) (by decide +kernel), List.mem_of_getElem? (i := 499) (by decide +kernel)⟩
theorem lw_p40 : lw_okq (⟨"HeaderDeskModel", "at", "()I"⟩, 12) := ⟨⟨by decide +kernel, by decide +kernel⟩, List.mem_of_getElem? (i := 412) (by decide +kernel), List.mem_of_getElem? (i := 502) (by decide +kernel), List.mem_of_getElem? (i := 503) (by decide +kernel)⟩
theorem lw_p41 : lw_okq (⟨"HeaderDeskModel", "addressAt", "(I)I"⟩, 12) := ⟨⟨by decide +kernel, by decide +kernel⟩, List.mem_of_getElem? (i := 412) (by decide +kernel), List.mem_of_getElem? (i := 524) (by decide +kernel), List.mem_of_getElem? (i := 525) (by decide +kernel)⟩
def lw_privs_3 : List (MethodName × Nat) := [(⟨"HeaderDeskModel", "fields", "()I"⟩, 12), (⟨"HeaderDeskModel", "look", "(I)Z"⟩, 12), (⟨"HeaderDeskModel", "colon", "(I)I"⟩, 12), (⟨"HeaderDeskModel", "lineEnd", "(I)I"⟩, 12), (⟨"HeaderDeskModel", "takeLine", "(I)V"⟩, 12), (⟨"HeaderDeskModel", "trim", "()V"⟩, 12), (⟨"HeaderDeskModel", "addresses", "()I"⟩, 12), (⟨"HeaderDeskModel", "onePart", "(I)I"⟩, 12), (⟨"HeaderDeskModel", "at", "()I"⟩, 12), (⟨"HeaderDeskModel", "addressAt", "(I)I"⟩, 12)]
theorem lw_r3 : ∀ q ∈ lw_privs_3, lw_okq q := List.forall_mem_cons.mpr ⟨lw_p32, List.forall_mem_cons.mpr ⟨lw_p33, List.forall_mem_cons.mpr ⟨lw_p34, List.forall_mem_cons.mpr ⟨lw_p35, List.forall_mem_cons.mpr ⟨lw_p36, List.forall_mem_cons.mpr ⟨lw_p37, List.forall_mem_cons.mpr ⟨lw_p38, List.forall_mem_cons.mpr ⟨lw_p39, List.forall_mem_cons.mpr ⟨lw_p40, List.forall_mem_cons.mpr ⟨lw_p41, fun _ h => absurd h List.not_mem_nil⟩⟩⟩⟩⟩⟩⟩⟩⟩⟩
def lw_privs : List (MethodName × Nat) := lw_privs_1 ++ (lw_privs_2 ++ (lw_privs_3))
def lw_tbl : List Cond := k2_sels lw_privs ++ tables_1
theorem lw_privs_ok : ∀ q ∈ lw_privs, lw_okq q := by
  show ∀ q ∈ lw_privs_1 ++ (lw_privs_2 ++ (lw_privs_3)), lw_okq q
  exact List.forall_mem_append.mpr ⟨lw_r1, List.forall_mem_append.mpr ⟨lw_r2, lw_r3⟩⟩
end
section
abbrev R_Ad : String := "HeaderDesk$Addresses"
def F_Ad : u_T := fun k => match k with
  | 0 => ("HeaderDesk$Addresses", "found", "LHeaderDesk$Texts;", true)
  | 1 => ("HeaderDesk$Addresses", "atSigns", "[I", true)
  | 2 => ("HeaderDesk$Addresses", "firsts", "[I", true)
  | 3 => ("HeaderDesk$Addresses", "amounts", "[I", true)
  | 4 => ("HeaderDesk$Addresses", "fields", "I", false)
  | 5 => ("HeaderDesk$Addresses", "angle", "I", false)
  | 6 => ("HeaderDesk$Addresses", "depth", "I", false)
  | 7 => ("HeaderDesk$Addresses", "quoted", "Z", false)
  | _ => ("HeaderDesk$Addresses", "escaped", "Z", false)
def t_Ad : Nat → FieldType := fun k => match k with
  | 0 => .object "HeaderDesk$Texts"
  | 1 => .array .int
  | 2 => .array .int
  | 3 => .array .int
  | 4 => .int
  | 5 => .int
  | 6 => .int
  | 7 => .boolean
  | _ => .boolean
theorem n_Ad : ∀ a, a < 9 → ∀ b, b < 9 → a ≠ b → (F_Ad a).2.1 ≠ (F_Ad b).2.1 := by decide +kernel
theorem t_Ad_ok : ∀ k, k < 9 → parseFieldDescriptor (F_Ad k).2.2.1 = some (t_Ad k) := by decide +kernel
abbrev R_He : String := "HeaderDesk$Header"
def F_He : u_T := fun k => match k with
  | 0 => ("HeaderDesk$Header", "names", "LHeaderDesk$Texts;", true)
  | 1 => ("HeaderDesk$Header", "values", "LHeaderDesk$Texts;", true)
  | _ => ("HeaderDesk$Header", "end", "I", false)
def t_He : Nat → FieldType := fun k => match k with
  | 0 => .object "HeaderDesk$Texts"
  | 1 => .object "HeaderDesk$Texts"
  | _ => .int
theorem n_He : ∀ a, a < 3 → ∀ b, b < 3 → a ≠ b → (F_He a).2.1 ≠ (F_He b).2.1 := by decide +kernel
theorem t_He_ok : ∀ k, k < 3 → parseFieldDescriptor (F_He k).2.2.1 = some (t_He k) := by decide +kernel
abbrev R_Me : String := "HeaderDesk$Message"
def F_Me : u_T := fun k => match k with
  | 0 => ("HeaderDesk$Message", "row", "[B", true)
  | _ => ("HeaderDesk$Message", "size", "I", false)
def t_Me : Nat → FieldType := fun k => match k with
  | 0 => .array .byte
  | _ => .int
theorem n_Me : ∀ a, a < 2 → ∀ b, b < 2 → a ≠ b → (F_Me a).2.1 ≠ (F_Me b).2.1 := by decide +kernel
theorem t_Me_ok : ∀ k, k < 2 → parseFieldDescriptor (F_Me k).2.2.1 = some (t_Me k) := by decide +kernel
abbrev R_Te : String := "HeaderDesk$Texts"
def F_Te : u_T := fun k => match k with
  | 0 => ("HeaderDesk$Texts", "row", "[B", true)
  | 1 => ("HeaderDesk$Texts", "starts", "[I", true)
  | 2 => ("HeaderDesk$Texts", "lengths", "[I", true)
  | 3 => ("HeaderDesk$Texts", "size", "I", false)
  | 4 => ("HeaderDesk$Texts", "openStart", "I", false)
  | _ => ("HeaderDesk$Texts", "openLength", "I", false)
def t_Te : Nat → FieldType := fun k => match k with
  | 0 => .array .byte
  | 1 => .array .int
  | 2 => .array .int
  | 3 => .int
  | 4 => .int
  | _ => .int
theorem n_Te : ∀ a, a < 6 → ∀ b, b < 6 → a ≠ b → (F_Te a).2.1 ≠ (F_Te b).2.1 := by decide +kernel
theorem t_Te_ok : ∀ k, k < 6 → parseFieldDescriptor (F_Te k).2.2.1 = some (t_Te k) := by decide +kernel
abbrev R_De : String := "HeaderDesk"
def F_De : u_T := fun k => match k with
  | 0 => ("HeaderDesk", "message", "LHeaderDesk$Message;", true)
  | 1 => ("HeaderDesk", "header", "LHeaderDesk$Header;", true)
  | _ => ("HeaderDesk", "addresses", "LHeaderDesk$Addresses;", true)
def t_De : Nat → FieldType := fun k => match k with
  | 0 => .object "HeaderDesk$Message"
  | 1 => .object "HeaderDesk$Header"
  | _ => .object "HeaderDesk$Addresses"
theorem n_De : ∀ a, a < 3 → ∀ b, b < 3 → a ≠ b → (F_De a).2.1 ≠ (F_De b).2.1 := by decide +kernel
theorem t_De_ok : ∀ k, k < 3 → parseFieldDescriptor (F_De k).2.2.1 = some (t_De k) := by decide +kernel
abbrev R_Mo : String := "HeaderDeskModel"
def F_Mo : u_T := fun k => match k with
  | 0 => ("HeaderDeskModel", "thrownCode", "I", false)
  | 1 => ("HeaderDeskModel", "put", "[I", true)
  | 2 => ("HeaderDeskModel", "puts", "I", false)
  | 3 => ("HeaderDeskModel", "text", "[I", true)
  | 4 => ("HeaderDeskModel", "bytes", "I", false)
  | 5 => ("HeaderDeskModel", "nameFrom", "I", false)
  | 6 => ("HeaderDeskModel", "names", "I", false)
  | 7 => ("HeaderDeskModel", "value", "[I", true)
  | 8 => ("HeaderDeskModel", "values", "I", false)
  | 9 => ("HeaderDeskModel", "behind", "I", false)
  | 10 => ("HeaderDeskModel", "part", "[I", true)
  | _ => ("HeaderDeskModel", "parts", "I", false)
def t_Mo : Nat → FieldType := fun k => match k with
  | 0 => .int
  | 1 => .array .int
  | 2 => .int
  | 3 => .array .int
  | 4 => .int
  | 5 => .int
  | 6 => .int
  | 7 => .array .int
  | 8 => .int
  | 9 => .int
  | 10 => .array .int
  | _ => .int
theorem n_Mo : ∀ a, a < 12 → ∀ b, b < 12 → a ≠ b → (F_Mo a).2.1 ≠ (F_Mo b).2.1 := by decide +kernel
theorem t_Mo_ok : ∀ k, k < 12 → parseFieldDescriptor (F_Mo k).2.2.1 = some (t_Mo k) := by decide +kernel
abbrev R_Lw : String := "HeaderDeskLaw"
abbrev R_St : String := "java/lang/String"
abbrev R_La : String := "java/lang/StringLatin1"
abbrev classes : List vw_C := [(R_Ad, F_Ad, 9), (R_He, F_He, 3), (R_Me, F_Me, 2), (R_Te, F_Te, 6), (R_De, F_De, 3), (R_Mo, F_Mo, 12)]
abbrev y_De_init : MethodName := ⟨"HeaderDesk", "<init>", "()V"⟩
abbrev y_De_put : MethodName := ⟨"HeaderDesk", "put", "(JI)Z"⟩
abbrev y_De_read : MethodName := ⟨"HeaderDesk", "read", "()I"⟩
abbrev y_De_field : MethodName := ⟨"HeaderDesk", "field", "(II)I"⟩
abbrev y_De_bytes : MethodName := ⟨"HeaderDesk", "bytes", "(III)J"⟩
abbrev y_De_address : MethodName := ⟨"HeaderDesk", "address", "(III)J"⟩
abbrev y_De_part : MethodName := ⟨"HeaderDesk", "part", "(III)I"⟩
abbrev y_De_find : MethodName := ⟨"HeaderDesk", "find", "(II)I"⟩
abbrev y_De_count : MethodName := ⟨"HeaderDesk", "count", "(I)I"⟩
abbrev y_De_isBlank : MethodName := ⟨"HeaderDesk", "isBlank", "(I)Z"⟩
abbrev y_De_lowered : MethodName := ⟨"HeaderDesk", "lowered", "(I)I"⟩
abbrev y_Mo_init : MethodName := ⟨"HeaderDeskModel", "<init>", "()V"⟩
abbrev y_Mo_blank : MethodName := ⟨"HeaderDeskModel", "blank", "(I)Z"⟩
abbrev y_Mo_lineEnd : MethodName := ⟨"HeaderDeskModel", "lineEnd", "(I)I"⟩
abbrev y_Mo_colon : MethodName := ⟨"HeaderDeskModel", "colon", "(I)I"⟩
abbrev y_Mo_look : MethodName := ⟨"HeaderDeskModel", "look", "(I)Z"⟩
abbrev y_Mo_takeLine : MethodName := ⟨"HeaderDeskModel", "takeLine", "(I)V"⟩
abbrev y_Mo_trim : MethodName := ⟨"HeaderDeskModel", "trim", "()V"⟩
abbrev y_Mo_letter : MethodName := ⟨"HeaderDeskModel", "letter", "(I)Z"⟩
abbrev y_Mo_local : MethodName := ⟨"HeaderDeskModel", "local", "(I)Z"⟩
abbrev y_Mo_at : MethodName := ⟨"HeaderDeskModel", "at", "()I"⟩
abbrev y_Mo_addressAt : MethodName := ⟨"HeaderDeskModel", "addressAt", "(I)I"⟩
abbrev y_Mo_onePart : MethodName := ⟨"HeaderDeskModel", "onePart", "(I)I"⟩
abbrev y_Mo_addresses : MethodName := ⟨"HeaderDeskModel", "addresses", "()I"⟩
abbrev y_Mo_eight : MethodName := ⟨"HeaderDeskModel", "eight", "([III)J"⟩
abbrev y_Mo_put : MethodName := ⟨"HeaderDeskModel", "put", "(JI)Z"⟩
abbrev y_Mo_fields : MethodName := ⟨"HeaderDeskModel", "fields", "()I"⟩
abbrev y_Mo_read : MethodName := ⟨"HeaderDeskModel", "read", "()I"⟩
abbrev y_Mo_field : MethodName := ⟨"HeaderDeskModel", "field", "(II)I"⟩
abbrev y_Mo_bytes : MethodName := ⟨"HeaderDeskModel", "bytes", "(III)J"⟩
abbrev y_Mo_address : MethodName := ⟨"HeaderDeskModel", "address", "(III)J"⟩
abbrev y_Mo_part : MethodName := ⟨"HeaderDeskModel", "part", "(III)I"⟩
abbrev y_Mo_low : MethodName := ⟨"HeaderDeskModel", "low", "(I)I"⟩
abbrev y_Mo_find : MethodName := ⟨"HeaderDeskModel", "find", "(II)I"⟩
abbrev y_Mo_count : MethodName := ⟨"HeaderDeskModel", "count", "(I)I"⟩
abbrev y_Ad_init : MethodName := ⟨"HeaderDesk$Addresses", "<init>", "()V"⟩
abbrev y_Ad_clear : MethodName := ⟨"HeaderDesk$Addresses", "clear", "()V"⟩
abbrev y_Ad_amountIn : MethodName := ⟨"HeaderDesk$Addresses", "amountIn", "(I)I"⟩
abbrev y_Ad_indexOf : MethodName := ⟨"HeaderDesk$Addresses", "indexOf", "(II)I"⟩
abbrev y_Ad_atSignOf : MethodName := ⟨"HeaderDesk$Addresses", "atSignOf", "(I)I"⟩
abbrev y_Ad_readValue : MethodName := ⟨"HeaderDesk$Addresses", "readValue", "(LHeaderDesk$Texts;I)V"⟩
abbrev y_Ad_takeInBrackets : MethodName := ⟨"HeaderDesk$Addresses", "takeInBrackets", "(I)V"⟩
abbrev y_Ad_takeInQuotes : MethodName := ⟨"HeaderDesk$Addresses", "takeInQuotes", "(I)V"⟩
abbrev y_Ad_takePlain : MethodName := ⟨"HeaderDesk$Addresses", "takePlain", "(I)V"⟩
abbrev y_Ad_keep : MethodName := ⟨"HeaderDesk$Addresses", "keep", "(I)V"⟩
abbrev y_Ad_endPart : MethodName := ⟨"HeaderDesk$Addresses", "endPart", "()V"⟩
abbrev y_Ad_atSignOfOpen : MethodName := ⟨"HeaderDesk$Addresses", "atSignOfOpen", "()I"⟩
abbrev y_Ad_isDotted : MethodName := ⟨"HeaderDesk$Addresses", "isDotted", "(IIILjava/lang/String;)Z"⟩
abbrev y_Ad_isWordByte : MethodName := ⟨"HeaderDesk$Addresses", "isWordByte", "(ILjava/lang/String;)Z"⟩
abbrev y_He_init : MethodName := ⟨"HeaderDesk$Header", "<init>", "()V"⟩
abbrev y_He_readFrom : MethodName := ⟨"HeaderDesk$Header", "readFrom", "(LHeaderDesk$Message;)V"⟩
abbrev y_He_readField : MethodName := ⟨"HeaderDesk$Header", "readField", "(LHeaderDesk$Message;I)I"⟩
abbrev y_He_readLine : MethodName := ⟨"HeaderDesk$Header", "readLine", "(LHeaderDesk$Message;I)I"⟩
abbrev y_Me_init : MethodName := ⟨"HeaderDesk$Message", "<init>", "()V"⟩
abbrev y_Me_clear : MethodName := ⟨"HeaderDesk$Message", "clear", "()V"⟩
abbrev y_Me_append : MethodName := ⟨"HeaderDesk$Message", "append", "(I)V"⟩
abbrev y_Me_byteAt : MethodName := ⟨"HeaderDesk$Message", "byteAt", "(I)I"⟩
abbrev y_Me_endOfLine : MethodName := ⟨"HeaderDesk$Message", "endOfLine", "(I)I"⟩
abbrev y_Me_endOfName : MethodName := ⟨"HeaderDesk$Message", "endOfName", "(I)I"⟩
abbrev y_Me_endOfBlanks : MethodName := ⟨"HeaderDesk$Message", "endOfBlanks", "(I)I"⟩
abbrev y_Me_isNameByte : MethodName := ⟨"HeaderDesk$Message", "isNameByte", "(I)Z"⟩
abbrev y_Te_init : MethodName := ⟨"HeaderDesk$Texts", "<init>", "()V"⟩
abbrev y_Te_clear : MethodName := ⟨"HeaderDesk$Texts", "clear", "()V"⟩
abbrev y_Te_append : MethodName := ⟨"HeaderDesk$Texts", "append", "(I)V"⟩
abbrev y_Te_openByteAt : MethodName := ⟨"HeaderDesk$Texts", "openByteAt", "(I)I"⟩
abbrev y_Te_dropOpen : MethodName := ⟨"HeaderDesk$Texts", "dropOpen", "()V"⟩
abbrev y_Te_dropBlanksAtOpenEnd : MethodName := ⟨"HeaderDesk$Texts", "dropBlanksAtOpenEnd", "()V"⟩
abbrev y_Te_closeOpen : MethodName := ⟨"HeaderDesk$Texts", "closeOpen", "()V"⟩
abbrev y_Te_has : MethodName := ⟨"HeaderDesk$Texts", "has", "(I)Z"⟩
abbrev y_Te_lengthOf : MethodName := ⟨"HeaderDesk$Texts", "lengthOf", "(I)I"⟩
abbrev y_Te_byteAt : MethodName := ⟨"HeaderDesk$Texts", "byteAt", "(II)I"⟩
abbrev y_Te_eightBytes : MethodName := ⟨"HeaderDesk$Texts", "eightBytes", "(II)J"⟩
abbrev y_Te_areAlike : MethodName := ⟨"HeaderDesk$Texts", "areAlike", "(II)Z"⟩
def strN : Nat := 2
def strLen : List Nat := [19, 1]
def strByt : List (List Int32) := [[33, 35, 36, 37, 38, 39, 42, 43, 45, 47, 61, 63, 94, 95, 96, 123, 124, 125, 126], [45]]
def strLinks : List (String × Nat × String × Nat) := [("HeaderDesk$Addresses", 101, "!#$%&'*+-/=?^_`{|}~", 0), ("HeaderDesk$Addresses", 107, "-", 1)]
/-! BASE: one list of words for all methods; the nest words; contexts; contracts; calls -/
def wAll : List Cond := lw_tbl.filter goodWord
theorem wAll_ok : ∀ w ∈ wAll, (w.onTables && w.keeps) = true ∨ ∃ ty, w = .arrayClass ty := fun _ h => good_of_word (List.mem_filter.mp h).2
theorem gC {c' : Cond} (h : c' ∈ wAll) : GoodIn wAll (c' :: wAll) := by
  intro w hw
  rcases List.mem_cons.mp hw with rfl | hw
  · exact ⟨h, wAll_ok _ h⟩
  · exact ⟨hw, wAll_ok _ hw⟩
theorem gV {own C : String} {idx : Nat} {y : MethodName} {c' : Cond} (h1 : Cond.methodLink own idx y ∈ wAll) (h2 : Cond.instanceMethod y ∈ wAll) (h3 : Cond.selects C y y ∈ wAll) (h4 : Cond.initialized C ∈ wAll) (h5 : c' ∈ wAll) : GoodIn wAll (wsV own idx C y (c' :: wAll)) := by
  intro w hw
  unfold wsV at hw
  rcases List.mem_append.mp hw with hw | hw
  · rcases List.mem_cons.mp hw with rfl | hw
    · exact ⟨h1, wAll_ok _ h1⟩
    rcases List.mem_cons.mp hw with rfl | hw
    · exact ⟨h2, wAll_ok _ h2⟩
    rcases List.mem_cons.mp hw with rfl | hw
    · exact ⟨h3, wAll_ok _ h3⟩
    rcases List.mem_cons.mp hw with rfl | hw
    · exact ⟨h4, wAll_ok _ h4⟩
    · exact absurd hw List.not_mem_nil
  · exact gC h5 w hw
theorem gS {own : String} {idx : Nat} {y : MethodName} {c' : Cond} (h1 : Cond.methodLink own idx y ∈ wAll) (h2 : Cond.static y ∈ wAll) (h4 : Cond.initialized y.cls ∈ wAll) (h5 : c' ∈ wAll) : GoodIn wAll (va_wsS own idx y (c' :: wAll)) := by
  intro w hw
  unfold va_wsS at hw
  rcases List.mem_append.mp hw with hw | hw
  · rcases List.mem_cons.mp hw with rfl | hw
    · exact ⟨h1, wAll_ok _ h1⟩
    rcases List.mem_cons.mp hw with rfl | hw
    · exact ⟨h2, wAll_ok _ h2⟩
    rcases List.mem_cons.mp hw with rfl | hw
    · exact ⟨h4, wAll_ok _ h4⟩
    · exact absurd hw List.not_mem_nil
  · exact gC h5 w hw
def isNest : Cond → Bool
  | .fieldLinkNest .. => true
  | .methodLinkNest .. => true
  | _ => false
def nwAll : List Cond := lw_tbl.filter isNest
def nx (U : State) : Prop := ∀ w ∈ nwAll, va_Nw w U
theorem nx_warm {s U : State} (hW : s.WarmedH U.vm) (h : nx s) : nx U := by
  intro w hw
  have h1 := h w hw
  have h2 := (List.mem_filter.mp hw).2
  cases w <;> first | exact va_Nw.warmF hW h1 | exact va_Nw.warmM hW h1 | exact Bool.noConfusion (show false = true from h2)
theorem nx_same {u U : State} (he : u.vm = U.vm) (h : nx u) : nx U := by
  intro w hw
  have h1 := h w hw
  have h2 := (List.mem_filter.mp hw).2
  cases w <;> first | exact va_Nw.same rfl he h1 | exact Bool.noConfusion (show false = true from h2)
theorem nx_of {A : Array Value} {U : State} (h : ∀ w ∈ lw_tbl, w.before A U = true) : nx U := by
  intro w hw
  have h1 := h w (List.mem_filter.mp hw).1
  have h2 := (List.mem_filter.mp hw).2
  cases w <;> first | exact va_Nw.of rfl h1 | exact Bool.noConfusion (show false = true from h2)
theorem bs {α β : Type} {x : Option α} {f : α → Option β} {z : β} (h : x.bind f = some z) : ∃ a, x = some a ∧ f a = some z := by
  cases x with
  | none => cases h
  | some a => exact ⟨a, rfl, h⟩
theorem itT {α : Type} {c : Prop} {d : Decidable c} {a b : Option α} {z : α} (h : @ite _ c d a b = some z) (hc : c) : a = some z := by rw [if_pos hc] at h; exact h
theorem itF {α : Type} {c : Prop} {d : Decidable c} {a b : Option α} {z : α} (h : @ite _ c d a b = some z) (hc : ¬ c) : b = some z := by rw [if_neg hc] at h; exact h
/-- a guard -/
theorem grd {α : Type} {c : Prop} {d : Decidable c} {a : Option α} {z : α} (h : @ite _ c d a none = some z) : c ∧ a = some z := by
  by_cases hc : c
  · rw [if_pos hc] at h; exact ⟨hc, h⟩
  · rw [if_neg hc] at h; cases h
def inB (i : Int32) (n : Nat) : Bool := decide (0 ≤ i.toInt ∧ i.toInt < (n : Int))
theorem inB_in {i : Int32} {n : Nat} (h : inB i n = true) : vp_in i n := vp_in_iff.mpr (of_decide_eq_true h)
def cx (p : Program) (s : State) (m : MethodId) (args : Array Value) (meth : Method) (c : Code) (own : String) (cc : ByteArray) (nL : Nat) (ret : Option FieldType) : Prop :=
  p.tables.exec = Jvm.exec ∧ c.code = cc ∧ meth.sig.returnType = ret ∧ c.maxLocals = nL ∧ s.vm.findClass own = some m.cls ∧ (∀ w ∈ wAll, w.before args s = true) ∧ meth.locks = false
/-- what stays true of the tables and of the literals' cells (none of them in A) -/
def kx (G : va_G) (cB cI : ClassId) (aK aV : Nat → Nat) (A : Nat → Prop) (U : State) : Prop := va_K G classes [(cB, .byte), (cI, .int)] U ∧ nx U ∧ vk_S strN strLen strByt aK aV A U U.heap ∧ ∀ q ∈ strLinks, vk_R q.1 q.2.1 q.2.2.1 (aK q.2.2.2) U
def preW (G : va_G) (cB cI : ClassId) (aK aV : Nat → Nat) (ws : va_W) (sz : Nat) (U : State) : Prop := U.heap.size = sz ∧ va_P G classes ws U.heap ∧ kx G cB cI aK aV (va_A ws sz) U ∧ va_D (fun _ => True) ws
theorem preW_blind {av : List Value} {G : va_G} {cB cI : ClassId} {aK aV : Nat → Nat} {ws : va_W} {sz : Nat} : FrameBlind (va_Pc av (preW G cB cI aK aV ws sz)) := fun a U g mk q => by
  obtain ⟨q0, q1, q2, ⟨q3, q4, q5, q6⟩, q7⟩ := q
  exact ⟨q0, q1, q2, ⟨va_K.moved (u := U) (U := U.calling g mk a) (Vm.Alike.refl U.vm) q3, nx_same (u := U) (U := U.calling g mk a) rfl q4, vk_S.moved (u := U) (U := U.calling g mk a) (Vm.Alike.refl U.vm) q5, fun x hx => vk_R.same (u := U) (U := U.calling g mk a) rfl (q6 x hx)⟩, q7⟩
theorem preW_at {av : List Value} {G : va_G} {cB cI : ClassId} {aK aV : Nat → Nat} {wc : va_W} {A : Nat → Prop} {s : State} {H : Heap} {locs : List Loc} (hK : kx G cB cI aK aV A s) (hS : va_S A s.heap H locs) (hF : ∀ q, va_A wc H.size q → A q) (hP : va_P G classes wc H) (hD : va_D A wc) : ∀ U : State, U.heap = H → s.WarmedH U.vm → va_Pc av (preW G cB cI aK aV wc H.size) av.toArray U := fun U hU hW =>
  ⟨rfl, by rw [hU], by rw [hU]; exact hP, ⟨va_K.moved hW.alike hK.1, nx_warm hW hK.2.1, by rw [hU]; exact vk_S.moved hW.alike ((hK.2.2.1.kept hS.2.1).narrow hF), fun x hx => (hK.2.2.2 x hx).warm hW⟩, hD.weaken (fun _ _ _ _ => trivial)⟩
/-- what a method does: an int comes back | a long | nothing -/
def Qi (G : va_G) (ws' : va_W) (A : Nat → Prop) (r : Int32) : Array Value → State → Outcome → State → Prop := va_Qi (fun x (_ : Unit) => x = r) (fun _ t => va_P G classes ws' t.heap ∧ va_D A ws') A
def Ql (G : va_G) (ws' : va_W) (A : Nat → Prop) (r : Int64) : Array Value → State → Outcome → State → Prop := va_Ql (fun x (_ : Unit) => x = r) (fun _ t => va_P G classes ws' t.heap ∧ va_D A ws') A
def Qv (G : va_G) (ws' : va_W) (A : Nat → Prop) : Array Value → State → Outcome → State → Prop := va_Qv (fun (_ : Unit) => True) (fun _ t => va_P G classes ws' t.heap ∧ va_D A ws') A
/-- a constructor: some world comes -/
def Qn {α : Type} (G : va_G) (ws' : α → va_W) (A : Nat → Prop) : Array Value → State → Outcome → State → Prop := va_Qv (fun (_ : Unit) => True) (fun _ t => ∃ q : α, va_P G classes (ws' q) t.heap ∧ va_D A (ws' q)) A
def Ci (l : Launch) (y : MethodName) (cc : ByteArray) (nL : Nat) (ret : Option FieldType) (rm : Room) (G : va_G) (cB cI : ClassId) (aK aV : Nat → Nat) (av : List Value) (ws : va_W) (Q : (Nat → Prop) → Array Value → State → Outcome → State → Prop) : Prop :=
  ∀ sz : Nat, Met l y (Cond.code y cc nL ret :: wAll) rm (va_Pc av (preW G cB cI aK aV ws sz)) (Q (va_A ws sz)) rm.cells rm.slots (va_A ws sz)
theorem Ci_of {l : Launch} {y : MethodName} {cc : ByteArray} {nL : Nat} {ret : Option FieldType} {rm : Room} {G : va_G} {cB cI : ClassId} {aK aV : Nat → Nat} {av : List Value} {ws : va_W} {Q : (Nat → Prop) → Array Value → State → Outcome → State → Prop} (hy : plainName y.cls = true) (hn : (lg_sl av).length ≤ nL)
    (body : ∀ (p : Program) (e : Env) (s : State) (m : MethodId) (below : List Frame) (meth : Method) (c : Code) (A : Nat → Prop), cx p s m av.toArray meth c y.cls cc nL ret → kx G cB cI aK aV A s → meth.name = y.name → (∀ q : Nat, s.heap.size ≤ q → A q) → va_P G classes ws s.heap → va_D A ws → ∀ ls : Array Slot, lv_has ls nL (lv_args 0 av) →
      W p l e rm s m av.toArray below meth c s.heap [] 0 0 (MQ below (Q A) av.toArray s rm.cells rm.slots A) (F0 m 0 ls [])) : Ci l y cc nL ret rm G cB cI aK aV av ws Q := by
  intro sz
  refine Met.ofW (cc := cc) (maxL := nL) (ret := ret) hy rfl ?_
  intro p e s m args below meth c s₁ B hml hv
  obtain ⟨rfl, hsz, hP, hK, hD0⟩ := hv
  have hts := atoms_spec (ws := Cond.code y cc nL ret :: wAll) B.pre
  subst hsz
  rw [lg_entry_eq]
  exact body p e s m below meth c (va_A ws s.heap.size) ⟨B.exec, B.bytes, B.returns, hml, findClass_of_methodNamed B.named, fun w hw => hts w (List.mem_cons_of_mem _ hw), B.notSynchronized⟩ hK (name_of_methodNamed B.named B.method).1 (fun q h => Or.inr h) hP (hD0.self (sz := s.heap.size)) _ (lv_entry av hn)
theorem va_P_perm {D : va_G} {cl : List vw_C} {ws ws' : va_W} {H : Heap} (h : va_P D cl ws H) (is : List Nat) (hs : is.map (fun i => ws[i]?) = ws'.map some) : va_P D cl ws' H := by
  intro k q hk
  have h1 : (is.map (fun i => ws[i]?))[k]? = some (some q) := by rw [hs, List.getElem?_map, hk]; rfl
  rw [List.getElem?_map] at h1
  cases hi : is[k]? with
  | none => rw [hi] at h1; cases h1
  | some i => rw [hi] at h1; exact h i q (Option.some.inj h1)
section GO
variable {p : Program} {l : Launch} {e : Env} {R : Room} {s : State} {m : MethodId} {args : Array Value} {below : List Frame} {meth : Method} {c : Code} {H : Heap} {locs : List Loc} {cells slots : Nat} {Q : State → Prop}
variable {pc : Nat} {ls : Array Slot} {rest st0 : List Value} {a : Array Value} {A : Nat → Prop} {G : va_G} {ws wc wr w1 ws2 : va_W}
theorem go_i {r : Int32} (hP : va_P G classes ws H) (hD : va_D A ws) (hS : va_S A s.heap H locs) (hA : ∀ q, s.heap.size ≤ q → A q) (isC isR isP : List Nat) (hC : isC.map (fun i => ws[i]?) = wc.map some) (hnc : va_nd isC = true) (hR : isR.map (fun i => ws[i]?) = wr.map some) (hn : va_nd isR = true) (hdis : ∀ i ∈ isR, i ∉ isC) (hp2 : isP.map (fun i => (wr ++ w1)[i]?) = ws2.map some) (hnp : va_nd isP = true)
    (hr : va_P G classes wc H → va_D A wc → (∀ q, va_A wc H.size q → A q) → va_Run p l e R s m args below meth c H locs cells slots 0 0 (F0 m pc ls st0) rest (Qi G w1 (va_A wc H.size) r a) (va_A wc H.size))
    (kk : ∀ (H : Heap) (locs : List Loc), va_P G classes ws2 H → va_D A ws2 → va_S A s.heap H locs → W p l e R s m args below meth c H locs cells slots Q (F0 m (pc + 3) ls (.int r :: rest))) : W p l e R s m args below meth c H locs cells slots Q (F0 m pc ls st0) := by
  have hFc := va_free (wc := wc) hD hS hA isC hC
  refine va_calli (hr (va_P_perm hP isC hC) (hD.sub isC hnc hC) hFc) hS (fun q _ h => hFc q h) hFc (fun r' u t H1 locs1 ht hvm hw hB hz1 hk1 hS1 => ?_)
  subst hw
  obtain ⟨hP1, hD1⟩ := hB
  rw [ht] at hP1
  obtain ⟨hP2, hD2⟩ := va_join hP hD isC isR hC hR hn hdis hk1 hFc hP1 hD1
  exact kk H1 locs1 (va_P_perm hP2 isP hp2) (hD2.sub isP hnp hp2) hS1
theorem go_l {r : Int64} (hP : va_P G classes ws H) (hD : va_D A ws) (hS : va_S A s.heap H locs) (hA : ∀ q, s.heap.size ≤ q → A q) (isC isR isP : List Nat) (hC : isC.map (fun i => ws[i]?) = wc.map some) (hnc : va_nd isC = true) (hR : isR.map (fun i => ws[i]?) = wr.map some) (hn : va_nd isR = true) (hdis : ∀ i ∈ isR, i ∉ isC) (hp2 : isP.map (fun i => (wr ++ w1)[i]?) = ws2.map some) (hnp : va_nd isP = true)
    (hr : va_P G classes wc H → va_D A wc → (∀ q, va_A wc H.size q → A q) → va_Run p l e R s m args below meth c H locs cells slots 0 0 (F0 m pc ls st0) rest (Ql G w1 (va_A wc H.size) r a) (va_A wc H.size))
    (kk : ∀ (H : Heap) (locs : List Loc), va_P G classes ws2 H → va_D A ws2 → va_S A s.heap H locs → W p l e R s m args below meth c H locs cells slots Q (F0 m (pc + 3) ls (.long r :: rest))) : W p l e R s m args below meth c H locs cells slots Q (F0 m pc ls st0) := by
  have hFc := va_free (wc := wc) hD hS hA isC hC
  refine va_calll (hr (va_P_perm hP isC hC) (hD.sub isC hnc hC) hFc) hS (fun q _ h => hFc q h) hFc (fun r' u t H1 locs1 ht hvm hw hB hz1 hk1 hS1 => ?_)
  subst hw
  obtain ⟨hP1, hD1⟩ := hB
  rw [ht] at hP1
  obtain ⟨hP2, hD2⟩ := va_join hP hD isC isR hC hR hn hdis hk1 hFc hP1 hD1
  exact kk H1 locs1 (va_P_perm hP2 isP hp2) (hD2.sub isP hnp hp2) hS1
theorem go_v (hP : va_P G classes ws H) (hD : va_D A ws) (hS : va_S A s.heap H locs) (hA : ∀ q, s.heap.size ≤ q → A q) (isC isR isP : List Nat) (hC : isC.map (fun i => ws[i]?) = wc.map some) (hnc : va_nd isC = true) (hR : isR.map (fun i => ws[i]?) = wr.map some) (hn : va_nd isR = true) (hdis : ∀ i ∈ isR, i ∉ isC) (hp2 : isP.map (fun i => (wr ++ w1)[i]?) = ws2.map some) (hnp : va_nd isP = true)
    (hr : va_P G classes wc H → va_D A wc → (∀ q, va_A wc H.size q → A q) → va_Run p l e R s m args below meth c H locs cells slots 0 0 (F0 m pc ls st0) rest (Qv G w1 (va_A wc H.size) a) (va_A wc H.size))
    (kk : ∀ (H : Heap) (locs : List Loc), va_P G classes ws2 H → va_D A ws2 → va_S A s.heap H locs → W p l e R s m args below meth c H locs cells slots Q (F0 m (pc + 3) ls rest)) : W p l e R s m args below meth c H locs cells slots Q (F0 m pc ls st0) := by
  have hFc := va_free (wc := wc) hD hS hA isC hC
  refine va_callv (hr (va_P_perm hP isC hC) (hD.sub isC hnc hC) hFc) hS (fun q _ h => hFc q h) hFc (fun u t H1 locs1 ht hvm hw hB hz1 hk1 hS1 => ?_)
  obtain ⟨hP1, hD1⟩ := hB
  rw [ht] at hP1
  obtain ⟨hP2, hD2⟩ := va_join hP hD isC isR hC hR hn hdis hk1 hFc hP1 hD1
  exact kk H1 locs1 (va_P_perm hP2 isP hp2) (hD2.sub isP hnp hp2) hS1
/-- a constructor: the callee's world w1 q for some q -/
theorem go_n {α : Type} {mc ms : Nat} {w1 : α → va_W} {ws2 : α → va_W} (hP : va_P G classes ws H) (hD : va_D A ws) (hS : va_S A s.heap H locs) (hA : ∀ q, s.heap.size ≤ q → A q) (isC isR isP : List Nat) (hC : isC.map (fun i => ws[i]?) = wc.map some) (hnc : va_nd isC = true) (hR : isR.map (fun i => ws[i]?) = wr.map some) (hn : va_nd isR = true) (hdis : ∀ i ∈ isR, i ∉ isC) (hp2 : ∀ q, isP.map (fun i => (wr ++ w1 q)[i]?) = (ws2 q).map some) (hnp : va_nd isP = true)
    (hr : va_P G classes wc H → va_D A wc → (∀ q, va_A wc H.size q → A q) → va_Run p l e R s m args below meth c H locs cells slots mc ms (F0 m pc ls st0) rest (Qn G w1 (va_A wc H.size) a) (va_A wc H.size))
    (kk : ∀ (q : α) (H : Heap) (locs : List Loc), va_P G classes (ws2 q) H → va_D A (ws2 q) → va_S A s.heap H locs → W p l e R s m args below meth c H locs (cells + mc) (slots + ms) Q (F0 m (pc + 3) ls rest)) : W p l e R s m args below meth c H locs cells slots Q (F0 m pc ls st0) := by
  have hFc := va_free (wc := wc) hD hS hA isC hC
  refine va_callv (hr (va_P_perm hP isC hC) (hD.sub isC hnc hC) hFc) hS (fun q _ h => hFc q h) hFc (fun u t H1 locs1 ht hvm hw hB hz1 hk1 hS1 => ?_)
  obtain ⟨q, hP1, hD1⟩ := hB
  rw [ht] at hP1
  obtain ⟨hP2, hD2⟩ := va_join hP hD isC isR hC hR hn hdis hk1 hFc hP1 hD1
  exact kk q H1 locs1 (va_P_perm hP2 isP (hp2 q)) (hD2.sub isP hnp (hp2 q)) hS1
end GO
section RN
variable {p : Program} {l : Launch} {e : Env} {R : Room} {s : State} {m : MethodId} {args : Array Value} {below : List Frame} {meth : Method} {c : Code} {H : Heap} {locs : List Loc} {cells slots : Nat}
variable {pc : Nat} {ls : Array Slot} {rest st0 : List Value} {A : Nat → Prop} {G : va_G} {cB cI : ClassId} {aK aV : Nat → Nat} {wc : va_W}
variable {own : String} {cc ccM : ByteArray} {nL maxL idx : Nat} {y : MethodName} {rt ret : Option FieldType} {rm : Room} {Qc : Array Value → State → Outcome → State → Prop} {free : Addr → Prop} {b : Nat} {As : List Value}
def okM (y : MethodName) (cc : ByteArray) (maxL : Nat) (ret : Option FieldType) (n : Nat) : Prop := Cond.instanceMethod y ∈ wAll ∧ Cond.selects y.cls y y ∈ wAll ∧ Cond.initialized y.cls ∈ wAll ∧ Cond.code y cc maxL ret ∈ wAll ∧ (y.cls ≠ "java/lang/invoke/MethodHandle" ∧ y.cls ≠ "java/lang/invoke/VarHandle" ∧ (parseMethodDescriptor y.desc).map (fun d => d.parameters.length) = some n)
def okS (y : MethodName) (cc : ByteArray) (maxL : Nat) (ret : Option FieldType) (n : Nat) : Prop := Cond.static y ∈ wAll ∧ Cond.initialized y.cls ∈ wAll ∧ Cond.code y cc maxL ret ∈ wAll ∧ (y.cls ≠ "java/lang/invoke/MethodHandle" ∧ y.cls ≠ "java/lang/invoke/VarHandle" ∧ (parseMethodDescriptor y.desc).map (fun d => d.parameters.length) = some n)
def okN (y : MethodName) (cc : ByteArray) (maxL : Nat) (n : Nat) : Prop := Cond.instanceMethod y ∈ wAll ∧ Cond.initialized y.cls ∈ wAll ∧ Cond.code y cc maxL none ∈ wAll ∧ (y.cls ≠ "java/lang/invoke/MethodHandle" ∧ y.cls ≠ "java/lang/invoke/VarHandle" ∧ (parseMethodDescriptor y.desc).map (fun d => d.parameters.length) = some n) ∧ y.name = "<init>"
theorem rn_V {ci : Nat} {q : vw_C} {fs : List Value} (C : cx p s m args meth c own cc nL rt) (hK : kx G cB cI aK aV A s) (hM : Met l y (Cond.code y ccM maxL ret :: wAll) rm (va_Pc (.ref b :: As) (preW G cB cI aK aV wc H.size)) Qc rm.cells rm.slots free) (hrm : rm.cells = 0 ∧ rm.slots = 0) (h1 : Cond.methodLink own idx y ∈ wAll) (ho : okM y ccM maxL ret As.length)
    (hR : rm.frames + 1 ≤ R.frames ∧ 8 + (maxL + 11) + rm.locals ≤ R.locals) (hq : classes[ci]? = some q) (hqn : q.1 = y.cls) (hw0 : wc[0]? = some (b, .inr (ci, fs))) (hls : ls.size = nL) (hst : st0 = As.reverse ++ .ref b :: rest) (hrest : (rest.map fun v => v.category).sum ≤ 8) (hdg : decode cc pc = .ok (.invokevirtual idx, 3)) (hf : cells ≤ R.cells ∧ slots ≤ R.slots)
    (hS : va_S A s.heap H locs) (hP : va_P G classes wc H) (hD : va_D A wc) (hF : ∀ q, va_A wc H.size q → A q) : va_Run p l e R s m args below meth c H locs cells slots 0 0 (F0 m pc ls st0) rest (Qc (Value.ref b :: As).toArray) free := by
  obtain ⟨hx, hb, -, hml, hown, hts, -⟩ := C
  obtain ⟨o1, o2, o3, o4, o5⟩ := ho
  rw [hrm.1, hrm.2] at hM
  exact va_runV (Ts := wAll) ⟨hx, hb, hml, hown, hts⟩ hM (cwV As.length hts (gV h1 o1 o2 o3 o4) rfl hrm.1 hrm.2 ⟨rfl, o5⟩ hR) ⟨preW_blind, by rw [← hqn]; exact va_recv hK.1 hP hq hw0, preW_at hK hS hF hP hD⟩ rfl rfl hls hst (lv_room (m := m) (pc := pc) (ls := ls) (rest := st0) hrest) hdg hf
theorem rn_VS (C : cx p s m args meth c own cc nL rt) (hK : kx G cB cI aK aV A s) (hM : Met l y (Cond.code y ccM maxL ret :: wAll) rm (va_Pc (.ref b :: As) (preW G cB cI aK aV wc H.size)) Qc rm.cells rm.slots free) (hrm : rm.cells = 0 ∧ rm.slots = 0) (h1 : Cond.methodLink own idx y ∈ wAll) (ho : okM y ccM maxL ret As.length)
    (hR : rm.frames + 1 ≤ R.frames ∧ 8 + (maxL + 11) + rm.locals ≤ R.locals) (hrecv : ∃ cell : Cell, H[b]? = some cell ∧ cell.vm.isStatics = false ∧ s.vm.findClass y.cls = some cell.cls) (hls : ls.size = nL) (hst : st0 = As.reverse ++ .ref b :: rest) (hrest : (rest.map fun v => v.category).sum ≤ 8) (hdg : decode cc pc = .ok (.invokevirtual idx, 3)) (hf : cells ≤ R.cells ∧ slots ≤ R.slots)
    (hS : va_S A s.heap H locs) (hP : va_P G classes wc H) (hD : va_D A wc) (hF : ∀ q, va_A wc H.size q → A q) : va_Run p l e R s m args below meth c H locs cells slots 0 0 (F0 m pc ls st0) rest (Qc (Value.ref b :: As).toArray) free := by
  obtain ⟨hx, hb, -, hml, hown, hts, -⟩ := C
  obtain ⟨o1, o2, o3, o4, o5⟩ := ho
  rw [hrm.1, hrm.2] at hM
  exact va_runV (Ts := wAll) ⟨hx, hb, hml, hown, hts⟩ hM (cwV As.length hts (gV h1 o1 o2 o3 o4) rfl hrm.1 hrm.2 ⟨rfl, o5⟩ hR) ⟨preW_blind, hrecv, preW_at hK hS hF hP hD⟩ rfl rfl hls hst (lv_room (m := m) (pc := pc) (ls := ls) (rest := st0) hrest) hdg hf
theorem rn_VN {ci : Nat} {q : vw_C} {fs : List Value} {host : String} (C : cx p s m args meth c own cc nL rt) (hK : kx G cB cI aK aV A s) (hM : Met l y (Cond.code y ccM maxL ret :: wAll) rm (va_Pc (.ref b :: As) (preW G cB cI aK aV wc H.size)) Qc rm.cells rm.slots free) (hrm : rm.cells = 0 ∧ rm.slots = 0) (h1 : Cond.methodLinkNest own idx y host ∈ nwAll) (ho : okM y ccM maxL ret As.length)
    (hR : rm.frames + 1 ≤ R.frames ∧ 8 + (maxL + 11) + rm.locals ≤ R.locals) (hq : classes[ci]? = some q) (hqn : q.1 = y.cls) (hw0 : wc[0]? = some (b, .inr (ci, fs))) (hls : ls.size = nL) (hst : st0 = As.reverse ++ .ref b :: rest) (hrest : (rest.map fun v => v.category).sum ≤ 8) (hdg : decode cc pc = .ok (.invokevirtual idx, 3)) (hf : cells ≤ R.cells ∧ slots ≤ R.slots)
    (hS : va_S A s.heap H locs) (hP : va_P G classes wc H) (hD : va_D A wc) (hF : ∀ q, va_A wc H.size q → A q) : va_Run p l e R s m args below meth c H locs cells slots 0 0 (F0 m pc ls st0) rest (Qc (Value.ref b :: As).toArray) free := by
  obtain ⟨hx, hb, -, hml, hown, hts, -⟩ := C
  obtain ⟨o1, o2, o3, o4, o5⟩ := ho
  rw [hrm.1, hrm.2] at hM
  exact va_runVN (Ts := wAll) ⟨hx, hb, hml, hown, hts⟩ hM ⟨va_cnB As.length hts (gC o4) rfl hrm.1 hrm.2 (hK.2.1 _ h1) (hts _ o3) o5 hR, hts _ o1, hts _ o2⟩ ⟨preW_blind, by rw [← hqn]; exact va_recv hK.1 hP hq hw0, preW_at hK hS hF hP hD⟩ rfl rfl hls hst (lv_room (m := m) (pc := pc) (ls := ls) (rest := st0) hrest) hdg hf
theorem rn_S (C : cx p s m args meth c own cc nL rt) (hK : kx G cB cI aK aV A s) (hM : Met l y (Cond.code y ccM maxL ret :: wAll) rm (va_Pc As (preW G cB cI aK aV wc H.size)) Qc rm.cells rm.slots free) (hrm : rm.cells = 0 ∧ rm.slots = 0) (h1 : Cond.methodLink own idx y ∈ wAll) (ho : okS y ccM maxL ret As.length)
    (hR : rm.frames + 1 ≤ R.frames ∧ 8 + (maxL + 11) + rm.locals ≤ R.locals) (hls : ls.size = nL) (hst : st0 = As.reverse ++ rest) (hrest : (rest.map fun v => v.category).sum ≤ 8) (hdg : decode cc pc = .ok (.invokestatic idx, 3)) (hf : cells ≤ R.cells ∧ slots ≤ R.slots)
    (hS : va_S A s.heap H locs) (hP : va_P G classes wc H) (hD : va_D A wc) (hF : ∀ q, va_A wc H.size q → A q) : va_Run p l e R s m args below meth c H locs cells slots 0 0 (F0 m pc ls st0) rest (Qc As.toArray) free := by
  obtain ⟨hx, hb, -, hml, hown, hts, -⟩ := C
  obtain ⟨o1, o3, o4, o5⟩ := ho
  rw [hrm.1, hrm.2] at hM
  exact va_runS (Ts := wAll) ⟨hx, hb, hml, hown, hts⟩ hM (va_cwS As.length hts (gS h1 o1 o3 o4) rfl hrm.1 hrm.2 o5 hR) ⟨preW_blind, preW_at hK hS hF hP hD⟩ rfl rfl hls hst (lv_room (m := m) (pc := pc) (ls := ls) (rest := st0) hrest) hdg hf
theorem rn_SN {host : String} (C : cx p s m args meth c own cc nL rt) (hK : kx G cB cI aK aV A s) (hM : Met l y (Cond.code y ccM maxL ret :: wAll) rm (va_Pc As (preW G cB cI aK aV wc H.size)) Qc rm.cells rm.slots free) (hrm : rm.cells = 0 ∧ rm.slots = 0) (h1 : Cond.methodLinkNest own idx y host ∈ nwAll) (ho : okS y ccM maxL ret As.length)
    (hR : rm.frames + 1 ≤ R.frames ∧ 8 + (maxL + 11) + rm.locals ≤ R.locals) (hls : ls.size = nL) (hst : st0 = As.reverse ++ rest) (hrest : (rest.map fun v => v.category).sum ≤ 8) (hdg : decode cc pc = .ok (.invokestatic idx, 3)) (hf : cells ≤ R.cells ∧ slots ≤ R.slots)
    (hS : va_S A s.heap H locs) (hP : va_P G classes wc H) (hD : va_D A wc) (hF : ∀ q, va_A wc H.size q → A q) : va_Run p l e R s m args below meth c H locs cells slots 0 0 (F0 m pc ls st0) rest (Qc As.toArray) free := by
  obtain ⟨hx, hb, -, hml, hown, hts, -⟩ := C
  obtain ⟨o1, o3, o4, o5⟩ := ho
  rw [hrm.1, hrm.2] at hM
  exact va_runSN (Ts := wAll) ⟨hx, hb, hml, hown, hts⟩ hM ⟨va_cnB As.length hts (gC o4) rfl hrm.1 hrm.2 (hK.2.1 _ h1) (hts _ o3) o5 hR, hts _ o1, trivial⟩ ⟨preW_blind, preW_at hK hS hF hP hD⟩ rfl rfl hls hst (lv_room (m := m) (pc := pc) (ls := ls) (rest := st0) hrest) hdg hf
theorem rn_I (C : cx p s m args meth c own cc nL rt) (hK : kx G cB cI aK aV A s) (hM : Met l y (Cond.code y ccM maxL none :: wAll) rm (va_Pc (.ref b :: As) (preW G cB cI aK aV wc H.size)) Qc rm.cells rm.slots free) (h1 : Cond.methodLink own idx y ∈ wAll) (ho : okN y ccM maxL As.length)
    (hR : rm.frames + 1 ≤ R.frames ∧ 8 + (maxL + 11) + rm.locals ≤ R.locals) (hls : ls.size = nL) (hst : st0 = As.reverse ++ .ref b :: rest) (hrest : (rest.map fun v => v.category).sum ≤ 8) (hdg : decode cc pc = .ok (.invokespecial idx, 3)) (hf : cells + rm.cells ≤ R.cells ∧ slots + rm.slots ≤ R.slots)
    (hS : va_S A s.heap H locs) (hP : va_P G classes wc H) (hD : va_D A wc) (hF : ∀ q, va_A wc H.size q → A q) : va_Run p l e R s m args below meth c H locs cells slots rm.cells rm.slots (F0 m pc ls st0) rest (Qc (Value.ref b :: As).toArray) free := by
  obtain ⟨hx, hb, -, hml, hown, hts, -⟩ := C
  obtain ⟨o1, o3, o4, o5, o6⟩ := ho
  exact va_runI (Ts := wAll) ⟨hx, hb, hml, hown, hts⟩ hM (cwI As.length hts (gC o4) rfl rfl rfl (hts _ o3) (hts _ h1) (hts _ o1) o6 o5 hR) ⟨preW_blind, preW_at hK hS hF hP hD⟩ rfl rfl hls hst (lv_room (m := m) (pc := pc) (ls := ls) (rest := st0) hrest) hdg hf
theorem rn_IN {host : String} (C : cx p s m args meth c own cc nL rt) (hK : kx G cB cI aK aV A s) (hM : Met l y (Cond.code y ccM maxL none :: wAll) rm (va_Pc (.ref b :: As) (preW G cB cI aK aV wc H.size)) Qc rm.cells rm.slots free) (h1 : Cond.methodLinkNest own idx y host ∈ nwAll) (ho : okN y ccM maxL As.length)
    (hR : rm.frames + 1 ≤ R.frames ∧ 8 + (maxL + 11) + rm.locals ≤ R.locals) (hls : ls.size = nL) (hst : st0 = As.reverse ++ .ref b :: rest) (hrest : (rest.map fun v => v.category).sum ≤ 8) (hdg : decode cc pc = .ok (.invokespecial idx, 3)) (hf : cells + rm.cells ≤ R.cells ∧ slots + rm.slots ≤ R.slots)
    (hS : va_S A s.heap H locs) (hP : va_P G classes wc H) (hD : va_D A wc) (hF : ∀ q, va_A wc H.size q → A q) : va_Run p l e R s m args below meth c H locs cells slots rm.cells rm.slots (F0 m pc ls st0) rest (Qc (Value.ref b :: As).toArray) free := by
  obtain ⟨hx, hb, -, hml, hown, hts, -⟩ := C
  obtain ⟨o1, o3, o4, o5, o6⟩ := ho
  exact va_runIN (Ts := wAll) ⟨hx, hb, hml, hown, hts⟩ hM ⟨va_cnB As.length hts (gC o4) rfl rfl rfl (hK.2.1 _ h1) (hts _ o3) o5 hR, o6, hts _ o1⟩ ⟨preW_blind, preW_at hK hS hF hP hD⟩ rfl rfl hls hst (lv_room (m := m) (pc := pc) (ls := ls) (rest := st0) hrest) hdg hf
end RN
def bz (v : Int32) : Bool := decide (v = 0 ∨ v = 1)
theorem bz_n {v : Int32} (h : bz v = true) : narrow .boolean (.int v) = .int v := by
  rcases of_decide_eq_true h with rfl | rfl <;> rfl
theorem bz_f {v : Int32} (h : bz v = true) : fits .boolean (.int v) = true := by
  rcases of_decide_eq_true h with rfl | rfl <;> rfl
section NA
variable {p : Program} {l : Launch} {e : Env} {R : Room} {s : State} {m : MethodId} {args : Array Value} {below : List Frame} {meth : Method} {c : Code} {H : Heap} {locs : List Loc} {cells slots : Nat} {Q : State → Prop}
variable {cc : ByteArray} {pc : Nat} {ls : Array Slot} {rest : List Value} {A : Nat → Prop} {G : va_G} {cB cI : ClassId} {aK aV : Nat → Nat} {ws : va_W}
theorem na_B (hx : p.tables.exec = Jvm.exec) (hb : c.code = cc) (harr : (Cond.arrayClass .byte).before args s = true) (hK : kx G cB cI aK aV A s) (hP : va_P G classes ws H) (hD : va_D A ws) (hS : va_S A s.heap H locs) (hA : ∀ q, s.heap.size ≤ q → A q) {n : Int32} {N' : Nat} (hn : ¬ n < 0) (hN : n.toNatClampNeg = N') (hby : N' ≤ 536870912) (hcells : cells + 1 ≤ R.cells) (hslots : slots + N' ≤ R.slots) (hdg : decode cc pc = .ok (.newarray .byte, 2))
    (kk : ∀ (q : Nat) (H : Heap), va_P G classes (ws ++ [(q, .inl (cB, N', .inl (fun _ => 0)))]) H → va_D A (ws ++ [(q, .inl (cB, N', .inl (fun _ => 0)))]) → va_S A s.heap H locs → W p l e R s m args below meth c H locs (cells + 1) (slots + N') Q (F0 m (pc + 2) ls (.ref q :: rest))) : W p l e R s m args below meth c H locs cells slots Q (F0 m pc ls (.int n :: rest)) := by
  refine va_newa (atype := .byte) (ty := .byte) (a0 := (N', .inl (fun _ => 0))) hx hb harr rfl hK.1 hP hD hS hA (fun _ => rfl) hn hN (by show N' * 1 ≤ _; omega) hcells hslots hdg (fun q cA H1 hK1 hP1 hD1 hS1 => ?_)
  have e1 : s.vm.findClass _ = some cB := (hK1.2 0 _ rfl).2
  have e2 : s.vm.findClass _ = some cA := (hK1.2 2 _ rfl).2
  obtain rfl : cA = cB := Option.some.inj (e2.symm.trans e1)
  exact kk q H1 hP1 hD1 hS1
theorem na_I (hx : p.tables.exec = Jvm.exec) (hb : c.code = cc) (harr : (Cond.arrayClass .int).before args s = true) (hK : kx G cB cI aK aV A s) (hP : va_P G classes ws H) (hD : va_D A ws) (hS : va_S A s.heap H locs) (hA : ∀ q, s.heap.size ≤ q → A q) {n : Int32} {N' : Nat} (hn : ¬ n < 0) (hN : n.toNatClampNeg = N') (hby : N' ≤ 1000000) (hcells : cells + 1 ≤ R.cells) (hslots : slots + N' ≤ R.slots) (hdg : decode cc pc = .ok (.newarray .int, 2))
    (kk : ∀ (q : Nat) (H : Heap), va_P G classes (ws ++ [(q, .inl (cI, N', .inl (fun _ => 0)))]) H → va_D A (ws ++ [(q, .inl (cI, N', .inl (fun _ => 0)))]) → va_S A s.heap H locs → W p l e R s m args below meth c H locs (cells + 1) (slots + N') Q (F0 m (pc + 2) ls (.ref q :: rest))) : W p l e R s m args below meth c H locs cells slots Q (F0 m pc ls (.int n :: rest)) := by
  refine va_newa (atype := .int) (ty := .int) (a0 := (N', .inl (fun _ => 0))) hx hb harr rfl hK.1 hP hD hS hA (fun _ => rfl) hn hN (by show N' * 4 ≤ _; omega) hcells hslots hdg (fun q cA H1 hK1 hP1 hD1 hS1 => ?_)
  have e1 : s.vm.findClass _ = some cI := (hK1.2 1 _ rfl).2
  have e2 : s.vm.findClass _ = some cA := (hK1.2 2 _ rfl).2
  obtain rfl : cA = cI := Option.some.inj (e2.symm.trans e1)
  exact kk q H1 hP1 hD1 hS1
end NA
end
section
theorem in_Ad : ∀ w ∈ u_ws R_Ad F_Ad 9, w ∈ wAll := by decide +kernel
theorem in_He : ∀ w ∈ u_ws R_He F_He 3, w ∈ wAll := by decide +kernel
theorem in_Me : ∀ w ∈ u_ws R_Me F_Me 2, w ∈ wAll := by decide +kernel
theorem in_Te : ∀ w ∈ u_ws R_Te F_Te 6, w ∈ wAll := by decide +kernel
theorem in_De : ∀ w ∈ u_ws R_De F_De 3, w ∈ wAll := by decide +kernel
theorem in_Mo : ∀ w ∈ u_ws R_Mo F_Mo 12, w ∈ wAll := by decide +kernel
theorem m_1 : (Cond.initialized "HeaderDesk") ∈ wAll := List.mem_filter.mpr ⟨List.mem_append_right _ (List.mem_of_getElem? (i := 1) (by decide +kernel)), by decide +kernel⟩
theorem m_2 : (Cond.initialized "HeaderDesk$Message") ∈ wAll := List.mem_filter.mpr ⟨List.mem_append_right _ (List.mem_of_getElem? (i := 2) (by decide +kernel)), by decide +kernel⟩
theorem m_19 : (Cond.instanceMethod ({ cls := "java/lang/Object", name := "<init>", desc := "()V" } : Jvm.MethodName)) ∈ wAll := List.mem_filter.mpr ⟨List.mem_append_right _ (List.mem_of_getElem? (i := 19) (by decide +kernel)), by decide +kernel⟩
theorem m_20 : (Cond.code ({ cls := "java/lang/Object", name := "<init>", desc := "()V" } : Jvm.MethodName) object_method_1_code (1 : Nat) (Option.none : Option Jvm.ClassFile.FieldType)) ∈ wAll := List.mem_filter.mpr ⟨List.mem_append_right _ (List.mem_of_getElem? (i := 20) (by decide +kernel)), by decide +kernel⟩
theorem m_24 : (Cond.instanceMethod ({ cls := "HeaderDesk$Message", name := "<init>", desc := "()V" } : Jvm.MethodName)) ∈ wAll := List.mem_filter.mpr ⟨List.mem_append_right _ (List.mem_of_getElem? (i := 24) (by decide +kernel)), by decide +kernel⟩
theorem m_25 : (Cond.code ({ cls := "HeaderDesk$Message", name := "<init>", desc := "()V" } : Jvm.MethodName) prog_4_method_1_code (1 : Nat) (Option.none : Option Jvm.ClassFile.FieldType)) ∈ wAll := List.mem_filter.mpr ⟨List.mem_append_right _ (List.mem_of_getElem? (i := 25) (by decide +kernel)), by decide +kernel⟩
theorem m_26 : (Cond.methodLink "HeaderDesk$Message" (3 : Nat) ({ cls := "java/lang/Object", name := "<init>", desc := "()V" } : Jvm.MethodName)) ∈ wAll := List.mem_filter.mpr ⟨List.mem_append_right _ (List.mem_of_getElem? (i := 26) (by decide +kernel)), by decide +kernel⟩
theorem m_27 : (Cond.fieldLink "HeaderDesk$Message" (9 : Nat) "HeaderDesk$Message" "row" "[B") ∈ wAll := List.mem_filter.mpr ⟨List.mem_append_right _ (List.mem_of_getElem? (i := 27) (by decide +kernel)), by decide +kernel⟩
theorem m_28 : (Cond.fieldLink "HeaderDesk$Message" (15 : Nat) "HeaderDesk$Message" "size" "I") ∈ wAll := List.mem_filter.mpr ⟨List.mem_append_right _ (List.mem_of_getElem? (i := 28) (by decide +kernel)), by decide +kernel⟩
theorem m_36 : (Cond.arrayClass Jvm.ClassFile.FieldType.byte) ∈ wAll := List.mem_filter.mpr ⟨List.mem_append_right _ (List.mem_of_getElem? (i := 36) (by decide +kernel)), by decide +kernel⟩
theorem m_139 : (Cond.instanceMethod ({ cls := "HeaderDesk$Message", name := "append", desc := "(I)V" } : Jvm.MethodName)) ∈ wAll := List.mem_filter.mpr ⟨List.mem_append_right _ (List.mem_of_getElem? (i := 139) (by decide +kernel)), by decide +kernel⟩
theorem m_140 : (Cond.code ({ cls := "HeaderDesk$Message", name := "append", desc := "(I)V" } : Jvm.MethodName) prog_4_method_3_code (2 : Nat) (Option.none : Option Jvm.ClassFile.FieldType)) ∈ wAll := List.mem_filter.mpr ⟨List.mem_append_right _ (List.mem_of_getElem? (i := 140) (by decide +kernel)), by decide +kernel⟩
theorem m_159 : (Cond.instanceMethod ({ cls := "HeaderDesk$Message", name := "endOfName", desc := "(I)I" } : Jvm.MethodName)) ∈ wAll := List.mem_filter.mpr ⟨List.mem_append_right _ (List.mem_of_getElem? (i := 159) (by decide +kernel)), by decide +kernel⟩
theorem m_160 : (Cond.code ({ cls := "HeaderDesk$Message", name := "endOfName", desc := "(I)I" } : Jvm.MethodName) prog_4_method_6_code (3 : Nat) (Option.some Jvm.ClassFile.FieldType.int)) ∈ wAll := List.mem_filter.mpr ⟨List.mem_append_right _ (List.mem_of_getElem? (i := 160) (by decide +kernel)), by decide +kernel⟩
theorem m_161 : (Cond.methodLink "HeaderDesk$Message" (19 : Nat) ({ cls := "HeaderDesk$Message", name := "byteAt", desc := "(I)I" } : Jvm.MethodName)) ∈ wAll := List.mem_filter.mpr ⟨List.mem_append_right _ (List.mem_of_getElem? (i := 161) (by decide +kernel)), by decide +kernel⟩
theorem m_163 : (Cond.instanceMethod ({ cls := "HeaderDesk$Message", name := "byteAt", desc := "(I)I" } : Jvm.MethodName)) ∈ wAll := List.mem_filter.mpr ⟨List.mem_append_right _ (List.mem_of_getElem? (i := 163) (by decide +kernel)), by decide +kernel⟩
theorem m_164 : (Cond.code ({ cls := "HeaderDesk$Message", name := "byteAt", desc := "(I)I" } : Jvm.MethodName) prog_4_method_4_code (2 : Nat) (Option.some Jvm.ClassFile.FieldType.int)) ∈ wAll := List.mem_filter.mpr ⟨List.mem_append_right _ (List.mem_of_getElem? (i := 164) (by decide +kernel)), by decide +kernel⟩
theorem m_165 : (Cond.methodLink "HeaderDesk$Message" (23 : Nat) ({ cls := "HeaderDesk$Message", name := "isNameByte", desc := "(I)Z" } : Jvm.MethodName)) ∈ wAll := List.mem_filter.mpr ⟨List.mem_append_right _ (List.mem_of_getElem? (i := 165) (by decide +kernel)), by decide +kernel⟩
theorem m_166 : (Cond.static ({ cls := "HeaderDesk$Message", name := "isNameByte", desc := "(I)Z" } : Jvm.MethodName)) ∈ wAll := List.mem_filter.mpr ⟨List.mem_append_right _ (List.mem_of_getElem? (i := 166) (by decide +kernel)), by decide +kernel⟩
theorem m_167 : (Cond.code ({ cls := "HeaderDesk$Message", name := "isNameByte", desc := "(I)Z" } : Jvm.MethodName) prog_4_method_8_code (1 : Nat) (Option.some Jvm.ClassFile.FieldType.boolean)) ∈ wAll := List.mem_filter.mpr ⟨List.mem_append_right _ (List.mem_of_getElem? (i := 167) (by decide +kernel)), by decide +kernel⟩
theorem m_170 : (Cond.instanceMethod ({ cls := "HeaderDesk$Message", name := "endOfBlanks", desc := "(I)I" } : Jvm.MethodName)) ∈ wAll := List.mem_filter.mpr ⟨List.mem_append_right _ (List.mem_of_getElem? (i := 170) (by decide +kernel)), by decide +kernel⟩
theorem m_171 : (Cond.code ({ cls := "HeaderDesk$Message", name := "endOfBlanks", desc := "(I)I" } : Jvm.MethodName) prog_4_method_7_code (3 : Nat) (Option.some Jvm.ClassFile.FieldType.int)) ∈ wAll := List.mem_filter.mpr ⟨List.mem_append_right _ (List.mem_of_getElem? (i := 171) (by decide +kernel)), by decide +kernel⟩
theorem m_173 : (Cond.static ({ cls := "HeaderDesk", name := "isBlank", desc := "(I)Z" } : Jvm.MethodName)) ∈ wAll := List.mem_filter.mpr ⟨List.mem_append_right _ (List.mem_of_getElem? (i := 173) (by decide +kernel)), by decide +kernel⟩
theorem m_174 : (Cond.code ({ cls := "HeaderDesk", name := "isBlank", desc := "(I)Z" } : Jvm.MethodName) prog_1_method_10_code (1 : Nat) (Option.some Jvm.ClassFile.FieldType.boolean)) ∈ wAll := List.mem_filter.mpr ⟨List.mem_append_right _ (List.mem_of_getElem? (i := 174) (by decide +kernel)), by decide +kernel⟩
theorem m_190 : (Cond.instanceMethod ({ cls := "HeaderDesk$Message", name := "endOfLine", desc := "(I)I" } : Jvm.MethodName)) ∈ wAll := List.mem_filter.mpr ⟨List.mem_append_right _ (List.mem_of_getElem? (i := 190) (by decide +kernel)), by decide +kernel⟩
theorem m_191 : (Cond.code ({ cls := "HeaderDesk$Message", name := "endOfLine", desc := "(I)I" } : Jvm.MethodName) prog_4_method_5_code (3 : Nat) (Option.some Jvm.ClassFile.FieldType.int)) ∈ wAll := List.mem_filter.mpr ⟨List.mem_append_right _ (List.mem_of_getElem? (i := 191) (by decide +kernel)), by decide +kernel⟩
theorem m_257 : (Cond.static ({ cls := "HeaderDesk", name := "lowered", desc := "(I)I" } : Jvm.MethodName)) ∈ wAll := List.mem_filter.mpr ⟨List.mem_append_right _ (List.mem_of_getElem? (i := 257) (by decide +kernel)), by decide +kernel⟩
theorem m_258 : (Cond.code ({ cls := "HeaderDesk", name := "lowered", desc := "(I)I" } : Jvm.MethodName) prog_1_method_11_code (1 : Nat) (Option.some Jvm.ClassFile.FieldType.int)) ∈ wAll := List.mem_filter.mpr ⟨List.mem_append_right _ (List.mem_of_getElem? (i := 258) (by decide +kernel)), by decide +kernel⟩
theorem m_356 : (Cond.instanceMethod ({ cls := "HeaderDesk$Message", name := "clear", desc := "()V" } : Jvm.MethodName)) ∈ wAll := List.mem_filter.mpr ⟨List.mem_append_right _ (List.mem_of_getElem? (i := 356) (by decide +kernel)), by decide +kernel⟩
theorem m_357 : (Cond.code ({ cls := "HeaderDesk$Message", name := "clear", desc := "()V" } : Jvm.MethodName) prog_4_method_2_code (1 : Nat) (Option.none : Option Jvm.ClassFile.FieldType)) ∈ wAll := List.mem_filter.mpr ⟨List.mem_append_right _ (List.mem_of_getElem? (i := 357) (by decide +kernel)), by decide +kernel⟩
theorem mn_172 : (Cond.methodLinkNest "HeaderDesk$Message" (27 : Nat) ({ cls := "HeaderDesk", name := "isBlank", desc := "(I)Z" } : Jvm.MethodName) "HeaderDesk") ∈ nwAll := List.mem_filter.mpr ⟨List.mem_append_right _ (List.mem_of_getElem? (i := 172) (by decide +kernel)), by decide +kernel⟩
theorem d_Me_init_0 : decode prog_4_method_1_code 0 = .ok (.aload_n 0, 1) := by decide +kernel
theorem d_Me_init_1 : decode prog_4_method_1_code 1 = .ok (.invokespecial 3, 3) := by decide +kernel
theorem d_Me_init_4 : decode prog_4_method_1_code 4 = .ok (.aload_n 0, 1) := by decide +kernel
theorem d_Me_init_5 : decode prog_4_method_1_code 5 = .ok (.sipush 300, 3) := by decide +kernel
theorem d_Me_init_8 : decode prog_4_method_1_code 8 = .ok (.newarray .byte, 2) := by decide +kernel
theorem d_Me_init_10 : decode prog_4_method_1_code 10 = .ok (.putfield 9, 3) := by decide +kernel
theorem d_Me_init_13 : decode prog_4_method_1_code 13 = .ok (.return_, 1) := by decide +kernel
theorem d_Me_clear_0 : decode prog_4_method_2_code 0 = .ok (.aload_n 0, 1) := by decide +kernel
theorem d_Me_clear_1 : decode prog_4_method_2_code 1 = .ok (.iconst 0, 1) := by decide +kernel
theorem d_Me_clear_2 : decode prog_4_method_2_code 2 = .ok (.putfield 15, 3) := by decide +kernel
theorem d_Me_clear_5 : decode prog_4_method_2_code 5 = .ok (.return_, 1) := by decide +kernel
theorem d_Me_append_0 : decode prog_4_method_3_code 0 = .ok (.aload_n 0, 1) := by decide +kernel
theorem d_Me_append_1 : decode prog_4_method_3_code 1 = .ok (.getfield 15, 3) := by decide +kernel
theorem d_Me_append_4 : decode prog_4_method_3_code 4 = .ok (.ifCond .lt 34, 3) := by decide +kernel
theorem d_Me_append_7 : decode prog_4_method_3_code 7 = .ok (.aload_n 0, 1) := by decide +kernel
theorem d_Me_append_8 : decode prog_4_method_3_code 8 = .ok (.getfield 15, 3) := by decide +kernel
theorem d_Me_append_11 : decode prog_4_method_3_code 11 = .ok (.sipush 300, 3) := by decide +kernel
theorem d_Me_append_14 : decode prog_4_method_3_code 14 = .ok (.if_icmp .ge 24, 3) := by decide +kernel
theorem d_Me_append_17 : decode prog_4_method_3_code 17 = .ok (.aload_n 0, 1) := by decide +kernel
theorem d_Me_append_18 : decode prog_4_method_3_code 18 = .ok (.getfield 9, 3) := by decide +kernel
theorem d_Me_append_21 : decode prog_4_method_3_code 21 = .ok (.aload_n 0, 1) := by decide +kernel
theorem d_Me_append_22 : decode prog_4_method_3_code 22 = .ok (.getfield 15, 3) := by decide +kernel
theorem d_Me_append_25 : decode prog_4_method_3_code 25 = .ok (.iload_n 1, 1) := by decide +kernel
theorem d_Me_append_26 : decode prog_4_method_3_code 26 = .ok (.i2b, 1) := by decide +kernel
theorem d_Me_append_27 : decode prog_4_method_3_code 27 = .ok (.bastore, 1) := by decide +kernel
theorem d_Me_append_28 : decode prog_4_method_3_code 28 = .ok (.aload_n 0, 1) := by decide +kernel
theorem d_Me_append_29 : decode prog_4_method_3_code 29 = .ok (.dup, 1) := by decide +kernel
theorem d_Me_append_30 : decode prog_4_method_3_code 30 = .ok (.getfield 15, 3) := by decide +kernel
theorem d_Me_append_33 : decode prog_4_method_3_code 33 = .ok (.iconst 1, 1) := by decide +kernel
theorem d_Me_append_34 : decode prog_4_method_3_code 34 = .ok (.iadd, 1) := by decide +kernel
theorem d_Me_append_35 : decode prog_4_method_3_code 35 = .ok (.putfield 15, 3) := by decide +kernel
theorem d_Me_append_38 : decode prog_4_method_3_code 38 = .ok (.return_, 1) := by decide +kernel
theorem d_Me_byteAt_0 : decode prog_4_method_4_code 0 = .ok (.iload_n 1, 1) := by decide +kernel
theorem d_Me_byteAt_1 : decode prog_4_method_4_code 1 = .ok (.ifCond .lt 18, 3) := by decide +kernel
theorem d_Me_byteAt_4 : decode prog_4_method_4_code 4 = .ok (.iload_n 1, 1) := by decide +kernel
theorem d_Me_byteAt_5 : decode prog_4_method_4_code 5 = .ok (.aload_n 0, 1) := by decide +kernel
theorem d_Me_byteAt_6 : decode prog_4_method_4_code 6 = .ok (.getfield 15, 3) := by decide +kernel
theorem d_Me_byteAt_9 : decode prog_4_method_4_code 9 = .ok (.if_icmp .ge 10, 3) := by decide +kernel
theorem d_Me_byteAt_12 : decode prog_4_method_4_code 12 = .ok (.iload_n 1, 1) := by decide +kernel
theorem d_Me_byteAt_13 : decode prog_4_method_4_code 13 = .ok (.sipush 300, 3) := by decide +kernel
theorem d_Me_byteAt_16 : decode prog_4_method_4_code 16 = .ok (.if_icmp .lt 7, 3) := by decide +kernel
theorem d_Me_byteAt_19 : decode prog_4_method_4_code 19 = .ok (.iconst (-1), 1) := by decide +kernel
theorem d_Me_byteAt_20 : decode prog_4_method_4_code 20 = .ok (.goto 13, 3) := by decide +kernel
theorem d_Me_byteAt_23 : decode prog_4_method_4_code 23 = .ok (.aload_n 0, 1) := by decide +kernel
theorem d_Me_byteAt_24 : decode prog_4_method_4_code 24 = .ok (.getfield 9, 3) := by decide +kernel
theorem d_Me_byteAt_27 : decode prog_4_method_4_code 27 = .ok (.iload_n 1, 1) := by decide +kernel
theorem d_Me_byteAt_28 : decode prog_4_method_4_code 28 = .ok (.baload, 1) := by decide +kernel
theorem d_Me_byteAt_29 : decode prog_4_method_4_code 29 = .ok (.sipush 255, 3) := by decide +kernel
theorem d_Me_byteAt_32 : decode prog_4_method_4_code 32 = .ok (.iand, 1) := by decide +kernel
theorem d_Me_byteAt_33 : decode prog_4_method_4_code 33 = .ok (.ireturn, 1) := by decide +kernel
theorem d_Me_endOfLine_0 : decode prog_4_method_5_code 0 = .ok (.iload_n 1, 1) := by decide +kernel
theorem d_Me_endOfLine_1 : decode prog_4_method_5_code 1 = .ok (.istore_n 2, 1) := by decide +kernel
theorem d_Me_endOfLine_2 : decode prog_4_method_5_code 2 = .ok (.iload_n 2, 1) := by decide +kernel
theorem d_Me_endOfLine_3 : decode prog_4_method_5_code 3 = .ok (.aload_n 0, 1) := by decide +kernel
theorem d_Me_endOfLine_4 : decode prog_4_method_5_code 4 = .ok (.getfield 15, 3) := by decide +kernel
theorem d_Me_endOfLine_7 : decode prog_4_method_5_code 7 = .ok (.if_icmp .ge 33, 3) := by decide +kernel
theorem d_Me_endOfLine_10 : decode prog_4_method_5_code 10 = .ok (.aload_n 0, 1) := by decide +kernel
theorem d_Me_endOfLine_11 : decode prog_4_method_5_code 11 = .ok (.iload_n 2, 1) := by decide +kernel
theorem d_Me_endOfLine_12 : decode prog_4_method_5_code 12 = .ok (.invokevirtual 19, 3) := by decide +kernel
theorem d_Me_endOfLine_15 : decode prog_4_method_5_code 15 = .ok (.bipush 13, 2) := by decide +kernel
theorem d_Me_endOfLine_17 : decode prog_4_method_5_code 17 = .ok (.if_icmp .ne 17, 3) := by decide +kernel
theorem d_Me_endOfLine_20 : decode prog_4_method_5_code 20 = .ok (.aload_n 0, 1) := by decide +kernel
theorem d_Me_endOfLine_21 : decode prog_4_method_5_code 21 = .ok (.iload_n 2, 1) := by decide +kernel
theorem d_Me_endOfLine_22 : decode prog_4_method_5_code 22 = .ok (.iconst 1, 1) := by decide +kernel
theorem d_Me_endOfLine_23 : decode prog_4_method_5_code 23 = .ok (.iadd, 1) := by decide +kernel
theorem d_Me_endOfLine_24 : decode prog_4_method_5_code 24 = .ok (.invokevirtual 19, 3) := by decide +kernel
theorem d_Me_endOfLine_27 : decode prog_4_method_5_code 27 = .ok (.bipush 10, 2) := by decide +kernel
theorem d_Me_endOfLine_29 : decode prog_4_method_5_code 29 = .ok (.if_icmp .ne 5, 3) := by decide +kernel
theorem d_Me_endOfLine_32 : decode prog_4_method_5_code 32 = .ok (.iload_n 2, 1) := by decide +kernel
theorem d_Me_endOfLine_33 : decode prog_4_method_5_code 33 = .ok (.ireturn, 1) := by decide +kernel
theorem d_Me_endOfLine_34 : decode prog_4_method_5_code 34 = .ok (.iinc 2 1, 3) := by decide +kernel
theorem d_Me_endOfLine_37 : decode prog_4_method_5_code 37 = .ok (.goto (-35), 3) := by decide +kernel
theorem d_Me_endOfLine_40 : decode prog_4_method_5_code 40 = .ok (.aload_n 0, 1) := by decide +kernel
theorem d_Me_endOfLine_41 : decode prog_4_method_5_code 41 = .ok (.getfield 15, 3) := by decide +kernel
theorem d_Me_endOfLine_44 : decode prog_4_method_5_code 44 = .ok (.ireturn, 1) := by decide +kernel
theorem d_Me_isNameByte_0 : decode prog_4_method_8_code 0 = .ok (.iload_n 0, 1) := by decide +kernel
theorem d_Me_isNameByte_1 : decode prog_4_method_8_code 1 = .ok (.bipush 33, 2) := by decide +kernel
theorem d_Me_isNameByte_3 : decode prog_4_method_8_code 3 = .ok (.if_icmp .lt 19, 3) := by decide +kernel
theorem d_Me_isNameByte_6 : decode prog_4_method_8_code 6 = .ok (.iload_n 0, 1) := by decide +kernel
theorem d_Me_isNameByte_7 : decode prog_4_method_8_code 7 = .ok (.bipush 126, 2) := by decide +kernel
theorem d_Me_isNameByte_9 : decode prog_4_method_8_code 9 = .ok (.if_icmp .gt 13, 3) := by decide +kernel
theorem d_Me_isNameByte_12 : decode prog_4_method_8_code 12 = .ok (.iload_n 0, 1) := by decide +kernel
theorem d_Me_isNameByte_13 : decode prog_4_method_8_code 13 = .ok (.bipush 58, 2) := by decide +kernel
theorem d_Me_isNameByte_15 : decode prog_4_method_8_code 15 = .ok (.if_icmp .eq 7, 3) := by decide +kernel
theorem d_Me_isNameByte_18 : decode prog_4_method_8_code 18 = .ok (.iconst 1, 1) := by decide +kernel
theorem d_Me_isNameByte_19 : decode prog_4_method_8_code 19 = .ok (.goto 4, 3) := by decide +kernel
theorem d_Me_isNameByte_22 : decode prog_4_method_8_code 22 = .ok (.iconst 0, 1) := by decide +kernel
theorem d_Me_isNameByte_23 : decode prog_4_method_8_code 23 = .ok (.ireturn, 1) := by decide +kernel
theorem d_Me_endOfName_0 : decode prog_4_method_6_code 0 = .ok (.iload_n 1, 1) := by decide +kernel
theorem d_Me_endOfName_1 : decode prog_4_method_6_code 1 = .ok (.istore_n 2, 1) := by decide +kernel
theorem d_Me_endOfName_2 : decode prog_4_method_6_code 2 = .ok (.iload_n 2, 1) := by decide +kernel
theorem d_Me_endOfName_3 : decode prog_4_method_6_code 3 = .ok (.aload_n 0, 1) := by decide +kernel
theorem d_Me_endOfName_4 : decode prog_4_method_6_code 4 = .ok (.getfield 15, 3) := by decide +kernel
theorem d_Me_endOfName_7 : decode prog_4_method_6_code 7 = .ok (.if_icmp .ge 20, 3) := by decide +kernel
theorem d_Me_endOfName_10 : decode prog_4_method_6_code 10 = .ok (.aload_n 0, 1) := by decide +kernel
theorem d_Me_endOfName_11 : decode prog_4_method_6_code 11 = .ok (.iload_n 2, 1) := by decide +kernel
theorem d_Me_endOfName_12 : decode prog_4_method_6_code 12 = .ok (.invokevirtual 19, 3) := by decide +kernel
theorem d_Me_endOfName_15 : decode prog_4_method_6_code 15 = .ok (.invokestatic 23, 3) := by decide +kernel
theorem d_Me_endOfName_18 : decode prog_4_method_6_code 18 = .ok (.ifCond .eq 9, 3) := by decide +kernel
theorem d_Me_endOfName_21 : decode prog_4_method_6_code 21 = .ok (.iinc 2 1, 3) := by decide +kernel
theorem d_Me_endOfName_24 : decode prog_4_method_6_code 24 = .ok (.goto (-22), 3) := by decide +kernel
theorem d_Me_endOfName_27 : decode prog_4_method_6_code 27 = .ok (.iload_n 2, 1) := by decide +kernel
theorem d_Me_endOfName_28 : decode prog_4_method_6_code 28 = .ok (.ireturn, 1) := by decide +kernel
theorem d_De_isBlank_0 : decode prog_1_method_10_code 0 = .ok (.iload_n 0, 1) := by decide +kernel
theorem d_De_isBlank_1 : decode prog_1_method_10_code 1 = .ok (.bipush 32, 2) := by decide +kernel
theorem d_De_isBlank_3 : decode prog_1_method_10_code 3 = .ok (.if_icmp .eq 9, 3) := by decide +kernel
theorem d_De_isBlank_6 : decode prog_1_method_10_code 6 = .ok (.iload_n 0, 1) := by decide +kernel
theorem d_De_isBlank_7 : decode prog_1_method_10_code 7 = .ok (.bipush 9, 2) := by decide +kernel
theorem d_De_isBlank_9 : decode prog_1_method_10_code 9 = .ok (.if_icmp .ne 7, 3) := by decide +kernel
theorem d_De_isBlank_12 : decode prog_1_method_10_code 12 = .ok (.iconst 1, 1) := by decide +kernel
theorem d_De_isBlank_13 : decode prog_1_method_10_code 13 = .ok (.goto 4, 3) := by decide +kernel
theorem d_De_isBlank_16 : decode prog_1_method_10_code 16 = .ok (.iconst 0, 1) := by decide +kernel
theorem d_De_isBlank_17 : decode prog_1_method_10_code 17 = .ok (.ireturn, 1) := by decide +kernel
theorem d_Me_endOfBlanks_0 : decode prog_4_method_7_code 0 = .ok (.iload_n 1, 1) := by decide +kernel
theorem d_Me_endOfBlanks_1 : decode prog_4_method_7_code 1 = .ok (.istore_n 2, 1) := by decide +kernel
theorem d_Me_endOfBlanks_2 : decode prog_4_method_7_code 2 = .ok (.iload_n 2, 1) := by decide +kernel
theorem d_Me_endOfBlanks_3 : decode prog_4_method_7_code 3 = .ok (.aload_n 0, 1) := by decide +kernel
theorem d_Me_endOfBlanks_4 : decode prog_4_method_7_code 4 = .ok (.getfield 15, 3) := by decide +kernel
theorem d_Me_endOfBlanks_7 : decode prog_4_method_7_code 7 = .ok (.if_icmp .ge 20, 3) := by decide +kernel
theorem d_Me_endOfBlanks_10 : decode prog_4_method_7_code 10 = .ok (.aload_n 0, 1) := by decide +kernel
theorem d_Me_endOfBlanks_11 : decode prog_4_method_7_code 11 = .ok (.iload_n 2, 1) := by decide +kernel
theorem d_Me_endOfBlanks_12 : decode prog_4_method_7_code 12 = .ok (.invokevirtual 19, 3) := by decide +kernel
theorem d_Me_endOfBlanks_15 : decode prog_4_method_7_code 15 = .ok (.invokestatic 27, 3) := by decide +kernel
theorem d_Me_endOfBlanks_18 : decode prog_4_method_7_code 18 = .ok (.ifCond .eq 9, 3) := by decide +kernel
theorem d_Me_endOfBlanks_21 : decode prog_4_method_7_code 21 = .ok (.iinc 2 1, 3) := by decide +kernel
theorem d_Me_endOfBlanks_24 : decode prog_4_method_7_code 24 = .ok (.goto (-22), 3) := by decide +kernel
theorem d_Me_endOfBlanks_27 : decode prog_4_method_7_code 27 = .ok (.iload_n 2, 1) := by decide +kernel
theorem d_Me_endOfBlanks_28 : decode prog_4_method_7_code 28 = .ok (.ireturn, 1) := by decide +kernel
theorem d_De_lowered_0 : decode prog_1_method_11_code 0 = .ok (.iload_n 0, 1) := by decide +kernel
theorem d_De_lowered_1 : decode prog_1_method_11_code 1 = .ok (.bipush 65, 2) := by decide +kernel
theorem d_De_lowered_3 : decode prog_1_method_11_code 3 = .ok (.if_icmp .lt 19, 3) := by decide +kernel
theorem d_De_lowered_6 : decode prog_1_method_11_code 6 = .ok (.iload_n 0, 1) := by decide +kernel
theorem d_De_lowered_7 : decode prog_1_method_11_code 7 = .ok (.bipush 90, 2) := by decide +kernel
theorem d_De_lowered_9 : decode prog_1_method_11_code 9 = .ok (.if_icmp .gt 13, 3) := by decide +kernel
theorem d_De_lowered_12 : decode prog_1_method_11_code 12 = .ok (.iload_n 0, 1) := by decide +kernel
theorem d_De_lowered_13 : decode prog_1_method_11_code 13 = .ok (.bipush 65, 2) := by decide +kernel
theorem d_De_lowered_15 : decode prog_1_method_11_code 15 = .ok (.isub, 1) := by decide +kernel
theorem d_De_lowered_16 : decode prog_1_method_11_code 16 = .ok (.bipush 97, 2) := by decide +kernel
theorem d_De_lowered_18 : decode prog_1_method_11_code 18 = .ok (.iadd, 1) := by decide +kernel
theorem d_De_lowered_19 : decode prog_1_method_11_code 19 = .ok (.goto 4, 3) := by decide +kernel
theorem d_De_lowered_22 : decode prog_1_method_11_code 22 = .ok (.iload_n 0, 1) := by decide +kernel
theorem d_De_lowered_23 : decode prog_1_method_11_code 23 = .ok (.ireturn, 1) := by decide +kernel
theorem ok_Me_init : okN y_Me_init prog_4_method_1_code 1 0 := ⟨m_24, m_2, m_25, by decide +kernel, rfl⟩
theorem ok_Me_clear : okM y_Me_clear prog_4_method_2_code 1 none 0 := ⟨m_356, (List.mem_filter.mpr ⟨List.mem_append_left _ (List.mem_of_getElem? (i := 26) (by decide +kernel)), by decide +kernel⟩), m_2, m_357, by decide +kernel⟩
theorem ok_Me_append : okM y_Me_append prog_4_method_3_code 2 none 1 := ⟨m_139, (List.mem_filter.mpr ⟨List.mem_append_left _ (List.mem_of_getElem? (i := 0) (by decide +kernel)), by decide +kernel⟩), m_2, m_140, by decide +kernel⟩
theorem ok_Me_byteAt : okM y_Me_byteAt prog_4_method_4_code 2 (some .int) 1 := ⟨m_163, (List.mem_filter.mpr ⟨List.mem_append_left _ (List.mem_of_getElem? (i := 5) (by decide +kernel)), by decide +kernel⟩), m_2, m_164, by decide +kernel⟩
theorem ok_Me_endOfLine : okM y_Me_endOfLine prog_4_method_5_code 3 (some .int) 1 := ⟨m_190, (List.mem_filter.mpr ⟨List.mem_append_left _ (List.mem_of_getElem? (i := 10) (by decide +kernel)), by decide +kernel⟩), m_2, m_191, by decide +kernel⟩
theorem ok_Me_isNameByte : okS y_Me_isNameByte prog_4_method_8_code 1 (some .boolean) 1 := ⟨m_166, m_2, m_167, by decide +kernel⟩
theorem ok_Me_endOfName : okM y_Me_endOfName prog_4_method_6_code 3 (some .int) 1 := ⟨m_159, (List.mem_filter.mpr ⟨List.mem_append_left _ (List.mem_of_getElem? (i := 4) (by decide +kernel)), by decide +kernel⟩), m_2, m_160, by decide +kernel⟩
theorem ok_De_isBlank : okS y_De_isBlank prog_1_method_10_code 1 (some .boolean) 1 := ⟨m_173, m_1, m_174, by decide +kernel⟩
theorem ok_Me_endOfBlanks : okM y_Me_endOfBlanks prog_4_method_7_code 3 (some .int) 1 := ⟨m_170, (List.mem_filter.mpr ⟨List.mem_append_left _ (List.mem_of_getElem? (i := 6) (by decide +kernel)), by decide +kernel⟩), m_2, m_171, by decide +kernel⟩
theorem ok_De_lowered : okS y_De_lowered prog_1_method_11_code 1 (some .int) 1 := ⟨m_257, m_1, m_258, by decide +kernel⟩
def f_Me_clear (N : Nat) (v_size : Int32) : Option (Int32) := some 0
def f_Me_append (N : Nat) (x1 : Int32) (v_size : Int32) (v_row : Nat → Int32) : Option (Int32 × (Nat → Int32)) := (if v_size < 0 then some (v_size, v_row) else (if 300 ≤ v_size then some (v_size, v_row) else (if inB v_size 300 = true then some (v_size + 1, upd v_row v_size.toNatClampNeg (vp_nar .byte x1.toInt8.toInt32)) else none)))
def f_Me_byteAt (N : Nat) (x1 : Int32) (v_size : Int32) (v_row : Nat → Int32) : Option (Int32) := (if x1 < 0 then some (-1) else (if v_size ≤ x1 then some (-1) else (if x1 < 300 then (if inB x1 300 = true then some ((v_row x1.toNatClampNeg) &&& 255) else none) else some (-1))))
def f_Me_endOfLine_2 (N : Nat) (v_size : Int32) (v_row : Nat → Int32) : Nat → Int32 → Option (Int32)
  | 0, _ => none
  | n + 1, x2 => (if v_size ≤ x2 then some v_size else ((f_Me_byteAt N x2 v_size v_row).bind fun z2 => (if z2 = 13 then ((f_Me_byteAt N (x2 + 1) v_size v_row).bind fun z4 => (if z4 = 10 then some x2 else f_Me_endOfLine_2 N v_size v_row n (x2 + 1))) else f_Me_endOfLine_2 N v_size v_row n (x2 + 1))))
def f_Me_endOfLine (N : Nat) (x1 : Int32) (v_size : Int32) (v_row : Nat → Int32) : Option (Int32) := f_Me_endOfLine_2 N v_size v_row N x1
def f_Me_isNameByte (N : Nat) (x0 : Int32) : Option (Int32) := (if x0 < 33 then some 0 else (if 126 < x0 then some 0 else (if x0 = 58 then some 0 else some 1)))
def f_Me_endOfName_2 (N : Nat) (v_size : Int32) (v_row : Nat → Int32) : Nat → Int32 → Option (Int32)
  | 0, _ => none
  | n + 1, x2 => (if v_size ≤ x2 then some x2 else ((f_Me_byteAt N x2 v_size v_row).bind fun z2 => ((f_Me_isNameByte N z2).bind fun z3 => (if z3 = 0 then some x2 else f_Me_endOfName_2 N v_size v_row n (x2 + 1)))))
def f_Me_endOfName (N : Nat) (x1 : Int32) (v_size : Int32) (v_row : Nat → Int32) : Option (Int32) := f_Me_endOfName_2 N v_size v_row N x1
def f_De_isBlank (N : Nat) (x0 : Int32) : Option (Int32) := (if x0 = 32 then some 1 else (if x0 = 9 then some 1 else some 0))
def f_Me_endOfBlanks_2 (N : Nat) (v_size : Int32) (v_row : Nat → Int32) : Nat → Int32 → Option (Int32)
  | 0, _ => none
  | n + 1, x2 => (if v_size ≤ x2 then some x2 else ((f_Me_byteAt N x2 v_size v_row).bind fun z2 => ((f_De_isBlank N z2).bind fun z3 => (if z3 = 0 then some x2 else f_Me_endOfBlanks_2 N v_size v_row n (x2 + 1)))))
def f_Me_endOfBlanks (N : Nat) (x1 : Int32) (v_size : Int32) (v_row : Nat → Int32) : Option (Int32) := f_Me_endOfBlanks_2 N v_size v_row N x1
def f_De_lowered (N : Nat) (x0 : Int32) : Option (Int32) := (if x0 < 65 then some x0 else (if 90 < x0 then some x0 else some ((x0 - 65) + 97)))
set_option maxHeartbeats 4000000 in
set_option maxRecDepth 100000 in
theorem c_Me_init {l : Launch} {dC : Nat → ClassId} {dI : Nat → Nat → Nat} {cB cI : ClassId} {aK aV : Nat → Nat} (h_this : Nat) : Ci l y_Me_init prog_4_method_1_code 1 none ({ frames := 1, cells := 1, slots := 300, locals := 20 }) (dC, dI) cB cI aK aV [.ref h_this] [(h_this, .inr (2, [.null, .int 0]))] (fun A => Qn (α := Nat) (dC, dI) (fun q => [(h_this, .inr (2, [.ref q, .int 0])), (q, .inl (cB, 300, .inl (fun _ => 0)))]) A) := by
  refine Ci_of (by decide) (Nat.le_of_ble_eq_true rfl) (fun p e s m below meth c A C hK hnm hA hP hD ls hl => ?_)
  obtain ⟨hx, hb, hr, hml, hown, hts, hlk⟩ := id C
  have hS : va_S A s.heap s.heap [] := va_S.rf
  have hl : lv_has ls 1 [(0, .ref h_this)] := hl
  refine lv_aload_n hx hb d_Me_init_0 rfl (lv_at hl 0 rfl) ?_
  refine W.objInit hx hb hown (hts _ m_26) (hts _ m_19) (hts _ m_20) rfl (by rw [hml]; exact hl.1) rfl d_Me_init_1 (by decide) (Nat.le_of_ble_eq_true rfl) ?_
  refine W.eq (g2 := F0 m 4 ls []) rfl ?_
  refine lv_aload_n hx hb d_Me_init_4 rfl (lv_at hl 0 rfl) ?_
  refine lv_sipush (v := 300) hx hb d_Me_init_5 (by decide) ?_
  refine na_B hx hb (hts _ m_36) hK hP hD hS hA (by decide) (N' := 300) (by decide) (by decide) (by decide) (by decide) d_Me_init_8 (fun q1 H hP hD hS => ?_)
  refine W.widen (k := 1) (n := 300) (by decide) (by decide) ?_
  have hP : va_P (dC, dI) classes [(h_this, .inr (2, [.null, .int 0])), (q1, .inl (cB, 300, .inl (fun _ => 0)))] H := hP
  have hD : va_D A [(h_this, .inr (2, [.null, .int 0])), (q1, .inl (cB, 300, .inl (fun _ => 0)))] := hD
  refine va_putF (D := (dC, dI)) (ci := 2) (v := .ref q1) (ty := (.array .byte)) (C := R_Me) (T := F_Me) (N := 2) hx hb hts in_Me t_Me t_Me_ok n_Me hown hK.1 hP hD hS 0 rfl rfl 0 (by decide) (hts _ m_27) (fun _ h9 => h9) rfl hnm rfl (by decide +kernel) rfl rfl (Nat.le_of_ble_eq_true rfl) d_Me_init_10 (fun H locs hP hD hS => ?_)
  have hP : va_P (dC, dI) classes [(h_this, .inr (2, [.ref q1, .int 0])), (q1, .inl (cB, 300, .inl (fun _ => 0)))] H := hP
  have hD : va_D A [(h_this, .inr (2, [.ref q1, .int 0])), (q1, .inl (cB, 300, .inl (fun _ => 0)))] := hD
  have hP9 := va_P_perm (ws' := [(h_this, .inr (2, [.ref q1, .int 0])), (q1, .inl (cB, 300, .inl (fun _ => 0)))]) hP [0, 1] rfl
  have hD9 := hD.sub (ws' := [(h_this, .inr (2, [.ref q1, .int 0])), (q1, .inl (cB, 300, .inl (fun _ => 0)))]) [0, 1] (by decide) rfl
  exact W.vret hx hb hr (fun t ht hW => ⟨⟨(), rfl, trivial, q1, by rw [ht]; exact hP9, hD9⟩, hS.F ht⟩) hS.2.2 d_Me_init_13 hlk
set_option maxHeartbeats 4000000 in
set_option maxRecDepth 100000 in
theorem c_Me_clear {l : Launch} {dC : Nat → ClassId} {dI : Nat → Nat → Nat} {cB cI : ClassId} {aK aV : Nat → Nat} (N : Nat) (h_this h_this_row : Nat) (v_size : Int32) (v_row : Nat → Int32) (z : Int32) (h : f_Me_clear N v_size = some z) : Ci l y_Me_clear prog_4_method_2_code 1 none ({ frames := 0, cells := 0, slots := 0, locals := 0 }) (dC, dI) cB cI aK aV [.ref h_this] [(h_this, .inr (2, [.ref h_this_row, .int v_size])), (h_this_row, .inl (cB, 300, .inl v_row))] (fun A => (Qv (dC, dI) [(h_this, .inr (2, [.ref h_this_row, .int z])), (h_this_row, .inl (cB, 300, .inl v_row))] A)) := by
  refine Ci_of (by decide) (Nat.le_of_ble_eq_true rfl) (fun p e s m below meth c A C hK hnm hA hP hD ls hl => ?_)
  obtain ⟨hx, hb, hr, hml, hown, hts, hlk⟩ := id C
  have hS : va_S A s.heap s.heap [] := va_S.rf
  have hl : lv_has ls 1 [(0, .ref h_this)] := hl
  rw [f_Me_clear] at h
  refine lv_aload_n hx hb d_Me_clear_0 rfl (lv_at hl 0 rfl) ?_
  refine lv_iconst (v := 0) hx hb d_Me_clear_1 (by decide) ?_
  refine va_put (D := (dC, dI)) (ci := 2) (v := .int 0) (ty := .int) (C := R_Me) (T := F_Me) (N := 2) hx hb hts in_Me t_Me t_Me_ok n_Me hown hK.1 hP hD hS 0 rfl rfl 1 (by decide) (hts _ m_28) (fun _ h9 => h9) rfl (by decide +kernel) rfl rfl (Nat.le_of_ble_eq_true rfl) d_Me_clear_2 (fun H locs hP hD hS => ?_)
  have hP : va_P (dC, dI) classes [(h_this, .inr (2, [.ref h_this_row, .int 0])), (h_this_row, .inl (cB, 300, .inl v_row))] H := hP
  have hD : va_D A [(h_this, .inr (2, [.ref h_this_row, .int 0])), (h_this_row, .inl (cB, 300, .inl v_row))] := hD
  obtain rfl := Option.some.inj h
  exact W.vret hx hb hr (fun t ht hW => ⟨⟨(), rfl, trivial, by rw [ht]; exact hP, hD⟩, hS.F ht⟩) hS.2.2 d_Me_clear_5 hlk
set_option maxHeartbeats 4000000 in
set_option maxRecDepth 100000 in
theorem c_Me_append {l : Launch} {dC : Nat → ClassId} {dI : Nat → Nat → Nat} {cB cI : ClassId} {aK aV : Nat → Nat} (N : Nat) (h_this h_this_row : Nat) (v_size : Int32) (v_row : Nat → Int32) (x1 : Int32) (z : Int32 × (Nat → Int32)) (h : f_Me_append N x1 v_size v_row = some z) : Ci l y_Me_append prog_4_method_3_code 2 none ({ frames := 0, cells := 0, slots := 0, locals := 0 }) (dC, dI) cB cI aK aV [.ref h_this, .int x1] [(h_this, .inr (2, [.ref h_this_row, .int v_size])), (h_this_row, .inl (cB, 300, .inl v_row))] (fun A => (Qv (dC, dI) [(h_this, .inr (2, [.ref h_this_row, .int z.1])), (h_this_row, .inl (cB, 300, .inl z.2))] A)) := by
  refine Ci_of (by decide) (Nat.le_of_ble_eq_true rfl) (fun p e s m below meth c A C hK hnm hA hP hD ls hl => ?_)
  obtain ⟨hx, hb, hr, hml, hown, hts, hlk⟩ := id C
  have hS : va_S A s.heap s.heap [] := va_S.rf
  have hl : lv_has ls 2 [(0, .ref h_this), (1, .int x1)] := hl
  rw [f_Me_append] at h
  refine lv_aload_n hx hb d_Me_append_0 rfl (lv_at hl 0 rfl) ?_
  refine va_get (D := (dC, dI)) (ci := 2) (v := .int v_size) (C := R_Me) (T := F_Me) (N := 2) hx hb hts in_Me hown hK.1 hP 0 rfl rfl 1 (by decide) (hts _ m_28) (fun _ h9 => h9) rfl d_Me_append_1 ?_
  refine lv_if_lt (tgt := 38) hx hb d_Me_append_4 (by decide) (fun c_1 => ?_) (fun c_1 => ?_)
  · replace h := itT h c_1
    obtain rfl := Option.some.inj h
    exact W.vret hx hb hr (fun t ht hW => ⟨⟨(), rfl, trivial, by rw [ht]; exact hP, hD⟩, hS.F ht⟩) hS.2.2 d_Me_append_38 hlk
  · replace h := itF h c_1
    refine lv_aload_n hx hb d_Me_append_7 rfl (lv_at hl 0 rfl) ?_
    refine va_get (D := (dC, dI)) (ci := 2) (v := .int v_size) (C := R_Me) (T := F_Me) (N := 2) hx hb hts in_Me hown hK.1 hP 0 rfl rfl 1 (by decide) (hts _ m_28) (fun _ h9 => h9) rfl d_Me_append_8 ?_
    refine lv_sipush (v := 300) hx hb d_Me_append_11 (by decide) ?_
    refine lv_icmp_ge (tgt := 38) hx hb d_Me_append_14 (by decide) (fun c_2 => ?_) (fun c_2 => ?_)
    · replace h := itT h c_2
      obtain rfl := Option.some.inj h
      exact W.vret hx hb hr (fun t ht hW => ⟨⟨(), rfl, trivial, by rw [ht]; exact hP, hD⟩, hS.F ht⟩) hS.2.2 d_Me_append_38 hlk
    · replace h := itF h c_2
      refine lv_aload_n hx hb d_Me_append_17 rfl (lv_at hl 0 rfl) ?_
      refine va_get (D := (dC, dI)) (ci := 2) (v := .ref h_this_row) (C := R_Me) (T := F_Me) (N := 2) hx hb hts in_Me hown hK.1 hP 0 rfl rfl 0 (by decide) (hts _ m_27) (fun _ h9 => h9) rfl d_Me_append_18 ?_
      refine lv_aload_n hx hb d_Me_append_21 rfl (lv_at hl 0 rfl) ?_
      refine va_get (D := (dC, dI)) (ci := 2) (v := .int v_size) (C := R_Me) (T := F_Me) (N := 2) hx hb hts in_Me hown hK.1 hP 0 rfl rfl 1 (by decide) (hts _ m_28) (fun _ h9 => h9) rfl d_Me_append_22 ?_
      refine lv_iload_n hx hb d_Me_append_25 rfl (lv_at hl 1 rfl) ?_
      refine lv_i2b hx hb d_Me_append_26 rfl ?_
      obtain ⟨g_3, h⟩ := grd h
      refine va_bast hx hb hK.1 hP hD hS 1 0 rfl rfl (inB_in g_3) d_Me_append_27 (fun H locs hP hD hS => ?_)
      have hP : va_P (dC, dI) classes [(h_this, .inr (2, [.ref h_this_row, .int v_size])), (h_this_row, .inl (cB, 300, .inl (upd v_row v_size.toNatClampNeg (vp_nar .byte x1.toInt8.toInt32))))] H := hP
      have hD : va_D A [(h_this, .inr (2, [.ref h_this_row, .int v_size])), (h_this_row, .inl (cB, 300, .inl (upd v_row v_size.toNatClampNeg (vp_nar .byte x1.toInt8.toInt32))))] := hD
      refine lv_aload_n hx hb d_Me_append_28 rfl (lv_at hl 0 rfl) ?_
      refine lv_dup hx hb d_Me_append_29 rfl ?_
      refine va_get (D := (dC, dI)) (ci := 2) (v := .int v_size) (C := R_Me) (T := F_Me) (N := 2) hx hb hts in_Me hown hK.1 hP 0 rfl rfl 1 (by decide) (hts _ m_28) (fun _ h9 => h9) rfl d_Me_append_30 ?_
      refine lv_iconst (v := 1) hx hb d_Me_append_33 (by decide) ?_
      refine lv_iadd hx hb d_Me_append_34 ?_
      refine va_put (D := (dC, dI)) (ci := 2) (v := .int (v_size + 1)) (ty := .int) (C := R_Me) (T := F_Me) (N := 2) hx hb hts in_Me t_Me t_Me_ok n_Me hown hK.1 hP hD hS 0 rfl rfl 1 (by decide) (hts _ m_28) (fun _ h9 => h9) rfl (by decide +kernel) rfl rfl (Nat.le_of_ble_eq_true rfl) d_Me_append_35 (fun H locs hP hD hS => ?_)
      have hP : va_P (dC, dI) classes [(h_this, .inr (2, [.ref h_this_row, .int (v_size + 1)])), (h_this_row, .inl (cB, 300, .inl (upd v_row v_size.toNatClampNeg (vp_nar .byte x1.toInt8.toInt32))))] H := hP
      have hD : va_D A [(h_this, .inr (2, [.ref h_this_row, .int (v_size + 1)])), (h_this_row, .inl (cB, 300, .inl (upd v_row v_size.toNatClampNeg (vp_nar .byte x1.toInt8.toInt32))))] := hD
      obtain rfl := Option.some.inj h
      exact W.vret hx hb hr (fun t ht hW => ⟨⟨(), rfl, trivial, by rw [ht]; exact hP, hD⟩, hS.F ht⟩) hS.2.2 d_Me_append_38 hlk
set_option maxHeartbeats 4000000 in
set_option maxRecDepth 100000 in
theorem c_Me_byteAt {l : Launch} {dC : Nat → ClassId} {dI : Nat → Nat → Nat} {cB cI : ClassId} {aK aV : Nat → Nat} (N : Nat) (h_this h_this_row : Nat) (v_size : Int32) (v_row : Nat → Int32) (x1 : Int32) (z : Int32) (h : f_Me_byteAt N x1 v_size v_row = some z) : Ci l y_Me_byteAt prog_4_method_4_code 2 (some .int) ({ frames := 0, cells := 0, slots := 0, locals := 0 }) (dC, dI) cB cI aK aV [.ref h_this, .int x1] [(h_this, .inr (2, [.ref h_this_row, .int v_size])), (h_this_row, .inl (cB, 300, .inl v_row))] (fun A => (Qi (dC, dI) [(h_this, .inr (2, [.ref h_this_row, .int v_size])), (h_this_row, .inl (cB, 300, .inl v_row))] A z)) := by
  refine Ci_of (by decide) (Nat.le_of_ble_eq_true rfl) (fun p e s m below meth c A C hK hnm hA hP hD ls hl => ?_)
  obtain ⟨hx, hb, hr, hml, hown, hts, hlk⟩ := id C
  have hS : va_S A s.heap s.heap [] := va_S.rf
  have hl : lv_has ls 2 [(0, .ref h_this), (1, .int x1)] := hl
  rw [f_Me_byteAt] at h
  refine lv_iload_n hx hb d_Me_byteAt_0 rfl (lv_at hl 1 rfl) ?_
  refine lv_if_lt (tgt := 19) hx hb d_Me_byteAt_1 (by decide) (fun c_1 => ?_) (fun c_1 => ?_)
  · replace h := itT h c_1
    refine lv_iconst (v := (-1)) hx hb d_Me_byteAt_19 (by decide) ?_
    refine lv_goto (tgt := 33) hx hb d_Me_byteAt_20 (by decide) ?_
    obtain rfl := Option.some.inj h
    exact W.iret (v := (-1)) hx hb hr (fun t ht hW => ⟨⟨(-1), (), rfl, rfl, by rw [ht]; exact hP, hD⟩, hS.F ht⟩) hS.2.2 d_Me_byteAt_33 hlk
  · replace h := itF h c_1
    refine lv_iload_n hx hb d_Me_byteAt_4 rfl (lv_at hl 1 rfl) ?_
    refine lv_aload_n hx hb d_Me_byteAt_5 rfl (lv_at hl 0 rfl) ?_
    refine va_get (D := (dC, dI)) (ci := 2) (v := .int v_size) (C := R_Me) (T := F_Me) (N := 2) hx hb hts in_Me hown hK.1 hP 0 rfl rfl 1 (by decide) (hts _ m_28) (fun _ h9 => h9) rfl d_Me_byteAt_6 ?_
    refine lv_icmp_ge (tgt := 19) hx hb d_Me_byteAt_9 (by decide) (fun c_2 => ?_) (fun c_2 => ?_)
    · replace h := itT h c_2
      refine lv_iconst (v := (-1)) hx hb d_Me_byteAt_19 (by decide) ?_
      refine lv_goto (tgt := 33) hx hb d_Me_byteAt_20 (by decide) ?_
      obtain rfl := Option.some.inj h
      exact W.iret (v := (-1)) hx hb hr (fun t ht hW => ⟨⟨(-1), (), rfl, rfl, by rw [ht]; exact hP, hD⟩, hS.F ht⟩) hS.2.2 d_Me_byteAt_33 hlk
    · replace h := itF h c_2
      refine lv_iload_n hx hb d_Me_byteAt_12 rfl (lv_at hl 1 rfl) ?_
      refine lv_sipush (v := 300) hx hb d_Me_byteAt_13 (by decide) ?_
      refine lv_icmp_lt (tgt := 23) hx hb d_Me_byteAt_16 (by decide) (fun c_3 => ?_) (fun c_3 => ?_)
      · replace h := itT h c_3
        refine lv_aload_n hx hb d_Me_byteAt_23 rfl (lv_at hl 0 rfl) ?_
        refine va_get (D := (dC, dI)) (ci := 2) (v := .ref h_this_row) (C := R_Me) (T := F_Me) (N := 2) hx hb hts in_Me hown hK.1 hP 0 rfl rfl 0 (by decide) (hts _ m_27) (fun _ h9 => h9) rfl d_Me_byteAt_24 ?_
        refine lv_iload_n hx hb d_Me_byteAt_27 rfl (lv_at hl 1 rfl) ?_
        obtain ⟨g_4, h⟩ := grd h
        refine va_bald hx hb hK.1 hP 1 0 rfl rfl (inB_in g_4) d_Me_byteAt_28 ?_
        refine lv_sipush (v := 255) hx hb d_Me_byteAt_29 (by decide) ?_
        refine lv_iand hx hb d_Me_byteAt_32 ?_
        obtain rfl := Option.some.inj h
        exact W.iret (v := (v_row x1.toNatClampNeg) &&& 255) hx hb hr (fun t ht hW => ⟨⟨(v_row x1.toNatClampNeg) &&& 255, (), rfl, rfl, by rw [ht]; exact hP, hD⟩, hS.F ht⟩) hS.2.2 d_Me_byteAt_33 hlk
      · replace h := itF h c_3
        refine lv_iconst (v := (-1)) hx hb d_Me_byteAt_19 (by decide) ?_
        refine lv_goto (tgt := 33) hx hb d_Me_byteAt_20 (by decide) ?_
        obtain rfl := Option.some.inj h
        exact W.iret (v := (-1)) hx hb hr (fun t ht hW => ⟨⟨(-1), (), rfl, rfl, by rw [ht]; exact hP, hD⟩, hS.F ht⟩) hS.2.2 d_Me_byteAt_33 hlk
set_option maxHeartbeats 4000000 in
set_option maxRecDepth 100000 in
theorem k_Me_endOfLine_2 {p : Program} {l : Launch} {e : Env} {s : State} {m : MethodId} {args : Array Value} {below : List Frame} {meth : Method} {c : Code} {dC : Nat → ClassId} {dI : Nat → Nat → Nat} {cB cI : ClassId} {aK aV : Nat → Nat} {A : Nat → Prop} (C : cx p s m args meth c R_Me prog_4_method_5_code 3 (some .int)) (hK : kx (dC, dI) cB cI aK aV A s) (hA : ∀ q : Nat, s.heap.size ≤ q → A q) (N : Nat) (h_this h_this_row : Nat) (v_size : Int32) (v_row : Nat → Int32) (z : Int32) :
    ∀ (n : Nat), ∀ (x2 : Int32), f_Me_endOfLine_2 N v_size v_row n x2 = some z → ∀ (H : Heap) (locs : List Loc), va_P (dC, dI) classes [(h_this, .inr (2, [.ref h_this_row, .int v_size])), (h_this_row, .inl (cB, 300, .inl v_row))] H → va_D A [(h_this, .inr (2, [.ref h_this_row, .int v_size])), (h_this_row, .inl (cB, 300, .inl v_row))] → va_S A s.heap H locs → ∀ ls : Array Slot, lv_has ls 3 [(0, .ref h_this), (2, .int x2)] → W p l e ({ frames := 1, cells := 0, slots := 0, locals := 21 }) s m args below meth c H locs 0 0 (MQ below (Qi (dC, dI) [(h_this, .inr (2, [.ref h_this_row, .int v_size])), (h_this_row, .inl (cB, 300, .inl v_row))] A z) args s 0 0 A) (F0 m 2 ls []) := by
  obtain ⟨hx, hb, hr, hml, hown, hts, hlk⟩ := id C
  intro n
  induction n with
  | zero =>
    intro x2 h
    rw [f_Me_endOfLine_2] at h
    cases h
  | succ n ih =>
    intro x2 h H locs hP hD hS ls hl
    rw [f_Me_endOfLine_2] at h
    refine lv_iload_n hx hb d_Me_endOfLine_2 rfl (lv_at hl 1 rfl) ?_
    refine lv_aload_n hx hb d_Me_endOfLine_3 rfl (lv_at hl 0 rfl) ?_
    refine va_get (D := (dC, dI)) (ci := 2) (v := .int v_size) (C := R_Me) (T := F_Me) (N := 2) hx hb hts in_Me hown hK.1 hP 0 rfl rfl 1 (by decide) (hts _ m_28) (fun _ h9 => h9) rfl d_Me_endOfLine_4 ?_
    refine lv_icmp_ge (tgt := 40) hx hb d_Me_endOfLine_7 (by decide) (fun c_1 => ?_) (fun c_1 => ?_)
    · replace h := itT h c_1
      refine lv_aload_n hx hb d_Me_endOfLine_40 rfl (lv_at hl 0 rfl) ?_
      refine va_get (D := (dC, dI)) (ci := 2) (v := .int v_size) (C := R_Me) (T := F_Me) (N := 2) hx hb hts in_Me hown hK.1 hP 0 rfl rfl 1 (by decide) (hts _ m_28) (fun _ h9 => h9) rfl d_Me_endOfLine_41 ?_
      obtain rfl := Option.some.inj h
      exact W.iret (v := v_size) hx hb hr (fun t ht hW => ⟨⟨v_size, (), rfl, rfl, by rw [ht]; exact hP, hD⟩, hS.F ht⟩) hS.2.2 d_Me_endOfLine_44 hlk
    · replace h := itF h c_1
      refine lv_aload_n hx hb d_Me_endOfLine_10 rfl (lv_at hl 0 rfl) ?_
      refine lv_iload_n hx hb d_Me_endOfLine_11 rfl (lv_at hl 1 rfl) ?_
      obtain ⟨z2, hc_2, h⟩ := bs h
      refine go_i (wr := []) (w1 := [(h_this, .inr (2, [.ref h_this_row, .int v_size])), (h_this_row, .inl (cB, 300, .inl v_row))]) (ws2 := [(h_this, .inr (2, [.ref h_this_row, .int v_size])), (h_this_row, .inl (cB, 300, .inl v_row))]) hP hD hS hA [0, 1] [] [0, 1] rfl (by decide) rfl (by decide) (by decide) rfl (by decide) (fun hPc hDc hFc => rn_V (As := [.int x2]) (rest := []) C hK (c_Me_byteAt N h_this h_this_row v_size v_row x2 z2 hc_2 _) ⟨rfl, rfl⟩ m_161 ok_Me_byteAt ⟨by decide, by decide⟩ rfl rfl rfl hl.1 rfl (Nat.le_of_ble_eq_true rfl) d_Me_endOfLine_12 ⟨by decide, by decide⟩ hS hPc hDc hFc) (fun H locs hP hD hS => ?_)
      refine lv_bipush (v := 13) hx hb d_Me_endOfLine_15 (by decide) ?_
      refine lv_icmp_ne (tgt := 34) hx hb d_Me_endOfLine_17 (by decide) (fun c_3 => ?_) (fun c_3 => ?_)
      · replace h := itF h c_3
        refine lv_iinc (v := x2 + 1) (lv' := [(2, .int (x2 + 1)), (0, .ref h_this)]) hx hb d_Me_endOfLine_34 hl (k := 1) rfl rfl (by decide) rfl (fun ls hl => ?_)
        refine lv_goto (tgt := 2) hx hb d_Me_endOfLine_37 (by decide) ?_
        exact ih (x2 + 1) h _ _ hP hD hS _ (lv_sub hl [1, 0] rfl)
      · replace h := itT h c_3
        refine lv_aload_n hx hb d_Me_endOfLine_20 rfl (lv_at hl 0 rfl) ?_
        refine lv_iload_n hx hb d_Me_endOfLine_21 rfl (lv_at hl 1 rfl) ?_
        refine lv_iconst (v := 1) hx hb d_Me_endOfLine_22 (by decide) ?_
        refine lv_iadd hx hb d_Me_endOfLine_23 ?_
        obtain ⟨z4, hc_4, h⟩ := bs h
        refine go_i (wr := []) (w1 := [(h_this, .inr (2, [.ref h_this_row, .int v_size])), (h_this_row, .inl (cB, 300, .inl v_row))]) (ws2 := [(h_this, .inr (2, [.ref h_this_row, .int v_size])), (h_this_row, .inl (cB, 300, .inl v_row))]) hP hD hS hA [0, 1] [] [0, 1] rfl (by decide) rfl (by decide) (by decide) rfl (by decide) (fun hPc hDc hFc => rn_V (As := [.int (x2 + 1)]) (rest := []) C hK (c_Me_byteAt N h_this h_this_row v_size v_row (x2 + 1) z4 hc_4 _) ⟨rfl, rfl⟩ m_161 ok_Me_byteAt ⟨by decide, by decide⟩ rfl rfl rfl hl.1 rfl (Nat.le_of_ble_eq_true rfl) d_Me_endOfLine_24 ⟨by decide, by decide⟩ hS hPc hDc hFc) (fun H locs hP hD hS => ?_)
        refine lv_bipush (v := 10) hx hb d_Me_endOfLine_27 (by decide) ?_
        refine lv_icmp_ne (tgt := 34) hx hb d_Me_endOfLine_29 (by decide) (fun c_5 => ?_) (fun c_5 => ?_)
        · replace h := itF h c_5
          refine lv_iinc (v := x2 + 1) (lv' := [(2, .int (x2 + 1)), (0, .ref h_this)]) hx hb d_Me_endOfLine_34 hl (k := 1) rfl rfl (by decide) rfl (fun ls hl => ?_)
          refine lv_goto (tgt := 2) hx hb d_Me_endOfLine_37 (by decide) ?_
          exact ih (x2 + 1) h _ _ hP hD hS _ (lv_sub hl [1, 0] rfl)
        · replace h := itT h c_5
          refine lv_iload_n hx hb d_Me_endOfLine_32 rfl (lv_at hl 1 rfl) ?_
          obtain rfl := Option.some.inj h
          exact W.iret (v := x2) hx hb hr (fun t ht hW => ⟨⟨x2, (), rfl, rfl, by rw [ht]; exact hP, hD⟩, hS.F ht⟩) hS.2.2 d_Me_endOfLine_33 hlk
set_option maxHeartbeats 4000000 in
set_option maxRecDepth 100000 in
theorem c_Me_endOfLine {l : Launch} {dC : Nat → ClassId} {dI : Nat → Nat → Nat} {cB cI : ClassId} {aK aV : Nat → Nat} (N : Nat) (h_this h_this_row : Nat) (v_size : Int32) (v_row : Nat → Int32) (x1 : Int32) (z : Int32) (h : f_Me_endOfLine N x1 v_size v_row = some z) : Ci l y_Me_endOfLine prog_4_method_5_code 3 (some .int) ({ frames := 1, cells := 0, slots := 0, locals := 21 }) (dC, dI) cB cI aK aV [.ref h_this, .int x1] [(h_this, .inr (2, [.ref h_this_row, .int v_size])), (h_this_row, .inl (cB, 300, .inl v_row))] (fun A => (Qi (dC, dI) [(h_this, .inr (2, [.ref h_this_row, .int v_size])), (h_this_row, .inl (cB, 300, .inl v_row))] A z)) := by
  refine Ci_of (by decide) (Nat.le_of_ble_eq_true rfl) (fun p e s m below meth c A C hK hnm hA hP hD ls hl => ?_)
  obtain ⟨hx, hb, hr, hml, hown, hts, hlk⟩ := id C
  have hS : va_S A s.heap s.heap [] := va_S.rf
  have hl : lv_has ls 3 [(0, .ref h_this), (1, .int x1)] := hl
  rw [f_Me_endOfLine] at h
  refine lv_iload_n hx hb d_Me_endOfLine_0 rfl (lv_at hl 1 rfl) ?_
  refine lv_istore_n (lv' := [(2, .int x1), (0, .ref h_this), (1, .int x1)]) hx hb d_Me_endOfLine_1 rfl hl (by decide) rfl (fun ls hl => ?_)
  exact k_Me_endOfLine_2 C hK hA N h_this h_this_row v_size v_row z N x1 h _ _ hP hD hS _ (lv_sub hl [1, 0] rfl)
set_option maxHeartbeats 4000000 in
set_option maxRecDepth 100000 in
theorem c_Me_isNameByte {l : Launch} {dC : Nat → ClassId} {dI : Nat → Nat → Nat} {cB cI : ClassId} {aK aV : Nat → Nat} (N : Nat) (x0 : Int32) (z : Int32) (h : f_Me_isNameByte N x0 = some z) : Ci l y_Me_isNameByte prog_4_method_8_code 1 (some .boolean) ({ frames := 0, cells := 0, slots := 0, locals := 0 }) (dC, dI) cB cI aK aV [.int x0] [] (fun A => (Qi (dC, dI) [] A z)) := by
  refine Ci_of (by decide) (Nat.le_of_ble_eq_true rfl) (fun p e s m below meth c A C hK hnm hA hP hD ls hl => ?_)
  obtain ⟨hx, hb, hr, hml, hown, hts, hlk⟩ := id C
  have hS : va_S A s.heap s.heap [] := va_S.rf
  have hl : lv_has ls 1 [(0, .int x0)] := hl
  rw [f_Me_isNameByte] at h
  refine lv_iload_n hx hb d_Me_isNameByte_0 rfl (lv_at hl 0 rfl) ?_
  refine lv_bipush (v := 33) hx hb d_Me_isNameByte_1 (by decide) ?_
  refine lv_icmp_lt (tgt := 22) hx hb d_Me_isNameByte_3 (by decide) (fun c_1 => ?_) (fun c_1 => ?_)
  · replace h := itT h c_1
    refine lv_iconst (v := 0) hx hb d_Me_isNameByte_22 (by decide) ?_
    obtain rfl := Option.some.inj h
    exact W.zret (v := 0) hx hb hr rfl (fun t ht hW => ⟨⟨0, (), rfl, rfl, by rw [ht]; exact hP, hD⟩, hS.F ht⟩) hS.2.2 d_Me_isNameByte_23 hlk
  · replace h := itF h c_1
    refine lv_iload_n hx hb d_Me_isNameByte_6 rfl (lv_at hl 0 rfl) ?_
    refine lv_bipush (v := 126) hx hb d_Me_isNameByte_7 (by decide) ?_
    refine lv_icmp_gt (tgt := 22) hx hb d_Me_isNameByte_9 (by decide) (fun c_2 => ?_) (fun c_2 => ?_)
    · replace h := itT h c_2
      refine lv_iconst (v := 0) hx hb d_Me_isNameByte_22 (by decide) ?_
      obtain rfl := Option.some.inj h
      exact W.zret (v := 0) hx hb hr rfl (fun t ht hW => ⟨⟨0, (), rfl, rfl, by rw [ht]; exact hP, hD⟩, hS.F ht⟩) hS.2.2 d_Me_isNameByte_23 hlk
    · replace h := itF h c_2
      refine lv_iload_n hx hb d_Me_isNameByte_12 rfl (lv_at hl 0 rfl) ?_
      refine lv_bipush (v := 58) hx hb d_Me_isNameByte_13 (by decide) ?_
      refine lv_icmp_eq (tgt := 22) hx hb d_Me_isNameByte_15 (by decide) (fun c_3 => ?_) (fun c_3 => ?_)
      · replace h := itT h c_3
        refine lv_iconst (v := 0) hx hb d_Me_isNameByte_22 (by decide) ?_
        obtain rfl := Option.some.inj h
        exact W.zret (v := 0) hx hb hr rfl (fun t ht hW => ⟨⟨0, (), rfl, rfl, by rw [ht]; exact hP, hD⟩, hS.F ht⟩) hS.2.2 d_Me_isNameByte_23 hlk
      · replace h := itF h c_3
        refine lv_iconst (v := 1) hx hb d_Me_isNameByte_18 (by decide) ?_
        refine lv_goto (tgt := 23) hx hb d_Me_isNameByte_19 (by decide) ?_
        obtain rfl := Option.some.inj h
        exact W.zret (v := 1) hx hb hr rfl (fun t ht hW => ⟨⟨1, (), rfl, rfl, by rw [ht]; exact hP, hD⟩, hS.F ht⟩) hS.2.2 d_Me_isNameByte_23 hlk
set_option maxHeartbeats 4000000 in
set_option maxRecDepth 100000 in
theorem k_Me_endOfName_2 {p : Program} {l : Launch} {e : Env} {s : State} {m : MethodId} {args : Array Value} {below : List Frame} {meth : Method} {c : Code} {dC : Nat → ClassId} {dI : Nat → Nat → Nat} {cB cI : ClassId} {aK aV : Nat → Nat} {A : Nat → Prop} (C : cx p s m args meth c R_Me prog_4_method_6_code 3 (some .int)) (hK : kx (dC, dI) cB cI aK aV A s) (hA : ∀ q : Nat, s.heap.size ≤ q → A q) (N : Nat) (h_this h_this_row : Nat) (v_size : Int32) (v_row : Nat → Int32) (z : Int32) :
    ∀ (n : Nat), ∀ (x2 : Int32), f_Me_endOfName_2 N v_size v_row n x2 = some z → ∀ (H : Heap) (locs : List Loc), va_P (dC, dI) classes [(h_this, .inr (2, [.ref h_this_row, .int v_size])), (h_this_row, .inl (cB, 300, .inl v_row))] H → va_D A [(h_this, .inr (2, [.ref h_this_row, .int v_size])), (h_this_row, .inl (cB, 300, .inl v_row))] → va_S A s.heap H locs → ∀ ls : Array Slot, lv_has ls 3 [(0, .ref h_this), (2, .int x2)] → W p l e ({ frames := 1, cells := 0, slots := 0, locals := 21 }) s m args below meth c H locs 0 0 (MQ below (Qi (dC, dI) [(h_this, .inr (2, [.ref h_this_row, .int v_size])), (h_this_row, .inl (cB, 300, .inl v_row))] A z) args s 0 0 A) (F0 m 2 ls []) := by
  obtain ⟨hx, hb, hr, hml, hown, hts, hlk⟩ := id C
  intro n
  induction n with
  | zero =>
    intro x2 h
    rw [f_Me_endOfName_2] at h
    cases h
  | succ n ih =>
    intro x2 h H locs hP hD hS ls hl
    rw [f_Me_endOfName_2] at h
    refine lv_iload_n hx hb d_Me_endOfName_2 rfl (lv_at hl 1 rfl) ?_
    refine lv_aload_n hx hb d_Me_endOfName_3 rfl (lv_at hl 0 rfl) ?_
    refine va_get (D := (dC, dI)) (ci := 2) (v := .int v_size) (C := R_Me) (T := F_Me) (N := 2) hx hb hts in_Me hown hK.1 hP 0 rfl rfl 1 (by decide) (hts _ m_28) (fun _ h9 => h9) rfl d_Me_endOfName_4 ?_
    refine lv_icmp_ge (tgt := 27) hx hb d_Me_endOfName_7 (by decide) (fun c_1 => ?_) (fun c_1 => ?_)
    · replace h := itT h c_1
      refine lv_iload_n hx hb d_Me_endOfName_27 rfl (lv_at hl 1 rfl) ?_
      obtain rfl := Option.some.inj h
      exact W.iret (v := x2) hx hb hr (fun t ht hW => ⟨⟨x2, (), rfl, rfl, by rw [ht]; exact hP, hD⟩, hS.F ht⟩) hS.2.2 d_Me_endOfName_28 hlk
    · replace h := itF h c_1
      refine lv_aload_n hx hb d_Me_endOfName_10 rfl (lv_at hl 0 rfl) ?_
      refine lv_iload_n hx hb d_Me_endOfName_11 rfl (lv_at hl 1 rfl) ?_
      obtain ⟨z2, hc_2, h⟩ := bs h
      refine go_i (wr := []) (w1 := [(h_this, .inr (2, [.ref h_this_row, .int v_size])), (h_this_row, .inl (cB, 300, .inl v_row))]) (ws2 := [(h_this, .inr (2, [.ref h_this_row, .int v_size])), (h_this_row, .inl (cB, 300, .inl v_row))]) hP hD hS hA [0, 1] [] [0, 1] rfl (by decide) rfl (by decide) (by decide) rfl (by decide) (fun hPc hDc hFc => rn_V (As := [.int x2]) (rest := []) C hK (c_Me_byteAt N h_this h_this_row v_size v_row x2 z2 hc_2 _) ⟨rfl, rfl⟩ m_161 ok_Me_byteAt ⟨by decide, by decide⟩ rfl rfl rfl hl.1 rfl (Nat.le_of_ble_eq_true rfl) d_Me_endOfName_12 ⟨by decide, by decide⟩ hS hPc hDc hFc) (fun H locs hP hD hS => ?_)
      obtain ⟨z3, hc_3, h⟩ := bs h
      refine go_i (wr := [(h_this, .inr (2, [.ref h_this_row, .int v_size])), (h_this_row, .inl (cB, 300, .inl v_row))]) (w1 := []) (ws2 := [(h_this, .inr (2, [.ref h_this_row, .int v_size])), (h_this_row, .inl (cB, 300, .inl v_row))]) hP hD hS hA [] [0, 1] [0, 1] rfl (by decide) rfl (by decide) (by decide) rfl (by decide) (fun hPc hDc hFc => rn_S (As := [.int z2]) (rest := []) C hK (c_Me_isNameByte N z2 z3 hc_3 _) ⟨rfl, rfl⟩ m_165 ok_Me_isNameByte ⟨by decide, by decide⟩ hl.1 rfl (Nat.le_of_ble_eq_true rfl) d_Me_endOfName_15 ⟨by decide, by decide⟩ hS hPc hDc hFc) (fun H locs hP hD hS => ?_)
      refine lv_if_eq (tgt := 27) hx hb d_Me_endOfName_18 (by decide) (fun c_4 => ?_) (fun c_4 => ?_)
      · replace h := itT h c_4
        refine lv_iload_n hx hb d_Me_endOfName_27 rfl (lv_at hl 1 rfl) ?_
        obtain rfl := Option.some.inj h
        exact W.iret (v := x2) hx hb hr (fun t ht hW => ⟨⟨x2, (), rfl, rfl, by rw [ht]; exact hP, hD⟩, hS.F ht⟩) hS.2.2 d_Me_endOfName_28 hlk
      · replace h := itF h c_4
        refine lv_iinc (v := x2 + 1) (lv' := [(2, .int (x2 + 1)), (0, .ref h_this)]) hx hb d_Me_endOfName_21 hl (k := 1) rfl rfl (by decide) rfl (fun ls hl => ?_)
        refine lv_goto (tgt := 2) hx hb d_Me_endOfName_24 (by decide) ?_
        exact ih (x2 + 1) h _ _ hP hD hS _ (lv_sub hl [1, 0] rfl)
set_option maxHeartbeats 4000000 in
set_option maxRecDepth 100000 in
theorem c_Me_endOfName {l : Launch} {dC : Nat → ClassId} {dI : Nat → Nat → Nat} {cB cI : ClassId} {aK aV : Nat → Nat} (N : Nat) (h_this h_this_row : Nat) (v_size : Int32) (v_row : Nat → Int32) (x1 : Int32) (z : Int32) (h : f_Me_endOfName N x1 v_size v_row = some z) : Ci l y_Me_endOfName prog_4_method_6_code 3 (some .int) ({ frames := 1, cells := 0, slots := 0, locals := 21 }) (dC, dI) cB cI aK aV [.ref h_this, .int x1] [(h_this, .inr (2, [.ref h_this_row, .int v_size])), (h_this_row, .inl (cB, 300, .inl v_row))] (fun A => (Qi (dC, dI) [(h_this, .inr (2, [.ref h_this_row, .int v_size])), (h_this_row, .inl (cB, 300, .inl v_row))] A z)) := by
  refine Ci_of (by decide) (Nat.le_of_ble_eq_true rfl) (fun p e s m below meth c A C hK hnm hA hP hD ls hl => ?_)
  obtain ⟨hx, hb, hr, hml, hown, hts, hlk⟩ := id C
  have hS : va_S A s.heap s.heap [] := va_S.rf
  have hl : lv_has ls 3 [(0, .ref h_this), (1, .int x1)] := hl
  rw [f_Me_endOfName] at h
  refine lv_iload_n hx hb d_Me_endOfName_0 rfl (lv_at hl 1 rfl) ?_
  refine lv_istore_n (lv' := [(2, .int x1), (0, .ref h_this), (1, .int x1)]) hx hb d_Me_endOfName_1 rfl hl (by decide) rfl (fun ls hl => ?_)
  exact k_Me_endOfName_2 C hK hA N h_this h_this_row v_size v_row z N x1 h _ _ hP hD hS _ (lv_sub hl [1, 0] rfl)
set_option maxHeartbeats 4000000 in
set_option maxRecDepth 100000 in
theorem c_De_isBlank {l : Launch} {dC : Nat → ClassId} {dI : Nat → Nat → Nat} {cB cI : ClassId} {aK aV : Nat → Nat} (N : Nat) (x0 : Int32) (z : Int32) (h : f_De_isBlank N x0 = some z) : Ci l y_De_isBlank prog_1_method_10_code 1 (some .boolean) ({ frames := 0, cells := 0, slots := 0, locals := 0 }) (dC, dI) cB cI aK aV [.int x0] [] (fun A => (Qi (dC, dI) [] A z)) := by
  refine Ci_of (by decide) (Nat.le_of_ble_eq_true rfl) (fun p e s m below meth c A C hK hnm hA hP hD ls hl => ?_)
  obtain ⟨hx, hb, hr, hml, hown, hts, hlk⟩ := id C
  have hS : va_S A s.heap s.heap [] := va_S.rf
  have hl : lv_has ls 1 [(0, .int x0)] := hl
  rw [f_De_isBlank] at h
  refine lv_iload_n hx hb d_De_isBlank_0 rfl (lv_at hl 0 rfl) ?_
  refine lv_bipush (v := 32) hx hb d_De_isBlank_1 (by decide) ?_
  refine lv_icmp_eq (tgt := 12) hx hb d_De_isBlank_3 (by decide) (fun c_1 => ?_) (fun c_1 => ?_)
  · replace h := itT h c_1
    refine lv_iconst (v := 1) hx hb d_De_isBlank_12 (by decide) ?_
    refine lv_goto (tgt := 17) hx hb d_De_isBlank_13 (by decide) ?_
    obtain rfl := Option.some.inj h
    exact W.zret (v := 1) hx hb hr rfl (fun t ht hW => ⟨⟨1, (), rfl, rfl, by rw [ht]; exact hP, hD⟩, hS.F ht⟩) hS.2.2 d_De_isBlank_17 hlk
  · replace h := itF h c_1
    refine lv_iload_n hx hb d_De_isBlank_6 rfl (lv_at hl 0 rfl) ?_
    refine lv_bipush (v := 9) hx hb d_De_isBlank_7 (by decide) ?_
    refine lv_icmp_ne (tgt := 16) hx hb d_De_isBlank_9 (by decide) (fun c_2 => ?_) (fun c_2 => ?_)
    · replace h := itF h c_2
      refine lv_iconst (v := 0) hx hb d_De_isBlank_16 (by decide) ?_
      obtain rfl := Option.some.inj h
      exact W.zret (v := 0) hx hb hr rfl (fun t ht hW => ⟨⟨0, (), rfl, rfl, by rw [ht]; exact hP, hD⟩, hS.F ht⟩) hS.2.2 d_De_isBlank_17 hlk
    · replace h := itT h c_2
      refine lv_iconst (v := 1) hx hb d_De_isBlank_12 (by decide) ?_
      refine lv_goto (tgt := 17) hx hb d_De_isBlank_13 (by decide) ?_
      obtain rfl := Option.some.inj h
      exact W.zret (v := 1) hx hb hr rfl (fun t ht hW => ⟨⟨1, (), rfl, rfl, by rw [ht]; exact hP, hD⟩, hS.F ht⟩) hS.2.2 d_De_isBlank_17 hlk
set_option maxHeartbeats 4000000 in
set_option maxRecDepth 100000 in
theorem k_Me_endOfBlanks_2 {p : Program} {l : Launch} {e : Env} {s : State} {m : MethodId} {args : Array Value} {below : List Frame} {meth : Method} {c : Code} {dC : Nat → ClassId} {dI : Nat → Nat → Nat} {cB cI : ClassId} {aK aV : Nat → Nat} {A : Nat → Prop} (C : cx p s m args meth c R_Me prog_4_method_7_code 3 (some .int)) (hK : kx (dC, dI) cB cI aK aV A s) (hA : ∀ q : Nat, s.heap.size ≤ q → A q) (N : Nat) (h_this h_this_row : Nat) (v_size : Int32) (v_row : Nat → Int32) (z : Int32) :
    ∀ (n : Nat), ∀ (x2 : Int32), f_Me_endOfBlanks_2 N v_size v_row n x2 = some z → ∀ (H : Heap) (locs : List Loc), va_P (dC, dI) classes [(h_this, .inr (2, [.ref h_this_row, .int v_size])), (h_this_row, .inl (cB, 300, .inl v_row))] H → va_D A [(h_this, .inr (2, [.ref h_this_row, .int v_size])), (h_this_row, .inl (cB, 300, .inl v_row))] → va_S A s.heap H locs → ∀ ls : Array Slot, lv_has ls 3 [(0, .ref h_this), (2, .int x2)] → W p l e ({ frames := 1, cells := 0, slots := 0, locals := 21 }) s m args below meth c H locs 0 0 (MQ below (Qi (dC, dI) [(h_this, .inr (2, [.ref h_this_row, .int v_size])), (h_this_row, .inl (cB, 300, .inl v_row))] A z) args s 0 0 A) (F0 m 2 ls []) := by
  obtain ⟨hx, hb, hr, hml, hown, hts, hlk⟩ := id C
  intro n
  induction n with
  | zero =>
    intro x2 h
    rw [f_Me_endOfBlanks_2] at h
    cases h
  | succ n ih =>
    intro x2 h H locs hP hD hS ls hl
    rw [f_Me_endOfBlanks_2] at h
    refine lv_iload_n hx hb d_Me_endOfBlanks_2 rfl (lv_at hl 1 rfl) ?_
    refine lv_aload_n hx hb d_Me_endOfBlanks_3 rfl (lv_at hl 0 rfl) ?_
    refine va_get (D := (dC, dI)) (ci := 2) (v := .int v_size) (C := R_Me) (T := F_Me) (N := 2) hx hb hts in_Me hown hK.1 hP 0 rfl rfl 1 (by decide) (hts _ m_28) (fun _ h9 => h9) rfl d_Me_endOfBlanks_4 ?_
    refine lv_icmp_ge (tgt := 27) hx hb d_Me_endOfBlanks_7 (by decide) (fun c_1 => ?_) (fun c_1 => ?_)
    · replace h := itT h c_1
      refine lv_iload_n hx hb d_Me_endOfBlanks_27 rfl (lv_at hl 1 rfl) ?_
      obtain rfl := Option.some.inj h
      exact W.iret (v := x2) hx hb hr (fun t ht hW => ⟨⟨x2, (), rfl, rfl, by rw [ht]; exact hP, hD⟩, hS.F ht⟩) hS.2.2 d_Me_endOfBlanks_28 hlk
    · replace h := itF h c_1
      refine lv_aload_n hx hb d_Me_endOfBlanks_10 rfl (lv_at hl 0 rfl) ?_
      refine lv_iload_n hx hb d_Me_endOfBlanks_11 rfl (lv_at hl 1 rfl) ?_
      obtain ⟨z2, hc_2, h⟩ := bs h
      refine go_i (wr := []) (w1 := [(h_this, .inr (2, [.ref h_this_row, .int v_size])), (h_this_row, .inl (cB, 300, .inl v_row))]) (ws2 := [(h_this, .inr (2, [.ref h_this_row, .int v_size])), (h_this_row, .inl (cB, 300, .inl v_row))]) hP hD hS hA [0, 1] [] [0, 1] rfl (by decide) rfl (by decide) (by decide) rfl (by decide) (fun hPc hDc hFc => rn_V (As := [.int x2]) (rest := []) C hK (c_Me_byteAt N h_this h_this_row v_size v_row x2 z2 hc_2 _) ⟨rfl, rfl⟩ m_161 ok_Me_byteAt ⟨by decide, by decide⟩ rfl rfl rfl hl.1 rfl (Nat.le_of_ble_eq_true rfl) d_Me_endOfBlanks_12 ⟨by decide, by decide⟩ hS hPc hDc hFc) (fun H locs hP hD hS => ?_)
      obtain ⟨z3, hc_3, h⟩ := bs h
      refine go_i (wr := [(h_this, .inr (2, [.ref h_this_row, .int v_size])), (h_this_row, .inl (cB, 300, .inl v_row))]) (w1 := []) (ws2 := [(h_this, .inr (2, [.ref h_this_row, .int v_size])), (h_this_row, .inl (cB, 300, .inl v_row))]) hP hD hS hA [] [0, 1] [0, 1] rfl (by decide) rfl (by decide) (by decide) rfl (by decide) (fun hPc hDc hFc => rn_SN (As := [.int z2]) (rest := []) C hK (c_De_isBlank N z2 z3 hc_3 _) ⟨rfl, rfl⟩ mn_172 ok_De_isBlank ⟨by decide, by decide⟩ hl.1 rfl (Nat.le_of_ble_eq_true rfl) d_Me_endOfBlanks_15 ⟨by decide, by decide⟩ hS hPc hDc hFc) (fun H locs hP hD hS => ?_)
      refine lv_if_eq (tgt := 27) hx hb d_Me_endOfBlanks_18 (by decide) (fun c_4 => ?_) (fun c_4 => ?_)
      · replace h := itT h c_4
        refine lv_iload_n hx hb d_Me_endOfBlanks_27 rfl (lv_at hl 1 rfl) ?_
        obtain rfl := Option.some.inj h
        exact W.iret (v := x2) hx hb hr (fun t ht hW => ⟨⟨x2, (), rfl, rfl, by rw [ht]; exact hP, hD⟩, hS.F ht⟩) hS.2.2 d_Me_endOfBlanks_28 hlk
      · replace h := itF h c_4
        refine lv_iinc (v := x2 + 1) (lv' := [(2, .int (x2 + 1)), (0, .ref h_this)]) hx hb d_Me_endOfBlanks_21 hl (k := 1) rfl rfl (by decide) rfl (fun ls hl => ?_)
        refine lv_goto (tgt := 2) hx hb d_Me_endOfBlanks_24 (by decide) ?_
        exact ih (x2 + 1) h _ _ hP hD hS _ (lv_sub hl [1, 0] rfl)
set_option maxHeartbeats 4000000 in
set_option maxRecDepth 100000 in
theorem c_Me_endOfBlanks {l : Launch} {dC : Nat → ClassId} {dI : Nat → Nat → Nat} {cB cI : ClassId} {aK aV : Nat → Nat} (N : Nat) (h_this h_this_row : Nat) (v_size : Int32) (v_row : Nat → Int32) (x1 : Int32) (z : Int32) (h : f_Me_endOfBlanks N x1 v_size v_row = some z) : Ci l y_Me_endOfBlanks prog_4_method_7_code 3 (some .int) ({ frames := 1, cells := 0, slots := 0, locals := 21 }) (dC, dI) cB cI aK aV [.ref h_this, .int x1] [(h_this, .inr (2, [.ref h_this_row, .int v_size])), (h_this_row, .inl (cB, 300, .inl v_row))] (fun A => (Qi (dC, dI) [(h_this, .inr (2, [.ref h_this_row, .int v_size])), (h_this_row, .inl (cB, 300, .inl v_row))] A z)) := by
  refine Ci_of (by decide) (Nat.le_of_ble_eq_true rfl) (fun p e s m below meth c A C hK hnm hA hP hD ls hl => ?_)
  obtain ⟨hx, hb, hr, hml, hown, hts, hlk⟩ := id C
  have hS : va_S A s.heap s.heap [] := va_S.rf
  have hl : lv_has ls 3 [(0, .ref h_this), (1, .int x1)] := hl
  rw [f_Me_endOfBlanks] at h
  refine lv_iload_n hx hb d_Me_endOfBlanks_0 rfl (lv_at hl 1 rfl) ?_
  refine lv_istore_n (lv' := [(2, .int x1), (0, .ref h_this), (1, .int x1)]) hx hb d_Me_endOfBlanks_1 rfl hl (by decide) rfl (fun ls hl => ?_)
  exact k_Me_endOfBlanks_2 C hK hA N h_this h_this_row v_size v_row z N x1 h _ _ hP hD hS _ (lv_sub hl [1, 0] rfl)
set_option maxHeartbeats 4000000 in
set_option maxRecDepth 100000 in
theorem c_De_lowered {l : Launch} {dC : Nat → ClassId} {dI : Nat → Nat → Nat} {cB cI : ClassId} {aK aV : Nat → Nat} (N : Nat) (x0 : Int32) (z : Int32) (h : f_De_lowered N x0 = some z) : Ci l y_De_lowered prog_1_method_11_code 1 (some .int) ({ frames := 0, cells := 0, slots := 0, locals := 0 }) (dC, dI) cB cI aK aV [.int x0] [] (fun A => (Qi (dC, dI) [] A z)) := by
  refine Ci_of (by decide) (Nat.le_of_ble_eq_true rfl) (fun p e s m below meth c A C hK hnm hA hP hD ls hl => ?_)
  obtain ⟨hx, hb, hr, hml, hown, hts, hlk⟩ := id C
  have hS : va_S A s.heap s.heap [] := va_S.rf
  have hl : lv_has ls 1 [(0, .int x0)] := hl
  rw [f_De_lowered] at h
  refine lv_iload_n hx hb d_De_lowered_0 rfl (lv_at hl 0 rfl) ?_
  refine lv_bipush (v := 65) hx hb d_De_lowered_1 (by decide) ?_
  refine lv_icmp_lt (tgt := 22) hx hb d_De_lowered_3 (by decide) (fun c_1 => ?_) (fun c_1 => ?_)
  · replace h := itT h c_1
    refine lv_iload_n hx hb d_De_lowered_22 rfl (lv_at hl 0 rfl) ?_
    obtain rfl := Option.some.inj h
    exact W.iret (v := x0) hx hb hr (fun t ht hW => ⟨⟨x0, (), rfl, rfl, by rw [ht]; exact hP, hD⟩, hS.F ht⟩) hS.2.2 d_De_lowered_23 hlk
  · replace h := itF h c_1
    refine lv_iload_n hx hb d_De_lowered_6 rfl (lv_at hl 0 rfl) ?_
    refine lv_bipush (v := 90) hx hb d_De_lowered_7 (by decide) ?_
    refine lv_icmp_gt (tgt := 22) hx hb d_De_lowered_9 (by decide) (fun c_2 => ?_) (fun c_2 => ?_)
    · replace h := itT h c_2
      refine lv_iload_n hx hb d_De_lowered_22 rfl (lv_at hl 0 rfl) ?_
      obtain rfl := Option.some.inj h
      exact W.iret (v := x0) hx hb hr (fun t ht hW => ⟨⟨x0, (), rfl, rfl, by rw [ht]; exact hP, hD⟩, hS.F ht⟩) hS.2.2 d_De_lowered_23 hlk
    · replace h := itF h c_2
      refine lv_iload_n hx hb d_De_lowered_12 rfl (lv_at hl 0 rfl) ?_
      refine lv_bipush (v := 65) hx hb d_De_lowered_13 (by decide) ?_
      refine lv_isub hx hb d_De_lowered_15 ?_
      refine lv_bipush (v := 97) hx hb d_De_lowered_16 (by decide) ?_
      refine lv_iadd hx hb d_De_lowered_18 ?_
      refine lv_goto (tgt := 23) hx hb d_De_lowered_19 (by decide) ?_
      obtain rfl := Option.some.inj h
      exact W.iret (v := (x0 - 65) + 97) hx hb hr (fun t ht hW => ⟨⟨(x0 - 65) + 97, (), rfl, rfl, by rw [ht]; exact hP, hD⟩, hS.F ht⟩) hS.2.2 d_De_lowered_23 hlk
end
section
theorem m_4 : (Cond.initialized "HeaderDesk$Texts") ∈ wAll := List.mem_filter.mpr ⟨List.mem_append_right _ (List.mem_of_getElem? (i := 4) (by decide +kernel)), by decide +kernel⟩
theorem m_46 : (Cond.instanceMethod ({ cls := "HeaderDesk$Texts", name := "<init>", desc := "()V" } : Jvm.MethodName)) ∈ wAll := List.mem_filter.mpr ⟨List.mem_append_right _ (List.mem_of_getElem? (i := 46) (by decide +kernel)), by decide +kernel⟩
theorem m_47 : (Cond.code ({ cls := "HeaderDesk$Texts", name := "<init>", desc := "()V" } : Jvm.MethodName) prog_5_method_1_code (1 : Nat) (Option.none : Option Jvm.ClassFile.FieldType)) ∈ wAll := List.mem_filter.mpr ⟨List.mem_append_right _ (List.mem_of_getElem? (i := 47) (by decide +kernel)), by decide +kernel⟩
theorem m_48 : (Cond.methodLink "HeaderDesk$Texts" (3 : Nat) ({ cls := "java/lang/Object", name := "<init>", desc := "()V" } : Jvm.MethodName)) ∈ wAll := List.mem_filter.mpr ⟨List.mem_append_right _ (List.mem_of_getElem? (i := 48) (by decide +kernel)), by decide +kernel⟩
theorem m_49 : (Cond.fieldLink "HeaderDesk$Texts" (9 : Nat) "HeaderDesk$Texts" "row" "[B") ∈ wAll := List.mem_filter.mpr ⟨List.mem_append_right _ (List.mem_of_getElem? (i := 49) (by decide +kernel)), by decide +kernel⟩
theorem m_50 : (Cond.fieldLink "HeaderDesk$Texts" (15 : Nat) "HeaderDesk$Texts" "starts" "[I") ∈ wAll := List.mem_filter.mpr ⟨List.mem_append_right _ (List.mem_of_getElem? (i := 50) (by decide +kernel)), by decide +kernel⟩
theorem m_51 : (Cond.fieldLink "HeaderDesk$Texts" (19 : Nat) "HeaderDesk$Texts" "lengths" "[I") ∈ wAll := List.mem_filter.mpr ⟨List.mem_append_right _ (List.mem_of_getElem? (i := 51) (by decide +kernel)), by decide +kernel⟩
theorem m_52 : (Cond.fieldLink "HeaderDesk$Texts" (22 : Nat) "HeaderDesk$Texts" "size" "I") ∈ wAll := List.mem_filter.mpr ⟨List.mem_append_right _ (List.mem_of_getElem? (i := 52) (by decide +kernel)), by decide +kernel⟩
theorem m_55 : (Cond.fieldLink "HeaderDesk$Texts" (26 : Nat) "HeaderDesk$Texts" "openStart" "I") ∈ wAll := List.mem_filter.mpr ⟨List.mem_append_right _ (List.mem_of_getElem? (i := 55) (by decide +kernel)), by decide +kernel⟩
theorem m_56 : (Cond.fieldLink "HeaderDesk$Texts" (29 : Nat) "HeaderDesk$Texts" "openLength" "I") ∈ wAll := List.mem_filter.mpr ⟨List.mem_append_right _ (List.mem_of_getElem? (i := 56) (by decide +kernel)), by decide +kernel⟩
theorem m_72 : (Cond.arrayClass Jvm.ClassFile.FieldType.int) ∈ wAll := List.mem_filter.mpr ⟨List.mem_append_right _ (List.mem_of_getElem? (i := 72) (by decide +kernel)), by decide +kernel⟩
theorem m_151 : (Cond.instanceMethod ({ cls := "HeaderDesk$Texts", name := "clear", desc := "()V" } : Jvm.MethodName)) ∈ wAll := List.mem_filter.mpr ⟨List.mem_append_right _ (List.mem_of_getElem? (i := 151) (by decide +kernel)), by decide +kernel⟩
theorem m_152 : (Cond.code ({ cls := "HeaderDesk$Texts", name := "clear", desc := "()V" } : Jvm.MethodName) prog_5_method_2_code (1 : Nat) (Option.none : Option Jvm.ClassFile.FieldType)) ∈ wAll := List.mem_filter.mpr ⟨List.mem_append_right _ (List.mem_of_getElem? (i := 152) (by decide +kernel)), by decide +kernel⟩
theorem m_178 : (Cond.instanceMethod ({ cls := "HeaderDesk$Texts", name := "append", desc := "(I)V" } : Jvm.MethodName)) ∈ wAll := List.mem_filter.mpr ⟨List.mem_append_right _ (List.mem_of_getElem? (i := 178) (by decide +kernel)), by decide +kernel⟩
theorem m_179 : (Cond.code ({ cls := "HeaderDesk$Texts", name := "append", desc := "(I)V" } : Jvm.MethodName) prog_5_method_3_code (3 : Nat) (Option.none : Option Jvm.ClassFile.FieldType)) ∈ wAll := List.mem_filter.mpr ⟨List.mem_append_right _ (List.mem_of_getElem? (i := 179) (by decide +kernel)), by decide +kernel⟩
theorem m_182 : (Cond.instanceMethod ({ cls := "HeaderDesk$Texts", name := "closeOpen", desc := "()V" } : Jvm.MethodName)) ∈ wAll := List.mem_filter.mpr ⟨List.mem_append_right _ (List.mem_of_getElem? (i := 182) (by decide +kernel)), by decide +kernel⟩
theorem m_183 : (Cond.code ({ cls := "HeaderDesk$Texts", name := "closeOpen", desc := "()V" } : Jvm.MethodName) prog_5_method_7_code (1 : Nat) (Option.none : Option Jvm.ClassFile.FieldType)) ∈ wAll := List.mem_filter.mpr ⟨List.mem_append_right _ (List.mem_of_getElem? (i := 183) (by decide +kernel)), by decide +kernel⟩
theorem m_198 : (Cond.instanceMethod ({ cls := "HeaderDesk$Texts", name := "dropBlanksAtOpenEnd", desc := "()V" } : Jvm.MethodName)) ∈ wAll := List.mem_filter.mpr ⟨List.mem_append_right _ (List.mem_of_getElem? (i := 198) (by decide +kernel)), by decide +kernel⟩
theorem m_199 : (Cond.code ({ cls := "HeaderDesk$Texts", name := "dropBlanksAtOpenEnd", desc := "()V" } : Jvm.MethodName) prog_5_method_6_code (1 : Nat) (Option.none : Option Jvm.ClassFile.FieldType)) ∈ wAll := List.mem_filter.mpr ⟨List.mem_append_right _ (List.mem_of_getElem? (i := 199) (by decide +kernel)), by decide +kernel⟩
theorem m_200 : (Cond.methodLink "HeaderDesk$Texts" (32 : Nat) ({ cls := "HeaderDesk$Texts", name := "openByteAt", desc := "(I)I" } : Jvm.MethodName)) ∈ wAll := List.mem_filter.mpr ⟨List.mem_append_right _ (List.mem_of_getElem? (i := 200) (by decide +kernel)), by decide +kernel⟩
theorem m_202 : (Cond.instanceMethod ({ cls := "HeaderDesk$Texts", name := "openByteAt", desc := "(I)I" } : Jvm.MethodName)) ∈ wAll := List.mem_filter.mpr ⟨List.mem_append_right _ (List.mem_of_getElem? (i := 202) (by decide +kernel)), by decide +kernel⟩
theorem m_203 : (Cond.code ({ cls := "HeaderDesk$Texts", name := "openByteAt", desc := "(I)I" } : Jvm.MethodName) prog_5_method_4_code (3 : Nat) (Option.some Jvm.ClassFile.FieldType.int)) ∈ wAll := List.mem_filter.mpr ⟨List.mem_append_right _ (List.mem_of_getElem? (i := 203) (by decide +kernel)), by decide +kernel⟩
theorem m_216 : (Cond.instanceMethod ({ cls := "HeaderDesk$Texts", name := "lengthOf", desc := "(I)I" } : Jvm.MethodName)) ∈ wAll := List.mem_filter.mpr ⟨List.mem_append_right _ (List.mem_of_getElem? (i := 216) (by decide +kernel)), by decide +kernel⟩
theorem m_217 : (Cond.code ({ cls := "HeaderDesk$Texts", name := "lengthOf", desc := "(I)I" } : Jvm.MethodName) prog_5_method_9_code (2 : Nat) (Option.some Jvm.ClassFile.FieldType.int)) ∈ wAll := List.mem_filter.mpr ⟨List.mem_append_right _ (List.mem_of_getElem? (i := 217) (by decide +kernel)), by decide +kernel⟩
theorem m_218 : (Cond.methodLink "HeaderDesk$Texts" (40 : Nat) ({ cls := "HeaderDesk$Texts", name := "has", desc := "(I)Z" } : Jvm.MethodName)) ∈ wAll := List.mem_filter.mpr ⟨List.mem_append_right _ (List.mem_of_getElem? (i := 218) (by decide +kernel)), by decide +kernel⟩
theorem m_220 : (Cond.instanceMethod ({ cls := "HeaderDesk$Texts", name := "has", desc := "(I)Z" } : Jvm.MethodName)) ∈ wAll := List.mem_filter.mpr ⟨List.mem_append_right _ (List.mem_of_getElem? (i := 220) (by decide +kernel)), by decide +kernel⟩
theorem m_221 : (Cond.code ({ cls := "HeaderDesk$Texts", name := "has", desc := "(I)Z" } : Jvm.MethodName) prog_5_method_8_code (2 : Nat) (Option.some Jvm.ClassFile.FieldType.boolean)) ∈ wAll := List.mem_filter.mpr ⟨List.mem_append_right _ (List.mem_of_getElem? (i := 221) (by decide +kernel)), by decide +kernel⟩
theorem m_224 : (Cond.instanceMethod ({ cls := "HeaderDesk$Texts", name := "byteAt", desc := "(II)I" } : Jvm.MethodName)) ∈ wAll := List.mem_filter.mpr ⟨List.mem_append_right _ (List.mem_of_getElem? (i := 224) (by decide +kernel)), by decide +kernel⟩
theorem m_225 : (Cond.code ({ cls := "HeaderDesk$Texts", name := "byteAt", desc := "(II)I" } : Jvm.MethodName) prog_5_method_10_code (4 : Nat) (Option.some Jvm.ClassFile.FieldType.int)) ∈ wAll := List.mem_filter.mpr ⟨List.mem_append_right _ (List.mem_of_getElem? (i := 225) (by decide +kernel)), by decide +kernel⟩
theorem m_347 : (Cond.instanceMethod ({ cls := "HeaderDesk$Texts", name := "dropOpen", desc := "()V" } : Jvm.MethodName)) ∈ wAll := List.mem_filter.mpr ⟨List.mem_append_right _ (List.mem_of_getElem? (i := 347) (by decide +kernel)), by decide +kernel⟩
theorem m_348 : (Cond.code ({ cls := "HeaderDesk$Texts", name := "dropOpen", desc := "()V" } : Jvm.MethodName) prog_5_method_5_code (1 : Nat) (Option.none : Option Jvm.ClassFile.FieldType)) ∈ wAll := List.mem_filter.mpr ⟨List.mem_append_right _ (List.mem_of_getElem? (i := 348) (by decide +kernel)), by decide +kernel⟩
theorem m_374 : (Cond.instanceMethod ({ cls := "HeaderDesk$Texts", name := "eightBytes", desc := "(II)J" } : Jvm.MethodName)) ∈ wAll := List.mem_filter.mpr ⟨List.mem_append_right _ (List.mem_of_getElem? (i := 374) (by decide +kernel)), by decide +kernel⟩
theorem m_375 : (Cond.code ({ cls := "HeaderDesk$Texts", name := "eightBytes", desc := "(II)J" } : Jvm.MethodName) prog_5_method_11_code (7 : Nat) (Option.some Jvm.ClassFile.FieldType.long)) ∈ wAll := List.mem_filter.mpr ⟨List.mem_append_right _ (List.mem_of_getElem? (i := 375) (by decide +kernel)), by decide +kernel⟩
theorem m_376 : (Cond.constantLong "HeaderDesk$Texts" (43 : Nat) (-1 : Int64)) ∈ wAll := List.mem_filter.mpr ⟨List.mem_append_right _ (List.mem_of_getElem? (i := 376) (by decide +kernel)), by decide +kernel⟩
theorem m_377 : (Cond.methodLink "HeaderDesk$Texts" (45 : Nat) ({ cls := "HeaderDesk$Texts", name := "byteAt", desc := "(II)I" } : Jvm.MethodName)) ∈ wAll := List.mem_filter.mpr ⟨List.mem_append_right _ (List.mem_of_getElem? (i := 377) (by decide +kernel)), by decide +kernel⟩
theorem m_403 : (Cond.instanceMethod ({ cls := "HeaderDesk$Texts", name := "areAlike", desc := "(II)Z" } : Jvm.MethodName)) ∈ wAll := List.mem_filter.mpr ⟨List.mem_append_right _ (List.mem_of_getElem? (i := 403) (by decide +kernel)), by decide +kernel⟩
theorem m_404 : (Cond.code ({ cls := "HeaderDesk$Texts", name := "areAlike", desc := "(II)Z" } : Jvm.MethodName) prog_5_method_12_code (5 : Nat) (Option.some Jvm.ClassFile.FieldType.boolean)) ∈ wAll := List.mem_filter.mpr ⟨List.mem_append_right _ (List.mem_of_getElem? (i := 404) (by decide +kernel)), by decide +kernel⟩
theorem m_405 : (Cond.methodLink "HeaderDesk$Texts" (49 : Nat) ({ cls := "HeaderDesk$Texts", name := "lengthOf", desc := "(I)I" } : Jvm.MethodName)) ∈ wAll := List.mem_filter.mpr ⟨List.mem_append_right _ (List.mem_of_getElem? (i := 405) (by decide +kernel)), by decide +kernel⟩
theorem mn_204 : (Cond.methodLinkNest "HeaderDesk$Texts" (36 : Nat) ({ cls := "HeaderDesk", name := "isBlank", desc := "(I)Z" } : Jvm.MethodName) "HeaderDesk") ∈ nwAll := List.mem_filter.mpr ⟨List.mem_append_right _ (List.mem_of_getElem? (i := 204) (by decide +kernel)), by decide +kernel⟩
theorem mn_406 : (Cond.methodLinkNest "HeaderDesk$Texts" (52 : Nat) ({ cls := "HeaderDesk", name := "lowered", desc := "(I)I" } : Jvm.MethodName) "HeaderDesk") ∈ nwAll := List.mem_filter.mpr ⟨List.mem_append_right _ (List.mem_of_getElem? (i := 406) (by decide +kernel)), by decide +kernel⟩
theorem d_Te_init_0 : decode prog_5_method_1_code 0 = .ok (.aload_n 0, 1) := by decide +kernel
theorem d_Te_init_1 : decode prog_5_method_1_code 1 = .ok (.invokespecial 3, 3) := by decide +kernel
theorem d_Te_init_4 : decode prog_5_method_1_code 4 = .ok (.aload_n 0, 1) := by decide +kernel
theorem d_Te_init_5 : decode prog_5_method_1_code 5 = .ok (.sipush 300, 3) := by decide +kernel
theorem d_Te_init_8 : decode prog_5_method_1_code 8 = .ok (.newarray .byte, 2) := by decide +kernel
theorem d_Te_init_10 : decode prog_5_method_1_code 10 = .ok (.putfield 9, 3) := by decide +kernel
theorem d_Te_init_13 : decode prog_5_method_1_code 13 = .ok (.aload_n 0, 1) := by decide +kernel
theorem d_Te_init_14 : decode prog_5_method_1_code 14 = .ok (.bipush 100, 2) := by decide +kernel
theorem d_Te_init_16 : decode prog_5_method_1_code 16 = .ok (.newarray .int, 2) := by decide +kernel
theorem d_Te_init_18 : decode prog_5_method_1_code 18 = .ok (.putfield 15, 3) := by decide +kernel
theorem d_Te_init_21 : decode prog_5_method_1_code 21 = .ok (.aload_n 0, 1) := by decide +kernel
theorem d_Te_init_22 : decode prog_5_method_1_code 22 = .ok (.bipush 100, 2) := by decide +kernel
theorem d_Te_init_24 : decode prog_5_method_1_code 24 = .ok (.newarray .int, 2) := by decide +kernel
theorem d_Te_init_26 : decode prog_5_method_1_code 26 = .ok (.putfield 19, 3) := by decide +kernel
theorem d_Te_init_29 : decode prog_5_method_1_code 29 = .ok (.return_, 1) := by decide +kernel
theorem d_Te_clear_0 : decode prog_5_method_2_code 0 = .ok (.aload_n 0, 1) := by decide +kernel
theorem d_Te_clear_1 : decode prog_5_method_2_code 1 = .ok (.iconst 0, 1) := by decide +kernel
theorem d_Te_clear_2 : decode prog_5_method_2_code 2 = .ok (.putfield 22, 3) := by decide +kernel
theorem d_Te_clear_5 : decode prog_5_method_2_code 5 = .ok (.aload_n 0, 1) := by decide +kernel
theorem d_Te_clear_6 : decode prog_5_method_2_code 6 = .ok (.iconst 0, 1) := by decide +kernel
theorem d_Te_clear_7 : decode prog_5_method_2_code 7 = .ok (.putfield 26, 3) := by decide +kernel
theorem d_Te_clear_10 : decode prog_5_method_2_code 10 = .ok (.aload_n 0, 1) := by decide +kernel
theorem d_Te_clear_11 : decode prog_5_method_2_code 11 = .ok (.iconst 0, 1) := by decide +kernel
theorem d_Te_clear_12 : decode prog_5_method_2_code 12 = .ok (.putfield 29, 3) := by decide +kernel
theorem d_Te_clear_15 : decode prog_5_method_2_code 15 = .ok (.return_, 1) := by decide +kernel
theorem d_Te_append_0 : decode prog_5_method_3_code 0 = .ok (.aload_n 0, 1) := by decide +kernel
theorem d_Te_append_1 : decode prog_5_method_3_code 1 = .ok (.getfield 26, 3) := by decide +kernel
theorem d_Te_append_4 : decode prog_5_method_3_code 4 = .ok (.aload_n 0, 1) := by decide +kernel
theorem d_Te_append_5 : decode prog_5_method_3_code 5 = .ok (.getfield 29, 3) := by decide +kernel
theorem d_Te_append_8 : decode prog_5_method_3_code 8 = .ok (.iadd, 1) := by decide +kernel
theorem d_Te_append_9 : decode prog_5_method_3_code 9 = .ok (.istore_n 2, 1) := by decide +kernel
theorem d_Te_append_10 : decode prog_5_method_3_code 10 = .ok (.iload_n 2, 1) := by decide +kernel
theorem d_Te_append_11 : decode prog_5_method_3_code 11 = .ok (.ifCond .lt 28, 3) := by decide +kernel
theorem d_Te_append_14 : decode prog_5_method_3_code 14 = .ok (.iload_n 2, 1) := by decide +kernel
theorem d_Te_append_15 : decode prog_5_method_3_code 15 = .ok (.sipush 300, 3) := by decide +kernel
theorem d_Te_append_18 : decode prog_5_method_3_code 18 = .ok (.if_icmp .ge 21, 3) := by decide +kernel
theorem d_Te_append_21 : decode prog_5_method_3_code 21 = .ok (.aload_n 0, 1) := by decide +kernel
theorem d_Te_append_22 : decode prog_5_method_3_code 22 = .ok (.getfield 9, 3) := by decide +kernel
theorem d_Te_append_25 : decode prog_5_method_3_code 25 = .ok (.iload_n 2, 1) := by decide +kernel
theorem d_Te_append_26 : decode prog_5_method_3_code 26 = .ok (.iload_n 1, 1) := by decide +kernel
theorem d_Te_append_27 : decode prog_5_method_3_code 27 = .ok (.i2b, 1) := by decide +kernel
theorem d_Te_append_28 : decode prog_5_method_3_code 28 = .ok (.bastore, 1) := by decide +kernel
theorem d_Te_append_29 : decode prog_5_method_3_code 29 = .ok (.aload_n 0, 1) := by decide +kernel
theorem d_Te_append_30 : decode prog_5_method_3_code 30 = .ok (.dup, 1) := by decide +kernel
theorem d_Te_append_31 : decode prog_5_method_3_code 31 = .ok (.getfield 29, 3) := by decide +kernel
theorem d_Te_append_34 : decode prog_5_method_3_code 34 = .ok (.iconst 1, 1) := by decide +kernel
theorem d_Te_append_35 : decode prog_5_method_3_code 35 = .ok (.iadd, 1) := by decide +kernel
theorem d_Te_append_36 : decode prog_5_method_3_code 36 = .ok (.putfield 29, 3) := by decide +kernel
theorem d_Te_append_39 : decode prog_5_method_3_code 39 = .ok (.return_, 1) := by decide +kernel
theorem d_Te_openByteAt_0 : decode prog_5_method_4_code 0 = .ok (.aload_n 0, 1) := by decide +kernel
theorem d_Te_openByteAt_1 : decode prog_5_method_4_code 1 = .ok (.getfield 26, 3) := by decide +kernel
theorem d_Te_openByteAt_4 : decode prog_5_method_4_code 4 = .ok (.iload_n 1, 1) := by decide +kernel
theorem d_Te_openByteAt_5 : decode prog_5_method_4_code 5 = .ok (.iadd, 1) := by decide +kernel
theorem d_Te_openByteAt_6 : decode prog_5_method_4_code 6 = .ok (.istore_n 2, 1) := by decide +kernel
theorem d_Te_openByteAt_7 : decode prog_5_method_4_code 7 = .ok (.iload_n 1, 1) := by decide +kernel
theorem d_Te_openByteAt_8 : decode prog_5_method_4_code 8 = .ok (.ifCond .lt 22, 3) := by decide +kernel
theorem d_Te_openByteAt_11 : decode prog_5_method_4_code 11 = .ok (.iload_n 1, 1) := by decide +kernel
theorem d_Te_openByteAt_12 : decode prog_5_method_4_code 12 = .ok (.aload_n 0, 1) := by decide +kernel
theorem d_Te_openByteAt_13 : decode prog_5_method_4_code 13 = .ok (.getfield 29, 3) := by decide +kernel
theorem d_Te_openByteAt_16 : decode prog_5_method_4_code 16 = .ok (.if_icmp .ge 14, 3) := by decide +kernel
theorem d_Te_openByteAt_19 : decode prog_5_method_4_code 19 = .ok (.iload_n 2, 1) := by decide +kernel
theorem d_Te_openByteAt_20 : decode prog_5_method_4_code 20 = .ok (.ifCond .lt 10, 3) := by decide +kernel
theorem d_Te_openByteAt_23 : decode prog_5_method_4_code 23 = .ok (.iload_n 2, 1) := by decide +kernel
theorem d_Te_openByteAt_24 : decode prog_5_method_4_code 24 = .ok (.sipush 300, 3) := by decide +kernel
theorem d_Te_openByteAt_27 : decode prog_5_method_4_code 27 = .ok (.if_icmp .lt 7, 3) := by decide +kernel
theorem d_Te_openByteAt_30 : decode prog_5_method_4_code 30 = .ok (.iconst (-1), 1) := by decide +kernel
theorem d_Te_openByteAt_31 : decode prog_5_method_4_code 31 = .ok (.goto 13, 3) := by decide +kernel
theorem d_Te_openByteAt_34 : decode prog_5_method_4_code 34 = .ok (.aload_n 0, 1) := by decide +kernel
theorem d_Te_openByteAt_35 : decode prog_5_method_4_code 35 = .ok (.getfield 9, 3) := by decide +kernel
theorem d_Te_openByteAt_38 : decode prog_5_method_4_code 38 = .ok (.iload_n 2, 1) := by decide +kernel
theorem d_Te_openByteAt_39 : decode prog_5_method_4_code 39 = .ok (.baload, 1) := by decide +kernel
theorem d_Te_openByteAt_40 : decode prog_5_method_4_code 40 = .ok (.sipush 255, 3) := by decide +kernel
theorem d_Te_openByteAt_43 : decode prog_5_method_4_code 43 = .ok (.iand, 1) := by decide +kernel
theorem d_Te_openByteAt_44 : decode prog_5_method_4_code 44 = .ok (.ireturn, 1) := by decide +kernel
theorem d_Te_dropOpen_0 : decode prog_5_method_5_code 0 = .ok (.aload_n 0, 1) := by decide +kernel
theorem d_Te_dropOpen_1 : decode prog_5_method_5_code 1 = .ok (.iconst 0, 1) := by decide +kernel
theorem d_Te_dropOpen_2 : decode prog_5_method_5_code 2 = .ok (.putfield 29, 3) := by decide +kernel
theorem d_Te_dropOpen_5 : decode prog_5_method_5_code 5 = .ok (.return_, 1) := by decide +kernel
theorem d_Te_dropBlanksAtOpenEnd_0 : decode prog_5_method_6_code 0 = .ok (.aload_n 0, 1) := by decide +kernel
theorem d_Te_dropBlanksAtOpenEnd_1 : decode prog_5_method_6_code 1 = .ok (.getfield 29, 3) := by decide +kernel
theorem d_Te_dropBlanksAtOpenEnd_4 : decode prog_5_method_6_code 4 = .ok (.ifCond .le 32, 3) := by decide +kernel
theorem d_Te_dropBlanksAtOpenEnd_7 : decode prog_5_method_6_code 7 = .ok (.aload_n 0, 1) := by decide +kernel
theorem d_Te_dropBlanksAtOpenEnd_8 : decode prog_5_method_6_code 8 = .ok (.aload_n 0, 1) := by decide +kernel
theorem d_Te_dropBlanksAtOpenEnd_9 : decode prog_5_method_6_code 9 = .ok (.getfield 29, 3) := by decide +kernel
theorem d_Te_dropBlanksAtOpenEnd_12 : decode prog_5_method_6_code 12 = .ok (.iconst 1, 1) := by decide +kernel
theorem d_Te_dropBlanksAtOpenEnd_13 : decode prog_5_method_6_code 13 = .ok (.isub, 1) := by decide +kernel
theorem d_Te_dropBlanksAtOpenEnd_14 : decode prog_5_method_6_code 14 = .ok (.invokevirtual 32, 3) := by decide +kernel
theorem d_Te_dropBlanksAtOpenEnd_17 : decode prog_5_method_6_code 17 = .ok (.invokestatic 36, 3) := by decide +kernel
theorem d_Te_dropBlanksAtOpenEnd_20 : decode prog_5_method_6_code 20 = .ok (.ifCond .eq 16, 3) := by decide +kernel
theorem d_Te_dropBlanksAtOpenEnd_23 : decode prog_5_method_6_code 23 = .ok (.aload_n 0, 1) := by decide +kernel
theorem d_Te_dropBlanksAtOpenEnd_24 : decode prog_5_method_6_code 24 = .ok (.dup, 1) := by decide +kernel
theorem d_Te_dropBlanksAtOpenEnd_25 : decode prog_5_method_6_code 25 = .ok (.getfield 29, 3) := by decide +kernel
theorem d_Te_dropBlanksAtOpenEnd_28 : decode prog_5_method_6_code 28 = .ok (.iconst 1, 1) := by decide +kernel
theorem d_Te_dropBlanksAtOpenEnd_29 : decode prog_5_method_6_code 29 = .ok (.isub, 1) := by decide +kernel
theorem d_Te_dropBlanksAtOpenEnd_30 : decode prog_5_method_6_code 30 = .ok (.putfield 29, 3) := by decide +kernel
theorem d_Te_dropBlanksAtOpenEnd_33 : decode prog_5_method_6_code 33 = .ok (.goto (-33), 3) := by decide +kernel
theorem d_Te_dropBlanksAtOpenEnd_36 : decode prog_5_method_6_code 36 = .ok (.return_, 1) := by decide +kernel
theorem d_Te_closeOpen_0 : decode prog_5_method_7_code 0 = .ok (.aload_n 0, 1) := by decide +kernel
theorem d_Te_closeOpen_1 : decode prog_5_method_7_code 1 = .ok (.getfield 22, 3) := by decide +kernel
theorem d_Te_closeOpen_4 : decode prog_5_method_7_code 4 = .ok (.ifCond .lt 61, 3) := by decide +kernel
theorem d_Te_closeOpen_7 : decode prog_5_method_7_code 7 = .ok (.aload_n 0, 1) := by decide +kernel
theorem d_Te_closeOpen_8 : decode prog_5_method_7_code 8 = .ok (.getfield 22, 3) := by decide +kernel
theorem d_Te_closeOpen_11 : decode prog_5_method_7_code 11 = .ok (.bipush 100, 2) := by decide +kernel
theorem d_Te_closeOpen_13 : decode prog_5_method_7_code 13 = .ok (.if_icmp .ge 52, 3) := by decide +kernel
theorem d_Te_closeOpen_16 : decode prog_5_method_7_code 16 = .ok (.aload_n 0, 1) := by decide +kernel
theorem d_Te_closeOpen_17 : decode prog_5_method_7_code 17 = .ok (.getfield 15, 3) := by decide +kernel
theorem d_Te_closeOpen_20 : decode prog_5_method_7_code 20 = .ok (.aload_n 0, 1) := by decide +kernel
theorem d_Te_closeOpen_21 : decode prog_5_method_7_code 21 = .ok (.getfield 22, 3) := by decide +kernel
theorem d_Te_closeOpen_24 : decode prog_5_method_7_code 24 = .ok (.aload_n 0, 1) := by decide +kernel
theorem d_Te_closeOpen_25 : decode prog_5_method_7_code 25 = .ok (.getfield 26, 3) := by decide +kernel
theorem d_Te_closeOpen_28 : decode prog_5_method_7_code 28 = .ok (.iastore, 1) := by decide +kernel
theorem d_Te_closeOpen_29 : decode prog_5_method_7_code 29 = .ok (.aload_n 0, 1) := by decide +kernel
theorem d_Te_closeOpen_30 : decode prog_5_method_7_code 30 = .ok (.getfield 19, 3) := by decide +kernel
theorem d_Te_closeOpen_33 : decode prog_5_method_7_code 33 = .ok (.aload_n 0, 1) := by decide +kernel
theorem d_Te_closeOpen_34 : decode prog_5_method_7_code 34 = .ok (.getfield 22, 3) := by decide +kernel
theorem d_Te_closeOpen_37 : decode prog_5_method_7_code 37 = .ok (.aload_n 0, 1) := by decide +kernel
theorem d_Te_closeOpen_38 : decode prog_5_method_7_code 38 = .ok (.getfield 29, 3) := by decide +kernel
theorem d_Te_closeOpen_41 : decode prog_5_method_7_code 41 = .ok (.iastore, 1) := by decide +kernel
theorem d_Te_closeOpen_42 : decode prog_5_method_7_code 42 = .ok (.aload_n 0, 1) := by decide +kernel
theorem d_Te_closeOpen_43 : decode prog_5_method_7_code 43 = .ok (.dup, 1) := by decide +kernel
theorem d_Te_closeOpen_44 : decode prog_5_method_7_code 44 = .ok (.getfield 22, 3) := by decide +kernel
theorem d_Te_closeOpen_47 : decode prog_5_method_7_code 47 = .ok (.iconst 1, 1) := by decide +kernel
theorem d_Te_closeOpen_48 : decode prog_5_method_7_code 48 = .ok (.iadd, 1) := by decide +kernel
theorem d_Te_closeOpen_49 : decode prog_5_method_7_code 49 = .ok (.putfield 22, 3) := by decide +kernel
theorem d_Te_closeOpen_52 : decode prog_5_method_7_code 52 = .ok (.aload_n 0, 1) := by decide +kernel
theorem d_Te_closeOpen_53 : decode prog_5_method_7_code 53 = .ok (.dup, 1) := by decide +kernel
theorem d_Te_closeOpen_54 : decode prog_5_method_7_code 54 = .ok (.getfield 26, 3) := by decide +kernel
theorem d_Te_closeOpen_57 : decode prog_5_method_7_code 57 = .ok (.aload_n 0, 1) := by decide +kernel
theorem d_Te_closeOpen_58 : decode prog_5_method_7_code 58 = .ok (.getfield 29, 3) := by decide +kernel
theorem d_Te_closeOpen_61 : decode prog_5_method_7_code 61 = .ok (.iadd, 1) := by decide +kernel
theorem d_Te_closeOpen_62 : decode prog_5_method_7_code 62 = .ok (.putfield 26, 3) := by decide +kernel
theorem d_Te_closeOpen_65 : decode prog_5_method_7_code 65 = .ok (.aload_n 0, 1) := by decide +kernel
theorem d_Te_closeOpen_66 : decode prog_5_method_7_code 66 = .ok (.iconst 0, 1) := by decide +kernel
theorem d_Te_closeOpen_67 : decode prog_5_method_7_code 67 = .ok (.putfield 29, 3) := by decide +kernel
theorem d_Te_closeOpen_70 : decode prog_5_method_7_code 70 = .ok (.return_, 1) := by decide +kernel
theorem d_Te_has_0 : decode prog_5_method_8_code 0 = .ok (.iload_n 1, 1) := by decide +kernel
theorem d_Te_has_1 : decode prog_5_method_8_code 1 = .ok (.ifCond .lt 21, 3) := by decide +kernel
theorem d_Te_has_4 : decode prog_5_method_8_code 4 = .ok (.iload_n 1, 1) := by decide +kernel
theorem d_Te_has_5 : decode prog_5_method_8_code 5 = .ok (.aload_n 0, 1) := by decide +kernel
theorem d_Te_has_6 : decode prog_5_method_8_code 6 = .ok (.getfield 22, 3) := by decide +kernel
theorem d_Te_has_9 : decode prog_5_method_8_code 9 = .ok (.if_icmp .ge 13, 3) := by decide +kernel
theorem d_Te_has_12 : decode prog_5_method_8_code 12 = .ok (.iload_n 1, 1) := by decide +kernel
theorem d_Te_has_13 : decode prog_5_method_8_code 13 = .ok (.bipush 100, 2) := by decide +kernel
theorem d_Te_has_15 : decode prog_5_method_8_code 15 = .ok (.if_icmp .ge 7, 3) := by decide +kernel
theorem d_Te_has_18 : decode prog_5_method_8_code 18 = .ok (.iconst 1, 1) := by decide +kernel
theorem d_Te_has_19 : decode prog_5_method_8_code 19 = .ok (.goto 4, 3) := by decide +kernel
theorem d_Te_has_22 : decode prog_5_method_8_code 22 = .ok (.iconst 0, 1) := by decide +kernel
theorem d_Te_has_23 : decode prog_5_method_8_code 23 = .ok (.ireturn, 1) := by decide +kernel
theorem d_Te_lengthOf_0 : decode prog_5_method_9_code 0 = .ok (.aload_n 0, 1) := by decide +kernel
theorem d_Te_lengthOf_1 : decode prog_5_method_9_code 1 = .ok (.iload_n 1, 1) := by decide +kernel
theorem d_Te_lengthOf_2 : decode prog_5_method_9_code 2 = .ok (.invokevirtual 40, 3) := by decide +kernel
theorem d_Te_lengthOf_5 : decode prog_5_method_9_code 5 = .ok (.ifCond .eq 12, 3) := by decide +kernel
theorem d_Te_lengthOf_8 : decode prog_5_method_9_code 8 = .ok (.aload_n 0, 1) := by decide +kernel
theorem d_Te_lengthOf_9 : decode prog_5_method_9_code 9 = .ok (.getfield 19, 3) := by decide +kernel
theorem d_Te_lengthOf_12 : decode prog_5_method_9_code 12 = .ok (.iload_n 1, 1) := by decide +kernel
theorem d_Te_lengthOf_13 : decode prog_5_method_9_code 13 = .ok (.iaload, 1) := by decide +kernel
theorem d_Te_lengthOf_14 : decode prog_5_method_9_code 14 = .ok (.goto 4, 3) := by decide +kernel
theorem d_Te_lengthOf_17 : decode prog_5_method_9_code 17 = .ok (.iconst 0, 1) := by decide +kernel
theorem d_Te_lengthOf_18 : decode prog_5_method_9_code 18 = .ok (.ireturn, 1) := by decide +kernel
theorem d_Te_byteAt_0 : decode prog_5_method_10_code 0 = .ok (.aload_n 0, 1) := by decide +kernel
theorem d_Te_byteAt_1 : decode prog_5_method_10_code 1 = .ok (.iload_n 1, 1) := by decide +kernel
theorem d_Te_byteAt_2 : decode prog_5_method_10_code 2 = .ok (.invokevirtual 40, 3) := by decide +kernel
theorem d_Te_byteAt_5 : decode prog_5_method_10_code 5 = .ok (.ifCond .eq 17, 3) := by decide +kernel
theorem d_Te_byteAt_8 : decode prog_5_method_10_code 8 = .ok (.iload_n 2, 1) := by decide +kernel
theorem d_Te_byteAt_9 : decode prog_5_method_10_code 9 = .ok (.ifCond .lt 13, 3) := by decide +kernel
theorem d_Te_byteAt_12 : decode prog_5_method_10_code 12 = .ok (.iload_n 2, 1) := by decide +kernel
theorem d_Te_byteAt_13 : decode prog_5_method_10_code 13 = .ok (.aload_n 0, 1) := by decide +kernel
theorem d_Te_byteAt_14 : decode prog_5_method_10_code 14 = .ok (.getfield 19, 3) := by decide +kernel
theorem d_Te_byteAt_17 : decode prog_5_method_10_code 17 = .ok (.iload_n 1, 1) := by decide +kernel
theorem d_Te_byteAt_18 : decode prog_5_method_10_code 18 = .ok (.iaload, 1) := by decide +kernel
theorem d_Te_byteAt_19 : decode prog_5_method_10_code 19 = .ok (.if_icmp .lt 5, 3) := by decide +kernel
theorem d_Te_byteAt_22 : decode prog_5_method_10_code 22 = .ok (.iconst (-1), 1) := by decide +kernel
theorem d_Te_byteAt_23 : decode prog_5_method_10_code 23 = .ok (.ireturn, 1) := by decide +kernel
theorem d_Te_byteAt_24 : decode prog_5_method_10_code 24 = .ok (.aload_n 0, 1) := by decide +kernel
theorem d_Te_byteAt_25 : decode prog_5_method_10_code 25 = .ok (.getfield 15, 3) := by decide +kernel
theorem d_Te_byteAt_28 : decode prog_5_method_10_code 28 = .ok (.iload_n 1, 1) := by decide +kernel
theorem d_Te_byteAt_29 : decode prog_5_method_10_code 29 = .ok (.iaload, 1) := by decide +kernel
theorem d_Te_byteAt_30 : decode prog_5_method_10_code 30 = .ok (.iload_n 2, 1) := by decide +kernel
theorem d_Te_byteAt_31 : decode prog_5_method_10_code 31 = .ok (.iadd, 1) := by decide +kernel
theorem d_Te_byteAt_32 : decode prog_5_method_10_code 32 = .ok (.istore_n 3, 1) := by decide +kernel
theorem d_Te_byteAt_33 : decode prog_5_method_10_code 33 = .ok (.iload_n 3, 1) := by decide +kernel
theorem d_Te_byteAt_34 : decode prog_5_method_10_code 34 = .ok (.ifCond .lt 10, 3) := by decide +kernel
theorem d_Te_byteAt_37 : decode prog_5_method_10_code 37 = .ok (.iload_n 3, 1) := by decide +kernel
theorem d_Te_byteAt_38 : decode prog_5_method_10_code 38 = .ok (.sipush 300, 3) := by decide +kernel
theorem d_Te_byteAt_41 : decode prog_5_method_10_code 41 = .ok (.if_icmp .lt 7, 3) := by decide +kernel
theorem d_Te_byteAt_44 : decode prog_5_method_10_code 44 = .ok (.iconst (-1), 1) := by decide +kernel
theorem d_Te_byteAt_45 : decode prog_5_method_10_code 45 = .ok (.goto 13, 3) := by decide +kernel
theorem d_Te_byteAt_48 : decode prog_5_method_10_code 48 = .ok (.aload_n 0, 1) := by decide +kernel
theorem d_Te_byteAt_49 : decode prog_5_method_10_code 49 = .ok (.getfield 9, 3) := by decide +kernel
theorem d_Te_byteAt_52 : decode prog_5_method_10_code 52 = .ok (.iload_n 3, 1) := by decide +kernel
theorem d_Te_byteAt_53 : decode prog_5_method_10_code 53 = .ok (.baload, 1) := by decide +kernel
theorem d_Te_byteAt_54 : decode prog_5_method_10_code 54 = .ok (.sipush 255, 3) := by decide +kernel
theorem d_Te_byteAt_57 : decode prog_5_method_10_code 57 = .ok (.iand, 1) := by decide +kernel
theorem d_Te_byteAt_58 : decode prog_5_method_10_code 58 = .ok (.ireturn, 1) := by decide +kernel
theorem d_Te_eightBytes_0 : decode prog_5_method_11_code 0 = .ok (.aload_n 0, 1) := by decide +kernel
theorem d_Te_eightBytes_1 : decode prog_5_method_11_code 1 = .ok (.iload_n 1, 1) := by decide +kernel
theorem d_Te_eightBytes_2 : decode prog_5_method_11_code 2 = .ok (.invokevirtual 40, 3) := by decide +kernel
theorem d_Te_eightBytes_5 : decode prog_5_method_11_code 5 = .ok (.ifCond .eq 7, 3) := by decide +kernel
theorem d_Te_eightBytes_8 : decode prog_5_method_11_code 8 = .ok (.iload_n 2, 1) := by decide +kernel
theorem d_Te_eightBytes_9 : decode prog_5_method_11_code 9 = .ok (.ifCond .ge 7, 3) := by decide +kernel
theorem d_Te_eightBytes_12 : decode prog_5_method_11_code 12 = .ok (.ldc2_w 43, 3) := by decide +kernel
theorem d_Te_eightBytes_15 : decode prog_5_method_11_code 15 = .ok (.lreturn, 1) := by decide +kernel
theorem d_Te_eightBytes_16 : decode prog_5_method_11_code 16 = .ok (.aload_n 0, 1) := by decide +kernel
theorem d_Te_eightBytes_17 : decode prog_5_method_11_code 17 = .ok (.getfield 19, 3) := by decide +kernel
theorem d_Te_eightBytes_20 : decode prog_5_method_11_code 20 = .ok (.iload_n 1, 1) := by decide +kernel
theorem d_Te_eightBytes_21 : decode prog_5_method_11_code 21 = .ok (.iaload, 1) := by decide +kernel
theorem d_Te_eightBytes_22 : decode prog_5_method_11_code 22 = .ok (.iload_n 2, 1) := by decide +kernel
theorem d_Te_eightBytes_23 : decode prog_5_method_11_code 23 = .ok (.isub, 1) := by decide +kernel
theorem d_Te_eightBytes_24 : decode prog_5_method_11_code 24 = .ok (.istore_n 3, 1) := by decide +kernel
theorem d_Te_eightBytes_25 : decode prog_5_method_11_code 25 = .ok (.lconst 0, 1) := by decide +kernel
theorem d_Te_eightBytes_26 : decode prog_5_method_11_code 26 = .ok (.lstore 4, 2) := by decide +kernel
theorem d_Te_eightBytes_28 : decode prog_5_method_11_code 28 = .ok (.iconst 0, 1) := by decide +kernel
theorem d_Te_eightBytes_29 : decode prog_5_method_11_code 29 = .ok (.istore 6, 2) := by decide +kernel
theorem d_Te_eightBytes_31 : decode prog_5_method_11_code 31 = .ok (.iload 6, 2) := by decide +kernel
theorem d_Te_eightBytes_33 : decode prog_5_method_11_code 33 = .ok (.bipush 8, 2) := by decide +kernel
theorem d_Te_eightBytes_35 : decode prog_5_method_11_code 35 = .ok (.if_icmp .ge 37, 3) := by decide +kernel
theorem d_Te_eightBytes_38 : decode prog_5_method_11_code 38 = .ok (.lload 4, 2) := by decide +kernel
theorem d_Te_eightBytes_40 : decode prog_5_method_11_code 40 = .ok (.bipush 8, 2) := by decide +kernel
theorem d_Te_eightBytes_42 : decode prog_5_method_11_code 42 = .ok (.lshl, 1) := by decide +kernel
theorem d_Te_eightBytes_43 : decode prog_5_method_11_code 43 = .ok (.iload 6, 2) := by decide +kernel
theorem d_Te_eightBytes_45 : decode prog_5_method_11_code 45 = .ok (.iload_n 3, 1) := by decide +kernel
theorem d_Te_eightBytes_46 : decode prog_5_method_11_code 46 = .ok (.if_icmp .ge 15, 3) := by decide +kernel
theorem d_Te_eightBytes_49 : decode prog_5_method_11_code 49 = .ok (.aload_n 0, 1) := by decide +kernel
theorem d_Te_eightBytes_50 : decode prog_5_method_11_code 50 = .ok (.iload_n 1, 1) := by decide +kernel
theorem d_Te_eightBytes_51 : decode prog_5_method_11_code 51 = .ok (.iload_n 2, 1) := by decide +kernel
theorem d_Te_eightBytes_52 : decode prog_5_method_11_code 52 = .ok (.iload 6, 2) := by decide +kernel
theorem d_Te_eightBytes_54 : decode prog_5_method_11_code 54 = .ok (.iadd, 1) := by decide +kernel
theorem d_Te_eightBytes_55 : decode prog_5_method_11_code 55 = .ok (.invokevirtual 45, 3) := by decide +kernel
theorem d_Te_eightBytes_58 : decode prog_5_method_11_code 58 = .ok (.goto 4, 3) := by decide +kernel
theorem d_Te_eightBytes_61 : decode prog_5_method_11_code 61 = .ok (.iconst 0, 1) := by decide +kernel
theorem d_Te_eightBytes_62 : decode prog_5_method_11_code 62 = .ok (.i2l, 1) := by decide +kernel
theorem d_Te_eightBytes_63 : decode prog_5_method_11_code 63 = .ok (.lor, 1) := by decide +kernel
theorem d_Te_eightBytes_64 : decode prog_5_method_11_code 64 = .ok (.lstore 4, 2) := by decide +kernel
theorem d_Te_eightBytes_66 : decode prog_5_method_11_code 66 = .ok (.iinc 6 1, 3) := by decide +kernel
theorem d_Te_eightBytes_69 : decode prog_5_method_11_code 69 = .ok (.goto (-38), 3) := by decide +kernel
theorem d_Te_eightBytes_72 : decode prog_5_method_11_code 72 = .ok (.lload 4, 2) := by decide +kernel
theorem d_Te_eightBytes_74 : decode prog_5_method_11_code 74 = .ok (.lreturn, 1) := by decide +kernel
theorem d_Te_areAlike_0 : decode prog_5_method_12_code 0 = .ok (.aload_n 0, 1) := by decide +kernel
theorem d_Te_areAlike_1 : decode prog_5_method_12_code 1 = .ok (.iload_n 1, 1) := by decide +kernel
theorem d_Te_areAlike_2 : decode prog_5_method_12_code 2 = .ok (.invokevirtual 49, 3) := by decide +kernel
theorem d_Te_areAlike_5 : decode prog_5_method_12_code 5 = .ok (.istore_n 3, 1) := by decide +kernel
theorem d_Te_areAlike_6 : decode prog_5_method_12_code 6 = .ok (.iload_n 3, 1) := by decide +kernel
theorem d_Te_areAlike_7 : decode prog_5_method_12_code 7 = .ok (.aload_n 0, 1) := by decide +kernel
theorem d_Te_areAlike_8 : decode prog_5_method_12_code 8 = .ok (.iload_n 2, 1) := by decide +kernel
theorem d_Te_areAlike_9 : decode prog_5_method_12_code 9 = .ok (.invokevirtual 49, 3) := by decide +kernel
theorem d_Te_areAlike_12 : decode prog_5_method_12_code 12 = .ok (.if_icmp .eq 5, 3) := by decide +kernel
theorem d_Te_areAlike_15 : decode prog_5_method_12_code 15 = .ok (.iconst 0, 1) := by decide +kernel
theorem d_Te_areAlike_16 : decode prog_5_method_12_code 16 = .ok (.ireturn, 1) := by decide +kernel
theorem d_Te_areAlike_17 : decode prog_5_method_12_code 17 = .ok (.iconst 0, 1) := by decide +kernel
theorem d_Te_areAlike_18 : decode prog_5_method_12_code 18 = .ok (.istore 4, 2) := by decide +kernel
theorem d_Te_areAlike_20 : decode prog_5_method_12_code 20 = .ok (.iload 4, 2) := by decide +kernel
theorem d_Te_areAlike_22 : decode prog_5_method_12_code 22 = .ok (.iload_n 3, 1) := by decide +kernel
theorem d_Te_areAlike_23 : decode prog_5_method_12_code 23 = .ok (.if_icmp .ge 34, 3) := by decide +kernel
theorem d_Te_areAlike_26 : decode prog_5_method_12_code 26 = .ok (.aload_n 0, 1) := by decide +kernel
theorem d_Te_areAlike_27 : decode prog_5_method_12_code 27 = .ok (.iload_n 1, 1) := by decide +kernel
theorem d_Te_areAlike_28 : decode prog_5_method_12_code 28 = .ok (.iload 4, 2) := by decide +kernel
theorem d_Te_areAlike_30 : decode prog_5_method_12_code 30 = .ok (.invokevirtual 45, 3) := by decide +kernel
theorem d_Te_areAlike_33 : decode prog_5_method_12_code 33 = .ok (.invokestatic 52, 3) := by decide +kernel
theorem d_Te_areAlike_36 : decode prog_5_method_12_code 36 = .ok (.aload_n 0, 1) := by decide +kernel
theorem d_Te_areAlike_37 : decode prog_5_method_12_code 37 = .ok (.iload_n 2, 1) := by decide +kernel
theorem d_Te_areAlike_38 : decode prog_5_method_12_code 38 = .ok (.iload 4, 2) := by decide +kernel
theorem d_Te_areAlike_40 : decode prog_5_method_12_code 40 = .ok (.invokevirtual 45, 3) := by decide +kernel
theorem d_Te_areAlike_43 : decode prog_5_method_12_code 43 = .ok (.invokestatic 52, 3) := by decide +kernel
theorem d_Te_areAlike_46 : decode prog_5_method_12_code 46 = .ok (.if_icmp .eq 5, 3) := by decide +kernel
theorem d_Te_areAlike_49 : decode prog_5_method_12_code 49 = .ok (.iconst 0, 1) := by decide +kernel
theorem d_Te_areAlike_50 : decode prog_5_method_12_code 50 = .ok (.ireturn, 1) := by decide +kernel
theorem d_Te_areAlike_51 : decode prog_5_method_12_code 51 = .ok (.iinc 4 1, 3) := by decide +kernel
theorem d_Te_areAlike_54 : decode prog_5_method_12_code 54 = .ok (.goto (-34), 3) := by decide +kernel
theorem d_Te_areAlike_57 : decode prog_5_method_12_code 57 = .ok (.iconst 1, 1) := by decide +kernel
theorem d_Te_areAlike_58 : decode prog_5_method_12_code 58 = .ok (.ireturn, 1) := by decide +kernel
theorem ok_Te_init : okN y_Te_init prog_5_method_1_code 1 0 := ⟨m_46, m_4, m_47, by decide +kernel, rfl⟩
theorem ok_Te_clear : okM y_Te_clear prog_5_method_2_code 1 none 0 := ⟨m_151, (List.mem_filter.mpr ⟨List.mem_append_left _ (List.mem_of_getElem? (i := 2) (by decide +kernel)), by decide +kernel⟩), m_4, m_152, by decide +kernel⟩
theorem ok_Te_append : okM y_Te_append prog_5_method_3_code 3 none 1 := ⟨m_178, (List.mem_filter.mpr ⟨List.mem_append_left _ (List.mem_of_getElem? (i := 7) (by decide +kernel)), by decide +kernel⟩), m_4, m_179, by decide +kernel⟩
theorem ok_Te_openByteAt : okM y_Te_openByteAt prog_5_method_4_code 3 (some .int) 1 := ⟨m_202, (List.mem_filter.mpr ⟨List.mem_append_left _ (List.mem_of_getElem? (i := 12) (by decide +kernel)), by decide +kernel⟩), m_4, m_203, by decide +kernel⟩
theorem ok_Te_dropOpen : okM y_Te_dropOpen prog_5_method_5_code 1 none 0 := ⟨m_347, (List.mem_filter.mpr ⟨List.mem_append_left _ (List.mem_of_getElem? (i := 24) (by decide +kernel)), by decide +kernel⟩), m_4, m_348, by decide +kernel⟩
theorem ok_Te_dropBlanksAtOpenEnd : okM y_Te_dropBlanksAtOpenEnd prog_5_method_6_code 1 none 0 := ⟨m_198, (List.mem_filter.mpr ⟨List.mem_append_left _ (List.mem_of_getElem? (i := 11) (by decide +kernel)), by decide +kernel⟩), m_4, m_199, by decide +kernel⟩
theorem ok_Te_closeOpen : okM y_Te_closeOpen prog_5_method_7_code 1 none 0 := ⟨m_182, (List.mem_filter.mpr ⟨List.mem_append_left _ (List.mem_of_getElem? (i := 8) (by decide +kernel)), by decide +kernel⟩), m_4, m_183, by decide +kernel⟩
theorem ok_Te_has : okM y_Te_has prog_5_method_8_code 2 (some .boolean) 1 := ⟨m_220, (List.mem_filter.mpr ⟨List.mem_append_left _ (List.mem_of_getElem? (i := 16) (by decide +kernel)), by decide +kernel⟩), m_4, m_221, by decide +kernel⟩
theorem ok_Te_lengthOf : okM y_Te_lengthOf prog_5_method_9_code 2 (some .int) 1 := ⟨m_216, (List.mem_filter.mpr ⟨List.mem_append_left _ (List.mem_of_getElem? (i := 15) (by decide +kernel)), by decide +kernel⟩), m_4, m_217, by decide +kernel⟩
theorem ok_Te_byteAt : okM y_Te_byteAt prog_5_method_10_code 4 (some .int) 2 := ⟨m_224, (List.mem_filter.mpr ⟨List.mem_append_left _ (List.mem_of_getElem? (i := 17) (by decide +kernel)), by decide +kernel⟩), m_4, m_225, by decide +kernel⟩
theorem ok_Te_eightBytes : okM y_Te_eightBytes prog_5_method_11_code 7 (some .long) 2 := ⟨m_374, (List.mem_filter.mpr ⟨List.mem_append_left _ (List.mem_of_getElem? (i := 28) (by decide +kernel)), by decide +kernel⟩), m_4, m_375, by decide +kernel⟩
theorem ok_Te_areAlike : okM y_Te_areAlike prog_5_method_12_code 5 (some .boolean) 2 := ⟨m_403, (List.mem_filter.mpr ⟨List.mem_append_left _ (List.mem_of_getElem? (i := 31) (by decide +kernel)), by decide +kernel⟩), m_4, m_404, by decide +kernel⟩
def f_Te_clear (N : Nat) (v_size : Int32) (v_openStart : Int32) (v_openLength : Int32) : Option (Int32 × Int32 × Int32) := some (0, 0, 0)
def f_Te_append (N : Nat) (x1 : Int32) (v_openStart : Int32) (v_openLength : Int32) (v_row : Nat → Int32) : Option (Int32 × (Nat → Int32)) := (if (v_openStart + v_openLength) < 0 then some (v_openLength, v_row) else (if 300 ≤ (v_openStart + v_openLength) then some (v_openLength, v_row) else (if inB (v_openStart + v_openLength) 300 = true then some (v_openLength + 1, upd v_row (v_openStart + v_openLength).toNatClampNeg (vp_nar .byte x1.toInt8.toInt32)) else none)))
def f_Te_openByteAt (N : Nat) (x1 : Int32) (v_openStart : Int32) (v_openLength : Int32) (v_row : Nat → Int32) : Option (Int32) := (if x1 < 0 then some (-1) else (if v_openLength ≤ x1 then some (-1) else (if (v_openStart + x1) < 0 then some (-1) else (if (v_openStart + x1) < 300 then (if inB (v_openStart + x1) 300 = true then some ((v_row (v_openStart + x1).toNatClampNeg) &&& 255) else none) else some (-1)))))
def f_Te_dropOpen (N : Nat) (v_openLength : Int32) : Option (Int32) := some 0
def f_Te_dropBlanksAtOpenEnd_0 (N : Nat) (v_openStart : Int32) (v_row : Nat → Int32) : Nat → Int32 → Option (Int32)
  | 0, _ => none
  | n + 1, v_openLength => (if v_openLength ≤ 0 then some v_openLength else ((f_Te_openByteAt N (v_openLength - 1) v_openStart v_openLength v_row).bind fun z2 => ((f_De_isBlank N z2).bind fun z3 => (if z3 = 0 then some v_openLength else f_Te_dropBlanksAtOpenEnd_0 N v_openStart v_row n (v_openLength - 1)))))
def f_Te_dropBlanksAtOpenEnd (N : Nat) (v_openStart : Int32) (v_openLength : Int32) (v_row : Nat → Int32) : Option (Int32) := f_Te_dropBlanksAtOpenEnd_0 N v_openStart v_row N v_openLength
def f_Te_closeOpen (N : Nat) (v_size : Int32) (v_openStart : Int32) (v_openLength : Int32) (v_starts : Nat → Int32) (v_lengths : Nat → Int32) : Option (Int32 × Int32 × Int32 × (Nat → Int32) × (Nat → Int32)) := (if v_size < 0 then some (v_size, v_openStart, 0, v_starts, v_lengths) else (if 100 ≤ v_size then some (v_size, v_openStart, 0, v_starts, v_lengths) else (if inB v_size 100 = true then (if inB v_size 100 = true then some (v_size + 1, v_openStart + v_openLength, 0, upd v_starts v_size.toNatClampNeg v_openStart, upd v_lengths v_size.toNatClampNeg v_openLength) else none) else none)))
def f_Te_has (N : Nat) (x1 : Int32) (v_size : Int32) : Option (Int32) := (if x1 < 0 then some 0 else (if v_size ≤ x1 then some 0 else (if 100 ≤ x1 then some 0 else some 1)))
def f_Te_lengthOf (N : Nat) (x1 : Int32) (v_size : Int32) (v_lengths : Nat → Int32) : Option (Int32) := ((f_Te_has N x1 v_size).bind fun z1 => (if z1 = 0 then some 0 else (if inB x1 100 = true then some (v_lengths x1.toNatClampNeg) else none)))
def f_Te_byteAt (N : Nat) (x1 : Int32) (x2 : Int32) (v_size : Int32) (v_row : Nat → Int32) (v_starts : Nat → Int32) (v_lengths : Nat → Int32) : Option (Int32) := ((f_Te_has N x1 v_size).bind fun z1 => (if z1 = 0 then some (-1) else (if x2 < 0 then some (-1) else (if inB x1 100 = true then (if x2 < (v_lengths x1.toNatClampNeg) then (if inB x1 100 = true then (if ((v_starts x1.toNatClampNeg) + x2) < 0 then some (-1) else (if ((v_starts x1.toNatClampNeg) + x2) < 300 then (if inB ((v_starts x1.toNatClampNeg) + x2) 300 = true then some ((v_row ((v_starts x1.toNatClampNeg) + x2).toNatClampNeg) &&& 255) else none) else some (-1))) else none) else some (-1)) else none))))
def f_Te_eightBytes_31 (N : Nat) (x1 : Int32) (x2 : Int32) (v_size : Int32) (v_row : Nat → Int32) (v_starts : Nat → Int32) (v_lengths : Nat → Int32) : Nat → Int32 → Int64 → Int32 → Option (Int64)
  | 0, _, _, _ => none
  | n + 1, x3, x4, x6 => (if 8 ≤ x6 then some x4 else (if x3 ≤ x6 then f_Te_eightBytes_31 N x1 x2 v_size v_row v_starts v_lengths n x3 ((x4 <<< ((8 : Int32).toInt64 &&& 63)) ||| ((0 : Int32).toInt64)) (x6 + 1) else ((f_Te_byteAt N x1 (x2 + x6) v_size v_row v_starts v_lengths).bind fun z3 => f_Te_eightBytes_31 N x1 x2 v_size v_row v_starts v_lengths n x3 ((x4 <<< ((8 : Int32).toInt64 &&& 63)) ||| z3.toInt64) (x6 + 1))))
def f_Te_eightBytes (N : Nat) (x1 : Int32) (x2 : Int32) (v_size : Int32) (v_row : Nat → Int32) (v_starts : Nat → Int32) (v_lengths : Nat → Int32) : Option (Int64) := ((f_Te_has N x1 v_size).bind fun z4 => (if z4 = 0 then some (-1) else (if 0 ≤ x2 then (if inB x1 100 = true then f_Te_eightBytes_31 N x1 x2 v_size v_row v_starts v_lengths N ((v_lengths x1.toNatClampNeg) - x2) 0 0 else none) else some (-1))))
def f_Te_areAlike_20 (N : Nat) (x1 : Int32) (x2 : Int32) (v_size : Int32) (v_row : Nat → Int32) (v_starts : Nat → Int32) (v_lengths : Nat → Int32) : Nat → Int32 → Int32 → Option (Int32)
  | 0, _, _ => none
  | n + 1, x3, x4 => (if x3 ≤ x4 then some 1 else ((f_Te_byteAt N x1 x4 v_size v_row v_starts v_lengths).bind fun z2 => ((f_De_lowered N z2).bind fun z3 => ((f_Te_byteAt N x2 x4 v_size v_row v_starts v_lengths).bind fun z4 => ((f_De_lowered N z4).bind fun z5 => (if z3 = z5 then f_Te_areAlike_20 N x1 x2 v_size v_row v_starts v_lengths n x3 (x4 + 1) else some 0))))))
def f_Te_areAlike (N : Nat) (x1 : Int32) (x2 : Int32) (v_size : Int32) (v_row : Nat → Int32) (v_starts : Nat → Int32) (v_lengths : Nat → Int32) : Option (Int32) := ((f_Te_lengthOf N x1 v_size v_lengths).bind fun z7 => ((f_Te_lengthOf N x2 v_size v_lengths).bind fun z8 => (if z7 = z8 then f_Te_areAlike_20 N x1 x2 v_size v_row v_starts v_lengths N z7 0 else some 0)))
set_option maxHeartbeats 4000000 in
set_option maxRecDepth 100000 in
theorem c_Te_init {l : Launch} {dC : Nat → ClassId} {dI : Nat → Nat → Nat} {cB cI : ClassId} {aK aV : Nat → Nat} (h_this : Nat) : Ci l y_Te_init prog_5_method_1_code 1 none ({ frames := 1, cells := 3, slots := 500, locals := 20 }) (dC, dI) cB cI aK aV [.ref h_this] [(h_this, .inr (3, [.null, .null, .null, .int 0, .int 0, .int 0]))] (fun A => Qn (α := Nat × Nat × Nat) (dC, dI) (fun q => [(h_this, .inr (3, [.ref q.1, .ref q.2.1, .ref q.2.2, .int 0, .int 0, .int 0])), (q.1, .inl (cB, 300, .inl (fun _ => 0))), (q.2.1, .inl (cI, 100, .inl (fun _ => 0))), (q.2.2, .inl (cI, 100, .inl (fun _ => 0)))]) A) := by
  refine Ci_of (by decide) (Nat.le_of_ble_eq_true rfl) (fun p e s m below meth c A C hK hnm hA hP hD ls hl => ?_)
  obtain ⟨hx, hb, hr, hml, hown, hts, hlk⟩ := id C
  have hS : va_S A s.heap s.heap [] := va_S.rf
  have hl : lv_has ls 1 [(0, .ref h_this)] := hl
  refine lv_aload_n hx hb d_Te_init_0 rfl (lv_at hl 0 rfl) ?_
  refine W.objInit hx hb hown (hts _ m_48) (hts _ m_19) (hts _ m_20) rfl (by rw [hml]; exact hl.1) rfl d_Te_init_1 (by decide) (Nat.le_of_ble_eq_true rfl) ?_
  refine W.eq (g2 := F0 m 4 ls []) rfl ?_
  refine lv_aload_n hx hb d_Te_init_4 rfl (lv_at hl 0 rfl) ?_
  refine lv_sipush (v := 300) hx hb d_Te_init_5 (by decide) ?_
  refine na_B hx hb (hts _ m_36) hK hP hD hS hA (by decide) (N' := 300) (by decide) (by decide) (by decide) (by decide) d_Te_init_8 (fun q1 H hP hD hS => ?_)
  refine W.widen (k := 1) (n := 300) (by decide) (by decide) ?_
  have hP : va_P (dC, dI) classes [(h_this, .inr (3, [.null, .null, .null, .int 0, .int 0, .int 0])), (q1, .inl (cB, 300, .inl (fun _ => 0)))] H := hP
  have hD : va_D A [(h_this, .inr (3, [.null, .null, .null, .int 0, .int 0, .int 0])), (q1, .inl (cB, 300, .inl (fun _ => 0)))] := hD
  refine va_putF (D := (dC, dI)) (ci := 3) (v := .ref q1) (ty := (.array .byte)) (C := R_Te) (T := F_Te) (N := 6) hx hb hts in_Te t_Te t_Te_ok n_Te hown hK.1 hP hD hS 0 rfl rfl 0 (by decide) (hts _ m_49) (fun _ h9 => h9) rfl hnm rfl (by decide +kernel) rfl rfl (Nat.le_of_ble_eq_true rfl) d_Te_init_10 (fun H locs hP hD hS => ?_)
  have hP : va_P (dC, dI) classes [(h_this, .inr (3, [.ref q1, .null, .null, .int 0, .int 0, .int 0])), (q1, .inl (cB, 300, .inl (fun _ => 0)))] H := hP
  have hD : va_D A [(h_this, .inr (3, [.ref q1, .null, .null, .int 0, .int 0, .int 0])), (q1, .inl (cB, 300, .inl (fun _ => 0)))] := hD
  refine lv_aload_n hx hb d_Te_init_13 rfl (lv_at hl 0 rfl) ?_
  refine lv_bipush (v := 100) hx hb d_Te_init_14 (by decide) ?_
  refine na_I hx hb (hts _ m_72) hK hP hD hS hA (by decide) (N' := 100) (by decide) (by decide) (by decide) (by decide) d_Te_init_16 (fun q2 H hP hD hS => ?_)
  refine W.widen (k := 2) (n := 400) (by decide) (by decide) ?_
  have hP : va_P (dC, dI) classes [(h_this, .inr (3, [.ref q1, .null, .null, .int 0, .int 0, .int 0])), (q1, .inl (cB, 300, .inl (fun _ => 0))), (q2, .inl (cI, 100, .inl (fun _ => 0)))] H := hP
  have hD : va_D A [(h_this, .inr (3, [.ref q1, .null, .null, .int 0, .int 0, .int 0])), (q1, .inl (cB, 300, .inl (fun _ => 0))), (q2, .inl (cI, 100, .inl (fun _ => 0)))] := hD
  refine va_putF (D := (dC, dI)) (ci := 3) (v := .ref q2) (ty := (.array .int)) (C := R_Te) (T := F_Te) (N := 6) hx hb hts in_Te t_Te t_Te_ok n_Te hown hK.1 hP hD hS 0 rfl rfl 1 (by decide) (hts _ m_50) (fun _ h9 => h9) rfl hnm rfl (by decide +kernel) rfl rfl (Nat.le_of_ble_eq_true rfl) d_Te_init_18 (fun H locs hP hD hS => ?_)
  have hP : va_P (dC, dI) classes [(h_this, .inr (3, [.ref q1, .ref q2, .null, .int 0, .int 0, .int 0])), (q1, .inl (cB, 300, .inl (fun _ => 0))), (q2, .inl (cI, 100, .inl (fun _ => 0)))] H := hP
  have hD : va_D A [(h_this, .inr (3, [.ref q1, .ref q2, .null, .int 0, .int 0, .int 0])), (q1, .inl (cB, 300, .inl (fun _ => 0))), (q2, .inl (cI, 100, .inl (fun _ => 0)))] := hD
  refine lv_aload_n hx hb d_Te_init_21 rfl (lv_at hl 0 rfl) ?_
  refine lv_bipush (v := 100) hx hb d_Te_init_22 (by decide) ?_
  refine na_I hx hb (hts _ m_72) hK hP hD hS hA (by decide) (N' := 100) (by decide) (by decide) (by decide) (by decide) d_Te_init_24 (fun q3 H hP hD hS => ?_)
  refine W.widen (k := 3) (n := 500) (by decide) (by decide) ?_
  have hP : va_P (dC, dI) classes [(h_this, .inr (3, [.ref q1, .ref q2, .null, .int 0, .int 0, .int 0])), (q1, .inl (cB, 300, .inl (fun _ => 0))), (q2, .inl (cI, 100, .inl (fun _ => 0))), (q3, .inl (cI, 100, .inl (fun _ => 0)))] H := hP
  have hD : va_D A [(h_this, .inr (3, [.ref q1, .ref q2, .null, .int 0, .int 0, .int 0])), (q1, .inl (cB, 300, .inl (fun _ => 0))), (q2, .inl (cI, 100, .inl (fun _ => 0))), (q3, .inl (cI, 100, .inl (fun _ => 0)))] := hD
  refine va_putF (D := (dC, dI)) (ci := 3) (v := .ref q3) (ty := (.array .int)) (C := R_Te) (T := F_Te) (N := 6) hx hb hts in_Te t_Te t_Te_ok n_Te hown hK.1 hP hD hS 0 rfl rfl 2 (by decide) (hts _ m_51) (fun _ h9 => h9) rfl hnm rfl (by decide +kernel) rfl rfl (Nat.le_of_ble_eq_true rfl) d_Te_init_26 (fun H locs hP hD hS => ?_)
  have hP : va_P (dC, dI) classes [(h_this, .inr (3, [.ref q1, .ref q2, .ref q3, .int 0, .int 0, .int 0])), (q1, .inl (cB, 300, .inl (fun _ => 0))), (q2, .inl (cI, 100, .inl (fun _ => 0))), (q3, .inl (cI, 100, .inl (fun _ => 0)))] H := hP
  have hD : va_D A [(h_this, .inr (3, [.ref q1, .ref q2, .ref q3, .int 0, .int 0, .int 0])), (q1, .inl (cB, 300, .inl (fun _ => 0))), (q2, .inl (cI, 100, .inl (fun _ => 0))), (q3, .inl (cI, 100, .inl (fun _ => 0)))] := hD
  have hP9 := va_P_perm (ws' := [(h_this, .inr (3, [.ref q1, .ref q2, .ref q3, .int 0, .int 0, .int 0])), (q1, .inl (cB, 300, .inl (fun _ => 0))), (q2, .inl (cI, 100, .inl (fun _ => 0))), (q3, .inl (cI, 100, .inl (fun _ => 0)))]) hP [0, 1, 2, 3] rfl
  have hD9 := hD.sub (ws' := [(h_this, .inr (3, [.ref q1, .ref q2, .ref q3, .int 0, .int 0, .int 0])), (q1, .inl (cB, 300, .inl (fun _ => 0))), (q2, .inl (cI, 100, .inl (fun _ => 0))), (q3, .inl (cI, 100, .inl (fun _ => 0)))]) [0, 1, 2, 3] (by decide) rfl
  exact W.vret hx hb hr (fun t ht hW => ⟨⟨(), rfl, trivial, (q1, q2, q3), by rw [ht]; exact hP9, hD9⟩, hS.F ht⟩) hS.2.2 d_Te_init_29 hlk
set_option maxHeartbeats 4000000 in
set_option maxRecDepth 100000 in
theorem c_Te_clear {l : Launch} {dC : Nat → ClassId} {dI : Nat → Nat → Nat} {cB cI : ClassId} {aK aV : Nat → Nat} (N : Nat) (h_this h_this_row h_this_starts h_this_lengths : Nat) (v_size : Int32) (v_openStart : Int32) (v_openLength : Int32) (v_row : Nat → Int32) (v_starts : Nat → Int32) (v_lengths : Nat → Int32) (z : Int32 × Int32 × Int32) (h : f_Te_clear N v_size v_openStart v_openLength = some z) : Ci l y_Te_clear prog_5_method_2_code 1 none ({ frames := 0, cells := 0, slots := 0, locals := 0 }) (dC, dI) cB cI aK aV [.ref h_this] [(h_this, .inr (3, [.ref h_this_row, .ref h_this_starts, .ref h_this_lengths, .int v_size, .int v_openStart, .int v_openLength])), (h_this_row, .inl (cB, 300, .inl v_row)), (h_this_starts, .inl (cI, 100, .inl v_starts)), (h_this_lengths, .inl (cI, 100, .inl v_lengths))] (fun A => (Qv (dC, dI) [(h_this, .inr (3, [.ref h_this_row, .ref h_this_starts, .ref h_this_lengths, .int z.1, .int z.2.1, .int z.2.2])), (h_this_row, .inl (cB, 300, .inl v_row)), (h_this_starts, .inl (cI, 100, .inl v_starts)), (h_this_lengths, .inl (cI, 100, .inl v_lengths))] A)) := by
  refine Ci_of (by decide) (Nat.le_of_ble_eq_true rfl) (fun p e s m below meth c A C hK hnm hA hP hD ls hl => ?_)
  obtain ⟨hx, hb, hr, hml, hown, hts, hlk⟩ := id C
  have hS : va_S A s.heap s.heap [] := va_S.rf
  have hl : lv_has ls 1 [(0, .ref h_this)] := hl
  rw [f_Te_clear] at h
  refine lv_aload_n hx hb d_Te_clear_0 rfl (lv_at hl 0 rfl) ?_
  refine lv_iconst (v := 0) hx hb d_Te_clear_1 (by decide) ?_
  refine va_put (D := (dC, dI)) (ci := 3) (v := .int 0) (ty := .int) (C := R_Te) (T := F_Te) (N := 6) hx hb hts in_Te t_Te t_Te_ok n_Te hown hK.1 hP hD hS 0 rfl rfl 3 (by decide) (hts _ m_52) (fun _ h9 => h9) rfl (by decide +kernel) rfl rfl (Nat.le_of_ble_eq_true rfl) d_Te_clear_2 (fun H locs hP hD hS => ?_)
  have hP : va_P (dC, dI) classes [(h_this, .inr (3, [.ref h_this_row, .ref h_this_starts, .ref h_this_lengths, .int 0, .int v_openStart, .int v_openLength])), (h_this_row, .inl (cB, 300, .inl v_row)), (h_this_starts, .inl (cI, 100, .inl v_starts)), (h_this_lengths, .inl (cI, 100, .inl v_lengths))] H := hP
  have hD : va_D A [(h_this, .inr (3, [.ref h_this_row, .ref h_this_starts, .ref h_this_lengths, .int 0, .int v_openStart, .int v_openLength])), (h_this_row, .inl (cB, 300, .inl v_row)), (h_this_starts, .inl (cI, 100, .inl v_starts)), (h_this_lengths, .inl (cI, 100, .inl v_lengths))] := hD
  refine lv_aload_n hx hb d_Te_clear_5 rfl (lv_at hl 0 rfl) ?_
  refine lv_iconst (v := 0) hx hb d_Te_clear_6 (by decide) ?_
  refine va_put (D := (dC, dI)) (ci := 3) (v := .int 0) (ty := .int) (C := R_Te) (T := F_Te) (N := 6) hx hb hts in_Te t_Te t_Te_ok n_Te hown hK.1 hP hD hS 0 rfl rfl 4 (by decide) (hts _ m_55) (fun _ h9 => h9) rfl (by decide +kernel) rfl rfl (Nat.le_of_ble_eq_true rfl) d_Te_clear_7 (fun H locs hP hD hS => ?_)
  have hP : va_P (dC, dI) classes [(h_this, .inr (3, [.ref h_this_row, .ref h_this_starts, .ref h_this_lengths, .int 0, .int 0, .int v_openLength])), (h_this_row, .inl (cB, 300, .inl v_row)), (h_this_starts, .inl (cI, 100, .inl v_starts)), (h_this_lengths, .inl (cI, 100, .inl v_lengths))] H := hP
  have hD : va_D A [(h_this, .inr (3, [.ref h_this_row, .ref h_this_starts, .ref h_this_lengths, .int 0, .int 0, .int v_openLength])), (h_this_row, .inl (cB, 300, .inl v_row)), (h_this_starts, .inl (cI, 100, .inl v_starts)), (h_this_lengths, .inl (cI, 100, .inl v_lengths))] := hD
  refine lv_aload_n hx hb d_Te_clear_10 rfl (lv_at hl 0 rfl) ?_
  refine lv_iconst (v := 0) hx hb d_Te_clear_11 (by decide) ?_
  refine va_put (D := (dC, dI)) (ci := 3) (v := .int 0) (ty := .int) (C := R_Te) (T := F_Te) (N := 6) hx hb hts in_Te t_Te t_Te_ok n_Te hown hK.1 hP hD hS 0 rfl rfl 5 (by decide) (hts _ m_56) (fun _ h9 => h9) rfl (by decide +kernel) rfl rfl (Nat.le_of_ble_eq_true rfl) d_Te_clear_12 (fun H locs hP hD hS => ?_)
  have hP : va_P (dC, dI) classes [(h_this, .inr (3, [.ref h_this_row, .ref h_this_starts, .ref h_this_lengths, .int 0, .int 0, .int 0])), (h_this_row, .inl (cB, 300, .inl v_row)), (h_this_starts, .inl (cI, 100, .inl v_starts)), (h_this_lengths, .inl (cI, 100, .inl v_lengths))] H := hP
  have hD : va_D A [(h_this, .inr (3, [.ref h_this_row, .ref h_this_starts, .ref h_this_lengths, .int 0, .int 0, .int 0])), (h_this_row, .inl (cB, 300, .inl v_row)), (h_this_starts, .inl (cI, 100, .inl v_starts)), (h_this_lengths, .inl (cI, 100, .inl v_lengths))] := hD
  obtain rfl := Option.some.inj h
  exact W.vret hx hb hr (fun t ht hW => ⟨⟨(), rfl, trivial, by rw [ht]; exact hP, hD⟩, hS.F ht⟩) hS.2.2 d_Te_clear_15 hlk
set_option maxHeartbeats 4000000 in
set_option maxRecDepth 100000 in
theorem c_Te_append {l : Launch} {dC : Nat → ClassId} {dI : Nat → Nat → Nat} {cB cI : ClassId} {aK aV : Nat → Nat} (N : Nat) (h_this h_this_row h_this_starts h_this_lengths : Nat) (v_size : Int32) (v_openStart : Int32) (v_openLength : Int32) (v_row : Nat → Int32) (v_starts : Nat → Int32) (v_lengths : Nat → Int32) (x1 : Int32) (z : Int32 × (Nat → Int32)) (h : f_Te_append N x1 v_openStart v_openLength v_row = some z) : Ci l y_Te_append prog_5_method_3_code 3 none ({ frames := 0, cells := 0, slots := 0, locals := 0 }) (dC, dI) cB cI aK aV [.ref h_this, .int x1] [(h_this, .inr (3, [.ref h_this_row, .ref h_this_starts, .ref h_this_lengths, .int v_size, .int v_openStart, .int v_openLength])), (h_this_row, .inl (cB, 300, .inl v_row)), (h_this_starts, .inl (cI, 100, .inl v_starts)), (h_this_lengths, .inl (cI, 100, .inl v_lengths))] (fun A => (Qv (dC, dI) [(h_this, .inr (3, [.ref h_this_row, .ref h_this_starts, .ref h_this_lengths, .int v_size, .int v_openStart, .int z.1])), (h_this_row, .inl (cB, 300, .inl z.2)), (h_this_starts, .inl (cI, 100, .inl v_starts)), (h_this_lengths, .inl (cI, 100, .inl v_lengths))] A)) := by
  refine Ci_of (by decide) (Nat.le_of_ble_eq_true rfl) (fun p e s m below meth c A C hK hnm hA hP hD ls hl => ?_)
  obtain ⟨hx, hb, hr, hml, hown, hts, hlk⟩ := id C
  have hS : va_S A s.heap s.heap [] := va_S.rf
  have hl : lv_has ls 3 [(0, .ref h_this), (1, .int x1)] := hl
  rw [f_Te_append] at h
  refine lv_aload_n hx hb d_Te_append_0 rfl (lv_at hl 0 rfl) ?_
  refine va_get (D := (dC, dI)) (ci := 3) (v := .int v_openStart) (C := R_Te) (T := F_Te) (N := 6) hx hb hts in_Te hown hK.1 hP 0 rfl rfl 4 (by decide) (hts _ m_55) (fun _ h9 => h9) rfl d_Te_append_1 ?_
  refine lv_aload_n hx hb d_Te_append_4 rfl (lv_at hl 0 rfl) ?_
  refine va_get (D := (dC, dI)) (ci := 3) (v := .int v_openLength) (C := R_Te) (T := F_Te) (N := 6) hx hb hts in_Te hown hK.1 hP 0 rfl rfl 5 (by decide) (hts _ m_56) (fun _ h9 => h9) rfl d_Te_append_5 ?_
  refine lv_iadd hx hb d_Te_append_8 ?_
  refine lv_istore_n (lv' := [(2, .int (v_openStart + v_openLength)), (0, .ref h_this), (1, .int x1)]) hx hb d_Te_append_9 rfl hl (by decide) rfl (fun ls hl => ?_)
  refine lv_iload_n hx hb d_Te_append_10 rfl (lv_at hl 0 rfl) ?_
  refine lv_if_lt (tgt := 39) hx hb d_Te_append_11 (by decide) (fun c_1 => ?_) (fun c_1 => ?_)
  · replace h := itT h c_1
    obtain rfl := Option.some.inj h
    exact W.vret hx hb hr (fun t ht hW => ⟨⟨(), rfl, trivial, by rw [ht]; exact hP, hD⟩, hS.F ht⟩) hS.2.2 d_Te_append_39 hlk
  · replace h := itF h c_1
    refine lv_iload_n hx hb d_Te_append_14 rfl (lv_at hl 0 rfl) ?_
    refine lv_sipush (v := 300) hx hb d_Te_append_15 (by decide) ?_
    refine lv_icmp_ge (tgt := 39) hx hb d_Te_append_18 (by decide) (fun c_2 => ?_) (fun c_2 => ?_)
    · replace h := itT h c_2
      obtain rfl := Option.some.inj h
      exact W.vret hx hb hr (fun t ht hW => ⟨⟨(), rfl, trivial, by rw [ht]; exact hP, hD⟩, hS.F ht⟩) hS.2.2 d_Te_append_39 hlk
    · replace h := itF h c_2
      refine lv_aload_n hx hb d_Te_append_21 rfl (lv_at hl 1 rfl) ?_
      refine va_get (D := (dC, dI)) (ci := 3) (v := .ref h_this_row) (C := R_Te) (T := F_Te) (N := 6) hx hb hts in_Te hown hK.1 hP 0 rfl rfl 0 (by decide) (hts _ m_49) (fun _ h9 => h9) rfl d_Te_append_22 ?_
      refine lv_iload_n hx hb d_Te_append_25 rfl (lv_at hl 0 rfl) ?_
      refine lv_iload_n hx hb d_Te_append_26 rfl (lv_at hl 2 rfl) ?_
      refine lv_i2b hx hb d_Te_append_27 rfl ?_
      obtain ⟨g_3, h⟩ := grd h
      refine va_bast hx hb hK.1 hP hD hS 1 0 rfl rfl (inB_in g_3) d_Te_append_28 (fun H locs hP hD hS => ?_)
      have hP : va_P (dC, dI) classes [(h_this, .inr (3, [.ref h_this_row, .ref h_this_starts, .ref h_this_lengths, .int v_size, .int v_openStart, .int v_openLength])), (h_this_row, .inl (cB, 300, .inl (upd v_row (v_openStart + v_openLength).toNatClampNeg (vp_nar .byte x1.toInt8.toInt32)))), (h_this_starts, .inl (cI, 100, .inl v_starts)), (h_this_lengths, .inl (cI, 100, .inl v_lengths))] H := hP
      have hD : va_D A [(h_this, .inr (3, [.ref h_this_row, .ref h_this_starts, .ref h_this_lengths, .int v_size, .int v_openStart, .int v_openLength])), (h_this_row, .inl (cB, 300, .inl (upd v_row (v_openStart + v_openLength).toNatClampNeg (vp_nar .byte x1.toInt8.toInt32)))), (h_this_starts, .inl (cI, 100, .inl v_starts)), (h_this_lengths, .inl (cI, 100, .inl v_lengths))] := hD
      refine lv_aload_n hx hb d_Te_append_29 rfl (lv_at hl 1 rfl) ?_
      refine lv_dup hx hb d_Te_append_30 rfl ?_
      refine va_get (D := (dC, dI)) (ci := 3) (v := .int v_openLength) (C := R_Te) (T := F_Te) (N := 6) hx hb hts in_Te hown hK.1 hP 0 rfl rfl 5 (by decide) (hts _ m_56) (fun _ h9 => h9) rfl d_Te_append_31 ?_
      refine lv_iconst (v := 1) hx hb d_Te_append_34 (by decide) ?_
      refine lv_iadd hx hb d_Te_append_35 ?_
      refine va_put (D := (dC, dI)) (ci := 3) (v := .int (v_openLength + 1)) (ty := .int) (C := R_Te) (T := F_Te) (N := 6) hx hb hts in_Te t_Te t_Te_ok n_Te hown hK.1 hP hD hS 0 rfl rfl 5 (by decide) (hts _ m_56) (fun _ h9 => h9) rfl (by decide +kernel) rfl rfl (Nat.le_of_ble_eq_true rfl) d_Te_append_36 (fun H locs hP hD hS => ?_)
      have hP : va_P (dC, dI) classes [(h_this, .inr (3, [.ref h_this_row, .ref h_this_starts, .ref h_this_lengths, .int v_size, .int v_openStart, .int (v_openLength + 1)])), (h_this_row, .inl (cB, 300, .inl (upd v_row (v_openStart + v_openLength).toNatClampNeg (vp_nar .byte x1.toInt8.toInt32)))), (h_this_starts, .inl (cI, 100, .inl v_starts)), (h_this_lengths, .inl (cI, 100, .inl v_lengths))] H := hP
      have hD : va_D A [(h_this, .inr (3, [.ref h_this_row, .ref h_this_starts, .ref h_this_lengths, .int v_size, .int v_openStart, .int (v_openLength + 1)])), (h_this_row, .inl (cB, 300, .inl (upd v_row (v_openStart + v_openLength).toNatClampNeg (vp_nar .byte x1.toInt8.toInt32)))), (h_this_starts, .inl (cI, 100, .inl v_starts)), (h_this_lengths, .inl (cI, 100, .inl v_lengths))] := hD
      obtain rfl := Option.some.inj h
      exact W.vret hx hb hr (fun t ht hW => ⟨⟨(), rfl, trivial, by rw [ht]; exact hP, hD⟩, hS.F ht⟩) hS.2.2 d_Te_append_39 hlk
set_option maxHeartbeats 4000000 in
set_option maxRecDepth 100000 in
theorem c_Te_openByteAt {l : Launch} {dC : Nat → ClassId} {dI : Nat → Nat → Nat} {cB cI : ClassId} {aK aV : Nat → Nat} (N : Nat) (h_this h_this_row h_this_starts h_this_lengths : Nat) (v_size : Int32) (v_openStart : Int32) (v_openLength : Int32) (v_row : Nat → Int32) (v_starts : Nat → Int32) (v_lengths : Nat → Int32) (x1 : Int32) (z : Int32) (h : f_Te_openByteAt N x1 v_openStart v_openLength v_row = some z) : Ci l y_Te_openByteAt prog_5_method_4_code 3 (some .int) ({ frames := 0, cells := 0, slots := 0, locals := 0 }) (dC, dI) cB cI aK aV [.ref h_this, .int x1] [(h_this, .inr (3, [.ref h_this_row, .ref h_this_starts, .ref h_this_lengths, .int v_size, .int v_openStart, .int v_openLength])), (h_this_row, .inl (cB, 300, .inl v_row)), (h_this_starts, .inl (cI, 100, .inl v_starts)), (h_this_lengths, .inl (cI, 100, .inl v_lengths))] (fun A => (Qi (dC, dI) [(h_this, .inr (3, [.ref h_this_row, .ref h_this_starts, .ref h_this_lengths, .int v_size, .int v_openStart, .int v_openLength])), (h_this_row, .inl (cB, 300, .inl v_row)), (h_this_starts, .inl (cI, 100, .inl v_starts)), (h_this_lengths, .inl (cI, 100, .inl v_lengths))] A z)) := by
  refine Ci_of (by decide) (Nat.le_of_ble_eq_true rfl) (fun p e s m below meth c A C hK hnm hA hP hD ls hl => ?_)
  obtain ⟨hx, hb, hr, hml, hown, hts, hlk⟩ := id C
  have hS : va_S A s.heap s.heap [] := va_S.rf
  have hl : lv_has ls 3 [(0, .ref h_this), (1, .int x1)] := hl
  rw [f_Te_openByteAt] at h
  refine lv_aload_n hx hb d_Te_openByteAt_0 rfl (lv_at hl 0 rfl) ?_
  refine va_get (D := (dC, dI)) (ci := 3) (v := .int v_openStart) (C := R_Te) (T := F_Te) (N := 6) hx hb hts in_Te hown hK.1 hP 0 rfl rfl 4 (by decide) (hts _ m_55) (fun _ h9 => h9) rfl d_Te_openByteAt_1 ?_
  refine lv_iload_n hx hb d_Te_openByteAt_4 rfl (lv_at hl 1 rfl) ?_
  refine lv_iadd hx hb d_Te_openByteAt_5 ?_
  refine lv_istore_n (lv' := [(2, .int (v_openStart + x1)), (0, .ref h_this), (1, .int x1)]) hx hb d_Te_openByteAt_6 rfl hl (by decide) rfl (fun ls hl => ?_)
  refine lv_iload_n hx hb d_Te_openByteAt_7 rfl (lv_at hl 2 rfl) ?_
  refine lv_if_lt (tgt := 30) hx hb d_Te_openByteAt_8 (by decide) (fun c_1 => ?_) (fun c_1 => ?_)
  · replace h := itT h c_1
    refine lv_iconst (v := (-1)) hx hb d_Te_openByteAt_30 (by decide) ?_
    refine lv_goto (tgt := 44) hx hb d_Te_openByteAt_31 (by decide) ?_
    obtain rfl := Option.some.inj h
    exact W.iret (v := (-1)) hx hb hr (fun t ht hW => ⟨⟨(-1), (), rfl, rfl, by rw [ht]; exact hP, hD⟩, hS.F ht⟩) hS.2.2 d_Te_openByteAt_44 hlk
  · replace h := itF h c_1
    refine lv_iload_n hx hb d_Te_openByteAt_11 rfl (lv_at hl 2 rfl) ?_
    refine lv_aload_n hx hb d_Te_openByteAt_12 rfl (lv_at hl 1 rfl) ?_
    refine va_get (D := (dC, dI)) (ci := 3) (v := .int v_openLength) (C := R_Te) (T := F_Te) (N := 6) hx hb hts in_Te hown hK.1 hP 0 rfl rfl 5 (by decide) (hts _ m_56) (fun _ h9 => h9) rfl d_Te_openByteAt_13 ?_
    refine lv_icmp_ge (tgt := 30) hx hb d_Te_openByteAt_16 (by decide) (fun c_2 => ?_) (fun c_2 => ?_)
    · replace h := itT h c_2
      refine lv_iconst (v := (-1)) hx hb d_Te_openByteAt_30 (by decide) ?_
      refine lv_goto (tgt := 44) hx hb d_Te_openByteAt_31 (by decide) ?_
      obtain rfl := Option.some.inj h
      exact W.iret (v := (-1)) hx hb hr (fun t ht hW => ⟨⟨(-1), (), rfl, rfl, by rw [ht]; exact hP, hD⟩, hS.F ht⟩) hS.2.2 d_Te_openByteAt_44 hlk
    · replace h := itF h c_2
      refine lv_iload_n hx hb d_Te_openByteAt_19 rfl (lv_at hl 0 rfl) ?_
      refine lv_if_lt (tgt := 30) hx hb d_Te_openByteAt_20 (by decide) (fun c_3 => ?_) (fun c_3 => ?_)
      · replace h := itT h c_3
        refine lv_iconst (v := (-1)) hx hb d_Te_openByteAt_30 (by decide) ?_
        refine lv_goto (tgt := 44) hx hb d_Te_openByteAt_31 (by decide) ?_
        obtain rfl := Option.some.inj h
        exact W.iret (v := (-1)) hx hb hr (fun t ht hW => ⟨⟨(-1), (), rfl, rfl, by rw [ht]; exact hP, hD⟩, hS.F ht⟩) hS.2.2 d_Te_openByteAt_44 hlk
      · replace h := itF h c_3
        refine lv_iload_n hx hb d_Te_openByteAt_23 rfl (lv_at hl 0 rfl) ?_
        refine lv_sipush (v := 300) hx hb d_Te_openByteAt_24 (by decide) ?_
        refine lv_icmp_lt (tgt := 34) hx hb d_Te_openByteAt_27 (by decide) (fun c_4 => ?_) (fun c_4 => ?_)
        · replace h := itT h c_4
          refine lv_aload_n hx hb d_Te_openByteAt_34 rfl (lv_at hl 1 rfl) ?_
          refine va_get (D := (dC, dI)) (ci := 3) (v := .ref h_this_row) (C := R_Te) (T := F_Te) (N := 6) hx hb hts in_Te hown hK.1 hP 0 rfl rfl 0 (by decide) (hts _ m_49) (fun _ h9 => h9) rfl d_Te_openByteAt_35 ?_
          refine lv_iload_n hx hb d_Te_openByteAt_38 rfl (lv_at hl 0 rfl) ?_
          obtain ⟨g_5, h⟩ := grd h
          refine va_bald hx hb hK.1 hP 1 0 rfl rfl (inB_in g_5) d_Te_openByteAt_39 ?_
          refine lv_sipush (v := 255) hx hb d_Te_openByteAt_40 (by decide) ?_
          refine lv_iand hx hb d_Te_openByteAt_43 ?_
          obtain rfl := Option.some.inj h
          exact W.iret (v := (v_row (v_openStart + x1).toNatClampNeg) &&& 255) hx hb hr (fun t ht hW => ⟨⟨(v_row (v_openStart + x1).toNatClampNeg) &&& 255, (), rfl, rfl, by rw [ht]; exact hP, hD⟩, hS.F ht⟩) hS.2.2 d_Te_openByteAt_44 hlk
        · replace h := itF h c_4
          refine lv_iconst (v := (-1)) hx hb d_Te_openByteAt_30 (by decide) ?_
          refine lv_goto (tgt := 44) hx hb d_Te_openByteAt_31 (by decide) ?_
          obtain rfl := Option.some.inj h
          exact W.iret (v := (-1)) hx hb hr (fun t ht hW => ⟨⟨(-1), (), rfl, rfl, by rw [ht]; exact hP, hD⟩, hS.F ht⟩) hS.2.2 d_Te_openByteAt_44 hlk
set_option maxHeartbeats 4000000 in
set_option maxRecDepth 100000 in
theorem c_Te_dropOpen {l : Launch} {dC : Nat → ClassId} {dI : Nat → Nat → Nat} {cB cI : ClassId} {aK aV : Nat → Nat} (N : Nat) (h_this h_this_row h_this_starts h_this_lengths : Nat) (v_size : Int32) (v_openStart : Int32) (v_openLength : Int32) (v_row : Nat → Int32) (v_starts : Nat → Int32) (v_lengths : Nat → Int32) (z : Int32) (h : f_Te_dropOpen N v_openLength = some z) : Ci l y_Te_dropOpen prog_5_method_5_code 1 none ({ frames := 0, cells := 0, slots := 0, locals := 0 }) (dC, dI) cB cI aK aV [.ref h_this] [(h_this, .inr (3, [.ref h_this_row, .ref h_this_starts, .ref h_this_lengths, .int v_size, .int v_openStart, .int v_openLength])), (h_this_row, .inl (cB, 300, .inl v_row)), (h_this_starts, .inl (cI, 100, .inl v_starts)), (h_this_lengths, .inl (cI, 100, .inl v_lengths))] (fun A => (Qv (dC, dI) [(h_this, .inr (3, [.ref h_this_row, .ref h_this_starts, .ref h_this_lengths, .int v_size, .int v_openStart, .int z])), (h_this_row, .inl (cB, 300, .inl v_row)), (h_this_starts, .inl (cI, 100, .inl v_starts)), (h_this_lengths, .inl (cI, 100, .inl v_lengths))] A)) := by
  refine Ci_of (by decide) (Nat.le_of_ble_eq_true rfl) (fun p e s m below meth c A C hK hnm hA hP hD ls hl => ?_)
  obtain ⟨hx, hb, hr, hml, hown, hts, hlk⟩ := id C
  have hS : va_S A s.heap s.heap [] := va_S.rf
  have hl : lv_has ls 1 [(0, .ref h_this)] := hl
  rw [f_Te_dropOpen] at h
  refine lv_aload_n hx hb d_Te_dropOpen_0 rfl (lv_at hl 0 rfl) ?_
  refine lv_iconst (v := 0) hx hb d_Te_dropOpen_1 (by decide) ?_
  refine va_put (D := (dC, dI)) (ci := 3) (v := .int 0) (ty := .int) (C := R_Te) (T := F_Te) (N := 6) hx hb hts in_Te t_Te t_Te_ok n_Te hown hK.1 hP hD hS 0 rfl rfl 5 (by decide) (hts _ m_56) (fun _ h9 => h9) rfl (by decide +kernel) rfl rfl (Nat.le_of_ble_eq_true rfl) d_Te_dropOpen_2 (fun H locs hP hD hS => ?_)
  have hP : va_P (dC, dI) classes [(h_this, .inr (3, [.ref h_this_row, .ref h_this_starts, .ref h_this_lengths, .int v_size, .int v_openStart, .int 0])), (h_this_row, .inl (cB, 300, .inl v_row)), (h_this_starts, .inl (cI, 100, .inl v_starts)), (h_this_lengths, .inl (cI, 100, .inl v_lengths))] H := hP
  have hD : va_D A [(h_this, .inr (3, [.ref h_this_row, .ref h_this_starts, .ref h_this_lengths, .int v_size, .int v_openStart, .int 0])), (h_this_row, .inl (cB, 300, .inl v_row)), (h_this_starts, .inl (cI, 100, .inl v_starts)), (h_this_lengths, .inl (cI, 100, .inl v_lengths))] := hD
  obtain rfl := Option.some.inj h
  exact W.vret hx hb hr (fun t ht hW => ⟨⟨(), rfl, trivial, by rw [ht]; exact hP, hD⟩, hS.F ht⟩) hS.2.2 d_Te_dropOpen_5 hlk
set_option maxHeartbeats 4000000 in
set_option maxRecDepth 100000 in
theorem k_Te_dropBlanksAtOpenEnd_0 {p : Program} {l : Launch} {e : Env} {s : State} {m : MethodId} {args : Array Value} {below : List Frame} {meth : Method} {c : Code} {dC : Nat → ClassId} {dI : Nat → Nat → Nat} {cB cI : ClassId} {aK aV : Nat → Nat} {A : Nat → Prop} (C : cx p s m args meth c R_Te prog_5_method_6_code 1 none) (hK : kx (dC, dI) cB cI aK aV A s) (hA : ∀ q : Nat, s.heap.size ≤ q → A q) (N : Nat) (h_this h_this_row h_this_starts h_this_lengths : Nat) (v_size : Int32) (v_starts : Nat → Int32) (v_lengths : Nat → Int32) (v_openStart : Int32) (v_row : Nat → Int32) (z : Int32) :
    ∀ (n : Nat), ∀ (v_openLength : Int32), f_Te_dropBlanksAtOpenEnd_0 N v_openStart v_row n v_openLength = some z → ∀ (H : Heap) (locs : List Loc), va_P (dC, dI) classes [(h_this, .inr (3, [.ref h_this_row, .ref h_this_starts, .ref h_this_lengths, .int v_size, .int v_openStart, .int v_openLength])), (h_this_row, .inl (cB, 300, .inl v_row)), (h_this_starts, .inl (cI, 100, .inl v_starts)), (h_this_lengths, .inl (cI, 100, .inl v_lengths))] H → va_D A [(h_this, .inr (3, [.ref h_this_row, .ref h_this_starts, .ref h_this_lengths, .int v_size, .int v_openStart, .int v_openLength])), (h_this_row, .inl (cB, 300, .inl v_row)), (h_this_starts, .inl (cI, 100, .inl v_starts)), (h_this_lengths, .inl (cI, 100, .inl v_lengths))] → va_S A s.heap H locs → ∀ ls : Array Slot, lv_has ls 1 [(0, .ref h_this)] → W p l e ({ frames := 1, cells := 0, slots := 0, locals := 22 }) s m args below meth c H locs 0 0 (MQ below (Qv (dC, dI) [(h_this, .inr (3, [.ref h_this_row, .ref h_this_starts, .ref h_this_lengths, .int v_size, .int v_openStart, .int z])), (h_this_row, .inl (cB, 300, .inl v_row)), (h_this_starts, .inl (cI, 100, .inl v_starts)), (h_this_lengths, .inl (cI, 100, .inl v_lengths))] A) args s 0 0 A) (F0 m 0 ls []) := by
  obtain ⟨hx, hb, hr, hml, hown, hts, hlk⟩ := id C
  intro n
  induction n with
  | zero =>
    intro v_openLength h
    rw [f_Te_dropBlanksAtOpenEnd_0] at h
    cases h
  | succ n ih =>
    intro v_openLength h H locs hP hD hS ls hl
    rw [f_Te_dropBlanksAtOpenEnd_0] at h
    refine lv_aload_n hx hb d_Te_dropBlanksAtOpenEnd_0 rfl (lv_at hl 0 rfl) ?_
    refine va_get (D := (dC, dI)) (ci := 3) (v := .int v_openLength) (C := R_Te) (T := F_Te) (N := 6) hx hb hts in_Te hown hK.1 hP 0 rfl rfl 5 (by decide) (hts _ m_56) (fun _ h9 => h9) rfl d_Te_dropBlanksAtOpenEnd_1 ?_
    refine lv_if_le (tgt := 36) hx hb d_Te_dropBlanksAtOpenEnd_4 (by decide) (fun c_1 => ?_) (fun c_1 => ?_)
    · replace h := itT h c_1
      obtain rfl := Option.some.inj h
      exact W.vret hx hb hr (fun t ht hW => ⟨⟨(), rfl, trivial, by rw [ht]; exact hP, hD⟩, hS.F ht⟩) hS.2.2 d_Te_dropBlanksAtOpenEnd_36 hlk
    · replace h := itF h c_1
      refine lv_aload_n hx hb d_Te_dropBlanksAtOpenEnd_7 rfl (lv_at hl 0 rfl) ?_
      refine lv_aload_n hx hb d_Te_dropBlanksAtOpenEnd_8 rfl (lv_at hl 0 rfl) ?_
      refine va_get (D := (dC, dI)) (ci := 3) (v := .int v_openLength) (C := R_Te) (T := F_Te) (N := 6) hx hb hts in_Te hown hK.1 hP 0 rfl rfl 5 (by decide) (hts _ m_56) (fun _ h9 => h9) rfl d_Te_dropBlanksAtOpenEnd_9 ?_
      refine lv_iconst (v := 1) hx hb d_Te_dropBlanksAtOpenEnd_12 (by decide) ?_
      refine lv_isub hx hb d_Te_dropBlanksAtOpenEnd_13 ?_
      obtain ⟨z2, hc_2, h⟩ := bs h
      refine go_i (wr := []) (w1 := [(h_this, .inr (3, [.ref h_this_row, .ref h_this_starts, .ref h_this_lengths, .int v_size, .int v_openStart, .int v_openLength])), (h_this_row, .inl (cB, 300, .inl v_row)), (h_this_starts, .inl (cI, 100, .inl v_starts)), (h_this_lengths, .inl (cI, 100, .inl v_lengths))]) (ws2 := [(h_this, .inr (3, [.ref h_this_row, .ref h_this_starts, .ref h_this_lengths, .int v_size, .int v_openStart, .int v_openLength])), (h_this_row, .inl (cB, 300, .inl v_row)), (h_this_starts, .inl (cI, 100, .inl v_starts)), (h_this_lengths, .inl (cI, 100, .inl v_lengths))]) hP hD hS hA [0, 1, 2, 3] [] [0, 1, 2, 3] rfl (by decide) rfl (by decide) (by decide) rfl (by decide) (fun hPc hDc hFc => rn_V (As := [.int (v_openLength - 1)]) (rest := []) C hK (c_Te_openByteAt N h_this h_this_row h_this_starts h_this_lengths v_size v_openStart v_openLength v_row v_starts v_lengths (v_openLength - 1) z2 hc_2 _) ⟨rfl, rfl⟩ m_200 ok_Te_openByteAt ⟨by decide, by decide⟩ rfl rfl rfl hl.1 rfl (Nat.le_of_ble_eq_true rfl) d_Te_dropBlanksAtOpenEnd_14 ⟨by decide, by decide⟩ hS hPc hDc hFc) (fun H locs hP hD hS => ?_)
      obtain ⟨z3, hc_3, h⟩ := bs h
      refine go_i (wr := [(h_this, .inr (3, [.ref h_this_row, .ref h_this_starts, .ref h_this_lengths, .int v_size, .int v_openStart, .int v_openLength])), (h_this_row, .inl (cB, 300, .inl v_row)), (h_this_starts, .inl (cI, 100, .inl v_starts)), (h_this_lengths, .inl (cI, 100, .inl v_lengths))]) (w1 := []) (ws2 := [(h_this, .inr (3, [.ref h_this_row, .ref h_this_starts, .ref h_this_lengths, .int v_size, .int v_openStart, .int v_openLength])), (h_this_row, .inl (cB, 300, .inl v_row)), (h_this_starts, .inl (cI, 100, .inl v_starts)), (h_this_lengths, .inl (cI, 100, .inl v_lengths))]) hP hD hS hA [] [0, 1, 2, 3] [0, 1, 2, 3] rfl (by decide) rfl (by decide) (by decide) rfl (by decide) (fun hPc hDc hFc => rn_SN (As := [.int z2]) (rest := []) C hK (c_De_isBlank N z2 z3 hc_3 _) ⟨rfl, rfl⟩ mn_204 ok_De_isBlank ⟨by decide, by decide⟩ hl.1 rfl (Nat.le_of_ble_eq_true rfl) d_Te_dropBlanksAtOpenEnd_17 ⟨by decide, by decide⟩ hS hPc hDc hFc) (fun H locs hP hD hS => ?_)
      refine lv_if_eq (tgt := 36) hx hb d_Te_dropBlanksAtOpenEnd_20 (by decide) (fun c_4 => ?_) (fun c_4 => ?_)
      · replace h := itT h c_4
        obtain rfl := Option.some.inj h
        exact W.vret hx hb hr (fun t ht hW => ⟨⟨(), rfl, trivial, by rw [ht]; exact hP, hD⟩, hS.F ht⟩) hS.2.2 d_Te_dropBlanksAtOpenEnd_36 hlk
      · replace h := itF h c_4
        refine lv_aload_n hx hb d_Te_dropBlanksAtOpenEnd_23 rfl (lv_at hl 0 rfl) ?_
        refine lv_dup hx hb d_Te_dropBlanksAtOpenEnd_24 rfl ?_
        refine va_get (D := (dC, dI)) (ci := 3) (v := .int v_openLength) (C := R_Te) (T := F_Te) (N := 6) hx hb hts in_Te hown hK.1 hP 0 rfl rfl 5 (by decide) (hts _ m_56) (fun _ h9 => h9) rfl d_Te_dropBlanksAtOpenEnd_25 ?_
        refine lv_iconst (v := 1) hx hb d_Te_dropBlanksAtOpenEnd_28 (by decide) ?_
        refine lv_isub hx hb d_Te_dropBlanksAtOpenEnd_29 ?_
        refine va_put (D := (dC, dI)) (ci := 3) (v := .int (v_openLength - 1)) (ty := .int) (C := R_Te) (T := F_Te) (N := 6) hx hb hts in_Te t_Te t_Te_ok n_Te hown hK.1 hP hD hS 0 rfl rfl 5 (by decide) (hts _ m_56) (fun _ h9 => h9) rfl (by decide +kernel) rfl rfl (Nat.le_of_ble_eq_true rfl) d_Te_dropBlanksAtOpenEnd_30 (fun H locs hP hD hS => ?_)
        have hP : va_P (dC, dI) classes [(h_this, .inr (3, [.ref h_this_row, .ref h_this_starts, .ref h_this_lengths, .int v_size, .int v_openStart, .int (v_openLength - 1)])), (h_this_row, .inl (cB, 300, .inl v_row)), (h_this_starts, .inl (cI, 100, .inl v_starts)), (h_this_lengths, .inl (cI, 100, .inl v_lengths))] H := hP
        have hD : va_D A [(h_this, .inr (3, [.ref h_this_row, .ref h_this_starts, .ref h_this_lengths, .int v_size, .int v_openStart, .int (v_openLength - 1)])), (h_this_row, .inl (cB, 300, .inl v_row)), (h_this_starts, .inl (cI, 100, .inl v_starts)), (h_this_lengths, .inl (cI, 100, .inl v_lengths))] := hD
        refine lv_goto (tgt := 0) hx hb d_Te_dropBlanksAtOpenEnd_33 (by decide) ?_
        exact ih (v_openLength - 1) h _ _ hP hD hS _ (lv_sub hl [0] rfl)
set_option maxHeartbeats 4000000 in
set_option maxRecDepth 100000 in
theorem c_Te_dropBlanksAtOpenEnd {l : Launch} {dC : Nat → ClassId} {dI : Nat → Nat → Nat} {cB cI : ClassId} {aK aV : Nat → Nat} (N : Nat) (h_this h_this_row h_this_starts h_this_lengths : Nat) (v_size : Int32) (v_openStart : Int32) (v_openLength : Int32) (v_row : Nat → Int32) (v_starts : Nat → Int32) (v_lengths : Nat → Int32) (z : Int32) (h : f_Te_dropBlanksAtOpenEnd N v_openStart v_openLength v_row = some z) : Ci l y_Te_dropBlanksAtOpenEnd prog_5_method_6_code 1 none ({ frames := 1, cells := 0, slots := 0, locals := 22 }) (dC, dI) cB cI aK aV [.ref h_this] [(h_this, .inr (3, [.ref h_this_row, .ref h_this_starts, .ref h_this_lengths, .int v_size, .int v_openStart, .int v_openLength])), (h_this_row, .inl (cB, 300, .inl v_row)), (h_this_starts, .inl (cI, 100, .inl v_starts)), (h_this_lengths, .inl (cI, 100, .inl v_lengths))] (fun A => (Qv (dC, dI) [(h_this, .inr (3, [.ref h_this_row, .ref h_this_starts, .ref h_this_lengths, .int v_size, .int v_openStart, .int z])), (h_this_row, .inl (cB, 300, .inl v_row)), (h_this_starts, .inl (cI, 100, .inl v_starts)), (h_this_lengths, .inl (cI, 100, .inl v_lengths))] A)) := by
  refine Ci_of (by decide) (Nat.le_of_ble_eq_true rfl) (fun p e s m below meth c A C hK hnm hA hP hD ls hl => ?_)
  obtain ⟨hx, hb, hr, hml, hown, hts, hlk⟩ := id C
  have hS : va_S A s.heap s.heap [] := va_S.rf
  have hl : lv_has ls 1 [(0, .ref h_this)] := hl
  rw [f_Te_dropBlanksAtOpenEnd] at h
  exact k_Te_dropBlanksAtOpenEnd_0 C hK hA N h_this h_this_row h_this_starts h_this_lengths v_size v_starts v_lengths v_openStart v_row z N v_openLength h _ _ hP hD hS _ (lv_sub hl [0] rfl)
set_option maxHeartbeats 4000000 in
set_option maxRecDepth 100000 in
theorem c_Te_closeOpen {l : Launch} {dC : Nat → ClassId} {dI : Nat → Nat → Nat} {cB cI : ClassId} {aK aV : Nat → Nat} (N : Nat) (h_this h_this_row h_this_starts h_this_lengths : Nat) (v_size : Int32) (v_openStart : Int32) (v_openLength : Int32) (v_row : Nat → Int32) (v_starts : Nat → Int32) (v_lengths : Nat → Int32) (z : Int32 × Int32 × Int32 × (Nat → Int32) × (Nat → Int32)) (h : f_Te_closeOpen N v_size v_openStart v_openLength v_starts v_lengths = some z) : Ci l y_Te_closeOpen prog_5_method_7_code 1 none ({ frames := 0, cells := 0, slots := 0, locals := 0 }) (dC, dI) cB cI aK aV [.ref h_this] [(h_this, .inr (3, [.ref h_this_row, .ref h_this_starts, .ref h_this_lengths, .int v_size, .int v_openStart, .int v_openLength])), (h_this_row, .inl (cB, 300, .inl v_row)), (h_this_starts, .inl (cI, 100, .inl v_starts)), (h_this_lengths, .inl (cI, 100, .inl v_lengths))] (fun A => (Qv (dC, dI) [(h_this, .inr (3, [.ref h_this_row, .ref h_this_starts, .ref h_this_lengths, .int z.1, .int z.2.1, .int z.2.2.1])), (h_this_row, .inl (cB, 300, .inl v_row)), (h_this_starts, .inl (cI, 100, .inl z.2.2.2.1)), (h_this_lengths, .inl (cI, 100, .inl z.2.2.2.2))] A)) := by
  refine Ci_of (by decide) (Nat.le_of_ble_eq_true rfl) (fun p e s m below meth c A C hK hnm hA hP hD ls hl => ?_)
  obtain ⟨hx, hb, hr, hml, hown, hts, hlk⟩ := id C
  have hS : va_S A s.heap s.heap [] := va_S.rf
  have hl : lv_has ls 1 [(0, .ref h_this)] := hl
  rw [f_Te_closeOpen] at h
  refine lv_aload_n hx hb d_Te_closeOpen_0 rfl (lv_at hl 0 rfl) ?_
  refine va_get (D := (dC, dI)) (ci := 3) (v := .int v_size) (C := R_Te) (T := F_Te) (N := 6) hx hb hts in_Te hown hK.1 hP 0 rfl rfl 3 (by decide) (hts _ m_52) (fun _ h9 => h9) rfl d_Te_closeOpen_1 ?_
  refine lv_if_lt (tgt := 65) hx hb d_Te_closeOpen_4 (by decide) (fun c_1 => ?_) (fun c_1 => ?_)
  · replace h := itT h c_1
    refine lv_aload_n hx hb d_Te_closeOpen_65 rfl (lv_at hl 0 rfl) ?_
    refine lv_iconst (v := 0) hx hb d_Te_closeOpen_66 (by decide) ?_
    refine va_put (D := (dC, dI)) (ci := 3) (v := .int 0) (ty := .int) (C := R_Te) (T := F_Te) (N := 6) hx hb hts in_Te t_Te t_Te_ok n_Te hown hK.1 hP hD hS 0 rfl rfl 5 (by decide) (hts _ m_56) (fun _ h9 => h9) rfl (by decide +kernel) rfl rfl (Nat.le_of_ble_eq_true rfl) d_Te_closeOpen_67 (fun H locs hP hD hS => ?_)
    have hP : va_P (dC, dI) classes [(h_this, .inr (3, [.ref h_this_row, .ref h_this_starts, .ref h_this_lengths, .int v_size, .int v_openStart, .int 0])), (h_this_row, .inl (cB, 300, .inl v_row)), (h_this_starts, .inl (cI, 100, .inl v_starts)), (h_this_lengths, .inl (cI, 100, .inl v_lengths))] H := hP
    have hD : va_D A [(h_this, .inr (3, [.ref h_this_row, .ref h_this_starts, .ref h_this_lengths, .int v_size, .int v_openStart, .int 0])), (h_this_row, .inl (cB, 300, .inl v_row)), (h_this_starts, .inl (cI, 100, .inl v_starts)), (h_this_lengths, .inl (cI, 100, .inl v_lengths))] := hD
    obtain rfl := Option.some.inj h
    exact W.vret hx hb hr (fun t ht hW => ⟨⟨(), rfl, trivial, by rw [ht]; exact hP, hD⟩, hS.F ht⟩) hS.2.2 d_Te_closeOpen_70 hlk
  · replace h := itF h c_1
    refine lv_aload_n hx hb d_Te_closeOpen_7 rfl (lv_at hl 0 rfl) ?_
    refine va_get (D := (dC, dI)) (ci := 3) (v := .int v_size) (C := R_Te) (T := F_Te) (N := 6) hx hb hts in_Te hown hK.1 hP 0 rfl rfl 3 (by decide) (hts _ m_52) (fun _ h9 => h9) rfl d_Te_closeOpen_8 ?_
    refine lv_bipush (v := 100) hx hb d_Te_closeOpen_11 (by decide) ?_
    refine lv_icmp_ge (tgt := 65) hx hb d_Te_closeOpen_13 (by decide) (fun c_2 => ?_) (fun c_2 => ?_)
    · replace h := itT h c_2
      refine lv_aload_n hx hb d_Te_closeOpen_65 rfl (lv_at hl 0 rfl) ?_
      refine lv_iconst (v := 0) hx hb d_Te_closeOpen_66 (by decide) ?_
      refine va_put (D := (dC, dI)) (ci := 3) (v := .int 0) (ty := .int) (C := R_Te) (T := F_Te) (N := 6) hx hb hts in_Te t_Te t_Te_ok n_Te hown hK.1 hP hD hS 0 rfl rfl 5 (by decide) (hts _ m_56) (fun _ h9 => h9) rfl (by decide +kernel) rfl rfl (Nat.le_of_ble_eq_true rfl) d_Te_closeOpen_67 (fun H locs hP hD hS => ?_)
      have hP : va_P (dC, dI) classes [(h_this, .inr (3, [.ref h_this_row, .ref h_this_starts, .ref h_this_lengths, .int v_size, .int v_openStart, .int 0])), (h_this_row, .inl (cB, 300, .inl v_row)), (h_this_starts, .inl (cI, 100, .inl v_starts)), (h_this_lengths, .inl (cI, 100, .inl v_lengths))] H := hP
      have hD : va_D A [(h_this, .inr (3, [.ref h_this_row, .ref h_this_starts, .ref h_this_lengths, .int v_size, .int v_openStart, .int 0])), (h_this_row, .inl (cB, 300, .inl v_row)), (h_this_starts, .inl (cI, 100, .inl v_starts)), (h_this_lengths, .inl (cI, 100, .inl v_lengths))] := hD
      obtain rfl := Option.some.inj h
      exact W.vret hx hb hr (fun t ht hW => ⟨⟨(), rfl, trivial, by rw [ht]; exact hP, hD⟩, hS.F ht⟩) hS.2.2 d_Te_closeOpen_70 hlk
    · replace h := itF h c_2
      refine lv_aload_n hx hb d_Te_closeOpen_16 rfl (lv_at hl 0 rfl) ?_
      refine va_get (D := (dC, dI)) (ci := 3) (v := .ref h_this_starts) (C := R_Te) (T := F_Te) (N := 6) hx hb hts in_Te hown hK.1 hP 0 rfl rfl 1 (by decide) (hts _ m_50) (fun _ h9 => h9) rfl d_Te_closeOpen_17 ?_
      refine lv_aload_n hx hb d_Te_closeOpen_20 rfl (lv_at hl 0 rfl) ?_
      refine va_get (D := (dC, dI)) (ci := 3) (v := .int v_size) (C := R_Te) (T := F_Te) (N := 6) hx hb hts in_Te hown hK.1 hP 0 rfl rfl 3 (by decide) (hts _ m_52) (fun _ h9 => h9) rfl d_Te_closeOpen_21 ?_
      refine lv_aload_n hx hb d_Te_closeOpen_24 rfl (lv_at hl 0 rfl) ?_
      refine va_get (D := (dC, dI)) (ci := 3) (v := .int v_openStart) (C := R_Te) (T := F_Te) (N := 6) hx hb hts in_Te hown hK.1 hP 0 rfl rfl 4 (by decide) (hts _ m_55) (fun _ h9 => h9) rfl d_Te_closeOpen_25 ?_
      obtain ⟨g_3, h⟩ := grd h
      refine va_iast hx hb hK.1 hP hD hS 2 1 rfl rfl (inB_in g_3) d_Te_closeOpen_28 (fun H locs hP hD hS => ?_)
      have hP : va_P (dC, dI) classes [(h_this, .inr (3, [.ref h_this_row, .ref h_this_starts, .ref h_this_lengths, .int v_size, .int v_openStart, .int v_openLength])), (h_this_row, .inl (cB, 300, .inl v_row)), (h_this_starts, .inl (cI, 100, .inl (upd v_starts v_size.toNatClampNeg v_openStart))), (h_this_lengths, .inl (cI, 100, .inl v_lengths))] H := hP
      have hD : va_D A [(h_this, .inr (3, [.ref h_this_row, .ref h_this_starts, .ref h_this_lengths, .int v_size, .int v_openStart, .int v_openLength])), (h_this_row, .inl (cB, 300, .inl v_row)), (h_this_starts, .inl (cI, 100, .inl (upd v_starts v_size.toNatClampNeg v_openStart))), (h_this_lengths, .inl (cI, 100, .inl v_lengths))] := hD
      refine lv_aload_n hx hb d_Te_closeOpen_29 rfl (lv_at hl 0 rfl) ?_
      refine va_get (D := (dC, dI)) (ci := 3) (v := .ref h_this_lengths) (C := R_Te) (T := F_Te) (N := 6) hx hb hts in_Te hown hK.1 hP 0 rfl rfl 2 (by decide) (hts _ m_51) (fun _ h9 => h9) rfl d_Te_closeOpen_30 ?_
      refine lv_aload_n hx hb d_Te_closeOpen_33 rfl (lv_at hl 0 rfl) ?_
      refine va_get (D := (dC, dI)) (ci := 3) (v := .int v_size) (C := R_Te) (T := F_Te) (N := 6) hx hb hts in_Te hown hK.1 hP 0 rfl rfl 3 (by decide) (hts _ m_52) (fun _ h9 => h9) rfl d_Te_closeOpen_34 ?_
      refine lv_aload_n hx hb d_Te_closeOpen_37 rfl (lv_at hl 0 rfl) ?_
      refine va_get (D := (dC, dI)) (ci := 3) (v := .int v_openLength) (C := R_Te) (T := F_Te) (N := 6) hx hb hts in_Te hown hK.1 hP 0 rfl rfl 5 (by decide) (hts _ m_56) (fun _ h9 => h9) rfl d_Te_closeOpen_38 ?_
      obtain ⟨g_4, h⟩ := grd h
      refine va_iast hx hb hK.1 hP hD hS 3 1 rfl rfl (inB_in g_4) d_Te_closeOpen_41 (fun H locs hP hD hS => ?_)
      have hP : va_P (dC, dI) classes [(h_this, .inr (3, [.ref h_this_row, .ref h_this_starts, .ref h_this_lengths, .int v_size, .int v_openStart, .int v_openLength])), (h_this_row, .inl (cB, 300, .inl v_row)), (h_this_starts, .inl (cI, 100, .inl (upd v_starts v_size.toNatClampNeg v_openStart))), (h_this_lengths, .inl (cI, 100, .inl (upd v_lengths v_size.toNatClampNeg v_openLength)))] H := hP
      have hD : va_D A [(h_this, .inr (3, [.ref h_this_row, .ref h_this_starts, .ref h_this_lengths, .int v_size, .int v_openStart, .int v_openLength])), (h_this_row, .inl (cB, 300, .inl v_row)), (h_this_starts, .inl (cI, 100, .inl (upd v_starts v_size.toNatClampNeg v_openStart))), (h_this_lengths, .inl (cI, 100, .inl (upd v_lengths v_size.toNatClampNeg v_openLength)))] := hD
      refine lv_aload_n hx hb d_Te_closeOpen_42 rfl (lv_at hl 0 rfl) ?_
      refine lv_dup hx hb d_Te_closeOpen_43 rfl ?_
      refine va_get (D := (dC, dI)) (ci := 3) (v := .int v_size) (C := R_Te) (T := F_Te) (N := 6) hx hb hts in_Te hown hK.1 hP 0 rfl rfl 3 (by decide) (hts _ m_52) (fun _ h9 => h9) rfl d_Te_closeOpen_44 ?_
      refine lv_iconst (v := 1) hx hb d_Te_closeOpen_47 (by decide) ?_
      refine lv_iadd hx hb d_Te_closeOpen_48 ?_
      refine va_put (D := (dC, dI)) (ci := 3) (v := .int (v_size + 1)) (ty := .int) (C := R_Te) (T := F_Te) (N := 6) hx hb hts in_Te t_Te t_Te_ok n_Te hown hK.1 hP hD hS 0 rfl rfl 3 (by decide) (hts _ m_52) (fun _ h9 => h9) rfl (by decide +kernel) rfl rfl (Nat.le_of_ble_eq_true rfl) d_Te_closeOpen_49 (fun H locs hP hD hS => ?_)
      have hP : va_P (dC, dI) classes [(h_this, .inr (3, [.ref h_this_row, .ref h_this_starts, .ref h_this_lengths, .int (v_size + 1), .int v_openStart, .int v_openLength])), (h_this_row, .inl (cB, 300, .inl v_row)), (h_this_starts, .inl (cI, 100, .inl (upd v_starts v_size.toNatClampNeg v_openStart))), (h_this_lengths, .inl (cI, 100, .inl (upd v_lengths v_size.toNatClampNeg v_openLength)))] H := hP
      have hD : va_D A [(h_this, .inr (3, [.ref h_this_row, .ref h_this_starts, .ref h_this_lengths, .int (v_size + 1), .int v_openStart, .int v_openLength])), (h_this_row, .inl (cB, 300, .inl v_row)), (h_this_starts, .inl (cI, 100, .inl (upd v_starts v_size.toNatClampNeg v_openStart))), (h_this_lengths, .inl (cI, 100, .inl (upd v_lengths v_size.toNatClampNeg v_openLength)))] := hD
      refine lv_aload_n hx hb d_Te_closeOpen_52 rfl (lv_at hl 0 rfl) ?_
      refine lv_dup hx hb d_Te_closeOpen_53 rfl ?_
      refine va_get (D := (dC, dI)) (ci := 3) (v := .int v_openStart) (C := R_Te) (T := F_Te) (N := 6) hx hb hts in_Te hown hK.1 hP 0 rfl rfl 4 (by decide) (hts _ m_55) (fun _ h9 => h9) rfl d_Te_closeOpen_54 ?_
      refine lv_aload_n hx hb d_Te_closeOpen_57 rfl (lv_at hl 0 rfl) ?_
      refine va_get (D := (dC, dI)) (ci := 3) (v := .int v_openLength) (C := R_Te) (T := F_Te) (N := 6) hx hb hts in_Te hown hK.1 hP 0 rfl rfl 5 (by decide) (hts _ m_56) (fun _ h9 => h9) rfl d_Te_closeOpen_58 ?_
      refine lv_iadd hx hb d_Te_closeOpen_61 ?_
      refine va_put (D := (dC, dI)) (ci := 3) (v := .int (v_openStart + v_openLength)) (ty := .int) (C := R_Te) (T := F_Te) (N := 6) hx hb hts in_Te t_Te t_Te_ok n_Te hown hK.1 hP hD hS 0 rfl rfl 4 (by decide) (hts _ m_55) (fun _ h9 => h9) rfl (by decide +kernel) rfl rfl (Nat.le_of_ble_eq_true rfl) d_Te_closeOpen_62 (fun H locs hP hD hS => ?_)
      have hP : va_P (dC, dI) classes [(h_this, .inr (3, [.ref h_this_row, .ref h_this_starts, .ref h_this_lengths, .int (v_size + 1), .int (v_openStart + v_openLength), .int v_openLength])), (h_this_row, .inl (cB, 300, .inl v_row)), (h_this_starts, .inl (cI, 100, .inl (upd v_starts v_size.toNatClampNeg v_openStart))), (h_this_lengths, .inl (cI, 100, .inl (upd v_lengths v_size.toNatClampNeg v_openLength)))] H := hP
      have hD : va_D A [(h_this, .inr (3, [.ref h_this_row, .ref h_this_starts, .ref h_this_lengths, .int (v_size + 1), .int (v_openStart + v_openLength), .int v_openLength])), (h_this_row, .inl (cB, 300, .inl v_row)), (h_this_starts, .inl (cI, 100, .inl (upd v_starts v_size.toNatClampNeg v_openStart))), (h_this_lengths, .inl (cI, 100, .inl (upd v_lengths v_size.toNatClampNeg v_openLength)))] := hD
      refine lv_aload_n hx hb d_Te_closeOpen_65 rfl (lv_at hl 0 rfl) ?_
      refine lv_iconst (v := 0) hx hb d_Te_closeOpen_66 (by decide) ?_
      refine va_put (D := (dC, dI)) (ci := 3) (v := .int 0) (ty := .int) (C := R_Te) (T := F_Te) (N := 6) hx hb hts in_Te t_Te t_Te_ok n_Te hown hK.1 hP hD hS 0 rfl rfl 5 (by decide) (hts _ m_56) (fun _ h9 => h9) rfl (by decide +kernel) rfl rfl (Nat.le_of_ble_eq_true rfl) d_Te_closeOpen_67 (fun H locs hP hD hS => ?_)
      have hP : va_P (dC, dI) classes [(h_this, .inr (3, [.ref h_this_row, .ref h_this_starts, .ref h_this_lengths, .int (v_size + 1), .int (v_openStart + v_openLength), .int 0])), (h_this_row, .inl (cB, 300, .inl v_row)), (h_this_starts, .inl (cI, 100, .inl (upd v_starts v_size.toNatClampNeg v_openStart))), (h_this_lengths, .inl (cI, 100, .inl (upd v_lengths v_size.toNatClampNeg v_openLength)))] H := hP
      have hD : va_D A [(h_this, .inr (3, [.ref h_this_row, .ref h_this_starts, .ref h_this_lengths, .int (v_size + 1), .int (v_openStart + v_openLength), .int 0])), (h_this_row, .inl (cB, 300, .inl v_row)), (h_this_starts, .inl (cI, 100, .inl (upd v_starts v_size.toNatClampNeg v_openStart))), (h_this_lengths, .inl (cI, 100, .inl (upd v_lengths v_size.toNatClampNeg v_openLength)))] := hD
      obtain rfl := Option.some.inj h
      exact W.vret hx hb hr (fun t ht hW => ⟨⟨(), rfl, trivial, by rw [ht]; exact hP, hD⟩, hS.F ht⟩) hS.2.2 d_Te_closeOpen_70 hlk
set_option maxHeartbeats 4000000 in
set_option maxRecDepth 100000 in
theorem c_Te_has {l : Launch} {dC : Nat → ClassId} {dI : Nat → Nat → Nat} {cB cI : ClassId} {aK aV : Nat → Nat} (N : Nat) (h_this h_this_row h_this_starts h_this_lengths : Nat) (v_size : Int32) (v_openStart : Int32) (v_openLength : Int32) (v_row : Nat → Int32) (v_starts : Nat → Int32) (v_lengths : Nat → Int32) (x1 : Int32) (z : Int32) (h : f_Te_has N x1 v_size = some z) : Ci l y_Te_has prog_5_method_8_code 2 (some .boolean) ({ frames := 0, cells := 0, slots := 0, locals := 0 }) (dC, dI) cB cI aK aV [.ref h_this, .int x1] [(h_this, .inr (3, [.ref h_this_row, .ref h_this_starts, .ref h_this_lengths, .int v_size, .int v_openStart, .int v_openLength])), (h_this_row, .inl (cB, 300, .inl v_row)), (h_this_starts, .inl (cI, 100, .inl v_starts)), (h_this_lengths, .inl (cI, 100, .inl v_lengths))] (fun A => (Qi (dC, dI) [(h_this, .inr (3, [.ref h_this_row, .ref h_this_starts, .ref h_this_lengths, .int v_size, .int v_openStart, .int v_openLength])), (h_this_row, .inl (cB, 300, .inl v_row)), (h_this_starts, .inl (cI, 100, .inl v_starts)), (h_this_lengths, .inl (cI, 100, .inl v_lengths))] A z)) := by
  refine Ci_of (by decide) (Nat.le_of_ble_eq_true rfl) (fun p e s m below meth c A C hK hnm hA hP hD ls hl => ?_)
  obtain ⟨hx, hb, hr, hml, hown, hts, hlk⟩ := id C
  have hS : va_S A s.heap s.heap [] := va_S.rf
  have hl : lv_has ls 2 [(0, .ref h_this), (1, .int x1)] := hl
  rw [f_Te_has] at h
  refine lv_iload_n hx hb d_Te_has_0 rfl (lv_at hl 1 rfl) ?_
  refine lv_if_lt (tgt := 22) hx hb d_Te_has_1 (by decide) (fun c_1 => ?_) (fun c_1 => ?_)
  · replace h := itT h c_1
    refine lv_iconst (v := 0) hx hb d_Te_has_22 (by decide) ?_
    obtain rfl := Option.some.inj h
    exact W.zret (v := 0) hx hb hr rfl (fun t ht hW => ⟨⟨0, (), rfl, rfl, by rw [ht]; exact hP, hD⟩, hS.F ht⟩) hS.2.2 d_Te_has_23 hlk
  · replace h := itF h c_1
    refine lv_iload_n hx hb d_Te_has_4 rfl (lv_at hl 1 rfl) ?_
    refine lv_aload_n hx hb d_Te_has_5 rfl (lv_at hl 0 rfl) ?_
    refine va_get (D := (dC, dI)) (ci := 3) (v := .int v_size) (C := R_Te) (T := F_Te) (N := 6) hx hb hts in_Te hown hK.1 hP 0 rfl rfl 3 (by decide) (hts _ m_52) (fun _ h9 => h9) rfl d_Te_has_6 ?_
    refine lv_icmp_ge (tgt := 22) hx hb d_Te_has_9 (by decide) (fun c_2 => ?_) (fun c_2 => ?_)
    · replace h := itT h c_2
      refine lv_iconst (v := 0) hx hb d_Te_has_22 (by decide) ?_
      obtain rfl := Option.some.inj h
      exact W.zret (v := 0) hx hb hr rfl (fun t ht hW => ⟨⟨0, (), rfl, rfl, by rw [ht]; exact hP, hD⟩, hS.F ht⟩) hS.2.2 d_Te_has_23 hlk
    · replace h := itF h c_2
      refine lv_iload_n hx hb d_Te_has_12 rfl (lv_at hl 1 rfl) ?_
      refine lv_bipush (v := 100) hx hb d_Te_has_13 (by decide) ?_
      refine lv_icmp_ge (tgt := 22) hx hb d_Te_has_15 (by decide) (fun c_3 => ?_) (fun c_3 => ?_)
      · replace h := itT h c_3
        refine lv_iconst (v := 0) hx hb d_Te_has_22 (by decide) ?_
        obtain rfl := Option.some.inj h
        exact W.zret (v := 0) hx hb hr rfl (fun t ht hW => ⟨⟨0, (), rfl, rfl, by rw [ht]; exact hP, hD⟩, hS.F ht⟩) hS.2.2 d_Te_has_23 hlk
      · replace h := itF h c_3
        refine lv_iconst (v := 1) hx hb d_Te_has_18 (by decide) ?_
        refine lv_goto (tgt := 23) hx hb d_Te_has_19 (by decide) ?_
        obtain rfl := Option.some.inj h
        exact W.zret (v := 1) hx hb hr rfl (fun t ht hW => ⟨⟨1, (), rfl, rfl, by rw [ht]; exact hP, hD⟩, hS.F ht⟩) hS.2.2 d_Te_has_23 hlk
set_option maxHeartbeats 4000000 in
set_option maxRecDepth 100000 in
theorem c_Te_lengthOf {l : Launch} {dC : Nat → ClassId} {dI : Nat → Nat → Nat} {cB cI : ClassId} {aK aV : Nat → Nat} (N : Nat) (h_this h_this_row h_this_starts h_this_lengths : Nat) (v_size : Int32) (v_openStart : Int32) (v_openLength : Int32) (v_row : Nat → Int32) (v_starts : Nat → Int32) (v_lengths : Nat → Int32) (x1 : Int32) (z : Int32) (h : f_Te_lengthOf N x1 v_size v_lengths = some z) : Ci l y_Te_lengthOf prog_5_method_9_code 2 (some .int) ({ frames := 1, cells := 0, slots := 0, locals := 21 }) (dC, dI) cB cI aK aV [.ref h_this, .int x1] [(h_this, .inr (3, [.ref h_this_row, .ref h_this_starts, .ref h_this_lengths, .int v_size, .int v_openStart, .int v_openLength])), (h_this_row, .inl (cB, 300, .inl v_row)), (h_this_starts, .inl (cI, 100, .inl v_starts)), (h_this_lengths, .inl (cI, 100, .inl v_lengths))] (fun A => (Qi (dC, dI) [(h_this, .inr (3, [.ref h_this_row, .ref h_this_starts, .ref h_this_lengths, .int v_size, .int v_openStart, .int v_openLength])), (h_this_row, .inl (cB, 300, .inl v_row)), (h_this_starts, .inl (cI, 100, .inl v_starts)), (h_this_lengths, .inl (cI, 100, .inl v_lengths))] A z)) := by
  refine Ci_of (by decide) (Nat.le_of_ble_eq_true rfl) (fun p e s m below meth c A C hK hnm hA hP hD ls hl => ?_)
  obtain ⟨hx, hb, hr, hml, hown, hts, hlk⟩ := id C
  have hS : va_S A s.heap s.heap [] := va_S.rf
  have hl : lv_has ls 2 [(0, .ref h_this), (1, .int x1)] := hl
  rw [f_Te_lengthOf] at h
  refine lv_aload_n hx hb d_Te_lengthOf_0 rfl (lv_at hl 0 rfl) ?_
  refine lv_iload_n hx hb d_Te_lengthOf_1 rfl (lv_at hl 1 rfl) ?_
  obtain ⟨z1, hc_1, h⟩ := bs h
  refine go_i (wr := []) (w1 := [(h_this, .inr (3, [.ref h_this_row, .ref h_this_starts, .ref h_this_lengths, .int v_size, .int v_openStart, .int v_openLength])), (h_this_row, .inl (cB, 300, .inl v_row)), (h_this_starts, .inl (cI, 100, .inl v_starts)), (h_this_lengths, .inl (cI, 100, .inl v_lengths))]) (ws2 := [(h_this, .inr (3, [.ref h_this_row, .ref h_this_starts, .ref h_this_lengths, .int v_size, .int v_openStart, .int v_openLength])), (h_this_row, .inl (cB, 300, .inl v_row)), (h_this_starts, .inl (cI, 100, .inl v_starts)), (h_this_lengths, .inl (cI, 100, .inl v_lengths))]) hP hD hS hA [0, 1, 2, 3] [] [0, 1, 2, 3] rfl (by decide) rfl (by decide) (by decide) rfl (by decide) (fun hPc hDc hFc => rn_V (As := [.int x1]) (rest := []) C hK (c_Te_has N h_this h_this_row h_this_starts h_this_lengths v_size v_openStart v_openLength v_row v_starts v_lengths x1 z1 hc_1 _) ⟨rfl, rfl⟩ m_218 ok_Te_has ⟨by decide, by decide⟩ rfl rfl rfl hl.1 rfl (Nat.le_of_ble_eq_true rfl) d_Te_lengthOf_2 ⟨by decide, by decide⟩ hS hPc hDc hFc) (fun H locs hP hD hS => ?_)
  refine lv_if_eq (tgt := 17) hx hb d_Te_lengthOf_5 (by decide) (fun c_2 => ?_) (fun c_2 => ?_)
  · replace h := itT h c_2
    refine lv_iconst (v := 0) hx hb d_Te_lengthOf_17 (by decide) ?_
    obtain rfl := Option.some.inj h
    exact W.iret (v := 0) hx hb hr (fun t ht hW => ⟨⟨0, (), rfl, rfl, by rw [ht]; exact hP, hD⟩, hS.F ht⟩) hS.2.2 d_Te_lengthOf_18 hlk
  · replace h := itF h c_2
    refine lv_aload_n hx hb d_Te_lengthOf_8 rfl (lv_at hl 0 rfl) ?_
    refine va_get (D := (dC, dI)) (ci := 3) (v := .ref h_this_lengths) (C := R_Te) (T := F_Te) (N := 6) hx hb hts in_Te hown hK.1 hP 0 rfl rfl 2 (by decide) (hts _ m_51) (fun _ h9 => h9) rfl d_Te_lengthOf_9 ?_
    refine lv_iload_n hx hb d_Te_lengthOf_12 rfl (lv_at hl 1 rfl) ?_
    obtain ⟨g_3, h⟩ := grd h
    refine va_iald hx hb hK.1 hP 3 1 rfl rfl (inB_in g_3) d_Te_lengthOf_13 ?_
    refine lv_goto (tgt := 18) hx hb d_Te_lengthOf_14 (by decide) ?_
    obtain rfl := Option.some.inj h
    exact W.iret (v := v_lengths x1.toNatClampNeg) hx hb hr (fun t ht hW => ⟨⟨v_lengths x1.toNatClampNeg, (), rfl, rfl, by rw [ht]; exact hP, hD⟩, hS.F ht⟩) hS.2.2 d_Te_lengthOf_18 hlk
set_option maxHeartbeats 4000000 in
set_option maxRecDepth 100000 in
theorem c_Te_byteAt {l : Launch} {dC : Nat → ClassId} {dI : Nat → Nat → Nat} {cB cI : ClassId} {aK aV : Nat → Nat} (N : Nat) (h_this h_this_row h_this_starts h_this_lengths : Nat) (v_size : Int32) (v_openStart : Int32) (v_openLength : Int32) (v_row : Nat → Int32) (v_starts : Nat → Int32) (v_lengths : Nat → Int32) (x1 : Int32) (x2 : Int32) (z : Int32) (h : f_Te_byteAt N x1 x2 v_size v_row v_starts v_lengths = some z) : Ci l y_Te_byteAt prog_5_method_10_code 4 (some .int) ({ frames := 1, cells := 0, slots := 0, locals := 21 }) (dC, dI) cB cI aK aV [.ref h_this, .int x1, .int x2] [(h_this, .inr (3, [.ref h_this_row, .ref h_this_starts, .ref h_this_lengths, .int v_size, .int v_openStart, .int v_openLength])), (h_this_row, .inl (cB, 300, .inl v_row)), (h_this_starts, .inl (cI, 100, .inl v_starts)), (h_this_lengths, .inl (cI, 100, .inl v_lengths))] (fun A => (Qi (dC, dI) [(h_this, .inr (3, [.ref h_this_row, .ref h_this_starts, .ref h_this_lengths, .int v_size, .int v_openStart, .int v_openLength])), (h_this_row, .inl (cB, 300, .inl v_row)), (h_this_starts, .inl (cI, 100, .inl v_starts)), (h_this_lengths, .inl (cI, 100, .inl v_lengths))] A z)) := by
  refine Ci_of (by decide) (Nat.le_of_ble_eq_true rfl) (fun p e s m below meth c A C hK hnm hA hP hD ls hl => ?_)
  obtain ⟨hx, hb, hr, hml, hown, hts, hlk⟩ := id C
  have hS : va_S A s.heap s.heap [] := va_S.rf
  have hl : lv_has ls 4 [(0, .ref h_this), (1, .int x1), (2, .int x2)] := hl
  rw [f_Te_byteAt] at h
  refine lv_aload_n hx hb d_Te_byteAt_0 rfl (lv_at hl 0 rfl) ?_
  refine lv_iload_n hx hb d_Te_byteAt_1 rfl (lv_at hl 1 rfl) ?_
  obtain ⟨z1, hc_1, h⟩ := bs h
  refine go_i (wr := []) (w1 := [(h_this, .inr (3, [.ref h_this_row, .ref h_this_starts, .ref h_this_lengths, .int v_size, .int v_openStart, .int v_openLength])), (h_this_row, .inl (cB, 300, .inl v_row)), (h_this_starts, .inl (cI, 100, .inl v_starts)), (h_this_lengths, .inl (cI, 100, .inl v_lengths))]) (ws2 := [(h_this, .inr (3, [.ref h_this_row, .ref h_this_starts, .ref h_this_lengths, .int v_size, .int v_openStart, .int v_openLength])), (h_this_row, .inl (cB, 300, .inl v_row)), (h_this_starts, .inl (cI, 100, .inl v_starts)), (h_this_lengths, .inl (cI, 100, .inl v_lengths))]) hP hD hS hA [0, 1, 2, 3] [] [0, 1, 2, 3] rfl (by decide) rfl (by decide) (by decide) rfl (by decide) (fun hPc hDc hFc => rn_V (As := [.int x1]) (rest := []) C hK (c_Te_has N h_this h_this_row h_this_starts h_this_lengths v_size v_openStart v_openLength v_row v_starts v_lengths x1 z1 hc_1 _) ⟨rfl, rfl⟩ m_218 ok_Te_has ⟨by decide, by decide⟩ rfl rfl rfl hl.1 rfl (Nat.le_of_ble_eq_true rfl) d_Te_byteAt_2 ⟨by decide, by decide⟩ hS hPc hDc hFc) (fun H locs hP hD hS => ?_)
  refine lv_if_eq (tgt := 22) hx hb d_Te_byteAt_5 (by decide) (fun c_2 => ?_) (fun c_2 => ?_)
  · replace h := itT h c_2
    refine lv_iconst (v := (-1)) hx hb d_Te_byteAt_22 (by decide) ?_
    obtain rfl := Option.some.inj h
    exact W.iret (v := (-1)) hx hb hr (fun t ht hW => ⟨⟨(-1), (), rfl, rfl, by rw [ht]; exact hP, hD⟩, hS.F ht⟩) hS.2.2 d_Te_byteAt_23 hlk
  · replace h := itF h c_2
    refine lv_iload_n hx hb d_Te_byteAt_8 rfl (lv_at hl 2 rfl) ?_
    refine lv_if_lt (tgt := 22) hx hb d_Te_byteAt_9 (by decide) (fun c_3 => ?_) (fun c_3 => ?_)
    · replace h := itT h c_3
      refine lv_iconst (v := (-1)) hx hb d_Te_byteAt_22 (by decide) ?_
      obtain rfl := Option.some.inj h
      exact W.iret (v := (-1)) hx hb hr (fun t ht hW => ⟨⟨(-1), (), rfl, rfl, by rw [ht]; exact hP, hD⟩, hS.F ht⟩) hS.2.2 d_Te_byteAt_23 hlk
    · replace h := itF h c_3
      refine lv_iload_n hx hb d_Te_byteAt_12 rfl (lv_at hl 2 rfl) ?_
      refine lv_aload_n hx hb d_Te_byteAt_13 rfl (lv_at hl 0 rfl) ?_
      refine va_get (D := (dC, dI)) (ci := 3) (v := .ref h_this_lengths) (C := R_Te) (T := F_Te) (N := 6) hx hb hts in_Te hown hK.1 hP 0 rfl rfl 2 (by decide) (hts _ m_51) (fun _ h9 => h9) rfl d_Te_byteAt_14 ?_
      refine lv_iload_n hx hb d_Te_byteAt_17 rfl (lv_at hl 1 rfl) ?_
      obtain ⟨g_4, h⟩ := grd h
      refine va_iald hx hb hK.1 hP 3 1 rfl rfl (inB_in g_4) d_Te_byteAt_18 ?_
      refine lv_icmp_lt (tgt := 24) hx hb d_Te_byteAt_19 (by decide) (fun c_5 => ?_) (fun c_5 => ?_)
      · replace h := itT h c_5
        refine lv_aload_n hx hb d_Te_byteAt_24 rfl (lv_at hl 0 rfl) ?_
        refine va_get (D := (dC, dI)) (ci := 3) (v := .ref h_this_starts) (C := R_Te) (T := F_Te) (N := 6) hx hb hts in_Te hown hK.1 hP 0 rfl rfl 1 (by decide) (hts _ m_50) (fun _ h9 => h9) rfl d_Te_byteAt_25 ?_
        refine lv_iload_n hx hb d_Te_byteAt_28 rfl (lv_at hl 1 rfl) ?_
        obtain ⟨g_6, h⟩ := grd h
        refine va_iald hx hb hK.1 hP 2 1 rfl rfl (inB_in g_6) d_Te_byteAt_29 ?_
        refine lv_iload_n hx hb d_Te_byteAt_30 rfl (lv_at hl 2 rfl) ?_
        refine lv_iadd hx hb d_Te_byteAt_31 ?_
        refine lv_istore_n (lv' := [(3, .int ((v_starts x1.toNatClampNeg) + x2)), (0, .ref h_this), (1, .int x1), (2, .int x2)]) hx hb d_Te_byteAt_32 rfl hl (by decide) rfl (fun ls hl => ?_)
        refine lv_iload_n hx hb d_Te_byteAt_33 rfl (lv_at hl 0 rfl) ?_
        refine lv_if_lt (tgt := 44) hx hb d_Te_byteAt_34 (by decide) (fun c_7 => ?_) (fun c_7 => ?_)
        · replace h := itT h c_7
          refine lv_iconst (v := (-1)) hx hb d_Te_byteAt_44 (by decide) ?_
          refine lv_goto (tgt := 58) hx hb d_Te_byteAt_45 (by decide) ?_
          obtain rfl := Option.some.inj h
          exact W.iret (v := (-1)) hx hb hr (fun t ht hW => ⟨⟨(-1), (), rfl, rfl, by rw [ht]; exact hP, hD⟩, hS.F ht⟩) hS.2.2 d_Te_byteAt_58 hlk
        · replace h := itF h c_7
          refine lv_iload_n hx hb d_Te_byteAt_37 rfl (lv_at hl 0 rfl) ?_
          refine lv_sipush (v := 300) hx hb d_Te_byteAt_38 (by decide) ?_
          refine lv_icmp_lt (tgt := 48) hx hb d_Te_byteAt_41 (by decide) (fun c_8 => ?_) (fun c_8 => ?_)
          · replace h := itT h c_8
            refine lv_aload_n hx hb d_Te_byteAt_48 rfl (lv_at hl 1 rfl) ?_
            refine va_get (D := (dC, dI)) (ci := 3) (v := .ref h_this_row) (C := R_Te) (T := F_Te) (N := 6) hx hb hts in_Te hown hK.1 hP 0 rfl rfl 0 (by decide) (hts _ m_49) (fun _ h9 => h9) rfl d_Te_byteAt_49 ?_
            refine lv_iload_n hx hb d_Te_byteAt_52 rfl (lv_at hl 0 rfl) ?_
            obtain ⟨g_9, h⟩ := grd h
            refine va_bald hx hb hK.1 hP 1 0 rfl rfl (inB_in g_9) d_Te_byteAt_53 ?_
            refine lv_sipush (v := 255) hx hb d_Te_byteAt_54 (by decide) ?_
            refine lv_iand hx hb d_Te_byteAt_57 ?_
            obtain rfl := Option.some.inj h
            exact W.iret (v := (v_row ((v_starts x1.toNatClampNeg) + x2).toNatClampNeg) &&& 255) hx hb hr (fun t ht hW => ⟨⟨(v_row ((v_starts x1.toNatClampNeg) + x2).toNatClampNeg) &&& 255, (), rfl, rfl, by rw [ht]; exact hP, hD⟩, hS.F ht⟩) hS.2.2 d_Te_byteAt_58 hlk
          · replace h := itF h c_8
            refine lv_iconst (v := (-1)) hx hb d_Te_byteAt_44 (by decide) ?_
            refine lv_goto (tgt := 58) hx hb d_Te_byteAt_45 (by decide) ?_
            obtain rfl := Option.some.inj h
            exact W.iret (v := (-1)) hx hb hr (fun t ht hW => ⟨⟨(-1), (), rfl, rfl, by rw [ht]; exact hP, hD⟩, hS.F ht⟩) hS.2.2 d_Te_byteAt_58 hlk
      · replace h := itF h c_5
        refine lv_iconst (v := (-1)) hx hb d_Te_byteAt_22 (by decide) ?_
        obtain rfl := Option.some.inj h
        exact W.iret (v := (-1)) hx hb hr (fun t ht hW => ⟨⟨(-1), (), rfl, rfl, by rw [ht]; exact hP, hD⟩, hS.F ht⟩) hS.2.2 d_Te_byteAt_23 hlk
set_option maxHeartbeats 4000000 in
set_option maxRecDepth 100000 in
theorem k_Te_eightBytes_31 {p : Program} {l : Launch} {e : Env} {s : State} {m : MethodId} {args : Array Value} {below : List Frame} {meth : Method} {c : Code} {dC : Nat → ClassId} {dI : Nat → Nat → Nat} {cB cI : ClassId} {aK aV : Nat → Nat} {A : Nat → Prop} (C : cx p s m args meth c R_Te prog_5_method_11_code 7 (some .long)) (hK : kx (dC, dI) cB cI aK aV A s) (hA : ∀ q : Nat, s.heap.size ≤ q → A q) (N : Nat) (h_this h_this_row h_this_starts h_this_lengths : Nat) (v_openStart : Int32) (v_openLength : Int32) (x1 : Int32) (x2 : Int32) (v_size : Int32) (v_row : Nat → Int32) (v_starts : Nat → Int32) (v_lengths : Nat → Int32) (z : Int64) :
    ∀ (n : Nat), ∀ (x3 : Int32) (x4 : Int64) (x6 : Int32), f_Te_eightBytes_31 N x1 x2 v_size v_row v_starts v_lengths n x3 x4 x6 = some z → ∀ (H : Heap) (locs : List Loc), va_P (dC, dI) classes [(h_this, .inr (3, [.ref h_this_row, .ref h_this_starts, .ref h_this_lengths, .int v_size, .int v_openStart, .int v_openLength])), (h_this_row, .inl (cB, 300, .inl v_row)), (h_this_starts, .inl (cI, 100, .inl v_starts)), (h_this_lengths, .inl (cI, 100, .inl v_lengths))] H → va_D A [(h_this, .inr (3, [.ref h_this_row, .ref h_this_starts, .ref h_this_lengths, .int v_size, .int v_openStart, .int v_openLength])), (h_this_row, .inl (cB, 300, .inl v_row)), (h_this_starts, .inl (cI, 100, .inl v_starts)), (h_this_lengths, .inl (cI, 100, .inl v_lengths))] → va_S A s.heap H locs → ∀ ls : Array Slot, lv_has ls 7 [(0, .ref h_this), (1, .int x1), (2, .int x2), (3, .int x3), (4, .long x4), (6, .int x6)] → W p l e ({ frames := 2, cells := 0, slots := 0, locals := 44 }) s m args below meth c H locs 0 0 (MQ below (Ql (dC, dI) [(h_this, .inr (3, [.ref h_this_row, .ref h_this_starts, .ref h_this_lengths, .int v_size, .int v_openStart, .int v_openLength])), (h_this_row, .inl (cB, 300, .inl v_row)), (h_this_starts, .inl (cI, 100, .inl v_starts)), (h_this_lengths, .inl (cI, 100, .inl v_lengths))] A z) args s 0 0 A) (F0 m 31 ls []) := by
  obtain ⟨hx, hb, hr, hml, hown, hts, hlk⟩ := id C
  intro n
  induction n with
  | zero =>
    intro x3 x4 x6 h
    rw [f_Te_eightBytes_31] at h
    cases h
  | succ n ih =>
    intro x3 x4 x6 h H locs hP hD hS ls hl
    rw [f_Te_eightBytes_31] at h
    refine lv_iload hx hb d_Te_eightBytes_31 (lv_at hl 5 rfl) ?_
    refine lv_bipush (v := 8) hx hb d_Te_eightBytes_33 (by decide) ?_
    refine lv_icmp_ge (tgt := 72) hx hb d_Te_eightBytes_35 (by decide) (fun c_1 => ?_) (fun c_1 => ?_)
    · replace h := itT h c_1
      refine lv_lload hx hb d_Te_eightBytes_72 (lv_at hl 4 rfl) ?_
      obtain rfl := Option.some.inj h
      exact W.lret (v := x4) hx hb hr (fun t ht hW => ⟨⟨x4, (), rfl, rfl, by rw [ht]; exact hP, hD⟩, hS.F ht⟩) hS.2.2 d_Te_eightBytes_74 hlk
    · replace h := itF h c_1
      refine lv_lload hx hb d_Te_eightBytes_38 (lv_at hl 4 rfl) ?_
      refine lv_bipush (v := 8) hx hb d_Te_eightBytes_40 (by decide) ?_
      refine lv_lshl hx hb d_Te_eightBytes_42 rfl ?_
      refine lv_iload hx hb d_Te_eightBytes_43 (lv_at hl 5 rfl) ?_
      refine lv_iload_n hx hb d_Te_eightBytes_45 rfl (lv_at hl 3 rfl) ?_
      refine lv_icmp_ge (tgt := 61) hx hb d_Te_eightBytes_46 (by decide) (fun c_2 => ?_) (fun c_2 => ?_)
      · replace h := itT h c_2
        refine lv_iconst (v := 0) hx hb d_Te_eightBytes_61 (by decide) ?_
        refine lv_i2l hx hb d_Te_eightBytes_62 rfl ?_
        refine lv_lor hx hb d_Te_eightBytes_63 ?_
        refine lv_lstore (lv' := [(4, .long ((x4 <<< ((8 : Int32).toInt64 &&& 63)) ||| ((0 : Int32).toInt64))), (0, .ref h_this), (1, .int x1), (2, .int x2), (3, .int x3), (6, .int x6)]) hx hb d_Te_eightBytes_64 hl (by decide) rfl (fun ls hl => ?_)
        refine lv_iinc (v := x6 + 1) (lv' := [(6, .int (x6 + 1)), (4, .long ((x4 <<< ((8 : Int32).toInt64 &&& 63)) ||| ((0 : Int32).toInt64))), (0, .ref h_this), (1, .int x1), (2, .int x2), (3, .int x3)]) hx hb d_Te_eightBytes_66 hl (k := 5) rfl rfl (by decide) rfl (fun ls hl => ?_)
        refine lv_goto (tgt := 31) hx hb d_Te_eightBytes_69 (by decide) ?_
        exact ih x3 ((x4 <<< ((8 : Int32).toInt64 &&& 63)) ||| ((0 : Int32).toInt64)) (x6 + 1) h _ _ hP hD hS _ (lv_sub hl [2, 3, 4, 5, 1, 0] rfl)
      · replace h := itF h c_2
        refine lv_aload_n hx hb d_Te_eightBytes_49 rfl (lv_at hl 0 rfl) ?_
        refine lv_iload_n hx hb d_Te_eightBytes_50 rfl (lv_at hl 1 rfl) ?_
        refine lv_iload_n hx hb d_Te_eightBytes_51 rfl (lv_at hl 2 rfl) ?_
        refine lv_iload hx hb d_Te_eightBytes_52 (lv_at hl 5 rfl) ?_
        refine lv_iadd hx hb d_Te_eightBytes_54 ?_
        obtain ⟨z3, hc_3, h⟩ := bs h
        refine go_i (wr := []) (w1 := [(h_this, .inr (3, [.ref h_this_row, .ref h_this_starts, .ref h_this_lengths, .int v_size, .int v_openStart, .int v_openLength])), (h_this_row, .inl (cB, 300, .inl v_row)), (h_this_starts, .inl (cI, 100, .inl v_starts)), (h_this_lengths, .inl (cI, 100, .inl v_lengths))]) (ws2 := [(h_this, .inr (3, [.ref h_this_row, .ref h_this_starts, .ref h_this_lengths, .int v_size, .int v_openStart, .int v_openLength])), (h_this_row, .inl (cB, 300, .inl v_row)), (h_this_starts, .inl (cI, 100, .inl v_starts)), (h_this_lengths, .inl (cI, 100, .inl v_lengths))]) hP hD hS hA [0, 1, 2, 3] [] [0, 1, 2, 3] rfl (by decide) rfl (by decide) (by decide) rfl (by decide) (fun hPc hDc hFc => rn_V (As := [.int x1, .int (x2 + x6)]) (rest := [.long (x4 <<< ((8 : Int32).toInt64 &&& 63))]) C hK (c_Te_byteAt N h_this h_this_row h_this_starts h_this_lengths v_size v_openStart v_openLength v_row v_starts v_lengths x1 (x2 + x6) z3 hc_3 _) ⟨rfl, rfl⟩ m_377 ok_Te_byteAt ⟨by decide, by decide⟩ rfl rfl rfl hl.1 rfl (Nat.le_of_ble_eq_true rfl) d_Te_eightBytes_55 ⟨by decide, by decide⟩ hS hPc hDc hFc) (fun H locs hP hD hS => ?_)
        refine lv_goto (tgt := 62) hx hb d_Te_eightBytes_58 (by decide) ?_
        refine lv_i2l hx hb d_Te_eightBytes_62 rfl ?_
        refine lv_lor hx hb d_Te_eightBytes_63 ?_
        refine lv_lstore (lv' := [(4, .long ((x4 <<< ((8 : Int32).toInt64 &&& 63)) ||| z3.toInt64)), (0, .ref h_this), (1, .int x1), (2, .int x2), (3, .int x3), (6, .int x6)]) hx hb d_Te_eightBytes_64 hl (by decide) rfl (fun ls hl => ?_)
        refine lv_iinc (v := x6 + 1) (lv' := [(6, .int (x6 + 1)), (4, .long ((x4 <<< ((8 : Int32).toInt64 &&& 63)) ||| z3.toInt64)), (0, .ref h_this), (1, .int x1), (2, .int x2), (3, .int x3)]) hx hb d_Te_eightBytes_66 hl (k := 5) rfl rfl (by decide) rfl (fun ls hl => ?_)
        refine lv_goto (tgt := 31) hx hb d_Te_eightBytes_69 (by decide) ?_
        exact ih x3 ((x4 <<< ((8 : Int32).toInt64 &&& 63)) ||| z3.toInt64) (x6 + 1) h _ _ hP hD hS _ (lv_sub hl [2, 3, 4, 5, 1, 0] rfl)
set_option maxHeartbeats 4000000 in
set_option maxRecDepth 100000 in
theorem c_Te_eightBytes {l : Launch} {dC : Nat → ClassId} {dI : Nat → Nat → Nat} {cB cI : ClassId} {aK aV : Nat → Nat} (N : Nat) (h_this h_this_row h_this_starts h_this_lengths : Nat) (v_size : Int32) (v_openStart : Int32) (v_openLength : Int32) (v_row : Nat → Int32) (v_starts : Nat → Int32) (v_lengths : Nat → Int32) (x1 : Int32) (x2 : Int32) (z : Int64) (h : f_Te_eightBytes N x1 x2 v_size v_row v_starts v_lengths = some z) : Ci l y_Te_eightBytes prog_5_method_11_code 7 (some .long) ({ frames := 2, cells := 0, slots := 0, locals := 44 }) (dC, dI) cB cI aK aV [.ref h_this, .int x1, .int x2] [(h_this, .inr (3, [.ref h_this_row, .ref h_this_starts, .ref h_this_lengths, .int v_size, .int v_openStart, .int v_openLength])), (h_this_row, .inl (cB, 300, .inl v_row)), (h_this_starts, .inl (cI, 100, .inl v_starts)), (h_this_lengths, .inl (cI, 100, .inl v_lengths))] (fun A => (Ql (dC, dI) [(h_this, .inr (3, [.ref h_this_row, .ref h_this_starts, .ref h_this_lengths, .int v_size, .int v_openStart, .int v_openLength])), (h_this_row, .inl (cB, 300, .inl v_row)), (h_this_starts, .inl (cI, 100, .inl v_starts)), (h_this_lengths, .inl (cI, 100, .inl v_lengths))] A z)) := by
  refine Ci_of (by decide) (Nat.le_of_ble_eq_true rfl) (fun p e s m below meth c A C hK hnm hA hP hD ls hl => ?_)
  obtain ⟨hx, hb, hr, hml, hown, hts, hlk⟩ := id C
  have hS : va_S A s.heap s.heap [] := va_S.rf
  have hl : lv_has ls 7 [(0, .ref h_this), (1, .int x1), (2, .int x2)] := hl
  rw [f_Te_eightBytes] at h
  refine lv_aload_n hx hb d_Te_eightBytes_0 rfl (lv_at hl 0 rfl) ?_
  refine lv_iload_n hx hb d_Te_eightBytes_1 rfl (lv_at hl 1 rfl) ?_
  obtain ⟨z4, hc_4, h⟩ := bs h
  refine go_i (wr := []) (w1 := [(h_this, .inr (3, [.ref h_this_row, .ref h_this_starts, .ref h_this_lengths, .int v_size, .int v_openStart, .int v_openLength])), (h_this_row, .inl (cB, 300, .inl v_row)), (h_this_starts, .inl (cI, 100, .inl v_starts)), (h_this_lengths, .inl (cI, 100, .inl v_lengths))]) (ws2 := [(h_this, .inr (3, [.ref h_this_row, .ref h_this_starts, .ref h_this_lengths, .int v_size, .int v_openStart, .int v_openLength])), (h_this_row, .inl (cB, 300, .inl v_row)), (h_this_starts, .inl (cI, 100, .inl v_starts)), (h_this_lengths, .inl (cI, 100, .inl v_lengths))]) hP hD hS hA [0, 1, 2, 3] [] [0, 1, 2, 3] rfl (by decide) rfl (by decide) (by decide) rfl (by decide) (fun hPc hDc hFc => rn_V (As := [.int x1]) (rest := []) C hK (c_Te_has N h_this h_this_row h_this_starts h_this_lengths v_size v_openStart v_openLength v_row v_starts v_lengths x1 z4 hc_4 _) ⟨rfl, rfl⟩ m_218 ok_Te_has ⟨by decide, by decide⟩ rfl rfl rfl hl.1 rfl (Nat.le_of_ble_eq_true rfl) d_Te_eightBytes_2 ⟨by decide, by decide⟩ hS hPc hDc hFc) (fun H locs hP hD hS => ?_)
  refine lv_if_eq (tgt := 12) hx hb d_Te_eightBytes_5 (by decide) (fun c_5 => ?_) (fun c_5 => ?_)
  · replace h := itT h c_5
    refine lv_ldc2 (v := (-1)) hx hb hown (hts _ m_376) d_Te_eightBytes_12 ?_
    obtain rfl := Option.some.inj h
    exact W.lret (v := (-1)) hx hb hr (fun t ht hW => ⟨⟨(-1), (), rfl, rfl, by rw [ht]; exact hP, hD⟩, hS.F ht⟩) hS.2.2 d_Te_eightBytes_15 hlk
  · replace h := itF h c_5
    refine lv_iload_n hx hb d_Te_eightBytes_8 rfl (lv_at hl 2 rfl) ?_
    refine lv_if_ge (tgt := 16) hx hb d_Te_eightBytes_9 (by decide) (fun c_6 => ?_) (fun c_6 => ?_)
    · replace h := itT h c_6
      refine lv_aload_n hx hb d_Te_eightBytes_16 rfl (lv_at hl 0 rfl) ?_
      refine va_get (D := (dC, dI)) (ci := 3) (v := .ref h_this_lengths) (C := R_Te) (T := F_Te) (N := 6) hx hb hts in_Te hown hK.1 hP 0 rfl rfl 2 (by decide) (hts _ m_51) (fun _ h9 => h9) rfl d_Te_eightBytes_17 ?_
      refine lv_iload_n hx hb d_Te_eightBytes_20 rfl (lv_at hl 1 rfl) ?_
      obtain ⟨g_7, h⟩ := grd h
      refine va_iald hx hb hK.1 hP 3 1 rfl rfl (inB_in g_7) d_Te_eightBytes_21 ?_
      refine lv_iload_n hx hb d_Te_eightBytes_22 rfl (lv_at hl 2 rfl) ?_
      refine lv_isub hx hb d_Te_eightBytes_23 ?_
      refine lv_istore_n (lv' := [(3, .int ((v_lengths x1.toNatClampNeg) - x2)), (0, .ref h_this), (1, .int x1), (2, .int x2)]) hx hb d_Te_eightBytes_24 rfl hl (by decide) rfl (fun ls hl => ?_)
      refine lv_lconst (v := 0) hx hb d_Te_eightBytes_25 (by decide) ?_
      refine lv_lstore (lv' := [(4, .long 0), (3, .int ((v_lengths x1.toNatClampNeg) - x2)), (0, .ref h_this), (1, .int x1), (2, .int x2)]) hx hb d_Te_eightBytes_26 hl (by decide) rfl (fun ls hl => ?_)
      refine lv_iconst (v := 0) hx hb d_Te_eightBytes_28 (by decide) ?_
      refine lv_istore (lv' := [(6, .int 0), (4, .long 0), (3, .int ((v_lengths x1.toNatClampNeg) - x2)), (0, .ref h_this), (1, .int x1), (2, .int x2)]) hx hb d_Te_eightBytes_29 hl (by decide) rfl (fun ls hl => ?_)
      exact k_Te_eightBytes_31 C hK hA N h_this h_this_row h_this_starts h_this_lengths v_openStart v_openLength x1 x2 v_size v_row v_starts v_lengths z N ((v_lengths x1.toNatClampNeg) - x2) 0 0 h _ _ hP hD hS _ (lv_sub hl [3, 4, 5, 2, 1, 0] rfl)
    · replace h := itF h c_6
      refine lv_ldc2 (v := (-1)) hx hb hown (hts _ m_376) d_Te_eightBytes_12 ?_
      obtain rfl := Option.some.inj h
      exact W.lret (v := (-1)) hx hb hr (fun t ht hW => ⟨⟨(-1), (), rfl, rfl, by rw [ht]; exact hP, hD⟩, hS.F ht⟩) hS.2.2 d_Te_eightBytes_15 hlk
set_option maxHeartbeats 4000000 in
set_option maxRecDepth 100000 in
theorem k_Te_areAlike_20 {p : Program} {l : Launch} {e : Env} {s : State} {m : MethodId} {args : Array Value} {below : List Frame} {meth : Method} {c : Code} {dC : Nat → ClassId} {dI : Nat → Nat → Nat} {cB cI : ClassId} {aK aV : Nat → Nat} {A : Nat → Prop} (C : cx p s m args meth c R_Te prog_5_method_12_code 5 (some .boolean)) (hK : kx (dC, dI) cB cI aK aV A s) (hA : ∀ q : Nat, s.heap.size ≤ q → A q) (N : Nat) (h_this h_this_row h_this_starts h_this_lengths : Nat) (v_openStart : Int32) (v_openLength : Int32) (x1 : Int32) (x2 : Int32) (v_size : Int32) (v_row : Nat → Int32) (v_starts : Nat → Int32) (v_lengths : Nat → Int32) (z : Int32) :
    ∀ (n : Nat), ∀ (x3 : Int32) (x4 : Int32), f_Te_areAlike_20 N x1 x2 v_size v_row v_starts v_lengths n x3 x4 = some z → ∀ (H : Heap) (locs : List Loc), va_P (dC, dI) classes [(h_this, .inr (3, [.ref h_this_row, .ref h_this_starts, .ref h_this_lengths, .int v_size, .int v_openStart, .int v_openLength])), (h_this_row, .inl (cB, 300, .inl v_row)), (h_this_starts, .inl (cI, 100, .inl v_starts)), (h_this_lengths, .inl (cI, 100, .inl v_lengths))] H → va_D A [(h_this, .inr (3, [.ref h_this_row, .ref h_this_starts, .ref h_this_lengths, .int v_size, .int v_openStart, .int v_openLength])), (h_this_row, .inl (cB, 300, .inl v_row)), (h_this_starts, .inl (cI, 100, .inl v_starts)), (h_this_lengths, .inl (cI, 100, .inl v_lengths))] → va_S A s.heap H locs → ∀ ls : Array Slot, lv_has ls 5 [(0, .ref h_this), (1, .int x1), (2, .int x2), (3, .int x3), (4, .int x4)] → W p l e ({ frames := 2, cells := 0, slots := 0, locals := 44 }) s m args below meth c H locs 0 0 (MQ below (Qi (dC, dI) [(h_this, .inr (3, [.ref h_this_row, .ref h_this_starts, .ref h_this_lengths, .int v_size, .int v_openStart, .int v_openLength])), (h_this_row, .inl (cB, 300, .inl v_row)), (h_this_starts, .inl (cI, 100, .inl v_starts)), (h_this_lengths, .inl (cI, 100, .inl v_lengths))] A z) args s 0 0 A) (F0 m 20 ls []) := by
  obtain ⟨hx, hb, hr, hml, hown, hts, hlk⟩ := id C
  intro n
  induction n with
  | zero =>
    intro x3 x4 h
    rw [f_Te_areAlike_20] at h
    cases h
  | succ n ih =>
    intro x3 x4 h H locs hP hD hS ls hl
    rw [f_Te_areAlike_20] at h
    refine lv_iload hx hb d_Te_areAlike_20 (lv_at hl 4 rfl) ?_
    refine lv_iload_n hx hb d_Te_areAlike_22 rfl (lv_at hl 3 rfl) ?_
    refine lv_icmp_ge (tgt := 57) hx hb d_Te_areAlike_23 (by decide) (fun c_1 => ?_) (fun c_1 => ?_)
    · replace h := itT h c_1
      refine lv_iconst (v := 1) hx hb d_Te_areAlike_57 (by decide) ?_
      obtain rfl := Option.some.inj h
      exact W.zret (v := 1) hx hb hr rfl (fun t ht hW => ⟨⟨1, (), rfl, rfl, by rw [ht]; exact hP, hD⟩, hS.F ht⟩) hS.2.2 d_Te_areAlike_58 hlk
    · replace h := itF h c_1
      refine lv_aload_n hx hb d_Te_areAlike_26 rfl (lv_at hl 0 rfl) ?_
      refine lv_iload_n hx hb d_Te_areAlike_27 rfl (lv_at hl 1 rfl) ?_
      refine lv_iload hx hb d_Te_areAlike_28 (lv_at hl 4 rfl) ?_
      obtain ⟨z2, hc_2, h⟩ := bs h
      refine go_i (wr := []) (w1 := [(h_this, .inr (3, [.ref h_this_row, .ref h_this_starts, .ref h_this_lengths, .int v_size, .int v_openStart, .int v_openLength])), (h_this_row, .inl (cB, 300, .inl v_row)), (h_this_starts, .inl (cI, 100, .inl v_starts)), (h_this_lengths, .inl (cI, 100, .inl v_lengths))]) (ws2 := [(h_this, .inr (3, [.ref h_this_row, .ref h_this_starts, .ref h_this_lengths, .int v_size, .int v_openStart, .int v_openLength])), (h_this_row, .inl (cB, 300, .inl v_row)), (h_this_starts, .inl (cI, 100, .inl v_starts)), (h_this_lengths, .inl (cI, 100, .inl v_lengths))]) hP hD hS hA [0, 1, 2, 3] [] [0, 1, 2, 3] rfl (by decide) rfl (by decide) (by decide) rfl (by decide) (fun hPc hDc hFc => rn_V (As := [.int x1, .int x4]) (rest := []) C hK (c_Te_byteAt N h_this h_this_row h_this_starts h_this_lengths v_size v_openStart v_openLength v_row v_starts v_lengths x1 x4 z2 hc_2 _) ⟨rfl, rfl⟩ m_377 ok_Te_byteAt ⟨by decide, by decide⟩ rfl rfl rfl hl.1 rfl (Nat.le_of_ble_eq_true rfl) d_Te_areAlike_30 ⟨by decide, by decide⟩ hS hPc hDc hFc) (fun H locs hP hD hS => ?_)
      obtain ⟨z3, hc_3, h⟩ := bs h
      refine go_i (wr := [(h_this, .inr (3, [.ref h_this_row, .ref h_this_starts, .ref h_this_lengths, .int v_size, .int v_openStart, .int v_openLength])), (h_this_row, .inl (cB, 300, .inl v_row)), (h_this_starts, .inl (cI, 100, .inl v_starts)), (h_this_lengths, .inl (cI, 100, .inl v_lengths))]) (w1 := []) (ws2 := [(h_this, .inr (3, [.ref h_this_row, .ref h_this_starts, .ref h_this_lengths, .int v_size, .int v_openStart, .int v_openLength])), (h_this_row, .inl (cB, 300, .inl v_row)), (h_this_starts, .inl (cI, 100, .inl v_starts)), (h_this_lengths, .inl (cI, 100, .inl v_lengths))]) hP hD hS hA [] [0, 1, 2, 3] [0, 1, 2, 3] rfl (by decide) rfl (by decide) (by decide) rfl (by decide) (fun hPc hDc hFc => rn_SN (As := [.int z2]) (rest := []) C hK (c_De_lowered N z2 z3 hc_3 _) ⟨rfl, rfl⟩ mn_406 ok_De_lowered ⟨by decide, by decide⟩ hl.1 rfl (Nat.le_of_ble_eq_true rfl) d_Te_areAlike_33 ⟨by decide, by decide⟩ hS hPc hDc hFc) (fun H locs hP hD hS => ?_)
      refine lv_aload_n hx hb d_Te_areAlike_36 rfl (lv_at hl 0 rfl) ?_
      refine lv_iload_n hx hb d_Te_areAlike_37 rfl (lv_at hl 2 rfl) ?_
      refine lv_iload hx hb d_Te_areAlike_38 (lv_at hl 4 rfl) ?_
      obtain ⟨z4, hc_4, h⟩ := bs h
      refine go_i (wr := []) (w1 := [(h_this, .inr (3, [.ref h_this_row, .ref h_this_starts, .ref h_this_lengths, .int v_size, .int v_openStart, .int v_openLength])), (h_this_row, .inl (cB, 300, .inl v_row)), (h_this_starts, .inl (cI, 100, .inl v_starts)), (h_this_lengths, .inl (cI, 100, .inl v_lengths))]) (ws2 := [(h_this, .inr (3, [.ref h_this_row, .ref h_this_starts, .ref h_this_lengths, .int v_size, .int v_openStart, .int v_openLength])), (h_this_row, .inl (cB, 300, .inl v_row)), (h_this_starts, .inl (cI, 100, .inl v_starts)), (h_this_lengths, .inl (cI, 100, .inl v_lengths))]) hP hD hS hA [0, 1, 2, 3] [] [0, 1, 2, 3] rfl (by decide) rfl (by decide) (by decide) rfl (by decide) (fun hPc hDc hFc => rn_V (As := [.int x2, .int x4]) (rest := [.int z3]) C hK (c_Te_byteAt N h_this h_this_row h_this_starts h_this_lengths v_size v_openStart v_openLength v_row v_starts v_lengths x2 x4 z4 hc_4 _) ⟨rfl, rfl⟩ m_377 ok_Te_byteAt ⟨by decide, by decide⟩ rfl rfl rfl hl.1 rfl (Nat.le_of_ble_eq_true rfl) d_Te_areAlike_40 ⟨by decide, by decide⟩ hS hPc hDc hFc) (fun H locs hP hD hS => ?_)
      obtain ⟨z5, hc_5, h⟩ := bs h
      refine go_i (wr := [(h_this, .inr (3, [.ref h_this_row, .ref h_this_starts, .ref h_this_lengths, .int v_size, .int v_openStart, .int v_openLength])), (h_this_row, .inl (cB, 300, .inl v_row)), (h_this_starts, .inl (cI, 100, .inl v_starts)), (h_this_lengths, .inl (cI, 100, .inl v_lengths))]) (w1 := []) (ws2 := [(h_this, .inr (3, [.ref h_this_row, .ref h_this_starts, .ref h_this_lengths, .int v_size, .int v_openStart, .int v_openLength])), (h_this_row, .inl (cB, 300, .inl v_row)), (h_this_starts, .inl (cI, 100, .inl v_starts)), (h_this_lengths, .inl (cI, 100, .inl v_lengths))]) hP hD hS hA [] [0, 1, 2, 3] [0, 1, 2, 3] rfl (by decide) rfl (by decide) (by decide) rfl (by decide) (fun hPc hDc hFc => rn_SN (As := [.int z4]) (rest := [.int z3]) C hK (c_De_lowered N z4 z5 hc_5 _) ⟨rfl, rfl⟩ mn_406 ok_De_lowered ⟨by decide, by decide⟩ hl.1 rfl (Nat.le_of_ble_eq_true rfl) d_Te_areAlike_43 ⟨by decide, by decide⟩ hS hPc hDc hFc) (fun H locs hP hD hS => ?_)
      refine lv_icmp_eq (tgt := 51) hx hb d_Te_areAlike_46 (by decide) (fun c_6 => ?_) (fun c_6 => ?_)
      · replace h := itT h c_6
        refine lv_iinc (v := x4 + 1) (lv' := [(4, .int (x4 + 1)), (0, .ref h_this), (1, .int x1), (2, .int x2), (3, .int x3)]) hx hb d_Te_areAlike_51 hl (k := 4) rfl rfl (by decide) rfl (fun ls hl => ?_)
        refine lv_goto (tgt := 20) hx hb d_Te_areAlike_54 (by decide) ?_
        exact ih x3 (x4 + 1) h _ _ hP hD hS _ (lv_sub hl [1, 2, 3, 4, 0] rfl)
      · replace h := itF h c_6
        refine lv_iconst (v := 0) hx hb d_Te_areAlike_49 (by decide) ?_
        obtain rfl := Option.some.inj h
        exact W.zret (v := 0) hx hb hr rfl (fun t ht hW => ⟨⟨0, (), rfl, rfl, by rw [ht]; exact hP, hD⟩, hS.F ht⟩) hS.2.2 d_Te_areAlike_50 hlk
set_option maxHeartbeats 4000000 in
set_option maxRecDepth 100000 in
theorem c_Te_areAlike {l : Launch} {dC : Nat → ClassId} {dI : Nat → Nat → Nat} {cB cI : ClassId} {aK aV : Nat → Nat} (N : Nat) (h_this h_this_row h_this_starts h_this_lengths : Nat) (v_size : Int32) (v_openStart : Int32) (v_openLength : Int32) (v_row : Nat → Int32) (v_starts : Nat → Int32) (v_lengths : Nat → Int32) (x1 : Int32) (x2 : Int32) (z : Int32) (h : f_Te_areAlike N x1 x2 v_size v_row v_starts v_lengths = some z) : Ci l y_Te_areAlike prog_5_method_12_code 5 (some .boolean) ({ frames := 2, cells := 0, slots := 0, locals := 44 }) (dC, dI) cB cI aK aV [.ref h_this, .int x1, .int x2] [(h_this, .inr (3, [.ref h_this_row, .ref h_this_starts, .ref h_this_lengths, .int v_size, .int v_openStart, .int v_openLength])), (h_this_row, .inl (cB, 300, .inl v_row)), (h_this_starts, .inl (cI, 100, .inl v_starts)), (h_this_lengths, .inl (cI, 100, .inl v_lengths))] (fun A => (Qi (dC, dI) [(h_this, .inr (3, [.ref h_this_row, .ref h_this_starts, .ref h_this_lengths, .int v_size, .int v_openStart, .int v_openLength])), (h_this_row, .inl (cB, 300, .inl v_row)), (h_this_starts, .inl (cI, 100, .inl v_starts)), (h_this_lengths, .inl (cI, 100, .inl v_lengths))] A z)) := by
  refine Ci_of (by decide) (Nat.le_of_ble_eq_true rfl) (fun p e s m below meth c A C hK hnm hA hP hD ls hl => ?_)
  obtain ⟨hx, hb, hr, hml, hown, hts, hlk⟩ := id C
  have hS : va_S A s.heap s.heap [] := va_S.rf
  have hl : lv_has ls 5 [(0, .ref h_this), (1, .int x1), (2, .int x2)] := hl
  rw [f_Te_areAlike] at h
  refine lv_aload_n hx hb d_Te_areAlike_0 rfl (lv_at hl 0 rfl) ?_
  refine lv_iload_n hx hb d_Te_areAlike_1 rfl (lv_at hl 1 rfl) ?_
  obtain ⟨z7, hc_7, h⟩ := bs h
  refine go_i (wr := []) (w1 := [(h_this, .inr (3, [.ref h_this_row, .ref h_this_starts, .ref h_this_lengths, .int v_size, .int v_openStart, .int v_openLength])), (h_this_row, .inl (cB, 300, .inl v_row)), (h_this_starts, .inl (cI, 100, .inl v_starts)), (h_this_lengths, .inl (cI, 100, .inl v_lengths))]) (ws2 := [(h_this, .inr (3, [.ref h_this_row, .ref h_this_starts, .ref h_this_lengths, .int v_size, .int v_openStart, .int v_openLength])), (h_this_row, .inl (cB, 300, .inl v_row)), (h_this_starts, .inl (cI, 100, .inl v_starts)), (h_this_lengths, .inl (cI, 100, .inl v_lengths))]) hP hD hS hA [0, 1, 2, 3] [] [0, 1, 2, 3] rfl (by decide) rfl (by decide) (by decide) rfl (by decide) (fun hPc hDc hFc => rn_V (As := [.int x1]) (rest := []) C hK (c_Te_lengthOf N h_this h_this_row h_this_starts h_this_lengths v_size v_openStart v_openLength v_row v_starts v_lengths x1 z7 hc_7 _) ⟨rfl, rfl⟩ m_405 ok_Te_lengthOf ⟨by decide, by decide⟩ rfl rfl rfl hl.1 rfl (Nat.le_of_ble_eq_true rfl) d_Te_areAlike_2 ⟨by decide, by decide⟩ hS hPc hDc hFc) (fun H locs hP hD hS => ?_)
  refine lv_istore_n (lv' := [(3, .int z7), (0, .ref h_this), (1, .int x1), (2, .int x2)]) hx hb d_Te_areAlike_5 rfl hl (by decide) rfl (fun ls hl => ?_)
  refine lv_iload_n hx hb d_Te_areAlike_6 rfl (lv_at hl 0 rfl) ?_
  refine lv_aload_n hx hb d_Te_areAlike_7 rfl (lv_at hl 1 rfl) ?_
  refine lv_iload_n hx hb d_Te_areAlike_8 rfl (lv_at hl 3 rfl) ?_
  obtain ⟨z8, hc_8, h⟩ := bs h
  refine go_i (wr := []) (w1 := [(h_this, .inr (3, [.ref h_this_row, .ref h_this_starts, .ref h_this_lengths, .int v_size, .int v_openStart, .int v_openLength])), (h_this_row, .inl (cB, 300, .inl v_row)), (h_this_starts, .inl (cI, 100, .inl v_starts)), (h_this_lengths, .inl (cI, 100, .inl v_lengths))]) (ws2 := [(h_this, .inr (3, [.ref h_this_row, .ref h_this_starts, .ref h_this_lengths, .int v_size, .int v_openStart, .int v_openLength])), (h_this_row, .inl (cB, 300, .inl v_row)), (h_this_starts, .inl (cI, 100, .inl v_starts)), (h_this_lengths, .inl (cI, 100, .inl v_lengths))]) hP hD hS hA [0, 1, 2, 3] [] [0, 1, 2, 3] rfl (by decide) rfl (by decide) (by decide) rfl (by decide) (fun hPc hDc hFc => rn_V (As := [.int x2]) (rest := [.int z7]) C hK (c_Te_lengthOf N h_this h_this_row h_this_starts h_this_lengths v_size v_openStart v_openLength v_row v_starts v_lengths x2 z8 hc_8 _) ⟨rfl, rfl⟩ m_405 ok_Te_lengthOf ⟨by decide, by decide⟩ rfl rfl rfl hl.1 rfl (Nat.le_of_ble_eq_true rfl) d_Te_areAlike_9 ⟨by decide, by decide⟩ hS hPc hDc hFc) (fun H locs hP hD hS => ?_)
  refine lv_icmp_eq (tgt := 17) hx hb d_Te_areAlike_12 (by decide) (fun c_9 => ?_) (fun c_9 => ?_)
  · replace h := itT h c_9
    refine lv_iconst (v := 0) hx hb d_Te_areAlike_17 (by decide) ?_
    refine lv_istore (lv' := [(4, .int 0), (3, .int z7), (0, .ref h_this), (1, .int x1), (2, .int x2)]) hx hb d_Te_areAlike_18 hl (by decide) rfl (fun ls hl => ?_)
    exact k_Te_areAlike_20 C hK hA N h_this h_this_row h_this_starts h_this_lengths v_openStart v_openLength x1 x2 v_size v_row v_starts v_lengths z N z7 0 h _ _ hP hD hS _ (lv_sub hl [2, 3, 4, 1, 0] rfl)
  · replace h := itF h c_9
    refine lv_iconst (v := 0) hx hb d_Te_areAlike_15 (by decide) ?_
    obtain rfl := Option.some.inj h
    exact W.zret (v := 0) hx hb hr rfl (fun t ht hW => ⟨⟨0, (), rfl, rfl, by rw [ht]; exact hP, hD⟩, hS.F ht⟩) hS.2.2 d_Te_areAlike_16 hlk
end
section
theorem m_3 : (Cond.initialized "HeaderDesk$Header") ∈ wAll := List.mem_filter.mpr ⟨List.mem_append_right _ (List.mem_of_getElem? (i := 3) (by decide +kernel)), by decide +kernel⟩
theorem m_7 : (Cond.initialized "java/lang/Math") ∈ wAll := List.mem_filter.mpr ⟨List.mem_append_right _ (List.mem_of_getElem? (i := 7) (by decide +kernel)), by decide +kernel⟩
theorem m_40 : (Cond.instanceMethod ({ cls := "HeaderDesk$Header", name := "<init>", desc := "()V" } : Jvm.MethodName)) ∈ wAll := List.mem_filter.mpr ⟨List.mem_append_right _ (List.mem_of_getElem? (i := 40) (by decide +kernel)), by decide +kernel⟩
theorem m_41 : (Cond.code ({ cls := "HeaderDesk$Header", name := "<init>", desc := "()V" } : Jvm.MethodName) prog_3_method_1_code (1 : Nat) (Option.none : Option Jvm.ClassFile.FieldType)) ∈ wAll := List.mem_filter.mpr ⟨List.mem_append_right _ (List.mem_of_getElem? (i := 41) (by decide +kernel)), by decide +kernel⟩
theorem m_42 : (Cond.methodLink "HeaderDesk$Header" (3 : Nat) ({ cls := "java/lang/Object", name := "<init>", desc := "()V" } : Jvm.MethodName)) ∈ wAll := List.mem_filter.mpr ⟨List.mem_append_right _ (List.mem_of_getElem? (i := 42) (by decide +kernel)), by decide +kernel⟩
theorem m_43 : (Cond.classLink "HeaderDesk$Header" (9 : Nat) "HeaderDesk$Texts") ∈ wAll := List.mem_filter.mpr ⟨List.mem_append_right _ (List.mem_of_getElem? (i := 43) (by decide +kernel)), by decide +kernel⟩
theorem m_44 : (Cond.instantiable "HeaderDesk$Texts" (6 : Nat)) ∈ wAll := List.mem_filter.mpr ⟨List.mem_append_right _ (List.mem_of_getElem? (i := 44) (by decide +kernel)), by decide +kernel⟩
theorem m_73 : (Cond.fieldLink "HeaderDesk$Header" (12 : Nat) "HeaderDesk$Header" "names" "LHeaderDesk$Texts;") ∈ wAll := List.mem_filter.mpr ⟨List.mem_append_right _ (List.mem_of_getElem? (i := 73) (by decide +kernel)), by decide +kernel⟩
theorem m_75 : (Cond.fieldLink "HeaderDesk$Header" (18 : Nat) "HeaderDesk$Header" "values" "LHeaderDesk$Texts;") ∈ wAll := List.mem_filter.mpr ⟨List.mem_append_right _ (List.mem_of_getElem? (i := 75) (by decide +kernel)), by decide +kernel⟩
theorem m_77 : (Cond.fieldLink "HeaderDesk$Header" (24 : Nat) "HeaderDesk$Header" "end" "I") ∈ wAll := List.mem_filter.mpr ⟨List.mem_append_right _ (List.mem_of_getElem? (i := 77) (by decide +kernel)), by decide +kernel⟩
theorem m_147 : (Cond.instanceMethod ({ cls := "HeaderDesk$Header", name := "readFrom", desc := "(LHeaderDesk$Message;)V" } : Jvm.MethodName)) ∈ wAll := List.mem_filter.mpr ⟨List.mem_append_right _ (List.mem_of_getElem? (i := 147) (by decide +kernel)), by decide +kernel⟩
theorem m_148 : (Cond.code ({ cls := "HeaderDesk$Header", name := "readFrom", desc := "(LHeaderDesk$Message;)V" } : Jvm.MethodName) prog_3_method_2_code (4 : Nat) (Option.none : Option Jvm.ClassFile.FieldType)) ∈ wAll := List.mem_filter.mpr ⟨List.mem_append_right _ (List.mem_of_getElem? (i := 148) (by decide +kernel)), by decide +kernel⟩
theorem m_153 : (Cond.methodLink "HeaderDesk$Header" (28 : Nat) ({ cls := "HeaderDesk$Header", name := "readField", desc := "(LHeaderDesk$Message;I)I" } : Jvm.MethodName)) ∈ wAll := List.mem_filter.mpr ⟨List.mem_append_right _ (List.mem_of_getElem? (i := 153) (by decide +kernel)), by decide +kernel⟩
theorem m_155 : (Cond.instanceMethod ({ cls := "HeaderDesk$Header", name := "readField", desc := "(LHeaderDesk$Message;I)I" } : Jvm.MethodName)) ∈ wAll := List.mem_filter.mpr ⟨List.mem_append_right _ (List.mem_of_getElem? (i := 155) (by decide +kernel)), by decide +kernel⟩
theorem m_156 : (Cond.code ({ cls := "HeaderDesk$Header", name := "readField", desc := "(LHeaderDesk$Message;I)I" } : Jvm.MethodName) prog_3_method_3_code (7 : Nat) (Option.some Jvm.ClassFile.FieldType.int)) ∈ wAll := List.mem_filter.mpr ⟨List.mem_append_right _ (List.mem_of_getElem? (i := 156) (by decide +kernel)), by decide +kernel⟩
theorem m_184 : (Cond.methodLink "HeaderDesk$Header" (51 : Nat) ({ cls := "HeaderDesk$Header", name := "readLine", desc := "(LHeaderDesk$Message;I)I" } : Jvm.MethodName)) ∈ wAll := List.mem_filter.mpr ⟨List.mem_append_right _ (List.mem_of_getElem? (i := 184) (by decide +kernel)), by decide +kernel⟩
theorem m_186 : (Cond.instanceMethod ({ cls := "HeaderDesk$Header", name := "readLine", desc := "(LHeaderDesk$Message;I)I" } : Jvm.MethodName)) ∈ wAll := List.mem_filter.mpr ⟨List.mem_append_right _ (List.mem_of_getElem? (i := 186) (by decide +kernel)), by decide +kernel⟩
theorem m_187 : (Cond.code ({ cls := "HeaderDesk$Header", name := "readLine", desc := "(LHeaderDesk$Message;I)I" } : Jvm.MethodName) prog_3_method_4_code (6 : Nat) (Option.some Jvm.ClassFile.FieldType.int)) ∈ wAll := List.mem_filter.mpr ⟨List.mem_append_right _ (List.mem_of_getElem? (i := 187) (by decide +kernel)), by decide +kernel⟩
theorem m_193 : (Cond.methodLink "HeaderDesk$Header" (70 : Nat) ({ cls := "java/lang/Math", name := "min", desc := "(II)I" } : Jvm.MethodName)) ∈ wAll := List.mem_filter.mpr ⟨List.mem_append_right _ (List.mem_of_getElem? (i := 193) (by decide +kernel)), by decide +kernel⟩
theorem m_194 : (Cond.static ({ cls := "java/lang/Math", name := "min", desc := "(II)I" } : Jvm.MethodName)) ∈ wAll := List.mem_filter.mpr ⟨List.mem_append_right _ (List.mem_of_getElem? (i := 194) (by decide +kernel)), by decide +kernel⟩
theorem m_195 : (Cond.code ({ cls := "java/lang/Math", name := "min", desc := "(II)I" } : Jvm.MethodName) prog_9_method_69_code (2 : Nat) (Option.some Jvm.ClassFile.FieldType.int)) ∈ wAll := List.mem_filter.mpr ⟨List.mem_append_right _ (List.mem_of_getElem? (i := 195) (by decide +kernel)), by decide +kernel⟩
theorem mn_30 : (Cond.fieldLinkNest "HeaderDesk$Header" (67 : Nat) "HeaderDesk$Message" "size" "I" "HeaderDesk") ∈ nwAll := List.mem_filter.mpr ⟨List.mem_append_right _ (List.mem_of_getElem? (i := 30) (by decide +kernel)), by decide +kernel⟩
theorem mn_45 : (Cond.methodLinkNest "HeaderDesk$Header" (11 : Nat) ({ cls := "HeaderDesk$Texts", name := "<init>", desc := "()V" } : Jvm.MethodName) "HeaderDesk") ∈ nwAll := List.mem_filter.mpr ⟨List.mem_append_right _ (List.mem_of_getElem? (i := 45) (by decide +kernel)), by decide +kernel⟩
theorem mn_57 : (Cond.fieldLinkNest "HeaderDesk$Header" (64 : Nat) "HeaderDesk$Texts" "openLength" "I" "HeaderDesk") ∈ nwAll := List.mem_filter.mpr ⟨List.mem_append_right _ (List.mem_of_getElem? (i := 57) (by decide +kernel)), by decide +kernel⟩
theorem mn_149 : (Cond.methodLinkNest "HeaderDesk$Header" (21 : Nat) ({ cls := "HeaderDesk$Texts", name := "clear", desc := "()V" } : Jvm.MethodName) "HeaderDesk") ∈ nwAll := List.mem_filter.mpr ⟨List.mem_append_right _ (List.mem_of_getElem? (i := 149) (by decide +kernel)), by decide +kernel⟩
theorem mn_157 : (Cond.methodLinkNest "HeaderDesk$Header" (32 : Nat) ({ cls := "HeaderDesk$Message", name := "endOfName", desc := "(I)I" } : Jvm.MethodName) "HeaderDesk") ∈ nwAll := List.mem_filter.mpr ⟨List.mem_append_right _ (List.mem_of_getElem? (i := 157) (by decide +kernel)), by decide +kernel⟩
theorem mn_168 : (Cond.methodLinkNest "HeaderDesk$Header" (38 : Nat) ({ cls := "HeaderDesk$Message", name := "endOfBlanks", desc := "(I)I" } : Jvm.MethodName) "HeaderDesk") ∈ nwAll := List.mem_filter.mpr ⟨List.mem_append_right _ (List.mem_of_getElem? (i := 168) (by decide +kernel)), by decide +kernel⟩
theorem mn_175 : (Cond.methodLinkNest "HeaderDesk$Header" (41 : Nat) ({ cls := "HeaderDesk$Message", name := "byteAt", desc := "(I)I" } : Jvm.MethodName) "HeaderDesk") ∈ nwAll := List.mem_filter.mpr ⟨List.mem_append_right _ (List.mem_of_getElem? (i := 175) (by decide +kernel)), by decide +kernel⟩
theorem mn_176 : (Cond.methodLinkNest "HeaderDesk$Header" (44 : Nat) ({ cls := "HeaderDesk$Texts", name := "append", desc := "(I)V" } : Jvm.MethodName) "HeaderDesk") ∈ nwAll := List.mem_filter.mpr ⟨List.mem_append_right _ (List.mem_of_getElem? (i := 176) (by decide +kernel)), by decide +kernel⟩
theorem mn_180 : (Cond.methodLinkNest "HeaderDesk$Header" (48 : Nat) ({ cls := "HeaderDesk$Texts", name := "closeOpen", desc := "()V" } : Jvm.MethodName) "HeaderDesk") ∈ nwAll := List.mem_filter.mpr ⟨List.mem_append_right _ (List.mem_of_getElem? (i := 180) (by decide +kernel)), by decide +kernel⟩
theorem mn_188 : (Cond.methodLinkNest "HeaderDesk$Header" (61 : Nat) ({ cls := "HeaderDesk$Message", name := "endOfLine", desc := "(I)I" } : Jvm.MethodName) "HeaderDesk") ∈ nwAll := List.mem_filter.mpr ⟨List.mem_append_right _ (List.mem_of_getElem? (i := 188) (by decide +kernel)), by decide +kernel⟩
theorem mn_192 : (Cond.methodLinkNest "HeaderDesk$Header" (54 : Nat) ({ cls := "HeaderDesk", name := "isBlank", desc := "(I)Z" } : Jvm.MethodName) "HeaderDesk") ∈ nwAll := List.mem_filter.mpr ⟨List.mem_append_right _ (List.mem_of_getElem? (i := 192) (by decide +kernel)), by decide +kernel⟩
theorem mn_196 : (Cond.methodLinkNest "HeaderDesk$Header" (58 : Nat) ({ cls := "HeaderDesk$Texts", name := "dropBlanksAtOpenEnd", desc := "()V" } : Jvm.MethodName) "HeaderDesk") ∈ nwAll := List.mem_filter.mpr ⟨List.mem_append_right _ (List.mem_of_getElem? (i := 196) (by decide +kernel)), by decide +kernel⟩
theorem d_He_init_0 : decode prog_3_method_1_code 0 = .ok (.aload_n 0, 1) := by decide +kernel
theorem d_He_init_1 : decode prog_3_method_1_code 1 = .ok (.invokespecial 3, 3) := by decide +kernel
theorem d_He_init_4 : decode prog_3_method_1_code 4 = .ok (.aload_n 0, 1) := by decide +kernel
theorem d_He_init_5 : decode prog_3_method_1_code 5 = .ok (.new 9, 3) := by decide +kernel
theorem d_He_init_8 : decode prog_3_method_1_code 8 = .ok (.dup, 1) := by decide +kernel
theorem d_He_init_9 : decode prog_3_method_1_code 9 = .ok (.invokespecial 11, 3) := by decide +kernel
theorem d_He_init_12 : decode prog_3_method_1_code 12 = .ok (.putfield 12, 3) := by decide +kernel
theorem d_He_init_15 : decode prog_3_method_1_code 15 = .ok (.aload_n 0, 1) := by decide +kernel
theorem d_He_init_16 : decode prog_3_method_1_code 16 = .ok (.new 9, 3) := by decide +kernel
theorem d_He_init_19 : decode prog_3_method_1_code 19 = .ok (.dup, 1) := by decide +kernel
theorem d_He_init_20 : decode prog_3_method_1_code 20 = .ok (.invokespecial 11, 3) := by decide +kernel
theorem d_He_init_23 : decode prog_3_method_1_code 23 = .ok (.putfield 18, 3) := by decide +kernel
theorem d_He_init_26 : decode prog_3_method_1_code 26 = .ok (.return_, 1) := by decide +kernel
theorem d_He_readLine_0 : decode prog_3_method_4_code 0 = .ok (.aload_n 1, 1) := by decide +kernel
theorem d_He_readLine_1 : decode prog_3_method_4_code 1 = .ok (.iload_n 2, 1) := by decide +kernel
theorem d_He_readLine_2 : decode prog_3_method_4_code 2 = .ok (.invokevirtual 61, 3) := by decide +kernel
theorem d_He_readLine_5 : decode prog_3_method_4_code 5 = .ok (.istore_n 3, 1) := by decide +kernel
theorem d_He_readLine_6 : decode prog_3_method_4_code 6 = .ok (.iload_n 2, 1) := by decide +kernel
theorem d_He_readLine_7 : decode prog_3_method_4_code 7 = .ok (.istore 4, 2) := by decide +kernel
theorem d_He_readLine_9 : decode prog_3_method_4_code 9 = .ok (.iload 4, 2) := by decide +kernel
theorem d_He_readLine_11 : decode prog_3_method_4_code 11 = .ok (.iload_n 3, 1) := by decide +kernel
theorem d_He_readLine_12 : decode prog_3_method_4_code 12 = .ok (.if_icmp .ge 44, 3) := by decide +kernel
theorem d_He_readLine_15 : decode prog_3_method_4_code 15 = .ok (.aload_n 1, 1) := by decide +kernel
theorem d_He_readLine_16 : decode prog_3_method_4_code 16 = .ok (.iload 4, 2) := by decide +kernel
theorem d_He_readLine_18 : decode prog_3_method_4_code 18 = .ok (.invokevirtual 41, 3) := by decide +kernel
theorem d_He_readLine_21 : decode prog_3_method_4_code 21 = .ok (.istore 5, 2) := by decide +kernel
theorem d_He_readLine_23 : decode prog_3_method_4_code 23 = .ok (.aload_n 0, 1) := by decide +kernel
theorem d_He_readLine_24 : decode prog_3_method_4_code 24 = .ok (.getfield 18, 3) := by decide +kernel
theorem d_He_readLine_27 : decode prog_3_method_4_code 27 = .ok (.getfield 64, 3) := by decide +kernel
theorem d_He_readLine_30 : decode prog_3_method_4_code 30 = .ok (.ifCond .gt 11, 3) := by decide +kernel
theorem d_He_readLine_33 : decode prog_3_method_4_code 33 = .ok (.iload 5, 2) := by decide +kernel
theorem d_He_readLine_35 : decode prog_3_method_4_code 35 = .ok (.invokestatic 54, 3) := by decide +kernel
theorem d_He_readLine_38 : decode prog_3_method_4_code 38 = .ok (.ifCond .ne 12, 3) := by decide +kernel
theorem d_He_readLine_41 : decode prog_3_method_4_code 41 = .ok (.aload_n 0, 1) := by decide +kernel
theorem d_He_readLine_42 : decode prog_3_method_4_code 42 = .ok (.getfield 18, 3) := by decide +kernel
theorem d_He_readLine_45 : decode prog_3_method_4_code 45 = .ok (.iload 5, 2) := by decide +kernel
theorem d_He_readLine_47 : decode prog_3_method_4_code 47 = .ok (.invokevirtual 44, 3) := by decide +kernel
theorem d_He_readLine_50 : decode prog_3_method_4_code 50 = .ok (.iinc 4 1, 3) := by decide +kernel
theorem d_He_readLine_53 : decode prog_3_method_4_code 53 = .ok (.goto (-44), 3) := by decide +kernel
theorem d_He_readLine_56 : decode prog_3_method_4_code 56 = .ok (.iload_n 3, 1) := by decide +kernel
theorem d_He_readLine_57 : decode prog_3_method_4_code 57 = .ok (.iconst 2, 1) := by decide +kernel
theorem d_He_readLine_58 : decode prog_3_method_4_code 58 = .ok (.iadd, 1) := by decide +kernel
theorem d_He_readLine_59 : decode prog_3_method_4_code 59 = .ok (.aload_n 1, 1) := by decide +kernel
theorem d_He_readLine_60 : decode prog_3_method_4_code 60 = .ok (.getfield 67, 3) := by decide +kernel
theorem d_He_readLine_63 : decode prog_3_method_4_code 63 = .ok (.invokestatic 70, 3) := by decide +kernel
theorem d_He_readLine_66 : decode prog_3_method_4_code 66 = .ok (.ireturn, 1) := by decide +kernel
theorem d_He_readField_0 : decode prog_3_method_3_code 0 = .ok (.aload_n 1, 1) := by decide +kernel
theorem d_He_readField_1 : decode prog_3_method_3_code 1 = .ok (.iload_n 2, 1) := by decide +kernel
theorem d_He_readField_2 : decode prog_3_method_3_code 2 = .ok (.invokevirtual 32, 3) := by decide +kernel
theorem d_He_readField_5 : decode prog_3_method_3_code 5 = .ok (.istore_n 3, 1) := by decide +kernel
theorem d_He_readField_6 : decode prog_3_method_3_code 6 = .ok (.aload_n 1, 1) := by decide +kernel
theorem d_He_readField_7 : decode prog_3_method_3_code 7 = .ok (.iload_n 3, 1) := by decide +kernel
theorem d_He_readField_8 : decode prog_3_method_3_code 8 = .ok (.invokevirtual 38, 3) := by decide +kernel
theorem d_He_readField_11 : decode prog_3_method_3_code 11 = .ok (.istore 4, 2) := by decide +kernel
theorem d_He_readField_13 : decode prog_3_method_3_code 13 = .ok (.iload_n 3, 1) := by decide +kernel
theorem d_He_readField_14 : decode prog_3_method_3_code 14 = .ok (.iload_n 2, 1) := by decide +kernel
theorem d_He_readField_15 : decode prog_3_method_3_code 15 = .ok (.if_icmp .eq 22, 3) := by decide +kernel
theorem d_He_readField_18 : decode prog_3_method_3_code 18 = .ok (.iload_n 3, 1) := by decide +kernel
theorem d_He_readField_19 : decode prog_3_method_3_code 19 = .ok (.iload_n 2, 1) := by decide +kernel
theorem d_He_readField_20 : decode prog_3_method_3_code 20 = .ok (.isub, 1) := by decide +kernel
theorem d_He_readField_21 : decode prog_3_method_3_code 21 = .ok (.bipush 60, 2) := by decide +kernel
theorem d_He_readField_23 : decode prog_3_method_3_code 23 = .ok (.if_icmp .gt 14, 3) := by decide +kernel
theorem d_He_readField_26 : decode prog_3_method_3_code 26 = .ok (.aload_n 1, 1) := by decide +kernel
theorem d_He_readField_27 : decode prog_3_method_3_code 27 = .ok (.iload 4, 2) := by decide +kernel
theorem d_He_readField_29 : decode prog_3_method_3_code 29 = .ok (.invokevirtual 41, 3) := by decide +kernel
theorem d_He_readField_32 : decode prog_3_method_3_code 32 = .ok (.bipush 58, 2) := by decide +kernel
theorem d_He_readField_34 : decode prog_3_method_3_code 34 = .ok (.if_icmp .eq 5, 3) := by decide +kernel
theorem d_He_readField_37 : decode prog_3_method_3_code 37 = .ok (.iconst (-1), 1) := by decide +kernel
theorem d_He_readField_38 : decode prog_3_method_3_code 38 = .ok (.ireturn, 1) := by decide +kernel
theorem d_He_readField_39 : decode prog_3_method_3_code 39 = .ok (.iload_n 2, 1) := by decide +kernel
theorem d_He_readField_40 : decode prog_3_method_3_code 40 = .ok (.istore 5, 2) := by decide +kernel
theorem d_He_readField_42 : decode prog_3_method_3_code 42 = .ok (.iload 5, 2) := by decide +kernel
theorem d_He_readField_44 : decode prog_3_method_3_code 44 = .ok (.iload_n 3, 1) := by decide +kernel
theorem d_He_readField_45 : decode prog_3_method_3_code 45 = .ok (.if_icmp .ge 22, 3) := by decide +kernel
theorem d_He_readField_48 : decode prog_3_method_3_code 48 = .ok (.aload_n 0, 1) := by decide +kernel
theorem d_He_readField_49 : decode prog_3_method_3_code 49 = .ok (.getfield 12, 3) := by decide +kernel
theorem d_He_readField_52 : decode prog_3_method_3_code 52 = .ok (.aload_n 1, 1) := by decide +kernel
theorem d_He_readField_53 : decode prog_3_method_3_code 53 = .ok (.iload 5, 2) := by decide +kernel
theorem d_He_readField_55 : decode prog_3_method_3_code 55 = .ok (.invokevirtual 41, 3) := by decide +kernel
theorem d_He_readField_58 : decode prog_3_method_3_code 58 = .ok (.invokevirtual 44, 3) := by decide +kernel
theorem d_He_readField_61 : decode prog_3_method_3_code 61 = .ok (.iinc 5 1, 3) := by decide +kernel
theorem d_He_readField_64 : decode prog_3_method_3_code 64 = .ok (.goto (-22), 3) := by decide +kernel
theorem d_He_readField_67 : decode prog_3_method_3_code 67 = .ok (.aload_n 0, 1) := by decide +kernel
theorem d_He_readField_68 : decode prog_3_method_3_code 68 = .ok (.getfield 12, 3) := by decide +kernel
theorem d_He_readField_71 : decode prog_3_method_3_code 71 = .ok (.invokevirtual 48, 3) := by decide +kernel
theorem d_He_readField_74 : decode prog_3_method_3_code 74 = .ok (.aload_n 0, 1) := by decide +kernel
theorem d_He_readField_75 : decode prog_3_method_3_code 75 = .ok (.aload_n 1, 1) := by decide +kernel
theorem d_He_readField_76 : decode prog_3_method_3_code 76 = .ok (.iload 4, 2) := by decide +kernel
theorem d_He_readField_78 : decode prog_3_method_3_code 78 = .ok (.iconst 1, 1) := by decide +kernel
theorem d_He_readField_79 : decode prog_3_method_3_code 79 = .ok (.iadd, 1) := by decide +kernel
theorem d_He_readField_80 : decode prog_3_method_3_code 80 = .ok (.invokevirtual 51, 3) := by decide +kernel
theorem d_He_readField_83 : decode prog_3_method_3_code 83 = .ok (.istore 5, 2) := by decide +kernel
theorem d_He_readField_85 : decode prog_3_method_3_code 85 = .ok (.iconst 0, 1) := by decide +kernel
theorem d_He_readField_86 : decode prog_3_method_3_code 86 = .ok (.istore 6, 2) := by decide +kernel
theorem d_He_readField_88 : decode prog_3_method_3_code 88 = .ok (.iload 6, 2) := by decide +kernel
theorem d_He_readField_90 : decode prog_3_method_3_code 90 = .ok (.sipush 300, 3) := by decide +kernel
theorem d_He_readField_93 : decode prog_3_method_3_code 93 = .ok (.if_icmp .ge 30, 3) := by decide +kernel
theorem d_He_readField_96 : decode prog_3_method_3_code 96 = .ok (.aload_n 1, 1) := by decide +kernel
theorem d_He_readField_97 : decode prog_3_method_3_code 97 = .ok (.iload 5, 2) := by decide +kernel
theorem d_He_readField_99 : decode prog_3_method_3_code 99 = .ok (.invokevirtual 41, 3) := by decide +kernel
theorem d_He_readField_102 : decode prog_3_method_3_code 102 = .ok (.invokestatic 54, 3) := by decide +kernel
theorem d_He_readField_105 : decode prog_3_method_3_code 105 = .ok (.ifCond .eq 18, 3) := by decide +kernel
theorem d_He_readField_108 : decode prog_3_method_3_code 108 = .ok (.aload_n 0, 1) := by decide +kernel
theorem d_He_readField_109 : decode prog_3_method_3_code 109 = .ok (.aload_n 1, 1) := by decide +kernel
theorem d_He_readField_110 : decode prog_3_method_3_code 110 = .ok (.iload 5, 2) := by decide +kernel
theorem d_He_readField_112 : decode prog_3_method_3_code 112 = .ok (.invokevirtual 51, 3) := by decide +kernel
theorem d_He_readField_115 : decode prog_3_method_3_code 115 = .ok (.istore 5, 2) := by decide +kernel
theorem d_He_readField_117 : decode prog_3_method_3_code 117 = .ok (.iinc 6 1, 3) := by decide +kernel
theorem d_He_readField_120 : decode prog_3_method_3_code 120 = .ok (.goto (-32), 3) := by decide +kernel
theorem d_He_readField_123 : decode prog_3_method_3_code 123 = .ok (.aload_n 0, 1) := by decide +kernel
theorem d_He_readField_124 : decode prog_3_method_3_code 124 = .ok (.getfield 18, 3) := by decide +kernel
theorem d_He_readField_127 : decode prog_3_method_3_code 127 = .ok (.invokevirtual 58, 3) := by decide +kernel
theorem d_He_readField_130 : decode prog_3_method_3_code 130 = .ok (.aload_n 0, 1) := by decide +kernel
theorem d_He_readField_131 : decode prog_3_method_3_code 131 = .ok (.getfield 18, 3) := by decide +kernel
theorem d_He_readField_134 : decode prog_3_method_3_code 134 = .ok (.invokevirtual 48, 3) := by decide +kernel
theorem d_He_readField_137 : decode prog_3_method_3_code 137 = .ok (.iload 5, 2) := by decide +kernel
theorem d_He_readField_139 : decode prog_3_method_3_code 139 = .ok (.ireturn, 1) := by decide +kernel
theorem d_He_readFrom_0 : decode prog_3_method_2_code 0 = .ok (.aload_n 0, 1) := by decide +kernel
theorem d_He_readFrom_1 : decode prog_3_method_2_code 1 = .ok (.getfield 12, 3) := by decide +kernel
theorem d_He_readFrom_4 : decode prog_3_method_2_code 4 = .ok (.invokevirtual 21, 3) := by decide +kernel
theorem d_He_readFrom_7 : decode prog_3_method_2_code 7 = .ok (.aload_n 0, 1) := by decide +kernel
theorem d_He_readFrom_8 : decode prog_3_method_2_code 8 = .ok (.getfield 18, 3) := by decide +kernel
theorem d_He_readFrom_11 : decode prog_3_method_2_code 11 = .ok (.invokevirtual 21, 3) := by decide +kernel
theorem d_He_readFrom_14 : decode prog_3_method_2_code 14 = .ok (.aload_n 0, 1) := by decide +kernel
theorem d_He_readFrom_15 : decode prog_3_method_2_code 15 = .ok (.iconst 0, 1) := by decide +kernel
theorem d_He_readFrom_16 : decode prog_3_method_2_code 16 = .ok (.putfield 24, 3) := by decide +kernel
theorem d_He_readFrom_19 : decode prog_3_method_2_code 19 = .ok (.iconst 0, 1) := by decide +kernel
theorem d_He_readFrom_20 : decode prog_3_method_2_code 20 = .ok (.istore_n 2, 1) := by decide +kernel
theorem d_He_readFrom_21 : decode prog_3_method_2_code 21 = .ok (.iload_n 2, 1) := by decide +kernel
theorem d_He_readFrom_22 : decode prog_3_method_2_code 22 = .ok (.bipush 100, 2) := by decide +kernel
theorem d_He_readFrom_24 : decode prog_3_method_2_code 24 = .ok (.if_icmp .ge 30, 3) := by decide +kernel
theorem d_He_readFrom_27 : decode prog_3_method_2_code 27 = .ok (.aload_n 0, 1) := by decide +kernel
theorem d_He_readFrom_28 : decode prog_3_method_2_code 28 = .ok (.aload_n 1, 1) := by decide +kernel
theorem d_He_readFrom_29 : decode prog_3_method_2_code 29 = .ok (.aload_n 0, 1) := by decide +kernel
theorem d_He_readFrom_30 : decode prog_3_method_2_code 30 = .ok (.getfield 24, 3) := by decide +kernel
theorem d_He_readFrom_33 : decode prog_3_method_2_code 33 = .ok (.invokevirtual 28, 3) := by decide +kernel
theorem d_He_readFrom_36 : decode prog_3_method_2_code 36 = .ok (.istore_n 3, 1) := by decide +kernel
theorem d_He_readFrom_37 : decode prog_3_method_2_code 37 = .ok (.iload_n 3, 1) := by decide +kernel
theorem d_He_readFrom_38 : decode prog_3_method_2_code 38 = .ok (.iconst (-1), 1) := by decide +kernel
theorem d_He_readFrom_39 : decode prog_3_method_2_code 39 = .ok (.if_icmp .ne 4, 3) := by decide +kernel
theorem d_He_readFrom_42 : decode prog_3_method_2_code 42 = .ok (.return_, 1) := by decide +kernel
theorem d_He_readFrom_43 : decode prog_3_method_2_code 43 = .ok (.aload_n 0, 1) := by decide +kernel
theorem d_He_readFrom_44 : decode prog_3_method_2_code 44 = .ok (.iload_n 3, 1) := by decide +kernel
theorem d_He_readFrom_45 : decode prog_3_method_2_code 45 = .ok (.putfield 24, 3) := by decide +kernel
theorem d_He_readFrom_48 : decode prog_3_method_2_code 48 = .ok (.iinc 2 1, 3) := by decide +kernel
theorem d_He_readFrom_51 : decode prog_3_method_2_code 51 = .ok (.goto (-30), 3) := by decide +kernel
theorem d_He_readFrom_54 : decode prog_3_method_2_code 54 = .ok (.return_, 1) := by decide +kernel
theorem ok_He_init : okN y_He_init prog_3_method_1_code 1 0 := ⟨m_40, m_3, m_41, by decide +kernel, rfl⟩
theorem ok_He_readLine : okM y_He_readLine prog_3_method_4_code 6 (some .int) 2 := ⟨m_186, (List.mem_filter.mpr ⟨List.mem_append_left _ (List.mem_of_getElem? (i := 9) (by decide +kernel)), by decide +kernel⟩), m_3, m_187, by decide +kernel⟩
theorem ok_He_readField : okM y_He_readField prog_3_method_3_code 7 (some .int) 2 := ⟨m_155, (List.mem_filter.mpr ⟨List.mem_append_left _ (List.mem_of_getElem? (i := 3) (by decide +kernel)), by decide +kernel⟩), m_3, m_156, by decide +kernel⟩
theorem ok_He_readFrom : okM y_He_readFrom prog_3_method_2_code 4 none 1 := ⟨m_147, (List.mem_filter.mpr ⟨List.mem_append_left _ (List.mem_of_getElem? (i := 1) (by decide +kernel)), by decide +kernel⟩), m_3, m_148, by decide +kernel⟩
def f_He_readLine_9 (N : Nat) (v_values_openStart : Int32) (v_p1_size : Int32) (v_p1_row : Nat → Int32) : Nat → Int32 → Int32 → Int32 → (Nat → Int32) → Option (Int32 × Int32 × (Nat → Int32))
  | 0, _, _, _, _ => none
  | n + 1, x3, x4, v_values_openLength, v_values_row => (if x3 ≤ x4 then some ((if v_p1_size < (x3 + 2) then v_p1_size else (x3 + 2)), v_values_openLength, v_values_row) else ((f_Me_byteAt N x4 v_p1_size v_p1_row).bind fun z2 => (if 0 < v_values_openLength then ((f_Te_append N z2 v_values_openStart v_values_openLength v_values_row).bind fun z4 => f_He_readLine_9 N v_values_openStart v_p1_size v_p1_row n x3 (x4 + 1) z4.1 z4.2) else ((f_De_isBlank N z2).bind fun z5 => (if z5 = 0 then ((f_Te_append N z2 v_values_openStart v_values_openLength v_values_row).bind fun z7 => f_He_readLine_9 N v_values_openStart v_p1_size v_p1_row n x3 (x4 + 1) z7.1 z7.2) else f_He_readLine_9 N v_values_openStart v_p1_size v_p1_row n x3 (x4 + 1) v_values_openLength v_values_row)))))
def f_He_readLine (N : Nat) (x2 : Int32) (v_values_openStart : Int32) (v_values_openLength : Int32) (v_values_row : Nat → Int32) (v_p1_size : Int32) (v_p1_row : Nat → Int32) : Option (Int32 × Int32 × (Nat → Int32)) := ((f_Me_endOfLine N x2 v_p1_size v_p1_row).bind fun z8 => f_He_readLine_9 N v_values_openStart v_p1_size v_p1_row N z8 x2 v_values_openLength v_values_row)
def f_He_readField_88 (N : Nat) (v_p1_size : Int32) (v_p1_row : Nat → Int32) : Nat → Int32 → Int32 → Int32 → Int32 → Int32 → (Nat → Int32) → (Nat → Int32) → (Nat → Int32) → Int32 → Int32 → Int32 → (Nat → Int32) → (Nat → Int32) → (Nat → Int32) → Option (Int32 × Int32 × Int32 × Int32 × (Nat → Int32) × (Nat → Int32) × (Nat → Int32) × Int32 × Int32 × Int32 × (Nat → Int32) × (Nat → Int32) × (Nat → Int32))
  | 0, _, _, _, _, _, _, _, _, _, _, _, _, _, _ => none
  | n + 1, x5, x6, v_names_size, v_names_openStart, v_names_openLength, v_names_row, v_names_starts, v_names_lengths, v_values_size, v_values_openStart, v_values_openLength, v_values_row, v_values_starts, v_values_lengths => (if 300 ≤ x6 then ((f_Te_dropBlanksAtOpenEnd N v_values_openStart v_values_openLength v_values_row).bind fun z2 => ((f_Te_closeOpen N v_values_size v_values_openStart z2 v_values_starts v_values_lengths).bind fun z3 => some (x5, v_names_size, v_names_openStart, v_names_openLength, v_names_row, v_names_starts, v_names_lengths, z3.1, z3.2.1, z3.2.2.1, v_values_row, z3.2.2.2.1, z3.2.2.2.2))) else ((f_Me_byteAt N x5 v_p1_size v_p1_row).bind fun z4 => ((f_De_isBlank N z4).bind fun z5 => (if z5 = 0 then ((f_Te_dropBlanksAtOpenEnd N v_values_openStart v_values_openLength v_values_row).bind fun z7 => ((f_Te_closeOpen N v_values_size v_values_openStart z7 v_values_starts v_values_lengths).bind fun z8 => some (x5, v_names_size, v_names_openStart, v_names_openLength, v_names_row, v_names_starts, v_names_lengths, z8.1, z8.2.1, z8.2.2.1, v_values_row, z8.2.2.2.1, z8.2.2.2.2))) else ((f_He_readLine N x5 v_values_openStart v_values_openLength v_values_row v_p1_size v_p1_row).bind fun z9 => f_He_readField_88 N v_p1_size v_p1_row n z9.1 (x6 + 1) v_names_size v_names_openStart v_names_openLength v_names_row v_names_starts v_names_lengths v_values_size v_values_openStart z9.2.1 z9.2.2 v_values_starts v_values_lengths)))))
def f_He_readField_42 (N : Nat) (v_p1_size : Int32) (v_p1_row : Nat → Int32) : Nat → Int32 → Int32 → Int32 → Int32 → Int32 → Int32 → (Nat → Int32) → (Nat → Int32) → (Nat → Int32) → Int32 → Int32 → Int32 → (Nat → Int32) → (Nat → Int32) → (Nat → Int32) → Option (Int32 × Int32 × Int32 × Int32 × (Nat → Int32) × (Nat → Int32) × (Nat → Int32) × Int32 × Int32 × Int32 × (Nat → Int32) × (Nat → Int32) × (Nat → Int32))
  | 0, _, _, _, _, _, _, _, _, _, _, _, _, _, _, _ => none
  | n + 1, x3, x4, x5, v_names_size, v_names_openStart, v_names_openLength, v_names_row, v_names_starts, v_names_lengths, v_values_size, v_values_openStart, v_values_openLength, v_values_row, v_values_starts, v_values_lengths => (if x3 ≤ x5 then ((f_Te_closeOpen N v_names_size v_names_openStart v_names_openLength v_names_starts v_names_lengths).bind fun z11 => ((f_He_readLine N (x4 + 1) v_values_openStart v_values_openLength v_values_row v_p1_size v_p1_row).bind fun z12 => f_He_readField_88 N v_p1_size v_p1_row N z12.1 0 z11.1 z11.2.1 z11.2.2.1 v_names_row z11.2.2.2.1 z11.2.2.2.2 v_values_size v_values_openStart z12.2.1 z12.2.2 v_values_starts v_values_lengths)) else ((f_Me_byteAt N x5 v_p1_size v_p1_row).bind fun z13 => ((f_Te_append N z13 v_names_openStart v_names_openLength v_names_row).bind fun z14 => f_He_readField_42 N v_p1_size v_p1_row n x3 x4 (x5 + 1) v_names_size v_names_openStart z14.1 z14.2 v_names_starts v_names_lengths v_values_size v_values_openStart v_values_openLength v_values_row v_values_starts v_values_lengths)))
def f_He_readField (N : Nat) (x2 : Int32) (v_names_size : Int32) (v_names_openStart : Int32) (v_names_openLength : Int32) (v_names_row : Nat → Int32) (v_names_starts : Nat → Int32) (v_names_lengths : Nat → Int32) (v_values_size : Int32) (v_values_openStart : Int32) (v_values_openLength : Int32) (v_values_row : Nat → Int32) (v_values_starts : Nat → Int32) (v_values_lengths : Nat → Int32) (v_p1_size : Int32) (v_p1_row : Nat → Int32) : Option (Int32 × Int32 × Int32 × Int32 × (Nat → Int32) × (Nat → Int32) × (Nat → Int32) × Int32 × Int32 × Int32 × (Nat → Int32) × (Nat → Int32) × (Nat → Int32)) := ((f_Me_endOfName N x2 v_p1_size v_p1_row).bind fun z15 => ((f_Me_endOfBlanks N z15 v_p1_size v_p1_row).bind fun z16 => (if z15 = x2 then some ((-1), v_names_size, v_names_openStart, v_names_openLength, v_names_row, v_names_starts, v_names_lengths, v_values_size, v_values_openStart, v_values_openLength, v_values_row, v_values_starts, v_values_lengths) else (if 60 < (z15 - x2) then some ((-1), v_names_size, v_names_openStart, v_names_openLength, v_names_row, v_names_starts, v_names_lengths, v_values_size, v_values_openStart, v_values_openLength, v_values_row, v_values_starts, v_values_lengths) else ((f_Me_byteAt N z16 v_p1_size v_p1_row).bind fun z19 => (if z19 = 58 then f_He_readField_42 N v_p1_size v_p1_row N z15 z16 x2 v_names_size v_names_openStart v_names_openLength v_names_row v_names_starts v_names_lengths v_values_size v_values_openStart v_values_openLength v_values_row v_values_starts v_values_lengths else some ((-1), v_names_size, v_names_openStart, v_names_openLength, v_names_row, v_names_starts, v_names_lengths, v_values_size, v_values_openStart, v_values_openLength, v_values_row, v_values_starts, v_values_lengths)))))))
def f_He_readFrom_21 (N : Nat) (v_p1_size : Int32) (v_p1_row : Nat → Int32) : Nat → Int32 → Int32 → Int32 → Int32 → Int32 → (Nat → Int32) → (Nat → Int32) → (Nat → Int32) → Int32 → Int32 → Int32 → (Nat → Int32) → (Nat → Int32) → (Nat → Int32) → Option (Int32 × Int32 × Int32 × Int32 × (Nat → Int32) × (Nat → Int32) × (Nat → Int32) × Int32 × Int32 × Int32 × (Nat → Int32) × (Nat → Int32) × (Nat → Int32))
  | 0, _, _, _, _, _, _, _, _, _, _, _, _, _, _ => none
  | n + 1, x2, v_end, v_names_size, v_names_openStart, v_names_openLength, v_names_row, v_names_starts, v_names_lengths, v_values_size, v_values_openStart, v_values_openLength, v_values_row, v_values_starts, v_values_lengths => (if 100 ≤ x2 then some (v_end, v_names_size, v_names_openStart, v_names_openLength, v_names_row, v_names_starts, v_names_lengths, v_values_size, v_values_openStart, v_values_openLength, v_values_row, v_values_starts, v_values_lengths) else ((f_He_readField N v_end v_names_size v_names_openStart v_names_openLength v_names_row v_names_starts v_names_lengths v_values_size v_values_openStart v_values_openLength v_values_row v_values_starts v_values_lengths v_p1_size v_p1_row).bind fun z2 => (if z2.1 = (-1) then some (v_end, z2.2.1, z2.2.2.1, z2.2.2.2.1, z2.2.2.2.2.1, z2.2.2.2.2.2.1, z2.2.2.2.2.2.2.1, z2.2.2.2.2.2.2.2.1, z2.2.2.2.2.2.2.2.2.1, z2.2.2.2.2.2.2.2.2.2.1, z2.2.2.2.2.2.2.2.2.2.2.1, z2.2.2.2.2.2.2.2.2.2.2.2.1, z2.2.2.2.2.2.2.2.2.2.2.2.2) else f_He_readFrom_21 N v_p1_size v_p1_row n (x2 + 1) z2.1 z2.2.1 z2.2.2.1 z2.2.2.2.1 z2.2.2.2.2.1 z2.2.2.2.2.2.1 z2.2.2.2.2.2.2.1 z2.2.2.2.2.2.2.2.1 z2.2.2.2.2.2.2.2.2.1 z2.2.2.2.2.2.2.2.2.2.1 z2.2.2.2.2.2.2.2.2.2.2.1 z2.2.2.2.2.2.2.2.2.2.2.2.1 z2.2.2.2.2.2.2.2.2.2.2.2.2)))
def f_He_readFrom (N : Nat) (v_end : Int32) (v_names_size : Int32) (v_names_openStart : Int32) (v_names_openLength : Int32) (v_names_row : Nat → Int32) (v_names_starts : Nat → Int32) (v_names_lengths : Nat → Int32) (v_values_size : Int32) (v_values_openStart : Int32) (v_values_openLength : Int32) (v_values_row : Nat → Int32) (v_values_starts : Nat → Int32) (v_values_lengths : Nat → Int32) (v_p1_size : Int32) (v_p1_row : Nat → Int32) : Option (Int32 × Int32 × Int32 × Int32 × (Nat → Int32) × (Nat → Int32) × (Nat → Int32) × Int32 × Int32 × Int32 × (Nat → Int32) × (Nat → Int32) × (Nat → Int32)) := ((f_Te_clear N v_names_size v_names_openStart v_names_openLength).bind fun z4 => ((f_Te_clear N v_values_size v_values_openStart v_values_openLength).bind fun z5 => f_He_readFrom_21 N v_p1_size v_p1_row N 0 0 z4.1 z4.2.1 z4.2.2 v_names_row v_names_starts v_names_lengths z5.1 z5.2.1 z5.2.2 v_values_row v_values_starts v_values_lengths))
set_option maxHeartbeats 4000000 in
set_option maxRecDepth 100000 in
theorem c_He_init {l : Launch} {dC : Nat → ClassId} {dI : Nat → Nat → Nat} {cB cI : ClassId} {aK aV : Nat → Nat} (h_this : Nat) : Ci l y_He_init prog_3_method_1_code 1 none ({ frames := 2, cells := 8, slots := 1012, locals := 40 }) (dC, dI) cB cI aK aV [.ref h_this] [(h_this, .inr (1, [.null, .null, .int 0]))] (fun A => Qn (α := Nat × Nat × Nat × Nat × Nat × Nat × Nat × Nat) (dC, dI) (fun q => [(h_this, .inr (1, [.ref q.1, .ref q.2.2.2.2.1, .int 0])), (q.1, .inr (3, [.ref q.2.1, .ref q.2.2.1, .ref q.2.2.2.1, .int 0, .int 0, .int 0])), (q.2.1, .inl (cB, 300, .inl (fun _ => 0))), (q.2.2.1, .inl (cI, 100, .inl (fun _ => 0))), (q.2.2.2.1, .inl (cI, 100, .inl (fun _ => 0))), (q.2.2.2.2.1, .inr (3, [.ref q.2.2.2.2.2.1, .ref q.2.2.2.2.2.2.1, .ref q.2.2.2.2.2.2.2, .int 0, .int 0, .int 0])), (q.2.2.2.2.2.1, .inl (cB, 300, .inl (fun _ => 0))), (q.2.2.2.2.2.2.1, .inl (cI, 100, .inl (fun _ => 0))), (q.2.2.2.2.2.2.2, .inl (cI, 100, .inl (fun _ => 0)))]) A) := by
  refine Ci_of (by decide) (Nat.le_of_ble_eq_true rfl) (fun p e s m below meth c A C hK hnm hA hP hD ls hl => ?_)
  obtain ⟨hx, hb, hr, hml, hown, hts, hlk⟩ := id C
  have hS : va_S A s.heap s.heap [] := va_S.rf
  have hl : lv_has ls 1 [(0, .ref h_this)] := hl
  refine lv_aload_n hx hb d_He_init_0 rfl (lv_at hl 0 rfl) ?_
  refine W.objInit hx hb hown (hts _ m_42) (hts _ m_19) (hts _ m_20) rfl (by rw [hml]; exact hl.1) rfl d_He_init_1 (by decide) (Nat.le_of_ble_eq_true rfl) ?_
  refine W.eq (g2 := F0 m 4 ls []) rfl ?_
  refine lv_aload_n hx hb d_He_init_4 rfl (lv_at hl 0 rfl) ?_
  refine va_new (ci := 3) (fs := [.null, .null, .null, .int 0, .int 0, .int 0]) (C := R_Te) (T := F_Te) (N := 6) hx hb hts in_Te t_Te t_Te_ok hown (hts _ m_43) (hts _ m_44) (hts _ m_4) hK.1 hP hD hS hA rfl (fun j hj => by rcases (show j = 0 ∨ j = 1 ∨ j = 2 ∨ j = 3 ∨ j = 4 ∨ j = 5 by omega) with rfl | rfl | rfl | rfl | rfl | rfl <;> rfl) (by decide) (by decide) d_He_init_5 (fun q1 H hP hD hS => ?_)
  refine W.widen (k := 1) (n := 6) (by decide) (by decide) ?_
  have hP : va_P (dC, dI) classes [(h_this, .inr (1, [.null, .null, .int 0])), (q1, .inr (3, [.null, .null, .null, .int 0, .int 0, .int 0]))] H := hP
  have hD : va_D A [(h_this, .inr (1, [.null, .null, .int 0])), (q1, .inr (3, [.null, .null, .null, .int 0, .int 0, .int 0]))] := hD
  refine lv_dup hx hb d_He_init_8 rfl ?_
  refine go_n (α := Nat × Nat × Nat) (wr := [(h_this, .inr (1, [.null, .null, .int 0]))]) (w1 := fun q2 => [(q1, .inr (3, [.ref q2.1, .ref q2.2.1, .ref q2.2.2, .int 0, .int 0, .int 0])), (q2.1, .inl (cB, 300, .inl (fun _ => 0))), (q2.2.1, .inl (cI, 100, .inl (fun _ => 0))), (q2.2.2, .inl (cI, 100, .inl (fun _ => 0)))]) (ws2 := fun q2 => [(h_this, .inr (1, [.null, .null, .int 0])), (q1, .inr (3, [.ref q2.1, .ref q2.2.1, .ref q2.2.2, .int 0, .int 0, .int 0])), (q2.1, .inl (cB, 300, .inl (fun _ => 0))), (q2.2.1, .inl (cI, 100, .inl (fun _ => 0))), (q2.2.2, .inl (cI, 100, .inl (fun _ => 0)))]) hP hD hS hA [1] [0] [0, 1, 2, 3, 4] rfl (by decide) rfl (by decide) (by decide) (fun _ => rfl) (by decide) (fun hPc hDc hFc => rn_IN (As := []) (rest := [.ref q1, .ref h_this]) C hK (c_Te_init q1 _) mn_45 ok_Te_init ⟨by decide, by decide⟩ hl.1 rfl (Nat.le_of_ble_eq_true rfl) d_He_init_9 ⟨by decide, by decide⟩ hS hPc hDc hFc) (fun q2 H locs hP hD hS => ?_)
  refine W.widen (k := 4) (n := 506) (by decide) (by decide) ?_
  have hP : va_P (dC, dI) classes [(h_this, .inr (1, [.null, .null, .int 0])), (q1, .inr (3, [.ref q2.1, .ref q2.2.1, .ref q2.2.2, .int 0, .int 0, .int 0])), (q2.1, .inl (cB, 300, .inl (fun _ => 0))), (q2.2.1, .inl (cI, 100, .inl (fun _ => 0))), (q2.2.2, .inl (cI, 100, .inl (fun _ => 0)))] H := hP
  have hD : va_D A [(h_this, .inr (1, [.null, .null, .int 0])), (q1, .inr (3, [.ref q2.1, .ref q2.2.1, .ref q2.2.2, .int 0, .int 0, .int 0])), (q2.1, .inl (cB, 300, .inl (fun _ => 0))), (q2.2.1, .inl (cI, 100, .inl (fun _ => 0))), (q2.2.2, .inl (cI, 100, .inl (fun _ => 0)))] := hD
  refine va_putF (D := (dC, dI)) (ci := 1) (v := .ref q1) (ty := (.object "HeaderDesk$Texts")) (C := R_He) (T := F_He) (N := 3) hx hb hts in_He t_He t_He_ok n_He hown hK.1 hP hD hS 0 rfl rfl 0 (by decide) (hts _ m_73) (fun _ h9 => h9) rfl hnm rfl (by decide +kernel) rfl rfl (Nat.le_of_ble_eq_true rfl) d_He_init_12 (fun H locs hP hD hS => ?_)
  have hP : va_P (dC, dI) classes [(h_this, .inr (1, [.ref q1, .null, .int 0])), (q1, .inr (3, [.ref q2.1, .ref q2.2.1, .ref q2.2.2, .int 0, .int 0, .int 0])), (q2.1, .inl (cB, 300, .inl (fun _ => 0))), (q2.2.1, .inl (cI, 100, .inl (fun _ => 0))), (q2.2.2, .inl (cI, 100, .inl (fun _ => 0)))] H := hP
  have hD : va_D A [(h_this, .inr (1, [.ref q1, .null, .int 0])), (q1, .inr (3, [.ref q2.1, .ref q2.2.1, .ref q2.2.2, .int 0, .int 0, .int 0])), (q2.1, .inl (cB, 300, .inl (fun _ => 0))), (q2.2.1, .inl (cI, 100, .inl (fun _ => 0))), (q2.2.2, .inl (cI, 100, .inl (fun _ => 0)))] := hD
  refine lv_aload_n hx hb d_He_init_15 rfl (lv_at hl 0 rfl) ?_
  refine va_new (ci := 3) (fs := [.null, .null, .null, .int 0, .int 0, .int 0]) (C := R_Te) (T := F_Te) (N := 6) hx hb hts in_Te t_Te t_Te_ok hown (hts _ m_43) (hts _ m_44) (hts _ m_4) hK.1 hP hD hS hA rfl (fun j hj => by rcases (show j = 0 ∨ j = 1 ∨ j = 2 ∨ j = 3 ∨ j = 4 ∨ j = 5 by omega) with rfl | rfl | rfl | rfl | rfl | rfl <;> rfl) (by decide) (by decide) d_He_init_16 (fun q3 H hP hD hS => ?_)
  refine W.widen (k := 5) (n := 512) (by decide) (by decide) ?_
  have hP : va_P (dC, dI) classes [(h_this, .inr (1, [.ref q1, .null, .int 0])), (q1, .inr (3, [.ref q2.1, .ref q2.2.1, .ref q2.2.2, .int 0, .int 0, .int 0])), (q2.1, .inl (cB, 300, .inl (fun _ => 0))), (q2.2.1, .inl (cI, 100, .inl (fun _ => 0))), (q2.2.2, .inl (cI, 100, .inl (fun _ => 0))), (q3, .inr (3, [.null, .null, .null, .int 0, .int 0, .int 0]))] H := hP
  have hD : va_D A [(h_this, .inr (1, [.ref q1, .null, .int 0])), (q1, .inr (3, [.ref q2.1, .ref q2.2.1, .ref q2.2.2, .int 0, .int 0, .int 0])), (q2.1, .inl (cB, 300, .inl (fun _ => 0))), (q2.2.1, .inl (cI, 100, .inl (fun _ => 0))), (q2.2.2, .inl (cI, 100, .inl (fun _ => 0))), (q3, .inr (3, [.null, .null, .null, .int 0, .int 0, .int 0]))] := hD
  refine lv_dup hx hb d_He_init_19 rfl ?_
  refine go_n (α := Nat × Nat × Nat) (wr := [(h_this, .inr (1, [.ref q1, .null, .int 0])), (q1, .inr (3, [.ref q2.1, .ref q2.2.1, .ref q2.2.2, .int 0, .int 0, .int 0])), (q2.1, .inl (cB, 300, .inl (fun _ => 0))), (q2.2.1, .inl (cI, 100, .inl (fun _ => 0))), (q2.2.2, .inl (cI, 100, .inl (fun _ => 0)))]) (w1 := fun q4 => [(q3, .inr (3, [.ref q4.1, .ref q4.2.1, .ref q4.2.2, .int 0, .int 0, .int 0])), (q4.1, .inl (cB, 300, .inl (fun _ => 0))), (q4.2.1, .inl (cI, 100, .inl (fun _ => 0))), (q4.2.2, .inl (cI, 100, .inl (fun _ => 0)))]) (ws2 := fun q4 => [(h_this, .inr (1, [.ref q1, .null, .int 0])), (q1, .inr (3, [.ref q2.1, .ref q2.2.1, .ref q2.2.2, .int 0, .int 0, .int 0])), (q2.1, .inl (cB, 300, .inl (fun _ => 0))), (q2.2.1, .inl (cI, 100, .inl (fun _ => 0))), (q2.2.2, .inl (cI, 100, .inl (fun _ => 0))), (q3, .inr (3, [.ref q4.1, .ref q4.2.1, .ref q4.2.2, .int 0, .int 0, .int 0])), (q4.1, .inl (cB, 300, .inl (fun _ => 0))), (q4.2.1, .inl (cI, 100, .inl (fun _ => 0))), (q4.2.2, .inl (cI, 100, .inl (fun _ => 0)))]) hP hD hS hA [5] [0, 1, 2, 3, 4] [0, 1, 2, 3, 4, 5, 6, 7, 8] rfl (by decide) rfl (by decide) (by decide) (fun _ => rfl) (by decide) (fun hPc hDc hFc => rn_IN (As := []) (rest := [.ref q3, .ref h_this]) C hK (c_Te_init q3 _) mn_45 ok_Te_init ⟨by decide, by decide⟩ hl.1 rfl (Nat.le_of_ble_eq_true rfl) d_He_init_20 ⟨by decide, by decide⟩ hS hPc hDc hFc) (fun q4 H locs hP hD hS => ?_)
  refine W.widen (k := 8) (n := 1012) (by decide) (by decide) ?_
  have hP : va_P (dC, dI) classes [(h_this, .inr (1, [.ref q1, .null, .int 0])), (q1, .inr (3, [.ref q2.1, .ref q2.2.1, .ref q2.2.2, .int 0, .int 0, .int 0])), (q2.1, .inl (cB, 300, .inl (fun _ => 0))), (q2.2.1, .inl (cI, 100, .inl (fun _ => 0))), (q2.2.2, .inl (cI, 100, .inl (fun _ => 0))), (q3, .inr (3, [.ref q4.1, .ref q4.2.1, .ref q4.2.2, .int 0, .int 0, .int 0])), (q4.1, .inl (cB, 300, .inl (fun _ => 0))), (q4.2.1, .inl (cI, 100, .inl (fun _ => 0))), (q4.2.2, .inl (cI, 100, .inl (fun _ => 0)))] H := hP
  have hD : va_D A [(h_this, .inr (1, [.ref q1, .null, .int 0])), (q1, .inr (3, [.ref q2.1, .ref q2.2.1, .ref q2.2.2, .int 0, .int 0, .int 0])), (q2.1, .inl (cB, 300, .inl (fun _ => 0))), (q2.2.1, .inl (cI, 100, .inl (fun _ => 0))), (q2.2.2, .inl (cI, 100, .inl (fun _ => 0))), (q3, .inr (3, [.ref q4.1, .ref q4.2.1, .ref q4.2.2, .int 0, .int 0, .int 0])), (q4.1, .inl (cB, 300, .inl (fun _ => 0))), (q4.2.1, .inl (cI, 100, .inl (fun _ => 0))), (q4.2.2, .inl (cI, 100, .inl (fun _ => 0)))] := hD
  refine va_putF (D := (dC, dI)) (ci := 1) (v := .ref q3) (ty := (.object "HeaderDesk$Texts")) (C := R_He) (T := F_He) (N := 3) hx hb hts in_He t_He t_He_ok n_He hown hK.1 hP hD hS 0 rfl rfl 1 (by decide) (hts _ m_75) (fun _ h9 => h9) rfl hnm rfl (by decide +kernel) rfl rfl (Nat.le_of_ble_eq_true rfl) d_He_init_23 (fun H locs hP hD hS => ?_)
  have hP : va_P (dC, dI) classes [(h_this, .inr (1, [.ref q1, .ref q3, .int 0])), (q1, .inr (3, [.ref q2.1, .ref q2.2.1, .ref q2.2.2, .int 0, .int 0, .int 0])), (q2.1, .inl (cB, 300, .inl (fun _ => 0))), (q2.2.1, .inl (cI, 100, .inl (fun _ => 0))), (q2.2.2, .inl (cI, 100, .inl (fun _ => 0))), (q3, .inr (3, [.ref q4.1, .ref q4.2.1, .ref q4.2.2, .int 0, .int 0, .int 0])), (q4.1, .inl (cB, 300, .inl (fun _ => 0))), (q4.2.1, .inl (cI, 100, .inl (fun _ => 0))), (q4.2.2, .inl (cI, 100, .inl (fun _ => 0)))] H := hP
  have hD : va_D A [(h_this, .inr (1, [.ref q1, .ref q3, .int 0])), (q1, .inr (3, [.ref q2.1, .ref q2.2.1, .ref q2.2.2, .int 0, .int 0, .int 0])), (q2.1, .inl (cB, 300, .inl (fun _ => 0))), (q2.2.1, .inl (cI, 100, .inl (fun _ => 0))), (q2.2.2, .inl (cI, 100, .inl (fun _ => 0))), (q3, .inr (3, [.ref q4.1, .ref q4.2.1, .ref q4.2.2, .int 0, .int 0, .int 0])), (q4.1, .inl (cB, 300, .inl (fun _ => 0))), (q4.2.1, .inl (cI, 100, .inl (fun _ => 0))), (q4.2.2, .inl (cI, 100, .inl (fun _ => 0)))] := hD
  have hP9 := va_P_perm (ws' := [(h_this, .inr (1, [.ref q1, .ref q3, .int 0])), (q1, .inr (3, [.ref q2.1, .ref q2.2.1, .ref q2.2.2, .int 0, .int 0, .int 0])), (q2.1, .inl (cB, 300, .inl (fun _ => 0))), (q2.2.1, .inl (cI, 100, .inl (fun _ => 0))), (q2.2.2, .inl (cI, 100, .inl (fun _ => 0))), (q3, .inr (3, [.ref q4.1, .ref q4.2.1, .ref q4.2.2, .int 0, .int 0, .int 0])), (q4.1, .inl (cB, 300, .inl (fun _ => 0))), (q4.2.1, .inl (cI, 100, .inl (fun _ => 0))), (q4.2.2, .inl (cI, 100, .inl (fun _ => 0)))]) hP [0, 1, 2, 3, 4, 5, 6, 7, 8] rfl
  have hD9 := hD.sub (ws' := [(h_this, .inr (1, [.ref q1, .ref q3, .int 0])), (q1, .inr (3, [.ref q2.1, .ref q2.2.1, .ref q2.2.2, .int 0, .int 0, .int 0])), (q2.1, .inl (cB, 300, .inl (fun _ => 0))), (q2.2.1, .inl (cI, 100, .inl (fun _ => 0))), (q2.2.2, .inl (cI, 100, .inl (fun _ => 0))), (q3, .inr (3, [.ref q4.1, .ref q4.2.1, .ref q4.2.2, .int 0, .int 0, .int 0])), (q4.1, .inl (cB, 300, .inl (fun _ => 0))), (q4.2.1, .inl (cI, 100, .inl (fun _ => 0))), (q4.2.2, .inl (cI, 100, .inl (fun _ => 0)))]) [0, 1, 2, 3, 4, 5, 6, 7, 8] (by decide) rfl
  exact W.vret hx hb hr (fun t ht hW => ⟨⟨(), rfl, trivial, (q1, q2.1, q2.2.1, q2.2.2, q3, q4.1, q4.2.1, q4.2.2), by rw [ht]; exact hP9, hD9⟩, hS.F ht⟩) hS.2.2 d_He_init_26 hlk
set_option maxHeartbeats 4000000 in
set_option maxRecDepth 100000 in
theorem k_He_readLine_9 {p : Program} {l : Launch} {e : Env} {s : State} {m : MethodId} {args : Array Value} {below : List Frame} {meth : Method} {c : Code} {dC : Nat → ClassId} {dI : Nat → Nat → Nat} {cB cI : ClassId} {aK aV : Nat → Nat} {A : Nat → Prop} (C : cx p s m args meth c R_He prog_3_method_4_code 6 (some .int)) (hK : kx (dC, dI) cB cI aK aV A s) (hA : ∀ q : Nat, s.heap.size ≤ q → A q) (N : Nat) (h_this h_this_names h_this_names_row h_this_names_starts h_this_names_lengths h_this_values h_this_values_row h_this_values_starts h_this_values_lengths h_p1 h_p1_row : Nat) (v_end : Int32) (v_names_size : Int32) (v_names_openStart : Int32) (v_names_openLength : Int32) (v_names_row : Nat → Int32) (v_names_starts : Nat → Int32) (v_names_lengths : Nat → Int32) (v_values_size : Int32) (v_values_starts : Nat → Int32) (v_values_lengths : Nat → Int32) (v_values_openStart : Int32) (v_p1_size : Int32) (v_p1_row : Nat → Int32) (z : Int32 × Int32 × (Nat → Int32)) :
    ∀ (n : Nat), ∀ (x3 : Int32) (x4 : Int32) (v_values_openLength : Int32) (v_values_row : Nat → Int32), f_He_readLine_9 N v_values_openStart v_p1_size v_p1_row n x3 x4 v_values_openLength v_values_row = some z → ∀ (H : Heap) (locs : List Loc), va_P (dC, dI) classes [(h_this, .inr (1, [.ref h_this_names, .ref h_this_values, .int v_end])), (h_this_names, .inr (3, [.ref h_this_names_row, .ref h_this_names_starts, .ref h_this_names_lengths, .int v_names_size, .int v_names_openStart, .int v_names_openLength])), (h_this_names_row, .inl (cB, 300, .inl v_names_row)), (h_this_names_starts, .inl (cI, 100, .inl v_names_starts)), (h_this_names_lengths, .inl (cI, 100, .inl v_names_lengths)), (h_this_values, .inr (3, [.ref h_this_values_row, .ref h_this_values_starts, .ref h_this_values_lengths, .int v_values_size, .int v_values_openStart, .int v_values_openLength])), (h_this_values_row, .inl (cB, 300, .inl v_values_row)), (h_this_values_starts, .inl (cI, 100, .inl v_values_starts)), (h_this_values_lengths, .inl (cI, 100, .inl v_values_lengths)), (h_p1, .inr (2, [.ref h_p1_row, .int v_p1_size])), (h_p1_row, .inl (cB, 300, .inl v_p1_row))] H → va_D A [(h_this, .inr (1, [.ref h_this_names, .ref h_this_values, .int v_end])), (h_this_names, .inr (3, [.ref h_this_names_row, .ref h_this_names_starts, .ref h_this_names_lengths, .int v_names_size, .int v_names_openStart, .int v_names_openLength])), (h_this_names_row, .inl (cB, 300, .inl v_names_row)), (h_this_names_starts, .inl (cI, 100, .inl v_names_starts)), (h_this_names_lengths, .inl (cI, 100, .inl v_names_lengths)), (h_this_values, .inr (3, [.ref h_this_values_row, .ref h_this_values_starts, .ref h_this_values_lengths, .int v_values_size, .int v_values_openStart, .int v_values_openLength])), (h_this_values_row, .inl (cB, 300, .inl v_values_row)), (h_this_values_starts, .inl (cI, 100, .inl v_values_starts)), (h_this_values_lengths, .inl (cI, 100, .inl v_values_lengths)), (h_p1, .inr (2, [.ref h_p1_row, .int v_p1_size])), (h_p1_row, .inl (cB, 300, .inl v_p1_row))] → va_S A s.heap H locs → ∀ ls : Array Slot, lv_has ls 6 [(0, .ref h_this), (1, .ref h_p1), (3, .int x3), (4, .int x4)] → W p l e ({ frames := 2, cells := 0, slots := 0, locals := 43 }) s m args below meth c H locs 0 0 (MQ below (Qi (dC, dI) [(h_this, .inr (1, [.ref h_this_names, .ref h_this_values, .int v_end])), (h_this_names, .inr (3, [.ref h_this_names_row, .ref h_this_names_starts, .ref h_this_names_lengths, .int v_names_size, .int v_names_openStart, .int v_names_openLength])), (h_this_names_row, .inl (cB, 300, .inl v_names_row)), (h_this_names_starts, .inl (cI, 100, .inl v_names_starts)), (h_this_names_lengths, .inl (cI, 100, .inl v_names_lengths)), (h_this_values, .inr (3, [.ref h_this_values_row, .ref h_this_values_starts, .ref h_this_values_lengths, .int v_values_size, .int v_values_openStart, .int z.2.1])), (h_this_values_row, .inl (cB, 300, .inl z.2.2)), (h_this_values_starts, .inl (cI, 100, .inl v_values_starts)), (h_this_values_lengths, .inl (cI, 100, .inl v_values_lengths)), (h_p1, .inr (2, [.ref h_p1_row, .int v_p1_size])), (h_p1_row, .inl (cB, 300, .inl v_p1_row))] A z.1) args s 0 0 A) (F0 m 9 ls []) := by
  obtain ⟨hx, hb, hr, hml, hown, hts, hlk⟩ := id C
  intro n
  induction n with
  | zero =>
    intro x3 x4 v_values_openLength v_values_row h
    rw [f_He_readLine_9] at h
    cases h
  | succ n ih =>
    intro x3 x4 v_values_openLength v_values_row h H locs hP hD hS ls hl
    rw [f_He_readLine_9] at h
    refine lv_iload hx hb d_He_readLine_9 (lv_at hl 3 rfl) ?_
    refine lv_iload_n hx hb d_He_readLine_11 rfl (lv_at hl 2 rfl) ?_
    refine lv_icmp_ge (tgt := 56) hx hb d_He_readLine_12 (by decide) (fun c_1 => ?_) (fun c_1 => ?_)
    · replace h := itT h c_1
      refine lv_iload_n hx hb d_He_readLine_56 rfl (lv_at hl 2 rfl) ?_
      refine lv_iconst (v := 2) hx hb d_He_readLine_57 (by decide) ?_
      refine lv_iadd hx hb d_He_readLine_58 ?_
      refine lv_aload_n hx hb d_He_readLine_59 rfl (lv_at hl 1 rfl) ?_
      refine va_getN (D := (dC, dI)) (ci := 2) (v := .int v_p1_size) (C := R_Me) (T := F_Me) (N := 2) hx hb hts in_Me hown hK.1 hP 9 rfl rfl 1 (by decide) (va_Nw.use rfl (hK.2.1 _ mn_30)) (fun _ h9 => h9) rfl d_He_readLine_60 ?_
      refine va_mmin hx hb (hml.trans hl.1.symm) hown (hts _ m_193) (hts _ m_194) (hts _ m_7) (hts _ m_195) (by decide) (Nat.le_of_ble_eq_true rfl) (by decide) (by decide) d_He_readLine_63 ?_
      obtain rfl := Option.some.inj h
      exact W.iret (v := (if v_p1_size < (x3 + 2) then v_p1_size else (x3 + 2))) hx hb hr (fun t ht hW => ⟨⟨(if v_p1_size < (x3 + 2) then v_p1_size else (x3 + 2)), (), rfl, rfl, by rw [ht]; exact hP, hD⟩, hS.F ht⟩) hS.2.2 d_He_readLine_66 hlk
    · replace h := itF h c_1
      refine lv_aload_n hx hb d_He_readLine_15 rfl (lv_at hl 1 rfl) ?_
      refine lv_iload hx hb d_He_readLine_16 (lv_at hl 3 rfl) ?_
      obtain ⟨z2, hc_2, h⟩ := bs h
      refine go_i (wr := [(h_this, .inr (1, [.ref h_this_names, .ref h_this_values, .int v_end])), (h_this_names, .inr (3, [.ref h_this_names_row, .ref h_this_names_starts, .ref h_this_names_lengths, .int v_names_size, .int v_names_openStart, .int v_names_openLength])), (h_this_names_row, .inl (cB, 300, .inl v_names_row)), (h_this_names_starts, .inl (cI, 100, .inl v_names_starts)), (h_this_names_lengths, .inl (cI, 100, .inl v_names_lengths)), (h_this_values, .inr (3, [.ref h_this_values_row, .ref h_this_values_starts, .ref h_this_values_lengths, .int v_values_size, .int v_values_openStart, .int v_values_openLength])), (h_this_values_row, .inl (cB, 300, .inl v_values_row)), (h_this_values_starts, .inl (cI, 100, .inl v_values_starts)), (h_this_values_lengths, .inl (cI, 100, .inl v_values_lengths))]) (w1 := [(h_p1, .inr (2, [.ref h_p1_row, .int v_p1_size])), (h_p1_row, .inl (cB, 300, .inl v_p1_row))]) (ws2 := [(h_this, .inr (1, [.ref h_this_names, .ref h_this_values, .int v_end])), (h_this_names, .inr (3, [.ref h_this_names_row, .ref h_this_names_starts, .ref h_this_names_lengths, .int v_names_size, .int v_names_openStart, .int v_names_openLength])), (h_this_names_row, .inl (cB, 300, .inl v_names_row)), (h_this_names_starts, .inl (cI, 100, .inl v_names_starts)), (h_this_names_lengths, .inl (cI, 100, .inl v_names_lengths)), (h_this_values, .inr (3, [.ref h_this_values_row, .ref h_this_values_starts, .ref h_this_values_lengths, .int v_values_size, .int v_values_openStart, .int v_values_openLength])), (h_this_values_row, .inl (cB, 300, .inl v_values_row)), (h_this_values_starts, .inl (cI, 100, .inl v_values_starts)), (h_this_values_lengths, .inl (cI, 100, .inl v_values_lengths)), (h_p1, .inr (2, [.ref h_p1_row, .int v_p1_size])), (h_p1_row, .inl (cB, 300, .inl v_p1_row))]) hP hD hS hA [9, 10] [0, 1, 2, 3, 4, 5, 6, 7, 8] [0, 1, 2, 3, 4, 5, 6, 7, 8, 9, 10] rfl (by decide) rfl (by decide) (by decide) rfl (by decide) (fun hPc hDc hFc => rn_VN (As := [.int x4]) (rest := []) C hK (c_Me_byteAt N h_p1 h_p1_row v_p1_size v_p1_row x4 z2 hc_2 _) ⟨rfl, rfl⟩ mn_175 ok_Me_byteAt ⟨by decide, by decide⟩ rfl rfl rfl hl.1 rfl (Nat.le_of_ble_eq_true rfl) d_He_readLine_18 ⟨by decide, by decide⟩ hS hPc hDc hFc) (fun H locs hP hD hS => ?_)
      refine lv_istore (lv' := [(5, .int z2), (0, .ref h_this), (1, .ref h_p1), (3, .int x3), (4, .int x4)]) hx hb d_He_readLine_21 hl (by decide) rfl (fun ls hl => ?_)
      refine lv_aload_n hx hb d_He_readLine_23 rfl (lv_at hl 1 rfl) ?_
      refine va_get (D := (dC, dI)) (ci := 1) (v := .ref h_this_values) (C := R_He) (T := F_He) (N := 3) hx hb hts in_He hown hK.1 hP 0 rfl rfl 1 (by decide) (hts _ m_75) (fun _ h9 => h9) rfl d_He_readLine_24 ?_
      refine va_getN (D := (dC, dI)) (ci := 3) (v := .int v_values_openLength) (C := R_Te) (T := F_Te) (N := 6) hx hb hts in_Te hown hK.1 hP 5 rfl rfl 5 (by decide) (va_Nw.use rfl (hK.2.1 _ mn_57)) (fun _ h9 => h9) rfl d_He_readLine_27 ?_
      refine lv_if_gt (tgt := 41) hx hb d_He_readLine_30 (by decide) (fun c_3 => ?_) (fun c_3 => ?_)
      · replace h := itT h c_3
        refine lv_aload_n hx hb d_He_readLine_41 rfl (lv_at hl 1 rfl) ?_
        refine va_get (D := (dC, dI)) (ci := 1) (v := .ref h_this_values) (C := R_He) (T := F_He) (N := 3) hx hb hts in_He hown hK.1 hP 0 rfl rfl 1 (by decide) (hts _ m_75) (fun _ h9 => h9) rfl d_He_readLine_42 ?_
        refine lv_iload hx hb d_He_readLine_45 (lv_at hl 0 rfl) ?_
        obtain ⟨z4, hc_4, h⟩ := bs h
        refine go_v (wr := [(h_this, .inr (1, [.ref h_this_names, .ref h_this_values, .int v_end])), (h_this_names, .inr (3, [.ref h_this_names_row, .ref h_this_names_starts, .ref h_this_names_lengths, .int v_names_size, .int v_names_openStart, .int v_names_openLength])), (h_this_names_row, .inl (cB, 300, .inl v_names_row)), (h_this_names_starts, .inl (cI, 100, .inl v_names_starts)), (h_this_names_lengths, .inl (cI, 100, .inl v_names_lengths)), (h_p1, .inr (2, [.ref h_p1_row, .int v_p1_size])), (h_p1_row, .inl (cB, 300, .inl v_p1_row))]) (w1 := [(h_this_values, .inr (3, [.ref h_this_values_row, .ref h_this_values_starts, .ref h_this_values_lengths, .int v_values_size, .int v_values_openStart, .int z4.1])), (h_this_values_row, .inl (cB, 300, .inl z4.2)), (h_this_values_starts, .inl (cI, 100, .inl v_values_starts)), (h_this_values_lengths, .inl (cI, 100, .inl v_values_lengths))]) (ws2 := [(h_this, .inr (1, [.ref h_this_names, .ref h_this_values, .int v_end])), (h_this_names, .inr (3, [.ref h_this_names_row, .ref h_this_names_starts, .ref h_this_names_lengths, .int v_names_size, .int v_names_openStart, .int v_names_openLength])), (h_this_names_row, .inl (cB, 300, .inl v_names_row)), (h_this_names_starts, .inl (cI, 100, .inl v_names_starts)), (h_this_names_lengths, .inl (cI, 100, .inl v_names_lengths)), (h_this_values, .inr (3, [.ref h_this_values_row, .ref h_this_values_starts, .ref h_this_values_lengths, .int v_values_size, .int v_values_openStart, .int z4.1])), (h_this_values_row, .inl (cB, 300, .inl z4.2)), (h_this_values_starts, .inl (cI, 100, .inl v_values_starts)), (h_this_values_lengths, .inl (cI, 100, .inl v_values_lengths)), (h_p1, .inr (2, [.ref h_p1_row, .int v_p1_size])), (h_p1_row, .inl (cB, 300, .inl v_p1_row))]) hP hD hS hA [5, 6, 7, 8] [0, 1, 2, 3, 4, 9, 10] [0, 1, 2, 3, 4, 7, 8, 9, 10, 5, 6] rfl (by decide) rfl (by decide) (by decide) rfl (by decide) (fun hPc hDc hFc => rn_VN (As := [.int z2]) (rest := []) C hK (c_Te_append N h_this_values h_this_values_row h_this_values_starts h_this_values_lengths v_values_size v_values_openStart v_values_openLength v_values_row v_values_starts v_values_lengths z2 z4 hc_4 _) ⟨rfl, rfl⟩ mn_176 ok_Te_append ⟨by decide, by decide⟩ rfl rfl rfl hl.1 rfl (Nat.le_of_ble_eq_true rfl) d_He_readLine_47 ⟨by decide, by decide⟩ hS hPc hDc hFc) (fun H locs hP hD hS => ?_)
        refine lv_iinc (v := x4 + 1) (lv' := [(4, .int (x4 + 1)), (5, .int z2), (0, .ref h_this), (1, .ref h_p1), (3, .int x3)]) hx hb d_He_readLine_50 hl (k := 4) rfl rfl (by decide) rfl (fun ls hl => ?_)
        refine lv_goto (tgt := 9) hx hb d_He_readLine_53 (by decide) ?_
        exact ih x3 (x4 + 1) z4.1 z4.2 h _ _ hP hD hS _ (lv_sub hl [2, 3, 4, 0] rfl)
      · replace h := itF h c_3
        refine lv_iload hx hb d_He_readLine_33 (lv_at hl 0 rfl) ?_
        obtain ⟨z5, hc_5, h⟩ := bs h
        refine go_i (wr := [(h_this, .inr (1, [.ref h_this_names, .ref h_this_values, .int v_end])), (h_this_names, .inr (3, [.ref h_this_names_row, .ref h_this_names_starts, .ref h_this_names_lengths, .int v_names_size, .int v_names_openStart, .int v_names_openLength])), (h_this_names_row, .inl (cB, 300, .inl v_names_row)), (h_this_names_starts, .inl (cI, 100, .inl v_names_starts)), (h_this_names_lengths, .inl (cI, 100, .inl v_names_lengths)), (h_this_values, .inr (3, [.ref h_this_values_row, .ref h_this_values_starts, .ref h_this_values_lengths, .int v_values_size, .int v_values_openStart, .int v_values_openLength])), (h_this_values_row, .inl (cB, 300, .inl v_values_row)), (h_this_values_starts, .inl (cI, 100, .inl v_values_starts)), (h_this_values_lengths, .inl (cI, 100, .inl v_values_lengths)), (h_p1, .inr (2, [.ref h_p1_row, .int v_p1_size])), (h_p1_row, .inl (cB, 300, .inl v_p1_row))]) (w1 := []) (ws2 := [(h_this, .inr (1, [.ref h_this_names, .ref h_this_values, .int v_end])), (h_this_names, .inr (3, [.ref h_this_names_row, .ref h_this_names_starts, .ref h_this_names_lengths, .int v_names_size, .int v_names_openStart, .int v_names_openLength])), (h_this_names_row, .inl (cB, 300, .inl v_names_row)), (h_this_names_starts, .inl (cI, 100, .inl v_names_starts)), (h_this_names_lengths, .inl (cI, 100, .inl v_names_lengths)), (h_this_values, .inr (3, [.ref h_this_values_row, .ref h_this_values_starts, .ref h_this_values_lengths, .int v_values_size, .int v_values_openStart, .int v_values_openLength])), (h_this_values_row, .inl (cB, 300, .inl v_values_row)), (h_this_values_starts, .inl (cI, 100, .inl v_values_starts)), (h_this_values_lengths, .inl (cI, 100, .inl v_values_lengths)), (h_p1, .inr (2, [.ref h_p1_row, .int v_p1_size])), (h_p1_row, .inl (cB, 300, .inl v_p1_row))]) hP hD hS hA [] [0, 1, 2, 3, 4, 5, 6, 7, 8, 9, 10] [0, 1, 2, 3, 4, 5, 6, 7, 8, 9, 10] rfl (by decide) rfl (by decide) (by decide) rfl (by decide) (fun hPc hDc hFc => rn_SN (As := [.int z2]) (rest := []) C hK (c_De_isBlank N z2 z5 hc_5 _) ⟨rfl, rfl⟩ mn_192 ok_De_isBlank ⟨by decide, by decide⟩ hl.1 rfl (Nat.le_of_ble_eq_true rfl) d_He_readLine_35 ⟨by decide, by decide⟩ hS hPc hDc hFc) (fun H locs hP hD hS => ?_)
        refine lv_if_ne (tgt := 50) hx hb d_He_readLine_38 (by decide) (fun c_6 => ?_) (fun c_6 => ?_)
        · replace h := itF h c_6
          refine lv_iinc (v := x4 + 1) (lv' := [(4, .int (x4 + 1)), (5, .int z2), (0, .ref h_this), (1, .ref h_p1), (3, .int x3)]) hx hb d_He_readLine_50 hl (k := 4) rfl rfl (by decide) rfl (fun ls hl => ?_)
          refine lv_goto (tgt := 9) hx hb d_He_readLine_53 (by decide) ?_
          exact ih x3 (x4 + 1) v_values_openLength v_values_row h _ _ hP hD hS _ (lv_sub hl [2, 3, 4, 0] rfl)
        · replace h := itT h c_6
          refine lv_aload_n hx hb d_He_readLine_41 rfl (lv_at hl 1 rfl) ?_
          refine va_get (D := (dC, dI)) (ci := 1) (v := .ref h_this_values) (C := R_He) (T := F_He) (N := 3) hx hb hts in_He hown hK.1 hP 0 rfl rfl 1 (by decide) (hts _ m_75) (fun _ h9 => h9) rfl d_He_readLine_42 ?_
          refine lv_iload hx hb d_He_readLine_45 (lv_at hl 0 rfl) ?_
          obtain ⟨z7, hc_7, h⟩ := bs h
          refine go_v (wr := [(h_this, .inr (1, [.ref h_this_names, .ref h_this_values, .int v_end])), (h_this_names, .inr (3, [.ref h_this_names_row, .ref h_this_names_starts, .ref h_this_names_lengths, .int v_names_size, .int v_names_openStart, .int v_names_openLength])), (h_this_names_row, .inl (cB, 300, .inl v_names_row)), (h_this_names_starts, .inl (cI, 100, .inl v_names_starts)), (h_this_names_lengths, .inl (cI, 100, .inl v_names_lengths)), (h_p1, .inr (2, [.ref h_p1_row, .int v_p1_size])), (h_p1_row, .inl (cB, 300, .inl v_p1_row))]) (w1 := [(h_this_values, .inr (3, [.ref h_this_values_row, .ref h_this_values_starts, .ref h_this_values_lengths, .int v_values_size, .int v_values_openStart, .int z7.1])), (h_this_values_row, .inl (cB, 300, .inl z7.2)), (h_this_values_starts, .inl (cI, 100, .inl v_values_starts)), (h_this_values_lengths, .inl (cI, 100, .inl v_values_lengths))]) (ws2 := [(h_this, .inr (1, [.ref h_this_names, .ref h_this_values, .int v_end])), (h_this_names, .inr (3, [.ref h_this_names_row, .ref h_this_names_starts, .ref h_this_names_lengths, .int v_names_size, .int v_names_openStart, .int v_names_openLength])), (h_this_names_row, .inl (cB, 300, .inl v_names_row)), (h_this_names_starts, .inl (cI, 100, .inl v_names_starts)), (h_this_names_lengths, .inl (cI, 100, .inl v_names_lengths)), (h_this_values, .inr (3, [.ref h_this_values_row, .ref h_this_values_starts, .ref h_this_values_lengths, .int v_values_size, .int v_values_openStart, .int z7.1])), (h_this_values_row, .inl (cB, 300, .inl z7.2)), (h_this_values_starts, .inl (cI, 100, .inl v_values_starts)), (h_this_values_lengths, .inl (cI, 100, .inl v_values_lengths)), (h_p1, .inr (2, [.ref h_p1_row, .int v_p1_size])), (h_p1_row, .inl (cB, 300, .inl v_p1_row))]) hP hD hS hA [5, 6, 7, 8] [0, 1, 2, 3, 4, 9, 10] [0, 1, 2, 3, 4, 7, 8, 9, 10, 5, 6] rfl (by decide) rfl (by decide) (by decide) rfl (by decide) (fun hPc hDc hFc => rn_VN (As := [.int z2]) (rest := []) C hK (c_Te_append N h_this_values h_this_values_row h_this_values_starts h_this_values_lengths v_values_size v_values_openStart v_values_openLength v_values_row v_values_starts v_values_lengths z2 z7 hc_7 _) ⟨rfl, rfl⟩ mn_176 ok_Te_append ⟨by decide, by decide⟩ rfl rfl rfl hl.1 rfl (Nat.le_of_ble_eq_true rfl) d_He_readLine_47 ⟨by decide, by decide⟩ hS hPc hDc hFc) (fun H locs hP hD hS => ?_)
          refine lv_iinc (v := x4 + 1) (lv' := [(4, .int (x4 + 1)), (5, .int z2), (0, .ref h_this), (1, .ref h_p1), (3, .int x3)]) hx hb d_He_readLine_50 hl (k := 4) rfl rfl (by decide) rfl (fun ls hl => ?_)
          refine lv_goto (tgt := 9) hx hb d_He_readLine_53 (by decide) ?_
          exact ih x3 (x4 + 1) z7.1 z7.2 h _ _ hP hD hS _ (lv_sub hl [2, 3, 4, 0] rfl)
set_option maxHeartbeats 4000000 in
set_option maxRecDepth 100000 in
theorem c_He_readLine {l : Launch} {dC : Nat → ClassId} {dI : Nat → Nat → Nat} {cB cI : ClassId} {aK aV : Nat → Nat} (N : Nat) (h_this h_this_names h_this_names_row h_this_names_starts h_this_names_lengths h_this_values h_this_values_row h_this_values_starts h_this_values_lengths h_p1 h_p1_row : Nat) (v_end : Int32) (v_names_size : Int32) (v_names_openStart : Int32) (v_names_openLength : Int32) (v_names_row : Nat → Int32) (v_names_starts : Nat → Int32) (v_names_lengths : Nat → Int32) (v_values_size : Int32) (v_values_openStart : Int32) (v_values_openLength : Int32) (v_values_row : Nat → Int32) (v_values_starts : Nat → Int32) (v_values_lengths : Nat → Int32) (v_p1_size : Int32) (v_p1_row : Nat → Int32) (x2 : Int32) (z : Int32 × Int32 × (Nat → Int32)) (h : f_He_readLine N x2 v_values_openStart v_values_openLength v_values_row v_p1_size v_p1_row = some z) : Ci l y_He_readLine prog_3_method_4_code 6 (some .int) ({ frames := 2, cells := 0, slots := 0, locals := 43 }) (dC, dI) cB cI aK aV [.ref h_this, .ref h_p1, .int x2] [(h_this, .inr (1, [.ref h_this_names, .ref h_this_values, .int v_end])), (h_this_names, .inr (3, [.ref h_this_names_row, .ref h_this_names_starts, .ref h_this_names_lengths, .int v_names_size, .int v_names_openStart, .int v_names_openLength])), (h_this_names_row, .inl (cB, 300, .inl v_names_row)), (h_this_names_starts, .inl (cI, 100, .inl v_names_starts)), (h_this_names_lengths, .inl (cI, 100, .inl v_names_lengths)), (h_this_values, .inr (3, [.ref h_this_values_row, .ref h_this_values_starts, .ref h_this_values_lengths, .int v_values_size, .int v_values_openStart, .int v_values_openLength])), (h_this_values_row, .inl (cB, 300, .inl v_values_row)), (h_this_values_starts, .inl (cI, 100, .inl v_values_starts)), (h_this_values_lengths, .inl (cI, 100, .inl v_values_lengths)), (h_p1, .inr (2, [.ref h_p1_row, .int v_p1_size])), (h_p1_row, .inl (cB, 300, .inl v_p1_row))] (fun A => (Qi (dC, dI) [(h_this, .inr (1, [.ref h_this_names, .ref h_this_values, .int v_end])), (h_this_names, .inr (3, [.ref h_this_names_row, .ref h_this_names_starts, .ref h_this_names_lengths, .int v_names_size, .int v_names_openStart, .int v_names_openLength])), (h_this_names_row, .inl (cB, 300, .inl v_names_row)), (h_this_names_starts, .inl (cI, 100, .inl v_names_starts)), (h_this_names_lengths, .inl (cI, 100, .inl v_names_lengths)), (h_this_values, .inr (3, [.ref h_this_values_row, .ref h_this_values_starts, .ref h_this_values_lengths, .int v_values_size, .int v_values_openStart, .int z.2.1])), (h_this_values_row, .inl (cB, 300, .inl z.2.2)), (h_this_values_starts, .inl (cI, 100, .inl v_values_starts)), (h_this_values_lengths, .inl (cI, 100, .inl v_values_lengths)), (h_p1, .inr (2, [.ref h_p1_row, .int v_p1_size])), (h_p1_row, .inl (cB, 300, .inl v_p1_row))] A z.1)) := by
  refine Ci_of (by decide) (Nat.le_of_ble_eq_true rfl) (fun p e s m below meth c A C hK hnm hA hP hD ls hl => ?_)
  obtain ⟨hx, hb, hr, hml, hown, hts, hlk⟩ := id C
  have hS : va_S A s.heap s.heap [] := va_S.rf
  have hl : lv_has ls 6 [(0, .ref h_this), (1, .ref h_p1), (2, .int x2)] := hl
  rw [f_He_readLine] at h
  refine lv_aload_n hx hb d_He_readLine_0 rfl (lv_at hl 1 rfl) ?_
  refine lv_iload_n hx hb d_He_readLine_1 rfl (lv_at hl 2 rfl) ?_
  obtain ⟨z8, hc_8, h⟩ := bs h
  refine go_i (wr := [(h_this, .inr (1, [.ref h_this_names, .ref h_this_values, .int v_end])), (h_this_names, .inr (3, [.ref h_this_names_row, .ref h_this_names_starts, .ref h_this_names_lengths, .int v_names_size, .int v_names_openStart, .int v_names_openLength])), (h_this_names_row, .inl (cB, 300, .inl v_names_row)), (h_this_names_starts, .inl (cI, 100, .inl v_names_starts)), (h_this_names_lengths, .inl (cI, 100, .inl v_names_lengths)), (h_this_values, .inr (3, [.ref h_this_values_row, .ref h_this_values_starts, .ref h_this_values_lengths, .int v_values_size, .int v_values_openStart, .int v_values_openLength])), (h_this_values_row, .inl (cB, 300, .inl v_values_row)), (h_this_values_starts, .inl (cI, 100, .inl v_values_starts)), (h_this_values_lengths, .inl (cI, 100, .inl v_values_lengths))]) (w1 := [(h_p1, .inr (2, [.ref h_p1_row, .int v_p1_size])), (h_p1_row, .inl (cB, 300, .inl v_p1_row))]) (ws2 := [(h_this, .inr (1, [.ref h_this_names, .ref h_this_values, .int v_end])), (h_this_names, .inr (3, [.ref h_this_names_row, .ref h_this_names_starts, .ref h_this_names_lengths, .int v_names_size, .int v_names_openStart, .int v_names_openLength])), (h_this_names_row, .inl (cB, 300, .inl v_names_row)), (h_this_names_starts, .inl (cI, 100, .inl v_names_starts)), (h_this_names_lengths, .inl (cI, 100, .inl v_names_lengths)), (h_this_values, .inr (3, [.ref h_this_values_row, .ref h_this_values_starts, .ref h_this_values_lengths, .int v_values_size, .int v_values_openStart, .int v_values_openLength])), (h_this_values_row, .inl (cB, 300, .inl v_values_row)), (h_this_values_starts, .inl (cI, 100, .inl v_values_starts)), (h_this_values_lengths, .inl (cI, 100, .inl v_values_lengths)), (h_p1, .inr (2, [.ref h_p1_row, .int v_p1_size])), (h_p1_row, .inl (cB, 300, .inl v_p1_row))]) hP hD hS hA [9, 10] [0, 1, 2, 3, 4, 5, 6, 7, 8] [0, 1, 2, 3, 4, 5, 6, 7, 8, 9, 10] rfl (by decide) rfl (by decide) (by decide) rfl (by decide) (fun hPc hDc hFc => rn_VN (As := [.int x2]) (rest := []) C hK (c_Me_endOfLine N h_p1 h_p1_row v_p1_size v_p1_row x2 z8 hc_8 _) ⟨rfl, rfl⟩ mn_188 ok_Me_endOfLine ⟨by decide, by decide⟩ rfl rfl rfl hl.1 rfl (Nat.le_of_ble_eq_true rfl) d_He_readLine_2 ⟨by decide, by decide⟩ hS hPc hDc hFc) (fun H locs hP hD hS => ?_)
  refine lv_istore_n (lv' := [(3, .int z8), (0, .ref h_this), (1, .ref h_p1), (2, .int x2)]) hx hb d_He_readLine_5 rfl hl (by decide) rfl (fun ls hl => ?_)
  refine lv_iload_n hx hb d_He_readLine_6 rfl (lv_at hl 3 rfl) ?_
  refine lv_istore (lv' := [(4, .int x2), (3, .int z8), (0, .ref h_this), (1, .ref h_p1), (2, .int x2)]) hx hb d_He_readLine_7 hl (by decide) rfl (fun ls hl => ?_)
  exact k_He_readLine_9 C hK hA N h_this h_this_names h_this_names_row h_this_names_starts h_this_names_lengths h_this_values h_this_values_row h_this_values_starts h_this_values_lengths h_p1 h_p1_row v_end v_names_size v_names_openStart v_names_openLength v_names_row v_names_starts v_names_lengths v_values_size v_values_starts v_values_lengths v_values_openStart v_p1_size v_p1_row z N z8 x2 v_values_openLength v_values_row h _ _ hP hD hS _ (lv_sub hl [2, 3, 1, 0] rfl)
set_option maxHeartbeats 4000000 in
set_option maxRecDepth 100000 in
theorem k_He_readField_88 {p : Program} {l : Launch} {e : Env} {s : State} {m : MethodId} {args : Array Value} {below : List Frame} {meth : Method} {c : Code} {dC : Nat → ClassId} {dI : Nat → Nat → Nat} {cB cI : ClassId} {aK aV : Nat → Nat} {A : Nat → Prop} (C : cx p s m args meth c R_He prog_3_method_3_code 7 (some .int)) (hK : kx (dC, dI) cB cI aK aV A s) (hA : ∀ q : Nat, s.heap.size ≤ q → A q) (N : Nat) (h_this h_this_names h_this_names_row h_this_names_starts h_this_names_lengths h_this_values h_this_values_row h_this_values_starts h_this_values_lengths h_p1 h_p1_row : Nat) (v_end : Int32) (v_p1_size : Int32) (v_p1_row : Nat → Int32) (z : Int32 × Int32 × Int32 × Int32 × (Nat → Int32) × (Nat → Int32) × (Nat → Int32) × Int32 × Int32 × Int32 × (Nat → Int32) × (Nat → Int32) × (Nat → Int32)) :
    ∀ (n : Nat), ∀ (x5 : Int32) (x6 : Int32) (v_names_size : Int32) (v_names_openStart : Int32) (v_names_openLength : Int32) (v_names_row : Nat → Int32) (v_names_starts : Nat → Int32) (v_names_lengths : Nat → Int32) (v_values_size : Int32) (v_values_openStart : Int32) (v_values_openLength : Int32) (v_values_row : Nat → Int32) (v_values_starts : Nat → Int32) (v_values_lengths : Nat → Int32), f_He_readField_88 N v_p1_size v_p1_row n x5 x6 v_names_size v_names_openStart v_names_openLength v_names_row v_names_starts v_names_lengths v_values_size v_values_openStart v_values_openLength v_values_row v_values_starts v_values_lengths = some z → ∀ (H : Heap) (locs : List Loc), va_P (dC, dI) classes [(h_this, .inr (1, [.ref h_this_names, .ref h_this_values, .int v_end])), (h_this_names, .inr (3, [.ref h_this_names_row, .ref h_this_names_starts, .ref h_this_names_lengths, .int v_names_size, .int v_names_openStart, .int v_names_openLength])), (h_this_names_row, .inl (cB, 300, .inl v_names_row)), (h_this_names_starts, .inl (cI, 100, .inl v_names_starts)), (h_this_names_lengths, .inl (cI, 100, .inl v_names_lengths)), (h_this_values, .inr (3, [.ref h_this_values_row, .ref h_this_values_starts, .ref h_this_values_lengths, .int v_values_size, .int v_values_openStart, .int v_values_openLength])), (h_this_values_row, .inl (cB, 300, .inl v_values_row)), (h_this_values_starts, .inl (cI, 100, .inl v_values_starts)), (h_this_values_lengths, .inl (cI, 100, .inl v_values_lengths)), (h_p1, .inr (2, [.ref h_p1_row, .int v_p1_size])), (h_p1_row, .inl (cB, 300, .inl v_p1_row))] H → va_D A [(h_this, .inr (1, [.ref h_this_names, .ref h_this_values, .int v_end])), (h_this_names, .inr (3, [.ref h_this_names_row, .ref h_this_names_starts, .ref h_this_names_lengths, .int v_names_size, .int v_names_openStart, .int v_names_openLength])), (h_this_names_row, .inl (cB, 300, .inl v_names_row)), (h_this_names_starts, .inl (cI, 100, .inl v_names_starts)), (h_this_names_lengths, .inl (cI, 100, .inl v_names_lengths)), (h_this_values, .inr (3, [.ref h_this_values_row, .ref h_this_values_starts, .ref h_this_values_lengths, .int v_values_size, .int v_values_openStart, .int v_values_openLength])), (h_this_values_row, .inl (cB, 300, .inl v_values_row)), (h_this_values_starts, .inl (cI, 100, .inl v_values_starts)), (h_this_values_lengths, .inl (cI, 100, .inl v_values_lengths)), (h_p1, .inr (2, [.ref h_p1_row, .int v_p1_size])), (h_p1_row, .inl (cB, 300, .inl v_p1_row))] → va_S A s.heap H locs → ∀ ls : Array Slot, lv_has ls 7 [(0, .ref h_this), (1, .ref h_p1), (5, .int x5), (6, .int x6)] → W p l e ({ frames := 3, cells := 0, slots := 0, locals := 68 }) s m args below meth c H locs 0 0 (MQ below (Qi (dC, dI) [(h_this, .inr (1, [.ref h_this_names, .ref h_this_values, .int v_end])), (h_this_names, .inr (3, [.ref h_this_names_row, .ref h_this_names_starts, .ref h_this_names_lengths, .int z.2.1, .int z.2.2.1, .int z.2.2.2.1])), (h_this_names_row, .inl (cB, 300, .inl z.2.2.2.2.1)), (h_this_names_starts, .inl (cI, 100, .inl z.2.2.2.2.2.1)), (h_this_names_lengths, .inl (cI, 100, .inl z.2.2.2.2.2.2.1)), (h_this_values, .inr (3, [.ref h_this_values_row, .ref h_this_values_starts, .ref h_this_values_lengths, .int z.2.2.2.2.2.2.2.1, .int z.2.2.2.2.2.2.2.2.1, .int z.2.2.2.2.2.2.2.2.2.1])), (h_this_values_row, .inl (cB, 300, .inl z.2.2.2.2.2.2.2.2.2.2.1)), (h_this_values_starts, .inl (cI, 100, .inl z.2.2.2.2.2.2.2.2.2.2.2.1)), (h_this_values_lengths, .inl (cI, 100, .inl z.2.2.2.2.2.2.2.2.2.2.2.2)), (h_p1, .inr (2, [.ref h_p1_row, .int v_p1_size])), (h_p1_row, .inl (cB, 300, .inl v_p1_row))] A z.1) args s 0 0 A) (F0 m 88 ls []) := by
  obtain ⟨hx, hb, hr, hml, hown, hts, hlk⟩ := id C
  intro n
  induction n with
  | zero =>
    intro x5 x6 v_names_size v_names_openStart v_names_openLength v_names_row v_names_starts v_names_lengths v_values_size v_values_openStart v_values_openLength v_values_row v_values_starts v_values_lengths h
    rw [f_He_readField_88] at h
    cases h
  | succ n ih =>
    intro x5 x6 v_names_size v_names_openStart v_names_openLength v_names_row v_names_starts v_names_lengths v_values_size v_values_openStart v_values_openLength v_values_row v_values_starts v_values_lengths h H locs hP hD hS ls hl
    rw [f_He_readField_88] at h
    refine lv_iload hx hb d_He_readField_88 (lv_at hl 3 rfl) ?_
    refine lv_sipush (v := 300) hx hb d_He_readField_90 (by decide) ?_
    refine lv_icmp_ge (tgt := 123) hx hb d_He_readField_93 (by decide) (fun c_1 => ?_) (fun c_1 => ?_)
    · replace h := itT h c_1
      refine lv_aload_n hx hb d_He_readField_123 rfl (lv_at hl 0 rfl) ?_
      refine va_get (D := (dC, dI)) (ci := 1) (v := .ref h_this_values) (C := R_He) (T := F_He) (N := 3) hx hb hts in_He hown hK.1 hP 0 rfl rfl 1 (by decide) (hts _ m_75) (fun _ h9 => h9) rfl d_He_readField_124 ?_
      obtain ⟨z2, hc_2, h⟩ := bs h
      refine go_v (wr := [(h_this, .inr (1, [.ref h_this_names, .ref h_this_values, .int v_end])), (h_this_names, .inr (3, [.ref h_this_names_row, .ref h_this_names_starts, .ref h_this_names_lengths, .int v_names_size, .int v_names_openStart, .int v_names_openLength])), (h_this_names_row, .inl (cB, 300, .inl v_names_row)), (h_this_names_starts, .inl (cI, 100, .inl v_names_starts)), (h_this_names_lengths, .inl (cI, 100, .inl v_names_lengths)), (h_p1, .inr (2, [.ref h_p1_row, .int v_p1_size])), (h_p1_row, .inl (cB, 300, .inl v_p1_row))]) (w1 := [(h_this_values, .inr (3, [.ref h_this_values_row, .ref h_this_values_starts, .ref h_this_values_lengths, .int v_values_size, .int v_values_openStart, .int z2])), (h_this_values_row, .inl (cB, 300, .inl v_values_row)), (h_this_values_starts, .inl (cI, 100, .inl v_values_starts)), (h_this_values_lengths, .inl (cI, 100, .inl v_values_lengths))]) (ws2 := [(h_this, .inr (1, [.ref h_this_names, .ref h_this_values, .int v_end])), (h_this_names, .inr (3, [.ref h_this_names_row, .ref h_this_names_starts, .ref h_this_names_lengths, .int v_names_size, .int v_names_openStart, .int v_names_openLength])), (h_this_names_row, .inl (cB, 300, .inl v_names_row)), (h_this_names_starts, .inl (cI, 100, .inl v_names_starts)), (h_this_names_lengths, .inl (cI, 100, .inl v_names_lengths)), (h_this_values, .inr (3, [.ref h_this_values_row, .ref h_this_values_starts, .ref h_this_values_lengths, .int v_values_size, .int v_values_openStart, .int z2])), (h_this_values_row, .inl (cB, 300, .inl v_values_row)), (h_this_values_starts, .inl (cI, 100, .inl v_values_starts)), (h_this_values_lengths, .inl (cI, 100, .inl v_values_lengths)), (h_p1, .inr (2, [.ref h_p1_row, .int v_p1_size])), (h_p1_row, .inl (cB, 300, .inl v_p1_row))]) hP hD hS hA [5, 6, 7, 8] [0, 1, 2, 3, 4, 9, 10] [0, 1, 2, 3, 4, 7, 8, 9, 10, 5, 6] rfl (by decide) rfl (by decide) (by decide) rfl (by decide) (fun hPc hDc hFc => rn_VN (As := []) (rest := []) C hK (c_Te_dropBlanksAtOpenEnd N h_this_values h_this_values_row h_this_values_starts h_this_values_lengths v_values_size v_values_openStart v_values_openLength v_values_row v_values_starts v_values_lengths z2 hc_2 _) ⟨rfl, rfl⟩ mn_196 ok_Te_dropBlanksAtOpenEnd ⟨by decide, by decide⟩ rfl rfl rfl hl.1 rfl (Nat.le_of_ble_eq_true rfl) d_He_readField_127 ⟨by decide, by decide⟩ hS hPc hDc hFc) (fun H locs hP hD hS => ?_)
      refine lv_aload_n hx hb d_He_readField_130 rfl (lv_at hl 0 rfl) ?_
      refine va_get (D := (dC, dI)) (ci := 1) (v := .ref h_this_values) (C := R_He) (T := F_He) (N := 3) hx hb hts in_He hown hK.1 hP 0 rfl rfl 1 (by decide) (hts _ m_75) (fun _ h9 => h9) rfl d_He_readField_131 ?_
      obtain ⟨z3, hc_3, h⟩ := bs h
      refine go_v (wr := [(h_this, .inr (1, [.ref h_this_names, .ref h_this_values, .int v_end])), (h_this_names, .inr (3, [.ref h_this_names_row, .ref h_this_names_starts, .ref h_this_names_lengths, .int v_names_size, .int v_names_openStart, .int v_names_openLength])), (h_this_names_row, .inl (cB, 300, .inl v_names_row)), (h_this_names_starts, .inl (cI, 100, .inl v_names_starts)), (h_this_names_lengths, .inl (cI, 100, .inl v_names_lengths)), (h_p1, .inr (2, [.ref h_p1_row, .int v_p1_size])), (h_p1_row, .inl (cB, 300, .inl v_p1_row))]) (w1 := [(h_this_values, .inr (3, [.ref h_this_values_row, .ref h_this_values_starts, .ref h_this_values_lengths, .int z3.1, .int z3.2.1, .int z3.2.2.1])), (h_this_values_row, .inl (cB, 300, .inl v_values_row)), (h_this_values_starts, .inl (cI, 100, .inl z3.2.2.2.1)), (h_this_values_lengths, .inl (cI, 100, .inl z3.2.2.2.2))]) (ws2 := [(h_this, .inr (1, [.ref h_this_names, .ref h_this_values, .int v_end])), (h_this_names, .inr (3, [.ref h_this_names_row, .ref h_this_names_starts, .ref h_this_names_lengths, .int v_names_size, .int v_names_openStart, .int v_names_openLength])), (h_this_names_row, .inl (cB, 300, .inl v_names_row)), (h_this_names_starts, .inl (cI, 100, .inl v_names_starts)), (h_this_names_lengths, .inl (cI, 100, .inl v_names_lengths)), (h_this_values, .inr (3, [.ref h_this_values_row, .ref h_this_values_starts, .ref h_this_values_lengths, .int z3.1, .int z3.2.1, .int z3.2.2.1])), (h_this_values_row, .inl (cB, 300, .inl v_values_row)), (h_this_values_starts, .inl (cI, 100, .inl z3.2.2.2.1)), (h_this_values_lengths, .inl (cI, 100, .inl z3.2.2.2.2)), (h_p1, .inr (2, [.ref h_p1_row, .int v_p1_size])), (h_p1_row, .inl (cB, 300, .inl v_p1_row))]) hP hD hS hA [5, 6, 7, 8] [0, 1, 2, 3, 4, 9, 10] [0, 1, 2, 3, 4, 7, 8, 9, 10, 5, 6] rfl (by decide) rfl (by decide) (by decide) rfl (by decide) (fun hPc hDc hFc => rn_VN (As := []) (rest := []) C hK (c_Te_closeOpen N h_this_values h_this_values_row h_this_values_starts h_this_values_lengths v_values_size v_values_openStart z2 v_values_row v_values_starts v_values_lengths z3 hc_3 _) ⟨rfl, rfl⟩ mn_180 ok_Te_closeOpen ⟨by decide, by decide⟩ rfl rfl rfl hl.1 rfl (Nat.le_of_ble_eq_true rfl) d_He_readField_134 ⟨by decide, by decide⟩ hS hPc hDc hFc) (fun H locs hP hD hS => ?_)
      refine lv_iload hx hb d_He_readField_137 (lv_at hl 2 rfl) ?_
      obtain rfl := Option.some.inj h
      exact W.iret (v := x5) hx hb hr (fun t ht hW => ⟨⟨x5, (), rfl, rfl, by rw [ht]; exact hP, hD⟩, hS.F ht⟩) hS.2.2 d_He_readField_139 hlk
    · replace h := itF h c_1
      refine lv_aload_n hx hb d_He_readField_96 rfl (lv_at hl 1 rfl) ?_
      refine lv_iload hx hb d_He_readField_97 (lv_at hl 2 rfl) ?_
      obtain ⟨z4, hc_4, h⟩ := bs h
      refine go_i (wr := [(h_this, .inr (1, [.ref h_this_names, .ref h_this_values, .int v_end])), (h_this_names, .inr (3, [.ref h_this_names_row, .ref h_this_names_starts, .ref h_this_names_lengths, .int v_names_size, .int v_names_openStart, .int v_names_openLength])), (h_this_names_row, .inl (cB, 300, .inl v_names_row)), (h_this_names_starts, .inl (cI, 100, .inl v_names_starts)), (h_this_names_lengths, .inl (cI, 100, .inl v_names_lengths)), (h_this_values, .inr (3, [.ref h_this_values_row, .ref h_this_values_starts, .ref h_this_values_lengths, .int v_values_size, .int v_values_openStart, .int v_values_openLength])), (h_this_values_row, .inl (cB, 300, .inl v_values_row)), (h_this_values_starts, .inl (cI, 100, .inl v_values_starts)), (h_this_values_lengths, .inl (cI, 100, .inl v_values_lengths))]) (w1 := [(h_p1, .inr (2, [.ref h_p1_row, .int v_p1_size])), (h_p1_row, .inl (cB, 300, .inl v_p1_row))]) (ws2 := [(h_this, .inr (1, [.ref h_this_names, .ref h_this_values, .int v_end])), (h_this_names, .inr (3, [.ref h_this_names_row, .ref h_this_names_starts, .ref h_this_names_lengths, .int v_names_size, .int v_names_openStart, .int v_names_openLength])), (h_this_names_row, .inl (cB, 300, .inl v_names_row)), (h_this_names_starts, .inl (cI, 100, .inl v_names_starts)), (h_this_names_lengths, .inl (cI, 100, .inl v_names_lengths)), (h_this_values, .inr (3, [.ref h_this_values_row, .ref h_this_values_starts, .ref h_this_values_lengths, .int v_values_size, .int v_values_openStart, .int v_values_openLength])), (h_this_values_row, .inl (cB, 300, .inl v_values_row)), (h_this_values_starts, .inl (cI, 100, .inl v_values_starts)), (h_this_values_lengths, .inl (cI, 100, .inl v_values_lengths)), (h_p1, .inr (2, [.ref h_p1_row, .int v_p1_size])), (h_p1_row, .inl (cB, 300, .inl v_p1_row))]) hP hD hS hA [9, 10] [0, 1, 2, 3, 4, 5, 6, 7, 8] [0, 1, 2, 3, 4, 5, 6, 7, 8, 9, 10] rfl (by decide) rfl (by decide) (by decide) rfl (by decide) (fun hPc hDc hFc => rn_VN (As := [.int x5]) (rest := []) C hK (c_Me_byteAt N h_p1 h_p1_row v_p1_size v_p1_row x5 z4 hc_4 _) ⟨rfl, rfl⟩ mn_175 ok_Me_byteAt ⟨by decide, by decide⟩ rfl rfl rfl hl.1 rfl (Nat.le_of_ble_eq_true rfl) d_He_readField_99 ⟨by decide, by decide⟩ hS hPc hDc hFc) (fun H locs hP hD hS => ?_)
      obtain ⟨z5, hc_5, h⟩ := bs h
      refine go_i (wr := [(h_this, .inr (1, [.ref h_this_names, .ref h_this_values, .int v_end])), (h_this_names, .inr (3, [.ref h_this_names_row, .ref h_this_names_starts, .ref h_this_names_lengths, .int v_names_size, .int v_names_openStart, .int v_names_openLength])), (h_this_names_row, .inl (cB, 300, .inl v_names_row)), (h_this_names_starts, .inl (cI, 100, .inl v_names_starts)), (h_this_names_lengths, .inl (cI, 100, .inl v_names_lengths)), (h_this_values, .inr (3, [.ref h_this_values_row, .ref h_this_values_starts, .ref h_this_values_lengths, .int v_values_size, .int v_values_openStart, .int v_values_openLength])), (h_this_values_row, .inl (cB, 300, .inl v_values_row)), (h_this_values_starts, .inl (cI, 100, .inl v_values_starts)), (h_this_values_lengths, .inl (cI, 100, .inl v_values_lengths)), (h_p1, .inr (2, [.ref h_p1_row, .int v_p1_size])), (h_p1_row, .inl (cB, 300, .inl v_p1_row))]) (w1 := []) (ws2 := [(h_this, .inr (1, [.ref h_this_names, .ref h_this_values, .int v_end])), (h_this_names, .inr (3, [.ref h_this_names_row, .ref h_this_names_starts, .ref h_this_names_lengths, .int v_names_size, .int v_names_openStart, .int v_names_openLength])), (h_this_names_row, .inl (cB, 300, .inl v_names_row)), (h_this_names_starts, .inl (cI, 100, .inl v_names_starts)), (h_this_names_lengths, .inl (cI, 100, .inl v_names_lengths)), (h_this_values, .inr (3, [.ref h_this_values_row, .ref h_this_values_starts, .ref h_this_values_lengths, .int v_values_size, .int v_values_openStart, .int v_values_openLength])), (h_this_values_row, .inl (cB, 300, .inl v_values_row)), (h_this_values_starts, .inl (cI, 100, .inl v_values_starts)), (h_this_values_lengths, .inl (cI, 100, .inl v_values_lengths)), (h_p1, .inr (2, [.ref h_p1_row, .int v_p1_size])), (h_p1_row, .inl (cB, 300, .inl v_p1_row))]) hP hD hS hA [] [0, 1, 2, 3, 4, 5, 6, 7, 8, 9, 10] [0, 1, 2, 3, 4, 5, 6, 7, 8, 9, 10] rfl (by decide) rfl (by decide) (by decide) rfl (by decide) (fun hPc hDc hFc => rn_SN (As := [.int z4]) (rest := []) C hK (c_De_isBlank N z4 z5 hc_5 _) ⟨rfl, rfl⟩ mn_192 ok_De_isBlank ⟨by decide, by decide⟩ hl.1 rfl (Nat.le_of_ble_eq_true rfl) d_He_readField_102 ⟨by decide, by decide⟩ hS hPc hDc hFc) (fun H locs hP hD hS => ?_)
      refine lv_if_eq (tgt := 123) hx hb d_He_readField_105 (by decide) (fun c_6 => ?_) (fun c_6 => ?_)
      · replace h := itT h c_6
        refine lv_aload_n hx hb d_He_readField_123 rfl (lv_at hl 0 rfl) ?_
        refine va_get (D := (dC, dI)) (ci := 1) (v := .ref h_this_values) (C := R_He) (T := F_He) (N := 3) hx hb hts in_He hown hK.1 hP 0 rfl rfl 1 (by decide) (hts _ m_75) (fun _ h9 => h9) rfl d_He_readField_124 ?_
        obtain ⟨z7, hc_7, h⟩ := bs h
        refine go_v (wr := [(h_this, .inr (1, [.ref h_this_names, .ref h_this_values, .int v_end])), (h_this_names, .inr (3, [.ref h_this_names_row, .ref h_this_names_starts, .ref h_this_names_lengths, .int v_names_size, .int v_names_openStart, .int v_names_openLength])), (h_this_names_row, .inl (cB, 300, .inl v_names_row)), (h_this_names_starts, .inl (cI, 100, .inl v_names_starts)), (h_this_names_lengths, .inl (cI, 100, .inl v_names_lengths)), (h_p1, .inr (2, [.ref h_p1_row, .int v_p1_size])), (h_p1_row, .inl (cB, 300, .inl v_p1_row))]) (w1 := [(h_this_values, .inr (3, [.ref h_this_values_row, .ref h_this_values_starts, .ref h_this_values_lengths, .int v_values_size, .int v_values_openStart, .int z7])), (h_this_values_row, .inl (cB, 300, .inl v_values_row)), (h_this_values_starts, .inl (cI, 100, .inl v_values_starts)), (h_this_values_lengths, .inl (cI, 100, .inl v_values_lengths))]) (ws2 := [(h_this, .inr (1, [.ref h_this_names, .ref h_this_values, .int v_end])), (h_this_names, .inr (3, [.ref h_this_names_row, .ref h_this_names_starts, .ref h_this_names_lengths, .int v_names_size, .int v_names_openStart, .int v_names_openLength])), (h_this_names_row, .inl (cB, 300, .inl v_names_row)), (h_this_names_starts, .inl (cI, 100, .inl v_names_starts)), (h_this_names_lengths, .inl (cI, 100, .inl v_names_lengths)), (h_this_values, .inr (3, [.ref h_this_values_row, .ref h_this_values_starts, .ref h_this_values_lengths, .int v_values_size, .int v_values_openStart, .int z7])), (h_this_values_row, .inl (cB, 300, .inl v_values_row)), (h_this_values_starts, .inl (cI, 100, .inl v_values_starts)), (h_this_values_lengths, .inl (cI, 100, .inl v_values_lengths)), (h_p1, .inr (2, [.ref h_p1_row, .int v_p1_size])), (h_p1_row, .inl (cB, 300, .inl v_p1_row))]) hP hD hS hA [5, 6, 7, 8] [0, 1, 2, 3, 4, 9, 10] [0, 1, 2, 3, 4, 7, 8, 9, 10, 5, 6] rfl (by decide) rfl (by decide) (by decide) rfl (by decide) (fun hPc hDc hFc => rn_VN (As := []) (rest := []) C hK (c_Te_dropBlanksAtOpenEnd N h_this_values h_this_values_row h_this_values_starts h_this_values_lengths v_values_size v_values_openStart v_values_openLength v_values_row v_values_starts v_values_lengths z7 hc_7 _) ⟨rfl, rfl⟩ mn_196 ok_Te_dropBlanksAtOpenEnd ⟨by decide, by decide⟩ rfl rfl rfl hl.1 rfl (Nat.le_of_ble_eq_true rfl) d_He_readField_127 ⟨by decide, by decide⟩ hS hPc hDc hFc) (fun H locs hP hD hS => ?_)
        refine lv_aload_n hx hb d_He_readField_130 rfl (lv_at hl 0 rfl) ?_
        refine va_get (D := (dC, dI)) (ci := 1) (v := .ref h_this_values) (C := R_He) (T := F_He) (N := 3) hx hb hts in_He hown hK.1 hP 0 rfl rfl 1 (by decide) (hts _ m_75) (fun _ h9 => h9) rfl d_He_readField_131 ?_
        obtain ⟨z8, hc_8, h⟩ := bs h
        refine go_v (wr := [(h_this, .inr (1, [.ref h_this_names, .ref h_this_values, .int v_end])), (h_this_names, .inr (3, [.ref h_this_names_row, .ref h_this_names_starts, .ref h_this_names_lengths, .int v_names_size, .int v_names_openStart, .int v_names_openLength])), (h_this_names_row, .inl (cB, 300, .inl v_names_row)), (h_this_names_starts, .inl (cI, 100, .inl v_names_starts)), (h_this_names_lengths, .inl (cI, 100, .inl v_names_lengths)), (h_p1, .inr (2, [.ref h_p1_row, .int v_p1_size])), (h_p1_row, .inl (cB, 300, .inl v_p1_row))]) (w1 := [(h_this_values, .inr (3, [.ref h_this_values_row, .ref h_this_values_starts, .ref h_this_values_lengths, .int z8.1, .int z8.2.1, .int z8.2.2.1])), (h_this_values_row, .inl (cB, 300, .inl v_values_row)), (h_this_values_starts, .inl (cI, 100, .inl z8.2.2.2.1)), (h_this_values_lengths, .inl (cI, 100, .inl z8.2.2.2.2))]) (ws2 := [(h_this, .inr (1, [.ref h_this_names, .ref h_this_values, .int v_end])), (h_this_names, .inr (3, [.ref h_this_names_row, .ref h_this_names_starts, .ref h_this_names_lengths, .int v_names_size, .int v_names_openStart, .int v_names_openLength])), (h_this_names_row, .inl (cB, 300, .inl v_names_row)), (h_this_names_starts, .inl (cI, 100, .inl v_names_starts)), (h_this_names_lengths, .inl (cI, 100, .inl v_names_lengths)), (h_this_values, .inr (3, [.ref h_this_values_row, .ref h_this_values_starts, .ref h_this_values_lengths, .int z8.1, .int z8.2.1, .int z8.2.2.1])), (h_this_values_row, .inl (cB, 300, .inl v_values_row)), (h_this_values_starts, .inl (cI, 100, .inl z8.2.2.2.1)), (h_this_values_lengths, .inl (cI, 100, .inl z8.2.2.2.2)), (h_p1, .inr (2, [.ref h_p1_row, .int v_p1_size])), (h_p1_row, .inl (cB, 300, .inl v_p1_row))]) hP hD hS hA [5, 6, 7, 8] [0, 1, 2, 3, 4, 9, 10] [0, 1, 2, 3, 4, 7, 8, 9, 10, 5, 6] rfl (by decide) rfl (by decide) (by decide) rfl (by decide) (fun hPc hDc hFc => rn_VN (As := []) (rest := []) C hK (c_Te_closeOpen N h_this_values h_this_values_row h_this_values_starts h_this_values_lengths v_values_size v_values_openStart z7 v_values_row v_values_starts v_values_lengths z8 hc_8 _) ⟨rfl, rfl⟩ mn_180 ok_Te_closeOpen ⟨by decide, by decide⟩ rfl rfl rfl hl.1 rfl (Nat.le_of_ble_eq_true rfl) d_He_readField_134 ⟨by decide, by decide⟩ hS hPc hDc hFc) (fun H locs hP hD hS => ?_)
        refine lv_iload hx hb d_He_readField_137 (lv_at hl 2 rfl) ?_
        obtain rfl := Option.some.inj h
        exact W.iret (v := x5) hx hb hr (fun t ht hW => ⟨⟨x5, (), rfl, rfl, by rw [ht]; exact hP, hD⟩, hS.F ht⟩) hS.2.2 d_He_readField_139 hlk
      · replace h := itF h c_6
        refine lv_aload_n hx hb d_He_readField_108 rfl (lv_at hl 0 rfl) ?_
        refine lv_aload_n hx hb d_He_readField_109 rfl (lv_at hl 1 rfl) ?_
        refine lv_iload hx hb d_He_readField_110 (lv_at hl 2 rfl) ?_
        obtain ⟨z9, hc_9, h⟩ := bs h
        refine go_i (wr := []) (w1 := [(h_this, .inr (1, [.ref h_this_names, .ref h_this_values, .int v_end])), (h_this_names, .inr (3, [.ref h_this_names_row, .ref h_this_names_starts, .ref h_this_names_lengths, .int v_names_size, .int v_names_openStart, .int v_names_openLength])), (h_this_names_row, .inl (cB, 300, .inl v_names_row)), (h_this_names_starts, .inl (cI, 100, .inl v_names_starts)), (h_this_names_lengths, .inl (cI, 100, .inl v_names_lengths)), (h_this_values, .inr (3, [.ref h_this_values_row, .ref h_this_values_starts, .ref h_this_values_lengths, .int v_values_size, .int v_values_openStart, .int z9.2.1])), (h_this_values_row, .inl (cB, 300, .inl z9.2.2)), (h_this_values_starts, .inl (cI, 100, .inl v_values_starts)), (h_this_values_lengths, .inl (cI, 100, .inl v_values_lengths)), (h_p1, .inr (2, [.ref h_p1_row, .int v_p1_size])), (h_p1_row, .inl (cB, 300, .inl v_p1_row))]) (ws2 := [(h_this, .inr (1, [.ref h_this_names, .ref h_this_values, .int v_end])), (h_this_names, .inr (3, [.ref h_this_names_row, .ref h_this_names_starts, .ref h_this_names_lengths, .int v_names_size, .int v_names_openStart, .int v_names_openLength])), (h_this_names_row, .inl (cB, 300, .inl v_names_row)), (h_this_names_starts, .inl (cI, 100, .inl v_names_starts)), (h_this_names_lengths, .inl (cI, 100, .inl v_names_lengths)), (h_this_values, .inr (3, [.ref h_this_values_row, .ref h_this_values_starts, .ref h_this_values_lengths, .int v_values_size, .int v_values_openStart, .int z9.2.1])), (h_this_values_row, .inl (cB, 300, .inl z9.2.2)), (h_this_values_starts, .inl (cI, 100, .inl v_values_starts)), (h_this_values_lengths, .inl (cI, 100, .inl v_values_lengths)), (h_p1, .inr (2, [.ref h_p1_row, .int v_p1_size])), (h_p1_row, .inl (cB, 300, .inl v_p1_row))]) hP hD hS hA [0, 1, 2, 3, 4, 5, 6, 7, 8, 9, 10] [] [0, 1, 2, 3, 4, 5, 6, 7, 8, 9, 10] rfl (by decide) rfl (by decide) (by decide) rfl (by decide) (fun hPc hDc hFc => rn_V (As := [.ref h_p1, .int x5]) (rest := []) C hK (c_He_readLine N h_this h_this_names h_this_names_row h_this_names_starts h_this_names_lengths h_this_values h_this_values_row h_this_values_starts h_this_values_lengths h_p1 h_p1_row v_end v_names_size v_names_openStart v_names_openLength v_names_row v_names_starts v_names_lengths v_values_size v_values_openStart v_values_openLength v_values_row v_values_starts v_values_lengths v_p1_size v_p1_row x5 z9 hc_9 _) ⟨rfl, rfl⟩ m_184 ok_He_readLine ⟨by decide, by decide⟩ rfl rfl rfl hl.1 rfl (Nat.le_of_ble_eq_true rfl) d_He_readField_112 ⟨by decide, by decide⟩ hS hPc hDc hFc) (fun H locs hP hD hS => ?_)
        refine lv_istore (lv' := [(5, .int z9.1), (0, .ref h_this), (1, .ref h_p1), (6, .int x6)]) hx hb d_He_readField_115 hl (by decide) rfl (fun ls hl => ?_)
        refine lv_iinc (v := x6 + 1) (lv' := [(6, .int (x6 + 1)), (5, .int z9.1), (0, .ref h_this), (1, .ref h_p1)]) hx hb d_He_readField_117 hl (k := 3) rfl rfl (by decide) rfl (fun ls hl => ?_)
        refine lv_goto (tgt := 88) hx hb d_He_readField_120 (by decide) ?_
        exact ih z9.1 (x6 + 1) v_names_size v_names_openStart v_names_openLength v_names_row v_names_starts v_names_lengths v_values_size v_values_openStart z9.2.1 z9.2.2 v_values_starts v_values_lengths h _ _ hP hD hS _ (lv_sub hl [2, 3, 1, 0] rfl)
set_option maxHeartbeats 4000000 in
set_option maxRecDepth 100000 in
theorem k_He_readField_42 {p : Program} {l : Launch} {e : Env} {s : State} {m : MethodId} {args : Array Value} {below : List Frame} {meth : Method} {c : Code} {dC : Nat → ClassId} {dI : Nat → Nat → Nat} {cB cI : ClassId} {aK aV : Nat → Nat} {A : Nat → Prop} (C : cx p s m args meth c R_He prog_3_method_3_code 7 (some .int)) (hK : kx (dC, dI) cB cI aK aV A s) (hA : ∀ q : Nat, s.heap.size ≤ q → A q) (N : Nat) (h_this h_this_names h_this_names_row h_this_names_starts h_this_names_lengths h_this_values h_this_values_row h_this_values_starts h_this_values_lengths h_p1 h_p1_row : Nat) (v_end : Int32) (v_p1_size : Int32) (v_p1_row : Nat → Int32) (z : Int32 × Int32 × Int32 × Int32 × (Nat → Int32) × (Nat → Int32) × (Nat → Int32) × Int32 × Int32 × Int32 × (Nat → Int32) × (Nat → Int32) × (Nat → Int32)) :
    ∀ (n : Nat), ∀ (x3 : Int32) (x4 : Int32) (x5 : Int32) (v_names_size : Int32) (v_names_openStart : Int32) (v_names_openLength : Int32) (v_names_row : Nat → Int32) (v_names_starts : Nat → Int32) (v_names_lengths : Nat → Int32) (v_values_size : Int32) (v_values_openStart : Int32) (v_values_openLength : Int32) (v_values_row : Nat → Int32) (v_values_starts : Nat → Int32) (v_values_lengths : Nat → Int32), f_He_readField_42 N v_p1_size v_p1_row n x3 x4 x5 v_names_size v_names_openStart v_names_openLength v_names_row v_names_starts v_names_lengths v_values_size v_values_openStart v_values_openLength v_values_row v_values_starts v_values_lengths = some z → ∀ (H : Heap) (locs : List Loc), va_P (dC, dI) classes [(h_this, .inr (1, [.ref h_this_names, .ref h_this_values, .int v_end])), (h_this_names, .inr (3, [.ref h_this_names_row, .ref h_this_names_starts, .ref h_this_names_lengths, .int v_names_size, .int v_names_openStart, .int v_names_openLength])), (h_this_names_row, .inl (cB, 300, .inl v_names_row)), (h_this_names_starts, .inl (cI, 100, .inl v_names_starts)), (h_this_names_lengths, .inl (cI, 100, .inl v_names_lengths)), (h_this_values, .inr (3, [.ref h_this_values_row, .ref h_this_values_starts, .ref h_this_values_lengths, .int v_values_size, .int v_values_openStart, .int v_values_openLength])), (h_this_values_row, .inl (cB, 300, .inl v_values_row)), (h_this_values_starts, .inl (cI, 100, .inl v_values_starts)), (h_this_values_lengths, .inl (cI, 100, .inl v_values_lengths)), (h_p1, .inr (2, [.ref h_p1_row, .int v_p1_size])), (h_p1_row, .inl (cB, 300, .inl v_p1_row))] H → va_D A [(h_this, .inr (1, [.ref h_this_names, .ref h_this_values, .int v_end])), (h_this_names, .inr (3, [.ref h_this_names_row, .ref h_this_names_starts, .ref h_this_names_lengths, .int v_names_size, .int v_names_openStart, .int v_names_openLength])), (h_this_names_row, .inl (cB, 300, .inl v_names_row)), (h_this_names_starts, .inl (cI, 100, .inl v_names_starts)), (h_this_names_lengths, .inl (cI, 100, .inl v_names_lengths)), (h_this_values, .inr (3, [.ref h_this_values_row, .ref h_this_values_starts, .ref h_this_values_lengths, .int v_values_size, .int v_values_openStart, .int v_values_openLength])), (h_this_values_row, .inl (cB, 300, .inl v_values_row)), (h_this_values_starts, .inl (cI, 100, .inl v_values_starts)), (h_this_values_lengths, .inl (cI, 100, .inl v_values_lengths)), (h_p1, .inr (2, [.ref h_p1_row, .int v_p1_size])), (h_p1_row, .inl (cB, 300, .inl v_p1_row))] → va_S A s.heap H locs → ∀ ls : Array Slot, lv_has ls 7 [(0, .ref h_this), (1, .ref h_p1), (3, .int x3), (4, .int x4), (5, .int x5)] → W p l e ({ frames := 3, cells := 0, slots := 0, locals := 68 }) s m args below meth c H locs 0 0 (MQ below (Qi (dC, dI) [(h_this, .inr (1, [.ref h_this_names, .ref h_this_values, .int v_end])), (h_this_names, .inr (3, [.ref h_this_names_row, .ref h_this_names_starts, .ref h_this_names_lengths, .int z.2.1, .int z.2.2.1, .int z.2.2.2.1])), (h_this_names_row, .inl (cB, 300, .inl z.2.2.2.2.1)), (h_this_names_starts, .inl (cI, 100, .inl z.2.2.2.2.2.1)), (h_this_names_lengths, .inl (cI, 100, .inl z.2.2.2.2.2.2.1)), (h_this_values, .inr (3, [.ref h_this_values_row, .ref h_this_values_starts, .ref h_this_values_lengths, .int z.2.2.2.2.2.2.2.1, .int z.2.2.2.2.2.2.2.2.1, .int z.2.2.2.2.2.2.2.2.2.1])), (h_this_values_row, .inl (cB, 300, .inl z.2.2.2.2.2.2.2.2.2.2.1)), (h_this_values_starts, .inl (cI, 100, .inl z.2.2.2.2.2.2.2.2.2.2.2.1)), (h_this_values_lengths, .inl (cI, 100, .inl z.2.2.2.2.2.2.2.2.2.2.2.2)), (h_p1, .inr (2, [.ref h_p1_row, .int v_p1_size])), (h_p1_row, .inl (cB, 300, .inl v_p1_row))] A z.1) args s 0 0 A) (F0 m 42 ls []) := by
  obtain ⟨hx, hb, hr, hml, hown, hts, hlk⟩ := id C
  intro n
  induction n with
  | zero =>
    intro x3 x4 x5 v_names_size v_names_openStart v_names_openLength v_names_row v_names_starts v_names_lengths v_values_size v_values_openStart v_values_openLength v_values_row v_values_starts v_values_lengths h
    rw [f_He_readField_42] at h
    cases h
  | succ n ih =>
    intro x3 x4 x5 v_names_size v_names_openStart v_names_openLength v_names_row v_names_starts v_names_lengths v_values_size v_values_openStart v_values_openLength v_values_row v_values_starts v_values_lengths h H locs hP hD hS ls hl
    rw [f_He_readField_42] at h
    refine lv_iload hx hb d_He_readField_42 (lv_at hl 4 rfl) ?_
    refine lv_iload_n hx hb d_He_readField_44 rfl (lv_at hl 2 rfl) ?_
    refine lv_icmp_ge (tgt := 67) hx hb d_He_readField_45 (by decide) (fun c_10 => ?_) (fun c_10 => ?_)
    · replace h := itT h c_10
      refine lv_aload_n hx hb d_He_readField_67 rfl (lv_at hl 0 rfl) ?_
      refine va_get (D := (dC, dI)) (ci := 1) (v := .ref h_this_names) (C := R_He) (T := F_He) (N := 3) hx hb hts in_He hown hK.1 hP 0 rfl rfl 0 (by decide) (hts _ m_73) (fun _ h9 => h9) rfl d_He_readField_68 ?_
      obtain ⟨z11, hc_11, h⟩ := bs h
      refine go_v (wr := [(h_this, .inr (1, [.ref h_this_names, .ref h_this_values, .int v_end])), (h_this_values, .inr (3, [.ref h_this_values_row, .ref h_this_values_starts, .ref h_this_values_lengths, .int v_values_size, .int v_values_openStart, .int v_values_openLength])), (h_this_values_row, .inl (cB, 300, .inl v_values_row)), (h_this_values_starts, .inl (cI, 100, .inl v_values_starts)), (h_this_values_lengths, .inl (cI, 100, .inl v_values_lengths)), (h_p1, .inr (2, [.ref h_p1_row, .int v_p1_size])), (h_p1_row, .inl (cB, 300, .inl v_p1_row))]) (w1 := [(h_this_names, .inr (3, [.ref h_this_names_row, .ref h_this_names_starts, .ref h_this_names_lengths, .int z11.1, .int z11.2.1, .int z11.2.2.1])), (h_this_names_row, .inl (cB, 300, .inl v_names_row)), (h_this_names_starts, .inl (cI, 100, .inl z11.2.2.2.1)), (h_this_names_lengths, .inl (cI, 100, .inl z11.2.2.2.2))]) (ws2 := [(h_this, .inr (1, [.ref h_this_names, .ref h_this_values, .int v_end])), (h_this_names, .inr (3, [.ref h_this_names_row, .ref h_this_names_starts, .ref h_this_names_lengths, .int z11.1, .int z11.2.1, .int z11.2.2.1])), (h_this_names_row, .inl (cB, 300, .inl v_names_row)), (h_this_names_starts, .inl (cI, 100, .inl z11.2.2.2.1)), (h_this_names_lengths, .inl (cI, 100, .inl z11.2.2.2.2)), (h_this_values, .inr (3, [.ref h_this_values_row, .ref h_this_values_starts, .ref h_this_values_lengths, .int v_values_size, .int v_values_openStart, .int v_values_openLength])), (h_this_values_row, .inl (cB, 300, .inl v_values_row)), (h_this_values_starts, .inl (cI, 100, .inl v_values_starts)), (h_this_values_lengths, .inl (cI, 100, .inl v_values_lengths)), (h_p1, .inr (2, [.ref h_p1_row, .int v_p1_size])), (h_p1_row, .inl (cB, 300, .inl v_p1_row))]) hP hD hS hA [1, 2, 3, 4] [0, 5, 6, 7, 8, 9, 10] [0, 7, 8, 9, 10, 1, 2, 3, 4, 5, 6] rfl (by decide) rfl (by decide) (by decide) rfl (by decide) (fun hPc hDc hFc => rn_VN (As := []) (rest := []) C hK (c_Te_closeOpen N h_this_names h_this_names_row h_this_names_starts h_this_names_lengths v_names_size v_names_openStart v_names_openLength v_names_row v_names_starts v_names_lengths z11 hc_11 _) ⟨rfl, rfl⟩ mn_180 ok_Te_closeOpen ⟨by decide, by decide⟩ rfl rfl rfl hl.1 rfl (Nat.le_of_ble_eq_true rfl) d_He_readField_71 ⟨by decide, by decide⟩ hS hPc hDc hFc) (fun H locs hP hD hS => ?_)
      refine lv_aload_n hx hb d_He_readField_74 rfl (lv_at hl 0 rfl) ?_
      refine lv_aload_n hx hb d_He_readField_75 rfl (lv_at hl 1 rfl) ?_
      refine lv_iload hx hb d_He_readField_76 (lv_at hl 3 rfl) ?_
      refine lv_iconst (v := 1) hx hb d_He_readField_78 (by decide) ?_
      refine lv_iadd hx hb d_He_readField_79 ?_
      obtain ⟨z12, hc_12, h⟩ := bs h
      refine go_i (wr := []) (w1 := [(h_this, .inr (1, [.ref h_this_names, .ref h_this_values, .int v_end])), (h_this_names, .inr (3, [.ref h_this_names_row, .ref h_this_names_starts, .ref h_this_names_lengths, .int z11.1, .int z11.2.1, .int z11.2.2.1])), (h_this_names_row, .inl (cB, 300, .inl v_names_row)), (h_this_names_starts, .inl (cI, 100, .inl z11.2.2.2.1)), (h_this_names_lengths, .inl (cI, 100, .inl z11.2.2.2.2)), (h_this_values, .inr (3, [.ref h_this_values_row, .ref h_this_values_starts, .ref h_this_values_lengths, .int v_values_size, .int v_values_openStart, .int z12.2.1])), (h_this_values_row, .inl (cB, 300, .inl z12.2.2)), (h_this_values_starts, .inl (cI, 100, .inl v_values_starts)), (h_this_values_lengths, .inl (cI, 100, .inl v_values_lengths)), (h_p1, .inr (2, [.ref h_p1_row, .int v_p1_size])), (h_p1_row, .inl (cB, 300, .inl v_p1_row))]) (ws2 := [(h_this, .inr (1, [.ref h_this_names, .ref h_this_values, .int v_end])), (h_this_names, .inr (3, [.ref h_this_names_row, .ref h_this_names_starts, .ref h_this_names_lengths, .int z11.1, .int z11.2.1, .int z11.2.2.1])), (h_this_names_row, .inl (cB, 300, .inl v_names_row)), (h_this_names_starts, .inl (cI, 100, .inl z11.2.2.2.1)), (h_this_names_lengths, .inl (cI, 100, .inl z11.2.2.2.2)), (h_this_values, .inr (3, [.ref h_this_values_row, .ref h_this_values_starts, .ref h_this_values_lengths, .int v_values_size, .int v_values_openStart, .int z12.2.1])), (h_this_values_row, .inl (cB, 300, .inl z12.2.2)), (h_this_values_starts, .inl (cI, 100, .inl v_values_starts)), (h_this_values_lengths, .inl (cI, 100, .inl v_values_lengths)), (h_p1, .inr (2, [.ref h_p1_row, .int v_p1_size])), (h_p1_row, .inl (cB, 300, .inl v_p1_row))]) hP hD hS hA [0, 1, 2, 3, 4, 5, 6, 7, 8, 9, 10] [] [0, 1, 2, 3, 4, 5, 6, 7, 8, 9, 10] rfl (by decide) rfl (by decide) (by decide) rfl (by decide) (fun hPc hDc hFc => rn_V (As := [.ref h_p1, .int (x4 + 1)]) (rest := []) C hK (c_He_readLine N h_this h_this_names h_this_names_row h_this_names_starts h_this_names_lengths h_this_values h_this_values_row h_this_values_starts h_this_values_lengths h_p1 h_p1_row v_end z11.1 z11.2.1 z11.2.2.1 v_names_row z11.2.2.2.1 z11.2.2.2.2 v_values_size v_values_openStart v_values_openLength v_values_row v_values_starts v_values_lengths v_p1_size v_p1_row (x4 + 1) z12 hc_12 _) ⟨rfl, rfl⟩ m_184 ok_He_readLine ⟨by decide, by decide⟩ rfl rfl rfl hl.1 rfl (Nat.le_of_ble_eq_true rfl) d_He_readField_80 ⟨by decide, by decide⟩ hS hPc hDc hFc) (fun H locs hP hD hS => ?_)
      refine lv_istore (lv' := [(5, .int z12.1), (0, .ref h_this), (1, .ref h_p1), (3, .int x3), (4, .int x4)]) hx hb d_He_readField_83 hl (by decide) rfl (fun ls hl => ?_)
      refine lv_iconst (v := 0) hx hb d_He_readField_85 (by decide) ?_
      refine lv_istore (lv' := [(6, .int 0), (5, .int z12.1), (0, .ref h_this), (1, .ref h_p1), (3, .int x3), (4, .int x4)]) hx hb d_He_readField_86 hl (by decide) rfl (fun ls hl => ?_)
      exact k_He_readField_88 C hK hA N h_this h_this_names h_this_names_row h_this_names_starts h_this_names_lengths h_this_values h_this_values_row h_this_values_starts h_this_values_lengths h_p1 h_p1_row v_end v_p1_size v_p1_row z N z12.1 0 z11.1 z11.2.1 z11.2.2.1 v_names_row z11.2.2.2.1 z11.2.2.2.2 v_values_size v_values_openStart z12.2.1 z12.2.2 v_values_starts v_values_lengths h _ _ hP hD hS _ (lv_sub hl [2, 3, 1, 0] rfl)
    · replace h := itF h c_10
      refine lv_aload_n hx hb d_He_readField_48 rfl (lv_at hl 0 rfl) ?_
      refine va_get (D := (dC, dI)) (ci := 1) (v := .ref h_this_names) (C := R_He) (T := F_He) (N := 3) hx hb hts in_He hown hK.1 hP 0 rfl rfl 0 (by decide) (hts _ m_73) (fun _ h9 => h9) rfl d_He_readField_49 ?_
      refine lv_aload_n hx hb d_He_readField_52 rfl (lv_at hl 1 rfl) ?_
      refine lv_iload hx hb d_He_readField_53 (lv_at hl 4 rfl) ?_
      obtain ⟨z13, hc_13, h⟩ := bs h
      refine go_i (wr := [(h_this, .inr (1, [.ref h_this_names, .ref h_this_values, .int v_end])), (h_this_names, .inr (3, [.ref h_this_names_row, .ref h_this_names_starts, .ref h_this_names_lengths, .int v_names_size, .int v_names_openStart, .int v_names_openLength])), (h_this_names_row, .inl (cB, 300, .inl v_names_row)), (h_this_names_starts, .inl (cI, 100, .inl v_names_starts)), (h_this_names_lengths, .inl (cI, 100, .inl v_names_lengths)), (h_this_values, .inr (3, [.ref h_this_values_row, .ref h_this_values_starts, .ref h_this_values_lengths, .int v_values_size, .int v_values_openStart, .int v_values_openLength])), (h_this_values_row, .inl (cB, 300, .inl v_values_row)), (h_this_values_starts, .inl (cI, 100, .inl v_values_starts)), (h_this_values_lengths, .inl (cI, 100, .inl v_values_lengths))]) (w1 := [(h_p1, .inr (2, [.ref h_p1_row, .int v_p1_size])), (h_p1_row, .inl (cB, 300, .inl v_p1_row))]) (ws2 := [(h_this, .inr (1, [.ref h_this_names, .ref h_this_values, .int v_end])), (h_this_names, .inr (3, [.ref h_this_names_row, .ref h_this_names_starts, .ref h_this_names_lengths, .int v_names_size, .int v_names_openStart, .int v_names_openLength])), (h_this_names_row, .inl (cB, 300, .inl v_names_row)), (h_this_names_starts, .inl (cI, 100, .inl v_names_starts)), (h_this_names_lengths, .inl (cI, 100, .inl v_names_lengths)), (h_this_values, .inr (3, [.ref h_this_values_row, .ref h_this_values_starts, .ref h_this_values_lengths, .int v_values_size, .int v_values_openStart, .int v_values_openLength])), (h_this_values_row, .inl (cB, 300, .inl v_values_row)), (h_this_values_starts, .inl (cI, 100, .inl v_values_starts)), (h_this_values_lengths, .inl (cI, 100, .inl v_values_lengths)), (h_p1, .inr (2, [.ref h_p1_row, .int v_p1_size])), (h_p1_row, .inl (cB, 300, .inl v_p1_row))]) hP hD hS hA [9, 10] [0, 1, 2, 3, 4, 5, 6, 7, 8] [0, 1, 2, 3, 4, 5, 6, 7, 8, 9, 10] rfl (by decide) rfl (by decide) (by decide) rfl (by decide) (fun hPc hDc hFc => rn_VN (As := [.int x5]) (rest := [.ref h_this_names]) C hK (c_Me_byteAt N h_p1 h_p1_row v_p1_size v_p1_row x5 z13 hc_13 _) ⟨rfl, rfl⟩ mn_175 ok_Me_byteAt ⟨by decide, by decide⟩ rfl rfl rfl hl.1 rfl (Nat.le_of_ble_eq_true rfl) d_He_readField_55 ⟨by decide, by decide⟩ hS hPc hDc hFc) (fun H locs hP hD hS => ?_)
      obtain ⟨z14, hc_14, h⟩ := bs h
      refine go_v (wr := [(h_this, .inr (1, [.ref h_this_names, .ref h_this_values, .int v_end])), (h_this_values, .inr (3, [.ref h_this_values_row, .ref h_this_values_starts, .ref h_this_values_lengths, .int v_values_size, .int v_values_openStart, .int v_values_openLength])), (h_this_values_row, .inl (cB, 300, .inl v_values_row)), (h_this_values_starts, .inl (cI, 100, .inl v_values_starts)), (h_this_values_lengths, .inl (cI, 100, .inl v_values_lengths)), (h_p1, .inr (2, [.ref h_p1_row, .int v_p1_size])), (h_p1_row, .inl (cB, 300, .inl v_p1_row))]) (w1 := [(h_this_names, .inr (3, [.ref h_this_names_row, .ref h_this_names_starts, .ref h_this_names_lengths, .int v_names_size, .int v_names_openStart, .int z14.1])), (h_this_names_row, .inl (cB, 300, .inl z14.2)), (h_this_names_starts, .inl (cI, 100, .inl v_names_starts)), (h_this_names_lengths, .inl (cI, 100, .inl v_names_lengths))]) (ws2 := [(h_this, .inr (1, [.ref h_this_names, .ref h_this_values, .int v_end])), (h_this_names, .inr (3, [.ref h_this_names_row, .ref h_this_names_starts, .ref h_this_names_lengths, .int v_names_size, .int v_names_openStart, .int z14.1])), (h_this_names_row, .inl (cB, 300, .inl z14.2)), (h_this_names_starts, .inl (cI, 100, .inl v_names_starts)), (h_this_names_lengths, .inl (cI, 100, .inl v_names_lengths)), (h_this_values, .inr (3, [.ref h_this_values_row, .ref h_this_values_starts, .ref h_this_values_lengths, .int v_values_size, .int v_values_openStart, .int v_values_openLength])), (h_this_values_row, .inl (cB, 300, .inl v_values_row)), (h_this_values_starts, .inl (cI, 100, .inl v_values_starts)), (h_this_values_lengths, .inl (cI, 100, .inl v_values_lengths)), (h_p1, .inr (2, [.ref h_p1_row, .int v_p1_size])), (h_p1_row, .inl (cB, 300, .inl v_p1_row))]) hP hD hS hA [1, 2, 3, 4] [0, 5, 6, 7, 8, 9, 10] [0, 7, 8, 9, 10, 1, 2, 3, 4, 5, 6] rfl (by decide) rfl (by decide) (by decide) rfl (by decide) (fun hPc hDc hFc => rn_VN (As := [.int z13]) (rest := []) C hK (c_Te_append N h_this_names h_this_names_row h_this_names_starts h_this_names_lengths v_names_size v_names_openStart v_names_openLength v_names_row v_names_starts v_names_lengths z13 z14 hc_14 _) ⟨rfl, rfl⟩ mn_176 ok_Te_append ⟨by decide, by decide⟩ rfl rfl rfl hl.1 rfl (Nat.le_of_ble_eq_true rfl) d_He_readField_58 ⟨by decide, by decide⟩ hS hPc hDc hFc) (fun H locs hP hD hS => ?_)
      refine lv_iinc (v := x5 + 1) (lv' := [(5, .int (x5 + 1)), (0, .ref h_this), (1, .ref h_p1), (3, .int x3), (4, .int x4)]) hx hb d_He_readField_61 hl (k := 4) rfl rfl (by decide) rfl (fun ls hl => ?_)
      refine lv_goto (tgt := 42) hx hb d_He_readField_64 (by decide) ?_
      exact ih x3 x4 (x5 + 1) v_names_size v_names_openStart z14.1 z14.2 v_names_starts v_names_lengths v_values_size v_values_openStart v_values_openLength v_values_row v_values_starts v_values_lengths h _ _ hP hD hS _ (lv_sub hl [1, 2, 3, 4, 0] rfl)
set_option maxHeartbeats 4000000 in
set_option maxRecDepth 100000 in
theorem c_He_readField {l : Launch} {dC : Nat → ClassId} {dI : Nat → Nat → Nat} {cB cI : ClassId} {aK aV : Nat → Nat} (N : Nat) (h_this h_this_names h_this_names_row h_this_names_starts h_this_names_lengths h_this_values h_this_values_row h_this_values_starts h_this_values_lengths h_p1 h_p1_row : Nat) (v_end : Int32) (v_names_size : Int32) (v_names_openStart : Int32) (v_names_openLength : Int32) (v_names_row : Nat → Int32) (v_names_starts : Nat → Int32) (v_names_lengths : Nat → Int32) (v_values_size : Int32) (v_values_openStart : Int32) (v_values_openLength : Int32) (v_values_row : Nat → Int32) (v_values_starts : Nat → Int32) (v_values_lengths : Nat → Int32) (v_p1_size : Int32) (v_p1_row : Nat → Int32) (x2 : Int32) (z : Int32 × Int32 × Int32 × Int32 × (Nat → Int32) × (Nat → Int32) × (Nat → Int32) × Int32 × Int32 × Int32 × (Nat → Int32) × (Nat → Int32) × (Nat → Int32)) (h : f_He_readField N x2 v_names_size v_names_openStart v_names_openLength v_names_row v_names_starts v_names_lengths v_values_size v_values_openStart v_values_openLength v_values_row v_values_starts v_values_lengths v_p1_size v_p1_row = some z) : Ci l y_He_readField prog_3_method_3_code 7 (some .int) ({ frames := 3, cells := 0, slots := 0, locals := 68 }) (dC, dI) cB cI aK aV [.ref h_this, .ref h_p1, .int x2] [(h_this, .inr (1, [.ref h_this_names, .ref h_this_values, .int v_end])), (h_this_names, .inr (3, [.ref h_this_names_row, .ref h_this_names_starts, .ref h_this_names_lengths, .int v_names_size, .int v_names_openStart, .int v_names_openLength])), (h_this_names_row, .inl (cB, 300, .inl v_names_row)), (h_this_names_starts, .inl (cI, 100, .inl v_names_starts)), (h_this_names_lengths, .inl (cI, 100, .inl v_names_lengths)), (h_this_values, .inr (3, [.ref h_this_values_row, .ref h_this_values_starts, .ref h_this_values_lengths, .int v_values_size, .int v_values_openStart, .int v_values_openLength])), (h_this_values_row, .inl (cB, 300, .inl v_values_row)), (h_this_values_starts, .inl (cI, 100, .inl v_values_starts)), (h_this_values_lengths, .inl (cI, 100, .inl v_values_lengths)), (h_p1, .inr (2, [.ref h_p1_row, .int v_p1_size])), (h_p1_row, .inl (cB, 300, .inl v_p1_row))] (fun A => (Qi (dC, dI) [(h_this, .inr (1, [.ref h_this_names, .ref h_this_values, .int v_end])), (h_this_names, .inr (3, [.ref h_this_names_row, .ref h_this_names_starts, .ref h_this_names_lengths, .int z.2.1, .int z.2.2.1, .int z.2.2.2.1])), (h_this_names_row, .inl (cB, 300, .inl z.2.2.2.2.1)), (h_this_names_starts, .inl (cI, 100, .inl z.2.2.2.2.2.1)), (h_this_names_lengths, .inl (cI, 100, .inl z.2.2.2.2.2.2.1)), (h_this_values, .inr (3, [.ref h_this_values_row, .ref h_this_values_starts, .ref h_this_values_lengths, .int z.2.2.2.2.2.2.2.1, .int z.2.2.2.2.2.2.2.2.1, .int z.2.2.2.2.2.2.2.2.2.1])), (h_this_values_row, .inl (cB, 300, .inl z.2.2.2.2.2.2.2.2.2.2.1)), (h_this_values_starts, .inl (cI, 100, .inl z.2.2.2.2.2.2.2.2.2.2.2.1)), (h_this_values_lengths, .inl (cI, 100, .inl z.2.2.2.2.2.2.2.2.2.2.2.2)), (h_p1, .inr (2, [.ref h_p1_row, .int v_p1_size])), (h_p1_row, .inl (cB, 300, .inl v_p1_row))] A z.1)) := by
  refine Ci_of (by decide) (Nat.le_of_ble_eq_true rfl) (fun p e s m below meth c A C hK hnm hA hP hD ls hl => ?_)
  obtain ⟨hx, hb, hr, hml, hown, hts, hlk⟩ := id C
  have hS : va_S A s.heap s.heap [] := va_S.rf
  have hl : lv_has ls 7 [(0, .ref h_this), (1, .ref h_p1), (2, .int x2)] := hl
  rw [f_He_readField] at h
  refine lv_aload_n hx hb d_He_readField_0 rfl (lv_at hl 1 rfl) ?_
  refine lv_iload_n hx hb d_He_readField_1 rfl (lv_at hl 2 rfl) ?_
  obtain ⟨z15, hc_15, h⟩ := bs h
  refine go_i (wr := [(h_this, .inr (1, [.ref h_this_names, .ref h_this_values, .int v_end])), (h_this_names, .inr (3, [.ref h_this_names_row, .ref h_this_names_starts, .ref h_this_names_lengths, .int v_names_size, .int v_names_openStart, .int v_names_openLength])), (h_this_names_row, .inl (cB, 300, .inl v_names_row)), (h_this_names_starts, .inl (cI, 100, .inl v_names_starts)), (h_this_names_lengths, .inl (cI, 100, .inl v_names_lengths)), (h_this_values, .inr (3, [.ref h_this_values_row, .ref h_this_values_starts, .ref h_this_values_lengths, .int v_values_size, .int v_values_openStart, .int v_values_openLength])), (h_this_values_row, .inl (cB, 300, .inl v_values_row)), (h_this_values_starts, .inl (cI, 100, .inl v_values_starts)), (h_this_values_lengths, .inl (cI, 100, .inl v_values_lengths))]) (w1 := [(h_p1, .inr (2, [.ref h_p1_row, .int v_p1_size])), (h_p1_row, .inl (cB, 300, .inl v_p1_row))]) (ws2 := [(h_this, .inr (1, [.ref h_this_names, .ref h_this_values, .int v_end])), (h_this_names, .inr (3, [.ref h_this_names_row, .ref h_this_names_starts, .ref h_this_names_lengths, .int v_names_size, .int v_names_openStart, .int v_names_openLength])), (h_this_names_row, .inl (cB, 300, .inl v_names_row)), (h_this_names_starts, .inl (cI, 100, .inl v_names_starts)), (h_this_names_lengths, .inl (cI, 100, .inl v_names_lengths)), (h_this_values, .inr (3, [.ref h_this_values_row, .ref h_this_values_starts, .ref h_this_values_lengths, .int v_values_size, .int v_values_openStart, .int v_values_openLength])), (h_this_values_row, .inl (cB, 300, .inl v_values_row)), (h_this_values_starts, .inl (cI, 100, .inl v_values_starts)), (h_this_values_lengths, .inl (cI, 100, .inl v_values_lengths)), (h_p1, .inr (2, [.ref h_p1_row, .int v_p1_size])), (h_p1_row, .inl (cB, 300, .inl v_p1_row))]) hP hD hS hA [9, 10] [0, 1, 2, 3, 4, 5, 6, 7, 8] [0, 1, 2, 3, 4, 5, 6, 7, 8, 9, 10] rfl (by decide) rfl (by decide) (by decide) rfl (by decide) (fun hPc hDc hFc => rn_VN (As := [.int x2]) (rest := []) C hK (c_Me_endOfName N h_p1 h_p1_row v_p1_size v_p1_row x2 z15 hc_15 _) ⟨rfl, rfl⟩ mn_157 ok_Me_endOfName ⟨by decide, by decide⟩ rfl rfl rfl hl.1 rfl (Nat.le_of_ble_eq_true rfl) d_He_readField_2 ⟨by decide, by decide⟩ hS hPc hDc hFc) (fun H locs hP hD hS => ?_)
  refine lv_istore_n (lv' := [(3, .int z15), (0, .ref h_this), (1, .ref h_p1), (2, .int x2)]) hx hb d_He_readField_5 rfl hl (by decide) rfl (fun ls hl => ?_)
  refine lv_aload_n hx hb d_He_readField_6 rfl (lv_at hl 2 rfl) ?_
  refine lv_iload_n hx hb d_He_readField_7 rfl (lv_at hl 0 rfl) ?_
  obtain ⟨z16, hc_16, h⟩ := bs h
  refine go_i (wr := [(h_this, .inr (1, [.ref h_this_names, .ref h_this_values, .int v_end])), (h_this_names, .inr (3, [.ref h_this_names_row, .ref h_this_names_starts, .ref h_this_names_lengths, .int v_names_size, .int v_names_openStart, .int v_names_openLength])), (h_this_names_row, .inl (cB, 300, .inl v_names_row)), (h_this_names_starts, .inl (cI, 100, .inl v_names_starts)), (h_this_names_lengths, .inl (cI, 100, .inl v_names_lengths)), (h_this_values, .inr (3, [.ref h_this_values_row, .ref h_this_values_starts, .ref h_this_values_lengths, .int v_values_size, .int v_values_openStart, .int v_values_openLength])), (h_this_values_row, .inl (cB, 300, .inl v_values_row)), (h_this_values_starts, .inl (cI, 100, .inl v_values_starts)), (h_this_values_lengths, .inl (cI, 100, .inl v_values_lengths))]) (w1 := [(h_p1, .inr (2, [.ref h_p1_row, .int v_p1_size])), (h_p1_row, .inl (cB, 300, .inl v_p1_row))]) (ws2 := [(h_this, .inr (1, [.ref h_this_names, .ref h_this_values, .int v_end])), (h_this_names, .inr (3, [.ref h_this_names_row, .ref h_this_names_starts, .ref h_this_names_lengths, .int v_names_size, .int v_names_openStart, .int v_names_openLength])), (h_this_names_row, .inl (cB, 300, .inl v_names_row)), (h_this_names_starts, .inl (cI, 100, .inl v_names_starts)), (h_this_names_lengths, .inl (cI, 100, .inl v_names_lengths)), (h_this_values, .inr (3, [.ref h_this_values_row, .ref h_this_values_starts, .ref h_this_values_lengths, .int v_values_size, .int v_values_openStart, .int v_values_openLength])), (h_this_values_row, .inl (cB, 300, .inl v_values_row)), (h_this_values_starts, .inl (cI, 100, .inl v_values_starts)), (h_this_values_lengths, .inl (cI, 100, .inl v_values_lengths)), (h_p1, .inr (2, [.ref h_p1_row, .int v_p1_size])), (h_p1_row, .inl (cB, 300, .inl v_p1_row))]) hP hD hS hA [9, 10] [0, 1, 2, 3, 4, 5, 6, 7, 8] [0, 1, 2, 3, 4, 5, 6, 7, 8, 9, 10] rfl (by decide) rfl (by decide) (by decide) rfl (by decide) (fun hPc hDc hFc => rn_VN (As := [.int z15]) (rest := []) C hK (c_Me_endOfBlanks N h_p1 h_p1_row v_p1_size v_p1_row z15 z16 hc_16 _) ⟨rfl, rfl⟩ mn_168 ok_Me_endOfBlanks ⟨by decide, by decide⟩ rfl rfl rfl hl.1 rfl (Nat.le_of_ble_eq_true rfl) d_He_readField_8 ⟨by decide, by decide⟩ hS hPc hDc hFc) (fun H locs hP hD hS => ?_)
  refine lv_istore (lv' := [(4, .int z16), (3, .int z15), (0, .ref h_this), (1, .ref h_p1), (2, .int x2)]) hx hb d_He_readField_11 hl (by decide) rfl (fun ls hl => ?_)
  refine lv_iload_n hx hb d_He_readField_13 rfl (lv_at hl 1 rfl) ?_
  refine lv_iload_n hx hb d_He_readField_14 rfl (lv_at hl 4 rfl) ?_
  refine lv_icmp_eq (tgt := 37) hx hb d_He_readField_15 (by decide) (fun c_17 => ?_) (fun c_17 => ?_)
  · replace h := itT h c_17
    refine lv_iconst (v := (-1)) hx hb d_He_readField_37 (by decide) ?_
    obtain rfl := Option.some.inj h
    exact W.iret (v := (-1)) hx hb hr (fun t ht hW => ⟨⟨(-1), (), rfl, rfl, by rw [ht]; exact hP, hD⟩, hS.F ht⟩) hS.2.2 d_He_readField_38 hlk
  · replace h := itF h c_17
    refine lv_iload_n hx hb d_He_readField_18 rfl (lv_at hl 1 rfl) ?_
    refine lv_iload_n hx hb d_He_readField_19 rfl (lv_at hl 4 rfl) ?_
    refine lv_isub hx hb d_He_readField_20 ?_
    refine lv_bipush (v := 60) hx hb d_He_readField_21 (by decide) ?_
    refine lv_icmp_gt (tgt := 37) hx hb d_He_readField_23 (by decide) (fun c_18 => ?_) (fun c_18 => ?_)
    · replace h := itT h c_18
      refine lv_iconst (v := (-1)) hx hb d_He_readField_37 (by decide) ?_
      obtain rfl := Option.some.inj h
      exact W.iret (v := (-1)) hx hb hr (fun t ht hW => ⟨⟨(-1), (), rfl, rfl, by rw [ht]; exact hP, hD⟩, hS.F ht⟩) hS.2.2 d_He_readField_38 hlk
    · replace h := itF h c_18
      refine lv_aload_n hx hb d_He_readField_26 rfl (lv_at hl 3 rfl) ?_
      refine lv_iload hx hb d_He_readField_27 (lv_at hl 0 rfl) ?_
      obtain ⟨z19, hc_19, h⟩ := bs h
      refine go_i (wr := [(h_this, .inr (1, [.ref h_this_names, .ref h_this_values, .int v_end])), (h_this_names, .inr (3, [.ref h_this_names_row, .ref h_this_names_starts, .ref h_this_names_lengths, .int v_names_size, .int v_names_openStart, .int v_names_openLength])), (h_this_names_row, .inl (cB, 300, .inl v_names_row)), (h_this_names_starts, .inl (cI, 100, .inl v_names_starts)), (h_this_names_lengths, .inl (cI, 100, .inl v_names_lengths)), (h_this_values, .inr (3, [.ref h_this_values_row, .ref h_this_values_starts, .ref h_this_values_lengths, .int v_values_size, .int v_values_openStart, .int v_values_openLength])), (h_this_values_row, .inl (cB, 300, .inl v_values_row)), (h_this_values_starts, .inl (cI, 100, .inl v_values_starts)), (h_this_values_lengths, .inl (cI, 100, .inl v_values_lengths))]) (w1 := [(h_p1, .inr (2, [.ref h_p1_row, .int v_p1_size])), (h_p1_row, .inl (cB, 300, .inl v_p1_row))]) (ws2 := [(h_this, .inr (1, [.ref h_this_names, .ref h_this_values, .int v_end])), (h_this_names, .inr (3, [.ref h_this_names_row, .ref h_this_names_starts, .ref h_this_names_lengths, .int v_names_size, .int v_names_openStart, .int v_names_openLength])), (h_this_names_row, .inl (cB, 300, .inl v_names_row)), (h_this_names_starts, .inl (cI, 100, .inl v_names_starts)), (h_this_names_lengths, .inl (cI, 100, .inl v_names_lengths)), (h_this_values, .inr (3, [.ref h_this_values_row, .ref h_this_values_starts, .ref h_this_values_lengths, .int v_values_size, .int v_values_openStart, .int v_values_openLength])), (h_this_values_row, .inl (cB, 300, .inl v_values_row)), (h_this_values_starts, .inl (cI, 100, .inl v_values_starts)), (h_this_values_lengths, .inl (cI, 100, .inl v_values_lengths)), (h_p1, .inr (2, [.ref h_p1_row, .int v_p1_size])), (h_p1_row, .inl (cB, 300, .inl v_p1_row))]) hP hD hS hA [9, 10] [0, 1, 2, 3, 4, 5, 6, 7, 8] [0, 1, 2, 3, 4, 5, 6, 7, 8, 9, 10] rfl (by decide) rfl (by decide) (by decide) rfl (by decide) (fun hPc hDc hFc => rn_VN (As := [.int z16]) (rest := []) C hK (c_Me_byteAt N h_p1 h_p1_row v_p1_size v_p1_row z16 z19 hc_19 _) ⟨rfl, rfl⟩ mn_175 ok_Me_byteAt ⟨by decide, by decide⟩ rfl rfl rfl hl.1 rfl (Nat.le_of_ble_eq_true rfl) d_He_readField_29 ⟨by decide, by decide⟩ hS hPc hDc hFc) (fun H locs hP hD hS => ?_)
      refine lv_bipush (v := 58) hx hb d_He_readField_32 (by decide) ?_
      refine lv_icmp_eq (tgt := 39) hx hb d_He_readField_34 (by decide) (fun c_20 => ?_) (fun c_20 => ?_)
      · replace h := itT h c_20
        refine lv_iload_n hx hb d_He_readField_39 rfl (lv_at hl 4 rfl) ?_
        refine lv_istore (lv' := [(5, .int x2), (4, .int z16), (3, .int z15), (0, .ref h_this), (1, .ref h_p1), (2, .int x2)]) hx hb d_He_readField_40 hl (by decide) rfl (fun ls hl => ?_)
        exact k_He_readField_42 C hK hA N h_this h_this_names h_this_names_row h_this_names_starts h_this_names_lengths h_this_values h_this_values_row h_this_values_starts h_this_values_lengths h_p1 h_p1_row v_end v_p1_size v_p1_row z N z15 z16 x2 v_names_size v_names_openStart v_names_openLength v_names_row v_names_starts v_names_lengths v_values_size v_values_openStart v_values_openLength v_values_row v_values_starts v_values_lengths h _ _ hP hD hS _ (lv_sub hl [3, 4, 2, 1, 0] rfl)
      · replace h := itF h c_20
        refine lv_iconst (v := (-1)) hx hb d_He_readField_37 (by decide) ?_
        obtain rfl := Option.some.inj h
        exact W.iret (v := (-1)) hx hb hr (fun t ht hW => ⟨⟨(-1), (), rfl, rfl, by rw [ht]; exact hP, hD⟩, hS.F ht⟩) hS.2.2 d_He_readField_38 hlk
set_option maxHeartbeats 4000000 in
set_option maxRecDepth 100000 in
theorem k_He_readFrom_21 {p : Program} {l : Launch} {e : Env} {s : State} {m : MethodId} {args : Array Value} {below : List Frame} {meth : Method} {c : Code} {dC : Nat → ClassId} {dI : Nat → Nat → Nat} {cB cI : ClassId} {aK aV : Nat → Nat} {A : Nat → Prop} (C : cx p s m args meth c R_He prog_3_method_2_code 4 none) (hK : kx (dC, dI) cB cI aK aV A s) (hA : ∀ q : Nat, s.heap.size ≤ q → A q) (N : Nat) (h_this h_this_names h_this_names_row h_this_names_starts h_this_names_lengths h_this_values h_this_values_row h_this_values_starts h_this_values_lengths h_p1 h_p1_row : Nat) (v_p1_size : Int32) (v_p1_row : Nat → Int32) (z : Int32 × Int32 × Int32 × Int32 × (Nat → Int32) × (Nat → Int32) × (Nat → Int32) × Int32 × Int32 × Int32 × (Nat → Int32) × (Nat → Int32) × (Nat → Int32)) :
    ∀ (n : Nat), ∀ (x2 : Int32) (v_end : Int32) (v_names_size : Int32) (v_names_openStart : Int32) (v_names_openLength : Int32) (v_names_row : Nat → Int32) (v_names_starts : Nat → Int32) (v_names_lengths : Nat → Int32) (v_values_size : Int32) (v_values_openStart : Int32) (v_values_openLength : Int32) (v_values_row : Nat → Int32) (v_values_starts : Nat → Int32) (v_values_lengths : Nat → Int32), f_He_readFrom_21 N v_p1_size v_p1_row n x2 v_end v_names_size v_names_openStart v_names_openLength v_names_row v_names_starts v_names_lengths v_values_size v_values_openStart v_values_openLength v_values_row v_values_starts v_values_lengths = some z → ∀ (H : Heap) (locs : List Loc), va_P (dC, dI) classes [(h_this, .inr (1, [.ref h_this_names, .ref h_this_values, .int v_end])), (h_this_names, .inr (3, [.ref h_this_names_row, .ref h_this_names_starts, .ref h_this_names_lengths, .int v_names_size, .int v_names_openStart, .int v_names_openLength])), (h_this_names_row, .inl (cB, 300, .inl v_names_row)), (h_this_names_starts, .inl (cI, 100, .inl v_names_starts)), (h_this_names_lengths, .inl (cI, 100, .inl v_names_lengths)), (h_this_values, .inr (3, [.ref h_this_values_row, .ref h_this_values_starts, .ref h_this_values_lengths, .int v_values_size, .int v_values_openStart, .int v_values_openLength])), (h_this_values_row, .inl (cB, 300, .inl v_values_row)), (h_this_values_starts, .inl (cI, 100, .inl v_values_starts)), (h_this_values_lengths, .inl (cI, 100, .inl v_values_lengths)), (h_p1, .inr (2, [.ref h_p1_row, .int v_p1_size])), (h_p1_row, .inl (cB, 300, .inl v_p1_row))] H → va_D A [(h_this, .inr (1, [.ref h_this_names, .ref h_this_values, .int v_end])), (h_this_names, .inr (3, [.ref h_this_names_row, .ref h_this_names_starts, .ref h_this_names_lengths, .int v_names_size, .int v_names_openStart, .int v_names_openLength])), (h_this_names_row, .inl (cB, 300, .inl v_names_row)), (h_this_names_starts, .inl (cI, 100, .inl v_names_starts)), (h_this_names_lengths, .inl (cI, 100, .inl v_names_lengths)), (h_this_values, .inr (3, [.ref h_this_values_row, .ref h_this_values_starts, .ref h_this_values_lengths, .int v_values_size, .int v_values_openStart, .int v_values_openLength])), (h_this_values_row, .inl (cB, 300, .inl v_values_row)), (h_this_values_starts, .inl (cI, 100, .inl v_values_starts)), (h_this_values_lengths, .inl (cI, 100, .inl v_values_lengths)), (h_p1, .inr (2, [.ref h_p1_row, .int v_p1_size])), (h_p1_row, .inl (cB, 300, .inl v_p1_row))] → va_S A s.heap H locs → ∀ ls : Array Slot, lv_has ls 4 [(0, .ref h_this), (1, .ref h_p1), (2, .int x2)] → W p l e ({ frames := 4, cells := 0, slots := 0, locals := 94 }) s m args below meth c H locs 0 0 (MQ below (Qv (dC, dI) [(h_this, .inr (1, [.ref h_this_names, .ref h_this_values, .int z.1])), (h_this_names, .inr (3, [.ref h_this_names_row, .ref h_this_names_starts, .ref h_this_names_lengths, .int z.2.1, .int z.2.2.1, .int z.2.2.2.1])), (h_this_names_row, .inl (cB, 300, .inl z.2.2.2.2.1)), (h_this_names_starts, .inl (cI, 100, .inl z.2.2.2.2.2.1)), (h_this_names_lengths, .inl (cI, 100, .inl z.2.2.2.2.2.2.1)), (h_this_values, .inr (3, [.ref h_this_values_row, .ref h_this_values_starts, .ref h_this_values_lengths, .int z.2.2.2.2.2.2.2.1, .int z.2.2.2.2.2.2.2.2.1, .int z.2.2.2.2.2.2.2.2.2.1])), (h_this_values_row, .inl (cB, 300, .inl z.2.2.2.2.2.2.2.2.2.2.1)), (h_this_values_starts, .inl (cI, 100, .inl z.2.2.2.2.2.2.2.2.2.2.2.1)), (h_this_values_lengths, .inl (cI, 100, .inl z.2.2.2.2.2.2.2.2.2.2.2.2)), (h_p1, .inr (2, [.ref h_p1_row, .int v_p1_size])), (h_p1_row, .inl (cB, 300, .inl v_p1_row))] A) args s 0 0 A) (F0 m 21 ls []) := by
  obtain ⟨hx, hb, hr, hml, hown, hts, hlk⟩ := id C
  intro n
  induction n with
  | zero =>
    intro x2 v_end v_names_size v_names_openStart v_names_openLength v_names_row v_names_starts v_names_lengths v_values_size v_values_openStart v_values_openLength v_values_row v_values_starts v_values_lengths h
    rw [f_He_readFrom_21] at h
    cases h
  | succ n ih =>
    intro x2 v_end v_names_size v_names_openStart v_names_openLength v_names_row v_names_starts v_names_lengths v_values_size v_values_openStart v_values_openLength v_values_row v_values_starts v_values_lengths h H locs hP hD hS ls hl
    rw [f_He_readFrom_21] at h
    refine lv_iload_n hx hb d_He_readFrom_21 rfl (lv_at hl 2 rfl) ?_
    refine lv_bipush (v := 100) hx hb d_He_readFrom_22 (by decide) ?_
    refine lv_icmp_ge (tgt := 54) hx hb d_He_readFrom_24 (by decide) (fun c_1 => ?_) (fun c_1 => ?_)
    · replace h := itT h c_1
      obtain rfl := Option.some.inj h
      exact W.vret hx hb hr (fun t ht hW => ⟨⟨(), rfl, trivial, by rw [ht]; exact hP, hD⟩, hS.F ht⟩) hS.2.2 d_He_readFrom_54 hlk
    · replace h := itF h c_1
      refine lv_aload_n hx hb d_He_readFrom_27 rfl (lv_at hl 0 rfl) ?_
      refine lv_aload_n hx hb d_He_readFrom_28 rfl (lv_at hl 1 rfl) ?_
      refine lv_aload_n hx hb d_He_readFrom_29 rfl (lv_at hl 0 rfl) ?_
      refine va_get (D := (dC, dI)) (ci := 1) (v := .int v_end) (C := R_He) (T := F_He) (N := 3) hx hb hts in_He hown hK.1 hP 0 rfl rfl 2 (by decide) (hts _ m_77) (fun _ h9 => h9) rfl d_He_readFrom_30 ?_
      obtain ⟨z2, hc_2, h⟩ := bs h
      refine go_i (wr := []) (w1 := [(h_this, .inr (1, [.ref h_this_names, .ref h_this_values, .int v_end])), (h_this_names, .inr (3, [.ref h_this_names_row, .ref h_this_names_starts, .ref h_this_names_lengths, .int z2.2.1, .int z2.2.2.1, .int z2.2.2.2.1])), (h_this_names_row, .inl (cB, 300, .inl z2.2.2.2.2.1)), (h_this_names_starts, .inl (cI, 100, .inl z2.2.2.2.2.2.1)), (h_this_names_lengths, .inl (cI, 100, .inl z2.2.2.2.2.2.2.1)), (h_this_values, .inr (3, [.ref h_this_values_row, .ref h_this_values_starts, .ref h_this_values_lengths, .int z2.2.2.2.2.2.2.2.1, .int z2.2.2.2.2.2.2.2.2.1, .int z2.2.2.2.2.2.2.2.2.2.1])), (h_this_values_row, .inl (cB, 300, .inl z2.2.2.2.2.2.2.2.2.2.2.1)), (h_this_values_starts, .inl (cI, 100, .inl z2.2.2.2.2.2.2.2.2.2.2.2.1)), (h_this_values_lengths, .inl (cI, 100, .inl z2.2.2.2.2.2.2.2.2.2.2.2.2)), (h_p1, .inr (2, [.ref h_p1_row, .int v_p1_size])), (h_p1_row, .inl (cB, 300, .inl v_p1_row))]) (ws2 := [(h_this, .inr (1, [.ref h_this_names, .ref h_this_values, .int v_end])), (h_this_names, .inr (3, [.ref h_this_names_row, .ref h_this_names_starts, .ref h_this_names_lengths, .int z2.2.1, .int z2.2.2.1, .int z2.2.2.2.1])), (h_this_names_row, .inl (cB, 300, .inl z2.2.2.2.2.1)), (h_this_names_starts, .inl (cI, 100, .inl z2.2.2.2.2.2.1)), (h_this_names_lengths, .inl (cI, 100, .inl z2.2.2.2.2.2.2.1)), (h_this_values, .inr (3, [.ref h_this_values_row, .ref h_this_values_starts, .ref h_this_values_lengths, .int z2.2.2.2.2.2.2.2.1, .int z2.2.2.2.2.2.2.2.2.1, .int z2.2.2.2.2.2.2.2.2.2.1])), (h_this_values_row, .inl (cB, 300, .inl z2.2.2.2.2.2.2.2.2.2.2.1)), (h_this_values_starts, .inl (cI, 100, .inl z2.2.2.2.2.2.2.2.2.2.2.2.1)), (h_this_values_lengths, .inl (cI, 100, .inl z2.2.2.2.2.2.2.2.2.2.2.2.2)), (h_p1, .inr (2, [.ref h_p1_row, .int v_p1_size])), (h_p1_row, .inl (cB, 300, .inl v_p1_row))]) hP hD hS hA [0, 1, 2, 3, 4, 5, 6, 7, 8, 9, 10] [] [0, 1, 2, 3, 4, 5, 6, 7, 8, 9, 10] rfl (by decide) rfl (by decide) (by decide) rfl (by decide) (fun hPc hDc hFc => rn_V (As := [.ref h_p1, .int v_end]) (rest := []) C hK (c_He_readField N h_this h_this_names h_this_names_row h_this_names_starts h_this_names_lengths h_this_values h_this_values_row h_this_values_starts h_this_values_lengths h_p1 h_p1_row v_end v_names_size v_names_openStart v_names_openLength v_names_row v_names_starts v_names_lengths v_values_size v_values_openStart v_values_openLength v_values_row v_values_starts v_values_lengths v_p1_size v_p1_row v_end z2 hc_2 _) ⟨rfl, rfl⟩ m_153 ok_He_readField ⟨by decide, by decide⟩ rfl rfl rfl hl.1 rfl (Nat.le_of_ble_eq_true rfl) d_He_readFrom_33 ⟨by decide, by decide⟩ hS hPc hDc hFc) (fun H locs hP hD hS => ?_)
      refine lv_istore_n (lv' := [(3, .int z2.1), (0, .ref h_this), (1, .ref h_p1), (2, .int x2)]) hx hb d_He_readFrom_36 rfl hl (by decide) rfl (fun ls hl => ?_)
      refine lv_iload_n hx hb d_He_readFrom_37 rfl (lv_at hl 0 rfl) ?_
      refine lv_iconst (v := (-1)) hx hb d_He_readFrom_38 (by decide) ?_
      refine lv_icmp_ne (tgt := 43) hx hb d_He_readFrom_39 (by decide) (fun c_3 => ?_) (fun c_3 => ?_)
      · replace h := itF h c_3
        refine lv_aload_n hx hb d_He_readFrom_43 rfl (lv_at hl 1 rfl) ?_
        refine lv_iload_n hx hb d_He_readFrom_44 rfl (lv_at hl 0 rfl) ?_
        refine va_put (D := (dC, dI)) (ci := 1) (v := .int z2.1) (ty := .int) (C := R_He) (T := F_He) (N := 3) hx hb hts in_He t_He t_He_ok n_He hown hK.1 hP hD hS 0 rfl rfl 2 (by decide) (hts _ m_77) (fun _ h9 => h9) rfl (by decide +kernel) rfl rfl (Nat.le_of_ble_eq_true rfl) d_He_readFrom_45 (fun H locs hP hD hS => ?_)
        have hP : va_P (dC, dI) classes [(h_this, .inr (1, [.ref h_this_names, .ref h_this_values, .int z2.1])), (h_this_names, .inr (3, [.ref h_this_names_row, .ref h_this_names_starts, .ref h_this_names_lengths, .int z2.2.1, .int z2.2.2.1, .int z2.2.2.2.1])), (h_this_names_row, .inl (cB, 300, .inl z2.2.2.2.2.1)), (h_this_names_starts, .inl (cI, 100, .inl z2.2.2.2.2.2.1)), (h_this_names_lengths, .inl (cI, 100, .inl z2.2.2.2.2.2.2.1)), (h_this_values, .inr (3, [.ref h_this_values_row, .ref h_this_values_starts, .ref h_this_values_lengths, .int z2.2.2.2.2.2.2.2.1, .int z2.2.2.2.2.2.2.2.2.1, .int z2.2.2.2.2.2.2.2.2.2.1])), (h_this_values_row, .inl (cB, 300, .inl z2.2.2.2.2.2.2.2.2.2.2.1)), (h_this_values_starts, .inl (cI, 100, .inl z2.2.2.2.2.2.2.2.2.2.2.2.1)), (h_this_values_lengths, .inl (cI, 100, .inl z2.2.2.2.2.2.2.2.2.2.2.2.2)), (h_p1, .inr (2, [.ref h_p1_row, .int v_p1_size])), (h_p1_row, .inl (cB, 300, .inl v_p1_row))] H := hP
        have hD : va_D A [(h_this, .inr (1, [.ref h_this_names, .ref h_this_values, .int z2.1])), (h_this_names, .inr (3, [.ref h_this_names_row, .ref h_this_names_starts, .ref h_this_names_lengths, .int z2.2.1, .int z2.2.2.1, .int z2.2.2.2.1])), (h_this_names_row, .inl (cB, 300, .inl z2.2.2.2.2.1)), (h_this_names_starts, .inl (cI, 100, .inl z2.2.2.2.2.2.1)), (h_this_names_lengths, .inl (cI, 100, .inl z2.2.2.2.2.2.2.1)), (h_this_values, .inr (3, [.ref h_this_values_row, .ref h_this_values_starts, .ref h_this_values_lengths, .int z2.2.2.2.2.2.2.2.1, .int z2.2.2.2.2.2.2.2.2.1, .int z2.2.2.2.2.2.2.2.2.2.1])), (h_this_values_row, .inl (cB, 300, .inl z2.2.2.2.2.2.2.2.2.2.2.1)), (h_this_values_starts, .inl (cI, 100, .inl z2.2.2.2.2.2.2.2.2.2.2.2.1)), (h_this_values_lengths, .inl (cI, 100, .inl z2.2.2.2.2.2.2.2.2.2.2.2.2)), (h_p1, .inr (2, [.ref h_p1_row, .int v_p1_size])), (h_p1_row, .inl (cB, 300, .inl v_p1_row))] := hD
        refine lv_iinc (v := x2 + 1) (lv' := [(2, .int (x2 + 1)), (3, .int z2.1), (0, .ref h_this), (1, .ref h_p1)]) hx hb d_He_readFrom_48 hl (k := 3) rfl rfl (by decide) rfl (fun ls hl => ?_)
        refine lv_goto (tgt := 21) hx hb d_He_readFrom_51 (by decide) ?_
        exact ih (x2 + 1) z2.1 z2.2.1 z2.2.2.1 z2.2.2.2.1 z2.2.2.2.2.1 z2.2.2.2.2.2.1 z2.2.2.2.2.2.2.1 z2.2.2.2.2.2.2.2.1 z2.2.2.2.2.2.2.2.2.1 z2.2.2.2.2.2.2.2.2.2.1 z2.2.2.2.2.2.2.2.2.2.2.1 z2.2.2.2.2.2.2.2.2.2.2.2.1 z2.2.2.2.2.2.2.2.2.2.2.2.2 h _ _ hP hD hS _ (lv_sub hl [2, 3, 0] rfl)
      · replace h := itT h c_3
        obtain rfl := Option.some.inj h
        exact W.vret hx hb hr (fun t ht hW => ⟨⟨(), rfl, trivial, by rw [ht]; exact hP, hD⟩, hS.F ht⟩) hS.2.2 d_He_readFrom_42 hlk
set_option maxHeartbeats 4000000 in
set_option maxRecDepth 100000 in
theorem c_He_readFrom {l : Launch} {dC : Nat → ClassId} {dI : Nat → Nat → Nat} {cB cI : ClassId} {aK aV : Nat → Nat} (N : Nat) (h_this h_this_names h_this_names_row h_this_names_starts h_this_names_lengths h_this_values h_this_values_row h_this_values_starts h_this_values_lengths h_p1 h_p1_row : Nat) (v_end : Int32) (v_names_size : Int32) (v_names_openStart : Int32) (v_names_openLength : Int32) (v_names_row : Nat → Int32) (v_names_starts : Nat → Int32) (v_names_lengths : Nat → Int32) (v_values_size : Int32) (v_values_openStart : Int32) (v_values_openLength : Int32) (v_values_row : Nat → Int32) (v_values_starts : Nat → Int32) (v_values_lengths : Nat → Int32) (v_p1_size : Int32) (v_p1_row : Nat → Int32) (z : Int32 × Int32 × Int32 × Int32 × (Nat → Int32) × (Nat → Int32) × (Nat → Int32) × Int32 × Int32 × Int32 × (Nat → Int32) × (Nat → Int32) × (Nat → Int32)) (h : f_He_readFrom N v_end v_names_size v_names_openStart v_names_openLength v_names_row v_names_starts v_names_lengths v_values_size v_values_openStart v_values_openLength v_values_row v_values_starts v_values_lengths v_p1_size v_p1_row = some z) : Ci l y_He_readFrom prog_3_method_2_code 4 none ({ frames := 4, cells := 0, slots := 0, locals := 94 }) (dC, dI) cB cI aK aV [.ref h_this, .ref h_p1] [(h_this, .inr (1, [.ref h_this_names, .ref h_this_values, .int v_end])), (h_this_names, .inr (3, [.ref h_this_names_row, .ref h_this_names_starts, .ref h_this_names_lengths, .int v_names_size, .int v_names_openStart, .int v_names_openLength])), (h_this_names_row, .inl (cB, 300, .inl v_names_row)), (h_this_names_starts, .inl (cI, 100, .inl v_names_starts)), (h_this_names_lengths, .inl (cI, 100, .inl v_names_lengths)), (h_this_values, .inr (3, [.ref h_this_values_row, .ref h_this_values_starts, .ref h_this_values_lengths, .int v_values_size, .int v_values_openStart, .int v_values_openLength])), (h_this_values_row, .inl (cB, 300, .inl v_values_row)), (h_this_values_starts, .inl (cI, 100, .inl v_values_starts)), (h_this_values_lengths, .inl (cI, 100, .inl v_values_lengths)), (h_p1, .inr (2, [.ref h_p1_row, .int v_p1_size])), (h_p1_row, .inl (cB, 300, .inl v_p1_row))] (fun A => (Qv (dC, dI) [(h_this, .inr (1, [.ref h_this_names, .ref h_this_values, .int z.1])), (h_this_names, .inr (3, [.ref h_this_names_row, .ref h_this_names_starts, .ref h_this_names_lengths, .int z.2.1, .int z.2.2.1, .int z.2.2.2.1])), (h_this_names_row, .inl (cB, 300, .inl z.2.2.2.2.1)), (h_this_names_starts, .inl (cI, 100, .inl z.2.2.2.2.2.1)), (h_this_names_lengths, .inl (cI, 100, .inl z.2.2.2.2.2.2.1)), (h_this_values, .inr (3, [.ref h_this_values_row, .ref h_this_values_starts, .ref h_this_values_lengths, .int z.2.2.2.2.2.2.2.1, .int z.2.2.2.2.2.2.2.2.1, .int z.2.2.2.2.2.2.2.2.2.1])), (h_this_values_row, .inl (cB, 300, .inl z.2.2.2.2.2.2.2.2.2.2.1)), (h_this_values_starts, .inl (cI, 100, .inl z.2.2.2.2.2.2.2.2.2.2.2.1)), (h_this_values_lengths, .inl (cI, 100, .inl z.2.2.2.2.2.2.2.2.2.2.2.2)), (h_p1, .inr (2, [.ref h_p1_row, .int v_p1_size])), (h_p1_row, .inl (cB, 300, .inl v_p1_row))] A)) := by
  refine Ci_of (by decide) (Nat.le_of_ble_eq_true rfl) (fun p e s m below meth c A C hK hnm hA hP hD ls hl => ?_)
  obtain ⟨hx, hb, hr, hml, hown, hts, hlk⟩ := id C
  have hS : va_S A s.heap s.heap [] := va_S.rf
  have hl : lv_has ls 4 [(0, .ref h_this), (1, .ref h_p1)] := hl
  rw [f_He_readFrom] at h
  refine lv_aload_n hx hb d_He_readFrom_0 rfl (lv_at hl 0 rfl) ?_
  refine va_get (D := (dC, dI)) (ci := 1) (v := .ref h_this_names) (C := R_He) (T := F_He) (N := 3) hx hb hts in_He hown hK.1 hP 0 rfl rfl 0 (by decide) (hts _ m_73) (fun _ h9 => h9) rfl d_He_readFrom_1 ?_
  obtain ⟨z4, hc_4, h⟩ := bs h
  refine go_v (wr := [(h_this, .inr (1, [.ref h_this_names, .ref h_this_values, .int v_end])), (h_this_values, .inr (3, [.ref h_this_values_row, .ref h_this_values_starts, .ref h_this_values_lengths, .int v_values_size, .int v_values_openStart, .int v_values_openLength])), (h_this_values_row, .inl (cB, 300, .inl v_values_row)), (h_this_values_starts, .inl (cI, 100, .inl v_values_starts)), (h_this_values_lengths, .inl (cI, 100, .inl v_values_lengths)), (h_p1, .inr (2, [.ref h_p1_row, .int v_p1_size])), (h_p1_row, .inl (cB, 300, .inl v_p1_row))]) (w1 := [(h_this_names, .inr (3, [.ref h_this_names_row, .ref h_this_names_starts, .ref h_this_names_lengths, .int z4.1, .int z4.2.1, .int z4.2.2])), (h_this_names_row, .inl (cB, 300, .inl v_names_row)), (h_this_names_starts, .inl (cI, 100, .inl v_names_starts)), (h_this_names_lengths, .inl (cI, 100, .inl v_names_lengths))]) (ws2 := [(h_this, .inr (1, [.ref h_this_names, .ref h_this_values, .int v_end])), (h_this_names, .inr (3, [.ref h_this_names_row, .ref h_this_names_starts, .ref h_this_names_lengths, .int z4.1, .int z4.2.1, .int z4.2.2])), (h_this_names_row, .inl (cB, 300, .inl v_names_row)), (h_this_names_starts, .inl (cI, 100, .inl v_names_starts)), (h_this_names_lengths, .inl (cI, 100, .inl v_names_lengths)), (h_this_values, .inr (3, [.ref h_this_values_row, .ref h_this_values_starts, .ref h_this_values_lengths, .int v_values_size, .int v_values_openStart, .int v_values_openLength])), (h_this_values_row, .inl (cB, 300, .inl v_values_row)), (h_this_values_starts, .inl (cI, 100, .inl v_values_starts)), (h_this_values_lengths, .inl (cI, 100, .inl v_values_lengths)), (h_p1, .inr (2, [.ref h_p1_row, .int v_p1_size])), (h_p1_row, .inl (cB, 300, .inl v_p1_row))]) hP hD hS hA [1, 2, 3, 4] [0, 5, 6, 7, 8, 9, 10] [0, 7, 8, 9, 10, 1, 2, 3, 4, 5, 6] rfl (by decide) rfl (by decide) (by decide) rfl (by decide) (fun hPc hDc hFc => rn_VN (As := []) (rest := []) C hK (c_Te_clear N h_this_names h_this_names_row h_this_names_starts h_this_names_lengths v_names_size v_names_openStart v_names_openLength v_names_row v_names_starts v_names_lengths z4 hc_4 _) ⟨rfl, rfl⟩ mn_149 ok_Te_clear ⟨by decide, by decide⟩ rfl rfl rfl hl.1 rfl (Nat.le_of_ble_eq_true rfl) d_He_readFrom_4 ⟨by decide, by decide⟩ hS hPc hDc hFc) (fun H locs hP hD hS => ?_)
  refine lv_aload_n hx hb d_He_readFrom_7 rfl (lv_at hl 0 rfl) ?_
  refine va_get (D := (dC, dI)) (ci := 1) (v := .ref h_this_values) (C := R_He) (T := F_He) (N := 3) hx hb hts in_He hown hK.1 hP 0 rfl rfl 1 (by decide) (hts _ m_75) (fun _ h9 => h9) rfl d_He_readFrom_8 ?_
  obtain ⟨z5, hc_5, h⟩ := bs h
  refine go_v (wr := [(h_this, .inr (1, [.ref h_this_names, .ref h_this_values, .int v_end])), (h_this_names, .inr (3, [.ref h_this_names_row, .ref h_this_names_starts, .ref h_this_names_lengths, .int z4.1, .int z4.2.1, .int z4.2.2])), (h_this_names_row, .inl (cB, 300, .inl v_names_row)), (h_this_names_starts, .inl (cI, 100, .inl v_names_starts)), (h_this_names_lengths, .inl (cI, 100, .inl v_names_lengths)), (h_p1, .inr (2, [.ref h_p1_row, .int v_p1_size])), (h_p1_row, .inl (cB, 300, .inl v_p1_row))]) (w1 := [(h_this_values, .inr (3, [.ref h_this_values_row, .ref h_this_values_starts, .ref h_this_values_lengths, .int z5.1, .int z5.2.1, .int z5.2.2])), (h_this_values_row, .inl (cB, 300, .inl v_values_row)), (h_this_values_starts, .inl (cI, 100, .inl v_values_starts)), (h_this_values_lengths, .inl (cI, 100, .inl v_values_lengths))]) (ws2 := [(h_this, .inr (1, [.ref h_this_names, .ref h_this_values, .int v_end])), (h_this_names, .inr (3, [.ref h_this_names_row, .ref h_this_names_starts, .ref h_this_names_lengths, .int z4.1, .int z4.2.1, .int z4.2.2])), (h_this_names_row, .inl (cB, 300, .inl v_names_row)), (h_this_names_starts, .inl (cI, 100, .inl v_names_starts)), (h_this_names_lengths, .inl (cI, 100, .inl v_names_lengths)), (h_this_values, .inr (3, [.ref h_this_values_row, .ref h_this_values_starts, .ref h_this_values_lengths, .int z5.1, .int z5.2.1, .int z5.2.2])), (h_this_values_row, .inl (cB, 300, .inl v_values_row)), (h_this_values_starts, .inl (cI, 100, .inl v_values_starts)), (h_this_values_lengths, .inl (cI, 100, .inl v_values_lengths)), (h_p1, .inr (2, [.ref h_p1_row, .int v_p1_size])), (h_p1_row, .inl (cB, 300, .inl v_p1_row))]) hP hD hS hA [5, 6, 7, 8] [0, 1, 2, 3, 4, 9, 10] [0, 1, 2, 3, 4, 7, 8, 9, 10, 5, 6] rfl (by decide) rfl (by decide) (by decide) rfl (by decide) (fun hPc hDc hFc => rn_VN (As := []) (rest := []) C hK (c_Te_clear N h_this_values h_this_values_row h_this_values_starts h_this_values_lengths v_values_size v_values_openStart v_values_openLength v_values_row v_values_starts v_values_lengths z5 hc_5 _) ⟨rfl, rfl⟩ mn_149 ok_Te_clear ⟨by decide, by decide⟩ rfl rfl rfl hl.1 rfl (Nat.le_of_ble_eq_true rfl) d_He_readFrom_11 ⟨by decide, by decide⟩ hS hPc hDc hFc) (fun H locs hP hD hS => ?_)
  refine lv_aload_n hx hb d_He_readFrom_14 rfl (lv_at hl 0 rfl) ?_
  refine lv_iconst (v := 0) hx hb d_He_readFrom_15 (by decide) ?_
  refine va_put (D := (dC, dI)) (ci := 1) (v := .int 0) (ty := .int) (C := R_He) (T := F_He) (N := 3) hx hb hts in_He t_He t_He_ok n_He hown hK.1 hP hD hS 0 rfl rfl 2 (by decide) (hts _ m_77) (fun _ h9 => h9) rfl (by decide +kernel) rfl rfl (Nat.le_of_ble_eq_true rfl) d_He_readFrom_16 (fun H locs hP hD hS => ?_)
  have hP : va_P (dC, dI) classes [(h_this, .inr (1, [.ref h_this_names, .ref h_this_values, .int 0])), (h_this_names, .inr (3, [.ref h_this_names_row, .ref h_this_names_starts, .ref h_this_names_lengths, .int z4.1, .int z4.2.1, .int z4.2.2])), (h_this_names_row, .inl (cB, 300, .inl v_names_row)), (h_this_names_starts, .inl (cI, 100, .inl v_names_starts)), (h_this_names_lengths, .inl (cI, 100, .inl v_names_lengths)), (h_this_values, .inr (3, [.ref h_this_values_row, .ref h_this_values_starts, .ref h_this_values_lengths, .int z5.1, .int z5.2.1, .int z5.2.2])), (h_this_values_row, .inl (cB, 300, .inl v_values_row)), (h_this_values_starts, .inl (cI, 100, .inl v_values_starts)), (h_this_values_lengths, .inl (cI, 100, .inl v_values_lengths)), (h_p1, .inr (2, [.ref h_p1_row, .int v_p1_size])), (h_p1_row, .inl (cB, 300, .inl v_p1_row))] H := hP
  have hD : va_D A [(h_this, .inr (1, [.ref h_this_names, .ref h_this_values, .int 0])), (h_this_names, .inr (3, [.ref h_this_names_row, .ref h_this_names_starts, .ref h_this_names_lengths, .int z4.1, .int z4.2.1, .int z4.2.2])), (h_this_names_row, .inl (cB, 300, .inl v_names_row)), (h_this_names_starts, .inl (cI, 100, .inl v_names_starts)), (h_this_names_lengths, .inl (cI, 100, .inl v_names_lengths)), (h_this_values, .inr (3, [.ref h_this_values_row, .ref h_this_values_starts, .ref h_this_values_lengths, .int z5.1, .int z5.2.1, .int z5.2.2])), (h_this_values_row, .inl (cB, 300, .inl v_values_row)), (h_this_values_starts, .inl (cI, 100, .inl v_values_starts)), (h_this_values_lengths, .inl (cI, 100, .inl v_values_lengths)), (h_p1, .inr (2, [.ref h_p1_row, .int v_p1_size])), (h_p1_row, .inl (cB, 300, .inl v_p1_row))] := hD
  refine lv_iconst (v := 0) hx hb d_He_readFrom_19 (by decide) ?_
  refine lv_istore_n (lv' := [(2, .int 0), (0, .ref h_this), (1, .ref h_p1)]) hx hb d_He_readFrom_20 rfl hl (by decide) rfl (fun ls hl => ?_)
  exact k_He_readFrom_21 C hK hA N h_this h_this_names h_this_names_row h_this_names_starts h_this_names_lengths h_this_values h_this_values_row h_this_values_starts h_this_values_lengths h_p1 h_p1_row v_p1_size v_p1_row z N 0 0 z4.1 z4.2.1 z4.2.2 v_names_row v_names_starts v_names_lengths z5.1 z5.2.1 z5.2.2 v_values_row v_values_starts v_values_lengths h _ _ hP hD hS _ (lv_sub hl [1, 2, 0] rfl)
end
