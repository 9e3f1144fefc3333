abbrev R_Ad : String := "HeaderDesk$Addresses"
def F_Ad : u_T := fun k => match k with
  | 0 => ("HeaderDesk$Addresses", "found", "LHeaderDesk$Texts;", true)
  | 1 => ("HeaderDesk$Addresses", "atSigns", "[I", true)
  | 2 => ("HeaderDesk$Addresses", "firsts", "[I", true)
  | 3 => ("HeaderDesk$Addresses", "amounts", "[I", true)
  | 4 => ("HeaderDesk$Addresses", "fields", "I", false)
  | 5 => ("HeaderDesk$Addresses", "angle", "I", false)
  | 6 => ("HeaderDesk$Addresses", "depth", "I", false)
  | 7 => ("HeaderDesk$Addresses", "quoted", "Z", false)
  | _ => ("HeaderDesk$Addresses", "escaped", "Z", false)
def t_Ad : Nat → FieldType := fun k => match k with
  | 0 => .object "HeaderDesk$Texts"
  | 1 => .array .int
  | 2 => .array .int
  | 3 => .array .int
  | 4 => .int
  | 5 => .int
  | 6 => .int
  | 7 => .boolean
  | _ => .boolean
theorem n_Ad : ∀ a, a < 9 → ∀ b, b < 9 → a ≠ b → (F_Ad a).2.1 ≠ (F_Ad b).2.1 := by decide +kernel
theorem t_Ad_ok : ∀ k, k < 9 → parseFieldDescriptor (F_Ad k).2.2.1 = some (t_Ad k) := by decide +kernel
abbrev R_He : String := "HeaderDesk$Header"
def F_He : u_T := fun k => match k with
  | 0 => ("HeaderDesk$Header", "names", "LHeaderDesk$Texts;", true)
  | 1 => ("HeaderDesk$Header", "values", "LHeaderDesk$Texts;", true)
  | _ => ("HeaderDesk$Header", "end", "I", false)
def t_He : Nat → FieldType := fun k => match k with
  | 0 => .object "HeaderDesk$Texts"
  | 1 => .object "HeaderDesk$Texts"
  | _ => .int
theorem n_He : ∀ a, a < 3 → ∀ b, b < 3 → a ≠ b → (F_He a).2.1 ≠ (F_He b).2.1 := by decide +kernel
theorem t_He_ok : ∀ k, k < 3 → parseFieldDescriptor (F_He k).2.2.1 = some (t_He k) := by decide +kernel
abbrev R_Me : String := "HeaderDesk$Message"
def F_Me : u_T := fun k => match k with
  | 0 => ("HeaderDesk$Message", "row", "[B", true)
  | _ => ("HeaderDesk$Message", "size", "I", false)
def t_Me : Nat → FieldType := fun k => match k with
  | 0 => .array .byte
  | _ => .int
theorem n_Me : ∀ a, a < 2 → ∀ b, b < 2 → a ≠ b → (F_Me a).2.1 ≠ (F_Me b).2.1 := by decide +kernel
theorem t_Me_ok : ∀ k, k < 2 → parseFieldDescriptor (F_Me k).2.2.1 = some (t_Me k) := by decide +kernel
abbrev R_Te : String := "HeaderDesk$Texts"
def F_Te : u_T := fun k => match k with
  | 0 => ("HeaderDesk$Texts", "row", "[B", true)
  | 1 => ("HeaderDesk$Texts", "starts", "[I", true)
  | 2 => ("HeaderDesk$Texts", "lengths", "[I", true)
  | 3 => ("HeaderDesk$Texts", "size", "I", false)
  | 4 => ("HeaderDesk$Texts", "openStart", "I", false)
  | _ => ("HeaderDesk$Texts", "openLength", "I", false)
def t_Te : Nat → FieldType := fun k => match k with
  | 0 => .array .byte
  | 1 => .array .int
  | 2 => .array .int
  | 3 => .int
  | 4 => .int
  | _ => .int
theorem n_Te : ∀ a, a < 6 → ∀ b, b < 6 → a ≠ b → (F_Te a).2.1 ≠ (F_Te b).2.1 := by decide +kernel
theorem t_Te_ok : ∀ k, k < 6 → parseFieldDescriptor (F_Te k).2.2.1 = some (t_Te k) := by decide +kernel
abbrev R_De : String := "HeaderDesk"
def F_De : u_T := fun k => match k with
  | 0 => ("HeaderDesk", "message", "LHeaderDesk$Message;", true)
  | 1 => ("HeaderDesk", "header", "LHeaderDesk$Header;", true)
  | _ => ("HeaderDesk", "addresses", "LHeaderDesk$Addresses;", true)
def t_De : Nat → FieldType := fun k => match k with
  | 0 => .object "HeaderDesk$Message"
  | 1 => .object "HeaderDesk$Header"
  | _ => .object "HeaderDesk$Addresses"
theorem n_De : ∀ a, a < 3 → ∀ b, b < 3 → a ≠ b → (F_De a).2.1 ≠ (F_De b).2.1 := by decide +kernel
theorem t_De_ok : ∀ k, k < 3 → parseFieldDescriptor (F_De k).2.2.1 = some (t_De k) := by decide +kernel
abbrev R_Mo : String := "HeaderDeskModel"
def F_Mo : u_T := fun k => match k with
  | 0 => ("HeaderDeskModel", "thrownCode", "I", false)
  | 1 => ("HeaderDeskModel", "put", "[I", true)
  | 2 => ("HeaderDeskModel", "puts", "I", false)
  | 3 => ("HeaderDeskModel", "text", "[I", true)
  | 4 => ("HeaderDeskModel", "bytes", "I", false)
  | 5 => ("HeaderDeskModel", "nameFrom", "I", false)
  | 6 => ("HeaderDeskModel", "names", "I", false)
  | 7 => ("HeaderDeskModel", "value", "[I", true)
  | 8 => ("HeaderDeskModel", "values", "I", false)
  | 9 => ("HeaderDeskModel", "behind", "I", false)
  | 10 => ("HeaderDeskModel", "part", "[I", true)
  | _ => ("HeaderDeskModel", "parts", "I", false)
def t_Mo : Nat → FieldType := fun k => match k with
  | 0 => .int
  | 1 => .array .int
  | 2 => .int
  | 3 => .array .int
  | 4 => .int
  | 5 => .int
  | 6 => .int
  | 7 => .array .int
  | 8 => .int
  | 9 => .int
  | 10 => .array .int
  | _ => .int
theorem n_Mo : ∀ a, a < 12 → ∀ b, b < 12 → a ≠ b → (F_Mo a).2.1 ≠ (F_Mo b).2.1 := by decide +kernel
theorem t_Mo_ok : ∀ k, k < 12 → parseFieldDescriptor (F_Mo k).2.2.1 = some (t_Mo k) := by decide +kernel
abbrev R_Lw : String := "HeaderDeskLaw"
abbrev R_St : String := "java/lang/String"
abbrev R_La : String := "java/lang/StringLatin1"
abbrev classes : List vw_C := [(R_Ad, F_Ad, 9), (R_He, F_He, 3), (R_Me, F_Me, 2), (R_Te, F_Te, 6), (R_De, F_De, 3), (R_Mo, F_Mo, 12)]
abbrev y_De_init : MethodName := ⟨"HeaderDesk", "<init>", "()V"⟩
abbrev y_De_put : MethodName := ⟨"HeaderDesk", "put", "(JI)Z"⟩
abbrev y_De_read : MethodName := ⟨"HeaderDesk", "read", "()I"⟩
abbrev y_De_field : MethodName := ⟨"HeaderDesk", "field", "(II)I"⟩
abbrev y_De_bytes : MethodName := ⟨"HeaderDesk", "bytes", "(III)J"⟩
abbrev y_De_address : MethodName := ⟨"HeaderDesk", "address", "(III)J"⟩
abbrev y_De_part : MethodName := ⟨"HeaderDesk", "part", "(III)I"⟩
abbrev y_De_find : MethodName := ⟨"HeaderDesk", "find", "(II)I"⟩
abbrev y_De_count : MethodName := ⟨"HeaderDesk", "count", "(I)I"⟩
abbrev y_De_isBlank : MethodName := ⟨"HeaderDesk", "isBlank", "(I)Z"⟩
abbrev y_De_lowered : MethodName := ⟨"HeaderDesk", "lowered", "(I)I"⟩
abbrev y_Mo_init : MethodName := ⟨"HeaderDeskModel", "<init>", "()V"⟩
abbrev y_Mo_blank : MethodName := ⟨"HeaderDeskModel", "blank", "(I)Z"⟩
abbrev y_Mo_lineEnd : MethodName := ⟨"HeaderDeskModel", "lineEnd", "(I)I"⟩
abbrev y_Mo_colon : MethodName := ⟨"HeaderDeskModel", "colon", "(I)I"⟩
abbrev y_Mo_look : MethodName := ⟨"HeaderDeskModel", "look", "(I)Z"⟩
abbrev y_Mo_takeLine : MethodName := ⟨"HeaderDeskModel", "takeLine", "(I)V"⟩
abbrev y_Mo_trim : MethodName := ⟨"HeaderDeskModel", "trim", "()V"⟩
abbrev y_Mo_letter : MethodName := ⟨"HeaderDeskModel", "letter", "(I)Z"⟩
abbrev y_Mo_local : MethodName := ⟨"HeaderDeskModel", "local", "(I)Z"⟩
abbrev y_Mo_at : MethodName := ⟨"HeaderDeskModel", "at", "()I"⟩
abbrev y_Mo_addressAt : MethodName := ⟨"HeaderDeskModel", "addressAt", "(I)I"⟩
abbrev y_Mo_onePart : MethodName := ⟨"HeaderDeskModel", "onePart", "(I)I"⟩
abbrev y_Mo_addresses : MethodName := ⟨"HeaderDeskModel", "addresses", "()I"⟩
abbrev y_Mo_eight : MethodName := ⟨"HeaderDeskModel", "eight", "([III)J"⟩
abbrev y_Mo_put : MethodName := ⟨"HeaderDeskModel", "put", "(JI)Z"⟩
abbrev y_Mo_fields : MethodName := ⟨"HeaderDeskModel", "fields", "()I"⟩
abbrev y_Mo_read : MethodName := ⟨"HeaderDeskModel", "read", "()I"⟩
abbrev y_Mo_field : MethodName := ⟨"HeaderDeskModel", "field", "(II)I"⟩
abbrev y_Mo_bytes : MethodName := ⟨"HeaderDeskModel", "bytes", "(III)J"⟩
abbrev y_Mo_address : MethodName := ⟨"HeaderDeskModel", "address", "(III)J"⟩
abbrev y_Mo_part : MethodName := ⟨"HeaderDeskModel", "part", "(III)I"⟩
abbrev y_Mo_low : MethodName := ⟨"HeaderDeskModel", "low", "(I)I"⟩
abbrev y_Mo_find : MethodName := ⟨"HeaderDeskModel", "find", "(II)I"⟩
abbrev y_Mo_count : MethodName := ⟨"HeaderDeskModel", "count", "(I)I"⟩
abbrev y_Ad_init : MethodName := ⟨"HeaderDesk$Addresses", "<init>", "()V"⟩
abbrev y_Ad_clear : MethodName := ⟨"HeaderDesk$Addresses", "clear", "()V"⟩
abbrev y_Ad_amountIn : MethodName := ⟨"HeaderDesk$Addresses", "amountIn", "(I)I"⟩
abbrev y_Ad_indexOf : MethodName := ⟨"HeaderDesk$Addresses", "indexOf", "(II)I"⟩
abbrev y_Ad_atSignOf : MethodName := ⟨"HeaderDesk$Addresses", "atSignOf", "(I)I"⟩
abbrev y_Ad_readValue : MethodName := ⟨"HeaderDesk$Addresses", "readValue", "(LHeaderDesk$Texts;I)V"⟩
abbrev y_Ad_takeInBrackets : MethodName := ⟨"HeaderDesk$Addresses", "takeInBrackets", "(I)V"⟩
abbrev y_Ad_takeInQuotes : MethodName := ⟨"HeaderDesk$Addresses", "takeInQuotes", "(I)V"⟩
abbrev y_Ad_takePlain : MethodName := ⟨"HeaderDesk$Addresses", "takePlain", "(I)V"⟩
abbrev y_Ad_keep : MethodName := ⟨"HeaderDesk$Addresses", "keep", "(I)V"⟩
abbrev y_Ad_endPart : MethodName := ⟨"HeaderDesk$Addresses", "endPart", "()V"⟩
abbrev y_Ad_atSignOfOpen : MethodName := ⟨"HeaderDesk$Addresses", "atSignOfOpen", "()I"⟩
abbrev y_Ad_isDotted : MethodName := ⟨"HeaderDesk$Addresses", "isDotted", "(IIILjava/lang/String;)Z"⟩
abbrev y_Ad_isWordByte : MethodName := ⟨"HeaderDesk$Addresses", "isWordByte", "(ILjava/lang/String;)Z"⟩
abbrev y_He_init : MethodName := ⟨"HeaderDesk$Header", "<init>", "()V"⟩
abbrev y_He_readFrom : MethodName := ⟨"HeaderDesk$Header", "readFrom", "(LHeaderDesk$Message;)V"⟩
abbrev y_He_readField : MethodName := ⟨"HeaderDesk$Header", "readField", "(LHeaderDesk$Message;I)I"⟩
abbrev y_He_readLine : MethodName := ⟨"HeaderDesk$Header", "readLine", "(LHeaderDesk$Message;I)I"⟩
abbrev y_Me_init : MethodName := ⟨"HeaderDesk$Message", "<init>", "()V"⟩
abbrev y_Me_clear : MethodName := ⟨"HeaderDesk$Message", "clear", "()V"⟩
abbrev y_Me_append : MethodName := ⟨"HeaderDesk$Message", "append", "(I)V"⟩
abbrev y_Me_byteAt : MethodName := ⟨"HeaderDesk$Message", "byteAt", "(I)I"⟩
abbrev y_Me_endOfLine : MethodName := ⟨"HeaderDesk$Message", "endOfLine", "(I)I"⟩
abbrev y_Me_endOfName : MethodName := ⟨"HeaderDesk$Message", "endOfName", "(I)I"⟩
abbrev y_Me_endOfBlanks : MethodName := ⟨"HeaderDesk$Message", "endOfBlanks", "(I)I"⟩
abbrev y_Me_isNameByte : MethodName := ⟨"HeaderDesk$Message", "isNameByte", "(I)Z"⟩
abbrev y_Te_init : MethodName := ⟨"HeaderDesk$Texts", "<init>", "()V"⟩
abbrev y_Te_clear : MethodName := ⟨"HeaderDesk$Texts", "clear", "()V"⟩
abbrev y_Te_append : MethodName := ⟨"HeaderDesk$Texts", "append", "(I)V"⟩
abbrev y_Te_openByteAt : MethodName := ⟨"HeaderDesk$Texts", "openByteAt", "(I)I"⟩
abbrev y_Te_dropOpen : MethodName := ⟨"HeaderDesk$Texts", "dropOpen", "()V"⟩
abbrev y_Te_dropBlanksAtOpenEnd : MethodName := ⟨"HeaderDesk$Texts", "dropBlanksAtOpenEnd", "()V"⟩
abbrev y_Te_closeOpen : MethodName := ⟨"HeaderDesk$Texts", "closeOpen", "()V"⟩
abbrev y_Te_has : MethodName := ⟨"HeaderDesk$Texts", "has", "(I)Z"⟩
abbrev y_Te_lengthOf : MethodName := ⟨"HeaderDesk$Texts", "lengthOf", "(I)I"⟩
abbrev y_Te_byteAt : MethodName := ⟨"HeaderDesk$Texts", "byteAt", "(II)I"⟩
abbrev y_Te_eightBytes : MethodName := ⟨"HeaderDesk$Texts", "eightBytes", "(II)J"⟩
abbrev y_Te_areAlike : MethodName := ⟨"HeaderDesk$Texts", "areAlike", "(II)Z"⟩
abbrev y_La_canEncode : MethodName := ⟨"java/lang/StringLatin1", "canEncode", "(I)Z"⟩
abbrev y_La_indexOfChar : MethodName := ⟨"java/lang/StringLatin1", "indexOfChar", "([BIII)I"⟩
abbrev y_La_indexOf : MethodName := ⟨"java/lang/StringLatin1", "indexOf", "([BIII)I"⟩
abbrev y_St_isLatin1 : MethodName := ⟨"java/lang/String", "isLatin1", "()Z"⟩
abbrev y_St_coder : MethodName := ⟨"java/lang/String", "coder", "()B"⟩
abbrev y_St_length : MethodName := ⟨"java/lang/String", "length", "()I"⟩
abbrev y_St_indexOf2 : MethodName := ⟨"java/lang/String", "indexOf", "(II)I"⟩
abbrev y_St_indexOf1 : MethodName := ⟨"java/lang/String", "indexOf", "(I)I"⟩
def strN : Nat := 2
def strLen : List Nat := [19, 1]
def strByt : List (List Int32) := [[33, 35, 36, 37, 38, 39, 42, 43, 45, 47, 61, 63, 94, 95, 96, 123, 124, 125, 126], [45]]
def strLinks : List (String × Nat × String × Nat) := [("HeaderDesk$Addresses", 101, "!#$%&'*+-/=?^_`{|}~", 0), ("HeaderDesk$Addresses", 107, "-", 1)]
/-! BASE: one list of words for all methods; the nest words; contexts; contracts; calls -/
def wAll : List Cond := lw_tbl.filter goodWord
theorem wAll_ok : ∀ w ∈ wAll, (w.onTables && w.keeps) = true ∨ ∃ ty, w = .arrayClass ty := fun _ h => good_of_word (List.mem_filter.mp h).2
theorem gC {c' : Cond} (h : c' ∈ wAll) : GoodIn wAll (c' :: wAll) := by
  intro w hw
  rcases List.mem_cons.mp hw with rfl | hw
  · exact ⟨h, wAll_ok _ h⟩
  · exact ⟨hw, wAll_ok _ hw⟩
theorem gV {own C : String} {idx : Nat} {y : MethodName} {c' : Cond} (h1 : Cond.methodLink own idx y ∈ wAll) (h2 : Cond.instanceMethod y ∈ wAll) (h3 : Cond.selects C y y ∈ wAll) (h4 : Cond.initialized C ∈ wAll) (h5 : c' ∈ wAll) : GoodIn wAll (wsV own idx C y (c' :: wAll)) := by
  intro w hw
  unfold wsV at hw
  rcases List.mem_append.mp hw with hw | hw
  · rcases List.mem_cons.mp hw with rfl | hw
    · exact ⟨h1, wAll_ok _ h1⟩
    rcases List.mem_cons.mp hw with rfl | hw
    · exact ⟨h2, wAll_ok _ h2⟩
    rcases List.mem_cons.mp hw with rfl | hw
    · exact ⟨h3, wAll_ok _ h3⟩
    rcases List.mem_cons.mp hw with rfl | hw
    · exact ⟨h4, wAll_ok _ h4⟩
    · exact absurd hw List.not_mem_nil
  · exact gC h5 w hw
theorem gS {own : String} {idx : Nat} {y : MethodName} {c' : Cond} (h1 : Cond.methodLink own idx y ∈ wAll) (h2 : Cond.static y ∈ wAll) (h4 : Cond.initialized y.cls ∈ wAll) (h5 : c' ∈ wAll) : GoodIn wAll (va_wsS own idx y (c' :: wAll)) := by
  intro w hw
  unfold va_wsS at hw
  rcases List.mem_append.mp hw with hw | hw
  · rcases List.mem_cons.mp hw with rfl | hw
    · exact ⟨h1, wAll_ok _ h1⟩
    rcases List.mem_cons.mp hw with rfl | hw
    · exact ⟨h2, wAll_ok _ h2⟩
    rcases List.mem_cons.mp hw with rfl | hw
    · exact ⟨h4, wAll_ok _ h4⟩
    · exact absurd hw List.not_mem_nil
  · exact gC h5 w hw
def isNest : Cond → Bool
  | .fieldLinkNest .. => true
  | .methodLinkNest .. => true
  | _ => false
def nwAll : List Cond := lw_tbl.filter isNest
def nx (U : State) : Prop := ∀ w ∈ nwAll, va_Nw w U
theorem nx_warm {s U : State} (hW : s.WarmedH U.vm) (h : nx s) : nx U := by
  intro w hw
  have h1 := h w hw
  have h2 := (List.mem_filter.mp hw).2
  cases w <;> first | exact va_Nw.warmF hW h1 | exact va_Nw.warmM hW h1 | exact Bool.noConfusion (show false = true from h2)
theorem nx_same {u U : State} (he : u.vm = U.vm) (h : nx u) : nx U := by
  intro w hw
  have h1 := h w hw
  have h2 := (List.mem_filter.mp hw).2
  cases w <;> first | exact va_Nw.same rfl he h1 | exact Bool.noConfusion (show false = true from h2)
theorem nx_of {A : Array Value} {U : State} (h : ∀ w ∈ lw_tbl, w.before A U = true) : nx U := by
  intro w hw
  have h1 := h w (List.mem_filter.mp hw).1
  have h2 := (List.mem_filter.mp hw).2
  cases w <;> first | exact va_Nw.of rfl h1 | exact Bool.noConfusion (show false = true from h2)
theorem bs {α β : Type} {x : Option α} {f : α → Option β} {z : β} (h : x.bind f = some z) : ∃ a, x = some a ∧ f a = some z := by
  cases x with
  | none => cases h
  | some a => exact ⟨a, rfl, h⟩
theorem itT {α : Type} {c : Prop} {d : Decidable c} {a b : Option α} {z : α} (h : @ite _ c d a b = some z) (hc : c) : a = some z := by rw [if_pos hc] at h; exact h
theorem itF {α : Type} {c : Prop} {d : Decidable c} {a b : Option α} {z : α} (h : @ite _ c d a b = some z) (hc : ¬ c) : b = some z := by rw [if_neg hc] at h; exact h
/-- a guard -/
theorem grd {α : Type} {c : Prop} {d : Decidable c} {a : Option α} {z : α} (h : @ite _ c d a none = some z) : c ∧ a = some z := by
  by_cases hc : c
  · rw [if_pos hc] at h; exact ⟨hc, h⟩
  · rw [if_neg hc] at h; cases h
def inB (i : Int32) (n : Nat) : Bool := decide (0 ≤ i.toInt ∧ i.toInt < (n : Int))
theorem inB_in {i : Int32} {n : Nat} (h : inB i n = true) : vp_in i n := vp_in_iff.mpr (of_decide_eq_true h)
def cx (p : Program) (s : State) (m : MethodId) (args : Array Value) (meth : Method) (c : Code) (own : String) (cc : ByteArray) (nL : Nat) (ret : Option FieldType) : Prop :=
  p.tables.exec = Jvm.exec ∧ c.code = cc ∧ meth.sig.returnType = ret ∧ c.maxLocals = nL ∧ s.vm.findClass own = some m.cls ∧ (∀ w ∈ wAll, w.before args s = true) ∧ meth.locks = false
/-- what stays true of the tables and of the literals' cells (none of them in A) -/
def kx (G : va_G) (cB cI : ClassId) (aK aV : Nat → Nat) (A : Nat → Prop) (U : State) : Prop := va_K G classes [(cB, .byte), (cI, .int)] U ∧ nx U ∧ vk_S strN strLen strByt aK aV A U U.heap ∧ (∀ q ∈ strLinks, vk_R q.1 q.2.1 q.2.2.1 (aK q.2.2.2) U) ∧ va_Z "java/lang/String" "COMPACT_STRINGS" "Z" (.int 1) A U U.heap
def preW (G : va_G) (cB cI : ClassId) (aK aV : Nat → Nat) (ws : va_W) (sz : Nat) (U : State) : Prop := U.heap.size = sz ∧ va_P G classes ws U.heap ∧ kx G cB cI aK aV (va_A ws sz) U ∧ va_D (fun _ => True) ws
theorem preW_blind {av : List Value} {G : va_G} {cB cI : ClassId} {aK aV : Nat → Nat} {ws : va_W} {sz : Nat} : FrameBlind (va_Pc av (preW G cB cI aK aV ws sz)) := fun a U g mk q => by
  obtain ⟨q0, q1, q2, ⟨q3, q4, q5, q6, q8⟩, q7⟩ := q
  exact ⟨q0, q1, q2, ⟨va_K.moved (u := U) (U := U.calling g mk a) (Vm.Alike.refl U.vm) q3, nx_same (u := U) (U := U.calling g mk a) rfl q4, vk_S.moved (u := U) (U := U.calling g mk a) (Vm.Alike.refl U.vm) q5, fun x hx => vk_R.same (u := U) (U := U.calling g mk a) rfl (q6 x hx), va_Z.moved (u := U) (U := U.calling g mk a) (Vm.Alike.refl U.vm) q8⟩, q7⟩
theorem preW_at {av : List Value} {G : va_G} {cB cI : ClassId} {aK aV : Nat → Nat} {wc : va_W} {A : Nat → Prop} {s : State} {H : Heap} {locs : List Loc} (hK : kx G cB cI aK aV A s) (hS : va_S A s.heap H locs) (hF : ∀ q, va_A wc H.size q → A q) (hP : va_P G classes wc H) (hD : va_D A wc) : ∀ U : State, U.heap = H → s.WarmedH U.vm → va_Pc av (preW G cB cI aK aV wc H.size) av.toArray U := fun U hU hW =>
  ⟨rfl, by rw [hU], by rw [hU]; exact hP, ⟨va_K.moved hW.alike hK.1, nx_warm hW hK.2.1, by rw [hU]; exact vk_S.moved hW.alike ((hK.2.2.1.kept hS.2.1).narrow hF), fun x hx => (hK.2.2.2.1 x hx).warm hW, by rw [hU]; exact va_Z.moved hW.alike ((hK.2.2.2.2.kept hS.2.1).narrow hF)⟩, hD.weaken (fun _ _ _ _ => trivial)⟩
/-- what a method does: an int comes back | a long | nothing -/
def Qi (G : va_G) (ws' : va_W) (A : Nat → Prop) (r : Int32) : Array Value → State → Outcome → State → Prop := va_Qi (fun x (_ : Unit) => x = r) (fun _ t => va_P G classes ws' t.heap ∧ va_D A ws') A
def Ql (G : va_G) (ws' : va_W) (A : Nat → Prop) (r : Int64) : Array Value → State → Outcome → State → Prop := va_Ql (fun x (_ : Unit) => x = r) (fun _ t => va_P G classes ws' t.heap ∧ va_D A ws') A
def Qv (G : va_G) (ws' : va_W) (A : Nat → Prop) : Array Value → State → Outcome → State → Prop := va_Qv (fun (_ : Unit) => True) (fun _ t => va_P G classes ws' t.heap ∧ va_D A ws') A
/-- a constructor: some world comes -/
def Qn {α : Type} (G : va_G) (ws' : α → va_W) (A : Nat → Prop) : Array Value → State → Outcome → State → Prop := va_Qv (fun (_ : Unit) => True) (fun _ t => ∃ q : α, va_P G classes (ws' q) t.heap ∧ va_D A (ws' q)) A
def Ci (l : Launch) (y : MethodName) (cc : ByteArray) (nL : Nat) (ret : Option FieldType) (rm : Room) (G : va_G) (cB cI : ClassId) (aK aV : Nat → Nat) (av : List Value) (ws : va_W) (Q : (Nat → Prop) → Array Value → State → Outcome → State → Prop) : Prop :=
  ∀ sz : Nat, Met l y (Cond.code y cc nL ret :: wAll) rm (va_Pc av (preW G cB cI aK aV ws sz)) (Q (va_A ws sz)) rm.cells rm.slots (va_A ws sz)
theorem Ci_of {l : Launch} {y : MethodName} {cc : ByteArray} {nL : Nat} {ret : Option FieldType} {rm : Room} {G : va_G} {cB cI : ClassId} {aK aV : Nat → Nat} {av : List Value} {ws : va_W} {Q : (Nat → Prop) → Array Value → State → Outcome → State → Prop} (hy : plainName y.cls = true) (hn : (lg_sl av).length ≤ nL)
    (body : ∀ (p : Program) (e : Env) (s : State) (m : MethodId) (below : List Frame) (meth : Method) (c : Code) (A : Nat → Prop), cx p s m av.toArray meth c y.cls cc nL ret → kx G cB cI aK aV A s → meth.name = y.name → (∀ q : Nat, s.heap.size ≤ q → A q) → va_P G classes ws s.heap → va_D A ws → ∀ ls : Array Slot, lv_has ls nL (lv_args 0 av) →
      W p l e rm s m av.toArray below meth c s.heap [] 0 0 (MQ below (Q A) av.toArray s rm.cells rm.slots A) (F0 m 0 ls [])) : Ci l y cc nL ret rm G cB cI aK aV av ws Q := by
  intro sz
  refine Met.ofW (cc := cc) (maxL := nL) (ret := ret) hy rfl ?_
  intro p e s m args below meth c s₁ B hml hv
  obtain ⟨rfl, hsz, hP, hK, hD0⟩ := hv
  have hts := atoms_spec (ws := Cond.code y cc nL ret :: wAll) B.pre
  subst hsz
  rw [lg_entry_eq]
  exact body p e s m below meth c (va_A ws s.heap.size) ⟨B.exec, B.bytes, B.returns, hml, findClass_of_methodNamed B.named, fun w hw => hts w (List.mem_cons_of_mem _ hw), B.notSynchronized⟩ hK (name_of_methodNamed B.named B.method).1 (fun q h => Or.inr h) hP (hD0.self (sz := s.heap.size)) _ (lv_entry av hn)
theorem va_P_perm {D : va_G} {cl : List vw_C} {ws ws' : va_W} {H : Heap} (h : va_P D cl ws H) (is : List Nat) (hs : is.map (fun i => ws[i]?) = ws'.map some) : va_P D cl ws' H := by
  intro k q hk
  have h1 : (is.map (fun i => ws[i]?))[k]? = some (some q) := by rw [hs, List.getElem?_map, hk]; rfl
  rw [List.getElem?_map] at h1
  cases hi : is[k]? with
  | none => rw [hi] at h1; cases h1
  | some i => rw [hi] at h1; exact h i q (Option.some.inj h1)
section GO
variable {p : Program} {l : Launch} {e : Env} {R : Room} {s : State} {m : MethodId} {args : Array Value} {below : List Frame} {meth : Method} {c : Code} {H : Heap} {locs : List Loc} {cells slots : Nat} {Q : State → Prop}
variable {pc : Nat} {ls : Array Slot} {rest st0 : List Value} {a : Array Value} {A : Nat → Prop} {G : va_G} {ws wc wr w1 ws2 : va_W}
theorem go_i {r : Int32} (hP : va_P G classes ws H) (hD : va_D A ws) (hS : va_S A s.heap H locs) (hA : ∀ q, s.heap.size ≤ q → A q) (isC isR isP : List Nat) (hC : isC.map (fun i => ws[i]?) = wc.map some) (hnc : va_nd isC = true) (hR : isR.map (fun i => ws[i]?) = wr.map some) (hn : va_nd isR = true) (hdis : ∀ i ∈ isR, i ∉ isC) (hp2 : isP.map (fun i => (wr ++ w1)[i]?) = ws2.map some) (hnp : va_nd isP = true)
    (hr : va_P G classes wc H → va_D A wc → (∀ q, va_A wc H.size q → A q) → va_Run p l e R s m args below meth c H locs cells slots 0 0 (F0 m pc ls st0) rest (Qi G w1 (va_A wc H.size) r a) (va_A wc H.size))
    (kk : ∀ (H : Heap) (locs : List Loc), va_P G classes ws2 H → va_D A ws2 → va_S A s.heap H locs → W p l e R s m args below meth c H locs cells slots Q (F0 m (pc + 3) ls (.int r :: rest))) : W p l e R s m args below meth c H locs cells slots Q (F0 m pc ls st0) := by
  have hFc := va_free (wc := wc) hD hS hA isC hC
  refine va_calli (hr (va_P_perm hP isC hC) (hD.sub isC hnc hC) hFc) hS (fun q _ h => hFc q h) hFc (fun r' u t H1 locs1 ht hvm hw hB hz1 hk1 hS1 => ?_)
  subst hw
  obtain ⟨hP1, hD1⟩ := hB
  rw [ht] at hP1
  obtain ⟨hP2, hD2⟩ := va_join hP hD isC isR hC hR hn hdis hk1 hFc hP1 hD1
  exact kk H1 locs1 (va_P_perm hP2 isP hp2) (hD2.sub isP hnp hp2) hS1
theorem go_l {r : Int64} (hP : va_P G classes ws H) (hD : va_D A ws) (hS : va_S A s.heap H locs) (hA : ∀ q, s.heap.size ≤ q → A q) (isC isR isP : List Nat) (hC : isC.map (fun i => ws[i]?) = wc.map some) (hnc : va_nd isC = true) (hR : isR.map (fun i => ws[i]?) = wr.map some) (hn : va_nd isR = true) (hdis : ∀ i ∈ isR, i ∉ isC) (hp2 : isP.map (fun i => (wr ++ w1)[i]?) = ws2.map some) (hnp : va_nd isP = true)
    (hr : va_P G classes wc H → va_D A wc → (∀ q, va_A wc H.size q → A q) → va_Run p l e R s m args below meth c H locs cells slots 0 0 (F0 m pc ls st0) rest (Ql G w1 (va_A wc H.size) r a) (va_A wc H.size))
    (kk : ∀ (H : Heap) (locs : List Loc), va_P G classes ws2 H → va_D A ws2 → va_S A s.heap H locs → W p l e R s m args below meth c H locs cells slots Q (F0 m (pc + 3) ls (.long r :: rest))) : W p l e R s m args below meth c H locs cells slots Q (F0 m pc ls st0) := by
  have hFc := va_free (wc := wc) hD hS hA isC hC
  refine va_calll (hr (va_P_perm hP isC hC) (hD.sub isC hnc hC) hFc) hS (fun q _ h => hFc q h) hFc (fun r' u t H1 locs1 ht hvm hw hB hz1 hk1 hS1 => ?_)
  subst hw
  obtain ⟨hP1, hD1⟩ := hB
  rw [ht] at hP1
  obtain ⟨hP2, hD2⟩ := va_join hP hD isC isR hC hR hn hdis hk1 hFc hP1 hD1
  exact kk H1 locs1 (va_P_perm hP2 isP hp2) (hD2.sub isP hnp hp2) hS1
theorem go_v (hP : va_P G classes ws H) (hD : va_D A ws) (hS : va_S A s.heap H locs) (hA : ∀ q, s.heap.size ≤ q → A q) (isC isR isP : List Nat) (hC : isC.map (fun i => ws[i]?) = wc.map some) (hnc : va_nd isC = true) (hR : isR.map (fun i => ws[i]?) = wr.map some) (hn : va_nd isR = true) (hdis : ∀ i ∈ isR, i ∉ isC) (hp2 : isP.map (fun i => (wr ++ w1)[i]?) = ws2.map some) (hnp : va_nd isP = true)
    (hr : va_P G classes wc H → va_D A wc → (∀ q, va_A wc H.size q → A q) → va_Run p l e R s m args below meth c H locs cells slots 0 0 (F0 m pc ls st0) rest (Qv G w1 (va_A wc H.size) a) (va_A wc H.size))
    (kk : ∀ (H : Heap) (locs : List Loc), va_P G classes ws2 H → va_D A ws2 → va_S A s.heap H locs → W p l e R s m args below meth c H locs cells slots Q (F0 m (pc + 3) ls rest)) : W p l e R s m args below meth c H locs cells slots Q (F0 m pc ls st0) := by
  have hFc := va_free (wc := wc) hD hS hA isC hC
  refine va_callv (hr (va_P_perm hP isC hC) (hD.sub isC hnc hC) hFc) hS (fun q _ h => hFc q h) hFc (fun u t H1 locs1 ht hvm hw hB hz1 hk1 hS1 => ?_)
  obtain ⟨hP1, hD1⟩ := hB
  rw [ht] at hP1
  obtain ⟨hP2, hD2⟩ := va_join hP hD isC isR hC hR hn hdis hk1 hFc hP1 hD1
  exact kk H1 locs1 (va_P_perm hP2 isP hp2) (hD2.sub isP hnp hp2) hS1
/-- a constructor: the callee's world w1 q for some q -/
theorem go_n {α : Type} {mc ms : Nat} {w1 : α → va_W} {ws2 : α → va_W} (hP : va_P G classes ws H) (hD : va_D A ws) (hS : va_S A s.heap H locs) (hA : ∀ q, s.heap.size ≤ q → A q) (isC isR isP : List Nat) (hC : isC.map (fun i => ws[i]?) = wc.map some) (hnc : va_nd isC = true) (hR : isR.map (fun i => ws[i]?) = wr.map some) (hn : va_nd isR = true) (hdis : ∀ i ∈ isR, i ∉ isC) (hp2 : ∀ q, isP.map (fun i => (wr ++ w1 q)[i]?) = (ws2 q).map some) (hnp : va_nd isP = true)
    (hr : va_P G classes wc H → va_D A wc → (∀ q, va_A wc H.size q → A q) → va_Run p l e R s m args below meth c H locs cells slots mc ms (F0 m pc ls st0) rest (Qn G w1 (va_A wc H.size) a) (va_A wc H.size))
    (kk : ∀ (q : α) (H : Heap) (locs : List Loc), va_P G classes (ws2 q) H → va_D A (ws2 q) → va_S A s.heap H locs → W p l e R s m args below meth c H locs (cells + mc) (slots + ms) Q (F0 m (pc + 3) ls rest)) : W p l e R s m args below meth c H locs cells slots Q (F0 m pc ls st0) := by
  have hFc := va_free (wc := wc) hD hS hA isC hC
  refine va_callv (hr (va_P_perm hP isC hC) (hD.sub isC hnc hC) hFc) hS (fun q _ h => hFc q h) hFc (fun u t H1 locs1 ht hvm hw hB hz1 hk1 hS1 => ?_)
  obtain ⟨q, hP1, hD1⟩ := hB
  rw [ht] at hP1
  obtain ⟨hP2, hD2⟩ := va_join hP hD isC isR hC hR hn hdis hk1 hFc hP1 hD1
  exact kk q H1 locs1 (va_P_perm hP2 isP (hp2 q)) (hD2.sub isP hnp (hp2 q)) hS1
end GO
section RN
variable {p : Program} {l : Launch} {e : Env} {R : Room} {s : State} {m : MethodId} {args : Array Value} {below : List Frame} {meth : Method} {c : Code} {H : Heap} {locs : List Loc} {cells slots : Nat}
variable {pc : Nat} {ls : Array Slot} {rest st0 : List Value} {A : Nat → Prop} {G : va_G} {cB cI : ClassId} {aK aV : Nat → Nat} {wc : va_W}
variable {own : String} {cc ccM : ByteArray} {nL maxL idx : Nat} {y : MethodName} {rt ret : Option FieldType} {rm : Room} {Qc : Array Value → State → Outcome → State → Prop} {free : Addr → Prop} {b : Nat} {As : List Value}
def okM (y : MethodName) (cc : ByteArray) (maxL : Nat) (ret : Option FieldType) (n : Nat) : Prop := Cond.instanceMethod y ∈ wAll ∧ Cond.selects y.cls y y ∈ wAll ∧ Cond.initialized y.cls ∈ wAll ∧ Cond.code y cc maxL ret ∈ wAll ∧ (y.cls ≠ "java/lang/invoke/MethodHandle" ∧ y.cls ≠ "java/lang/invoke/VarHandle" ∧ (parseMethodDescriptor y.desc).map (fun d => d.parameters.length) = some n)
def okS (y : MethodName) (cc : ByteArray) (maxL : Nat) (ret : Option FieldType) (n : Nat) : Prop := Cond.static y ∈ wAll ∧ Cond.initialized y.cls ∈ wAll ∧ Cond.code y cc maxL ret ∈ wAll ∧ (y.cls ≠ "java/lang/invoke/MethodHandle" ∧ y.cls ≠ "java/lang/invoke/VarHandle" ∧ (parseMethodDescriptor y.desc).map (fun d => d.parameters.length) = some n)
def okN (y : MethodName) (cc : ByteArray) (maxL : Nat) (n : Nat) : Prop := Cond.instanceMethod y ∈ wAll ∧ Cond.initialized y.cls ∈ wAll ∧ Cond.code y cc maxL none ∈ wAll ∧ (y.cls ≠ "java/lang/invoke/MethodHandle" ∧ y.cls ≠ "java/lang/invoke/VarHandle" ∧ (parseMethodDescriptor y.desc).map (fun d => d.parameters.length) = some n) ∧ y.name = "<init>"
theorem rn_V {ci : Nat} {q : vw_C} {fs : List Value} (C : cx p s m args meth c own cc nL rt) (hK : kx G cB cI aK aV A s) (hM : Met l y (Cond.code y ccM maxL ret :: wAll) rm (va_Pc (.ref b :: As) (preW G cB cI aK aV wc H.size)) Qc rm.cells rm.slots free) (hrm : rm.cells = 0 ∧ rm.slots = 0) (h1 : Cond.methodLink own idx y ∈ wAll) (ho : okM y ccM maxL ret As.length)
    (hR : rm.frames + 1 ≤ R.frames ∧ 8 + (maxL + 11) + rm.locals ≤ R.locals) (hq : classes[ci]? = some q) (hqn : q.1 = y.cls) (hw0 : wc[0]? = some (b, .inr (ci, fs))) (hls : ls.size = nL) (hst : st0 = As.reverse ++ .ref b :: rest) (hrest : (rest.map fun v => v.category).sum ≤ 8) (hdg : decode cc pc = .ok (.invokevirtual idx, 3)) (hf : cells ≤ R.cells ∧ slots ≤ R.slots)
    (hS : va_S A s.heap H locs) (hP : va_P G classes wc H) (hD : va_D A wc) (hF : ∀ q, va_A wc H.size q → A q) : va_Run p l e R s m args below meth c H locs cells slots 0 0 (F0 m pc ls st0) rest (Qc (Value.ref b :: As).toArray) free := by
  obtain ⟨hx, hb, -, hml, hown, hts, -⟩ := C
  obtain ⟨o1, o2, o3, o4, o5⟩ := ho
  rw [hrm.1, hrm.2] at hM
  exact va_runV (Ts := wAll) ⟨hx, hb, hml, hown, hts⟩ hM (cwV As.length hts (gV h1 o1 o2 o3 o4) rfl hrm.1 hrm.2 ⟨rfl, o5⟩ hR) ⟨preW_blind, by rw [← hqn]; exact va_recv hK.1 hP hq hw0, preW_at hK hS hF hP hD⟩ rfl rfl hls hst (lv_room (m := m) (pc := pc) (ls := ls) (rest := st0) hrest) hdg hf
theorem rn_VS (C : cx p s m args meth c own cc nL rt) (hK : kx G cB cI aK aV A s) (hM : Met l y (Cond.code y ccM maxL ret :: wAll) rm (va_Pc (.ref b :: As) (preW G cB cI aK aV wc H.size)) Qc rm.cells rm.slots free) (hrm : rm.cells = 0 ∧ rm.slots = 0) (h1 : Cond.methodLink own idx y ∈ wAll) (ho : okM y ccM maxL ret As.length)
    (hR : rm.frames + 1 ≤ R.frames ∧ 8 + (maxL + 11) + rm.locals ≤ R.locals) (hrecv : ∃ cell : Cell, H[b]? = some cell ∧ cell.vm.isStatics = false ∧ s.vm.findClass y.cls = some cell.cls) (hls : ls.size = nL) (hst : st0 = As.reverse ++ .ref b :: rest) (hrest : (rest.map fun v => v.category).sum ≤ 8) (hdg : decode cc pc = .ok (.invokevirtual idx, 3)) (hf : cells ≤ R.cells ∧ slots ≤ R.slots)
    (hS : va_S A s.heap H locs) (hP : va_P G classes wc H) (hD : va_D A wc) (hF : ∀ q, va_A wc H.size q → A q) : va_Run p l e R s m args below meth c H locs cells slots 0 0 (F0 m pc ls st0) rest (Qc (Value.ref b :: As).toArray) free := by
  obtain ⟨hx, hb, -, hml, hown, hts, -⟩ := C
  obtain ⟨o1, o2, o3, o4, o5⟩ := ho
  rw [hrm.1, hrm.2] at hM
  exact va_runV (Ts := wAll) ⟨hx, hb, hml, hown, hts⟩ hM (cwV As.length hts (gV h1 o1 o2 o3 o4) rfl hrm.1 hrm.2 ⟨rfl, o5⟩ hR) ⟨preW_blind, hrecv, preW_at hK hS hF hP hD⟩ rfl rfl hls hst (lv_room (m := m) (pc := pc) (ls := ls) (rest := st0) hrest) hdg hf
theorem rn_VN {ci : Nat} {q : vw_C} {fs : List Value} {host : String} (C : cx p s m args meth c own cc nL rt) (hK : kx G cB cI aK aV A s) (hM : Met l y (Cond.code y ccM maxL ret :: wAll) rm (va_Pc (.ref b :: As) (preW G cB cI aK aV wc H.size)) Qc rm.cells rm.slots free) (hrm : rm.cells = 0 ∧ rm.slots = 0) (h1 : Cond.methodLinkNest own idx y host ∈ nwAll) (ho : okM y ccM maxL ret As.length)
    (hR : rm.frames + 1 ≤ R.frames ∧ 8 + (maxL + 11) + rm.locals ≤ R.locals) (hq : classes[ci]? = some q) (hqn : q.1 = y.cls) (hw0 : wc[0]? = some (b, .inr (ci, fs))) (hls : ls.size = nL) (hst : st0 = As.reverse ++ .ref b :: rest) (hrest : (rest.map fun v => v.category).sum ≤ 8) (hdg : decode cc pc = .ok (.invokevirtual idx, 3)) (hf : cells ≤ R.cells ∧ slots ≤ R.slots)
    (hS : va_S A s.heap H locs) (hP : va_P G classes wc H) (hD : va_D A wc) (hF : ∀ q, va_A wc H.size q → A q) : va_Run p l e R s m args below meth c H locs cells slots 0 0 (F0 m pc ls st0) rest (Qc (Value.ref b :: As).toArray) free := by
  obtain ⟨hx, hb, -, hml, hown, hts, -⟩ := C
  obtain ⟨o1, o2, o3, o4, o5⟩ := ho
  rw [hrm.1, hrm.2] at hM
  exact va_runVN (Ts := wAll) ⟨hx, hb, hml, hown, hts⟩ hM ⟨va_cnB As.length hts (gC o4) rfl hrm.1 hrm.2 (hK.2.1 _ h1) (hts _ o3) o5 hR, hts _ o1, hts _ o2⟩ ⟨preW_blind, by rw [← hqn]; exact va_recv hK.1 hP hq hw0, preW_at hK hS hF hP hD⟩ rfl rfl hls hst (lv_room (m := m) (pc := pc) (ls := ls) (rest := st0) hrest) hdg hf
theorem rn_S (C : cx p s m args meth c own cc nL rt) (hK : kx G cB cI aK aV A s) (hM : Met l y (Cond.code y ccM maxL ret :: wAll) rm (va_Pc As (preW G cB cI aK aV wc H.size)) Qc rm.cells rm.slots free) (hrm : rm.cells = 0 ∧ rm.slots = 0) (h1 : Cond.methodLink own idx y ∈ wAll) (ho : okS y ccM maxL ret As.length)
    (hR : rm.frames + 1 ≤ R.frames ∧ 8 + (maxL + 11) + rm.locals ≤ R.locals) (hls : ls.size = nL) (hst : st0 = As.reverse ++ rest) (hrest : (rest.map fun v => v.category).sum ≤ 8) (hdg : decode cc pc = .ok (.invokestatic idx, 3)) (hf : cells ≤ R.cells ∧ slots ≤ R.slots)
    (hS : va_S A s.heap H locs) (hP : va_P G classes wc H) (hD : va_D A wc) (hF : ∀ q, va_A wc H.size q → A q) : va_Run p l e R s m args below meth c H locs cells slots 0 0 (F0 m pc ls st0) rest (Qc As.toArray) free := by
  obtain ⟨hx, hb, -, hml, hown, hts, -⟩ := C
  obtain ⟨o1, o3, o4, o5⟩ := ho
  rw [hrm.1, hrm.2] at hM
  exact va_runS (Ts := wAll) ⟨hx, hb, hml, hown, hts⟩ hM (va_cwS As.length hts (gS h1 o1 o3 o4) rfl hrm.1 hrm.2 o5 hR) ⟨preW_blind, preW_at hK hS hF hP hD⟩ rfl rfl hls hst (lv_room (m := m) (pc := pc) (ls := ls) (rest := st0) hrest) hdg hf
theorem rn_SN {host : String} (C : cx p s m args meth c own cc nL rt) (hK : kx G cB cI aK aV A s) (hM : Met l y (Cond.code y ccM maxL ret :: wAll) rm (va_Pc As (preW G cB cI aK aV wc H.size)) Qc rm.cells rm.slots free) (hrm : rm.cells = 0 ∧ rm.slots = 0) (h1 : Cond.methodLinkNest own idx y host ∈ nwAll) (ho : okS y ccM maxL ret As.length)
    (hR : rm.frames + 1 ≤ R.frames ∧ 8 + (maxL + 11) + rm.locals ≤ R.locals) (hls : ls.size = nL) (hst : st0 = As.reverse ++ rest) (hrest : (rest.map fun v => v.category).sum ≤ 8) (hdg : decode cc pc = .ok (.invokestatic idx, 3)) (hf : cells ≤ R.cells ∧ slots ≤ R.slots)
    (hS : va_S A s.heap H locs) (hP : va_P G classes wc H) (hD : va_D A wc) (hF : ∀ q, va_A wc H.size q → A q) : va_Run p l e R s m args below meth c H locs cells slots 0 0 (F0 m pc ls st0) rest (Qc As.toArray) free := by
  obtain ⟨hx, hb, -, hml, hown, hts, -⟩ := C
  obtain ⟨o1, o3, o4, o5⟩ := ho
  rw [hrm.1, hrm.2] at hM
  exact va_runSN (Ts := wAll) ⟨hx, hb, hml, hown, hts⟩ hM ⟨va_cnB As.length hts (gC o4) rfl hrm.1 hrm.2 (hK.2.1 _ h1) (hts _ o3) o5 hR, hts _ o1, trivial⟩ ⟨preW_blind, preW_at hK hS hF hP hD⟩ rfl rfl hls hst (lv_room (m := m) (pc := pc) (ls := ls) (rest := st0) hrest) hdg hf
theorem rn_I (C : cx p s m args meth c own cc nL rt) (hK : kx G cB cI aK aV A s) (hM : Met l y (Cond.code y ccM maxL none :: wAll) rm (va_Pc (.ref b :: As) (preW G cB cI aK aV wc H.size)) Qc rm.cells rm.slots free) (h1 : Cond.methodLink own idx y ∈ wAll) (ho : okN y ccM maxL As.length)
    (hR : rm.frames + 1 ≤ R.frames ∧ 8 + (maxL + 11) + rm.locals ≤ R.locals) (hls : ls.size = nL) (hst : st0 = As.reverse ++ .ref b :: rest) (hrest : (rest.map fun v => v.category).sum ≤ 8) (hdg : decode cc pc = .ok (.invokespecial idx, 3)) (hf : cells + rm.cells ≤ R.cells ∧ slots + rm.slots ≤ R.slots)
    (hS : va_S A s.heap H locs) (hP : va_P G classes wc H) (hD : va_D A wc) (hF : ∀ q, va_A wc H.size q → A q) : va_Run p l e R s m args below meth c H locs cells slots rm.cells rm.slots (F0 m pc ls st0) rest (Qc (Value.ref b :: As).toArray) free := by
  obtain ⟨hx, hb, -, hml, hown, hts, -⟩ := C
  obtain ⟨o1, o3, o4, o5, o6⟩ := ho
  exact va_runI (Ts := wAll) ⟨hx, hb, hml, hown, hts⟩ hM (cwI As.length hts (gC o4) rfl rfl rfl (hts _ o3) (hts _ h1) (hts _ o1) o6 o5 hR) ⟨preW_blind, preW_at hK hS hF hP hD⟩ rfl rfl hls hst (lv_room (m := m) (pc := pc) (ls := ls) (rest := st0) hrest) hdg hf
theorem rn_IN {host : String} (C : cx p s m args meth c own cc nL rt) (hK : kx G cB cI aK aV A s) (hM : Met l y (Cond.code y ccM maxL none :: wAll) rm (va_Pc (.ref b :: As) (preW G cB cI aK aV wc H.size)) Qc rm.cells rm.slots free) (h1 : Cond.methodLinkNest own idx y host ∈ nwAll) (ho : okN y ccM maxL As.length)
    (hR : rm.frames + 1 ≤ R.frames ∧ 8 + (maxL + 11) + rm.locals ≤ R.locals) (hls : ls.size = nL) (hst : st0 = As.reverse ++ .ref b :: rest) (hrest : (rest.map fun v => v.category).sum ≤ 8) (hdg : decode cc pc = .ok (.invokespecial idx, 3)) (hf : cells + rm.cells ≤ R.cells ∧ slots + rm.slots ≤ R.slots)
    (hS : va_S A s.heap H locs) (hP : va_P G classes wc H) (hD : va_D A wc) (hF : ∀ q, va_A wc H.size q → A q) : va_Run p l e R s m args below meth c H locs cells slots rm.cells rm.slots (F0 m pc ls st0) rest (Qc (Value.ref b :: As).toArray) free := by
  obtain ⟨hx, hb, -, hml, hown, hts, -⟩ := C
  obtain ⟨o1, o3, o4, o5, o6⟩ := ho
  exact va_runIN (Ts := wAll) ⟨hx, hb, hml, hown, hts⟩ hM ⟨va_cnB As.length hts (gC o4) rfl rfl rfl (hK.2.1 _ h1) (hts _ o3) o5 hR, o6, hts _ o1⟩ ⟨preW_blind, preW_at hK hS hF hP hD⟩ rfl rfl hls hst (lv_room (m := m) (pc := pc) (ls := ls) (rest := st0) hrest) hdg hf
end RN
def bz (v : Int32) : Bool := decide (v = 0 ∨ v = 1)
theorem bz_n {v : Int32} (h : bz v = true) : narrow .boolean (.int v) = .int v := by
  rcases of_decide_eq_true h with rfl | rfl <;> rfl
theorem bz_f {v : Int32} (h : bz v = true) : fits .boolean (.int v) = true := by
  rcases of_decide_eq_true h with rfl | rfl <;> rfl
section NA
variable {p : Program} {l : Launch} {e : Env} {R : Room} {s : State} {m : MethodId} {args : Array Value} {below : List Frame} {meth : Method} {c : Code} {H : Heap} {locs : List Loc} {cells slots : Nat} {Q : State → Prop}
variable {cc : ByteArray} {pc : Nat} {ls : Array Slot} {rest : List Value} {A : Nat → Prop} {G : va_G} {cB cI : ClassId} {aK aV : Nat → Nat} {ws : va_W}
theorem na_B (hx : p.tables.exec = Jvm.exec) (hb : c.code = cc) (harr : (Cond.arrayClass .byte).before args s = true) (hK : kx G cB cI aK aV A s) (hP : va_P G classes ws H) (hD : va_D A ws) (hS : va_S A s.heap H locs) (hA : ∀ q, s.heap.size ≤ q → A q) {n : Int32} {N' : Nat} (hn : ¬ n < 0) (hN : n.toNatClampNeg = N') (hby : N' ≤ 536870912) (hcells : cells + 1 ≤ R.cells) (hslots : slots + N' ≤ R.slots) (hdg : decode cc pc = .ok (.newarray .byte, 2))
    (kk : ∀ (q : Nat) (H : Heap), va_P G classes (ws ++ [(q, .inl (cB, N', .inl (fun _ => 0)))]) H → va_D A (ws ++ [(q, .inl (cB, N', .inl (fun _ => 0)))]) → va_S A s.heap H locs → W p l e R s m args below meth c H locs (cells + 1) (slots + N') Q (F0 m (pc + 2) ls (.ref q :: rest))) : W p l e R s m args below meth c H locs cells slots Q (F0 m pc ls (.int n :: rest)) := by
  refine va_newa (atype := .byte) (ty := .byte) (a0 := (N', .inl (fun _ => 0))) hx hb harr rfl hK.1 hP hD hS hA (fun _ => rfl) hn hN (by show N' * 1 ≤ _; omega) hcells hslots hdg (fun q cA H1 hK1 hP1 hD1 hS1 => ?_)
  have e1 : s.vm.findClass _ = some cB := (hK1.2 0 _ rfl).2
  have e2 : s.vm.findClass _ = some cA := (hK1.2 2 _ rfl).2
  obtain rfl : cA = cB := Option.some.inj (e2.symm.trans e1)
  exact kk q H1 hP1 hD1 hS1
theorem na_I (hx : p.tables.exec = Jvm.exec) (hb : c.code = cc) (harr : (Cond.arrayClass .int).before args s = true) (hK : kx G cB cI aK aV A s) (hP : va_P G classes ws H) (hD : va_D A ws) (hS : va_S A s.heap H locs) (hA : ∀ q, s.heap.size ≤ q → A q) {n : Int32} {N' : Nat} (hn : ¬ n < 0) (hN : n.toNatClampNeg = N') (hby : N' ≤ 1000000) (hcells : cells + 1 ≤ R.cells) (hslots : slots + N' ≤ R.slots) (hdg : decode cc pc = .ok (.newarray .int, 2))
    (kk : ∀ (q : Nat) (H : Heap), va_P G classes (ws ++ [(q, .inl (cI, N', .inl (fun _ => 0)))]) H → va_D A (ws ++ [(q, .inl (cI, N', .inl (fun _ => 0)))]) → va_S A s.heap H locs → W p l e R s m args below meth c H locs (cells + 1) (slots + N') Q (F0 m (pc + 2) ls (.ref q :: rest))) : W p l e R s m args below meth c H locs cells slots Q (F0 m pc ls (.int n :: rest)) := by
  refine va_newa (atype := .int) (ty := .int) (a0 := (N', .inl (fun _ => 0))) hx hb harr rfl hK.1 hP hD hS hA (fun _ => rfl) hn hN (by show N' * 4 ≤ _; omega) hcells hslots hdg (fun q cA H1 hK1 hP1 hD1 hS1 => ?_)
  have e1 : s.vm.findClass _ = some cI := (hK1.2 1 _ rfl).2
  have e2 : s.vm.findClass _ = some cA := (hK1.2 2 _ rfl).2
  obtain rfl : cA = cI := Option.some.inj (e2.symm.trans e1)
  exact kk q H1 hP1 hD1 hS1
end NA
