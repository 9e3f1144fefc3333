/-! PURE SIDE 9: the parts of a value, byte by byte -/
/-- angle, depth, quoted, escaped, what is kept of the part -/
abbrev PS : Type := Nat × Nat × Bool × Bool × List Int32
def keepS (ag : Nat) (op : List Int32) (c : Int32) : List Int32 := if ag = 2 then op else op ++ [c]
def stepP (ag dp : Nat) (qt es : Bool) (op : List Int32) (c : Int32) : PS :=
    if 0 < dp then (if es = true then (ag, dp, qt, false, op) else if c = 92 then (ag, dp, qt, true, op) else if c = 40 then (ag, dp + 1, qt, es, op) else if c = 41 then (ag, dp - 1, qt, es, op) else (ag, dp, qt, es, op))
    else if qt = true then (if es = true then (ag, dp, qt, false, keepS ag op c) else if c = 92 then (ag, dp, qt, true, keepS ag op c) else if c = 34 then (ag, dp, false, es, keepS ag op c) else (ag, dp, qt, es, keepS ag op c))
    else if c = 40 then (ag, 1, qt, es, op)
    else if c = 60 ∧ ag = 0 then (1, dp, qt, es, [])
    else if c = 62 ∧ ag = 1 then (2, dp, qt, es, op)
    else if bl c = true then (ag, dp, qt, es, op)
    else (ag, dp, decide (c = 34), es, keepS ag op c)
def stepS (s : PS) (c : Int32) : PS := stepP s.1 s.2.1 s.2.2.1 s.2.2.2.1 s.2.2.2.2 c
def endP (ag dp : Nat) (qt : Bool) (c : Int32) : Bool := decide (dp = 0 ∧ qt = false ∧ c = 44 ∧ ag ≠ 1)
def endS (s : PS) (c : Int32) : Bool := endP s.1 s.2.1 s.2.2.1 c
def s0 : PS := (0, 0, false, false, [])
def prun (a : Nat → Int32) : Nat → PS → Nat → PS × Nat
  | 0, s, q => (s, q)
  | k + 1, s, q => if endS s (a q) = true then (s, q) else prun a k (stepS s (a q)) (q + 1)
def b01 (b : Bool) : Int32 := if b = true then 1 else 0
theorem b01_0 {b : Bool} {α : Type} {x y : α} : (if b01 b = 0 then x else y) = (if b = true then y else x) := pq_if10
theorem keepS_len (ag : Nat) (op : List Int32) (c : Int32) : (keepS ag op c).length ≤ op.length + 1 := by
  unfold keepS
  split
  · omega
  · simp
theorem stepP_inv (ag dp : Nat) (qt es : Bool) (op : List Int32) (c : Int32) (h : ag ≤ 2) : (stepP ag dp qt es op c).1 ≤ 2 ∧ (stepP ag dp qt es op c).2.1 ≤ dp + 1 ∧ (stepP ag dp qt es op c).2.2.2.2.length ≤ op.length + 1 := by
  have hk := keepS_len ag op c
  unfold stepP
  repeat' split
  all_goals (refine ⟨?_, ?_, ?_⟩ <;> first | omega | (simp; done) | (simp; omega))
theorem pq_keep (N : Nat) {fs fos ol : Int32} {row fst fle : Nat → Int32} {Tf : List (List Int32)} {op : List Int32} {c : Int32} {ag : Nat} (h : TX fs fos ol row fst fle Tf op) (hc : isB c) (hl : tot Tf + op.length < 300) (ha : ag ≤ 2) :
    ∃ ol' row', f_Ad_keep N c (nI ag) fos ol row = some (ol', row') ∧ TX fs fos ol' row' fst fle Tf (keepS ag op c) := by
  unfold f_Ad_keep keepS
  rw [pq_2]
  simp (disch := omega) only [pq_eq]
  by_cases h1 : ag = 2
  · rw [if_pos h1, if_pos h1]
    exact ⟨_, _, rfl, h⟩
  · rw [if_neg h1, if_neg h1]
    obtain ⟨row', e1, e2⟩ := TX_append N h hc hl
    rw [e1]
    exact ⟨_, _, rfl, e2⟩
theorem pq_brackets (N : Nat) {dp : Nat} {es : Bool} {c : Int32} (hd : dp < 1000) (h0 : 0 < dp) (ag : Nat) (qt : Bool) (op : List Int32) : f_Ad_takeInBrackets N c (nI dp) (b01 es) = some (nI (stepP ag dp qt es op c).2.1, b01 (stepP ag dp qt es op c).2.2.2.1) ∧ (stepP ag dp qt es op c).1 = ag ∧ (stepP ag dp qt es op c).2.2.1 = qt ∧ (stepP ag dp qt es op c).2.2.2.2 = op := by
  unfold f_Ad_takeInBrackets stepP
  rw [if_pos h0, b01_0, nI_1]
  cases es with
  | true => simp [b01]
  | false =>
    simp only [Bool.false_eq_true, if_false]
    by_cases h1 : c = 92
    · simp [h1, b01]
    · by_cases h2 : c = 40
      · simp [h2, b01]
      · by_cases h3 : c = 41
        · simp only [h3]
          simp [b01]
          rw [pq_1, pk_sub (by omega)]
        · simp [h1, h2, h3, b01]
theorem pq_quotes (N : Nat) {fs fos ol : Int32} {row fst fle : Nat → Int32} {Tf : List (List Int32)} {op : List Int32} {c : Int32} {ag : Nat} {es : Bool} (h : TX fs fos ol row fst fle Tf op) (hc : isB c) (hl : tot Tf + op.length < 300) (ha : ag ≤ 2) :
    ∃ ol' row', f_Ad_takeInQuotes N c (nI ag) (b01 true) (b01 es) fos ol row = some (b01 (stepP ag 0 true es op c).2.2.1, b01 (stepP ag 0 true es op c).2.2.2.1, ol', row') ∧ TX fs fos ol' row' fst fle Tf (stepP ag 0 true es op c).2.2.2.2 ∧ (stepP ag 0 true es op c).1 = ag ∧ (stepP ag 0 true es op c).2.1 = 0 := by
  obtain ⟨ol', row', e1, e2⟩ := pq_keep N h hc hl ha
  refine ⟨ol', row', ?_⟩
  unfold f_Ad_takeInQuotes
  rw [e1]
  simp only [Option.bind_some]
  rw [b01_0]
  unfold stepP
  simp only [Nat.lt_irrefl, if_false, if_true]
  cases es with
  | true => exact ⟨(by first | rfl | trivial), e2, (by first | rfl | trivial), (by first | rfl | trivial)⟩
  | false =>
    simp only [Bool.false_eq_true, if_false]
    by_cases h1 : c = 92
    · simp only [h1, if_true] at e2 ⊢
      exact ⟨(by first | rfl | trivial), e2, (by first | rfl | trivial), (by first | rfl | trivial)⟩
    · by_cases h2 : c = 34
      · simp only [h1, h2, if_true, if_false] at e2 ⊢
        exact ⟨(by first | rfl | trivial), e2, (by first | rfl | trivial), (by first | rfl | trivial)⟩
      · simp only [h1, h2, if_false] at e2 ⊢
        exact ⟨(by first | rfl | trivial), e2, (by first | rfl | trivial), (by first | rfl | trivial)⟩
theorem pq_plain (N : Nat) {fs fos ol : Int32} {row fst fle : Nat → Int32} {Tf : List (List Int32)} {op : List Int32} {c : Int32} {ag : Nat} {es : Bool} (h : TX fs fos ol row fst fle Tf op) (hc : isB c) (hl : tot Tf + op.length < 300) (ha : ag ≤ 2) :
    ∃ ol' row', f_Ad_takePlain N c (nI ag) (nI 0) (b01 false) fos ol row = some (nI (stepP ag 0 false es op c).1, nI (stepP ag 0 false es op c).2.1, b01 (stepP ag 0 false es op c).2.2.1, ol', row') ∧ TX fs fos ol' row' fst fle Tf (stepP ag 0 false es op c).2.2.2.2 ∧ (stepP ag 0 false es op c).2.2.2.1 = es := by
  have a0 : (nI ag = 0) = (ag = 0) := by rw [pq_0]; exact pq_eq (by omega) (by omega)
  have a1 : (nI ag = 1) = (ag = 1) := by rw [pq_1]; exact pq_eq (by omega) (by omega)
  have k64 : ∃ ol' row', f_Ad_takePlain_64 N c fos (nI ag) (nI 0) (b01 false) ol row = some (nI ag, nI 0, (if bl c = true then b01 false else b01 (decide (c = 34))), ol', row') ∧ TX fs fos ol' row' fst fle Tf (if bl c = true then op else keepS ag op c) := by
    unfold f_Ad_takePlain_64
    rw [pq_isBlank]
    simp only [Option.bind_some]
    rw [pq_if10]
    by_cases h1 : bl c = true
    · rw [if_pos h1, if_pos h1, if_pos h1]
      exact ⟨_, _, rfl, h⟩
    · rw [if_neg h1, if_neg h1, if_neg h1]
      obtain ⟨ol', row', e1, e2⟩ := pq_keep N h hc hl ha
      rw [e1]
      refine ⟨ol', row', ?_, e2⟩
      by_cases h2 : c = 34
      · rw [if_pos h2]
        simp [h2, b01]
      · rw [if_neg h2]
        simp [h2, b01]
  obtain ⟨ol', row', e1, e2⟩ := k64
  unfold f_Ad_takePlain f_Ad_takePlain_42 stepP
  simp only [Nat.lt_irrefl, if_false, Bool.false_eq_true, a0, a1, e1]
  by_cases h1 : c = 40
  · simp only [h1, if_true]
    exact ⟨_, _, rfl, h, (by first | rfl | trivial)⟩
  · simp only [h1, if_false]
    by_cases h2 : c = 60
    · simp only [h2, true_and]
      by_cases h3 : ag = 0
      · simp only [h3, if_true]
        unfold f_Te_dropOpen
        exact ⟨_, _, rfl, TX_drop h, (by first | rfl | trivial)⟩
      · have h62 : ¬ (60 : Int32) = 62 := by decide
        have hb : ¬ bl 60 = true := by decide
        rw [h2] at e2
        simp only [h3, h62, hb, if_false, false_and] at e2 ⊢
        exact ⟨_, _, rfl, e2, (by first | rfl | trivial)⟩
    · simp only [h2, if_false, false_and]
      by_cases h4 : c = 62
      · simp only [h4, true_and, if_true]
        by_cases h5 : ag = 1
        · simp only [h5, if_true]
          exact ⟨_, _, rfl, h, (by first | rfl | trivial)⟩
        · have hb : ¬ bl 62 = true := by decide
          rw [h4] at e2
          simp only [h5, hb, if_false] at e2 ⊢
          exact ⟨_, _, rfl, e2, (by first | rfl | trivial)⟩
      · simp only [h4, if_false, false_and]
        by_cases h6 : bl c = true
        · simp only [h6, if_true] at e2 ⊢
          exact ⟨_, _, rfl, e2, (by first | rfl | trivial)⟩
        · simp only [h6, if_false] at e2 ⊢
          exact ⟨_, _, rfl, e2, (by first | rfl | trivial)⟩
