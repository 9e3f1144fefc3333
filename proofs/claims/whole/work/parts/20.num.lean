/-! PURE SIDE 1: numbers; the leaves -/
theorem pq_le {a b : Nat} (ha : a < 2 ^ 31) (hb : b < 2 ^ 31) : (nI a ≤ nI b) = (a ≤ b) := propext (nI_leI ha hb)
theorem pq_lt {a b : Nat} (ha : a < 2 ^ 31) (hb : b < 2 ^ 31) : (nI a < nI b) = (a < b) := propext (nI_ltI ha hb)
theorem pq_eq {a b : Nat} (ha : a < 2 ^ 31) (hb : b < 2 ^ 31) : (nI a = nI b) = (a = b) := propext (nI_eq ha hb)
theorem pq_in {a n : Nat} (ha : a < 2 ^ 31) : (inB (nI a) n = true) = (a < n) := by
  unfold inB
  rw [nI_toInt ha]
  simp
theorem pq_neg {a : Nat} (ha : a < 2 ^ 31) : (nI a < 0) = False := eq_false (nI_pos ha)
theorem pq_nonneg {a : Nat} (ha : a < 2 ^ 31) : ((0 : Int32) ≤ nI a) = True := eq_true (nI_pos' ha)
theorem pq_ne1 {a : Nat} (ha : a < 2 ^ 31) : (nI a = -1) = False := eq_false fun h => by
  have h1 := nI_pos ha
  rw [h] at h1
  exact h1 (by decide)
theorem pq_0 : (0 : Int32) = nI 0 := rfl
theorem pq_1 : (1 : Int32) = nI 1 := rfl
theorem pq_2 : (2 : Int32) = nI 2 := rfl
theorem pq_4 : (4 : Int32) = nI 4 := rfl
theorem pq_8 : (8 : Int32) = nI 8 := rfl
theorem pq_40 : (40 : Int32) = nI 40 := rfl
theorem pq_60 : (60 : Int32) = nI 60 := rfl
theorem pq_100 : (100 : Int32) = nI 100 := rfl
theorem pq_300 : (300 : Int32) = nI 300 := rfl
/-- blanks, name bytes -/
def bl (c : Int32) : Bool := decide (c = 32 ∨ c = 9)
def nmB (c : Int32) : Bool := decide (33 ≤ c.toInt ∧ c.toInt ≤ 126 ∧ c ≠ 58)
theorem pq_toInt33 (c : Int32) : (c < 33) = (c.toInt < 33) := propext (by rw [Int32.lt_iff_toInt_lt]; rfl)
theorem pq_toInt126 (c : Int32) : (126 < c) = (126 < c.toInt) := propext (by rw [Int32.lt_iff_toInt_lt]; rfl)
theorem pq_toInt32 (c : Int32) : (c ≤ 32) = (c.toInt ≤ 32) := propext (by rw [Int32.le_iff_toInt_le]; rfl)
theorem pq_toInt127 (c : Int32) : (127 ≤ c) = (127 ≤ c.toInt) := propext (by rw [Int32.le_iff_toInt_le]; rfl)
theorem pq_isBlank (N : Nat) (c : Int32) : f_De_isBlank N c = some (if bl c = true then 1 else 0) := by
  unfold f_De_isBlank bl
  by_cases h1 : c = 32
  · simp [h1]
  · by_cases h2 : c = 9
    · simp [h2]
    · simp [h1, h2]
theorem pq_blank (N : Nat) (c : Int32) : f_Mo_blank N c = some (if bl c = true then 1 else 0) := pq_isBlank N c
theorem pq_isName (N : Nat) (c : Int32) : f_Me_isNameByte N c = some (if nmB c = true then 1 else 0) := by
  unfold f_Me_isNameByte nmB
  simp only [pq_toInt33, pq_toInt126]
  by_cases h1 : c.toInt < 33
  · rw [if_pos h1, if_neg]
    simp; omega
  · by_cases h2 : 126 < c.toInt
    · rw [if_neg h1, if_pos h2, if_neg]
      simp; omega
    · by_cases h3 : c = 58
      · rw [if_neg h1, if_neg h2, if_pos h3, if_neg]
        simp [h3]
      · rw [if_neg h1, if_neg h2, if_neg h3, if_pos]
        simp [h3]; omega
theorem pq_if10 {b : Bool} {α : Type} {x y : α} : (if (if b = true then (1 : Int32) else 0) = 0 then x else y) = (if b = true then y else x) := by
  cases b <;> simp
/-- the bytes of a message: t at places below n -/
def Byt (t : Nat → Int32) (n : Nat) : Prop := ∀ j, j < n → ∃ b : Nat, b < 256 ∧ t j = nI b
def enc (c : Int32) : Int32 := vp_nar .byte c.toInt8.toInt32
theorem enc_255 {b : Nat} (h : b < 256) : enc (nI b) &&& 255 = nI b := by
  unfold enc
  rw [pk_vb]
  exact sc_k8 b h
def MeR (row : Nat → Int32) (t : Nat → Int32) (n : Nat) : Prop := ∀ j, j < n → row j &&& 255 = t j
theorem pq_byteAt (N : Nat) {t row : Nat → Int32} {n p : Nat} (hn : n ≤ 300) (hp : p ≤ 2000) (h : MeR row t n) : f_Me_byteAt N (nI p) (nI n) row = some (if p < n then t p else -1) := by
  unfold f_Me_byteAt
  rw [pq_300]
  simp (disch := omega) only [pq_neg, pq_le, pq_lt, pq_in, if_false]
  by_cases h1 : n ≤ p
  · rw [if_pos h1, if_neg (by omega)]
  · rw [if_neg h1, if_pos (by omega), if_pos (by omega), if_pos (by omega), nI_clamp (by omega), h p (by omega)]
/-- where the line ends: k steps are left -/
def sEnd (t : Nat → Int32) (n : Nat) : Nat → Nat → Nat
  | 0, p => p
  | k + 1, p => if t p = 13 ∧ p + 1 < n ∧ t (p + 1) = 10 then p else sEnd t n k (p + 1)
def lEnd (t : Nat → Int32) (n p : Nat) : Nat := sEnd t n (n - p) p
theorem sEnd_le (t : Nat → Int32) (n : Nat) : ∀ k p, p ≤ sEnd t n k p ∧ sEnd t n k p ≤ p + k := by
  intro k
  induction k with
  | zero => intro p; simp [sEnd]
  | succ k ih =>
    intro p
    unfold sEnd
    split
    · omega
    · have := ih (p + 1); omega
theorem lEnd_le {t : Nat → Int32} {n p : Nat} (h : p ≤ n) : p ≤ lEnd t n p ∧ lEnd t n p ≤ n := by
  have := sEnd_le t n (n - p) p
  unfold lEnd
  omega
/-- what stands at a line's end -/
theorem sEnd_at (t : Nat → Int32) (n : Nat) : ∀ k p, p + k = n → sEnd t n k p < n → t (sEnd t n k p) = 13 ∧ sEnd t n k p + 1 < n ∧ t (sEnd t n k p + 1) = 10 := by
  intro k
  induction k with
  | zero => intro p h h1; simp [sEnd] at h1; omega
  | succ k ih =>
    intro p h
    unfold sEnd
    split
    · next h2 => intro _; exact h2
    · intro h1; exact ih (p + 1) (by omega) h1
theorem lEnd_at {t : Nat → Int32} {n p : Nat} (h : p ≤ n) (h1 : lEnd t n p < n) : t (lEnd t n p) = 13 ∧ lEnd t n p + 1 < n ∧ t (lEnd t n p + 1) = 10 := sEnd_at t n (n - p) p (by omega) h1
theorem pq_endOfLine2 (N : Nat) {t row : Nat → Int32} {n : Nat} (hn : n ≤ 300) (h : MeR row t n) : ∀ k p f, p + k = n → k < f → f_Me_endOfLine_2 N (nI n) row f (nI p) = some (nI (sEnd t n k p)) := by
  intro k
  induction k with
  | zero =>
    intro p f hp hf
    obtain ⟨f, rfl⟩ : ∃ g, f = g + 1 := ⟨f - 1, by omega⟩
    rw [f_Me_endOfLine_2, if_pos (nI_le (by omega) (by omega))]
    have : p = n := by omega
    subst this
    rfl
  | succ k ih =>
    intro p f hp hf
    obtain ⟨f, rfl⟩ : ∃ g, f = g + 1 := ⟨f - 1, by omega⟩
    rw [f_Me_endOfLine_2, if_neg (nI_ge (by omega) (by omega)), pq_byteAt N hn (by omega) h, nI_1, pq_byteAt N hn (by omega) h]
    simp only [Option.bind_some]
    rw [if_pos (show p < n by omega), sEnd, ih (p + 1) f (by omega) (by omega)]
    by_cases h1 : t p = 13
    · rw [if_pos h1]
      by_cases h2 : p + 1 < n
      · rw [if_pos h2]
        by_cases h3 : t (p + 1) = 10
        · rw [if_pos h3, if_pos ⟨h1, h2, h3⟩]
        · rw [if_neg h3, if_neg (fun q => h3 q.2.2)]
      · rw [if_neg h2, if_neg (by decide), if_neg (fun q => h2 q.2.1)]
    · rw [if_neg h1, if_neg (fun q => h1 q.1)]
theorem pq_endOfLine {N : Nat} {t row : Nat → Int32} {n p : Nat} (hN : 400 ≤ N) (hn : n ≤ 300) (h : MeR row t n) (hp : p ≤ n) : f_Me_endOfLine N (nI p) (nI n) row = some (nI (lEnd t n p)) := by
  unfold f_Me_endOfLine
  exact pq_endOfLine2 N hn h (n - p) p N (by omega) (by omega)
theorem pq_lineEnd2 (N : Nat) {t text : Nat → Int32} {n : Nat} (hn : n ≤ 300) (h : ∀ j, j < n → text j = t j) : ∀ k p f, p + k = n → k < f → f_Mo_lineEnd_2 N (nI n) text f (nI p) = some (nI (sEnd t n k p)) := by
  intro k
  induction k with
  | zero =>
    intro p f hp hf
    obtain ⟨f, rfl⟩ : ∃ g, f = g + 1 := ⟨f - 1, by omega⟩
    rw [f_Mo_lineEnd_2, if_pos (nI_le (by omega) (by omega))]
    have : p = n := by omega
    subst this
    rfl
  | succ k ih =>
    intro p f hp hf
    obtain ⟨f, rfl⟩ : ∃ g, f = g + 1 := ⟨f - 1, by omega⟩
    rw [f_Mo_lineEnd_2, nI_1]
    simp (disch := omega) only [pq_le, pq_in, nI_clamp]
    rw [if_neg (by omega), if_pos (by omega), h p (by omega), sEnd, ih (p + 1) f (by omega) (by omega)]
    by_cases h1 : t p = 13
    · rw [if_pos h1]
      by_cases h2 : p + 1 < n
      · rw [if_neg (by omega), if_pos (by omega), h (p + 1) h2]
        by_cases h3 : t (p + 1) = 10
        · rw [if_pos h3, if_pos ⟨h1, h2, h3⟩]
        · rw [if_neg h3, if_neg (fun q => h3 q.2.2)]
      · rw [if_pos (by omega), if_neg (fun q => h2 q.2.1)]
    · rw [if_neg h1, if_neg (fun q => h1 q.1)]
theorem pq_lineEnd {N : Nat} {t text : Nat → Int32} {n p : Nat} (hN : 400 ≤ N) (hn : n ≤ 300) (h : ∀ j, j < n → text j = t j) (hp : p ≤ n) : f_Mo_lineEnd N (nI p) (nI n) text = some (nI (lEnd t n p)) := by
  unfold f_Mo_lineEnd
  exact pq_lineEnd2 N hn h (n - p) p N (by omega) (by omega)
