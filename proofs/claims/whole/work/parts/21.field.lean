/-! PURE SIDE 2: where a field's name and colon stand -/
def sWh (q : Int32 → Bool) (t : Nat → Int32) : Nat → Nat → Nat
  | 0, p => p
  | k + 1, p => if q (t p) = true then sWh q t k (p + 1) else p
def scan (q : Int32 → Bool) (t : Nat → Int32) (n p : Nat) : Nat := sWh q t (n - p) p
theorem sWh_le (q : Int32 → Bool) (t : Nat → Int32) : ∀ k p, p ≤ sWh q t k p ∧ sWh q t k p ≤ p + k := by
  intro k
  induction k with
  | zero => intro p; simp [sWh]
  | succ k ih =>
    intro p
    unfold sWh
    split
    · have := ih (p + 1); omega
    · omega
theorem sWh_stop (q : Int32 → Bool) (t : Nat → Int32) : ∀ k p, sWh q t k p < p + k → q (t (sWh q t k p)) = false := by
  intro k
  induction k with
  | zero => intro p h; simp [sWh] at h
  | succ k ih =>
    intro p
    unfold sWh
    split
    · intro h; exact ih (p + 1) (by omega)
    · next h1 => intro _; simpa using h1
theorem sWh_all (q : Int32 → Bool) (t : Nat → Int32) : ∀ k p j, p ≤ j → j < sWh q t k p → q (t j) = true := by
  intro k
  induction k with
  | zero => intro p j h1 h2; simp [sWh] at h2; omega
  | succ k ih =>
    intro p j h1
    unfold sWh
    split
    · next h => intro h2
                by_cases hj : j = p
                · rw [hj]; exact h
                · exact ih (p + 1) j (by omega) h2
    · intro h2; omega
theorem sWh_cut (q : Int32 → Bool) (t : Nat → Int32) {e n : Nat} (hen : e ≤ n) (he : e = n ∨ q (t e) = false) : ∀ k p, p + k = e → sWh q t k p = sWh q t (n - p) p := by
  intro k
  induction k with
  | zero =>
    intro p hp
    rcases he with he | he
    · rw [show n - p = 0 by omega]
    · have : p = e := by omega
      subst this
      cases hn : n - p with
      | zero => rfl
      | succ m => simp [sWh, he]
  | succ k ih =>
    intro p hp
    rw [show n - p = (n - (p + 1)) + 1 by omega, sWh, sWh, ih (p + 1) (by omega)]
theorem scan_le {q : Int32 → Bool} {t : Nat → Int32} {n p : Nat} (h : p ≤ n) : p ≤ scan q t n p ∧ scan q t n p ≤ n := by
  have := sWh_le q t (n - p) p
  unfold scan
  omega
theorem scan_stop {q : Int32 → Bool} {t : Nat → Int32} {n p : Nat} (h : p ≤ n) (h1 : scan q t n p < n) : q (t (scan q t n p)) = false := sWh_stop q t (n - p) p (by unfold scan at h1; omega)
theorem scan_all {q : Int32 → Bool} {t : Nat → Int32} {n p j : Nat} (h1 : p ≤ j) (h2 : j < scan q t n p) : q (t j) = true := sWh_all q t (n - p) p j h1 h2
def nEnd (t : Nat → Int32) (n p : Nat) : Nat := scan nmB t n p
def cEnd (t : Nat → Int32) (n p : Nat) : Nat := scan bl t n (nEnd t n p)
def isF (t : Nat → Int32) (n p : Nat) : Bool := decide (nEnd t n p ≠ p ∧ nEnd t n p - p ≤ 60 ∧ cEnd t n p < n ∧ t (cEnd t n p) = 58)
theorem pq_endOfName2 (N : Nat) {t row : Nat → Int32} {n : Nat} (hn : n ≤ 300) (h : MeR row t n) : ∀ k p f, p + k = n → k < f → f_Me_endOfName_2 N (nI n) row f (nI p) = some (nI (sWh nmB t k p)) := by
  intro k
  induction k with
  | zero =>
    intro p f hp hf
    obtain ⟨f, rfl⟩ : ∃ g, f = g + 1 := ⟨f - 1, by omega⟩
    rw [f_Me_endOfName_2, if_pos (nI_le (by omega) (by omega))]
    rfl
  | succ k ih =>
    intro p f hp hf
    obtain ⟨f, rfl⟩ : ∃ g, f = g + 1 := ⟨f - 1, by omega⟩
    rw [f_Me_endOfName_2, if_neg (nI_ge (by omega) (by omega)), pq_byteAt N hn (by omega) h, nI_1]
    simp only [Option.bind_some]
    rw [if_pos (show p < n by omega), pq_isName]
    simp only [Option.bind_some]
    rw [pq_if10, sWh, ih (p + 1) f (by omega) (by omega)]
    split <;> rfl
theorem pq_endOfName {N : Nat} {t row : Nat → Int32} {n p : Nat} (hN : 400 ≤ N) (hn : n ≤ 300) (h : MeR row t n) (hp : p ≤ n) : f_Me_endOfName N (nI p) (nI n) row = some (nI (nEnd t n p)) := by
  unfold f_Me_endOfName
  exact pq_endOfName2 N hn h (n - p) p N (by omega) (by omega)
theorem pq_endOfBlanks2 (N : Nat) {t row : Nat → Int32} {n : Nat} (hn : n ≤ 300) (h : MeR row t n) : ∀ k p f, p + k = n → k < f → f_Me_endOfBlanks_2 N (nI n) row f (nI p) = some (nI (sWh bl t k p)) := by
  intro k
  induction k with
  | zero =>
    intro p f hp hf
    obtain ⟨f, rfl⟩ : ∃ g, f = g + 1 := ⟨f - 1, by omega⟩
    rw [f_Me_endOfBlanks_2, if_pos (nI_le (by omega) (by omega))]
    rfl
  | succ k ih =>
    intro p f hp hf
    obtain ⟨f, rfl⟩ : ∃ g, f = g + 1 := ⟨f - 1, by omega⟩
    rw [f_Me_endOfBlanks_2, if_neg (nI_ge (by omega) (by omega)), pq_byteAt N hn (by omega) h, nI_1]
    simp only [Option.bind_some]
    rw [if_pos (show p < n by omega), pq_isBlank]
    simp only [Option.bind_some]
    rw [pq_if10, sWh, ih (p + 1) f (by omega) (by omega)]
    split <;> rfl
theorem pq_endOfBlanks {N : Nat} {t row : Nat → Int32} {n p : Nat} (hN : 400 ≤ N) (hn : n ≤ 300) (h : MeR row t n) (hp : p ≤ n) : f_Me_endOfBlanks N (nI p) (nI n) row = some (nI (scan bl t n p)) := by
  unfold f_Me_endOfBlanks
  exact pq_endOfBlanks2 N hn h (n - p) p N (by omega) (by omega)
theorem pq_colon57 (N : Nat) {t text : Nat → Int32} {n e : Nat} (hn : n ≤ 300) (he : e ≤ n) (h : ∀ j, j < n → text j = t j) (x4 : Int32) : ∀ k q f, q + k = e → k < f → f_Mo_colon_57 N (nI n) text f (nI e) (nI q) x4 = f_Mo_colon_80 N (nI n) text (nI e) (nI (sWh bl t k q)) x4 := by
  intro k
  induction k with
  | zero =>
    intro p f hp hf
    obtain ⟨f, rfl⟩ : ∃ g, f = g + 1 := ⟨f - 1, by omega⟩
    rw [f_Mo_colon_57, if_pos (nI_le (by omega) (by omega))]
    rfl
  | succ k ih =>
    intro p f hp hf
    obtain ⟨f, rfl⟩ : ∃ g, f = g + 1 := ⟨f - 1, by omega⟩
    rw [f_Mo_colon_57, if_neg (nI_ge (by omega) (by omega)), nI_1]
    simp (disch := omega) only [pq_in, nI_clamp]
    rw [if_pos (by omega), h p (by omega), pq_blank]
    simp only [Option.bind_some]
    rw [pq_if10, sWh, ih (p + 1) f (by omega) (by omega)]
    split <;> rfl
theorem pq_colon8 (N : Nat) {t text : Nat → Int32} {n e s : Nat} (hn : n ≤ 300) (he : e ≤ n) (h : ∀ j, j < n → text j = t j) : ∀ k q f, q + k = e → k < f → f_Mo_colon_8 N (nI s) (nI n) text f (nI e) (nI q) = f_Mo_colon_57 N (nI n) text N (nI e) (nI (sWh nmB t k q)) (nI (sWh nmB t k q) - nI s) := by
  intro k
  induction k with
  | zero =>
    intro p f hp hf
    obtain ⟨f, rfl⟩ : ∃ g, f = g + 1 := ⟨f - 1, by omega⟩
    rw [f_Mo_colon_8, if_pos (nI_le (by omega) (by omega))]
    rfl
  | succ k ih =>
    intro p f hp hf
    obtain ⟨f, rfl⟩ : ∃ g, f = g + 1 := ⟨f - 1, by omega⟩
    rw [f_Mo_colon_8, if_neg (nI_ge (by omega) (by omega)), nI_1]
    simp (disch := omega) only [pq_in, nI_clamp, pq_toInt32, pq_toInt127]
    simp only [show p < 300 from by omega, if_true]
    rw [h p (by omega), sWh, ih (p + 1) f (by omega) (by omega)]
    unfold nmB
    by_cases h1 : (t p).toInt ≤ 32
    · rw [if_pos h1, if_neg]
      simp; omega
    · by_cases h2 : 127 ≤ (t p).toInt
      · rw [if_neg h1, if_pos h2, if_neg]
        simp; omega
      · by_cases h3 : t p = 58
        · rw [if_neg h1, if_neg h2, if_pos h3, if_neg]
          simp [h3]
        · rw [if_neg h1, if_neg h2, if_neg h3, if_pos]
          simp [h3]; omega
theorem pq_colon {N : Nat} {t text : Nat → Int32} {n p : Nat} (hN : 400 ≤ N) (hn : n ≤ 300) (h : ∀ j, j < n → text j = t j) (hp : p ≤ n) : f_Mo_colon N (nI p) (nI n) text = some (if isF t n p = true then nI (cEnd t n p) else -1) := by
  have hl := lEnd_le (t := t) hp
  unfold f_Mo_colon
  rw [pq_lineEnd hN hn h hp]
  simp only [Option.bind_some]
  have he : lEnd t n p = n ∨ t (lEnd t n p) = 13 := by
    by_cases h1 : lEnd t n p < n
    · exact Or.inr (lEnd_at hp h1).1
    · exact Or.inl (by omega)
  have h13 : nmB 13 = false ∧ bl 13 = false := by decide
  have e1 : sWh nmB t (lEnd t n p - p) p = nEnd t n p := sWh_cut nmB t hl.2 (by rcases he with h1 | h1; exact Or.inl h1; exact Or.inr (by rw [h1]; exact h13.1)) _ _ (by omega)
  have hn2 : nEnd t n p ≤ lEnd t n p := by rw [← e1]; have := (sWh_le nmB t (lEnd t n p - p) p).2; omega
  have hn1 : p ≤ nEnd t n p := (scan_le hp).1
  have e2 : sWh bl t (lEnd t n p - nEnd t n p) (nEnd t n p) = cEnd t n p := sWh_cut bl t hl.2 (by rcases he with h1 | h1; exact Or.inl h1; exact Or.inr (by rw [h1]; exact h13.2)) _ _ (by omega)
  have hc2 : cEnd t n p ≤ lEnd t n p := by rw [← e2]; have := (sWh_le bl t (lEnd t n p - nEnd t n p) (nEnd t n p)).2; omega
  rw [pq_colon8 N hn hl.2 h _ p N (show p + (lEnd t n p - p) = lEnd t n p by omega) (by omega), e1, pq_colon57 N hn hl.2 h _ _ _ N (show nEnd t n p + (lEnd t n p - nEnd t n p) = lEnd t n p by omega) (by omega), e2, pk_sub hn1]
  unfold f_Mo_colon_80 isF
  rw [pq_1, pq_60]
  simp (disch := omega) only [pq_lt, pq_le, pq_in, nI_clamp]
  by_cases h1 : nEnd t n p - p < 1
  · rw [if_pos h1, if_neg]
    simp; omega
  · rw [if_neg h1]
    by_cases h2 : 60 < nEnd t n p - p
    · rw [if_pos h2, if_neg]
      simp; omega
    · rw [if_neg h2]
      by_cases h3 : lEnd t n p ≤ cEnd t n p
      · rw [if_pos h3, if_neg]
        have h4 : cEnd t n p = lEnd t n p := by omega
        rw [h4]
        rcases he with h5 | h5
        · simp; omega
        · simp [h5]
      · rw [if_neg h3, if_pos (by omega), h _ (by omega)]
        by_cases h6 : t (cEnd t n p) = 58
        · rw [if_pos h6, if_pos]
          simp [h6]; omega
        · rw [if_neg h6, if_neg]
          simp [h6]
