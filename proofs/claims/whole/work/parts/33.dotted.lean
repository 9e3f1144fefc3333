/-! PURE SIDE 14: the class' check of an address -/
set_option maxRecDepth 100000 in
theorem word0 : ∀ b, b < 256 → b ≠ 46 → f_Ad_isWordByte lawN (nI b) 0 = some (b01 (wl (nI b))) := by decide +kernel
set_option maxRecDepth 100000 in
theorem word1 : ∀ b, b < 256 → f_Ad_isWordByte lawN (nI b) 1 = some (b01 (wd (nI b))) := by decide +kernel
def Pw (i : Nat) : Int32 → Bool := if i = 0 then wl else wd
theorem pq_word {i : Nat} (hi : i < 2) {c : Int32} (h : isB c) (h46 : c ≠ 46) : f_Ad_isWordByte lawN c i = some (b01 (Pw i c)) := by
  obtain ⟨b, hb, rfl⟩ := h
  rcases (show i = 0 ∨ i = 1 by omega) with rfl | rfl
  · exact word0 b hb (fun q => h46 (by rw [q]; rfl))
  · exact word1 b hb
section CDOT
variable {fs fos ol : Int32} {row fst fle : Nat → Int32} {Tf : List (List Int32)} {op : List Int32}
theorem dot22 (h : TX fs fos ol row fst fle Tf op) (hB : ∀ j, j < op.length → isB (at0 op j)) {i : Nat} (hi : i < 2) {e : Nat} (he : e ≤ op.length) : ∀ k q f b, q + k = e → k < f → f_Ad_isDotted_22 lawN (nI e) i fos ol row f (b01 b) (nI q) = some (b01 (dotOk (Pw i) (at0 op) k q b)) := by
  have hl := h.2.2.2.1
  intro k
  induction k with
  | zero =>
    intro q f b hq hf
    obtain ⟨f, rfl⟩ : ∃ g, f = g + 1 := ⟨f - 1, by omega⟩
    rw [f_Ad_isDotted_22, if_pos (nI_le (by omega) (by omega)), b01_0]
    unfold dotOk
    cases b <;> rfl
  | succ k ih =>
    intro q f b hq hf
    obtain ⟨f, rfl⟩ : ∃ g, f = g + 1 := ⟨f - 1, by omega⟩
    rw [f_Ad_isDotted_22, if_neg (nI_ge (by omega) (by omega)), TX_openByteAt lawN h (show q < op.length by omega)]
    simp only [Option.bind_some]
    have hat : op.getD q 0 = at0 op q := rfl
    rw [hat]
    unfold f_Ad_isDotted_51 dotOk
    rw [nI_1]
    by_cases h1 : at0 op q = 46
    · rw [if_pos h1, if_pos h1, if_neg (by decide), b01_0]
      cases b with
      | true => rfl
      | false =>
        simp only [Bool.false_eq_true, if_false]
        exact ih (q + 1) f true (by omega) (by omega)
    · rw [if_neg h1, if_neg h1, if_pos rfl, pq_word hi (hB q (by omega)) h1]
      simp only [Option.bind_some]
      rw [b01_0]
      by_cases h2 : Pw i (at0 op q) = true
      · rw [if_pos h2, if_pos h2]
        exact ih (q + 1) f false (by omega) (by omega)
      · rw [if_neg h2, if_neg h2]
        rfl
theorem dotC (h : TX fs fos ol row fst fle Tf op) (hB : ∀ j, j < op.length → isB (at0 op j)) {i : Nat} (hi : i < 2) {b e m : Nat} (hb : b ≤ e) (he : e ≤ op.length) (hm : m < 1000) : f_Ad_isDotted lawN (nI b) (nI e) (nI m) i fos ol row = some (b01 (decide (1 ≤ e - b ∧ e - b ≤ m) && dotOk (Pw i) (at0 op) (e - b) b true)) := by
  have hl := h.2.2.2.1
  unfold f_Ad_isDotted
  rw [pk_sub hb]
  by_cases h1 : e - b < 1
  · rw [if_pos (by rw [pq_1]; exact nI_lt h1 (by omega)), show decide (1 ≤ e - b ∧ e - b ≤ m) = false by simp; omega]
    rfl
  · rw [if_neg (by rw [pq_1]; exact nI_nlt (by omega) (by omega))]
    by_cases h2 : e - b ≤ m
    · rw [if_pos (nI_le h2 (by omega)), show decide (1 ≤ e - b ∧ e - b ≤ m) = true by simp; omega, Bool.true_and]
      exact dot22 h hB hi he (e - b) b lawN true (by omega) (by have := lawN_ge; omega)
    · rw [if_neg (nI_ge (by omega) (by omega)), show decide (1 ≤ e - b ∧ e - b ≤ m) = false by simp; omega]
      rfl
theorem at34 (h : TX fs fos ol row fst fle Tf op) (hB : ∀ j, j < op.length → isB (at0 op j)) : f_Ad_atSignOfOpen_34 lawN fos ol row (nI op.length) (nI (posA op)) = some (atS op) := by
  have hl := h.2.2.2.1
  have hp := posA_le op
  unfold f_Ad_atSignOfOpen_34
  have e1 := dotC h hB (i := 0) (by omega) (b := 0) (e := posA op) (m := 40) (by omega) hp (by omega)
  rw [show nI 0 = (0 : Int32) from rfl, show nI 40 = (40 : Int32) from rfl] at e1
  rw [e1]
  simp only [Option.bind_some]
  rw [b01_0]
  unfold atS okA
  rw [show Pw 0 = wl from rfl, Nat.sub_zero]
  by_cases h1 : (decide (1 ≤ posA op ∧ posA op ≤ 40) && dotOk wl (at0 op) (posA op) 0 true) = true
  · rw [if_pos h1, nI_1]
    rw [Bool.and_eq_true, decide_eq_true_eq] at h1
    by_cases h2 : posA op < op.length
    · have e2 := dotC h hB (i := 1) (by omega) (b := posA op + 1) (e := op.length) (m := 60) (by omega) (Nat.le_refl _) (by omega)
      rw [show nI 60 = (60 : Int32) from rfl] at e2
      rw [e2]
      simp only [Option.bind_some]
      rw [b01_0, show Pw 1 = wd from rfl, show op.length - (posA op + 1) = op.length - posA op - 1 by omega]
      by_cases h3 : (decide (1 ≤ op.length - posA op - 1 ∧ op.length - posA op - 1 ≤ 60) && dotOk wd (at0 op) (op.length - posA op - 1) (posA op + 1) true) = true
      · rw [if_pos h3]
        rw [Bool.and_eq_true, decide_eq_true_eq] at h3
        rw [if_neg (by decide), if_pos]
        simp [h1.2, h3.2]
        omega
      · rw [if_neg h3, if_pos trivial, if_neg]
        intro q
        apply h3
        rw [Bool.and_eq_true, Bool.and_eq_true, decide_eq_true_eq] at q
        rw [Bool.and_eq_true, decide_eq_true_eq]
        exact ⟨by omega, q.2.2⟩
    · have e3 : posA op = op.length := by omega
      unfold f_Ad_isDotted
      rw [e3, if_pos]
      · simp only [Option.bind_some]
        rw [if_pos trivial, if_pos trivial, if_neg]
        simp
        omega
      · have q := pk_sneg (a := op.length) (b := op.length + 1) (by omega) (by omega)
        exact Int32.lt_trans q (by decide)
  · rw [if_neg h1, if_pos trivial, if_neg]
    intro q
    apply h1
    rw [Bool.and_eq_true, Bool.and_eq_true, decide_eq_true_eq] at q
    rw [Bool.and_eq_true, decide_eq_true_eq]
    exact ⟨by omega, q.2.1⟩
theorem at10 (h : TX fs fos ol row fst fle Tf op) : ∀ k q f, q + k = op.length → k < f → f_Ad_atSignOfOpen_10 lawN fos ol row f (nI op.length) (nI q) = f_Ad_atSignOfOpen_34 lawN fos ol row (nI op.length) (nI (sWh n64 (at0 op) k q)) := by
  have hl := h.2.2.2.1
  intro k
  induction k with
  | zero =>
    intro q f hq hf
    obtain ⟨f, rfl⟩ : ∃ g, f = g + 1 := ⟨f - 1, by omega⟩
    rw [f_Ad_atSignOfOpen_10, if_pos (nI_le (by omega) (by omega))]
    rfl
  | succ k ih =>
    intro q f hq hf
    obtain ⟨f, rfl⟩ : ∃ g, f = g + 1 := ⟨f - 1, by omega⟩
    rw [f_Ad_atSignOfOpen_10, if_neg (nI_ge (by omega) (by omega)), TX_openByteAt lawN h (show q < op.length by omega), nI_1]
    simp only [Option.bind_some]
    have hat : op.getD q 0 = at0 op q := rfl
    rw [hat, sWh, ih (q + 1) f (by omega) (by omega)]
    unfold n64
    by_cases h1 : at0 op q = 64
    · rw [if_pos h1, if_neg (by simp [h1])]
    · rw [if_neg h1, if_pos (by simp [h1])]
theorem pq_atSign (h : TX fs fos ol row fst fle Tf op) (hB : ∀ j, j < op.length → isB (at0 op j)) : f_Ad_atSignOfOpen lawN fos ol row = some (atS op) := by
  have hl := h.2.2.2.1
  unfold f_Ad_atSignOfOpen
  rw [h.2.2.1, pq_0, ← h.2.2.1, show f_Ad_atSignOfOpen_10 lawN fos ol row lawN ol (nI 0) = f_Ad_atSignOfOpen_10 lawN fos ol row lawN (nI op.length) (nI 0) by rw [← h.2.2.1], at10 h op.length 0 lawN (by omega) (by have := lawN_ge; omega)]
  exact at34 h hB
end CDOT
