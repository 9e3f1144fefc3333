/-! PURE SIDE 12: which part is an address; the reference's at -/
def lawN : Nat := 4096
theorem lawN_ge : 400 ≤ lawN := by decide
def wl (c : Int32) : Bool := decide (f_Mo_local 0 c = some 1)
def wd (c : Int32) : Bool := decide (f_Mo_letter 0 c = some 1 ∨ c = 45)
def dotOk (P : Int32 → Bool) (a : Nat → Int32) : Nat → Nat → Bool → Bool
  | 0, _, b => !b
  | k + 1, q, b => if a q = 46 then (if b = true then false else dotOk P a k (q + 1) true) else (if P (a q) = true then dotOk P a k (q + 1) false else false)
def n64 (c : Int32) : Bool := decide (c ≠ 64)
def posA (w : List Int32) : Nat := sWh n64 (at0 w) w.length 0
def okA (w : List Int32) : Bool := decide (1 ≤ posA w ∧ posA w ≤ 40 ∧ posA w + 2 ≤ w.length ∧ w.length - posA w - 1 ≤ 60) && (dotOk wl (at0 w) (posA w) 0 true && dotOk wd (at0 w) (w.length - posA w - 1) (posA w + 1) true)
def atS (w : List Int32) : Int32 := if okA w = true then nI (posA w) else -1
theorem posA_le (w : List Int32) : posA w ≤ w.length := by have := sWh_le n64 (at0 w) w.length 0; unfold posA; omega
theorem posA_at {w : List Int32} (h : posA w < w.length) : at0 w (posA w) = 64 := by
  have := sWh_stop n64 (at0 w) w.length 0 (by unfold posA at h; omega)
  have h2 : n64 (at0 w (posA w)) = false := this
  unfold n64 at h2
  simpa using h2
set_option maxRecDepth 100000 in
theorem wl_byte : ∀ b, b < 256 → f_Mo_local 0 (nI b) = some (b01 (wl (nI b))) := by decide +kernel
set_option maxRecDepth 100000 in
theorem wd_byte : ∀ b, b < 256 → f_Mo_letter 0 (nI b) = some (b01 (decide (f_Mo_letter 0 (nI b) = some 1))) := by decide +kernel
theorem wl_46 : wl 46 = true := by decide +kernel
theorem wd_46 : wd 46 = false := by decide +kernel
theorem pq_local (N : Nat) {c : Int32} (h : isB c) : f_Mo_local N c = some (b01 (wl c)) := by
  obtain ⟨b, hb, rfl⟩ := h
  exact wl_byte b hb
theorem pq_letter (N : Nat) {c : Int32} (h : isB c) : f_Mo_letter N c = some (b01 (decide (f_Mo_letter 0 c = some 1))) := by
  obtain ⟨b, hb, rfl⟩ := h
  exact wd_byte b hb
section ATM
variable (N : Nat) {w : List Int32} {part : Nat → Int32}
theorem at_step (hB : ∀ j, j < w.length → isB (at0 w j)) (hV : VR part w) (hl : w.length ≤ 300) {a k f : Nat} (ha1 : 1 ≤ a) (ha : a < w.length) (ha64 : at0 w a = 64) (hk : k < w.length) :
    f_Mo_at_67 N (nI w.length) part (f + 1) (nI a) (nI k) = if (at0 w k = 46 ∧ ((k = 0 ∨ k + 1 = a ∨ k = a + 1 ∨ k + 1 = w.length) ∨ at0 w (k - 1) = 46)) ∨ ¬ ((k < a ∧ wl (at0 w k) = true) ∨ k = a ∨ (a < k ∧ (wd (at0 w k) = true ∨ at0 w k = 46))) then some (-1) else f_Mo_at_67 N (nI w.length) part f (nI a) (nI (k + 1)) := by
  have hpk : part k = at0 w k := hV k hk
  have h151 : ∀ (dot : Bool), (dot = true ↔ at0 w k = 46) → f_Mo_at_151 N (f_Mo_at_67 N (nI w.length) part f) (nI w.length) part (nI a) (nI k) (b01 dot) = if ¬ ((k < a ∧ wl (at0 w k) = true) ∨ k = a ∨ (a < k ∧ (wd (at0 w k) = true ∨ at0 w k = 46))) then some (-1) else f_Mo_at_67 N (nI w.length) part f (nI a) (nI (k + 1)) := by
    intro dot hdot
    unfold f_Mo_at_151
    rw [nI_1]
    simp (disch := omega) only [pq_le, pq_eq, pq_in, nI_clamp]
    simp only [show k < 300 from by omega, if_true, hpk, pq_local N (hB k hk), pq_letter N (hB k hk), Option.bind_some, b01_0]
    rw [if_neg (show ¬ (1 : Int32) = 0 by decide)]
    by_cases h1 : a ≤ k
    · rw [if_pos h1]
      by_cases h2 : k = a
      · rw [if_pos h2, if_neg (by simp [h2])]
      · rw [if_neg h2]
        by_cases h3 : f_Mo_letter 0 (at0 w k) = some 1
        · simp only [h3, decide_true, if_true]
          rw [if_neg]
          simp only [Classical.not_not]
          exact Or.inr (Or.inr ⟨by omega, Or.inl (by unfold wd; simp [h3])⟩)
        · simp only [h3, decide_false, Bool.false_eq_true, if_false]
          by_cases h4 : at0 w k = 45
          · rw [if_pos h4, if_neg]
            simp only [Classical.not_not]
            exact Or.inr (Or.inr ⟨by omega, Or.inl (by unfold wd; simp [h4])⟩)
          · rw [if_neg h4]
            by_cases h5 : at0 w k = 46
            · rw [if_pos (hdot.mpr h5), if_neg]
              simp only [Classical.not_not]
              exact Or.inr (Or.inr ⟨by omega, Or.inr h5⟩)
            · rw [if_neg (fun q => h5 (hdot.mp q)), if_pos]
              intro q
              rcases q with q | q | q
              · omega
              · omega
              · rcases q.2 with q2 | q2
                · unfold wd at q2
                  simp [h3, h4] at q2
                · exact h5 q2
    · rw [if_neg h1]
      by_cases h2 : wl (at0 w k) = true
      · rw [if_pos h2, if_neg]
        simp only [Classical.not_not]
        exact Or.inl ⟨by omega, h2⟩
      · rw [if_neg h2, if_pos]
        intro q
        rcases q with q | q | q
        · exact h2 q.2
        · omega
        · omega
  have h91 : ∀ (dot : Bool), (dot = true ↔ at0 w k = 46) → f_Mo_at_91 N (f_Mo_at_67 N (nI w.length) part f) (nI w.length) part (b01 dot) (nI a) (nI k) = if (at0 w k = 46 ∧ ((k = 0 ∨ k + 1 = a ∨ k = a + 1 ∨ k + 1 = w.length) ∨ at0 w (k - 1) = 46)) ∨ ¬ ((k < a ∧ wl (at0 w k) = true) ∨ k = a ∨ (a < k ∧ (wd (at0 w k) = true ∨ at0 w k = 46))) then some (-1) else f_Mo_at_67 N (nI w.length) part f (nI a) (nI (k + 1)) := by
    intro dot hdot
    have e125 : ∀ (edge : Bool), (edge = true ∨ 0 < k) → f_Mo_at_125 N (f_Mo_at_67 N (nI w.length) part f) (nI w.length) part (b01 edge) (nI a) (nI k) (b01 dot) = if (at0 w k = 46 ∧ (edge = true ∨ at0 w (k - 1) = 46)) ∨ ¬ ((k < a ∧ wl (at0 w k) = true) ∨ k = a ∨ (a < k ∧ (wd (at0 w k) = true ∨ at0 w k = 46))) then some (-1) else f_Mo_at_67 N (nI w.length) part f (nI a) (nI (k + 1)) := by
      intro edge hedge
      unfold f_Mo_at_125
      rw [b01_0, b01_0, h151 dot hdot]
      by_cases hd : at0 w k = 46
      · rw [if_pos (hdot.mpr hd)]
        cases edge with
        | true =>
          rw [if_pos rfl, if_pos (Or.inl ⟨hd, Or.inl rfl⟩)]
        | false =>
          have hk0 : 0 < k := by rcases hedge with h | h; cases h; exact h
          have hpk1 : part (k - 1) = at0 w (k - 1) := hV (k - 1) (by omega)
          simp only [Bool.false_eq_true, if_false, false_or]
          rw [pq_1, pk_sub (show 1 ≤ k by omega)]
          simp (disch := omega) only [pq_in, nI_clamp]
          rw [if_pos (by omega), hpk1]
          by_cases hp : at0 w (k - 1) = 46
          · rw [if_pos hp, if_pos (Or.inl ⟨hd, hp⟩)]
          · rw [if_neg hp]
            by_cases hg : (k < a ∧ wl (at0 w k) = true) ∨ k = a ∨ (a < k ∧ (wd (at0 w k) = true ∨ at0 w k = 46))
            · rw [if_neg (fun q => q hg), if_neg (fun q => by rcases q with q | q; exact hp q.2; exact q hg)]
            · rw [if_pos hg, if_pos (Or.inr hg)]
      · rw [if_neg (fun q => hd (hdot.mp q))]
        by_cases hg : (k < a ∧ wl (at0 w k) = true) ∨ k = a ∨ (a < k ∧ (wd (at0 w k) = true ∨ at0 w k = 46))
        · rw [if_neg (fun q => q hg), if_neg (fun q => by rcases q with q | q; exact hd q.1; exact q hg)]
        · rw [if_pos hg, if_pos (Or.inr hg)]
    have e120 : f_Mo_at_120 N (f_Mo_at_67 N (nI w.length) part f) (nI w.length) part (nI a) (nI k) (b01 dot) = _ := e125 true (Or.inl rfl)
    unfold f_Mo_at_91
    rw [e120, pq_0, pq_1, pk_sub ha1, nI_add, pk_sub (show 1 ≤ w.length by omega)]
    simp (disch := omega) only [pq_eq]
    have e125' : 0 < k → f_Mo_at_125 N (f_Mo_at_67 N (nI w.length) part f) (nI w.length) part (nI 0) (nI a) (nI k) (b01 dot) = _ := fun h => e125 false (Or.inr h)
    by_cases g1 : k = 0
    · rw [if_pos g1]
      simp [g1]
    · rw [if_neg g1]
      by_cases g2 : k = a - 1
      · rw [if_pos g2]
        simp [show k + 1 = a by omega]
      · rw [if_neg g2]
        by_cases g3 : k = a + 1
        · rw [if_pos g3]
          simp [g3]
        · rw [if_neg g3]
          by_cases g4 : k = w.length - 1
          · rw [if_pos g4]
            simp [show k + 1 = w.length by omega]
          · rw [if_neg g4, e125' (by omega)]
            have g5 : ¬ (k = 0 ∨ k + 1 = a ∨ k = a + 1 ∨ k + 1 = w.length) := by omega
            simp only [g5, Bool.false_eq_true]
            rfl
  rw [f_Mo_at_67, if_neg (nI_ge hk (by omega))]
  simp (disch := omega) only [pq_in, nI_clamp]
  rw [if_pos (by omega), hpk]
  by_cases hd : at0 w k = 46
  · rw [if_pos hd]
    exact h91 true (by simp [hd])
  · rw [if_neg hd]
    exact h91 false (by simp [hd])
end ATM
