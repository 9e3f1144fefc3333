/-! PURE SIDE 13: the reference's at, whole -/
section ATM2
variable (N : Nat) {w : List Int32} {part : Nat → Int32}
theorem dot1 (P : Int32 → Bool) (a : Nat → Int32) (q : Nat) (b : Bool) : dotOk P a 1 q b = decide (a q ≠ 46 ∧ P (a q) = true) := by
  unfold dotOk dotOk
  by_cases h1 : a q = 46
  · cases b <;> simp [h1]
  · by_cases h2 : P (a q) = true
    · simp [h1, h2]
    · simp [h1, h2]
theorem at_local (hB : ∀ j, j < w.length → isB (at0 w j)) (hV : VR part w) (hl : w.length ≤ 300) {a : Nat} (ha1 : 1 ≤ a) (ha : a < w.length) (ha64 : at0 w a = 64) : ∀ d k f b, k + d + 1 = a → (b = true ↔ (k = 0 ∨ at0 w (k - 1) = 46)) →
    f_Mo_at_67 N (nI w.length) part (f + d + 1) (nI a) (nI k) = if dotOk wl (at0 w) (d + 1) k b = true then f_Mo_at_67 N (nI w.length) part f (nI a) (nI a) else some (-1) := by
  intro d
  induction d with
  | zero =>
    intro k f b hk hb
    rw [show f + 0 + 1 = f + 1 from rfl, at_step N hB hV hl ha1 ha ha64 (by omega), dot1, show k + 1 = a by omega]
    by_cases h1 : at0 w k = 46
    · rw [if_pos (Or.inl ⟨h1, Or.inl (Or.inr (Or.inl rfl))⟩), if_neg (by simp [h1])]
    · by_cases h2 : wl (at0 w k) = true
      · rw [if_neg, if_pos (by simp [h1, h2])]
        intro q
        rcases q with q | q
        · exact h1 q.1
        · exact q (Or.inl ⟨by omega, h2⟩)
      · rw [if_pos, if_neg (by simp [h2])]
        right
        intro q
        rcases q with q | q | q
        · exact h2 q.2
        · omega
        · omega
  | succ d ih =>
    intro k f b hk hb
    rw [show f + (d + 1) + 1 = (f + d + 1) + 1 by omega, at_step N hB hV hl ha1 ha ha64 (by omega), ih (k + 1) f (decide (at0 w k = 46)) (by omega) (by simp)]
    rw [show dotOk wl (at0 w) (d + 1 + 1) k b = if at0 w k = 46 then (if b = true then false else dotOk wl (at0 w) (d + 1) (k + 1) true) else (if wl (at0 w k) = true then dotOk wl (at0 w) (d + 1) (k + 1) false else false) from rfl]
    by_cases h1 : at0 w k = 46
    · rw [if_pos h1]
      by_cases h2 : b = true
      · rw [if_pos h2, if_pos, if_neg (by decide)]
        left
        refine ⟨h1, ?_⟩
        rcases hb.mp h2 with q | q
        · exact Or.inl (Or.inl q)
        · exact Or.inr q
      · rw [if_neg h2, if_neg]
        · simp [h1]
        · intro q
          rcases q with q | q
          · apply h2
            apply hb.mpr
            rcases q.2 with q2 | q2
            · rcases q2 with q3 | q3 | q3 | q3
              · exact Or.inl q3
              · omega
              · omega
              · omega
            · exact Or.inr q2
          · exact q (Or.inl ⟨by omega, by rw [h1]; exact wl_46⟩)
    · rw [if_neg h1]
      by_cases h2 : wl (at0 w k) = true
      · rw [if_pos h2, if_neg]
        · simp [h1]
        · intro q
          rcases q with q | q
          · exact h1 q.1
          · exact q (Or.inl ⟨by omega, h2⟩)
      · rw [if_neg h2, if_pos, if_neg (by decide)]
        right
        intro q
        rcases q with q | q | q
        · exact h2 q.2
        · omega
        · omega
theorem at_domain (hB : ∀ j, j < w.length → isB (at0 w j)) (hV : VR part w) (hl : w.length ≤ 300) {a : Nat} (ha1 : 1 ≤ a) (ha : a < w.length) (ha64 : at0 w a = 64) : ∀ d k f b, k + d + 1 = w.length → a < k → (b = true ↔ (k = a + 1 ∨ at0 w (k - 1) = 46)) →
    f_Mo_at_67 N (nI w.length) part (f + 1 + d + 1) (nI a) (nI k) = some (if dotOk wd (at0 w) (d + 1) k b = true then nI a else -1) := by
  intro d
  induction d with
  | zero =>
    intro k f b hk hak hb
    rw [show f + 1 + 0 + 1 = (f + 1) + 1 from rfl, at_step N hB hV hl ha1 ha ha64 (by omega), dot1, show k + 1 = w.length by omega]
    rw [f_Mo_at_67, if_pos (nI_le (Nat.le_refl _) (by omega))]
    by_cases h1 : at0 w k = 46
    · rw [if_pos (Or.inl ⟨h1, Or.inl (Or.inr (Or.inr (Or.inr rfl)))⟩), if_neg (by simp [h1])]
    · by_cases h2 : wd (at0 w k) = true
      · rw [if_neg, if_pos (by simp [h1, h2])]
        intro q
        rcases q with q | q
        · exact h1 q.1
        · exact q (Or.inr (Or.inr ⟨hak, Or.inl h2⟩))
      · rw [if_pos, if_neg (by simp [h2])]
        right
        intro q
        rcases q with q | q | q
        · omega
        · omega
        · rcases q.2 with q2 | q2
          · exact h2 q2
          · exact h1 q2
  | succ d ih =>
    intro k f b hk hak hb
    rw [show f + 1 + (d + 1) + 1 = (f + 1 + d + 1) + 1 by omega, at_step N hB hV hl ha1 ha ha64 (by omega), ih (k + 1) f (decide (at0 w k = 46)) (by omega) (by omega) (by simp; omega)]
    rw [show dotOk wd (at0 w) (d + 1 + 1) k b = if at0 w k = 46 then (if b = true then false else dotOk wd (at0 w) (d + 1) (k + 1) true) else (if wd (at0 w k) = true then dotOk wd (at0 w) (d + 1) (k + 1) false else false) from rfl]
    by_cases h1 : at0 w k = 46
    · rw [if_pos h1]
      by_cases h2 : b = true
      · rw [if_pos h2, if_pos, if_neg (by decide)]
        left
        refine ⟨h1, ?_⟩
        rcases hb.mp h2 with q | q
        · exact Or.inl (Or.inr (Or.inr (Or.inl q)))
        · exact Or.inr q
      · rw [if_neg h2, if_neg]
        · simp [h1]
        · intro q
          rcases q with q | q
          · apply h2
            apply hb.mpr
            rcases q.2 with q2 | q2
            · rcases q2 with q3 | q3 | q3 | q3
              · omega
              · omega
              · exact Or.inl q3
              · omega
            · exact Or.inr q2
          · exact q (Or.inr (Or.inr ⟨hak, Or.inr h1⟩))
    · rw [if_neg h1]
      by_cases h2 : wd (at0 w k) = true
      · rw [if_pos h2, if_neg]
        · simp [h1]
        · intro q
          rcases q with q | q
          · exact h1 q.1
          · exact q (Or.inr (Or.inr ⟨hak, Or.inl h2⟩))
      · rw [if_neg h2, if_pos, if_neg (by decide)]
        right
        intro q
        rcases q with q | q | q
        · omega
        · omega
        · rcases q.2 with q2 | q2
          · exact h2 q2
          · exact h1 q2
theorem at_2 (hV : VR part w) (hl : w.length ≤ 300) : ∀ k q f, q + k = w.length → k < f → f_Mo_at_2 N (nI w.length) part f (nI q) = f_Mo_at_27 N (nI w.length) part (nI (sWh n64 (at0 w) k q)) := by
  intro k
  induction k with
  | zero =>
    intro q f hq hf
    obtain ⟨f, rfl⟩ : ∃ g, f = g + 1 := ⟨f - 1, by omega⟩
    rw [f_Mo_at_2, if_pos (nI_le (by omega) (by omega))]
    rfl
  | succ k ih =>
    intro q f hq hf
    obtain ⟨f, rfl⟩ : ∃ g, f = g + 1 := ⟨f - 1, by omega⟩
    rw [f_Mo_at_2, if_neg (nI_ge (by omega) (by omega)), nI_1]
    simp (disch := omega) only [pq_in, nI_clamp]
    have hp : part q = at0 w q := hV q (by omega)
    rw [if_pos (by omega), hp, sWh, ih (q + 1) f (by omega) (by omega)]
    unfold n64
    by_cases h1 : at0 w q = 64
    · rw [if_pos h1, if_neg (by simp [h1])]
    · rw [if_neg h1, if_pos (by simp [h1])]
end ATM2
theorem pq_at {N : Nat} (hN : 400 ≤ N) {w : List Int32} {part : Nat → Int32} (hB : ∀ j, j < w.length → isB (at0 w j)) (hV : VR part w) (hl : w.length ≤ 300) : f_Mo_at N (nI w.length) part = some (atS w) := by
  have hp := posA_le w
  unfold f_Mo_at
  rw [pq_0, at_2 N hV hl w.length 0 N (by omega) (by omega)]
  rw [show sWh n64 (at0 w) w.length 0 = posA w from rfl]
  unfold f_Mo_at_27 atS okA
  rw [pk_sub hp, pq_40, pq_60]
  by_cases h1 : posA w < 1
  · rw [if_pos (by rw [pq_1]; exact nI_lt h1 (by omega)), if_neg]
    simp
    omega
  · rw [if_neg (by rw [pq_1]; exact nI_nlt (by omega) (by omega))]
    by_cases h2 : 40 < posA w
    · rw [if_pos (nI_lt h2 (by omega)), if_neg]
      simp
      omega
    · rw [if_neg (nI_nlt (by omega) (by omega))]
      by_cases h3 : w.length < posA w + 2
      · rw [if_pos, if_neg]
        · simp
          omega
        · by_cases h4 : w.length - posA w = 0
          · rw [h4]; decide
          · rw [show w.length - posA w = 1 by omega]; decide
      · have e1 : nI (w.length - posA w) - 1 = nI (w.length - posA w - 1) := by rw [pq_1, pk_sub (by omega)]
        rw [e1, if_neg (by rw [pq_1]; exact nI_nlt (by omega) (by omega))]
        by_cases h5 : w.length - posA w - 1 ≤ 60
        · rw [if_pos (nI_le h5 (by omega)), pq_0]
          have h64 := posA_at (w := w) (by omega)
          have e2 := at_local N hB hV hl (show 1 ≤ posA w by omega) (by omega) h64 (posA w - 1) 0 (N - posA w) true (by omega) (by simp)
          rw [show N - posA w + (posA w - 1) + 1 = N by omega, show posA w - 1 + 1 = posA w by omega] at e2
          rw [e2]
          have e3 : f_Mo_at_67 N (nI w.length) part (N - posA w) (nI (posA w)) (nI (posA w)) = f_Mo_at_67 N (nI w.length) part (N - posA w - 1) (nI (posA w)) (nI (posA w + 1)) := by
            rw [show N - posA w = (N - posA w - 1) + 1 by omega, at_step N hB hV hl (show 1 ≤ posA w by omega) (by omega) h64 (by omega), if_neg]
            · rw [show N - posA w - 1 + 1 - 1 = N - posA w - 1 by omega]
            · intro q
              rcases q with q | q
              · rw [h64] at q
                exact absurd q.1 (by decide)
              · exact q (Or.inr (Or.inl rfl))
          have e4 := at_domain N hB hV hl (show 1 ≤ posA w by omega) (by omega) h64 (w.length - posA w - 2) (posA w + 1) (N - posA w - 1 - (w.length - posA w - 2) - 2) true (by omega) (by omega) (by simp)
          rw [show N - posA w - 1 - (w.length - posA w - 2) - 2 + 1 + (w.length - posA w - 2) + 1 = N - posA w - 1 by omega, show w.length - posA w - 2 + 1 = w.length - posA w - 1 by omega] at e4
          rw [e3, e4]
          have e5 : decide (1 ≤ posA w ∧ posA w ≤ 40 ∧ posA w + 2 ≤ w.length ∧ w.length - posA w - 1 ≤ 60) = true := by simp; omega
          rw [e5, Bool.true_and]
          by_cases h6 : dotOk wl (at0 w) (posA w) 0 true = true
          · rw [if_pos h6, h6, Bool.true_and]
          · rw [if_neg h6, if_neg]
            simp [h6]
        · rw [if_neg (nI_ge (by omega) (by omega)), if_neg]
          simp
          omega
