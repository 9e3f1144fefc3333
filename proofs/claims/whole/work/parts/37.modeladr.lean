/-! PURE SIDE 18: the reference's addresses; eight bytes -/
theorem prun_le (a : Nat → Int32) : ∀ d s q, q ≤ (prun a d s q).2 ∧ (prun a d s q).2 ≤ q + d ∧ (s.1 ≤ 2 → (prun a d s q).1.2.2.2.2.length ≤ s.2.2.2.2.length + d) := by
  intro d
  induction d with
  | zero => intro s q; simp [prun]
  | succ d ih =>
    intro s q
    unfold prun
    split
    · exact ⟨by dsimp only; omega, by dsimp only; omega, fun _ => by dsimp only; omega⟩
    · obtain ⟨h1, h2, h3⟩ := ih (stepS s (a q)) (q + 1)
      refine ⟨by omega, by omega, fun h => ?_⟩
      have h4 := stepP_inv s.1 s.2.1 s.2.2.1 s.2.2.2.1 s.2.2.2.2 (a q) h
      have h5 := h3 h4.1
      have h6 : (stepS s (a q)).2.2.2.2.length ≤ s.2.2.2.2.length + 1 := h4.2.2
      omega
theorem prun_allB {a : Nat → Int32} {len : Nat} (hB : ∀ j, j < len → isB (a j)) : ∀ d s q, q + d ≤ len → allB s.2.2.2.2 → allB (prun a d s q).1.2.2.2.2 := by
  intro d
  induction d with
  | zero => intro s q _ h; exact h
  | succ d ih =>
    intro s q hq h
    unfold prun
    split
    · exact h
    · exact ih _ _ (by omega) (allB_step h (hB q (by omega)))
theorem cadr_prun (a : Nat → Int32) : ∀ d s q, cadr a d s q = (if okA (finS (prun a d s q).1) = true then [finS (prun a d s q).1] else []) ++ (if (prun a d s q).2 < q + d then cadr a (q + d - (prun a d s q).2 - 1) s0 ((prun a d s q).2 + 1) else []) := by
  intro d
  induction d with
  | zero =>
    intro s q
    rw [show prun a 0 s q = (s, q) from rfl]
    dsimp only
    rw [if_neg (show ¬ q < q + 0 by omega), List.append_nil]
    rfl
  | succ d ih =>
    intro s q
    rw [show cadr a (d + 1) s q = if endS s (a q) = true then (if okA (finS s) = true then [finS s] else []) ++ cadr a d s0 (q + 1) else cadr a d (stepS s (a q)) (q + 1) from rfl, show prun a (d + 1) s q = if endS s (a q) = true then (s, q) else prun a d (stepS s (a q)) (q + 1) from rfl]
    by_cases h : endS s (a q) = true
    · rw [if_pos h, if_pos h]
      dsimp only
      rw [if_pos (show q < q + (d + 1) by omega), show q + (d + 1) - q - 1 = d by omega]
    · rw [if_neg h, if_neg h, ih, show q + 1 + d = q + (d + 1) by omega]
/-- what is left of a value's addresses from p on -/
def restA (v : List Int32) (p : Nat) : List (List Int32) := if p ≤ v.length then cadr (at0 v) (v.length - p) s0 p else []
def partR (v : List Int32) (p : Nat) : PS × Nat := prun (at0 v) (v.length - p) s0 p
theorem restA_eq {v : List Int32} {p : Nat} (hp : p ≤ v.length) : restA v p = (if okA (finS (partR v p).1) = true then [finS (partR v p).1] else []) ++ restA v ((partR v p).2 + 1) := by
  have h := prun_le (at0 v) (v.length - p) s0 p
  unfold restA
  rw [if_pos hp, cadr_prun]
  unfold partR
  by_cases h1 : (prun (at0 v) (v.length - p) s0 p).2 < p + (v.length - p)
  · rw [if_pos h1, if_pos (show (prun (at0 v) (v.length - p) s0 p).2 + 1 ≤ v.length by omega), show p + (v.length - p) - (prun (at0 v) (v.length - p) s0 p).2 - 1 = v.length - ((prun (at0 v) (v.length - p) s0 p).2 + 1) by omega]
  · rw [if_neg h1, if_neg (show ¬ (prun (at0 v) (v.length - p) s0 p).2 + 1 ≤ v.length by omega)]
theorem pq_part (v : List Int32) (hl : v.length ≤ 300) (hB : allB v) {value : Nat → Int32} (hV : VR value v) {p : Nat} (hp : p ≤ v.length) (parts : Int32) (part : Nat → Int32) :
    ∃ part', f_Mo_onePart lawN (nI p) (nI v.length) parts value part = some (nI ((partR v p).2 + 1), nI (finS (partR v p).1).length, part') ∧ VR part' (finS (partR v p).1) ∧ f_Mo_at lawN (nI (finS (partR v p).1).length) part' = some (atS (finS (partR v p).1)) ∧ p ≤ (partR v p).2 ∧ (partR v p).2 ≤ v.length ∧ (finS (partR v p).1).length ≤ 300 := by
  obtain ⟨part', e1, e2⟩ := pq_onePart lawN_ge (a := at0 v) hl (fun j hj => hV j hj) hp parts part
  have h := prun_le (at0 v) (v.length - p) s0 p
  have hb : allB (finS (partR v p).1) := allB_fin (prun_allB (len := v.length) hB (v.length - p) s0 p (by omega) allB_nil)
  have h3 := h.2.2 (by decide)
  have hf : (finS (partR v p).1).length ≤ 300 := by
    unfold finS
    split
    · simp
    · have h5 : (partR v p).1.2.2.2.2.length ≤ s0.2.2.2.2.length + (v.length - p) := h3
      have h4 : s0.2.2.2.2.length = 0 := rfl
      omega
  exact ⟨part', e1, e2, pq_at lawN_ge hb e2 hf, h.1, by have := h.2.1; unfold partR; omega, hf⟩
theorem atS_neg (w : List Int32) (hl : w.length ≤ 300) : (atS w < 0) = (¬ okA w = true) := by
  have := posA_le w
  unfold atS
  by_cases h : okA w = true
  · rw [if_pos h]
    simp [h, pq_neg (show posA w < 2 ^ 31 by omega)]
  · rw [if_neg h]
    simp [h]
theorem pq_addresses4 (v : List Int32) (hl : v.length ≤ 300) (hB : allB v) {value : Nat → Int32} (hV : VR value v) : ∀ k p f c parts part, p + k = v.length + 1 → k < f → ∃ parts' part', f_Mo_addresses_4 lawN (nI v.length) value f (nI c) (nI p) parts part = some (nI (c + (restA v p).length), parts', part') := by
  intro k
  induction k using Nat.strongRecOn with
  | ind k ih =>
    intro p f c parts part hk hf
    obtain ⟨f, rfl⟩ : ∃ g, f = g + 1 := ⟨f - 1, by omega⟩
    by_cases hp : p ≤ v.length
    · obtain ⟨part', e1, e2, e3, e4, e5, e6⟩ := pq_part v hl hB hV hp parts part
      rw [f_Mo_addresses_4, if_neg (nI_nlt hp (by omega)), e1]
      simp only [Option.bind_some]
      rw [e3]
      simp only [Option.bind_some, atS_neg _ e6]
      rw [restA_eq hp, nI_1 c]
      by_cases h : okA (finS (partR v p).1) = true
      · rw [if_neg (by simpa using h), if_pos h]
        obtain ⟨p2, q2, e7⟩ := ih (v.length + 1 - ((partR v p).2 + 1)) (by omega) ((partR v p).2 + 1) f (c + 1) (nI (finS (partR v p).1).length) part' (by omega) (by omega)
        refine ⟨p2, q2, e7.trans ?_⟩
        rw [List.length_append]
        simp
        congr 1
        omega
      · rw [if_pos h, if_neg h]
        obtain ⟨p2, q2, e7⟩ := ih (v.length + 1 - ((partR v p).2 + 1)) (by omega) ((partR v p).2 + 1) f c (nI (finS (partR v p).1).length) part' (by omega) (by omega)
        exact ⟨p2, q2, e7⟩
    · rw [f_Mo_addresses_4, if_pos (nI_lt (by omega) (by omega))]
      unfold restA
      rw [if_neg hp]
      exact ⟨_, _, rfl⟩
theorem restA_0 (v : List Int32) : restA v 0 = adrs v := by
  unfold restA adrs
  rw [if_pos (Nat.zero_le _), Nat.sub_zero]
theorem pq_addresses (v : List Int32) (hl : v.length ≤ 300) (hB : allB v) {value : Nat → Int32} (hV : VR value v) (parts : Int32) (part : Nat → Int32) : ∃ parts' part', f_Mo_addresses lawN (nI v.length) parts value part = some (nI (adrs v).length, parts', part') := by
  obtain ⟨a, b, e⟩ := pq_addresses4 v hl hB hV (v.length + 1) 0 lawN 0 parts part (by omega) (by have := lawN_ge; omega)
  refine ⟨a, b, ?_⟩
  unfold f_Mo_addresses
  rw [restA_0, Nat.zero_add] at e
  exact e
theorem nI_dec (c : Nat) : nI c - 1 + 1 = nI c := Int32.sub_add_cancel _ _
theorem pq_addressAt4 (v : List Int32) (hl : v.length ≤ 300) (hB : allB v) {value : Nat → Int32} (hV : VR value v) {j : Nat} (hj : j < 2 ^ 31) : ∀ k p f c parts part, p + k = v.length + 1 → k < f → c ≤ j → c ≤ p →
    (j - c < (restA v p).length → ∃ part', f_Mo_addressAt_4 lawN (nI j) (nI v.length) value f (nI p) (nI c - 1) parts part = some (nI (posA ((restA v p).getD (j - c) [])), nI ((restA v p).getD (j - c) []).length, part') ∧ VR part' ((restA v p).getD (j - c) []) ∧ ((restA v p).getD (j - c) []).length ≤ 300) ∧
    ((restA v p).length ≤ j - c → ∃ parts' part', f_Mo_addressAt_4 lawN (nI j) (nI v.length) value f (nI p) (nI c - 1) parts part = some (-1, parts', part')) := by
  intro k
  induction k using Nat.strongRecOn with
  | ind k ih =>
    intro p f c parts part hk hf hc hcp
    obtain ⟨f, rfl⟩ : ∃ g, f = g + 1 := ⟨f - 1, by omega⟩
    by_cases hp : p ≤ v.length
    · obtain ⟨part', e1, e2, e3, e4, e5, e6⟩ := pq_part v hl hB hV hp parts part
      have head : f_Mo_addressAt_4 lawN (nI j) (nI v.length) value (f + 1) (nI p) (nI c - 1) parts part = if okA (finS (partR v p).1) = true then (if c = j then some (atS (finS (partR v p).1), nI (finS (partR v p).1).length, part') else f_Mo_addressAt_4 lawN (nI j) (nI v.length) value f (nI ((partR v p).2 + 1)) (nI (c + 1) - 1) (nI (finS (partR v p).1).length) part') else f_Mo_addressAt_4 lawN (nI j) (nI v.length) value f (nI ((partR v p).2 + 1)) (nI c - 1) (nI (finS (partR v p).1).length) part' := by
        rw [f_Mo_addressAt_4, if_neg (nI_nlt hp (by omega)), e1]
        simp only [Option.bind_some]
        rw [e3]
        simp only [Option.bind_some, atS_neg _ e6, nI_dec]
        simp (disch := omega) only [pq_eq]
        have e9 : nI (c + 1) - 1 = nI c := nI_pred c
        rw [e9]
        by_cases h : okA (finS (partR v p).1) = true
        · simp only [h, not_true, if_false, if_true]
        · simp only [h, Bool.false_eq_true, not_false_eq_true, if_true, if_false]
      rw [head, restA_eq hp]
      by_cases h : okA (finS (partR v p).1) = true
      · rw [if_pos h, if_pos h]
        have hat : atS (finS (partR v p).1) = nI (posA (finS (partR v p).1)) := by unfold atS; rw [if_pos h]
        have h3 := okA_3 h
        by_cases hcj : c = j
        · rw [if_pos hcj, hat, show j - c = 0 by omega]
          refine ⟨fun _ => ⟨part', rfl, e2, e6⟩, fun q => ?_⟩
          simp at q
        · rw [if_neg hcj, show j - c = (j - (c + 1)) + 1 by omega]
          obtain ⟨i1, i2⟩ := ih (v.length + 1 - ((partR v p).2 + 1)) (by omega) ((partR v p).2 + 1) f (c + 1) (nI (finS (partR v p).1).length) part' (by omega) (by omega) (by omega) (by omega)
          refine ⟨fun q => ?_, fun q => ?_⟩
          · have q2 := i1 (by simp at q; omega)
            simpa using q2
          · exact i2 (by simp at q; omega)
      · rw [if_neg h, if_neg h, List.nil_append]
        exact ih (v.length + 1 - ((partR v p).2 + 1)) (by omega) ((partR v p).2 + 1) f c (nI (finS (partR v p).1).length) part' (by omega) (by omega) (by omega) (by omega)
    · rw [f_Mo_addressAt_4, if_pos (nI_lt (by omega) (by omega))]
      unfold restA
      rw [if_neg hp]
      exact ⟨fun q => by simp at q, fun _ => ⟨_, _, rfl⟩⟩
theorem pq_addressAt (v : List Int32) (hl : v.length ≤ 300) (hB : allB v) {value : Nat → Int32} (hV : VR value v) {j : Nat} (hj : j < 2 ^ 31) (parts : Int32) (part : Nat → Int32) :
    (j < (adrs v).length → ∃ part', f_Mo_addressAt lawN (nI j) (nI v.length) parts value part = some (nI (posA ((adrs v).getD j [])), nI ((adrs v).getD j []).length, part') ∧ VR part' ((adrs v).getD j []) ∧ ((adrs v).getD j []).length ≤ 300) ∧
    ((adrs v).length ≤ j → ∃ parts' part', f_Mo_addressAt lawN (nI j) (nI v.length) parts value part = some (-1, parts', part')) := by
  have h := pq_addressAt4 v hl hB hV hj (v.length + 1) 0 lawN 0 parts part (by omega) (by have := lawN_ge; omega) (by omega) (by omega)
  rw [restA_0, Nat.sub_zero] at h
  unfold f_Mo_addressAt
  exact h
