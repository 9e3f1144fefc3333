/-! PURE SIDE 15: the class' addresses of one value -/
theorem TX_has (N : Nat) {vs vos vol : Int32} {vrow vst vle : Nat → Int32} {Ts : List (List Int32)} {op : List Int32} (h : TX vs vos vol vrow vst vle Ts op) {i : Nat} (hi : i < 2 ^ 31) : f_Te_has N (nI i) vs = some (b01 (decide (i < Ts.length))) := by
  obtain ⟨h1, h2, h3, h4, h5, h6, h7⟩ := h
  unfold f_Te_has
  rw [h1, pq_100]
  simp (disch := omega) only [pq_neg, pq_le, if_false]
  by_cases g1 : i < Ts.length
  · rw [if_neg (by omega), if_neg (by omega)]
    simp [g1, b01]
  · rw [if_pos (by omega)]
    simp [g1, b01]
theorem TX_lengthOf (N : Nat) {vs vos vol : Int32} {vrow vst vle : Nat → Int32} {Ts : List (List Int32)} {op : List Int32} (h : TX vs vos vol vrow vst vle Ts op) {i : Nat} (hi : i < Ts.length) : f_Te_lengthOf N (nI i) vs vle = some (nI (Ts.getD i []).length) := by
  have h5 := h.2.2.2.2.1
  obtain ⟨a, e1, e2, e3, e4⟩ := h.2.2.2.2.2.1 i hi
  unfold f_Te_lengthOf
  rw [TX_has N h (by omega)]
  simp only [Option.bind_some]
  rw [b01_0, if_pos (by simp [hi])]
  simp (disch := omega) only [pq_in, nI_clamp]
  rw [if_pos (by omega), e2]
theorem TX_byteAt (N : Nat) {vs vos vol : Int32} {vrow vst vle : Nat → Int32} {Ts : List (List Int32)} {op : List Int32} (h : TX vs vos vol vrow vst vle Ts op) {i k : Nat} (hi : i < Ts.length) (hk : k < (Ts.getD i []).length) : f_Te_byteAt N (nI i) (nI k) vs vrow vst vle = some (at0 (Ts.getD i []) k) := by
  have h5 := h.2.2.2.2.1
  have h4 := h.2.2.2.1
  obtain ⟨a, e1, e2, e3, e4⟩ := h.2.2.2.2.2.1 i hi
  unfold f_Te_byteAt
  rw [TX_has N h (by omega)]
  simp only [Option.bind_some]
  rw [b01_0, if_pos (by simp [hi]), pq_300]
  simp (disch := omega) only [pq_neg, pq_in, nI_clamp, if_false]
  rw [if_pos (by omega), e2, e1, nI_add]
  simp (disch := omega) only [pq_lt, pq_neg, pq_in, nI_clamp, if_false]
  rw [if_pos hk, if_pos (by omega), if_pos (by omega), if_pos (by omega), e4 k hk]
  rfl
def allB (l : List Int32) : Prop := ∀ j, j < l.length → isB (at0 l j)
theorem allB_nil : allB [] := fun j h => by simp at h
theorem allB_push {l : List Int32} {c : Int32} (h : allB l) (hc : isB c) : allB (l ++ [c]) := by
  intro j hj
  simp at hj
  unfold at0
  by_cases h1 : j < l.length
  · rw [List.getD_eq_getElem?_getD, List.getElem?_append_left h1, ← List.getD_eq_getElem?_getD]
    exact h j h1
  · have : j = l.length := by omega
    subst this
    simpa using hc
theorem allB_step {ag dp : Nat} {qt es : Bool} {op : List Int32} {c : Int32} (h : allB op) (hc : isB c) : allB (stepP ag dp qt es op c).2.2.2.2 := by
  have hk : allB (keepS ag op c) := by
    unfold keepS
    split
    · exact h
    · exact allB_push h hc
  unfold stepP
  repeat' split
  all_goals first | exact h | exact hk | exact allB_nil
theorem allB_fin {s : PS} (h : allB s.2.2.2.2) : allB (finS s) := by
  unfold finS
  split
  · exact allB_nil
  · exact h
/-- the addresses from here on: d bytes are left -/
def cadr (a : Nat → Int32) : Nat → PS → Nat → List (List Int32)
  | 0, s, _ => if okA (finS s) = true then [finS s] else []
  | d + 1, s, q => if endS s (a q) = true then (if okA (finS s) = true then [finS s] else []) ++ cadr a d s0 (q + 1) else cadr a d (stepS s (a q)) (q + 1)
def AT (at' : Nat → Int32) (Tf : List (List Int32)) : Prop := ∀ i, i < Tf.length → at' i = nI (posA (Tf.getD i []))
theorem okA_3 {w : List Int32} (h : okA w = true) : 3 ≤ w.length ∧ posA w < w.length := by
  unfold okA at h
  rw [Bool.and_eq_true, decide_eq_true_eq] at h
  omega
theorem okA_nil : okA [] = false := by decide
theorem pq_endPart {fs fos ol : Int32} {row fst fle at' : Nat → Int32} {Tf : List (List Int32)} {op : List Int32} {ag : Nat} (dp : Nat) (qt es : Bool) (h : TX fs fos ol row fst fle Tf op) (ha : ag ≤ 2) (hB : allB op) (h3 : 3 * Tf.length ≤ tot Tf) (hAT : AT at' Tf) :
    ∃ fs' fos' ol' fst' fle' at'', f_Ad_endPart lawN (nI ag) fs fos ol row fst fle at' = some (0, fs', fos', ol', fst', fle', at'') ∧ TX fs' fos' ol' row fst' fle' (Tf ++ (if okA (finS (ag, dp, qt, es, op)) = true then [finS (ag, dp, qt, es, op)] else [])) [] ∧ AT at'' (Tf ++ (if okA (finS (ag, dp, qt, es, op)) = true then [finS (ag, dp, qt, es, op)] else [])) := by
  have hl := h.2.2.2.1
  have no : ∃ fs' fos' ol' fst' fle' at'', f_Ad_endPart_16 lawN row (-1) (nI ag) fs fos ol fst fle at' = some (0, fs', fos', ol', fst', fle', at'') ∧ TX fs' fos' ol' row fst' fle' Tf [] ∧ AT at'' Tf := by
    unfold f_Ad_endPart_16 f_Te_dropOpen
    rw [if_pos rfl]
    exact ⟨_, _, _, _, _, _, rfl, TX_drop h, hAT⟩
  unfold f_Ad_endPart finS
  dsimp only
  rw [pq_1]
  simp (disch := omega) only [pq_eq]
  by_cases h1 : ag = 1
  · rw [if_pos h1, if_pos h1, okA_nil, if_neg (by decide), List.append_nil]
    exact no
  · rw [if_neg h1, if_neg h1, pq_atSign h hB]
    simp only [Option.bind_some]
    unfold atS
    by_cases h2 : okA op = true
    · rw [if_pos h2, if_pos h2]
      have h4 := okA_3 h2
      unfold f_Ad_endPart_16
      rw [if_neg (by rw [pq_ne1 (by omega)]; exact id), h.1, pq_100]
      simp (disch := omega) only [pq_neg, pq_le, pq_in, nI_clamp, if_false]
      rw [if_neg (by omega), if_pos (by omega), ← h.1]
      obtain ⟨st', le', e1, e2⟩ := TX_close lawN h (by omega)
      rw [e1]
      simp only [Option.bind_some]
      unfold f_Te_dropOpen
      refine ⟨_, _, _, _, _, _, rfl, e2, fun i hi => ?_⟩
      simp at hi
      by_cases hi2 : i = Tf.length
      · subst hi2
        rw [pk_us, getD_app_r]
      · rw [pk_un hi2, getD_app_l (show i < Tf.length by omega)]
        exact hAT i (by omega)
    · rw [if_neg h2, if_neg h2, List.append_nil]
      exact no
theorem tot3 {Tf : List (List Int32)} {w : List Int32} (h3 : 3 * Tf.length ≤ tot Tf) : 3 * (Tf ++ (if okA w = true then [w] else [])).length ≤ tot (Tf ++ (if okA w = true then [w] else [])) := by
  by_cases h : okA w = true
  · rw [if_pos h, tot_app, List.length_append]
    have := (okA_3 h).1
    simp
    omega
  · rw [if_neg h, List.append_nil]
    exact h3
theorem tot_le {Tf : List (List Int32)} (ag dp : Nat) (qt es : Bool) (op : List Int32) : tot (Tf ++ (if okA (finS (ag, dp, qt, es, op)) = true then [finS (ag, dp, qt, es, op)] else [])) ≤ tot Tf + op.length := by
  by_cases h : okA (finS (ag, dp, qt, es, op)) = true
  · rw [if_pos h, tot_app]
    unfold finS
    dsimp only
    split <;> simp
  · rw [if_neg h, List.append_nil]
    omega
