/-! PURE SIDE 6: the class' way of leaving blanks out -/
def leadF (op : List Int32) (l : List Int32) : List Int32 := l.foldl (fun op c => if op.length = 0 ∧ bl c = true then op else op ++ [c]) op
theorem leadF_app (op a b : List Int32) : leadF op (a ++ b) = leadF (leadF op a) b := by simp [leadF, List.foldl_append]
theorem leadF_ne : ∀ (l op : List Int32), op.length ≠ 0 → leadF op l = op ++ l := by
  intro l
  induction l with
  | nil => intro op h; simp [leadF]
  | cons c l ih =>
    intro op h
    show leadF (if op.length = 0 ∧ bl c = true then op else op ++ [c]) l = _
    rw [if_neg (fun q => h q.1), ih _ (by simp)]
    simp
theorem leadF_nil : ∀ (l : List Int32), leadF [] l = l.dropWhile bl := by
  intro l
  induction l with
  | nil => rfl
  | cons c l ih =>
    show leadF (if ([] : List Int32).length = 0 ∧ bl c = true then [] else [] ++ [c]) l = _
    by_cases h : bl c = true
    · rw [if_pos ⟨rfl, h⟩, ih, List.dropWhile_cons_of_pos h]
    · rw [if_neg (fun q => h q.2), leadF_ne _ _ (by simp), List.dropWhile_cons_of_neg (by simpa using h)]
      rfl
theorem tEnd_cons (c : Int32) (l : List Int32) : ∀ k, tEnd (at0 (c :: l)) (k + 1) = if tEnd (at0 l) k = 0 then (if bl c = true then 0 else 1) else tEnd (at0 l) k + 1 := by
  intro k
  induction k with
  | zero => simp [tEnd, at0]
  | succ k ih =>
    rw [tEnd, show at0 (c :: l) (k + 1) = at0 l k by simp [at0], ih]
    rw [show tEnd (at0 l) (k + 1) = if bl (at0 l k) = true then tEnd (at0 l) k else k + 1 from rfl]
    by_cases h : bl (at0 l k) = true
    · rw [if_pos h, if_pos h]
    · rw [if_neg h, if_neg h, if_neg (by omega)]
theorem sWh_shift (q : Int32 → Bool) (c : Int32) (l : List Int32) : ∀ k p, sWh q (at0 (c :: l)) k (p + 1) = sWh q (at0 l) k p + 1 := by
  intro k
  induction k with
  | zero => intro p; rfl
  | succ k ih =>
    intro p
    rw [sWh, sWh, show at0 (c :: l) (p + 1) = at0 l p by simp [at0], ih (p + 1)]
    split <;> rfl
theorem trimL_cons {c : Int32} {l : List Int32} (h : bl c = true) : trimL (c :: l) = trimL l := by
  unfold trimL
  rw [List.length_cons, tEnd_cons]
  by_cases h1 : tEnd (at0 l) l.length = 0
  · rw [if_pos h1, if_pos h, h1]
    simp
  · rw [if_neg h1, sWh, show at0 (c :: l) 0 = c from rfl, if_pos h, sWh_shift, List.take_succ_cons, List.drop_succ_cons]
theorem trim_eq : ∀ (l : List Int32), (l.dropWhile bl).take (tEnd (at0 (l.dropWhile bl)) (l.dropWhile bl).length) = trimL l := by
  intro l
  induction l with
  | nil => rfl
  | cons c l ih =>
    by_cases h : bl c = true
    · rw [List.dropWhile_cons_of_pos h, ih, trimL_cons h]
    · rw [List.dropWhile_cons_of_neg (by simpa using h)]
      unfold trimL
      have h1 : 0 < tEnd (at0 (c :: l)) (c :: l).length := by
        rw [List.length_cons, tEnd_cons]
        split
        · first | omega | (rw [if_neg h]; omega)
        · omega
      obtain ⟨k, hk⟩ : ∃ k, tEnd (at0 (c :: l)) (c :: l).length = k + 1 := ⟨_, (Nat.succ_pred_eq_of_pos h1).symm⟩
      rw [hk, sWh, show at0 (c :: l) 0 = c from rfl, if_neg h, List.drop_zero]
theorem leadF_len : ∀ (l op : List Int32), (leadF op l).length ≤ op.length + l.length := by
  intro l
  induction l with
  | nil => intro op; simp [leadF]
  | cons c l ih =>
    intro op
    show (leadF (if op.length = 0 ∧ bl c = true then op else op ++ [c]) l).length ≤ _
    split
    · have := ih op; simp; omega
    · have := ih (op ++ [c]); simp at this ⊢; omega
theorem trimL_le (l : List Int32) : (trimL l).length ≤ l.length := by
  rw [trimL_len]
  have := tEnd_le (at0 l) l.length
  omega
/-! texts one behind the other -/
def tot (Ts : List (List Int32)) : Nat := (Ts.map List.length).sum
theorem tot_app (A : List (List Int32)) (l : List Int32) : tot (A ++ [l]) = tot A + l.length := by simp [tot]
def isB (c : Int32) : Prop := ∃ b : Nat, b < 256 ∧ c = nI b
theorem enc_isB {c : Int32} (h : isB c) : enc c &&& 255 = c := by
  obtain ⟨b, hb, rfl⟩ := h
  exact enc_255 hb
def TX (size os ol : Int32) (row starts lengths : Nat → Int32) (Ts : List (List Int32)) (op : List Int32) : Prop :=
  size = nI Ts.length ∧ os = nI (tot Ts) ∧ ol = nI op.length ∧ tot Ts + op.length ≤ 300 ∧ Ts.length ≤ 100 ∧
  (∀ i, i < Ts.length → ∃ a, starts i = nI a ∧ lengths i = nI (Ts.getD i []).length ∧ a + (Ts.getD i []).length ≤ tot Ts ∧ ∀ k, k < (Ts.getD i []).length → row (a + k) &&& 255 = (Ts.getD i []).getD k 0) ∧
  ∀ k, k < op.length → row (tot Ts + k) &&& 255 = op.getD k 0
theorem TX_new (row starts lengths : Nat → Int32) : TX 0 0 0 row starts lengths [] [] := ⟨rfl, rfl, rfl, by simp [tot], by simp, fun i h => by simp at h, fun k h => by simp at h⟩
theorem TX_drop {size os ol : Int32} {row starts lengths : Nat → Int32} {Ts : List (List Int32)} {op : List Int32} (h : TX size os ol row starts lengths Ts op) : TX size os 0 row starts lengths Ts [] := by
  obtain ⟨h1, h2, h3, h4, h5, h6, h7⟩ := h
  exact ⟨h1, h2, rfl, by simp; omega, h5, h6, fun k hk => by simp at hk⟩
theorem TX_append (N : Nat) {size os ol : Int32} {row starts lengths : Nat → Int32} {Ts : List (List Int32)} {op : List Int32} {c : Int32} (h : TX size os ol row starts lengths Ts op) (hc : isB c) (hl : tot Ts + op.length < 300) :
    ∃ row', f_Te_append N c os ol row = some (nI (op ++ [c]).length, row') ∧ TX size os (nI (op ++ [c]).length) row' starts lengths Ts (op ++ [c]) := by
  obtain ⟨h1, h2, h3, h4, h5, h6, h7⟩ := h
  refine ⟨upd row (tot Ts + op.length) (enc c), ?_, h1, h2, rfl, by simp; omega, h5, fun i hi => ?_, fun k hk => ?_⟩
  · unfold f_Te_append
    rw [h2, h3, nI_add, pq_300, nI_1]
    simp (disch := omega) only [pq_neg, pq_le, pq_in, nI_clamp, if_false]
    rw [if_neg (by omega), if_pos (by omega), List.length_append]
    rfl
  · obtain ⟨a, e1, e2, e3, e4⟩ := h6 i hi
    exact ⟨a, e1, e2, e3, fun k hk => by rw [pk_un (by omega)]; exact e4 k hk⟩
  · simp at hk
    by_cases hk2 : k = op.length
    · subst hk2
      rw [pk_us, enc_isB hc]
      simp
    · rw [pk_un (by omega), h7 k (by omega), List.getD_eq_getElem?_getD, List.getD_eq_getElem?_getD, List.getElem?_append_left (show k < op.length by omega)]
theorem getD_app_l {A : List (List Int32)} {l : List Int32} {i : Nat} (h : i < A.length) : (A ++ [l]).getD i [] = A.getD i [] := by
  rw [List.getD_eq_getElem?_getD, List.getD_eq_getElem?_getD, List.getElem?_append_left h]
theorem getD_app_r (A : List (List Int32)) (l : List Int32) : (A ++ [l]).getD A.length [] = l := by
  rw [List.getD_eq_getElem?_getD, List.getElem?_append_right (Nat.le_refl _), Nat.sub_self]
  rfl
theorem TX_close (N : Nat) {size os ol : Int32} {row starts lengths : Nat → Int32} {Ts : List (List Int32)} {op : List Int32} (h : TX size os ol row starts lengths Ts op) (hl : Ts.length < 100) :
    ∃ starts' lengths', f_Te_closeOpen N size os ol starts lengths = some (nI (Ts ++ [op]).length, nI (tot (Ts ++ [op])), 0, starts', lengths') ∧ TX (nI (Ts ++ [op]).length) (nI (tot (Ts ++ [op]))) 0 row starts' lengths' (Ts ++ [op]) [] := by
  obtain ⟨h1, h2, h3, h4, h5, h6, h7⟩ := h
  refine ⟨upd starts Ts.length os, upd lengths Ts.length ol, ?_, rfl, rfl, rfl, by rw [tot_app]; simp; omega, by simp; omega, fun i hi => ?_, fun k hk => by simp at hk⟩
  · unfold f_Te_closeOpen
    rw [h1, h2, h3, nI_add, pq_100, nI_1, tot_app, List.length_append]
    simp (disch := omega) only [pq_neg, pq_le, pq_in, nI_clamp, if_false]
    rw [if_neg (by omega), if_pos (by omega), if_pos (by omega)]
    rfl
  · simp at hi
    by_cases hi2 : i = Ts.length
    · subst hi2
      rw [getD_app_r]
      exact ⟨tot Ts, by rw [pk_us, h2], by rw [pk_us, h3], by rw [tot_app]; omega, h7⟩
    · rw [getD_app_l (show i < Ts.length by omega)]
      obtain ⟨a, e1, e2, e3, e4⟩ := h6 i (by omega)
      exact ⟨a, by rw [pk_un hi2]; exact e1, by rw [pk_un hi2]; exact e2, by rw [tot_app]; omega, e4⟩
theorem TX_openByteAt (N : Nat) {size os ol : Int32} {row starts lengths : Nat → Int32} {Ts : List (List Int32)} {op : List Int32} {k : Nat} (h : TX size os ol row starts lengths Ts op) (hk : k < op.length) : f_Te_openByteAt N (nI k) os ol row = some (op.getD k 0) := by
  obtain ⟨h1, h2, h3, h4, h5, h6, h7⟩ := h
  unfold f_Te_openByteAt
  rw [h2, h3, nI_add, pq_300]
  simp (disch := omega) only [pq_neg, pq_le, pq_lt, pq_in, nI_clamp, if_false]
  rw [if_neg (by omega), if_pos (by omega), if_pos (by omega), h7 k hk]
theorem TX_take {size os ol : Int32} {row starts lengths : Nat → Int32} {Ts : List (List Int32)} {op : List Int32} {e : Nat} (h : TX size os ol row starts lengths Ts op) (he : e ≤ op.length) : TX size os (nI e) row starts lengths Ts (op.take e) := by
  obtain ⟨h1, h2, h3, h4, h5, h6, h7⟩ := h
  refine ⟨h1, h2, by rw [List.length_take, Nat.min_eq_left he], by rw [List.length_take]; omega, h5, h6, fun k hk => ?_⟩
  rw [List.length_take] at hk
  rw [h7 k (by omega), List.getD_eq_getElem?_getD, List.getD_eq_getElem?_getD, List.getElem?_take_of_lt (by omega)]
theorem TX_dropBlanks0 (N : Nat) {size os : Int32} {row starts lengths : Nat → Int32} {Ts : List (List Int32)} {op : List Int32} : ∀ k f, k ≤ op.length → k < f → (∀ e, e ≤ op.length → TX size os (nI e) row starts lengths Ts (op.take e)) → f_Te_dropBlanksAtOpenEnd_0 N os row f (nI k) = some (nI (tEnd (at0 op) k)) := by
  intro k
  induction k with
  | zero =>
    intro f hk hf h
    obtain ⟨f, rfl⟩ : ∃ g, f = g + 1 := ⟨f - 1, by omega⟩
    rw [f_Te_dropBlanksAtOpenEnd_0, if_pos (by decide)]
    rfl
  | succ k ih =>
    intro f hk hf h
    obtain ⟨f, rfl⟩ : ∃ g, f = g + 1 := ⟨f - 1, by omega⟩
    have h4 := (h (k + 1) hk).2.2.2.1
    rw [List.length_take] at h4
    rw [f_Te_dropBlanksAtOpenEnd_0, if_neg (nI_nle (by omega) (by omega)), nI_pred, TX_openByteAt N (h (k + 1) hk) (by rw [List.length_take]; omega)]
    simp only [Option.bind_some]
    rw [pq_isBlank, List.getD_eq_getElem?_getD, List.getElem?_take_of_lt (by omega), ← List.getD_eq_getElem?_getD]
    simp only [Option.bind_some]
    rw [pq_if10, ih f (by omega) (by omega) h, tEnd]
    show (if bl (at0 op k) = true then _ else _) = _
    split <;> rfl
theorem TX_dropBlanks {N : Nat} (hN : 400 ≤ N) {size os ol : Int32} {row starts lengths : Nat → Int32} {Ts : List (List Int32)} {op : List Int32} (h : TX size os ol row starts lengths Ts op) :
    f_Te_dropBlanksAtOpenEnd N os ol row = some (nI (tEnd (at0 op) op.length)) ∧ TX size os (nI (tEnd (at0 op) op.length)) row starts lengths Ts (op.take (tEnd (at0 op) op.length)) := by
  refine ⟨?_, TX_take h (tEnd_le _ _)⟩
  unfold f_Te_dropBlanksAtOpenEnd
  have h3 := h.2.2.1
  have h4 := h.2.2.2.1
  rw [h3]
  exact TX_dropBlanks0 N op.length N (Nat.le_refl _) (by omega) (fun e he => TX_take h he)
