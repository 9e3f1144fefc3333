/-! PURE SIDE 3: a line's bytes, the lines of a value, trimming; the reference's side -/
def seg (t : Nat → Int32) (a b : Nat) : List Int32 := (List.range (b - a)).map (fun j => t (a + j))
theorem seg_len (t : Nat → Int32) (a b : Nat) : (seg t a b).length = b - a := by simp [seg]
theorem seg_nil {t : Nat → Int32} {a b : Nat} (h : b ≤ a) : seg t a b = [] := by simp [seg, show b - a = 0 by omega]
theorem seg_cons {t : Nat → Int32} {a b : Nat} (h : a < b) : seg t a b = t a :: seg t (a + 1) b := by
  unfold seg
  obtain ⟨k, hk⟩ : ∃ k, b - a = k + 1 := ⟨b - a - 1, by omega⟩
  rw [hk, show b - (a + 1) = k by omega, List.range_succ_eq_map, List.map_cons, List.map_map]
  congr 1
  apply List.map_congr_left
  intro j _
  show t (a + (j + 1)) = t (a + 1 + j)
  rw [show a + (j + 1) = a + 1 + j by omega]
def VR (value : Nat → Int32) (acc : List Int32) : Prop := ∀ j, j < acc.length → value j = acc.getD j 0
theorem VR_nil (value : Nat → Int32) : VR value [] := fun j h => by simp at h
theorem VR_push {value : Nat → Int32} {acc : List Int32} {c : Int32} (h : VR value acc) : VR (upd value acc.length c) (acc ++ [c]) := by
  intro j hj
  simp at hj
  by_cases h1 : j = acc.length
  · subst h1
    rw [pk_us]
    simp
  · rw [pk_un h1, h j (by omega)]
    simp [List.getD_eq_getElem?_getD, List.getElem?_append_left (show j < acc.length by omega)]
def nextL (t : Nat → Int32) (n p : Nat) : Nat := if lEnd t n p < n then lEnd t n p + 2 else n
theorem nextL_le {t : Nat → Int32} {n p : Nat} (h : p ≤ n) : p ≤ nextL t n p ∧ nextL t n p ≤ n := by
  have h1 := lEnd_le (t := t) h
  unfold nextL
  split
  · next h2 => have := lEnd_at h h2; omega
  · omega
theorem pq_take8 (N : Nat) {t text : Nat → Int32} {n e : Nat} (hn : n ≤ 300) (he : e ≤ n) (h : ∀ j, j < n → text j = t j) (bh : Int32) : ∀ k q f acc value, q + k = e → k < f → VR value acc → acc.length + k ≤ 300 →
    ∃ value', f_Mo_takeLine_8 N (nI n) text f (nI e) (nI q) (nI acc.length) bh value = some (nI (acc ++ seg t q e).length, nI (if e < n then e + 2 else n), value') ∧ VR value' (acc ++ seg t q e) := by
  intro k
  induction k with
  | zero =>
    intro p f acc value hp hf hV hc
    obtain ⟨f, rfl⟩ : ∃ g, f = g + 1 := ⟨f - 1, by omega⟩
    refine ⟨value, ?_, by rw [seg_nil (by omega), List.append_nil]; exact hV⟩
    rw [f_Mo_takeLine_8, if_pos (nI_le (by omega) (by omega)), seg_nil (by omega), List.append_nil, pq_2, nI_add]
    simp (disch := omega) only [pq_le]
    by_cases h1 : e < n
    · rw [if_neg (by omega), if_pos h1]
    · rw [if_pos (by omega), if_neg h1]
  | succ k ih =>
    intro p f acc value hp hf hV hc
    obtain ⟨f, rfl⟩ : ∃ g, f = g + 1 := ⟨f - 1, by omega⟩
    obtain ⟨value', e1, e2⟩ := ih (p + 1) f (acc ++ [t p]) (upd value acc.length (t p)) (by omega) (by omega) (VR_push hV) (by simp; omega)
    rw [seg_cons (show p < e by omega), List.append_cons]
    refine ⟨value', ?_, e2⟩
    rw [← e1, f_Mo_takeLine_8, if_neg (nI_ge (by omega) (by omega)), nI_1, nI_1]
    simp (disch := omega) only [pq_in, nI_clamp]
    rw [if_pos (by omega), if_pos (by omega), h p (by omega), List.length_append]
    rfl
theorem pq_takeLine {N : Nat} {t text : Nat → Int32} {n p : Nat} (hN : 400 ≤ N) (hn : n ≤ 300) (h : ∀ j, j < n → text j = t j) (hp : p ≤ n) (bh : Int32) {acc : List Int32} {value : Nat → Int32} (hV : VR value acc) (hc : acc.length + (n - p) ≤ 300) :
    ∃ value', f_Mo_takeLine N (nI p) (nI n) (nI acc.length) bh text value = some (nI (acc ++ seg t p (lEnd t n p)).length, nI (nextL t n p), value') ∧ VR value' (acc ++ seg t p (lEnd t n p)) := by
  have hl := lEnd_le (t := t) hp
  unfold f_Mo_takeLine
  rw [pq_lineEnd hN hn h hp]
  simp only [Option.bind_some]
  exact pq_take8 N hn hl.2 h bh (lEnd t n p - p) p N acc value (by omega) (by omega) hV (by omega)
/-- the lines behind the first -/
def sCont (t : Nat → Int32) (n : Nat) : Nat → Nat → List Int32 → Nat × List Int32
  | 0, p, acc => (p, acc)
  | k + 1, p, acc => if p < n ∧ bl (t p) = true then sCont t n k (nextL t n p) (acc ++ seg t p (lEnd t n p)) else (p, acc)
theorem bl13 : bl 13 = false := by decide
/-- a line that isn't empty is left behind -/
theorem nextL_gt {t : Nat → Int32} {n p : Nat} (h : p < n) (hb : bl (t p) = true) : p < nextL t n p ∧ p < lEnd t n p := by
  have h1 := lEnd_le (t := t) (show p ≤ n by omega)
  have h2 : lEnd t n p ≠ p := by
    intro e
    have h3 := (lEnd_at (t := t) (show p ≤ n by omega) (by omega)).1
    rw [e] at h3
    rw [h3, bl13] at hb
    cases hb
  unfold nextL
  split <;> omega
theorem sCont_le (t : Nat → Int32) (n : Nat) : ∀ k p acc, p ≤ n → p ≤ (sCont t n k p acc).1 ∧ (sCont t n k p acc).1 ≤ n ∧ (sCont t n k p acc).2.length + p ≤ acc.length + (sCont t n k p acc).1 ∧ ∀ m, n - p ≤ k → m = (sCont t n k p acc).1 → ¬ (m < n ∧ bl (t m) = true) := by
  intro k
  induction k with
  | zero =>
    intro p acc hp
    simp only [sCont]
    refine ⟨by omega, by omega, by omega, fun m h1 h2 h3 => by omega⟩
  | succ k ih =>
    intro p acc hp
    unfold sCont
    split
    · next h =>
      have h1 := nextL_le (t := t) hp
      have h2 := nextL_gt h.1 h.2
      obtain ⟨a1, a2, a3, a4⟩ := ih (nextL t n p) (acc ++ seg t p (lEnd t n p)) h1.2
      rw [List.length_append, seg_len] at a3
      have h3 := lEnd_le (t := t) hp
      have h4 : lEnd t n p ≤ nextL t n p := by unfold nextL; split <;> omega
      exact ⟨by omega, a2, by omega, fun m q1 q2 => a4 m (by omega) q2⟩
    · next h => exact ⟨Nat.le_refl _, hp, Nat.le_refl _, fun m _ h2 => by rw [h2]; exact h⟩
/-- a field at p: its first line's bytes behind the colon, all its bytes, where it ends -/
def rawF (t : Nat → Int32) (n p : Nat) : Nat × List Int32 := sCont t n 300 (nextL t n (cEnd t n p + 1)) (seg t (cEnd t n p + 1) (lEnd t n (cEnd t n p + 1)))
def behF (t : Nat → Int32) (n p : Nat) : Nat := (rawF t n p).1
theorem isF_spec {t : Nat → Int32} {n p : Nat} (hp : p ≤ n) (h : isF t n p = true) : p < nEnd t n p ∧ nEnd t n p - p ≤ 60 ∧ nEnd t n p ≤ cEnd t n p ∧ cEnd t n p < n ∧ t (cEnd t n p) = 58 := by
  have h1 := of_decide_eq_true h
  have h2 := scan_le (q := nmB) (t := t) hp
  have h3 := scan_le (q := bl) (t := t) (show nEnd t n p ≤ n from h2.2)
  exact ⟨by have : p ≤ nEnd t n p := h2.1; omega, h1.2.1, h3.1, h1.2.2.1, h1.2.2.2⟩
theorem isF_lt {t : Nat → Int32} {n p : Nat} (hp : p ≤ n) (h : isF t n p = true) : p < n := by
  have := isF_spec hp h
  omega
theorem behF_le {t : Nat → Int32} {n p : Nat} (hn : n ≤ 300) (hp : p ≤ n) (h : isF t n p = true) : p + 2 ≤ behF t n p ∧ behF t n p ≤ n ∧ (rawF t n p).2.length + p + 2 ≤ behF t n p ∧ (behF t n p < n → (rawF t n p).2.length + p + 4 ≤ behF t n p ∧ bl (t (behF t n p)) = false) := by
  obtain ⟨a1, a2, a3, a4, a5⟩ := isF_spec hp h
  have b1 := lEnd_le (t := t) (show cEnd t n p + 1 ≤ n by omega)
  have b2 := nextL_le (t := t) (show cEnd t n p + 1 ≤ n by omega)
  obtain ⟨c1, c2, c3, c4⟩ := sCont_le t n 300 (nextL t n (cEnd t n p + 1)) (seg t (cEnd t n p + 1) (lEnd t n (cEnd t n p + 1))) b2.2
  rw [seg_len] at c3
  have e1 : behF t n p = (sCont t n 300 (nextL t n (cEnd t n p + 1)) (seg t (cEnd t n p + 1) (lEnd t n (cEnd t n p + 1)))).1 := rfl
  have e2 : (rawF t n p).2 = (sCont t n 300 (nextL t n (cEnd t n p + 1)) (seg t (cEnd t n p + 1) (lEnd t n (cEnd t n p + 1)))).2 := rfl
  rw [← e1] at c1 c2 c3
  rw [← e2] at c3
  have d1 : lEnd t n (cEnd t n p + 1) ≤ nextL t n (cEnd t n p + 1) := by unfold nextL; split <;> omega
  refine ⟨by omega, c2, by omega, fun hb => ⟨?_, ?_⟩⟩
  · have d2 : nextL t n (cEnd t n p + 1) < n := by omega
    have d3 : lEnd t n (cEnd t n p + 1) + 2 = nextL t n (cEnd t n p + 1) := by
      unfold nextL at d2 ⊢
      split
      · rfl
      · next q => rw [if_neg q] at d2; omega
    omega
  · have := c4 (behF t n p) (by omega) e1
    cases hq : bl (t (behF t n p)) with
    | false => rfl
    | true => exact absurd ⟨hb, hq⟩ this
