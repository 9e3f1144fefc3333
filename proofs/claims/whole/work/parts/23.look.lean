/-! PURE SIDE 4: trimming, and the reference's look -/
/-- how much is left without blanks at the end -/
def tEnd (a : Nat → Int32) : Nat → Nat
  | 0 => 0
  | k + 1 => if bl (a k) = true then tEnd a k else k + 1
theorem tEnd_le (a : Nat → Int32) : ∀ k, tEnd a k ≤ k := by
  intro k
  induction k with
  | zero => simp [tEnd]
  | succ k ih => unfold tEnd; split <;> omega
theorem tEnd_last (a : Nat → Int32) : ∀ k, 0 < tEnd a k → bl (a (tEnd a k - 1)) = false := by
  intro k
  induction k with
  | zero => simp [tEnd]
  | succ k ih =>
    unfold tEnd
    split
    · exact ih
    · next h => intro _; simpa using h
theorem tEnd_all (a : Nat → Int32) : ∀ k j, tEnd a k ≤ j → j < k → bl (a j) = true := by
  intro k
  induction k with
  | zero => intro j _ h; omega
  | succ k ih =>
    intro j
    unfold tEnd
    split
    · next h =>
      intro h1 h2
      by_cases hj : j = k
      · rw [hj]; exact h
      · exact ih j h1 (by omega)
    · intro h1 h2; omega
def at0 (acc : List Int32) (j : Nat) : Int32 := acc.getD j 0
def trimL (acc : List Int32) : List Int32 := (acc.take (tEnd (at0 acc) acc.length)).drop (sWh bl (at0 acc) (tEnd (at0 acc) acc.length) 0)
theorem trimL_len (acc : List Int32) : (trimL acc).length = tEnd (at0 acc) acc.length - sWh bl (at0 acc) (tEnd (at0 acc) acc.length) 0 := by
  have := tEnd_le (at0 acc) acc.length
  simp [trimL]
  omega
theorem trimL_at (acc : List Int32) {j : Nat} (h : j < (trimL acc).length) : (trimL acc).getD j 0 = at0 acc (sWh bl (at0 acc) (tEnd (at0 acc) acc.length) 0 + j) := by
  rw [trimL_len] at h
  unfold trimL
  show _ = acc.getD _ 0
  rw [List.getD_eq_getElem?_getD, List.getElem?_drop, List.getElem?_take_of_lt (by omega), List.getD_eq_getElem?_getD]
theorem pq_trim67 (N : Nat) {a : Nat → Int32} {l e : Nat} (hl : l ≤ e) (he : e ≤ 300) : ∀ k q f value, q + k = e → k < f → l ≤ q → (∀ j, j < q - l → value j = a (l + j)) → (∀ j, q ≤ j → j < e → value j = a j) →
    ∃ value', f_Mo_trim_67 N f (nI l) (nI q) (nI e) value = some (nI (e - l), value') ∧ ∀ j, j < e - l → value' j = a (l + j) := by
  intro k
  induction k with
  | zero =>
    intro q f value hq hf hlq h1 h2
    obtain ⟨f, rfl⟩ : ∃ g, f = g + 1 := ⟨f - 1, by omega⟩
    refine ⟨value, ?_, fun j hj => h1 j (by omega)⟩
    rw [f_Mo_trim_67, if_pos (nI_le (by omega) (by omega)), pk_sub hl]
  | succ k ih =>
    intro q f value hq hf hlq h1 h2
    obtain ⟨f, rfl⟩ : ∃ g, f = g + 1 := ⟨f - 1, by omega⟩
    obtain ⟨value', e1, e2⟩ := ih (q + 1) f (upd value (q - l) (value q)) (by omega) (by omega) (by omega)
      (fun j hj => by
        by_cases hj2 : j = q - l
        · rw [hj2, pk_us, h2 q (by omega) (by omega), show l + (q - l) = q by omega]
        · rw [pk_un hj2, h1 j (by omega)])
      (fun j hj1 hj2 => by rw [pk_un (by omega), h2 j (by omega) hj2])
    refine ⟨value', ?_, e2⟩
    rw [← e1, f_Mo_trim_67, if_neg (nI_ge (by omega) (by omega)), nI_1, pk_sub hlq]
    simp (disch := omega) only [pq_in, nI_clamp]
    rw [if_pos (by omega), if_pos (by omega)]
theorem pq_trim39 (N : Nat) {a value : Nat → Int32} {e : Nat} (he : e ≤ 300) (hV : ∀ j, j < e → value j = a j) : ∀ k q f, q + k = e → k < f → f_Mo_trim_39 N f (nI q) (nI e) value = f_Mo_trim_67 N N (nI (sWh bl a k q)) (nI (sWh bl a k q)) (nI e) value := by
  intro k
  induction k with
  | zero =>
    intro q f hq hf
    obtain ⟨f, rfl⟩ : ∃ g, f = g + 1 := ⟨f - 1, by omega⟩
    rw [f_Mo_trim_39, if_pos (nI_le (by omega) (by omega))]
    rfl
  | succ k ih =>
    intro q f hq hf
    obtain ⟨f, rfl⟩ : ∃ g, f = g + 1 := ⟨f - 1, by omega⟩
    rw [f_Mo_trim_39, if_neg (nI_ge (by omega) (by omega)), nI_1]
    simp (disch := omega) only [pq_in, nI_clamp]
    rw [if_pos (by omega), hV q (by omega), pq_blank]
    simp only [Option.bind_some]
    rw [pq_if10, sWh, ih (q + 1) f (by omega) (by omega)]
    split <;> rfl
theorem pq_trim0 (N : Nat) {a value : Nat → Int32} : ∀ k f, k ≤ 300 → k < f → (∀ j, j < k → value j = a j) → f_Mo_trim_0 N f (nI k) value = f_Mo_trim_39 N N 0 (nI (tEnd a k)) value := by
  intro k
  induction k with
  | zero =>
    intro f hk hf hV
    obtain ⟨f, rfl⟩ : ∃ g, f = g + 1 := ⟨f - 1, by omega⟩
    rw [f_Mo_trim_0, if_pos (by decide)]
    rfl
  | succ k ih =>
    intro f hk hf hV
    obtain ⟨f, rfl⟩ : ∃ g, f = g + 1 := ⟨f - 1, by omega⟩
    rw [f_Mo_trim_0, if_neg (nI_nle (by omega) (by omega)), nI_pred]
    simp (disch := omega) only [pq_in, nI_clamp]
    rw [if_pos (by omega), hV k (by omega), pq_blank]
    simp only [Option.bind_some]
    rw [pq_if10, tEnd, ih f (by omega) (by omega) (fun j hj => hV j (by omega))]
    split <;> rfl
theorem pq_trim {N : Nat} (hN : 400 ≤ N) {acc : List Int32} {value : Nat → Int32} (hc : acc.length ≤ 300) (hV : VR value acc) : ∃ value', f_Mo_trim N (nI acc.length) value = some (nI (trimL acc).length, value') ∧ VR value' (trimL acc) := by
  have h1 := tEnd_le (at0 acc) acc.length
  have h2 := sWh_le bl (at0 acc) (tEnd (at0 acc) acc.length) 0
  have hV' : ∀ j, j < acc.length → value j = at0 acc j := hV
  obtain ⟨value', e1, e2⟩ := pq_trim67 N (a := at0 acc) (l := sWh bl (at0 acc) (tEnd (at0 acc) acc.length) 0) (e := tEnd (at0 acc) acc.length) (by omega) (by omega) (tEnd (at0 acc) acc.length - sWh bl (at0 acc) (tEnd (at0 acc) acc.length) 0) _ N value (by omega) (by omega) (Nat.le_refl _) (fun j hj => by omega) (fun j _ hj => hV' j (by omega))
  refine ⟨value', ?_, fun j hj => ?_⟩
  · unfold f_Mo_trim
    rw [pq_trim0 N (a := at0 acc) acc.length N hc (by omega) hV', pq_0, pq_trim39 N (a := at0 acc) (by omega) (fun j hj => hV' j (by omega)) (tEnd (at0 acc) acc.length) 0 N (by omega) (by omega), e1, trimL_len]
  · rw [trimL_at acc hj]
    exact e2 j (by rw [trimL_len] at hj; exact hj)
def valF (t : Nat → Int32) (n p : Nat) : List Int32 := trimL (rawF t n p).2
theorem pq_look119 (N : Nat) (hN : 400 ≤ N) {t text : Nat → Int32} {n : Nat} (hn : n ≤ 300) (h : ∀ j, j < n → text j = t j) (r7 : Int32 → Int32 → Int32 → Int32 → Int32 → (Nat → Int32) → Option (Int32 × Int32 × Int32 × Int32 × Int32 × (Nat → Int32))) (x1 x2 nf nm : Int32) : ∀ k p f acc value, n - p ≤ k → p ≤ n → k < f → VR value acc → acc.length ≤ p →
    ∃ value', f_Mo_look_119 N r7 x1 (nI n) text f x2 nf nm (nI acc.length) (nI p) value = r7 (x2 + 1) nf nm (nI (sCont t n k p acc).2.length) (nI (sCont t n k p acc).1) value' ∧ VR value' (sCont t n k p acc).2 := by
  intro k
  induction k with
  | zero =>
    intro p f acc value hk hp hf hV hc
    obtain ⟨f, rfl⟩ : ∃ g, f = g + 1 := ⟨f - 1, by omega⟩
    refine ⟨value, ?_, hV⟩
    rw [f_Mo_look_119, if_pos (nI_le (by omega) (by omega))]
    rfl
  | succ k ih =>
    intro p f acc value hk hp hf hV hc
    obtain ⟨f, rfl⟩ : ∃ g, f = g + 1 := ⟨f - 1, by omega⟩
    unfold sCont
    by_cases h1 : p < n
    · have h1' := h p h1
      by_cases h2 : bl (t p) = true
      · rw [if_pos ⟨h1, h2⟩]
        have g1 := nextL_gt h1 h2
        have g2 := nextL_le (t := t) hp
        have g3 : lEnd t n p ≤ nextL t n p := by have := lEnd_le (t := t) hp; unfold nextL; split <;> omega
        obtain ⟨v1, e1, e2⟩ := pq_takeLine hN hn h hp (nI p) hV (by omega)
        obtain ⟨v2, e3, e4⟩ := ih (nextL t n p) f (acc ++ seg t p (lEnd t n p)) v1 (by omega) g2.2 (by omega) e2 (by rw [List.length_append, seg_len]; omega)
        refine ⟨v2, ?_, e4⟩
        rw [← e3, f_Mo_look_119, if_neg (nI_ge (by omega) (by omega))]
        simp (disch := omega) only [pq_in, nI_clamp]
        rw [if_pos (by omega), h1', pq_blank]
        simp only [Option.bind_some]
        rw [pq_if10, if_pos h2, e1]
        rfl
      · rw [if_neg (fun q => h2 q.2)]
        refine ⟨value, ?_, hV⟩
        rw [f_Mo_look_119, if_neg (nI_ge (by omega) (by omega))]
        simp (disch := omega) only [pq_in, nI_clamp]
        rw [if_pos (by omega), h1', pq_blank]
        simp only [Option.bind_some]
        rw [pq_if10, if_neg h2]
    · rw [if_neg (fun q => h1 q.1)]
      refine ⟨value, ?_, hV⟩
      rw [f_Mo_look_119, if_pos (nI_le (by omega) (by omega))]
theorem nmB_bl {c : Int32} (h : nmB c = true) : bl c = false ∧ c ≠ 58 := by
  have h1 := of_decide_eq_true h
  refine ⟨?_, h1.2.2⟩
  cases hb : bl c with
  | false => rfl
  | true =>
    rcases of_decide_eq_true hb with rfl | rfl
    · exact absurd h1.1 (by decide)
    · exact absurd h1.1 (by decide)
theorem pq_look55 (N : Nat) (hN : 400 ≤ N) {t text : Nat → Int32} {n p : Nat} (hn : n ≤ 300) (h : ∀ j, j < n → text j = t j) (hp : p ≤ n) (hF : isF t n p = true) (r7 : Int32 → Int32 → Int32 → Int32 → Int32 → (Nat → Int32) → Option (Int32 × Int32 × Int32 × Int32 × Int32 × (Nat → Int32))) (x1 x2 nf vs : Int32) (value : Nat → Int32) : ∀ k j f, j + k = nEnd t n p - p → k < f →
    ∃ value', f_Mo_look_55 N r7 x1 (nI n) text f x2 (nI (cEnd t n p)) nf (nI j) vs (nI p) value = r7 (x2 + 1) nf (nI (nEnd t n p - p)) (nI (rawF t n p).2.length) (nI (behF t n p)) value' ∧ VR value' (rawF t n p).2 := by
  obtain ⟨a1, a2, a3, a4, a5⟩ := isF_spec hp hF
  obtain ⟨v1, e1, e2⟩ := pq_takeLine hN hn h (show cEnd t n p + 1 ≤ n by omega) (nI p) (VR_nil value) (by simp; omega)
  rw [List.nil_append] at e1 e2
  have g2 := nextL_le (t := t) (show cEnd t n p + 1 ≤ n by omega)
  have g3 : lEnd t n (cEnd t n p + 1) ≤ nextL t n (cEnd t n p + 1) := by have := lEnd_le (t := t) (show cEnd t n p + 1 ≤ n by omega); unfold nextL; split <;> omega
  obtain ⟨v2, e3, e4⟩ := pq_look119 N hN hn h r7 x1 x2 nf (nI (nEnd t n p - p)) 300 (nextL t n (cEnd t n p + 1)) N (seg t (cEnd t n p + 1) (lEnd t n (cEnd t n p + 1))) v1 (by omega) g2.2 (by omega) e2 (by rw [seg_len]; omega)
  have fin : ((f_Mo_takeLine N (nI (cEnd t n p) + 1) (nI n) 0 (nI p) text value).bind fun z => f_Mo_look_119 N r7 x1 (nI n) text N x2 nf (nI (nEnd t n p - p)) z.1 z.2.1 z.2.2) = r7 (x2 + 1) nf (nI (nEnd t n p - p)) (nI (rawF t n p).2.length) (nI (behF t n p)) v2 := by
    rw [nI_1]
    have e1' : f_Mo_takeLine N (nI (cEnd t n p + 1)) (nI n) 0 (nI p) text value = _ := e1
    rw [e1']
    exact e3
  intro k
  induction k with
  | zero =>
    intro j f hj hf
    obtain ⟨f, rfl⟩ : ∃ g, f = g + 1 := ⟨f - 1, by omega⟩
    refine ⟨v2, ?_, e4⟩
    have hj' : j = nEnd t n p - p := by omega
    subst hj'
    rw [f_Mo_look_55, nI_add]
    simp (disch := omega) only [pq_in, nI_clamp]
    simp only [show p + (nEnd t n p - p) < 300 from by omega, if_true]
    rw [show p + (nEnd t n p - p) = nEnd t n p by omega, h _ (by omega), pq_blank]
    simp only [Option.bind_some]
    rw [fin, pq_if10]
    by_cases h1 : t (nEnd t n p) = 58
    · rw [if_pos h1]
    · rw [if_neg h1, if_pos]
      have h2 : nEnd t n p ≠ cEnd t n p := fun q => h1 (by rw [q]; exact a5)
      exact scan_all (n := n) (Nat.le_refl _) (by have : cEnd t n p = scan bl t n (nEnd t n p) := rfl; omega)
  | succ k ih =>
    intro j f hj hf
    obtain ⟨f, rfl⟩ : ∃ g, f = g + 1 := ⟨f - 1, by omega⟩
    obtain ⟨v3, e5, e6⟩ := ih (j + 1) f (by omega) (by omega)
    refine ⟨v3, ?_, e6⟩
    have h1 := nmB_bl (scan_all (q := nmB) (t := t) (n := n) (p := p) (j := p + j) (by omega) (by have : nEnd t n p = scan nmB t n p := rfl; omega))
    rw [← e5, f_Mo_look_55, nI_add, nI_1]
    simp (disch := omega) only [pq_in, nI_clamp]
    simp only [show p + j < 300 from by omega, if_true]
    rw [h _ (by omega), if_neg h1.2, pq_blank]
    simp only [Option.bind_some]
    rw [pq_if10, if_neg (by rw [h1.1]; decide), nI_1]
