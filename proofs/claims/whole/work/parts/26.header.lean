/-! PURE SIDE 7: the class reads a header -/
theorem pq_readLine9 (N : Nat) {t mrow : Nat → Int32} {n e : Nat} (hn : n ≤ 300) (he : e ≤ n) (hM : MeR mrow t n) (hB : ∀ j, j < n → isB (t j)) {size os : Int32} {starts lengths : Nat → Int32} {Ts : List (List Int32)} : ∀ k q f op ol row, q + k = e → k < f → TX size os ol row starts lengths Ts op → tot Ts + op.length ≤ q →
    ∃ row', f_He_readLine_9 N os (nI n) mrow f (nI e) (nI q) ol row = some (nI (if n < e + 2 then n else e + 2), nI (leadF op (seg t q e)).length, row') ∧ TX size os (nI (leadF op (seg t q e)).length) row' starts lengths Ts (leadF op (seg t q e)) := by
  intro k
  induction k with
  | zero =>
    intro q f op ol row hq hf hT hc
    obtain ⟨f, rfl⟩ : ∃ g, f = g + 1 := ⟨f - 1, by omega⟩
    have e0 : leadF op (seg t q e) = op := by rw [seg_nil (by omega)]; rfl
    rw [e0]
    refine ⟨row, ?_, by rw [← hT.2.2.1]; exact hT⟩
    rw [f_He_readLine_9, if_pos (nI_le (by omega) (by omega)), hT.2.2.1, pq_2, nI_add]
    simp (disch := omega) only [pq_lt]
    split <;> rfl
  | succ k ih =>
    intro q f op ol row hq hf hT hc
    obtain ⟨f, rfl⟩ : ∃ g, f = g + 1 := ⟨f - 1, by omega⟩
    have e0 : leadF op (seg t q e) = leadF (if op.length = 0 ∧ bl (t q) = true then op else op ++ [t q]) (seg t (q + 1) e) := by rw [seg_cons (by omega)]; rfl
    have h3 := hT.2.2.1
    rw [e0, f_He_readLine_9, if_neg (nI_ge (by omega) (by omega)), pq_byteAt N hn (by omega) hM, nI_1]
    simp only [Option.bind_some]
    rw [if_pos (show q < n by omega)]
    by_cases h1 : op.length = 0
    · rw [if_neg (by rw [h3, h1]; decide), pq_isBlank]
      simp only [Option.bind_some]
      rw [pq_if10]
      by_cases h2 : bl (t q) = true
      · rw [show (if op.length = 0 ∧ bl (t q) = true then op else op ++ [t q]) = op from if_pos ⟨h1, h2⟩, if_pos h2]
        exact ih (q + 1) f op ol row (by omega) (by omega) hT (by omega)
      · rw [show (if op.length = 0 ∧ bl (t q) = true then op else op ++ [t q]) = op ++ [t q] from if_neg (fun z => h2 z.2), if_neg h2]
        obtain ⟨row', e1, e2⟩ := TX_append N hT (hB q (by omega)) (by omega)
        rw [e1]
        exact ih (q + 1) f (op ++ [t q]) _ row' (by omega) (by omega) e2 (by simp; omega)
    · rw [if_pos (by rw [h3]; exact nI_lt (a := 0) (by omega) (by omega)), show (if op.length = 0 ∧ bl (t q) = true then op else op ++ [t q]) = op ++ [t q] from if_neg (fun z => h1 z.1)]
      obtain ⟨row', e1, e2⟩ := TX_append N hT (hB q (by omega)) (by omega)
      rw [e1]
      exact ih (q + 1) f (op ++ [t q]) _ row' (by omega) (by omega) e2 (by simp; omega)
theorem pq_readLine {N : Nat} (hN : 400 ≤ N) {t mrow : Nat → Int32} {n p : Nat} (hn : n ≤ 300) (hp : p ≤ n) (hM : MeR mrow t n) (hB : ∀ j, j < n → isB (t j)) {size os ol : Int32} {row starts lengths : Nat → Int32} {Ts : List (List Int32)} {op : List Int32} (hT : TX size os ol row starts lengths Ts op) (hc : tot Ts + op.length ≤ p) :
    ∃ row', f_He_readLine N (nI p) os ol row (nI n) mrow = some (nI (nextL t n p), nI (leadF op (seg t p (lEnd t n p))).length, row') ∧ TX size os (nI (leadF op (seg t p (lEnd t n p))).length) row' starts lengths Ts (leadF op (seg t p (lEnd t n p))) := by
  have hl := lEnd_le (t := t) hp
  obtain ⟨row', e1, e2⟩ := pq_readLine9 N hn hl.2 hM hB (lEnd t n p - p) p N op ol row (by omega) (by omega) hT hc
  refine ⟨row', ?_, e2⟩
  unfold f_He_readLine
  rw [pq_endOfLine hN hn hM hp]
  simp only [Option.bind_some]
  rw [e1]
  congr 3
  unfold nextL
  by_cases h1 : lEnd t n p < n
  · have := lEnd_at hp h1
    rw [if_pos h1, if_neg (by omega)]
  · rw [if_neg h1, if_pos (by omega)]
theorem pq_readField88 (N : Nat) (hN : 400 ≤ N) {t mrow : Nat → Int32} {n : Nat} (hn : n ≤ 300) (hM : MeR mrow t n) (hB : ∀ j, j < n → isB (t j)) (ns nos nol : Int32) (nrow nst nle : Nat → Int32) {size os : Int32} {starts lengths : Nat → Int32} {Ts : List (List Int32)} (hTl : Ts.length < 100) : ∀ k p x f acc ol row, n - p ≤ k → p ≤ n → k < f → x ≤ p → TX size os ol row starts lengths Ts (leadF [] acc) → tot Ts + acc.length ≤ p →
    ∃ vs vos vol vrow vst vle, f_He_readField_88 N (nI n) mrow f (nI p) (nI x) ns nos nol nrow nst nle size os ol row starts lengths = some (nI (sCont t n k p acc).1, ns, nos, nol, nrow, nst, nle, vs, vos, vol, vrow, vst, vle) ∧ TX vs vos vol vrow vst vle (Ts ++ [trimL (sCont t n k p acc).2]) [] := by
  have fin : ∀ (p : Nat) (acc : List Int32) (ol : Int32) (row : Nat → Int32), TX size os ol row starts lengths Ts (leadF [] acc) → ∃ vs vos vol vrow vst vle, ((f_Te_dropBlanksAtOpenEnd N os ol row).bind fun z2 => ((f_Te_closeOpen N size os z2 starts lengths).bind fun z3 => some (nI p, ns, nos, nol, nrow, nst, nle, z3.1, z3.2.1, z3.2.2.1, row, z3.2.2.2.1, z3.2.2.2.2))) = some (nI p, ns, nos, nol, nrow, nst, nle, vs, vos, vol, vrow, vst, vle) ∧ TX vs vos vol vrow vst vle (Ts ++ [trimL acc]) [] := by
    intro p acc ol row hT
    obtain ⟨e1, e2⟩ := TX_dropBlanks hN hT
    have e3 : (leadF [] acc).take (tEnd (at0 (leadF [] acc)) (leadF [] acc).length) = trimL acc := by rw [leadF_nil]; exact trim_eq acc
    rw [e3] at e2
    obtain ⟨st', le', e4, e5⟩ := TX_close N e2 hTl
    rw [e1]
    simp only [Option.bind_some]
    rw [e4]
    exact ⟨_, _, _, _, _, _, rfl, e5⟩
  intro k
  induction k with
  | zero =>
    intro p x f acc ol row hk hp hf hx hT hc
    obtain ⟨f, rfl⟩ : ∃ g, f = g + 1 := ⟨f - 1, by omega⟩
    rw [f_He_readField_88]
    by_cases h1 : 300 ≤ x
    · rw [if_pos (by rw [pq_300]; exact nI_le h1 (by omega))]
      exact fin p acc ol row hT
    · rw [if_neg (by rw [pq_300]; exact nI_ge (by omega) (by omega)), pq_byteAt N hn (by omega) hM]
      simp only [Option.bind_some]
      rw [if_neg (by omega), pq_isBlank]
      simp only [Option.bind_some]
      rw [pq_if10, if_neg (by decide)]
      exact fin p acc ol row hT
  | succ k ih =>
    intro p x f acc ol row hk hp hf hx hT hc
    obtain ⟨f, rfl⟩ : ∃ g, f = g + 1 := ⟨f - 1, by omega⟩
    rw [f_He_readField_88]
    unfold sCont
    by_cases h1 : p < n
    · rw [if_neg (by rw [pq_300]; exact nI_ge (by omega) (by omega)), pq_byteAt N hn (by omega) hM]
      simp only [Option.bind_some]
      rw [if_pos h1, pq_isBlank]
      simp only [Option.bind_some]
      rw [pq_if10]
      by_cases h2 : bl (t p) = true
      · rw [if_pos h2, if_pos (show p < n ∧ bl (t p) = true from ⟨h1, h2⟩), nI_1]
        have g1 := nextL_gt h1 h2
        have g2 := nextL_le (t := t) hp
        have g3 : lEnd t n p ≤ nextL t n p := by have := lEnd_le (t := t) hp; unfold nextL; split <;> omega
        have g4 := leadF_len acc []
        obtain ⟨row', e1, e2⟩ := pq_readLine hN hn hp hM hB hT (by simp at g4; omega)
        rw [e1]
        rw [← leadF_app] at e2
        exact ih (nextL t n p) (x + 1) f (acc ++ seg t p (lEnd t n p)) _ row' (by omega) g2.2 (by omega) (by omega) (by rw [leadF_app]; rw [leadF_app] at e2; exact e2) (by rw [List.length_append, seg_len]; omega)
      · rw [if_neg h2, if_neg (show ¬ (p < n ∧ bl (t p) = true) from fun q => h2 q.2)]
        exact fin p acc ol row hT
    · rw [if_neg (show ¬ (p < n ∧ bl (t p) = true) from fun q => h1 q.1)]
      by_cases h3 : 300 ≤ x
      · rw [if_pos (by rw [pq_300]; exact nI_le h3 (by omega))]
        exact fin p acc ol row hT
      · rw [if_neg (by rw [pq_300]; exact nI_ge (by omega) (by omega)), pq_byteAt N hn (by omega) hM]
        simp only [Option.bind_some]
        rw [if_neg h1, pq_isBlank]
        simp only [Option.bind_some]
        rw [pq_if10, if_neg (by decide)]
        exact fin p acc ol row hT
theorem pq_readField42 (N : Nat) (hN : 400 ≤ N) {t mrow : Nat → Int32} {n p : Nat} (hn : n ≤ 300) (hp : p ≤ n) (hF : isF t n p = true) (hM : MeR mrow t n) (hB : ∀ j, j < n → isB (t j)) {ns nos : Int32} {nst nle : Nat → Int32} {Tn : List (List Int32)} (hnl : Tn.length < 100) (hnc : tot Tn ≤ p) {size os ol : Int32} {row starts lengths : Nat → Int32} {Ts : List (List Int32)} (hTl : Ts.length < 100) (hT : TX size os ol row starts lengths Ts []) (hc : tot Ts ≤ p) : ∀ k q f nol nrow, q + k = nEnd t n p → k < f → p ≤ q → TX ns nos nol nrow nst nle Tn (seg t p q) →
    ∃ ns' nos' nol' nrow' nst' nle' vs vos vol vrow vst vle, f_He_readField_42 N (nI n) mrow f (nI (nEnd t n p)) (nI (cEnd t n p)) (nI q) ns nos nol nrow nst nle size os ol row starts lengths = some (nI (behF t n p), ns', nos', nol', nrow', nst', nle', vs, vos, vol, vrow, vst, vle) ∧ TX ns' nos' nol' nrow' nst' nle' (Tn ++ [seg t p (nEnd t n p)]) [] ∧ TX vs vos vol vrow vst vle (Ts ++ [valF t n p]) [] := by
  obtain ⟨a1, a2, a3, a4, a5⟩ := isF_spec hp hF
  intro k
  induction k with
  | zero =>
    intro q f nol nrow hq hf hpq hTn
    obtain ⟨f, rfl⟩ : ∃ g, f = g + 1 := ⟨f - 1, by omega⟩
    rw [show q = nEnd t n p by omega] at hTn ⊢
    obtain ⟨st', le', e1, e2⟩ := TX_close N hTn hnl
    obtain ⟨row', e3, e4⟩ := pq_readLine hN hn (show cEnd t n p + 1 ≤ n by omega) hM hB hT (by simp; omega)
    have g2 := nextL_le (t := t) (show cEnd t n p + 1 ≤ n by omega)
    have g3 : lEnd t n (cEnd t n p + 1) ≤ nextL t n (cEnd t n p + 1) := by have := lEnd_le (t := t) (show cEnd t n p + 1 ≤ n by omega); unfold nextL; split <;> omega
    obtain ⟨vs, vos, vol, vrow, vst, vle, e5, e6⟩ := pq_readField88 N hN hn hM hB (nI (Tn ++ [seg t p (nEnd t n p)]).length) (nI (tot (Tn ++ [seg t p (nEnd t n p)]))) 0 nrow st' le' hTl 300 (nextL t n (cEnd t n p + 1)) 0 N (seg t (cEnd t n p + 1) (lEnd t n (cEnd t n p + 1))) _ row' (by omega) g2.2 (by omega) (by omega) e4 (by rw [seg_len]; omega)
    refine ⟨_, _, _, _, _, _, vs, vos, vol, vrow, vst, vle, ?_, e2, e6⟩
    rw [f_He_readField_42, if_pos (nI_le (Nat.le_refl _) (by omega)), e1]
    simp only [Option.bind_some]
    rw [nI_1, e3]
    exact e5
  | succ k ih =>
    intro q f nol nrow hq hf hpq hTn
    obtain ⟨f, rfl⟩ : ∃ g, f = g + 1 := ⟨f - 1, by omega⟩
    rw [f_He_readField_42, if_neg (nI_ge (by omega) (by omega)), pq_byteAt N hn (by omega) hM]
    simp only [Option.bind_some]
    rw [if_pos (show q < n by omega), nI_1]
    obtain ⟨row', e1, e2⟩ := TX_append N hTn (hB q (by omega)) (by rw [seg_len]; omega)
    rw [e1]
    have e3 : seg t p q ++ [t q] = seg t p (q + 1) := by
      unfold seg
      rw [show q + 1 - p = (q - p) + 1 by omega, List.range_succ, List.map_append]
      simp [show p + (q - p) = q by omega]
    rw [e3] at e2 ⊢
    exact ih (q + 1) f _ row' (by omega) (by omega) (by omega) e2
theorem pq_readField {N : Nat} (hN : 400 ≤ N) {t mrow : Nat → Int32} {n p : Nat} (hn : n ≤ 300) (hp : p ≤ n) (hM : MeR mrow t n) (hB : ∀ j, j < n → isB (t j)) {ns nos nol : Int32} {nrow nst nle : Nat → Int32} {Tn : List (List Int32)} (hnl : Tn.length < 100) (hnc : tot Tn ≤ p) (hTn : TX ns nos nol nrow nst nle Tn []) {size os ol : Int32} {row starts lengths : Nat → Int32} {Ts : List (List Int32)} (hTl : Ts.length < 100) (hT : TX size os ol row starts lengths Ts []) (hc : tot Ts ≤ p) :
    (isF t n p = false → f_He_readField N (nI p) ns nos nol nrow nst nle size os ol row starts lengths (nI n) mrow = some (-1, ns, nos, nol, nrow, nst, nle, size, os, ol, row, starts, lengths)) ∧
    (isF t n p = true → ∃ ns' nos' nol' nrow' nst' nle' vs vos vol vrow vst vle, f_He_readField N (nI p) ns nos nol nrow nst nle size os ol row starts lengths (nI n) mrow = some (nI (behF t n p), ns', nos', nol', nrow', nst', nle', vs, vos, vol, vrow, vst, vle) ∧ TX ns' nos' nol' nrow' nst' nle' (Tn ++ [seg t p (nEnd t n p)]) [] ∧ TX vs vos vol vrow vst vle (Ts ++ [valF t n p]) []) := by
  have s1 := scan_le (q := nmB) (t := t) hp
  have s2 := scan_le (q := bl) (t := t) (show nEnd t n p ≤ n from s1.2)
  have s1' : p ≤ nEnd t n p := s1.1
  have s3 : cEnd t n p ≤ n := s2.2
  have s4 : nEnd t n p ≤ n := s1.2
  have key : f_He_readField N (nI p) ns nos nol nrow nst nle size os ol row starts lengths (nI n) mrow = if isF t n p = true then f_He_readField_42 N (nI n) mrow N (nI (nEnd t n p)) (nI (cEnd t n p)) (nI p) ns nos nol nrow nst nle size os ol row starts lengths else some (-1, ns, nos, nol, nrow, nst, nle, size, os, ol, row, starts, lengths) := by
    unfold f_He_readField
    rw [pq_endOfName hN hn hM hp]
    simp only [Option.bind_some]
    rw [pq_endOfBlanks hN hn hM s4]
    simp only [Option.bind_some]
    rw [show scan bl t n (nEnd t n p) = cEnd t n p from rfl, pq_byteAt N hn (by omega) hM, pk_sub s1', pq_60]
    simp only [Option.bind_some]
    simp (disch := omega) only [pq_eq, pq_lt]
    unfold isF
    by_cases h1 : nEnd t n p = p
    · rw [if_pos h1, if_neg]
      simp [h1]
    · rw [if_neg h1]
      by_cases h2 : 60 < nEnd t n p - p
      · rw [if_pos h2, if_neg]
        simp; omega
      · rw [if_neg h2]
        by_cases h3 : cEnd t n p < n
        · rw [if_pos h3]
          by_cases h4 : t (cEnd t n p) = 58
          · rw [if_pos h4, if_pos]
            simp [h4]; omega
          · rw [if_neg h4, if_neg]
            simp [h4]
        · rw [if_neg h3, if_neg (by decide), if_neg]
          simp; omega
  refine ⟨fun h => by rw [key, if_neg (by rw [h]; decide)], fun h => ?_⟩
  rw [key, if_pos h]
  exact pq_readField42 N hN hn hp h hM hB hnl hnc hTl hT hc (nEnd t n p - p) p N nol nrow (by omega) (by omega) (Nat.le_refl _) (by rw [seg_nil (Nat.le_refl _)]; exact hTn)
