/-! PURE SIDE 22: find and count, both sides -/
section OPS2
variable {t : Nat → Int32} {n m : Nat} {hend ns nos nol : Int32} {nrow nst nle : Nat → Int32} {vs vos vol : Int32} {vrow vst vle : Nat → Int32} {fields fs fos fol : Int32} {frow fst fle at' firsts amounts : Nat → Int32}
def nmF (t : Nat → Int32) (n i : Nat) : List Int32 := seg t (fpos t n i) (nEnd t n (fpos t n i))
theorem find69_0 (r : Int32 → Int32 → Int32 → Int32 → Int32 → Int32 → Int32 → Int32 → (Nat → Int32) → Option (Int32 × Int32 × Int32 × Int32 × Int32 × Int32 × (Nat → Int32))) (bt : Int32) (f : Nat) (x3 x4 x5 x7 th nf nm vl bh : Int32) (value : Nat → Int32) : f_Mo_find_69 lawN r bt t (f + 1) x3 x4 x5 0 x7 th nf nm vl bh value = r x3 x4 (x5 + 1) th nf nm vl bh value := by
  rw [f_Mo_find_69]
  by_cases h : x4 ≤ x7
  · rw [if_pos h, if_pos rfl]
  · rw [if_neg h, if_pos rfl, if_pos rfl]
theorem find69_1 (hn : n ≤ 300) (r : Int32 → Int32 → Int32 → Int32 → Int32 → Int32 → Int32 → Int32 → (Nat → Int32) → Option (Int32 × Int32 × Int32 × Int32 × Int32 × Int32 × (Nat → Int32))) (bt x5 th nm vl bh : Int32) (value : Nat → Int32) {a b l : Nat} (ha : a + l ≤ n) (hb : b + l ≤ n) : ∀ d q f, q + d = l → d + 1 < f → f_Mo_find_69 lawN r bt t f (nI b) (nI l) x5 1 (nI q) th (nI a) nm vl bh value = if alike (seg t a (a + l)) (seg t b (b + l)) d q = true then some (x5, th, nI a, nm, vl, bh, value) else r (nI b) (nI l) (x5 + 1) th (nI a) nm vl bh value := by
  intro d
  induction d with
  | zero =>
    intro q f hq hf
    obtain ⟨f, rfl⟩ : ∃ g, f = g + 1 := ⟨f - 1, by omega⟩
    rw [f_Mo_find_69, if_pos (nI_le (by omega) (by omega)), if_neg (by decide)]
    rfl
  | succ d ih =>
    intro q f hq hf
    obtain ⟨f, rfl⟩ : ∃ g, f = g + 1 := ⟨f - 1, by omega⟩
    rw [f_Mo_find_69, if_neg (nI_ge (by omega) (by omega)), if_neg (show ¬ (1 : Int32) = 0 by decide), nI_add, nI_add, nI_1]
    simp (disch := omega) only [pq_in, nI_clamp]
    rw [if_pos (by omega), pq_low]
    simp only [Option.bind_some]
    rw [if_pos (by omega), pq_low]
    simp only [Option.bind_some]
    have ea : at0 (seg t a (a + l)) q = t (a + q) := seg_at (by omega)
    have eb : at0 (seg t b (b + l)) q = t (b + q) := seg_at (by omega)
    rw [show alike (seg t a (a + l)) (seg t b (b + l)) (d + 1) q = if lowS (at0 (seg t a (a + l)) q) = lowS (at0 (seg t b (b + l)) q) then alike (seg t a (a + l)) (seg t b (b + l)) d (q + 1) else false from rfl, ea, eb]
    by_cases h1 : lowS (t (a + q)) = lowS (t (b + q))
    · rw [if_pos h1, if_pos h1]
      exact ih (q + 1) f (by omega) (by omega)
    · rw [if_neg h1, if_neg h1]
      obtain ⟨f, rfl⟩ : ∃ g, f = g + 1 := ⟨f - 1, by omega⟩
      rw [find69_0, if_neg (by decide)]
theorem find_both (hn : n ≤ 300) (hB : ∀ j, j < n → isB (t j)) (hm : Cnt t n m) (d2 : TX ns nos nol nrow nst nle (nmsF t n m) []) {j : Nat} (hj : j < m) (th : Int32) : ∀ d k f nf nm vl bh value, k + d = m → d + 1 < f →
    ∃ r a1 a2 a3 a4 a5 a6, f_De_find_25 lawN (nI j) ns nrow nst nle f (nI k) = some r ∧ f_Mo_find_41 lawN (nI n) t f (nI (fpos t n j)) (nI (nEnd t n (fpos t n j) - fpos t n j)) (nI k) th nf nm vl bh value = some (r, a1, a2, a3, a4, a5, a6) := by
  have h75 := Cnt_75 hn hm
  have hBn : ∀ i, i < (nmsF t n m).length → allB ((nmsF t n m).getD i []) := by
    intro i hi
    rw [nmsF_len] at hi
    rw [nmsF_at hi]
    exact allB_seg hB (nm_len hn hm hi).1
  have hnj := nm_len hn hm hj
  intro d
  induction d with
  | zero =>
    intro k f nf nm vl bh value hk hf
    obtain ⟨f, rfl⟩ : ∃ g, f = g + 1 := ⟨f - 1, by omega⟩
    obtain ⟨z, e1, -, e3⟩ := pq_look lawN_ge (t := t) (text := t) hn (fun _ _ => rfl) hm (i := k) (by omega) nf nm vl bh value
    obtain ⟨a, b, c, v', rfl⟩ := e3 (by omega)
    rw [f_De_find_25, f_Mo_find_41, e1, d2.1, nmsF_len, if_pos (nI_le (by omega) (by omega))]
    simp only [Option.bind_some]
    rw [if_pos trivial]
    exact ⟨_, _, _, _, _, _, _, rfl, rfl⟩
  | succ d ih =>
    intro k f nf nm vl bh value hk hf
    obtain ⟨f, rfl⟩ : ∃ g, f = g + 1 := ⟨f - 1, by omega⟩
    have hkm : k < m := by omega
    have hnk := nm_len hn hm hkm
    obtain ⟨z, e1, e2, -⟩ := pq_look lawN_ge (t := t) (text := t) hn (fun _ _ => rfl) hm (i := k) (by omega) nf nm vl bh value
    obtain ⟨v', rfl, hv'⟩ := e2 hkm
    rw [f_De_find_25, f_Mo_find_41, e1]
    have e4 := pq_areAlike d2 hBn (i := k) (j := j) (by rw [nmsF_len]; exact hkm) (by rw [nmsF_len]; exact hj)
    rw [nmsF_at hkm, nmsF_at hj] at e4
    rw [if_neg (by rw [d2.1, nmsF_len]; exact nI_ge hkm (by omega)), e4]
    simp only [Option.bind_some]
    rw [b01_0, if_neg (show ¬ (1 : Int32) = 0 by decide), nI_1]
    simp (disch := omega) only [pq_eq]
    obtain ⟨r0, b1, b2, b3, b4, b5, b6, i1, i2⟩ := ih (k + 1) f (nI (fpos t n k)) (nI (nEnd t n (fpos t n k) - fpos t n k)) (nI (valF t n (fpos t n k)).length) (nI (fpos t n (k + 1))) v' (by omega) (by omega)
    unfold sameN
    rw [seg_len, seg_len]
    by_cases hl : nEnd t n (fpos t n k) - fpos t n k = nEnd t n (fpos t n j) - fpos t n j
    · rw [if_pos hl, show decide (nEnd t n (fpos t n k) - fpos t n k = nEnd t n (fpos t n j) - fpos t n j) = true from decide_eq_true hl, Bool.true_and]
      have e5 := find69_1 (t := t) hn (f_Mo_find_41 lawN (nI n) t f) (nI n) (nI k) th (nI (nEnd t n (fpos t n k) - fpos t n k)) (nI (valF t n (fpos t n k)).length) (nI (fpos t n (k + 1))) v' (a := fpos t n k) (b := fpos t n j) (l := nEnd t n (fpos t n j) - fpos t n j) (by omega) (by omega) (nEnd t n (fpos t n j) - fpos t n j) 0 lawN (by omega) (by have := lawN_ge; omega)
      rw [show nI 0 = (0 : Int32) from rfl, show fpos t n k + (nEnd t n (fpos t n j) - fpos t n j) = nEnd t n (fpos t n k) by omega, show fpos t n j + (nEnd t n (fpos t n j) - fpos t n j) = nEnd t n (fpos t n j) by omega] at e5
      rw [e5, hl]
      by_cases ha : alike (seg t (fpos t n k) (nEnd t n (fpos t n k))) (seg t (fpos t n j) (nEnd t n (fpos t n j))) (nEnd t n (fpos t n j) - fpos t n j) 0 = true
      · rw [if_pos ha, if_pos ha]
        exact ⟨_, _, _, _, _, _, _, rfl, rfl⟩
      · rw [if_neg ha, if_neg ha, nI_1]
        rw [hl] at i2
        exact ⟨r0, b1, b2, b3, b4, b5, b6, i1, i2⟩
    · rw [if_neg hl, show decide (nEnd t n (fpos t n k) - fpos t n k = nEnd t n (fpos t n j) - fpos t n j) = false from decide_eq_false hl, Bool.false_and, if_neg (by decide)]
      have e6 := find69_0 (t := t) (f_Mo_find_41 lawN (nI n) t f) (nI n) (lawN - 1) (nI (fpos t n j)) (nI (nEnd t n (fpos t n j) - fpos t n j)) (nI k) 0 th (nI (fpos t n k)) (nI (nEnd t n (fpos t n k) - fpos t n k)) (nI (valF t n (fpos t n k)).length) (nI (fpos t n (k + 1))) v'
      rw [show lawN - 1 + 1 = lawN from rfl] at e6
      rw [e6, nI_1]
      exact ⟨r0, b1, b2, b3, b4, b5, b6, i1, i2⟩
theorem find_out (hn : n ≤ 300) (hm : Cnt t n m) (d2 : TX ns nos nol nrow nst nle (nmsF t n m) []) {i : Nat} (hi : i < 2 ^ 31) (him : m ≤ i) (x3 x4 x th nf nm vl bh : Int32) (value : Nat → Int32) (f : Nat) : ∃ a1 a2 a3 a4 a5 a6, f_De_find_25 lawN x ns nrow nst nle (f + 1) (nI i) = some (-1) ∧ f_Mo_find_41 lawN (nI n) t (f + 1) x3 x4 (nI i) th nf nm vl bh value = some (-1, a1, a2, a3, a4, a5, a6) := by
  have h75 := Cnt_75 hn hm
  obtain ⟨z, e1, -, e3⟩ := pq_look lawN_ge (t := t) (text := t) hn (fun _ _ => rfl) hm (i := i) hi nf nm vl bh value
  obtain ⟨a, b, c, v', rfl⟩ := e3 him
  rw [f_De_find_25, f_Mo_find_41, e1, d2.1, nmsF_len, if_pos (nI_le him hi)]
  simp only [Option.bind_some]
  rw [if_pos trivial]
  exact ⟨_, _, _, _, _, _, (by first | rfl | trivial), rfl⟩
theorem op_find (hn : n ≤ 300) (hB : ∀ j, j < n → isB (t j)) (hm : Cnt t n m) (hD : DR t n m hend ns nos nol nrow nst nle vs vos vol vrow vst vle fields fs fos fol frow fst fle at' firsts amounts) (x1 x2 th nf nm vl bh : Int32) (value : Nat → Int32) :
    ∃ r a1 a2 a3 a4 a5 a6, f_De_find lawN x1 x2 ns nrow nst nle = some r ∧ f_Mo_find lawN x1 x2 th (nI n) nf nm vl bh t value = some (r, a1, a2, a3, a4, a5, a6) := by
  obtain ⟨d1, d2, d3, d4, d5, d6, d7⟩ := hD
  have h75 := Cnt_75 hn hm
  unfold f_De_find f_Mo_find
  by_cases h2 : x2 < 0
  · rw [if_pos h2, has_neg lawN h2]
    exact ⟨_, _, _, _, _, _, _, rfl, rfl⟩
  · rw [if_neg h2]
    obtain ⟨j, hj, rfl⟩ := nI_of h2
    obtain ⟨z, e1, e2, e3⟩ := pq_look lawN_ge (t := t) (text := t) hn (fun _ _ => rfl) hm hj nf nm vl bh value
    rw [e1, TX_has lawN d2 hj, nmsF_len]
    simp only [Option.bind_some]
    rw [b01_0]
    by_cases hjm : j < m
    · obtain ⟨v', rfl, hv'⟩ := e2 hjm
      rw [if_pos (by simp [hjm])]
      dsimp only
      rw [if_neg (show ¬ (1 : Int32) = 0 by decide)]
      by_cases h1 : x1 < 0
      · rw [if_pos h1, if_neg (Int32.not_le.mpr h1)]
        have e4 := find_both hn hB hm d2 hjm 0 m 0 lawN (nI (fpos t n j)) (nI (nEnd t n (fpos t n j) - fpos t n j)) (nI (valF t n (fpos t n j)).length) (nI (fpos t n (j + 1))) v' (by omega) (by have := lawN_ge; omega)
        rw [show nI 0 = (0 : Int32) from rfl] at e4
        exact e4
      · rw [if_neg h1]
        obtain ⟨i, hi, rfl⟩ := nI_of h1
        rw [if_pos (nI_pos' hi)]
        by_cases him : i < m
        · exact find_both hn hB hm d2 hjm 0 (m - i) i lawN (nI (fpos t n j)) (nI (nEnd t n (fpos t n j) - fpos t n j)) (nI (valF t n (fpos t n j)).length) (nI (fpos t n (j + 1))) v' (by omega) (by have := lawN_ge; omega)
        · obtain ⟨a1, a2, a3, a4, a5, a6, e5, e6⟩ := find_out hn hm d2 hi (by omega) (nI (fpos t n j)) (nI (nEnd t n (fpos t n j) - fpos t n j)) (nI j) 0 (nI (fpos t n j)) (nI (nEnd t n (fpos t n j) - fpos t n j)) (nI (valF t n (fpos t n j)).length) (nI (fpos t n (j + 1))) v' (lawN - 1)
          rw [show lawN - 1 + 1 = lawN from rfl] at e5 e6
          exact ⟨-1, a1, a2, a3, a4, a5, a6, e5, e6⟩
    · obtain ⟨a, b, c, v', rfl⟩ := e3 (by omega)
      rw [if_neg (by simp [hjm])]
      dsimp only
      rw [if_pos rfl]
      exact ⟨_, _, _, _, _, _, _, rfl, rfl⟩
theorem field2 (hn : n ≤ 300) (hB : ∀ j, j < n → isB (t j)) (hm : Cnt t n m) {k : Nat} (hk : k < m) (th nf nm vl bh pt : Int32) (value part : Nat → Int32) : ∃ a1 a2 a3 a4 a5 a6 a7 a8, f_Mo_field lawN (nI k) 2 th (nI n) nf nm vl bh pt t value part = some (nI (adrs (valF t n (fpos t n k))).length, a1, a2, a3, a4, a5, a6, a7, a8) := by
  have h75 := Cnt_75 hn hm
  obtain ⟨z, e1, e2, -⟩ := pq_look lawN_ge (t := t) (text := t) hn (fun _ _ => rfl) hm (i := k) (by omega) nf nm vl bh value
  obtain ⟨v', rfl, hv'⟩ := e2 hk
  have hvo := val_ok hn hB hm hk
  obtain ⟨pa, pb, e4⟩ := pq_addresses _ hvo.2 hvo.1 hv' pt part
  unfold f_Mo_field
  rw [if_neg (nI_pos (by omega)), e1]
  simp only [Option.bind_some]
  rw [if_neg (show ¬ (1 : Int32) = 0 by decide), if_neg (show ¬ (2 : Int32) = 0 by decide), if_neg (show ¬ (2 : Int32) = 1 by decide), if_pos trivial, e4]
  exact ⟨_, _, _, _, _, _, _, _, rfl⟩
theorem count44 (hn : n ≤ 300) (hB : ∀ j, j < n → isB (t j)) (hm : Cnt t n m) (x1 pu : Int32) : ∀ d k f th nf nm vl bh pt value part, k + d = m → d < f → ∃ a1 a2 a3 a4 a5 a6 a7 a8, f_Mo_count_44 lawN x1 pu (nI n) t f (nI m) (nI (allF t n k).length) (nI k) th nf nm vl bh pt value part = some (if x1 = 3 then nI (allF t n m).length else -1, a1, a2, a3, a4, a5, a6, a7, a8) := by
  have h75 := Cnt_75 hn hm
  intro d
  induction d with
  | zero =>
    intro k f th nf nm vl bh pt value part hk hf
    obtain ⟨f, rfl⟩ : ∃ g, f = g + 1 := ⟨f - 1, by omega⟩
    rw [f_Mo_count_44, if_pos (nI_le (by omega) (by omega)), show k = m by omega]
    by_cases h : x1 = 3
    · rw [if_pos h, if_pos h]
      exact ⟨_, _, _, _, _, _, _, _, rfl⟩
    · rw [if_neg h, if_neg h]
      exact ⟨_, _, _, _, _, _, _, _, rfl⟩
  | succ d ih =>
    intro k f th nf nm vl bh pt value part hk hf
    obtain ⟨f, rfl⟩ : ∃ g, f = g + 1 := ⟨f - 1, by omega⟩
    obtain ⟨a1, a2, a3, a4, a5, a6, a7, a8, e⟩ := field2 hn hB hm (show k < m by omega) th nf nm vl bh pt value part
    rw [f_Mo_count_44, if_neg (nI_ge (by omega) (by omega)), e]
    simp only [Option.bind_some]
    rw [nI_add, nI_1, ← List.length_append, ← allF_succ]
    exact ih (k + 1) f a1 a2 a3 a4 a5 a6 a7 a8 (by omega) (by omega)
theorem op_count (hn : n ≤ 300) (hB : ∀ j, j < n → isB (t j)) (hm : Cnt t n m) (hD : DR t n m hend ns nos nol nrow nst nle vs vos vol vrow vst vle fields fs fos fol frow fst fle at' firsts amounts) (x1 pu th nf nm vl bh pt : Int32) (value part : Nat → Int32) :
    ∃ r a1 a2 a3 a4 a5 a6 a7 a8, f_De_count lawN x1 pu hend ns fs = some r ∧ f_Mo_count lawN x1 th pu (nI n) nf nm vl bh pt t value part = some (r, a1, a2, a3, a4, a5, a6, a7, a8) := by
  obtain ⟨d1, d2, d3, d4, d5, d6, d7⟩ := hD
  have h75 := Cnt_75 hn hm
  unfold f_De_count f_Mo_count
  by_cases g0 : x1 = 0
  · rw [if_pos g0, if_pos g0]
    exact ⟨_, _, _, _, _, _, _, _, _, rfl, rfl⟩
  · rw [if_neg g0, if_neg g0]
    obtain ⟨a, b, c, v', e⟩ := pq_fields lawN_ge (t := t) (text := t) hn (fun _ _ => rfl) hm nf nm vl bh value
    rw [e]
    simp only [Option.bind_some]
    by_cases g1 : x1 = 1
    · rw [if_pos g1, if_pos g1, d2.1, nmsF_len]
      exact ⟨_, _, _, _, _, _, _, _, _, rfl, rfl⟩
    · rw [if_neg g1, if_neg g1]
      by_cases g2 : x1 = 2
      · rw [if_pos g2, if_pos g2, d1]
        exact ⟨_, _, _, _, _, _, _, _, _, rfl, rfl⟩
      · rw [if_neg g2, if_neg g2]
        obtain ⟨a1, a2, a3, a4, a5, a6, a7, a8, e2⟩ := count44 hn hB hm x1 pu m 0 lawN 0 a b c (nI (fpos t n m)) pt v' part (by omega) (by have := lawN_ge; omega)
        rw [show (allF t n 0).length = 0 from rfl, show nI 0 = (0 : Int32) from rfl] at e2
        rw [e2, d5.1]
        by_cases g3 : x1 = 3
        · rw [if_pos g3, if_pos g3]
          exact ⟨_, _, _, _, _, _, _, _, _, rfl, rfl⟩
        · rw [if_neg g3, if_neg g3]
          exact ⟨_, _, _, _, _, _, _, _, _, rfl, rfl⟩
end OPS2
