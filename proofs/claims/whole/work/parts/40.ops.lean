/-! PURE SIDE 21: field, bytes, address, part: both sides -/
section OPS
variable {t : Nat → Int32} {n m : Nat} {hend ns nos nol : Int32} {nrow nst nle : Nat → Int32} {vs vos vol : Int32} {vrow vst vle : Nat → Int32} {fields fs fos fol : Int32} {frow fst fle at' firsts amounts : Nat → Int32}
theorem val_ok (hn : n ≤ 300) (hB : ∀ j, j < n → isB (t j)) (hm : Cnt t n m) {i : Nat} (hi : i < m) : allB (valF t n (fpos t n i)) ∧ (valF t n (fpos t n i)).length ≤ 300 := by
  have hp := fpos_le hn hm.1 i (by omega)
  have hb := behF_le hn hp.1 (hm.1 i hi)
  have h6 : (valF t n (fpos t n i)).length ≤ (rawF t n (fpos t n i)).2.length := trimL_le _
  exact ⟨allB_valF hB hp.1 (hm.1 i hi), by omega⟩
theorem nm_len (hn : n ≤ 300) (hm : Cnt t n m) {i : Nat} (hi : i < m) : nEnd t n (fpos t n i) ≤ n ∧ fpos t n i ≤ nEnd t n (fpos t n i) := by
  have hp := fpos_le hn hm.1 i (by omega)
  have := isF_spec hp.1 (hm.1 i hi)
  omega
theorem op_field (hn : n ≤ 300) (hB : ∀ j, j < n → isB (t j)) (hm : Cnt t n m) (hD : DR t n m hend ns nos nol nrow nst nle vs vos vol vrow vst vle fields fs fos fol frow fst fle at' firsts amounts) (x1 x2 th nf nm vl bh pt : Int32) (value part : Nat → Int32) :
    ∃ r a1 a2 a3 a4 a5 a6 a7 a8, f_De_field lawN x1 x2 ns nle vs vle fields amounts = some r ∧ f_Mo_field lawN x1 x2 th (nI n) nf nm vl bh pt t value part = some (r, a1, a2, a3, a4, a5, a6, a7, a8) := by
  obtain ⟨d1, d2, d3, d4, d5, d6, d7⟩ := hD
  have h75 := Cnt_75 hn hm
  unfold f_De_field f_Mo_field
  by_cases h1 : x1 < 0
  · rw [if_pos h1, has_neg lawN h1]
    exact ⟨_, _, _, _, _, _, _, _, _, rfl, rfl⟩
  · rw [if_neg h1]
    obtain ⟨i, hi, rfl⟩ := nI_of h1
    obtain ⟨z, e1, e2, e3⟩ := pq_look lawN_ge (t := t) (text := t) hn (fun _ _ => rfl) hm hi nf nm vl bh value
    rw [e1, TX_has lawN d2 hi, nmsF_len]
    simp only [Option.bind_some]
    rw [b01_0]
    by_cases him : i < m
    · obtain ⟨v', rfl, hv'⟩ := e2 him
      have hvo := val_ok hn hB hm him
      rw [if_pos (by simp [him])]
      dsimp only
      rw [if_neg (show ¬ (1 : Int32) = 0 by decide)]
      by_cases g0 : x2 = 0
      · rw [if_pos g0, if_pos g0, TX_lengthOf lawN d2 (by rw [nmsF_len]; exact him), nmsF_at him, seg_len]
        exact ⟨_, _, _, _, _, _, _, _, _, rfl, rfl⟩
      · rw [if_neg g0, if_neg g0]
        by_cases g1 : x2 = 1
        · rw [if_pos g1, if_pos g1, TX_lengthOf lawN d3 (by rw [valsF_len]; exact him), valsF_at him]
          exact ⟨_, _, _, _, _, _, _, _, _, rfl, rfl⟩
        · rw [if_neg g1, if_neg g1]
          by_cases g2 : x2 = 2
          · rw [if_pos g2, if_pos g2]
            obtain ⟨pa, pb, e4⟩ := pq_addresses _ hvo.2 hvo.1 hv' pt part
            rw [e4]
            unfold f_Ad_amountIn
            rw [d4, pq_100]
            simp (disch := omega) only [pq_neg, pq_le, pq_lt, pq_in, nI_clamp, if_false]
            rw [if_neg (by omega), if_pos (by omega), if_pos (by omega), (d7 i him).2]
            exact ⟨_, _, _, _, _, _, _, _, _, rfl, rfl⟩
          · rw [if_neg g2, if_neg g2]
            exact ⟨_, _, _, _, _, _, _, _, _, rfl, rfl⟩
    · obtain ⟨a, b, c, v', rfl⟩ := e3 (by omega)
      rw [if_neg (by simp [him])]
      dsimp only
      rw [if_pos rfl]
      exact ⟨_, _, _, _, _, _, _, _, _, rfl, rfl⟩
theorem bytes55 (hn : n ≤ 300) {k : Nat} (hk : k < 2 ^ 31) (bt th vl bh : Int32) (value : Nat → Int32) {a b : Nat} (hab : a ≤ b) (hb : b ≤ n) : ∀ d q f part, q + d = b - a → d < f → VR part (seg t a (a + q)) → ∃ part', f_Mo_bytes_55 lawN (nI k) bt t f (nI q) th (nI a) (nI (b - a)) vl bh value part = some (e8 (seg t a b) k 8 0 0, th, nI a, nI (b - a), vl, bh, value, part') := by
  intro d
  induction d with
  | zero =>
    intro q f part hq hf hV
    obtain ⟨f, rfl⟩ : ∃ g, f = g + 1 := ⟨f - 1, by omega⟩
    rw [show a + q = b by omega] at hV
    have e1 := pq_eight hV (by rw [seg_len]; omega) hk
    rw [seg_len] at e1
    rw [f_Mo_bytes_55, if_pos (nI_le (by omega) (by omega)), e1]
    exact ⟨part, rfl⟩
  | succ d ih =>
    intro q f part hq hf hV
    obtain ⟨f, rfl⟩ : ∃ g, f = g + 1 := ⟨f - 1, by omega⟩
    rw [f_Mo_bytes_55, if_neg (nI_ge (by omega) (by omega)), nI_1, nI_add]
    simp (disch := omega) only [pq_in, nI_clamp]
    rw [if_pos (by omega), if_pos (by omega)]
    have e3 : seg t a (a + q) ++ [t (a + q)] = seg t a (a + (q + 1)) := by
      unfold seg
      rw [show a + (q + 1) - a = (a + q - a) + 1 by omega, List.range_succ, List.map_append]
      simp
    have hV2 := VR_push (c := t (a + q)) hV
    rw [e3, seg_len, show a + q - a = q by omega] at hV2
    exact ih (q + 1) f _ (by omega) (by omega) hV2
theorem op_bytes (hn : n ≤ 300) (hB : ∀ j, j < n → isB (t j)) (hm : Cnt t n m) (hD : DR t n m hend ns nos nol nrow nst nle vs vos vol vrow vst vle fields fs fos fol frow fst fle at' firsts amounts) (x1 x2 x3 th nf nm vl bh : Int32) (value part : Nat → Int32) :
    ∃ r a1 a2 a3 a4 a5 a6 a7, f_De_bytes lawN x1 x2 x3 ns nrow nst nle vs vrow vst vle = some r ∧ f_Mo_bytes lawN x1 x2 x3 th (nI n) nf nm vl bh t value part = some (r, a1, a2, a3, a4, a5, a6, a7) := by
  obtain ⟨d1, d2, d3, d4, d5, d6, d7⟩ := hD
  have h75 := Cnt_75 hn hm
  unfold f_De_bytes f_Mo_bytes
  by_cases h1 : x1 < 0
  · rw [if_pos h1, eight_negI h1, eight_negI h1]
    simp only [Option.bind_some]
    refine ⟨-1, _, _, _, _, _, _, _, ?_, rfl⟩
    split
    · rfl
    · split <;> rfl
  · rw [if_neg h1]
    obtain ⟨i, hi, rfl⟩ := nI_of h1
    by_cases g0 : x2 = 0
    · subst g0
      rw [if_pos (show (0 : Int32) = 0 from rfl), if_neg (show ¬ (0 : Int32) < 0 by decide), if_neg (show ¬ (1 : Int32) < 0 by decide)]
      by_cases h3 : x3 < 0
      · rw [if_pos h3, eight_negK d2 hi h3]
        exact ⟨-1, _, _, _, _, _, _, _, rfl, rfl⟩
      · rw [if_neg h3]
        obtain ⟨k, hk, rfl⟩ := nI_of h3
        obtain ⟨z, e1, e2, e3⟩ := pq_look lawN_ge (t := t) (text := t) hn (fun _ _ => rfl) hm hi nf nm vl bh value
        rw [e1, pq_eightBytes d2 hi hk, nmsF_len]
        simp only [Option.bind_some]
        by_cases him : i < m
        · obtain ⟨v', rfl, hv'⟩ := e2 him
          have hnl := nm_len hn hm him
          rw [if_pos him, nmsF_at him]
          dsimp only
          rw [if_neg (show ¬ (1 : Int32) = 0 by decide), if_neg (show ¬ (0 : Int32) = 1 by decide)]
          obtain ⟨part', e4⟩ := bytes55 (t := t) hn hk (nI n) 0 (nI (valF t n (fpos t n i)).length) (nI (fpos t n (i + 1))) v' hnl.2 hnl.1 (nEnd t n (fpos t n i) - fpos t n i) 0 lawN part (by omega) (by have := lawN_ge; omega) (by rw [Nat.add_zero, seg_nil (Nat.le_refl _)]; exact VR_nil _)
          rw [show nI 0 = (0 : Int32) from rfl] at e4
          rw [e4]
          exact ⟨_, _, _, _, _, _, _, _, rfl, rfl⟩
        · obtain ⟨a, b, c, v', rfl⟩ := e3 (by omega)
          rw [if_neg him]
          dsimp only
          rw [if_pos rfl]
          exact ⟨_, _, _, _, _, _, _, _, rfl, rfl⟩
    · by_cases g1 : x2 = 1
      · subst g1
        rw [if_neg g0, if_pos (show (1 : Int32) = 1 from rfl), if_neg (show ¬ (1 : Int32) < 0 by decide), if_neg (show ¬ (1 : Int32) < 1 by decide)]
        by_cases h3 : x3 < 0
        · rw [if_pos h3, eight_negK d3 hi h3]
          exact ⟨-1, _, _, _, _, _, _, _, rfl, rfl⟩
        · rw [if_neg h3]
          obtain ⟨k, hk, rfl⟩ := nI_of h3
          obtain ⟨z, e1, e2, e3⟩ := pq_look lawN_ge (t := t) (text := t) hn (fun _ _ => rfl) hm hi nf nm vl bh value
          rw [e1, pq_eightBytes d3 hi hk, valsF_len]
          simp only [Option.bind_some]
          by_cases him : i < m
          · obtain ⟨v', rfl, hv'⟩ := e2 him
            have hvo := val_ok hn hB hm him
            rw [if_pos him, valsF_at him]
            dsimp only
            rw [if_neg g0, if_pos trivial, pq_eight hv' hvo.2 hk]
            exact ⟨_, _, _, _, _, _, _, _, rfl, rfl⟩
          · obtain ⟨a, b, c, v', rfl⟩ := e3 (by omega)
            rw [if_neg him]
            dsimp only
            rw [if_pos rfl]
            exact ⟨_, _, _, _, _, _, _, _, rfl, rfl⟩
      · rw [if_neg g0, if_neg g1]
        by_cases g2 : x2 < 0
        · rw [if_pos g2]
          exact ⟨_, _, _, _, _, _, _, _, rfl, rfl⟩
        · rw [if_neg g2, if_pos]
          · exact ⟨_, _, _, _, _, _, _, _, rfl, rfl⟩
          · obtain ⟨k, hk, rfl⟩ := nI_of g2
            rw [pq_1]
            refine nI_lt ?_ hk
            rcases Nat.lt_or_ge 1 k with q | q
            · exact q
            · rcases (show k = 0 ∨ k = 1 by omega) with rfl | rfl
              · exact absurd rfl g0
              · exact absurd rfl g1
/-- where address j of field i stands among all -/
theorem all_at {i j : Nat} (him : i < m) (hj : j < (adrs (valF t n (fpos t n i))).length) : (allF t n i).length + j < (allF t n m).length ∧ (allF t n m).getD ((allF t n i).length + j) [] = (adrs (valF t n (fpos t n i))).getD j [] := by
  have key : ∀ d, ∃ R, allF t n (i + 1 + d) = allF t n i ++ adrs (valF t n (fpos t n i)) ++ R := by
    intro d
    induction d with
    | zero => exact ⟨[], by rw [Nat.add_zero, allF_succ, List.append_nil]⟩
    | succ d ih =>
      obtain ⟨R, e⟩ := ih
      exact ⟨R ++ adrs (valF t n (fpos t n (i + 1 + d))), by rw [show i + 1 + (d + 1) = (i + 1 + d) + 1 by omega, allF_succ, e]; simp [List.append_assoc]⟩
  obtain ⟨R, e⟩ := key (m - (i + 1))
  rw [show i + 1 + (m - (i + 1)) = m by omega] at e
  rw [e]
  refine ⟨by simp; omega, ?_⟩
  rw [List.append_assoc, List.getD_eq_getElem?_getD, List.getElem?_append_right (by omega), Nat.add_sub_cancel_left, List.getElem?_append_left hj, ← List.getD_eq_getElem?_getD]
theorem indexOf_in (hn : n ≤ 300) (hm : Cnt t n m) (hD : DR t n m hend ns nos nol nrow nst nle vs vos vol vrow vst vle fields fs fos fol frow fst fle at' firsts amounts) {i j : Nat} (hi : i < 2 ^ 31) (hj : j < 2 ^ 31) : f_Ad_indexOf lawN (nI i) (nI j) fields firsts amounts = some (if i < m ∧ j < (adrs (valF t n (fpos t n i))).length then nI ((allF t n i).length + j) else -1) := by
  obtain ⟨d1, d2, d3, d4, d5, d6, d7⟩ := hD
  have h75 := Cnt_75 hn hm
  unfold f_Ad_indexOf
  rw [d4, pq_100]
  simp (disch := omega) only [pq_neg, pq_le, pq_in, nI_clamp, if_false]
  by_cases him : i < m
  · have hA : (adrs (valF t n (fpos t n i))).length ≤ 100 := by
      rcases Nat.lt_or_ge 0 (adrs (valF t n (fpos t n i))).length with q | q
      · have := (all_at (n := n) him (show (adrs (valF t n (fpos t n i))).length - 1 < (adrs (valF t n (fpos t n i))).length by omega)).1
        have h5 := d5.2.2.2.2.1
        omega
      · omega
    rw [if_neg (by omega), if_neg (by omega), if_pos (by omega), (d7 i him).2, (d7 i him).1, nI_add]
    simp (disch := omega) only [pq_lt]
    by_cases hjl : j < (adrs (valF t n (fpos t n i))).length
    · rw [if_pos hjl, if_pos (by omega), if_pos ⟨him, hjl⟩]
    · rw [if_neg hjl, if_neg (fun q => hjl q.2)]
  · rw [if_pos (by omega), if_neg (fun q => him q.1)]
theorem indexOf_negI {x : Int32} (hx : x < 0) (y : Int32) (f : Int32) (a b : Nat → Int32) : f_Ad_indexOf lawN x y f a b = some (-1) := by
  unfold f_Ad_indexOf
  rw [if_pos hx]
theorem indexOf_negJ {x y : Int32} (hy : y < 0) (f : Int32) (a b : Nat → Int32) : f_Ad_indexOf lawN x y f a b = some (-1) := by
  unfold f_Ad_indexOf
  repeat' split
  all_goals first | rfl | contradiction
theorem eight_m1 (k v : Int32) (a b c : Nat → Int32) : f_Te_eightBytes lawN (-1) k v a b c = some (-1) := eight_negI (by decide) k v a b c
theorem op_address (hn : n ≤ 300) (hB : ∀ j, j < n → isB (t j)) (hm : Cnt t n m) (hD : DR t n m hend ns nos nol nrow nst nle vs vos vol vrow vst vle fields fs fos fol frow fst fle at' firsts amounts) (x1 x2 x3 th nf nm vl bh pt : Int32) (value part : Nat → Int32) :
    ∃ r a1 a2 a3 a4 a5 a6 a7 a8, f_De_address lawN x1 x2 x3 fields fs frow fst fle firsts amounts = some r ∧ f_Mo_address lawN x1 x2 x3 th (nI n) nf nm vl bh pt t value part = some (r, a1, a2, a3, a4, a5, a6, a7, a8) := by
  have hD' := hD
  obtain ⟨d1, d2, d3, d4, d5, d6, d7⟩ := hD
  have h75 := Cnt_75 hn hm
  unfold f_De_address f_Mo_address
  by_cases h1 : x1 < 0
  · rw [if_pos h1, indexOf_negI h1]
    simp only [Option.bind_some]
    rw [eight_m1]
    exact ⟨_, _, _, _, _, _, _, _, _, rfl, rfl⟩
  · rw [if_neg h1]
    by_cases h2 : x2 < 0
    · rw [if_pos h2, indexOf_negJ h2]
      simp only [Option.bind_some]
      rw [eight_m1]
      exact ⟨_, _, _, _, _, _, _, _, _, rfl, rfl⟩
    · rw [if_neg h2]
      obtain ⟨i, hi, rfl⟩ := nI_of h1
      obtain ⟨j, hj, rfl⟩ := nI_of h2
      rw [indexOf_in hn hm hD' hi hj]
      simp only [Option.bind_some]
      by_cases h3 : x3 < 0
      · rw [if_pos h3]
        by_cases hq : i < m ∧ j < (adrs (valF t n (fpos t n i))).length
        · have hal := (all_at (n := n) hq.1 hq.2).1
          have h5 := d5.2.2.2.2.1
          rw [if_pos hq, eight_negK d5 (by omega) h3]
          exact ⟨_, _, _, _, _, _, _, _, _, rfl, rfl⟩
        · rw [if_neg hq, eight_m1]
          exact ⟨_, _, _, _, _, _, _, _, _, rfl, rfl⟩
      · rw [if_neg h3]
        obtain ⟨k, hk, rfl⟩ := nI_of h3
        obtain ⟨z, e1, e2, e3⟩ := pq_look lawN_ge (t := t) (text := t) hn (fun _ _ => rfl) hm hi nf nm vl bh value
        rw [e1]
        simp only [Option.bind_some]
        by_cases him : i < m
        · obtain ⟨v', rfl, hv'⟩ := e2 him
          have hvo := val_ok hn hB hm him
          obtain ⟨f1, f2⟩ := pq_addressAt _ hvo.2 hvo.1 hv' hj pt part
          dsimp only
          rw [if_neg (show ¬ (1 : Int32) = 0 by decide)]
          by_cases hjl : j < (adrs (valF t n (fpos t n i))).length
          · obtain ⟨part', f3, f4, f5⟩ := f1 hjl
            obtain ⟨g1, g2⟩ := all_at (n := n) him hjl
            have h5 := d5.2.2.2.2.1
            have hpo := posA_le ((adrs (valF t n (fpos t n i))).getD j [])
            rw [if_pos ⟨him, hjl⟩, pq_eightBytes d5 (by omega) hk, if_pos g1, g2, f3]
            simp only [Option.bind_some]
            rw [if_pos (nI_pos' (by omega)), pq_eight f4 f5 hk]
            exact ⟨_, _, _, _, _, _, _, _, _, rfl, rfl⟩
          · obtain ⟨pa, pb, f3⟩ := f2 (by omega)
            rw [if_neg (fun q => hjl q.2), eight_m1, f3]
            simp only [Option.bind_some]
            rw [if_neg (show ¬ (0 : Int32) ≤ -1 by decide)]
            exact ⟨_, _, _, _, _, _, _, _, _, rfl, rfl⟩
        · obtain ⟨a, b, c, v', rfl⟩ := e3 (by omega)
          rw [if_neg (fun q => him q.1), eight_m1]
          dsimp only
          rw [if_pos rfl]
          exact ⟨_, _, _, _, _, _, _, _, _, rfl, rfl⟩
theorem op_part (hn : n ≤ 300) (hB : ∀ j, j < n → isB (t j)) (hm : Cnt t n m) (hD : DR t n m hend ns nos nol nrow nst nle vs vos vol vrow vst vle fields fs fos fol frow fst fle at' firsts amounts) (x1 x2 x3 th nf nm vl bh pt : Int32) (value part : Nat → Int32) :
    ∃ r a1 a2 a3 a4 a5 a6 a7 a8, f_De_part lawN x1 x2 x3 fields fs fle at' firsts amounts = some r ∧ f_Mo_part lawN x1 x2 x3 th (nI n) nf nm vl bh pt t value part = some (r, a1, a2, a3, a4, a5, a6, a7, a8) := by
  have hD' := hD
  obtain ⟨d1, d2, d3, d4, d5, d6, d7⟩ := hD
  have h75 := Cnt_75 hn hm
  unfold f_De_part f_Mo_part
  by_cases h1 : x1 < 0
  · rw [if_pos h1, indexOf_negI h1]
    simp only [Option.bind_some]
    rw [if_pos trivial]
    exact ⟨_, _, _, _, _, _, _, _, _, rfl, rfl⟩
  · rw [if_neg h1]
    by_cases h2 : x2 < 0
    · rw [if_pos h2, indexOf_negJ h2]
      simp only [Option.bind_some]
      rw [if_pos trivial]
      exact ⟨_, _, _, _, _, _, _, _, _, rfl, rfl⟩
    · rw [if_neg h2]
      obtain ⟨i, hi, rfl⟩ := nI_of h1
      obtain ⟨j, hj, rfl⟩ := nI_of h2
      rw [indexOf_in hn hm hD' hi hj]
      simp only [Option.bind_some]
      obtain ⟨z, e1, e2, e3⟩ := pq_look lawN_ge (t := t) (text := t) hn (fun _ _ => rfl) hm hi nf nm vl bh value
      rw [e1]
      simp only [Option.bind_some]
      by_cases him : i < m
      · obtain ⟨v', rfl, hv'⟩ := e2 him
        have hvo := val_ok hn hB hm him
        obtain ⟨f1, f2⟩ := pq_addressAt _ hvo.2 hvo.1 hv' hj pt part
        dsimp only
        rw [if_neg (show ¬ (1 : Int32) = 0 by decide)]
        by_cases hjl : j < (adrs (valF t n (fpos t n i))).length
        · obtain ⟨part', f3, f4, f5⟩ := f1 hjl
          obtain ⟨g1, g2⟩ := all_at (n := n) him hjl
          have h5 := d5.2.2.2.2.1
          have hpo := posA_le ((adrs (valF t n (fpos t n i))).getD j [])
          rw [if_pos (show i < m ∧ j < (adrs (valF t n (fpos t n i))).length from ⟨him, hjl⟩), if_neg (by rw [pq_ne1 (by omega)]; exact id), f3]
          simp only [Option.bind_some]
          rw [if_pos (nI_pos' (by omega))]
          by_cases g3 : x3 = 0
          · rw [if_pos g3, if_pos g3, TX_lengthOf lawN d5 g1, g2]
            exact ⟨_, _, _, _, _, _, _, _, _, rfl, rfl⟩
          · rw [if_neg g3, if_neg g3]
            by_cases g4 : x3 = 1
            · rw [if_pos g4, if_pos g4]
              unfold f_Ad_atSignOf
              rw [TX_has lawN d5 (by omega)]
              simp only [Option.bind_some]
              rw [b01_0, if_pos (by simp [g1])]
              simp (disch := omega) only [pq_in, nI_clamp]
              rw [if_pos (by omega), d6 _ g1, g2]
              exact ⟨_, _, _, _, _, _, _, _, _, rfl, rfl⟩
            · rw [if_neg g4, if_neg g4]
              exact ⟨_, _, _, _, _, _, _, _, _, rfl, rfl⟩
        · obtain ⟨pa, pb, f3⟩ := f2 (by omega)
          rw [if_neg (show ¬ (i < m ∧ j < (adrs (valF t n (fpos t n i))).length) from fun q => hjl q.2), if_pos rfl, f3]
          simp only [Option.bind_some]
          rw [if_neg (show ¬ (0 : Int32) ≤ -1 by decide)]
          exact ⟨_, _, _, _, _, _, _, _, _, rfl, rfl⟩
      · obtain ⟨a, b, c, v', rfl⟩ := e3 (by omega)
        rw [if_neg (show ¬ (i < m ∧ j < (adrs (valF t n (fpos t n i))).length) from fun q => him q.1), if_pos rfl]
        dsimp only
        rw [if_pos rfl]
        exact ⟨_, _, _, _, _, _, _, _, _, rfl, rfl⟩
end OPS
