/-! PURE SIDE 16: the class reads a value -/
theorem stepP_ei {ag dp : Nat} {qt es : Bool} {op : List Int32} {c : Int32} (h : es = true → 0 < dp ∨ qt = true) : (stepP ag dp qt es op c).2.2.2.1 = true → 0 < (stepP ag dp qt es op c).2.1 ∨ (stepP ag dp qt es op c).2.2.1 = true := by
  unfold stepP
  by_cases h1 : 0 < dp
  · simp only [h1, if_true]
    cases es with
    | true => intro q; cases q
    | false =>
      simp only [Bool.false_eq_true, if_false]
      repeat' split
      all_goals first | (intro _; exact Or.inl h1) | (intro q; cases q)
  · by_cases h3 : qt = true
    · simp only [h1, h3, if_true, if_false]
      cases es with
      | true => intro q; cases q
      | false =>
        simp only [Bool.false_eq_true, if_false]
        repeat' split
        all_goals first | (intro _; exact Or.inr rfl) | (intro q; cases q)
    · have h4 : es = false := by
        cases he : es with
        | false => rfl
        | true =>
          rcases h he with q | q
          · exact absurd q h1
          · exact absurd q h3
      subst h4
      simp only [h1, h3, if_false]
      repeat' split
      all_goals (intro q; cases q)
section RV
variable {vs vos vol : Int32} {vrow vst vle : Nat → Int32} {Tv : List (List Int32)} {i : Nat}
theorem rv38 (hv : TX vs vos vol vrow vst vle Tv []) (hi : i < Tv.length) (hB : allB (Tv.getD i [])) {first nf B : Nat} (hnf : nf < 100) (hBl : B + (Tv.getD i []).length ≤ 300) (firsts amounts : Nat → Int32) : ∀ d q f ag dp qt es op fs fos ol row fst fle at' Tf, q + d = (Tv.getD i []).length → d < f → ag ≤ 2 → dp ≤ q → (es = true → 0 < dp ∨ qt = true) → allB op → TX fs fos ol row fst fle Tf op → 3 * Tf.length ≤ tot Tf → AT at' Tf → tot Tf + op.length ≤ B + q → first ≤ Tf.length →
    ∃ ag' dp' qt' es' fs' fos' ol' row' fst' fle' at'', f_Ad_readValue_38 lawN (nI i) vs vrow vst vle f (nI first) (nI (Tv.getD i []).length) (nI q) (nI nf) (nI ag) (nI dp) (b01 qt) (b01 es) fs fos ol row fst fle at' firsts amounts = some (nI (nf + 1), ag', dp', qt', es', fs', fos', ol', row', fst', fle', at'', upd firsts nf (nI first), upd amounts nf (nI ((Tf ++ cadr (at0 (Tv.getD i [])) d (ag, dp, qt, es, op) q).length - first))) ∧ TX fs' fos' ol' row' fst' fle' (Tf ++ cadr (at0 (Tv.getD i [])) d (ag, dp, qt, es, op) q) [] ∧ AT at'' (Tf ++ cadr (at0 (Tv.getD i [])) d (ag, dp, qt, es, op) q) ∧ 3 * (Tf ++ cadr (at0 (Tv.getD i [])) d (ag, dp, qt, es, op) q).length ≤ tot (Tf ++ cadr (at0 (Tv.getD i [])) d (ag, dp, qt, es, op) q) ∧ tot (Tf ++ cadr (at0 (Tv.getD i [])) d (ag, dp, qt, es, op) q) ≤ B + (Tv.getD i []).length := by
  have h4 := hv.2.2.2.1
  intro d
  induction d with
  | zero =>
    intro q f ag dp qt es op fs fos ol row fst fle at' Tf hq hf ha hd hei hBo hT h3 hAT hc hfi
    obtain ⟨f, rfl⟩ : ∃ g, f = g + 1 := ⟨f - 1, by omega⟩
    obtain ⟨fs', fos', ol', fst', fle', at'', e1, e2, e3⟩ := pq_endPart dp qt es hT ha hBo h3 hAT
    have e4 := tot3 (w := finS (ag, dp, qt, es, op)) h3
    have e5 := tot_le (Tf := Tf) ag dp qt es op
    have ec : cadr (at0 (Tv.getD i [])) 0 (ag, dp, qt, es, op) q = if okA (finS (ag, dp, qt, es, op)) = true then [finS (ag, dp, qt, es, op)] else [] := rfl
    rw [ec]
    rw [f_Ad_readValue_38, if_pos (nI_le (by omega) (by omega)), e1]
    simp only [Option.bind_some]
    rw [pq_100, nI_1]
    simp (disch := omega) only [pq_neg, pq_le, pq_in, nI_clamp, if_false]
    rw [if_neg (by omega), if_pos (by omega), if_pos (by omega)]
    have e6 : fs' - nI first = nI ((Tf ++ (if okA (finS (ag, dp, qt, es, op)) = true then [finS (ag, dp, qt, es, op)] else [])).length - first) := by rw [e2.1, pk_sub (by rw [List.length_append]; omega)]
    rw [e6]
    exact ⟨0, nI dp, b01 qt, b01 es, fs', fos', ol', row, fst', fle', at'', rfl, e2, e3, e4, by omega⟩
  | succ d ih =>
    intro q f ag dp qt es op fs fos ol row fst fle at' Tf hq hf ha hd hei hBo hT h3 hAT hc hfi
    obtain ⟨f, rfl⟩ : ∃ g, f = g + 1 := ⟨f - 1, by omega⟩
    have hc4 := hT.2.2.2.1
    have hcB := hB q (by omega)
    rw [f_Ad_readValue_38, if_neg (nI_ge (by omega) (by omega)), TX_byteAt lawN hv hi (show q < (Tv.getD i []).length by omega)]
    simp only [Option.bind_some]
    rw [nI_1]
    have ec : cadr (at0 (Tv.getD i [])) (d + 1) (ag, dp, qt, es, op) q = if endP ag dp qt (at0 (Tv.getD i []) q) = true then (if okA (finS (ag, dp, qt, es, op)) = true then [finS (ag, dp, qt, es, op)] else []) ++ cadr (at0 (Tv.getD i [])) d s0 (q + 1) else cadr (at0 (Tv.getD i [])) d (stepP ag dp qt es op (at0 (Tv.getD i []) q)) (q + 1) := rfl
    rw [ec]
    have hst := stepP_inv ag dp qt es op (at0 (Tv.getD i []) q) ha
    have hbs := allB_step (ag := ag) (dp := dp) (qt := qt) (es := es) hBo hcB
    have hsi := stepP_ei (ag := ag) (op := op) (c := at0 (Tv.getD i []) q) hei
    generalize hce : at0 (Tv.getD i []) q = c at hst hbs hsi hcB ⊢
    by_cases hdp : 0 < dp
    · rw [if_neg (nI_nle hdp (by omega))]
      rw [if_neg (show ¬ endP ag dp qt c = true by unfold endP; simp; omega)]
      obtain ⟨e1, e2, e3, e4⟩ := pq_brackets lawN (es := es) (c := c) (show dp < 1000 by omega) hdp ag qt op
      rw [e1]
      simp only [Option.bind_some]
      generalize stepP ag dp qt es op c = s' at e2 e3 e4 hst hbs hsi ⊢
      obtain ⟨ag', dp', qt', es', op'⟩ := s'
      dsimp only at e2 e3 e4 hst hbs hsi ⊢
      subst e2; subst e3; subst e4
      exact ih (q + 1) f _ dp' _ es' _ fs fos ol row fst fle at' Tf (by omega) (by omega) ha (by omega) hsi hBo hT h3 hAT (by omega) hfi
    · have hd0 : dp = 0 := by omega
      subst hd0
      rw [if_pos (by decide), b01_0]
      cases qt with
      | true =>
        rw [if_pos rfl, if_neg (show ¬ endP ag 0 true c = true by unfold endP; simp)]
        obtain ⟨ol', row', e1, e2, e3, e4⟩ := pq_quotes lawN (es := es) hT hcB (by omega) ha
        rw [e1]
        simp only [Option.bind_some]
        generalize stepP ag 0 true es op c = s' at e2 e3 e4 hst hbs hsi ⊢
        obtain ⟨ag', dp', qt', es', op'⟩ := s'
        dsimp only at e2 e3 e4 hst hbs hsi ⊢
        subst e3; subst e4
        exact ih (q + 1) f _ 0 qt' es' op' fs fos ol' row' fst fle at' Tf (by omega) (by omega) ha (by omega) hsi hbs e2 h3 hAT (by omega) hfi
      | false =>
        simp only [Bool.false_eq_true, if_false]
        have a1 : (nI ag = 1) = (ag = 1) := by rw [pq_1]; exact pq_eq (by omega) (by omega)
        by_cases hE : endP ag 0 false c = true
        · rw [if_pos hE]
          obtain ⟨-, -, g3, g4⟩ := of_decide_eq_true hE
          rw [if_pos g3, if_neg (by rw [a1]; exact g4)]
          obtain ⟨fs', fos', ol', fst', fle', at'', e1, e2, e3⟩ := pq_endPart 0 false es hT ha hBo h3 hAT
          rw [e1]
          simp only [Option.bind_some]
          have e4 := tot3 (w := finS (ag, 0, false, es, op)) h3
          have e5 := tot_le (Tf := Tf) ag 0 false es op
          rw [← List.append_assoc]
          have he0 : es = false := by
            cases he : es with
            | false => rfl
            | true =>
              rcases hei he with q1 | q1
              · omega
              · cases q1
          subst he0
          exact ih (q + 1) f 0 0 false false [] fs' fos' ol' row fst' fle' at'' _ (by omega) (by omega) (by omega) (by omega) (fun q => by cases q) allB_nil e2 e4 e3 (by simp; omega) (by rw [List.length_append]; omega)
        · rw [if_neg hE]
          have hp : (if c = 44 then (if nI ag = 1 then ((f_Ad_takePlain lawN c (nI ag) (nI 0) (b01 false) fos ol row).bind fun z13 => f_Ad_readValue_38 lawN (nI i) vs vrow vst vle f (nI first) (nI (Tv.getD i []).length) (nI (q + 1)) (nI nf) z13.1 z13.2.1 z13.2.2.1 (b01 es) fs fos z13.2.2.2.1 z13.2.2.2.2 fst fle at' firsts amounts) else ((f_Ad_endPart lawN (nI ag) fs fos ol row fst fle at').bind fun z14 => f_Ad_readValue_38 lawN (nI i) vs vrow vst vle f (nI first) (nI (Tv.getD i []).length) (nI (q + 1)) (nI nf) z14.1 (nI 0) (b01 false) (b01 es) z14.2.1 z14.2.2.1 z14.2.2.2.1 row z14.2.2.2.2.1 z14.2.2.2.2.2.1 z14.2.2.2.2.2.2 firsts amounts)) else ((f_Ad_takePlain lawN c (nI ag) (nI 0) (b01 false) fos ol row).bind fun z11 => f_Ad_readValue_38 lawN (nI i) vs vrow vst vle f (nI first) (nI (Tv.getD i []).length) (nI (q + 1)) (nI nf) z11.1 z11.2.1 z11.2.2.1 (b01 es) fs fos z11.2.2.2.1 z11.2.2.2.2 fst fle at' firsts amounts)) = ((f_Ad_takePlain lawN c (nI ag) (nI 0) (b01 false) fos ol row).bind fun z11 => f_Ad_readValue_38 lawN (nI i) vs vrow vst vle f (nI first) (nI (Tv.getD i []).length) (nI (q + 1)) (nI nf) z11.1 z11.2.1 z11.2.2.1 (b01 es) fs fos z11.2.2.2.1 z11.2.2.2.2 fst fle at' firsts amounts) := by
            by_cases g3 : c = 44
            · rw [if_pos g3]
              have g4 : ag = 1 := by
                by_cases g5 : ag = 1
                · exact g5
                · exact absurd (by unfold endP; simp [g3, g5]) hE
              rw [if_pos (by rw [a1]; exact g4)]
            · rw [if_neg g3]
          rw [hp]
          obtain ⟨ol', row', e1, e2, e3⟩ := pq_plain lawN (es := es) hT hcB (by omega) ha
          rw [e1]
          simp only [Option.bind_some]
          generalize stepP ag 0 false es op c = s' at e2 e3 hst hbs hsi ⊢
          obtain ⟨ag', dp', qt', es', op'⟩ := s'
          dsimp only at e2 e3 hst hbs hsi ⊢
          subst e3
          exact ih (q + 1) f ag' dp' qt' _ op' fs fos ol' row' fst fle at' Tf (by omega) (by omega) hst.1 (by omega) hsi hbs e2 h3 hAT (by omega) hfi
end RV
