/-! PURE SIDE 17: the class' read -/
theorem allB_app {a b : List Int32} (ha : allB a) (hb : allB b) : allB (a ++ b) := by
  intro j hj
  rw [List.length_append] at hj
  unfold at0
  by_cases h : j < a.length
  · rw [List.getD_eq_getElem?_getD, List.getElem?_append_left h, ← List.getD_eq_getElem?_getD]
    exact ha j h
  · rw [List.getD_eq_getElem?_getD, List.getElem?_append_right (by omega), ← List.getD_eq_getElem?_getD]
    exact hb (j - a.length) (by omega)
theorem seg_at {t : Nat → Int32} {a b j : Nat} (h : j < b - a) : at0 (seg t a b) j = t (a + j) := by
  unfold at0 seg
  rw [List.getD_eq_getElem?_getD, List.getElem?_map, List.getElem?_range h]
  rfl
theorem allB_seg {t : Nat → Int32} {n a b : Nat} (hB : ∀ j, j < n → isB (t j)) (hb : b ≤ n) : allB (seg t a b) := by
  intro j hj
  rw [seg_len] at hj
  rw [seg_at hj]
  exact hB _ (by omega)
theorem allB_sCont {t : Nat → Int32} {n : Nat} (hB : ∀ j, j < n → isB (t j)) : ∀ k p acc, p ≤ n → allB acc → allB (sCont t n k p acc).2 := by
  intro k
  induction k with
  | zero => intro p acc _ h; exact h
  | succ k ih =>
    intro p acc hp h
    unfold sCont
    split
    · exact ih _ _ (nextL_le hp).2 (allB_app h (allB_seg hB (lEnd_le hp).2))
    · exact h
theorem allB_trimL {l : List Int32} (h : allB l) : allB (trimL l) := by
  intro j hj
  have e : at0 (trimL l) j = at0 l (sWh bl (at0 l) (tEnd (at0 l) l.length) 0 + j) := trimL_at l hj
  rw [e]
  rw [trimL_len] at hj
  have := tEnd_le (at0 l) l.length
  exact h _ (by omega)
theorem allB_valF {t : Nat → Int32} {n p : Nat} (hB : ∀ j, j < n → isB (t j)) (hp : p ≤ n) (hF : isF t n p = true) : allB (valF t n p) := by
  obtain ⟨a1, a2, a3, a4, a5⟩ := isF_spec hp hF
  exact allB_trimL (allB_sCont hB 300 _ _ (nextL_le (show cEnd t n p + 1 ≤ n by omega)).2 (allB_seg hB (lEnd_le (show cEnd t n p + 1 ≤ n by omega)).2))
def adrs (v : List Int32) : List (List Int32) := cadr (at0 v) v.length s0 0
def allF (t : Nat → Int32) (n k : Nat) : List (List Int32) := (List.range k).flatMap (fun i => adrs (valF t n (fpos t n i)))
theorem allF_succ (t : Nat → Int32) (n k : Nat) : allF t n (k + 1) = allF t n k ++ adrs (valF t n (fpos t n k)) := by simp [allF, List.range_succ]
def FA (t : Nat → Int32) (n k : Nat) (firsts amounts : Nat → Int32) : Prop := ∀ j, j < k → firsts j = nI (allF t n j).length ∧ amounts j = nI (adrs (valF t n (fpos t n j))).length
def DR (t : Nat → Int32) (n m : Nat) (hend ns nos nol : Int32) (nrow nst nle : Nat → Int32) (vs vos vol : Int32) (vrow vst vle : Nat → Int32) (fields fs fos fol : Int32) (frow fst fle at' firsts amounts : Nat → Int32) : Prop :=
  hend = nI (fpos t n m) ∧ TX ns nos nol nrow nst nle (nmsF t n m) [] ∧ TX vs vos vol vrow vst vle (valsF t n m) [] ∧ fields = nI m ∧ TX fs fos fol frow fst fle (allF t n m) [] ∧ AT at' (allF t n m) ∧ FA t n m firsts amounts
theorem rv_all {t : Nat → Int32} {n m : Nat} (hn : n ≤ 300) (hB : ∀ j, j < n → isB (t j)) (hm : Cnt t n m) {vs vos vol : Int32} {vrow vst vle : Nat → Int32} (hv : TX vs vos vol vrow vst vle (valsF t n m) []) {k : Nat} (hk : k < m) (ag dp qt es : Int32) {fs fos fol : Int32} {frow fst fle at' firsts amounts : Nat → Int32} (hT : TX fs fos fol frow fst fle (allF t n k) []) (hAT : AT at' (allF t n k)) (h3 : 3 * (allF t n k).length ≤ tot (allF t n k)) (htt : tot (allF t n k) ≤ tot (valsF t n k)) (hFA : FA t n k firsts amounts) :
    ∃ ag' dp' qt' es' fs' fos' fol' frow' fst' fle' at'' firsts' amounts', f_Ad_readValue lawN (nI k) (nI k) ag dp qt es fs fos fol frow fst fle at' firsts amounts vs vrow vst vle = some (nI (k + 1), ag', dp', qt', es', fs', fos', fol', frow', fst', fle', at'', firsts', amounts') ∧ TX fs' fos' fol' frow' fst' fle' (allF t n (k + 1)) [] ∧ AT at'' (allF t n (k + 1)) ∧ 3 * (allF t n (k + 1)).length ≤ tot (allF t n (k + 1)) ∧ tot (allF t n (k + 1)) ≤ tot (valsF t n (k + 1)) ∧ FA t n (k + 1) firsts' amounts' := by
  have h75 := Cnt_75 hn hm
  have hp := fpos_le hn hm.1 k (by omega)
  have hp1 := fpos_le hn hm.1 (k + 1) (by omega)
  have ht1 := totF hn hm.1 (k + 1) (by omega)
  rw [valsF_succ, tot_app] at ht1
  have hva : (valsF t n m).getD k [] = valF t n (fpos t n k) := valsF_at hk
  have hBv : allB ((valsF t n m).getD k []) := by rw [hva]; exact allB_valF hB hp.1 (hm.1 k hk)
  have hkl : k < (valsF t n m).length := by rw [valsF_len]; exact hk
  obtain ⟨ag', dp', qt', es', fs', fos', fol', frow', fst', fle', at'', e1, e2, e3, e4, e5⟩ := rv38 hv hkl hBv (first := (allF t n k).length) (nf := k) (B := tot (valsF t n k)) (by omega) (by rw [hva]; omega) firsts amounts ((valsF t n m).getD k []).length 0 lawN 0 0 false false [] fs fos fol frow fst fle at' (allF t n k) (by omega) (by rw [hva]; have := lawN_ge; omega) (by omega) (by omega) (fun q => by cases q) allB_nil hT h3 hAT (by simp; omega) (Nat.le_refl _)
  have ea : allF t n k ++ cadr (at0 ((valsF t n m).getD k [])) ((valsF t n m).getD k []).length (0, 0, false, false, []) 0 = allF t n (k + 1) := by rw [hva, allF_succ]; rfl
  rw [ea] at e1 e2 e3 e4 e5
  refine ⟨ag', dp', qt', es', fs', fos', fol', frow', fst', fle', at'', upd firsts k (nI (allF t n k).length), upd amounts k (nI ((allF t n (k + 1)).length - (allF t n k).length)), ?_, e2, e3, e4, by rw [valsF_succ, tot_app]; rw [hva] at e5; exact e5, ?_⟩
  · unfold f_Ad_readValue
    rw [TX_lengthOf lawN hv hkl]
    simp only [Option.bind_some]
    rw [hT.1]
    rw [hT.1] at e1
    exact e1
  · intro j hj
    by_cases hj2 : j = k
    · subst hj2
      rw [pk_us, pk_us, allF_succ, List.length_append, Nat.add_sub_cancel_left]
      exact ⟨rfl, rfl⟩
    · rw [pk_un hj2, pk_un hj2]
      exact hFA j (by omega)
theorem pq_read31 {t : Nat → Int32} {n m : Nat} (hn : n ≤ 300) (hB : ∀ j, j < n → isB (t j)) (hm : Cnt t n m) (mrow : Nat → Int32) (ms hend ns nos nol : Int32) (nrow nst nle : Nat → Int32) {vs vos vol : Int32} {vrow vst vle : Nat → Int32} (hv : TX vs vos vol vrow vst vle (valsF t n m) []) : ∀ d k f ag dp qt es fs fos fol frow fst fle at' firsts amounts, d + k = m → d < f → TX fs fos fol frow fst fle (allF t n k) [] → AT at' (allF t n k) → 3 * (allF t n k).length ≤ tot (allF t n k) → tot (allF t n k) ≤ tot (valsF t n k) → FA t n k firsts amounts →
    ∃ ag' dp' qt' es' fs' fos' fol' frow' fst' fle' at'' firsts' amounts', f_De_read_31 lawN mrow f (nI m) (nI k) ms hend ns nos nol nrow nst nle vs vos vol vrow vst vle (nI k) ag dp qt es fs fos fol frow fst fle at' firsts amounts = some (nI m, 0, hend, ns, nos, nol, nrow, nst, nle, vs, vos, vol, vrow, vst, vle, nI m, ag', dp', qt', es', fs', fos', fol', frow', fst', fle', at'', firsts', amounts') ∧ TX fs' fos' fol' frow' fst' fle' (allF t n m) [] ∧ AT at'' (allF t n m) ∧ FA t n m firsts' amounts' := by
  have h75 := Cnt_75 hn hm
  intro d
  induction d with
  | zero =>
    intro k f ag dp qt es fs fos fol frow fst fle at' firsts amounts hk hf hT hAT h3 htt hFA
    obtain ⟨f, rfl⟩ : ∃ g, f = g + 1 := ⟨f - 1, by omega⟩
    rw [show k = m by omega] at hT hAT hFA ⊢
    rw [f_De_read_31, if_pos (nI_le (Nat.le_refl _) (by omega))]
    unfold f_Me_clear
    exact ⟨ag, dp, qt, es, fs, fos, fol, frow, fst, fle, at', firsts, amounts, rfl, hT, hAT, hFA⟩
  | succ d ih =>
    intro k f ag dp qt es fs fos fol frow fst fle at' firsts amounts hk hf hT hAT h3 htt hFA
    obtain ⟨f, rfl⟩ : ∃ g, f = g + 1 := ⟨f - 1, by omega⟩
    obtain ⟨ag', dp', qt', es', fs', fos', fol', frow', fst', fle', at'', firsts', amounts', e1, e2, e3, e4, e5, e6⟩ := rv_all hn hB hm hv (show k < m by omega) ag dp qt es hT hAT h3 htt hFA
    rw [f_De_read_31, if_neg (nI_ge (by omega) (by omega)), e1, nI_1]
    exact ih (k + 1) f ag' dp' qt' es' fs' fos' fol' frow' fst' fle' at'' firsts' amounts' (by omega) (by omega) e2 e3 e4 e5 e6
set_option maxRecDepth 100000 in
theorem pq_readD {t mrow : Nat → Int32} {n m : Nat} (hn : n ≤ 300) (hM : MeR mrow t n) (hB : ∀ j, j < n → isB (t j)) (hm : Cnt t n m) (hend ns nos nol : Int32) (nrow nst nle : Nat → Int32) (vs vos vol : Int32) (vrow vst vle : Nat → Int32) (fields ag dp qt es fs fos fol : Int32) (frow fst fle at' firsts amounts : Nat → Int32) :
    ∃ hend' ns' nos' nol' nrow' nst' nle' vs' vos' vol' vrow' vst' vle' fields' ag' dp' qt' es' fs' fos' fol' frow' fst' fle' at'' firsts' amounts', f_De_read lawN (nI n) mrow hend ns nos nol nrow nst nle vs vos vol vrow vst vle fields ag dp qt es fs fos fol frow fst fle at' firsts amounts = some (nI m, 0, hend', ns', nos', nol', nrow', nst', nle', vs', vos', vol', vrow', vst', vle', fields', ag', dp', qt', es', fs', fos', fol', frow', fst', fle', at'', firsts', amounts') ∧ DR t n m hend' ns' nos' nol' nrow' nst' nle' vs' vos' vol' vrow' vst' vle' fields' fs' fos' fol' frow' fst' fle' at'' firsts' amounts' := by
  have h75 := Cnt_75 hn hm
  obtain ⟨ns', nos', nol', nrow', nst', nle', vs', vos', vol', vrow', vst', vle', e1, e2, e3⟩ := pq_readFrom lawN_ge hn hM hB hm hend ns nos nol nrow nst nle vs vos vol vrow vst vle
  obtain ⟨ag', dp', qt', es', fs', fos', fol', frow', fst', fle', at'', firsts', amounts', e4, e5, e6, e7⟩ := pq_read31 hn hB hm mrow (nI n) (nI (fpos t n m)) ns' nos' nol' nrow' nst' nle' e3 m 0 lawN ag dp qt es 0 0 0 frow fst fle at' firsts amounts (by omega) (by have := lawN_ge; omega) (TX_new _ _ _) (fun i h => by simp [allF] at h) (by simp [allF, tot]) (by simp [allF, valsF, tot]) (fun j h => by omega)
  have hns : ns' = nI m := by rw [e2.1, nmsF_len]
  refine ⟨nI (fpos t n m), ns', nos', nol', nrow', nst', nle', vs', vos', vol', vrow', vst', vle', nI m, ag', dp', qt', es', fs', fos', fol', frow', fst', fle', at'', firsts', amounts', ?_, rfl, e2, e3, rfl, e5, e6, e7⟩
  clear e2 e3 e5 e6 e7
  unfold f_De_read
  rw [e1]
  unfold f_Ad_clear f_Te_clear
  generalize lawN = q at e4 ⊢
  simp only [Option.bind_some]
  rw [hns]
  rw [hns, show nI 0 = (0 : Int32) from rfl] at e4
  rw [e4]
