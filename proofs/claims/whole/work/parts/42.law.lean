/-! PURE SIDE 23: the law's loop -/
theorem bind2 {α β : Type} {x : Option α} {y : Option β} {a : α} {b : β} {F : α → β → Option Int32} (h1 : x = some a) (h2 : y = some b) (h : F a b = some 1) : (x.bind fun z => y.bind fun w => F z w) = some 1 := by
  subst h1
  subst h2
  exact h
theorem cmp_self (x : Int64) : lg_cmp x x = 0 := by
  unfold lg_cmp
  rw [if_neg (fun h => Int64.lt_irrefl h), if_pos rfl]
theorem sub4 {L k : Nat} (hL : L ≤ 2048) (hk : k < 2 ^ 31) : (Int32.ofNat L - 4 < nI k) = (L < k + 4) := by
  apply propext
  rw [show Int32.ofNat L - 4 = nI L - nI 4 from rfl, Int32.lt_iff_toInt_lt, Int32.toInt_sub, nI_toInt (by omega), nI_toInt (by omega), nI_toInt hk, Int.bmod_eq_of_le (by omega) (by omega)]
  omega
set_option maxHeartbeats 8000000 in
set_option maxRecDepth 100000 in
theorem law_pure {L : Nat} (hL : L ≤ 2048) (xs : Nat → Int32) : ∀ (f k p n m : Nat) (xrow : Nat → Int32) (hend ns nos nol : Int32) (nrow nst nle : Nat → Int32) (vs vos vol : Int32) (vrow vst vle : Nat → Int32) (fields ag dp qt es fs fos fol : Int32) (frow fst fle at' firsts amounts : Nat → Int32) (th nf nm vl bh pt : Int32) (put text value part : Nat → Int32),
    k ≤ L → L + 4 ≤ k + 4 * f → p ≤ 300 → MeR xrow put p → (∀ j, j < p → isB (put j)) → n ≤ 300 → (∀ j, j < n → isB (text j)) → Cnt text n m → DR text n m hend ns nos nol nrow nst nle vs vos vol vrow vst vle fields fs fos fol frow fst fle at' firsts amounts →
    f_Lw_law_18 lawN L xs f (nI k) (nI p) xrow hend ns nos nol nrow nst nle vs vos vol vrow vst vle fields ag dp qt es fs fos fol frow fst fle at' firsts amounts th (nI p) (nI n) nf nm vl bh pt put text value part = some 1 := by
  intro f
  induction f with
  | zero =>
    intro k p n m xrow hend ns nos nol nrow nst nle vs vos vol vrow vst vle fields ag dp qt es fs fos fol frow fst fle at' firsts amounts th nf nm vl bh pt put text value part hk hf
    omega
  | succ f ih =>
    intro k p n m xrow hend ns nos nol nrow nst nle vs vos vol vrow vst vle fields ag dp qt es fs fos fol frow fst fle at' firsts amounts th nf nm vl bh pt put text value part hk hf hp hM hBp hn hBt hm hD
    rw [f_Lw_law_18]
    by_cases h4 : L < k + 4
    · rw [if_pos (by rw [sub4 hL (by omega)]; exact h4)]
    · rw [if_neg (by rw [sub4 hL (by omega)]; exact h4)]
      have g0 : inB (nI k) L = true := by rw [pq_in (by omega)]; omega
      have g1 : inB (nI k + 1) L = true := by rw [pq_1, nI_add, pq_in (by omega)]; omega
      have g2 : inB (nI k + 2) L = true := by rw [pq_2, nI_add, pq_in (by omega)]; omega
      have g3 : inB (nI k + 3) L = true := by rw [show (3 : Int32) = nI 3 from rfl, nI_add, pq_in (by omega)]; omega
      have e4 : nI k + 4 = nI (k + 4) := by rw [pq_4, nI_add]
      simp only [g0, g1, g2, g3, e4, if_true]
      generalize xs (nI k).toNatClampNeg &&& 7 = w
      generalize xs (nI k + 1).toNatClampNeg = u1
      generalize xs (nI k + 2).toNatClampNeg = u2
      generalize xs (nI k + 3).toNatClampNeg = u3
      have go : ∀ (p n m : Nat) (xrow : Nat → Int32) (hend ns nos nol : Int32) (nrow nst nle : Nat → Int32) (vs vos vol : Int32) (vrow vst vle : Nat → Int32) (fields ag dp qt es fs fos fol : Int32) (frow fst fle at' firsts amounts : Nat → Int32) (th nf nm vl bh pt : Int32) (put text value part : Nat → Int32),
          p ≤ 300 → MeR xrow put p → (∀ j, j < p → isB (put j)) → n ≤ 300 → (∀ j, j < n → isB (text j)) → Cnt text n m → DR text n m hend ns nos nol nrow nst nle vs vos vol vrow vst vle fields fs fos fol frow fst fle at' firsts amounts →
          f_Lw_law_18 lawN L xs f (nI (k + 4)) (nI p) xrow hend ns nos nol nrow nst nle vs vos vol vrow vst vle fields ag dp qt es fs fos fol frow fst fle at' firsts amounts th (nI p) (nI n) nf nm vl bh pt put text value part = some 1 :=
        fun p n m xrow hend ns nos nol nrow nst nle vs vos vol vrow vst vle fields ag dp qt es fs fos fol frow fst fle at' firsts amounts th nf nm vl bh pt put text value part => ih (k + 4) p n m xrow hend ns nos nol nrow nst nle vs vos vol vrow vst vle fields ag dp qt es fs fos fol frow fst fle at' firsts amounts th nf nm vl bh pt put text value part (by omega) (by omega)
      clear ih
      by_cases c0 : w = 0
      · rw [if_pos c0]
        obtain ⟨r, th', p', row', put', e1, e2, e3, e5, e6⟩ := op_put ((u1.toInt64 <<< ((32 : Int32).toInt64 &&& 63)) ||| (u2.toInt64 &&& 4294967295)) u3 th hp hM hBp
        refine bind2 e1 e2 ((if_pos rfl).trans ?_)
        exact go p' n m row' hend ns nos nol nrow nst nle vs vos vol vrow vst vle fields ag dp qt es fs fos fol frow fst fle at' firsts amounts th' nf nm vl bh pt put' text value part e3 e5 e6 hn hBt hm hD
      rw [if_neg c0]
      by_cases c1 : w = 1
      · rw [if_pos c1]
        obtain ⟨text', m', t1, t2, a, b, c, d, value', e2⟩ := op_readM hp put hBp th (nI n) nf nm vl bh text value
        have hB' : ∀ j, j < p → isB (text' j) := fun j hj => by rw [t1 j hj]; exact hBp j hj
        have hM' : MeR xrow text' p := fun j hj => by rw [t1 j hj]; exact hM j hj
        obtain ⟨hend', ns', nos', nol', nrow', nst', nle', vs', vos', vol', vrow', vst', vle', fields', ag', dp', qt', es', fs', fos', fol', frow', fst', fle', at'', firsts', amounts', e1, hD'⟩ := pq_readD hp hM' hB' t2 hend ns nos nol nrow nst nle vs vos vol vrow vst vle fields ag dp qt es fs fos fol frow fst fle at' firsts amounts
        refine bind2 e1 e2 ((if_pos rfl).trans ?_)
        exact go 0 p m' xrow hend' ns' nos' nol' nrow' nst' nle' vs' vos' vol' vrow' vst' vle' fields' ag' dp' qt' es' fs' fos' fol' frow' fst' fle' at'' firsts' amounts' 0 a b c d pt put text' value' part (by omega) (fun j hj => by omega) (fun j hj => by omega) hp hB' t2 hD'
      rw [if_neg c1]
      by_cases c2 : w = 2
      · rw [if_pos c2]
        obtain ⟨r, a1, a2, a3, a4, a5, a6, a7, a8, e1, e2⟩ := op_field hn hBt hm hD u1 u2 th nf nm vl bh pt value part
        refine bind2 e1 e2 ((if_pos rfl).trans ?_)
        exact go p n m xrow hend ns nos nol nrow nst nle vs vos vol vrow vst vle fields ag dp qt es fs fos fol frow fst fle at' firsts amounts a1 a2 a3 a4 a5 a6 put text a7 a8 hp hM hBp hn hBt hm hD
      rw [if_neg c2]
      by_cases c3 : w = 3
      · rw [if_pos c3]
        obtain ⟨r, a1, a2, a3, a4, a5, a6, a7, e1, e2⟩ := op_bytes hn hBt hm hD u1 u2 u3 th nf nm vl bh value part
        refine bind2 e1 e2 ((if_pos (cmp_self r)).trans ?_)
        exact go p n m xrow hend ns nos nol nrow nst nle vs vos vol vrow vst vle fields ag dp qt es fs fos fol frow fst fle at' firsts amounts a1 a2 a3 a4 a5 pt put text a6 a7 hp hM hBp hn hBt hm hD
      rw [if_neg c3]
      by_cases c4 : w = 4
      · rw [if_pos c4]
        obtain ⟨r, a1, a2, a3, a4, a5, a6, a7, a8, e1, e2⟩ := op_address hn hBt hm hD u1 u2 u3 th nf nm vl bh pt value part
        refine bind2 e1 e2 ((if_pos (cmp_self r)).trans ?_)
        exact go p n m xrow hend ns nos nol nrow nst nle vs vos vol vrow vst vle fields ag dp qt es fs fos fol frow fst fle at' firsts amounts a1 a2 a3 a4 a5 a6 put text a7 a8 hp hM hBp hn hBt hm hD
      rw [if_neg c4]
      by_cases c5 : w = 5
      · rw [if_pos c5]
        obtain ⟨r, a1, a2, a3, a4, a5, a6, a7, a8, e1, e2⟩ := op_part hn hBt hm hD u1 u2 u3 th nf nm vl bh pt value part
        refine bind2 e1 e2 ((if_pos rfl).trans ?_)
        exact go p n m xrow hend ns nos nol nrow nst nle vs vos vol vrow vst vle fields ag dp qt es fs fos fol frow fst fle at' firsts amounts a1 a2 a3 a4 a5 a6 put text a7 a8 hp hM hBp hn hBt hm hD
      rw [if_neg c5]
      by_cases c6 : w = 6
      · rw [if_pos c6]
        obtain ⟨r, a1, a2, a3, a4, a5, a6, e1, e2⟩ := op_find hn hBt hm hD u1 u2 th nf nm vl bh value
        refine bind2 e1 e2 ((if_pos rfl).trans ?_)
        exact go p n m xrow hend ns nos nol nrow nst nle vs vos vol vrow vst vle fields ag dp qt es fs fos fol frow fst fle at' firsts amounts a1 a2 a3 a4 a5 pt put text a6 part hp hM hBp hn hBt hm hD
      rw [if_neg c6]
      by_cases c7 : w = 7
      · rw [if_pos c7]
        obtain ⟨r, a1, a2, a3, a4, a5, a6, a7, a8, e1, e2⟩ := op_count hn hBt hm hD u1 (nI p) th nf nm vl bh pt value part
        refine bind2 e1 e2 ((if_pos rfl).trans ?_)
        exact go p n m xrow hend ns nos nol nrow nst nle vs vos vol vrow vst vle fields ag dp qt es fs fos fol frow fst fle at' firsts amounts a1 a2 a3 a4 a5 a6 put text a7 a8 hp hM hBp hn hBt hm hD
      rw [if_neg c7]
      exact go p n m xrow hend ns nos nol nrow nst nle vs vos vol vrow vst vle fields ag dp qt es fs fos fol frow fst fle at' firsts amounts th nf nm vl bh pt put text value part hp hM hBp hn hBt hm hD
theorem pure_law {L : Nat} (hL : L ≤ 2048) (xs : Nat → Int32) : f_Lw_law_18 lawN L xs lawN 0 0 (fun _ => 0) 0 0 0 0 (fun _ => 0) (fun _ => 0) (fun _ => 0) 0 0 0 (fun _ => 0) (fun _ => 0) (fun _ => 0) 0 0 0 0 0 0 0 0 (fun _ => 0) (fun _ => 0) (fun _ => 0) (fun _ => 0) (fun _ => 0) (fun _ => 0) 0 0 0 0 0 0 0 0 (fun _ => 0) (fun _ => 0) (fun _ => 0) (fun _ => 0) = some 1 := by
  have h := law_pure hL xs lawN 0 0 0 0 (fun _ => 0) 0 0 0 0 (fun _ => 0) (fun _ => 0) (fun _ => 0) 0 0 0 (fun _ => 0) (fun _ => 0) (fun _ => 0) 0 0 0 0 0 0 0 0 (fun _ => 0) (fun _ => 0) (fun _ => 0) (fun _ => 0) (fun _ => 0) (fun _ => 0) 0 0 0 0 0 0 (fun _ => 0) (fun _ => 0) (fun _ => 0) (fun _ => 0)
    (Nat.zero_le _) (by unfold lawN; omega) (by omega) (fun j hj => by omega) (fun j hj => by omega) (by omega) (fun j hj => by omega)
    ⟨fun k hk => by omega, by unfold isF; simp [nEnd, scan, sWh, fpos]⟩
    ⟨rfl, TX_new _ _ _, TX_new _ _ _, rfl, TX_new _ _ _, fun i hi => by simp [allF] at hi, fun j hj => by omega⟩
  rw [show nI 0 = (0 : Int32) from rfl] at h
  exact h
