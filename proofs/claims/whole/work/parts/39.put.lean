/-! PURE SIDE 20: put and read, both sides -/
theorem put_loop (v : Int64) (th : Int32) : ∀ d p f row put, p + d ≤ 300 → d < f → MeR row put p → (∀ j, j < p → isB (put j)) → ∃ row' put', f_De_put_33 lawN v f (nI d + (-1)) (nI p) row = some (1, nI (p + d), row') ∧ f_Mo_put_35 lawN v f (nI d + (-1)) th (nI p) put = some (1, th, nI (p + d), put') ∧ MeR row' put' (p + d) ∧ ∀ j, j < p + d → isB (put' j) := by
  intro d
  induction d with
  | zero =>
    intro p f row put hp hf hM hB
    obtain ⟨f, rfl⟩ : ∃ g, f = g + 1 := ⟨f - 1, by omega⟩
    refine ⟨row, put, ?_, ?_, hM, hB⟩
    · rw [f_De_put_33, if_pos (by decide)]
      rfl
    · rw [f_Mo_put_35, if_pos (by decide)]
      rfl
  | succ d ih =>
    intro p f row put hp hf hM hB
    obtain ⟨f, rfl⟩ : ∃ g, f = g + 1 := ⟨f - 1, by omega⟩
    rw [pk_m1, f_De_put_33, f_Mo_put_35, if_neg (nI_pos (by omega)), if_neg (nI_pos (by omega))]
    generalize hc : (((v.toUInt64 >>> ((8 * nI d).toInt64.toUInt64 &&& Int64.toUInt64 63)).toInt64).toInt32) &&& 255 = c
    have hcB : isB c := by
      obtain ⟨j, hj, e⟩ := pk_andE (((v.toUInt64 >>> ((8 * nI d).toInt64.toUInt64 &&& Int64.toUInt64 63)).toInt64).toInt32) (m := 255) 8 (by decide)
      exact ⟨j, hj, by rw [← hc]; exact e⟩
    unfold f_Me_append
    rw [pq_300, nI_1]
    simp (disch := omega) only [pq_neg, pq_le, pq_in, nI_clamp, if_false]
    rw [if_neg (by omega), if_pos (show p < 300 by omega), if_pos (show p < 300 by omega)]
    obtain ⟨row', put', e1, e2, e3, e4⟩ := ih (p + 1) f (upd row p (enc c)) (upd put p c) (by omega) (by omega)
      (fun j hj => by
        by_cases h : j = p
        · subst h
          rw [pk_us, pk_us, enc_isB hcB]
        · rw [pk_un h, pk_un h]
          exact hM j (by omega))
      (fun j hj => by
        by_cases h : j = p
        · subst h
          rw [pk_us]
          exact hcB
        · rw [pk_un h]
          exact hB j (by omega))
    rw [show p + 1 + d = p + (d + 1) by omega] at e1 e2 e3 e4
    exact ⟨row', put', e1, e2, e3, e4⟩
theorem op_put (v : Int64) (x : Int32) (th : Int32) {p : Nat} (hp : p ≤ 300) {row put : Nat → Int32} (hM : MeR row put p) (hB : ∀ j, j < p → isB (put j)) :
    ∃ r th' p' row' put', f_De_put lawN v x (nI p) row = some (r, nI p', row') ∧ f_Mo_put lawN v x th (nI p) put = some (r, th', nI p', put') ∧ p' ≤ 300 ∧ MeR row' put' p' ∧ ∀ j, j < p' → isB (put' j) := by
  unfold f_De_put f_Mo_put
  by_cases h1 : x < 1
  · rw [if_pos h1, if_pos h1]
    exact ⟨_, _, _, _, _, rfl, rfl, hp, hM, hB⟩
  · rw [if_neg h1, if_neg h1]
    by_cases h2 : 8 < x
    · rw [if_pos h2, if_pos h2]
      exact ⟨_, _, _, _, _, rfl, rfl, hp, hM, hB⟩
    · rw [if_neg h2, if_neg h2]
      obtain ⟨k, hk, rfl⟩ := nI_of (x := x) (fun q => h1 (Int32.lt_trans q (by decide)))
      have hk1 : 1 ≤ k := by
        rcases Nat.lt_or_ge k 1 with q | q
        · exact absurd (by rw [pq_1]; exact nI_lt q (by omega)) h1
        · exact q
      have hk8 : k ≤ 8 := by
        rcases Nat.lt_or_ge 8 k with q | q
        · exact absurd (by rw [pq_8]; exact nI_lt q (by omega)) h2
        · exact q
      rw [pq_300, pk_sub hp, nI_add]
      simp (disch := omega) only [pq_le]
      by_cases h3 : k ≤ 300 - p
      · rw [if_pos h3, if_pos (by omega)]
        obtain ⟨row', put', e1, e2, e3, e4⟩ := put_loop v 0 k p lawN row put (by omega) (by have := lawN_ge; omega) hM hB
        have e5 : nI k - 1 = nI k + (-1) := by
          obtain ⟨d, rfl⟩ : ∃ d, k = d + 1 := ⟨k - 1, by omega⟩
          rw [nI_pred, pk_m1]
        rw [e5]
        exact ⟨_, _, _, _, _, e1, e2, by omega, e3, e4⟩
      · rw [if_neg h3, if_neg (by omega)]
        exact ⟨_, _, _, _, _, rfl, rfl, hp, hM, hB⟩
theorem read7 (put : Nat → Int32) (th bt nf nm vl bh : Int32) (value : Nat → Int32) {p : Nat} (hp : p ≤ 300) : ∀ d k f text, k + d = p → d < f → (∀ j, j < k → text j = put j) → ∃ text', (∀ j, j < p → text' j = put j) ∧ f_Mo_read_7 lawN put f (nI k) th (nI p) bt nf nm vl bh text value = ((f_Mo_fields lawN (nI p) nf nm vl bh text' value).bind fun z2 => some (z2.1, th, 0, nI p, z2.2.1, z2.2.2.1, z2.2.2.2.1, z2.2.2.2.2.1, text', z2.2.2.2.2.2)) := by
  intro d
  induction d with
  | zero =>
    intro k f text hk hf ht
    obtain ⟨f, rfl⟩ : ∃ g, f = g + 1 := ⟨f - 1, by omega⟩
    refine ⟨text, fun j hj => ht j (by omega), ?_⟩
    rw [f_Mo_read_7, if_pos (nI_le (by omega) (by omega))]
  | succ d ih =>
    intro k f text hk hf ht
    obtain ⟨f, rfl⟩ : ∃ g, f = g + 1 := ⟨f - 1, by omega⟩
    rw [f_Mo_read_7, if_neg (nI_ge (by omega) (by omega)), nI_1]
    simp (disch := omega) only [pq_in, nI_clamp]
    rw [if_pos (by omega), if_pos (by omega)]
    exact ih (k + 1) f _ (by omega) (by omega) (fun j hj => by
      by_cases h : j = k
      · subst h
        rw [pk_us]
      · rw [pk_un h]
        exact ht j (by omega))
theorem op_readM {p : Nat} (hp : p ≤ 300) (put : Nat → Int32) (hB : ∀ j, j < p → isB (put j)) (th bt nf nm vl bh : Int32) (text value : Nat → Int32) : ∃ text' m, (∀ j, j < p → text' j = put j) ∧ Cnt text' p m ∧ ∃ a b c d value', f_Mo_read lawN th (nI p) bt nf nm vl bh put text value = some (nI m, 0, 0, nI p, a, b, c, d, text', value') := by
  obtain ⟨text', h1, h2⟩ := read7 put 0 bt nf nm vl bh value hp p 0 lawN text (by omega) (by have := lawN_ge; omega) (fun j hj => by omega)
  obtain ⟨m, hm⟩ := Cnt_ex (t := text') (n := p) hp
  obtain ⟨a, b, c, value', e⟩ := pq_fields lawN_ge hp (fun _ _ => rfl) hm nf nm vl bh value
  refine ⟨text', m, h1, hm, a, b, c, nI (fpos text' p m), value', ?_⟩
  unfold f_Mo_read
  rw [show nI 0 = (0 : Int32) from rfl] at h2
  rw [h2, e]
  rfl
