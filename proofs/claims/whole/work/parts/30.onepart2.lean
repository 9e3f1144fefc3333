/-! PURE SIDE 11: the reference's onePart runs as the class does -/
theorem stepP_es {ag dp : Nat} {qt : Bool} {op : List Int32} {c : Int32} (h : ¬ (c = 92 ∧ (0 < dp ∨ qt = true))) : (stepP ag dp qt false op c).2.2.2.1 = false := by
  unfold stepP
  by_cases h1 : 0 < dp
  · have h2 : ¬ c = 92 := fun q => h ⟨q, Or.inl h1⟩
    simp only [h1, h2, if_true, if_false, Bool.false_eq_true]
    repeat' split
    all_goals rfl
  · by_cases h3 : qt = true
    · have h2 : ¬ c = 92 := fun q => h ⟨q, Or.inr h3⟩
      simp only [h1, h2, h3, if_true, if_false, Bool.false_eq_true]
      split <;> rfl
    · simp only [h1, h3, if_false]
      repeat' split
      all_goals rfl
theorem stepP_qd {ag dp : Nat} {qt es : Bool} {op : List Int32} {c : Int32} (h : qt = true → dp = 0) : (stepP ag dp qt es op c).2.2.1 = true → (stepP ag dp qt es op c).2.1 = 0 := by
  unfold stepP
  by_cases h1 : 0 < dp
  · have h2 : qt = false := by
      cases hq : qt with
      | false => rfl
      | true => have := h hq; omega
    subst h2
    simp only [h1, if_true]
    repeat' split
    all_goals (intro q; cases q)
  · have h0 : dp = 0 := by omega
    subst h0
    by_cases h3 : qt = true
    · subst h3
      simp only [Nat.lt_irrefl, if_true, if_false]
      repeat' split
      all_goals (intro _; rfl)
    · have h4 : qt = false := by cases qt <;> simp_all
      subst h4
      simp only [Nat.lt_irrefl, if_false, Bool.false_eq_true]
      split
      · intro q; cases q
      · repeat' split
        all_goals (intro _; rfl)
section ONE2
variable (N : Nat) {value a : Nat → Int32} {len : Nat}
theorem one93 (r : Int32 → Int32 → Int32 → Int32 → Int32 → Int32 → (Nat → Int32) → Option (Int32 × Int32 × (Nat → Int32))) {ln : Int32} {ag dp : Nat} (ha : ag ≤ 2) (hd : dp < 1000) (k0 x2 x3 x6 x7 parts : Int32) (part : Nat → Int32) : f_Mo_onePart_93 N r ln value k0 x2 x3 (nI dp) (nI ag) x6 x7 parts part = f_Mo_onePart_111 N r ln value (b01 (kp ag dp)) x2 x3 (nI dp) (nI ag) x6 x7 k0 parts part := by
  unfold f_Mo_onePart_93 f_Mo_onePart_110
  rw [pq_2, pq_0]
  simp (disch := omega) only [pq_eq, pq_le]
  unfold kp
  by_cases h1 : dp = 0
  · by_cases h2 : 2 ≤ ag
    · rw [if_pos h1, if_pos h2, show (decide (dp = 0 ∧ ag ≠ 2)) = false by simp; omega]
      rfl
    · rw [if_pos h1, if_neg h2, show (decide (dp = 0 ∧ ag ≠ 2)) = true by simp; omega]
      rfl
  · rw [if_neg h1, show (decide (dp = 0 ∧ ag ≠ 2)) = false by simp; omega]
    rfl
theorem one52_single (r : Int32 → Int32 → Int32 → Int32 → Int32 → Int32 → (Nat → Int32) → Option (Int32 × Int32 × (Nat → Int32))) (hlen : len ≤ 300) (hv : ∀ j, j < len → value j = a j) {ag dp : Nat} {qt : Bool} {op : List Int32} {part : Nat → Int32} {q : Nat} (hq0 : q < len) (hV : VR part op) (hl : op.length < 300) (ha : ag ≤ 2) (hd : dp < 1000) (hq : qt = true → dp = 0) (hp : ¬ (a q = 92 ∧ (0 < dp ∨ qt = true)) ∨ len ≤ q + 1) :
    ∃ part', f_Mo_onePart_52 N r (nI len) value (b01 qt) (fl ag) (nI dp) (nI ag) (nI q) (nI op.length) part = r (b01 (stepP ag dp qt false op (a q)).2.2.1) (fl (stepP ag dp qt false op (a q)).1) (nI (stepP ag dp qt false op (a q)).2.1) (nI (stepP ag dp qt false op (a q)).1) (nI (q + 1)) (nI (stepP ag dp qt false op (a q)).2.2.2.2.length) part' ∧ VR part' (stepP ag dp qt false op (a q)).2.2.2.2 := by
  obtain ⟨p', e1, e2⟩ := one111 N r (len := nI len) (value := value) (q := q) (c := a q) hV hl ha hd hq
  refine ⟨p', ?_, e2⟩
  rw [← e1]
  have e92 : f_Mo_onePart_92 N r (nI len) value (b01 qt) (fl ag) (nI dp) (nI ag) (nI q) (a q) (nI op.length) part = f_Mo_onePart_111 N r (nI len) value (b01 (kp ag dp)) (b01 qt) (fl ag) (nI dp) (nI ag) (nI q) (a q) 0 (nI op.length) part := by
    unfold f_Mo_onePart_92
    exact one93 N r ha hd _ _ _ _ _ _ _
  unfold f_Mo_onePart_52
  simp (disch := omega) only [pq_in, nI_clamp]
  rw [if_pos (by omega), hv q hq0, b01_0, e92]
  have e70 : (0 < dp ∨ qt = true) → f_Mo_onePart_70 N r (nI len) value (b01 qt) (fl ag) (nI dp) (nI ag) (nI q) (a q) (nI op.length) part = f_Mo_onePart_111 N r (nI len) value (b01 (kp ag dp)) (b01 qt) (fl ag) (nI dp) (nI ag) (nI q) (a q) 0 (nI op.length) part := by
    intro hh
    unfold f_Mo_onePart_70
    rw [nI_1]
    simp (disch := omega) only [pq_le]
    rw [e92]
    by_cases h1 : a q = 92
    · rw [if_pos h1]
      rcases hp with hp | hp
      · exact absurd ⟨h1, hh⟩ hp
      · rw [if_pos hp]
    · rw [if_neg h1]
  cases qt with
  | true => exact e70 (Or.inr rfl)
  | false =>
    simp only [Bool.false_eq_true, if_false]
    by_cases h1 : dp = 0
    · subst h1
      rw [if_pos (by decide)]
    · rw [if_neg (nI_nle (by omega) (by omega))]
      exact e70 (Or.inl (by omega))
theorem one52_pair (r : Int32 → Int32 → Int32 → Int32 → Int32 → Int32 → (Nat → Int32) → Option (Int32 × Int32 × (Nat → Int32))) (hlen : len ≤ 300) (hv : ∀ j, j < len → value j = a j) {ag dp : Nat} {qt : Bool} {op : List Int32} {part : Nat → Int32} {q : Nat} (hq0 : q + 1 < len) (hV : VR part op) (hl : op.length + 1 < 300) (ha : ag ≤ 2) (hd : dp < 1000) (hq : qt = true → dp = 0) (h92 : a q = 92) (hh : 0 < dp ∨ qt = true) :
    ∃ part' op', f_Mo_onePart_52 N r (nI len) value (b01 qt) (fl ag) (nI dp) (nI ag) (nI q) (nI op.length) part = r (b01 qt) (fl ag) (nI dp) (nI ag) (nI (q + 2)) (nI op'.length) part' ∧ VR part' op' ∧ op'.length ≤ op.length + 2 ∧ stepS (stepP ag dp qt false op 92) (a (q + 1)) = (ag, dp, qt, false, op') ∧ endS (stepP ag dp qt false op 92) (a (q + 1)) = false := by
  have e70 : f_Mo_onePart_52 N r (nI len) value (b01 qt) (fl ag) (nI dp) (nI ag) (nI q) (nI op.length) part = f_Mo_onePart_111 N r (nI len) value (b01 (kp ag dp)) (b01 qt) (fl ag) (nI dp) (nI ag) (nI q) (a q) 1 (nI op.length) part := by
    have e7 : f_Mo_onePart_70 N r (nI len) value (b01 qt) (fl ag) (nI dp) (nI ag) (nI q) (a q) (nI op.length) part = f_Mo_onePart_111 N r (nI len) value (b01 (kp ag dp)) (b01 qt) (fl ag) (nI dp) (nI ag) (nI q) (a q) 1 (nI op.length) part := by
      unfold f_Mo_onePart_70
      rw [nI_1]
      simp (disch := omega) only [pq_le]
      rw [if_pos h92, if_neg (by omega), one93 N r ha hd]
    unfold f_Mo_onePart_52
    simp (disch := omega) only [pq_in, nI_clamp]
    rw [if_pos (by omega), hv q (by omega), b01_0, e7]
    cases qt with
    | true => rfl
    | false =>
      simp only [Bool.false_eq_true, if_false]
      rcases hh with h | h
      · rw [if_neg (nI_nle h (by omega))]
      · cases h
  rw [e70]
  unfold f_Mo_onePart_111 f_Mo_onePart_144
  rw [if_neg (by decide), b01_0, nI_1, nI_1]
  simp (disch := omega) only [pq_in, nI_clamp]
  rw [if_pos (show q + 1 < 300 by omega), if_pos (show op.length < 300 by omega), if_pos (show q + 1 < 300 by omega), hv (q + 1) hq0, h92]
  have fin : ∀ (op1 : List Int32) (part1 : Nat → Int32), VR part1 op1 → op1.length < 300 → ∃ p', f_Mo_onePart_304 N r (nI len) value (b01 qt) (fl ag) (nI dp) (nI ag) (nI (q + 1)) (a (q + 1)) (b01 (kp ag dp)) (nI op1.length) part1 = r (b01 qt) (fl ag) (nI dp) (nI ag) (nI (q + 2)) (nI (if kp ag dp = true then op1 ++ [a (q + 1)] else op1).length) p' ∧ VR p' (if kp ag dp = true then op1 ++ [a (q + 1)] else op1) := fun op1 part1 hV1 hl1 => one304 N r _ _ _ _ _ _ hV1 hl1
  by_cases hk : kp ag dp = true
  · have hk' := of_decide_eq_true hk
    have hd0 : dp = 0 := hk'.1
    subst hd0
    have hqt : qt = true := by rcases hh with h | h; omega; exact h
    subst hqt
    rw [if_pos hk]
    have hV1 : VR (upd part op.length 92) (op ++ [92]) := VR_push hV
    obtain ⟨p', e1, e2⟩ := fin (op ++ [92]) (upd part op.length 92) hV1 (by simp; omega)
    rw [if_pos hk] at e1 e2
    refine ⟨p', op ++ [92] ++ [a (q + 1)], ?_, e2, by simp, ?_, ?_⟩
    · rw [← e1, List.length_append]
      rfl
    · unfold stepS stepP keepS
      simp [hk'.2]
    · unfold endS endP stepP
      simp
  · rw [if_neg hk]
    obtain ⟨p', e1, e2⟩ := fin op part hV (by omega)
    rw [if_neg hk] at e1 e2
    refine ⟨p', op, e1, e2, by omega, ?_, ?_⟩
    · by_cases hd0 : dp = 0
      · have h2 : ag = 2 := by
          unfold kp at hk
          simp [hd0] at hk
          exact hk
        have hqt : qt = true := by rcases hh with h | h; omega; exact h
        subst hd0; subst hqt; subst h2
        unfold stepS stepP keepS
        simp
      · unfold stepS stepP
        simp [show 0 < dp by omega]
    · by_cases hd0 : dp = 0
      · have hqt : qt = true := by rcases hh with h | h; omega; exact h
        subst hd0; subst hqt
        unfold endS endP stepP
        simp
      · unfold endS endP stepP
        simp [show 0 < dp by omega, hd0]
theorem one18_end {ag : Nat} (ha : ag ≤ 2) (hlen : len ≤ 300) (f : Nat) (x2 x3 x4 : Int32) {op : List Int32} {part : Nat → Int32} (hV : VR part op) : ∃ part', f_Mo_onePart_18 N (nI len) value (f + 1) x2 x3 x4 (nI ag) (nI len) (nI op.length) part = some (nI (len + 1), nI (if ag = 1 then [] else op).length, part') ∧ VR part' (if ag = 1 then [] else op) := by
  rw [f_Mo_onePart_18, if_pos (nI_le (Nat.le_refl _) (by omega)), pq_1, nI_add]
  simp (disch := omega) only [pq_eq]
  by_cases h : ag = 1
  · rw [if_pos h, if_pos h]
    exact ⟨_, rfl, VR_nil _⟩
  · rw [if_neg h, if_neg h]
    exact ⟨_, rfl, hV⟩
theorem pq_one18 (hlen : len ≤ 300) (hv : ∀ j, j < len → value j = a j) : ∀ k q f ag dp qt op part, q + k = len → k < f → ag ≤ 2 → dp ≤ q → (qt = true → dp = 0) → VR part op → op.length ≤ q →
    ∃ part', f_Mo_onePart_18 N (nI len) value f (b01 qt) (fl ag) (nI dp) (nI ag) (nI q) (nI op.length) part = some (nI ((prun a k (ag, dp, qt, false, op) q).2 + 1), nI (finS (prun a k (ag, dp, qt, false, op) q).1).length, part') ∧ VR part' (finS (prun a k (ag, dp, qt, false, op) q).1) := by
  intro k
  induction k using Nat.strongRecOn with
  | ind k ih =>
    intro q f ag dp qt op part hqk hf ha hd hq hV hl
    obtain ⟨f, rfl⟩ : ∃ g, f = g + 1 := ⟨f - 1, by omega⟩
    cases k with
    | zero =>
      have : q = len := by omega
      subst this
      exact one18_end N ha hlen f _ _ _ hV
    | succ k =>
      unfold prun
      have ee : endS (ag, dp, qt, false, op) (a q) = endP ag dp qt (a q) := rfl
      have es : stepS (ag, dp, qt, false, op) (a q) = stepP ag dp qt false op (a q) := rfl
      rw [ee, es]
      have hfl : ∀ {α : Type} {x y : α}, (if fl ag = 0 then x else y) = (if ag = 1 then y else x) := by
        intro α x y
        unfold fl
        by_cases h : ag = 1
        · simp [h]
        · simp [h]
      by_cases hE : endP ag dp qt (a q) = true
      · rw [if_pos hE]
        obtain ⟨g1, g2, g3, g4⟩ := of_decide_eq_true hE
        subst g1; subst g2
        refine ⟨part, ?_, ?_⟩
        · rw [f_Mo_onePart_18, if_neg (nI_ge (by omega) (by omega)), b01_0, hfl, pq_1, nI_add]
          simp (disch := omega) only [pq_eq, pq_in, nI_clamp, Bool.false_eq_true, if_false]
          rw [if_neg g4, if_neg (by decide), if_pos (by omega), hv q (by omega), if_pos g3, if_neg g4]
          unfold finS
          rw [if_neg g4]
        · unfold finS
          rw [if_neg g4]
          exact hV
      · rw [if_neg hE]
        have h52 : f_Mo_onePart_18 N (nI len) value (f + 1) (b01 qt) (fl ag) (nI dp) (nI ag) (nI q) (nI op.length) part = f_Mo_onePart_52 N (f_Mo_onePart_18 N (nI len) value f) (nI len) value (b01 qt) (fl ag) (nI dp) (nI ag) (nI q) (nI op.length) part := by
          rw [f_Mo_onePart_18, if_neg (nI_ge (by omega) (by omega)), b01_0, hfl]
          simp (disch := omega) only [pq_in, nI_clamp]
          cases qt with
          | true => rfl
          | false =>
            simp only [Bool.false_eq_true, if_false]
            by_cases h1 : ag = 1
            · rw [if_pos h1]
            · rw [if_neg h1]
              by_cases h2 : dp = 0
              · subst h2
                rw [if_neg (by decide), if_pos (by omega), hv q (by omega), if_neg]
                intro h3
                exact hE (by unfold endP; simp [h3, h1])
              · rw [if_pos (show (0 : Int32) < nI dp from nI_lt (a := 0) (b := dp) (by omega) (by omega))]
        rw [h52]
        have hst := stepP_inv ag dp qt false op (a q) ha
        by_cases hp : a q = 92 ∧ (0 < dp ∨ qt = true)
        · by_cases hk0 : q + 1 < len
          · obtain ⟨k, rfl⟩ : ∃ j, k = j + 1 := ⟨k - 1, by omega⟩
            obtain ⟨p', op', e1, e2, e3, e4, e5⟩ := one52_pair N (f_Mo_onePart_18 N (nI len) value f) hlen hv hk0 hV (by omega) ha (by omega) hq hp.1 hp.2
            rw [e1, hp.1]
            unfold prun
            rw [if_neg (by rw [e5]; decide), e4]
            exact ih k (by omega) (q + 2) f ag dp qt op' p' (by omega) (by omega) ha (by omega) hq e2 (by omega)
          · have hk1 : k = 0 := by omega
            subst hk1
            obtain ⟨p', e1, e2⟩ := one52_single N (f_Mo_onePart_18 N (nI len) value f) hlen hv (show q < len by omega) hV (by omega) ha (by omega) hq (Or.inr (by omega))
            obtain ⟨f, rfl⟩ : ∃ g, f = g + 1 := ⟨f - 1, by omega⟩
            rw [e1, show q + 1 = len by omega]
            exact one18_end N hst.1 hlen f _ _ _ e2
        · obtain ⟨p', e1, e2⟩ := one52_single N (f_Mo_onePart_18 N (nI len) value f) hlen hv (show q < len by omega) hV (by omega) ha (by omega) hq (Or.inl hp)
          rw [e1]
          have e3 := stepP_es (ag := ag) (op := op) hp
          have hqd := stepP_qd (ag := ag) (es := false) (op := op) (c := a q) hq
          generalize stepP ag dp qt false op (a q) = s at e2 e3 hst hqd ⊢
          obtain ⟨ag', dp', qt', es', op'⟩ := s
          dsimp only at e2 e3 hst hqd ⊢
          subst e3
          exact ih k (by omega) (q + 1) f ag' dp' qt' op' p' (by omega) (by omega) hst.1 (by omega) hqd e2 (by omega)
end ONE2
theorem pq_onePart {N : Nat} (hN : 400 ≤ N) {value a : Nat → Int32} {len p : Nat} (hlen : len ≤ 300) (hv : ∀ j, j < len → value j = a j) (hp : p ≤ len) (parts : Int32) (part : Nat → Int32) :
    ∃ part', f_Mo_onePart N (nI p) (nI len) parts value part = some (nI ((prun a (len - p) s0 p).2 + 1), nI (finS (prun a (len - p) s0 p).1).length, part') ∧ VR part' (finS (prun a (len - p) s0 p).1) := by
  unfold f_Mo_onePart
  exact pq_one18 N hlen hv (len - p) p N 0 0 false [] part (by omega) (by omega) (by omega) (by omega) (fun h => by cases h) (VR_nil _) (by simp)
