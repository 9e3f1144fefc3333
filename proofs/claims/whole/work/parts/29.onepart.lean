/-! PURE SIDE 10: the reference's onePart -/
def fl (ag : Nat) : Int32 := if ag = 1 then 1 else 0
def kp (ag dp : Nat) : Bool := decide (dp = 0 ∧ ag ≠ 2)
def finS (s : PS) : List Int32 := if s.1 = 1 then [] else s.2.2.2.2
section ONE
variable (N : Nat) (r : Int32 → Int32 → Int32 → Int32 → Int32 → Int32 → (Nat → Int32) → Option (Int32 × Int32 × (Nat → Int32))) {len : Int32} {value : Nat → Int32}
theorem one304 (x2 x3 x4 x5 c : Int32) (k : Bool) {q : Nat} {op : List Int32} {part : Nat → Int32} (hV : VR part op) (hl : op.length < 300) :
    ∃ part', f_Mo_onePart_304 N r len value x2 x3 x4 x5 (nI q) c (b01 k) (nI op.length) part = r x2 x3 x4 x5 (nI (q + 1)) (nI (if k = true then op ++ [c] else op).length) part' ∧ VR part' (if k = true then op ++ [c] else op) := by
  unfold f_Mo_onePart_304
  rw [b01_0, nI_1, nI_1]
  simp (disch := omega) only [pq_in, nI_clamp]
  cases k with
  | false => exact ⟨part, rfl, hV⟩
  | true =>
    refine ⟨upd part op.length c, ?_, VR_push hV⟩
    simp only [if_true]
    rw [if_pos hl, List.length_append]
    rfl
theorem one111 {ag dp : Nat} {qt : Bool} {op : List Int32} {part : Nat → Int32} {q : Nat} {c : Int32} (hV : VR part op) (hl : op.length < 300) (ha : ag ≤ 2) (hd : dp < 1000) (hq : qt = true → dp = 0) :
    ∃ part', f_Mo_onePart_111 N r len value (b01 (kp ag dp)) (b01 qt) (fl ag) (nI dp) (nI ag) (nI q) c 0 (nI op.length) part = r (b01 (stepP ag dp qt false op c).2.2.1) (fl (stepP ag dp qt false op c).1) (nI (stepP ag dp qt false op c).2.1) (nI (stepP ag dp qt false op c).1) (nI (q + 1)) (nI (stepP ag dp qt false op c).2.2.2.2.length) part' ∧ VR part' (stepP ag dp qt false op c).2.2.2.2 := by
  unfold f_Mo_onePart_111
  rw [if_pos rfl, b01_0]
  have hfl : ∀ {α : Type} {x y : α}, (if fl ag = 0 then x else y) = (if ag = 1 then y else x) := by
    intro α x y
    unfold fl
    by_cases h : ag = 1
    · simp [h]
    · simp [h]
  have a0 : (nI ag = 0) = (ag = 0) := by rw [pq_0]; exact pq_eq (by omega) (by omega)
  cases qt with
  | true =>
    have hd0 := hq rfl
    subst hd0
    unfold stepP
    simp only [Nat.lt_irrefl, if_false, if_true, Bool.false_eq_true]
    have ek : ∀ c : Int32, (if kp ag 0 = true then op ++ [c] else op) = keepS ag op c := by
      intro c
      unfold kp keepS
      by_cases h : ag = 2
      · simp [h]
      · simp [h]
    unfold f_Mo_onePart_175
    by_cases h1 : c = 34
    · have h92 : ¬ c = 92 := by rw [h1]; decide
      simp only [h1, if_true]
      obtain ⟨p', e1, e2⟩ := one304 N r (len := len) (value := value) 0 (fl ag) (nI 0) (nI ag) 34 (kp ag 0) (q := q) hV hl
      rw [ek] at e1 e2
      exact ⟨p', e1, e2⟩
    · simp only [h1, if_false]
      obtain ⟨p', e1, e2⟩ := one304 N r (len := len) (value := value) 1 (fl ag) (nI 0) (nI ag) c (kp ag 0) (q := q) hV hl
      rw [ek] at e1 e2
      refine ⟨p', ?_⟩
      by_cases h2 : c = 92
      · simp only [h2, if_true] at e1 e2 ⊢
        exact ⟨e1, e2⟩
      · simp only [h2, if_false] at e1 e2 ⊢
        exact ⟨e1, e2⟩
  | false =>
    simp only [Bool.false_eq_true, if_false]
    by_cases hd0 : dp = 0
    · subst hd0
      rw [if_pos (by decide), hfl]
      have ek : ∀ c : Int32, (if kp ag 0 = true then op ++ [c] else op) = keepS ag op c := by
        intro c
        unfold kp keepS
        by_cases h : ag = 2
        · simp [h]
        · simp [h]
      unfold stepP
      simp only [Nat.lt_irrefl, if_false, Bool.false_eq_true]
      have k293 : ¬ c = 34 → ∃ p', f_Mo_onePart_293 N r len value (b01 false) (fl ag) (nI 0) (nI ag) (nI q) c (b01 (kp ag 0)) (nI op.length) part = r (b01 false) (fl ag) (nI 0) (nI ag) (nI (q + 1)) (nI (if bl c = true then op else keepS ag op c).length) p' ∧ VR p' (if bl c = true then op else keepS ag op c) := by
        intro _
        unfold f_Mo_onePart_293
        rw [pq_blank]
        simp only [Option.bind_some]
        rw [pq_if10]
        by_cases h1 : bl c = true
        · rw [if_pos h1, if_pos h1]
          obtain ⟨p', e1, e2⟩ := one304 N r (len := len) (value := value) (b01 false) (fl ag) (nI 0) (nI ag) c false (q := q) hV hl
          exact ⟨p', e1, e2⟩
        · rw [if_neg h1, if_neg h1]
          obtain ⟨p', e1, e2⟩ := one304 N r (len := len) (value := value) (b01 false) (fl ag) (nI 0) (nI ag) c (kp ag 0) (q := q) hV hl
          rw [ek] at e1 e2
          exact ⟨p', e1, e2⟩
      by_cases h1 : c = 40
      · simp only [h1, if_true]
        obtain ⟨p', e1, e2⟩ := one304 N r (len := len) (value := value) (b01 false) (fl ag) 1 (nI ag) 40 false (q := q) hV hl
        exact ⟨p', e1, e2⟩
      · simp only [h1, if_false]
        by_cases h2 : c = 34
        · have g1 : ¬ (34 : Int32) = 60 := by decide
          have g2 : ¬ (34 : Int32) = 62 := by decide
          have g3 : ¬ bl 34 = true := by decide
          simp only [h2, g1, g2, g3, if_true, if_false, false_and]
          obtain ⟨p', e1, e2⟩ := one304 N r (len := len) (value := value) 1 (fl ag) (nI 0) (nI ag) 34 (kp ag 0) (q := q) hV hl
          rw [ek] at e1 e2
          exact ⟨p', e1, e2⟩
        · simp only [h2, if_false, decide_false]
          obtain ⟨p9, e91, e92⟩ := k293 h2
          by_cases h3 : ag = 1
          · by_cases h4 : c = 62
            · have g1 : ¬ (62 : Int32) = 60 := by decide
              simp only [h3, h4, g1, if_true, if_false, false_and, and_self]
              obtain ⟨p', e1, e2⟩ := one304 N r (len := len) (value := value) (b01 false) 0 (nI 0) 2 62 false (q := q) hV hl
              exact ⟨p', e1, e2⟩
            · have g1 : ¬ ag = 0 := by omega
              simp only [h3, if_true, h4, if_false, and_false, false_and, show ¬ (1 : Nat) = 0 from by decide]
              unfold f_Mo_onePart_265
              rw [if_neg (by decide)]
              rw [h3] at e91 e92
              refine ⟨p9, e91.trans ?_, ?_⟩
              · by_cases h6 : bl c = true
                · simp only [h6, if_true]
                · simp only [h6, if_false]
                  rfl
              · by_cases h6 : bl c = true
                · simp only [h6, if_true] at e92 ⊢
                  exact e92
                · simp only [h6, if_false] at e92 ⊢
                  exact e92
          · simp only [h3, if_false, and_false]
            unfold f_Mo_onePart_265
            simp only [a0]
            by_cases h5 : ag = 0
            · by_cases h4 : c = 60
              · simp only [h5, h4, if_true, and_self]
                obtain ⟨p', e1, e2⟩ := one304 N r (len := len) (value := value) (b01 false) 1 (nI 0) 1 60 false (q := q) (VR_nil part) (by decide)
                exact ⟨p', e1, e2⟩
              · simp only [h5, h4, if_true, if_false, false_and]
                rw [h5] at e91 e92
                refine ⟨p9, e91.trans ?_, ?_⟩
                · by_cases h6 : bl c = true
                  · simp only [h6, if_true]
                  · simp only [h6, if_false]
                    rfl
                · by_cases h6 : bl c = true
                  · simp only [h6, if_true] at e92 ⊢
                    exact e92
                  · simp only [h6, if_false] at e92 ⊢
                    exact e92
            · simp only [h5, if_false, and_false]
              refine ⟨p9, e91.trans ?_, ?_⟩
              · by_cases h6 : bl c = true
                · simp only [h6, if_true]
                · simp only [h6, if_false]
                  rfl
              · by_cases h6 : bl c = true
                · simp only [h6, if_true] at e92 ⊢
                  exact e92
                · simp only [h6, if_false] at e92 ⊢
                  exact e92
    · rw [if_neg (nI_nle (by omega) (by omega))]
      unfold stepP
      have ek : kp ag dp = false := by unfold kp; simp [hd0]
      rw [if_pos (show 0 < dp by omega), ek]
      unfold f_Mo_onePart_209
      simp only [Bool.false_eq_true, if_false]
      by_cases h1 : c = 40
      · have g1 : ¬ (40 : Int32) = 92 := by decide
        simp only [h1, g1, if_true, if_false]
        obtain ⟨p', e1, e2⟩ := one304 N r (len := len) (value := value) (b01 false) (fl ag) (nI dp + 1) (nI ag) 40 false (q := q) hV hl
        rw [nI_1 dp] at e1
        exact ⟨p', by rw [nI_1 dp]; exact e1, e2⟩
      · simp only [h1, if_false]
        by_cases h2 : c = 41
        · have g1 : ¬ (41 : Int32) = 92 := by decide
          simp only [h2, g1, if_true, if_false]
          obtain ⟨p', e1, e2⟩ := one304 N r (len := len) (value := value) (b01 false) (fl ag) (nI dp + -1) (nI ag) 41 false (q := q) hV hl
          have e3 : nI dp + -1 = nI (dp - 1) := by
            have := pk_m1 (dp - 1)
            rw [show dp - 1 + 1 = dp by omega] at this
            exact this
          rw [e3] at e1
          exact ⟨p', by rw [e3]; exact e1, e2⟩
        · simp only [h2, if_false]
          obtain ⟨p', e1, e2⟩ := one304 N r (len := len) (value := value) (b01 false) (fl ag) (nI dp + 0) (nI ag) c false (q := q) hV hl
          have e3 : nI dp + 0 = nI dp := nI_add dp 0
          rw [e3] at e1
          refine ⟨p', ?_⟩
          by_cases h3 : c = 92
          · simp only [h3, if_true] at e1 e2 ⊢
            rw [e3]
            exact ⟨e1, e2⟩
          · simp only [h3, if_false] at e1 e2 ⊢
            rw [e3]
            exact ⟨e1, e2⟩
end ONE
