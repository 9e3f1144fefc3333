/-! PURE SIDE 19: eight bytes; names alike -/
theorem sub_toInt {a b : Nat} (ha : a ≤ 1000) (hb : b < 2 ^ 31) : (nI a - nI b).toInt = (a : Int) - b := by
  rw [Int32.toInt_sub, nI_toInt (by omega), nI_toInt hb]
  exact Int.bmod_eq_of_le (by omega) (by omega)
def e8 (w : List Int32) (k : Nat) : Nat → Nat → Int64 → Int64
  | 0, _, acc => acc
  | d + 1, i, acc => e8 w k d (i + 1) ((acc <<< ((8 : Int32).toInt64 &&& 63)) ||| ((if k + i < w.length then at0 w (k + i) else 0).toInt64))
theorem pq_eight5 (N : Nat) {w : List Int32} {row : Nat → Int32} (hV : VR row w) (hl : w.length ≤ 300) {k : Nat} (hk : k < 2 ^ 31) : ∀ d i f acc, i + d = 8 → d < f → f_Mo_eight_5 N (nI w.length) (nI k) row f acc (nI i) = some (e8 w k d i acc) := by
  intro d
  induction d with
  | zero =>
    intro i f acc hi hf
    obtain ⟨f, rfl⟩ : ∃ g, f = g + 1 := ⟨f - 1, by omega⟩
    rw [f_Mo_eight_5, if_pos (by rw [pq_8]; exact nI_le (by omega) (by omega))]
    rfl
  | succ d ih =>
    intro i f acc hi hf
    obtain ⟨f, rfl⟩ : ∃ g, f = g + 1 := ⟨f - 1, by omega⟩
    rw [f_Mo_eight_5, if_neg (by rw [pq_8]; exact nI_ge (by omega) (by omega)), nI_1]
    have hc : ((nI w.length - nI i) ≤ nI k) = ¬ (k + i < w.length) := by
      apply propext
      rw [Int32.le_iff_toInt_le, sub_toInt (by omega) (by omega), nI_toInt hk]
      omega
    simp only [hc]
    rw [show e8 w k (d + 1) i acc = e8 w k d (i + 1) ((acc <<< ((8 : Int32).toInt64 &&& 63)) ||| ((if k + i < w.length then at0 w (k + i) else 0).toInt64)) from rfl]
    by_cases h1 : k + i < w.length
    · rw [if_neg (by simpa using h1), nI_add, if_pos h1]
      simp (disch := omega) only [pq_in, nI_clamp]
      have hr : row (k + i) = at0 w (k + i) := hV _ h1
      rw [if_pos (by omega), hr]
      exact ih (i + 1) f _ (by omega) (by omega)
    · rw [if_pos h1, if_neg h1]
      exact ih (i + 1) f _ (by omega) (by omega)
theorem pq_eight {w : List Int32} {row : Nat → Int32} (hV : VR row w) (hl : w.length ≤ 300) {k : Nat} (hk : k < 2 ^ 31) : f_Mo_eight lawN (nI w.length) (nI k) row = some (e8 w k 8 0 0) := by
  unfold f_Mo_eight
  exact pq_eight5 lawN hV hl hk 8 0 lawN 0 (by omega) (by have := lawN_ge; omega)
section E8
variable {vs vos vol : Int32} {vrow vst vle : Nat → Int32} {Ts : List (List Int32)} {op : List Int32}
theorem TX_at_len (h : TX vs vos vol vrow vst vle Ts op) {i : Nat} (hi : i < Ts.length) : (Ts.getD i []).length ≤ 300 := by
  have h4 := h.2.2.2.1
  obtain ⟨a, e1, e2, e3, e4⟩ := h.2.2.2.2.2.1 i hi
  omega
theorem pq_eightC (h : TX vs vos vol vrow vst vle Ts op) {i : Nat} (hi : i < Ts.length) {k : Nat} (hk : k < 2 ^ 31) : ∀ d j f acc, j + d = 8 → d < f → f_Te_eightBytes_31 lawN (nI i) (nI k) vs vrow vst vle f (nI (Ts.getD i []).length - nI k) acc (nI j) = some (e8 (Ts.getD i []) k d j acc) := by
  have h5 := h.2.2.2.2.1
  have hl := TX_at_len h hi
  intro d
  induction d with
  | zero =>
    intro j f acc hj hf
    obtain ⟨f, rfl⟩ : ∃ g, f = g + 1 := ⟨f - 1, by omega⟩
    rw [f_Te_eightBytes_31, if_pos (by rw [pq_8]; exact nI_le (by omega) (by omega))]
    rfl
  | succ d ih =>
    intro j f acc hj hf
    obtain ⟨f, rfl⟩ : ∃ g, f = g + 1 := ⟨f - 1, by omega⟩
    rw [f_Te_eightBytes_31, if_neg (by rw [pq_8]; exact nI_ge (by omega) (by omega)), nI_1]
    have hc : ((nI (Ts.getD i []).length - nI k) ≤ nI j) = ¬ (k + j < (Ts.getD i []).length) := by
      apply propext
      rw [Int32.le_iff_toInt_le, sub_toInt (by omega) hk, nI_toInt (by omega)]
      omega
    simp only [hc]
    rw [show e8 (Ts.getD i []) k (d + 1) j acc = e8 (Ts.getD i []) k d (j + 1) ((acc <<< ((8 : Int32).toInt64 &&& 63)) ||| ((if k + j < (Ts.getD i []).length then at0 (Ts.getD i []) (k + j) else 0).toInt64)) from rfl]
    by_cases h1 : k + j < (Ts.getD i []).length
    · rw [if_neg (by simpa using h1), nI_add, if_pos h1, TX_byteAt lawN h hi h1]
      exact ih (j + 1) f _ (by omega) (by omega)
    · rw [if_pos h1, if_neg h1]
      exact ih (j + 1) f _ (by omega) (by omega)
theorem pq_eightBytes (h : TX vs vos vol vrow vst vle Ts op) {i k : Nat} (hi : i < 2 ^ 31) (hk : k < 2 ^ 31) : f_Te_eightBytes lawN (nI i) (nI k) vs vrow vst vle = some (if i < Ts.length then e8 (Ts.getD i []) k 8 0 0 else -1) := by
  have h5 := h.2.2.2.2.1
  unfold f_Te_eightBytes
  rw [TX_has lawN h hi]
  simp only [Option.bind_some]
  rw [b01_0]
  by_cases h1 : i < Ts.length
  · obtain ⟨a, e1, e2, e3, e4⟩ := h.2.2.2.2.2.1 i h1
    rw [if_pos (by simp [h1]), if_pos h1, if_pos (nI_pos' hk)]
    simp (disch := omega) only [pq_in, nI_clamp]
    rw [if_pos (by omega), e2]
    exact pq_eightC h h1 hk 8 0 lawN 0 (by omega) (by have := lawN_ge; omega)
  · rw [if_neg (by simp [h1]), if_neg h1]
theorem has_neg (N : Nat) {x : Int32} (hx : x < 0) (v : Int32) : f_Te_has N x v = some 0 := by
  unfold f_Te_has
  rw [if_pos hx]
theorem eight_negI {x : Int32} (hx : x < 0) (k v : Int32) (a b c : Nat → Int32) : f_Te_eightBytes lawN x k v a b c = some (-1) := by
  unfold f_Te_eightBytes
  rw [has_neg lawN hx]
  rfl
theorem eight_negK (h : TX vs vos vol vrow vst vle Ts op) {i : Nat} (hi : i < 2 ^ 31) {k : Int32} (hk : k < 0) : f_Te_eightBytes lawN (nI i) k vs vrow vst vle = some (-1) := by
  unfold f_Te_eightBytes
  rw [TX_has lawN h hi]
  simp only [Option.bind_some]
  rw [b01_0]
  split
  · rw [if_neg (Int32.not_le.mpr hk)]
  · rfl
set_option maxRecDepth 100000 in
theorem low_byte : ∀ b, b < 256 → f_De_lowered 0 (nI b) = f_Mo_low 0 (nI b) ∧ ∃ r, f_Mo_low 0 (nI b) = some r := by
  intro b hb
  refine ⟨?_, ?_⟩
  · exact (by decide +kernel : ∀ b, b < 256 → f_De_lowered 0 (nI b) = f_Mo_low 0 (nI b)) b hb
  · unfold f_Mo_low
    repeat' split
    all_goals exact ⟨_, rfl⟩
def lowS (c : Int32) : Int32 := if c < 65 then c else if 90 < c then c else c + 32
theorem pq_low (N : Nat) (c : Int32) : f_Mo_low N c = some (lowS c) := by
  unfold f_Mo_low lowS
  repeat' split
  all_goals first | rfl | omega | simp_all
theorem pq_lowered (N : Nat) {c : Int32} (h : isB c) : f_De_lowered N c = some (lowS c) := by
  obtain ⟨b, hb, rfl⟩ := h
  have := (low_byte b hb).1
  rw [pq_low] at this
  exact this
/-- two texts alike, A .. Z like a .. z -/
def alike (u w : List Int32) : Nat → Nat → Bool
  | 0, _ => true
  | d + 1, k => if lowS (at0 u k) = lowS (at0 w k) then alike u w d (k + 1) else false
def sameN (u w : List Int32) : Bool := decide (u.length = w.length) && alike u w u.length 0
theorem pq_alike20 (h : TX vs vos vol vrow vst vle Ts op) (hB : ∀ i, i < Ts.length → allB (Ts.getD i [])) {i j : Nat} (hi : i < Ts.length) (hj : j < Ts.length) (hl : (Ts.getD i []).length = (Ts.getD j []).length) : ∀ d k f, k + d = (Ts.getD i []).length → d < f → f_Te_areAlike_20 lawN (nI i) (nI j) vs vrow vst vle f (nI (Ts.getD i []).length) (nI k) = some (b01 (alike (Ts.getD i []) (Ts.getD j []) d k)) := by
  have h3 := TX_at_len h hi
  intro d
  induction d with
  | zero =>
    intro k f hk hf
    obtain ⟨f, rfl⟩ : ∃ g, f = g + 1 := ⟨f - 1, by omega⟩
    rw [f_Te_areAlike_20, if_pos (nI_le (by omega) (by omega))]
    rfl
  | succ d ih =>
    intro k f hk hf
    obtain ⟨f, rfl⟩ : ∃ g, f = g + 1 := ⟨f - 1, by omega⟩
    rw [f_Te_areAlike_20, if_neg (nI_ge (by omega) (by omega)), TX_byteAt lawN h hi (show k < (Ts.getD i []).length by omega), nI_1]
    simp only [Option.bind_some]
    rw [pq_lowered lawN (hB i hi k (by omega)), TX_byteAt lawN h hj (show k < (Ts.getD j []).length by omega)]
    simp only [Option.bind_some]
    rw [pq_lowered lawN (hB j hj k (by omega))]
    simp only [Option.bind_some]
    unfold alike
    by_cases h1 : lowS (at0 (Ts.getD i []) k) = lowS (at0 (Ts.getD j []) k)
    · rw [if_pos h1, if_pos h1]
      exact ih (k + 1) f (by omega) (by omega)
    · rw [if_neg h1, if_neg h1]
      rfl
theorem pq_areAlike (h : TX vs vos vol vrow vst vle Ts op) (hB : ∀ i, i < Ts.length → allB (Ts.getD i [])) {i j : Nat} (hi : i < Ts.length) (hj : j < Ts.length) : f_Te_areAlike lawN (nI i) (nI j) vs vrow vst vle = some (b01 (sameN (Ts.getD i []) (Ts.getD j []))) := by
  have h3 := TX_at_len h hi
  have h4 := TX_at_len h hj
  unfold f_Te_areAlike
  rw [TX_lengthOf lawN h hi, TX_lengthOf lawN h hj]
  simp only [Option.bind_some]
  simp (disch := omega) only [pq_eq]
  unfold sameN
  by_cases h1 : (Ts.getD i []).length = (Ts.getD j []).length
  · rw [if_pos h1, show decide ((Ts.getD i []).length = (Ts.getD j []).length) = true from decide_eq_true h1, Bool.true_and]
    exact pq_alike20 h hB hi hj h1 _ 0 lawN (by omega) (by have := lawN_ge; omega)
  · rw [if_neg h1, show decide ((Ts.getD i []).length = (Ts.getD j []).length) = false from decide_eq_false h1]
    rfl
end E8
