/-! PURE SIDE 5: the fields one behind the other; the reference's look -/
def fpos (t : Nat → Int32) (n : Nat) : Nat → Nat
  | 0 => 0
  | i + 1 => behF t n (fpos t n i)
/-- m fields -/
def Cnt (t : Nat → Int32) (n m : Nat) : Prop := (∀ k, k < m → isF t n (fpos t n k) = true) ∧ isF t n (fpos t n m) = false
theorem fpos_le {t : Nat → Int32} {n m : Nat} (hn : n ≤ 300) (h : ∀ k, k < m → isF t n (fpos t n k) = true) : ∀ k, k ≤ m → fpos t n k ≤ n ∧ 2 * k ≤ fpos t n k := by
  intro k
  induction k with
  | zero => intro _; simp [fpos]
  | succ k ih =>
    intro hk
    have h1 := ih (by omega)
    have h2 := behF_le hn h1.1 (h k (by omega))
    show behF t n (fpos t n k) ≤ n ∧ _ ≤ behF t n (fpos t n k)
    omega
theorem Cnt_ex {t : Nat → Int32} {n : Nat} (hn : n ≤ 300) : ∃ m, Cnt t n m := by
  have : ∃ k, isF t n (fpos t n k) = false := by
    by_cases h : ∃ k, isF t n (fpos t n k) = false
    · exact h
    · have h1 : ∀ k, isF t n (fpos t n k) = true := fun k => by
        cases hk : isF t n (fpos t n k) with
        | true => rfl
        | false => exact absurd ⟨k, hk⟩ h
      have h2 := fpos_le (m := 400) hn (fun k _ => h1 k) 400 (Nat.le_refl _)
      omega
  obtain ⟨m, hm, hl⟩ := pk_least _ this
  refine ⟨m, fun k hk => ?_, hm⟩
  cases h : isF t n (fpos t n k) with
  | true => rfl
  | false => exact absurd h (hl k hk)
theorem fpos4 {t : Nat → Int32} {n m : Nat} (hn : n ≤ 300) (h : ∀ k, k < m → isF t n (fpos t n k) = true) : ∀ k, k < m → 4 * k ≤ fpos t n k := by
  intro k
  induction k with
  | zero => intro _; omega
  | succ k ih =>
    intro hk
    have h1 := ih (by omega)
    have h2 := fpos_le hn h k (by omega)
    have h3 := behF_le hn h2.1 (h k (by omega))
    have h4 := isF_lt (fpos_le hn h (k + 1) (by omega)).1 (h (k + 1) hk)
    have h5 := (h3.2.2.2 h4).1
    show 4 * (k + 1) ≤ behF t n (fpos t n k)
    omega
theorem Cnt_75 {t : Nat → Int32} {n m : Nat} (hn : n ≤ 300) (h : Cnt t n m) : m ≤ 75 := by
  cases m with
  | zero => omega
  | succ m =>
    have h1 := fpos4 hn h.1 m (by omega)
    have h2 := fpos_le hn h.1 m (by omega)
    have h3 := behF_le hn h2.1 (h.1 m (by omega))
    omega
/-- what look leaves behind when it has found field i | when there is none -/
def LookOk (t : Nat → Int32) (n i : Nat) (z : Int32 × Int32 × Int32 × Int32 × Int32 × (Nat → Int32)) : Prop := ∃ value', z = (1, nI (fpos t n i), nI (nEnd t n (fpos t n i) - fpos t n i), nI (valF t n (fpos t n i)).length, nI (fpos t n (i + 1)), value') ∧ VR value' (valF t n (fpos t n i))
def LookNo (t : Nat → Int32) (n m : Nat) (z : Int32 × Int32 × Int32 × Int32 × Int32 × (Nat → Int32)) : Prop := ∃ a b c value', z = (0, a, b, c, nI (fpos t n m), value')
theorem pq_look7 (N : Nat) (hN : 400 ≤ N) {t text : Nat → Int32} {n m i : Nat} (hn : n ≤ 300) (h : ∀ j, j < n → text j = t j) (hm : Cnt t n m) (hi : i < 2 ^ 31) : ∀ d k f nf nm vs value, d + k = m → d + 1 < f → k ≤ i + 1 → (0 < k → nf = nI (fpos t n (k - 1)) ∧ nm = nI (nEnd t n (fpos t n (k - 1)) - fpos t n (k - 1)) ∧ vs = nI (rawF t n (fpos t n (k - 1))).2.length ∧ VR value (rawF t n (fpos t n (k - 1))).2) →
    ∃ z, f_Mo_look_7 N (nI i) (nI n) text f (nI k) nf nm vs (nI (fpos t n k)) value = some z ∧ (i < m → LookOk t n i z) ∧ (m ≤ i → LookNo t n m z) := by
  have h75 := Cnt_75 hn hm
  intro d
  induction d with
  | zero =>
    intro k f nf nm vs value hk hf hki hst
    obtain ⟨f, rfl⟩ : ∃ g, f = g + 1 := ⟨f - 1, by omega⟩
    have hkm : k = m := by omega
    subst hkm
    have hp := (fpos_le hn hm.1 k (Nat.le_refl _)).1
    rw [f_Mo_look_7]
    by_cases h1 : i < k
    · obtain ⟨s1, s2, s3, s4⟩ := hst (by omega)
      have e1 : k - 1 = i := by omega
      rw [e1] at s1 s2 s3 s4
      have hp2 := fpos_le hn hm.1 i (by omega)
      have hb := behF_le hn hp2.1 (hm.1 i h1)
      obtain ⟨v1, e2, e3⟩ := pq_trim hN (by omega) s4
      rw [if_pos (nI_lt h1 (by omega)), s3, e2]
      refine ⟨_, rfl, fun _ => ⟨v1, ?_, e3⟩, fun q => by omega⟩
      rw [s1, s2, show k = i + 1 by omega]
      rfl
    · rw [if_neg (nI_nlt (by omega) hi)]
      by_cases h2 : fpos t n k < n
      · rw [if_neg (nI_ge h2 (by omega)), pq_colon hN hn h hp, if_neg (show ¬ isF t n (fpos t n k) = true by rw [hm.2]; decide)]
        simp only [Option.bind_some]
        rw [if_neg (by decide)]
        exact ⟨_, rfl, fun q => by omega, fun _ => ⟨_, _, _, _, rfl⟩⟩
      · rw [if_pos (nI_le (by omega) (by omega)), if_neg (by decide)]
        exact ⟨_, rfl, fun q => by omega, fun _ => ⟨_, _, _, _, rfl⟩⟩
  | succ d ih =>
    intro k f nf nm vs value hk hf hki hst
    obtain ⟨f, rfl⟩ : ∃ g, f = g + 1 := ⟨f - 1, by omega⟩
    have hF := hm.1 k (by omega)
    have hp := (fpos_le hn hm.1 k (by omega)).1
    have hp2 := isF_lt hp hF
    rw [f_Mo_look_7]
    by_cases h1 : i < k
    · obtain ⟨s1, s2, s3, s4⟩ := hst (by omega)
      have e1 : k - 1 = i := by omega
      rw [e1] at s1 s2 s3 s4
      have hp3 := fpos_le hn hm.1 i (by omega)
      have hb := behF_le hn hp3.1 (hm.1 i (by omega))
      obtain ⟨v1, e2, e3⟩ := pq_trim hN (by omega) s4
      rw [if_pos (nI_lt h1 (by omega)), s3, e2]
      refine ⟨_, rfl, fun _ => ⟨v1, ?_, e3⟩, fun q => by omega⟩
      rw [s1, s2, show k = i + 1 by omega]
      rfl
    · rw [if_neg (nI_nlt (by omega) hi), if_neg (nI_ge hp2 (by omega)), pq_colon hN hn h hp, if_pos hF]
      simp only [Option.bind_some]
      obtain ⟨a1, a2, a3, a4, a5⟩ := isF_spec hp hF
      rw [if_pos (nI_pos' (by omega)), pq_0]
      obtain ⟨v1, e1, e2⟩ := pq_look55 N hN hn h hp hF (f_Mo_look_7 N (nI i) (nI n) text f) (nI i) (nI k) (nI (fpos t n k)) vs value (nEnd t n (fpos t n k) - fpos t n k) 0 N (by omega) (by omega)
      rw [e1, nI_1]
      exact ih (k + 1) f _ _ _ v1 (by omega) (by omega) (by omega) (fun _ => ⟨rfl, rfl, rfl, e2⟩)
theorem pq_look {N : Nat} (hN : 400 ≤ N) {t text : Nat → Int32} {n m i : Nat} (hn : n ≤ 300) (h : ∀ j, j < n → text j = t j) (hm : Cnt t n m) (hi : i < 2 ^ 31) (nf nm vs bh : Int32) (value : Nat → Int32) :
    ∃ z, f_Mo_look N (nI i) (nI n) nf nm vs bh text value = some z ∧ (i < m → LookOk t n i z) ∧ (m ≤ i → LookNo t n m z) := by
  have h75 := Cnt_75 hn hm
  unfold f_Mo_look
  exact pq_look7 N hN hn h hm hi m 0 N nf nm vs value (by omega) (by omega) (by omega) (fun q => by omega)
theorem pq_fields2 (N : Nat) (hN : 400 ≤ N) {t text : Nat → Int32} {n m : Nat} (hn : n ≤ 300) (h : ∀ j, j < n → text j = t j) (hm : Cnt t n m) : ∀ d k f nf nm vs bh value, d + k = m → d + 1 < f → ∃ a b c value', f_Mo_fields_2 N (nI n) text f (nI k) nf nm vs bh value = some (nI m, a, b, c, nI (fpos t n m), value') := by
  have h75 := Cnt_75 hn hm
  intro d
  induction d with
  | zero =>
    intro k f nf nm vs bh value hk hf
    obtain ⟨f, rfl⟩ : ∃ g, f = g + 1 := ⟨f - 1, by omega⟩
    obtain ⟨z, e1, -, e2⟩ := pq_look hN hn h hm (i := k) (by omega) nf nm vs bh value
    obtain ⟨a, b, c, v, rfl⟩ := e2 (by omega)
    refine ⟨a, b, c, v, ?_⟩
    rw [f_Mo_fields_2, e1]
    simp only [Option.bind_some]
    rw [if_pos trivial, show k = m by omega]
  | succ d ih =>
    intro k f nf nm vs bh value hk hf
    obtain ⟨f, rfl⟩ : ∃ g, f = g + 1 := ⟨f - 1, by omega⟩
    obtain ⟨z, e1, e2, -⟩ := pq_look hN hn h hm (i := k) (by omega) nf nm vs bh value
    obtain ⟨v, rfl, -⟩ := e2 (by omega)
    rw [f_Mo_fields_2, e1]
    simp only [Option.bind_some]
    rw [if_neg (by decide), nI_1]
    exact ih (k + 1) f _ _ _ _ _ (by omega) (by omega)
theorem pq_fields {N : Nat} (hN : 400 ≤ N) {t text : Nat → Int32} {n m : Nat} (hn : n ≤ 300) (h : ∀ j, j < n → text j = t j) (hm : Cnt t n m) (nf nm vs bh : Int32) (value : Nat → Int32) : ∃ a b c value', f_Mo_fields N (nI n) nf nm vs bh text value = some (nI m, a, b, c, nI (fpos t n m), value') := by
  have h75 := Cnt_75 hn hm
  unfold f_Mo_fields
  exact pq_fields2 N hN hn h hm m 0 N nf nm vs bh value (by omega) (by omega)
