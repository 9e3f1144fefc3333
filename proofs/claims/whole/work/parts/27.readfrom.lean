/-! PURE SIDE 8: all fields -/
def nmsF (t : Nat → Int32) (n k : Nat) : List (List Int32) := (List.range k).map (fun i => seg t (fpos t n i) (nEnd t n (fpos t n i)))
def valsF (t : Nat → Int32) (n k : Nat) : List (List Int32) := (List.range k).map (fun i => valF t n (fpos t n i))
theorem nmsF_len (t : Nat → Int32) (n k : Nat) : (nmsF t n k).length = k := by simp [nmsF]
theorem valsF_len (t : Nat → Int32) (n k : Nat) : (valsF t n k).length = k := by simp [valsF]
theorem nmsF_succ (t : Nat → Int32) (n k : Nat) : nmsF t n (k + 1) = nmsF t n k ++ [seg t (fpos t n k) (nEnd t n (fpos t n k))] := by simp [nmsF, List.range_succ]
theorem valsF_succ (t : Nat → Int32) (n k : Nat) : valsF t n (k + 1) = valsF t n k ++ [valF t n (fpos t n k)] := by simp [valsF, List.range_succ]
theorem nmsF_at {t : Nat → Int32} {n k i : Nat} (h : i < k) : (nmsF t n k).getD i [] = seg t (fpos t n i) (nEnd t n (fpos t n i)) := by
  simp [nmsF, List.getD_eq_getElem?_getD, h]
theorem valsF_at {t : Nat → Int32} {n k i : Nat} (h : i < k) : (valsF t n k).getD i [] = valF t n (fpos t n i) := by
  simp [valsF, List.getD_eq_getElem?_getD, h]
theorem totF {t : Nat → Int32} {n m : Nat} (hn : n ≤ 300) (h : ∀ k, k < m → isF t n (fpos t n k) = true) : ∀ k, k ≤ m → tot (nmsF t n k) ≤ fpos t n k ∧ tot (valsF t n k) + k ≤ fpos t n k := by
  intro k
  induction k with
  | zero => intro _; simp [nmsF, valsF, tot]
  | succ k ih =>
    intro hk
    have h1 := ih (by omega)
    have h2 := fpos_le hn h k (by omega)
    have h3 := behF_le hn h2.1 (h k (by omega))
    have h4 := isF_spec h2.1 (h k (by omega))
    have h5 : cEnd t n (fpos t n k) + 1 ≤ behF t n (fpos t n k) := by
      have b2 := nextL_le (t := t) (show cEnd t n (fpos t n k) + 1 ≤ n by omega)
      have c1 := (sCont_le t n 300 (nextL t n (cEnd t n (fpos t n k) + 1)) (seg t (cEnd t n (fpos t n k) + 1) (lEnd t n (cEnd t n (fpos t n k) + 1))) b2.2).1
      show _ ≤ (sCont t n 300 (nextL t n (cEnd t n (fpos t n k) + 1)) (seg t (cEnd t n (fpos t n k) + 1) (lEnd t n (cEnd t n (fpos t n k) + 1)))).1
      omega
    have h6 : (valF t n (fpos t n k)).length ≤ (rawF t n (fpos t n k)).2.length := trimL_le _
    rw [nmsF_succ, valsF_succ, tot_app, tot_app, seg_len]
    show _ ≤ behF t n (fpos t n k) ∧ _ ≤ behF t n (fpos t n k)
    omega
theorem pq_readFrom21 (N : Nat) (hN : 400 ≤ N) {t mrow : Nat → Int32} {n m : Nat} (hn : n ≤ 300) (hM : MeR mrow t n) (hB : ∀ j, j < n → isB (t j)) (hm : Cnt t n m) : ∀ d k f ns nos nol nrow nst nle vs vos vol vrow vst vle, d + k = m → d + 1 < f → TX ns nos nol nrow nst nle (nmsF t n k) [] → TX vs vos vol vrow vst vle (valsF t n k) [] →
    ∃ ns' nos' nol' nrow' nst' nle' vs' vos' vol' vrow' vst' vle', f_He_readFrom_21 N (nI n) mrow f (nI k) (nI (fpos t n k)) ns nos nol nrow nst nle vs vos vol vrow vst vle = some (nI (fpos t n m), ns', nos', nol', nrow', nst', nle', vs', vos', vol', vrow', vst', vle') ∧ TX ns' nos' nol' nrow' nst' nle' (nmsF t n m) [] ∧ TX vs' vos' vol' vrow' vst' vle' (valsF t n m) [] := by
  have h75 := Cnt_75 hn hm
  intro d
  induction d with
  | zero =>
    intro k f ns nos nol nrow nst nle vs vos vol vrow vst vle hk hf hTn hTv
    obtain ⟨f, rfl⟩ : ∃ g, f = g + 1 := ⟨f - 1, by omega⟩
    rw [show k = m by omega] at hTn hTv ⊢
    have hp := (fpos_le hn hm.1 m (Nat.le_refl _)).1
    have ht := totF hn hm.1 m (Nat.le_refl _)
    have e1 := (pq_readField hN hn hp hM hB (by rw [nmsF_len]; omega) ht.1 hTn (by rw [valsF_len]; omega) hTv (by omega)).1 hm.2
    rw [f_He_readFrom_21, if_neg (by rw [pq_100]; exact nI_ge (by omega) (by omega)), e1]
    simp only [Option.bind_some]
    rw [if_pos trivial]
    exact ⟨_, _, _, _, _, _, _, _, _, _, _, _, rfl, hTn, hTv⟩
  | succ d ih =>
    intro k f ns nos nol nrow nst nle vs vos vol vrow vst vle hk hf hTn hTv
    obtain ⟨f, rfl⟩ : ∃ g, f = g + 1 := ⟨f - 1, by omega⟩
    have hp := (fpos_le hn hm.1 k (by omega)).1
    have ht := totF hn hm.1 k (by omega)
    have hp2 := (fpos_le hn hm.1 (k + 1) (by omega)).1
    obtain ⟨ns', nos', nol', nrow', nst', nle', vs', vos', vol', vrow', vst', vle', e1, e2, e3⟩ := (pq_readField hN hn hp hM hB (by rw [nmsF_len]; omega) ht.1 hTn (by rw [valsF_len]; omega) hTv (by omega)).2 (hm.1 k (by omega))
    rw [f_He_readFrom_21, if_neg (by rw [pq_100]; exact nI_ge (by omega) (by omega)), e1]
    simp only [Option.bind_some]
    have hp3 : behF t n (fpos t n k) ≤ n := hp2
    rw [if_neg (by rw [pq_ne1 (by omega)]; exact id), nI_1]
    rw [← nmsF_succ] at e2
    rw [← valsF_succ] at e3
    exact ih (k + 1) f ns' nos' nol' nrow' nst' nle' vs' vos' vol' vrow' vst' vle' (by omega) (by omega) e2 e3
theorem pq_readFrom {N : Nat} (hN : 400 ≤ N) {t mrow : Nat → Int32} {n m : Nat} (hn : n ≤ 300) (hM : MeR mrow t n) (hB : ∀ j, j < n → isB (t j)) (hm : Cnt t n m) (en ns nos nol : Int32) (nrow nst nle : Nat → Int32) (vs vos vol : Int32) (vrow vst vle : Nat → Int32) :
    ∃ ns' nos' nol' nrow' nst' nle' vs' vos' vol' vrow' vst' vle', f_He_readFrom N en ns nos nol nrow nst nle vs vos vol vrow vst vle (nI n) mrow = some (nI (fpos t n m), ns', nos', nol', nrow', nst', nle', vs', vos', vol', vrow', vst', vle') ∧ TX ns' nos' nol' nrow' nst' nle' (nmsF t n m) [] ∧ TX vs' vos' vol' vrow' vst' vle' (valsF t n m) [] := by
  have h75 := Cnt_75 hn hm
  unfold f_He_readFrom f_Te_clear
  simp only [Option.bind_some]
  exact pq_readFrom21 N hN hn hM hB hm m 0 N 0 0 0 nrow nst nle 0 0 0 vrow vst vle (by omega) (by omega) (TX_new _ _ _) (TX_new _ _ _)
