theorem m_13 : (Cond.classLink "HeaderDeskLaw" (7 : Nat) "HeaderDesk") ∈ wAll := List.mem_filter.mpr ⟨List.mem_append_right _ (List.mem_of_getElem? (i := 13) (by decide +kernel)), by decide +kernel⟩
theorem m_14 : (Cond.instantiable "HeaderDesk" (3 : Nat)) ∈ wAll := List.mem_filter.mpr ⟨List.mem_append_right _ (List.mem_of_getElem? (i := 14) (by decide +kernel)), by decide +kernel⟩
theorem m_15 : (Cond.methodLink "HeaderDeskLaw" (9 : Nat) ({ cls := "HeaderDesk", name := "<init>", desc := "()V" } : Jvm.MethodName)) ∈ wAll := List.mem_filter.mpr ⟨List.mem_append_right _ (List.mem_of_getElem? (i := 15) (by decide +kernel)), by decide +kernel⟩
theorem m_411 : (Cond.classLink "HeaderDeskLaw" (10 : Nat) "HeaderDeskModel") ∈ wAll := List.mem_filter.mpr ⟨List.mem_append_right _ (List.mem_of_getElem? (i := 411) (by decide +kernel)), by decide +kernel⟩
theorem m_412 : (Cond.instantiable "HeaderDeskModel" (12 : Nat)) ∈ wAll := List.mem_filter.mpr ⟨List.mem_append_right _ (List.mem_of_getElem? (i := 412) (by decide +kernel)), by decide +kernel⟩
theorem m_413 : (Cond.methodLink "HeaderDeskLaw" (12 : Nat) ({ cls := "HeaderDeskModel", name := "<init>", desc := "()V" } : Jvm.MethodName)) ∈ wAll := List.mem_filter.mpr ⟨List.mem_append_right _ (List.mem_of_getElem? (i := 413) (by decide +kernel)), by decide +kernel⟩
theorem d_Lw_law_0 : decode code 0 = .ok (.new 7, 3) := by decide +kernel
theorem d_Lw_law_3 : decode code 3 = .ok (.dup, 1) := by decide +kernel
theorem d_Lw_law_4 : decode code 4 = .ok (.invokespecial 9, 3) := by decide +kernel
theorem d_Lw_law_7 : decode code 7 = .ok (.astore_n 1, 1) := by decide +kernel
theorem d_Lw_law_8 : decode code 8 = .ok (.new 10, 3) := by decide +kernel
theorem d_Lw_law_11 : decode code 11 = .ok (.dup, 1) := by decide +kernel
theorem d_Lw_law_12 : decode code 12 = .ok (.invokespecial 12, 3) := by decide +kernel
theorem d_Lw_law_15 : decode code 15 = .ok (.astore_n 2, 1) := by decide +kernel
theorem d_Lw_law_16 : decode code 16 = .ok (.iconst 0, 1) := by decide +kernel
theorem d_Lw_law_17 : decode code 17 = .ok (.istore_n 3, 1) := by decide +kernel
set_option maxRecDepth 100000 in
theorem start_K {p : Program} {s : State} {m : MethodId} {meth : Method} {c : Code} {b L : Nat} {xs : Nat → Int32} (C0 : lw_At p s m meth c b L xs) : ∃ (dC : Nat → ClassId) (dI : Nat → Nat → Nat) (cB cI : ClassId) (aK aV : Nat → Nat), kx (dC, dI) cB cI aK aV (fun q : Nat => s.heap.size ≤ q) s := by
  obtain ⟨hx, hb, hr, hml, hown, hts0, hX, hbl, hlk, hgv⟩ := id C0
  have hts : ∀ w ∈ wAll, w.before #[Value.ref b] s = true := fun w hw => hts0 w (List.mem_filter.mp hw).1
  have hs := flat_of_before _ hgv
  obtain ⟨c0, iS0, hKn0⟩ := u_known (C := R_Ad) (T := F_Ad) (N := 9) (n := 9) hts in_Ad (hts _ m_87)
  obtain ⟨c1, iS1, hKn1⟩ := u_known (C := R_He) (T := F_He) (N := 3) (n := 3) hts in_He (hts _ m_38)
  obtain ⟨c2, iS2, hKn2⟩ := u_known (C := R_Me) (T := F_Me) (N := 2) (n := 2) hts in_Me (hts _ m_22)
  obtain ⟨c3, iS3, hKn3⟩ := u_known (C := R_Te) (T := F_Te) (N := 6) (n := 6) hts in_Te (hts _ m_44)
  obtain ⟨c4, iS4, hKn4⟩ := u_known (C := R_De) (T := F_De) (N := 3) (n := 3) hts in_De (hts _ m_14)
  obtain ⟨c5, iS5, hKn5⟩ := u_known (C := R_Mo) (T := F_Mo) (N := 12) (n := 12) hts in_Mo (hts _ m_412)
  obtain ⟨dC, dI, hKc⟩ : ∃ (dC : Nat → ClassId) (dI : Nat → Nat → Nat), ∀ (k : Nat) (q : vw_C), classes[k]? = some q → u_Kn s q.1 q.2.1 q.2.2 (dC k) (dI k) := by
    refine ⟨fun k => if k = 0 then c0 else if k = 1 then c1 else if k = 2 then c2 else if k = 3 then c3 else if k = 4 then c4 else c5, fun k => if k = 0 then iS0 else if k = 1 then iS1 else if k = 2 then iS2 else if k = 3 then iS3 else if k = 4 then iS4 else iS5, ?_⟩
    intro k q hq
    match k, hq with
    | 0, hq => cases hq; exact hKn0
    | 1, hq => cases hq; exact hKn1
    | 2, hq => cases hq; exact hKn2
    | 3, hq => cases hq; exact hKn3
    | 4, hq => cases hq; exact hKn4
    | 5, hq => cases hq; exact hKn5
    | k + 6, hq => simp [classes] at hq
  obtain ⟨cB, kB, compB, b1, b2, b3⟩ := Cond.arrayClass_spec (hts _ m_36)
  obtain ⟨cI, kI, compI, i1, i2, i3⟩ := Cond.arrayClass_spec (hts _ m_72)
  have hA : ∀ a : Nat, a < s.heap.size → ¬ (fun q : Nat => s.heap.size ≤ q) a := fun a h => Nat.not_le.mpr h
  obtain ⟨aK, aV, hV, hE⟩ := vk_Sof (args := #[Value.ref b]) (s := s) (N := strN) (tm := (fun i => if i = 0 then Term.string "HeaderDesk$Addresses" 101 else Term.string "HeaderDesk$Addresses" 107)) (len := strLen) (byt := strByt) (A := fun q : Nat => s.heap.size ≤ q) (by decide +kernel)
    (fun i hi => by rcases (show i = 0 ∨ i = 1 from by unfold strN at hi; omega) with rfl | rfl <;> exact hs _ (by decide +kernel))
    (fun i hi => by rcases (show i = 0 ∨ i = 1 from by unfold strN at hi; omega) with rfl | rfl <;> exact hs _ (by decide +kernel))
    (fun i hi => by rcases (show i = 0 ∨ i = 1 from by unfold strN at hi; omega) with rfl | rfl <;> exact hs _ (by decide +kernel))
    (fun i hi => by rcases (show i = 0 ∨ i = 1 from by unfold strN at hi; omega) with rfl | rfl <;> exact hs _ (by decide +kernel))
    (fun i hi => by
      rcases (show i = 0 ∨ i = 1 from by unfold strN at hi; omega) with rfl | rfl
      · exact fun j hj => hs _ ((by decide +kernel : ∀ j, j < strLen.getD 0 0 → (Cond.eq (.elem (.field ((fun i => if i = 0 then Term.string "HeaderDesk$Addresses" 101 else Term.string "HeaderDesk$Addresses" 107) 0) "java/lang/String" "value" "[B") (.int (Int32.ofNat j))) (.int ((strByt.getD 0 []).getD j 0))) ∈ flatC (Jvm.Cond.and given_1 narrow_1)) j hj)
      · exact fun j hj => hs _ ((by decide +kernel : ∀ j, j < strLen.getD 1 0 → (Cond.eq (.elem (.field ((fun i => if i = 0 then Term.string "HeaderDesk$Addresses" 101 else Term.string "HeaderDesk$Addresses" 107) 1) "java/lang/String" "value" "[B") (.int (Int32.ofNat j))) (.int ((strByt.getD 1 []).getD j 0))) ∈ flatC (Jvm.Cond.and given_1 narrow_1)) j hj))
    (fun i j hi hj hij => by
      rcases (show i = 0 ∨ i = 1 from by unfold strN at hi; omega) with rfl | rfl <;> rcases (show j = 0 ∨ j = 1 from by unfold strN at hj; omega) with rfl | rfl
      · exact absurd rfl hij
      · exact Or.inl (hs _ (by decide +kernel))
      · exact Or.inr (hs _ (by decide +kernel))
      · exact absurd rfl hij) hA
  refine ⟨dC, dI, cB, cI, aK, aV, ⟨hKc, fun k q h => ?_⟩, nx_of hts0, hV, fun q hq => ?_, ?_⟩
  · match k, h with
    | 0, h => cases h; exact ⟨fun n z => ⟨fun k h => (by cases h), kB, b2, compB, b3⟩, b1⟩
    | 1, h => cases h; exact ⟨fun n z => ⟨fun k h => (by cases h), kI, i2, compI, i3⟩, i1⟩
    | k + 2, h => simp at h
  · rcases List.mem_cons.mp hq with rfl | hq
    · exact vk_R.of (A := #[Value.ref b]) (hts0 _ (List.mem_append_right _ (List.mem_of_getElem? (i := 248) (by decide +kernel)))) (hE 0 (by decide))
    · rcases List.mem_cons.mp hq with rfl | hq
      · exact vk_R.of (A := #[Value.ref b]) (hts0 _ (List.mem_append_right _ (List.mem_of_getElem? (i := 343) (by decide +kernel)))) (hE 1 (by decide))
      · exact absurd hq List.not_mem_nil
  · exact va_Zof (hts0 _ (List.mem_append_right _ (List.mem_of_getElem? (i := 272) (by decide +kernel)))) (hts _ m_8) (va_eqi (hs _ (by decide +kernel))) hA
