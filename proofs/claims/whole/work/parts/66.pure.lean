theorem RR_start : ∃ t, f9_begin 43 4 s00 = some t ∧ RR t := by
  obtain ⟨t, t1, ⟨v0, v1, v3, v4, v10, v12⟩, t2, t3⟩ := e_begin s00 4
  have z : ∀ k, (k = 2 ∨ (4 ≤ k ∧ k ≤ 8) ∨ k = 26 ∨ (45 ≤ k ∧ k ≤ 50) ∨ k = 66) → ∀ i, t.1 k i = 0 := by
    intro k hk i
    rw [t3 k (by omega) (by omega)]
    rcases (show k = 2 ∨ k = 4 ∨ k = 5 ∨ k = 6 ∨ k = 7 ∨ k = 8 ∨ k = 26 ∨ k = 45 ∨ k = 46 ∨ k = 47 ∨ k = 48 ∨ k = 49 ∨ k = 50 ∨ k = 66 by omega) with rfl | rfl | rfl | rfl | rfl | rfl | rfl | rfl | rfl | rfl | rfl | rfl | rfl | rfl <;> simp [s00, iniL]
  have w : ∀ k j, k ≠ 43 → k ≠ 44 → t.1 k j = s00.1 k j := fun k j a b => by rw [t3 k a b]
  refine ⟨t, t1, ⟨(fun j => if j = 0 then 4 else if j = 3 then 20 else 0, fun _ _ => 0), ?_, ?_, ?_⟩, ⟨⟨0, by omega, ?_, ?_⟩, fun i _ => ?_⟩, Or.inl ⟨?_, ?_⟩, Or.inl ⟨?_, ?_⟩⟩
  · exact ⟨⟨4, by omega, by omega, rfl⟩, ⟨0, by omega, rfl⟩, ⟨20, by omega, rfl⟩, ⟨0, by omega, rfl⟩, fun _ _ => Or.inl rfl, fun _ _ => ⟨⟨0, by omega, rfl⟩, ⟨0, by omega, rfl⟩⟩⟩
  · exact ⟨⟨w 1 0 (by omega) (by omega), w 1 1 (by omega) (by omega), w 3 3 (by omega) (by omega), w 3 4 (by omega) (by omega), w 1 4 (by omega) (by omega)⟩, fun i _ => z 2 (by omega) i, fun i _ => z 4 (by omega) i, fun i _ => z 5 (by omega) i, fun i _ => z 6 (by omega) i, fun i _ => z 7 (by omega) i, fun i _ => z 8 (by omega) i⟩
  · exact ⟨⟨v0, v1, v3, v4, v10⟩, t2, fun i _ => z 45 (by omega) i, fun i _ => z 46 (by omega) i, fun i _ => z 47 (by omega) i, fun i _ => z 48 (by omega) i, fun i _ => z 49 (by omega) i⟩
  · exact w 25 1 (by omega) (by omega)
  · rw [v12]; rfl
  · rw [z 26 (by omega), z 50 (by omega)]
  · exact w 9 7 (by omega) (by omega)
  · exact z 66 (by omega) 0
  · exact w 17 7 (by omega) (by omega)
  · exact z 66 (by omega) 1
set_option maxRecDepth 20000 in
set_option maxHeartbeats 4000000 in
theorem law_loop {L : Nat} {xs : Nat → Int32} (hL : L ≤ 384) : ∀ (fuel k : Nat) (s : Sto), RR s → k ≤ L → L + 6 ≤ k + 6 * fuel → ∃ s', L_law_18 L xs fuel (nI k) s = some ((1 : Int32), s') := by
  intro fuel
  induction fuel with
  | zero => intro k s h hk hf; omega
  | succ fuel ih =>
    intro k s h hk hf
    have six : (nI L - (6 : Int32)).toInt = (L : Int) - 6 := pk_sub_toInt (a := L) (b := 6) (by omega) (by omega)
    unfold L_law_18
    by_cases st : L < k + 6
    · rw [if_pos (show nI L - (6 : Int32) < nI k by rw [Int32.lt_iff_toInt_lt, six, nI_toInt (by omega)]; omega)]
      exact ⟨s, rfl⟩
    · rw [if_neg (show ¬ nI L - (6 : Int32) < nI k by rw [Int32.lt_iff_toInt_lt, six, nI_toInt (by omega)]; omega)]
      have i0 : inb (nI k) L := inb_nI (by omega) (by omega)
      have i1 : inb (nI k + (1 : Int32)) L := by rw [show nI k + (1 : Int32) = nI (k + 1) from nI_add k 1]; exact inb_nI (by omega) (by omega)
      have i2 : inb (nI k + (2 : Int32)) L := by rw [show nI k + (2 : Int32) = nI (k + 2) from nI_add k 2]; exact inb_nI (by omega) (by omega)
      have i3 : inb (nI k + (3 : Int32)) L := by rw [show nI k + (3 : Int32) = nI (k + 3) from nI_add k 3]; exact inb_nI (by omega) (by omega)
      have i4 : inb (nI k + (4 : Int32)) L := by rw [show nI k + (4 : Int32) = nI (k + 4) from nI_add k 4]; exact inb_nI (by omega) (by omega)
      have i5 : inb (nI k + (5 : Int32)) L := by rw [show nI k + (5 : Int32) = nI (k + 5) from nI_add k 5]; exact inb_nI (by omega) (by omega)
      have go : ∀ s2, RR s2 → ∃ s', L_law_18 L xs fuel (nI k + 6) s2 = some ((1 : Int32), s') := fun s2 h2 => by
        rw [show nI k + (6 : Int32) = nI (k + 6) from nI_add k 6]
        exact ih (k + 6) s2 h2 (by omega) (by omega)
      rw [if_pos i0]
      generalize xs (nI k).toNatClampNeg &&& (31 : Int32) = sel
      generalize xs (nI k + (1 : Int32)).toNatClampNeg = x1
      generalize xs (nI k + (2 : Int32)).toNatClampNeg = x2
      generalize xs (nI k + (3 : Int32)).toNatClampNeg = x3
      generalize xs (nI k + (4 : Int32)).toNatClampNeg = x4
      generalize xs (nI k + (5 : Int32)).toNatClampNeg = x5
      by_cases c0 : sel = 0
      · obtain ⟨r, s1, s2, e1, e2, h2⟩ := op_facts h x1
        rw [if_pos c0, if_pos i1, e1, bd2_some, if_pos i1, e2, bd2_some, if_pos rfl]
        exact go s2 h2
      rw [if_neg c0]
      by_cases c1 : sel = 1
      · rw [if_pos c1, if_pos i1, if_pos i2]
        by_cases z : x2 = 0
        · obtain ⟨r, s1, s2, e1, e2, h2⟩ := op_fact h x1 0
          rw [if_pos z, bd1_some, e1, bd2_some, if_pos i1, if_pos i2, bd1_some, e2, bd2_some, if_pos rfl]
          exact go s2 h2
        · obtain ⟨r, s1, s2, e1, e2, h2⟩ := op_fact h x1 1
          rw [if_neg z, bd1_some, e1, bd2_some, if_pos i1, if_pos i2, bd1_some, e2, bd2_some, if_pos rfl]
          exact go s2 h2
      rw [if_neg c1]
      by_cases c2 : sel = 2
      · obtain ⟨r, s1, s2, e1, e2, h2⟩ := op_temper h x1 x2
        rw [if_pos c2, if_pos i1, if_pos i2, e1, bd2_some, if_pos i1, if_pos i2, e2, bd2_some, if_pos rfl]
        exact go s2 h2
      rw [if_neg c2]
      by_cases c3 : sel = 3
      · obtain ⟨r, s1, s2, e1, e2, h2⟩ := op_width h x1
        rw [if_pos c3, if_pos i1, e1, bd2_some, if_pos i1, e2, bd2_some, if_pos rfl]
        exact go s2 h2
      rw [if_neg c3]
      by_cases c4 : sel = 4
      · obtain ⟨r, s1, s2, e1, e2, h2⟩ := op_say h x1
        rw [if_pos c4, if_pos i1, e1, bd2_some, if_pos i1, e2, bd2_some, if_pos rfl]
        exact go s2 h2
      rw [if_neg c4]
      by_cases c5 : sel = 5
      · obtain ⟨r, s1, s2, e1, e2, h2⟩ := op_wipe h
        rw [if_pos c5, e1, bd2_some, e2, bd2_some, if_pos rfl]
        exact go s2 h2
      rw [if_neg c5]
      by_cases c6 : sel = 6
      · obtain ⟨r, s1, s2, e1, e2, h2⟩ := op_fault h x1
        rw [if_pos c6, if_pos i1, e1, bd2_some, if_pos i1, e2, bd2_some, if_pos rfl]
        exact go s2 h2
      rw [if_neg c6]
      by_cases c7 : sel = 7
      · obtain ⟨r, s1, s2, e1, e2, h2⟩ := op_judge h x1
        rw [if_pos c7, if_pos i1, e1, bd2_some, if_pos i1, e2, bd2_some, if_pos rfl]
        exact go s2 h2
      rw [if_neg c7]
      by_cases c8 : sel = 8
      · obtain ⟨r, s1, s2, e1, e2, h2⟩ := op_behind h x1
        rw [if_pos c8, if_pos i1, e1, bd2_some, if_pos i1, e2, bd2_some, if_pos rfl]
        exact go s2 h2
      rw [if_neg c8]
      by_cases c9 : sel = 9
      · obtain ⟨r, s1, s2, e1, e2, h2⟩ := op_row h x1 x2
        rw [if_pos c9, if_pos i1, if_pos i2, e1, bd2_some, if_pos i1, if_pos i2, e2, bd2_some, if_pos rfl]
        exact go s2 h2
      rw [if_neg c9]
      by_cases c10 : sel = 10
      · obtain ⟨r, s1, s2, e1, e2, h2⟩ := op_lost h x1
        rw [if_pos c10, if_pos i1, e1, bd2_some, if_pos i1, e2, bd2_some, if_pos rfl]
        exact go s2 h2
      rw [if_neg c10]
      by_cases c11 : sel = 11
      · obtain ⟨r, s1, s2, e1, e2, h2⟩ := op_done h
        rw [if_pos c11, e1, bd2_some, e2, bd2_some, if_pos rfl]
        exact go s2 h2
      rw [if_neg c11]
      by_cases c12 : sel = 12
      · obtain ⟨r, s1, s2, e1, e2, h2⟩ := op_state h x1 x2
        rw [if_pos c12, if_pos i1, if_pos i2, e1, bd2_some, if_pos i1, if_pos i2, e2, bd2_some, if_pos rfl]
        exact go s2 h2
      rw [if_neg c12]
      by_cases c13 : sel = 13
      · obtain ⟨r, s1, s2, e1, e2, h2⟩ := op_made h
        rw [if_pos c13, e1, bd2_some, e2, bd2_some, if_pos rfl]
        exact go s2 h2
      rw [if_neg c13]
      by_cases c14 : sel = 14
      · obtain ⟨r, s1, s2, e1, e2, h2⟩ := op_bars h
        rw [if_pos c14, e1, bd2_some, e2, bd2_some, if_pos rfl]
        exact go s2 h2
      rw [if_neg c14]
      by_cases c15 : sel = 15
      · obtain ⟨r, s1, s2, e1, e2, h2⟩ := op_seen h x1 x2
        rw [if_pos c15, if_pos i1, if_pos i2, e1, bd2_some, if_pos i1, if_pos i2, e2, bd2_some, if_pos rfl]
        exact go s2 h2
      rw [if_neg c15]
      by_cases c16 : sel = 16
      · obtain ⟨r, s1, s2, e1, e2, h2⟩ := op_forget h
        rw [if_pos c16, e1, bd2_some, e2, bd2_some, if_pos rfl]
        exact go s2 h2
      rw [if_neg c16]
      by_cases c17 : sel = 17
      · obtain ⟨r, s1, s2, e1, e2, h2⟩ := op_worlds h x1
        rw [if_pos c17, if_pos i1, e1, bd2_some, if_pos i1, e2, bd2_some, if_pos rfl]
        exact go s2 h2
      rw [if_neg c17]
      by_cases c18 : sel = 18
      · obtain ⟨r, s1, s2, e1, e2, h2⟩ := op_tell h x1
        rw [if_pos c18, if_pos i1, e1, bd2_some, if_pos i1, e2, bd2_some, if_pos rfl]
        exact go s2 h2
      rw [if_neg c18]
      by_cases c19 : sel = 19
      · obtain ⟨r, s1, s2, e1, e2, h2⟩ := op_says h x1
        rw [if_pos c19, if_pos i1, e1, bd2_some, if_pos i1, e2, bd2_some, if_pos rfl]
        exact go s2 h2
      rw [if_neg c19]
      by_cases c20 : sel = 20
      · obtain ⟨r, s1, s2, e1, e2, h2⟩ := op_orders h x1 x2 x3 x4
        rw [if_pos c20, if_pos i1, if_pos i2, if_pos i3, if_pos i4, e1, bd2_some, if_pos i1, if_pos i2, if_pos i3, if_pos i4, e2, bd2_some, if_pos (lg_eq.mpr rfl)]
        exact go s2 h2
      rw [if_neg c20]
      by_cases c21 : sel = 21
      · obtain ⟨r, s1, s2, e1, e2, h2⟩ := op_left h x1 x2 x3 x4
        rw [if_pos c21, if_pos i1, if_pos i2, if_pos i3, if_pos i4, e1, bd2_some, if_pos i1, if_pos i2, if_pos i3, if_pos i4, e2, bd2_some, if_pos rfl]
        exact go s2 h2
      rw [if_neg c21]
      by_cases c22 : sel = 22
      · obtain ⟨r, s1, s2, e1, e2, h2⟩ := op_chance h x1 x2 x3 x4
        rw [if_pos c22, if_pos i1, if_pos i2, if_pos i3, if_pos i4, e1, bd2_some, if_pos i1, if_pos i2, if_pos i3, if_pos i4, e2, bd2_some, if_pos (lg_eq.mpr rfl)]
        exact go s2 h2
      rw [if_neg c22]
      by_cases c23 : sel = 23
      · obtain ⟨r, s1, s2, e1, e2, h2⟩ := op_over h x1 x2 x3 x4 x5
        rw [if_pos c23, if_pos i1, if_pos i2, if_pos i3, if_pos i4, if_pos i5, e1, bd2_some, if_pos i1, if_pos i2, if_pos i3, if_pos i4, if_pos i5, e2, bd2_some, if_pos rfl]
        exact go s2 h2
      rw [if_neg c23]
      by_cases c24 : sel = 24
      · obtain ⟨r, s1, s2, e1, e2, h2⟩ := op_patterns h x1
        rw [if_pos c24, if_pos i1, e1, bd2_some, if_pos i1, e2, bd2_some, if_pos rfl]
        exact go s2 h2
      rw [if_neg c24]
      by_cases c25 : sel = 25
      · obtain ⟨r, s1, s2, e1, e2, h2⟩ := op_draws h x1 x2 x3
        rw [if_pos c25, if_pos i1, if_pos i2, if_pos i3, e1, bd2_some, if_pos i1, if_pos i2, if_pos i3, e2, bd2_some, if_pos rfl]
        exact go s2 h2
      rw [if_neg c25]
      by_cases c26 : sel = 26
      · obtain ⟨r, s1, s2, e1, e2, h2⟩ := op_image h x1
        rw [if_pos c26, if_pos i1, e1, bd2_some, if_pos i1, e2, bd2_some, if_pos rfl]
        exact go s2 h2
      rw [if_neg c26]
      by_cases c27 : sel = 27
      · obtain ⟨r, s1, s2, e1, e2, h2⟩ := op_restore h x1
        rw [if_pos c27, if_pos i1, e1, bd2_some, if_pos i1, e2, bd2_some, if_pos rfl]
        exact go s2 h2
      rw [if_neg c27]
      by_cases c28 : sel = 28
      · obtain ⟨r, s1, s2, e1, e2, h2⟩ := op_told h x1
        rw [if_pos c28, if_pos i1, e1, bd2_some, if_pos i1, e2, bd2_some, if_pos rfl]
        exact go s2 h2
      rw [if_neg c28]
      exact go s h
theorem pure : Pure := by
  obtain ⟨t, t1, t2⟩ := RR_start
  refine ⟨t, t1, fun L xs hL => ?_⟩
  obtain ⟨s', e⟩ := law_loop (xs := xs) hL FU 0 t t2 (by omega) (by unfold FU; omega)
  rw [show nI 0 = 0 from rfl] at e
  exact ⟨s', e⟩
