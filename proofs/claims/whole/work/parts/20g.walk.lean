set_option maxRecDepth 20000 in
theorem M8_restore {o : Nat} {a1 : Int32} {s : Sto} {r : Int32} {σ' : Sto} (h : f8_restore o a1 s = some (r, σ')) : Ct yX8_restore cX8_restore 3 (some .int) 4 103 (fun ad => [.ref (ad o), .int a1]) s (fun ad => some (.int r)) σ' := by
  unfold f8_restore at h
  obtain ⟨k_o, h⟩ := gd_inv h
  refine Ct_of (by decide) (fun ad => Nat.le_of_ble_eq_true rfl) (fun φ ad X hQ => ?_)
  show wpm φ ad 0 [(0, .ref (ad o)), (1, .int a1)] [] s
  replace X : Cx φ ad cX8_restore (some .int) RX8 3 4 103 := X
  refine w_iload_n (pc := 0) X dX8_restore_0 1 rfl ?_
  refine w_iconst (pc := 1) X dX8_restore_1 (v := 0) rfl ?_
  refine w_iconst (pc := 2) X dX8_restore_2 (v := 1) rfl ?_
  obtain ⟨r3, s1, h2, h⟩ := bd2_inv h
  refine w_callS (pc := 3) X dX8_restore_3 (M8_isWithin h2) rfl cw_8_64 ⟨Nat.le_of_ble_eq_true rfl, Nat.le_of_ble_eq_true rfl⟩ rfl rfl (Nat.le_of_ble_eq_true rfl) ?_
  show wpm φ ad 6 [(0, .ref (ad o)), (1, .int a1)] [.int r3] s1
  refine w_if_ne (pc := 6) (tgt := 12) X dX8_restore_6 (by decide) (fun c11 => ?_) (fun c11 => ?_)
  · replace h := it_neg c11 h
    refine w_aload_n (pc := 12) X dX8_restore_12 0 rfl ?_
    refine w_iload_n (pc := 13) X dX8_restore_13 1 rfl ?_
    obtain ⟨r6, s4, h5, h⟩ := bd2_inv h
    refine w_callV (pc := 14) X dX8_restore_14 (M8_imageAt h5) k_o (by decide) rfl cw_8_244 ⟨Nat.le_of_ble_eq_true rfl, Nat.le_of_ble_eq_true rfl⟩ rfl rfl (Nat.le_of_ble_eq_true rfl) ?_
    show wpm φ ad 17 [(0, .ref (ad o)), (1, .int a1)] [.ref (ad r6)] s4
    obtain ⟨g7, h⟩ := gd_inv h
    refine w_astore_n (pc := 17) X dX8_restore_17 2 rfl (by decide) (lv' := [(2, .ref (ad r6)), (0, .ref (ad o)), (1, .int a1)]) rfl ?_
    refine w_aload_n (pc := 18) X dX8_restore_18 0 rfl ?_
    refine w_getI (pc := 19) X dX8_restore_19 clO_0 g7 7 (by decide) rfl fl_8_251 ?_
    refine w_if_ne (pc := 22) (tgt := 28) X dX8_restore_22 (by decide) (fun c10 => ?_) (fun c10 => ?_)
    · replace h := it_neg c10 h
      refine w_aload_n (pc := 28) X dX8_restore_28 1 rfl ?_
      refine w_getR (pc := 29) X dX8_restore_29 clO_8 k_o 0 (by decide) (d := 1) rfl fl_8_10 ?_
      refine w_aload_n (pc := 32) X dX8_restore_32 0 rfl ?_
      obtain ⟨s8, h9, h⟩ := bd1_inv h
      refine w_callV (pc := 33) X dX8_restore_33 (M0_copyFrom h9) (kp_8_1 k_o) (by decide) rfl cw_8_248 ⟨Nat.le_of_ble_eq_true rfl, Nat.le_of_ble_eq_true rfl⟩ rfl rfl (Nat.le_of_ble_eq_true rfl) ?_
      show wpm φ ad 36 [(2, .ref (ad r6)), (0, .ref (ad o)), (1, .int a1)] [] s8
      refine w_iconst (pc := 36) X dX8_restore_36 (v := 1) rfl ?_
      cases h
      exact w_iret X hQ dX8_restore_37
    · replace h := it_pos c10 h
      refine w_bipush (pc := 25) X dX8_restore_25 (v := (-3)) rfl ?_
      cases h
      exact w_iret X hQ dX8_restore_27
  · replace h := it_pos c11 h
    refine w_bipush (pc := 9) X dX8_restore_9 (v := (-2)) rfl ?_
    cases h
    exact w_iret X hQ dX8_restore_11
set_option maxRecDepth 20000 in
theorem M8_told {o : Nat} {a1 : Int32} {s : Sto} {r : Int32} {σ' : Sto} (h : f8_told o a1 s = some (r, σ')) : Ct yX8_told cX8_told 2 (some .int) 2 42 (fun ad => [.ref (ad o), .int a1]) s (fun ad => some (.int r)) σ' := by
  unfold f8_told at h
  obtain ⟨k_o, h⟩ := gd_inv h
  refine Ct_of (by decide) (fun ad => Nat.le_of_ble_eq_true rfl) (fun φ ad X hQ => ?_)
  show wpm φ ad 0 [(0, .ref (ad o)), (1, .int a1)] [] s
  replace X : Cx φ ad cX8_told (some .int) RX8 2 2 42 := X
  refine w_iload_n (pc := 0) X dX8_told_0 1 rfl ?_
  by_cases c8 : a1 = 0
  · replace h := it_pos c8 h
    refine w_tswIn (pc := 1) (tgt := 40) X dX8_told_1 c8 (by decide) (by decide) rfl (by decide) ?_
    refine w_aload_n (pc := 40) X dX8_told_40 0 rfl ?_
    refine w_getR (pc := 41) X dX8_told_41 clO_8 k_o 3 (by decide) (d := 25) rfl fl_8_25 ?_
    refine w_getI (pc := 44) X dX8_told_44 clO_5 (kp_8_25 k_o) 1 (by decide) rfl fl_8_107 ?_
    cases h
    exact w_iret X hQ dX8_told_47
  replace h := it_neg c8 h
  by_cases c9 : a1 = 1
  · replace h := it_pos c9 h
    refine w_tswIn (pc := 1) (tgt := 48) X dX8_told_1 c9 (by decide) (by decide) rfl (by decide) ?_
    refine w_aload_n (pc := 48) X dX8_told_48 0 rfl ?_
    refine w_getR (pc := 49) X dX8_told_49 clO_8 k_o 0 (by decide) (d := 1) rfl fl_8_10 ?_
    refine w_getI (pc := 52) X dX8_told_52 clO_0 (kp_8_1 k_o) 0 (by decide) rfl fl_8_68 ?_
    cases h
    exact w_iret X hQ dX8_told_55
  replace h := it_neg c9 h
  by_cases c10 : a1 = 2
  · replace h := it_pos c10 h
    refine w_tswIn (pc := 1) (tgt := 56) X dX8_told_1 c10 (by decide) (by decide) rfl (by decide) ?_
    refine w_aload_n (pc := 56) X dX8_told_56 0 rfl ?_
    refine w_getR (pc := 57) X dX8_told_57 clO_8 k_o 0 (by decide) (d := 1) rfl fl_8_10 ?_
    refine w_getI (pc := 60) X dX8_told_60 clO_0 (kp_8_1 k_o) 1 (by decide) rfl fl_8_76 ?_
    cases h
    exact w_iret X hQ dX8_told_63
  replace h := it_neg c10 h
  by_cases c11 : a1 = 3
  · replace h := it_pos c11 h
    refine w_tswIn (pc := 1) (tgt := 64) X dX8_told_1 c11 (by decide) (by decide) rfl (by decide) ?_
    refine w_aload_n (pc := 64) X dX8_told_64 0 rfl ?_
    refine w_getR (pc := 65) X dX8_told_65 clO_8 k_o 0 (by decide) (d := 1) rfl fl_8_10 ?_
    refine w_getR (pc := 68) X dX8_told_68 clO_0 (kp_8_1 k_o) 3 (by decide) (d := 2) rfl fl_8_95 ?_
    refine w_getI (pc := 71) X dX8_told_71 clO_2 (kp_0_2 (kp_8_1 k_o)) 3 (by decide) rfl fl_8_134 ?_
    cases h
    exact w_iret X hQ dX8_told_74
  replace h := it_neg c11 h
  by_cases c12 : a1 = 4
  · replace h := it_pos c12 h
    refine w_tswIn (pc := 1) (tgt := 75) X dX8_told_1 c12 (by decide) (by decide) rfl (by decide) ?_
    refine w_aload_n (pc := 75) X dX8_told_75 0 rfl ?_
    refine w_getR (pc := 76) X dX8_told_76 clO_8 k_o 0 (by decide) (d := 1) rfl fl_8_10 ?_
    refine w_getR (pc := 79) X dX8_told_79 clO_0 (kp_8_1 k_o) 3 (by decide) (d := 2) rfl fl_8_95 ?_
    refine w_getI (pc := 82) X dX8_told_82 clO_2 (kp_0_2 (kp_8_1 k_o)) 4 (by decide) rfl fl_8_99 ?_
    cases h
    exact w_iret X hQ dX8_told_85
  replace h := it_neg c12 h
  by_cases c13 : a1 = 5
  · replace h := it_pos c13 h
    refine w_tswIn (pc := 1) (tgt := 86) X dX8_told_1 c13 (by decide) (by decide) rfl (by decide) ?_
    refine w_aload_n (pc := 86) X dX8_told_86 0 rfl ?_
    refine w_getR (pc := 87) X dX8_told_87 clO_8 k_o 0 (by decide) (d := 1) rfl fl_8_10 ?_
    refine w_getI (pc := 90) X dX8_told_90 clO_0 (kp_8_1 k_o) 4 (by decide) rfl fl_8_166 ?_
    cases h
    exact w_iret X hQ dX8_told_93
  replace h := it_neg c13 h
  refine w_tswOut (pc := 1) (tgt := 94) X dX8_told_1 (fun i i1 i2 => by
      rcases (show i = 0 ∨ i = 1 ∨ i = 2 ∨ i = 3 ∨ i = 4 ∨ i = 5 by omega) with rfl | rfl | rfl | rfl | rfl | rfl
      · exact c8
      · exact c9
      · exact c10
      · exact c11
      · exact c12
      · exact c13) (by decide) ?_
  refine w_iload_n (pc := 94) X dX8_told_94 1 rfl ?_
  refine w_bipush (pc := 95) X dX8_told_95 (v := (10)) rfl ?_
  refine w_bipush (pc := 97) X dX8_told_97 (v := (15)) rfl ?_
  obtain ⟨r3, s1, h2, h⟩ := bd2_inv h
  refine w_callS (pc := 99) X dX8_told_99 (M8_isWithin h2) rfl cw_8_64 ⟨Nat.le_of_ble_eq_true rfl, Nat.le_of_ble_eq_true rfl⟩ rfl rfl (Nat.le_of_ble_eq_true rfl) ?_
  show wpm φ ad 102 [(0, .ref (ad o)), (1, .int a1)] [.int r3] s1
  refine w_if_ne (pc := 102) (tgt := 108) X dX8_told_102 (by decide) (fun c7 => ?_) (fun c7 => ?_)
  · replace h := it_neg c7 h
    refine w_aload_n (pc := 108) X dX8_told_108 0 rfl ?_
    refine w_getR (pc := 109) X dX8_told_109 clO_8 k_o 0 (by decide) (d := 1) rfl fl_8_10 ?_
    refine w_iload_n (pc := 112) X dX8_told_112 1 rfl ?_
    refine w_bipush (pc := 113) X dX8_told_113 (v := (10)) rfl ?_
    refine w_isub (pc := 115) X dX8_told_115 ?_
    obtain ⟨r6, s4, h5, h⟩ := bd2_inv h
    refine w_callV (pc := 116) X dX8_told_116 (M0_temperOf h5) (kp_8_1 k_o) (by decide) rfl cw_8_83 ⟨Nat.le_of_ble_eq_true rfl, Nat.le_of_ble_eq_true rfl⟩ rfl rfl (Nat.le_of_ble_eq_true rfl) ?_
    show wpm φ ad 119 [(0, .ref (ad o)), (1, .int a1)] [.int r6] s4
    cases h
    exact w_iret X hQ dX8_told_119
  · replace h := it_pos c7 h
    refine w_bipush (pc := 105) X dX8_told_105 (v := (-2)) rfl ?_
    cases h
    exact w_iret X hQ dX8_told_107
