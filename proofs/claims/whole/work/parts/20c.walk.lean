set_option maxRecDepth 20000 in
theorem WL1_play_40 {φ : Fr} {ad : Nat → Nat} (X : Cx φ ad cX1_play none RX1 6 4 87) (o : Nat) (a1 : Nat) (a2 : Int32) (k_o : kd o = 1) (k_a1 : kd a1 = 0) {σ' : Sto} (hQ : Fini φ ad none σ') : ∀ (fuel : Nat) (v3 : Int32) (s : Sto), L1_play_40 o a1 a2 fuel v3 s = some σ' → wpm φ ad 40 [(0, .ref (ad o)), (1, .ref (ad a1)), (2, .int a2), (3, .int v3)] [] s := by
  intro fuel
  induction fuel with
  | zero => intro v3 s h; cases h
  | succ fuel ih =>
    intro v3 s h
    unfold L1_play_40 at h
    refine w_iload_n (pc := 40) X dX1_play_40 3 rfl ?_
    refine w_aload_n (pc := 41) X dX1_play_41 0 rfl ?_
    refine w_getI (pc := 42) X dX1_play_42 clO_1 k_o 1 (by decide) rfl fl_1_15 ?_
    refine w_icmp_ge (pc := 45) (tgt := 121) X dX1_play_45 (by decide) (fun c20 => ?_) (fun c20 => ?_)
    · replace h := it_pos c20 h
      cases h
      exact w_vret X hQ dX1_play_121
    · replace h := it_neg c20 h
      refine w_aload_n (pc := 48) X dX1_play_48 0 rfl ?_
      refine w_getR (pc := 49) X dX1_play_49 clO_1 k_o 0 (by decide) (d := 1) rfl fl_1_9 ?_
      refine w_iload_n (pc := 52) X dX1_play_52 3 rfl ?_
      obtain ⟨r9, s7, h8, h⟩ := bd2_inv h
      refine w_callSN (pc := 53) X dX1_play_53 (M8_at h8) mn_1_41 cw_1_41 ⟨Nat.le_of_ble_eq_true rfl, Nat.le_of_ble_eq_true rfl⟩ rfl rfl (Nat.le_of_ble_eq_true rfl) ?_
      show wpm φ ad 56 [(0, .ref (ad o)), (1, .ref (ad a1)), (2, .int a2), (3, .int v3)] [.int r9] s7
      refine w_istore (pc := 56) X dX1_play_56 (by decide) (lv' := [(4, .int r9), (0, .ref (ad o)), (1, .ref (ad a1)), (2, .int a2), (3, .int v3)]) rfl ?_
      refine w_iload (pc := 58) X dX1_play_58 0 rfl ?_
      refine w_aload_n (pc := 60) X dX1_play_60 2 rfl ?_
      refine w_iload_n (pc := 61) X dX1_play_61 3 rfl ?_
      refine w_aload_n (pc := 62) X dX1_play_62 1 rfl ?_
      refine w_getR (pc := 63) X dX1_play_63 clO_1 k_o 3 (by decide) (d := 3) rfl fl_1_25 ?_
      obtain ⟨r12, s10, h11, h⟩ := bd2_inv h
      refine w_callSN (pc := 66) X dX1_play_66 (M8_whyNot h11) mn_1_77 cw_1_77 ⟨Nat.le_of_ble_eq_true rfl, Nat.le_of_ble_eq_true rfl⟩ rfl rfl (Nat.le_of_ble_eq_true rfl) ?_
      show wpm φ ad 69 [(4, .int r9), (0, .ref (ad o)), (1, .ref (ad a1)), (2, .int a2), (3, .int v3)] [.int r12] s10
      refine w_istore (pc := 69) X dX1_play_69 (by decide) (lv' := [(5, .int r12), (4, .int r9), (0, .ref (ad o)), (1, .ref (ad a1)), (2, .int a2), (3, .int v3)]) rfl ?_
      refine w_iload (pc := 71) X dX1_play_71 0 rfl ?_
      refine w_if_eq (pc := 73) (tgt := 88) X dX1_play_73 (by decide) (fun c19 => ?_) (fun c19 => ?_)
      · replace h := it_pos c19 h
        refine w_aload_n (pc := 88) X dX1_play_88 2 rfl ?_
        refine w_getR (pc := 89) X dX1_play_89 clO_1 k_o 3 (by decide) (d := 3) rfl fl_1_25 ?_
        refine w_iload (pc := 92) X dX1_play_92 1 rfl ?_
        refine w_iload_n (pc := 94) X dX1_play_94 4 rfl ?_
        obtain ⟨s13, h14, h⟩ := bd1_inv h
        refine w_callV (pc := 95) X dX1_play_95 (M2_hear h14) (kp_1_3 k_o) (by decide) rfl cw_1_81 ⟨Nat.le_of_ble_eq_true rfl, Nat.le_of_ble_eq_true rfl⟩ rfl rfl (Nat.le_of_ble_eq_true rfl) ?_
        show wpm φ ad 98 [(5, .int r12), (4, .int r9), (0, .ref (ad o)), (1, .ref (ad a1)), (2, .int a2), (3, .int v3)] [] s13
        refine w_aload_n (pc := 98) X dX1_play_98 2 rfl ?_
        refine w_getR (pc := 99) X dX1_play_99 clO_1 k_o 2 (by decide) (d := 2) rfl fl_1_19 ?_
        refine w_iload_n (pc := 102) X dX1_play_102 5 rfl ?_
        refine w_iconst (pc := 103) X dX1_play_103 (v := 1) rfl ?_
        refine w_iadd (pc := 104) X dX1_play_104 ?_
        refine w_aload_n (pc := 105) X dX1_play_105 2 rfl ?_
        refine w_getR (pc := 106) X dX1_play_106 clO_1 k_o 3 (by decide) (d := 3) rfl fl_1_25 ?_
        refine w_getI (pc := 109) X dX1_play_109 clO_2 (kp_1_3 k_o) 3 (by decide) rfl fl_1_76 ?_
        obtain ⟨s15, h16, h⟩ := bd1_inv h
        refine w_callSN (pc := 112) X dX1_play_112 (M8_put h16) mn_1_65 cw_1_65 ⟨Nat.le_of_ble_eq_true rfl, Nat.le_of_ble_eq_true rfl⟩ rfl rfl (Nat.le_of_ble_eq_true rfl) ?_
        show wpm φ ad 115 [(5, .int r12), (4, .int r9), (0, .ref (ad o)), (1, .ref (ad a1)), (2, .int a2), (3, .int v3)] [] s15
        refine w_iinc (pc := 115) X dX1_play_115 5 rfl (v := (v3 + 1)) rfl (by decide) (lv' := [(3, .int (v3 + 1)), (5, .int r12), (4, .int r9), (0, .ref (ad o)), (1, .ref (ad a1)), (2, .int a2)]) rfl ?_
        refine w_goto (tgt := 40) (pc := 118) X dX1_play_118 (by decide) ?_
        exact w_sub (pc := 40) [3, 4, 5, 0] rfl (ih _ _ h)
      · replace h := it_neg c19 h
        refine w_aload_n (pc := 76) X dX1_play_76 2 rfl ?_
        refine w_iload_n (pc := 77) X dX1_play_77 5 rfl ?_
        refine w_putI (pc := 78) X dX1_play_78 clO_1 k_o 4 (by decide) rfl rfl (Or.inl rfl) fl_1_29 ?_
        obtain ⟨s17, e_s17, h⟩ := nm_inv h
        refine w_nm e_s17 ?_
        refine w_aload_n (pc := 81) X dX1_play_81 2 rfl ?_
        refine w_iload (pc := 82) X dX1_play_82 0 rfl ?_
        refine w_putI (pc := 84) X dX1_play_84 clO_1 k_o 5 (by decide) rfl rfl (Or.inl rfl) fl_1_32 ?_
        obtain ⟨s18, e_s18, h⟩ := nm_inv h
        refine w_nm e_s18 ?_
        cases h
        exact w_vret X hQ dX1_play_87
set_option maxRecDepth 20000 in
theorem M1_play {o : Nat} {a1 : Nat} {a2 : Int32} {s : Sto} {σ' : Sto} (h : f1_play o a1 a2 s = some σ') : Ct yX1_play cX1_play 6 none 4 87 (fun ad => [.ref (ad o), .ref (ad a1), .int a2]) s (fun _ => none) σ' := by
  unfold f1_play at h
  obtain ⟨⟨k_o, k_a1⟩, h⟩ := gd_inv h
  refine Ct_of (by decide) (fun ad => Nat.le_of_ble_eq_true rfl) (fun φ ad X hQ => ?_)
  show wpm φ ad 0 [(0, .ref (ad o)), (1, .ref (ad a1)), (2, .int a2)] [] s
  replace X : Cx φ ad cX1_play none RX1 6 4 87 := X
  refine w_aload_n (pc := 0) X dX1_play_0 0 rfl ?_
  refine w_getR (pc := 1) X dX1_play_1 clO_1 k_o 3 (by decide) (d := 3) rfl fl_1_25 ?_
  refine w_aload_n (pc := 4) X dX1_play_4 1 rfl ?_
  refine w_getR (pc := 5) X dX1_play_5 clO_0 k_a1 3 (by decide) (d := 2) rfl fl_1_69 ?_
  obtain ⟨s1, h2, h⟩ := bd1_inv h
  refine w_callV (pc := 8) X dX1_play_8 (M2_copyFrom h2) (kp_1_3 k_o) (by decide) rfl cw_1_72 ⟨Nat.le_of_ble_eq_true rfl, Nat.le_of_ble_eq_true rfl⟩ rfl rfl (Nat.le_of_ble_eq_true rfl) ?_
  show wpm φ ad 11 [(0, .ref (ad o)), (1, .ref (ad a1)), (2, .int a2)] [] s1
  refine w_aload_n (pc := 11) X dX1_play_11 0 rfl ?_
  refine w_bipush (pc := 12) X dX1_play_12 (v := (-6)) rfl ?_
  refine w_putI (pc := 14) X dX1_play_14 clO_1 k_o 4 (by decide) rfl rfl (Or.inl rfl) fl_1_29 ?_
  obtain ⟨s3, e_s3, h⟩ := nm_inv h
  refine w_nm e_s3 ?_
  refine w_aload_n (pc := 17) X dX1_play_17 0 rfl ?_
  refine w_bipush (pc := 18) X dX1_play_18 (v := (-6)) rfl ?_
  refine w_putI (pc := 20) X dX1_play_20 clO_1 k_o 5 (by decide) rfl rfl (Or.inl rfl) fl_1_32 ?_
  obtain ⟨s4, e_s4, h⟩ := nm_inv h
  refine w_nm e_s4 ?_
  refine w_aload_n (pc := 23) X dX1_play_23 0 rfl ?_
  refine w_getR (pc := 24) X dX1_play_24 clO_1 k_o 2 (by decide) (d := 2) rfl fl_1_19 ?_
  refine w_iconst (pc := 27) X dX1_play_27 (v := 0) rfl ?_
  refine w_aload_n (pc := 28) X dX1_play_28 0 rfl ?_
  refine w_getR (pc := 29) X dX1_play_29 clO_1 k_o 3 (by decide) (d := 3) rfl fl_1_25 ?_
  refine w_getI (pc := 32) X dX1_play_32 clO_2 (kp_1_3 k_o) 3 (by decide) rfl fl_1_76 ?_
  obtain ⟨s5, h6, h⟩ := bd1_inv h
  refine w_callSN (pc := 35) X dX1_play_35 (M8_put h6) mn_1_65 cw_1_65 ⟨Nat.le_of_ble_eq_true rfl, Nat.le_of_ble_eq_true rfl⟩ rfl rfl (Nat.le_of_ble_eq_true rfl) ?_
  show wpm φ ad 38 [(0, .ref (ad o)), (1, .ref (ad a1)), (2, .int a2)] [] s5
  refine w_iconst (pc := 38) X dX1_play_38 (v := 0) rfl ?_
  refine w_istore_n (pc := 39) X dX1_play_39 3 rfl (by decide) (lv' := [(3, .int (0 : Int32)), (0, .ref (ad o)), (1, .ref (ad a1)), (2, .int a2)]) rfl ?_
  exact w_sub (pc := 40) [1, 2, 3, 0] rfl (WL1_play_40 X o a1 a2 k_o k_a1 hQ FU (0 : Int32) s5 h)
set_option maxRecDepth 20000 in
theorem M8_playPad {o : Nat} {s : Sto} {r : Int32} {σ' : Sto} (h : f8_playPad o s = some (r, σ')) : Ct yX8_playPad cX8_playPad 1 (some .int) 5 112 (fun ad => [.ref (ad o)]) s (fun ad => some (.int r)) σ' := by
  unfold f8_playPad at h
  obtain ⟨k_o, h⟩ := gd_inv h
  refine Ct_of (by decide) (fun ad => Nat.le_of_ble_eq_true rfl) (fun φ ad X hQ => ?_)
  show wpm φ ad 0 [(0, .ref (ad o))] [] s
  replace X : Cx φ ad cX8_playPad (some .int) RX8 1 5 112 := X
  refine w_aload_n (pc := 0) X dX8_playPad_0 0 rfl ?_
  refine w_getR (pc := 1) X dX8_playPad_1 clO_8 k_o 4 (by decide) (d := 27) rfl fl_8_32 ?_
  refine w_aload_n (pc := 4) X dX8_playPad_4 0 rfl ?_
  refine w_getR (pc := 5) X dX8_playPad_5 clO_8 k_o 3 (by decide) (d := 25) rfl fl_8_25 ?_
  refine w_aload_n (pc := 8) X dX8_playPad_8 0 rfl ?_
  refine w_getR (pc := 9) X dX8_playPad_9 clO_8 k_o 0 (by decide) (d := 1) rfl fl_8_10 ?_
  refine w_getI (pc := 12) X dX8_playPad_12 clO_0 (kp_8_1 k_o) 0 (by decide) rfl fl_8_68 ?_
  obtain ⟨r3, s1, h2, h⟩ := bd2_inv h
  refine w_callV (pc := 15) X dX8_playPad_15 (M1_read h2) (kp_8_27 k_o) (by decide) rfl cw_8_110 ⟨Nat.le_of_ble_eq_true rfl, Nat.le_of_ble_eq_true rfl⟩ rfl rfl (Nat.le_of_ble_eq_true rfl) ?_
  show wpm φ ad 18 [(0, .ref (ad o))] [.int r3] s1
  refine w_bipush (pc := 18) X dX8_playPad_18 (v := (-6)) rfl ?_
  refine w_icmp_eq (pc := 20) (tgt := 26) X dX8_playPad_20 (by decide) (fun c7 => ?_) (fun c7 => ?_)
  · replace h := it_pos c7 h
    refine w_aload_n (pc := 26) X dX8_playPad_26 0 rfl ?_
    refine w_getR (pc := 27) X dX8_playPad_27 clO_8 k_o 4 (by decide) (d := 27) rfl fl_8_32 ?_
    refine w_aload_n (pc := 30) X dX8_playPad_30 0 rfl ?_
    refine w_getR (pc := 31) X dX8_playPad_31 clO_8 k_o 0 (by decide) (d := 1) rfl fl_8_10 ?_
    refine w_aload_n (pc := 34) X dX8_playPad_34 0 rfl ?_
    refine w_getR (pc := 35) X dX8_playPad_35 clO_8 k_o 0 (by decide) (d := 1) rfl fl_8_10 ?_
    refine w_getI (pc := 38) X dX8_playPad_38 clO_0 (kp_8_1 k_o) 1 (by decide) rfl fl_8_76 ?_
    obtain ⟨s4, h5, h⟩ := bd1_inv h
    refine w_callV (pc := 41) X dX8_playPad_41 (M1_play h5) (kp_8_27 k_o) (by decide) rfl cw_8_255 ⟨Nat.le_of_ble_eq_true rfl, Nat.le_of_ble_eq_true rfl⟩ rfl rfl (Nat.le_of_ble_eq_true rfl) ?_
    show wpm φ ad 44 [(0, .ref (ad o))] [] s4
    refine w_aload_n (pc := 44) X dX8_playPad_44 0 rfl ?_
    refine w_getR (pc := 45) X dX8_playPad_45 clO_8 k_o 4 (by decide) (d := 27) rfl fl_8_32 ?_
    refine w_getI (pc := 48) X dX8_playPad_48 clO_1 (kp_8_27 k_o) 4 (by decide) rfl fl_8_121 ?_
    refine w_bipush (pc := 51) X dX8_playPad_51 (v := (-6)) rfl ?_
    refine w_icmp_ne (pc := 53) (tgt := 60) X dX8_playPad_53 (by decide) (fun c6 => ?_) (fun c6 => ?_)
    · replace h := it_neg c6 h
      refine w_bipush (pc := 60) X dX8_playPad_60 (v := (-3)) rfl ?_
      cases h
      exact w_iret X hQ dX8_playPad_62
    · replace h := it_pos c6 h
      refine w_iconst (pc := 56) X dX8_playPad_56 (v := 0) rfl ?_
      refine w_goto (tgt := 62) (pc := 57) X dX8_playPad_57 (by decide) ?_
      cases h
      exact w_iret X hQ dX8_playPad_62
  · replace h := it_neg c7 h
    refine w_bipush (pc := 23) X dX8_playPad_23 (v := (-5)) rfl ?_
    cases h
    exact w_iret X hQ dX8_playPad_25
set_option maxRecDepth 20000 in
theorem M8_judge {o : Nat} {a1 : Int32} {s : Sto} {r : Int32} {σ' : Sto} (h : f8_judge o a1 s = some (r, σ')) : Ct yX8_judge cX8_judge 3 (some .int) 6 132 (fun ad => [.ref (ad o), .int a1]) s (fun ad => some (.int r)) σ' := by
  unfold f8_judge at h
  obtain ⟨k_o, h⟩ := gd_inv h
  refine Ct_of (by decide) (fun ad => Nat.le_of_ble_eq_true rfl) (fun φ ad X hQ => ?_)
  show wpm φ ad 0 [(0, .ref (ad o)), (1, .int a1)] [] s
  replace X : Cx φ ad cX8_judge (some .int) RX8 3 6 132 := X
  refine w_iload_n (pc := 0) X dX8_judge_0 1 rfl ?_
  refine w_iconst (pc := 1) X dX8_judge_1 (v := 0) rfl ?_
  refine w_iconst (pc := 2) X dX8_judge_2 (v := 3) rfl ?_
  obtain ⟨r3, s1, h2, h⟩ := bd2_inv h
  refine w_callS (pc := 3) X dX8_judge_3 (M8_isWithin h2) rfl cw_8_64 ⟨Nat.le_of_ble_eq_true rfl, Nat.le_of_ble_eq_true rfl⟩ rfl rfl (Nat.le_of_ble_eq_true rfl) ?_
  show wpm φ ad 6 [(0, .ref (ad o)), (1, .int a1)] [.int r3] s1
  refine w_if_ne (pc := 6) (tgt := 12) X dX8_judge_6 (by decide) (fun c16 => ?_) (fun c16 => ?_)
  · replace h := it_neg c16 h
    refine w_aload_n (pc := 12) X dX8_judge_12 0 rfl ?_
    obtain ⟨r6, s4, h5, h⟩ := bd2_inv h
    refine w_callV (pc := 13) X dX8_judge_13 (M8_playPad h5) k_o (by decide) rfl cw_8_117 ⟨Nat.le_of_ble_eq_true rfl, Nat.le_of_ble_eq_true rfl⟩ rfl rfl (Nat.le_of_ble_eq_true rfl) ?_
    show wpm φ ad 16 [(0, .ref (ad o)), (1, .int a1)] [.int r6] s4
    refine w_istore_n (pc := 16) X dX8_judge_16 2 rfl (by decide) (lv' := [(2, .int r6), (0, .ref (ad o)), (1, .int a1)]) rfl ?_
    refine w_iload_n (pc := 17) X dX8_judge_17 0 rfl ?_
    refine w_bipush (pc := 18) X dX8_judge_18 (v := (-5)) rfl ?_
    refine w_icmp_eq (pc := 20) (tgt := 34) X dX8_judge_20 (by decide) (fun c15 => ?_) (fun c15 => ?_)
    · replace h := it_pos c15 h
      refine w_iload_n (pc := 34) X dX8_judge_34 0 rfl ?_
      cases h
      exact w_iret X hQ dX8_judge_35
    · replace h := it_neg c15 h
      refine w_iload_n (pc := 23) X dX8_judge_23 0 rfl ?_
      refine w_bipush (pc := 24) X dX8_judge_24 (v := (-3)) rfl ?_
      refine w_icmp_ne (pc := 26) (tgt := 36) X dX8_judge_26 (by decide) (fun c14 => ?_) (fun c14 => ?_)
      · replace h := it_neg c14 h
        refine w_iload_n (pc := 36) X dX8_judge_36 2 rfl ?_
        by_cases c7 : a1 = 0
        · replace h := it_pos c7 h
          refine w_tswIn (pc := 37) (tgt := 64) X dX8_judge_37 c7 (by decide) (by decide) rfl (by decide) ?_
          refine w_aload_n (pc := 64) X dX8_judge_64 1 rfl ?_
          refine w_getR (pc := 65) X dX8_judge_65 clO_8 k_o 4 (by decide) (d := 27) rfl fl_8_32 ?_
          refine w_getI (pc := 68) X dX8_judge_68 clO_1 (kp_8_27 k_o) 4 (by decide) rfl fl_8_121 ?_
          cases h
          exact w_iret X hQ dX8_judge_71
        replace h := it_neg c7 h
        by_cases c8 : a1 = 1
        · replace h := it_pos c8 h
          refine w_tswIn (pc := 37) (tgt := 72) X dX8_judge_37 c8 (by decide) (by decide) rfl (by decide) ?_
          refine w_aload_n (pc := 72) X dX8_judge_72 1 rfl ?_
          refine w_getR (pc := 73) X dX8_judge_73 clO_8 k_o 4 (by decide) (d := 27) rfl fl_8_32 ?_
          refine w_getI (pc := 76) X dX8_judge_76 clO_1 (kp_8_27 k_o) 5 (by decide) rfl fl_8_124 ?_
          cases h
          exact w_iret X hQ dX8_judge_79
        replace h := it_neg c8 h
        by_cases c9 : a1 = 2
        · replace h := it_pos c9 h
          refine w_tswIn (pc := 37) (tgt := 80) X dX8_judge_37 c9 (by decide) (by decide) rfl (by decide) ?_
          refine w_aload_n (pc := 80) X dX8_judge_80 1 rfl ?_
          refine w_getR (pc := 81) X dX8_judge_81 clO_8 k_o 4 (by decide) (d := 27) rfl fl_8_32 ?_
          refine w_getR (pc := 84) X dX8_judge_84 clO_1 (kp_8_27 k_o) 3 (by decide) (d := 3) rfl fl_8_127 ?_
          refine w_getI (pc := 87) X dX8_judge_87 clO_2 (kp_1_3 (kp_8_27 k_o)) 5 (by decide) rfl fl_8_128 ?_
          cases h
          exact w_iret X hQ dX8_judge_90
        replace h := it_neg c9 h
        refine w_tswOut (pc := 37) (tgt := 91) X dX8_judge_37 (fun i i1 i2 => by
            rcases (show i = 0 ∨ i = 1 ∨ i = 2 by omega) with rfl | rfl | rfl
            · exact c7
            · exact c8
            · exact c9) (by decide) ?_
        refine w_aload_n (pc := 91) X dX8_judge_91 1 rfl ?_
        refine w_getR (pc := 92) X dX8_judge_92 clO_8 k_o 4 (by decide) (d := 27) rfl fl_8_32 ?_
        refine w_getR (pc := 95) X dX8_judge_95 clO_1 (kp_8_27 k_o) 3 (by decide) (d := 3) rfl fl_8_127 ?_
        refine w_getI (pc := 98) X dX8_judge_98 clO_2 (kp_1_3 (kp_8_27 k_o)) 6 (by decide) rfl fl_8_131 ?_
        cases h
        exact w_iret X hQ dX8_judge_101
      · replace h := it_pos c14 h
        refine w_iload_n (pc := 29) X dX8_judge_29 2 rfl ?_
        refine w_iconst (pc := 30) X dX8_judge_30 (v := 2) rfl ?_
        refine w_icmp_lt (pc := 31) (tgt := 36) X dX8_judge_31 (by decide) (fun c13 => ?_) (fun c13 => ?_)
        · replace h := it_pos c13 h
          refine w_iload_n (pc := 36) X dX8_judge_36 2 rfl ?_
          by_cases c10 : a1 = 0
          · replace h := it_pos c10 h
            refine w_tswIn (pc := 37) (tgt := 64) X dX8_judge_37 c10 (by decide) (by decide) rfl (by decide) ?_
            refine w_aload_n (pc := 64) X dX8_judge_64 1 rfl ?_
            refine w_getR (pc := 65) X dX8_judge_65 clO_8 k_o 4 (by decide) (d := 27) rfl fl_8_32 ?_
            refine w_getI (pc := 68) X dX8_judge_68 clO_1 (kp_8_27 k_o) 4 (by decide) rfl fl_8_121 ?_
            cases h
            exact w_iret X hQ dX8_judge_71
          replace h := it_neg c10 h
          by_cases c11 : a1 = 1
          · replace h := it_pos c11 h
            refine w_tswIn (pc := 37) (tgt := 72) X dX8_judge_37 c11 (by decide) (by decide) rfl (by decide) ?_
            refine w_aload_n (pc := 72) X dX8_judge_72 1 rfl ?_
            refine w_getR (pc := 73) X dX8_judge_73 clO_8 k_o 4 (by decide) (d := 27) rfl fl_8_32 ?_
            refine w_getI (pc := 76) X dX8_judge_76 clO_1 (kp_8_27 k_o) 5 (by decide) rfl fl_8_124 ?_
            cases h
            exact w_iret X hQ dX8_judge_79
          replace h := it_neg c11 h
          by_cases c12 : a1 = 2
          · replace h := it_pos c12 h
            refine w_tswIn (pc := 37) (tgt := 80) X dX8_judge_37 c12 (by decide) (by decide) rfl (by decide) ?_
            refine w_aload_n (pc := 80) X dX8_judge_80 1 rfl ?_
            refine w_getR (pc := 81) X dX8_judge_81 clO_8 k_o 4 (by decide) (d := 27) rfl fl_8_32 ?_
            refine w_getR (pc := 84) X dX8_judge_84 clO_1 (kp_8_27 k_o) 3 (by decide) (d := 3) rfl fl_8_127 ?_
            refine w_getI (pc := 87) X dX8_judge_87 clO_2 (kp_1_3 (kp_8_27 k_o)) 5 (by decide) rfl fl_8_128 ?_
            cases h
            exact w_iret X hQ dX8_judge_90
          replace h := it_neg c12 h
          refine w_tswOut (pc := 37) (tgt := 91) X dX8_judge_37 (fun i i1 i2 => by
              rcases (show i = 0 ∨ i = 1 ∨ i = 2 by omega) with rfl | rfl | rfl
              · exact c10
              · exact c11
              · exact c12) (by decide) ?_
          refine w_aload_n (pc := 91) X dX8_judge_91 1 rfl ?_
          refine w_getR (pc := 92) X dX8_judge_92 clO_8 k_o 4 (by decide) (d := 27) rfl fl_8_32 ?_
          refine w_getR (pc := 95) X dX8_judge_95 clO_1 (kp_8_27 k_o) 3 (by decide) (d := 3) rfl fl_8_127 ?_
          refine w_getI (pc := 98) X dX8_judge_98 clO_2 (kp_1_3 (kp_8_27 k_o)) 6 (by decide) rfl fl_8_131 ?_
          cases h
          exact w_iret X hQ dX8_judge_101
        · replace h := it_neg c13 h
          refine w_iload_n (pc := 34) X dX8_judge_34 0 rfl ?_
          cases h
          exact w_iret X hQ dX8_judge_35
  · replace h := it_pos c16 h
    refine w_bipush (pc := 9) X dX8_judge_9 (v := (-2)) rfl ?_
    cases h
    exact w_iret X hQ dX8_judge_11
set_option maxRecDepth 20000 in
theorem WL1_lowest_11 {φ : Fr} {ad : Nat → Nat} (X : Cx φ ad cX1_lowest (some .int) RX1 3 1 21) (o : Nat) (k_o : kd o = 1) : ∀ (fuel : Nat) (v1 : Int32) (v2 : Int32) (s : Sto) (t1 : Int32) (t : Sto), L1_lowest_11 o fuel v1 v2 s = some (t1, t) → wpm φ ad 38 [(1, .int t1)] [] t → wpm φ ad 11 [(0, .ref (ad o)), (1, .int v1), (2, .int v2)] [] s := by
  intro fuel
  induction fuel with
  | zero => intro v1 v2 s t1 t h; cases h
  | succ fuel ih =>
    intro v1 v2 s t1 t h K
    unfold L1_lowest_11 at h
    refine w_iload_n (pc := 11) X dX1_lowest_11 2 rfl ?_
    refine w_aload_n (pc := 12) X dX1_lowest_12 0 rfl ?_
    refine w_getI (pc := 13) X dX1_lowest_13 clO_1 k_o 1 (by decide) rfl fl_1_15 ?_
    refine w_icmp_gt (pc := 16) (tgt := 38) X dX1_lowest_16 (by decide) (fun c8 => ?_) (fun c8 => ?_)
    · replace h := it_pos c8 h
      cases h
      exact w_sub (pc := 38) [1] rfl K
    · replace h := it_neg c8 h
      refine w_iload_n (pc := 19) X dX1_lowest_19 1 rfl ?_
      refine w_aload_n (pc := 20) X dX1_lowest_20 0 rfl ?_
      refine w_getR (pc := 21) X dX1_lowest_21 clO_1 k_o 2 (by decide) (d := 2) rfl fl_1_19 ?_
      refine w_iload_n (pc := 24) X dX1_lowest_24 2 rfl ?_
      obtain ⟨r6, s4, h5, h⟩ := bd2_inv h
      refine w_callSN (pc := 25) X dX1_lowest_25 (M8_at h5) mn_1_41 cw_1_41 ⟨Nat.le_of_ble_eq_true rfl, Nat.le_of_ble_eq_true rfl⟩ rfl rfl (Nat.le_of_ble_eq_true rfl) ?_
      show wpm φ ad 28 [(0, .ref (ad o)), (1, .int v1), (2, .int v2)] [.int r6, .int v1] s4
      refine w_mmin (pc := 28) X dX1_lowest_28 cw_1_85 ⟨Nat.le_of_ble_eq_true rfl, Nat.le_of_ble_eq_true rfl⟩ ?_
      obtain ⟨x7, e_x7, h⟩ := nm_inv h
      refine w_nmi e_x7 ?_
      refine w_istore_n (pc := 31) X dX1_lowest_31 1 rfl (by decide) (lv' := [(1, .int x7), (0, .ref (ad o)), (2, .int v2)]) rfl ?_
      refine w_iinc (pc := 32) X dX1_lowest_32 2 rfl (v := (v2 + 1)) rfl (by decide) (lv' := [(2, .int (v2 + 1)), (1, .int x7), (0, .ref (ad o))]) rfl ?_
      refine w_goto (tgt := 11) (pc := 35) X dX1_lowest_35 (by decide) ?_
      exact w_sub (pc := 11) [2, 1, 0] rfl (ih _ _ _ _ _ h K)
set_option maxRecDepth 20000 in
theorem M1_lowest {o : Nat} {s : Sto} {r : Int32} {σ' : Sto} (h : f1_lowest o s = some (r, σ')) : Ct yX1_lowest cX1_lowest 3 (some .int) 1 21 (fun ad => [.ref (ad o)]) s (fun ad => some (.int r)) σ' := by
  unfold f1_lowest at h
  obtain ⟨k_o, h⟩ := gd_inv h
  refine Ct_of (by decide) (fun ad => Nat.le_of_ble_eq_true rfl) (fun φ ad X hQ => ?_)
  show wpm φ ad 0 [(0, .ref (ad o))] [] s
  replace X : Cx φ ad cX1_lowest (some .int) RX1 3 1 21 := X
  refine w_aload_n (pc := 0) X dX1_lowest_0 0 rfl ?_
  refine w_getR (pc := 1) X dX1_lowest_1 clO_1 k_o 2 (by decide) (d := 2) rfl fl_1_19 ?_
  refine w_iconst (pc := 4) X dX1_lowest_4 (v := 0) rfl ?_
  obtain ⟨r3, s1, h2, h⟩ := bd2_inv h
  refine w_callSN (pc := 5) X dX1_lowest_5 (M8_at h2) mn_1_41 cw_1_41 ⟨Nat.le_of_ble_eq_true rfl, Nat.le_of_ble_eq_true rfl⟩ rfl rfl (Nat.le_of_ble_eq_true rfl) ?_
  show wpm φ ad 8 [(0, .ref (ad o))] [.int r3] s1
  refine w_istore_n (pc := 8) X dX1_lowest_8 1 rfl (by decide) (lv' := [(1, .int r3), (0, .ref (ad o))]) rfl ?_
  refine w_iconst (pc := 9) X dX1_lowest_9 (v := 1) rfl ?_
  refine w_istore_n (pc := 10) X dX1_lowest_10 2 rfl (by decide) (lv' := [(2, .int (1 : Int32)), (1, .int r3), (0, .ref (ad o))]) rfl ?_
  obtain ⟨y10, s11, h9, h⟩ := bd2_inv h
  refine w_sub (pc := 11) [2, 1, 0] rfl (WL1_lowest_11 X o k_o FU r3 (1 : Int32) s1 y10 s11 h9 ?_)
  refine w_iload_n (pc := 38) X dX1_lowest_38 0 rfl ?_
  cases h
  exact w_iret X hQ dX1_lowest_39
set_option maxRecDepth 20000 in
theorem WL1_highest_11 {φ : Fr} {ad : Nat → Nat} (X : Cx φ ad cX1_highest (some .int) RX1 3 1 21) (o : Nat) (k_o : kd o = 1) : ∀ (fuel : Nat) (v1 : Int32) (v2 : Int32) (s : Sto) (t1 : Int32) (t : Sto), L1_highest_11 o fuel v1 v2 s = some (t1, t) → wpm φ ad 38 [(1, .int t1)] [] t → wpm φ ad 11 [(0, .ref (ad o)), (1, .int v1), (2, .int v2)] [] s := by
  intro fuel
  induction fuel with
  | zero => intro v1 v2 s t1 t h; cases h
  | succ fuel ih =>
    intro v1 v2 s t1 t h K
    unfold L1_highest_11 at h
    refine w_iload_n (pc := 11) X dX1_highest_11 2 rfl ?_
    refine w_aload_n (pc := 12) X dX1_highest_12 0 rfl ?_
    refine w_getI (pc := 13) X dX1_highest_13 clO_1 k_o 1 (by decide) rfl fl_1_15 ?_
    refine w_icmp_gt (pc := 16) (tgt := 38) X dX1_highest_16 (by decide) (fun c8 => ?_) (fun c8 => ?_)
    · replace h := it_pos c8 h
      cases h
      exact w_sub (pc := 38) [1] rfl K
    · replace h := it_neg c8 h
      refine w_iload_n (pc := 19) X dX1_highest_19 1 rfl ?_
      refine w_aload_n (pc := 20) X dX1_highest_20 0 rfl ?_
      refine w_getR (pc := 21) X dX1_highest_21 clO_1 k_o 2 (by decide) (d := 2) rfl fl_1_19 ?_
      refine w_iload_n (pc := 24) X dX1_highest_24 2 rfl ?_
      obtain ⟨r6, s4, h5, h⟩ := bd2_inv h
      refine w_callSN (pc := 25) X dX1_highest_25 (M8_at h5) mn_1_41 cw_1_41 ⟨Nat.le_of_ble_eq_true rfl, Nat.le_of_ble_eq_true rfl⟩ rfl rfl (Nat.le_of_ble_eq_true rfl) ?_
      show wpm φ ad 28 [(0, .ref (ad o)), (1, .int v1), (2, .int v2)] [.int r6, .int v1] s4
      refine w_mmax (pc := 28) X dX1_highest_28 cw_1_91 ⟨Nat.le_of_ble_eq_true rfl, Nat.le_of_ble_eq_true rfl⟩ ?_
      obtain ⟨x7, e_x7, h⟩ := nm_inv h
      refine w_nmi e_x7 ?_
      refine w_istore_n (pc := 31) X dX1_highest_31 1 rfl (by decide) (lv' := [(1, .int x7), (0, .ref (ad o)), (2, .int v2)]) rfl ?_
      refine w_iinc (pc := 32) X dX1_highest_32 2 rfl (v := (v2 + 1)) rfl (by decide) (lv' := [(2, .int (v2 + 1)), (1, .int x7), (0, .ref (ad o))]) rfl ?_
      refine w_goto (tgt := 11) (pc := 35) X dX1_highest_35 (by decide) ?_
      exact w_sub (pc := 11) [2, 1, 0] rfl (ih _ _ _ _ _ h K)
set_option maxRecDepth 20000 in
theorem M1_highest {o : Nat} {s : Sto} {r : Int32} {σ' : Sto} (h : f1_highest o s = some (r, σ')) : Ct yX1_highest cX1_highest 3 (some .int) 1 21 (fun ad => [.ref (ad o)]) s (fun ad => some (.int r)) σ' := by
  unfold f1_highest at h
  obtain ⟨k_o, h⟩ := gd_inv h
  refine Ct_of (by decide) (fun ad => Nat.le_of_ble_eq_true rfl) (fun φ ad X hQ => ?_)
  show wpm φ ad 0 [(0, .ref (ad o))] [] s
  replace X : Cx φ ad cX1_highest (some .int) RX1 3 1 21 := X
  refine w_aload_n (pc := 0) X dX1_highest_0 0 rfl ?_
  refine w_getR (pc := 1) X dX1_highest_1 clO_1 k_o 2 (by decide) (d := 2) rfl fl_1_19 ?_
  refine w_iconst (pc := 4) X dX1_highest_4 (v := 0) rfl ?_
  obtain ⟨r3, s1, h2, h⟩ := bd2_inv h
  refine w_callSN (pc := 5) X dX1_highest_5 (M8_at h2) mn_1_41 cw_1_41 ⟨Nat.le_of_ble_eq_true rfl, Nat.le_of_ble_eq_true rfl⟩ rfl rfl (Nat.le_of_ble_eq_true rfl) ?_
  show wpm φ ad 8 [(0, .ref (ad o))] [.int r3] s1
  refine w_istore_n (pc := 8) X dX1_highest_8 1 rfl (by decide) (lv' := [(1, .int r3), (0, .ref (ad o))]) rfl ?_
  refine w_iconst (pc := 9) X dX1_highest_9 (v := 1) rfl ?_
  refine w_istore_n (pc := 10) X dX1_highest_10 2 rfl (by decide) (lv' := [(2, .int (1 : Int32)), (1, .int r3), (0, .ref (ad o))]) rfl ?_
  obtain ⟨y10, s11, h9, h⟩ := bd2_inv h
  refine w_sub (pc := 11) [2, 1, 0] rfl (WL1_highest_11 X o k_o FU r3 (1 : Int32) s1 y10 s11 h9 ?_)
  refine w_iload_n (pc := 38) X dX1_highest_38 0 rfl ?_
  cases h
  exact w_iret X hQ dX1_highest_39
set_option maxRecDepth 20000 in
theorem M8_behind {o : Nat} {a1 : Int32} {s : Sto} {r : Int32} {σ' : Sto} (h : f8_behind o a1 s = some (r, σ')) : Ct yX8_behind cX8_behind 3 (some .int) 6 132 (fun ad => [.ref (ad o), .int a1]) s (fun ad => some (.int r)) σ' := by
  unfold f8_behind at h
  obtain ⟨k_o, h⟩ := gd_inv h
  refine Ct_of (by decide) (fun ad => Nat.le_of_ble_eq_true rfl) (fun φ ad X hQ => ?_)
  show wpm φ ad 0 [(0, .ref (ad o)), (1, .int a1)] [] s
  replace X : Cx φ ad cX8_behind (some .int) RX8 3 6 132 := X
  refine w_iload_n (pc := 0) X dX8_behind_0 1 rfl ?_
  refine w_iconst (pc := 1) X dX8_behind_1 (v := 0) rfl ?_
  refine w_iconst (pc := 2) X dX8_behind_2 (v := 3) rfl ?_
  obtain ⟨r3, s1, h2, h⟩ := bd2_inv h
  refine w_callS (pc := 3) X dX8_behind_3 (M8_isWithin h2) rfl cw_8_64 ⟨Nat.le_of_ble_eq_true rfl, Nat.le_of_ble_eq_true rfl⟩ rfl rfl (Nat.le_of_ble_eq_true rfl) ?_
  show wpm φ ad 6 [(0, .ref (ad o)), (1, .int a1)] [.int r3] s1
  refine w_if_ne (pc := 6) (tgt := 12) X dX8_behind_6 (by decide) (fun c17 => ?_) (fun c17 => ?_)
  · replace h := it_neg c17 h
    refine w_aload_n (pc := 12) X dX8_behind_12 0 rfl ?_
    obtain ⟨r6, s4, h5, h⟩ := bd2_inv h
    refine w_callV (pc := 13) X dX8_behind_13 (M8_playPad h5) k_o (by decide) rfl cw_8_117 ⟨Nat.le_of_ble_eq_true rfl, Nat.le_of_ble_eq_true rfl⟩ rfl rfl (Nat.le_of_ble_eq_true rfl) ?_
    show wpm φ ad 16 [(0, .ref (ad o)), (1, .int a1)] [.int r6] s4
    refine w_istore_n (pc := 16) X dX8_behind_16 2 rfl (by decide) (lv' := [(2, .int r6), (0, .ref (ad o)), (1, .int a1)]) rfl ?_
    refine w_iload_n (pc := 17) X dX8_behind_17 0 rfl ?_
    refine w_if_eq (pc := 18) (tgt := 23) X dX8_behind_18 (by decide) (fun c16 => ?_) (fun c16 => ?_)
    · replace h := it_pos c16 h
      refine w_iload_n (pc := 23) X dX8_behind_23 2 rfl ?_
      by_cases c13 : a1 = 0
      · replace h := it_pos c13 h
        refine w_tswIn (pc := 24) (tgt := 52) X dX8_behind_24 c13 (by decide) (by decide) rfl (by decide) ?_
        refine w_aload_n (pc := 52) X dX8_behind_52 1 rfl ?_
        refine w_getR (pc := 53) X dX8_behind_53 clO_8 k_o 4 (by decide) (d := 27) rfl fl_8_32 ?_
        refine w_getR (pc := 56) X dX8_behind_56 clO_1 (kp_8_27 k_o) 3 (by decide) (d := 3) rfl fl_8_127 ?_
        refine w_getI (pc := 59) X dX8_behind_59 clO_2 (kp_1_3 (kp_8_27 k_o)) 3 (by decide) rfl fl_8_134 ?_
        cases h
        exact w_iret X hQ dX8_behind_62
      replace h := it_neg c13 h
      by_cases c14 : a1 = 1
      · replace h := it_pos c14 h
        refine w_tswIn (pc := 24) (tgt := 63) X dX8_behind_24 c14 (by decide) (by decide) rfl (by decide) ?_
        refine w_aload_n (pc := 63) X dX8_behind_63 1 rfl ?_
        refine w_getR (pc := 64) X dX8_behind_64 clO_8 k_o 4 (by decide) (d := 27) rfl fl_8_32 ?_
        refine w_getR (pc := 67) X dX8_behind_67 clO_1 (kp_8_27 k_o) 3 (by decide) (d := 3) rfl fl_8_127 ?_
        refine w_getI (pc := 70) X dX8_behind_70 clO_2 (kp_1_3 (kp_8_27 k_o)) 4 (by decide) rfl fl_8_99 ?_
        cases h
        exact w_iret X hQ dX8_behind_73
      replace h := it_neg c14 h
      by_cases c15 : a1 = 2
      · replace h := it_pos c15 h
        refine w_tswIn (pc := 24) (tgt := 74) X dX8_behind_24 c15 (by decide) (by decide) rfl (by decide) ?_
        refine w_aload_n (pc := 74) X dX8_behind_74 1 rfl ?_
        refine w_getR (pc := 75) X dX8_behind_75 clO_8 k_o 4 (by decide) (d := 27) rfl fl_8_32 ?_
        obtain ⟨r9, s7, h8, h⟩ := bd2_inv h
        refine w_callV (pc := 78) X dX8_behind_78 (M1_lowest h8) (kp_8_27 k_o) (by decide) rfl cw_8_135 ⟨Nat.le_of_ble_eq_true rfl, Nat.le_of_ble_eq_true rfl⟩ rfl rfl (Nat.le_of_ble_eq_true rfl) ?_
        show wpm φ ad 81 [(2, .int r6), (0, .ref (ad o)), (1, .int a1)] [.int r9] s7
        cases h
        exact w_iret X hQ dX8_behind_81
      replace h := it_neg c15 h
      refine w_tswOut (pc := 24) (tgt := 82) X dX8_behind_24 (fun i i1 i2 => by
          rcases (show i = 0 ∨ i = 1 ∨ i = 2 by omega) with rfl | rfl | rfl
          · exact c13
          · exact c14
          · exact c15) (by decide) ?_
      refine w_aload_n (pc := 82) X dX8_behind_82 1 rfl ?_
      refine w_getR (pc := 83) X dX8_behind_83 clO_8 k_o 4 (by decide) (d := 27) rfl fl_8_32 ?_
      obtain ⟨r12, s10, h11, h⟩ := bd2_inv h
      refine w_callV (pc := 86) X dX8_behind_86 (M1_highest h11) (kp_8_27 k_o) (by decide) rfl cw_8_138 ⟨Nat.le_of_ble_eq_true rfl, Nat.le_of_ble_eq_true rfl⟩ rfl rfl (Nat.le_of_ble_eq_true rfl) ?_
      show wpm φ ad 89 [(2, .int r6), (0, .ref (ad o)), (1, .int a1)] [.int r12] s10
      cases h
      exact w_iret X hQ dX8_behind_89
    · replace h := it_neg c16 h
      refine w_iload_n (pc := 21) X dX8_behind_21 0 rfl ?_
      cases h
      exact w_iret X hQ dX8_behind_22
  · replace h := it_pos c17 h
    refine w_bipush (pc := 9) X dX8_behind_9 (v := (-2)) rfl ?_
    cases h
    exact w_iret X hQ dX8_behind_11
set_option maxRecDepth 20000 in
theorem M2_has {o : Nat} {a1 : Int32} {s : Sto} {r : Int32} {σ' : Sto} (h : f2_has o a1 s = some (r, σ')) : Ct yX2_has cX2_has 2 (some .boolean) 0 0 (fun ad => [.ref (ad o), .int a1]) s (fun ad => some (.int r)) σ' := by
  unfold f2_has at h
  obtain ⟨k_o, h⟩ := gd_inv h
  refine Ct_of (by decide) (fun ad => Nat.le_of_ble_eq_true rfl) (fun φ ad X hQ => ?_)
  show wpm φ ad 0 [(0, .ref (ad o)), (1, .int a1)] [] s
  replace X : Cx φ ad cX2_has (some .boolean) RX2 2 0 0 := X
  refine w_iload_n (pc := 0) X dX2_has_0 1 rfl ?_
  refine w_if_lt (pc := 1) (tgt := 16) X dX2_has_1 (by decide) (fun c2 => ?_) (fun c2 => ?_)
  · replace h := it_pos c2 h
    refine w_iconst (pc := 16) X dX2_has_16 (v := 0) rfl ?_
    cases h
    exact w_zret X hQ dX2_has_17 (Or.inl rfl)
  · replace h := it_neg c2 h
    refine w_iload_n (pc := 4) X dX2_has_4 1 rfl ?_
    refine w_aload_n (pc := 5) X dX2_has_5 0 rfl ?_
    refine w_getI (pc := 6) X dX2_has_6 clO_2 k_o 3 (by decide) rfl fl_2_21 ?_
    refine w_icmp_ge (pc := 9) (tgt := 16) X dX2_has_9 (by decide) (fun c1 => ?_) (fun c1 => ?_)
    · replace h := it_pos c1 h
      refine w_iconst (pc := 16) X dX2_has_16 (v := 0) rfl ?_
      cases h
      exact w_zret X hQ dX2_has_17 (Or.inl rfl)
    · replace h := it_neg c1 h
      refine w_iconst (pc := 12) X dX2_has_12 (v := 1) rfl ?_
      refine w_goto (tgt := 17) (pc := 13) X dX2_has_13 (by decide) ?_
      cases h
      exact w_zret X hQ dX2_has_17 (Or.inr rfl)
set_option maxRecDepth 20000 in
theorem M2_kindAt {o : Nat} {a1 : Int32} {s : Sto} {r : Int32} {σ' : Sto} (h : f2_kindAt o a1 s = some (r, σ')) : Ct yX2_kindAt cX2_kindAt 2 (some .int) 1 21 (fun ad => [.ref (ad o), .int a1]) s (fun ad => some (.int r)) σ' := by
  unfold f2_kindAt at h
  obtain ⟨k_o, h⟩ := gd_inv h
  refine Ct_of (by decide) (fun ad => Nat.le_of_ble_eq_true rfl) (fun φ ad X hQ => ?_)
  show wpm φ ad 0 [(0, .ref (ad o)), (1, .int a1)] [] s
  replace X : Cx φ ad cX2_kindAt (some .int) RX2 2 1 21 := X
  refine w_aload_n (pc := 0) X dX2_kindAt_0 0 rfl ?_
  refine w_getR (pc := 1) X dX2_kindAt_1 clO_2 k_o 1 (by decide) (d := 2) rfl fl_2_15 ?_
  refine w_iload_n (pc := 4) X dX2_kindAt_4 1 rfl ?_
  obtain ⟨r3, s1, h2, h⟩ := bd2_inv h
  refine w_callSN (pc := 5) X dX2_kindAt_5 (M8_at h2) mn_2_41 cw_2_41 ⟨Nat.le_of_ble_eq_true rfl, Nat.le_of_ble_eq_true rfl⟩ rfl rfl (Nat.le_of_ble_eq_true rfl) ?_
  show wpm φ ad 8 [(0, .ref (ad o)), (1, .int a1)] [.int r3] s1
  cases h
  exact w_iret X hQ dX2_kindAt_8
set_option maxRecDepth 20000 in
theorem M2_tellRow {o : Nat} {a1 : Int32} {a2 : Int32} {s : Sto} {r : Int32} {σ' : Sto} (h : f2_tellRow o a1 a2 s = some (r, σ')) : Ct yX2_tellRow cX2_tellRow 3 (some .int) 2 42 (fun ad => [.ref (ad o), .int a1, .int a2]) s (fun ad => some (.int r)) σ' := by
  unfold f2_tellRow at h
  obtain ⟨k_o, h⟩ := gd_inv h
  refine Ct_of (by decide) (fun ad => Nat.le_of_ble_eq_true rfl) (fun φ ad X hQ => ?_)
  show wpm φ ad 0 [(0, .ref (ad o)), (1, .int a1), (2, .int a2)] [] s
  replace X : Cx φ ad cX2_tellRow (some .int) RX2 3 2 42 := X
  refine w_iload_n (pc := 0) X dX2_tellRow_0 2 rfl ?_
  refine w_if_ne (pc := 1) (tgt := 10) X dX2_tellRow_1 (by decide) (fun c11 => ?_) (fun c11 => ?_)
  · replace h := it_neg c11 h
    refine w_iload_n (pc := 10) X dX2_tellRow_10 2 rfl ?_
    refine w_iconst (pc := 11) X dX2_tellRow_11 (v := 1) rfl ?_
    refine w_icmp_ne (pc := 12) (tgt := 23) X dX2_tellRow_12 (by decide) (fun c7 => ?_) (fun c7 => ?_)
    · replace h := it_neg c7 h
      refine w_aload_n (pc := 23) X dX2_tellRow_23 0 rfl ?_
      refine w_getR (pc := 24) X dX2_tellRow_24 clO_2 k_o 2 (by decide) (d := 3) rfl fl_2_18 ?_
      refine w_iload_n (pc := 27) X dX2_tellRow_27 1 rfl ?_
      obtain ⟨r3, s1, h2, h⟩ := bd2_inv h
      refine w_callSN (pc := 28) X dX2_tellRow_28 (M8_at h2) mn_2_41 cw_2_41 ⟨Nat.le_of_ble_eq_true rfl, Nat.le_of_ble_eq_true rfl⟩ rfl rfl (Nat.le_of_ble_eq_true rfl) ?_
      show wpm φ ad 31 [(0, .ref (ad o)), (1, .int a1), (2, .int a2)] [.int r3] s1
      cases h
      exact w_iret X hQ dX2_tellRow_31
    · replace h := it_pos c7 h
      refine w_aload_n (pc := 15) X dX2_tellRow_15 0 rfl ?_
      refine w_iload_n (pc := 16) X dX2_tellRow_16 1 rfl ?_
      obtain ⟨r6, s4, h5, h⟩ := bd2_inv h
      refine w_callV (pc := 17) X dX2_tellRow_17 (M2_kindAt h5) k_o (by decide) rfl cw_2_49 ⟨Nat.le_of_ble_eq_true rfl, Nat.le_of_ble_eq_true rfl⟩ rfl rfl (Nat.le_of_ble_eq_true rfl) ?_
      show wpm φ ad 20 [(0, .ref (ad o)), (1, .int a1), (2, .int a2)] [.int r6] s4
      refine w_goto (tgt := 31) (pc := 20) X dX2_tellRow_20 (by decide) ?_
      cases h
      exact w_iret X hQ dX2_tellRow_31
  · replace h := it_pos c11 h
    refine w_aload_n (pc := 4) X dX2_tellRow_4 0 rfl ?_
    refine w_iload_n (pc := 5) X dX2_tellRow_5 1 rfl ?_
    obtain ⟨r10, s8, h9, h⟩ := bd2_inv h
    refine w_callV (pc := 6) X dX2_tellRow_6 (M2_colourAt h9) k_o (by decide) rfl cw_2_45 ⟨Nat.le_of_ble_eq_true rfl, Nat.le_of_ble_eq_true rfl⟩ rfl rfl (Nat.le_of_ble_eq_true rfl) ?_
    show wpm φ ad 9 [(0, .ref (ad o)), (1, .int a1), (2, .int a2)] [.int r10] s8
    cases h
    exact w_iret X hQ dX2_tellRow_9
set_option maxRecDepth 20000 in
theorem M8_row {o : Nat} {a1 : Int32} {a2 : Int32} {s : Sto} {r : Int32} {σ' : Sto} (h : f8_row o a1 a2 s = some (r, σ')) : Ct yX8_row cX8_row 4 (some .int) 6 132 (fun ad => [.ref (ad o), .int a1, .int a2]) s (fun ad => some (.int r)) σ' := by
  unfold f8_row at h
  obtain ⟨k_o, h⟩ := gd_inv h
  refine Ct_of (by decide) (fun ad => Nat.le_of_ble_eq_true rfl) (fun φ ad X hQ => ?_)
  show wpm φ ad 0 [(0, .ref (ad o)), (1, .int a1), (2, .int a2)] [] s
  replace X : Cx φ ad cX8_row (some .int) RX8 4 6 132 := X
  refine w_iload_n (pc := 0) X dX8_row_0 2 rfl ?_
  refine w_iconst (pc := 1) X dX8_row_1 (v := 0) rfl ?_
  refine w_iconst (pc := 2) X dX8_row_2 (v := 2) rfl ?_
  obtain ⟨r3, s1, h2, h⟩ := bd2_inv h
  refine w_callS (pc := 3) X dX8_row_3 (M8_isWithin h2) rfl cw_8_64 ⟨Nat.le_of_ble_eq_true rfl, Nat.le_of_ble_eq_true rfl⟩ rfl rfl (Nat.le_of_ble_eq_true rfl) ?_
  show wpm φ ad 6 [(0, .ref (ad o)), (1, .int a1), (2, .int a2)] [.int r3] s1
  refine w_if_ne (pc := 6) (tgt := 12) X dX8_row_6 (by decide) (fun c15 => ?_) (fun c15 => ?_)
  · replace h := it_neg c15 h
    refine w_aload_n (pc := 12) X dX8_row_12 0 rfl ?_
    obtain ⟨r6, s4, h5, h⟩ := bd2_inv h
    refine w_callV (pc := 13) X dX8_row_13 (M8_playPad h5) k_o (by decide) rfl cw_8_117 ⟨Nat.le_of_ble_eq_true rfl, Nat.le_of_ble_eq_true rfl⟩ rfl rfl (Nat.le_of_ble_eq_true rfl) ?_
    show wpm φ ad 16 [(0, .ref (ad o)), (1, .int a1), (2, .int a2)] [.int r6] s4
    refine w_istore_n (pc := 16) X dX8_row_16 3 rfl (by decide) (lv' := [(3, .int r6), (0, .ref (ad o)), (1, .int a1), (2, .int a2)]) rfl ?_
    refine w_iload_n (pc := 17) X dX8_row_17 0 rfl ?_
    refine w_if_eq (pc := 18) (tgt := 23) X dX8_row_18 (by decide) (fun c14 => ?_) (fun c14 => ?_)
    · replace h := it_pos c14 h
      refine w_aload_n (pc := 23) X dX8_row_23 1 rfl ?_
      refine w_getR (pc := 24) X dX8_row_24 clO_8 k_o 4 (by decide) (d := 27) rfl fl_8_32 ?_
      refine w_getR (pc := 27) X dX8_row_27 clO_1 (kp_8_27 k_o) 3 (by decide) (d := 3) rfl fl_8_127 ?_
      refine w_iload_n (pc := 30) X dX8_row_30 2 rfl ?_
      obtain ⟨r9, s7, h8, h⟩ := bd2_inv h
      refine w_callV (pc := 31) X dX8_row_31 (M2_has h8) (kp_1_3 (kp_8_27 k_o)) (by decide) rfl cw_8_141 ⟨Nat.le_of_ble_eq_true rfl, Nat.le_of_ble_eq_true rfl⟩ rfl rfl (Nat.le_of_ble_eq_true rfl) ?_
      show wpm φ ad 34 [(3, .int r6), (0, .ref (ad o)), (1, .int a1), (2, .int a2)] [.int r9] s7
      refine w_if_eq (pc := 34) (tgt := 52) X dX8_row_34 (by decide) (fun c13 => ?_) (fun c13 => ?_)
      · replace h := it_pos c13 h
        refine w_iconst (pc := 52) X dX8_row_52 (v := (-1)) rfl ?_
        cases h
        exact w_iret X hQ dX8_row_53
      · replace h := it_neg c13 h
        refine w_aload_n (pc := 37) X dX8_row_37 1 rfl ?_
        refine w_getR (pc := 38) X dX8_row_38 clO_8 k_o 4 (by decide) (d := 27) rfl fl_8_32 ?_
        refine w_getR (pc := 41) X dX8_row_41 clO_1 (kp_8_27 k_o) 3 (by decide) (d := 3) rfl fl_8_127 ?_
        refine w_iload_n (pc := 44) X dX8_row_44 2 rfl ?_
        refine w_iload_n (pc := 45) X dX8_row_45 3 rfl ?_
        obtain ⟨r12, s10, h11, h⟩ := bd2_inv h
        refine w_callV (pc := 46) X dX8_row_46 (M2_tellRow h11) (kp_1_3 (kp_8_27 k_o)) (by decide) rfl cw_8_144 ⟨Nat.le_of_ble_eq_true rfl, Nat.le_of_ble_eq_true rfl⟩ rfl rfl (Nat.le_of_ble_eq_true rfl) ?_
        show wpm φ ad 49 [(3, .int r6), (0, .ref (ad o)), (1, .int a1), (2, .int a2)] [.int r12] s10
        refine w_goto (tgt := 53) (pc := 49) X dX8_row_49 (by decide) ?_
        cases h
        exact w_iret X hQ dX8_row_53
    · replace h := it_neg c14 h
      refine w_iload_n (pc := 21) X dX8_row_21 0 rfl ?_
      cases h
      exact w_iret X hQ dX8_row_22
  · replace h := it_pos c15 h
    refine w_bipush (pc := 9) X dX8_row_9 (v := (-2)) rfl ?_
    cases h
    exact w_iret X hQ dX8_row_11
set_option maxRecDepth 20000 in
theorem WL1_remarkTaking_2 {φ : Fr} {ad : Nat → Nat} (X : Cx φ ad cX1_remarkTaking (some .int) RX1 3 1 21) (o : Nat) (a1 : Int32) (k_o : kd o = 1) {r : Int32} {σ' : Sto} (hQ : Fini φ ad (some (.int r)) σ') : ∀ (fuel : Nat) (v2 : Int32) (s : Sto), L1_remarkTaking_2 o a1 fuel v2 s = some (r, σ') → wpm φ ad 2 [(0, .ref (ad o)), (1, .int a1), (2, .int v2)] [] s := by
  intro fuel
  induction fuel with
  | zero => intro v2 s h; cases h
  | succ fuel ih =>
    intro v2 s h
    unfold L1_remarkTaking_2 at h
    refine w_iload_n (pc := 2) X dX1_remarkTaking_2 2 rfl ?_
    refine w_aload_n (pc := 3) X dX1_remarkTaking_3 0 rfl ?_
    refine w_getI (pc := 4) X dX1_remarkTaking_4 clO_1 k_o 1 (by decide) rfl fl_1_15 ?_
    refine w_icmp_ge (pc := 7) (tgt := 32) X dX1_remarkTaking_7 (by decide) (fun c5 => ?_) (fun c5 => ?_)
    · replace h := it_pos c5 h
      refine w_bipush (pc := 32) X dX1_remarkTaking_32 (v := (-6)) rfl ?_
      cases h
      exact w_iret X hQ dX1_remarkTaking_34
    · replace h := it_neg c5 h
      refine w_aload_n (pc := 10) X dX1_remarkTaking_10 0 rfl ?_
      refine w_getR (pc := 11) X dX1_remarkTaking_11 clO_1 k_o 2 (by decide) (d := 2) rfl fl_1_19 ?_
      refine w_iload_n (pc := 14) X dX1_remarkTaking_14 2 rfl ?_
      refine w_iconst (pc := 15) X dX1_remarkTaking_15 (v := 1) rfl ?_
      refine w_iadd (pc := 16) X dX1_remarkTaking_16 ?_
      obtain ⟨r3, s1, h2, h⟩ := bd2_inv h
      refine w_callSN (pc := 17) X dX1_remarkTaking_17 (M8_at h2) mn_1_41 cw_1_41 ⟨Nat.le_of_ble_eq_true rfl, Nat.le_of_ble_eq_true rfl⟩ rfl rfl (Nat.le_of_ble_eq_true rfl) ?_
      show wpm φ ad 20 [(0, .ref (ad o)), (1, .int a1), (2, .int v2)] [.int r3] s1
      refine w_iload_n (pc := 20) X dX1_remarkTaking_20 1 rfl ?_
      refine w_icmp_gt (pc := 21) (tgt := 26) X dX1_remarkTaking_21 (by decide) (fun c4 => ?_) (fun c4 => ?_)
      · replace h := it_pos c4 h
        refine w_iinc (pc := 26) X dX1_remarkTaking_26 2 rfl (v := (v2 + 1)) rfl (by decide) (lv' := [(2, .int (v2 + 1)), (0, .ref (ad o)), (1, .int a1)]) rfl ?_
        refine w_goto (tgt := 2) (pc := 29) X dX1_remarkTaking_29 (by decide) ?_
        exact w_sub (pc := 2) [1, 2, 0] rfl (ih _ _ h)
      · replace h := it_neg c4 h
        refine w_iload_n (pc := 24) X dX1_remarkTaking_24 2 rfl ?_
        cases h
        exact w_iret X hQ dX1_remarkTaking_25
set_option maxRecDepth 20000 in
theorem M1_remarkTaking {o : Nat} {a1 : Int32} {s : Sto} {r : Int32} {σ' : Sto} (h : f1_remarkTaking o a1 s = some (r, σ')) : Ct yX1_remarkTaking cX1_remarkTaking 3 (some .int) 1 21 (fun ad => [.ref (ad o), .int a1]) s (fun ad => some (.int r)) σ' := by
  unfold f1_remarkTaking at h
  obtain ⟨k_o, h⟩ := gd_inv h
  refine Ct_of (by decide) (fun ad => Nat.le_of_ble_eq_true rfl) (fun φ ad X hQ => ?_)
  show wpm φ ad 0 [(0, .ref (ad o)), (1, .int a1)] [] s
  replace X : Cx φ ad cX1_remarkTaking (some .int) RX1 3 1 21 := X
  refine w_iconst (pc := 0) X dX1_remarkTaking_0 (v := 0) rfl ?_
  refine w_istore_n (pc := 1) X dX1_remarkTaking_1 2 rfl (by decide) (lv' := [(2, .int (0 : Int32)), (0, .ref (ad o)), (1, .int a1)]) rfl ?_
  exact w_sub (pc := 2) [1, 2, 0] rfl (WL1_remarkTaking_2 X o a1 k_o hQ FU (0 : Int32) s h)
set_option maxRecDepth 20000 in
theorem M8_lost {o : Nat} {a1 : Int32} {s : Sto} {r : Int32} {σ' : Sto} (h : f8_lost o a1 s = some (r, σ')) : Ct yX8_lost cX8_lost 3 (some .int) 6 132 (fun ad => [.ref (ad o), .int a1]) s (fun ad => some (.int r)) σ' := by
  unfold f8_lost at h
  obtain ⟨k_o, h⟩ := gd_inv h
  refine Ct_of (by decide) (fun ad => Nat.le_of_ble_eq_true rfl) (fun φ ad X hQ => ?_)
  show wpm φ ad 0 [(0, .ref (ad o)), (1, .int a1)] [] s
  replace X : Cx φ ad cX8_lost (some .int) RX8 3 6 132 := X
  refine w_aload_n (pc := 0) X dX8_lost_0 0 rfl ?_
  refine w_getR (pc := 1) X dX8_lost_1 clO_8 k_o 0 (by decide) (d := 1) rfl fl_8_10 ?_
  refine w_getR (pc := 4) X dX8_lost_4 clO_0 (kp_8_1 k_o) 3 (by decide) (d := 2) rfl fl_8_95 ?_
  refine w_iload_n (pc := 7) X dX8_lost_7 1 rfl ?_
  obtain ⟨r3, s1, h2, h⟩ := bd2_inv h
  refine w_callV (pc := 8) X dX8_lost_8 (M2_has h2) (kp_0_2 (kp_8_1 k_o)) (by decide) rfl cw_8_141 ⟨Nat.le_of_ble_eq_true rfl, Nat.le_of_ble_eq_true rfl⟩ rfl rfl (Nat.le_of_ble_eq_true rfl) ?_
  show wpm φ ad 11 [(0, .ref (ad o)), (1, .int a1)] [.int r3] s1
  refine w_if_ne (pc := 11) (tgt := 16) X dX8_lost_11 (by decide) (fun c11 => ?_) (fun c11 => ?_)
  · replace h := it_neg c11 h
    refine w_aload_n (pc := 16) X dX8_lost_16 0 rfl ?_
    obtain ⟨r6, s4, h5, h⟩ := bd2_inv h
    refine w_callV (pc := 17) X dX8_lost_17 (M8_playPad h5) k_o (by decide) rfl cw_8_117 ⟨Nat.le_of_ble_eq_true rfl, Nat.le_of_ble_eq_true rfl⟩ rfl rfl (Nat.le_of_ble_eq_true rfl) ?_
    show wpm φ ad 20 [(0, .ref (ad o)), (1, .int a1)] [.int r6] s4
    refine w_istore_n (pc := 20) X dX8_lost_20 2 rfl (by decide) (lv' := [(2, .int r6), (0, .ref (ad o)), (1, .int a1)]) rfl ?_
    refine w_iload_n (pc := 21) X dX8_lost_21 0 rfl ?_
    refine w_if_eq (pc := 22) (tgt := 29) X dX8_lost_22 (by decide) (fun c10 => ?_) (fun c10 => ?_)
    · replace h := it_pos c10 h
      refine w_aload_n (pc := 29) X dX8_lost_29 1 rfl ?_
      refine w_getR (pc := 30) X dX8_lost_30 clO_8 k_o 4 (by decide) (d := 27) rfl fl_8_32 ?_
      refine w_iload_n (pc := 33) X dX8_lost_33 2 rfl ?_
      obtain ⟨r9, s7, h8, h⟩ := bd2_inv h
      refine w_callV (pc := 34) X dX8_lost_34 (M1_remarkTaking h8) (kp_8_27 k_o) (by decide) rfl cw_8_148 ⟨Nat.le_of_ble_eq_true rfl, Nat.le_of_ble_eq_true rfl⟩ rfl rfl (Nat.le_of_ble_eq_true rfl) ?_
      show wpm φ ad 37 [(2, .int r6), (0, .ref (ad o)), (1, .int a1)] [.int r9] s7
      cases h
      exact w_iret X hQ dX8_lost_37
    · replace h := it_neg c10 h
      refine w_iload_n (pc := 25) X dX8_lost_25 0 rfl ?_
      refine w_goto (tgt := 37) (pc := 26) X dX8_lost_26 (by decide) ?_
      cases h
      exact w_iret X hQ dX8_lost_37
  · replace h := it_pos c11 h
    refine w_iconst (pc := 14) X dX8_lost_14 (v := (-1)) rfl ?_
    cases h
    exact w_iret X hQ dX8_lost_15
set_option maxRecDepth 20000 in
theorem M8_done {o : Nat} {s : Sto} {r : Int32} {σ' : Sto} (h : f8_done o s = some (r, σ')) : Ct yX8_done cX8_done 2 (some .int) 6 132 (fun ad => [.ref (ad o)]) s (fun ad => some (.int r)) σ' := by
  unfold f8_done at h
  obtain ⟨k_o, h⟩ := gd_inv h
  refine Ct_of (by decide) (fun ad => Nat.le_of_ble_eq_true rfl) (fun φ ad X hQ => ?_)
  show wpm φ ad 0 [(0, .ref (ad o))] [] s
  replace X : Cx φ ad cX8_done (some .int) RX8 2 6 132 := X
  refine w_aload_n (pc := 0) X dX8_done_0 0 rfl ?_
  obtain ⟨r3, s1, h2, h⟩ := bd2_inv h
  refine w_callV (pc := 1) X dX8_done_1 (M8_playPad h2) k_o (by decide) rfl cw_8_117 ⟨Nat.le_of_ble_eq_true rfl, Nat.le_of_ble_eq_true rfl⟩ rfl rfl (Nat.le_of_ble_eq_true rfl) ?_
  show wpm φ ad 4 [(0, .ref (ad o))] [.int r3] s1
  refine w_istore_n (pc := 4) X dX8_done_4 1 rfl (by decide) (lv' := [(1, .int r3), (0, .ref (ad o))]) rfl ?_
  refine w_iload_n (pc := 5) X dX8_done_5 0 rfl ?_
  refine w_if_eq (pc := 6) (tgt := 11) X dX8_done_6 (by decide) (fun c7 => ?_) (fun c7 => ?_)
  · replace h := it_pos c7 h
    refine w_aload_n (pc := 11) X dX8_done_11 1 rfl ?_
    refine w_getR (pc := 12) X dX8_done_12 clO_8 k_o 0 (by decide) (d := 1) rfl fl_8_10 ?_
    refine w_getR (pc := 15) X dX8_done_15 clO_0 (kp_8_1 k_o) 3 (by decide) (d := 2) rfl fl_8_95 ?_
    refine w_aload_n (pc := 18) X dX8_done_18 1 rfl ?_
    refine w_getR (pc := 19) X dX8_done_19 clO_8 k_o 4 (by decide) (d := 27) rfl fl_8_32 ?_
    refine w_getR (pc := 22) X dX8_done_22 clO_1 (kp_8_27 k_o) 3 (by decide) (d := 3) rfl fl_8_127 ?_
    obtain ⟨s4, h5, h⟩ := bd1_inv h
    refine w_callV (pc := 25) X dX8_done_25 (M2_copyFrom h5) (kp_0_2 (kp_8_1 k_o)) (by decide) rfl cw_8_151 ⟨Nat.le_of_ble_eq_true rfl, Nat.le_of_ble_eq_true rfl⟩ rfl rfl (Nat.le_of_ble_eq_true rfl) ?_
    show wpm φ ad 28 [(1, .int r3), (0, .ref (ad o))] [] s4
    refine w_aload_n (pc := 28) X dX8_done_28 1 rfl ?_
    refine w_getR (pc := 29) X dX8_done_29 clO_8 k_o 3 (by decide) (d := 25) rfl fl_8_25 ?_
    refine w_iconst (pc := 32) X dX8_done_32 (v := 0) rfl ?_
    refine w_putI (pc := 33) X dX8_done_33 clO_5 (kp_8_25 k_o) 1 (by decide) rfl rfl (Or.inl rfl) fl_8_107 ?_
    obtain ⟨s6, e_s6, h⟩ := nm_inv h
    refine w_nm e_s6 ?_
    refine w_aload_n (pc := 36) X dX8_done_36 1 rfl ?_
    refine w_getR (pc := 37) X dX8_done_37 clO_8 k_o 4 (by decide) (d := 27) rfl fl_8_32 ?_
    refine w_getI (pc := 40) X dX8_done_40 clO_1 (kp_8_27 k_o) 1 (by decide) rfl fl_8_155 ?_
    cases h
    exact w_iret X hQ dX8_done_43
  · replace h := it_neg c7 h
    refine w_iload_n (pc := 9) X dX8_done_9 0 rfl ?_
    cases h
    exact w_iret X hQ dX8_done_10
set_option maxRecDepth 20000 in
theorem M8_state {o : Nat} {a1 : Int32} {a2 : Int32} {s : Sto} {r : Int32} {σ' : Sto} (h : f8_state o a1 a2 s = some (r, σ')) : Ct yX8_state cX8_state 3 (some .int) 3 64 (fun ad => [.ref (ad o), .int a1, .int a2]) s (fun ad => some (.int r)) σ' := by
  unfold f8_state at h
  obtain ⟨k_o, h⟩ := gd_inv h
  refine Ct_of (by decide) (fun ad => Nat.le_of_ble_eq_true rfl) (fun φ ad X hQ => ?_)
  show wpm φ ad 0 [(0, .ref (ad o)), (1, .int a1), (2, .int a2)] [] s
  replace X : Cx φ ad cX8_state (some .int) RX8 3 3 64 := X
  refine w_aload_n (pc := 0) X dX8_state_0 0 rfl ?_
  refine w_getR (pc := 1) X dX8_state_1 clO_8 k_o 0 (by decide) (d := 1) rfl fl_8_10 ?_
  refine w_getR (pc := 4) X dX8_state_4 clO_0 (kp_8_1 k_o) 3 (by decide) (d := 2) rfl fl_8_95 ?_
  refine w_iload_n (pc := 7) X dX8_state_7 1 rfl ?_
  obtain ⟨r3, s1, h2, h⟩ := bd2_inv h
  refine w_callV (pc := 8) X dX8_state_8 (M2_has h2) (kp_0_2 (kp_8_1 k_o)) (by decide) rfl cw_8_141 ⟨Nat.le_of_ble_eq_true rfl, Nat.le_of_ble_eq_true rfl⟩ rfl rfl (Nat.le_of_ble_eq_true rfl) ?_
  show wpm φ ad 11 [(0, .ref (ad o)), (1, .int a1), (2, .int a2)] [.int r3] s1
  refine w_if_ne (pc := 11) (tgt := 16) X dX8_state_11 (by decide) (fun c11 => ?_) (fun c11 => ?_)
  · replace h := it_neg c11 h
    refine w_iload_n (pc := 16) X dX8_state_16 2 rfl ?_
    refine w_iconst (pc := 17) X dX8_state_17 (v := 0) rfl ?_
    refine w_iconst (pc := 18) X dX8_state_18 (v := 2) rfl ?_
    obtain ⟨r6, s4, h5, h⟩ := bd2_inv h
    refine w_callS (pc := 19) X dX8_state_19 (M8_isWithin h5) rfl cw_8_64 ⟨Nat.le_of_ble_eq_true rfl, Nat.le_of_ble_eq_true rfl⟩ rfl rfl (Nat.le_of_ble_eq_true rfl) ?_
    show wpm φ ad 22 [(0, .ref (ad o)), (1, .int a1), (2, .int a2)] [.int r6] s4
    refine w_if_eq (pc := 22) (tgt := 40) X dX8_state_22 (by decide) (fun c10 => ?_) (fun c10 => ?_)
    · replace h := it_pos c10 h
      refine w_bipush (pc := 40) X dX8_state_40 (v := (-2)) rfl ?_
      cases h
      exact w_iret X hQ dX8_state_42
    · replace h := it_neg c10 h
      refine w_aload_n (pc := 25) X dX8_state_25 0 rfl ?_
      refine w_getR (pc := 26) X dX8_state_26 clO_8 k_o 0 (by decide) (d := 1) rfl fl_8_10 ?_
      refine w_getR (pc := 29) X dX8_state_29 clO_0 (kp_8_1 k_o) 3 (by decide) (d := 2) rfl fl_8_95 ?_
      refine w_iload_n (pc := 32) X dX8_state_32 1 rfl ?_
      refine w_iload_n (pc := 33) X dX8_state_33 2 rfl ?_
      obtain ⟨r9, s7, h8, h⟩ := bd2_inv h
      refine w_callV (pc := 34) X dX8_state_34 (M2_tellRow h8) (kp_0_2 (kp_8_1 k_o)) (by decide) rfl cw_8_144 ⟨Nat.le_of_ble_eq_true rfl, Nat.le_of_ble_eq_true rfl⟩ rfl rfl (Nat.le_of_ble_eq_true rfl) ?_
      show wpm φ ad 37 [(0, .ref (ad o)), (1, .int a1), (2, .int a2)] [.int r9] s7
      refine w_goto (tgt := 42) (pc := 37) X dX8_state_37 (by decide) ?_
      cases h
      exact w_iret X hQ dX8_state_42
  · replace h := it_pos c11 h
    refine w_iconst (pc := 14) X dX8_state_14 (v := (-1)) rfl ?_
    cases h
    exact w_iret X hQ dX8_state_15
set_option maxRecDepth 20000 in
theorem M8_readPattern {o : Nat} {s : Sto} {r : Int32} {σ' : Sto} (h : f8_readPattern o s = some (r, σ')) : Ct yX8_readPattern cX8_readPattern 1 (some .int) 3 68 (fun ad => [.ref (ad o)]) s (fun ad => some (.int r)) σ' := by
  unfold f8_readPattern at h
  obtain ⟨k_o, h⟩ := gd_inv h
  refine Ct_of (by decide) (fun ad => Nat.le_of_ble_eq_true rfl) (fun φ ad X hQ => ?_)
  show wpm φ ad 0 [(0, .ref (ad o))] [] s
  replace X : Cx φ ad cX8_readPattern (some .int) RX8 1 3 68 := X
  refine w_aload_n (pc := 0) X dX8_readPattern_0 0 rfl ?_
  refine w_getR (pc := 1) X dX8_readPattern_1 clO_8 k_o 5 (by decide) (d := 34) rfl fl_8_39 ?_
  refine w_aload_n (pc := 4) X dX8_readPattern_4 0 rfl ?_
  refine w_getR (pc := 5) X dX8_readPattern_5 clO_8 k_o 3 (by decide) (d := 25) rfl fl_8_25 ?_
  obtain ⟨r3, s1, h2, h⟩ := bd2_inv h
  refine w_callV (pc := 8) X dX8_readPattern_8 (M6_read h2) (kp_8_34 k_o) (by decide) rfl cw_8_114 ⟨Nat.le_of_ble_eq_true rfl, Nat.le_of_ble_eq_true rfl⟩ rfl rfl (Nat.le_of_ble_eq_true rfl) ?_
  show wpm φ ad 11 [(0, .ref (ad o))] [.int r3] s1
  refine w_bipush (pc := 11) X dX8_readPattern_11 (v := (-6)) rfl ?_
  refine w_icmp_eq (pc := 13) (tgt := 19) X dX8_readPattern_13 (by decide) (fun c5 => ?_) (fun c5 => ?_)
  · replace h := it_pos c5 h
    refine w_aload_n (pc := 19) X dX8_readPattern_19 0 rfl ?_
    refine w_getR (pc := 20) X dX8_readPattern_20 clO_8 k_o 5 (by decide) (d := 34) rfl fl_8_39 ?_
    refine w_getI (pc := 23) X dX8_readPattern_23 clO_6 (kp_8_34 k_o) 2 (by decide) rfl fl_8_159 ?_
    refine w_bipush (pc := 26) X dX8_readPattern_26 (v := (30)) rfl ?_
    refine w_icmp_le (pc := 28) (tgt := 36) X dX8_readPattern_28 (by decide) (fun c4 => ?_) (fun c4 => ?_)
    · replace h := it_pos c4 h
      refine w_iconst (pc := 36) X dX8_readPattern_36 (v := 0) rfl ?_
      cases h
      exact w_iret X hQ dX8_readPattern_37
    · replace h := it_neg c4 h
      refine w_bipush (pc := 31) X dX8_readPattern_31 (v := (-4)) rfl ?_
      refine w_goto (tgt := 37) (pc := 33) X dX8_readPattern_33 (by decide) ?_
      cases h
      exact w_iret X hQ dX8_readPattern_37
  · replace h := it_neg c5 h
    refine w_bipush (pc := 16) X dX8_readPattern_16 (v := (-5)) rfl ?_
    cases h
    exact w_iret X hQ dX8_readPattern_18
set_option maxRecDepth 20000 in
theorem M8_isThereAlready {o : Nat} {a1 : Int32} {s : Sto} {r : Int32} {σ' : Sto} (h : f8_isThereAlready o a1 s = some (r, σ')) : Ct yX8_isThereAlready cX8_isThereAlready 2 (some .boolean) 2 42 (fun ad => [.ref (ad o), .int a1]) s (fun ad => some (.int r)) σ' := by
  unfold f8_isThereAlready at h
  obtain ⟨k_o, h⟩ := gd_inv h
  refine Ct_of (by decide) (fun ad => Nat.le_of_ble_eq_true rfl) (fun φ ad X hQ => ?_)
  show wpm φ ad 0 [(0, .ref (ad o)), (1, .int a1)] [] s
  replace X : Cx φ ad cX8_isThereAlready (some .boolean) RX8 2 2 42 := X
  refine w_aload_n (pc := 0) X dX8_isThereAlready_0 0 rfl ?_
  refine w_getR (pc := 1) X dX8_isThereAlready_1 clO_8 k_o 0 (by decide) (d := 1) rfl fl_8_10 ?_
  refine w_getR (pc := 4) X dX8_isThereAlready_4 clO_0 (kp_8_1 k_o) 3 (by decide) (d := 2) rfl fl_8_95 ?_
  refine w_iload_n (pc := 7) X dX8_isThereAlready_7 1 rfl ?_
  obtain ⟨r3, s1, h2, h⟩ := bd2_inv h
  refine w_callV (pc := 8) X dX8_isThereAlready_8 (M2_colourAt h2) (kp_0_2 (kp_8_1 k_o)) (by decide) rfl cw_8_276 ⟨Nat.le_of_ble_eq_true rfl, Nat.le_of_ble_eq_true rfl⟩ rfl rfl (Nat.le_of_ble_eq_true rfl) ?_
  show wpm φ ad 11 [(0, .ref (ad o)), (1, .int a1)] [.int r3] s1
  refine w_aload_n (pc := 11) X dX8_isThereAlready_11 0 rfl ?_
  refine w_getR (pc := 12) X dX8_isThereAlready_12 clO_8 k_o 5 (by decide) (d := 34) rfl fl_8_39 ?_
  refine w_getR (pc := 15) X dX8_isThereAlready_15 clO_6 (kp_8_34 k_o) 0 (by decide) (d := 1) rfl fl_8_279 ?_
  refine w_iload_n (pc := 18) X dX8_isThereAlready_18 1 rfl ?_
  obtain ⟨r6, s4, h5, h⟩ := bd2_inv h
  refine w_callS (pc := 19) X dX8_isThereAlready_19 (M8_at h5) rfl cw_8_282 ⟨Nat.le_of_ble_eq_true rfl, Nat.le_of_ble_eq_true rfl⟩ rfl rfl (Nat.le_of_ble_eq_true rfl) ?_
  show wpm φ ad 22 [(0, .ref (ad o)), (1, .int a1)] [.int r6, .int r3] s4
  refine w_icmp_ne (pc := 22) (tgt := 54) X dX8_isThereAlready_22 (by decide) (fun c14 => ?_) (fun c14 => ?_)
  · replace h := it_neg c14 h
    refine w_iconst (pc := 54) X dX8_isThereAlready_54 (v := 0) rfl ?_
    cases h
    exact w_zret X hQ dX8_isThereAlready_55 (Or.inl rfl)
  · replace h := it_pos c14 h
    refine w_aload_n (pc := 25) X dX8_isThereAlready_25 0 rfl ?_
    refine w_getR (pc := 26) X dX8_isThereAlready_26 clO_8 k_o 0 (by decide) (d := 1) rfl fl_8_10 ?_
    refine w_getR (pc := 29) X dX8_isThereAlready_29 clO_0 (kp_8_1 k_o) 3 (by decide) (d := 2) rfl fl_8_95 ?_
    refine w_iload_n (pc := 32) X dX8_isThereAlready_32 1 rfl ?_
    obtain ⟨r9, s7, h8, h⟩ := bd2_inv h
    refine w_callV (pc := 33) X dX8_isThereAlready_33 (M2_kindAt h8) (kp_0_2 (kp_8_1 k_o)) (by decide) rfl cw_8_286 ⟨Nat.le_of_ble_eq_true rfl, Nat.le_of_ble_eq_true rfl⟩ rfl rfl (Nat.le_of_ble_eq_true rfl) ?_
    show wpm φ ad 36 [(0, .ref (ad o)), (1, .int a1)] [.int r9] s7
    refine w_aload_n (pc := 36) X dX8_isThereAlready_36 0 rfl ?_
    refine w_getR (pc := 37) X dX8_isThereAlready_37 clO_8 k_o 5 (by decide) (d := 34) rfl fl_8_39 ?_
    refine w_getR (pc := 40) X dX8_isThereAlready_40 clO_6 (kp_8_34 k_o) 1 (by decide) (d := 2) rfl fl_8_289 ?_
    refine w_iload_n (pc := 43) X dX8_isThereAlready_43 1 rfl ?_
    obtain ⟨r12, s10, h11, h⟩ := bd2_inv h
    refine w_callS (pc := 44) X dX8_isThereAlready_44 (M8_at h11) rfl cw_8_282 ⟨Nat.le_of_ble_eq_true rfl, Nat.le_of_ble_eq_true rfl⟩ rfl rfl (Nat.le_of_ble_eq_true rfl) ?_
    show wpm φ ad 47 [(0, .ref (ad o)), (1, .int a1)] [.int r12, .int r9] s10
    refine w_icmp_ne (pc := 47) (tgt := 54) X dX8_isThereAlready_47 (by decide) (fun c13 => ?_) (fun c13 => ?_)
    · replace h := it_neg c13 h
      refine w_iconst (pc := 54) X dX8_isThereAlready_54 (v := 0) rfl ?_
      cases h
      exact w_zret X hQ dX8_isThereAlready_55 (Or.inl rfl)
    · replace h := it_pos c13 h
      refine w_iconst (pc := 50) X dX8_isThereAlready_50 (v := 1) rfl ?_
      refine w_goto (tgt := 55) (pc := 51) X dX8_isThereAlready_51 (by decide) ?_
      cases h
      exact w_zret X hQ dX8_isThereAlready_55 (Or.inr rfl)
set_option maxRecDepth 20000 in
theorem WL0_countWithout_4 {φ : Fr} {ad : Nat → Nat} (X : Cx φ ad cX0_countWithout (some .int) RX0 4 2 42) (o : Nat) (a1 : Int32) (k_o : kd o = 0) : ∀ (fuel : Nat) (v2 : Int32) (v3 : Int32) (s : Sto) (t2 : Int32) (t : Sto), L0_countWithout_4 o a1 fuel v2 v3 s = some (t2, t) → wpm φ ad 28 [(2, .int t2)] [] t → wpm φ ad 4 [(0, .ref (ad o)), (1, .int a1), (2, .int v2), (3, .int v3)] [] s := by
  intro fuel
  induction fuel with
  | zero => intro v2 v3 s t2 t h; cases h
  | succ fuel ih =>
    intro v2 v3 s t2 t h K
    unfold L0_countWithout_4 at h
    refine w_iload_n (pc := 4) X dX0_countWithout_4 3 rfl ?_
    refine w_bipush (pc := 5) X dX0_countWithout_5 (v := (6)) rfl ?_
    refine w_icmp_ge (pc := 7) (tgt := 28) X dX0_countWithout_7 (by decide) (fun c5 => ?_) (fun c5 => ?_)
    · replace h := it_pos c5 h
      cases h
      exact w_sub (pc := 28) [2] rfl K
    · replace h := it_neg c5 h
      refine w_aload_n (pc := 10) X dX0_countWithout_10 0 rfl ?_
      refine w_iload_n (pc := 11) X dX0_countWithout_11 3 rfl ?_
      obtain ⟨r3, s1, h2, h⟩ := bd2_inv h
      refine w_callV (pc := 12) X dX0_countWithout_12 (M0_temperOf h2) k_o (by decide) rfl cw_0_61 ⟨Nat.le_of_ble_eq_true rfl, Nat.le_of_ble_eq_true rfl⟩ rfl rfl (Nat.le_of_ble_eq_true rfl) ?_
      show wpm φ ad 15 [(0, .ref (ad o)), (1, .int a1), (2, .int v2), (3, .int v3)] [.int r3] s1
      refine w_iload_n (pc := 15) X dX0_countWithout_15 1 rfl ?_
      refine w_icmp_eq (pc := 16) (tgt := 22) X dX0_countWithout_16 (by decide) (fun c4 => ?_) (fun c4 => ?_)
      · replace h := it_pos c4 h
        refine w_iinc (pc := 22) X dX0_countWithout_22 3 rfl (v := (v3 + 1)) rfl (by decide) (lv' := [(3, .int (v3 + 1)), (0, .ref (ad o)), (1, .int a1), (2, .int v2)]) rfl ?_
        refine w_goto (tgt := 4) (pc := 25) X dX0_countWithout_25 (by decide) ?_
        exact w_sub (pc := 4) [1, 2, 3, 0] rfl (ih _ _ _ _ _ h K)
      · replace h := it_neg c4 h
        refine w_iinc (pc := 19) X dX0_countWithout_19 2 rfl (v := (v2 + 1)) rfl (by decide) (lv' := [(2, .int (v2 + 1)), (0, .ref (ad o)), (1, .int a1), (3, .int v3)]) rfl ?_
        refine w_iinc (pc := 22) X dX0_countWithout_22 3 rfl (v := (v3 + 1)) rfl (by decide) (lv' := [(3, .int (v3 + 1)), (2, .int (v2 + 1)), (0, .ref (ad o)), (1, .int a1)]) rfl ?_
        refine w_goto (tgt := 4) (pc := 25) X dX0_countWithout_25 (by decide) ?_
        exact w_sub (pc := 4) [2, 3, 1, 0] rfl (ih _ _ _ _ _ h K)
set_option maxRecDepth 20000 in
theorem M0_countWithout {o : Nat} {a1 : Int32} {s : Sto} {r : Int32} {σ' : Sto} (h : f0_countWithout o a1 s = some (r, σ')) : Ct yX0_countWithout cX0_countWithout 4 (some .int) 2 42 (fun ad => [.ref (ad o), .int a1]) s (fun ad => some (.int r)) σ' := by
  unfold f0_countWithout at h
  obtain ⟨k_o, h⟩ := gd_inv h
  refine Ct_of (by decide) (fun ad => Nat.le_of_ble_eq_true rfl) (fun φ ad X hQ => ?_)
  show wpm φ ad 0 [(0, .ref (ad o)), (1, .int a1)] [] s
  replace X : Cx φ ad cX0_countWithout (some .int) RX0 4 2 42 := X
  refine w_iconst (pc := 0) X dX0_countWithout_0 (v := 0) rfl ?_
  refine w_istore_n (pc := 1) X dX0_countWithout_1 2 rfl (by decide) (lv' := [(2, .int (0 : Int32)), (0, .ref (ad o)), (1, .int a1)]) rfl ?_
  refine w_iconst (pc := 2) X dX0_countWithout_2 (v := 0) rfl ?_
  refine w_istore_n (pc := 3) X dX0_countWithout_3 3 rfl (by decide) (lv' := [(3, .int (0 : Int32)), (2, .int (0 : Int32)), (0, .ref (ad o)), (1, .int a1)]) rfl ?_
  obtain ⟨y7, s8, h6, h⟩ := bd2_inv h
  refine w_sub (pc := 4) [2, 3, 1, 0] rfl (WL0_countWithout_4 X o a1 k_o FU (0 : Int32) (0 : Int32) s y7 s8 h6 ?_)
  refine w_iload_n (pc := 28) X dX0_countWithout_28 0 rfl ?_
  cases h
  exact w_iret X hQ dX0_countWithout_29
set_option maxRecDepth 20000 in
theorem WL8_remarksDownTo_18 {φ : Fr} {ad : Nat → Nat} (X : Cx φ ad cX8_remarksDownTo (some .int) RX8 6 3 65) (o : Nat) (k_o : kd o = 8) : ∀ (fuel : Nat) (v2 : Int32) (v3 : Int32) (v4 : Int32) (v5 : Int32) (s : Sto) (t3 : Int32) (t4 : Int32) (t : Sto), L8_remarksDownTo_18 o fuel v2 v3 v4 v5 s = some (t3, t4, t) → wpm φ ad 88 [(0, .ref (ad o)), (3, .int t3), (4, .int t4)] [] t → wpm φ ad 18 [(0, .ref (ad o)), (2, .int v2), (3, .int v3), (4, .int v4), (5, .int v5)] [] s := by
  intro fuel
  induction fuel with
  | zero => intro v2 v3 v4 v5 s t3 t4 t h; cases h
  | succ fuel ih =>
    intro v2 v3 v4 v5 s t3 t4 t h K
    unfold L8_remarksDownTo_18 at h
    refine w_iload (pc := 18) X dX8_remarksDownTo_18 4 rfl ?_
    refine w_aload_n (pc := 20) X dX8_remarksDownTo_20 0 rfl ?_
    refine w_getR (pc := 21) X dX8_remarksDownTo_21 clO_8 k_o 0 (by decide) (d := 1) rfl fl_8_10 ?_
    refine w_getR (pc := 24) X dX8_remarksDownTo_24 clO_0 (kp_8_1 k_o) 3 (by decide) (d := 2) rfl fl_8_95 ?_
    refine w_getI (pc := 27) X dX8_remarksDownTo_27 clO_2 (kp_0_2 (kp_8_1 k_o)) 3 (by decide) rfl fl_8_134 ?_
    refine w_icmp_ge (pc := 30) (tgt := 88) X dX8_remarksDownTo_30 (by decide) (fun c12 => ?_) (fun c12 => ?_)
    · replace h := it_pos c12 h
      cases h
      exact w_sub (pc := 88) [0, 2, 3] rfl K
    · replace h := it_neg c12 h
      refine w_iload (pc := 33) X dX8_remarksDownTo_33 4 rfl ?_
      refine w_if_eq (pc := 35) (tgt := 67) X dX8_remarksDownTo_35 (by decide) (fun c11 => ?_) (fun c11 => ?_)
      · replace h := it_pos c11 h
        refine w_iconst (pc := 67) X dX8_remarksDownTo_67 (v := 0) rfl ?_
        refine w_istore_n (pc := 68) X dX8_remarksDownTo_68 2 rfl (by decide) (lv' := [(2, .int (0 : Int32)), (0, .ref (ad o)), (3, .int v3), (4, .int v4), (5, .int v5)]) rfl ?_
        refine w_iinc (pc := 69) X dX8_remarksDownTo_69 3 rfl (v := (v4 + 1)) rfl (by decide) (lv' := [(4, .int (v4 + 1)), (2, .int (0 : Int32)), (0, .ref (ad o)), (3, .int v3), (5, .int v5)]) rfl ?_
        refine w_goto (tgt := 82) (pc := 72) X dX8_remarksDownTo_72 (by decide) ?_
        refine w_iinc (pc := 82) X dX8_remarksDownTo_82 4 rfl (v := (v5 + 1)) rfl (by decide) (lv' := [(5, .int (v5 + 1)), (4, .int (v4 + 1)), (2, .int (0 : Int32)), (0, .ref (ad o)), (3, .int v3)]) rfl ?_
        refine w_goto (tgt := 18) (pc := 85) X dX8_remarksDownTo_85 (by decide) ?_
        exact w_sub (pc := 18) [3, 2, 4, 1, 0] rfl (ih _ _ _ _ _ _ _ _ h K)
      · replace h := it_neg c11 h
        refine w_aload_n (pc := 38) X dX8_remarksDownTo_38 0 rfl ?_
        refine w_getR (pc := 39) X dX8_remarksDownTo_39 clO_8 k_o 0 (by decide) (d := 1) rfl fl_8_10 ?_
        refine w_getR (pc := 42) X dX8_remarksDownTo_42 clO_0 (kp_8_1 k_o) 3 (by decide) (d := 2) rfl fl_8_95 ?_
        refine w_iload (pc := 45) X dX8_remarksDownTo_45 4 rfl ?_
        obtain ⟨r5, s3, h4, h⟩ := bd2_inv h
        refine w_callV (pc := 47) X dX8_remarksDownTo_47 (M2_colourAt h4) (kp_0_2 (kp_8_1 k_o)) (by decide) rfl cw_8_276 ⟨Nat.le_of_ble_eq_true rfl, Nat.le_of_ble_eq_true rfl⟩ rfl rfl (Nat.le_of_ble_eq_true rfl) ?_
        show wpm φ ad 50 [(0, .ref (ad o)), (2, .int v2), (3, .int v3), (4, .int v4), (5, .int v5)] [.int r5] s3
        refine w_aload_n (pc := 50) X dX8_remarksDownTo_50 0 rfl ?_
        refine w_getR (pc := 51) X dX8_remarksDownTo_51 clO_8 k_o 0 (by decide) (d := 1) rfl fl_8_10 ?_
        refine w_getR (pc := 54) X dX8_remarksDownTo_54 clO_0 (kp_8_1 k_o) 3 (by decide) (d := 2) rfl fl_8_95 ?_
        refine w_iload (pc := 57) X dX8_remarksDownTo_57 4 rfl ?_
        refine w_iconst (pc := 59) X dX8_remarksDownTo_59 (v := 1) rfl ?_
        refine w_isub (pc := 60) X dX8_remarksDownTo_60 ?_
        obtain ⟨r8, s6, h7, h⟩ := bd2_inv h
        refine w_callV (pc := 61) X dX8_remarksDownTo_61 (M2_colourAt h7) (kp_0_2 (kp_8_1 k_o)) (by decide) rfl cw_8_276 ⟨Nat.le_of_ble_eq_true rfl, Nat.le_of_ble_eq_true rfl⟩ rfl rfl (Nat.le_of_ble_eq_true rfl) ?_
        show wpm φ ad 64 [(0, .ref (ad o)), (2, .int v2), (3, .int v3), (4, .int v4), (5, .int v5)] [.int r8, .int r5] s6
        refine w_icmp_eq (pc := 64) (tgt := 75) X dX8_remarksDownTo_64 (by decide) (fun c10 => ?_) (fun c10 => ?_)
        · replace h := it_pos c10 h
          refine w_iload_n (pc := 75) X dX8_remarksDownTo_75 1 rfl ?_
          refine w_if_eq (pc := 76) (tgt := 82) X dX8_remarksDownTo_76 (by decide) (fun c9 => ?_) (fun c9 => ?_)
          · replace h := it_pos c9 h
            refine w_iinc (pc := 82) X dX8_remarksDownTo_82 4 rfl (v := (v5 + 1)) rfl (by decide) (lv' := [(5, .int (v5 + 1)), (0, .ref (ad o)), (2, .int v2), (3, .int v3), (4, .int v4)]) rfl ?_
            refine w_goto (tgt := 18) (pc := 85) X dX8_remarksDownTo_85 (by decide) ?_
            exact w_sub (pc := 18) [1, 2, 3, 4, 0] rfl (ih _ _ _ _ _ _ _ _ h K)
          · replace h := it_neg c9 h
            refine w_iinc (pc := 79) X dX8_remarksDownTo_79 2 rfl (v := (v3 + 1)) rfl (by decide) (lv' := [(3, .int (v3 + 1)), (0, .ref (ad o)), (2, .int v2), (4, .int v4), (5, .int v5)]) rfl ?_
            refine w_iinc (pc := 82) X dX8_remarksDownTo_82 4 rfl (v := (v5 + 1)) rfl (by decide) (lv' := [(5, .int (v5 + 1)), (3, .int (v3 + 1)), (0, .ref (ad o)), (2, .int v2), (4, .int v4)]) rfl ?_
            refine w_goto (tgt := 18) (pc := 85) X dX8_remarksDownTo_85 (by decide) ?_
            exact w_sub (pc := 18) [2, 3, 1, 4, 0] rfl (ih _ _ _ _ _ _ _ _ h K)
        · replace h := it_neg c10 h
          refine w_iconst (pc := 67) X dX8_remarksDownTo_67 (v := 0) rfl ?_
          refine w_istore_n (pc := 68) X dX8_remarksDownTo_68 2 rfl (by decide) (lv' := [(2, .int (0 : Int32)), (0, .ref (ad o)), (3, .int v3), (4, .int v4), (5, .int v5)]) rfl ?_
          refine w_iinc (pc := 69) X dX8_remarksDownTo_69 3 rfl (v := (v4 + 1)) rfl (by decide) (lv' := [(4, .int (v4 + 1)), (2, .int (0 : Int32)), (0, .ref (ad o)), (3, .int v3), (5, .int v5)]) rfl ?_
          refine w_goto (tgt := 82) (pc := 72) X dX8_remarksDownTo_72 (by decide) ?_
          refine w_iinc (pc := 82) X dX8_remarksDownTo_82 4 rfl (v := (v5 + 1)) rfl (by decide) (lv' := [(5, .int (v5 + 1)), (4, .int (v4 + 1)), (2, .int (0 : Int32)), (0, .ref (ad o)), (3, .int v3)]) rfl ?_
          refine w_goto (tgt := 18) (pc := 85) X dX8_remarksDownTo_85 (by decide) ?_
          exact w_sub (pc := 18) [3, 2, 4, 1, 0] rfl (ih _ _ _ _ _ _ _ _ h K)
set_option maxRecDepth 20000 in
theorem M8_remarksDownTo {o : Nat} {a1 : Int32} {s : Sto} {r : Int32} {σ' : Sto} (h : f8_remarksDownTo o a1 s = some (r, σ')) : Ct yX8_remarksDownTo cX8_remarksDownTo 6 (some .int) 3 65 (fun ad => [.ref (ad o), .int a1]) s (fun ad => some (.int r)) σ' := by
  unfold f8_remarksDownTo at h
  obtain ⟨k_o, h⟩ := gd_inv h
  refine Ct_of (by decide) (fun ad => Nat.le_of_ble_eq_true rfl) (fun φ ad X hQ => ?_)
  show wpm φ ad 0 [(0, .ref (ad o)), (1, .int a1)] [] s
  replace X : Cx φ ad cX8_remarksDownTo (some .int) RX8 6 3 65 := X
  refine w_iload_n (pc := 0) X dX8_remarksDownTo_0 1 rfl ?_
  obtain ⟨x2, h22, h⟩ := bd1_inv h
  have K1 : wpm φ ad 9 [(0, .ref (ad o)), (1, .int a1)] [.int x2] s := by
    refine w_istore_n (pc := 9) X dX8_remarksDownTo_9 2 rfl (by decide) (lv' := [(2, .int x2), (0, .ref (ad o)), (1, .int a1)]) rfl ?_
    refine w_iconst (pc := 10) X dX8_remarksDownTo_10 (v := 0) rfl ?_
    refine w_istore_n (pc := 11) X dX8_remarksDownTo_11 3 rfl (by decide) (lv' := [(3, .int (0 : Int32)), (2, .int x2), (0, .ref (ad o)), (1, .int a1)]) rfl ?_
    refine w_iconst (pc := 12) X dX8_remarksDownTo_12 (v := 0) rfl ?_
    refine w_istore (pc := 13) X dX8_remarksDownTo_13 (by decide) (lv' := [(4, .int (0 : Int32)), (3, .int (0 : Int32)), (2, .int x2), (0, .ref (ad o)), (1, .int a1)]) rfl ?_
    refine w_iload_n (pc := 15) X dX8_remarksDownTo_15 4 rfl ?_
    refine w_istore (pc := 16) X dX8_remarksDownTo_16 (by decide) (lv' := [(5, .int a1), (4, .int (0 : Int32)), (3, .int (0 : Int32)), (2, .int x2), (0, .ref (ad o)), (1, .int a1)]) rfl ?_
    obtain ⟨y14, y15, s16, h13, h⟩ := bd3_inv h
    refine w_sub (pc := 18) [4, 3, 2, 1, 0] rfl (WL8_remarksDownTo_18 X o k_o FU x2 (0 : Int32) (0 : Int32) a1 s y14 y15 s16 h13 ?_)
    refine w_iload_n (pc := 88) X dX8_remarksDownTo_88 1 rfl ?_
    refine w_if_le (pc := 89) (tgt := 106) X dX8_remarksDownTo_89 (by decide) (fun c21 => ?_) (fun c21 => ?_)
    · replace h := it_pos c21 h
      refine w_iload_n (pc := 106) X dX8_remarksDownTo_106 1 rfl ?_
      refine w_iload (pc := 107) X dX8_remarksDownTo_107 2 rfl ?_
      refine w_iadd (pc := 109) X dX8_remarksDownTo_109 ?_
      cases h
      exact w_iret X hQ dX8_remarksDownTo_110
    · replace h := it_neg c21 h
      refine w_aload_n (pc := 92) X dX8_remarksDownTo_92 0 rfl ?_
      refine w_getR (pc := 93) X dX8_remarksDownTo_93 clO_8 k_o 0 (by decide) (d := 1) rfl fl_8_10 ?_
      refine w_iconst (pc := 96) X dX8_remarksDownTo_96 (v := 2) rfl ?_
      obtain ⟨r19, s17, h18, h⟩ := bd2_inv h
      refine w_callV (pc := 97) X dX8_remarksDownTo_97 (M0_countWithout h18) (kp_8_1 k_o) (by decide) rfl cw_8_229 ⟨Nat.le_of_ble_eq_true rfl, Nat.le_of_ble_eq_true rfl⟩ rfl rfl (Nat.le_of_ble_eq_true rfl) ?_
      show wpm φ ad 100 [(0, .ref (ad o)), (3, .int y14), (4, .int y15)] [.int r19] s17
      refine w_if_ne (pc := 100) (tgt := 106) X dX8_remarksDownTo_100 (by decide) (fun c20 => ?_) (fun c20 => ?_)
      · replace h := it_neg c20 h
        refine w_iload_n (pc := 106) X dX8_remarksDownTo_106 1 rfl ?_
        refine w_iload (pc := 107) X dX8_remarksDownTo_107 2 rfl ?_
        refine w_iadd (pc := 109) X dX8_remarksDownTo_109 ?_
        cases h
        exact w_iret X hQ dX8_remarksDownTo_110
      · replace h := it_pos c20 h
        refine w_bipush (pc := 103) X dX8_remarksDownTo_103 (v := (-6)) rfl ?_
        cases h
        exact w_iret X hQ dX8_remarksDownTo_105
  clear h
  have h := h22
  clear h22
  refine w_if_le (pc := 1) (tgt := 8) X dX8_remarksDownTo_1 (by decide) (fun c1 => ?_) (fun c1 => ?_)
  · replace h := it_pos c1 h
    refine w_iconst (pc := 8) X dX8_remarksDownTo_8 (v := 0) rfl ?_
    cases h
    exact w_sub (pc := 9) [0, 1] rfl K1
  · replace h := it_neg c1 h
    refine w_iconst (pc := 4) X dX8_remarksDownTo_4 (v := 1) rfl ?_
    refine w_goto (tgt := 9) (pc := 5) X dX8_remarksDownTo_5 (by decide) ?_
    cases h
    exact w_sub (pc := 9) [0, 1] rfl K1
