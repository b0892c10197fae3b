set_option maxRecDepth 20000 in
theorem M9_fault {o : Nat} {a1 : Int32} {s : Sto} {r : Int32} {σ' : Sto} (h : f9_fault o a1 s = some (r, σ')) : Ct yX9_fault cX9_fault 2 (some .int) 3 71 (fun ad => [.ref (ad o), .int a1]) s (fun ad => some (.int r)) σ' := by
  unfold f9_fault at h
  obtain ⟨k_o, h⟩ := gd_inv h
  refine Ct_of (by decide) (fun ad => Nat.le_of_ble_eq_true rfl) (fun φ ad X hQ => ?_)
  show wpm φ ad 0 [(0, .ref (ad o)), (1, .int a1)] [] s
  replace X : Cx φ ad cX9_fault (some .int) RX9 2 3 71 := X
  refine w_iload_n (pc := 0) X dX9_fault_0 1 rfl ?_
  refine w_if_ne (pc := 1) (tgt := 11) X dX9_fault_1 (by decide) (fun c8 => ?_) (fun c8 => ?_)
  · replace h := it_neg c8 h
    refine w_iload_n (pc := 11) X dX9_fault_11 1 rfl ?_
    refine w_iconst (pc := 12) X dX9_fault_12 (v := 1) rfl ?_
    refine w_icmp_ne (pc := 13) (tgt := 23) X dX9_fault_13 (by decide) (fun c4 => ?_) (fun c4 => ?_)
    · replace h := it_neg c4 h
      refine w_bipush (pc := 23) X dX9_fault_23 (v := (-2)) rfl ?_
      cases h
      exact w_iret X hQ dX9_fault_25
    · replace h := it_pos c4 h
      refine w_aload_n (pc := 16) X dX9_fault_16 0 rfl ?_
      obtain ⟨r3, s1, h2, h⟩ := bd2_inv h
      refine w_callV (pc := 17) X dX9_fault_17 (M9_faultOfPattern h2) k_o (by decide) rfl cw_9_141 ⟨Nat.le_of_ble_eq_true rfl, Nat.le_of_ble_eq_true rfl⟩ rfl rfl (Nat.le_of_ble_eq_true rfl) ?_
      show wpm φ ad 20 [(0, .ref (ad o)), (1, .int a1)] [.int r3] s1
      refine w_goto (tgt := 25) (pc := 20) X dX9_fault_20 (by decide) ?_
      cases h
      exact w_iret X hQ dX9_fault_25
  · replace h := it_pos c8 h
    refine w_aload_n (pc := 4) X dX9_fault_4 0 rfl ?_
    obtain ⟨r7, s5, h6, h⟩ := bd2_inv h
    refine w_callV (pc := 5) X dX9_fault_5 (M9_faultOfEvening h6) k_o (by decide) rfl cw_9_137 ⟨Nat.le_of_ble_eq_true rfl, Nat.le_of_ble_eq_true rfl⟩ rfl rfl (Nat.le_of_ble_eq_true rfl) ?_
    show wpm φ ad 8 [(0, .ref (ad o)), (1, .int a1)] [.int r7] s5
    refine w_goto (tgt := 25) (pc := 8) X dX9_fault_8 (by decide) ?_
    cases h
    exact w_iret X hQ dX9_fault_25
set_option maxRecDepth 20000 in
theorem M9_isLie {o : Nat} {a1 : Int32} {a2 : Int32} {s : Sto} {r : Int32} {σ' : Sto} (h : f9_isLie o a1 a2 s = some (r, σ')) : Ct yX9_isLie cX9_isLie 3 (some .boolean) 0 0 (fun ad => [.ref (ad o), .int a1, .int a2]) s (fun ad => some (.int r)) σ' := by
  unfold f9_isLie at h
  obtain ⟨k_o, h⟩ := gd_inv h
  refine Ct_of (by decide) (fun ad => Nat.le_of_ble_eq_true rfl) (fun φ ad X hQ => ?_)
  show wpm φ ad 0 [(0, .ref (ad o)), (1, .int a1), (2, .int a2)] [] s
  replace X : Cx φ ad cX9_isLie (some .boolean) RX9 3 0 0 := X
  refine w_aload_n (pc := 0) X dX9_isLie_0 0 rfl ?_
  refine w_getR (pc := 1) X dX9_isLie_1 clO_9 k_o 16 (by decide) (d := 11) rfl fl_9_40 ?_
  refine w_iload_n (pc := 4) X dX9_isLie_4 1 rfl ?_
  obtain ⟨g1, h⟩ := gd_inv h
  refine w_iald (pc := 5) X dX9_isLie_5 (kp_9_11 k_o) g1 ?_
  refine w_iload_n (pc := 6) X dX9_isLie_6 2 rfl ?_
  refine w_aload_n (pc := 7) X dX9_isLie_7 0 rfl ?_
  refine w_getR (pc := 8) X dX9_isLie_8 clO_9 k_o 15 (by decide) (d := 10) rfl fl_9_37 ?_
  refine w_iload_n (pc := 11) X dX9_isLie_11 1 rfl ?_
  obtain ⟨g2, h⟩ := gd_inv h
  refine w_iald (pc := 12) X dX9_isLie_12 (kp_9_10 k_o) g2 ?_
  refine w_ishr (pc := 13) X dX9_isLie_13 ?_
  refine w_iconst (pc := 14) X dX9_isLie_14 (v := 1) rfl ?_
  refine w_iand (pc := 15) X dX9_isLie_15 ?_
  refine w_icmp_eq (pc := 16) (tgt := 23) X dX9_isLie_16 (by decide) (fun c3 => ?_) (fun c3 => ?_)
  · replace h := it_pos c3 h
    refine w_iconst (pc := 23) X dX9_isLie_23 (v := 0) rfl ?_
    cases h
    exact w_zret X hQ dX9_isLie_24 (Or.inl rfl)
  · replace h := it_neg c3 h
    refine w_iconst (pc := 19) X dX9_isLie_19 (v := 1) rfl ?_
    refine w_goto (tgt := 24) (pc := 20) X dX9_isLie_20 (by decide) ?_
    cases h
    exact w_zret X hQ dX9_isLie_24 (Or.inr rfl)
set_option maxRecDepth 20000 in
theorem M9_whyNotKnit {o : Nat} {s : Sto} {r : Int32} {σ' : Sto} (h : f9_whyNotKnit o s = some (r, σ')) : Ct yX9_whyNotKnit cX9_whyNotKnit 1 (some .int) 0 0 (fun ad => [.ref (ad o)]) s (fun ad => some (.int r)) σ' := by
  unfold f9_whyNotKnit at h
  obtain ⟨k_o, h⟩ := gd_inv h
  refine Ct_of (by decide) (fun ad => Nat.le_of_ble_eq_true rfl) (fun φ ad X hQ => ?_)
  show wpm φ ad 0 [(0, .ref (ad o))] [] s
  replace X : Cx φ ad cX9_whyNotKnit (some .int) RX9 1 0 0 := X
  refine w_aload_n (pc := 0) X dX9_whyNotKnit_0 0 rfl ?_
  refine w_getI (pc := 1) X dX9_whyNotKnit_1 clO_9 k_o 3 (by decide) rfl fl_9_92 ?_
  refine w_bipush (pc := 4) X dX9_whyNotKnit_4 (v := (30)) rfl ?_
  refine w_icmp_ne (pc := 6) (tgt := 13) X dX9_whyNotKnit_6 (by decide) (fun c2 => ?_) (fun c2 => ?_)
  · replace h := it_neg c2 h
    refine w_aload_n (pc := 13) X dX9_whyNotKnit_13 0 rfl ?_
    refine w_getI (pc := 14) X dX9_whyNotKnit_14 clO_9 k_o 4 (by decide) rfl fl_9_95 ?_
    refine w_if_ne (pc := 17) (tgt := 24) X dX9_whyNotKnit_17 (by decide) (fun c1 => ?_) (fun c1 => ?_)
    · replace h := it_neg c1 h
      refine w_iconst (pc := 24) X dX9_whyNotKnit_24 (v := 0) rfl ?_
      cases h
      exact w_iret X hQ dX9_whyNotKnit_25
    · replace h := it_pos c1 h
      refine w_iconst (pc := 20) X dX9_whyNotKnit_20 (v := 3) rfl ?_
      refine w_goto (tgt := 25) (pc := 21) X dX9_whyNotKnit_21 (by decide) ?_
      cases h
      exact w_iret X hQ dX9_whyNotKnit_25
  · replace h := it_pos c2 h
    refine w_iconst (pc := 9) X dX9_whyNotKnit_9 (v := 2) rfl ?_
    refine w_goto (tgt := 25) (pc := 10) X dX9_whyNotKnit_10 (by decide) ?_
    cases h
    exact w_iret X hQ dX9_whyNotKnit_25
set_option maxRecDepth 20000 in
theorem M9_whyNotSay {o : Nat} {a1 : Int32} {a2 : Int32} {s : Sto} {r : Int32} {σ' : Sto} (h : f9_whyNotSay o a1 a2 s = some (r, σ')) : Ct yX9_whyNotSay cX9_whyNotSay 3 (some .int) 1 20 (fun ad => [.ref (ad o), .int a1, .int a2]) s (fun ad => some (.int r)) σ' := by
  unfold f9_whyNotSay at h
  obtain ⟨k_o, h⟩ := gd_inv h
  refine Ct_of (by decide) (fun ad => Nat.le_of_ble_eq_true rfl) (fun φ ad X hQ => ?_)
  show wpm φ ad 0 [(0, .ref (ad o)), (1, .int a1), (2, .int a2)] [] s
  replace X : Cx φ ad cX9_whyNotSay (some .int) RX9 3 1 20 := X
  refine w_aload_n (pc := 0) X dX9_whyNotSay_0 0 rfl ?_
  refine w_getR (pc := 1) X dX9_whyNotSay_1 clO_9 k_o 2 (by decide) (d := 1) rfl fl_9_7 ?_
  refine w_iload_n (pc := 4) X dX9_whyNotSay_4 1 rfl ?_
  obtain ⟨g1, h⟩ := gd_inv h
  refine w_iald (pc := 5) X dX9_whyNotSay_5 (kp_9_1 k_o) g1 ?_
  refine w_iload_n (pc := 6) X dX9_whyNotSay_6 2 rfl ?_
  obtain ⟨x3, h9, h⟩ := bd1_inv h
  have K7 : wpm φ ad 15 [(0, .ref (ad o)), (2, .int a2)] [.int x3, .int (s.1 (o + 1) a1.toNatClampNeg)] s := by
    refine w_icmp_ne (pc := 15) (tgt := 20) X dX9_whyNotSay_15 (by decide) (fun c8 => ?_) (fun c8 => ?_)
    · replace h := it_neg c8 h
      refine w_iload_n (pc := 20) X dX9_whyNotSay_20 1 rfl ?_
      refine w_if_eq (pc := 21) (tgt := 31) X dX9_whyNotSay_21 (by decide) (fun c7 => ?_) (fun c7 => ?_)
      · replace h := it_pos c7 h
        refine w_iconst (pc := 31) X dX9_whyNotSay_31 (v := 0) rfl ?_
        cases h
        exact w_iret X hQ dX9_whyNotSay_32
      · replace h := it_neg c7 h
        refine w_aload_n (pc := 24) X dX9_whyNotSay_24 0 rfl ?_
        obtain ⟨r6, s4, h5, h⟩ := bd2_inv h
        refine w_callV (pc := 25) X dX9_whyNotSay_25 (M9_whyNotKnit h5) k_o (by decide) rfl cw_9_144 ⟨Nat.le_of_ble_eq_true rfl, Nat.le_of_ble_eq_true rfl⟩ rfl rfl (Nat.le_of_ble_eq_true rfl) ?_
        show wpm φ ad 28 [(0, .ref (ad o)), (2, .int a2)] [.int r6] s4
        refine w_goto (tgt := 32) (pc := 28) X dX9_whyNotSay_28 (by decide) ?_
        cases h
        exact w_iret X hQ dX9_whyNotSay_32
    · replace h := it_pos c8 h
      refine w_iconst (pc := 18) X dX9_whyNotSay_18 (v := 1) rfl ?_
      cases h
      exact w_iret X hQ dX9_whyNotSay_19
  clear h
  have h := h9
  clear h9
  refine w_if_eq (pc := 7) (tgt := 14) X dX9_whyNotSay_7 (by decide) (fun c2 => ?_) (fun c2 => ?_)
  · replace h := it_pos c2 h
    refine w_iconst (pc := 14) X dX9_whyNotSay_14 (v := 2) rfl ?_
    cases h
    exact w_sub (pc := 15) [0, 2] rfl K7
  · replace h := it_neg c2 h
    refine w_iconst (pc := 10) X dX9_whyNotSay_10 (v := 1) rfl ?_
    refine w_goto (tgt := 15) (pc := 11) X dX9_whyNotSay_11 (by decide) ?_
    cases h
    exact w_sub (pc := 15) [0, 2] rfl K7
set_option maxRecDepth 20000 in
theorem M9_whyNot {o : Nat} {a1 : Int32} {a2 : Int32} {s : Sto} {r : Int32} {σ' : Sto} (h : f9_whyNot o a1 a2 s = some (r, σ')) : Ct yX9_whyNot cX9_whyNot 3 (some .int) 2 42 (fun ad => [.ref (ad o), .int a1, .int a2]) s (fun ad => some (.int r)) σ' := by
  unfold f9_whyNot at h
  obtain ⟨k_o, h⟩ := gd_inv h
  refine Ct_of (by decide) (fun ad => Nat.le_of_ble_eq_true rfl) (fun φ ad X hQ => ?_)
  show wpm φ ad 0 [(0, .ref (ad o)), (1, .int a1), (2, .int a2)] [] s
  replace X : Cx φ ad cX9_whyNot (some .int) RX9 3 2 42 := X
  refine w_aload_n (pc := 0) X dX9_whyNot_0 0 rfl ?_
  refine w_getR (pc := 1) X dX9_whyNot_1 clO_9 k_o 13 (by decide) (d := 8) rfl fl_9_31 ?_
  refine w_iload_n (pc := 4) X dX9_whyNot_4 1 rfl ?_
  obtain ⟨g1, h⟩ := gd_inv h
  refine w_iald (pc := 5) X dX9_whyNot_5 (kp_9_8 k_o) g1 ?_
  by_cases c13 : (s.1 (o + 8) a1.toNatClampNeg) = 0
  · replace h := it_pos c13 h
    refine w_tswIn (pc := 6) (tgt := 32) X dX9_whyNot_6 c13 (by decide) (by decide) rfl (by decide) ?_
    refine w_aload_n (pc := 32) X dX9_whyNot_32 0 rfl ?_
    refine w_aload_n (pc := 33) X dX9_whyNot_33 0 rfl ?_
    refine w_getR (pc := 34) X dX9_whyNot_34 clO_9 k_o 14 (by decide) (d := 9) rfl fl_9_34 ?_
    refine w_iload_n (pc := 37) X dX9_whyNot_37 1 rfl ?_
    obtain ⟨g2, h⟩ := gd_inv h
    refine w_iald (pc := 38) X dX9_whyNot_38 (kp_9_9 k_o) g2 ?_
    refine w_aload_n (pc := 39) X dX9_whyNot_39 0 rfl ?_
    refine w_iload_n (pc := 40) X dX9_whyNot_40 1 rfl ?_
    refine w_iload_n (pc := 41) X dX9_whyNot_41 2 rfl ?_
    obtain ⟨r5, s3, h4, h⟩ := bd2_inv h
    refine w_callV (pc := 42) X dX9_whyNot_42 (M9_isLie h4) k_o (by decide) rfl cw_9_147 ⟨Nat.le_of_ble_eq_true rfl, Nat.le_of_ble_eq_true rfl⟩ rfl rfl (Nat.le_of_ble_eq_true rfl) ?_
    show wpm φ ad 45 [(0, .ref (ad o)), (1, .int a1), (2, .int a2)] [.int r5, .int (s.1 (o + 9) a1.toNatClampNeg), .ref (ad o)] s3
    obtain ⟨r8, s6, h7, h⟩ := bd2_inv h
    refine w_callV (pc := 45) X dX9_whyNot_45 (M9_whyNotSay h7) k_o (by decide) rfl cw_9_151 ⟨Nat.le_of_ble_eq_true rfl, Nat.le_of_ble_eq_true rfl⟩ rfl rfl (Nat.le_of_ble_eq_true rfl) ?_
    show wpm φ ad 48 [(0, .ref (ad o)), (1, .int a1), (2, .int a2)] [.int r8] s6
    cases h
    exact w_iret X hQ dX9_whyNot_48
  replace h := it_neg c13 h
  by_cases c14 : (s.1 (o + 8) a1.toNatClampNeg) = 1
  · replace h := it_pos c14 h
    refine w_tswIn (pc := 6) (tgt := 49) X dX9_whyNot_6 c14 (by decide) (by decide) rfl (by decide) ?_
    refine w_aload_n (pc := 49) X dX9_whyNot_49 0 rfl ?_
    obtain ⟨r11, s9, h10, h⟩ := bd2_inv h
    refine w_callV (pc := 50) X dX9_whyNot_50 (M9_whyNotKnit h10) k_o (by decide) rfl cw_9_144 ⟨Nat.le_of_ble_eq_true rfl, Nat.le_of_ble_eq_true rfl⟩ rfl rfl (Nat.le_of_ble_eq_true rfl) ?_
    show wpm φ ad 53 [(0, .ref (ad o)), (1, .int a1), (2, .int a2)] [.int r11] s9
    cases h
    exact w_iret X hQ dX9_whyNot_53
  replace h := it_neg c14 h
  by_cases c15 : (s.1 (o + 8) a1.toNatClampNeg) = 2
  · replace h := it_pos c15 h
    refine w_tswIn (pc := 6) (tgt := 54) X dX9_whyNot_6 c15 (by decide) (by decide) rfl (by decide) ?_
    refine w_aload_n (pc := 54) X dX9_whyNot_54 0 rfl ?_
    refine w_getI (pc := 55) X dX9_whyNot_55 clO_9 k_o 4 (by decide) rfl fl_9_95 ?_
    refine w_if_ne (pc := 58) (tgt := 65) X dX9_whyNot_58 (by decide) (fun c12 => ?_) (fun c12 => ?_)
    · replace h := it_neg c12 h
      refine w_iconst (pc := 65) X dX9_whyNot_65 (v := 0) rfl ?_
      cases h
      exact w_iret X hQ dX9_whyNot_66
    · replace h := it_pos c12 h
      refine w_iconst (pc := 61) X dX9_whyNot_61 (v := 3) rfl ?_
      refine w_goto (tgt := 66) (pc := 62) X dX9_whyNot_62 (by decide) ?_
      cases h
      exact w_iret X hQ dX9_whyNot_66
  replace h := it_neg c15 h
  refine w_tswOut (pc := 6) (tgt := 67) X dX9_whyNot_6 (fun i i1 i2 => by
      rcases (show i = 0 ∨ i = 1 ∨ i = 2 by omega) with rfl | rfl | rfl
      · exact c13
      · exact c14
      · exact c15) (by decide) ?_
  refine w_iconst (pc := 67) X dX9_whyNot_67 (v := 0) rfl ?_
  cases h
  exact w_iret X hQ dX9_whyNot_68
set_option maxRecDepth 20000 in
theorem M9_knit {o : Nat} {a1 : Int32} {a2 : Int32} {s : Sto} {σ' : Sto} (h : f9_knit o a1 a2 s = some σ') : Ct yX9_knit cX9_knit 3 none 0 0 (fun ad => [.ref (ad o), .int a1, .int a2]) s (fun _ => none) σ' := by
  unfold f9_knit at h
  obtain ⟨k_o, h⟩ := gd_inv h
  refine Ct_of (by decide) (fun ad => Nat.le_of_ble_eq_true rfl) (fun φ ad X hQ => ?_)
  show wpm φ ad 0 [(0, .ref (ad o)), (1, .int a1), (2, .int a2)] [] s
  replace X : Cx φ ad cX9_knit none RX9 3 0 0 := X
  refine w_aload_n (pc := 0) X dX9_knit_0 0 rfl ?_
  refine w_getR (pc := 1) X dX9_knit_1 clO_9 k_o 5 (by decide) (d := 2) rfl fl_9_13 ?_
  refine w_aload_n (pc := 4) X dX9_knit_4 0 rfl ?_
  refine w_getI (pc := 5) X dX9_knit_5 clO_9 k_o 3 (by decide) rfl fl_9_92 ?_
  refine w_iload_n (pc := 8) X dX9_knit_8 1 rfl ?_
  obtain ⟨g1, h⟩ := gd_inv h
  refine w_iast (pc := 9) X dX9_knit_9 (kp_9_2 k_o) g1 ?_
  obtain ⟨s2, e_s2, h⟩ := nm_inv h
  refine w_nm e_s2 ?_
  refine w_aload_n (pc := 10) X dX9_knit_10 0 rfl ?_
  refine w_getR (pc := 11) X dX9_knit_11 clO_9 k_o 6 (by decide) (d := 3) rfl fl_9_16 ?_
  refine w_aload_n (pc := 14) X dX9_knit_14 0 rfl ?_
  refine w_getI (pc := 15) X dX9_knit_15 clO_9 k_o 3 (by decide) rfl fl_9_92 ?_
  refine w_iload_n (pc := 18) X dX9_knit_18 2 rfl ?_
  obtain ⟨g3, h⟩ := gd_inv h
  refine w_iast (pc := 19) X dX9_knit_19 (kp_9_3 k_o) g3 ?_
  obtain ⟨s4, e_s4, h⟩ := nm_inv h
  refine w_nm e_s4 ?_
  refine w_aload_n (pc := 20) X dX9_knit_20 0 rfl ?_
  refine w_getR (pc := 21) X dX9_knit_21 clO_9 k_o 7 (by decide) (d := 4) rfl fl_9_19 ?_
  refine w_aload_n (pc := 24) X dX9_knit_24 0 rfl ?_
  refine w_getI (pc := 25) X dX9_knit_25 clO_9 k_o 3 (by decide) rfl fl_9_92 ?_
  refine w_aload_n (pc := 28) X dX9_knit_28 0 rfl ?_
  refine w_getI (pc := 29) X dX9_knit_29 clO_9 k_o 4 (by decide) rfl fl_9_95 ?_
  obtain ⟨g5, h⟩ := gd_inv h
  refine w_iast (pc := 32) X dX9_knit_32 (kp_9_4 k_o) g5 ?_
  obtain ⟨s6, e_s6, h⟩ := nm_inv h
  refine w_nm e_s6 ?_
  refine w_aload_n (pc := 33) X dX9_knit_33 0 rfl ?_
  refine w_dup (pc := 34) X dX9_knit_34 rfl ?_
  refine w_getI (pc := 35) X dX9_knit_35 clO_9 k_o 3 (by decide) rfl fl_9_92 ?_
  refine w_iconst (pc := 38) X dX9_knit_38 (v := 1) rfl ?_
  refine w_iadd (pc := 39) X dX9_knit_39 ?_
  refine w_putI (pc := 40) X dX9_knit_40 clO_9 k_o 3 (by decide) rfl rfl (Or.inl rfl) fl_9_92 ?_
  obtain ⟨s7, e_s7, h⟩ := nm_inv h
  refine w_nm e_s7 ?_
  refine w_aload_n (pc := 43) X dX9_knit_43 0 rfl ?_
  refine w_dup (pc := 44) X dX9_knit_44 rfl ?_
  refine w_getI (pc := 45) X dX9_knit_45 clO_9 k_o 21 (by decide) rfl fl_9_155 ?_
  refine w_iconst (pc := 48) X dX9_knit_48 (v := 1) rfl ?_
  refine w_iadd (pc := 49) X dX9_knit_49 ?_
  refine w_putI (pc := 50) X dX9_knit_50 clO_9 k_o 21 (by decide) rfl rfl (Or.inl rfl) fl_9_155 ?_
  obtain ⟨s8, e_s8, h⟩ := nm_inv h
  refine w_nm e_s8 ?_
  cases h
  exact w_vret X hQ dX9_knit_53
set_option maxRecDepth 20000 in
theorem M9_ravel {o : Nat} {s : Sto} {σ' : Sto} (h : f9_ravel o s = some σ') : Ct yX9_ravel cX9_ravel 1 none 0 0 (fun ad => [.ref (ad o)]) s (fun _ => none) σ' := by
  unfold f9_ravel at h
  obtain ⟨k_o, h⟩ := gd_inv h
  refine Ct_of (by decide) (fun ad => Nat.le_of_ble_eq_true rfl) (fun φ ad X hQ => ?_)
  show wpm φ ad 0 [(0, .ref (ad o))] [] s
  replace X : Cx φ ad cX9_ravel none RX9 1 0 0 := X
  refine w_aload_n (pc := 0) X dX9_ravel_0 0 rfl ?_
  refine w_getI (pc := 1) X dX9_ravel_1 clO_9 k_o 3 (by decide) rfl fl_9_92 ?_
  refine w_if_le (pc := 4) (tgt := 27) X dX9_ravel_4 (by decide) (fun c3 => ?_) (fun c3 => ?_)
  · replace h := it_pos c3 h
    cases h
    exact w_vret X hQ dX9_ravel_27
  · replace h := it_neg c3 h
    refine w_aload_n (pc := 7) X dX9_ravel_7 0 rfl ?_
    refine w_dup (pc := 8) X dX9_ravel_8 rfl ?_
    refine w_getI (pc := 9) X dX9_ravel_9 clO_9 k_o 3 (by decide) rfl fl_9_92 ?_
    refine w_iconst (pc := 12) X dX9_ravel_12 (v := 1) rfl ?_
    refine w_isub (pc := 13) X dX9_ravel_13 ?_
    refine w_putI (pc := 14) X dX9_ravel_14 clO_9 k_o 3 (by decide) rfl rfl (Or.inl rfl) fl_9_92 ?_
    obtain ⟨s1, e_s1, h⟩ := nm_inv h
    refine w_nm e_s1 ?_
    refine w_aload_n (pc := 17) X dX9_ravel_17 0 rfl ?_
    refine w_dup (pc := 18) X dX9_ravel_18 rfl ?_
    refine w_getI (pc := 19) X dX9_ravel_19 clO_9 k_o 22 (by decide) rfl fl_9_158 ?_
    refine w_iconst (pc := 22) X dX9_ravel_22 (v := 1) rfl ?_
    refine w_iadd (pc := 23) X dX9_ravel_23 ?_
    refine w_putI (pc := 24) X dX9_ravel_24 clO_9 k_o 22 (by decide) rfl rfl (Or.inl rfl) fl_9_158 ?_
    obtain ⟨s2, e_s2, h⟩ := nm_inv h
    refine w_nm e_s2 ?_
    cases h
    exact w_vret X hQ dX9_ravel_27
set_option maxRecDepth 20000 in
theorem WL9_undo_24 {φ : Fr} {ad : Nat → Nat} (X : Cx φ ad cX9_undo none RX9 2 1 20) (o : Nat) (a1 : Int32) (k_o : kd o = 9) : ∀ (fuel : Nat)  (s : Sto)  (t : Sto), L9_undo_24 o a1 fuel s = some (t) → wpm φ ad 53 [] [] t → wpm φ ad 24 [(0, .ref (ad o)), (1, .int a1)] [] s := by
  intro fuel
  induction fuel with
  | zero => intro s t h; cases h
  | succ fuel ih =>
    intro s t h K
    unfold L9_undo_24 at h
    refine w_aload_n (pc := 24) X dX9_undo_24 0 rfl ?_
    refine w_getI (pc := 25) X dX9_undo_25 clO_9 k_o 3 (by decide) rfl fl_9_92 ?_
    refine w_if_le (pc := 28) (tgt := 53) X dX9_undo_28 (by decide) (fun c8 => ?_) (fun c8 => ?_)
    · replace h := it_pos c8 h
      cases h
      exact w_sub (pc := 53) [] rfl K
    · replace h := it_neg c8 h
      refine w_aload_n (pc := 31) X dX9_undo_31 0 rfl ?_
      refine w_getR (pc := 32) X dX9_undo_32 clO_9 k_o 5 (by decide) (d := 2) rfl fl_9_13 ?_
      refine w_aload_n (pc := 35) X dX9_undo_35 0 rfl ?_
      refine w_getI (pc := 36) X dX9_undo_36 clO_9 k_o 3 (by decide) rfl fl_9_92 ?_
      refine w_iconst (pc := 39) X dX9_undo_39 (v := 1) rfl ?_
      refine w_isub (pc := 40) X dX9_undo_40 ?_
      obtain ⟨g4, h⟩ := gd_inv h
      refine w_iald (pc := 41) X dX9_undo_41 (kp_9_2 k_o) g4 ?_
      refine w_iload_n (pc := 42) X dX9_undo_42 1 rfl ?_
      refine w_icmp_ne (pc := 43) (tgt := 53) X dX9_undo_43 (by decide) (fun c7 => ?_) (fun c7 => ?_)
      · replace h := it_neg c7 h
        cases h
        exact w_sub (pc := 53) [] rfl K
      · replace h := it_pos c7 h
        refine w_aload_n (pc := 46) X dX9_undo_46 0 rfl ?_
        obtain ⟨s5, h6, h⟩ := bd1_inv h
        refine w_callV (pc := 47) X dX9_undo_47 (M9_ravel h6) k_o (by decide) rfl cw_9_161 ⟨Nat.le_of_ble_eq_true rfl, Nat.le_of_ble_eq_true rfl⟩ rfl rfl (Nat.le_of_ble_eq_true rfl) ?_
        show wpm φ ad 50 [(0, .ref (ad o)), (1, .int a1)] [] s5
        refine w_goto (tgt := 24) (pc := 50) X dX9_undo_50 (by decide) ?_
        exact w_sub (pc := 24) [0, 1] rfl (ih _ _ h K)
set_option maxRecDepth 20000 in
theorem M9_undo {o : Nat} {s : Sto} {σ' : Sto} (h : f9_undo o s = some σ') : Ct yX9_undo cX9_undo 2 none 1 20 (fun ad => [.ref (ad o)]) s (fun _ => none) σ' := by
  unfold f9_undo at h
  obtain ⟨k_o, h⟩ := gd_inv h
  refine Ct_of (by decide) (fun ad => Nat.le_of_ble_eq_true rfl) (fun φ ad X hQ => ?_)
  show wpm φ ad 0 [(0, .ref (ad o))] [] s
  replace X : Cx φ ad cX9_undo none RX9 2 1 20 := X
  refine w_aload_n (pc := 0) X dX9_undo_0 0 rfl ?_
  refine w_getI (pc := 1) X dX9_undo_1 clO_9 k_o 3 (by decide) rfl fl_9_92 ?_
  obtain ⟨x3, h11, h⟩ := bd1_inv h
  have K4 : wpm φ ad 23 [(0, .ref (ad o))] [.int x3] s := by
    refine w_istore_n (pc := 23) X dX9_undo_23 1 rfl (by decide) (lv' := [(1, .int x3), (0, .ref (ad o))]) rfl ?_
    obtain ⟨s10, h9, h⟩ := bd1_inv h
    refine w_sub (pc := 24) [1, 0] rfl (WL9_undo_24 X o x3 k_o FU s s10 h9 ?_)
    cases h
    exact w_vret X hQ dX9_undo_53
  clear h
  have h := h11
  clear h11
  refine w_if_le (pc := 4) (tgt := 21) X dX9_undo_4 (by decide) (fun c2 => ?_) (fun c2 => ?_)
  · replace h := it_pos c2 h
    refine w_bipush (pc := 21) X dX9_undo_21 (v := (-6)) rfl ?_
    cases h
    exact w_sub (pc := 23) [0] rfl K4
  · replace h := it_neg c2 h
    refine w_aload_n (pc := 7) X dX9_undo_7 0 rfl ?_
    refine w_getR (pc := 8) X dX9_undo_8 clO_9 k_o 5 (by decide) (d := 2) rfl fl_9_13 ?_
    refine w_aload_n (pc := 11) X dX9_undo_11 0 rfl ?_
    refine w_getI (pc := 12) X dX9_undo_12 clO_9 k_o 3 (by decide) rfl fl_9_92 ?_
    refine w_iconst (pc := 15) X dX9_undo_15 (v := 1) rfl ?_
    refine w_isub (pc := 16) X dX9_undo_16 ?_
    obtain ⟨g1, h⟩ := gd_inv h
    refine w_iald (pc := 17) X dX9_undo_17 (kp_9_2 k_o) g1 ?_
    refine w_goto (tgt := 23) (pc := 18) X dX9_undo_18 (by decide) ?_
    cases h
    exact w_sub (pc := 23) [0] rfl K4
set_option maxRecDepth 20000 in
theorem M9_tells {o : Nat} {a1 : Int32} {a2 : Int32} {s : Sto} {σ' : Sto} (h : f9_tells o a1 a2 s = some σ') : Ct yX9_tells cX9_tells 3 none 1 22 (fun ad => [.ref (ad o), .int a1, .int a2]) s (fun _ => none) σ' := by
  unfold f9_tells at h
  obtain ⟨k_o, h⟩ := gd_inv h
  refine Ct_of (by decide) (fun ad => Nat.le_of_ble_eq_true rfl) (fun φ ad X hQ => ?_)
  show wpm φ ad 0 [(0, .ref (ad o)), (1, .int a1), (2, .int a2)] [] s
  replace X : Cx φ ad cX9_tells none RX9 3 1 22 := X
  refine w_iload_n (pc := 0) X dX9_tells_0 2 rfl ?_
  obtain ⟨s9, h13, h⟩ := bd1_inv h
  have K1 : wpm φ ad 29 [(0, .ref (ad o)), (1, .int a1), (2, .int a2)] [] s9 := by
    refine w_aload_n (pc := 29) X dX9_tells_29 0 rfl ?_
    refine w_iload_n (pc := 30) X dX9_tells_30 2 rfl ?_
    refine w_if_eq (pc := 31) (tgt := 38) X dX9_tells_31 (by decide) (fun c12 => ?_) (fun c12 => ?_)
    · replace h := it_pos c12 h
      refine w_bipush (pc := 38) X dX9_tells_38 (v := (-6)) rfl ?_
      refine w_putI (pc := 40) X dX9_tells_40 clO_9 k_o 25 (by decide) rfl rfl (Or.inl rfl) fl_9_164 ?_
      obtain ⟨s10, e_s10, h⟩ := nm_inv h
      refine w_nm e_s10 ?_
      cases h
      exact w_vret X hQ dX9_tells_43
    · replace h := it_neg c12 h
      refine w_iload_n (pc := 34) X dX9_tells_34 1 rfl ?_
      refine w_goto (tgt := 40) (pc := 35) X dX9_tells_35 (by decide) ?_
      refine w_putI (pc := 40) X dX9_tells_40 clO_9 k_o 25 (by decide) rfl rfl (Or.inl rfl) fl_9_164 ?_
      obtain ⟨s11, e_s11, h⟩ := nm_inv h
      refine w_nm e_s11 ?_
      cases h
      exact w_vret X hQ dX9_tells_43
  clear h
  have h := h13
  clear h13
  refine w_if_eq (pc := 1) (tgt := 25) X dX9_tells_1 (by decide) (fun c8 => ?_) (fun c8 => ?_)
  · replace h := it_pos c8 h
    refine w_aload_n (pc := 25) X dX9_tells_25 0 rfl ?_
    obtain ⟨s1, h2, h⟩ := bd1_inv h
    refine w_callV (pc := 26) X dX9_tells_26 (M9_ravel h2) k_o (by decide) rfl cw_9_161 ⟨Nat.le_of_ble_eq_true rfl, Nat.le_of_ble_eq_true rfl⟩ rfl rfl (Nat.le_of_ble_eq_true rfl) ?_
    show wpm φ ad 29 [(0, .ref (ad o)), (1, .int a1), (2, .int a2)] [] s1
    cases h
    exact w_sub (pc := 29) [0, 1, 2] rfl K1
  · replace h := it_neg c8 h
    refine w_aload_n (pc := 4) X dX9_tells_4 0 rfl ?_
    refine w_iload_n (pc := 5) X dX9_tells_5 1 rfl ?_
    refine w_aload_n (pc := 6) X dX9_tells_6 0 rfl ?_
    refine w_getI (pc := 7) X dX9_tells_7 clO_9 k_o 25 (by decide) rfl fl_9_164 ?_
    refine w_iload_n (pc := 10) X dX9_tells_10 1 rfl ?_
    obtain ⟨x4, h7, h⟩ := bd1_inv h
    have K11 : wpm φ ad 19 [(0, .ref (ad o)), (1, .int a1), (2, .int a2)] [.int x4, .int a1, .ref (ad o)] s := by
      obtain ⟨s5, h6, h⟩ := bd1_inv h
      refine w_callV (pc := 19) X dX9_tells_19 (M9_knit h6) k_o (by decide) rfl cw_9_167 ⟨Nat.le_of_ble_eq_true rfl, Nat.le_of_ble_eq_true rfl⟩ rfl rfl (Nat.le_of_ble_eq_true rfl) ?_
      show wpm φ ad 22 [(0, .ref (ad o)), (1, .int a1), (2, .int a2)] [] s5
      refine w_goto (tgt := 29) (pc := 22) X dX9_tells_22 (by decide) ?_
      cases h
      exact w_sub (pc := 29) [0, 1, 2] rfl K1
    clear h
    have h := h7
    clear h7
    refine w_icmp_ne (pc := 11) (tgt := 18) X dX9_tells_11 (by decide) (fun c3 => ?_) (fun c3 => ?_)
    · replace h := it_neg c3 h
      refine w_iconst (pc := 18) X dX9_tells_18 (v := 0) rfl ?_
      cases h
      exact w_sub (pc := 19) [0, 1, 2] rfl K11
    · replace h := it_pos c3 h
      refine w_iconst (pc := 14) X dX9_tells_14 (v := 1) rfl ?_
      refine w_goto (tgt := 19) (pc := 15) X dX9_tells_15 (by decide) ?_
      cases h
      exact w_sub (pc := 19) [0, 1, 2] rfl K11
set_option maxRecDepth 20000 in
theorem M9_happen {o : Nat} {a1 : Int32} {a2 : Int32} {s : Sto} {σ' : Sto} (h : f9_happen o a1 a2 s = some σ') : Ct yX9_happen cX9_happen 3 none 2 44 (fun ad => [.ref (ad o), .int a1, .int a2]) s (fun _ => none) σ' := by
  unfold f9_happen at h
  obtain ⟨k_o, h⟩ := gd_inv h
  refine Ct_of (by decide) (fun ad => Nat.le_of_ble_eq_true rfl) (fun φ ad X hQ => ?_)
  show wpm φ ad 0 [(0, .ref (ad o)), (1, .int a1), (2, .int a2)] [] s
  replace X : Cx φ ad cX9_happen none RX9 3 2 44 := X
  refine w_aload_n (pc := 0) X dX9_happen_0 0 rfl ?_
  refine w_getR (pc := 1) X dX9_happen_1 clO_9 k_o 13 (by decide) (d := 8) rfl fl_9_31 ?_
  refine w_iload_n (pc := 4) X dX9_happen_4 1 rfl ?_
  obtain ⟨g1, h⟩ := gd_inv h
  refine w_iald (pc := 5) X dX9_happen_5 (kp_9_8 k_o) g1 ?_
  refine w_if_ne (pc := 6) (tgt := 26) X dX9_happen_6 (by decide) (fun c18 => ?_) (fun c18 => ?_)
  · replace h := it_neg c18 h
    refine w_aload_n (pc := 26) X dX9_happen_26 0 rfl ?_
    refine w_bipush (pc := 27) X dX9_happen_27 (v := (-6)) rfl ?_
    refine w_putI (pc := 29) X dX9_happen_29 clO_9 k_o 25 (by decide) rfl rfl (Or.inl rfl) fl_9_164 ?_
    obtain ⟨s2, e_s2, h⟩ := nm_inv h
    refine w_nm e_s2 ?_
    refine w_aload_n (pc := 32) X dX9_happen_32 0 rfl ?_
    refine w_getR (pc := 33) X dX9_happen_33 clO_9 k_o 13 (by decide) (d := 8) rfl fl_9_31 ?_
    refine w_iload_n (pc := 36) X dX9_happen_36 1 rfl ?_
    obtain ⟨g3, h⟩ := gd_inv h
    refine w_iald (pc := 37) X dX9_happen_37 (kp_9_8 k_o) g3 ?_
    refine w_iconst (pc := 38) X dX9_happen_38 (v := 1) rfl ?_
    refine w_icmp_ne (pc := 39) (tgt := 52) X dX9_happen_39 (by decide) (fun c11 => ?_) (fun c11 => ?_)
    · replace h := it_neg c11 h
      refine w_aload_n (pc := 52) X dX9_happen_52 0 rfl ?_
      refine w_getR (pc := 53) X dX9_happen_53 clO_9 k_o 13 (by decide) (d := 8) rfl fl_9_31 ?_
      refine w_iload_n (pc := 56) X dX9_happen_56 1 rfl ?_
      obtain ⟨g4, h⟩ := gd_inv h
      refine w_iald (pc := 57) X dX9_happen_57 (kp_9_8 k_o) g4 ?_
      refine w_iconst (pc := 58) X dX9_happen_58 (v := 2) rfl ?_
      refine w_icmp_ne (pc := 59) (tgt := 75) X dX9_happen_59 (by decide) (fun c8 => ?_) (fun c8 => ?_)
      · replace h := it_neg c8 h
        refine w_aload_n (pc := 75) X dX9_happen_75 0 rfl ?_
        obtain ⟨s5, h6, h⟩ := bd1_inv h
        refine w_callV (pc := 76) X dX9_happen_76 (M9_undo h6) k_o (by decide) rfl cw_9_175 ⟨Nat.le_of_ble_eq_true rfl, Nat.le_of_ble_eq_true rfl⟩ rfl rfl (Nat.le_of_ble_eq_true rfl) ?_
        show wpm φ ad 79 [(0, .ref (ad o)), (1, .int a1), (2, .int a2)] [] s5
        cases h
        exact w_vret X hQ dX9_happen_79
      · replace h := it_pos c8 h
        refine w_aload_n (pc := 62) X dX9_happen_62 0 rfl ?_
        refine w_dup (pc := 63) X dX9_happen_63 rfl ?_
        refine w_getI (pc := 64) X dX9_happen_64 clO_9 k_o 4 (by decide) rfl fl_9_95 ?_
        refine w_iconst (pc := 67) X dX9_happen_67 (v := 1) rfl ?_
        refine w_isub (pc := 68) X dX9_happen_68 ?_
        refine w_putI (pc := 69) X dX9_happen_69 clO_9 k_o 4 (by decide) rfl rfl (Or.inl rfl) fl_9_95 ?_
        obtain ⟨s7, e_s7, h⟩ := nm_inv h
        refine w_nm e_s7 ?_
        refine w_goto (tgt := 79) (pc := 72) X dX9_happen_72 (by decide) ?_
        cases h
        exact w_vret X hQ dX9_happen_79
    · replace h := it_pos c11 h
      refine w_aload_n (pc := 42) X dX9_happen_42 0 rfl ?_
      refine w_bipush (pc := 43) X dX9_happen_43 (v := (6)) rfl ?_
      refine w_iconst (pc := 45) X dX9_happen_45 (v := 2) rfl ?_
      obtain ⟨s9, h10, h⟩ := bd1_inv h
      refine w_callV (pc := 46) X dX9_happen_46 (M9_knit h10) k_o (by decide) rfl cw_9_167 ⟨Nat.le_of_ble_eq_true rfl, Nat.le_of_ble_eq_true rfl⟩ rfl rfl (Nat.le_of_ble_eq_true rfl) ?_
      show wpm φ ad 49 [(0, .ref (ad o)), (1, .int a1), (2, .int a2)] [] s9
      refine w_goto (tgt := 79) (pc := 49) X dX9_happen_49 (by decide) ?_
      cases h
      exact w_vret X hQ dX9_happen_79
  · replace h := it_pos c18 h
    refine w_aload_n (pc := 9) X dX9_happen_9 0 rfl ?_
    refine w_aload_n (pc := 10) X dX9_happen_10 0 rfl ?_
    refine w_getR (pc := 11) X dX9_happen_11 clO_9 k_o 14 (by decide) (d := 9) rfl fl_9_34 ?_
    refine w_iload_n (pc := 14) X dX9_happen_14 1 rfl ?_
    obtain ⟨g12, h⟩ := gd_inv h
    refine w_iald (pc := 15) X dX9_happen_15 (kp_9_9 k_o) g12 ?_
    refine w_aload_n (pc := 16) X dX9_happen_16 0 rfl ?_
    refine w_iload_n (pc := 17) X dX9_happen_17 1 rfl ?_
    refine w_iload_n (pc := 18) X dX9_happen_18 2 rfl ?_
    obtain ⟨r15, s13, h14, h⟩ := bd2_inv h
    refine w_callV (pc := 19) X dX9_happen_19 (M9_isLie h14) k_o (by decide) rfl cw_9_147 ⟨Nat.le_of_ble_eq_true rfl, Nat.le_of_ble_eq_true rfl⟩ rfl rfl (Nat.le_of_ble_eq_true rfl) ?_
    show wpm φ ad 22 [(0, .ref (ad o)), (1, .int a1), (2, .int a2)] [.int r15, .int (s.1 (o + 9) a1.toNatClampNeg), .ref (ad o)] s13
    obtain ⟨s16, h17, h⟩ := bd1_inv h
    refine w_callV (pc := 22) X dX9_happen_22 (M9_tells h17) k_o (by decide) rfl cw_9_171 ⟨Nat.le_of_ble_eq_true rfl, Nat.le_of_ble_eq_true rfl⟩ rfl rfl (Nat.le_of_ble_eq_true rfl) ?_
    show wpm φ ad 25 [(0, .ref (ad o)), (1, .int a1), (2, .int a2)] [] s16
    cases h
    exact w_vret X hQ dX9_happen_25
set_option maxRecDepth 20000 in
theorem WL9_keepNow_2 {φ : Fr} {ad : Nat → Nat} (X : Cx φ ad cX9_keepNow none RX9 2 0 0) (o : Nat) (k_o : kd o = 9) : ∀ (fuel : Nat) (v1 : Int32) (s : Sto)  (t : Sto), L9_keepNow_2 o fuel v1 s = some (t) → wpm φ ad 56 [(0, .ref (ad o))] [] t → wpm φ ad 2 [(0, .ref (ad o)), (1, .int v1)] [] s := by
  intro fuel
  induction fuel with
  | zero => intro v1 s t h; cases h
  | succ fuel ih =>
    intro v1 s t h K
    unfold L9_keepNow_2 at h
    refine w_iload_n (pc := 2) X dX9_keepNow_2 1 rfl ?_
    refine w_bipush (pc := 3) X dX9_keepNow_3 (v := (30)) rfl ?_
    refine w_icmp_ge (pc := 5) (tgt := 56) X dX9_keepNow_5 (by decide) (fun c10 => ?_) (fun c10 => ?_)
    · replace h := it_pos c10 h
      cases h
      exact w_sub (pc := 56) [0] rfl K
    · replace h := it_neg c10 h
      refine w_aload_n (pc := 8) X dX9_keepNow_8 0 rfl ?_
      refine w_getR (pc := 9) X dX9_keepNow_9 clO_9 k_o 27 (by decide) (d := 15) rfl fl_9_52 ?_
      refine w_iload_n (pc := 12) X dX9_keepNow_12 1 rfl ?_
      refine w_aload_n (pc := 13) X dX9_keepNow_13 0 rfl ?_
      refine w_getR (pc := 14) X dX9_keepNow_14 clO_9 k_o 5 (by decide) (d := 2) rfl fl_9_13 ?_
      refine w_iload_n (pc := 17) X dX9_keepNow_17 1 rfl ?_
      obtain ⟨g1, h⟩ := gd_inv h
      refine w_iald (pc := 18) X dX9_keepNow_18 (kp_9_2 k_o) g1 ?_
      obtain ⟨g2, h⟩ := gd_inv h
      refine w_iast (pc := 19) X dX9_keepNow_19 (kp_9_15 k_o) g2 ?_
      obtain ⟨s3, e_s3, h⟩ := nm_inv h
      refine w_nm e_s3 ?_
      refine w_aload_n (pc := 20) X dX9_keepNow_20 0 rfl ?_
      refine w_getR (pc := 21) X dX9_keepNow_21 clO_9 k_o 27 (by decide) (d := 15) rfl fl_9_52 ?_
      refine w_bipush (pc := 24) X dX9_keepNow_24 (v := (30)) rfl ?_
      refine w_iload_n (pc := 26) X dX9_keepNow_26 1 rfl ?_
      refine w_iadd (pc := 27) X dX9_keepNow_27 ?_
      refine w_aload_n (pc := 28) X dX9_keepNow_28 0 rfl ?_
      refine w_getR (pc := 29) X dX9_keepNow_29 clO_9 k_o 6 (by decide) (d := 3) rfl fl_9_16 ?_
      refine w_iload_n (pc := 32) X dX9_keepNow_32 1 rfl ?_
      obtain ⟨g4, h⟩ := gd_inv h
      refine w_iald (pc := 33) X dX9_keepNow_33 (kp_9_3 k_o) g4 ?_
      obtain ⟨g5, h⟩ := gd_inv h
      refine w_iast (pc := 34) X dX9_keepNow_34 (kp_9_15 k_o) g5 ?_
      obtain ⟨s6, e_s6, h⟩ := nm_inv h
      refine w_nm e_s6 ?_
      refine w_aload_n (pc := 35) X dX9_keepNow_35 0 rfl ?_
      refine w_getR (pc := 36) X dX9_keepNow_36 clO_9 k_o 27 (by decide) (d := 15) rfl fl_9_52 ?_
      refine w_bipush (pc := 39) X dX9_keepNow_39 (v := (60)) rfl ?_
      refine w_iload_n (pc := 41) X dX9_keepNow_41 1 rfl ?_
      refine w_iadd (pc := 42) X dX9_keepNow_42 ?_
      refine w_aload_n (pc := 43) X dX9_keepNow_43 0 rfl ?_
      refine w_getR (pc := 44) X dX9_keepNow_44 clO_9 k_o 7 (by decide) (d := 4) rfl fl_9_19 ?_
      refine w_iload_n (pc := 47) X dX9_keepNow_47 1 rfl ?_
      obtain ⟨g7, h⟩ := gd_inv h
      refine w_iald (pc := 48) X dX9_keepNow_48 (kp_9_4 k_o) g7 ?_
      obtain ⟨g8, h⟩ := gd_inv h
      refine w_iast (pc := 49) X dX9_keepNow_49 (kp_9_15 k_o) g8 ?_
      obtain ⟨s9, e_s9, h⟩ := nm_inv h
      refine w_nm e_s9 ?_
      refine w_iinc (pc := 50) X dX9_keepNow_50 1 rfl (v := (v1 + 1)) rfl (by decide) (lv' := [(1, .int (v1 + 1)), (0, .ref (ad o))]) rfl ?_
      refine w_goto (tgt := 2) (pc := 53) X dX9_keepNow_53 (by decide) ?_
      exact w_sub (pc := 2) [1, 0] rfl (ih _ _ _ h K)
set_option maxRecDepth 20000 in
theorem M9_keepNow {o : Nat} {s : Sto} {σ' : Sto} (h : f9_keepNow o s = some σ') : Ct yX9_keepNow cX9_keepNow 2 none 0 0 (fun ad => [.ref (ad o)]) s (fun _ => none) σ' := by
  unfold f9_keepNow at h
  obtain ⟨k_o, h⟩ := gd_inv h
  refine Ct_of (by decide) (fun ad => Nat.le_of_ble_eq_true rfl) (fun φ ad X hQ => ?_)
  show wpm φ ad 0 [(0, .ref (ad o))] [] s
  replace X : Cx φ ad cX9_keepNow none RX9 2 0 0 := X
  refine w_iconst (pc := 0) X dX9_keepNow_0 (v := 0) rfl ?_
  refine w_istore_n (pc := 1) X dX9_keepNow_1 1 rfl (by decide) (lv' := [(1, .int (0 : Int32)), (0, .ref (ad o))]) rfl ?_
  obtain ⟨s12, h11, h⟩ := bd1_inv h
  refine w_sub (pc := 2) [1, 0] rfl (WL9_keepNow_2 X o k_o FU (0 : Int32) s s12 h11 ?_)
  refine w_aload_n (pc := 56) X dX9_keepNow_56 0 rfl ?_
  refine w_getR (pc := 57) X dX9_keepNow_57 clO_9 k_o 27 (by decide) (d := 15) rfl fl_9_52 ?_
  refine w_bipush (pc := 60) X dX9_keepNow_60 (v := (90)) rfl ?_
  refine w_aload_n (pc := 62) X dX9_keepNow_62 0 rfl ?_
  refine w_getI (pc := 63) X dX9_keepNow_63 clO_9 k_o 3 (by decide) rfl fl_9_92 ?_
  obtain ⟨g13, h⟩ := gd_inv h
  refine w_iast (pc := 66) X dX9_keepNow_66 (kp_9_15 k_o) g13 ?_
  obtain ⟨s14, e_s14, h⟩ := nm_inv h
  refine w_nm e_s14 ?_
  refine w_aload_n (pc := 67) X dX9_keepNow_67 0 rfl ?_
  refine w_getR (pc := 68) X dX9_keepNow_68 clO_9 k_o 27 (by decide) (d := 15) rfl fl_9_52 ?_
  refine w_bipush (pc := 71) X dX9_keepNow_71 (v := (91)) rfl ?_
  refine w_aload_n (pc := 73) X dX9_keepNow_73 0 rfl ?_
  refine w_getI (pc := 74) X dX9_keepNow_74 clO_9 k_o 4 (by decide) rfl fl_9_95 ?_
  obtain ⟨g15, h⟩ := gd_inv h
  refine w_iast (pc := 77) X dX9_keepNow_77 (kp_9_15 k_o) g15 ?_
  obtain ⟨s16, e_s16, h⟩ := nm_inv h
  refine w_nm e_s16 ?_
  cases h
  exact w_vret X hQ dX9_keepNow_78
set_option maxRecDepth 20000 in
theorem WL9_putBack_2 {φ : Fr} {ad : Nat → Nat} (X : Cx φ ad cX9_putBack none RX9 2 0 0) (o : Nat) (k_o : kd o = 9) : ∀ (fuel : Nat) (v1 : Int32) (s : Sto)  (t : Sto), L9_putBack_2 o fuel v1 s = some (t) → wpm φ ad 56 [(0, .ref (ad o))] [] t → wpm φ ad 2 [(0, .ref (ad o)), (1, .int v1)] [] s := by
  intro fuel
  induction fuel with
  | zero => intro v1 s t h; cases h
  | succ fuel ih =>
    intro v1 s t h K
    unfold L9_putBack_2 at h
    refine w_iload_n (pc := 2) X dX9_putBack_2 1 rfl ?_
    refine w_bipush (pc := 3) X dX9_putBack_3 (v := (30)) rfl ?_
    refine w_icmp_ge (pc := 5) (tgt := 56) X dX9_putBack_5 (by decide) (fun c10 => ?_) (fun c10 => ?_)
    · replace h := it_pos c10 h
      cases h
      exact w_sub (pc := 56) [0] rfl K
    · replace h := it_neg c10 h
      refine w_aload_n (pc := 8) X dX9_putBack_8 0 rfl ?_
      refine w_getR (pc := 9) X dX9_putBack_9 clO_9 k_o 5 (by decide) (d := 2) rfl fl_9_13 ?_
      refine w_iload_n (pc := 12) X dX9_putBack_12 1 rfl ?_
      refine w_aload_n (pc := 13) X dX9_putBack_13 0 rfl ?_
      refine w_getR (pc := 14) X dX9_putBack_14 clO_9 k_o 27 (by decide) (d := 15) rfl fl_9_52 ?_
      refine w_iload_n (pc := 17) X dX9_putBack_17 1 rfl ?_
      obtain ⟨g1, h⟩ := gd_inv h
      refine w_iald (pc := 18) X dX9_putBack_18 (kp_9_15 k_o) g1 ?_
      obtain ⟨g2, h⟩ := gd_inv h
      refine w_iast (pc := 19) X dX9_putBack_19 (kp_9_2 k_o) g2 ?_
      obtain ⟨s3, e_s3, h⟩ := nm_inv h
      refine w_nm e_s3 ?_
      refine w_aload_n (pc := 20) X dX9_putBack_20 0 rfl ?_
      refine w_getR (pc := 21) X dX9_putBack_21 clO_9 k_o 6 (by decide) (d := 3) rfl fl_9_16 ?_
      refine w_iload_n (pc := 24) X dX9_putBack_24 1 rfl ?_
      refine w_aload_n (pc := 25) X dX9_putBack_25 0 rfl ?_
      refine w_getR (pc := 26) X dX9_putBack_26 clO_9 k_o 27 (by decide) (d := 15) rfl fl_9_52 ?_
      refine w_bipush (pc := 29) X dX9_putBack_29 (v := (30)) rfl ?_
      refine w_iload_n (pc := 31) X dX9_putBack_31 1 rfl ?_
      refine w_iadd (pc := 32) X dX9_putBack_32 ?_
      obtain ⟨g4, h⟩ := gd_inv h
      refine w_iald (pc := 33) X dX9_putBack_33 (kp_9_15 k_o) g4 ?_
      obtain ⟨g5, h⟩ := gd_inv h
      refine w_iast (pc := 34) X dX9_putBack_34 (kp_9_3 k_o) g5 ?_
      obtain ⟨s6, e_s6, h⟩ := nm_inv h
      refine w_nm e_s6 ?_
      refine w_aload_n (pc := 35) X dX9_putBack_35 0 rfl ?_
      refine w_getR (pc := 36) X dX9_putBack_36 clO_9 k_o 7 (by decide) (d := 4) rfl fl_9_19 ?_
      refine w_iload_n (pc := 39) X dX9_putBack_39 1 rfl ?_
      refine w_aload_n (pc := 40) X dX9_putBack_40 0 rfl ?_
      refine w_getR (pc := 41) X dX9_putBack_41 clO_9 k_o 27 (by decide) (d := 15) rfl fl_9_52 ?_
      refine w_bipush (pc := 44) X dX9_putBack_44 (v := (60)) rfl ?_
      refine w_iload_n (pc := 46) X dX9_putBack_46 1 rfl ?_
      refine w_iadd (pc := 47) X dX9_putBack_47 ?_
      obtain ⟨g7, h⟩ := gd_inv h
      refine w_iald (pc := 48) X dX9_putBack_48 (kp_9_15 k_o) g7 ?_
      obtain ⟨g8, h⟩ := gd_inv h
      refine w_iast (pc := 49) X dX9_putBack_49 (kp_9_4 k_o) g8 ?_
      obtain ⟨s9, e_s9, h⟩ := nm_inv h
      refine w_nm e_s9 ?_
      refine w_iinc (pc := 50) X dX9_putBack_50 1 rfl (v := (v1 + 1)) rfl (by decide) (lv' := [(1, .int (v1 + 1)), (0, .ref (ad o))]) rfl ?_
      refine w_goto (tgt := 2) (pc := 53) X dX9_putBack_53 (by decide) ?_
      exact w_sub (pc := 2) [1, 0] rfl (ih _ _ _ h K)
set_option maxRecDepth 20000 in
theorem M9_putBack {o : Nat} {s : Sto} {σ' : Sto} (h : f9_putBack o s = some σ') : Ct yX9_putBack cX9_putBack 2 none 0 0 (fun ad => [.ref (ad o)]) s (fun _ => none) σ' := by
  unfold f9_putBack at h
  obtain ⟨k_o, h⟩ := gd_inv h
  refine Ct_of (by decide) (fun ad => Nat.le_of_ble_eq_true rfl) (fun φ ad X hQ => ?_)
  show wpm φ ad 0 [(0, .ref (ad o))] [] s
  replace X : Cx φ ad cX9_putBack none RX9 2 0 0 := X
  refine w_iconst (pc := 0) X dX9_putBack_0 (v := 0) rfl ?_
  refine w_istore_n (pc := 1) X dX9_putBack_1 1 rfl (by decide) (lv' := [(1, .int (0 : Int32)), (0, .ref (ad o))]) rfl ?_
  obtain ⟨s12, h11, h⟩ := bd1_inv h
  refine w_sub (pc := 2) [1, 0] rfl (WL9_putBack_2 X o k_o FU (0 : Int32) s s12 h11 ?_)
  refine w_aload_n (pc := 56) X dX9_putBack_56 0 rfl ?_
  refine w_aload_n (pc := 57) X dX9_putBack_57 0 rfl ?_
  refine w_getR (pc := 58) X dX9_putBack_58 clO_9 k_o 27 (by decide) (d := 15) rfl fl_9_52 ?_
  refine w_bipush (pc := 61) X dX9_putBack_61 (v := (90)) rfl ?_
  obtain ⟨g13, h⟩ := gd_inv h
  refine w_iald (pc := 63) X dX9_putBack_63 (kp_9_15 k_o) g13 ?_
  refine w_putI (pc := 64) X dX9_putBack_64 clO_9 k_o 3 (by decide) rfl rfl (Or.inl rfl) fl_9_92 ?_
  obtain ⟨s14, e_s14, h⟩ := nm_inv h
  refine w_nm e_s14 ?_
  refine w_aload_n (pc := 67) X dX9_putBack_67 0 rfl ?_
  refine w_aload_n (pc := 68) X dX9_putBack_68 0 rfl ?_
  refine w_getR (pc := 69) X dX9_putBack_69 clO_9 k_o 27 (by decide) (d := 15) rfl fl_9_52 ?_
  refine w_bipush (pc := 72) X dX9_putBack_72 (v := (91)) rfl ?_
  obtain ⟨g15, h⟩ := gd_inv h
  refine w_iald (pc := 74) X dX9_putBack_74 (kp_9_15 k_o) g15 ?_
  refine w_putI (pc := 75) X dX9_putBack_75 clO_9 k_o 4 (by decide) rfl rfl (Or.inl rfl) fl_9_95 ?_
  obtain ⟨s16, e_s16, h⟩ := nm_inv h
  refine w_nm e_s16 ?_
  cases h
  exact w_vret X hQ dX9_putBack_78
set_option maxRecDepth 20000 in
theorem WL9_look_5 {φ : Fr} {ad : Nat → Nat} (X : Cx φ ad cX9_look none RX9 3 0 0) (o : Nat) (a1 : Int32) (k_o : kd o = 9) : ∀ (fuel : Nat) (v2 : Int32) (s : Sto)  (t : Sto), L9_look_5 o a1 fuel v2 s = some (t) → wpm φ ad 47 [(0, .ref (ad o))] [] t → wpm φ ad 5 [(0, .ref (ad o)), (1, .int a1), (2, .int v2)] [] s := by
  intro fuel
  induction fuel with
  | zero => intro v2 s t h; cases h
  | succ fuel ih =>
    intro v2 s t h K
    unfold L9_look_5 at h
    refine w_iload_n (pc := 5) X dX9_look_5 2 rfl ?_
    refine w_aload_n (pc := 6) X dX9_look_6 0 rfl ?_
    refine w_getR (pc := 7) X dX9_look_7 clO_9 k_o 27 (by decide) (d := 15) rfl fl_9_52 ?_
    refine w_bipush (pc := 10) X dX9_look_10 (v := (90)) rfl ?_
    obtain ⟨g1, h⟩ := gd_inv h
    refine w_iald (pc := 12) X dX9_look_12 (kp_9_15 k_o) g1 ?_
    refine w_icmp_ge (pc := 13) (tgt := 47) X dX9_look_13 (by decide) (fun c9 => ?_) (fun c9 => ?_)
    · replace h := it_pos c9 h
      cases h
      exact w_sub (pc := 47) [0] rfl K
    · replace h := it_neg c9 h
      refine w_aload_n (pc := 16) X dX9_look_16 0 rfl ?_
      refine w_getR (pc := 17) X dX9_look_17 clO_9 k_o 26 (by decide) (d := 14) rfl fl_9_49 ?_
      refine w_iload_n (pc := 20) X dX9_look_20 2 rfl ?_
      refine w_aload_n (pc := 21) X dX9_look_21 0 rfl ?_
      refine w_getR (pc := 22) X dX9_look_22 clO_9 k_o 26 (by decide) (d := 14) rfl fl_9_49 ?_
      refine w_iload_n (pc := 25) X dX9_look_25 2 rfl ?_
      obtain ⟨g2, h⟩ := gd_inv h
      refine w_iald (pc := 26) X dX9_look_26 (kp_9_14 k_o) g2 ?_
      refine w_if_ge (pc := 27) (tgt := 34) X dX9_look_27 (by decide) (fun c8 => ?_) (fun c8 => ?_)
      · replace h := it_pos c8 h
        refine w_aload_n (pc := 34) X dX9_look_34 0 rfl ?_
        refine w_getR (pc := 35) X dX9_look_35 clO_9 k_o 26 (by decide) (d := 14) rfl fl_9_49 ?_
        refine w_iload_n (pc := 38) X dX9_look_38 2 rfl ?_
        obtain ⟨g3, h⟩ := gd_inv h
        refine w_iald (pc := 39) X dX9_look_39 (kp_9_14 k_o) g3 ?_
        obtain ⟨g4, h⟩ := gd_inv h
        refine w_iast (pc := 40) X dX9_look_40 (kp_9_14 k_o) g4 ?_
        obtain ⟨s5, e_s5, h⟩ := nm_inv h
        refine w_nm e_s5 ?_
        refine w_iinc (pc := 41) X dX9_look_41 2 rfl (v := (v2 + 1)) rfl (by decide) (lv' := [(2, .int (v2 + 1)), (0, .ref (ad o)), (1, .int a1)]) rfl ?_
        refine w_goto (tgt := 5) (pc := 44) X dX9_look_44 (by decide) ?_
        exact w_sub (pc := 5) [1, 2, 0] rfl (ih _ _ _ h K)
      · replace h := it_neg c8 h
        refine w_iload_n (pc := 30) X dX9_look_30 1 rfl ?_
        refine w_goto (tgt := 40) (pc := 31) X dX9_look_31 (by decide) ?_
        obtain ⟨g6, h⟩ := gd_inv h
        refine w_iast (pc := 40) X dX9_look_40 (kp_9_14 k_o) g6 ?_
        obtain ⟨s7, e_s7, h⟩ := nm_inv h
        refine w_nm e_s7 ?_
        refine w_iinc (pc := 41) X dX9_look_41 2 rfl (v := (v2 + 1)) rfl (by decide) (lv' := [(2, .int (v2 + 1)), (0, .ref (ad o)), (1, .int a1)]) rfl ?_
        refine w_goto (tgt := 5) (pc := 44) X dX9_look_44 (by decide) ?_
        exact w_sub (pc := 5) [1, 2, 0] rfl (ih _ _ _ h K)
set_option maxRecDepth 20000 in
theorem M9_look {o : Nat} {a1 : Int32} {s : Sto} {σ' : Sto} (h : f9_look o a1 s = some σ') : Ct yX9_look cX9_look 3 none 0 0 (fun ad => [.ref (ad o), .int a1]) s (fun _ => none) σ' := by
  unfold f9_look at h
  obtain ⟨k_o, h⟩ := gd_inv h
  refine Ct_of (by decide) (fun ad => Nat.le_of_ble_eq_true rfl) (fun φ ad X hQ => ?_)
  show wpm φ ad 0 [(0, .ref (ad o)), (1, .int a1)] [] s
  replace X : Cx φ ad cX9_look none RX9 3 0 0 := X
  refine w_aload_n (pc := 0) X dX9_look_0 0 rfl ?_
  refine w_getI (pc := 1) X dX9_look_1 clO_9 k_o 3 (by decide) rfl fl_9_92 ?_
  refine w_istore_n (pc := 4) X dX9_look_4 2 rfl (by decide) (lv' := [(2, .int (s.1 o 3)), (0, .ref (ad o)), (1, .int a1)]) rfl ?_
  obtain ⟨s11, h10, h⟩ := bd1_inv h
  refine w_sub (pc := 5) [1, 2, 0] rfl (WL9_look_5 X o a1 k_o FU (s.1 o 3) s s11 h10 ?_)
  refine w_aload_n (pc := 47) X dX9_look_47 0 rfl ?_
  refine w_aload_n (pc := 48) X dX9_look_48 0 rfl ?_
  refine w_getI (pc := 49) X dX9_look_49 clO_9 k_o 3 (by decide) rfl fl_9_92 ?_
  refine w_aload_n (pc := 52) X dX9_look_52 0 rfl ?_
  refine w_getI (pc := 53) X dX9_look_53 clO_9 k_o 23 (by decide) rfl fl_9_178 ?_
  obtain ⟨x13, h18, h⟩ := bd1_inv h
  have K56 : wpm φ ad 70 [(0, .ref (ad o))] [.int x13, .ref (ad o)] s11 := by
    refine w_putI (pc := 70) X dX9_look_70 clO_9 k_o 23 (by decide) rfl rfl (Or.inl rfl) fl_9_178 ?_
    obtain ⟨s14, e_s14, h⟩ := nm_inv h
    refine w_nm e_s14 ?_
    refine w_aload_n (pc := 73) X dX9_look_73 0 rfl ?_
    refine w_aload_n (pc := 74) X dX9_look_74 0 rfl ?_
    refine w_getI (pc := 75) X dX9_look_75 clO_9 k_o 3 (by decide) rfl fl_9_92 ?_
    refine w_aload_n (pc := 78) X dX9_look_78 0 rfl ?_
    refine w_getI (pc := 79) X dX9_look_79 clO_9 k_o 24 (by decide) rfl fl_9_181 ?_
    refine w_icmp_le (pc := 82) (tgt := 92) X dX9_look_82 (by decide) (fun c17 => ?_) (fun c17 => ?_)
    · replace h := it_pos c17 h
      refine w_aload_n (pc := 92) X dX9_look_92 0 rfl ?_
      refine w_getI (pc := 93) X dX9_look_93 clO_9 k_o 24 (by decide) rfl fl_9_181 ?_
      refine w_putI (pc := 96) X dX9_look_96 clO_9 k_o 24 (by decide) rfl rfl (Or.inl rfl) fl_9_181 ?_
      obtain ⟨s15, e_s15, h⟩ := nm_inv h
      refine w_nm e_s15 ?_
      cases h
      exact w_vret X hQ dX9_look_99
    · replace h := it_neg c17 h
      refine w_aload_n (pc := 85) X dX9_look_85 0 rfl ?_
      refine w_getI (pc := 86) X dX9_look_86 clO_9 k_o 3 (by decide) rfl fl_9_92 ?_
      refine w_goto (tgt := 96) (pc := 89) X dX9_look_89 (by decide) ?_
      refine w_putI (pc := 96) X dX9_look_96 clO_9 k_o 24 (by decide) rfl rfl (Or.inl rfl) fl_9_181 ?_
      obtain ⟨s16, e_s16, h⟩ := nm_inv h
      refine w_nm e_s16 ?_
      cases h
      exact w_vret X hQ dX9_look_99
  clear h
  have h := h18
  clear h18
  refine w_icmp_ge (pc := 56) (tgt := 66) X dX9_look_56 (by decide) (fun c12 => ?_) (fun c12 => ?_)
  · replace h := it_pos c12 h
    refine w_aload_n (pc := 66) X dX9_look_66 0 rfl ?_
    refine w_getI (pc := 67) X dX9_look_67 clO_9 k_o 23 (by decide) rfl fl_9_178 ?_
    cases h
    exact w_sub (pc := 70) [0] rfl K56
  · replace h := it_neg c12 h
    refine w_aload_n (pc := 59) X dX9_look_59 0 rfl ?_
    refine w_getI (pc := 60) X dX9_look_60 clO_9 k_o 3 (by decide) rfl fl_9_92 ?_
    refine w_goto (tgt := 70) (pc := 63) X dX9_look_63 (by decide) ?_
    cases h
    exact w_sub (pc := 70) [0] rfl K56
set_option maxRecDepth 20000 in
theorem WL9_isSeenSo_4 {φ : Fr} {ad : Nat → Nat} (X : Cx φ ad cX9_isSeenSo (some .boolean) RX9 4 0 0) (o : Nat) (a1 : Int32) (s : Sto) (k_o : kd o = 9) : ∀ (fuel : Nat) (v2 : Int32) (v3 : Int32) (t2 : Int32), L9_isSeenSo_4 o a1 s fuel v2 v3 = some (t2) → wpm φ ad 51 [(2, .int t2)] [] s → wpm φ ad 4 [(0, .ref (ad o)), (1, .int a1), (2, .int v2), (3, .int v3)] [] s := by
  intro fuel
  induction fuel with
  | zero => intro v2 v3 t2 h; cases h
  | succ fuel ih =>
    intro v2 v3 t2 h K
    unfold L9_isSeenSo_4 at h
    refine w_iload_n (pc := 4) X dX9_isSeenSo_4 3 rfl ?_
    refine w_aload_n (pc := 5) X dX9_isSeenSo_5 0 rfl ?_
    refine w_getI (pc := 6) X dX9_isSeenSo_6 clO_9 k_o 10 (by decide) rfl fl_9_98 ?_
    refine w_icmp_ge (pc := 9) (tgt := 51) X dX9_isSeenSo_9 (by decide) (fun c6 => ?_) (fun c6 => ?_)
    · replace h := it_pos c6 h
      cases h
      exact w_sub (pc := 51) [2] rfl K
    · replace h := it_neg c6 h
      refine w_iload_n (pc := 12) X dX9_isSeenSo_12 2 rfl ?_
      refine w_if_eq (pc := 13) (tgt := 43) X dX9_isSeenSo_13 (by decide) (fun c5 => ?_) (fun c5 => ?_)
      · replace h := it_pos c5 h
        refine w_iconst (pc := 43) X dX9_isSeenSo_43 (v := 0) rfl ?_
        refine w_istore_n (pc := 44) X dX9_isSeenSo_44 2 rfl (by decide) (lv' := [(2, .int (0 : Int32)), (0, .ref (ad o)), (1, .int a1), (3, .int v3)]) rfl ?_
        refine w_iinc (pc := 45) X dX9_isSeenSo_45 3 rfl (v := (v3 + 1)) rfl (by decide) (lv' := [(3, .int (v3 + 1)), (2, .int (0 : Int32)), (0, .ref (ad o)), (1, .int a1)]) rfl ?_
        refine w_goto (tgt := 4) (pc := 48) X dX9_isSeenSo_48 (by decide) ?_
        exact w_sub (pc := 4) [2, 3, 1, 0] rfl (ih _ _ _ h K)
      · replace h := it_neg c5 h
        refine w_aload_n (pc := 16) X dX9_isSeenSo_16 0 rfl ?_
        refine w_getR (pc := 17) X dX9_isSeenSo_17 clO_9 k_o 8 (by decide) (d := 5) rfl fl_9_22 ?_
        refine w_iload_n (pc := 20) X dX9_isSeenSo_20 3 rfl ?_
        obtain ⟨g1, h⟩ := gd_inv h
        refine w_iald (pc := 21) X dX9_isSeenSo_21 (kp_9_5 k_o) g1 ?_
        refine w_iload_n (pc := 22) X dX9_isSeenSo_22 1 rfl ?_
        refine w_icmp_ne (pc := 23) (tgt := 39) X dX9_isSeenSo_23 (by decide) (fun c4 => ?_) (fun c4 => ?_)
        · replace h := it_neg c4 h
          refine w_iconst (pc := 39) X dX9_isSeenSo_39 (v := 1) rfl ?_
          refine w_goto (tgt := 44) (pc := 40) X dX9_isSeenSo_40 (by decide) ?_
          refine w_istore_n (pc := 44) X dX9_isSeenSo_44 2 rfl (by decide) (lv' := [(2, .int (1 : Int32)), (0, .ref (ad o)), (1, .int a1), (3, .int v3)]) rfl ?_
          refine w_iinc (pc := 45) X dX9_isSeenSo_45 3 rfl (v := (v3 + 1)) rfl (by decide) (lv' := [(3, .int (v3 + 1)), (2, .int (1 : Int32)), (0, .ref (ad o)), (1, .int a1)]) rfl ?_
          refine w_goto (tgt := 4) (pc := 48) X dX9_isSeenSo_48 (by decide) ?_
          exact w_sub (pc := 4) [2, 3, 1, 0] rfl (ih _ _ _ h K)
        · replace h := it_pos c4 h
          refine w_aload_n (pc := 26) X dX9_isSeenSo_26 0 rfl ?_
          refine w_getR (pc := 27) X dX9_isSeenSo_27 clO_9 k_o 9 (by decide) (d := 6) rfl fl_9_25 ?_
          refine w_iload_n (pc := 30) X dX9_isSeenSo_30 3 rfl ?_
          obtain ⟨g2, h⟩ := gd_inv h
          refine w_iald (pc := 31) X dX9_isSeenSo_31 (kp_9_6 k_o) g2 ?_
          refine w_aload_n (pc := 32) X dX9_isSeenSo_32 0 rfl ?_
          refine w_getI (pc := 33) X dX9_isSeenSo_33 clO_9 k_o 3 (by decide) rfl fl_9_92 ?_
          refine w_icmp_ne (pc := 36) (tgt := 43) X dX9_isSeenSo_36 (by decide) (fun c3 => ?_) (fun c3 => ?_)
          · replace h := it_neg c3 h
            refine w_iconst (pc := 43) X dX9_isSeenSo_43 (v := 0) rfl ?_
            refine w_istore_n (pc := 44) X dX9_isSeenSo_44 2 rfl (by decide) (lv' := [(2, .int (0 : Int32)), (0, .ref (ad o)), (1, .int a1), (3, .int v3)]) rfl ?_
            refine w_iinc (pc := 45) X dX9_isSeenSo_45 3 rfl (v := (v3 + 1)) rfl (by decide) (lv' := [(3, .int (v3 + 1)), (2, .int (0 : Int32)), (0, .ref (ad o)), (1, .int a1)]) rfl ?_
            refine w_goto (tgt := 4) (pc := 48) X dX9_isSeenSo_48 (by decide) ?_
            exact w_sub (pc := 4) [2, 3, 1, 0] rfl (ih _ _ _ h K)
          · replace h := it_pos c3 h
            refine w_iconst (pc := 39) X dX9_isSeenSo_39 (v := 1) rfl ?_
            refine w_goto (tgt := 44) (pc := 40) X dX9_isSeenSo_40 (by decide) ?_
            refine w_istore_n (pc := 44) X dX9_isSeenSo_44 2 rfl (by decide) (lv' := [(2, .int (1 : Int32)), (0, .ref (ad o)), (1, .int a1), (3, .int v3)]) rfl ?_
            refine w_iinc (pc := 45) X dX9_isSeenSo_45 3 rfl (v := (v3 + 1)) rfl (by decide) (lv' := [(3, .int (v3 + 1)), (2, .int (1 : Int32)), (0, .ref (ad o)), (1, .int a1)]) rfl ?_
            refine w_goto (tgt := 4) (pc := 48) X dX9_isSeenSo_48 (by decide) ?_
            exact w_sub (pc := 4) [2, 3, 1, 0] rfl (ih _ _ _ h K)
set_option maxRecDepth 20000 in
theorem M9_isSeenSo {o : Nat} {a1 : Int32} {s : Sto} {r : Int32} {σ' : Sto} (h : f9_isSeenSo o a1 s = some (r, σ')) : Ct yX9_isSeenSo cX9_isSeenSo 4 (some .boolean) 0 0 (fun ad => [.ref (ad o), .int a1]) s (fun ad => some (.int r)) σ' := by
  unfold f9_isSeenSo at h
  obtain ⟨k_o, h⟩ := gd_inv h
  refine Ct_of (by decide) (fun ad => Nat.le_of_ble_eq_true rfl) (fun φ ad X hQ => ?_)
  show wpm φ ad 0 [(0, .ref (ad o)), (1, .int a1)] [] s
  replace X : Cx φ ad cX9_isSeenSo (some .boolean) RX9 4 0 0 := X
  refine w_iconst (pc := 0) X dX9_isSeenSo_0 (v := 1) rfl ?_
  refine w_istore_n (pc := 1) X dX9_isSeenSo_1 2 rfl (by decide) (lv' := [(2, .int (1 : Int32)), (0, .ref (ad o)), (1, .int a1)]) rfl ?_
  refine w_iconst (pc := 2) X dX9_isSeenSo_2 (v := 0) rfl ?_
  refine w_istore_n (pc := 3) X dX9_isSeenSo_3 3 rfl (by decide) (lv' := [(3, .int (0 : Int32)), (2, .int (1 : Int32)), (0, .ref (ad o)), (1, .int a1)]) rfl ?_
  obtain ⟨y8, h7, h⟩ := bd1_inv h
  refine w_sub (pc := 4) [2, 3, 1, 0] rfl (WL9_isSeenSo_4 X o a1 s k_o FU (1 : Int32) (0 : Int32) y8 h7 ?_)
  refine w_iload_n (pc := 51) X dX9_isSeenSo_51 0 rfl ?_
  obtain ⟨g9, h⟩ := gd_inv h
  cases h
  exact w_zret X hQ dX9_isSeenSo_52 g9
set_option maxRecDepth 20000 in
theorem WL9_goEvening_55 {φ : Fr} {ad : Nat → Nat} (X : Cx φ ad cX9_goEvening none RX9 4 3 66) (o : Nat) (a1 : Int32) (k_o : kd o = 9) : ∀ (fuel : Nat) (v2 : Int32) (s : Sto)  (t : Sto), L9_goEvening_55 o a1 fuel v2 s = some (t) → wpm φ ad 75 [(0, .ref (ad o)), (1, .int a1)] [] t → wpm φ ad 55 [(0, .ref (ad o)), (1, .int a1), (2, .int v2)] [] s := by
  intro fuel
  induction fuel with
  | zero => intro v2 s t h; cases h
  | succ fuel ih =>
    intro v2 s t h K
    unfold L9_goEvening_55 at h
    refine w_iload_n (pc := 55) X dX9_goEvening_55 2 rfl ?_
    refine w_bipush (pc := 56) X dX9_goEvening_56 (v := (30)) rfl ?_
    refine w_icmp_ge (pc := 58) (tgt := 75) X dX9_goEvening_58 (by decide) (fun c15 => ?_) (fun c15 => ?_)
    · replace h := it_pos c15 h
      cases h
      exact w_sub (pc := 75) [0, 1] rfl K
    · replace h := it_neg c15 h
      refine w_aload_n (pc := 61) X dX9_goEvening_61 0 rfl ?_
      refine w_getR (pc := 62) X dX9_goEvening_62 clO_9 k_o 26 (by decide) (d := 14) rfl fl_9_49 ?_
      refine w_iload_n (pc := 65) X dX9_goEvening_65 2 rfl ?_
      refine w_bipush (pc := 66) X dX9_goEvening_66 (v := (-6)) rfl ?_
      obtain ⟨g13, h⟩ := gd_inv h
      refine w_iast (pc := 68) X dX9_goEvening_68 (kp_9_14 k_o) g13 ?_
      obtain ⟨s14, e_s14, h⟩ := nm_inv h
      refine w_nm e_s14 ?_
      refine w_iinc (pc := 69) X dX9_goEvening_69 2 rfl (v := (v2 + 1)) rfl (by decide) (lv' := [(2, .int (v2 + 1)), (0, .ref (ad o)), (1, .int a1)]) rfl ?_
      refine w_goto (tgt := 55) (pc := 72) X dX9_goEvening_72 (by decide) ?_
      exact w_sub (pc := 55) [1, 2, 0] rfl (ih _ _ _ h K)
set_option maxRecDepth 20000 in
theorem WL9_goEvening_77 {φ : Fr} {ad : Nat → Nat} (X : Cx φ ad cX9_goEvening none RX9 4 3 66) (o : Nat) (a1 : Int32) (k_o : kd o = 9) : ∀ (fuel : Nat) (v2 : Int32) (s : Sto)  (t : Sto), L9_goEvening_77 o a1 fuel v2 s = some (t) → wpm φ ad 174 [] [] t → wpm φ ad 77 [(0, .ref (ad o)), (1, .int a1), (2, .int v2)] [] s := by
  intro fuel
  induction fuel with
  | zero => intro v2 s t h; cases h
  | succ fuel ih =>
    intro v2 s t h K
    unfold L9_goEvening_77 at h
    refine w_iload_n (pc := 77) X dX9_goEvening_77 2 rfl ?_
    refine w_aload_n (pc := 78) X dX9_goEvening_78 0 rfl ?_
    refine w_getI (pc := 79) X dX9_goEvening_79 clO_9 k_o 17 (by decide) rfl fl_9_127 ?_
    refine w_icmp_ge (pc := 82) (tgt := 174) X dX9_goEvening_82 (by decide) (fun c43 => ?_) (fun c43 => ?_)
    · replace h := it_pos c43 h
      cases h
      exact w_sub (pc := 174) [] rfl K
    · replace h := it_neg c43 h
      refine w_aload_n (pc := 85) X dX9_goEvening_85 0 rfl ?_
      refine w_getI (pc := 86) X dX9_goEvening_86 clO_9 k_o 28 (by decide) rfl fl_9_184 ?_
      refine w_if_ge (pc := 89) (tgt := 174) X dX9_goEvening_89 (by decide) (fun c42 => ?_) (fun c42 => ?_)
      · replace h := it_pos c42 h
        cases h
        exact w_sub (pc := 174) [] rfl K
      · replace h := it_neg c42 h
        refine w_aload_n (pc := 92) X dX9_goEvening_92 0 rfl ?_
        refine w_iload_n (pc := 93) X dX9_goEvening_93 2 rfl ?_
        refine w_iload_n (pc := 94) X dX9_goEvening_94 1 rfl ?_
        obtain ⟨r20, s18, h19, h⟩ := bd2_inv h
        refine w_callV (pc := 95) X dX9_goEvening_95 (M9_whyNot h19) k_o (by decide) rfl cw_9_197 ⟨Nat.le_of_ble_eq_true rfl, Nat.le_of_ble_eq_true rfl⟩ rfl rfl (Nat.le_of_ble_eq_true rfl) ?_
        show wpm φ ad 98 [(0, .ref (ad o)), (1, .int a1), (2, .int v2)] [.int r20] s18
        refine w_istore_n (pc := 98) X dX9_goEvening_98 3 rfl (by decide) (lv' := [(3, .int r20), (0, .ref (ad o)), (1, .int a1), (2, .int v2)]) rfl ?_
        refine w_aload_n (pc := 99) X dX9_goEvening_99 1 rfl ?_
        refine w_iload_n (pc := 100) X dX9_goEvening_100 0 rfl ?_
        obtain ⟨x22, h41, h⟩ := bd1_inv h
        have K101 : wpm φ ad 110 [(0, .ref (ad o)), (1, .int a1), (2, .int v2), (3, .int r20)] [.int x22, .ref (ad o)] s18 := by
          refine w_putI (pc := 110) X dX9_goEvening_110 clO_9 k_o 28 (by decide) rfl rfl (Or.inl rfl) fl_9_184 ?_
          obtain ⟨s23, e_s23, h⟩ := nm_inv h
          refine w_nm e_s23 ?_
          refine w_aload_n (pc := 113) X dX9_goEvening_113 0 rfl ?_
          refine w_iload_n (pc := 114) X dX9_goEvening_114 3 rfl ?_
          obtain ⟨x25, h40, h⟩ := bd1_inv h
          have K115 : wpm φ ad 124 [(0, .ref (ad o)), (1, .int a1), (2, .int v2), (3, .int r20)] [.int x25, .ref (ad o)] s23 := by
            refine w_putI (pc := 124) X dX9_goEvening_124 clO_9 k_o 29 (by decide) rfl rfl (Or.inl rfl) fl_9_187 ?_
            obtain ⟨s26, e_s26, h⟩ := nm_inv h
            refine w_nm e_s26 ?_
            refine w_iload_n (pc := 127) X dX9_goEvening_127 3 rfl ?_
            refine w_if_ne (pc := 128) (tgt := 168) X dX9_goEvening_128 (by decide) (fun c39 => ?_) (fun c39 => ?_)
            · replace h := it_neg c39 h
              refine w_iinc (pc := 168) X dX9_goEvening_168 2 rfl (v := (v2 + 1)) rfl (by decide) (lv' := [(2, .int (v2 + 1)), (0, .ref (ad o)), (1, .int a1), (3, .int r20)]) rfl ?_
              refine w_goto (tgt := 77) (pc := 171) X dX9_goEvening_171 (by decide) ?_
              exact w_sub (pc := 77) [1, 2, 0] rfl (ih _ _ _ h K)
            · replace h := it_pos c39 h
              refine w_aload_n (pc := 131) X dX9_goEvening_131 0 rfl ?_
              refine w_iload_n (pc := 132) X dX9_goEvening_132 2 rfl ?_
              refine w_iload_n (pc := 133) X dX9_goEvening_133 1 rfl ?_
              obtain ⟨s27, h28, h⟩ := bd1_inv h
              refine w_callV (pc := 134) X dX9_goEvening_134 (M9_happen h28) k_o (by decide) rfl cw_9_201 ⟨Nat.le_of_ble_eq_true rfl, Nat.le_of_ble_eq_true rfl⟩ rfl rfl (Nat.le_of_ble_eq_true rfl) ?_
              show wpm φ ad 137 [(0, .ref (ad o)), (1, .int a1), (2, .int v2), (3, .int r20)] [] s27
              refine w_aload_n (pc := 137) X dX9_goEvening_137 0 rfl ?_
              refine w_iload_n (pc := 138) X dX9_goEvening_138 2 rfl ?_
              obtain ⟨s29, h30, h⟩ := bd1_inv h
              refine w_callV (pc := 139) X dX9_goEvening_139 (M9_look h30) k_o (by decide) rfl cw_9_204 ⟨Nat.le_of_ble_eq_true rfl, Nat.le_of_ble_eq_true rfl⟩ rfl rfl (Nat.le_of_ble_eq_true rfl) ?_
              show wpm φ ad 142 [(0, .ref (ad o)), (1, .int a1), (2, .int v2), (3, .int r20)] [] s29
              refine w_aload_n (pc := 142) X dX9_goEvening_142 0 rfl ?_
              refine w_aload_n (pc := 143) X dX9_goEvening_143 0 rfl ?_
              refine w_getI (pc := 144) X dX9_goEvening_144 clO_9 k_o 30 (by decide) rfl fl_9_193 ?_
              refine w_if_eq (pc := 147) (tgt := 164) X dX9_goEvening_147 (by decide) (fun c38 => ?_) (fun c38 => ?_)
              · replace h := it_pos c38 h
                refine w_iconst (pc := 164) X dX9_goEvening_164 (v := 0) rfl ?_
                refine w_putI (pc := 165) X dX9_goEvening_165 clO_9 k_o 30 (by decide) rfl rfl (Or.inr ⟨rfl, Or.inl rfl⟩) fl_9_193 ?_
                obtain ⟨s31, e_s31, h⟩ := nm_inv h
                refine w_nm e_s31 ?_
                refine w_iinc (pc := 168) X dX9_goEvening_168 2 rfl (v := (v2 + 1)) rfl (by decide) (lv' := [(2, .int (v2 + 1)), (0, .ref (ad o)), (1, .int a1), (3, .int r20)]) rfl ?_
                refine w_goto (tgt := 77) (pc := 171) X dX9_goEvening_171 (by decide) ?_
                exact w_sub (pc := 77) [1, 2, 0] rfl (ih _ _ _ h K)
              · replace h := it_neg c38 h
                refine w_aload_n (pc := 150) X dX9_goEvening_150 0 rfl ?_
                refine w_iload_n (pc := 151) X dX9_goEvening_151 2 rfl ?_
                refine w_iconst (pc := 152) X dX9_goEvening_152 (v := 1) rfl ?_
                refine w_iadd (pc := 153) X dX9_goEvening_153 ?_
                obtain ⟨r34, s32, h33, h⟩ := bd2_inv h
                refine w_callV (pc := 154) X dX9_goEvening_154 (M9_isSeenSo h33) k_o (by decide) rfl cw_9_190 ⟨Nat.le_of_ble_eq_true rfl, Nat.le_of_ble_eq_true rfl⟩ rfl rfl (Nat.le_of_ble_eq_true rfl) ?_
                show wpm φ ad 157 [(0, .ref (ad o)), (1, .int a1), (2, .int v2), (3, .int r20)] [.int r34, .ref (ad o)] s32
                refine w_if_eq (pc := 157) (tgt := 164) X dX9_goEvening_157 (by decide) (fun c37 => ?_) (fun c37 => ?_)
                · replace h := it_pos c37 h
                  refine w_iconst (pc := 164) X dX9_goEvening_164 (v := 0) rfl ?_
                  refine w_putI (pc := 165) X dX9_goEvening_165 clO_9 k_o 30 (by decide) rfl rfl (Or.inr ⟨rfl, Or.inl rfl⟩) fl_9_193 ?_
                  obtain ⟨s35, e_s35, h⟩ := nm_inv h
                  refine w_nm e_s35 ?_
                  refine w_iinc (pc := 168) X dX9_goEvening_168 2 rfl (v := (v2 + 1)) rfl (by decide) (lv' := [(2, .int (v2 + 1)), (0, .ref (ad o)), (1, .int a1), (3, .int r20)]) rfl ?_
                  refine w_goto (tgt := 77) (pc := 171) X dX9_goEvening_171 (by decide) ?_
                  exact w_sub (pc := 77) [1, 2, 0] rfl (ih _ _ _ h K)
                · replace h := it_neg c37 h
                  refine w_iconst (pc := 160) X dX9_goEvening_160 (v := 1) rfl ?_
                  refine w_goto (tgt := 165) (pc := 161) X dX9_goEvening_161 (by decide) ?_
                  refine w_putI (pc := 165) X dX9_goEvening_165 clO_9 k_o 30 (by decide) rfl rfl (Or.inr ⟨rfl, Or.inr rfl⟩) fl_9_193 ?_
                  obtain ⟨s36, e_s36, h⟩ := nm_inv h
                  refine w_nm e_s36 ?_
                  refine w_iinc (pc := 168) X dX9_goEvening_168 2 rfl (v := (v2 + 1)) rfl (by decide) (lv' := [(2, .int (v2 + 1)), (0, .ref (ad o)), (1, .int a1), (3, .int r20)]) rfl ?_
                  refine w_goto (tgt := 77) (pc := 171) X dX9_goEvening_171 (by decide) ?_
                  exact w_sub (pc := 77) [1, 2, 0] rfl (ih _ _ _ h K)
          clear h
          have h := h40
          clear h40
          refine w_if_le (pc := 115) (tgt := 122) X dX9_goEvening_115 (by decide) (fun c24 => ?_) (fun c24 => ?_)
          · replace h := it_pos c24 h
            refine w_bipush (pc := 122) X dX9_goEvening_122 (v := (-6)) rfl ?_
            cases h
            exact w_sub (pc := 124) [0, 1, 2, 3] rfl K115
          · replace h := it_neg c24 h
            refine w_iload_n (pc := 118) X dX9_goEvening_118 3 rfl ?_
            refine w_goto (tgt := 124) (pc := 119) X dX9_goEvening_119 (by decide) ?_
            cases h
            exact w_sub (pc := 124) [0, 1, 2, 3] rfl K115
        clear h
        have h := h41
        clear h41
        refine w_if_le (pc := 101) (tgt := 108) X dX9_goEvening_101 (by decide) (fun c21 => ?_) (fun c21 => ?_)
        · replace h := it_pos c21 h
          refine w_bipush (pc := 108) X dX9_goEvening_108 (v := (-6)) rfl ?_
          cases h
          exact w_sub (pc := 110) [1, 2, 3, 0] rfl K101
        · replace h := it_neg c21 h
          refine w_iload_n (pc := 104) X dX9_goEvening_104 3 rfl ?_
          refine w_goto (tgt := 110) (pc := 105) X dX9_goEvening_105 (by decide) ?_
          cases h
          exact w_sub (pc := 110) [1, 2, 3, 0] rfl K101
set_option maxRecDepth 20000 in
theorem M9_goEvening {o : Nat} {a1 : Int32} {s : Sto} {σ' : Sto} (h : f9_goEvening o a1 s = some σ') : Ct yX9_goEvening cX9_goEvening 4 none 3 66 (fun ad => [.ref (ad o), .int a1]) s (fun _ => none) σ' := by
  unfold f9_goEvening at h
  obtain ⟨k_o, h⟩ := gd_inv h
  refine Ct_of (by decide) (fun ad => Nat.le_of_ble_eq_true rfl) (fun φ ad X hQ => ?_)
  show wpm φ ad 0 [(0, .ref (ad o)), (1, .int a1)] [] s
  replace X : Cx φ ad cX9_goEvening none RX9 4 3 66 := X
  refine w_aload_n (pc := 0) X dX9_goEvening_0 0 rfl ?_
  refine w_bipush (pc := 1) X dX9_goEvening_1 (v := (-6)) rfl ?_
  refine w_putI (pc := 3) X dX9_goEvening_3 clO_9 k_o 28 (by decide) rfl rfl (Or.inl rfl) fl_9_184 ?_
  obtain ⟨s1, e_s1, h⟩ := nm_inv h
  refine w_nm e_s1 ?_
  refine w_aload_n (pc := 6) X dX9_goEvening_6 0 rfl ?_
  refine w_bipush (pc := 7) X dX9_goEvening_7 (v := (-6)) rfl ?_
  refine w_putI (pc := 9) X dX9_goEvening_9 clO_9 k_o 29 (by decide) rfl rfl (Or.inl rfl) fl_9_187 ?_
  obtain ⟨s2, e_s2, h⟩ := nm_inv h
  refine w_nm e_s2 ?_
  refine w_aload_n (pc := 12) X dX9_goEvening_12 0 rfl ?_
  refine w_iconst (pc := 13) X dX9_goEvening_13 (v := 0) rfl ?_
  refine w_putI (pc := 14) X dX9_goEvening_14 clO_9 k_o 21 (by decide) rfl rfl (Or.inl rfl) fl_9_155 ?_
  obtain ⟨s3, e_s3, h⟩ := nm_inv h
  refine w_nm e_s3 ?_
  refine w_aload_n (pc := 17) X dX9_goEvening_17 0 rfl ?_
  refine w_iconst (pc := 18) X dX9_goEvening_18 (v := 0) rfl ?_
  refine w_putI (pc := 19) X dX9_goEvening_19 clO_9 k_o 22 (by decide) rfl rfl (Or.inl rfl) fl_9_158 ?_
  obtain ⟨s4, e_s4, h⟩ := nm_inv h
  refine w_nm e_s4 ?_
  refine w_aload_n (pc := 22) X dX9_goEvening_22 0 rfl ?_
  refine w_aload_n (pc := 23) X dX9_goEvening_23 0 rfl ?_
  refine w_getI (pc := 24) X dX9_goEvening_24 clO_9 k_o 3 (by decide) rfl fl_9_92 ?_
  refine w_putI (pc := 27) X dX9_goEvening_27 clO_9 k_o 23 (by decide) rfl rfl (Or.inl rfl) fl_9_178 ?_
  obtain ⟨s5, e_s5, h⟩ := nm_inv h
  refine w_nm e_s5 ?_
  refine w_aload_n (pc := 30) X dX9_goEvening_30 0 rfl ?_
  refine w_aload_n (pc := 31) X dX9_goEvening_31 0 rfl ?_
  refine w_getI (pc := 32) X dX9_goEvening_32 clO_9 k_o 3 (by decide) rfl fl_9_92 ?_
  refine w_putI (pc := 35) X dX9_goEvening_35 clO_9 k_o 24 (by decide) rfl rfl (Or.inl rfl) fl_9_181 ?_
  obtain ⟨s6, e_s6, h⟩ := nm_inv h
  refine w_nm e_s6 ?_
  refine w_aload_n (pc := 38) X dX9_goEvening_38 0 rfl ?_
  refine w_bipush (pc := 39) X dX9_goEvening_39 (v := (-6)) rfl ?_
  refine w_putI (pc := 41) X dX9_goEvening_41 clO_9 k_o 25 (by decide) rfl rfl (Or.inl rfl) fl_9_164 ?_
  obtain ⟨s7, e_s7, h⟩ := nm_inv h
  refine w_nm e_s7 ?_
  refine w_aload_n (pc := 44) X dX9_goEvening_44 0 rfl ?_
  refine w_aload_n (pc := 45) X dX9_goEvening_45 0 rfl ?_
  refine w_iconst (pc := 46) X dX9_goEvening_46 (v := 0) rfl ?_
  obtain ⟨r10, s8, h9, h⟩ := bd2_inv h
  refine w_callV (pc := 47) X dX9_goEvening_47 (M9_isSeenSo h9) k_o (by decide) rfl cw_9_190 ⟨Nat.le_of_ble_eq_true rfl, Nat.le_of_ble_eq_true rfl⟩ rfl rfl (Nat.le_of_ble_eq_true rfl) ?_
  show wpm φ ad 50 [(0, .ref (ad o)), (1, .int a1)] [.int r10, .ref (ad o)] s8
  obtain ⟨g11, h⟩ := gd_inv h
  refine w_putI (pc := 50) X dX9_goEvening_50 clO_9 k_o 30 (by decide) rfl rfl (Or.inr ⟨rfl, g11⟩) fl_9_193 ?_
  obtain ⟨s12, e_s12, h⟩ := nm_inv h
  refine w_nm e_s12 ?_
  refine w_iconst (pc := 53) X dX9_goEvening_53 (v := 0) rfl ?_
  refine w_istore_n (pc := 54) X dX9_goEvening_54 2 rfl (by decide) (lv' := [(2, .int (0 : Int32)), (0, .ref (ad o)), (1, .int a1)]) rfl ?_
  obtain ⟨s17, h16, h⟩ := bd1_inv h
  refine w_sub (pc := 55) [1, 2, 0] rfl (WL9_goEvening_55 X o a1 k_o FU (0 : Int32) s12 s17 h16 ?_)
  refine w_iconst (pc := 75) X dX9_goEvening_75 (v := 0) rfl ?_
  refine w_istore_n (pc := 76) X dX9_goEvening_76 2 rfl (by decide) (lv' := [(2, .int (0 : Int32)), (0, .ref (ad o)), (1, .int a1)]) rfl ?_
  obtain ⟨s45, h44, h⟩ := bd1_inv h
  refine w_sub (pc := 77) [1, 2, 0] rfl (WL9_goEvening_77 X o a1 k_o FU (0 : Int32) s17 s45 h44 ?_)
  cases h
  exact w_vret X hQ dX9_goEvening_174
