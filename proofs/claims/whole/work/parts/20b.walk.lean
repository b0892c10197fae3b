set_option maxRecDepth 20000 in
theorem M6_add {o : Nat} {a1 : Int32} {a2 : Int32} {s : Sto} {σ' : Sto} (h : f6_add o a1 a2 s = some σ') : Ct yX6_add cX6_add 3 none 1 22 (fun ad => [.ref (ad o), .int a1, .int a2]) s (fun _ => none) σ' := by
  unfold f6_add at h
  obtain ⟨k_o, h⟩ := gd_inv h
  refine Ct_of (by decide) (fun ad => Nat.le_of_ble_eq_true rfl) (fun φ ad X hQ => ?_)
  show wpm φ ad 0 [(0, .ref (ad o)), (1, .int a1), (2, .int a2)] [] s
  replace X : Cx φ ad cX6_add none RX6 3 1 22 := X
  refine w_aload_n (pc := 0) X dX6_add_0 0 rfl ?_
  refine w_getR (pc := 1) X dX6_add_1 clO_6 k_o 0 (by decide) (d := 1) rfl fl_6_9 ?_
  refine w_aload_n (pc := 4) X dX6_add_4 0 rfl ?_
  refine w_getI (pc := 5) X dX6_add_5 clO_6 k_o 2 (by decide) rfl fl_6_18 ?_
  refine w_iload_n (pc := 8) X dX6_add_8 1 rfl ?_
  obtain ⟨s1, h2, h⟩ := bd1_inv h
  refine w_callSN (pc := 9) X dX6_add_9 (M8_put h2) mn_6_32 cw_6_32 ⟨Nat.le_of_ble_eq_true rfl, Nat.le_of_ble_eq_true rfl⟩ rfl rfl (Nat.le_of_ble_eq_true rfl) ?_
  show wpm φ ad 12 [(0, .ref (ad o)), (1, .int a1), (2, .int a2)] [] s1
  refine w_aload_n (pc := 12) X dX6_add_12 0 rfl ?_
  refine w_getR (pc := 13) X dX6_add_13 clO_6 k_o 1 (by decide) (d := 2) rfl fl_6_15 ?_
  refine w_aload_n (pc := 16) X dX6_add_16 0 rfl ?_
  refine w_getI (pc := 17) X dX6_add_17 clO_6 k_o 2 (by decide) rfl fl_6_18 ?_
  refine w_iload_n (pc := 20) X dX6_add_20 2 rfl ?_
  obtain ⟨s3, h4, h⟩ := bd1_inv h
  refine w_callSN (pc := 21) X dX6_add_21 (M8_put h4) mn_6_32 cw_6_32 ⟨Nat.le_of_ble_eq_true rfl, Nat.le_of_ble_eq_true rfl⟩ rfl rfl (Nat.le_of_ble_eq_true rfl) ?_
  show wpm φ ad 24 [(0, .ref (ad o)), (1, .int a1), (2, .int a2)] [] s3
  refine w_aload_n (pc := 24) X dX6_add_24 0 rfl ?_
  refine w_dup (pc := 25) X dX6_add_25 rfl ?_
  refine w_getI (pc := 26) X dX6_add_26 clO_6 k_o 2 (by decide) rfl fl_6_18 ?_
  refine w_iconst (pc := 29) X dX6_add_29 (v := 1) rfl ?_
  refine w_iadd (pc := 30) X dX6_add_30 ?_
  refine w_putI (pc := 31) X dX6_add_31 clO_6 k_o 2 (by decide) rfl rfl (Or.inl rfl) fl_6_18 ?_
  obtain ⟨s5, e_s5, h⟩ := nm_inv h
  refine w_nm e_s5 ?_
  cases h
  exact w_vret X hQ dX6_add_34
set_option maxRecDepth 20000 in
theorem WL6_read_9 {φ : Fr} {ad : Nat → Nat} (X : Cx φ ad cX6_read (some .int) RX6 5 2 44) (o : Nat) (a1 : Nat) (k_o : kd o = 6) (k_a1 : kd a1 = 5) {r : Int32} {σ' : Sto} (hQ : Fini φ ad (some (.int r)) σ') : ∀ (fuel : Nat) (v2 : Int32) (v3 : Int32) (s : Sto), L6_read_9 o a1 fuel v2 v3 s = some (r, σ') → wpm φ ad 9 [(0, .ref (ad o)), (1, .ref (ad a1)), (2, .int v2), (3, .int v3)] [] s := by
  intro fuel
  induction fuel with
  | zero => intro v2 v3 s h; cases h
  | succ fuel ih =>
    intro v2 v3 s h
    unfold L6_read_9 at h
    refine w_iload_n (pc := 9) X dX6_read_9 3 rfl ?_
    refine w_aload_n (pc := 10) X dX6_read_10 1 rfl ?_
    refine w_getI (pc := 11) X dX6_read_11 clO_5 k_a1 1 (by decide) rfl fl_6_22 ?_
    refine w_icmp_ge (pc := 14) (tgt := 110) X dX6_read_14 (by decide) (fun c27 => ?_) (fun c27 => ?_)
    · replace h := it_pos c27 h
      refine w_bipush (pc := 110) X dX6_read_110 (v := (-6)) rfl ?_
      cases h
      exact w_iret X hQ dX6_read_112
    · replace h := it_neg c27 h
      refine w_aload_n (pc := 17) X dX6_read_17 1 rfl ?_
      refine w_getR (pc := 18) X dX6_read_18 clO_5 k_a1 0 (by decide) (d := 1) rfl fl_6_25 ?_
      refine w_iload_n (pc := 21) X dX6_read_21 3 rfl ?_
      obtain ⟨r4, s2, h3, h⟩ := bd2_inv h
      refine w_callSN (pc := 22) X dX6_read_22 (M8_at h3) mn_6_28 cw_6_28 ⟨Nat.le_of_ble_eq_true rfl, Nat.le_of_ble_eq_true rfl⟩ rfl rfl (Nat.le_of_ble_eq_true rfl) ?_
      show wpm φ ad 25 [(0, .ref (ad o)), (1, .ref (ad a1)), (2, .int v2), (3, .int v3)] [.int r4] s2
      refine w_istore (pc := 25) X dX6_read_25 (by decide) (lv' := [(4, .int r4), (0, .ref (ad o)), (1, .ref (ad a1)), (2, .int v2), (3, .int v3)]) rfl ?_
      refine w_iload (pc := 27) X dX6_read_27 0 rfl ?_
      refine w_bipush (pc := 29) X dX6_read_29 (v := (42)) rfl ?_
      refine w_icmp_ne (pc := 31) (tgt := 57) X dX6_read_31 (by decide) (fun c26 => ?_) (fun c26 => ?_)
      · replace h := it_neg c26 h
        refine w_iload (pc := 57) X dX6_read_57 0 rfl ?_
        refine w_bipush (pc := 59) X dX6_read_59 (v := (109)) rfl ?_
        refine w_icmp_ne (pc := 61) (tgt := 76) X dX6_read_61 (by decide) (fun c13 => ?_) (fun c13 => ?_)
        · replace h := it_neg c13 h
          refine w_iload (pc := 76) X dX6_read_76 0 rfl ?_
          refine w_bipush (pc := 78) X dX6_read_78 (v := (65)) rfl ?_
          refine w_isub (pc := 80) X dX6_read_80 ?_
          obtain ⟨r7, s5, h6, h⟩ := bd2_inv h
          refine w_callSN (pc := 81) X dX6_read_81 (M8_isGuest h6) mn_6_40 cw_6_40 ⟨Nat.le_of_ble_eq_true rfl, Nat.le_of_ble_eq_true rfl⟩ rfl rfl (Nat.le_of_ble_eq_true rfl) ?_
          show wpm φ ad 84 [(4, .int r4), (0, .ref (ad o)), (1, .ref (ad a1)), (2, .int v2), (3, .int v3)] [.int r7] s5
          refine w_if_eq (pc := 84) (tgt := 102) X dX6_read_84 (by decide) (fun c10 => ?_) (fun c10 => ?_)
          · replace h := it_pos c10 h
            refine w_iload_n (pc := 102) X dX6_read_102 4 rfl ?_
            cases h
            exact w_iret X hQ dX6_read_103
          · replace h := it_neg c10 h
            refine w_aload_n (pc := 87) X dX6_read_87 1 rfl ?_
            refine w_iload (pc := 88) X dX6_read_88 0 rfl ?_
            refine w_bipush (pc := 90) X dX6_read_90 (v := (65)) rfl ?_
            refine w_isub (pc := 92) X dX6_read_92 ?_
            refine w_iconst (pc := 93) X dX6_read_93 (v := 0) rfl ?_
            obtain ⟨s8, h9, h⟩ := bd1_inv h
            refine w_callV (pc := 94) X dX6_read_94 (M6_add h9) k_o (by decide) rfl cw_6_36 ⟨Nat.le_of_ble_eq_true rfl, Nat.le_of_ble_eq_true rfl⟩ rfl rfl (Nat.le_of_ble_eq_true rfl) ?_
            show wpm φ ad 97 [(4, .int r4), (0, .ref (ad o)), (1, .ref (ad a1)), (2, .int v2), (3, .int v3)] [] s8
            refine w_iconst (pc := 97) X dX6_read_97 (v := 1) rfl ?_
            refine w_istore_n (pc := 98) X dX6_read_98 2 rfl (by decide) (lv' := [(2, .int (1 : Int32)), (4, .int r4), (0, .ref (ad o)), (1, .ref (ad a1)), (3, .int v3)]) rfl ?_
            refine w_goto (tgt := 104) (pc := 99) X dX6_read_99 (by decide) ?_
            refine w_iinc (pc := 104) X dX6_read_104 4 rfl (v := (v3 + 1)) rfl (by decide) (lv' := [(3, .int (v3 + 1)), (2, .int (1 : Int32)), (4, .int r4), (0, .ref (ad o)), (1, .ref (ad a1))]) rfl ?_
            refine w_goto (tgt := 9) (pc := 107) X dX6_read_107 (by decide) ?_
            exact w_sub (pc := 9) [3, 4, 1, 0] rfl (ih _ _ _ h)
        · replace h := it_pos c13 h
          refine w_aload_n (pc := 64) X dX6_read_64 1 rfl ?_
          refine w_bipush (pc := 65) X dX6_read_65 (v := (6)) rfl ?_
          refine w_iconst (pc := 67) X dX6_read_67 (v := 2) rfl ?_
          obtain ⟨s11, h12, h⟩ := bd1_inv h
          refine w_callV (pc := 68) X dX6_read_68 (M6_add h12) k_o (by decide) rfl cw_6_36 ⟨Nat.le_of_ble_eq_true rfl, Nat.le_of_ble_eq_true rfl⟩ rfl rfl (Nat.le_of_ble_eq_true rfl) ?_
          show wpm φ ad 71 [(4, .int r4), (0, .ref (ad o)), (1, .ref (ad a1)), (2, .int v2), (3, .int v3)] [] s11
          refine w_iconst (pc := 71) X dX6_read_71 (v := 0) rfl ?_
          refine w_istore_n (pc := 72) X dX6_read_72 2 rfl (by decide) (lv' := [(2, .int (0 : Int32)), (4, .int r4), (0, .ref (ad o)), (1, .ref (ad a1)), (3, .int v3)]) rfl ?_
          refine w_goto (tgt := 104) (pc := 73) X dX6_read_73 (by decide) ?_
          refine w_iinc (pc := 104) X dX6_read_104 4 rfl (v := (v3 + 1)) rfl (by decide) (lv' := [(3, .int (v3 + 1)), (2, .int (0 : Int32)), (4, .int r4), (0, .ref (ad o)), (1, .ref (ad a1))]) rfl ?_
          refine w_goto (tgt := 9) (pc := 107) X dX6_read_107 (by decide) ?_
          exact w_sub (pc := 9) [3, 4, 1, 0] rfl (ih _ _ _ h)
      · replace h := it_pos c26 h
        refine w_iload_n (pc := 34) X dX6_read_34 3 rfl ?_
        refine w_if_eq (pc := 35) (tgt := 57) X dX6_read_35 (by decide) (fun c25 => ?_) (fun c25 => ?_)
        · replace h := it_pos c25 h
          refine w_iload (pc := 57) X dX6_read_57 0 rfl ?_
          refine w_bipush (pc := 59) X dX6_read_59 (v := (109)) rfl ?_
          refine w_icmp_ne (pc := 61) (tgt := 76) X dX6_read_61 (by decide) (fun c22 => ?_) (fun c22 => ?_)
          · replace h := it_neg c22 h
            refine w_iload (pc := 76) X dX6_read_76 0 rfl ?_
            refine w_bipush (pc := 78) X dX6_read_78 (v := (65)) rfl ?_
            refine w_isub (pc := 80) X dX6_read_80 ?_
            obtain ⟨r16, s14, h15, h⟩ := bd2_inv h
            refine w_callSN (pc := 81) X dX6_read_81 (M8_isGuest h15) mn_6_40 cw_6_40 ⟨Nat.le_of_ble_eq_true rfl, Nat.le_of_ble_eq_true rfl⟩ rfl rfl (Nat.le_of_ble_eq_true rfl) ?_
            show wpm φ ad 84 [(4, .int r4), (0, .ref (ad o)), (1, .ref (ad a1)), (2, .int v2), (3, .int v3)] [.int r16] s14
            refine w_if_eq (pc := 84) (tgt := 102) X dX6_read_84 (by decide) (fun c19 => ?_) (fun c19 => ?_)
            · replace h := it_pos c19 h
              refine w_iload_n (pc := 102) X dX6_read_102 4 rfl ?_
              cases h
              exact w_iret X hQ dX6_read_103
            · replace h := it_neg c19 h
              refine w_aload_n (pc := 87) X dX6_read_87 1 rfl ?_
              refine w_iload (pc := 88) X dX6_read_88 0 rfl ?_
              refine w_bipush (pc := 90) X dX6_read_90 (v := (65)) rfl ?_
              refine w_isub (pc := 92) X dX6_read_92 ?_
              refine w_iconst (pc := 93) X dX6_read_93 (v := 0) rfl ?_
              obtain ⟨s17, h18, h⟩ := bd1_inv h
              refine w_callV (pc := 94) X dX6_read_94 (M6_add h18) k_o (by decide) rfl cw_6_36 ⟨Nat.le_of_ble_eq_true rfl, Nat.le_of_ble_eq_true rfl⟩ rfl rfl (Nat.le_of_ble_eq_true rfl) ?_
              show wpm φ ad 97 [(4, .int r4), (0, .ref (ad o)), (1, .ref (ad a1)), (2, .int v2), (3, .int v3)] [] s17
              refine w_iconst (pc := 97) X dX6_read_97 (v := 1) rfl ?_
              refine w_istore_n (pc := 98) X dX6_read_98 2 rfl (by decide) (lv' := [(2, .int (1 : Int32)), (4, .int r4), (0, .ref (ad o)), (1, .ref (ad a1)), (3, .int v3)]) rfl ?_
              refine w_goto (tgt := 104) (pc := 99) X dX6_read_99 (by decide) ?_
              refine w_iinc (pc := 104) X dX6_read_104 4 rfl (v := (v3 + 1)) rfl (by decide) (lv' := [(3, .int (v3 + 1)), (2, .int (1 : Int32)), (4, .int r4), (0, .ref (ad o)), (1, .ref (ad a1))]) rfl ?_
              refine w_goto (tgt := 9) (pc := 107) X dX6_read_107 (by decide) ?_
              exact w_sub (pc := 9) [3, 4, 1, 0] rfl (ih _ _ _ h)
          · replace h := it_pos c22 h
            refine w_aload_n (pc := 64) X dX6_read_64 1 rfl ?_
            refine w_bipush (pc := 65) X dX6_read_65 (v := (6)) rfl ?_
            refine w_iconst (pc := 67) X dX6_read_67 (v := 2) rfl ?_
            obtain ⟨s20, h21, h⟩ := bd1_inv h
            refine w_callV (pc := 68) X dX6_read_68 (M6_add h21) k_o (by decide) rfl cw_6_36 ⟨Nat.le_of_ble_eq_true rfl, Nat.le_of_ble_eq_true rfl⟩ rfl rfl (Nat.le_of_ble_eq_true rfl) ?_
            show wpm φ ad 71 [(4, .int r4), (0, .ref (ad o)), (1, .ref (ad a1)), (2, .int v2), (3, .int v3)] [] s20
            refine w_iconst (pc := 71) X dX6_read_71 (v := 0) rfl ?_
            refine w_istore_n (pc := 72) X dX6_read_72 2 rfl (by decide) (lv' := [(2, .int (0 : Int32)), (4, .int r4), (0, .ref (ad o)), (1, .ref (ad a1)), (3, .int v3)]) rfl ?_
            refine w_goto (tgt := 104) (pc := 73) X dX6_read_73 (by decide) ?_
            refine w_iinc (pc := 104) X dX6_read_104 4 rfl (v := (v3 + 1)) rfl (by decide) (lv' := [(3, .int (v3 + 1)), (2, .int (0 : Int32)), (4, .int r4), (0, .ref (ad o)), (1, .ref (ad a1))]) rfl ?_
            refine w_goto (tgt := 9) (pc := 107) X dX6_read_107 (by decide) ?_
            exact w_sub (pc := 9) [3, 4, 1, 0] rfl (ih _ _ _ h)
        · replace h := it_neg c25 h
          refine w_aload_n (pc := 38) X dX6_read_38 1 rfl ?_
          refine w_getR (pc := 39) X dX6_read_39 clO_6 k_o 1 (by decide) (d := 2) rfl fl_6_15 ?_
          refine w_aload_n (pc := 42) X dX6_read_42 1 rfl ?_
          refine w_getI (pc := 43) X dX6_read_43 clO_6 k_o 2 (by decide) rfl fl_6_18 ?_
          refine w_iconst (pc := 46) X dX6_read_46 (v := 1) rfl ?_
          refine w_isub (pc := 47) X dX6_read_47 ?_
          refine w_iconst (pc := 48) X dX6_read_48 (v := 1) rfl ?_
          obtain ⟨s23, h24, h⟩ := bd1_inv h
          refine w_callSN (pc := 49) X dX6_read_49 (M8_put h24) mn_6_32 cw_6_32 ⟨Nat.le_of_ble_eq_true rfl, Nat.le_of_ble_eq_true rfl⟩ rfl rfl (Nat.le_of_ble_eq_true rfl) ?_
          show wpm φ ad 52 [(4, .int r4), (0, .ref (ad o)), (1, .ref (ad a1)), (2, .int v2), (3, .int v3)] [] s23
          refine w_iconst (pc := 52) X dX6_read_52 (v := 0) rfl ?_
          refine w_istore_n (pc := 53) X dX6_read_53 2 rfl (by decide) (lv' := [(2, .int (0 : Int32)), (4, .int r4), (0, .ref (ad o)), (1, .ref (ad a1)), (3, .int v3)]) rfl ?_
          refine w_goto (tgt := 104) (pc := 54) X dX6_read_54 (by decide) ?_
          refine w_iinc (pc := 104) X dX6_read_104 4 rfl (v := (v3 + 1)) rfl (by decide) (lv' := [(3, .int (v3 + 1)), (2, .int (0 : Int32)), (4, .int r4), (0, .ref (ad o)), (1, .ref (ad a1))]) rfl ?_
          refine w_goto (tgt := 9) (pc := 107) X dX6_read_107 (by decide) ?_
          exact w_sub (pc := 9) [3, 4, 1, 0] rfl (ih _ _ _ h)
set_option maxRecDepth 20000 in
theorem M6_read {o : Nat} {a1 : Nat} {s : Sto} {r : Int32} {σ' : Sto} (h : f6_read o a1 s = some (r, σ')) : Ct yX6_read cX6_read 5 (some .int) 2 44 (fun ad => [.ref (ad o), .ref (ad a1)]) s (fun ad => some (.int r)) σ' := by
  unfold f6_read at h
  obtain ⟨⟨k_o, k_a1⟩, h⟩ := gd_inv h
  refine Ct_of (by decide) (fun ad => Nat.le_of_ble_eq_true rfl) (fun φ ad X hQ => ?_)
  show wpm φ ad 0 [(0, .ref (ad o)), (1, .ref (ad a1))] [] s
  replace X : Cx φ ad cX6_read (some .int) RX6 5 2 44 := X
  refine w_aload_n (pc := 0) X dX6_read_0 0 rfl ?_
  refine w_iconst (pc := 1) X dX6_read_1 (v := 0) rfl ?_
  refine w_putI (pc := 2) X dX6_read_2 clO_6 k_o 2 (by decide) rfl rfl (Or.inl rfl) fl_6_18 ?_
  obtain ⟨s1, e_s1, h⟩ := nm_inv h
  refine w_nm e_s1 ?_
  refine w_iconst (pc := 5) X dX6_read_5 (v := 0) rfl ?_
  refine w_istore_n (pc := 6) X dX6_read_6 2 rfl (by decide) (lv' := [(2, .int (0 : Int32)), (0, .ref (ad o)), (1, .ref (ad a1))]) rfl ?_
  refine w_iconst (pc := 7) X dX6_read_7 (v := 0) rfl ?_
  refine w_istore_n (pc := 8) X dX6_read_8 3 rfl (by decide) (lv' := [(3, .int (0 : Int32)), (2, .int (0 : Int32)), (0, .ref (ad o)), (1, .ref (ad a1))]) rfl ?_
  exact w_sub (pc := 9) [2, 3, 1, 0] rfl (WL6_read_9 X o a1 k_o k_a1 hQ FU (0 : Int32) (0 : Int32) s1 h)
set_option maxRecDepth 20000 in
theorem M8_fault {o : Nat} {a1 : Int32} {s : Sto} {r : Int32} {σ' : Sto} (h : f8_fault o a1 s = some (r, σ')) : Ct yX8_fault cX8_fault 2 (some .int) 3 70 (fun ad => [.ref (ad o), .int a1]) s (fun ad => some (.int r)) σ' := by
  unfold f8_fault at h
  obtain ⟨k_o, h⟩ := gd_inv h
  refine Ct_of (by decide) (fun ad => Nat.le_of_ble_eq_true rfl) (fun φ ad X hQ => ?_)
  show wpm φ ad 0 [(0, .ref (ad o)), (1, .int a1)] [] s
  replace X : Cx φ ad cX8_fault (some .int) RX8 2 3 70 := X
  refine w_iload_n (pc := 0) X dX8_fault_0 1 rfl ?_
  refine w_iconst (pc := 1) X dX8_fault_1 (v := 0) rfl ?_
  refine w_iconst (pc := 2) X dX8_fault_2 (v := 1) rfl ?_
  obtain ⟨r3, s1, h2, h⟩ := bd2_inv h
  refine w_callS (pc := 3) X dX8_fault_3 (M8_isWithin h2) rfl cw_8_64 ⟨Nat.le_of_ble_eq_true rfl, Nat.le_of_ble_eq_true rfl⟩ rfl rfl (Nat.le_of_ble_eq_true rfl) ?_
  show wpm φ ad 6 [(0, .ref (ad o)), (1, .int a1)] [.int r3] s1
  refine w_if_ne (pc := 6) (tgt := 12) X dX8_fault_6 (by decide) (fun c11 => ?_) (fun c11 => ?_)
  · replace h := it_neg c11 h
    refine w_iload_n (pc := 12) X dX8_fault_12 1 rfl ?_
    refine w_if_ne (pc := 13) (tgt := 37) X dX8_fault_13 (by decide) (fun c10 => ?_) (fun c10 => ?_)
    · replace h := it_neg c10 h
      refine w_aload_n (pc := 37) X dX8_fault_37 0 rfl ?_
      refine w_getR (pc := 38) X dX8_fault_38 clO_8 k_o 5 (by decide) (d := 34) rfl fl_8_39 ?_
      refine w_aload_n (pc := 41) X dX8_fault_41 0 rfl ?_
      refine w_getR (pc := 42) X dX8_fault_42 clO_8 k_o 3 (by decide) (d := 25) rfl fl_8_25 ?_
      obtain ⟨r6, s4, h5, h⟩ := bd2_inv h
      refine w_callV (pc := 45) X dX8_fault_45 (M6_read h5) (kp_8_34 k_o) (by decide) rfl cw_8_114 ⟨Nat.le_of_ble_eq_true rfl, Nat.le_of_ble_eq_true rfl⟩ rfl rfl (Nat.le_of_ble_eq_true rfl) ?_
      show wpm φ ad 48 [(0, .ref (ad o)), (1, .int a1)] [.int r6] s4
      cases h
      exact w_iret X hQ dX8_fault_48
    · replace h := it_pos c10 h
      refine w_aload_n (pc := 16) X dX8_fault_16 0 rfl ?_
      refine w_getR (pc := 17) X dX8_fault_17 clO_8 k_o 4 (by decide) (d := 27) rfl fl_8_32 ?_
      refine w_aload_n (pc := 20) X dX8_fault_20 0 rfl ?_
      refine w_getR (pc := 21) X dX8_fault_21 clO_8 k_o 3 (by decide) (d := 25) rfl fl_8_25 ?_
      refine w_aload_n (pc := 24) X dX8_fault_24 0 rfl ?_
      refine w_getR (pc := 25) X dX8_fault_25 clO_8 k_o 0 (by decide) (d := 1) rfl fl_8_10 ?_
      refine w_getI (pc := 28) X dX8_fault_28 clO_0 (kp_8_1 k_o) 0 (by decide) rfl fl_8_68 ?_
      obtain ⟨r9, s7, h8, h⟩ := bd2_inv h
      refine w_callV (pc := 31) X dX8_fault_31 (M1_read h8) (kp_8_27 k_o) (by decide) rfl cw_8_110 ⟨Nat.le_of_ble_eq_true rfl, Nat.le_of_ble_eq_true rfl⟩ rfl rfl (Nat.le_of_ble_eq_true rfl) ?_
      show wpm φ ad 34 [(0, .ref (ad o)), (1, .int a1)] [.int r9] s7
      refine w_goto (tgt := 48) (pc := 34) X dX8_fault_34 (by decide) ?_
      cases h
      exact w_iret X hQ dX8_fault_48
  · replace h := it_pos c11 h
    refine w_bipush (pc := 9) X dX8_fault_9 (v := (-2)) rfl ?_
    cases h
    exact w_iret X hQ dX8_fault_11
set_option maxRecDepth 20000 in
theorem M8_copyAll {a0 : Nat} {a1 : Nat} {s : Sto} {σ' : Sto} (h : f8_copyAll a0 a1 s = some σ') : Ct yX8_copyAll cX8_copyAll 2 none 1 40 (fun ad => [.ref (ad a0), .ref (ad a1)]) s (fun _ => none) σ' := by
  unfold f8_copyAll at h
  obtain ⟨⟨k_a0, k_a1⟩, h⟩ := gd_inv h
  refine Ct_of (by decide) (fun ad => Nat.le_of_ble_eq_true rfl) (fun φ ad X hQ => ?_)
  show wpm φ ad 0 [(0, .ref (ad a0)), (1, .ref (ad a1))] [] s
  replace X : Cx φ ad cX8_copyAll none RX8 2 1 40 := X
  refine w_aload_n (pc := 0) X dX8_copyAll_0 0 rfl ?_
  refine w_iconst (pc := 1) X dX8_copyAll_1 (v := 0) rfl ?_
  refine w_aload_n (pc := 2) X dX8_copyAll_2 1 rfl ?_
  refine w_iconst (pc := 3) X dX8_copyAll_3 (v := 0) rfl ?_
  refine w_aload_n (pc := 4) X dX8_copyAll_4 0 rfl ?_
  refine w_alenI (pc := 5) X dX8_copyAll_5 k_a0 ?_
  refine w_aload_n (pc := 6) X dX8_copyAll_6 1 rfl ?_
  refine w_alenI (pc := 7) X dX8_copyAll_7 k_a1 ?_
  refine w_mmin (pc := 8) X dX8_copyAll_8 cw_8_292 ⟨Nat.le_of_ble_eq_true rfl, Nat.le_of_ble_eq_true rfl⟩ ?_
  obtain ⟨x1, e_x1, h⟩ := nm_inv h
  refine w_nmi e_x1 ?_
  obtain ⟨g2, h⟩ := gd_inv h
  refine w_copy (pc := 11) X dX8_copyAll_11 cw_8_310 ⟨Nat.le_of_ble_eq_true rfl, by decide +kernel⟩ k_a0 k_a1 g2.1 g2.2.1 g2.2.2 ?_
  obtain ⟨s3, e_s3, h⟩ := nm_inv h
  refine w_nm e_s3 ?_
  cases h
  exact w_vret X hQ dX8_copyAll_14
set_option maxRecDepth 20000 in
theorem M2_copyFrom {o : Nat} {a1 : Nat} {s : Sto} {σ' : Sto} (h : f2_copyFrom o a1 s = some σ') : Ct yX2_copyFrom cX2_copyFrom 2 none 2 61 (fun ad => [.ref (ad o), .ref (ad a1)]) s (fun _ => none) σ' := by
  unfold f2_copyFrom at h
  obtain ⟨⟨k_o, k_a1⟩, h⟩ := gd_inv h
  refine Ct_of (by decide) (fun ad => Nat.le_of_ble_eq_true rfl) (fun φ ad X hQ => ?_)
  show wpm φ ad 0 [(0, .ref (ad o)), (1, .ref (ad a1))] [] s
  replace X : Cx φ ad cX2_copyFrom none RX2 2 2 61 := X
  refine w_aload_n (pc := 0) X dX2_copyFrom_0 1 rfl ?_
  refine w_getR (pc := 1) X dX2_copyFrom_1 clO_2 k_a1 0 (by decide) (d := 1) rfl fl_2_9 ?_
  refine w_aload_n (pc := 4) X dX2_copyFrom_4 0 rfl ?_
  refine w_getR (pc := 5) X dX2_copyFrom_5 clO_2 k_o 0 (by decide) (d := 1) rfl fl_2_9 ?_
  obtain ⟨s1, h2, h⟩ := bd1_inv h
  refine w_callSN (pc := 8) X dX2_copyFrom_8 (M8_copyAll h2) mn_2_37 cw_2_37 ⟨Nat.le_of_ble_eq_true rfl, Nat.le_of_ble_eq_true rfl⟩ rfl rfl (Nat.le_of_ble_eq_true rfl) ?_
  show wpm φ ad 11 [(0, .ref (ad o)), (1, .ref (ad a1))] [] s1
  refine w_aload_n (pc := 11) X dX2_copyFrom_11 1 rfl ?_
  refine w_getR (pc := 12) X dX2_copyFrom_12 clO_2 k_a1 1 (by decide) (d := 2) rfl fl_2_15 ?_
  refine w_aload_n (pc := 15) X dX2_copyFrom_15 0 rfl ?_
  refine w_getR (pc := 16) X dX2_copyFrom_16 clO_2 k_o 1 (by decide) (d := 2) rfl fl_2_15 ?_
  obtain ⟨s3, h4, h⟩ := bd1_inv h
  refine w_callSN (pc := 19) X dX2_copyFrom_19 (M8_copyAll h4) mn_2_37 cw_2_37 ⟨Nat.le_of_ble_eq_true rfl, Nat.le_of_ble_eq_true rfl⟩ rfl rfl (Nat.le_of_ble_eq_true rfl) ?_
  show wpm φ ad 22 [(0, .ref (ad o)), (1, .ref (ad a1))] [] s3
  refine w_aload_n (pc := 22) X dX2_copyFrom_22 1 rfl ?_
  refine w_getR (pc := 23) X dX2_copyFrom_23 clO_2 k_a1 2 (by decide) (d := 3) rfl fl_2_18 ?_
  refine w_aload_n (pc := 26) X dX2_copyFrom_26 0 rfl ?_
  refine w_getR (pc := 27) X dX2_copyFrom_27 clO_2 k_o 2 (by decide) (d := 3) rfl fl_2_18 ?_
  obtain ⟨s5, h6, h⟩ := bd1_inv h
  refine w_callSN (pc := 30) X dX2_copyFrom_30 (M8_copyAll h6) mn_2_37 cw_2_37 ⟨Nat.le_of_ble_eq_true rfl, Nat.le_of_ble_eq_true rfl⟩ rfl rfl (Nat.le_of_ble_eq_true rfl) ?_
  show wpm φ ad 33 [(0, .ref (ad o)), (1, .ref (ad a1))] [] s5
  refine w_aload_n (pc := 33) X dX2_copyFrom_33 0 rfl ?_
  refine w_aload_n (pc := 34) X dX2_copyFrom_34 1 rfl ?_
  refine w_getI (pc := 35) X dX2_copyFrom_35 clO_2 k_a1 3 (by decide) rfl fl_2_21 ?_
  refine w_putI (pc := 38) X dX2_copyFrom_38 clO_2 k_o 3 (by decide) rfl rfl (Or.inl rfl) fl_2_21 ?_
  obtain ⟨s7, e_s7, h⟩ := nm_inv h
  refine w_nm e_s7 ?_
  refine w_aload_n (pc := 41) X dX2_copyFrom_41 0 rfl ?_
  refine w_aload_n (pc := 42) X dX2_copyFrom_42 1 rfl ?_
  refine w_getI (pc := 43) X dX2_copyFrom_43 clO_2 k_a1 4 (by decide) rfl fl_2_25 ?_
  refine w_putI (pc := 46) X dX2_copyFrom_46 clO_2 k_o 4 (by decide) rfl rfl (Or.inl rfl) fl_2_25 ?_
  obtain ⟨s8, e_s8, h⟩ := nm_inv h
  refine w_nm e_s8 ?_
  refine w_aload_n (pc := 49) X dX2_copyFrom_49 0 rfl ?_
  refine w_iconst (pc := 50) X dX2_copyFrom_50 (v := 0) rfl ?_
  refine w_putI (pc := 51) X dX2_copyFrom_51 clO_2 k_o 5 (by decide) rfl rfl (Or.inl rfl) fl_2_28 ?_
  obtain ⟨s9, e_s9, h⟩ := nm_inv h
  refine w_nm e_s9 ?_
  refine w_aload_n (pc := 54) X dX2_copyFrom_54 0 rfl ?_
  refine w_iconst (pc := 55) X dX2_copyFrom_55 (v := 0) rfl ?_
  refine w_putI (pc := 56) X dX2_copyFrom_56 clO_2 k_o 6 (by decide) rfl rfl (Or.inl rfl) fl_2_31 ?_
  obtain ⟨s10, e_s10, h⟩ := nm_inv h
  refine w_nm e_s10 ?_
  refine w_aload_n (pc := 59) X dX2_copyFrom_59 0 rfl ?_
  refine w_iconst (pc := 60) X dX2_copyFrom_60 (v := (-1)) rfl ?_
  refine w_putI (pc := 61) X dX2_copyFrom_61 clO_2 k_o 7 (by decide) rfl rfl (Or.inl rfl) fl_2_34 ?_
  obtain ⟨s11, e_s11, h⟩ := nm_inv h
  refine w_nm e_s11 ?_
  cases h
  exact w_vret X hQ dX2_copyFrom_64
set_option maxRecDepth 20000 in
theorem M8_isSpoken {a0 : Int32} {s : Sto} {r : Int32} {σ' : Sto} (h : f8_isSpoken a0 s = some (r, σ')) : Ct yX8_isSpoken cX8_isSpoken 1 (some .boolean) 0 0 (fun ad => [.int a0]) s (fun ad => some (.int r)) σ' := by
  unfold f8_isSpoken at h
  refine Ct_of (by decide) (fun ad => Nat.le_of_ble_eq_true rfl) (fun φ ad X hQ => ?_)
  show wpm φ ad 0 [(0, .int a0)] [] s
  replace X : Cx φ ad cX8_isSpoken (some .boolean) RX8 1 0 0 := X
  refine w_iload_n (pc := 0) X dX8_isSpoken_0 0 rfl ?_
  refine w_if_lt (pc := 1) (tgt := 14) X dX8_isSpoken_1 (by decide) (fun c2 => ?_) (fun c2 => ?_)
  · replace h := it_pos c2 h
    refine w_iconst (pc := 14) X dX8_isSpoken_14 (v := 0) rfl ?_
    cases h
    exact w_zret X hQ dX8_isSpoken_15 (Or.inl rfl)
  · replace h := it_neg c2 h
    refine w_iload_n (pc := 4) X dX8_isSpoken_4 0 rfl ?_
    refine w_bipush (pc := 5) X dX8_isSpoken_5 (v := (100)) rfl ?_
    refine w_icmp_ge (pc := 7) (tgt := 14) X dX8_isSpoken_7 (by decide) (fun c1 => ?_) (fun c1 => ?_)
    · replace h := it_pos c1 h
      refine w_iconst (pc := 14) X dX8_isSpoken_14 (v := 0) rfl ?_
      cases h
      exact w_zret X hQ dX8_isSpoken_15 (Or.inl rfl)
    · replace h := it_neg c1 h
      refine w_iconst (pc := 10) X dX8_isSpoken_10 (v := 1) rfl ?_
      refine w_goto (tgt := 15) (pc := 11) X dX8_isSpoken_11 (by decide) ?_
      cases h
      exact w_zret X hQ dX8_isSpoken_15 (Or.inr rfl)
set_option maxRecDepth 20000 in
theorem M8_isTrue {a0 : Int32} {a1 : Int32} {s : Sto} {r : Int32} {σ' : Sto} (h : f8_isTrue a0 a1 s = some (r, σ')) : Ct yX8_isTrue cX8_isTrue 3 (some .boolean) 0 0 (fun ad => [.int a0, .int a1]) s (fun ad => some (.int r)) σ' := by
  unfold f8_isTrue at h
  refine Ct_of (by decide) (fun ad => Nat.le_of_ble_eq_true rfl) (fun φ ad X hQ => ?_)
  show wpm φ ad 0 [(0, .int a0), (1, .int a1)] [] s
  replace X : Cx φ ad cX8_isTrue (some .boolean) RX8 3 0 0 := X
  refine w_iload_n (pc := 0) X dX8_isTrue_0 0 rfl ?_
  refine w_iconst (pc := 1) X dX8_isTrue_1 (v := 2) rfl ?_
  refine w_idiv (pc := 2) X dX8_isTrue_2 (by decide) ?_
  refine w_bipush (pc := 3) X dX8_isTrue_3 (v := (8)) rfl ?_
  refine w_irem (pc := 5) X dX8_isTrue_5 (by decide) ?_
  obtain ⟨x1, e_x1, h⟩ := nm_inv h
  refine w_nmi e_x1 ?_
  refine w_istore_n (pc := 6) X dX8_isTrue_6 2 rfl (by decide) (lv' := [(2, .int x1), (0, .int a0), (1, .int a1)]) rfl ?_
  refine w_iload_n (pc := 7) X dX8_isTrue_7 2 rfl ?_
  refine w_iload_n (pc := 8) X dX8_isTrue_8 0 rfl ?_
  refine w_ishr (pc := 9) X dX8_isTrue_9 ?_
  refine w_iconst (pc := 10) X dX8_isTrue_10 (v := 1) rfl ?_
  refine w_iand (pc := 11) X dX8_isTrue_11 ?_
  refine w_iload_n (pc := 12) X dX8_isTrue_12 1 rfl ?_
  refine w_iconst (pc := 13) X dX8_isTrue_13 (v := 2) rfl ?_
  refine w_irem (pc := 14) X dX8_isTrue_14 (by decide) ?_
  refine w_icmp_ne (pc := 15) (tgt := 22) X dX8_isTrue_15 (by decide) (fun c2 => ?_) (fun c2 => ?_)
  · replace h := it_neg c2 h
    refine w_iconst (pc := 22) X dX8_isTrue_22 (v := 0) rfl ?_
    cases h
    exact w_zret X hQ dX8_isTrue_23 (Or.inl rfl)
  · replace h := it_pos c2 h
    refine w_iconst (pc := 18) X dX8_isTrue_18 (v := 1) rfl ?_
    refine w_goto (tgt := 23) (pc := 19) X dX8_isTrue_19 (by decide) ?_
    cases h
    exact w_zret X hQ dX8_isTrue_23 (Or.inr rfl)
set_option maxRecDepth 20000 in
theorem M8_guestOf {a0 : Int32} {s : Sto} {r : Int32} {σ' : Sto} (h : f8_guestOf a0 s = some (r, σ')) : Ct yX8_guestOf cX8_guestOf 1 (some .int) 0 0 (fun ad => [.int a0]) s (fun ad => some (.int r)) σ' := by
  unfold f8_guestOf at h
  refine Ct_of (by decide) (fun ad => Nat.le_of_ble_eq_true rfl) (fun φ ad X hQ => ?_)
  show wpm φ ad 0 [(0, .int a0)] [] s
  replace X : Cx φ ad cX8_guestOf (some .int) RX8 1 0 0 := X
  refine w_iload_n (pc := 0) X dX8_guestOf_0 0 rfl ?_
  refine w_bipush (pc := 1) X dX8_guestOf_1 (v := (16)) rfl ?_
  refine w_idiv (pc := 3) X dX8_guestOf_3 (by decide) ?_
  cases h
  exact w_iret X hQ dX8_guestOf_4
set_option maxRecDepth 20000 in
theorem M8_whyNot {a0 : Int32} {a1 : Nat} {a2 : Int32} {a3 : Nat} {s : Sto} {r : Int32} {σ' : Sto} (h : f8_whyNot a0 a1 a2 a3 s = some (r, σ')) : Ct yX8_whyNot cX8_whyNot 6 (some .int) 2 42 (fun ad => [.int a0, .ref (ad a1), .int a2, .ref (ad a3)]) s (fun ad => some (.int r)) σ' := by
  unfold f8_whyNot at h
  obtain ⟨⟨k_a1, k_a3⟩, h⟩ := gd_inv h
  refine Ct_of (by decide) (fun ad => Nat.le_of_ble_eq_true rfl) (fun φ ad X hQ => ?_)
  show wpm φ ad 0 [(0, .int a0), (1, .ref (ad a1)), (2, .int a2), (3, .ref (ad a3))] [] s
  replace X : Cx φ ad cX8_whyNot (some .int) RX8 6 2 42 := X
  refine w_iconst (pc := 0) X dX8_whyNot_0 (v := 0) rfl ?_
  refine w_istore (pc := 1) X dX8_whyNot_1 (by decide) (lv' := [(4, .int (0 : Int32)), (0, .int a0), (1, .ref (ad a1)), (2, .int a2), (3, .ref (ad a3))]) rfl ?_
  refine w_iload_n (pc := 3) X dX8_whyNot_3 1 rfl ?_
  obtain ⟨r3, s1, h2, h⟩ := bd2_inv h
  refine w_callS (pc := 4) X dX8_whyNot_4 (M8_isSpoken h2) rfl cw_8_299 ⟨Nat.le_of_ble_eq_true rfl, Nat.le_of_ble_eq_true rfl⟩ rfl rfl (Nat.le_of_ble_eq_true rfl) ?_
  show wpm φ ad 7 [(4, .int (0 : Int32)), (0, .int a0), (1, .ref (ad a1)), (2, .int a2), (3, .ref (ad a3))] [.int r3] s1
  refine w_if_eq (pc := 7) (tgt := 48) X dX8_whyNot_7 (by decide) (fun c48 => ?_) (fun c48 => ?_)
  · replace h := it_pos c48 h
    refine w_iload (pc := 48) X dX8_whyNot_48 0 rfl ?_
    obtain ⟨x6, h17, h⟩ := bd1_inv h
    have K50 : wpm φ ad 64 [(0, .int a0), (3, .ref (ad a3))] [.int x6] s1 := by
      refine w_istore (pc := 64) X dX8_whyNot_64 (by decide) (lv' := [(5, .int x6), (0, .int a0), (3, .ref (ad a3))]) rfl ?_
      refine w_iload (pc := 66) X dX8_whyNot_66 0 rfl ?_
      refine w_if_eq (pc := 68) (tgt := 82) X dX8_whyNot_68 (by decide) (fun c16 => ?_) (fun c16 => ?_)
      · replace h := it_pos c16 h
        refine w_iload (pc := 82) X dX8_whyNot_82 0 rfl ?_
        refine w_if_ne (pc := 84) (tgt := 93) X dX8_whyNot_84 (by decide) (fun c10 => ?_) (fun c10 => ?_)
        · replace h := it_neg c10 h
          refine w_aload_n (pc := 93) X dX8_whyNot_93 2 rfl ?_
          refine w_getI (pc := 94) X dX8_whyNot_94 clO_2 k_a3 4 (by decide) rfl fl_8_99 ?_
          refine w_iconst (pc := 97) X dX8_whyNot_97 (v := 1) rfl ?_
          refine w_icmp_ge (pc := 98) (tgt := 103) X dX8_whyNot_98 (by decide) (fun c7 => ?_) (fun c7 => ?_)
          · replace h := it_pos c7 h
            refine w_iconst (pc := 103) X dX8_whyNot_103 (v := 0) rfl ?_
            cases h
            exact w_iret X hQ dX8_whyNot_104
          · replace h := it_neg c7 h
            refine w_iconst (pc := 101) X dX8_whyNot_101 (v := 3) rfl ?_
            cases h
            exact w_iret X hQ dX8_whyNot_102
        · replace h := it_pos c10 h
          refine w_iload_n (pc := 87) X dX8_whyNot_87 1 rfl ?_
          refine w_bipush (pc := 88) X dX8_whyNot_88 (v := (101)) rfl ?_
          refine w_icmp_ne (pc := 90) (tgt := 103) X dX8_whyNot_90 (by decide) (fun c9 => ?_) (fun c9 => ?_)
          · replace h := it_neg c9 h
            refine w_iconst (pc := 103) X dX8_whyNot_103 (v := 0) rfl ?_
            cases h
            exact w_iret X hQ dX8_whyNot_104
          · replace h := it_pos c9 h
            refine w_aload_n (pc := 93) X dX8_whyNot_93 2 rfl ?_
            refine w_getI (pc := 94) X dX8_whyNot_94 clO_2 k_a3 4 (by decide) rfl fl_8_99 ?_
            refine w_iconst (pc := 97) X dX8_whyNot_97 (v := 1) rfl ?_
            refine w_icmp_ge (pc := 98) (tgt := 103) X dX8_whyNot_98 (by decide) (fun c8 => ?_) (fun c8 => ?_)
            · replace h := it_pos c8 h
              refine w_iconst (pc := 103) X dX8_whyNot_103 (v := 0) rfl ?_
              cases h
              exact w_iret X hQ dX8_whyNot_104
            · replace h := it_neg c8 h
              refine w_iconst (pc := 101) X dX8_whyNot_101 (v := 3) rfl ?_
              cases h
              exact w_iret X hQ dX8_whyNot_102
      · replace h := it_neg c16 h
        refine w_aload_n (pc := 71) X dX8_whyNot_71 2 rfl ?_
        refine w_getI (pc := 72) X dX8_whyNot_72 clO_2 k_a3 3 (by decide) rfl fl_8_134 ?_
        refine w_bipush (pc := 75) X dX8_whyNot_75 (v := (30)) rfl ?_
        refine w_icmp_lt (pc := 77) (tgt := 82) X dX8_whyNot_77 (by decide) (fun c15 => ?_) (fun c15 => ?_)
        · replace h := it_pos c15 h
          refine w_iload (pc := 82) X dX8_whyNot_82 0 rfl ?_
          refine w_if_ne (pc := 84) (tgt := 93) X dX8_whyNot_84 (by decide) (fun c14 => ?_) (fun c14 => ?_)
          · replace h := it_neg c14 h
            refine w_aload_n (pc := 93) X dX8_whyNot_93 2 rfl ?_
            refine w_getI (pc := 94) X dX8_whyNot_94 clO_2 k_a3 4 (by decide) rfl fl_8_99 ?_
            refine w_iconst (pc := 97) X dX8_whyNot_97 (v := 1) rfl ?_
            refine w_icmp_ge (pc := 98) (tgt := 103) X dX8_whyNot_98 (by decide) (fun c11 => ?_) (fun c11 => ?_)
            · replace h := it_pos c11 h
              refine w_iconst (pc := 103) X dX8_whyNot_103 (v := 0) rfl ?_
              cases h
              exact w_iret X hQ dX8_whyNot_104
            · replace h := it_neg c11 h
              refine w_iconst (pc := 101) X dX8_whyNot_101 (v := 3) rfl ?_
              cases h
              exact w_iret X hQ dX8_whyNot_102
          · replace h := it_pos c14 h
            refine w_iload_n (pc := 87) X dX8_whyNot_87 1 rfl ?_
            refine w_bipush (pc := 88) X dX8_whyNot_88 (v := (101)) rfl ?_
            refine w_icmp_ne (pc := 90) (tgt := 103) X dX8_whyNot_90 (by decide) (fun c13 => ?_) (fun c13 => ?_)
            · replace h := it_neg c13 h
              refine w_iconst (pc := 103) X dX8_whyNot_103 (v := 0) rfl ?_
              cases h
              exact w_iret X hQ dX8_whyNot_104
            · replace h := it_pos c13 h
              refine w_aload_n (pc := 93) X dX8_whyNot_93 2 rfl ?_
              refine w_getI (pc := 94) X dX8_whyNot_94 clO_2 k_a3 4 (by decide) rfl fl_8_99 ?_
              refine w_iconst (pc := 97) X dX8_whyNot_97 (v := 1) rfl ?_
              refine w_icmp_ge (pc := 98) (tgt := 103) X dX8_whyNot_98 (by decide) (fun c12 => ?_) (fun c12 => ?_)
              · replace h := it_pos c12 h
                refine w_iconst (pc := 103) X dX8_whyNot_103 (v := 0) rfl ?_
                cases h
                exact w_iret X hQ dX8_whyNot_104
              · replace h := it_neg c12 h
                refine w_iconst (pc := 101) X dX8_whyNot_101 (v := 3) rfl ?_
                cases h
                exact w_iret X hQ dX8_whyNot_102
        · replace h := it_neg c15 h
          refine w_iconst (pc := 80) X dX8_whyNot_80 (v := 2) rfl ?_
          cases h
          exact w_iret X hQ dX8_whyNot_81
    clear h
    have h := h17
    clear h17
    refine w_if_ne (pc := 50) (tgt := 59) X dX8_whyNot_50 (by decide) (fun c5 => ?_) (fun c5 => ?_)
    · replace h := it_neg c5 h
      refine w_iconst (pc := 59) X dX8_whyNot_59 (v := 1) rfl ?_
      refine w_goto (tgt := 64) (pc := 60) X dX8_whyNot_60 (by decide) ?_
      cases h
      exact w_sub (pc := 64) [1, 4] rfl K50
    · replace h := it_pos c5 h
      refine w_iload_n (pc := 53) X dX8_whyNot_53 1 rfl ?_
      refine w_bipush (pc := 54) X dX8_whyNot_54 (v := (100)) rfl ?_
      refine w_icmp_ne (pc := 56) (tgt := 63) X dX8_whyNot_56 (by decide) (fun c4 => ?_) (fun c4 => ?_)
      · replace h := it_neg c4 h
        refine w_iconst (pc := 63) X dX8_whyNot_63 (v := 0) rfl ?_
        cases h
        exact w_sub (pc := 64) [1, 4] rfl K50
      · replace h := it_pos c4 h
        refine w_iconst (pc := 59) X dX8_whyNot_59 (v := 1) rfl ?_
        refine w_goto (tgt := 64) (pc := 60) X dX8_whyNot_60 (by decide) ?_
        cases h
        exact w_sub (pc := 64) [1, 4] rfl K50
  · replace h := it_neg c48 h
    refine w_iload_n (pc := 10) X dX8_whyNot_10 1 rfl ?_
    refine w_iload_n (pc := 11) X dX8_whyNot_11 3 rfl ?_
    obtain ⟨r20, s18, h19, h⟩ := bd2_inv h
    refine w_callS (pc := 12) X dX8_whyNot_12 (M8_isTrue h19) rfl cw_8_302 ⟨Nat.le_of_ble_eq_true rfl, Nat.le_of_ble_eq_true rfl⟩ rfl rfl (Nat.le_of_ble_eq_true rfl) ?_
    show wpm φ ad 15 [(4, .int (0 : Int32)), (0, .int a0), (1, .ref (ad a1)), (2, .int a2), (3, .ref (ad a3))] [.int r20] s18
    obtain ⟨x22, h47, h⟩ := bd1_inv h
    have K15 : wpm φ ad 23 [(0, .int a0), (1, .ref (ad a1)), (3, .ref (ad a3))] [.int x22] s18 := by
      refine w_istore (pc := 23) X dX8_whyNot_23 (by decide) (lv' := [(4, .int x22), (0, .int a0), (1, .ref (ad a1)), (3, .ref (ad a3))]) rfl ?_
      refine w_aload_n (pc := 25) X dX8_whyNot_25 2 rfl ?_
      refine w_iload_n (pc := 26) X dX8_whyNot_26 1 rfl ?_
      obtain ⟨r25, s23, h24, h⟩ := bd2_inv h
      refine w_callS (pc := 27) X dX8_whyNot_27 (M8_guestOf h24) rfl cw_8_305 ⟨Nat.le_of_ble_eq_true rfl, Nat.le_of_ble_eq_true rfl⟩ rfl rfl (Nat.le_of_ble_eq_true rfl) ?_
      show wpm φ ad 30 [(4, .int x22), (0, .int a0), (1, .ref (ad a1)), (3, .ref (ad a3))] [.int r25, .ref (ad a1)] s23
      obtain ⟨r28, s26, h27, h⟩ := bd2_inv h
      refine w_callV (pc := 30) X dX8_whyNot_30 (M0_temperOf h27) k_a1 (by decide) rfl cw_8_83 ⟨Nat.le_of_ble_eq_true rfl, Nat.le_of_ble_eq_true rfl⟩ rfl rfl (Nat.le_of_ble_eq_true rfl) ?_
      show wpm φ ad 33 [(4, .int x22), (0, .int a0), (1, .ref (ad a1)), (3, .ref (ad a3))] [.int r28] s26
      refine w_iload (pc := 33) X dX8_whyNot_33 0 rfl ?_
      obtain ⟨x30, h46, h⟩ := bd1_inv h
      have K35 : wpm φ ad 43 [(0, .int a0), (3, .ref (ad a3)), (4, .int x22)] [.int x30, .int r28] s26 := by
        refine w_icmp_ne (pc := 43) (tgt := 48) X dX8_whyNot_43 (by decide) (fun c45 => ?_) (fun c45 => ?_)
        · replace h := it_neg c45 h
          refine w_iload (pc := 48) X dX8_whyNot_48 2 rfl ?_
          obtain ⟨x33, h44, h⟩ := bd1_inv h
          have K50 : wpm φ ad 64 [(0, .int a0), (3, .ref (ad a3))] [.int x33] s26 := by
            refine w_istore (pc := 64) X dX8_whyNot_64 (by decide) (lv' := [(5, .int x33), (0, .int a0), (3, .ref (ad a3))]) rfl ?_
            refine w_iload (pc := 66) X dX8_whyNot_66 0 rfl ?_
            refine w_if_eq (pc := 68) (tgt := 82) X dX8_whyNot_68 (by decide) (fun c43 => ?_) (fun c43 => ?_)
            · replace h := it_pos c43 h
              refine w_iload (pc := 82) X dX8_whyNot_82 0 rfl ?_
              refine w_if_ne (pc := 84) (tgt := 93) X dX8_whyNot_84 (by decide) (fun c37 => ?_) (fun c37 => ?_)
              · replace h := it_neg c37 h
                refine w_aload_n (pc := 93) X dX8_whyNot_93 2 rfl ?_
                refine w_getI (pc := 94) X dX8_whyNot_94 clO_2 k_a3 4 (by decide) rfl fl_8_99 ?_
                refine w_iconst (pc := 97) X dX8_whyNot_97 (v := 1) rfl ?_
                refine w_icmp_ge (pc := 98) (tgt := 103) X dX8_whyNot_98 (by decide) (fun c34 => ?_) (fun c34 => ?_)
                · replace h := it_pos c34 h
                  refine w_iconst (pc := 103) X dX8_whyNot_103 (v := 0) rfl ?_
                  cases h
                  exact w_iret X hQ dX8_whyNot_104
                · replace h := it_neg c34 h
                  refine w_iconst (pc := 101) X dX8_whyNot_101 (v := 3) rfl ?_
                  cases h
                  exact w_iret X hQ dX8_whyNot_102
              · replace h := it_pos c37 h
                refine w_iload_n (pc := 87) X dX8_whyNot_87 1 rfl ?_
                refine w_bipush (pc := 88) X dX8_whyNot_88 (v := (101)) rfl ?_
                refine w_icmp_ne (pc := 90) (tgt := 103) X dX8_whyNot_90 (by decide) (fun c36 => ?_) (fun c36 => ?_)
                · replace h := it_neg c36 h
                  refine w_iconst (pc := 103) X dX8_whyNot_103 (v := 0) rfl ?_
                  cases h
                  exact w_iret X hQ dX8_whyNot_104
                · replace h := it_pos c36 h
                  refine w_aload_n (pc := 93) X dX8_whyNot_93 2 rfl ?_
                  refine w_getI (pc := 94) X dX8_whyNot_94 clO_2 k_a3 4 (by decide) rfl fl_8_99 ?_
                  refine w_iconst (pc := 97) X dX8_whyNot_97 (v := 1) rfl ?_
                  refine w_icmp_ge (pc := 98) (tgt := 103) X dX8_whyNot_98 (by decide) (fun c35 => ?_) (fun c35 => ?_)
                  · replace h := it_pos c35 h
                    refine w_iconst (pc := 103) X dX8_whyNot_103 (v := 0) rfl ?_
                    cases h
                    exact w_iret X hQ dX8_whyNot_104
                  · replace h := it_neg c35 h
                    refine w_iconst (pc := 101) X dX8_whyNot_101 (v := 3) rfl ?_
                    cases h
                    exact w_iret X hQ dX8_whyNot_102
            · replace h := it_neg c43 h
              refine w_aload_n (pc := 71) X dX8_whyNot_71 2 rfl ?_
              refine w_getI (pc := 72) X dX8_whyNot_72 clO_2 k_a3 3 (by decide) rfl fl_8_134 ?_
              refine w_bipush (pc := 75) X dX8_whyNot_75 (v := (30)) rfl ?_
              refine w_icmp_lt (pc := 77) (tgt := 82) X dX8_whyNot_77 (by decide) (fun c42 => ?_) (fun c42 => ?_)
              · replace h := it_pos c42 h
                refine w_iload (pc := 82) X dX8_whyNot_82 0 rfl ?_
                refine w_if_ne (pc := 84) (tgt := 93) X dX8_whyNot_84 (by decide) (fun c41 => ?_) (fun c41 => ?_)
                · replace h := it_neg c41 h
                  refine w_aload_n (pc := 93) X dX8_whyNot_93 2 rfl ?_
                  refine w_getI (pc := 94) X dX8_whyNot_94 clO_2 k_a3 4 (by decide) rfl fl_8_99 ?_
                  refine w_iconst (pc := 97) X dX8_whyNot_97 (v := 1) rfl ?_
                  refine w_icmp_ge (pc := 98) (tgt := 103) X dX8_whyNot_98 (by decide) (fun c38 => ?_) (fun c38 => ?_)
                  · replace h := it_pos c38 h
                    refine w_iconst (pc := 103) X dX8_whyNot_103 (v := 0) rfl ?_
                    cases h
                    exact w_iret X hQ dX8_whyNot_104
                  · replace h := it_neg c38 h
                    refine w_iconst (pc := 101) X dX8_whyNot_101 (v := 3) rfl ?_
                    cases h
                    exact w_iret X hQ dX8_whyNot_102
                · replace h := it_pos c41 h
                  refine w_iload_n (pc := 87) X dX8_whyNot_87 1 rfl ?_
                  refine w_bipush (pc := 88) X dX8_whyNot_88 (v := (101)) rfl ?_
                  refine w_icmp_ne (pc := 90) (tgt := 103) X dX8_whyNot_90 (by decide) (fun c40 => ?_) (fun c40 => ?_)
                  · replace h := it_neg c40 h
                    refine w_iconst (pc := 103) X dX8_whyNot_103 (v := 0) rfl ?_
                    cases h
                    exact w_iret X hQ dX8_whyNot_104
                  · replace h := it_pos c40 h
                    refine w_aload_n (pc := 93) X dX8_whyNot_93 2 rfl ?_
                    refine w_getI (pc := 94) X dX8_whyNot_94 clO_2 k_a3 4 (by decide) rfl fl_8_99 ?_
                    refine w_iconst (pc := 97) X dX8_whyNot_97 (v := 1) rfl ?_
                    refine w_icmp_ge (pc := 98) (tgt := 103) X dX8_whyNot_98 (by decide) (fun c39 => ?_) (fun c39 => ?_)
                    · replace h := it_pos c39 h
                      refine w_iconst (pc := 103) X dX8_whyNot_103 (v := 0) rfl ?_
                      cases h
                      exact w_iret X hQ dX8_whyNot_104
                    · replace h := it_neg c39 h
                      refine w_iconst (pc := 101) X dX8_whyNot_101 (v := 3) rfl ?_
                      cases h
                      exact w_iret X hQ dX8_whyNot_102
              · replace h := it_neg c42 h
                refine w_iconst (pc := 80) X dX8_whyNot_80 (v := 2) rfl ?_
                cases h
                exact w_iret X hQ dX8_whyNot_81
          clear h
          have h := h44
          clear h44
          refine w_if_ne (pc := 50) (tgt := 59) X dX8_whyNot_50 (by decide) (fun c32 => ?_) (fun c32 => ?_)
          · replace h := it_neg c32 h
            refine w_iconst (pc := 59) X dX8_whyNot_59 (v := 1) rfl ?_
            refine w_goto (tgt := 64) (pc := 60) X dX8_whyNot_60 (by decide) ?_
            cases h
            exact w_sub (pc := 64) [0, 1] rfl K50
          · replace h := it_pos c32 h
            refine w_iload_n (pc := 53) X dX8_whyNot_53 0 rfl ?_
            refine w_bipush (pc := 54) X dX8_whyNot_54 (v := (100)) rfl ?_
            refine w_icmp_ne (pc := 56) (tgt := 63) X dX8_whyNot_56 (by decide) (fun c31 => ?_) (fun c31 => ?_)
            · replace h := it_neg c31 h
              refine w_iconst (pc := 63) X dX8_whyNot_63 (v := 0) rfl ?_
              cases h
              exact w_sub (pc := 64) [0, 1] rfl K50
            · replace h := it_pos c31 h
              refine w_iconst (pc := 59) X dX8_whyNot_59 (v := 1) rfl ?_
              refine w_goto (tgt := 64) (pc := 60) X dX8_whyNot_60 (by decide) ?_
              cases h
              exact w_sub (pc := 64) [0, 1] rfl K50
        · replace h := it_pos c45 h
          refine w_iconst (pc := 46) X dX8_whyNot_46 (v := 1) rfl ?_
          cases h
          exact w_iret X hQ dX8_whyNot_47
      clear h
      have h := h46
      clear h46
      refine w_if_eq (pc := 35) (tgt := 42) X dX8_whyNot_35 (by decide) (fun c29 => ?_) (fun c29 => ?_)
      · replace h := it_pos c29 h
        refine w_iconst (pc := 42) X dX8_whyNot_42 (v := 2) rfl ?_
        cases h
        exact w_sub (pc := 43) [1, 3, 0] rfl K35
      · replace h := it_neg c29 h
        refine w_iconst (pc := 38) X dX8_whyNot_38 (v := 1) rfl ?_
        refine w_goto (tgt := 43) (pc := 39) X dX8_whyNot_39 (by decide) ?_
        cases h
        exact w_sub (pc := 43) [1, 3, 0] rfl K35
    clear h
    have h := h47
    clear h47
    refine w_if_ne (pc := 15) (tgt := 22) X dX8_whyNot_15 (by decide) (fun c21 => ?_) (fun c21 => ?_)
    · replace h := it_neg c21 h
      refine w_iconst (pc := 22) X dX8_whyNot_22 (v := 0) rfl ?_
      cases h
      exact w_sub (pc := 23) [1, 2, 4] rfl K15
    · replace h := it_pos c21 h
      refine w_iconst (pc := 18) X dX8_whyNot_18 (v := 1) rfl ?_
      refine w_goto (tgt := 23) (pc := 19) X dX8_whyNot_19 (by decide) ?_
      cases h
      exact w_sub (pc := 23) [1, 2, 4] rfl K15
set_option maxRecDepth 20000 in
theorem M2_colourAt {o : Nat} {a1 : Int32} {s : Sto} {r : Int32} {σ' : Sto} (h : f2_colourAt o a1 s = some (r, σ')) : Ct yX2_colourAt cX2_colourAt 2 (some .int) 1 21 (fun ad => [.ref (ad o), .int a1]) s (fun ad => some (.int r)) σ' := by
  unfold f2_colourAt at h
  obtain ⟨k_o, h⟩ := gd_inv h
  refine Ct_of (by decide) (fun ad => Nat.le_of_ble_eq_true rfl) (fun φ ad X hQ => ?_)
  show wpm φ ad 0 [(0, .ref (ad o)), (1, .int a1)] [] s
  replace X : Cx φ ad cX2_colourAt (some .int) RX2 2 1 21 := X
  refine w_aload_n (pc := 0) X dX2_colourAt_0 0 rfl ?_
  refine w_getR (pc := 1) X dX2_colourAt_1 clO_2 k_o 0 (by decide) (d := 1) rfl fl_2_9 ?_
  refine w_iload_n (pc := 4) X dX2_colourAt_4 1 rfl ?_
  obtain ⟨r3, s1, h2, h⟩ := bd2_inv h
  refine w_callSN (pc := 5) X dX2_colourAt_5 (M8_at h2) mn_2_41 cw_2_41 ⟨Nat.le_of_ble_eq_true rfl, Nat.le_of_ble_eq_true rfl⟩ rfl rfl (Nat.le_of_ble_eq_true rfl) ?_
  show wpm φ ad 8 [(0, .ref (ad o)), (1, .int a1)] [.int r3] s1
  cases h
  exact w_iret X hQ dX2_colourAt_8
set_option maxRecDepth 20000 in
theorem M2_dropTop {o : Nat} {s : Sto} {σ' : Sto} (h : f2_dropTop o s = some σ') : Ct yX2_dropTop cX2_dropTop 1 none 0 0 (fun ad => [.ref (ad o)]) s (fun _ => none) σ' := by
  unfold f2_dropTop at h
  obtain ⟨k_o, h⟩ := gd_inv h
  refine Ct_of (by decide) (fun ad => Nat.le_of_ble_eq_true rfl) (fun φ ad X hQ => ?_)
  show wpm φ ad 0 [(0, .ref (ad o))] [] s
  replace X : Cx φ ad cX2_dropTop none RX2 1 0 0 := X
  refine w_aload_n (pc := 0) X dX2_dropTop_0 0 rfl ?_
  refine w_getI (pc := 1) X dX2_dropTop_1 clO_2 k_o 3 (by decide) rfl fl_2_21 ?_
  refine w_if_le (pc := 4) (tgt := 27) X dX2_dropTop_4 (by decide) (fun c3 => ?_) (fun c3 => ?_)
  · replace h := it_pos c3 h
    cases h
    exact w_vret X hQ dX2_dropTop_27
  · replace h := it_neg c3 h
    refine w_aload_n (pc := 7) X dX2_dropTop_7 0 rfl ?_
    refine w_dup (pc := 8) X dX2_dropTop_8 rfl ?_
    refine w_getI (pc := 9) X dX2_dropTop_9 clO_2 k_o 3 (by decide) rfl fl_2_21 ?_
    refine w_iconst (pc := 12) X dX2_dropTop_12 (v := 1) rfl ?_
    refine w_isub (pc := 13) X dX2_dropTop_13 ?_
    refine w_putI (pc := 14) X dX2_dropTop_14 clO_2 k_o 3 (by decide) rfl rfl (Or.inl rfl) fl_2_21 ?_
    obtain ⟨s1, e_s1, h⟩ := nm_inv h
    refine w_nm e_s1 ?_
    refine w_aload_n (pc := 17) X dX2_dropTop_17 0 rfl ?_
    refine w_dup (pc := 18) X dX2_dropTop_18 rfl ?_
    refine w_getI (pc := 19) X dX2_dropTop_19 clO_2 k_o 6 (by decide) rfl fl_2_31 ?_
    refine w_iconst (pc := 22) X dX2_dropTop_22 (v := 1) rfl ?_
    refine w_iadd (pc := 23) X dX2_dropTop_23 ?_
    refine w_putI (pc := 24) X dX2_dropTop_24 clO_2 k_o 6 (by decide) rfl rfl (Or.inl rfl) fl_2_31 ?_
    obtain ⟨s2, e_s2, h⟩ := nm_inv h
    refine w_nm e_s2 ?_
    cases h
    exact w_vret X hQ dX2_dropTop_27
set_option maxRecDepth 20000 in
theorem WL2_dropColour_18 {φ : Fr} {ad : Nat → Nat} (X : Cx φ ad cX2_dropColour none RX2 3 2 42) (o : Nat) (a1 : Int32) (k_o : kd o = 2) : ∀ (fuel : Nat) (v2 : Int32) (s : Sto)  (t : Sto), L2_dropColour_18 o a1 fuel v2 s = some (t) → wpm φ ad 41 [] [] t → wpm φ ad 18 [(0, .ref (ad o)), (1, .int a1), (2, .int v2)] [] s := by
  intro fuel
  induction fuel with
  | zero => intro v2 s t h; cases h
  | succ fuel ih =>
    intro v2 s t h K
    unfold L2_dropColour_18 at h
    refine w_iload_n (pc := 18) X dX2_dropColour_18 2 rfl ?_
    refine w_if_lt (pc := 19) (tgt := 41) X dX2_dropColour_19 (by decide) (fun c10 => ?_) (fun c10 => ?_)
    · replace h := it_pos c10 h
      cases h
      exact w_sub (pc := 41) [] rfl K
    · replace h := it_neg c10 h
      refine w_aload_n (pc := 22) X dX2_dropColour_22 0 rfl ?_
      refine w_iload_n (pc := 23) X dX2_dropColour_23 2 rfl ?_
      obtain ⟨r6, s4, h5, h⟩ := bd2_inv h
      refine w_callV (pc := 24) X dX2_dropColour_24 (M2_colourAt h5) k_o (by decide) rfl cw_2_45 ⟨Nat.le_of_ble_eq_true rfl, Nat.le_of_ble_eq_true rfl⟩ rfl rfl (Nat.le_of_ble_eq_true rfl) ?_
      show wpm φ ad 27 [(0, .ref (ad o)), (1, .int a1), (2, .int v2)] [.int r6] s4
      refine w_iload_n (pc := 27) X dX2_dropColour_27 1 rfl ?_
      refine w_icmp_ne (pc := 28) (tgt := 41) X dX2_dropColour_28 (by decide) (fun c9 => ?_) (fun c9 => ?_)
      · replace h := it_neg c9 h
        cases h
        exact w_sub (pc := 41) [] rfl K
      · replace h := it_pos c9 h
        refine w_aload_n (pc := 31) X dX2_dropColour_31 0 rfl ?_
        obtain ⟨s7, h8, h⟩ := bd1_inv h
        refine w_callV (pc := 32) X dX2_dropColour_32 (M2_dropTop h8) k_o (by decide) rfl cw_2_63 ⟨Nat.le_of_ble_eq_true rfl, Nat.le_of_ble_eq_true rfl⟩ rfl rfl (Nat.le_of_ble_eq_true rfl) ?_
        show wpm φ ad 35 [(0, .ref (ad o)), (1, .int a1), (2, .int v2)] [] s7
        refine w_iinc (pc := 35) X dX2_dropColour_35 2 rfl (v := (v2 + (-1))) rfl (by decide) (lv' := [(2, .int (v2 + (-1))), (0, .ref (ad o)), (1, .int a1)]) rfl ?_
        refine w_goto (tgt := 18) (pc := 38) X dX2_dropColour_38 (by decide) ?_
        exact w_sub (pc := 18) [1, 2, 0] rfl (ih _ _ _ h K)
set_option maxRecDepth 20000 in
theorem M2_dropColour {o : Nat} {s : Sto} {σ' : Sto} (h : f2_dropColour o s = some σ') : Ct yX2_dropColour cX2_dropColour 3 none 2 42 (fun ad => [.ref (ad o)]) s (fun _ => none) σ' := by
  unfold f2_dropColour at h
  obtain ⟨k_o, h⟩ := gd_inv h
  refine Ct_of (by decide) (fun ad => Nat.le_of_ble_eq_true rfl) (fun φ ad X hQ => ?_)
  show wpm φ ad 0 [(0, .ref (ad o))] [] s
  replace X : Cx φ ad cX2_dropColour none RX2 3 2 42 := X
  refine w_aload_n (pc := 0) X dX2_dropColour_0 0 rfl ?_
  refine w_aload_n (pc := 1) X dX2_dropColour_1 0 rfl ?_
  refine w_getI (pc := 2) X dX2_dropColour_2 clO_2 k_o 3 (by decide) rfl fl_2_21 ?_
  refine w_iconst (pc := 5) X dX2_dropColour_5 (v := 1) rfl ?_
  refine w_isub (pc := 6) X dX2_dropColour_6 ?_
  obtain ⟨r3, s1, h2, h⟩ := bd2_inv h
  refine w_callV (pc := 7) X dX2_dropColour_7 (M2_colourAt h2) k_o (by decide) rfl cw_2_45 ⟨Nat.le_of_ble_eq_true rfl, Nat.le_of_ble_eq_true rfl⟩ rfl rfl (Nat.le_of_ble_eq_true rfl) ?_
  show wpm φ ad 10 [(0, .ref (ad o))] [.int r3] s1
  refine w_istore_n (pc := 10) X dX2_dropColour_10 1 rfl (by decide) (lv' := [(1, .int r3), (0, .ref (ad o))]) rfl ?_
  refine w_aload_n (pc := 11) X dX2_dropColour_11 1 rfl ?_
  refine w_getI (pc := 12) X dX2_dropColour_12 clO_2 k_o 3 (by decide) rfl fl_2_21 ?_
  refine w_iconst (pc := 15) X dX2_dropColour_15 (v := 1) rfl ?_
  refine w_isub (pc := 16) X dX2_dropColour_16 ?_
  refine w_istore_n (pc := 17) X dX2_dropColour_17 2 rfl (by decide) (lv' := [(2, .int ((s1.1 o 3) - (1 : Int32))), (1, .int r3), (0, .ref (ad o))]) rfl ?_
  obtain ⟨s12, h11, h⟩ := bd1_inv h
  refine w_sub (pc := 18) [2, 1, 0] rfl (WL2_dropColour_18 X o r3 k_o FU ((s1.1 o 3) - (1 : Int32)) s1 s12 h11 ?_)
  cases h
  exact w_vret X hQ dX2_dropColour_41
set_option maxRecDepth 20000 in
theorem M2_lay {o : Nat} {a1 : Int32} {a2 : Int32} {s : Sto} {σ' : Sto} (h : f2_lay o a1 a2 s = some σ') : Ct yX2_lay cX2_lay 3 none 1 22 (fun ad => [.ref (ad o), .int a1, .int a2]) s (fun _ => none) σ' := by
  unfold f2_lay at h
  obtain ⟨k_o, h⟩ := gd_inv h
  refine Ct_of (by decide) (fun ad => Nat.le_of_ble_eq_true rfl) (fun φ ad X hQ => ?_)
  show wpm φ ad 0 [(0, .ref (ad o)), (1, .int a1), (2, .int a2)] [] s
  replace X : Cx φ ad cX2_lay none RX2 3 1 22 := X
  refine w_aload_n (pc := 0) X dX2_lay_0 0 rfl ?_
  refine w_getR (pc := 1) X dX2_lay_1 clO_2 k_o 0 (by decide) (d := 1) rfl fl_2_9 ?_
  refine w_aload_n (pc := 4) X dX2_lay_4 0 rfl ?_
  refine w_getI (pc := 5) X dX2_lay_5 clO_2 k_o 3 (by decide) rfl fl_2_21 ?_
  refine w_iload_n (pc := 8) X dX2_lay_8 1 rfl ?_
  obtain ⟨s1, h2, h⟩ := bd1_inv h
  refine w_callSN (pc := 9) X dX2_lay_9 (M8_put h2) mn_2_69 cw_2_69 ⟨Nat.le_of_ble_eq_true rfl, Nat.le_of_ble_eq_true rfl⟩ rfl rfl (Nat.le_of_ble_eq_true rfl) ?_
  show wpm φ ad 12 [(0, .ref (ad o)), (1, .int a1), (2, .int a2)] [] s1
  refine w_aload_n (pc := 12) X dX2_lay_12 0 rfl ?_
  refine w_getR (pc := 13) X dX2_lay_13 clO_2 k_o 1 (by decide) (d := 2) rfl fl_2_15 ?_
  refine w_aload_n (pc := 16) X dX2_lay_16 0 rfl ?_
  refine w_getI (pc := 17) X dX2_lay_17 clO_2 k_o 3 (by decide) rfl fl_2_21 ?_
  refine w_iload_n (pc := 20) X dX2_lay_20 2 rfl ?_
  obtain ⟨s3, h4, h⟩ := bd1_inv h
  refine w_callSN (pc := 21) X dX2_lay_21 (M8_put h4) mn_2_69 cw_2_69 ⟨Nat.le_of_ble_eq_true rfl, Nat.le_of_ble_eq_true rfl⟩ rfl rfl (Nat.le_of_ble_eq_true rfl) ?_
  show wpm φ ad 24 [(0, .ref (ad o)), (1, .int a1), (2, .int a2)] [] s3
  refine w_aload_n (pc := 24) X dX2_lay_24 0 rfl ?_
  refine w_getR (pc := 25) X dX2_lay_25 clO_2 k_o 2 (by decide) (d := 3) rfl fl_2_18 ?_
  refine w_aload_n (pc := 28) X dX2_lay_28 0 rfl ?_
  refine w_getI (pc := 29) X dX2_lay_29 clO_2 k_o 3 (by decide) rfl fl_2_21 ?_
  refine w_aload_n (pc := 32) X dX2_lay_32 0 rfl ?_
  refine w_getI (pc := 33) X dX2_lay_33 clO_2 k_o 4 (by decide) rfl fl_2_25 ?_
  obtain ⟨s5, h6, h⟩ := bd1_inv h
  refine w_callSN (pc := 36) X dX2_lay_36 (M8_put h6) mn_2_69 cw_2_69 ⟨Nat.le_of_ble_eq_true rfl, Nat.le_of_ble_eq_true rfl⟩ rfl rfl (Nat.le_of_ble_eq_true rfl) ?_
  show wpm φ ad 39 [(0, .ref (ad o)), (1, .int a1), (2, .int a2)] [] s5
  refine w_aload_n (pc := 39) X dX2_lay_39 0 rfl ?_
  refine w_dup (pc := 40) X dX2_lay_40 rfl ?_
  refine w_getI (pc := 41) X dX2_lay_41 clO_2 k_o 3 (by decide) rfl fl_2_21 ?_
  refine w_iconst (pc := 44) X dX2_lay_44 (v := 1) rfl ?_
  refine w_iadd (pc := 45) X dX2_lay_45 ?_
  refine w_putI (pc := 46) X dX2_lay_46 clO_2 k_o 3 (by decide) rfl rfl (Or.inl rfl) fl_2_21 ?_
  obtain ⟨s7, e_s7, h⟩ := nm_inv h
  refine w_nm e_s7 ?_
  refine w_aload_n (pc := 49) X dX2_lay_49 0 rfl ?_
  refine w_dup (pc := 50) X dX2_lay_50 rfl ?_
  refine w_getI (pc := 51) X dX2_lay_51 clO_2 k_o 5 (by decide) rfl fl_2_28 ?_
  refine w_iconst (pc := 54) X dX2_lay_54 (v := 1) rfl ?_
  refine w_iadd (pc := 55) X dX2_lay_55 ?_
  refine w_putI (pc := 56) X dX2_lay_56 clO_2 k_o 5 (by decide) rfl rfl (Or.inl rfl) fl_2_28 ?_
  obtain ⟨s8, e_s8, h⟩ := nm_inv h
  refine w_nm e_s8 ?_
  cases h
  exact w_vret X hQ dX2_lay_59
set_option maxRecDepth 20000 in
theorem M2_hear {o : Nat} {a1 : Int32} {a2 : Int32} {s : Sto} {σ' : Sto} (h : f2_hear o a1 a2 s = some σ') : Ct yX2_hear cX2_hear 4 none 3 64 (fun ad => [.ref (ad o), .int a1, .int a2]) s (fun _ => none) σ' := by
  unfold f2_hear at h
  obtain ⟨k_o, h⟩ := gd_inv h
  refine Ct_of (by decide) (fun ad => Nat.le_of_ble_eq_true rfl) (fun φ ad X hQ => ?_)
  show wpm φ ad 0 [(0, .ref (ad o)), (1, .int a1), (2, .int a2)] [] s
  replace X : Cx φ ad cX2_hear none RX2 4 3 64 := X
  refine w_aload_n (pc := 0) X dX2_hear_0 0 rfl ?_
  refine w_getI (pc := 1) X dX2_hear_1 clO_2 k_o 7 (by decide) rfl fl_2_34 ?_
  refine w_istore_n (pc := 4) X dX2_hear_4 3 rfl (by decide) (lv' := [(3, .int (s.1 o 7)), (0, .ref (ad o)), (1, .int a1), (2, .int a2)]) rfl ?_
  refine w_aload_n (pc := 5) X dX2_hear_5 1 rfl ?_
  refine w_iconst (pc := 6) X dX2_hear_6 (v := (-1)) rfl ?_
  refine w_putI (pc := 7) X dX2_hear_7 clO_2 k_o 7 (by decide) rfl rfl (Or.inl rfl) fl_2_34 ?_
  obtain ⟨s1, e_s1, h⟩ := nm_inv h
  refine w_nm e_s1 ?_
  refine w_iload_n (pc := 10) X dX2_hear_10 2 rfl ?_
  refine w_bipush (pc := 11) X dX2_hear_11 (v := (101)) rfl ?_
  refine w_icmp_ne (pc := 13) (tgt := 29) X dX2_hear_13 (by decide) (fun c24 => ?_) (fun c24 => ?_)
  · replace h := it_neg c24 h
    refine w_iload_n (pc := 29) X dX2_hear_29 2 rfl ?_
    refine w_bipush (pc := 30) X dX2_hear_30 (v := (102)) rfl ?_
    refine w_icmp_ne (pc := 32) (tgt := 42) X dX2_hear_32 (by decide) (fun c22 => ?_) (fun c22 => ?_)
    · replace h := it_neg c22 h
      refine w_iload_n (pc := 42) X dX2_hear_42 2 rfl ?_
      refine w_bipush (pc := 43) X dX2_hear_43 (v := (100)) rfl ?_
      refine w_icmp_ne (pc := 45) (tgt := 58) X dX2_hear_45 (by decide) (fun c19 => ?_) (fun c19 => ?_)
      · replace h := it_neg c19 h
        refine w_iload_n (pc := 58) X dX2_hear_58 2 rfl ?_
        refine w_iload_n (pc := 59) X dX2_hear_59 3 rfl ?_
        obtain ⟨r4, s2, h3, h⟩ := bd2_inv h
        refine w_callSN (pc := 60) X dX2_hear_60 (M8_isTrue h3) mn_2_59 cw_2_59 ⟨Nat.le_of_ble_eq_true rfl, Nat.le_of_ble_eq_true rfl⟩ rfl rfl (Nat.le_of_ble_eq_true rfl) ?_
        show wpm φ ad 63 [(3, .int (s.1 o 7)), (0, .ref (ad o)), (1, .int a1), (2, .int a2)] [.int r4] s2
        refine w_if_eq (pc := 63) (tgt := 73) X dX2_hear_63 (by decide) (fun c16 => ?_) (fun c16 => ?_)
        · replace h := it_pos c16 h
          refine w_aload_n (pc := 73) X dX2_hear_73 1 rfl ?_
          refine w_iload_n (pc := 74) X dX2_hear_74 2 rfl ?_
          obtain ⟨r7, s5, h6, h⟩ := bd2_inv h
          refine w_callSN (pc := 75) X dX2_hear_75 (M8_guestOf h6) mn_2_66 cw_2_66 ⟨Nat.le_of_ble_eq_true rfl, Nat.le_of_ble_eq_true rfl⟩ rfl rfl (Nat.le_of_ble_eq_true rfl) ?_
          show wpm φ ad 78 [(3, .int (s.1 o 7)), (0, .ref (ad o)), (1, .int a1), (2, .int a2)] [.int r7, .ref (ad o)] s5
          refine w_putI (pc := 78) X dX2_hear_78 clO_2 k_o 7 (by decide) rfl rfl (Or.inl rfl) fl_2_34 ?_
          obtain ⟨s8, e_s8, h⟩ := nm_inv h
          refine w_nm e_s8 ?_
          refine w_aload_n (pc := 81) X dX2_hear_81 1 rfl ?_
          refine w_aload_n (pc := 82) X dX2_hear_82 1 rfl ?_
          refine w_getI (pc := 83) X dX2_hear_83 clO_2 k_o 7 (by decide) rfl fl_2_34 ?_
          refine w_aload_n (pc := 86) X dX2_hear_86 1 rfl ?_
          refine w_getI (pc := 87) X dX2_hear_87 clO_2 k_o 7 (by decide) rfl fl_2_34 ?_
          refine w_iload_n (pc := 90) X dX2_hear_90 0 rfl ?_
          obtain ⟨x10, h13, h⟩ := bd1_inv h
          have K91 : wpm φ ad 99 [] [.int x10, .int (s8.1 o 7), .ref (ad o)] s8 := by
            obtain ⟨s11, h12, h⟩ := bd1_inv h
            refine w_callV (pc := 99) X dX2_hear_99 (M2_lay h12) k_o (by decide) rfl cw_2_55 ⟨Nat.le_of_ble_eq_true rfl, Nat.le_of_ble_eq_true rfl⟩ rfl rfl (Nat.le_of_ble_eq_true rfl) ?_
            show wpm φ ad 102 [] [] s11
            cases h
            exact w_vret X hQ dX2_hear_102
          clear h
          have h := h13
          clear h13
          refine w_icmp_ne (pc := 91) (tgt := 98) X dX2_hear_91 (by decide) (fun c9 => ?_) (fun c9 => ?_)
          · replace h := it_neg c9 h
            refine w_iconst (pc := 98) X dX2_hear_98 (v := 0) rfl ?_
            cases h
            exact w_sub (pc := 99) [] rfl K91
          · replace h := it_pos c9 h
            refine w_iconst (pc := 94) X dX2_hear_94 (v := 1) rfl ?_
            refine w_goto (tgt := 99) (pc := 95) X dX2_hear_95 (by decide) ?_
            cases h
            exact w_sub (pc := 99) [] rfl K91
        · replace h := it_neg c16 h
          refine w_aload_n (pc := 66) X dX2_hear_66 1 rfl ?_
          obtain ⟨s14, h15, h⟩ := bd1_inv h
          refine w_callV (pc := 67) X dX2_hear_67 (M2_dropTop h15) k_o (by decide) rfl cw_2_63 ⟨Nat.le_of_ble_eq_true rfl, Nat.le_of_ble_eq_true rfl⟩ rfl rfl (Nat.le_of_ble_eq_true rfl) ?_
          show wpm φ ad 70 [(3, .int (s.1 o 7)), (0, .ref (ad o)), (1, .int a1), (2, .int a2)] [] s14
          refine w_goto (tgt := 102) (pc := 70) X dX2_hear_70 (by decide) ?_
          cases h
          exact w_vret X hQ dX2_hear_102
      · replace h := it_pos c19 h
        refine w_aload_n (pc := 48) X dX2_hear_48 1 rfl ?_
        refine w_bipush (pc := 49) X dX2_hear_49 (v := (6)) rfl ?_
        refine w_iconst (pc := 51) X dX2_hear_51 (v := 2) rfl ?_
        obtain ⟨s17, h18, h⟩ := bd1_inv h
        refine w_callV (pc := 52) X dX2_hear_52 (M2_lay h18) k_o (by decide) rfl cw_2_55 ⟨Nat.le_of_ble_eq_true rfl, Nat.le_of_ble_eq_true rfl⟩ rfl rfl (Nat.le_of_ble_eq_true rfl) ?_
        show wpm φ ad 55 [(3, .int (s.1 o 7)), (0, .ref (ad o)), (1, .int a1), (2, .int a2)] [] s17
        refine w_goto (tgt := 102) (pc := 55) X dX2_hear_55 (by decide) ?_
        cases h
        exact w_vret X hQ dX2_hear_102
    · replace h := it_pos c22 h
      refine w_aload_n (pc := 35) X dX2_hear_35 1 rfl ?_
      obtain ⟨s20, h21, h⟩ := bd1_inv h
      refine w_callV (pc := 36) X dX2_hear_36 (M2_dropColour h21) k_o (by decide) rfl cw_2_52 ⟨Nat.le_of_ble_eq_true rfl, Nat.le_of_ble_eq_true rfl⟩ rfl rfl (Nat.le_of_ble_eq_true rfl) ?_
      show wpm φ ad 39 [(3, .int (s.1 o 7)), (0, .ref (ad o)), (1, .int a1), (2, .int a2)] [] s20
      refine w_goto (tgt := 102) (pc := 39) X dX2_hear_39 (by decide) ?_
      cases h
      exact w_vret X hQ dX2_hear_102
  · replace h := it_pos c24 h
    refine w_aload_n (pc := 16) X dX2_hear_16 1 rfl ?_
    refine w_dup (pc := 17) X dX2_hear_17 rfl ?_
    refine w_getI (pc := 18) X dX2_hear_18 clO_2 k_o 4 (by decide) rfl fl_2_25 ?_
    refine w_iconst (pc := 21) X dX2_hear_21 (v := 1) rfl ?_
    refine w_isub (pc := 22) X dX2_hear_22 ?_
    refine w_putI (pc := 23) X dX2_hear_23 clO_2 k_o 4 (by decide) rfl rfl (Or.inl rfl) fl_2_25 ?_
    obtain ⟨s23, e_s23, h⟩ := nm_inv h
    refine w_nm e_s23 ?_
    refine w_goto (tgt := 102) (pc := 26) X dX2_hear_26 (by decide) ?_
    cases h
    exact w_vret X hQ dX2_hear_102
