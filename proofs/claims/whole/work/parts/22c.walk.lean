set_option maxRecDepth 20000 in
theorem WL9_refusal_24 {φ : Fr} {ad : Nat → Nat} (X : Cx φ ad cX9_refusal (some .int) RX9 2 4 89) (o : Nat) (k_o : kd o = 9) : ∀ (fuel : Nat) (v1 : Int32) (s : Sto)  (t : Sto), L9_refusal_24 o fuel v1 s = some (t) → wpm φ ad 82 [(0, .ref (ad o))] [] t → wpm φ ad 24 [(0, .ref (ad o)), (1, .int v1)] [] s := by
  intro fuel
  induction fuel with
  | zero => intro v1 s t h; cases h
  | succ fuel ih =>
    intro v1 s t h K
    unfold L9_refusal_24 at h
    refine w_iload_n (pc := 24) X dX9_refusal_24 1 rfl ?_
    refine w_bipush (pc := 25) X dX9_refusal_25 (v := (30)) rfl ?_
    refine w_icmp_ge (pc := 27) (tgt := 82) X dX9_refusal_27 (by decide) (fun c17 => ?_) (fun c17 => ?_)
    · replace h := it_pos c17 h
      cases h
      exact w_sub (pc := 82) [0] rfl K
    · replace h := it_neg c17 h
      refine w_aload_n (pc := 30) X dX9_refusal_30 0 rfl ?_
      refine w_getR (pc := 31) X dX9_refusal_31 clO_9 k_o 31 (by decide) (d := 16) rfl fl_9_55 ?_
      refine w_iconst (pc := 34) X dX9_refusal_34 (v := 3) rfl ?_
      refine w_iload_n (pc := 35) X dX9_refusal_35 1 rfl ?_
      refine w_imul (pc := 36) X dX9_refusal_36 ?_
      refine w_aload_n (pc := 37) X dX9_refusal_37 0 rfl ?_
      refine w_getR (pc := 38) X dX9_refusal_38 clO_9 k_o 5 (by decide) (d := 2) rfl fl_9_13 ?_
      refine w_iload_n (pc := 41) X dX9_refusal_41 1 rfl ?_
      obtain ⟨g8, h⟩ := gd_inv h
      refine w_iald (pc := 42) X dX9_refusal_42 (kp_9_2 k_o) g8 ?_
      obtain ⟨g9, h⟩ := gd_inv h
      refine w_iast (pc := 43) X dX9_refusal_43 (kp_9_16 k_o) g9 ?_
      obtain ⟨s10, e_s10, h⟩ := nm_inv h
      refine w_nm e_s10 ?_
      refine w_aload_n (pc := 44) X dX9_refusal_44 0 rfl ?_
      refine w_getR (pc := 45) X dX9_refusal_45 clO_9 k_o 31 (by decide) (d := 16) rfl fl_9_55 ?_
      refine w_iconst (pc := 48) X dX9_refusal_48 (v := 3) rfl ?_
      refine w_iload_n (pc := 49) X dX9_refusal_49 1 rfl ?_
      refine w_imul (pc := 50) X dX9_refusal_50 ?_
      refine w_iconst (pc := 51) X dX9_refusal_51 (v := 1) rfl ?_
      refine w_iadd (pc := 52) X dX9_refusal_52 ?_
      refine w_aload_n (pc := 53) X dX9_refusal_53 0 rfl ?_
      refine w_getR (pc := 54) X dX9_refusal_54 clO_9 k_o 6 (by decide) (d := 3) rfl fl_9_16 ?_
      refine w_iload_n (pc := 57) X dX9_refusal_57 1 rfl ?_
      obtain ⟨g11, h⟩ := gd_inv h
      refine w_iald (pc := 58) X dX9_refusal_58 (kp_9_3 k_o) g11 ?_
      obtain ⟨g12, h⟩ := gd_inv h
      refine w_iast (pc := 59) X dX9_refusal_59 (kp_9_16 k_o) g12 ?_
      obtain ⟨s13, e_s13, h⟩ := nm_inv h
      refine w_nm e_s13 ?_
      refine w_aload_n (pc := 60) X dX9_refusal_60 0 rfl ?_
      refine w_getR (pc := 61) X dX9_refusal_61 clO_9 k_o 31 (by decide) (d := 16) rfl fl_9_55 ?_
      refine w_iconst (pc := 64) X dX9_refusal_64 (v := 3) rfl ?_
      refine w_iload_n (pc := 65) X dX9_refusal_65 1 rfl ?_
      refine w_imul (pc := 66) X dX9_refusal_66 ?_
      refine w_iconst (pc := 67) X dX9_refusal_67 (v := 2) rfl ?_
      refine w_iadd (pc := 68) X dX9_refusal_68 ?_
      refine w_aload_n (pc := 69) X dX9_refusal_69 0 rfl ?_
      refine w_getR (pc := 70) X dX9_refusal_70 clO_9 k_o 7 (by decide) (d := 4) rfl fl_9_19 ?_
      refine w_iload_n (pc := 73) X dX9_refusal_73 1 rfl ?_
      obtain ⟨g14, h⟩ := gd_inv h
      refine w_iald (pc := 74) X dX9_refusal_74 (kp_9_4 k_o) g14 ?_
      obtain ⟨g15, h⟩ := gd_inv h
      refine w_iast (pc := 75) X dX9_refusal_75 (kp_9_16 k_o) g15 ?_
      obtain ⟨s16, e_s16, h⟩ := nm_inv h
      refine w_nm e_s16 ?_
      refine w_iinc (pc := 76) X dX9_refusal_76 1 rfl (v := (v1 + 1)) rfl (by decide) (lv' := [(1, .int (v1 + 1)), (0, .ref (ad o))]) rfl ?_
      refine w_goto (tgt := 24) (pc := 79) X dX9_refusal_79 (by decide) ?_
      exact w_sub (pc := 24) [1, 0] rfl (ih _ _ _ h K)
set_option maxRecDepth 20000 in
theorem M9_refusal {o : Nat} {s : Sto} {r : Int32} {σ' : Sto} (h : f9_refusal o s = some (r, σ')) : Ct yX9_refusal cX9_refusal 2 (some .int) 4 89 (fun ad => [.ref (ad o)]) s (fun ad => some (.int r)) σ' := by
  unfold f9_refusal at h
  obtain ⟨k_o, h⟩ := gd_inv h
  refine Ct_of (by decide) (fun ad => Nat.le_of_ble_eq_true rfl) (fun φ ad X hQ => ?_)
  show wpm φ ad 0 [(0, .ref (ad o))] [] s
  replace X : Cx φ ad cX9_refusal (some .int) RX9 2 4 89 := X
  refine w_aload_n (pc := 0) X dX9_refusal_0 0 rfl ?_
  obtain ⟨r3, s1, h2, h⟩ := bd2_inv h
  refine w_callV (pc := 1) X dX9_refusal_1 (M9_faultOfEvening h2) k_o (by decide) rfl cw_9_137 ⟨Nat.le_of_ble_eq_true rfl, Nat.le_of_ble_eq_true rfl⟩ rfl rfl (Nat.le_of_ble_eq_true rfl) ?_
  show wpm φ ad 4 [(0, .ref (ad o))] [.int r3] s1
  refine w_if_lt (pc := 4) (tgt := 10) X dX9_refusal_4 (by decide) (fun c25 => ?_) (fun c25 => ?_)
  · replace h := it_pos c25 h
    refine w_aload_n (pc := 10) X dX9_refusal_10 0 rfl ?_
    obtain ⟨s4, h5, h⟩ := bd1_inv h
    refine w_callV (pc := 11) X dX9_refusal_11 (M9_keepNow h5) k_o (by decide) rfl cw_9_207 ⟨Nat.le_of_ble_eq_true rfl, Nat.le_of_ble_eq_true rfl⟩ rfl rfl (Nat.le_of_ble_eq_true rfl) ?_
    show wpm φ ad 14 [(0, .ref (ad o))] [] s4
    refine w_aload_n (pc := 14) X dX9_refusal_14 0 rfl ?_
    refine w_aload_n (pc := 15) X dX9_refusal_15 0 rfl ?_
    refine w_getI (pc := 16) X dX9_refusal_16 clO_9 k_o 1 (by decide) rfl fl_9_89 ?_
    obtain ⟨s6, h7, h⟩ := bd1_inv h
    refine w_callV (pc := 19) X dX9_refusal_19 (M9_goEvening h7) k_o (by decide) rfl cw_9_210 ⟨Nat.le_of_ble_eq_true rfl, Nat.le_of_ble_eq_true rfl⟩ rfl rfl (Nat.le_of_ble_eq_true rfl) ?_
    show wpm φ ad 22 [(0, .ref (ad o))] [] s6
    refine w_iconst (pc := 22) X dX9_refusal_22 (v := 0) rfl ?_
    refine w_istore_n (pc := 23) X dX9_refusal_23 1 rfl (by decide) (lv' := [(1, .int (0 : Int32)), (0, .ref (ad o))]) rfl ?_
    obtain ⟨s19, h18, h⟩ := bd1_inv h
    refine w_sub (pc := 24) [1, 0] rfl (WL9_refusal_24 X o k_o FU (0 : Int32) s6 s19 h18 ?_)
    refine w_aload_n (pc := 82) X dX9_refusal_82 0 rfl ?_
    refine w_aload_n (pc := 83) X dX9_refusal_83 0 rfl ?_
    refine w_getI (pc := 84) X dX9_refusal_84 clO_9 k_o 3 (by decide) rfl fl_9_92 ?_
    refine w_putI (pc := 87) X dX9_refusal_87 clO_9 k_o 32 (by decide) rfl rfl (Or.inl rfl) fl_9_213 ?_
    obtain ⟨s20, e_s20, h⟩ := nm_inv h
    refine w_nm e_s20 ?_
    refine w_aload_n (pc := 90) X dX9_refusal_90 0 rfl ?_
    refine w_aload_n (pc := 91) X dX9_refusal_91 0 rfl ?_
    refine w_getI (pc := 92) X dX9_refusal_92 clO_9 k_o 4 (by decide) rfl fl_9_95 ?_
    refine w_putI (pc := 95) X dX9_refusal_95 clO_9 k_o 33 (by decide) rfl rfl (Or.inl rfl) fl_9_216 ?_
    obtain ⟨s21, e_s21, h⟩ := nm_inv h
    refine w_nm e_s21 ?_
    refine w_aload_n (pc := 98) X dX9_refusal_98 0 rfl ?_
    obtain ⟨s22, h23, h⟩ := bd1_inv h
    refine w_callV (pc := 99) X dX9_refusal_99 (M9_putBack h23) k_o (by decide) rfl cw_9_219 ⟨Nat.le_of_ble_eq_true rfl, Nat.le_of_ble_eq_true rfl⟩ rfl rfl (Nat.le_of_ble_eq_true rfl) ?_
    show wpm φ ad 102 [(0, .ref (ad o))] [] s22
    refine w_aload_n (pc := 102) X dX9_refusal_102 0 rfl ?_
    refine w_getI (pc := 103) X dX9_refusal_103 clO_9 k_o 28 (by decide) rfl fl_9_184 ?_
    refine w_if_lt (pc := 106) (tgt := 114) X dX9_refusal_106 (by decide) (fun c24 => ?_) (fun c24 => ?_)
    · replace h := it_pos c24 h
      refine w_bipush (pc := 114) X dX9_refusal_114 (v := (-6)) rfl ?_
      cases h
      exact w_iret X hQ dX9_refusal_116
    · replace h := it_neg c24 h
      refine w_bipush (pc := 109) X dX9_refusal_109 (v := (-3)) rfl ?_
      refine w_goto (tgt := 116) (pc := 111) X dX9_refusal_111 (by decide) ?_
      cases h
      exact w_iret X hQ dX9_refusal_116
  · replace h := it_neg c25 h
    refine w_bipush (pc := 7) X dX9_refusal_7 (v := (-5)) rfl ?_
    cases h
    exact w_iret X hQ dX9_refusal_9
set_option maxRecDepth 20000 in
theorem M9_judge {o : Nat} {a1 : Int32} {s : Sto} {r : Int32} {σ' : Sto} (h : f9_judge o a1 s = some (r, σ')) : Ct yX9_judge cX9_judge 3 (some .int) 5 110 (fun ad => [.ref (ad o), .int a1]) s (fun ad => some (.int r)) σ' := by
  unfold f9_judge at h
  obtain ⟨k_o, h⟩ := gd_inv h
  refine Ct_of (by decide) (fun ad => Nat.le_of_ble_eq_true rfl) (fun φ ad X hQ => ?_)
  show wpm φ ad 0 [(0, .ref (ad o)), (1, .int a1)] [] s
  replace X : Cx φ ad cX9_judge (some .int) RX9 3 5 110 := X
  refine w_iload_n (pc := 0) X dX9_judge_0 1 rfl ?_
  refine w_i2l (pc := 1) X dX9_judge_1 ?_
  refine w_lconst (pc := 2) X dX9_judge_2 (v := 0) rfl ?_
  refine w_ldc2 (pc := 3) X dX9_judge_3 (v := (3)) cn_9_222 ?_
  obtain ⟨r3, s1, h2, h⟩ := bd2_inv h
  refine w_callS (pc := 6) X dX9_judge_6 (M9_in h2) rfl cw_9_101 ⟨Nat.le_of_ble_eq_true rfl, Nat.le_of_ble_eq_true rfl⟩ rfl rfl (Nat.le_of_ble_eq_true rfl) ?_
  show wpm φ ad 9 [(0, .ref (ad o)), (1, .int a1)] [.int r3] s1
  refine w_if_ne (pc := 9) (tgt := 15) X dX9_judge_9 (by decide) (fun c16 => ?_) (fun c16 => ?_)
  · replace h := it_neg c16 h
    refine w_aload_n (pc := 15) X dX9_judge_15 0 rfl ?_
    obtain ⟨r6, s4, h5, h⟩ := bd2_inv h
    refine w_callV (pc := 16) X dX9_judge_16 (M9_refusal h5) k_o (by decide) rfl cw_9_224 ⟨Nat.le_of_ble_eq_true rfl, Nat.le_of_ble_eq_true rfl⟩ rfl rfl (Nat.le_of_ble_eq_true rfl) ?_
    show wpm φ ad 19 [(0, .ref (ad o)), (1, .int a1)] [.int r6] s4
    refine w_istore_n (pc := 19) X dX9_judge_19 2 rfl (by decide) (lv' := [(2, .int r6), (0, .ref (ad o)), (1, .int a1)]) rfl ?_
    refine w_iload_n (pc := 20) X dX9_judge_20 0 rfl ?_
    refine w_bipush (pc := 21) X dX9_judge_21 (v := (-5)) rfl ?_
    refine w_icmp_eq (pc := 23) (tgt := 37) X dX9_judge_23 (by decide) (fun c15 => ?_) (fun c15 => ?_)
    · replace h := it_pos c15 h
      refine w_iload_n (pc := 37) X dX9_judge_37 0 rfl ?_
      cases h
      exact w_iret X hQ dX9_judge_38
    · replace h := it_neg c15 h
      refine w_iload_n (pc := 26) X dX9_judge_26 2 rfl ?_
      refine w_iconst (pc := 27) X dX9_judge_27 (v := 1) rfl ?_
      refine w_icmp_le (pc := 28) (tgt := 39) X dX9_judge_28 (by decide) (fun c14 => ?_) (fun c14 => ?_)
      · replace h := it_pos c14 h
        refine w_iload_n (pc := 39) X dX9_judge_39 2 rfl ?_
        refine w_if_ne (pc := 40) (tgt := 50) X dX9_judge_40 (by decide) (fun c9 => ?_) (fun c9 => ?_)
        · replace h := it_neg c9 h
          refine w_iload_n (pc := 50) X dX9_judge_50 2 rfl ?_
          refine w_iconst (pc := 51) X dX9_judge_51 (v := 1) rfl ?_
          refine w_icmp_ne (pc := 52) (tgt := 62) X dX9_judge_52 (by decide) (fun c8 => ?_) (fun c8 => ?_)
          · replace h := it_neg c8 h
            refine w_iload_n (pc := 62) X dX9_judge_62 2 rfl ?_
            refine w_iconst (pc := 63) X dX9_judge_63 (v := 2) rfl ?_
            refine w_icmp_ne (pc := 64) (tgt := 74) X dX9_judge_64 (by decide) (fun c7 => ?_) (fun c7 => ?_)
            · replace h := it_neg c7 h
              refine w_aload_n (pc := 74) X dX9_judge_74 1 rfl ?_
              refine w_getI (pc := 75) X dX9_judge_75 clO_9 k_o 22 (by decide) rfl fl_9_158 ?_
              cases h
              exact w_iret X hQ dX9_judge_78
            · replace h := it_pos c7 h
              refine w_aload_n (pc := 67) X dX9_judge_67 1 rfl ?_
              refine w_getI (pc := 68) X dX9_judge_68 clO_9 k_o 21 (by decide) rfl fl_9_155 ?_
              refine w_goto (tgt := 78) (pc := 71) X dX9_judge_71 (by decide) ?_
              cases h
              exact w_iret X hQ dX9_judge_78
          · replace h := it_pos c8 h
            refine w_aload_n (pc := 55) X dX9_judge_55 1 rfl ?_
            refine w_getI (pc := 56) X dX9_judge_56 clO_9 k_o 29 (by decide) rfl fl_9_187 ?_
            refine w_goto (tgt := 78) (pc := 59) X dX9_judge_59 (by decide) ?_
            cases h
            exact w_iret X hQ dX9_judge_78
        · replace h := it_pos c9 h
          refine w_aload_n (pc := 43) X dX9_judge_43 1 rfl ?_
          refine w_getI (pc := 44) X dX9_judge_44 clO_9 k_o 28 (by decide) rfl fl_9_184 ?_
          refine w_goto (tgt := 78) (pc := 47) X dX9_judge_47 (by decide) ?_
          cases h
          exact w_iret X hQ dX9_judge_78
      · replace h := it_neg c14 h
        refine w_iload_n (pc := 31) X dX9_judge_31 0 rfl ?_
        refine w_bipush (pc := 32) X dX9_judge_32 (v := (-3)) rfl ?_
        refine w_icmp_ne (pc := 34) (tgt := 39) X dX9_judge_34 (by decide) (fun c13 => ?_) (fun c13 => ?_)
        · replace h := it_neg c13 h
          refine w_iload_n (pc := 39) X dX9_judge_39 2 rfl ?_
          refine w_if_ne (pc := 40) (tgt := 50) X dX9_judge_40 (by decide) (fun c12 => ?_) (fun c12 => ?_)
          · replace h := it_neg c12 h
            refine w_iload_n (pc := 50) X dX9_judge_50 2 rfl ?_
            refine w_iconst (pc := 51) X dX9_judge_51 (v := 1) rfl ?_
            refine w_icmp_ne (pc := 52) (tgt := 62) X dX9_judge_52 (by decide) (fun c11 => ?_) (fun c11 => ?_)
            · replace h := it_neg c11 h
              refine w_iload_n (pc := 62) X dX9_judge_62 2 rfl ?_
              refine w_iconst (pc := 63) X dX9_judge_63 (v := 2) rfl ?_
              refine w_icmp_ne (pc := 64) (tgt := 74) X dX9_judge_64 (by decide) (fun c10 => ?_) (fun c10 => ?_)
              · replace h := it_neg c10 h
                refine w_aload_n (pc := 74) X dX9_judge_74 1 rfl ?_
                refine w_getI (pc := 75) X dX9_judge_75 clO_9 k_o 22 (by decide) rfl fl_9_158 ?_
                cases h
                exact w_iret X hQ dX9_judge_78
              · replace h := it_pos c10 h
                refine w_aload_n (pc := 67) X dX9_judge_67 1 rfl ?_
                refine w_getI (pc := 68) X dX9_judge_68 clO_9 k_o 21 (by decide) rfl fl_9_155 ?_
                refine w_goto (tgt := 78) (pc := 71) X dX9_judge_71 (by decide) ?_
                cases h
                exact w_iret X hQ dX9_judge_78
            · replace h := it_pos c11 h
              refine w_aload_n (pc := 55) X dX9_judge_55 1 rfl ?_
              refine w_getI (pc := 56) X dX9_judge_56 clO_9 k_o 29 (by decide) rfl fl_9_187 ?_
              refine w_goto (tgt := 78) (pc := 59) X dX9_judge_59 (by decide) ?_
              cases h
              exact w_iret X hQ dX9_judge_78
          · replace h := it_pos c12 h
            refine w_aload_n (pc := 43) X dX9_judge_43 1 rfl ?_
            refine w_getI (pc := 44) X dX9_judge_44 clO_9 k_o 28 (by decide) rfl fl_9_184 ?_
            refine w_goto (tgt := 78) (pc := 47) X dX9_judge_47 (by decide) ?_
            cases h
            exact w_iret X hQ dX9_judge_78
        · replace h := it_pos c13 h
          refine w_iload_n (pc := 37) X dX9_judge_37 0 rfl ?_
          cases h
          exact w_iret X hQ dX9_judge_38
  · replace h := it_pos c16 h
    refine w_bipush (pc := 12) X dX9_judge_12 (v := (-2)) rfl ?_
    cases h
    exact w_iret X hQ dX9_judge_14
set_option maxRecDepth 20000 in
theorem M9_behind {o : Nat} {a1 : Int32} {s : Sto} {r : Int32} {σ' : Sto} (h : f9_behind o a1 s = some (r, σ')) : Ct yX9_behind cX9_behind 3 (some .int) 5 110 (fun ad => [.ref (ad o), .int a1]) s (fun ad => some (.int r)) σ' := by
  unfold f9_behind at h
  obtain ⟨k_o, h⟩ := gd_inv h
  refine Ct_of (by decide) (fun ad => Nat.le_of_ble_eq_true rfl) (fun φ ad X hQ => ?_)
  show wpm φ ad 0 [(0, .ref (ad o)), (1, .int a1)] [] s
  replace X : Cx φ ad cX9_behind (some .int) RX9 3 5 110 := X
  refine w_iload_n (pc := 0) X dX9_behind_0 1 rfl ?_
  refine w_i2l (pc := 1) X dX9_behind_1 ?_
  refine w_lconst (pc := 2) X dX9_behind_2 (v := 0) rfl ?_
  refine w_ldc2 (pc := 3) X dX9_behind_3 (v := (3)) cn_9_222 ?_
  obtain ⟨r3, s1, h2, h⟩ := bd2_inv h
  refine w_callS (pc := 6) X dX9_behind_6 (M9_in h2) rfl cw_9_101 ⟨Nat.le_of_ble_eq_true rfl, Nat.le_of_ble_eq_true rfl⟩ rfl rfl (Nat.le_of_ble_eq_true rfl) ?_
  show wpm φ ad 9 [(0, .ref (ad o)), (1, .int a1)] [.int r3] s1
  refine w_if_ne (pc := 9) (tgt := 15) X dX9_behind_9 (by decide) (fun c11 => ?_) (fun c11 => ?_)
  · replace h := it_neg c11 h
    refine w_aload_n (pc := 15) X dX9_behind_15 0 rfl ?_
    obtain ⟨r6, s4, h5, h⟩ := bd2_inv h
    refine w_callV (pc := 16) X dX9_behind_16 (M9_refusal h5) k_o (by decide) rfl cw_9_224 ⟨Nat.le_of_ble_eq_true rfl, Nat.le_of_ble_eq_true rfl⟩ rfl rfl (Nat.le_of_ble_eq_true rfl) ?_
    show wpm φ ad 19 [(0, .ref (ad o)), (1, .int a1)] [.int r6] s4
    refine w_istore_n (pc := 19) X dX9_behind_19 2 rfl (by decide) (lv' := [(2, .int r6), (0, .ref (ad o)), (1, .int a1)]) rfl ?_
    refine w_iload_n (pc := 20) X dX9_behind_20 0 rfl ?_
    refine w_bipush (pc := 21) X dX9_behind_21 (v := (-6)) rfl ?_
    refine w_icmp_eq (pc := 23) (tgt := 28) X dX9_behind_23 (by decide) (fun c10 => ?_) (fun c10 => ?_)
    · replace h := it_pos c10 h
      refine w_iload_n (pc := 28) X dX9_behind_28 2 rfl ?_
      refine w_if_ne (pc := 29) (tgt := 39) X dX9_behind_29 (by decide) (fun c9 => ?_) (fun c9 => ?_)
      · replace h := it_neg c9 h
        refine w_iload_n (pc := 39) X dX9_behind_39 2 rfl ?_
        refine w_iconst (pc := 40) X dX9_behind_40 (v := 1) rfl ?_
        refine w_icmp_ne (pc := 41) (tgt := 51) X dX9_behind_41 (by decide) (fun c8 => ?_) (fun c8 => ?_)
        · replace h := it_neg c8 h
          refine w_iload_n (pc := 51) X dX9_behind_51 2 rfl ?_
          refine w_iconst (pc := 52) X dX9_behind_52 (v := 2) rfl ?_
          refine w_icmp_ne (pc := 53) (tgt := 63) X dX9_behind_53 (by decide) (fun c7 => ?_) (fun c7 => ?_)
          · replace h := it_neg c7 h
            refine w_aload_n (pc := 63) X dX9_behind_63 1 rfl ?_
            refine w_getI (pc := 64) X dX9_behind_64 clO_9 k_o 24 (by decide) rfl fl_9_181 ?_
            cases h
            exact w_iret X hQ dX9_behind_67
          · replace h := it_pos c7 h
            refine w_aload_n (pc := 56) X dX9_behind_56 1 rfl ?_
            refine w_getI (pc := 57) X dX9_behind_57 clO_9 k_o 23 (by decide) rfl fl_9_178 ?_
            refine w_goto (tgt := 67) (pc := 60) X dX9_behind_60 (by decide) ?_
            cases h
            exact w_iret X hQ dX9_behind_67
        · replace h := it_pos c8 h
          refine w_aload_n (pc := 44) X dX9_behind_44 1 rfl ?_
          refine w_getI (pc := 45) X dX9_behind_45 clO_9 k_o 33 (by decide) rfl fl_9_216 ?_
          refine w_goto (tgt := 67) (pc := 48) X dX9_behind_48 (by decide) ?_
          cases h
          exact w_iret X hQ dX9_behind_67
      · replace h := it_pos c9 h
        refine w_aload_n (pc := 32) X dX9_behind_32 1 rfl ?_
        refine w_getI (pc := 33) X dX9_behind_33 clO_9 k_o 32 (by decide) rfl fl_9_213 ?_
        refine w_goto (tgt := 67) (pc := 36) X dX9_behind_36 (by decide) ?_
        cases h
        exact w_iret X hQ dX9_behind_67
    · replace h := it_neg c10 h
      refine w_iload_n (pc := 26) X dX9_behind_26 0 rfl ?_
      cases h
      exact w_iret X hQ dX9_behind_27
  · replace h := it_pos c11 h
    refine w_bipush (pc := 12) X dX9_behind_12 (v := (-2)) rfl ?_
    cases h
    exact w_iret X hQ dX9_behind_14
set_option maxRecDepth 20000 in
theorem M9_row {o : Nat} {a1 : Int32} {a2 : Int32} {s : Sto} {r : Int32} {σ' : Sto} (h : f9_row o a1 a2 s = some (r, σ')) : Ct yX9_row cX9_row 4 (some .int) 5 110 (fun ad => [.ref (ad o), .int a1, .int a2]) s (fun ad => some (.int r)) σ' := by
  unfold f9_row at h
  obtain ⟨k_o, h⟩ := gd_inv h
  refine Ct_of (by decide) (fun ad => Nat.le_of_ble_eq_true rfl) (fun φ ad X hQ => ?_)
  show wpm φ ad 0 [(0, .ref (ad o)), (1, .int a1), (2, .int a2)] [] s
  replace X : Cx φ ad cX9_row (some .int) RX9 4 5 110 := X
  refine w_iload_n (pc := 0) X dX9_row_0 2 rfl ?_
  refine w_i2l (pc := 1) X dX9_row_1 ?_
  refine w_lconst (pc := 2) X dX9_row_2 (v := 0) rfl ?_
  refine w_ldc2 (pc := 3) X dX9_row_3 (v := (2)) cn_9_116 ?_
  obtain ⟨r3, s1, h2, h⟩ := bd2_inv h
  refine w_callS (pc := 6) X dX9_row_6 (M9_in h2) rfl cw_9_101 ⟨Nat.le_of_ble_eq_true rfl, Nat.le_of_ble_eq_true rfl⟩ rfl rfl (Nat.le_of_ble_eq_true rfl) ?_
  show wpm φ ad 9 [(0, .ref (ad o)), (1, .int a1), (2, .int a2)] [.int r3] s1
  refine w_if_ne (pc := 9) (tgt := 15) X dX9_row_9 (by decide) (fun c13 => ?_) (fun c13 => ?_)
  · replace h := it_neg c13 h
    refine w_aload_n (pc := 15) X dX9_row_15 0 rfl ?_
    obtain ⟨r6, s4, h5, h⟩ := bd2_inv h
    refine w_callV (pc := 16) X dX9_row_16 (M9_refusal h5) k_o (by decide) rfl cw_9_224 ⟨Nat.le_of_ble_eq_true rfl, Nat.le_of_ble_eq_true rfl⟩ rfl rfl (Nat.le_of_ble_eq_true rfl) ?_
    show wpm φ ad 19 [(0, .ref (ad o)), (1, .int a1), (2, .int a2)] [.int r6] s4
    refine w_istore_n (pc := 19) X dX9_row_19 3 rfl (by decide) (lv' := [(3, .int r6), (0, .ref (ad o)), (1, .int a1), (2, .int a2)]) rfl ?_
    refine w_iload_n (pc := 20) X dX9_row_20 0 rfl ?_
    refine w_bipush (pc := 21) X dX9_row_21 (v := (-6)) rfl ?_
    refine w_icmp_eq (pc := 23) (tgt := 28) X dX9_row_23 (by decide) (fun c12 => ?_) (fun c12 => ?_)
    · replace h := it_pos c12 h
      refine w_iload_n (pc := 28) X dX9_row_28 2 rfl ?_
      refine w_i2l (pc := 29) X dX9_row_29 ?_
      refine w_lconst (pc := 30) X dX9_row_30 (v := 0) rfl ?_
      refine w_aload_n (pc := 31) X dX9_row_31 1 rfl ?_
      refine w_getI (pc := 32) X dX9_row_32 clO_9 k_o 32 (by decide) rfl fl_9_213 ?_
      refine w_iconst (pc := 35) X dX9_row_35 (v := 1) rfl ?_
      refine w_isub (pc := 36) X dX9_row_36 ?_
      refine w_i2l (pc := 37) X dX9_row_37 ?_
      obtain ⟨r9, s7, h8, h⟩ := bd2_inv h
      refine w_callS (pc := 38) X dX9_row_38 (M9_in h8) rfl cw_9_101 ⟨Nat.le_of_ble_eq_true rfl, Nat.le_of_ble_eq_true rfl⟩ rfl rfl (Nat.le_of_ble_eq_true rfl) ?_
      show wpm φ ad 41 [(3, .int r6), (0, .ref (ad o)), (1, .int a1), (2, .int a2)] [.int r9] s7
      refine w_if_eq (pc := 41) (tgt := 57) X dX9_row_41 (by decide) (fun c11 => ?_) (fun c11 => ?_)
      · replace h := it_pos c11 h
        refine w_iconst (pc := 57) X dX9_row_57 (v := (-1)) rfl ?_
        cases h
        exact w_iret X hQ dX9_row_58
      · replace h := it_neg c11 h
        refine w_aload_n (pc := 44) X dX9_row_44 1 rfl ?_
        refine w_getR (pc := 45) X dX9_row_45 clO_9 k_o 31 (by decide) (d := 16) rfl fl_9_55 ?_
        refine w_iconst (pc := 48) X dX9_row_48 (v := 3) rfl ?_
        refine w_iload_n (pc := 49) X dX9_row_49 2 rfl ?_
        refine w_imul (pc := 50) X dX9_row_50 ?_
        refine w_iload_n (pc := 51) X dX9_row_51 3 rfl ?_
        refine w_iadd (pc := 52) X dX9_row_52 ?_
        obtain ⟨g10, h⟩ := gd_inv h
        refine w_iald (pc := 53) X dX9_row_53 (kp_9_16 k_o) g10 ?_
        refine w_goto (tgt := 58) (pc := 54) X dX9_row_54 (by decide) ?_
        cases h
        exact w_iret X hQ dX9_row_58
    · replace h := it_neg c12 h
      refine w_iload_n (pc := 26) X dX9_row_26 0 rfl ?_
      cases h
      exact w_iret X hQ dX9_row_27
  · replace h := it_pos c13 h
    refine w_bipush (pc := 12) X dX9_row_12 (v := (-2)) rfl ?_
    cases h
    exact w_iret X hQ dX9_row_14
set_option maxRecDepth 20000 in
theorem M9_lost {o : Nat} {a1 : Int32} {s : Sto} {r : Int32} {σ' : Sto} (h : f9_lost o a1 s = some (r, σ')) : Ct yX9_lost cX9_lost 3 (some .int) 5 110 (fun ad => [.ref (ad o), .int a1]) s (fun ad => some (.int r)) σ' := by
  unfold f9_lost at h
  obtain ⟨k_o, h⟩ := gd_inv h
  refine Ct_of (by decide) (fun ad => Nat.le_of_ble_eq_true rfl) (fun φ ad X hQ => ?_)
  show wpm φ ad 0 [(0, .ref (ad o)), (1, .int a1)] [] s
  replace X : Cx φ ad cX9_lost (some .int) RX9 3 5 110 := X
  refine w_aload_n (pc := 0) X dX9_lost_0 0 rfl ?_
  refine w_iload_n (pc := 1) X dX9_lost_1 1 rfl ?_
  obtain ⟨r3, s1, h2, h⟩ := bd2_inv h
  refine w_callV (pc := 2) X dX9_lost_2 (M9_isRow h2) k_o (by decide) rfl cw_9_227 ⟨Nat.le_of_ble_eq_true rfl, Nat.le_of_ble_eq_true rfl⟩ rfl rfl (Nat.le_of_ble_eq_true rfl) ?_
  show wpm φ ad 5 [(0, .ref (ad o)), (1, .int a1)] [.int r3] s1
  refine w_if_ne (pc := 5) (tgt := 10) X dX9_lost_5 (by decide) (fun c9 => ?_) (fun c9 => ?_)
  · replace h := it_neg c9 h
    refine w_aload_n (pc := 10) X dX9_lost_10 0 rfl ?_
    obtain ⟨r6, s4, h5, h⟩ := bd2_inv h
    refine w_callV (pc := 11) X dX9_lost_11 (M9_refusal h5) k_o (by decide) rfl cw_9_224 ⟨Nat.le_of_ble_eq_true rfl, Nat.le_of_ble_eq_true rfl⟩ rfl rfl (Nat.le_of_ble_eq_true rfl) ?_
    show wpm φ ad 14 [(0, .ref (ad o)), (1, .int a1)] [.int r6] s4
    refine w_istore_n (pc := 14) X dX9_lost_14 2 rfl (by decide) (lv' := [(2, .int r6), (0, .ref (ad o)), (1, .int a1)]) rfl ?_
    refine w_iload_n (pc := 15) X dX9_lost_15 0 rfl ?_
    refine w_bipush (pc := 16) X dX9_lost_16 (v := (-6)) rfl ?_
    refine w_icmp_eq (pc := 18) (tgt := 25) X dX9_lost_18 (by decide) (fun c8 => ?_) (fun c8 => ?_)
    · replace h := it_pos c8 h
      refine w_aload_n (pc := 25) X dX9_lost_25 1 rfl ?_
      refine w_getR (pc := 26) X dX9_lost_26 clO_9 k_o 26 (by decide) (d := 14) rfl fl_9_49 ?_
      refine w_iload_n (pc := 29) X dX9_lost_29 2 rfl ?_
      obtain ⟨g7, h⟩ := gd_inv h
      refine w_iald (pc := 30) X dX9_lost_30 (kp_9_14 k_o) g7 ?_
      cases h
      exact w_iret X hQ dX9_lost_31
    · replace h := it_neg c8 h
      refine w_iload_n (pc := 21) X dX9_lost_21 0 rfl ?_
      refine w_goto (tgt := 31) (pc := 22) X dX9_lost_22 (by decide) ?_
      cases h
      exact w_iret X hQ dX9_lost_31
  · replace h := it_pos c9 h
    refine w_iconst (pc := 8) X dX9_lost_8 (v := (-1)) rfl ?_
    cases h
    exact w_iret X hQ dX9_lost_9
set_option maxRecDepth 20000 in
theorem M9_done {o : Nat} {s : Sto} {r : Int32} {σ' : Sto} (h : f9_done o s = some (r, σ')) : Ct yX9_done cX9_done 2 (some .int) 5 110 (fun ad => [.ref (ad o)]) s (fun ad => some (.int r)) σ' := by
  unfold f9_done at h
  obtain ⟨k_o, h⟩ := gd_inv h
  refine Ct_of (by decide) (fun ad => Nat.le_of_ble_eq_true rfl) (fun φ ad X hQ => ?_)
  show wpm φ ad 0 [(0, .ref (ad o))] [] s
  replace X : Cx φ ad cX9_done (some .int) RX9 2 5 110 := X
  refine w_aload_n (pc := 0) X dX9_done_0 0 rfl ?_
  obtain ⟨r3, s1, h2, h⟩ := bd2_inv h
  refine w_callV (pc := 1) X dX9_done_1 (M9_refusal h2) k_o (by decide) rfl cw_9_224 ⟨Nat.le_of_ble_eq_true rfl, Nat.le_of_ble_eq_true rfl⟩ rfl rfl (Nat.le_of_ble_eq_true rfl) ?_
  show wpm φ ad 4 [(0, .ref (ad o))] [.int r3] s1
  refine w_istore_n (pc := 4) X dX9_done_4 1 rfl (by decide) (lv' := [(1, .int r3), (0, .ref (ad o))]) rfl ?_
  refine w_iload_n (pc := 5) X dX9_done_5 0 rfl ?_
  refine w_bipush (pc := 6) X dX9_done_6 (v := (-6)) rfl ?_
  refine w_icmp_eq (pc := 8) (tgt := 13) X dX9_done_8 (by decide) (fun c7 => ?_) (fun c7 => ?_)
  · replace h := it_pos c7 h
    refine w_aload_n (pc := 13) X dX9_done_13 1 rfl ?_
    refine w_aload_n (pc := 14) X dX9_done_14 1 rfl ?_
    refine w_getI (pc := 15) X dX9_done_15 clO_9 k_o 1 (by decide) rfl fl_9_89 ?_
    obtain ⟨s4, h5, h⟩ := bd1_inv h
    refine w_callV (pc := 18) X dX9_done_18 (M9_goEvening h5) k_o (by decide) rfl cw_9_210 ⟨Nat.le_of_ble_eq_true rfl, Nat.le_of_ble_eq_true rfl⟩ rfl rfl (Nat.le_of_ble_eq_true rfl) ?_
    show wpm φ ad 21 [(1, .int r3), (0, .ref (ad o))] [] s4
    refine w_aload_n (pc := 21) X dX9_done_21 1 rfl ?_
    refine w_iconst (pc := 22) X dX9_done_22 (v := 0) rfl ?_
    refine w_putI (pc := 23) X dX9_done_23 clO_9 k_o 12 (by decide) rfl rfl (Or.inl rfl) fl_9_124 ?_
    obtain ⟨s6, e_s6, h⟩ := nm_inv h
    refine w_nm e_s6 ?_
    refine w_aload_n (pc := 26) X dX9_done_26 1 rfl ?_
    refine w_getI (pc := 27) X dX9_done_27 clO_9 k_o 17 (by decide) rfl fl_9_127 ?_
    cases h
    exact w_iret X hQ dX9_done_30
  · replace h := it_neg c7 h
    refine w_iload_n (pc := 11) X dX9_done_11 0 rfl ?_
    cases h
    exact w_iret X hQ dX9_done_12
set_option maxRecDepth 20000 in
theorem M9_state {o : Nat} {a1 : Int32} {a2 : Int32} {s : Sto} {r : Int32} {σ' : Sto} (h : f9_state o a1 a2 s = some (r, σ')) : Ct yX9_state cX9_state 3 (some .int) 2 46 (fun ad => [.ref (ad o), .int a1, .int a2]) s (fun ad => some (.int r)) σ' := by
  unfold f9_state at h
  obtain ⟨k_o, h⟩ := gd_inv h
  refine Ct_of (by decide) (fun ad => Nat.le_of_ble_eq_true rfl) (fun φ ad X hQ => ?_)
  show wpm φ ad 0 [(0, .ref (ad o)), (1, .int a1), (2, .int a2)] [] s
  replace X : Cx φ ad cX9_state (some .int) RX9 3 2 46 := X
  refine w_aload_n (pc := 0) X dX9_state_0 0 rfl ?_
  refine w_iload_n (pc := 1) X dX9_state_1 1 rfl ?_
  obtain ⟨r3, s1, h2, h⟩ := bd2_inv h
  refine w_callV (pc := 2) X dX9_state_2 (M9_isRow h2) k_o (by decide) rfl cw_9_227 ⟨Nat.le_of_ble_eq_true rfl, Nat.le_of_ble_eq_true rfl⟩ rfl rfl (Nat.le_of_ble_eq_true rfl) ?_
  show wpm φ ad 5 [(0, .ref (ad o)), (1, .int a1), (2, .int a2)] [.int r3] s1
  refine w_if_ne (pc := 5) (tgt := 10) X dX9_state_5 (by decide) (fun c10 => ?_) (fun c10 => ?_)
  · replace h := it_neg c10 h
    refine w_iload_n (pc := 10) X dX9_state_10 2 rfl ?_
    refine w_if_ne (pc := 11) (tgt := 23) X dX9_state_11 (by decide) (fun c9 => ?_) (fun c9 => ?_)
    · replace h := it_neg c9 h
      refine w_iload_n (pc := 23) X dX9_state_23 2 rfl ?_
      refine w_iconst (pc := 24) X dX9_state_24 (v := 1) rfl ?_
      refine w_icmp_ne (pc := 25) (tgt := 37) X dX9_state_25 (by decide) (fun c7 => ?_) (fun c7 => ?_)
      · replace h := it_neg c7 h
        refine w_iload_n (pc := 37) X dX9_state_37 2 rfl ?_
        refine w_iconst (pc := 38) X dX9_state_38 (v := 2) rfl ?_
        refine w_icmp_ne (pc := 39) (tgt := 51) X dX9_state_39 (by decide) (fun c5 => ?_) (fun c5 => ?_)
        · replace h := it_neg c5 h
          refine w_bipush (pc := 51) X dX9_state_51 (v := (-2)) rfl ?_
          cases h
          exact w_iret X hQ dX9_state_53
        · replace h := it_pos c5 h
          refine w_aload_n (pc := 42) X dX9_state_42 0 rfl ?_
          refine w_getR (pc := 43) X dX9_state_43 clO_9 k_o 7 (by decide) (d := 4) rfl fl_9_19 ?_
          refine w_iload_n (pc := 46) X dX9_state_46 1 rfl ?_
          obtain ⟨g4, h⟩ := gd_inv h
          refine w_iald (pc := 47) X dX9_state_47 (kp_9_4 k_o) g4 ?_
          refine w_goto (tgt := 53) (pc := 48) X dX9_state_48 (by decide) ?_
          cases h
          exact w_iret X hQ dX9_state_53
      · replace h := it_pos c7 h
        refine w_aload_n (pc := 28) X dX9_state_28 0 rfl ?_
        refine w_getR (pc := 29) X dX9_state_29 clO_9 k_o 6 (by decide) (d := 3) rfl fl_9_16 ?_
        refine w_iload_n (pc := 32) X dX9_state_32 1 rfl ?_
        obtain ⟨g6, h⟩ := gd_inv h
        refine w_iald (pc := 33) X dX9_state_33 (kp_9_3 k_o) g6 ?_
        refine w_goto (tgt := 53) (pc := 34) X dX9_state_34 (by decide) ?_
        cases h
        exact w_iret X hQ dX9_state_53
    · replace h := it_pos c9 h
      refine w_aload_n (pc := 14) X dX9_state_14 0 rfl ?_
      refine w_getR (pc := 15) X dX9_state_15 clO_9 k_o 5 (by decide) (d := 2) rfl fl_9_13 ?_
      refine w_iload_n (pc := 18) X dX9_state_18 1 rfl ?_
      obtain ⟨g8, h⟩ := gd_inv h
      refine w_iald (pc := 19) X dX9_state_19 (kp_9_2 k_o) g8 ?_
      refine w_goto (tgt := 53) (pc := 20) X dX9_state_20 (by decide) ?_
      cases h
      exact w_iret X hQ dX9_state_53
  · replace h := it_pos c10 h
    refine w_iconst (pc := 8) X dX9_state_8 (v := (-1)) rfl ?_
    cases h
    exact w_iret X hQ dX9_state_9
set_option maxRecDepth 20000 in
theorem WL9_canTell_4 {φ : Fr} {ad : Nat → Nat} (X : Cx φ ad cX9_canTell (some .boolean) RX9 3 0 0) (o : Nat) (s : Sto) (k_o : kd o = 9) : ∀ (fuel : Nat) (v1 : Int32) (v2 : Int32) (t1 : Int32), L9_canTell_4 o s fuel v1 v2 = some (t1) → wpm φ ad 36 [(1, .int t1)] [] s → wpm φ ad 4 [(0, .ref (ad o)), (1, .int v1), (2, .int v2)] [] s := by
  intro fuel
  induction fuel with
  | zero => intro v1 v2 t1 h; cases h
  | succ fuel ih =>
    intro v1 v2 t1 h K
    unfold L9_canTell_4 at h
    refine w_iload_n (pc := 4) X dX9_canTell_4 2 rfl ?_
    refine w_bipush (pc := 5) X dX9_canTell_5 (v := (6)) rfl ?_
    refine w_icmp_ge (pc := 7) (tgt := 36) X dX9_canTell_7 (by decide) (fun c4 => ?_) (fun c4 => ?_)
    · replace h := it_pos c4 h
      cases h
      exact w_sub (pc := 36) [1] rfl K
    · replace h := it_neg c4 h
      refine w_iload_n (pc := 10) X dX9_canTell_10 1 rfl ?_
      refine w_if_ne (pc := 11) (tgt := 24) X dX9_canTell_11 (by decide) (fun c3 => ?_) (fun c3 => ?_)
      · replace h := it_neg c3 h
        refine w_iconst (pc := 24) X dX9_canTell_24 (v := 1) rfl ?_
        refine w_goto (tgt := 29) (pc := 25) X dX9_canTell_25 (by decide) ?_
        refine w_istore_n (pc := 29) X dX9_canTell_29 1 rfl (by decide) (lv' := [(1, .int (1 : Int32)), (0, .ref (ad o)), (2, .int v2)]) rfl ?_
        refine w_iinc (pc := 30) X dX9_canTell_30 2 rfl (v := (v2 + 1)) rfl (by decide) (lv' := [(2, .int (v2 + 1)), (1, .int (1 : Int32)), (0, .ref (ad o))]) rfl ?_
        refine w_goto (tgt := 4) (pc := 33) X dX9_canTell_33 (by decide) ?_
        exact w_sub (pc := 4) [2, 1, 0] rfl (ih _ _ _ h K)
      · replace h := it_pos c3 h
        refine w_aload_n (pc := 14) X dX9_canTell_14 0 rfl ?_
        refine w_getR (pc := 15) X dX9_canTell_15 clO_9 k_o 2 (by decide) (d := 1) rfl fl_9_7 ?_
        refine w_iload_n (pc := 18) X dX9_canTell_18 2 rfl ?_
        obtain ⟨g1, h⟩ := gd_inv h
        refine w_iald (pc := 19) X dX9_canTell_19 (kp_9_1 k_o) g1 ?_
        refine w_iconst (pc := 20) X dX9_canTell_20 (v := 2) rfl ?_
        refine w_icmp_eq (pc := 21) (tgt := 28) X dX9_canTell_21 (by decide) (fun c2 => ?_) (fun c2 => ?_)
        · replace h := it_pos c2 h
          refine w_iconst (pc := 28) X dX9_canTell_28 (v := 0) rfl ?_
          refine w_istore_n (pc := 29) X dX9_canTell_29 1 rfl (by decide) (lv' := [(1, .int (0 : Int32)), (0, .ref (ad o)), (2, .int v2)]) rfl ?_
          refine w_iinc (pc := 30) X dX9_canTell_30 2 rfl (v := (v2 + 1)) rfl (by decide) (lv' := [(2, .int (v2 + 1)), (1, .int (0 : Int32)), (0, .ref (ad o))]) rfl ?_
          refine w_goto (tgt := 4) (pc := 33) X dX9_canTell_33 (by decide) ?_
          exact w_sub (pc := 4) [2, 1, 0] rfl (ih _ _ _ h K)
        · replace h := it_neg c2 h
          refine w_iconst (pc := 24) X dX9_canTell_24 (v := 1) rfl ?_
          refine w_goto (tgt := 29) (pc := 25) X dX9_canTell_25 (by decide) ?_
          refine w_istore_n (pc := 29) X dX9_canTell_29 1 rfl (by decide) (lv' := [(1, .int (1 : Int32)), (0, .ref (ad o)), (2, .int v2)]) rfl ?_
          refine w_iinc (pc := 30) X dX9_canTell_30 2 rfl (v := (v2 + 1)) rfl (by decide) (lv' := [(2, .int (v2 + 1)), (1, .int (1 : Int32)), (0, .ref (ad o))]) rfl ?_
          refine w_goto (tgt := 4) (pc := 33) X dX9_canTell_33 (by decide) ?_
          exact w_sub (pc := 4) [2, 1, 0] rfl (ih _ _ _ h K)
set_option maxRecDepth 20000 in
theorem M9_canTell {o : Nat} {s : Sto} {r : Int32} {σ' : Sto} (h : f9_canTell o s = some (r, σ')) : Ct yX9_canTell cX9_canTell 3 (some .boolean) 0 0 (fun ad => [.ref (ad o)]) s (fun ad => some (.int r)) σ' := by
  unfold f9_canTell at h
  obtain ⟨k_o, h⟩ := gd_inv h
  refine Ct_of (by decide) (fun ad => Nat.le_of_ble_eq_true rfl) (fun φ ad X hQ => ?_)
  show wpm φ ad 0 [(0, .ref (ad o))] [] s
  replace X : Cx φ ad cX9_canTell (some .boolean) RX9 3 0 0 := X
  refine w_iconst (pc := 0) X dX9_canTell_0 (v := 0) rfl ?_
  refine w_istore_n (pc := 1) X dX9_canTell_1 1 rfl (by decide) (lv' := [(1, .int (0 : Int32)), (0, .ref (ad o))]) rfl ?_
  refine w_iconst (pc := 2) X dX9_canTell_2 (v := 0) rfl ?_
  refine w_istore_n (pc := 3) X dX9_canTell_3 2 rfl (by decide) (lv' := [(2, .int (0 : Int32)), (1, .int (0 : Int32)), (0, .ref (ad o))]) rfl ?_
  obtain ⟨y6, h5, h⟩ := bd1_inv h
  refine w_sub (pc := 4) [2, 1, 0] rfl (WL9_canTell_4 X o s k_o FU (0 : Int32) (0 : Int32) y6 h5 ?_)
  refine w_iload_n (pc := 36) X dX9_canTell_36 0 rfl ?_
  obtain ⟨g7, h⟩ := gd_inv h
  cases h
  exact w_zret X hQ dX9_canTell_37 g7
set_option maxRecDepth 20000 in
theorem WL9_alikeUpTo_2 {φ : Fr} {ad : Nat → Nat} (X : Cx φ ad cX9_alikeUpTo (some .int) RX9 3 0 0) (o : Nat) (a1 : Int32) (s : Sto) (k_o : kd o = 9) : ∀ (fuel : Nat) (v2 : Int32) (t2 : Int32), L9_alikeUpTo_2 o a1 s fuel v2 = some (t2) → wpm φ ad 51 [(2, .int t2)] [] s → wpm φ ad 2 [(0, .ref (ad o)), (1, .int a1), (2, .int v2)] [] s := by
  intro fuel
  induction fuel with
  | zero => intro v2 t2 h; cases h
  | succ fuel ih =>
    intro v2 t2 h K
    unfold L9_alikeUpTo_2 at h
    refine w_iload_n (pc := 2) X dX9_alikeUpTo_2 2 rfl ?_
    refine w_iload_n (pc := 3) X dX9_alikeUpTo_3 1 rfl ?_
    refine w_icmp_ge (pc := 4) (tgt := 51) X dX9_alikeUpTo_4 (by decide) (fun c8 => ?_) (fun c8 => ?_)
    · replace h := it_pos c8 h
      cases h
      exact w_sub (pc := 51) [2] rfl K
    · replace h := it_neg c8 h
      refine w_iload_n (pc := 7) X dX9_alikeUpTo_7 2 rfl ?_
      refine w_aload_n (pc := 8) X dX9_alikeUpTo_8 0 rfl ?_
      refine w_getI (pc := 9) X dX9_alikeUpTo_9 clO_9 k_o 3 (by decide) rfl fl_9_92 ?_
      refine w_icmp_ge (pc := 12) (tgt := 51) X dX9_alikeUpTo_12 (by decide) (fun c7 => ?_) (fun c7 => ?_)
      · replace h := it_pos c7 h
        cases h
        exact w_sub (pc := 51) [2] rfl K
      · replace h := it_neg c7 h
        refine w_aload_n (pc := 15) X dX9_alikeUpTo_15 0 rfl ?_
        refine w_getR (pc := 16) X dX9_alikeUpTo_16 clO_9 k_o 5 (by decide) (d := 2) rfl fl_9_13 ?_
        refine w_iload_n (pc := 19) X dX9_alikeUpTo_19 2 rfl ?_
        obtain ⟨g1, h⟩ := gd_inv h
        refine w_iald (pc := 20) X dX9_alikeUpTo_20 (kp_9_2 k_o) g1 ?_
        refine w_aload_n (pc := 21) X dX9_alikeUpTo_21 0 rfl ?_
        refine w_getR (pc := 22) X dX9_alikeUpTo_22 clO_9 k_o 18 (by decide) (d := 12) rfl fl_9_43 ?_
        refine w_iload_n (pc := 25) X dX9_alikeUpTo_25 2 rfl ?_
        obtain ⟨g2, h⟩ := gd_inv h
        refine w_iald (pc := 26) X dX9_alikeUpTo_26 (kp_9_12 k_o) g2 ?_
        refine w_icmp_ne (pc := 27) (tgt := 51) X dX9_alikeUpTo_27 (by decide) (fun c6 => ?_) (fun c6 => ?_)
        · replace h := it_neg c6 h
          cases h
          exact w_sub (pc := 51) [2] rfl K
        · replace h := it_pos c6 h
          refine w_aload_n (pc := 30) X dX9_alikeUpTo_30 0 rfl ?_
          refine w_getR (pc := 31) X dX9_alikeUpTo_31 clO_9 k_o 6 (by decide) (d := 3) rfl fl_9_16 ?_
          refine w_iload_n (pc := 34) X dX9_alikeUpTo_34 2 rfl ?_
          obtain ⟨g3, h⟩ := gd_inv h
          refine w_iald (pc := 35) X dX9_alikeUpTo_35 (kp_9_3 k_o) g3 ?_
          refine w_aload_n (pc := 36) X dX9_alikeUpTo_36 0 rfl ?_
          refine w_getR (pc := 37) X dX9_alikeUpTo_37 clO_9 k_o 19 (by decide) (d := 13) rfl fl_9_46 ?_
          refine w_iload_n (pc := 40) X dX9_alikeUpTo_40 2 rfl ?_
          obtain ⟨g4, h⟩ := gd_inv h
          refine w_iald (pc := 41) X dX9_alikeUpTo_41 (kp_9_13 k_o) g4 ?_
          refine w_icmp_ne (pc := 42) (tgt := 51) X dX9_alikeUpTo_42 (by decide) (fun c5 => ?_) (fun c5 => ?_)
          · replace h := it_neg c5 h
            cases h
            exact w_sub (pc := 51) [2] rfl K
          · replace h := it_pos c5 h
            refine w_iinc (pc := 45) X dX9_alikeUpTo_45 2 rfl (v := (v2 + 1)) rfl (by decide) (lv' := [(2, .int (v2 + 1)), (0, .ref (ad o)), (1, .int a1)]) rfl ?_
            refine w_goto (tgt := 2) (pc := 48) X dX9_alikeUpTo_48 (by decide) ?_
            exact w_sub (pc := 2) [1, 2, 0] rfl (ih _ _ h K)
set_option maxRecDepth 20000 in
theorem M9_alikeUpTo {o : Nat} {a1 : Int32} {s : Sto} {r : Int32} {σ' : Sto} (h : f9_alikeUpTo o a1 s = some (r, σ')) : Ct yX9_alikeUpTo cX9_alikeUpTo 3 (some .int) 0 0 (fun ad => [.ref (ad o), .int a1]) s (fun ad => some (.int r)) σ' := by
  unfold f9_alikeUpTo at h
  obtain ⟨k_o, h⟩ := gd_inv h
  refine Ct_of (by decide) (fun ad => Nat.le_of_ble_eq_true rfl) (fun φ ad X hQ => ?_)
  show wpm φ ad 0 [(0, .ref (ad o)), (1, .int a1)] [] s
  replace X : Cx φ ad cX9_alikeUpTo (some .int) RX9 3 0 0 := X
  refine w_iconst (pc := 0) X dX9_alikeUpTo_0 (v := 0) rfl ?_
  refine w_istore_n (pc := 1) X dX9_alikeUpTo_1 2 rfl (by decide) (lv' := [(2, .int (0 : Int32)), (0, .ref (ad o)), (1, .int a1)]) rfl ?_
  obtain ⟨y10, h9, h⟩ := bd1_inv h
  refine w_sub (pc := 2) [1, 2, 0] rfl (WL9_alikeUpTo_2 X o a1 s k_o FU (0 : Int32) y10 h9 ?_)
  refine w_iload_n (pc := 51) X dX9_alikeUpTo_51 0 rfl ?_
  cases h
  exact w_iret X hQ dX9_alikeUpTo_52
set_option maxRecDepth 20000 in
theorem WL9_findDown_2 {φ : Fr} {ad : Nat → Nat} (X : Cx φ ad cX9_findDown none RX9 5 1 22) (o : Nat) (k_o : kd o = 9) : ∀ (fuel : Nat) (v1 : Int32) (s : Sto)  (t : Sto), L9_findDown_2 o fuel v1 s = some (t) → wpm φ ad 34 [(0, .ref (ad o))] [] t → wpm φ ad 2 [(0, .ref (ad o)), (1, .int v1)] [] s := by
  intro fuel
  induction fuel with
  | zero => intro v1 s t h; cases h
  | succ fuel ih =>
    intro v1 s t h K
    unfold L9_findDown_2 at h
    refine w_iload_n (pc := 2) X dX9_findDown_2 1 rfl ?_
    refine w_bipush (pc := 3) X dX9_findDown_3 (v := (30)) rfl ?_
    refine w_icmp_gt (pc := 5) (tgt := 34) X dX9_findDown_5 (by decide) (fun c6 => ?_) (fun c6 => ?_)
    · replace h := it_pos c6 h
      cases h
      exact w_sub (pc := 34) [0] rfl K
    · replace h := it_neg c6 h
      refine w_aload_n (pc := 8) X dX9_findDown_8 0 rfl ?_
      refine w_getR (pc := 9) X dX9_findDown_9 clO_9 k_o 34 (by decide) (d := 17) rfl fl_9_58 ?_
      refine w_iload_n (pc := 12) X dX9_findDown_12 1 rfl ?_
      refine w_iload_n (pc := 13) X dX9_findDown_13 1 rfl ?_
      refine w_aload_n (pc := 14) X dX9_findDown_14 0 rfl ?_
      refine w_getI (pc := 15) X dX9_findDown_15 clO_9 k_o 3 (by decide) rfl fl_9_92 ?_
      refine w_icmp_ne (pc := 18) (tgt := 25) X dX9_findDown_18 (by decide) (fun c5 => ?_) (fun c5 => ?_)
      · replace h := it_neg c5 h
        refine w_ldc (pc := 25) X dX9_findDown_25 (v := (1000000)) cn_9_230 ?_
        obtain ⟨g1, h⟩ := gd_inv h
        refine w_iast (pc := 27) X dX9_findDown_27 (kp_9_17 k_o) g1 ?_
        obtain ⟨s2, e_s2, h⟩ := nm_inv h
        refine w_nm e_s2 ?_
        refine w_iinc (pc := 28) X dX9_findDown_28 1 rfl (v := (v1 + 1)) rfl (by decide) (lv' := [(1, .int (v1 + 1)), (0, .ref (ad o))]) rfl ?_
        refine w_goto (tgt := 2) (pc := 31) X dX9_findDown_31 (by decide) ?_
        exact w_sub (pc := 2) [1, 0] rfl (ih _ _ _ h K)
      · replace h := it_pos c5 h
        refine w_iconst (pc := 21) X dX9_findDown_21 (v := 0) rfl ?_
        refine w_goto (tgt := 27) (pc := 22) X dX9_findDown_22 (by decide) ?_
        obtain ⟨g3, h⟩ := gd_inv h
        refine w_iast (pc := 27) X dX9_findDown_27 (kp_9_17 k_o) g3 ?_
        obtain ⟨s4, e_s4, h⟩ := nm_inv h
        refine w_nm e_s4 ?_
        refine w_iinc (pc := 28) X dX9_findDown_28 1 rfl (v := (v1 + 1)) rfl (by decide) (lv' := [(1, .int (v1 + 1)), (0, .ref (ad o))]) rfl ?_
        refine w_goto (tgt := 2) (pc := 31) X dX9_findDown_31 (by decide) ?_
        exact w_sub (pc := 2) [1, 0] rfl (ih _ _ _ h K)
set_option maxRecDepth 20000 in
theorem WL9_findDown_52 {φ : Fr} {ad : Nat → Nat} (X : Cx φ ad cX9_findDown none RX9 5 1 22) (o : Nat) (a1 : Int32) (a2 : Int32) (s : Sto) (k_o : kd o = 9) : ∀ (fuel : Nat) (v3 : Int32) (t3 : Int32), L9_findDown_52 o a1 a2 s fuel v3 = some (t3) → wpm φ ad 81 [(0, .ref (ad o)), (1, .int a1), (2, .int a2), (3, .int t3)] [] s → wpm φ ad 52 [(0, .ref (ad o)), (1, .int a1), (2, .int a2), (3, .int v3)] [] s := by
  intro fuel
  induction fuel with
  | zero => intro v3 t3 h; cases h
  | succ fuel ih =>
    intro v3 t3 h K
    unfold L9_findDown_52 at h
    refine w_iload_n (pc := 52) X dX9_findDown_52 3 rfl ?_
    refine w_if_le (pc := 53) (tgt := 81) X dX9_findDown_53 (by decide) (fun c15 => ?_) (fun c15 => ?_)
    · replace h := it_pos c15 h
      cases h
      exact w_sub (pc := 81) [0, 1, 2, 3] rfl K
    · replace h := it_neg c15 h
      refine w_aload_n (pc := 56) X dX9_findDown_56 0 rfl ?_
      refine w_getR (pc := 57) X dX9_findDown_57 clO_9 k_o 5 (by decide) (d := 2) rfl fl_9_13 ?_
      refine w_iload_n (pc := 60) X dX9_findDown_60 3 rfl ?_
      refine w_iconst (pc := 61) X dX9_findDown_61 (v := 1) rfl ?_
      refine w_isub (pc := 62) X dX9_findDown_62 ?_
      obtain ⟨g12, h⟩ := gd_inv h
      refine w_iald (pc := 63) X dX9_findDown_63 (kp_9_2 k_o) g12 ?_
      refine w_aload_n (pc := 64) X dX9_findDown_64 0 rfl ?_
      refine w_getR (pc := 65) X dX9_findDown_65 clO_9 k_o 5 (by decide) (d := 2) rfl fl_9_13 ?_
      refine w_iload_n (pc := 68) X dX9_findDown_68 2 rfl ?_
      refine w_iconst (pc := 69) X dX9_findDown_69 (v := 1) rfl ?_
      refine w_isub (pc := 70) X dX9_findDown_70 ?_
      obtain ⟨g13, h⟩ := gd_inv h
      refine w_iald (pc := 71) X dX9_findDown_71 (kp_9_2 k_o) g13 ?_
      refine w_icmp_ne (pc := 72) (tgt := 81) X dX9_findDown_72 (by decide) (fun c14 => ?_) (fun c14 => ?_)
      · replace h := it_neg c14 h
        cases h
        exact w_sub (pc := 81) [0, 1, 2, 3] rfl K
      · replace h := it_pos c14 h
        refine w_iinc (pc := 75) X dX9_findDown_75 3 rfl (v := (v3 + (-1))) rfl (by decide) (lv' := [(3, .int (v3 + (-1))), (0, .ref (ad o)), (1, .int a1), (2, .int a2)]) rfl ?_
        refine w_goto (tgt := 52) (pc := 78) X dX9_findDown_78 (by decide) ?_
        exact w_sub (pc := 52) [1, 2, 3, 0] rfl (ih _ _ h K)
set_option maxRecDepth 20000 in
theorem WL9_findDown_44 {φ : Fr} {ad : Nat → Nat} (X : Cx φ ad cX9_findDown none RX9 5 1 22) (o : Nat) (a1 : Int32) (k_o : kd o = 9) : ∀ (fuel : Nat) (v2 : Int32) (s : Sto)  (t : Sto), L9_findDown_44 o a1 fuel v2 s = some (t) → wpm φ ad 163 [] [] t → wpm φ ad 44 [(0, .ref (ad o)), (1, .int a1), (2, .int v2)] [] s := by
  intro fuel
  induction fuel with
  | zero => intro v2 s t h; cases h
  | succ fuel ih =>
    intro v2 s t h K
    unfold L9_findDown_44 at h
    refine w_iload_n (pc := 44) X dX9_findDown_44 2 rfl ?_
    refine w_if_le (pc := 45) (tgt := 163) X dX9_findDown_45 (by decide) (fun c38 => ?_) (fun c38 => ?_)
    · replace h := it_pos c38 h
      cases h
      exact w_sub (pc := 163) [] rfl K
    · replace h := it_neg c38 h
      refine w_iload_n (pc := 48) X dX9_findDown_48 2 rfl ?_
      refine w_iconst (pc := 49) X dX9_findDown_49 (v := 1) rfl ?_
      refine w_isub (pc := 50) X dX9_findDown_50 ?_
      refine w_istore_n (pc := 51) X dX9_findDown_51 3 rfl (by decide) (lv' := [(3, .int (v2 - (1 : Int32))), (0, .ref (ad o)), (1, .int a1), (2, .int v2)]) rfl ?_
      obtain ⟨y17, h16, h⟩ := bd1_inv h
      refine w_sub (pc := 52) [1, 2, 3, 0] rfl (WL9_findDown_52 X o a1 v2 s k_o FU (v2 - (1 : Int32)) y17 h16 ?_)
      refine w_aload_n (pc := 81) X dX9_findDown_81 0 rfl ?_
      refine w_getR (pc := 82) X dX9_findDown_82 clO_9 k_o 34 (by decide) (d := 17) rfl fl_9_58 ?_
      refine w_iload_n (pc := 85) X dX9_findDown_85 2 rfl ?_
      obtain ⟨g18, h⟩ := gd_inv h
      refine w_iald (pc := 86) X dX9_findDown_86 (kp_9_17 k_o) g18 ?_
      refine w_iconst (pc := 87) X dX9_findDown_87 (v := 1) rfl ?_
      refine w_iadd (pc := 88) X dX9_findDown_88 ?_
      obtain ⟨x19, e_x19, h⟩ := nm_inv h
      refine w_nmi e_x19 ?_
      refine w_istore (pc := 89) X dX9_findDown_89 (by decide) (lv' := [(4, .int x19), (0, .ref (ad o)), (1, .int a1), (2, .int v2), (3, .int y17)]) rfl ?_
      refine w_aload_n (pc := 91) X dX9_findDown_91 1 rfl ?_
      refine w_getR (pc := 92) X dX9_findDown_92 clO_9 k_o 34 (by decide) (d := 17) rfl fl_9_58 ?_
      refine w_iload_n (pc := 95) X dX9_findDown_95 4 rfl ?_
      refine w_iload (pc := 96) X dX9_findDown_96 0 rfl ?_
      refine w_aload_n (pc := 98) X dX9_findDown_98 1 rfl ?_
      refine w_getR (pc := 99) X dX9_findDown_99 clO_9 k_o 34 (by decide) (d := 17) rfl fl_9_58 ?_
      refine w_iload_n (pc := 102) X dX9_findDown_102 4 rfl ?_
      obtain ⟨g20, h⟩ := gd_inv h
      refine w_iald (pc := 103) X dX9_findDown_103 (kp_9_17 k_o) g20 ?_
      obtain ⟨x23, h37, h⟩ := bd1_inv h
      have K104 : wpm φ ad 118 [(0, .ref (ad o)), (1, .int a1), (2, .int v2), (4, .int x19)] [.int x23, .int y17, .ref (ad (o + 17))] s := by
        obtain ⟨g24, h⟩ := gd_inv h
        refine w_iast (pc := 118) X dX9_findDown_118 (kp_9_17 k_o) g24 ?_
        obtain ⟨s25, e_s25, h⟩ := nm_inv h
        refine w_nm e_s25 ?_
        refine w_aload_n (pc := 119) X dX9_findDown_119 0 rfl ?_
        refine w_getR (pc := 120) X dX9_findDown_120 clO_9 k_o 34 (by decide) (d := 17) rfl fl_9_58 ?_
        refine w_iload_n (pc := 123) X dX9_findDown_123 2 rfl ?_
        refine w_iconst (pc := 124) X dX9_findDown_124 (v := 1) rfl ?_
        refine w_isub (pc := 125) X dX9_findDown_125 ?_
        refine w_iload_n (pc := 126) X dX9_findDown_126 1 rfl ?_
        refine w_if_eq (pc := 127) (tgt := 148) X dX9_findDown_127 (by decide) (fun c36 => ?_) (fun c36 => ?_)
        · replace h := it_pos c36 h
          refine w_aload_n (pc := 148) X dX9_findDown_148 0 rfl ?_
          refine w_getR (pc := 149) X dX9_findDown_149 clO_9 k_o 34 (by decide) (d := 17) rfl fl_9_58 ?_
          refine w_iload_n (pc := 152) X dX9_findDown_152 2 rfl ?_
          refine w_iconst (pc := 153) X dX9_findDown_153 (v := 1) rfl ?_
          refine w_isub (pc := 154) X dX9_findDown_154 ?_
          obtain ⟨g26, h⟩ := gd_inv h
          refine w_iald (pc := 155) X dX9_findDown_155 (kp_9_17 k_o) g26 ?_
          obtain ⟨g27, h⟩ := gd_inv h
          refine w_iast (pc := 156) X dX9_findDown_156 (kp_9_17 k_o) g27 ?_
          obtain ⟨s28, e_s28, h⟩ := nm_inv h
          refine w_nm e_s28 ?_
          refine w_iinc (pc := 157) X dX9_findDown_157 2 rfl (v := (v2 + (-1))) rfl (by decide) (lv' := [(2, .int (v2 + (-1))), (0, .ref (ad o)), (1, .int a1), (4, .int x19)]) rfl ?_
          refine w_goto (tgt := 44) (pc := 160) X dX9_findDown_160 (by decide) ?_
          exact w_sub (pc := 44) [1, 2, 0] rfl (ih _ _ _ h K)
        · replace h := it_neg c36 h
          refine w_iload (pc := 130) X dX9_findDown_130 3 rfl ?_
          refine w_aload_n (pc := 132) X dX9_findDown_132 0 rfl ?_
          refine w_getR (pc := 133) X dX9_findDown_133 clO_9 k_o 34 (by decide) (d := 17) rfl fl_9_58 ?_
          refine w_iload_n (pc := 136) X dX9_findDown_136 2 rfl ?_
          refine w_iconst (pc := 137) X dX9_findDown_137 (v := 1) rfl ?_
          refine w_isub (pc := 138) X dX9_findDown_138 ?_
          obtain ⟨g29, h⟩ := gd_inv h
          refine w_iald (pc := 139) X dX9_findDown_139 (kp_9_17 k_o) g29 ?_
          refine w_icmp_ge (pc := 140) (tgt := 148) X dX9_findDown_140 (by decide) (fun c35 => ?_) (fun c35 => ?_)
          · replace h := it_pos c35 h
            refine w_aload_n (pc := 148) X dX9_findDown_148 0 rfl ?_
            refine w_getR (pc := 149) X dX9_findDown_149 clO_9 k_o 34 (by decide) (d := 17) rfl fl_9_58 ?_
            refine w_iload_n (pc := 152) X dX9_findDown_152 2 rfl ?_
            refine w_iconst (pc := 153) X dX9_findDown_153 (v := 1) rfl ?_
            refine w_isub (pc := 154) X dX9_findDown_154 ?_
            obtain ⟨g30, h⟩ := gd_inv h
            refine w_iald (pc := 155) X dX9_findDown_155 (kp_9_17 k_o) g30 ?_
            obtain ⟨g31, h⟩ := gd_inv h
            refine w_iast (pc := 156) X dX9_findDown_156 (kp_9_17 k_o) g31 ?_
            obtain ⟨s32, e_s32, h⟩ := nm_inv h
            refine w_nm e_s32 ?_
            refine w_iinc (pc := 157) X dX9_findDown_157 2 rfl (v := (v2 + (-1))) rfl (by decide) (lv' := [(2, .int (v2 + (-1))), (0, .ref (ad o)), (1, .int a1), (4, .int x19)]) rfl ?_
            refine w_goto (tgt := 44) (pc := 160) X dX9_findDown_160 (by decide) ?_
            exact w_sub (pc := 44) [1, 2, 0] rfl (ih _ _ _ h K)
          · replace h := it_neg c35 h
            refine w_iload (pc := 143) X dX9_findDown_143 3 rfl ?_
            refine w_goto (tgt := 156) (pc := 145) X dX9_findDown_145 (by decide) ?_
            obtain ⟨g33, h⟩ := gd_inv h
            refine w_iast (pc := 156) X dX9_findDown_156 (kp_9_17 k_o) g33 ?_
            obtain ⟨s34, e_s34, h⟩ := nm_inv h
            refine w_nm e_s34 ?_
            refine w_iinc (pc := 157) X dX9_findDown_157 2 rfl (v := (v2 + (-1))) rfl (by decide) (lv' := [(2, .int (v2 + (-1))), (0, .ref (ad o)), (1, .int a1), (4, .int x19)]) rfl ?_
            refine w_goto (tgt := 44) (pc := 160) X dX9_findDown_160 (by decide) ?_
            exact w_sub (pc := 44) [1, 2, 0] rfl (ih _ _ _ h K)
      clear h
      have h := h37
      clear h37
      refine w_icmp_ge (pc := 104) (tgt := 112) X dX9_findDown_104 (by decide) (fun c22 => ?_) (fun c22 => ?_)
      · replace h := it_pos c22 h
        refine w_aload_n (pc := 112) X dX9_findDown_112 1 rfl ?_
        refine w_getR (pc := 113) X dX9_findDown_113 clO_9 k_o 34 (by decide) (d := 17) rfl fl_9_58 ?_
        refine w_iload_n (pc := 116) X dX9_findDown_116 4 rfl ?_
        obtain ⟨g21, h⟩ := gd_inv h
        refine w_iald (pc := 117) X dX9_findDown_117 (kp_9_17 k_o) g21 ?_
        cases h
        exact w_sub (pc := 118) [1, 2, 3, 0] rfl K104
      · replace h := it_neg c22 h
        refine w_iload (pc := 107) X dX9_findDown_107 0 rfl ?_
        refine w_goto (tgt := 118) (pc := 109) X dX9_findDown_109 (by decide) ?_
        cases h
        exact w_sub (pc := 118) [1, 2, 3, 0] rfl K104
set_option maxRecDepth 20000 in
theorem M9_findDown {o : Nat} {s : Sto} {σ' : Sto} (h : f9_findDown o s = some σ') : Ct yX9_findDown cX9_findDown 5 none 1 22 (fun ad => [.ref (ad o)]) s (fun _ => none) σ' := by
  unfold f9_findDown at h
  obtain ⟨k_o, h⟩ := gd_inv h
  refine Ct_of (by decide) (fun ad => Nat.le_of_ble_eq_true rfl) (fun φ ad X hQ => ?_)
  show wpm φ ad 0 [(0, .ref (ad o))] [] s
  replace X : Cx φ ad cX9_findDown none RX9 5 1 22 := X
  refine w_iconst (pc := 0) X dX9_findDown_0 (v := 0) rfl ?_
  refine w_istore_n (pc := 1) X dX9_findDown_1 1 rfl (by decide) (lv' := [(1, .int (0 : Int32)), (0, .ref (ad o))]) rfl ?_
  obtain ⟨s8, h7, h⟩ := bd1_inv h
  refine w_sub (pc := 2) [1, 0] rfl (WL9_findDown_2 X o k_o FU (0 : Int32) s s8 h7 ?_)
  refine w_aload_n (pc := 34) X dX9_findDown_34 0 rfl ?_
  obtain ⟨r11, s9, h10, h⟩ := bd2_inv h
  refine w_callV (pc := 35) X dX9_findDown_35 (M9_canTell h10) k_o (by decide) rfl cw_9_231 ⟨Nat.le_of_ble_eq_true rfl, Nat.le_of_ble_eq_true rfl⟩ rfl rfl (Nat.le_of_ble_eq_true rfl) ?_
  show wpm φ ad 38 [(0, .ref (ad o))] [.int r11] s9
  refine w_istore_n (pc := 38) X dX9_findDown_38 1 rfl (by decide) (lv' := [(1, .int r11), (0, .ref (ad o))]) rfl ?_
  refine w_aload_n (pc := 39) X dX9_findDown_39 1 rfl ?_
  refine w_getI (pc := 40) X dX9_findDown_40 clO_9 k_o 3 (by decide) rfl fl_9_92 ?_
  refine w_istore_n (pc := 43) X dX9_findDown_43 2 rfl (by decide) (lv' := [(2, .int (s9.1 o 3)), (1, .int r11), (0, .ref (ad o))]) rfl ?_
  obtain ⟨s40, h39, h⟩ := bd1_inv h
  refine w_sub (pc := 44) [2, 1, 0] rfl (WL9_findDown_44 X o r11 k_o FU (s9.1 o 3) s9 s40 h39 ?_)
  cases h
  exact w_vret X hQ dX9_findDown_163
set_option maxRecDepth 20000 in
theorem WL9_building_23 {φ : Fr} {ad : Nat → Nat} (X : Cx φ ad cX9_building (some .int) RX9 8 0 0) (o : Nat) (a1 : Int32) (a2 : Int32) (s : Sto) (k_o : kd o = 9) {r : Int32} {σ' : Sto} (hQ : Fini φ ad (some (.int r)) σ') : ∀ (fuel : Nat) (v3 : Int32) (v4 : Int32) (v5 : Int32), L9_building_23 o a1 a2 s fuel v3 v4 v5 = some (r, σ') → wpm φ ad 23 [(0, .ref (ad o)), (1, .int a1), (2, .int a2), (3, .int v3), (4, .int v4), (5, .int v5)] [] s := by
  intro fuel
  induction fuel with
  | zero => intro v3 v4 v5 h; cases h
  | succ fuel ih =>
    intro v3 v4 v5 h
    unfold L9_building_23 at h
    refine w_iload (pc := 23) X dX9_building_23 5 rfl ?_
    refine w_iload_n (pc := 25) X dX9_building_25 2 rfl ?_
    refine w_icmp_ge (pc := 26) (tgt := 151) X dX9_building_26 (by decide) (fun c37 => ?_) (fun c37 => ?_)
    · replace h := it_pos c37 h
      refine w_iload_n (pc := 151) X dX9_building_151 3 rfl ?_
      refine w_aload_n (pc := 152) X dX9_building_152 0 rfl ?_
      refine w_getI (pc := 153) X dX9_building_153 clO_9 k_o 4 (by decide) rfl fl_9_95 ?_
      refine w_iconst (pc := 156) X dX9_building_156 (v := 1) rfl ?_
      refine w_isub (pc := 157) X dX9_building_157 ?_
      obtain ⟨x2, h4, h⟩ := bd1_inv h
      have K158 : wpm φ ad 171 [(3, .int v3), (4, .int v4)] [.int x2] s := by
        refine w_istore (pc := 171) X dX9_building_171 (by decide) (lv' := [(5, .int x2), (3, .int v3), (4, .int v4)]) rfl ?_
        refine w_iload (pc := 173) X dX9_building_173 2 rfl ?_
        refine w_iload_n (pc := 175) X dX9_building_175 1 rfl ?_
        refine w_if_ne (pc := 176) (tgt := 183) X dX9_building_176 (by decide) (fun c3 => ?_) (fun c3 => ?_)
        · replace h := it_neg c3 h
          refine w_iconst (pc := 183) X dX9_building_183 (v := 2) rfl ?_
          refine w_iload_n (pc := 184) X dX9_building_184 1 rfl ?_
          refine w_imul (pc := 185) X dX9_building_185 ?_
          refine w_iload (pc := 186) X dX9_building_186 0 rfl ?_
          refine w_isub (pc := 188) X dX9_building_188 ?_
          refine w_iadd (pc := 189) X dX9_building_189 ?_
          cases h
          exact w_iret X hQ dX9_building_190
        · replace h := it_pos c3 h
          refine w_iconst (pc := 179) X dX9_building_179 (v := 0) rfl ?_
          refine w_goto (tgt := 189) (pc := 180) X dX9_building_180 (by decide) ?_
          refine w_iadd (pc := 189) X dX9_building_189 ?_
          cases h
          exact w_iret X hQ dX9_building_190
      clear h
      have h := h4
      clear h4
      refine w_icmp_ge (pc := 158) (tgt := 165) X dX9_building_158 (by decide) (fun c1 => ?_) (fun c1 => ?_)
      · replace h := it_pos c1 h
        refine w_aload_n (pc := 165) X dX9_building_165 0 rfl ?_
        refine w_getI (pc := 166) X dX9_building_166 clO_9 k_o 4 (by decide) rfl fl_9_95 ?_
        refine w_iconst (pc := 169) X dX9_building_169 (v := 1) rfl ?_
        refine w_isub (pc := 170) X dX9_building_170 ?_
        cases h
        exact w_sub (pc := 171) [3, 4] rfl K158
      · replace h := it_neg c1 h
        refine w_iload_n (pc := 161) X dX9_building_161 3 rfl ?_
        refine w_goto (tgt := 171) (pc := 162) X dX9_building_162 (by decide) ?_
        cases h
        exact w_sub (pc := 171) [3, 4] rfl K158
    · replace h := it_neg c37 h
      refine w_aload_n (pc := 29) X dX9_building_29 0 rfl ?_
      refine w_getR (pc := 30) X dX9_building_30 clO_9 k_o 19 (by decide) (d := 13) rfl fl_9_46 ?_
      refine w_iload (pc := 33) X dX9_building_33 5 rfl ?_
      obtain ⟨g5, h⟩ := gd_inv h
      refine w_iald (pc := 35) X dX9_building_35 (kp_9_13 k_o) g5 ?_
      refine w_iconst (pc := 36) X dX9_building_36 (v := 2) rfl ?_
      obtain ⟨x7, h36, h⟩ := bd1_inv h
      have K37 : wpm φ ad 45 [(0, .ref (ad o)), (1, .int a1), (2, .int a2), (3, .int v3), (4, .int v4), (5, .int v5)] [.int x7] s := by
        refine w_istore (pc := 45) X dX9_building_45 (by decide) (lv' := [(6, .int x7), (0, .ref (ad o)), (1, .int a1), (2, .int a2), (3, .int v3), (4, .int v4), (5, .int v5)]) rfl ?_
        refine w_iload (pc := 47) X dX9_building_47 6 rfl ?_
        refine w_iload_n (pc := 49) X dX9_building_49 2 rfl ?_
        obtain ⟨x12, h35, h⟩ := bd1_inv h
        have K50 : wpm φ ad 77 [(0, .ref (ad o)), (1, .int a1), (2, .int a2), (3, .int v3), (4, .int v4), (5, .int v5), (6, .int x7)] [.int x12] s := by
          refine w_istore (pc := 77) X dX9_building_77 (by decide) (lv' := [(7, .int x12), (0, .ref (ad o)), (1, .int a1), (2, .int a2), (3, .int v3), (4, .int v4), (5, .int v5), (6, .int x7)]) rfl ?_
          refine w_iload (pc := 79) X dX9_building_79 7 rfl ?_
          refine w_if_eq (pc := 81) (tgt := 100) X dX9_building_81 (by decide) (fun c34 => ?_) (fun c34 => ?_)
          · replace h := it_pos c34 h
            refine w_aload_n (pc := 100) X dX9_building_100 1 rfl ?_
            refine w_getR (pc := 101) X dX9_building_101 clO_9 k_o 19 (by decide) (d := 13) rfl fl_9_46 ?_
            refine w_iload (pc := 104) X dX9_building_104 6 rfl ?_
            obtain ⟨g13, h⟩ := gd_inv h
            refine w_iald (pc := 106) X dX9_building_106 (kp_9_13 k_o) g13 ?_
            refine w_iconst (pc := 107) X dX9_building_107 (v := 1) rfl ?_
            refine w_icmp_ne (pc := 108) (tgt := 119) X dX9_building_108 (by decide) (fun c21 => ?_) (fun c21 => ?_)
            · replace h := it_neg c21 h
              refine w_iload_n (pc := 119) X dX9_building_119 4 rfl ?_
              refine w_aload_n (pc := 120) X dX9_building_120 1 rfl ?_
              refine w_getR (pc := 121) X dX9_building_121 clO_9 k_o 19 (by decide) (d := 13) rfl fl_9_46 ?_
              refine w_iload (pc := 124) X dX9_building_124 6 rfl ?_
              obtain ⟨g14, h⟩ := gd_inv h
              refine w_iald (pc := 126) X dX9_building_126 (kp_9_13 k_o) g14 ?_
              refine w_if_ne (pc := 127) (tgt := 139) X dX9_building_127 (by decide) (fun c16 => ?_) (fun c16 => ?_)
              · replace h := it_neg c16 h
                refine w_iconst (pc := 139) X dX9_building_139 (v := 0) rfl ?_
                refine w_iadd (pc := 140) X dX9_building_140 ?_
                refine w_istore_n (pc := 141) X dX9_building_141 3 rfl (by decide) (lv' := [(3, .int (v3 + (0 : Int32))), (7, .int x12), (0, .ref (ad o)), (1, .int a1), (2, .int a2), (4, .int v4), (5, .int v5), (6, .int x7)]) rfl ?_
                refine w_iinc (pc := 142) X dX9_building_142 5 rfl (v := (v4 + 1)) rfl (by decide) (lv' := [(4, .int (v4 + 1)), (3, .int (v3 + (0 : Int32))), (7, .int x12), (0, .ref (ad o)), (1, .int a1), (2, .int a2), (5, .int v5), (6, .int x7)]) rfl ?_
                refine w_iinc (pc := 145) X dX9_building_145 6 rfl (v := (v5 + 1)) rfl (by decide) (lv' := [(5, .int (v5 + 1)), (4, .int (v4 + 1)), (3, .int (v3 + (0 : Int32))), (7, .int x12), (0, .ref (ad o)), (1, .int a1), (2, .int a2), (6, .int x7)]) rfl ?_
                refine w_goto (tgt := 23) (pc := 148) X dX9_building_148 (by decide) ?_
                exact w_sub (pc := 23) [4, 5, 6, 2, 1, 0] rfl (ih _ _ _ h)
              · replace h := it_pos c16 h
                refine w_iload (pc := 130) X dX9_building_130 0 rfl ?_
                refine w_if_eq (pc := 132) (tgt := 139) X dX9_building_132 (by decide) (fun c15 => ?_) (fun c15 => ?_)
                · replace h := it_pos c15 h
                  refine w_iconst (pc := 139) X dX9_building_139 (v := 0) rfl ?_
                  refine w_iadd (pc := 140) X dX9_building_140 ?_
                  refine w_istore_n (pc := 141) X dX9_building_141 3 rfl (by decide) (lv' := [(3, .int (v3 + (0 : Int32))), (7, .int x12), (0, .ref (ad o)), (1, .int a1), (2, .int a2), (4, .int v4), (5, .int v5), (6, .int x7)]) rfl ?_
                  refine w_iinc (pc := 142) X dX9_building_142 5 rfl (v := (v4 + 1)) rfl (by decide) (lv' := [(4, .int (v4 + 1)), (3, .int (v3 + (0 : Int32))), (7, .int x12), (0, .ref (ad o)), (1, .int a1), (2, .int a2), (5, .int v5), (6, .int x7)]) rfl ?_
                  refine w_iinc (pc := 145) X dX9_building_145 6 rfl (v := (v5 + 1)) rfl (by decide) (lv' := [(5, .int (v5 + 1)), (4, .int (v4 + 1)), (3, .int (v3 + (0 : Int32))), (7, .int x12), (0, .ref (ad o)), (1, .int a1), (2, .int a2), (6, .int x7)]) rfl ?_
                  refine w_goto (tgt := 23) (pc := 148) X dX9_building_148 (by decide) ?_
                  exact w_sub (pc := 23) [4, 5, 6, 2, 1, 0] rfl (ih _ _ _ h)
                · replace h := it_neg c15 h
                  refine w_iconst (pc := 135) X dX9_building_135 (v := 1) rfl ?_
                  refine w_goto (tgt := 140) (pc := 136) X dX9_building_136 (by decide) ?_
                  refine w_iadd (pc := 140) X dX9_building_140 ?_
                  refine w_istore_n (pc := 141) X dX9_building_141 3 rfl (by decide) (lv' := [(3, .int (v3 + (1 : Int32))), (7, .int x12), (0, .ref (ad o)), (1, .int a1), (2, .int a2), (4, .int v4), (5, .int v5), (6, .int x7)]) rfl ?_
                  refine w_iinc (pc := 142) X dX9_building_142 5 rfl (v := (v4 + 1)) rfl (by decide) (lv' := [(4, .int (v4 + 1)), (3, .int (v3 + (1 : Int32))), (7, .int x12), (0, .ref (ad o)), (1, .int a1), (2, .int a2), (5, .int v5), (6, .int x7)]) rfl ?_
                  refine w_iinc (pc := 145) X dX9_building_145 6 rfl (v := (v5 + 1)) rfl (by decide) (lv' := [(5, .int (v5 + 1)), (4, .int (v4 + 1)), (3, .int (v3 + (1 : Int32))), (7, .int x12), (0, .ref (ad o)), (1, .int a1), (2, .int a2), (6, .int x7)]) rfl ?_
                  refine w_goto (tgt := 23) (pc := 148) X dX9_building_148 (by decide) ?_
                  exact w_sub (pc := 23) [4, 5, 6, 2, 1, 0] rfl (ih _ _ _ h)
            · replace h := it_pos c21 h
              refine w_iload (pc := 111) X dX9_building_111 0 rfl ?_
              refine w_if_ne (pc := 113) (tgt := 119) X dX9_building_113 (by decide) (fun c20 => ?_) (fun c20 => ?_)
              · replace h := it_neg c20 h
                refine w_iload_n (pc := 119) X dX9_building_119 4 rfl ?_
                refine w_aload_n (pc := 120) X dX9_building_120 1 rfl ?_
                refine w_getR (pc := 121) X dX9_building_121 clO_9 k_o 19 (by decide) (d := 13) rfl fl_9_46 ?_
                refine w_iload (pc := 124) X dX9_building_124 6 rfl ?_
                obtain ⟨g17, h⟩ := gd_inv h
                refine w_iald (pc := 126) X dX9_building_126 (kp_9_13 k_o) g17 ?_
                refine w_if_ne (pc := 127) (tgt := 139) X dX9_building_127 (by decide) (fun c19 => ?_) (fun c19 => ?_)
                · replace h := it_neg c19 h
                  refine w_iconst (pc := 139) X dX9_building_139 (v := 0) rfl ?_
                  refine w_iadd (pc := 140) X dX9_building_140 ?_
                  refine w_istore_n (pc := 141) X dX9_building_141 3 rfl (by decide) (lv' := [(3, .int (v3 + (0 : Int32))), (7, .int x12), (0, .ref (ad o)), (1, .int a1), (2, .int a2), (4, .int v4), (5, .int v5), (6, .int x7)]) rfl ?_
                  refine w_iinc (pc := 142) X dX9_building_142 5 rfl (v := (v4 + 1)) rfl (by decide) (lv' := [(4, .int (v4 + 1)), (3, .int (v3 + (0 : Int32))), (7, .int x12), (0, .ref (ad o)), (1, .int a1), (2, .int a2), (5, .int v5), (6, .int x7)]) rfl ?_
                  refine w_iinc (pc := 145) X dX9_building_145 6 rfl (v := (v5 + 1)) rfl (by decide) (lv' := [(5, .int (v5 + 1)), (4, .int (v4 + 1)), (3, .int (v3 + (0 : Int32))), (7, .int x12), (0, .ref (ad o)), (1, .int a1), (2, .int a2), (6, .int x7)]) rfl ?_
                  refine w_goto (tgt := 23) (pc := 148) X dX9_building_148 (by decide) ?_
                  exact w_sub (pc := 23) [4, 5, 6, 2, 1, 0] rfl (ih _ _ _ h)
                · replace h := it_pos c19 h
                  refine w_iload (pc := 130) X dX9_building_130 0 rfl ?_
                  refine w_if_eq (pc := 132) (tgt := 139) X dX9_building_132 (by decide) (fun c18 => ?_) (fun c18 => ?_)
                  · replace h := it_pos c18 h
                    refine w_iconst (pc := 139) X dX9_building_139 (v := 0) rfl ?_
                    refine w_iadd (pc := 140) X dX9_building_140 ?_
                    refine w_istore_n (pc := 141) X dX9_building_141 3 rfl (by decide) (lv' := [(3, .int (v3 + (0 : Int32))), (7, .int x12), (0, .ref (ad o)), (1, .int a1), (2, .int a2), (4, .int v4), (5, .int v5), (6, .int x7)]) rfl ?_
                    refine w_iinc (pc := 142) X dX9_building_142 5 rfl (v := (v4 + 1)) rfl (by decide) (lv' := [(4, .int (v4 + 1)), (3, .int (v3 + (0 : Int32))), (7, .int x12), (0, .ref (ad o)), (1, .int a1), (2, .int a2), (5, .int v5), (6, .int x7)]) rfl ?_
                    refine w_iinc (pc := 145) X dX9_building_145 6 rfl (v := (v5 + 1)) rfl (by decide) (lv' := [(5, .int (v5 + 1)), (4, .int (v4 + 1)), (3, .int (v3 + (0 : Int32))), (7, .int x12), (0, .ref (ad o)), (1, .int a1), (2, .int a2), (6, .int x7)]) rfl ?_
                    refine w_goto (tgt := 23) (pc := 148) X dX9_building_148 (by decide) ?_
                    exact w_sub (pc := 23) [4, 5, 6, 2, 1, 0] rfl (ih _ _ _ h)
                  · replace h := it_neg c18 h
                    refine w_iconst (pc := 135) X dX9_building_135 (v := 1) rfl ?_
                    refine w_goto (tgt := 140) (pc := 136) X dX9_building_136 (by decide) ?_
                    refine w_iadd (pc := 140) X dX9_building_140 ?_
                    refine w_istore_n (pc := 141) X dX9_building_141 3 rfl (by decide) (lv' := [(3, .int (v3 + (1 : Int32))), (7, .int x12), (0, .ref (ad o)), (1, .int a1), (2, .int a2), (4, .int v4), (5, .int v5), (6, .int x7)]) rfl ?_
                    refine w_iinc (pc := 142) X dX9_building_142 5 rfl (v := (v4 + 1)) rfl (by decide) (lv' := [(4, .int (v4 + 1)), (3, .int (v3 + (1 : Int32))), (7, .int x12), (0, .ref (ad o)), (1, .int a1), (2, .int a2), (5, .int v5), (6, .int x7)]) rfl ?_
                    refine w_iinc (pc := 145) X dX9_building_145 6 rfl (v := (v5 + 1)) rfl (by decide) (lv' := [(5, .int (v5 + 1)), (4, .int (v4 + 1)), (3, .int (v3 + (1 : Int32))), (7, .int x12), (0, .ref (ad o)), (1, .int a1), (2, .int a2), (6, .int x7)]) rfl ?_
                    refine w_goto (tgt := 23) (pc := 148) X dX9_building_148 (by decide) ?_
                    exact w_sub (pc := 23) [4, 5, 6, 2, 1, 0] rfl (ih _ _ _ h)
              · replace h := it_pos c20 h
                refine w_ldc (pc := 116) X dX9_building_116 (v := (1000000)) cn_9_230 ?_
                cases h
                exact w_iret X hQ dX9_building_118
          · replace h := it_neg c34 h
            refine w_aload_n (pc := 84) X dX9_building_84 1 rfl ?_
            refine w_getR (pc := 85) X dX9_building_85 clO_9 k_o 2 (by decide) (d := 1) rfl fl_9_7 ?_
            refine w_aload_n (pc := 88) X dX9_building_88 1 rfl ?_
            refine w_getR (pc := 89) X dX9_building_89 clO_9 k_o 18 (by decide) (d := 12) rfl fl_9_43 ?_
            refine w_iload (pc := 92) X dX9_building_92 6 rfl ?_
            obtain ⟨g22, h⟩ := gd_inv h
            refine w_iald (pc := 94) X dX9_building_94 (kp_9_12 k_o) g22 ?_
            obtain ⟨g23, h⟩ := gd_inv h
            refine w_iald (pc := 95) X dX9_building_95 (kp_9_1 k_o) g23 ?_
            refine w_iconst (pc := 96) X dX9_building_96 (v := 1) rfl ?_
            refine w_icmp_eq (pc := 97) (tgt := 116) X dX9_building_97 (by decide) (fun c33 => ?_) (fun c33 => ?_)
            · replace h := it_pos c33 h
              refine w_ldc (pc := 116) X dX9_building_116 (v := (1000000)) cn_9_230 ?_
              cases h
              exact w_iret X hQ dX9_building_118
            · replace h := it_neg c33 h
              refine w_aload_n (pc := 100) X dX9_building_100 1 rfl ?_
              refine w_getR (pc := 101) X dX9_building_101 clO_9 k_o 19 (by decide) (d := 13) rfl fl_9_46 ?_
              refine w_iload (pc := 104) X dX9_building_104 6 rfl ?_
              obtain ⟨g24, h⟩ := gd_inv h
              refine w_iald (pc := 106) X dX9_building_106 (kp_9_13 k_o) g24 ?_
              refine w_iconst (pc := 107) X dX9_building_107 (v := 1) rfl ?_
              refine w_icmp_ne (pc := 108) (tgt := 119) X dX9_building_108 (by decide) (fun c32 => ?_) (fun c32 => ?_)
              · replace h := it_neg c32 h
                refine w_iload_n (pc := 119) X dX9_building_119 4 rfl ?_
                refine w_aload_n (pc := 120) X dX9_building_120 1 rfl ?_
                refine w_getR (pc := 121) X dX9_building_121 clO_9 k_o 19 (by decide) (d := 13) rfl fl_9_46 ?_
                refine w_iload (pc := 124) X dX9_building_124 6 rfl ?_
                obtain ⟨g25, h⟩ := gd_inv h
                refine w_iald (pc := 126) X dX9_building_126 (kp_9_13 k_o) g25 ?_
                refine w_if_ne (pc := 127) (tgt := 139) X dX9_building_127 (by decide) (fun c27 => ?_) (fun c27 => ?_)
                · replace h := it_neg c27 h
                  refine w_iconst (pc := 139) X dX9_building_139 (v := 0) rfl ?_
                  refine w_iadd (pc := 140) X dX9_building_140 ?_
                  refine w_istore_n (pc := 141) X dX9_building_141 3 rfl (by decide) (lv' := [(3, .int (v3 + (0 : Int32))), (7, .int x12), (0, .ref (ad o)), (1, .int a1), (2, .int a2), (4, .int v4), (5, .int v5), (6, .int x7)]) rfl ?_
                  refine w_iinc (pc := 142) X dX9_building_142 5 rfl (v := (v4 + 1)) rfl (by decide) (lv' := [(4, .int (v4 + 1)), (3, .int (v3 + (0 : Int32))), (7, .int x12), (0, .ref (ad o)), (1, .int a1), (2, .int a2), (5, .int v5), (6, .int x7)]) rfl ?_
                  refine w_iinc (pc := 145) X dX9_building_145 6 rfl (v := (v5 + 1)) rfl (by decide) (lv' := [(5, .int (v5 + 1)), (4, .int (v4 + 1)), (3, .int (v3 + (0 : Int32))), (7, .int x12), (0, .ref (ad o)), (1, .int a1), (2, .int a2), (6, .int x7)]) rfl ?_
                  refine w_goto (tgt := 23) (pc := 148) X dX9_building_148 (by decide) ?_
                  exact w_sub (pc := 23) [4, 5, 6, 2, 1, 0] rfl (ih _ _ _ h)
                · replace h := it_pos c27 h
                  refine w_iload (pc := 130) X dX9_building_130 0 rfl ?_
                  refine w_if_eq (pc := 132) (tgt := 139) X dX9_building_132 (by decide) (fun c26 => ?_) (fun c26 => ?_)
                  · replace h := it_pos c26 h
                    refine w_iconst (pc := 139) X dX9_building_139 (v := 0) rfl ?_
                    refine w_iadd (pc := 140) X dX9_building_140 ?_
                    refine w_istore_n (pc := 141) X dX9_building_141 3 rfl (by decide) (lv' := [(3, .int (v3 + (0 : Int32))), (7, .int x12), (0, .ref (ad o)), (1, .int a1), (2, .int a2), (4, .int v4), (5, .int v5), (6, .int x7)]) rfl ?_
                    refine w_iinc (pc := 142) X dX9_building_142 5 rfl (v := (v4 + 1)) rfl (by decide) (lv' := [(4, .int (v4 + 1)), (3, .int (v3 + (0 : Int32))), (7, .int x12), (0, .ref (ad o)), (1, .int a1), (2, .int a2), (5, .int v5), (6, .int x7)]) rfl ?_
                    refine w_iinc (pc := 145) X dX9_building_145 6 rfl (v := (v5 + 1)) rfl (by decide) (lv' := [(5, .int (v5 + 1)), (4, .int (v4 + 1)), (3, .int (v3 + (0 : Int32))), (7, .int x12), (0, .ref (ad o)), (1, .int a1), (2, .int a2), (6, .int x7)]) rfl ?_
                    refine w_goto (tgt := 23) (pc := 148) X dX9_building_148 (by decide) ?_
                    exact w_sub (pc := 23) [4, 5, 6, 2, 1, 0] rfl (ih _ _ _ h)
                  · replace h := it_neg c26 h
                    refine w_iconst (pc := 135) X dX9_building_135 (v := 1) rfl ?_
                    refine w_goto (tgt := 140) (pc := 136) X dX9_building_136 (by decide) ?_
                    refine w_iadd (pc := 140) X dX9_building_140 ?_
                    refine w_istore_n (pc := 141) X dX9_building_141 3 rfl (by decide) (lv' := [(3, .int (v3 + (1 : Int32))), (7, .int x12), (0, .ref (ad o)), (1, .int a1), (2, .int a2), (4, .int v4), (5, .int v5), (6, .int x7)]) rfl ?_
                    refine w_iinc (pc := 142) X dX9_building_142 5 rfl (v := (v4 + 1)) rfl (by decide) (lv' := [(4, .int (v4 + 1)), (3, .int (v3 + (1 : Int32))), (7, .int x12), (0, .ref (ad o)), (1, .int a1), (2, .int a2), (5, .int v5), (6, .int x7)]) rfl ?_
                    refine w_iinc (pc := 145) X dX9_building_145 6 rfl (v := (v5 + 1)) rfl (by decide) (lv' := [(5, .int (v5 + 1)), (4, .int (v4 + 1)), (3, .int (v3 + (1 : Int32))), (7, .int x12), (0, .ref (ad o)), (1, .int a1), (2, .int a2), (6, .int x7)]) rfl ?_
                    refine w_goto (tgt := 23) (pc := 148) X dX9_building_148 (by decide) ?_
                    exact w_sub (pc := 23) [4, 5, 6, 2, 1, 0] rfl (ih _ _ _ h)
              · replace h := it_pos c32 h
                refine w_iload (pc := 111) X dX9_building_111 0 rfl ?_
                refine w_if_ne (pc := 113) (tgt := 119) X dX9_building_113 (by decide) (fun c31 => ?_) (fun c31 => ?_)
                · replace h := it_neg c31 h
                  refine w_iload_n (pc := 119) X dX9_building_119 4 rfl ?_
                  refine w_aload_n (pc := 120) X dX9_building_120 1 rfl ?_
                  refine w_getR (pc := 121) X dX9_building_121 clO_9 k_o 19 (by decide) (d := 13) rfl fl_9_46 ?_
                  refine w_iload (pc := 124) X dX9_building_124 6 rfl ?_
                  obtain ⟨g28, h⟩ := gd_inv h
                  refine w_iald (pc := 126) X dX9_building_126 (kp_9_13 k_o) g28 ?_
                  refine w_if_ne (pc := 127) (tgt := 139) X dX9_building_127 (by decide) (fun c30 => ?_) (fun c30 => ?_)
                  · replace h := it_neg c30 h
                    refine w_iconst (pc := 139) X dX9_building_139 (v := 0) rfl ?_
                    refine w_iadd (pc := 140) X dX9_building_140 ?_
                    refine w_istore_n (pc := 141) X dX9_building_141 3 rfl (by decide) (lv' := [(3, .int (v3 + (0 : Int32))), (7, .int x12), (0, .ref (ad o)), (1, .int a1), (2, .int a2), (4, .int v4), (5, .int v5), (6, .int x7)]) rfl ?_
                    refine w_iinc (pc := 142) X dX9_building_142 5 rfl (v := (v4 + 1)) rfl (by decide) (lv' := [(4, .int (v4 + 1)), (3, .int (v3 + (0 : Int32))), (7, .int x12), (0, .ref (ad o)), (1, .int a1), (2, .int a2), (5, .int v5), (6, .int x7)]) rfl ?_
                    refine w_iinc (pc := 145) X dX9_building_145 6 rfl (v := (v5 + 1)) rfl (by decide) (lv' := [(5, .int (v5 + 1)), (4, .int (v4 + 1)), (3, .int (v3 + (0 : Int32))), (7, .int x12), (0, .ref (ad o)), (1, .int a1), (2, .int a2), (6, .int x7)]) rfl ?_
                    refine w_goto (tgt := 23) (pc := 148) X dX9_building_148 (by decide) ?_
                    exact w_sub (pc := 23) [4, 5, 6, 2, 1, 0] rfl (ih _ _ _ h)
                  · replace h := it_pos c30 h
                    refine w_iload (pc := 130) X dX9_building_130 0 rfl ?_
                    refine w_if_eq (pc := 132) (tgt := 139) X dX9_building_132 (by decide) (fun c29 => ?_) (fun c29 => ?_)
                    · replace h := it_pos c29 h
                      refine w_iconst (pc := 139) X dX9_building_139 (v := 0) rfl ?_
                      refine w_iadd (pc := 140) X dX9_building_140 ?_
                      refine w_istore_n (pc := 141) X dX9_building_141 3 rfl (by decide) (lv' := [(3, .int (v3 + (0 : Int32))), (7, .int x12), (0, .ref (ad o)), (1, .int a1), (2, .int a2), (4, .int v4), (5, .int v5), (6, .int x7)]) rfl ?_
                      refine w_iinc (pc := 142) X dX9_building_142 5 rfl (v := (v4 + 1)) rfl (by decide) (lv' := [(4, .int (v4 + 1)), (3, .int (v3 + (0 : Int32))), (7, .int x12), (0, .ref (ad o)), (1, .int a1), (2, .int a2), (5, .int v5), (6, .int x7)]) rfl ?_
                      refine w_iinc (pc := 145) X dX9_building_145 6 rfl (v := (v5 + 1)) rfl (by decide) (lv' := [(5, .int (v5 + 1)), (4, .int (v4 + 1)), (3, .int (v3 + (0 : Int32))), (7, .int x12), (0, .ref (ad o)), (1, .int a1), (2, .int a2), (6, .int x7)]) rfl ?_
                      refine w_goto (tgt := 23) (pc := 148) X dX9_building_148 (by decide) ?_
                      exact w_sub (pc := 23) [4, 5, 6, 2, 1, 0] rfl (ih _ _ _ h)
                    · replace h := it_neg c29 h
                      refine w_iconst (pc := 135) X dX9_building_135 (v := 1) rfl ?_
                      refine w_goto (tgt := 140) (pc := 136) X dX9_building_136 (by decide) ?_
                      refine w_iadd (pc := 140) X dX9_building_140 ?_
                      refine w_istore_n (pc := 141) X dX9_building_141 3 rfl (by decide) (lv' := [(3, .int (v3 + (1 : Int32))), (7, .int x12), (0, .ref (ad o)), (1, .int a1), (2, .int a2), (4, .int v4), (5, .int v5), (6, .int x7)]) rfl ?_
                      refine w_iinc (pc := 142) X dX9_building_142 5 rfl (v := (v4 + 1)) rfl (by decide) (lv' := [(4, .int (v4 + 1)), (3, .int (v3 + (1 : Int32))), (7, .int x12), (0, .ref (ad o)), (1, .int a1), (2, .int a2), (5, .int v5), (6, .int x7)]) rfl ?_
                      refine w_iinc (pc := 145) X dX9_building_145 6 rfl (v := (v5 + 1)) rfl (by decide) (lv' := [(5, .int (v5 + 1)), (4, .int (v4 + 1)), (3, .int (v3 + (1 : Int32))), (7, .int x12), (0, .ref (ad o)), (1, .int a1), (2, .int a2), (6, .int x7)]) rfl ?_
                      refine w_goto (tgt := 23) (pc := 148) X dX9_building_148 (by decide) ?_
                      exact w_sub (pc := 23) [4, 5, 6, 2, 1, 0] rfl (ih _ _ _ h)
                · replace h := it_pos c31 h
                  refine w_ldc (pc := 116) X dX9_building_116 (v := (1000000)) cn_9_230 ?_
                  cases h
                  exact w_iret X hQ dX9_building_118
        clear h
        have h := h35
        clear h35
        refine w_icmp_le (pc := 50) (tgt := 76) X dX9_building_50 (by decide) (fun c11 => ?_) (fun c11 => ?_)
        · replace h := it_pos c11 h
          refine w_iconst (pc := 76) X dX9_building_76 (v := 0) rfl ?_
          cases h
          exact w_sub (pc := 77) [1, 2, 3, 4, 5, 6, 0] rfl K50
        · replace h := it_neg c11 h
          refine w_aload_n (pc := 53) X dX9_building_53 1 rfl ?_
          refine w_getR (pc := 54) X dX9_building_54 clO_9 k_o 18 (by decide) (d := 12) rfl fl_9_43 ?_
          refine w_iload (pc := 57) X dX9_building_57 6 rfl ?_
          refine w_iconst (pc := 59) X dX9_building_59 (v := 1) rfl ?_
          refine w_isub (pc := 60) X dX9_building_60 ?_
          obtain ⟨g8, h⟩ := gd_inv h
          refine w_iald (pc := 61) X dX9_building_61 (kp_9_12 k_o) g8 ?_
          refine w_aload_n (pc := 62) X dX9_building_62 1 rfl ?_
          refine w_getR (pc := 63) X dX9_building_63 clO_9 k_o 18 (by decide) (d := 12) rfl fl_9_43 ?_
          refine w_iload (pc := 66) X dX9_building_66 6 rfl ?_
          obtain ⟨g9, h⟩ := gd_inv h
          refine w_iald (pc := 68) X dX9_building_68 (kp_9_12 k_o) g9 ?_
          refine w_icmp_ne (pc := 69) (tgt := 76) X dX9_building_69 (by decide) (fun c10 => ?_) (fun c10 => ?_)
          · replace h := it_neg c10 h
            refine w_iconst (pc := 76) X dX9_building_76 (v := 0) rfl ?_
            cases h
            exact w_sub (pc := 77) [1, 2, 3, 4, 5, 6, 0] rfl K50
          · replace h := it_pos c10 h
            refine w_iconst (pc := 72) X dX9_building_72 (v := 1) rfl ?_
            refine w_goto (tgt := 77) (pc := 73) X dX9_building_73 (by decide) ?_
            cases h
            exact w_sub (pc := 77) [1, 2, 3, 4, 5, 6, 0] rfl K50
      clear h
      have h := h36
      clear h36
      refine w_icmp_eq (pc := 37) (tgt := 44) X dX9_building_37 (by decide) (fun c6 => ?_) (fun c6 => ?_)
      · replace h := it_pos c6 h
        refine w_iconst (pc := 44) X dX9_building_44 (v := 0) rfl ?_
        cases h
        exact w_sub (pc := 45) [0, 1, 2, 3, 4, 5] rfl K37
      · replace h := it_neg c6 h
        refine w_iconst (pc := 40) X dX9_building_40 (v := 1) rfl ?_
        refine w_goto (tgt := 45) (pc := 41) X dX9_building_41 (by decide) ?_
        cases h
        exact w_sub (pc := 45) [0, 1, 2, 3, 4, 5] rfl K37
set_option maxRecDepth 20000 in
theorem M9_building {o : Nat} {a1 : Int32} {a2 : Int32} {s : Sto} {r : Int32} {σ' : Sto} (h : f9_building o a1 a2 s = some (r, σ')) : Ct yX9_building cX9_building 8 (some .int) 0 0 (fun ad => [.ref (ad o), .int a1, .int a2]) s (fun ad => some (.int r)) σ' := by
  unfold f9_building at h
  obtain ⟨k_o, h⟩ := gd_inv h
  refine Ct_of (by decide) (fun ad => Nat.le_of_ble_eq_true rfl) (fun φ ad X hQ => ?_)
  show wpm φ ad 0 [(0, .ref (ad o)), (1, .int a1), (2, .int a2)] [] s
  replace X : Cx φ ad cX9_building (some .int) RX9 8 0 0 := X
  refine w_iload_n (pc := 0) X dX9_building_0 1 rfl ?_
  refine w_iload_n (pc := 1) X dX9_building_1 2 rfl ?_
  refine w_icmp_ge (pc := 2) (tgt := 15) X dX9_building_2 (by decide) (fun c76 => ?_) (fun c76 => ?_)
  · replace h := it_pos c76 h
    refine w_iconst (pc := 15) X dX9_building_15 (v := 0) rfl ?_
    refine w_istore_n (pc := 16) X dX9_building_16 3 rfl (by decide) (lv' := [(3, .int (0 : Int32)), (0, .ref (ad o)), (1, .int a1), (2, .int a2)]) rfl ?_
    refine w_iconst (pc := 17) X dX9_building_17 (v := 0) rfl ?_
    refine w_istore (pc := 18) X dX9_building_18 (by decide) (lv' := [(4, .int (0 : Int32)), (3, .int (0 : Int32)), (0, .ref (ad o)), (1, .int a1), (2, .int a2)]) rfl ?_
    refine w_iload_n (pc := 20) X dX9_building_20 3 rfl ?_
    refine w_istore (pc := 21) X dX9_building_21 (by decide) (lv' := [(5, .int a1), (4, .int (0 : Int32)), (3, .int (0 : Int32)), (0, .ref (ad o)), (1, .int a1), (2, .int a2)]) rfl ?_
    exact w_sub (pc := 23) [3, 4, 5, 2, 1, 0] rfl (WL9_building_23 X o a1 a2 s k_o hQ FU (0 : Int32) (0 : Int32) a1 h)
  · replace h := it_neg c76 h
    refine w_aload_n (pc := 5) X dX9_building_5 0 rfl ?_
    refine w_getI (pc := 6) X dX9_building_6 clO_9 k_o 4 (by decide) rfl fl_9_95 ?_
    refine w_if_ne (pc := 9) (tgt := 15) X dX9_building_9 (by decide) (fun c75 => ?_) (fun c75 => ?_)
    · replace h := it_neg c75 h
      refine w_iconst (pc := 15) X dX9_building_15 (v := 0) rfl ?_
      refine w_istore_n (pc := 16) X dX9_building_16 3 rfl (by decide) (lv' := [(3, .int (0 : Int32)), (0, .ref (ad o)), (1, .int a1), (2, .int a2)]) rfl ?_
      refine w_iconst (pc := 17) X dX9_building_17 (v := 0) rfl ?_
      refine w_istore (pc := 18) X dX9_building_18 (by decide) (lv' := [(4, .int (0 : Int32)), (3, .int (0 : Int32)), (0, .ref (ad o)), (1, .int a1), (2, .int a2)]) rfl ?_
      refine w_iload_n (pc := 20) X dX9_building_20 3 rfl ?_
      refine w_istore (pc := 21) X dX9_building_21 (by decide) (lv' := [(5, .int a1), (4, .int (0 : Int32)), (3, .int (0 : Int32)), (0, .ref (ad o)), (1, .int a1), (2, .int a2)]) rfl ?_
      exact w_sub (pc := 23) [3, 4, 5, 2, 1, 0] rfl (WL9_building_23 X o a1 a2 s k_o hQ FU (0 : Int32) (0 : Int32) a1 h)
    · replace h := it_pos c75 h
      refine w_ldc (pc := 12) X dX9_building_12 (v := (1000000)) cn_9_230 ?_
      cases h
      exact w_iret X hQ dX9_building_14
