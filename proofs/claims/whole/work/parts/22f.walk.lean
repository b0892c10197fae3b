set_option maxRecDepth 20000 in
theorem WL9_patterns_19 {φ : Fr} {ad : Nat → Nat} (X : Cx φ ad cX9_patterns (some .int) RX9 7 1 25) (o : Nat) (a1 : Int32) (s : Sto) (k_o : kd o = 9) : ∀ (fuel : Nat) (v2 : Int32) (v3 : Int32) (t2 : Int32), L9_patterns_19 o a1 s fuel v2 v3 = some (t2) → wpm φ ad 49 [(1, .int a1), (2, .int t2)] [] s → wpm φ ad 19 [(0, .ref (ad o)), (1, .int a1), (2, .int v2), (3, .int v3)] [] s := by
  intro fuel
  induction fuel with
  | zero => intro v2 v3 t2 h; cases h
  | succ fuel ih =>
    intro v2 v3 t2 h K
    unfold L9_patterns_19 at h
    refine w_iload_n (pc := 19) X dX9_patterns_19 3 rfl ?_
    refine w_bipush (pc := 20) X dX9_patterns_20 (v := (6)) rfl ?_
    refine w_icmp_ge (pc := 22) (tgt := 49) X dX9_patterns_22 (by decide) (fun c6 => ?_) (fun c6 => ?_)
    · replace h := it_pos c6 h
      cases h
      exact w_sub (pc := 49) [1, 2] rfl K
    · replace h := it_neg c6 h
      refine w_iload_n (pc := 25) X dX9_patterns_25 2 rfl ?_
      refine w_aload_n (pc := 26) X dX9_patterns_26 0 rfl ?_
      refine w_getR (pc := 27) X dX9_patterns_27 clO_9 k_o 2 (by decide) (d := 1) rfl fl_9_7 ?_
      refine w_iload_n (pc := 30) X dX9_patterns_30 3 rfl ?_
      obtain ⟨g4, h⟩ := gd_inv h
      refine w_iald (pc := 31) X dX9_patterns_31 (kp_9_1 k_o) g4 ?_
      refine w_iconst (pc := 32) X dX9_patterns_32 (v := 1) rfl ?_
      refine w_icmp_eq (pc := 33) (tgt := 40) X dX9_patterns_33 (by decide) (fun c5 => ?_) (fun c5 => ?_)
      · replace h := it_pos c5 h
        refine w_iconst (pc := 40) X dX9_patterns_40 (v := 0) rfl ?_
        refine w_iadd (pc := 41) X dX9_patterns_41 ?_
        refine w_istore_n (pc := 42) X dX9_patterns_42 2 rfl (by decide) (lv' := [(2, .int (v2 + (0 : Int32))), (0, .ref (ad o)), (1, .int a1), (3, .int v3)]) rfl ?_
        refine w_iinc (pc := 43) X dX9_patterns_43 3 rfl (v := (v3 + 1)) rfl (by decide) (lv' := [(3, .int (v3 + 1)), (2, .int (v2 + (0 : Int32))), (0, .ref (ad o)), (1, .int a1)]) rfl ?_
        refine w_goto (tgt := 19) (pc := 46) X dX9_patterns_46 (by decide) ?_
        exact w_sub (pc := 19) [2, 3, 1, 0] rfl (ih _ _ _ h K)
      · replace h := it_neg c5 h
        refine w_iconst (pc := 36) X dX9_patterns_36 (v := 1) rfl ?_
        refine w_goto (tgt := 41) (pc := 37) X dX9_patterns_37 (by decide) ?_
        refine w_iadd (pc := 41) X dX9_patterns_41 ?_
        refine w_istore_n (pc := 42) X dX9_patterns_42 2 rfl (by decide) (lv' := [(2, .int (v2 + (1 : Int32))), (0, .ref (ad o)), (1, .int a1), (3, .int v3)]) rfl ?_
        refine w_iinc (pc := 43) X dX9_patterns_43 3 rfl (v := (v3 + 1)) rfl (by decide) (lv' := [(3, .int (v3 + 1)), (2, .int (v2 + (1 : Int32))), (0, .ref (ad o)), (1, .int a1)]) rfl ?_
        refine w_goto (tgt := 19) (pc := 46) X dX9_patterns_46 (by decide) ?_
        exact w_sub (pc := 19) [2, 3, 1, 0] rfl (ih _ _ _ h K)
set_option maxRecDepth 20000 in
theorem WL9_patterns_57 {φ : Fr} {ad : Nat → Nat} (X : Cx φ ad cX9_patterns (some .int) RX9 7 1 25) (a1 : Int32) (a2 : Int32) (s : Sto)  : ∀ (fuel : Nat) (v3 : Int32) (v4 : Int32) (v5 : Int32) (t3 : Int32) (t4 : Int32), L9_patterns_57 a1 a2 s fuel v3 v4 v5 = some (t3, t4) → wpm φ ad 87 [(3, .int t3), (4, .int t4)] [] s → wpm φ ad 57 [(1, .int a1), (2, .int a2), (3, .int v3), (4, .int v4), (5, .int v5)] [] s := by
  intro fuel
  induction fuel with
  | zero => intro v3 v4 v5 t3 t4 h; cases h
  | succ fuel ih =>
    intro v3 v4 v5 t3 t4 h K
    unfold L9_patterns_57 at h
    refine w_iload (pc := 57) X dX9_patterns_57 4 rfl ?_
    refine w_iload_n (pc := 59) X dX9_patterns_59 0 rfl ?_
    refine w_icmp_ge (pc := 60) (tgt := 87) X dX9_patterns_60 (by decide) (fun c9 => ?_) (fun c9 => ?_)
    · replace h := it_pos c9 h
      cases h
      exact w_sub (pc := 87) [2, 3] rfl K
    · replace h := it_neg c9 h
      refine w_iload_n (pc := 63) X dX9_patterns_63 2 rfl ?_
      refine w_iload (pc := 64) X dX9_patterns_64 3 rfl ?_
      refine w_iadd (pc := 66) X dX9_patterns_66 ?_
      refine w_istore (pc := 67) X dX9_patterns_67 (by decide) (lv' := [(6, .int (v3 + v4)), (1, .int a1), (2, .int a2), (3, .int v3), (4, .int v4), (5, .int v5)]) rfl ?_
      refine w_iload (pc := 69) X dX9_patterns_69 4 rfl ?_
      refine w_iload_n (pc := 71) X dX9_patterns_71 2 rfl ?_
      refine w_iload (pc := 72) X dX9_patterns_72 0 rfl ?_
      refine w_imul (pc := 74) X dX9_patterns_74 ?_
      refine w_iadd (pc := 75) X dX9_patterns_75 ?_
      refine w_istore (pc := 76) X dX9_patterns_76 (by decide) (lv' := [(4, .int (v4 + (a2 * (v3 + v4)))), (6, .int (v3 + v4)), (1, .int a1), (2, .int a2), (3, .int v3), (5, .int v5)]) rfl ?_
      refine w_iload (pc := 78) X dX9_patterns_78 1 rfl ?_
      refine w_istore_n (pc := 80) X dX9_patterns_80 3 rfl (by decide) (lv' := [(3, .int (v3 + v4)), (4, .int (v4 + (a2 * (v3 + v4)))), (6, .int (v3 + v4)), (1, .int a1), (2, .int a2), (5, .int v5)]) rfl ?_
      refine w_iinc (pc := 81) X dX9_patterns_81 5 rfl (v := (v5 + 1)) rfl (by decide) (lv' := [(5, .int (v5 + 1)), (3, .int (v3 + v4)), (4, .int (v4 + (a2 * (v3 + v4)))), (6, .int (v3 + v4)), (1, .int a1), (2, .int a2)]) rfl ?_
      refine w_goto (tgt := 57) (pc := 84) X dX9_patterns_84 (by decide) ?_
      exact w_sub (pc := 57) [4, 5, 1, 2, 0] rfl (ih _ _ _ _ _ h K)
set_option maxRecDepth 20000 in
theorem M9_patterns {o : Nat} {a1 : Int32} {s : Sto} {r : Int32} {σ' : Sto} (h : f9_patterns o a1 s = some (r, σ')) : Ct yX9_patterns cX9_patterns 7 (some .int) 1 25 (fun ad => [.ref (ad o), .int a1]) s (fun ad => some (.int r)) σ' := by
  unfold f9_patterns at h
  obtain ⟨k_o, h⟩ := gd_inv h
  refine Ct_of (by decide) (fun ad => Nat.le_of_ble_eq_true rfl) (fun φ ad X hQ => ?_)
  show wpm φ ad 0 [(0, .ref (ad o)), (1, .int a1)] [] s
  replace X : Cx φ ad cX9_patterns (some .int) RX9 7 1 25 := X
  refine w_iload_n (pc := 0) X dX9_patterns_0 1 rfl ?_
  refine w_i2l (pc := 1) X dX9_patterns_1 ?_
  refine w_lconst (pc := 2) X dX9_patterns_2 (v := 0) rfl ?_
  refine w_ldc2 (pc := 3) X dX9_patterns_3 (v := (8)) cn_9_107 ?_
  obtain ⟨r3, s1, h2, h⟩ := bd2_inv h
  refine w_callS (pc := 6) X dX9_patterns_6 (M9_in h2) rfl cw_9_101 ⟨Nat.le_of_ble_eq_true rfl, Nat.le_of_ble_eq_true rfl⟩ rfl rfl (Nat.le_of_ble_eq_true rfl) ?_
  show wpm φ ad 9 [(0, .ref (ad o)), (1, .int a1)] [.int r3] s1
  refine w_if_ne (pc := 9) (tgt := 15) X dX9_patterns_9 (by decide) (fun c13 => ?_) (fun c13 => ?_)
  · replace h := it_neg c13 h
    refine w_iconst (pc := 15) X dX9_patterns_15 (v := 0) rfl ?_
    refine w_istore_n (pc := 16) X dX9_patterns_16 2 rfl (by decide) (lv' := [(2, .int (0 : Int32)), (0, .ref (ad o)), (1, .int a1)]) rfl ?_
    refine w_iconst (pc := 17) X dX9_patterns_17 (v := 0) rfl ?_
    refine w_istore_n (pc := 18) X dX9_patterns_18 3 rfl (by decide) (lv' := [(3, .int (0 : Int32)), (2, .int (0 : Int32)), (0, .ref (ad o)), (1, .int a1)]) rfl ?_
    obtain ⟨y8, h7, h⟩ := bd1_inv h
    refine w_sub (pc := 19) [2, 3, 1, 0] rfl (WL9_patterns_19 X o a1 s1 k_o FU (0 : Int32) (0 : Int32) y8 h7 ?_)
    refine w_iconst (pc := 49) X dX9_patterns_49 (v := 1) rfl ?_
    refine w_istore_n (pc := 50) X dX9_patterns_50 3 rfl (by decide) (lv' := [(3, .int (1 : Int32)), (1, .int a1), (2, .int y8)]) rfl ?_
    refine w_iconst (pc := 51) X dX9_patterns_51 (v := 0) rfl ?_
    refine w_istore (pc := 52) X dX9_patterns_52 (by decide) (lv' := [(4, .int (0 : Int32)), (3, .int (1 : Int32)), (1, .int a1), (2, .int y8)]) rfl ?_
    refine w_iconst (pc := 54) X dX9_patterns_54 (v := 0) rfl ?_
    refine w_istore (pc := 55) X dX9_patterns_55 (by decide) (lv' := [(5, .int (0 : Int32)), (4, .int (0 : Int32)), (3, .int (1 : Int32)), (1, .int a1), (2, .int y8)]) rfl ?_
    obtain ⟨y11, y12, h10, h⟩ := bd2_inv h
    refine w_sub (pc := 57) [3, 4, 2, 1, 0] rfl (WL9_patterns_57 X a1 y8 s1  FU (1 : Int32) (0 : Int32) (0 : Int32) y11 y12 h10 ?_)
    refine w_iload_n (pc := 87) X dX9_patterns_87 0 rfl ?_
    refine w_iload (pc := 88) X dX9_patterns_88 1 rfl ?_
    refine w_iadd (pc := 90) X dX9_patterns_90 ?_
    cases h
    exact w_iret X hQ dX9_patterns_91
  · replace h := it_pos c13 h
    refine w_bipush (pc := 12) X dX9_patterns_12 (v := (-2)) rfl ?_
    cases h
    exact w_iret X hQ dX9_patterns_14
set_option maxRecDepth 20000 in
theorem M9_drawn {o : Nat} {a1 : Int32} {s : Sto} {σ' : Sto} (h : f9_drawn o a1 s = some σ') : Ct yX9_drawn cX9_drawn 3 none 3 66 (fun ad => [.ref (ad o), .int a1]) s (fun _ => none) σ' := by
  unfold f9_drawn at h
  obtain ⟨k_o, h⟩ := gd_inv h
  refine Ct_of (by decide) (fun ad => Nat.le_of_ble_eq_true rfl) (fun φ ad X hQ => ?_)
  show wpm φ ad 0 [(0, .ref (ad o)), (1, .int a1)] [] s
  replace X : Cx φ ad cX9_drawn none RX9 3 3 66 := X
  refine w_iload_n (pc := 0) X dX9_drawn_0 1 rfl ?_
  refine w_bipush (pc := 1) X dX9_drawn_1 (v := (8)) rfl ?_
  refine w_irem (pc := 3) X dX9_drawn_3 (by decide) ?_
  obtain ⟨x1, e_x1, h⟩ := nm_inv h
  refine w_nmi e_x1 ?_
  refine w_istore_n (pc := 4) X dX9_drawn_4 2 rfl (by decide) (lv' := [(2, .int x1), (0, .ref (ad o)), (1, .int a1)]) rfl ?_
  refine w_aload_n (pc := 5) X dX9_drawn_5 1 rfl ?_
  refine w_getR (pc := 6) X dX9_drawn_6 clO_9 k_o 13 (by decide) (d := 8) rfl fl_9_31 ?_
  refine w_iconst (pc := 9) X dX9_drawn_9 (v := 0) rfl ?_
  refine w_iload_n (pc := 10) X dX9_drawn_10 0 rfl ?_
  obtain ⟨x5, h21, h⟩ := bd1_inv h
  have K11 : wpm φ ad 37 [(0, .ref (ad o)), (1, .int a1)] [.int x5, .int (0 : Int32), .ref (ad (o + 8))] s := by
    obtain ⟨g6, h⟩ := gd_inv h
    refine w_iast (pc := 37) X dX9_drawn_37 (kp_9_8 k_o) g6 ?_
    obtain ⟨s7, e_s7, h⟩ := nm_inv h
    refine w_nm e_s7 ?_
    refine w_aload_n (pc := 38) X dX9_drawn_38 0 rfl ?_
    refine w_getR (pc := 39) X dX9_drawn_39 clO_9 k_o 14 (by decide) (d := 9) rfl fl_9_34 ?_
    refine w_iconst (pc := 42) X dX9_drawn_42 (v := 0) rfl ?_
    refine w_iload_n (pc := 43) X dX9_drawn_43 1 rfl ?_
    refine w_bipush (pc := 44) X dX9_drawn_44 (v := (8)) rfl ?_
    refine w_idiv (pc := 46) X dX9_drawn_46 (by decide) ?_
    refine w_bipush (pc := 47) X dX9_drawn_47 (v := (6)) rfl ?_
    refine w_irem (pc := 49) X dX9_drawn_49 (by decide) ?_
    obtain ⟨g8, h⟩ := gd_inv h
    refine w_iast (pc := 50) X dX9_drawn_50 (kp_9_9 k_o) g8 ?_
    obtain ⟨s9, e_s9, h⟩ := nm_inv h
    refine w_nm e_s9 ?_
    refine w_aload_n (pc := 51) X dX9_drawn_51 0 rfl ?_
    refine w_getR (pc := 52) X dX9_drawn_52 clO_9 k_o 15 (by decide) (d := 10) rfl fl_9_37 ?_
    refine w_iconst (pc := 55) X dX9_drawn_55 (v := 0) rfl ?_
    refine w_iload_n (pc := 56) X dX9_drawn_56 1 rfl ?_
    refine w_bipush (pc := 57) X dX9_drawn_57 (v := (48)) rfl ?_
    refine w_idiv (pc := 59) X dX9_drawn_59 (by decide) ?_
    refine w_aload_n (pc := 60) X dX9_drawn_60 0 rfl ?_
    refine w_getI (pc := 61) X dX9_drawn_61 clO_9 k_o 0 (by decide) rfl fl_9_85 ?_
    obtain ⟨g10, h⟩ := gd_inv h
    refine w_irem (pc := 64) X dX9_drawn_64 g10 ?_
    obtain ⟨g11, h⟩ := gd_inv h
    refine w_iast (pc := 65) X dX9_drawn_65 (kp_9_10 k_o) g11 ?_
    obtain ⟨s12, e_s12, h⟩ := nm_inv h
    refine w_nm e_s12 ?_
    refine w_aload_n (pc := 66) X dX9_drawn_66 0 rfl ?_
    refine w_getR (pc := 67) X dX9_drawn_67 clO_9 k_o 16 (by decide) (d := 11) rfl fl_9_40 ?_
    refine w_iconst (pc := 70) X dX9_drawn_70 (v := 0) rfl ?_
    refine w_iload_n (pc := 71) X dX9_drawn_71 1 rfl ?_
    refine w_sipush (pc := 72) X dX9_drawn_72 (v := (480)) rfl ?_
    refine w_idiv (pc := 75) X dX9_drawn_75 (by decide) ?_
    refine w_iconst (pc := 76) X dX9_drawn_76 (v := 2) rfl ?_
    refine w_irem (pc := 77) X dX9_drawn_77 (by decide) ?_
    obtain ⟨g13, h⟩ := gd_inv h
    refine w_iast (pc := 78) X dX9_drawn_78 (kp_9_11 k_o) g13 ?_
    obtain ⟨s14, e_s14, h⟩ := nm_inv h
    refine w_nm e_s14 ?_
    refine w_aload_n (pc := 79) X dX9_drawn_79 0 rfl ?_
    refine w_iconst (pc := 80) X dX9_drawn_80 (v := 0) rfl ?_
    refine w_aload_n (pc := 81) X dX9_drawn_81 0 rfl ?_
    refine w_getI (pc := 82) X dX9_drawn_82 clO_9 k_o 1 (by decide) rfl fl_9_89 ?_
    obtain ⟨r17, s15, h16, h⟩ := bd2_inv h
    refine w_callV (pc := 85) X dX9_drawn_85 (M9_whyNot h16) k_o (by decide) rfl cw_9_197 ⟨Nat.le_of_ble_eq_true rfl, Nat.le_of_ble_eq_true rfl⟩ rfl rfl (Nat.le_of_ble_eq_true rfl) ?_
    show wpm φ ad 88 [(0, .ref (ad o)), (1, .int a1)] [.int r17] s15
    refine w_if_ne (pc := 88) (tgt := 100) X dX9_drawn_88 (by decide) (fun c20 => ?_) (fun c20 => ?_)
    · replace h := it_neg c20 h
      cases h
      exact w_vret X hQ dX9_drawn_100
    · replace h := it_pos c20 h
      refine w_aload_n (pc := 91) X dX9_drawn_91 0 rfl ?_
      refine w_iconst (pc := 92) X dX9_drawn_92 (v := 0) rfl ?_
      refine w_aload_n (pc := 93) X dX9_drawn_93 0 rfl ?_
      refine w_getI (pc := 94) X dX9_drawn_94 clO_9 k_o 1 (by decide) rfl fl_9_89 ?_
      obtain ⟨s18, h19, h⟩ := bd1_inv h
      refine w_callV (pc := 97) X dX9_drawn_97 (M9_happen h19) k_o (by decide) rfl cw_9_201 ⟨Nat.le_of_ble_eq_true rfl, Nat.le_of_ble_eq_true rfl⟩ rfl rfl (Nat.le_of_ble_eq_true rfl) ?_
      show wpm φ ad 100 [(0, .ref (ad o)), (1, .int a1)] [] s18
      cases h
      exact w_vret X hQ dX9_drawn_100
  clear h
  have h := h21
  clear h21
  refine w_if_ne (pc := 11) (tgt := 18) X dX9_drawn_11 (by decide) (fun c4 => ?_) (fun c4 => ?_)
  · replace h := it_neg c4 h
    refine w_iload_n (pc := 18) X dX9_drawn_18 0 rfl ?_
    refine w_iconst (pc := 19) X dX9_drawn_19 (v := 1) rfl ?_
    refine w_icmp_ne (pc := 20) (tgt := 27) X dX9_drawn_20 (by decide) (fun c3 => ?_) (fun c3 => ?_)
    · replace h := it_neg c3 h
      refine w_iload_n (pc := 27) X dX9_drawn_27 0 rfl ?_
      refine w_iconst (pc := 28) X dX9_drawn_28 (v := 2) rfl ?_
      refine w_icmp_ne (pc := 29) (tgt := 36) X dX9_drawn_29 (by decide) (fun c2 => ?_) (fun c2 => ?_)
      · replace h := it_neg c2 h
        refine w_iconst (pc := 36) X dX9_drawn_36 (v := 0) rfl ?_
        cases h
        exact w_sub (pc := 37) [1, 2] rfl K11
      · replace h := it_pos c2 h
        refine w_iconst (pc := 32) X dX9_drawn_32 (v := 3) rfl ?_
        refine w_goto (tgt := 37) (pc := 33) X dX9_drawn_33 (by decide) ?_
        cases h
        exact w_sub (pc := 37) [1, 2] rfl K11
    · replace h := it_pos c3 h
      refine w_iconst (pc := 23) X dX9_drawn_23 (v := 2) rfl ?_
      refine w_goto (tgt := 37) (pc := 24) X dX9_drawn_24 (by decide) ?_
      cases h
      exact w_sub (pc := 37) [1, 2] rfl K11
  · replace h := it_pos c4 h
    refine w_iconst (pc := 14) X dX9_drawn_14 (v := 1) rfl ?_
    refine w_goto (tgt := 37) (pc := 15) X dX9_drawn_15 (by decide) ?_
    cases h
    exact w_sub (pc := 37) [1, 2] rfl K11
set_option maxRecDepth 20000 in
theorem WL9_draws_60 {φ : Fr} {ad : Nat → Nat} (X : Cx φ ad cX9_draws (some .int) RX9 6 4 88) (o : Nat) (a2 : Int32) (a3 : Int32) (k_o : kd o = 9) : ∀ (fuel : Nat) (v4 : Int32) (v5 : Int32) (s : Sto)  (t : Sto), L9_draws_60 o a2 a3 fuel v4 v5 s = some (t) → wpm φ ad 96 [(0, .ref (ad o)), (3, .int a3)] [] t → wpm φ ad 60 [(0, .ref (ad o)), (2, .int a2), (3, .int a3), (4, .int v4), (5, .int v5)] [] s := by
  intro fuel
  induction fuel with
  | zero => intro v4 v5 s t h; cases h
  | succ fuel ih =>
    intro v4 v5 s t h K
    unfold L9_draws_60 at h
    refine w_iload (pc := 60) X dX9_draws_60 4 rfl ?_
    refine w_iload_n (pc := 62) X dX9_draws_62 1 rfl ?_
    refine w_icmp_ge (pc := 63) (tgt := 96) X dX9_draws_63 (by decide) (fun c17 => ?_) (fun c17 => ?_)
    · replace h := it_pos c17 h
      cases h
      exact w_sub (pc := 96) [0, 2] rfl K
    · replace h := it_neg c17 h
      refine w_ldc2 (pc := 66) X dX9_draws_66 (v := (75)) cn_9_310 ?_
      refine w_iload (pc := 69) X dX9_draws_69 3 rfl ?_
      refine w_i2l (pc := 71) X dX9_draws_71 ?_
      refine w_lmul (pc := 72) X dX9_draws_72 ?_
      refine w_ldc2 (pc := 73) X dX9_draws_73 (v := (74)) cn_9_312 ?_
      refine w_ladd (pc := 76) X dX9_draws_76 ?_
      refine w_ldc2 (pc := 77) X dX9_draws_77 (v := (65537)) cn_9_314 ?_
      refine w_lrem (pc := 80) X dX9_draws_80 (by decide) ?_
      refine w_l2i (pc := 81) X dX9_draws_81 ?_
      obtain ⟨x14, e_x14, h⟩ := nm_inv h
      refine w_nmi e_x14 ?_
      refine w_istore (pc := 82) X dX9_draws_82 (by decide) (lv' := [(4, .int x14), (0, .ref (ad o)), (2, .int a2), (3, .int a3), (5, .int v5)]) rfl ?_
      refine w_aload_n (pc := 84) X dX9_draws_84 1 rfl ?_
      refine w_iload (pc := 85) X dX9_draws_85 0 rfl ?_
      obtain ⟨s15, h16, h⟩ := bd1_inv h
      refine w_callV (pc := 87) X dX9_draws_87 (M9_drawn h16) k_o (by decide) rfl cw_9_316 ⟨Nat.le_of_ble_eq_true rfl, Nat.le_of_ble_eq_true rfl⟩ rfl rfl (Nat.le_of_ble_eq_true rfl) ?_
      show wpm φ ad 90 [(4, .int x14), (0, .ref (ad o)), (2, .int a2), (3, .int a3), (5, .int v5)] [] s15
      refine w_iinc (pc := 90) X dX9_draws_90 4 rfl (v := (v5 + 1)) rfl (by decide) (lv' := [(5, .int (v5 + 1)), (4, .int x14), (0, .ref (ad o)), (2, .int a2), (3, .int a3)]) rfl ?_
      refine w_goto (tgt := 60) (pc := 93) X dX9_draws_93 (by decide) ?_
      exact w_sub (pc := 60) [2, 3, 4, 1, 0] rfl (ih _ _ _ _ h K)
set_option maxRecDepth 20000 in
theorem M9_draws {o : Nat} {a1 : Int32} {a2 : Int32} {a3 : Int32} {s : Sto} {r : Int32} {σ' : Sto} (h : f9_draws o a1 a2 a3 s = some (r, σ')) : Ct yX9_draws cX9_draws 6 (some .int) 4 88 (fun ad => [.ref (ad o), .int a1, .int a2, .int a3]) s (fun ad => some (.int r)) σ' := by
  unfold f9_draws at h
  obtain ⟨k_o, h⟩ := gd_inv h
  refine Ct_of (by decide) (fun ad => Nat.le_of_ble_eq_true rfl) (fun φ ad X hQ => ?_)
  show wpm φ ad 0 [(0, .ref (ad o)), (1, .int a1), (2, .int a2), (3, .int a3)] [] s
  replace X : Cx φ ad cX9_draws (some .int) RX9 6 4 88 := X
  refine w_iload_n (pc := 0) X dX9_draws_0 1 rfl ?_
  refine w_i2l (pc := 1) X dX9_draws_1 ?_
  refine w_lconst (pc := 2) X dX9_draws_2 (v := 0) rfl ?_
  refine w_ldc2 (pc := 3) X dX9_draws_3 (v := (9999)) cn_9_306 ?_
  obtain ⟨r3, s1, h2, h⟩ := bd2_inv h
  refine w_callS (pc := 6) X dX9_draws_6 (M9_in h2) rfl cw_9_101 ⟨Nat.le_of_ble_eq_true rfl, Nat.le_of_ble_eq_true rfl⟩ rfl rfl (Nat.le_of_ble_eq_true rfl) ?_
  show wpm φ ad 9 [(0, .ref (ad o)), (1, .int a1), (2, .int a2), (3, .int a3)] [.int r3] s1
  refine w_if_eq (pc := 9) (tgt := 36) X dX9_draws_9 (by decide) (fun c28 => ?_) (fun c28 => ?_)
  · replace h := it_pos c28 h
    refine w_bipush (pc := 36) X dX9_draws_36 (v := (-2)) rfl ?_
    cases h
    exact w_iret X hQ dX9_draws_38
  · replace h := it_neg c28 h
    refine w_iload_n (pc := 12) X dX9_draws_12 2 rfl ?_
    refine w_i2l (pc := 13) X dX9_draws_13 ?_
    refine w_lconst (pc := 14) X dX9_draws_14 (v := 1) rfl ?_
    refine w_ldc2 (pc := 15) X dX9_draws_15 (v := (99)) cn_9_308 ?_
    obtain ⟨r6, s4, h5, h⟩ := bd2_inv h
    refine w_callS (pc := 18) X dX9_draws_18 (M9_in h5) rfl cw_9_101 ⟨Nat.le_of_ble_eq_true rfl, Nat.le_of_ble_eq_true rfl⟩ rfl rfl (Nat.le_of_ble_eq_true rfl) ?_
    show wpm φ ad 21 [(0, .ref (ad o)), (1, .int a1), (2, .int a2), (3, .int a3)] [.int r6] s4
    refine w_if_eq (pc := 21) (tgt := 36) X dX9_draws_21 (by decide) (fun c27 => ?_) (fun c27 => ?_)
    · replace h := it_pos c27 h
      refine w_bipush (pc := 36) X dX9_draws_36 (v := (-2)) rfl ?_
      cases h
      exact w_iret X hQ dX9_draws_38
    · replace h := it_neg c27 h
      refine w_iload_n (pc := 24) X dX9_draws_24 3 rfl ?_
      refine w_i2l (pc := 25) X dX9_draws_25 ?_
      refine w_lconst (pc := 26) X dX9_draws_26 (v := 0) rfl ?_
      refine w_ldc2 (pc := 27) X dX9_draws_27 (v := (2)) cn_9_116 ?_
      obtain ⟨r9, s7, h8, h⟩ := bd2_inv h
      refine w_callS (pc := 30) X dX9_draws_30 (M9_in h8) rfl cw_9_101 ⟨Nat.le_of_ble_eq_true rfl, Nat.le_of_ble_eq_true rfl⟩ rfl rfl (Nat.le_of_ble_eq_true rfl) ?_
      show wpm φ ad 33 [(0, .ref (ad o)), (1, .int a1), (2, .int a2), (3, .int a3)] [.int r9] s7
      refine w_if_ne (pc := 33) (tgt := 39) X dX9_draws_33 (by decide) (fun c26 => ?_) (fun c26 => ?_)
      · replace h := it_neg c26 h
        refine w_aload_n (pc := 39) X dX9_draws_39 0 rfl ?_
        obtain ⟨s10, h11, h⟩ := bd1_inv h
        refine w_callV (pc := 40) X dX9_draws_40 (M9_keepNow h11) k_o (by decide) rfl cw_9_207 ⟨Nat.le_of_ble_eq_true rfl, Nat.le_of_ble_eq_true rfl⟩ rfl rfl (Nat.le_of_ble_eq_true rfl) ?_
        show wpm φ ad 43 [(0, .ref (ad o)), (1, .int a1), (2, .int a2), (3, .int a3)] [] s10
        refine w_aload_n (pc := 43) X dX9_draws_43 0 rfl ?_
        refine w_iconst (pc := 44) X dX9_draws_44 (v := 0) rfl ?_
        refine w_putI (pc := 45) X dX9_draws_45 clO_9 k_o 21 (by decide) rfl rfl (Or.inl rfl) fl_9_155 ?_
        obtain ⟨s12, e_s12, h⟩ := nm_inv h
        refine w_nm e_s12 ?_
        refine w_aload_n (pc := 48) X dX9_draws_48 0 rfl ?_
        refine w_bipush (pc := 49) X dX9_draws_49 (v := (-6)) rfl ?_
        refine w_putI (pc := 51) X dX9_draws_51 clO_9 k_o 25 (by decide) rfl rfl (Or.inl rfl) fl_9_164 ?_
        obtain ⟨s13, e_s13, h⟩ := nm_inv h
        refine w_nm e_s13 ?_
        refine w_iload_n (pc := 54) X dX9_draws_54 1 rfl ?_
        refine w_istore (pc := 55) X dX9_draws_55 (by decide) (lv' := [(4, .int a1), (0, .ref (ad o)), (1, .int a1), (2, .int a2), (3, .int a3)]) rfl ?_
        refine w_iconst (pc := 57) X dX9_draws_57 (v := 0) rfl ?_
        refine w_istore (pc := 58) X dX9_draws_58 (by decide) (lv' := [(5, .int (0 : Int32)), (4, .int a1), (0, .ref (ad o)), (1, .int a1), (2, .int a2), (3, .int a3)]) rfl ?_
        obtain ⟨s19, h18, h⟩ := bd1_inv h
        refine w_sub (pc := 60) [2, 4, 5, 1, 0] rfl (WL9_draws_60 X o a2 a3 k_o FU a1 (0 : Int32) s13 s19 h18 ?_)
        refine w_iload_n (pc := 96) X dX9_draws_96 1 rfl ?_
        obtain ⟨x22, h25, h⟩ := bd1_inv h
        have K97 : wpm φ ad 123 [(0, .ref (ad o))] [.int x22] s19 := by
          refine w_istore (pc := 123) X dX9_draws_123 (by decide) (lv' := [(5, .int x22), (0, .ref (ad o))]) rfl ?_
          refine w_aload_n (pc := 125) X dX9_draws_125 1 rfl ?_
          obtain ⟨s23, h24, h⟩ := bd1_inv h
          refine w_callV (pc := 126) X dX9_draws_126 (M9_putBack h24) k_o (by decide) rfl cw_9_219 ⟨Nat.le_of_ble_eq_true rfl, Nat.le_of_ble_eq_true rfl⟩ rfl rfl (Nat.le_of_ble_eq_true rfl) ?_
          show wpm φ ad 129 [(5, .int x22), (0, .ref (ad o))] [] s23
          refine w_iload (pc := 129) X dX9_draws_129 0 rfl ?_
          cases h
          exact w_iret X hQ dX9_draws_131
        clear h
        have h := h25
        clear h25
        refine w_if_ne (pc := 97) (tgt := 107) X dX9_draws_97 (by decide) (fun c21 => ?_) (fun c21 => ?_)
        · replace h := it_neg c21 h
          refine w_iload_n (pc := 107) X dX9_draws_107 1 rfl ?_
          refine w_iconst (pc := 108) X dX9_draws_108 (v := 1) rfl ?_
          refine w_icmp_ne (pc := 109) (tgt := 119) X dX9_draws_109 (by decide) (fun c20 => ?_) (fun c20 => ?_)
          · replace h := it_neg c20 h
            refine w_aload_n (pc := 119) X dX9_draws_119 0 rfl ?_
            refine w_getI (pc := 120) X dX9_draws_120 clO_9 k_o 4 (by decide) rfl fl_9_95 ?_
            cases h
            exact w_sub (pc := 123) [0] rfl K97
          · replace h := it_pos c20 h
            refine w_aload_n (pc := 112) X dX9_draws_112 0 rfl ?_
            refine w_getI (pc := 113) X dX9_draws_113 clO_9 k_o 21 (by decide) rfl fl_9_155 ?_
            refine w_goto (tgt := 123) (pc := 116) X dX9_draws_116 (by decide) ?_
            cases h
            exact w_sub (pc := 123) [0] rfl K97
        · replace h := it_pos c21 h
          refine w_aload_n (pc := 100) X dX9_draws_100 0 rfl ?_
          refine w_getI (pc := 101) X dX9_draws_101 clO_9 k_o 3 (by decide) rfl fl_9_92 ?_
          refine w_goto (tgt := 123) (pc := 104) X dX9_draws_104 (by decide) ?_
          cases h
          exact w_sub (pc := 123) [0] rfl K97
      · replace h := it_pos c26 h
        refine w_bipush (pc := 36) X dX9_draws_36 (v := (-2)) rfl ?_
        cases h
        exact w_iret X hQ dX9_draws_38
set_option maxRecDepth 20000 in
theorem M9_pass {o : Nat} {a1 : Int32} {s : Sto} {r : Int32} {σ' : Sto} (h : f9_pass o a1 s = some (r, σ')) : Ct yX9_pass cX9_pass 3 (some .int) 0 0 (fun ad => [.ref (ad o), .int a1]) s (fun ad => some (.int r)) σ' := by
  unfold f9_pass at h
  obtain ⟨k_o, h⟩ := gd_inv h
  refine Ct_of (by decide) (fun ad => Nat.le_of_ble_eq_true rfl) (fun φ ad X hQ => ?_)
  show wpm φ ad 0 [(0, .ref (ad o)), (1, .int a1)] [] s
  replace X : Cx φ ad cX9_pass (some .int) RX9 3 0 0 := X
  refine w_aload_n (pc := 0) X dX9_pass_0 0 rfl ?_
  refine w_getI (pc := 1) X dX9_pass_1 clO_9 k_o 46 (by decide) rfl fl_9_319 ?_
  obtain ⟨x3, h7, h⟩ := bd1_inv h
  have K4 : wpm φ ad 20 [(0, .ref (ad o))] [.int x3] s := by
    refine w_istore_n (pc := 20) X dX9_pass_20 2 rfl (by decide) (lv' := [(2, .int x3), (0, .ref (ad o))]) rfl ?_
    refine w_aload_n (pc := 21) X dX9_pass_21 1 rfl ?_
    refine w_getR (pc := 22) X dX9_pass_22 clO_9 k_o 43 (by decide) (d := 22) rfl fl_9_74 ?_
    refine w_aload_n (pc := 25) X dX9_pass_25 1 rfl ?_
    refine w_getI (pc := 26) X dX9_pass_26 clO_9 k_o 45 (by decide) rfl fl_9_322 ?_
    refine w_iload_n (pc := 29) X dX9_pass_29 0 rfl ?_
    obtain ⟨g4, h⟩ := gd_inv h
    refine w_iast (pc := 30) X dX9_pass_30 (kp_9_22 k_o) g4 ?_
    obtain ⟨s5, e_s5, h⟩ := nm_inv h
    refine w_nm e_s5 ?_
    refine w_aload_n (pc := 31) X dX9_pass_31 1 rfl ?_
    refine w_dup (pc := 32) X dX9_pass_32 rfl ?_
    refine w_getI (pc := 33) X dX9_pass_33 clO_9 k_o 45 (by decide) rfl fl_9_322 ?_
    refine w_iconst (pc := 36) X dX9_pass_36 (v := 1) rfl ?_
    refine w_iadd (pc := 37) X dX9_pass_37 ?_
    refine w_putI (pc := 38) X dX9_pass_38 clO_9 k_o 45 (by decide) rfl rfl (Or.inl rfl) fl_9_322 ?_
    obtain ⟨s6, e_s6, h⟩ := nm_inv h
    refine w_nm e_s6 ?_
    refine w_iload_n (pc := 41) X dX9_pass_41 0 rfl ?_
    cases h
    exact w_iret X hQ dX9_pass_42
  clear h
  have h := h7
  clear h7
  refine w_if_eq (pc := 4) (tgt := 11) X dX9_pass_4 (by decide) (fun c2 => ?_) (fun c2 => ?_)
  · replace h := it_pos c2 h
    refine w_aload_n (pc := 11) X dX9_pass_11 0 rfl ?_
    refine w_getR (pc := 12) X dX9_pass_12 clO_9 k_o 43 (by decide) (d := 22) rfl fl_9_74 ?_
    refine w_aload_n (pc := 15) X dX9_pass_15 0 rfl ?_
    refine w_getI (pc := 16) X dX9_pass_16 clO_9 k_o 45 (by decide) rfl fl_9_322 ?_
    obtain ⟨g1, h⟩ := gd_inv h
    refine w_iald (pc := 19) X dX9_pass_19 (kp_9_22 k_o) g1 ?_
    cases h
    exact w_sub (pc := 20) [0] rfl K4
  · replace h := it_neg c2 h
    refine w_iload_n (pc := 7) X dX9_pass_7 1 rfl ?_
    refine w_goto (tgt := 20) (pc := 8) X dX9_pass_8 (by decide) ?_
    cases h
    exact w_sub (pc := 20) [0] rfl K4
set_option maxRecDepth 20000 in
theorem WL9_passAll_62 {φ : Fr} {ad : Nat → Nat} (X : Cx φ ad cX9_passAll none RX9 2 1 22) (o : Nat) (k_o : kd o = 9) : ∀ (fuel : Nat) (v1 : Int32) (s : Sto)  (t : Sto), L9_passAll_62 o fuel v1 s = some (t) → wpm φ ad 90 [(0, .ref (ad o))] [] t → wpm φ ad 62 [(0, .ref (ad o)), (1, .int v1)] [] s := by
  intro fuel
  induction fuel with
  | zero => intro v1 s t h; cases h
  | succ fuel ih =>
    intro v1 s t h K
    unfold L9_passAll_62 at h
    refine w_iload_n (pc := 62) X dX9_passAll_62 1 rfl ?_
    refine w_bipush (pc := 63) X dX9_passAll_63 (v := (6)) rfl ?_
    refine w_icmp_ge (pc := 65) (tgt := 90) X dX9_passAll_65 (by decide) (fun c27 => ?_) (fun c27 => ?_)
    · replace h := it_pos c27 h
      cases h
      exact w_sub (pc := 90) [0] rfl K
    · replace h := it_neg c27 h
      refine w_aload_n (pc := 68) X dX9_passAll_68 0 rfl ?_
      refine w_getR (pc := 69) X dX9_passAll_69 clO_9 k_o 2 (by decide) (d := 1) rfl fl_9_7 ?_
      refine w_iload_n (pc := 72) X dX9_passAll_72 1 rfl ?_
      refine w_aload_n (pc := 73) X dX9_passAll_73 0 rfl ?_
      refine w_aload_n (pc := 74) X dX9_passAll_74 0 rfl ?_
      refine w_getR (pc := 75) X dX9_passAll_75 clO_9 k_o 2 (by decide) (d := 1) rfl fl_9_7 ?_
      refine w_iload_n (pc := 78) X dX9_passAll_78 1 rfl ?_
      obtain ⟨g21, h⟩ := gd_inv h
      refine w_iald (pc := 79) X dX9_passAll_79 (kp_9_1 k_o) g21 ?_
      obtain ⟨r24, s22, h23, h⟩ := bd2_inv h
      refine w_callV (pc := 80) X dX9_passAll_80 (M9_pass h23) k_o (by decide) rfl cw_9_325 ⟨Nat.le_of_ble_eq_true rfl, Nat.le_of_ble_eq_true rfl⟩ rfl rfl (Nat.le_of_ble_eq_true rfl) ?_
      show wpm φ ad 83 [(0, .ref (ad o)), (1, .int v1)] [.int r24, .int v1, .ref (ad (o + 1))] s22
      obtain ⟨g25, h⟩ := gd_inv h
      refine w_iast (pc := 83) X dX9_passAll_83 (kp_9_1 k_o) g25 ?_
      obtain ⟨s26, e_s26, h⟩ := nm_inv h
      refine w_nm e_s26 ?_
      refine w_iinc (pc := 84) X dX9_passAll_84 1 rfl (v := (v1 + 1)) rfl (by decide) (lv' := [(1, .int (v1 + 1)), (0, .ref (ad o))]) rfl ?_
      refine w_goto (tgt := 62) (pc := 87) X dX9_passAll_87 (by decide) ?_
      exact w_sub (pc := 62) [1, 0] rfl (ih _ _ _ h K)
set_option maxRecDepth 20000 in
theorem WL9_passAll_92 {φ : Fr} {ad : Nat → Nat} (X : Cx φ ad cX9_passAll none RX9 2 1 22) (o : Nat) (k_o : kd o = 9) : ∀ (fuel : Nat) (v1 : Int32) (s : Sto)  (t : Sto), L9_passAll_92 o fuel v1 s = some (t) → wpm φ ad 152 [(0, .ref (ad o))] [] t → wpm φ ad 92 [(0, .ref (ad o)), (1, .int v1)] [] s := by
  intro fuel
  induction fuel with
  | zero => intro v1 s t h; cases h
  | succ fuel ih =>
    intro v1 s t h K
    unfold L9_passAll_92 at h
    refine w_iload_n (pc := 92) X dX9_passAll_92 1 rfl ?_
    refine w_bipush (pc := 93) X dX9_passAll_93 (v := (30)) rfl ?_
    refine w_icmp_ge (pc := 95) (tgt := 152) X dX9_passAll_95 (by decide) (fun c48 => ?_) (fun c48 => ?_)
    · replace h := it_pos c48 h
      cases h
      exact w_sub (pc := 152) [0] rfl K
    · replace h := it_neg c48 h
      refine w_aload_n (pc := 98) X dX9_passAll_98 0 rfl ?_
      refine w_getR (pc := 99) X dX9_passAll_99 clO_9 k_o 5 (by decide) (d := 2) rfl fl_9_13 ?_
      refine w_iload_n (pc := 102) X dX9_passAll_102 1 rfl ?_
      refine w_aload_n (pc := 103) X dX9_passAll_103 0 rfl ?_
      refine w_aload_n (pc := 104) X dX9_passAll_104 0 rfl ?_
      refine w_getR (pc := 105) X dX9_passAll_105 clO_9 k_o 5 (by decide) (d := 2) rfl fl_9_13 ?_
      refine w_iload_n (pc := 108) X dX9_passAll_108 1 rfl ?_
      obtain ⟨g30, h⟩ := gd_inv h
      refine w_iald (pc := 109) X dX9_passAll_109 (kp_9_2 k_o) g30 ?_
      obtain ⟨r33, s31, h32, h⟩ := bd2_inv h
      refine w_callV (pc := 110) X dX9_passAll_110 (M9_pass h32) k_o (by decide) rfl cw_9_325 ⟨Nat.le_of_ble_eq_true rfl, Nat.le_of_ble_eq_true rfl⟩ rfl rfl (Nat.le_of_ble_eq_true rfl) ?_
      show wpm φ ad 113 [(0, .ref (ad o)), (1, .int v1)] [.int r33, .int v1, .ref (ad (o + 2))] s31
      obtain ⟨g34, h⟩ := gd_inv h
      refine w_iast (pc := 113) X dX9_passAll_113 (kp_9_2 k_o) g34 ?_
      obtain ⟨s35, e_s35, h⟩ := nm_inv h
      refine w_nm e_s35 ?_
      refine w_aload_n (pc := 114) X dX9_passAll_114 0 rfl ?_
      refine w_getR (pc := 115) X dX9_passAll_115 clO_9 k_o 6 (by decide) (d := 3) rfl fl_9_16 ?_
      refine w_iload_n (pc := 118) X dX9_passAll_118 1 rfl ?_
      refine w_aload_n (pc := 119) X dX9_passAll_119 0 rfl ?_
      refine w_aload_n (pc := 120) X dX9_passAll_120 0 rfl ?_
      refine w_getR (pc := 121) X dX9_passAll_121 clO_9 k_o 6 (by decide) (d := 3) rfl fl_9_16 ?_
      refine w_iload_n (pc := 124) X dX9_passAll_124 1 rfl ?_
      obtain ⟨g36, h⟩ := gd_inv h
      refine w_iald (pc := 125) X dX9_passAll_125 (kp_9_3 k_o) g36 ?_
      obtain ⟨r39, s37, h38, h⟩ := bd2_inv h
      refine w_callV (pc := 126) X dX9_passAll_126 (M9_pass h38) k_o (by decide) rfl cw_9_325 ⟨Nat.le_of_ble_eq_true rfl, Nat.le_of_ble_eq_true rfl⟩ rfl rfl (Nat.le_of_ble_eq_true rfl) ?_
      show wpm φ ad 129 [(0, .ref (ad o)), (1, .int v1)] [.int r39, .int v1, .ref (ad (o + 3))] s37
      obtain ⟨g40, h⟩ := gd_inv h
      refine w_iast (pc := 129) X dX9_passAll_129 (kp_9_3 k_o) g40 ?_
      obtain ⟨s41, e_s41, h⟩ := nm_inv h
      refine w_nm e_s41 ?_
      refine w_aload_n (pc := 130) X dX9_passAll_130 0 rfl ?_
      refine w_getR (pc := 131) X dX9_passAll_131 clO_9 k_o 7 (by decide) (d := 4) rfl fl_9_19 ?_
      refine w_iload_n (pc := 134) X dX9_passAll_134 1 rfl ?_
      refine w_aload_n (pc := 135) X dX9_passAll_135 0 rfl ?_
      refine w_aload_n (pc := 136) X dX9_passAll_136 0 rfl ?_
      refine w_getR (pc := 137) X dX9_passAll_137 clO_9 k_o 7 (by decide) (d := 4) rfl fl_9_19 ?_
      refine w_iload_n (pc := 140) X dX9_passAll_140 1 rfl ?_
      obtain ⟨g42, h⟩ := gd_inv h
      refine w_iald (pc := 141) X dX9_passAll_141 (kp_9_4 k_o) g42 ?_
      obtain ⟨r45, s43, h44, h⟩ := bd2_inv h
      refine w_callV (pc := 142) X dX9_passAll_142 (M9_pass h44) k_o (by decide) rfl cw_9_325 ⟨Nat.le_of_ble_eq_true rfl, Nat.le_of_ble_eq_true rfl⟩ rfl rfl (Nat.le_of_ble_eq_true rfl) ?_
      show wpm φ ad 145 [(0, .ref (ad o)), (1, .int v1)] [.int r45, .int v1, .ref (ad (o + 4))] s43
      obtain ⟨g46, h⟩ := gd_inv h
      refine w_iast (pc := 145) X dX9_passAll_145 (kp_9_4 k_o) g46 ?_
      obtain ⟨s47, e_s47, h⟩ := nm_inv h
      refine w_nm e_s47 ?_
      refine w_iinc (pc := 146) X dX9_passAll_146 1 rfl (v := (v1 + 1)) rfl (by decide) (lv' := [(1, .int (v1 + 1)), (0, .ref (ad o))]) rfl ?_
      refine w_goto (tgt := 92) (pc := 149) X dX9_passAll_149 (by decide) ?_
      exact w_sub (pc := 92) [1, 0] rfl (ih _ _ _ h K)
set_option maxRecDepth 20000 in
theorem WL9_passAll_154 {φ : Fr} {ad : Nat → Nat} (X : Cx φ ad cX9_passAll none RX9 2 1 22) (o : Nat) (k_o : kd o = 9) : ∀ (fuel : Nat) (v1 : Int32) (s : Sto)  (t : Sto), L9_passAll_154 o fuel v1 s = some (t) → wpm φ ad 198 [] [] t → wpm φ ad 154 [(0, .ref (ad o)), (1, .int v1)] [] s := by
  intro fuel
  induction fuel with
  | zero => intro v1 s t h; cases h
  | succ fuel ih =>
    intro v1 s t h K
    unfold L9_passAll_154 at h
    refine w_iload_n (pc := 154) X dX9_passAll_154 1 rfl ?_
    refine w_bipush (pc := 155) X dX9_passAll_155 (v := (8)) rfl ?_
    refine w_icmp_ge (pc := 157) (tgt := 198) X dX9_passAll_157 (by decide) (fun c63 => ?_) (fun c63 => ?_)
    · replace h := it_pos c63 h
      cases h
      exact w_sub (pc := 198) [] rfl K
    · replace h := it_neg c63 h
      refine w_aload_n (pc := 160) X dX9_passAll_160 0 rfl ?_
      refine w_getR (pc := 161) X dX9_passAll_161 clO_9 k_o 8 (by decide) (d := 5) rfl fl_9_22 ?_
      refine w_iload_n (pc := 164) X dX9_passAll_164 1 rfl ?_
      refine w_aload_n (pc := 165) X dX9_passAll_165 0 rfl ?_
      refine w_aload_n (pc := 166) X dX9_passAll_166 0 rfl ?_
      refine w_getR (pc := 167) X dX9_passAll_167 clO_9 k_o 8 (by decide) (d := 5) rfl fl_9_22 ?_
      refine w_iload_n (pc := 170) X dX9_passAll_170 1 rfl ?_
      obtain ⟨g51, h⟩ := gd_inv h
      refine w_iald (pc := 171) X dX9_passAll_171 (kp_9_5 k_o) g51 ?_
      obtain ⟨r54, s52, h53, h⟩ := bd2_inv h
      refine w_callV (pc := 172) X dX9_passAll_172 (M9_pass h53) k_o (by decide) rfl cw_9_325 ⟨Nat.le_of_ble_eq_true rfl, Nat.le_of_ble_eq_true rfl⟩ rfl rfl (Nat.le_of_ble_eq_true rfl) ?_
      show wpm φ ad 175 [(0, .ref (ad o)), (1, .int v1)] [.int r54, .int v1, .ref (ad (o + 5))] s52
      obtain ⟨g55, h⟩ := gd_inv h
      refine w_iast (pc := 175) X dX9_passAll_175 (kp_9_5 k_o) g55 ?_
      obtain ⟨s56, e_s56, h⟩ := nm_inv h
      refine w_nm e_s56 ?_
      refine w_aload_n (pc := 176) X dX9_passAll_176 0 rfl ?_
      refine w_getR (pc := 177) X dX9_passAll_177 clO_9 k_o 9 (by decide) (d := 6) rfl fl_9_25 ?_
      refine w_iload_n (pc := 180) X dX9_passAll_180 1 rfl ?_
      refine w_aload_n (pc := 181) X dX9_passAll_181 0 rfl ?_
      refine w_aload_n (pc := 182) X dX9_passAll_182 0 rfl ?_
      refine w_getR (pc := 183) X dX9_passAll_183 clO_9 k_o 9 (by decide) (d := 6) rfl fl_9_25 ?_
      refine w_iload_n (pc := 186) X dX9_passAll_186 1 rfl ?_
      obtain ⟨g57, h⟩ := gd_inv h
      refine w_iald (pc := 187) X dX9_passAll_187 (kp_9_6 k_o) g57 ?_
      obtain ⟨r60, s58, h59, h⟩ := bd2_inv h
      refine w_callV (pc := 188) X dX9_passAll_188 (M9_pass h59) k_o (by decide) rfl cw_9_325 ⟨Nat.le_of_ble_eq_true rfl, Nat.le_of_ble_eq_true rfl⟩ rfl rfl (Nat.le_of_ble_eq_true rfl) ?_
      show wpm φ ad 191 [(0, .ref (ad o)), (1, .int v1)] [.int r60, .int v1, .ref (ad (o + 6))] s58
      obtain ⟨g61, h⟩ := gd_inv h
      refine w_iast (pc := 191) X dX9_passAll_191 (kp_9_6 k_o) g61 ?_
      obtain ⟨s62, e_s62, h⟩ := nm_inv h
      refine w_nm e_s62 ?_
      refine w_iinc (pc := 192) X dX9_passAll_192 1 rfl (v := (v1 + 1)) rfl (by decide) (lv' := [(1, .int (v1 + 1)), (0, .ref (ad o))]) rfl ?_
      refine w_goto (tgt := 154) (pc := 195) X dX9_passAll_195 (by decide) ?_
      exact w_sub (pc := 154) [1, 0] rfl (ih _ _ _ h K)
set_option maxRecDepth 20000 in
theorem M9_passAll {o : Nat} {s : Sto} {σ' : Sto} (h : f9_passAll o s = some σ') : Ct yX9_passAll cX9_passAll 2 none 1 22 (fun ad => [.ref (ad o)]) s (fun _ => none) σ' := by
  unfold f9_passAll at h
  obtain ⟨k_o, h⟩ := gd_inv h
  refine Ct_of (by decide) (fun ad => Nat.le_of_ble_eq_true rfl) (fun φ ad X hQ => ?_)
  show wpm φ ad 0 [(0, .ref (ad o))] [] s
  replace X : Cx φ ad cX9_passAll none RX9 2 1 22 := X
  refine w_aload_n (pc := 0) X dX9_passAll_0 0 rfl ?_
  refine w_aload_n (pc := 1) X dX9_passAll_1 0 rfl ?_
  refine w_aload_n (pc := 2) X dX9_passAll_2 0 rfl ?_
  refine w_getI (pc := 3) X dX9_passAll_3 clO_9 k_o 0 (by decide) rfl fl_9_85 ?_
  obtain ⟨r3, s1, h2, h⟩ := bd2_inv h
  refine w_callV (pc := 6) X dX9_passAll_6 (M9_pass h2) k_o (by decide) rfl cw_9_325 ⟨Nat.le_of_ble_eq_true rfl, Nat.le_of_ble_eq_true rfl⟩ rfl rfl (Nat.le_of_ble_eq_true rfl) ?_
  show wpm φ ad 9 [(0, .ref (ad o))] [.int r3, .ref (ad o)] s1
  refine w_putI (pc := 9) X dX9_passAll_9 clO_9 k_o 0 (by decide) rfl rfl (Or.inl rfl) fl_9_85 ?_
  obtain ⟨s4, e_s4, h⟩ := nm_inv h
  refine w_nm e_s4 ?_
  refine w_aload_n (pc := 12) X dX9_passAll_12 0 rfl ?_
  refine w_aload_n (pc := 13) X dX9_passAll_13 0 rfl ?_
  refine w_aload_n (pc := 14) X dX9_passAll_14 0 rfl ?_
  refine w_getI (pc := 15) X dX9_passAll_15 clO_9 k_o 1 (by decide) rfl fl_9_89 ?_
  obtain ⟨r7, s5, h6, h⟩ := bd2_inv h
  refine w_callV (pc := 18) X dX9_passAll_18 (M9_pass h6) k_o (by decide) rfl cw_9_325 ⟨Nat.le_of_ble_eq_true rfl, Nat.le_of_ble_eq_true rfl⟩ rfl rfl (Nat.le_of_ble_eq_true rfl) ?_
  show wpm φ ad 21 [(0, .ref (ad o))] [.int r7, .ref (ad o)] s5
  refine w_putI (pc := 21) X dX9_passAll_21 clO_9 k_o 1 (by decide) rfl rfl (Or.inl rfl) fl_9_89 ?_
  obtain ⟨s8, e_s8, h⟩ := nm_inv h
  refine w_nm e_s8 ?_
  refine w_aload_n (pc := 24) X dX9_passAll_24 0 rfl ?_
  refine w_aload_n (pc := 25) X dX9_passAll_25 0 rfl ?_
  refine w_aload_n (pc := 26) X dX9_passAll_26 0 rfl ?_
  refine w_getI (pc := 27) X dX9_passAll_27 clO_9 k_o 3 (by decide) rfl fl_9_92 ?_
  obtain ⟨r11, s9, h10, h⟩ := bd2_inv h
  refine w_callV (pc := 30) X dX9_passAll_30 (M9_pass h10) k_o (by decide) rfl cw_9_325 ⟨Nat.le_of_ble_eq_true rfl, Nat.le_of_ble_eq_true rfl⟩ rfl rfl (Nat.le_of_ble_eq_true rfl) ?_
  show wpm φ ad 33 [(0, .ref (ad o))] [.int r11, .ref (ad o)] s9
  refine w_putI (pc := 33) X dX9_passAll_33 clO_9 k_o 3 (by decide) rfl rfl (Or.inl rfl) fl_9_92 ?_
  obtain ⟨s12, e_s12, h⟩ := nm_inv h
  refine w_nm e_s12 ?_
  refine w_aload_n (pc := 36) X dX9_passAll_36 0 rfl ?_
  refine w_aload_n (pc := 37) X dX9_passAll_37 0 rfl ?_
  refine w_aload_n (pc := 38) X dX9_passAll_38 0 rfl ?_
  refine w_getI (pc := 39) X dX9_passAll_39 clO_9 k_o 4 (by decide) rfl fl_9_95 ?_
  obtain ⟨r15, s13, h14, h⟩ := bd2_inv h
  refine w_callV (pc := 42) X dX9_passAll_42 (M9_pass h14) k_o (by decide) rfl cw_9_325 ⟨Nat.le_of_ble_eq_true rfl, Nat.le_of_ble_eq_true rfl⟩ rfl rfl (Nat.le_of_ble_eq_true rfl) ?_
  show wpm φ ad 45 [(0, .ref (ad o))] [.int r15, .ref (ad o)] s13
  refine w_putI (pc := 45) X dX9_passAll_45 clO_9 k_o 4 (by decide) rfl rfl (Or.inl rfl) fl_9_95 ?_
  obtain ⟨s16, e_s16, h⟩ := nm_inv h
  refine w_nm e_s16 ?_
  refine w_aload_n (pc := 48) X dX9_passAll_48 0 rfl ?_
  refine w_aload_n (pc := 49) X dX9_passAll_49 0 rfl ?_
  refine w_aload_n (pc := 50) X dX9_passAll_50 0 rfl ?_
  refine w_getI (pc := 51) X dX9_passAll_51 clO_9 k_o 10 (by decide) rfl fl_9_98 ?_
  obtain ⟨r19, s17, h18, h⟩ := bd2_inv h
  refine w_callV (pc := 54) X dX9_passAll_54 (M9_pass h18) k_o (by decide) rfl cw_9_325 ⟨Nat.le_of_ble_eq_true rfl, Nat.le_of_ble_eq_true rfl⟩ rfl rfl (Nat.le_of_ble_eq_true rfl) ?_
  show wpm φ ad 57 [(0, .ref (ad o))] [.int r19, .ref (ad o)] s17
  refine w_putI (pc := 57) X dX9_passAll_57 clO_9 k_o 10 (by decide) rfl rfl (Or.inl rfl) fl_9_98 ?_
  obtain ⟨s20, e_s20, h⟩ := nm_inv h
  refine w_nm e_s20 ?_
  refine w_iconst (pc := 60) X dX9_passAll_60 (v := 0) rfl ?_
  refine w_istore_n (pc := 61) X dX9_passAll_61 1 rfl (by decide) (lv' := [(1, .int (0 : Int32)), (0, .ref (ad o))]) rfl ?_
  obtain ⟨s29, h28, h⟩ := bd1_inv h
  refine w_sub (pc := 62) [1, 0] rfl (WL9_passAll_62 X o k_o FU (0 : Int32) s20 s29 h28 ?_)
  refine w_iconst (pc := 90) X dX9_passAll_90 (v := 0) rfl ?_
  refine w_istore_n (pc := 91) X dX9_passAll_91 1 rfl (by decide) (lv' := [(1, .int (0 : Int32)), (0, .ref (ad o))]) rfl ?_
  obtain ⟨s50, h49, h⟩ := bd1_inv h
  refine w_sub (pc := 92) [1, 0] rfl (WL9_passAll_92 X o k_o FU (0 : Int32) s29 s50 h49 ?_)
  refine w_iconst (pc := 152) X dX9_passAll_152 (v := 0) rfl ?_
  refine w_istore_n (pc := 153) X dX9_passAll_153 1 rfl (by decide) (lv' := [(1, .int (0 : Int32)), (0, .ref (ad o))]) rfl ?_
  obtain ⟨s65, h64, h⟩ := bd1_inv h
  refine w_sub (pc := 154) [1, 0] rfl (WL9_passAll_154 X o k_o FU (0 : Int32) s50 s65 h64 ?_)
  cases h
  exact w_vret X hQ dX9_passAll_198
set_option maxRecDepth 20000 in
theorem M9_image {o : Nat} {a1 : Int32} {s : Sto} {r : Int32} {σ' : Sto} (h : f9_image o a1 s = some (r, σ')) : Ct yX9_image cX9_image 2 (some .int) 2 43 (fun ad => [.ref (ad o), .int a1]) s (fun ad => some (.int r)) σ' := by
  unfold f9_image at h
  obtain ⟨k_o, h⟩ := gd_inv h
  refine Ct_of (by decide) (fun ad => Nat.le_of_ble_eq_true rfl) (fun φ ad X hQ => ?_)
  show wpm φ ad 0 [(0, .ref (ad o)), (1, .int a1)] [] s
  replace X : Cx φ ad cX9_image (some .int) RX9 2 2 43 := X
  refine w_iload_n (pc := 0) X dX9_image_0 1 rfl ?_
  refine w_i2l (pc := 1) X dX9_image_1 ?_
  refine w_lconst (pc := 2) X dX9_image_2 (v := 0) rfl ?_
  refine w_lconst (pc := 3) X dX9_image_3 (v := 1) rfl ?_
  obtain ⟨r3, s1, h2, h⟩ := bd2_inv h
  refine w_callS (pc := 4) X dX9_image_4 (M9_in h2) rfl cw_9_101 ⟨Nat.le_of_ble_eq_true rfl, Nat.le_of_ble_eq_true rfl⟩ rfl rfl (Nat.le_of_ble_eq_true rfl) ?_
  show wpm φ ad 7 [(0, .ref (ad o)), (1, .int a1)] [.int r3] s1
  refine w_if_ne (pc := 7) (tgt := 13) X dX9_image_7 (by decide) (fun c10 => ?_) (fun c10 => ?_)
  · replace h := it_neg c10 h
    refine w_aload_n (pc := 13) X dX9_image_13 0 rfl ?_
    refine w_sipush (pc := 14) X dX9_image_14 (v := (130)) rfl ?_
    refine w_iload_n (pc := 17) X dX9_image_17 1 rfl ?_
    refine w_imul (pc := 18) X dX9_image_18 ?_
    refine w_putI (pc := 19) X dX9_image_19 clO_9 k_o 45 (by decide) rfl rfl (Or.inl rfl) fl_9_322 ?_
    obtain ⟨s4, e_s4, h⟩ := nm_inv h
    refine w_nm e_s4 ?_
    refine w_aload_n (pc := 22) X dX9_image_22 0 rfl ?_
    refine w_iconst (pc := 23) X dX9_image_23 (v := 1) rfl ?_
    refine w_putI (pc := 24) X dX9_image_24 clO_9 k_o 46 (by decide) rfl rfl (Or.inr ⟨rfl, Or.inr rfl⟩) fl_9_319 ?_
    obtain ⟨s5, e_s5, h⟩ := nm_inv h
    refine w_nm e_s5 ?_
    refine w_aload_n (pc := 27) X dX9_image_27 0 rfl ?_
    obtain ⟨s6, h7, h⟩ := bd1_inv h
    refine w_callV (pc := 28) X dX9_image_28 (M9_passAll h7) k_o (by decide) rfl cw_9_328 ⟨Nat.le_of_ble_eq_true rfl, Nat.le_of_ble_eq_true rfl⟩ rfl rfl (Nat.le_of_ble_eq_true rfl) ?_
    show wpm φ ad 31 [(0, .ref (ad o)), (1, .int a1)] [] s6
    refine w_aload_n (pc := 31) X dX9_image_31 0 rfl ?_
    refine w_getR (pc := 32) X dX9_image_32 clO_9 k_o 44 (by decide) (d := 23) rfl fl_9_77 ?_
    refine w_iload_n (pc := 35) X dX9_image_35 1 rfl ?_
    refine w_iconst (pc := 36) X dX9_image_36 (v := 1) rfl ?_
    obtain ⟨g8, h⟩ := gd_inv h
    refine w_zast (pc := 37) X dX9_image_37 (kp_9_23 k_o) g8 (Or.inr rfl) ?_
    obtain ⟨s9, e_s9, h⟩ := nm_inv h
    refine w_nm e_s9 ?_
    refine w_iconst (pc := 38) X dX9_image_38 (v := 1) rfl ?_
    cases h
    exact w_iret X hQ dX9_image_39
  · replace h := it_pos c10 h
    refine w_bipush (pc := 10) X dX9_image_10 (v := (-2)) rfl ?_
    cases h
    exact w_iret X hQ dX9_image_12
set_option maxRecDepth 20000 in
theorem M9_restore {o : Nat} {a1 : Int32} {s : Sto} {r : Int32} {σ' : Sto} (h : f9_restore o a1 s = some (r, σ')) : Ct yX9_restore cX9_restore 2 (some .int) 2 43 (fun ad => [.ref (ad o), .int a1]) s (fun ad => some (.int r)) σ' := by
  unfold f9_restore at h
  obtain ⟨k_o, h⟩ := gd_inv h
  refine Ct_of (by decide) (fun ad => Nat.le_of_ble_eq_true rfl) (fun φ ad X hQ => ?_)
  show wpm φ ad 0 [(0, .ref (ad o)), (1, .int a1)] [] s
  replace X : Cx φ ad cX9_restore (some .int) RX9 2 2 43 := X
  refine w_iload_n (pc := 0) X dX9_restore_0 1 rfl ?_
  refine w_i2l (pc := 1) X dX9_restore_1 ?_
  refine w_lconst (pc := 2) X dX9_restore_2 (v := 0) rfl ?_
  refine w_lconst (pc := 3) X dX9_restore_3 (v := 1) rfl ?_
  obtain ⟨r3, s1, h2, h⟩ := bd2_inv h
  refine w_callS (pc := 4) X dX9_restore_4 (M9_in h2) rfl cw_9_101 ⟨Nat.le_of_ble_eq_true rfl, Nat.le_of_ble_eq_true rfl⟩ rfl rfl (Nat.le_of_ble_eq_true rfl) ?_
  show wpm φ ad 7 [(0, .ref (ad o)), (1, .int a1)] [.int r3] s1
  refine w_if_ne (pc := 7) (tgt := 13) X dX9_restore_7 (by decide) (fun c10 => ?_) (fun c10 => ?_)
  · replace h := it_neg c10 h
    refine w_aload_n (pc := 13) X dX9_restore_13 0 rfl ?_
    refine w_getR (pc := 14) X dX9_restore_14 clO_9 k_o 44 (by decide) (d := 23) rfl fl_9_77 ?_
    refine w_iload_n (pc := 17) X dX9_restore_17 1 rfl ?_
    obtain ⟨g4, h⟩ := gd_inv h
    refine w_zald (pc := 18) X dX9_restore_18 (kp_9_23 k_o) g4 ?_
    refine w_if_ne (pc := 19) (tgt := 25) X dX9_restore_19 (by decide) (fun c9 => ?_) (fun c9 => ?_)
    · replace h := it_neg c9 h
      refine w_aload_n (pc := 25) X dX9_restore_25 0 rfl ?_
      refine w_sipush (pc := 26) X dX9_restore_26 (v := (130)) rfl ?_
      refine w_iload_n (pc := 29) X dX9_restore_29 1 rfl ?_
      refine w_imul (pc := 30) X dX9_restore_30 ?_
      refine w_putI (pc := 31) X dX9_restore_31 clO_9 k_o 45 (by decide) rfl rfl (Or.inl rfl) fl_9_322 ?_
      obtain ⟨s5, e_s5, h⟩ := nm_inv h
      refine w_nm e_s5 ?_
      refine w_aload_n (pc := 34) X dX9_restore_34 0 rfl ?_
      refine w_iconst (pc := 35) X dX9_restore_35 (v := 0) rfl ?_
      refine w_putI (pc := 36) X dX9_restore_36 clO_9 k_o 46 (by decide) rfl rfl (Or.inr ⟨rfl, Or.inl rfl⟩) fl_9_319 ?_
      obtain ⟨s6, e_s6, h⟩ := nm_inv h
      refine w_nm e_s6 ?_
      refine w_aload_n (pc := 39) X dX9_restore_39 0 rfl ?_
      obtain ⟨s7, h8, h⟩ := bd1_inv h
      refine w_callV (pc := 40) X dX9_restore_40 (M9_passAll h8) k_o (by decide) rfl cw_9_328 ⟨Nat.le_of_ble_eq_true rfl, Nat.le_of_ble_eq_true rfl⟩ rfl rfl (Nat.le_of_ble_eq_true rfl) ?_
      show wpm φ ad 43 [(0, .ref (ad o)), (1, .int a1)] [] s7
      refine w_iconst (pc := 43) X dX9_restore_43 (v := 1) rfl ?_
      cases h
      exact w_iret X hQ dX9_restore_44
    · replace h := it_pos c9 h
      refine w_bipush (pc := 22) X dX9_restore_22 (v := (-3)) rfl ?_
      cases h
      exact w_iret X hQ dX9_restore_24
  · replace h := it_pos c10 h
    refine w_bipush (pc := 10) X dX9_restore_10 (v := (-2)) rfl ?_
    cases h
    exact w_iret X hQ dX9_restore_12
set_option maxRecDepth 20000 in
theorem M9_told {o : Nat} {a1 : Int32} {s : Sto} {r : Int32} {σ' : Sto} (h : f9_told o a1 s = some (r, σ')) : Ct yX9_told cX9_told 2 (some .int) 1 25 (fun ad => [.ref (ad o), .int a1]) s (fun ad => some (.int r)) σ' := by
  unfold f9_told at h
  obtain ⟨k_o, h⟩ := gd_inv h
  refine Ct_of (by decide) (fun ad => Nat.le_of_ble_eq_true rfl) (fun φ ad X hQ => ?_)
  show wpm φ ad 0 [(0, .ref (ad o)), (1, .int a1)] [] s
  replace X : Cx φ ad cX9_told (some .int) RX9 2 1 25 := X
  refine w_iload_n (pc := 0) X dX9_told_0 1 rfl ?_
  refine w_i2l (pc := 1) X dX9_told_1 ?_
  refine w_ldc2 (pc := 2) X dX9_told_2 (v := (10)) cn_9_285 ?_
  refine w_ldc2 (pc := 5) X dX9_told_5 (v := (15)) cn_9_331 ?_
  obtain ⟨r3, s1, h2, h⟩ := bd2_inv h
  refine w_callS (pc := 8) X dX9_told_8 (M9_in h2) rfl cw_9_101 ⟨Nat.le_of_ble_eq_true rfl, Nat.le_of_ble_eq_true rfl⟩ rfl rfl (Nat.le_of_ble_eq_true rfl) ?_
  show wpm φ ad 11 [(0, .ref (ad o)), (1, .int a1)] [.int r3] s1
  refine w_if_eq (pc := 11) (tgt := 24) X dX9_told_11 (by decide) (fun c11 => ?_) (fun c11 => ?_)
  · replace h := it_pos c11 h
    refine w_iload_n (pc := 24) X dX9_told_24 1 rfl ?_
    refine w_if_ne (pc := 25) (tgt := 35) X dX9_told_25 (by decide) (fun c9 => ?_) (fun c9 => ?_)
    · replace h := it_neg c9 h
      refine w_iload_n (pc := 35) X dX9_told_35 1 rfl ?_
      refine w_iconst (pc := 36) X dX9_told_36 (v := 1) rfl ?_
      refine w_icmp_ne (pc := 37) (tgt := 47) X dX9_told_37 (by decide) (fun c8 => ?_) (fun c8 => ?_)
      · replace h := it_neg c8 h
        refine w_iload_n (pc := 47) X dX9_told_47 1 rfl ?_
        refine w_iconst (pc := 48) X dX9_told_48 (v := 2) rfl ?_
        refine w_icmp_ne (pc := 49) (tgt := 59) X dX9_told_49 (by decide) (fun c7 => ?_) (fun c7 => ?_)
        · replace h := it_neg c7 h
          refine w_iload_n (pc := 59) X dX9_told_59 1 rfl ?_
          refine w_iconst (pc := 60) X dX9_told_60 (v := 3) rfl ?_
          refine w_icmp_ne (pc := 61) (tgt := 71) X dX9_told_61 (by decide) (fun c6 => ?_) (fun c6 => ?_)
          · replace h := it_neg c6 h
            refine w_iload_n (pc := 71) X dX9_told_71 1 rfl ?_
            refine w_iconst (pc := 72) X dX9_told_72 (v := 4) rfl ?_
            refine w_icmp_ne (pc := 73) (tgt := 83) X dX9_told_73 (by decide) (fun c5 => ?_) (fun c5 => ?_)
            · replace h := it_neg c5 h
              refine w_iload_n (pc := 83) X dX9_told_83 1 rfl ?_
              refine w_iconst (pc := 84) X dX9_told_84 (v := 5) rfl ?_
              refine w_icmp_ne (pc := 85) (tgt := 95) X dX9_told_85 (by decide) (fun c4 => ?_) (fun c4 => ?_)
              · replace h := it_neg c4 h
                refine w_bipush (pc := 95) X dX9_told_95 (v := (-2)) rfl ?_
                cases h
                exact w_iret X hQ dX9_told_97
              · replace h := it_pos c4 h
                refine w_aload_n (pc := 88) X dX9_told_88 0 rfl ?_
                refine w_getI (pc := 89) X dX9_told_89 clO_9 k_o 10 (by decide) rfl fl_9_98 ?_
                refine w_goto (tgt := 97) (pc := 92) X dX9_told_92 (by decide) ?_
                cases h
                exact w_iret X hQ dX9_told_97
            · replace h := it_pos c5 h
              refine w_aload_n (pc := 76) X dX9_told_76 0 rfl ?_
              refine w_getI (pc := 77) X dX9_told_77 clO_9 k_o 4 (by decide) rfl fl_9_95 ?_
              refine w_goto (tgt := 97) (pc := 80) X dX9_told_80 (by decide) ?_
              cases h
              exact w_iret X hQ dX9_told_97
          · replace h := it_pos c6 h
            refine w_aload_n (pc := 64) X dX9_told_64 0 rfl ?_
            refine w_getI (pc := 65) X dX9_told_65 clO_9 k_o 3 (by decide) rfl fl_9_92 ?_
            refine w_goto (tgt := 97) (pc := 68) X dX9_told_68 (by decide) ?_
            cases h
            exact w_iret X hQ dX9_told_97
        · replace h := it_pos c7 h
          refine w_aload_n (pc := 52) X dX9_told_52 0 rfl ?_
          refine w_getI (pc := 53) X dX9_told_53 clO_9 k_o 1 (by decide) rfl fl_9_89 ?_
          refine w_goto (tgt := 97) (pc := 56) X dX9_told_56 (by decide) ?_
          cases h
          exact w_iret X hQ dX9_told_97
      · replace h := it_pos c8 h
        refine w_aload_n (pc := 40) X dX9_told_40 0 rfl ?_
        refine w_getI (pc := 41) X dX9_told_41 clO_9 k_o 0 (by decide) rfl fl_9_85 ?_
        refine w_goto (tgt := 97) (pc := 44) X dX9_told_44 (by decide) ?_
        cases h
        exact w_iret X hQ dX9_told_97
    · replace h := it_pos c9 h
      refine w_aload_n (pc := 28) X dX9_told_28 0 rfl ?_
      refine w_getI (pc := 29) X dX9_told_29 clO_9 k_o 12 (by decide) rfl fl_9_124 ?_
      refine w_goto (tgt := 97) (pc := 32) X dX9_told_32 (by decide) ?_
      cases h
      exact w_iret X hQ dX9_told_97
  · replace h := it_neg c11 h
    refine w_aload_n (pc := 14) X dX9_told_14 0 rfl ?_
    refine w_getR (pc := 15) X dX9_told_15 clO_9 k_o 2 (by decide) (d := 1) rfl fl_9_7 ?_
    refine w_iload_n (pc := 18) X dX9_told_18 1 rfl ?_
    refine w_bipush (pc := 19) X dX9_told_19 (v := (10)) rfl ?_
    refine w_isub (pc := 21) X dX9_told_21 ?_
    obtain ⟨g10, h⟩ := gd_inv h
    refine w_iald (pc := 22) X dX9_told_22 (kp_9_1 k_o) g10 ?_
    cases h
    exact w_iret X hQ dX9_told_23
