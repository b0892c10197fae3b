set_option maxRecDepth 20000 in
theorem M9_areRemarks {a0 : Int32} {a1 : Int32} {a2 : Int32} {s : Sto} {r : Int32} {σ' : Sto} (h : f9_areRemarks a0 a1 a2 s = some (r, σ')) : Ct yX9_areRemarks cX9_areRemarks 3 (some .boolean) 1 25 (fun ad => [.int a0, .int a1, .int a2]) s (fun ad => some (.int r)) σ' := by
  unfold f9_areRemarks at h
  refine Ct_of (by decide) (fun ad => Nat.le_of_ble_eq_true rfl) (fun φ ad X hQ => ?_)
  show wpm φ ad 0 [(0, .int a0), (1, .int a1), (2, .int a2)] [] s
  replace X : Cx φ ad cX9_areRemarks (some .boolean) RX9 3 1 25 := X
  refine w_iload_n (pc := 0) X dX9_areRemarks_0 0 rfl ?_
  refine w_i2l (pc := 1) X dX9_areRemarks_1 ?_
  refine w_lconst (pc := 2) X dX9_areRemarks_2 (v := 0) rfl ?_
  refine w_ldc2 (pc := 3) X dX9_areRemarks_3 (v := (12)) cn_9_272 ?_
  obtain ⟨r3, s1, h2, h⟩ := bd2_inv h
  refine w_callS (pc := 6) X dX9_areRemarks_6 (M9_in h2) rfl cw_9_101 ⟨Nat.le_of_ble_eq_true rfl, Nat.le_of_ble_eq_true rfl⟩ rfl rfl (Nat.le_of_ble_eq_true rfl) ?_
  show wpm φ ad 9 [(0, .int a0), (1, .int a1), (2, .int a2)] [.int r3] s1
  refine w_if_eq (pc := 9) (tgt := 40) X dX9_areRemarks_9 (by decide) (fun c12 => ?_) (fun c12 => ?_)
  · replace h := it_pos c12 h
    refine w_iconst (pc := 40) X dX9_areRemarks_40 (v := 0) rfl ?_
    cases h
    exact w_zret X hQ dX9_areRemarks_41 (Or.inl rfl)
  · replace h := it_neg c12 h
    refine w_iload_n (pc := 12) X dX9_areRemarks_12 1 rfl ?_
    refine w_i2l (pc := 13) X dX9_areRemarks_13 ?_
    refine w_lconst (pc := 14) X dX9_areRemarks_14 (v := 0) rfl ?_
    refine w_ldc2 (pc := 15) X dX9_areRemarks_15 (v := (12)) cn_9_272 ?_
    obtain ⟨r6, s4, h5, h⟩ := bd2_inv h
    refine w_callS (pc := 18) X dX9_areRemarks_18 (M9_in h5) rfl cw_9_101 ⟨Nat.le_of_ble_eq_true rfl, Nat.le_of_ble_eq_true rfl⟩ rfl rfl (Nat.le_of_ble_eq_true rfl) ?_
    show wpm φ ad 21 [(0, .int a0), (1, .int a1), (2, .int a2)] [.int r6] s4
    refine w_if_eq (pc := 21) (tgt := 40) X dX9_areRemarks_21 (by decide) (fun c11 => ?_) (fun c11 => ?_)
    · replace h := it_pos c11 h
      refine w_iconst (pc := 40) X dX9_areRemarks_40 (v := 0) rfl ?_
      cases h
      exact w_zret X hQ dX9_areRemarks_41 (Or.inl rfl)
    · replace h := it_neg c11 h
      refine w_iload_n (pc := 24) X dX9_areRemarks_24 2 rfl ?_
      refine w_i2l (pc := 25) X dX9_areRemarks_25 ?_
      refine w_lconst (pc := 26) X dX9_areRemarks_26 (v := 0) rfl ?_
      refine w_ldc2 (pc := 27) X dX9_areRemarks_27 (v := (30)) cn_9_249 ?_
      obtain ⟨r9, s7, h8, h⟩ := bd2_inv h
      refine w_callS (pc := 30) X dX9_areRemarks_30 (M9_in h8) rfl cw_9_101 ⟨Nat.le_of_ble_eq_true rfl, Nat.le_of_ble_eq_true rfl⟩ rfl rfl (Nat.le_of_ble_eq_true rfl) ?_
      show wpm φ ad 33 [(0, .int a0), (1, .int a1), (2, .int a2)] [.int r9] s7
      refine w_if_eq (pc := 33) (tgt := 40) X dX9_areRemarks_33 (by decide) (fun c10 => ?_) (fun c10 => ?_)
      · replace h := it_pos c10 h
        refine w_iconst (pc := 40) X dX9_areRemarks_40 (v := 0) rfl ?_
        cases h
        exact w_zret X hQ dX9_areRemarks_41 (Or.inl rfl)
      · replace h := it_neg c10 h
        refine w_iconst (pc := 36) X dX9_areRemarks_36 (v := 1) rfl ?_
        refine w_goto (tgt := 41) (pc := 37) X dX9_areRemarks_37 (by decide) ?_
        cases h
        exact w_zret X hQ dX9_areRemarks_41 (Or.inr rfl)
set_option maxRecDepth 20000 in
theorem WL9_raise_10 {φ : Fr} {ad : Nat → Nat} (X : Cx φ ad cX9_raise none RX9 4 0 0) (o : Nat) (a1 : Int32) (a2 : Int32) (k_o : kd o = 9) : ∀ (fuel : Nat) (v3 : Int32) (s : Sto)  (t : Sto), L9_raise_10 o a1 a2 fuel v3 s = some (t) → wpm φ ad 44 [(0, .ref (ad o)), (1, .int a1), (2, .int a2)] [] t → wpm φ ad 10 [(0, .ref (ad o)), (1, .int a1), (2, .int a2), (3, .int v3)] [] s := by
  intro fuel
  induction fuel with
  | zero => intro v3 s t h; cases h
  | succ fuel ih =>
    intro v3 s t h K
    unfold L9_raise_10 at h
    refine w_iload_n (pc := 10) X dX9_raise_10 3 rfl ?_
    refine w_if_le (pc := 11) (tgt := 44) X dX9_raise_11 (by decide) (fun c4 => ?_) (fun c4 => ?_)
    · replace h := it_pos c4 h
      cases h
      exact w_sub (pc := 44) [0, 1, 2] rfl K
    · replace h := it_neg c4 h
      refine w_aload_n (pc := 14) X dX9_raise_14 0 rfl ?_
      refine w_getR (pc := 15) X dX9_raise_15 clO_9 k_o 42 (by decide) (d := 21) rfl fl_9_71 ?_
      refine w_bipush (pc := 18) X dX9_raise_18 (v := (96)) rfl ?_
      refine w_iload_n (pc := 20) X dX9_raise_20 2 rfl ?_
      refine w_imul (pc := 21) X dX9_raise_21 ?_
      refine w_iload_n (pc := 22) X dX9_raise_22 3 rfl ?_
      refine w_iadd (pc := 23) X dX9_raise_23 ?_
      refine w_aload_n (pc := 24) X dX9_raise_24 0 rfl ?_
      refine w_getR (pc := 25) X dX9_raise_25 clO_9 k_o 42 (by decide) (d := 21) rfl fl_9_71 ?_
      refine w_bipush (pc := 28) X dX9_raise_28 (v := (96)) rfl ?_
      refine w_iload_n (pc := 30) X dX9_raise_30 2 rfl ?_
      refine w_imul (pc := 31) X dX9_raise_31 ?_
      refine w_iload_n (pc := 32) X dX9_raise_32 3 rfl ?_
      refine w_iadd (pc := 33) X dX9_raise_33 ?_
      refine w_iconst (pc := 34) X dX9_raise_34 (v := 1) rfl ?_
      refine w_isub (pc := 35) X dX9_raise_35 ?_
      obtain ⟨g1, h⟩ := gd_inv h
      refine w_lald (pc := 36) X dX9_raise_36 (kp_9_21 k_o) g1 ?_
      obtain ⟨g2, h⟩ := gd_inv h
      refine w_last (pc := 37) X dX9_raise_37 (kp_9_21 k_o) g2 ?_
      obtain ⟨s3, e_s3, h⟩ := nm_inv h
      refine w_nm e_s3 ?_
      refine w_iinc (pc := 38) X dX9_raise_38 3 rfl (v := (v3 + (-1))) rfl (by decide) (lv' := [(3, .int (v3 + (-1))), (0, .ref (ad o)), (1, .int a1), (2, .int a2)]) rfl ?_
      refine w_goto (tgt := 10) (pc := 41) X dX9_raise_41 (by decide) ?_
      exact w_sub (pc := 10) [1, 2, 3, 0] rfl (ih _ _ _ h K)
set_option maxRecDepth 20000 in
theorem WL9_raise_2 {φ : Fr} {ad : Nat → Nat} (X : Cx φ ad cX9_raise none RX9 4 0 0) (o : Nat) (a1 : Int32) (k_o : kd o = 9) : ∀ (fuel : Nat) (v2 : Int32) (s : Sto)  (t : Sto), L9_raise_2 o a1 fuel v2 s = some (t) → wpm φ ad 60 [] [] t → wpm φ ad 2 [(0, .ref (ad o)), (1, .int a1), (2, .int v2)] [] s := by
  intro fuel
  induction fuel with
  | zero => intro v2 s t h; cases h
  | succ fuel ih =>
    intro v2 s t h K
    unfold L9_raise_2 at h
    refine w_iload_n (pc := 2) X dX9_raise_2 2 rfl ?_
    refine w_iload_n (pc := 3) X dX9_raise_3 1 rfl ?_
    refine w_icmp_gt (pc := 4) (tgt := 60) X dX9_raise_4 (by decide) (fun c9 => ?_) (fun c9 => ?_)
    · replace h := it_pos c9 h
      cases h
      exact w_sub (pc := 60) [] rfl K
    · replace h := it_neg c9 h
      refine w_bipush (pc := 7) X dX9_raise_7 (v := (95)) rfl ?_
      refine w_istore_n (pc := 9) X dX9_raise_9 3 rfl (by decide) (lv' := [(3, .int (95 : Int32)), (0, .ref (ad o)), (1, .int a1), (2, .int v2)]) rfl ?_
      obtain ⟨s6, h5, h⟩ := bd1_inv h
      refine w_sub (pc := 10) [1, 2, 3, 0] rfl (WL9_raise_10 X o a1 v2 k_o FU (95 : Int32) s s6 h5 ?_)
      refine w_aload_n (pc := 44) X dX9_raise_44 0 rfl ?_
      refine w_getR (pc := 45) X dX9_raise_45 clO_9 k_o 42 (by decide) (d := 21) rfl fl_9_71 ?_
      refine w_bipush (pc := 48) X dX9_raise_48 (v := (96)) rfl ?_
      refine w_iload_n (pc := 50) X dX9_raise_50 2 rfl ?_
      refine w_imul (pc := 51) X dX9_raise_51 ?_
      refine w_lconst (pc := 52) X dX9_raise_52 (v := 0) rfl ?_
      obtain ⟨g7, h⟩ := gd_inv h
      refine w_last (pc := 53) X dX9_raise_53 (kp_9_21 k_o) g7 ?_
      obtain ⟨s8, e_s8, h⟩ := nm_inv h
      refine w_nm e_s8 ?_
      refine w_iinc (pc := 54) X dX9_raise_54 2 rfl (v := (v2 + 1)) rfl (by decide) (lv' := [(2, .int (v2 + 1)), (0, .ref (ad o)), (1, .int a1)]) rfl ?_
      refine w_goto (tgt := 2) (pc := 57) X dX9_raise_57 (by decide) ?_
      exact w_sub (pc := 2) [1, 2, 0] rfl (ih _ _ _ h K)
set_option maxRecDepth 20000 in
theorem M9_raise {o : Nat} {a1 : Int32} {s : Sto} {σ' : Sto} (h : f9_raise o a1 s = some σ') : Ct yX9_raise cX9_raise 4 none 0 0 (fun ad => [.ref (ad o), .int a1]) s (fun _ => none) σ' := by
  unfold f9_raise at h
  obtain ⟨k_o, h⟩ := gd_inv h
  refine Ct_of (by decide) (fun ad => Nat.le_of_ble_eq_true rfl) (fun φ ad X hQ => ?_)
  show wpm φ ad 0 [(0, .ref (ad o)), (1, .int a1)] [] s
  replace X : Cx φ ad cX9_raise none RX9 4 0 0 := X
  refine w_iconst (pc := 0) X dX9_raise_0 (v := 0) rfl ?_
  refine w_istore_n (pc := 1) X dX9_raise_1 2 rfl (by decide) (lv' := [(2, .int (0 : Int32)), (0, .ref (ad o)), (1, .int a1)]) rfl ?_
  obtain ⟨s11, h10, h⟩ := bd1_inv h
  refine w_sub (pc := 2) [1, 2, 0] rfl (WL9_raise_2 X o a1 k_o FU (0 : Int32) s s11 h10 ?_)
  cases h
  exact w_vret X hQ dX9_raise_60
set_option maxRecDepth 20000 in
theorem WL9_orders_29 {φ : Fr} {ad : Nat → Nat} (X : Cx φ ad cX9_orders (some .long) RX9 9 2 47) (o : Nat) (a1 : Int32) (a2 : Int32) (a3 : Int32) (a4 : Int32) (k_o : kd o = 9) : ∀ (fuel : Nat) (v5 : Int32) (s : Sto)  (t : Sto), L9_orders_29 o a1 a2 a3 a4 fuel v5 s = some (t) → wpm φ ad 51 [(0, .ref (ad o)), (1, .int a1), (2, .int a2), (3, .int a3), (4, .int a4)] [] t → wpm φ ad 29 [(0, .ref (ad o)), (1, .int a1), (2, .int a2), (3, .int a3), (4, .int a4), (5, .int v5)] [] s := by
  intro fuel
  induction fuel with
  | zero => intro v5 s t h; cases h
  | succ fuel ih =>
    intro v5 s t h K
    unfold L9_orders_29 at h
    refine w_iload (pc := 29) X dX9_orders_29 5 rfl ?_
    refine w_sipush (pc := 31) X dX9_orders_31 (v := (1248)) rfl ?_
    refine w_icmp_ge (pc := 34) (tgt := 51) X dX9_orders_34 (by decide) (fun c9 => ?_) (fun c9 => ?_)
    · replace h := it_pos c9 h
      cases h
      exact w_sub (pc := 51) [0, 1, 2, 3, 4] rfl K
    · replace h := it_neg c9 h
      refine w_aload_n (pc := 37) X dX9_orders_37 0 rfl ?_
      refine w_getR (pc := 38) X dX9_orders_38 clO_9 k_o 42 (by decide) (d := 21) rfl fl_9_71 ?_
      refine w_iload (pc := 41) X dX9_orders_41 5 rfl ?_
      refine w_lconst (pc := 43) X dX9_orders_43 (v := 0) rfl ?_
      obtain ⟨g7, h⟩ := gd_inv h
      refine w_last (pc := 44) X dX9_orders_44 (kp_9_21 k_o) g7 ?_
      obtain ⟨s8, e_s8, h⟩ := nm_inv h
      refine w_nm e_s8 ?_
      refine w_iinc (pc := 45) X dX9_orders_45 5 rfl (v := (v5 + 1)) rfl (by decide) (lv' := [(5, .int (v5 + 1)), (0, .ref (ad o)), (1, .int a1), (2, .int a2), (3, .int a3), (4, .int a4)]) rfl ?_
      refine w_goto (tgt := 29) (pc := 48) X dX9_orders_48 (by decide) ?_
      exact w_sub (pc := 29) [1, 2, 3, 4, 5, 0] rfl (ih _ _ _ h K)
set_option maxRecDepth 20000 in
theorem WL9_orders_79 {φ : Fr} {ad : Nat → Nat} (X : Cx φ ad cX9_orders (some .long) RX9 9 2 47) (o : Nat) (a1 : Int32) (a2 : Int32) (a4 : Int32) (a5 : Int32) (a6 : Int32) (k_o : kd o = 9) : ∀ (fuel : Nat) (v7 : Int32) (s : Sto)  (t : Sto), L9_orders_79 o a1 a2 a4 a5 a6 fuel v7 s = some (t) → wpm φ ad 138 [(0, .ref (ad o)), (1, .int a1), (2, .int a2), (4, .int a4), (5, .int a5), (6, .int a6)] [] t → wpm φ ad 79 [(0, .ref (ad o)), (1, .int a1), (2, .int a2), (4, .int a4), (5, .int a5), (6, .int a6), (7, .int v7)] [] s := by
  intro fuel
  induction fuel with
  | zero => intro v7 s t h; cases h
  | succ fuel ih =>
    intro v7 s t h K
    unfold L9_orders_79 at h
    refine w_iload (pc := 79) X dX9_orders_79 6 rfl ?_
    refine w_bipush (pc := 81) X dX9_orders_81 (v := (96)) rfl ?_
    refine w_icmp_ge (pc := 83) (tgt := 138) X dX9_orders_83 (by decide) (fun c21 => ?_) (fun c21 => ?_)
    · replace h := it_pos c21 h
      cases h
      exact w_sub (pc := 138) [0, 1, 2, 3, 4, 5] rfl K
    · replace h := it_neg c21 h
      refine w_iload (pc := 86) X dX9_orders_86 6 rfl ?_
      obtain ⟨x15, h20, h⟩ := bd1_inv h
      have K88 : wpm φ ad 99 [(0, .ref (ad o)), (1, .int a1), (2, .int a2), (4, .int a4), (5, .int a5), (6, .int a6), (7, .int v7)] [.int x15] s := by
        refine w_istore (pc := 99) X dX9_orders_99 (by decide) (lv' := [(8, .int x15), (0, .ref (ad o)), (1, .int a1), (2, .int a2), (4, .int a4), (5, .int a5), (6, .int a6), (7, .int v7)]) rfl ?_
        refine w_aload_n (pc := 101) X dX9_orders_101 1 rfl ?_
        refine w_getR (pc := 102) X dX9_orders_102 clO_9 k_o 42 (by decide) (d := 21) rfl fl_9_71 ?_
        refine w_bipush (pc := 105) X dX9_orders_105 (v := (96)) rfl ?_
        refine w_iload (pc := 107) X dX9_orders_107 6 rfl ?_
        refine w_iconst (pc := 109) X dX9_orders_109 (v := 1) rfl ?_
        refine w_iadd (pc := 110) X dX9_orders_110 ?_
        refine w_imul (pc := 111) X dX9_orders_111 ?_
        refine w_iload (pc := 112) X dX9_orders_112 0 rfl ?_
        refine w_iadd (pc := 114) X dX9_orders_114 ?_
        refine w_dup2 (pc := 115) X dX9_orders_115 rfl rfl ?_
        obtain ⟨g16, h⟩ := gd_inv h
        refine w_lald (pc := 116) X dX9_orders_116 (kp_9_21 k_o) g16 ?_
        refine w_aload_n (pc := 117) X dX9_orders_117 1 rfl ?_
        refine w_getR (pc := 118) X dX9_orders_118 clO_9 k_o 42 (by decide) (d := 21) rfl fl_9_71 ?_
        refine w_bipush (pc := 121) X dX9_orders_121 (v := (96)) rfl ?_
        refine w_iload (pc := 123) X dX9_orders_123 6 rfl ?_
        refine w_imul (pc := 125) X dX9_orders_125 ?_
        refine w_iload (pc := 126) X dX9_orders_126 7 rfl ?_
        refine w_iadd (pc := 128) X dX9_orders_128 ?_
        obtain ⟨g17, h⟩ := gd_inv h
        refine w_lald (pc := 129) X dX9_orders_129 (kp_9_21 k_o) g17 ?_
        refine w_ladd (pc := 130) X dX9_orders_130 ?_
        obtain ⟨g18, h⟩ := gd_inv h
        refine w_last (pc := 131) X dX9_orders_131 (kp_9_21 k_o) g18 ?_
        obtain ⟨s19, e_s19, h⟩ := nm_inv h
        refine w_nm e_s19 ?_
        refine w_iinc (pc := 132) X dX9_orders_132 7 rfl (v := (v7 + 1)) rfl (by decide) (lv' := [(7, .int (v7 + 1)), (8, .int x15), (0, .ref (ad o)), (1, .int a1), (2, .int a2), (4, .int a4), (5, .int a5), (6, .int a6)]) rfl ?_
        refine w_goto (tgt := 79) (pc := 135) X dX9_orders_135 (by decide) ?_
        exact w_sub (pc := 79) [2, 3, 4, 5, 6, 7, 0] rfl (ih _ _ _ h K)
      clear h
      have h := h20
      clear h20
      refine w_if_le (pc := 88) (tgt := 98) X dX9_orders_88 (by decide) (fun c14 => ?_) (fun c14 => ?_)
      · replace h := it_pos c14 h
        refine w_iconst (pc := 98) X dX9_orders_98 (v := 0) rfl ?_
        cases h
        exact w_sub (pc := 99) [0, 1, 2, 3, 4, 5, 6] rfl K88
      · replace h := it_neg c14 h
        refine w_iload (pc := 91) X dX9_orders_91 6 rfl ?_
        refine w_iconst (pc := 93) X dX9_orders_93 (v := 1) rfl ?_
        refine w_isub (pc := 94) X dX9_orders_94 ?_
        refine w_goto (tgt := 99) (pc := 95) X dX9_orders_95 (by decide) ?_
        cases h
        exact w_sub (pc := 99) [0, 1, 2, 3, 4, 5, 6] rfl K88
set_option maxRecDepth 20000 in
theorem WL9_orders_70 {φ : Fr} {ad : Nat → Nat} (X : Cx φ ad cX9_orders (some .long) RX9 9 2 47) (o : Nat) (a1 : Int32) (a2 : Int32) (a4 : Int32) (a5 : Int32) (k_o : kd o = 9) : ∀ (fuel : Nat) (v6 : Int32) (s : Sto)  (t : Sto), L9_orders_70 o a1 a2 a4 a5 fuel v6 s = some (t) → wpm φ ad 144 [(0, .ref (ad o)), (1, .int a1), (2, .int a2), (4, .int a4), (5, .int a5)] [] t → wpm φ ad 70 [(0, .ref (ad o)), (1, .int a1), (2, .int a2), (4, .int a4), (5, .int a5), (6, .int v6)] [] s := by
  intro fuel
  induction fuel with
  | zero => intro v6 s t h; cases h
  | succ fuel ih =>
    intro v6 s t h K
    unfold L9_orders_70 at h
    refine w_iload (pc := 70) X dX9_orders_70 5 rfl ?_
    refine w_iload_n (pc := 72) X dX9_orders_72 1 rfl ?_
    refine w_icmp_ge (pc := 73) (tgt := 144) X dX9_orders_73 (by decide) (fun c24 => ?_) (fun c24 => ?_)
    · replace h := it_pos c24 h
      cases h
      exact w_sub (pc := 144) [0, 1, 2, 3, 4] rfl K
    · replace h := it_neg c24 h
      refine w_iconst (pc := 76) X dX9_orders_76 (v := 0) rfl ?_
      refine w_istore (pc := 77) X dX9_orders_77 (by decide) (lv' := [(7, .int (0 : Int32)), (0, .ref (ad o)), (1, .int a1), (2, .int a2), (4, .int a4), (5, .int a5), (6, .int v6)]) rfl ?_
      obtain ⟨s23, h22, h⟩ := bd1_inv h
      refine w_sub (pc := 79) [1, 2, 3, 4, 5, 6, 0] rfl (WL9_orders_79 X o a1 a2 a4 a5 v6 k_o FU (0 : Int32) s s23 h22 ?_)
      refine w_iinc (pc := 138) X dX9_orders_138 5 rfl (v := (v6 + 1)) rfl (by decide) (lv' := [(6, .int (v6 + 1)), (0, .ref (ad o)), (1, .int a1), (2, .int a2), (4, .int a4), (5, .int a5)]) rfl ?_
      refine w_goto (tgt := 70) (pc := 141) X dX9_orders_141 (by decide) ?_
      exact w_sub (pc := 70) [1, 2, 3, 4, 5, 0] rfl (ih _ _ _ h K)
set_option maxRecDepth 20000 in
theorem WL9_orders_61 {φ : Fr} {ad : Nat → Nat} (X : Cx φ ad cX9_orders (some .long) RX9 9 2 47) (o : Nat) (a1 : Int32) (a2 : Int32) (a4 : Int32) (k_o : kd o = 9) : ∀ (fuel : Nat) (v5 : Int32) (s : Sto)  (t : Sto), L9_orders_61 o a1 a2 a4 fuel v5 s = some (t) → wpm φ ad 161 [(0, .ref (ad o)), (1, .int a1), (4, .int a4)] [] t → wpm φ ad 61 [(0, .ref (ad o)), (1, .int a1), (2, .int a2), (4, .int a4), (5, .int v5)] [] s := by
  intro fuel
  induction fuel with
  | zero => intro v5 s t h; cases h
  | succ fuel ih =>
    intro v5 s t h K
    unfold L9_orders_61 at h
    refine w_iload (pc := 61) X dX9_orders_61 4 rfl ?_
    refine w_iload_n (pc := 63) X dX9_orders_63 2 rfl ?_
    refine w_icmp_gt (pc := 64) (tgt := 161) X dX9_orders_64 (by decide) (fun c30 => ?_) (fun c30 => ?_)
    · replace h := it_pos c30 h
      cases h
      exact w_sub (pc := 161) [0, 1, 3] rfl K
    · replace h := it_neg c30 h
      refine w_iconst (pc := 67) X dX9_orders_67 (v := 0) rfl ?_
      refine w_istore (pc := 68) X dX9_orders_68 (by decide) (lv' := [(6, .int (0 : Int32)), (0, .ref (ad o)), (1, .int a1), (2, .int a2), (4, .int a4), (5, .int v5)]) rfl ?_
      obtain ⟨s26, h25, h⟩ := bd1_inv h
      refine w_sub (pc := 70) [1, 2, 3, 4, 5, 0] rfl (WL9_orders_70 X o a1 a2 a4 v5 k_o FU (0 : Int32) s s26 h25 ?_)
      refine w_iload (pc := 144) X dX9_orders_144 4 rfl ?_
      refine w_iload_n (pc := 146) X dX9_orders_146 2 rfl ?_
      refine w_icmp_ge (pc := 147) (tgt := 155) X dX9_orders_147 (by decide) (fun c29 => ?_) (fun c29 => ?_)
      · replace h := it_pos c29 h
        refine w_iinc (pc := 155) X dX9_orders_155 4 rfl (v := (v5 + 1)) rfl (by decide) (lv' := [(5, .int (v5 + 1)), (0, .ref (ad o)), (1, .int a1), (2, .int a2), (4, .int a4)]) rfl ?_
        refine w_goto (tgt := 61) (pc := 158) X dX9_orders_158 (by decide) ?_
        exact w_sub (pc := 61) [1, 2, 3, 4, 0] rfl (ih _ _ _ h K)
      · replace h := it_neg c29 h
        refine w_aload_n (pc := 150) X dX9_orders_150 0 rfl ?_
        refine w_iload_n (pc := 151) X dX9_orders_151 1 rfl ?_
        obtain ⟨s27, h28, h⟩ := bd1_inv h
        refine w_callV (pc := 152) X dX9_orders_152 (M9_raise h28) k_o (by decide) rfl cw_9_282 ⟨Nat.le_of_ble_eq_true rfl, Nat.le_of_ble_eq_true rfl⟩ rfl rfl (Nat.le_of_ble_eq_true rfl) ?_
        show wpm φ ad 155 [(0, .ref (ad o)), (1, .int a1), (2, .int a2), (4, .int a4), (5, .int v5)] [] s27
        refine w_iinc (pc := 155) X dX9_orders_155 4 rfl (v := (v5 + 1)) rfl (by decide) (lv' := [(5, .int (v5 + 1)), (0, .ref (ad o)), (1, .int a1), (2, .int a2), (4, .int a4)]) rfl ?_
        refine w_goto (tgt := 61) (pc := 158) X dX9_orders_158 (by decide) ?_
        exact w_sub (pc := 61) [1, 2, 3, 4, 0] rfl (ih _ _ _ h K)
set_option maxRecDepth 20000 in
theorem M9_orders {o : Nat} {a1 : Int32} {a2 : Int32} {a3 : Int32} {a4 : Int32} {s : Sto} {r : Int64} {σ' : Sto} (h : f9_orders o a1 a2 a3 a4 s = some (r, σ')) : Ct yX9_orders cX9_orders 9 (some .long) 2 47 (fun ad => [.ref (ad o), .int a1, .int a2, .int a3, .int a4]) s (fun ad => some (.long r)) σ' := by
  unfold f9_orders at h
  obtain ⟨k_o, h⟩ := gd_inv h
  refine Ct_of (by decide) (fun ad => Nat.le_of_ble_eq_true rfl) (fun φ ad X hQ => ?_)
  show wpm φ ad 0 [(0, .ref (ad o)), (1, .int a1), (2, .int a2), (3, .int a3), (4, .int a4)] [] s
  replace X : Cx φ ad cX9_orders (some .long) RX9 9 2 47 := X
  refine w_iload_n (pc := 0) X dX9_orders_0 1 rfl ?_
  refine w_iload_n (pc := 1) X dX9_orders_1 2 rfl ?_
  refine w_iload_n (pc := 2) X dX9_orders_2 3 rfl ?_
  obtain ⟨r3, s1, h2, h⟩ := bd2_inv h
  refine w_callS (pc := 3) X dX9_orders_3 (M9_areRemarks h2) rfl cw_9_274 ⟨Nat.le_of_ble_eq_true rfl, Nat.le_of_ble_eq_true rfl⟩ rfl rfl (Nat.le_of_ble_eq_true rfl) ?_
  show wpm φ ad 6 [(0, .ref (ad o)), (1, .int a1), (2, .int a2), (3, .int a3), (4, .int a4)] [.int r3] s1
  refine w_if_eq (pc := 6) (tgt := 22) X dX9_orders_6 (by decide) (fun c35 => ?_) (fun c35 => ?_)
  · replace h := it_pos c35 h
    refine w_ldc2 (pc := 22) X dX9_orders_22 (v := (-1000000000000000002)) cn_9_280 ?_
    cases h
    exact w_lret X hQ dX9_orders_25
  · replace h := it_neg c35 h
    refine w_iload (pc := 9) X dX9_orders_9 4 rfl ?_
    refine w_i2l (pc := 11) X dX9_orders_11 ?_
    refine w_lconst (pc := 12) X dX9_orders_12 (v := 0) rfl ?_
    refine w_ldc2 (pc := 13) X dX9_orders_13 (v := (50)) cn_9_278 ?_
    obtain ⟨r6, s4, h5, h⟩ := bd2_inv h
    refine w_callS (pc := 16) X dX9_orders_16 (M9_in h5) rfl cw_9_101 ⟨Nat.le_of_ble_eq_true rfl, Nat.le_of_ble_eq_true rfl⟩ rfl rfl (Nat.le_of_ble_eq_true rfl) ?_
    show wpm φ ad 19 [(0, .ref (ad o)), (1, .int a1), (2, .int a2), (3, .int a3), (4, .int a4)] [.int r6] s4
    refine w_if_ne (pc := 19) (tgt := 26) X dX9_orders_19 (by decide) (fun c34 => ?_) (fun c34 => ?_)
    · replace h := it_neg c34 h
      refine w_iconst (pc := 26) X dX9_orders_26 (v := 0) rfl ?_
      refine w_istore (pc := 27) X dX9_orders_27 (by decide) (lv' := [(5, .int (0 : Int32)), (0, .ref (ad o)), (1, .int a1), (2, .int a2), (3, .int a3), (4, .int a4)]) rfl ?_
      obtain ⟨s11, h10, h⟩ := bd1_inv h
      refine w_sub (pc := 29) [1, 2, 3, 4, 5, 0] rfl (WL9_orders_29 X o a1 a2 a3 a4 k_o FU (0 : Int32) s4 s11 h10 ?_)
      refine w_aload_n (pc := 51) X dX9_orders_51 0 rfl ?_
      refine w_getR (pc := 52) X dX9_orders_52 clO_9 k_o 42 (by decide) (d := 21) rfl fl_9_71 ?_
      refine w_iload_n (pc := 55) X dX9_orders_55 3 rfl ?_
      refine w_lconst (pc := 56) X dX9_orders_56 (v := 1) rfl ?_
      obtain ⟨g12, h⟩ := gd_inv h
      refine w_last (pc := 57) X dX9_orders_57 (kp_9_21 k_o) g12 ?_
      obtain ⟨s13, e_s13, h⟩ := nm_inv h
      refine w_nm e_s13 ?_
      refine w_iconst (pc := 58) X dX9_orders_58 (v := 0) rfl ?_
      refine w_istore (pc := 59) X dX9_orders_59 (by decide) (lv' := [(5, .int (0 : Int32)), (0, .ref (ad o)), (1, .int a1), (2, .int a2), (3, .int a3), (4, .int a4)]) rfl ?_
      obtain ⟨s32, h31, h⟩ := bd1_inv h
      refine w_sub (pc := 61) [1, 2, 3, 5, 0] rfl (WL9_orders_61 X o a1 a2 a4 k_o FU (0 : Int32) s13 s32 h31 ?_)
      refine w_aload_n (pc := 161) X dX9_orders_161 0 rfl ?_
      refine w_getR (pc := 162) X dX9_orders_162 clO_9 k_o 42 (by decide) (d := 21) rfl fl_9_71 ?_
      refine w_bipush (pc := 165) X dX9_orders_165 (v := (96)) rfl ?_
      refine w_iload_n (pc := 167) X dX9_orders_167 1 rfl ?_
      refine w_imul (pc := 168) X dX9_orders_168 ?_
      refine w_iload (pc := 169) X dX9_orders_169 2 rfl ?_
      refine w_iadd (pc := 171) X dX9_orders_171 ?_
      obtain ⟨g33, h⟩ := gd_inv h
      refine w_lald (pc := 172) X dX9_orders_172 (kp_9_21 k_o) g33 ?_
      cases h
      exact w_lret X hQ dX9_orders_173
    · replace h := it_pos c34 h
      refine w_ldc2 (pc := 22) X dX9_orders_22 (v := (-1000000000000000002)) cn_9_280 ?_
      cases h
      exact w_lret X hQ dX9_orders_25
set_option maxRecDepth 20000 in
theorem M9_left {o : Nat} {a1 : Int32} {a2 : Int32} {a3 : Int32} {a4 : Int32} {s : Sto} {r : Int32} {σ' : Sto} (h : f9_left o a1 a2 a3 a4 s = some (r, σ')) : Ct yX9_left cX9_left 5 (some .int) 2 47 (fun ad => [.ref (ad o), .int a1, .int a2, .int a3, .int a4]) s (fun ad => some (.int r)) σ' := by
  unfold f9_left at h
  obtain ⟨k_o, h⟩ := gd_inv h
  refine Ct_of (by decide) (fun ad => Nat.le_of_ble_eq_true rfl) (fun φ ad X hQ => ?_)
  show wpm φ ad 0 [(0, .ref (ad o)), (1, .int a1), (2, .int a2), (3, .int a3), (4, .int a4)] [] s
  replace X : Cx φ ad cX9_left (some .int) RX9 5 2 47 := X
  refine w_iload_n (pc := 0) X dX9_left_0 1 rfl ?_
  refine w_iload_n (pc := 1) X dX9_left_1 2 rfl ?_
  refine w_iload_n (pc := 2) X dX9_left_2 3 rfl ?_
  obtain ⟨r3, s1, h2, h⟩ := bd2_inv h
  refine w_callS (pc := 3) X dX9_left_3 (M9_areRemarks h2) rfl cw_9_274 ⟨Nat.le_of_ble_eq_true rfl, Nat.le_of_ble_eq_true rfl⟩ rfl rfl (Nat.le_of_ble_eq_true rfl) ?_
  show wpm φ ad 6 [(0, .ref (ad o)), (1, .int a1), (2, .int a2), (3, .int a3), (4, .int a4)] [.int r3] s1
  refine w_if_eq (pc := 6) (tgt := 20) X dX9_left_6 (by decide) (fun c11 => ?_) (fun c11 => ?_)
  · replace h := it_pos c11 h
    refine w_bipush (pc := 20) X dX9_left_20 (v := (-2)) rfl ?_
    cases h
    exact w_iret X hQ dX9_left_22
  · replace h := it_neg c11 h
    refine w_iload (pc := 9) X dX9_left_9 4 rfl ?_
    refine w_i2l (pc := 11) X dX9_left_11 ?_
    refine w_lconst (pc := 12) X dX9_left_12 (v := 0) rfl ?_
    refine w_lconst (pc := 13) X dX9_left_13 (v := 1) rfl ?_
    obtain ⟨r6, s4, h5, h⟩ := bd2_inv h
    refine w_callS (pc := 14) X dX9_left_14 (M9_in h5) rfl cw_9_101 ⟨Nat.le_of_ble_eq_true rfl, Nat.le_of_ble_eq_true rfl⟩ rfl rfl (Nat.le_of_ble_eq_true rfl) ?_
    show wpm φ ad 17 [(0, .ref (ad o)), (1, .int a1), (2, .int a2), (3, .int a3), (4, .int a4)] [.int r6] s4
    refine w_if_ne (pc := 17) (tgt := 23) X dX9_left_17 (by decide) (fun c10 => ?_) (fun c10 => ?_)
    · replace h := it_neg c10 h
      refine w_iload (pc := 23) X dX9_left_23 4 rfl ?_
      refine w_if_ne (pc := 25) (tgt := 45) X dX9_left_25 (by decide) (fun c9 => ?_) (fun c9 => ?_)
      · replace h := it_neg c9 h
        refine w_iload_n (pc := 45) X dX9_left_45 3 rfl ?_
        refine w_iload_n (pc := 46) X dX9_left_46 1 rfl ?_
        refine w_icmp_le (pc := 47) (tgt := 56) X dX9_left_47 (by decide) (fun c7 => ?_) (fun c7 => ?_)
        · replace h := it_pos c7 h
          refine w_iconst (pc := 56) X dX9_left_56 (v := 0) rfl ?_
          refine w_iload_n (pc := 57) X dX9_left_57 2 rfl ?_
          refine w_iadd (pc := 58) X dX9_left_58 ?_
          cases h
          exact w_iret X hQ dX9_left_59
        · replace h := it_neg c7 h
          refine w_iload_n (pc := 50) X dX9_left_50 3 rfl ?_
          refine w_iload_n (pc := 51) X dX9_left_51 1 rfl ?_
          refine w_isub (pc := 52) X dX9_left_52 ?_
          refine w_goto (tgt := 57) (pc := 53) X dX9_left_53 (by decide) ?_
          refine w_iload_n (pc := 57) X dX9_left_57 2 rfl ?_
          refine w_iadd (pc := 58) X dX9_left_58 ?_
          cases h
          exact w_iret X hQ dX9_left_59
      · replace h := it_pos c9 h
        refine w_iload_n (pc := 28) X dX9_left_28 3 rfl ?_
        refine w_iload_n (pc := 29) X dX9_left_29 2 rfl ?_
        refine w_iadd (pc := 30) X dX9_left_30 ?_
        refine w_iload_n (pc := 31) X dX9_left_31 1 rfl ?_
        refine w_icmp_le (pc := 32) (tgt := 43) X dX9_left_32 (by decide) (fun c8 => ?_) (fun c8 => ?_)
        · replace h := it_pos c8 h
          refine w_iconst (pc := 43) X dX9_left_43 (v := 0) rfl ?_
          cases h
          exact w_iret X hQ dX9_left_44
        · replace h := it_neg c8 h
          refine w_iload_n (pc := 35) X dX9_left_35 3 rfl ?_
          refine w_iload_n (pc := 36) X dX9_left_36 2 rfl ?_
          refine w_iadd (pc := 37) X dX9_left_37 ?_
          refine w_iload_n (pc := 38) X dX9_left_38 1 rfl ?_
          refine w_isub (pc := 39) X dX9_left_39 ?_
          refine w_goto (tgt := 44) (pc := 40) X dX9_left_40 (by decide) ?_
          cases h
          exact w_iret X hQ dX9_left_44
    · replace h := it_pos c10 h
      refine w_bipush (pc := 20) X dX9_left_20 (v := (-2)) rfl ?_
      cases h
      exact w_iret X hQ dX9_left_22
set_option maxRecDepth 20000 in
theorem WL9_goChance_3 {φ : Fr} {ad : Nat → Nat} (X : Cx φ ad cX9_goChance none RX9 6 0 0) (o : Nat) (a1 : Int32) (a2 : Int32) (a3 : Int32) (k_o : kd o = 9) : ∀ (fuel : Nat) (v4 : Int32) (s : Sto)  (t : Sto), L9_goChance_3 o a1 a2 a3 fuel v4 s = some (t) → wpm φ ad 34 [(0, .ref (ad o)), (2, .int a2), (3, .int a3)] [] t → wpm φ ad 3 [(0, .ref (ad o)), (1, .int a1), (2, .int a2), (3, .int a3), (4, .int v4)] [] s := by
  intro fuel
  induction fuel with
  | zero => intro v4 s t h; cases h
  | succ fuel ih =>
    intro v4 s t h K
    unfold L9_goChance_3 at h
    refine w_iload (pc := 3) X dX9_goChance_3 4 rfl ?_
    refine w_bipush (pc := 5) X dX9_goChance_5 (v := (96)) rfl ?_
    refine w_icmp_ge (pc := 7) (tgt := 34) X dX9_goChance_7 (by decide) (fun c6 => ?_) (fun c6 => ?_)
    · replace h := it_pos c6 h
      cases h
      exact w_sub (pc := 34) [0, 2, 3] rfl K
    · replace h := it_neg c6 h
      refine w_aload_n (pc := 10) X dX9_goChance_10 0 rfl ?_
      refine w_getR (pc := 11) X dX9_goChance_11 clO_9 k_o 40 (by decide) (d := 19) rfl fl_9_64 ?_
      refine w_iload (pc := 14) X dX9_goChance_14 4 rfl ?_
      refine w_iload (pc := 16) X dX9_goChance_16 4 rfl ?_
      refine w_iload_n (pc := 18) X dX9_goChance_18 1 rfl ?_
      refine w_icmp_ne (pc := 19) (tgt := 26) X dX9_goChance_19 (by decide) (fun c5 => ?_) (fun c5 => ?_)
      · replace h := it_neg c5 h
        refine w_lconst (pc := 26) X dX9_goChance_26 (v := 0) rfl ?_
        obtain ⟨g1, h⟩ := gd_inv h
        refine w_last (pc := 27) X dX9_goChance_27 (kp_9_19 k_o) g1 ?_
        obtain ⟨s2, e_s2, h⟩ := nm_inv h
        refine w_nm e_s2 ?_
        refine w_iinc (pc := 28) X dX9_goChance_28 4 rfl (v := (v4 + 1)) rfl (by decide) (lv' := [(4, .int (v4 + 1)), (0, .ref (ad o)), (1, .int a1), (2, .int a2), (3, .int a3)]) rfl ?_
        refine w_goto (tgt := 3) (pc := 31) X dX9_goChance_31 (by decide) ?_
        exact w_sub (pc := 3) [1, 2, 3, 4, 0] rfl (ih _ _ _ h K)
      · replace h := it_pos c5 h
        refine w_lconst (pc := 22) X dX9_goChance_22 (v := 1) rfl ?_
        refine w_goto (tgt := 27) (pc := 23) X dX9_goChance_23 (by decide) ?_
        obtain ⟨g3, h⟩ := gd_inv h
        refine w_last (pc := 27) X dX9_goChance_27 (kp_9_19 k_o) g3 ?_
        obtain ⟨s4, e_s4, h⟩ := nm_inv h
        refine w_nm e_s4 ?_
        refine w_iinc (pc := 28) X dX9_goChance_28 4 rfl (v := (v4 + 1)) rfl (by decide) (lv' := [(4, .int (v4 + 1)), (0, .ref (ad o)), (1, .int a1), (2, .int a2), (3, .int a3)]) rfl ?_
        refine w_goto (tgt := 3) (pc := 31) X dX9_goChance_31 (by decide) ?_
        exact w_sub (pc := 3) [1, 2, 3, 4, 0] rfl (ih _ _ _ h K)
set_option maxRecDepth 20000 in
theorem WL9_goChance_46 {φ : Fr} {ad : Nat → Nat} (X : Cx φ ad cX9_goChance none RX9 6 0 0) (o : Nat) (a2 : Int32) (a3 : Int32) (a4 : Int32) (k_o : kd o = 9) : ∀ (fuel : Nat) (v5 : Int32) (s : Sto)  (t : Sto), L9_goChance_46 o a2 a3 a4 fuel v5 s = some (t) → wpm φ ad 133 [(0, .ref (ad o)), (2, .int a2), (3, .int a3), (4, .int a4)] [] t → wpm φ ad 46 [(0, .ref (ad o)), (2, .int a2), (3, .int a3), (4, .int a4), (5, .int v5)] [] s := by
  intro fuel
  induction fuel with
  | zero => intro v5 s t h; cases h
  | succ fuel ih =>
    intro v5 s t h K
    unfold L9_goChance_46 at h
    refine w_iload (pc := 46) X dX9_goChance_46 4 rfl ?_
    refine w_bipush (pc := 48) X dX9_goChance_48 (v := (96)) rfl ?_
    refine w_icmp_ge (pc := 50) (tgt := 133) X dX9_goChance_50 (by decide) (fun c23 => ?_) (fun c23 => ?_)
    · replace h := it_pos c23 h
      cases h
      exact w_sub (pc := 133) [0, 1, 2, 3] rfl K
    · replace h := it_neg c23 h
      refine w_aload_n (pc := 53) X dX9_goChance_53 0 rfl ?_
      refine w_getR (pc := 54) X dX9_goChance_54 clO_9 k_o 41 (by decide) (d := 20) rfl fl_9_68 ?_
      refine w_iload (pc := 57) X dX9_goChance_57 4 rfl ?_
      refine w_iload (pc := 59) X dX9_goChance_59 4 rfl ?_
      obtain ⟨x12, h22, h⟩ := bd1_inv h
      have K61 : wpm φ ad 91 [(0, .ref (ad o)), (2, .int a2), (3, .int a3), (4, .int a4), (5, .int v5)] [.long x12, .int v5, .ref (ad (o + 20))] s := by
        obtain ⟨g13, h⟩ := gd_inv h
        refine w_last (pc := 91) X dX9_goChance_91 (kp_9_20 k_o) g13 ?_
        obtain ⟨s14, e_s14, h⟩ := nm_inv h
        refine w_nm e_s14 ?_
        refine w_aload_n (pc := 92) X dX9_goChance_92 0 rfl ?_
        refine w_getR (pc := 93) X dX9_goChance_93 clO_9 k_o 41 (by decide) (d := 20) rfl fl_9_68 ?_
        refine w_iload (pc := 96) X dX9_goChance_96 4 rfl ?_
        refine w_dup2 (pc := 98) X dX9_goChance_98 rfl rfl ?_
        obtain ⟨g15, h⟩ := gd_inv h
        refine w_lald (pc := 99) X dX9_goChance_99 (kp_9_20 k_o) g15 ?_
        refine w_iload (pc := 100) X dX9_goChance_100 4 rfl ?_
        refine w_iconst (pc := 102) X dX9_goChance_102 (v := 1) rfl ?_
        refine w_iadd (pc := 103) X dX9_goChance_103 ?_
        refine w_bipush (pc := 104) X dX9_goChance_104 (v := (96)) rfl ?_
        refine w_icmp_ge (pc := 106) (tgt := 124) X dX9_goChance_106 (by decide) (fun c21 => ?_) (fun c21 => ?_)
        · replace h := it_pos c21 h
          refine w_lconst (pc := 124) X dX9_goChance_124 (v := 0) rfl ?_
          refine w_ladd (pc := 125) X dX9_goChance_125 ?_
          obtain ⟨g16, h⟩ := gd_inv h
          refine w_last (pc := 126) X dX9_goChance_126 (kp_9_20 k_o) g16 ?_
          obtain ⟨s17, e_s17, h⟩ := nm_inv h
          refine w_nm e_s17 ?_
          refine w_iinc (pc := 127) X dX9_goChance_127 4 rfl (v := (v5 + 1)) rfl (by decide) (lv' := [(5, .int (v5 + 1)), (0, .ref (ad o)), (2, .int a2), (3, .int a3), (4, .int a4)]) rfl ?_
          refine w_goto (tgt := 46) (pc := 130) X dX9_goChance_130 (by decide) ?_
          exact w_sub (pc := 46) [1, 2, 3, 4, 0] rfl (ih _ _ _ h K)
        · replace h := it_neg c21 h
          refine w_aload_n (pc := 109) X dX9_goChance_109 0 rfl ?_
          refine w_getR (pc := 110) X dX9_goChance_110 clO_9 k_o 40 (by decide) (d := 19) rfl fl_9_64 ?_
          refine w_iload (pc := 113) X dX9_goChance_113 4 rfl ?_
          refine w_iconst (pc := 115) X dX9_goChance_115 (v := 1) rfl ?_
          refine w_iadd (pc := 116) X dX9_goChance_116 ?_
          obtain ⟨g18, h⟩ := gd_inv h
          refine w_lald (pc := 117) X dX9_goChance_117 (kp_9_19 k_o) g18 ?_
          refine w_iload_n (pc := 118) X dX9_goChance_118 2 rfl ?_
          refine w_i2l (pc := 119) X dX9_goChance_119 ?_
          refine w_lmul (pc := 120) X dX9_goChance_120 ?_
          refine w_goto (tgt := 125) (pc := 121) X dX9_goChance_121 (by decide) ?_
          refine w_ladd (pc := 125) X dX9_goChance_125 ?_
          obtain ⟨g19, h⟩ := gd_inv h
          refine w_last (pc := 126) X dX9_goChance_126 (kp_9_20 k_o) g19 ?_
          obtain ⟨s20, e_s20, h⟩ := nm_inv h
          refine w_nm e_s20 ?_
          refine w_iinc (pc := 127) X dX9_goChance_127 4 rfl (v := (v5 + 1)) rfl (by decide) (lv' := [(5, .int (v5 + 1)), (0, .ref (ad o)), (2, .int a2), (3, .int a3), (4, .int a4)]) rfl ?_
          refine w_goto (tgt := 46) (pc := 130) X dX9_goChance_130 (by decide) ?_
          exact w_sub (pc := 46) [1, 2, 3, 4, 0] rfl (ih _ _ _ h K)
      clear h
      have h := h22
      clear h22
      refine w_if_le (pc := 61) (tgt := 82) X dX9_goChance_61 (by decide) (fun c11 => ?_) (fun c11 => ?_)
      · replace h := it_pos c11 h
        refine w_aload_n (pc := 82) X dX9_goChance_82 0 rfl ?_
        refine w_getR (pc := 83) X dX9_goChance_83 clO_9 k_o 40 (by decide) (d := 19) rfl fl_9_64 ?_
        refine w_iconst (pc := 86) X dX9_goChance_86 (v := 0) rfl ?_
        obtain ⟨g9, h⟩ := gd_inv h
        refine w_lald (pc := 87) X dX9_goChance_87 (kp_9_19 k_o) g9 ?_
        refine w_iload_n (pc := 88) X dX9_goChance_88 2 rfl ?_
        refine w_i2l (pc := 89) X dX9_goChance_89 ?_
        refine w_lmul (pc := 90) X dX9_goChance_90 ?_
        cases h
        exact w_sub (pc := 91) [0, 1, 2, 3, 4] rfl K61
      · replace h := it_neg c11 h
        refine w_aload_n (pc := 64) X dX9_goChance_64 0 rfl ?_
        refine w_getR (pc := 65) X dX9_goChance_65 clO_9 k_o 40 (by decide) (d := 19) rfl fl_9_64 ?_
        refine w_iload (pc := 68) X dX9_goChance_68 4 rfl ?_
        refine w_iconst (pc := 70) X dX9_goChance_70 (v := 1) rfl ?_
        refine w_isub (pc := 71) X dX9_goChance_71 ?_
        obtain ⟨g10, h⟩ := gd_inv h
        refine w_lald (pc := 72) X dX9_goChance_72 (kp_9_19 k_o) g10 ?_
        refine w_bipush (pc := 73) X dX9_goChance_73 (v := (10)) rfl ?_
        refine w_iload_n (pc := 75) X dX9_goChance_75 2 rfl ?_
        refine w_isub (pc := 76) X dX9_goChance_76 ?_
        refine w_i2l (pc := 77) X dX9_goChance_77 ?_
        refine w_lmul (pc := 78) X dX9_goChance_78 ?_
        refine w_goto (tgt := 91) (pc := 79) X dX9_goChance_79 (by decide) ?_
        cases h
        exact w_sub (pc := 91) [0, 1, 2, 3, 4] rfl K61
set_option maxRecDepth 20000 in
theorem WL9_goChance_136 {φ : Fr} {ad : Nat → Nat} (X : Cx φ ad cX9_goChance none RX9 6 0 0) (o : Nat) (a2 : Int32) (a3 : Int32) (a4 : Int32) (k_o : kd o = 9) : ∀ (fuel : Nat) (v5 : Int32) (s : Sto)  (t : Sto), L9_goChance_136 o a2 a3 a4 fuel v5 s = some (t) → wpm φ ad 163 [(0, .ref (ad o)), (2, .int a2), (3, .int a3), (4, .int a4)] [] t → wpm φ ad 136 [(0, .ref (ad o)), (2, .int a2), (3, .int a3), (4, .int a4), (5, .int v5)] [] s := by
  intro fuel
  induction fuel with
  | zero => intro v5 s t h; cases h
  | succ fuel ih =>
    intro v5 s t h K
    unfold L9_goChance_136 at h
    refine w_iload (pc := 136) X dX9_goChance_136 4 rfl ?_
    refine w_bipush (pc := 138) X dX9_goChance_138 (v := (96)) rfl ?_
    refine w_icmp_ge (pc := 140) (tgt := 163) X dX9_goChance_140 (by decide) (fun c29 => ?_) (fun c29 => ?_)
    · replace h := it_pos c29 h
      cases h
      exact w_sub (pc := 163) [0, 1, 2, 3] rfl K
    · replace h := it_neg c29 h
      refine w_aload_n (pc := 143) X dX9_goChance_143 0 rfl ?_
      refine w_getR (pc := 144) X dX9_goChance_144 clO_9 k_o 40 (by decide) (d := 19) rfl fl_9_64 ?_
      refine w_iload (pc := 147) X dX9_goChance_147 4 rfl ?_
      refine w_aload_n (pc := 149) X dX9_goChance_149 0 rfl ?_
      refine w_getR (pc := 150) X dX9_goChance_150 clO_9 k_o 41 (by decide) (d := 20) rfl fl_9_68 ?_
      refine w_iload (pc := 153) X dX9_goChance_153 4 rfl ?_
      obtain ⟨g26, h⟩ := gd_inv h
      refine w_lald (pc := 155) X dX9_goChance_155 (kp_9_20 k_o) g26 ?_
      obtain ⟨g27, h⟩ := gd_inv h
      refine w_last (pc := 156) X dX9_goChance_156 (kp_9_19 k_o) g27 ?_
      obtain ⟨s28, e_s28, h⟩ := nm_inv h
      refine w_nm e_s28 ?_
      refine w_iinc (pc := 157) X dX9_goChance_157 4 rfl (v := (v5 + 1)) rfl (by decide) (lv' := [(5, .int (v5 + 1)), (0, .ref (ad o)), (2, .int a2), (3, .int a3), (4, .int a4)]) rfl ?_
      refine w_goto (tgt := 136) (pc := 160) X dX9_goChance_160 (by decide) ?_
      exact w_sub (pc := 136) [1, 2, 3, 4, 0] rfl (ih _ _ _ h K)
set_option maxRecDepth 20000 in
theorem WL9_goChance_37 {φ : Fr} {ad : Nat → Nat} (X : Cx φ ad cX9_goChance none RX9 6 0 0) (o : Nat) (a2 : Int32) (a3 : Int32) (k_o : kd o = 9) : ∀ (fuel : Nat) (v4 : Int32) (s : Sto)  (t : Sto), L9_goChance_37 o a2 a3 fuel v4 s = some (t) → wpm φ ad 169 [] [] t → wpm φ ad 37 [(0, .ref (ad o)), (2, .int a2), (3, .int a3), (4, .int v4)] [] s := by
  intro fuel
  induction fuel with
  | zero => intro v4 s t h; cases h
  | succ fuel ih =>
    intro v4 s t h K
    unfold L9_goChance_37 at h
    refine w_iload (pc := 37) X dX9_goChance_37 3 rfl ?_
    refine w_iload_n (pc := 39) X dX9_goChance_39 1 rfl ?_
    refine w_icmp_ge (pc := 40) (tgt := 169) X dX9_goChance_40 (by decide) (fun c32 => ?_) (fun c32 => ?_)
    · replace h := it_pos c32 h
      cases h
      exact w_sub (pc := 169) [] rfl K
    · replace h := it_neg c32 h
      refine w_iconst (pc := 43) X dX9_goChance_43 (v := 0) rfl ?_
      refine w_istore (pc := 44) X dX9_goChance_44 (by decide) (lv' := [(5, .int (0 : Int32)), (0, .ref (ad o)), (2, .int a2), (3, .int a3), (4, .int v4)]) rfl ?_
      obtain ⟨s25, h24, h⟩ := bd1_inv h
      refine w_sub (pc := 46) [1, 2, 3, 4, 0] rfl (WL9_goChance_46 X o a2 a3 v4 k_o FU (0 : Int32) s s25 h24 ?_)
      refine w_iconst (pc := 133) X dX9_goChance_133 (v := 0) rfl ?_
      refine w_istore (pc := 134) X dX9_goChance_134 (by decide) (lv' := [(5, .int (0 : Int32)), (0, .ref (ad o)), (2, .int a2), (3, .int a3), (4, .int v4)]) rfl ?_
      obtain ⟨s31, h30, h⟩ := bd1_inv h
      refine w_sub (pc := 136) [1, 2, 3, 4, 0] rfl (WL9_goChance_136 X o a2 a3 v4 k_o FU (0 : Int32) s25 s31 h30 ?_)
      refine w_iinc (pc := 163) X dX9_goChance_163 3 rfl (v := (v4 + 1)) rfl (by decide) (lv' := [(4, .int (v4 + 1)), (0, .ref (ad o)), (2, .int a2), (3, .int a3)]) rfl ?_
      refine w_goto (tgt := 37) (pc := 166) X dX9_goChance_166 (by decide) ?_
      exact w_sub (pc := 37) [1, 2, 3, 0] rfl (ih _ _ _ h K)
set_option maxRecDepth 20000 in
theorem M9_goChance {o : Nat} {a1 : Int32} {a2 : Int32} {a3 : Int32} {s : Sto} {σ' : Sto} (h : f9_goChance o a1 a2 a3 s = some σ') : Ct yX9_goChance cX9_goChance 6 none 0 0 (fun ad => [.ref (ad o), .int a1, .int a2, .int a3]) s (fun _ => none) σ' := by
  unfold f9_goChance at h
  obtain ⟨k_o, h⟩ := gd_inv h
  refine Ct_of (by decide) (fun ad => Nat.le_of_ble_eq_true rfl) (fun φ ad X hQ => ?_)
  show wpm φ ad 0 [(0, .ref (ad o)), (1, .int a1), (2, .int a2), (3, .int a3)] [] s
  replace X : Cx φ ad cX9_goChance none RX9 6 0 0 := X
  refine w_iconst (pc := 0) X dX9_goChance_0 (v := 0) rfl ?_
  refine w_istore (pc := 1) X dX9_goChance_1 (by decide) (lv' := [(4, .int (0 : Int32)), (0, .ref (ad o)), (1, .int a1), (2, .int a2), (3, .int a3)]) rfl ?_
  obtain ⟨s8, h7, h⟩ := bd1_inv h
  refine w_sub (pc := 3) [1, 2, 3, 4, 0] rfl (WL9_goChance_3 X o a1 a2 a3 k_o FU (0 : Int32) s s8 h7 ?_)
  refine w_iconst (pc := 34) X dX9_goChance_34 (v := 0) rfl ?_
  refine w_istore (pc := 35) X dX9_goChance_35 (by decide) (lv' := [(4, .int (0 : Int32)), (0, .ref (ad o)), (2, .int a2), (3, .int a3)]) rfl ?_
  obtain ⟨s34, h33, h⟩ := bd1_inv h
  refine w_sub (pc := 37) [1, 2, 3, 0] rfl (WL9_goChance_37 X o a2 a3 k_o FU (0 : Int32) s8 s34 h33 ?_)
  cases h
  exact w_vret X hQ dX9_goChance_169
set_option maxRecDepth 20000 in
theorem WL9_tens_4 {φ : Fr} {ad : Nat → Nat} (X : Cx φ ad cX9_tens (some .long) RX9 4 0 0) (a0 : Int32) (s : Sto)  : ∀ (fuel : Nat) (v1 : Int64) (v3 : Int32) (t1 : Int64), L9_tens_4 a0 s fuel v1 v3 = some (t1) → wpm φ ad 21 [(1, .long t1)] [] s → wpm φ ad 4 [(0, .int a0), (1, .long v1), (3, .int v3)] [] s := by
  intro fuel
  induction fuel with
  | zero => intro v1 v3 t1 h; cases h
  | succ fuel ih =>
    intro v1 v3 t1 h K
    unfold L9_tens_4 at h
    refine w_iload_n (pc := 4) X dX9_tens_4 2 rfl ?_
    refine w_iload_n (pc := 5) X dX9_tens_5 0 rfl ?_
    refine w_icmp_ge (pc := 6) (tgt := 21) X dX9_tens_6 (by decide) (fun c1 => ?_) (fun c1 => ?_)
    · replace h := it_pos c1 h
      cases h
      exact w_sub (pc := 21) [1] rfl K
    · replace h := it_neg c1 h
      refine w_lload_n (pc := 9) X dX9_tens_9 1 rfl ?_
      refine w_ldc2 (pc := 10) X dX9_tens_10 (v := (10)) cn_9_285 ?_
      refine w_lmul (pc := 13) X dX9_tens_13 ?_
      refine w_lstore_n (pc := 14) X dX9_tens_14 1 rfl (by decide) (lv' := [(1, .long (v1 * (10 : Int64))), (0, .int a0), (3, .int v3)]) rfl ?_
      refine w_iinc (pc := 15) X dX9_tens_15 2 rfl (v := (v3 + 1)) rfl (by decide) (lv' := [(3, .int (v3 + 1)), (1, .long (v1 * (10 : Int64))), (0, .int a0)]) rfl ?_
      refine w_goto (tgt := 4) (pc := 18) X dX9_tens_18 (by decide) ?_
      exact w_sub (pc := 4) [2, 1, 0] rfl (ih _ _ _ h K)
set_option maxRecDepth 20000 in
theorem M9_tens {a0 : Int32} {s : Sto} {r : Int64} {σ' : Sto} (h : f9_tens a0 s = some (r, σ')) : Ct yX9_tens cX9_tens 4 (some .long) 0 0 (fun ad => [.int a0]) s (fun ad => some (.long r)) σ' := by
  unfold f9_tens at h
  refine Ct_of (by decide) (fun ad => Nat.le_of_ble_eq_true rfl) (fun φ ad X hQ => ?_)
  show wpm φ ad 0 [(0, .int a0)] [] s
  replace X : Cx φ ad cX9_tens (some .long) RX9 4 0 0 := X
  refine w_lconst (pc := 0) X dX9_tens_0 (v := 1) rfl ?_
  refine w_lstore_n (pc := 1) X dX9_tens_1 1 rfl (by decide) (lv' := [(1, .long (1 : Int64)), (0, .int a0)]) rfl ?_
  refine w_iconst (pc := 2) X dX9_tens_2 (v := 0) rfl ?_
  refine w_istore_n (pc := 3) X dX9_tens_3 3 rfl (by decide) (lv' := [(3, .int (0 : Int32)), (1, .long (1 : Int64)), (0, .int a0)]) rfl ?_
  obtain ⟨y3, h2, h⟩ := bd1_inv h
  refine w_sub (pc := 4) [2, 1, 0] rfl (WL9_tens_4 X a0 s  FU (1 : Int64) (0 : Int32) y3 h2 ?_)
  refine w_lload_n (pc := 21) X dX9_tens_21 0 rfl ?_
  cases h
  exact w_lret X hQ dX9_tens_22
set_option maxRecDepth 20000 in
theorem WL9_lowest_6 {φ : Fr} {ad : Nat → Nat} (X : Cx φ ad cX9_lowest (some .long) RX9 11 0 0) (a0 : Int64) (a2 : Int64) (a4 : Int32) (s : Sto)  : ∀ (fuel : Nat) (v5 : Int64) (v7 : Int64) (t5 : Int64), L9_lowest_6 a0 a2 a4 s fuel v5 v7 = some (t5) → wpm φ ad 31 [(0, .long a0), (2, .long a2), (4, .int a4), (5, .long t5)] [] s → wpm φ ad 6 [(0, .long a0), (2, .long a2), (4, .int a4), (5, .long v5), (7, .long v7)] [] s := by
  intro fuel
  induction fuel with
  | zero => intro v5 v7 t5 h; cases h
  | succ fuel ih =>
    intro v5 v7 t5 h K
    unfold L9_lowest_6 at h
    refine w_lload (pc := 6) X dX9_lowest_6 4 rfl ?_
    refine w_lconst (pc := 8) X dX9_lowest_8 (v := 0) rfl ?_
    refine w_lcmp (pc := 9) X dX9_lowest_9 ?_
    refine w_if_eq (pc := 10) (tgt := 31) X dX9_lowest_10 (by decide) (fun c2 => ?_) (fun c2 => ?_)
    · replace h := it_pos c2 h
      cases h
      exact w_sub (pc := 31) [0, 1, 2, 3] rfl K
    · replace h := it_neg c2 h
      refine w_lload (pc := 13) X dX9_lowest_13 3 rfl ?_
      refine w_lload (pc := 15) X dX9_lowest_15 4 rfl ?_
      obtain ⟨g1, h⟩ := gd_inv h
      refine w_lrem (pc := 17) X dX9_lowest_17 g1 ?_
      refine w_lstore (pc := 18) X dX9_lowest_18 (by decide) (lv' := [(9, .long (v5 - v5 / v7 * v7)), (0, .long a0), (2, .long a2), (4, .int a4), (5, .long v5), (7, .long v7)]) rfl ?_
      refine w_lload (pc := 20) X dX9_lowest_20 5 rfl ?_
      refine w_lstore (pc := 22) X dX9_lowest_22 (by decide) (lv' := [(5, .long v7), (9, .long (v5 - v5 / v7 * v7)), (0, .long a0), (2, .long a2), (4, .int a4), (7, .long v7)]) rfl ?_
      refine w_lload (pc := 24) X dX9_lowest_24 1 rfl ?_
      refine w_lstore (pc := 26) X dX9_lowest_26 (by decide) (lv' := [(7, .long (v5 - v5 / v7 * v7)), (5, .long v7), (9, .long (v5 - v5 / v7 * v7)), (0, .long a0), (2, .long a2), (4, .int a4)]) rfl ?_
      refine w_goto (tgt := 6) (pc := 28) X dX9_lowest_28 (by decide) ?_
      exact w_sub (pc := 6) [3, 4, 5, 1, 0] rfl (ih _ _ _ h K)
set_option maxRecDepth 20000 in
theorem M9_lowest {a0 : Int64} {a2 : Int64} {a4 : Int32} {s : Sto} {r : Int64} {σ' : Sto} (h : f9_lowest a0 a2 a4 s = some (r, σ')) : Ct yX9_lowest cX9_lowest 11 (some .long) 0 0 (fun ad => [.long a0, .long a2, .int a4]) s (fun ad => some (.long r)) σ' := by
  unfold f9_lowest at h
  refine Ct_of (by decide) (fun ad => Nat.le_of_ble_eq_true rfl) (fun φ ad X hQ => ?_)
  show wpm φ ad 0 [(0, .long a0), (2, .long a2), (4, .int a4)] [] s
  replace X : Cx φ ad cX9_lowest (some .long) RX9 11 0 0 := X
  refine w_lload_n (pc := 0) X dX9_lowest_0 1 rfl ?_
  refine w_lstore (pc := 1) X dX9_lowest_1 (by decide) (lv' := [(5, .long a2), (0, .long a0), (2, .long a2), (4, .int a4)]) rfl ?_
  refine w_lload_n (pc := 3) X dX9_lowest_3 1 rfl ?_
  refine w_lstore (pc := 4) X dX9_lowest_4 (by decide) (lv' := [(7, .long a0), (5, .long a2), (0, .long a0), (2, .long a2), (4, .int a4)]) rfl ?_
  obtain ⟨y4, h3, h⟩ := bd1_inv h
  refine w_sub (pc := 6) [2, 3, 4, 1, 0] rfl (WL9_lowest_6 X a0 a2 a4 s  FU a2 a0 y4 h3 ?_)
  refine w_iload (pc := 31) X dX9_lowest_31 2 rfl ?_
  refine w_if_ne (pc := 33) (tgt := 43) X dX9_lowest_33 (by decide) (fun c7 => ?_) (fun c7 => ?_)
  · replace h := it_neg c7 h
    refine w_lload_n (pc := 43) X dX9_lowest_43 1 rfl ?_
    refine w_lload (pc := 44) X dX9_lowest_44 3 rfl ?_
    obtain ⟨g5, h⟩ := gd_inv h
    refine w_ldiv (pc := 46) X dX9_lowest_46 g5 ?_
    cases h
    exact w_lret X hQ dX9_lowest_47
  · replace h := it_pos c7 h
    refine w_lload_n (pc := 36) X dX9_lowest_36 0 rfl ?_
    refine w_lload (pc := 37) X dX9_lowest_37 3 rfl ?_
    obtain ⟨g6, h⟩ := gd_inv h
    refine w_ldiv (pc := 39) X dX9_lowest_39 g6 ?_
    refine w_goto (tgt := 47) (pc := 40) X dX9_lowest_40 (by decide) ?_
    cases h
    exact w_lret X hQ dX9_lowest_47
set_option maxRecDepth 20000 in
theorem WL9_atLeast_5 {φ : Fr} {ad : Nat → Nat} (X : Cx φ ad cX9_atLeast (some .long) RX9 5 0 0) (o : Nat) (s : Sto) (k_o : kd o = 9) : ∀ (fuel : Nat) (v2 : Int64) (v4 : Int32) (t2 : Int64), L9_atLeast_5 o s fuel v2 v4 = some (t2) → wpm φ ad 28 [(2, .long t2)] [] s → wpm φ ad 5 [(0, .ref (ad o)), (2, .long v2), (4, .int v4)] [] s := by
  intro fuel
  induction fuel with
  | zero => intro v2 v4 t2 h; cases h
  | succ fuel ih =>
    intro v2 v4 t2 h K
    unfold L9_atLeast_5 at h
    refine w_iload (pc := 5) X dX9_atLeast_5 2 rfl ?_
    refine w_bipush (pc := 7) X dX9_atLeast_7 (v := (96)) rfl ?_
    refine w_icmp_ge (pc := 9) (tgt := 28) X dX9_atLeast_9 (by decide) (fun c3 => ?_) (fun c3 => ?_)
    · replace h := it_pos c3 h
      cases h
      exact w_sub (pc := 28) [1] rfl K
    · replace h := it_neg c3 h
      refine w_lload_n (pc := 12) X dX9_atLeast_12 1 rfl ?_
      refine w_aload_n (pc := 13) X dX9_atLeast_13 0 rfl ?_
      refine w_getR (pc := 14) X dX9_atLeast_14 clO_9 k_o 40 (by decide) (d := 19) rfl fl_9_64 ?_
      refine w_iload (pc := 17) X dX9_atLeast_17 2 rfl ?_
      obtain ⟨g1, h⟩ := gd_inv h
      refine w_lald (pc := 19) X dX9_atLeast_19 (kp_9_19 k_o) g1 ?_
      refine w_ladd (pc := 20) X dX9_atLeast_20 ?_
      obtain ⟨x2, e_x2, h⟩ := nm_inv h
      refine w_nml e_x2 ?_
      refine w_lstore_n (pc := 21) X dX9_atLeast_21 2 rfl (by decide) (lv' := [(2, .long x2), (0, .ref (ad o)), (4, .int v4)]) rfl ?_
      refine w_iinc (pc := 22) X dX9_atLeast_22 2 rfl (v := (v4 + 1)) rfl (by decide) (lv' := [(4, .int (v4 + 1)), (2, .long x2), (0, .ref (ad o))]) rfl ?_
      refine w_goto (tgt := 5) (pc := 25) X dX9_atLeast_25 (by decide) ?_
      exact w_sub (pc := 5) [2, 1, 0] rfl (ih _ _ _ h K)
set_option maxRecDepth 20000 in
theorem M9_atLeast {o : Nat} {a1 : Int32} {s : Sto} {r : Int64} {σ' : Sto} (h : f9_atLeast o a1 s = some (r, σ')) : Ct yX9_atLeast cX9_atLeast 5 (some .long) 0 0 (fun ad => [.ref (ad o), .int a1]) s (fun ad => some (.long r)) σ' := by
  unfold f9_atLeast at h
  obtain ⟨k_o, h⟩ := gd_inv h
  refine Ct_of (by decide) (fun ad => Nat.le_of_ble_eq_true rfl) (fun φ ad X hQ => ?_)
  show wpm φ ad 0 [(0, .ref (ad o)), (1, .int a1)] [] s
  replace X : Cx φ ad cX9_atLeast (some .long) RX9 5 0 0 := X
  refine w_lconst (pc := 0) X dX9_atLeast_0 (v := 0) rfl ?_
  refine w_lstore_n (pc := 1) X dX9_atLeast_1 2 rfl (by decide) (lv' := [(2, .long (0 : Int64)), (0, .ref (ad o)), (1, .int a1)]) rfl ?_
  refine w_iload_n (pc := 2) X dX9_atLeast_2 2 rfl ?_
  refine w_istore (pc := 3) X dX9_atLeast_3 (by decide) (lv' := [(4, .int a1), (2, .long (0 : Int64)), (0, .ref (ad o)), (1, .int a1)]) rfl ?_
  obtain ⟨y5, h4, h⟩ := bd1_inv h
  refine w_sub (pc := 5) [2, 1, 0] rfl (WL9_atLeast_5 X o s k_o FU (0 : Int64) a1 y5 h4 ?_)
  refine w_lload_n (pc := 28) X dX9_atLeast_28 0 rfl ?_
  cases h
  exact w_lret X hQ dX9_atLeast_29
set_option maxRecDepth 20000 in
theorem WL9_chance_69 {φ : Fr} {ad : Nat → Nat} (X : Cx φ ad cX9_chance (some .long) RX9 8 1 30) (o : Nat) (a1 : Int32) (a3 : Int32) (a4 : Int32) (s : Sto) (k_o : kd o = 9) : ∀ (fuel : Nat) (v5 : Int64) (v7 : Int32) (t5 : Int64), L9_chance_69 o a1 a3 a4 s fuel v5 v7 = some (t5) → wpm φ ad 98 [(0, .ref (ad o)), (1, .int a1), (3, .int a3), (4, .int a4), (5, .long t5)] [] s → wpm φ ad 69 [(0, .ref (ad o)), (1, .int a1), (3, .int a3), (4, .int a4), (5, .long v5), (7, .int v7)] [] s := by
  intro fuel
  induction fuel with
  | zero => intro v5 v7 t5 h; cases h
  | succ fuel ih =>
    intro v5 v7 t5 h K
    unfold L9_chance_69 at h
    refine w_iload (pc := 69) X dX9_chance_69 5 rfl ?_
    refine w_bipush (pc := 71) X dX9_chance_71 (v := (96)) rfl ?_
    refine w_icmp_ge (pc := 73) (tgt := 98) X dX9_chance_73 (by decide) (fun c17 => ?_) (fun c17 => ?_)
    · replace h := it_pos c17 h
      cases h
      exact w_sub (pc := 98) [0, 1, 2, 3, 4] rfl K
    · replace h := it_neg c17 h
      refine w_lload (pc := 76) X dX9_chance_76 4 rfl ?_
      refine w_iload (pc := 78) X dX9_chance_78 5 rfl ?_
      refine w_i2l (pc := 80) X dX9_chance_80 ?_
      refine w_aload_n (pc := 81) X dX9_chance_81 0 rfl ?_
      refine w_getR (pc := 82) X dX9_chance_82 clO_9 k_o 40 (by decide) (d := 19) rfl fl_9_64 ?_
      refine w_iload (pc := 85) X dX9_chance_85 5 rfl ?_
      obtain ⟨g15, h⟩ := gd_inv h
      refine w_lald (pc := 87) X dX9_chance_87 (kp_9_19 k_o) g15 ?_
      refine w_lmul (pc := 88) X dX9_chance_88 ?_
      refine w_ladd (pc := 89) X dX9_chance_89 ?_
      obtain ⟨x16, e_x16, h⟩ := nm_inv h
      refine w_nml e_x16 ?_
      refine w_lstore (pc := 90) X dX9_chance_90 (by decide) (lv' := [(5, .long x16), (0, .ref (ad o)), (1, .int a1), (3, .int a3), (4, .int a4), (7, .int v7)]) rfl ?_
      refine w_iinc (pc := 92) X dX9_chance_92 5 rfl (v := (v7 + 1)) rfl (by decide) (lv' := [(7, .int (v7 + 1)), (5, .long x16), (0, .ref (ad o)), (1, .int a1), (3, .int a3), (4, .int a4)]) rfl ?_
      refine w_goto (tgt := 69) (pc := 95) X dX9_chance_95 (by decide) ?_
      exact w_sub (pc := 69) [2, 3, 4, 5, 1, 0] rfl (ih _ _ _ h K)
set_option maxRecDepth 20000 in
theorem M9_chance {o : Nat} {a1 : Int32} {a2 : Int32} {a3 : Int32} {a4 : Int32} {s : Sto} {r : Int64} {σ' : Sto} (h : f9_chance o a1 a2 a3 a4 s = some (r, σ')) : Ct yX9_chance cX9_chance 8 (some .long) 1 30 (fun ad => [.ref (ad o), .int a1, .int a2, .int a3, .int a4]) s (fun ad => some (.long r)) σ' := by
  unfold f9_chance at h
  obtain ⟨k_o, h⟩ := gd_inv h
  refine Ct_of (by decide) (fun ad => Nat.le_of_ble_eq_true rfl) (fun φ ad X hQ => ?_)
  show wpm φ ad 0 [(0, .ref (ad o)), (1, .int a1), (2, .int a2), (3, .int a3), (4, .int a4)] [] s
  replace X : Cx φ ad cX9_chance (some .long) RX9 8 1 30 := X
  refine w_iload_n (pc := 0) X dX9_chance_0 1 rfl ?_
  refine w_i2l (pc := 1) X dX9_chance_1 ?_
  refine w_lconst (pc := 2) X dX9_chance_2 (v := 0) rfl ?_
  refine w_ldc2 (pc := 3) X dX9_chance_3 (v := (12)) cn_9_272 ?_
  obtain ⟨r3, s1, h2, h⟩ := bd2_inv h
  refine w_callS (pc := 6) X dX9_chance_6 (M9_in h2) rfl cw_9_101 ⟨Nat.le_of_ble_eq_true rfl, Nat.le_of_ble_eq_true rfl⟩ rfl rfl (Nat.le_of_ble_eq_true rfl) ?_
  show wpm φ ad 9 [(0, .ref (ad o)), (1, .int a1), (2, .int a2), (3, .int a3), (4, .int a4)] [.int r3] s1
  refine w_if_eq (pc := 9) (tgt := 49) X dX9_chance_9 (by decide) (fun c36 => ?_) (fun c36 => ?_)
  · replace h := it_pos c36 h
    refine w_ldc2 (pc := 49) X dX9_chance_49 (v := (-1000000000000000002)) cn_9_280 ?_
    cases h
    exact w_lret X hQ dX9_chance_52
  · replace h := it_neg c36 h
    refine w_iload_n (pc := 12) X dX9_chance_12 2 rfl ?_
    refine w_i2l (pc := 13) X dX9_chance_13 ?_
    refine w_lconst (pc := 14) X dX9_chance_14 (v := 0) rfl ?_
    refine w_ldc2 (pc := 15) X dX9_chance_15 (v := (10)) cn_9_285 ?_
    obtain ⟨r6, s4, h5, h⟩ := bd2_inv h
    refine w_callS (pc := 18) X dX9_chance_18 (M9_in h5) rfl cw_9_101 ⟨Nat.le_of_ble_eq_true rfl, Nat.le_of_ble_eq_true rfl⟩ rfl rfl (Nat.le_of_ble_eq_true rfl) ?_
    show wpm φ ad 21 [(0, .ref (ad o)), (1, .int a1), (2, .int a2), (3, .int a3), (4, .int a4)] [.int r6] s4
    refine w_if_eq (pc := 21) (tgt := 49) X dX9_chance_21 (by decide) (fun c35 => ?_) (fun c35 => ?_)
    · replace h := it_pos c35 h
      refine w_ldc2 (pc := 49) X dX9_chance_49 (v := (-1000000000000000002)) cn_9_280 ?_
      cases h
      exact w_lret X hQ dX9_chance_52
    · replace h := it_neg c35 h
      refine w_iload_n (pc := 24) X dX9_chance_24 3 rfl ?_
      refine w_i2l (pc := 25) X dX9_chance_25 ?_
      refine w_ldc2 (pc := 26) X dX9_chance_26 (v := (-1)) cn_9_287 ?_
      refine w_ldc2 (pc := 29) X dX9_chance_29 (v := (50)) cn_9_278 ?_
      obtain ⟨r9, s7, h8, h⟩ := bd2_inv h
      refine w_callS (pc := 32) X dX9_chance_32 (M9_in h8) rfl cw_9_101 ⟨Nat.le_of_ble_eq_true rfl, Nat.le_of_ble_eq_true rfl⟩ rfl rfl (Nat.le_of_ble_eq_true rfl) ?_
      show wpm φ ad 35 [(0, .ref (ad o)), (1, .int a1), (2, .int a2), (3, .int a3), (4, .int a4)] [.int r9] s7
      refine w_if_eq (pc := 35) (tgt := 49) X dX9_chance_35 (by decide) (fun c34 => ?_) (fun c34 => ?_)
      · replace h := it_pos c34 h
        refine w_ldc2 (pc := 49) X dX9_chance_49 (v := (-1000000000000000002)) cn_9_280 ?_
        cases h
        exact w_lret X hQ dX9_chance_52
      · replace h := it_neg c34 h
        refine w_iload (pc := 38) X dX9_chance_38 4 rfl ?_
        refine w_i2l (pc := 40) X dX9_chance_40 ?_
        refine w_lconst (pc := 41) X dX9_chance_41 (v := 0) rfl ?_
        refine w_lconst (pc := 42) X dX9_chance_42 (v := 1) rfl ?_
        obtain ⟨r12, s10, h11, h⟩ := bd2_inv h
        refine w_callS (pc := 43) X dX9_chance_43 (M9_in h11) rfl cw_9_101 ⟨Nat.le_of_ble_eq_true rfl, Nat.le_of_ble_eq_true rfl⟩ rfl rfl (Nat.le_of_ble_eq_true rfl) ?_
        show wpm φ ad 46 [(0, .ref (ad o)), (1, .int a1), (2, .int a2), (3, .int a3), (4, .int a4)] [.int r12] s10
        refine w_if_ne (pc := 46) (tgt := 53) X dX9_chance_46 (by decide) (fun c33 => ?_) (fun c33 => ?_)
        · replace h := it_neg c33 h
          refine w_aload_n (pc := 53) X dX9_chance_53 0 rfl ?_
          refine w_aload_n (pc := 54) X dX9_chance_54 0 rfl ?_
          refine w_getI (pc := 55) X dX9_chance_55 clO_9 k_o 3 (by decide) rfl fl_9_92 ?_
          refine w_iload_n (pc := 58) X dX9_chance_58 1 rfl ?_
          refine w_iload_n (pc := 59) X dX9_chance_59 2 rfl ?_
          obtain ⟨s13, h14, h⟩ := bd1_inv h
          refine w_callV (pc := 60) X dX9_chance_60 (M9_goChance h14) k_o (by decide) rfl cw_9_289 ⟨Nat.le_of_ble_eq_true rfl, Nat.le_of_ble_eq_true rfl⟩ rfl rfl (Nat.le_of_ble_eq_true rfl) ?_
          show wpm φ ad 63 [(0, .ref (ad o)), (1, .int a1), (2, .int a2), (3, .int a3), (4, .int a4)] [] s13
          refine w_lconst (pc := 63) X dX9_chance_63 (v := 0) rfl ?_
          refine w_lstore (pc := 64) X dX9_chance_64 (by decide) (lv' := [(5, .long (0 : Int64)), (0, .ref (ad o)), (1, .int a1), (2, .int a2), (3, .int a3), (4, .int a4)]) rfl ?_
          refine w_iconst (pc := 66) X dX9_chance_66 (v := 0) rfl ?_
          refine w_istore (pc := 67) X dX9_chance_67 (by decide) (lv' := [(7, .int (0 : Int32)), (5, .long (0 : Int64)), (0, .ref (ad o)), (1, .int a1), (2, .int a2), (3, .int a3), (4, .int a4)]) rfl ?_
          obtain ⟨y19, h18, h⟩ := bd1_inv h
          refine w_sub (pc := 69) [2, 3, 5, 6, 1, 0] rfl (WL9_chance_69 X o a1 a3 a4 s13 k_o FU (0 : Int64) (0 : Int32) y19 h18 ?_)
          refine w_iload_n (pc := 98) X dX9_chance_98 2 rfl ?_
          obtain ⟨x24, s25, h32, h⟩ := bd2_inv h
          have K99 : wpm φ ad 112 [(1, .int a1), (4, .int a4)] [.long x24] s25 := by
            refine w_iload_n (pc := 112) X dX9_chance_112 0 rfl ?_
            obtain ⟨r28, s26, h27, h⟩ := bd2_inv h
            refine w_callS (pc := 113) X dX9_chance_113 (M9_tens h27) rfl cw_9_297 ⟨Nat.le_of_ble_eq_true rfl, Nat.le_of_ble_eq_true rfl⟩ rfl rfl (Nat.le_of_ble_eq_true rfl) ?_
            show wpm φ ad 116 [(1, .int a1), (4, .int a4)] [.long r28, .long x24] s26
            refine w_iload (pc := 116) X dX9_chance_116 1 rfl ?_
            obtain ⟨r31, s29, h30, h⟩ := bd2_inv h
            refine w_callS (pc := 118) X dX9_chance_118 (M9_lowest h30) rfl cw_9_300 ⟨Nat.le_of_ble_eq_true rfl, Nat.le_of_ble_eq_true rfl⟩ rfl rfl (Nat.le_of_ble_eq_true rfl) ?_
            show wpm φ ad 121 [(1, .int a1), (4, .int a4)] [.long r31] s29
            cases h
            exact w_lret X hQ dX9_chance_121
          clear h
          have h := h32
          clear h32
          refine w_if_ge (pc := 99) (tgt := 107) X dX9_chance_99 (by decide) (fun c23 => ?_) (fun c23 => ?_)
          · replace h := it_pos c23 h
            refine w_aload_n (pc := 107) X dX9_chance_107 0 rfl ?_
            refine w_iload_n (pc := 108) X dX9_chance_108 2 rfl ?_
            obtain ⟨r22, s20, h21, h⟩ := bd2_inv h
            refine w_callV (pc := 109) X dX9_chance_109 (M9_atLeast h21) k_o (by decide) rfl cw_9_293 ⟨Nat.le_of_ble_eq_true rfl, Nat.le_of_ble_eq_true rfl⟩ rfl rfl (Nat.le_of_ble_eq_true rfl) ?_
            show wpm φ ad 112 [(0, .ref (ad o)), (1, .int a1), (3, .int a3), (4, .int a4), (5, .long y19)] [.long r22] s20
            cases h
            exact w_sub (pc := 112) [1, 3] rfl K99
          · replace h := it_neg c23 h
            refine w_lload (pc := 102) X dX9_chance_102 4 rfl ?_
            refine w_goto (tgt := 112) (pc := 104) X dX9_chance_104 (by decide) ?_
            cases h
            exact w_sub (pc := 112) [1, 3] rfl K99
        · replace h := it_pos c33 h
          refine w_ldc2 (pc := 49) X dX9_chance_49 (v := (-1000000000000000002)) cn_9_280 ?_
          cases h
          exact w_lret X hQ dX9_chance_52
set_option maxRecDepth 20000 in
theorem WL9_over_68 {φ : Fr} {ad : Nat → Nat} (X : Cx φ ad cX9_over (some .int) RX9 9 1 25) (o : Nat) (a1 : Int32) (a2 : Int32) (a3 : Int32) (a4 : Int32) (a5 : Int32) (k_o : kd o = 9) {r : Int32} {σ' : Sto} (hQ : Fini φ ad (some (.int r)) σ') : ∀ (fuel : Nat) (v6 : Int32) (s : Sto), L9_over_68 o a1 a2 a3 a4 a5 fuel v6 s = some (r, σ') → wpm φ ad 68 [(0, .ref (ad o)), (1, .int a1), (2, .int a2), (3, .int a3), (4, .int a4), (5, .int a5), (6, .int v6)] [] s := by
  intro fuel
  induction fuel with
  | zero => intro v6 s h; cases h
  | succ fuel ih =>
    intro v6 s h
    unfold L9_over_68 at h
    refine w_iload (pc := 68) X dX9_over_68 6 rfl ?_
    refine w_bipush (pc := 70) X dX9_over_70 (v := (40)) rfl ?_
    refine w_icmp_gt (pc := 72) (tgt := 154) X dX9_over_72 (by decide) (fun c33 => ?_) (fun c33 => ?_)
    · replace h := it_pos c33 h
      refine w_bipush (pc := 154) X dX9_over_154 (v := (-6)) rfl ?_
      cases h
      exact w_iret X hQ dX9_over_156
    · replace h := it_neg c33 h
      refine w_aload_n (pc := 75) X dX9_over_75 0 rfl ?_
      refine w_getI (pc := 76) X dX9_over_76 clO_9 k_o 3 (by decide) rfl fl_9_92 ?_
      refine w_iload (pc := 79) X dX9_over_79 6 rfl ?_
      refine w_iadd (pc := 81) X dX9_over_81 ?_
      refine w_istore (pc := 82) X dX9_over_82 (by decide) (lv' := [(7, .int ((s.1 o 3) + v6)), (0, .ref (ad o)), (1, .int a1), (2, .int a2), (3, .int a3), (4, .int a4), (5, .int a5), (6, .int v6)]) rfl ?_
      refine w_iload (pc := 84) X dX9_over_84 0 rfl ?_
      refine w_iload_n (pc := 86) X dX9_over_86 2 rfl ?_
      refine w_isub (pc := 87) X dX9_over_87 ?_
      refine w_iload_n (pc := 88) X dX9_over_88 4 rfl ?_
      obtain ⟨x17, h32, h⟩ := bd1_inv h
      have K89 : wpm φ ad 97 [(0, .ref (ad o)), (1, .int a1), (2, .int a2), (3, .int a3), (4, .int a4), (5, .int a5), (6, .int v6), (7, .int ((s.1 o 3) + v6))] [.int x17] s := by
        refine w_istore (pc := 97) X dX9_over_97 (by decide) (lv' := [(8, .int x17), (0, .ref (ad o)), (1, .int a1), (2, .int a2), (3, .int a3), (4, .int a4), (5, .int a5), (6, .int v6), (7, .int ((s.1 o 3) + v6))]) rfl ?_
        refine w_iload (pc := 99) X dX9_over_99 0 rfl ?_
        refine w_if_ne (pc := 101) (tgt := 140) X dX9_over_101 (by decide) (fun c31 => ?_) (fun c31 => ?_)
        · replace h := it_neg c31 h
          refine w_iload (pc := 140) X dX9_over_140 0 rfl ?_
          refine w_if_eq (pc := 142) (tgt := 148) X dX9_over_142 (by decide) (fun c18 => ?_) (fun c18 => ?_)
          · replace h := it_pos c18 h
            refine w_iinc (pc := 148) X dX9_over_148 7 rfl (v := (v6 + 1)) rfl (by decide) (lv' := [(6, .int (v6 + 1)), (8, .int x17), (0, .ref (ad o)), (1, .int a1), (2, .int a2), (3, .int a3), (4, .int a4), (5, .int a5), (7, .int ((s.1 o 3) + v6))]) rfl ?_
            refine w_goto (tgt := 68) (pc := 151) X dX9_over_151 (by decide) ?_
            exact w_sub (pc := 68) [2, 3, 4, 5, 6, 7, 0] rfl (ih _ _ h)
          · replace h := it_neg c18 h
            refine w_iload (pc := 145) X dX9_over_145 7 rfl ?_
            cases h
            exact w_iret X hQ dX9_over_147
        · replace h := it_pos c31 h
          refine w_aload_n (pc := 104) X dX9_over_104 1 rfl ?_
          refine w_iload (pc := 105) X dX9_over_105 8 rfl ?_
          refine w_iload_n (pc := 107) X dX9_over_107 2 rfl ?_
          refine w_iload_n (pc := 108) X dX9_over_108 3 rfl ?_
          obtain ⟨s19, h20, h⟩ := bd1_inv h
          refine w_callV (pc := 109) X dX9_over_109 (M9_goChance h20) k_o (by decide) rfl cw_9_289 ⟨Nat.le_of_ble_eq_true rfl, Nat.le_of_ble_eq_true rfl⟩ rfl rfl (Nat.le_of_ble_eq_true rfl) ?_
          show wpm φ ad 112 [(8, .int x17), (0, .ref (ad o)), (1, .int a1), (2, .int a2), (3, .int a3), (4, .int a4), (5, .int a5), (6, .int v6), (7, .int ((s.1 o 3) + v6))] [] s19
          refine w_aload_n (pc := 112) X dX9_over_112 1 rfl ?_
          refine w_iload_n (pc := 113) X dX9_over_113 4 rfl ?_
          obtain ⟨r23, s21, h22, h⟩ := bd2_inv h
          refine w_callV (pc := 114) X dX9_over_114 (M9_atLeast h22) k_o (by decide) rfl cw_9_293 ⟨Nat.le_of_ble_eq_true rfl, Nat.le_of_ble_eq_true rfl⟩ rfl rfl (Nat.le_of_ble_eq_true rfl) ?_
          show wpm φ ad 117 [(8, .int x17), (0, .ref (ad o)), (1, .int a1), (2, .int a2), (3, .int a3), (4, .int a4), (5, .int a5), (6, .int v6), (7, .int ((s.1 o 3) + v6))] [.long r23] s21
          refine w_iload (pc := 117) X dX9_over_117 6 rfl ?_
          refine w_i2l (pc := 119) X dX9_over_119 ?_
          refine w_lmul (pc := 120) X dX9_over_120 ?_
          refine w_iload (pc := 121) X dX9_over_121 5 rfl ?_
          refine w_i2l (pc := 123) X dX9_over_123 ?_
          refine w_iload_n (pc := 124) X dX9_over_124 2 rfl ?_
          obtain ⟨r26, s24, h25, h⟩ := bd2_inv h
          refine w_callS (pc := 125) X dX9_over_125 (M9_tens h25) rfl cw_9_297 ⟨Nat.le_of_ble_eq_true rfl, Nat.le_of_ble_eq_true rfl⟩ rfl rfl (Nat.le_of_ble_eq_true rfl) ?_
          show wpm φ ad 128 [(8, .int x17), (0, .ref (ad o)), (1, .int a1), (2, .int a2), (3, .int a3), (4, .int a4), (5, .int a5), (6, .int v6), (7, .int ((s.1 o 3) + v6))] [.long r26, .long (a4).toInt64, .long (r23 * (a5).toInt64)] s24
          refine w_lmul (pc := 128) X dX9_over_128 ?_
          refine w_lcmp (pc := 129) X dX9_over_129 ?_
          obtain ⟨x28, h30, h⟩ := bd1_inv h
          have K130 : wpm φ ad 138 [(0, .ref (ad o)), (1, .int a1), (2, .int a2), (3, .int a3), (4, .int a4), (5, .int a5), (6, .int v6)] [.int x28] s24 := by
            refine w_istore (pc := 138) X dX9_over_138 (by decide) (lv' := [(8, .int x28), (0, .ref (ad o)), (1, .int a1), (2, .int a2), (3, .int a3), (4, .int a4), (5, .int a5), (6, .int v6)]) rfl ?_
            refine w_iload (pc := 140) X dX9_over_140 0 rfl ?_
            refine w_if_eq (pc := 142) (tgt := 148) X dX9_over_142 (by decide) (fun c29 => ?_) (fun c29 => ?_)
            · replace h := it_pos c29 h
              refine w_iinc (pc := 148) X dX9_over_148 7 rfl (v := (v6 + 1)) rfl (by decide) (lv' := [(6, .int (v6 + 1)), (8, .int x28), (0, .ref (ad o)), (1, .int a1), (2, .int a2), (3, .int a3), (4, .int a4), (5, .int a5)]) rfl ?_
              refine w_goto (tgt := 68) (pc := 151) X dX9_over_151 (by decide) ?_
              exact w_sub (pc := 68) [2, 3, 4, 5, 6, 7, 0] rfl (ih _ _ h)
            · replace h := it_neg c29 h
              refine w_iload (pc := 145) X dX9_over_145 7 rfl ?_
              cases h
              exact w_iret X hQ dX9_over_147
          clear h
          have h := h30
          clear h30
          refine w_if_lt (pc := 130) (tgt := 137) X dX9_over_130 (by decide) (fun c27 => ?_) (fun c27 => ?_)
          · replace h := it_pos c27 h
            refine w_iconst (pc := 137) X dX9_over_137 (v := 0) rfl ?_
            cases h
            exact w_sub (pc := 138) [1, 2, 3, 4, 5, 6, 7] rfl K130
          · replace h := it_neg c27 h
            refine w_iconst (pc := 133) X dX9_over_133 (v := 1) rfl ?_
            refine w_goto (tgt := 138) (pc := 134) X dX9_over_134 (by decide) ?_
            cases h
            exact w_sub (pc := 138) [1, 2, 3, 4, 5, 6, 7] rfl K130
      clear h
      have h := h32
      clear h32
      refine w_icmp_lt (pc := 89) (tgt := 96) X dX9_over_89 (by decide) (fun c16 => ?_) (fun c16 => ?_)
      · replace h := it_pos c16 h
        refine w_iconst (pc := 96) X dX9_over_96 (v := 0) rfl ?_
        cases h
        exact w_sub (pc := 97) [1, 2, 3, 4, 5, 6, 7, 0] rfl K89
      · replace h := it_neg c16 h
        refine w_iconst (pc := 92) X dX9_over_92 (v := 1) rfl ?_
        refine w_goto (tgt := 97) (pc := 93) X dX9_over_93 (by decide) ?_
        cases h
        exact w_sub (pc := 97) [1, 2, 3, 4, 5, 6, 7, 0] rfl K89
set_option maxRecDepth 20000 in
theorem M9_over {o : Nat} {a1 : Int32} {a2 : Int32} {a3 : Int32} {a4 : Int32} {a5 : Int32} {s : Sto} {r : Int32} {σ' : Sto} (h : f9_over o a1 a2 a3 a4 a5 s = some (r, σ')) : Ct yX9_over cX9_over 9 (some .int) 1 25 (fun ad => [.ref (ad o), .int a1, .int a2, .int a3, .int a4, .int a5]) s (fun ad => some (.int r)) σ' := by
  unfold f9_over at h
  obtain ⟨k_o, h⟩ := gd_inv h
  refine Ct_of (by decide) (fun ad => Nat.le_of_ble_eq_true rfl) (fun φ ad X hQ => ?_)
  show wpm φ ad 0 [(0, .ref (ad o)), (1, .int a1), (2, .int a2), (3, .int a3), (4, .int a4), (5, .int a5)] [] s
  replace X : Cx φ ad cX9_over (some .int) RX9 9 1 25 := X
  refine w_iload_n (pc := 0) X dX9_over_0 1 rfl ?_
  refine w_i2l (pc := 1) X dX9_over_1 ?_
  refine w_lconst (pc := 2) X dX9_over_2 (v := 0) rfl ?_
  refine w_ldc2 (pc := 3) X dX9_over_3 (v := (12)) cn_9_272 ?_
  obtain ⟨r3, s1, h2, h⟩ := bd2_inv h
  refine w_callS (pc := 6) X dX9_over_6 (M9_in h2) rfl cw_9_101 ⟨Nat.le_of_ble_eq_true rfl, Nat.le_of_ble_eq_true rfl⟩ rfl rfl (Nat.le_of_ble_eq_true rfl) ?_
  show wpm φ ad 9 [(0, .ref (ad o)), (1, .int a1), (2, .int a2), (3, .int a3), (4, .int a4), (5, .int a5)] [.int r3] s1
  refine w_if_eq (pc := 9) (tgt := 62) X dX9_over_9 (by decide) (fun c38 => ?_) (fun c38 => ?_)
  · replace h := it_pos c38 h
    refine w_bipush (pc := 62) X dX9_over_62 (v := (-2)) rfl ?_
    cases h
    exact w_iret X hQ dX9_over_64
  · replace h := it_neg c38 h
    refine w_iload_n (pc := 12) X dX9_over_12 2 rfl ?_
    refine w_i2l (pc := 13) X dX9_over_13 ?_
    refine w_lconst (pc := 14) X dX9_over_14 (v := 0) rfl ?_
    refine w_ldc2 (pc := 15) X dX9_over_15 (v := (10)) cn_9_285 ?_
    obtain ⟨r6, s4, h5, h⟩ := bd2_inv h
    refine w_callS (pc := 18) X dX9_over_18 (M9_in h5) rfl cw_9_101 ⟨Nat.le_of_ble_eq_true rfl, Nat.le_of_ble_eq_true rfl⟩ rfl rfl (Nat.le_of_ble_eq_true rfl) ?_
    show wpm φ ad 21 [(0, .ref (ad o)), (1, .int a1), (2, .int a2), (3, .int a3), (4, .int a4), (5, .int a5)] [.int r6] s4
    refine w_if_eq (pc := 21) (tgt := 62) X dX9_over_21 (by decide) (fun c37 => ?_) (fun c37 => ?_)
    · replace h := it_pos c37 h
      refine w_bipush (pc := 62) X dX9_over_62 (v := (-2)) rfl ?_
      cases h
      exact w_iret X hQ dX9_over_64
    · replace h := it_neg c37 h
      refine w_iload_n (pc := 24) X dX9_over_24 3 rfl ?_
      refine w_i2l (pc := 25) X dX9_over_25 ?_
      refine w_lconst (pc := 26) X dX9_over_26 (v := 0) rfl ?_
      refine w_ldc2 (pc := 27) X dX9_over_27 (v := (50)) cn_9_278 ?_
      obtain ⟨r9, s7, h8, h⟩ := bd2_inv h
      refine w_callS (pc := 30) X dX9_over_30 (M9_in h8) rfl cw_9_101 ⟨Nat.le_of_ble_eq_true rfl, Nat.le_of_ble_eq_true rfl⟩ rfl rfl (Nat.le_of_ble_eq_true rfl) ?_
      show wpm φ ad 33 [(0, .ref (ad o)), (1, .int a1), (2, .int a2), (3, .int a3), (4, .int a4), (5, .int a5)] [.int r9] s7
      refine w_if_eq (pc := 33) (tgt := 62) X dX9_over_33 (by decide) (fun c36 => ?_) (fun c36 => ?_)
      · replace h := it_pos c36 h
        refine w_bipush (pc := 62) X dX9_over_62 (v := (-2)) rfl ?_
        cases h
        exact w_iret X hQ dX9_over_64
      · replace h := it_neg c36 h
        refine w_iload (pc := 36) X dX9_over_36 5 rfl ?_
        refine w_i2l (pc := 38) X dX9_over_38 ?_
        refine w_lconst (pc := 39) X dX9_over_39 (v := 1) rfl ?_
        refine w_ldc2 (pc := 40) X dX9_over_40 (v := (100)) cn_9_304 ?_
        obtain ⟨r12, s10, h11, h⟩ := bd2_inv h
        refine w_callS (pc := 43) X dX9_over_43 (M9_in h11) rfl cw_9_101 ⟨Nat.le_of_ble_eq_true rfl, Nat.le_of_ble_eq_true rfl⟩ rfl rfl (Nat.le_of_ble_eq_true rfl) ?_
        show wpm φ ad 46 [(0, .ref (ad o)), (1, .int a1), (2, .int a2), (3, .int a3), (4, .int a4), (5, .int a5)] [.int r12] s10
        refine w_if_eq (pc := 46) (tgt := 62) X dX9_over_46 (by decide) (fun c35 => ?_) (fun c35 => ?_)
        · replace h := it_pos c35 h
          refine w_bipush (pc := 62) X dX9_over_62 (v := (-2)) rfl ?_
          cases h
          exact w_iret X hQ dX9_over_64
        · replace h := it_neg c35 h
          refine w_iload (pc := 49) X dX9_over_49 4 rfl ?_
          refine w_i2l (pc := 51) X dX9_over_51 ?_
          refine w_lconst (pc := 52) X dX9_over_52 (v := 0) rfl ?_
          refine w_iload (pc := 53) X dX9_over_53 5 rfl ?_
          refine w_i2l (pc := 55) X dX9_over_55 ?_
          obtain ⟨r15, s13, h14, h⟩ := bd2_inv h
          refine w_callS (pc := 56) X dX9_over_56 (M9_in h14) rfl cw_9_101 ⟨Nat.le_of_ble_eq_true rfl, Nat.le_of_ble_eq_true rfl⟩ rfl rfl (Nat.le_of_ble_eq_true rfl) ?_
          show wpm φ ad 59 [(0, .ref (ad o)), (1, .int a1), (2, .int a2), (3, .int a3), (4, .int a4), (5, .int a5)] [.int r15] s13
          refine w_if_ne (pc := 59) (tgt := 65) X dX9_over_59 (by decide) (fun c34 => ?_) (fun c34 => ?_)
          · replace h := it_neg c34 h
            refine w_iconst (pc := 65) X dX9_over_65 (v := 0) rfl ?_
            refine w_istore (pc := 66) X dX9_over_66 (by decide) (lv' := [(6, .int (0 : Int32)), (0, .ref (ad o)), (1, .int a1), (2, .int a2), (3, .int a3), (4, .int a4), (5, .int a5)]) rfl ?_
            exact w_sub (pc := 68) [1, 2, 3, 4, 5, 6, 0] rfl (WL9_over_68 X o a1 a2 a3 a4 a5 k_o hQ FU (0 : Int32) s13 h)
          · replace h := it_pos c34 h
            refine w_bipush (pc := 62) X dX9_over_62 (v := (-2)) rfl ?_
            cases h
            exact w_iret X hQ dX9_over_64
