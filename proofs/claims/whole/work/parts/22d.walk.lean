set_option maxRecDepth 20000 in
theorem WL9_madeOf_16 {φ : Fr} {ad : Nat → Nat} (X : Cx φ ad cX9_madeOf (some .int) RX9 7 2 46) (o : Nat) (a1 : Int32) (a2 : Int32) (k_o : kd o = 9) : ∀ (fuel : Nat) (v3 : Int32) (v4 : Int32) (s : Sto) (t3 : Int32) (t : Sto), L9_madeOf_16 o a1 a2 fuel v3 v4 s = some (t3, t) → wpm φ ad 100 [(3, .int t3)] [] t → wpm φ ad 16 [(0, .ref (ad o)), (1, .int a1), (2, .int a2), (3, .int v3), (4, .int v4)] [] s := by
  intro fuel
  induction fuel with
  | zero => intro v3 v4 s t3 t h; cases h
  | succ fuel ih =>
    intro v3 v4 s t3 t h K
    unfold L9_madeOf_16 at h
    refine w_iload (pc := 16) X dX9_madeOf_16 4 rfl ?_
    refine w_iload_n (pc := 18) X dX9_madeOf_18 2 rfl ?_
    refine w_icmp_gt (pc := 19) (tgt := 100) X dX9_madeOf_19 (by decide) (fun c20 => ?_) (fun c20 => ?_)
    · replace h := it_pos c20 h
      cases h
      exact w_sub (pc := 100) [3] rfl K
    · replace h := it_neg c20 h
      refine w_iload (pc := 22) X dX9_madeOf_22 4 rfl ?_
      refine w_aload_n (pc := 24) X dX9_madeOf_24 0 rfl ?_
      refine w_getI (pc := 25) X dX9_madeOf_25 clO_9 k_o 3 (by decide) rfl fl_9_92 ?_
      refine w_icmp_gt (pc := 28) (tgt := 100) X dX9_madeOf_28 (by decide) (fun c19 => ?_) (fun c19 => ?_)
      · replace h := it_pos c19 h
        cases h
        exact w_sub (pc := 100) [3] rfl K
      · replace h := it_neg c19 h
        refine w_aload_n (pc := 31) X dX9_madeOf_31 0 rfl ?_
        refine w_getR (pc := 32) X dX9_madeOf_32 clO_9 k_o 34 (by decide) (d := 17) rfl fl_9_58 ?_
        refine w_iload (pc := 35) X dX9_madeOf_35 4 rfl ?_
        obtain ⟨g6, h⟩ := gd_inv h
        refine w_iald (pc := 37) X dX9_madeOf_37 (kp_9_17 k_o) g6 ?_
        refine w_ldc (pc := 38) X dX9_madeOf_38 (v := (1000000)) cn_9_230 ?_
        obtain ⟨x11, s12, h18, h⟩ := bd2_inv h
        have K40 : wpm φ ad 55 [(0, .ref (ad o)), (1, .int a1), (2, .int a2), (3, .int v3), (4, .int v4)] [.int x11] s12 := by
          refine w_istore (pc := 55) X dX9_madeOf_55 (by decide) (lv' := [(5, .int x11), (0, .ref (ad o)), (1, .int a1), (2, .int a2), (3, .int v3), (4, .int v4)]) rfl ?_
          refine w_iload (pc := 57) X dX9_madeOf_57 0 rfl ?_
          refine w_ldc (pc := 59) X dX9_madeOf_59 (v := (1000000)) cn_9_230 ?_
          obtain ⟨x15, h17, h⟩ := bd1_inv h
          have K61 : wpm φ ad 79 [(0, .ref (ad o)), (1, .int a1), (2, .int a2), (3, .int v3), (4, .int v4)] [.int x15] s12 := by
            refine w_istore (pc := 79) X dX9_madeOf_79 (by decide) (lv' := [(6, .int x15), (0, .ref (ad o)), (1, .int a1), (2, .int a2), (3, .int v3), (4, .int v4)]) rfl ?_
            refine w_iload (pc := 81) X dX9_madeOf_81 0 rfl ?_
            refine w_iload_n (pc := 83) X dX9_madeOf_83 4 rfl ?_
            refine w_icmp_ge (pc := 84) (tgt := 92) X dX9_madeOf_84 (by decide) (fun c16 => ?_) (fun c16 => ?_)
            · replace h := it_pos c16 h
              refine w_iload_n (pc := 92) X dX9_madeOf_92 4 rfl ?_
              refine w_istore_n (pc := 93) X dX9_madeOf_93 3 rfl (by decide) (lv' := [(3, .int v3), (6, .int x15), (0, .ref (ad o)), (1, .int a1), (2, .int a2), (4, .int v4)]) rfl ?_
              refine w_iinc (pc := 94) X dX9_madeOf_94 5 rfl (v := (v4 + 1)) rfl (by decide) (lv' := [(4, .int (v4 + 1)), (3, .int v3), (6, .int x15), (0, .ref (ad o)), (1, .int a1), (2, .int a2)]) rfl ?_
              refine w_goto (tgt := 16) (pc := 97) X dX9_madeOf_97 (by decide) ?_
              exact w_sub (pc := 16) [3, 4, 5, 1, 0] rfl (ih _ _ _ _ _ h K)
            · replace h := it_neg c16 h
              refine w_iload (pc := 87) X dX9_madeOf_87 0 rfl ?_
              refine w_goto (tgt := 93) (pc := 89) X dX9_madeOf_89 (by decide) ?_
              refine w_istore_n (pc := 93) X dX9_madeOf_93 3 rfl (by decide) (lv' := [(3, .int x15), (6, .int x15), (0, .ref (ad o)), (1, .int a1), (2, .int a2), (4, .int v4)]) rfl ?_
              refine w_iinc (pc := 94) X dX9_madeOf_94 5 rfl (v := (v4 + 1)) rfl (by decide) (lv' := [(4, .int (v4 + 1)), (3, .int x15), (6, .int x15), (0, .ref (ad o)), (1, .int a1), (2, .int a2)]) rfl ?_
              refine w_goto (tgt := 16) (pc := 97) X dX9_madeOf_97 (by decide) ?_
              exact w_sub (pc := 16) [3, 4, 5, 1, 0] rfl (ih _ _ _ _ _ h K)
          clear h
          have h := h17
          clear h17
          refine w_icmp_ge (pc := 61) (tgt := 77) X dX9_madeOf_61 (by decide) (fun c14 => ?_) (fun c14 => ?_)
          · replace h := it_pos c14 h
            refine w_ldc (pc := 77) X dX9_madeOf_77 (v := (1000000)) cn_9_230 ?_
            cases h
            exact w_sub (pc := 79) [1, 2, 3, 4, 5] rfl K61
          · replace h := it_neg c14 h
            refine w_aload_n (pc := 64) X dX9_madeOf_64 1 rfl ?_
            refine w_getR (pc := 65) X dX9_madeOf_65 clO_9 k_o 34 (by decide) (d := 17) rfl fl_9_58 ?_
            refine w_iload (pc := 68) X dX9_madeOf_68 5 rfl ?_
            obtain ⟨g13, h⟩ := gd_inv h
            refine w_iald (pc := 70) X dX9_madeOf_70 (kp_9_17 k_o) g13 ?_
            refine w_iload (pc := 71) X dX9_madeOf_71 0 rfl ?_
            refine w_iadd (pc := 73) X dX9_madeOf_73 ?_
            refine w_goto (tgt := 79) (pc := 74) X dX9_madeOf_74 (by decide) ?_
            cases h
            exact w_sub (pc := 79) [1, 2, 3, 4, 5] rfl K61
        clear h
        have h := h18
        clear h18
        refine w_icmp_ge (pc := 40) (tgt := 53) X dX9_madeOf_40 (by decide) (fun c10 => ?_) (fun c10 => ?_)
        · replace h := it_pos c10 h
          refine w_ldc (pc := 53) X dX9_madeOf_53 (v := (1000000)) cn_9_230 ?_
          cases h
          exact w_sub (pc := 55) [0, 1, 2, 3, 4] rfl K40
        · replace h := it_neg c10 h
          refine w_aload_n (pc := 43) X dX9_madeOf_43 0 rfl ?_
          refine w_iload (pc := 44) X dX9_madeOf_44 4 rfl ?_
          refine w_iload_n (pc := 46) X dX9_madeOf_46 1 rfl ?_
          obtain ⟨r9, s7, h8, h⟩ := bd2_inv h
          refine w_callV (pc := 47) X dX9_madeOf_47 (M9_building h8) k_o (by decide) rfl cw_9_241 ⟨Nat.le_of_ble_eq_true rfl, Nat.le_of_ble_eq_true rfl⟩ rfl rfl (Nat.le_of_ble_eq_true rfl) ?_
          show wpm φ ad 50 [(0, .ref (ad o)), (1, .int a1), (2, .int a2), (3, .int v3), (4, .int v4)] [.int r9] s7
          refine w_goto (tgt := 55) (pc := 50) X dX9_madeOf_50 (by decide) ?_
          cases h
          exact w_sub (pc := 55) [0, 1, 2, 3, 4] rfl K40
set_option maxRecDepth 20000 in
theorem M9_madeOf {o : Nat} {a1 : Int32} {s : Sto} {r : Int32} {σ' : Sto} (h : f9_madeOf o a1 s = some (r, σ')) : Ct yX9_madeOf cX9_madeOf 7 (some .int) 2 46 (fun ad => [.ref (ad o), .int a1]) s (fun ad => some (.int r)) σ' := by
  unfold f9_madeOf at h
  obtain ⟨k_o, h⟩ := gd_inv h
  refine Ct_of (by decide) (fun ad => Nat.le_of_ble_eq_true rfl) (fun φ ad X hQ => ?_)
  show wpm φ ad 0 [(0, .ref (ad o)), (1, .int a1)] [] s
  replace X : Cx φ ad cX9_madeOf (some .int) RX9 7 2 46 := X
  refine w_aload_n (pc := 0) X dX9_madeOf_0 0 rfl ?_
  refine w_iload_n (pc := 1) X dX9_madeOf_1 1 rfl ?_
  obtain ⟨r3, s1, h2, h⟩ := bd2_inv h
  refine w_callV (pc := 2) X dX9_madeOf_2 (M9_alikeUpTo h2) k_o (by decide) rfl cw_9_235 ⟨Nat.le_of_ble_eq_true rfl, Nat.le_of_ble_eq_true rfl⟩ rfl rfl (Nat.le_of_ble_eq_true rfl) ?_
  show wpm φ ad 5 [(0, .ref (ad o)), (1, .int a1)] [.int r3] s1
  refine w_istore_n (pc := 5) X dX9_madeOf_5 2 rfl (by decide) (lv' := [(2, .int r3), (0, .ref (ad o)), (1, .int a1)]) rfl ?_
  refine w_aload_n (pc := 6) X dX9_madeOf_6 1 rfl ?_
  obtain ⟨s4, h5, h⟩ := bd1_inv h
  refine w_callV (pc := 7) X dX9_madeOf_7 (M9_findDown h5) k_o (by decide) rfl cw_9_238 ⟨Nat.le_of_ble_eq_true rfl, Nat.le_of_ble_eq_true rfl⟩ rfl rfl (Nat.le_of_ble_eq_true rfl) ?_
  show wpm φ ad 10 [(2, .int r3), (0, .ref (ad o)), (1, .int a1)] [] s4
  refine w_ldc (pc := 10) X dX9_madeOf_10 (v := (1000000)) cn_9_230 ?_
  refine w_istore_n (pc := 12) X dX9_madeOf_12 3 rfl (by decide) (lv' := [(3, .int (1000000 : Int32)), (2, .int r3), (0, .ref (ad o)), (1, .int a1)]) rfl ?_
  refine w_iconst (pc := 13) X dX9_madeOf_13 (v := 0) rfl ?_
  refine w_istore (pc := 14) X dX9_madeOf_14 (by decide) (lv' := [(4, .int (0 : Int32)), (3, .int (1000000 : Int32)), (2, .int r3), (0, .ref (ad o)), (1, .int a1)]) rfl ?_
  obtain ⟨y22, s23, h21, h⟩ := bd2_inv h
  refine w_sub (pc := 16) [3, 4, 2, 1, 0] rfl (WL9_madeOf_16 X o a1 r3 k_o FU (1000000 : Int32) (0 : Int32) s4 y22 s23 h21 ?_)
  refine w_iload_n (pc := 100) X dX9_madeOf_100 0 rfl ?_
  refine w_ldc (pc := 101) X dX9_madeOf_101 (v := (1000000)) cn_9_230 ?_
  refine w_icmp_ne (pc := 103) (tgt := 111) X dX9_madeOf_103 (by decide) (fun c24 => ?_) (fun c24 => ?_)
  · replace h := it_neg c24 h
    refine w_iload_n (pc := 111) X dX9_madeOf_111 0 rfl ?_
    cases h
    exact w_iret X hQ dX9_madeOf_112
  · replace h := it_pos c24 h
    refine w_bipush (pc := 106) X dX9_madeOf_106 (v := (-6)) rfl ?_
    refine w_goto (tgt := 112) (pc := 108) X dX9_madeOf_108 (by decide) ?_
    cases h
    exact w_iret X hQ dX9_madeOf_112
set_option maxRecDepth 20000 in
theorem M9_made {o : Nat} {s : Sto} {r : Int32} {σ' : Sto} (h : f9_made o s = some (r, σ')) : Ct yX9_made cX9_made 1 (some .int) 3 72 (fun ad => [.ref (ad o)]) s (fun ad => some (.int r)) σ' := by
  unfold f9_made at h
  obtain ⟨k_o, h⟩ := gd_inv h
  refine Ct_of (by decide) (fun ad => Nat.le_of_ble_eq_true rfl) (fun φ ad X hQ => ?_)
  show wpm φ ad 0 [(0, .ref (ad o))] [] s
  replace X : Cx φ ad cX9_made (some .int) RX9 1 3 72 := X
  refine w_aload_n (pc := 0) X dX9_made_0 0 rfl ?_
  obtain ⟨r3, s1, h2, h⟩ := bd2_inv h
  refine w_callV (pc := 1) X dX9_made_1 (M9_faultOfPattern h2) k_o (by decide) rfl cw_9_141 ⟨Nat.le_of_ble_eq_true rfl, Nat.le_of_ble_eq_true rfl⟩ rfl rfl (Nat.le_of_ble_eq_true rfl) ?_
  show wpm φ ad 4 [(0, .ref (ad o))] [.int r3] s1
  refine w_if_lt (pc := 4) (tgt := 10) X dX9_made_4 (by decide) (fun c8 => ?_) (fun c8 => ?_)
  · replace h := it_pos c8 h
    refine w_aload_n (pc := 10) X dX9_made_10 0 rfl ?_
    refine w_getI (pc := 11) X dX9_made_11 clO_9 k_o 20 (by decide) rfl fl_9_134 ?_
    refine w_bipush (pc := 14) X dX9_made_14 (v := (30)) rfl ?_
    refine w_icmp_le (pc := 16) (tgt := 24) X dX9_made_16 (by decide) (fun c7 => ?_) (fun c7 => ?_)
    · replace h := it_pos c7 h
      refine w_aload_n (pc := 24) X dX9_made_24 0 rfl ?_
      refine w_aload_n (pc := 25) X dX9_made_25 0 rfl ?_
      refine w_getI (pc := 26) X dX9_made_26 clO_9 k_o 20 (by decide) rfl fl_9_134 ?_
      obtain ⟨r6, s4, h5, h⟩ := bd2_inv h
      refine w_callV (pc := 29) X dX9_made_29 (M9_madeOf h5) k_o (by decide) rfl cw_9_244 ⟨Nat.le_of_ble_eq_true rfl, Nat.le_of_ble_eq_true rfl⟩ rfl rfl (Nat.le_of_ble_eq_true rfl) ?_
      show wpm φ ad 32 [(0, .ref (ad o))] [.int r6] s4
      cases h
      exact w_iret X hQ dX9_made_32
    · replace h := it_neg c7 h
      refine w_bipush (pc := 19) X dX9_made_19 (v := (-4)) rfl ?_
      refine w_goto (tgt := 32) (pc := 21) X dX9_made_21 (by decide) ?_
      cases h
      exact w_iret X hQ dX9_made_32
  · replace h := it_neg c8 h
    refine w_bipush (pc := 7) X dX9_made_7 (v := (-5)) rfl ?_
    cases h
    exact w_iret X hQ dX9_made_9
set_option maxRecDepth 20000 in
theorem WL9_bars_24 {φ : Fr} {ad : Nat → Nat} (X : Cx φ ad cX9_bars (some .int) RX9 2 3 72) (o : Nat) (k_o : kd o = 9) {r : Int32} {σ' : Sto} (hQ : Fini φ ad (some (.int r)) σ') : ∀ (fuel : Nat) (v1 : Int32) (s : Sto), L9_bars_24 o fuel v1 s = some (r, σ') → wpm φ ad 24 [(0, .ref (ad o)), (1, .int v1)] [] s := by
  intro fuel
  induction fuel with
  | zero => intro v1 s h; cases h
  | succ fuel ih =>
    intro v1 s h
    unfold L9_bars_24 at h
    refine w_iload_n (pc := 24) X dX9_bars_24 1 rfl ?_
    refine w_aload_n (pc := 25) X dX9_bars_25 0 rfl ?_
    refine w_getI (pc := 26) X dX9_bars_26 clO_9 k_o 20 (by decide) rfl fl_9_134 ?_
    refine w_icmp_ge (pc := 29) (tgt := 50) X dX9_bars_29 (by decide) (fun c8 => ?_) (fun c8 => ?_)
    · replace h := it_pos c8 h
      refine w_bipush (pc := 50) X dX9_bars_50 (v := (-6)) rfl ?_
      cases h
      exact w_iret X hQ dX9_bars_52
    · replace h := it_neg c8 h
      refine w_aload_n (pc := 32) X dX9_bars_32 0 rfl ?_
      refine w_iload_n (pc := 33) X dX9_bars_33 1 rfl ?_
      refine w_iconst (pc := 34) X dX9_bars_34 (v := 1) rfl ?_
      refine w_iadd (pc := 35) X dX9_bars_35 ?_
      obtain ⟨r6, s4, h5, h⟩ := bd2_inv h
      refine w_callV (pc := 36) X dX9_bars_36 (M9_madeOf h5) k_o (by decide) rfl cw_9_244 ⟨Nat.le_of_ble_eq_true rfl, Nat.le_of_ble_eq_true rfl⟩ rfl rfl (Nat.le_of_ble_eq_true rfl) ?_
      show wpm φ ad 39 [(0, .ref (ad o)), (1, .int v1)] [.int r6] s4
      refine w_if_ge (pc := 39) (tgt := 44) X dX9_bars_39 (by decide) (fun c7 => ?_) (fun c7 => ?_)
      · replace h := it_pos c7 h
        refine w_iinc (pc := 44) X dX9_bars_44 1 rfl (v := (v1 + 1)) rfl (by decide) (lv' := [(1, .int (v1 + 1)), (0, .ref (ad o))]) rfl ?_
        refine w_goto (tgt := 24) (pc := 47) X dX9_bars_47 (by decide) ?_
        exact w_sub (pc := 24) [1, 0] rfl (ih _ _ h)
      · replace h := it_neg c7 h
        refine w_iload_n (pc := 42) X dX9_bars_42 1 rfl ?_
        cases h
        exact w_iret X hQ dX9_bars_43
set_option maxRecDepth 20000 in
theorem M9_bars {o : Nat} {s : Sto} {r : Int32} {σ' : Sto} (h : f9_bars o s = some (r, σ')) : Ct yX9_bars cX9_bars 2 (some .int) 3 72 (fun ad => [.ref (ad o)]) s (fun ad => some (.int r)) σ' := by
  unfold f9_bars at h
  obtain ⟨k_o, h⟩ := gd_inv h
  refine Ct_of (by decide) (fun ad => Nat.le_of_ble_eq_true rfl) (fun φ ad X hQ => ?_)
  show wpm φ ad 0 [(0, .ref (ad o))] [] s
  replace X : Cx φ ad cX9_bars (some .int) RX9 2 3 72 := X
  refine w_aload_n (pc := 0) X dX9_bars_0 0 rfl ?_
  obtain ⟨r3, s1, h2, h⟩ := bd2_inv h
  refine w_callV (pc := 1) X dX9_bars_1 (M9_faultOfPattern h2) k_o (by decide) rfl cw_9_141 ⟨Nat.le_of_ble_eq_true rfl, Nat.le_of_ble_eq_true rfl⟩ rfl rfl (Nat.le_of_ble_eq_true rfl) ?_
  show wpm φ ad 4 [(0, .ref (ad o))] [.int r3] s1
  refine w_if_lt (pc := 4) (tgt := 10) X dX9_bars_4 (by decide) (fun c10 => ?_) (fun c10 => ?_)
  · replace h := it_pos c10 h
    refine w_aload_n (pc := 10) X dX9_bars_10 0 rfl ?_
    refine w_getI (pc := 11) X dX9_bars_11 clO_9 k_o 20 (by decide) rfl fl_9_134 ?_
    refine w_bipush (pc := 14) X dX9_bars_14 (v := (30)) rfl ?_
    refine w_icmp_le (pc := 16) (tgt := 22) X dX9_bars_16 (by decide) (fun c9 => ?_) (fun c9 => ?_)
    · replace h := it_pos c9 h
      refine w_iconst (pc := 22) X dX9_bars_22 (v := 0) rfl ?_
      refine w_istore_n (pc := 23) X dX9_bars_23 1 rfl (by decide) (lv' := [(1, .int (0 : Int32)), (0, .ref (ad o))]) rfl ?_
      exact w_sub (pc := 24) [1, 0] rfl (WL9_bars_24 X o k_o hQ FU (0 : Int32) s1 h)
    · replace h := it_neg c9 h
      refine w_bipush (pc := 19) X dX9_bars_19 (v := (-4)) rfl ?_
      cases h
      exact w_iret X hQ dX9_bars_21
  · replace h := it_neg c10 h
    refine w_bipush (pc := 7) X dX9_bars_7 (v := (-5)) rfl ?_
    cases h
    exact w_iret X hQ dX9_bars_9
set_option maxRecDepth 20000 in
theorem M9_seen {o : Nat} {a1 : Int32} {a2 : Int32} {s : Sto} {r : Int32} {σ' : Sto} (h : f9_seen o a1 a2 s = some (r, σ')) : Ct yX9_seen cX9_seen 3 (some .int) 1 25 (fun ad => [.ref (ad o), .int a1, .int a2]) s (fun ad => some (.int r)) σ' := by
  unfold f9_seen at h
  obtain ⟨k_o, h⟩ := gd_inv h
  refine Ct_of (by decide) (fun ad => Nat.le_of_ble_eq_true rfl) (fun φ ad X hQ => ?_)
  show wpm φ ad 0 [(0, .ref (ad o)), (1, .int a1), (2, .int a2)] [] s
  replace X : Cx φ ad cX9_seen (some .int) RX9 3 1 25 := X
  refine w_iload_n (pc := 0) X dX9_seen_0 1 rfl ?_
  refine w_i2l (pc := 1) X dX9_seen_1 ?_
  refine w_lconst (pc := 2) X dX9_seen_2 (v := 0) rfl ?_
  refine w_ldc2 (pc := 3) X dX9_seen_3 (v := (60)) cn_9_247 ?_
  obtain ⟨r3, s1, h2, h⟩ := bd2_inv h
  refine w_callS (pc := 6) X dX9_seen_6 (M9_in h2) rfl cw_9_101 ⟨Nat.le_of_ble_eq_true rfl, Nat.le_of_ble_eq_true rfl⟩ rfl rfl (Nat.le_of_ble_eq_true rfl) ?_
  show wpm φ ad 9 [(0, .ref (ad o)), (1, .int a1), (2, .int a2)] [.int r3] s1
  refine w_if_eq (pc := 9) (tgt := 24) X dX9_seen_9 (by decide) (fun c14 => ?_) (fun c14 => ?_)
  · replace h := it_pos c14 h
    refine w_bipush (pc := 24) X dX9_seen_24 (v := (-2)) rfl ?_
    cases h
    exact w_iret X hQ dX9_seen_26
  · replace h := it_neg c14 h
    refine w_iload_n (pc := 12) X dX9_seen_12 2 rfl ?_
    refine w_i2l (pc := 13) X dX9_seen_13 ?_
    refine w_lconst (pc := 14) X dX9_seen_14 (v := 0) rfl ?_
    refine w_ldc2 (pc := 15) X dX9_seen_15 (v := (30)) cn_9_249 ?_
    obtain ⟨r6, s4, h5, h⟩ := bd2_inv h
    refine w_callS (pc := 18) X dX9_seen_18 (M9_in h5) rfl cw_9_101 ⟨Nat.le_of_ble_eq_true rfl, Nat.le_of_ble_eq_true rfl⟩ rfl rfl (Nat.le_of_ble_eq_true rfl) ?_
    show wpm φ ad 21 [(0, .ref (ad o)), (1, .int a1), (2, .int a2)] [.int r6] s4
    refine w_if_ne (pc := 21) (tgt := 27) X dX9_seen_21 (by decide) (fun c13 => ?_) (fun c13 => ?_)
    · replace h := it_neg c13 h
      refine w_aload_n (pc := 27) X dX9_seen_27 0 rfl ?_
      refine w_getI (pc := 28) X dX9_seen_28 clO_9 k_o 10 (by decide) rfl fl_9_98 ?_
      refine w_bipush (pc := 31) X dX9_seen_31 (v := (8)) rfl ?_
      refine w_icmp_ne (pc := 33) (tgt := 39) X dX9_seen_33 (by decide) (fun c12 => ?_) (fun c12 => ?_)
      · replace h := it_neg c12 h
        refine w_aload_n (pc := 39) X dX9_seen_39 0 rfl ?_
        refine w_getR (pc := 40) X dX9_seen_40 clO_9 k_o 8 (by decide) (d := 5) rfl fl_9_22 ?_
        refine w_aload_n (pc := 43) X dX9_seen_43 0 rfl ?_
        refine w_getI (pc := 44) X dX9_seen_44 clO_9 k_o 10 (by decide) rfl fl_9_98 ?_
        refine w_iload_n (pc := 47) X dX9_seen_47 1 rfl ?_
        obtain ⟨g7, h⟩ := gd_inv h
        refine w_iast (pc := 48) X dX9_seen_48 (kp_9_5 k_o) g7 ?_
        obtain ⟨s8, e_s8, h⟩ := nm_inv h
        refine w_nm e_s8 ?_
        refine w_aload_n (pc := 49) X dX9_seen_49 0 rfl ?_
        refine w_getR (pc := 50) X dX9_seen_50 clO_9 k_o 9 (by decide) (d := 6) rfl fl_9_25 ?_
        refine w_aload_n (pc := 53) X dX9_seen_53 0 rfl ?_
        refine w_getI (pc := 54) X dX9_seen_54 clO_9 k_o 10 (by decide) rfl fl_9_98 ?_
        refine w_iload_n (pc := 57) X dX9_seen_57 2 rfl ?_
        obtain ⟨g9, h⟩ := gd_inv h
        refine w_iast (pc := 58) X dX9_seen_58 (kp_9_6 k_o) g9 ?_
        obtain ⟨s10, e_s10, h⟩ := nm_inv h
        refine w_nm e_s10 ?_
        refine w_aload_n (pc := 59) X dX9_seen_59 0 rfl ?_
        refine w_dup (pc := 60) X dX9_seen_60 rfl ?_
        refine w_getI (pc := 61) X dX9_seen_61 clO_9 k_o 10 (by decide) rfl fl_9_98 ?_
        refine w_iconst (pc := 64) X dX9_seen_64 (v := 1) rfl ?_
        refine w_iadd (pc := 65) X dX9_seen_65 ?_
        refine w_putI (pc := 66) X dX9_seen_66 clO_9 k_o 10 (by decide) rfl rfl (Or.inl rfl) fl_9_98 ?_
        obtain ⟨s11, e_s11, h⟩ := nm_inv h
        refine w_nm e_s11 ?_
        refine w_aload_n (pc := 69) X dX9_seen_69 0 rfl ?_
        refine w_getI (pc := 70) X dX9_seen_70 clO_9 k_o 10 (by decide) rfl fl_9_98 ?_
        cases h
        exact w_iret X hQ dX9_seen_73
      · replace h := it_pos c12 h
        refine w_bipush (pc := 36) X dX9_seen_36 (v := (-4)) rfl ?_
        cases h
        exact w_iret X hQ dX9_seen_38
    · replace h := it_pos c13 h
      refine w_bipush (pc := 24) X dX9_seen_24 (v := (-2)) rfl ?_
      cases h
      exact w_iret X hQ dX9_seen_26
set_option maxRecDepth 20000 in
theorem M9_forget {o : Nat} {s : Sto} {r : Int32} {σ' : Sto} (h : f9_forget o s = some (r, σ')) : Ct yX9_forget cX9_forget 2 (some .int) 0 0 (fun ad => [.ref (ad o)]) s (fun ad => some (.int r)) σ' := by
  unfold f9_forget at h
  obtain ⟨k_o, h⟩ := gd_inv h
  refine Ct_of (by decide) (fun ad => Nat.le_of_ble_eq_true rfl) (fun φ ad X hQ => ?_)
  show wpm φ ad 0 [(0, .ref (ad o))] [] s
  replace X : Cx φ ad cX9_forget (some .int) RX9 2 0 0 := X
  refine w_aload_n (pc := 0) X dX9_forget_0 0 rfl ?_
  refine w_getI (pc := 1) X dX9_forget_1 clO_9 k_o 10 (by decide) rfl fl_9_98 ?_
  refine w_istore_n (pc := 4) X dX9_forget_4 1 rfl (by decide) (lv' := [(1, .int (s.1 o 10)), (0, .ref (ad o))]) rfl ?_
  refine w_aload_n (pc := 5) X dX9_forget_5 1 rfl ?_
  refine w_iconst (pc := 6) X dX9_forget_6 (v := 0) rfl ?_
  refine w_putI (pc := 7) X dX9_forget_7 clO_9 k_o 10 (by decide) rfl rfl (Or.inl rfl) fl_9_98 ?_
  obtain ⟨s1, e_s1, h⟩ := nm_inv h
  refine w_nm e_s1 ?_
  refine w_iload_n (pc := 10) X dX9_forget_10 0 rfl ?_
  cases h
  exact w_iret X hQ dX9_forget_11
set_option maxRecDepth 20000 in
theorem WL9_isWorld_27 {φ : Fr} {ad : Nat → Nat} (X : Cx φ ad cX9_isWorld (some .boolean) RX9 4 4 89) (o : Nat) (s : Sto) (k_o : kd o = 9) : ∀ (fuel : Nat) (v2 : Int32) (v3 : Int32) (t2 : Int32), L9_isWorld_27 o s fuel v2 v3 = some (t2) → wpm φ ad 64 [(0, .ref (ad o)), (2, .int t2)] [] s → wpm φ ad 27 [(0, .ref (ad o)), (2, .int v2), (3, .int v3)] [] s := by
  intro fuel
  induction fuel with
  | zero => intro v2 v3 t2 h; cases h
  | succ fuel ih =>
    intro v2 v3 t2 h K
    unfold L9_isWorld_27 at h
    refine w_iload_n (pc := 27) X dX9_isWorld_27 2 rfl ?_
    refine w_aload_n (pc := 28) X dX9_isWorld_28 0 rfl ?_
    refine w_getI (pc := 29) X dX9_isWorld_29 clO_9 k_o 10 (by decide) rfl fl_9_98 ?_
    refine w_icmp_ge (pc := 32) (tgt := 64) X dX9_isWorld_32 (by decide) (fun c9 => ?_) (fun c9 => ?_)
    · replace h := it_pos c9 h
      cases h
      exact w_sub (pc := 64) [0, 1] rfl K
    · replace h := it_neg c9 h
      refine w_iload_n (pc := 35) X dX9_isWorld_35 1 rfl ?_
      refine w_if_eq (pc := 36) (tgt := 56) X dX9_isWorld_36 (by decide) (fun c8 => ?_) (fun c8 => ?_)
      · replace h := it_pos c8 h
        refine w_iconst (pc := 56) X dX9_isWorld_56 (v := 0) rfl ?_
        refine w_istore_n (pc := 57) X dX9_isWorld_57 2 rfl (by decide) (lv' := [(2, .int (0 : Int32)), (0, .ref (ad o)), (3, .int v3)]) rfl ?_
        refine w_iinc (pc := 58) X dX9_isWorld_58 2 rfl (v := (v3 + 1)) rfl (by decide) (lv' := [(3, .int (v3 + 1)), (2, .int (0 : Int32)), (0, .ref (ad o))]) rfl ?_
        refine w_goto (tgt := 27) (pc := 61) X dX9_isWorld_61 (by decide) ?_
        exact w_sub (pc := 27) [2, 1, 0] rfl (ih _ _ _ h K)
      · replace h := it_neg c8 h
        refine w_aload_n (pc := 39) X dX9_isWorld_39 0 rfl ?_
        refine w_getR (pc := 40) X dX9_isWorld_40 clO_9 k_o 8 (by decide) (d := 5) rfl fl_9_22 ?_
        refine w_iload_n (pc := 43) X dX9_isWorld_43 2 rfl ?_
        obtain ⟨g6, h⟩ := gd_inv h
        refine w_iald (pc := 44) X dX9_isWorld_44 (kp_9_5 k_o) g6 ?_
        refine w_aload_n (pc := 45) X dX9_isWorld_45 0 rfl ?_
        refine w_getI (pc := 46) X dX9_isWorld_46 clO_9 k_o 17 (by decide) rfl fl_9_127 ?_
        refine w_icmp_gt (pc := 49) (tgt := 56) X dX9_isWorld_49 (by decide) (fun c7 => ?_) (fun c7 => ?_)
        · replace h := it_pos c7 h
          refine w_iconst (pc := 56) X dX9_isWorld_56 (v := 0) rfl ?_
          refine w_istore_n (pc := 57) X dX9_isWorld_57 2 rfl (by decide) (lv' := [(2, .int (0 : Int32)), (0, .ref (ad o)), (3, .int v3)]) rfl ?_
          refine w_iinc (pc := 58) X dX9_isWorld_58 2 rfl (v := (v3 + 1)) rfl (by decide) (lv' := [(3, .int (v3 + 1)), (2, .int (0 : Int32)), (0, .ref (ad o))]) rfl ?_
          refine w_goto (tgt := 27) (pc := 61) X dX9_isWorld_61 (by decide) ?_
          exact w_sub (pc := 27) [2, 1, 0] rfl (ih _ _ _ h K)
        · replace h := it_neg c7 h
          refine w_iconst (pc := 52) X dX9_isWorld_52 (v := 1) rfl ?_
          refine w_goto (tgt := 57) (pc := 53) X dX9_isWorld_53 (by decide) ?_
          refine w_istore_n (pc := 57) X dX9_isWorld_57 2 rfl (by decide) (lv' := [(2, .int (1 : Int32)), (0, .ref (ad o)), (3, .int v3)]) rfl ?_
          refine w_iinc (pc := 58) X dX9_isWorld_58 2 rfl (v := (v3 + 1)) rfl (by decide) (lv' := [(3, .int (v3 + 1)), (2, .int (1 : Int32)), (0, .ref (ad o))]) rfl ?_
          refine w_goto (tgt := 27) (pc := 61) X dX9_isWorld_61 (by decide) ?_
          exact w_sub (pc := 27) [2, 1, 0] rfl (ih _ _ _ h K)
set_option maxRecDepth 20000 in
theorem M9_isWorld {o : Nat} {a1 : Int32} {s : Sto} {r : Int32} {σ' : Sto} (h : f9_isWorld o a1 s = some (r, σ')) : Ct yX9_isWorld cX9_isWorld 4 (some .boolean) 4 89 (fun ad => [.ref (ad o), .int a1]) s (fun ad => some (.int r)) σ' := by
  unfold f9_isWorld at h
  obtain ⟨k_o, h⟩ := gd_inv h
  refine Ct_of (by decide) (fun ad => Nat.le_of_ble_eq_true rfl) (fun φ ad X hQ => ?_)
  show wpm φ ad 0 [(0, .ref (ad o)), (1, .int a1)] [] s
  replace X : Cx φ ad cX9_isWorld (some .boolean) RX9 4 4 89 := X
  refine w_aload_n (pc := 0) X dX9_isWorld_0 0 rfl ?_
  refine w_iload_n (pc := 1) X dX9_isWorld_1 1 rfl ?_
  obtain ⟨s1, h2, h⟩ := bd1_inv h
  refine w_callV (pc := 2) X dX9_isWorld_2 (M9_goEvening h2) k_o (by decide) rfl cw_9_210 ⟨Nat.le_of_ble_eq_true rfl, Nat.le_of_ble_eq_true rfl⟩ rfl rfl (Nat.le_of_ble_eq_true rfl) ?_
  show wpm φ ad 5 [(0, .ref (ad o)), (1, .int a1)] [] s1
  refine w_aload_n (pc := 5) X dX9_isWorld_5 0 rfl ?_
  refine w_getI (pc := 6) X dX9_isWorld_6 clO_9 k_o 28 (by decide) rfl fl_9_184 ?_
  obtain ⟨x5, h15, h⟩ := bd1_inv h
  have K9 : wpm φ ad 24 [(0, .ref (ad o))] [.int x5] s1 := by
    refine w_istore_n (pc := 24) X dX9_isWorld_24 2 rfl (by decide) (lv' := [(2, .int x5), (0, .ref (ad o))]) rfl ?_
    refine w_iconst (pc := 25) X dX9_isWorld_25 (v := 0) rfl ?_
    refine w_istore_n (pc := 26) X dX9_isWorld_26 3 rfl (by decide) (lv' := [(3, .int (0 : Int32)), (2, .int x5), (0, .ref (ad o))]) rfl ?_
    obtain ⟨y11, h10, h⟩ := bd1_inv h
    refine w_sub (pc := 27) [2, 1, 0] rfl (WL9_isWorld_27 X o s1 k_o FU x5 (0 : Int32) y11 h10 ?_)
    refine w_aload_n (pc := 64) X dX9_isWorld_64 0 rfl ?_
    obtain ⟨s12, h13, h⟩ := bd1_inv h
    refine w_callV (pc := 65) X dX9_isWorld_65 (M9_putBack h13) k_o (by decide) rfl cw_9_219 ⟨Nat.le_of_ble_eq_true rfl, Nat.le_of_ble_eq_true rfl⟩ rfl rfl (Nat.le_of_ble_eq_true rfl) ?_
    show wpm φ ad 68 [(0, .ref (ad o)), (2, .int y11)] [] s12
    refine w_iload_n (pc := 68) X dX9_isWorld_68 1 rfl ?_
    obtain ⟨g14, h⟩ := gd_inv h
    cases h
    exact w_zret X hQ dX9_isWorld_69 g14
  clear h
  have h := h15
  clear h15
  refine w_if_ge (pc := 9) (tgt := 23) X dX9_isWorld_9 (by decide) (fun c4 => ?_) (fun c4 => ?_)
  · replace h := it_pos c4 h
    refine w_iconst (pc := 23) X dX9_isWorld_23 (v := 0) rfl ?_
    cases h
    exact w_sub (pc := 24) [0] rfl K9
  · replace h := it_neg c4 h
    refine w_aload_n (pc := 12) X dX9_isWorld_12 0 rfl ?_
    refine w_getI (pc := 13) X dX9_isWorld_13 clO_9 k_o 30 (by decide) rfl fl_9_193 ?_
    refine w_if_eq (pc := 16) (tgt := 23) X dX9_isWorld_16 (by decide) (fun c3 => ?_) (fun c3 => ?_)
    · replace h := it_pos c3 h
      refine w_iconst (pc := 23) X dX9_isWorld_23 (v := 0) rfl ?_
      cases h
      exact w_sub (pc := 24) [0] rfl K9
    · replace h := it_neg c3 h
      refine w_iconst (pc := 19) X dX9_isWorld_19 (v := 1) rfl ?_
      refine w_goto (tgt := 24) (pc := 20) X dX9_isWorld_20 (by decide) ?_
      cases h
      exact w_sub (pc := 24) [0] rfl K9
set_option maxRecDepth 20000 in
theorem WL9_findWorlds_23 {φ : Fr} {ad : Nat → Nat} (X : Cx φ ad cX9_findWorlds none RX9 3 5 112) (o : Nat) (k_o : kd o = 9) : ∀ (fuel : Nat) (v1 : Int32) (s : Sto)  (t : Sto), L9_findWorlds_23 o fuel v1 s = some (t) → wpm φ ad 42 [(0, .ref (ad o))] [] t → wpm φ ad 23 [(0, .ref (ad o)), (1, .int v1)] [] s := by
  intro fuel
  induction fuel with
  | zero => intro v1 s t h; cases h
  | succ fuel ih =>
    intro v1 s t h K
    unfold L9_findWorlds_23 at h
    refine w_iload_n (pc := 23) X dX9_findWorlds_23 1 rfl ?_
    refine w_bipush (pc := 24) X dX9_findWorlds_24 (v := (8)) rfl ?_
    refine w_icmp_ge (pc := 26) (tgt := 42) X dX9_findWorlds_26 (by decide) (fun c7 => ?_) (fun c7 => ?_)
    · replace h := it_pos c7 h
      cases h
      exact w_sub (pc := 42) [0] rfl K
    · replace h := it_neg c7 h
      refine w_aload_n (pc := 29) X dX9_findWorlds_29 0 rfl ?_
      refine w_getR (pc := 30) X dX9_findWorlds_30 clO_9 k_o 39 (by decide) (d := 18) rfl fl_9_61 ?_
      refine w_iload_n (pc := 33) X dX9_findWorlds_33 1 rfl ?_
      refine w_iconst (pc := 34) X dX9_findWorlds_34 (v := 0) rfl ?_
      obtain ⟨g5, h⟩ := gd_inv h
      refine w_iast (pc := 35) X dX9_findWorlds_35 (kp_9_18 k_o) g5 ?_
      obtain ⟨s6, e_s6, h⟩ := nm_inv h
      refine w_nm e_s6 ?_
      refine w_iinc (pc := 36) X dX9_findWorlds_36 1 rfl (v := (v1 + 1)) rfl (by decide) (lv' := [(1, .int (v1 + 1)), (0, .ref (ad o))]) rfl ?_
      refine w_goto (tgt := 23) (pc := 39) X dX9_findWorlds_39 (by decide) ?_
      exact w_sub (pc := 23) [1, 0] rfl (ih _ _ _ h K)
set_option maxRecDepth 20000 in
theorem WL9_findWorlds_128 {φ : Fr} {ad : Nat → Nat} (X : Cx φ ad cX9_findWorlds none RX9 3 5 112) (o : Nat) (a1 : Int32) (k_o : kd o = 9) : ∀ (fuel : Nat) (v2 : Int32) (s : Sto)  (t : Sto), L9_findWorlds_128 o a1 fuel v2 s = some (t) → wpm φ ad 156 [(0, .ref (ad o)), (1, .int a1)] [] t → wpm φ ad 128 [(0, .ref (ad o)), (1, .int a1), (2, .int v2)] [] s := by
  intro fuel
  induction fuel with
  | zero => intro v2 s t h; cases h
  | succ fuel ih =>
    intro v2 s t h K
    unfold L9_findWorlds_128 at h
    refine w_iload_n (pc := 128) X dX9_findWorlds_128 2 rfl ?_
    refine w_aload_n (pc := 129) X dX9_findWorlds_129 0 rfl ?_
    refine w_getI (pc := 130) X dX9_findWorlds_130 clO_9 k_o 0 (by decide) rfl fl_9_85 ?_
    refine w_icmp_ge (pc := 133) (tgt := 156) X dX9_findWorlds_133 (by decide) (fun c26 => ?_) (fun c26 => ?_)
    · replace h := it_pos c26 h
      cases h
      exact w_sub (pc := 156) [0, 1] rfl K
    · replace h := it_neg c26 h
      refine w_aload_n (pc := 136) X dX9_findWorlds_136 0 rfl ?_
      refine w_getR (pc := 137) X dX9_findWorlds_137 clO_9 k_o 39 (by decide) (d := 18) rfl fl_9_61 ?_
      refine w_iload_n (pc := 140) X dX9_findWorlds_140 2 rfl ?_
      refine w_dup2 (pc := 141) X dX9_findWorlds_141 rfl rfl ?_
      obtain ⟨g23, h⟩ := gd_inv h
      refine w_iald (pc := 142) X dX9_findWorlds_142 (kp_9_18 k_o) g23 ?_
      refine w_iload_n (pc := 143) X dX9_findWorlds_143 1 rfl ?_
      refine w_iload_n (pc := 144) X dX9_findWorlds_144 2 rfl ?_
      refine w_ishr (pc := 145) X dX9_findWorlds_145 ?_
      refine w_iconst (pc := 146) X dX9_findWorlds_146 (v := 1) rfl ?_
      refine w_iand (pc := 147) X dX9_findWorlds_147 ?_
      refine w_iadd (pc := 148) X dX9_findWorlds_148 ?_
      obtain ⟨g24, h⟩ := gd_inv h
      refine w_iast (pc := 149) X dX9_findWorlds_149 (kp_9_18 k_o) g24 ?_
      obtain ⟨s25, e_s25, h⟩ := nm_inv h
      refine w_nm e_s25 ?_
      refine w_iinc (pc := 150) X dX9_findWorlds_150 2 rfl (v := (v2 + 1)) rfl (by decide) (lv' := [(2, .int (v2 + 1)), (0, .ref (ad o)), (1, .int a1)]) rfl ?_
      refine w_goto (tgt := 128) (pc := 153) X dX9_findWorlds_153 (by decide) ?_
      exact w_sub (pc := 128) [1, 2, 0] rfl (ih _ _ _ h K)
set_option maxRecDepth 20000 in
theorem WL9_findWorlds_48 {φ : Fr} {ad : Nat → Nat} (X : Cx φ ad cX9_findWorlds none RX9 3 5 112) (o : Nat) (k_o : kd o = 9) : ∀ (fuel : Nat) (v1 : Int32) (s : Sto)  (t : Sto), L9_findWorlds_48 o fuel v1 s = some (t) → wpm φ ad 162 [] [] t → wpm φ ad 48 [(0, .ref (ad o)), (1, .int v1)] [] s := by
  intro fuel
  induction fuel with
  | zero => intro v1 s t h; cases h
  | succ fuel ih =>
    intro v1 s t h K
    unfold L9_findWorlds_48 at h
    refine w_iload_n (pc := 48) X dX9_findWorlds_48 1 rfl ?_
    refine w_iconst (pc := 49) X dX9_findWorlds_49 (v := 1) rfl ?_
    refine w_aload_n (pc := 50) X dX9_findWorlds_50 0 rfl ?_
    refine w_getI (pc := 51) X dX9_findWorlds_51 clO_9 k_o 0 (by decide) rfl fl_9_85 ?_
    refine w_ishl (pc := 54) X dX9_findWorlds_54 ?_
    refine w_icmp_ge (pc := 55) (tgt := 162) X dX9_findWorlds_55 (by decide) (fun c32 => ?_) (fun c32 => ?_)
    · replace h := it_pos c32 h
      cases h
      exact w_sub (pc := 162) [] rfl K
    · replace h := it_neg c32 h
      refine w_aload_n (pc := 58) X dX9_findWorlds_58 0 rfl ?_
      refine w_iload_n (pc := 59) X dX9_findWorlds_59 1 rfl ?_
      obtain ⟨r14, s12, h13, h⟩ := bd2_inv h
      refine w_callV (pc := 60) X dX9_findWorlds_60 (M9_isWorld h13) k_o (by decide) rfl cw_9_263 ⟨Nat.le_of_ble_eq_true rfl, Nat.le_of_ble_eq_true rfl⟩ rfl rfl (Nat.le_of_ble_eq_true rfl) ?_
      show wpm φ ad 63 [(0, .ref (ad o)), (1, .int v1)] [.int r14] s12
      refine w_if_eq (pc := 63) (tgt := 156) X dX9_findWorlds_63 (by decide) (fun c31 => ?_) (fun c31 => ?_)
      · replace h := it_pos c31 h
        refine w_iinc (pc := 156) X dX9_findWorlds_156 1 rfl (v := (v1 + 1)) rfl (by decide) (lv' := [(1, .int (v1 + 1)), (0, .ref (ad o))]) rfl ?_
        refine w_goto (tgt := 48) (pc := 159) X dX9_findWorlds_159 (by decide) ?_
        exact w_sub (pc := 48) [1, 0] rfl (ih _ _ _ h K)
      · replace h := it_neg c31 h
        refine w_aload_n (pc := 66) X dX9_findWorlds_66 0 rfl ?_
        refine w_aload_n (pc := 67) X dX9_findWorlds_67 0 rfl ?_
        refine w_getI (pc := 68) X dX9_findWorlds_68 clO_9 k_o 35 (by decide) rfl fl_9_251 ?_
        obtain ⟨x16, h30, h⟩ := bd1_inv h
        have K71 : wpm φ ad 82 [(0, .ref (ad o)), (1, .int v1)] [.int x16, .ref (ad o)] s12 := by
          refine w_putI (pc := 82) X dX9_findWorlds_82 clO_9 k_o 36 (by decide) rfl rfl (Or.inl rfl) fl_9_254 ?_
          obtain ⟨s17, e_s17, h⟩ := nm_inv h
          refine w_nm e_s17 ?_
          refine w_aload_n (pc := 85) X dX9_findWorlds_85 0 rfl ?_
          refine w_aload_n (pc := 86) X dX9_findWorlds_86 0 rfl ?_
          refine w_getI (pc := 87) X dX9_findWorlds_87 clO_9 k_o 35 (by decide) rfl fl_9_251 ?_
          obtain ⟨x19, h29, h⟩ := bd1_inv h
          have K90 : wpm φ ad 103 [(0, .ref (ad o)), (1, .int v1)] [.int x19, .ref (ad o)] s17 := by
            refine w_putI (pc := 103) X dX9_findWorlds_103 clO_9 k_o 37 (by decide) rfl rfl (Or.inl rfl) fl_9_257 ?_
            obtain ⟨s20, e_s20, h⟩ := nm_inv h
            refine w_nm e_s20 ?_
            refine w_aload_n (pc := 106) X dX9_findWorlds_106 0 rfl ?_
            refine w_dup (pc := 107) X dX9_findWorlds_107 rfl ?_
            refine w_getI (pc := 108) X dX9_findWorlds_108 clO_9 k_o 38 (by decide) rfl fl_9_260 ?_
            refine w_iload_n (pc := 111) X dX9_findWorlds_111 1 rfl ?_
            refine w_ior (pc := 112) X dX9_findWorlds_112 ?_
            refine w_putI (pc := 113) X dX9_findWorlds_113 clO_9 k_o 38 (by decide) rfl rfl (Or.inl rfl) fl_9_260 ?_
            obtain ⟨s21, e_s21, h⟩ := nm_inv h
            refine w_nm e_s21 ?_
            refine w_aload_n (pc := 116) X dX9_findWorlds_116 0 rfl ?_
            refine w_dup (pc := 117) X dX9_findWorlds_117 rfl ?_
            refine w_getI (pc := 118) X dX9_findWorlds_118 clO_9 k_o 35 (by decide) rfl fl_9_251 ?_
            refine w_iconst (pc := 121) X dX9_findWorlds_121 (v := 1) rfl ?_
            refine w_iadd (pc := 122) X dX9_findWorlds_122 ?_
            refine w_putI (pc := 123) X dX9_findWorlds_123 clO_9 k_o 35 (by decide) rfl rfl (Or.inl rfl) fl_9_251 ?_
            obtain ⟨s22, e_s22, h⟩ := nm_inv h
            refine w_nm e_s22 ?_
            refine w_iconst (pc := 126) X dX9_findWorlds_126 (v := 0) rfl ?_
            refine w_istore_n (pc := 127) X dX9_findWorlds_127 2 rfl (by decide) (lv' := [(2, .int (0 : Int32)), (0, .ref (ad o)), (1, .int v1)]) rfl ?_
            obtain ⟨s28, h27, h⟩ := bd1_inv h
            refine w_sub (pc := 128) [1, 2, 0] rfl (WL9_findWorlds_128 X o v1 k_o FU (0 : Int32) s22 s28 h27 ?_)
            refine w_iinc (pc := 156) X dX9_findWorlds_156 1 rfl (v := (v1 + 1)) rfl (by decide) (lv' := [(1, .int (v1 + 1)), (0, .ref (ad o))]) rfl ?_
            refine w_goto (tgt := 48) (pc := 159) X dX9_findWorlds_159 (by decide) ?_
            exact w_sub (pc := 48) [1, 0] rfl (ih _ _ _ h K)
          clear h
          have h := h29
          clear h29
          refine w_if_ne (pc := 90) (tgt := 97) X dX9_findWorlds_90 (by decide) (fun c18 => ?_) (fun c18 => ?_)
          · replace h := it_neg c18 h
            refine w_aload_n (pc := 97) X dX9_findWorlds_97 0 rfl ?_
            refine w_getI (pc := 98) X dX9_findWorlds_98 clO_9 k_o 37 (by decide) rfl fl_9_257 ?_
            refine w_iload_n (pc := 101) X dX9_findWorlds_101 1 rfl ?_
            refine w_iand (pc := 102) X dX9_findWorlds_102 ?_
            cases h
            exact w_sub (pc := 103) [0, 1] rfl K90
          · replace h := it_pos c18 h
            refine w_iload_n (pc := 93) X dX9_findWorlds_93 1 rfl ?_
            refine w_goto (tgt := 103) (pc := 94) X dX9_findWorlds_94 (by decide) ?_
            cases h
            exact w_sub (pc := 103) [0, 1] rfl K90
        clear h
        have h := h30
        clear h30
        refine w_if_ne (pc := 71) (tgt := 78) X dX9_findWorlds_71 (by decide) (fun c15 => ?_) (fun c15 => ?_)
        · replace h := it_neg c15 h
          refine w_aload_n (pc := 78) X dX9_findWorlds_78 0 rfl ?_
          refine w_getI (pc := 79) X dX9_findWorlds_79 clO_9 k_o 36 (by decide) rfl fl_9_254 ?_
          cases h
          exact w_sub (pc := 82) [0, 1] rfl K71
        · replace h := it_pos c15 h
          refine w_iload_n (pc := 74) X dX9_findWorlds_74 1 rfl ?_
          refine w_goto (tgt := 82) (pc := 75) X dX9_findWorlds_75 (by decide) ?_
          cases h
          exact w_sub (pc := 82) [0, 1] rfl K71
set_option maxRecDepth 20000 in
theorem M9_findWorlds {o : Nat} {s : Sto} {σ' : Sto} (h : f9_findWorlds o s = some σ') : Ct yX9_findWorlds cX9_findWorlds 3 none 5 112 (fun ad => [.ref (ad o)]) s (fun _ => none) σ' := by
  unfold f9_findWorlds at h
  obtain ⟨k_o, h⟩ := gd_inv h
  refine Ct_of (by decide) (fun ad => Nat.le_of_ble_eq_true rfl) (fun φ ad X hQ => ?_)
  show wpm φ ad 0 [(0, .ref (ad o))] [] s
  replace X : Cx φ ad cX9_findWorlds none RX9 3 5 112 := X
  refine w_aload_n (pc := 0) X dX9_findWorlds_0 0 rfl ?_
  refine w_iconst (pc := 1) X dX9_findWorlds_1 (v := 0) rfl ?_
  refine w_putI (pc := 2) X dX9_findWorlds_2 clO_9 k_o 35 (by decide) rfl rfl (Or.inl rfl) fl_9_251 ?_
  obtain ⟨s1, e_s1, h⟩ := nm_inv h
  refine w_nm e_s1 ?_
  refine w_aload_n (pc := 5) X dX9_findWorlds_5 0 rfl ?_
  refine w_bipush (pc := 6) X dX9_findWorlds_6 (v := (-6)) rfl ?_
  refine w_putI (pc := 8) X dX9_findWorlds_8 clO_9 k_o 36 (by decide) rfl rfl (Or.inl rfl) fl_9_254 ?_
  obtain ⟨s2, e_s2, h⟩ := nm_inv h
  refine w_nm e_s2 ?_
  refine w_aload_n (pc := 11) X dX9_findWorlds_11 0 rfl ?_
  refine w_iconst (pc := 12) X dX9_findWorlds_12 (v := 0) rfl ?_
  refine w_putI (pc := 13) X dX9_findWorlds_13 clO_9 k_o 37 (by decide) rfl rfl (Or.inl rfl) fl_9_257 ?_
  obtain ⟨s3, e_s3, h⟩ := nm_inv h
  refine w_nm e_s3 ?_
  refine w_aload_n (pc := 16) X dX9_findWorlds_16 0 rfl ?_
  refine w_iconst (pc := 17) X dX9_findWorlds_17 (v := 0) rfl ?_
  refine w_putI (pc := 18) X dX9_findWorlds_18 clO_9 k_o 38 (by decide) rfl rfl (Or.inl rfl) fl_9_260 ?_
  obtain ⟨s4, e_s4, h⟩ := nm_inv h
  refine w_nm e_s4 ?_
  refine w_iconst (pc := 21) X dX9_findWorlds_21 (v := 0) rfl ?_
  refine w_istore_n (pc := 22) X dX9_findWorlds_22 1 rfl (by decide) (lv' := [(1, .int (0 : Int32)), (0, .ref (ad o))]) rfl ?_
  obtain ⟨s9, h8, h⟩ := bd1_inv h
  refine w_sub (pc := 23) [1, 0] rfl (WL9_findWorlds_23 X o k_o FU (0 : Int32) s4 s9 h8 ?_)
  refine w_aload_n (pc := 42) X dX9_findWorlds_42 0 rfl ?_
  obtain ⟨s10, h11, h⟩ := bd1_inv h
  refine w_callV (pc := 43) X dX9_findWorlds_43 (M9_keepNow h11) k_o (by decide) rfl cw_9_207 ⟨Nat.le_of_ble_eq_true rfl, Nat.le_of_ble_eq_true rfl⟩ rfl rfl (Nat.le_of_ble_eq_true rfl) ?_
  show wpm φ ad 46 [(0, .ref (ad o))] [] s10
  refine w_iconst (pc := 46) X dX9_findWorlds_46 (v := 0) rfl ?_
  refine w_istore_n (pc := 47) X dX9_findWorlds_47 1 rfl (by decide) (lv' := [(1, .int (0 : Int32)), (0, .ref (ad o))]) rfl ?_
  obtain ⟨s34, h33, h⟩ := bd1_inv h
  refine w_sub (pc := 48) [1, 0] rfl (WL9_findWorlds_48 X o k_o FU (0 : Int32) s10 s34 h33 ?_)
  cases h
  exact w_vret X hQ dX9_findWorlds_162
set_option maxRecDepth 20000 in
theorem M9_worlds {o : Nat} {a1 : Int32} {s : Sto} {r : Int32} {σ' : Sto} (h : f9_worlds o a1 s = some (r, σ')) : Ct yX9_worlds cX9_worlds 2 (some .int) 6 134 (fun ad => [.ref (ad o), .int a1]) s (fun ad => some (.int r)) σ' := by
  unfold f9_worlds at h
  obtain ⟨k_o, h⟩ := gd_inv h
  refine Ct_of (by decide) (fun ad => Nat.le_of_ble_eq_true rfl) (fun φ ad X hQ => ?_)
  show wpm φ ad 0 [(0, .ref (ad o)), (1, .int a1)] [] s
  replace X : Cx φ ad cX9_worlds (some .int) RX9 2 6 134 := X
  refine w_iload_n (pc := 0) X dX9_worlds_0 1 rfl ?_
  refine w_i2l (pc := 1) X dX9_worlds_1 ?_
  refine w_lconst (pc := 2) X dX9_worlds_2 (v := 0) rfl ?_
  refine w_ldc2 (pc := 3) X dX9_worlds_3 (v := (3)) cn_9_222 ?_
  obtain ⟨r3, s1, h2, h⟩ := bd2_inv h
  refine w_callS (pc := 6) X dX9_worlds_6 (M9_in h2) rfl cw_9_101 ⟨Nat.le_of_ble_eq_true rfl, Nat.le_of_ble_eq_true rfl⟩ rfl rfl (Nat.le_of_ble_eq_true rfl) ?_
  show wpm φ ad 9 [(0, .ref (ad o)), (1, .int a1)] [.int r3] s1
  refine w_if_ne (pc := 9) (tgt := 15) X dX9_worlds_9 (by decide) (fun c13 => ?_) (fun c13 => ?_)
  · replace h := it_neg c13 h
    refine w_aload_n (pc := 15) X dX9_worlds_15 0 rfl ?_
    obtain ⟨r6, s4, h5, h⟩ := bd2_inv h
    refine w_callV (pc := 16) X dX9_worlds_16 (M9_faultOfEvening h5) k_o (by decide) rfl cw_9_137 ⟨Nat.le_of_ble_eq_true rfl, Nat.le_of_ble_eq_true rfl⟩ rfl rfl (Nat.le_of_ble_eq_true rfl) ?_
    show wpm φ ad 19 [(0, .ref (ad o)), (1, .int a1)] [.int r6] s4
    refine w_if_lt (pc := 19) (tgt := 25) X dX9_worlds_19 (by decide) (fun c12 => ?_) (fun c12 => ?_)
    · replace h := it_pos c12 h
      refine w_aload_n (pc := 25) X dX9_worlds_25 0 rfl ?_
      obtain ⟨s7, h8, h⟩ := bd1_inv h
      refine w_callV (pc := 26) X dX9_worlds_26 (M9_findWorlds h8) k_o (by decide) rfl cw_9_266 ⟨Nat.le_of_ble_eq_true rfl, Nat.le_of_ble_eq_true rfl⟩ rfl rfl (Nat.le_of_ble_eq_true rfl) ?_
      show wpm φ ad 29 [(0, .ref (ad o)), (1, .int a1)] [] s7
      refine w_iload_n (pc := 29) X dX9_worlds_29 1 rfl ?_
      refine w_if_ne (pc := 30) (tgt := 40) X dX9_worlds_30 (by decide) (fun c11 => ?_) (fun c11 => ?_)
      · replace h := it_neg c11 h
        refine w_iload_n (pc := 40) X dX9_worlds_40 1 rfl ?_
        refine w_iconst (pc := 41) X dX9_worlds_41 (v := 1) rfl ?_
        refine w_icmp_ne (pc := 42) (tgt := 52) X dX9_worlds_42 (by decide) (fun c10 => ?_) (fun c10 => ?_)
        · replace h := it_neg c10 h
          refine w_iload_n (pc := 52) X dX9_worlds_52 1 rfl ?_
          refine w_iconst (pc := 53) X dX9_worlds_53 (v := 2) rfl ?_
          refine w_icmp_ne (pc := 54) (tgt := 64) X dX9_worlds_54 (by decide) (fun c9 => ?_) (fun c9 => ?_)
          · replace h := it_neg c9 h
            refine w_aload_n (pc := 64) X dX9_worlds_64 0 rfl ?_
            refine w_getI (pc := 65) X dX9_worlds_65 clO_9 k_o 38 (by decide) rfl fl_9_260 ?_
            cases h
            exact w_iret X hQ dX9_worlds_68
          · replace h := it_pos c9 h
            refine w_aload_n (pc := 57) X dX9_worlds_57 0 rfl ?_
            refine w_getI (pc := 58) X dX9_worlds_58 clO_9 k_o 37 (by decide) rfl fl_9_257 ?_
            refine w_goto (tgt := 68) (pc := 61) X dX9_worlds_61 (by decide) ?_
            cases h
            exact w_iret X hQ dX9_worlds_68
        · replace h := it_pos c10 h
          refine w_aload_n (pc := 45) X dX9_worlds_45 0 rfl ?_
          refine w_getI (pc := 46) X dX9_worlds_46 clO_9 k_o 36 (by decide) rfl fl_9_254 ?_
          refine w_goto (tgt := 68) (pc := 49) X dX9_worlds_49 (by decide) ?_
          cases h
          exact w_iret X hQ dX9_worlds_68
      · replace h := it_pos c11 h
        refine w_aload_n (pc := 33) X dX9_worlds_33 0 rfl ?_
        refine w_getI (pc := 34) X dX9_worlds_34 clO_9 k_o 35 (by decide) rfl fl_9_251 ?_
        refine w_goto (tgt := 68) (pc := 37) X dX9_worlds_37 (by decide) ?_
        cases h
        exact w_iret X hQ dX9_worlds_68
    · replace h := it_neg c12 h
      refine w_bipush (pc := 22) X dX9_worlds_22 (v := (-5)) rfl ?_
      cases h
      exact w_iret X hQ dX9_worlds_24
  · replace h := it_pos c13 h
    refine w_bipush (pc := 12) X dX9_worlds_12 (v := (-2)) rfl ?_
    cases h
    exact w_iret X hQ dX9_worlds_14
set_option maxRecDepth 20000 in
theorem M9_mostLeft {o : Nat} {a1 : Int32} {s : Sto} {r : Int32} {σ' : Sto} (h : f9_mostLeft o a1 s = some (r, σ')) : Ct yX9_mostLeft cX9_mostLeft 2 (some .int) 0 0 (fun ad => [.ref (ad o), .int a1]) s (fun ad => some (.int r)) σ' := by
  unfold f9_mostLeft at h
  obtain ⟨k_o, h⟩ := gd_inv h
  refine Ct_of (by decide) (fun ad => Nat.le_of_ble_eq_true rfl) (fun φ ad X hQ => ?_)
  show wpm φ ad 0 [(0, .ref (ad o)), (1, .int a1)] [] s
  replace X : Cx φ ad cX9_mostLeft (some .int) RX9 2 0 0 := X
  refine w_aload_n (pc := 0) X dX9_mostLeft_0 0 rfl ?_
  refine w_getR (pc := 1) X dX9_mostLeft_1 clO_9 k_o 39 (by decide) (d := 18) rfl fl_9_61 ?_
  refine w_iload_n (pc := 4) X dX9_mostLeft_4 1 rfl ?_
  obtain ⟨g1, h⟩ := gd_inv h
  refine w_iald (pc := 5) X dX9_mostLeft_5 (kp_9_18 k_o) g1 ?_
  refine w_aload_n (pc := 6) X dX9_mostLeft_6 0 rfl ?_
  refine w_getI (pc := 7) X dX9_mostLeft_7 clO_9 k_o 35 (by decide) rfl fl_9_251 ?_
  refine w_aload_n (pc := 10) X dX9_mostLeft_10 0 rfl ?_
  refine w_getR (pc := 11) X dX9_mostLeft_11 clO_9 k_o 39 (by decide) (d := 18) rfl fl_9_61 ?_
  refine w_iload_n (pc := 14) X dX9_mostLeft_14 1 rfl ?_
  obtain ⟨g2, h⟩ := gd_inv h
  refine w_iald (pc := 15) X dX9_mostLeft_15 (kp_9_18 k_o) g2 ?_
  refine w_isub (pc := 16) X dX9_mostLeft_16 ?_
  refine w_icmp_le (pc := 17) (tgt := 29) X dX9_mostLeft_17 (by decide) (fun c5 => ?_) (fun c5 => ?_)
  · replace h := it_pos c5 h
    refine w_aload_n (pc := 29) X dX9_mostLeft_29 0 rfl ?_
    refine w_getI (pc := 30) X dX9_mostLeft_30 clO_9 k_o 35 (by decide) rfl fl_9_251 ?_
    refine w_aload_n (pc := 33) X dX9_mostLeft_33 0 rfl ?_
    refine w_getR (pc := 34) X dX9_mostLeft_34 clO_9 k_o 39 (by decide) (d := 18) rfl fl_9_61 ?_
    refine w_iload_n (pc := 37) X dX9_mostLeft_37 1 rfl ?_
    obtain ⟨g3, h⟩ := gd_inv h
    refine w_iald (pc := 38) X dX9_mostLeft_38 (kp_9_18 k_o) g3 ?_
    refine w_isub (pc := 39) X dX9_mostLeft_39 ?_
    cases h
    exact w_iret X hQ dX9_mostLeft_40
  · replace h := it_neg c5 h
    refine w_aload_n (pc := 20) X dX9_mostLeft_20 0 rfl ?_
    refine w_getR (pc := 21) X dX9_mostLeft_21 clO_9 k_o 39 (by decide) (d := 18) rfl fl_9_61 ?_
    refine w_iload_n (pc := 24) X dX9_mostLeft_24 1 rfl ?_
    obtain ⟨g4, h⟩ := gd_inv h
    refine w_iald (pc := 25) X dX9_mostLeft_25 (kp_9_18 k_o) g4 ?_
    refine w_goto (tgt := 40) (pc := 26) X dX9_mostLeft_26 (by decide) ?_
    cases h
    exact w_iret X hQ dX9_mostLeft_40
set_option maxRecDepth 20000 in
theorem WL9_tell_41 {φ : Fr} {ad : Nat → Nat} (X : Cx φ ad cX9_tell (some .int) RX9 4 6 134) (o : Nat) (a1 : Int32) (k_o : kd o = 9) : ∀ (fuel : Nat) (v2 : Int32) (v3 : Int32) (s : Sto) (t2 : Int32) (t : Sto), L9_tell_41 o a1 fuel v2 v3 s = some (t2, t) → wpm φ ad 74 [(0, .ref (ad o)), (1, .int a1), (2, .int t2)] [] t → wpm φ ad 41 [(0, .ref (ad o)), (1, .int a1), (2, .int v2), (3, .int v3)] [] s := by
  intro fuel
  induction fuel with
  | zero => intro v2 v3 s t2 t h; cases h
  | succ fuel ih =>
    intro v2 v3 s t2 t h K
    unfold L9_tell_41 at h
    refine w_iload_n (pc := 41) X dX9_tell_41 3 rfl ?_
    refine w_aload_n (pc := 42) X dX9_tell_42 0 rfl ?_
    refine w_getI (pc := 43) X dX9_tell_43 clO_9 k_o 0 (by decide) rfl fl_9_85 ?_
    refine w_icmp_ge (pc := 46) (tgt := 74) X dX9_tell_46 (by decide) (fun c16 => ?_) (fun c16 => ?_)
    · replace h := it_pos c16 h
      cases h
      exact w_sub (pc := 74) [0, 1, 2] rfl K
    · replace h := it_neg c16 h
      refine w_aload_n (pc := 49) X dX9_tell_49 0 rfl ?_
      refine w_iload_n (pc := 50) X dX9_tell_50 3 rfl ?_
      obtain ⟨r11, s9, h10, h⟩ := bd2_inv h
      refine w_callV (pc := 51) X dX9_tell_51 (M9_mostLeft h10) k_o (by decide) rfl cw_9_269 ⟨Nat.le_of_ble_eq_true rfl, Nat.le_of_ble_eq_true rfl⟩ rfl rfl (Nat.le_of_ble_eq_true rfl) ?_
      show wpm φ ad 54 [(0, .ref (ad o)), (1, .int a1), (2, .int v2), (3, .int v3)] [.int r11] s9
      refine w_aload_n (pc := 54) X dX9_tell_54 0 rfl ?_
      refine w_iload_n (pc := 55) X dX9_tell_55 2 rfl ?_
      obtain ⟨r14, s12, h13, h⟩ := bd2_inv h
      refine w_callV (pc := 56) X dX9_tell_56 (M9_mostLeft h13) k_o (by decide) rfl cw_9_269 ⟨Nat.le_of_ble_eq_true rfl, Nat.le_of_ble_eq_true rfl⟩ rfl rfl (Nat.le_of_ble_eq_true rfl) ?_
      show wpm φ ad 59 [(0, .ref (ad o)), (1, .int a1), (2, .int v2), (3, .int v3)] [.int r14, .int r11] s12
      refine w_icmp_ge (pc := 59) (tgt := 66) X dX9_tell_59 (by decide) (fun c15 => ?_) (fun c15 => ?_)
      · replace h := it_pos c15 h
        refine w_iload_n (pc := 66) X dX9_tell_66 2 rfl ?_
        refine w_istore_n (pc := 67) X dX9_tell_67 2 rfl (by decide) (lv' := [(2, .int v2), (0, .ref (ad o)), (1, .int a1), (3, .int v3)]) rfl ?_
        refine w_iinc (pc := 68) X dX9_tell_68 3 rfl (v := (v3 + 1)) rfl (by decide) (lv' := [(3, .int (v3 + 1)), (2, .int v2), (0, .ref (ad o)), (1, .int a1)]) rfl ?_
        refine w_goto (tgt := 41) (pc := 71) X dX9_tell_71 (by decide) ?_
        exact w_sub (pc := 41) [2, 3, 1, 0] rfl (ih _ _ _ _ _ h K)
      · replace h := it_neg c15 h
        refine w_iload_n (pc := 62) X dX9_tell_62 3 rfl ?_
        refine w_goto (tgt := 67) (pc := 63) X dX9_tell_63 (by decide) ?_
        refine w_istore_n (pc := 67) X dX9_tell_67 2 rfl (by decide) (lv' := [(2, .int v3), (0, .ref (ad o)), (1, .int a1), (3, .int v3)]) rfl ?_
        refine w_iinc (pc := 68) X dX9_tell_68 3 rfl (v := (v3 + 1)) rfl (by decide) (lv' := [(3, .int (v3 + 1)), (2, .int v3), (0, .ref (ad o)), (1, .int a1)]) rfl ?_
        refine w_goto (tgt := 41) (pc := 71) X dX9_tell_71 (by decide) ?_
        exact w_sub (pc := 41) [2, 3, 1, 0] rfl (ih _ _ _ _ _ h K)
set_option maxRecDepth 20000 in
theorem M9_tell {o : Nat} {a1 : Int32} {s : Sto} {r : Int32} {σ' : Sto} (h : f9_tell o a1 s = some (r, σ')) : Ct yX9_tell cX9_tell 4 (some .int) 6 134 (fun ad => [.ref (ad o), .int a1]) s (fun ad => some (.int r)) σ' := by
  unfold f9_tell at h
  obtain ⟨k_o, h⟩ := gd_inv h
  refine Ct_of (by decide) (fun ad => Nat.le_of_ble_eq_true rfl) (fun φ ad X hQ => ?_)
  show wpm φ ad 0 [(0, .ref (ad o)), (1, .int a1)] [] s
  replace X : Cx φ ad cX9_tell (some .int) RX9 4 6 134 := X
  refine w_iload_n (pc := 0) X dX9_tell_0 1 rfl ?_
  refine w_i2l (pc := 1) X dX9_tell_1 ?_
  refine w_lconst (pc := 2) X dX9_tell_2 (v := 0) rfl ?_
  refine w_lconst (pc := 3) X dX9_tell_3 (v := 1) rfl ?_
  obtain ⟨r3, s1, h2, h⟩ := bd2_inv h
  refine w_callS (pc := 4) X dX9_tell_4 (M9_in h2) rfl cw_9_101 ⟨Nat.le_of_ble_eq_true rfl, Nat.le_of_ble_eq_true rfl⟩ rfl rfl (Nat.le_of_ble_eq_true rfl) ?_
  show wpm φ ad 7 [(0, .ref (ad o)), (1, .int a1)] [.int r3] s1
  refine w_if_ne (pc := 7) (tgt := 13) X dX9_tell_7 (by decide) (fun c26 => ?_) (fun c26 => ?_)
  · replace h := it_neg c26 h
    refine w_aload_n (pc := 13) X dX9_tell_13 0 rfl ?_
    obtain ⟨r6, s4, h5, h⟩ := bd2_inv h
    refine w_callV (pc := 14) X dX9_tell_14 (M9_faultOfEvening h5) k_o (by decide) rfl cw_9_137 ⟨Nat.le_of_ble_eq_true rfl, Nat.le_of_ble_eq_true rfl⟩ rfl rfl (Nat.le_of_ble_eq_true rfl) ?_
    show wpm φ ad 17 [(0, .ref (ad o)), (1, .int a1)] [.int r6] s4
    refine w_if_lt (pc := 17) (tgt := 23) X dX9_tell_17 (by decide) (fun c25 => ?_) (fun c25 => ?_)
    · replace h := it_pos c25 h
      refine w_aload_n (pc := 23) X dX9_tell_23 0 rfl ?_
      obtain ⟨s7, h8, h⟩ := bd1_inv h
      refine w_callV (pc := 24) X dX9_tell_24 (M9_findWorlds h8) k_o (by decide) rfl cw_9_266 ⟨Nat.le_of_ble_eq_true rfl, Nat.le_of_ble_eq_true rfl⟩ rfl rfl (Nat.le_of_ble_eq_true rfl) ?_
      show wpm φ ad 27 [(0, .ref (ad o)), (1, .int a1)] [] s7
      refine w_aload_n (pc := 27) X dX9_tell_27 0 rfl ?_
      refine w_getI (pc := 28) X dX9_tell_28 clO_9 k_o 35 (by decide) rfl fl_9_251 ?_
      refine w_if_ne (pc := 31) (tgt := 37) X dX9_tell_31 (by decide) (fun c24 => ?_) (fun c24 => ?_)
      · replace h := it_neg c24 h
        refine w_iconst (pc := 37) X dX9_tell_37 (v := 0) rfl ?_
        refine w_istore_n (pc := 38) X dX9_tell_38 2 rfl (by decide) (lv' := [(2, .int (0 : Int32)), (0, .ref (ad o)), (1, .int a1)]) rfl ?_
        refine w_iconst (pc := 39) X dX9_tell_39 (v := 1) rfl ?_
        refine w_istore_n (pc := 40) X dX9_tell_40 3 rfl (by decide) (lv' := [(3, .int (1 : Int32)), (2, .int (0 : Int32)), (0, .ref (ad o)), (1, .int a1)]) rfl ?_
        obtain ⟨y18, s19, h17, h⟩ := bd2_inv h
        refine w_sub (pc := 41) [2, 3, 1, 0] rfl (WL9_tell_41 X o a1 k_o FU (0 : Int32) (1 : Int32) s7 y18 s19 h17 ?_)
        refine w_iload_n (pc := 74) X dX9_tell_74 1 rfl ?_
        refine w_if_ne (pc := 75) (tgt := 82) X dX9_tell_75 (by decide) (fun c23 => ?_) (fun c23 => ?_)
        · replace h := it_neg c23 h
          refine w_aload_n (pc := 82) X dX9_tell_82 0 rfl ?_
          refine w_iload_n (pc := 83) X dX9_tell_83 2 rfl ?_
          obtain ⟨r22, s20, h21, h⟩ := bd2_inv h
          refine w_callV (pc := 84) X dX9_tell_84 (M9_mostLeft h21) k_o (by decide) rfl cw_9_269 ⟨Nat.le_of_ble_eq_true rfl, Nat.le_of_ble_eq_true rfl⟩ rfl rfl (Nat.le_of_ble_eq_true rfl) ?_
          show wpm φ ad 87 [(0, .ref (ad o)), (1, .int a1), (2, .int y18)] [.int r22] s20
          cases h
          exact w_iret X hQ dX9_tell_87
        · replace h := it_pos c23 h
          refine w_iload_n (pc := 78) X dX9_tell_78 2 rfl ?_
          refine w_goto (tgt := 87) (pc := 79) X dX9_tell_79 (by decide) ?_
          cases h
          exact w_iret X hQ dX9_tell_87
      · replace h := it_pos c24 h
        refine w_bipush (pc := 34) X dX9_tell_34 (v := (-6)) rfl ?_
        cases h
        exact w_iret X hQ dX9_tell_36
    · replace h := it_neg c25 h
      refine w_bipush (pc := 20) X dX9_tell_20 (v := (-5)) rfl ?_
      cases h
      exact w_iret X hQ dX9_tell_22
  · replace h := it_pos c26 h
    refine w_bipush (pc := 10) X dX9_tell_10 (v := (-2)) rfl ?_
    cases h
    exact w_iret X hQ dX9_tell_12
set_option maxRecDepth 20000 in
theorem WL9_says_23 {φ : Fr} {ad : Nat → Nat} (X : Cx φ ad cX9_says (some .int) RX9 5 3 71) (o : Nat) (a1 : Int32) (k_o : kd o = 9) : ∀ (fuel : Nat) (v2 : Int32) (v3 : Int32) (s : Sto) (t2 : Int32) (t : Sto), L9_says_23 o a1 fuel v2 v3 s = some (t2, t) → wpm φ ad 92 [(2, .int t2)] [] t → wpm φ ad 23 [(0, .ref (ad o)), (1, .int a1), (2, .int v2), (3, .int v3)] [] s := by
  intro fuel
  induction fuel with
  | zero => intro v2 v3 s t2 t h; cases h
  | succ fuel ih =>
    intro v2 v3 s t2 t h K
    unfold L9_says_23 at h
    refine w_iload_n (pc := 23) X dX9_says_23 3 rfl ?_
    refine w_aload_n (pc := 24) X dX9_says_24 0 rfl ?_
    refine w_getI (pc := 25) X dX9_says_25 clO_9 k_o 17 (by decide) rfl fl_9_127 ?_
    refine w_icmp_ge (pc := 28) (tgt := 92) X dX9_says_28 (by decide) (fun c18 => ?_) (fun c18 => ?_)
    · replace h := it_pos c18 h
      cases h
      exact w_sub (pc := 92) [2] rfl K
    · replace h := it_neg c18 h
      refine w_aload_n (pc := 31) X dX9_says_31 0 rfl ?_
      refine w_getR (pc := 32) X dX9_says_32 clO_9 k_o 13 (by decide) (d := 8) rfl fl_9_31 ?_
      refine w_iload_n (pc := 35) X dX9_says_35 3 rfl ?_
      obtain ⟨g7, h⟩ := gd_inv h
      refine w_iald (pc := 36) X dX9_says_36 (kp_9_8 k_o) g7 ?_
      obtain ⟨x11, h17, h⟩ := bd1_inv h
      have K37 : wpm φ ad 55 [(0, .ref (ad o)), (1, .int a1), (2, .int v2), (3, .int v3)] [.int x11] s := by
        refine w_istore (pc := 55) X dX9_says_55 (by decide) (lv' := [(4, .int x11), (0, .ref (ad o)), (1, .int a1), (2, .int v2), (3, .int v3)]) rfl ?_
        refine w_iload_n (pc := 57) X dX9_says_57 3 rfl ?_
        refine w_iload (pc := 58) X dX9_says_58 0 rfl ?_
        refine w_if_ne (pc := 60) (tgt := 67) X dX9_says_60 (by decide) (fun c16 => ?_) (fun c16 => ?_)
        · replace h := it_neg c16 h
          refine w_aload_n (pc := 67) X dX9_says_67 1 rfl ?_
          refine w_iload_n (pc := 68) X dX9_says_68 4 rfl ?_
          refine w_aload_n (pc := 69) X dX9_says_69 1 rfl ?_
          refine w_getI (pc := 70) X dX9_says_70 clO_9 k_o 1 (by decide) rfl fl_9_89 ?_
          obtain ⟨r14, s12, h13, h⟩ := bd2_inv h
          refine w_callV (pc := 73) X dX9_says_73 (M9_isLie h13) k_o (by decide) rfl cw_9_147 ⟨Nat.le_of_ble_eq_true rfl, Nat.le_of_ble_eq_true rfl⟩ rfl rfl (Nat.le_of_ble_eq_true rfl) ?_
          show wpm φ ad 76 [(4, .int x11), (0, .ref (ad o)), (1, .int a1), (2, .int v2), (3, .int v3)] [.int r14, .int v2] s12
          refine w_if_eq (pc := 76) (tgt := 83) X dX9_says_76 (by decide) (fun c15 => ?_) (fun c15 => ?_)
          · replace h := it_pos c15 h
            refine w_iconst (pc := 83) X dX9_says_83 (v := 1) rfl ?_
            refine w_ior (pc := 84) X dX9_says_84 ?_
            refine w_istore_n (pc := 85) X dX9_says_85 2 rfl (by decide) (lv' := [(2, .int (v2 ||| (1 : Int32))), (4, .int x11), (0, .ref (ad o)), (1, .int a1), (3, .int v3)]) rfl ?_
            refine w_iinc (pc := 86) X dX9_says_86 4 rfl (v := (v3 + 1)) rfl (by decide) (lv' := [(3, .int (v3 + 1)), (2, .int (v2 ||| (1 : Int32))), (4, .int x11), (0, .ref (ad o)), (1, .int a1)]) rfl ?_
            refine w_goto (tgt := 23) (pc := 89) X dX9_says_89 (by decide) ?_
            exact w_sub (pc := 23) [3, 4, 1, 0] rfl (ih _ _ _ _ _ h K)
          · replace h := it_neg c15 h
            refine w_iconst (pc := 79) X dX9_says_79 (v := 2) rfl ?_
            refine w_goto (tgt := 84) (pc := 80) X dX9_says_80 (by decide) ?_
            refine w_ior (pc := 84) X dX9_says_84 ?_
            refine w_istore_n (pc := 85) X dX9_says_85 2 rfl (by decide) (lv' := [(2, .int (v2 ||| (2 : Int32))), (4, .int x11), (0, .ref (ad o)), (1, .int a1), (3, .int v3)]) rfl ?_
            refine w_iinc (pc := 86) X dX9_says_86 4 rfl (v := (v3 + 1)) rfl (by decide) (lv' := [(3, .int (v3 + 1)), (2, .int (v2 ||| (2 : Int32))), (4, .int x11), (0, .ref (ad o)), (1, .int a1)]) rfl ?_
            refine w_goto (tgt := 23) (pc := 89) X dX9_says_89 (by decide) ?_
            exact w_sub (pc := 23) [3, 4, 1, 0] rfl (ih _ _ _ _ _ h K)
        · replace h := it_pos c16 h
          refine w_iconst (pc := 63) X dX9_says_63 (v := 0) rfl ?_
          refine w_goto (tgt := 84) (pc := 64) X dX9_says_64 (by decide) ?_
          refine w_ior (pc := 84) X dX9_says_84 ?_
          refine w_istore_n (pc := 85) X dX9_says_85 2 rfl (by decide) (lv' := [(2, .int (v2 ||| (0 : Int32))), (4, .int x11), (0, .ref (ad o)), (1, .int a1), (3, .int v3)]) rfl ?_
          refine w_iinc (pc := 86) X dX9_says_86 4 rfl (v := (v3 + 1)) rfl (by decide) (lv' := [(3, .int (v3 + 1)), (2, .int (v2 ||| (0 : Int32))), (4, .int x11), (0, .ref (ad o)), (1, .int a1)]) rfl ?_
          refine w_goto (tgt := 23) (pc := 89) X dX9_says_89 (by decide) ?_
          exact w_sub (pc := 23) [3, 4, 1, 0] rfl (ih _ _ _ _ _ h K)
      clear h
      have h := h17
      clear h17
      refine w_if_ne (pc := 37) (tgt := 54) X dX9_says_37 (by decide) (fun c10 => ?_) (fun c10 => ?_)
      · replace h := it_neg c10 h
        refine w_iconst (pc := 54) X dX9_says_54 (v := 0) rfl ?_
        cases h
        exact w_sub (pc := 55) [0, 1, 2, 3] rfl K37
      · replace h := it_pos c10 h
        refine w_aload_n (pc := 40) X dX9_says_40 0 rfl ?_
        refine w_getR (pc := 41) X dX9_says_41 clO_9 k_o 14 (by decide) (d := 9) rfl fl_9_34 ?_
        refine w_iload_n (pc := 44) X dX9_says_44 3 rfl ?_
        obtain ⟨g8, h⟩ := gd_inv h
        refine w_iald (pc := 45) X dX9_says_45 (kp_9_9 k_o) g8 ?_
        refine w_iload_n (pc := 46) X dX9_says_46 1 rfl ?_
        refine w_icmp_ne (pc := 47) (tgt := 54) X dX9_says_47 (by decide) (fun c9 => ?_) (fun c9 => ?_)
        · replace h := it_neg c9 h
          refine w_iconst (pc := 54) X dX9_says_54 (v := 0) rfl ?_
          cases h
          exact w_sub (pc := 55) [0, 1, 2, 3] rfl K37
        · replace h := it_pos c9 h
          refine w_iconst (pc := 50) X dX9_says_50 (v := 1) rfl ?_
          refine w_goto (tgt := 55) (pc := 51) X dX9_says_51 (by decide) ?_
          cases h
          exact w_sub (pc := 55) [0, 1, 2, 3] rfl K37
set_option maxRecDepth 20000 in
theorem M9_says {o : Nat} {a1 : Int32} {s : Sto} {r : Int32} {σ' : Sto} (h : f9_says o a1 s = some (r, σ')) : Ct yX9_says cX9_says 5 (some .int) 3 71 (fun ad => [.ref (ad o), .int a1]) s (fun ad => some (.int r)) σ' := by
  unfold f9_says at h
  obtain ⟨k_o, h⟩ := gd_inv h
  refine Ct_of (by decide) (fun ad => Nat.le_of_ble_eq_true rfl) (fun φ ad X hQ => ?_)
  show wpm φ ad 0 [(0, .ref (ad o)), (1, .int a1)] [] s
  replace X : Cx φ ad cX9_says (some .int) RX9 5 3 71 := X
  refine w_iload_n (pc := 0) X dX9_says_0 1 rfl ?_
  obtain ⟨r3, s1, h2, h⟩ := bd2_inv h
  refine w_callS (pc := 1) X dX9_says_1 (M9_isGuest h2) rfl cw_9_113 ⟨Nat.le_of_ble_eq_true rfl, Nat.le_of_ble_eq_true rfl⟩ rfl rfl (Nat.le_of_ble_eq_true rfl) ?_
  show wpm φ ad 4 [(0, .ref (ad o)), (1, .int a1)] [.int r3] s1
  refine w_if_ne (pc := 4) (tgt := 9) X dX9_says_4 (by decide) (fun c23 => ?_) (fun c23 => ?_)
  · replace h := it_neg c23 h
    refine w_aload_n (pc := 9) X dX9_says_9 0 rfl ?_
    obtain ⟨r6, s4, h5, h⟩ := bd2_inv h
    refine w_callV (pc := 10) X dX9_says_10 (M9_faultOfEvening h5) k_o (by decide) rfl cw_9_137 ⟨Nat.le_of_ble_eq_true rfl, Nat.le_of_ble_eq_true rfl⟩ rfl rfl (Nat.le_of_ble_eq_true rfl) ?_
    show wpm φ ad 13 [(0, .ref (ad o)), (1, .int a1)] [.int r6] s4
    refine w_if_lt (pc := 13) (tgt := 19) X dX9_says_13 (by decide) (fun c22 => ?_) (fun c22 => ?_)
    · replace h := it_pos c22 h
      refine w_iconst (pc := 19) X dX9_says_19 (v := 0) rfl ?_
      refine w_istore_n (pc := 20) X dX9_says_20 2 rfl (by decide) (lv' := [(2, .int (0 : Int32)), (0, .ref (ad o)), (1, .int a1)]) rfl ?_
      refine w_iconst (pc := 21) X dX9_says_21 (v := 0) rfl ?_
      refine w_istore_n (pc := 22) X dX9_says_22 3 rfl (by decide) (lv' := [(3, .int (0 : Int32)), (2, .int (0 : Int32)), (0, .ref (ad o)), (1, .int a1)]) rfl ?_
      obtain ⟨y20, s21, h19, h⟩ := bd2_inv h
      refine w_sub (pc := 23) [2, 3, 1, 0] rfl (WL9_says_23 X o a1 k_o FU (0 : Int32) (0 : Int32) s4 y20 s21 h19 ?_)
      refine w_iload_n (pc := 92) X dX9_says_92 0 rfl ?_
      cases h
      exact w_iret X hQ dX9_says_93
    · replace h := it_neg c22 h
      refine w_bipush (pc := 16) X dX9_says_16 (v := (-5)) rfl ?_
      cases h
      exact w_iret X hQ dX9_says_18
  · replace h := it_pos c23 h
    refine w_iconst (pc := 7) X dX9_says_7 (v := (-1)) rfl ?_
    cases h
    exact w_iret X hQ dX9_says_8
