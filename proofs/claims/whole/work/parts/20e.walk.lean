set_option maxRecDepth 20000 in
theorem M8_worlds {o : Nat} {a1 : Int32} {s : Sto} {r : Int32} {σ' : Sto} (h : f8_worlds o a1 s = some (r, σ')) : Ct yX8_worlds cX8_worlds 2 (some .int) 6 134 (fun ad => [.ref (ad o), .int a1]) s (fun ad => some (.int r)) σ' := by
  unfold f8_worlds at h
  obtain ⟨k_o, h⟩ := gd_inv h
  refine Ct_of (by decide) (fun ad => Nat.le_of_ble_eq_true rfl) (fun φ ad X hQ => ?_)
  show wpm φ ad 0 [(0, .ref (ad o)), (1, .int a1)] [] s
  replace X : Cx φ ad cX8_worlds (some .int) RX8 2 6 134 := X
  refine w_iload_n (pc := 0) X dX8_worlds_0 1 rfl ?_
  refine w_iconst (pc := 1) X dX8_worlds_1 (v := 0) rfl ?_
  refine w_iconst (pc := 2) X dX8_worlds_2 (v := 3) rfl ?_
  obtain ⟨r3, s1, h2, h⟩ := bd2_inv h
  refine w_callS (pc := 3) X dX8_worlds_3 (M8_isWithin h2) rfl cw_8_64 ⟨Nat.le_of_ble_eq_true rfl, Nat.le_of_ble_eq_true rfl⟩ rfl rfl (Nat.le_of_ble_eq_true rfl) ?_
  show wpm φ ad 6 [(0, .ref (ad o)), (1, .int a1)] [.int r3] s1
  refine w_if_ne (pc := 6) (tgt := 12) X dX8_worlds_6 (by decide) (fun c11 => ?_) (fun c11 => ?_)
  · replace h := it_neg c11 h
    refine w_aload_n (pc := 12) X dX8_worlds_12 0 rfl ?_
    obtain ⟨r6, s4, h5, h⟩ := bd2_inv h
    refine w_callV (pc := 13) X dX8_worlds_13 (M8_surveyWorlds h5) k_o (by decide) rfl cw_8_169 ⟨Nat.le_of_ble_eq_true rfl, Nat.le_of_ble_eq_true rfl⟩ rfl rfl (Nat.le_of_ble_eq_true rfl) ?_
    show wpm φ ad 16 [(0, .ref (ad o)), (1, .int a1)] [.int r6] s4
    refine w_if_ne (pc := 16) (tgt := 22) X dX8_worlds_16 (by decide) (fun c10 => ?_) (fun c10 => ?_)
    · replace h := it_neg c10 h
      refine w_iload_n (pc := 22) X dX8_worlds_22 1 rfl ?_
      by_cases c7 : a1 = 0
      · replace h := it_pos c7 h
        refine w_tswIn (pc := 23) (tgt := 48) X dX8_worlds_23 c7 (by decide) (by decide) rfl (by decide) ?_
        refine w_aload_n (pc := 48) X dX8_worlds_48 0 rfl ?_
        refine w_getR (pc := 49) X dX8_worlds_49 clO_8 k_o 6 (by decide) (d := 37) rfl fl_8_46 ?_
        refine w_getI (pc := 52) X dX8_worlds_52 clO_7 (kp_8_37 k_o) 0 (by decide) rfl fl_8_173 ?_
        cases h
        exact w_iret X hQ dX8_worlds_55
      replace h := it_neg c7 h
      by_cases c8 : a1 = 1
      · replace h := it_pos c8 h
        refine w_tswIn (pc := 23) (tgt := 56) X dX8_worlds_23 c8 (by decide) (by decide) rfl (by decide) ?_
        refine w_aload_n (pc := 56) X dX8_worlds_56 0 rfl ?_
        refine w_getR (pc := 57) X dX8_worlds_57 clO_8 k_o 6 (by decide) (d := 37) rfl fl_8_46 ?_
        refine w_getI (pc := 60) X dX8_worlds_60 clO_7 (kp_8_37 k_o) 1 (by decide) rfl fl_8_174 ?_
        cases h
        exact w_iret X hQ dX8_worlds_63
      replace h := it_neg c8 h
      by_cases c9 : a1 = 2
      · replace h := it_pos c9 h
        refine w_tswIn (pc := 23) (tgt := 64) X dX8_worlds_23 c9 (by decide) (by decide) rfl (by decide) ?_
        refine w_aload_n (pc := 64) X dX8_worlds_64 0 rfl ?_
        refine w_getR (pc := 65) X dX8_worlds_65 clO_8 k_o 6 (by decide) (d := 37) rfl fl_8_46 ?_
        refine w_getI (pc := 68) X dX8_worlds_68 clO_7 (kp_8_37 k_o) 2 (by decide) rfl fl_8_177 ?_
        cases h
        exact w_iret X hQ dX8_worlds_71
      replace h := it_neg c9 h
      refine w_tswOut (pc := 23) (tgt := 72) X dX8_worlds_23 (fun i i1 i2 => by
          rcases (show i = 0 ∨ i = 1 ∨ i = 2 by omega) with rfl | rfl | rfl
          · exact c7
          · exact c8
          · exact c9) (by decide) ?_
      refine w_aload_n (pc := 72) X dX8_worlds_72 0 rfl ?_
      refine w_getR (pc := 73) X dX8_worlds_73 clO_8 k_o 6 (by decide) (d := 37) rfl fl_8_46 ?_
      refine w_getI (pc := 76) X dX8_worlds_76 clO_7 (kp_8_37 k_o) 3 (by decide) rfl fl_8_180 ?_
      cases h
      exact w_iret X hQ dX8_worlds_79
    · replace h := it_pos c10 h
      refine w_bipush (pc := 19) X dX8_worlds_19 (v := (-5)) rfl ?_
      cases h
      exact w_iret X hQ dX8_worlds_21
  · replace h := it_pos c11 h
    refine w_bipush (pc := 9) X dX8_worlds_9 (v := (-2)) rfl ?_
    cases h
    exact w_iret X hQ dX8_worlds_11
set_option maxRecDepth 20000 in
theorem M7_leftAtMost {o : Nat} {a1 : Int32} {s : Sto} {r : Int32} {σ' : Sto} (h : f7_leftAtMost o a1 s = some (r, σ')) : Ct yX7_leftAtMost cX7_leftAtMost 3 (some .int) 1 21 (fun ad => [.ref (ad o), .int a1]) s (fun ad => some (.int r)) σ' := by
  unfold f7_leftAtMost at h
  obtain ⟨k_o, h⟩ := gd_inv h
  refine Ct_of (by decide) (fun ad => Nat.le_of_ble_eq_true rfl) (fun φ ad X hQ => ?_)
  show wpm φ ad 0 [(0, .ref (ad o)), (1, .int a1)] [] s
  replace X : Cx φ ad cX7_leftAtMost (some .int) RX7 3 1 21 := X
  refine w_aload_n (pc := 0) X dX7_leftAtMost_0 0 rfl ?_
  refine w_getR (pc := 1) X dX7_leftAtMost_1 clO_7 k_o 4 (by decide) (d := 1) rfl fl_7_24 ?_
  refine w_iload_n (pc := 4) X dX7_leftAtMost_4 1 rfl ?_
  obtain ⟨r3, s1, h2, h⟩ := bd2_inv h
  refine w_callSN (pc := 5) X dX7_leftAtMost_5 (M8_at h2) mn_7_32 cw_7_32 ⟨Nat.le_of_ble_eq_true rfl, Nat.le_of_ble_eq_true rfl⟩ rfl rfl (Nat.le_of_ble_eq_true rfl) ?_
  show wpm φ ad 8 [(0, .ref (ad o)), (1, .int a1)] [.int r3] s1
  refine w_istore_n (pc := 8) X dX7_leftAtMost_8 2 rfl (by decide) (lv' := [(2, .int r3), (0, .ref (ad o)), (1, .int a1)]) rfl ?_
  refine w_iload_n (pc := 9) X dX7_leftAtMost_9 0 rfl ?_
  refine w_aload_n (pc := 10) X dX7_leftAtMost_10 1 rfl ?_
  refine w_getI (pc := 11) X dX7_leftAtMost_11 clO_7 k_o 0 (by decide) rfl fl_7_9 ?_
  refine w_iload_n (pc := 14) X dX7_leftAtMost_14 0 rfl ?_
  refine w_isub (pc := 15) X dX7_leftAtMost_15 ?_
  refine w_mmax (pc := 16) X dX7_leftAtMost_16 cw_7_36 ⟨Nat.le_of_ble_eq_true rfl, Nat.le_of_ble_eq_true rfl⟩ ?_
  obtain ⟨x4, e_x4, h⟩ := nm_inv h
  refine w_nmi e_x4 ?_
  cases h
  exact w_iret X hQ dX7_leftAtMost_19
set_option maxRecDepth 20000 in
theorem WL7_bestFact_4 {φ : Fr} {ad : Nat → Nat} (X : Cx φ ad cX7_bestFact (some .int) RX7 4 2 43) (o : Nat) (a1 : Int32) (k_o : kd o = 7) : ∀ (fuel : Nat) (v2 : Int32) (v3 : Int32) (s : Sto) (t2 : Int32) (t : Sto), L7_bestFact_4 o a1 fuel v2 v3 s = some (t2, t) → wpm φ ad 30 [(2, .int t2)] [] t → wpm φ ad 4 [(0, .ref (ad o)), (1, .int a1), (2, .int v2), (3, .int v3)] [] s := by
  intro fuel
  induction fuel with
  | zero => intro v2 v3 s t2 t h; cases h
  | succ fuel ih =>
    intro v2 v3 s t2 t h K
    unfold L7_bestFact_4 at h
    refine w_iload_n (pc := 4) X dX7_bestFact_4 3 rfl ?_
    refine w_iload_n (pc := 5) X dX7_bestFact_5 1 rfl ?_
    refine w_icmp_ge (pc := 6) (tgt := 30) X dX7_bestFact_6 (by decide) (fun c8 => ?_) (fun c8 => ?_)
    · replace h := it_pos c8 h
      cases h
      exact w_sub (pc := 30) [2] rfl K
    · replace h := it_neg c8 h
      refine w_aload_n (pc := 9) X dX7_bestFact_9 0 rfl ?_
      refine w_iload_n (pc := 10) X dX7_bestFact_10 3 rfl ?_
      obtain ⟨r3, s1, h2, h⟩ := bd2_inv h
      refine w_callV (pc := 11) X dX7_bestFact_11 (M7_leftAtMost h2) k_o (by decide) rfl cw_7_42 ⟨Nat.le_of_ble_eq_true rfl, Nat.le_of_ble_eq_true rfl⟩ rfl rfl (Nat.le_of_ble_eq_true rfl) ?_
      show wpm φ ad 14 [(0, .ref (ad o)), (1, .int a1), (2, .int v2), (3, .int v3)] [.int r3] s1
      refine w_aload_n (pc := 14) X dX7_bestFact_14 0 rfl ?_
      refine w_iload_n (pc := 15) X dX7_bestFact_15 2 rfl ?_
      obtain ⟨r6, s4, h5, h⟩ := bd2_inv h
      refine w_callV (pc := 16) X dX7_bestFact_16 (M7_leftAtMost h5) k_o (by decide) rfl cw_7_42 ⟨Nat.le_of_ble_eq_true rfl, Nat.le_of_ble_eq_true rfl⟩ rfl rfl (Nat.le_of_ble_eq_true rfl) ?_
      show wpm φ ad 19 [(0, .ref (ad o)), (1, .int a1), (2, .int v2), (3, .int v3)] [.int r6, .int r3] s4
      refine w_icmp_ge (pc := 19) (tgt := 24) X dX7_bestFact_19 (by decide) (fun c7 => ?_) (fun c7 => ?_)
      · replace h := it_pos c7 h
        refine w_iinc (pc := 24) X dX7_bestFact_24 3 rfl (v := (v3 + 1)) rfl (by decide) (lv' := [(3, .int (v3 + 1)), (0, .ref (ad o)), (1, .int a1), (2, .int v2)]) rfl ?_
        refine w_goto (tgt := 4) (pc := 27) X dX7_bestFact_27 (by decide) ?_
        exact w_sub (pc := 4) [1, 2, 3, 0] rfl (ih _ _ _ _ _ h K)
      · replace h := it_neg c7 h
        refine w_iload_n (pc := 22) X dX7_bestFact_22 3 rfl ?_
        refine w_istore_n (pc := 23) X dX7_bestFact_23 2 rfl (by decide) (lv' := [(2, .int v3), (0, .ref (ad o)), (1, .int a1), (3, .int v3)]) rfl ?_
        refine w_iinc (pc := 24) X dX7_bestFact_24 3 rfl (v := (v3 + 1)) rfl (by decide) (lv' := [(3, .int (v3 + 1)), (2, .int v3), (0, .ref (ad o)), (1, .int a1)]) rfl ?_
        refine w_goto (tgt := 4) (pc := 27) X dX7_bestFact_27 (by decide) ?_
        exact w_sub (pc := 4) [2, 3, 1, 0] rfl (ih _ _ _ _ _ h K)
set_option maxRecDepth 20000 in
theorem M7_bestFact {o : Nat} {a1 : Int32} {s : Sto} {r : Int32} {σ' : Sto} (h : f7_bestFact o a1 s = some (r, σ')) : Ct yX7_bestFact cX7_bestFact 4 (some .int) 2 43 (fun ad => [.ref (ad o), .int a1]) s (fun ad => some (.int r)) σ' := by
  unfold f7_bestFact at h
  obtain ⟨k_o, h⟩ := gd_inv h
  refine Ct_of (by decide) (fun ad => Nat.le_of_ble_eq_true rfl) (fun φ ad X hQ => ?_)
  show wpm φ ad 0 [(0, .ref (ad o)), (1, .int a1)] [] s
  replace X : Cx φ ad cX7_bestFact (some .int) RX7 4 2 43 := X
  refine w_iconst (pc := 0) X dX7_bestFact_0 (v := 0) rfl ?_
  refine w_istore_n (pc := 1) X dX7_bestFact_1 2 rfl (by decide) (lv' := [(2, .int (0 : Int32)), (0, .ref (ad o)), (1, .int a1)]) rfl ?_
  refine w_iconst (pc := 2) X dX7_bestFact_2 (v := 1) rfl ?_
  refine w_istore_n (pc := 3) X dX7_bestFact_3 3 rfl (by decide) (lv' := [(3, .int (1 : Int32)), (2, .int (0 : Int32)), (0, .ref (ad o)), (1, .int a1)]) rfl ?_
  obtain ⟨y10, s11, h9, h⟩ := bd2_inv h
  refine w_sub (pc := 4) [2, 3, 1, 0] rfl (WL7_bestFact_4 X o a1 k_o FU (0 : Int32) (1 : Int32) s y10 s11 h9 ?_)
  refine w_iload_n (pc := 30) X dX7_bestFact_30 0 rfl ?_
  cases h
  exact w_iret X hQ dX7_bestFact_31
set_option maxRecDepth 20000 in
theorem M8_tell {o : Nat} {a1 : Int32} {s : Sto} {r : Int32} {σ' : Sto} (h : f8_tell o a1 s = some (r, σ')) : Ct yX8_tell cX8_tell 3 (some .int) 6 134 (fun ad => [.ref (ad o), .int a1]) s (fun ad => some (.int r)) σ' := by
  unfold f8_tell at h
  obtain ⟨k_o, h⟩ := gd_inv h
  refine Ct_of (by decide) (fun ad => Nat.le_of_ble_eq_true rfl) (fun φ ad X hQ => ?_)
  show wpm φ ad 0 [(0, .ref (ad o)), (1, .int a1)] [] s
  replace X : Cx φ ad cX8_tell (some .int) RX8 3 6 134 := X
  refine w_iload_n (pc := 0) X dX8_tell_0 1 rfl ?_
  refine w_iconst (pc := 1) X dX8_tell_1 (v := 0) rfl ?_
  refine w_iconst (pc := 2) X dX8_tell_2 (v := 1) rfl ?_
  obtain ⟨r3, s1, h2, h⟩ := bd2_inv h
  refine w_callS (pc := 3) X dX8_tell_3 (M8_isWithin h2) rfl cw_8_64 ⟨Nat.le_of_ble_eq_true rfl, Nat.le_of_ble_eq_true rfl⟩ rfl rfl (Nat.le_of_ble_eq_true rfl) ?_
  show wpm φ ad 6 [(0, .ref (ad o)), (1, .int a1)] [.int r3] s1
  refine w_if_ne (pc := 6) (tgt := 12) X dX8_tell_6 (by decide) (fun c16 => ?_) (fun c16 => ?_)
  · replace h := it_neg c16 h
    refine w_aload_n (pc := 12) X dX8_tell_12 0 rfl ?_
    obtain ⟨r6, s4, h5, h⟩ := bd2_inv h
    refine w_callV (pc := 13) X dX8_tell_13 (M8_surveyWorlds h5) k_o (by decide) rfl cw_8_169 ⟨Nat.le_of_ble_eq_true rfl, Nat.le_of_ble_eq_true rfl⟩ rfl rfl (Nat.le_of_ble_eq_true rfl) ?_
    show wpm φ ad 16 [(0, .ref (ad o)), (1, .int a1)] [.int r6] s4
    refine w_if_ne (pc := 16) (tgt := 22) X dX8_tell_16 (by decide) (fun c15 => ?_) (fun c15 => ?_)
    · replace h := it_neg c15 h
      refine w_aload_n (pc := 22) X dX8_tell_22 0 rfl ?_
      refine w_getR (pc := 23) X dX8_tell_23 clO_8 k_o 6 (by decide) (d := 37) rfl fl_8_46 ?_
      refine w_getI (pc := 26) X dX8_tell_26 clO_7 (kp_8_37 k_o) 0 (by decide) rfl fl_8_173 ?_
      refine w_if_ne (pc := 29) (tgt := 35) X dX8_tell_29 (by decide) (fun c14 => ?_) (fun c14 => ?_)
      · replace h := it_neg c14 h
        refine w_aload_n (pc := 35) X dX8_tell_35 0 rfl ?_
        refine w_getR (pc := 36) X dX8_tell_36 clO_8 k_o 6 (by decide) (d := 37) rfl fl_8_46 ?_
        refine w_aload_n (pc := 39) X dX8_tell_39 0 rfl ?_
        refine w_getR (pc := 40) X dX8_tell_40 clO_8 k_o 0 (by decide) (d := 1) rfl fl_8_10 ?_
        refine w_getI (pc := 43) X dX8_tell_43 clO_0 (kp_8_1 k_o) 0 (by decide) rfl fl_8_68 ?_
        obtain ⟨r9, s7, h8, h⟩ := bd2_inv h
        refine w_callV (pc := 46) X dX8_tell_46 (M7_bestFact h8) (kp_8_37 k_o) (by decide) rfl cw_8_183 ⟨Nat.le_of_ble_eq_true rfl, Nat.le_of_ble_eq_true rfl⟩ rfl rfl (Nat.le_of_ble_eq_true rfl) ?_
        show wpm φ ad 49 [(0, .ref (ad o)), (1, .int a1)] [.int r9] s7
        refine w_istore_n (pc := 49) X dX8_tell_49 2 rfl (by decide) (lv' := [(2, .int r9), (0, .ref (ad o)), (1, .int a1)]) rfl ?_
        refine w_iload_n (pc := 50) X dX8_tell_50 2 rfl ?_
        refine w_if_ne (pc := 51) (tgt := 58) X dX8_tell_51 (by decide) (fun c13 => ?_) (fun c13 => ?_)
        · replace h := it_neg c13 h
          refine w_aload_n (pc := 58) X dX8_tell_58 1 rfl ?_
          refine w_getR (pc := 59) X dX8_tell_59 clO_8 k_o 6 (by decide) (d := 37) rfl fl_8_46 ?_
          refine w_iload_n (pc := 62) X dX8_tell_62 0 rfl ?_
          obtain ⟨r12, s10, h11, h⟩ := bd2_inv h
          refine w_callV (pc := 63) X dX8_tell_63 (M7_leftAtMost h11) (kp_8_37 k_o) (by decide) rfl cw_8_186 ⟨Nat.le_of_ble_eq_true rfl, Nat.le_of_ble_eq_true rfl⟩ rfl rfl (Nat.le_of_ble_eq_true rfl) ?_
          show wpm φ ad 66 [(2, .int r9), (0, .ref (ad o)), (1, .int a1)] [.int r12] s10
          cases h
          exact w_iret X hQ dX8_tell_66
        · replace h := it_pos c13 h
          refine w_iload_n (pc := 54) X dX8_tell_54 0 rfl ?_
          refine w_goto (tgt := 66) (pc := 55) X dX8_tell_55 (by decide) ?_
          cases h
          exact w_iret X hQ dX8_tell_66
      · replace h := it_pos c14 h
        refine w_bipush (pc := 32) X dX8_tell_32 (v := (-6)) rfl ?_
        cases h
        exact w_iret X hQ dX8_tell_34
    · replace h := it_pos c15 h
      refine w_bipush (pc := 19) X dX8_tell_19 (v := (-5)) rfl ?_
      cases h
      exact w_iret X hQ dX8_tell_21
  · replace h := it_pos c16 h
    refine w_bipush (pc := 9) X dX8_tell_9 (v := (-2)) rfl ?_
    cases h
    exact w_iret X hQ dX8_tell_11
set_option maxRecDepth 20000 in
theorem WL1_habitOf_5 {φ : Fr} {ad : Nat → Nat} (X : Cx φ ad cX1_habitOf (some .int) RX1 6 1 22) (o : Nat) (a1 : Int32) (a2 : Int32) (k_o : kd o = 1) : ∀ (fuel : Nat) (v3 : Int32) (v4 : Int32) (s : Sto) (t3 : Int32) (t : Sto), L1_habitOf_5 o a1 a2 fuel v3 v4 s = some (t3, t) → wpm φ ad 65 [(3, .int t3)] [] t → wpm φ ad 5 [(0, .ref (ad o)), (1, .int a1), (2, .int a2), (3, .int v3), (4, .int v4)] [] s := by
  intro fuel
  induction fuel with
  | zero => intro v3 v4 s t3 t h; cases h
  | succ fuel ih =>
    intro v3 v4 s t3 t h K
    unfold L1_habitOf_5 at h
    refine w_iload (pc := 5) X dX1_habitOf_5 4 rfl ?_
    refine w_aload_n (pc := 7) X dX1_habitOf_7 0 rfl ?_
    refine w_getI (pc := 8) X dX1_habitOf_8 clO_1 k_o 1 (by decide) rfl fl_1_15 ?_
    refine w_icmp_ge (pc := 11) (tgt := 65) X dX1_habitOf_11 (by decide) (fun c16 => ?_) (fun c16 => ?_)
    · replace h := it_pos c16 h
      cases h
      exact w_sub (pc := 65) [3] rfl K
    · replace h := it_neg c16 h
      refine w_aload_n (pc := 14) X dX1_habitOf_14 0 rfl ?_
      refine w_getR (pc := 15) X dX1_habitOf_15 clO_1 k_o 0 (by decide) (d := 1) rfl fl_1_9 ?_
      refine w_iload (pc := 18) X dX1_habitOf_18 4 rfl ?_
      obtain ⟨r3, s1, h2, h⟩ := bd2_inv h
      refine w_callSN (pc := 20) X dX1_habitOf_20 (M8_at h2) mn_1_41 cw_1_41 ⟨Nat.le_of_ble_eq_true rfl, Nat.le_of_ble_eq_true rfl⟩ rfl rfl (Nat.le_of_ble_eq_true rfl) ?_
      show wpm φ ad 23 [(0, .ref (ad o)), (1, .int a1), (2, .int a2), (3, .int v3), (4, .int v4)] [.int r3] s1
      refine w_istore (pc := 23) X dX1_habitOf_23 (by decide) (lv' := [(5, .int r3), (0, .ref (ad o)), (1, .int a1), (2, .int a2), (3, .int v3), (4, .int v4)]) rfl ?_
      refine w_iload (pc := 25) X dX1_habitOf_25 0 rfl ?_
      obtain ⟨r6, s4, h5, h⟩ := bd2_inv h
      refine w_callSN (pc := 27) X dX1_habitOf_27 (M8_isSpoken h5) mn_1_94 cw_1_94 ⟨Nat.le_of_ble_eq_true rfl, Nat.le_of_ble_eq_true rfl⟩ rfl rfl (Nat.le_of_ble_eq_true rfl) ?_
      show wpm φ ad 30 [(5, .int r3), (0, .ref (ad o)), (1, .int a1), (2, .int a2), (3, .int v3), (4, .int v4)] [.int r6] s4
      refine w_if_eq (pc := 30) (tgt := 59) X dX1_habitOf_30 (by decide) (fun c15 => ?_) (fun c15 => ?_)
      · replace h := it_pos c15 h
        refine w_iinc (pc := 59) X dX1_habitOf_59 5 rfl (v := (v4 + 1)) rfl (by decide) (lv' := [(4, .int (v4 + 1)), (5, .int r3), (0, .ref (ad o)), (1, .int a1), (2, .int a2), (3, .int v3)]) rfl ?_
        refine w_goto (tgt := 5) (pc := 62) X dX1_habitOf_62 (by decide) ?_
        exact w_sub (pc := 5) [2, 3, 4, 5, 0] rfl (ih _ _ _ _ _ h K)
      · replace h := it_neg c15 h
        refine w_iload (pc := 33) X dX1_habitOf_33 0 rfl ?_
        obtain ⟨r9, s7, h8, h⟩ := bd2_inv h
        refine w_callSN (pc := 35) X dX1_habitOf_35 (M8_guestOf h8) mn_1_97 cw_1_97 ⟨Nat.le_of_ble_eq_true rfl, Nat.le_of_ble_eq_true rfl⟩ rfl rfl (Nat.le_of_ble_eq_true rfl) ?_
        show wpm φ ad 38 [(5, .int r3), (0, .ref (ad o)), (1, .int a1), (2, .int a2), (3, .int v3), (4, .int v4)] [.int r9] s7
        refine w_iload_n (pc := 38) X dX1_habitOf_38 2 rfl ?_
        refine w_icmp_ne (pc := 39) (tgt := 59) X dX1_habitOf_39 (by decide) (fun c14 => ?_) (fun c14 => ?_)
        · replace h := it_neg c14 h
          refine w_iinc (pc := 59) X dX1_habitOf_59 5 rfl (v := (v4 + 1)) rfl (by decide) (lv' := [(4, .int (v4 + 1)), (5, .int r3), (0, .ref (ad o)), (1, .int a1), (2, .int a2), (3, .int v3)]) rfl ?_
          refine w_goto (tgt := 5) (pc := 62) X dX1_habitOf_62 (by decide) ?_
          exact w_sub (pc := 5) [2, 3, 4, 5, 0] rfl (ih _ _ _ _ _ h K)
        · replace h := it_pos c14 h
          refine w_iload_n (pc := 42) X dX1_habitOf_42 4 rfl ?_
          refine w_iload (pc := 43) X dX1_habitOf_43 0 rfl ?_
          refine w_iload_n (pc := 45) X dX1_habitOf_45 3 rfl ?_
          obtain ⟨r12, s10, h11, h⟩ := bd2_inv h
          refine w_callSN (pc := 46) X dX1_habitOf_46 (M8_isTrue h11) mn_1_100 cw_1_100 ⟨Nat.le_of_ble_eq_true rfl, Nat.le_of_ble_eq_true rfl⟩ rfl rfl (Nat.le_of_ble_eq_true rfl) ?_
          show wpm φ ad 49 [(5, .int r3), (0, .ref (ad o)), (1, .int a1), (2, .int a2), (3, .int v3), (4, .int v4)] [.int r12, .int v3] s10
          refine w_if_eq (pc := 49) (tgt := 56) X dX1_habitOf_49 (by decide) (fun c13 => ?_) (fun c13 => ?_)
          · replace h := it_pos c13 h
            refine w_iconst (pc := 56) X dX1_habitOf_56 (v := 2) rfl ?_
            refine w_ior (pc := 57) X dX1_habitOf_57 ?_
            refine w_istore_n (pc := 58) X dX1_habitOf_58 3 rfl (by decide) (lv' := [(3, .int (v3 ||| (2 : Int32))), (5, .int r3), (0, .ref (ad o)), (1, .int a1), (2, .int a2), (4, .int v4)]) rfl ?_
            refine w_iinc (pc := 59) X dX1_habitOf_59 5 rfl (v := (v4 + 1)) rfl (by decide) (lv' := [(4, .int (v4 + 1)), (3, .int (v3 ||| (2 : Int32))), (5, .int r3), (0, .ref (ad o)), (1, .int a1), (2, .int a2)]) rfl ?_
            refine w_goto (tgt := 5) (pc := 62) X dX1_habitOf_62 (by decide) ?_
            exact w_sub (pc := 5) [3, 4, 5, 1, 0] rfl (ih _ _ _ _ _ h K)
          · replace h := it_neg c13 h
            refine w_iconst (pc := 52) X dX1_habitOf_52 (v := 1) rfl ?_
            refine w_goto (tgt := 57) (pc := 53) X dX1_habitOf_53 (by decide) ?_
            refine w_ior (pc := 57) X dX1_habitOf_57 ?_
            refine w_istore_n (pc := 58) X dX1_habitOf_58 3 rfl (by decide) (lv' := [(3, .int (v3 ||| (1 : Int32))), (5, .int r3), (0, .ref (ad o)), (1, .int a1), (2, .int a2), (4, .int v4)]) rfl ?_
            refine w_iinc (pc := 59) X dX1_habitOf_59 5 rfl (v := (v4 + 1)) rfl (by decide) (lv' := [(4, .int (v4 + 1)), (3, .int (v3 ||| (1 : Int32))), (5, .int r3), (0, .ref (ad o)), (1, .int a1), (2, .int a2)]) rfl ?_
            refine w_goto (tgt := 5) (pc := 62) X dX1_habitOf_62 (by decide) ?_
            exact w_sub (pc := 5) [3, 4, 5, 1, 0] rfl (ih _ _ _ _ _ h K)
set_option maxRecDepth 20000 in
theorem M1_habitOf {o : Nat} {a1 : Int32} {a2 : Int32} {s : Sto} {r : Int32} {σ' : Sto} (h : f1_habitOf o a1 a2 s = some (r, σ')) : Ct yX1_habitOf cX1_habitOf 6 (some .int) 1 22 (fun ad => [.ref (ad o), .int a1, .int a2]) s (fun ad => some (.int r)) σ' := by
  unfold f1_habitOf at h
  obtain ⟨k_o, h⟩ := gd_inv h
  refine Ct_of (by decide) (fun ad => Nat.le_of_ble_eq_true rfl) (fun φ ad X hQ => ?_)
  show wpm φ ad 0 [(0, .ref (ad o)), (1, .int a1), (2, .int a2)] [] s
  replace X : Cx φ ad cX1_habitOf (some .int) RX1 6 1 22 := X
  refine w_iconst (pc := 0) X dX1_habitOf_0 (v := 0) rfl ?_
  refine w_istore_n (pc := 1) X dX1_habitOf_1 3 rfl (by decide) (lv' := [(3, .int (0 : Int32)), (0, .ref (ad o)), (1, .int a1), (2, .int a2)]) rfl ?_
  refine w_iconst (pc := 2) X dX1_habitOf_2 (v := 0) rfl ?_
  refine w_istore (pc := 3) X dX1_habitOf_3 (by decide) (lv' := [(4, .int (0 : Int32)), (3, .int (0 : Int32)), (0, .ref (ad o)), (1, .int a1), (2, .int a2)]) rfl ?_
  obtain ⟨y18, s19, h17, h⟩ := bd2_inv h
  refine w_sub (pc := 5) [2, 3, 4, 1, 0] rfl (WL1_habitOf_5 X o a1 a2 k_o FU (0 : Int32) (0 : Int32) s y18 s19 h17 ?_)
  refine w_iload_n (pc := 65) X dX1_habitOf_65 0 rfl ?_
  cases h
  exact w_iret X hQ dX1_habitOf_66
set_option maxRecDepth 20000 in
theorem M8_says {o : Nat} {a1 : Int32} {s : Sto} {r : Int32} {σ' : Sto} (h : f8_says o a1 s = some (r, σ')) : Ct yX8_says cX8_says 2 (some .int) 3 70 (fun ad => [.ref (ad o), .int a1]) s (fun ad => some (.int r)) σ' := by
  unfold f8_says at h
  obtain ⟨k_o, h⟩ := gd_inv h
  refine Ct_of (by decide) (fun ad => Nat.le_of_ble_eq_true rfl) (fun φ ad X hQ => ?_)
  show wpm φ ad 0 [(0, .ref (ad o)), (1, .int a1)] [] s
  replace X : Cx φ ad cX8_says (some .int) RX8 2 3 70 := X
  refine w_iload_n (pc := 0) X dX8_says_0 1 rfl ?_
  obtain ⟨r3, s1, h2, h⟩ := bd2_inv h
  refine w_callS (pc := 1) X dX8_says_1 (M8_isGuest h2) rfl cw_8_79 ⟨Nat.le_of_ble_eq_true rfl, Nat.le_of_ble_eq_true rfl⟩ rfl rfl (Nat.le_of_ble_eq_true rfl) ?_
  show wpm φ ad 4 [(0, .ref (ad o)), (1, .int a1)] [.int r3] s1
  refine w_if_ne (pc := 4) (tgt := 9) X dX8_says_4 (by decide) (fun c11 => ?_) (fun c11 => ?_)
  · replace h := it_neg c11 h
    refine w_aload_n (pc := 9) X dX8_says_9 0 rfl ?_
    refine w_getR (pc := 10) X dX8_says_10 clO_8 k_o 4 (by decide) (d := 27) rfl fl_8_32 ?_
    refine w_aload_n (pc := 13) X dX8_says_13 0 rfl ?_
    refine w_getR (pc := 14) X dX8_says_14 clO_8 k_o 3 (by decide) (d := 25) rfl fl_8_25 ?_
    refine w_aload_n (pc := 17) X dX8_says_17 0 rfl ?_
    refine w_getR (pc := 18) X dX8_says_18 clO_8 k_o 0 (by decide) (d := 1) rfl fl_8_10 ?_
    refine w_getI (pc := 21) X dX8_says_21 clO_0 (kp_8_1 k_o) 0 (by decide) rfl fl_8_68 ?_
    obtain ⟨r6, s4, h5, h⟩ := bd2_inv h
    refine w_callV (pc := 24) X dX8_says_24 (M1_read h5) (kp_8_27 k_o) (by decide) rfl cw_8_110 ⟨Nat.le_of_ble_eq_true rfl, Nat.le_of_ble_eq_true rfl⟩ rfl rfl (Nat.le_of_ble_eq_true rfl) ?_
    show wpm φ ad 27 [(0, .ref (ad o)), (1, .int a1)] [.int r6] s4
    refine w_bipush (pc := 27) X dX8_says_27 (v := (-6)) rfl ?_
    refine w_icmp_eq (pc := 29) (tgt := 35) X dX8_says_29 (by decide) (fun c10 => ?_) (fun c10 => ?_)
    · replace h := it_pos c10 h
      refine w_aload_n (pc := 35) X dX8_says_35 0 rfl ?_
      refine w_getR (pc := 36) X dX8_says_36 clO_8 k_o 4 (by decide) (d := 27) rfl fl_8_32 ?_
      refine w_iload_n (pc := 39) X dX8_says_39 1 rfl ?_
      refine w_aload_n (pc := 40) X dX8_says_40 0 rfl ?_
      refine w_getR (pc := 41) X dX8_says_41 clO_8 k_o 0 (by decide) (d := 1) rfl fl_8_10 ?_
      refine w_getI (pc := 44) X dX8_says_44 clO_0 (kp_8_1 k_o) 1 (by decide) rfl fl_8_76 ?_
      obtain ⟨r9, s7, h8, h⟩ := bd2_inv h
      refine w_callV (pc := 47) X dX8_says_47 (M1_habitOf h8) (kp_8_27 k_o) (by decide) rfl cw_8_189 ⟨Nat.le_of_ble_eq_true rfl, Nat.le_of_ble_eq_true rfl⟩ rfl rfl (Nat.le_of_ble_eq_true rfl) ?_
      show wpm φ ad 50 [(0, .ref (ad o)), (1, .int a1)] [.int r9] s7
      cases h
      exact w_iret X hQ dX8_says_50
    · replace h := it_neg c10 h
      refine w_bipush (pc := 32) X dX8_says_32 (v := (-5)) rfl ?_
      cases h
      exact w_iret X hQ dX8_says_34
  · replace h := it_pos c11 h
    refine w_iconst (pc := 7) X dX8_says_7 (v := (-1)) rfl ?_
    cases h
    exact w_iret X hQ dX8_says_8
set_option maxRecDepth 20000 in
theorem M8_areOrders {a0 : Int32} {a1 : Int32} {a2 : Int32} {s : Sto} {r : Int32} {σ' : Sto} (h : f8_areOrders a0 a1 a2 s = some (r, σ')) : Ct yX8_areOrders cX8_areOrders 3 (some .boolean) 1 22 (fun ad => [.int a0, .int a1, .int a2]) s (fun ad => some (.int r)) σ' := by
  unfold f8_areOrders at h
  refine Ct_of (by decide) (fun ad => Nat.le_of_ble_eq_true rfl) (fun φ ad X hQ => ?_)
  show wpm φ ad 0 [(0, .int a0), (1, .int a1), (2, .int a2)] [] s
  replace X : Cx φ ad cX8_areOrders (some .boolean) RX8 3 1 22 := X
  refine w_iload_n (pc := 0) X dX8_areOrders_0 0 rfl ?_
  refine w_iconst (pc := 1) X dX8_areOrders_1 (v := 0) rfl ?_
  refine w_bipush (pc := 2) X dX8_areOrders_2 (v := (12)) rfl ?_
  obtain ⟨r3, s1, h2, h⟩ := bd2_inv h
  refine w_callS (pc := 4) X dX8_areOrders_4 (M8_isWithin h2) rfl cw_8_64 ⟨Nat.le_of_ble_eq_true rfl, Nat.le_of_ble_eq_true rfl⟩ rfl rfl (Nat.le_of_ble_eq_true rfl) ?_
  show wpm φ ad 7 [(0, .int a0), (1, .int a1), (2, .int a2)] [.int r3] s1
  refine w_if_eq (pc := 7) (tgt := 34) X dX8_areOrders_7 (by decide) (fun c12 => ?_) (fun c12 => ?_)
  · replace h := it_pos c12 h
    refine w_iconst (pc := 34) X dX8_areOrders_34 (v := 0) rfl ?_
    cases h
    exact w_zret X hQ dX8_areOrders_35 (Or.inl rfl)
  · replace h := it_neg c12 h
    refine w_iload_n (pc := 10) X dX8_areOrders_10 1 rfl ?_
    refine w_iconst (pc := 11) X dX8_areOrders_11 (v := 0) rfl ?_
    refine w_bipush (pc := 12) X dX8_areOrders_12 (v := (12)) rfl ?_
    obtain ⟨r6, s4, h5, h⟩ := bd2_inv h
    refine w_callS (pc := 14) X dX8_areOrders_14 (M8_isWithin h5) rfl cw_8_64 ⟨Nat.le_of_ble_eq_true rfl, Nat.le_of_ble_eq_true rfl⟩ rfl rfl (Nat.le_of_ble_eq_true rfl) ?_
    show wpm φ ad 17 [(0, .int a0), (1, .int a1), (2, .int a2)] [.int r6] s4
    refine w_if_eq (pc := 17) (tgt := 34) X dX8_areOrders_17 (by decide) (fun c11 => ?_) (fun c11 => ?_)
    · replace h := it_pos c11 h
      refine w_iconst (pc := 34) X dX8_areOrders_34 (v := 0) rfl ?_
      cases h
      exact w_zret X hQ dX8_areOrders_35 (Or.inl rfl)
    · replace h := it_neg c11 h
      refine w_iload_n (pc := 20) X dX8_areOrders_20 2 rfl ?_
      refine w_iconst (pc := 21) X dX8_areOrders_21 (v := 0) rfl ?_
      refine w_bipush (pc := 22) X dX8_areOrders_22 (v := (30)) rfl ?_
      obtain ⟨r9, s7, h8, h⟩ := bd2_inv h
      refine w_callS (pc := 24) X dX8_areOrders_24 (M8_isWithin h8) rfl cw_8_64 ⟨Nat.le_of_ble_eq_true rfl, Nat.le_of_ble_eq_true rfl⟩ rfl rfl (Nat.le_of_ble_eq_true rfl) ?_
      show wpm φ ad 27 [(0, .int a0), (1, .int a1), (2, .int a2)] [.int r9] s7
      refine w_if_eq (pc := 27) (tgt := 34) X dX8_areOrders_27 (by decide) (fun c10 => ?_) (fun c10 => ?_)
      · replace h := it_pos c10 h
        refine w_iconst (pc := 34) X dX8_areOrders_34 (v := 0) rfl ?_
        cases h
        exact w_zret X hQ dX8_areOrders_35 (Or.inl rfl)
      · replace h := it_neg c10 h
        refine w_iconst (pc := 30) X dX8_areOrders_30 (v := 1) rfl ?_
        refine w_goto (tgt := 35) (pc := 31) X dX8_areOrders_31 (by decide) ?_
        cases h
        exact w_zret X hQ dX8_areOrders_35 (Or.inr rfl)
set_option maxRecDepth 20000 in
theorem M8_put_ {a0 : Nat} {a1 : Int32} {a2 : Int64} {s : Sto} {σ' : Sto} (h : f8_put_ a0 a1 a2 s = some σ') : Ct yX8_put_ cX8_put_ 4 none 0 0 (fun ad => [.ref (ad a0), .int a1, .long a2]) s (fun _ => none) σ' := by
  unfold f8_put_ at h
  obtain ⟨k_a0, h⟩ := gd_inv h
  refine Ct_of (by decide) (fun ad => Nat.le_of_ble_eq_true rfl) (fun φ ad X hQ => ?_)
  show wpm φ ad 0 [(0, .ref (ad a0)), (1, .int a1), (2, .long a2)] [] s
  replace X : Cx φ ad cX8_put_ none RX8 4 0 0 := X
  refine w_iload_n (pc := 0) X dX8_put__0 1 rfl ?_
  refine w_if_lt (pc := 1) (tgt := 14) X dX8_put__1 (by decide) (fun c4 => ?_) (fun c4 => ?_)
  · replace h := it_pos c4 h
    cases h
    exact w_vret X hQ dX8_put__14
  · replace h := it_neg c4 h
    refine w_iload_n (pc := 4) X dX8_put__4 1 rfl ?_
    refine w_aload_n (pc := 5) X dX8_put__5 0 rfl ?_
    refine w_alenJ (pc := 6) X dX8_put__6 k_a0 ?_
    refine w_icmp_ge (pc := 7) (tgt := 14) X dX8_put__7 (by decide) (fun c3 => ?_) (fun c3 => ?_)
    · replace h := it_pos c3 h
      cases h
      exact w_vret X hQ dX8_put__14
    · replace h := it_neg c3 h
      refine w_aload_n (pc := 10) X dX8_put__10 0 rfl ?_
      refine w_iload_n (pc := 11) X dX8_put__11 1 rfl ?_
      refine w_lload_n (pc := 12) X dX8_put__12 2 rfl ?_
      obtain ⟨g1, h⟩ := gd_inv h
      refine w_last (pc := 13) X dX8_put__13 k_a0 g1 ?_
      obtain ⟨s2, e_s2, h⟩ := nm_inv h
      refine w_nm e_s2 ?_
      cases h
      exact w_vret X hQ dX8_put__14
set_option maxRecDepth 20000 in
theorem M8_at_ {a0 : Nat} {a1 : Int32} {s : Sto} {r : Int64} {σ' : Sto} (h : f8_at_ a0 a1 s = some (r, σ')) : Ct yX8_at_ cX8_at_ 2 (some .long) 0 0 (fun ad => [.ref (ad a0), .int a1]) s (fun ad => some (.long r)) σ' := by
  unfold f8_at_ at h
  obtain ⟨k_a0, h⟩ := gd_inv h
  refine Ct_of (by decide) (fun ad => Nat.le_of_ble_eq_true rfl) (fun φ ad X hQ => ?_)
  show wpm φ ad 0 [(0, .ref (ad a0)), (1, .int a1)] [] s
  replace X : Cx φ ad cX8_at_ (some .long) RX8 2 0 0 := X
  refine w_iload_n (pc := 0) X dX8_at__0 1 rfl ?_
  refine w_if_lt (pc := 1) (tgt := 16) X dX8_at__1 (by decide) (fun c3 => ?_) (fun c3 => ?_)
  · replace h := it_pos c3 h
    refine w_lconst (pc := 16) X dX8_at__16 (v := 0) rfl ?_
    cases h
    exact w_lret X hQ dX8_at__17
  · replace h := it_neg c3 h
    refine w_iload_n (pc := 4) X dX8_at__4 1 rfl ?_
    refine w_aload_n (pc := 5) X dX8_at__5 0 rfl ?_
    refine w_alenJ (pc := 6) X dX8_at__6 k_a0 ?_
    refine w_icmp_ge (pc := 7) (tgt := 16) X dX8_at__7 (by decide) (fun c2 => ?_) (fun c2 => ?_)
    · replace h := it_pos c2 h
      refine w_lconst (pc := 16) X dX8_at__16 (v := 0) rfl ?_
      cases h
      exact w_lret X hQ dX8_at__17
    · replace h := it_neg c2 h
      refine w_aload_n (pc := 10) X dX8_at__10 0 rfl ?_
      refine w_iload_n (pc := 11) X dX8_at__11 1 rfl ?_
      obtain ⟨g1, h⟩ := gd_inv h
      refine w_lald (pc := 12) X dX8_at__12 k_a0 g1 ?_
      refine w_goto (tgt := 17) (pc := 13) X dX8_at__13 (by decide) ?_
      cases h
      exact w_lret X hQ dX8_at__17
set_option maxRecDepth 20000 in
theorem WL4_raise_3 {φ : Fr} {ad : Nat → Nat} (X : Cx φ ad cX4_raise none RX4 3 1 23) (o : Nat) (a1 : Int32) (k_o : kd o = 4) : ∀ (fuel : Nat) (v2 : Int32) (s : Sto)  (t : Sto), L4_raise_3 o a1 fuel v2 s = some (t) → wpm φ ad 35 [(0, .ref (ad o)), (1, .int a1)] [] t → wpm φ ad 3 [(0, .ref (ad o)), (1, .int a1), (2, .int v2)] [] s := by
  intro fuel
  induction fuel with
  | zero => intro v2 s t h; cases h
  | succ fuel ih =>
    intro v2 s t h K
    unfold L4_raise_3 at h
    refine w_iload_n (pc := 3) X dX4_raise_3 2 rfl ?_
    refine w_if_le (pc := 4) (tgt := 35) X dX4_raise_4 (by decide) (fun c6 => ?_) (fun c6 => ?_)
    · replace h := it_pos c6 h
      cases h
      exact w_sub (pc := 35) [0, 1] rfl K
    · replace h := it_neg c6 h
      refine w_aload_n (pc := 7) X dX4_raise_7 0 rfl ?_
      refine w_getR (pc := 8) X dX4_raise_8 clO_4 k_o 0 (by decide) (d := 1) rfl fl_4_11 ?_
      refine w_iload_n (pc := 11) X dX4_raise_11 1 rfl ?_
      refine w_iload_n (pc := 12) X dX4_raise_12 2 rfl ?_
      refine w_iadd (pc := 13) X dX4_raise_13 ?_
      refine w_aload_n (pc := 14) X dX4_raise_14 0 rfl ?_
      refine w_getR (pc := 15) X dX4_raise_15 clO_4 k_o 0 (by decide) (d := 1) rfl fl_4_11 ?_
      refine w_iload_n (pc := 18) X dX4_raise_18 1 rfl ?_
      refine w_iload_n (pc := 19) X dX4_raise_19 2 rfl ?_
      refine w_iadd (pc := 20) X dX4_raise_20 ?_
      refine w_iconst (pc := 21) X dX4_raise_21 (v := 1) rfl ?_
      refine w_isub (pc := 22) X dX4_raise_22 ?_
      obtain ⟨r3, s1, h2, h⟩ := bd2_inv h
      refine w_callSN (pc := 23) X dX4_raise_23 (M8_at_ h2) mn_4_27 cw_4_27 ⟨Nat.le_of_ble_eq_true rfl, Nat.le_of_ble_eq_true rfl⟩ rfl rfl (Nat.le_of_ble_eq_true rfl) ?_
      show wpm φ ad 26 [(0, .ref (ad o)), (1, .int a1), (2, .int v2)] [.long r3, .int (a1 + v2), .ref (ad (o + 1))] s1
      obtain ⟨s4, h5, h⟩ := bd1_inv h
      refine w_callSN (pc := 26) X dX4_raise_26 (M8_put_ h5) mn_4_15 cw_4_15 ⟨Nat.le_of_ble_eq_true rfl, Nat.le_of_ble_eq_true rfl⟩ rfl rfl (Nat.le_of_ble_eq_true rfl) ?_
      show wpm φ ad 29 [(0, .ref (ad o)), (1, .int a1), (2, .int v2)] [] s4
      refine w_iinc (pc := 29) X dX4_raise_29 2 rfl (v := (v2 + (-1))) rfl (by decide) (lv' := [(2, .int (v2 + (-1))), (0, .ref (ad o)), (1, .int a1)]) rfl ?_
      refine w_goto (tgt := 3) (pc := 32) X dX4_raise_32 (by decide) ?_
      exact w_sub (pc := 3) [1, 2, 0] rfl (ih _ _ _ h K)
set_option maxRecDepth 20000 in
theorem M4_raise {o : Nat} {a1 : Int32} {s : Sto} {σ' : Sto} (h : f4_raise o a1 s = some σ') : Ct yX4_raise cX4_raise 3 none 1 23 (fun ad => [.ref (ad o), .int a1]) s (fun _ => none) σ' := by
  unfold f4_raise at h
  obtain ⟨k_o, h⟩ := gd_inv h
  refine Ct_of (by decide) (fun ad => Nat.le_of_ble_eq_true rfl) (fun φ ad X hQ => ?_)
  show wpm φ ad 0 [(0, .ref (ad o)), (1, .int a1)] [] s
  replace X : Cx φ ad cX4_raise none RX4 3 1 23 := X
  refine w_bipush (pc := 0) X dX4_raise_0 (v := (42)) rfl ?_
  refine w_istore_n (pc := 2) X dX4_raise_2 2 rfl (by decide) (lv' := [(2, .int (42 : Int32)), (0, .ref (ad o)), (1, .int a1)]) rfl ?_
  obtain ⟨s8, h7, h⟩ := bd1_inv h
  refine w_sub (pc := 3) [1, 2, 0] rfl (WL4_raise_3 X o a1 k_o FU (42 : Int32) s s8 h7 ?_)
  refine w_aload_n (pc := 35) X dX4_raise_35 0 rfl ?_
  refine w_getR (pc := 36) X dX4_raise_36 clO_4 k_o 0 (by decide) (d := 1) rfl fl_4_11 ?_
  refine w_iload_n (pc := 39) X dX4_raise_39 1 rfl ?_
  refine w_lconst (pc := 40) X dX4_raise_40 (v := 0) rfl ?_
  obtain ⟨s9, h10, h⟩ := bd1_inv h
  refine w_callSN (pc := 41) X dX4_raise_41 (M8_put_ h10) mn_4_15 cw_4_15 ⟨Nat.le_of_ble_eq_true rfl, Nat.le_of_ble_eq_true rfl⟩ rfl rfl (Nat.le_of_ble_eq_true rfl) ?_
  show wpm φ ad 44 [(0, .ref (ad o)), (1, .int a1)] [] s9
  cases h
  exact w_vret X hQ dX4_raise_44
set_option maxRecDepth 20000 in
theorem WL4_addDropped_2 {φ : Fr} {ad : Nat → Nat} (X : Cx φ ad cX4_addDropped none RX4 5 1 23) (o : Nat) (a1 : Int32) (a2 : Int32) (k_o : kd o = 4) : ∀ (fuel : Nat) (v3 : Int32) (s : Sto)  (t : Sto), L4_addDropped_2 o a1 a2 fuel v3 s = some (t) → wpm φ ad 54 [] [] t → wpm φ ad 2 [(0, .ref (ad o)), (1, .int a1), (2, .int a2), (3, .int v3)] [] s := by
  intro fuel
  induction fuel with
  | zero => intro v3 s t h; cases h
  | succ fuel ih =>
    intro v3 s t h K
    unfold L4_addDropped_2 at h
    refine w_iload_n (pc := 2) X dX4_addDropped_2 3 rfl ?_
    refine w_bipush (pc := 3) X dX4_addDropped_3 (v := (43)) rfl ?_
    refine w_icmp_ge (pc := 5) (tgt := 54) X dX4_addDropped_5 (by decide) (fun c10 => ?_) (fun c10 => ?_)
    · replace h := it_pos c10 h
      cases h
      exact w_sub (pc := 54) [] rfl K
    · replace h := it_neg c10 h
      refine w_iload_n (pc := 8) X dX4_addDropped_8 2 rfl ?_
      refine w_iconst (pc := 9) X dX4_addDropped_9 (v := 0) rfl ?_
      refine w_iload_n (pc := 10) X dX4_addDropped_10 3 rfl ?_
      refine w_iconst (pc := 11) X dX4_addDropped_11 (v := 1) rfl ?_
      refine w_isub (pc := 12) X dX4_addDropped_12 ?_
      refine w_mmax (pc := 13) X dX4_addDropped_13 cw_4_31 ⟨Nat.le_of_ble_eq_true rfl, Nat.le_of_ble_eq_true rfl⟩ ?_
      obtain ⟨x1, e_x1, h⟩ := nm_inv h
      refine w_nmi e_x1 ?_
      refine w_iadd (pc := 16) X dX4_addDropped_16 ?_
      refine w_istore (pc := 17) X dX4_addDropped_17 (by decide) (lv' := [(4, .int (a2 + x1)), (0, .ref (ad o)), (1, .int a1), (2, .int a2), (3, .int v3)]) rfl ?_
      refine w_aload_n (pc := 19) X dX4_addDropped_19 1 rfl ?_
      refine w_getR (pc := 20) X dX4_addDropped_20 clO_4 k_o 0 (by decide) (d := 1) rfl fl_4_11 ?_
      refine w_iload (pc := 23) X dX4_addDropped_23 0 rfl ?_
      refine w_aload_n (pc := 25) X dX4_addDropped_25 1 rfl ?_
      refine w_getR (pc := 26) X dX4_addDropped_26 clO_4 k_o 0 (by decide) (d := 1) rfl fl_4_11 ?_
      refine w_iload (pc := 29) X dX4_addDropped_29 0 rfl ?_
      obtain ⟨r4, s2, h3, h⟩ := bd2_inv h
      refine w_callSN (pc := 31) X dX4_addDropped_31 (M8_at_ h3) mn_4_27 cw_4_27 ⟨Nat.le_of_ble_eq_true rfl, Nat.le_of_ble_eq_true rfl⟩ rfl rfl (Nat.le_of_ble_eq_true rfl) ?_
      show wpm φ ad 34 [(4, .int (a2 + x1)), (0, .ref (ad o)), (1, .int a1), (2, .int a2), (3, .int v3)] [.long r4, .int (a2 + x1), .ref (ad (o + 1))] s2
      refine w_aload_n (pc := 34) X dX4_addDropped_34 1 rfl ?_
      refine w_getR (pc := 35) X dX4_addDropped_35 clO_4 k_o 0 (by decide) (d := 1) rfl fl_4_11 ?_
      refine w_iload_n (pc := 38) X dX4_addDropped_38 2 rfl ?_
      refine w_iload_n (pc := 39) X dX4_addDropped_39 4 rfl ?_
      refine w_iadd (pc := 40) X dX4_addDropped_40 ?_
      obtain ⟨r7, s5, h6, h⟩ := bd2_inv h
      refine w_callSN (pc := 41) X dX4_addDropped_41 (M8_at_ h6) mn_4_27 cw_4_27 ⟨Nat.le_of_ble_eq_true rfl, Nat.le_of_ble_eq_true rfl⟩ rfl rfl (Nat.le_of_ble_eq_true rfl) ?_
      show wpm φ ad 44 [(4, .int (a2 + x1)), (0, .ref (ad o)), (1, .int a1), (2, .int a2), (3, .int v3)] [.long r7, .long r4, .int (a2 + x1), .ref (ad (o + 1))] s5
      refine w_ladd (pc := 44) X dX4_addDropped_44 ?_
      obtain ⟨s8, h9, h⟩ := bd1_inv h
      refine w_callSN (pc := 45) X dX4_addDropped_45 (M8_put_ h9) mn_4_15 cw_4_15 ⟨Nat.le_of_ble_eq_true rfl, Nat.le_of_ble_eq_true rfl⟩ rfl rfl (Nat.le_of_ble_eq_true rfl) ?_
      show wpm φ ad 48 [(4, .int (a2 + x1)), (0, .ref (ad o)), (1, .int a1), (2, .int a2), (3, .int v3)] [] s8
      refine w_iinc (pc := 48) X dX4_addDropped_48 4 rfl (v := (v3 + 1)) rfl (by decide) (lv' := [(3, .int (v3 + 1)), (4, .int (a2 + x1)), (0, .ref (ad o)), (1, .int a1), (2, .int a2)]) rfl ?_
      refine w_goto (tgt := 2) (pc := 51) X dX4_addDropped_51 (by decide) ?_
      exact w_sub (pc := 2) [2, 3, 4, 0] rfl (ih _ _ _ h K)
set_option maxRecDepth 20000 in
theorem M4_addDropped {o : Nat} {a1 : Int32} {a2 : Int32} {s : Sto} {σ' : Sto} (h : f4_addDropped o a1 a2 s = some σ') : Ct yX4_addDropped cX4_addDropped 5 none 1 23 (fun ad => [.ref (ad o), .int a1, .int a2]) s (fun _ => none) σ' := by
  unfold f4_addDropped at h
  obtain ⟨k_o, h⟩ := gd_inv h
  refine Ct_of (by decide) (fun ad => Nat.le_of_ble_eq_true rfl) (fun φ ad X hQ => ?_)
  show wpm φ ad 0 [(0, .ref (ad o)), (1, .int a1), (2, .int a2)] [] s
  replace X : Cx φ ad cX4_addDropped none RX4 5 1 23 := X
  refine w_iconst (pc := 0) X dX4_addDropped_0 (v := 0) rfl ?_
  refine w_istore_n (pc := 1) X dX4_addDropped_1 3 rfl (by decide) (lv' := [(3, .int (0 : Int32)), (0, .ref (ad o)), (1, .int a1), (2, .int a2)]) rfl ?_
  obtain ⟨s12, h11, h⟩ := bd1_inv h
  refine w_sub (pc := 2) [1, 2, 3, 0] rfl (WL4_addDropped_2 X o a1 a2 k_o FU (0 : Int32) s s12 h11 ?_)
  cases h
  exact w_vret X hQ dX4_addDropped_54
set_option maxRecDepth 20000 in
theorem WL4_ending_12 {φ : Fr} {ad : Nat → Nat} (X : Cx φ ad cX4_ending (some .long) RX4 7 2 47) (o : Nat) (a1 : Int32) (a2 : Int32) (a3 : Int32) (a4 : Int32) (k_o : kd o = 4) : ∀ (fuel : Nat) (v5 : Int32) (s : Sto)  (t : Sto), L4_ending_12 o a1 a2 a3 a4 fuel v5 s = some (t) → wpm φ ad 38 [(0, .ref (ad o)), (1, .int a1), (2, .int a2), (3, .int a3), (4, .int a4)] [] t → wpm φ ad 12 [(0, .ref (ad o)), (1, .int a1), (2, .int a2), (3, .int a3), (4, .int a4), (5, .int v5)] [] s := by
  intro fuel
  induction fuel with
  | zero => intro v5 s t h; cases h
  | succ fuel ih =>
    intro v5 s t h K
    unfold L4_ending_12 at h
    refine w_iload (pc := 12) X dX4_ending_12 5 rfl ?_
    refine w_aload_n (pc := 14) X dX4_ending_14 0 rfl ?_
    refine w_getR (pc := 15) X dX4_ending_15 clO_4 k_o 0 (by decide) (d := 1) rfl fl_4_11 ?_
    refine w_alenJ (pc := 18) X dX4_ending_18 (kp_4_1 k_o) ?_
    refine w_icmp_ge (pc := 19) (tgt := 38) X dX4_ending_19 (by decide) (fun c3 => ?_) (fun c3 => ?_)
    · replace h := it_pos c3 h
      cases h
      exact w_sub (pc := 38) [0, 1, 2, 3, 4] rfl K
    · replace h := it_neg c3 h
      refine w_aload_n (pc := 22) X dX4_ending_22 0 rfl ?_
      refine w_getR (pc := 23) X dX4_ending_23 clO_4 k_o 0 (by decide) (d := 1) rfl fl_4_11 ?_
      refine w_iload (pc := 26) X dX4_ending_26 5 rfl ?_
      refine w_lconst (pc := 28) X dX4_ending_28 (v := 0) rfl ?_
      obtain ⟨s1, h2, h⟩ := bd1_inv h
      refine w_callSN (pc := 29) X dX4_ending_29 (M8_put_ h2) mn_4_15 cw_4_15 ⟨Nat.le_of_ble_eq_true rfl, Nat.le_of_ble_eq_true rfl⟩ rfl rfl (Nat.le_of_ble_eq_true rfl) ?_
      show wpm φ ad 32 [(0, .ref (ad o)), (1, .int a1), (2, .int a2), (3, .int a3), (4, .int a4), (5, .int v5)] [] s1
      refine w_iinc (pc := 32) X dX4_ending_32 5 rfl (v := (v5 + 1)) rfl (by decide) (lv' := [(5, .int (v5 + 1)), (0, .ref (ad o)), (1, .int a1), (2, .int a2), (3, .int a3), (4, .int a4)]) rfl ?_
      refine w_goto (tgt := 12) (pc := 35) X dX4_ending_35 (by decide) ?_
      exact w_sub (pc := 12) [1, 2, 3, 4, 5, 0] rfl (ih _ _ _ h K)
set_option maxRecDepth 20000 in
theorem WL4_ending_59 {φ : Fr} {ad : Nat → Nat} (X : Cx φ ad cX4_ending (some .long) RX4 7 2 47) (o : Nat) (a1 : Int32) (a2 : Int32) (a4 : Int32) (a5 : Int32) (k_o : kd o = 4) : ∀ (fuel : Nat) (v6 : Int32) (s : Sto)  (t : Sto), L4_ending_59 o a1 a2 a4 a5 fuel v6 s = some (t) → wpm φ ad 106 [(0, .ref (ad o)), (1, .int a1), (2, .int a2), (4, .int a4), (5, .int a5)] [] t → wpm φ ad 59 [(0, .ref (ad o)), (1, .int a1), (2, .int a2), (4, .int a4), (5, .int a5), (6, .int v6)] [] s := by
  intro fuel
  induction fuel with
  | zero => intro v6 s t h; cases h
  | succ fuel ih =>
    intro v6 s t h K
    unfold L4_ending_59 at h
    refine w_iload (pc := 59) X dX4_ending_59 5 rfl ?_
    refine w_iload_n (pc := 61) X dX4_ending_61 1 rfl ?_
    refine w_icmp_gt (pc := 62) (tgt := 106) X dX4_ending_62 (by decide) (fun c16 => ?_) (fun c16 => ?_)
    · replace h := it_pos c16 h
      cases h
      exact w_sub (pc := 106) [0, 1, 2, 3, 4] rfl K
    · replace h := it_neg c16 h
      refine w_iload (pc := 65) X dX4_ending_65 4 rfl ?_
      obtain ⟨s11, h15, h⟩ := bd1_inv h
      have K67 : wpm φ ad 79 [(0, .ref (ad o)), (1, .int a1), (2, .int a2), (4, .int a4), (5, .int a5), (6, .int v6)] [] s11 := by
        refine w_iload (pc := 79) X dX4_ending_79 5 rfl ?_
        refine w_if_le (pc := 81) (tgt := 100) X dX4_ending_81 (by decide) (fun c14 => ?_) (fun c14 => ?_)
        · replace h := it_pos c14 h
          refine w_iinc (pc := 100) X dX4_ending_100 5 rfl (v := (v6 + 1)) rfl (by decide) (lv' := [(6, .int (v6 + 1)), (0, .ref (ad o)), (1, .int a1), (2, .int a2), (4, .int a4), (5, .int a5)]) rfl ?_
          refine w_goto (tgt := 59) (pc := 103) X dX4_ending_103 (by decide) ?_
          exact w_sub (pc := 59) [1, 2, 3, 4, 5, 0] rfl (ih _ _ _ h K)
        · replace h := it_neg c14 h
          refine w_aload_n (pc := 84) X dX4_ending_84 0 rfl ?_
          refine w_iload (pc := 85) X dX4_ending_85 5 rfl ?_
          refine w_iconst (pc := 87) X dX4_ending_87 (v := 1) rfl ?_
          refine w_isub (pc := 88) X dX4_ending_88 ?_
          refine w_bipush (pc := 89) X dX4_ending_89 (v := (43)) rfl ?_
          refine w_imul (pc := 91) X dX4_ending_91 ?_
          refine w_iload (pc := 92) X dX4_ending_92 5 rfl ?_
          refine w_bipush (pc := 94) X dX4_ending_94 (v := (43)) rfl ?_
          refine w_imul (pc := 96) X dX4_ending_96 ?_
          obtain ⟨s12, h13, h⟩ := bd1_inv h
          refine w_callV (pc := 97) X dX4_ending_97 (M4_addDropped h13) k_o (by decide) rfl cw_4_23 ⟨Nat.le_of_ble_eq_true rfl, Nat.le_of_ble_eq_true rfl⟩ rfl rfl (Nat.le_of_ble_eq_true rfl) ?_
          show wpm φ ad 100 [(0, .ref (ad o)), (1, .int a1), (2, .int a2), (4, .int a4), (5, .int a5), (6, .int v6)] [] s12
          refine w_iinc (pc := 100) X dX4_ending_100 5 rfl (v := (v6 + 1)) rfl (by decide) (lv' := [(6, .int (v6 + 1)), (0, .ref (ad o)), (1, .int a1), (2, .int a2), (4, .int a4), (5, .int a5)]) rfl ?_
          refine w_goto (tgt := 59) (pc := 103) X dX4_ending_103 (by decide) ?_
          exact w_sub (pc := 59) [1, 2, 3, 4, 5, 0] rfl (ih _ _ _ h K)
      clear h
      have h := h15
      clear h15
      refine w_if_le (pc := 67) (tgt := 79) X dX4_ending_67 (by decide) (fun c10 => ?_) (fun c10 => ?_)
      · replace h := it_pos c10 h
        cases h
        exact w_sub (pc := 79) [0, 1, 2, 3, 4, 5] rfl K67
      · replace h := it_neg c10 h
        refine w_aload_n (pc := 70) X dX4_ending_70 0 rfl ?_
        refine w_iload (pc := 71) X dX4_ending_71 5 rfl ?_
        refine w_bipush (pc := 73) X dX4_ending_73 (v := (43)) rfl ?_
        refine w_imul (pc := 75) X dX4_ending_75 ?_
        obtain ⟨s8, h9, h⟩ := bd1_inv h
        refine w_callV (pc := 76) X dX4_ending_76 (M4_raise h9) k_o (by decide) rfl cw_4_19 ⟨Nat.le_of_ble_eq_true rfl, Nat.le_of_ble_eq_true rfl⟩ rfl rfl (Nat.le_of_ble_eq_true rfl) ?_
        show wpm φ ad 79 [(0, .ref (ad o)), (1, .int a1), (2, .int a2), (4, .int a4), (5, .int a5), (6, .int v6)] [] s8
        cases h
        exact w_sub (pc := 79) [0, 1, 2, 3, 4, 5] rfl K67
set_option maxRecDepth 20000 in
theorem WL4_ending_50 {φ : Fr} {ad : Nat → Nat} (X : Cx φ ad cX4_ending (some .long) RX4 7 2 47) (o : Nat) (a1 : Int32) (a2 : Int32) (a4 : Int32) (k_o : kd o = 4) : ∀ (fuel : Nat) (v5 : Int32) (s : Sto)  (t : Sto), L4_ending_50 o a1 a2 a4 fuel v5 s = some (t) → wpm φ ad 112 [(0, .ref (ad o)), (1, .int a1), (4, .int a4)] [] t → wpm φ ad 50 [(0, .ref (ad o)), (1, .int a1), (2, .int a2), (4, .int a4), (5, .int v5)] [] s := by
  intro fuel
  induction fuel with
  | zero => intro v5 s t h; cases h
  | succ fuel ih =>
    intro v5 s t h K
    unfold L4_ending_50 at h
    refine w_iload (pc := 50) X dX4_ending_50 4 rfl ?_
    refine w_iload_n (pc := 52) X dX4_ending_52 2 rfl ?_
    refine w_icmp_gt (pc := 53) (tgt := 112) X dX4_ending_53 (by decide) (fun c19 => ?_) (fun c19 => ?_)
    · replace h := it_pos c19 h
      cases h
      exact w_sub (pc := 112) [0, 1, 3] rfl K
    · replace h := it_neg c19 h
      refine w_iconst (pc := 56) X dX4_ending_56 (v := 0) rfl ?_
      refine w_istore (pc := 57) X dX4_ending_57 (by decide) (lv' := [(6, .int (0 : Int32)), (0, .ref (ad o)), (1, .int a1), (2, .int a2), (4, .int a4), (5, .int v5)]) rfl ?_
      obtain ⟨s18, h17, h⟩ := bd1_inv h
      refine w_sub (pc := 59) [1, 2, 3, 4, 5, 0] rfl (WL4_ending_59 X o a1 a2 a4 v5 k_o FU (0 : Int32) s s18 h17 ?_)
      refine w_iinc (pc := 106) X dX4_ending_106 4 rfl (v := (v5 + 1)) rfl (by decide) (lv' := [(5, .int (v5 + 1)), (0, .ref (ad o)), (1, .int a1), (2, .int a2), (4, .int a4)]) rfl ?_
      refine w_goto (tgt := 50) (pc := 109) X dX4_ending_109 (by decide) ?_
      exact w_sub (pc := 50) [1, 2, 3, 4, 0] rfl (ih _ _ _ h K)
set_option maxRecDepth 20000 in
theorem M4_ending {o : Nat} {a1 : Int32} {a2 : Int32} {a3 : Int32} {a4 : Int32} {s : Sto} {r : Int64} {σ' : Sto} (h : f4_ending o a1 a2 a3 a4 s = some (r, σ')) : Ct yX4_ending cX4_ending 7 (some .long) 2 47 (fun ad => [.ref (ad o), .int a1, .int a2, .int a3, .int a4]) s (fun ad => some (.long r)) σ' := by
  unfold f4_ending at h
  obtain ⟨k_o, h⟩ := gd_inv h
  refine Ct_of (by decide) (fun ad => Nat.le_of_ble_eq_true rfl) (fun φ ad X hQ => ?_)
  show wpm φ ad 0 [(0, .ref (ad o)), (1, .int a1), (2, .int a2), (3, .int a3), (4, .int a4)] [] s
  replace X : Cx φ ad cX4_ending (some .long) RX4 7 2 47 := X
  refine w_iload (pc := 0) X dX4_ending_0 4 rfl ?_
  refine w_bipush (pc := 2) X dX4_ending_2 (v := (43)) rfl ?_
  refine w_icmp_lt (pc := 4) (tgt := 9) X dX4_ending_4 (by decide) (fun c25 => ?_) (fun c25 => ?_)
  · replace h := it_pos c25 h
    refine w_iconst (pc := 9) X dX4_ending_9 (v := 0) rfl ?_
    refine w_istore (pc := 10) X dX4_ending_10 (by decide) (lv' := [(5, .int (0 : Int32)), (0, .ref (ad o)), (1, .int a1), (2, .int a2), (3, .int a3), (4, .int a4)]) rfl ?_
    obtain ⟨s5, h4, h⟩ := bd1_inv h
    refine w_sub (pc := 12) [1, 2, 3, 4, 5, 0] rfl (WL4_ending_12 X o a1 a2 a3 a4 k_o FU (0 : Int32) s s5 h4 ?_)
    refine w_aload_n (pc := 38) X dX4_ending_38 0 rfl ?_
    refine w_getR (pc := 39) X dX4_ending_39 clO_4 k_o 0 (by decide) (d := 1) rfl fl_4_11 ?_
    refine w_iload_n (pc := 42) X dX4_ending_42 3 rfl ?_
    refine w_lconst (pc := 43) X dX4_ending_43 (v := 1) rfl ?_
    obtain ⟨s6, h7, h⟩ := bd1_inv h
    refine w_callSN (pc := 44) X dX4_ending_44 (M8_put_ h7) mn_4_15 cw_4_15 ⟨Nat.le_of_ble_eq_true rfl, Nat.le_of_ble_eq_true rfl⟩ rfl rfl (Nat.le_of_ble_eq_true rfl) ?_
    show wpm φ ad 47 [(0, .ref (ad o)), (1, .int a1), (2, .int a2), (3, .int a3), (4, .int a4)] [] s6
    refine w_iconst (pc := 47) X dX4_ending_47 (v := 0) rfl ?_
    refine w_istore (pc := 48) X dX4_ending_48 (by decide) (lv' := [(5, .int (0 : Int32)), (0, .ref (ad o)), (1, .int a1), (2, .int a2), (3, .int a3), (4, .int a4)]) rfl ?_
    obtain ⟨s21, h20, h⟩ := bd1_inv h
    refine w_sub (pc := 50) [1, 2, 3, 5, 0] rfl (WL4_ending_50 X o a1 a2 a4 k_o FU (0 : Int32) s6 s21 h20 ?_)
    refine w_aload_n (pc := 112) X dX4_ending_112 0 rfl ?_
    refine w_getR (pc := 113) X dX4_ending_113 clO_4 k_o 0 (by decide) (d := 1) rfl fl_4_11 ?_
    refine w_iload_n (pc := 116) X dX4_ending_116 1 rfl ?_
    refine w_bipush (pc := 117) X dX4_ending_117 (v := (43)) rfl ?_
    refine w_imul (pc := 119) X dX4_ending_119 ?_
    refine w_iload (pc := 120) X dX4_ending_120 2 rfl ?_
    refine w_iadd (pc := 122) X dX4_ending_122 ?_
    obtain ⟨r24, s22, h23, h⟩ := bd2_inv h
    refine w_callSN (pc := 123) X dX4_ending_123 (M8_at_ h23) mn_4_27 cw_4_27 ⟨Nat.le_of_ble_eq_true rfl, Nat.le_of_ble_eq_true rfl⟩ rfl rfl (Nat.le_of_ble_eq_true rfl) ?_
    show wpm φ ad 126 [(0, .ref (ad o)), (1, .int a1), (4, .int a4)] [.long r24] s22
    cases h
    exact w_lret X hQ dX4_ending_126
  · replace h := it_neg c25 h
    refine w_lconst (pc := 7) X dX4_ending_7 (v := 0) rfl ?_
    cases h
    exact w_lret X hQ dX4_ending_8
set_option maxRecDepth 20000 in
theorem M8_orders {o : Nat} {a1 : Int32} {a2 : Int32} {a3 : Int32} {a4 : Int32} {s : Sto} {r : Int64} {σ' : Sto} (h : f8_orders o a1 a2 a3 a4 s = some (r, σ')) : Ct yX8_orders cX8_orders 5 (some .long) 3 73 (fun ad => [.ref (ad o), .int a1, .int a2, .int a3, .int a4]) s (fun ad => some (.long r)) σ' := by
  unfold f8_orders at h
  obtain ⟨k_o, h⟩ := gd_inv h
  refine Ct_of (by decide) (fun ad => Nat.le_of_ble_eq_true rfl) (fun φ ad X hQ => ?_)
  show wpm φ ad 0 [(0, .ref (ad o)), (1, .int a1), (2, .int a2), (3, .int a3), (4, .int a4)] [] s
  replace X : Cx φ ad cX8_orders (some .long) RX8 5 3 73 := X
  refine w_iload_n (pc := 0) X dX8_orders_0 1 rfl ?_
  refine w_iload_n (pc := 1) X dX8_orders_1 2 rfl ?_
  refine w_iload_n (pc := 2) X dX8_orders_2 3 rfl ?_
  obtain ⟨r3, s1, h2, h⟩ := bd2_inv h
  refine w_callS (pc := 3) X dX8_orders_3 (M8_areOrders h2) rfl cw_8_192 ⟨Nat.le_of_ble_eq_true rfl, Nat.le_of_ble_eq_true rfl⟩ rfl rfl (Nat.le_of_ble_eq_true rfl) ?_
  show wpm φ ad 6 [(0, .ref (ad o)), (1, .int a1), (2, .int a2), (3, .int a3), (4, .int a4)] [.int r3] s1
  refine w_if_eq (pc := 6) (tgt := 20) X dX8_orders_6 (by decide) (fun c11 => ?_) (fun c11 => ?_)
  · replace h := it_pos c11 h
    refine w_ldc2 (pc := 20) X dX8_orders_20 (v := (-1000000000000000002)) cn_8_195 ?_
    cases h
    exact w_lret X hQ dX8_orders_23
  · replace h := it_neg c11 h
    refine w_iload (pc := 9) X dX8_orders_9 4 rfl ?_
    refine w_iconst (pc := 11) X dX8_orders_11 (v := 0) rfl ?_
    refine w_bipush (pc := 12) X dX8_orders_12 (v := (50)) rfl ?_
    obtain ⟨r6, s4, h5, h⟩ := bd2_inv h
    refine w_callS (pc := 14) X dX8_orders_14 (M8_isWithin h5) rfl cw_8_64 ⟨Nat.le_of_ble_eq_true rfl, Nat.le_of_ble_eq_true rfl⟩ rfl rfl (Nat.le_of_ble_eq_true rfl) ?_
    show wpm φ ad 17 [(0, .ref (ad o)), (1, .int a1), (2, .int a2), (3, .int a3), (4, .int a4)] [.int r6] s4
    refine w_if_ne (pc := 17) (tgt := 24) X dX8_orders_17 (by decide) (fun c10 => ?_) (fun c10 => ?_)
    · replace h := it_neg c10 h
      refine w_aload_n (pc := 24) X dX8_orders_24 0 rfl ?_
      refine w_getR (pc := 25) X dX8_orders_25 clO_8 k_o 7 (by decide) (d := 39) rfl fl_8_53 ?_
      refine w_iload_n (pc := 28) X dX8_orders_28 1 rfl ?_
      refine w_iload_n (pc := 29) X dX8_orders_29 2 rfl ?_
      refine w_iload_n (pc := 30) X dX8_orders_30 3 rfl ?_
      refine w_iload (pc := 31) X dX8_orders_31 4 rfl ?_
      obtain ⟨r9, s7, h8, h⟩ := bd2_inv h
      refine w_callV (pc := 33) X dX8_orders_33 (M4_ending h8) (kp_8_39 k_o) (by decide) rfl cw_8_197 ⟨Nat.le_of_ble_eq_true rfl, Nat.le_of_ble_eq_true rfl⟩ rfl rfl (Nat.le_of_ble_eq_true rfl) ?_
      show wpm φ ad 36 [(0, .ref (ad o)), (1, .int a1), (2, .int a2), (3, .int a3), (4, .int a4)] [.long r9] s7
      cases h
      exact w_lret X hQ dX8_orders_36
    · replace h := it_pos c10 h
      refine w_ldc2 (pc := 20) X dX8_orders_20 (v := (-1000000000000000002)) cn_8_195 ?_
      cases h
      exact w_lret X hQ dX8_orders_23
set_option maxRecDepth 20000 in
theorem M8_left {o : Nat} {a1 : Int32} {a2 : Int32} {a3 : Int32} {a4 : Int32} {s : Sto} {r : Int32} {σ' : Sto} (h : f8_left o a1 a2 a3 a4 s = some (r, σ')) : Ct yX8_left cX8_left 5 (some .int) 2 44 (fun ad => [.ref (ad o), .int a1, .int a2, .int a3, .int a4]) s (fun ad => some (.int r)) σ' := by
  unfold f8_left at h
  obtain ⟨k_o, h⟩ := gd_inv h
  refine Ct_of (by decide) (fun ad => Nat.le_of_ble_eq_true rfl) (fun φ ad X hQ => ?_)
  show wpm φ ad 0 [(0, .ref (ad o)), (1, .int a1), (2, .int a2), (3, .int a3), (4, .int a4)] [] s
  replace X : Cx φ ad cX8_left (some .int) RX8 5 2 44 := X
  refine w_iload_n (pc := 0) X dX8_left_0 1 rfl ?_
  refine w_iload_n (pc := 1) X dX8_left_1 2 rfl ?_
  refine w_iload_n (pc := 2) X dX8_left_2 3 rfl ?_
  obtain ⟨r3, s1, h2, h⟩ := bd2_inv h
  refine w_callS (pc := 3) X dX8_left_3 (M8_areOrders h2) rfl cw_8_192 ⟨Nat.le_of_ble_eq_true rfl, Nat.le_of_ble_eq_true rfl⟩ rfl rfl (Nat.le_of_ble_eq_true rfl) ?_
  show wpm φ ad 6 [(0, .ref (ad o)), (1, .int a1), (2, .int a2), (3, .int a3), (4, .int a4)] [.int r3] s1
  refine w_if_eq (pc := 6) (tgt := 19) X dX8_left_6 (by decide) (fun c11 => ?_) (fun c11 => ?_)
  · replace h := it_pos c11 h
    refine w_bipush (pc := 19) X dX8_left_19 (v := (-2)) rfl ?_
    cases h
    exact w_iret X hQ dX8_left_21
  · replace h := it_neg c11 h
    refine w_iload (pc := 9) X dX8_left_9 4 rfl ?_
    refine w_iconst (pc := 11) X dX8_left_11 (v := 0) rfl ?_
    refine w_iconst (pc := 12) X dX8_left_12 (v := 1) rfl ?_
    obtain ⟨r6, s4, h5, h⟩ := bd2_inv h
    refine w_callS (pc := 13) X dX8_left_13 (M8_isWithin h5) rfl cw_8_64 ⟨Nat.le_of_ble_eq_true rfl, Nat.le_of_ble_eq_true rfl⟩ rfl rfl (Nat.le_of_ble_eq_true rfl) ?_
    show wpm φ ad 16 [(0, .ref (ad o)), (1, .int a1), (2, .int a2), (3, .int a3), (4, .int a4)] [.int r6] s4
    refine w_if_ne (pc := 16) (tgt := 22) X dX8_left_16 (by decide) (fun c10 => ?_) (fun c10 => ?_)
    · replace h := it_neg c10 h
      refine w_iload (pc := 22) X dX8_left_22 4 rfl ?_
      refine w_if_ne (pc := 24) (tgt := 39) X dX8_left_24 (by decide) (fun c9 => ?_) (fun c9 => ?_)
      · replace h := it_neg c9 h
        refine w_iconst (pc := 39) X dX8_left_39 (v := 0) rfl ?_
        refine w_iload_n (pc := 40) X dX8_left_40 3 rfl ?_
        refine w_iload_n (pc := 41) X dX8_left_41 1 rfl ?_
        refine w_isub (pc := 42) X dX8_left_42 ?_
        refine w_mmax (pc := 43) X dX8_left_43 cw_8_201 ⟨Nat.le_of_ble_eq_true rfl, Nat.le_of_ble_eq_true rfl⟩ ?_
        obtain ⟨x7, e_x7, h⟩ := nm_inv h
        refine w_nmi e_x7 ?_
        refine w_iload_n (pc := 46) X dX8_left_46 2 rfl ?_
        refine w_iadd (pc := 47) X dX8_left_47 ?_
        cases h
        exact w_iret X hQ dX8_left_48
      · replace h := it_pos c9 h
        refine w_iconst (pc := 27) X dX8_left_27 (v := 0) rfl ?_
        refine w_iload_n (pc := 28) X dX8_left_28 3 rfl ?_
        refine w_iload_n (pc := 29) X dX8_left_29 2 rfl ?_
        refine w_iadd (pc := 30) X dX8_left_30 ?_
        refine w_iload_n (pc := 31) X dX8_left_31 1 rfl ?_
        refine w_isub (pc := 32) X dX8_left_32 ?_
        refine w_mmax (pc := 33) X dX8_left_33 cw_8_201 ⟨Nat.le_of_ble_eq_true rfl, Nat.le_of_ble_eq_true rfl⟩ ?_
        obtain ⟨x8, e_x8, h⟩ := nm_inv h
        refine w_nmi e_x8 ?_
        refine w_goto (tgt := 48) (pc := 36) X dX8_left_36 (by decide) ?_
        cases h
        exact w_iret X hQ dX8_left_48
    · replace h := it_pos c10 h
      refine w_bipush (pc := 19) X dX8_left_19 (v := (-2)) rfl ?_
      cases h
      exact w_iret X hQ dX8_left_21
set_option maxRecDepth 20000 in
theorem M8_areChances {a0 : Int32} {a1 : Int32} {s : Sto} {r : Int32} {σ' : Sto} (h : f8_areChances a0 a1 s = some (r, σ')) : Ct yX8_areChances cX8_areChances 2 (some .boolean) 1 22 (fun ad => [.int a0, .int a1]) s (fun ad => some (.int r)) σ' := by
  unfold f8_areChances at h
  refine Ct_of (by decide) (fun ad => Nat.le_of_ble_eq_true rfl) (fun φ ad X hQ => ?_)
  show wpm φ ad 0 [(0, .int a0), (1, .int a1)] [] s
  replace X : Cx φ ad cX8_areChances (some .boolean) RX8 2 1 22 := X
  refine w_iload_n (pc := 0) X dX8_areChances_0 0 rfl ?_
  refine w_iconst (pc := 1) X dX8_areChances_1 (v := 0) rfl ?_
  refine w_bipush (pc := 2) X dX8_areChances_2 (v := (12)) rfl ?_
  obtain ⟨r3, s1, h2, h⟩ := bd2_inv h
  refine w_callS (pc := 4) X dX8_areChances_4 (M8_isWithin h2) rfl cw_8_64 ⟨Nat.le_of_ble_eq_true rfl, Nat.le_of_ble_eq_true rfl⟩ rfl rfl (Nat.le_of_ble_eq_true rfl) ?_
  show wpm φ ad 7 [(0, .int a0), (1, .int a1)] [.int r3] s1
  refine w_if_eq (pc := 7) (tgt := 24) X dX8_areChances_7 (by decide) (fun c8 => ?_) (fun c8 => ?_)
  · replace h := it_pos c8 h
    refine w_iconst (pc := 24) X dX8_areChances_24 (v := 0) rfl ?_
    cases h
    exact w_zret X hQ dX8_areChances_25 (Or.inl rfl)
  · replace h := it_neg c8 h
    refine w_iload_n (pc := 10) X dX8_areChances_10 1 rfl ?_
    refine w_iconst (pc := 11) X dX8_areChances_11 (v := 0) rfl ?_
    refine w_bipush (pc := 12) X dX8_areChances_12 (v := (10)) rfl ?_
    obtain ⟨r6, s4, h5, h⟩ := bd2_inv h
    refine w_callS (pc := 14) X dX8_areChances_14 (M8_isWithin h5) rfl cw_8_64 ⟨Nat.le_of_ble_eq_true rfl, Nat.le_of_ble_eq_true rfl⟩ rfl rfl (Nat.le_of_ble_eq_true rfl) ?_
    show wpm φ ad 17 [(0, .int a0), (1, .int a1)] [.int r6] s4
    refine w_if_eq (pc := 17) (tgt := 24) X dX8_areChances_17 (by decide) (fun c7 => ?_) (fun c7 => ?_)
    · replace h := it_pos c7 h
      refine w_iconst (pc := 24) X dX8_areChances_24 (v := 0) rfl ?_
      cases h
      exact w_zret X hQ dX8_areChances_25 (Or.inl rfl)
    · replace h := it_neg c7 h
      refine w_iconst (pc := 20) X dX8_areChances_20 (v := 1) rfl ?_
      refine w_goto (tgt := 25) (pc := 21) X dX8_areChances_21 (by decide) ?_
      cases h
      exact w_zret X hQ dX8_areChances_25 (Or.inr rfl)
set_option maxRecDepth 20000 in
theorem WL3_step_5 {φ : Fr} {ad : Nat → Nat} (X : Cx φ ad cX3_step none RX3 9 1 23) (o : Nat) (a1 : Int32) (k_o : kd o = 3) : ∀ (fuel : Nat) (v2 : Int64) (v4 : Int32) (s : Sto)  (t : Sto), L3_step_5 o a1 fuel v2 v4 s = some (t) → wpm φ ad 79 [] [] t → wpm φ ad 5 [(0, .ref (ad o)), (1, .int a1), (2, .long v2), (4, .int v4)] [] s := by
  intro fuel
  induction fuel with
  | zero => intro v2 v4 s t h; cases h
  | succ fuel ih =>
    intro v2 v4 s t h K
    unfold L3_step_5 at h
    refine w_iload (pc := 5) X dX3_step_5 3 rfl ?_
    refine w_bipush (pc := 7) X dX3_step_7 (v := (83)) rfl ?_
    refine w_icmp_ge (pc := 9) (tgt := 79) X dX3_step_9 (by decide) (fun c12 => ?_) (fun c12 => ?_)
    · replace h := it_pos c12 h
      cases h
      exact w_sub (pc := 79) [] rfl K
    · replace h := it_neg c12 h
      refine w_aload_n (pc := 12) X dX3_step_12 0 rfl ?_
      refine w_getR (pc := 13) X dX3_step_13 clO_3 k_o 0 (by decide) (d := 1) rfl fl_3_11 ?_
      refine w_iload (pc := 16) X dX3_step_16 3 rfl ?_
      obtain ⟨r3, s1, h2, h⟩ := bd2_inv h
      refine w_callSN (pc := 18) X dX3_step_18 (M8_at_ h2) mn_3_23 cw_3_23 ⟨Nat.le_of_ble_eq_true rfl, Nat.le_of_ble_eq_true rfl⟩ rfl rfl (Nat.le_of_ble_eq_true rfl) ?_
      show wpm φ ad 21 [(0, .ref (ad o)), (1, .int a1), (2, .long v2), (4, .int v4)] [.long r3] s1
      refine w_lstore (pc := 21) X dX3_step_21 (by decide) (lv' := [(5, .long r3), (0, .ref (ad o)), (1, .int a1), (2, .long v2), (4, .int v4)]) rfl ?_
      refine w_aload_n (pc := 23) X dX3_step_23 1 rfl ?_
      refine w_getR (pc := 24) X dX3_step_24 clO_3 k_o 0 (by decide) (d := 1) rfl fl_3_11 ?_
      refine w_iload (pc := 27) X dX3_step_27 4 rfl ?_
      refine w_iconst (pc := 29) X dX3_step_29 (v := 1) rfl ?_
      refine w_iadd (pc := 30) X dX3_step_30 ?_
      obtain ⟨r6, s4, h5, h⟩ := bd2_inv h
      refine w_callSN (pc := 31) X dX3_step_31 (M8_at_ h5) mn_3_23 cw_3_23 ⟨Nat.le_of_ble_eq_true rfl, Nat.le_of_ble_eq_true rfl⟩ rfl rfl (Nat.le_of_ble_eq_true rfl) ?_
      show wpm φ ad 34 [(5, .long r3), (0, .ref (ad o)), (1, .int a1), (2, .long v2), (4, .int v4)] [.long r6] s4
      refine w_iload (pc := 34) X dX3_step_34 4 rfl ?_
      obtain ⟨x8, h11, h⟩ := bd1_inv h
      have K36 : wpm φ ad 45 [(0, .ref (ad o)), (1, .int a1), (2, .long v2), (4, .int v4), (5, .long r3)] [.long x8, .long r6] s4 := by
        refine w_ladd (pc := 45) X dX3_step_45 ?_
        refine w_lstore (pc := 46) X dX3_step_46 (by decide) (lv' := [(7, .long (r6 + x8)), (0, .ref (ad o)), (1, .int a1), (2, .long v2), (4, .int v4), (5, .long r3)]) rfl ?_
        refine w_aload_n (pc := 48) X dX3_step_48 1 rfl ?_
        refine w_getR (pc := 49) X dX3_step_49 clO_3 k_o 0 (by decide) (d := 1) rfl fl_3_11 ?_
        refine w_iload (pc := 52) X dX3_step_52 4 rfl ?_
        refine w_lload_n (pc := 54) X dX3_step_54 3 rfl ?_
        refine w_bipush (pc := 55) X dX3_step_55 (v := (10)) rfl ?_
        refine w_iload_n (pc := 57) X dX3_step_57 2 rfl ?_
        refine w_isub (pc := 58) X dX3_step_58 ?_
        refine w_i2l (pc := 59) X dX3_step_59 ?_
        refine w_lmul (pc := 60) X dX3_step_60 ?_
        refine w_lload (pc := 61) X dX3_step_61 0 rfl ?_
        refine w_iload_n (pc := 63) X dX3_step_63 2 rfl ?_
        refine w_i2l (pc := 64) X dX3_step_64 ?_
        refine w_lmul (pc := 65) X dX3_step_65 ?_
        refine w_ladd (pc := 66) X dX3_step_66 ?_
        obtain ⟨s9, h10, h⟩ := bd1_inv h
        refine w_callSN (pc := 67) X dX3_step_67 (M8_put_ h10) mn_3_15 cw_3_15 ⟨Nat.le_of_ble_eq_true rfl, Nat.le_of_ble_eq_true rfl⟩ rfl rfl (Nat.le_of_ble_eq_true rfl) ?_
        show wpm φ ad 70 [(7, .long (r6 + x8)), (0, .ref (ad o)), (1, .int a1), (2, .long v2), (4, .int v4), (5, .long r3)] [] s9
        refine w_lload (pc := 70) X dX3_step_70 5 rfl ?_
        refine w_lstore_n (pc := 72) X dX3_step_72 2 rfl (by decide) (lv' := [(2, .long r3), (7, .long (r6 + x8)), (0, .ref (ad o)), (1, .int a1), (4, .int v4), (5, .long r3)]) rfl ?_
        refine w_iinc (pc := 73) X dX3_step_73 4 rfl (v := (v4 + 1)) rfl (by decide) (lv' := [(4, .int (v4 + 1)), (2, .long r3), (7, .long (r6 + x8)), (0, .ref (ad o)), (1, .int a1), (5, .long r3)]) rfl ?_
        refine w_goto (tgt := 5) (pc := 76) X dX3_step_76 (by decide) ?_
        exact w_sub (pc := 5) [3, 4, 1, 0] rfl (ih _ _ _ _ h K)
      clear h
      have h := h11
      clear h11
      refine w_if_ne (pc := 36) (tgt := 44) X dX3_step_36 (by decide) (fun c7 => ?_) (fun c7 => ?_)
      · replace h := it_neg c7 h
        refine w_lconst (pc := 44) X dX3_step_44 (v := 0) rfl ?_
        cases h
        exact w_sub (pc := 45) [1, 2, 3, 4, 0] rfl K36
      · replace h := it_pos c7 h
        refine w_lload (pc := 39) X dX3_step_39 0 rfl ?_
        refine w_goto (tgt := 45) (pc := 41) X dX3_step_41 (by decide) ?_
        cases h
        exact w_sub (pc := 45) [1, 2, 3, 4, 0] rfl K36
set_option maxRecDepth 20000 in
theorem M3_step {o : Nat} {a1 : Int32} {s : Sto} {σ' : Sto} (h : f3_step o a1 s = some σ') : Ct yX3_step cX3_step 9 none 1 23 (fun ad => [.ref (ad o), .int a1]) s (fun _ => none) σ' := by
  unfold f3_step at h
  obtain ⟨k_o, h⟩ := gd_inv h
  refine Ct_of (by decide) (fun ad => Nat.le_of_ble_eq_true rfl) (fun φ ad X hQ => ?_)
  show wpm φ ad 0 [(0, .ref (ad o)), (1, .int a1)] [] s
  replace X : Cx φ ad cX3_step none RX3 9 1 23 := X
  refine w_lconst (pc := 0) X dX3_step_0 (v := 0) rfl ?_
  refine w_lstore_n (pc := 1) X dX3_step_1 2 rfl (by decide) (lv' := [(2, .long (0 : Int64)), (0, .ref (ad o)), (1, .int a1)]) rfl ?_
  refine w_iconst (pc := 2) X dX3_step_2 (v := 0) rfl ?_
  refine w_istore (pc := 3) X dX3_step_3 (by decide) (lv' := [(4, .int (0 : Int32)), (2, .long (0 : Int64)), (0, .ref (ad o)), (1, .int a1)]) rfl ?_
  obtain ⟨s14, h13, h⟩ := bd1_inv h
  refine w_sub (pc := 5) [2, 3, 1, 0] rfl (WL3_step_5 X o a1 k_o FU (0 : Int64) (0 : Int32) s s14 h13 ?_)
  cases h
  exact w_vret X hQ dX3_step_79
