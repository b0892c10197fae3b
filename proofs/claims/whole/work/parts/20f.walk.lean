set_option maxRecDepth 20000 in
theorem WL3_play_3 {φ : Fr} {ad : Nat → Nat} (X : Cx φ ad cX3_play none RX3 5 2 51) (o : Nat) (a1 : Int32) (a2 : Int32) (a3 : Int32) (k_o : kd o = 3) : ∀ (fuel : Nat) (v4 : Int32) (s : Sto)  (t : Sto), L3_play_3 o a1 a2 a3 fuel v4 s = some (t) → wpm φ ad 26 [(0, .ref (ad o)), (1, .int a1), (2, .int a2), (3, .int a3)] [] t → wpm φ ad 3 [(0, .ref (ad o)), (1, .int a1), (2, .int a2), (3, .int a3), (4, .int v4)] [] s := by
  intro fuel
  induction fuel with
  | zero => intro v4 s t h; cases h
  | succ fuel ih =>
    intro v4 s t h K
    unfold L3_play_3 at h
    refine w_iload (pc := 3) X dX3_play_3 4 rfl ?_
    refine w_bipush (pc := 5) X dX3_play_5 (v := (83)) rfl ?_
    refine w_icmp_ge (pc := 7) (tgt := 26) X dX3_play_7 (by decide) (fun c3 => ?_) (fun c3 => ?_)
    · replace h := it_pos c3 h
      cases h
      exact w_sub (pc := 26) [0, 1, 2, 3] rfl K
    · replace h := it_neg c3 h
      refine w_aload_n (pc := 10) X dX3_play_10 0 rfl ?_
      refine w_getR (pc := 11) X dX3_play_11 clO_3 k_o 0 (by decide) (d := 1) rfl fl_3_11 ?_
      refine w_iload (pc := 14) X dX3_play_14 4 rfl ?_
      refine w_lconst (pc := 16) X dX3_play_16 (v := 0) rfl ?_
      obtain ⟨s1, h2, h⟩ := bd1_inv h
      refine w_callSN (pc := 17) X dX3_play_17 (M8_put_ h2) mn_3_15 cw_3_15 ⟨Nat.le_of_ble_eq_true rfl, Nat.le_of_ble_eq_true rfl⟩ rfl rfl (Nat.le_of_ble_eq_true rfl) ?_
      show wpm φ ad 20 [(0, .ref (ad o)), (1, .int a1), (2, .int a2), (3, .int a3), (4, .int v4)] [] s1
      refine w_iinc (pc := 20) X dX3_play_20 4 rfl (v := (v4 + 1)) rfl (by decide) (lv' := [(4, .int (v4 + 1)), (0, .ref (ad o)), (1, .int a1), (2, .int a2), (3, .int a3)]) rfl ?_
      refine w_goto (tgt := 3) (pc := 23) X dX3_play_23 (by decide) ?_
      exact w_sub (pc := 3) [1, 2, 3, 4, 0] rfl (ih _ _ _ h K)
set_option maxRecDepth 20000 in
theorem WL3_play_38 {φ : Fr} {ad : Nat → Nat} (X : Cx φ ad cX3_play none RX3 5 2 51) (o : Nat) (a2 : Int32) (a3 : Int32) (k_o : kd o = 3) : ∀ (fuel : Nat) (v4 : Int32) (s : Sto)  (t : Sto), L3_play_38 o a2 a3 fuel v4 s = some (t) → wpm φ ad 55 [] [] t → wpm φ ad 38 [(0, .ref (ad o)), (2, .int a2), (3, .int a3), (4, .int v4)] [] s := by
  intro fuel
  induction fuel with
  | zero => intro v4 s t h; cases h
  | succ fuel ih =>
    intro v4 s t h K
    unfold L3_play_38 at h
    refine w_iload (pc := 38) X dX3_play_38 3 rfl ?_
    refine w_iload_n (pc := 40) X dX3_play_40 1 rfl ?_
    refine w_icmp_ge (pc := 41) (tgt := 55) X dX3_play_41 (by decide) (fun c10 => ?_) (fun c10 => ?_)
    · replace h := it_pos c10 h
      cases h
      exact w_sub (pc := 55) [] rfl K
    · replace h := it_neg c10 h
      refine w_aload_n (pc := 44) X dX3_play_44 0 rfl ?_
      refine w_iload_n (pc := 45) X dX3_play_45 2 rfl ?_
      obtain ⟨s8, h9, h⟩ := bd1_inv h
      refine w_callV (pc := 46) X dX3_play_46 (M3_step h9) k_o (by decide) rfl cw_3_19 ⟨Nat.le_of_ble_eq_true rfl, Nat.le_of_ble_eq_true rfl⟩ rfl rfl (Nat.le_of_ble_eq_true rfl) ?_
      show wpm φ ad 49 [(0, .ref (ad o)), (2, .int a2), (3, .int a3), (4, .int v4)] [] s8
      refine w_iinc (pc := 49) X dX3_play_49 3 rfl (v := (v4 + 1)) rfl (by decide) (lv' := [(4, .int (v4 + 1)), (0, .ref (ad o)), (2, .int a2), (3, .int a3)]) rfl ?_
      refine w_goto (tgt := 38) (pc := 52) X dX3_play_52 (by decide) ?_
      exact w_sub (pc := 38) [1, 2, 3, 0] rfl (ih _ _ _ h K)
set_option maxRecDepth 20000 in
theorem M3_play {o : Nat} {a1 : Int32} {a2 : Int32} {a3 : Int32} {s : Sto} {σ' : Sto} (h : f3_play o a1 a2 a3 s = some σ') : Ct yX3_play cX3_play 5 none 2 51 (fun ad => [.ref (ad o), .int a1, .int a2, .int a3]) s (fun _ => none) σ' := by
  unfold f3_play at h
  obtain ⟨k_o, h⟩ := gd_inv h
  refine Ct_of (by decide) (fun ad => Nat.le_of_ble_eq_true rfl) (fun φ ad X hQ => ?_)
  show wpm φ ad 0 [(0, .ref (ad o)), (1, .int a1), (2, .int a2), (3, .int a3)] [] s
  replace X : Cx φ ad cX3_play none RX3 5 2 51 := X
  refine w_iconst (pc := 0) X dX3_play_0 (v := 0) rfl ?_
  refine w_istore (pc := 1) X dX3_play_1 (by decide) (lv' := [(4, .int (0 : Int32)), (0, .ref (ad o)), (1, .int a1), (2, .int a2), (3, .int a3)]) rfl ?_
  obtain ⟨s5, h4, h⟩ := bd1_inv h
  refine w_sub (pc := 3) [1, 2, 3, 4, 0] rfl (WL3_play_3 X o a1 a2 a3 k_o FU (0 : Int32) s s5 h4 ?_)
  refine w_aload_n (pc := 26) X dX3_play_26 0 rfl ?_
  refine w_getR (pc := 27) X dX3_play_27 clO_3 k_o 0 (by decide) (d := 1) rfl fl_3_11 ?_
  refine w_iload_n (pc := 30) X dX3_play_30 1 rfl ?_
  refine w_lconst (pc := 31) X dX3_play_31 (v := 1) rfl ?_
  obtain ⟨s6, h7, h⟩ := bd1_inv h
  refine w_callSN (pc := 32) X dX3_play_32 (M8_put_ h7) mn_3_15 cw_3_15 ⟨Nat.le_of_ble_eq_true rfl, Nat.le_of_ble_eq_true rfl⟩ rfl rfl (Nat.le_of_ble_eq_true rfl) ?_
  show wpm φ ad 35 [(0, .ref (ad o)), (1, .int a1), (2, .int a2), (3, .int a3)] [] s6
  refine w_iconst (pc := 35) X dX3_play_35 (v := 0) rfl ?_
  refine w_istore (pc := 36) X dX3_play_36 (by decide) (lv' := [(4, .int (0 : Int32)), (0, .ref (ad o)), (1, .int a1), (2, .int a2), (3, .int a3)]) rfl ?_
  obtain ⟨s12, h11, h⟩ := bd1_inv h
  refine w_sub (pc := 38) [1, 3, 4, 0] rfl (WL3_play_38 X o a2 a3 k_o FU (0 : Int32) s6 s12 h11 ?_)
  cases h
  exact w_vret X hQ dX3_play_55
set_option maxRecDepth 20000 in
theorem WL3_sumOfRows_4 {φ : Fr} {ad : Nat → Nat} (X : Cx φ ad cX3_sumOfRows (some .long) RX3 4 1 21) (o : Nat) (k_o : kd o = 3) : ∀ (fuel : Nat) (v1 : Int64) (v3 : Int32) (s : Sto) (t1 : Int64) (t : Sto), L3_sumOfRows_4 o fuel v1 v3 s = some (t1, t) → wpm φ ad 30 [(1, .long t1)] [] t → wpm φ ad 4 [(0, .ref (ad o)), (1, .long v1), (3, .int v3)] [] s := by
  intro fuel
  induction fuel with
  | zero => intro v1 v3 s t1 t h; cases h
  | succ fuel ih =>
    intro v1 v3 s t1 t h K
    unfold L3_sumOfRows_4 at h
    refine w_iload_n (pc := 4) X dX3_sumOfRows_4 2 rfl ?_
    refine w_bipush (pc := 5) X dX3_sumOfRows_5 (v := (83)) rfl ?_
    refine w_icmp_ge (pc := 7) (tgt := 30) X dX3_sumOfRows_7 (by decide) (fun c4 => ?_) (fun c4 => ?_)
    · replace h := it_pos c4 h
      cases h
      exact w_sub (pc := 30) [1] rfl K
    · replace h := it_neg c4 h
      refine w_lload_n (pc := 10) X dX3_sumOfRows_10 1 rfl ?_
      refine w_iload_n (pc := 11) X dX3_sumOfRows_11 2 rfl ?_
      refine w_i2l (pc := 12) X dX3_sumOfRows_12 ?_
      refine w_aload_n (pc := 13) X dX3_sumOfRows_13 0 rfl ?_
      refine w_getR (pc := 14) X dX3_sumOfRows_14 clO_3 k_o 0 (by decide) (d := 1) rfl fl_3_11 ?_
      refine w_iload_n (pc := 17) X dX3_sumOfRows_17 2 rfl ?_
      obtain ⟨r3, s1, h2, h⟩ := bd2_inv h
      refine w_callSN (pc := 18) X dX3_sumOfRows_18 (M8_at_ h2) mn_3_23 cw_3_23 ⟨Nat.le_of_ble_eq_true rfl, Nat.le_of_ble_eq_true rfl⟩ rfl rfl (Nat.le_of_ble_eq_true rfl) ?_
      show wpm φ ad 21 [(0, .ref (ad o)), (1, .long v1), (3, .int v3)] [.long r3, .long (v3).toInt64, .long v1] s1
      refine w_lmul (pc := 21) X dX3_sumOfRows_21 ?_
      refine w_ladd (pc := 22) X dX3_sumOfRows_22 ?_
      refine w_lstore_n (pc := 23) X dX3_sumOfRows_23 1 rfl (by decide) (lv' := [(1, .long (v1 + ((v3).toInt64 * r3))), (0, .ref (ad o)), (3, .int v3)]) rfl ?_
      refine w_iinc (pc := 24) X dX3_sumOfRows_24 2 rfl (v := (v3 + 1)) rfl (by decide) (lv' := [(3, .int (v3 + 1)), (1, .long (v1 + ((v3).toInt64 * r3))), (0, .ref (ad o))]) rfl ?_
      refine w_goto (tgt := 4) (pc := 27) X dX3_sumOfRows_27 (by decide) ?_
      exact w_sub (pc := 4) [2, 1, 0] rfl (ih _ _ _ _ _ h K)
set_option maxRecDepth 20000 in
theorem M3_sumOfRows {o : Nat} {s : Sto} {r : Int64} {σ' : Sto} (h : f3_sumOfRows o s = some (r, σ')) : Ct yX3_sumOfRows cX3_sumOfRows 4 (some .long) 1 21 (fun ad => [.ref (ad o)]) s (fun ad => some (.long r)) σ' := by
  unfold f3_sumOfRows at h
  obtain ⟨k_o, h⟩ := gd_inv h
  refine Ct_of (by decide) (fun ad => Nat.le_of_ble_eq_true rfl) (fun φ ad X hQ => ?_)
  show wpm φ ad 0 [(0, .ref (ad o))] [] s
  replace X : Cx φ ad cX3_sumOfRows (some .long) RX3 4 1 21 := X
  refine w_lconst (pc := 0) X dX3_sumOfRows_0 (v := 0) rfl ?_
  refine w_lstore_n (pc := 1) X dX3_sumOfRows_1 1 rfl (by decide) (lv' := [(1, .long (0 : Int64)), (0, .ref (ad o))]) rfl ?_
  refine w_iconst (pc := 2) X dX3_sumOfRows_2 (v := 0) rfl ?_
  refine w_istore_n (pc := 3) X dX3_sumOfRows_3 3 rfl (by decide) (lv' := [(3, .int (0 : Int32)), (1, .long (0 : Int64)), (0, .ref (ad o))]) rfl ?_
  obtain ⟨y6, s7, h5, h⟩ := bd2_inv h
  refine w_sub (pc := 4) [2, 1, 0] rfl (WL3_sumOfRows_4 X o k_o FU (0 : Int64) (0 : Int32) s y6 s7 h5 ?_)
  refine w_lload_n (pc := 30) X dX3_sumOfRows_30 0 rfl ?_
  cases h
  exact w_lret X hQ dX3_sumOfRows_31
set_option maxRecDepth 20000 in
theorem WL3_atLeast_9 {φ : Fr} {ad : Nat → Nat} (X : Cx φ ad cX3_atLeast (some .long) RX3 5 1 21) (o : Nat) (k_o : kd o = 3) : ∀ (fuel : Nat) (v2 : Int64) (v4 : Int32) (s : Sto) (t2 : Int64) (t : Sto), L3_atLeast_9 o fuel v2 v4 s = some (t2, t) → wpm φ ad 34 [(2, .long t2)] [] t → wpm φ ad 9 [(0, .ref (ad o)), (2, .long v2), (4, .int v4)] [] s := by
  intro fuel
  induction fuel with
  | zero => intro v2 v4 s t2 t h; cases h
  | succ fuel ih =>
    intro v2 v4 s t2 t h K
    unfold L3_atLeast_9 at h
    refine w_iload (pc := 9) X dX3_atLeast_9 2 rfl ?_
    refine w_bipush (pc := 11) X dX3_atLeast_11 (v := (83)) rfl ?_
    refine w_icmp_ge (pc := 13) (tgt := 34) X dX3_atLeast_13 (by decide) (fun c5 => ?_) (fun c5 => ?_)
    · replace h := it_pos c5 h
      cases h
      exact w_sub (pc := 34) [1] rfl K
    · replace h := it_neg c5 h
      refine w_lload_n (pc := 16) X dX3_atLeast_16 1 rfl ?_
      refine w_aload_n (pc := 17) X dX3_atLeast_17 0 rfl ?_
      refine w_getR (pc := 18) X dX3_atLeast_18 clO_3 k_o 0 (by decide) (d := 1) rfl fl_3_11 ?_
      refine w_iload (pc := 21) X dX3_atLeast_21 2 rfl ?_
      obtain ⟨r4, s2, h3, h⟩ := bd2_inv h
      refine w_callSN (pc := 23) X dX3_atLeast_23 (M8_at_ h3) mn_3_23 cw_3_23 ⟨Nat.le_of_ble_eq_true rfl, Nat.le_of_ble_eq_true rfl⟩ rfl rfl (Nat.le_of_ble_eq_true rfl) ?_
      show wpm φ ad 26 [(0, .ref (ad o)), (2, .long v2), (4, .int v4)] [.long r4, .long v2] s2
      refine w_ladd (pc := 26) X dX3_atLeast_26 ?_
      refine w_lstore_n (pc := 27) X dX3_atLeast_27 2 rfl (by decide) (lv' := [(2, .long (v2 + r4)), (0, .ref (ad o)), (4, .int v4)]) rfl ?_
      refine w_iinc (pc := 28) X dX3_atLeast_28 2 rfl (v := (v4 + 1)) rfl (by decide) (lv' := [(4, .int (v4 + 1)), (2, .long (v2 + r4)), (0, .ref (ad o))]) rfl ?_
      refine w_goto (tgt := 9) (pc := 31) X dX3_atLeast_31 (by decide) ?_
      exact w_sub (pc := 9) [2, 1, 0] rfl (ih _ _ _ _ _ h K)
set_option maxRecDepth 20000 in
theorem M3_atLeast {o : Nat} {a1 : Int32} {s : Sto} {r : Int64} {σ' : Sto} (h : f3_atLeast o a1 s = some (r, σ')) : Ct yX3_atLeast cX3_atLeast 5 (some .long) 1 21 (fun ad => [.ref (ad o), .int a1]) s (fun ad => some (.long r)) σ' := by
  unfold f3_atLeast at h
  obtain ⟨k_o, h⟩ := gd_inv h
  refine Ct_of (by decide) (fun ad => Nat.le_of_ble_eq_true rfl) (fun φ ad X hQ => ?_)
  show wpm φ ad 0 [(0, .ref (ad o)), (1, .int a1)] [] s
  replace X : Cx φ ad cX3_atLeast (some .long) RX3 5 1 21 := X
  refine w_lconst (pc := 0) X dX3_atLeast_0 (v := 0) rfl ?_
  refine w_lstore_n (pc := 1) X dX3_atLeast_1 2 rfl (by decide) (lv' := [(2, .long (0 : Int64)), (0, .ref (ad o)), (1, .int a1)]) rfl ?_
  refine w_iconst (pc := 2) X dX3_atLeast_2 (v := 0) rfl ?_
  refine w_iload_n (pc := 3) X dX3_atLeast_3 2 rfl ?_
  refine w_mmax (pc := 4) X dX3_atLeast_4 cw_3_27 ⟨Nat.le_of_ble_eq_true rfl, Nat.le_of_ble_eq_true rfl⟩ ?_
  obtain ⟨x1, e_x1, h⟩ := nm_inv h
  refine w_nmi e_x1 ?_
  refine w_istore (pc := 7) X dX3_atLeast_7 (by decide) (lv' := [(4, .int x1), (2, .long (0 : Int64)), (0, .ref (ad o)), (1, .int a1)]) rfl ?_
  obtain ⟨y7, s8, h6, h⟩ := bd2_inv h
  refine w_sub (pc := 9) [2, 1, 0] rfl (WL3_atLeast_9 X o k_o FU (0 : Int64) x1 s y7 s8 h6 ?_)
  refine w_lload_n (pc := 34) X dX3_atLeast_34 0 rfl ?_
  cases h
  exact w_lret X hQ dX3_atLeast_35
set_option maxRecDepth 20000 in
theorem WL8_powerOfTen_4 {φ : Fr} {ad : Nat → Nat} (X : Cx φ ad cX8_powerOfTen (some .long) RX8 4 0 0) (a0 : Int32) (s : Sto)  : ∀ (fuel : Nat) (v1 : Int64) (v3 : Int32) (t1 : Int64), L8_powerOfTen_4 a0 s fuel v1 v3 = some (t1) → wpm φ ad 27 [(1, .long t1)] [] s → wpm φ ad 4 [(0, .int a0), (1, .long v1), (3, .int v3)] [] s := by
  intro fuel
  induction fuel with
  | zero => intro v1 v3 t1 h; cases h
  | succ fuel ih =>
    intro v1 v3 t1 h K
    unfold L8_powerOfTen_4 at h
    refine w_iload_n (pc := 4) X dX8_powerOfTen_4 2 rfl ?_
    refine w_iload_n (pc := 5) X dX8_powerOfTen_5 0 rfl ?_
    refine w_icmp_ge (pc := 6) (tgt := 27) X dX8_powerOfTen_6 (by decide) (fun c2 => ?_) (fun c2 => ?_)
    · replace h := it_pos c2 h
      cases h
      exact w_sub (pc := 27) [1] rfl K
    · replace h := it_neg c2 h
      refine w_iload_n (pc := 9) X dX8_powerOfTen_9 2 rfl ?_
      refine w_bipush (pc := 10) X dX8_powerOfTen_10 (v := (12)) rfl ?_
      refine w_icmp_ge (pc := 12) (tgt := 27) X dX8_powerOfTen_12 (by decide) (fun c1 => ?_) (fun c1 => ?_)
      · replace h := it_pos c1 h
        cases h
        exact w_sub (pc := 27) [1] rfl K
      · replace h := it_neg c1 h
        refine w_lload_n (pc := 15) X dX8_powerOfTen_15 1 rfl ?_
        refine w_ldc2 (pc := 16) X dX8_powerOfTen_16 (v := (10)) cn_8_308 ?_
        refine w_lmul (pc := 19) X dX8_powerOfTen_19 ?_
        refine w_lstore_n (pc := 20) X dX8_powerOfTen_20 1 rfl (by decide) (lv' := [(1, .long (v1 * (10 : Int64))), (0, .int a0), (3, .int v3)]) rfl ?_
        refine w_iinc (pc := 21) X dX8_powerOfTen_21 2 rfl (v := (v3 + 1)) rfl (by decide) (lv' := [(3, .int (v3 + 1)), (1, .long (v1 * (10 : Int64))), (0, .int a0)]) rfl ?_
        refine w_goto (tgt := 4) (pc := 24) X dX8_powerOfTen_24 (by decide) ?_
        exact w_sub (pc := 4) [2, 1, 0] rfl (ih _ _ _ h K)
set_option maxRecDepth 20000 in
theorem M8_powerOfTen {a0 : Int32} {s : Sto} {r : Int64} {σ' : Sto} (h : f8_powerOfTen a0 s = some (r, σ')) : Ct yX8_powerOfTen cX8_powerOfTen 4 (some .long) 0 0 (fun ad => [.int a0]) s (fun ad => some (.long r)) σ' := by
  unfold f8_powerOfTen at h
  refine Ct_of (by decide) (fun ad => Nat.le_of_ble_eq_true rfl) (fun φ ad X hQ => ?_)
  show wpm φ ad 0 [(0, .int a0)] [] s
  replace X : Cx φ ad cX8_powerOfTen (some .long) RX8 4 0 0 := X
  refine w_lconst (pc := 0) X dX8_powerOfTen_0 (v := 1) rfl ?_
  refine w_lstore_n (pc := 1) X dX8_powerOfTen_1 1 rfl (by decide) (lv' := [(1, .long (1 : Int64)), (0, .int a0)]) rfl ?_
  refine w_iconst (pc := 2) X dX8_powerOfTen_2 (v := 0) rfl ?_
  refine w_istore_n (pc := 3) X dX8_powerOfTen_3 3 rfl (by decide) (lv' := [(3, .int (0 : Int32)), (1, .long (1 : Int64)), (0, .int a0)]) rfl ?_
  obtain ⟨y4, h3, h⟩ := bd1_inv h
  refine w_sub (pc := 4) [2, 1, 0] rfl (WL8_powerOfTen_4 X a0 s  FU (1 : Int64) (0 : Int32) y4 h3 ?_)
  refine w_lload_n (pc := 27) X dX8_powerOfTen_27 0 rfl ?_
  cases h
  exact w_lret X hQ dX8_powerOfTen_28
set_option maxRecDepth 20000 in
theorem WL8_greatestDivisor_9 {φ : Fr} {ad : Nat → Nat} (X : Cx φ ad cX8_greatestDivisor (some .long) RX8 11 0 0)  (s : Sto)  : ∀ (fuel : Nat) (v4 : Int64) (v6 : Int64) (v8 : Int32) (t4 : Int64), L8_greatestDivisor_9 s fuel v4 v6 v8 = some (t4) → wpm φ ad 45 [(4, .long t4)] [] s → wpm φ ad 9 [(4, .long v4), (6, .long v6), (8, .int v8)] [] s := by
  intro fuel
  induction fuel with
  | zero => intro v4 v6 v8 t4 h; cases h
  | succ fuel ih =>
    intro v4 v6 v8 t4 h K
    unfold L8_greatestDivisor_9 at h
    refine w_iload (pc := 9) X dX8_greatestDivisor_9 2 rfl ?_
    refine w_sipush (pc := 11) X dX8_greatestDivisor_11 (v := (200)) rfl ?_
    refine w_icmp_ge (pc := 14) (tgt := 45) X dX8_greatestDivisor_14 (by decide) (fun c3 => ?_) (fun c3 => ?_)
    · replace h := it_pos c3 h
      cases h
      exact w_sub (pc := 45) [0] rfl K
    · replace h := it_neg c3 h
      refine w_lload (pc := 17) X dX8_greatestDivisor_17 1 rfl ?_
      refine w_lconst (pc := 19) X dX8_greatestDivisor_19 (v := 0) rfl ?_
      refine w_lcmp (pc := 20) X dX8_greatestDivisor_20 ?_
      refine w_if_eq (pc := 21) (tgt := 45) X dX8_greatestDivisor_21 (by decide) (fun c2 => ?_) (fun c2 => ?_)
      · replace h := it_pos c2 h
        cases h
        exact w_sub (pc := 45) [0] rfl K
      · replace h := it_neg c2 h
        refine w_lload (pc := 24) X dX8_greatestDivisor_24 0 rfl ?_
        refine w_lload (pc := 26) X dX8_greatestDivisor_26 1 rfl ?_
        obtain ⟨g1, h⟩ := gd_inv h
        refine w_lrem (pc := 28) X dX8_greatestDivisor_28 g1 ?_
        refine w_lstore (pc := 29) X dX8_greatestDivisor_29 (by decide) (lv' := [(9, .long (v4 - v4 / v6 * v6)), (4, .long v4), (6, .long v6), (8, .int v8)]) rfl ?_
        refine w_lload (pc := 31) X dX8_greatestDivisor_31 2 rfl ?_
        refine w_lstore (pc := 33) X dX8_greatestDivisor_33 (by decide) (lv' := [(4, .long v6), (9, .long (v4 - v4 / v6 * v6)), (6, .long v6), (8, .int v8)]) rfl ?_
        refine w_lload (pc := 35) X dX8_greatestDivisor_35 1 rfl ?_
        refine w_lstore (pc := 37) X dX8_greatestDivisor_37 (by decide) (lv' := [(6, .long (v4 - v4 / v6 * v6)), (4, .long v6), (9, .long (v4 - v4 / v6 * v6)), (8, .int v8)]) rfl ?_
        refine w_iinc (pc := 39) X dX8_greatestDivisor_39 3 rfl (v := (v8 + 1)) rfl (by decide) (lv' := [(8, .int (v8 + 1)), (6, .long (v4 - v4 / v6 * v6)), (4, .long v6), (9, .long (v4 - v4 / v6 * v6))]) rfl ?_
        refine w_goto (tgt := 9) (pc := 42) X dX8_greatestDivisor_42 (by decide) ?_
        exact w_sub (pc := 9) [2, 1, 0] rfl (ih _ _ _ _ h K)
set_option maxRecDepth 20000 in
theorem M8_greatestDivisor {a0 : Int64} {a2 : Int64} {s : Sto} {r : Int64} {σ' : Sto} (h : f8_greatestDivisor a0 a2 s = some (r, σ')) : Ct yX8_greatestDivisor cX8_greatestDivisor 11 (some .long) 0 0 (fun ad => [.long a0, .long a2]) s (fun ad => some (.long r)) σ' := by
  unfold f8_greatestDivisor at h
  refine Ct_of (by decide) (fun ad => Nat.le_of_ble_eq_true rfl) (fun φ ad X hQ => ?_)
  show wpm φ ad 0 [(0, .long a0), (2, .long a2)] [] s
  replace X : Cx φ ad cX8_greatestDivisor (some .long) RX8 11 0 0 := X
  refine w_lload_n (pc := 0) X dX8_greatestDivisor_0 0 rfl ?_
  refine w_lstore (pc := 1) X dX8_greatestDivisor_1 (by decide) (lv' := [(4, .long a0), (0, .long a0), (2, .long a2)]) rfl ?_
  refine w_lload_n (pc := 3) X dX8_greatestDivisor_3 2 rfl ?_
  refine w_lstore (pc := 4) X dX8_greatestDivisor_4 (by decide) (lv' := [(6, .long a2), (4, .long a0), (0, .long a0), (2, .long a2)]) rfl ?_
  refine w_iconst (pc := 6) X dX8_greatestDivisor_6 (v := 0) rfl ?_
  refine w_istore (pc := 7) X dX8_greatestDivisor_7 (by decide) (lv' := [(8, .int (0 : Int32)), (6, .long a2), (4, .long a0), (0, .long a0), (2, .long a2)]) rfl ?_
  obtain ⟨y5, h4, h⟩ := bd1_inv h
  refine w_sub (pc := 9) [2, 1, 0] rfl (WL8_greatestDivisor_9 X s  FU a0 a2 (0 : Int32) y5 h4 ?_)
  refine w_lload (pc := 45) X dX8_greatestDivisor_45 0 rfl ?_
  cases h
  exact w_lret X hQ dX8_greatestDivisor_47
set_option maxRecDepth 20000 in
theorem M8_chance {o : Nat} {a1 : Int32} {a2 : Int32} {a3 : Int32} {a4 : Int32} {s : Sto} {r : Int64} {σ' : Sto} (h : f8_chance o a1 a2 a3 a4 s = some (r, σ')) : Ct yX8_chance cX8_chance 11 (some .long) 3 75 (fun ad => [.ref (ad o), .int a1, .int a2, .int a3, .int a4]) s (fun ad => some (.long r)) σ' := by
  unfold f8_chance at h
  obtain ⟨k_o, h⟩ := gd_inv h
  refine Ct_of (by decide) (fun ad => Nat.le_of_ble_eq_true rfl) (fun φ ad X hQ => ?_)
  show wpm φ ad 0 [(0, .ref (ad o)), (1, .int a1), (2, .int a2), (3, .int a3), (4, .int a4)] [] s
  replace X : Cx φ ad cX8_chance (some .long) RX8 11 3 75 := X
  refine w_iload_n (pc := 0) X dX8_chance_0 1 rfl ?_
  refine w_iload_n (pc := 1) X dX8_chance_1 2 rfl ?_
  obtain ⟨r3, s1, h2, h⟩ := bd2_inv h
  refine w_callS (pc := 2) X dX8_chance_2 (M8_areChances h2) rfl cw_8_206 ⟨Nat.le_of_ble_eq_true rfl, Nat.le_of_ble_eq_true rfl⟩ rfl rfl (Nat.le_of_ble_eq_true rfl) ?_
  show wpm φ ad 5 [(0, .ref (ad o)), (1, .int a1), (2, .int a2), (3, .int a3), (4, .int a4)] [.int r3] s1
  refine w_if_eq (pc := 5) (tgt := 28) X dX8_chance_5 (by decide) (fun c36 => ?_) (fun c36 => ?_)
  · replace h := it_pos c36 h
    refine w_ldc2 (pc := 28) X dX8_chance_28 (v := (-1000000000000000002)) cn_8_195 ?_
    cases h
    exact w_lret X hQ dX8_chance_31
  · replace h := it_neg c36 h
    refine w_iload_n (pc := 8) X dX8_chance_8 3 rfl ?_
    refine w_iconst (pc := 9) X dX8_chance_9 (v := (-1)) rfl ?_
    refine w_bipush (pc := 10) X dX8_chance_10 (v := (50)) rfl ?_
    obtain ⟨r6, s4, h5, h⟩ := bd2_inv h
    refine w_callS (pc := 12) X dX8_chance_12 (M8_isWithin h5) rfl cw_8_64 ⟨Nat.le_of_ble_eq_true rfl, Nat.le_of_ble_eq_true rfl⟩ rfl rfl (Nat.le_of_ble_eq_true rfl) ?_
    show wpm φ ad 15 [(0, .ref (ad o)), (1, .int a1), (2, .int a2), (3, .int a3), (4, .int a4)] [.int r6] s4
    refine w_if_eq (pc := 15) (tgt := 28) X dX8_chance_15 (by decide) (fun c35 => ?_) (fun c35 => ?_)
    · replace h := it_pos c35 h
      refine w_ldc2 (pc := 28) X dX8_chance_28 (v := (-1000000000000000002)) cn_8_195 ?_
      cases h
      exact w_lret X hQ dX8_chance_31
    · replace h := it_neg c35 h
      refine w_iload (pc := 18) X dX8_chance_18 4 rfl ?_
      refine w_iconst (pc := 20) X dX8_chance_20 (v := 0) rfl ?_
      refine w_iconst (pc := 21) X dX8_chance_21 (v := 1) rfl ?_
      obtain ⟨r9, s7, h8, h⟩ := bd2_inv h
      refine w_callS (pc := 22) X dX8_chance_22 (M8_isWithin h8) rfl cw_8_64 ⟨Nat.le_of_ble_eq_true rfl, Nat.le_of_ble_eq_true rfl⟩ rfl rfl (Nat.le_of_ble_eq_true rfl) ?_
      show wpm φ ad 25 [(0, .ref (ad o)), (1, .int a1), (2, .int a2), (3, .int a3), (4, .int a4)] [.int r9] s7
      refine w_if_ne (pc := 25) (tgt := 32) X dX8_chance_25 (by decide) (fun c34 => ?_) (fun c34 => ?_)
      · replace h := it_neg c34 h
        refine w_aload_n (pc := 32) X dX8_chance_32 0 rfl ?_
        refine w_getR (pc := 33) X dX8_chance_33 clO_8 k_o 8 (by decide) (d := 41) rfl fl_8_60 ?_
        refine w_aload_n (pc := 36) X dX8_chance_36 0 rfl ?_
        refine w_getR (pc := 37) X dX8_chance_37 clO_8 k_o 0 (by decide) (d := 1) rfl fl_8_10 ?_
        refine w_getR (pc := 40) X dX8_chance_40 clO_0 (kp_8_1 k_o) 3 (by decide) (d := 2) rfl fl_8_95 ?_
        refine w_getI (pc := 43) X dX8_chance_43 clO_2 (kp_0_2 (kp_8_1 k_o)) 3 (by decide) rfl fl_8_134 ?_
        refine w_iload_n (pc := 46) X dX8_chance_46 1 rfl ?_
        refine w_iload_n (pc := 47) X dX8_chance_47 2 rfl ?_
        obtain ⟨s10, h11, h⟩ := bd1_inv h
        refine w_callV (pc := 48) X dX8_chance_48 (M3_play h11) (kp_8_41 k_o) (by decide) rfl cw_8_210 ⟨Nat.le_of_ble_eq_true rfl, Nat.le_of_ble_eq_true rfl⟩ rfl rfl (Nat.le_of_ble_eq_true rfl) ?_
        show wpm φ ad 51 [(0, .ref (ad o)), (1, .int a1), (2, .int a2), (3, .int a3), (4, .int a4)] [] s10
        refine w_iload_n (pc := 51) X dX8_chance_51 3 rfl ?_
        obtain ⟨x19, s20, h33, h⟩ := bd2_inv h
        have K52 : wpm φ ad 73 [(1, .int a1), (4, .int a4)] [.long x19] s20 := by
          refine w_lstore (pc := 73) X dX8_chance_73 (by decide) (lv' := [(5, .long x19), (1, .int a1), (4, .int a4)]) rfl ?_
          refine w_iload_n (pc := 75) X dX8_chance_75 1 rfl ?_
          obtain ⟨r23, s21, h22, h⟩ := bd2_inv h
          refine w_callS (pc := 76) X dX8_chance_76 (M8_powerOfTen h22) rfl cw_8_222 ⟨Nat.le_of_ble_eq_true rfl, Nat.le_of_ble_eq_true rfl⟩ rfl rfl (Nat.le_of_ble_eq_true rfl) ?_
          show wpm φ ad 79 [(5, .long x19), (1, .int a1), (4, .int a4)] [.long r23] s21
          refine w_lstore (pc := 79) X dX8_chance_79 (by decide) (lv' := [(7, .long r23), (5, .long x19), (1, .int a1), (4, .int a4)]) rfl ?_
          refine w_lload (pc := 81) X dX8_chance_81 1 rfl ?_
          refine w_lload (pc := 83) X dX8_chance_83 0 rfl ?_
          obtain ⟨r26, s24, h25, h⟩ := bd2_inv h
          refine w_callS (pc := 85) X dX8_chance_85 (M8_greatestDivisor h25) rfl cw_8_225 ⟨Nat.le_of_ble_eq_true rfl, Nat.le_of_ble_eq_true rfl⟩ rfl rfl (Nat.le_of_ble_eq_true rfl) ?_
          show wpm φ ad 88 [(7, .long r23), (5, .long x19), (1, .int a1), (4, .int a4)] [.long r26] s24
          refine w_lstore (pc := 88) X dX8_chance_88 (by decide) (lv' := [(9, .long r26), (7, .long r23), (5, .long x19), (1, .int a1), (4, .int a4)]) rfl ?_
          refine w_lload (pc := 90) X dX8_chance_90 0 rfl ?_
          refine w_lconst (pc := 92) X dX8_chance_92 (v := 1) rfl ?_
          refine w_lcmp (pc := 93) X dX8_chance_93 ?_
          obtain ⟨x28, h32, h⟩ := bd1_inv h
          have K94 : wpm φ ad 100 [(4, .int a4), (5, .long x19), (7, .long r23), (9, .long x28)] [] s24 := by
            refine w_iload (pc := 100) X dX8_chance_100 0 rfl ?_
            refine w_if_ne (pc := 102) (tgt := 110) X dX8_chance_102 (by decide) (fun c31 => ?_) (fun c31 => ?_)
            · replace h := it_neg c31 h
              refine w_lload (pc := 110) X dX8_chance_110 2 rfl ?_
              refine w_lload (pc := 112) X dX8_chance_112 3 rfl ?_
              obtain ⟨g29, h⟩ := gd_inv h
              refine w_ldiv (pc := 114) X dX8_chance_114 g29 ?_
              cases h
              exact w_lret X hQ dX8_chance_115
            · replace h := it_pos c31 h
              refine w_lload (pc := 105) X dX8_chance_105 1 rfl ?_
              refine w_goto (tgt := 112) (pc := 107) X dX8_chance_107 (by decide) ?_
              refine w_lload (pc := 112) X dX8_chance_112 3 rfl ?_
              obtain ⟨g30, h⟩ := gd_inv h
              refine w_ldiv (pc := 114) X dX8_chance_114 g30 ?_
              cases h
              exact w_lret X hQ dX8_chance_115
          clear h
          have h := h32
          clear h32
          refine w_if_ge (pc := 94) (tgt := 100) X dX8_chance_94 (by decide) (fun c27 => ?_) (fun c27 => ?_)
          · replace h := it_pos c27 h
            cases h
            exact w_sub (pc := 100) [4, 2, 1, 0] rfl K94
          · replace h := it_neg c27 h
            refine w_lconst (pc := 97) X dX8_chance_97 (v := 1) rfl ?_
            refine w_lstore (pc := 98) X dX8_chance_98 (by decide) (lv' := [(9, .long (1 : Int64)), (7, .long r23), (5, .long x19), (1, .int a1), (4, .int a4)]) rfl ?_
            cases h
            exact w_sub (pc := 100) [4, 2, 1, 0] rfl K94
        clear h
        have h := h33
        clear h33
        refine w_if_ge (pc := 52) (tgt := 65) X dX8_chance_52 (by decide) (fun c18 => ?_) (fun c18 => ?_)
        · replace h := it_pos c18 h
          refine w_aload_n (pc := 65) X dX8_chance_65 0 rfl ?_
          refine w_getR (pc := 66) X dX8_chance_66 clO_8 k_o 8 (by decide) (d := 41) rfl fl_8_60 ?_
          refine w_iload_n (pc := 69) X dX8_chance_69 3 rfl ?_
          obtain ⟨r14, s12, h13, h⟩ := bd2_inv h
          refine w_callV (pc := 70) X dX8_chance_70 (M3_atLeast h13) (kp_8_41 k_o) (by decide) rfl cw_8_218 ⟨Nat.le_of_ble_eq_true rfl, Nat.le_of_ble_eq_true rfl⟩ rfl rfl (Nat.le_of_ble_eq_true rfl) ?_
          show wpm φ ad 73 [(0, .ref (ad o)), (1, .int a1), (2, .int a2), (3, .int a3), (4, .int a4)] [.long r14] s12
          cases h
          exact w_sub (pc := 73) [1, 4] rfl K52
        · replace h := it_neg c18 h
          refine w_aload_n (pc := 55) X dX8_chance_55 0 rfl ?_
          refine w_getR (pc := 56) X dX8_chance_56 clO_8 k_o 8 (by decide) (d := 41) rfl fl_8_60 ?_
          obtain ⟨r17, s15, h16, h⟩ := bd2_inv h
          refine w_callV (pc := 59) X dX8_chance_59 (M3_sumOfRows h16) (kp_8_41 k_o) (by decide) rfl cw_8_214 ⟨Nat.le_of_ble_eq_true rfl, Nat.le_of_ble_eq_true rfl⟩ rfl rfl (Nat.le_of_ble_eq_true rfl) ?_
          show wpm φ ad 62 [(0, .ref (ad o)), (1, .int a1), (2, .int a2), (3, .int a3), (4, .int a4)] [.long r17] s15
          refine w_goto (tgt := 73) (pc := 62) X dX8_chance_62 (by decide) ?_
          cases h
          exact w_sub (pc := 73) [1, 4] rfl K52
      · replace h := it_pos c34 h
        refine w_ldc2 (pc := 28) X dX8_chance_28 (v := (-1000000000000000002)) cn_8_195 ?_
        cases h
        exact w_lret X hQ dX8_chance_31
set_option maxRecDepth 20000 in
theorem WL8_over_59 {φ : Fr} {ad : Nat → Nat} (X : Cx φ ad cX8_over (some .int) RX8 9 3 75) (o : Nat) (a1 : Int32) (a2 : Int32) (a3 : Int32) (a5 : Int32) (a6 : Int64) (k_o : kd o = 8) {r : Int32} {σ' : Sto} (hQ : Fini φ ad (some (.int r)) σ') : ∀ (fuel : Nat) (v8 : Int32) (s : Sto), L8_over_59 o a1 a2 a3 a5 a6 fuel v8 s = some (r, σ') → wpm φ ad 59 [(0, .ref (ad o)), (1, .int a1), (2, .int a2), (3, .int a3), (5, .int a5), (6, .long a6), (8, .int v8)] [] s := by
  intro fuel
  induction fuel with
  | zero => intro v8 s h; cases h
  | succ fuel ih =>
    intro v8 s h
    unfold L8_over_59 at h
    refine w_iload (pc := 59) X dX8_over_59 6 rfl ?_
    refine w_bipush (pc := 61) X dX8_over_61 (v := (40)) rfl ?_
    refine w_icmp_gt (pc := 63) (tgt := 115) X dX8_over_63 (by decide) (fun c22 => ?_) (fun c22 => ?_)
    · replace h := it_pos c22 h
      refine w_bipush (pc := 115) X dX8_over_115 (v := (-6)) rfl ?_
      cases h
      exact w_iret X hQ dX8_over_117
    · replace h := it_neg c22 h
      refine w_aload_n (pc := 66) X dX8_over_66 0 rfl ?_
      refine w_getR (pc := 67) X dX8_over_67 clO_8 k_o 8 (by decide) (d := 41) rfl fl_8_60 ?_
      refine w_aload_n (pc := 70) X dX8_over_70 0 rfl ?_
      refine w_getR (pc := 71) X dX8_over_71 clO_8 k_o 0 (by decide) (d := 1) rfl fl_8_10 ?_
      refine w_getR (pc := 74) X dX8_over_74 clO_0 (kp_8_1 k_o) 3 (by decide) (d := 2) rfl fl_8_95 ?_
      refine w_getI (pc := 77) X dX8_over_77 clO_2 (kp_0_2 (kp_8_1 k_o)) 3 (by decide) rfl fl_8_134 ?_
      refine w_iload (pc := 80) X dX8_over_80 6 rfl ?_
      refine w_iadd (pc := 82) X dX8_over_82 ?_
      refine w_iload_n (pc := 83) X dX8_over_83 1 rfl ?_
      refine w_iload_n (pc := 84) X dX8_over_84 2 rfl ?_
      obtain ⟨s16, h17, h⟩ := bd1_inv h
      refine w_callV (pc := 85) X dX8_over_85 (M3_play h17) (kp_8_41 k_o) (by decide) rfl cw_8_210 ⟨Nat.le_of_ble_eq_true rfl, Nat.le_of_ble_eq_true rfl⟩ rfl rfl (Nat.le_of_ble_eq_true rfl) ?_
      show wpm φ ad 88 [(0, .ref (ad o)), (1, .int a1), (2, .int a2), (3, .int a3), (5, .int a5), (6, .long a6), (8, .int v8)] [] s16
      refine w_aload_n (pc := 88) X dX8_over_88 0 rfl ?_
      refine w_getR (pc := 89) X dX8_over_89 clO_8 k_o 8 (by decide) (d := 41) rfl fl_8_60 ?_
      refine w_iload_n (pc := 92) X dX8_over_92 3 rfl ?_
      obtain ⟨r20, s18, h19, h⟩ := bd2_inv h
      refine w_callV (pc := 93) X dX8_over_93 (M3_atLeast h19) (kp_8_41 k_o) (by decide) rfl cw_8_218 ⟨Nat.le_of_ble_eq_true rfl, Nat.le_of_ble_eq_true rfl⟩ rfl rfl (Nat.le_of_ble_eq_true rfl) ?_
      show wpm φ ad 96 [(0, .ref (ad o)), (1, .int a1), (2, .int a2), (3, .int a3), (5, .int a5), (6, .long a6), (8, .int v8)] [.long r20] s18
      refine w_iload (pc := 96) X dX8_over_96 4 rfl ?_
      refine w_i2l (pc := 98) X dX8_over_98 ?_
      refine w_lmul (pc := 99) X dX8_over_99 ?_
      refine w_lload (pc := 100) X dX8_over_100 5 rfl ?_
      refine w_lcmp (pc := 102) X dX8_over_102 ?_
      refine w_if_lt (pc := 103) (tgt := 109) X dX8_over_103 (by decide) (fun c21 => ?_) (fun c21 => ?_)
      · replace h := it_pos c21 h
        refine w_iinc (pc := 109) X dX8_over_109 6 rfl (v := (v8 + 1)) rfl (by decide) (lv' := [(8, .int (v8 + 1)), (0, .ref (ad o)), (1, .int a1), (2, .int a2), (3, .int a3), (5, .int a5), (6, .long a6)]) rfl ?_
        refine w_goto (tgt := 59) (pc := 112) X dX8_over_112 (by decide) ?_
        exact w_sub (pc := 59) [1, 2, 3, 4, 5, 6, 0] rfl (ih _ _ h)
      · replace h := it_neg c21 h
        refine w_iload (pc := 106) X dX8_over_106 6 rfl ?_
        cases h
        exact w_iret X hQ dX8_over_108
set_option maxRecDepth 20000 in
theorem M8_over {o : Nat} {a1 : Int32} {a2 : Int32} {a3 : Int32} {a4 : Int32} {a5 : Int32} {s : Sto} {r : Int32} {σ' : Sto} (h : f8_over o a1 a2 a3 a4 a5 s = some (r, σ')) : Ct yX8_over cX8_over 9 (some .int) 3 75 (fun ad => [.ref (ad o), .int a1, .int a2, .int a3, .int a4, .int a5]) s (fun ad => some (.int r)) σ' := by
  unfold f8_over at h
  obtain ⟨k_o, h⟩ := gd_inv h
  refine Ct_of (by decide) (fun ad => Nat.le_of_ble_eq_true rfl) (fun φ ad X hQ => ?_)
  show wpm φ ad 0 [(0, .ref (ad o)), (1, .int a1), (2, .int a2), (3, .int a3), (4, .int a4), (5, .int a5)] [] s
  replace X : Cx φ ad cX8_over (some .int) RX8 9 3 75 := X
  refine w_iload_n (pc := 0) X dX8_over_0 1 rfl ?_
  refine w_iload_n (pc := 1) X dX8_over_1 2 rfl ?_
  obtain ⟨r3, s1, h2, h⟩ := bd2_inv h
  refine w_callS (pc := 2) X dX8_over_2 (M8_areChances h2) rfl cw_8_206 ⟨Nat.le_of_ble_eq_true rfl, Nat.le_of_ble_eq_true rfl⟩ rfl rfl (Nat.le_of_ble_eq_true rfl) ?_
  show wpm φ ad 5 [(0, .ref (ad o)), (1, .int a1), (2, .int a2), (3, .int a3), (4, .int a4), (5, .int a5)] [.int r3] s1
  refine w_if_eq (pc := 5) (tgt := 18) X dX8_over_5 (by decide) (fun c26 => ?_) (fun c26 => ?_)
  · replace h := it_pos c26 h
    refine w_bipush (pc := 18) X dX8_over_18 (v := (-2)) rfl ?_
    cases h
    exact w_iret X hQ dX8_over_20
  · replace h := it_neg c26 h
    refine w_iload_n (pc := 8) X dX8_over_8 3 rfl ?_
    refine w_iconst (pc := 9) X dX8_over_9 (v := 0) rfl ?_
    refine w_bipush (pc := 10) X dX8_over_10 (v := (50)) rfl ?_
    obtain ⟨r6, s4, h5, h⟩ := bd2_inv h
    refine w_callS (pc := 12) X dX8_over_12 (M8_isWithin h5) rfl cw_8_64 ⟨Nat.le_of_ble_eq_true rfl, Nat.le_of_ble_eq_true rfl⟩ rfl rfl (Nat.le_of_ble_eq_true rfl) ?_
    show wpm φ ad 15 [(0, .ref (ad o)), (1, .int a1), (2, .int a2), (3, .int a3), (4, .int a4), (5, .int a5)] [.int r6] s4
    refine w_if_ne (pc := 15) (tgt := 21) X dX8_over_15 (by decide) (fun c25 => ?_) (fun c25 => ?_)
    · replace h := it_neg c25 h
      refine w_iload (pc := 21) X dX8_over_21 5 rfl ?_
      refine w_iconst (pc := 23) X dX8_over_23 (v := 1) rfl ?_
      refine w_bipush (pc := 24) X dX8_over_24 (v := (100)) rfl ?_
      obtain ⟨r9, s7, h8, h⟩ := bd2_inv h
      refine w_callS (pc := 26) X dX8_over_26 (M8_isWithin h8) rfl cw_8_64 ⟨Nat.le_of_ble_eq_true rfl, Nat.le_of_ble_eq_true rfl⟩ rfl rfl (Nat.le_of_ble_eq_true rfl) ?_
      show wpm φ ad 29 [(0, .ref (ad o)), (1, .int a1), (2, .int a2), (3, .int a3), (4, .int a4), (5, .int a5)] [.int r9] s7
      refine w_if_eq (pc := 29) (tgt := 43) X dX8_over_29 (by decide) (fun c24 => ?_) (fun c24 => ?_)
      · replace h := it_pos c24 h
        refine w_bipush (pc := 43) X dX8_over_43 (v := (-2)) rfl ?_
        cases h
        exact w_iret X hQ dX8_over_45
      · replace h := it_neg c24 h
        refine w_iload (pc := 32) X dX8_over_32 4 rfl ?_
        refine w_iconst (pc := 34) X dX8_over_34 (v := 0) rfl ?_
        refine w_iload (pc := 35) X dX8_over_35 5 rfl ?_
        obtain ⟨r12, s10, h11, h⟩ := bd2_inv h
        refine w_callS (pc := 37) X dX8_over_37 (M8_isWithin h11) rfl cw_8_64 ⟨Nat.le_of_ble_eq_true rfl, Nat.le_of_ble_eq_true rfl⟩ rfl rfl (Nat.le_of_ble_eq_true rfl) ?_
        show wpm φ ad 40 [(0, .ref (ad o)), (1, .int a1), (2, .int a2), (3, .int a3), (4, .int a4), (5, .int a5)] [.int r12] s10
        refine w_if_ne (pc := 40) (tgt := 46) X dX8_over_40 (by decide) (fun c23 => ?_) (fun c23 => ?_)
        · replace h := it_neg c23 h
          refine w_iload (pc := 46) X dX8_over_46 4 rfl ?_
          refine w_i2l (pc := 48) X dX8_over_48 ?_
          refine w_iload_n (pc := 49) X dX8_over_49 1 rfl ?_
          obtain ⟨r15, s13, h14, h⟩ := bd2_inv h
          refine w_callS (pc := 50) X dX8_over_50 (M8_powerOfTen h14) rfl cw_8_222 ⟨Nat.le_of_ble_eq_true rfl, Nat.le_of_ble_eq_true rfl⟩ rfl rfl (Nat.le_of_ble_eq_true rfl) ?_
          show wpm φ ad 53 [(0, .ref (ad o)), (1, .int a1), (2, .int a2), (3, .int a3), (4, .int a4), (5, .int a5)] [.long r15, .long (a4).toInt64] s13
          refine w_lmul (pc := 53) X dX8_over_53 ?_
          refine w_lstore (pc := 54) X dX8_over_54 (by decide) (lv' := [(6, .long ((a4).toInt64 * r15)), (0, .ref (ad o)), (1, .int a1), (2, .int a2), (3, .int a3), (4, .int a4), (5, .int a5)]) rfl ?_
          refine w_iconst (pc := 56) X dX8_over_56 (v := 0) rfl ?_
          refine w_istore (pc := 57) X dX8_over_57 (by decide) (lv' := [(8, .int (0 : Int32)), (6, .long ((a4).toInt64 * r15)), (0, .ref (ad o)), (1, .int a1), (2, .int a2), (3, .int a3), (4, .int a4), (5, .int a5)]) rfl ?_
          exact w_sub (pc := 59) [2, 3, 4, 5, 7, 1, 0] rfl (WL8_over_59 X o a1 a2 a3 a5 ((a4).toInt64 * r15) k_o hQ FU (0 : Int32) s13 h)
        · replace h := it_pos c23 h
          refine w_bipush (pc := 43) X dX8_over_43 (v := (-2)) rfl ?_
          cases h
          exact w_iret X hQ dX8_over_45
    · replace h := it_pos c25 h
      refine w_bipush (pc := 18) X dX8_over_18 (v := (-2)) rfl ?_
      cases h
      exact w_iret X hQ dX8_over_20
set_option maxRecDepth 20000 in
theorem WL8_patterns_30 {φ : Fr} {ad : Nat → Nat} (X : Cx φ ad cX8_patterns (some .int) RX8 7 3 65) (a1 : Int32) (a2 : Int32) (s : Sto)  : ∀ (fuel : Nat) (v3 : Int32) (v4 : Int32) (v5 : Int32) (t3 : Int32) (t4 : Int32), L8_patterns_30 a1 a2 s fuel v3 v4 v5 = some (t3, t4) → wpm φ ad 60 [(3, .int t3), (4, .int t4)] [] s → wpm φ ad 30 [(1, .int a1), (2, .int a2), (3, .int v3), (4, .int v4), (5, .int v5)] [] s := by
  intro fuel
  induction fuel with
  | zero => intro v3 v4 v5 t3 t4 h; cases h
  | succ fuel ih =>
    intro v3 v4 v5 t3 t4 h K
    unfold L8_patterns_30 at h
    refine w_iload (pc := 30) X dX8_patterns_30 4 rfl ?_
    refine w_iload_n (pc := 32) X dX8_patterns_32 0 rfl ?_
    refine w_icmp_ge (pc := 33) (tgt := 60) X dX8_patterns_33 (by decide) (fun c7 => ?_) (fun c7 => ?_)
    · replace h := it_pos c7 h
      cases h
      exact w_sub (pc := 60) [2, 3] rfl K
    · replace h := it_neg c7 h
      refine w_iload_n (pc := 36) X dX8_patterns_36 2 rfl ?_
      refine w_iload (pc := 37) X dX8_patterns_37 3 rfl ?_
      refine w_iadd (pc := 39) X dX8_patterns_39 ?_
      refine w_istore (pc := 40) X dX8_patterns_40 (by decide) (lv' := [(6, .int (v3 + v4)), (1, .int a1), (2, .int a2), (3, .int v3), (4, .int v4), (5, .int v5)]) rfl ?_
      refine w_iload (pc := 42) X dX8_patterns_42 0 rfl ?_
      refine w_iload_n (pc := 44) X dX8_patterns_44 2 rfl ?_
      refine w_imul (pc := 45) X dX8_patterns_45 ?_
      refine w_iload (pc := 46) X dX8_patterns_46 4 rfl ?_
      refine w_iadd (pc := 48) X dX8_patterns_48 ?_
      refine w_istore (pc := 49) X dX8_patterns_49 (by decide) (lv' := [(4, .int (((v3 + v4) * a2) + v4)), (6, .int (v3 + v4)), (1, .int a1), (2, .int a2), (3, .int v3), (5, .int v5)]) rfl ?_
      refine w_iload (pc := 51) X dX8_patterns_51 1 rfl ?_
      refine w_istore_n (pc := 53) X dX8_patterns_53 3 rfl (by decide) (lv' := [(3, .int (v3 + v4)), (4, .int (((v3 + v4) * a2) + v4)), (6, .int (v3 + v4)), (1, .int a1), (2, .int a2), (5, .int v5)]) rfl ?_
      refine w_iinc (pc := 54) X dX8_patterns_54 5 rfl (v := (v5 + 1)) rfl (by decide) (lv' := [(5, .int (v5 + 1)), (3, .int (v3 + v4)), (4, .int (((v3 + v4) * a2) + v4)), (6, .int (v3 + v4)), (1, .int a1), (2, .int a2)]) rfl ?_
      refine w_goto (tgt := 30) (pc := 57) X dX8_patterns_57 (by decide) ?_
      exact w_sub (pc := 30) [4, 5, 1, 2, 0] rfl (ih _ _ _ _ _ h K)
set_option maxRecDepth 20000 in
theorem M8_patterns {o : Nat} {a1 : Int32} {s : Sto} {r : Int32} {σ' : Sto} (h : f8_patterns o a1 s = some (r, σ')) : Ct yX8_patterns cX8_patterns 7 (some .int) 3 65 (fun ad => [.ref (ad o), .int a1]) s (fun ad => some (.int r)) σ' := by
  unfold f8_patterns at h
  obtain ⟨k_o, h⟩ := gd_inv h
  refine Ct_of (by decide) (fun ad => Nat.le_of_ble_eq_true rfl) (fun φ ad X hQ => ?_)
  show wpm φ ad 0 [(0, .ref (ad o)), (1, .int a1)] [] s
  replace X : Cx φ ad cX8_patterns (some .int) RX8 7 3 65 := X
  refine w_iload_n (pc := 0) X dX8_patterns_0 1 rfl ?_
  refine w_iconst (pc := 1) X dX8_patterns_1 (v := 0) rfl ?_
  refine w_bipush (pc := 2) X dX8_patterns_2 (v := (8)) rfl ?_
  obtain ⟨r3, s1, h2, h⟩ := bd2_inv h
  refine w_callS (pc := 4) X dX8_patterns_4 (M8_isWithin h2) rfl cw_8_64 ⟨Nat.le_of_ble_eq_true rfl, Nat.le_of_ble_eq_true rfl⟩ rfl rfl (Nat.le_of_ble_eq_true rfl) ?_
  show wpm φ ad 7 [(0, .ref (ad o)), (1, .int a1)] [.int r3] s1
  refine w_if_ne (pc := 7) (tgt := 13) X dX8_patterns_7 (by decide) (fun c11 => ?_) (fun c11 => ?_)
  · replace h := it_neg c11 h
    refine w_aload_n (pc := 13) X dX8_patterns_13 0 rfl ?_
    refine w_getR (pc := 14) X dX8_patterns_14 clO_8 k_o 0 (by decide) (d := 1) rfl fl_8_10 ?_
    refine w_iconst (pc := 17) X dX8_patterns_17 (v := 1) rfl ?_
    obtain ⟨r6, s4, h5, h⟩ := bd2_inv h
    refine w_callV (pc := 18) X dX8_patterns_18 (M0_countWithout h5) (kp_8_1 k_o) (by decide) rfl cw_8_229 ⟨Nat.le_of_ble_eq_true rfl, Nat.le_of_ble_eq_true rfl⟩ rfl rfl (Nat.le_of_ble_eq_true rfl) ?_
    show wpm φ ad 21 [(0, .ref (ad o)), (1, .int a1)] [.int r6] s4
    refine w_istore_n (pc := 21) X dX8_patterns_21 2 rfl (by decide) (lv' := [(2, .int r6), (0, .ref (ad o)), (1, .int a1)]) rfl ?_
    refine w_iconst (pc := 22) X dX8_patterns_22 (v := 1) rfl ?_
    refine w_istore_n (pc := 23) X dX8_patterns_23 3 rfl (by decide) (lv' := [(3, .int (1 : Int32)), (2, .int r6), (0, .ref (ad o)), (1, .int a1)]) rfl ?_
    refine w_iconst (pc := 24) X dX8_patterns_24 (v := 0) rfl ?_
    refine w_istore (pc := 25) X dX8_patterns_25 (by decide) (lv' := [(4, .int (0 : Int32)), (3, .int (1 : Int32)), (2, .int r6), (0, .ref (ad o)), (1, .int a1)]) rfl ?_
    refine w_iconst (pc := 27) X dX8_patterns_27 (v := 0) rfl ?_
    refine w_istore (pc := 28) X dX8_patterns_28 (by decide) (lv' := [(5, .int (0 : Int32)), (4, .int (0 : Int32)), (3, .int (1 : Int32)), (2, .int r6), (0, .ref (ad o)), (1, .int a1)]) rfl ?_
    obtain ⟨y9, y10, h8, h⟩ := bd2_inv h
    refine w_sub (pc := 30) [5, 3, 2, 1, 0] rfl (WL8_patterns_30 X a1 r6 s4  FU (1 : Int32) (0 : Int32) (0 : Int32) y9 y10 h8 ?_)
    refine w_iload_n (pc := 60) X dX8_patterns_60 0 rfl ?_
    refine w_iload (pc := 61) X dX8_patterns_61 1 rfl ?_
    refine w_iadd (pc := 63) X dX8_patterns_63 ?_
    cases h
    exact w_iret X hQ dX8_patterns_64
  · replace h := it_pos c11 h
    refine w_bipush (pc := 10) X dX8_patterns_10 (v := (-2)) rfl ?_
    cases h
    exact w_iret X hQ dX8_patterns_12
set_option maxRecDepth 20000 in
theorem M8_drawnRemark {a0 : Int32} {a1 : Int32} {s : Sto} {r : Int32} {σ' : Sto} (h : f8_drawnRemark a0 a1 s = some (r, σ')) : Ct yX8_drawnRemark cX8_drawnRemark 3 (some .int) 1 22 (fun ad => [.int a0, .int a1]) s (fun ad => some (.int r)) σ' := by
  unfold f8_drawnRemark at h
  refine Ct_of (by decide) (fun ad => Nat.le_of_ble_eq_true rfl) (fun φ ad X hQ => ?_)
  show wpm φ ad 0 [(0, .int a0), (1, .int a1)] [] s
  replace X : Cx φ ad cX8_drawnRemark (some .int) RX8 3 1 22 := X
  refine w_iload_n (pc := 0) X dX8_drawnRemark_0 0 rfl ?_
  refine w_bipush (pc := 1) X dX8_drawnRemark_1 (v := (8)) rfl ?_
  refine w_irem (pc := 3) X dX8_drawnRemark_3 (by decide) ?_
  by_cases c11 : (a0 - a0 / (8 : Int32) * (8 : Int32)) = 0
  · replace h := it_pos c11 h
    refine w_tswIn (pc := 4) (tgt := 32) X dX8_drawnRemark_4 c11 (by decide) (by decide) rfl (by decide) ?_
    refine w_bipush (pc := 32) X dX8_drawnRemark_32 (v := (100)) rfl ?_
    cases h
    exact w_iret X hQ dX8_drawnRemark_34
  replace h := it_neg c11 h
  by_cases c12 : (a0 - a0 / (8 : Int32) * (8 : Int32)) = 1
  · replace h := it_pos c12 h
    refine w_tswIn (pc := 4) (tgt := 35) X dX8_drawnRemark_4 c12 (by decide) (by decide) rfl (by decide) ?_
    refine w_bipush (pc := 35) X dX8_drawnRemark_35 (v := (101)) rfl ?_
    cases h
    exact w_iret X hQ dX8_drawnRemark_37
  replace h := it_neg c12 h
  by_cases c13 : (a0 - a0 / (8 : Int32) * (8 : Int32)) = 2
  · replace h := it_pos c13 h
    refine w_tswIn (pc := 4) (tgt := 38) X dX8_drawnRemark_4 c13 (by decide) (by decide) rfl (by decide) ?_
    refine w_bipush (pc := 38) X dX8_drawnRemark_38 (v := (102)) rfl ?_
    cases h
    exact w_iret X hQ dX8_drawnRemark_40
  replace h := it_neg c13 h
  refine w_tswOut (pc := 4) (tgt := 41) X dX8_drawnRemark_4 (fun i i1 i2 => by
      rcases (show i = 0 ∨ i = 1 ∨ i = 2 by omega) with rfl | rfl | rfl
      · exact c11
      · exact c12
      · exact c13) (by decide) ?_
  refine w_iload_n (pc := 41) X dX8_drawnRemark_41 1 rfl ?_
  obtain ⟨x3, h10, h⟩ := bd1_inv h
  have K42 : wpm φ ad 55 [(0, .int a0)] [.int x3] s := by
    refine w_istore_n (pc := 55) X dX8_drawnRemark_55 2 rfl (by decide) (lv' := [(2, .int x3), (0, .int a0)]) rfl ?_
    refine w_iload_n (pc := 56) X dX8_drawnRemark_56 1 rfl ?_
    refine w_bipush (pc := 57) X dX8_drawnRemark_57 (v := (8)) rfl ?_
    refine w_idiv (pc := 59) X dX8_drawnRemark_59 (by decide) ?_
    refine w_bipush (pc := 60) X dX8_drawnRemark_60 (v := (6)) rfl ?_
    refine w_irem (pc := 62) X dX8_drawnRemark_62 (by decide) ?_
    refine w_iload_n (pc := 63) X dX8_drawnRemark_63 0 rfl ?_
    refine w_iload_n (pc := 64) X dX8_drawnRemark_64 1 rfl ?_
    refine w_sipush (pc := 65) X dX8_drawnRemark_65 (v := (480)) rfl ?_
    refine w_idiv (pc := 68) X dX8_drawnRemark_68 (by decide) ?_
    refine w_iconst (pc := 69) X dX8_drawnRemark_69 (v := 2) rfl ?_
    refine w_irem (pc := 70) X dX8_drawnRemark_70 (by decide) ?_
    refine w_iconst (pc := 71) X dX8_drawnRemark_71 (v := 1) rfl ?_
    obtain ⟨x5, h9, h⟩ := bd1_inv h
    have K72 : wpm φ ad 80 [] [.int x5, .int x3, .int ((a0 / (8 : Int32)) - (a0 / (8 : Int32)) / (6 : Int32) * (6 : Int32))] s := by
      obtain ⟨r8, s6, h7, h⟩ := bd2_inv h
      refine w_callS (pc := 80) X dX8_drawnRemark_80 (M8_spoken h7) rfl cw_8_295 ⟨Nat.le_of_ble_eq_true rfl, Nat.le_of_ble_eq_true rfl⟩ rfl rfl (Nat.le_of_ble_eq_true rfl) ?_
      show wpm φ ad 83 [] [.int r8] s6
      cases h
      exact w_iret X hQ dX8_drawnRemark_83
    clear h
    have h := h9
    clear h9
    refine w_icmp_ne (pc := 72) (tgt := 79) X dX8_drawnRemark_72 (by decide) (fun c4 => ?_) (fun c4 => ?_)
    · replace h := it_neg c4 h
      refine w_iconst (pc := 79) X dX8_drawnRemark_79 (v := 0) rfl ?_
      cases h
      exact w_sub (pc := 80) [] rfl K72
    · replace h := it_pos c4 h
      refine w_iconst (pc := 75) X dX8_drawnRemark_75 (v := 1) rfl ?_
      refine w_goto (tgt := 80) (pc := 76) X dX8_drawnRemark_76 (by decide) ?_
      cases h
      exact w_sub (pc := 80) [] rfl K72
  clear h
  have h := h10
  clear h10
  refine w_if_le (pc := 42) (tgt := 54) X dX8_drawnRemark_42 (by decide) (fun c2 => ?_) (fun c2 => ?_)
  · replace h := it_pos c2 h
    refine w_iconst (pc := 54) X dX8_drawnRemark_54 (v := 0) rfl ?_
    cases h
    exact w_sub (pc := 55) [0] rfl K42
  · replace h := it_neg c2 h
    refine w_iload_n (pc := 45) X dX8_drawnRemark_45 0 rfl ?_
    refine w_bipush (pc := 46) X dX8_drawnRemark_46 (v := (48)) rfl ?_
    refine w_idiv (pc := 48) X dX8_drawnRemark_48 (by decide) ?_
    refine w_iload_n (pc := 49) X dX8_drawnRemark_49 1 rfl ?_
    obtain ⟨g1, h⟩ := gd_inv h
    refine w_irem (pc := 50) X dX8_drawnRemark_50 g1 ?_
    refine w_goto (tgt := 55) (pc := 51) X dX8_drawnRemark_51 (by decide) ?_
    cases h
    exact w_sub (pc := 55) [0] rfl K42
set_option maxRecDepth 20000 in
theorem WL8_draws_60 {φ : Fr} {ad : Nat → Nat} (X : Cx φ ad cX8_draws (some .int) RX8 8 4 87) (o : Nat) (a2 : Int32) (a3 : Int32) (a4 : Nat) (k_o : kd o = 8) (k_a4 : kd a4 = 2) : ∀ (fuel : Nat) (v5 : Int32) (v6 : Int32) (s : Sto)  (t : Sto), L8_draws_60 o a2 a3 a4 fuel v5 v6 s = some (t) → wpm φ ad 134 [(3, .int a3), (4, .ref (ad a4))] [] t → wpm φ ad 60 [(0, .ref (ad o)), (2, .int a2), (3, .int a3), (4, .ref (ad a4)), (5, .int v5), (6, .int v6)] [] s := by
  intro fuel
  induction fuel with
  | zero => intro v5 v6 s t h; cases h
  | succ fuel ih =>
    intro v5 v6 s t h K
    unfold L8_draws_60 at h
    refine w_iload (pc := 60) X dX8_draws_60 5 rfl ?_
    refine w_iload_n (pc := 62) X dX8_draws_62 1 rfl ?_
    refine w_icmp_ge (pc := 63) (tgt := 134) X dX8_draws_63 (by decide) (fun c22 => ?_) (fun c22 => ?_)
    · replace h := it_pos c22 h
      cases h
      exact w_sub (pc := 134) [2, 3] rfl K
    · replace h := it_neg c22 h
      refine w_bipush (pc := 66) X dX8_draws_66 (v := (75)) rfl ?_
      refine w_iload (pc := 68) X dX8_draws_68 4 rfl ?_
      refine w_imul (pc := 70) X dX8_draws_70 ?_
      refine w_bipush (pc := 71) X dX8_draws_71 (v := (74)) rfl ?_
      refine w_iadd (pc := 73) X dX8_draws_73 ?_
      refine w_ldc (pc := 74) X dX8_draws_74 (v := (65537)) cn_8_232 ?_
      refine w_irem (pc := 76) X dX8_draws_76 (by decide) ?_
      obtain ⟨x12, e_x12, h⟩ := nm_inv h
      refine w_nmi e_x12 ?_
      refine w_istore (pc := 77) X dX8_draws_77 (by decide) (lv' := [(5, .int x12), (0, .ref (ad o)), (2, .int a2), (3, .int a3), (4, .ref (ad a4)), (6, .int v6)]) rfl ?_
      refine w_iload (pc := 79) X dX8_draws_79 0 rfl ?_
      refine w_aload_n (pc := 81) X dX8_draws_81 1 rfl ?_
      refine w_getR (pc := 82) X dX8_draws_82 clO_8 k_o 0 (by decide) (d := 1) rfl fl_8_10 ?_
      refine w_getI (pc := 85) X dX8_draws_85 clO_0 (kp_8_1 k_o) 0 (by decide) rfl fl_8_68 ?_
      obtain ⟨r15, s13, h14, h⟩ := bd2_inv h
      refine w_callS (pc := 88) X dX8_draws_88 (M8_drawnRemark h14) rfl cw_8_233 ⟨Nat.le_of_ble_eq_true rfl, Nat.le_of_ble_eq_true rfl⟩ rfl rfl (Nat.le_of_ble_eq_true rfl) ?_
      show wpm φ ad 91 [(5, .int x12), (0, .ref (ad o)), (2, .int a2), (3, .int a3), (4, .ref (ad a4)), (6, .int v6)] [.int r15] s13
      refine w_istore (pc := 91) X dX8_draws_91 (by decide) (lv' := [(7, .int r15), (5, .int x12), (0, .ref (ad o)), (2, .int a2), (3, .int a3), (4, .ref (ad a4)), (6, .int v6)]) rfl ?_
      refine w_iload (pc := 93) X dX8_draws_93 0 rfl ?_
      refine w_aload_n (pc := 95) X dX8_draws_95 2 rfl ?_
      refine w_getR (pc := 96) X dX8_draws_96 clO_8 k_o 0 (by decide) (d := 1) rfl fl_8_10 ?_
      refine w_aload_n (pc := 99) X dX8_draws_99 2 rfl ?_
      refine w_getR (pc := 100) X dX8_draws_100 clO_8 k_o 0 (by decide) (d := 1) rfl fl_8_10 ?_
      refine w_getI (pc := 103) X dX8_draws_103 clO_0 (kp_8_1 k_o) 1 (by decide) rfl fl_8_76 ?_
      refine w_aload (pc := 106) X dX8_draws_106 5 rfl ?_
      obtain ⟨r18, s16, h17, h⟩ := bd2_inv h
      refine w_callS (pc := 108) X dX8_draws_108 (M8_whyNot h17) rfl cw_8_236 ⟨Nat.le_of_ble_eq_true rfl, Nat.le_of_ble_eq_true rfl⟩ rfl rfl (Nat.le_of_ble_eq_true rfl) ?_
      show wpm φ ad 111 [(7, .int r15), (5, .int x12), (0, .ref (ad o)), (2, .int a2), (3, .int a3), (4, .ref (ad a4)), (6, .int v6)] [.int r18] s16
      refine w_if_ne (pc := 111) (tgt := 128) X dX8_draws_111 (by decide) (fun c21 => ?_) (fun c21 => ?_)
      · replace h := it_neg c21 h
        refine w_iinc (pc := 128) X dX8_draws_128 6 rfl (v := (v6 + 1)) rfl (by decide) (lv' := [(6, .int (v6 + 1)), (7, .int r15), (5, .int x12), (0, .ref (ad o)), (2, .int a2), (3, .int a3), (4, .ref (ad a4))]) rfl ?_
        refine w_goto (tgt := 60) (pc := 131) X dX8_draws_131 (by decide) ?_
        exact w_sub (pc := 60) [3, 4, 5, 6, 2, 0] rfl (ih _ _ _ _ h K)
      · replace h := it_pos c21 h
        refine w_aload (pc := 114) X dX8_draws_114 5 rfl ?_
        refine w_iload (pc := 116) X dX8_draws_116 0 rfl ?_
        refine w_aload_n (pc := 118) X dX8_draws_118 2 rfl ?_
        refine w_getR (pc := 119) X dX8_draws_119 clO_8 k_o 0 (by decide) (d := 1) rfl fl_8_10 ?_
        refine w_getI (pc := 122) X dX8_draws_122 clO_0 (kp_8_1 k_o) 1 (by decide) rfl fl_8_76 ?_
        obtain ⟨s19, h20, h⟩ := bd1_inv h
        refine w_callV (pc := 125) X dX8_draws_125 (M2_hear h20) k_a4 (by decide) rfl cw_8_240 ⟨Nat.le_of_ble_eq_true rfl, Nat.le_of_ble_eq_true rfl⟩ rfl rfl (Nat.le_of_ble_eq_true rfl) ?_
        show wpm φ ad 128 [(7, .int r15), (5, .int x12), (0, .ref (ad o)), (2, .int a2), (3, .int a3), (4, .ref (ad a4)), (6, .int v6)] [] s19
        refine w_iinc (pc := 128) X dX8_draws_128 6 rfl (v := (v6 + 1)) rfl (by decide) (lv' := [(6, .int (v6 + 1)), (7, .int r15), (5, .int x12), (0, .ref (ad o)), (2, .int a2), (3, .int a3), (4, .ref (ad a4))]) rfl ?_
        refine w_goto (tgt := 60) (pc := 131) X dX8_draws_131 (by decide) ?_
        exact w_sub (pc := 60) [3, 4, 5, 6, 2, 0] rfl (ih _ _ _ _ h K)
set_option maxRecDepth 20000 in
theorem M8_draws {o : Nat} {a1 : Int32} {a2 : Int32} {a3 : Int32} {s : Sto} {r : Int32} {σ' : Sto} (h : f8_draws o a1 a2 a3 s = some (r, σ')) : Ct yX8_draws cX8_draws 8 (some .int) 4 87 (fun ad => [.ref (ad o), .int a1, .int a2, .int a3]) s (fun ad => some (.int r)) σ' := by
  unfold f8_draws at h
  obtain ⟨k_o, h⟩ := gd_inv h
  refine Ct_of (by decide) (fun ad => Nat.le_of_ble_eq_true rfl) (fun φ ad X hQ => ?_)
  show wpm φ ad 0 [(0, .ref (ad o)), (1, .int a1), (2, .int a2), (3, .int a3)] [] s
  replace X : Cx φ ad cX8_draws (some .int) RX8 8 4 87 := X
  refine w_iload_n (pc := 0) X dX8_draws_0 1 rfl ?_
  refine w_iconst (pc := 1) X dX8_draws_1 (v := 0) rfl ?_
  refine w_sipush (pc := 2) X dX8_draws_2 (v := (9999)) rfl ?_
  obtain ⟨r3, s1, h2, h⟩ := bd2_inv h
  refine w_callS (pc := 5) X dX8_draws_5 (M8_isWithin h2) rfl cw_8_64 ⟨Nat.le_of_ble_eq_true rfl, Nat.le_of_ble_eq_true rfl⟩ rfl rfl (Nat.le_of_ble_eq_true rfl) ?_
  show wpm φ ad 8 [(0, .ref (ad o)), (1, .int a1), (2, .int a2), (3, .int a3)] [.int r3] s1
  refine w_if_eq (pc := 8) (tgt := 30) X dX8_draws_8 (by decide) (fun c29 => ?_) (fun c29 => ?_)
  · replace h := it_pos c29 h
    refine w_bipush (pc := 30) X dX8_draws_30 (v := (-2)) rfl ?_
    cases h
    exact w_iret X hQ dX8_draws_32
  · replace h := it_neg c29 h
    refine w_iload_n (pc := 11) X dX8_draws_11 2 rfl ?_
    refine w_iconst (pc := 12) X dX8_draws_12 (v := 1) rfl ?_
    refine w_bipush (pc := 13) X dX8_draws_13 (v := (99)) rfl ?_
    obtain ⟨r6, s4, h5, h⟩ := bd2_inv h
    refine w_callS (pc := 15) X dX8_draws_15 (M8_isWithin h5) rfl cw_8_64 ⟨Nat.le_of_ble_eq_true rfl, Nat.le_of_ble_eq_true rfl⟩ rfl rfl (Nat.le_of_ble_eq_true rfl) ?_
    show wpm φ ad 18 [(0, .ref (ad o)), (1, .int a1), (2, .int a2), (3, .int a3)] [.int r6] s4
    refine w_if_eq (pc := 18) (tgt := 30) X dX8_draws_18 (by decide) (fun c28 => ?_) (fun c28 => ?_)
    · replace h := it_pos c28 h
      refine w_bipush (pc := 30) X dX8_draws_30 (v := (-2)) rfl ?_
      cases h
      exact w_iret X hQ dX8_draws_32
    · replace h := it_neg c28 h
      refine w_iload_n (pc := 21) X dX8_draws_21 3 rfl ?_
      refine w_iconst (pc := 22) X dX8_draws_22 (v := 0) rfl ?_
      refine w_iconst (pc := 23) X dX8_draws_23 (v := 2) rfl ?_
      obtain ⟨r9, s7, h8, h⟩ := bd2_inv h
      refine w_callS (pc := 24) X dX8_draws_24 (M8_isWithin h8) rfl cw_8_64 ⟨Nat.le_of_ble_eq_true rfl, Nat.le_of_ble_eq_true rfl⟩ rfl rfl (Nat.le_of_ble_eq_true rfl) ?_
      show wpm φ ad 27 [(0, .ref (ad o)), (1, .int a1), (2, .int a2), (3, .int a3)] [.int r9] s7
      refine w_if_ne (pc := 27) (tgt := 33) X dX8_draws_27 (by decide) (fun c27 => ?_) (fun c27 => ?_)
      · replace h := it_neg c27 h
        refine w_aload_n (pc := 33) X dX8_draws_33 0 rfl ?_
        refine w_getR (pc := 34) X dX8_draws_34 clO_8 k_o 4 (by decide) (d := 27) rfl fl_8_32 ?_
        refine w_getR (pc := 37) X dX8_draws_37 clO_1 (kp_8_27 k_o) 3 (by decide) (d := 3) rfl fl_8_127 ?_
        refine w_astore (pc := 40) X dX8_draws_40 (by decide) (lv' := [(4, .ref (ad ((o + 27) + 3))), (0, .ref (ad o)), (1, .int a1), (2, .int a2), (3, .int a3)]) rfl ?_
        refine w_aload (pc := 42) X dX8_draws_42 0 rfl ?_
        refine w_aload_n (pc := 44) X dX8_draws_44 1 rfl ?_
        refine w_getR (pc := 45) X dX8_draws_45 clO_8 k_o 0 (by decide) (d := 1) rfl fl_8_10 ?_
        refine w_getR (pc := 48) X dX8_draws_48 clO_0 (kp_8_1 k_o) 3 (by decide) (d := 2) rfl fl_8_95 ?_
        obtain ⟨s10, h11, h⟩ := bd1_inv h
        refine w_callV (pc := 51) X dX8_draws_51 (M2_copyFrom h11) (kp_1_3 (kp_8_27 k_o)) (by decide) rfl cw_8_151 ⟨Nat.le_of_ble_eq_true rfl, Nat.le_of_ble_eq_true rfl⟩ rfl rfl (Nat.le_of_ble_eq_true rfl) ?_
        show wpm φ ad 54 [(4, .ref (ad ((o + 27) + 3))), (0, .ref (ad o)), (1, .int a1), (2, .int a2), (3, .int a3)] [] s10
        refine w_iload_n (pc := 54) X dX8_draws_54 2 rfl ?_
        refine w_istore (pc := 55) X dX8_draws_55 (by decide) (lv' := [(5, .int a1), (4, .ref (ad ((o + 27) + 3))), (0, .ref (ad o)), (1, .int a1), (2, .int a2), (3, .int a3)]) rfl ?_
        refine w_iconst (pc := 57) X dX8_draws_57 (v := 0) rfl ?_
        refine w_istore (pc := 58) X dX8_draws_58 (by decide) (lv' := [(6, .int (0 : Int32)), (5, .int a1), (4, .ref (ad ((o + 27) + 3))), (0, .ref (ad o)), (1, .int a1), (2, .int a2), (3, .int a3)]) rfl ?_
        obtain ⟨s24, h23, h⟩ := bd1_inv h
        refine w_sub (pc := 60) [3, 5, 6, 2, 1, 0] rfl (WL8_draws_60 X o a2 a3 ((o + 27) + 3) k_o (kp_1_3 (kp_8_27 k_o)) FU a1 (0 : Int32) s10 s24 h23 ?_)
        refine w_iload_n (pc := 134) X dX8_draws_134 0 rfl ?_
        by_cases c25 : a3 = 0
        · replace h := it_pos c25 h
          refine w_lsw (pc := 135) (tgt := 160) X dX8_draws_135 (by decide) (by rw [c25] <;> rfl) (by decide) ?_
          refine w_aload (pc := 160) X dX8_draws_160 1 rfl ?_
          refine w_getI (pc := 162) X dX8_draws_162 clO_2 (kp_1_3 (kp_8_27 k_o)) 3 (by decide) rfl fl_8_134 ?_
          cases h
          exact w_iret X hQ dX8_draws_165
        replace h := it_neg c25 h
        by_cases c26 : a3 = 1
        · replace h := it_pos c26 h
          refine w_lsw (pc := 135) (tgt := 166) X dX8_draws_135 (by decide) (by rw [c26] <;> rfl) (by decide) ?_
          refine w_aload (pc := 166) X dX8_draws_166 1 rfl ?_
          refine w_getI (pc := 168) X dX8_draws_168 clO_2 (kp_1_3 (kp_8_27 k_o)) 5 (by decide) rfl fl_8_128 ?_
          cases h
          exact w_iret X hQ dX8_draws_171
        replace h := it_neg c26 h
        refine w_lsw (pc := 135) (tgt := 172) X dX8_draws_135 (by decide) (by show Op.lookupswitch.offset [(0, 25), (1, 31)] (37) (a3).toInt = 37; rw [Op.lookupswitch.offset_cons, if_neg (lsw_ne (k := 0) c25), Op.lookupswitch.offset_cons, if_neg (lsw_ne (k := 1) c26), Op.lookupswitch.offset_nil]) (by decide) ?_
        refine w_aload (pc := 172) X dX8_draws_172 1 rfl ?_
        refine w_getI (pc := 174) X dX8_draws_174 clO_2 (kp_1_3 (kp_8_27 k_o)) 4 (by decide) rfl fl_8_99 ?_
        cases h
        exact w_iret X hQ dX8_draws_177
      · replace h := it_pos c27 h
        refine w_bipush (pc := 30) X dX8_draws_30 (v := (-2)) rfl ?_
        cases h
        exact w_iret X hQ dX8_draws_32
set_option maxRecDepth 20000 in
theorem M8_imageAt {o : Nat} {a1 : Int32} {s : Sto} {r : Nat} {σ' : Sto} (h : f8_imageAt o a1 s = some (r, σ')) : Ct yX8_imageAt cX8_imageAt 2 (some (.object "RavelKnit$Company")) 0 0 (fun ad => [.ref (ad o), .int a1]) s (fun ad => some (.ref (ad r))) σ' := by
  unfold f8_imageAt at h
  obtain ⟨k_o, h⟩ := gd_inv h
  refine Ct_of (by decide) (fun ad => Nat.le_of_ble_eq_true rfl) (fun φ ad X hQ => ?_)
  show wpm φ ad 0 [(0, .ref (ad o)), (1, .int a1)] [] s
  replace X : Cx φ ad cX8_imageAt (some (.object "RavelKnit$Company")) RX8 2 0 0 := X
  refine w_iload_n (pc := 0) X dX8_imageAt_0 1 rfl ?_
  refine w_if_ne (pc := 1) (tgt := 11) X dX8_imageAt_1 (by decide) (fun c1 => ?_) (fun c1 => ?_)
  · replace h := it_neg c1 h
    refine w_aload_n (pc := 11) X dX8_imageAt_11 0 rfl ?_
    refine w_getR (pc := 12) X dX8_imageAt_12 clO_8 k_o 2 (by decide) (d := 17) rfl fl_8_19 ?_
    cases h
    exact w_aret X hQ dX8_imageAt_15
  · replace h := it_pos c1 h
    refine w_aload_n (pc := 4) X dX8_imageAt_4 0 rfl ?_
    refine w_getR (pc := 5) X dX8_imageAt_5 clO_8 k_o 1 (by decide) (d := 9) rfl fl_8_16 ?_
    refine w_goto (tgt := 15) (pc := 8) X dX8_imageAt_8 (by decide) ?_
    cases h
    exact w_aret X hQ dX8_imageAt_15
set_option maxRecDepth 20000 in
theorem M0_copyFrom {o : Nat} {a1 : Nat} {s : Sto} {σ' : Sto} (h : f0_copyFrom o a1 s = some σ') : Ct yX0_copyFrom cX0_copyFrom 2 none 3 82 (fun ad => [.ref (ad o), .ref (ad a1)]) s (fun _ => none) σ' := by
  unfold f0_copyFrom at h
  obtain ⟨⟨k_o, k_a1⟩, h⟩ := gd_inv h
  refine Ct_of (by decide) (fun ad => Nat.le_of_ble_eq_true rfl) (fun φ ad X hQ => ?_)
  show wpm φ ad 0 [(0, .ref (ad o)), (1, .ref (ad a1))] [] s
  replace X : Cx φ ad cX0_copyFrom none RX0 2 3 82 := X
  refine w_aload_n (pc := 0) X dX0_copyFrom_0 0 rfl ?_
  refine w_aload_n (pc := 1) X dX0_copyFrom_1 1 rfl ?_
  refine w_getI (pc := 2) X dX0_copyFrom_2 clO_0 k_a1 0 (by decide) rfl fl_0_9 ?_
  refine w_putI (pc := 5) X dX0_copyFrom_5 clO_0 k_o 0 (by decide) rfl rfl (Or.inl rfl) fl_0_9 ?_
  obtain ⟨s1, e_s1, h⟩ := nm_inv h
  refine w_nm e_s1 ?_
  refine w_aload_n (pc := 8) X dX0_copyFrom_8 0 rfl ?_
  refine w_aload_n (pc := 9) X dX0_copyFrom_9 1 rfl ?_
  refine w_getI (pc := 10) X dX0_copyFrom_10 clO_0 k_a1 1 (by decide) rfl fl_0_15 ?_
  refine w_putI (pc := 13) X dX0_copyFrom_13 clO_0 k_o 1 (by decide) rfl rfl (Or.inl rfl) fl_0_15 ?_
  obtain ⟨s2, e_s2, h⟩ := nm_inv h
  refine w_nm e_s2 ?_
  refine w_aload_n (pc := 16) X dX0_copyFrom_16 1 rfl ?_
  refine w_getR (pc := 17) X dX0_copyFrom_17 clO_0 k_a1 2 (by decide) (d := 1) rfl fl_0_18 ?_
  refine w_aload_n (pc := 20) X dX0_copyFrom_20 0 rfl ?_
  refine w_getR (pc := 21) X dX0_copyFrom_21 clO_0 k_o 2 (by decide) (d := 1) rfl fl_0_18 ?_
  obtain ⟨s3, h4, h⟩ := bd1_inv h
  refine w_callSN (pc := 24) X dX0_copyFrom_24 (M8_copyAll h4) mn_0_49 cw_0_49 ⟨Nat.le_of_ble_eq_true rfl, Nat.le_of_ble_eq_true rfl⟩ rfl rfl (Nat.le_of_ble_eq_true rfl) ?_
  show wpm φ ad 27 [(0, .ref (ad o)), (1, .ref (ad a1))] [] s3
  refine w_aload_n (pc := 27) X dX0_copyFrom_27 0 rfl ?_
  refine w_getR (pc := 28) X dX0_copyFrom_28 clO_0 k_o 3 (by decide) (d := 2) rfl fl_0_25 ?_
  refine w_aload_n (pc := 31) X dX0_copyFrom_31 1 rfl ?_
  refine w_getR (pc := 32) X dX0_copyFrom_32 clO_0 k_a1 3 (by decide) (d := 2) rfl fl_0_25 ?_
  obtain ⟨s5, h6, h⟩ := bd1_inv h
  refine w_callV (pc := 35) X dX0_copyFrom_35 (M2_copyFrom h6) (kp_0_2 k_o) (by decide) rfl cw_0_53 ⟨Nat.le_of_ble_eq_true rfl, Nat.le_of_ble_eq_true rfl⟩ rfl rfl (Nat.le_of_ble_eq_true rfl) ?_
  show wpm φ ad 38 [(0, .ref (ad o)), (1, .ref (ad a1))] [] s5
  refine w_aload_n (pc := 38) X dX0_copyFrom_38 0 rfl ?_
  refine w_aload_n (pc := 39) X dX0_copyFrom_39 1 rfl ?_
  refine w_getI (pc := 40) X dX0_copyFrom_40 clO_0 k_a1 4 (by decide) rfl fl_0_29 ?_
  refine w_putI (pc := 43) X dX0_copyFrom_43 clO_0 k_o 4 (by decide) rfl rfl (Or.inl rfl) fl_0_29 ?_
  obtain ⟨s7, e_s7, h⟩ := nm_inv h
  refine w_nm e_s7 ?_
  refine w_aload_n (pc := 46) X dX0_copyFrom_46 1 rfl ?_
  refine w_getR (pc := 47) X dX0_copyFrom_47 clO_0 k_a1 5 (by decide) (d := 6) rfl fl_0_32 ?_
  refine w_aload_n (pc := 50) X dX0_copyFrom_50 0 rfl ?_
  refine w_getR (pc := 51) X dX0_copyFrom_51 clO_0 k_o 5 (by decide) (d := 6) rfl fl_0_32 ?_
  obtain ⟨s8, h9, h⟩ := bd1_inv h
  refine w_callSN (pc := 54) X dX0_copyFrom_54 (M8_copyAll h9) mn_0_49 cw_0_49 ⟨Nat.le_of_ble_eq_true rfl, Nat.le_of_ble_eq_true rfl⟩ rfl rfl (Nat.le_of_ble_eq_true rfl) ?_
  show wpm φ ad 57 [(0, .ref (ad o)), (1, .ref (ad a1))] [] s8
  refine w_aload_n (pc := 57) X dX0_copyFrom_57 1 rfl ?_
  refine w_getR (pc := 58) X dX0_copyFrom_58 clO_0 k_a1 6 (by decide) (d := 7) rfl fl_0_35 ?_
  refine w_aload_n (pc := 61) X dX0_copyFrom_61 0 rfl ?_
  refine w_getR (pc := 62) X dX0_copyFrom_62 clO_0 k_o 6 (by decide) (d := 7) rfl fl_0_35 ?_
  obtain ⟨s10, h11, h⟩ := bd1_inv h
  refine w_callSN (pc := 65) X dX0_copyFrom_65 (M8_copyAll h11) mn_0_49 cw_0_49 ⟨Nat.le_of_ble_eq_true rfl, Nat.le_of_ble_eq_true rfl⟩ rfl rfl (Nat.le_of_ble_eq_true rfl) ?_
  show wpm φ ad 68 [(0, .ref (ad o)), (1, .ref (ad a1))] [] s10
  cases h
  exact w_vret X hQ dX0_copyFrom_68
set_option maxRecDepth 20000 in
theorem M8_image {o : Nat} {a1 : Int32} {s : Sto} {r : Int32} {σ' : Sto} (h : f8_image o a1 s = some (r, σ')) : Ct yX8_image cX8_image 3 (some .int) 4 103 (fun ad => [.ref (ad o), .int a1]) s (fun ad => some (.int r)) σ' := by
  unfold f8_image at h
  obtain ⟨k_o, h⟩ := gd_inv h
  refine Ct_of (by decide) (fun ad => Nat.le_of_ble_eq_true rfl) (fun φ ad X hQ => ?_)
  show wpm φ ad 0 [(0, .ref (ad o)), (1, .int a1)] [] s
  replace X : Cx φ ad cX8_image (some .int) RX8 3 4 103 := X
  refine w_iload_n (pc := 0) X dX8_image_0 1 rfl ?_
  refine w_iconst (pc := 1) X dX8_image_1 (v := 0) rfl ?_
  refine w_iconst (pc := 2) X dX8_image_2 (v := 1) rfl ?_
  obtain ⟨r3, s1, h2, h⟩ := bd2_inv h
  refine w_callS (pc := 3) X dX8_image_3 (M8_isWithin h2) rfl cw_8_64 ⟨Nat.le_of_ble_eq_true rfl, Nat.le_of_ble_eq_true rfl⟩ rfl rfl (Nat.le_of_ble_eq_true rfl) ?_
  show wpm φ ad 6 [(0, .ref (ad o)), (1, .int a1)] [.int r3] s1
  refine w_if_ne (pc := 6) (tgt := 12) X dX8_image_6 (by decide) (fun c11 => ?_) (fun c11 => ?_)
  · replace h := it_neg c11 h
    refine w_aload_n (pc := 12) X dX8_image_12 0 rfl ?_
    refine w_iload_n (pc := 13) X dX8_image_13 1 rfl ?_
    obtain ⟨r6, s4, h5, h⟩ := bd2_inv h
    refine w_callV (pc := 14) X dX8_image_14 (M8_imageAt h5) k_o (by decide) rfl cw_8_244 ⟨Nat.le_of_ble_eq_true rfl, Nat.le_of_ble_eq_true rfl⟩ rfl rfl (Nat.le_of_ble_eq_true rfl) ?_
    show wpm φ ad 17 [(0, .ref (ad o)), (1, .int a1)] [.ref (ad r6)] s4
    obtain ⟨g7, h⟩ := gd_inv h
    refine w_astore_n (pc := 17) X dX8_image_17 2 rfl (by decide) (lv' := [(2, .ref (ad r6)), (0, .ref (ad o)), (1, .int a1)]) rfl ?_
    refine w_aload_n (pc := 18) X dX8_image_18 0 rfl ?_
    refine w_aload_n (pc := 19) X dX8_image_19 1 rfl ?_
    refine w_getR (pc := 20) X dX8_image_20 clO_8 k_o 0 (by decide) (d := 1) rfl fl_8_10 ?_
    obtain ⟨s8, h9, h⟩ := bd1_inv h
    refine w_callV (pc := 23) X dX8_image_23 (M0_copyFrom h9) g7 (by decide) rfl cw_8_248 ⟨Nat.le_of_ble_eq_true rfl, Nat.le_of_ble_eq_true rfl⟩ rfl rfl (Nat.le_of_ble_eq_true rfl) ?_
    show wpm φ ad 26 [(2, .ref (ad r6)), (0, .ref (ad o)), (1, .int a1)] [] s8
    refine w_aload_n (pc := 26) X dX8_image_26 0 rfl ?_
    refine w_iconst (pc := 27) X dX8_image_27 (v := 1) rfl ?_
    refine w_putI (pc := 28) X dX8_image_28 clO_0 g7 7 (by decide) rfl rfl (Or.inr ⟨rfl, Or.inr rfl⟩) fl_8_251 ?_
    obtain ⟨s10, e_s10, h⟩ := nm_inv h
    refine w_nm e_s10 ?_
    refine w_iconst (pc := 31) X dX8_image_31 (v := 1) rfl ?_
    cases h
    exact w_iret X hQ dX8_image_32
  · replace h := it_pos c11 h
    refine w_bipush (pc := 9) X dX8_image_9 (v := (-2)) rfl ?_
    cases h
    exact w_iret X hQ dX8_image_11
