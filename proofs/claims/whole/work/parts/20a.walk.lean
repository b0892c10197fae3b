set_option maxRecDepth 20000 in
theorem M8_isWithin {a0 : Int32} {a1 : Int32} {a2 : Int32} {s : Sto} {r : Int32} {σ' : Sto} (h : f8_isWithin a0 a1 a2 s = some (r, σ')) : Ct yX8_isWithin cX8_isWithin 3 (some .boolean) 0 0 (fun ad => [.int a0, .int a1, .int a2]) s (fun ad => some (.int r)) σ' := by
  unfold f8_isWithin at h
  refine Ct_of (by decide) (fun ad => Nat.le_of_ble_eq_true rfl) (fun φ ad X hQ => ?_)
  show wpm φ ad 0 [(0, .int a0), (1, .int a1), (2, .int a2)] [] s
  replace X : Cx φ ad cX8_isWithin (some .boolean) RX8 3 0 0 := X
  refine w_iload_n (pc := 0) X dX8_isWithin_0 0 rfl ?_
  refine w_iload_n (pc := 1) X dX8_isWithin_1 1 rfl ?_
  refine w_icmp_lt (pc := 2) (tgt := 14) X dX8_isWithin_2 (by decide) (fun c2 => ?_) (fun c2 => ?_)
  · replace h := it_pos c2 h
    refine w_iconst (pc := 14) X dX8_isWithin_14 (v := 0) rfl ?_
    cases h
    exact w_zret X hQ dX8_isWithin_15 (Or.inl rfl)
  · replace h := it_neg c2 h
    refine w_iload_n (pc := 5) X dX8_isWithin_5 0 rfl ?_
    refine w_iload_n (pc := 6) X dX8_isWithin_6 2 rfl ?_
    refine w_icmp_gt (pc := 7) (tgt := 14) X dX8_isWithin_7 (by decide) (fun c1 => ?_) (fun c1 => ?_)
    · replace h := it_pos c1 h
      refine w_iconst (pc := 14) X dX8_isWithin_14 (v := 0) rfl ?_
      cases h
      exact w_zret X hQ dX8_isWithin_15 (Or.inl rfl)
    · replace h := it_neg c1 h
      refine w_iconst (pc := 10) X dX8_isWithin_10 (v := 1) rfl ?_
      refine w_goto (tgt := 15) (pc := 11) X dX8_isWithin_11 (by decide) ?_
      cases h
      exact w_zret X hQ dX8_isWithin_15 (Or.inr rfl)
set_option maxRecDepth 20000 in
theorem M8_put {a0 : Nat} {a1 : Int32} {a2 : Int32} {s : Sto} {σ' : Sto} (h : f8_put a0 a1 a2 s = some σ') : Ct yX8_put cX8_put 3 none 0 0 (fun ad => [.ref (ad a0), .int a1, .int a2]) s (fun _ => none) σ' := by
  unfold f8_put at h
  obtain ⟨k_a0, h⟩ := gd_inv h
  refine Ct_of (by decide) (fun ad => Nat.le_of_ble_eq_true rfl) (fun φ ad X hQ => ?_)
  show wpm φ ad 0 [(0, .ref (ad a0)), (1, .int a1), (2, .int a2)] [] s
  replace X : Cx φ ad cX8_put none RX8 3 0 0 := X
  refine w_iload_n (pc := 0) X dX8_put_0 1 rfl ?_
  refine w_if_lt (pc := 1) (tgt := 14) X dX8_put_1 (by decide) (fun c4 => ?_) (fun c4 => ?_)
  · replace h := it_pos c4 h
    cases h
    exact w_vret X hQ dX8_put_14
  · replace h := it_neg c4 h
    refine w_iload_n (pc := 4) X dX8_put_4 1 rfl ?_
    refine w_aload_n (pc := 5) X dX8_put_5 0 rfl ?_
    refine w_alenI (pc := 6) X dX8_put_6 k_a0 ?_
    refine w_icmp_ge (pc := 7) (tgt := 14) X dX8_put_7 (by decide) (fun c3 => ?_) (fun c3 => ?_)
    · replace h := it_pos c3 h
      cases h
      exact w_vret X hQ dX8_put_14
    · replace h := it_neg c3 h
      refine w_aload_n (pc := 10) X dX8_put_10 0 rfl ?_
      refine w_iload_n (pc := 11) X dX8_put_11 1 rfl ?_
      refine w_iload_n (pc := 12) X dX8_put_12 2 rfl ?_
      obtain ⟨g1, h⟩ := gd_inv h
      refine w_iast (pc := 13) X dX8_put_13 k_a0 g1 ?_
      obtain ⟨s2, e_s2, h⟩ := nm_inv h
      refine w_nm e_s2 ?_
      cases h
      exact w_vret X hQ dX8_put_14
set_option maxRecDepth 20000 in
theorem M2_restart {o : Nat} {s : Sto} {σ' : Sto} (h : f2_restart o s = some σ') : Ct yX2_restart cX2_restart 1 none 0 0 (fun ad => [.ref (ad o)]) s (fun _ => none) σ' := by
  unfold f2_restart at h
  obtain ⟨k_o, h⟩ := gd_inv h
  refine Ct_of (by decide) (fun ad => Nat.le_of_ble_eq_true rfl) (fun φ ad X hQ => ?_)
  show wpm φ ad 0 [(0, .ref (ad o))] [] s
  replace X : Cx φ ad cX2_restart none RX2 1 0 0 := X
  refine w_aload_n (pc := 0) X dX2_restart_0 0 rfl ?_
  refine w_iconst (pc := 1) X dX2_restart_1 (v := 0) rfl ?_
  refine w_putI (pc := 2) X dX2_restart_2 clO_2 k_o 3 (by decide) rfl rfl (Or.inl rfl) fl_2_21 ?_
  obtain ⟨s1, e_s1, h⟩ := nm_inv h
  refine w_nm e_s1 ?_
  refine w_aload_n (pc := 5) X dX2_restart_5 0 rfl ?_
  refine w_bipush (pc := 6) X dX2_restart_6 (v := (20)) rfl ?_
  refine w_putI (pc := 8) X dX2_restart_8 clO_2 k_o 4 (by decide) rfl rfl (Or.inl rfl) fl_2_25 ?_
  obtain ⟨s2, e_s2, h⟩ := nm_inv h
  refine w_nm e_s2 ?_
  cases h
  exact w_vret X hQ dX2_restart_11
set_option maxRecDepth 20000 in
theorem WL0_restart_12 {φ : Fr} {ad : Nat → Nat} (X : Cx φ ad cX0_restart none RX0 3 1 22) (o : Nat) (k_o : kd o = 0) : ∀ (fuel : Nat) (v2 : Int32) (s : Sto)  (t : Sto), L0_restart_12 o fuel v2 s = some (t) → wpm φ ad 33 [(0, .ref (ad o))] [] t → wpm φ ad 12 [(0, .ref (ad o)), (2, .int v2)] [] s := by
  intro fuel
  induction fuel with
  | zero => intro v2 s t h; cases h
  | succ fuel ih =>
    intro v2 s t h K
    unfold L0_restart_12 at h
    refine w_iload_n (pc := 12) X dX0_restart_12 1 rfl ?_
    refine w_bipush (pc := 13) X dX0_restart_13 (v := (6)) rfl ?_
    refine w_icmp_ge (pc := 15) (tgt := 33) X dX0_restart_15 (by decide) (fun c5 => ?_) (fun c5 => ?_)
    · replace h := it_pos c5 h
      cases h
      exact w_sub (pc := 33) [0] rfl K
    · replace h := it_neg c5 h
      refine w_aload_n (pc := 18) X dX0_restart_18 0 rfl ?_
      refine w_getR (pc := 19) X dX0_restart_19 clO_0 k_o 2 (by decide) (d := 1) rfl fl_0_18 ?_
      refine w_iload_n (pc := 22) X dX0_restart_22 1 rfl ?_
      refine w_iconst (pc := 23) X dX0_restart_23 (v := 0) rfl ?_
      obtain ⟨s3, h4, h⟩ := bd1_inv h
      refine w_callSN (pc := 24) X dX0_restart_24 (M8_put h4) mn_0_42 cw_0_42 ⟨Nat.le_of_ble_eq_true rfl, Nat.le_of_ble_eq_true rfl⟩ rfl rfl (Nat.le_of_ble_eq_true rfl) ?_
      show wpm φ ad 27 [(0, .ref (ad o)), (2, .int v2)] [] s3
      refine w_iinc (pc := 27) X dX0_restart_27 1 rfl (v := (v2 + 1)) rfl (by decide) (lv' := [(2, .int (v2 + 1)), (0, .ref (ad o))]) rfl ?_
      refine w_goto (tgt := 12) (pc := 30) X dX0_restart_30 (by decide) ?_
      exact w_sub (pc := 12) [1, 0] rfl (ih _ _ _ h K)
set_option maxRecDepth 20000 in
theorem M0_restart {o : Nat} {a1 : Int32} {s : Sto} {σ' : Sto} (h : f0_restart o a1 s = some σ') : Ct yX0_restart cX0_restart 3 none 1 22 (fun ad => [.ref (ad o), .int a1]) s (fun _ => none) σ' := by
  unfold f0_restart at h
  obtain ⟨k_o, h⟩ := gd_inv h
  refine Ct_of (by decide) (fun ad => Nat.le_of_ble_eq_true rfl) (fun φ ad X hQ => ?_)
  show wpm φ ad 0 [(0, .ref (ad o)), (1, .int a1)] [] s
  replace X : Cx φ ad cX0_restart none RX0 3 1 22 := X
  refine w_aload_n (pc := 0) X dX0_restart_0 0 rfl ?_
  refine w_iload_n (pc := 1) X dX0_restart_1 1 rfl ?_
  refine w_putI (pc := 2) X dX0_restart_2 clO_0 k_o 0 (by decide) rfl rfl (Or.inl rfl) fl_0_9 ?_
  obtain ⟨s1, e_s1, h⟩ := nm_inv h
  refine w_nm e_s1 ?_
  refine w_aload_n (pc := 5) X dX0_restart_5 0 rfl ?_
  refine w_iconst (pc := 6) X dX0_restart_6 (v := 0) rfl ?_
  refine w_putI (pc := 7) X dX0_restart_7 clO_0 k_o 1 (by decide) rfl rfl (Or.inl rfl) fl_0_15 ?_
  obtain ⟨s2, e_s2, h⟩ := nm_inv h
  refine w_nm e_s2 ?_
  refine w_iconst (pc := 10) X dX0_restart_10 (v := 0) rfl ?_
  refine w_istore_n (pc := 11) X dX0_restart_11 2 rfl (by decide) (lv' := [(2, .int (0 : Int32)), (0, .ref (ad o)), (1, .int a1)]) rfl ?_
  obtain ⟨s7, h6, h⟩ := bd1_inv h
  refine w_sub (pc := 12) [1, 0] rfl (WL0_restart_12 X o k_o FU (0 : Int32) s2 s7 h6 ?_)
  refine w_aload_n (pc := 33) X dX0_restart_33 0 rfl ?_
  refine w_getR (pc := 34) X dX0_restart_34 clO_0 k_o 3 (by decide) (d := 2) rfl fl_0_25 ?_
  obtain ⟨s8, h9, h⟩ := bd1_inv h
  refine w_callV (pc := 37) X dX0_restart_37 (M2_restart h9) (kp_0_2 k_o) (by decide) rfl cw_0_46 ⟨Nat.le_of_ble_eq_true rfl, Nat.le_of_ble_eq_true rfl⟩ rfl rfl (Nat.le_of_ble_eq_true rfl) ?_
  show wpm φ ad 40 [(0, .ref (ad o))] [] s8
  refine w_aload_n (pc := 40) X dX0_restart_40 0 rfl ?_
  refine w_iconst (pc := 41) X dX0_restart_41 (v := 0) rfl ?_
  refine w_putI (pc := 42) X dX0_restart_42 clO_0 k_o 4 (by decide) rfl rfl (Or.inl rfl) fl_0_29 ?_
  obtain ⟨s10, e_s10, h⟩ := nm_inv h
  refine w_nm e_s10 ?_
  cases h
  exact w_vret X hQ dX0_restart_45
set_option maxRecDepth 20000 in
theorem M8_facts {o : Nat} {a1 : Int32} {s : Sto} {r : Int32} {σ' : Sto} (h : f8_facts o a1 s = some (r, σ')) : Ct yX8_facts cX8_facts 3 (some .int) 2 44 (fun ad => [.ref (ad o), .int a1]) s (fun ad => some (.int r)) σ' := by
  unfold f8_facts at h
  obtain ⟨k_o, h⟩ := gd_inv h
  refine Ct_of (by decide) (fun ad => Nat.le_of_ble_eq_true rfl) (fun φ ad X hQ => ?_)
  show wpm φ ad 0 [(0, .ref (ad o)), (1, .int a1)] [] s
  replace X : Cx φ ad cX8_facts (some .int) RX8 3 2 44 := X
  refine w_iload_n (pc := 0) X dX8_facts_0 1 rfl ?_
  refine w_iconst (pc := 1) X dX8_facts_1 (v := 1) rfl ?_
  refine w_bipush (pc := 2) X dX8_facts_2 (v := (8)) rfl ?_
  obtain ⟨r3, s1, h2, h⟩ := bd2_inv h
  refine w_callS (pc := 4) X dX8_facts_4 (M8_isWithin h2) rfl cw_8_64 ⟨Nat.le_of_ble_eq_true rfl, Nat.le_of_ble_eq_true rfl⟩ rfl rfl (Nat.le_of_ble_eq_true rfl) ?_
  show wpm φ ad 7 [(0, .ref (ad o)), (1, .int a1)] [.int r3] s1
  refine w_if_ne (pc := 7) (tgt := 13) X dX8_facts_7 (by decide) (fun c6 => ?_) (fun c6 => ?_)
  · replace h := it_neg c6 h
    refine w_aload_n (pc := 13) X dX8_facts_13 0 rfl ?_
    refine w_getR (pc := 14) X dX8_facts_14 clO_8 k_o 0 (by decide) (d := 1) rfl fl_8_10 ?_
    refine w_getI (pc := 17) X dX8_facts_17 clO_0 (kp_8_1 k_o) 0 (by decide) rfl fl_8_68 ?_
    refine w_istore_n (pc := 20) X dX8_facts_20 2 rfl (by decide) (lv' := [(2, .int (s1.1 (o + 1) 0)), (0, .ref (ad o)), (1, .int a1)]) rfl ?_
    refine w_aload_n (pc := 21) X dX8_facts_21 1 rfl ?_
    refine w_getR (pc := 22) X dX8_facts_22 clO_8 k_o 0 (by decide) (d := 1) rfl fl_8_10 ?_
    refine w_iload_n (pc := 25) X dX8_facts_25 2 rfl ?_
    obtain ⟨s4, h5, h⟩ := bd1_inv h
    refine w_callV (pc := 26) X dX8_facts_26 (M0_restart h5) (kp_8_1 k_o) (by decide) rfl cw_8_72 ⟨Nat.le_of_ble_eq_true rfl, Nat.le_of_ble_eq_true rfl⟩ rfl rfl (Nat.le_of_ble_eq_true rfl) ?_
    show wpm φ ad 29 [(2, .int (s1.1 (o + 1) 0)), (0, .ref (ad o)), (1, .int a1)] [] s4
    refine w_iload_n (pc := 29) X dX8_facts_29 0 rfl ?_
    cases h
    exact w_iret X hQ dX8_facts_30
  · replace h := it_pos c6 h
    refine w_bipush (pc := 10) X dX8_facts_10 (v := (-2)) rfl ?_
    cases h
    exact w_iret X hQ dX8_facts_12
set_option maxRecDepth 20000 in
theorem M8_fact {o : Nat} {a1 : Int32} {a2 : Int32} {s : Sto} {r : Int32} {σ' : Sto} (h : f8_fact o a1 a2 s = some (r, σ')) : Ct yX8_fact cX8_fact 4 (some .int) 1 22 (fun ad => [.ref (ad o), .int a1, .int a2]) s (fun ad => some (.int r)) σ' := by
  unfold f8_fact at h
  obtain ⟨k_o, h⟩ := gd_inv h
  refine Ct_of (by decide) (fun ad => Nat.le_of_ble_eq_true rfl) (fun φ ad X hQ => ?_)
  show wpm φ ad 0 [(0, .ref (ad o)), (1, .int a1), (2, .int a2)] [] s
  replace X : Cx φ ad cX8_fact (some .int) RX8 4 1 22 := X
  refine w_iload_n (pc := 0) X dX8_fact_0 1 rfl ?_
  refine w_iconst (pc := 1) X dX8_fact_1 (v := 0) rfl ?_
  refine w_aload_n (pc := 2) X dX8_fact_2 0 rfl ?_
  refine w_getR (pc := 3) X dX8_fact_3 clO_8 k_o 0 (by decide) (d := 1) rfl fl_8_10 ?_
  refine w_getI (pc := 6) X dX8_fact_6 clO_0 (kp_8_1 k_o) 0 (by decide) rfl fl_8_68 ?_
  refine w_iconst (pc := 9) X dX8_fact_9 (v := 1) rfl ?_
  refine w_isub (pc := 10) X dX8_fact_10 ?_
  obtain ⟨r3, s1, h2, h⟩ := bd2_inv h
  refine w_callS (pc := 11) X dX8_fact_11 (M8_isWithin h2) rfl cw_8_64 ⟨Nat.le_of_ble_eq_true rfl, Nat.le_of_ble_eq_true rfl⟩ rfl rfl (Nat.le_of_ble_eq_true rfl) ?_
  show wpm φ ad 14 [(0, .ref (ad o)), (1, .int a1), (2, .int a2)] [.int r3] s1
  refine w_if_ne (pc := 14) (tgt := 19) X dX8_fact_14 (by decide) (fun c7 => ?_) (fun c7 => ?_)
  · replace h := it_neg c7 h
    refine w_iconst (pc := 19) X dX8_fact_19 (v := 1) rfl ?_
    refine w_iload_n (pc := 20) X dX8_fact_20 1 rfl ?_
    refine w_ishl (pc := 21) X dX8_fact_21 ?_
    refine w_istore_n (pc := 22) X dX8_fact_22 3 rfl (by decide) (lv' := [(3, .int ((1 : Int32) <<< (a1 &&& 31))), (0, .ref (ad o)), (1, .int a1), (2, .int a2)]) rfl ?_
    refine w_aload_n (pc := 23) X dX8_fact_23 1 rfl ?_
    refine w_getR (pc := 24) X dX8_fact_24 clO_8 k_o 0 (by decide) (d := 1) rfl fl_8_10 ?_
    refine w_iload_n (pc := 27) X dX8_fact_27 3 rfl ?_
    refine w_if_eq (pc := 28) (tgt := 43) X dX8_fact_28 (by decide) (fun c6 => ?_) (fun c6 => ?_)
    · replace h := it_pos c6 h
      refine w_aload_n (pc := 43) X dX8_fact_43 1 rfl ?_
      refine w_getR (pc := 44) X dX8_fact_44 clO_8 k_o 0 (by decide) (d := 1) rfl fl_8_10 ?_
      refine w_getI (pc := 47) X dX8_fact_47 clO_0 (kp_8_1 k_o) 1 (by decide) rfl fl_8_76 ?_
      refine w_iload_n (pc := 50) X dX8_fact_50 0 rfl ?_
      refine w_iconst (pc := 51) X dX8_fact_51 (v := (-1)) rfl ?_
      refine w_ixor (pc := 52) X dX8_fact_52 ?_
      refine w_iand (pc := 53) X dX8_fact_53 ?_
      refine w_putI (pc := 54) X dX8_fact_54 clO_0 (kp_8_1 k_o) 1 (by decide) rfl rfl (Or.inl rfl) fl_8_76 ?_
      obtain ⟨s4, e_s4, h⟩ := nm_inv h
      refine w_nm e_s4 ?_
      refine w_aload_n (pc := 57) X dX8_fact_57 1 rfl ?_
      refine w_getR (pc := 58) X dX8_fact_58 clO_8 k_o 0 (by decide) (d := 1) rfl fl_8_10 ?_
      refine w_getI (pc := 61) X dX8_fact_61 clO_0 (kp_8_1 k_o) 1 (by decide) rfl fl_8_76 ?_
      cases h
      exact w_iret X hQ dX8_fact_64
    · replace h := it_neg c6 h
      refine w_aload_n (pc := 31) X dX8_fact_31 1 rfl ?_
      refine w_getR (pc := 32) X dX8_fact_32 clO_8 k_o 0 (by decide) (d := 1) rfl fl_8_10 ?_
      refine w_getI (pc := 35) X dX8_fact_35 clO_0 (kp_8_1 k_o) 1 (by decide) rfl fl_8_76 ?_
      refine w_iload_n (pc := 38) X dX8_fact_38 0 rfl ?_
      refine w_ior (pc := 39) X dX8_fact_39 ?_
      refine w_goto (tgt := 54) (pc := 40) X dX8_fact_40 (by decide) ?_
      refine w_putI (pc := 54) X dX8_fact_54 clO_0 (kp_8_1 k_o) 1 (by decide) rfl rfl (Or.inl rfl) fl_8_76 ?_
      obtain ⟨s5, e_s5, h⟩ := nm_inv h
      refine w_nm e_s5 ?_
      refine w_aload_n (pc := 57) X dX8_fact_57 1 rfl ?_
      refine w_getR (pc := 58) X dX8_fact_58 clO_8 k_o 0 (by decide) (d := 1) rfl fl_8_10 ?_
      refine w_getI (pc := 61) X dX8_fact_61 clO_0 (kp_8_1 k_o) 1 (by decide) rfl fl_8_76 ?_
      cases h
      exact w_iret X hQ dX8_fact_64
  · replace h := it_pos c7 h
    refine w_iconst (pc := 17) X dX8_fact_17 (v := (-1)) rfl ?_
    cases h
    exact w_iret X hQ dX8_fact_18
set_option maxRecDepth 20000 in
theorem M8_isGuest {a0 : Int32} {s : Sto} {r : Int32} {σ' : Sto} (h : f8_isGuest a0 s = some (r, σ')) : Ct yX8_isGuest cX8_isGuest 1 (some .boolean) 1 22 (fun ad => [.int a0]) s (fun ad => some (.int r)) σ' := by
  unfold f8_isGuest at h
  refine Ct_of (by decide) (fun ad => Nat.le_of_ble_eq_true rfl) (fun φ ad X hQ => ?_)
  show wpm φ ad 0 [(0, .int a0)] [] s
  replace X : Cx φ ad cX8_isGuest (some .boolean) RX8 1 1 22 := X
  refine w_iload_n (pc := 0) X dX8_isGuest_0 0 rfl ?_
  refine w_iconst (pc := 1) X dX8_isGuest_1 (v := 0) rfl ?_
  refine w_iconst (pc := 2) X dX8_isGuest_2 (v := 5) rfl ?_
  obtain ⟨r3, s1, h2, h⟩ := bd2_inv h
  refine w_callS (pc := 3) X dX8_isGuest_3 (M8_isWithin h2) rfl cw_8_64 ⟨Nat.le_of_ble_eq_true rfl, Nat.le_of_ble_eq_true rfl⟩ rfl rfl (Nat.le_of_ble_eq_true rfl) ?_
  show wpm φ ad 6 [(0, .int a0)] [.int r3] s1
  obtain ⟨g4, h⟩ := gd_inv h
  cases h
  exact w_zret X hQ dX8_isGuest_6 g4
set_option maxRecDepth 20000 in
theorem M8_at {a0 : Nat} {a1 : Int32} {s : Sto} {r : Int32} {σ' : Sto} (h : f8_at a0 a1 s = some (r, σ')) : Ct yX8_at cX8_at 2 (some .int) 0 0 (fun ad => [.ref (ad a0), .int a1]) s (fun ad => some (.int r)) σ' := by
  unfold f8_at at h
  obtain ⟨k_a0, h⟩ := gd_inv h
  refine Ct_of (by decide) (fun ad => Nat.le_of_ble_eq_true rfl) (fun φ ad X hQ => ?_)
  show wpm φ ad 0 [(0, .ref (ad a0)), (1, .int a1)] [] s
  replace X : Cx φ ad cX8_at (some .int) RX8 2 0 0 := X
  refine w_iload_n (pc := 0) X dX8_at_0 1 rfl ?_
  refine w_if_lt (pc := 1) (tgt := 16) X dX8_at_1 (by decide) (fun c3 => ?_) (fun c3 => ?_)
  · replace h := it_pos c3 h
    refine w_bipush (pc := 16) X dX8_at_16 (v := (-6)) rfl ?_
    cases h
    exact w_iret X hQ dX8_at_18
  · replace h := it_neg c3 h
    refine w_iload_n (pc := 4) X dX8_at_4 1 rfl ?_
    refine w_aload_n (pc := 5) X dX8_at_5 0 rfl ?_
    refine w_alenI (pc := 6) X dX8_at_6 k_a0 ?_
    refine w_icmp_ge (pc := 7) (tgt := 16) X dX8_at_7 (by decide) (fun c2 => ?_) (fun c2 => ?_)
    · replace h := it_pos c2 h
      refine w_bipush (pc := 16) X dX8_at_16 (v := (-6)) rfl ?_
      cases h
      exact w_iret X hQ dX8_at_18
    · replace h := it_neg c2 h
      refine w_aload_n (pc := 10) X dX8_at_10 0 rfl ?_
      refine w_iload_n (pc := 11) X dX8_at_11 1 rfl ?_
      obtain ⟨g1, h⟩ := gd_inv h
      refine w_iald (pc := 12) X dX8_at_12 k_a0 g1 ?_
      refine w_goto (tgt := 18) (pc := 13) X dX8_at_13 (by decide) ?_
      cases h
      exact w_iret X hQ dX8_at_18
set_option maxRecDepth 20000 in
theorem M0_temperOf {o : Nat} {a1 : Int32} {s : Sto} {r : Int32} {σ' : Sto} (h : f0_temperOf o a1 s = some (r, σ')) : Ct yX0_temperOf cX0_temperOf 2 (some .int) 1 21 (fun ad => [.ref (ad o), .int a1]) s (fun ad => some (.int r)) σ' := by
  unfold f0_temperOf at h
  obtain ⟨k_o, h⟩ := gd_inv h
  refine Ct_of (by decide) (fun ad => Nat.le_of_ble_eq_true rfl) (fun φ ad X hQ => ?_)
  show wpm φ ad 0 [(0, .ref (ad o)), (1, .int a1)] [] s
  replace X : Cx φ ad cX0_temperOf (some .int) RX0 2 1 21 := X
  refine w_aload_n (pc := 0) X dX0_temperOf_0 0 rfl ?_
  refine w_getR (pc := 1) X dX0_temperOf_1 clO_0 k_o 2 (by decide) (d := 1) rfl fl_0_18 ?_
  refine w_iload_n (pc := 4) X dX0_temperOf_4 1 rfl ?_
  obtain ⟨r3, s1, h2, h⟩ := bd2_inv h
  refine w_callSN (pc := 5) X dX0_temperOf_5 (M8_at h2) mn_0_57 cw_0_57 ⟨Nat.le_of_ble_eq_true rfl, Nat.le_of_ble_eq_true rfl⟩ rfl rfl (Nat.le_of_ble_eq_true rfl) ?_
  show wpm φ ad 8 [(0, .ref (ad o)), (1, .int a1)] [.int r3] s1
  cases h
  exact w_iret X hQ dX0_temperOf_8
set_option maxRecDepth 20000 in
theorem M8_temper {o : Nat} {a1 : Int32} {a2 : Int32} {s : Sto} {r : Int32} {σ' : Sto} (h : f8_temper o a1 a2 s = some (r, σ')) : Ct yX8_temper cX8_temper 4 (some .int) 2 42 (fun ad => [.ref (ad o), .int a1, .int a2]) s (fun ad => some (.int r)) σ' := by
  unfold f8_temper at h
  obtain ⟨k_o, h⟩ := gd_inv h
  refine Ct_of (by decide) (fun ad => Nat.le_of_ble_eq_true rfl) (fun φ ad X hQ => ?_)
  show wpm φ ad 0 [(0, .ref (ad o)), (1, .int a1), (2, .int a2)] [] s
  replace X : Cx φ ad cX8_temper (some .int) RX8 4 2 42 := X
  refine w_iload_n (pc := 0) X dX8_temper_0 1 rfl ?_
  obtain ⟨r3, s1, h2, h⟩ := bd2_inv h
  refine w_callS (pc := 1) X dX8_temper_1 (M8_isGuest h2) rfl cw_8_79 ⟨Nat.le_of_ble_eq_true rfl, Nat.le_of_ble_eq_true rfl⟩ rfl rfl (Nat.le_of_ble_eq_true rfl) ?_
  show wpm φ ad 4 [(0, .ref (ad o)), (1, .int a1), (2, .int a2)] [.int r3] s1
  refine w_if_ne (pc := 4) (tgt := 9) X dX8_temper_4 (by decide) (fun c13 => ?_) (fun c13 => ?_)
  · replace h := it_neg c13 h
    refine w_iload_n (pc := 9) X dX8_temper_9 2 rfl ?_
    refine w_iconst (pc := 10) X dX8_temper_10 (v := 0) rfl ?_
    refine w_iconst (pc := 11) X dX8_temper_11 (v := 2) rfl ?_
    obtain ⟨r6, s4, h5, h⟩ := bd2_inv h
    refine w_callS (pc := 12) X dX8_temper_12 (M8_isWithin h5) rfl cw_8_64 ⟨Nat.le_of_ble_eq_true rfl, Nat.le_of_ble_eq_true rfl⟩ rfl rfl (Nat.le_of_ble_eq_true rfl) ?_
    show wpm φ ad 15 [(0, .ref (ad o)), (1, .int a1), (2, .int a2)] [.int r6] s4
    refine w_if_ne (pc := 15) (tgt := 21) X dX8_temper_15 (by decide) (fun c12 => ?_) (fun c12 => ?_)
    · replace h := it_neg c12 h
      refine w_aload_n (pc := 21) X dX8_temper_21 0 rfl ?_
      refine w_getR (pc := 22) X dX8_temper_22 clO_8 k_o 0 (by decide) (d := 1) rfl fl_8_10 ?_
      refine w_iload_n (pc := 25) X dX8_temper_25 1 rfl ?_
      obtain ⟨r9, s7, h8, h⟩ := bd2_inv h
      refine w_callV (pc := 26) X dX8_temper_26 (M0_temperOf h8) (kp_8_1 k_o) (by decide) rfl cw_8_83 ⟨Nat.le_of_ble_eq_true rfl, Nat.le_of_ble_eq_true rfl⟩ rfl rfl (Nat.le_of_ble_eq_true rfl) ?_
      show wpm φ ad 29 [(0, .ref (ad o)), (1, .int a1), (2, .int a2)] [.int r9] s7
      refine w_istore_n (pc := 29) X dX8_temper_29 3 rfl (by decide) (lv' := [(3, .int r9), (0, .ref (ad o)), (1, .int a1), (2, .int a2)]) rfl ?_
      refine w_aload_n (pc := 30) X dX8_temper_30 1 rfl ?_
      refine w_getR (pc := 31) X dX8_temper_31 clO_8 k_o 0 (by decide) (d := 1) rfl fl_8_10 ?_
      refine w_getR (pc := 34) X dX8_temper_34 clO_0 (kp_8_1 k_o) 2 (by decide) (d := 1) rfl fl_8_87 ?_
      refine w_iload_n (pc := 37) X dX8_temper_37 2 rfl ?_
      refine w_iload_n (pc := 38) X dX8_temper_38 3 rfl ?_
      obtain ⟨s10, h11, h⟩ := bd1_inv h
      refine w_callS (pc := 39) X dX8_temper_39 (M8_put h11) rfl cw_8_91 ⟨Nat.le_of_ble_eq_true rfl, Nat.le_of_ble_eq_true rfl⟩ rfl rfl (Nat.le_of_ble_eq_true rfl) ?_
      show wpm φ ad 42 [(3, .int r9), (0, .ref (ad o)), (1, .int a1), (2, .int a2)] [] s10
      refine w_iload_n (pc := 42) X dX8_temper_42 0 rfl ?_
      cases h
      exact w_iret X hQ dX8_temper_43
    · replace h := it_pos c12 h
      refine w_bipush (pc := 18) X dX8_temper_18 (v := (-2)) rfl ?_
      cases h
      exact w_iret X hQ dX8_temper_20
  · replace h := it_pos c13 h
    refine w_iconst (pc := 7) X dX8_temper_7 (v := (-1)) rfl ?_
    cases h
    exact w_iret X hQ dX8_temper_8
set_option maxRecDepth 20000 in
theorem M8_width {o : Nat} {a1 : Int32} {s : Sto} {r : Int32} {σ' : Sto} (h : f8_width o a1 s = some (r, σ')) : Ct yX8_width cX8_width 3 (some .int) 1 22 (fun ad => [.ref (ad o), .int a1]) s (fun ad => some (.int r)) σ' := by
  unfold f8_width at h
  obtain ⟨k_o, h⟩ := gd_inv h
  refine Ct_of (by decide) (fun ad => Nat.le_of_ble_eq_true rfl) (fun φ ad X hQ => ?_)
  show wpm φ ad 0 [(0, .ref (ad o)), (1, .int a1)] [] s
  replace X : Cx φ ad cX8_width (some .int) RX8 3 1 22 := X
  refine w_iload_n (pc := 0) X dX8_width_0 1 rfl ?_
  refine w_iconst (pc := 1) X dX8_width_1 (v := 0) rfl ?_
  refine w_bipush (pc := 2) X dX8_width_2 (v := (40)) rfl ?_
  obtain ⟨r3, s1, h2, h⟩ := bd2_inv h
  refine w_callS (pc := 4) X dX8_width_4 (M8_isWithin h2) rfl cw_8_64 ⟨Nat.le_of_ble_eq_true rfl, Nat.le_of_ble_eq_true rfl⟩ rfl rfl (Nat.le_of_ble_eq_true rfl) ?_
  show wpm φ ad 7 [(0, .ref (ad o)), (1, .int a1)] [.int r3] s1
  refine w_if_ne (pc := 7) (tgt := 13) X dX8_width_7 (by decide) (fun c5 => ?_) (fun c5 => ?_)
  · replace h := it_neg c5 h
    refine w_aload_n (pc := 13) X dX8_width_13 0 rfl ?_
    refine w_getR (pc := 14) X dX8_width_14 clO_8 k_o 0 (by decide) (d := 1) rfl fl_8_10 ?_
    refine w_getR (pc := 17) X dX8_width_17 clO_0 (kp_8_1 k_o) 3 (by decide) (d := 2) rfl fl_8_95 ?_
    refine w_getI (pc := 20) X dX8_width_20 clO_2 (kp_0_2 (kp_8_1 k_o)) 4 (by decide) rfl fl_8_99 ?_
    refine w_istore_n (pc := 23) X dX8_width_23 2 rfl (by decide) (lv' := [(2, .int (s1.1 ((o + 1) + 2) 4)), (0, .ref (ad o)), (1, .int a1)]) rfl ?_
    refine w_aload_n (pc := 24) X dX8_width_24 1 rfl ?_
    refine w_getR (pc := 25) X dX8_width_25 clO_8 k_o 0 (by decide) (d := 1) rfl fl_8_10 ?_
    refine w_getR (pc := 28) X dX8_width_28 clO_0 (kp_8_1 k_o) 3 (by decide) (d := 2) rfl fl_8_95 ?_
    refine w_iload_n (pc := 31) X dX8_width_31 2 rfl ?_
    refine w_putI (pc := 32) X dX8_width_32 clO_2 (kp_0_2 (kp_8_1 k_o)) 4 (by decide) rfl rfl (Or.inl rfl) fl_8_99 ?_
    obtain ⟨s4, e_s4, h⟩ := nm_inv h
    refine w_nm e_s4 ?_
    refine w_iload_n (pc := 35) X dX8_width_35 0 rfl ?_
    cases h
    exact w_iret X hQ dX8_width_36
  · replace h := it_pos c5 h
    refine w_bipush (pc := 10) X dX8_width_10 (v := (-2)) rfl ?_
    cases h
    exact w_iret X hQ dX8_width_12
set_option maxRecDepth 20000 in
theorem M5_add {o : Nat} {a1 : Int32} {s : Sto} {r : Int32} {σ' : Sto} (h : f5_add o a1 s = some (r, σ')) : Ct yX5_add cX5_add 2 (some .int) 1 22 (fun ad => [.ref (ad o), .int a1]) s (fun ad => some (.int r)) σ' := by
  unfold f5_add at h
  obtain ⟨k_o, h⟩ := gd_inv h
  refine Ct_of (by decide) (fun ad => Nat.le_of_ble_eq_true rfl) (fun φ ad X hQ => ?_)
  show wpm φ ad 0 [(0, .ref (ad o)), (1, .int a1)] [] s
  replace X : Cx φ ad cX5_add (some .int) RX5 2 1 22 := X
  refine w_aload_n (pc := 0) X dX5_add_0 0 rfl ?_
  refine w_getI (pc := 1) X dX5_add_1 clO_5 k_o 1 (by decide) rfl fl_5_15 ?_
  refine w_bipush (pc := 4) X dX5_add_4 (v := (60)) rfl ?_
  refine w_icmp_lt (pc := 6) (tgt := 12) X dX5_add_6 (by decide) (fun c4 => ?_) (fun c4 => ?_)
  · replace h := it_pos c4 h
    refine w_aload_n (pc := 12) X dX5_add_12 0 rfl ?_
    refine w_getR (pc := 13) X dX5_add_13 clO_5 k_o 0 (by decide) (d := 1) rfl fl_5_9 ?_
    refine w_aload_n (pc := 16) X dX5_add_16 0 rfl ?_
    refine w_getI (pc := 17) X dX5_add_17 clO_5 k_o 1 (by decide) rfl fl_5_15 ?_
    refine w_iload_n (pc := 20) X dX5_add_20 1 rfl ?_
    obtain ⟨s1, h2, h⟩ := bd1_inv h
    refine w_callSN (pc := 21) X dX5_add_21 (M8_put h2) mn_5_19 cw_5_19 ⟨Nat.le_of_ble_eq_true rfl, Nat.le_of_ble_eq_true rfl⟩ rfl rfl (Nat.le_of_ble_eq_true rfl) ?_
    show wpm φ ad 24 [(0, .ref (ad o)), (1, .int a1)] [] s1
    refine w_aload_n (pc := 24) X dX5_add_24 0 rfl ?_
    refine w_dup (pc := 25) X dX5_add_25 rfl ?_
    refine w_getI (pc := 26) X dX5_add_26 clO_5 k_o 1 (by decide) rfl fl_5_15 ?_
    refine w_iconst (pc := 29) X dX5_add_29 (v := 1) rfl ?_
    refine w_iadd (pc := 30) X dX5_add_30 ?_
    refine w_putI (pc := 31) X dX5_add_31 clO_5 k_o 1 (by decide) rfl rfl (Or.inl rfl) fl_5_15 ?_
    obtain ⟨s3, e_s3, h⟩ := nm_inv h
    refine w_nm e_s3 ?_
    refine w_aload_n (pc := 34) X dX5_add_34 0 rfl ?_
    refine w_getI (pc := 35) X dX5_add_35 clO_5 k_o 1 (by decide) rfl fl_5_15 ?_
    cases h
    exact w_iret X hQ dX5_add_38
  · replace h := it_neg c4 h
    refine w_bipush (pc := 9) X dX5_add_9 (v := (-4)) rfl ?_
    cases h
    exact w_iret X hQ dX5_add_11
set_option maxRecDepth 20000 in
theorem M8_say {o : Nat} {a1 : Int32} {s : Sto} {r : Int32} {σ' : Sto} (h : f8_say o a1 s = some (r, σ')) : Ct yX8_say cX8_say 2 (some .int) 2 43 (fun ad => [.ref (ad o), .int a1]) s (fun ad => some (.int r)) σ' := by
  unfold f8_say at h
  obtain ⟨k_o, h⟩ := gd_inv h
  refine Ct_of (by decide) (fun ad => Nat.le_of_ble_eq_true rfl) (fun φ ad X hQ => ?_)
  show wpm φ ad 0 [(0, .ref (ad o)), (1, .int a1)] [] s
  replace X : Cx φ ad cX8_say (some .int) RX8 2 2 43 := X
  refine w_iload_n (pc := 0) X dX8_say_0 1 rfl ?_
  refine w_bipush (pc := 1) X dX8_say_1 (v := (33)) rfl ?_
  refine w_bipush (pc := 3) X dX8_say_3 (v := (126)) rfl ?_
  obtain ⟨r3, s1, h2, h⟩ := bd2_inv h
  refine w_callS (pc := 5) X dX8_say_5 (M8_isWithin h2) rfl cw_8_64 ⟨Nat.le_of_ble_eq_true rfl, Nat.le_of_ble_eq_true rfl⟩ rfl rfl (Nat.le_of_ble_eq_true rfl) ?_
  show wpm φ ad 8 [(0, .ref (ad o)), (1, .int a1)] [.int r3] s1
  refine w_if_ne (pc := 8) (tgt := 14) X dX8_say_8 (by decide) (fun c7 => ?_) (fun c7 => ?_)
  · replace h := it_neg c7 h
    refine w_aload_n (pc := 14) X dX8_say_14 0 rfl ?_
    refine w_getR (pc := 15) X dX8_say_15 clO_8 k_o 3 (by decide) (d := 25) rfl fl_8_25 ?_
    refine w_iload_n (pc := 18) X dX8_say_18 1 rfl ?_
    obtain ⟨r6, s4, h5, h⟩ := bd2_inv h
    refine w_callV (pc := 19) X dX8_say_19 (M5_add h5) (kp_8_25 k_o) (by decide) rfl cw_8_104 ⟨Nat.le_of_ble_eq_true rfl, Nat.le_of_ble_eq_true rfl⟩ rfl rfl (Nat.le_of_ble_eq_true rfl) ?_
    show wpm φ ad 22 [(0, .ref (ad o)), (1, .int a1)] [.int r6] s4
    cases h
    exact w_iret X hQ dX8_say_22
  · replace h := it_pos c7 h
    refine w_bipush (pc := 11) X dX8_say_11 (v := (-2)) rfl ?_
    cases h
    exact w_iret X hQ dX8_say_13
set_option maxRecDepth 20000 in
theorem M8_wipe {o : Nat} {s : Sto} {r : Int32} {σ' : Sto} (h : f8_wipe o s = some (r, σ')) : Ct yX8_wipe cX8_wipe 2 (some .int) 0 0 (fun ad => [.ref (ad o)]) s (fun ad => some (.int r)) σ' := by
  unfold f8_wipe at h
  obtain ⟨k_o, h⟩ := gd_inv h
  refine Ct_of (by decide) (fun ad => Nat.le_of_ble_eq_true rfl) (fun φ ad X hQ => ?_)
  show wpm φ ad 0 [(0, .ref (ad o))] [] s
  replace X : Cx φ ad cX8_wipe (some .int) RX8 2 0 0 := X
  refine w_aload_n (pc := 0) X dX8_wipe_0 0 rfl ?_
  refine w_getR (pc := 1) X dX8_wipe_1 clO_8 k_o 3 (by decide) (d := 25) rfl fl_8_25 ?_
  refine w_getI (pc := 4) X dX8_wipe_4 clO_5 (kp_8_25 k_o) 1 (by decide) rfl fl_8_107 ?_
  refine w_istore_n (pc := 7) X dX8_wipe_7 1 rfl (by decide) (lv' := [(1, .int (s.1 (o + 25) 1)), (0, .ref (ad o))]) rfl ?_
  refine w_aload_n (pc := 8) X dX8_wipe_8 1 rfl ?_
  refine w_getR (pc := 9) X dX8_wipe_9 clO_8 k_o 3 (by decide) (d := 25) rfl fl_8_25 ?_
  refine w_iconst (pc := 12) X dX8_wipe_12 (v := 0) rfl ?_
  refine w_putI (pc := 13) X dX8_wipe_13 clO_5 (kp_8_25 k_o) 1 (by decide) rfl rfl (Or.inl rfl) fl_8_107 ?_
  obtain ⟨s1, e_s1, h⟩ := nm_inv h
  refine w_nm e_s1 ?_
  refine w_iload_n (pc := 16) X dX8_wipe_16 0 rfl ?_
  cases h
  exact w_iret X hQ dX8_wipe_17
set_option maxRecDepth 20000 in
theorem M1_unspoken {a0 : Int32} {s : Sto} {r : Int32} {σ' : Sto} (h : f1_unspoken a0 s = some (r, σ')) : Ct yX1_unspoken cX1_unspoken 1 (some .int) 0 0 (fun ad => [.int a0]) s (fun ad => some (.int r)) σ' := by
  unfold f1_unspoken at h
  refine Ct_of (by decide) (fun ad => Nat.le_of_ble_eq_true rfl) (fun φ ad X hQ => ?_)
  show wpm φ ad 0 [(0, .int a0)] [] s
  replace X : Cx φ ad cX1_unspoken (some .int) RX1 1 0 0 := X
  refine w_iload_n (pc := 0) X dX1_unspoken_0 0 rfl ?_
  by_cases c1 : a0 = 33
  · replace h := it_pos c1 h
    refine w_lsw (pc := 1) (tgt := 42) X dX1_unspoken_1 (by decide) (by rw [c1] <;> rfl) (by decide) ?_
    refine w_bipush (pc := 42) X dX1_unspoken_42 (v := (102)) rfl ?_
    cases h
    exact w_iret X hQ dX1_unspoken_44
  replace h := it_neg c1 h
  by_cases c2 : a0 = 46
  · replace h := it_pos c2 h
    refine w_lsw (pc := 1) (tgt := 36) X dX1_unspoken_1 (by decide) (by rw [c2] <;> rfl) (by decide) ?_
    refine w_bipush (pc := 36) X dX1_unspoken_36 (v := (100)) rfl ?_
    cases h
    exact w_iret X hQ dX1_unspoken_38
  replace h := it_neg c2 h
  by_cases c3 : a0 = 63
  · replace h := it_pos c3 h
    refine w_lsw (pc := 1) (tgt := 39) X dX1_unspoken_1 (by decide) (by rw [c3] <;> rfl) (by decide) ?_
    refine w_bipush (pc := 39) X dX1_unspoken_39 (v := (101)) rfl ?_
    cases h
    exact w_iret X hQ dX1_unspoken_41
  replace h := it_neg c3 h
  refine w_lsw (pc := 1) (tgt := 45) X dX1_unspoken_1 (by decide) (by show Op.lookupswitch.offset [(33, 41), (46, 35), (63, 38)] (44) (a0).toInt = 44; rw [Op.lookupswitch.offset_cons, if_neg (lsw_ne (k := 33) c1), Op.lookupswitch.offset_cons, if_neg (lsw_ne (k := 46) c2), Op.lookupswitch.offset_cons, if_neg (lsw_ne (k := 63) c3), Op.lookupswitch.offset_nil]) (by decide) ?_
  refine w_bipush (pc := 45) X dX1_unspoken_45 (v := (-6)) rfl ?_
  cases h
  exact w_iret X hQ dX1_unspoken_47
set_option maxRecDepth 20000 in
theorem M1_add {o : Nat} {a1 : Int32} {s : Sto} {σ' : Sto} (h : f1_add o a1 s = some σ') : Ct yX1_add cX1_add 2 none 1 22 (fun ad => [.ref (ad o), .int a1]) s (fun _ => none) σ' := by
  unfold f1_add at h
  obtain ⟨k_o, h⟩ := gd_inv h
  refine Ct_of (by decide) (fun ad => Nat.le_of_ble_eq_true rfl) (fun φ ad X hQ => ?_)
  show wpm φ ad 0 [(0, .ref (ad o)), (1, .int a1)] [] s
  replace X : Cx φ ad cX1_add none RX1 2 1 22 := X
  refine w_aload_n (pc := 0) X dX1_add_0 0 rfl ?_
  refine w_getR (pc := 1) X dX1_add_1 clO_1 k_o 0 (by decide) (d := 1) rfl fl_1_9 ?_
  refine w_aload_n (pc := 4) X dX1_add_4 0 rfl ?_
  refine w_getI (pc := 5) X dX1_add_5 clO_1 k_o 1 (by decide) rfl fl_1_15 ?_
  refine w_iload_n (pc := 8) X dX1_add_8 1 rfl ?_
  obtain ⟨s1, h2, h⟩ := bd1_inv h
  refine w_callSN (pc := 9) X dX1_add_9 (M8_put h2) mn_1_65 cw_1_65 ⟨Nat.le_of_ble_eq_true rfl, Nat.le_of_ble_eq_true rfl⟩ rfl rfl (Nat.le_of_ble_eq_true rfl) ?_
  show wpm φ ad 12 [(0, .ref (ad o)), (1, .int a1)] [] s1
  refine w_aload_n (pc := 12) X dX1_add_12 0 rfl ?_
  refine w_dup (pc := 13) X dX1_add_13 rfl ?_
  refine w_getI (pc := 14) X dX1_add_14 clO_1 k_o 1 (by decide) rfl fl_1_15 ?_
  refine w_iconst (pc := 17) X dX1_add_17 (v := 1) rfl ?_
  refine w_iadd (pc := 18) X dX1_add_18 ?_
  refine w_putI (pc := 19) X dX1_add_19 clO_1 k_o 1 (by decide) rfl rfl (Or.inl rfl) fl_1_15 ?_
  obtain ⟨s3, e_s3, h⟩ := nm_inv h
  refine w_nm e_s3 ?_
  cases h
  exact w_vret X hQ dX1_add_22
set_option maxRecDepth 20000 in
theorem M8_spoken {a0 : Int32} {a1 : Int32} {a2 : Int32} {s : Sto} {r : Int32} {σ' : Sto} (h : f8_spoken a0 a1 a2 s = some (r, σ')) : Ct yX8_spoken cX8_spoken 3 (some .int) 0 0 (fun ad => [.int a0, .int a1, .int a2]) s (fun ad => some (.int r)) σ' := by
  unfold f8_spoken at h
  refine Ct_of (by decide) (fun ad => Nat.le_of_ble_eq_true rfl) (fun φ ad X hQ => ?_)
  show wpm φ ad 0 [(0, .int a0), (1, .int a1), (2, .int a2)] [] s
  replace X : Cx φ ad cX8_spoken (some .int) RX8 3 0 0 := X
  refine w_iload_n (pc := 0) X dX8_spoken_0 0 rfl ?_
  refine w_bipush (pc := 1) X dX8_spoken_1 (v := (16)) rfl ?_
  refine w_imul (pc := 3) X dX8_spoken_3 ?_
  refine w_iload_n (pc := 4) X dX8_spoken_4 1 rfl ?_
  refine w_iconst (pc := 5) X dX8_spoken_5 (v := 2) rfl ?_
  refine w_imul (pc := 6) X dX8_spoken_6 ?_
  refine w_iadd (pc := 7) X dX8_spoken_7 ?_
  refine w_iload_n (pc := 8) X dX8_spoken_8 2 rfl ?_
  refine w_if_eq (pc := 9) (tgt := 16) X dX8_spoken_9 (by decide) (fun c1 => ?_) (fun c1 => ?_)
  · replace h := it_pos c1 h
    refine w_iconst (pc := 16) X dX8_spoken_16 (v := 0) rfl ?_
    refine w_iadd (pc := 17) X dX8_spoken_17 ?_
    cases h
    exact w_iret X hQ dX8_spoken_18
  · replace h := it_neg c1 h
    refine w_iconst (pc := 12) X dX8_spoken_12 (v := 1) rfl ?_
    refine w_goto (tgt := 17) (pc := 13) X dX8_spoken_13 (by decide) ?_
    refine w_iadd (pc := 17) X dX8_spoken_17 ?_
    cases h
    exact w_iret X hQ dX8_spoken_18
set_option maxRecDepth 20000 in
theorem WL1_read_16 {φ : Fr} {ad : Nat → Nat} (X : Cx φ ad cX1_read (some .int) RX1 8 2 43) (o : Nat) (a1 : Nat) (a2 : Int32) (k_o : kd o = 1) (k_a1 : kd a1 = 5) {r : Int32} {σ' : Sto} (hQ : Fini φ ad (some (.int r)) σ') : ∀ (fuel : Nat) (v3 : Int32) (v4 : Int32) (v5 : Int32) (v6 : Int32) (s : Sto), L1_read_16 o a1 a2 fuel v3 v4 v5 v6 s = some (r, σ') → wpm φ ad 16 [(0, .ref (ad o)), (1, .ref (ad a1)), (2, .int a2), (3, .int v3), (4, .int v4), (5, .int v5), (6, .int v6)] [] s := by
  intro fuel
  induction fuel with
  | zero => intro v3 v4 v5 v6 s h; cases h
  | succ fuel ih =>
    intro v3 v4 v5 v6 s h
    unfold L1_read_16 at h
    refine w_iload (pc := 16) X dX1_read_16 6 rfl ?_
    refine w_aload_n (pc := 18) X dX1_read_18 1 rfl ?_
    refine w_getI (pc := 19) X dX1_read_19 clO_5 k_a1 1 (by decide) rfl fl_1_35 ?_
    refine w_icmp_ge (pc := 22) (tgt := 177) X dX1_read_22 (by decide) (fun c203 => ?_) (fun c203 => ?_)
    · replace h := it_pos c203 h
      refine w_iload_n (pc := 177) X dX1_read_177 3 rfl ?_
      refine w_if_ne (pc := 178) (tgt := 186) X dX1_read_178 (by decide) (fun c2 => ?_) (fun c2 => ?_)
      · replace h := it_neg c2 h
        refine w_aload_n (pc := 186) X dX1_read_186 1 rfl ?_
        refine w_getI (pc := 187) X dX1_read_187 clO_5 k_a1 1 (by decide) rfl fl_1_35 ?_
        cases h
        exact w_iret X hQ dX1_read_190
      · replace h := it_pos c2 h
        refine w_bipush (pc := 181) X dX1_read_181 (v := (-6)) rfl ?_
        refine w_goto (tgt := 190) (pc := 183) X dX1_read_183 (by decide) ?_
        cases h
        exact w_iret X hQ dX1_read_190
    · replace h := it_neg c203 h
      refine w_aload_n (pc := 25) X dX1_read_25 1 rfl ?_
      refine w_getR (pc := 26) X dX1_read_26 clO_5 k_a1 0 (by decide) (d := 1) rfl fl_1_38 ?_
      refine w_iload (pc := 29) X dX1_read_29 6 rfl ?_
      obtain ⟨r5, s3, h4, h⟩ := bd2_inv h
      refine w_callSN (pc := 31) X dX1_read_31 (M8_at h4) mn_1_41 cw_1_41 ⟨Nat.le_of_ble_eq_true rfl, Nat.le_of_ble_eq_true rfl⟩ rfl rfl (Nat.le_of_ble_eq_true rfl) ?_
      show wpm φ ad 34 [(0, .ref (ad o)), (1, .ref (ad a1)), (2, .int a2), (3, .int v3), (4, .int v4), (5, .int v5), (6, .int v6)] [.int r5] s3
      refine w_istore (pc := 34) X dX1_read_34 (by decide) (lv' := [(7, .int r5), (0, .ref (ad o)), (1, .ref (ad a1)), (2, .int a2), (3, .int v3), (4, .int v4), (5, .int v5), (6, .int v6)]) rfl ?_
      refine w_iload_n (pc := 36) X dX1_read_36 4 rfl ?_
      refine w_if_ne (pc := 37) (tgt := 63) X dX1_read_37 (by decide) (fun c202 => ?_) (fun c202 => ?_)
      · replace h := it_neg c202 h
        refine w_iload_n (pc := 63) X dX1_read_63 4 rfl ?_
        refine w_if_ne (pc := 64) (tgt := 89) X dX1_read_64 (by decide) (fun c101 => ?_) (fun c101 => ?_)
        · replace h := it_neg c101 h
          refine w_iload_n (pc := 89) X dX1_read_89 4 rfl ?_
          refine w_iconst (pc := 90) X dX1_read_90 (v := 1) rfl ?_
          refine w_icmp_ne (pc := 91) (tgt := 121) X dX1_read_91 (by decide) (fun c48 => ?_) (fun c48 => ?_)
          · replace h := it_neg c48 h
            refine w_iload_n (pc := 121) X dX1_read_121 4 rfl ?_
            refine w_iconst (pc := 122) X dX1_read_122 (v := 2) rfl ?_
            refine w_icmp_ne (pc := 123) (tgt := 168) X dX1_read_123 (by decide) (fun c24 => ?_) (fun c24 => ?_)
            · replace h := it_neg c24 h
              refine w_iload (pc := 168) X dX1_read_168 7 rfl ?_
              cases h
              exact w_iret X hQ dX1_read_170
            · replace h := it_pos c24 h
              refine w_iload (pc := 126) X dX1_read_126 0 rfl ?_
              refine w_bipush (pc := 128) X dX1_read_128 (v := (43)) rfl ?_
              refine w_icmp_eq (pc := 130) (tgt := 140) X dX1_read_130 (by decide) (fun c23 => ?_) (fun c23 => ?_)
              · replace h := it_pos c23 h
                refine w_aload_n (pc := 140) X dX1_read_140 1 rfl ?_
                refine w_iload (pc := 141) X dX1_read_141 5 rfl ?_
                refine w_iload (pc := 143) X dX1_read_143 6 rfl ?_
                refine w_iload (pc := 145) X dX1_read_145 0 rfl ?_
                refine w_bipush (pc := 147) X dX1_read_147 (v := (43)) rfl ?_
                obtain ⟨x7, h13, h⟩ := bd1_inv h
                have K149 : wpm φ ad 157 [(0, .ref (ad o)), (1, .ref (ad a1)), (2, .int a2), (4, .int v4), (5, .int v5), (6, .int v6)] [.int x7, .int v5, .int v4, .ref (ad o)] s3 := by
                  obtain ⟨r10, s8, h9, h⟩ := bd2_inv h
                  refine w_callSN (pc := 157) X dX1_read_157 (M8_spoken h9) mn_1_61 cw_1_61 ⟨Nat.le_of_ble_eq_true rfl, Nat.le_of_ble_eq_true rfl⟩ rfl rfl (Nat.le_of_ble_eq_true rfl) ?_
                  show wpm φ ad 160 [(0, .ref (ad o)), (1, .ref (ad a1)), (2, .int a2), (4, .int v4), (5, .int v5), (6, .int v6)] [.int r10, .ref (ad o)] s8
                  obtain ⟨s11, h12, h⟩ := bd1_inv h
                  refine w_callV (pc := 160) X dX1_read_160 (M1_add h12) k_o (by decide) rfl cw_1_53 ⟨Nat.le_of_ble_eq_true rfl, Nat.le_of_ble_eq_true rfl⟩ rfl rfl (Nat.le_of_ble_eq_true rfl) ?_
                  show wpm φ ad 163 [(0, .ref (ad o)), (1, .ref (ad a1)), (2, .int a2), (4, .int v4), (5, .int v5), (6, .int v6)] [] s11
                  refine w_iconst (pc := 163) X dX1_read_163 (v := 0) rfl ?_
                  refine w_istore_n (pc := 164) X dX1_read_164 3 rfl (by decide) (lv' := [(3, .int (0 : Int32)), (0, .ref (ad o)), (1, .ref (ad a1)), (2, .int a2), (4, .int v4), (5, .int v5), (6, .int v6)]) rfl ?_
                  refine w_goto (tgt := 171) (pc := 165) X dX1_read_165 (by decide) ?_
                  refine w_iinc (pc := 171) X dX1_read_171 6 rfl (v := (v6 + 1)) rfl (by decide) (lv' := [(6, .int (v6 + 1)), (3, .int (0 : Int32)), (0, .ref (ad o)), (1, .ref (ad a1)), (2, .int a2), (4, .int v4), (5, .int v5)]) rfl ?_
                  refine w_goto (tgt := 16) (pc := 174) X dX1_read_174 (by decide) ?_
                  exact w_sub (pc := 16) [2, 3, 4, 1, 5, 6, 0] rfl (ih _ _ _ _ _ h)
                clear h
                have h := h13
                clear h13
                refine w_icmp_ne (pc := 149) (tgt := 156) X dX1_read_149 (by decide) (fun c6 => ?_) (fun c6 => ?_)
                · replace h := it_neg c6 h
                  refine w_iconst (pc := 156) X dX1_read_156 (v := 0) rfl ?_
                  cases h
                  exact w_sub (pc := 157) [1, 2, 3, 5, 6, 7] rfl K149
                · replace h := it_pos c6 h
                  refine w_iconst (pc := 152) X dX1_read_152 (v := 1) rfl ?_
                  refine w_goto (tgt := 157) (pc := 153) X dX1_read_153 (by decide) ?_
                  cases h
                  exact w_sub (pc := 157) [1, 2, 3, 5, 6, 7] rfl K149
              · replace h := it_neg c23 h
                refine w_iload (pc := 133) X dX1_read_133 0 rfl ?_
                refine w_bipush (pc := 135) X dX1_read_135 (v := (45)) rfl ?_
                refine w_icmp_ne (pc := 137) (tgt := 168) X dX1_read_137 (by decide) (fun c22 => ?_) (fun c22 => ?_)
                · replace h := it_neg c22 h
                  refine w_iload (pc := 168) X dX1_read_168 7 rfl ?_
                  cases h
                  exact w_iret X hQ dX1_read_170
                · replace h := it_pos c22 h
                  refine w_aload_n (pc := 140) X dX1_read_140 1 rfl ?_
                  refine w_iload (pc := 141) X dX1_read_141 5 rfl ?_
                  refine w_iload (pc := 143) X dX1_read_143 6 rfl ?_
                  refine w_iload (pc := 145) X dX1_read_145 0 rfl ?_
                  refine w_bipush (pc := 147) X dX1_read_147 (v := (43)) rfl ?_
                  obtain ⟨x15, h21, h⟩ := bd1_inv h
                  have K149 : wpm φ ad 157 [(0, .ref (ad o)), (1, .ref (ad a1)), (2, .int a2), (4, .int v4), (5, .int v5), (6, .int v6)] [.int x15, .int v5, .int v4, .ref (ad o)] s3 := by
                    obtain ⟨r18, s16, h17, h⟩ := bd2_inv h
                    refine w_callSN (pc := 157) X dX1_read_157 (M8_spoken h17) mn_1_61 cw_1_61 ⟨Nat.le_of_ble_eq_true rfl, Nat.le_of_ble_eq_true rfl⟩ rfl rfl (Nat.le_of_ble_eq_true rfl) ?_
                    show wpm φ ad 160 [(0, .ref (ad o)), (1, .ref (ad a1)), (2, .int a2), (4, .int v4), (5, .int v5), (6, .int v6)] [.int r18, .ref (ad o)] s16
                    obtain ⟨s19, h20, h⟩ := bd1_inv h
                    refine w_callV (pc := 160) X dX1_read_160 (M1_add h20) k_o (by decide) rfl cw_1_53 ⟨Nat.le_of_ble_eq_true rfl, Nat.le_of_ble_eq_true rfl⟩ rfl rfl (Nat.le_of_ble_eq_true rfl) ?_
                    show wpm φ ad 163 [(0, .ref (ad o)), (1, .ref (ad a1)), (2, .int a2), (4, .int v4), (5, .int v5), (6, .int v6)] [] s19
                    refine w_iconst (pc := 163) X dX1_read_163 (v := 0) rfl ?_
                    refine w_istore_n (pc := 164) X dX1_read_164 3 rfl (by decide) (lv' := [(3, .int (0 : Int32)), (0, .ref (ad o)), (1, .ref (ad a1)), (2, .int a2), (4, .int v4), (5, .int v5), (6, .int v6)]) rfl ?_
                    refine w_goto (tgt := 171) (pc := 165) X dX1_read_165 (by decide) ?_
                    refine w_iinc (pc := 171) X dX1_read_171 6 rfl (v := (v6 + 1)) rfl (by decide) (lv' := [(6, .int (v6 + 1)), (3, .int (0 : Int32)), (0, .ref (ad o)), (1, .ref (ad a1)), (2, .int a2), (4, .int v4), (5, .int v5)]) rfl ?_
                    refine w_goto (tgt := 16) (pc := 174) X dX1_read_174 (by decide) ?_
                    exact w_sub (pc := 16) [2, 3, 4, 1, 5, 6, 0] rfl (ih _ _ _ _ _ h)
                  clear h
                  have h := h21
                  clear h21
                  refine w_icmp_ne (pc := 149) (tgt := 156) X dX1_read_149 (by decide) (fun c14 => ?_) (fun c14 => ?_)
                  · replace h := it_neg c14 h
                    refine w_iconst (pc := 156) X dX1_read_156 (v := 0) rfl ?_
                    cases h
                    exact w_sub (pc := 157) [1, 2, 3, 5, 6, 7] rfl K149
                  · replace h := it_pos c14 h
                    refine w_iconst (pc := 152) X dX1_read_152 (v := 1) rfl ?_
                    refine w_goto (tgt := 157) (pc := 153) X dX1_read_153 (by decide) ?_
                    cases h
                    exact w_sub (pc := 157) [1, 2, 3, 5, 6, 7] rfl K149
          · replace h := it_pos c48 h
            refine w_iload (pc := 94) X dX1_read_94 0 rfl ?_
            refine w_bipush (pc := 96) X dX1_read_96 (v := (97)) rfl ?_
            refine w_isub (pc := 98) X dX1_read_98 ?_
            refine w_iconst (pc := 99) X dX1_read_99 (v := 0) rfl ?_
            refine w_iload_n (pc := 100) X dX1_read_100 3 rfl ?_
            refine w_iconst (pc := 101) X dX1_read_101 (v := 1) rfl ?_
            refine w_isub (pc := 102) X dX1_read_102 ?_
            obtain ⟨r27, s25, h26, h⟩ := bd2_inv h
            refine w_callSN (pc := 103) X dX1_read_103 (M8_isWithin h26) mn_1_57 cw_1_57 ⟨Nat.le_of_ble_eq_true rfl, Nat.le_of_ble_eq_true rfl⟩ rfl rfl (Nat.le_of_ble_eq_true rfl) ?_
            show wpm φ ad 106 [(7, .int r5), (0, .ref (ad o)), (1, .ref (ad a1)), (2, .int a2), (3, .int v3), (4, .int v4), (5, .int v5), (6, .int v6)] [.int r27] s25
            refine w_if_eq (pc := 106) (tgt := 121) X dX1_read_106 (by decide) (fun c47 => ?_) (fun c47 => ?_)
            · replace h := it_pos c47 h
              refine w_iload_n (pc := 121) X dX1_read_121 4 rfl ?_
              refine w_iconst (pc := 122) X dX1_read_122 (v := 2) rfl ?_
              refine w_icmp_ne (pc := 123) (tgt := 168) X dX1_read_123 (by decide) (fun c46 => ?_) (fun c46 => ?_)
              · replace h := it_neg c46 h
                refine w_iload (pc := 168) X dX1_read_168 7 rfl ?_
                cases h
                exact w_iret X hQ dX1_read_170
              · replace h := it_pos c46 h
                refine w_iload (pc := 126) X dX1_read_126 0 rfl ?_
                refine w_bipush (pc := 128) X dX1_read_128 (v := (43)) rfl ?_
                refine w_icmp_eq (pc := 130) (tgt := 140) X dX1_read_130 (by decide) (fun c45 => ?_) (fun c45 => ?_)
                · replace h := it_pos c45 h
                  refine w_aload_n (pc := 140) X dX1_read_140 1 rfl ?_
                  refine w_iload (pc := 141) X dX1_read_141 5 rfl ?_
                  refine w_iload (pc := 143) X dX1_read_143 6 rfl ?_
                  refine w_iload (pc := 145) X dX1_read_145 0 rfl ?_
                  refine w_bipush (pc := 147) X dX1_read_147 (v := (43)) rfl ?_
                  obtain ⟨x29, h35, h⟩ := bd1_inv h
                  have K149 : wpm φ ad 157 [(0, .ref (ad o)), (1, .ref (ad a1)), (2, .int a2), (4, .int v4), (5, .int v5), (6, .int v6)] [.int x29, .int v5, .int v4, .ref (ad o)] s25 := by
                    obtain ⟨r32, s30, h31, h⟩ := bd2_inv h
                    refine w_callSN (pc := 157) X dX1_read_157 (M8_spoken h31) mn_1_61 cw_1_61 ⟨Nat.le_of_ble_eq_true rfl, Nat.le_of_ble_eq_true rfl⟩ rfl rfl (Nat.le_of_ble_eq_true rfl) ?_
                    show wpm φ ad 160 [(0, .ref (ad o)), (1, .ref (ad a1)), (2, .int a2), (4, .int v4), (5, .int v5), (6, .int v6)] [.int r32, .ref (ad o)] s30
                    obtain ⟨s33, h34, h⟩ := bd1_inv h
                    refine w_callV (pc := 160) X dX1_read_160 (M1_add h34) k_o (by decide) rfl cw_1_53 ⟨Nat.le_of_ble_eq_true rfl, Nat.le_of_ble_eq_true rfl⟩ rfl rfl (Nat.le_of_ble_eq_true rfl) ?_
                    show wpm φ ad 163 [(0, .ref (ad o)), (1, .ref (ad a1)), (2, .int a2), (4, .int v4), (5, .int v5), (6, .int v6)] [] s33
                    refine w_iconst (pc := 163) X dX1_read_163 (v := 0) rfl ?_
                    refine w_istore_n (pc := 164) X dX1_read_164 3 rfl (by decide) (lv' := [(3, .int (0 : Int32)), (0, .ref (ad o)), (1, .ref (ad a1)), (2, .int a2), (4, .int v4), (5, .int v5), (6, .int v6)]) rfl ?_
                    refine w_goto (tgt := 171) (pc := 165) X dX1_read_165 (by decide) ?_
                    refine w_iinc (pc := 171) X dX1_read_171 6 rfl (v := (v6 + 1)) rfl (by decide) (lv' := [(6, .int (v6 + 1)), (3, .int (0 : Int32)), (0, .ref (ad o)), (1, .ref (ad a1)), (2, .int a2), (4, .int v4), (5, .int v5)]) rfl ?_
                    refine w_goto (tgt := 16) (pc := 174) X dX1_read_174 (by decide) ?_
                    exact w_sub (pc := 16) [2, 3, 4, 1, 5, 6, 0] rfl (ih _ _ _ _ _ h)
                  clear h
                  have h := h35
                  clear h35
                  refine w_icmp_ne (pc := 149) (tgt := 156) X dX1_read_149 (by decide) (fun c28 => ?_) (fun c28 => ?_)
                  · replace h := it_neg c28 h
                    refine w_iconst (pc := 156) X dX1_read_156 (v := 0) rfl ?_
                    cases h
                    exact w_sub (pc := 157) [1, 2, 3, 5, 6, 7] rfl K149
                  · replace h := it_pos c28 h
                    refine w_iconst (pc := 152) X dX1_read_152 (v := 1) rfl ?_
                    refine w_goto (tgt := 157) (pc := 153) X dX1_read_153 (by decide) ?_
                    cases h
                    exact w_sub (pc := 157) [1, 2, 3, 5, 6, 7] rfl K149
                · replace h := it_neg c45 h
                  refine w_iload (pc := 133) X dX1_read_133 0 rfl ?_
                  refine w_bipush (pc := 135) X dX1_read_135 (v := (45)) rfl ?_
                  refine w_icmp_ne (pc := 137) (tgt := 168) X dX1_read_137 (by decide) (fun c44 => ?_) (fun c44 => ?_)
                  · replace h := it_neg c44 h
                    refine w_iload (pc := 168) X dX1_read_168 7 rfl ?_
                    cases h
                    exact w_iret X hQ dX1_read_170
                  · replace h := it_pos c44 h
                    refine w_aload_n (pc := 140) X dX1_read_140 1 rfl ?_
                    refine w_iload (pc := 141) X dX1_read_141 5 rfl ?_
                    refine w_iload (pc := 143) X dX1_read_143 6 rfl ?_
                    refine w_iload (pc := 145) X dX1_read_145 0 rfl ?_
                    refine w_bipush (pc := 147) X dX1_read_147 (v := (43)) rfl ?_
                    obtain ⟨x37, h43, h⟩ := bd1_inv h
                    have K149 : wpm φ ad 157 [(0, .ref (ad o)), (1, .ref (ad a1)), (2, .int a2), (4, .int v4), (5, .int v5), (6, .int v6)] [.int x37, .int v5, .int v4, .ref (ad o)] s25 := by
                      obtain ⟨r40, s38, h39, h⟩ := bd2_inv h
                      refine w_callSN (pc := 157) X dX1_read_157 (M8_spoken h39) mn_1_61 cw_1_61 ⟨Nat.le_of_ble_eq_true rfl, Nat.le_of_ble_eq_true rfl⟩ rfl rfl (Nat.le_of_ble_eq_true rfl) ?_
                      show wpm φ ad 160 [(0, .ref (ad o)), (1, .ref (ad a1)), (2, .int a2), (4, .int v4), (5, .int v5), (6, .int v6)] [.int r40, .ref (ad o)] s38
                      obtain ⟨s41, h42, h⟩ := bd1_inv h
                      refine w_callV (pc := 160) X dX1_read_160 (M1_add h42) k_o (by decide) rfl cw_1_53 ⟨Nat.le_of_ble_eq_true rfl, Nat.le_of_ble_eq_true rfl⟩ rfl rfl (Nat.le_of_ble_eq_true rfl) ?_
                      show wpm φ ad 163 [(0, .ref (ad o)), (1, .ref (ad a1)), (2, .int a2), (4, .int v4), (5, .int v5), (6, .int v6)] [] s41
                      refine w_iconst (pc := 163) X dX1_read_163 (v := 0) rfl ?_
                      refine w_istore_n (pc := 164) X dX1_read_164 3 rfl (by decide) (lv' := [(3, .int (0 : Int32)), (0, .ref (ad o)), (1, .ref (ad a1)), (2, .int a2), (4, .int v4), (5, .int v5), (6, .int v6)]) rfl ?_
                      refine w_goto (tgt := 171) (pc := 165) X dX1_read_165 (by decide) ?_
                      refine w_iinc (pc := 171) X dX1_read_171 6 rfl (v := (v6 + 1)) rfl (by decide) (lv' := [(6, .int (v6 + 1)), (3, .int (0 : Int32)), (0, .ref (ad o)), (1, .ref (ad a1)), (2, .int a2), (4, .int v4), (5, .int v5)]) rfl ?_
                      refine w_goto (tgt := 16) (pc := 174) X dX1_read_174 (by decide) ?_
                      exact w_sub (pc := 16) [2, 3, 4, 1, 5, 6, 0] rfl (ih _ _ _ _ _ h)
                    clear h
                    have h := h43
                    clear h43
                    refine w_icmp_ne (pc := 149) (tgt := 156) X dX1_read_149 (by decide) (fun c36 => ?_) (fun c36 => ?_)
                    · replace h := it_neg c36 h
                      refine w_iconst (pc := 156) X dX1_read_156 (v := 0) rfl ?_
                      cases h
                      exact w_sub (pc := 157) [1, 2, 3, 5, 6, 7] rfl K149
                    · replace h := it_pos c36 h
                      refine w_iconst (pc := 152) X dX1_read_152 (v := 1) rfl ?_
                      refine w_goto (tgt := 157) (pc := 153) X dX1_read_153 (by decide) ?_
                      cases h
                      exact w_sub (pc := 157) [1, 2, 3, 5, 6, 7] rfl K149
            · replace h := it_neg c47 h
              refine w_iload (pc := 109) X dX1_read_109 0 rfl ?_
              refine w_bipush (pc := 111) X dX1_read_111 (v := (97)) rfl ?_
              refine w_isub (pc := 113) X dX1_read_113 ?_
              refine w_istore (pc := 114) X dX1_read_114 (by decide) (lv' := [(5, .int (r5 - (97 : Int32))), (7, .int r5), (0, .ref (ad o)), (1, .ref (ad a1)), (2, .int a2), (3, .int v3), (4, .int v4), (6, .int v6)]) rfl ?_
              refine w_iconst (pc := 116) X dX1_read_116 (v := 2) rfl ?_
              refine w_istore_n (pc := 117) X dX1_read_117 3 rfl (by decide) (lv' := [(3, .int (2 : Int32)), (5, .int (r5 - (97 : Int32))), (7, .int r5), (0, .ref (ad o)), (1, .ref (ad a1)), (2, .int a2), (4, .int v4), (6, .int v6)]) rfl ?_
              refine w_goto (tgt := 171) (pc := 118) X dX1_read_118 (by decide) ?_
              refine w_iinc (pc := 171) X dX1_read_171 7 rfl (v := (v6 + 1)) rfl (by decide) (lv' := [(6, .int (v6 + 1)), (3, .int (2 : Int32)), (5, .int (r5 - (97 : Int32))), (7, .int r5), (0, .ref (ad o)), (1, .ref (ad a1)), (2, .int a2), (4, .int v4)]) rfl ?_
              refine w_goto (tgt := 16) (pc := 174) X dX1_read_174 (by decide) ?_
              exact w_sub (pc := 16) [4, 5, 6, 1, 7, 2, 0] rfl (ih _ _ _ _ _ h)
        · replace h := it_pos c101 h
          refine w_iload (pc := 67) X dX1_read_67 0 rfl ?_
          obtain ⟨r51, s49, h50, h⟩ := bd2_inv h
          refine w_callS (pc := 69) X dX1_read_69 (M1_unspoken h50) rfl cw_1_49 ⟨Nat.le_of_ble_eq_true rfl, Nat.le_of_ble_eq_true rfl⟩ rfl rfl (Nat.le_of_ble_eq_true rfl) ?_
          show wpm φ ad 72 [(7, .int r5), (0, .ref (ad o)), (1, .ref (ad a1)), (2, .int a2), (3, .int v3), (4, .int v4), (5, .int v5), (6, .int v6)] [.int r51] s49
          refine w_bipush (pc := 72) X dX1_read_72 (v := (-6)) rfl ?_
          refine w_icmp_eq (pc := 74) (tgt := 89) X dX1_read_74 (by decide) (fun c100 => ?_) (fun c100 => ?_)
          · replace h := it_pos c100 h
            refine w_iload_n (pc := 89) X dX1_read_89 4 rfl ?_
            refine w_iconst (pc := 90) X dX1_read_90 (v := 1) rfl ?_
            refine w_icmp_ne (pc := 91) (tgt := 121) X dX1_read_91 (by decide) (fun c94 => ?_) (fun c94 => ?_)
            · replace h := it_neg c94 h
              refine w_iload_n (pc := 121) X dX1_read_121 4 rfl ?_
              refine w_iconst (pc := 122) X dX1_read_122 (v := 2) rfl ?_
              refine w_icmp_ne (pc := 123) (tgt := 168) X dX1_read_123 (by decide) (fun c70 => ?_) (fun c70 => ?_)
              · replace h := it_neg c70 h
                refine w_iload (pc := 168) X dX1_read_168 7 rfl ?_
                cases h
                exact w_iret X hQ dX1_read_170
              · replace h := it_pos c70 h
                refine w_iload (pc := 126) X dX1_read_126 0 rfl ?_
                refine w_bipush (pc := 128) X dX1_read_128 (v := (43)) rfl ?_
                refine w_icmp_eq (pc := 130) (tgt := 140) X dX1_read_130 (by decide) (fun c69 => ?_) (fun c69 => ?_)
                · replace h := it_pos c69 h
                  refine w_aload_n (pc := 140) X dX1_read_140 1 rfl ?_
                  refine w_iload (pc := 141) X dX1_read_141 5 rfl ?_
                  refine w_iload (pc := 143) X dX1_read_143 6 rfl ?_
                  refine w_iload (pc := 145) X dX1_read_145 0 rfl ?_
                  refine w_bipush (pc := 147) X dX1_read_147 (v := (43)) rfl ?_
                  obtain ⟨x53, h59, h⟩ := bd1_inv h
                  have K149 : wpm φ ad 157 [(0, .ref (ad o)), (1, .ref (ad a1)), (2, .int a2), (4, .int v4), (5, .int v5), (6, .int v6)] [.int x53, .int v5, .int v4, .ref (ad o)] s49 := by
                    obtain ⟨r56, s54, h55, h⟩ := bd2_inv h
                    refine w_callSN (pc := 157) X dX1_read_157 (M8_spoken h55) mn_1_61 cw_1_61 ⟨Nat.le_of_ble_eq_true rfl, Nat.le_of_ble_eq_true rfl⟩ rfl rfl (Nat.le_of_ble_eq_true rfl) ?_
                    show wpm φ ad 160 [(0, .ref (ad o)), (1, .ref (ad a1)), (2, .int a2), (4, .int v4), (5, .int v5), (6, .int v6)] [.int r56, .ref (ad o)] s54
                    obtain ⟨s57, h58, h⟩ := bd1_inv h
                    refine w_callV (pc := 160) X dX1_read_160 (M1_add h58) k_o (by decide) rfl cw_1_53 ⟨Nat.le_of_ble_eq_true rfl, Nat.le_of_ble_eq_true rfl⟩ rfl rfl (Nat.le_of_ble_eq_true rfl) ?_
                    show wpm φ ad 163 [(0, .ref (ad o)), (1, .ref (ad a1)), (2, .int a2), (4, .int v4), (5, .int v5), (6, .int v6)] [] s57
                    refine w_iconst (pc := 163) X dX1_read_163 (v := 0) rfl ?_
                    refine w_istore_n (pc := 164) X dX1_read_164 3 rfl (by decide) (lv' := [(3, .int (0 : Int32)), (0, .ref (ad o)), (1, .ref (ad a1)), (2, .int a2), (4, .int v4), (5, .int v5), (6, .int v6)]) rfl ?_
                    refine w_goto (tgt := 171) (pc := 165) X dX1_read_165 (by decide) ?_
                    refine w_iinc (pc := 171) X dX1_read_171 6 rfl (v := (v6 + 1)) rfl (by decide) (lv' := [(6, .int (v6 + 1)), (3, .int (0 : Int32)), (0, .ref (ad o)), (1, .ref (ad a1)), (2, .int a2), (4, .int v4), (5, .int v5)]) rfl ?_
                    refine w_goto (tgt := 16) (pc := 174) X dX1_read_174 (by decide) ?_
                    exact w_sub (pc := 16) [2, 3, 4, 1, 5, 6, 0] rfl (ih _ _ _ _ _ h)
                  clear h
                  have h := h59
                  clear h59
                  refine w_icmp_ne (pc := 149) (tgt := 156) X dX1_read_149 (by decide) (fun c52 => ?_) (fun c52 => ?_)
                  · replace h := it_neg c52 h
                    refine w_iconst (pc := 156) X dX1_read_156 (v := 0) rfl ?_
                    cases h
                    exact w_sub (pc := 157) [1, 2, 3, 5, 6, 7] rfl K149
                  · replace h := it_pos c52 h
                    refine w_iconst (pc := 152) X dX1_read_152 (v := 1) rfl ?_
                    refine w_goto (tgt := 157) (pc := 153) X dX1_read_153 (by decide) ?_
                    cases h
                    exact w_sub (pc := 157) [1, 2, 3, 5, 6, 7] rfl K149
                · replace h := it_neg c69 h
                  refine w_iload (pc := 133) X dX1_read_133 0 rfl ?_
                  refine w_bipush (pc := 135) X dX1_read_135 (v := (45)) rfl ?_
                  refine w_icmp_ne (pc := 137) (tgt := 168) X dX1_read_137 (by decide) (fun c68 => ?_) (fun c68 => ?_)
                  · replace h := it_neg c68 h
                    refine w_iload (pc := 168) X dX1_read_168 7 rfl ?_
                    cases h
                    exact w_iret X hQ dX1_read_170
                  · replace h := it_pos c68 h
                    refine w_aload_n (pc := 140) X dX1_read_140 1 rfl ?_
                    refine w_iload (pc := 141) X dX1_read_141 5 rfl ?_
                    refine w_iload (pc := 143) X dX1_read_143 6 rfl ?_
                    refine w_iload (pc := 145) X dX1_read_145 0 rfl ?_
                    refine w_bipush (pc := 147) X dX1_read_147 (v := (43)) rfl ?_
                    obtain ⟨x61, h67, h⟩ := bd1_inv h
                    have K149 : wpm φ ad 157 [(0, .ref (ad o)), (1, .ref (ad a1)), (2, .int a2), (4, .int v4), (5, .int v5), (6, .int v6)] [.int x61, .int v5, .int v4, .ref (ad o)] s49 := by
                      obtain ⟨r64, s62, h63, h⟩ := bd2_inv h
                      refine w_callSN (pc := 157) X dX1_read_157 (M8_spoken h63) mn_1_61 cw_1_61 ⟨Nat.le_of_ble_eq_true rfl, Nat.le_of_ble_eq_true rfl⟩ rfl rfl (Nat.le_of_ble_eq_true rfl) ?_
                      show wpm φ ad 160 [(0, .ref (ad o)), (1, .ref (ad a1)), (2, .int a2), (4, .int v4), (5, .int v5), (6, .int v6)] [.int r64, .ref (ad o)] s62
                      obtain ⟨s65, h66, h⟩ := bd1_inv h
                      refine w_callV (pc := 160) X dX1_read_160 (M1_add h66) k_o (by decide) rfl cw_1_53 ⟨Nat.le_of_ble_eq_true rfl, Nat.le_of_ble_eq_true rfl⟩ rfl rfl (Nat.le_of_ble_eq_true rfl) ?_
                      show wpm φ ad 163 [(0, .ref (ad o)), (1, .ref (ad a1)), (2, .int a2), (4, .int v4), (5, .int v5), (6, .int v6)] [] s65
                      refine w_iconst (pc := 163) X dX1_read_163 (v := 0) rfl ?_
                      refine w_istore_n (pc := 164) X dX1_read_164 3 rfl (by decide) (lv' := [(3, .int (0 : Int32)), (0, .ref (ad o)), (1, .ref (ad a1)), (2, .int a2), (4, .int v4), (5, .int v5), (6, .int v6)]) rfl ?_
                      refine w_goto (tgt := 171) (pc := 165) X dX1_read_165 (by decide) ?_
                      refine w_iinc (pc := 171) X dX1_read_171 6 rfl (v := (v6 + 1)) rfl (by decide) (lv' := [(6, .int (v6 + 1)), (3, .int (0 : Int32)), (0, .ref (ad o)), (1, .ref (ad a1)), (2, .int a2), (4, .int v4), (5, .int v5)]) rfl ?_
                      refine w_goto (tgt := 16) (pc := 174) X dX1_read_174 (by decide) ?_
                      exact w_sub (pc := 16) [2, 3, 4, 1, 5, 6, 0] rfl (ih _ _ _ _ _ h)
                    clear h
                    have h := h67
                    clear h67
                    refine w_icmp_ne (pc := 149) (tgt := 156) X dX1_read_149 (by decide) (fun c60 => ?_) (fun c60 => ?_)
                    · replace h := it_neg c60 h
                      refine w_iconst (pc := 156) X dX1_read_156 (v := 0) rfl ?_
                      cases h
                      exact w_sub (pc := 157) [1, 2, 3, 5, 6, 7] rfl K149
                    · replace h := it_pos c60 h
                      refine w_iconst (pc := 152) X dX1_read_152 (v := 1) rfl ?_
                      refine w_goto (tgt := 157) (pc := 153) X dX1_read_153 (by decide) ?_
                      cases h
                      exact w_sub (pc := 157) [1, 2, 3, 5, 6, 7] rfl K149
            · replace h := it_pos c94 h
              refine w_iload (pc := 94) X dX1_read_94 0 rfl ?_
              refine w_bipush (pc := 96) X dX1_read_96 (v := (97)) rfl ?_
              refine w_isub (pc := 98) X dX1_read_98 ?_
              refine w_iconst (pc := 99) X dX1_read_99 (v := 0) rfl ?_
              refine w_iload_n (pc := 100) X dX1_read_100 3 rfl ?_
              refine w_iconst (pc := 101) X dX1_read_101 (v := 1) rfl ?_
              refine w_isub (pc := 102) X dX1_read_102 ?_
              obtain ⟨r73, s71, h72, h⟩ := bd2_inv h
              refine w_callSN (pc := 103) X dX1_read_103 (M8_isWithin h72) mn_1_57 cw_1_57 ⟨Nat.le_of_ble_eq_true rfl, Nat.le_of_ble_eq_true rfl⟩ rfl rfl (Nat.le_of_ble_eq_true rfl) ?_
              show wpm φ ad 106 [(7, .int r5), (0, .ref (ad o)), (1, .ref (ad a1)), (2, .int a2), (3, .int v3), (4, .int v4), (5, .int v5), (6, .int v6)] [.int r73] s71
              refine w_if_eq (pc := 106) (tgt := 121) X dX1_read_106 (by decide) (fun c93 => ?_) (fun c93 => ?_)
              · replace h := it_pos c93 h
                refine w_iload_n (pc := 121) X dX1_read_121 4 rfl ?_
                refine w_iconst (pc := 122) X dX1_read_122 (v := 2) rfl ?_
                refine w_icmp_ne (pc := 123) (tgt := 168) X dX1_read_123 (by decide) (fun c92 => ?_) (fun c92 => ?_)
                · replace h := it_neg c92 h
                  refine w_iload (pc := 168) X dX1_read_168 7 rfl ?_
                  cases h
                  exact w_iret X hQ dX1_read_170
                · replace h := it_pos c92 h
                  refine w_iload (pc := 126) X dX1_read_126 0 rfl ?_
                  refine w_bipush (pc := 128) X dX1_read_128 (v := (43)) rfl ?_
                  refine w_icmp_eq (pc := 130) (tgt := 140) X dX1_read_130 (by decide) (fun c91 => ?_) (fun c91 => ?_)
                  · replace h := it_pos c91 h
                    refine w_aload_n (pc := 140) X dX1_read_140 1 rfl ?_
                    refine w_iload (pc := 141) X dX1_read_141 5 rfl ?_
                    refine w_iload (pc := 143) X dX1_read_143 6 rfl ?_
                    refine w_iload (pc := 145) X dX1_read_145 0 rfl ?_
                    refine w_bipush (pc := 147) X dX1_read_147 (v := (43)) rfl ?_
                    obtain ⟨x75, h81, h⟩ := bd1_inv h
                    have K149 : wpm φ ad 157 [(0, .ref (ad o)), (1, .ref (ad a1)), (2, .int a2), (4, .int v4), (5, .int v5), (6, .int v6)] [.int x75, .int v5, .int v4, .ref (ad o)] s71 := by
                      obtain ⟨r78, s76, h77, h⟩ := bd2_inv h
                      refine w_callSN (pc := 157) X dX1_read_157 (M8_spoken h77) mn_1_61 cw_1_61 ⟨Nat.le_of_ble_eq_true rfl, Nat.le_of_ble_eq_true rfl⟩ rfl rfl (Nat.le_of_ble_eq_true rfl) ?_
                      show wpm φ ad 160 [(0, .ref (ad o)), (1, .ref (ad a1)), (2, .int a2), (4, .int v4), (5, .int v5), (6, .int v6)] [.int r78, .ref (ad o)] s76
                      obtain ⟨s79, h80, h⟩ := bd1_inv h
                      refine w_callV (pc := 160) X dX1_read_160 (M1_add h80) k_o (by decide) rfl cw_1_53 ⟨Nat.le_of_ble_eq_true rfl, Nat.le_of_ble_eq_true rfl⟩ rfl rfl (Nat.le_of_ble_eq_true rfl) ?_
                      show wpm φ ad 163 [(0, .ref (ad o)), (1, .ref (ad a1)), (2, .int a2), (4, .int v4), (5, .int v5), (6, .int v6)] [] s79
                      refine w_iconst (pc := 163) X dX1_read_163 (v := 0) rfl ?_
                      refine w_istore_n (pc := 164) X dX1_read_164 3 rfl (by decide) (lv' := [(3, .int (0 : Int32)), (0, .ref (ad o)), (1, .ref (ad a1)), (2, .int a2), (4, .int v4), (5, .int v5), (6, .int v6)]) rfl ?_
                      refine w_goto (tgt := 171) (pc := 165) X dX1_read_165 (by decide) ?_
                      refine w_iinc (pc := 171) X dX1_read_171 6 rfl (v := (v6 + 1)) rfl (by decide) (lv' := [(6, .int (v6 + 1)), (3, .int (0 : Int32)), (0, .ref (ad o)), (1, .ref (ad a1)), (2, .int a2), (4, .int v4), (5, .int v5)]) rfl ?_
                      refine w_goto (tgt := 16) (pc := 174) X dX1_read_174 (by decide) ?_
                      exact w_sub (pc := 16) [2, 3, 4, 1, 5, 6, 0] rfl (ih _ _ _ _ _ h)
                    clear h
                    have h := h81
                    clear h81
                    refine w_icmp_ne (pc := 149) (tgt := 156) X dX1_read_149 (by decide) (fun c74 => ?_) (fun c74 => ?_)
                    · replace h := it_neg c74 h
                      refine w_iconst (pc := 156) X dX1_read_156 (v := 0) rfl ?_
                      cases h
                      exact w_sub (pc := 157) [1, 2, 3, 5, 6, 7] rfl K149
                    · replace h := it_pos c74 h
                      refine w_iconst (pc := 152) X dX1_read_152 (v := 1) rfl ?_
                      refine w_goto (tgt := 157) (pc := 153) X dX1_read_153 (by decide) ?_
                      cases h
                      exact w_sub (pc := 157) [1, 2, 3, 5, 6, 7] rfl K149
                  · replace h := it_neg c91 h
                    refine w_iload (pc := 133) X dX1_read_133 0 rfl ?_
                    refine w_bipush (pc := 135) X dX1_read_135 (v := (45)) rfl ?_
                    refine w_icmp_ne (pc := 137) (tgt := 168) X dX1_read_137 (by decide) (fun c90 => ?_) (fun c90 => ?_)
                    · replace h := it_neg c90 h
                      refine w_iload (pc := 168) X dX1_read_168 7 rfl ?_
                      cases h
                      exact w_iret X hQ dX1_read_170
                    · replace h := it_pos c90 h
                      refine w_aload_n (pc := 140) X dX1_read_140 1 rfl ?_
                      refine w_iload (pc := 141) X dX1_read_141 5 rfl ?_
                      refine w_iload (pc := 143) X dX1_read_143 6 rfl ?_
                      refine w_iload (pc := 145) X dX1_read_145 0 rfl ?_
                      refine w_bipush (pc := 147) X dX1_read_147 (v := (43)) rfl ?_
                      obtain ⟨x83, h89, h⟩ := bd1_inv h
                      have K149 : wpm φ ad 157 [(0, .ref (ad o)), (1, .ref (ad a1)), (2, .int a2), (4, .int v4), (5, .int v5), (6, .int v6)] [.int x83, .int v5, .int v4, .ref (ad o)] s71 := by
                        obtain ⟨r86, s84, h85, h⟩ := bd2_inv h
                        refine w_callSN (pc := 157) X dX1_read_157 (M8_spoken h85) mn_1_61 cw_1_61 ⟨Nat.le_of_ble_eq_true rfl, Nat.le_of_ble_eq_true rfl⟩ rfl rfl (Nat.le_of_ble_eq_true rfl) ?_
                        show wpm φ ad 160 [(0, .ref (ad o)), (1, .ref (ad a1)), (2, .int a2), (4, .int v4), (5, .int v5), (6, .int v6)] [.int r86, .ref (ad o)] s84
                        obtain ⟨s87, h88, h⟩ := bd1_inv h
                        refine w_callV (pc := 160) X dX1_read_160 (M1_add h88) k_o (by decide) rfl cw_1_53 ⟨Nat.le_of_ble_eq_true rfl, Nat.le_of_ble_eq_true rfl⟩ rfl rfl (Nat.le_of_ble_eq_true rfl) ?_
                        show wpm φ ad 163 [(0, .ref (ad o)), (1, .ref (ad a1)), (2, .int a2), (4, .int v4), (5, .int v5), (6, .int v6)] [] s87
                        refine w_iconst (pc := 163) X dX1_read_163 (v := 0) rfl ?_
                        refine w_istore_n (pc := 164) X dX1_read_164 3 rfl (by decide) (lv' := [(3, .int (0 : Int32)), (0, .ref (ad o)), (1, .ref (ad a1)), (2, .int a2), (4, .int v4), (5, .int v5), (6, .int v6)]) rfl ?_
                        refine w_goto (tgt := 171) (pc := 165) X dX1_read_165 (by decide) ?_
                        refine w_iinc (pc := 171) X dX1_read_171 6 rfl (v := (v6 + 1)) rfl (by decide) (lv' := [(6, .int (v6 + 1)), (3, .int (0 : Int32)), (0, .ref (ad o)), (1, .ref (ad a1)), (2, .int a2), (4, .int v4), (5, .int v5)]) rfl ?_
                        refine w_goto (tgt := 16) (pc := 174) X dX1_read_174 (by decide) ?_
                        exact w_sub (pc := 16) [2, 3, 4, 1, 5, 6, 0] rfl (ih _ _ _ _ _ h)
                      clear h
                      have h := h89
                      clear h89
                      refine w_icmp_ne (pc := 149) (tgt := 156) X dX1_read_149 (by decide) (fun c82 => ?_) (fun c82 => ?_)
                      · replace h := it_neg c82 h
                        refine w_iconst (pc := 156) X dX1_read_156 (v := 0) rfl ?_
                        cases h
                        exact w_sub (pc := 157) [1, 2, 3, 5, 6, 7] rfl K149
                      · replace h := it_pos c82 h
                        refine w_iconst (pc := 152) X dX1_read_152 (v := 1) rfl ?_
                        refine w_goto (tgt := 157) (pc := 153) X dX1_read_153 (by decide) ?_
                        cases h
                        exact w_sub (pc := 157) [1, 2, 3, 5, 6, 7] rfl K149
              · replace h := it_neg c93 h
                refine w_iload (pc := 109) X dX1_read_109 0 rfl ?_
                refine w_bipush (pc := 111) X dX1_read_111 (v := (97)) rfl ?_
                refine w_isub (pc := 113) X dX1_read_113 ?_
                refine w_istore (pc := 114) X dX1_read_114 (by decide) (lv' := [(5, .int (r5 - (97 : Int32))), (7, .int r5), (0, .ref (ad o)), (1, .ref (ad a1)), (2, .int a2), (3, .int v3), (4, .int v4), (6, .int v6)]) rfl ?_
                refine w_iconst (pc := 116) X dX1_read_116 (v := 2) rfl ?_
                refine w_istore_n (pc := 117) X dX1_read_117 3 rfl (by decide) (lv' := [(3, .int (2 : Int32)), (5, .int (r5 - (97 : Int32))), (7, .int r5), (0, .ref (ad o)), (1, .ref (ad a1)), (2, .int a2), (4, .int v4), (6, .int v6)]) rfl ?_
                refine w_goto (tgt := 171) (pc := 118) X dX1_read_118 (by decide) ?_
                refine w_iinc (pc := 171) X dX1_read_171 7 rfl (v := (v6 + 1)) rfl (by decide) (lv' := [(6, .int (v6 + 1)), (3, .int (2 : Int32)), (5, .int (r5 - (97 : Int32))), (7, .int r5), (0, .ref (ad o)), (1, .ref (ad a1)), (2, .int a2), (4, .int v4)]) rfl ?_
                refine w_goto (tgt := 16) (pc := 174) X dX1_read_174 (by decide) ?_
                exact w_sub (pc := 16) [4, 5, 6, 1, 7, 2, 0] rfl (ih _ _ _ _ _ h)
          · replace h := it_neg c100 h
            refine w_aload_n (pc := 77) X dX1_read_77 1 rfl ?_
            refine w_iload (pc := 78) X dX1_read_78 0 rfl ?_
            obtain ⟨r97, s95, h96, h⟩ := bd2_inv h
            refine w_callS (pc := 80) X dX1_read_80 (M1_unspoken h96) rfl cw_1_49 ⟨Nat.le_of_ble_eq_true rfl, Nat.le_of_ble_eq_true rfl⟩ rfl rfl (Nat.le_of_ble_eq_true rfl) ?_
            show wpm φ ad 83 [(7, .int r5), (0, .ref (ad o)), (1, .ref (ad a1)), (2, .int a2), (3, .int v3), (4, .int v4), (5, .int v5), (6, .int v6)] [.int r97, .ref (ad o)] s95
            obtain ⟨s98, h99, h⟩ := bd1_inv h
            refine w_callV (pc := 83) X dX1_read_83 (M1_add h99) k_o (by decide) rfl cw_1_53 ⟨Nat.le_of_ble_eq_true rfl, Nat.le_of_ble_eq_true rfl⟩ rfl rfl (Nat.le_of_ble_eq_true rfl) ?_
            show wpm φ ad 86 [(7, .int r5), (0, .ref (ad o)), (1, .ref (ad a1)), (2, .int a2), (3, .int v3), (4, .int v4), (5, .int v5), (6, .int v6)] [] s98
            refine w_goto (tgt := 171) (pc := 86) X dX1_read_86 (by decide) ?_
            refine w_iinc (pc := 171) X dX1_read_171 7 rfl (v := (v6 + 1)) rfl (by decide) (lv' := [(6, .int (v6 + 1)), (7, .int r5), (0, .ref (ad o)), (1, .ref (ad a1)), (2, .int a2), (3, .int v3), (4, .int v4), (5, .int v5)]) rfl ?_
            refine w_goto (tgt := 16) (pc := 174) X dX1_read_174 (by decide) ?_
            exact w_sub (pc := 16) [2, 3, 4, 5, 6, 7, 0] rfl (ih _ _ _ _ _ h)
      · replace h := it_pos c202 h
        refine w_iload (pc := 40) X dX1_read_40 0 rfl ?_
        refine w_bipush (pc := 42) X dX1_read_42 (v := (65)) rfl ?_
        refine w_isub (pc := 44) X dX1_read_44 ?_
        obtain ⟨r104, s102, h103, h⟩ := bd2_inv h
        refine w_callSN (pc := 45) X dX1_read_45 (M8_isGuest h103) mn_1_45 cw_1_45 ⟨Nat.le_of_ble_eq_true rfl, Nat.le_of_ble_eq_true rfl⟩ rfl rfl (Nat.le_of_ble_eq_true rfl) ?_
        show wpm φ ad 48 [(7, .int r5), (0, .ref (ad o)), (1, .ref (ad a1)), (2, .int a2), (3, .int v3), (4, .int v4), (5, .int v5), (6, .int v6)] [.int r104] s102
        refine w_if_eq (pc := 48) (tgt := 63) X dX1_read_48 (by decide) (fun c201 => ?_) (fun c201 => ?_)
        · replace h := it_pos c201 h
          refine w_iload_n (pc := 63) X dX1_read_63 4 rfl ?_
          refine w_if_ne (pc := 64) (tgt := 89) X dX1_read_64 (by decide) (fun c200 => ?_) (fun c200 => ?_)
          · replace h := it_neg c200 h
            refine w_iload_n (pc := 89) X dX1_read_89 4 rfl ?_
            refine w_iconst (pc := 90) X dX1_read_90 (v := 1) rfl ?_
            refine w_icmp_ne (pc := 91) (tgt := 121) X dX1_read_91 (by decide) (fun c147 => ?_) (fun c147 => ?_)
            · replace h := it_neg c147 h
              refine w_iload_n (pc := 121) X dX1_read_121 4 rfl ?_
              refine w_iconst (pc := 122) X dX1_read_122 (v := 2) rfl ?_
              refine w_icmp_ne (pc := 123) (tgt := 168) X dX1_read_123 (by decide) (fun c123 => ?_) (fun c123 => ?_)
              · replace h := it_neg c123 h
                refine w_iload (pc := 168) X dX1_read_168 7 rfl ?_
                cases h
                exact w_iret X hQ dX1_read_170
              · replace h := it_pos c123 h
                refine w_iload (pc := 126) X dX1_read_126 0 rfl ?_
                refine w_bipush (pc := 128) X dX1_read_128 (v := (43)) rfl ?_
                refine w_icmp_eq (pc := 130) (tgt := 140) X dX1_read_130 (by decide) (fun c122 => ?_) (fun c122 => ?_)
                · replace h := it_pos c122 h
                  refine w_aload_n (pc := 140) X dX1_read_140 1 rfl ?_
                  refine w_iload (pc := 141) X dX1_read_141 5 rfl ?_
                  refine w_iload (pc := 143) X dX1_read_143 6 rfl ?_
                  refine w_iload (pc := 145) X dX1_read_145 0 rfl ?_
                  refine w_bipush (pc := 147) X dX1_read_147 (v := (43)) rfl ?_
                  obtain ⟨x106, h112, h⟩ := bd1_inv h
                  have K149 : wpm φ ad 157 [(0, .ref (ad o)), (1, .ref (ad a1)), (2, .int a2), (4, .int v4), (5, .int v5), (6, .int v6)] [.int x106, .int v5, .int v4, .ref (ad o)] s102 := by
                    obtain ⟨r109, s107, h108, h⟩ := bd2_inv h
                    refine w_callSN (pc := 157) X dX1_read_157 (M8_spoken h108) mn_1_61 cw_1_61 ⟨Nat.le_of_ble_eq_true rfl, Nat.le_of_ble_eq_true rfl⟩ rfl rfl (Nat.le_of_ble_eq_true rfl) ?_
                    show wpm φ ad 160 [(0, .ref (ad o)), (1, .ref (ad a1)), (2, .int a2), (4, .int v4), (5, .int v5), (6, .int v6)] [.int r109, .ref (ad o)] s107
                    obtain ⟨s110, h111, h⟩ := bd1_inv h
                    refine w_callV (pc := 160) X dX1_read_160 (M1_add h111) k_o (by decide) rfl cw_1_53 ⟨Nat.le_of_ble_eq_true rfl, Nat.le_of_ble_eq_true rfl⟩ rfl rfl (Nat.le_of_ble_eq_true rfl) ?_
                    show wpm φ ad 163 [(0, .ref (ad o)), (1, .ref (ad a1)), (2, .int a2), (4, .int v4), (5, .int v5), (6, .int v6)] [] s110
                    refine w_iconst (pc := 163) X dX1_read_163 (v := 0) rfl ?_
                    refine w_istore_n (pc := 164) X dX1_read_164 3 rfl (by decide) (lv' := [(3, .int (0 : Int32)), (0, .ref (ad o)), (1, .ref (ad a1)), (2, .int a2), (4, .int v4), (5, .int v5), (6, .int v6)]) rfl ?_
                    refine w_goto (tgt := 171) (pc := 165) X dX1_read_165 (by decide) ?_
                    refine w_iinc (pc := 171) X dX1_read_171 6 rfl (v := (v6 + 1)) rfl (by decide) (lv' := [(6, .int (v6 + 1)), (3, .int (0 : Int32)), (0, .ref (ad o)), (1, .ref (ad a1)), (2, .int a2), (4, .int v4), (5, .int v5)]) rfl ?_
                    refine w_goto (tgt := 16) (pc := 174) X dX1_read_174 (by decide) ?_
                    exact w_sub (pc := 16) [2, 3, 4, 1, 5, 6, 0] rfl (ih _ _ _ _ _ h)
                  clear h
                  have h := h112
                  clear h112
                  refine w_icmp_ne (pc := 149) (tgt := 156) X dX1_read_149 (by decide) (fun c105 => ?_) (fun c105 => ?_)
                  · replace h := it_neg c105 h
                    refine w_iconst (pc := 156) X dX1_read_156 (v := 0) rfl ?_
                    cases h
                    exact w_sub (pc := 157) [1, 2, 3, 5, 6, 7] rfl K149
                  · replace h := it_pos c105 h
                    refine w_iconst (pc := 152) X dX1_read_152 (v := 1) rfl ?_
                    refine w_goto (tgt := 157) (pc := 153) X dX1_read_153 (by decide) ?_
                    cases h
                    exact w_sub (pc := 157) [1, 2, 3, 5, 6, 7] rfl K149
                · replace h := it_neg c122 h
                  refine w_iload (pc := 133) X dX1_read_133 0 rfl ?_
                  refine w_bipush (pc := 135) X dX1_read_135 (v := (45)) rfl ?_
                  refine w_icmp_ne (pc := 137) (tgt := 168) X dX1_read_137 (by decide) (fun c121 => ?_) (fun c121 => ?_)
                  · replace h := it_neg c121 h
                    refine w_iload (pc := 168) X dX1_read_168 7 rfl ?_
                    cases h
                    exact w_iret X hQ dX1_read_170
                  · replace h := it_pos c121 h
                    refine w_aload_n (pc := 140) X dX1_read_140 1 rfl ?_
                    refine w_iload (pc := 141) X dX1_read_141 5 rfl ?_
                    refine w_iload (pc := 143) X dX1_read_143 6 rfl ?_
                    refine w_iload (pc := 145) X dX1_read_145 0 rfl ?_
                    refine w_bipush (pc := 147) X dX1_read_147 (v := (43)) rfl ?_
                    obtain ⟨x114, h120, h⟩ := bd1_inv h
                    have K149 : wpm φ ad 157 [(0, .ref (ad o)), (1, .ref (ad a1)), (2, .int a2), (4, .int v4), (5, .int v5), (6, .int v6)] [.int x114, .int v5, .int v4, .ref (ad o)] s102 := by
                      obtain ⟨r117, s115, h116, h⟩ := bd2_inv h
                      refine w_callSN (pc := 157) X dX1_read_157 (M8_spoken h116) mn_1_61 cw_1_61 ⟨Nat.le_of_ble_eq_true rfl, Nat.le_of_ble_eq_true rfl⟩ rfl rfl (Nat.le_of_ble_eq_true rfl) ?_
                      show wpm φ ad 160 [(0, .ref (ad o)), (1, .ref (ad a1)), (2, .int a2), (4, .int v4), (5, .int v5), (6, .int v6)] [.int r117, .ref (ad o)] s115
                      obtain ⟨s118, h119, h⟩ := bd1_inv h
                      refine w_callV (pc := 160) X dX1_read_160 (M1_add h119) k_o (by decide) rfl cw_1_53 ⟨Nat.le_of_ble_eq_true rfl, Nat.le_of_ble_eq_true rfl⟩ rfl rfl (Nat.le_of_ble_eq_true rfl) ?_
                      show wpm φ ad 163 [(0, .ref (ad o)), (1, .ref (ad a1)), (2, .int a2), (4, .int v4), (5, .int v5), (6, .int v6)] [] s118
                      refine w_iconst (pc := 163) X dX1_read_163 (v := 0) rfl ?_
                      refine w_istore_n (pc := 164) X dX1_read_164 3 rfl (by decide) (lv' := [(3, .int (0 : Int32)), (0, .ref (ad o)), (1, .ref (ad a1)), (2, .int a2), (4, .int v4), (5, .int v5), (6, .int v6)]) rfl ?_
                      refine w_goto (tgt := 171) (pc := 165) X dX1_read_165 (by decide) ?_
                      refine w_iinc (pc := 171) X dX1_read_171 6 rfl (v := (v6 + 1)) rfl (by decide) (lv' := [(6, .int (v6 + 1)), (3, .int (0 : Int32)), (0, .ref (ad o)), (1, .ref (ad a1)), (2, .int a2), (4, .int v4), (5, .int v5)]) rfl ?_
                      refine w_goto (tgt := 16) (pc := 174) X dX1_read_174 (by decide) ?_
                      exact w_sub (pc := 16) [2, 3, 4, 1, 5, 6, 0] rfl (ih _ _ _ _ _ h)
                    clear h
                    have h := h120
                    clear h120
                    refine w_icmp_ne (pc := 149) (tgt := 156) X dX1_read_149 (by decide) (fun c113 => ?_) (fun c113 => ?_)
                    · replace h := it_neg c113 h
                      refine w_iconst (pc := 156) X dX1_read_156 (v := 0) rfl ?_
                      cases h
                      exact w_sub (pc := 157) [1, 2, 3, 5, 6, 7] rfl K149
                    · replace h := it_pos c113 h
                      refine w_iconst (pc := 152) X dX1_read_152 (v := 1) rfl ?_
                      refine w_goto (tgt := 157) (pc := 153) X dX1_read_153 (by decide) ?_
                      cases h
                      exact w_sub (pc := 157) [1, 2, 3, 5, 6, 7] rfl K149
            · replace h := it_pos c147 h
              refine w_iload (pc := 94) X dX1_read_94 0 rfl ?_
              refine w_bipush (pc := 96) X dX1_read_96 (v := (97)) rfl ?_
              refine w_isub (pc := 98) X dX1_read_98 ?_
              refine w_iconst (pc := 99) X dX1_read_99 (v := 0) rfl ?_
              refine w_iload_n (pc := 100) X dX1_read_100 3 rfl ?_
              refine w_iconst (pc := 101) X dX1_read_101 (v := 1) rfl ?_
              refine w_isub (pc := 102) X dX1_read_102 ?_
              obtain ⟨r126, s124, h125, h⟩ := bd2_inv h
              refine w_callSN (pc := 103) X dX1_read_103 (M8_isWithin h125) mn_1_57 cw_1_57 ⟨Nat.le_of_ble_eq_true rfl, Nat.le_of_ble_eq_true rfl⟩ rfl rfl (Nat.le_of_ble_eq_true rfl) ?_
              show wpm φ ad 106 [(7, .int r5), (0, .ref (ad o)), (1, .ref (ad a1)), (2, .int a2), (3, .int v3), (4, .int v4), (5, .int v5), (6, .int v6)] [.int r126] s124
              refine w_if_eq (pc := 106) (tgt := 121) X dX1_read_106 (by decide) (fun c146 => ?_) (fun c146 => ?_)
              · replace h := it_pos c146 h
                refine w_iload_n (pc := 121) X dX1_read_121 4 rfl ?_
                refine w_iconst (pc := 122) X dX1_read_122 (v := 2) rfl ?_
                refine w_icmp_ne (pc := 123) (tgt := 168) X dX1_read_123 (by decide) (fun c145 => ?_) (fun c145 => ?_)
                · replace h := it_neg c145 h
                  refine w_iload (pc := 168) X dX1_read_168 7 rfl ?_
                  cases h
                  exact w_iret X hQ dX1_read_170
                · replace h := it_pos c145 h
                  refine w_iload (pc := 126) X dX1_read_126 0 rfl ?_
                  refine w_bipush (pc := 128) X dX1_read_128 (v := (43)) rfl ?_
                  refine w_icmp_eq (pc := 130) (tgt := 140) X dX1_read_130 (by decide) (fun c144 => ?_) (fun c144 => ?_)
                  · replace h := it_pos c144 h
                    refine w_aload_n (pc := 140) X dX1_read_140 1 rfl ?_
                    refine w_iload (pc := 141) X dX1_read_141 5 rfl ?_
                    refine w_iload (pc := 143) X dX1_read_143 6 rfl ?_
                    refine w_iload (pc := 145) X dX1_read_145 0 rfl ?_
                    refine w_bipush (pc := 147) X dX1_read_147 (v := (43)) rfl ?_
                    obtain ⟨x128, h134, h⟩ := bd1_inv h
                    have K149 : wpm φ ad 157 [(0, .ref (ad o)), (1, .ref (ad a1)), (2, .int a2), (4, .int v4), (5, .int v5), (6, .int v6)] [.int x128, .int v5, .int v4, .ref (ad o)] s124 := by
                      obtain ⟨r131, s129, h130, h⟩ := bd2_inv h
                      refine w_callSN (pc := 157) X dX1_read_157 (M8_spoken h130) mn_1_61 cw_1_61 ⟨Nat.le_of_ble_eq_true rfl, Nat.le_of_ble_eq_true rfl⟩ rfl rfl (Nat.le_of_ble_eq_true rfl) ?_
                      show wpm φ ad 160 [(0, .ref (ad o)), (1, .ref (ad a1)), (2, .int a2), (4, .int v4), (5, .int v5), (6, .int v6)] [.int r131, .ref (ad o)] s129
                      obtain ⟨s132, h133, h⟩ := bd1_inv h
                      refine w_callV (pc := 160) X dX1_read_160 (M1_add h133) k_o (by decide) rfl cw_1_53 ⟨Nat.le_of_ble_eq_true rfl, Nat.le_of_ble_eq_true rfl⟩ rfl rfl (Nat.le_of_ble_eq_true rfl) ?_
                      show wpm φ ad 163 [(0, .ref (ad o)), (1, .ref (ad a1)), (2, .int a2), (4, .int v4), (5, .int v5), (6, .int v6)] [] s132
                      refine w_iconst (pc := 163) X dX1_read_163 (v := 0) rfl ?_
                      refine w_istore_n (pc := 164) X dX1_read_164 3 rfl (by decide) (lv' := [(3, .int (0 : Int32)), (0, .ref (ad o)), (1, .ref (ad a1)), (2, .int a2), (4, .int v4), (5, .int v5), (6, .int v6)]) rfl ?_
                      refine w_goto (tgt := 171) (pc := 165) X dX1_read_165 (by decide) ?_
                      refine w_iinc (pc := 171) X dX1_read_171 6 rfl (v := (v6 + 1)) rfl (by decide) (lv' := [(6, .int (v6 + 1)), (3, .int (0 : Int32)), (0, .ref (ad o)), (1, .ref (ad a1)), (2, .int a2), (4, .int v4), (5, .int v5)]) rfl ?_
                      refine w_goto (tgt := 16) (pc := 174) X dX1_read_174 (by decide) ?_
                      exact w_sub (pc := 16) [2, 3, 4, 1, 5, 6, 0] rfl (ih _ _ _ _ _ h)
                    clear h
                    have h := h134
                    clear h134
                    refine w_icmp_ne (pc := 149) (tgt := 156) X dX1_read_149 (by decide) (fun c127 => ?_) (fun c127 => ?_)
                    · replace h := it_neg c127 h
                      refine w_iconst (pc := 156) X dX1_read_156 (v := 0) rfl ?_
                      cases h
                      exact w_sub (pc := 157) [1, 2, 3, 5, 6, 7] rfl K149
                    · replace h := it_pos c127 h
                      refine w_iconst (pc := 152) X dX1_read_152 (v := 1) rfl ?_
                      refine w_goto (tgt := 157) (pc := 153) X dX1_read_153 (by decide) ?_
                      cases h
                      exact w_sub (pc := 157) [1, 2, 3, 5, 6, 7] rfl K149
                  · replace h := it_neg c144 h
                    refine w_iload (pc := 133) X dX1_read_133 0 rfl ?_
                    refine w_bipush (pc := 135) X dX1_read_135 (v := (45)) rfl ?_
                    refine w_icmp_ne (pc := 137) (tgt := 168) X dX1_read_137 (by decide) (fun c143 => ?_) (fun c143 => ?_)
                    · replace h := it_neg c143 h
                      refine w_iload (pc := 168) X dX1_read_168 7 rfl ?_
                      cases h
                      exact w_iret X hQ dX1_read_170
                    · replace h := it_pos c143 h
                      refine w_aload_n (pc := 140) X dX1_read_140 1 rfl ?_
                      refine w_iload (pc := 141) X dX1_read_141 5 rfl ?_
                      refine w_iload (pc := 143) X dX1_read_143 6 rfl ?_
                      refine w_iload (pc := 145) X dX1_read_145 0 rfl ?_
                      refine w_bipush (pc := 147) X dX1_read_147 (v := (43)) rfl ?_
                      obtain ⟨x136, h142, h⟩ := bd1_inv h
                      have K149 : wpm φ ad 157 [(0, .ref (ad o)), (1, .ref (ad a1)), (2, .int a2), (4, .int v4), (5, .int v5), (6, .int v6)] [.int x136, .int v5, .int v4, .ref (ad o)] s124 := by
                        obtain ⟨r139, s137, h138, h⟩ := bd2_inv h
                        refine w_callSN (pc := 157) X dX1_read_157 (M8_spoken h138) mn_1_61 cw_1_61 ⟨Nat.le_of_ble_eq_true rfl, Nat.le_of_ble_eq_true rfl⟩ rfl rfl (Nat.le_of_ble_eq_true rfl) ?_
                        show wpm φ ad 160 [(0, .ref (ad o)), (1, .ref (ad a1)), (2, .int a2), (4, .int v4), (5, .int v5), (6, .int v6)] [.int r139, .ref (ad o)] s137
                        obtain ⟨s140, h141, h⟩ := bd1_inv h
                        refine w_callV (pc := 160) X dX1_read_160 (M1_add h141) k_o (by decide) rfl cw_1_53 ⟨Nat.le_of_ble_eq_true rfl, Nat.le_of_ble_eq_true rfl⟩ rfl rfl (Nat.le_of_ble_eq_true rfl) ?_
                        show wpm φ ad 163 [(0, .ref (ad o)), (1, .ref (ad a1)), (2, .int a2), (4, .int v4), (5, .int v5), (6, .int v6)] [] s140
                        refine w_iconst (pc := 163) X dX1_read_163 (v := 0) rfl ?_
                        refine w_istore_n (pc := 164) X dX1_read_164 3 rfl (by decide) (lv' := [(3, .int (0 : Int32)), (0, .ref (ad o)), (1, .ref (ad a1)), (2, .int a2), (4, .int v4), (5, .int v5), (6, .int v6)]) rfl ?_
                        refine w_goto (tgt := 171) (pc := 165) X dX1_read_165 (by decide) ?_
                        refine w_iinc (pc := 171) X dX1_read_171 6 rfl (v := (v6 + 1)) rfl (by decide) (lv' := [(6, .int (v6 + 1)), (3, .int (0 : Int32)), (0, .ref (ad o)), (1, .ref (ad a1)), (2, .int a2), (4, .int v4), (5, .int v5)]) rfl ?_
                        refine w_goto (tgt := 16) (pc := 174) X dX1_read_174 (by decide) ?_
                        exact w_sub (pc := 16) [2, 3, 4, 1, 5, 6, 0] rfl (ih _ _ _ _ _ h)
                      clear h
                      have h := h142
                      clear h142
                      refine w_icmp_ne (pc := 149) (tgt := 156) X dX1_read_149 (by decide) (fun c135 => ?_) (fun c135 => ?_)
                      · replace h := it_neg c135 h
                        refine w_iconst (pc := 156) X dX1_read_156 (v := 0) rfl ?_
                        cases h
                        exact w_sub (pc := 157) [1, 2, 3, 5, 6, 7] rfl K149
                      · replace h := it_pos c135 h
                        refine w_iconst (pc := 152) X dX1_read_152 (v := 1) rfl ?_
                        refine w_goto (tgt := 157) (pc := 153) X dX1_read_153 (by decide) ?_
                        cases h
                        exact w_sub (pc := 157) [1, 2, 3, 5, 6, 7] rfl K149
              · replace h := it_neg c146 h
                refine w_iload (pc := 109) X dX1_read_109 0 rfl ?_
                refine w_bipush (pc := 111) X dX1_read_111 (v := (97)) rfl ?_
                refine w_isub (pc := 113) X dX1_read_113 ?_
                refine w_istore (pc := 114) X dX1_read_114 (by decide) (lv' := [(5, .int (r5 - (97 : Int32))), (7, .int r5), (0, .ref (ad o)), (1, .ref (ad a1)), (2, .int a2), (3, .int v3), (4, .int v4), (6, .int v6)]) rfl ?_
                refine w_iconst (pc := 116) X dX1_read_116 (v := 2) rfl ?_
                refine w_istore_n (pc := 117) X dX1_read_117 3 rfl (by decide) (lv' := [(3, .int (2 : Int32)), (5, .int (r5 - (97 : Int32))), (7, .int r5), (0, .ref (ad o)), (1, .ref (ad a1)), (2, .int a2), (4, .int v4), (6, .int v6)]) rfl ?_
                refine w_goto (tgt := 171) (pc := 118) X dX1_read_118 (by decide) ?_
                refine w_iinc (pc := 171) X dX1_read_171 7 rfl (v := (v6 + 1)) rfl (by decide) (lv' := [(6, .int (v6 + 1)), (3, .int (2 : Int32)), (5, .int (r5 - (97 : Int32))), (7, .int r5), (0, .ref (ad o)), (1, .ref (ad a1)), (2, .int a2), (4, .int v4)]) rfl ?_
                refine w_goto (tgt := 16) (pc := 174) X dX1_read_174 (by decide) ?_
                exact w_sub (pc := 16) [4, 5, 6, 1, 7, 2, 0] rfl (ih _ _ _ _ _ h)
          · replace h := it_pos c200 h
            refine w_iload (pc := 67) X dX1_read_67 0 rfl ?_
            obtain ⟨r150, s148, h149, h⟩ := bd2_inv h
            refine w_callS (pc := 69) X dX1_read_69 (M1_unspoken h149) rfl cw_1_49 ⟨Nat.le_of_ble_eq_true rfl, Nat.le_of_ble_eq_true rfl⟩ rfl rfl (Nat.le_of_ble_eq_true rfl) ?_
            show wpm φ ad 72 [(7, .int r5), (0, .ref (ad o)), (1, .ref (ad a1)), (2, .int a2), (3, .int v3), (4, .int v4), (5, .int v5), (6, .int v6)] [.int r150] s148
            refine w_bipush (pc := 72) X dX1_read_72 (v := (-6)) rfl ?_
            refine w_icmp_eq (pc := 74) (tgt := 89) X dX1_read_74 (by decide) (fun c199 => ?_) (fun c199 => ?_)
            · replace h := it_pos c199 h
              refine w_iload_n (pc := 89) X dX1_read_89 4 rfl ?_
              refine w_iconst (pc := 90) X dX1_read_90 (v := 1) rfl ?_
              refine w_icmp_ne (pc := 91) (tgt := 121) X dX1_read_91 (by decide) (fun c193 => ?_) (fun c193 => ?_)
              · replace h := it_neg c193 h
                refine w_iload_n (pc := 121) X dX1_read_121 4 rfl ?_
                refine w_iconst (pc := 122) X dX1_read_122 (v := 2) rfl ?_
                refine w_icmp_ne (pc := 123) (tgt := 168) X dX1_read_123 (by decide) (fun c169 => ?_) (fun c169 => ?_)
                · replace h := it_neg c169 h
                  refine w_iload (pc := 168) X dX1_read_168 7 rfl ?_
                  cases h
                  exact w_iret X hQ dX1_read_170
                · replace h := it_pos c169 h
                  refine w_iload (pc := 126) X dX1_read_126 0 rfl ?_
                  refine w_bipush (pc := 128) X dX1_read_128 (v := (43)) rfl ?_
                  refine w_icmp_eq (pc := 130) (tgt := 140) X dX1_read_130 (by decide) (fun c168 => ?_) (fun c168 => ?_)
                  · replace h := it_pos c168 h
                    refine w_aload_n (pc := 140) X dX1_read_140 1 rfl ?_
                    refine w_iload (pc := 141) X dX1_read_141 5 rfl ?_
                    refine w_iload (pc := 143) X dX1_read_143 6 rfl ?_
                    refine w_iload (pc := 145) X dX1_read_145 0 rfl ?_
                    refine w_bipush (pc := 147) X dX1_read_147 (v := (43)) rfl ?_
                    obtain ⟨x152, h158, h⟩ := bd1_inv h
                    have K149 : wpm φ ad 157 [(0, .ref (ad o)), (1, .ref (ad a1)), (2, .int a2), (4, .int v4), (5, .int v5), (6, .int v6)] [.int x152, .int v5, .int v4, .ref (ad o)] s148 := by
                      obtain ⟨r155, s153, h154, h⟩ := bd2_inv h
                      refine w_callSN (pc := 157) X dX1_read_157 (M8_spoken h154) mn_1_61 cw_1_61 ⟨Nat.le_of_ble_eq_true rfl, Nat.le_of_ble_eq_true rfl⟩ rfl rfl (Nat.le_of_ble_eq_true rfl) ?_
                      show wpm φ ad 160 [(0, .ref (ad o)), (1, .ref (ad a1)), (2, .int a2), (4, .int v4), (5, .int v5), (6, .int v6)] [.int r155, .ref (ad o)] s153
                      obtain ⟨s156, h157, h⟩ := bd1_inv h
                      refine w_callV (pc := 160) X dX1_read_160 (M1_add h157) k_o (by decide) rfl cw_1_53 ⟨Nat.le_of_ble_eq_true rfl, Nat.le_of_ble_eq_true rfl⟩ rfl rfl (Nat.le_of_ble_eq_true rfl) ?_
                      show wpm φ ad 163 [(0, .ref (ad o)), (1, .ref (ad a1)), (2, .int a2), (4, .int v4), (5, .int v5), (6, .int v6)] [] s156
                      refine w_iconst (pc := 163) X dX1_read_163 (v := 0) rfl ?_
                      refine w_istore_n (pc := 164) X dX1_read_164 3 rfl (by decide) (lv' := [(3, .int (0 : Int32)), (0, .ref (ad o)), (1, .ref (ad a1)), (2, .int a2), (4, .int v4), (5, .int v5), (6, .int v6)]) rfl ?_
                      refine w_goto (tgt := 171) (pc := 165) X dX1_read_165 (by decide) ?_
                      refine w_iinc (pc := 171) X dX1_read_171 6 rfl (v := (v6 + 1)) rfl (by decide) (lv' := [(6, .int (v6 + 1)), (3, .int (0 : Int32)), (0, .ref (ad o)), (1, .ref (ad a1)), (2, .int a2), (4, .int v4), (5, .int v5)]) rfl ?_
                      refine w_goto (tgt := 16) (pc := 174) X dX1_read_174 (by decide) ?_
                      exact w_sub (pc := 16) [2, 3, 4, 1, 5, 6, 0] rfl (ih _ _ _ _ _ h)
                    clear h
                    have h := h158
                    clear h158
                    refine w_icmp_ne (pc := 149) (tgt := 156) X dX1_read_149 (by decide) (fun c151 => ?_) (fun c151 => ?_)
                    · replace h := it_neg c151 h
                      refine w_iconst (pc := 156) X dX1_read_156 (v := 0) rfl ?_
                      cases h
                      exact w_sub (pc := 157) [1, 2, 3, 5, 6, 7] rfl K149
                    · replace h := it_pos c151 h
                      refine w_iconst (pc := 152) X dX1_read_152 (v := 1) rfl ?_
                      refine w_goto (tgt := 157) (pc := 153) X dX1_read_153 (by decide) ?_
                      cases h
                      exact w_sub (pc := 157) [1, 2, 3, 5, 6, 7] rfl K149
                  · replace h := it_neg c168 h
                    refine w_iload (pc := 133) X dX1_read_133 0 rfl ?_
                    refine w_bipush (pc := 135) X dX1_read_135 (v := (45)) rfl ?_
                    refine w_icmp_ne (pc := 137) (tgt := 168) X dX1_read_137 (by decide) (fun c167 => ?_) (fun c167 => ?_)
                    · replace h := it_neg c167 h
                      refine w_iload (pc := 168) X dX1_read_168 7 rfl ?_
                      cases h
                      exact w_iret X hQ dX1_read_170
                    · replace h := it_pos c167 h
                      refine w_aload_n (pc := 140) X dX1_read_140 1 rfl ?_
                      refine w_iload (pc := 141) X dX1_read_141 5 rfl ?_
                      refine w_iload (pc := 143) X dX1_read_143 6 rfl ?_
                      refine w_iload (pc := 145) X dX1_read_145 0 rfl ?_
                      refine w_bipush (pc := 147) X dX1_read_147 (v := (43)) rfl ?_
                      obtain ⟨x160, h166, h⟩ := bd1_inv h
                      have K149 : wpm φ ad 157 [(0, .ref (ad o)), (1, .ref (ad a1)), (2, .int a2), (4, .int v4), (5, .int v5), (6, .int v6)] [.int x160, .int v5, .int v4, .ref (ad o)] s148 := by
                        obtain ⟨r163, s161, h162, h⟩ := bd2_inv h
                        refine w_callSN (pc := 157) X dX1_read_157 (M8_spoken h162) mn_1_61 cw_1_61 ⟨Nat.le_of_ble_eq_true rfl, Nat.le_of_ble_eq_true rfl⟩ rfl rfl (Nat.le_of_ble_eq_true rfl) ?_
                        show wpm φ ad 160 [(0, .ref (ad o)), (1, .ref (ad a1)), (2, .int a2), (4, .int v4), (5, .int v5), (6, .int v6)] [.int r163, .ref (ad o)] s161
                        obtain ⟨s164, h165, h⟩ := bd1_inv h
                        refine w_callV (pc := 160) X dX1_read_160 (M1_add h165) k_o (by decide) rfl cw_1_53 ⟨Nat.le_of_ble_eq_true rfl, Nat.le_of_ble_eq_true rfl⟩ rfl rfl (Nat.le_of_ble_eq_true rfl) ?_
                        show wpm φ ad 163 [(0, .ref (ad o)), (1, .ref (ad a1)), (2, .int a2), (4, .int v4), (5, .int v5), (6, .int v6)] [] s164
                        refine w_iconst (pc := 163) X dX1_read_163 (v := 0) rfl ?_
                        refine w_istore_n (pc := 164) X dX1_read_164 3 rfl (by decide) (lv' := [(3, .int (0 : Int32)), (0, .ref (ad o)), (1, .ref (ad a1)), (2, .int a2), (4, .int v4), (5, .int v5), (6, .int v6)]) rfl ?_
                        refine w_goto (tgt := 171) (pc := 165) X dX1_read_165 (by decide) ?_
                        refine w_iinc (pc := 171) X dX1_read_171 6 rfl (v := (v6 + 1)) rfl (by decide) (lv' := [(6, .int (v6 + 1)), (3, .int (0 : Int32)), (0, .ref (ad o)), (1, .ref (ad a1)), (2, .int a2), (4, .int v4), (5, .int v5)]) rfl ?_
                        refine w_goto (tgt := 16) (pc := 174) X dX1_read_174 (by decide) ?_
                        exact w_sub (pc := 16) [2, 3, 4, 1, 5, 6, 0] rfl (ih _ _ _ _ _ h)
                      clear h
                      have h := h166
                      clear h166
                      refine w_icmp_ne (pc := 149) (tgt := 156) X dX1_read_149 (by decide) (fun c159 => ?_) (fun c159 => ?_)
                      · replace h := it_neg c159 h
                        refine w_iconst (pc := 156) X dX1_read_156 (v := 0) rfl ?_
                        cases h
                        exact w_sub (pc := 157) [1, 2, 3, 5, 6, 7] rfl K149
                      · replace h := it_pos c159 h
                        refine w_iconst (pc := 152) X dX1_read_152 (v := 1) rfl ?_
                        refine w_goto (tgt := 157) (pc := 153) X dX1_read_153 (by decide) ?_
                        cases h
                        exact w_sub (pc := 157) [1, 2, 3, 5, 6, 7] rfl K149
              · replace h := it_pos c193 h
                refine w_iload (pc := 94) X dX1_read_94 0 rfl ?_
                refine w_bipush (pc := 96) X dX1_read_96 (v := (97)) rfl ?_
                refine w_isub (pc := 98) X dX1_read_98 ?_
                refine w_iconst (pc := 99) X dX1_read_99 (v := 0) rfl ?_
                refine w_iload_n (pc := 100) X dX1_read_100 3 rfl ?_
                refine w_iconst (pc := 101) X dX1_read_101 (v := 1) rfl ?_
                refine w_isub (pc := 102) X dX1_read_102 ?_
                obtain ⟨r172, s170, h171, h⟩ := bd2_inv h
                refine w_callSN (pc := 103) X dX1_read_103 (M8_isWithin h171) mn_1_57 cw_1_57 ⟨Nat.le_of_ble_eq_true rfl, Nat.le_of_ble_eq_true rfl⟩ rfl rfl (Nat.le_of_ble_eq_true rfl) ?_
                show wpm φ ad 106 [(7, .int r5), (0, .ref (ad o)), (1, .ref (ad a1)), (2, .int a2), (3, .int v3), (4, .int v4), (5, .int v5), (6, .int v6)] [.int r172] s170
                refine w_if_eq (pc := 106) (tgt := 121) X dX1_read_106 (by decide) (fun c192 => ?_) (fun c192 => ?_)
                · replace h := it_pos c192 h
                  refine w_iload_n (pc := 121) X dX1_read_121 4 rfl ?_
                  refine w_iconst (pc := 122) X dX1_read_122 (v := 2) rfl ?_
                  refine w_icmp_ne (pc := 123) (tgt := 168) X dX1_read_123 (by decide) (fun c191 => ?_) (fun c191 => ?_)
                  · replace h := it_neg c191 h
                    refine w_iload (pc := 168) X dX1_read_168 7 rfl ?_
                    cases h
                    exact w_iret X hQ dX1_read_170
                  · replace h := it_pos c191 h
                    refine w_iload (pc := 126) X dX1_read_126 0 rfl ?_
                    refine w_bipush (pc := 128) X dX1_read_128 (v := (43)) rfl ?_
                    refine w_icmp_eq (pc := 130) (tgt := 140) X dX1_read_130 (by decide) (fun c190 => ?_) (fun c190 => ?_)
                    · replace h := it_pos c190 h
                      refine w_aload_n (pc := 140) X dX1_read_140 1 rfl ?_
                      refine w_iload (pc := 141) X dX1_read_141 5 rfl ?_
                      refine w_iload (pc := 143) X dX1_read_143 6 rfl ?_
                      refine w_iload (pc := 145) X dX1_read_145 0 rfl ?_
                      refine w_bipush (pc := 147) X dX1_read_147 (v := (43)) rfl ?_
                      obtain ⟨x174, h180, h⟩ := bd1_inv h
                      have K149 : wpm φ ad 157 [(0, .ref (ad o)), (1, .ref (ad a1)), (2, .int a2), (4, .int v4), (5, .int v5), (6, .int v6)] [.int x174, .int v5, .int v4, .ref (ad o)] s170 := by
                        obtain ⟨r177, s175, h176, h⟩ := bd2_inv h
                        refine w_callSN (pc := 157) X dX1_read_157 (M8_spoken h176) mn_1_61 cw_1_61 ⟨Nat.le_of_ble_eq_true rfl, Nat.le_of_ble_eq_true rfl⟩ rfl rfl (Nat.le_of_ble_eq_true rfl) ?_
                        show wpm φ ad 160 [(0, .ref (ad o)), (1, .ref (ad a1)), (2, .int a2), (4, .int v4), (5, .int v5), (6, .int v6)] [.int r177, .ref (ad o)] s175
                        obtain ⟨s178, h179, h⟩ := bd1_inv h
                        refine w_callV (pc := 160) X dX1_read_160 (M1_add h179) k_o (by decide) rfl cw_1_53 ⟨Nat.le_of_ble_eq_true rfl, Nat.le_of_ble_eq_true rfl⟩ rfl rfl (Nat.le_of_ble_eq_true rfl) ?_
                        show wpm φ ad 163 [(0, .ref (ad o)), (1, .ref (ad a1)), (2, .int a2), (4, .int v4), (5, .int v5), (6, .int v6)] [] s178
                        refine w_iconst (pc := 163) X dX1_read_163 (v := 0) rfl ?_
                        refine w_istore_n (pc := 164) X dX1_read_164 3 rfl (by decide) (lv' := [(3, .int (0 : Int32)), (0, .ref (ad o)), (1, .ref (ad a1)), (2, .int a2), (4, .int v4), (5, .int v5), (6, .int v6)]) rfl ?_
                        refine w_goto (tgt := 171) (pc := 165) X dX1_read_165 (by decide) ?_
                        refine w_iinc (pc := 171) X dX1_read_171 6 rfl (v := (v6 + 1)) rfl (by decide) (lv' := [(6, .int (v6 + 1)), (3, .int (0 : Int32)), (0, .ref (ad o)), (1, .ref (ad a1)), (2, .int a2), (4, .int v4), (5, .int v5)]) rfl ?_
                        refine w_goto (tgt := 16) (pc := 174) X dX1_read_174 (by decide) ?_
                        exact w_sub (pc := 16) [2, 3, 4, 1, 5, 6, 0] rfl (ih _ _ _ _ _ h)
                      clear h
                      have h := h180
                      clear h180
                      refine w_icmp_ne (pc := 149) (tgt := 156) X dX1_read_149 (by decide) (fun c173 => ?_) (fun c173 => ?_)
                      · replace h := it_neg c173 h
                        refine w_iconst (pc := 156) X dX1_read_156 (v := 0) rfl ?_
                        cases h
                        exact w_sub (pc := 157) [1, 2, 3, 5, 6, 7] rfl K149
                      · replace h := it_pos c173 h
                        refine w_iconst (pc := 152) X dX1_read_152 (v := 1) rfl ?_
                        refine w_goto (tgt := 157) (pc := 153) X dX1_read_153 (by decide) ?_
                        cases h
                        exact w_sub (pc := 157) [1, 2, 3, 5, 6, 7] rfl K149
                    · replace h := it_neg c190 h
                      refine w_iload (pc := 133) X dX1_read_133 0 rfl ?_
                      refine w_bipush (pc := 135) X dX1_read_135 (v := (45)) rfl ?_
                      refine w_icmp_ne (pc := 137) (tgt := 168) X dX1_read_137 (by decide) (fun c189 => ?_) (fun c189 => ?_)
                      · replace h := it_neg c189 h
                        refine w_iload (pc := 168) X dX1_read_168 7 rfl ?_
                        cases h
                        exact w_iret X hQ dX1_read_170
                      · replace h := it_pos c189 h
                        refine w_aload_n (pc := 140) X dX1_read_140 1 rfl ?_
                        refine w_iload (pc := 141) X dX1_read_141 5 rfl ?_
                        refine w_iload (pc := 143) X dX1_read_143 6 rfl ?_
                        refine w_iload (pc := 145) X dX1_read_145 0 rfl ?_
                        refine w_bipush (pc := 147) X dX1_read_147 (v := (43)) rfl ?_
                        obtain ⟨x182, h188, h⟩ := bd1_inv h
                        have K149 : wpm φ ad 157 [(0, .ref (ad o)), (1, .ref (ad a1)), (2, .int a2), (4, .int v4), (5, .int v5), (6, .int v6)] [.int x182, .int v5, .int v4, .ref (ad o)] s170 := by
                          obtain ⟨r185, s183, h184, h⟩ := bd2_inv h
                          refine w_callSN (pc := 157) X dX1_read_157 (M8_spoken h184) mn_1_61 cw_1_61 ⟨Nat.le_of_ble_eq_true rfl, Nat.le_of_ble_eq_true rfl⟩ rfl rfl (Nat.le_of_ble_eq_true rfl) ?_
                          show wpm φ ad 160 [(0, .ref (ad o)), (1, .ref (ad a1)), (2, .int a2), (4, .int v4), (5, .int v5), (6, .int v6)] [.int r185, .ref (ad o)] s183
                          obtain ⟨s186, h187, h⟩ := bd1_inv h
                          refine w_callV (pc := 160) X dX1_read_160 (M1_add h187) k_o (by decide) rfl cw_1_53 ⟨Nat.le_of_ble_eq_true rfl, Nat.le_of_ble_eq_true rfl⟩ rfl rfl (Nat.le_of_ble_eq_true rfl) ?_
                          show wpm φ ad 163 [(0, .ref (ad o)), (1, .ref (ad a1)), (2, .int a2), (4, .int v4), (5, .int v5), (6, .int v6)] [] s186
                          refine w_iconst (pc := 163) X dX1_read_163 (v := 0) rfl ?_
                          refine w_istore_n (pc := 164) X dX1_read_164 3 rfl (by decide) (lv' := [(3, .int (0 : Int32)), (0, .ref (ad o)), (1, .ref (ad a1)), (2, .int a2), (4, .int v4), (5, .int v5), (6, .int v6)]) rfl ?_
                          refine w_goto (tgt := 171) (pc := 165) X dX1_read_165 (by decide) ?_
                          refine w_iinc (pc := 171) X dX1_read_171 6 rfl (v := (v6 + 1)) rfl (by decide) (lv' := [(6, .int (v6 + 1)), (3, .int (0 : Int32)), (0, .ref (ad o)), (1, .ref (ad a1)), (2, .int a2), (4, .int v4), (5, .int v5)]) rfl ?_
                          refine w_goto (tgt := 16) (pc := 174) X dX1_read_174 (by decide) ?_
                          exact w_sub (pc := 16) [2, 3, 4, 1, 5, 6, 0] rfl (ih _ _ _ _ _ h)
                        clear h
                        have h := h188
                        clear h188
                        refine w_icmp_ne (pc := 149) (tgt := 156) X dX1_read_149 (by decide) (fun c181 => ?_) (fun c181 => ?_)
                        · replace h := it_neg c181 h
                          refine w_iconst (pc := 156) X dX1_read_156 (v := 0) rfl ?_
                          cases h
                          exact w_sub (pc := 157) [1, 2, 3, 5, 6, 7] rfl K149
                        · replace h := it_pos c181 h
                          refine w_iconst (pc := 152) X dX1_read_152 (v := 1) rfl ?_
                          refine w_goto (tgt := 157) (pc := 153) X dX1_read_153 (by decide) ?_
                          cases h
                          exact w_sub (pc := 157) [1, 2, 3, 5, 6, 7] rfl K149
                · replace h := it_neg c192 h
                  refine w_iload (pc := 109) X dX1_read_109 0 rfl ?_
                  refine w_bipush (pc := 111) X dX1_read_111 (v := (97)) rfl ?_
                  refine w_isub (pc := 113) X dX1_read_113 ?_
                  refine w_istore (pc := 114) X dX1_read_114 (by decide) (lv' := [(5, .int (r5 - (97 : Int32))), (7, .int r5), (0, .ref (ad o)), (1, .ref (ad a1)), (2, .int a2), (3, .int v3), (4, .int v4), (6, .int v6)]) rfl ?_
                  refine w_iconst (pc := 116) X dX1_read_116 (v := 2) rfl ?_
                  refine w_istore_n (pc := 117) X dX1_read_117 3 rfl (by decide) (lv' := [(3, .int (2 : Int32)), (5, .int (r5 - (97 : Int32))), (7, .int r5), (0, .ref (ad o)), (1, .ref (ad a1)), (2, .int a2), (4, .int v4), (6, .int v6)]) rfl ?_
                  refine w_goto (tgt := 171) (pc := 118) X dX1_read_118 (by decide) ?_
                  refine w_iinc (pc := 171) X dX1_read_171 7 rfl (v := (v6 + 1)) rfl (by decide) (lv' := [(6, .int (v6 + 1)), (3, .int (2 : Int32)), (5, .int (r5 - (97 : Int32))), (7, .int r5), (0, .ref (ad o)), (1, .ref (ad a1)), (2, .int a2), (4, .int v4)]) rfl ?_
                  refine w_goto (tgt := 16) (pc := 174) X dX1_read_174 (by decide) ?_
                  exact w_sub (pc := 16) [4, 5, 6, 1, 7, 2, 0] rfl (ih _ _ _ _ _ h)
            · replace h := it_neg c199 h
              refine w_aload_n (pc := 77) X dX1_read_77 1 rfl ?_
              refine w_iload (pc := 78) X dX1_read_78 0 rfl ?_
              obtain ⟨r196, s194, h195, h⟩ := bd2_inv h
              refine w_callS (pc := 80) X dX1_read_80 (M1_unspoken h195) rfl cw_1_49 ⟨Nat.le_of_ble_eq_true rfl, Nat.le_of_ble_eq_true rfl⟩ rfl rfl (Nat.le_of_ble_eq_true rfl) ?_
              show wpm φ ad 83 [(7, .int r5), (0, .ref (ad o)), (1, .ref (ad a1)), (2, .int a2), (3, .int v3), (4, .int v4), (5, .int v5), (6, .int v6)] [.int r196, .ref (ad o)] s194
              obtain ⟨s197, h198, h⟩ := bd1_inv h
              refine w_callV (pc := 83) X dX1_read_83 (M1_add h198) k_o (by decide) rfl cw_1_53 ⟨Nat.le_of_ble_eq_true rfl, Nat.le_of_ble_eq_true rfl⟩ rfl rfl (Nat.le_of_ble_eq_true rfl) ?_
              show wpm φ ad 86 [(7, .int r5), (0, .ref (ad o)), (1, .ref (ad a1)), (2, .int a2), (3, .int v3), (4, .int v4), (5, .int v5), (6, .int v6)] [] s197
              refine w_goto (tgt := 171) (pc := 86) X dX1_read_86 (by decide) ?_
              refine w_iinc (pc := 171) X dX1_read_171 7 rfl (v := (v6 + 1)) rfl (by decide) (lv' := [(6, .int (v6 + 1)), (7, .int r5), (0, .ref (ad o)), (1, .ref (ad a1)), (2, .int a2), (3, .int v3), (4, .int v4), (5, .int v5)]) rfl ?_
              refine w_goto (tgt := 16) (pc := 174) X dX1_read_174 (by decide) ?_
              exact w_sub (pc := 16) [2, 3, 4, 5, 6, 7, 0] rfl (ih _ _ _ _ _ h)
        · replace h := it_neg c201 h
          refine w_iload (pc := 51) X dX1_read_51 0 rfl ?_
          refine w_bipush (pc := 53) X dX1_read_53 (v := (65)) rfl ?_
          refine w_isub (pc := 55) X dX1_read_55 ?_
          refine w_istore (pc := 56) X dX1_read_56 (by decide) (lv' := [(4, .int (r5 - (65 : Int32))), (7, .int r5), (0, .ref (ad o)), (1, .ref (ad a1)), (2, .int a2), (3, .int v3), (5, .int v5), (6, .int v6)]) rfl ?_
          refine w_iconst (pc := 58) X dX1_read_58 (v := 1) rfl ?_
          refine w_istore_n (pc := 59) X dX1_read_59 3 rfl (by decide) (lv' := [(3, .int (1 : Int32)), (4, .int (r5 - (65 : Int32))), (7, .int r5), (0, .ref (ad o)), (1, .ref (ad a1)), (2, .int a2), (5, .int v5), (6, .int v6)]) rfl ?_
          refine w_goto (tgt := 171) (pc := 60) X dX1_read_60 (by decide) ?_
          refine w_iinc (pc := 171) X dX1_read_171 7 rfl (v := (v6 + 1)) rfl (by decide) (lv' := [(6, .int (v6 + 1)), (3, .int (1 : Int32)), (4, .int (r5 - (65 : Int32))), (7, .int r5), (0, .ref (ad o)), (1, .ref (ad a1)), (2, .int a2), (5, .int v5)]) rfl ?_
          refine w_goto (tgt := 16) (pc := 174) X dX1_read_174 (by decide) ?_
          exact w_sub (pc := 16) [4, 5, 6, 1, 2, 7, 0] rfl (ih _ _ _ _ _ h)
set_option maxRecDepth 20000 in
theorem M1_read {o : Nat} {a1 : Nat} {a2 : Int32} {s : Sto} {r : Int32} {σ' : Sto} (h : f1_read o a1 a2 s = some (r, σ')) : Ct yX1_read cX1_read 8 (some .int) 2 43 (fun ad => [.ref (ad o), .ref (ad a1), .int a2]) s (fun ad => some (.int r)) σ' := by
  unfold f1_read at h
  obtain ⟨⟨k_o, k_a1⟩, h⟩ := gd_inv h
  refine Ct_of (by decide) (fun ad => Nat.le_of_ble_eq_true rfl) (fun φ ad X hQ => ?_)
  show wpm φ ad 0 [(0, .ref (ad o)), (1, .ref (ad a1)), (2, .int a2)] [] s
  replace X : Cx φ ad cX1_read (some .int) RX1 8 2 43 := X
  refine w_aload_n (pc := 0) X dX1_read_0 0 rfl ?_
  refine w_iconst (pc := 1) X dX1_read_1 (v := 0) rfl ?_
  refine w_putI (pc := 2) X dX1_read_2 clO_1 k_o 1 (by decide) rfl rfl (Or.inl rfl) fl_1_15 ?_
  obtain ⟨s1, e_s1, h⟩ := nm_inv h
  refine w_nm e_s1 ?_
  refine w_iconst (pc := 5) X dX1_read_5 (v := 0) rfl ?_
  refine w_istore_n (pc := 6) X dX1_read_6 3 rfl (by decide) (lv' := [(3, .int (0 : Int32)), (0, .ref (ad o)), (1, .ref (ad a1)), (2, .int a2)]) rfl ?_
  refine w_iconst (pc := 7) X dX1_read_7 (v := 0) rfl ?_
  refine w_istore (pc := 8) X dX1_read_8 (by decide) (lv' := [(4, .int (0 : Int32)), (3, .int (0 : Int32)), (0, .ref (ad o)), (1, .ref (ad a1)), (2, .int a2)]) rfl ?_
  refine w_iconst (pc := 10) X dX1_read_10 (v := 0) rfl ?_
  refine w_istore (pc := 11) X dX1_read_11 (by decide) (lv' := [(5, .int (0 : Int32)), (4, .int (0 : Int32)), (3, .int (0 : Int32)), (0, .ref (ad o)), (1, .ref (ad a1)), (2, .int a2)]) rfl ?_
  refine w_iconst (pc := 13) X dX1_read_13 (v := 0) rfl ?_
  refine w_istore (pc := 14) X dX1_read_14 (by decide) (lv' := [(6, .int (0 : Int32)), (5, .int (0 : Int32)), (4, .int (0 : Int32)), (3, .int (0 : Int32)), (0, .ref (ad o)), (1, .ref (ad a1)), (2, .int a2)]) rfl ?_
  exact w_sub (pc := 16) [4, 5, 6, 3, 2, 1, 0] rfl (WL1_read_16 X o a1 a2 k_o k_a1 hQ FU (0 : Int32) (0 : Int32) (0 : Int32) (0 : Int32) s1 h)
