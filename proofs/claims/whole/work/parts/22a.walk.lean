set_option maxRecDepth 20000 in
theorem M9_in {a0 : Int64} {a2 : Int64} {a4 : Int64} {s : Sto} {r : Int32} {σ' : Sto} (h : f9_in a0 a2 a4 s = some (r, σ')) : Ct yX9_in cX9_in 6 (some .boolean) 0 0 (fun ad => [.long a0, .long a2, .long a4]) s (fun ad => some (.int r)) σ' := by
  unfold f9_in at h
  refine Ct_of (by decide) (fun ad => Nat.le_of_ble_eq_true rfl) (fun φ ad X hQ => ?_)
  show wpm φ ad 0 [(0, .long a0), (2, .long a2), (4, .long a4)] [] s
  replace X : Cx φ ad cX9_in (some .boolean) RX9 6 0 0 := X
  refine w_lload_n (pc := 0) X dX9_in_0 0 rfl ?_
  refine w_lload_n (pc := 1) X dX9_in_1 1 rfl ?_
  refine w_lcmp (pc := 2) X dX9_in_2 ?_
  refine w_if_lt (pc := 3) (tgt := 17) X dX9_in_3 (by decide) (fun c2 => ?_) (fun c2 => ?_)
  · replace h := it_pos c2 h
    refine w_iconst (pc := 17) X dX9_in_17 (v := 0) rfl ?_
    cases h
    exact w_zret X hQ dX9_in_18 (Or.inl rfl)
  · replace h := it_neg c2 h
    refine w_lload_n (pc := 6) X dX9_in_6 0 rfl ?_
    refine w_lload (pc := 7) X dX9_in_7 2 rfl ?_
    refine w_lcmp (pc := 9) X dX9_in_9 ?_
    refine w_if_gt (pc := 10) (tgt := 17) X dX9_in_10 (by decide) (fun c1 => ?_) (fun c1 => ?_)
    · replace h := it_pos c1 h
      refine w_iconst (pc := 17) X dX9_in_17 (v := 0) rfl ?_
      cases h
      exact w_zret X hQ dX9_in_18 (Or.inl rfl)
    · replace h := it_neg c1 h
      refine w_iconst (pc := 13) X dX9_in_13 (v := 1) rfl ?_
      refine w_goto (tgt := 18) (pc := 14) X dX9_in_14 (by decide) ?_
      cases h
      exact w_zret X hQ dX9_in_18 (Or.inr rfl)
set_option maxRecDepth 20000 in
theorem WL9_begin_28 {φ : Fr} {ad : Nat → Nat} (X : Cx φ ad cX9_begin none RX9 3 0 0) (o : Nat) (k_o : kd o = 9) : ∀ (fuel : Nat) (v2 : Int32) (s : Sto)  (t : Sto), L9_begin_28 o fuel v2 s = some (t) → wpm φ ad 47 [] [] t → wpm φ ad 28 [(0, .ref (ad o)), (2, .int v2)] [] s := by
  intro fuel
  induction fuel with
  | zero => intro v2 s t h; cases h
  | succ fuel ih =>
    intro v2 s t h K
    unfold L9_begin_28 at h
    refine w_iload_n (pc := 28) X dX9_begin_28 1 rfl ?_
    refine w_bipush (pc := 29) X dX9_begin_29 (v := (6)) rfl ?_
    refine w_icmp_ge (pc := 31) (tgt := 47) X dX9_begin_31 (by decide) (fun c8 => ?_) (fun c8 => ?_)
    · replace h := it_pos c8 h
      cases h
      exact w_sub (pc := 47) [] rfl K
    · replace h := it_neg c8 h
      refine w_aload_n (pc := 34) X dX9_begin_34 0 rfl ?_
      refine w_getR (pc := 35) X dX9_begin_35 clO_9 k_o 2 (by decide) (d := 1) rfl fl_9_7 ?_
      refine w_iload_n (pc := 38) X dX9_begin_38 1 rfl ?_
      refine w_iconst (pc := 39) X dX9_begin_39 (v := 0) rfl ?_
      obtain ⟨g6, h⟩ := gd_inv h
      refine w_iast (pc := 40) X dX9_begin_40 (kp_9_1 k_o) g6 ?_
      obtain ⟨s7, e_s7, h⟩ := nm_inv h
      refine w_nm e_s7 ?_
      refine w_iinc (pc := 41) X dX9_begin_41 1 rfl (v := (v2 + 1)) rfl (by decide) (lv' := [(2, .int (v2 + 1)), (0, .ref (ad o))]) rfl ?_
      refine w_goto (tgt := 28) (pc := 44) X dX9_begin_44 (by decide) ?_
      exact w_sub (pc := 28) [1, 0] rfl (ih _ _ _ h K)
set_option maxRecDepth 20000 in
theorem M9_begin {o : Nat} {a1 : Int32} {s : Sto} {σ' : Sto} (h : f9_begin o a1 s = some σ') : Ct yX9_begin cX9_begin 3 none 0 0 (fun ad => [.ref (ad o), .int a1]) s (fun _ => none) σ' := by
  unfold f9_begin at h
  obtain ⟨k_o, h⟩ := gd_inv h
  refine Ct_of (by decide) (fun ad => Nat.le_of_ble_eq_true rfl) (fun φ ad X hQ => ?_)
  show wpm φ ad 0 [(0, .ref (ad o)), (1, .int a1)] [] s
  replace X : Cx φ ad cX9_begin none RX9 3 0 0 := X
  refine w_aload_n (pc := 0) X dX9_begin_0 0 rfl ?_
  refine w_iload_n (pc := 1) X dX9_begin_1 1 rfl ?_
  refine w_putI (pc := 2) X dX9_begin_2 clO_9 k_o 0 (by decide) rfl rfl (Or.inl rfl) fl_9_85 ?_
  obtain ⟨s1, e_s1, h⟩ := nm_inv h
  refine w_nm e_s1 ?_
  refine w_aload_n (pc := 5) X dX9_begin_5 0 rfl ?_
  refine w_iconst (pc := 6) X dX9_begin_6 (v := 0) rfl ?_
  refine w_putI (pc := 7) X dX9_begin_7 clO_9 k_o 1 (by decide) rfl rfl (Or.inl rfl) fl_9_89 ?_
  obtain ⟨s2, e_s2, h⟩ := nm_inv h
  refine w_nm e_s2 ?_
  refine w_aload_n (pc := 10) X dX9_begin_10 0 rfl ?_
  refine w_iconst (pc := 11) X dX9_begin_11 (v := 0) rfl ?_
  refine w_putI (pc := 12) X dX9_begin_12 clO_9 k_o 3 (by decide) rfl rfl (Or.inl rfl) fl_9_92 ?_
  obtain ⟨s3, e_s3, h⟩ := nm_inv h
  refine w_nm e_s3 ?_
  refine w_aload_n (pc := 15) X dX9_begin_15 0 rfl ?_
  refine w_bipush (pc := 16) X dX9_begin_16 (v := (20)) rfl ?_
  refine w_putI (pc := 18) X dX9_begin_18 clO_9 k_o 4 (by decide) rfl rfl (Or.inl rfl) fl_9_95 ?_
  obtain ⟨s4, e_s4, h⟩ := nm_inv h
  refine w_nm e_s4 ?_
  refine w_aload_n (pc := 21) X dX9_begin_21 0 rfl ?_
  refine w_iconst (pc := 22) X dX9_begin_22 (v := 0) rfl ?_
  refine w_putI (pc := 23) X dX9_begin_23 clO_9 k_o 10 (by decide) rfl rfl (Or.inl rfl) fl_9_98 ?_
  obtain ⟨s5, e_s5, h⟩ := nm_inv h
  refine w_nm e_s5 ?_
  refine w_iconst (pc := 26) X dX9_begin_26 (v := 0) rfl ?_
  refine w_istore_n (pc := 27) X dX9_begin_27 2 rfl (by decide) (lv' := [(2, .int (0 : Int32)), (0, .ref (ad o)), (1, .int a1)]) rfl ?_
  obtain ⟨s10, h9, h⟩ := bd1_inv h
  refine w_sub (pc := 28) [1, 0] rfl (WL9_begin_28 X o k_o FU (0 : Int32) s5 s10 h9 ?_)
  cases h
  exact w_vret X hQ dX9_begin_47
set_option maxRecDepth 20000 in
theorem M9_isFact {o : Nat} {a1 : Int32} {s : Sto} {r : Int32} {σ' : Sto} (h : f9_isFact o a1 s = some (r, σ')) : Ct yX9_isFact cX9_isFact 2 (some .boolean) 1 25 (fun ad => [.ref (ad o), .int a1]) s (fun ad => some (.int r)) σ' := by
  unfold f9_isFact at h
  obtain ⟨k_o, h⟩ := gd_inv h
  refine Ct_of (by decide) (fun ad => Nat.le_of_ble_eq_true rfl) (fun φ ad X hQ => ?_)
  show wpm φ ad 0 [(0, .ref (ad o)), (1, .int a1)] [] s
  replace X : Cx φ ad cX9_isFact (some .boolean) RX9 2 1 25 := X
  refine w_iload_n (pc := 0) X dX9_isFact_0 1 rfl ?_
  refine w_i2l (pc := 1) X dX9_isFact_1 ?_
  refine w_lconst (pc := 2) X dX9_isFact_2 (v := 0) rfl ?_
  refine w_aload_n (pc := 3) X dX9_isFact_3 0 rfl ?_
  refine w_getI (pc := 4) X dX9_isFact_4 clO_9 k_o 0 (by decide) rfl fl_9_85 ?_
  refine w_iconst (pc := 7) X dX9_isFact_7 (v := 1) rfl ?_
  refine w_isub (pc := 8) X dX9_isFact_8 ?_
  refine w_i2l (pc := 9) X dX9_isFact_9 ?_
  obtain ⟨r3, s1, h2, h⟩ := bd2_inv h
  refine w_callS (pc := 10) X dX9_isFact_10 (M9_in h2) rfl cw_9_101 ⟨Nat.le_of_ble_eq_true rfl, Nat.le_of_ble_eq_true rfl⟩ rfl rfl (Nat.le_of_ble_eq_true rfl) ?_
  show wpm φ ad 13 [(0, .ref (ad o)), (1, .int a1)] [.int r3] s1
  obtain ⟨g4, h⟩ := gd_inv h
  cases h
  exact w_zret X hQ dX9_isFact_13 g4
set_option maxRecDepth 20000 in
theorem M9_isGuest {a0 : Int32} {s : Sto} {r : Int32} {σ' : Sto} (h : f9_isGuest a0 s = some (r, σ')) : Ct yX9_isGuest cX9_isGuest 1 (some .boolean) 1 25 (fun ad => [.int a0]) s (fun ad => some (.int r)) σ' := by
  unfold f9_isGuest at h
  refine Ct_of (by decide) (fun ad => Nat.le_of_ble_eq_true rfl) (fun φ ad X hQ => ?_)
  show wpm φ ad 0 [(0, .int a0)] [] s
  replace X : Cx φ ad cX9_isGuest (some .boolean) RX9 1 1 25 := X
  refine w_iload_n (pc := 0) X dX9_isGuest_0 0 rfl ?_
  refine w_i2l (pc := 1) X dX9_isGuest_1 ?_
  refine w_lconst (pc := 2) X dX9_isGuest_2 (v := 0) rfl ?_
  refine w_ldc2 (pc := 3) X dX9_isGuest_3 (v := (5)) cn_9_105 ?_
  obtain ⟨r3, s1, h2, h⟩ := bd2_inv h
  refine w_callS (pc := 6) X dX9_isGuest_6 (M9_in h2) rfl cw_9_101 ⟨Nat.le_of_ble_eq_true rfl, Nat.le_of_ble_eq_true rfl⟩ rfl rfl (Nat.le_of_ble_eq_true rfl) ?_
  show wpm φ ad 9 [(0, .int a0)] [.int r3] s1
  obtain ⟨g4, h⟩ := gd_inv h
  cases h
  exact w_zret X hQ dX9_isGuest_9 g4
set_option maxRecDepth 20000 in
theorem M9_isRow {o : Nat} {a1 : Int32} {s : Sto} {r : Int32} {σ' : Sto} (h : f9_isRow o a1 s = some (r, σ')) : Ct yX9_isRow cX9_isRow 2 (some .boolean) 1 25 (fun ad => [.ref (ad o), .int a1]) s (fun ad => some (.int r)) σ' := by
  unfold f9_isRow at h
  obtain ⟨k_o, h⟩ := gd_inv h
  refine Ct_of (by decide) (fun ad => Nat.le_of_ble_eq_true rfl) (fun φ ad X hQ => ?_)
  show wpm φ ad 0 [(0, .ref (ad o)), (1, .int a1)] [] s
  replace X : Cx φ ad cX9_isRow (some .boolean) RX9 2 1 25 := X
  refine w_iload_n (pc := 0) X dX9_isRow_0 1 rfl ?_
  refine w_i2l (pc := 1) X dX9_isRow_1 ?_
  refine w_lconst (pc := 2) X dX9_isRow_2 (v := 0) rfl ?_
  refine w_aload_n (pc := 3) X dX9_isRow_3 0 rfl ?_
  refine w_getI (pc := 4) X dX9_isRow_4 clO_9 k_o 3 (by decide) rfl fl_9_92 ?_
  refine w_iconst (pc := 7) X dX9_isRow_7 (v := 1) rfl ?_
  refine w_isub (pc := 8) X dX9_isRow_8 ?_
  refine w_i2l (pc := 9) X dX9_isRow_9 ?_
  obtain ⟨r3, s1, h2, h⟩ := bd2_inv h
  refine w_callS (pc := 10) X dX9_isRow_10 (M9_in h2) rfl cw_9_101 ⟨Nat.le_of_ble_eq_true rfl, Nat.le_of_ble_eq_true rfl⟩ rfl rfl (Nat.le_of_ble_eq_true rfl) ?_
  show wpm φ ad 13 [(0, .ref (ad o)), (1, .int a1)] [.int r3] s1
  obtain ⟨g4, h⟩ := gd_inv h
  cases h
  exact w_zret X hQ dX9_isRow_13 g4
set_option maxRecDepth 20000 in
theorem M9_facts {o : Nat} {a1 : Int32} {s : Sto} {r : Int32} {σ' : Sto} (h : f9_facts o a1 s = some (r, σ')) : Ct yX9_facts cX9_facts 3 (some .int) 1 25 (fun ad => [.ref (ad o), .int a1]) s (fun ad => some (.int r)) σ' := by
  unfold f9_facts at h
  obtain ⟨k_o, h⟩ := gd_inv h
  refine Ct_of (by decide) (fun ad => Nat.le_of_ble_eq_true rfl) (fun φ ad X hQ => ?_)
  show wpm φ ad 0 [(0, .ref (ad o)), (1, .int a1)] [] s
  replace X : Cx φ ad cX9_facts (some .int) RX9 3 1 25 := X
  refine w_iload_n (pc := 0) X dX9_facts_0 1 rfl ?_
  refine w_i2l (pc := 1) X dX9_facts_1 ?_
  refine w_lconst (pc := 2) X dX9_facts_2 (v := 1) rfl ?_
  refine w_ldc2 (pc := 3) X dX9_facts_3 (v := (8)) cn_9_107 ?_
  obtain ⟨r3, s1, h2, h⟩ := bd2_inv h
  refine w_callS (pc := 6) X dX9_facts_6 (M9_in h2) rfl cw_9_101 ⟨Nat.le_of_ble_eq_true rfl, Nat.le_of_ble_eq_true rfl⟩ rfl rfl (Nat.le_of_ble_eq_true rfl) ?_
  show wpm φ ad 9 [(0, .ref (ad o)), (1, .int a1)] [.int r3] s1
  refine w_if_ne (pc := 9) (tgt := 15) X dX9_facts_9 (by decide) (fun c6 => ?_) (fun c6 => ?_)
  · replace h := it_neg c6 h
    refine w_aload_n (pc := 15) X dX9_facts_15 0 rfl ?_
    refine w_getI (pc := 16) X dX9_facts_16 clO_9 k_o 0 (by decide) rfl fl_9_85 ?_
    refine w_istore_n (pc := 19) X dX9_facts_19 2 rfl (by decide) (lv' := [(2, .int (s1.1 o 0)), (0, .ref (ad o)), (1, .int a1)]) rfl ?_
    refine w_aload_n (pc := 20) X dX9_facts_20 1 rfl ?_
    refine w_iload_n (pc := 21) X dX9_facts_21 2 rfl ?_
    obtain ⟨s4, h5, h⟩ := bd1_inv h
    refine w_callV (pc := 22) X dX9_facts_22 (M9_begin h5) k_o (by decide) rfl cw_9_81 ⟨Nat.le_of_ble_eq_true rfl, Nat.le_of_ble_eq_true rfl⟩ rfl rfl (Nat.le_of_ble_eq_true rfl) ?_
    show wpm φ ad 25 [(2, .int (s1.1 o 0)), (0, .ref (ad o)), (1, .int a1)] [] s4
    refine w_iload_n (pc := 25) X dX9_facts_25 0 rfl ?_
    cases h
    exact w_iret X hQ dX9_facts_26
  · replace h := it_pos c6 h
    refine w_bipush (pc := 12) X dX9_facts_12 (v := (-2)) rfl ?_
    cases h
    exact w_iret X hQ dX9_facts_14
set_option maxRecDepth 20000 in
theorem M9_fact {o : Nat} {a1 : Int32} {a2 : Int32} {s : Sto} {r : Int32} {σ' : Sto} (h : f9_fact o a1 a2 s = some (r, σ')) : Ct yX9_fact cX9_fact 3 (some .int) 2 46 (fun ad => [.ref (ad o), .int a1, .int a2]) s (fun ad => some (.int r)) σ' := by
  unfold f9_fact at h
  obtain ⟨k_o, h⟩ := gd_inv h
  refine Ct_of (by decide) (fun ad => Nat.le_of_ble_eq_true rfl) (fun φ ad X hQ => ?_)
  show wpm φ ad 0 [(0, .ref (ad o)), (1, .int a1), (2, .int a2)] [] s
  replace X : Cx φ ad cX9_fact (some .int) RX9 3 2 46 := X
  refine w_aload_n (pc := 0) X dX9_fact_0 0 rfl ?_
  refine w_iload_n (pc := 1) X dX9_fact_1 1 rfl ?_
  obtain ⟨r3, s1, h2, h⟩ := bd2_inv h
  refine w_callV (pc := 2) X dX9_fact_2 (M9_isFact h2) k_o (by decide) rfl cw_9_109 ⟨Nat.le_of_ble_eq_true rfl, Nat.le_of_ble_eq_true rfl⟩ rfl rfl (Nat.le_of_ble_eq_true rfl) ?_
  show wpm φ ad 5 [(0, .ref (ad o)), (1, .int a1), (2, .int a2)] [.int r3] s1
  refine w_if_ne (pc := 5) (tgt := 10) X dX9_fact_5 (by decide) (fun c7 => ?_) (fun c7 => ?_)
  · replace h := it_neg c7 h
    refine w_aload_n (pc := 10) X dX9_fact_10 0 rfl ?_
    refine w_iload_n (pc := 11) X dX9_fact_11 2 rfl ?_
    refine w_if_eq (pc := 12) (tgt := 26) X dX9_fact_12 (by decide) (fun c6 => ?_) (fun c6 => ?_)
    · replace h := it_pos c6 h
      refine w_aload_n (pc := 26) X dX9_fact_26 0 rfl ?_
      refine w_getI (pc := 27) X dX9_fact_27 clO_9 k_o 1 (by decide) rfl fl_9_89 ?_
      refine w_iconst (pc := 30) X dX9_fact_30 (v := 1) rfl ?_
      refine w_iload_n (pc := 31) X dX9_fact_31 1 rfl ?_
      refine w_ishl (pc := 32) X dX9_fact_32 ?_
      refine w_iconst (pc := 33) X dX9_fact_33 (v := (-1)) rfl ?_
      refine w_ixor (pc := 34) X dX9_fact_34 ?_
      refine w_iand (pc := 35) X dX9_fact_35 ?_
      refine w_putI (pc := 36) X dX9_fact_36 clO_9 k_o 1 (by decide) rfl rfl (Or.inl rfl) fl_9_89 ?_
      obtain ⟨s4, e_s4, h⟩ := nm_inv h
      refine w_nm e_s4 ?_
      refine w_aload_n (pc := 39) X dX9_fact_39 0 rfl ?_
      refine w_getI (pc := 40) X dX9_fact_40 clO_9 k_o 1 (by decide) rfl fl_9_89 ?_
      cases h
      exact w_iret X hQ dX9_fact_43
    · replace h := it_neg c6 h
      refine w_aload_n (pc := 15) X dX9_fact_15 0 rfl ?_
      refine w_getI (pc := 16) X dX9_fact_16 clO_9 k_o 1 (by decide) rfl fl_9_89 ?_
      refine w_iconst (pc := 19) X dX9_fact_19 (v := 1) rfl ?_
      refine w_iload_n (pc := 20) X dX9_fact_20 1 rfl ?_
      refine w_ishl (pc := 21) X dX9_fact_21 ?_
      refine w_ior (pc := 22) X dX9_fact_22 ?_
      refine w_goto (tgt := 36) (pc := 23) X dX9_fact_23 (by decide) ?_
      refine w_putI (pc := 36) X dX9_fact_36 clO_9 k_o 1 (by decide) rfl rfl (Or.inl rfl) fl_9_89 ?_
      obtain ⟨s5, e_s5, h⟩ := nm_inv h
      refine w_nm e_s5 ?_
      refine w_aload_n (pc := 39) X dX9_fact_39 0 rfl ?_
      refine w_getI (pc := 40) X dX9_fact_40 clO_9 k_o 1 (by decide) rfl fl_9_89 ?_
      cases h
      exact w_iret X hQ dX9_fact_43
  · replace h := it_pos c7 h
    refine w_iconst (pc := 8) X dX9_fact_8 (v := (-1)) rfl ?_
    cases h
    exact w_iret X hQ dX9_fact_9
set_option maxRecDepth 20000 in
theorem M9_temper {o : Nat} {a1 : Int32} {a2 : Int32} {s : Sto} {r : Int32} {σ' : Sto} (h : f9_temper o a1 a2 s = some (r, σ')) : Ct yX9_temper cX9_temper 4 (some .int) 2 45 (fun ad => [.ref (ad o), .int a1, .int a2]) s (fun ad => some (.int r)) σ' := by
  unfold f9_temper at h
  obtain ⟨k_o, h⟩ := gd_inv h
  refine Ct_of (by decide) (fun ad => Nat.le_of_ble_eq_true rfl) (fun φ ad X hQ => ?_)
  show wpm φ ad 0 [(0, .ref (ad o)), (1, .int a1), (2, .int a2)] [] s
  replace X : Cx φ ad cX9_temper (some .int) RX9 4 2 45 := X
  refine w_iload_n (pc := 0) X dX9_temper_0 1 rfl ?_
  obtain ⟨r3, s1, h2, h⟩ := bd2_inv h
  refine w_callS (pc := 1) X dX9_temper_1 (M9_isGuest h2) rfl cw_9_113 ⟨Nat.le_of_ble_eq_true rfl, Nat.le_of_ble_eq_true rfl⟩ rfl rfl (Nat.le_of_ble_eq_true rfl) ?_
  show wpm φ ad 4 [(0, .ref (ad o)), (1, .int a1), (2, .int a2)] [.int r3] s1
  refine w_if_ne (pc := 4) (tgt := 9) X dX9_temper_4 (by decide) (fun c12 => ?_) (fun c12 => ?_)
  · replace h := it_neg c12 h
    refine w_iload_n (pc := 9) X dX9_temper_9 2 rfl ?_
    refine w_i2l (pc := 10) X dX9_temper_10 ?_
    refine w_lconst (pc := 11) X dX9_temper_11 (v := 0) rfl ?_
    refine w_ldc2 (pc := 12) X dX9_temper_12 (v := (2)) cn_9_116 ?_
    obtain ⟨r6, s4, h5, h⟩ := bd2_inv h
    refine w_callS (pc := 15) X dX9_temper_15 (M9_in h5) rfl cw_9_101 ⟨Nat.le_of_ble_eq_true rfl, Nat.le_of_ble_eq_true rfl⟩ rfl rfl (Nat.le_of_ble_eq_true rfl) ?_
    show wpm φ ad 18 [(0, .ref (ad o)), (1, .int a1), (2, .int a2)] [.int r6] s4
    refine w_if_ne (pc := 18) (tgt := 24) X dX9_temper_18 (by decide) (fun c11 => ?_) (fun c11 => ?_)
    · replace h := it_neg c11 h
      refine w_aload_n (pc := 24) X dX9_temper_24 0 rfl ?_
      refine w_getR (pc := 25) X dX9_temper_25 clO_9 k_o 2 (by decide) (d := 1) rfl fl_9_7 ?_
      refine w_iload_n (pc := 28) X dX9_temper_28 1 rfl ?_
      obtain ⟨g7, h⟩ := gd_inv h
      refine w_iald (pc := 29) X dX9_temper_29 (kp_9_1 k_o) g7 ?_
      obtain ⟨x8, e_x8, h⟩ := nm_inv h
      refine w_nmi e_x8 ?_
      refine w_istore_n (pc := 30) X dX9_temper_30 3 rfl (by decide) (lv' := [(3, .int x8), (0, .ref (ad o)), (1, .int a1), (2, .int a2)]) rfl ?_
      refine w_aload_n (pc := 31) X dX9_temper_31 1 rfl ?_
      refine w_getR (pc := 32) X dX9_temper_32 clO_9 k_o 2 (by decide) (d := 1) rfl fl_9_7 ?_
      refine w_iload_n (pc := 35) X dX9_temper_35 2 rfl ?_
      refine w_iload_n (pc := 36) X dX9_temper_36 3 rfl ?_
      obtain ⟨g9, h⟩ := gd_inv h
      refine w_iast (pc := 37) X dX9_temper_37 (kp_9_1 k_o) g9 ?_
      obtain ⟨s10, e_s10, h⟩ := nm_inv h
      refine w_nm e_s10 ?_
      refine w_iload_n (pc := 38) X dX9_temper_38 0 rfl ?_
      cases h
      exact w_iret X hQ dX9_temper_39
    · replace h := it_pos c11 h
      refine w_bipush (pc := 21) X dX9_temper_21 (v := (-2)) rfl ?_
      cases h
      exact w_iret X hQ dX9_temper_23
  · replace h := it_pos c12 h
    refine w_iconst (pc := 7) X dX9_temper_7 (v := (-1)) rfl ?_
    cases h
    exact w_iret X hQ dX9_temper_8
set_option maxRecDepth 20000 in
theorem M9_width {o : Nat} {a1 : Int32} {s : Sto} {r : Int32} {σ' : Sto} (h : f9_width o a1 s = some (r, σ')) : Ct yX9_width cX9_width 3 (some .int) 1 25 (fun ad => [.ref (ad o), .int a1]) s (fun ad => some (.int r)) σ' := by
  unfold f9_width at h
  obtain ⟨k_o, h⟩ := gd_inv h
  refine Ct_of (by decide) (fun ad => Nat.le_of_ble_eq_true rfl) (fun φ ad X hQ => ?_)
  show wpm φ ad 0 [(0, .ref (ad o)), (1, .int a1)] [] s
  replace X : Cx φ ad cX9_width (some .int) RX9 3 1 25 := X
  refine w_iload_n (pc := 0) X dX9_width_0 1 rfl ?_
  refine w_i2l (pc := 1) X dX9_width_1 ?_
  refine w_lconst (pc := 2) X dX9_width_2 (v := 0) rfl ?_
  refine w_ldc2 (pc := 3) X dX9_width_3 (v := (40)) cn_9_118 ?_
  obtain ⟨r3, s1, h2, h⟩ := bd2_inv h
  refine w_callS (pc := 6) X dX9_width_6 (M9_in h2) rfl cw_9_101 ⟨Nat.le_of_ble_eq_true rfl, Nat.le_of_ble_eq_true rfl⟩ rfl rfl (Nat.le_of_ble_eq_true rfl) ?_
  show wpm φ ad 9 [(0, .ref (ad o)), (1, .int a1)] [.int r3] s1
  refine w_if_ne (pc := 9) (tgt := 15) X dX9_width_9 (by decide) (fun c5 => ?_) (fun c5 => ?_)
  · replace h := it_neg c5 h
    refine w_aload_n (pc := 15) X dX9_width_15 0 rfl ?_
    refine w_getI (pc := 16) X dX9_width_16 clO_9 k_o 4 (by decide) rfl fl_9_95 ?_
    refine w_istore_n (pc := 19) X dX9_width_19 2 rfl (by decide) (lv' := [(2, .int (s1.1 o 4)), (0, .ref (ad o)), (1, .int a1)]) rfl ?_
    refine w_aload_n (pc := 20) X dX9_width_20 1 rfl ?_
    refine w_iload_n (pc := 21) X dX9_width_21 2 rfl ?_
    refine w_putI (pc := 22) X dX9_width_22 clO_9 k_o 4 (by decide) rfl rfl (Or.inl rfl) fl_9_95 ?_
    obtain ⟨s4, e_s4, h⟩ := nm_inv h
    refine w_nm e_s4 ?_
    refine w_iload_n (pc := 25) X dX9_width_25 0 rfl ?_
    cases h
    exact w_iret X hQ dX9_width_26
  · replace h := it_pos c5 h
    refine w_bipush (pc := 12) X dX9_width_12 (v := (-2)) rfl ?_
    cases h
    exact w_iret X hQ dX9_width_14
set_option maxRecDepth 20000 in
theorem M9_say {o : Nat} {a1 : Int32} {s : Sto} {r : Int32} {σ' : Sto} (h : f9_say o a1 s = some (r, σ')) : Ct yX9_say cX9_say 2 (some .int) 1 25 (fun ad => [.ref (ad o), .int a1]) s (fun ad => some (.int r)) σ' := by
  unfold f9_say at h
  obtain ⟨k_o, h⟩ := gd_inv h
  refine Ct_of (by decide) (fun ad => Nat.le_of_ble_eq_true rfl) (fun φ ad X hQ => ?_)
  show wpm φ ad 0 [(0, .ref (ad o)), (1, .int a1)] [] s
  replace X : Cx φ ad cX9_say (some .int) RX9 2 1 25 := X
  refine w_iload_n (pc := 0) X dX9_say_0 1 rfl ?_
  refine w_i2l (pc := 1) X dX9_say_1 ?_
  refine w_ldc2 (pc := 2) X dX9_say_2 (v := (33)) cn_9_120 ?_
  refine w_ldc2 (pc := 5) X dX9_say_5 (v := (126)) cn_9_122 ?_
  obtain ⟨r3, s1, h2, h⟩ := bd2_inv h
  refine w_callS (pc := 8) X dX9_say_8 (M9_in h2) rfl cw_9_101 ⟨Nat.le_of_ble_eq_true rfl, Nat.le_of_ble_eq_true rfl⟩ rfl rfl (Nat.le_of_ble_eq_true rfl) ?_
  show wpm φ ad 11 [(0, .ref (ad o)), (1, .int a1)] [.int r3] s1
  refine w_if_ne (pc := 11) (tgt := 17) X dX9_say_11 (by decide) (fun c8 => ?_) (fun c8 => ?_)
  · replace h := it_neg c8 h
    refine w_aload_n (pc := 17) X dX9_say_17 0 rfl ?_
    refine w_getI (pc := 18) X dX9_say_18 clO_9 k_o 12 (by decide) rfl fl_9_124 ?_
    refine w_bipush (pc := 21) X dX9_say_21 (v := (60)) rfl ?_
    refine w_icmp_ne (pc := 23) (tgt := 29) X dX9_say_23 (by decide) (fun c7 => ?_) (fun c7 => ?_)
    · replace h := it_neg c7 h
      refine w_aload_n (pc := 29) X dX9_say_29 0 rfl ?_
      refine w_getR (pc := 30) X dX9_say_30 clO_9 k_o 11 (by decide) (d := 7) rfl fl_9_28 ?_
      refine w_aload_n (pc := 33) X dX9_say_33 0 rfl ?_
      refine w_getI (pc := 34) X dX9_say_34 clO_9 k_o 12 (by decide) rfl fl_9_124 ?_
      refine w_iload_n (pc := 37) X dX9_say_37 1 rfl ?_
      obtain ⟨g4, h⟩ := gd_inv h
      refine w_iast (pc := 38) X dX9_say_38 (kp_9_7 k_o) g4 ?_
      obtain ⟨s5, e_s5, h⟩ := nm_inv h
      refine w_nm e_s5 ?_
      refine w_aload_n (pc := 39) X dX9_say_39 0 rfl ?_
      refine w_dup (pc := 40) X dX9_say_40 rfl ?_
      refine w_getI (pc := 41) X dX9_say_41 clO_9 k_o 12 (by decide) rfl fl_9_124 ?_
      refine w_iconst (pc := 44) X dX9_say_44 (v := 1) rfl ?_
      refine w_iadd (pc := 45) X dX9_say_45 ?_
      refine w_putI (pc := 46) X dX9_say_46 clO_9 k_o 12 (by decide) rfl rfl (Or.inl rfl) fl_9_124 ?_
      obtain ⟨s6, e_s6, h⟩ := nm_inv h
      refine w_nm e_s6 ?_
      refine w_aload_n (pc := 49) X dX9_say_49 0 rfl ?_
      refine w_getI (pc := 50) X dX9_say_50 clO_9 k_o 12 (by decide) rfl fl_9_124 ?_
      cases h
      exact w_iret X hQ dX9_say_53
    · replace h := it_pos c7 h
      refine w_bipush (pc := 26) X dX9_say_26 (v := (-4)) rfl ?_
      cases h
      exact w_iret X hQ dX9_say_28
  · replace h := it_pos c8 h
    refine w_bipush (pc := 14) X dX9_say_14 (v := (-2)) rfl ?_
    cases h
    exact w_iret X hQ dX9_say_16
set_option maxRecDepth 20000 in
theorem M9_wipe {o : Nat} {s : Sto} {r : Int32} {σ' : Sto} (h : f9_wipe o s = some (r, σ')) : Ct yX9_wipe cX9_wipe 2 (some .int) 0 0 (fun ad => [.ref (ad o)]) s (fun ad => some (.int r)) σ' := by
  unfold f9_wipe at h
  obtain ⟨k_o, h⟩ := gd_inv h
  refine Ct_of (by decide) (fun ad => Nat.le_of_ble_eq_true rfl) (fun φ ad X hQ => ?_)
  show wpm φ ad 0 [(0, .ref (ad o))] [] s
  replace X : Cx φ ad cX9_wipe (some .int) RX9 2 0 0 := X
  refine w_aload_n (pc := 0) X dX9_wipe_0 0 rfl ?_
  refine w_getI (pc := 1) X dX9_wipe_1 clO_9 k_o 12 (by decide) rfl fl_9_124 ?_
  refine w_istore_n (pc := 4) X dX9_wipe_4 1 rfl (by decide) (lv' := [(1, .int (s.1 o 12)), (0, .ref (ad o))]) rfl ?_
  refine w_aload_n (pc := 5) X dX9_wipe_5 1 rfl ?_
  refine w_iconst (pc := 6) X dX9_wipe_6 (v := 0) rfl ?_
  refine w_putI (pc := 7) X dX9_wipe_7 clO_9 k_o 12 (by decide) rfl rfl (Or.inl rfl) fl_9_124 ?_
  obtain ⟨s1, e_s1, h⟩ := nm_inv h
  refine w_nm e_s1 ?_
  refine w_iload_n (pc := 10) X dX9_wipe_10 0 rfl ?_
  cases h
  exact w_iret X hQ dX9_wipe_11
set_option maxRecDepth 20000 in
theorem M9_shortRemark {a0 : Int32} {s : Sto} {r : Int32} {σ' : Sto} (h : f9_shortRemark a0 s = some (r, σ')) : Ct yX9_shortRemark cX9_shortRemark 1 (some .int) 0 0 (fun ad => [.int a0]) s (fun ad => some (.int r)) σ' := by
  unfold f9_shortRemark at h
  refine Ct_of (by decide) (fun ad => Nat.le_of_ble_eq_true rfl) (fun φ ad X hQ => ?_)
  show wpm φ ad 0 [(0, .int a0)] [] s
  replace X : Cx φ ad cX9_shortRemark (some .int) RX9 1 0 0 := X
  refine w_iload_n (pc := 0) X dX9_shortRemark_0 0 rfl ?_
  refine w_bipush (pc := 1) X dX9_shortRemark_1 (v := (46)) rfl ?_
  refine w_icmp_ne (pc := 3) (tgt := 10) X dX9_shortRemark_3 (by decide) (fun c3 => ?_) (fun c3 => ?_)
  · replace h := it_neg c3 h
    refine w_iload_n (pc := 10) X dX9_shortRemark_10 0 rfl ?_
    refine w_bipush (pc := 11) X dX9_shortRemark_11 (v := (63)) rfl ?_
    refine w_icmp_ne (pc := 13) (tgt := 20) X dX9_shortRemark_13 (by decide) (fun c2 => ?_) (fun c2 => ?_)
    · replace h := it_neg c2 h
      refine w_iload_n (pc := 20) X dX9_shortRemark_20 0 rfl ?_
      refine w_bipush (pc := 21) X dX9_shortRemark_21 (v := (33)) rfl ?_
      refine w_icmp_ne (pc := 23) (tgt := 30) X dX9_shortRemark_23 (by decide) (fun c1 => ?_) (fun c1 => ?_)
      · replace h := it_neg c1 h
        refine w_bipush (pc := 30) X dX9_shortRemark_30 (v := (-6)) rfl ?_
        cases h
        exact w_iret X hQ dX9_shortRemark_32
      · replace h := it_pos c1 h
        refine w_iconst (pc := 26) X dX9_shortRemark_26 (v := 3) rfl ?_
        refine w_goto (tgt := 32) (pc := 27) X dX9_shortRemark_27 (by decide) ?_
        cases h
        exact w_iret X hQ dX9_shortRemark_32
    · replace h := it_pos c2 h
      refine w_iconst (pc := 16) X dX9_shortRemark_16 (v := 2) rfl ?_
      refine w_goto (tgt := 32) (pc := 17) X dX9_shortRemark_17 (by decide) ?_
      cases h
      exact w_iret X hQ dX9_shortRemark_32
  · replace h := it_pos c3 h
    refine w_iconst (pc := 6) X dX9_shortRemark_6 (v := 1) rfl ?_
    refine w_goto (tgt := 32) (pc := 7) X dX9_shortRemark_7 (by decide) ?_
    cases h
    exact w_iret X hQ dX9_shortRemark_32
set_option maxRecDepth 20000 in
theorem WL9_faultOfEvening_9 {φ : Fr} {ad : Nat → Nat} (X : Cx φ ad cX9_faultOfEvening (some .int) RX9 6 2 46) (o : Nat) (k_o : kd o = 9) {r : Int32} {σ' : Sto} (hQ : Fini φ ad (some (.int r)) σ') : ∀ (fuel : Nat) (v1 : Int32) (v2 : Int32) (s : Sto), L9_faultOfEvening_9 o fuel v1 v2 s = some (r, σ') → wpm φ ad 9 [(0, .ref (ad o)), (1, .int v1), (2, .int v2)] [] s := by
  intro fuel
  induction fuel with
  | zero => intro v1 v2 s h; cases h
  | succ fuel ih =>
    intro v1 v2 s h
    unfold L9_faultOfEvening_9 at h
    refine w_iload_n (pc := 9) X dX9_faultOfEvening_9 2 rfl ?_
    refine w_aload_n (pc := 10) X dX9_faultOfEvening_10 0 rfl ?_
    refine w_getI (pc := 11) X dX9_faultOfEvening_11 clO_9 k_o 12 (by decide) rfl fl_9_124 ?_
    refine w_icmp_ge (pc := 14) (tgt := 249) X dX9_faultOfEvening_14 (by decide) (fun c57 => ?_) (fun c57 => ?_)
    · replace h := it_pos c57 h
      refine w_iload_n (pc := 249) X dX9_faultOfEvening_249 1 rfl ?_
      refine w_if_ne (pc := 250) (tgt := 258) X dX9_faultOfEvening_250 (by decide) (fun c2 => ?_) (fun c2 => ?_)
      · replace h := it_neg c2 h
        refine w_aload_n (pc := 258) X dX9_faultOfEvening_258 0 rfl ?_
        refine w_getI (pc := 259) X dX9_faultOfEvening_259 clO_9 k_o 12 (by decide) rfl fl_9_124 ?_
        cases h
        exact w_iret X hQ dX9_faultOfEvening_262
      · replace h := it_pos c2 h
        refine w_bipush (pc := 253) X dX9_faultOfEvening_253 (v := (-6)) rfl ?_
        refine w_goto (tgt := 262) (pc := 255) X dX9_faultOfEvening_255 (by decide) ?_
        cases h
        exact w_iret X hQ dX9_faultOfEvening_262
    · replace h := it_neg c57 h
      refine w_aload_n (pc := 17) X dX9_faultOfEvening_17 0 rfl ?_
      refine w_getR (pc := 18) X dX9_faultOfEvening_18 clO_9 k_o 11 (by decide) (d := 7) rfl fl_9_28 ?_
      refine w_iload_n (pc := 21) X dX9_faultOfEvening_21 2 rfl ?_
      obtain ⟨g3, h⟩ := gd_inv h
      refine w_iald (pc := 22) X dX9_faultOfEvening_22 (kp_9_7 k_o) g3 ?_
      refine w_istore_n (pc := 23) X dX9_faultOfEvening_23 3 rfl (by decide) (lv' := [(3, .int (s.1 (o + 7) v2.toNatClampNeg)), (0, .ref (ad o)), (1, .int v1), (2, .int v2)]) rfl ?_
      refine w_iload_n (pc := 24) X dX9_faultOfEvening_24 2 rfl ?_
      obtain ⟨x9, s10, h56, h⟩ := bd2_inv h
      have K25 : wpm φ ad 40 [(0, .ref (ad o)), (1, .int v1), (2, .int v2), (3, .int (s.1 (o + 7) v2.toNatClampNeg))] [.int x9] s10 := by
        refine w_istore (pc := 40) X dX9_faultOfEvening_40 (by decide) (lv' := [(4, .int x9), (0, .ref (ad o)), (1, .int v1), (2, .int v2), (3, .int (s.1 (o + 7) v2.toNatClampNeg))]) rfl ?_
        refine w_iload (pc := 42) X dX9_faultOfEvening_42 0 rfl ?_
        obtain ⟨x24, s25, h55, h⟩ := bd2_inv h
        have K44 : wpm φ ad 100 [(0, .ref (ad o)), (1, .int v1), (2, .int v2), (3, .int (s.1 (o + 7) v2.toNatClampNeg)), (4, .int x9)] [.int x24] s25 := by
          refine w_istore (pc := 100) X dX9_faultOfEvening_100 (by decide) (lv' := [(5, .int x24), (0, .ref (ad o)), (1, .int v1), (2, .int v2), (3, .int (s.1 (o + 7) v2.toNatClampNeg)), (4, .int x9)]) rfl ?_
          refine w_iload (pc := 102) X dX9_faultOfEvening_102 0 rfl ?_
          refine w_if_ne (pc := 104) (tgt := 109) X dX9_faultOfEvening_104 (by decide) (fun c54 => ?_) (fun c54 => ?_)
          · replace h := it_neg c54 h
            refine w_iload (pc := 109) X dX9_faultOfEvening_109 5 rfl ?_
            obtain ⟨s45, h53, h⟩ := bd1_inv h
            have K111 : wpm φ ad 201 [(0, .ref (ad o)), (1, .int v1), (2, .int v2), (4, .int x9)] [] s45 := by
              refine w_aload_n (pc := 201) X dX9_faultOfEvening_201 0 rfl ?_
              refine w_dup (pc := 202) X dX9_faultOfEvening_202 rfl ?_
              refine w_getI (pc := 203) X dX9_faultOfEvening_203 clO_9 k_o 17 (by decide) rfl fl_9_127 ?_
              refine w_iload (pc := 206) X dX9_faultOfEvening_206 3 rfl ?_
              obtain ⟨x48, h52, h⟩ := bd1_inv h
              have K208 : wpm φ ad 221 [(0, .ref (ad o)), (1, .int v1), (2, .int v2), (4, .int x9)] [.int x48, .int (s45.1 o 17), .ref (ad o)] s45 := by
                refine w_iadd (pc := 221) X dX9_faultOfEvening_221 ?_
                refine w_putI (pc := 222) X dX9_faultOfEvening_222 clO_9 k_o 17 (by decide) rfl rfl (Or.inl rfl) fl_9_127 ?_
                obtain ⟨s49, e_s49, h⟩ := nm_inv h
                refine w_nm e_s49 ?_
                refine w_iload (pc := 225) X dX9_faultOfEvening_225 3 rfl ?_
                refine w_if_ne (pc := 227) (tgt := 235) X dX9_faultOfEvening_227 (by decide) (fun c51 => ?_) (fun c51 => ?_)
                · replace h := it_neg c51 h
                  refine w_iconst (pc := 235) X dX9_faultOfEvening_235 (v := 0) rfl ?_
                  refine w_goto (tgt := 242) (pc := 236) X dX9_faultOfEvening_236 (by decide) ?_
                  refine w_istore_n (pc := 242) X dX9_faultOfEvening_242 1 rfl (by decide) (lv' := [(1, .int (0 : Int32)), (0, .ref (ad o)), (2, .int v2), (4, .int x9)]) rfl ?_
                  refine w_iinc (pc := 243) X dX9_faultOfEvening_243 2 rfl (v := (v2 + 1)) rfl (by decide) (lv' := [(2, .int (v2 + 1)), (1, .int (0 : Int32)), (0, .ref (ad o)), (4, .int x9)]) rfl ?_
                  refine w_goto (tgt := 9) (pc := 246) X dX9_faultOfEvening_246 (by decide) ?_
                  exact w_sub (pc := 9) [2, 1, 0] rfl (ih _ _ _ h)
                · replace h := it_pos c51 h
                  refine w_iload_n (pc := 230) X dX9_faultOfEvening_230 1 rfl ?_
                  refine w_iconst (pc := 231) X dX9_faultOfEvening_231 (v := 2) rfl ?_
                  refine w_icmp_ne (pc := 232) (tgt := 239) X dX9_faultOfEvening_232 (by decide) (fun c50 => ?_) (fun c50 => ?_)
                  · replace h := it_neg c50 h
                    refine w_iload_n (pc := 239) X dX9_faultOfEvening_239 1 rfl ?_
                    refine w_iconst (pc := 240) X dX9_faultOfEvening_240 (v := 1) rfl ?_
                    refine w_iadd (pc := 241) X dX9_faultOfEvening_241 ?_
                    refine w_istore_n (pc := 242) X dX9_faultOfEvening_242 1 rfl (by decide) (lv' := [(1, .int (v1 + (1 : Int32))), (0, .ref (ad o)), (2, .int v2), (4, .int x9)]) rfl ?_
                    refine w_iinc (pc := 243) X dX9_faultOfEvening_243 2 rfl (v := (v2 + 1)) rfl (by decide) (lv' := [(2, .int (v2 + 1)), (1, .int (v1 + (1 : Int32))), (0, .ref (ad o)), (4, .int x9)]) rfl ?_
                    refine w_goto (tgt := 9) (pc := 246) X dX9_faultOfEvening_246 (by decide) ?_
                    exact w_sub (pc := 9) [2, 1, 0] rfl (ih _ _ _ h)
                  · replace h := it_pos c50 h
                    refine w_iconst (pc := 235) X dX9_faultOfEvening_235 (v := 0) rfl ?_
                    refine w_goto (tgt := 242) (pc := 236) X dX9_faultOfEvening_236 (by decide) ?_
                    refine w_istore_n (pc := 242) X dX9_faultOfEvening_242 1 rfl (by decide) (lv' := [(1, .int (0 : Int32)), (0, .ref (ad o)), (2, .int v2), (4, .int x9)]) rfl ?_
                    refine w_iinc (pc := 243) X dX9_faultOfEvening_243 2 rfl (v := (v2 + 1)) rfl (by decide) (lv' := [(2, .int (v2 + 1)), (1, .int (0 : Int32)), (0, .ref (ad o)), (4, .int x9)]) rfl ?_
                    refine w_goto (tgt := 9) (pc := 246) X dX9_faultOfEvening_246 (by decide) ?_
                    exact w_sub (pc := 9) [2, 1, 0] rfl (ih _ _ _ h)
              clear h
              have h := h52
              clear h52
              refine w_if_ne (pc := 208) (tgt := 216) X dX9_faultOfEvening_208 (by decide) (fun c47 => ?_) (fun c47 => ?_)
              · replace h := it_neg c47 h
                refine w_iconst (pc := 216) X dX9_faultOfEvening_216 (v := 1) rfl ?_
                refine w_goto (tgt := 221) (pc := 217) X dX9_faultOfEvening_217 (by decide) ?_
                cases h
                exact w_sub (pc := 221) [0, 1, 2, 3] rfl K208
              · replace h := it_pos c47 h
                refine w_iload_n (pc := 211) X dX9_faultOfEvening_211 1 rfl ?_
                refine w_iconst (pc := 212) X dX9_faultOfEvening_212 (v := 2) rfl ?_
                refine w_icmp_ne (pc := 213) (tgt := 220) X dX9_faultOfEvening_213 (by decide) (fun c46 => ?_) (fun c46 => ?_)
                · replace h := it_neg c46 h
                  refine w_iconst (pc := 220) X dX9_faultOfEvening_220 (v := 0) rfl ?_
                  cases h
                  exact w_sub (pc := 221) [0, 1, 2, 3] rfl K208
                · replace h := it_pos c46 h
                  refine w_iconst (pc := 216) X dX9_faultOfEvening_216 (v := 1) rfl ?_
                  refine w_goto (tgt := 221) (pc := 217) X dX9_faultOfEvening_217 (by decide) ?_
                  cases h
                  exact w_sub (pc := 221) [0, 1, 2, 3] rfl K208
            clear h
            have h := h53
            clear h53
            refine w_if_eq (pc := 111) (tgt := 130) X dX9_faultOfEvening_111 (by decide) (fun c44 => ?_) (fun c44 => ?_)
            · replace h := it_pos c44 h
              refine w_iload_n (pc := 130) X dX9_faultOfEvening_130 2 rfl ?_
              refine w_if_ne (pc := 131) (tgt := 150) X dX9_faultOfEvening_131 (by decide) (fun c38 => ?_) (fun c38 => ?_)
              · replace h := it_neg c38 h
                refine w_iload_n (pc := 150) X dX9_faultOfEvening_150 2 rfl ?_
                refine w_iconst (pc := 151) X dX9_faultOfEvening_151 (v := 1) rfl ?_
                refine w_icmp_ne (pc := 152) (tgt := 171) X dX9_faultOfEvening_152 (by decide) (fun c35 => ?_) (fun c35 => ?_)
                · replace h := it_neg c35 h
                  refine w_aload_n (pc := 171) X dX9_faultOfEvening_171 1 rfl ?_
                  refine w_getR (pc := 172) X dX9_faultOfEvening_172 clO_9 k_o 13 (by decide) (d := 8) rfl fl_9_31 ?_
                  refine w_aload_n (pc := 175) X dX9_faultOfEvening_175 1 rfl ?_
                  refine w_getI (pc := 176) X dX9_faultOfEvening_176 clO_9 k_o 17 (by decide) rfl fl_9_127 ?_
                  refine w_iconst (pc := 179) X dX9_faultOfEvening_179 (v := 0) rfl ?_
                  obtain ⟨g26, h⟩ := gd_inv h
                  refine w_iast (pc := 180) X dX9_faultOfEvening_180 (kp_9_8 k_o) g26 ?_
                  obtain ⟨s27, e_s27, h⟩ := nm_inv h
                  refine w_nm e_s27 ?_
                  refine w_aload_n (pc := 181) X dX9_faultOfEvening_181 1 rfl ?_
                  refine w_getR (pc := 182) X dX9_faultOfEvening_182 clO_9 k_o 16 (by decide) (d := 11) rfl fl_9_40 ?_
                  refine w_aload_n (pc := 185) X dX9_faultOfEvening_185 1 rfl ?_
                  refine w_getI (pc := 186) X dX9_faultOfEvening_186 clO_9 k_o 17 (by decide) rfl fl_9_127 ?_
                  refine w_iload_n (pc := 189) X dX9_faultOfEvening_189 4 rfl ?_
                  refine w_bipush (pc := 190) X dX9_faultOfEvening_190 (v := (43)) rfl ?_
                  refine w_icmp_ne (pc := 192) (tgt := 199) X dX9_faultOfEvening_192 (by decide) (fun c32 => ?_) (fun c32 => ?_)
                  · replace h := it_neg c32 h
                    refine w_iconst (pc := 199) X dX9_faultOfEvening_199 (v := 0) rfl ?_
                    obtain ⟨g28, h⟩ := gd_inv h
                    refine w_iast (pc := 200) X dX9_faultOfEvening_200 (kp_9_11 k_o) g28 ?_
                    obtain ⟨s29, e_s29, h⟩ := nm_inv h
                    refine w_nm e_s29 ?_
                    cases h
                    exact w_sub (pc := 201) [1, 2, 3, 5] rfl K111
                  · replace h := it_pos c32 h
                    refine w_iconst (pc := 195) X dX9_faultOfEvening_195 (v := 1) rfl ?_
                    refine w_goto (tgt := 200) (pc := 196) X dX9_faultOfEvening_196 (by decide) ?_
                    obtain ⟨g30, h⟩ := gd_inv h
                    refine w_iast (pc := 200) X dX9_faultOfEvening_200 (kp_9_11 k_o) g30 ?_
                    obtain ⟨s31, e_s31, h⟩ := nm_inv h
                    refine w_nm e_s31 ?_
                    cases h
                    exact w_sub (pc := 201) [1, 2, 3, 5] rfl K111
                · replace h := it_pos c35 h
                  refine w_aload_n (pc := 155) X dX9_faultOfEvening_155 1 rfl ?_
                  refine w_getR (pc := 156) X dX9_faultOfEvening_156 clO_9 k_o 15 (by decide) (d := 10) rfl fl_9_37 ?_
                  refine w_aload_n (pc := 159) X dX9_faultOfEvening_159 1 rfl ?_
                  refine w_getI (pc := 160) X dX9_faultOfEvening_160 clO_9 k_o 17 (by decide) rfl fl_9_127 ?_
                  refine w_iload_n (pc := 163) X dX9_faultOfEvening_163 4 rfl ?_
                  refine w_bipush (pc := 164) X dX9_faultOfEvening_164 (v := (97)) rfl ?_
                  refine w_isub (pc := 166) X dX9_faultOfEvening_166 ?_
                  obtain ⟨g33, h⟩ := gd_inv h
                  refine w_iast (pc := 167) X dX9_faultOfEvening_167 (kp_9_10 k_o) g33 ?_
                  obtain ⟨s34, e_s34, h⟩ := nm_inv h
                  refine w_nm e_s34 ?_
                  refine w_goto (tgt := 201) (pc := 168) X dX9_faultOfEvening_168 (by decide) ?_
                  cases h
                  exact w_sub (pc := 201) [1, 2, 3, 5] rfl K111
              · replace h := it_pos c38 h
                refine w_aload_n (pc := 134) X dX9_faultOfEvening_134 1 rfl ?_
                refine w_getR (pc := 135) X dX9_faultOfEvening_135 clO_9 k_o 14 (by decide) (d := 9) rfl fl_9_34 ?_
                refine w_aload_n (pc := 138) X dX9_faultOfEvening_138 1 rfl ?_
                refine w_getI (pc := 139) X dX9_faultOfEvening_139 clO_9 k_o 17 (by decide) rfl fl_9_127 ?_
                refine w_iload_n (pc := 142) X dX9_faultOfEvening_142 4 rfl ?_
                refine w_bipush (pc := 143) X dX9_faultOfEvening_143 (v := (65)) rfl ?_
                refine w_isub (pc := 145) X dX9_faultOfEvening_145 ?_
                obtain ⟨g36, h⟩ := gd_inv h
                refine w_iast (pc := 146) X dX9_faultOfEvening_146 (kp_9_9 k_o) g36 ?_
                obtain ⟨s37, e_s37, h⟩ := nm_inv h
                refine w_nm e_s37 ?_
                refine w_goto (tgt := 201) (pc := 147) X dX9_faultOfEvening_147 (by decide) ?_
                cases h
                exact w_sub (pc := 201) [1, 2, 3, 5] rfl K111
            · replace h := it_neg c44 h
              refine w_aload_n (pc := 114) X dX9_faultOfEvening_114 1 rfl ?_
              refine w_getR (pc := 115) X dX9_faultOfEvening_115 clO_9 k_o 13 (by decide) (d := 8) rfl fl_9_31 ?_
              refine w_aload_n (pc := 118) X dX9_faultOfEvening_118 1 rfl ?_
              refine w_getI (pc := 119) X dX9_faultOfEvening_119 clO_9 k_o 17 (by decide) rfl fl_9_127 ?_
              refine w_iload_n (pc := 122) X dX9_faultOfEvening_122 4 rfl ?_
              obtain ⟨r41, s39, h40, h⟩ := bd2_inv h
              refine w_callS (pc := 123) X dX9_faultOfEvening_123 (M9_shortRemark h40) rfl cw_9_130 ⟨Nat.le_of_ble_eq_true rfl, Nat.le_of_ble_eq_true rfl⟩ rfl rfl (Nat.le_of_ble_eq_true rfl) ?_
              show wpm φ ad 126 [(5, .int x24), (0, .ref (ad o)), (1, .int v1), (2, .int v2), (3, .int (s.1 (o + 7) v2.toNatClampNeg)), (4, .int x9)] [.int r41, .int (s25.1 o 17), .ref (ad (o + 8))] s39
              obtain ⟨g42, h⟩ := gd_inv h
              refine w_iast (pc := 126) X dX9_faultOfEvening_126 (kp_9_8 k_o) g42 ?_
              obtain ⟨s43, e_s43, h⟩ := nm_inv h
              refine w_nm e_s43 ?_
              refine w_goto (tgt := 201) (pc := 127) X dX9_faultOfEvening_127 (by decide) ?_
              cases h
              exact w_sub (pc := 201) [1, 2, 3, 5] rfl K111
          · replace h := it_pos c54 h
            refine w_iload_n (pc := 107) X dX9_faultOfEvening_107 3 rfl ?_
            cases h
            exact w_iret X hQ dX9_faultOfEvening_108
        clear h
        have h := h55
        clear h55
        refine w_if_ne (pc := 44) (tgt := 95) X dX9_faultOfEvening_44 (by decide) (fun c23 => ?_) (fun c23 => ?_)
        · replace h := it_neg c23 h
          refine w_iconst (pc := 95) X dX9_faultOfEvening_95 (v := 1) rfl ?_
          refine w_goto (tgt := 100) (pc := 96) X dX9_faultOfEvening_96 (by decide) ?_
          cases h
          exact w_sub (pc := 100) [1, 2, 3, 4, 0] rfl K44
        · replace h := it_pos c23 h
          refine w_iload_n (pc := 47) X dX9_faultOfEvening_47 2 rfl ?_
          refine w_if_ne (pc := 48) (tgt := 64) X dX9_faultOfEvening_48 (by decide) (fun c22 => ?_) (fun c22 => ?_)
          · replace h := it_neg c22 h
            refine w_iload_n (pc := 64) X dX9_faultOfEvening_64 2 rfl ?_
            refine w_iconst (pc := 65) X dX9_faultOfEvening_65 (v := 1) rfl ?_
            refine w_icmp_ne (pc := 66) (tgt := 83) X dX9_faultOfEvening_66 (by decide) (fun c17 => ?_) (fun c17 => ?_)
            · replace h := it_neg c17 h
              refine w_iload_n (pc := 83) X dX9_faultOfEvening_83 4 rfl ?_
              refine w_bipush (pc := 84) X dX9_faultOfEvening_84 (v := (43)) rfl ?_
              refine w_icmp_eq (pc := 86) (tgt := 95) X dX9_faultOfEvening_86 (by decide) (fun c12 => ?_) (fun c12 => ?_)
              · replace h := it_pos c12 h
                refine w_iconst (pc := 95) X dX9_faultOfEvening_95 (v := 1) rfl ?_
                refine w_goto (tgt := 100) (pc := 96) X dX9_faultOfEvening_96 (by decide) ?_
                cases h
                exact w_sub (pc := 100) [1, 2, 3, 4, 0] rfl K44
              · replace h := it_neg c12 h
                refine w_iload_n (pc := 89) X dX9_faultOfEvening_89 4 rfl ?_
                refine w_bipush (pc := 90) X dX9_faultOfEvening_90 (v := (45)) rfl ?_
                refine w_icmp_ne (pc := 92) (tgt := 99) X dX9_faultOfEvening_92 (by decide) (fun c11 => ?_) (fun c11 => ?_)
                · replace h := it_neg c11 h
                  refine w_iconst (pc := 99) X dX9_faultOfEvening_99 (v := 0) rfl ?_
                  cases h
                  exact w_sub (pc := 100) [1, 2, 3, 4, 0] rfl K44
                · replace h := it_pos c11 h
                  refine w_iconst (pc := 95) X dX9_faultOfEvening_95 (v := 1) rfl ?_
                  refine w_goto (tgt := 100) (pc := 96) X dX9_faultOfEvening_96 (by decide) ?_
                  cases h
                  exact w_sub (pc := 100) [1, 2, 3, 4, 0] rfl K44
            · replace h := it_pos c17 h
              refine w_aload_n (pc := 69) X dX9_faultOfEvening_69 1 rfl ?_
              refine w_iload_n (pc := 70) X dX9_faultOfEvening_70 4 rfl ?_
              refine w_bipush (pc := 71) X dX9_faultOfEvening_71 (v := (97)) rfl ?_
              refine w_isub (pc := 73) X dX9_faultOfEvening_73 ?_
              obtain ⟨r15, s13, h14, h⟩ := bd2_inv h
              refine w_callV (pc := 74) X dX9_faultOfEvening_74 (M9_isFact h14) k_o (by decide) rfl cw_9_109 ⟨Nat.le_of_ble_eq_true rfl, Nat.le_of_ble_eq_true rfl⟩ rfl rfl (Nat.le_of_ble_eq_true rfl) ?_
              show wpm φ ad 77 [(4, .int x9), (0, .ref (ad o)), (1, .int v1), (2, .int v2), (3, .int (s.1 (o + 7) v2.toNatClampNeg))] [.int r15] s13
              refine w_if_eq (pc := 77) (tgt := 99) X dX9_faultOfEvening_77 (by decide) (fun c16 => ?_) (fun c16 => ?_)
              · replace h := it_pos c16 h
                refine w_iconst (pc := 99) X dX9_faultOfEvening_99 (v := 0) rfl ?_
                cases h
                exact w_sub (pc := 100) [1, 2, 3, 4, 0] rfl K44
              · replace h := it_neg c16 h
                refine w_goto (tgt := 95) (pc := 80) X dX9_faultOfEvening_80 (by decide) ?_
                refine w_iconst (pc := 95) X dX9_faultOfEvening_95 (v := 1) rfl ?_
                refine w_goto (tgt := 100) (pc := 96) X dX9_faultOfEvening_96 (by decide) ?_
                cases h
                exact w_sub (pc := 100) [1, 2, 3, 4, 0] rfl K44
          · replace h := it_pos c22 h
            refine w_iload_n (pc := 51) X dX9_faultOfEvening_51 4 rfl ?_
            refine w_bipush (pc := 52) X dX9_faultOfEvening_52 (v := (65)) rfl ?_
            refine w_isub (pc := 54) X dX9_faultOfEvening_54 ?_
            obtain ⟨r20, s18, h19, h⟩ := bd2_inv h
            refine w_callS (pc := 55) X dX9_faultOfEvening_55 (M9_isGuest h19) rfl cw_9_113 ⟨Nat.le_of_ble_eq_true rfl, Nat.le_of_ble_eq_true rfl⟩ rfl rfl (Nat.le_of_ble_eq_true rfl) ?_
            show wpm φ ad 58 [(4, .int x9), (0, .ref (ad o)), (1, .int v1), (2, .int v2), (3, .int (s.1 (o + 7) v2.toNatClampNeg))] [.int r20] s18
            refine w_if_eq (pc := 58) (tgt := 99) X dX9_faultOfEvening_58 (by decide) (fun c21 => ?_) (fun c21 => ?_)
            · replace h := it_pos c21 h
              refine w_iconst (pc := 99) X dX9_faultOfEvening_99 (v := 0) rfl ?_
              cases h
              exact w_sub (pc := 100) [1, 2, 3, 4, 0] rfl K44
            · replace h := it_neg c21 h
              refine w_goto (tgt := 95) (pc := 61) X dX9_faultOfEvening_61 (by decide) ?_
              refine w_iconst (pc := 95) X dX9_faultOfEvening_95 (v := 1) rfl ?_
              refine w_goto (tgt := 100) (pc := 96) X dX9_faultOfEvening_96 (by decide) ?_
              cases h
              exact w_sub (pc := 100) [1, 2, 3, 4, 0] rfl K44
      clear h
      have h := h56
      clear h56
      refine w_if_ne (pc := 25) (tgt := 39) X dX9_faultOfEvening_25 (by decide) (fun c8 => ?_) (fun c8 => ?_)
      · replace h := it_neg c8 h
        refine w_iconst (pc := 39) X dX9_faultOfEvening_39 (v := 0) rfl ?_
        cases h
        exact w_sub (pc := 40) [1, 2, 3, 0] rfl K25
      · replace h := it_pos c8 h
        refine w_iload_n (pc := 28) X dX9_faultOfEvening_28 0 rfl ?_
        obtain ⟨r6, s4, h5, h⟩ := bd2_inv h
        refine w_callS (pc := 29) X dX9_faultOfEvening_29 (M9_shortRemark h5) rfl cw_9_130 ⟨Nat.le_of_ble_eq_true rfl, Nat.le_of_ble_eq_true rfl⟩ rfl rfl (Nat.le_of_ble_eq_true rfl) ?_
        show wpm φ ad 32 [(3, .int (s.1 (o + 7) v2.toNatClampNeg)), (0, .ref (ad o)), (1, .int v1), (2, .int v2)] [.int r6] s4
        refine w_if_le (pc := 32) (tgt := 39) X dX9_faultOfEvening_32 (by decide) (fun c7 => ?_) (fun c7 => ?_)
        · replace h := it_pos c7 h
          refine w_iconst (pc := 39) X dX9_faultOfEvening_39 (v := 0) rfl ?_
          cases h
          exact w_sub (pc := 40) [1, 2, 3, 0] rfl K25
        · replace h := it_neg c7 h
          refine w_iconst (pc := 35) X dX9_faultOfEvening_35 (v := 1) rfl ?_
          refine w_goto (tgt := 40) (pc := 36) X dX9_faultOfEvening_36 (by decide) ?_
          cases h
          exact w_sub (pc := 40) [1, 2, 3, 0] rfl K25
set_option maxRecDepth 20000 in
theorem M9_faultOfEvening {o : Nat} {s : Sto} {r : Int32} {σ' : Sto} (h : f9_faultOfEvening o s = some (r, σ')) : Ct yX9_faultOfEvening cX9_faultOfEvening 6 (some .int) 2 46 (fun ad => [.ref (ad o)]) s (fun ad => some (.int r)) σ' := by
  unfold f9_faultOfEvening at h
  obtain ⟨k_o, h⟩ := gd_inv h
  refine Ct_of (by decide) (fun ad => Nat.le_of_ble_eq_true rfl) (fun φ ad X hQ => ?_)
  show wpm φ ad 0 [(0, .ref (ad o))] [] s
  replace X : Cx φ ad cX9_faultOfEvening (some .int) RX9 6 2 46 := X
  refine w_aload_n (pc := 0) X dX9_faultOfEvening_0 0 rfl ?_
  refine w_iconst (pc := 1) X dX9_faultOfEvening_1 (v := 0) rfl ?_
  refine w_putI (pc := 2) X dX9_faultOfEvening_2 clO_9 k_o 17 (by decide) rfl rfl (Or.inl rfl) fl_9_127 ?_
  obtain ⟨s1, e_s1, h⟩ := nm_inv h
  refine w_nm e_s1 ?_
  refine w_iconst (pc := 5) X dX9_faultOfEvening_5 (v := 0) rfl ?_
  refine w_istore_n (pc := 6) X dX9_faultOfEvening_6 1 rfl (by decide) (lv' := [(1, .int (0 : Int32)), (0, .ref (ad o))]) rfl ?_
  refine w_iconst (pc := 7) X dX9_faultOfEvening_7 (v := 0) rfl ?_
  refine w_istore_n (pc := 8) X dX9_faultOfEvening_8 2 rfl (by decide) (lv' := [(2, .int (0 : Int32)), (1, .int (0 : Int32)), (0, .ref (ad o))]) rfl ?_
  exact w_sub (pc := 9) [2, 1, 0] rfl (WL9_faultOfEvening_9 X o k_o hQ FU (0 : Int32) (0 : Int32) s1 h)
set_option maxRecDepth 20000 in
theorem WL9_faultOfPattern_9 {φ : Fr} {ad : Nat → Nat} (X : Cx φ ad cX9_faultOfPattern (some .int) RX9 6 2 45) (o : Nat) (k_o : kd o = 9) {r : Int32} {σ' : Sto} (hQ : Fini φ ad (some (.int r)) σ') : ∀ (fuel : Nat) (v1 : Int32) (v2 : Int32) (s : Sto), L9_faultOfPattern_9 o fuel v1 v2 s = some (r, σ') → wpm φ ad 9 [(0, .ref (ad o)), (1, .int v1), (2, .int v2)] [] s := by
  intro fuel
  induction fuel with
  | zero => intro v1 v2 s h; cases h
  | succ fuel ih =>
    intro v1 v2 s h
    unfold L9_faultOfPattern_9 at h
    refine w_iload_n (pc := 9) X dX9_faultOfPattern_9 2 rfl ?_
    refine w_aload_n (pc := 10) X dX9_faultOfPattern_10 0 rfl ?_
    refine w_getI (pc := 11) X dX9_faultOfPattern_11 clO_9 k_o 12 (by decide) rfl fl_9_124 ?_
    refine w_icmp_ge (pc := 14) (tgt := 149) X dX9_faultOfPattern_14 (by decide) (fun c55 => ?_) (fun c55 => ?_)
    · replace h := it_pos c55 h
      refine w_bipush (pc := 149) X dX9_faultOfPattern_149 (v := (-6)) rfl ?_
      cases h
      exact w_iret X hQ dX9_faultOfPattern_151
    · replace h := it_neg c55 h
      refine w_aload_n (pc := 17) X dX9_faultOfPattern_17 0 rfl ?_
      refine w_getR (pc := 18) X dX9_faultOfPattern_18 clO_9 k_o 11 (by decide) (d := 7) rfl fl_9_28 ?_
      refine w_iload_n (pc := 21) X dX9_faultOfPattern_21 2 rfl ?_
      obtain ⟨g2, h⟩ := gd_inv h
      refine w_iald (pc := 22) X dX9_faultOfPattern_22 (kp_9_7 k_o) g2 ?_
      refine w_istore_n (pc := 23) X dX9_faultOfPattern_23 3 rfl (by decide) (lv' := [(3, .int (s.1 (o + 7) v2.toNatClampNeg)), (0, .ref (ad o)), (1, .int v1), (2, .int v2)]) rfl ?_
      refine w_iload_n (pc := 24) X dX9_faultOfPattern_24 0 rfl ?_
      refine w_bipush (pc := 25) X dX9_faultOfPattern_25 (v := (65)) rfl ?_
      refine w_isub (pc := 27) X dX9_faultOfPattern_27 ?_
      obtain ⟨r5, s3, h4, h⟩ := bd2_inv h
      refine w_callS (pc := 28) X dX9_faultOfPattern_28 (M9_isGuest h4) rfl cw_9_113 ⟨Nat.le_of_ble_eq_true rfl, Nat.le_of_ble_eq_true rfl⟩ rfl rfl (Nat.le_of_ble_eq_true rfl) ?_
      show wpm φ ad 31 [(3, .int (s.1 (o + 7) v2.toNatClampNeg)), (0, .ref (ad o)), (1, .int v1), (2, .int v2)] [.int r5] s3
      refine w_istore (pc := 31) X dX9_faultOfPattern_31 (by decide) (lv' := [(4, .int r5), (3, .int (s.1 (o + 7) v2.toNatClampNeg)), (0, .ref (ad o)), (1, .int v1), (2, .int v2)]) rfl ?_
      refine w_iload_n (pc := 33) X dX9_faultOfPattern_33 1 rfl ?_
      refine w_bipush (pc := 34) X dX9_faultOfPattern_34 (v := (42)) rfl ?_
      obtain ⟨x8, h54, h⟩ := bd1_inv h
      have K36 : wpm φ ad 48 [(0, .ref (ad o)), (2, .int v2), (3, .int (s.1 (o + 7) v2.toNatClampNeg)), (4, .int r5)] [.int x8] s3 := by
        refine w_istore (pc := 48) X dX9_faultOfPattern_48 (by decide) (lv' := [(5, .int x8), (0, .ref (ad o)), (2, .int v2), (3, .int (s.1 (o + 7) v2.toNatClampNeg)), (4, .int r5)]) rfl ?_
        refine w_iload (pc := 50) X dX9_faultOfPattern_50 4 rfl ?_
        refine w_if_ne (pc := 52) (tgt := 68) X dX9_faultOfPattern_52 (by decide) (fun c53 => ?_) (fun c53 => ?_)
        · replace h := it_neg c53 h
          refine w_iload (pc := 68) X dX9_faultOfPattern_68 0 rfl ?_
          refine w_if_eq (pc := 70) (tgt := 88) X dX9_faultOfPattern_70 (by decide) (fun c22 => ?_) (fun c22 => ?_)
          · replace h := it_pos c22 h
            refine w_aload_n (pc := 88) X dX9_faultOfPattern_88 1 rfl ?_
            refine w_getR (pc := 89) X dX9_faultOfPattern_89 clO_9 k_o 18 (by decide) (d := 12) rfl fl_9_43 ?_
            refine w_aload_n (pc := 92) X dX9_faultOfPattern_92 1 rfl ?_
            refine w_getI (pc := 93) X dX9_faultOfPattern_93 clO_9 k_o 20 (by decide) rfl fl_9_134 ?_
            refine w_iload (pc := 96) X dX9_faultOfPattern_96 4 rfl ?_
            obtain ⟨x10, h19, h⟩ := bd1_inv h
            have K98 : wpm φ ad 110 [(0, .ref (ad o)), (2, .int v2), (4, .int r5)] [.int x10, .int (s3.1 o 20), .ref (ad (o + 12))] s3 := by
              obtain ⟨g11, h⟩ := gd_inv h
              refine w_iast (pc := 110) X dX9_faultOfPattern_110 (kp_9_12 k_o) g11 ?_
              obtain ⟨s12, e_s12, h⟩ := nm_inv h
              refine w_nm e_s12 ?_
              refine w_aload_n (pc := 111) X dX9_faultOfPattern_111 0 rfl ?_
              refine w_getR (pc := 112) X dX9_faultOfPattern_112 clO_9 k_o 19 (by decide) (d := 13) rfl fl_9_46 ?_
              refine w_aload_n (pc := 115) X dX9_faultOfPattern_115 0 rfl ?_
              refine w_getI (pc := 116) X dX9_faultOfPattern_116 clO_9 k_o 20 (by decide) rfl fl_9_134 ?_
              refine w_iload (pc := 119) X dX9_faultOfPattern_119 2 rfl ?_
              obtain ⟨x14, h18, h⟩ := bd1_inv h
              have K121 : wpm φ ad 129 [(0, .ref (ad o)), (2, .int v2), (4, .int r5)] [.int x14, .int (s12.1 o 20), .ref (ad (o + 13))] s12 := by
                obtain ⟨g15, h⟩ := gd_inv h
                refine w_iast (pc := 129) X dX9_faultOfPattern_129 (kp_9_13 k_o) g15 ?_
                obtain ⟨s16, e_s16, h⟩ := nm_inv h
                refine w_nm e_s16 ?_
                refine w_aload_n (pc := 130) X dX9_faultOfPattern_130 0 rfl ?_
                refine w_dup (pc := 131) X dX9_faultOfPattern_131 rfl ?_
                refine w_getI (pc := 132) X dX9_faultOfPattern_132 clO_9 k_o 20 (by decide) rfl fl_9_134 ?_
                refine w_iconst (pc := 135) X dX9_faultOfPattern_135 (v := 1) rfl ?_
                refine w_iadd (pc := 136) X dX9_faultOfPattern_136 ?_
                refine w_putI (pc := 137) X dX9_faultOfPattern_137 clO_9 k_o 20 (by decide) rfl rfl (Or.inl rfl) fl_9_134 ?_
                obtain ⟨s17, e_s17, h⟩ := nm_inv h
                refine w_nm e_s17 ?_
                refine w_iload (pc := 140) X dX9_faultOfPattern_140 2 rfl ?_
                refine w_istore_n (pc := 142) X dX9_faultOfPattern_142 1 rfl (by decide) (lv' := [(1, .int r5), (0, .ref (ad o)), (2, .int v2), (4, .int r5)]) rfl ?_
                refine w_iinc (pc := 143) X dX9_faultOfPattern_143 2 rfl (v := (v2 + 1)) rfl (by decide) (lv' := [(2, .int (v2 + 1)), (1, .int r5), (0, .ref (ad o)), (4, .int r5)]) rfl ?_
                refine w_goto (tgt := 9) (pc := 146) X dX9_faultOfPattern_146 (by decide) ?_
                exact w_sub (pc := 9) [2, 1, 0] rfl (ih _ _ _ h)
              clear h
              have h := h18
              clear h18
              refine w_if_eq (pc := 121) (tgt := 128) X dX9_faultOfPattern_121 (by decide) (fun c13 => ?_) (fun c13 => ?_)
              · replace h := it_pos c13 h
                refine w_iconst (pc := 128) X dX9_faultOfPattern_128 (v := 2) rfl ?_
                cases h
                exact w_sub (pc := 129) [0, 1, 2] rfl K121
              · replace h := it_neg c13 h
                refine w_iconst (pc := 124) X dX9_faultOfPattern_124 (v := 0) rfl ?_
                refine w_goto (tgt := 129) (pc := 125) X dX9_faultOfPattern_125 (by decide) ?_
                cases h
                exact w_sub (pc := 129) [0, 1, 2] rfl K121
            clear h
            have h := h19
            clear h19
            refine w_if_eq (pc := 98) (tgt := 108) X dX9_faultOfPattern_98 (by decide) (fun c9 => ?_) (fun c9 => ?_)
            · replace h := it_pos c9 h
              refine w_bipush (pc := 108) X dX9_faultOfPattern_108 (v := (6)) rfl ?_
              cases h
              exact w_sub (pc := 110) [1, 2, 4] rfl K98
            · replace h := it_neg c9 h
              refine w_iload_n (pc := 101) X dX9_faultOfPattern_101 3 rfl ?_
              refine w_bipush (pc := 102) X dX9_faultOfPattern_102 (v := (65)) rfl ?_
              refine w_isub (pc := 104) X dX9_faultOfPattern_104 ?_
              refine w_goto (tgt := 110) (pc := 105) X dX9_faultOfPattern_105 (by decide) ?_
              cases h
              exact w_sub (pc := 110) [1, 2, 4] rfl K98
          · replace h := it_neg c22 h
            refine w_aload_n (pc := 73) X dX9_faultOfPattern_73 1 rfl ?_
            refine w_getR (pc := 74) X dX9_faultOfPattern_74 clO_9 k_o 19 (by decide) (d := 13) rfl fl_9_46 ?_
            refine w_aload_n (pc := 77) X dX9_faultOfPattern_77 1 rfl ?_
            refine w_getI (pc := 78) X dX9_faultOfPattern_78 clO_9 k_o 20 (by decide) rfl fl_9_134 ?_
            refine w_iconst (pc := 81) X dX9_faultOfPattern_81 (v := 1) rfl ?_
            refine w_isub (pc := 82) X dX9_faultOfPattern_82 ?_
            refine w_iconst (pc := 83) X dX9_faultOfPattern_83 (v := 1) rfl ?_
            obtain ⟨g20, h⟩ := gd_inv h
            refine w_iast (pc := 84) X dX9_faultOfPattern_84 (kp_9_13 k_o) g20 ?_
            obtain ⟨s21, e_s21, h⟩ := nm_inv h
            refine w_nm e_s21 ?_
            refine w_goto (tgt := 140) (pc := 85) X dX9_faultOfPattern_85 (by decide) ?_
            refine w_iload (pc := 140) X dX9_faultOfPattern_140 4 rfl ?_
            refine w_istore_n (pc := 142) X dX9_faultOfPattern_142 1 rfl (by decide) (lv' := [(1, .int r5), (5, .int x8), (0, .ref (ad o)), (2, .int v2), (3, .int (s.1 (o + 7) v2.toNatClampNeg)), (4, .int r5)]) rfl ?_
            refine w_iinc (pc := 143) X dX9_faultOfPattern_143 3 rfl (v := (v2 + 1)) rfl (by decide) (lv' := [(2, .int (v2 + 1)), (1, .int r5), (5, .int x8), (0, .ref (ad o)), (3, .int (s.1 (o + 7) v2.toNatClampNeg)), (4, .int r5)]) rfl ?_
            refine w_goto (tgt := 9) (pc := 146) X dX9_faultOfPattern_146 (by decide) ?_
            exact w_sub (pc := 9) [3, 1, 0] rfl (ih _ _ _ h)
        · replace h := it_pos c53 h
          refine w_iload (pc := 55) X dX9_faultOfPattern_55 0 rfl ?_
          refine w_if_ne (pc := 57) (tgt := 68) X dX9_faultOfPattern_57 (by decide) (fun c52 => ?_) (fun c52 => ?_)
          · replace h := it_neg c52 h
            refine w_iload (pc := 68) X dX9_faultOfPattern_68 0 rfl ?_
            refine w_if_eq (pc := 70) (tgt := 88) X dX9_faultOfPattern_70 (by decide) (fun c36 => ?_) (fun c36 => ?_)
            · replace h := it_pos c36 h
              refine w_aload_n (pc := 88) X dX9_faultOfPattern_88 1 rfl ?_
              refine w_getR (pc := 89) X dX9_faultOfPattern_89 clO_9 k_o 18 (by decide) (d := 12) rfl fl_9_43 ?_
              refine w_aload_n (pc := 92) X dX9_faultOfPattern_92 1 rfl ?_
              refine w_getI (pc := 93) X dX9_faultOfPattern_93 clO_9 k_o 20 (by decide) rfl fl_9_134 ?_
              refine w_iload (pc := 96) X dX9_faultOfPattern_96 4 rfl ?_
              obtain ⟨x24, h33, h⟩ := bd1_inv h
              have K98 : wpm φ ad 110 [(0, .ref (ad o)), (2, .int v2), (4, .int r5)] [.int x24, .int (s3.1 o 20), .ref (ad (o + 12))] s3 := by
                obtain ⟨g25, h⟩ := gd_inv h
                refine w_iast (pc := 110) X dX9_faultOfPattern_110 (kp_9_12 k_o) g25 ?_
                obtain ⟨s26, e_s26, h⟩ := nm_inv h
                refine w_nm e_s26 ?_
                refine w_aload_n (pc := 111) X dX9_faultOfPattern_111 0 rfl ?_
                refine w_getR (pc := 112) X dX9_faultOfPattern_112 clO_9 k_o 19 (by decide) (d := 13) rfl fl_9_46 ?_
                refine w_aload_n (pc := 115) X dX9_faultOfPattern_115 0 rfl ?_
                refine w_getI (pc := 116) X dX9_faultOfPattern_116 clO_9 k_o 20 (by decide) rfl fl_9_134 ?_
                refine w_iload (pc := 119) X dX9_faultOfPattern_119 2 rfl ?_
                obtain ⟨x28, h32, h⟩ := bd1_inv h
                have K121 : wpm φ ad 129 [(0, .ref (ad o)), (2, .int v2), (4, .int r5)] [.int x28, .int (s26.1 o 20), .ref (ad (o + 13))] s26 := by
                  obtain ⟨g29, h⟩ := gd_inv h
                  refine w_iast (pc := 129) X dX9_faultOfPattern_129 (kp_9_13 k_o) g29 ?_
                  obtain ⟨s30, e_s30, h⟩ := nm_inv h
                  refine w_nm e_s30 ?_
                  refine w_aload_n (pc := 130) X dX9_faultOfPattern_130 0 rfl ?_
                  refine w_dup (pc := 131) X dX9_faultOfPattern_131 rfl ?_
                  refine w_getI (pc := 132) X dX9_faultOfPattern_132 clO_9 k_o 20 (by decide) rfl fl_9_134 ?_
                  refine w_iconst (pc := 135) X dX9_faultOfPattern_135 (v := 1) rfl ?_
                  refine w_iadd (pc := 136) X dX9_faultOfPattern_136 ?_
                  refine w_putI (pc := 137) X dX9_faultOfPattern_137 clO_9 k_o 20 (by decide) rfl rfl (Or.inl rfl) fl_9_134 ?_
                  obtain ⟨s31, e_s31, h⟩ := nm_inv h
                  refine w_nm e_s31 ?_
                  refine w_iload (pc := 140) X dX9_faultOfPattern_140 2 rfl ?_
                  refine w_istore_n (pc := 142) X dX9_faultOfPattern_142 1 rfl (by decide) (lv' := [(1, .int r5), (0, .ref (ad o)), (2, .int v2), (4, .int r5)]) rfl ?_
                  refine w_iinc (pc := 143) X dX9_faultOfPattern_143 2 rfl (v := (v2 + 1)) rfl (by decide) (lv' := [(2, .int (v2 + 1)), (1, .int r5), (0, .ref (ad o)), (4, .int r5)]) rfl ?_
                  refine w_goto (tgt := 9) (pc := 146) X dX9_faultOfPattern_146 (by decide) ?_
                  exact w_sub (pc := 9) [2, 1, 0] rfl (ih _ _ _ h)
                clear h
                have h := h32
                clear h32
                refine w_if_eq (pc := 121) (tgt := 128) X dX9_faultOfPattern_121 (by decide) (fun c27 => ?_) (fun c27 => ?_)
                · replace h := it_pos c27 h
                  refine w_iconst (pc := 128) X dX9_faultOfPattern_128 (v := 2) rfl ?_
                  cases h
                  exact w_sub (pc := 129) [0, 1, 2] rfl K121
                · replace h := it_neg c27 h
                  refine w_iconst (pc := 124) X dX9_faultOfPattern_124 (v := 0) rfl ?_
                  refine w_goto (tgt := 129) (pc := 125) X dX9_faultOfPattern_125 (by decide) ?_
                  cases h
                  exact w_sub (pc := 129) [0, 1, 2] rfl K121
              clear h
              have h := h33
              clear h33
              refine w_if_eq (pc := 98) (tgt := 108) X dX9_faultOfPattern_98 (by decide) (fun c23 => ?_) (fun c23 => ?_)
              · replace h := it_pos c23 h
                refine w_bipush (pc := 108) X dX9_faultOfPattern_108 (v := (6)) rfl ?_
                cases h
                exact w_sub (pc := 110) [1, 2, 4] rfl K98
              · replace h := it_neg c23 h
                refine w_iload_n (pc := 101) X dX9_faultOfPattern_101 3 rfl ?_
                refine w_bipush (pc := 102) X dX9_faultOfPattern_102 (v := (65)) rfl ?_
                refine w_isub (pc := 104) X dX9_faultOfPattern_104 ?_
                refine w_goto (tgt := 110) (pc := 105) X dX9_faultOfPattern_105 (by decide) ?_
                cases h
                exact w_sub (pc := 110) [1, 2, 4] rfl K98
            · replace h := it_neg c36 h
              refine w_aload_n (pc := 73) X dX9_faultOfPattern_73 1 rfl ?_
              refine w_getR (pc := 74) X dX9_faultOfPattern_74 clO_9 k_o 19 (by decide) (d := 13) rfl fl_9_46 ?_
              refine w_aload_n (pc := 77) X dX9_faultOfPattern_77 1 rfl ?_
              refine w_getI (pc := 78) X dX9_faultOfPattern_78 clO_9 k_o 20 (by decide) rfl fl_9_134 ?_
              refine w_iconst (pc := 81) X dX9_faultOfPattern_81 (v := 1) rfl ?_
              refine w_isub (pc := 82) X dX9_faultOfPattern_82 ?_
              refine w_iconst (pc := 83) X dX9_faultOfPattern_83 (v := 1) rfl ?_
              obtain ⟨g34, h⟩ := gd_inv h
              refine w_iast (pc := 84) X dX9_faultOfPattern_84 (kp_9_13 k_o) g34 ?_
              obtain ⟨s35, e_s35, h⟩ := nm_inv h
              refine w_nm e_s35 ?_
              refine w_goto (tgt := 140) (pc := 85) X dX9_faultOfPattern_85 (by decide) ?_
              refine w_iload (pc := 140) X dX9_faultOfPattern_140 4 rfl ?_
              refine w_istore_n (pc := 142) X dX9_faultOfPattern_142 1 rfl (by decide) (lv' := [(1, .int r5), (5, .int x8), (0, .ref (ad o)), (2, .int v2), (3, .int (s.1 (o + 7) v2.toNatClampNeg)), (4, .int r5)]) rfl ?_
              refine w_iinc (pc := 143) X dX9_faultOfPattern_143 3 rfl (v := (v2 + 1)) rfl (by decide) (lv' := [(2, .int (v2 + 1)), (1, .int r5), (5, .int x8), (0, .ref (ad o)), (3, .int (s.1 (o + 7) v2.toNatClampNeg)), (4, .int r5)]) rfl ?_
              refine w_goto (tgt := 9) (pc := 146) X dX9_faultOfPattern_146 (by decide) ?_
              exact w_sub (pc := 9) [3, 1, 0] rfl (ih _ _ _ h)
          · replace h := it_pos c52 h
            refine w_iload_n (pc := 60) X dX9_faultOfPattern_60 3 rfl ?_
            refine w_bipush (pc := 61) X dX9_faultOfPattern_61 (v := (109)) rfl ?_
            refine w_icmp_eq (pc := 63) (tgt := 68) X dX9_faultOfPattern_63 (by decide) (fun c51 => ?_) (fun c51 => ?_)
            · replace h := it_pos c51 h
              refine w_iload (pc := 68) X dX9_faultOfPattern_68 0 rfl ?_
              refine w_if_eq (pc := 70) (tgt := 88) X dX9_faultOfPattern_70 (by decide) (fun c50 => ?_) (fun c50 => ?_)
              · replace h := it_pos c50 h
                refine w_aload_n (pc := 88) X dX9_faultOfPattern_88 1 rfl ?_
                refine w_getR (pc := 89) X dX9_faultOfPattern_89 clO_9 k_o 18 (by decide) (d := 12) rfl fl_9_43 ?_
                refine w_aload_n (pc := 92) X dX9_faultOfPattern_92 1 rfl ?_
                refine w_getI (pc := 93) X dX9_faultOfPattern_93 clO_9 k_o 20 (by decide) rfl fl_9_134 ?_
                refine w_iload (pc := 96) X dX9_faultOfPattern_96 4 rfl ?_
                obtain ⟨x38, h47, h⟩ := bd1_inv h
                have K98 : wpm φ ad 110 [(0, .ref (ad o)), (2, .int v2), (4, .int r5)] [.int x38, .int (s3.1 o 20), .ref (ad (o + 12))] s3 := by
                  obtain ⟨g39, h⟩ := gd_inv h
                  refine w_iast (pc := 110) X dX9_faultOfPattern_110 (kp_9_12 k_o) g39 ?_
                  obtain ⟨s40, e_s40, h⟩ := nm_inv h
                  refine w_nm e_s40 ?_
                  refine w_aload_n (pc := 111) X dX9_faultOfPattern_111 0 rfl ?_
                  refine w_getR (pc := 112) X dX9_faultOfPattern_112 clO_9 k_o 19 (by decide) (d := 13) rfl fl_9_46 ?_
                  refine w_aload_n (pc := 115) X dX9_faultOfPattern_115 0 rfl ?_
                  refine w_getI (pc := 116) X dX9_faultOfPattern_116 clO_9 k_o 20 (by decide) rfl fl_9_134 ?_
                  refine w_iload (pc := 119) X dX9_faultOfPattern_119 2 rfl ?_
                  obtain ⟨x42, h46, h⟩ := bd1_inv h
                  have K121 : wpm φ ad 129 [(0, .ref (ad o)), (2, .int v2), (4, .int r5)] [.int x42, .int (s40.1 o 20), .ref (ad (o + 13))] s40 := by
                    obtain ⟨g43, h⟩ := gd_inv h
                    refine w_iast (pc := 129) X dX9_faultOfPattern_129 (kp_9_13 k_o) g43 ?_
                    obtain ⟨s44, e_s44, h⟩ := nm_inv h
                    refine w_nm e_s44 ?_
                    refine w_aload_n (pc := 130) X dX9_faultOfPattern_130 0 rfl ?_
                    refine w_dup (pc := 131) X dX9_faultOfPattern_131 rfl ?_
                    refine w_getI (pc := 132) X dX9_faultOfPattern_132 clO_9 k_o 20 (by decide) rfl fl_9_134 ?_
                    refine w_iconst (pc := 135) X dX9_faultOfPattern_135 (v := 1) rfl ?_
                    refine w_iadd (pc := 136) X dX9_faultOfPattern_136 ?_
                    refine w_putI (pc := 137) X dX9_faultOfPattern_137 clO_9 k_o 20 (by decide) rfl rfl (Or.inl rfl) fl_9_134 ?_
                    obtain ⟨s45, e_s45, h⟩ := nm_inv h
                    refine w_nm e_s45 ?_
                    refine w_iload (pc := 140) X dX9_faultOfPattern_140 2 rfl ?_
                    refine w_istore_n (pc := 142) X dX9_faultOfPattern_142 1 rfl (by decide) (lv' := [(1, .int r5), (0, .ref (ad o)), (2, .int v2), (4, .int r5)]) rfl ?_
                    refine w_iinc (pc := 143) X dX9_faultOfPattern_143 2 rfl (v := (v2 + 1)) rfl (by decide) (lv' := [(2, .int (v2 + 1)), (1, .int r5), (0, .ref (ad o)), (4, .int r5)]) rfl ?_
                    refine w_goto (tgt := 9) (pc := 146) X dX9_faultOfPattern_146 (by decide) ?_
                    exact w_sub (pc := 9) [2, 1, 0] rfl (ih _ _ _ h)
                  clear h
                  have h := h46
                  clear h46
                  refine w_if_eq (pc := 121) (tgt := 128) X dX9_faultOfPattern_121 (by decide) (fun c41 => ?_) (fun c41 => ?_)
                  · replace h := it_pos c41 h
                    refine w_iconst (pc := 128) X dX9_faultOfPattern_128 (v := 2) rfl ?_
                    cases h
                    exact w_sub (pc := 129) [0, 1, 2] rfl K121
                  · replace h := it_neg c41 h
                    refine w_iconst (pc := 124) X dX9_faultOfPattern_124 (v := 0) rfl ?_
                    refine w_goto (tgt := 129) (pc := 125) X dX9_faultOfPattern_125 (by decide) ?_
                    cases h
                    exact w_sub (pc := 129) [0, 1, 2] rfl K121
                clear h
                have h := h47
                clear h47
                refine w_if_eq (pc := 98) (tgt := 108) X dX9_faultOfPattern_98 (by decide) (fun c37 => ?_) (fun c37 => ?_)
                · replace h := it_pos c37 h
                  refine w_bipush (pc := 108) X dX9_faultOfPattern_108 (v := (6)) rfl ?_
                  cases h
                  exact w_sub (pc := 110) [1, 2, 4] rfl K98
                · replace h := it_neg c37 h
                  refine w_iload_n (pc := 101) X dX9_faultOfPattern_101 3 rfl ?_
                  refine w_bipush (pc := 102) X dX9_faultOfPattern_102 (v := (65)) rfl ?_
                  refine w_isub (pc := 104) X dX9_faultOfPattern_104 ?_
                  refine w_goto (tgt := 110) (pc := 105) X dX9_faultOfPattern_105 (by decide) ?_
                  cases h
                  exact w_sub (pc := 110) [1, 2, 4] rfl K98
              · replace h := it_neg c50 h
                refine w_aload_n (pc := 73) X dX9_faultOfPattern_73 1 rfl ?_
                refine w_getR (pc := 74) X dX9_faultOfPattern_74 clO_9 k_o 19 (by decide) (d := 13) rfl fl_9_46 ?_
                refine w_aload_n (pc := 77) X dX9_faultOfPattern_77 1 rfl ?_
                refine w_getI (pc := 78) X dX9_faultOfPattern_78 clO_9 k_o 20 (by decide) rfl fl_9_134 ?_
                refine w_iconst (pc := 81) X dX9_faultOfPattern_81 (v := 1) rfl ?_
                refine w_isub (pc := 82) X dX9_faultOfPattern_82 ?_
                refine w_iconst (pc := 83) X dX9_faultOfPattern_83 (v := 1) rfl ?_
                obtain ⟨g48, h⟩ := gd_inv h
                refine w_iast (pc := 84) X dX9_faultOfPattern_84 (kp_9_13 k_o) g48 ?_
                obtain ⟨s49, e_s49, h⟩ := nm_inv h
                refine w_nm e_s49 ?_
                refine w_goto (tgt := 140) (pc := 85) X dX9_faultOfPattern_85 (by decide) ?_
                refine w_iload (pc := 140) X dX9_faultOfPattern_140 4 rfl ?_
                refine w_istore_n (pc := 142) X dX9_faultOfPattern_142 1 rfl (by decide) (lv' := [(1, .int r5), (5, .int x8), (0, .ref (ad o)), (2, .int v2), (3, .int (s.1 (o + 7) v2.toNatClampNeg)), (4, .int r5)]) rfl ?_
                refine w_iinc (pc := 143) X dX9_faultOfPattern_143 3 rfl (v := (v2 + 1)) rfl (by decide) (lv' := [(2, .int (v2 + 1)), (1, .int r5), (5, .int x8), (0, .ref (ad o)), (3, .int (s.1 (o + 7) v2.toNatClampNeg)), (4, .int r5)]) rfl ?_
                refine w_goto (tgt := 9) (pc := 146) X dX9_faultOfPattern_146 (by decide) ?_
                exact w_sub (pc := 9) [3, 1, 0] rfl (ih _ _ _ h)
            · replace h := it_neg c51 h
              refine w_iload_n (pc := 66) X dX9_faultOfPattern_66 2 rfl ?_
              cases h
              exact w_iret X hQ dX9_faultOfPattern_67
      clear h
      have h := h54
      clear h54
      refine w_icmp_ne (pc := 36) (tgt := 47) X dX9_faultOfPattern_36 (by decide) (fun c7 => ?_) (fun c7 => ?_)
      · replace h := it_neg c7 h
        refine w_iconst (pc := 47) X dX9_faultOfPattern_47 (v := 0) rfl ?_
        cases h
        exact w_sub (pc := 48) [2, 4, 1, 0] rfl K36
      · replace h := it_pos c7 h
        refine w_iload_n (pc := 39) X dX9_faultOfPattern_39 3 rfl ?_
        refine w_if_eq (pc := 40) (tgt := 47) X dX9_faultOfPattern_40 (by decide) (fun c6 => ?_) (fun c6 => ?_)
        · replace h := it_pos c6 h
          refine w_iconst (pc := 47) X dX9_faultOfPattern_47 (v := 0) rfl ?_
          cases h
          exact w_sub (pc := 48) [2, 4, 1, 0] rfl K36
        · replace h := it_neg c6 h
          refine w_iconst (pc := 43) X dX9_faultOfPattern_43 (v := 1) rfl ?_
          refine w_goto (tgt := 48) (pc := 44) X dX9_faultOfPattern_44 (by decide) ?_
          cases h
          exact w_sub (pc := 48) [2, 4, 1, 0] rfl K36
set_option maxRecDepth 20000 in
theorem M9_faultOfPattern {o : Nat} {s : Sto} {r : Int32} {σ' : Sto} (h : f9_faultOfPattern o s = some (r, σ')) : Ct yX9_faultOfPattern cX9_faultOfPattern 6 (some .int) 2 45 (fun ad => [.ref (ad o)]) s (fun ad => some (.int r)) σ' := by
  unfold f9_faultOfPattern at h
  obtain ⟨k_o, h⟩ := gd_inv h
  refine Ct_of (by decide) (fun ad => Nat.le_of_ble_eq_true rfl) (fun φ ad X hQ => ?_)
  show wpm φ ad 0 [(0, .ref (ad o))] [] s
  replace X : Cx φ ad cX9_faultOfPattern (some .int) RX9 6 2 45 := X
  refine w_aload_n (pc := 0) X dX9_faultOfPattern_0 0 rfl ?_
  refine w_iconst (pc := 1) X dX9_faultOfPattern_1 (v := 0) rfl ?_
  refine w_putI (pc := 2) X dX9_faultOfPattern_2 clO_9 k_o 20 (by decide) rfl rfl (Or.inl rfl) fl_9_134 ?_
  obtain ⟨s1, e_s1, h⟩ := nm_inv h
  refine w_nm e_s1 ?_
  refine w_iconst (pc := 5) X dX9_faultOfPattern_5 (v := 0) rfl ?_
  refine w_istore_n (pc := 6) X dX9_faultOfPattern_6 1 rfl (by decide) (lv' := [(1, .int (0 : Int32)), (0, .ref (ad o))]) rfl ?_
  refine w_iconst (pc := 7) X dX9_faultOfPattern_7 (v := 0) rfl ?_
  refine w_istore_n (pc := 8) X dX9_faultOfPattern_8 2 rfl (by decide) (lv' := [(2, .int (0 : Int32)), (1, .int (0 : Int32)), (0, .ref (ad o))]) rfl ?_
  exact w_sub (pc := 9) [2, 1, 0] rfl (WL9_faultOfPattern_9 X o k_o hQ FU (0 : Int32) (0 : Int32) s1 h)
