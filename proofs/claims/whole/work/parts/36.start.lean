theorem nw_99_7 : ∀ z ∈ [Cond.classLink RX99 7 RX8, .instantiable RX8 9, .initialized RX8], z ∈ lw_gd := List.forall_mem_cons.mpr ⟨lw_in 63 (by decide +kernel) rfl, List.forall_mem_cons.mpr ⟨lw_in 64 (by decide +kernel) rfl, List.forall_mem_cons.mpr ⟨lw_in 51 (by decide +kernel) rfl, fun w hw => absurd hw List.not_mem_nil⟩⟩⟩
theorem nw_99_10 : ∀ z ∈ [Cond.classLink RX99 10 RX9, .instantiable RX9 47, .initialized RX9], z ∈ lw_gd := List.forall_mem_cons.mpr ⟨lw_in 689 (by decide +kernel) rfl, List.forall_mem_cons.mpr ⟨lw_in 690 (by decide +kernel) rfl, List.forall_mem_cons.mpr ⟨lw_in 60 (by decide +kernel) rfl, fun w hw => absurd hw List.not_mem_nil⟩⟩⟩
theorem li_8 : CW [.methodLink RX99 9 yX8_init, .instanceMethod yX8_init, .initialized yX8_init.cls, .code yX8_init cX8_init 1 none] yX8_init 0 := ⟨List.forall_mem_cons.mpr ⟨lw_in 65 (by decide +kernel) rfl, List.forall_mem_cons.mpr ⟨lw_in 66 (by decide +kernel) rfl, List.forall_mem_cons.mpr ⟨lw_in 51 (by decide +kernel) rfl, List.forall_mem_cons.mpr ⟨lw_in 67 (by decide +kernel) rfl, fun w hw => absurd hw List.not_mem_nil⟩⟩⟩⟩, by decide +kernel⟩
theorem li_9 : CW [.methodLink RX99 12 yX9_init, .instanceMethod yX9_init, .initialized yX9_init.cls, .code yX9_init cX9_init 1 none] yX9_init 0 := ⟨List.forall_mem_cons.mpr ⟨lw_in 691 (by decide +kernel) rfl, List.forall_mem_cons.mpr ⟨lw_in 692 (by decide +kernel) rfl, List.forall_mem_cons.mpr ⟨lw_in 60 (by decide +kernel) rfl, List.forall_mem_cons.mpr ⟨lw_in 693 (by decide +kernel) rfl, fun w hw => absurd hw List.not_mem_nil⟩⟩⟩⟩, by decide +kernel⟩
theorem it_0 : ∀ w ∈ u_ws RX0 TX0 8, w ∈ lw_tbl := fun w h => (List.mem_filter.mp (clO_0.2.2.2.1 w h)).1
theorem ii_0 : Cond.instantiable RX0 8 ∈ lw_tbl := List.mem_of_getElem? (i := 72) (by decide +kernel)
theorem it_1 : ∀ w ∈ u_ws RX1 TX1 6, w ∈ lw_tbl := fun w h => (List.mem_filter.mp (clO_1.2.2.2.1 w h)).1
theorem ii_1 : Cond.instantiable RX1 6 ∈ lw_tbl := List.mem_of_getElem? (i := 165) (by decide +kernel)
theorem it_2 : ∀ w ∈ u_ws RX2 TX2 8, w ∈ lw_tbl := fun w h => (List.mem_filter.mp (clO_2.2.2.2.1 w h)).1
theorem ii_2 : Cond.instantiable RX2 8 ∈ lw_tbl := List.mem_of_getElem? (i := 78) (by decide +kernel)
theorem it_3 : ∀ w ∈ u_ws RX3 TX3 1, w ∈ lw_tbl := fun w h => (List.mem_filter.mp (clO_3.2.2.2.1 w h)).1
theorem ii_3 : Cond.instantiable RX3 1 ∈ lw_tbl := List.mem_of_getElem? (i := 254) (by decide +kernel)
theorem it_4 : ∀ w ∈ u_ws RX4 TX4 1, w ∈ lw_tbl := fun w h => (List.mem_filter.mp (clO_4.2.2.2.1 w h)).1
theorem ii_4 : Cond.instantiable RX4 1 ∈ lw_tbl := List.mem_of_getElem? (i := 243) (by decide +kernel)
theorem it_5 : ∀ w ∈ u_ws RX5 TX5 2, w ∈ lw_tbl := fun w h => (List.mem_filter.mp (clO_5.2.2.2.1 w h)).1
theorem ii_5 : Cond.instantiable RX5 2 ∈ lw_tbl := List.mem_of_getElem? (i := 147) (by decide +kernel)
theorem it_6 : ∀ w ∈ u_ws RX6 TX6 3, w ∈ lw_tbl := fun w h => (List.mem_filter.mp (clO_6.2.2.2.1 w h)).1
theorem ii_6 : Cond.instantiable RX6 3 ∈ lw_tbl := List.mem_of_getElem? (i := 198) (by decide +kernel)
theorem it_7 : ∀ w ∈ u_ws RX7 TX7 5, w ∈ lw_tbl := fun w h => (List.mem_filter.mp (clO_7.2.2.2.1 w h)).1
theorem ii_7 : Cond.instantiable RX7 5 ∈ lw_tbl := List.mem_of_getElem? (i := 217) (by decide +kernel)
theorem it_8 : ∀ w ∈ u_ws RX8 TX8 9, w ∈ lw_tbl := fun w h => (List.mem_filter.mp (clO_8.2.2.2.1 w h)).1
theorem ii_8 : Cond.instantiable RX8 9 ∈ lw_tbl := List.mem_of_getElem? (i := 64) (by decide +kernel)
theorem it_9 : ∀ w ∈ u_ws RX9 TX9 47, w ∈ lw_tbl := fun w h => (List.mem_filter.mp (clO_9.2.2.2.1 w h)).1
theorem ii_9 : Cond.instantiable RX9 47 ∈ lw_tbl := List.mem_of_getElem? (i := 690) (by decide +kernel)
theorem lw_arr {s : State} {b : Nat} {ty : FieldType} (hts : ∀ w ∈ lw_tbl, w.before #[Value.ref b] s = true) (h : Cond.arrayClass ty ∈ lw_gd) (hp : ∀ U cA, va_RA U cA ty = (U.vm.findClass ("[" ++ ty.toString) = some cA)) : ∃ cA, ArrOfT s cA ty ∧ va_RA s cA ty := by
  obtain ⟨c, k, comp, h1, h2, h3⟩ := Cond.arrayClass_spec (hts _ (List.mem_filter.mp h).1)
  exact ⟨c, fun n z => ⟨fun k h => (by cases h), k, h2, comp, h3⟩, by rw [hp]; exact h1⟩
/-- the one pure thing that is left: from what begin(4) leaves, the law's function answers 1 -/
def Pure : Prop := ∃ σ1 : Sto, f9_begin 43 4 s00 = some σ1 ∧ ∀ (L : Nat) (xs : Nat → Int32), L ≤ 384 → ∃ σ' : Sto, L_law_18 L xs FU 0 σ1 = some ((1 : Int32), σ')
set_option maxHeartbeats 4000000 in
set_option maxRecDepth 40000 in
theorem whole_open (pure : Pure) {p : Program} {e : Env} {s : State} {m : MethodId} {below : List Frame} {meth : Method} {c : Code} (l : Launch) {b L : Nat} {xs : Nat → Int32} (hL : L ≤ 384) (C0 : lw_At p s m meth c b L xs) : W p l e room_1 s m #[Value.ref b] below meth c s.heap [] 0 0 (lw_Z below #[Value.ref b] s) (entryFrame m ([Value.ref b] : List Value).toArray 4) := by
  obtain ⟨hx, hb, hr, hml, hown, hts, hX, hbl, hlocks, hgv⟩ := id C0
  obtain ⟨σ1, hbeg, hlaw⟩ := pure
  obtain ⟨σ', hfin⟩ := hlaw L xs hL
  obtain ⟨c0, iS0, hKn0⟩ := u_known (C := RX0) (T := TX0) (N := 8) (n := 8) hts it_0 (hts _ ii_0)
  obtain ⟨c1, iS1, hKn1⟩ := u_known (C := RX1) (T := TX1) (N := 6) (n := 6) hts it_1 (hts _ ii_1)
  obtain ⟨c2, iS2, hKn2⟩ := u_known (C := RX2) (T := TX2) (N := 8) (n := 8) hts it_2 (hts _ ii_2)
  obtain ⟨c3, iS3, hKn3⟩ := u_known (C := RX3) (T := TX3) (N := 1) (n := 1) hts it_3 (hts _ ii_3)
  obtain ⟨c4, iS4, hKn4⟩ := u_known (C := RX4) (T := TX4) (N := 1) (n := 1) hts it_4 (hts _ ii_4)
  obtain ⟨c5, iS5, hKn5⟩ := u_known (C := RX5) (T := TX5) (N := 2) (n := 2) hts it_5 (hts _ ii_5)
  obtain ⟨c6, iS6, hKn6⟩ := u_known (C := RX6) (T := TX6) (N := 3) (n := 3) hts it_6 (hts _ ii_6)
  obtain ⟨c7, iS7, hKn7⟩ := u_known (C := RX7) (T := TX7) (N := 5) (n := 5) hts it_7 (hts _ ii_7)
  obtain ⟨c8, iS8, hKn8⟩ := u_known (C := RX8) (T := TX8) (N := 9) (n := 9) hts it_8 (hts _ ii_8)
  obtain ⟨c9, iS9, hKn9⟩ := u_known (C := RX9) (T := TX9) (N := 47) (n := 47) hts it_9 (hts _ ii_9)
  obtain ⟨dC, dI, hKc⟩ : ∃ (dC : Nat → ClassId) (dI : Nat → Nat → Nat), ∀ (k : Nat) (q : vw_C), cls[k]? = some q → u_Kn s q.1 q.2.1 q.2.2 (dC k) (dI k) := by
    refine ⟨fun k => if k = 0 then c0 else if k = 1 then c1 else if k = 2 then c2 else if k = 3 then c3 else if k = 4 then c4 else if k = 5 then c5 else if k = 6 then c6 else if k = 7 then c7 else if k = 8 then c8 else c9, fun k => if k = 0 then iS0 else if k = 1 then iS1 else if k = 2 then iS2 else if k = 3 then iS3 else if k = 4 then iS4 else if k = 5 then iS5 else if k = 6 then iS6 else if k = 7 then iS7 else if k = 8 then iS8 else iS9, ?_⟩
    intro k q hq
    match k, hq with
    | 0, hq => cases hq; exact hKn0
    | 1, hq => cases hq; exact hKn1
    | 2, hq => cases hq; exact hKn2
    | 3, hq => cases hq; exact hKn3
    | 4, hq => cases hq; exact hKn4
    | 5, hq => cases hq; exact hKn5
    | 6, hq => cases hq; exact hKn6
    | 7, hq => cases hq; exact hKn7
    | 8, hq => cases hq; exact hKn8
    | 9, hq => cases hq; exact hKn9
    | k + 10, hq => simp [cls] at hq
  obtain ⟨cI, aI, rI⟩ := lw_arr (ty := .int) hts ac_I (fun _ _ => rfl)
  obtain ⟨cJ, aJ, rJ⟩ := lw_arr (ty := .long) hts ac_J (fun _ _ => rfl)
  obtain ⟨cZ, aZ, rZ⟩ := lw_arr (ty := .boolean) hts ac_Z (fun _ _ => rfl)
  have hK : va_K (dC, dI) cls (tysOf (cI, cJ, cZ)) s := ⟨hKc, fun k q h => by
    match k, h with
    | 0, h => cases h; exact ⟨aI, rI⟩
    | 1, h => cases h; exact ⟨aJ, rJ⟩
    | 2, h => cases h; exact ⟨aZ, rZ⟩
    | k + 3, h => simp [tysOf] at h⟩
  have hgd : ∀ w ∈ lw_gd, w.before #[Value.ref b] s = true := fun w h => hts w (List.mem_filter.mp h).1
  have hN : Nst s := fun a i y h hm => va_Nw.of rfl (hts _ hm)
  have hA : ∀ q : Nat, s.heap.size ≤ q → (fun q : Nat => s.heap.size ≤ q) q := fun _ h => h
  have hbA : ¬ (fun q : Nat => s.heap.size ≤ q) b := Nat.not_le.mpr hbl
  have X : Cc ((p, l, e, room_1, s, m, #[Value.ref b], below), (meth, c, (dC, dI), (cI, cJ, cZ), (fun q : Nat => s.heap.size ≤ q), s.heap), (4, 67, 3992, lw_Z below #[Value.ref b] s)) (cI, cJ, cZ) cL_law RX99 4 9 316 67 3992 := ⟨hx, hb, rfl, hml, rfl, hown, hgd, hlocks, hK, hA, Nat.le_refl _, Nat.le_refl _, Nat.le_refl _, Nat.le_refl _, hN⟩
  have K : wpc ((p, l, e, room_1, s, m, #[Value.ref b], below), (meth, c, (dC, dI), (cI, cJ, cZ), (fun q : Nat => s.heap.size ≤ q), s.heap), (4, 67, 3992, lw_Z below #[Value.ref b] s)) 0 0 0 [(0, .ref b)] [] [] := by
    refine wc_new (pc := 0) X dL_law_0 clO_8 (fs := [.null, .null, .null, .null, .null, .null, .null, .null, .null]) (fun j hj => by rcases (show j = 0 ∨ j = 1 ∨ j = 2 ∨ j = 3 ∨ j = 4 ∨ j = 5 ∨ j = 6 ∨ j = 7 ∨ j = 8 by omega) with rfl | rfl | rfl | rfl | rfl | rfl | rfl | rfl | rfl <;> rfl) nw_99_7 ⟨Nat.le_of_ble_eq_true rfl, Nat.le_of_ble_eq_true rfl⟩ (fun a => ?_)
    refine wc_dup (pc := 3) X dL_law_3 rfl ?_
    refine wc_init (pc := 4) X dL_law_4 (C_8 (cI, cJ, cZ) a []) rfl li_8 ⟨Nat.le_of_ble_eq_true rfl, Nat.le_of_ble_eq_true rfl⟩ ⟨Nat.le_of_ble_eq_true rfl, Nat.le_of_ble_eq_true rfl⟩ (Nat.le_of_ble_eq_true rfl) (fun w1 h1 => ?_)
    obtain ⟨q1, q2, q3, q4, q5, q6, q7, q8, q9, q10, q11, q12, q13, q14, q15, q16, q17, q18, q19, q20, q21, q22, q23, q24, q25, q26, q27, q28, q29, q30, q31, q32, q33, q34, q35, q36, q37, q38, q39, q40, q41, q42, rfl⟩ := h1
    refine wc_sub (w' := wx (fun k => ([a, q1, q2, q3, q4, q5, q6, q7, q8, q9, q10, q11, q12, q13, q14, q15, q16, q17, q18, q19, q20, q21, q22, q23, q24, q25, q26, q27, q28, q29, q30, q31, q32, q33, q34, q35, q36, q37, q38, q39, q40, q41, q42] : List Nat).getD k 0) (cI, cJ, cZ)) [42, 41, 40, 39, 38, 37, 36, 35, 34, 33, 32, 31, 30, 29, 28, 27, 26, 25, 24, 23, 22, 21, 20, 19, 18, 17, 16, 15, 14, 13, 12, 11, 10, 9, 8, 7, 6, 5, 4, 3, 2, 1, 0] (by decide +kernel) rfl ?_
    obtain ⟨ad0, had0⟩ : ∃ f : Nat → Nat, f = (fun k => ([a, q1, q2, q3, q4, q5, q6, q7, q8, q9, q10, q11, q12, q13, q14, q15, q16, q17, q18, q19, q20, q21, q22, q23, q24, q25, q26, q27, q28, q29, q30, q31, q32, q33, q34, q35, q36, q37, q38, q39, q40, q41, q42] : List Nat).getD k 0) := ⟨_, rfl⟩
    have ha0 : a = ad0 0 := by rw [had0]; rfl
    rw [← had0]
    clear had0
    subst ha0
    refine wc_astore_n (pc := 7) X dL_law_7 1 rfl (by decide) (lv' := [(1, .ref (ad0 0)), (0, .ref b)]) rfl ?_
    refine wc_new (pc := 8) X dL_law_8 clO_9 (fs := [.int 0, .int 0, .null, .int 0, .int 0, .null, .null, .null, .null, .null, .int 0, .null, .int 0, .null, .null, .null, .null, .int 0, .null, .null, .int 0, .int 0, .int 0, .int 0, .int 0, .int 0, .null, .null, .int 0, .int 0, .int 0, .null, .int 0, .int 0, .null, .int 0, .int 0, .int 0, .int 0, .null, .null, .null, .null, .null, .null, .int 0, .int 0]) (fun j hj => by rcases (show j = 0 ∨ j = 1 ∨ j = 2 ∨ j = 3 ∨ j = 4 ∨ j = 5 ∨ j = 6 ∨ j = 7 ∨ j = 8 ∨ j = 9 ∨ j = 10 ∨ j = 11 ∨ j = 12 ∨ j = 13 ∨ j = 14 ∨ j = 15 ∨ j = 16 ∨ j = 17 ∨ j = 18 ∨ j = 19 ∨ j = 20 ∨ j = 21 ∨ j = 22 ∨ j = 23 ∨ j = 24 ∨ j = 25 ∨ j = 26 ∨ j = 27 ∨ j = 28 ∨ j = 29 ∨ j = 30 ∨ j = 31 ∨ j = 32 ∨ j = 33 ∨ j = 34 ∨ j = 35 ∨ j = 36 ∨ j = 37 ∨ j = 38 ∨ j = 39 ∨ j = 40 ∨ j = 41 ∨ j = 42 ∨ j = 43 ∨ j = 44 ∨ j = 45 ∨ j = 46 by omega) with rfl | rfl | rfl | rfl | rfl | rfl | rfl | rfl | rfl | rfl | rfl | rfl | rfl | rfl | rfl | rfl | rfl | rfl | rfl | rfl | rfl | rfl | rfl | rfl | rfl | rfl | rfl | rfl | rfl | rfl | rfl | rfl | rfl | rfl | rfl | rfl | rfl | rfl | rfl | rfl | rfl | rfl | rfl | rfl | rfl | rfl | rfl <;> rfl) nw_99_10 ⟨Nat.le_of_ble_eq_true rfl, Nat.le_of_ble_eq_true rfl⟩ (fun a9 => ?_)
    refine wc_dup (pc := 11) X dL_law_11 rfl ?_
    refine wc_init (pc := 12) X dL_law_12 (C_9 (cI, cJ, cZ) ad0 a9 hbeg) rfl li_9 ⟨Nat.le_of_ble_eq_true rfl, Nat.le_of_ble_eq_true rfl⟩ ⟨Nat.le_of_ble_eq_true rfl, Nat.le_of_ble_eq_true rfl⟩ (Nat.le_of_ble_eq_true rfl) (fun w1 h1 => ?_)
    obtain ⟨ad, had, h43, rfl⟩ := h1
    subst h43
    rw [← had 0 (by decide)]
    refine wc_astore_n (pc := 15) X dL_law_15 2 rfl (by decide) (lv' := [(2, .ref (ad 43)), (1, .ref (ad 0)), (0, .ref b)]) rfl ?_
    have X' : ∀ hD0 : va_D (fun q : Nat => s.heap.size ≤ q) (wv ad (cI, cJ, cZ) σ1), Cx ((p, l, e, room_1, s, m, #[Value.ref b], below), (meth, c, (dC, dI), (cI, cJ, cZ), (fun q : Nat => s.heap.size ≤ q), s.heap), (4, 67, 3992, lw_Z below #[Value.ref b] s)) ad cL_law ret RX99 4 9 316 := fun hD0 => ⟨hx, hb, hr, hml, rfl, hown, hgd, hlocks, hK, wv_D hD0, hA, Nat.le_refl _, Nat.le_refl _, Nat.le_refl _, Nat.le_refl _, hN⟩
    intro H locs ls hP hD hS hl
    have K2 : wpm ((p, l, e, room_1, s, m, #[Value.ref b], below), (meth, c, (dC, dI), (cI, cJ, cZ), (fun q : Nat => s.heap.size ≤ q), s.heap), (4, 67, 3992, lw_Z below #[Value.ref b] s)) ad 16 [(2, .ref (ad 43)), (1, .ref (ad 0)), (0, .ref b)] [] σ1 := by
      have X := X' hD
      refine w_iconst (pc := 16) X dL_law_16 (v := 0) rfl ?_
      refine w_istore_n (pc := 17) X dL_law_17 3 rfl (by decide) (lv' := [(3, .int 0), (2, .ref (ad 43)), (1, .ref (ad 0)), (0, .ref b)]) rfl ?_
      exact w_sub (pc := 18) [3, 2, 1, 0] rfl (WL_law_18 X ⟨hX, hbl, hbA⟩ ⟨rfl, rfl, rfl, rfl, rfl, fun _ h => h⟩ FU 0 σ1 hfin)
    exact K2 H locs ls hP hS hl
  rw [lg_entry_eq]
  exact K s.heap [] _ (fun k q h => by simp at h) ⟨fun i j p q h => by simp at h, fun k q h => by simp at h⟩ va_S.rf (lv_entry ([.ref b]) (n := 4) (Nat.le_of_ble_eq_true rfl))
