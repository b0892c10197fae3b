-- constructors: a world that grows; a new cell comes to its head
theorem pP_perm {D : va_G} {cl : List vw_C} {w w' : va_W} {H : Heap} (h : w.Perm w') (hP : va_P D cl w H) : va_P D cl w' H := by
  intro k q hq
  obtain ⟨i, hi⟩ := List.getElem?_of_mem (h.mem_iff.mpr (List.mem_of_getElem? hq))
  exact hP i q hi
theorem pD_nodup {A : Nat → Prop} {w : va_W} (h : va_D A w) : (w.map (·.1)).Nodup := by
  refine List.pairwise_iff_getElem.mpr fun i j hi hj hij he => ?_
  simp only [List.length_map] at hi hj
  simp only [List.getElem_map] at he
  have := h.1 i j _ _ (List.getElem?_eq_getElem hi) (List.getElem?_eq_getElem hj) he
  omega
theorem pD_of {A : Nat → Prop} {w : va_W} (h : (w.map (·.1)).Nodup) (hA : ∀ q ∈ w, A q.1) : va_D A w := by
  have key : ∀ (i j : Nat) (p q : Nat × va_E), i < j → w[i]? = some p → w[j]? = some q → p.1 = q.1 → False := by
    intro i j p q g hi hj hpq
    obtain ⟨hi1, hi2⟩ := List.getElem?_eq_some_iff.mp hi
    obtain ⟨hj1, hj2⟩ := List.getElem?_eq_some_iff.mp hj
    refine List.pairwise_iff_getElem.mp h i j (by simpa using hi1) (by simpa using hj1) g ?_
    simp only [List.getElem_map]
    rw [hi2, hj2, hpq]
  refine ⟨fun i j p q hi hj hpq => ?_, fun k q hq => hA q (List.mem_of_getElem? hq)⟩
  rcases Nat.lt_trichotomy i j with g | g | g
  · exact (key i j p q g hi hj hpq).elim
  · exact g
  · exact (key j i q p g hj hi hpq.symm).elim
theorem pD_perm {A : Nat → Prop} {w w' : va_W} (h : w.Perm w') (hD : va_D A w) : va_D A w' :=
  pD_of ((h.map _).nodup_iff.mp (pD_nodup hD)) (fun q hq => by
    obtain ⟨i, hi⟩ := List.getElem?_of_mem (h.mem_iff.mpr hq)
    exact hD.2 i q hi)
theorem p_head {w : va_W} {x : Nat × va_E} : (w ++ [x]).Perm (x :: w) := List.perm_append_comm
def wpc (φ : Fr) (k n : Nat) (pc : Nat) (lv : List (Nat × Value)) (st : List Value) (w : va_W) : Prop := match φ with
  | ((p, l, e, R, s, m, args, below), (meth, c, D, c3, A, H0), (nL, _, _, Q)) =>
    ∀ (H : Heap) (locs : List Loc) (ls : Array Slot), va_P D cls w H → va_D A w → va_S A H0 H locs → lv_has ls nL lv → W p l e R s m args below meth c H locs k n Q (F0 m pc ls st)
def Cc (φ : Fr) (c3 : C3) (cc : ByteArray) (own : String) (n fr lo rc rs : Nat) : Prop := match φ with
  | ((p, l, e, R, s, m, args, below), (meth, c, D, c3', A, H0), (nL, _, _, Q)) =>
    p.tables.exec = Jvm.exec ∧ c.code = cc ∧ c3' = c3 ∧ c.maxLocals = n ∧ nL = n ∧ s.vm.findClass own = some m.cls ∧ (∀ w ∈ lw_gd, w.before args s = true) ∧ meth.locks = false ∧ va_K D cls (tysOf c3) s ∧ (∀ q, H0.size ≤ q → A q) ∧ fr ≤ R.frames ∧ lo ≤ R.locals ∧ rc ≤ R.cells ∧ rs ≤ R.slots ∧ Nst s
def Ci (φ : Fr) : Prop := match φ with
  | ((p, l, e, R, s, m, args, below), (meth, c, D, c3', A, H0), (nL, _, _, Q)) => meth.name = "<init>" ∧ meth.sig.returnType = none
/-- a constructor's end -/
def Qc (D : va_G) (A : Nat → Prop) (post : va_W → Prop) : Array Value → State → Outcome → State → Prop := fun _ st oc t => (oc = .returned none ∧ ∃ w', post w' ∧ va_P D cls w' t.heap ∧ va_D A w') ∧ va_F A st t
def Finc (φ : Fr) (mc ms : Nat) (post : va_W → Prop) : Prop := match φ with
  | ((p, l, e, R, s, m, args, below), (meth, c, D, c3, A, H0), (nL, _, _, Q)) => Q = MQ below (Qc D A post) args s mc ms A ∧ H0 = s.heap
def Cn (y : MethodName) (cc : ByteArray) (fr lo mc ms : Nat) (c3 : C3) (a : Nat) (w : va_W) (post : va_W → Prop) : Prop :=
  ∀ (l : Launch) (D : va_G) (sz : Nat), Met l y (.code y cc 1 none :: lw_gd) { frames := fr, cells := mc, slots := ms, locals := lo } (va_Pc [.ref a] (fun U => U.heap.size = sz ∧ va_P D cls w U.heap ∧ va_K D cls (tysOf c3) U ∧ va_D (fun _ => True) w ∧ Nst U)) (Qc D (va_A w sz) post) mc ms (va_A w sz)
theorem Cn_of {y : MethodName} {cc : ByteArray} {fr lo mc ms : Nat} {c3 : C3} {a : Nat} {w : va_W} {post : va_W → Prop} (hy : plainName y.cls = true) (hin : y.name = "<init>")
    (body : ∀ φ : Fr, Cc φ c3 cc y.cls 1 fr lo mc ms → Ci φ → Finc φ mc ms post → wpc φ 0 0 0 [(0, .ref a)] [] w) : Cn y cc fr lo mc ms c3 a w post := by
  intro l D sz
  refine Met.ofW (cc := cc) (maxL := 1) (ret := none) hy rfl ?_
  intro p e s m args below meth c s₁ B hml hv
  obtain ⟨rfl, hsz, hP, hK, hD0, hN⟩ := hv
  subst hsz
  have hts : ∀ z ∈ lw_gd, z.before ([.ref a] : List Value).toArray s = true := fun z hz => atoms_spec (ws := .code y cc 1 none :: lw_gd) B.pre z (List.mem_cons_of_mem _ hz)
  have hD : va_D (va_A w s.heap.size) w := hD0.self (sz := s.heap.size)
  have K := body ((p, l, e, (headSpec (.code y cc 1 none :: lw_gd) { frames := fr, cells := mc, slots := ms, locals := lo }).room, s, m, ([.ref a] : List Value).toArray, below), (meth, c, D, c3, va_A w s.heap.size, s.heap), (1, 0, 0, MQ below (Qc D (va_A w s.heap.size) post) ([.ref a] : List Value).toArray s mc ms (va_A w s.heap.size)))
    ⟨B.exec, B.bytes, rfl, hml, rfl, findClass_of_methodNamed B.named, hts, B.notSynchronized, hK, fun q h => Or.inr h, Nat.le_refl _, Nat.le_refl _, Nat.le_refl _, Nat.le_refl _, hN⟩ ⟨(name_of_methodNamed B.named B.method).1.trans hin, B.returns⟩ ⟨rfl, rfl⟩
  rw [lg_entry_eq]
  exact K s.heap [] _ hP hD va_S.rf (lv_entry [.ref a] (Nat.le_of_ble_eq_true rfl))
section WCN
variable {φ : Fr} {c3 : C3} {cc : ByteArray} {own : String} {n fr lo rc rs k m0 pc : Nat} {lv lv' : List (Nat × Value)} {st : List Value} {w w' : va_W}
theorem wc_aload_n {j : Fin 4} {x : Nat} (X : Cc φ c3 cc own n fr lo rc rs) (hd : decode cc pc = .ok (.aload_n j, 1)) (i : Nat) (hj : lv[i]? = some ((j : Nat), .ref x)) (K : wpc φ k m0 (pc + 1) lv (.ref x :: st) w) : wpc φ k m0 pc lv st w := by
  obtain ⟨⟨p, l, e, R, s, m, args, below⟩, ⟨meth, c, D, c3', A, H0⟩, ⟨nL, k', n', Q⟩⟩ := φ
  obtain ⟨hx, hb, hc3, hml, hnl, hown, hts, hlk, hK, hA, hfr, hlo, hce, hsl, hN⟩ := X
  subst hnl hc3
  intro H locs ls hP hD hS hl
  exact lv_aload_n hx hb hd rfl (lv_at hl i hj) (K H locs ls hP hD hS hl)
theorem wc_astore_n {j : Fin 4} {x : Nat} (X : Cc φ c3 cc own n fr lo rc rs) (hd : decode cc pc = .ok (.astore_n j, 1)) (i : Nat) (hi : (j : Nat) = i) (hn : i < n) (hv : (i, Value.ref x) :: lv.filter (fun q => !(q.1 == i) && !(q.1 + 1 == i && q.2.category == 2)) = lv') (K : wpc φ k m0 (pc + 1) lv' st w) : wpc φ k m0 pc lv (.ref x :: st) w := by
  obtain ⟨⟨p, l, e, R, s, m, args, below⟩, ⟨meth, c, D, c3', A, H0⟩, ⟨nL, k', n', Q⟩⟩ := φ
  obtain ⟨hx, hb, hc3, hml, hnl, hown, hts, hlk, hK, hA, hfr, hlo, hce, hsl, hN⟩ := X
  subst hnl hc3
  intro H locs ls hP hD hS hl
  exact lv_astore_n hx hb hd hi hl hn hv (fun ls' hl' => K H locs ls' hP hD hS hl')
theorem wc_iconst {z : Int} {v : Int32} (X : Cc φ c3 cc own n fr lo rc rs) (hd : decode cc pc = .ok (.iconst z, 1)) (hv : Int32.ofInt z = v) (K : wpc φ k m0 (pc + 1) lv (.int v :: st) w) : wpc φ k m0 pc lv st w := by
  obtain ⟨⟨p, l, e, R, s, m, args, below⟩, ⟨meth, c, D, c3', A, H0⟩, ⟨nL, k', n', Q⟩⟩ := φ
  obtain ⟨hx, hb, hc3, hml, hnl, hown, hts, hlk, hK, hA, hfr, hlo, hce, hsl, hN⟩ := X
  subst hnl hc3
  intro H locs ls hP hD hS hl
  exact lv_iconst hx hb hd hv (K H locs ls hP hD hS hl)
theorem wc_bipush {z : Int} {v : Int32} (X : Cc φ c3 cc own n fr lo rc rs) (hd : decode cc pc = .ok (.bipush z, 2)) (hv : (Int8.ofInt z).toInt32 = v) (K : wpc φ k m0 (pc + 2) lv (.int v :: st) w) : wpc φ k m0 pc lv st w := by
  obtain ⟨⟨p, l, e, R, s, m, args, below⟩, ⟨meth, c, D, c3', A, H0⟩, ⟨nL, k', n', Q⟩⟩ := φ
  obtain ⟨hx, hb, hc3, hml, hnl, hown, hts, hlk, hK, hA, hfr, hlo, hce, hsl, hN⟩ := X
  subst hnl hc3
  intro H locs ls hP hD hS hl
  exact lv_bipush hx hb hd hv (K H locs ls hP hD hS hl)
theorem wc_sipush {z : Int} {v : Int32} (X : Cc φ c3 cc own n fr lo rc rs) (hd : decode cc pc = .ok (.sipush z, 3)) (hv : (Int16.ofInt z).toInt32 = v) (K : wpc φ k m0 (pc + 3) lv (.int v :: st) w) : wpc φ k m0 pc lv st w := by
  obtain ⟨⟨p, l, e, R, s, m, args, below⟩, ⟨meth, c, D, c3', A, H0⟩, ⟨nL, k', n', Q⟩⟩ := φ
  obtain ⟨hx, hb, hc3, hml, hnl, hown, hts, hlk, hK, hA, hfr, hlo, hce, hsl, hN⟩ := X
  subst hnl hc3
  intro H locs ls hP hD hS hl
  exact lv_sipush hx hb hd hv (K H locs ls hP hD hS hl)
theorem wc_dup {v : Value} (X : Cc φ c3 cc own n fr lo rc rs) (hd : decode cc pc = .ok (.dup, 1)) (h1 : v.category = 1) (K : wpc φ k m0 (pc + 1) lv (v :: v :: st) w) : wpc φ k m0 pc lv (v :: st) w := by
  obtain ⟨⟨p, l, e, R, s, m, args, below⟩, ⟨meth, c, D, c3', A, H0⟩, ⟨nL, k', n', Q⟩⟩ := φ
  obtain ⟨hx, hb, hc3, hml, hnl, hown, hts, hlk, hK, hA, hfr, hlo, hce, hsl, hN⟩ := X
  subst hnl hc3
  intro H locs ls hP hD hS hl
  exact lv_dup hx hb hd h1 (K H locs ls hP hD hS hl)
theorem wc_objInit {idx a : Nat} (X : Cc φ c3 cc own n fr lo rc rs) (hd : decode cc pc = .ok (.invokespecial idx, 3)) (hw : ∀ z ∈ [Cond.methodLink own idx Lib.objectInit, .instanceMethod Lib.objectInit, .code Lib.objectInit ⟨#[0xb1]⟩ 1 none], z ∈ lw_gd) (hR : 1 ≤ fr ∧ (st.map fun v => v.category).sum + 12 ≤ lo) (K : wpc φ k m0 (pc + 3) lv st w) : wpc φ k m0 pc lv (.ref a :: st) w := by
  obtain ⟨⟨p, l, e, R, s, m, args, below⟩, ⟨meth, c, D, c3', A, H0⟩, ⟨nL, k', n', Q⟩⟩ := φ
  obtain ⟨hx, hb, hc3, hml, hnl, hown, hts, hlk, hK, hA, hfr, hlo, hce, hsl, hN⟩ := X
  subst hnl hc3
  intro H locs ls hP hD hS hl
  refine W.objInit hx hb hown (hts _ (hw _ (by simp))) (hts _ (hw _ (by simp))) (hts _ (hw _ (by simp))) rfl (by rw [hml]; exact hl.1) rfl hd (by omega) (by show 2 * 0 + _ + 12 ≤ _; omega) ?_
  exact W.eq (g2 := F0 m (pc + 3) ls st) rfl (K H locs ls hP hD hS hl)
theorem wc_put {ci idx N a q0 : Nat} {C : String} {T : u_T} {ty : Nat → FieldType} {v : Value} {fs : List Value} (X : Cc φ c3 cc own n fr lo rc rs) (hd : decode cc pc = .ok (.putfield idx, 3)) (hC : CO ci C T N ty) (he : w[q0]? = some (a, .inr (ci, fs))) (j : Nat) (hj : j < N) (hfi : (T j).2.2.2 = false) (hn : narrow (ty j) v = v) (hft : fits (ty j) v = true) (hl0 : j < fs.length) (hw : Cond.fieldLink own idx (T j).1 (T j).2.1 (T j).2.2.1 ∈ lw_gd) (e : w.set q0 (a, .inr (ci, fs.set j v)) = w') (K : wpc φ k m0 (pc + 3) lv st w') : wpc φ k m0 pc lv (v :: .ref a :: st) w := by
  obtain ⟨⟨p, l, e0, R, s, m, args, below⟩, ⟨meth, c, D, c3', A, H0⟩, ⟨nL, k', n', Q⟩⟩ := φ
  obtain ⟨hx, hb, hc3, hml, hnl, hown, hts, hlk, hK, hA, hfr, hlo, hce, hsl, hN⟩ := X
  subst hnl hc3 e
  intro H locs ls hP hD hS hl
  obtain ⟨h1, h9, h2, h3, h4, h5⟩ := hC
  exact va_put (D := D) (ci := ci) (v := v) (C := C) (T := T) (N := N) hx hb hts h3 ty h4 h5 hown hK hP hD hS q0 he h1 j hj (hts _ hw) (fun _ q => q) hfi (h4 j hj) hn hft hl0 hd (fun H1 locs1 hP1 hD1 hS1 => K H1 locs1 ls hP1 hD1 hS1 hl)
theorem wc_putF {ci idx N a q0 : Nat} {C : String} {T : u_T} {ty : Nat → FieldType} {v : Value} {fs : List Value} (X : Cc φ c3 cc own n fr lo rc rs) (I0 : Ci φ) (hd : decode cc pc = .ok (.putfield idx, 3)) (hC : CO ci C T N ty) (he : w[q0]? = some (a, .inr (ci, fs))) (j : Nat) (hj : j < N) (hfi : (T j).2.2.2 = true) (hdc : (T j).1 = own) (hn : narrow (ty j) v = v) (hft : fits (ty j) v = true) (hl0 : j < fs.length) (hw : Cond.fieldLink own idx (T j).1 (T j).2.1 (T j).2.2.1 ∈ lw_gd) (e : w.set q0 (a, .inr (ci, fs.set j v)) = w') (K : wpc φ k m0 (pc + 3) lv st w') : wpc φ k m0 pc lv (v :: .ref a :: st) w := by
  obtain ⟨⟨p, l, e0, R, s, m, args, below⟩, ⟨meth, c, D, c3', A, H0⟩, ⟨nL, k', n', Q⟩⟩ := φ
  obtain ⟨hx, hb, hc3, hml, hnl, hown, hts, hlk, hK, hA, hfr, hlo, hce, hsl, hN⟩ := X
  subst hnl hc3 e
  intro H locs ls hP hD hS hl
  obtain ⟨h1, h9, h2, h3, h4, h5⟩ := hC
  exact va_putF (D := D) (ci := ci) (v := v) (C := C) (T := T) (N := N) hx hb hts h3 ty h4 h5 hown hK hP hD hS q0 he h1 j hj (hts _ hw) (fun _ q => q) hfi I0.1 hdc (h4 j hj) hn hft hl0 hd (fun H1 locs1 hP1 hD1 hS1 => K H1 locs1 ls hP1 hD1 hS1 hl)
theorem wc_newI {v : Int32} {N : Nat} (X : Cc φ c3 cc own n fr lo rc rs) (hd : decode cc pc = .ok (.newarray .int, 2)) (hn : ¬ v < 0) (hN : v.toNatClampNeg = N) (hb1 : N ≤ 4096) (hw : Cond.arrayClass .int ∈ lw_gd) (hc : k + 1 ≤ rc ∧ m0 + N ≤ rs) (K : ∀ q : Nat, wpc φ (k + 1) (m0 + N) (pc + 2) lv (.ref q :: st) ((q, .inl (c3.1, N, .inl (fun _ => 0))) :: w)) : wpc φ k m0 pc lv (.int v :: st) w := by
  obtain ⟨⟨p, l, e, R, s, m, args, below⟩, ⟨meth, c, D, c3', A, H0⟩, ⟨nL, k', n', Q⟩⟩ := φ
  obtain ⟨hx, hb, hc3, hml, hnl, hown, hts, hlk, hK, hA, hfr, hlo, hce, hsl, hN0⟩ := X
  subst hnl hc3
  intro H locs ls hP hD hS hl
  refine va_newa (atype := .int) (ty := .int) (a0 := (N, .inl (fun _ => 0))) hx hb (hts _ hw) rfl hK hP hD hS hA (fun cA => rfl) hn hN (by show N * 4 ≤ _; omega) (by omega) (by omega) hd (fun q cA H1 hK1 hP1 hD1 hS1 => ?_)
  have e1 : cA = c3'.1 := by
    have g1 := (hK1.2 3 (cA, .int) rfl).2
    have g2 := (hK.2 0 (c3'.1, .int) rfl).2
    exact Option.some.inj (g1.symm.trans g2)
  subst e1
  exact K q H1 locs ls (pP_perm p_head hP1) (pD_perm p_head hD1) hS1 hl
theorem wc_newJ {v : Int32} {N : Nat} (X : Cc φ c3 cc own n fr lo rc rs) (hd : decode cc pc = .ok (.newarray .long, 2)) (hn : ¬ v < 0) (hN : v.toNatClampNeg = N) (hb1 : N ≤ 4096) (hw : Cond.arrayClass .long ∈ lw_gd) (hc : k + 1 ≤ rc ∧ m0 + N ≤ rs) (K : ∀ q : Nat, wpc φ (k + 1) (m0 + N) (pc + 2) lv (.ref q :: st) ((q, .inl (c3.2.1, N, .inr (.inl (fun _ => 0)))) :: w)) : wpc φ k m0 pc lv (.int v :: st) w := by
  obtain ⟨⟨p, l, e, R, s, m, args, below⟩, ⟨meth, c, D, c3', A, H0⟩, ⟨nL, k', n', Q⟩⟩ := φ
  obtain ⟨hx, hb, hc3, hml, hnl, hown, hts, hlk, hK, hA, hfr, hlo, hce, hsl, hN0⟩ := X
  subst hnl hc3
  intro H locs ls hP hD hS hl
  refine va_newa (atype := .long) (ty := .long) (a0 := (N, .inr (.inl (fun _ => 0)))) hx hb (hts _ hw) rfl hK hP hD hS hA (fun cA => rfl) hn hN (by show N * 8 ≤ _; omega) (by omega) (by omega) hd (fun q cA H1 hK1 hP1 hD1 hS1 => ?_)
  have e1 : cA = c3'.2.1 := by
    have g1 := (hK1.2 3 (cA, .long) rfl).2
    have g2 := (hK.2 1 (c3'.2.1, .long) rfl).2
    exact Option.some.inj (g1.symm.trans g2)
  subst e1
  exact K q H1 locs ls (pP_perm p_head hP1) (pD_perm p_head hD1) hS1 hl
theorem wc_newZ {v : Int32} {N : Nat} (X : Cc φ c3 cc own n fr lo rc rs) (hd : decode cc pc = .ok (.newarray .boolean, 2)) (hn : ¬ v < 0) (hN : v.toNatClampNeg = N) (hb1 : N ≤ 4096) (hw : Cond.arrayClass .boolean ∈ lw_gd) (hc : k + 1 ≤ rc ∧ m0 + N ≤ rs) (K : ∀ q : Nat, wpc φ (k + 1) (m0 + N) (pc + 2) lv (.ref q :: st) ((q, .inl (c3.2.2, N, .inl (fun _ => 0))) :: w)) : wpc φ k m0 pc lv (.int v :: st) w := by
  obtain ⟨⟨p, l, e, R, s, m, args, below⟩, ⟨meth, c, D, c3', A, H0⟩, ⟨nL, k', n', Q⟩⟩ := φ
  obtain ⟨hx, hb, hc3, hml, hnl, hown, hts, hlk, hK, hA, hfr, hlo, hce, hsl, hN0⟩ := X
  subst hnl hc3
  intro H locs ls hP hD hS hl
  refine va_newa (atype := .boolean) (ty := .boolean) (a0 := (N, .inl (fun _ => 0))) hx hb (hts _ hw) rfl hK hP hD hS hA (fun cA => rfl) hn hN (by show N * 1 ≤ _; omega) (by omega) (by omega) hd (fun q cA H1 hK1 hP1 hD1 hS1 => ?_)
  have e1 : cA = c3'.2.2 := by
    have g1 := (hK1.2 3 (cA, .boolean) rfl).2
    have g2 := (hK.2 2 (c3'.2.2, .boolean) rfl).2
    exact Option.some.inj (g1.symm.trans g2)
  subst e1
  exact K q H1 locs ls (pP_perm p_head hP1) (pD_perm p_head hD1) hS1 hl
theorem wc_new {ci idx N : Nat} {C : String} {T : u_T} {ty : Nat → FieldType} {fs : List Value} (X : Cc φ c3 cc own n fr lo rc rs) (hd : decode cc pc = .ok (.new idx, 3)) (hC : CO ci C T N ty) (hfs : ∀ j, j < N → defaultValue (ty j) = vp_V fs j) (hw : ∀ z ∈ [Cond.classLink own idx C, .instantiable C N, .initialized C], z ∈ lw_gd) (hc : k + 1 ≤ rc ∧ m0 + N ≤ rs) (K : ∀ q : Nat, wpc φ (k + 1) (m0 + N) (pc + 3) lv (.ref q :: st) ((q, .inr (ci, fs)) :: w)) : wpc φ k m0 pc lv st w := by
  obtain ⟨⟨p, l, e, R, s, m, args, below⟩, ⟨meth, c, D, c3', A, H0⟩, ⟨nL, k', n', Q⟩⟩ := φ
  obtain ⟨hx, hb, hc3, hml, hnl, hown, hts, hlk, hK, hA, hfr, hlo, hce, hsl, hN0⟩ := X
  subst hnl hc3
  intro H locs ls hP hD hS hl
  obtain ⟨h1, h9, h2, h3, h4, h5⟩ := hC
  exact va_new (ci := ci) (fs := fs) (C := C) (T := T) (N := N) hx hb hts h3 ty h4 hown (hts _ (hw _ (by simp))) (hts _ (hw _ (by simp))) (hts _ (hw _ (by simp))) hK hP hD hS hA h1 hfs (by omega) (by omega) hd (fun q H1 hP1 hD1 hS1 => K q H1 locs ls (pP_perm p_head hP1) (pD_perm p_head hD1) hS1 hl)
theorem wc_vret {post : va_W → Prop} (X : Cc φ c3 cc own n fr lo rc rs) (I0 : Ci φ) (hQ : Finc φ rc rs post) (hd : decode cc pc = .ok (.return_, 1)) (hp : post w) (hk : k ≤ rc ∧ m0 ≤ rs) : wpc φ k m0 pc lv [] w := by
  obtain ⟨⟨p, l, e, R, s, m, args, below⟩, ⟨meth, c, D, c3', A, H0⟩, ⟨nL, k', n', Q⟩⟩ := φ
  obtain ⟨hx, hb, hc3, hml, hnl, hown, hts, hlk, hK, hA, hfr, hlo, hce, hsl, hN0⟩ := X
  subst hnl hc3
  intro H locs ls hP hD hS hl
  obtain ⟨rfl, rfl⟩ := hQ
  refine W.widen hk.1 hk.2 ?_
  exact W.vret hx hb I0.2 (fun t ht hW => ⟨⟨rfl, w, hp, by rw [ht]; exact hP, hD⟩, hS.F ht⟩) hS.2.2 hd hlk
theorem w_afterC {p : Program} {l : Launch} {e : Env} {R : Room} {s : State} {m : MethodId} {args : Array Value} {below : List Frame} {meth : Method} {c : Code} {H : Heap} {locs : List Loc} {cells slots mc ms : Nat} {Q : State → Prop} {pc : Nat} {ls : Array Slot} {rest st0 : List Value} {a : Array Value} {A0 A1 : Nat → Prop} {H0 : Heap} {free : Addr → Prop} {D : va_G} {post : va_W → Prop}
    (hr : va_Run p l e R s m args below meth c H locs cells slots mc ms (F0 m pc ls st0) rest (Qc D A1 post a) free) (hS : va_S A0 H0 H locs) (hA : ∀ q, A1 q → A0 q) (hf : ∀ q, free q → A0 q)
    (kk : ∀ (H1 : Heap) (locs1 : List Loc) (w' : va_W), post w' → va_P D cls w' H1 → va_D A0 w' → va_S A0 H0 H1 locs1 → W p l e R s m args below meth c H1 locs1 (cells + mc) (slots + ms) Q (F0 m (pc + 3) ls rest)) : W p l e R s m args below meth c H locs cells slots Q (F0 m pc ls st0) := by
  intro T hT X
  obtain ⟨v, st₀, t, T', L, h0, X', hL, e1, e2, ⟨⟨hv, w', hpo, hb, hd⟩, hz, hk⟩, st⟩ := hr T hT X
  cases hv
  rw [h0] at hz hk
  obtain ⟨t2, a1, b1⟩ := kk T'.heap (locs ++ L) w' hpo (by rw [e1]; exact hb) (hd.weaken (fun k q _ h => hA q.1 h))
    ⟨Nat.le_trans hS.1 (by rw [e1]; exact hz), fun q h1 h2 => by rw [e1, hk q (Nat.lt_of_lt_of_le h1 hS.1) (fun z => h2 (hA q z))]; exact hS.2.1 q h1 h2, fun q hq => by
      rcases List.mem_append.mp hq with h | h
      · exact hS.2.2 q h
      · exact hf _ (hL q h)⟩ T' rfl X'
  exact ⟨t2, st t2 a1, b1⟩
theorem w_freeW {A : Nat → Prop} {H0 H : Heap} {locs : List Loc} (hD : va_D A w) (hS : va_S A H0 H locs) (hA : ∀ q, H0.size ≤ q → A q) : ∀ q, va_A w H.size q → A q := by
  intro q h
  rcases h with ⟨k, e, h⟩ | h
  · exact hD.2 k _ h
  · exact hA q (Nat.le_trans hS.1 h)
theorem PcW_blind {D : va_G} {c3 : C3} {sz : Nat} {av : List Value} : FrameBlind (va_Pc av (fun U => U.heap.size = sz ∧ va_P D cls w U.heap ∧ va_K D cls (tysOf c3) U ∧ va_D (fun _ => True) w ∧ Nst U)) := by
  intro a U g mk q
  obtain ⟨q0, q1, qP, qK, qD, qN⟩ := q
  exact ⟨q0, q1, qP, va_K.moved (u := U) (U := U.calling g mk a) (Vm.Alike.refl U.vm) qK, qD, fun a i y h hm => va_Nw.same (u := U) rfl rfl (qN a i y h hm)⟩
/-- a nest mate's constructor -/
theorem wc_initN {host : String} {y : MethodName} {cy : ByteArray} {fy ly mc ms idx a : Nat} {post : va_W → Prop} (X : Cc φ c3 cc own n fr lo rc rs) (hd : decode cc pc = .ok (.invokespecial idx, 3))
    (hC : Cn y cy fy ly mc ms c3 a w post) (hl0 : Cond.methodLinkNest own idx y host ∈ lw_tbl) (hy : y.name = "<init>") (hw : CW [.instanceMethod y, .initialized y.cls, .code y cy 1 none] y 0) (hR : fy + 1 ≤ fr ∧ 8 + (1 + 11) + ly ≤ lo) (hc : k + mc ≤ rc ∧ m0 + ms ≤ rs) (hW : (st.map fun v => v.category).sum ≤ 8)
    (K : ∀ w', post w' → wpc φ (k + mc) (m0 + ms) (pc + 3) lv st w') : wpc φ k m0 pc lv (.ref a :: st) w := by
  obtain ⟨⟨p, l, e, R, s, m, args, below⟩, ⟨meth, c, D, c3', A, H0⟩, ⟨nL, k', n', Q⟩⟩ := φ
  obtain ⟨hx, hb, hc3, hml, hnl, hown, hts, hlk, hK, hA, hfr, hlo, hce, hsl, hN⟩ := X
  subst hnl hc3
  intro H locs ls hP hD hS hl
  have hG : GoodIn lw_gd (.code y cy 1 none :: lw_gd) := good_code hw.1 (by simp)
  have hfree := w_freeW hD hS hA
  refine w_afterC (a := (Value.ref a :: []).toArray) (va_runIN (As := []) (rest := st) (n := 0) ⟨hx, hb, hml, hown, hts⟩ (hC l D H.size) ⟨va_cnB 0 hts hG rfl rfl rfl (hN own idx y host hl0) (hts _ (hw.1 _ (by simp))) hw.2 ⟨by show fy + 1 ≤ R.frames; omega, by show 8 + (1 + 11) + ly ≤ R.locals; omega⟩, hy, hts _ (hw.1 _ (by simp))⟩ ⟨PcW_blind, fun U hU hW => ⟨rfl, by rw [hU], by rw [hU]; exact hP, va_K.moved hW.alike hK, hD.weaken (fun _ _ _ _ => trivial), fun a i y h hm => va_Nw.warmM hW (hN a i y h hm)⟩⟩ rfl rfl hl.1 rfl (lv_room hW) hd ⟨by omega, by omega⟩) hS hfree hfree (fun H1 locs1 w' hpo hP1 hD1 hS1 => ?_)
  exact K w' hpo H1 locs1 ls hP1 hD1 hS1 hl
/-- a public constructor -/
theorem wc_init {y : MethodName} {cy : ByteArray} {fy ly mc ms idx a : Nat} {post : va_W → Prop} (X : Cc φ c3 cc own n fr lo rc rs) (hd : decode cc pc = .ok (.invokespecial idx, 3))
    (hC : Cn y cy fy ly mc ms c3 a w post) (hy : y.name = "<init>") (hw : CW [.methodLink own idx y, .instanceMethod y, .initialized y.cls, .code y cy 1 none] y 0) (hR : fy + 1 ≤ fr ∧ 8 + (1 + 11) + ly ≤ lo) (hc : k + mc ≤ rc ∧ m0 + ms ≤ rs) (hW : (st.map fun v => v.category).sum ≤ 8)
    (K : ∀ w', post w' → wpc φ (k + mc) (m0 + ms) (pc + 3) lv st w') : wpc φ k m0 pc lv (.ref a :: st) w := by
  obtain ⟨⟨p, l, e, R, s, m, args, below⟩, ⟨meth, c, D, c3', A, H0⟩, ⟨nL, k', n', Q⟩⟩ := φ
  obtain ⟨hx, hb, hc3, hml, hnl, hown, hts, hlk, hK, hA, hfr, hlo, hce, hsl, hN⟩ := X
  subst hnl hc3
  intro H locs ls hP hD hS hl
  have hG : GoodIn lw_gd (.code y cy 1 none :: lw_gd) := good_code hw.1 (by simp)
  have hfree := w_freeW hD hS hA
  refine w_afterC (a := (Value.ref a :: []).toArray) (va_runI (As := []) (rest := st) (n := 0) ⟨hx, hb, hml, hown, hts⟩ (hC l D H.size) (cwI 0 hts hG rfl rfl rfl (hts _ (hw.1 _ (by simp))) (hts _ (hw.1 _ (by simp))) (hts _ (hw.1 _ (by simp))) hy hw.2 ⟨by show fy + 1 ≤ R.frames; omega, by show 8 + (1 + 11) + ly ≤ R.locals; omega⟩) ⟨PcW_blind, fun U hU hW => ⟨rfl, by rw [hU], by rw [hU]; exact hP, va_K.moved hW.alike hK, hD.weaken (fun _ _ _ _ => trivial), fun a i y h hm => va_Nw.warmM hW (hN a i y h hm)⟩⟩ rfl rfl hl.1 rfl (lv_room hW) hd ⟨by omega, by omega⟩) hS hfree hfree (fun H1 locs1 w' hpo hP1 hD1 hS1 => ?_)
  exact K w' hpo H1 locs1 ls hP1 hD1 hS1 hl
end WCN
