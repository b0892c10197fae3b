section WC
theorem w_after {p : Program} {l : Launch} {e : Env} {R : Room} {s : State} {m : MethodId} {args : Array Value} {below : List Frame} {meth : Method} {c : Code} {H : Heap} {locs : List Loc} {cells slots : Nat} {Q : State → Prop} {pc : Nat} {ls : Array Slot} {rest st0 : List Value} {a : Array Value} {A0 A1 : Nat → Prop} {H0 : Heap} {free : Addr → Prop} {D : va_G} {ad : Nat → Nat} {c3 : C3} {r : Option Value} {σ' : Sto}
    (hr : va_Run p l e R s m args below meth c H locs cells slots 0 0 (F0 m pc ls st0) rest (Qm D ad c3 A1 r σ' a) free) (hS : va_S A0 H0 H locs) (hA : ∀ q, q < H.size → A1 q → A0 q) (hf : ∀ q, free q → A0 q)
    (kk : ∀ (H1 : Heap) (locs1 : List Loc), va_P D cls (wv ad c3 σ') H1 → va_S A0 H0 H1 locs1 → W p l e R s m args below meth c H1 locs1 cells slots Q (F0 m (pc + 3) ls (r.toList ++ rest))) : W p l e R s m args below meth c H locs cells slots Q (F0 m pc ls st0) := by
  intro T hT X
  obtain ⟨v, st₀, t, T', L, h0, X', hL, e1, e2, ⟨⟨hv, hb⟩, hz, hk⟩, st⟩ := hr T hT X
  cases hv
  rw [h0] at hz hk
  obtain ⟨t2, a1, b1⟩ := kk T'.heap (locs ++ L) (by rw [e1]; exact hb)
    ⟨Nat.le_trans hS.1 (by rw [e1]; exact hz), fun q h1 h2 => by rw [e1, hk q (Nat.lt_of_lt_of_le h1 hS.1) (fun z => h2 (hA q (Nat.lt_of_lt_of_le h1 hS.1) z))]; exact hS.2.1 q h1 h2, fun q hq => by
      rcases List.mem_append.mp hq with h | h
      · exact hS.2.2 q h
      · exact hf _ (hL q h)⟩ T' rfl X'
  exact ⟨t2, st t2 a1, b1⟩
theorem wv_free {A : Nat → Prop} {ad : Nat → Nat} {c3 : C3} {σ : Sto} {H0 H : Heap} {locs : List Loc} (hD : va_D A (wv ad c3 σ)) (hS : va_S A H0 H locs) (hA : ∀ q, H0.size ≤ q → A q) : ∀ q, va_A (wv ad c3 σ) H.size q → A q := by
  intro q h
  rcases h with ⟨k, e, h⟩ | h
  · exact hD.2 k _ h
  · exact hA q (Nat.le_trans hS.1 h)
variable {φ : Fr} {ad : Nat → Nat} {cc : ByteArray} {ret : Option FieldType} {own : String} {n fr lo pc : Nat} {lv lv' : List (Nat × Value)} {st rest : List Value} {σ σ' : Sto}
variable {y : MethodName} {cy : ByteArray} {ny fy ly idx np : Nat} {ry : Option FieldType} {av : (Nat → Nat) → List Value} {r : (Nat → Nat) → Option Value}
abbrev PcOf (D : va_G) (ad : Nat → Nat) (c3 : C3) (sz : Nat) (av : List Value) (σ : Sto) : Array Value → State → Prop := va_Pc av (fun U => U.heap.size = sz ∧ va_P D cls (wv ad c3 σ) U.heap ∧ va_K D cls (tysOf c3) U ∧ va_D (fun _ => True) (wv ad c3 σ) ∧ Nst U)
theorem PcOf_blind {D : va_G} {c3 : C3} {sz : Nat} {av : List Value} : FrameBlind (PcOf D ad c3 sz av σ) := by
  intro a U g mk q
  obtain ⟨q0, q1, qP, qK, qD, qN⟩ := q
  exact ⟨q0, q1, qP, va_K.moved (u := U) (U := U.calling g mk a) (Vm.Alike.refl U.vm) qK, qD, fun a i y h hm => va_Nw.same (u := U) rfl rfl (qN a i y h hm)⟩
theorem PcOf_here {D : va_G} {c3 : C3} {s : State} {H : Heap} {A : Nat → Prop} {av : List Value} (hK : va_K D cls (tysOf c3) s) (hP : va_P D cls (wv ad c3 σ) H) (hD : va_D A (wv ad c3 σ)) (hN : Nst s) : ∀ U : State, U.heap = H → s.WarmedH U.vm → PcOf D ad c3 H.size av σ av.toArray U :=
  fun U hU hW => ⟨rfl, by rw [hU], by rw [hU]; exact hP, va_K.moved hW.alike hK, hD.weaken (fun _ _ _ _ => trivial), fun a i y h hm => va_Nw.warmM hW (hN a i y h hm)⟩
def CW (ws : List Cond) (y : MethodName) (np : Nat) : Prop := (∀ w ∈ ws, w ∈ lw_gd) ∧ (y.cls ≠ "java/lang/invoke/MethodHandle" ∧ y.cls ≠ "java/lang/invoke/VarHandle" ∧ (parseMethodDescriptor y.desc).map (fun d => d.parameters.length) = some np)
theorem good_code {ws : List Cond} {y : MethodName} (h : ∀ w ∈ ws, w ∈ lw_gd) (hc : Cond.code y cy ny ry ∈ ws) : GoodIn lw_gd (.code y cy ny ry :: lw_gd) :=
  lw_goodIn (fun w hw => (List.mem_cons.mp hw).elim (fun e => e ▸ h _ hc) (fun h => h))
theorem w_callV {k ci : Nat} {As : (Nat → Nat) → List Value} {T : u_T} {N : Nat} (X : Cx φ ad cc ret own n fr lo) (hd : decode cc pc = .ok (.invokevirtual idx, 3))
    (hC : Ct y cy ny ry fy ly (fun ad => .ref (ad k) :: As ad) σ r σ') (hk : kd k = ci) (hci : ci ≤ 9) (hcl : cls[ci]? = some (y.cls, T, N)) (hw : CW [.methodLink own idx y, .instanceMethod y, .selects y.cls y y, .initialized y.cls, .code y cy ny ry] y np) (hR : fy + 1 ≤ fr ∧ 8 + (ny + 11) + ly ≤ lo)
    (hnp : (As ad).length = np) (hst : st = (As ad).reverse ++ .ref (ad k) :: rest) (hW : (rest.map fun v => v.category).sum ≤ 8)
    (K : wpm φ ad (pc + 3) lv ((r ad).toList ++ rest) σ') : wpm φ ad pc lv st σ := by
  obtain ⟨⟨p, l, e, R, s, m, args, below⟩, ⟨meth, c, D, c3, A, H0⟩, ⟨nL, cells, slots, Q⟩⟩ := φ
  obtain ⟨hx, hb, hr, hml, hnl, hown, hts, hlk, hK, hD, hA, hfr, hlo, hce, hsl, hN⟩ := X
  subst hnl
  intro H locs ls hP hS hl
  have hG : GoodIn lw_gd (wsV own idx y.cls y (.code y cy ny ry :: lw_gd)) := lw_goodIn (fun w hw1 => by
    rcases List.mem_append.mp hw1 with h | h
    · refine hw.1 w ?_
      simp only [List.mem_cons, List.not_mem_nil, or_false] at h ⊢
      rcases h with h | h | h | h <;> simp [h]
    · rcases List.mem_cons.mp h with h | h
      · exact hw.1 w (by simp [h])
      · exact h)
  have hfree := wv_free (hD σ) hS hA
  refine w_after (a := (Value.ref (ad k) :: As ad).toArray) (va_runV (As := As ad) (rest := rest) (n := np) ⟨hx, hb, hml, hown, hts⟩ (hC l D c3 ad H.size) (cwV np hts hG rfl rfl rfl ⟨rfl, hw.2⟩ ⟨by show fy + 1 ≤ R.frames; omega, by show 8 + (ny + 11) + ly ≤ R.locals; omega⟩) ⟨PcOf_blind, va_recv hK hP hcl (wv_obj hk hci), PcOf_here hK hP (hD σ) hN⟩ rfl hnp hl.1 hst (lv_room hW) hd ⟨hce, hsl⟩) hS (fun q _ h => hfree q h) hfree (fun H1 locs1 hP1 hS1 => ?_)
  exact K H1 locs1 ls hP1 hS1 hl
theorem w_callS (X : Cx φ ad cc ret own n fr lo) (hd : decode cc pc = .ok (.invokestatic idx, 3))
    (hC : Ct y cy ny ry fy ly av σ r σ') (hy : y.cls = own) (hw : CW [.methodLink own idx y, .static y, .initialized own, .code y cy ny ry] y np) (hR : fy + 1 ≤ fr ∧ 8 + (ny + 11) + ly ≤ lo)
    (hnp : (av ad).length = np) (hst : st = (av ad).reverse ++ rest) (hW : (rest.map fun v => v.category).sum ≤ 8)
    (K : wpm φ ad (pc + 3) lv ((r ad).toList ++ rest) σ') : wpm φ ad pc lv st σ := by
  obtain ⟨⟨p, l, e, R, s, m, args, below⟩, ⟨meth, c, D, c3, A, H0⟩, ⟨nL, cells, slots, Q⟩⟩ := φ
  obtain ⟨hx, hb, hr, hml, hnl, hown, hts, hlk, hK, hD, hA, hfr, hlo, hce, hsl, hN⟩ := X
  subst hnl
  intro H locs ls hP hS hl
  have hG : GoodIn lw_gd (wsS own idx y (.code y cy ny ry :: lw_gd)) := lw_goodIn (fun w hw1 => by
    rcases List.mem_append.mp hw1 with h | h
    · refine hw.1 w ?_
      simp only [List.mem_cons, List.not_mem_nil, or_false] at h ⊢
      rcases h with h | h | h <;> simp [h]
    · rcases List.mem_cons.mp h with h | h
      · exact hw.1 w (by simp [h])
      · exact h)
  have hfree := wv_free (hD σ) hS hA
  refine w_after (a := (av ad).toArray) (va_runS (As := av ad) (rest := rest) (n := np) ⟨hx, hb, hml, hown, hts⟩ (hC l D c3 ad H.size) (cwS np hts hG rfl rfl rfl ⟨hy, hw.2⟩ ⟨by show fy + 1 ≤ R.frames; omega, by show 8 + (ny + 11) + ly ≤ R.locals; omega⟩) ⟨PcOf_blind, PcOf_here hK hP (hD σ) hN⟩ rfl hnp hl.1 hst (lv_room hW) hd ⟨hce, hsl⟩) hS (fun q _ h => hfree q h) hfree (fun H1 locs1 hP1 hS1 => ?_)
  exact K H1 locs1 ls hP1 hS1 hl
theorem w_callSN {host : String} (X : Cx φ ad cc ret own n fr lo) (hd : decode cc pc = .ok (.invokestatic idx, 3))
    (hC : Ct y cy ny ry fy ly av σ r σ') (hl0 : Cond.methodLinkNest own idx y host ∈ lw_tbl) (hw : CW [.static y, .initialized y.cls, .code y cy ny ry] y np) (hR : fy + 1 ≤ fr ∧ 8 + (ny + 11) + ly ≤ lo)
    (hnp : (av ad).length = np) (hst : st = (av ad).reverse ++ rest) (hW : (rest.map fun v => v.category).sum ≤ 8)
    (K : wpm φ ad (pc + 3) lv ((r ad).toList ++ rest) σ') : wpm φ ad pc lv st σ := by
  obtain ⟨⟨p, l, e, R, s, m, args, below⟩, ⟨meth, c, D, c3, A, H0⟩, ⟨nL, cells, slots, Q⟩⟩ := φ
  obtain ⟨hx, hb, hr, hml, hnl, hown, hts, hlk, hK, hD, hA, hfr, hlo, hce, hsl, hN⟩ := X
  subst hnl
  intro H locs ls hP hS hl
  have hG : GoodIn lw_gd (.code y cy ny ry :: lw_gd) := good_code hw.1 (by simp)
  have hfree := wv_free (hD σ) hS hA
  refine w_after (a := (av ad).toArray) (va_runSN (As := av ad) (rest := rest) (n := np) ⟨hx, hb, hml, hown, hts⟩ (hC l D c3 ad H.size) ⟨va_cnB np hts hG rfl rfl rfl (hN own idx y host hl0) (hts _ (hw.1 _ (by simp))) hw.2 ⟨by show fy + 1 ≤ R.frames; omega, by show 8 + (ny + 11) + ly ≤ R.locals; omega⟩, hts _ (hw.1 _ (by simp)), trivial⟩ ⟨PcOf_blind, PcOf_here hK hP (hD σ) hN⟩ rfl hnp hl.1 hst (lv_room hW) hd ⟨hce, hsl⟩) hS (fun q _ h => hfree q h) hfree (fun H1 locs1 hP1 hS1 => ?_)
  exact K H1 locs1 ls hP1 hS1 hl
theorem w_mmax {x y : Int32} (X : Cx φ ad cc ret own n fr lo) (hd : decode cc pc = .ok (.invokestatic idx, 3)) (hw : ∀ w ∈ [Cond.methodLink own idx Lib.Math.max.name, .static Lib.Math.max.name, .initialized "java/lang/Math", .code Lib.Math.max.name Lib.Math.max.code 2 (some .int)], w ∈ lw_gd) (hR : 1 ≤ fr ∧ (rest.map fun v => v.category).sum + 13 ≤ lo)
    (K : wpm φ ad (pc + 3) lv (.int (if x < y then y else x) :: rest) σ) : wpm φ ad pc lv (.int y :: .int x :: rest) σ := by
  obtain ⟨⟨p, l, e, R, s, m, args, below⟩, ⟨meth, c, D, c3, A, H0⟩, ⟨nL, cells, slots, Q⟩⟩ := φ
  obtain ⟨hx, hb, hr, hml, hnl, hown, hts, hlk, hK, hD, hA, hfr, hlo, hce, hsl, hN⟩ := X
  subst hnl
  intro H locs ls hP hS hl
  exact va_mmax hx hb (hml.trans hl.1.symm) hown (hts _ (hw _ (by simp))) (hts _ (hw _ (by simp))) (hts _ (hw _ (by simp))) (hts _ (hw _ (by simp))) (by omega) (by omega) hce hsl hd (K H locs ls hP hS hl)
theorem w_mmin {x y : Int32} (X : Cx φ ad cc ret own n fr lo) (hd : decode cc pc = .ok (.invokestatic idx, 3)) (hw : ∀ w ∈ [Cond.methodLink own idx Lib.Math.min.name, .static Lib.Math.min.name, .initialized "java/lang/Math", .code Lib.Math.min.name Lib.Math.min.code 2 (some .int)], w ∈ lw_gd) (hR : 1 ≤ fr ∧ (rest.map fun v => v.category).sum + 13 ≤ lo)
    (K : wpm φ ad (pc + 3) lv (.int (if y < x then y else x) :: rest) σ) : wpm φ ad pc lv (.int y :: .int x :: rest) σ := by
  obtain ⟨⟨p, l, e, R, s, m, args, below⟩, ⟨meth, c, D, c3, A, H0⟩, ⟨nL, cells, slots, Q⟩⟩ := φ
  obtain ⟨hx, hb, hr, hml, hnl, hown, hts, hlk, hK, hD, hA, hfr, hlo, hce, hsl, hN⟩ := X
  subst hnl
  intro H locs ls hP hS hl
  exact va_mmin hx hb (hml.trans hl.1.symm) hown (hts _ (hw _ (by simp))) (hts _ (hw _ (by simp))) (hts _ (hw _ (by simp))) (hts _ (hw _ (by simp))) (by omega) (by omega) hce hsl hd (K H locs ls hP hS hl)
/-- System.arraycopy(a, 0, b, 0, k), of ints -/
theorem w_copy {a b : Nat} {k : Int32} (X : Cx φ ad cc ret own n fr lo) (hd : decode cc pc = .ok (.invokestatic idx, 3)) (hw : ∀ w ∈ [Cond.methodLink own idx arraycopyName, .native arraycopyName, .static arraycopyName, .initialized "java/lang/System"], w ∈ lw_gd) (hR : 1 ≤ fr ∧ (rest.map fun v => v.category).sum + (nativeFrameWords "java/lang/System" "arraycopy" 5 + 11) ≤ lo)
    (ha : kd a = 10) (hb0 : kd b = 10) (h0 : ¬ k < 0) (h4 : k.toNatClampNeg ≤ ln a) (h5 : k.toNatClampNeg ≤ ln b)
    (K : wpm φ ad (pc + 3) lv rest (stC σ a b k.toNatClampNeg)) : wpm φ ad pc lv (.int k :: .int 0 :: .ref (ad b) :: .int 0 :: .ref (ad a) :: rest) σ := by
  obtain ⟨⟨p, l, e, R, s, m, args, below⟩, ⟨meth, c, D, c3, A, H0⟩, ⟨nL, cells, slots, Q⟩⟩ := φ
  obtain ⟨hx, hb, hr, hml, hnl, hown, hts, hlk, hK, hD, hA, hfr, hlo, hce, hsl, hN⟩ := X
  subst hnl
  intro H locs ls hP hS hl
  have z0 : (0 : Int32).toNatClampNeg = 0 := by decide
  refine va_copyi (D := D) hx hb (hml.trans hl.1.symm) hown (hts _ (hw _ (by simp))) (hts _ (hw _ (by simp))) (hts _ (hw _ (by simp))) (hts _ (hw _ (by simp))) hK hP (hD σ) hS a b 0 0 (wv_int ha) (wv_int hb0) rfl rfl rfl (by decide) (by decide) h0 (by rw [z0]; omega) (by rw [z0]; omega) (fun i _ => rfl) (by omega) (by omega) hd (fun H1 locs1 hP1 hD1 hS1 => ?_)
  rw [z0, wv_stC hb0] at hP1
  exact K H1 locs1 ls hP1 hS1 hl
end WC
