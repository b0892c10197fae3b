section WP
variable {φ : Fr} {ad : Nat → Nat} {cc : ByteArray} {ret : Option FieldType} {own : String} {n fr lo pc : Nat} {lv lv' : List (Nat × Value)} {st : List Value} {σ : Sto}
theorem w_sub (ks : List Nat) (hl : lv_pick lv ks = lv') (K : wpm φ ad pc lv' st σ) : wpm φ ad pc lv st σ := by
  obtain ⟨⟨p, l, e, R, s, m, args, below⟩, ⟨meth, c, D, c3, A, H0⟩, ⟨nL, cells, slots, Q⟩⟩ := φ
  intro H locs ls hP hS hh
  exact K H locs ls hP hS (lv_sub hh ks hl)
theorem w_at {pc' : Nat} (h : pc' = pc) (K : wpm φ ad pc' lv st σ) : wpm φ ad pc lv st σ := h ▸ K
theorem w_iconst {z : Int} {v : Int32} (X : Cx φ ad cc ret own n fr lo) (hd : decode cc pc = .ok (.iconst z, 1)) (hv : Int32.ofInt z = v) (K : wpm φ ad (pc + 1) lv (.int v :: st) σ) : wpm φ ad pc lv st σ := by
  obtain ⟨⟨p, l, e, R, s, m, args, below⟩, ⟨meth, c, D, c3, A, H0⟩, ⟨nL, cells, slots, Q⟩⟩ := φ
  obtain ⟨hx, hb, hr, hml, hnl, hown, hts, hlk, hK, hD, hA, hfr, hlo, hce, hsl, hN⟩ := X
  subst hnl
  intro H locs ls hP hS hl
  exact lv_iconst hx hb hd hv (K H locs ls hP hS hl)
theorem w_bipush {z : Int} {v : Int32} (X : Cx φ ad cc ret own n fr lo) (hd : decode cc pc = .ok (.bipush z, 2)) (hv : (Int8.ofInt z).toInt32 = v) (K : wpm φ ad (pc + 2) lv (.int v :: st) σ) : wpm φ ad pc lv st σ := by
  obtain ⟨⟨p, l, e, R, s, m, args, below⟩, ⟨meth, c, D, c3, A, H0⟩, ⟨nL, cells, slots, Q⟩⟩ := φ
  obtain ⟨hx, hb, hr, hml, hnl, hown, hts, hlk, hK, hD, hA, hfr, hlo, hce, hsl, hN⟩ := X
  subst hnl
  intro H locs ls hP hS hl
  exact lv_bipush hx hb hd hv (K H locs ls hP hS hl)
theorem w_sipush {z : Int} {v : Int32} (X : Cx φ ad cc ret own n fr lo) (hd : decode cc pc = .ok (.sipush z, 3)) (hv : (Int16.ofInt z).toInt32 = v) (K : wpm φ ad (pc + 3) lv (.int v :: st) σ) : wpm φ ad pc lv st σ := by
  obtain ⟨⟨p, l, e, R, s, m, args, below⟩, ⟨meth, c, D, c3, A, H0⟩, ⟨nL, cells, slots, Q⟩⟩ := φ
  obtain ⟨hx, hb, hr, hml, hnl, hown, hts, hlk, hK, hD, hA, hfr, hlo, hce, hsl, hN⟩ := X
  subst hnl
  intro H locs ls hP hS hl
  exact lv_sipush hx hb hd hv (K H locs ls hP hS hl)
theorem w_lconst {z : Fin 2} {v : Int64} (X : Cx φ ad cc ret own n fr lo) (hd : decode cc pc = .ok (.lconst z, 1)) (hv : Int64.ofNat (z : Nat) = v) (K : wpm φ ad (pc + 1) lv (.long v :: st) σ) : wpm φ ad pc lv st σ := by
  obtain ⟨⟨p, l, e, R, s, m, args, below⟩, ⟨meth, c, D, c3, A, H0⟩, ⟨nL, cells, slots, Q⟩⟩ := φ
  obtain ⟨hx, hb, hr, hml, hnl, hown, hts, hlk, hK, hD, hA, hfr, hlo, hce, hsl, hN⟩ := X
  subst hnl
  intro H locs ls hP hS hl
  exact lv_lconst hx hb hd hv (K H locs ls hP hS hl)
theorem w_ldc {idx : Nat} {v : Int32} (X : Cx φ ad cc ret own n fr lo) (hd : decode cc pc = .ok (.ldc idx, 2)) (hw : Cond.constant own idx v ∈ lw_gd) (K : wpm φ ad (pc + 2) lv (.int v :: st) σ) : wpm φ ad pc lv st σ := by
  obtain ⟨⟨p, l, e, R, s, m, args, below⟩, ⟨meth, c, D, c3, A, H0⟩, ⟨nL, cells, slots, Q⟩⟩ := φ
  obtain ⟨hx, hb, hr, hml, hnl, hown, hts, hlk, hK, hD, hA, hfr, hlo, hce, hsl, hN⟩ := X
  subst hnl
  intro H locs ls hP hS hl
  exact lv_ldc hx hb hown (hts _ hw) hd (K H locs ls hP hS hl)
theorem w_ldc2 {idx : Nat} {v : Int64} (X : Cx φ ad cc ret own n fr lo) (hd : decode cc pc = .ok (.ldc2_w idx, 3)) (hw : Cond.constantLong own idx v ∈ lw_gd) (K : wpm φ ad (pc + 3) lv (.long v :: st) σ) : wpm φ ad pc lv st σ := by
  obtain ⟨⟨p, l, e, R, s, m, args, below⟩, ⟨meth, c, D, c3, A, H0⟩, ⟨nL, cells, slots, Q⟩⟩ := φ
  obtain ⟨hx, hb, hr, hml, hnl, hown, hts, hlk, hK, hD, hA, hfr, hlo, hce, hsl, hN⟩ := X
  subst hnl
  intro H locs ls hP hS hl
  exact lv_ldc2 hx hb hown (hts _ hw) hd (K H locs ls hP hS hl)
theorem w_iload_n {k : Fin 4} {x : Int32} (X : Cx φ ad cc ret own n fr lo) (hd : decode cc pc = .ok (.iload_n k, 1)) (j : Nat) (hj : lv[j]? = some ((k : Nat), .int x)) (K : wpm φ ad (pc + 1) lv (.int x :: st) σ) : wpm φ ad pc lv st σ := by
  obtain ⟨⟨p, l, e, R, s, m, args, below⟩, ⟨meth, c, D, c3, A, H0⟩, ⟨nL, cells, slots, Q⟩⟩ := φ
  obtain ⟨hx, hb, hr, hml, hnl, hown, hts, hlk, hK, hD, hA, hfr, hlo, hce, hsl, hN⟩ := X
  subst hnl
  intro H locs ls hP hS hl
  exact lv_iload_n hx hb hd rfl (lv_at hl j hj) (K H locs ls hP hS hl)
theorem w_iload {k : Nat} {x : Int32} (X : Cx φ ad cc ret own n fr lo) (hd : decode cc pc = .ok (.iload k, 2)) (j : Nat) (hj : lv[j]? = some (k, .int x)) (K : wpm φ ad (pc + 2) lv (.int x :: st) σ) : wpm φ ad pc lv st σ := by
  obtain ⟨⟨p, l, e, R, s, m, args, below⟩, ⟨meth, c, D, c3, A, H0⟩, ⟨nL, cells, slots, Q⟩⟩ := φ
  obtain ⟨hx, hb, hr, hml, hnl, hown, hts, hlk, hK, hD, hA, hfr, hlo, hce, hsl, hN⟩ := X
  subst hnl
  intro H locs ls hP hS hl
  exact lv_iload hx hb hd (lv_at hl j hj) (K H locs ls hP hS hl)
theorem w_lload_n {k : Fin 4} {x : Int64} (X : Cx φ ad cc ret own n fr lo) (hd : decode cc pc = .ok (.lload_n k, 1)) (j : Nat) (hj : lv[j]? = some ((k : Nat), .long x)) (K : wpm φ ad (pc + 1) lv (.long x :: st) σ) : wpm φ ad pc lv st σ := by
  obtain ⟨⟨p, l, e, R, s, m, args, below⟩, ⟨meth, c, D, c3, A, H0⟩, ⟨nL, cells, slots, Q⟩⟩ := φ
  obtain ⟨hx, hb, hr, hml, hnl, hown, hts, hlk, hK, hD, hA, hfr, hlo, hce, hsl, hN⟩ := X
  subst hnl
  intro H locs ls hP hS hl
  exact lv_lload_n hx hb hd rfl (lv_at hl j hj) (K H locs ls hP hS hl)
theorem w_lload {k : Nat} {x : Int64} (X : Cx φ ad cc ret own n fr lo) (hd : decode cc pc = .ok (.lload k, 2)) (j : Nat) (hj : lv[j]? = some (k, .long x)) (K : wpm φ ad (pc + 2) lv (.long x :: st) σ) : wpm φ ad pc lv st σ := by
  obtain ⟨⟨p, l, e, R, s, m, args, below⟩, ⟨meth, c, D, c3, A, H0⟩, ⟨nL, cells, slots, Q⟩⟩ := φ
  obtain ⟨hx, hb, hr, hml, hnl, hown, hts, hlk, hK, hD, hA, hfr, hlo, hce, hsl, hN⟩ := X
  subst hnl
  intro H locs ls hP hS hl
  exact lv_lload hx hb hd (lv_at hl j hj) (K H locs ls hP hS hl)
theorem w_aload_n {k : Fin 4} {x : Nat} (X : Cx φ ad cc ret own n fr lo) (hd : decode cc pc = .ok (.aload_n k, 1)) (j : Nat) (hj : lv[j]? = some ((k : Nat), .ref x)) (K : wpm φ ad (pc + 1) lv (.ref x :: st) σ) : wpm φ ad pc lv st σ := by
  obtain ⟨⟨p, l, e, R, s, m, args, below⟩, ⟨meth, c, D, c3, A, H0⟩, ⟨nL, cells, slots, Q⟩⟩ := φ
  obtain ⟨hx, hb, hr, hml, hnl, hown, hts, hlk, hK, hD, hA, hfr, hlo, hce, hsl, hN⟩ := X
  subst hnl
  intro H locs ls hP hS hl
  exact lv_aload_n hx hb hd rfl (lv_at hl j hj) (K H locs ls hP hS hl)
theorem w_aload {k : Nat} {x : Nat} (X : Cx φ ad cc ret own n fr lo) (hd : decode cc pc = .ok (.aload k, 2)) (j : Nat) (hj : lv[j]? = some (k, .ref x)) (K : wpm φ ad (pc + 2) lv (.ref x :: st) σ) : wpm φ ad pc lv st σ := by
  obtain ⟨⟨p, l, e, R, s, m, args, below⟩, ⟨meth, c, D, c3, A, H0⟩, ⟨nL, cells, slots, Q⟩⟩ := φ
  obtain ⟨hx, hb, hr, hml, hnl, hown, hts, hlk, hK, hD, hA, hfr, hlo, hce, hsl, hN⟩ := X
  subst hnl
  intro H locs ls hP hS hl
  exact lv_aload hx hb hd (lv_at hl j hj) (K H locs ls hP hS hl)
theorem w_istore_n {k : Fin 4} {x : Int32} (X : Cx φ ad cc ret own n fr lo) (hd : decode cc pc = .ok (.istore_n k, 1)) (i : Nat) (hi : (k : Nat) = i) (hn : i < n) (hv : (i, Value.int x) :: lv.filter (fun q => !(q.1 == i) && !(q.1 + 1 == i && q.2.category == 2)) = lv') (K : wpm φ ad (pc + 1) lv' st σ) : wpm φ ad pc lv (.int x :: st) σ := by
  obtain ⟨⟨p, l, e, R, s, m, args, below⟩, ⟨meth, c, D, c3, A, H0⟩, ⟨nL, cells, slots, Q⟩⟩ := φ
  obtain ⟨hx, hb, hr, hml, hnl, hown, hts, hlk, hK, hD, hA, hfr, hlo, hce, hsl, hN⟩ := X
  subst hnl
  intro H locs ls hP hS hl
  exact lv_istore_n hx hb hd hi hl hn hv (fun ls' hl' => K H locs ls' hP hS hl')
theorem w_istore {i : Nat} {x : Int32} (X : Cx φ ad cc ret own n fr lo) (hd : decode cc pc = .ok (.istore i, 2)) (hn : i < n) (hv : (i, Value.int x) :: lv.filter (fun q => !(q.1 == i) && !(q.1 + 1 == i && q.2.category == 2)) = lv') (K : wpm φ ad (pc + 2) lv' st σ) : wpm φ ad pc lv (.int x :: st) σ := by
  obtain ⟨⟨p, l, e, R, s, m, args, below⟩, ⟨meth, c, D, c3, A, H0⟩, ⟨nL, cells, slots, Q⟩⟩ := φ
  obtain ⟨hx, hb, hr, hml, hnl, hown, hts, hlk, hK, hD, hA, hfr, hlo, hce, hsl, hN⟩ := X
  subst hnl
  intro H locs ls hP hS hl
  exact lv_istore hx hb hd hl hn hv (fun ls' hl' => K H locs ls' hP hS hl')
theorem w_lstore_n {k : Fin 4} {x : Int64} (X : Cx φ ad cc ret own n fr lo) (hd : decode cc pc = .ok (.lstore_n k, 1)) (i : Nat) (hi : (k : Nat) = i) (hn : i + 1 < n) (hv : (i, Value.long x) :: lv.filter (fun q => !(q.1 == i) && (!(q.1 == i + 1) && !(q.1 + 1 == i && q.2.category == 2))) = lv') (K : wpm φ ad (pc + 1) lv' st σ) : wpm φ ad pc lv (.long x :: st) σ := by
  obtain ⟨⟨p, l, e, R, s, m, args, below⟩, ⟨meth, c, D, c3, A, H0⟩, ⟨nL, cells, slots, Q⟩⟩ := φ
  obtain ⟨hx, hb, hr, hml, hnl, hown, hts, hlk, hK, hD, hA, hfr, hlo, hce, hsl, hN⟩ := X
  subst hnl
  intro H locs ls hP hS hl
  exact lv_lstore_n hx hb hd hi hl hn hv (fun ls' hl' => K H locs ls' hP hS hl')
theorem w_lstore {i : Nat} {x : Int64} (X : Cx φ ad cc ret own n fr lo) (hd : decode cc pc = .ok (.lstore i, 2)) (hn : i + 1 < n) (hv : (i, Value.long x) :: lv.filter (fun q => !(q.1 == i) && (!(q.1 == i + 1) && !(q.1 + 1 == i && q.2.category == 2))) = lv') (K : wpm φ ad (pc + 2) lv' st σ) : wpm φ ad pc lv (.long x :: st) σ := by
  obtain ⟨⟨p, l, e, R, s, m, args, below⟩, ⟨meth, c, D, c3, A, H0⟩, ⟨nL, cells, slots, Q⟩⟩ := φ
  obtain ⟨hx, hb, hr, hml, hnl, hown, hts, hlk, hK, hD, hA, hfr, hlo, hce, hsl, hN⟩ := X
  subst hnl
  intro H locs ls hP hS hl
  exact lv_lstore hx hb hd hl hn hv (fun ls' hl' => K H locs ls' hP hS hl')
theorem w_astore_n {k : Fin 4} {x : Nat} (X : Cx φ ad cc ret own n fr lo) (hd : decode cc pc = .ok (.astore_n k, 1)) (i : Nat) (hi : (k : Nat) = i) (hn : i < n) (hv : (i, Value.ref x) :: lv.filter (fun q => !(q.1 == i) && !(q.1 + 1 == i && q.2.category == 2)) = lv') (K : wpm φ ad (pc + 1) lv' st σ) : wpm φ ad pc lv (.ref x :: st) σ := by
  obtain ⟨⟨p, l, e, R, s, m, args, below⟩, ⟨meth, c, D, c3, A, H0⟩, ⟨nL, cells, slots, Q⟩⟩ := φ
  obtain ⟨hx, hb, hr, hml, hnl, hown, hts, hlk, hK, hD, hA, hfr, hlo, hce, hsl, hN⟩ := X
  subst hnl
  intro H locs ls hP hS hl
  exact lv_astore_n hx hb hd hi hl hn hv (fun ls' hl' => K H locs ls' hP hS hl')
theorem w_astore {i : Nat} {x : Nat} (X : Cx φ ad cc ret own n fr lo) (hd : decode cc pc = .ok (.astore i, 2)) (hn : i < n) (hv : (i, Value.ref x) :: lv.filter (fun q => !(q.1 == i) && !(q.1 + 1 == i && q.2.category == 2)) = lv') (K : wpm φ ad (pc + 2) lv' st σ) : wpm φ ad pc lv (.ref x :: st) σ := by
  obtain ⟨⟨p, l, e, R, s, m, args, below⟩, ⟨meth, c, D, c3, A, H0⟩, ⟨nL, cells, slots, Q⟩⟩ := φ
  obtain ⟨hx, hb, hr, hml, hnl, hown, hts, hlk, hK, hD, hA, hfr, hlo, hce, hsl, hN⟩ := X
  subst hnl
  intro H locs ls hP hS hl
  exact lv_astore hx hb hd hl hn hv (fun ls' hl' => K H locs ls' hP hS hl')
theorem w_iinc {i : Nat} {z : Int} {x v : Int32} (X : Cx φ ad cc ret own n fr lo) (hd : decode cc pc = .ok (.iinc i z, 3)) (j : Nat) (hj : lv[j]? = some (i, .int x)) (hz : x + Int32.ofInt z = v) (hn : i < n) (hv : (i, Value.int v) :: lv.filter (fun q => !(q.1 == i) && !(q.1 + 1 == i && q.2.category == 2)) = lv') (K : wpm φ ad (pc + 3) lv' st σ) : wpm φ ad pc lv st σ := by
  obtain ⟨⟨p, l, e, R, s, m, args, below⟩, ⟨meth, c, D, c3, A, H0⟩, ⟨nL, cells, slots, Q⟩⟩ := φ
  obtain ⟨hx, hb, hr, hml, hnl, hown, hts, hlk, hK, hD, hA, hfr, hlo, hce, hsl, hN⟩ := X
  subst hnl
  intro H locs ls hP hS hl
  exact lv_iinc hx hb hd hl (k := j) hj hz hn hv (fun ls' hl' => K H locs ls' hP hS hl')
theorem w_iadd {x y : Int32} (X : Cx φ ad cc ret own n fr lo) (hd : decode cc pc = .ok (.iadd, 1))  (K : wpm φ ad (pc + 1) lv (.int (x + y) :: st) σ) : wpm φ ad pc lv (.int y :: .int x :: st) σ := by
  obtain ⟨⟨p, l, e, R, s, m, args, below⟩, ⟨meth, c, D, c3, A, H0⟩, ⟨nL, cells, slots, Q⟩⟩ := φ
  obtain ⟨hx, hb, hr, hml, hnl, hown, hts, hlk, hK, hD, hA, hfr, hlo, hce, hsl, hN⟩ := X
  subst hnl
  intro H locs ls hP hS hl
  exact lv_iadd hx hb hd (K H locs ls hP hS hl)
theorem w_isub {x y : Int32} (X : Cx φ ad cc ret own n fr lo) (hd : decode cc pc = .ok (.isub, 1))  (K : wpm φ ad (pc + 1) lv (.int (x - y) :: st) σ) : wpm φ ad pc lv (.int y :: .int x :: st) σ := by
  obtain ⟨⟨p, l, e, R, s, m, args, below⟩, ⟨meth, c, D, c3, A, H0⟩, ⟨nL, cells, slots, Q⟩⟩ := φ
  obtain ⟨hx, hb, hr, hml, hnl, hown, hts, hlk, hK, hD, hA, hfr, hlo, hce, hsl, hN⟩ := X
  subst hnl
  intro H locs ls hP hS hl
  exact lv_isub hx hb hd (K H locs ls hP hS hl)
theorem w_imul {x y : Int32} (X : Cx φ ad cc ret own n fr lo) (hd : decode cc pc = .ok (.imul, 1))  (K : wpm φ ad (pc + 1) lv (.int (x * y) :: st) σ) : wpm φ ad pc lv (.int y :: .int x :: st) σ := by
  obtain ⟨⟨p, l, e, R, s, m, args, below⟩, ⟨meth, c, D, c3, A, H0⟩, ⟨nL, cells, slots, Q⟩⟩ := φ
  obtain ⟨hx, hb, hr, hml, hnl, hown, hts, hlk, hK, hD, hA, hfr, hlo, hce, hsl, hN⟩ := X
  subst hnl
  intro H locs ls hP hS hl
  exact lv_imul hx hb hd (K H locs ls hP hS hl)
theorem w_iand {x y : Int32} (X : Cx φ ad cc ret own n fr lo) (hd : decode cc pc = .ok (.iand, 1))  (K : wpm φ ad (pc + 1) lv (.int (x &&& y) :: st) σ) : wpm φ ad pc lv (.int y :: .int x :: st) σ := by
  obtain ⟨⟨p, l, e, R, s, m, args, below⟩, ⟨meth, c, D, c3, A, H0⟩, ⟨nL, cells, slots, Q⟩⟩ := φ
  obtain ⟨hx, hb, hr, hml, hnl, hown, hts, hlk, hK, hD, hA, hfr, hlo, hce, hsl, hN⟩ := X
  subst hnl
  intro H locs ls hP hS hl
  exact lv_iand hx hb hd (K H locs ls hP hS hl)
theorem w_ior {x y : Int32} (X : Cx φ ad cc ret own n fr lo) (hd : decode cc pc = .ok (.ior, 1))  (K : wpm φ ad (pc + 1) lv (.int (x ||| y) :: st) σ) : wpm φ ad pc lv (.int y :: .int x :: st) σ := by
  obtain ⟨⟨p, l, e, R, s, m, args, below⟩, ⟨meth, c, D, c3, A, H0⟩, ⟨nL, cells, slots, Q⟩⟩ := φ
  obtain ⟨hx, hb, hr, hml, hnl, hown, hts, hlk, hK, hD, hA, hfr, hlo, hce, hsl, hN⟩ := X
  subst hnl
  intro H locs ls hP hS hl
  exact lv_ior hx hb hd (K H locs ls hP hS hl)
theorem w_ixor {x y : Int32} (X : Cx φ ad cc ret own n fr lo) (hd : decode cc pc = .ok (.ixor, 1))  (K : wpm φ ad (pc + 1) lv (.int (x ^^^ y) :: st) σ) : wpm φ ad pc lv (.int y :: .int x :: st) σ := by
  obtain ⟨⟨p, l, e, R, s, m, args, below⟩, ⟨meth, c, D, c3, A, H0⟩, ⟨nL, cells, slots, Q⟩⟩ := φ
  obtain ⟨hx, hb, hr, hml, hnl, hown, hts, hlk, hK, hD, hA, hfr, hlo, hce, hsl, hN⟩ := X
  subst hnl
  intro H locs ls hP hS hl
  exact lv_ixor hx hb hd (K H locs ls hP hS hl)
theorem w_ishl {x y : Int32} (X : Cx φ ad cc ret own n fr lo) (hd : decode cc pc = .ok (.ishl, 1))  (K : wpm φ ad (pc + 1) lv (.int (x <<< (y &&& 31)) :: st) σ) : wpm φ ad pc lv (.int y :: .int x :: st) σ := by
  obtain ⟨⟨p, l, e, R, s, m, args, below⟩, ⟨meth, c, D, c3, A, H0⟩, ⟨nL, cells, slots, Q⟩⟩ := φ
  obtain ⟨hx, hb, hr, hml, hnl, hown, hts, hlk, hK, hD, hA, hfr, hlo, hce, hsl, hN⟩ := X
  subst hnl
  intro H locs ls hP hS hl
  exact lv_ishl hx hb hd (K H locs ls hP hS hl)
theorem w_ishr {x y : Int32} (X : Cx φ ad cc ret own n fr lo) (hd : decode cc pc = .ok (.ishr, 1))  (K : wpm φ ad (pc + 1) lv (.int (x >>> (y &&& 31)) :: st) σ) : wpm φ ad pc lv (.int y :: .int x :: st) σ := by
  obtain ⟨⟨p, l, e, R, s, m, args, below⟩, ⟨meth, c, D, c3, A, H0⟩, ⟨nL, cells, slots, Q⟩⟩ := φ
  obtain ⟨hx, hb, hr, hml, hnl, hown, hts, hlk, hK, hD, hA, hfr, hlo, hce, hsl, hN⟩ := X
  subst hnl
  intro H locs ls hP hS hl
  exact lv_ishr hx hb hd (K H locs ls hP hS hl)
theorem w_ladd {x y : Int64} (X : Cx φ ad cc ret own n fr lo) (hd : decode cc pc = .ok (.ladd, 1))  (K : wpm φ ad (pc + 1) lv (.long (x + y) :: st) σ) : wpm φ ad pc lv (.long y :: .long x :: st) σ := by
  obtain ⟨⟨p, l, e, R, s, m, args, below⟩, ⟨meth, c, D, c3, A, H0⟩, ⟨nL, cells, slots, Q⟩⟩ := φ
  obtain ⟨hx, hb, hr, hml, hnl, hown, hts, hlk, hK, hD, hA, hfr, hlo, hce, hsl, hN⟩ := X
  subst hnl
  intro H locs ls hP hS hl
  exact lv_ladd hx hb hd (K H locs ls hP hS hl)
theorem w_lmul {x y : Int64} (X : Cx φ ad cc ret own n fr lo) (hd : decode cc pc = .ok (.lmul, 1))  (K : wpm φ ad (pc + 1) lv (.long (x * y) :: st) σ) : wpm φ ad pc lv (.long y :: .long x :: st) σ := by
  obtain ⟨⟨p, l, e, R, s, m, args, below⟩, ⟨meth, c, D, c3, A, H0⟩, ⟨nL, cells, slots, Q⟩⟩ := φ
  obtain ⟨hx, hb, hr, hml, hnl, hown, hts, hlk, hK, hD, hA, hfr, hlo, hce, hsl, hN⟩ := X
  subst hnl
  intro H locs ls hP hS hl
  exact lv_lmul hx hb hd (K H locs ls hP hS hl)
theorem w_idiv {x y : Int32} (X : Cx φ ad cc ret own n fr lo) (hd : decode cc pc = .ok (.idiv, 1)) (h0 : ¬ y = 0) (K : wpm φ ad (pc + 1) lv (.int (x / y) :: st) σ) : wpm φ ad pc lv (.int y :: .int x :: st) σ := by
  obtain ⟨⟨p, l, e, R, s, m, args, below⟩, ⟨meth, c, D, c3, A, H0⟩, ⟨nL, cells, slots, Q⟩⟩ := φ
  obtain ⟨hx, hb, hr, hml, hnl, hown, hts, hlk, hK, hD, hA, hfr, hlo, hce, hsl, hN⟩ := X
  subst hnl
  intro H locs ls hP hS hl
  exact lv_idiv hx hb hd h0 (K H locs ls hP hS hl)
theorem w_irem {x y : Int32} (X : Cx φ ad cc ret own n fr lo) (hd : decode cc pc = .ok (.irem, 1)) (h0 : ¬ y = 0) (K : wpm φ ad (pc + 1) lv (.int (x - x / y * y) :: st) σ) : wpm φ ad pc lv (.int y :: .int x :: st) σ := by
  obtain ⟨⟨p, l, e, R, s, m, args, below⟩, ⟨meth, c, D, c3, A, H0⟩, ⟨nL, cells, slots, Q⟩⟩ := φ
  obtain ⟨hx, hb, hr, hml, hnl, hown, hts, hlk, hK, hD, hA, hfr, hlo, hce, hsl, hN⟩ := X
  subst hnl
  intro H locs ls hP hS hl
  exact lv_irem hx hb hd h0 (K H locs ls hP hS hl)
theorem w_ldiv {x y : Int64} (X : Cx φ ad cc ret own n fr lo) (hd : decode cc pc = .ok (.ldiv, 1)) (h0 : ¬ y = 0) (K : wpm φ ad (pc + 1) lv (.long (x / y) :: st) σ) : wpm φ ad pc lv (.long y :: .long x :: st) σ := by
  obtain ⟨⟨p, l, e, R, s, m, args, below⟩, ⟨meth, c, D, c3, A, H0⟩, ⟨nL, cells, slots, Q⟩⟩ := φ
  obtain ⟨hx, hb, hr, hml, hnl, hown, hts, hlk, hK, hD, hA, hfr, hlo, hce, hsl, hN⟩ := X
  subst hnl
  intro H locs ls hP hS hl
  exact lv_ldiv hx hb hd h0 (K H locs ls hP hS hl)
theorem w_lrem {x y : Int64} (X : Cx φ ad cc ret own n fr lo) (hd : decode cc pc = .ok (.lrem, 1)) (h0 : ¬ y = 0) (K : wpm φ ad (pc + 1) lv (.long (x - x / y * y) :: st) σ) : wpm φ ad pc lv (.long y :: .long x :: st) σ := by
  obtain ⟨⟨p, l, e, R, s, m, args, below⟩, ⟨meth, c, D, c3, A, H0⟩, ⟨nL, cells, slots, Q⟩⟩ := φ
  obtain ⟨hx, hb, hr, hml, hnl, hown, hts, hlk, hK, hD, hA, hfr, hlo, hce, hsl, hN⟩ := X
  subst hnl
  intro H locs ls hP hS hl
  exact lv_lrem hx hb hd h0 (K H locs ls hP hS hl)
theorem w_i2l {x : Int32} (X : Cx φ ad cc ret own n fr lo) (hd : decode cc pc = .ok (.i2l, 1))  (K : wpm φ ad (pc + 1) lv (.long x.toInt64 :: st) σ) : wpm φ ad pc lv (.int x :: st) σ := by
  obtain ⟨⟨p, l, e, R, s, m, args, below⟩, ⟨meth, c, D, c3, A, H0⟩, ⟨nL, cells, slots, Q⟩⟩ := φ
  obtain ⟨hx, hb, hr, hml, hnl, hown, hts, hlk, hK, hD, hA, hfr, hlo, hce, hsl, hN⟩ := X
  subst hnl
  intro H locs ls hP hS hl
  exact lv_i2l hx hb hd rfl (K H locs ls hP hS hl)
theorem w_l2i {x : Int64} (X : Cx φ ad cc ret own n fr lo) (hd : decode cc pc = .ok (.l2i, 1))  (K : wpm φ ad (pc + 1) lv (.int x.toInt32 :: st) σ) : wpm φ ad pc lv (.long x :: st) σ := by
  obtain ⟨⟨p, l, e, R, s, m, args, below⟩, ⟨meth, c, D, c3, A, H0⟩, ⟨nL, cells, slots, Q⟩⟩ := φ
  obtain ⟨hx, hb, hr, hml, hnl, hown, hts, hlk, hK, hD, hA, hfr, hlo, hce, hsl, hN⟩ := X
  subst hnl
  intro H locs ls hP hS hl
  exact lv_l2i hx hb hd rfl (K H locs ls hP hS hl)
theorem w_dup {v : Value} (X : Cx φ ad cc ret own n fr lo) (hd : decode cc pc = .ok (.dup, 1)) (h1 : v.category = 1) (K : wpm φ ad (pc + 1) lv (v :: v :: st) σ) : wpm φ ad pc lv (v :: st) σ := by
  obtain ⟨⟨p, l, e, R, s, m, args, below⟩, ⟨meth, c, D, c3, A, H0⟩, ⟨nL, cells, slots, Q⟩⟩ := φ
  obtain ⟨hx, hb, hr, hml, hnl, hown, hts, hlk, hK, hD, hA, hfr, hlo, hce, hsl, hN⟩ := X
  subst hnl
  intro H locs ls hP hS hl
  exact lv_dup hx hb hd h1 (K H locs ls hP hS hl)
theorem w_dup2 {v w : Value} (X : Cx φ ad cc ret own n fr lo) (hd : decode cc pc = .ok (.dup2, 1)) (h1 : v.category = 1) (h2 : w.category = 1) (K : wpm φ ad (pc + 1) lv (v :: w :: v :: w :: st) σ) : wpm φ ad pc lv (v :: w :: st) σ := by
  obtain ⟨⟨p, l, e, R, s, m, args, below⟩, ⟨meth, c, D, c3, A, H0⟩, ⟨nL, cells, slots, Q⟩⟩ := φ
  obtain ⟨hx, hb, hr, hml, hnl, hown, hts, hlk, hK, hD, hA, hfr, hlo, hce, hsl, hN⟩ := X
  subst hnl
  intro H locs ls hP hS hl
  exact lv_dup2_11 hx hb hd h1 h2 (K H locs ls hP hS hl)
theorem w_pop {v : Value} (X : Cx φ ad cc ret own n fr lo) (hd : decode cc pc = .ok (.pop, 1)) (h1 : v.category = 1) (K : wpm φ ad (pc + 1) lv st σ) : wpm φ ad pc lv (v :: st) σ := by
  obtain ⟨⟨p, l, e, R, s, m, args, below⟩, ⟨meth, c, D, c3, A, H0⟩, ⟨nL, cells, slots, Q⟩⟩ := φ
  obtain ⟨hx, hb, hr, hml, hnl, hown, hts, hlk, hK, hD, hA, hfr, hlo, hce, hsl, hN⟩ := X
  subst hnl
  intro H locs ls hP hS hl
  exact lv_pop hx hb hd h1 (K H locs ls hP hS hl)
theorem w_lcmp {x y : Int64} (X : Cx φ ad cc ret own n fr lo) (hd : decode cc pc = .ok (.lcmp, 1))  (K : wpm φ ad (pc + 1) lv (.int (lg_cmp x y) :: st) σ) : wpm φ ad pc lv (.long y :: .long x :: st) σ := by
  obtain ⟨⟨p, l, e, R, s, m, args, below⟩, ⟨meth, c, D, c3, A, H0⟩, ⟨nL, cells, slots, Q⟩⟩ := φ
  obtain ⟨hx, hb, hr, hml, hnl, hown, hts, hlk, hK, hD, hA, hfr, hlo, hce, hsl, hN⟩ := X
  subst hnl
  intro H locs ls hP hS hl
  exact W.lcmp hx hb hd (K H locs ls hP hS hl)
theorem w_goto {off : Int} {tgt : Nat} (X : Cx φ ad cc ret own n fr lo) (hd : decode cc pc = .ok (.goto off, 3)) (ht : (pc : Int) + off = (tgt : Int)) (K : wpm φ ad tgt lv st σ) : wpm φ ad pc lv st σ := by
  obtain ⟨⟨p, l, e, R, s, m, args, below⟩, ⟨meth, c, D, c3, A, H0⟩, ⟨nL, cells, slots, Q⟩⟩ := φ
  obtain ⟨hx, hb, hr, hml, hnl, hown, hts, hlk, hK, hD, hA, hfr, hlo, hce, hsl, hN⟩ := X
  subst hnl
  intro H locs ls hP hS hl
  exact lv_goto hx hb hd ht (K H locs ls hP hS hl)
theorem w_if_eq {x : Int32} {off : Int} {tgt : Nat} (X : Cx φ ad cc ret own n fr lo) (hd : decode cc pc = .ok (.ifCond .eq off, 3)) (ht : (pc : Int) + off = (tgt : Int)) (kt : x = 0 → wpm φ ad tgt lv st σ) (kf : ¬ x = 0 → wpm φ ad (pc + 3) lv st σ) : wpm φ ad pc lv (.int x :: st) σ := by
  obtain ⟨⟨p, l, e, R, s, m, args, below⟩, ⟨meth, c, D, c3, A, H0⟩, ⟨nL, cells, slots, Q⟩⟩ := φ
  obtain ⟨hx, hb, hr, hml, hnl, hown, hts, hlk, hK, hD, hA, hfr, hlo, hce, hsl, hN⟩ := X
  subst hnl
  intro H locs ls hP hS hl
  exact lv_if_eq hx hb hd ht (fun q => kt q H locs ls hP hS hl) (fun q => kf q H locs ls hP hS hl)
theorem w_if_ne {x : Int32} {off : Int} {tgt : Nat} (X : Cx φ ad cc ret own n fr lo) (hd : decode cc pc = .ok (.ifCond .ne off, 3)) (ht : (pc : Int) + off = (tgt : Int)) (kt : ¬ x = 0 → wpm φ ad tgt lv st σ) (kf : x = 0 → wpm φ ad (pc + 3) lv st σ) : wpm φ ad pc lv (.int x :: st) σ := by
  obtain ⟨⟨p, l, e, R, s, m, args, below⟩, ⟨meth, c, D, c3, A, H0⟩, ⟨nL, cells, slots, Q⟩⟩ := φ
  obtain ⟨hx, hb, hr, hml, hnl, hown, hts, hlk, hK, hD, hA, hfr, hlo, hce, hsl, hN⟩ := X
  subst hnl
  intro H locs ls hP hS hl
  exact lv_if_ne hx hb hd ht (fun q => kt q H locs ls hP hS hl) (fun q => kf q H locs ls hP hS hl)
theorem w_if_lt {x : Int32} {off : Int} {tgt : Nat} (X : Cx φ ad cc ret own n fr lo) (hd : decode cc pc = .ok (.ifCond .lt off, 3)) (ht : (pc : Int) + off = (tgt : Int)) (kt : x < 0 → wpm φ ad tgt lv st σ) (kf : ¬ x < 0 → wpm φ ad (pc + 3) lv st σ) : wpm φ ad pc lv (.int x :: st) σ := by
  obtain ⟨⟨p, l, e, R, s, m, args, below⟩, ⟨meth, c, D, c3, A, H0⟩, ⟨nL, cells, slots, Q⟩⟩ := φ
  obtain ⟨hx, hb, hr, hml, hnl, hown, hts, hlk, hK, hD, hA, hfr, hlo, hce, hsl, hN⟩ := X
  subst hnl
  intro H locs ls hP hS hl
  exact lv_if_lt hx hb hd ht (fun q => kt q H locs ls hP hS hl) (fun q => kf q H locs ls hP hS hl)
theorem w_if_ge {x : Int32} {off : Int} {tgt : Nat} (X : Cx φ ad cc ret own n fr lo) (hd : decode cc pc = .ok (.ifCond .ge off, 3)) (ht : (pc : Int) + off = (tgt : Int)) (kt : 0 ≤ x → wpm φ ad tgt lv st σ) (kf : ¬ 0 ≤ x → wpm φ ad (pc + 3) lv st σ) : wpm φ ad pc lv (.int x :: st) σ := by
  obtain ⟨⟨p, l, e, R, s, m, args, below⟩, ⟨meth, c, D, c3, A, H0⟩, ⟨nL, cells, slots, Q⟩⟩ := φ
  obtain ⟨hx, hb, hr, hml, hnl, hown, hts, hlk, hK, hD, hA, hfr, hlo, hce, hsl, hN⟩ := X
  subst hnl
  intro H locs ls hP hS hl
  exact lv_if_ge hx hb hd ht (fun q => kt q H locs ls hP hS hl) (fun q => kf q H locs ls hP hS hl)
theorem w_if_gt {x : Int32} {off : Int} {tgt : Nat} (X : Cx φ ad cc ret own n fr lo) (hd : decode cc pc = .ok (.ifCond .gt off, 3)) (ht : (pc : Int) + off = (tgt : Int)) (kt : 0 < x → wpm φ ad tgt lv st σ) (kf : ¬ 0 < x → wpm φ ad (pc + 3) lv st σ) : wpm φ ad pc lv (.int x :: st) σ := by
  obtain ⟨⟨p, l, e, R, s, m, args, below⟩, ⟨meth, c, D, c3, A, H0⟩, ⟨nL, cells, slots, Q⟩⟩ := φ
  obtain ⟨hx, hb, hr, hml, hnl, hown, hts, hlk, hK, hD, hA, hfr, hlo, hce, hsl, hN⟩ := X
  subst hnl
  intro H locs ls hP hS hl
  exact lv_if_gt hx hb hd ht (fun q => kt q H locs ls hP hS hl) (fun q => kf q H locs ls hP hS hl)
theorem w_if_le {x : Int32} {off : Int} {tgt : Nat} (X : Cx φ ad cc ret own n fr lo) (hd : decode cc pc = .ok (.ifCond .le off, 3)) (ht : (pc : Int) + off = (tgt : Int)) (kt : x ≤ 0 → wpm φ ad tgt lv st σ) (kf : ¬ x ≤ 0 → wpm φ ad (pc + 3) lv st σ) : wpm φ ad pc lv (.int x :: st) σ := by
  obtain ⟨⟨p, l, e, R, s, m, args, below⟩, ⟨meth, c, D, c3, A, H0⟩, ⟨nL, cells, slots, Q⟩⟩ := φ
  obtain ⟨hx, hb, hr, hml, hnl, hown, hts, hlk, hK, hD, hA, hfr, hlo, hce, hsl, hN⟩ := X
  subst hnl
  intro H locs ls hP hS hl
  exact lv_if_le hx hb hd ht (fun q => kt q H locs ls hP hS hl) (fun q => kf q H locs ls hP hS hl)
theorem w_icmp_eq {x y : Int32} {off : Int} {tgt : Nat} (X : Cx φ ad cc ret own n fr lo) (hd : decode cc pc = .ok (.if_icmp .eq off, 3)) (ht : (pc : Int) + off = (tgt : Int)) (kt : x = y → wpm φ ad tgt lv st σ) (kf : ¬ x = y → wpm φ ad (pc + 3) lv st σ) : wpm φ ad pc lv (.int y :: .int x :: st) σ := by
  obtain ⟨⟨p, l, e, R, s, m, args, below⟩, ⟨meth, c, D, c3, A, H0⟩, ⟨nL, cells, slots, Q⟩⟩ := φ
  obtain ⟨hx, hb, hr, hml, hnl, hown, hts, hlk, hK, hD, hA, hfr, hlo, hce, hsl, hN⟩ := X
  subst hnl
  intro H locs ls hP hS hl
  exact lv_icmp_eq hx hb hd ht (fun q => kt q H locs ls hP hS hl) (fun q => kf q H locs ls hP hS hl)
theorem w_icmp_ne {x y : Int32} {off : Int} {tgt : Nat} (X : Cx φ ad cc ret own n fr lo) (hd : decode cc pc = .ok (.if_icmp .ne off, 3)) (ht : (pc : Int) + off = (tgt : Int)) (kt : ¬ x = y → wpm φ ad tgt lv st σ) (kf : x = y → wpm φ ad (pc + 3) lv st σ) : wpm φ ad pc lv (.int y :: .int x :: st) σ := by
  obtain ⟨⟨p, l, e, R, s, m, args, below⟩, ⟨meth, c, D, c3, A, H0⟩, ⟨nL, cells, slots, Q⟩⟩ := φ
  obtain ⟨hx, hb, hr, hml, hnl, hown, hts, hlk, hK, hD, hA, hfr, hlo, hce, hsl, hN⟩ := X
  subst hnl
  intro H locs ls hP hS hl
  exact lv_icmp_ne hx hb hd ht (fun q => kt q H locs ls hP hS hl) (fun q => kf q H locs ls hP hS hl)
theorem w_icmp_lt {x y : Int32} {off : Int} {tgt : Nat} (X : Cx φ ad cc ret own n fr lo) (hd : decode cc pc = .ok (.if_icmp .lt off, 3)) (ht : (pc : Int) + off = (tgt : Int)) (kt : x < y → wpm φ ad tgt lv st σ) (kf : ¬ x < y → wpm φ ad (pc + 3) lv st σ) : wpm φ ad pc lv (.int y :: .int x :: st) σ := by
  obtain ⟨⟨p, l, e, R, s, m, args, below⟩, ⟨meth, c, D, c3, A, H0⟩, ⟨nL, cells, slots, Q⟩⟩ := φ
  obtain ⟨hx, hb, hr, hml, hnl, hown, hts, hlk, hK, hD, hA, hfr, hlo, hce, hsl, hN⟩ := X
  subst hnl
  intro H locs ls hP hS hl
  exact lv_icmp_lt hx hb hd ht (fun q => kt q H locs ls hP hS hl) (fun q => kf q H locs ls hP hS hl)
theorem w_icmp_ge {x y : Int32} {off : Int} {tgt : Nat} (X : Cx φ ad cc ret own n fr lo) (hd : decode cc pc = .ok (.if_icmp .ge off, 3)) (ht : (pc : Int) + off = (tgt : Int)) (kt : y ≤ x → wpm φ ad tgt lv st σ) (kf : ¬ y ≤ x → wpm φ ad (pc + 3) lv st σ) : wpm φ ad pc lv (.int y :: .int x :: st) σ := by
  obtain ⟨⟨p, l, e, R, s, m, args, below⟩, ⟨meth, c, D, c3, A, H0⟩, ⟨nL, cells, slots, Q⟩⟩ := φ
  obtain ⟨hx, hb, hr, hml, hnl, hown, hts, hlk, hK, hD, hA, hfr, hlo, hce, hsl, hN⟩ := X
  subst hnl
  intro H locs ls hP hS hl
  exact lv_icmp_ge hx hb hd ht (fun q => kt q H locs ls hP hS hl) (fun q => kf q H locs ls hP hS hl)
theorem w_icmp_gt {x y : Int32} {off : Int} {tgt : Nat} (X : Cx φ ad cc ret own n fr lo) (hd : decode cc pc = .ok (.if_icmp .gt off, 3)) (ht : (pc : Int) + off = (tgt : Int)) (kt : y < x → wpm φ ad tgt lv st σ) (kf : ¬ y < x → wpm φ ad (pc + 3) lv st σ) : wpm φ ad pc lv (.int y :: .int x :: st) σ := by
  obtain ⟨⟨p, l, e, R, s, m, args, below⟩, ⟨meth, c, D, c3, A, H0⟩, ⟨nL, cells, slots, Q⟩⟩ := φ
  obtain ⟨hx, hb, hr, hml, hnl, hown, hts, hlk, hK, hD, hA, hfr, hlo, hce, hsl, hN⟩ := X
  subst hnl
  intro H locs ls hP hS hl
  exact lv_icmp_gt hx hb hd ht (fun q => kt q H locs ls hP hS hl) (fun q => kf q H locs ls hP hS hl)
theorem w_icmp_le {x y : Int32} {off : Int} {tgt : Nat} (X : Cx φ ad cc ret own n fr lo) (hd : decode cc pc = .ok (.if_icmp .le off, 3)) (ht : (pc : Int) + off = (tgt : Int)) (kt : x ≤ y → wpm φ ad tgt lv st σ) (kf : ¬ x ≤ y → wpm φ ad (pc + 3) lv st σ) : wpm φ ad pc lv (.int y :: .int x :: st) σ := by
  obtain ⟨⟨p, l, e, R, s, m, args, below⟩, ⟨meth, c, D, c3, A, H0⟩, ⟨nL, cells, slots, Q⟩⟩ := φ
  obtain ⟨hx, hb, hr, hml, hnl, hown, hts, hlk, hK, hD, hA, hfr, hlo, hce, hsl, hN⟩ := X
  subst hnl
  intro H locs ls hP hS hl
  exact lv_icmp_le hx hb hd ht (fun q => kt q H locs ls hP hS hl) (fun q => kf q H locs ls hP hS hl)
theorem w_tswIn {dflt lw hi : Int} {offs : Array Int} {len : Nat} {x v : Int32} {off : Int} {tgt : Nat} (X : Cx φ ad cc ret own n fr lo) (hd : decode cc pc = .ok (.tableswitch dflt lw hi offs, len)) (hv : x = v) (h1 : ¬ v.toInt < lw) (h2 : ¬ hi < v.toInt) (ho : offs[(v.toInt - lw).toNat]? = some off) (ht : (pc : Int) + off = (tgt : Int)) (K : wpm φ ad tgt lv st σ) : wpm φ ad pc lv (.int x :: st) σ := by
  obtain ⟨⟨p, l, e, R, s, m, args, below⟩, ⟨meth, c, D, c3, A, H0⟩, ⟨nL, cells, slots, Q⟩⟩ := φ
  obtain ⟨hx, hb, hr, hml, hnl, hown, hts, hlk, hK, hD, hA, hfr, hlo, hce, hsl, hN⟩ := X
  subst hnl
  intro H locs ls hP hS hl
  subst hv
  exact lv_tableIn hx hb hd h1 h2 ho ht (K H locs ls hP hS hl)
theorem w_tswOut {dflt lw hi : Int} {offs : Array Int} {len : Nat} {x : Int32} {tgt : Nat} (X : Cx φ ad cc ret own n fr lo) (hd : decode cc pc = .ok (.tableswitch dflt lw hi offs, len)) (h : ∀ i : Int, lw ≤ i → i ≤ hi → ¬ x = Int32.ofInt i) (ht : (pc : Int) + dflt = (tgt : Int)) (K : wpm φ ad tgt lv st σ) : wpm φ ad pc lv (.int x :: st) σ := by
  obtain ⟨⟨p, l, e, R, s, m, args, below⟩, ⟨meth, c, D, c3, A, H0⟩, ⟨nL, cells, slots, Q⟩⟩ := φ
  obtain ⟨hx, hb, hr, hml, hnl, hown, hts, hlk, hK, hD, hA, hfr, hlo, hce, hsl, hN⟩ := X
  subst hnl
  intro H locs ls hP hS hl
  refine lv_tableOut hx hb hd ?_ ht (K H locs ls hP hS hl)
  by_cases q : x.toInt < lw
  · exact Or.inl q
  · by_cases q2 : hi < x.toInt
    · exact Or.inr q2
    · exact absurd (Int32.ofInt_toInt x).symm (h x.toInt (by omega) (by omega))
theorem w_lsw {dflt : Int} {ps : Array (Int × Int)} {len : Nat} {x : Int32} {off : Int} {tgt : Nat} (X : Cx φ ad cc ret own n fr lo) (hd : decode cc pc = .ok (.lookupswitch dflt ps, len)) (hp : (ps.toList.zip (ps.toList.drop 1)).all (fun (a, next) => a.1 < next.1) = true) (ho : Op.lookupswitch.offset ps.toList dflt x.toInt = off) (ht : (pc : Int) + off = (tgt : Int)) (K : wpm φ ad tgt lv st σ) : wpm φ ad pc lv (.int x :: st) σ := by
  obtain ⟨⟨p, l, e, R, s, m, args, below⟩, ⟨meth, c, D, c3, A, H0⟩, ⟨nL, cells, slots, Q⟩⟩ := φ
  obtain ⟨hx, hb, hr, hml, hnl, hown, hts, hlk, hK, hD, hA, hfr, hlo, hce, hsl, hN⟩ := X
  subst hnl
  intro H locs ls hP hS hl
  exact lv_lookup hx hb hd hp ho ht (K H locs ls hP hS hl)
/-- a class of cls, its fields' names and types -/
def CO (ci : Nat) (C : String) (T : u_T) (N : Nat) (ty : Nat → FieldType) : Prop := cls[ci]? = some (C, T, N) ∧ ci ≤ 9 ∧ N = fn ci ∧ (∀ w ∈ u_ws C T N, w ∈ lw_gd) ∧ (∀ k, k < N → parseFieldDescriptor (T k).2.2.1 = some (ty k)) ∧ ∀ a, a < N → ∀ b, b < N → a ≠ b → (T a).2.1 ≠ (T b).2.1
theorem w_getI {ci idx N k : Nat} {C : String} {T : u_T} {ty : Nat → FieldType} (X : Cx φ ad cc ret own n fr lo) (hd : decode cc pc = .ok (.getfield idx, 3)) (hC : CO ci C T N ty) (hk : kd k = ci) (j : Nat) (hj : j < N) (hf : fo ci j = none) (hw : Cond.fieldLink own idx (T j).1 (T j).2.1 (T j).2.2.1 ∈ lw_gd) (K : wpm φ ad (pc + 3) lv (.int (σ.1 k j) :: st) σ) : wpm φ ad pc lv (.ref (ad k) :: st) σ := by
  obtain ⟨⟨p, l, e, R, s, m, args, below⟩, ⟨meth, c, D, c3, A, H0⟩, ⟨nL, cells, slots, Q⟩⟩ := φ
  obtain ⟨hx, hb, hr, hml, hnl, hown, hts, hlk, hK, hD, hA, hfr, hlo, hce, hsl, hN⟩ := X
  subst hnl
  intro H locs ls hP hS hl
  obtain ⟨h1, h9, h2, h3, h4, h5⟩ := hC
  refine va_get (D := D) (ci := ci) (v := .int (σ.1 k j)) (C := C) (T := T) (N := N) hx hb hts h3 hown hK hP k (wv_obj hk h9) h1 j hj (hts _ hw) (fun _ q => q) ?_ hd (K H locs ls hP hS hl)
  rw [List.getElem?_map, List.getElem?_range (by omega)]
  show some (fv ad σ k j) = _
  unfold fv
  rw [hk, hf]
theorem w_getR {ci idx N k d : Nat} {C : String} {T : u_T} {ty : Nat → FieldType} (X : Cx φ ad cc ret own n fr lo) (hd : decode cc pc = .ok (.getfield idx, 3)) (hC : CO ci C T N ty) (hk : kd k = ci) (j : Nat) (hj : j < N) (hf : fo ci j = some d) (hw : Cond.fieldLink own idx (T j).1 (T j).2.1 (T j).2.2.1 ∈ lw_gd) (K : wpm φ ad (pc + 3) lv (.ref (ad (k + d)) :: st) σ) : wpm φ ad pc lv (.ref (ad k) :: st) σ := by
  obtain ⟨⟨p, l, e, R, s, m, args, below⟩, ⟨meth, c, D, c3, A, H0⟩, ⟨nL, cells, slots, Q⟩⟩ := φ
  obtain ⟨hx, hb, hr, hml, hnl, hown, hts, hlk, hK, hD, hA, hfr, hlo, hce, hsl, hN⟩ := X
  subst hnl
  intro H locs ls hP hS hl
  obtain ⟨h1, h9, h2, h3, h4, h5⟩ := hC
  refine va_get (D := D) (ci := ci) (v := .ref (ad (k + d))) (C := C) (T := T) (N := N) hx hb hts h3 hown hK hP k (wv_obj hk h9) h1 j hj (hts _ hw) (fun _ q => q) ?_ hd (K H locs ls hP hS hl)
  rw [List.getElem?_map, List.getElem?_range (by omega)]
  show some (fv ad σ k j) = _
  unfold fv
  rw [hk, hf]
theorem w_putI {ci idx N k : Nat} {C : String} {T : u_T} {ty : Nat → FieldType} {v : Int32} (X : Cx φ ad cc ret own n fr lo) (hd : decode cc pc = .ok (.putfield idx, 3)) (hC : CO ci C T N ty) (hk : kd k = ci) (j : Nat) (hj : j < N) (hf : fo ci j = none) (hfi : (T j).2.2.2 = false) (hty : ty j = .int ∨ (ty j = .boolean ∧ (v = 0 ∨ v = 1))) (hw : Cond.fieldLink own idx (T j).1 (T j).2.1 (T j).2.2.1 ∈ lw_gd) (K : wpm φ ad (pc + 3) lv st (stI σ k j v)) : wpm φ ad pc lv (.int v :: .ref (ad k) :: st) σ := by
  obtain ⟨⟨p, l, e, R, s, m, args, below⟩, ⟨meth, c, D, c3, A, H0⟩, ⟨nL, cells, slots, Q⟩⟩ := φ
  obtain ⟨hx, hb, hr, hml, hnl, hown, hts, hlk, hK, hD, hA, hfr, hlo, hce, hsl, hN⟩ := X
  subst hnl
  intro H locs ls hP hS hl
  obtain ⟨h1, h9, h2, h3, h4, h5⟩ := hC
  have hn : narrow (ty j) (.int v) = .int v ∧ fits (ty j) (.int v) = true := by
    rcases hty with h | ⟨h, rfl | rfl⟩ <;> rw [h] <;> exact ⟨rfl, rfl⟩
  refine va_put (D := D) (ci := ci) (v := .int v) (C := C) (T := T) (N := N) hx hb hts h3 ty h4 h5 hown hK hP (hD σ) hS k (wv_obj hk h9) h1 j hj (hts _ hw) (fun _ q => q) hfi (h4 j hj) hn.1 hn.2 (by simp; omega) hd (fun H1 locs1 hP1 hD1 hS1 => ?_)
  rw [wv_stO hk h9 (by omega) hf] at hP1
  exact K H1 locs1 ls hP1 hS1 hl
abbrev inb (i : Int32) (n : Nat) : Prop := 0 ≤ i.toInt ∧ i.toInt < (n : Int)
theorem inb_vp {i : Int32} {n : Nat} (h : inb i n) : vp_in i n := vp_in_iff.mpr h
theorem w_iald {k : Nat} {i : Int32} (X : Cx φ ad cc ret own n fr lo) (hd : decode cc pc = .ok (.iaload, 1)) (hk : kd k = 10) (hi : inb i (ln k)) (K : wpm φ ad (pc + 1) lv (.int (σ.1 k i.toNatClampNeg) :: st) σ) : wpm φ ad pc lv (.int i :: .ref (ad k) :: st) σ := by
  obtain ⟨⟨p, l, e, R, s, m, args, below⟩, ⟨meth, c, D, c3, A, H0⟩, ⟨nL, cells, slots, Q⟩⟩ := φ
  obtain ⟨hx, hb, hr, hml, hnl, hown, hts, hlk, hK, hD, hA, hfr, hlo, hce, hsl, hN⟩ := X
  subst hnl
  intro H locs ls hP hS hl
  exact va_iald (D := D) hx hb hK hP k 0 (wv_int hk) rfl (inb_vp hi) hd (K H locs ls hP hS hl)
theorem w_zald {k : Nat} {i : Int32} (X : Cx φ ad cc ret own n fr lo) (hd : decode cc pc = .ok (.baload, 1)) (hk : kd k = 12) (hi : inb i (ln k)) (K : wpm φ ad (pc + 1) lv (.int (σ.1 k i.toNatClampNeg) :: st) σ) : wpm φ ad pc lv (.int i :: .ref (ad k) :: st) σ := by
  obtain ⟨⟨p, l, e, R, s, m, args, below⟩, ⟨meth, c, D, c3, A, H0⟩, ⟨nL, cells, slots, Q⟩⟩ := φ
  obtain ⟨hx, hb, hr, hml, hnl, hown, hts, hlk, hK, hD, hA, hfr, hlo, hce, hsl, hN⟩ := X
  subst hnl
  intro H locs ls hP hS hl
  exact va_zald (D := D) hx hb hK hP k 2 (wv_boo hk) rfl (inb_vp hi) hd (K H locs ls hP hS hl)
theorem w_lald {k : Nat} {i : Int32} (X : Cx φ ad cc ret own n fr lo) (hd : decode cc pc = .ok (.laload, 1)) (hk : kd k = 11) (hi : inb i (ln k)) (K : wpm φ ad (pc + 1) lv (.long (σ.2 k i.toNatClampNeg) :: st) σ) : wpm φ ad pc lv (.int i :: .ref (ad k) :: st) σ := by
  obtain ⟨⟨p, l, e, R, s, m, args, below⟩, ⟨meth, c, D, c3, A, H0⟩, ⟨nL, cells, slots, Q⟩⟩ := φ
  obtain ⟨hx, hb, hr, hml, hnl, hown, hts, hlk, hK, hD, hA, hfr, hlo, hce, hsl, hN⟩ := X
  subst hnl
  intro H locs ls hP hS hl
  exact va_lald (D := D) hx hb hK hP k 1 (wv_lng hk) rfl (inb_vp hi) hd (K H locs ls hP hS hl)
theorem w_iast {k : Nat} {i v : Int32} (X : Cx φ ad cc ret own n fr lo) (hd : decode cc pc = .ok (.iastore, 1)) (hk : kd k = 10) (hi : inb i (ln k)) (K : wpm φ ad (pc + 1) lv st (stI σ k i.toNatClampNeg v)) : wpm φ ad pc lv (.int v :: .int i :: .ref (ad k) :: st) σ := by
  obtain ⟨⟨p, l, e, R, s, m, args, below⟩, ⟨meth, c, D, c3, A, H0⟩, ⟨nL, cells, slots, Q⟩⟩ := φ
  obtain ⟨hx, hb, hr, hml, hnl, hown, hts, hlk, hK, hD, hA, hfr, hlo, hce, hsl, hN⟩ := X
  subst hnl
  intro H locs ls hP hS hl
  refine va_iast (D := D) hx hb hK hP (hD σ) hS k 0 (wv_int hk) rfl (inb_vp hi) hd (fun H1 locs1 hP1 hD1 hS1 => ?_)
  rw [wv_stA hk] at hP1
  exact K H1 locs1 ls hP1 hS1 hl
theorem w_zast {k : Nat} {i v : Int32} (X : Cx φ ad cc ret own n fr lo) (hd : decode cc pc = .ok (.bastore, 1)) (hk : kd k = 12) (hi : inb i (ln k)) (hv : v = 0 ∨ v = 1) (K : wpm φ ad (pc + 1) lv st (stI σ k i.toNatClampNeg v)) : wpm φ ad pc lv (.int v :: .int i :: .ref (ad k) :: st) σ := by
  obtain ⟨⟨p, l, e, R, s, m, args, below⟩, ⟨meth, c, D, c3, A, H0⟩, ⟨nL, cells, slots, Q⟩⟩ := φ
  obtain ⟨hx, hb, hr, hml, hnl, hown, hts, hlk, hK, hD, hA, hfr, hlo, hce, hsl, hN⟩ := X
  subst hnl
  intro H locs ls hP hS hl
  refine va_zast (D := D) hx hb hK hP (hD σ) hS k 2 (wv_boo hk) rfl (inb_vp hi) hd (fun H1 locs1 hP1 hD1 hS1 => ?_)
  have hz : vp_nar .boolean v = v := by rcases hv with rfl | rfl <;> rfl
  rw [hz, wv_stZ hk] at hP1
  exact K H1 locs1 ls hP1 hS1 hl
theorem w_last {k : Nat} {i : Int32} {v : Int64} (X : Cx φ ad cc ret own n fr lo) (hd : decode cc pc = .ok (.lastore, 1)) (hk : kd k = 11) (hi : inb i (ln k)) (K : wpm φ ad (pc + 1) lv st (stL σ k i.toNatClampNeg v)) : wpm φ ad pc lv (.long v :: .int i :: .ref (ad k) :: st) σ := by
  obtain ⟨⟨p, l, e, R, s, m, args, below⟩, ⟨meth, c, D, c3, A, H0⟩, ⟨nL, cells, slots, Q⟩⟩ := φ
  obtain ⟨hx, hb, hr, hml, hnl, hown, hts, hlk, hK, hD, hA, hfr, hlo, hce, hsl, hN⟩ := X
  subst hnl
  intro H locs ls hP hS hl
  refine va_last (D := D) hx hb hK hP (hD σ) hS k 1 (wv_lng hk) rfl (inb_vp hi) hd (fun H1 locs1 hP1 hD1 hS1 => ?_)
  rw [wv_stL hk] at hP1
  exact K H1 locs1 ls hP1 hS1 hl
theorem w_alenI {k : Nat} (X : Cx φ ad cc ret own n fr lo) (hd : decode cc pc = .ok (.arraylength, 1)) (hk : kd k = 10) (K : wpm φ ad (pc + 1) lv (.int (nI (ln k)) :: st) σ) : wpm φ ad pc lv (.ref (ad k) :: st) σ := by
  obtain ⟨⟨p, l, e, R, s, m, args, below⟩, ⟨meth, c, D, c3, A, H0⟩, ⟨nL, cells, slots, Q⟩⟩ := φ
  obtain ⟨hx, hb, hr, hml, hnl, hown, hts, hlk, hK, hD, hA, hfr, hlo, hce, hsl, hN⟩ := X
  subst hnl
  intro H locs ls hP hS hl
  exact va_alen (D := D) hx hb hK hP k 0 (wv_int hk) (ty := .int) rfl rfl hd (K H locs ls hP hS hl)
theorem w_alenJ {k : Nat} (X : Cx φ ad cc ret own n fr lo) (hd : decode cc pc = .ok (.arraylength, 1)) (hk : kd k = 11) (K : wpm φ ad (pc + 1) lv (.int (nI (ln k)) :: st) σ) : wpm φ ad pc lv (.ref (ad k) :: st) σ := by
  obtain ⟨⟨p, l, e, R, s, m, args, below⟩, ⟨meth, c, D, c3, A, H0⟩, ⟨nL, cells, slots, Q⟩⟩ := φ
  obtain ⟨hx, hb, hr, hml, hnl, hown, hts, hlk, hK, hD, hA, hfr, hlo, hce, hsl, hN⟩ := X
  subst hnl
  intro H locs ls hP hS hl
  exact va_alen (D := D) hx hb hK hP k 1 (wv_lng hk) (ty := .long) rfl rfl hd (K H locs ls hP hS hl)
theorem w_alenZ {k : Nat} (X : Cx φ ad cc ret own n fr lo) (hd : decode cc pc = .ok (.arraylength, 1)) (hk : kd k = 12) (K : wpm φ ad (pc + 1) lv (.int (nI (ln k)) :: st) σ) : wpm φ ad pc lv (.ref (ad k) :: st) σ := by
  obtain ⟨⟨p, l, e, R, s, m, args, below⟩, ⟨meth, c, D, c3, A, H0⟩, ⟨nL, cells, slots, Q⟩⟩ := φ
  obtain ⟨hx, hb, hr, hml, hnl, hown, hts, hlk, hK, hD, hA, hfr, hlo, hce, hsl, hN⟩ := X
  subst hnl
  intro H locs ls hP hS hl
  exact va_alen (D := D) hx hb hK hP k 2 (wv_boo hk) (ty := .boolean) rfl rfl hd (K H locs ls hP hS hl)
theorem w_iret {r : Int32} (X : Cx φ ad cc (some .int) own n fr lo) (hQ : Fini φ ad (some (.int r)) σ) (hd : decode cc pc = .ok (.ireturn, 1)) : wpm φ ad pc lv [.int r] σ := by
  obtain ⟨⟨p, l, e, R, s, m, args, below⟩, ⟨meth, c, D, c3, A, H0⟩, ⟨nL, cells, slots, Q⟩⟩ := φ
  obtain ⟨hx, hb, hr, hml, hnl, hown, hts, hlk, hK, hD, hA, hfr, hlo, hce, hsl, hN⟩ := X
  subst hnl
  intro H locs ls hP hS hl
  obtain ⟨rfl, rfl⟩ := hQ
  exact W.iret (v := r) hx hb hr (fun t ht hW => ⟨⟨rfl, by rw [ht]; exact hP⟩, hS.F ht⟩) hS.2.2 hd hlk
theorem w_zret {r : Int32} (X : Cx φ ad cc (some .boolean) own n fr lo) (hQ : Fini φ ad (some (.int r)) σ) (hd : decode cc pc = .ok (.ireturn, 1)) (h01 : r = 0 ∨ r = 1) : wpm φ ad pc lv [.int r] σ := by
  obtain ⟨⟨p, l, e, R, s, m, args, below⟩, ⟨meth, c, D, c3, A, H0⟩, ⟨nL, cells, slots, Q⟩⟩ := φ
  obtain ⟨hx, hb, hr, hml, hnl, hown, hts, hlk, hK, hD, hA, hfr, hlo, hce, hsl, hN⟩ := X
  subst hnl
  intro H locs ls hP hS hl
  obtain ⟨rfl, rfl⟩ := hQ
  exact W.zret (v := r) hx hb hr (by rcases h01 with rfl | rfl <;> rfl) (fun t ht hW => ⟨⟨rfl, by rw [ht]; exact hP⟩, hS.F ht⟩) hS.2.2 hd hlk
theorem w_lret {r : Int64} (X : Cx φ ad cc (some .long) own n fr lo) (hQ : Fini φ ad (some (.long r)) σ) (hd : decode cc pc = .ok (.lreturn, 1)) : wpm φ ad pc lv [.long r] σ := by
  obtain ⟨⟨p, l, e, R, s, m, args, below⟩, ⟨meth, c, D, c3, A, H0⟩, ⟨nL, cells, slots, Q⟩⟩ := φ
  obtain ⟨hx, hb, hr, hml, hnl, hown, hts, hlk, hK, hD, hA, hfr, hlo, hce, hsl, hN⟩ := X
  subst hnl
  intro H locs ls hP hS hl
  obtain ⟨rfl, rfl⟩ := hQ
  exact W.lret (v := r) hx hb hr (fun t ht hW => ⟨⟨rfl, by rw [ht]; exact hP⟩, hS.F ht⟩) hS.2.2 hd hlk
theorem w_vret (X : Cx φ ad cc none own n fr lo) (hQ : Fini φ ad none σ) (hd : decode cc pc = .ok (.return_, 1)) : wpm φ ad pc lv [] σ := by
  obtain ⟨⟨p, l, e, R, s, m, args, below⟩, ⟨meth, c, D, c3, A, H0⟩, ⟨nL, cells, slots, Q⟩⟩ := φ
  obtain ⟨hx, hb, hr, hml, hnl, hown, hts, hlk, hK, hD, hA, hfr, hlo, hce, hsl, hN⟩ := X
  subst hnl
  intro H locs ls hP hS hl
  obtain ⟨rfl, rfl⟩ := hQ
  exact W.vret hx hb hr (fun t ht hW => ⟨⟨rfl, by rw [ht]; exact hP⟩, hS.F ht⟩) hS.2.2 hd hlk
theorem w_aret {k : Nat} {nm : String} (X : Cx φ ad cc (some (.object nm)) own n fr lo) (hQ : Fini φ ad (some (.ref (ad k))) σ) (hd : decode cc pc = .ok (.areturn, 1)) : wpm φ ad pc lv [.ref (ad k)] σ := by
  obtain ⟨⟨p, l, e, R, s, m, args, below⟩, ⟨meth, c, D, c3, A, H0⟩, ⟨nL, cells, slots, Q⟩⟩ := φ
  obtain ⟨hx, hb, hr, hml, hnl, hown, hts, hlk, hK, hD, hA, hfr, hlo, hce, hsl, hN⟩ := X
  subst hnl
  intro H locs ls hP hS hl
  obtain ⟨rfl, rfl⟩ := hQ
  exact W.aret (v := .ref (ad k)) hx hb hr (Or.inl ⟨nm, rfl⟩) (Or.inr ⟨_, rfl⟩) (fun t ht hW => ⟨⟨rfl, by rw [ht]; exact hP⟩, hS.F ht⟩) hS.2.2 hd hlk
end WP
