theorem l9_0_2 {s : Sto} : f9_in (0 : Int64) (0 : Int64) (2 : Int64) s = some (1, s) := by rw [e9_in]; rfl
theorem l9_1_2 {s : Sto} : f9_in (1 : Int64) (0 : Int64) (2 : Int64) s = some (1, s) := by rw [e9_in]; rfl
theorem l9_2_2 {s : Sto} : f9_in (2 : Int64) (0 : Int64) (2 : Int64) s = some (1, s) := by rw [e9_in]; rfl
theorem l9_0_3 {s : Sto} : f9_in (0 : Int64) (0 : Int64) (3 : Int64) s = some (1, s) := by rw [e9_in]; rfl
theorem l9_1_3 {s : Sto} : f9_in (1 : Int64) (0 : Int64) (3 : Int64) s = some (1, s) := by rw [e9_in]; rfl
theorem l9_2_3 {s : Sto} : f9_in (2 : Int64) (0 : Int64) (3 : Int64) s = some (1, s) := by rw [e9_in]; rfl
theorem l9_3_3 {s : Sto} : f9_in (3 : Int64) (0 : Int64) (3 : Int64) s = some (1, s) := by rw [e9_in]; rfl
theorem e_both {s : Sto} (h : RR s) : ∃ (t u : Sto) (r q : Int32) (D : DD) (n hh0 w0 c m : Nat) (R : Nat → Nat), f8_playPad 0 s = some (r, t) ∧ f9_refusal 43 t = some (q, u) ∧ RR t ∧ RR u ∧ FrE s t ∧ (∀ k, k ≤ 42 → u.1 k = t.1 k) ∧ (DOk D ∧ RelC s 1 D ∧ RelM s D ∧ D.1 2 = nI hh0 ∧ hh0 ≤ 30 ∧ D.1 3 = nI w0 ∧ w0 ≤ 40 ∧ D.1 4 = nI c ∧ c ≤ 8 ∧ m ≤ 60 ∧ (∀ j, j < m → CodL (R j))) ∧
    ((r = -5 ∧ q = -5) ∨ (r = -3 ∧ q = -3 ∧ fbx (D.2 0) R (D.1 1) (N0D D hh0 w0) m 0 ≠ m ∧ PlC t D hh0 w0 m R (D.1 1) ∧ PlM u D hh0 w0 m R (D.1 1)) ∨ (r = 0 ∧ q = -6 ∧ fbx (D.2 0) R (D.1 1) (N0D D hh0 w0) m 0 = m ∧ PlC t D hh0 w0 m R (D.1 1) ∧ PlM u D hh0 w0 m R (D.1 1))) := by
  obtain ⟨⟨D, hD, hC, hM⟩, hp, h0, h1⟩ := id h
  obtain ⟨⟨n, hn1, hn2, en⟩, ⟨hh0, hh1, eh⟩, ⟨w, hw, ew⟩, ⟨c, hc, ec⟩, ht, hs⟩ := id hD
  obtain ⟨⟨pc, hpc, p1, p2⟩, p3⟩ := id hp
  obtain ⟨k1, k2⟩ := psO_ok (p := s.1 26) (n := pc) (nf := n) hn1 hn2 hpc
  obtain ⟨t, r, t1, t2, t3⟩ := e_playPad (c := c) hC hn1 hn2 en eh hh1 ew hw hpc p1
  have hMt : RelM t D := by
    unfold RelM at hM ⊢
    rw [t2 43 (by omega), t2 44 (by omega), t2 45 (by omega), t2 46 (by omega), t2 47 (by omega), t2 48 (by omega), t2 49 (by omega)]
    exact hM
  obtain ⟨u, q, u1, u2, u3, u4⟩ := e_refusal (s := t) (p := s.1 26) hMt hn1 hn2 en eh hh1 ew hw ec hc hpc (by rw [t2 43 (by omega)]; exact p2) (fun k hk => by rw [t2 50 (by omega)]; exact (p3 k hk).symm)
  have rt := h.same t2.same
  refine ⟨t, u, r, q, D, n, hh0, w, c, (psO (s.1 26) pc n).2.1, (psO (s.1 26) pc n).2.2, t1, u1, rt, rt.same u2, t2, u3, ⟨hD, hC, hM, eh, hh1, ew, hw, ec, hc, k1, fun j hj => (k2 j hj).l hn2⟩, ?_⟩
  rcases t3 with ⟨a, b⟩ | ⟨a, b, pC⟩
  · rcases u4 with ⟨a', b'⟩ | ⟨a', b', pM⟩
    · exact Or.inl ⟨b, b'⟩
    · exact absurd a' a
  · rcases u4 with ⟨a', b'⟩ | ⟨a', b', pM⟩
    · exact absurd a a'
    · by_cases e : fbx (D.2 0) (psO (s.1 26) pc n).2.2 (D.1 1) (N0D D hh0 w) (psO (s.1 26) pc n).2.1 0 = (psO (s.1 26) pc n).2.1
      · rw [if_pos e] at b b'
        exact Or.inr (Or.inr ⟨b, b', e, pC, pM⟩)
      · rw [if_neg e] at b b'
        exact Or.inr (Or.inl ⟨b, b', e, pC, pM⟩)
theorem op_judge {s : Sto} (h : RR s) (a : Int32) : ∃ r s1 s2, f8_judge 0 a s = some (r, s1) ∧ f9_judge 43 a s1 = some (r, s2) ∧ RR s2 := by
  rcases rng (v := a) (a := 0) (b := 3) with hr | ⟨hr, g1, g2⟩
  · exact ⟨-2, s, s, by simp [f8_judge, e_isWithin, bd2_some, kd_0, hr], by simp [f9_judge, e9_in_0_3, bd2_some, kd_43, hr], h⟩
  · obtain ⟨t, u, r, q, D, n, hh0, w0, c, m, R, e1, e2, rt, ru, ft, fu, ok, cs⟩ := e_both h
    obtain ⟨k, hk, rfl⟩ := nI_of2 (n := 3) (by decide) g1 g2
    rcases cs with ⟨rfl, rfl⟩ | ⟨rfl, rfl, hb, pC, pM⟩ | ⟨rfl, rfl, hb, pC, pM⟩
    · exact ⟨-5, t, u, by simp [f8_judge, e_isWithin, bd2_some, kd_0, hr, e1], by simp [f9_judge, e9_in_0_3, l9_0_3, l9_1_3, l9_2_3, l9_3_3, bd2_some, kd_43, hr, e2], ru⟩
    · obtain ⟨c1, c2, c3, c4, c5, c6⟩ := pC
      obtain ⟨v1, v2, v3, v4⟩ := pM
      rcases (show k = 0 ∨ k = 1 ∨ k = 2 ∨ k = 3 by omega) with rfl | rfl | rfl | rfl
      · exact ⟨_, t, u, by simp [f8_judge, e_isWithin, bd2_some, kd_0, hr, e1, show nI 0 = 0 from rfl, c3]; rfl, by simp [f9_judge, e9_in_0_3, l9_0_3, l9_1_3, l9_2_3, l9_3_3, bd2_some, kd_43, hr, e2, show nI 0 = 0 from rfl, v2], ru⟩
      · exact ⟨_, t, u, by simp [f8_judge, e_isWithin, bd2_some, kd_0, hr, e1, show nI 1 = 1 from rfl, c4]; rfl, by simp [f9_judge, e9_in_0_3, l9_0_3, l9_1_3, l9_2_3, l9_3_3, bd2_some, kd_43, hr, e2, show nI 1 = 1 from rfl, v3], ru⟩
      · exact ⟨-3, t, u, by simp [f8_judge, e_isWithin, bd2_some, kd_0, hr, e1, show nI 2 = 2 from rfl], by simp [f9_judge, e9_in_0_3, l9_0_3, l9_1_3, l9_2_3, l9_3_3, bd2_some, kd_43, hr, e2, show nI 2 = 2 from rfl, show ¬ (2 : Int32) ≤ 1 by decide], ru⟩
      · exact ⟨-3, t, u, by simp [f8_judge, e_isWithin, bd2_some, kd_0, hr, e1, show nI 3 = 3 from rfl, show ¬ (3 : Int32) < 2 by decide], by simp [f9_judge, e9_in_0_3, l9_0_3, l9_1_3, l9_2_3, l9_3_3, bd2_some, kd_43, hr, e2, show nI 3 = 3 from rfl, show ¬ (3 : Int32) ≤ 1 by decide], ru⟩
    · obtain ⟨c1, c2, c3, c4, c5, c6⟩ := pC
      obtain ⟨v1, v2, v3, v4⟩ := pM
      obtain ⟨x1, x2, x3, x4, -⟩ := v1 _ _ rfl rfl
      rcases (show k = 0 ∨ k = 1 ∨ k = 2 ∨ k = 3 by omega) with rfl | rfl | rfl | rfl
      · exact ⟨_, t, u, by simp [f8_judge, e_isWithin, bd2_some, kd_0, hr, e1, show nI 0 = 0 from rfl, c3]; rfl, by simp [f9_judge, e9_in_0_3, l9_0_3, l9_1_3, l9_2_3, l9_3_3, bd2_some, kd_43, hr, e2, show nI 0 = 0 from rfl, v2], ru⟩
      · exact ⟨_, t, u, by simp [f8_judge, e_isWithin, bd2_some, kd_0, hr, e1, show nI 1 = 1 from rfl, c4]; rfl, by simp [f9_judge, e9_in_0_3, l9_0_3, l9_1_3, l9_2_3, l9_3_3, bd2_some, kd_43, hr, e2, show nI 1 = 1 from rfl, v3], ru⟩
      · exact ⟨_, t, u, by simp [f8_judge, e_isWithin, bd2_some, kd_0, hr, e1, show nI 2 = 2 from rfl, c1.1.2.2.1]; rfl, by simp [f9_judge, e9_in_0_3, l9_0_3, l9_1_3, l9_2_3, l9_3_3, bd2_some, kd_43, hr, e2, show nI 2 = 2 from rfl, show ¬ (2 : Int32) ≤ 1 by decide, x1], ru⟩
      · exact ⟨_, t, u, by simp [f8_judge, e_isWithin, bd2_some, kd_0, hr, e1, show nI 3 = 3 from rfl, c1.1.2.2.2.1]; rfl, by simp [f9_judge, e9_in_0_3, l9_0_3, l9_1_3, l9_2_3, l9_3_3, bd2_some, kd_43, hr, e2, show nI 3 = 3 from rfl, show ¬ (3 : Int32) ≤ 1 by decide, x2], ru⟩
theorem at29 {t : Sto} {j : Nat} (hj : j < 61) : f8_at (27 + 2) (nI j) t = some (t.1 29 j, t) := e_atN (k := 27 + 2) (i := j) kd_29 (by rw [show ln (27 + 2) = 61 from rfl]; exact hj)
theorem low_loop {t : Sto} {R : Nat → Nat} {so : Int32} {N0 : NS} {m : Nat} (hm : m ≤ 60) (h1 : t.1 27 1 = nI m) (h29 : ∀ j, j ≤ m → t.1 29 j = nI (hh R so N0 j)) (hb : ∀ j, j ≤ m → hh R so N0 j ≤ 30) (h0 : N0.1 0 ≤ 30) : ∀ (d i fuel : Nat), i + d = m → d < fuel → L1_lowest_11 27 fuel (nI (mn R so N0 i)) (nI (i + 1)) t = some (nI (mn R so N0 m), t) := by
  intro d
  induction d with
  | zero =>
    intro i fuel e f
    obtain ⟨q, rfl⟩ : ∃ q, fuel = q + 1 := ⟨fuel - 1, by omega⟩
    have : i = m := by omega
    subst this
    unfold L1_lowest_11
    rw [h1, if_pos (nI_lt (by omega) (by omega))]
  | succ d ih =>
    intro i fuel e f
    obtain ⟨q, rfl⟩ : ∃ q, fuel = q + 1 := ⟨fuel - 1, by omega⟩
    have l := mn_le (R := R) (so := so) (N0 := N0) h0 i
    have l2 := hb (i + 1) (by omega)
    have e2 := ih (i + 1) q (by omega) (by omega)
    unfold L1_lowest_11
    rw [h1, if_neg (nI_nlt (by omega) (by omega)), at29 (by omega), bd2_some, h29 (i + 1) (by omega), nm_eq, nI_1]
    simp only [mn] at e2
    by_cases g : mn R so N0 i ≤ hh R so N0 (i + 1)
    · rw [if_pos g] at e2
      rw [if_neg (nI_nlt g (by omega))]; exact e2
    · rw [if_neg g] at e2
      rw [if_pos (nI_lt (by omega) (by omega))]; exact e2
theorem high_loop {t : Sto} {R : Nat → Nat} {so : Int32} {N0 : NS} {m : Nat} (hm : m ≤ 60) (h1 : t.1 27 1 = nI m) (h29 : ∀ j, j ≤ m → t.1 29 j = nI (hh R so N0 j)) (hb : ∀ j, j ≤ m → hh R so N0 j ≤ 30) (h0 : N0.1 0 ≤ 30) : ∀ (d i fuel : Nat), i + d = m → d < fuel → L1_highest_11 27 fuel (nI (mx R so N0 i)) (nI (i + 1)) t = some (nI (mx R so N0 m), t) := by
  intro d
  induction d with
  | zero =>
    intro i fuel e f
    obtain ⟨q, rfl⟩ : ∃ q, fuel = q + 1 := ⟨fuel - 1, by omega⟩
    have : i = m := by omega
    subst this
    unfold L1_highest_11
    rw [h1, if_pos (nI_lt (by omega) (by omega))]
  | succ d ih =>
    intro i fuel e f
    obtain ⟨q, rfl⟩ : ∃ q, fuel = q + 1 := ⟨fuel - 1, by omega⟩
    have l := mx_le (R := R) (so := so) (N0 := N0) h0 i (fun j hj => hb j (by omega))
    have l2 := hb (i + 1) (by omega)
    have e2 := ih (i + 1) q (by omega) (by omega)
    unfold L1_highest_11
    rw [h1, if_neg (nI_nlt (by omega) (by omega)), at29 (by omega), bd2_some, h29 (i + 1) (by omega), nm_eq, nI_1]
    simp only [mx] at e2
    by_cases g : hh R so N0 (i + 1) ≤ mx R so N0 i
    · rw [if_pos g] at e2
      rw [if_neg (nI_nlt g (by omega))]; exact e2
    · rw [if_neg g] at e2
      rw [if_pos (nI_lt (by omega) (by omega))]; exact e2
/-- all of the evening can be: what stands behind it is in bounds -/
theorem all_ok {D : DD} {h w m : Nat} {R : Nat → Nat} {so : Int32} (h1 : h ≤ 30) (h2 : w ≤ 40) (hR : ∀ j, j < m → CodL (R j)) (hb : fbx (D.2 0) R so (N0D D h w) m 0 = m) : ∀ j, j ≤ m → NOk (sq R so (N0D D h w) j) ∧ ((sq R so (N0D D h w) j).1 4 = 9 ∨ (sq R so (N0D D h w) j).1 4 < 6) := by
  intro j hj
  obtain ⟨n0, n1⟩ := N0D_ok (D := D) h1 h2
  obtain ⟨-, -, f3, -⟩ := fbx_spec (tm := D.2 0) (R := R) (so := so) (N0 := N0D D h w) m 0
  exact sq_ok (tm := D.2 0) n0 n1 j (fun x hx => ⟨hR x (by omega), f3 x (by omega) (by omega)⟩)
theorem op_behind {s : Sto} (h : RR s) (a : Int32) : ∃ r s1 s2, f8_behind 0 a s = some (r, s1) ∧ f9_behind 43 a s1 = some (r, s2) ∧ RR s2 := by
  rcases rng (v := a) (a := 0) (b := 3) with hr | ⟨hr, g1, g2⟩
  · exact ⟨-2, s, s, by simp [f8_behind, e_isWithin, bd2_some, kd_0, hr], by simp [f9_behind, e9_in_0_3, bd2_some, kd_43, hr], h⟩
  · obtain ⟨t, u, r, q, D, n, hh0, w0, c, m, R, e1, e2, rt, ru, ft, fu, ok, cs⟩ := e_both h
    obtain ⟨k, hk, rfl⟩ := nI_of2 (n := 3) (by decide) g1 g2
    rcases cs with ⟨rfl, rfl⟩ | ⟨rfl, rfl, hb, pC, pM⟩ | ⟨rfl, rfl, hb, pC, pM⟩
    · exact ⟨-5, t, u, by simp [f8_behind, e_isWithin, bd2_some, kd_0, hr, e1], by simp [f9_behind, e9_in_0_3, l9_0_3, l9_1_3, l9_2_3, l9_3_3, bd2_some, kd_43, hr, e2], ru⟩
    · exact ⟨-3, t, u, by simp [f8_behind, e_isWithin, bd2_some, kd_0, hr, e1], by simp [f9_behind, e9_in_0_3, l9_0_3, l9_1_3, l9_2_3, l9_3_3, bd2_some, kd_43, hr, e2], ru⟩
    · obtain ⟨hD, hC, hM, eh, h1, ew, h2, ec, hc, hm, hR⟩ := ok
      have al := all_ok h1 h2 hR hb
      obtain ⟨c1, c2, c3, c4, c5, c6⟩ := pC
      obtain ⟨v1, v2, v3, v4⟩ := pM
      obtain ⟨x1, x2, x3, x4, x5, x6, -⟩ := v1 _ _ rfl rfl
      rw [hb] at c1 c2 x3 x4 x5 x6
      rcases (show k = 0 ∨ k = 1 ∨ k = 2 ∨ k = 3 by omega) with rfl | rfl | rfl | rfl
      · exact ⟨_, t, u, by simp [f8_behind, e_isWithin, bd2_some, kd_0, hr, e1, show nI 0 = 0 from rfl, c1.1.1]; rfl, by simp [f9_behind, e9_in_0_3, l9_0_3, l9_1_3, l9_2_3, l9_3_3, bd2_some, kd_43, hr, e2, show nI 0 = 0 from rfl, x3], ru⟩
      · exact ⟨_, t, u, by simp [f8_behind, e_isWithin, bd2_some, kd_0, hr, e1, show nI 1 = 1 from rfl, c1.1.2.1]; rfl, by simp [f9_behind, e9_in_0_3, l9_0_3, l9_1_3, l9_2_3, l9_3_3, bd2_some, kd_43, hr, e2, show nI 1 = 1 from rfl, x4], ru⟩
      · have lo := low_loop (t := t) (R := R) (so := D.1 1) (N0 := N0D D hh0 w0) hm c5 (fun j hj => c2 j hj) (fun j hj => (al j hj).1.1) h1 m 0 FU (by omega) (by unfold FU; omega)
        have a0 : t.1 29 0 = nI (mn R (D.1 1) (N0D D hh0 w0) 0) := c2 0 (by omega)
        have el : f1_lowest 27 t = some (nI (mn R (D.1 1) (N0D D hh0 w0) m), t) := by
          unfold f1_lowest
          rw [if_pos kd_27, show (0 : Int32) = nI 0 from rfl, at29 (by omega), bd2_some, a0, show (1 : Int32) = nI (0 + 1) from rfl, lo, bd2_some]
        exact ⟨_, t, u, by simp [f8_behind, e_isWithin, bd2_some, kd_0, hr, e1, show nI 2 = 2 from rfl, el]; rfl, by simp [f9_behind, e9_in_0_3, l9_0_3, l9_1_3, l9_2_3, l9_3_3, bd2_some, kd_43, hr, e2, show nI 2 = 2 from rfl, x5], ru⟩
      · have lo := high_loop (t := t) (R := R) (so := D.1 1) (N0 := N0D D hh0 w0) hm c5 (fun j hj => c2 j hj) (fun j hj => (al j hj).1.1) h1 m 0 FU (by omega) (by unfold FU; omega)
        have a0 : t.1 29 0 = nI (mx R (D.1 1) (N0D D hh0 w0) 0) := c2 0 (by omega)
        have el : f1_highest 27 t = some (nI (mx R (D.1 1) (N0D D hh0 w0) m), t) := by
          unfold f1_highest
          rw [if_pos kd_27, show (0 : Int32) = nI 0 from rfl, at29 (by omega), bd2_some, a0, show (1 : Int32) = nI (0 + 1) from rfl, lo, bd2_some]
        exact ⟨_, t, u, by simp [f8_behind, e_isWithin, bd2_some, kd_0, hr, e1, show nI 3 = 3 from rfl, el]; rfl, by simp [f9_behind, e9_in_0_3, l9_0_3, l9_1_3, l9_2_3, l9_3_3, bd2_some, kd_43, hr, e2, show nI 3 = 3 from rfl, x6], ru⟩
/-- has(row) of the needles at o -/
theorem e_has {o h : Nat} {x : Int32} {s : Sto} (ho : kd o = 2) (h3 : s.1 o 3 = nI h) : f2_has o x s = some (if x < 0 then 0 else if nI h ≤ x then 0 else 1, s) := by
  unfold f2_has
  rw [if_pos ho, h3]
  by_cases a : x < 0
  · rw [if_pos a, if_pos a]
  · rw [if_neg a, if_neg a]
    by_cases b : nI h ≤ x
    · rw [if_pos b, if_pos b]
    · rw [if_neg b, if_neg b]
theorem e_isRow {h : Nat} {x : Int32} {s : Sto} (hh : h ≤ 1000) (h3 : s.1 43 3 = nI h) : f9_isRow 43 x s = some (if x < 0 then 0 else if nI h ≤ x then 0 else 1, s) := by
  unfold f9_isRow
  rw [if_pos kd_43, h3, e9_in_0x, bd2_some]
  by_cases a : x < 0
  · rw [if_pos a, if_pos (Or.inl rfl), if_pos a]
  · rw [if_neg a, if_neg a]
    by_cases b : nI h ≤ x
    · rw [if_pos ((nI_m1 hh a).mpr b), if_pos (Or.inl rfl), if_pos b]
    · rw [if_neg (fun z => b ((nI_m1 hh a).mp z)), if_pos (Or.inr rfl), if_neg b]
theorem op_row {s : Sto} (h : RR s) (x y : Int32) : ∃ r s1 s2, f8_row 0 x y s = some (r, s1) ∧ f9_row 43 x y s1 = some (r, s2) ∧ RR s2 := by
  rcases rng (v := y) (a := 0) (b := 2) with hr | ⟨hr, g1, g2⟩
  · exact ⟨-2, s, s, by simp [f8_row, e_isWithin, bd2_some, kd_0, hr], by simp [f9_row, e9_in_0_2, bd2_some, kd_43, hr], h⟩
  · obtain ⟨t, u, r, q, D, n, hh0, w0, c, m, R, e1, e2, rt, ru, ft, fu, ok, cs⟩ := e_both h
    obtain ⟨k, hk, rfl⟩ := nI_of2 (n := 2) (by decide) g1 g2
    rcases cs with ⟨rfl, rfl⟩ | ⟨rfl, rfl, hb, pC, pM⟩ | ⟨rfl, rfl, hb, pC, pM⟩
    · exact ⟨-5, t, u, by simp [f8_row, e_isWithin, bd2_some, kd_0, hr, e1], by simp [f9_row, e9_in_0_2, l9_0_2, l9_1_2, l9_2_2, bd2_some, kd_43, hr, e2], ru⟩
    · exact ⟨-3, t, u, by simp [f8_row, e_isWithin, bd2_some, kd_0, hr, e1], by simp [f9_row, e9_in_0_2, l9_0_2, l9_1_2, l9_2_2, bd2_some, kd_43, hr, e2], ru⟩
    · obtain ⟨hD, hC, hM, eh, h1, ew, h2, ec, hc, hm, hR⟩ := ok
      have al := all_ok h1 h2 hR hb m (Nat.le_refl _)
      obtain ⟨c1, c2, c3, c4, c5, c6⟩ := pC
      obtain ⟨v1, v2, v3, v4⟩ := pM
      obtain ⟨x1, x2, x3, x4, x5, x6, x7, x8⟩ := v1 _ _ rfl rfl
      rw [hb] at c1 x3 x8
      have eH := e_has (x := x) (s := t) kd_30 c1.1.1
      rcases i3 x ((sq R (D.1 1) (N0D D hh0 w0) m).1 0) (by have := al.1.1; omega) with a | a | ⟨j, hj, rfl⟩
      · refine ⟨-1, t, u, ?_, ?_, ru⟩
        · rw [if_pos a] at eH
          simp [f8_row, e_isWithin, bd2_some, kd_0, hr, e1, eH]
        · simp [f9_row, e9_in_0_2, l9_0_2, l9_1_2, l9_2_2, bd2_some, kd_43, hr, e2, x3, e9_in_0x, a]
      · by_cases a0 : x < 0
        · refine ⟨-1, t, u, ?_, ?_, ru⟩
          · rw [if_pos a0] at eH
            simp [f8_row, e_isWithin, bd2_some, kd_0, hr, e1, eH]
          · simp [f9_row, e9_in_0_2, l9_0_2, l9_1_2, l9_2_2, bd2_some, kd_43, hr, e2, x3, e9_in_0x, a0]
        · refine ⟨-1, t, u, ?_, ?_, ru⟩
          · rw [if_neg a0, if_pos a] at eH
            simp [f8_row, e_isWithin, bd2_some, kd_0, hr, e1, eH]
          · simp [f9_row, e9_in_0_2, l9_0_2, l9_1_2, l9_2_2, bd2_some, kd_43, hr, e2, x3, e9_in_0x, a0, (nI_m1 (by have := al.1.1; omega) a0).mpr a]
      · have j30 : j < 30 := by have := al.1.1; omega
        have z1 : ¬ nI j < 0 := nI_pos (by omega)
        have z2 : ¬ nI ((sq R (D.1 1) (N0D D hh0 w0) m).1 0) ≤ nI j := nI_ge hj (by have := al.1.1; omega)
        have z3 : ¬ nI ((sq R (D.1 1) (N0D D hh0 w0) m).1 0) - 1 < nI j := fun q => z2 ((nI_m1 (by have := al.1.1; omega) z1).mp q)
        rw [if_neg z1, if_neg z2] at eH
        obtain ⟨l1, l2, l3⟩ := x8 j j30
        have t1 := e_atN (k := 31) (i := j) (s := t) kd_31 (by rw [ln_31]; omega)
        have t2 := e_atN (k := 32) (i := j) (s := t) kd_32 (by rw [ln_32]; omega)
        have t3 := e_atN (k := 33) (i := j) (s := t) kd_33 (by rw [ln_33]; omega)
        have d0 : (nI (3 * j)).toNatClampNeg = 3 * j := nI_clamp (by omega)
        have d1 : (nI (3 * j + 1)).toNatClampNeg = 3 * j + 1 := nI_clamp (by omega)
        have d2 : (nI (3 * j + 2)).toNatClampNeg = 3 * j + 2 := nI_clamp (by omega)
        have q0a : (0 : Int) ≤ (nI (3 * j)).toInt := (inb_nI (n := 3 * j) (m := 90) (by omega) (by omega)).1
        have q0b : (nI (3 * j)).toInt < 90 := (inb_nI (n := 3 * j) (m := 90) (by omega) (by omega)).2
        have q1a : (0 : Int) ≤ (nI (3 * j + 1)).toInt := (inb_nI (n := 3 * j + 1) (m := 90) (by omega) (by omega)).1
        have q1b : (nI (3 * j + 1)).toInt < 90 := (inb_nI (n := 3 * j + 1) (m := 90) (by omega) (by omega)).2
        have q2a : (0 : Int) ≤ (nI (3 * j + 2)).toInt := (inb_nI (n := 3 * j + 2) (m := 90) (by omega) (by omega)).1
        have q2b : (nI (3 * j + 2)).toInt < 90 := (inb_nI (n := 3 * j + 2) (m := 90) (by omega) (by omega)).2
        have m0 : nI (3 * j) + 0 = nI (3 * j) := nI_add _ 0
        rcases (show k = 0 ∨ k = 1 ∨ k = 2 by omega) with rfl | rfl | rfl
        · refine ⟨(sq R (D.1 1) (N0D D hh0 w0) m).2 0 j, t, u, ?_, ?_, ru⟩
          · simp [f8_row, f2_tellRow, f2_colourAt, e_isWithin, bd2_some, kd_0, kd_30, hr, e1, eH, show nI 0 = 0 from rfl, t1, c1.2.1 j j30]
          · simp [f9_row, e9_in_0_2, l9_0_2, l9_1_2, l9_2_2, bd2_some, kd_43, hr, e2, x3, e9_in_0x, z1, z3, show nI 0 = 0 from rfl, n3, m0, inb, ln_59, q0a, q0b, d0, l1]
        · refine ⟨(sq R (D.1 1) (N0D D hh0 w0) m).2 1 j, t, u, ?_, ?_, ru⟩
          · simp [f8_row, f2_tellRow, f2_kindAt, e_isWithin, bd2_some, kd_0, kd_30, hr, e1, eH, show nI 1 = 1 from rfl, t2, c1.2.2.1 j j30]
          · simp [f9_row, e9_in_0_2, l9_0_2, l9_1_2, l9_2_2, bd2_some, kd_43, hr, e2, x3, e9_in_0x, z1, z3, show nI 1 = 1 from rfl, n3, nI_1, inb, ln_59, q1a, q1b, d1, l2]
        · refine ⟨(sq R (D.1 1) (N0D D hh0 w0) m).2 2 j, t, u, ?_, ?_, ru⟩
          · simp [f8_row, f2_tellRow, e_isWithin, bd2_some, kd_0, kd_30, hr, e1, eH, show nI 2 = 2 from rfl, t3, c1.2.2.2 j j30]
          · simp [f9_row, e9_in_0_2, l9_0_2, l9_1_2, l9_2_2, bd2_some, kd_43, hr, e2, x3, e9_in_0x, z1, z3, show nI 2 = 2 from rfl, n3, n2, inb, ln_59, q2a, q2b, d2, l3]
