theorem rng {v a b : Int32} : ((if v < a then (0 : Int32) else if b < v then 0 else 1) = 0) ∨ ((if v < a then (0 : Int32) else if b < v then 0 else 1) = 1 ∧ ¬ v < a ∧ v ≤ b) := by
  by_cases h1 : v < a
  · exact Or.inl (by simp [h1])
  · by_cases h2 : b < v
    · exact Or.inl (by simp [h2])
    · exact Or.inr ⟨by simp [h1, h2], h1, Int32.not_lt.mp h2⟩
theorem RelI.keep {s t : Sto} {k : Nat} (h : RelI s k) (hk : k ≤ 1) (e : ∀ q, 9 ≤ q → q ≤ 24 → t.1 q = s.1 q) (e5 : t.1 65 = s.1 65) (e6 : t.1 66 = s.1 66) : RelI t k := by
  have g : ∀ j, j ≤ 7 → t.1 (9 + 8 * k + j) = s.1 (9 + 8 * k + j) := fun j hj => e _ (by omega) (by omega)
  have g0 : t.1 (9 + 8 * k) = s.1 (9 + 8 * k) := g 0 (by omega)
  rcases h with ⟨a, b⟩ | ⟨a, b, D, hD, hC, hK⟩
  · exact Or.inl ⟨by rw [g0]; exact a, by rw [e6]; exact b⟩
  · refine Or.inr ⟨by rw [g0]; exact a, by rw [e6]; exact b, D, hD, ?_, ?_⟩
    · unfold RelC at hC ⊢
      rw [g0, g 1 (by omega), g 2 (by omega), g 3 (by omega), g 4 (by omega), g 5 (by omega), g 6 (by omega), g 7 (by omega)]
      exact hC
    · unfold RelK at hK ⊢
      rw [e5]; exact hK
theorem RelP.keep {s t : Sto} (h : RelP s) (e1 : t.1 25 1 = s.1 25 1) (e2 : t.1 26 = s.1 26) (e3 : t.1 43 12 = s.1 43 12) (e4 : ∀ i, i < 60 → t.1 50 i = s.1 50 i) : RelP t := by
  obtain ⟨⟨c, hc, p1, p2⟩, p3⟩ := h
  exact ⟨⟨c, hc, e1.trans p1, e3.trans p2⟩, fun i hi => by rw [e2, e4 i hi]; exact p3 i hi⟩
theorem RelC.lit {s : Sto} {D : DD} (h : RelC s 1 D) : (s.1 1 0 = D.1 0 ∧ s.1 1 1 = D.1 1 ∧ s.1 3 3 = D.1 2 ∧ s.1 3 4 = D.1 3 ∧ s.1 1 4 = D.1 4) ∧ (∀ i, i < 6 → s.1 2 i = D.2 0 i) ∧ (∀ i, i < 30 → s.1 4 i = D.2 1 i) ∧ (∀ i, i < 30 → s.1 5 i = D.2 2 i) ∧ (∀ i, i < 30 → s.1 6 i = D.2 3 i) ∧ (∀ i, i < 8 → s.1 7 i = D.2 4 i) ∧ (∀ i, i < 8 → s.1 8 i = D.2 5 i) := h
theorem tm_D {D : DD} {g : Nat} {v : Int32} (h : ∀ g, g < 6 → D.2 0 g = 0 ∨ D.2 0 g = 1 ∨ D.2 0 g = 2) (hv : v = 0 ∨ v = 1 ∨ v = 2) : ∀ i, i < 6 → (if i = g then v else D.2 0 i) = 0 ∨ (if i = g then v else D.2 0 i) = 1 ∨ (if i = g then v else D.2 0 i) = 2 := by
  intro i hi
  by_cases e : i = g
  · simpa [e] using hv
  · simpa [e] using h i hi
theorem op_width {s : Sto} (h : RR s) (v : Int32) : ∃ r s1 s2, f8_width 0 v s = some (r, s1) ∧ f9_width 43 v s1 = some (r, s2) ∧ RR s2 := by
  obtain ⟨⟨D, hD, hC, hM⟩, hp, h0, h1⟩ := id h
  obtain ⟨⟨a0, a1, a2, a3, a4⟩, b0, b1, b2, b3, b4, b5⟩ := hC.lit
  obtain ⟨⟨m0, m1, m2, m3, m4⟩, n0, n1, n2, n3, n4, n5⟩ := id hM
  obtain ⟨⟨n, hn1, hn2, en⟩, ⟨hh, hh1, eh⟩, ⟨w, hw, ew⟩, ⟨c, hc, ec⟩, ht, hs⟩ := id hD
  rcases rng (v := v) (a := 0) (b := 40) with hr | ⟨hr, g1, g2⟩
  · exact ⟨-2, s, s, by simp [f8_width, e_isWithin, bd2_some, kd_0, hr], by simp [f9_width, e9_in_0_40, bd2_some, kd_43, hr], h⟩
  · obtain ⟨w', hw', rfl⟩ := nI_of2 (n := 40) (by decide) g1 g2
    refine ⟨D.1 3, stI s 3 4 (nI w'), stI (stI s 3 4 (nI w')) 43 4 (nI w'), by simp [f8_width, e_isWithin, bd2_some, kd_0, hr, nm_eq, a3], by simp [f9_width, e9_in_0_40, bd2_some, kd_43, hr, nm_eq, stI_get, m3], ⟨(fun j => if j = 3 then nI w' else D.1 j, D.2), ?_, ?_, ?_⟩, hp.keep (by simp [stI_get]) (by rw [stI_ne (by omega), stI_ne (by omega)]) (by simp [stI_get]) (fun i hi => by rw [stI_ne (by omega), stI_ne (by omega)]), h0.keep (by omega) (fun q a b => by rw [stI_ne (by omega), stI_ne (by omega)]) (by rw [stI_ne (by omega), stI_ne (by omega)]) (by rw [stI_ne (by omega), stI_ne (by omega)]), h1.keep (by omega) (fun q a b => by rw [stI_ne (by omega), stI_ne (by omega)]) (by rw [stI_ne (by omega), stI_ne (by omega)]) (by rw [stI_ne (by omega), stI_ne (by omega)])⟩
    · exact ⟨⟨n, hn1, hn2, by simpa using en⟩, ⟨hh, hh1, by simpa using eh⟩, ⟨w', hw', by simp⟩, ⟨c, hc, by simpa using ec⟩, ht, hs⟩
    · simp +contextual [RelC, stI_get, a0, a1, a2, a3, a4, b0, b1, b2, b3, b4, b5]
    · simp +contextual [RelM, stI_get, m0, m1, m2, m3, m4, n0, n1, n2, n3, n4, n5]
theorem op_fact {s : Sto} (h : RR s) (f : Int32) (i : Int32) : ∃ r s1 s2, f8_fact 0 f i s = some (r, s1) ∧ f9_fact 43 f i s1 = some (r, s2) ∧ RR s2 := by
  obtain ⟨⟨D, hD, hC, hM⟩, hp, h0, h1⟩ := id h
  obtain ⟨⟨a0, a1, a2, a3, a4⟩, b0, b1, b2, b3, b4, b5⟩ := hC.lit
  obtain ⟨⟨m0, m1, m2, m3, m4⟩, n0, n1, n2, n3, n4, n5⟩ := id hM
  obtain ⟨⟨n, hn1, hn2, en⟩, ⟨hh, hh1, eh⟩, ⟨w, hw, ew⟩, ⟨c, hc, ec⟩, ht, hs⟩ := id hD
  rcases rng (v := f) (a := 0) (b := D.1 0 - 1) with hr | ⟨hr, g1, g2⟩
  · exact ⟨-1, s, s, by simp [f8_fact, e_isWithin, bd2_some, kd_0, hr, a0], by simp [f9_fact, f9_isFact, e9_in_0x, bd2_some, kd_43, hr, m0], h⟩
  · by_cases hi : i = 0
    · refine ⟨(D.1 1 &&& (((1 : Int32) <<< (f &&& 31)) ^^^ (-1 : Int32))), stI s 1 1 (D.1 1 &&& (((1 : Int32) <<< (f &&& 31)) ^^^ (-1 : Int32))), stI (stI s 1 1 (D.1 1 &&& (((1 : Int32) <<< (f &&& 31)) ^^^ (-1 : Int32)))) 43 1 (D.1 1 &&& (((1 : Int32) <<< (f &&& 31)) ^^^ (-1 : Int32))), ?_, ?_, ⟨(fun j => if j = 1 then (D.1 1 &&& (((1 : Int32) <<< (f &&& 31)) ^^^ (-1 : Int32))) else D.1 j, D.2), ?_, ?_, ?_⟩, hp.keep (by simp [stI_get]) (by rw [stI_ne (by omega), stI_ne (by omega)]) (by simp [stI_get]) (fun i hi => by rw [stI_ne (by omega), stI_ne (by omega)]), h0.keep (by omega) (fun q a b => by rw [stI_ne (by omega), stI_ne (by omega)]) (by rw [stI_ne (by omega), stI_ne (by omega)]) (by rw [stI_ne (by omega), stI_ne (by omega)]), h1.keep (by omega) (fun q a b => by rw [stI_ne (by omega), stI_ne (by omega)]) (by rw [stI_ne (by omega), stI_ne (by omega)]) (by rw [stI_ne (by omega), stI_ne (by omega)])⟩
      · simp [f8_fact, e_isWithin, bd2_some, kd_0, hr, nm_eq, a0, a1, hi, stI_get]
      · simp [f9_fact, f9_isFact, e9_in_0x, bd2_some, kd_43, hr, nm_eq, stI_get, m0, m1, hi]
      · exact ⟨⟨n, hn1, hn2, by simpa using en⟩, ⟨hh, hh1, by simpa using eh⟩, ⟨w, hw, by simpa using ew⟩, ⟨c, hc, by simpa using ec⟩, ht, hs⟩
      · simp +contextual [RelC, stI_get, a0, a1, a2, a3, a4, b0, b1, b2, b3, b4, b5]
      · simp +contextual [RelM, stI_get, m0, m1, m2, m3, m4, n0, n1, n2, n3, n4, n5]
    · refine ⟨(D.1 1 ||| ((1 : Int32) <<< (f &&& 31))), stI s 1 1 (D.1 1 ||| ((1 : Int32) <<< (f &&& 31))), stI (stI s 1 1 (D.1 1 ||| ((1 : Int32) <<< (f &&& 31)))) 43 1 (D.1 1 ||| ((1 : Int32) <<< (f &&& 31))), ?_, ?_, ⟨(fun j => if j = 1 then (D.1 1 ||| ((1 : Int32) <<< (f &&& 31))) else D.1 j, D.2), ?_, ?_, ?_⟩, hp.keep (by simp [stI_get]) (by rw [stI_ne (by omega), stI_ne (by omega)]) (by simp [stI_get]) (fun i hi => by rw [stI_ne (by omega), stI_ne (by omega)]), h0.keep (by omega) (fun q a b => by rw [stI_ne (by omega), stI_ne (by omega)]) (by rw [stI_ne (by omega), stI_ne (by omega)]) (by rw [stI_ne (by omega), stI_ne (by omega)]), h1.keep (by omega) (fun q a b => by rw [stI_ne (by omega), stI_ne (by omega)]) (by rw [stI_ne (by omega), stI_ne (by omega)]) (by rw [stI_ne (by omega), stI_ne (by omega)])⟩
      · simp [f8_fact, e_isWithin, bd2_some, kd_0, hr, nm_eq, a0, a1, hi, stI_get]
      · simp [f9_fact, f9_isFact, e9_in_0x, bd2_some, kd_43, hr, nm_eq, stI_get, m0, m1, hi]
      · exact ⟨⟨n, hn1, hn2, by simpa using en⟩, ⟨hh, hh1, by simpa using eh⟩, ⟨w, hw, by simpa using ew⟩, ⟨c, hc, by simpa using ec⟩, ht, hs⟩
      · simp +contextual [RelC, stI_get, a0, a1, a2, a3, a4, b0, b1, b2, b3, b4, b5]
      · simp +contextual [RelM, stI_get, m0, m1, m2, m3, m4, n0, n1, n2, n3, n4, n5]
theorem op_temper {s : Sto} (h : RR s) (g : Int32) (v : Int32) : ∃ r s1 s2, f8_temper 0 g v s = some (r, s1) ∧ f9_temper 43 g v s1 = some (r, s2) ∧ RR s2 := by
  obtain ⟨⟨D, hD, hC, hM⟩, hp, h0, h1⟩ := id h
  obtain ⟨⟨a0, a1, a2, a3, a4⟩, b0, b1, b2, b3, b4, b5⟩ := hC.lit
  obtain ⟨⟨m0, m1, m2, m3, m4⟩, n0, n1, n2, n3, n4, n5⟩ := id hM
  obtain ⟨⟨n, hn1, hn2, en⟩, ⟨hh, hh1, eh⟩, ⟨w, hw, ew⟩, ⟨c, hc, ec⟩, ht, hs⟩ := id hD
  rcases rng (v := g) (a := 0) (b := 5) with hr | ⟨hr, g1, g2⟩
  · exact ⟨-1, s, s, by simp [f8_temper, e_isGuest, bd2_some, kd_0, hr], by simp [f9_temper, f9_isGuest, e9_in_0_5, bd2_some, kd_43, hr], h⟩
  · rcases rng (v := v) (a := 0) (b := 2) with hq | ⟨hq, g3, g4⟩
    · exact ⟨-2, s, s, by simp [f8_temper, e_isGuest, e_isWithin, bd2_some, kd_0, hr, hq], by simp [f9_temper, f9_isGuest, e9_in_0_5, e9_in_0_2, bd2_some, kd_43, hr, hq], h⟩
    · obtain ⟨k, hk, rfl⟩ := nI_of2 (n := 5) (by decide) g1 g2
      have hv : v = 0 ∨ v = 1 ∨ v = 2 := by
        obtain ⟨j, hj, rfl⟩ := nI_of2 (n := 2) (by decide) g3 g4
        rcases (show j = 0 ∨ j = 1 ∨ j = 2 by omega) with rfl | rfl | rfl
        · exact Or.inl rfl
        · exact Or.inr (Or.inl rfl)
        · exact Or.inr (Or.inr rfl)
      have q1a : (0 : Int) ≤ (nI k).toInt := (inb_nI (n := k) (m := 6) (by omega) (by omega)).1; have q1b : (nI k).toInt < 6 := (inb_nI (n := k) (m := 6) (by omega) (by omega)).2
      have q2 : (nI k).toNatClampNeg = k := nI_clamp (by omega)
      refine ⟨D.2 0 k, stI s 2 k v, stI (stI s 2 k v) 44 k v, ?_, ?_, ⟨(D.1, fun a i => if a = 0 ∧ i = k then v else D.2 a i), ?_, ?_, ?_⟩, hp.keep (by simp [stI_get]) (by rw [stI_ne (by omega), stI_ne (by omega)]) (by simp [stI_get]) (fun i hi => by rw [stI_ne (by omega), stI_ne (by omega)]), h0.keep (by omega) (fun q a b => by rw [stI_ne (by omega), stI_ne (by omega)]) (by rw [stI_ne (by omega), stI_ne (by omega)]) (by rw [stI_ne (by omega), stI_ne (by omega)]), h1.keep (by omega) (fun q a b => by rw [stI_ne (by omega), stI_ne (by omega)]) (by rw [stI_ne (by omega), stI_ne (by omega)]) (by rw [stI_ne (by omega), stI_ne (by omega)])⟩
      · simp [f8_temper, e_isGuest, e_isWithin, bd2_some, kd_0, hr, hq, e_temper (o := 1) (g := k) kd_1 kd_2 ln_2 (by omega), e_put (k := 2) (i := k) kd_2 (by rw [ln_2]; omega), bd1_some, b0 k (by omega)]
      · simp [f9_temper, f9_isGuest, e9_in_0_5, e9_in_0_2, bd2_some, kd_43, hr, hq, nm_eq, ln_44, inb, q1a, q1b, q2, stI_get, n0 k (by omega)]
      · exact ⟨⟨n, hn1, hn2, en⟩, ⟨hh, hh1, eh⟩, ⟨w, hw, ew⟩, ⟨c, hc, ec⟩, by simpa using tm_D (g := k) ht hv, by simpa using hs⟩
      · simp +contextual [RelC, stI_get, a0, a1, a2, a3, a4, b0, b1, b2, b3, b4, b5]
      · simp +contextual [RelM, stI_get, m0, m1, m2, m3, m4, n0, n1, n2, n3, n4, n5]
theorem op_wipe {s : Sto} (h : RR s) : ∃ r s1 s2, f8_wipe 0 s = some (r, s1) ∧ f9_wipe 43 s1 = some (r, s2) ∧ RR s2 := by
  obtain ⟨⟨D, hD, hC, hM⟩, hp, h0, h1⟩ := id h
  obtain ⟨⟨a0, a1, a2, a3, a4⟩, b0, b1, b2, b3, b4, b5⟩ := hC.lit
  obtain ⟨⟨m0, m1, m2, m3, m4⟩, n0, n1, n2, n3, n4, n5⟩ := id hM
  obtain ⟨⟨n, hn1, hn2, en⟩, ⟨hh, hh1, eh⟩, ⟨w, hw, ew⟩, ⟨c, hc, ec⟩, ht, hs⟩ := id hD
  obtain ⟨⟨pc, hpc, p1, p2⟩, p3⟩ := id hp
  refine ⟨nI pc, stI s 25 1 0, stI (stI s 25 1 0) 43 12 0, by simp [f8_wipe, kd_0, nm_eq, p1], by simp [f9_wipe, kd_43, nm_eq, stI_get, p2], ⟨D, hD, ?_, ?_⟩, ⟨⟨0, by omega, by simp [stI_get, nI_0], by simp [stI_get, nI_0]⟩, fun i hi => by rw [stI_ne (by omega), stI_ne (by omega), stI_ne (by omega), stI_ne (by omega)]; exact p3 i hi⟩, h0.keep (by omega) (fun q a b => by rw [stI_ne (by omega), stI_ne (by omega)]) (by rw [stI_ne (by omega), stI_ne (by omega)]) (by rw [stI_ne (by omega), stI_ne (by omega)]), h1.keep (by omega) (fun q a b => by rw [stI_ne (by omega), stI_ne (by omega)]) (by rw [stI_ne (by omega), stI_ne (by omega)]) (by rw [stI_ne (by omega), stI_ne (by omega)])⟩
  · simp +contextual [RelC, stI_get, a0, a1, a2, a3, a4, b0, b1, b2, b3, b4, b5]
  · simp +contextual [RelM, stI_get, m0, m1, m2, m3, m4, n0, n1, n2, n3, n4, n5]
theorem op_forget {s : Sto} (h : RR s) : ∃ r s1 s2, f8_forget 0 s = some (r, s1) ∧ f9_forget 43 s1 = some (r, s2) ∧ RR s2 := by
  obtain ⟨⟨D, hD, hC, hM⟩, hp, h0, h1⟩ := id h
  obtain ⟨⟨a0, a1, a2, a3, a4⟩, b0, b1, b2, b3, b4, b5⟩ := hC.lit
  obtain ⟨⟨m0, m1, m2, m3, m4⟩, n0, n1, n2, n3, n4, n5⟩ := id hM
  obtain ⟨⟨n, hn1, hn2, en⟩, ⟨hh, hh1, eh⟩, ⟨w, hw, ew⟩, ⟨c, hc, ec⟩, ht, hs⟩ := id hD
  refine ⟨D.1 4, stI s 1 4 0, stI (stI s 1 4 0) 43 10 0, by simp [f8_forget, kd_0, nm_eq, a4], by simp [f9_forget, kd_43, nm_eq, stI_get, m4], ⟨(fun j => if j = 4 then 0 else D.1 j, D.2), ?_, ?_, ?_⟩, hp.keep (by simp [stI_get]) (by rw [stI_ne (by omega), stI_ne (by omega)]) (by simp [stI_get]) (fun i hi => by rw [stI_ne (by omega), stI_ne (by omega)]), h0.keep (by omega) (fun q a b => by rw [stI_ne (by omega), stI_ne (by omega)]) (by rw [stI_ne (by omega), stI_ne (by omega)]) (by rw [stI_ne (by omega), stI_ne (by omega)]), h1.keep (by omega) (fun q a b => by rw [stI_ne (by omega), stI_ne (by omega)]) (by rw [stI_ne (by omega), stI_ne (by omega)]) (by rw [stI_ne (by omega), stI_ne (by omega)])⟩
  · exact ⟨⟨n, hn1, hn2, by simpa using en⟩, ⟨hh, hh1, by simpa using eh⟩, ⟨w, hw, by simpa using ew⟩, ⟨0, by omega, by simp [nI_0]⟩, ht, hs⟩
  · simp +contextual [RelC, stI_get, a0, a1, a2, a3, a4, b0, b1, b2, b3, b4, b5]
  · simp +contextual [RelM, stI_get, m0, m1, m2, m3, m4, n0, n1, n2, n3, n4, n5]
theorem op_say {s : Sto} (h : RR s) (v : Int32) : ∃ r s1 s2, f8_say 0 v s = some (r, s1) ∧ f9_say 43 v s1 = some (r, s2) ∧ RR s2 := by
  obtain ⟨⟨D, hD, hC, hM⟩, hp, h0, h1⟩ := id h
  obtain ⟨⟨a0, a1, a2, a3, a4⟩, b0, b1, b2, b3, b4, b5⟩ := hC.lit
  obtain ⟨⟨m0, m1, m2, m3, m4⟩, n0, n1, n2, n3, n4, n5⟩ := id hM
  obtain ⟨⟨n, hn1, hn2, en⟩, ⟨hh, hh1, eh⟩, ⟨w, hw, ew⟩, ⟨c, hc, ec⟩, ht, hs⟩ := id hD
  obtain ⟨⟨pc, hpc, p1, p2⟩, p3⟩ := id hp
  rcases rng (v := v) (a := 33) (b := 126) with hr | ⟨hr, g1, g2⟩
  · exact ⟨-2, s, s, by simp [f8_say, e_isWithin, bd2_some, kd_0, hr], by simp [f9_say, e9_in_33_126, bd2_some, kd_43, hr], h⟩
  · by_cases hf : pc = 60
    · subst hf
      exact ⟨-4, s, s, by simp [f8_say, f5_add, e_isWithin, bd2_some, kd_0, kd_25, hr, p1, show ¬ nI 60 < 60 by decide], by simp [f9_say, e9_in_33_126, bd2_some, kd_43, hr, p2, show nI 60 = 60 by decide], h⟩
    · have q0 : nI pc < 60 := nI_lt (a := pc) (b := 60) (by omega) (by omega)
      have q1a : (0 : Int) ≤ (nI pc).toInt := (inb_nI (n := pc) (m := 60) (by omega) (by omega)).1; have q1b : (nI pc).toInt < 60 := (inb_nI (n := pc) (m := 60) (by omega) (by omega)).2
      have q2 : (nI pc).toNatClampNeg = pc := nI_clamp (by omega)
      have q3 : ¬ nI pc = 60 := fun e => hf ((nI_eq (a := pc) (b := 60) (by omega) (by omega)).mp e)
      refine ⟨nI (pc + 1), stI (stI s 26 pc v) 25 1 (nI (pc + 1)), stI (stI (stI (stI s 26 pc v) 25 1 (nI (pc + 1))) 50 pc v) 43 12 (nI (pc + 1)), ?_, ?_, ⟨D, hD, ?_, ?_⟩, ⟨⟨pc + 1, by omega, by simp [stI_get], by simp [stI_get]⟩, fun i hi => by simp [stI_get, p3 i hi]⟩, h0.keep (by omega) (fun q a b => by rw [stI_ne (by omega), stI_ne (by omega), stI_ne (by omega), stI_ne (by omega)]) (by rw [stI_ne (by omega), stI_ne (by omega), stI_ne (by omega), stI_ne (by omega)]) (by rw [stI_ne (by omega), stI_ne (by omega), stI_ne (by omega), stI_ne (by omega)]), h1.keep (by omega) (fun q a b => by rw [stI_ne (by omega), stI_ne (by omega), stI_ne (by omega), stI_ne (by omega)]) (by rw [stI_ne (by omega), stI_ne (by omega), stI_ne (by omega), stI_ne (by omega)]) (by rw [stI_ne (by omega), stI_ne (by omega), stI_ne (by omega), stI_ne (by omega)])⟩
      · simp [f8_say, f5_add, e_isWithin, bd2_some, kd_0, kd_25, hr, p1, q0, e_put (k := 26) (i := pc) kd_26 (by rw [ln_26]; omega), bd1_some, nm_eq, stI_get, nI_1]
      · simp [f9_say, e9_in_33_126, bd2_some, kd_43, hr, p2, q3, nm_eq, ln_50, inb, q1a, q1b, q2, stI_get, nI_1]
      · simp +contextual [RelC, stI_get, a0, a1, a2, a3, a4, b0, b1, b2, b3, b4, b5]
      · simp +contextual [RelM, stI_get, m0, m1, m2, m3, m4, n0, n1, n2, n3, n4, n5]
theorem op_seen {s : Sto} (h : RR s) (x : Int32) (y : Int32) : ∃ r s1 s2, f8_seen 0 x y s = some (r, s1) ∧ f9_seen 43 x y s1 = some (r, s2) ∧ RR s2 := by
  obtain ⟨⟨D, hD, hC, hM⟩, hp, h0, h1⟩ := id h
  obtain ⟨⟨a0, a1, a2, a3, a4⟩, b0, b1, b2, b3, b4, b5⟩ := hC.lit
  obtain ⟨⟨m0, m1, m2, m3, m4⟩, n0, n1, n2, n3, n4, n5⟩ := id hM
  obtain ⟨⟨n, hn1, hn2, en⟩, ⟨hh, hh1, eh⟩, ⟨w, hw, ew⟩, ⟨c, hc, ec⟩, ht, hs⟩ := id hD
  rcases rng (v := x) (a := 0) (b := 60) with hr | ⟨hr, g1, g2⟩
  · exact ⟨-2, s, s, by simp [f8_seen, e_isWithin, bd2_some, kd_0, hr], by simp [f9_seen, e9_in_0_60, bd2_some, kd_43, hr], h⟩
  · rcases rng (v := y) (a := 0) (b := 30) with hq | ⟨hq, g3, g4⟩
    · exact ⟨-2, s, s, by simp [f8_seen, e_isWithin, bd2_some, kd_0, hr, hq], by simp [f9_seen, e9_in_0_60, e9_in_0_30, bd2_some, kd_43, hr, hq], h⟩
    · by_cases hf : c = 8
      · subst hf
        exact ⟨-4, s, s, by simp [f8_seen, f0_addSight, e_isWithin, bd2_some, kd_0, kd_1, hr, hq, a4, ec, show ¬ nI 8 < 8 by decide], by simp [f9_seen, e9_in_0_60, e9_in_0_30, bd2_some, kd_43, hr, hq, m4, ec, show nI 8 = 8 by decide], h⟩
      · obtain ⟨p, hpx, rfl⟩ := nI_of2 (n := 60) (by decide) g1 g2
        obtain ⟨q, hqy, rfl⟩ := nI_of2 (n := 30) (by decide) g3 g4
        have q0 : nI c < 8 := nI_lt (a := c) (b := 8) (by omega) (by omega)
        have q1a : (0 : Int) ≤ (nI c).toInt := (inb_nI (n := c) (m := 8) (by omega) (by omega)).1; have q1b : (nI c).toInt < 8 := (inb_nI (n := c) (m := 8) (by omega) (by omega)).2
        have q2 : (nI c).toNatClampNeg = c := nI_clamp (by omega)
        have q3 : ¬ nI c = 8 := fun e => hf ((nI_eq (a := c) (b := 8) (by omega) (by omega)).mp e)
        refine ⟨nI (c + 1), stI (stI (stI s 7 c (nI p)) 8 c (nI q)) 1 4 (nI (c + 1)), stI (stI (stI (stI (stI (stI s 7 c (nI p)) 8 c (nI q)) 1 4 (nI (c + 1))) 48 c (nI p)) 49 c (nI q)) 43 10 (nI (c + 1)), ?_, ?_, ⟨(fun j => if j = 4 then nI (c + 1) else D.1 j, fun a i => if a = 4 ∧ i = c then nI p else if a = 5 ∧ i = c then nI q else D.2 a i), ?_, ?_, ?_⟩, hp.keep (by simp [stI_get]) (by rw [stI_ne (by omega), stI_ne (by omega), stI_ne (by omega), stI_ne (by omega), stI_ne (by omega), stI_ne (by omega)]) (by simp [stI_get]) (fun i hi => by rw [stI_ne (by omega), stI_ne (by omega), stI_ne (by omega), stI_ne (by omega), stI_ne (by omega), stI_ne (by omega)]), h0.keep (by omega) (fun q a b => by rw [stI_ne (by omega), stI_ne (by omega), stI_ne (by omega), stI_ne (by omega), stI_ne (by omega), stI_ne (by omega)]) (by rw [stI_ne (by omega), stI_ne (by omega), stI_ne (by omega), stI_ne (by omega), stI_ne (by omega), stI_ne (by omega)]) (by rw [stI_ne (by omega), stI_ne (by omega), stI_ne (by omega), stI_ne (by omega), stI_ne (by omega), stI_ne (by omega)]), h1.keep (by omega) (fun q a b => by rw [stI_ne (by omega), stI_ne (by omega), stI_ne (by omega), stI_ne (by omega), stI_ne (by omega), stI_ne (by omega)]) (by rw [stI_ne (by omega), stI_ne (by omega), stI_ne (by omega), stI_ne (by omega), stI_ne (by omega), stI_ne (by omega)]) (by rw [stI_ne (by omega), stI_ne (by omega), stI_ne (by omega), stI_ne (by omega), stI_ne (by omega), stI_ne (by omega)])⟩
        · simp [f8_seen, f0_addSight, e_isWithin, bd2_some, kd_0, kd_1, hr, hq, a4, ec, q0, e_put (k := 7) (i := c) kd_7 (by rw [ln_7]; omega), e_put (k := 8) (i := c) kd_8 (by rw [ln_8]; omega), bd1_some, nm_eq, stI_get, nI_1]
        · simp [f9_seen, e9_in_0_60, e9_in_0_30, bd2_some, kd_43, hr, hq, m4, ec, q3, nm_eq, ln_48, ln_49, inb, q1a, q1b, q2, stI_get, nI_1]
        · refine ⟨⟨n, hn1, hn2, by simpa using en⟩, ⟨hh, hh1, by simpa using eh⟩, ⟨w, hw, by simpa using ew⟩, ⟨c + 1, by omega, by simp⟩, by simpa using ht, fun i hi => ?_⟩
          by_cases e : i = c
          · exact ⟨⟨p, hpx, by simp [e]⟩, ⟨q, hqy, by simp [e]⟩⟩
          · simpa [e] using hs i hi
        · simp +contextual [RelC, stI_get, a0, a1, a2, a3, a4, b0, b1, b2, b3, b4, b5]
        · simp +contextual [RelM, stI_get, m0, m1, m2, m3, m4, n0, n1, n2, n3, n4, n5]
theorem op_told {s : Sto} (h : RR s) (x : Int32) : ∃ r s1 s2, f8_told 0 x s = some (r, s1) ∧ f9_told 43 x s1 = some (r, s2) ∧ RR s2 := by
  obtain ⟨⟨D, hD, hC, hM⟩, hp, h0, h1⟩ := id h
  obtain ⟨⟨a0, a1, a2, a3, a4⟩, b0, b1, b2, b3, b4, b5⟩ := hC.lit
  obtain ⟨⟨m0, m1, m2, m3, m4⟩, n0, n1, n2, n3, n4, n5⟩ := id hM
  obtain ⟨⟨n, hn1, hn2, en⟩, ⟨hh, hh1, eh⟩, ⟨w, hw, ew⟩, ⟨c, hc, ec⟩, ht, hs⟩ := id hD
  obtain ⟨⟨pc, hpc, p1, p2⟩, p3⟩ := id hp
  by_cases c0 : x = 0
  · have hin : f9_in x.toInt64 10 15 s = some (0, s) := by rw [e9_in_10_15, c0]; rfl
    exact ⟨nI pc, s, s, by simp [f8_told, kd_0, c0, p1], by unfold f9_told; rw [if_pos kd_43, hin]; simp [bd2_some, c0, p2], h⟩
  by_cases c1 : x = 1
  · have hin : f9_in x.toInt64 10 15 s = some (0, s) := by rw [e9_in_10_15, c1]; rfl
    exact ⟨D.1 0, s, s, by simp [f8_told, kd_0, c1, a0], by unfold f9_told; rw [if_pos kd_43, hin]; simp [bd2_some, c1, m0], h⟩
  by_cases c2 : x = 2
  · have hin : f9_in x.toInt64 10 15 s = some (0, s) := by rw [e9_in_10_15, c2]; rfl
    exact ⟨D.1 1, s, s, by simp [f8_told, kd_0, c2, a1], by unfold f9_told; rw [if_pos kd_43, hin]; simp [bd2_some, c2, m1], h⟩
  by_cases c3 : x = 3
  · have hin : f9_in x.toInt64 10 15 s = some (0, s) := by rw [e9_in_10_15, c3]; rfl
    exact ⟨D.1 2, s, s, by simp [f8_told, kd_0, c3, a2], by unfold f9_told; rw [if_pos kd_43, hin]; simp [bd2_some, c3, m2], h⟩
  by_cases c4 : x = 4
  · have hin : f9_in x.toInt64 10 15 s = some (0, s) := by rw [e9_in_10_15, c4]; rfl
    exact ⟨D.1 3, s, s, by simp [f8_told, kd_0, c4, a3], by unfold f9_told; rw [if_pos kd_43, hin]; simp [bd2_some, c4, m3], h⟩
  by_cases c5 : x = 5
  · have hin : f9_in x.toInt64 10 15 s = some (0, s) := by rw [e9_in_10_15, c5]; rfl
    exact ⟨D.1 4, s, s, by simp [f8_told, kd_0, c5, a4], by unfold f9_told; rw [if_pos kd_43, hin]; simp [bd2_some, c5, m4], h⟩
  rcases rng (v := x) (a := 10) (b := 15) with hr | ⟨hr, g1, g2⟩
  · exact ⟨-2, s, s, by simp [f8_told, kd_0, c0, c1, c2, c3, c4, c5, e_isWithin, bd2_some, hr], by simp [f9_told, e9_in_10_15, bd2_some, kd_43, hr, c0, c1, c2, c3, c4, c5], h⟩
  · obtain ⟨k, hk, e⟩ : ∃ k, k < 6 ∧ x - 10 = nI k := by
      have z : ¬ x < 0 := fun z => g1 (Int32.lt_trans z (by decide))
      obtain ⟨j, hj, rfl⟩ := nI_of2 (n := 15) (by decide) z g2
      have hj2 : 10 ≤ j := by
        rcases Nat.lt_or_ge j 10 with q | q
        · exact absurd (nI_lt (a := j) (b := 10) q (by omega)) g1
        · exact q
      exact ⟨j - 10, by omega, pk_sub hj2⟩
    have q1a : (0 : Int) ≤ (nI k).toInt := (inb_nI (n := k) (m := 6) hk (by omega)).1; have q1b : (nI k).toInt < 6 := (inb_nI (n := k) (m := 6) hk (by omega)).2
    have q2 : (nI k).toNatClampNeg = k := nI_clamp (by omega)
    exact ⟨D.2 0 k, s, s, by simp [f8_told, kd_0, c0, c1, c2, c3, c4, c5, e_isWithin, bd2_some, hr, e, e_temper (o := 1) (g := k) kd_1 kd_2 ln_2 hk, b0 k hk], by simp [f9_told, e9_in_10_15, bd2_some, kd_43, hr, e, ln_44, inb, q1a, q1b, q2, n0 k hk], h⟩
theorem op_state {s : Sto} (h : RR s) (x : Int32) (y : Int32) : ∃ r s1 s2, f8_state 0 x y s = some (r, s1) ∧ f9_state 43 x y s1 = some (r, s2) ∧ RR s2 := by
  obtain ⟨⟨D, hD, hC, hM⟩, hp, h0, h1⟩ := id h
  obtain ⟨⟨a0, a1, a2, a3, a4⟩, b0, b1, b2, b3, b4, b5⟩ := hC.lit
  obtain ⟨⟨m0, m1, m2, m3, m4⟩, n0, n1, n2, n3, n4, n5⟩ := id hM
  obtain ⟨⟨n, hn1, hn2, en⟩, ⟨hh, hh1, eh⟩, ⟨w, hw, ew⟩, ⟨c, hc, ec⟩, ht, hs⟩ := id hD
  rcases i3 x hh (by omega) with hx | hx | ⟨k, hk, rfl⟩
  · exact ⟨-1, s, s, by simp [f8_state, f2_has, bd2_some, kd_0, kd_3, hx], by simp [f9_state, f9_isRow, e9_in_0x, bd2_some, kd_43, hx], h⟩
  · by_cases hz : x < 0
    · exact ⟨-1, s, s, by simp [f8_state, f2_has, bd2_some, kd_0, kd_3, hz], by simp [f9_state, f9_isRow, e9_in_0x, bd2_some, kd_43, hz], h⟩
    · exact ⟨-1, s, s, by simp [f8_state, f2_has, bd2_some, kd_0, kd_3, hz, a2, eh, hx], by simp [f9_state, f9_isRow, e9_in_0x, bd2_some, kd_43, hz, m2, eh, (nI_m1 (by omega) hz).mpr hx], h⟩
  · have z1 : ¬ nI k < 0 := nI_pos (by omega)
    have z2 : ¬ nI hh ≤ nI k := nI_ge hk (by omega)
    have z3 : ¬ nI hh - 1 < nI k := fun q => z2 ((nI_m1 (by omega) z1).mp q)
    have q1a : (0 : Int) ≤ (nI k).toInt := (inb_nI (n := k) (m := 30) (by omega) (by omega)).1; have q1b : (nI k).toInt < 30 := (inb_nI (n := k) (m := 30) (by omega) (by omega)).2
    have q2 : (nI k).toNatClampNeg = k := nI_clamp (by omega)
    have t1 := e_atN (k := 4) (i := k) (s := s) kd_4 (by rw [ln_4]; omega)
    have t2 := e_atN (k := 5) (i := k) (s := s) kd_5 (by rw [ln_5]; omega)
    have t3 := e_atN (k := 6) (i := k) (s := s) kd_6 (by rw [ln_6]; omega)
    rcases rng (v := y) (a := 0) (b := 2) with hr | ⟨hr, g1, g2⟩
    · have y0 : ¬ y = 0 := fun e => by subst e; revert hr; decide
      have y1 : ¬ y = 1 := fun e => by subst e; revert hr; decide
      have y2 : ¬ y = 2 := fun e => by subst e; revert hr; decide
      exact ⟨-2, s, s, by simp [f8_state, f2_has, bd2_some, kd_0, kd_3, a2, eh, z1, z2, e_isWithin, hr], by simp [f9_state, f9_isRow, e9_in_0x, bd2_some, kd_43, m2, eh, z1, z3, y0, y1, y2], h⟩
    · obtain ⟨j, hj, rfl⟩ := nI_of2 (n := 2) (by decide) g1 g2
      rcases (show j = 0 ∨ j = 1 ∨ j = 2 by omega) with rfl | rfl | rfl
      · exact ⟨D.2 1 k, s, s, by simp [f8_state, f2_has, f2_tellRow, f2_colourAt, bd2_some, kd_0, kd_3, a2, eh, z1, z2, e_isWithin, hr, show nI 0 = 0 from rfl, t1, b1 k (by omega)], by simp [f9_state, f9_isRow, e9_in_0x, bd2_some, kd_43, m2, eh, z1, z3, show nI 0 = 0 from rfl, ln_45, inb, q1a, q1b, q2, n1 k (by omega)], h⟩
      · exact ⟨D.2 2 k, s, s, by simp [f8_state, f2_has, f2_tellRow, f2_kindAt, bd2_some, kd_0, kd_3, a2, eh, z1, z2, e_isWithin, hr, show nI 1 = 1 from rfl, t2, b2 k (by omega)], by simp [f9_state, f9_isRow, e9_in_0x, bd2_some, kd_43, m2, eh, z1, z3, show nI 1 = 1 from rfl, ln_46, inb, q1a, q1b, q2, n2 k (by omega)], h⟩
      · exact ⟨D.2 3 k, s, s, by simp [f8_state, f2_has, f2_tellRow, bd2_some, kd_0, kd_3, a2, eh, z1, z2, e_isWithin, hr, show nI 2 = 2 from rfl, t3, b3 k (by omega)], by simp [f9_state, f9_isRow, e9_in_0x, bd2_some, kd_43, m2, eh, z1, z3, show nI 2 = 2 from rfl, ln_47, inb, q1a, q1b, q2, n3 k (by omega)], h⟩
theorem op_left {s : Sto} (h : RR s) (a : Int32) (b : Int32) (c : Int32) (d : Int32) : ∃ r s1 s2, f8_left 0 a b c d s = some (r, s1) ∧ f9_left 43 a b c d s1 = some (r, s2) ∧ RR s2 := by
  rcases rng (v := a) (a := 0) (b := 12) with hr | ⟨hr, g1, g2⟩
  · exact ⟨-2, s, s, by simp [f8_left, f8_areOrders, e_isWithin, bd2_some, kd_0, hr], by simp [f9_left, f9_areRemarks, e9_in_0_12, bd2_some, kd_43, hr], h⟩
  rcases rng (v := b) (a := 0) (b := 12) with hq | ⟨hq, g3, g4⟩
  · exact ⟨-2, s, s, by simp [f8_left, f8_areOrders, e_isWithin, bd2_some, kd_0, hr, hq], by simp [f9_left, f9_areRemarks, e9_in_0_12, bd2_some, kd_43, hr, hq], h⟩
  rcases rng (v := c) (a := 0) (b := 30) with hs | ⟨hs, g5, g6⟩
  · exact ⟨-2, s, s, by simp [f8_left, f8_areOrders, e_isWithin, bd2_some, kd_0, hr, hq, hs], by simp [f9_left, f9_areRemarks, e9_in_0_12, e9_in_0_30, bd2_some, kd_43, hr, hq, hs], h⟩
  rcases rng (v := d) (a := 0) (b := 1) with ht | ⟨ht, g7, g8⟩
  · exact ⟨-2, s, s, by simp [f8_left, f8_areOrders, e_isWithin, bd2_some, kd_0, hr, hq, hs, ht], by simp [f9_left, f9_areRemarks, e9_in_0_12, e9_in_0_30, e9_in_0_1, bd2_some, kd_43, hr, hq, hs, ht], h⟩
  obtain ⟨x, hx, rfl⟩ := nI_of2 (n := 12) (by decide) g1 g2
  obtain ⟨y, hy, rfl⟩ := nI_of2 (n := 12) (by decide) g3 g4
  obtain ⟨z, hz, rfl⟩ := nI_of2 (n := 30) (by decide) g5 g6
  have k1 : nI z + nI y = nI (z + y) := nI_add z y
  have k2 : ∀ q, q ≤ 100 → ((0 : Int32) < nI q - nI x ↔ nI x < nI q) := by
    intro q hq
    rcases Nat.lt_or_ge x q with g | g
    · rw [pk_sub (by omega : x ≤ q)]
      exact ⟨fun _ => nI_lt g (by omega), fun _ => nI_lt (a := 0) (by omega) (by omega)⟩
    · rcases Nat.eq_or_lt_of_le g with e | e
      · subst e
        rw [pk_sub (Nat.le_refl _), Nat.sub_self]
        exact ⟨fun q => absurd q (by rw [nI_0]; decide), fun q => absurd q (nI_nlt (Nat.le_refl _) (by omega))⟩
      · have n1 := pk_sneg (a := q) (b := x) (by omega) e
        exact ⟨fun w => absurd (Int32.lt_trans w n1) (by decide), fun w => absurd w (nI_nlt g (by omega))⟩
  by_cases c0 : d = 0
  · refine ⟨if nI x < nI (z + y) then nI (z + y) - nI x else 0, s, s, ?_, ?_, h⟩
    · simp [f8_left, f8_areOrders, e_isWithin, bd2_some, kd_0, hr, hq, hs, ht, c0, nm_eq, k1, k2 (z + y) (by omega)]
    · simp only [f9_left, f9_areRemarks, e9_in_0_12, e9_in_0_30, e9_in_0_1, bd2_some, kd_43, hr, hq, hs, ht, c0, k1]
      by_cases e : nI x < nI (z + y)
      · have e' : ¬ nI (z + y) ≤ nI x := Int32.not_le.mpr e
        simp [e, e', bd2_some]
      · have e' : nI (z + y) ≤ nI x := Int32.not_lt.mp e
        simp [e, e', bd2_some]
  · refine ⟨(if nI x < nI z then nI z - nI x else 0) + nI y, s, s, ?_, ?_, h⟩
    · simp [f8_left, f8_areOrders, e_isWithin, bd2_some, kd_0, hr, hq, hs, ht, c0, nm_eq, k2 z (by omega)]
    · simp only [f9_left, f9_areRemarks, e9_in_0_12, e9_in_0_30, e9_in_0_1, bd2_some, kd_43, hr, hq, hs, ht, c0]
      by_cases e : nI x < nI z
      · have e' : ¬ nI z ≤ nI x := Int32.not_le.mpr e
        simp [e, e', bd2_some, bd1_some]
      · have e' : nI z ≤ nI x := Int32.not_lt.mp e
        simp [e, e', bd2_some, bd1_some]
