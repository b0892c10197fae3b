theorem e_wor {s : Sto} (h : RR s) : ∃ t r, f8_surveyWorlds 0 s = some (r, t) ∧ RR t ∧ ((r = 0 ∧ ∃ (q : Int32) (u : Sto), 0 ≤ q ∧ f9_faultOfEvening 43 t = some (q, u) ∧ RR u) ∨ (r = 1 ∧ ∃ (T : TT) (u v : Sto) (n : Nat), TalC t T ∧ f9_faultOfEvening 43 t = some (-6, u) ∧ f9_findWorlds 43 u = some v ∧ TalM v n T ∧ RR v ∧ v.1 43 0 = nI n ∧ t.1 1 0 = nI n ∧ 1 ≤ n ∧ n ≤ 8)) := by
  obtain ⟨⟨D, hD, hC, hM⟩, hp, h0, h1⟩ := id h
  obtain ⟨⟨n, hn1, hn2, en⟩, ⟨hh0, hh1, eh⟩, ⟨w, hw, ew⟩, ⟨c, hc, ec⟩, ht, hs⟩ := id hD
  obtain ⟨⟨pc, hpc, p1, p2⟩, p3⟩ := id hp
  obtain ⟨k1, k2⟩ := psO_ok (p := s.1 26) (n := pc) (nf := n) hn1 hn2 hpc
  have hs' : ∀ k, k < c → ∃ p, p ≤ 60 ∧ D.2 4 k = nI p := fun k hk => (hs k (by omega)).1
  obtain ⟨t, r, t1, t2, t3⟩ := e_survey hC hn1 hn2 en eh hh1 ew hw ec hc hs' hpc p1
  have rt := h.same t2.same
  obtain ⟨u, u1, u2, u3, u4⟩ := e_faultE (s := t) (p := s.1 26) (n := pc) (nf := n) hn1 hn2 hpc (by rw [t2 43 (by omega)]; exact p2) (fun k hk => by rw [t2 50 (by omega)]; exact (p3 k hk).symm) (by rw [t2 43 (by omega)]; exact hM.1.1.trans en)
  refine ⟨t, r, t1, rt, ?_⟩
  rcases t3 with ⟨a, b⟩ | ⟨a, b, hT⟩
  · refine Or.inl ⟨b, _, u, ?_, u1, rt.same u4.same⟩
    rcases psO_val (p := s.1 26) (nf := n) hpc with e | ⟨k, hk, e⟩
    · exact absurd e a
    · rw [e]; exact nI_pos' (by omega)
  · rw [a] at u1
    have hMu : RelM u D := by
      unfold RelM at hM ⊢
      rw [u4.2 0 (by omega), u4.2 1 (by omega), u4.2 3 (by omega), u4.2 4 (by omega), u4.2 10 (by omega), u4.1 44 (by omega) (by omega), u4.1 45 (by omega) (by omega), u4.1 46 (by omega) (by omega), u4.1 47 (by omega) (by omega), u4.1 48 (by omega) (by omega), u4.1 49 (by omega) (by omega)]
      rw [t2 43 (by omega), t2 44 (by omega), t2 45 (by omega), t2 46 (by omega), t2 47 (by omega), t2 48 (by omega), t2 49 (by omega)]
      exact hM
    obtain ⟨v, v1, v2, v3, v4⟩ := e_findWorlds hn2 hh1 hw hc k1 (fun j hj => (k2 j hj).l hn2) hs' hMu en eh ew ec u2 u3
    refine Or.inr ⟨b, _, u, v, n, hT, u1, v1, v2, (rt.same u4.same).same v4, ?_, ?_, hn1, hn2⟩
    · rw [v3.2 0 (by omega), hMu.1.1, en]
    · rw [t2 1 (by omega)]; exact hC.lit.1.1.trans en
theorem op_worlds {s : Sto} (h : RR s) (a : Int32) : ∃ r s1 s2, f8_worlds 0 a s = some (r, s1) ∧ f9_worlds 43 a s1 = some (r, s2) ∧ RR s2 := by
  rcases rng (v := a) (a := 0) (b := 3) with hr | ⟨hr, g1, g2⟩
  · exact ⟨-2, s, s, by simp [f8_worlds, e_isWithin, bd2_some, kd_0, hr], by simp [f9_worlds, e9_in_0_3, bd2_some, kd_43, hr], h⟩
  · obtain ⟨t, r, t1, rt, cs⟩ := e_wor h
    obtain ⟨k, hk, rfl⟩ := nI_of2 (n := 3) (by decide) g1 g2
    rcases cs with ⟨rfl, q, u, hq, u1, ru⟩ | ⟨rfl, T, u, v, n, hT, u1, v1, hM, rv, -⟩
    · refine ⟨-5, t, u, by simp [f8_worlds, e_isWithin, bd2_some, kd_0, hr, t1], ?_, ru⟩
      have : ¬ q < 0 := Int32.not_lt.mpr hq
      simp [f9_worlds, e9_in_0_3, bd2_some, kd_43, hr, u1, this]
    · have c0 := hT.1 0 (by omega)
      have c1 := hT.1 1 (by omega)
      have c2 := hT.1 2 (by omega)
      have c3 := hT.1 3 (by omega)
      have m0 : v.1 43 35 = T.1 0 := hM.1 0 (by omega)
      have m1 : v.1 43 36 = T.1 1 := hM.1 1 (by omega)
      have m2 : v.1 43 37 = T.1 2 := hM.1 2 (by omega)
      have m3 : v.1 43 38 = T.1 3 := hM.1 3 (by omega)
      rcases (show k = 0 ∨ k = 1 ∨ k = 2 ∨ k = 3 by omega) with rfl | rfl | rfl | rfl
      · exact ⟨T.1 0, t, v, by simp [f8_worlds, e_isWithin, bd2_some, kd_0, hr, t1, show nI 0 = 0 from rfl, c0], by simp [f9_worlds, e9_in_0_3, l9_0_3, bd2_some, bd1_some, kd_43, hr, u1, v1, show nI 0 = 0 from rfl, m0], rv⟩
      · exact ⟨T.1 1, t, v, by simp [f8_worlds, e_isWithin, bd2_some, kd_0, hr, t1, show nI 1 = 1 from rfl, c1], by simp [f9_worlds, e9_in_0_3, l9_1_3, bd2_some, bd1_some, kd_43, hr, u1, v1, show nI 1 = 1 from rfl, m1], rv⟩
      · exact ⟨T.1 2, t, v, by simp [f8_worlds, e_isWithin, bd2_some, kd_0, hr, t1, show nI 2 = 2 from rfl, c2], by simp [f9_worlds, e9_in_0_3, l9_2_3, bd2_some, bd1_some, kd_43, hr, u1, v1, show nI 2 = 2 from rfl, m2], rv⟩
      · exact ⟨T.1 3, t, v, by simp [f8_worlds, e_isWithin, bd2_some, kd_0, hr, t1, show nI 3 = 3 from rfl, c3], by simp [f9_worlds, e9_in_0_3, l9_3_3, bd2_some, bd1_some, kd_43, hr, u1, v1, show nI 3 = 3 from rfl, m3], rv⟩
def lam (T : TT) (j : Nat) : Int32 := if T.2 j < T.1 0 - T.2 j then T.1 0 - T.2 j else T.2 j
theorem e_leftAtMost {t : Sto} {T : TT} {j : Nat} (h : TalC t T) (hj : j < 8) : f7_leftAtMost 37 (nI j) t = some (lam T j, t) := by
  have h0 := h.1 0 (by omega)
  unfold f7_leftAtMost
  rw [if_pos kd_37, e_atN (k := 37 + 1) (i := j) kd_38 (by rw [show ln (37 + 1) = 8 from rfl]; exact hj), bd2_some, show t.1 (37 + 1) j = T.2 j from h.2 j hj, h0, nm_eq]
  rfl
theorem e_mostLeft {u : Sto} {T : TT} {n j : Nat} (h : TalM u n T) (hn : n ≤ 8) (hj : j < n) : f9_mostLeft 43 (nI j) u = some (lam T j, u) := by
  have h0 : u.1 43 35 = T.1 0 := h.1 0 (by omega)
  have q1 : inb (nI j) (ln (43 + 18)) := inb_nI (n := j) (m := 8) (by omega) (by omega)
  have q3 : (nI j).toNatClampNeg = j := nI_clamp (by omega)
  unfold f9_mostLeft lam
  rw [if_pos kd_43, if_pos q1, if_pos q1, if_pos q1, if_pos q1, q3, show u.1 (43 + 18) j = T.2 j from h.2 j hj, h0]
  generalize T.2 j = x
  generalize T.1 0 - x = y
  by_cases a : x ≤ y
  · rw [if_pos a]
    by_cases b : x < y
    · rw [if_pos b]
    · have : x = y := Int32.toInt_inj.mp (by
        have p := Int32.le_iff_toInt_le.mp a
        have q : ¬ x.toInt < y.toInt := fun z => b (Int32.lt_iff_toInt_lt.mpr z)
        omega)
      rw [if_neg b, this]
  · rw [if_neg a, if_neg (fun b => a (Int32.le_iff_toInt_le.mpr (by have := Int32.lt_iff_toInt_lt.mp b; omega)))]
def bst (T : TT) : Nat → Nat → Nat → Nat
  | 0, b, _ => b
  | d + 1, b, j => if lam T b ≤ lam T j then bst T d b (j + 1) else bst T d j (j + 1)
theorem best_loop {t : Sto} {T : TT} {n : Nat} (h : TalC t T) (hn : n ≤ 8) : ∀ (d j b fuel : Nat), j + d = n → b < n → d < fuel → L7_bestFact_4 37 (nI n) fuel (nI b) (nI j) t = some (nI (bst T d b j), t) ∧ bst T d b j < n := by
  intro d
  induction d with
  | zero =>
    intro j b fuel e hb F
    obtain ⟨q, rfl⟩ : ∃ q, fuel = q + 1 := ⟨fuel - 1, by omega⟩
    have : j = n := by omega
    subst this
    unfold L7_bestFact_4
    rw [if_pos (Int32.le_refl _)]
    exact ⟨rfl, hb⟩
  | succ d ih =>
    intro j b fuel e hb F
    obtain ⟨q, rfl⟩ : ∃ q, fuel = q + 1 := ⟨fuel - 1, by omega⟩
    unfold L7_bestFact_4
    rw [if_neg (nI_ge (by omega) (by omega)), e_leftAtMost h (by omega), bd2_some, e_leftAtMost h (by omega), bd2_some, nI_1]
    unfold bst
    by_cases c : lam T b ≤ lam T j
    · rw [if_pos c, if_pos c]; exact ih (j + 1) b q (by omega) hb (by omega)
    · rw [if_neg c, if_neg c]; exact ih (j + 1) j q (by omega) (by omega) (by omega)
theorem tellM_loop {u : Sto} {T : TT} {n : Nat} {a1 : Int32} (h : TalM u n T) (h0 : u.1 43 0 = nI n) (hn : n ≤ 8) : ∀ (d j b fuel : Nat), j + d = n → b < n → d < fuel → L9_tell_41 43 a1 fuel (nI b) (nI j) u = some (nI (bst T d b j), u) := by
  intro d
  induction d with
  | zero =>
    intro j b fuel e hb F
    obtain ⟨q, rfl⟩ : ∃ q, fuel = q + 1 := ⟨fuel - 1, by omega⟩
    have : j = n := by omega
    subst this
    unfold L9_tell_41
    rw [h0, if_pos (Int32.le_refl _)]; rfl
  | succ d ih =>
    intro j b fuel e hb F
    obtain ⟨q, rfl⟩ : ∃ q, fuel = q + 1 := ⟨fuel - 1, by omega⟩
    unfold L9_tell_41
    rw [h0, if_neg (nI_ge (by omega) (by omega)), e_mostLeft h hn (by omega), bd2_some, e_mostLeft h hn (by omega), bd2_some, nI_1]
    unfold bst
    by_cases c : lam T b ≤ lam T j
    · rw [if_pos c, if_pos c]; exact ih (j + 1) b q (by omega) hb (by omega)
    · rw [if_neg c, if_neg c]; exact ih (j + 1) j q (by omega) (by omega) (by omega)
theorem op_tell {s : Sto} (h : RR s) (a : Int32) : ∃ r s1 s2, f8_tell 0 a s = some (r, s1) ∧ f9_tell 43 a s1 = some (r, s2) ∧ RR s2 := by
  rcases rng (v := a) (a := 0) (b := 1) with hr | ⟨hr, g1, g2⟩
  · exact ⟨-2, s, s, by simp [f8_tell, e_isWithin, bd2_some, kd_0, hr], by simp [f9_tell, e9_in_0_1, bd2_some, kd_43, hr], h⟩
  · obtain ⟨t, r, t1, rt, cs⟩ := e_wor h
    rcases cs with ⟨rfl, q, u, hq, u1, ru⟩ | ⟨rfl, T, u, v, n, hT, u1, v1, hM, rv, hv0, ht0, hn1, hn2⟩
    · refine ⟨-5, t, u, by simp [f8_tell, e_isWithin, bd2_some, kd_0, hr, t1], ?_, ru⟩
      have : ¬ q < 0 := Int32.not_lt.mpr hq
      simp [f9_tell, e9_in_0_1, bd2_some, kd_43, hr, u1, this]
    · have c0 := hT.1 0 (by omega)
      have m0 : v.1 43 35 = T.1 0 := hM.1 0 (by omega)
      have neg : (-6 : Int32) < 0 := by decide
      by_cases z : T.1 0 = 0
      · exact ⟨-6, t, v, by simp [f8_tell, e_isWithin, bd2_some, kd_0, hr, t1, c0, z], by simp [f9_tell, e9_in_0_1, bd2_some, bd1_some, kd_43, hr, u1, v1, m0, z, neg], rv⟩
      · obtain ⟨b1, b2⟩ := best_loop hT hn2 (n - 1) 1 0 FU (by omega) (by omega) (by unfold FU; omega)
        have b3 := tellM_loop (a1 := a) hM hv0 hn2 (n - 1) 1 0 FU (by omega) (by omega) (by unfold FU; omega)
        rw [show nI 0 = 0 from rfl, show nI 1 = 1 from rfl] at b1 b3
        have eb : f7_bestFact 37 (nI n) t = some (nI (bst T (n - 1) 0 1), t) := by
          unfold f7_bestFact
          rw [if_pos kd_37, b1, bd2_some]
        have l1 := e_leftAtMost hT (show bst T (n - 1) 0 1 < 8 by omega)
        have l2 := e_mostLeft hM hn2 b2
        by_cases a0 : a = 0
        · refine ⟨nI (bst T (n - 1) 0 1), t, v, ?_, ?_, rv⟩
          · unfold f8_tell
            rw [if_pos kd_0, e_isWithin, bd2_some, hr, if_neg (by decide), t1, bd2_some, if_neg (by decide), show t.1 (0 + 37) 0 = T.1 0 from c0, if_neg z, show t.1 (0 + 1) 0 = nI n from ht0, show (0 + 37) = 37 from rfl, eb, bd2_some, if_pos a0]
          · unfold f9_tell
            rw [if_pos kd_43, e9_in_0_1, bd2_some, hr, if_neg (by decide), u1, bd2_some, if_pos neg, v1, bd1_some, m0, if_neg z, b3, bd2_some, if_pos a0]
        · refine ⟨lam T (bst T (n - 1) 0 1), t, v, ?_, ?_, rv⟩
          · unfold f8_tell
            rw [if_pos kd_0, e_isWithin, bd2_some, hr, if_neg (by decide), t1, bd2_some, if_neg (by decide), show t.1 (0 + 37) 0 = T.1 0 from c0, if_neg z, show t.1 (0 + 1) 0 = nI n from ht0, show (0 + 37) = 37 from rfl, eb, bd2_some, if_neg a0, l1, bd2_some]
          · unfold f9_tell
            rw [if_pos kd_43, e9_in_0_1, bd2_some, hr, if_neg (by decide), u1, bd2_some, if_pos neg, v1, bd1_some, m0, if_neg z, b3, bd2_some, if_neg a0, l2, bd2_some]
