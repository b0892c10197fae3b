theorem lb_case {R : Nat → Nat} {so : Int32} {N0 : NS} {r : Nat} : ∀ i, i ≤ 60 → lb R so N0 i r = -6 ∨ ∃ k, k ≤ 60 ∧ lb R so N0 i r = nI k := by
  intro i
  induction i with
  | zero => intro _; exact Or.inl rfl
  | succ i ih =>
    intro h
    simp only [lb]
    split
    · split
      · exact ih (by omega)
      · exact Or.inr ⟨i, by omega, rfl⟩
    · exact ih (by omega)
theorem lb_stay {R : Nat → Nat} {so : Int32} {N0 : NS} {r i : Nat} (h : 0 ≤ lb R so N0 i r) : ∀ d, lb R so N0 (i + d) r = lb R so N0 i r := by
  intro d
  induction d with
  | zero => rfl
  | succ d ih =>
    show lb R so N0 ((i + d) + 1) r = _
    simp only [lb]
    rw [ih]
    rw [if_pos h]
    split <;> rfl
theorem nI_n0 {k : Nat} (h : k < 1000) : (0 : Int32) ≤ nI k := nI_le (a := 0) (b := k) (by omega) (by omega)
theorem take_loop {t : Sto} {R : Nat → Nat} {so : Int32} {N0 : NS} {m r : Nat} (hm : m ≤ 60) (h1 : t.1 27 1 = nI m) (h29 : ∀ j, j ≤ m → t.1 29 j = nI (hh R so N0 j)) (hb : ∀ j, j ≤ m → hh R so N0 j ≤ 30) (hr : r < N0.1 0) (h0 : N0.1 0 ≤ 30) : ∀ (d i fuel : Nat), i + d = m → d < fuel → lb R so N0 i r = -6 → L1_remarkTaking_2 27 (nI r) fuel (nI i) t = some (lb R so N0 m r, t) := by
  intro d
  induction d with
  | zero =>
    intro i fuel e f hl
    obtain ⟨q, rfl⟩ : ∃ q, fuel = q + 1 := ⟨fuel - 1, by omega⟩
    have : i = m := by omega
    subst this
    unfold L1_remarkTaking_2
    rw [h1, if_pos (Int32.le_refl _), hl]
  | succ d ih =>
    intro i fuel e f hl
    obtain ⟨q, rfl⟩ : ∃ q, fuel = q + 1 := ⟨fuel - 1, by omega⟩
    have l2 := hb (i + 1) (by omega)
    have st : lb R so N0 (i + 1) r = if hh R so N0 (i + 1) ≤ r then nI i else -6 := by
      simp only [lb]
      rw [hl]
      by_cases g : hh R so N0 (i + 1) ≤ r
      · rw [if_pos ⟨g, hr⟩, if_neg (by decide), if_pos g]
      · rw [if_neg (fun z => g z.1), if_neg g]
    unfold L1_remarkTaking_2
    rw [h1, if_neg (nI_ge (by omega) (by omega)), nI_1, at29 (by omega), bd2_some, h29 (i + 1) (by omega)]
    by_cases g : hh R so N0 (i + 1) ≤ r
    · rw [if_neg (nI_nlt g (by omega))]
      rw [if_pos g] at st
      have := lb_stay (R := R) (so := so) (N0 := N0) (r := r) (i := i + 1) (by rw [st]; exact nI_n0 (by omega)) d
      rw [show i + 1 + d = m by omega] at this
      rw [this, st]
    · rw [if_pos (nI_lt (by omega) (by omega))]
      rw [if_neg g] at st
      exact ih (i + 1) q (by omega) (by omega) st
theorem op_lost {s : Sto} (h : RR s) (x : Int32) : ∃ r s1 s2, f8_lost 0 x s = some (r, s1) ∧ f9_lost 43 x s1 = some (r, s2) ∧ RR s2 := by
  obtain ⟨t, u, r, q, D, n, hh0, w0, c, m, R, e1, e2, rt, ru, ft, fu, ok, cs⟩ := e_both h
  obtain ⟨hD, hC, hM, eh, h1, ew, h2, ec, hc, hm, hR⟩ := ok
  have eC := e_has (x := x) (s := s) (o := 3) (h := hh0) kd_3 (by rw [← eh]; exact hC.lit.1.2.2.1)
  have sM : s.1 43 3 = nI hh0 := by rw [← eh]; exact hM.1.2.2.1
  have eM := e_isRow (x := x) (s := s) (h := hh0) (by omega) sM
  have eM' := e_isRow (x := x) (s := t) (h := hh0) (by omega) (by rw [ft 43 (by omega)]; exact sM)
  rcases i3 x hh0 (by omega) with a | a | ⟨j, hj, rfl⟩
  · rw [if_pos a] at eC eM
    exact ⟨-1, s, s, by simp [f8_lost, bd2_some, kd_0, eC], by simp [f9_lost, bd2_some, kd_43, eM], h⟩
  · by_cases a0 : x < 0
    · rw [if_pos a0] at eC eM
      exact ⟨-1, s, s, by simp [f8_lost, bd2_some, kd_0, eC], by simp [f9_lost, bd2_some, kd_43, eM], h⟩
    · rw [if_neg a0, if_pos a] at eC eM
      exact ⟨-1, s, s, by simp [f8_lost, bd2_some, kd_0, eC], by simp [f9_lost, bd2_some, kd_43, eM], h⟩
  · have z1 : ¬ nI j < 0 := nI_pos (by omega)
    have z2 : ¬ nI hh0 ≤ nI j := nI_ge hj (by omega)
    rw [if_neg z1, if_neg z2] at eC eM'
    rcases cs with ⟨rfl, rfl⟩ | ⟨rfl, rfl, hb, pC, pM⟩ | ⟨rfl, rfl, hb, pC, pM⟩
    · exact ⟨-5, t, u, by simp [f8_lost, bd2_some, kd_0, eC, e1], by simp [f9_lost, bd2_some, kd_43, eM', e2], ru⟩
    · exact ⟨-3, t, u, by simp [f8_lost, bd2_some, kd_0, eC, e1], by simp [f9_lost, bd2_some, kd_43, eM', e2], ru⟩
    · have al := all_ok h1 h2 hR hb
      obtain ⟨c1, c2, c3, c4, c5, c6⟩ := pC
      obtain ⟨v1, v2, v3, v4⟩ := pM
      obtain ⟨x1, x2, x3, x4, x5, x6, x7, x8⟩ := v1 _ _ rfl rfl
      rw [hb] at c1 c2 x7
      have tk := take_loop (t := t) (R := R) (so := D.1 1) (N0 := N0D D hh0 w0) (r := j) hm c5 (fun k hk => c2 k hk) (fun k hk => (al k hk).1.1) hj h1 m 0 FU (by omega) (by unfold FU; omega) rfl
      have et : f1_remarkTaking 27 (nI j) t = some (lb R (D.1 1) (N0D D hh0 w0) m j, t) := by
        unfold f1_remarkTaking
        rw [if_pos kd_27]; exact tk
      have q1 : inb (nI j) (ln 57) := inb_nI (n := j) (m := 30) (by omega) (by omega)
      have q2 : (nI j).toNatClampNeg = j := nI_clamp (by omega)
      exact ⟨lb R (D.1 1) (N0D D hh0 w0) m j, t, u, by simp [f8_lost, bd2_some, kd_0, eC, e1, et], by simp [f9_lost, bd2_some, kd_43, eM', e2, q1, q2, x7 j (by omega)], ru⟩
theorem e_copyBack {s : Sto} {N : NS} (h : NeC s N) : ∃ t, f2_copyFrom 3 30 s = some t ∧ (t.1 3 3 = nI (N.1 0) ∧ t.1 3 4 = nI (N.1 1)) ∧ (∀ i, i < 30 → t.1 4 i = N.2 0 i) ∧ (∀ i, i < 30 → t.1 5 i = N.2 1 i) ∧ (∀ i, i < 30 → t.1 6 i = N.2 2 i) ∧ ∀ k, (k < 3 ∨ 6 < k) → t.1 k = s.1 k := by
  obtain ⟨⟨a0, a1, a2, a3, a4⟩, b0, b1, b2⟩ := h
  unfold f2_copyFrom
  simp only [nm_eq, bd1_some, kd_30, kd_3, Nat.reduceAdd, and_self, if_true, e_copyAll (a := 31) (b := 4) kd_31 kd_4 rfl, e_copyAll (a := 32) (b := 5) kd_32 kd_5 rfl, e_copyAll (a := 33) (b := 6) kd_33 kd_6 rfl, ln_4, ln_5, ln_6]
  refine ⟨_, rfl, ⟨?_, ?_⟩, fun i hi => ?_, fun i hi => ?_, fun i hi => ?_, fun k hk => ?_⟩
  · simp [stI_get, stC_get, a0]
  · simp [stI_get, stC_get, a1]
  · simp [stI_get, stC_get, hi, b0 i hi]
  · simp [stI_get, stC_get, hi, b1 i hi]
  · simp [stI_get, stC_get, hi, b2 i hi]
  · have x0 : k ≠ 3 := by omega
    have x1 : k ≠ 4 := by omega
    have x2 : k ≠ 5 := by omega
    have x3 : k ≠ 6 := by omega
    funext i
    simp [stI_get, stC_get, x0, x1, x2, x3]
theorem op_done {s : Sto} (h : RR s) : ∃ r s1 s2, f8_done 0 s = some (r, s1) ∧ f9_done 43 s1 = some (r, s2) ∧ RR s2 := by
  obtain ⟨t, u, r, q, D0, n0, hh0, w0, c0, m0, R0, e1, e2, rt, ru, ft, fu, ok, cs⟩ := e_both h
  rcases cs with ⟨rfl, rfl⟩ | ⟨rfl, rfl, hb, pC, pM⟩ | ⟨rfl, rfl, hb, pC, pM⟩
  · exact ⟨-5, t, u, by simp [f8_done, bd2_some, kd_0, e1], by simp [f9_done, bd2_some, kd_43, e2], ru⟩
  · exact ⟨-3, t, u, by simp [f8_done, bd2_some, kd_0, e1], by simp [f9_done, bd2_some, kd_43, e2], ru⟩
  · clear ok hb pC pM e2 fu ru rt
    obtain ⟨⟨D, hD, hC, hM⟩, hp, h0, h1⟩ := id h
    obtain ⟨⟨n, hn1, hn2, en⟩, ⟨hh1, hh2, eh⟩, ⟨w, hw, ew⟩, ⟨c, hc, ec⟩, ht, hs⟩ := id hD
    obtain ⟨⟨pc, hpc, p1, p2⟩, p3⟩ := id hp
    obtain ⟨k1, k2⟩ := psO_ok (p := s.1 26) (n := pc) (nf := n) hn1 hn2 hpc
    obtain ⟨t', r', t1, t2, t3⟩ := e_playPad (c := c) hC hn1 hn2 en eh hh2 ew hw hpc p1
    rw [e1] at t1
    obtain ⟨rfl, rfl⟩ : (0 : Int32) = r' ∧ t = t' := by
      have := Option.some.inj t1
      exact ⟨(Prod.mk.inj this).1, (Prod.mk.inj this).2⟩
    rcases t3 with ⟨-, b⟩ | ⟨a, b, pC⟩
    · exact absurd b (by decide)
    generalize hm : (psO (s.1 26) pc n).2.1 = m at *
    generalize hR : (psO (s.1 26) pc n).2.2 = R at *
    have hb : fbx (D.2 0) R (D.1 1) (N0D D hh1 w) m 0 = m := by
      by_cases e : fbx (D.2 0) R (D.1 1) (N0D D hh1 w) m 0 = m
      · exact e
      · rw [if_neg e] at b; exact absurd b (by decide)
    have hRl : ∀ j, j < m → CodL (R j) := fun j hj => (k2 j hj).l hn2
    have al := all_ok hh2 hw hRl hb
    obtain ⟨c1, c2, c3, c4, c5, c6⟩ := pC
    rw [hb] at c1
    obtain ⟨x, x1, x2, x3, x4, x5, x6⟩ := e_copyBack c1
    have y : ∀ k, (k < 3 ∨ (6 < k ∧ k ≠ 25)) → (stI x 25 1 0).1 k = t.1 k := fun k hk => by rw [stI_ne (by omega), x6 k (by omega)]
    have y' : ∀ k, (k < 3 ∨ (6 < k ∧ k < 25) ∨ k = 26 ∨ 42 < k) → (stI x 25 1 0).1 k = s.1 k := fun k hk => by rw [y k (by omega), t2 k (by omega)]
    have hMt : RelM (stI x 25 1 0) D := by
      unfold RelM at hM ⊢
      rw [y' 43 (by omega), y' 44 (by omega), y' 45 (by omega), y' 46 (by omega), y' 47 (by omega), y' 48 (by omega), y' 49 (by omega)]
      exact hM
    obtain ⟨v, q', v1, v2, v3, v4⟩ := e_refusal (s := stI x 25 1 0) (p := s.1 26) hMt hn1 hn2 en eh hh2 ew hw ec hc hpc (by rw [y' 43 (by omega)]; exact p2) (fun k hk => by rw [y' 50 (by omega)]; exact (p3 k hk).symm)
    rw [hm, hR] at v4
    rcases v4 with ⟨a', -⟩ | ⟨-, b', pM⟩
    · exact absurd a a'
    rw [if_pos hb] at b'
    subst b'
    obtain ⟨w1, w2, w3, w4, w5, w6, w7⟩ := pM
    have hMv : RelM v D := by
      obtain ⟨⟨m0, m1, m2, m3, m4⟩, n0, n1, n2, n3, n4, n5⟩ := hMt
      obtain ⟨-, -, ⟨f0, f1, f2, f3, f4, f5⟩, g, -, -⟩ := v2
      have ge : ∀ k i, 44 ≤ k → k ≤ 50 → i < (if k = 44 then 6 else if k ≤ 47 then 30 else if k ≤ 49 then 8 else 60) → v.1 k i = (stI x 25 1 0).1 k i := fun k i a b c => g k a b i c
      exact ⟨⟨f0.trans m0, f1.trans m1, f2.trans m2, f3.trans m3, f4.trans m4⟩, fun i hi => by rw [ge 44 i (by omega) (by omega) (by simpa using hi)]; exact n0 i hi, fun i hi => by rw [ge 45 i (by omega) (by omega) (by simpa using hi)]; exact n1 i hi, fun i hi => by rw [ge 46 i (by omega) (by omega) (by simpa using hi)]; exact n2 i hi, fun i hi => by rw [ge 47 i (by omega) (by omega) (by simpa using hi)]; exact n3 i hi, fun i hi => by rw [ge 48 i (by omega) (by omega) (by simpa using hi)]; exact n4 i hi, fun i hi => by rw [ge 49 i (by omega) (by omega) (by simpa using hi)]; exact n5 i hi⟩
    obtain ⟨⟨m0, m1, m2, m3, m4⟩, n0, n1, n2, n3, n4, n5⟩ := id hMv
    obtain ⟨z, z1, z2, z3, z4, z5⟩ := e_goEvening (so := D.1 1) (D := D) hc hh2 hw k1 hRl w7 w6 w4 w5 (m4.trans ec) n0 n4 n5
    rw [hb] at z2
    obtain ⟨⟨⟨l3, l4, -, -, -⟩, l45, l46, l47⟩, -⟩ := z2
    have okm := (al m (Nat.le_refl _)).1
    have fk : ∀ k, (k ≤ 42 ∨ k = 65 ∨ k = 66) → (stI z 43 12 0).1 k = (stI x 25 1 0).1 k := fun k hk => by
      rw [stI_ne (by omega), z5.1 k (by omega) (by omega) (by omega) (by omega) (by omega)]
      rcases hk with hk | rfl | rfl
      · exact v3 k hk
      · exact v2.2.2.2.2.1
      · exact v2.2.2.2.2.2
    have f43 : ∀ j, j ≠ 3 → j ≠ 4 → (j < 21 ∨ 25 < j) → (j < 28 ∨ 30 < j) → j ≠ 12 → (stI z 43 12 0).1 43 j = v.1 43 j := fun j a b c d e => by rw [stI_get, if_neg (by omega), z5.2 j a b c d]
    have fM : ∀ k, (k = 44 ∨ (48 ≤ k ∧ k ≤ 50)) → (stI z 43 12 0).1 k = v.1 k := fun k hk => by rw [stI_ne (by omega), z5.1 k (by omega) (by omega) (by omega) (by omega) (by omega)]
    obtain ⟨⟨a0, a1, a2, a3, a4⟩, b0, b1, b2, b3, b4, b5⟩ := hC.lit
    refine ⟨nI m, stI x 25 1 0, stI z 43 12 0, ?_, ?_, ⟨(fun j => if j = 2 then nI ((sq R (D.1 1) (N0D D hh1 w) m).1 0) else if j = 3 then nI ((sq R (D.1 1) (N0D D hh1 w) m).1 1) else D.1 j, fun a i => if a = 1 then (sq R (D.1 1) (N0D D hh1 w) m).2 0 i else if a = 2 then (sq R (D.1 1) (N0D D hh1 w) m).2 1 i else if a = 3 then (sq R (D.1 1) (N0D D hh1 w) m).2 2 i else D.2 a i), ?_, ?_, ?_⟩, ⟨⟨0, by omega, ?_, ?_⟩, fun i hi => ?_⟩, ?_, ?_⟩
    · have : (stI x 25 1 0).1 27 1 = nI m := by rw [y 27 (by omega)]; exact c5
      simp [f8_done, bd2_some, kd_0, e1, x1, bd1_some, nm_eq, this]
    · have e17 : (stI z 43 12 0).1 43 17 = nI m := by rw [f43 17 (by omega) (by omega) (by omega) (by omega) (by omega)]; exact w4
      simp [f9_done, bd2_some, kd_43, v1, m1, z1, bd1_some, nm_eq, e17]
    · exact ⟨⟨n, hn1, hn2, by simpa using en⟩, ⟨_, okm.1, by simp⟩, ⟨_, okm.2, by simp⟩, ⟨c, hc, by simpa using ec⟩, by simpa using ht, by simpa using hs⟩
    · unfold RelC
      rw [fk 1 (by omega), fk (1 + 1) (by omega), fk (1 + 2) (by omega), fk (1 + 3) (by omega), fk (1 + 4) (by omega), fk (1 + 5) (by omega), fk (1 + 6) (by omega), fk (1 + 7) (by omega)]
      rw [y' 1 (by omega), y' (1 + 1) (by omega), y' (1 + 6) (by omega), y' (1 + 7) (by omega), show (stI x 25 1 0).1 (1 + 2) = x.1 (1 + 2) from stI_ne (by omega), show (stI x 25 1 0).1 (1 + 3) = x.1 (1 + 3) from stI_ne (by omega), show (stI x 25 1 0).1 (1 + 4) = x.1 (1 + 4) from stI_ne (by omega), show (stI x 25 1 0).1 (1 + 5) = x.1 (1 + 5) from stI_ne (by omega)]
      exact ⟨⟨by simpa using a0, by simpa using a1, by simpa using x2.1, by simpa using x2.2, by simpa using a4⟩, by simpa using b0, by simpa using x3, by simpa using x4, by simpa using x5, by simpa using b4, by simpa using b5⟩
    · unfold RelM
      rw [f43 0 (by omega) (by omega) (by omega) (by omega) (by omega), f43 1 (by omega) (by omega) (by omega) (by omega) (by omega), f43 10 (by omega) (by omega) (by omega) (by omega) (by omega), fM 44 (by omega), fM 48 (by omega), fM 49 (by omega), show (stI z 43 12 0).1 45 = z.1 45 from stI_ne (by omega), show (stI z 43 12 0).1 46 = z.1 46 from stI_ne (by omega), show (stI z 43 12 0).1 47 = z.1 47 from stI_ne (by omega)]
      exact ⟨⟨by simpa using m0, by simpa using m1, by simpa [stI_get] using l3, by simpa [stI_get] using l4, by simpa using m4⟩, by simpa using n0, by simpa using l45, by simpa using l46, by simpa using l47, by simpa using n4, by simpa using n5⟩
    · rw [fk 25 (by omega)]; simp [stI_get, nI_0]
    · simp [stI_get, nI_0]
    · rw [fk 26 (by omega), y' 26 (by omega), fM 50 (by omega), v2.2.2.2.1 50 (by omega) (by omega) i (by simpa using hi), y' 50 (by omega)]
      exact p3 i hi
    · exact h0.keep (by omega) (fun q a b => by rw [fk q (by omega), y' q (by omega)]) (by rw [fk 65 (by omega), y' 65 (by omega)]) (by rw [fk 66 (by omega), y' 66 (by omega)])
    · exact h1.keep (by omega) (fun q a b => by rw [fk q (by omega), y' q (by omega)]) (by rw [fk 65 (by omega), y' 65 (by omega)]) (by rw [fk 66 (by omega), y' 66 (by omega)])
