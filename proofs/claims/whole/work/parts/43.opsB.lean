theorem FU_s : FU = 1999 + 1 := rfl
theorem i6 {j : Nat} (h : j < 6) : ¬ (6 : Int32) ≤ nI j := nI_ge (a := j) (b := 6) h (by omega)
theorem restart_loop : ∀ (d j fuel : Nat) (s : Sto), j + d = 6 → d < fuel → ∃ t, L0_restart_12 1 fuel (nI j) s = some t ∧ (∀ g, g < 6 → t.1 2 g = if j ≤ g then 0 else s.1 2 g) ∧ ∀ k, k ≠ 2 → t.1 k = s.1 k := by
  intro d
  induction d with
  | zero =>
    intro j fuel s h1 h2
    obtain ⟨f, rfl⟩ : ∃ f, fuel = f + 1 := ⟨fuel - 1, by omega⟩
    have : j = 6 := by omega
    subst this
    refine ⟨s, ?_, fun g hg => by rw [if_neg (by omega)], fun _ _ => rfl⟩
    unfold L0_restart_12
    rw [if_pos (by decide)]
  | succ d ih =>
    intro j fuel s h1 h2
    obtain ⟨f, rfl⟩ : ∃ f, fuel = f + 1 := ⟨fuel - 1, by omega⟩
    obtain ⟨t, e1, e2, e3⟩ := ih (j + 1) f (stI s 2 j 0) (by omega) (by omega)
    refine ⟨t, ?_, fun g hg => ?_, fun k hk => by rw [e3 k hk, stI_ne hk]⟩
    · unfold L0_restart_12
      rw [if_neg (i6 (by omega)), e_put (k := 1 + 1) (i := j) kd_2 (by rw [show ln (1 + 1) = 6 from rfl]; omega), bd1_some, nI_1]
      exact e1
    · rw [e2 g hg, stI_get]
      by_cases q : g = j
      · subst q; simp
      · by_cases q2 : j + 1 ≤ g
        · rw [if_pos q2, if_pos (by omega)]
        · rw [if_neg q2, if_neg (by simp [q]), if_neg (by omega)]
theorem begin_loop : ∀ (d j fuel : Nat) (s : Sto), j + d = 6 → d < fuel → ∃ t, L9_begin_28 43 fuel (nI j) s = some t ∧ (∀ g, g < 6 → t.1 44 g = if j ≤ g then 0 else s.1 44 g) ∧ ∀ k, k ≠ 44 → t.1 k = s.1 k := by
  intro d
  induction d with
  | zero =>
    intro j fuel s h1 h2
    obtain ⟨f, rfl⟩ : ∃ f, fuel = f + 1 := ⟨fuel - 1, by omega⟩
    have : j = 6 := by omega
    subst this
    refine ⟨s, ?_, fun g hg => by rw [if_neg (by omega)], fun _ _ => rfl⟩
    unfold L9_begin_28
    rw [if_pos (by decide)]
  | succ d ih =>
    intro j fuel s h1 h2
    obtain ⟨f, rfl⟩ : ∃ f, fuel = f + 1 := ⟨fuel - 1, by omega⟩
    obtain ⟨t, e1, e2, e3⟩ := ih (j + 1) f (stI s 44 j 0) (by omega) (by omega)
    refine ⟨t, ?_, fun g hg => ?_, fun k hk => by rw [e3 k hk, stI_ne hk]⟩
    · unfold L9_begin_28
      rw [if_neg (i6 (by omega)), if_pos (inb_nI (n := j) (m := ln (43 + 1)) (by rw [show ln (43 + 1) = 6 from rfl]; omega) (by decide)), nm_eq, nI_clamp (by omega), nI_1]
      exact e1
    · rw [e2 g hg, stI_get]
      by_cases q : g = j
      · subst q; simp
      · by_cases q2 : j + 1 ≤ g
        · rw [if_pos q2, if_pos (by omega)]
        · rw [if_neg q2, if_neg (by simp [q]), if_neg (by omega)]
theorem e_begin (s : Sto) (a : Int32) : ∃ t, f9_begin 43 a s = some t ∧ (t.1 43 0 = a ∧ t.1 43 1 = 0 ∧ t.1 43 3 = 0 ∧ t.1 43 4 = 20 ∧ t.1 43 10 = 0 ∧ t.1 43 12 = s.1 43 12) ∧ (∀ g, g < 6 → t.1 44 g = 0) ∧ ∀ k, k ≠ 43 → k ≠ 44 → t.1 k = s.1 k := by
  obtain ⟨t, e1, e2, e3⟩ := begin_loop 6 0 FU (stI (stI (stI (stI (stI s 43 0 a) 43 1 0) 43 3 0) 43 4 20) 43 10 0) (by omega) (by decide)
  refine ⟨t, ?_, ?_, fun g hg => by rw [e2 g hg]; simp, fun k h1 h2 => by rw [e3 k h2, stI_ne h1, stI_ne h1, stI_ne h1, stI_ne h1, stI_ne h1]⟩
  · unfold f9_begin
    rw [if_pos kd_43]
    simp only [nm_eq]
    rw [show (0 : Int32) = nI 0 from rfl] at e1 ⊢
    rw [e1, bd1_some]
  · rw [e3 43 (by omega)]
    simp [stI_get]
theorem op_facts {s : Sto} (h : RR s) (a : Int32) : ∃ r s1 s2, f8_facts 0 a s = some (r, s1) ∧ f9_facts 43 a s1 = some (r, s2) ∧ RR s2 := by
  obtain ⟨⟨D, hD, hC, hM⟩, hp, h0, h1⟩ := id h
  obtain ⟨⟨a0, a1, a2, a3, a4⟩, b0, b1, b2, b3, b4, b5⟩ := hC.lit
  obtain ⟨⟨m0, m1, m2, m3, m4⟩, n0, n1, n2, n3, n4, n5⟩ := id hM
  obtain ⟨⟨n, hn1, hn2, en⟩, ⟨hh, hh1, eh⟩, ⟨w, hw, ew⟩, ⟨c, hc, ec⟩, ht, hs⟩ := id hD
  rcases rng (v := a) (a := 1) (b := 8) with hr | ⟨hr, g1, g2⟩
  · exact ⟨-2, s, s, by simp [f8_facts, e_isWithin, bd2_some, kd_0, hr], by simp [f9_facts, e9_in_1_8, bd2_some, kd_43, hr], h⟩
  · obtain ⟨t, e1, e2, e3⟩ := restart_loop 6 0 FU (stI (stI s 1 0 a) 1 1 0) (by omega) (by decide)
    have g1' : ¬ a < 0 := fun z => g1 (Int32.lt_trans z (by decide))
    obtain ⟨x, hx, rfl⟩ := nI_of2 (n := 8) (by decide) g1' g2
    have hx1 : 1 ≤ x := by
      rcases Nat.eq_zero_or_pos x with q | q
      · subst q; exact absurd (by decide) g1
      · exact q
    obtain ⟨u, u1, ⟨v0, v1, v3, v4, v10, v12⟩, u3, u4⟩ := e_begin (stI (stI (stI t 3 3 0) 3 4 20) 1 4 0) (nI x)
    have z4 : t.1 1 4 = s.1 1 4 := by rw [e3 1 (by omega)]; simp [stI_get]
    have k : ∀ q, q ≠ 1 → q ≠ 2 → q ≠ 3 → q ≠ 43 → q ≠ 44 → u.1 q = s.1 q := fun q q1 q2 q3 q4 q5 => by rw [u4 q q4 q5, stI_ne q1, stI_ne q3, stI_ne q3, e3 q q2, stI_ne q1, stI_ne q1]
    refine ⟨D.1 0, stI (stI (stI t 3 3 0) 3 4 20) 1 4 0, u, ?_, ?_, ⟨(fun j => if j = 0 then nI x else if j = 3 then 20 else 0, fun a i => if a = 0 then 0 else D.2 a i), ?_, ?_, ?_⟩, hp.keep (by rw [k 25 (by omega) (by omega) (by omega) (by omega) (by omega)]) (k 26 (by omega) (by omega) (by omega) (by omega) (by omega)) ?_ (fun i hi => by rw [k 50 (by omega) (by omega) (by omega) (by omega) (by omega)]), h0.keep (by omega) (fun q a b => k q (by omega) (by omega) (by omega) (by omega) (by omega)) (k 65 (by omega) (by omega) (by omega) (by omega) (by omega)) (k 66 (by omega) (by omega) (by omega) (by omega) (by omega)), h1.keep (by omega) (fun q a b => k q (by omega) (by omega) (by omega) (by omega) (by omega)) (k 65 (by omega) (by omega) (by omega) (by omega) (by omega)) (k 66 (by omega) (by omega) (by omega) (by omega) (by omega))⟩
    · rw [show nI 0 = 0 from rfl] at e1
      simp [f8_facts, f0_restart, f2_restart, e_isWithin, bd2_some, bd1_some, kd_0, kd_1, kd_3, hr, nm_eq, e1, a0]
    · simp only [f9_facts, e9_in_1_8, bd2_some, kd_43, hr, u1, bd1_some, if_true]
      have : (stI (stI (stI t 3 3 0) 3 4 20) 1 4 0).1 43 0 = D.1 0 := by rw [stI_ne (by omega), stI_ne (by omega), stI_ne (by omega), e3 43 (by omega), stI_ne (by omega), stI_ne (by omega)]; exact m0
      rw [this]; simp
    · exact ⟨⟨x, hx1, hx, by simp⟩, ⟨0, by omega, by simp [nI_0]⟩, ⟨20, by omega, by simp; rfl⟩, ⟨0, by omega, by simp [nI_0]⟩, fun g hg => by simp, by simpa using hs⟩
    · have c1 : u.1 1 = (stI (stI (stI t 3 3 0) 3 4 20) 1 4 0).1 1 := u4 1 (by omega) (by omega)
      have c2 : u.1 2 = (stI (stI (stI t 3 3 0) 3 4 20) 1 4 0).1 2 := u4 2 (by omega) (by omega)
      have c3 : u.1 3 = (stI (stI (stI t 3 3 0) 3 4 20) 1 4 0).1 3 := u4 3 (by omega) (by omega)
      have c4 := k 4 (by omega) (by omega) (by omega) (by omega) (by omega)
      have c5 := k 5 (by omega) (by omega) (by omega) (by omega) (by omega)
      have c6 := k 6 (by omega) (by omega) (by omega) (by omega) (by omega)
      have c7 := k 7 (by omega) (by omega) (by omega) (by omega) (by omega)
      have c8 := k 8 (by omega) (by omega) (by omega) (by omega) (by omega)
      have d1 := e3 1 (by omega)
      have d3 := e3 3 (by omega)
      simp +contextual [RelC, c1, c2, c3, c4, c5, c6, c7, c8, stI_get, d1, d3, e2, b1, b2, b3, b4, b5]
    · have c5 := k 45 (by omega) (by omega) (by omega) (by omega) (by omega)
      have c6 := k 46 (by omega) (by omega) (by omega) (by omega) (by omega)
      have c7 := k 47 (by omega) (by omega) (by omega) (by omega) (by omega)
      have c8 := k 48 (by omega) (by omega) (by omega) (by omega) (by omega)
      have c9 := k 49 (by omega) (by omega) (by omega) (by omega) (by omega)
      simp +contextual [RelM, v0, v1, v3, v4, v10, u3, c5, c6, c7, c8, c9, n1, n2, n3, n4, n5]
    · rw [v12, stI_ne (by omega), stI_ne (by omega), stI_ne (by omega), e3 43 (by omega), stI_ne (by omega), stI_ne (by omega)]
-- how many tempers are not v
def cw (f : Nat → Int32) (v : Int32) : Nat → Nat
  | 0 => 0
  | n + 1 => cw f v n + (if f n = v then 0 else 1)
theorem cw_le (f : Nat → Int32) (v : Int32) (n : Nat) : cw f v n ≤ n := by
  induction n with
  | zero => exact Nat.le_refl _
  | succ n ih => simp only [cw]; split <;> omega
theorem cw_loop {s : Sto} {f : Nat → Int32} {v : Int32} (hf : ∀ g, g < 6 → s.1 2 g = f g) : ∀ (d j fuel : Nat), j + d = 6 → d < fuel → L0_countWithout_4 1 v fuel (nI (cw f v j)) (nI j) s = some (nI (cw f v 6), s) := by
  intro d
  induction d with
  | zero =>
    intro j fuel h1 h2
    obtain ⟨q, rfl⟩ : ∃ q, fuel = q + 1 := ⟨fuel - 1, by omega⟩
    have : j = 6 := by omega
    subst this
    unfold L0_countWithout_4
    rw [if_pos (by decide)]
  | succ d ih =>
    intro j fuel h1 h2
    obtain ⟨q, rfl⟩ : ∃ q, fuel = q + 1 := ⟨fuel - 1, by omega⟩
    unfold L0_countWithout_4
    rw [if_neg (i6 (by omega)), e_temper (o := 1) (g := j) kd_1 kd_2 ln_2 (by omega), bd2_some, hf j (by omega), nI_1, nI_1]
    have e := ih (j + 1) q (by omega) (by omega)
    simp only [cw] at e ⊢
    by_cases c : f j = v
    · simpa [c] using e
    · simpa [c] using e
theorem e_countWithout {s : Sto} {f : Nat → Int32} {v : Int32} (hf : ∀ g, g < 6 → s.1 2 g = f g) : f0_countWithout 1 v s = some (nI (cw f v 6), s) := by
  unfold f0_countWithout
  have e := cw_loop (v := v) hf 6 0 FU (by omega) (by decide)
  rw [show nI (cw f v 0) = 0 from rfl, show nI 0 = 0 from rfl] at e
  rw [if_pos kd_1, e, bd2_some]
theorem cw9_loop {s : Sto} {f : Nat → Int32} {a1 : Int32} (hf : ∀ g, g < 6 → s.1 44 g = f g) : ∀ (d j fuel : Nat), j + d = 6 → d < fuel → L9_patterns_19 43 a1 s fuel (nI (cw f 1 j)) (nI j) = some (nI (cw f 1 6)) := by
  intro d
  induction d with
  | zero =>
    intro j fuel h1 h2
    obtain ⟨q, rfl⟩ : ∃ q, fuel = q + 1 := ⟨fuel - 1, by omega⟩
    have : j = 6 := by omega
    subst this
    unfold L9_patterns_19
    rw [if_pos (by decide)]
  | succ d ih =>
    intro j fuel h1 h2
    obtain ⟨q, rfl⟩ : ∃ q, fuel = q + 1 := ⟨fuel - 1, by omega⟩
    unfold L9_patterns_19
    rw [if_neg (i6 (by omega)), if_pos (inb_nI (n := j) (m := ln (43 + 1)) (by rw [show ln (43 + 1) = 6 from rfl]; omega) (by decide)), nI_clamp (by omega), hf j (by omega), nI_1, nI_1, show nI (cw f 1 j) + 0 = nI (cw f 1 j) from nI_add _ 0]
    have e := ih (j + 1) q (by omega) (by omega)
    simp only [cw] at e ⊢
    by_cases c : f j = 1
    · simpa [c] using e
    · simpa [c] using e
theorem pat_loop {a l : Int32} {s s' : Sto} : ∀ (fuel : Nat) (x y i : Int32), (∀ r, L8_patterns_30 a l s fuel x y i = some r → L9_patterns_57 a l s' fuel x y i = some r) := by
  intro fuel
  induction fuel with
  | zero => intro x y i r h; cases h
  | succ f ih =>
    intro x y i r h
    unfold L8_patterns_30 at h
    unfold L9_patterns_57
    by_cases c : a ≤ i
    · rw [if_pos c] at h ⊢; exact h
    · rw [if_neg c] at h ⊢
      have e : y + l * (x + y) = (x + y) * l + y := by rw [Int32.mul_comm, Int32.add_comm]
      rw [e]; exact ih _ _ _ r h
theorem pat_ends {l : Int32} {s : Sto} {k : Nat} (hk : k ≤ 8) : ∀ (d j fuel : Nat) (x y : Int32), j + d = k → d < fuel → ∃ r, L8_patterns_30 (nI k) l s fuel x y (nI j) = some r := by
  intro d
  induction d with
  | zero =>
    intro j fuel x y h1 h2
    obtain ⟨q, rfl⟩ : ∃ q, fuel = q + 1 := ⟨fuel - 1, by omega⟩
    unfold L8_patterns_30
    rw [if_pos (nI_le (by omega) (by omega))]
    exact ⟨_, rfl⟩
  | succ d ih =>
    intro j fuel x y h1 h2
    obtain ⟨q, rfl⟩ : ∃ q, fuel = q + 1 := ⟨fuel - 1, by omega⟩
    unfold L8_patterns_30
    rw [if_neg (nI_ge (by omega) (by omega)), nI_1]
    exact ih (j + 1) q _ _ (by omega) (by omega)
theorem op_patterns {s : Sto} (h : RR s) (a : Int32) : ∃ r s1 s2, f8_patterns 0 a s = some (r, s1) ∧ f9_patterns 43 a s1 = some (r, s2) ∧ RR s2 := by
  obtain ⟨⟨D, hD, hC, hM⟩, hp, h0, h1⟩ := id h
  obtain ⟨⟨a0, a1, a2, a3, a4⟩, b0, b1, b2, b3, b4, b5⟩ := hC.lit
  obtain ⟨⟨m0, m1, m2, m3, m4⟩, n0, n1, n2, n3, n4, n5⟩ := id hM
  rcases rng (v := a) (a := 0) (b := 8) with hr | ⟨hr, g1, g2⟩
  · exact ⟨-2, s, s, by simp [f8_patterns, e_isWithin, bd2_some, kd_0, hr], by simp [f9_patterns, e9_in_0_8, bd2_some, kd_43, hr], h⟩
  · obtain ⟨k, hk, rfl⟩ := nI_of2 (n := 8) (by decide) g1 g2
    have e1 := e_countWithout (v := 1) b0
    obtain ⟨⟨x, y⟩, e2⟩ := pat_ends (l := nI (cw (D.2 0) 1 6)) (s := s) hk k 0 FU 1 0 (by omega) (by unfold FU; omega)
    have e3 := pat_loop (s' := s) _ _ _ _ _ e2
    have e4 := cw9_loop (a1 := nI k) n0 6 0 FU (by omega) (by decide)
    rw [show nI (cw (D.2 0) 1 0) = 0 from rfl, show nI 0 = 0 from rfl] at e4
    rw [show nI 0 = 0 from rfl] at e2 e3
    refine ⟨x + y, s, s, ?_, ?_, h⟩
    · simp [f8_patterns, e_isWithin, bd2_some, kd_0, hr, e1, e2]
    · simp [f9_patterns, e9_in_0_8, bd2_some, bd1_some, kd_43, hr, e4, e3]
