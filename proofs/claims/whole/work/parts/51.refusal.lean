theorem ps_val {p : Nat → Int32} {n nf : Nat} (hn : n ≤ 60) : ∀ (d i due g f m : Nat) (R : Nat → Nat), i + d = n → (ps p n nf d i due g f m R).1 = -6 ∨ ∃ k, k ≤ 60 ∧ (ps p n nf d i due g f m R).1 = nI k := by
  intro d
  induction d with
  | zero =>
    intro i due g f m R hi
    unfold ps
    by_cases h : due = 0
    · left; simp [h]
    · right; exact ⟨n, hn, by simp [h]⟩
  | succ d ih =>
    intro i due g f m R hi
    have z : ∃ k, k ≤ 60 ∧ nI i = nI k := ⟨i, by omega, rfl⟩
    unfold ps
    split
    · split
      · split
        · exact ih _ _ _ _ _ _ (by omega)
        · split
          · exact ih _ _ _ _ _ _ (by omega)
          · split
            · exact ih _ _ _ _ _ _ (by omega)
            · exact Or.inr z
      · exact ih _ _ _ _ _ _ (by omega)
    · split
      · split
        · exact Or.inr z
        · exact ih _ _ _ _ _ _ (by omega)
      · split
        · exact ih _ _ _ _ _ _ (by omega)
        · split
          · exact ih _ _ _ _ _ _ (by omega)
          · exact Or.inr z
theorem psO_val {p : Nat → Int32} {n nf : Nat} (hn : n ≤ 60) : (psO p n nf).1 = -6 ∨ ∃ k, k ≤ 60 ∧ (psO p n nf).1 = nI k := ps_val hn n 0 0 0 0 0 _ (by omega)
/-- the needles put by -/
def Had (s : Sto) (N : NS) : Prop := (∀ r, r < 30 → s.1 58 r = N.2 0 r ∧ s.1 58 (30 + r) = N.2 1 r ∧ s.1 58 (60 + r) = N.2 2 r) ∧ s.1 58 90 = nI (N.1 0) ∧ s.1 58 91 = nI (N.1 1)
theorem n30 {j : Nat} : (30 : Int32) + nI j = nI (30 + j) := nI_add 30 j
theorem n60 {j : Nat} : (60 : Int32) + nI j = nI (60 + j) := nI_add 60 j
theorem n3 {j : Nat} : (3 : Int32) * nI j = nI (3 * j) := pk_mul 3 j
theorem n2 {j : Nat} : nI j + (2 : Int32) = nI (j + 2) := nI_add j 2
theorem keep_loop : ∀ (d j fuel : Nat) (s : Sto), j + d = 30 → d < fuel → ∃ t, L9_keepNow_2 43 fuel (nI j) s = some t ∧ (∀ r, r < 30 → t.1 58 r = (if j ≤ r then s.1 45 r else s.1 58 r) ∧ t.1 58 (30 + r) = (if j ≤ r then s.1 46 r else s.1 58 (30 + r)) ∧ t.1 58 (60 + r) = (if j ≤ r then s.1 47 r else s.1 58 (60 + r))) ∧ ∀ k, k ≠ 58 → t.1 k = s.1 k := by
  intro d
  induction d with
  | zero =>
    intro j fuel s h1 h2
    obtain ⟨f, rfl⟩ : ∃ f, fuel = f + 1 := ⟨fuel - 1, by omega⟩
    have : j = 30 := by omega
    subst this
    refine ⟨s, ?_, fun r hr => ⟨by rw [if_neg (by omega)], by rw [if_neg (by omega)], by rw [if_neg (by omega)]⟩, fun _ _ => rfl⟩
    unfold L9_keepNow_2
    rw [if_pos (by decide)]
  | succ d ih =>
    intro j fuel s h1 h2
    obtain ⟨f, rfl⟩ : ∃ f, fuel = f + 1 := ⟨fuel - 1, by omega⟩
    have a1 : inb (nI j) (ln (43 + 2)) := inb_nI (n := j) (m := 30) (by omega) (by omega)
    have a2 : inb (nI j) (ln (43 + 3)) := inb_nI (n := j) (m := 30) (by omega) (by omega)
    have a3 : inb (nI j) (ln (43 + 4)) := inb_nI (n := j) (m := 30) (by omega) (by omega)
    have b1 : inb (nI j) (ln (43 + 15)) := inb_nI (n := j) (m := 92) (by omega) (by omega)
    have b2 : inb (nI (30 + j)) (ln (43 + 15)) := inb_nI (n := 30 + j) (m := 92) (by omega) (by omega)
    have b3 : inb (nI (60 + j)) (ln (43 + 15)) := inb_nI (n := 60 + j) (m := 92) (by omega) (by omega)
    have c1 : (nI j).toNatClampNeg = j := nI_clamp (by omega)
    have c2 : (nI (30 + j)).toNatClampNeg = 30 + j := nI_clamp (by omega)
    have c3 : (nI (60 + j)).toNatClampNeg = 60 + j := nI_clamp (by omega)
    obtain ⟨t, t1, t2, t3⟩ := ih (j + 1) f (stI (stI (stI s 58 j (s.1 45 j)) 58 (30 + j) (s.1 46 j)) 58 (60 + j) (s.1 47 j)) (by omega) (by omega)
    refine ⟨t, ?_, fun r hr => ?_, fun k hk => by rw [t3 k hk, stI_ne hk, stI_ne hk, stI_ne hk]⟩
    · unfold L9_keepNow_2
      rw [if_neg (i30 (by omega)), if_pos a1, if_pos b1, c1, nm_eq, if_pos a2, n30, if_pos b2, c2, nm_eq, if_pos a3, n60, if_pos b3, c3, nm_eq, nI_1]
      rw [show (stI s 58 j (s.1 45 j)).1 (43 + 3) j = s.1 46 j from by rw [stI_ne (by omega)]] 
      rw [show (stI (stI s 58 j (s.1 45 j)) 58 (30 + j) (s.1 46 j)).1 (43 + 4) j = s.1 47 j from by rw [stI_ne (by omega), stI_ne (by omega)]]
      exact t1
    · obtain ⟨x1, x2, x3⟩ := t2 r hr
      rw [x1, x2, x3]
      refine ⟨?_, ?_, ?_⟩
      · by_cases e : j + 1 ≤ r
        · rw [if_pos e, if_pos (show j ≤ r by omega), stI_ne (by omega), stI_ne (by omega), stI_ne (by omega)]
        · rw [if_neg e, stI_get, if_neg (by omega), stI_get, if_neg (by omega), stI_get]
          by_cases g : r = j
          · subst g; rw [if_pos ⟨rfl, rfl⟩, if_pos (Nat.le_refl _)]
          · rw [if_neg (by omega), if_neg (show ¬ j ≤ r by omega)]
      · by_cases e : j + 1 ≤ r
        · rw [if_pos e, if_pos (show j ≤ r by omega), stI_ne (by omega), stI_ne (by omega), stI_ne (by omega)]
        · rw [if_neg e, stI_get, if_neg (by omega), stI_get]
          by_cases g : r = j
          · subst g; rw [if_pos ⟨rfl, rfl⟩, if_pos (Nat.le_refl _)]
          · rw [if_neg (by omega), stI_get, if_neg (by omega), if_neg (show ¬ j ≤ r by omega)]
      · by_cases e : j + 1 ≤ r
        · rw [if_pos e, if_pos (show j ≤ r by omega), stI_ne (by omega), stI_ne (by omega), stI_ne (by omega)]
        · rw [if_neg e, stI_get]
          by_cases g : r = j
          · subst g; rw [if_pos ⟨rfl, rfl⟩, if_pos (Nat.le_refl _)]
          · rw [if_neg (by omega), stI_get, if_neg (by omega), stI_get, if_neg (by omega), if_neg (show ¬ j ≤ r by omega)]
/-- rows, width and the rows' numbers, as N says -/
def NeR (s : Sto) (N : NS) : Prop := (s.1 43 3 = nI (N.1 0) ∧ s.1 43 4 = nI (N.1 1)) ∧ (∀ i, i < 30 → s.1 45 i = N.2 0 i) ∧ (∀ i, i < 30 → s.1 46 i = N.2 1 i) ∧ (∀ i, i < 30 → s.1 47 i = N.2 2 i)
theorem NeM.r {s : Sto} {N : NS} (h : NeM s N) : NeR s N := ⟨⟨h.1.1, h.1.2.1⟩, h.2⟩
theorem e_keepNow {s : Sto} {N : NS} (h : NeR s N) : ∃ t, f9_keepNow 43 s = some t ∧ Had t N ∧ ∀ k, k ≠ 58 → t.1 k = s.1 k := by
  obtain ⟨⟨r3, r4⟩, b0, b1, b2⟩ := h
  obtain ⟨t, t1, t2, t3⟩ := keep_loop 30 0 FU s (by omega) (by decide)
  rw [show nI 0 = 0 from rfl] at t1
  have e43 : t.1 43 = s.1 43 := t3 43 (by omega)
  refine ⟨stI (stI t 58 90 (s.1 43 3)) 58 91 (s.1 43 4), ?_, ⟨fun r hr => ?_, by simp [stI_get, r3], by simp [stI_get, r4]⟩, fun k hk => by rw [stI_ne hk, stI_ne hk, t3 k hk]⟩
  · unfold f9_keepNow
    rw [if_pos kd_43, t1, bd1_some, if_pos (by decide), show (90 : Int32).toNatClampNeg = 90 by decide, nm_eq, if_pos (by decide), show (91 : Int32).toNatClampNeg = 91 by decide, nm_eq, e43, stI_ne (by omega), e43]
  · obtain ⟨x1, x2, x3⟩ := t2 r hr
    refine ⟨?_, ?_, ?_⟩
    · rw [stI_get, if_neg (by omega), stI_get, if_neg (by omega), x1, if_pos (by omega)]; exact b0 r hr
    · rw [stI_get, if_neg (by omega), stI_get, if_neg (by omega), x2, if_pos (by omega)]; exact b1 r hr
    · rw [stI_get, if_neg (by omega), stI_get, if_neg (by omega), x3, if_pos (by omega)]; exact b2 r hr
theorem put_loop {N : NS} : ∀ (d j fuel : Nat) (s : Sto), j + d = 30 → d < fuel → Had s N → ∃ t, L9_putBack_2 43 fuel (nI j) s = some t ∧ (∀ r, r < 30 → t.1 45 r = (if j ≤ r then N.2 0 r else s.1 45 r) ∧ t.1 46 r = (if j ≤ r then N.2 1 r else s.1 46 r) ∧ t.1 47 r = (if j ≤ r then N.2 2 r else s.1 47 r)) ∧ ∀ k, k ≠ 45 → k ≠ 46 → k ≠ 47 → t.1 k = s.1 k := by
  intro d
  induction d with
  | zero =>
    intro j fuel s h1 h2 hd
    obtain ⟨f, rfl⟩ : ∃ f, fuel = f + 1 := ⟨fuel - 1, by omega⟩
    have : j = 30 := by omega
    subst this
    refine ⟨s, ?_, fun r hr => ⟨by rw [if_neg (by omega)], by rw [if_neg (by omega)], by rw [if_neg (by omega)]⟩, fun _ _ _ _ => rfl⟩
    unfold L9_putBack_2
    rw [if_pos (by decide)]
  | succ d ih =>
    intro j fuel s h1 h2 hd
    obtain ⟨f, rfl⟩ : ∃ f, fuel = f + 1 := ⟨fuel - 1, by omega⟩
    have a1 : inb (nI j) (ln (43 + 2)) := inb_nI (n := j) (m := 30) (by omega) (by omega)
    have a2 : inb (nI j) (ln (43 + 3)) := inb_nI (n := j) (m := 30) (by omega) (by omega)
    have a3 : inb (nI j) (ln (43 + 4)) := inb_nI (n := j) (m := 30) (by omega) (by omega)
    have b1 : inb (nI j) (ln (43 + 15)) := inb_nI (n := j) (m := 92) (by omega) (by omega)
    have b2 : inb (nI (30 + j)) (ln (43 + 15)) := inb_nI (n := 30 + j) (m := 92) (by omega) (by omega)
    have b3 : inb (nI (60 + j)) (ln (43 + 15)) := inb_nI (n := 60 + j) (m := 92) (by omega) (by omega)
    have c1 : (nI j).toNatClampNeg = j := nI_clamp (by omega)
    have c2 : (nI (30 + j)).toNatClampNeg = 30 + j := nI_clamp (by omega)
    have c3 : (nI (60 + j)).toNatClampNeg = 60 + j := nI_clamp (by omega)
    obtain ⟨y1, y2, y3⟩ := hd.1 j (by omega)
    obtain ⟨t, t1, t2, t3⟩ := ih (j + 1) f (stI (stI (stI s 45 j (N.2 0 j)) 46 j (N.2 1 j)) 47 j (N.2 2 j)) (by omega) (by omega) ⟨fun r hr => by rw [stI_ne (by omega), stI_ne (by omega), stI_ne (by omega)]; exact hd.1 r hr, by rw [stI_ne (by omega), stI_ne (by omega), stI_ne (by omega)]; exact hd.2.1, by rw [stI_ne (by omega), stI_ne (by omega), stI_ne (by omega)]; exact hd.2.2⟩
    refine ⟨t, ?_, fun r hr => ?_, fun k x1 x2 x3 => by rw [t3 k x1 x2 x3, stI_ne x3, stI_ne x2, stI_ne x1]⟩
    · unfold L9_putBack_2
      rw [if_neg (i30 (by omega)), if_pos b1, if_pos a1, c1, nm_eq, n30, if_pos b2, if_pos a2, c2, nm_eq, n60, if_pos b3, if_pos a3, c3, nm_eq, nI_1]
      rw [show s.1 (43 + 15) j = N.2 0 j from y1]
      rw [show (stI s (43 + 2) j (N.2 0 j)).1 (43 + 15) (30 + j) = N.2 1 j from by rw [stI_ne (by omega)]; exact y2]
      rw [show (stI (stI s (43 + 2) j (N.2 0 j)) (43 + 3) j (N.2 1 j)).1 (43 + 15) (60 + j) = N.2 2 j from by rw [stI_ne (by omega), stI_ne (by omega)]; exact y3]
      exact t1
    · obtain ⟨x1, x2, x3⟩ := t2 r hr
      rw [x1, x2, x3]
      by_cases e : j + 1 ≤ r
      · rw [if_pos e, if_pos e, if_pos e, if_pos (show j ≤ r by omega), if_pos (show j ≤ r by omega), if_pos (show j ≤ r by omega)]; exact ⟨rfl, rfl, rfl⟩
      · rw [if_neg e, if_neg e, if_neg e]
        by_cases g : r = j
        · subst g; simp [stI_get]
        · rw [if_neg (show ¬ j ≤ r by omega), if_neg (show ¬ j ≤ r by omega), if_neg (show ¬ j ≤ r by omega)]; simp [stI_get, g]
theorem e_putBack {s : Sto} {N : NS} (h : Had s N) : ∃ t, f9_putBack 43 s = some t ∧ NeR t N ∧ (∀ k, k ≠ 43 → k ≠ 45 → k ≠ 46 → k ≠ 47 → t.1 k = s.1 k) ∧ ∀ j, j ≠ 3 → j ≠ 4 → t.1 43 j = s.1 43 j := by
  obtain ⟨t, t1, t2, t3⟩ := put_loop 30 0 FU s (by omega) (by decide) h
  rw [show nI 0 = 0 from rfl] at t1
  have e43 : t.1 43 = s.1 43 := t3 43 (by omega) (by omega) (by omega)
  have e58 : t.1 58 = s.1 58 := t3 58 (by omega) (by omega) (by omega)
  refine ⟨stI (stI t 43 3 (nI (N.1 0))) 43 4 (nI (N.1 1)), ?_, ⟨⟨by simp [stI_get], by simp [stI_get]⟩, fun r hr => ?_, fun r hr => ?_, fun r hr => ?_⟩, fun k a b c d => by rw [stI_ne a, stI_ne a, t3 k b c d], fun j a b => by rw [stI_get, if_neg (by omega), stI_get, if_neg (by omega), e43]⟩
  · unfold f9_putBack
    rw [if_pos kd_43, t1, bd1_some, if_pos (by decide), show (90 : Int32).toNatClampNeg = 90 by decide, nm_eq, if_pos (by decide), show (91 : Int32).toNatClampNeg = 91 by decide, nm_eq]
    rw [show t.1 (43 + 15) 90 = nI (N.1 0) from by rw [e58]; exact h.2.1]
    rw [show (stI t 43 3 (nI (N.1 0))).1 (43 + 15) 91 = nI (N.1 1) from by rw [stI_ne (by omega), e58]; exact h.2.2]
  · rw [stI_ne (by omega), stI_ne (by omega), (t2 r hr).1, if_pos (by omega)]
  · rw [stI_ne (by omega), stI_ne (by omega), (t2 r hr).2.1, if_pos (by omega)]
  · rw [stI_ne (by omega), stI_ne (by omega), (t2 r hr).2.2, if_pos (by omega)]
theorem leave_loop {N : NS} : ∀ (d j fuel : Nat) (s : Sto), j + d = 30 → d < fuel → NeR s N → ∃ t, L9_refusal_24 43 fuel (nI j) s = some t ∧ (∀ r, r < 30 → j ≤ r → t.1 59 (3 * r) = N.2 0 r ∧ t.1 59 (3 * r + 1) = N.2 1 r ∧ t.1 59 (3 * r + 2) = N.2 2 r) ∧ (∀ p, p < 3 * j → t.1 59 p = s.1 59 p) ∧ ∀ k, k ≠ 59 → t.1 k = s.1 k := by
  intro d
  induction d with
  | zero =>
    intro j fuel s h1 h2 hd
    obtain ⟨f, rfl⟩ : ∃ f, fuel = f + 1 := ⟨fuel - 1, by omega⟩
    have : j = 30 := by omega
    subst this
    refine ⟨s, ?_, fun r hr h => by omega, fun _ _ => rfl, fun _ _ => rfl⟩
    unfold L9_refusal_24
    rw [if_pos (by decide)]
  | succ d ih =>
    intro j fuel s h1 h2 hd
    obtain ⟨f, rfl⟩ : ∃ f, fuel = f + 1 := ⟨fuel - 1, by omega⟩
    have a1 : inb (nI j) (ln (43 + 2)) := inb_nI (n := j) (m := 30) (by omega) (by omega)
    have a2 : inb (nI j) (ln (43 + 3)) := inb_nI (n := j) (m := 30) (by omega) (by omega)
    have a3 : inb (nI j) (ln (43 + 4)) := inb_nI (n := j) (m := 30) (by omega) (by omega)
    have b1 : inb (nI (3 * j)) (ln (43 + 16)) := inb_nI (n := 3 * j) (m := 90) (by omega) (by omega)
    have b2 : inb (nI (3 * j + 1)) (ln (43 + 16)) := inb_nI (n := 3 * j + 1) (m := 90) (by omega) (by omega)
    have b3 : inb (nI (3 * j + 2)) (ln (43 + 16)) := inb_nI (n := 3 * j + 2) (m := 90) (by omega) (by omega)
    have c1 : (nI j).toNatClampNeg = j := nI_clamp (by omega)
    have d1 : (nI (3 * j)).toNatClampNeg = 3 * j := nI_clamp (by omega)
    have d2 : (nI (3 * j + 1)).toNatClampNeg = 3 * j + 1 := nI_clamp (by omega)
    have d3 : (nI (3 * j + 2)).toNatClampNeg = 3 * j + 2 := nI_clamp (by omega)
    obtain ⟨⟨r3, r4⟩, y0, y1, y2⟩ := id hd
    obtain ⟨t, t1, t2, t3, t4⟩ := ih (j + 1) f (stI (stI (stI s 59 (3 * j) (N.2 0 j)) 59 (3 * j + 1) (N.2 1 j)) 59 (3 * j + 2) (N.2 2 j)) (by omega) (by omega) (by
      unfold NeR at hd ⊢
      rw [stI_ne (by omega), stI_ne (by omega), stI_ne (by omega), stI_ne (by omega), stI_ne (by omega), stI_ne (by omega), stI_ne (by omega), stI_ne (by omega), stI_ne (by omega), stI_ne (by omega), stI_ne (by omega), stI_ne (by omega)]
      exact hd)
    refine ⟨t, ?_, fun r hr hj => ?_, fun p hp => by rw [t3 p (by omega), stI_get, if_neg (by omega), stI_get, if_neg (by omega), stI_get, if_neg (by omega)], fun k hk => by rw [t4 k hk, stI_ne hk, stI_ne hk, stI_ne hk]⟩
    · unfold L9_refusal_24
      rw [if_neg (i30 (by omega)), if_pos a1, n3, if_pos b1, c1, d1, nm_eq, if_pos a2, nI_1, if_pos b2, d2, nm_eq, if_pos a3, n2, if_pos b3, d3, nm_eq, nI_1]
      rw [show s.1 (43 + 2) j = N.2 0 j from y0 j (by omega)]
      rw [show (stI s (43 + 16) (3 * j) (N.2 0 j)).1 (43 + 3) j = N.2 1 j from by rw [stI_ne (by omega)]; exact y1 j (by omega)]
      rw [show (stI (stI s (43 + 16) (3 * j) (N.2 0 j)) (43 + 16) (3 * j + 1) (N.2 1 j)).1 (43 + 4) j = N.2 2 j from by rw [stI_ne (by omega), stI_ne (by omega)]; exact y2 j (by omega)]
      exact t1
    · by_cases e : r = j
      · subst e
        refine ⟨?_, ?_, ?_⟩
        · rw [t3 _ (by omega), stI_get, if_neg (by omega), stI_get, if_neg (by omega), stI_get, if_pos ⟨rfl, rfl⟩]
        · rw [t3 _ (by omega), stI_get, if_neg (by omega), stI_get, if_pos ⟨rfl, rfl⟩]
        · rw [t3 _ (by omega), stI_get, if_pos ⟨rfl, rfl⟩]
      · exact t2 r hr (by omega)
theorem e_goEvening {s : Sto} {D : DD} {c h w m : Nat} {R : Nat → Nat} {so : Int32} (hc : c ≤ 8) (h1 : h ≤ 30) (h2 : w ≤ 40) (hm : m ≤ 60) (hR : ∀ j, j < m → CodL (R j)) (hN : NeR s (N0D D h w)) (h90 : s.1 58 90 = nI h) (h17 : s.1 43 17 = nI m) (hr : ∀ j, j < m → RemM s j (R j)) (h10 : s.1 43 10 = nI c) (ht : ∀ g, g < 6 → s.1 44 g = D.2 0 g) (hs1 : ∀ k, k < 8 → s.1 48 k = D.2 4 k) (hs2 : ∀ k, k < 8 → s.1 49 k = D.2 5 k) :
    ∃ t, f9_goEvening 43 so s = some t ∧ EvM t D c h R so (N0D D h w) (fbx (D.2 0) R so (N0D D h w) m 0) ∧ t.1 43 28 = (if fbx (D.2 0) R so (N0D D h w) m 0 = m then -6 else nI (fbx (D.2 0) R so (N0D D h w) m 0)) ∧ t.1 43 29 = (if fbx (D.2 0) R so (N0D D h w) m 0 = m then -6 else nI (wy (D.2 0) R so (N0D D h w) (fbx (D.2 0) R so (N0D D h w) m 0))) ∧ FrG s t := by
  obtain ⟨n0, n1⟩ := N0D_ok (D := D) h1 h2
  obtain ⟨⟨r3, r4⟩, b0, b1, b2⟩ := hN
  have fg : FrG s (stI (stI (stI (stI (stI (stI (stI s 43 28 (-6)) 43 29 (-6)) 43 21 0) 43 22 0) 43 23 (nI h)) 43 24 (nI h)) 43 25 (-6)) := ((((((FrG.st (by omega)).tr (FrG.st (by omega))).tr (FrG.st (by omega))).tr (FrG.st (by omega))).tr (FrG.st (by omega))).tr (FrG.st (by omega))).tr (FrG.st (by omega))
  have es := e_isSeenSo (s := stI (stI (stI (stI (stI (stI (stI s 43 28 (-6)) 43 29 (-6)) 43 21 0) 43 22 0) 43 23 (nI h)) 43 24 (nI h)) 43 25 (-6)) (sr := D.2 4) (sw := D.2 5) (many := 0) (rows := h) hc (by rw [fg.2 10 (by omega) (by omega) (by omega) (by omega)]; exact h10) (by simp [stI_get, r3, N0D]) (fun k hk => by rw [fg.1 48 (by omega) (by omega) (by omega) (by omega) (by omega)]; exact hs1 k hk) (fun k hk => by rw [fg.1 49 (by omega) (by omega) (by omega) (by omega) (by omega)]; exact hs2 k hk)
  rw [show nI 0 = 0 from rfl] at es
  obtain ⟨t, t1, t2, t3⟩ := lost_init (a1 := so) 30 0 FU (stI (stI (stI (stI (stI (stI (stI (stI s 43 28 (-6)) 43 29 (-6)) 43 21 0) 43 22 0) 43 23 (nI h)) 43 24 (nI h)) 43 25 (-6)) 43 30 (bI (sB (D.2 4) (D.2 5) 0 h c))) (by omega) (by decide)
  rw [show nI 0 = 0 from rfl] at t1
  have ft : FrG s t := (fg.tr (FrG.st (by omega))).tr ⟨fun k _ _ _ _ e => t3 k e, fun j _ _ _ _ => by rw [t3 43 (by omega)]⟩
  have e43 := t3 43 (by omega)
  obtain ⟨u, u1, u2, u3, u4, u5⟩ := go_loop (D := D) (c := c) (m := m) (R := R) (so := so) (N0 := N0D D h w) hc n0 n1 hm hR m 0 FU t (by omega) (fun j hj => by omega) (by unfold FU; omega) ⟨⟨⟨by rw [e43]; simp [stI_get, r3, sq], by rw [e43]; simp [stI_get, r4, sq], by rw [e43]; simp [stI_get, sq, N0D, nI_0], by rw [e43]; simp [stI_get, sq, N0D, nI_0], by rw [e43]; simp [stI_get, sq, N0D]⟩, fun i hi => by rw [t3 45 (by omega)]; simp [stI_get, sq, b0 i hi], fun i hi => by rw [t3 46 (by omega)]; simp [stI_get, sq, b1 i hi], fun i hi => by rw [t3 47 (by omega)]; simp [stI_get, sq, b2 i hi]⟩, by rw [e43]; simp [stI_get, mn, N0D], by rw [e43]; simp [stI_get, mx, N0D], fun r hr => by rw [t2 r hr, if_pos (by omega)]; rfl, by rw [e43]; simp [stI_get, sn, hh, sq, N0D], by rw [t3 58 (by omega)]; simp [stI_get, h90, N0D]⟩ (by rw [ft.2 17 (by omega) (by omega) (by omega) (by omega)]; exact h17) (fun j hj => (hr j hj).keep ⟨by rw [ft.1 51 (by omega) (by omega) (by omega) (by omega) (by omega)], by rw [ft.1 52 (by omega) (by omega) (by omega) (by omega) (by omega)], by rw [ft.1 53 (by omega) (by omega) (by omega) (by omega) (by omega)], by rw [ft.1 54 (by omega) (by omega) (by omega) (by omega) (by omega)]⟩) (by rw [e43]; simp [stI_get]) (by rw [e43]; simp [stI_get]) (by rw [ft.2 10 (by omega) (by omega) (by omega) (by omega)]; exact h10) (fun g hg => by rw [ft.1 44 (by omega) (by omega) (by omega) (by omega) (by omega)]; exact ht g hg) (fun k hk => by rw [ft.1 48 (by omega) (by omega) (by omega) (by omega) (by omega)]; exact hs1 k hk) (fun k hk => by rw [ft.1 49 (by omega) (by omega) (by omega) (by omega) (by omega)]; exact hs2 k hk)
  refine ⟨u, ?_, u2, u3, u4, ft.tr u5⟩
  unfold f9_goEvening
  rw [if_pos kd_43]
  simp only [nm_eq]
  have z1 : (stI (stI (stI (stI s 43 28 (-6)) 43 29 (-6)) 43 21 0) 43 22 0).1 43 3 = nI h := by simp [stI_get, r3, N0D]
  rw [z1]
  have z2 : (stI (stI (stI (stI (stI s 43 28 (-6)) 43 29 (-6)) 43 21 0) 43 22 0) 43 23 (nI h)).1 43 3 = nI h := by simp [stI_get, r3, N0D]
  rw [z2, es, bd2_some, if_pos (by cases sB (D.2 4) (D.2 5) 0 h c <;> decide), t1, bd1_some]
  rw [show nI 0 = 0 from rfl] at u1
  rw [u1, bd1_some]
