def bI (b : Bool) : Int32 := if b then 1 else 0
theorem bI_0 (b : Bool) : bI b = 0 ↔ b = false := by cases b <;> decide
/-- a pattern's row is a row -/
def RowOk (c k : Int32) : Prop := (k = 2 ∧ c = 6) ∨ ((k = 0 ∨ k = 1) ∧ ∃ g, g < 6 ∧ c = nI g)
theorem qp_ok {p : Nat → Int32} : ∀ (d i : Nat) (tw : Bool) (m : Nat) (c k : Nat → Int32), m ≤ i → (tw = true → 1 ≤ m ∧ k (m - 1) = 0) → (∀ j, j < m → RowOk (c j) (k j)) → (qp p d i tw m c k).2.1 ≤ i + d ∧ ∀ j, j < (qp p d i tw m c k).2.1 → RowOk ((qp p d i tw m c k).2.2.1 j) ((qp p d i tw m c k).2.2.2 j) := by
  intro d
  induction d with
  | zero => intro i tw m c k hm ht hr; exact ⟨by simpa [qp] using hm, hr⟩
  | succ d ih =>
    intro i tw m c k hm ht hr
    unfold qp
    by_cases h1 : p i = 42 ∧ tw = true
    · rw [if_pos h1]
      obtain ⟨hm1, hk0⟩ := ht h1.2
      have := ih (i + 1) false m c (fun j => if j = m - 1 then 1 else k j) (by omega) (fun h => by cases h) (fun j hj => by
        by_cases e : j = m - 1
        · subst e
          rcases hr (m - 1) (by omega) with ⟨a, b⟩ | ⟨a, b⟩
          · rw [hk0] at a; exact absurd a (by decide)
          · exact Or.inr ⟨Or.inr (by simp), b⟩
        · simpa [e] using hr j hj)
      exact ⟨by omega, this.2⟩
    · rw [if_neg h1]
      by_cases h2 : p i = 109
      · rw [if_pos h2]
        have := ih (i + 1) false (m + 1) (fun j => if j = m then 6 else c j) (fun j => if j = m then 2 else k j) (by omega) (fun h => by cases h) (fun j hj => by
          by_cases e : j = m
          · subst e; exact Or.inl ⟨by simp, by simp⟩
          · simpa [e] using hr j (by omega))
        exact ⟨by omega, this.2⟩
      · rw [if_neg h2]
        by_cases h3 : gx (p i - 65) = 0
        · rw [if_pos h3]; exact ⟨by show m ≤ _; omega, hr⟩
        · rw [if_neg h3]
          obtain ⟨z, hz, y1, y2⟩ := gx_idx h3
          have := ih (i + 1) true (m + 1) (fun j => if j = m then p i - 65 else c j) (fun j => if j = m then 0 else k j) (by omega) (fun h => ⟨by omega, by simp⟩) (fun j hj => by
            by_cases e : j = m
            · subst e; exact Or.inr ⟨Or.inl (by simp), z, hz, by simp [y1]⟩
            · simpa [e] using hr j (by omega))
          exact ⟨by omega, this.2⟩
/-- what the class's pattern may change -/
def FrT (s t : Sto) : Prop := ∀ k, (k < 34 ∨ 36 < k) → t.1 k = s.1 k
theorem FrT.rf {s : Sto} : FrT s s := fun _ _ => rfl
theorem FrT.tr {s t u : Sto} (h : FrT s t) (g : FrT t u) : FrT s u := fun k a => (g k a).trans (h k a)
theorem FrT.st {s : Sto} {k j : Nat} {v : Int32} (h : 34 ≤ k ∧ k ≤ 36) : FrT s (stI s k j v) := fun q a => stI_ne (by omega)
theorem FrT.e {s t : Sto} (h : FrT s t) : FrE s t := fun k a => h k (by omega)
theorem e_add6 {m : Nat} {c k : Int32} {s : Sto} (hm : m < 60) (h : s.1 34 2 = nI m) : f6_add 34 c k s = some (stI (stI (stI s 35 m c) 36 m k) 34 2 (nI (m + 1))) := by
  unfold f6_add
  rw [if_pos kd_34, h, e_put (k := 34 + 1) (i := m) kd_35 (by rw [show ln (34 + 1) = 60 from rfl]; exact hm), bd1_some, stI_ne (by omega), h, e_put (k := 34 + 2) (i := m) kd_36 (by rw [show ln (34 + 2) = 60 from rfl]; exact hm), bd1_some]
  simp only [nm_eq]
  rw [stI_ne (by omega), stI_ne (by omega), h, nI_1]
theorem pat_read {p : Nat → Int32} {n : Nat} (hn : n ≤ 60) : ∀ (d i : Nat) (tw : Bool) (m : Nat) (c k : Nat → Int32) (fuel : Nat) (s : Sto), i + d = n → m ≤ i → (tw = true → 1 ≤ m) → s.1 25 1 = nI n → (∀ j, j < 60 → s.1 26 j = p j) → s.1 34 2 = nI m → (∀ j, j < m → s.1 35 j = c j ∧ s.1 36 j = k j) → d < fuel →
    ∃ t, L6_read_9 34 25 fuel (bI tw) (nI i) s = some ((qp p d i tw m c k).1, t) ∧ t.1 34 2 = nI (qp p d i tw m c k).2.1 ∧ (∀ j, j < (qp p d i tw m c k).2.1 → t.1 35 j = (qp p d i tw m c k).2.2.1 j ∧ t.1 36 j = (qp p d i tw m c k).2.2.2 j) ∧ FrT s t := by
  intro d
  induction d with
  | zero =>
    intro i tw m c k fuel s hi hm ht hP hp hM hR hF
    obtain ⟨q, rfl⟩ : ∃ q, fuel = q + 1 := ⟨fuel - 1, by omega⟩
    have : i = n := by omega
    subst this
    refine ⟨s, ?_, by simpa [qp] using hM, by simpa [qp] using hR, FrT.rf⟩
    unfold L6_read_9
    rw [hP, if_pos (Int32.le_refl _)]
    rfl
  | succ d ih =>
    intro i tw m c k fuel s hi hm ht hP hp hM hR hF
    obtain ⟨q, rfl⟩ : ∃ q, fuel = q + 1 := ⟨fuel - 1, by omega⟩
    have hi60 : i < 60 := by omega
    have e0 : ¬ nI n ≤ nI i := nI_ge (by omega) (by omega)
    have eat : f8_at (25 + 1) (nI i) s = some (p i, s) := by rw [e_atN (k := 25 + 1) (i := i) kd_26 (by rw [show ln (25 + 1) = 60 from rfl]; exact hi60), hp i hi60]
    have push : ∀ (tw' : Bool) (x y : Int32), ∃ t, L6_read_9 34 25 q (bI tw') (nI (i + 1)) (stI (stI (stI s 35 m x) 36 m y) 34 2 (nI (m + 1))) = some ((qp p d (i + 1) tw' (m + 1) (fun j => if j = m then x else c j) (fun j => if j = m then y else k j)).1, t) ∧ t.1 34 2 = nI (qp p d (i + 1) tw' (m + 1) (fun j => if j = m then x else c j) (fun j => if j = m then y else k j)).2.1 ∧ (∀ j, j < (qp p d (i + 1) tw' (m + 1) (fun j => if j = m then x else c j) (fun j => if j = m then y else k j)).2.1 → t.1 35 j = (qp p d (i + 1) tw' (m + 1) (fun j => if j = m then x else c j) (fun j => if j = m then y else k j)).2.2.1 j ∧ t.1 36 j = (qp p d (i + 1) tw' (m + 1) (fun j => if j = m then x else c j) (fun j => if j = m then y else k j)).2.2.2 j) ∧ FrT s t := by
      intro tw' x y
      obtain ⟨t, t1, t2, t3, t4⟩ := ih (i + 1) tw' (m + 1) (fun j => if j = m then x else c j) (fun j => if j = m then y else k j) q (stI (stI (stI s 35 m x) 36 m y) 34 2 (nI (m + 1))) (by omega) (by omega) (fun _ => by omega) (by simpa [stI_get] using hP) (fun j hj => by simpa [stI_get] using hp j hj) (by simp [stI_get]) (fun j hj => by
        by_cases e : j = m
        · subst e; simp [stI_get]
        · have := hR j (by omega); simp [stI_get, e, this.1, this.2]) (by omega)
      exact ⟨t, t1, t2, t3, (((FrT.st (by omega)).tr (FrT.st (by omega))).tr (FrT.st (by omega))).tr t4⟩
    have eadd : ∀ x y, f6_add 34 x y s = some (stI (stI (stI s 35 m x) 36 m y) 34 2 (nI (m + 1))) := fun x y => e_add6 (by omega) hM
    unfold L6_read_9
    rw [hP, if_neg e0, eat, bd2_some]
    unfold qp
    by_cases h1 : p i = 42
    · rw [if_pos h1]
      have n109 : ¬ p i = 109 := by rw [h1]; decide
      have g0 : gx (p i - 65) = 0 := by rw [h1]; decide
      cases tw with
      | false =>
        refine ⟨s, ?_, by simpa [eq_true h1, n109, g0] using hM, by simpa [eq_true h1, n109, g0] using hR, FrT.rf⟩
        rw [if_pos (show bI false = 0 from rfl), if_neg n109, e_isGuestG, bd2_some, if_pos g0]
        simp [n109, g0]
      | true =>
        have hm1 := ht rfl
        obtain ⟨t, t1, t2, t3, t4⟩ := ih (i + 1) false m c (fun j => if j = m - 1 then 1 else k j) q (stI s 36 (m - 1) 1) (by omega) (by omega) (fun h => by cases h) (by simpa [stI_get] using hP) (fun j hj => by simpa [stI_get] using hp j hj) (by simpa [stI_get] using hM) (fun j hj => by
          have := hR j hj
          by_cases e : j = m - 1
          · subst e; simp [stI_get, this.1]
          · simp [stI_get, e, this.1, this.2]) (by omega)
        refine ⟨t, ?_, by simpa [eq_true h1] using t2, by simpa [eq_true h1] using t3, (FrT.st (by omega)).tr t4⟩
        rw [if_neg (show ¬ bI true = 0 by decide), hM, show nI m - 1 = nI (m - 1) by rw [show m = (m - 1) + 1 by omega, nI_pred, Nat.add_sub_cancel], e_put (k := 34 + 2) (i := m - 1) kd_36 (by rw [show ln (34 + 2) = 60 from rfl]; omega), bd1_some, nI_1]
        rw [show bI false = 0 from rfl] at t1
        simpa [eq_true h1] using t1
    · rw [if_neg h1, if_neg (show ¬ (p i = 42 ∧ tw = true) from fun h => h1 h.1)]
      by_cases h2 : p i = 109
      · rw [if_pos h2, eadd, bd1_some, nI_1]
        obtain ⟨t, t1, t2⟩ := push false 6 2
        rw [show bI false = 0 from rfl] at t1
        exact ⟨t, by simpa [h1, eq_true h2] using t1, by simpa [h1, eq_true h2] using t2⟩
      · rw [if_neg h2, e_isGuestG, bd2_some]
        by_cases h3 : gx (p i - 65) = 0
        · rw [if_pos h3]
          exact ⟨s, by simp [h1, h2, h3], by simpa [h1, h2, h3] using hM, by simpa [h1, h2, h3] using hR, FrT.rf⟩
        · rw [if_neg h3, eadd, bd1_some, nI_1]
          obtain ⟨t, t1, t2⟩ := push true (p i - 65) 0
          rw [show bI true = 1 from rfl] at t1
          exact ⟨t, by simpa [h1, h2, h3] using t1, by simpa [h1, h2, h3] using t2⟩
/-- what the check's pattern reader may change -/
def FrQ (s t : Sto) : Prop := (∀ k, k ≠ 43 → k ≠ 55 → k ≠ 56 → t.1 k = s.1 k) ∧ ∀ j, j ≠ 20 → t.1 43 j = s.1 43 j
theorem FrQ.rf {s : Sto} : FrQ s s := ⟨fun _ _ _ _ => rfl, fun _ _ => rfl⟩
theorem FrQ.tr {s t u : Sto} (h : FrQ s t) (g : FrQ t u) : FrQ s u := ⟨fun k a b c => (g.1 k a b c).trans (h.1 k a b c), fun j a => (g.2 j a).trans (h.2 j a)⟩
theorem FrQ.st {s : Sto} {k j : Nat} {v : Int32} (h : (k = 43 ∧ j = 20) ∨ k = 55 ∨ k = 56) : FrQ s (stI s k j v) := ⟨fun q a b c => stI_ne (by omega), fun i a => by rw [stI_get, if_neg (by omega)]⟩
theorem FrQ.same {s t : Sto} (h : FrQ s t) : Same s t := ⟨fun k h1 _ => h.1 k (by omega) (by omega) (by omega), ⟨by rw [h.1 3 (by omega) (by omega) (by omega)], by rw [h.1 3 (by omega) (by omega) (by omega)]⟩, ⟨h.2 0 (by omega), h.2 1 (by omega), h.2 3 (by omega), h.2 4 (by omega), h.2 10 (by omega), h.2 12 (by omega)⟩, fun k h1 h2 i _ => by rw [h.1 k (by omega) (by omega) (by omega)], h.1 65 (by omega) (by omega) (by omega), h.1 66 (by omega) (by omega) (by omega)⟩
theorem pat_fault {p : Nat → Int32} {n : Nat} (hn : n ≤ 60) : ∀ (d i : Nat) (tw : Bool) (m : Nat) (c k : Nat → Int32) (fuel : Nat) (s : Sto), i + d = n → m ≤ i → (tw = true → 1 ≤ m) → s.1 43 12 = nI n → (∀ j, j < 60 → s.1 50 j = p j) → s.1 43 20 = nI m → (∀ j, j < m → s.1 55 j = c j ∧ s.1 56 j = k j) → d < fuel →
    ∃ t, L9_faultOfPattern_9 43 fuel (bI tw) (nI i) s = some ((qp p d i tw m c k).1, t) ∧ t.1 43 20 = nI (qp p d i tw m c k).2.1 ∧ (∀ j, j < (qp p d i tw m c k).2.1 → t.1 55 j = (qp p d i tw m c k).2.2.1 j ∧ t.1 56 j = (qp p d i tw m c k).2.2.2 j) ∧ FrQ s t := by
  intro d
  induction d with
  | zero =>
    intro i tw m c k fuel s hi hm ht hP hp hM hR hF
    obtain ⟨q, rfl⟩ : ∃ q, fuel = q + 1 := ⟨fuel - 1, by omega⟩
    have : i = n := by omega
    subst this
    refine ⟨s, ?_, by simpa [qp] using hM, by simpa [qp] using hR, FrQ.rf⟩
    unfold L9_faultOfPattern_9
    rw [hP, if_pos (Int32.le_refl _)]
    rfl
  | succ d ih =>
    intro i tw m c k fuel s hi hm ht hP hp hM hR hF
    obtain ⟨q, rfl⟩ : ∃ q, fuel = q + 1 := ⟨fuel - 1, by omega⟩
    have hi60 : i < 60 := by omega
    have e0 : ¬ nI n ≤ nI i := nI_ge (by omega) (by omega)
    have q0 : inb (nI i) (ln (43 + 7)) := inb_nI (n := i) (m := 60) hi60 (by omega)
    have qi : (nI i).toNatClampNeg = i := nI_clamp (by omega)
    have qmc : (nI m).toNatClampNeg = m := nI_clamp (by omega)
    have qa : (0 : Int) ≤ (nI m).toInt := (inb_nI (n := m) (m := 60) (by omega) (by omega)).1
    have qb : (nI m).toInt < 60 := (inb_nI (n := m) (m := 60) (by omega) (by omega)).2
    have pe : s.1 (43 + 7) i = p i := hp i hi60
    have push : ∀ (tw' : Bool) (x y : Int32), ∃ t, L9_faultOfPattern_9 43 q (bI tw') (nI i + 1) (stI (stI (stI s 55 m x) 56 m y) 43 20 (nI m + 1)) = some ((qp p d (i + 1) tw' (m + 1) (fun j => if j = m then x else c j) (fun j => if j = m then y else k j)).1, t) ∧ t.1 43 20 = nI (qp p d (i + 1) tw' (m + 1) (fun j => if j = m then x else c j) (fun j => if j = m then y else k j)).2.1 ∧ (∀ j, j < (qp p d (i + 1) tw' (m + 1) (fun j => if j = m then x else c j) (fun j => if j = m then y else k j)).2.1 → t.1 55 j = (qp p d (i + 1) tw' (m + 1) (fun j => if j = m then x else c j) (fun j => if j = m then y else k j)).2.2.1 j ∧ t.1 56 j = (qp p d (i + 1) tw' (m + 1) (fun j => if j = m then x else c j) (fun j => if j = m then y else k j)).2.2.2 j) ∧ FrQ s t := by
      intro tw' x y
      rw [nI_1, nI_1]
      obtain ⟨t, t1, t2, t3, t4⟩ := ih (i + 1) tw' (m + 1) (fun j => if j = m then x else c j) (fun j => if j = m then y else k j) q (stI (stI (stI s 55 m x) 56 m y) 43 20 (nI (m + 1))) (by omega) (by omega) (fun _ => by omega) (by simpa [stI_get] using hP) (fun j hj => by simpa [stI_get] using hp j hj) (by simp [stI_get]) (fun j hj => by
        by_cases e : j = m
        · subst e; simp [stI_get]
        · have := hR j (by omega); simp [stI_get, e, this.1, this.2]) (by omega)
      exact ⟨t, t1, t2, t3, (((FrQ.st (by omega)).tr (FrQ.st (by omega))).tr (FrQ.st (by omega))).tr t4⟩
    unfold L9_faultOfPattern_9
    rw [hP, if_neg e0, if_pos q0, qi, pe, e9_isGuestG, bd2_some]
    unfold qp
    by_cases h1 : p i = 42
    · have n109 : ¬ p i = 109 := by rw [h1]; decide
      have g0 : gx (p i - 65) = 0 := by rw [h1]; decide
      cases tw with
      | false =>
        refine ⟨s, ?_, by simpa [eq_true h1, n109, g0] using hM, by simpa [eq_true h1, n109, g0] using hR, FrQ.rf⟩
        simp [eq_true h1, n109, g0, show bI false = 0 from rfl, bd1_some]
      | true =>
        have hm1 := ht rfl
        have em : nI m - 1 = nI (m - 1) := by rw [show m = (m - 1) + 1 by omega, nI_pred, Nat.add_sub_cancel]
        have qmc' : (nI (m - 1)).toNatClampNeg = m - 1 := nI_clamp (by omega)
        have qa' : (0 : Int) ≤ (nI (m - 1)).toInt := (inb_nI (n := m - 1) (m := 60) (by omega) (by omega)).1
        have qb' : (nI (m - 1)).toInt < 60 := (inb_nI (n := m - 1) (m := 60) (by omega) (by omega)).2
        obtain ⟨t, t1, t2, t3, t4⟩ := ih (i + 1) false m c (fun j => if j = m - 1 then 1 else k j) q (stI s 56 (m - 1) 1) (by omega) (by omega) (fun h => by cases h) (by simpa [stI_get] using hP) (fun j hj => by simpa [stI_get] using hp j hj) (by simpa [stI_get] using hM) (fun j hj => by
          have := hR j hj
          by_cases e : j = m - 1
          · subst e; simp [stI_get, this.1]
          · simp [stI_get, e, this.1, this.2]) (by omega)
        refine ⟨t, ?_, by simpa [eq_true h1] using t2, by simpa [eq_true h1] using t3, (FrQ.st (by omega)).tr t4⟩
        rw [show bI false = 0 from rfl, ← nI_1] at t1
        simp [eq_true h1, g0, show bI true = 1 from rfl, bd1_some, hM, em, inb, ln_55, ln_56, qa', qb', qmc', nm_eq, t1]
    · rw [if_neg (show ¬ (p i = 42 ∧ tw = true) from fun h => h1 h.1)]
      by_cases h2 : p i = 109
      · have g0 : gx (p i - 65) = 0 := by rw [h2]; decide
        obtain ⟨t, t1, t2⟩ := push false 6 2
        rw [show bI false = 0 from rfl] at t1
        refine ⟨t, ?_, by simpa [h1, eq_true h2] using t2⟩
        simp [eq_true h2, h1, g0, bd1_some, hM, inb, ln_55, ln_56, qa, qb, qmc, nm_eq, stI_get, t1]
      · by_cases h3 : gx (p i - 65) = 0
        · refine ⟨s, ?_, by simpa [h1, h2, h3] using hM, by simpa [h1, h2, h3] using hR, FrQ.rf⟩
          simp [h1, h2, h3, bd1_some]
        · obtain ⟨t, t1, t2⟩ := push true (p i - 65) 0
          have g1 : gx (p i - 65) = 1 := by
            have hz := h3
            unfold gx at hz ⊢
            by_cases y1 : p i - 65 < 0
            · rw [if_pos y1] at hz; exact absurd rfl hz
            · rw [if_neg y1] at hz ⊢
              by_cases y2 : 5 < p i - 65
              · rw [if_pos y2] at hz; exact absurd rfl hz
              · rw [if_neg y2]
          rw [show bI true = 1 from rfl] at t1
          refine ⟨t, ?_, by simpa [h1, h2, h3] using t2⟩
          simp [h1, h2, g1, bd1_some, hM, inb, ln_55, ln_56, qa, qb, qmc, nm_eq, stI_get, t1]
def qpO (p : Nat → Int32) (n : Nat) : Int32 × Nat × (Nat → Int32) × (Nat → Int32) := qp p n 0 false 0 (fun _ => 0) (fun _ => 0)
theorem qpO_ok {p : Nat → Int32} {n : Nat} (hn : n ≤ 60) : (qpO p n).2.1 ≤ 60 ∧ ∀ j, j < (qpO p n).2.1 → RowOk ((qpO p n).2.2.1 j) ((qpO p n).2.2.2 j) := by
  have := qp_ok (p := p) n 0 false 0 (fun _ => 0) (fun _ => 0) (by omega) (fun h => by cases h) (fun j hj => by omega)
  exact ⟨by unfold qpO; omega, this.2⟩
theorem e_readP {p : Nat → Int32} {n : Nat} {s : Sto} (hn : n ≤ 60) (h1 : s.1 25 1 = nI n) (h2 : ∀ k, k < 60 → s.1 26 k = p k) : ∃ t, f6_read 34 25 s = some ((qpO p n).1, t) ∧ t.1 34 2 = nI (qpO p n).2.1 ∧ (∀ j, j < (qpO p n).2.1 → t.1 35 j = (qpO p n).2.2.1 j ∧ t.1 36 j = (qpO p n).2.2.2 j) ∧ FrT s t := by
  obtain ⟨t, t1, t2, t3, t4⟩ := pat_read (p := p) (n := n) hn n 0 false 0 (fun _ => 0) (fun _ => 0) FU (stI s 34 2 0) (by omega) (by omega) (fun h => by cases h) (by simpa [stI_get] using h1) (fun k hk => by simpa [stI_get] using h2 k hk) (by simp [stI_get, nI_0]) (fun k hk => by omega) (by unfold FU; omega)
  refine ⟨t, ?_, t2, t3, (FrT.st (by omega)).tr t4⟩
  unfold f6_read
  rw [if_pos ⟨kd_34, kd_25⟩, nm_eq]
  exact t1
theorem e_faultP {p : Nat → Int32} {n : Nat} {s : Sto} (hn : n ≤ 60) (h1 : s.1 43 12 = nI n) (h2 : ∀ k, k < 60 → s.1 50 k = p k) : ∃ t, f9_faultOfPattern 43 s = some ((qpO p n).1, t) ∧ t.1 43 20 = nI (qpO p n).2.1 ∧ (∀ j, j < (qpO p n).2.1 → t.1 55 j = (qpO p n).2.2.1 j ∧ t.1 56 j = (qpO p n).2.2.2 j) ∧ FrQ s t := by
  obtain ⟨t, t1, t2, t3, t4⟩ := pat_fault (p := p) (n := n) hn n 0 false 0 (fun _ => 0) (fun _ => 0) FU (stI s 43 20 0) (by omega) (by omega) (fun h => by cases h) (by simpa [stI_get] using h1) (fun k hk => by simpa [stI_get] using h2 k hk) (by simp [stI_get, nI_0]) (fun k hk => by omega) (by unfold FU; omega)
  refine ⟨t, ?_, t2, t3, (FrQ.st (by omega)).tr t4⟩
  unfold f9_faultOfPattern
  rw [if_pos kd_43, nm_eq]
  exact t1
theorem op_fault {s : Sto} (h : RR s) (a : Int32) : ∃ r s1 s2, f8_fault 0 a s = some (r, s1) ∧ f9_fault 43 a s1 = some (r, s2) ∧ RR s2 := by
  obtain ⟨⟨D, hD, hC, hM⟩, hp, h0, h1⟩ := id h
  obtain ⟨⟨a0, a1, a2, a3, a4⟩, b0, b1, b2, b3, b4, b5⟩ := hC.lit
  obtain ⟨⟨m0, m1, m2, m3, m4⟩, n0, n1, n2, n3, n4, n5⟩ := id hM
  obtain ⟨⟨n, hn1, hn2, en⟩, -⟩ := id hD
  obtain ⟨⟨c, hc, p1, p2⟩, p3⟩ := id hp
  by_cases ha : a = 0
  · subst ha
    obtain ⟨t, t1, t2, t3, t4, t5⟩ := e_readE (p := s.1 26) (n := c) (nf := n) hn1 hn2 hc p1 (fun _ _ => rfl)
    have fe : FrE s t := fun k hk => t4 k (by omega) (by omega)
    obtain ⟨u, u1, u2, u3, u4⟩ := e_faultE (s := t) (p := s.1 26) (n := c) (nf := n) hn1 hn2 hc (by rw [fe 43 (by omega)]; exact p2) (fun k hk => by rw [fe 50 (by omega)]; exact (p3 k hk).symm) (by rw [fe 43 (by omega), m0]; exact en)
    refine ⟨(psO (s.1 26) c n).1, t, u, ?_, ?_, (h.same fe.same).same u4.same⟩
    · simp [f8_fault, e_isWithin, bd2_some, kd_0, a0, en, t1, show ¬ (0 : Int32) < 0 by decide, show ¬ (1 : Int32) < 0 by decide]
    · simp [f9_fault, kd_43, bd2_some, u1]
  · by_cases hb : a = 1
    · subst hb
      obtain ⟨t, t1, t2, t3, t4⟩ := e_readP (p := s.1 26) (n := c) (s := s) hc p1 (fun _ _ => rfl)
      obtain ⟨u, u1, u2, u3, u4⟩ := e_faultP (s := t) (p := s.1 26) (n := c) hc (by rw [t4 43 (by omega)]; exact p2) (fun k hk => by rw [t4 50 (by omega)]; exact (p3 k hk).symm)
      refine ⟨(qpO (s.1 26) c).1, t, u, ?_, ?_, (h.same t4.e.same).same u4.same⟩
      · simp [f8_fault, e_isWithin, bd2_some, kd_0, t1, show ¬ (1 : Int32) < 0 by decide]
      · simp [f9_fault, kd_43, bd2_some, u1]
    · have hr : (if a < 0 then (0 : Int32) else if 1 < a then 0 else 1) = 0 := by
        rcases rng (v := a) (a := 0) (b := 1) with hr | ⟨hr, g1, g2⟩
        · exact hr
        · obtain ⟨k, hk, rfl⟩ := nI_of2 (n := 1) (by decide) g1 g2
          rcases (show k = 0 ∨ k = 1 by omega) with rfl | rfl
          · exact absurd rfl ha
          · exact absurd rfl hb
      exact ⟨-2, s, s, by simp [f8_fault, e_isWithin, bd2_some, kd_0, hr], by simp [f9_fault, kd_43, ha, hb], h⟩
