-- what both sides hold, as numbers: scalars (0 facts, 1 so, 2 rows, 3 width, 4 sights) and rows of numbers (0 tempers, 1 colours, 2 kinds, 3 widths, 4 and 5 sights)
abbrev DD : Type := (Nat → Int32) × (Nat → Nat → Int32)
def DOk (D : DD) : Prop := (∃ n, 1 ≤ n ∧ n ≤ 8 ∧ D.1 0 = nI n) ∧ (∃ h, h ≤ 30 ∧ D.1 2 = nI h) ∧ (∃ w, w ≤ 40 ∧ D.1 3 = nI w) ∧ (∃ c, c ≤ 8 ∧ D.1 4 = nI c) ∧ (∀ g, g < 6 → D.2 0 g = 0 ∨ D.2 0 g = 1 ∨ D.2 0 g = 2) ∧ (∀ i, i < 8 → (∃ p, p ≤ 60 ∧ D.2 4 i = nI p) ∧ ∃ q, q ≤ 30 ∧ D.2 5 i = nI q)
/-- a Company of the class -/
def RelC (s : Sto) (c : Nat) (D : DD) : Prop := (s.1 c 0 = D.1 0 ∧ s.1 c 1 = D.1 1 ∧ s.1 (c + 2) 3 = D.1 2 ∧ s.1 (c + 2) 4 = D.1 3 ∧ s.1 c 4 = D.1 4) ∧ (∀ i, i < 6 → s.1 (c + 1) i = D.2 0 i) ∧ (∀ i, i < 30 → s.1 (c + 3) i = D.2 1 i) ∧ (∀ i, i < 30 → s.1 (c + 4) i = D.2 2 i) ∧ (∀ i, i < 30 → s.1 (c + 5) i = D.2 3 i) ∧ (∀ i, i < 8 → s.1 (c + 6) i = D.2 4 i) ∧ (∀ i, i < 8 → s.1 (c + 7) i = D.2 5 i)
/-- the check's own state -/
def RelM (s : Sto) (D : DD) : Prop := (s.1 43 0 = D.1 0 ∧ s.1 43 1 = D.1 1 ∧ s.1 43 3 = D.1 2 ∧ s.1 43 4 = D.1 3 ∧ s.1 43 10 = D.1 4) ∧ (∀ i, i < 6 → s.1 44 i = D.2 0 i) ∧ (∀ i, i < 30 → s.1 45 i = D.2 1 i) ∧ (∀ i, i < 30 → s.1 46 i = D.2 2 i) ∧ (∀ i, i < 30 → s.1 47 i = D.2 3 i) ∧ (∀ i, i < 8 → s.1 48 i = D.2 4 i) ∧ (∀ i, i < 8 → s.1 49 i = D.2 5 i)
/-- the check's image -/
def RelK (s : Sto) (o : Nat) (D : DD) : Prop := (s.1 65 o = D.1 0 ∧ s.1 65 (o + 1) = D.1 1 ∧ s.1 65 (o + 2) = D.1 2 ∧ s.1 65 (o + 3) = D.1 3 ∧ s.1 65 (o + 4) = D.1 4) ∧ (∀ i, i < 6 → s.1 65 (o + 5 + i) = D.2 0 i) ∧ (∀ i, i < 30 → s.1 65 (o + 11 + 3 * i) = D.2 1 i ∧ s.1 65 (o + 12 + 3 * i) = D.2 2 i ∧ s.1 65 (o + 13 + 3 * i) = D.2 3 i) ∧ (∀ i, i < 8 → s.1 65 (o + 101 + 2 * i) = D.2 4 i ∧ s.1 65 (o + 102 + 2 * i) = D.2 5 i)
def RelI (s : Sto) (k : Nat) : Prop := (s.1 (9 + 8 * k) 7 = 0 ∧ s.1 66 k = 0) ∨ (s.1 (9 + 8 * k) 7 = 1 ∧ s.1 66 k = 1 ∧ ∃ D, DOk D ∧ RelC s (9 + 8 * k) D ∧ RelK s (130 * k) D)
def RelP (s : Sto) : Prop := (∃ c, c ≤ 60 ∧ s.1 25 1 = nI c ∧ s.1 43 12 = nI c) ∧ ∀ i, i < 60 → s.1 26 i = s.1 50 i
def RR (s : Sto) : Prop := (∃ D, DOk D ∧ RelC s 1 D ∧ RelM s D) ∧ RelP s ∧ RelI s 0 ∧ RelI s 1
/-- what RR looks at is the same -/
def Same (s t : Sto) : Prop := (∀ k, k ≤ 26 → k ≠ 3 → t.1 k = s.1 k) ∧ (t.1 3 3 = s.1 3 3 ∧ t.1 3 4 = s.1 3 4) ∧ (t.1 43 0 = s.1 43 0 ∧ t.1 43 1 = s.1 43 1 ∧ t.1 43 3 = s.1 43 3 ∧ t.1 43 4 = s.1 43 4 ∧ t.1 43 10 = s.1 43 10 ∧ t.1 43 12 = s.1 43 12) ∧ (∀ k, 44 ≤ k → k ≤ 50 → ∀ i, i < (if k = 44 then 6 else if k ≤ 47 then 30 else if k ≤ 49 then 8 else 60) → t.1 k i = s.1 k i) ∧ t.1 65 = s.1 65 ∧ t.1 66 = s.1 66
theorem RR.same {s t : Sto} (h : RR s) (e : Same s t) : RR t := by
  obtain ⟨⟨D, hD, hC, hM⟩, ⟨⟨c, hc, p1, p2⟩, p3⟩, h0, h1⟩ := h
  obtain ⟨e1, ⟨e2, e3⟩, ⟨f0, f1, f2, f3, f4, f5⟩, g, k5, k6⟩ := e
  have ge : ∀ k i, 44 ≤ k → k ≤ 50 → i < (if k = 44 then 6 else if k ≤ 47 then 30 else if k ≤ 49 then 8 else 60) → t.1 k i = s.1 k i := fun k i a b c => g k a b i c
  have hRC : ∀ c D, (c = 1 ∨ c = 9 ∨ c = 17) → RelC s c D → RelC t c D := by
    intro c D hc hR
    obtain ⟨⟨a0, a1, a2, a3, a4⟩, b0, b1, b2, b3, b4, b5⟩ := hR
    rcases hc with rfl | rfl | rfl
    · exact ⟨⟨by rw [e1 1 (by omega) (by omega)]; exact a0, by rw [e1 1 (by omega) (by omega)]; exact a1, e2.trans a2, e3.trans a3, by rw [e1 1 (by omega) (by omega)]; exact a4⟩, by rw [e1 2 (by omega) (by omega)]; exact b0, by rw [e1 4 (by omega) (by omega)]; exact b1, by rw [e1 5 (by omega) (by omega)]; exact b2, by rw [e1 6 (by omega) (by omega)]; exact b3, by rw [e1 7 (by omega) (by omega)]; exact b4, by rw [e1 8 (by omega) (by omega)]; exact b5⟩
    · exact ⟨⟨by rw [e1 9 (by omega) (by omega)]; exact a0, by rw [e1 9 (by omega) (by omega)]; exact a1, by rw [e1 11 (by omega) (by omega)]; exact a2, by rw [e1 11 (by omega) (by omega)]; exact a3, by rw [e1 9 (by omega) (by omega)]; exact a4⟩, by rw [e1 10 (by omega) (by omega)]; exact b0, by rw [e1 12 (by omega) (by omega)]; exact b1, by rw [e1 13 (by omega) (by omega)]; exact b2, by rw [e1 14 (by omega) (by omega)]; exact b3, by rw [e1 15 (by omega) (by omega)]; exact b4, by rw [e1 16 (by omega) (by omega)]; exact b5⟩
    · exact ⟨⟨by rw [e1 17 (by omega) (by omega)]; exact a0, by rw [e1 17 (by omega) (by omega)]; exact a1, by rw [e1 19 (by omega) (by omega)]; exact a2, by rw [e1 19 (by omega) (by omega)]; exact a3, by rw [e1 17 (by omega) (by omega)]; exact a4⟩, by rw [e1 18 (by omega) (by omega)]; exact b0, by rw [e1 20 (by omega) (by omega)]; exact b1, by rw [e1 21 (by omega) (by omega)]; exact b2, by rw [e1 22 (by omega) (by omega)]; exact b3, by rw [e1 23 (by omega) (by omega)]; exact b4, by rw [e1 24 (by omega) (by omega)]; exact b5⟩
  have hRM : RelM s D → RelM t D := by
    rintro ⟨⟨a0, a1, a2, a3, a4⟩, b0, b1, b2, b3, b4, b5⟩
    exact ⟨⟨f0.trans a0, f1.trans a1, f2.trans a2, f3.trans a3, f4.trans a4⟩, fun i hi => by rw [ge 44 i (by omega) (by omega) (by simpa using hi)]; exact b0 i hi, fun i hi => by rw [ge 45 i (by omega) (by omega) (by simpa using hi)]; exact b1 i hi, fun i hi => by rw [ge 46 i (by omega) (by omega) (by simpa using hi)]; exact b2 i hi, fun i hi => by rw [ge 47 i (by omega) (by omega) (by simpa using hi)]; exact b3 i hi, fun i hi => by rw [ge 48 i (by omega) (by omega) (by simpa using hi)]; exact b4 i hi, fun i hi => by rw [ge 49 i (by omega) (by omega) (by simpa using hi)]; exact b5 i hi⟩
  have hRK : ∀ o D, RelK s o D → RelK t o D := by
    intro o D h
    unfold RelK at h ⊢
    rw [k5]; exact h
  have hRI : ∀ k, (k = 0 ∨ k = 1) → RelI s k → RelI t k := by
    intro k hk h
    have z : t.1 (9 + 8 * k) = s.1 (9 + 8 * k) := e1 _ (by omega) (by omega)
    rcases h with ⟨a, b⟩ | ⟨a, b, D, hD, hC, hK⟩
    · exact Or.inl ⟨by rw [z]; exact a, by rw [k6]; exact b⟩
    · exact Or.inr ⟨by rw [z]; exact a, by rw [k6]; exact b, D, hD, hRC _ D (by omega) hC, hRK _ D hK⟩
  exact ⟨⟨D, hD, hRC 1 D (Or.inl rfl) hC, hRM hM⟩, ⟨⟨c, hc, by rw [e1 25 (by omega) (by omega)]; exact p1, f5.trans p2⟩, fun i hi => by rw [e1 26 (by omega) (by omega), ge 50 i (by omega) (by omega) (by simpa using hi)]; exact p3 i hi⟩, hRI 0 (Or.inl rfl) h0, hRI 1 (Or.inr rfl) h1⟩
theorem nI_m1 {x : Int32} {h : Nat} (hh : h ≤ 1000) (hx : ¬ x < 0) : (nI h - 1 < x ↔ nI h ≤ x) := by
  cases h with
  | zero =>
    have e : nI 0 - 1 = -1 := by decide
    rw [e, nI_0]
    have h1 : (0 : Int32) ≤ x := Int32.not_lt.mp hx
    have h2 := Int32.le_iff_toInt_le.mp h1
    constructor
    · intro _; exact h1
    · intro _
      rw [Int32.lt_iff_toInt_lt]
      have : (-1 : Int32).toInt = -1 := by decide
      have : (0 : Int32).toInt = 0 := by decide
      omega
  | succ h =>
    rw [nI_pred, Int32.lt_iff_toInt_lt, Int32.le_iff_toInt_le, nI_toInt (by omega), nI_toInt (by omega)]
    omega
