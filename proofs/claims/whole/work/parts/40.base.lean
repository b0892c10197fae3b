theorem kd_0 : kd 0 = 8 := rfl
theorem kd_1 : kd 1 = 0 := rfl
theorem kd_2 : kd 2 = 10 := rfl
theorem kd_3 : kd 3 = 2 := rfl
theorem kd_4 : kd 4 = 10 := rfl
theorem kd_5 : kd 5 = 10 := rfl
theorem kd_6 : kd 6 = 10 := rfl
theorem kd_7 : kd 7 = 10 := rfl
theorem kd_8 : kd 8 = 10 := rfl
theorem kd_9 : kd 9 = 0 := rfl
theorem kd_10 : kd 10 = 10 := rfl
theorem kd_11 : kd 11 = 2 := rfl
theorem kd_12 : kd 12 = 10 := rfl
theorem kd_13 : kd 13 = 10 := rfl
theorem kd_14 : kd 14 = 10 := rfl
theorem kd_15 : kd 15 = 10 := rfl
theorem kd_16 : kd 16 = 10 := rfl
theorem kd_17 : kd 17 = 0 := rfl
theorem kd_18 : kd 18 = 10 := rfl
theorem kd_19 : kd 19 = 2 := rfl
theorem kd_20 : kd 20 = 10 := rfl
theorem kd_21 : kd 21 = 10 := rfl
theorem kd_22 : kd 22 = 10 := rfl
theorem kd_23 : kd 23 = 10 := rfl
theorem kd_24 : kd 24 = 10 := rfl
theorem kd_25 : kd 25 = 5 := rfl
theorem kd_26 : kd 26 = 10 := rfl
theorem kd_27 : kd 27 = 1 := rfl
theorem kd_28 : kd 28 = 10 := rfl
theorem kd_29 : kd 29 = 10 := rfl
theorem kd_30 : kd 30 = 2 := rfl
theorem kd_31 : kd 31 = 10 := rfl
theorem kd_32 : kd 32 = 10 := rfl
theorem kd_33 : kd 33 = 10 := rfl
theorem kd_34 : kd 34 = 6 := rfl
theorem kd_35 : kd 35 = 10 := rfl
theorem kd_36 : kd 36 = 10 := rfl
theorem kd_37 : kd 37 = 7 := rfl
theorem kd_38 : kd 38 = 10 := rfl
theorem kd_39 : kd 39 = 4 := rfl
theorem kd_40 : kd 40 = 11 := rfl
theorem kd_41 : kd 41 = 3 := rfl
theorem kd_42 : kd 42 = 11 := rfl
theorem kd_43 : kd 43 = 9 := rfl
theorem kd_44 : kd 44 = 10 := rfl
theorem kd_45 : kd 45 = 10 := rfl
theorem kd_46 : kd 46 = 10 := rfl
theorem kd_47 : kd 47 = 10 := rfl
theorem kd_48 : kd 48 = 10 := rfl
theorem kd_49 : kd 49 = 10 := rfl
theorem kd_50 : kd 50 = 10 := rfl
theorem kd_51 : kd 51 = 10 := rfl
theorem kd_52 : kd 52 = 10 := rfl
theorem kd_53 : kd 53 = 10 := rfl
theorem kd_54 : kd 54 = 10 := rfl
theorem kd_55 : kd 55 = 10 := rfl
theorem kd_56 : kd 56 = 10 := rfl
theorem kd_57 : kd 57 = 10 := rfl
theorem kd_58 : kd 58 = 10 := rfl
theorem kd_59 : kd 59 = 10 := rfl
theorem kd_60 : kd 60 = 10 := rfl
theorem kd_61 : kd 61 = 10 := rfl
theorem kd_62 : kd 62 = 11 := rfl
theorem kd_63 : kd 63 = 11 := rfl
theorem kd_64 : kd 64 = 11 := rfl
theorem kd_65 : kd 65 = 10 := rfl
theorem kd_66 : kd 66 = 12 := rfl
theorem ln_2 : ln 2 = 6 := rfl
theorem ln_4 : ln 4 = 30 := rfl
theorem ln_5 : ln 5 = 30 := rfl
theorem ln_6 : ln 6 = 30 := rfl
theorem ln_7 : ln 7 = 8 := rfl
theorem ln_8 : ln 8 = 8 := rfl
theorem ln_10 : ln 10 = 6 := rfl
theorem ln_12 : ln 12 = 30 := rfl
theorem ln_13 : ln 13 = 30 := rfl
theorem ln_14 : ln 14 = 30 := rfl
theorem ln_15 : ln 15 = 8 := rfl
theorem ln_16 : ln 16 = 8 := rfl
theorem ln_18 : ln 18 = 6 := rfl
theorem ln_20 : ln 20 = 30 := rfl
theorem ln_21 : ln 21 = 30 := rfl
theorem ln_22 : ln 22 = 30 := rfl
theorem ln_23 : ln 23 = 8 := rfl
theorem ln_24 : ln 24 = 8 := rfl
theorem ln_26 : ln 26 = 60 := rfl
theorem ln_28 : ln 28 = 60 := rfl
theorem ln_29 : ln 29 = 61 := rfl
theorem ln_31 : ln 31 = 30 := rfl
theorem ln_32 : ln 32 = 30 := rfl
theorem ln_33 : ln 33 = 30 := rfl
theorem ln_35 : ln 35 = 60 := rfl
theorem ln_36 : ln 36 = 60 := rfl
theorem ln_38 : ln 38 = 8 := rfl
theorem ln_40 : ln 40 = 559 := rfl
theorem ln_42 : ln 42 = 83 := rfl
theorem ln_44 : ln 44 = 6 := rfl
theorem ln_45 : ln 45 = 30 := rfl
theorem ln_46 : ln 46 = 30 := rfl
theorem ln_47 : ln 47 = 30 := rfl
theorem ln_48 : ln 48 = 8 := rfl
theorem ln_49 : ln 49 = 8 := rfl
theorem ln_50 : ln 50 = 60 := rfl
theorem ln_51 : ln 51 = 60 := rfl
theorem ln_52 : ln 52 = 60 := rfl
theorem ln_53 : ln 53 = 60 := rfl
theorem ln_54 : ln 54 = 60 := rfl
theorem ln_55 : ln 55 = 60 := rfl
theorem ln_56 : ln 56 = 60 := rfl
theorem ln_57 : ln 57 = 30 := rfl
theorem ln_58 : ln 58 = 92 := rfl
theorem ln_59 : ln 59 = 90 := rfl
theorem ln_60 : ln 60 = 31 := rfl
theorem ln_61 : ln 61 = 8 := rfl
theorem ln_62 : ln 62 = 96 := rfl
theorem ln_63 : ln 63 = 96 := rfl
theorem ln_64 : ln 64 = 1248 := rfl
theorem ln_65 : ln 65 = 260 := rfl
theorem ln_66 : ln 66 = 2 := rfl
theorem stI_get {s : Sto} {k j a b : Nat} {v : Int32} : (stI s k j v).1 a b = if a = k ∧ b = j then v else s.1 a b := by
  unfold stI
  by_cases h : a = k
  · subst h; by_cases h2 : b = j <;> simp [h2]
  · simp [h]
theorem stL_get {s : Sto} {k j a b : Nat} {v : Int64} : (stL s k j v).2 a b = if a = k ∧ b = j then v else s.2 a b := by
  unfold stL
  by_cases h : a = k
  · subst h; by_cases h2 : b = j <;> simp [h2]
  · simp [h]
theorem stI_two {s : Sto} {k j : Nat} {v : Int32} : (stI s k j v).2 = s.2 := rfl
theorem stL_one {s : Sto} {k j : Nat} {v : Int64} : (stL s k j v).1 = s.1 := rfl
theorem stC_get {s : Sto} {a b n q j : Nat} : (stC s a b n).1 q j = if q = b then (if j < n then s.1 a j else s.1 b j) else s.1 q j := by
  unfold stC
  by_cases h : q = b
  · subst h
    simp only [if_true]
    unfold va_cpy
    by_cases h2 : j < n
    · simp [h2]
    · simp [h2]
  · simp [h]
theorem stC_two {s : Sto} {a b n : Nat} : (stC s a b n).2 = s.2 := rfl
theorem bd1_some {α β : Type} {a : α} {f : α → Option β} : Option.bind (some a) f = f a := rfl
theorem nm_eq {α β : Type} {x : α} {f : α → β} : nm x f = f x := rfl
theorem nI_int {n : Nat} (h : n < 2 ^ 31) : (nI n).toInt = (n : Int) := nI_toInt h
theorem inb_nI {n m : Nat} (h : n < m) (hm : m < 2 ^ 31) : inb (nI n) m := by
  unfold inb
  rw [nI_toInt (by omega)]
  omega
theorem inb_lt {x : Int32} {m : Nat} (h : inb x m) (hm : m < 2 ^ 31) : x.toNatClampNeg < m ∧ x = nI x.toNatClampNeg := by
  obtain ⟨h1, h2⟩ := h
  have e : x.toNatClampNeg = x.toInt.toNat := rfl
  refine ⟨by omega, ?_⟩
  have h3 : x.toInt = ((x.toNatClampNeg : Nat) : Int) := by omega
  apply Int32.toInt_inj.mp
  rw [nI_toInt (by omega), h3]
theorem nI_cl {n : Nat} (h : n < 2 ^ 31) : (nI n).toNatClampNeg = n := nI_clamp h
/-- an Int32 is below 0, or from n on, or a number below n -/
theorem i3 (x : Int32) (n : Nat) (hn : n < 2 ^ 31) : x < 0 ∨ nI n ≤ x ∨ ∃ k, k < n ∧ x = nI k := pk_ix x hn
theorem e_isWithin {v a b : Int32} {s : Sto} : f8_isWithin v a b s = some (if v < a then 0 else if b < v then 0 else 1, s) := by
  unfold f8_isWithin
  by_cases h1 : v < a
  · rw [if_pos h1, if_pos h1]
  · rw [if_neg h1, if_neg h1]
    by_cases h2 : b < v
    · rw [if_pos h2, if_pos h2]
    · rw [if_neg h2, if_neg h2]
theorem e_at {k : Nat} {i : Int32} {s : Sto} (hk : kd k = 10) : f8_at k i s = some (if i < 0 then -6 else if nI (ln k) ≤ i then -6 else s.1 k i.toNatClampNeg, s) := by
  unfold f8_at
  rw [if_pos hk]
  by_cases h1 : i < 0
  · simp [h1]
  · by_cases h2 : nI (ln k) ≤ i
    · simp [h1, h2]
    · have h3 : inb i (ln k) := by
        have hl : ln k < 2 ^ 31 := by
          have : ∀ q, q < 67 → ln q < 2000 := by decide +kernel
          have := this k (kd_lt (by omega))
          omega
        rw [Int32.not_lt] at h1
        rw [Int32.not_le] at h2
        have h4 := Int32.le_iff_toInt_le.mp h1
        have h5 := Int32.lt_iff_toInt_lt.mp h2
        rw [nI_toInt hl] at h5
        exact ⟨by simpa using h4, h5⟩
      rw [if_neg h1, if_neg h2, if_pos h3, if_neg h1, if_neg h2]
theorem ln_small (k : Nat) (h : kd k ≤ 12) : ln k < 2000 := (by decide +kernel : ∀ q, q < 67 → ln q < 2000) k (kd_lt h)
/-- at, where the index is a number below the length -/
theorem e_atN {k i : Nat} {s : Sto} (hk : kd k = 10) (hi : i < ln k) : f8_at k (nI i) s = some (s.1 k i, s) := by
  have hl := ln_small k (by omega)
  rw [e_at hk, if_neg (nI_pos (by omega)), if_neg (nI_ge hi (by omega)), nI_clamp (by omega)]
theorem e_put {k i : Nat} {v : Int32} {s : Sto} (hk : kd k = 10) (hi : i < ln k) : f8_put k (nI i) v s = some (stI s k i v) := by
  have hl := ln_small k (by omega)
  unfold f8_put
  rw [if_pos hk, if_neg (nI_pos (by omega)), if_neg (nI_ge hi (by omega)), if_pos (inb_nI hi (by omega)), nI_clamp (by omega)]
  rfl
theorem e_isGuest {v : Int32} {s : Sto} : f8_isGuest v s = some (if v < 0 then 0 else if 5 < v then 0 else 1, s) := by
  unfold f8_isGuest
  rw [e_isWithin, bd2_some]
  split
  · simp
  · split <;> simp
theorem e_temper {o g : Nat} {s : Sto} (ho : kd o = 0) (h1 : kd (o + 1) = 10) (h2 : ln (o + 1) = 6) (hg : g < 6) : f0_temperOf o (nI g) s = some (s.1 (o + 1) g, s) := by
  unfold f0_temperOf
  rw [if_pos ho, e_atN h1 (by omega), bd2_some]
theorem lg_lt {x y : Int64} : lg_cmp x y < 0 ↔ x < y := by
  unfold lg_cmp
  by_cases h1 : x > y
  · have h2 : ¬ x < y := by
      have := Int64.lt_iff_toInt_lt.mp h1
      rw [Int64.lt_iff_toInt_lt]; omega
    simp only [h1, if_true, h2, iff_false]; decide
  · by_cases h2 : x = y
    · have h3 : ¬ x < y := by subst h2; exact h1
      simp only [h1, h2, if_true, if_false]
      subst h2
      simp only [h3, iff_false]; decide
    · have h3 : x < y := by
        rw [Int64.lt_iff_toInt_lt]
        have g1 : ¬ y.toInt < x.toInt := fun h => h1 (Int64.lt_iff_toInt_lt.mpr h)
        have g2 : ¬ x.toInt = y.toInt := fun h => h2 (Int64.toInt_inj.mp h)
        omega
      simp only [h1, h2, if_false, h3, iff_true]; decide
theorem lg_gt {x y : Int64} : 0 < lg_cmp x y ↔ y < x := by
  unfold lg_cmp
  by_cases h1 : x > y
  · simp only [h1, if_true, iff_true]; decide
  · by_cases h2 : x = y
    · simp only [h1, h2, if_true, if_false]
      have : ¬ y < x := h1
      subst h2
      simp only [this, iff_false]; decide
    · have : ¬ y < x := h1
      simp only [h1, h2, if_false, this, iff_false]; decide
theorem lg_eq {x y : Int64} : lg_cmp x y = 0 ↔ x = y := by
  unfold lg_cmp
  by_cases h1 : x > y
  · have : ¬ x = y := by
      intro h; subst h
      have := Int64.lt_iff_toInt_lt.mp h1
      omega
    simp only [h1, if_true, this, iff_false]; decide
  · by_cases h2 : x = y
    · rw [if_neg h1, if_pos h2]; exact ⟨fun _ => h2, fun _ => rfl⟩
    · simp only [h1, h2, if_false, iff_false]; decide
theorem e9_in {v a b : Int64} {s : Sto} : f9_in v a b s = some (if v < a then 0 else if b < v then 0 else 1, s) := by
  unfold f9_in
  simp only [lg_lt, lg_gt]
  by_cases h1 : v < a
  · rw [if_pos h1, if_pos h1]
  · rw [if_neg h1, if_neg h1]
    by_cases h2 : b < v
    · rw [if_pos h2, if_pos h2]
    · rw [if_neg h2, if_neg h2]
theorem i2l_lt {x y : Int32} : x.toInt64 < y.toInt64 ↔ x < y := by
  rw [Int64.lt_iff_toInt_lt, Int32.lt_iff_toInt_lt, Int32.toInt_toInt64, Int32.toInt_toInt64]
theorem e9_inI {v a b : Int32} {s : Sto} : f9_in v.toInt64 a.toInt64 b.toInt64 s = some (if v < a then 0 else if b < v then 0 else 1, s) := by
  rw [e9_in]; simp only [i2l_lt]
theorem e9_in_0_5 {v : Int32} {s : Sto} : f9_in v.toInt64 (0 : Int64) (5 : Int64) s = some (if v < (0) then 0 else if (5) < v then 0 else 1, s) := e9_inI (a := 0) (b := 5)
theorem e9_in_1_8 {v : Int32} {s : Sto} : f9_in v.toInt64 (1 : Int64) (8 : Int64) s = some (if v < (1) then 0 else if (8) < v then 0 else 1, s) := e9_inI (a := 1) (b := 8)
theorem e9_in_0_2 {v : Int32} {s : Sto} : f9_in v.toInt64 (0 : Int64) (2 : Int64) s = some (if v < (0) then 0 else if (2) < v then 0 else 1, s) := e9_inI (a := 0) (b := 2)
theorem e9_in_0_40 {v : Int32} {s : Sto} : f9_in v.toInt64 (0 : Int64) (40 : Int64) s = some (if v < (0) then 0 else if (40) < v then 0 else 1, s) := e9_inI (a := 0) (b := 40)
theorem e9_in_33_126 {v : Int32} {s : Sto} : f9_in v.toInt64 (33 : Int64) (126 : Int64) s = some (if v < (33) then 0 else if (126) < v then 0 else 1, s) := e9_inI (a := 33) (b := 126)
theorem e9_in_0_3 {v : Int32} {s : Sto} : f9_in v.toInt64 (0 : Int64) (3 : Int64) s = some (if v < (0) then 0 else if (3) < v then 0 else 1, s) := e9_inI (a := 0) (b := 3)
theorem e9_in_0_60 {v : Int32} {s : Sto} : f9_in v.toInt64 (0 : Int64) (60 : Int64) s = some (if v < (0) then 0 else if (60) < v then 0 else 1, s) := e9_inI (a := 0) (b := 60)
theorem e9_in_0_30 {v : Int32} {s : Sto} : f9_in v.toInt64 (0 : Int64) (30 : Int64) s = some (if v < (0) then 0 else if (30) < v then 0 else 1, s) := e9_inI (a := 0) (b := 30)
theorem e9_in_0_1 {v : Int32} {s : Sto} : f9_in v.toInt64 (0 : Int64) (1 : Int64) s = some (if v < (0) then 0 else if (1) < v then 0 else 1, s) := e9_inI (a := 0) (b := 1)
theorem e9_in_0_12 {v : Int32} {s : Sto} : f9_in v.toInt64 (0 : Int64) (12 : Int64) s = some (if v < (0) then 0 else if (12) < v then 0 else 1, s) := e9_inI (a := 0) (b := 12)
theorem e9_in_0_50 {v : Int32} {s : Sto} : f9_in v.toInt64 (0 : Int64) (50 : Int64) s = some (if v < (0) then 0 else if (50) < v then 0 else 1, s) := e9_inI (a := 0) (b := 50)
theorem e9_in_0_10 {v : Int32} {s : Sto} : f9_in v.toInt64 (0 : Int64) (10 : Int64) s = some (if v < (0) then 0 else if (10) < v then 0 else 1, s) := e9_inI (a := 0) (b := 10)
theorem e9_in_m1_50 {v : Int32} {s : Sto} : f9_in v.toInt64 (-1 : Int64) (50 : Int64) s = some (if v < (-1) then 0 else if (50) < v then 0 else 1, s) := e9_inI (a := -1) (b := 50)
theorem e9_in_1_100 {v : Int32} {s : Sto} : f9_in v.toInt64 (1 : Int64) (100 : Int64) s = some (if v < (1) then 0 else if (100) < v then 0 else 1, s) := e9_inI (a := 1) (b := 100)
theorem e9_in_0_9999 {v : Int32} {s : Sto} : f9_in v.toInt64 (0 : Int64) (9999 : Int64) s = some (if v < (0) then 0 else if (9999) < v then 0 else 1, s) := e9_inI (a := 0) (b := 9999)
theorem e9_in_1_99 {v : Int32} {s : Sto} : f9_in v.toInt64 (1 : Int64) (99 : Int64) s = some (if v < (1) then 0 else if (99) < v then 0 else 1, s) := e9_inI (a := 1) (b := 99)
theorem e9_in_0_8 {v : Int32} {s : Sto} : f9_in v.toInt64 (0 : Int64) (8 : Int64) s = some (if v < (0) then 0 else if (8) < v then 0 else 1, s) := e9_inI (a := 0) (b := 8)
theorem e9_in_10_15 {v : Int32} {s : Sto} : f9_in v.toInt64 (10 : Int64) (15 : Int64) s = some (if v < (10) then 0 else if (15) < v then 0 else 1, s) := e9_inI (a := 10) (b := 15)
theorem e9_in_0x {v b : Int32} {s : Sto} : f9_in v.toInt64 (0 : Int64) b.toInt64 s = some (if v < 0 then 0 else if b < v then 0 else 1, s) := e9_inI (a := 0)
