theorem gcd_step (a b : Nat) : Nat.gcd a b = Nat.gcd b (a % b) := by rw [Nat.gcd_comm b, ← Nat.gcd_rec, Nat.gcd_comm]
theorem mod_half {a b : Nat} (h : 0 < a % b) (hb : 0 < b) : 2 * (b % (a % b)) < b := by
  have r := Nat.mod_lt a hb
  have r2 := Nat.mod_lt b h
  have e := Nat.div_add_mod b (a % b)
  have d : 1 ≤ b / (a % b) := (Nat.one_le_div_iff h).mpr (by omega)
  have m := Nat.mul_le_mul_left (a % b) d
  omega
theorem lN_z {b : Nat} (hb : b < 2 ^ 63) : (lg_cmp (lN b) (0 : Int64) = 0) = (b = 0) := by
  rw [lg_eq]
  exact propext (pk_lEQ (b := 0) hb (by omega))
theorem gcdC : ∀ (n a b i fuel : Nat) (s : Sto), a < 2 ^ 62 → b < 2 ^ 62 → b < 2 ^ n → i + 2 * n + 1 ≤ 200 → 2 * n + 1 < fuel → L8_greatestDivisor_9 s fuel (lN a) (lN b) (nI i) = some (lN (Nat.gcd a b)) := by
  intro n
  have one : ∀ (a b i q : Nat) (s : Sto), b < 2 ^ 62 → i < 200 → L8_greatestDivisor_9 s (q + 1) (lN a) (lN b) (nI i) = if b = 0 then some (lN a) else L8_greatestDivisor_9 s q (lN b) (lN a - lN a / lN b * lN b) (nI (i + 1)) := by
    intro a b i q s hb hi
    show (if (200 : Int32) ≤ nI i then _ else _) = _
    rw [if_neg (show ¬ (200 : Int32) ≤ nI i from nI_ge (b := 200) hi (by omega))]
    simp only [lN_z (show b < 2 ^ 63 by omega), nI_1]
    by_cases c : b = 0
    · rw [if_pos c, if_pos c]
    · rw [if_neg c, if_neg c, if_pos (show ¬ lN b = 0 from fun z => c ((pk_lEQ (b := 0) (by omega) (by omega)).mp z))]
  induction n with
  | zero =>
    intro a b i fuel s ha hb hn hi F
    obtain ⟨q, rfl⟩ : ∃ q, fuel = q + 1 := ⟨fuel - 1, by omega⟩
    have : b = 0 := by omega
    subst this
    rw [one a 0 i q s hb (by omega), if_pos rfl, Nat.gcd_zero_right]
  | succ n ih =>
    intro a b i fuel s ha hb hn hi F
    obtain ⟨q, rfl⟩ : ∃ q, fuel = q + 2 := ⟨fuel - 2, by omega⟩
    rw [show q + 2 = (q + 1) + 1 from rfl, one a b i (q + 1) s hb (by omega)]
    by_cases c : b = 0
    · rw [if_pos c, c, Nat.gcd_zero_right]
    · have lt := Nat.mod_lt a (show 0 < b by omega)
      rw [if_neg c, pk_lRem (by omega) (by omega) (by omega), one b (a % b) (i + 1) q s (by omega) (by omega), gcd_step a b]
      by_cases c2 : a % b = 0
      · rw [if_pos c2, c2, Nat.gcd_zero_right]
      · have lt2 := Nat.mod_lt b (show 0 < a % b by omega)
        have hf := mod_half (a := a) (b := b) (by omega) (by omega)
        rw [if_neg c2, pk_lRem (by omega) (by omega) (by omega), gcd_step b (a % b)]
        exact ih (a % b) (b % (a % b)) (i + 2) q s (by omega) (by omega) (by rw [Nat.pow_succ] at hn; omega) (by omega) (by omega)
theorem gcdM {a0 a2 : Int64} {a4 : Int32} : ∀ (n a b fuel : Nat) (s : Sto), a < 2 ^ 62 → b < 2 ^ 62 → b < 2 ^ n → 2 * n + 1 < fuel → L9_lowest_6 a0 a2 a4 s fuel (lN a) (lN b) = some (lN (Nat.gcd a b)) := by
  intro n
  have one : ∀ (a b q : Nat) (s : Sto), b < 2 ^ 62 → L9_lowest_6 a0 a2 a4 s (q + 1) (lN a) (lN b) = if b = 0 then some (lN a) else L9_lowest_6 a0 a2 a4 s q (lN b) (lN a - lN a / lN b * lN b) := by
    intro a b q s hb
    show (if (lg_cmp (lN b) (0 : Int64)) = 0 then _ else _) = _
    simp only [lN_z (show b < 2 ^ 63 by omega)]
    by_cases c : b = 0
    · rw [if_pos c, if_pos c]
    · rw [if_neg c, if_neg c, if_pos (show ¬ lN b = 0 from fun z => c ((pk_lEQ (b := 0) (by omega) (by omega)).mp z))]
  induction n with
  | zero =>
    intro a b fuel s ha hb hn F
    obtain ⟨q, rfl⟩ : ∃ q, fuel = q + 1 := ⟨fuel - 1, by omega⟩
    have : b = 0 := by omega
    subst this
    rw [one a 0 q s hb, if_pos rfl, Nat.gcd_zero_right]
  | succ n ih =>
    intro a b fuel s ha hb hn F
    obtain ⟨q, rfl⟩ : ∃ q, fuel = q + 2 := ⟨fuel - 2, by omega⟩
    rw [show q + 2 = (q + 1) + 1 from rfl, one a b (q + 1) s hb]
    by_cases c : b = 0
    · rw [if_pos c, c, Nat.gcd_zero_right]
    · have lt := Nat.mod_lt a (show 0 < b by omega)
      rw [if_neg c, pk_lRem (by omega) (by omega) (by omega), one b (a % b) q s (by omega), gcd_step a b]
      by_cases c2 : a % b = 0
      · rw [if_pos c2, c2, Nat.gcd_zero_right]
      · have lt2 := Nat.mod_lt b (show 0 < a % b by omega)
        have hf := mod_half (a := a) (b := b) (by omega) (by omega)
        rw [if_neg c2, pk_lRem (by omega) (by omega) (by omega), gcd_step b (a % b)]
        exact ih (a % b) (b % (a % b)) q s (by omega) (by omega) (by rw [Nat.pow_succ] at hn; omega) (by omega)
theorem e_power {n : Nat} {s : Sto} (hn : n ≤ 12) : f8_powerOfTen (nI n) s = some (lN (10 ^ n), s) := by
  have lp : ∀ (d i fuel : Nat), i + d = n → d < fuel → L8_powerOfTen_4 (nI n) s fuel (lN (10 ^ i)) (nI i) = some (lN (10 ^ n)) := by
    intro d
    induction d with
    | zero =>
      intro i fuel e F
      obtain ⟨q, rfl⟩ : ∃ q, fuel = q + 1 := ⟨fuel - 1, by omega⟩
      have : i = n := by omega
      subst this
      unfold L8_powerOfTen_4
      rw [if_pos (Int32.le_refl _)]
    | succ d ih =>
      intro i fuel e F
      obtain ⟨q, rfl⟩ : ∃ q, fuel = q + 1 := ⟨fuel - 1, by omega⟩
      unfold L8_powerOfTen_4
      rw [if_neg (nI_ge (by omega) (by omega)), if_neg (show ¬ (12 : Int32) ≤ nI i from nI_ge (b := 12) (by omega) (by omega)), show (10 : Int64) = lN 10 from rfl, lN_mul, ← Nat.pow_succ, nI_1]
      exact ih (i + 1) q (by omega) (by omega)
  have := lp n 0 FU (by omega) (by unfold FU; omega)
  rw [show nI 0 = 0 from rfl, show lN (10 ^ 0) = 1 from rfl] at this
  unfold f8_powerOfTen
  rw [this, bd1_some]
theorem e_tens {n : Nat} {s : Sto} (hn : n ≤ 12) : f9_tens (nI n) s = some (lN (10 ^ n), s) := by
  have lp : ∀ (d i fuel : Nat), i + d = n → d < fuel → L9_tens_4 (nI n) s fuel (lN (10 ^ i)) (nI i) = some (lN (10 ^ n)) := by
    intro d
    induction d with
    | zero =>
      intro i fuel e F
      obtain ⟨q, rfl⟩ : ∃ q, fuel = q + 1 := ⟨fuel - 1, by omega⟩
      have : i = n := by omega
      subst this
      unfold L9_tens_4
      rw [if_pos (Int32.le_refl _)]
    | succ d ih =>
      intro i fuel e F
      obtain ⟨q, rfl⟩ : ∃ q, fuel = q + 1 := ⟨fuel - 1, by omega⟩
      unfold L9_tens_4
      rw [if_neg (nI_ge (by omega) (by omega)), show (10 : Int64) = lN 10 from rfl, lN_mul, ← Nat.pow_succ, nI_1]
      exact ih (i + 1) q (by omega) (by omega)
  have := lp n 0 FU (by omega) (by unfold FU; omega)
  rw [show nI 0 = 0 from rfl, show lN (10 ^ 0) = 1 from rfl] at this
  unfold f9_tens
  rw [this, bd1_some]
theorem ten12 {n : Nat} (hn : n ≤ 12) : 1 ≤ 10 ^ n ∧ 10 ^ n ≤ 10 ^ 12 := ⟨Nat.one_le_pow _ _ (by decide), Nat.pow_le_pow_right (by decide) hn⟩
theorem smF_mul_le {f : Nat → Nat} {B : Nat} : ∀ d i, i + d ≤ B → smF (fun j => j * f j) d i ≤ B * smF f d i := by
  intro d
  induction d with
  | zero => intro i _; simp [smF]
  | succ d ih =>
    intro i h
    simp only [smF]
    have a := ih (i + 1) (by omega)
    have b : i * f i ≤ B * f i := Nat.mul_le_mul_right _ (by omega)
    rw [Nat.mul_add]
    omega
theorem smF_le {p h0 n d i : Nat} (hp : p ≤ 10) : smF (QN p h0 n) d i ≤ 10 ^ n := by
  have a := QN_sum_le (h0 := h0) hp n (i + d)
  rw [smF_N] at a
  omega
/-- the share, lowered -/
theorem low_both {X T : Nat} {a4 : Int32} {s s' : Sto} (hX : X < 2 ^ 47) (hT : T < 2 ^ 40) (h1 : 1 ≤ T) : (bd2 (f8_greatestDivisor (lN X) (lN T) s) fun r26 s24 =>
        Option.bind (if 0 ≤ (lg_cmp r26 (1 : Int64)) then some r26 else some (1 : Int64)) fun x28 =>
        if a4 = 0 then (if ¬ x28 = 0 then some ((lN X / x28), s24) else none) else (if ¬ x28 = 0 then some ((lN T / x28), s24) else none)) = some (if a4 = 0 then lN X / lN (Nat.gcd X T) else lN T / lN (Nat.gcd X T), s) ∧ f9_lowest (lN X) (lN T) a4 s' = some (if a4 = 0 then lN X / lN (Nat.gcd X T) else lN T / lN (Nat.gcd X T), s') := by
  have g1 : 1 ≤ Nat.gcd X T := Nat.gcd_pos_of_pos_right _ (by omega)
  have g2 : Nat.gcd X T ≤ T := Nat.le_of_dvd (by omega) (Nat.gcd_dvd_right _ _)
  have nz : ¬ lN (Nat.gcd X T) = 0 := fun z => by
    have := (pk_lEQ (b := 0) (by omega) (by omega)).mp z
    omega
  constructor
  · have e := gcdC 40 X T 0 FU s (by omega) (by omega) hT (by omega) (by decide)
    rw [show nI 0 = 0 from rfl] at e
    unfold f8_greatestDivisor
    rw [e, bd1_some, bd2_some]
    have : (0 : Int32) ≤ lg_cmp (lN (Nat.gcd X T)) 1 := by
      rw [← Int32.not_lt, lg_lt]
      intro z
      have z1 : lN 1 ≤ lN (Nat.gcd X T) := (pk_lLE (by omega) (by omega)).mpr g1
      have z2 := Int64.lt_iff_toInt_lt.mp z
      have z3 := Int64.le_iff_toInt_le.mp z1
      have z4 : (lN 1).toInt = (1 : Int64).toInt := rfl
      omega
    rw [if_pos this, bd1_some, if_pos nz, if_pos nz]
    split <;> rfl
  · have e := gcdM (a0 := lN X) (a2 := lN T) (a4 := a4) 47 T X FU s' (by omega) (by omega) hX (by decide)
    unfold f9_lowest
    rw [e, bd1_some, Nat.gcd_comm T X, if_pos nz, if_pos nz]
    split <;> rfl
theorem op_chance {s : Sto} (h : RR s) (a b c d : Int32) : ∃ r s1 s2, f8_chance 0 a b c d s = some (r, s1) ∧ f9_chance 43 a b c d s1 = some (r, s2) ∧ RR s2 := by
  rcases rng (v := a) (a := 0) (b := 12) with hr | ⟨hr, g1, g2⟩
  · exact ⟨_, s, s, by simp [f8_chance, f8_areChances, e_isWithin, bd2_some, kd_0, hr]; rfl, by simp [f9_chance, e9_in_0_12, bd2_some, kd_43, hr], h⟩
  rcases rng (v := b) (a := 0) (b := 10) with hq | ⟨hq, g3, g4⟩
  · exact ⟨_, s, s, by simp [f8_chance, f8_areChances, e_isWithin, bd2_some, kd_0, hr, hq]; rfl, by simp [f9_chance, e9_in_0_12, e9_in_0_10, bd2_some, kd_43, hr, hq], h⟩
  rcases rng (v := c) (a := -1) (b := 50) with hs | ⟨hs, g5, g6⟩
  · exact ⟨_, s, s, by simp [f8_chance, f8_areChances, e_isWithin, bd2_some, kd_0, hr, hq, hs]; rfl, by simp [f9_chance, e9_in_0_12, e9_in_0_10, e9_in_m1_50, bd2_some, kd_43, hr, hq, hs], h⟩
  rcases rng (v := d) (a := 0) (b := 1) with ht | ⟨ht, g7, g8⟩
  · exact ⟨_, s, s, by simp [f8_chance, f8_areChances, e_isWithin, bd2_some, kd_0, hr, hq, hs, ht]; rfl, by simp [f9_chance, e9_in_0_12, e9_in_0_10, e9_in_m1_50, e9_in_0_1, bd2_some, kd_43, hr, hq, hs, ht], h⟩
  obtain ⟨n, hn, rfl⟩ := nI_of2 (n := 12) (by decide) g1 g2
  obtain ⟨p, hp, rfl⟩ := nI_of2 (n := 10) (by decide) g3 g4
  obtain ⟨⟨D, hD, hC, hM⟩, -⟩ := id h
  obtain ⟨-, ⟨h9, hh1, eh⟩, -⟩ := id hD
  obtain ⟨t, t1, t2, t3⟩ := e_play3 (p := p) (h0 := h9) (n := n) (s := s) hp hn (by omega)
  obtain ⟨u, u1, u2, u3⟩ := e_goChance (p := p) (h0 := h9) (n := n) (s := t) hp hn (by omega)
  have top : ∀ j, 83 ≤ j → QN p h9 n j = 0 := fun j hj => QN_up n j (by omega)
  obtain ⟨T1, T2⟩ := ten12 hn
  have sC : s.1 ((0 + 1) + 2) 3 = nI h9 := by rw [← eh]; exact hC.lit.1.2.2.1
  have sM : t.1 43 3 = nI h9 := by rw [t2, ← eh]; exact hM.1.2.2.1
  have sw := sumM_loop (a1 := nI n) (a3 := c) (a4 := d) u3 96 0 FU 0 (by omega) (by decide)
  rw [Nat.zero_add, lN_0, show nI 0 = 0 from rfl] at sw
  have fin : ∀ X : Nat, X < 2 ^ 47 → (if 0 ≤ c then bd2 (f3_atLeast 41 c t) fun r14 s12 => some (r14, s12) else bd2 (f3_sumOfRows 41 t) fun r17 s15 => some (r17, s15)) = some (lN X, t) → (if 0 ≤ c then bd2 (f9_atLeast 43 c u) fun r22 s20 => some (r22, s20) else some (lN (smF (fun j => j * QN p h9 n j) 96 0), u)) = some (lN X, u) → ∃ r s1 s2, f8_chance 0 (nI n) (nI p) c d s = some (r, s1) ∧ f9_chance 43 (nI n) (nI p) c d s1 = some (r, s2) ∧ RR s2 := by
    intro X hX eC eM
    obtain ⟨l1, l2⟩ := low_both (X := X) (T := 10 ^ n) (a4 := d) (s := t) (s' := u) hX (by omega) T1
    refine ⟨if d = 0 then lN X / lN (Nat.gcd X (10 ^ n)) else lN (10 ^ n) / lN (Nat.gcd X (10 ^ n)), t, u, ?_, ?_, (h.two t2).two u2⟩
    · unfold f8_chance f8_areChances
      rw [if_pos kd_0, e_isWithin, bd2_some, hr, if_neg (by decide), e_isWithin, bd2_some, hq, if_neg (by decide), bd2_some, if_neg (by decide), e_isWithin, bd2_some, hs, if_neg (by decide), e_isWithin, bd2_some, ht, if_neg (by decide), sC, show (0 + 41) = 41 from rfl, t1, bd1_some, eC, bd2_some, e_power hn, bd2_some]
      exact l1
    · unfold f9_chance
      rw [if_pos kd_43, e9_in_0_12, bd2_some, hr, if_neg (by decide), e9_in_0_10, bd2_some, hq, if_neg (by decide), e9_in_m1_50, bd2_some, hs, if_neg (by decide), e9_in_0_1, bd2_some, ht, if_neg (by decide), sM, u1, bd1_some, sw, bd1_some, eM, bd2_some, e_tens hn, bd2_some, l2, bd2_some]
  by_cases c0 : 0 ≤ c
  · obtain ⟨x, hx, rfl⟩ := nI_of2 (n := 50) (by decide) (Int32.not_lt.mpr c0) g6
    apply fin (smF (QN p h9 n) (83 - x) x)
    · have := smF_le (p := p) (h0 := h9) (n := n) (d := 83 - x) (i := x) hp; omega
    · rw [if_pos c0, e_leastC t3 hx, bd2_some]
    · rw [if_pos c0, e_leastM u3 hx, bd2_some, cut_top (by omega) top]
  · apply fin (smF (fun j => j * QN p h9 n j) 83 0)
    · have a := smF_mul_le (f := QN p h9 n) (B := 96) 83 0 (by omega)
      have b := smF_le (p := p) (h0 := h9) (n := n) (d := 83) (i := 0) hp
      omega
    · rw [if_neg c0, e_sumC t3, bd2_some]
    · rw [if_neg c0]
      have := cut_top (f := fun j => j * QN p h9 n j) (a := 0) (by omega) (fun j hj => by rw [top j hj, Nat.mul_zero])
      rw [Nat.sub_zero, Nat.sub_zero] at this
      rw [this]
theorem over_loop {D : DD} {n p a3 a4 a5 h9 : Nat} (hn : n ≤ 12) (hp : p ≤ 10) (h3 : a3 ≤ 50) (h5 : a5 ≤ 100) (h4 : a4 ≤ a5) (hh : h9 ≤ 30) : ∀ (d v fuel : Nat) (s s' : Sto), v + d = 41 → d < fuel → s.1 3 3 = nI h9 → s'.1 43 3 = nI h9 → ∃ r t t', L8_over_59 0 (nI n) (nI p) (nI a3) (nI a5) ((nI a4).toInt64 * lN (10 ^ n)) fuel (nI v) s = some (r, t) ∧ L9_over_68 43 (nI n) (nI p) (nI a3) (nI a4) (nI a5) fuel (nI v) s' = some (r, t') ∧ t.1 = s.1 ∧ t'.1 = s'.1 := by
  intro d
  induction d with
  | zero =>
    intro v fuel s s' e F eC eM
    obtain ⟨q, rfl⟩ : ∃ q, fuel = q + 1 := ⟨fuel - 1, by omega⟩
    have : v = 41 := by omega
    subst this
    refine ⟨-6, s, s', ?_, ?_, rfl, rfl⟩
    · unfold L8_over_59; rw [if_pos (by decide)]
    · unfold L9_over_68; rw [if_pos (by decide)]
  | succ d ih =>
    intro v fuel s s' e F eC eM
    obtain ⟨q, rfl⟩ : ∃ q, fuel = q + 1 := ⟨fuel - 1, by omega⟩
    have v40 : ¬ (40 : Int32) < nI v := nI_nlt (a := 40) (b := v) (by omega) (by omega)
    obtain ⟨T1, T2⟩ := ten12 hn
    obtain ⟨t, t1, t2, t3⟩ := e_play3 (p := p) (h0 := h9 + v) (n := n) (s := s) hp hn (by omega)
    obtain ⟨u, u1, u2, u3⟩ := e_goChance (p := p) (h0 := h9 + v) (n := n) (s := s') hp hn (by omega)
    have top : ∀ j, 83 ≤ j → QN p (h9 + v) n j = 0 := fun j hj => QN_up n j (by omega)
    have sl := smF_le (p := p) (h0 := h9 + v) (n := n) (d := 83 - a3) (i := a3) hp
    have cmp : (lg_cmp (lN (smF (QN p (h9 + v) n) (83 - a3) a3) * (nI a5).toInt64) ((nI a4).toInt64 * lN (10 ^ n)) < 0) = (smF (QN p (h9 + v) n) (83 - a3) a3 * a5 < a4 * 10 ^ n) := by
      rw [lg_lt, nI_l (by omega), nI_l (by omega), lN_mul, lN_mul]
      have b1 : smF (QN p (h9 + v) n) (83 - a3) a3 * a5 ≤ 10 ^ 12 * 100 := Nat.mul_le_mul (by omega) h5
      have b2 : a4 * 10 ^ n ≤ 100 * 10 ^ 12 := Nat.mul_le_mul (by omega) T2
      have le := pk_lLE (a := a4 * 10 ^ n) (b := smF (QN p (h9 + v) n) (83 - a3) a3 * a5) (by omega) (by omega)
      apply propext
      rw [← Int64.not_le, ← Nat.not_le, le]
    unfold L8_over_59 L9_over_68
    rw [if_neg v40, if_neg v40, show s.1 ((0 + 1) + 2) 3 = nI h9 from eC, nI_add, show (0 + 41) = 41 from rfl, t1, bd1_some, e_leastC t3 h3, bd2_some, eM, nI_add, nI_1]
    simp only [cmp]
    by_cases c : nI (h9 + v) - nI n < nI a3
    · rw [if_pos c, bd1_some, if_pos rfl, u1, bd1_some, e_leastM u3 h3, bd2_some, e_tens hn, bd2_some, cut_top (by omega) top]
      simp only [cmp]
      by_cases c2 : smF (QN p (h9 + v) n) (83 - a3) a3 * a5 < a4 * 10 ^ n
      · rw [if_pos c2, if_pos c2, bd1_some, if_pos rfl]
        obtain ⟨r, x, x', x1, x2, x3, x4⟩ := ih (v + 1) q t u (by omega) (by omega) (by rw [t2]; exact eC) (by rw [u2]; exact eM)
        exact ⟨r, x, x', x1, x2, x3.trans t2, x4.trans u2⟩
      · rw [if_neg c2, if_neg c2, bd1_some, if_neg (show ¬ (1 : Int32) = 0 by decide)]
        exact ⟨nI v, t, u, rfl, rfl, t2, u2⟩
    · rw [if_neg c, bd1_some, if_neg (show ¬ (1 : Int32) = 0 by decide), if_neg (show ¬ (1 : Int32) = 0 by decide)]
      have lo : a3 + n ≤ h9 + v := by
        rcases Nat.lt_or_ge (h9 + v) (a3 + n) with z | z
        · exfalso
          apply c
          rw [Int32.lt_iff_toInt_lt, pk_sub_toInt (by omega) (by omega), nI_toInt (by omega)]
          omega
        · exact z
      have all : smF (QN p (h9 + v) n) (83 - a3) a3 = 10 ^ n := by
        have a := smF_N (f := QN p (h9 + v) n) (83 - a3) a3
        rw [show a3 + (83 - a3) = 83 by omega, QN_sum hp n 83 (by omega), smN_0 a3 (fun j hj => QN_low n j (by omega))] at a
        omega
      have c2 : ¬ smF (QN p (h9 + v) n) (83 - a3) a3 * a5 < a4 * 10 ^ n := by
        rw [all, Nat.mul_comm]
        exact Nat.not_lt.mpr (Nat.mul_le_mul_right _ h4)
      rw [if_neg c2]
      exact ⟨nI v, t, s', rfl, rfl, t2, rfl⟩
theorem op_over {s : Sto} (h : RR s) (a b c d e : Int32) : ∃ r s1 s2, f8_over 0 a b c d e s = some (r, s1) ∧ f9_over 43 a b c d e s1 = some (r, s2) ∧ RR s2 := by
  rcases rng (v := a) (a := 0) (b := 12) with hr | ⟨hr, g1, g2⟩
  · exact ⟨-2, s, s, by simp [f8_over, f8_areChances, e_isWithin, bd2_some, kd_0, hr], by simp [f9_over, e9_in_0_12, bd2_some, kd_43, hr], h⟩
  rcases rng (v := b) (a := 0) (b := 10) with hq | ⟨hq, g3, g4⟩
  · exact ⟨-2, s, s, by simp [f8_over, f8_areChances, e_isWithin, bd2_some, kd_0, hr, hq], by simp [f9_over, e9_in_0_12, e9_in_0_10, bd2_some, kd_43, hr, hq], h⟩
  rcases rng (v := c) (a := 0) (b := 50) with hs | ⟨hs, g5, g6⟩
  · exact ⟨-2, s, s, by simp [f8_over, f8_areChances, e_isWithin, bd2_some, kd_0, hr, hq, hs], by simp [f9_over, e9_in_0_12, e9_in_0_10, e9_in_0_50, bd2_some, kd_43, hr, hq, hs], h⟩
  rcases rng (v := e) (a := 1) (b := 100) with ht | ⟨ht, g7, g8⟩
  · exact ⟨-2, s, s, by simp [f8_over, f8_areChances, e_isWithin, bd2_some, kd_0, hr, hq, hs, ht], by simp [f9_over, e9_in_0_12, e9_in_0_10, e9_in_0_50, e9_in_1_100, bd2_some, kd_43, hr, hq, hs, ht], h⟩
  rcases rng (v := d) (a := 0) (b := e) with hw | ⟨hw, g9, g0⟩
  · exact ⟨-2, s, s, by simp [f8_over, f8_areChances, e_isWithin, bd2_some, kd_0, hr, hq, hs, ht, hw], by simp [f9_over, e9_in_0_12, e9_in_0_10, e9_in_0_50, e9_in_1_100, e9_in_0x, bd2_some, kd_43, hr, hq, hs, ht, hw], h⟩
  obtain ⟨n, hn, rfl⟩ := nI_of2 (n := 12) (by decide) g1 g2
  obtain ⟨p, hp, rfl⟩ := nI_of2 (n := 10) (by decide) g3 g4
  obtain ⟨x, hx, rfl⟩ := nI_of2 (n := 50) (by decide) g5 g6
  obtain ⟨z, hz, rfl⟩ := nI_of2 (n := 100) (by decide) (fun q => g7 (Int32.lt_trans q (by decide))) g8
  obtain ⟨y, hy, rfl⟩ := nI_of2 (M := nI z) (n := z) (nI_toInt (by omega)) g9 g0
  obtain ⟨⟨D, hD, hC, hM⟩, -⟩ := id h
  obtain ⟨-, ⟨h9, hh1, eh⟩, -⟩ := id hD
  obtain ⟨r, t, t', l1, -, l3, -⟩ := over_loop (D := D) (n := n) (p := p) (a3 := x) (a4 := y) (a5 := z) hn hp hx hz hy hh1 41 0 FU s s (by omega) (by decide) (by rw [← eh]; exact hC.lit.1.2.2.1) (by rw [← eh]; exact hM.1.2.2.1)
  obtain ⟨r', v, v', m1, m2, m3, m4⟩ := over_loop (D := D) (n := n) (p := p) (a3 := x) (a4 := y) (a5 := z) hn hp hx hz hy hh1 41 0 FU s t (by omega) (by decide) (by rw [← eh]; exact hC.lit.1.2.2.1) (by rw [l3, ← eh]; exact hM.1.2.2.1)
  rw [l1] at m1
  obtain ⟨rfl, rfl⟩ : r = r' ∧ t = v := by
    have := Option.some.inj m1
    exact ⟨(Prod.mk.inj this).1, (Prod.mk.inj this).2⟩
  rw [show nI 0 = 0 from rfl] at l1 m2
  refine ⟨r, t, v', ?_, ?_, (h.two l3).two m4⟩
  · unfold f8_over f8_areChances
    rw [if_pos kd_0, e_isWithin, bd2_some, hr, if_neg (by decide), e_isWithin, bd2_some, hq, if_neg (by decide), bd2_some, if_neg (by decide), e_isWithin, bd2_some, hs, if_neg (by decide), e_isWithin, bd2_some, ht, if_neg (by decide), e_isWithin, bd2_some, hw, if_neg (by decide), e_power hn, bd2_some]
    exact l1
  · unfold f9_over
    rw [if_pos kd_43, e9_in_0_12, bd2_some, hr, if_neg (by decide), e9_in_0_10, bd2_some, hq, if_neg (by decide), e9_in_0_50, bd2_some, hs, if_neg (by decide), e9_in_1_100, bd2_some, ht, if_neg (by decide), e9_in_0x, bd2_some, hw, if_neg (by decide)]
    exact m2
