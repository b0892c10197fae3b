-- chances, as numbers
def stp (p : Nat) (f : Nat → Nat) : Nat → Nat := fun h => if h = 0 then (f 1 + f 0) * p else f (h - 1) * (10 - p) + f (h + 1) * p
def QN (p h0 : Nat) : Nat → Nat → Nat
  | 0 => fun h => if h = h0 then 1 else 0
  | k + 1 => stp p (QN p h0 k)
def smN (f : Nat → Nat) : Nat → Nat
  | 0 => 0
  | n + 1 => smN f n + f n
def smF (f : Nat → Nat) : Nat → Nat → Nat
  | 0, _ => 0
  | d + 1, i => f i + smF f d (i + 1)
theorem smF_N {f : Nat → Nat} : ∀ d i, smN f (i + d) = smN f i + smF f d i := by
  intro d
  induction d with
  | zero => intro i; rfl
  | succ d ih =>
    intro i
    have := ih (i + 1)
    rw [show i + (d + 1) = i + 1 + d by omega, this]
    simp only [smN, smF]
    omega
theorem smF_add {f : Nat → Nat} : ∀ d e i, smF f (d + e) i = smF f d i + smF f e (i + d) := by
  intro d
  induction d with
  | zero => intro e i; simp [smF]
  | succ d ih =>
    intro e i
    rw [show d + 1 + e = (d + e) + 1 by omega]
    simp only [smF]
    rw [ih e (i + 1), show i + 1 + d = i + (d + 1) by omega]
    omega
theorem smF_0 {f : Nat → Nat} : ∀ d i, (∀ j, i ≤ j → f j = 0) → smF f d i = 0 := by
  intro d
  induction d with
  | zero => intro i _; rfl
  | succ d ih =>
    intro i h
    simp only [smF]
    rw [h i (Nat.le_refl _), ih (i + 1) (fun j hj => h j (by omega))]
theorem smN_0 {f : Nat → Nat} : ∀ n, (∀ j, j < n → f j = 0) → smN f n = 0 := by
  intro n
  induction n with
  | zero => intro _; rfl
  | succ n ih =>
    intro h
    simp only [smN]
    rw [h n (by omega), ih (fun j hj => h j (by omega))]
theorem smN_stp {p : Nat} {f : Nat → Nat} (hp : p ≤ 10) : ∀ n, smN (stp p f) (n + 1) = (10 - p) * smN f n + p * smN f (n + 2) := by
  intro n
  induction n with
  | zero =>
    simp [smN, stp]
    rw [Nat.mul_comm, Nat.add_comm (f 1)]
  | succ n ih =>
    rw [smN, ih]
    have e : stp p f (n + 1) = f n * (10 - p) + f (n + 2) * p := by
      unfold stp
      rw [if_neg (by omega)]
      rfl
    rw [e, show smN f (n + 1 + 2) = smN f (n + 2) + f (n + 2) from rfl, show smN f (n + 1) = smN f n + f n from rfl, Nat.mul_add, Nat.mul_add, Nat.mul_comm (f n), Nat.mul_comm (f (n + 2))]
    omega
theorem QN_up {p h0 : Nat} : ∀ k h, h0 + k < h → QN p h0 k h = 0 := by
  intro k
  induction k with
  | zero => intro h hh; simp only [QN]; rw [if_neg (by omega)]
  | succ k ih =>
    intro h hh
    simp only [QN, stp]
    rw [if_neg (by omega), ih (h - 1) (by omega), ih (h + 1) (by omega)]
    simp
theorem QN_low {p h0 : Nat} : ∀ k h, h + k < h0 → QN p h0 k h = 0 := by
  intro k
  induction k with
  | zero => intro h hh; simp only [QN]; rw [if_neg (by omega)]
  | succ k ih =>
    intro h hh
    simp only [QN, stp]
    by_cases c : h = 0
    · subst c
      rw [if_pos rfl, ih 1 (by omega), ih 0 (by omega)]; simp
    · rw [if_neg c, ih (h - 1) (by omega), ih (h + 1) (by omega)]; simp
theorem smN_le_succ {f : Nat → Nat} {n : Nat} : smN f n ≤ smN f (n + 1) := Nat.le_add_right _ _
theorem split10 {p x : Nat} (hp : p ≤ 10) : (10 - p) * x + p * x = 10 * x := by
  rw [← Nat.add_mul, Nat.sub_add_cancel hp]
theorem QN_sum_le {p h0 : Nat} (hp : p ≤ 10) : ∀ k n, smN (QN p h0 k) n ≤ 10 ^ k := by
  intro k
  induction k with
  | zero =>
    have : ∀ n, smN (QN p h0 0) n = if h0 < n then 1 else 0 := by
      intro n
      induction n with
      | zero => rfl
      | succ n ih =>
        simp only [smN]
        rw [ih]
        simp only [QN]
        by_cases c : h0 < n
        · rw [if_pos c, if_neg (by omega), if_pos (by omega)]
        · rw [if_neg c]
          by_cases e : n = h0
          · rw [if_pos e, if_pos (by omega)]
          · rw [if_neg e, if_neg (by omega)]
    intro n
    rw [this n]
    split <;> decide
  | succ k ih =>
    intro n
    refine Nat.le_trans smN_le_succ ?_
    show smN (stp p (QN p h0 k)) (n + 1) ≤ _
    rw [smN_stp hp, Nat.pow_succ]
    have a := Nat.mul_le_mul_left (10 - p) (ih n)
    have b := Nat.mul_le_mul_left p (ih (n + 2))
    have c := split10 (x := 10 ^ k) hp
    omega
theorem QN_sum {p h0 : Nat} (hp : p ≤ 10) : ∀ k n, h0 + k < n → smN (QN p h0 k) n = 10 ^ k := by
  intro k
  induction k with
  | zero =>
    intro n hn
    have : ∀ n, smN (QN p h0 0) n = if h0 < n then 1 else 0 := by
      intro n
      induction n with
      | zero => rfl
      | succ n ih =>
        simp only [smN]
        rw [ih]
        simp only [QN]
        by_cases c : h0 < n
        · rw [if_pos c, if_neg (by omega), if_pos (by omega)]
        · rw [if_neg c]
          by_cases e : n = h0
          · rw [if_pos e, if_pos (by omega)]
          · rw [if_neg e, if_neg (by omega)]
    rw [this n, if_pos (by omega)]
  | succ k ih =>
    intro n hn
    obtain ⟨m, rfl⟩ : ∃ m, n = m + 1 := ⟨n - 1, by omega⟩
    show smN (stp p (QN p h0 k)) (m + 1) = _
    rw [smN_stp hp, ih m (by omega), ih (m + 2) (by omega), split10 hp, Nat.pow_succ, Nat.mul_comm]
-- the class's 83 numbers
def TC (s : Sto) (f : Nat → Nat) : Prop := ∀ j, j < 83 → s.2 42 j = lN (f j)
theorem lN_0 : lN 0 = 0 := rfl
theorem stepC_loop {p : Nat} {f : Nat → Nat} (hp : p ≤ 10) (hf : f 83 = 0) : ∀ (d i fuel : Nat) (s : Sto), i + d = 83 → d < fuel → (∀ j, j < 83 → s.2 42 j = lN (if j < i then stp p f j else f j)) → ∃ u, L3_step_5 41 (nI p) fuel (if i = 0 then 0 else lN (f (i - 1))) (nI i) s = some u ∧ u.1 = s.1 ∧ TC u (stp p f) := by
  intro d
  induction d with
  | zero =>
    intro i fuel s e F hs
    obtain ⟨q, rfl⟩ : ∃ q, fuel = q + 1 := ⟨fuel - 1, by omega⟩
    have : i = 83 := by omega
    subst this
    refine ⟨s, ?_, rfl, fun j hj => by rw [hs j hj, if_pos hj]⟩
    unfold L3_step_5
    rw [if_pos (by decide)]
  | succ d ih =>
    intro i fuel s e F hs
    obtain ⟨q, rfl⟩ : ∃ q, fuel = q + 1 := ⟨fuel - 1, by omega⟩
    have r3 : s.2 42 i = lN (f i) := by rw [hs i (by omega), if_neg (by omega)]
    have r6 : f8_at_ (41 + 1) (nI i + 1) s = some (lN (f (i + 1)), s) := by
      rw [nI_1]
      by_cases c : i + 1 < 83
      · rw [e_atL (k := 41 + 1) (i := i + 1) kd_42 (by rw [show ln (41 + 1) = 83 from rfl]; omega), show s.2 (41 + 1) (i + 1) = lN (f (i + 1)) from by rw [show s.2 (41 + 1) (i + 1) = s.2 42 (i + 1) from rfl, hs (i + 1) c, if_neg (by omega)]]
      · rw [e_atL0 (k := 41 + 1) (i := i + 1) kd_42 (by rw [show ln (41 + 1) = 83 from rfl]; omega) (by omega), show i + 1 = 83 by omega, hf]; rfl
    have ten : (10 : Int32) - nI p = nI (10 - p) := pk_sub (b := p) (a := 10) hp
    have val : (if i = 0 then 0 else lN (f (i - 1))) * ((10 : Int32) - nI p).toInt64 + (lN (f (i + 1)) + (if nI i = 0 then lN (f i) else 0)) * (nI p).toInt64 = lN (stp p f i) := by
      rw [ten, nI_l (by omega), nI_l (by omega)]
      unfold stp
      by_cases c : i = 0
      · subst c
        rw [if_pos rfl, if_pos (show nI 0 = 0 from rfl), if_pos rfl, show (0 : Int64) = lN 0 from rfl, lN_mul, lN_add, lN_mul, lN_add, Nat.zero_mul, Nat.zero_add]
      · rw [if_neg c, if_neg (nI_ne0 (by omega) (by omega)), if_neg c, show (0 : Int64) = lN 0 from rfl, lN_mul, lN_add, lN_mul, lN_add, Nat.add_zero]
    obtain ⟨u, u1, u2, u3⟩ := ih (i + 1) q (stL s 42 i (lN (stp p f i))) (by omega) (by omega) (fun j hj => by
      rw [stL_get]
      by_cases c : j = i
      · subst c; rw [if_pos ⟨rfl, rfl⟩, if_pos (by omega)]
      · rw [if_neg (fun z => c z.2), hs j hj]
        by_cases c2 : j < i
        · rw [if_pos c2, if_pos (by omega)]
        · rw [if_neg c2, if_neg (by omega)])
    rw [if_neg (by omega), Nat.add_sub_cancel] at u1
    refine ⟨u, ?_, u2, u3⟩
    unfold L3_step_5
    rw [if_neg (show ¬ (83 : Int32) ≤ nI i from nI_ge (b := 83) (by omega) (by omega)), e_atL (k := 41 + 1) (i := i) kd_42 (by rw [show ln (41 + 1) = 83 from rfl]; omega), bd2_some, show s.2 (41 + 1) i = lN (f i) from r3, r6, bd2_some]
    have pick : (if nI i = 0 then some (lN (f i)) else some (0 : Int64)) = some (if nI i = 0 then lN (f i) else 0) := by split <;> rfl
    rw [pick, bd1_some, val, e_putL (k := 41 + 1) (i := i) kd_42 (by rw [show ln (41 + 1) = 83 from rfl]; omega), bd1_some, nI_1]
    exact u1
theorem e_stepC {p : Nat} {f : Nat → Nat} {s : Sto} (hp : p ≤ 10) (hf : f 83 = 0) (hs : TC s f) : ∃ u, f3_step 41 (nI p) s = some u ∧ u.1 = s.1 ∧ TC u (stp p f) := by
  obtain ⟨u, u1, u2, u3⟩ := stepC_loop hp hf 83 0 FU s (by omega) (by decide) (fun j hj => by rw [if_neg (by omega)]; exact hs j hj)
  rw [if_pos rfl, show nI 0 = 0 from rfl] at u1
  refine ⟨u, ?_, u2, u3⟩
  unfold f3_step
  rw [if_pos kd_41, u1, bd1_some]
theorem wipe83 {a1 a2 a3 : Int32} : ∀ (d j fuel : Nat) (s : Sto), j + d = 83 → d < fuel → ∃ u, L3_play_3 41 a1 a2 a3 fuel (nI j) s = some u ∧ u.1 = s.1 ∧ ∀ p, p < 83 → u.2 42 p = if j ≤ p then 0 else s.2 42 p := by
  intro d
  induction d with
  | zero =>
    intro j fuel s e F
    obtain ⟨q, rfl⟩ : ∃ q, fuel = q + 1 := ⟨fuel - 1, by omega⟩
    have : j = 83 := by omega
    subst this
    refine ⟨s, ?_, rfl, fun p hp => by rw [if_neg (by omega)]⟩
    unfold L3_play_3
    rw [if_pos (by decide)]
  | succ d ih =>
    intro j fuel s e F
    obtain ⟨q, rfl⟩ : ∃ q, fuel = q + 1 := ⟨fuel - 1, by omega⟩
    obtain ⟨u, u1, u2, u3⟩ := ih (j + 1) q (stL s 42 j 0) (by omega) (by omega)
    refine ⟨u, ?_, u2, fun p hp => ?_⟩
    · unfold L3_play_3
      rw [if_neg (show ¬ (83 : Int32) ≤ nI j from nI_ge (b := 83) (by omega) (by omega)), e_putL (k := 41 + 1) (i := j) kd_42 (by rw [show ln (41 + 1) = 83 from rfl]; omega), bd1_some, nI_1]
      exact u1
    · rw [u3 p hp, stL_get]
      by_cases c : p = j
      · subst c; simp
      · by_cases c2 : j + 1 ≤ p
        · rw [if_pos c2, if_pos (by omega)]
        · rw [if_neg c2, if_neg (fun z => c z.2), if_neg (by omega)]
theorem playC_loop {p h0 n : Nat} (hp : p ≤ 10) (hn : n ≤ 12) (hh : h0 + n ≤ 82) : ∀ (d i fuel : Nat) (s : Sto), i + d = n → d < fuel → TC s (QN p h0 i) → ∃ u, L3_play_38 41 (nI n) (nI p) fuel (nI i) s = some u ∧ u.1 = s.1 ∧ TC u (QN p h0 n) := by
  intro d
  induction d with
  | zero =>
    intro i fuel s e F hs
    obtain ⟨q, rfl⟩ : ∃ q, fuel = q + 1 := ⟨fuel - 1, by omega⟩
    have : i = n := by omega
    subst this
    refine ⟨s, ?_, rfl, hs⟩
    unfold L3_play_38
    rw [if_pos (Int32.le_refl _)]
  | succ d ih =>
    intro i fuel s e F hs
    obtain ⟨q, rfl⟩ : ∃ q, fuel = q + 1 := ⟨fuel - 1, by omega⟩
    obtain ⟨u, u1, u2, u3⟩ := e_stepC hp (QN_up i 83 (by omega)) hs
    obtain ⟨v, v1, v2, v3⟩ := ih (i + 1) q u (by omega) (by omega) u3
    refine ⟨v, ?_, v2.trans u2, v3⟩
    unfold L3_play_38
    rw [if_neg (nI_ge (by omega) (by omega)), u1, bd1_some, nI_1]
    exact v1
theorem e_play3 {p h0 n : Nat} {s : Sto} (hp : p ≤ 10) (hn : n ≤ 12) (hh : h0 + n ≤ 82) : ∃ u, f3_play 41 (nI h0) (nI n) (nI p) s = some u ∧ u.1 = s.1 ∧ TC u (QN p h0 n) := by
  obtain ⟨u, u1, u2, u3⟩ := wipe83 (a1 := nI h0) (a2 := nI n) (a3 := nI p) 83 0 FU s (by omega) (by decide)
  rw [show nI 0 = 0 from rfl] at u1
  obtain ⟨v, v1, v2, v3⟩ := playC_loop hp hn hh n 0 FU (stL u 42 h0 1) (by omega) (by unfold FU; omega) (fun j hj => by
    rw [stL_get]
    show _ = lN (if j = h0 then 1 else 0)
    by_cases c : j = h0
    · rw [if_pos ⟨rfl, c⟩, if_pos c]; rfl
    · rw [if_neg (fun z => c z.2), if_neg c, u3 j hj, if_pos (by omega)]; rfl)
  rw [show nI 0 = 0 from rfl] at v1
  refine ⟨v, ?_, v2.trans u2, v3⟩
  unfold f3_play
  rw [if_pos kd_41, u1, bd1_some, e_putL (k := 41 + 1) (i := h0) kd_42 (by rw [show ln (41 + 1) = 83 from rfl]; omega), bd1_some, show stL u (41 + 1) h0 1 = stL u 42 h0 1 from rfl, v1, bd1_some]
theorem sumC_loop {f : Nat → Nat} {s : Sto} (hs : TC s f) : ∀ (d i fuel S : Nat), i + d = 83 → d < fuel → L3_sumOfRows_4 41 fuel (lN S) (nI i) s = some (lN (S + smF (fun j => j * f j) d i), s) := by
  intro d
  induction d with
  | zero =>
    intro i fuel S e F
    obtain ⟨q, rfl⟩ : ∃ q, fuel = q + 1 := ⟨fuel - 1, by omega⟩
    have : i = 83 := by omega
    subst this
    unfold L3_sumOfRows_4
    rw [if_pos (by decide)]; rfl
  | succ d ih =>
    intro i fuel S e F
    obtain ⟨q, rfl⟩ : ∃ q, fuel = q + 1 := ⟨fuel - 1, by omega⟩
    unfold L3_sumOfRows_4
    rw [if_neg (show ¬ (83 : Int32) ≤ nI i from nI_ge (b := 83) (by omega) (by omega)), e_atL (k := 41 + 1) (i := i) kd_42 (by rw [show ln (41 + 1) = 83 from rfl]; omega), bd2_some, show s.2 (41 + 1) i = lN (f i) from hs i (by omega), nI_l (by omega), lN_mul, lN_add, nI_1, ih (i + 1) q _ (by omega) (by omega)]
    simp only [smF]
    rw [Nat.add_assoc]
theorem leastC_loop {f : Nat → Nat} {s : Sto} (hs : TC s f) : ∀ (d i fuel S : Nat), i + d = 83 → d < fuel → L3_atLeast_9 41 fuel (lN S) (nI i) s = some (lN (S + smF f d i), s) := by
  intro d
  induction d with
  | zero =>
    intro i fuel S e F
    obtain ⟨q, rfl⟩ : ∃ q, fuel = q + 1 := ⟨fuel - 1, by omega⟩
    have : i = 83 := by omega
    subst this
    unfold L3_atLeast_9
    rw [if_pos (by decide)]; rfl
  | succ d ih =>
    intro i fuel S e F
    obtain ⟨q, rfl⟩ : ∃ q, fuel = q + 1 := ⟨fuel - 1, by omega⟩
    unfold L3_atLeast_9
    rw [if_neg (show ¬ (83 : Int32) ≤ nI i from nI_ge (b := 83) (by omega) (by omega)), e_atL (k := 41 + 1) (i := i) kd_42 (by rw [show ln (41 + 1) = 83 from rfl]; omega), bd2_some, show s.2 (41 + 1) i = lN (f i) from hs i (by omega), lN_add, nI_1, ih (i + 1) q _ (by omega) (by omega)]
    simp only [smF]
    rw [Nat.add_assoc]
theorem e_leastC {f : Nat → Nat} {s : Sto} {a : Nat} (hs : TC s f) (ha : a ≤ 50) : f3_atLeast 41 (nI a) s = some (lN (smF f (83 - a) a), s) := by
  have lp := leastC_loop hs (83 - a) a FU 0 (by omega) (by unfold FU; omega)
  have x : (if (0 : Int32) < nI a then nI a else 0) = nI a := by
    by_cases c : a = 0
    · subst c; decide
    · rw [if_pos (show (0 : Int32) < nI a from nI_lt (a := 0) (by omega) (by omega))]
  rw [Nat.zero_add, lN_0] at lp
  unfold f3_atLeast
  rw [if_pos kd_41, x, nm_eq, lp, bd2_some]
theorem e_sumC {f : Nat → Nat} {s : Sto} (hs : TC s f) : f3_sumOfRows 41 s = some (lN (smF (fun j => j * f j) 83 0), s) := by
  have lp := sumC_loop hs 83 0 FU 0 (by omega) (by decide)
  rw [Nat.zero_add, lN_0, show nI 0 = 0 from rfl] at lp
  unfold f3_sumOfRows
  rw [if_pos kd_41, lp, bd2_some]
-- the check's 96 numbers
def TM (s : Sto) (f : Nat → Nat) : Prop := ∀ j, j < 96 → s.2 62 j = lN (f j)
theorem stepM_loop {p : Nat} {f : Nat → Nat} {a2 a4 : Int32} (hp : p ≤ 10) (hf : f 96 = 0) : ∀ (d i fuel : Nat) (s : Sto), i + d = 96 → d < fuel → TM s f → (∀ j, j < i → s.2 63 j = lN (stp p f j)) → ∃ u, L9_goChance_46 43 a2 (nI p) a4 fuel (nI i) s = some u ∧ u.1 = s.1 ∧ TM u f ∧ ∀ j, j < 96 → u.2 63 j = lN (stp p f j) := by
  intro d
  induction d with
  | zero =>
    intro i fuel s e F hs ht
    obtain ⟨q, rfl⟩ : ∃ q, fuel = q + 1 := ⟨fuel - 1, by omega⟩
    have : i = 96 := by omega
    subst this
    refine ⟨s, ?_, rfl, hs, ht⟩
    unfold L9_goChance_46
    rw [if_pos (by decide)]
  | succ d ih =>
    intro i fuel s e F hs ht
    obtain ⟨q, rfl⟩ : ∃ q, fuel = q + 1 := ⟨fuel - 1, by omega⟩
    have ten : (10 : Int32) - nI p = nI (10 - p) := pk_sub (b := p) (a := 10) hp
    have b0 : inb (0 : Int32) (ln (43 + 19)) := by decide
    have c0 : (0 : Int32).toNatClampNeg = 0 := by decide
    have bi : inb (nI i) (ln (43 + 20)) := inb_nI (n := i) (m := 96) (by omega) (by omega)
    have ci : (nI i).toNatClampNeg = i := nI_clamp (by omega)
    have x12 : (if nI i ≤ 0 then (if inb (0 : Int32) (ln (43 + 19)) then some ((s.2 (43 + 19) (0 : Int32).toNatClampNeg) * (nI p).toInt64) else none) else if inb (nI i - (1 : Int32)) (ln (43 + 19)) then some ((s.2 (43 + 19) (nI i - (1 : Int32)).toNatClampNeg) * ((10 : Int32) - nI p).toInt64) else none) = some (lN (if i = 0 then f 0 * p else f (i - 1) * (10 - p))) := by
      rw [ten, nI_l (by omega), nI_l (by omega)]
      by_cases c : i = 0
      · subst c
        rw [if_pos (by decide), if_pos b0, c0, show s.2 (43 + 19) 0 = lN (f 0) from hs 0 (by omega), lN_mul, if_pos rfl]
      · rw [if_neg (nI_nle (by omega) (by omega)), show nI i - 1 = nI (i - 1) by rw [show i = (i - 1) + 1 by omega, nI_pred, Nat.add_sub_cancel], if_pos (show inb (nI (i - 1)) (ln (43 + 19)) from inb_nI (n := i - 1) (m := 96) (by omega) (by omega)), nI_clamp (by omega), show s.2 (43 + 19) (i - 1) = lN (f (i - 1)) from hs _ (by omega), lN_mul, if_neg c]
    have go : ∀ (y z : Int64), z = lN (stp p f i) → ∃ u, L9_goChance_46 43 a2 (nI p) a4 q (nI (i + 1)) (stL (stL s 63 i y) 63 i z) = some u ∧ u.1 = s.1 ∧ TM u f ∧ ∀ j, j < 96 → u.2 63 j = lN (stp p f j) := by
      intro y z hz
      obtain ⟨u, u1, u2, u3, u4⟩ := ih (i + 1) q (stL (stL s 63 i y) 63 i z) (by omega) (by omega) (fun j hj => by rw [stL_get, if_neg (by omega), stL_get, if_neg (by omega)]; exact hs j hj) (fun j hj => by
        rw [stL_get]
        by_cases c : j = i
        · rw [if_pos ⟨rfl, c⟩, hz, c]
        · rw [if_neg (fun w => c w.2), stL_get, if_neg (fun w => c w.2)]; exact ht j (by omega))
      exact ⟨u, u1, u2, u3, u4⟩
    have g20 : ∀ y : Int64, (stL s (43 + 20) i y).2 (43 + 20) i = y := fun y => by rw [stL_get, if_pos ⟨rfl, rfl⟩]
    unfold L9_goChance_46
    rw [if_neg (show ¬ (96 : Int32) ≤ nI i from nI_ge (b := 96) (by omega) (by omega)), x12, bd1_some, nI_1]
    simp only [if_pos bi, ci, nm_eq, g20]
    by_cases c : i + 1 < 96
    · have b3 : inb (nI (i + 1)) (ln (43 + 19)) := inb_nI (n := i + 1) (m := 96) c (by omega)
      have g19 : ∀ y : Int64, (stL s (43 + 20) i y).2 (43 + 19) (i + 1) = lN (f (i + 1)) := fun y => by rw [stL_get, if_neg (by omega)]; exact hs (i + 1) c
      rw [if_neg (show ¬ (96 : Int32) ≤ nI (i + 1) from nI_ge (b := 96) (by omega) (by omega)), if_pos b3, nI_clamp (by omega), g19]
      apply go
      rw [nI_l (by omega), lN_mul, lN_add]
      unfold stp
      by_cases c1 : i = 0
      · subst c1
        rw [if_pos rfl, if_pos rfl, Nat.add_mul, Nat.add_comm]
      · rw [if_neg c1, if_neg c1]
    · rw [if_pos (show (96 : Int32) ≤ nI (i + 1) from nI_le (a := 96) (by omega) (by omega))]
      apply go
      have i5 : i = 95 := by omega
      subst i5
      unfold stp
      rw [if_neg (by omega), if_neg (by omega), show 95 + 1 = 96 from rfl, hf, Nat.zero_mul, Nat.add_zero, Int64.add_zero]
theorem copyM_loop {p : Nat} {f : Nat → Nat} {a2 a3 a4 : Int32} : ∀ (d i fuel : Nat) (s : Sto), i + d = 96 → d < fuel → (∀ j, j < 96 → s.2 63 j = lN (f j)) → (∀ j, j < i → s.2 62 j = lN (f j)) → ∃ u, L9_goChance_136 43 a2 a3 a4 fuel (nI i) s = some u ∧ u.1 = s.1 ∧ TM u f := by
  intro d
  induction d with
  | zero =>
    intro i fuel s e F hs ht
    obtain ⟨q, rfl⟩ : ∃ q, fuel = q + 1 := ⟨fuel - 1, by omega⟩
    have : i = 96 := by omega
    subst this
    refine ⟨s, ?_, rfl, ht⟩
    unfold L9_goChance_136
    rw [if_pos (by decide)]
  | succ d ih =>
    intro i fuel s e F hs ht
    obtain ⟨q, rfl⟩ : ∃ q, fuel = q + 1 := ⟨fuel - 1, by omega⟩
    have b1 : inb (nI i) (ln (43 + 20)) := inb_nI (n := i) (m := 96) (by omega) (by omega)
    have b2 : inb (nI i) (ln (43 + 19)) := inb_nI (n := i) (m := 96) (by omega) (by omega)
    obtain ⟨u, u1, u2, u3⟩ := ih (i + 1) q (stL s 62 i (lN (f i))) (by omega) (by omega) (fun j hj => by rw [stL_get, if_neg (by omega)]; exact hs j hj) (fun j hj => by
      rw [stL_get]
      by_cases c : j = i
      · rw [if_pos ⟨rfl, c⟩, c]
      · rw [if_neg (fun w => c w.2)]; exact ht j (by omega))
    refine ⟨u, ?_, u2, u3⟩
    unfold L9_goChance_136
    rw [if_neg (show ¬ (96 : Int32) ≤ nI i from nI_ge (b := 96) (by omega) (by omega)), if_pos b1, if_pos b2, nI_clamp (by omega), nm_eq, nI_1, show s.2 (43 + 20) i = lN (f i) from hs i (by omega)]
    exact u1
theorem goM_loop {p h0 n : Nat} (hp : p ≤ 10) (hn : n ≤ 12) (hh : h0 + n ≤ 82) : ∀ (d i fuel : Nat) (s : Sto), i + d = n → d < fuel → TM s (QN p h0 i) → ∃ u, L9_goChance_37 43 (nI n) (nI p) fuel (nI i) s = some u ∧ u.1 = s.1 ∧ TM u (QN p h0 n) := by
  intro d
  induction d with
  | zero =>
    intro i fuel s e F hs
    obtain ⟨q, rfl⟩ : ∃ q, fuel = q + 1 := ⟨fuel - 1, by omega⟩
    have : i = n := by omega
    subst this
    refine ⟨s, ?_, rfl, hs⟩
    unfold L9_goChance_37
    rw [if_pos (Int32.le_refl _)]
  | succ d ih =>
    intro i fuel s e F hs
    obtain ⟨q, rfl⟩ : ∃ q, fuel = q + 1 := ⟨fuel - 1, by omega⟩
    obtain ⟨u, u1, u2, u3, u4⟩ := stepM_loop (a2 := nI n) (a4 := nI i) hp (QN_up i 96 (by omega)) 96 0 FU s (by omega) (by decide) hs (fun j hj => by omega)
    obtain ⟨w, w1, w2, w3⟩ := copyM_loop (p := p) (f := stp p (QN p h0 i)) (a2 := nI n) (a3 := nI p) (a4 := nI i) 96 0 FU u (by omega) (by decide) u4 (fun j hj => by omega)
    rw [show nI 0 = 0 from rfl] at u1 w1
    obtain ⟨v, v1, v2, v3⟩ := ih (i + 1) q w (by omega) (by omega) w3
    refine ⟨v, ?_, (v2.trans w2).trans u2, v3⟩
    unfold L9_goChance_37
    rw [if_neg (nI_ge (by omega) (by omega)), u1, bd1_some, w1, bd1_some, nI_1]
    exact v1
theorem startM {a2 a3 : Int32} {h0 : Nat} (hh : h0 < 96) : ∀ (d i fuel : Nat) (s : Sto), i + d = 96 → d < fuel → (∀ j, j < i → s.2 62 j = lN (QN 0 h0 0 j)) → ∃ u, L9_goChance_3 43 (nI h0) a2 a3 fuel (nI i) s = some u ∧ u.1 = s.1 ∧ TM u (QN 0 h0 0) := by
  intro d
  induction d with
  | zero =>
    intro i fuel s e F ht
    obtain ⟨q, rfl⟩ : ∃ q, fuel = q + 1 := ⟨fuel - 1, by omega⟩
    have : i = 96 := by omega
    subst this
    refine ⟨s, ?_, rfl, ht⟩
    unfold L9_goChance_3
    rw [if_pos (by decide)]
  | succ d ih =>
    intro i fuel s e F ht
    obtain ⟨q, rfl⟩ : ∃ q, fuel = q + 1 := ⟨fuel - 1, by omega⟩
    have b2 : inb (nI i) (ln (43 + 19)) := inb_nI (n := i) (m := 96) (by omega) (by omega)
    have go : ∀ v : Int64, v = lN (QN 0 h0 0 i) → ∃ u, L9_goChance_3 43 (nI h0) a2 a3 q (nI (i + 1)) (stL s 62 i v) = some u ∧ u.1 = s.1 ∧ TM u (QN 0 h0 0) := by
      intro v hv
      obtain ⟨u, u1, u2, u3⟩ := ih (i + 1) q (stL s 62 i v) (by omega) (by omega) (fun j hj => by
        rw [stL_get]
        by_cases c : j = i
        · rw [if_pos ⟨rfl, c⟩, hv, c]
        · rw [if_neg (fun w => c w.2)]; exact ht j (by omega))
      exact ⟨u, u1, u2, u3⟩
    unfold L9_goChance_3
    rw [if_neg (show ¬ (96 : Int32) ≤ nI i from nI_ge (b := 96) (by omega) (by omega)), if_pos b2, if_pos b2, nI_clamp (by omega), nm_eq, nm_eq, nI_1]
    by_cases c : i = h0
    · rw [if_pos (by rw [c])]; exact go 1 (by simp only [QN]; rw [if_pos c]; rfl)
    · rw [if_neg (fun z => c ((nI_eq (by omega) (by omega)).mp z))]; exact go 0 (by simp only [QN]; rw [if_neg c]; rfl)
theorem e_goChance {p h0 n : Nat} {s : Sto} (hp : p ≤ 10) (hn : n ≤ 12) (hh : h0 + n ≤ 82) : ∃ u, f9_goChance 43 (nI h0) (nI n) (nI p) s = some u ∧ u.1 = s.1 ∧ TM u (QN p h0 n) := by
  obtain ⟨u, u1, u2, u3⟩ := startM (h0 := h0) (a2 := nI n) (a3 := nI p) (by omega) 96 0 FU s (by omega) (by decide) (fun j hj => by omega)
  obtain ⟨v, v1, v2, v3⟩ := goM_loop hp hn hh n 0 FU u (by omega) (by unfold FU; omega) u3
  rw [show nI 0 = 0 from rfl] at u1 v1
  refine ⟨v, ?_, v2.trans u2, v3⟩
  unfold f9_goChance
  rw [if_pos kd_43, u1, bd1_some, v1, bd1_some]
theorem sumM_loop {f : Nat → Nat} {s : Sto} {a1 a3 a4 : Int32} (hs : TM s f) : ∀ (d i fuel S : Nat), i + d = 96 → d < fuel → L9_chance_69 43 a1 a3 a4 s fuel (lN S) (nI i) = some (lN (S + smF (fun j => j * f j) d i)) := by
  intro d
  induction d with
  | zero =>
    intro i fuel S e F
    obtain ⟨q, rfl⟩ : ∃ q, fuel = q + 1 := ⟨fuel - 1, by omega⟩
    have : i = 96 := by omega
    subst this
    unfold L9_chance_69
    rw [if_pos (by decide)]; rfl
  | succ d ih =>
    intro i fuel S e F
    obtain ⟨q, rfl⟩ : ∃ q, fuel = q + 1 := ⟨fuel - 1, by omega⟩
    unfold L9_chance_69
    rw [if_neg (show ¬ (96 : Int32) ≤ nI i from nI_ge (b := 96) (by omega) (by omega)), if_pos (show inb (nI i) (ln (43 + 19)) from inb_nI (n := i) (m := 96) (by omega) (by omega)), nI_clamp (by omega), show s.2 (43 + 19) i = lN (f i) from hs i (by omega), nI_l (by omega), lN_mul, lN_add, nm_eq, nI_1, ih (i + 1) q _ (by omega) (by omega)]
    simp only [smF]
    rw [Nat.add_assoc]
theorem leastM_loop {f : Nat → Nat} {s : Sto} (hs : TM s f) : ∀ (d i fuel S : Nat), i + d = 96 → d < fuel → L9_atLeast_5 43 s fuel (lN S) (nI i) = some (lN (S + smF f d i)) := by
  intro d
  induction d with
  | zero =>
    intro i fuel S e F
    obtain ⟨q, rfl⟩ : ∃ q, fuel = q + 1 := ⟨fuel - 1, by omega⟩
    have : i = 96 := by omega
    subst this
    unfold L9_atLeast_5
    rw [if_pos (by decide)]; rfl
  | succ d ih =>
    intro i fuel S e F
    obtain ⟨q, rfl⟩ : ∃ q, fuel = q + 1 := ⟨fuel - 1, by omega⟩
    unfold L9_atLeast_5
    rw [if_neg (show ¬ (96 : Int32) ≤ nI i from nI_ge (b := 96) (by omega) (by omega)), if_pos (show inb (nI i) (ln (43 + 19)) from inb_nI (n := i) (m := 96) (by omega) (by omega)), nI_clamp (by omega), show s.2 (43 + 19) i = lN (f i) from hs i (by omega), lN_add, nm_eq, nI_1, ih (i + 1) q _ (by omega) (by omega)]
    simp only [smF]
    rw [Nat.add_assoc]
theorem e_leastM {f : Nat → Nat} {s : Sto} {a : Nat} (hs : TM s f) (ha : a ≤ 50) : f9_atLeast 43 (nI a) s = some (lN (smF f (96 - a) a), s) := by
  have lp := leastM_loop hs (96 - a) a FU 0 (by omega) (by unfold FU; omega)
  rw [Nat.zero_add, lN_0] at lp
  unfold f9_atLeast
  rw [if_pos kd_43, lp, bd1_some]
theorem cut_top {f : Nat → Nat} {a : Nat} (ha : a ≤ 83) (h : ∀ j, 83 ≤ j → f j = 0) : smF f (96 - a) a = smF f (83 - a) a := by
  rw [show 96 - a = (83 - a) + 13 by omega, smF_add, smF_0 13 (a + (83 - a)) (fun j hj => h j (by omega)), Nat.add_zero]
