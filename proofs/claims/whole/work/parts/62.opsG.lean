-- who lies
def hb (R : Nat → Nat) (so a1 : Int32) : Nat → Nat → Int32 → Int32
  | 0, _, v => v
  | d + 1, i, v => if R i < 96 ∧ nI (R i / 16) = a1 then hb R so a1 d (i + 1) (if tr (R i) so = true then v ||| 1 else v ||| 2) else hb R so a1 d (i + 1) v
theorem hab_loop {s : Sto} {R : Nat → Nat} {so a1 : Int32} {m : Nat} (hm : m ≤ 60) (hR : ∀ j, j < m → CodL (R j)) (h1 : s.1 27 1 = nI m) (hr : ∀ j, j < m → s.1 28 j = nI (R j)) : ∀ (d i fuel : Nat) (v : Int32), i + d = m → d < fuel → L1_habitOf_5 27 a1 so fuel v (nI i) s = some (hb R so a1 d i v, s) := by
  intro d
  induction d with
  | zero =>
    intro i fuel v e F
    obtain ⟨q, rfl⟩ : ∃ q, fuel = q + 1 := ⟨fuel - 1, by omega⟩
    have : i = m := by omega
    subst this
    unfold L1_habitOf_5
    rw [h1, if_pos (Int32.le_refl _)]; rfl
  | succ d ih =>
    intro i fuel v e F
    obtain ⟨q, rfl⟩ : ∃ q, fuel = q + 1 := ⟨fuel - 1, by omega⟩
    have cl := hR i (by omega)
    have c1 : R i < 1000 := by rcases cl with h | h | h | h <;> omega
    unfold L1_habitOf_5
    rw [h1, if_neg (nI_ge (by omega) (by omega)), e_atN (k := 27 + 1) (i := i) kd_28 (by rw [show ln (27 + 1) = 60 from rfl]; omega), bd2_some, show s.1 (27 + 1) i = nI (R i) from hr i (by omega), e_isSpoken c1, bd2_some, nI_1]
    unfold hb
    by_cases sp : R i < 96
    · rw [if_pos (show R i < 100 by omega), if_neg (show ¬ (1 : Int32) = 0 by decide), e_guestOf c1, bd2_some]
      by_cases g : nI (R i / 16) = a1
      · rw [if_pos g, if_pos ⟨sp, g⟩, e_isTrue c1, bd2_some]
        cases t : tr (R i) so with
        | true => simp only [if_true]; rw [if_neg (show ¬ (1 : Int32) = 0 by decide)]; exact ih (i + 1) q _ (by omega) (by omega)
        | false => simp only [Bool.false_eq_true, if_false, if_true]; exact ih (i + 1) q _ (by omega) (by omega)
      · rw [if_neg g, if_neg (fun z => g z.2)]; exact ih (i + 1) q _ (by omega) (by omega)
    · have : ¬ R i < 100 := by rcases cl with h | h | h | h <;> omega
      rw [if_neg this, if_pos rfl, if_neg (fun z => sp z.1)]; exact ih (i + 1) q _ (by omega) (by omega)
theorem saysM_loop {s : Sto} {R : Nat → Nat} {so a1 : Int32} {m : Nat} (hm : m ≤ 60) (hR : ∀ j, j < m → CodL (R j)) (h1 : s.1 43 17 = nI m) (hso : s.1 43 1 = so) (hr : ∀ j, j < m → RemM s j (R j)) : ∀ (d i fuel : Nat) (v : Int32), i + d = m → d < fuel → L9_says_23 43 a1 fuel v (nI i) s = some (hb R so a1 d i v, s) := by
  intro d
  induction d with
  | zero =>
    intro i fuel v e F
    obtain ⟨q, rfl⟩ : ∃ q, fuel = q + 1 := ⟨fuel - 1, by omega⟩
    have : i = m := by omega
    subst this
    unfold L9_says_23
    rw [h1, if_pos (Int32.le_refl _)]; rfl
  | succ d ih =>
    intro i fuel v e F
    obtain ⟨q, rfl⟩ : ∃ q, fuel = q + 1 := ⟨fuel - 1, by omega⟩
    have cl := hR i (by omega)
    have rm := hr i (by omega)
    have q1 : inb (nI i) (ln (43 + 8)) := inb_nI (n := i) (m := 60) (by omega) (by omega)
    have q2 : inb (nI i) (ln (43 + 9)) := inb_nI (n := i) (m := 60) (by omega) (by omega)
    have q3 : (nI i).toNatClampNeg = i := nI_clamp (by omega)
    unfold L9_says_23
    rw [h1, if_neg (nI_ge (by omega) (by omega)), if_pos q1, if_pos q2, q3, nI_1, Int32.or_zero]
    unfold hb
    by_cases sp : R i < 96
    · obtain ⟨h2, h3, h4, h5, h6⟩ : R i < 100 ∧ s.1 51 i = 0 ∧ s.1 52 i = nI (R i / 16) ∧ s.1 53 i = nI (R i / 2 % 8) ∧ s.1 54 i = nI (R i % 2) := by
        rcases rm with ⟨a, -⟩ | ⟨a, -⟩ | ⟨a, -⟩ | h
        · omega
        · omega
        · omega
        · exact h
      rw [show s.1 (43 + 8) i = 0 from h3, if_pos rfl, show s.1 (43 + 9) i = nI (R i / 16) from h4]
      by_cases g : nI (R i / 16) = a1
      · rw [if_pos g, bd1_some, if_neg (show ¬ (1 : Int32) = 0 by decide), if_pos ⟨sp, g⟩, hso, e9_isLie (by omega) (by omega) rm, bd2_some]
        cases t : tr (R i) so with
        | true => simp only [if_true]; exact ih (i + 1) q _ (by omega) (by omega)
        | false => simp only [Bool.false_eq_true, if_false]; rw [if_neg (show ¬ (1 : Int32) = 0 by decide)]; exact ih (i + 1) q _ (by omega) (by omega)
      · rw [if_neg g, bd1_some, if_pos rfl, if_neg (fun z => g z.2)]; exact ih (i + 1) q _ (by omega) (by omega)
    · have n0 : ¬ s.1 51 i = 0 := by
        rcases rm with ⟨-, a⟩ | ⟨-, a⟩ | ⟨-, a⟩ | ⟨a, -⟩
        · rw [a]; decide
        · rw [a]; decide
        · rw [a]; decide
        · rcases cl with h | h | h | h <;> omega
      rw [if_neg (show ¬ s.1 (43 + 8) i = 0 from n0), bd1_some, if_pos rfl, if_neg (fun z => sp z.1)]; exact ih (i + 1) q _ (by omega) (by omega)
theorem op_says {s : Sto} (h : RR s) (a : Int32) : ∃ r s1 s2, f8_says 0 a s = some (r, s1) ∧ f9_says 43 a s1 = some (r, s2) ∧ RR s2 := by
  obtain ⟨⟨D, hD, hC, hM⟩, hp, h0, h1⟩ := id h
  obtain ⟨⟨n, hn1, hn2, en⟩, -⟩ := id hD
  obtain ⟨⟨pc, hpc, p1, p2⟩, p3⟩ := id hp
  have eg : f8_isGuest a s = some (gx a, s) := e_isGuest
  by_cases hg : gx a = 0
  · exact ⟨-1, s, s, by unfold f8_says; rw [if_pos kd_0, eg, bd2_some, if_pos hg], by unfold f9_says; rw [if_pos kd_43, e9_isGuestG, bd2_some, if_pos hg], h⟩
  · obtain ⟨k1, k2⟩ := psO_ok (p := s.1 26) (n := pc) (nf := n) hn1 hn2 hpc
    obtain ⟨t, t1, t2, t3, t4, t5⟩ := e_readE (p := s.1 26) (n := pc) (nf := n) hn1 hn2 hpc p1 (fun _ _ => rfl)
    have fe : FrE s t := fun k hk => t4 k (by omega) (by omega)
    have rt := h.same fe.same
    obtain ⟨u, u1, u2, u3, u4⟩ := e_faultE (s := t) (p := s.1 26) (n := pc) (nf := n) hn1 hn2 hpc (by rw [fe 43 (by omega)]; exact p2) (fun k hk => by rw [fe 50 (by omega)]; exact (p3 k hk).symm) (by rw [fe 43 (by omega)]; exact hM.1.1.trans en)
    have e10 : s.1 (0 + 1) 0 = nI n := hC.lit.1.1.trans en
    have e11 : t.1 (0 + 1) 1 = D.1 1 := by rw [fe _ (by omega)]; exact hC.lit.1.2.1
    by_cases hf : (psO (s.1 26) pc n).1 = -6
    · have hl := hab_loop (s := t) (so := D.1 1) (a1 := a) k1 (fun j hj => (k2 j hj).l hn2) t2 t3 (psO (s.1 26) pc n).2.1 0 FU 0 (by omega) (by unfold FU; omega)
      have ml := saysM_loop (s := u) (so := D.1 1) (a1 := a) k1 (fun j hj => (k2 j hj).l hn2) u2 (by rw [u4.2 1 (by omega), fe 43 (by omega)]; exact hM.1.2.1) u3 (psO (s.1 26) pc n).2.1 0 FU 0 (by omega) (by unfold FU; omega)
      rw [show nI 0 = 0 from rfl] at hl ml
      refine ⟨hb (psO (s.1 26) pc n).2.2 (D.1 1) a (psO (s.1 26) pc n).2.1 0 0, t, u, ?_, ?_, rt.same u4.same⟩
      · unfold f8_says
        rw [if_pos kd_0, eg, bd2_some, if_neg hg, e10, show (0 + 27) = 27 from rfl, show (0 + 25) = 25 from rfl, t1, bd2_some, if_pos hf, e11]
        unfold f1_habitOf
        rw [if_pos kd_27, hl, bd2_some, bd2_some]
      · unfold f9_says
        rw [if_pos kd_43, e9_isGuestG, bd2_some, if_neg hg, u1, bd2_some, if_pos (by rw [hf]; decide), ml, bd2_some]
    · have hz : ¬ (psO (s.1 26) pc n).1 < 0 := by
        rcases psO_val (p := s.1 26) (nf := n) hpc with e | ⟨k, hk, e⟩
        · exact absurd e hf
        · rw [e]; exact nI_pos (by omega)
      refine ⟨-5, t, u, ?_, ?_, rt.same u4.same⟩
      · unfold f8_says
        rw [if_pos kd_0, eg, bd2_some, if_neg hg, e10, show (0 + 27) = 27 from rfl, show (0 + 25) = 25 from rfl, t1, bd2_some, if_neg hf]
      · unfold f9_says
        rw [if_pos kd_43, e9_isGuestG, bd2_some, if_neg hg, u1, bd2_some, if_neg hz]
-- evenings by draws
def dc (n x : Nat) : Nat := if x % 8 = 0 then 100 else if x % 8 = 1 then 101 else if x % 8 = 2 then 102 else (x / 8 % 6) * 16 + (x / 48 % n) * 2 + (x / 480 % 2)
theorem dc_s {n x : Nat} (hn1 : 1 ≤ n) (hn2 : n ≤ 8) : (x / 8 % 6) * 16 + (x / 48 % n) * 2 + (x / 480 % 2) < 96 ∧ ((x / 8 % 6) * 16 + (x / 48 % n) * 2 + (x / 480 % 2)) / 16 = x / 8 % 6 ∧ ((x / 8 % 6) * 16 + (x / 48 % n) * 2 + (x / 480 % 2)) / 2 % 8 = x / 48 % n ∧ ((x / 8 % 6) * 16 + (x / 48 % n) * 2 + (x / 480 % 2)) % 2 = x / 480 % 2 := by
  have a := Nat.mod_lt (x / 8) (show 0 < 6 by omega)
  have b := Nat.mod_lt (x / 48) (show 0 < n by omega)
  have c := Nat.mod_lt (x / 480) (show 0 < 2 by omega)
  generalize x / 8 % 6 = g at *
  generalize x / 48 % n = f at *
  generalize x / 480 % 2 = b' at *
  omega
theorem dc_cod {n x : Nat} (hn1 : 1 ≤ n) (hn2 : n ≤ 8) : CodL (dc n x) := by
  unfold dc
  split
  · exact Or.inl rfl
  · split
    · exact Or.inr (Or.inl rfl)
    · split
      · exact Or.inr (Or.inr (Or.inl rfl))
      · exact Or.inr (Or.inr (Or.inr (dc_s hn1 hn2).1))
theorem m8 {x : Nat} (h : x < 65537) : nI x - nI x / (8 : Int32) * (8 : Int32) = nI (x % 8) := pk_rem (d := 8) (by omega) (by omega) (by omega)
theorem m86 {x : Nat} (h : x < 65537) : nI x / (8 : Int32) - nI x / (8 : Int32) / (6 : Int32) * (6 : Int32) = nI (x / 8 % 6) := by
  rw [show nI x / (8 : Int32) = nI (x / 8) from pk_div (d := 8) (by omega) (by omega) (by omega)]
  exact pk_rem (d := 6) (by omega) (by omega) (by omega)
theorem m48 {n x : Nat} (h : x < 65537) (hn1 : 1 ≤ n) (hn2 : n ≤ 8) : nI x / (48 : Int32) - nI x / (48 : Int32) / nI n * nI n = nI (x / 48 % n) := by
  rw [show nI x / (48 : Int32) = nI (x / 48) from pk_div (d := 48) (by omega) (by omega) (by omega)]
  exact pk_rem (by omega) (by omega) (by omega)
theorem m480 {x : Nat} (h : x < 65537) : nI x / (480 : Int32) - nI x / (480 : Int32) / (2 : Int32) * (2 : Int32) = nI (x / 480 % 2) := by
  rw [show nI x / (480 : Int32) = nI (x / 480) from pk_div (d := 480) (by omega) (by omega) (by omega)]
  exact pk_rem (d := 2) (by omega) (by omega) (by omega)
theorem e_drawnRemark {n x : Nat} {s : Sto} (hx : x < 65537) (hn1 : 1 ≤ n) (hn2 : n ≤ 8) : f8_drawnRemark (nI x) (nI n) s = some (nI (dc n x), s) := by
  have b := Nat.mod_lt (x / 480) (show 0 < 2 by omega)
  have q0 : (nI (x % 8) = (0 : Int32)) = (x % 8 = 0) := nI_is (b := 0) (by omega) (by omega)
  have q1 : (nI (x % 8) = (1 : Int32)) = (x % 8 = 1) := nI_is (b := 1) (by omega) (by omega)
  have q2 : (nI (x % 8) = (2 : Int32)) = (x % 8 = 2) := nI_is (b := 2) (by omega) (by omega)
  have q4 : (nI (x / 480 % 2) = (1 : Int32)) = (x / 480 % 2 = 1) := nI_is (b := 1) (by omega) (by omega)
  unfold f8_drawnRemark dc
  rw [m8 hx, m86 hx, m48 hx hn1 hn2, m480 hx]
  simp only [q0, q1, q2, q4]
  by_cases a0 : x % 8 = 0
  · rw [if_pos a0, if_pos a0]; rfl
  · rw [if_neg a0, if_neg a0]
    by_cases a1 : x % 8 = 1
    · rw [if_pos a1, if_pos a1]; rfl
    · rw [if_neg a1, if_neg a1]
      by_cases a2 : x % 8 = 2
      · rw [if_pos a2, if_pos a2]; rfl
      · rw [if_neg a2, if_neg a2, if_neg (nI_nle (by omega) (by omega)), if_pos (nI_ne0 (by omega) (by omega)), bd1_some]
        unfold f8_spoken
        by_cases a4 : x / 480 % 2 = 1
        · rw [if_pos a4, bd1_some, if_neg (show ¬ (1 : Int32) = 0 by decide), bd2_some, show (16 : Int32) = nI 16 from rfl, show (2 : Int32) = nI 2 from rfl, pk_mul, pk_mul, nI_add, nI_1, a4]
        · rw [if_neg a4, bd1_some, if_pos rfl, bd2_some, show (16 : Int32) = nI 16 from rfl, show (2 : Int32) = nI 2 from rfl, pk_mul, pk_mul, nI_add, show (0 : Int32) = nI 0 from rfl, nI_add, show x / 480 % 2 = 0 by omega]
def dstep (tm : Nat → Int32) (n : Nat) (so : Int32) (x : Nat) (N : NS) : NS := if nwhy tm (dc n x) so N = 0 then nhear (dc n x) so N else N
theorem dstep_ok {tm : Nat → Int32} {n x : Nat} {so : Int32} {N : NS} (hn1 : 1 ≤ n) (hn2 : n ≤ 8) (h : NOk N) (hl : N.1 4 = 9 ∨ N.1 4 < 6) : NOk (dstep tm n so x N) ∧ ((dstep tm n so x N).1 4 = 9 ∨ (dstep tm n so x N).1 4 < 6) := by
  unfold dstep
  by_cases w : nwhy tm (dc n x) so N = 0
  · rw [if_pos w]; exact ⟨nhear_ok h w, nhear_l (dc_cod hn1 hn2)⟩
  · rw [if_neg w]; exact ⟨h, hl⟩
/-- alike but for what went -/
def sim (N M : NS) : Prop := (∀ i, i ≠ 3 → N.1 i = M.1 i) ∧ N.2 = M.2
theorem sim_why {tm : Nat → Int32} {c : Nat} {so : Int32} {N M : NS} (h : sim N M) : nwhy tm c so N = nwhy tm c so M := by
  unfold nwhy nknit
  rw [h.1 0 (by omega), h.1 1 (by omega)]
theorem sim_set {N M : NS} {j v : Nat} (h : sim N M) : sim (nset N j v) (nset M j v) := by
  refine ⟨fun i hi => ?_, h.2⟩
  simp only [nset]
  rw [h.1 i hi]
theorem sim_lay {N M : NS} {c k : Int32} (h : sim N M) : sim (nlay N c k) (nlay M c k) := by
  refine ⟨fun i hi => ?_, ?_⟩
  · simp only [nlay]; rw [h.1 0 (by omega), h.1 2 (by omega), h.1 i hi]
  · simp only [nlay]; rw [h.1 0 (by omega), h.1 1 (by omega), h.2]
theorem sim_drop {N M : NS} {r : Nat} (h : sim N M) : sim (ndrop N r) (ndrop M r) := by
  refine ⟨fun i hi => ?_, h.2⟩
  simp only [ndrop]
  rw [h.1 0 (by omega), h.1 i hi, if_neg hi, if_neg hi]
theorem sim_undo {N M : NS} (h : sim N M) : sim (nundo N) (nundo M) := by
  unfold nundo
  rw [h.1 0 (by omega), h.2]
  split
  · exact h
  · exact sim_drop h
theorem sim_hear {c : Nat} {so : Int32} {N M : NS} (h : sim N M) : sim (nhear c so N) (nhear c so M) := by
  unfold nhear
  rw [h.1 0 (by omega), h.1 1 (by omega), h.1 4 (by omega)]
  split
  · exact sim_set (sim_set h)
  · split
    · exact sim_undo (sim_set h)
    · split
      · exact sim_lay (sim_set h)
      · split
        · split
          · exact sim_set h
          · exact sim_drop (sim_set h)
        · exact sim_lay (sim_set h)
theorem sim_step {tm : Nat → Int32} {n x : Nat} {so : Int32} {N M : NS} (h : sim N M) : sim (dstep tm n so x N) (dstep tm n so x M) := by
  unfold dstep
  rw [sim_why h]
  split
  · exact sim_hear h
  · exact h
def nx (x : Nat) : Nat := (75 * x + 74) % 65537
def dq (tm : Nat → Int32) (n : Nat) (so : Int32) : Nat → Nat → NS → NS
  | 0, _, N => N
  | d + 1, x, N => dq tm n so d (nx x) (dstep tm n so (nx x) N)
theorem sim_dq {tm : Nat → Int32} {n : Nat} {so : Int32} : ∀ d x N M, sim N M → sim (dq tm n so d x N) (dq tm n so d x M) := by
  intro d
  induction d with
  | zero => intro x N M h; exact h
  | succ d ih => intro x N M h; exact ih _ _ _ (sim_step h)
theorem nx_lt {x : Nat} : nx x < 65537 := Nat.mod_lt _ (by omega)
theorem nx_C {x : Nat} (h : x < 65537) : (((75 : Int32) * nI x) + (74 : Int32)) - (((75 : Int32) * nI x) + (74 : Int32)) / (65537 : Int32) * (65537 : Int32) = nI (nx x) := by
  rw [show (75 : Int32) * nI x + 74 = nI (75 * x + 74) by rw [show (75 : Int32) = nI 75 from rfl, pk_mul]; exact nI_add _ 74]
  exact pk_rem (d := 65537) (by omega) (by omega) (by omega)
theorem nx_M {x : Nat} (h : x < 65537) : (((((75 : Int64) * (nI x).toInt64) + (74 : Int64)) - (((75 : Int64) * (nI x).toInt64) + (74 : Int64)) / (65537 : Int64) * (65537 : Int64)).toInt32) = nI (nx x) := by
  rw [nI_l (show x < 2 ^ 31 by omega), show (75 : Int64) * lN x + 74 = lN (75 * x + 74) by rw [show (75 : Int64) = lN 75 from rfl, lN_mul]; exact lN_add _ 74]
  rw [show lN (75 * x + 74) - lN (75 * x + 74) / (65537 : Int64) * (65537 : Int64) = lN ((75 * x + 74) % 65537) from pk_lRem (b := 65537) (by omega) (by omega) (by omega), lN_i]
  rfl
theorem drawC_loop {tm : Nat → Int32} {n a2 : Nat} {so a3 : Int32} (hn1 : 1 ≤ n) (hn2 : n ≤ 8) (h2 : a2 ≤ 99) : ∀ (d i x fuel : Nat) (N : NS) (s : Sto), i + d = a2 → x < 65537 → d < fuel → NOk N → (N.1 4 = 9 ∨ N.1 4 < 6) → NeC s N → (∀ g, g < 6 → s.1 2 g = tm g) → s.1 1 0 = nI n → s.1 1 1 = so → ∃ t, L8_draws_60 0 (nI a2) a3 30 fuel (nI x) (nI i) s = some t ∧ NeC t (dq tm n so d x N) ∧ FrN s t := by
  intro d
  induction d with
  | zero =>
    intro i x fuel N s e hx F hN hl hne ht h0 h1
    obtain ⟨q, rfl⟩ : ∃ q, fuel = q + 1 := ⟨fuel - 1, by omega⟩
    have : i = a2 := by omega
    subst this
    refine ⟨s, ?_, hne, FrN.rf⟩
    unfold L8_draws_60
    rw [if_pos (Int32.le_refl _)]
  | succ d ih =>
    intro i x fuel N s e hx F hN hl hne ht h0 h1
    obtain ⟨q, rfl⟩ : ∃ q, fuel = q + 1 := ⟨fuel - 1, by omega⟩
    obtain ⟨o1, o2⟩ := dstep_ok (tm := tm) (x := nx x) (so := so) hn1 hn2 hN hl
    unfold L8_draws_60
    rw [if_neg (nI_ge (by omega) (by omega)), nx_C hx, nm_eq, show s.1 (0 + 1) 0 = nI n from h0, e_drawnRemark nx_lt hn1 hn2, bd2_some, show s.1 (0 + 1) 1 = so from h1, show (0 + 1) = 1 from rfl, e_whyNot (dc_cod hn1 hn2) hN hne ht, bd2_some, nI_1]
    unfold dq
    have go : ∀ t, NeC t (dstep tm n so (nx x) N) → FrN s t → ∃ v, L8_draws_60 0 (nI a2) a3 30 q (nI (nx x)) (nI (i + 1)) t = some v ∧ NeC v (dq tm n so d (nx x) (dstep tm n so (nx x) N)) ∧ FrN s v := by
      intro t tN tf
      obtain ⟨v, v1, v2, v3⟩ := ih (i + 1) (nx x) q _ t (by omega) nx_lt (by omega) o1 o2 tN (fun g hg => by rw [tf 2 (by omega)]; exact ht g hg) (by rw [tf 1 (by omega)]; exact h0) (by rw [tf 1 (by omega)]; exact h1)
      exact ⟨v, v1, v2, tf.tr v3⟩
    by_cases w : nwhy tm (dc n (nx x)) so N = 0
    · rw [w, if_pos (show nI 0 = 0 from rfl)]
      obtain ⟨t, t1, t2, t3⟩ := e_hear (tm := tm) (dc_cod (x := nx x) hn1 hn2) hN hl w hne
      rw [show s.1 1 1 = so from h1, t1, bd1_some]
      exact go t (by unfold dstep; rw [if_pos w]; exact t2) t3
    · have w3 : nwhy tm (dc n (nx x)) so N ≤ 3 := by unfold nwhy nknit; repeat (first | omega | split)
      rw [if_neg (nI_ne0 (by omega) (by omega))]
      exact go s (by unfold dstep; rw [if_neg w]; exact hne) FrN.rf
/-- what the check's draws may change -/
def FrD (s t : Sto) : Prop := (∀ k, k ≠ 43 → k ≠ 45 → k ≠ 46 → k ≠ 47 → (k < 51 ∨ 54 < k) → t.1 k = s.1 k) ∧ ∀ j, j ≠ 3 → j ≠ 4 → j ≠ 21 → j ≠ 22 → j ≠ 25 → t.1 43 j = s.1 43 j
theorem FrD.rf {s : Sto} : FrD s s := ⟨fun _ _ _ _ _ _ => rfl, fun _ _ _ _ _ _ => rfl⟩
theorem FrD.tr {s t u : Sto} (h : FrD s t) (g : FrD t u) : FrD s u := ⟨fun k a b c d e => (g.1 k a b c d e).trans (h.1 k a b c d e), fun j a b c d e => (g.2 j a b c d e).trans (h.2 j a b c d e)⟩
theorem FrM.d {s t : Sto} (h : FrM s t) : FrD s t := ⟨fun k a b c d _ => h.1 k a b c d, h.2⟩
theorem e_drawn {tm : Nat → Int32} {n x : Nat} {N : NS} {s : Sto} (hx : x < 65537) (hn1 : 1 ≤ n) (hn2 : n ≤ 8) (hN : NOk N) (hl : N.1 4 = 9 ∨ N.1 4 < 6) (hne : NeM s N) (ht : ∀ g, g < 6 → s.1 44 g = tm g) (h0 : s.1 43 0 = nI n) : ∃ t, f9_drawn 43 (nI x) s = some t ∧ NeM t (dstep tm n (s.1 43 1) x N) ∧ FrD s t := by
  have q0 : (nI (x % 8) = (0 : Int32)) = (x % 8 = 0) := nI_is (b := 0) (by omega) (by omega)
  have q1 : (nI (x % 8) = (1 : Int32)) = (x % 8 = 1) := nI_is (b := 1) (by omega) (by omega)
  have q2 : (nI (x % 8) = (2 : Int32)) = (x % 8 = 2) := nI_is (b := 2) (by omega) (by omega)
  have z0 : (0 : Int32).toNatClampNeg = 0 := by decide
  have fin : ∀ (y : Int32), RemM (stI (stI (stI (stI s 51 0 y) 52 0 (nI (x / 8 % 6))) 53 0 (nI (x / 48 % n))) 54 0 (nI (x / 480 % 2))) 0 (dc n x) → ∃ t, (bd2 (f9_whyNot 43 (0 : Int32) ((stI (stI (stI (stI s 51 0 y) 52 0 (nI (x / 8 % 6))) 53 0 (nI (x / 48 % n))) 54 0 (nI (x / 480 % 2))).1 43 1) (stI (stI (stI (stI s 51 0 y) 52 0 (nI (x / 8 % 6))) 53 0 (nI (x / 48 % n))) 54 0 (nI (x / 480 % 2)))) fun r17 s15 =>
      if r17 = 0 then Option.bind (f9_happen 43 (0 : Int32) (s15.1 43 1) s15) fun s18 => some s18 else some s15) = some t ∧ NeM t (dstep tm n (s.1 43 1) x N) ∧ FrD s t := by
    intro y hr
    have fd : FrD s (stI (stI (stI (stI s 51 0 y) 52 0 (nI (x / 8 % 6))) 53 0 (nI (x / 48 % n))) 54 0 (nI (x / 480 % 2))) := ⟨fun k a b c d e => by rw [stI_ne (by omega), stI_ne (by omega), stI_ne (by omega), stI_ne (by omega)], fun j _ _ _ _ _ => by rw [stI_ne (by omega), stI_ne (by omega), stI_ne (by omega), stI_ne (by omega)]⟩
    generalize hu : stI (stI (stI (stI s 51 0 y) 52 0 (nI (x / 8 % 6))) 53 0 (nI (x / 48 % n))) 54 0 (nI (x / 480 % 2)) = u at *
    have e43 : u.1 43 = s.1 43 := by rw [← hu, stI_ne (by omega), stI_ne (by omega), stI_ne (by omega), stI_ne (by omega)]
    have hne2 : NeM u N := hne.keep (fun j hj => by rw [e43]) (fun k a b => by rw [← hu, stI_ne (by omega), stI_ne (by omega), stI_ne (by omega), stI_ne (by omega)])
    have cd := dc_cod (x := x) hn1 hn2
    have why := e9_whyNot (tm := tm) (so := s.1 43 1) (k := 0) (by omega) cd hr hN hne2 (fun g hg => by rw [fd.1 44 (by omega) (by omega) (by omega) (by omega) (by omega)]; exact ht g hg)
    rw [show nI 0 = 0 from rfl] at why
    rw [e43, why, bd2_some]
    unfold dstep
    by_cases w : nwhy tm (dc n x) (s.1 43 1) N = 0
    · obtain ⟨t, t1, t2, t3⟩ := e9_happen (tm := tm) (so := s.1 43 1) (k := 0) (by omega) cd hr hN hl w hne2
      rw [show nI 0 = 0 from rfl] at t1
      rw [w, if_pos (show nI 0 = 0 from rfl), if_pos rfl, e43, t1, bd1_some]
      exact ⟨t, rfl, t2, fd.tr t3.d⟩
    · have w3 : nwhy tm (dc n x) (s.1 43 1) N ≤ 3 := by unfold nwhy nknit; repeat (first | omega | split)
      rw [if_neg (nI_ne0 (by omega) (by omega)), if_neg w]
      exact ⟨u, rfl, hne2, fd⟩
  have e0 : ∀ y : Int32, (stI (stI s (43 + 8) 0 y) (43 + 9) 0 (nI (x / 8 % 6))).1 43 0 = nI n := fun y => by rw [stI_ne (by omega), stI_ne (by omega)]; exact h0
  unfold f9_drawn
  rw [if_pos kd_43, m8 hx, m86 hx]
  simp only [nm_eq, q0, q1, q2, if_pos (show inb (0 : Int32) (ln (43 + 8)) by decide), if_pos (show inb (0 : Int32) (ln (43 + 9)) by decide), if_pos (show inb (0 : Int32) (ln (43 + 10)) by decide), if_pos (show inb (0 : Int32) (ln (43 + 11)) by decide), z0, e0, m48 hx hn1 hn2, m480 hx, if_pos (nI_ne0 (show 0 < n by omega) (show n < 2 ^ 31 by omega))]
  by_cases a0 : x % 8 = 0
  · rw [if_pos a0, bd1_some]
    exact fin 1 (Or.inl ⟨by unfold dc; rw [if_pos a0], by simp [stI_get]⟩)
  · rw [if_neg a0]
    by_cases a1 : x % 8 = 1
    · rw [if_pos a1, bd1_some]
      exact fin 2 (Or.inr (Or.inl ⟨by unfold dc; rw [if_neg a0, if_pos a1], by simp [stI_get]⟩))
    · rw [if_neg a1]
      by_cases a2 : x % 8 = 2
      · rw [if_pos a2, bd1_some]
        exact fin 3 (Or.inr (Or.inr (Or.inl ⟨by unfold dc; rw [if_neg a0, if_neg a1, if_pos a2], by simp [stI_get]⟩)))
      · rw [if_neg a2, bd1_some]
        obtain ⟨x1, x2, x3, x4⟩ := dc_s (x := x) hn1 hn2
        have ed : dc n x = (x / 8 % 6) * 16 + (x / 48 % n) * 2 + (x / 480 % 2) := by unfold dc; rw [if_neg a0, if_neg a1, if_neg a2]
        exact fin 0 (Or.inr (Or.inr (Or.inr ⟨by rw [ed]; omega, by simp [stI_get], by rw [ed, x2]; simp [stI_get], by rw [ed, x3]; simp [stI_get], by rw [ed, x4]; simp [stI_get]⟩)))
theorem drawM_loop {tm : Nat → Int32} {n a2 : Nat} {so a3 : Int32} (hn1 : 1 ≤ n) (hn2 : n ≤ 8) (h2 : a2 ≤ 99) : ∀ (d i x fuel : Nat) (N : NS) (s : Sto), i + d = a2 → x < 65537 → d < fuel → NOk N → (N.1 4 = 9 ∨ N.1 4 < 6) → NeM s N → (∀ g, g < 6 → s.1 44 g = tm g) → s.1 43 0 = nI n → s.1 43 1 = so → ∃ t, L9_draws_60 43 (nI a2) a3 fuel (nI x) (nI i) s = some t ∧ NeM t (dq tm n so d x N) ∧ FrD s t := by
  intro d
  induction d with
  | zero =>
    intro i x fuel N s e hx F hN hl hne ht h0 h1
    obtain ⟨q, rfl⟩ : ∃ q, fuel = q + 1 := ⟨fuel - 1, by omega⟩
    have : i = a2 := by omega
    subst this
    refine ⟨s, ?_, hne, FrD.rf⟩
    unfold L9_draws_60
    rw [if_pos (Int32.le_refl _)]
  | succ d ih =>
    intro i x fuel N s e hx F hN hl hne ht h0 h1
    obtain ⟨q, rfl⟩ : ∃ q, fuel = q + 1 := ⟨fuel - 1, by omega⟩
    obtain ⟨o1, o2⟩ := dstep_ok (tm := tm) (x := nx x) (so := so) hn1 hn2 hN hl
    obtain ⟨t, t1, t2, t3⟩ := e_drawn (tm := tm) (x := nx x) nx_lt hn1 hn2 hN hl hne ht h0
    rw [h1] at t2
    obtain ⟨v, v1, v2, v3⟩ := ih (i + 1) (nx x) q _ t (by omega) nx_lt (by omega) o1 o2 t2 (fun g hg => by rw [t3.1 44 (by omega) (by omega) (by omega) (by omega) (by omega)]; exact ht g hg) (by rw [t3.2 0 (by omega) (by omega) (by omega) (by omega) (by omega)]; exact h0) (by rw [t3.2 1 (by omega) (by omega) (by omega) (by omega) (by omega)]; exact h1)
    refine ⟨v, ?_, v2, t3.tr v3⟩
    unfold L9_draws_60
    rw [if_neg (nI_ge (by omega) (by omega)), nx_M hx, nm_eq, t1, bd1_some, nI_1]
    exact v1
theorem nI_any (x : Int32) : ∃ k : Nat, x = nI k := ⟨x.toBitVec.toNat, by apply Int32.toBitVec_inj.mp; simp [nI]⟩
theorem op_draws {s : Sto} (h : RR s) (x y z : Int32) : ∃ r s1 s2, f8_draws 0 x y z s = some (r, s1) ∧ f9_draws 43 x y z s1 = some (r, s2) ∧ RR s2 := by
  rcases rng (v := x) (a := 0) (b := 9999) with hr | ⟨hr, g1, g2⟩
  · exact ⟨-2, s, s, by simp [f8_draws, e_isWithin, bd2_some, kd_0, hr], by simp [f9_draws, e9_in_0_9999, bd2_some, kd_43, hr], h⟩
  rcases rng (v := y) (a := 1) (b := 99) with hq | ⟨hq, g3, g4⟩
  · exact ⟨-2, s, s, by simp [f8_draws, e_isWithin, bd2_some, kd_0, hr, hq], by simp [f9_draws, e9_in_0_9999, e9_in_1_99, bd2_some, kd_43, hr, hq], h⟩
  rcases rng (v := z) (a := 0) (b := 2) with ht | ⟨ht, g5, g6⟩
  · exact ⟨-2, s, s, by simp [f8_draws, e_isWithin, bd2_some, kd_0, hr, hq, ht], by simp [f9_draws, e9_in_0_9999, e9_in_1_99, e9_in_0_2, bd2_some, kd_43, hr, hq, ht], h⟩
  obtain ⟨X, hX, rfl⟩ := nI_of2 (n := 9999) (by decide) g1 g2
  obtain ⟨Y, hY, rfl⟩ := nI_of2 (n := 99) (by decide) (fun q => g3 (Int32.lt_trans q (by decide))) g4
  obtain ⟨⟨D, hD, hC, hM⟩, hp, h0, h1⟩ := id h
  obtain ⟨⟨n, hn1, hn2, en⟩, ⟨h9, hh1, eh⟩, ⟨w, hw, ew⟩, -⟩ := id hD
  obtain ⟨⟨a0, a1, a2, a3, a4⟩, b0, b1, b2, b3, b4, b5⟩ := hC.lit
  obtain ⟨⟨m0, m1, m2, m3, m4⟩, n0, n1, n2, n3, n4, n5⟩ := id hM
  obtain ⟨ok, lk⟩ := N0D_ok (D := D) hh1 hw
  obtain ⟨t, t1, t2, t3⟩ := e_copyN hC eh ew
  obtain ⟨v, v1, v2, v3⟩ := drawC_loop (tm := D.2 0) (a3 := z) (so := D.1 1) hn1 hn2 hY Y 0 X FU (N0D D h9 w) t (by omega) (by omega) (by unfold FU; omega) ok lk t2 (fun g hg => by rw [t3 2 (by omega)]; exact b0 g hg) (by rw [t3 1 (by omega)]; exact a0.trans en) (by rw [t3 1 (by omega)]; exact a1)
  have fv : FrN s v := t3.tr v3
  have rv := h.same fv.e.same
  have nr : NeR v (N0D D h9 w) := ⟨⟨by rw [fv 43 (by omega)]; exact m2.trans eh, by rw [fv 43 (by omega)]; exact m3.trans ew⟩, fun i hi => by rw [fv 45 (by omega)]; exact n1 i hi, fun i hi => by rw [fv 46 (by omega)]; exact n2 i hi, fun i hi => by rw [fv 47 (by omega)]; exact n3 i hi⟩
  obtain ⟨k, k1, k2, k3⟩ := e_keepNow nr
  obtain ⟨W, hW⟩ := nI_any (k.1 43 22)
  have e43 : k.1 43 = v.1 43 := k3 43 (by omega)
  have sm : sim (N0D D h9 w) (nset (N0D D h9 w) 3 W) := ⟨fun i hi => by simp [nset, hi], rfl⟩
  have nm0 : NeM (stI (stI k 43 21 0) 43 25 (-6)) (nset (N0D D h9 w) 3 W) := by
    refine ⟨⟨?_, ?_, ?_, ?_, ?_⟩, fun i hi => ?_, fun i hi => ?_, fun i hi => ?_⟩
    · simp [stI_get, nset, N0D, e43]; exact nr.1.1
    · simp [stI_get, nset, N0D, e43]; exact nr.1.2
    · simp [stI_get, nset, N0D, nI_0]
    · simp [stI_get, nset, hW]
    · simp [stI_get, nset, N0D]
    · rw [stI_ne (by omega), stI_ne (by omega), k3 45 (by omega)]; exact nr.2.1 i hi
    · rw [stI_ne (by omega), stI_ne (by omega), k3 46 (by omega)]; exact nr.2.2.1 i hi
    · rw [stI_ne (by omega), stI_ne (by omega), k3 47 (by omega)]; exact nr.2.2.2 i hi
  obtain ⟨q, q1, q2, q3⟩ := drawM_loop (tm := D.2 0) (a3 := z) (so := D.1 1) hn1 hn2 hY Y 0 X FU (nset (N0D D h9 w) 3 W) (stI (stI k 43 21 0) 43 25 (-6)) (by omega) (by omega) (by unfold FU; omega) ⟨by simpa [nset, N0D] using hh1, by simpa [nset, N0D] using hw⟩ (Or.inl (by simp [nset, N0D])) nm0 (fun g hg => by rw [stI_ne (by omega), stI_ne (by omega), k3 44 (by omega), fv 44 (by omega)]; exact n0 g hg) (by rw [stI_get, if_neg (by omega), stI_get, if_neg (by omega), e43, fv 43 (by omega)]; exact m0.trans en) (by rw [stI_get, if_neg (by omega), stI_get, if_neg (by omega), e43, fv 43 (by omega)]; exact m1)
  have had : Had q (N0D D h9 w) := k2.keep (by rw [q3.1 58 (by omega) (by omega) (by omega) (by omega) (by omega), stI_ne (by omega), stI_ne (by omega)])
  obtain ⟨p, p1, p2, p3, p4⟩ := e_putBack had
  have sd := sim_dq (tm := D.2 0) (n := n) (so := D.1 1) Y X _ _ sm
  have gk : ∀ j, (j < 43 ∨ j = 44 ∨ (48 ≤ j ∧ j ≤ 50) ∨ 58 < j) → p.1 j = v.1 j := fun j hj => by rw [p3 j (by omega) (by omega) (by omega) (by omega), q3.1 j (by omega) (by omega) (by omega) (by omega) (by omega), stI_ne (by omega), stI_ne (by omega), k3 j (by omega)]
  have gj : ∀ j, j = 0 ∨ j = 1 ∨ j = 10 ∨ j = 12 → p.1 43 j = v.1 43 j := fun j hj => by rw [p4 j (by omega) (by omega), q3.2 j (by omega) (by omega) (by omega) (by omega) (by omega), stI_get, if_neg (by omega), stI_get, if_neg (by omega), e43]
  have same : Same v p := ⟨fun j a _ => gk j (by omega), ⟨by rw [gk 3 (by omega)], by rw [gk 3 (by omega)]⟩, ⟨gj 0 (by omega), gj 1 (by omega), by rw [p2.1.1, nr.1.1], by rw [p2.1.2, nr.1.2], gj 10 (by omega), gj 12 (by omega)⟩, fun j a b i hi => by
    by_cases k45 : j = 45
    · subst k45; rw [p2.2.1 i (by simpa using hi), nr.2.1 i (by simpa using hi)]
    · by_cases k46 : j = 46
      · subst k46; rw [p2.2.2.1 i (by simpa using hi), nr.2.2.1 i (by simpa using hi)]
      · by_cases k47 : j = 47
        · subst k47; rw [p2.2.2.2 i (by simpa using hi), nr.2.2.2 i (by simpa using hi)]
        · rw [gk j (by omega)], gk 65 (by omega), gk 66 (by omega)⟩
  generalize dq (D.2 0) n (D.1 1) Y X (N0D D h9 w) = N at *
  generalize dq (D.2 0) n (D.1 1) Y X (nset (N0D D h9 w) 3 W) = M at *
  have z0 : (0 : Int32) = nI 0 := rfl
  have cC : ∀ r, (if z = 0 then some ((v.1 30 3), v) else if z = 1 then some ((v.1 30 5), v) else some ((v.1 30 4), v)) = some (r, v) → f8_draws 0 (nI X) (nI Y) z s = some (r, v) := by
    intro r e
    unfold f8_draws
    rw [if_pos kd_0, e_isWithin, bd2_some, hr, if_neg (by decide), e_isWithin, bd2_some, hq, if_neg (by decide), e_isWithin, bd2_some, ht, if_neg (by decide), show ((0 + 27) + 3) = 30 from rfl, show ((0 + 1) + 2) = 3 from rfl, t1, bd1_some, show (0 : Int32) = nI 0 from rfl, v1, bd1_some]
    exact e
  have cM : ∀ r, (if z = 0 then some (q.1 43 3) else if z = 1 then some (q.1 43 21) else some (q.1 43 4)) = some r → f9_draws 43 (nI X) (nI Y) z v = some (r, p) := by
    intro r e
    unfold f9_draws
    rw [if_pos kd_43, e9_in_0_9999, bd2_some, hr, if_neg (by decide), e9_in_1_99, bd2_some, hq, if_neg (by decide), e9_in_0_2, bd2_some, ht, if_neg (by decide), k1, bd1_some]
    simp only [nm_eq]
    rw [show L9_draws_60 43 (nI Y) z FU (nI X) (0 : Int32) (stI (stI k 43 21 0) 43 25 (-6)) = some q from q1, bd1_some, e, bd1_some, p1, bd1_some]
  by_cases c0 : z = 0
  · refine ⟨nI (N.1 0), v, p, cC _ ?_, cM _ ?_, rv.same same⟩
    · rw [if_pos c0, v2.1.1]
    · rw [if_pos c0, q2.1.1, sd.1 0 (by omega)]
  · by_cases c1 : z = 1
    · refine ⟨nI (N.1 2), v, p, cC _ ?_, cM _ ?_, rv.same same⟩
      · rw [if_neg c0, if_pos c1, v2.1.2.2.1]
      · rw [if_neg c0, if_pos c1, q2.1.2.2.1, sd.1 2 (by omega)]
    · refine ⟨nI (N.1 1), v, p, cC _ ?_, cM _ ?_, rv.same same⟩
      · rw [if_neg c0, if_neg c1, v2.1.2.1]
      · rw [if_neg c0, if_neg c1, q2.1.2.1, sd.1 1 (by omega)]
