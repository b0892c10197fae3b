theorem e_survey {s : Sto} {D : DD} {n h w c pc : Nat} (hC : RelC s 1 D) (hn1 : 1 ≤ n) (hn2 : n ≤ 8) (en : D.1 0 = nI n) (eh : D.1 2 = nI h) (h1 : h ≤ 30) (ew : D.1 3 = nI w) (h2 : w ≤ 40) (ec : D.1 4 = nI c) (hc : c ≤ 8) (hs : ∀ k, k < c → ∃ p, p ≤ 60 ∧ D.2 4 k = nI p) (hpc : pc ≤ 60) (hp : s.1 25 1 = nI pc) :
    ∃ t r, f8_surveyWorlds 0 s = some (r, t) ∧ FrE s t ∧ (((psO (s.1 26) pc n).1 ≠ -6 ∧ r = 0) ∨ ((psO (s.1 26) pc n).1 = -6 ∧ r = 1 ∧ TalC t (tal (WB D c h w (psO (s.1 26) pc n).2.1 (psO (s.1 26) pc n).2.2) (2 ^ n)))) := by
  obtain ⟨⟨a0, a1, a2, a3, a4⟩, b0, b1, b2, b3, b4, b5⟩ := hC.lit
  obtain ⟨t, t1, t2, t3, t4, t5⟩ := e_readE (p := s.1 26) (n := pc) (nf := n) hn1 hn2 hpc hp (fun _ _ => rfl)
  obtain ⟨k1, k2⟩ := psO_ok (p := s.1 26) (n := pc) (nf := n) hn1 hn2 hpc
  have fe : FrE s t := fun k hk => t4 k (by omega) (by omega)
  unfold f8_surveyWorlds
  rw [if_pos kd_0, show s.1 (0 + 1) 0 = nI n from a0.trans en, show (0 + 27) = 27 from rfl, show (0 + 25) = 25 from rfl, t1, bd2_some]
  by_cases hf : (psO (s.1 26) pc n).1 = -6
  · rw [if_pos hf]
    obtain ⟨u, u1, u2, u3⟩ := e_clear7 t
    have hCu : RelC u 1 D := hC.away (fun j hj => by rw [u3 _ (by omega) (by omega), fe _ (by omega)])
    rw [show (0 + 37) = 37 from rfl, u1, bd1_some, show u.1 (0 + 1) 0 = nI n from hCu.lit.1.1.trans en, two_pow n hn2, nm_eq]
    obtain ⟨v, v1, v2, v3, v4, v5⟩ := surv_loop (N := 2 ^ n) eh ew ec h1 h2 hc k1 (pow_le8 n hn2) (fun j hj => (k2 j hj).l hn2) hs (2 ^ n) 0 FU u (by omega) (by have := pow_le8 n hn2; unfold FU; omega) hCu (by rw [u3 27 (by omega) (by omega)]; exact t2) (fun j hj => by rw [u3 28 (by omega) (by omega)]; exact t3 j hj) u2
    rw [show nI 0 = 0 from rfl] at v1
    exact ⟨v, 1, by rw [v1, bd1_some], (fe.tr u3.e).tr v3, Or.inr ⟨hf, rfl, v2⟩⟩
  · rw [if_neg hf]
    exact ⟨t, 0, rfl, fe, Or.inl ⟨hf, rfl⟩⟩
/-- what the check's evenings need -/
def CoM (u : Sto) (D : DD) (c h w m : Nat) (R : Nat → Nat) : Prop := NeR u (N0D D h w) ∧ Had u (N0D D h w) ∧ u.1 43 17 = nI m ∧ (∀ j, j < m → RemM u j (R j)) ∧ u.1 43 10 = nI c ∧ (∀ g, g < 6 → u.1 44 g = D.2 0 g) ∧ (∀ k, k < 8 → u.1 48 k = D.2 4 k) ∧ (∀ k, k < 8 → u.1 49 k = D.2 5 k)
theorem NeR.keep {s t : Sto} {N : NS} (h : NeR s N) (e : t.1 43 3 = s.1 43 3 ∧ t.1 43 4 = s.1 43 4) (e2 : ∀ k, 45 ≤ k → k ≤ 47 → t.1 k = s.1 k) : NeR t N := by
  unfold NeR at h ⊢
  rw [e.1, e.2, e2 45 (by omega) (by omega), e2 46 (by omega) (by omega), e2 47 (by omega) (by omega)]
  exact h
theorem Had.keep {s t : Sto} {N : NS} (h : Had s N) (e : t.1 58 = s.1 58) : Had t N := by
  unfold Had at h ⊢
  rw [e]; exact h
theorem CoM.keep {u t : Sto} {D : DD} {c h w m : Nat} {R : Nat → Nat} (hu : CoM u D c h w m R) (hn : NeR t (N0D D h w)) (e : ∀ k, k = 44 ∨ k = 48 ∨ k = 49 ∨ (51 ≤ k ∧ k ≤ 54) ∨ k = 58 → t.1 k = u.1 k) (e2 : t.1 43 17 = u.1 43 17 ∧ t.1 43 10 = u.1 43 10) : CoM t D c h w m R := by
  obtain ⟨x1, x2, x3, x4, x5, x6, x7, x8⟩ := hu
  exact ⟨hn, x2.keep (e 58 (by omega)), e2.1.trans x3, fun j hj => (x4 j hj).keep ⟨by rw [e 51 (by omega)], by rw [e 52 (by omega)], by rw [e 53 (by omega)], by rw [e 54 (by omega)]⟩, e2.2.trans x5, by rw [e 44 (by omega)]; exact x6, by rw [e 48 (by omega)]; exact x7, by rw [e 49 (by omega)]; exact x8⟩
theorem gB_no {sr : Nat → Int32} {m c i : Nat} (hi : i ≤ c) (h : gB sr m i = false) : gB sr m c = false := by
  cases y : gB sr m c with
  | false => rfl
  | true =>
    have := (gB_iff c).mp y
    rw [(gB_iff i).mpr (fun j hj => this j (by omega))] at h
    exact absurd h (by decide)
theorem isW_loop {s : Sto} {sr : Nat → Int32} {c m : Nat} (hc : c ≤ 8) (h10 : s.1 43 10 = nI c) (h17 : s.1 43 17 = nI m) (hr : ∀ i, i < 8 → s.1 48 i = sr i) : ∀ (d i fuel : Nat) (b : Bool), i + d = c → d < fuel → L9_isWorld_27 43 s fuel (bI (b && gB sr m i)) (nI i) = some (bI (b && gB sr m c)) := by
  intro d
  induction d with
  | zero =>
    intro i fuel b e F
    obtain ⟨q, rfl⟩ : ∃ q, fuel = q + 1 := ⟨fuel - 1, by omega⟩
    have : i = c := by omega
    subst this
    unfold L9_isWorld_27
    rw [h10, if_pos (Int32.le_refl _)]
  | succ d ih =>
    intro i fuel b e F
    obtain ⟨q, rfl⟩ : ∃ q, fuel = q + 1 := ⟨fuel - 1, by omega⟩
    have q1 : inb (nI i) (ln (43 + 5)) := inb_nI (n := i) (m := 8) (by omega) (by omega)
    have q3 : (nI i).toNatClampNeg = i := nI_clamp (by omega)
    have go := ih (i + 1) q b (by omega) (by omega)
    unfold L9_isWorld_27
    rw [h10, if_neg (nI_ge (by omega) (by omega)), nI_1]
    cases y : (b && gB sr m i) with
    | false =>
      rw [if_pos (show bI false = 0 from rfl)]
      have : (b && gB sr m (i + 1)) = false := by
        rw [gB, ← Bool.and_assoc, y]; rfl
      rw [this] at go
      exact go
    | true =>
      rw [if_neg (show ¬ bI true = 0 by decide), if_pos q1, q3, h17, show s.1 (43 + 5) i = sr i from hr i (by omega)]
      by_cases x : nI m < sr i
      · rw [if_pos x]
        have : (b && gB sr m (i + 1)) = false := by
          rw [gB, ← Bool.and_assoc, y]; simp [x]
        rw [this] at go
        exact go
      · rw [if_neg x]
        have : (b && gB sr m (i + 1)) = true := by
          rw [gB, ← Bool.and_assoc, y]; simp [x]
        rw [this] at go
        exact go
theorem e_isWorld {u : Sto} {D : DD} {c h w m : Nat} {R : Nat → Nat} {so : Int32} (hu : CoM u D c h w m R) (h1 : h ≤ 30) (h2 : w ≤ 40) (hc : c ≤ 8) (hm : m ≤ 60) (hR : ∀ j, j < m → CodL (R j)) (hs : ∀ k, k < c → ∃ p, p ≤ 60 ∧ D.2 4 k = nI p) : ∃ t, f9_isWorld 43 so u = some (bI (WB D c h w m R so), t) ∧ FrG u t ∧ CoM t D c h w m R := by
  have hu' := hu
  obtain ⟨x1, x2, x3, x4, x5, x6, x7, x8⟩ := hu
  obtain ⟨t, t1, t2, t3, t4, t5⟩ := e_goEvening (so := so) (D := D) hc h1 h2 hm hR x1 x2.2.1 x3 x4 x5 x6 x7 x8
  obtain ⟨t21, t22, t23, t24, t25, t26⟩ := t2
  have fb := (fbx_spec (tm := D.2 0) (R := R) (so := so) (N0 := N0D D h w) m 0).2.1
  have had : Had t (N0D D h w) := x2.keep (t5.1 58 (by omega) (by omega) (by omega) (by omega) (by omega))
  obtain ⟨v, v1, v2, v3, v4⟩ := e_putBack had
  have fg : FrG u v := t5.tr ⟨fun k a b c d _ => v3 k a b c d, fun j a b _ _ => v4 j a b⟩
  have lp := isW_loop (s := t) (sr := D.2 4) (m := m) hc (by rw [t5.2 10 (by omega) (by omega) (by omega) (by omega)]; exact x5) (by rw [t5.2 17 (by omega) (by omega) (by omega) (by omega)]; exact x3) (fun i hi => by rw [t5.1 48 (by omega) (by omega) (by omega) (by omega) (by omega)]; exact x7 i hi) c 0 FU
  refine ⟨v, ?_, fg, hu'.keep v2 (fun k hk => fg.1 k (by omega) (by omega) (by omega) (by omega) (by omega)) ⟨fg.2 17 (by omega) (by omega) (by omega) (by omega), fg.2 10 (by omega) (by omega) (by omega) (by omega)⟩⟩
  unfold f9_isWorld
  rw [if_pos kd_43, t1, bd1_some, t3, t25]
  have fin : ∀ b : Bool, (b && gB (D.2 4) m c) = WB D c h w m R so → Option.bind (some (bI b)) (fun x5 => Option.bind (L9_isWorld_27 43 t FU x5 (0 : Int32)) fun y11 => Option.bind (f9_putBack 43 t) fun s12 => if y11 = 0 ∨ y11 = 1 then some (y11, s12) else none) = some (bI (WB D c h w m R so), v) := by
    intro b hb
    have := lp b (by omega) (by unfold FU; omega)
    rw [show nI 0 = 0 from rfl, show (b && gB (D.2 4) m 0) = b by simp [gB]] at this
    rw [bd1_some, this, bd1_some, v1, bd1_some, hb, if_pos (by cases WB D c h w m R so <;> decide)]
  by_cases x : fbx (D.2 0) R so (N0D D h w) m 0 = m
  · rw [if_pos x, if_neg (by decide), x]
    cases y : sn (D.2 4) (D.2 5) c R so (N0D D h w) m with
    | false =>
      rw [if_pos (show bI false = 0 from rfl)]
      exact fin false (by
        rw [WB, ← fit_eq hm hs, y]; simp)
    | true =>
      rw [if_neg (show ¬ bI true = 0 by decide)]
      exact fin true (by
        rw [WB, ← fit_eq hm hs, y, x]; simp)
  · rw [if_neg x, if_pos (nI_pos' (by omega))]
    exact fin false (by simp [WB, x])
def TalM (u : Sto) (n : Nat) (T : TT) : Prop := (∀ i, i < 4 → u.1 43 (35 + i) = T.1 i) ∧ ∀ j, j < n → u.1 61 j = T.2 j
theorem addM_loop {so : Int32} {n : Nat} {T : Nat → Int32} (hn : n ≤ 8) : ∀ (d j fuel : Nat) (s : Sto), j + d = n → d < fuel → s.1 43 0 = nI n → (∀ i, i < n → s.1 61 i = if i < j then T i + ((so >>> (nI i &&& 31)) &&& 1) else T i) → ∃ t, L9_findWorlds_128 43 so fuel (nI j) s = some t ∧ (∀ i, i < n → t.1 61 i = T i + ((so >>> (nI i &&& 31)) &&& 1)) ∧ ∀ k, k ≠ 61 → t.1 k = s.1 k := by
  intro d
  induction d with
  | zero =>
    intro j fuel s e F h0 hT
    obtain ⟨q, rfl⟩ : ∃ q, fuel = q + 1 := ⟨fuel - 1, by omega⟩
    have : j = n := by omega
    subst this
    refine ⟨s, ?_, fun i hi => by rw [hT i hi, if_pos (by omega)], fun _ _ => rfl⟩
    unfold L9_findWorlds_128
    rw [h0, if_pos (Int32.le_refl _)]
  | succ d ih =>
    intro j fuel s e F h0 hT
    obtain ⟨q, rfl⟩ : ∃ q, fuel = q + 1 := ⟨fuel - 1, by omega⟩
    have q1 : inb (nI j) (ln (43 + 18)) := inb_nI (n := j) (m := 8) (by omega) (by omega)
    have q3 : (nI j).toNatClampNeg = j := nI_clamp (by omega)
    obtain ⟨t, t1, t2, t3⟩ := ih (j + 1) q (stI s 61 j (T j + ((so >>> (nI j &&& 31)) &&& 1))) (by omega) (by omega) (by rw [stI_ne (by omega)]; exact h0) (fun i hi => by
      rw [stI_get]
      by_cases x : i = j
      · subst x; rw [if_pos ⟨rfl, rfl⟩, if_pos (by omega)]
      · rw [if_neg (fun z => x z.2), hT i hi]
        by_cases y : i < j
        · rw [if_pos y, if_pos (by omega)]
        · rw [if_neg y, if_neg (by omega)])
    refine ⟨t, ?_, t2, fun k hk => by rw [t3 k hk, stI_ne hk]⟩
    have ej : s.1 (43 + 18) j = T j := by rw [show s.1 (43 + 18) j = s.1 61 j from rfl, hT j (by omega), if_neg (by omega)]
    unfold L9_findWorlds_128
    rw [h0, if_neg (nI_ge (by omega) (by omega)), if_pos q1, if_pos q1, q3, ej, nm_eq, nI_1]
    exact t1
theorem zero_loop : ∀ (d j fuel : Nat) (s : Sto), j + d = 8 → d < fuel → ∃ t, L9_findWorlds_23 43 fuel (nI j) s = some t ∧ (∀ i, i < 8 → t.1 61 i = if j ≤ i then 0 else s.1 61 i) ∧ ∀ k, k ≠ 61 → t.1 k = s.1 k := by
  intro d
  induction d with
  | zero =>
    intro j fuel s e F
    obtain ⟨q, rfl⟩ : ∃ q, fuel = q + 1 := ⟨fuel - 1, by omega⟩
    have : j = 8 := by omega
    subst this
    refine ⟨s, ?_, fun i hi => by rw [if_neg (by omega)], fun _ _ => rfl⟩
    unfold L9_findWorlds_23
    rw [if_pos (by decide)]
  | succ d ih =>
    intro j fuel s e F
    obtain ⟨q, rfl⟩ : ∃ q, fuel = q + 1 := ⟨fuel - 1, by omega⟩
    have q1 : inb (nI j) (ln (43 + 18)) := inb_nI (n := j) (m := 8) (by omega) (by omega)
    have q3 : (nI j).toNatClampNeg = j := nI_clamp (by omega)
    obtain ⟨t, t1, t2, t3⟩ := ih (j + 1) q (stI s 61 j 0) (by omega) (by omega)
    refine ⟨t, ?_, fun i hi => ?_, fun k hk => by rw [t3 k hk, stI_ne hk]⟩
    · unfold L9_findWorlds_23
      rw [if_neg (i8 (by omega)), if_pos q1, q3, nm_eq, nI_1]
      exact t1
    · rw [t2 i hi, stI_get]
      by_cases x : i = j
      · subst x; simp
      · by_cases y : j + 1 ≤ i
        · rw [if_pos y, if_pos (by omega)]
        · rw [if_neg y, if_neg (fun z => x z.2), if_neg (by omega)]
/-- the check's frame while worlds are found -/
def FrW (s t : Sto) : Prop := (∀ k, k ≠ 43 → k ≠ 45 → k ≠ 46 → k ≠ 47 → k ≠ 57 → k ≠ 58 → k ≠ 61 → t.1 k = s.1 k) ∧ ∀ j, j = 0 ∨ j = 1 ∨ j = 10 ∨ j = 12 ∨ j = 17 → t.1 43 j = s.1 43 j
theorem FrW.tr {s t u : Sto} (h : FrW s t) (g : FrW t u) : FrW s u := ⟨fun k a b c d e f z => (g.1 k a b c d e f z).trans (h.1 k a b c d e f z), fun j a => (g.2 j a).trans (h.2 j a)⟩
theorem FrG.w {s t : Sto} (h : FrG s t) : FrW s t := ⟨fun k a b c d e _ _ => h.1 k a b c d e, fun j hj => h.2 j (by omega) (by omega) (by omega) (by omega)⟩
theorem find_loop {D : DD} {c h w m n N : Nat} {R : Nat → Nat} (hn : n ≤ 8) (h1 : h ≤ 30) (h2 : w ≤ 40) (hc : c ≤ 8) (hm : m ≤ 60) (hN : N = 2 ^ n) (hR : ∀ j, j < m → CodL (R j)) (hs : ∀ k, k < c → ∃ p, p ≤ 60 ∧ D.2 4 k = nI p) : ∀ (d i fuel : Nat) (u : Sto), i + d = N → d < fuel → CoM u D c h w m R → u.1 43 0 = nI n → TalM u n (tal (WB D c h w m R) i) → ∃ t, L9_findWorlds_48 43 fuel (nI i) u = some t ∧ TalM t n (tal (WB D c h w m R) N) ∧ FrW u t ∧ CoM t D c h w m R := by
  intro d
  induction d with
  | zero =>
    intro i fuel u e F hu h0 hT
    obtain ⟨q, rfl⟩ : ∃ q, fuel = q + 1 := ⟨fuel - 1, by omega⟩
    have : i = N := by omega
    subst this
    refine ⟨u, ?_, hT, ⟨fun _ _ _ _ _ _ _ _ => rfl, fun _ _ => rfl⟩, hu⟩
    unfold L9_findWorlds_48
    rw [h0, two_pow n hn, ← hN, if_pos (Int32.le_refl _)]
  | succ d ih =>
    intro i fuel u e F hu h0 hT
    obtain ⟨q, rfl⟩ : ∃ q, fuel = q + 1 := ⟨fuel - 1, by omega⟩
    have hN2 : N ≤ 256 := by rw [hN]; exact pow_le8 n hn
    obtain ⟨t, t1, t2, t3⟩ := e_isWorld (so := nI i) hu h1 h2 hc hm hR hs
    have kT : TalM t n (tal (WB D c h w m R) i) := by
      obtain ⟨y1, y2⟩ := hT
      exact ⟨fun i hi => by rw [t2.2 _ (by omega) (by omega) (by omega) (by omega)]; exact y1 i hi, by rw [t2.1 61 (by omega) (by omega) (by omega) (by omega) (by omega)]; exact y2⟩
    have k0 : t.1 43 0 = nI n := by rw [t2.2 0 (by omega) (by omega) (by omega) (by omega)]; exact h0
    unfold L9_findWorlds_48
    rw [h0, two_pow n hn, ← hN, if_neg (nI_ge (by omega) (by omega)), t1, bd2_some, nI_1]
    cases y : WB D c h w m R (nI i) with
    | false =>
      rw [if_pos (show bI false = 0 from rfl)]
      obtain ⟨v, v1, v2, v3, v4⟩ := ih (i + 1) q t (by omega) (by omega) t3 k0 (by simp only [tal, y]; exact kT)
      exact ⟨v, v1, v2, t2.w.tr v3, v4⟩
    | true =>
      rw [if_neg (show ¬ bI true = 0 by decide)]
      obtain ⟨y1, y2⟩ := kT
      have g0 : t.1 43 35 = (tal (WB D c h w m R) i).1 0 := y1 0 (by omega)
      have g1 : t.1 43 36 = (tal (WB D c h w m R) i).1 1 := y1 1 (by omega)
      have g2 : t.1 43 37 = (tal (WB D c h w m R) i).1 2 := y1 2 (by omega)
      have g3 : t.1 43 38 = (tal (WB D c h w m R) i).1 3 := y1 3 (by omega)
      have tk : tal (WB D c h w m R) (i + 1) = talA (nI i) (tal (WB D c h w m R) i) := by simp only [tal, y, if_true]
      generalize tal (WB D c h w m R) i = T at *
      have fin : ∀ (x : Sto), x.1 43 35 = T.1 0 + 1 → x.1 43 36 = (if T.1 0 = 0 then nI i else T.1 1) → x.1 43 37 = (if T.1 0 = 0 then nI i else T.1 2 &&& nI i) → x.1 43 38 = T.1 3 ||| nI i → (∀ k, k ≠ 43 → x.1 k = t.1 k) → (∀ j, (j < 35 ∨ 38 < j) → x.1 43 j = t.1 43 j) → ∃ v, Option.bind (L9_findWorlds_128 43 (nI i) FU (0 : Int32) x) (fun s28 => L9_findWorlds_48 43 q (nI (i + 1)) s28) = some v ∧ TalM v n (tal (WB D c h w m R) N) ∧ FrW u v ∧ CoM v D c h w m R := by
        intro x x0 x1 x2 x3 xf xj
        obtain ⟨z, z1, z2, z3⟩ := addM_loop (so := nI i) (T := T.2) hn n 0 FU x (by omega) (by unfold FU; omega) (by rw [xj 0 (by omega)]; exact k0) (fun j hj => by rw [if_neg (by omega), xf 61 (by omega)]; exact y2 j hj)
        rw [show nI 0 = 0 from rfl] at z1
        have e43 : z.1 43 = x.1 43 := z3 43 (by omega)
        have fw : FrW t z := ⟨fun k a b c d e f g => by rw [z3 k g, xf k a], fun j hj => by rw [e43, xj j (by omega)]⟩
        have co : CoM z D c h w m R := t3.keep (t3.1.keep ⟨by rw [e43, xj 3 (by omega)], by rw [e43, xj 4 (by omega)]⟩ (fun k a b => by rw [z3 k (by omega), xf k (by omega)])) (fun k hk => by rw [z3 k (by omega), xf k (by omega)]) ⟨fw.2 17 (by omega), fw.2 10 (by omega)⟩
        obtain ⟨v, v1, v2, v3, v4⟩ := ih (i + 1) q z (by omega) (by omega) co (by rw [fw.2 0 (by omega)]; exact k0) (by
          rw [tk]
          refine ⟨fun j hj => ?_, z2⟩
          rw [e43]
          rcases (show j = 0 ∨ j = 1 ∨ j = 2 ∨ j = 3 by omega) with rfl | rfl | rfl | rfl
          · exact x0
          · exact x1
          · exact x2
          · exact x3)
        exact ⟨v, by rw [z1, bd1_some]; exact v1, v2, (t2.w.tr fw).tr v3, v4⟩
      rw [g0]
      by_cases z : T.1 0 = 0
      · rw [if_pos z, bd1_some, nm_eq, show (stI t 43 36 (nI i)).1 43 35 = T.1 0 by simp [stI_get, g0], if_pos z]
        simp only [nm_eq, bd1_some]
        apply fin
        · simp [stI_get, g0]
        · simp [stI_get, z]
        · simp [stI_get, z]
        · simp [stI_get, g3]
        · intro k a; rw [stI_ne a, stI_ne a, stI_ne a, stI_ne a]
        · intro j a; rw [stI_get, if_neg (by omega), stI_get, if_neg (by omega), stI_get, if_neg (by omega), stI_get, if_neg (by omega)]
      · rw [if_neg z, bd1_some, nm_eq, show (stI t 43 36 (t.1 43 36)).1 43 35 = T.1 0 by simp [stI_get, g0], if_neg z]
        simp only [nm_eq, bd1_some]
        apply fin
        · simp [stI_get, g0]
        · simp [stI_get, z, g1]
        · simp [stI_get, z, g2]
        · simp [stI_get, g3]
        · intro k a; rw [stI_ne a, stI_ne a, stI_ne a, stI_ne a]
        · intro j a; rw [stI_get, if_neg (by omega), stI_get, if_neg (by omega), stI_get, if_neg (by omega), stI_get, if_neg (by omega)]
theorem e_findWorlds {u : Sto} {D : DD} {c h w m n : Nat} {R : Nat → Nat} (hn : n ≤ 8) (h1 : h ≤ 30) (h2 : w ≤ 40) (hc : c ≤ 8) (hm : m ≤ 60) (hR : ∀ j, j < m → CodL (R j)) (hs : ∀ k, k < c → ∃ p, p ≤ 60 ∧ D.2 4 k = nI p) (hM : RelM u D) (en : D.1 0 = nI n) (eh : D.1 2 = nI h) (ew : D.1 3 = nI w) (ec : D.1 4 = nI c) (h17 : u.1 43 17 = nI m) (hr : ∀ j, j < m → RemM u j (R j)) : ∃ t, f9_findWorlds 43 u = some t ∧ TalM t n (tal (WB D c h w m R) (2 ^ n)) ∧ FrW u t ∧ Same u t := by
  obtain ⟨⟨m0, m1, m2, m3, m4⟩, n0, n1, n2, n3, n4, n5⟩ := id hM
  obtain ⟨t, t1, t2, t3⟩ := zero_loop 8 0 FU (stI (stI (stI (stI u 43 35 0) 43 36 (-6)) 43 37 0) 43 38 0) (by omega) (by decide)
  rw [show nI 0 = 0 from rfl] at t1
  have g : ∀ k, k ≠ 43 → k ≠ 61 → t.1 k = u.1 k := fun k a b => by rw [t3 k b, stI_ne a, stI_ne a, stI_ne a, stI_ne a]
  have gj : ∀ j, (j < 35 ∨ 38 < j) → t.1 43 j = u.1 43 j := fun j hj => by rw [t3 43 (by omega), stI_get, if_neg (by omega), stI_get, if_neg (by omega), stI_get, if_neg (by omega), stI_get, if_neg (by omega)]
  have nr : NeR t (N0D D h w) := ⟨⟨by rw [gj 3 (by omega)]; exact m2.trans eh, by rw [gj 4 (by omega)]; exact m3.trans ew⟩, fun i hi => by rw [g 45 (by omega) (by omega)]; exact n1 i hi, fun i hi => by rw [g 46 (by omega) (by omega)]; exact n2 i hi, fun i hi => by rw [g 47 (by omega) (by omega)]; exact n3 i hi⟩
  obtain ⟨v, v1, v2, v3⟩ := e_keepNow nr
  have e43 : v.1 43 = t.1 43 := v3 43 (by omega)
  have co : CoM v D c h w m R := ⟨nr.keep ⟨by rw [e43], by rw [e43]⟩ (fun k a b => v3 k (by omega)), v2, by rw [e43, gj 17 (by omega)]; exact h17, fun j hj => (hr j hj).keep ⟨by rw [v3 51 (by omega), g 51 (by omega) (by omega)], by rw [v3 52 (by omega), g 52 (by omega) (by omega)], by rw [v3 53 (by omega), g 53 (by omega) (by omega)], by rw [v3 54 (by omega), g 54 (by omega) (by omega)]⟩, by rw [e43, gj 10 (by omega)]; exact m4.trans ec, by rw [v3 44 (by omega), g 44 (by omega) (by omega)]; exact n0, by rw [v3 48 (by omega), g 48 (by omega) (by omega)]; exact n4, by rw [v3 49 (by omega), g 49 (by omega) (by omega)]; exact n5⟩
  obtain ⟨x, x1, x2, x3, x4⟩ := find_loop (N := 2 ^ n) hn h1 h2 hc hm rfl hR hs (2 ^ n) 0 FU v (by omega) (by have := pow_le8 n hn; unfold FU; omega) co (by rw [e43, gj 0 (by omega)]; exact m0.trans en) ⟨fun i hi => by
    rw [e43, t3 43 (by omega)]
    rcases (show i = 0 ∨ i = 1 ∨ i = 2 ∨ i = 3 by omega) with rfl | rfl | rfl | rfl <;> simp [stI_get, tal, tal0], fun j hj => by rw [v3 61 (by omega), t2 j (by omega), if_pos (by omega)]; rfl⟩
  rw [show nI 0 = 0 from rfl] at x1
  have fw : FrW u x := FrW.tr ⟨fun k a b c d e f z => by rw [v3 k f, g k a z], fun j hj => by rw [e43, gj j (by omega)]⟩ x3
  refine ⟨x, ?_, x2, fw, ?_⟩
  · unfold f9_findWorlds
    rw [if_pos kd_43]
    simp only [nm_eq]
    rw [t1, bd1_some, v1, bd1_some, x1, bd1_some]
  · obtain ⟨⟨y3, y4⟩, y5, y6, y7⟩ := x4.1
    refine ⟨fun k a _ => fw.1 k (by omega) (by omega) (by omega) (by omega) (by omega) (by omega) (by omega), ⟨by rw [fw.1 3 (by omega) (by omega) (by omega) (by omega) (by omega) (by omega) (by omega)], by rw [fw.1 3 (by omega) (by omega) (by omega) (by omega) (by omega) (by omega) (by omega)]⟩, ⟨fw.2 0 (by omega), fw.2 1 (by omega), by rw [y3, m2, eh]; rfl, by rw [y4, m3, ew]; rfl, fw.2 10 (by omega), fw.2 12 (by omega)⟩, fun k a b i hi => ?_, fw.1 65 (by omega) (by omega) (by omega) (by omega) (by omega) (by omega) (by omega), fw.1 66 (by omega) (by omega) (by omega) (by omega) (by omega) (by omega) (by omega)⟩
    by_cases k45 : k = 45
    · subst k45; rw [y5 i (by simpa using hi), n1 i (by simpa using hi)]; rfl
    · by_cases k46 : k = 46
      · subst k46; rw [y6 i (by simpa using hi), n2 i (by simpa using hi)]; rfl
      · by_cases k47 : k = 47
        · subst k47; rw [y7 i (by simpa using hi), n3 i (by simpa using hi)]; rfl
        · rw [fw.1 k (by omega) k45 k46 k47 (by omega) (by omega) (by omega)]
