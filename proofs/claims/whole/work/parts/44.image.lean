theorem i30 {j : Nat} (h : j < 30) : ¬ (30 : Int32) ≤ nI j := nI_ge (a := j) (b := 30) h (by omega)
theorem i8 {j : Nat} (h : j < 8) : ¬ (8 : Int32) ≤ nI j := nI_ge (a := j) (b := 8) h (by omega)
theorem i60 {j : Nat} (h : j < 60) : ¬ (60 : Int32) ≤ nI j := nI_ge (a := j) (b := 60) h (by omega)
-- images: the check writes or reads 117 numbers in a row
def mc (q : Nat) : Nat := if q < 5 then 43 else if q < 11 then 44 else if q < 101 then 45 + (q - 11) % 3 else 48 + (q - 101) % 2
def mi (q : Nat) : Nat := if q < 3 then (if q = 2 then 3 else q) else if q = 3 then 4 else if q = 4 then 10 else if q < 11 then q - 5 else if q < 101 then (q - 11) / 3 else (q - 101) / 2
def KV (D : DD) (q : Nat) : Int32 := if q < 5 then D.1 q else if q < 11 then D.2 0 (q - 5) else if q < 101 then D.2 (1 + (q - 11) % 3) ((q - 11) / 3) else D.2 (4 + (q - 101) % 2) ((q - 101) / 2)
theorem m_inj {q r : Nat} (hq : q < 117) (hr : r < 117) (h1 : mc q = mc r) (h2 : mi q = mi r) : q = r := (by decide +kernel : ∀ q, q < 117 → ∀ r, r < 117 → mc q = mc r → mi q = mi r → q = r) q hq r hr h1 h2
theorem mc_rng (q : Nat) (hq : q < 117) : 43 ≤ mc q ∧ mc q ≤ 49 := by
  unfold mc
  split
  · omega
  · split
    · omega
    · split <;> omega
theorem mi_43 {q : Nat} (hq : q < 117) (h : mc q = 43) : mi q ≠ 45 ∧ mi q ≠ 46 ∧ mi q ≠ 12 := by
  have h5 : q < 5 := by
    unfold mc at h
    split at h
    · assumption
    · split at h
      · omega
      · split at h <;> omega
  rcases (show q = 0 ∨ q = 1 ∨ q = 2 ∨ q = 3 ∨ q = 4 by omega) with rfl | rfl | rfl | rfl | rfl <;> decide
theorem m_T {D : DD} {g : Nat} (h : g < 6) : mc (5 + g) = 44 ∧ mi (5 + g) = g ∧ KV D (5 + g) = D.2 0 g := by
  unfold mc mi KV
  refine ⟨?_, ?_, ?_⟩
  · rw [if_neg (by omega), if_pos (by omega)]
  · rw [if_neg (by omega), if_neg (by omega), if_neg (by omega), if_pos (by omega)]; omega
  · rw [if_neg (by omega), if_pos (by omega), show 5 + g - 5 = g by omega]
theorem m_R {D : DD} {r a : Nat} (h : r < 30) (ha : a < 3) : mc (11 + 3 * r + a) = 45 + a ∧ mi (11 + 3 * r + a) = r ∧ KV D (11 + 3 * r + a) = D.2 (1 + a) r := by
  have e1 : (11 + 3 * r + a - 11) % 3 = a := by omega
  have e2 : (11 + 3 * r + a - 11) / 3 = r := by omega
  unfold mc mi KV
  refine ⟨?_, ?_, ?_⟩
  · rw [if_neg (by omega), if_neg (by omega), if_pos (by omega), e1]
  · rw [if_neg (by omega), if_neg (by omega), if_neg (by omega), if_neg (by omega), if_pos (by omega), e2]
  · rw [if_neg (by omega), if_neg (by omega), if_pos (by omega), e1, e2]
theorem m_S {D : DD} {k a : Nat} (h : k < 8) (ha : a < 2) : mc (101 + 2 * k + a) = 48 + a ∧ mi (101 + 2 * k + a) = k ∧ KV D (101 + 2 * k + a) = D.2 (4 + a) k := by
  have e1 : (101 + 2 * k + a - 101) % 2 = a := by omega
  have e2 : (101 + 2 * k + a - 101) / 2 = k := by omega
  unfold mc mi KV
  refine ⟨?_, ?_, ?_⟩
  · rw [if_neg (by omega), if_neg (by omega), if_neg (by omega), e1]
  · rw [if_neg (by omega), if_neg (by omega), if_neg (by omega), if_neg (by omega), if_neg (by omega), e2]
  · rw [if_neg (by omega), if_neg (by omega), if_neg (by omega), e1, e2]
theorem KV_of {s : Sto} {D : DD} {f : Nat → Int32} (h0 : f 0 = D.1 0 ∧ f 1 = D.1 1 ∧ f 2 = D.1 2 ∧ f 3 = D.1 3 ∧ f 4 = D.1 4) (h1 : ∀ g, g < 6 → f (5 + g) = D.2 0 g) (h2 : ∀ r, r < 30 → f (11 + 3 * r) = D.2 1 r ∧ f (11 + 3 * r + 1) = D.2 2 r ∧ f (11 + 3 * r + 2) = D.2 3 r) (h3 : ∀ k, k < 8 → f (101 + 2 * k) = D.2 4 k ∧ f (101 + 2 * k + 1) = D.2 5 k) : ∀ q, q < 117 → f q = KV D q := by
  intro q hq
  by_cases q5 : q < 5
  · obtain ⟨a0, a1, a2, a3, a4⟩ := h0
    rcases (show q = 0 ∨ q = 1 ∨ q = 2 ∨ q = 3 ∨ q = 4 by omega) with rfl | rfl | rfl | rfl | rfl
    · exact a0
    · exact a1
    · exact a2
    · exact a3
    · exact a4
  · by_cases q11 : q < 11
    · obtain ⟨g, rfl⟩ : ∃ g, q = 5 + g := ⟨q - 5, by omega⟩
      rw [(m_T (D := D) (g := g) (by omega)).2.2]; exact h1 g (by omega)
    · by_cases q101 : q < 101
      · obtain ⟨r, a, ha, rfl⟩ : ∃ r a, a < 3 ∧ q = 11 + 3 * r + a := ⟨(q - 11) / 3, (q - 11) % 3, by omega, by omega⟩
        rw [(m_R (D := D) (r := r) (a := a) (by omega) ha).2.2]
        obtain ⟨z0, z1, z2⟩ := h2 r (by omega)
        rcases (show a = 0 ∨ a = 1 ∨ a = 2 by omega) with rfl | rfl | rfl
        · exact z0
        · exact z1
        · exact z2
      · obtain ⟨r, a, ha, rfl⟩ : ∃ r a, a < 2 ∧ q = 101 + 2 * r + a := ⟨(q - 101) / 2, (q - 101) % 2, by omega, by omega⟩
        rw [(m_S (D := D) (k := r) (a := a) (by omega) ha).2.2]
        obtain ⟨z0, z1⟩ := h3 r (by omega)
        rcases (show a = 0 ∨ a = 1 by omega) with rfl | rfl
        · exact z0
        · exact z1
theorem RelK_iff {s : Sto} {o : Nat} {D : DD} : RelK s o D ↔ ∀ q, q < 117 → s.1 65 (o + q) = KV D q := by
  constructor
  · rintro ⟨h0, h1, h2, h3⟩
    refine KV_of (s := s) (f := fun q => s.1 65 (o + q)) h0 (fun g hg => by have := h1 g hg; rwa [Nat.add_assoc] at this) (fun r hr => ?_) (fun k hk => ?_)
    · obtain ⟨z0, z1, z2⟩ := h2 r hr
      exact ⟨by rw [show o + (11 + 3 * r) = o + 11 + 3 * r by omega]; exact z0, by show s.1 65 (o + (11 + 3 * r + 1)) = _; rw [show o + (11 + 3 * r + 1) = o + 12 + 3 * r by omega]; exact z1, by show s.1 65 (o + (11 + 3 * r + 2)) = _; rw [show o + (11 + 3 * r + 2) = o + 13 + 3 * r by omega]; exact z2⟩
    · obtain ⟨z0, z1⟩ := h3 k hk
      exact ⟨by rw [show o + (101 + 2 * k) = o + 101 + 2 * k by omega]; exact z0, by show s.1 65 (o + (101 + 2 * k + 1)) = _; rw [show o + (101 + 2 * k + 1) = o + 102 + 2 * k by omega]; exact z1⟩
  · intro h
    refine ⟨⟨h 0 (by omega), h 1 (by omega), h 2 (by omega), h 3 (by omega), h 4 (by omega)⟩, fun g hg => ?_, fun r hr => ⟨?_, ?_, ?_⟩, fun k hk => ⟨?_, ?_⟩⟩
    · have := h (5 + g) (by omega); rw [(m_T (D := D) hg).2.2] at this; rwa [← Nat.add_assoc] at this
    · have := h (11 + 3 * r + 0) (by omega); rw [(m_R (D := D) hr (show 0 < 3 by omega)).2.2] at this; rwa [show o + (11 + 3 * r + 0) = o + 11 + 3 * r by omega] at this
    · have := h (11 + 3 * r + 1) (by omega); rw [(m_R (D := D) hr (show 1 < 3 by omega)).2.2] at this; rwa [show o + (11 + 3 * r + 1) = o + 12 + 3 * r by omega] at this
    · have := h (11 + 3 * r + 2) (by omega); rw [(m_R (D := D) hr (show 2 < 3 by omega)).2.2] at this; rwa [show o + (11 + 3 * r + 2) = o + 13 + 3 * r by omega] at this
    · have := h (101 + 2 * k + 0) (by omega); rw [(m_S (D := D) hk (show 0 < 2 by omega)).2.2] at this; rwa [show o + (101 + 2 * k + 0) = o + 101 + 2 * k by omega] at this
    · have := h (101 + 2 * k + 1) (by omega); rw [(m_S (D := D) hk (show 1 < 2 by omega)).2.2] at this; rwa [show o + (101 + 2 * k + 1) = o + 102 + 2 * k by omega] at this
theorem RelM_iff {s : Sto} {D : DD} : RelM s D ↔ ∀ q, q < 117 → s.1 (mc q) (mi q) = KV D q := by
  constructor
  · rintro ⟨h0, h1, h2, h3, h4, h5, h6⟩
    refine KV_of (s := s) (f := fun q => s.1 (mc q) (mi q)) h0 (fun g hg => ?_) (fun r hr => ⟨?_, ?_, ?_⟩) (fun k hk => ⟨?_, ?_⟩)
    · obtain ⟨z0, z1, -⟩ := m_T (D := D) hg
      show s.1 (mc (5 + g)) (mi (5 + g)) = _; rw [z0, z1]; exact h1 g hg
    · obtain ⟨z0, z1, -⟩ := m_R (D := D) hr (show 0 < 3 by omega)
      show s.1 (mc (11 + 3 * r)) (mi (11 + 3 * r)) = _; rw [show 11 + 3 * r = 11 + 3 * r + 0 by omega, z0, z1]; exact h2 r hr
    · obtain ⟨z0, z1, -⟩ := m_R (D := D) hr (show 1 < 3 by omega)
      show s.1 (mc (11 + 3 * r + 1)) (mi (11 + 3 * r + 1)) = _; rw [z0, z1]; exact h3 r hr
    · obtain ⟨z0, z1, -⟩ := m_R (D := D) hr (show 2 < 3 by omega)
      show s.1 (mc (11 + 3 * r + 2)) (mi (11 + 3 * r + 2)) = _; rw [z0, z1]; exact h4 r hr
    · obtain ⟨z0, z1, -⟩ := m_S (D := D) hk (show 0 < 2 by omega)
      show s.1 (mc (101 + 2 * k)) (mi (101 + 2 * k)) = _; rw [show 101 + 2 * k = 101 + 2 * k + 0 by omega, z0, z1]; exact h5 k hk
    · obtain ⟨z0, z1, -⟩ := m_S (D := D) hk (show 1 < 2 by omega)
      show s.1 (mc (101 + 2 * k + 1)) (mi (101 + 2 * k + 1)) = _; rw [z0, z1]; exact h6 k hk
  · intro h
    refine ⟨⟨h 0 (by omega), h 1 (by omega), h 2 (by omega), h 3 (by omega), h 4 (by omega)⟩, fun g hg => ?_, fun r hr => ?_, fun r hr => ?_, fun r hr => ?_, fun k hk => ?_, fun k hk => ?_⟩
    · obtain ⟨z0, z1, z2⟩ := m_T (D := D) hg
      have := h (5 + g) (by omega); rwa [z0, z1, z2] at this
    · obtain ⟨z0, z1, z2⟩ := m_R (D := D) hr (show 0 < 3 by omega)
      have := h (11 + 3 * r + 0) (by omega); rwa [z0, z1, z2] at this
    · obtain ⟨z0, z1, z2⟩ := m_R (D := D) hr (show 1 < 3 by omega)
      have := h (11 + 3 * r + 1) (by omega); rwa [z0, z1, z2] at this
    · obtain ⟨z0, z1, z2⟩ := m_R (D := D) hr (show 2 < 3 by omega)
      have := h (11 + 3 * r + 2) (by omega); rwa [z0, z1, z2] at this
    · obtain ⟨z0, z1, z2⟩ := m_S (D := D) hk (show 0 < 2 by omega)
      have := h (101 + 2 * k + 0) (by omega); rwa [z0, z1, z2] at this
    · obtain ⟨z0, z1, z2⟩ := m_S (D := D) hk (show 1 < 2 by omega)
      have := h (101 + 2 * k + 1) (by omega); rwa [z0, z1, z2] at this
/-- behind q of the 117 numbers -/
def PI (o : Nat) (D : DD) (s0 s : Sto) (q : Nat) : Prop := s.1 43 45 = nI (o + q) ∧ (∀ r, r < q → s.1 65 (o + r) = KV D r ∧ s.1 (mc r) (mi r) = KV D r) ∧ ((s.1 43 46 = 1 ∧ ∀ r, q ≤ r → r < 117 → s.1 (mc r) (mi r) = KV D r) ∨ (s.1 43 46 = 0 ∧ ∀ r, q ≤ r → r < 117 → s.1 65 (o + r) = KV D r)) ∧ ((∀ k, k ≤ 42 → s.1 k = s0.1 k) ∧ s.1 66 = s0.1 66 ∧ s.1 50 = s0.1 50 ∧ s.1 43 12 = s0.1 43 12 ∧ ∀ p, (p < o ∨ o + 117 ≤ p) → s.1 65 p = s0.1 65 p)
theorem e_pass {s : Sto} {p : Nat} {v : Int32} (hp : p < 260) (h : s.1 43 45 = nI p) : f9_pass 43 v s = some (if s.1 43 46 = 0 then s.1 65 p else v, stI (stI s 65 p (if s.1 43 46 = 0 then s.1 65 p else v)) 43 45 (nI (p + 1))) := by
  unfold f9_pass
  have q1 : inb (nI p) (ln (43 + 22)) := inb_nI (n := p) (m := 260) hp (by omega)
  have q2 : (nI p).toNatClampNeg = p := nI_clamp (by omega)
  rw [if_pos kd_43, h]
  by_cases c : s.1 43 46 = 0
  · rw [if_pos c, if_pos q1, bd1_some, if_pos q1, q2, if_pos c]
    simp only [nm_eq]
    rw [stI_ne (by omega), h, nI_1]
  · rw [if_neg c, bd1_some, if_pos q1, q2, if_neg c]
    simp only [nm_eq]
    rw [stI_ne (by omega), h, nI_1]
/-- one number more -/
theorem PI_step {o q : Nat} {D : DD} {s0 s : Sto} (ho : o + 117 ≤ 260) (hq : q < 117) (h : PI o D s0 s q) : f9_pass 43 (s.1 (mc q) (mi q)) s = some (KV D q, stI (stI s 65 (o + q) (KV D q)) 43 45 (nI (o + q + 1))) ∧ PI o D s0 (stI (stI (stI s 65 (o + q) (KV D q)) 43 45 (nI (o + q + 1))) (mc q) (mi q) (KV D q)) (q + 1) := by
  obtain ⟨h1, h2, h3, h4, h5, h6, h7, h8⟩ := h
  obtain ⟨r1, r2⟩ := mc_rng q hq
  have x : (if s.1 43 46 = 0 then s.1 65 (o + q) else s.1 (mc q) (mi q)) = KV D q := by
    rcases h3 with ⟨w, g⟩ | ⟨w, g⟩
    · rw [w, if_neg (by decide)]; exact g q (Nat.le_refl _) hq
    · rw [w, if_pos rfl]; exact g q (Nat.le_refl _) hq
  refine ⟨by rw [e_pass (by omega) h1, x], ?_⟩
  have g65 : ∀ p, (stI (stI (stI s 65 (o + q) (KV D q)) 43 45 (nI (o + q + 1))) (mc q) (mi q) (KV D q)).1 65 p = if p = o + q then KV D q else s.1 65 p := by
    intro p
    rw [stI_ne (by omega), stI_ne (by omega), stI_get]
    simp
  have g43 : ∀ j, j = 45 ∨ j = 46 ∨ j = 12 → (stI (stI (stI s 65 (o + q) (KV D q)) 43 45 (nI (o + q + 1))) (mc q) (mi q) (KV D q)).1 43 j = if j = 45 then nI (o + q + 1) else s.1 43 j := by
    intro j hj
    rw [stI_get, if_neg, stI_get, stI_get]
    · simp
    · rintro ⟨a, b⟩
      have := mi_43 hq a.symm
      omega
  have gm : ∀ r, r < 117 → (stI (stI (stI s 65 (o + q) (KV D q)) 43 45 (nI (o + q + 1))) (mc q) (mi q) (KV D q)).1 (mc r) (mi r) = if r = q then KV D q else s.1 (mc r) (mi r) := by
    intro r hr
    obtain ⟨s1, s2⟩ := mc_rng r hr
    rw [stI_get]
    by_cases e : r = q
    · subst e; simp
    · rw [if_neg (fun z => e (m_inj hr hq z.1 z.2)), if_neg e, stI_get, if_neg, stI_ne (by omega)]
      rintro ⟨a, b⟩
      exact (mi_43 hr a).1 b
  refine ⟨by rw [g43 45 (by omega)]; simp; rfl, fun r hr => ?_, ?_, fun k hk => by rw [stI_ne (by omega), stI_ne (by omega), stI_ne (by omega)]; exact h4 k hk, by rw [stI_ne (by omega), stI_ne (by omega), stI_ne (by omega)]; exact h5, by rw [stI_ne (by omega), stI_ne (by omega), stI_ne (by omega)]; exact h6, by rw [g43 12 (by omega)]; simpa using h7, fun p hp => by rw [g65, if_neg (by omega)]; exact h8 p hp⟩
  · rw [g65, gm r (by omega)]
    by_cases e : r = q
    · subst e; simp
    · rw [if_neg (by omega), if_neg e]; exact h2 r (by omega)
  · rcases h3 with ⟨w, g⟩ | ⟨w, g⟩
    · refine Or.inl ⟨by rw [g43 46 (by omega)]; simpa using w, fun r a b => ?_⟩
      rw [gm r b, if_neg (by omega)]; exact g r (by omega) b
    · refine Or.inr ⟨by rw [g43 46 (by omega)]; simpa using w, fun r a b => ?_⟩
      rw [g65, if_neg (by omega)]; exact g r (by omega) b
theorem PI_step' {o q a i : Nat} {D : DD} {s0 s : Sto} (ho : o + 117 ≤ 260) (hq : q < 117) (ha : mc q = a) (hi : mi q = i) (h : PI o D s0 s q) : f9_pass 43 (s.1 a i) s = some (KV D q, stI (stI s 65 (o + q) (KV D q)) 43 45 (nI (o + q + 1))) ∧ PI o D s0 (stI (stI (stI s 65 (o + q) (KV D q)) 43 45 (nI (o + q + 1))) a i (KV D q)) (q + 1) := by
  subst ha hi
  exact PI_step ho hq h
theorem pass_T {o : Nat} {D : DD} {s0 : Sto} (ho : o + 117 ≤ 260) : ∀ (d j fuel : Nat) (s : Sto), j + d = 6 → d < fuel → PI o D s0 s (5 + j) → ∃ t, L9_passAll_62 43 fuel (nI j) s = some t ∧ PI o D s0 t 11 := by
  intro d
  induction d with
  | zero =>
    intro j fuel s h1 h2 h
    obtain ⟨f, rfl⟩ : ∃ f, fuel = f + 1 := ⟨fuel - 1, by omega⟩
    have : j = 6 := by omega
    subst this
    unfold L9_passAll_62
    rw [if_pos (by decide)]
    exact ⟨s, rfl, h⟩
  | succ d ih =>
    intro j fuel s h1 h2 h
    obtain ⟨f, rfl⟩ : ∃ f, fuel = f + 1 := ⟨fuel - 1, by omega⟩
    obtain ⟨z0, z1, -⟩ := m_T (D := D) (g := j) (by omega)
    obtain ⟨e1, e2⟩ := PI_step' ho (by omega) z0 z1 h
    have q1 : inb (nI j) (ln (43 + 1)) := inb_nI (n := j) (m := 6) (by omega) (by omega)
    have q2 : (nI j).toNatClampNeg = j := nI_clamp (by omega)
    obtain ⟨t, t1, t2⟩ := ih (j + 1) f _ (by omega) (by omega) e2
    refine ⟨t, ?_, t2⟩
    unfold L9_passAll_62
    rw [if_neg (i6 (by omega)), if_pos q1, q2, e1, bd2_some, if_pos q1, nm_eq, nI_1]
    exact t1
theorem pass_R {o : Nat} {D : DD} {s0 : Sto} (ho : o + 117 ≤ 260) : ∀ (d j fuel : Nat) (s : Sto), j + d = 30 → d < fuel → PI o D s0 s (11 + 3 * j) → ∃ t, L9_passAll_92 43 fuel (nI j) s = some t ∧ PI o D s0 t 101 := by
  intro d
  induction d with
  | zero =>
    intro j fuel s h1 h2 h
    obtain ⟨f, rfl⟩ : ∃ f, fuel = f + 1 := ⟨fuel - 1, by omega⟩
    have : j = 30 := by omega
    subst this
    unfold L9_passAll_92
    rw [if_pos (by decide)]
    exact ⟨s, rfl, h⟩
  | succ d ih =>
    intro j fuel s h1 h2 h
    obtain ⟨f, rfl⟩ : ∃ f, fuel = f + 1 := ⟨fuel - 1, by omega⟩
    obtain ⟨z0, z1, -⟩ := m_R (D := D) (r := j) (a := 0) (by omega) (by omega)
    obtain ⟨y0, y1, -⟩ := m_R (D := D) (r := j) (a := 1) (by omega) (by omega)
    obtain ⟨x0, x1, -⟩ := m_R (D := D) (r := j) (a := 2) (by omega) (by omega)
    obtain ⟨e1, e2⟩ := PI_step' ho (by omega) z0 z1 h
    obtain ⟨e3, e4⟩ := PI_step' ho (by omega) y0 y1 e2
    obtain ⟨e5, e6⟩ := PI_step' ho (by omega) x0 x1 e4
    have q1 : inb (nI j) (ln (43 + 2)) := inb_nI (n := j) (m := 30) (by omega) (by omega)
    have q3 : inb (nI j) (ln (43 + 3)) := inb_nI (n := j) (m := 30) (by omega) (by omega)
    have q4 : inb (nI j) (ln (43 + 4)) := inb_nI (n := j) (m := 30) (by omega) (by omega)
    have q2 : (nI j).toNatClampNeg = j := nI_clamp (by omega)
    obtain ⟨t, t1, t2⟩ := ih (j + 1) f _ (by omega) (by omega) (by rw [show 11 + 3 * (j + 1) = 11 + 3 * j + 2 + 1 by omega]; exact e6)
    refine ⟨t, ?_, t2⟩
    unfold L9_passAll_92
    rw [if_neg (i30 (j := j) (by omega)), if_pos q1, q2, e1, bd2_some, if_pos q1, nm_eq, if_pos q3, e3, bd2_some, if_pos q3, nm_eq, if_pos q4, e5, bd2_some, if_pos q4, nm_eq, nI_1]
    exact t1
theorem pass_S {o : Nat} {D : DD} {s0 : Sto} (ho : o + 117 ≤ 260) : ∀ (d j fuel : Nat) (s : Sto), j + d = 8 → d < fuel → PI o D s0 s (101 + 2 * j) → ∃ t, L9_passAll_154 43 fuel (nI j) s = some t ∧ PI o D s0 t 117 := by
  intro d
  induction d with
  | zero =>
    intro j fuel s h1 h2 h
    obtain ⟨f, rfl⟩ : ∃ f, fuel = f + 1 := ⟨fuel - 1, by omega⟩
    have : j = 8 := by omega
    subst this
    unfold L9_passAll_154
    rw [if_pos (by decide)]
    exact ⟨s, rfl, h⟩
  | succ d ih =>
    intro j fuel s h1 h2 h
    obtain ⟨f, rfl⟩ : ∃ f, fuel = f + 1 := ⟨fuel - 1, by omega⟩
    obtain ⟨z0, z1, -⟩ := m_S (D := D) (k := j) (a := 0) (by omega) (by omega)
    obtain ⟨y0, y1, -⟩ := m_S (D := D) (k := j) (a := 1) (by omega) (by omega)
    obtain ⟨e1, e2⟩ := PI_step' ho (by omega) z0 z1 h
    obtain ⟨e3, e4⟩ := PI_step' ho (by omega) y0 y1 e2
    have q1 : inb (nI j) (ln (43 + 5)) := inb_nI (n := j) (m := 8) (by omega) (by omega)
    have q3 : inb (nI j) (ln (43 + 6)) := inb_nI (n := j) (m := 8) (by omega) (by omega)
    have q2 : (nI j).toNatClampNeg = j := nI_clamp (by omega)
    obtain ⟨t, t1, t2⟩ := ih (j + 1) f _ (by omega) (by omega) (by rw [show 101 + 2 * (j + 1) = 101 + 2 * j + 1 + 1 by omega]; exact e4)
    refine ⟨t, ?_, t2⟩
    unfold L9_passAll_154
    rw [if_neg (i8 (j := j) (by omega)), if_pos q1, q2, e1, bd2_some, if_pos q1, nm_eq, if_pos q3, e3, bd2_some, if_pos q3, nm_eq, nI_1]
    exact t1
theorem e_passAll {o : Nat} {D : DD} {s0 s : Sto} (ho : o + 117 ≤ 260) (h : PI o D s0 s 0) : ∃ t, f9_passAll 43 s = some t ∧ PI o D s0 t 117 := by
  obtain ⟨a1, a2⟩ := PI_step' ho (q := 0) (a := 43) (i := 0) (by omega) rfl rfl h
  obtain ⟨b1, b2⟩ := PI_step' ho (q := 1) (a := 43) (i := 1) (by omega) rfl rfl a2
  obtain ⟨c1, c2⟩ := PI_step' ho (q := 2) (a := 43) (i := 3) (by omega) rfl rfl b2
  obtain ⟨d1, d2⟩ := PI_step' ho (q := 3) (a := 43) (i := 4) (by omega) rfl rfl c2
  obtain ⟨f1, f2⟩ := PI_step' ho (q := 4) (a := 43) (i := 10) (by omega) rfl rfl d2
  obtain ⟨t, t1, t2⟩ := pass_T ho 6 0 FU _ (by omega) (by decide) f2
  obtain ⟨u, u1, u2⟩ := pass_R ho 30 0 FU t (by omega) (by decide) t2
  obtain ⟨v, v1, v2⟩ := pass_S ho 8 0 FU u (by omega) (by decide) u2
  refine ⟨v, ?_, v2⟩
  unfold f9_passAll
  rw [show nI 0 = 0 from rfl] at t1 u1 v1
  rw [if_pos kd_43, a1, bd2_some, nm_eq, b1, bd2_some, nm_eq, c1, bd2_some, nm_eq, d1, bd2_some, nm_eq, f1, bd2_some, nm_eq, t1, bd1_some, u1, bd1_some, v1, bd1_some]
theorem PI_end {o : Nat} {D : DD} {s0 s : Sto} (h : PI o D s0 s 117) : RelM s D ∧ RelK s o D := by
  obtain ⟨h1, h2, -⟩ := h
  exact ⟨RelM_iff.mpr fun q hq => (h2 q hq).2, RelK_iff.mpr fun q hq => (h2 q hq).1⟩
theorem e_copyAll {a b : Nat} {s : Sto} (ha : kd a = 10) (hb : kd b = 10) (h : ln a = ln b) : f8_copyAll a b s = some (stC s a b (ln b)) := by
  have hl := ln_small b (by omega)
  have q : ¬ nI (ln b) < 0 := nI_pos (by omega)
  unfold f8_copyAll
  rw [if_pos ⟨ha, hb⟩, h]
  simp only [nm_eq, Int32.lt_irrefl, if_false]
  rw [if_pos ⟨q, by rw [nI_clamp (by omega)]; exact Nat.le_refl _, by rw [nI_clamp (by omega)]; exact Nat.le_refl _⟩, nI_clamp (by omega)]
theorem RelC.lit9 {s : Sto} {D : DD} (h : RelC s 9 D) : (s.1 9 0 = D.1 0 ∧ s.1 9 1 = D.1 1 ∧ s.1 11 3 = D.1 2 ∧ s.1 11 4 = D.1 3 ∧ s.1 9 4 = D.1 4) ∧ (∀ i, i < 6 → s.1 10 i = D.2 0 i) ∧ (∀ i, i < 30 → s.1 12 i = D.2 1 i) ∧ (∀ i, i < 30 → s.1 13 i = D.2 2 i) ∧ (∀ i, i < 30 → s.1 14 i = D.2 3 i) ∧ (∀ i, i < 8 → s.1 15 i = D.2 4 i) ∧ (∀ i, i < 8 → s.1 16 i = D.2 5 i) := h
theorem RelC.lit17 {s : Sto} {D : DD} (h : RelC s 17 D) : (s.1 17 0 = D.1 0 ∧ s.1 17 1 = D.1 1 ∧ s.1 19 3 = D.1 2 ∧ s.1 19 4 = D.1 3 ∧ s.1 17 4 = D.1 4) ∧ (∀ i, i < 6 → s.1 18 i = D.2 0 i) ∧ (∀ i, i < 30 → s.1 20 i = D.2 1 i) ∧ (∀ i, i < 30 → s.1 21 i = D.2 2 i) ∧ (∀ i, i < 30 → s.1 22 i = D.2 3 i) ∧ (∀ i, i < 8 → s.1 23 i = D.2 4 i) ∧ (∀ i, i < 8 → s.1 24 i = D.2 5 i) := h
theorem e_cp_9_1 {s : Sto} {D : DD} (h : RelC s 1 D) : ∃ t, f0_copyFrom 9 1 s = some t ∧ RelC t 9 D ∧ RelC t 1 D ∧ (∀ k, (k < 9 ∨ 16 < k) → t.1 k = s.1 k) ∧ t.1 9 7 = s.1 9 7 := by
  obtain ⟨⟨a0, a1, a2, a3, a4⟩, b0, b1, b2, b3, b4, b5⟩ := RelC.lit h
  unfold f0_copyFrom f2_copyFrom
  simp only [nm_eq, bd1_some, kd_9, kd_1, kd_11, kd_3, Nat.reduceAdd, and_self, if_true, e_copyAll (a := 2) (b := 10) kd_2 kd_10 rfl, e_copyAll (a := 4) (b := 12) kd_4 kd_12 rfl, e_copyAll (a := 5) (b := 13) kd_5 kd_13 rfl, e_copyAll (a := 6) (b := 14) kd_6 kd_14 rfl, e_copyAll (a := 7) (b := 15) kd_7 kd_15 rfl, e_copyAll (a := 8) (b := 16) kd_8 kd_16 rfl, ln_10, ln_12, ln_13, ln_14, ln_15, ln_16]
  refine ⟨_, rfl, ?_, ?_, fun k hk => ?_, ?_⟩
  · simp +contextual [RelC, stI_get, stC_get, a0, a1, a2, a3, a4, b0, b1, b2, b3, b4, b5]
  · simp +contextual [RelC, stI_get, stC_get, a0, a1, a2, a3, a4, b0, b1, b2, b3, b4, b5]
  · have n0 : ∀ j, j < 8 → k ≠ 9 + j := fun j hj => by omega
    have m0 := n0 0 (by omega); have m1 := n0 1 (by omega); have m2 := n0 2 (by omega); have m3 := n0 3 (by omega); have m4 := n0 4 (by omega); have m5 := n0 5 (by omega); have m6 := n0 6 (by omega); have m7 := n0 7 (by omega)
    funext i
    simp only [Nat.reduceAdd, Nat.add_zero] at m0 m1 m2 m3 m4 m5 m6 m7
    simp [stI_get, stC_get, m0, m1, m2, m3, m4, m5, m6, m7]
  · simp [stI_get, stC_get]
theorem e_cp_17_1 {s : Sto} {D : DD} (h : RelC s 1 D) : ∃ t, f0_copyFrom 17 1 s = some t ∧ RelC t 17 D ∧ RelC t 1 D ∧ (∀ k, (k < 17 ∨ 24 < k) → t.1 k = s.1 k) ∧ t.1 17 7 = s.1 17 7 := by
  obtain ⟨⟨a0, a1, a2, a3, a4⟩, b0, b1, b2, b3, b4, b5⟩ := RelC.lit h
  unfold f0_copyFrom f2_copyFrom
  simp only [nm_eq, bd1_some, kd_17, kd_1, kd_19, kd_3, Nat.reduceAdd, and_self, if_true, e_copyAll (a := 2) (b := 18) kd_2 kd_18 rfl, e_copyAll (a := 4) (b := 20) kd_4 kd_20 rfl, e_copyAll (a := 5) (b := 21) kd_5 kd_21 rfl, e_copyAll (a := 6) (b := 22) kd_6 kd_22 rfl, e_copyAll (a := 7) (b := 23) kd_7 kd_23 rfl, e_copyAll (a := 8) (b := 24) kd_8 kd_24 rfl, ln_18, ln_20, ln_21, ln_22, ln_23, ln_24]
  refine ⟨_, rfl, ?_, ?_, fun k hk => ?_, ?_⟩
  · simp +contextual [RelC, stI_get, stC_get, a0, a1, a2, a3, a4, b0, b1, b2, b3, b4, b5]
  · simp +contextual [RelC, stI_get, stC_get, a0, a1, a2, a3, a4, b0, b1, b2, b3, b4, b5]
  · have n0 : ∀ j, j < 8 → k ≠ 17 + j := fun j hj => by omega
    have m0 := n0 0 (by omega); have m1 := n0 1 (by omega); have m2 := n0 2 (by omega); have m3 := n0 3 (by omega); have m4 := n0 4 (by omega); have m5 := n0 5 (by omega); have m6 := n0 6 (by omega); have m7 := n0 7 (by omega)
    funext i
    simp only [Nat.reduceAdd, Nat.add_zero] at m0 m1 m2 m3 m4 m5 m6 m7
    simp [stI_get, stC_get, m0, m1, m2, m3, m4, m5, m6, m7]
  · simp [stI_get, stC_get]
theorem e_cp_1_9 {s : Sto} {D : DD} (h : RelC s 9 D) : ∃ t, f0_copyFrom 1 9 s = some t ∧ RelC t 1 D ∧ RelC t 9 D ∧ (∀ k, (k < 1 ∨ 8 < k) → t.1 k = s.1 k) ∧ t.1 1 7 = s.1 1 7 := by
  obtain ⟨⟨a0, a1, a2, a3, a4⟩, b0, b1, b2, b3, b4, b5⟩ := RelC.lit9 h
  unfold f0_copyFrom f2_copyFrom
  simp only [nm_eq, bd1_some, kd_1, kd_9, kd_3, kd_11, Nat.reduceAdd, and_self, if_true, e_copyAll (a := 10) (b := 2) kd_10 kd_2 rfl, e_copyAll (a := 12) (b := 4) kd_12 kd_4 rfl, e_copyAll (a := 13) (b := 5) kd_13 kd_5 rfl, e_copyAll (a := 14) (b := 6) kd_14 kd_6 rfl, e_copyAll (a := 15) (b := 7) kd_15 kd_7 rfl, e_copyAll (a := 16) (b := 8) kd_16 kd_8 rfl, ln_2, ln_4, ln_5, ln_6, ln_7, ln_8]
  refine ⟨_, rfl, ?_, ?_, fun k hk => ?_, ?_⟩
  · simp +contextual [RelC, stI_get, stC_get, a0, a1, a2, a3, a4, b0, b1, b2, b3, b4, b5]
  · simp +contextual [RelC, stI_get, stC_get, a0, a1, a2, a3, a4, b0, b1, b2, b3, b4, b5]
  · have n0 : ∀ j, j < 8 → k ≠ 1 + j := fun j hj => by omega
    have m0 := n0 0 (by omega); have m1 := n0 1 (by omega); have m2 := n0 2 (by omega); have m3 := n0 3 (by omega); have m4 := n0 4 (by omega); have m5 := n0 5 (by omega); have m6 := n0 6 (by omega); have m7 := n0 7 (by omega)
    funext i
    simp only [Nat.reduceAdd, Nat.add_zero] at m0 m1 m2 m3 m4 m5 m6 m7
    simp [stI_get, stC_get, m0, m1, m2, m3, m4, m5, m6, m7]
  · simp [stI_get, stC_get]
theorem e_cp_1_17 {s : Sto} {D : DD} (h : RelC s 17 D) : ∃ t, f0_copyFrom 1 17 s = some t ∧ RelC t 1 D ∧ RelC t 17 D ∧ (∀ k, (k < 1 ∨ 8 < k) → t.1 k = s.1 k) ∧ t.1 1 7 = s.1 1 7 := by
  obtain ⟨⟨a0, a1, a2, a3, a4⟩, b0, b1, b2, b3, b4, b5⟩ := RelC.lit17 h
  unfold f0_copyFrom f2_copyFrom
  simp only [nm_eq, bd1_some, kd_1, kd_17, kd_3, kd_19, Nat.reduceAdd, and_self, if_true, e_copyAll (a := 18) (b := 2) kd_18 kd_2 rfl, e_copyAll (a := 20) (b := 4) kd_20 kd_4 rfl, e_copyAll (a := 21) (b := 5) kd_21 kd_5 rfl, e_copyAll (a := 22) (b := 6) kd_22 kd_6 rfl, e_copyAll (a := 23) (b := 7) kd_23 kd_7 rfl, e_copyAll (a := 24) (b := 8) kd_24 kd_8 rfl, ln_2, ln_4, ln_5, ln_6, ln_7, ln_8]
  refine ⟨_, rfl, ?_, ?_, fun k hk => ?_, ?_⟩
  · simp +contextual [RelC, stI_get, stC_get, a0, a1, a2, a3, a4, b0, b1, b2, b3, b4, b5]
  · simp +contextual [RelC, stI_get, stC_get, a0, a1, a2, a3, a4, b0, b1, b2, b3, b4, b5]
  · have n0 : ∀ j, j < 8 → k ≠ 1 + j := fun j hj => by omega
    have m0 := n0 0 (by omega); have m1 := n0 1 (by omega); have m2 := n0 2 (by omega); have m3 := n0 3 (by omega); have m4 := n0 4 (by omega); have m5 := n0 5 (by omega); have m6 := n0 6 (by omega); have m7 := n0 7 (by omega)
    funext i
    simp only [Nat.reduceAdd, Nat.add_zero] at m0 m1 m2 m3 m4 m5 m6 m7
    simp [stI_get, stC_get, m0, m1, m2, m3, m4, m5, m6, m7]
  · simp [stI_get, stC_get]
theorem RelC.away {s t : Sto} {c : Nat} {D : DD} (h : RelC s c D) (e : ∀ j, j ≤ 7 → t.1 (c + j) = s.1 (c + j)) : RelC t c D := by
  unfold RelC at h ⊢
  have e0 : t.1 c = s.1 c := e 0 (by omega)
  rw [e0, e 1 (by omega), e 2 (by omega), e 3 (by omega), e 4 (by omega), e 5 (by omega), e 6 (by omega), e 7 (by omega)]
  exact h
theorem RelC.flag {s : Sto} {c : Nat} {D : DD} {v : Int32} (h : RelC s c D) : RelC (stI s c 7 v) c D := by
  unfold RelC at h ⊢
  simp only [stI_get]
  simpa using h
theorem RelK.away {s t : Sto} {o : Nat} {D : DD} (h : RelK s o D) (e : ∀ p, o ≤ p → p < o + 117 → t.1 65 p = s.1 65 p) : RelK t o D := RelK_iff.mpr fun q hq => by rw [e (o + q) (by omega) (by omega)]; exact RelK_iff.mp h q hq
theorem m130 {k : Nat} (hk : k ≤ 1) : (130 : Int32) * nI k = nI (130 * k) := by
  rcases (show k = 0 ∨ k = 1 by omega) with rfl | rfl <;> rfl
/-- behind image k: image j, the new one or the other -/
theorem im_new {s t u : Sto} {D : DD} {k j : Nat} (hk : k ≤ 1) (hj : j ≤ 1) (h : RelI s j) (hD : DOk D) (e2 : RelC t (9 + 8 * k) D) (x2 : RelK u (130 * k) D) (v1 : ∀ q, q ≤ 42 → u.1 q = (stI t (9 + 8 * k) 7 1).1 q) (v2 : u.1 66 = (stI t (9 + 8 * k) 7 1).1 66) (v5 : ∀ p, (p < 130 * k ∨ 130 * k + 117 ≤ p) → u.1 65 p = (stI t (9 + 8 * k) 7 1).1 65 p) (w : ∀ q, q < 9 + 8 * k ∨ 9 + 8 * k + 7 < q → (stI t (9 + 8 * k) 7 1).1 q = s.1 q) : RelI (stI u 66 k 1) j := by
  have b1 : ∀ q, q ≠ 66 → (stI u 66 k 1).1 q = u.1 q := fun q hq => stI_ne hq
  by_cases e : j = k
  · subst e
    refine Or.inr ⟨?_, by simp [stI_get], D, hD, ?_, ?_⟩
    · rw [b1 _ (by omega), v1 _ (by omega)]; simp [stI_get]
    · refine RelC.away (s := stI t (9 + 8 * j) 7 1) e2.flag (fun i hi => ?_)
      rw [b1 _ (by omega), v1 _ (by omega)]
    · exact x2.away (fun p _ _ => by rw [b1 65 (by omega)])
  · have c : ∀ i, i ≤ 7 → (stI u 66 k 1).1 (9 + 8 * j + i) = s.1 (9 + 8 * j + i) := fun i hi => by rw [b1 _ (by omega), v1 _ (by omega), w _ (by omega)]
    have c0 : (stI u 66 k 1).1 (9 + 8 * j) = s.1 (9 + 8 * j) := c 0 (by omega)
    have d : (stI u 66 k 1).1 66 j = s.1 66 j := by rw [stI_get, if_neg (by omega), v2, w 66 (by omega)]
    rcases h with ⟨a, b⟩ | ⟨a, b, D', hD', hC', hK'⟩
    · exact Or.inl ⟨by rw [c0]; exact a, d.trans b⟩
    · refine Or.inr ⟨by rw [c0]; exact a, d.trans b, D', hD', hC'.away c, hK'.away (fun p h1 h2 => ?_)⟩
      rw [b1 65 (by omega), v5 p (by omega), w 65 (by omega)]
theorem op_image {s : Sto} (h : RR s) (a : Int32) : ∃ r s1 s2, f8_image 0 a s = some (r, s1) ∧ f9_image 43 a s1 = some (r, s2) ∧ RR s2 := by
  obtain ⟨⟨D, hD, hC, hM⟩, hp, h0, h1⟩ := id h
  rcases rng (v := a) (a := 0) (b := 1) with hr | ⟨hr, g1, g2⟩
  · exact ⟨-2, s, s, by simp [f8_image, e_isWithin, bd2_some, kd_0, hr], by simp [f9_image, e9_in_0_1, bd2_some, kd_43, hr], h⟩
  · obtain ⟨k, hk, rfl⟩ := nI_of2 (n := 1) (by decide) g1 g2
    have hcls : ∃ t, f8_image 0 (nI k) s = some (1, stI t (9 + 8 * k) 7 1) ∧ RelC t (9 + 8 * k) D ∧ RelC t 1 D ∧ (∀ q, (q < 9 + 8 * k ∨ 9 + 8 * k + 7 < q) → t.1 q = s.1 q) := by
      rcases (show k = 0 ∨ k = 1 by omega) with rfl | rfl
      · obtain ⟨t, e1, e2, e3, e4, e5⟩ := e_cp_9_1 hC
        exact ⟨t, by simp [f8_image, f8_imageAt, e_isWithin, bd2_some, bd1_some, kd_0, kd_9, hr, show nI 0 = 0 from rfl, e1, nm_eq], e2, e3, e4⟩
      · obtain ⟨t, e1, e2, e3, e4, e5⟩ := e_cp_17_1 hC
        exact ⟨t, by simp [f8_image, f8_imageAt, e_isWithin, bd2_some, bd1_some, kd_0, kd_17, hr, show nI 1 = 1 from rfl, e1, nm_eq], e2, e3, e4⟩
    obtain ⟨t, e1, e2, e3, e4⟩ := hcls
    have w : ∀ q, q < 9 + 8 * k ∨ 9 + 8 * k + 7 < q → (stI t (9 + 8 * k) 7 1).1 q = s.1 q := fun q hq => by rw [stI_ne (by omega)]; exact e4 q hq
    have hM1 : RelM (stI (stI (stI t (9 + 8 * k) 7 1) 43 45 (nI (130 * k))) 43 46 1) D := by
      have y : ∀ q, 44 ≤ q → (stI (stI (stI t (9 + 8 * k) 7 1) 43 45 (nI (130 * k))) 43 46 1).1 q = s.1 q := fun q hq => by rw [stI_ne (by omega), stI_ne (by omega), w q (by omega)]
      have z : ∀ j, j ≠ 45 → j ≠ 46 → (stI (stI (stI t (9 + 8 * k) 7 1) 43 45 (nI (130 * k))) 43 46 1).1 43 j = s.1 43 j := fun j h1 h2 => by rw [stI_get, if_neg (by omega), stI_get, if_neg (by omega), w 43 (by omega)]
      unfold RelM at hM ⊢
      rw [y 44 (by omega), y 45 (by omega), y 46 (by omega), y 47 (by omega), y 48 (by omega), y 49 (by omega), z 0 (by omega) (by omega), z 1 (by omega) (by omega), z 3 (by omega) (by omega), z 4 (by omega) (by omega), z 10 (by omega) (by omega)]
      exact hM
    obtain ⟨u, u1, u2⟩ := e_passAll (o := 130 * k) (D := D) (s0 := stI t (9 + 8 * k) 7 1) (s := stI (stI (stI t (9 + 8 * k) 7 1) 43 45 (nI (130 * k))) 43 46 1) (by omega) ⟨by simp [stI_get], fun r hr => by omega, Or.inl ⟨by simp [stI_get], fun r _ hr => RelM_iff.mp hM1 r hr⟩, fun k hk => by rw [stI_ne (by omega), stI_ne (by omega)], by rw [stI_ne (by omega), stI_ne (by omega)], by rw [stI_ne (by omega), stI_ne (by omega)], by simp [stI_get], fun p hp => by rw [stI_ne (by omega), stI_ne (by omega)]⟩
    obtain ⟨x1, x2⟩ := PI_end u2
    obtain ⟨-, -, -, v1, v2, v3, v4, v5⟩ := u2
    have q1 : inb (nI k) (ln (43 + 23)) := inb_nI (n := k) (m := 2) (by omega) (by omega)
    have q2 : (nI k).toNatClampNeg = k := nI_clamp (by omega)
    refine ⟨1, _, stI u 66 k 1, e1, ?_, ⟨D, hD, ?_, ?_⟩, ?_, ?_, ?_⟩
    · unfold f9_image
      rw [if_pos kd_43, e9_in_0_1, bd2_some, hr, if_neg (by decide), m130 hk]
      simp only [nm_eq]
      rw [u1, bd1_some, if_pos q1, q2]
    · refine RelC.away (s := t) e3 (fun j hj => ?_)
      rw [stI_ne (by omega), v1 _ (by omega), stI_ne (by omega)]
    · refine (show RelM (stI u 66 k 1) D from ?_)
      unfold RelM at x1 ⊢
      rw [stI_ne (by omega), stI_ne (by omega), stI_ne (by omega), stI_ne (by omega), stI_ne (by omega), stI_ne (by omega), stI_ne (by omega)]
      exact x1
    · refine hp.keep ?_ ?_ ?_ (fun i hi => ?_)
      · rw [stI_ne (by omega), v1 25 (by omega), w 25 (by omega)]
      · rw [stI_ne (by omega), v1 26 (by omega), w 26 (by omega)]
      · rw [stI_ne (by omega), v4, w 43 (by omega)]
      · rw [stI_ne (by omega), v3, w 50 (by omega)]
    · exact im_new (k := k) (j := 0) hk (by omega) h0 hD e2 x2 v1 v2 v5 w
    · exact im_new (k := k) (j := 1) hk (by omega) h1 hD e2 x2 v1 v2 v5 w
/-- behind restore k: image j -/
theorem im_old {s t u : Sto} {D : DD} {k j : Nat} (hk : k ≤ 1) (hj : j ≤ 1) (h : RelI s j) (hD : DOk D) (hK : RelK s (130 * k) D) (a2 : s.1 66 k = 1) (x2 : RelK u (130 * k) D) (v1 : ∀ q, q ≤ 42 → u.1 q = t.1 q) (v2 : u.1 66 = t.1 66) (v5 : ∀ p, (p < 130 * k ∨ 130 * k + 117 ≤ p) → u.1 65 p = t.1 65 p) (w : ∀ q, 8 < q ∨ q < 1 → t.1 q = s.1 q) : RelI u j := by
  have c : ∀ i, i ≤ 7 → u.1 (9 + 8 * j + i) = s.1 (9 + 8 * j + i) := fun i hi => by rw [v1 _ (by omega), w _ (by omega)]
  have c0 : u.1 (9 + 8 * j) = s.1 (9 + 8 * j) := c 0 (by omega)
  have d : u.1 66 = s.1 66 := by rw [v2, w 66 (by omega)]
  have k65 : ∀ p, u.1 65 p = s.1 65 p ∨ (130 * k ≤ p ∧ p < 130 * k + 117) := fun p => by
    by_cases hp : p < 130 * k ∨ 130 * k + 117 ≤ p
    · exact Or.inl (by rw [v5 p hp, w 65 (by omega)])
    · exact Or.inr (by omega)
  have k66 : ∀ q, q < 117 → u.1 65 (130 * k + q) = s.1 65 (130 * k + q) := fun q hq => by rw [RelK_iff.mp x2 q hq, RelK_iff.mp hK q hq]
  have all : ∀ p, u.1 65 p = s.1 65 p := fun p => by
    rcases k65 p with e | ⟨a, b⟩
    · exact e
    · have := k66 (p - 130 * k) (by omega)
      rwa [show 130 * k + (p - 130 * k) = p by omega] at this
  rcases h with ⟨a, b⟩ | ⟨a, b, D', hD', hC', hK'⟩
  · exact Or.inl ⟨by rw [c0]; exact a, by rw [d]; exact b⟩
  · exact Or.inr ⟨by rw [c0]; exact a, by rw [d]; exact b, D', hD', hC'.away c, hK'.away (fun p _ _ => all p)⟩
theorem op_restore {s : Sto} (h : RR s) (a : Int32) : ∃ r s1 s2, f8_restore 0 a s = some (r, s1) ∧ f9_restore 43 a s1 = some (r, s2) ∧ RR s2 := by
  obtain ⟨⟨D0, hD0, hC0, hM0⟩, hp, h0, h1⟩ := id h
  rcases rng (v := a) (a := 0) (b := 1) with hr | ⟨hr, g1, g2⟩
  · exact ⟨-2, s, s, by simp [f8_restore, e_isWithin, bd2_some, kd_0, hr], by simp [f9_restore, e9_in_0_1, bd2_some, kd_43, hr], h⟩
  · obtain ⟨k, hk, rfl⟩ := nI_of2 (n := 1) (by decide) g1 g2
    have q1 : inb (nI k) (ln (43 + 23)) := inb_nI (n := k) (m := 2) (by omega) (by omega)
    have q2 : (nI k).toNatClampNeg = k := nI_clamp (by omega)
    have hI : RelI s k := by rcases (show k = 0 ∨ k = 1 by omega) with rfl | rfl <;> assumption
    rcases hI with ⟨a1, a2⟩ | ⟨a1, a2, D, hD, hC, hK⟩
    · refine ⟨-3, s, s, ?_, ?_, h⟩
      · rcases (show k = 0 ∨ k = 1 by omega) with rfl | rfl
        · simp [f8_restore, f8_imageAt, e_isWithin, bd2_some, kd_0, kd_9, hr, show nI 0 = 0 from rfl, show s.1 9 7 = 0 from a1]
        · simp [f8_restore, f8_imageAt, e_isWithin, bd2_some, kd_0, kd_17, hr, show nI 1 = 1 from rfl, show s.1 17 7 = 0 from a1]
      · unfold f9_restore
        rw [if_pos kd_43, e9_in_0_1, bd2_some, hr, if_neg (by decide), if_pos q1, q2, show s.1 (43 + 23) k = 0 from a2, if_pos rfl]
    · have hcls : ∃ t, f8_restore 0 (nI k) s = some (1, t) ∧ RelC t 1 D ∧ (∀ q, 8 < q ∨ q < 1 → t.1 q = s.1 q) := by
        rcases (show k = 0 ∨ k = 1 by omega) with rfl | rfl
        · obtain ⟨t, e1, e2, e3, e4, e5⟩ := e_cp_1_9 hC
          exact ⟨t, by simp [f8_restore, f8_imageAt, e_isWithin, bd2_some, bd1_some, kd_0, kd_9, hr, show nI 0 = 0 from rfl, show s.1 9 7 = 1 from a1, e1], e2, fun q hq => e4 q (by omega)⟩
        · obtain ⟨t, e1, e2, e3, e4, e5⟩ := e_cp_1_17 hC
          exact ⟨t, by simp [f8_restore, f8_imageAt, e_isWithin, bd2_some, bd1_some, kd_0, kd_17, hr, show nI 1 = 1 from rfl, show s.1 17 7 = 1 from a1, e1], e2, fun q hq => e4 q (by omega)⟩
      obtain ⟨t, e1, e2, e4⟩ := hcls
      obtain ⟨u, u1, u2⟩ := e_passAll (o := 130 * k) (D := D) (s0 := t) (s := stI (stI t 43 45 (nI (130 * k))) 43 46 0) (by omega) ⟨by simp [stI_get], fun r hr => by omega, Or.inr ⟨by simp [stI_get], fun r _ hr => by rw [stI_ne (by omega), stI_ne (by omega), e4 65 (by omega)]; exact RelK_iff.mp hK r hr⟩, fun k hk => by rw [stI_ne (by omega), stI_ne (by omega)], by rw [stI_ne (by omega), stI_ne (by omega)], by rw [stI_ne (by omega), stI_ne (by omega)], by simp [stI_get], fun p hp => by rw [stI_ne (by omega), stI_ne (by omega)]⟩
      obtain ⟨x1, x2⟩ := PI_end u2
      obtain ⟨-, -, -, v1, v2, v3, v4, v5⟩ := u2
      refine ⟨1, t, u, e1, ?_, ⟨D, hD, e2.away (fun j hj => by rw [v1 _ (by omega)]), x1⟩, hp.keep (by rw [v1 25 (by omega), e4 25 (by omega)]) (by rw [v1 26 (by omega), e4 26 (by omega)]) (by rw [v4, e4 43 (by omega)]) (fun i hi => by rw [v3, e4 50 (by omega)]), ?_, ?_⟩
      · unfold f9_restore
        have z : t.1 (43 + 23) k = 1 := by rw [e4 _ (by omega)]; exact a2
        rw [if_pos kd_43, e9_in_0_1, bd2_some, hr, if_neg (by decide), if_pos q1, q2, z, if_neg (by decide), m130 hk]
        simp only [nm_eq]
        rw [u1, bd1_some]
      · exact im_old (k := k) (j := 0) hk (by omega) h0 hD hK a2 x2 v1 v2 v5 e4
      · exact im_old (k := k) (j := 1) hk (by omega) h1 hD hK a2 x2 v1 v2 v5 e4
