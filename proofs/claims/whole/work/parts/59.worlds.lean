-- all that fit
theorem sB_iff {sr sw : Nat → Int32} {many rows : Nat} : ∀ k, sB sr sw many rows k = true ↔ ∀ j, j < k → sr j = nI many → sw j = nI rows := by
  intro k
  induction k with
  | zero => exact ⟨fun _ j h => by omega, fun _ => rfl⟩
  | succ k ih =>
    simp only [sB, Bool.and_eq_true, ih, Bool.or_eq_true, Bool.not_eq_true', decide_eq_false_iff_not, decide_eq_true_eq]
    constructor
    · rintro ⟨a, b⟩ j hj e
      by_cases c : j = k
      · subst c
        rcases b with b | b
        · exact absurd e b
        · exact b
      · exact a j (by omega) e
    · intro a
      refine ⟨fun j hj => a j (by omega), ?_⟩
      by_cases c : sr k = nI many
      · exact Or.inr (a k (by omega) c)
      · exact Or.inl c
theorem sn_iff {sr sw : Nat → Int32} {c : Nat} {R : Nat → Nat} {so : Int32} {N0 : NS} : ∀ i, sn sr sw c R so N0 i = true ↔ ∀ j, j ≤ i → sB sr sw j (hh R so N0 j) c = true := by
  intro i
  induction i with
  | zero => exact ⟨fun h j hj => by rw [show j = 0 by omega]; exact h, fun h => h 0 (by omega)⟩
  | succ i ih =>
    simp only [sn, Bool.and_eq_true, ih]
    constructor
    · rintro ⟨a, b⟩ j hj
      by_cases c : j = i + 1
      · rw [c]; exact b
      · exact a j (by omega)
    · intro a
      exact ⟨fun j hj => a j (by omega), a (i + 1) (by omega)⟩
/-- the first k sights are so, of an evening of m remarks -/
def fB (sr sw : Nat → Int32) (m : Nat) (H : Nat → Nat) : Nat → Bool
  | 0 => true
  | k + 1 => fB sr sw m H k && (decide (¬ nI m < sr k) && decide (sw k = nI (H (sr k).toNatClampNeg)))
theorem fB_iff {sr sw : Nat → Int32} {m : Nat} {H : Nat → Nat} : ∀ k, fB sr sw m H k = true ↔ ∀ j, j < k → ¬ nI m < sr j ∧ sw j = nI (H (sr j).toNatClampNeg) := by
  intro k
  induction k with
  | zero => exact ⟨fun _ j h => by omega, fun _ => rfl⟩
  | succ k ih =>
    simp only [fB, Bool.and_eq_true, ih, decide_eq_true_eq]
    constructor
    · rintro ⟨a, b⟩ j hj
      by_cases c : j = k
      · rw [c]; exact b
      · exact a j (by omega)
    · intro a
      exact ⟨fun j hj => a j (by omega), a k (by omega)⟩
def gB (sr : Nat → Int32) (m : Nat) : Nat → Bool
  | 0 => true
  | k + 1 => gB sr m k && decide (¬ nI m < sr k)
theorem gB_iff {sr : Nat → Int32} {m : Nat} : ∀ k, gB sr m k = true ↔ ∀ j, j < k → ¬ nI m < sr j := by
  intro k
  induction k with
  | zero => exact ⟨fun _ j h => by omega, fun _ => rfl⟩
  | succ k ih =>
    simp only [gB, Bool.and_eq_true, ih, decide_eq_true_eq]
    constructor
    · rintro ⟨a, b⟩ j hj
      by_cases c : j = k
      · rw [c]; exact b
      · exact a j (by omega)
    · intro a
      exact ⟨fun j hj => a j (by omega), a k (by omega)⟩
theorem fit_eq {sr sw : Nat → Int32} {c m : Nat} {R : Nat → Nat} {so : Int32} {N0 : NS} (hm : m ≤ 60) (hs : ∀ k, k < c → ∃ p, p ≤ 60 ∧ sr k = nI p) : (sn sr sw c R so N0 m && gB sr m c) = fB sr sw m (hh R so N0) c := by
  apply Bool.eq_iff_iff.mpr
  rw [Bool.and_eq_true, sn_iff, gB_iff, fB_iff]
  constructor
  · rintro ⟨a, b⟩ j hj
    obtain ⟨p, hp, e⟩ := hs j hj
    have l := b j hj
    refine ⟨l, ?_⟩
    rw [e] at l ⊢
    rw [nI_clamp (by omega)]
    have pm : p ≤ m := by
      rcases Nat.lt_or_ge m p with z | z
      · exact absurd (nI_lt z (by omega)) l
      · exact z
    exact (sB_iff c).mp (a p pm) j hj e
  · intro a
    refine ⟨fun i hi => (sB_iff c).mpr fun j hj e => ?_, fun j hj => (a j hj).1⟩
    have := (a j hj).2
    rw [e, nI_clamp (by omega)] at this
    exact this
def WB (D : DD) (c h w m : Nat) (R : Nat → Nat) (so : Int32) : Bool := decide (fbx (D.2 0) R so (N0D D h w) m 0 = m) && fB (D.2 4) (D.2 5) m (hh R so (N0D D h w)) c
theorem fit_loop {s : Sto} {sr sw : Nat → Int32} {c m : Nat} {H : Nat → Nat} (hc : c ≤ 8) (hm : m ≤ 60) (h4 : s.1 1 4 = nI c) (h1 : s.1 27 1 = nI m) (h29 : ∀ j, j ≤ m → s.1 29 j = nI (H j)) (hr : ∀ i, i < 8 → s.1 7 i = sr i) (hw : ∀ i, i < 8 → s.1 8 i = sw i) (hs : ∀ k, k < c → ∃ p, p ≤ 60 ∧ sr k = nI p) : ∀ (d i fuel : Nat), i + d = c → d < fuel → fB sr sw m H i = true → L0_sightsFit_2 1 27 fuel (nI i) s = some (bI (fB sr sw m H c), s) := by
  intro d
  induction d with
  | zero =>
    intro i fuel e F hb
    obtain ⟨q, rfl⟩ : ∃ q, fuel = q + 1 := ⟨fuel - 1, by omega⟩
    have : i = c := by omega
    subst this
    unfold L0_sightsFit_2
    rw [h4, if_pos (Int32.le_refl _), hb]; rfl
  | succ d ih =>
    intro i fuel e F hb
    obtain ⟨q, rfl⟩ : ∃ q, fuel = q + 1 := ⟨fuel - 1, by omega⟩
    obtain ⟨p, hp, ep⟩ := hs i (by omega)
    unfold L0_sightsFit_2
    rw [h4, if_neg (nI_ge (by omega) (by omega)), e_atN (k := 1 + 6) (i := i) kd_7 (by rw [show ln (1 + 6) = 8 from rfl]; omega), bd2_some, show s.1 (1 + 6) i = sr i from hr i (by omega), h1, nI_1]
    have no : fB sr sw m H (i + 1) = false → fB sr sw m H c = false := by
      intro z
      cases y : fB sr sw m H c with
      | false => rfl
      | true =>
        have := (fB_iff c).mp y
        rw [(fB_iff (i + 1)).mpr (fun j hj => this j (by omega))] at z
        exact absurd z (by decide)
    by_cases x1 : nI m < sr i
    · rw [if_pos x1, no (by simp [fB, x1])]; rfl
    · have pm : p ≤ m := by
        rcases Nat.lt_or_ge m p with z | z
        · rw [ep] at x1; exact absurd (nI_lt z (by omega)) x1
        · exact z
      rw [if_neg x1, ep, e_atN (k := 27 + 2) (i := p) kd_29 (by rw [show ln (27 + 2) = 61 from rfl]; omega), bd2_some, e_atN (k := 1 + 7) (i := i) kd_8 (by rw [show ln (1 + 7) = 8 from rfl]; omega), bd2_some, show s.1 (27 + 2) p = nI (H p) from h29 p pm, show s.1 (1 + 7) i = sw i from hw i (by omega)]
      by_cases x2 : nI (H p) = sw i
      · rw [if_pos x2]
        exact ih (i + 1) q (by omega) (by omega) (by simp only [fB, hb, x1, ep, nI_clamp (show p < 2 ^ 31 by omega), x2]; rw [ep] at x1; simp [x1])
      · rw [if_neg x2, no (by simp only [fB, ep, nI_clamp (show p < 2 ^ 31 by omega), show ¬ sw i = nI (H p) from fun z => x2 z.symm]; simp)]; rfl
-- the tally: how many, the first, what all have, what any has; and fact by fact
abbrev TT : Type := (Nat → Int32) × (Nat → Int32)
def tal0 : TT := (fun i => if i = 1 then -6 else 0, fun _ => 0)
def talA (so : Int32) (T : TT) : TT := (fun i => if i = 0 then T.1 0 + 1 else if i = 1 then (if T.1 0 = 0 then so else T.1 1) else if i = 2 then (if T.1 0 = 0 then so else T.1 2 &&& so) else T.1 3 ||| so, fun j => T.2 j + ((so >>> (nI j &&& 31)) &&& 1))
def tal (W : Int32 → Bool) : Nat → TT
  | 0 => tal0
  | k + 1 => if W (nI k) = true then talA (nI k) (tal W k) else tal W k
def TalC (s : Sto) (T : TT) : Prop := (∀ i, i < 4 → s.1 37 i = T.1 i) ∧ ∀ j, j < 8 → s.1 38 j = T.2 j
def FrV (s t : Sto) : Prop := ∀ k, k ≠ 37 → k ≠ 38 → t.1 k = s.1 k
theorem addj_loop {so : Int32} {T : Nat → Int32} : ∀ (d j fuel : Nat) (s : Sto), j + d = 8 → d < fuel → (∀ i, i < 8 → s.1 38 i = if i < j then T i + ((so >>> (nI i &&& 31)) &&& 1) else T i) → ∃ t, L7_add_49 37 so fuel (nI j) s = some t ∧ (∀ i, i < 8 → t.1 38 i = T i + ((so >>> (nI i &&& 31)) &&& 1)) ∧ ∀ k, k ≠ 38 → t.1 k = s.1 k := by
  intro d
  induction d with
  | zero =>
    intro j fuel s e F hT
    obtain ⟨q, rfl⟩ : ∃ q, fuel = q + 1 := ⟨fuel - 1, by omega⟩
    have : j = 8 := by omega
    subst this
    refine ⟨s, ?_, fun i hi => by rw [hT i hi, if_pos (by omega)], fun _ _ => rfl⟩
    unfold L7_add_49
    rw [if_pos (by decide)]
  | succ d ih =>
    intro j fuel s e F hT
    obtain ⟨q, rfl⟩ : ∃ q, fuel = q + 1 := ⟨fuel - 1, by omega⟩
    obtain ⟨t, t1, t2, t3⟩ := ih (j + 1) q (stI s 38 j (T j + ((so >>> (nI j &&& 31)) &&& 1))) (by omega) (by omega) (fun i hi => by
      rw [stI_get]
      by_cases x : i = j
      · subst x; rw [if_pos ⟨rfl, rfl⟩, if_pos (by omega)]
      · rw [if_neg (fun z => x z.2), hT i hi]
        by_cases y : i < j
        · rw [if_pos y, if_pos (by omega)]
        · rw [if_neg y, if_neg (by omega)])
    refine ⟨t, ?_, t2, fun k hk => by rw [t3 k hk, stI_ne hk]⟩
    have ej : s.1 (37 + 1) j = T j := by rw [show s.1 (37 + 1) j = s.1 38 j from rfl, hT j (by omega), if_neg (by omega)]
    unfold L7_add_49
    rw [if_neg (i8 (by omega)), e_atN (k := 37 + 1) (i := j) kd_38 (by rw [show ln (37 + 1) = 8 from rfl]; omega), bd2_some, ej, e_put (k := 37 + 1) (i := j) kd_38 (by rw [show ln (37 + 1) = 8 from rfl]; omega), bd1_some, nI_1]
    exact t1
theorem e_add7 {s : Sto} {so : Int32} {T : TT} (h : TalC s T) : ∃ t, f7_add 37 so s = some t ∧ TalC t (talA so T) ∧ FrV s t := by
  obtain ⟨h1, h2⟩ := h
  have t0 := h1 0 (by omega)
  have t1 := h1 1 (by omega)
  have t2 := h1 2 (by omega)
  have t3 := h1 3 (by omega)
  unfold f7_add
  rw [if_pos kd_37, t0]
  have fin : ∀ (x : Sto), (∀ j, j < 8 → x.1 38 j = T.2 j) → x.1 37 0 = T.1 0 + 1 → x.1 37 1 = (if T.1 0 = 0 then so else T.1 1) → x.1 37 2 = (if T.1 0 = 0 then so else T.1 2 &&& so) → x.1 37 3 = T.1 3 ||| so → (∀ k, k ≠ 37 → k ≠ 38 → x.1 k = s.1 k) → ∃ t, Option.bind (L7_add_49 37 so FU (0 : Int32) x) (fun s15 => some s15) = some t ∧ TalC t (talA so T) ∧ FrV s t := by
    intro x g g0 g1 g2 g3 gf
    obtain ⟨t, u1, u2, u3⟩ := addj_loop (so := so) (T := T.2) 8 0 FU x (by omega) (by decide) (fun i hi => by rw [if_neg (by omega)]; exact g i hi)
    rw [show nI 0 = 0 from rfl] at u1
    have e37 : t.1 37 = x.1 37 := u3 37 (by omega)
    refine ⟨t, by rw [u1, bd1_some], ⟨fun i hi => ?_, u2⟩, fun k a b => by rw [u3 k b, gf k a b]⟩
    rw [e37]
    rcases (show i = 0 ∨ i = 1 ∨ i = 2 ∨ i = 3 by omega) with rfl | rfl | rfl | rfl
    · exact g0
    · exact g1
    · exact g2
    · exact g3
  by_cases c : T.1 0 = 0
  · rw [if_pos c]
    simp only [nm_eq, bd1_some]
    apply fin
    · intro j hj; simp [stI_get, h2 j hj]
    · simp [stI_get, t0]
    · simp [stI_get, c]
    · simp [stI_get, c]
    · simp [stI_get, t3]
    · intro k a b; rw [stI_ne a, stI_ne a, stI_ne a, stI_ne a, stI_ne a]
  · rw [if_neg c]
    simp only [nm_eq, bd1_some]
    apply fin
    · intro j hj; simp [stI_get, h2 j hj]
    · simp [stI_get, t0]
    · simp [stI_get, c, t1]
    · simp [stI_get, c, t2]
    · simp [stI_get, t3]
    · intro k a b; rw [stI_ne a, stI_ne a, stI_ne a]
theorem clear_loop : ∀ (d j fuel : Nat) (s : Sto), j + d = 8 → d < fuel → ∃ t, L7_clear_23 37 fuel (nI j) s = some t ∧ (∀ i, i < 8 → t.1 38 i = if j ≤ i then 0 else s.1 38 i) ∧ ∀ k, k ≠ 38 → t.1 k = s.1 k := by
  intro d
  induction d with
  | zero =>
    intro j fuel s e F
    obtain ⟨q, rfl⟩ : ∃ q, fuel = q + 1 := ⟨fuel - 1, by omega⟩
    have : j = 8 := by omega
    subst this
    refine ⟨s, ?_, fun i hi => by rw [if_neg (by omega)], fun _ _ => rfl⟩
    unfold L7_clear_23
    rw [if_pos (by decide)]
  | succ d ih =>
    intro j fuel s e F
    obtain ⟨q, rfl⟩ : ∃ q, fuel = q + 1 := ⟨fuel - 1, by omega⟩
    obtain ⟨t, t1, t2, t3⟩ := ih (j + 1) q (stI s 38 j 0) (by omega) (by omega)
    refine ⟨t, ?_, fun i hi => ?_, fun k hk => by rw [t3 k hk, stI_ne hk]⟩
    · unfold L7_clear_23
      rw [if_neg (i8 (by omega)), e_put (k := 37 + 1) (i := j) kd_38 (by rw [show ln (37 + 1) = 8 from rfl]; omega), bd1_some, nI_1]
      exact t1
    · rw [t2 i hi, stI_get]
      by_cases x : i = j
      · subst x; simp
      · by_cases y : j + 1 ≤ i
        · rw [if_pos y, if_pos (by omega)]
        · rw [if_neg y, if_neg (fun z => x z.2), if_neg (by omega)]
theorem e_clear7 (s : Sto) : ∃ t, f7_clear 37 s = some t ∧ TalC t tal0 ∧ FrV s t := by
  obtain ⟨t, t1, t2, t3⟩ := clear_loop 8 0 FU (stI (stI (stI (stI s 37 0 0) 37 1 (-6)) 37 2 0) 37 3 0) (by omega) (by decide)
  rw [show nI 0 = 0 from rfl] at t1
  refine ⟨t, ?_, ⟨fun i hi => ?_, fun j hj => by rw [t2 j hj, if_pos (by omega)]; rfl⟩, fun k a b => by rw [t3 k b, stI_ne a, stI_ne a, stI_ne a, stI_ne a]⟩
  · unfold f7_clear
    rw [if_pos kd_37]
    simp only [nm_eq]
    rw [t1, bd1_some]
  · rw [t3 37 (by omega)]
    rcases (show i = 0 ∨ i = 1 ∨ i = 2 ∨ i = 3 by omega) with rfl | rfl | rfl | rfl <;> simp [stI_get, tal0]
theorem FrV.e {s t : Sto} (h : FrV s t) : FrE s t := fun k a => h k (by omega) (by omega)
theorem surv_loop {D : DD} {c h w m N : Nat} {R : Nat → Nat} (eh : D.1 2 = nI h) (ew : D.1 3 = nI w) (ec : D.1 4 = nI c) (h1 : h ≤ 30) (h2 : w ≤ 40) (hc : c ≤ 8) (hm : m ≤ 60) (hN : N ≤ 256) (hR : ∀ j, j < m → CodL (R j)) (hs : ∀ k, k < c → ∃ p, p ≤ 60 ∧ D.2 4 k = nI p) : ∀ (d i fuel : Nat) (s : Sto), i + d = N → d < fuel → RelC s 1 D → s.1 27 1 = nI m → (∀ j, j < m → s.1 28 j = nI (R j)) → TalC s (tal (WB D c h w m R) i) → ∃ t, L8_surveyWorlds_44 0 (nI N) fuel (nI i) s = some t ∧ TalC t (tal (WB D c h w m R) N) ∧ FrE s t ∧ t.1 27 1 = nI m ∧ (∀ j, j < m → t.1 28 j = nI (R j)) := by
  intro d
  induction d with
  | zero =>
    intro i fuel s e F hC h27 h28 hT
    obtain ⟨q, rfl⟩ : ∃ q, fuel = q + 1 := ⟨fuel - 1, by omega⟩
    have : i = N := by omega
    subst this
    refine ⟨s, ?_, hT, FrE.rf, h27, h28⟩
    unfold L8_surveyWorlds_44
    rw [if_pos (Int32.le_refl _)]
  | succ d ih =>
    intro i fuel s e F hC h27 h28 hT
    obtain ⟨q, rfl⟩ : ∃ q, fuel = q + 1 := ⟨fuel - 1, by omega⟩
    obtain ⟨t, t1, t2, t3, t4, t5, t6⟩ := e_play (so := nI i) hC eh ew h1 h2 hm hR h27 h28
    have hCt : RelC t 1 D := hC.away (fun j hj => t6.e _ (by omega))
    have k27 : t.1 27 1 = nI m := by rw [t6.2 1 (by omega) (by omega)]; exact h27
    have k28 : ∀ j, j < m → t.1 28 j = nI (R j) := fun j hj => by rw [t6.1 28 (by omega) (by omega) (by omega)]; exact h28 j hj
    have kT : TalC t (tal (WB D c h w m R) i) := by
      unfold TalC at hT ⊢
      rw [t6.1 37 (by omega) (by omega) (by omega), t6.1 38 (by omega) (by omega) (by omega)]; exact hT
    unfold L8_surveyWorlds_44
    rw [if_neg (nI_ge (by omega) (by omega)), show (0 + 27) = 27 from rfl, show (0 + 1) = 1 from rfl, t1, bd1_some, t4, nI_1]
    have fb := (fbx_spec (tm := D.2 0) (R := R) (so := nI i) (N0 := N0D D h w) m 0).2.1
    obtain ⟨⟨a0, a1, a2, a3, a4⟩, b0, b1, b2, b3, b4, b5⟩ := hCt.lit
    by_cases x : fbx (D.2 0) R (nI i) (N0D D h w) m 0 = m
    · rw [if_pos x, if_pos rfl]
      have ef : f0_sightsFit 1 27 t = some (bI (fB (D.2 4) (D.2 5) m (hh R (nI i) (N0D D h w)) c), t) := by
        unfold f0_sightsFit
        rw [if_pos ⟨kd_1, kd_27⟩]
        exact fit_loop hc hm (a4.trans ec) k27 (fun j hj => t3 j (by omega)) b4 b5 hs c 0 FU (by omega) (by unfold FU; omega) rfl
      rw [ef, bd2_some]
      cases y : fB (D.2 4) (D.2 5) m (hh R (nI i) (N0D D h w)) c with
      | false =>
        rw [if_pos (show bI false = 0 from rfl)]
        obtain ⟨v, v1, v2, v3, v4⟩ := ih (i + 1) q t (by omega) (by omega) hCt k27 k28 (by
          have : WB D c h w m R (nI i) = false := by simp [WB, y]
          simp only [tal, this]; exact kT)
        exact ⟨v, v1, v2, t6.e.tr v3, v4⟩
      | true =>
        rw [if_neg (show ¬ bI true = 0 by decide)]
        obtain ⟨z, z1, z2, z3⟩ := e_add7 (so := nI i) kT
        rw [show (0 + 37) = 37 from rfl, z1, bd1_some]
        obtain ⟨v, v1, v2, v3, v4⟩ := ih (i + 1) q z (by omega) (by omega) (hCt.away (fun j hj => z3 _ (by omega) (by omega))) (by rw [z3 27 (by omega) (by omega)]; exact k27) (fun j hj => by rw [z3 28 (by omega) (by omega)]; exact k28 j hj) (by
          have : WB D c h w m R (nI i) = true := by simp [WB, y, x]
          simp only [tal, this, if_true]; exact z2)
        exact ⟨v, v1, v2, (t6.e.tr z3.e).tr v3, v4⟩
    · have x6 : ¬ nI (fbx (D.2 0) R (nI i) (N0D D h w) m 0) = -6 := fun z => absurd (show nI (fbx (D.2 0) R (nI i) (N0D D h w) m 0) < 0 by rw [z]; decide) (nI_pos (by omega))
      rw [if_neg x, if_neg x6]
      obtain ⟨v, v1, v2, v3, v4⟩ := ih (i + 1) q t (by omega) (by omega) hCt k27 k28 (by
        have : WB D c h w m R (nI i) = false := by simp [WB, x]
        simp only [tal, this]; exact kT)
      exact ⟨v, v1, v2, t6.e.tr v3, v4⟩
theorem two_pow : ∀ k, k ≤ 8 → (1 : Int32) <<< (nI k &&& 31) = nI (2 ^ k) := by decide
theorem pow_le8 : ∀ k, k ≤ 8 → 2 ^ k ≤ 256 := by decide
