-- an evening, played
def sq (R : Nat → Nat) (so : Int32) (N0 : NS) : Nat → NS
  | 0 => N0
  | i + 1 => nhear (R i) so (sq R so N0 i)
def wy (tm : Nat → Int32) (R : Nat → Nat) (so : Int32) (N0 : NS) (i : Nat) : Nat := nwhy tm (R i) so (sq R so N0 i)
/-- d remarks from i on: the first that can not be -/
def fbx (tm : Nat → Int32) (R : Nat → Nat) (so : Int32) (N0 : NS) : Nat → Nat → Nat
  | 0, i => i
  | d + 1, i => if wy tm R so N0 i = 0 then fbx tm R so N0 d (i + 1) else i
theorem fbx_spec {tm : Nat → Int32} {R : Nat → Nat} {so : Int32} {N0 : NS} : ∀ (d i : Nat), i ≤ fbx tm R so N0 d i ∧ fbx tm R so N0 d i ≤ i + d ∧ (∀ j, i ≤ j → j < fbx tm R so N0 d i → wy tm R so N0 j = 0) ∧ (fbx tm R so N0 d i < i + d → wy tm R so N0 (fbx tm R so N0 d i) ≠ 0) := by
  intro d
  induction d with
  | zero => intro i; exact ⟨Nat.le_refl _, Nat.le_refl _, fun j h1 h2 => by simp [fbx] at h2; omega, fun h => by simp [fbx] at h⟩
  | succ d ih =>
    intro i
    unfold fbx
    by_cases z : wy tm R so N0 i = 0
    · rw [if_pos z]
      obtain ⟨h1, h2, h3, h4⟩ := ih (i + 1)
      refine ⟨by omega, by omega, fun j a b => ?_, fun h => h4 (by omega)⟩
      by_cases e : j = i
      · subst e; exact z
      · exact h3 j (by omega) b
    · rw [if_neg z]
      exact ⟨Nat.le_refl _, by omega, fun j a b => by omega, fun _ => z⟩
theorem sq_ok {tm : Nat → Int32} {R : Nat → Nat} {so : Int32} {N0 : NS} (h0 : NOk N0) (hl : N0.1 4 = 9 ∨ N0.1 4 < 6) : ∀ i, (∀ j, j < i → CodL (R j) ∧ wy tm R so N0 j = 0) → NOk (sq R so N0 i) ∧ ((sq R so N0 i).1 4 = 9 ∨ (sq R so N0 i).1 4 < 6) := by
  intro i
  induction i with
  | zero => intro _; exact ⟨h0, hl⟩
  | succ i ih =>
    intro h
    obtain ⟨h1, h2⟩ := ih fun j hj => h j (by omega)
    exact ⟨nhear_ok h1 (h i (by omega)).2, nhear_l (h i (by omega)).1⟩
/-- the evening's own cells: 27 (stop, why), 29, 30 to 33 -/
def FrY (s t : Sto) : Prop := (∀ k, k ≠ 27 → k ≠ 29 → (k < 30 ∨ 33 < k) → t.1 k = s.1 k) ∧ ∀ j, j ≠ 4 → j ≠ 5 → t.1 27 j = s.1 27 j
theorem FrY.rf {s : Sto} : FrY s s := ⟨fun _ _ _ _ => rfl, fun _ _ _ => rfl⟩
theorem FrY.tr {s t u : Sto} (h : FrY s t) (g : FrY t u) : FrY s u := ⟨fun k a b c => (g.1 k a b c).trans (h.1 k a b c), fun j a b => (g.2 j a b).trans (h.2 j a b)⟩
theorem FrY.st {s : Sto} {k j : Nat} {v : Int32} (h : (k = 27 ∧ (j = 4 ∨ j = 5)) ∨ k = 29 ∨ (30 ≤ k ∧ k ≤ 33)) : FrY s (stI s k j v) := ⟨fun q a b c => stI_ne (by omega), fun i a b => by rw [stI_get, if_neg (by omega)]⟩
theorem FrN.y {s t : Sto} (h : FrN s t) : FrY s t := ⟨fun k a b c => h k c, fun j _ _ => by rw [h 27 (by omega)]⟩
theorem FrY.e {s t : Sto} (h : FrY s t) : FrE s t := fun k a => h.1 k (by omega) (by omega) (by omega)
theorem NeC.keep {s t : Sto} {N : NS} (h : NeC s N) (e : ∀ k, 30 ≤ k → k ≤ 33 → t.1 k = s.1 k) : NeC t N := by
  unfold NeC at h ⊢
  rw [e 30 (by omega) (by omega), e 31 (by omega) (by omega), e 32 (by omega) (by omega), e 33 (by omega) (by omega)]
  exact h
theorem play_loop {tm : Nat → Int32} {R : Nat → Nat} {so : Int32} {N0 : NS} {m : Nat} (h0 : NOk N0) (hl : N0.1 4 = 9 ∨ N0.1 4 < 6) (hm : m ≤ 60) (hR : ∀ j, j < m → CodL (R j)) : ∀ (d i fuel : Nat) (s : Sto), i + d = m → (∀ j, j < i → wy tm R so N0 j = 0) → d < fuel → NeC s (sq R so N0 i) → (∀ j, j ≤ i → s.1 29 j = nI ((sq R so N0 j).1 0)) → s.1 27 1 = nI m → (∀ j, j < m → s.1 28 j = nI (R j)) → s.1 27 4 = -6 → s.1 27 5 = -6 → (∀ g, g < 6 → s.1 2 g = tm g) →
    ∃ t, L1_play_40 27 1 so fuel (nI i) s = some t ∧ NeC t (sq R so N0 (fbx tm R so N0 d i)) ∧ (∀ j, j ≤ fbx tm R so N0 d i → t.1 29 j = nI ((sq R so N0 j).1 0)) ∧ t.1 27 4 = (if fbx tm R so N0 d i = m then -6 else nI (fbx tm R so N0 d i)) ∧ t.1 27 5 = (if fbx tm R so N0 d i = m then -6 else nI (wy tm R so N0 (fbx tm R so N0 d i))) ∧ FrY s t := by
  intro d
  induction d with
  | zero =>
    intro i fuel s hi hP hF hN hH hc hr h4 h5 ht
    obtain ⟨q, rfl⟩ : ∃ q, fuel = q + 1 := ⟨fuel - 1, by omega⟩
    have : i = m := by omega
    subst this
    refine ⟨s, ?_, hN, hH, by simpa [fbx] using h4, by simpa [fbx] using h5, FrY.rf⟩
    unfold L1_play_40
    rw [hc, if_pos (Int32.le_refl _)]
  | succ d ih =>
    intro i fuel s hi hP hF hN hH hc hr h4 h5 ht
    obtain ⟨q, rfl⟩ : ∃ q, fuel = q + 1 := ⟨fuel - 1, by omega⟩
    obtain ⟨ok, ll⟩ := sq_ok (tm := tm) (so := so) (R := R) h0 hl i (fun j hj => ⟨hR j (by omega), hP j hj⟩)
    have eat : f8_at (27 + 1) (nI i) s = some (nI (R i), s) := by rw [e_atN (k := 27 + 1) (i := i) kd_28 (by rw [show ln (27 + 1) = 60 from rfl]; omega), show s.1 (27 + 1) i = nI (R i) from hr i (by omega)]
    unfold L1_play_40
    rw [hc, if_neg (nI_ge (by omega) (by omega)), eat, bd2_some, e_whyNot (hR i (by omega)) ok hN ht, bd2_some]
    unfold fbx
    by_cases z : wy tm R so N0 i = 0
    · rw [show nwhy tm (R i) so (sq R so N0 i) = 0 from z, if_pos (show nI 0 = 0 from rfl), if_pos z]
      obtain ⟨t, t1, t2, t3⟩ := e_hear (tm := tm) (hR i (by omega)) ok ll z hN
      have e3 : t.1 (27 + 3) 3 = nI ((sq R so N0 (i + 1)).1 0) := t2.1.1
      rw [t1, bd1_some, e3, nI_1, e_put (k := 27 + 2) (i := i + 1) kd_29 (by rw [show ln (27 + 2) = 61 from rfl]; omega), bd1_some]
      have fy : FrY s (stI t 29 (i + 1) (nI ((sq R so N0 (i + 1)).1 0))) := t3.y.tr (FrY.st (by omega))
      obtain ⟨u, u1, u2, u3, u4, u5, u6⟩ := ih (i + 1) q (stI t 29 (i + 1) (nI ((sq R so N0 (i + 1)).1 0))) (by omega) (fun j hj => by
        by_cases e : j = i
        · subst e; exact z
        · exact hP j (by omega)) (by omega) (t2.keep (fun k a b => stI_ne (by omega))) (fun j hj => by
        by_cases e : j = i + 1
        · subst e; simp [stI_get]
        · rw [stI_get, if_neg (by omega), t3 29 (by omega)]; exact hH j (by omega)) (by rw [fy.2 1 (by omega) (by omega)]; exact hc) (fun j hj => by rw [fy.1 28 (by omega) (by omega) (by omega)]; exact hr j hj) (by rw [stI_ne (by omega), t3 27 (by omega)]; exact h4) (by rw [stI_ne (by omega), t3 27 (by omega)]; exact h5) (fun g hg => by rw [fy.1 2 (by omega) (by omega) (by omega)]; exact ht g hg)
      exact ⟨u, u1, u2, u3, u4, u5, fy.tr u6⟩
    · have z' : ¬ nI (nwhy tm (R i) so (sq R so N0 i)) = 0 := fun e => z ((nI_eq (a := wy tm R so N0 i) (b := 0) (by unfold wy nwhy nknit; repeat (first | omega | split)) (by omega)).mp e)
      rw [if_neg z', if_neg z]
      simp only [nm_eq]
      refine ⟨_, rfl, hN.keep (fun k a b => by rw [stI_ne (by omega), stI_ne (by omega)]), fun j hj => by rw [stI_ne (by omega), stI_ne (by omega)]; exact hH j hj, ?_, ?_, (FrY.st (by omega)).tr (FrY.st (by omega))⟩
      · rw [if_neg (by omega)]; simp [stI_get]
      · rw [if_neg (by omega)]; simp [stI_get, wy]
/-- the needles with which an evening begins -/
def N0D (D : DD) (h w : Nat) : NS := (fun i => if i = 0 then h else if i = 1 then w else if i = 4 then 9 else 0, fun a i => D.2 (a + 1) i)
theorem N0D_ok {D : DD} {h w : Nat} (h1 : h ≤ 30) (h2 : w ≤ 40) : NOk (N0D D h w) ∧ ((N0D D h w).1 4 = 9 ∨ (N0D D h w).1 4 < 6) := ⟨⟨h1, h2⟩, Or.inl rfl⟩
theorem e_copyN {s : Sto} {D : DD} {h w : Nat} (hC : RelC s 1 D) (eh : D.1 2 = nI h) (ew : D.1 3 = nI w) : ∃ t, f2_copyFrom 30 3 s = some t ∧ NeC t (N0D D h w) ∧ FrN s t := by
  obtain ⟨⟨a0, a1, a2, a3, a4⟩, b0, b1, b2, b3, b4, b5⟩ := hC.lit
  unfold f2_copyFrom
  simp only [nm_eq, bd1_some, kd_30, kd_3, Nat.reduceAdd, and_self, if_true, e_copyAll (a := 4) (b := 31) kd_4 kd_31 rfl, e_copyAll (a := 5) (b := 32) kd_5 kd_32 rfl, e_copyAll (a := 6) (b := 33) kd_6 kd_33 rfl, ln_31, ln_32, ln_33]
  refine ⟨_, rfl, ⟨⟨?_, ?_, ?_, ?_, ?_⟩, fun i hi => ?_, fun i hi => ?_, fun i hi => ?_⟩, fun k hk => ?_⟩
  · simp [stI_get, stC_get, N0D, a2, eh]
  · simp [stI_get, stC_get, N0D, a3, ew]
  · simp [stI_get, stC_get, N0D, nI_0]
  · simp [stI_get, stC_get, N0D, nI_0]
  · simp [stI_get, stC_get, N0D]
  · simp [stI_get, stC_get, N0D, hi, b1 i hi]
  · simp [stI_get, stC_get, N0D, hi, b2 i hi]
  · simp [stI_get, stC_get, N0D, hi, b3 i hi]
  · have x0 : k ≠ 30 := by omega
    have x1 : k ≠ 31 := by omega
    have x2 : k ≠ 32 := by omega
    have x3 : k ≠ 33 := by omega
    funext i
    simp [stI_get, stC_get, x0, x1, x2, x3]
/-- Evening.play, from now, by any facts -/
theorem e_play {s : Sto} {D : DD} {h w m : Nat} {R : Nat → Nat} {so : Int32} (hC : RelC s 1 D) (eh : D.1 2 = nI h) (ew : D.1 3 = nI w) (h1 : h ≤ 30) (h2 : w ≤ 40) (hm : m ≤ 60) (hR : ∀ j, j < m → CodL (R j)) (hc : s.1 27 1 = nI m) (hr : ∀ j, j < m → s.1 28 j = nI (R j)) :
    ∃ t, f1_play 27 1 so s = some t ∧ NeC t (sq R so (N0D D h w) (fbx (D.2 0) R so (N0D D h w) m 0)) ∧ (∀ j, j ≤ fbx (D.2 0) R so (N0D D h w) m 0 → t.1 29 j = nI ((sq R so (N0D D h w) j).1 0)) ∧ t.1 27 4 = (if fbx (D.2 0) R so (N0D D h w) m 0 = m then -6 else nI (fbx (D.2 0) R so (N0D D h w) m 0)) ∧ t.1 27 5 = (if fbx (D.2 0) R so (N0D D h w) m 0 = m then -6 else nI (wy (D.2 0) R so (N0D D h w) (fbx (D.2 0) R so (N0D D h w) m 0))) ∧ FrY s t := by
  obtain ⟨t, t1, t2, t3⟩ := e_copyN hC eh ew
  obtain ⟨n0, n1⟩ := N0D_ok (D := D) h1 h2
  have e3 : (stI (stI t 27 4 (-6)) 27 5 (-6)).1 (27 + 3) 3 = nI h := by rw [stI_ne (by omega), stI_ne (by omega)]; exact t2.1.1
  have fy : FrY s (stI (stI (stI t 27 4 (-6)) 27 5 (-6)) 29 0 (nI h)) := ((t3.y.tr (FrY.st (by omega))).tr (FrY.st (by omega))).tr (FrY.st (by omega))
  obtain ⟨u, u1, u2, u3, u4, u5, u6⟩ := play_loop (tm := D.2 0) (R := R) (so := so) (N0 := N0D D h w) (m := m) n0 n1 hm hR m 0 FU (stI (stI (stI t 27 4 (-6)) 27 5 (-6)) 29 0 (nI h)) (by omega) (fun j hj => by omega) (by unfold FU; omega) (t2.keep (fun k a b => by rw [stI_ne (by omega), stI_ne (by omega), stI_ne (by omega)])) (fun j hj => by
    have : j = 0 := by omega
    subst this
    rw [stI_get, if_pos ⟨rfl, rfl⟩]; rfl) (by rw [fy.2 1 (by omega) (by omega)]; exact hc) (fun j hj => by rw [fy.1 28 (by omega) (by omega) (by omega)]; exact hr j hj) (by simp [stI_get]) (by simp [stI_get]) (fun g hg => by rw [fy.1 2 (by omega) (by omega) (by omega)]; exact hC.lit.2.1 g hg)
  refine ⟨u, ?_, u2, u3, u4, u5, fy.tr u6⟩
  unfold f1_play
  rw [if_pos ⟨kd_27, kd_1⟩, t1, bd1_some]
  simp only [nm_eq]
  rw [e3, show (0 : Int32) = nI 0 from rfl, e_put (k := 27 + 2) (i := 0) kd_29 (by decide), bd1_some]
  exact u1
