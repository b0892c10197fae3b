-- the check's needles
def NeM (s : Sto) (N : NS) : Prop := (s.1 43 3 = nI (N.1 0) ∧ s.1 43 4 = nI (N.1 1) ∧ s.1 43 21 = nI (N.1 2) ∧ s.1 43 22 = nI (N.1 3) ∧ s.1 43 25 = (if N.1 4 = 9 then -6 else nI (N.1 4))) ∧ (∀ i, i < 30 → s.1 45 i = N.2 0 i) ∧ (∀ i, i < 30 → s.1 46 i = N.2 1 i) ∧ (∀ i, i < 30 → s.1 47 i = N.2 2 i)
def FrM (s t : Sto) : Prop := (∀ k, k ≠ 43 → k ≠ 45 → k ≠ 46 → k ≠ 47 → t.1 k = s.1 k) ∧ ∀ j, j ≠ 3 → j ≠ 4 → j ≠ 21 → j ≠ 22 → j ≠ 25 → t.1 43 j = s.1 43 j
theorem FrM.rf {s : Sto} : FrM s s := ⟨fun _ _ _ _ _ => rfl, fun _ _ _ _ _ _ => rfl⟩
theorem FrM.tr {s t u : Sto} (h : FrM s t) (g : FrM t u) : FrM s u := ⟨fun k a b c d => (g.1 k a b c d).trans (h.1 k a b c d), fun j a b c d e => (g.2 j a b c d e).trans (h.2 j a b c d e)⟩
theorem FrM.st {s : Sto} {k j : Nat} {v : Int32} (h : (k = 43 ∧ (j = 3 ∨ j = 4 ∨ j = 21 ∨ j = 22 ∨ j = 25)) ∨ k = 45 ∨ k = 46 ∨ k = 47) : FrM s (stI s k j v) := ⟨fun q a b c d => stI_ne (by omega), fun i a b c d e => by rw [stI_get, if_neg (by omega)]⟩
theorem e9_isLie {s : Sto} {k c : Nat} {so : Int32} (hk : k < 60) (hc : c < 100) (h : RemM s k c) : f9_isLie 43 (nI k) so s = some (if tr c so then 0 else 1, s) := by
  have q1 : inb (nI k) (ln (43 + 11)) := inb_nI (n := k) (m := 60) hk (by omega)
  have q2 : inb (nI k) (ln (43 + 10)) := inb_nI (n := k) (m := 60) hk (by omega)
  have q3 : (nI k).toNatClampNeg = k := nI_clamp (by omega)
  obtain ⟨h1, h2, h3, h4, h5⟩ : c < 100 ∧ s.1 51 k = 0 ∧ s.1 52 k = nI (c / 16) ∧ s.1 53 k = nI (c / 2 % 8) ∧ s.1 54 k = nI (c % 2) := by
    rcases h with ⟨a, -⟩ | ⟨a, -⟩ | ⟨a, -⟩ | h
    · omega
    · omega
    · omega
    · exact h
  unfold f9_isLie
  rw [if_pos kd_43, if_pos q1, if_pos q2, q3, show s.1 (43 + 11) k = nI (c % 2) from h5, show s.1 (43 + 10) k = nI (c / 2 % 8) from h4]
  unfold tr
  by_cases e : (so >>> (nI (c / 2 % 8) &&& 31)) &&& 1 = nI (c % 2)
  · rw [if_pos e.symm]; simp [e]
  · rw [if_neg (fun z => e z.symm)]; simp [e]
theorem e9_knitWhy {s : Sto} {N : NS} (hN : NOk N) (h3 : s.1 43 3 = nI (N.1 0)) (h4 : s.1 43 4 = nI (N.1 1)) : f9_whyNotKnit 43 s = some (nI (nknit N), s) := by
  obtain ⟨n0, n1⟩ := hN
  unfold f9_whyNotKnit nknit
  rw [if_pos kd_43, h3, h4]
  simp only [q30 (c := N.1 0) (by omega), q0 (c := N.1 1) (by omega)]
  by_cases z0 : N.1 0 = 30
  · rw [if_pos z0, if_pos z0]; rfl
  · rw [if_neg z0, if_neg z0]
    by_cases z1 : N.1 1 = 0
    · rw [if_pos z1, if_pos z1]; rfl
    · rw [if_neg z1, if_neg z1]; rfl
theorem e9_whyNot {s : Sto} {N : NS} {tm : Nat → Int32} {k c : Nat} {so : Int32} (hk : k < 60) (hc : CodL c) (hr : RemM s k c) (hN : NOk N) (h : NeM s N) (ht : ∀ g, g < 6 → s.1 44 g = tm g) : f9_whyNot 43 (nI k) so s = some (nI (nwhy tm c so N), s) := by
  obtain ⟨⟨a0, a1, a2, a3, a4⟩, b0, b1, b2⟩ := h
  have q1 : inb (nI k) (ln (43 + 8)) := inb_nI (n := k) (m := 60) hk (by omega)
  have q2 : inb (nI k) (ln (43 + 9)) := inb_nI (n := k) (m := 60) hk (by omega)
  have q3 : (nI k).toNatClampNeg = k := nI_clamp (by omega)
  have ek := e9_knitWhy hN a0 a1
  have n1 := hN.2
  unfold f9_whyNot
  rw [if_pos kd_43, if_pos q1, q3]
  rcases hr with ⟨rfl, r⟩ | ⟨rfl, r⟩ | ⟨rfl, r⟩ | ⟨hc2, r, r2, r3, r4⟩
  · rw [show s.1 (43 + 8) k = 1 from r, if_neg (by decide), if_pos rfl, ek, bd2_some]
    unfold nwhy
    rw [if_neg (by decide), if_neg (by decide), if_pos rfl]
  · rw [show s.1 (43 + 8) k = 2 from r, if_neg (by decide), if_neg (by decide), if_pos rfl, a1]
    unfold nwhy
    rw [if_pos rfl]
    by_cases z : N.1 1 = 0
    · rw [z, if_pos (by decide), if_pos rfl]; rfl
    · rw [if_neg (nI_ne0 (by omega) (by omega)), if_neg z]; rfl
  · rw [show s.1 (43 + 8) k = 3 from r, if_neg (by decide), if_neg (by decide), if_neg (by decide)]
    unfold nwhy
    rw [if_neg (by decide), if_pos rfl]; rfl
  · have lie := e9_isLie (so := so) hk hc2 (Or.inr (Or.inr (Or.inr ⟨hc2, r, r2, r3, r4⟩)))
    have g6 : c / 16 < 6 := by rcases hc with h | h | h | h <;> omega
    rw [show s.1 (43 + 8) k = 0 from r, if_pos rfl, if_pos q2, lie, bd2_some, show s.1 (43 + 9) k = nI (c / 16) from r2]
    have q4 : inb (nI (c / 16)) (ln (43 + 1)) := inb_nI (n := c / 16) (m := 6) g6 (by omega)
    have q5 : (nI (c / 16)).toNatClampNeg = c / 16 := nI_clamp (by omega)
    have x1 : ¬ c = 101 := by omega
    have x2 : ¬ c = 102 := by omega
    have x3 : ¬ c = 100 := by omega
    unfold f9_whyNotSay nwhy
    rw [if_neg x1, if_neg x2, if_neg x3]
    by_cases t : tr c so = true
    · rw [if_pos t, if_pos t, if_pos kd_43, if_pos q4, if_pos rfl, bd1_some, q5, show s.1 (43 + 1) (c / 16) = tm (c / 16) from ht _ g6]
      by_cases g : tm (c / 16) = 2
      · rw [if_pos g, if_pos g, bd2_some]; rfl
      · rw [if_neg g, if_neg g, if_pos rfl, bd2_some]; rfl
    · rw [if_neg t, if_neg t, if_pos kd_43, if_pos q4, if_neg (show ¬ (1 : Int32) = 0 by decide), bd1_some, q5, show s.1 (43 + 1) (c / 16) = tm (c / 16) from ht _ g6]
      by_cases g : tm (c / 16) = 1
      · rw [if_pos g, if_pos g, bd2_some]; rfl
      · rw [if_neg g, if_neg g, if_neg (show ¬ (1 : Int32) = 0 by decide), ek, bd2_some, bd2_some]
theorem e9_knit {s : Sto} {N : NS} {c k : Int32} (h0 : N.1 0 < 30) (h : NeM s N) : ∃ t, f9_knit 43 c k s = some t ∧ NeM t (nlay N c k) ∧ FrM s t := by
  obtain ⟨⟨a0, a1, a2, a3, a4⟩, b0, b1, b2⟩ := h
  have q1 : ∀ j, j = 2 ∨ j = 3 ∨ j = 4 → inb (nI (N.1 0)) (ln (43 + j)) := fun j hj => by rcases hj with rfl | rfl | rfl <;> exact inb_nI (n := N.1 0) (m := 30) h0 (by omega)
  have q3 : (nI (N.1 0)).toNatClampNeg = N.1 0 := nI_clamp (by omega)
  refine ⟨stI (stI (stI (stI (stI s 45 (N.1 0) c) 46 (N.1 0) k) 47 (N.1 0) (nI (N.1 1))) 43 3 (nI (N.1 0 + 1))) 43 21 (nI (N.1 2 + 1)), ?_, ?_, ((((FrM.st (by omega)).tr (FrM.st (by omega))).tr (FrM.st (by omega))).tr (FrM.st (by omega))).tr (FrM.st (by omega))⟩
  · unfold f9_knit
    rw [if_pos kd_43, a0, if_pos (q1 2 (by omega)), q3]
    simp only [nm_eq]
    rw [stI_ne (by omega), a0, if_pos (q1 3 (by omega)), q3, stI_ne (by omega), stI_ne (by omega), a0, if_pos (q1 4 (by omega)), q3, a1, stI_ne (by omega), stI_ne (by omega), stI_ne (by omega), a0, nI_1]
    rw [stI_get, if_neg (by omega), stI_ne (by omega), stI_ne (by omega), stI_ne (by omega), a2, nI_1]
  · refine ⟨⟨by simp [stI_get, nlay], by simp [stI_get, nlay, a1], by simp [stI_get, nlay], by simp [stI_get, nlay, a3], by simp [stI_get, nlay, a4]⟩, fun i hi => ?_, fun i hi => ?_, fun i hi => ?_⟩
    · by_cases e : i = N.1 0
      · simp [stI_get, nlay, e]
      · simp [stI_get, nlay, e, b0 i hi]
    · by_cases e : i = N.1 0
      · simp [stI_get, nlay, e]
      · simp [stI_get, nlay, e, b1 i hi]
    · by_cases e : i = N.1 0
      · simp [stI_get, nlay, e]
      · simp [stI_get, nlay, e, b2 i hi]
theorem e9_ravel {s : Sto} {N : NS} (hN : NOk N) (h : NeM s N) : ∃ t, f9_ravel 43 s = some t ∧ NeM t (if N.1 0 = 0 then N else ndrop N 1) ∧ FrM s t := by
  have hh := h
  obtain ⟨⟨a0, a1, a2, a3, a4⟩, b0, b1, b2⟩ := h
  obtain ⟨h1, h2⟩ := hN
  unfold f9_ravel
  rw [if_pos kd_43, a0]
  by_cases z : N.1 0 = 0
  · rw [if_pos (show nI (N.1 0) ≤ 0 by rw [z]; decide)]; exact ⟨s, rfl, by rw [if_pos z]; exact hh, FrM.rf⟩
  · rw [if_neg (nI_nle (by omega) (by omega))]
    simp only [nm_eq]
    have e1 : nI (N.1 0) - 1 = nI (N.1 0 - 1) := by rw [show N.1 0 = (N.1 0 - 1) + 1 by omega, nI_pred, Nat.add_sub_cancel]
    refine ⟨_, rfl, ?_, (FrM.st (by omega)).tr (FrM.st (by omega))⟩
    rw [if_neg z]
    refine ⟨⟨by simp [stI_get, ndrop, e1], by simp [stI_get, ndrop, a1], by simp [stI_get, ndrop, a2], by simp [stI_get, ndrop, a3, nI_1], by simp [stI_get, ndrop, a4]⟩, fun i hi => ?_, fun i hi => ?_, fun i hi => ?_⟩
    · simp [stI_get, ndrop, b0 i hi]
    · simp [stI_get, ndrop, b1 i hi]
    · simp [stI_get, ndrop, b2 i hi]
theorem ndrop_0 {N : NS} : ndrop N 0 = N := by
  unfold ndrop
  apply Prod.ext
  · funext i
    by_cases i0 : i = 0
    · subst i0; simp
    · by_cases i3 : i = 3
      · subst i3; simp
      · simp [i0, i3]
  · rfl
theorem ndrop_add {N : NS} {a b : Nat} : ndrop (ndrop N a) b = ndrop N (b + a) := by
  unfold ndrop
  apply Prod.ext
  · funext i
    by_cases i0 : i = 0
    · subst i0; simp; omega
    · by_cases i3 : i = 3
      · subst i3; simp; omega
      · simp [i0, i3]
  · rfl
theorem e9_undoLoop {c : Int32} : ∀ (h : Nat) (N : NS) (s : Sto) (fuel : Nat), N.1 0 = h → h ≤ 30 → N.1 1 ≤ 40 → NeM s N → h < fuel → ∃ t, L9_undo_24 43 c fuel s = some t ∧ NeM t (ndrop N (rl (N.2 0) c h)) ∧ FrM s t := by
  intro h
  induction h with
  | zero =>
    intro N s fuel e1 e2 e3 hN hF
    obtain ⟨q, rfl⟩ : ∃ q, fuel = q + 1 := ⟨fuel - 1, by omega⟩
    refine ⟨s, ?_, by rw [show rl (N.2 0) c 0 = 0 from rfl, ndrop_0]; exact hN, FrM.rf⟩
    unfold L9_undo_24
    rw [hN.1.1, e1, if_pos (by decide)]
  | succ h ih =>
    intro N s fuel e1 e2 e3 hN hF
    obtain ⟨q, rfl⟩ : ∃ q, fuel = q + 1 := ⟨fuel - 1, by omega⟩
    have q1 : inb (nI h) (ln (43 + 2)) := inb_nI (n := h) (m := 30) (by omega) (by omega)
    have q3 : (nI h).toNatClampNeg = h := nI_clamp (by omega)
    unfold L9_undo_24
    rw [hN.1.1, e1, nI_pred, if_neg (nI_nle (by omega) (by omega)), if_pos q1, q3, show s.1 (43 + 2) h = N.2 0 h from hN.2.1 h (by omega)]
    by_cases z : N.2 0 h = c
    · rw [if_pos z]
      obtain ⟨t, t1, t2, t3⟩ := e9_ravel ⟨by omega, e3⟩ hN
      rw [if_neg (by omega)] at t2
      rw [t1, bd1_some]
      obtain ⟨u, u1, u2, u3⟩ := ih (ndrop N 1) t q (by simp [ndrop]; omega) (by omega) (by simpa [ndrop] using e3) t2 (by omega)
      refine ⟨u, u1, ?_, t3.tr u3⟩
      have : ndrop (ndrop N 1) (rl ((ndrop N 1).2 0) c h) = ndrop N (rl (N.2 0) c (h + 1)) := by
        rw [ndrop_add]
        simp only [rl, if_pos z]
        rfl
      rw [← this]; exact u2
    · rw [if_neg z]
      refine ⟨s, rfl, ?_, FrM.rf⟩
      rw [show rl (N.2 0) c (h + 1) = 0 by simp only [rl, if_neg z], ndrop_0]; exact hN
theorem e9_undo {s : Sto} {N : NS} (hN : NOk N) (h : NeM s N) : ∃ t, f9_undo 43 s = some t ∧ NeM t (nundo N) ∧ FrM s t := by
  have hh := h
  obtain ⟨⟨a0, a1, a2, a3, a4⟩, b0, b1, b2⟩ := h
  obtain ⟨h1, h2⟩ := hN
  unfold f9_undo
  rw [if_pos kd_43, a0]
  by_cases z : N.1 0 = 0
  · rw [if_pos (show nI (N.1 0) ≤ 0 by rw [z]; decide), bd1_some]
    refine ⟨s, ?_, by unfold nundo; rw [if_pos z]; exact hh, FrM.rf⟩
    unfold FU L9_undo_24
    rw [a0, z, if_pos (by decide), bd1_some]
  · have e1 : nI (N.1 0) - 1 = nI (N.1 0 - 1) := by rw [show N.1 0 = (N.1 0 - 1) + 1 by omega, nI_pred, Nat.add_sub_cancel]
    have q1 : inb (nI (N.1 0 - 1)) (ln (43 + 2)) := inb_nI (n := N.1 0 - 1) (m := 30) (by omega) (by omega)
    have q3 : (nI (N.1 0 - 1)).toNatClampNeg = N.1 0 - 1 := nI_clamp (by omega)
    rw [if_neg (nI_nle (by omega) (by omega)), e1, if_pos q1, q3, bd1_some, show s.1 (43 + 2) (N.1 0 - 1) = N.2 0 (N.1 0 - 1) from b0 _ (by omega)]
    obtain ⟨t, t1, t2, t3⟩ := e9_undoLoop (c := N.2 0 (N.1 0 - 1)) (N.1 0) N s FU rfl h1 h2 hh (by unfold FU; omega)
    rw [t1, bd1_some]
    exact ⟨t, rfl, by unfold nundo; rw [if_neg z]; exact t2, t3⟩
theorem NeM.liar {s : Sto} {N : NS} {v : Nat} (h : NeM s N) : NeM (stI s 43 25 (if v = 9 then -6 else nI v)) (nset N 4 v) := by
  obtain ⟨⟨a0, a1, a2, a3, a4⟩, b0, b1, b2⟩ := h
  exact ⟨⟨by simp [stI_get, nset, a0], by simp [stI_get, nset, a1], by simp [stI_get, nset, a2], by simp [stI_get, nset, a3], by simp [stI_get, nset]⟩, fun i hi => by simp [stI_get, nset, b0 i hi], fun i hi => by simp [stI_get, nset, b1 i hi], fun i hi => by simp [stI_get, nset, b2 i hi]⟩
theorem nset_drop {N : NS} {r v : Nat} : nset (ndrop N r) 4 v = ndrop (nset N 4 v) r := by
  unfold nset ndrop
  apply Prod.ext
  · funext i
    by_cases e : i = 4
    · subst e; simp
    · simp [e]
  · rfl
theorem nset_lay {N : NS} {c k : Int32} {v : Nat} : nset (nlay N c k) 4 v = nlay (nset N 4 v) c k := by
  unfold nset nlay
  apply Prod.ext
  · funext i
    by_cases e : i = 4
    · subst e; simp
    · simp [e]
  · rfl
theorem e9_happen {s : Sto} {N : NS} {tm : Nat → Int32} {k c : Nat} {so : Int32} (hk : k < 60) (hc : CodL c) (hr : RemM s k c) (hN : NOk N) (hl : N.1 4 = 9 ∨ N.1 4 < 6) (hw : nwhy tm c so N = 0) (h : NeM s N) : ∃ t, f9_happen 43 (nI k) so s = some t ∧ NeM t (nhear c so N) ∧ FrM s t := by
  have hh := h
  obtain ⟨⟨a0, a1, a2, a3, a4⟩, b0, b1, b2⟩ := h
  have h9 := hh.liar (v := 9)
  rw [if_pos rfl] at h9
  have q1 : inb (nI k) (ln (43 + 8)) := inb_nI (n := k) (m := 60) hk (by omega)
  have q2 : inb (nI k) (ln (43 + 9)) := inb_nI (n := k) (m := 60) hk (by omega)
  have q3 : (nI k).toNatClampNeg = k := nI_clamp (by omega)
  have kn : nknit N = 0 → N.1 0 < 30 := by
    intro h
    unfold nknit at h
    have := hN.1
    split at h <;> omega
  have n1 := hN.2
  unfold nwhy at hw
  unfold f9_happen nhear
  rw [if_pos kd_43, if_pos q1, q3]
  rcases hr with ⟨rfl, r⟩ | ⟨rfl, r⟩ | ⟨rfl, r⟩ | ⟨hc2, r, r2, r3, r4⟩
  · rw [if_neg (by decide), if_neg (by decide), if_pos rfl] at hw
    rw [show s.1 (43 + 8) k = 1 from r, if_neg (by decide), nm_eq, if_pos q1, stI_ne (by omega), show s.1 (43 + 8) k = 1 from r, if_pos rfl]
    obtain ⟨t, t1, t2, t3⟩ := e9_knit (c := 6) (k := 2) (by simpa [nset] using kn hw) h9
    rw [t1, bd1_some]
    exact ⟨t, rfl, t2, (FrM.st (by omega)).tr t3⟩
  · rw [if_pos rfl] at hw
    have w1 : N.1 1 ≠ 0 := fun z => by rw [if_pos z] at hw; omega
    have e1 : nI (N.1 1) - 1 = nI (N.1 1 - 1) := by rw [show N.1 1 = (N.1 1 - 1) + 1 by omega, nI_pred, Nat.add_sub_cancel]
    rw [show s.1 (43 + 8) k = 2 from r, if_neg (by decide), nm_eq, if_pos q1, stI_ne (by omega), show s.1 (43 + 8) k = 2 from r, if_neg (by decide), if_pos q1, if_pos rfl, nm_eq]
    refine ⟨_, rfl, ?_, (FrM.st (by omega)).tr (FrM.st (by omega))⟩
    exact ⟨⟨by simp [stI_get, nset, a0], by simp [stI_get, nset, a1, e1], by simp [stI_get, nset, a2], by simp [stI_get, nset, a3], by simp [stI_get, nset]⟩, fun i hi => by simp [stI_get, nset, b0 i hi], fun i hi => by simp [stI_get, nset, b1 i hi], fun i hi => by simp [stI_get, nset, b2 i hi]⟩
  · rw [show s.1 (43 + 8) k = 3 from r, if_neg (by decide), nm_eq, if_pos q1, stI_ne (by omega), show s.1 (43 + 8) k = 3 from r, if_neg (by decide), if_pos q1, if_neg (by decide)]
    obtain ⟨t, t1, t2, t3⟩ := e9_undo hN.set4 h9
    rw [t1, bd1_some]
    exact ⟨t, rfl, t2, (FrM.st (by omega)).tr t3⟩
  · have lie := e9_isLie (so := so) hk hc2 (Or.inr (Or.inr (Or.inr ⟨hc2, r, r2, r3, r4⟩)))
    have g6 : c / 16 < 6 := by rcases hc with h | h | h | h <;> omega
    have x1 : ¬ c = 101 := by omega
    have x2 : ¬ c = 102 := by omega
    have x3 : ¬ c = 100 := by omega
    rw [if_neg x1, if_neg x2, if_neg x3] at hw
    rw [show s.1 (43 + 8) k = 0 from r, if_pos rfl, if_pos q2, lie, bd2_some, show s.1 (43 + 9) k = nI (c / 16) from r2, if_neg x1, if_neg x2, if_neg x3]
    unfold f9_tells
    rw [if_pos kd_43]
    by_cases tt : tr c so = true
    · rw [if_pos tt, if_pos tt, if_pos rfl]
      obtain ⟨t, t1, t2, t3⟩ := e9_ravel hN hh
      rw [t1, bd1_some, bd1_some, if_pos rfl, nm_eq, bd1_some]
      refine ⟨_, rfl, ?_, t3.tr (FrM.st (by omega))⟩
      have := t2.liar (v := 9)
      rw [if_pos rfl] at this
      by_cases z : N.1 0 = 0
      · rw [if_pos z] at this ⊢; exact this
      · rw [if_neg z] at this ⊢; rw [← nset_drop]; exact this
    · rw [if_neg tt] at hw
      rw [if_neg tt, if_neg tt, if_neg (show ¬ (1 : Int32) = 0 by decide), a4]
      have kk : nknit N = 0 := by
        split at hw
        · omega
        · exact hw
      have lie : ((if N.1 4 = 9 then -6 else nI (N.1 4)) = nI (c / 16)) = (N.1 4 = c / 16) := by
        rcases hl with l9 | l6
        · rw [if_pos l9, l9]
          apply propext
          constructor
          · intro e
            exact absurd (show nI (c / 16) < 0 by rw [← e]; decide) (nI_pos (by omega))
          · intro e; omega
        · rw [if_neg (by omega), nI_is (by omega) (by omega)]
      by_cases l : N.1 4 = c / 16
      · rw [if_pos (show (if N.1 4 = 9 then -6 else nI (N.1 4)) = nI (c / 16) by rw [lie]; exact l), bd1_some, if_pos l]
        obtain ⟨t, t1, t2, t3⟩ := e9_knit (c := nI (c / 16)) (k := 1) (kn kk) hh
        rw [t1, bd1_some, bd1_some, if_neg (show ¬ (1 : Int32) = 0 by decide), nm_eq, bd1_some]
        have := t2.liar (v := c / 16)
        rw [if_neg (by omega)] at this
        exact ⟨_, rfl, by rw [← nset_lay]; exact this, t3.tr (FrM.st (by omega))⟩
      · rw [if_neg (show ¬ (if N.1 4 = 9 then -6 else nI (N.1 4)) = nI (c / 16) by rw [lie]; exact l), bd1_some, if_neg l]
        obtain ⟨t, t1, t2, t3⟩ := e9_knit (c := nI (c / 16)) (k := 0) (kn kk) hh
        rw [t1, bd1_some, bd1_some, if_neg (show ¬ (1 : Int32) = 0 by decide), nm_eq, bd1_some]
        have := t2.liar (v := c / 16)
        rw [if_neg (by omega)] at this
        exact ⟨_, rfl, by rw [← nset_lay]; exact this, t3.tr (FrM.st (by omega))⟩
