-- an evening, read: the spec, and both sides' readers
def gx (x : Int32) : Int32 := if x < 0 then 0 else if 5 < x then 0 else 1
def fx (nf : Nat) (x : Int32) : Int32 := if x < 0 then 0 else if nI nf - 1 < x then 0 else 1
def ru (R : Nat → Nat) (m c : Nat) : Nat → Nat := fun k => if k = m then c else R k
/-- d signs from place i on; due: what must come (0 any, 1 a fact's letter, 2 + or -); m remarks so far, coded (100 silence, 101 time, 102 child, else guest * 16 + fact * 2 + so) -/
def ps (p : Nat → Int32) (n nf : Nat) : Nat → Nat → Nat → Nat → Nat → Nat → (Nat → Nat) → Int32 × Nat × (Nat → Nat)
  | 0, _, due, _, _, m, R => (if due = 0 then -6 else nI n, m, R)
  | d + 1, i, due, g, f, m, R =>
    if due = 0 then
      if gx (p i - 65) = 0 then
        if p i = 33 then ps p n nf d (i + 1) 0 g f (m + 1) (ru R m 102)
        else if p i = 46 then ps p n nf d (i + 1) 0 g f (m + 1) (ru R m 100)
        else if p i = 63 then ps p n nf d (i + 1) 0 g f (m + 1) (ru R m 101)
        else (nI i, m, R)
      else ps p n nf d (i + 1) 1 (p i - 65).toNatClampNeg f m R
    else if due = 1 then
      if fx nf (p i - 97) = 0 then (nI i, m, R)
      else ps p n nf d (i + 1) 2 g (p i - 97).toNatClampNeg m R
    else
      if p i = 43 then ps p n nf d (i + 1) 0 g f (m + 1) (ru R m (g * 16 + f * 2 + 1))
      else if p i = 45 then ps p n nf d (i + 1) 0 g f (m + 1) (ru R m (g * 16 + f * 2))
      else (nI i, m, R)
theorem gx_idx {x : Int32} (h : ¬ gx x = 0) : ∃ g, g < 6 ∧ x = nI g ∧ x.toNatClampNeg = g := by
  unfold gx at h
  by_cases h1 : x < 0
  · simp [h1] at h
  · by_cases h2 : 5 < x
    · simp [h1, h2] at h
    · obtain ⟨j, hj, rfl⟩ := nI_of2 (n := 5) (by decide) h1 (Int32.not_lt.mp h2)
      exact ⟨j, by omega, rfl, nI_clamp (by omega)⟩
theorem fx_idx {nf : Nat} {x : Int32} (hn1 : 1 ≤ nf) (hn : nf ≤ 8) (h : ¬ fx nf x = 0) : ∃ f, f < nf ∧ x = nI f ∧ x.toNatClampNeg = f := by
  unfold fx at h
  by_cases h1 : x < 0
  · simp [h1] at h
  · by_cases h2 : nI nf - 1 < x
    · simp [h1, h2] at h
    · rw [nI_m1 (by omega) h1] at h2
      rcases i3 x nf (by omega) with q | q | ⟨k, hk, rfl⟩
      · exact absurd q h1
      · exact absurd q h2
      · exact ⟨k, hk, rfl, nI_clamp (by omega)⟩
/-- a code is a remark's -/
def Cod (nf c : Nat) : Prop := c = 100 ∨ c = 101 ∨ c = 102 ∨ ∃ g f b, g < 6 ∧ f < nf ∧ b < 2 ∧ c = g * 16 + f * 2 + b
theorem ps_ok {p : Nat → Int32} {n nf : Nat} (hn1 : 1 ≤ nf) (hn : nf ≤ 8) : ∀ (d i due g f m : Nat) (R : Nat → Nat), m ≤ i → (1 ≤ due → g < 6) → (2 ≤ due → f < nf) → (∀ k, k < m → Cod nf (R k)) → (ps p n nf d i due g f m R).2.1 ≤ i + d ∧ ∀ k, k < (ps p n nf d i due g f m R).2.1 → Cod nf ((ps p n nf d i due g f m R).2.2 k) := by
  intro d
  induction d with
  | zero => intro i due g f m R hm hg hf hR; exact ⟨by simpa [ps] using hm, hR⟩
  | succ d ih =>
    intro i due g f m R hm hg hf hR
    have push : ∀ c, Cod nf c → ∀ k, k < m + 1 → Cod nf (ru R m c k) := by
      intro c hc k hk
      unfold ru
      split
      · exact hc
      · exact hR k (by omega)
    have stp : ∀ (g f c : Nat), Cod nf c → (ps p n nf d (i + 1) 0 g f (m + 1) (ru R m c)).2.1 ≤ i + (d + 1) ∧ ∀ k, k < (ps p n nf d (i + 1) 0 g f (m + 1) (ru R m c)).2.1 → Cod nf ((ps p n nf d (i + 1) 0 g f (m + 1) (ru R m c)).2.2 k) := by
      intro g f c hc
      have := ih (i + 1) 0 g f (m + 1) (ru R m c) (by omega) (fun h => by omega) (fun h => by omega) (push c hc)
      exact ⟨by omega, this.2⟩
    unfold ps
    by_cases h0 : due = 0
    · rw [if_pos h0]
      by_cases h1 : gx (p i - 65) = 0
      · rw [if_pos h1]
        split
        · exact stp _ _ _ (Or.inr (Or.inr (Or.inl rfl)))
        · split
          · exact stp _ _ _ (Or.inl rfl)
          · split
            · exact stp _ _ _ (Or.inr (Or.inl rfl))
            · exact ⟨by show m ≤ _; omega, hR⟩
      · rw [if_neg h1]
        obtain ⟨z, hz, e1, e2⟩ := gx_idx h1
        have := ih (i + 1) 1 (p i - 65).toNatClampNeg f m R (by omega) (fun _ => by rw [e2]; exact hz) (fun h => by omega) hR
        exact ⟨by omega, this.2⟩
    · rw [if_neg h0]
      by_cases h1 : due = 1
      · rw [if_pos h1]
        by_cases h2 : fx nf (p i - 97) = 0
        · rw [if_pos h2]; exact ⟨by show m ≤ _; omega, hR⟩
        · rw [if_neg h2]
          obtain ⟨z, hz, e1, e2⟩ := fx_idx hn1 hn h2
          have := ih (i + 1) 2 g (p i - 97).toNatClampNeg m R (by omega) (fun _ => hg (by omega)) (fun _ => by rw [e2]; exact hz) hR
          exact ⟨by omega, this.2⟩
      · rw [if_neg h1]
        have hg' := hg (by omega)
        have hf' := hf (by omega)
        split
        · exact stp _ _ _ (Or.inr (Or.inr (Or.inr ⟨g, f, 1, hg', hf', by omega, rfl⟩)))
        · split
          · exact stp _ _ _ (Or.inr (Or.inr (Or.inr ⟨g, f, 0, hg', hf', by omega, rfl⟩)))
          · exact ⟨by show m ≤ _; omega, hR⟩
theorem e_isGuestG {v : Int32} {s : Sto} : f8_isGuest v s = some (gx v, s) := e_isGuest
theorem e_isWithinF {v : Int32} {nf : Nat} {s : Sto} : f8_isWithin v 0 (nI nf - 1) s = some (fx nf v, s) := e_isWithin
theorem e_add1 {m : Nat} {c : Int32} {s : Sto} (hm : m < 60) (h : s.1 27 1 = nI m) : f1_add 27 c s = some (stI (stI s 28 m c) 27 1 (nI (m + 1))) := by
  unfold f1_add
  rw [if_pos kd_27, h, e_put (k := 27 + 1) (i := m) kd_28 (by rw [show ln (27 + 1) = 60 from rfl]; exact hm), bd1_some]
  simp only [nm_eq]
  rw [stI_ne (by omega), h, nI_1]
theorem cod_int {g f b : Nat} : nI g * 16 + nI f * 2 + nI b = nI (g * 16 + f * 2 + b) := by
  rw [show (16 : Int32) = nI 16 from rfl, show (2 : Int32) = nI 2 from rfl, pk_mul, pk_mul, nI_add, nI_add]
theorem read_loop {p : Nat → Int32} {n nf : Nat} (hn1 : 1 ≤ nf) (hn8 : nf ≤ 8) (hn : n ≤ 60) : ∀ (d i due g f m : Nat) (R : Nat → Nat) (fuel : Nat) (v4 v5 : Int32) (s : Sto), i + d = n → m ≤ i → due ≤ 2 → (1 ≤ due → v4 = nI g ∧ g < 6) → (2 ≤ due → v5 = nI f ∧ f < nf) → s.1 25 1 = nI n → (∀ k, k < 60 → s.1 26 k = p k) → s.1 27 1 = nI m → (∀ k, k < m → s.1 28 k = nI (R k)) → d < fuel →
    ∃ t, L1_read_16 27 25 (nI nf) fuel (nI due) v4 v5 (nI i) s = some ((ps p n nf d i due g f m R).1, t) ∧ t.1 27 1 = nI (ps p n nf d i due g f m R).2.1 ∧ (∀ k, k < (ps p n nf d i due g f m R).2.1 → t.1 28 k = nI ((ps p n nf d i due g f m R).2.2 k)) ∧ (∀ k, k ≠ 27 → k ≠ 28 → t.1 k = s.1 k) ∧ (∀ j, j ≠ 1 → t.1 27 j = s.1 27 j) := by
  intro d
  induction d with
  | zero =>
    intro i due g f m R fuel v4 v5 s hi hm hd hg hf hP hp hM hR hF
    obtain ⟨q, rfl⟩ : ∃ q, fuel = q + 1 := ⟨fuel - 1, by omega⟩
    have : i = n := by omega
    subst this
    refine ⟨s, ?_, by simpa [ps] using hM, by simpa [ps] using hR, fun _ _ _ => rfl, fun _ _ => rfl⟩
    unfold L1_read_16
    rw [hP, if_pos (Int32.le_refl _)]
    by_cases h0 : due = 0
    · subst h0; rw [if_pos (show nI 0 = 0 from rfl)]; simp [ps]
    · rw [if_neg (nI_ne0 (by omega) (by omega))]; simp [ps, h0]
  | succ d ih =>
    intro i due g f m R fuel v4 v5 s hi hm hd hg hf hP hp hM hR hF
    obtain ⟨q, rfl⟩ : ∃ q, fuel = q + 1 := ⟨fuel - 1, by omega⟩
    have hi60 : i < 60 := by omega
    have e0 : ¬ nI n ≤ nI i := nI_ge (by omega) (by omega)
    have eat : f8_at (25 + 1) (nI i) s = some (p i, s) := by rw [e_atN (k := 25 + 1) (i := i) kd_26 (by rw [show ln (25 + 1) = 60 from rfl]; exact hi60), hp i hi60]
    have push : ∀ (g' f' c : Nat) (v4' v5' : Int32), ∃ t, L1_read_16 27 25 (nI nf) q 0 v4' v5' (nI (i + 1)) (stI (stI s 28 m (nI c)) 27 1 (nI (m + 1))) = some ((ps p n nf d (i + 1) 0 g' f' (m + 1) (ru R m c)).1, t) ∧ t.1 27 1 = nI (ps p n nf d (i + 1) 0 g' f' (m + 1) (ru R m c)).2.1 ∧ (∀ k, k < (ps p n nf d (i + 1) 0 g' f' (m + 1) (ru R m c)).2.1 → t.1 28 k = nI ((ps p n nf d (i + 1) 0 g' f' (m + 1) (ru R m c)).2.2 k)) ∧ (∀ k, k ≠ 27 → k ≠ 28 → t.1 k = s.1 k) ∧ (∀ j, j ≠ 1 → t.1 27 j = s.1 27 j) := by
      intro g' f' c v4' v5'
      obtain ⟨t, t1, t2, t3, t4, t5⟩ := ih (i + 1) 0 g' f' (m + 1) (ru R m c) q v4' v5' (stI (stI s 28 m (nI c)) 27 1 (nI (m + 1))) (by omega) (by omega) (by omega) (fun h => by omega) (fun h => by omega) (by simpa [stI_get] using hP) (fun k hk => by simpa [stI_get] using hp k hk) (by simp [stI_get]) (fun k hk => by
        unfold ru
        by_cases e : k = m
        · subst e; simp [stI_get]
        · simpa [stI_get, e] using hR k (by omega)) (by omega)
      exact ⟨t, t1, t2, t3, fun k k1 k2 => by rw [t4 k k1 k2, stI_ne k1, stI_ne k2], fun j hj => by rw [t5 j hj, stI_get, if_neg (by omega), stI_ne (by omega)]⟩
    have eadd : ∀ c : Int32, f1_add 27 c s = some (stI (stI s 28 m c) 27 1 (nI (m + 1))) := fun c => e_add1 (by omega) hM
    unfold L1_read_16
    rw [hP, if_neg e0, eat, bd2_some]
    rcases (show due = 0 ∨ due = 1 ∨ due = 2 by omega) with rfl | rfl | rfl
    · rw [if_pos (show nI 0 = 0 from rfl), e_isGuestG, bd2_some]
      unfold ps
      rw [if_pos rfl]
      by_cases h1 : gx (p i - 65) = 0
      · rw [if_pos h1, if_pos h1, if_pos (show nI 0 = 0 from rfl)]
        by_cases c1 : p i = 33
        · obtain ⟨t, t1, t2⟩ := push g f 102 v4 v5
          refine ⟨t, ?_, by simpa [c1] using t2⟩
          simp only [f1_unspoken, c1, if_true, bd2_some, eadd, bd1_some, nI_1]
          simpa [show nI 0 = 0 from rfl, show nI 102 = 102 from rfl] using t1
        · by_cases c2 : p i = 46
          · obtain ⟨t, t1, t2⟩ := push g f 100 v4 v5
            refine ⟨t, ?_, by simpa [c1, c2] using t2⟩
            simp only [f1_unspoken, c2, if_true, bd2_some, eadd, bd1_some, nI_1]
            simpa [show nI 0 = 0 from rfl, show nI 100 = 100 from rfl, eadd, bd1_some, bd2_some] using t1
          · by_cases c3 : p i = 63
            · obtain ⟨t, t1, t2⟩ := push g f 101 v4 v5
              refine ⟨t, ?_, by simpa [c1, c2, c3] using t2⟩
              simp only [f1_unspoken, c3, if_true, bd2_some, eadd, bd1_some, nI_1]
              simpa [show nI 0 = 0 from rfl, show nI 101 = 101 from rfl, eadd, bd1_some, bd2_some] using t1
            · refine ⟨s, ?_, by simpa [c1, c2, c3] using hM, by simpa [c1, c2, c3] using hR, fun _ _ _ => rfl, fun _ _ => rfl⟩
              simp [f1_unspoken, c1, c2, c3, bd2_some, show nI 0 = 0 from rfl]
      · rw [if_neg h1, if_neg h1]
        obtain ⟨z, hz, y1, y2⟩ := gx_idx h1
        obtain ⟨t, t1, t2⟩ := ih (i + 1) 1 (p i - 65).toNatClampNeg f m R q (p i - 65) v5 s (by omega) (by omega) (by omega) (fun _ => ⟨by rw [y2]; exact y1, by rw [y2]; exact hz⟩) (fun h => by omega) hP hp hM hR (by omega)
        exact ⟨t, by rw [nI_1]; exact t1, t2⟩
    · have z0 : ¬ nI 1 = 0 := by decide
      have z1 : nI 1 = 1 := rfl
      have z2 : ¬ nI 1 = 2 := by decide
      obtain ⟨hv, hg6⟩ := hg (by omega)
      unfold ps
      rw [if_neg (show ¬ (1 : Nat) = 0 by decide), if_pos rfl, if_neg z0, if_neg z0, if_pos z1, e_isWithinF, bd2_some]
      by_cases h1 : fx nf (p i - 97) = 0
      · rw [if_pos h1, if_pos h1, if_neg z2]
        exact ⟨s, rfl, hM, hR, fun _ _ _ => rfl, fun _ _ => rfl⟩
      · rw [if_neg h1, if_neg h1]
        obtain ⟨z, hz, y1, y2⟩ := fx_idx hn1 hn8 h1
        obtain ⟨t, t1, t2⟩ := ih (i + 1) 2 g (p i - 97).toNatClampNeg m R q v4 (p i - 97) s (by omega) (by omega) (by omega) (fun _ => ⟨hv, hg6⟩) (fun _ => ⟨by rw [y2]; exact y1, by rw [y2]; exact hz⟩) hP hp hM hR (by omega)
        exact ⟨t, by rw [nI_1]; exact t1, t2⟩
    · have z0 : ¬ nI 2 = 0 := by decide
      have z1 : ¬ nI 2 = 1 := by decide
      have z2 : nI 2 = 2 := rfl
      obtain ⟨hv, hg6⟩ := hg (by omega)
      obtain ⟨hw, hf8⟩ := hf (by omega)
      subst hv hw
      unfold ps
      rw [if_neg (show ¬ (2 : Nat) = 0 by decide), if_neg (show ¬ (2 : Nat) = 1 by decide), if_neg z0, if_neg z0, if_neg z1, if_pos z2]
      by_cases c1 : p i = 43
      · rw [if_pos c1, if_pos c1, if_pos c1, bd1_some]
        obtain ⟨t, t1, t2⟩ := push g f (g * 16 + f * 2 + 1) (nI g) (nI f)
        refine ⟨t, ?_, t2⟩
        unfold f8_spoken
        rw [if_neg (by decide), bd2_some, show (1 : Int32) = nI 1 from rfl, cod_int, eadd, bd1_some, nI_add]
        exact t1
      · rw [if_neg c1, if_neg c1]
        by_cases c2 : p i = 45
        · rw [if_pos c2, if_pos c2, if_neg c1, bd1_some]
          obtain ⟨t, t1, t2⟩ := push g f (g * 16 + f * 2) (nI g) (nI f)
          refine ⟨t, ?_, t2⟩
          unfold f8_spoken
          rw [if_pos rfl, bd2_some, show nI g * 16 + nI f * 2 + 0 = nI (g * 16 + f * 2 + 0) from cod_int (b := 0), eadd, bd1_some, nI_1]
          exact t1
        · exact ⟨s, by simp [c1, c2], by simpa [c1, c2] using hM, by simpa [c1, c2] using hR, fun _ _ _ => rfl, fun _ _ => rfl⟩
/-- the check's remark k is the code c -/
def RemM (s : Sto) (k c : Nat) : Prop := (c = 100 ∧ s.1 51 k = 1) ∨ (c = 101 ∧ s.1 51 k = 2) ∨ (c = 102 ∧ s.1 51 k = 3) ∨ (c < 100 ∧ s.1 51 k = 0 ∧ s.1 52 k = nI (c / 16) ∧ s.1 53 k = nI (c / 2 % 8) ∧ s.1 54 k = nI (c % 2))
theorem RemM.keep {s t : Sto} {k c : Nat} (h : RemM s k c) (e : t.1 51 k = s.1 51 k ∧ t.1 52 k = s.1 52 k ∧ t.1 53 k = s.1 53 k ∧ t.1 54 k = s.1 54 k) : RemM t k c := by
  obtain ⟨e1, e2, e3, e4⟩ := e
  unfold RemM at h ⊢
  rw [e1, e2, e3, e4]; exact h
theorem e9_isGuestG {v : Int32} {s : Sto} : f9_isGuest v s = some (gx v, s) := by
  unfold f9_isGuest
  rw [e9_in_0_5, bd2_some]
  show (if gx v = 0 ∨ gx v = 1 then some (gx v, s) else none) = _
  rw [if_pos]
  unfold gx
  split
  · exact Or.inl rfl
  · split
    · exact Or.inl rfl
    · exact Or.inr rfl
theorem e9_isFactF {v : Int32} {nf : Nat} {s : Sto} (h : s.1 43 0 = nI nf) : f9_isFact 43 v s = some (fx nf v, s) := by
  unfold f9_isFact
  rw [if_pos kd_43, h, e9_in_0x, bd2_some]
  show (if fx nf v = 0 ∨ fx nf v = 1 then some (fx nf v, s) else none) = _
  rw [if_pos]
  unfold fx
  split
  · exact Or.inl rfl
  · split
    · exact Or.inl rfl
    · exact Or.inr rfl
/-- what the check's reader may change -/
def FrP (s t : Sto) : Prop := (∀ k, k ≠ 43 → (k < 51 ∨ 54 < k) → t.1 k = s.1 k) ∧ ∀ j, j ≠ 17 → t.1 43 j = s.1 43 j
theorem FrP.rf {s : Sto} : FrP s s := ⟨fun _ _ _ => rfl, fun _ _ => rfl⟩
theorem FrP.tr {s t u : Sto} (h : FrP s t) (g : FrP t u) : FrP s u := ⟨fun k a b => (g.1 k a b).trans (h.1 k a b), fun j a => (g.2 j a).trans (h.2 j a)⟩
theorem FrP.st {s : Sto} {k j : Nat} {v : Int32} (h : (k = 43 ∧ j = 17) ∨ (51 ≤ k ∧ k ≤ 54)) : FrP s (stI s k j v) := ⟨fun q a b => stI_ne (by omega), fun i a => by rw [stI_get, if_neg (by omega)]⟩
theorem fault_loop {p : Nat → Int32} {n nf : Nat} (hn1 : 1 ≤ nf) (hn8 : nf ≤ 8) (hn : n ≤ 60) : ∀ (d i due g f m : Nat) (R : Nat → Nat) (fuel : Nat) (s : Sto), i + d = n → m ≤ i → due ≤ 2 → (1 ≤ due → s.1 52 m = nI g ∧ g < 6) → (2 ≤ due → s.1 53 m = nI f ∧ f < nf) → s.1 43 12 = nI n → s.1 43 0 = nI nf → (∀ k, k < 60 → s.1 50 k = p k) → s.1 43 17 = nI m → (∀ k, k < m → RemM s k (R k)) → d < fuel →
    ∃ t, L9_faultOfEvening_9 43 fuel (nI due) (nI i) s = some ((ps p n nf d i due g f m R).1, t) ∧ t.1 43 17 = nI (ps p n nf d i due g f m R).2.1 ∧ (∀ k, k < (ps p n nf d i due g f m R).2.1 → RemM t k ((ps p n nf d i due g f m R).2.2 k)) ∧ FrP s t := by
  intro d
  induction d with
  | zero =>
    intro i due g f m R fuel s hi hm hd hg hf hP hN hp hM hR hF
    obtain ⟨q, rfl⟩ : ∃ q, fuel = q + 1 := ⟨fuel - 1, by omega⟩
    have : i = n := by omega
    subst this
    refine ⟨s, ?_, by simpa [ps] using hM, by simpa [ps] using hR, FrP.rf⟩
    unfold L9_faultOfEvening_9
    rw [hP, if_pos (Int32.le_refl _)]
    by_cases h0 : due = 0
    · subst h0; rw [if_pos (show nI 0 = 0 from rfl)]; simp [ps]
    · rw [if_neg (nI_ne0 (by omega) (by omega))]; simp [ps, h0]
  | succ d ih =>
    intro i due g f m R fuel s hi hm hd hg hf hP hN hp hM hR hF
    obtain ⟨q, rfl⟩ : ∃ q, fuel = q + 1 := ⟨fuel - 1, by omega⟩
    have hi60 : i < 60 := by omega
    have e0 : ¬ nI n ≤ nI i := nI_ge (by omega) (by omega)
    have q0 : inb (nI i) (ln (43 + 7)) := inb_nI (n := i) (m := 60) hi60 (by omega)
    have qi : (nI i).toNatClampNeg = i := nI_clamp (by omega)
    have qm : ∀ k, k = 8 ∨ k = 9 ∨ k = 10 ∨ k = 11 → inb (nI m) (ln (43 + k)) := fun k hk => by rcases hk with rfl | rfl | rfl | rfl <;> exact inb_nI (n := m) (m := 60) (by omega) (by omega)
    have qmc : (nI m).toNatClampNeg = m := nI_clamp (by omega)
    have qa : (0 : Int) ≤ (nI m).toInt := (inb_nI (n := m) (m := 60) (by omega) (by omega)).1
    have qb : (nI m).toInt < 60 := (inb_nI (n := m) (m := 60) (by omega) (by omega)).2
    have pe : s.1 (43 + 7) i = p i := hp i hi60
    -- behind one remark more
    have push : ∀ (g' f' c : Nat) (u : Sto), FrP s u → u.1 43 17 = nI m → RemM u m c → (∀ k, k < m → u.1 51 k = s.1 51 k ∧ u.1 52 k = s.1 52 k ∧ u.1 53 k = s.1 53 k ∧ u.1 54 k = s.1 54 k) → ∃ t, L9_faultOfEvening_9 43 q 0 (nI (i + 1)) (stI u 43 17 (nI (m + 1))) = some ((ps p n nf d (i + 1) 0 g' f' (m + 1) (ru R m c)).1, t) ∧ t.1 43 17 = nI (ps p n nf d (i + 1) 0 g' f' (m + 1) (ru R m c)).2.1 ∧ (∀ k, k < (ps p n nf d (i + 1) 0 g' f' (m + 1) (ru R m c)).2.1 → RemM t k ((ps p n nf d (i + 1) 0 g' f' (m + 1) (ru R m c)).2.2 k)) ∧ FrP s t := by
      intro g' f' c u hu hu17 hc hold
      have fr : FrP s (stI u 43 17 (nI (m + 1))) := hu.tr (FrP.st (Or.inl ⟨rfl, rfl⟩))
      obtain ⟨t, t1, t2, t3, t4⟩ := ih (i + 1) 0 g' f' (m + 1) (ru R m c) q (stI u 43 17 (nI (m + 1))) (by omega) (by omega) (by omega) (fun h => by omega) (fun h => by omega) (by rw [fr.2 12 (by omega)]; exact hP) (by rw [fr.2 0 (by omega)]; exact hN) (fun k hk => by rw [fr.1 50 (by omega) (by omega)]; exact hp k hk) (by simp [stI_get]) (fun k hk => by
        unfold ru
        by_cases e : k = m
        · subst e
          rw [if_pos rfl]
          exact hc.keep ⟨by rw [stI_ne (by omega)], by rw [stI_ne (by omega)], by rw [stI_ne (by omega)], by rw [stI_ne (by omega)]⟩
        · rw [if_neg e]
          have := hold k (by omega)
          exact (hR k (by omega)).keep ⟨by rw [stI_ne (by omega)]; exact this.1, by rw [stI_ne (by omega)]; exact this.2.1, by rw [stI_ne (by omega)]; exact this.2.2.1, by rw [stI_ne (by omega)]; exact this.2.2.2⟩) (by omega)
      exact ⟨t, t1, t2, t3, fr.tr t4⟩
    -- a remark that is one sign
    have short : ∀ (c : Nat) (v : Int32), RemM (stI s 51 m v) m c → ∃ t, L9_faultOfEvening_9 43 q 0 (nI i + 1) (stI (stI s 51 m v) 43 17 (nI m + 1)) = some ((ps p n nf d (i + 1) 0 g f (m + 1) (ru R m c)).1, t) ∧ t.1 43 17 = nI (ps p n nf d (i + 1) 0 g f (m + 1) (ru R m c)).2.1 ∧ (∀ k, k < (ps p n nf d (i + 1) 0 g f (m + 1) (ru R m c)).2.1 → RemM t k ((ps p n nf d (i + 1) 0 g f (m + 1) (ru R m c)).2.2 k)) ∧ FrP s t := by
      intro c v hc
      rw [nI_1, nI_1]
      refine push g f c _ (FrP.st (Or.inr ⟨by omega, by omega⟩)) (by rw [stI_ne (by omega)]; exact hM) hc (fun k hk => ⟨by rw [stI_get, if_neg (by omega)], by rw [stI_ne (by omega)], by rw [stI_ne (by omega)], by rw [stI_ne (by omega)]⟩)
    unfold L9_faultOfEvening_9
    rw [hP, if_neg e0, if_pos q0, qi, pe]
    rcases (show due = 0 ∨ due = 1 ∨ due = 2 by omega) with rfl | rfl | rfl
    · have z0 : nI 0 = 0 := rfl
      rw [z0]
      unfold ps
      rw [if_pos rfl]
      by_cases h1 : gx (p i - 65) = 0
      · rw [if_pos h1]
        by_cases c1 : p i = 33
        · obtain ⟨t, t1, t2⟩ := short 102 3 (Or.inr (Or.inr (Or.inl ⟨rfl, by simp [stI_get]⟩)))
          refine ⟨t, ?_, by simpa [c1] using t2⟩
          simp [f9_shortRemark, c1, bd2_some, bd1_some, hM, inb, ln_51, ln_52, ln_53, ln_54, qa, qb, qmc, nm_eq, stI_get, t1]
        · by_cases c2 : p i = 46
          · obtain ⟨t, t1, t2⟩ := short 100 1 (Or.inl ⟨rfl, by simp [stI_get]⟩)
            refine ⟨t, ?_, by simpa [c1, c2] using t2⟩
            simp [f9_shortRemark, c2, bd2_some, bd1_some, hM, inb, ln_51, ln_52, ln_53, ln_54, qa, qb, qmc, nm_eq, stI_get, t1]
          · by_cases c3 : p i = 63
            · obtain ⟨t, t1, t2⟩ := short 101 2 (Or.inr (Or.inl ⟨rfl, by simp [stI_get]⟩))
              refine ⟨t, ?_, by simpa [c1, c2, c3] using t2⟩
              simp [f9_shortRemark, c3, bd2_some, bd1_some, hM, inb, ln_51, ln_52, ln_53, ln_54, qa, qb, qmc, nm_eq, stI_get, t1]
            · refine ⟨s, ?_, by simpa [c1, c2, c3] using hM, by simpa [c1, c2, c3] using hR, FrP.rf⟩
              simp [f9_shortRemark, c1, c2, c3, bd2_some, e9_isGuestG, h1]
      · rw [if_neg h1]
        obtain ⟨z, hz, y1, y2⟩ := gx_idx h1
        have nc : ¬ p i = 33 ∧ ¬ p i = 46 ∧ ¬ p i = 63 := by
          refine ⟨fun e => h1 ?_, fun e => h1 ?_, fun e => h1 ?_⟩ <;> (rw [e]; decide)
        obtain ⟨t, t1, t2, t3, t4⟩ := ih (i + 1) 1 (p i - 65).toNatClampNeg f m R q (stI s 52 m (p i - 65)) (by omega) (by omega) (by omega) (fun _ => ⟨by simp [stI_get, y2, ← y1], by rw [y2]; exact hz⟩) (fun h => by omega) (by simpa [stI_get] using hP) (by simpa [stI_get] using hN) (fun k hk => by simpa [stI_get] using hp k hk) (by simpa [stI_get] using hM) (fun k hk => (hR k hk).keep ⟨by rw [stI_ne (by omega)], by rw [stI_get, if_neg (by omega)], by rw [stI_ne (by omega)], by rw [stI_ne (by omega)]⟩) (by omega)
        refine ⟨t, ?_, t2, t3, (FrP.st (Or.inr ⟨by omega, by omega⟩)).tr t4⟩
        rw [show nI 1 = 1 from rfl] at t1
        have m0 : nI m + 0 = nI m := nI_add m 0
        have sz : stI (stI s 52 m (p i - 65)) 43 17 (nI m) = stI s 52 m (p i - 65) := by
          apply Prod.ext
          · funext a b
            rw [stI_get]
            by_cases e : a = 43 ∧ b = 17
            · obtain ⟨rfl, rfl⟩ := e
              rw [if_pos ⟨rfl, rfl⟩, stI_ne (by omega)]; exact hM.symm
            · rw [if_neg e]
          · rfl
        simp [f9_shortRemark, nc.1, nc.2.1, nc.2.2, bd2_some, bd1_some, e9_isGuestG, h1, hM, inb, ln_51, ln_52, ln_53, ln_54, qa, qb, qmc, nm_eq, stI_get, m0, sz, nI_1, t1]
    · have z0 : ¬ nI 1 = 0 := by decide
      have z1 : nI 1 = 1 := rfl
      obtain ⟨hv, hg6⟩ := hg (by omega)
      unfold ps
      rw [if_neg (show ¬ (1 : Nat) = 0 by decide), if_pos rfl]
      by_cases h1 : fx nf (p i - 97) = 0
      · refine ⟨s, ?_, by simpa [h1] using hM, by simpa [h1] using hR, FrP.rf⟩
        simp [bd2_some, z0, z1, e9_isFactF hN, h1]
      · rw [if_neg h1]
        obtain ⟨z, hz, y1, y2⟩ := fx_idx hn1 hn8 h1
        obtain ⟨t, t1, t2, t3, t4⟩ := ih (i + 1) 2 g (p i - 97).toNatClampNeg m R q (stI s 53 m (p i - 97)) (by omega) (by omega) (by omega) (fun _ => ⟨by rw [stI_ne (by omega)]; exact hv, hg6⟩) (fun _ => ⟨by simp [stI_get, y2, ← y1], by rw [y2]; exact hz⟩) (by simpa [stI_get] using hP) (by simpa [stI_get] using hN) (fun k hk => by simpa [stI_get] using hp k hk) (by simpa [stI_get] using hM) (fun k hk => (hR k hk).keep ⟨by rw [stI_ne (by omega)], by rw [stI_ne (by omega)], by rw [stI_get, if_neg (by omega)], by rw [stI_ne (by omega)]⟩) (by omega)
        refine ⟨t, ?_, t2, t3, (FrP.st (Or.inr ⟨by omega, by omega⟩)).tr t4⟩
        rw [show nI 2 = (2 : Int32) from rfl] at t1
        have m0 : nI m + 0 = nI m := nI_add m 0
        have sz : stI (stI s 53 m (p i - 97)) 43 17 (nI m) = stI s 53 m (p i - 97) := by
          apply Prod.ext
          · funext a b
            rw [stI_get]
            by_cases e : a = 43 ∧ b = 17
            · obtain ⟨rfl, rfl⟩ := e
              rw [if_pos ⟨rfl, rfl⟩, stI_ne (by omega)]; exact hM.symm
            · rw [if_neg e]
          · rfl
        simp [bd2_some, bd1_some, z0, z1, e9_isFactF hN, h1, hM, inb, ln_51, ln_52, ln_53, ln_54, qa, qb, qmc, nm_eq, stI_get, m0, sz, nI_1, t1]
    · have z0 : ¬ nI 2 = 0 := by decide
      have z1 : ¬ nI 2 = 1 := by decide
      have z2 : nI 2 = 2 := rfl
      obtain ⟨hv, hg6⟩ := hg (by omega)
      obtain ⟨hw, hf8⟩ := hf (by omega)
      unfold ps
      rw [if_neg (show ¬ (2 : Nat) = 0 by decide), if_neg (show ¬ (2 : Nat) = 1 by decide)]
      have cod : ∀ b, b < 2 → RemM (stI (stI s 51 m 0) 54 m (nI b)) m (g * 16 + f * 2 + b) := fun b hb => by
        refine Or.inr (Or.inr (Or.inr ⟨by omega, by simp [stI_get], ?_, ?_, ?_⟩))
        · rw [stI_ne (by omega), stI_ne (by omega), hv, show (g * 16 + f * 2 + b) / 16 = g by omega]
        · rw [stI_ne (by omega), stI_ne (by omega), hw, show (g * 16 + f * 2 + b) / 2 % 8 = f by omega]
        · rw [stI_get, if_pos ⟨rfl, rfl⟩, show (g * 16 + f * 2 + b) % 2 = b by omega]
      have pp : ∀ b, b < 2 → ∃ t, L9_faultOfEvening_9 43 q 0 (nI i + 1) (stI (stI (stI s 51 m 0) 54 m (nI b)) 43 17 (nI m + 1)) = some ((ps p n nf d (i + 1) 0 g f (m + 1) (ru R m (g * 16 + f * 2 + b))).1, t) ∧ t.1 43 17 = nI (ps p n nf d (i + 1) 0 g f (m + 1) (ru R m (g * 16 + f * 2 + b))).2.1 ∧ (∀ k, k < (ps p n nf d (i + 1) 0 g f (m + 1) (ru R m (g * 16 + f * 2 + b))).2.1 → RemM t k ((ps p n nf d (i + 1) 0 g f (m + 1) (ru R m (g * 16 + f * 2 + b))).2.2 k)) ∧ FrP s t := fun b hb => by
        rw [nI_1, nI_1]
        exact push g f _ _ ((FrP.st (Or.inr ⟨by omega, by omega⟩)).tr (FrP.st (Or.inr ⟨by omega, by omega⟩))) (by rw [stI_ne (by omega), stI_ne (by omega)]; exact hM) (cod b hb) (fun k hk => ⟨by rw [stI_ne (by omega), stI_get, if_neg (by omega)], by rw [stI_ne (by omega), stI_ne (by omega)], by rw [stI_ne (by omega), stI_ne (by omega)], by rw [stI_get, if_neg (by omega), stI_ne (by omega)]⟩)
      by_cases c1 : p i = 43
      · obtain ⟨t, t1, t2⟩ := pp 1 (by omega)
        refine ⟨t, ?_, by simpa [c1] using t2⟩
        simp [bd2_some, bd1_some, z2, c1, hM, inb, ln_51, ln_52, ln_53, ln_54, qa, qb, qmc, nm_eq, stI_get, show nI 1 = 1 from rfl] at t1 ⊢
        exact t1
      · by_cases c2 : p i = 45
        · obtain ⟨t, t1, t2⟩ := pp 0 (by omega)
          refine ⟨t, ?_, by simpa [c1, c2] using t2⟩
          simp [bd2_some, bd1_some, z2, c2, hM, inb, ln_51, ln_52, ln_53, ln_54, qa, qb, qmc, nm_eq, stI_get, show nI 0 = 0 from rfl] at t1 ⊢
          exact t1
        · refine ⟨s, ?_, by simpa [c1, c2] using hM, by simpa [c1, c2] using hR, FrP.rf⟩
          simp [bd2_some, z2, c1, c2]
-- both readers from what RR says
def psO (p : Nat → Int32) (n nf : Nat) : Int32 × Nat × (Nat → Nat) := ps p n nf n 0 0 0 0 0 (fun _ => 0)
theorem psO_ok {p : Nat → Int32} {n nf : Nat} (hn1 : 1 ≤ nf) (hn8 : nf ≤ 8) (hn : n ≤ 60) : (psO p n nf).2.1 ≤ 60 ∧ ∀ k, k < (psO p n nf).2.1 → Cod nf ((psO p n nf).2.2 k) := by
  have := ps_ok (p := p) (n := n) hn1 hn8 n 0 0 0 0 0 (fun _ => 0) (by omega) (fun h => by omega) (fun h => by omega) (fun k hk => by omega)
  exact ⟨by unfold psO; omega, this.2⟩
theorem e_readE {p : Nat → Int32} {n nf : Nat} {s : Sto} (hn1 : 1 ≤ nf) (hn8 : nf ≤ 8) (hn : n ≤ 60) (h1 : s.1 25 1 = nI n) (h2 : ∀ k, k < 60 → s.1 26 k = p k) : ∃ t, f1_read 27 25 (nI nf) s = some ((psO p n nf).1, t) ∧ t.1 27 1 = nI (psO p n nf).2.1 ∧ (∀ k, k < (psO p n nf).2.1 → t.1 28 k = nI ((psO p n nf).2.2 k)) ∧ (∀ k, k ≠ 27 → k ≠ 28 → t.1 k = s.1 k) ∧ (∀ j, j ≠ 1 → t.1 27 j = s.1 27 j) := by
  obtain ⟨t, t1, t2, t3, t4, t5⟩ := read_loop (p := p) (n := n) (nf := nf) hn1 hn8 hn n 0 0 0 0 0 (fun _ => 0) FU 0 0 (stI s 27 1 0) (by omega) (by omega) (by omega) (fun h => by omega) (fun h => by omega) (by simpa [stI_get] using h1) (fun k hk => by simpa [stI_get] using h2 k hk) (by simp [stI_get, nI_0]) (fun k hk => by omega) (by unfold FU; omega)
  refine ⟨t, ?_, t2, t3, fun k k1 k2 => by rw [t4 k k1 k2, stI_ne k1], fun j hj => by rw [t5 j hj, stI_get, if_neg (by omega)]⟩
  unfold f1_read
  rw [if_pos ⟨kd_27, kd_25⟩, nm_eq]
  exact t1
theorem e_faultE {p : Nat → Int32} {n nf : Nat} {s : Sto} (hn1 : 1 ≤ nf) (hn8 : nf ≤ 8) (hn : n ≤ 60) (h1 : s.1 43 12 = nI n) (h2 : ∀ k, k < 60 → s.1 50 k = p k) (h3 : s.1 43 0 = nI nf) : ∃ t, f9_faultOfEvening 43 s = some ((psO p n nf).1, t) ∧ t.1 43 17 = nI (psO p n nf).2.1 ∧ (∀ k, k < (psO p n nf).2.1 → RemM t k ((psO p n nf).2.2 k)) ∧ FrP s t := by
  obtain ⟨t, t1, t2, t3, t4⟩ := fault_loop (p := p) (n := n) (nf := nf) hn1 hn8 hn n 0 0 0 0 0 (fun _ => 0) FU (stI s 43 17 0) (by omega) (by omega) (by omega) (fun h => by omega) (fun h => by omega) (by simpa [stI_get] using h1) (by simpa [stI_get] using h3) (fun k hk => by simpa [stI_get] using h2 k hk) (by simp [stI_get, nI_0]) (fun k hk => by omega) (by unfold FU; omega)
  refine ⟨t, ?_, t2, t3, (FrP.st (Or.inl ⟨rfl, rfl⟩)).tr t4⟩
  unfold f9_faultOfEvening
  rw [if_pos kd_43, nm_eq]
  exact t1
theorem FrP.same {s t : Sto} (h : FrP s t) : Same s t := ⟨fun k h1 _ => h.1 k (by omega) (by omega), ⟨by rw [h.1 3 (by omega) (by omega)], by rw [h.1 3 (by omega) (by omega)]⟩, ⟨h.2 0 (by omega), h.2 1 (by omega), h.2 3 (by omega), h.2 4 (by omega), h.2 10 (by omega), h.2 12 (by omega)⟩, fun k h1 h2 i _ => by rw [h.1 k (by omega) (by omega)], h.1 65 (by omega) (by omega), h.1 66 (by omega) (by omega)⟩
/-- what the class's evening may change -/
def FrE (s t : Sto) : Prop := ∀ k, (k < 27 ∨ 42 < k) → t.1 k = s.1 k
theorem FrE.rf {s : Sto} : FrE s s := fun _ _ => rfl
theorem FrE.tr {s t u : Sto} (h : FrE s t) (g : FrE t u) : FrE s u := fun k a => (g k a).trans (h k a)
theorem FrE.st {s : Sto} {k j : Nat} {v : Int32} (h : 27 ≤ k ∧ k ≤ 42) : FrE s (stI s k j v) := fun q a => stI_ne (by omega)
theorem FrE.same {s t : Sto} (h : FrE s t) : Same s t := ⟨fun k h1 _ => h k (by omega), ⟨by rw [h 3 (by omega)], by rw [h 3 (by omega)]⟩, ⟨by rw [h 43 (by omega)], by rw [h 43 (by omega)], by rw [h 43 (by omega)], by rw [h 43 (by omega)], by rw [h 43 (by omega)], by rw [h 43 (by omega)]⟩, fun k h1 h2 i _ => by rw [h k (by omega)], h 65 (by omega), h 66 (by omega)⟩
-- a pattern, read
def qp (p : Nat → Int32) : Nat → Nat → Bool → Nat → (Nat → Int32) → (Nat → Int32) → Int32 × Nat × (Nat → Int32) × (Nat → Int32)
  | 0, _, _, m, c, k => (-6, m, c, k)
  | d + 1, i, tw, m, c, k =>
    if p i = 42 ∧ tw = true then qp p d (i + 1) false m c (fun j => if j = m - 1 then 1 else k j)
    else if p i = 109 then qp p d (i + 1) false (m + 1) (fun j => if j = m then 6 else c j) (fun j => if j = m then 2 else k j)
    else if gx (p i - 65) = 0 then (nI i, m, c, k)
    else qp p d (i + 1) true (m + 1) (fun j => if j = m then p i - 65 else c j) (fun j => if j = m then 0 else k j)
