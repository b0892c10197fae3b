-- the needles, as numbers (0 rows, 1 width, 2 came, 3 went, 4 who lied last: 9 nobody) and rows of numbers (0 colours, 1 kinds, 2 widths)
abbrev NS : Type := (Nat → Nat) × (Nat → Nat → Int32)
def nset (N : NS) (j v : Nat) : NS := (fun i => if i = j then v else N.1 i, N.2)
def nlay (N : NS) (c k : Int32) : NS := (fun i => if i = 0 then N.1 0 + 1 else if i = 2 then N.1 2 + 1 else N.1 i, fun a i => if i = N.1 0 then (if a = 0 then c else if a = 1 then k else if a = 2 then nI (N.1 1) else N.2 a i) else N.2 a i)
def ndrop (N : NS) (r : Nat) : NS := (fun i => if i = 0 then N.1 0 - r else if i = 3 then N.1 3 + r else N.1 i, N.2)
/-- how many of the topmost n rows are of colour c -/
def rl (f : Nat → Int32) (c : Int32) : Nat → Nat
  | 0 => 0
  | n + 1 => if f n = c then rl f c n + 1 else 0
theorem rl_le (f : Nat → Int32) (c : Int32) (n : Nat) : rl f c n ≤ n := by
  induction n with
  | zero => exact Nat.le_refl _
  | succ n ih => simp only [rl]; split <;> omega
def tr (c : Nat) (so : Int32) : Bool := decide (((so >>> (nI (c / 2 % 8) &&& 31)) &&& 1) = nI (c % 2))
def nundo (N : NS) : NS := if N.1 0 = 0 then N else ndrop N (rl (N.2 0) (N.2 0 (N.1 0 - 1)) (N.1 0))
def nhear (c : Nat) (so : Int32) (N : NS) : NS :=
  if c = 101 then nset (nset N 4 9) 1 (N.1 1 - 1)
  else if c = 102 then nundo (nset N 4 9)
  else if c = 100 then nlay (nset N 4 9) 6 2
  else if tr c so then (if N.1 0 = 0 then nset N 4 9 else ndrop (nset N 4 9) 1)
  else nlay (nset N 4 (c / 16)) (nI (c / 16)) (if N.1 4 = c / 16 then 1 else 0)
def nknit (N : NS) : Nat := if N.1 0 = 30 then 2 else if N.1 1 = 0 then 3 else 0
def nwhy (tm : Nat → Int32) (c : Nat) (so : Int32) (N : NS) : Nat :=
  if c = 101 then (if N.1 1 = 0 then 3 else 0)
  else if c = 102 then 0
  else if c = 100 then nknit N
  else if tr c so then (if tm (c / 16) = 2 then 1 else 0)
  else if tm (c / 16) = 1 then 1 else nknit N
def NOk (N : NS) : Prop := N.1 0 ≤ 30 ∧ N.1 1 ≤ 40
/-- a code of the machine: 100, 101, 102, or a guest's below 96 -/
def CodL (c : Nat) : Prop := c = 100 ∨ c = 101 ∨ c = 102 ∨ c < 96
theorem Cod.l {nf c : Nat} (hn : nf ≤ 8) (h : Cod nf c) : CodL c := by
  rcases h with h | h | h | ⟨g, f, b, h1, h2, h3, h4⟩
  · exact Or.inl h
  · exact Or.inr (Or.inl h)
  · exact Or.inr (Or.inr (Or.inl h))
  · exact Or.inr (Or.inr (Or.inr (by omega)))
theorem nhear_ok {tm : Nat → Int32} {c : Nat} {so : Int32} {N : NS} (h : NOk N) (hw : nwhy tm c so N = 0) : NOk (nhear c so N) := by
  obtain ⟨h1, h2⟩ := h
  have kn : nknit N = 0 → N.1 0 < 30 := by
    intro h
    unfold nknit at h
    split at h
    · omega
    · omega
  unfold nwhy at hw
  unfold nhear
  by_cases c1 : c = 101
  · rw [if_pos c1]; exact ⟨by simpa [nset] using h1, by simp [nset]; omega⟩
  · rw [if_neg c1] at hw ⊢
    by_cases c2 : c = 102
    · rw [if_pos c2]
      unfold nundo
      split
      · exact ⟨by simpa [nset] using h1, by simpa [nset] using h2⟩
      · exact ⟨by simp [nset, ndrop]; omega, by simpa [nset, ndrop] using h2⟩
    · rw [if_neg c2] at hw ⊢
      by_cases c3 : c = 100
      · rw [if_pos c3] at hw ⊢
        have := kn hw
        exact ⟨by simp [nset, nlay]; omega, by simpa [nset, nlay] using h2⟩
      · rw [if_neg c3] at hw ⊢
        by_cases t : tr c so = true
        · rw [if_pos t]
          split
          · exact ⟨by simpa [nset] using h1, by simpa [nset] using h2⟩
          · exact ⟨by simp [nset, ndrop]; omega, by simpa [nset, ndrop] using h2⟩
        · rw [if_neg t] at hw ⊢
          split at hw
          · omega
          · have := kn hw
            exact ⟨by simp [nset, nlay]; omega, by simpa [nset, nlay] using h2⟩
theorem cd2 {c : Nat} (h : c < 1000) : nI c / (2 : Int32) = nI (c / 2) := pk_div (d := 2) (by omega) (by omega) (by omega)
theorem cd16 {c : Nat} (h : c < 1000) : nI c / (16 : Int32) = nI (c / 16) := pk_div (d := 16) (by omega) (by omega) (by omega)
theorem cm2 {c : Nat} (h : c < 1000) : nI c - nI c / (2 : Int32) * (2 : Int32) = nI (c % 2) := pk_rem (d := 2) (by omega) (by omega) (by omega)
theorem cm8 {c : Nat} (h : c < 1000) : nI c - nI c / (8 : Int32) * (8 : Int32) = nI (c % 8) := pk_rem (d := 8) (by omega) (by omega) (by omega)
theorem e_isTrue {c : Nat} {so : Int32} {s : Sto} (h : c < 1000) : f8_isTrue (nI c) so s = some (if tr c so then 1 else 0, s) := by
  unfold f8_isTrue
  simp only [nm_eq]
  rw [cm2 h, cd2 h, cm8 (by omega)]
  unfold tr
  by_cases e : (so >>> (nI (c / 2 % 8) &&& 31)) &&& 1 = nI (c % 2)
  · rw [if_pos e]; simp [e]
  · rw [if_neg e]; simp [e]
theorem e_guestOf {c : Nat} {s : Sto} (h : c < 1000) : f8_guestOf (nI c) s = some (nI (c / 16), s) := by
  unfold f8_guestOf; rw [cd16 h]
theorem nI_is {a b : Nat} (ha : a < 2 ^ 31) (hb : b < 2 ^ 31) : (nI a = nI b) = (a = b) := propext (nI_eq ha hb)
theorem q100 {c : Nat} (h : c < 1000) : (nI c = (100 : Int32)) = (c = 100) := nI_is (b := 100) (by omega) (by omega)
theorem q101 {c : Nat} (h : c < 1000) : (nI c = (101 : Int32)) = (c = 101) := nI_is (b := 101) (by omega) (by omega)
theorem q102 {c : Nat} (h : c < 1000) : (nI c = (102 : Int32)) = (c = 102) := nI_is (b := 102) (by omega) (by omega)
theorem q30 {c : Nat} (h : c < 1000) : (nI c = (30 : Int32)) = (c = 30) := nI_is (b := 30) (by omega) (by omega)
theorem q0 {c : Nat} (h : c < 1000) : (nI c = (0 : Int32)) = (c = 0) := nI_is (b := 0) (by omega) (by omega)
theorem l30 {c : Nat} (h : c < 1000) : (nI c < (30 : Int32)) = (c < 30) := propext (nI_ltI (b := 30) (by omega) (by omega))
theorem l1 {c : Nat} (h : c < 1000) : ((1 : Int32) ≤ nI c) = (1 ≤ c) := propext (nI_leI (a := 1) (by omega) (by omega))
theorem l0 {c : Nat} (h : c < 1000) : (nI c ≤ (0 : Int32)) = (c ≤ 0) := propext (nI_leI (b := 0) (by omega) (by omega))
theorem e_isSpoken {c : Nat} {s : Sto} (h : c < 1000) : f8_isSpoken (nI c) s = some (if c < 100 then 1 else 0, s) := by
  unfold f8_isSpoken
  rw [if_neg (nI_pos (by omega))]
  by_cases e : c < 100
  · have g : ¬ (100 : Int32) ≤ nI c := nI_ge (a := c) (b := 100) e (by omega)
    rw [if_neg g, if_pos e]
  · have g : (100 : Int32) ≤ nI c := nI_le (a := 100) (b := c) (by omega) (by omega)
    rw [if_pos g, if_neg e]
/-- the class's needles of an evening -/
def NeC (s : Sto) (N : NS) : Prop := (s.1 30 3 = nI (N.1 0) ∧ s.1 30 4 = nI (N.1 1) ∧ s.1 30 5 = nI (N.1 2) ∧ s.1 30 6 = nI (N.1 3) ∧ s.1 30 7 = (if N.1 4 = 9 then -1 else nI (N.1 4))) ∧ (∀ i, i < 30 → s.1 31 i = N.2 0 i) ∧ (∀ i, i < 30 → s.1 32 i = N.2 1 i) ∧ (∀ i, i < 30 → s.1 33 i = N.2 2 i)
/-- only the needles (30 to 33) are changed -/
def FrN (s t : Sto) : Prop := ∀ k, (k < 30 ∨ 33 < k) → t.1 k = s.1 k
theorem FrN.rf {s : Sto} : FrN s s := fun _ _ => rfl
theorem FrN.tr {s t u : Sto} (h : FrN s t) (g : FrN t u) : FrN s u := fun k a => (g k a).trans (h k a)
theorem FrN.st {s : Sto} {k j : Nat} {v : Int32} (h : 30 ≤ k ∧ k ≤ 33) : FrN s (stI s k j v) := fun q a => stI_ne (by omega)
theorem FrN.e {s t : Sto} (h : FrN s t) : FrE s t := fun k a => h k (by omega)
theorem e_whyNot {s : Sto} {N : NS} {tm : Nat → Int32} {c : Nat} {so : Int32} (hc : CodL c) (hN : NOk N) (h : NeC s N) (ht : ∀ g, g < 6 → s.1 2 g = tm g) : f8_whyNot (nI c) 1 so 30 s = some (nI (nwhy tm c so N), s) := by
  have hc1 : c < 1000 := by rcases hc with h | h | h | h <;> omega
  obtain ⟨⟨a0, a1, a2, a3, a4⟩, b0, b1, b2⟩ := h
  obtain ⟨h1, h2⟩ := hN
  have w0 : (N.1 0 < 30) = ¬ N.1 0 = 30 := propext ⟨fun h => by omega, fun h => by omega⟩
  have w1 : (1 ≤ N.1 1) = ¬ N.1 1 = 0 := propext ⟨fun h => by omega, fun h => by omega⟩
  have f0 : (s.1 30 3 < 30) = ¬ N.1 0 = 30 := by rw [a0, l30 (by omega), w0]
  have f1 : ((1 : Int32) ≤ s.1 30 4) = ¬ N.1 1 = 0 := by rw [a1, l1 (by omega), w1]
  unfold f8_whyNot
  rw [if_pos ⟨kd_1, kd_30⟩, e_isSpoken hc1, bd2_some, a0, a1]
  simp only [q100 hc1, q101 hc1, l30 (c := N.1 0) (by omega), l1 (c := N.1 1) (by omega), w0, w1]
  rcases hc with rfl | rfl | rfl | hc
  · unfold nwhy nknit
    by_cases z0 : N.1 0 = 30
    · simp [z0, bd1_some, show nI 2 = 2 from rfl]
    · by_cases z1 : N.1 1 = 0
      · simp [z0, z1, bd1_some, show nI 3 = 3 from rfl]
      · simp [z0, z1, bd1_some, show nI 0 = 0 from rfl]
  · unfold nwhy
    by_cases z1 : N.1 1 = 0
    · simp [z1, bd1_some, show nI 3 = 3 from rfl]
    · simp [z1, bd1_some, show nI 0 = 0 from rfl]
  · unfold nwhy
    simp [bd1_some, show nI 0 = 0 from rfl]
  · have n1 : ¬ c = 100 := by omega
    have n2 : ¬ c = 101 := by omega
    have n3 : ¬ c = 102 := by omega
    have et := e_temper (o := 1) (g := c / 16) (s := s) kd_1 kd_2 ln_2 (by omega)
    have hs : c < 100 := by omega
    rw [if_pos hs, if_neg (show ¬ (1 : Int32) = 0 by decide)]
    unfold nwhy nknit
    rw [if_neg n2, if_neg n3, if_neg n1]
    simp only [e_isTrue hc1, e_guestOf hc1, bd2_some, bd1_some, et, ht (c / 16) (by omega)]
    by_cases t : tr c so = true
    · by_cases g : tm (c / 16) = 2
      · simp [t, g, n1, n2, bd1_some, bd2_some, show nI 1 = 1 from rfl, et, ht (c / 16) (by omega)]
      · simp [t, g, n1, n2, bd1_some, bd2_some, show nI 0 = 0 from rfl, et, ht (c / 16) (by omega)]
    · by_cases g : tm (c / 16) = 1
      · simp [t, g, n1, n2, bd1_some, bd2_some, show nI 1 = 1 from rfl, et, ht (c / 16) (by omega)]
      · by_cases z0 : N.1 0 = 30
        · simp [t, g, n1, n2, f0, f1, z0, bd1_some, bd2_some, show nI 2 = 2 from rfl, et, ht (c / 16) (by omega)]
        · by_cases z1 : N.1 1 = 0
          · simp [t, g, n1, n2, f0, f1, z0, z1, bd1_some, bd2_some, show nI 3 = 3 from rfl, et, ht (c / 16) (by omega)]
          · simp [t, g, n1, n2, f0, f1, z0, z1, bd1_some, bd2_some, show nI 0 = 0 from rfl, et, ht (c / 16) (by omega)]
theorem e_lay {s : Sto} {N : NS} {c k : Int32} (h0 : N.1 0 < 30) (h : NeC s N) : ∃ t, f2_lay 30 c k s = some t ∧ NeC t (nlay N c k) ∧ FrN s t := by
  obtain ⟨⟨a0, a1, a2, a3, a4⟩, b0, b1, b2⟩ := h
  refine ⟨stI (stI (stI (stI (stI s 31 (N.1 0) c) 32 (N.1 0) k) 33 (N.1 0) (nI (N.1 1))) 30 3 (nI (N.1 0 + 1))) 30 5 (nI (N.1 2 + 1)), ?_, ?_, ((((FrN.st (by omega)).tr (FrN.st (by omega))).tr (FrN.st (by omega))).tr (FrN.st (by omega))).tr (FrN.st (by omega))⟩
  · unfold f2_lay
    rw [if_pos kd_30, a0, e_put (k := 30 + 1) (i := N.1 0) kd_31 (by rw [show ln (30 + 1) = 30 from rfl]; exact h0), bd1_some, stI_ne (by omega), a0, e_put (k := 30 + 2) (i := N.1 0) kd_32 (by rw [show ln (30 + 2) = 30 from rfl]; exact h0), bd1_some, stI_ne (by omega), stI_ne (by omega), a0, a1, e_put (k := 30 + 3) (i := N.1 0) kd_33 (by rw [show ln (30 + 3) = 30 from rfl]; exact h0), bd1_some]
    simp only [nm_eq]
    rw [stI_ne (by omega), stI_ne (by omega), stI_ne (by omega), a0, nI_1]
    rw [stI_get, if_neg (by omega), stI_ne (by omega), stI_ne (by omega), stI_ne (by omega), a2, nI_1]
  · refine ⟨⟨by simp [stI_get, nlay], by simp [stI_get, nlay, a1], by simp [stI_get, nlay], by simp [stI_get, nlay, a3], by simp [stI_get, nlay, a4]⟩, fun i hi => ?_, fun i hi => ?_, fun i hi => ?_⟩
    · by_cases e : i = N.1 0
      · simp [stI_get, nlay, e]
      · simp [stI_get, nlay, e, b0 i hi]
    · by_cases e : i = N.1 0
      · simp [stI_get, nlay, e]
      · simp [stI_get, nlay, e, b1 i hi]
    · by_cases e : i = N.1 0
      · simp [stI_get, nlay, e]
      · simp [stI_get, nlay, e, b2 i hi]
theorem e_dropTop {s : Sto} {N : NS} (hN : NOk N) (h : NeC s N) : ∃ t, f2_dropTop 30 s = some t ∧ NeC t (if N.1 0 = 0 then N else ndrop N 1) ∧ FrN s t := by
  have hh := h
  obtain ⟨⟨a0, a1, a2, a3, a4⟩, b0, b1, b2⟩ := h
  obtain ⟨h1, h2⟩ := hN
  unfold f2_dropTop
  rw [if_pos kd_30, a0]
  by_cases z : N.1 0 = 0
  · rw [if_pos (show nI (N.1 0) ≤ 0 by rw [z]; decide)]; exact ⟨s, rfl, by rw [if_pos z]; exact hh, FrN.rf⟩
  · rw [if_neg (nI_nle (by omega) (by omega))]
    simp only [nm_eq]
    have e1 : nI (N.1 0) - 1 = nI (N.1 0 - 1) := by rw [show N.1 0 = (N.1 0 - 1) + 1 by omega, nI_pred, Nat.add_sub_cancel]
    refine ⟨_, rfl, ?_, (FrN.st (by omega)).tr (FrN.st (by omega))⟩
    rw [if_neg z]
    refine ⟨⟨by simp [stI_get, ndrop, e1], by simp [stI_get, ndrop, a1], by simp [stI_get, ndrop, a2], by simp [stI_get, ndrop, a3, nI_1], by simp [stI_get, ndrop, a4]⟩, fun i hi => ?_, fun i hi => ?_, fun i hi => ?_⟩
    · simp [stI_get, ndrop, b0 i hi]
    · simp [stI_get, ndrop, b1 i hi]
    · simp [stI_get, ndrop, b2 i hi]
theorem e_dropLoop {c : Int32} : ∀ (h : Nat) (N : NS) (s : Sto) (fuel : Nat), N.1 0 = h → h ≤ 30 → N.1 1 ≤ 40 → NeC s N → h < fuel → ∃ t, L2_dropColour_18 30 c fuel (nI h - 1) s = some t ∧ NeC t (ndrop N (rl (N.2 0) c h)) ∧ FrN s t := by
  intro h
  induction h with
  | zero =>
    intro N s fuel e1 e2 e3 hN hF
    obtain ⟨q, rfl⟩ : ∃ q, fuel = q + 1 := ⟨fuel - 1, by omega⟩
    refine ⟨s, ?_, ?_, FrN.rf⟩
    · unfold L2_dropColour_18
      rw [if_pos (by decide)]
    · have : ndrop N (rl (N.2 0) c 0) = N := by
        unfold ndrop rl
        apply Prod.ext
        · funext i
          by_cases i0 : i = 0
          · subst i0; simp
          · by_cases i3 : i = 3
            · subst i3; simp
            · simp [i0, i3]
        · rfl
      rw [this]; exact hN
  | succ h ih =>
    intro N s fuel e1 e2 e3 hN hF
    obtain ⟨q, rfl⟩ : ∃ q, fuel = q + 1 := ⟨fuel - 1, by omega⟩
    unfold L2_dropColour_18
    rw [nI_pred, if_neg (nI_pos (by omega))]
    have ea : f2_colourAt 30 (nI h) s = some (N.2 0 h, s) := by
      unfold f2_colourAt
      rw [if_pos kd_30, e_atN (k := 30 + 1) (i := h) kd_31 (by rw [show ln (30 + 1) = 30 from rfl]; omega), bd2_some, show s.1 (30 + 1) h = N.2 0 h from hN.2.1 h (by omega)]
    rw [ea, bd2_some]
    by_cases z : N.2 0 h = c
    · rw [if_pos z]
      obtain ⟨t, t1, t2, t3⟩ := e_dropTop ⟨by omega, e3⟩ hN
      rw [if_neg (by omega)] at t2
      rw [t1, bd1_some]
      obtain ⟨u, u1, u2, u3⟩ := ih (ndrop N 1) t q (by simp [ndrop]; omega) (by omega) (by simpa [ndrop] using e3) t2 (by omega)
      refine ⟨u, ?_, ?_, t3.tr u3⟩
      · rw [← Int32.sub_eq_add_neg]; exact u1
      · have : ndrop (ndrop N 1) (rl ((ndrop N 1).2 0) c h) = ndrop N (rl (N.2 0) c (h + 1)) := by
          simp only [rl, if_pos z]
          unfold ndrop
          apply Prod.ext
          · funext i
            by_cases i0 : i = 0
            · subst i0; simp; omega
            · by_cases i3 : i = 3
              · subst i3; simp; omega
              · simp [i0, i3]
          · rfl
        rw [← this]; exact u2
    · rw [if_neg z]
      refine ⟨s, rfl, ?_, FrN.rf⟩
      have : ndrop N (rl (N.2 0) c (h + 1)) = N := by
        simp only [rl, if_neg z]
        unfold ndrop
        apply Prod.ext
        · funext i
          by_cases i0 : i = 0
          · subst i0; simp
          · by_cases i3 : i = 3
            · subst i3; simp
            · simp [i0, i3]
        · rfl
      rw [this]; exact hN
theorem e_dropColour {s : Sto} {N : NS} (hN : NOk N) (h : NeC s N) : ∃ t, f2_dropColour 30 s = some t ∧ NeC t (nundo N) ∧ FrN s t := by
  have hh := h
  obtain ⟨⟨a0, a1, a2, a3, a4⟩, b0, b1, b2⟩ := h
  obtain ⟨h1, h2⟩ := hN
  unfold f2_dropColour
  rw [if_pos kd_30, a0]
  by_cases z : N.1 0 = 0
  · have e : f2_colourAt 30 (nI (N.1 0) - 1) s = some (-6, s) := by
      unfold f2_colourAt
      rw [if_pos kd_30, z, e_at (k := 30 + 1) kd_31]
      rfl
    rw [e, bd2_some]
    refine ⟨s, ?_, by unfold nundo; rw [if_pos z]; exact hh, FrN.rf⟩
    unfold FU L2_dropColour_18
    rw [a0, z, if_pos (by decide), bd1_some]
  · have e1 : nI (N.1 0) - 1 = nI (N.1 0 - 1) := by rw [show N.1 0 = (N.1 0 - 1) + 1 by omega, nI_pred, Nat.add_sub_cancel]
    have e : f2_colourAt 30 (nI (N.1 0) - 1) s = some (N.2 0 (N.1 0 - 1), s) := by
      unfold f2_colourAt
      rw [if_pos kd_30, e1, e_atN (k := 30 + 1) (i := N.1 0 - 1) kd_31 (by rw [show ln (30 + 1) = 30 from rfl]; omega), bd2_some, show s.1 (30 + 1) (N.1 0 - 1) = N.2 0 (N.1 0 - 1) from b0 _ (by omega)]
    rw [e, bd2_some, a0]
    obtain ⟨t, t1, t2, t3⟩ := e_dropLoop (c := N.2 0 (N.1 0 - 1)) (N.1 0) N s FU rfl h1 h2 hh (by unfold FU; omega)
    rw [t1, bd1_some]
    exact ⟨t, rfl, by unfold nundo; rw [if_neg z]; exact t2, t3⟩
theorem NeC.liar {s : Sto} {N : NS} {v : Nat} (h : NeC s N) : NeC (stI s 30 7 (if v = 9 then -1 else nI v)) (nset N 4 v) := by
  obtain ⟨⟨a0, a1, a2, a3, a4⟩, b0, b1, b2⟩ := h
  exact ⟨⟨by simp [stI_get, nset, a0], by simp [stI_get, nset, a1], by simp [stI_get, nset, a2], by simp [stI_get, nset, a3], by simp [stI_get, nset]⟩, fun i hi => by simp [stI_get, nset, b0 i hi], fun i hi => by simp [stI_get, nset, b1 i hi], fun i hi => by simp [stI_get, nset, b2 i hi]⟩
theorem NOk.set4 {N : NS} {v : Nat} (h : NOk N) : NOk (nset N 4 v) := ⟨by simpa [nset] using h.1, by simpa [nset] using h.2⟩
theorem e_hear {s : Sto} {N : NS} {tm : Nat → Int32} {c : Nat} {so : Int32} (hc : CodL c) (hN : NOk N) (hl : N.1 4 = 9 ∨ N.1 4 < 6) (hw : nwhy tm c so N = 0) (h : NeC s N) : ∃ t, f2_hear 30 (nI c) so s = some t ∧ NeC t (nhear c so N) ∧ FrN s t := by
  have hc1 : c < 1000 := by rcases hc with h | h | h | h <;> omega
  have hh := h
  obtain ⟨⟨a0, a1, a2, a3, a4⟩, b0, b1, b2⟩ := h
  have h9 := hh.liar (v := 9)
  rw [if_pos rfl] at h9
  unfold nwhy at hw
  unfold f2_hear nhear
  rw [if_pos kd_30]
  simp only [nm_eq, q100 hc1, q101 hc1, q102 hc1]
  have kn : nknit N = 0 → N.1 0 < 30 := by
    intro h
    unfold nknit at h
    have := hN.1
    split at h <;> omega
  by_cases c1 : c = 101
  · rw [if_pos c1] at hw ⊢
    have w1 : N.1 1 ≠ 0 := fun z => by rw [if_pos z] at hw; omega
    rw [if_pos c1]
    refine ⟨_, rfl, ?_, (FrN.st (by omega)).tr (FrN.st (by omega))⟩
    have e1 : nI (N.1 1) - 1 = nI (N.1 1 - 1) := by rw [show N.1 1 = (N.1 1 - 1) + 1 by omega, nI_pred, Nat.add_sub_cancel]
    exact ⟨⟨by simp [stI_get, nset, a0], by simp [stI_get, nset, a1, e1], by simp [stI_get, nset, a2], by simp [stI_get, nset, a3], by simp [stI_get, nset]⟩, fun i hi => by simp [stI_get, nset, b0 i hi], fun i hi => by simp [stI_get, nset, b1 i hi], fun i hi => by simp [stI_get, nset, b2 i hi]⟩
  · rw [if_neg c1] at hw ⊢
    rw [if_neg c1]
    by_cases c2 : c = 102
    · rw [if_pos c2, if_pos c2]
      obtain ⟨t, t1, t2, t3⟩ := e_dropColour hN.set4 h9
      rw [t1, bd1_some]
      exact ⟨t, rfl, t2, (FrN.st (by omega)).tr t3⟩
    · rw [if_neg c2] at hw ⊢
      rw [if_neg c2]
      by_cases c3 : c = 100
      · rw [if_pos c3] at hw ⊢
        rw [if_pos c3]
        obtain ⟨t, t1, t2, t3⟩ := e_lay (c := 6) (k := 2) (by simpa [nset] using kn hw) h9
        rw [t1, bd1_some]
        exact ⟨t, rfl, t2, (FrN.st (by omega)).tr t3⟩
      · rw [if_neg c3] at hw ⊢
        rw [if_neg c3, e_isTrue hc1, bd2_some]
        by_cases tt : tr c so = true
        · rw [if_pos tt, if_pos tt, if_neg (show ¬ (1 : Int32) = 0 by decide)]
          obtain ⟨t, t1, t2, t3⟩ := e_dropTop hN.set4 h9
          rw [t1, bd1_some]
          exact ⟨t, rfl, by simpa [nset] using t2, (FrN.st (by omega)).tr t3⟩
        · rw [if_neg tt] at hw ⊢
          rw [if_neg tt, if_pos rfl, e_guestOf hc1, bd2_some]
          have g6 : c / 16 < 6 := by rcases hc with h | h | h | h <;> omega
          have hg := h9.liar (v := c / 16)
          rw [if_neg (by omega)] at hg
          have e5 : nset (nset N 4 9) 4 (c / 16) = nset N 4 (c / 16) := by
            apply Prod.ext
            · funext i
              by_cases e : i = 4 <;> simp [nset, e]
            · rfl
          rw [e5] at hg
          have r7 : (stI (stI s 30 7 (-1)) 30 7 (nI (c / 16))).1 30 7 = nI (c / 16) := by simp [stI_get]
          rw [r7, a4]
          have kk : nknit N = 0 := by
            split at hw
            · omega
            · exact hw
          have lie : (nI (c / 16) = (if N.1 4 = 9 then -1 else nI (N.1 4))) = (N.1 4 = c / 16) := by
            rcases hl with l9 | l6
            · rw [if_pos l9, l9]
              apply propext
              constructor
              · intro e
                exact absurd (show nI (c / 16) < 0 by rw [e]; decide) (nI_pos (by omega))
              · intro e; omega
            · rw [if_neg (by omega), nI_is (by omega) (by omega)]
              exact propext ⟨fun e => e.symm, fun e => e.symm⟩
          by_cases l : N.1 4 = c / 16
          · rw [if_pos (show nI (c / 16) = (if N.1 4 = 9 then -1 else nI (N.1 4)) by rw [lie]; exact l), bd1_some, if_pos l]
            obtain ⟨t, t1, t2, t3⟩ := e_lay (c := nI (c / 16)) (k := 1) (by simpa [nset] using kn kk) hg
            rw [t1, bd1_some]
            exact ⟨t, rfl, t2, ((FrN.st (by omega)).tr (FrN.st (by omega))).tr t3⟩
          · rw [if_neg (show ¬ nI (c / 16) = (if N.1 4 = 9 then -1 else nI (N.1 4)) by rw [lie]; exact l), bd1_some, if_neg l]
            obtain ⟨t, t1, t2, t3⟩ := e_lay (c := nI (c / 16)) (k := 0) (by simpa [nset] using kn kk) hg
            rw [t1, bd1_some]
            exact ⟨t, rfl, t2, ((FrN.st (by omega)).tr (FrN.st (by omega))).tr t3⟩
theorem nhear_l {c : Nat} {so : Int32} {N : NS} (hc : CodL c) : (nhear c so N).1 4 = 9 ∨ (nhear c so N).1 4 < 6 := by
  unfold nhear
  split
  · left; simp [nset]
  · split
    · left; unfold nundo; split <;> simp [nset, ndrop]
    · split
      · left; simp [nset, nlay]
      · split
        · left; split <;> simp [nset, ndrop]
        · right
          rcases hc with h | h | h | h
          · omega
          · omega
          · omega
          · simp [nset, nlay]; omega
