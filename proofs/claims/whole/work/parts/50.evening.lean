-- the check's evening
def hh (R : Nat → Nat) (so : Int32) (N0 : NS) (i : Nat) : Nat := (sq R so N0 i).1 0
def mn (R : Nat → Nat) (so : Int32) (N0 : NS) : Nat → Nat
  | 0 => N0.1 0
  | i + 1 => if mn R so N0 i ≤ hh R so N0 (i + 1) then mn R so N0 i else hh R so N0 (i + 1)
def mx (R : Nat → Nat) (so : Int32) (N0 : NS) : Nat → Nat
  | 0 => N0.1 0
  | i + 1 => if hh R so N0 (i + 1) ≤ mx R so N0 i then mx R so N0 i else hh R so N0 (i + 1)
def lb (R : Nat → Nat) (so : Int32) (N0 : NS) : Nat → Nat → Int32
  | 0, _ => -6
  | i + 1, r => if hh R so N0 (i + 1) ≤ r ∧ r < N0.1 0 then (if 0 ≤ lb R so N0 i r then lb R so N0 i r else nI i) else lb R so N0 i r
/-- all of the first k sights that speak of this place are so -/
def sB (sr sw : Nat → Int32) (many rows : Nat) : Nat → Bool
  | 0 => true
  | k + 1 => sB sr sw many rows k && (!decide (sr k = nI many) || decide (sw k = nI rows))
def sn (sr sw : Nat → Int32) (c : Nat) (R : Nat → Nat) (so : Int32) (N0 : NS) : Nat → Bool
  | 0 => sB sr sw 0 (hh R so N0 0) c
  | i + 1 => sn sr sw c R so N0 i && sB sr sw (i + 1) (hh R so N0 (i + 1)) c
def FrG (s t : Sto) : Prop := (∀ k, k ≠ 43 → k ≠ 45 → k ≠ 46 → k ≠ 47 → k ≠ 57 → t.1 k = s.1 k) ∧ ∀ j, j ≠ 3 → j ≠ 4 → (j < 21 ∨ 25 < j) → (j < 28 ∨ 30 < j) → t.1 43 j = s.1 43 j
theorem FrG.rf {s : Sto} : FrG s s := ⟨fun _ _ _ _ _ _ => rfl, fun _ _ _ _ _ => rfl⟩
theorem FrG.tr {s t u : Sto} (h : FrG s t) (g : FrG t u) : FrG s u := ⟨fun k a b c d e => (g.1 k a b c d e).trans (h.1 k a b c d e), fun j a b c d => (g.2 j a b c d).trans (h.2 j a b c d)⟩
theorem FrG.st {s : Sto} {k j : Nat} {v : Int32} (h : (k = 43 ∧ (j = 3 ∨ j = 4 ∨ (21 ≤ j ∧ j ≤ 25) ∨ (28 ≤ j ∧ j ≤ 30))) ∨ k = 45 ∨ k = 46 ∨ k = 47 ∨ k = 57) : FrG s (stI s k j v) := ⟨fun q a b c d e => stI_ne (by omega), fun i a b c d => by rw [stI_get, if_neg (by omega)]⟩
theorem FrM.g {s t : Sto} (h : FrM s t) : FrG s t := ⟨fun k a b c d _ => h.1 k a b c d, fun j a b c d => h.2 j a b (by omega) (by omega) (by omega)⟩
theorem look_loop {a1 : Int32} {h0 : Nat} (hh0 : h0 ≤ 30) : ∀ (d j fuel : Nat) (s : Sto), j + d = h0 ∨ (d = 0 ∧ h0 ≤ j ∧ j ≤ 30) → d < fuel → s.1 58 90 = nI h0 → ∃ t, L9_look_5 43 a1 fuel (nI j) s = some t ∧ (∀ r, t.1 57 r = if j ≤ r ∧ r < h0 then (if 0 ≤ s.1 57 r then s.1 57 r else a1) else s.1 57 r) ∧ ∀ k, k ≠ 57 → t.1 k = s.1 k := by
  intro d
  have q90 : inb (90 : Int32) (ln (43 + 15)) := by decide
  have c90 : (90 : Int32).toNatClampNeg = 90 := by decide
  induction d with
  | zero =>
    intro j fuel s h1 h2 h3
    obtain ⟨f, rfl⟩ : ∃ f, fuel = f + 1 := ⟨fuel - 1, by omega⟩
    refine ⟨s, ?_, fun r => by rw [if_neg (by omega)], fun _ _ => rfl⟩
    unfold L9_look_5
    rw [if_pos q90, c90, show s.1 (43 + 15) 90 = nI h0 from h3, if_pos (nI_le (by omega) (by omega))]
  | succ d ih =>
    intro j fuel s h1 h2 h3
    obtain ⟨f, rfl⟩ : ∃ f, fuel = f + 1 := ⟨fuel - 1, by omega⟩
    have q1 : inb (nI j) (ln (43 + 14)) := inb_nI (n := j) (m := 30) (by omega) (by omega)
    have q3 : (nI j).toNatClampNeg = j := nI_clamp (by omega)
    have go : ∀ v, v = (if 0 ≤ s.1 57 j then s.1 57 j else a1) → ∃ t, L9_look_5 43 a1 f (nI (j + 1)) (stI s 57 j v) = some t ∧ (∀ r, t.1 57 r = if j ≤ r ∧ r < h0 then (if 0 ≤ s.1 57 r then s.1 57 r else a1) else s.1 57 r) ∧ ∀ k, k ≠ 57 → t.1 k = s.1 k := by
      intro v hv
      obtain ⟨t, t1, t2, t3⟩ := ih (j + 1) f (stI s 57 j v) (by omega) (by omega) (by rw [stI_ne (by omega)]; exact h3)
      refine ⟨t, t1, fun r => ?_, fun k hk => by rw [t3 k hk, stI_ne hk]⟩
      rw [t2 r, stI_get]
      by_cases e : r = j
      · subst e
        rw [if_neg (show ¬ (r + 1 ≤ r ∧ r < h0) by omega), if_pos (show (57 : Nat) = 57 ∧ r = r from ⟨rfl, rfl⟩), if_pos (show r ≤ r ∧ r < h0 by omega)]; exact hv
      · rw [if_neg (show ¬ ((57 : Nat) = 57 ∧ r = j) by omega)]
        by_cases g : j + 1 ≤ r ∧ r < h0
        · rw [if_pos g, if_pos (show j ≤ r ∧ r < h0 by omega)]
        · rw [if_neg g, if_neg (show ¬ (j ≤ r ∧ r < h0) by omega)]
    unfold L9_look_5
    rw [if_pos q90, c90, show s.1 (43 + 15) 90 = nI h0 from h3, if_neg (nI_ge (by omega) (by omega)), if_pos q1, q3]
    by_cases z : 0 ≤ s.1 57 j
    · rw [if_pos (show 0 ≤ s.1 (43 + 14) j from z), if_pos q1, if_pos q1, nm_eq, nI_1]
      exact go (s.1 57 j) (by rw [if_pos z])
    · rw [if_neg (show ¬ 0 ≤ s.1 (43 + 14) j from z), if_pos q1, nm_eq, nI_1]
      exact go a1 (by rw [if_neg z])
theorem lost_init {a1 : Int32} : ∀ (d j fuel : Nat) (s : Sto), j + d = 30 → d < fuel → ∃ t, L9_goEvening_55 43 a1 fuel (nI j) s = some t ∧ (∀ r, r < 30 → t.1 57 r = if j ≤ r then -6 else s.1 57 r) ∧ ∀ k, k ≠ 57 → t.1 k = s.1 k := by
  intro d
  induction d with
  | zero =>
    intro j fuel s h1 h2
    obtain ⟨f, rfl⟩ : ∃ f, fuel = f + 1 := ⟨fuel - 1, by omega⟩
    have : j = 30 := by omega
    subst this
    refine ⟨s, ?_, fun r hr => by rw [if_neg (by omega)], fun _ _ => rfl⟩
    unfold L9_goEvening_55
    rw [if_pos (by decide)]
  | succ d ih =>
    intro j fuel s h1 h2
    obtain ⟨f, rfl⟩ : ∃ f, fuel = f + 1 := ⟨fuel - 1, by omega⟩
    have q1 : inb (nI j) (ln (43 + 14)) := inb_nI (n := j) (m := 30) (by omega) (by omega)
    have q3 : (nI j).toNatClampNeg = j := nI_clamp (by omega)
    obtain ⟨t, t1, t2, t3⟩ := ih (j + 1) f (stI s 57 j (-6)) (by omega) (by omega)
    refine ⟨t, ?_, fun r hr => ?_, fun k hk => by rw [t3 k hk, stI_ne hk]⟩
    · unfold L9_goEvening_55
      rw [if_neg (i30 (by omega)), if_pos q1, q3, nm_eq, nI_1]; exact t1
    · rw [t2 r hr, stI_get]
      by_cases e : r = j
      · subst e; rw [if_neg (by omega), if_pos ⟨rfl, rfl⟩, if_pos (by omega)]
      · rw [if_neg (by omega : ¬ (57 = 57 ∧ r = j))]
        by_cases g : j + 1 ≤ r
        · rw [if_pos g, if_pos (by omega)]
        · rw [if_neg g, if_neg (by omega)]
theorem seen_loop {s : Sto} {sr sw : Nat → Int32} {many rows c : Nat} (hc : c ≤ 8) (h10 : s.1 43 10 = nI c) (h3 : s.1 43 3 = nI rows) (hr : ∀ k, k < 8 → s.1 48 k = sr k) (hw : ∀ k, k < 8 → s.1 49 k = sw k) : ∀ (d j fuel : Nat), j + d = c → d < fuel → L9_isSeenSo_4 43 (nI many) s fuel (bI (sB sr sw many rows j)) (nI j) = some (bI (sB sr sw many rows c)) := by
  intro d
  induction d with
  | zero =>
    intro j fuel h1 h2
    obtain ⟨f, rfl⟩ : ∃ f, fuel = f + 1 := ⟨fuel - 1, by omega⟩
    have : j = c := by omega
    subst this
    unfold L9_isSeenSo_4
    rw [h10, if_pos (Int32.le_refl _)]
  | succ d ih =>
    intro j fuel h1 h2
    obtain ⟨f, rfl⟩ : ∃ f, fuel = f + 1 := ⟨fuel - 1, by omega⟩
    have q1 : inb (nI j) (ln (43 + 5)) := inb_nI (n := j) (m := 8) (by omega) (by omega)
    have q2 : inb (nI j) (ln (43 + 6)) := inb_nI (n := j) (m := 8) (by omega) (by omega)
    have q3 : (nI j).toNatClampNeg = j := nI_clamp (by omega)
    have e := ih (j + 1) f (by omega) (by omega)
    unfold L9_isSeenSo_4
    rw [h10, if_neg (nI_ge (by omega) (by omega)), nI_1, q3, show s.1 (43 + 5) j = sr j from hr j (by omega), show s.1 (43 + 6) j = sw j from hw j (by omega), h3]
    simp only [sB] at e
    cases b : sB sr sw many rows j with
    | false =>
      rw [b] at e
      rw [if_pos (show bI false = 0 from rfl)]
      simpa [show bI false = 0 from rfl] using e
    | true =>
      rw [b] at e
      rw [if_neg (show ¬ bI true = 0 by decide), if_pos q1]
      by_cases y : sr j = nI many
      · rw [if_pos y, if_pos q2]
        by_cases x : sw j = nI rows
        · rw [if_pos x]; simpa [y, x, show bI false = 0 from rfl, show bI true = 1 from rfl] using e
        · rw [if_neg x]; simpa [y, x, show bI false = 0 from rfl, show bI true = 1 from rfl] using e
      · rw [if_neg y]; simpa [y, show bI false = 0 from rfl, show bI true = 1 from rfl] using e
theorem e_isSeenSo {s : Sto} {sr sw : Nat → Int32} {many rows c : Nat} (hc : c ≤ 8) (h10 : s.1 43 10 = nI c) (h3 : s.1 43 3 = nI rows) (hr : ∀ k, k < 8 → s.1 48 k = sr k) (hw : ∀ k, k < 8 → s.1 49 k = sw k) : f9_isSeenSo 43 (nI many) s = some (bI (sB sr sw many rows c), s) := by
  have e := seen_loop (many := many) hc h10 h3 hr hw c 0 FU (by omega) (by unfold FU; omega)
  unfold f9_isSeenSo
  rw [show bI (sB sr sw many rows 0) = 1 from rfl, show nI 0 = 0 from rfl] at e
  rw [if_pos kd_43, e, bd1_some, if_pos (by cases sB sr sw many rows c <;> decide)]
theorem NeM.keep {s t : Sto} {N : NS} (h : NeM s N) (e1 : ∀ j, j = 3 ∨ j = 4 ∨ j = 21 ∨ j = 22 ∨ j = 25 → t.1 43 j = s.1 43 j) (e2 : ∀ k, 45 ≤ k → k ≤ 47 → t.1 k = s.1 k) : NeM t N := by
  unfold NeM at h ⊢
  rw [e1 3 (by omega), e1 4 (by omega), e1 21 (by omega), e1 22 (by omega), e1 25 (by omega), e2 45 (by omega) (by omega), e2 46 (by omega) (by omega), e2 47 (by omega) (by omega)]
  exact h
theorem wy_small {tm : Nat → Int32} {R : Nat → Nat} {so : Int32} {N0 : NS} {i : Nat} : wy tm R so N0 i ≤ 3 := by
  unfold wy nwhy nknit
  repeat (first | omega | split)
theorem mn_le {R : Nat → Nat} {so : Int32} {N0 : NS} (h : N0.1 0 ≤ 30) : ∀ i, mn R so N0 i ≤ 30 := by
  intro i
  induction i with
  | zero => exact h
  | succ i ih => simp only [mn]; split <;> omega
theorem mx_le {R : Nat → Nat} {so : Int32} {N0 : NS} (h : N0.1 0 ≤ 30) : ∀ i, (∀ j, j ≤ i → hh R so N0 j ≤ 30) → mx R so N0 i ≤ 30 := by
  intro i
  induction i with
  | zero => intro _; exact h
  | succ i ih =>
    intro g
    have := ih fun j hj => g j (by omega)
    have := g (i + 1) (Nat.le_refl _)
    simp only [mx]; split <;> omega
theorem nI_leP {a b : Nat} (ha : a < 1000) (hb : b < 1000) : (nI a ≤ nI b) = (a ≤ b) := propext (nI_leI (by omega) (by omega))
/-- after remark k: what is lost, the least, the most -/
theorem e_look {s : Sto} {k rows h0 a b : Nat} (hr : rows ≤ 30) (hh0 : h0 ≤ 30) (ha : a ≤ 30) (hb : b ≤ 30) (h3 : s.1 43 3 = nI rows) (h90 : s.1 58 90 = nI h0) (h23 : s.1 43 23 = nI a) (h24 : s.1 43 24 = nI b) : ∃ t, f9_look 43 (nI k) s = some t ∧ (∀ r, t.1 57 r = if rows ≤ r ∧ r < h0 then (if 0 ≤ s.1 57 r then s.1 57 r else nI k) else s.1 57 r) ∧ t.1 43 23 = nI (if a ≤ rows then a else rows) ∧ t.1 43 24 = nI (if rows ≤ b then b else rows) ∧ (∀ q, q ≠ 43 → q ≠ 57 → t.1 q = s.1 q) ∧ ∀ j, j ≠ 23 → j ≠ 24 → t.1 43 j = s.1 43 j := by
  obtain ⟨t, t1, t2, t3⟩ := look_loop (a1 := nI k) hh0 (h0 - rows) rows FU s (by omega) (by unfold FU; omega) h90
  have e43 : t.1 43 = s.1 43 := t3 43 (by omega)
  refine ⟨stI (stI t 43 23 (nI (if a ≤ rows then a else rows))) 43 24 (nI (if rows ≤ b then b else rows)), ?_, fun r => by rw [stI_ne (by omega), stI_ne (by omega)]; exact t2 r, by simp [stI_get], by simp [stI_get], fun q a b => by rw [stI_ne a, stI_ne a]; exact t3 q b, fun j a b => by rw [stI_get, if_neg (by omega), stI_get, if_neg (by omega), e43]⟩
  unfold f9_look
  rw [if_pos kd_43, h3, t1, bd1_some, e43, h23, h3]
  have x1 : (if nI a ≤ nI rows then some (nI a) else some (nI rows)) = some (nI (if a ≤ rows then a else rows)) := by
    by_cases g : a ≤ rows
    · rw [if_pos (nI_le g (by omega)), if_pos g]
    · rw [if_neg (nI_ge (by omega) (by omega)), if_neg g]
  rw [x1, bd1_some]
  simp only [nm_eq]
  have y3 : (stI t 43 23 (nI (if a ≤ rows then a else rows))).1 43 3 = nI rows := by rw [stI_get, if_neg (by omega), e43, h3]
  have y24 : (stI t 43 23 (nI (if a ≤ rows then a else rows))).1 43 24 = nI b := by rw [stI_get, if_neg (by omega), e43, h24]
  rw [y3, y24]
  by_cases g : rows ≤ b
  · rw [if_pos (nI_le g (by omega)), if_pos g]
  · rw [if_neg (nI_ge (by omega) (by omega)), if_neg g]
/-- where the check's evening is behind i remarks -/
def EvM (s : Sto) (D : DD) (c h90 : Nat) (R : Nat → Nat) (so : Int32) (N0 : NS) (i : Nat) : Prop := NeM s (sq R so N0 i) ∧ s.1 43 23 = nI (mn R so N0 i) ∧ s.1 43 24 = nI (mx R so N0 i) ∧ (∀ r, r < 30 → s.1 57 r = lb R so N0 i r) ∧ s.1 43 30 = bI (sn (D.2 4) (D.2 5) c R so N0 i) ∧ s.1 58 90 = nI h90
theorem fg1' {s t : Sto} {v w : Int32} (h : FrM (stI (stI s 43 28 v) 43 29 w) t) (r : Nat) : t.1 57 r = s.1 57 r := by rw [h.1 57 (by omega) (by omega) (by omega) (by omega), stI_ne (by omega), stI_ne (by omega)]
theorem go_loop {D : DD} {c m : Nat} {R : Nat → Nat} {so : Int32} {N0 : NS} (hc : c ≤ 8) (h0 : NOk N0) (hl : N0.1 4 = 9 ∨ N0.1 4 < 6) (hm : m ≤ 60) (hR : ∀ j, j < m → CodL (R j)) : ∀ (d i fuel : Nat) (s : Sto), i + d = m → (∀ j, j < i → wy (D.2 0) R so N0 j = 0) → d + 1 < fuel → EvM s D c (N0.1 0) R so N0 i → s.1 43 17 = nI m → (∀ j, j < m → RemM s j (R j)) → s.1 43 28 = -6 → s.1 43 29 = -6 → s.1 43 10 = nI c → (∀ g, g < 6 → s.1 44 g = D.2 0 g) → (∀ k, k < 8 → s.1 48 k = D.2 4 k) → (∀ k, k < 8 → s.1 49 k = D.2 5 k) →
    ∃ t, L9_goEvening_77 43 so fuel (nI i) s = some t ∧ EvM t D c (N0.1 0) R so N0 (fbx (D.2 0) R so N0 d i) ∧ t.1 43 28 = (if fbx (D.2 0) R so N0 d i = m then -6 else nI (fbx (D.2 0) R so N0 d i)) ∧ t.1 43 29 = (if fbx (D.2 0) R so N0 d i = m then -6 else nI (wy (D.2 0) R so N0 (fbx (D.2 0) R so N0 d i))) ∧ FrG s t := by
  intro d
  induction d with
  | zero =>
    intro i fuel s hi hP hF hE h17 hr h28 h29 h10 ht hs1 hs2
    obtain ⟨q, rfl⟩ : ∃ q, fuel = q + 1 := ⟨fuel - 1, by omega⟩
    have : i = m := by omega
    subst this
    refine ⟨s, ?_, hE, by simpa [fbx] using h28, by simpa [fbx] using h29, FrG.rf⟩
    unfold L9_goEvening_77
    rw [h17, if_pos (Int32.le_refl _)]
  | succ d ih =>
    intro i fuel s hi hP hF hE h17 hr h28 h29 h10 ht hs1 hs2
    obtain ⟨q, rfl⟩ : ∃ q, fuel = q + 1 := ⟨fuel - 1, by omega⟩
    have hE' := hE
    obtain ⟨hN, e23, e24, e57, e30, e90⟩ := hE
    have okj : ∀ j, j ≤ i → NOk (sq R so N0 j) ∧ ((sq R so N0 j).1 4 = 9 ∨ (sq R so N0 j).1 4 < 6) := fun j hj => sq_ok (tm := D.2 0) (so := so) (R := R) h0 hl j (fun x hx => ⟨hR x (by omega), hP x (by omega)⟩)
    obtain ⟨ok, ll⟩ := okj i (Nat.le_refl _)
    unfold L9_goEvening_77
    rw [h17, if_neg (nI_ge (by omega) (by omega)), h28, if_neg (by decide), e9_whyNot (k := i) (by omega) (hR i (by omega)) (hr i (by omega)) ok hN ht, bd2_some]
    unfold fbx
    by_cases z : wy (D.2 0) R so N0 i = 0
    · rw [show nwhy (D.2 0) (R i) so (sq R so N0 i) = 0 from z, show nI 0 = (0 : Int32) from rfl, if_pos (by decide), if_pos (by decide), bd1_some, if_pos z]
      simp only [nm_eq, bd1_some, if_true]
      have hN2 : NeM (stI (stI s 43 28 (-6)) 43 29 (-6)) (sq R so N0 i) := hN.keep (fun j hj => by rw [stI_get, if_neg (by omega), stI_get, if_neg (by omega)]) (fun k a b => by rw [stI_ne (by omega), stI_ne (by omega)])
      have fg0 : FrG s (stI (stI s 43 28 (-6)) 43 29 (-6)) := (FrG.st (by omega)).tr (FrG.st (by omega))
      obtain ⟨t, t1, t2, t3⟩ := e9_happen (tm := D.2 0) (so := so) (k := i) (by omega) (hR i (by omega)) ((hr i (by omega)).keep ⟨by rw [fg0.1 51 (by omega) (by omega) (by omega) (by omega) (by omega)], by rw [fg0.1 52 (by omega) (by omega) (by omega) (by omega) (by omega)], by rw [fg0.1 53 (by omega) (by omega) (by omega) (by omega) (by omega)], by rw [fg0.1 54 (by omega) (by omega) (by omega) (by omega) (by omega)]⟩) ok ll z hN2
      have fg1 : FrG s t := fg0.tr t3.g
      have g23 : t.1 43 23 = nI (mn R so N0 i) := by rw [t3.2 23 (by omega) (by omega) (by omega) (by omega) (by omega), stI_get, if_neg (by omega), stI_get, if_neg (by omega)]; exact e23
      have g24 : t.1 43 24 = nI (mx R so N0 i) := by rw [t3.2 24 (by omega) (by omega) (by omega) (by omega) (by omega), stI_get, if_neg (by omega), stI_get, if_neg (by omega)]; exact e24
      have g30 : t.1 43 30 = bI (sn (D.2 4) (D.2 5) c R so N0 i) := by rw [t3.2 30 (by omega) (by omega) (by omega) (by omega) (by omega), stI_get, if_neg (by omega), stI_get, if_neg (by omega)]; exact e30
      have g28 : t.1 43 28 = -6 := by rw [t3.2 28 (by omega) (by omega) (by omega) (by omega) (by omega)]; simp [stI_get]
      have g29 : t.1 43 29 = -6 := by rw [t3.2 29 (by omega) (by omega) (by omega) (by omega) (by omega)]; simp [stI_get]
      have ok1 : NOk (sq R so N0 (i + 1)) := (sq_ok (tm := D.2 0) (so := so) (R := R) h0 hl (i + 1) (fun x hx => ⟨hR x (by omega), by
        by_cases e : x = i
        · subst e; exact z
        · exact hP x (by omega)⟩)).1
      rw [t1, bd1_some]
      obtain ⟨u, u1, u2, u3, u4, u5, u6⟩ := e_look (s := t) (k := i) (rows := hh R so N0 (i + 1)) (h0 := N0.1 0) (a := mn R so N0 i) (b := mx R so N0 i) ok1.1 h0.1 (mn_le h0.1 i) (mx_le h0.1 i (fun j hj => (okj j hj).1.1)) t2.1.1 (by rw [fg1.1 58 (by omega) (by omega) (by omega) (by omega) (by omega)]; exact e90) g23 g24
      rw [u1, bd1_some]
      have fg2 : FrG s u := fg1.tr ⟨fun k a b c d e => u5 k a e, fun j a b c d => u6 j (by omega) (by omega)⟩
      have n2 : NeM u (sq R so N0 (i + 1)) := t2.keep (fun j hj => u6 j (by omega) (by omega)) (fun k a b => u5 k (by omega) (by omega))
      have es := e_isSeenSo (s := u) (sr := D.2 4) (sw := D.2 5) (many := i + 1) (rows := hh R so N0 (i + 1)) hc (by rw [fg2.2 10 (by omega) (by omega) (by omega) (by omega)]; exact h10) n2.1.1 (fun k hk => by rw [fg2.1 48 (by omega) (by omega) (by omega) (by omega) (by omega)]; exact hs1 k hk) (fun k hk => by rw [fg2.1 49 (by omega) (by omega) (by omega) (by omega) (by omega)]; exact hs2 k hk)
      have go : ∀ v, v = bI (sn (D.2 4) (D.2 5) c R so N0 (i + 1)) → ∃ t, L9_goEvening_77 43 so q (nI (i + 1)) (stI u 43 30 v) = some t ∧ EvM t D c (N0.1 0) R so N0 (fbx (D.2 0) R so N0 d (i + 1)) ∧ t.1 43 28 = (if fbx (D.2 0) R so N0 d (i + 1) = m then -6 else nI (fbx (D.2 0) R so N0 d (i + 1))) ∧ t.1 43 29 = (if fbx (D.2 0) R so N0 d (i + 1) = m then -6 else nI (wy (D.2 0) R so N0 (fbx (D.2 0) R so N0 d (i + 1)))) ∧ FrG s t := by
        intro v hv
        have fg3 : FrG s (stI u 43 30 v) := fg2.tr (FrG.st (by omega))
        obtain ⟨x, x1, x2, x3, x4, x5⟩ := ih (i + 1) q (stI u 43 30 v) (by omega) (fun j hj => by
          by_cases e : j = i
          · subst e; exact z
          · exact hP j (by omega)) (by omega) ⟨n2.keep (fun j hj => by rw [stI_get, if_neg (by omega)]) (fun k a b => stI_ne (by omega)), by rw [stI_get, if_neg (by omega), u3]; rfl, by rw [stI_get, if_neg (by omega), u4]; rfl, fun r hr => by
            rw [stI_ne (by omega), u2 r, fg1' t3 r, e57 r hr]; rfl, by simp [stI_get, hv], by rw [stI_ne (by omega), u5 58 (by omega) (by omega), fg1.1 58 (by omega) (by omega) (by omega) (by omega) (by omega)]; exact e90⟩ (by rw [fg3.2 17 (by omega) (by omega) (by omega) (by omega)]; exact h17) (fun j hj => (hr j hj).keep ⟨by rw [fg3.1 51 (by omega) (by omega) (by omega) (by omega) (by omega)], by rw [fg3.1 52 (by omega) (by omega) (by omega) (by omega) (by omega)], by rw [fg3.1 53 (by omega) (by omega) (by omega) (by omega) (by omega)], by rw [fg3.1 54 (by omega) (by omega) (by omega) (by omega) (by omega)]⟩) (by rw [stI_get, if_neg (by omega), u6 28 (by omega) (by omega)]; exact g28) (by rw [stI_get, if_neg (by omega), u6 29 (by omega) (by omega)]; exact g29) (by rw [fg3.2 10 (by omega) (by omega) (by omega) (by omega)]; exact h10) (fun g hg => by rw [fg3.1 44 (by omega) (by omega) (by omega) (by omega) (by omega)]; exact ht g hg) (fun k hk => by rw [fg3.1 48 (by omega) (by omega) (by omega) (by omega) (by omega)]; exact hs1 k hk) (fun k hk => by rw [fg3.1 49 (by omega) (by omega) (by omega) (by omega) (by omega)]; exact hs2 k hk)
        exact ⟨x, x1, x2, x3, x4, fg3.tr x5⟩
      have k30 : u.1 43 30 = bI (sn (D.2 4) (D.2 5) c R so N0 i) := by rw [u6 30 (by omega) (by omega)]; exact g30
      rw [k30]
      simp only [nI_1, es, bd2_some]
      cases b1 : sn (D.2 4) (D.2 5) c R so N0 i with
      | false =>
        rw [if_pos (show bI false = 0 from rfl)]
        exact go 0 (by simp only [sn, b1]; rfl)
      | true =>
        rw [if_neg (show ¬ bI true = 0 by decide)]
        cases b2 : sB (D.2 4) (D.2 5) (i + 1) (hh R so N0 (i + 1)) c with
        | false =>
          rw [if_pos (show bI false = 0 from rfl)]
          exact go 0 (by simp only [sn, b1, b2]; rfl)
        | true =>
          rw [if_neg (show ¬ bI true = 0 by decide)]
          exact go 1 (by simp only [sn, b1, b2]; rfl)
    · have zw := wy_small (tm := D.2 0) (R := R) (so := so) (N0 := N0) (i := i)
      have z' : ¬ nI (nwhy (D.2 0) (R i) so (sq R so N0 i)) ≤ 0 := nI_nle (by unfold wy at z; omega) (by unfold wy at zw; omega)
      have z2 : ¬ nI (nwhy (D.2 0) (R i) so (sq R so N0 i)) = 0 := nI_ne0 (by unfold wy at z; omega) (by unfold wy at zw; omega)
      rw [if_neg z', if_neg z', bd1_some, if_neg z]
      simp only [nm_eq, bd1_some]
      rw [if_neg z2]
      obtain ⟨q', rfl⟩ : ∃ q', q = q' + 1 := ⟨q - 1, by omega⟩
      refine ⟨stI (stI s 43 28 (nI i)) 43 29 (nI (wy (D.2 0) R so N0 i)), ?_, ⟨hN.keep (fun j hj => by rw [stI_get, if_neg (by omega), stI_get, if_neg (by omega)]) (fun k a b => by rw [stI_ne (by omega), stI_ne (by omega)]), by rw [stI_get, if_neg (by omega), stI_get, if_neg (by omega)]; exact e23, by rw [stI_get, if_neg (by omega), stI_get, if_neg (by omega)]; exact e24, fun r hr => by rw [stI_ne (by omega), stI_ne (by omega)]; exact e57 r hr, by rw [stI_get, if_neg (by omega), stI_get, if_neg (by omega)]; exact e30, by rw [stI_ne (by omega), stI_ne (by omega)]; exact e90⟩, by rw [if_neg (by omega)]; simp [stI_get], by rw [if_neg (by omega)]; simp [stI_get], (FrG.st (by omega)).tr (FrG.st (by omega))⟩
      unfold L9_goEvening_77
      have y17 : (stI (stI s 43 28 (nI i)) 43 29 (nI (wy (D.2 0) R so N0 i))).1 43 17 = nI m := by rw [stI_get, if_neg (by omega), stI_get, if_neg (by omega)]; exact h17
      have y28 : (stI (stI s 43 28 (nI i)) 43 29 (nI (wy (D.2 0) R so N0 i))).1 43 28 = nI i := by simp [stI_get]
      rw [show nwhy (D.2 0) (R i) so (sq R so N0 i) = wy (D.2 0) R so N0 i from rfl, y17, y28]
      by_cases g : nI m ≤ nI i + 1
      · rw [if_pos g]
      · rw [if_neg g, if_pos (nI_pos' (by omega))]
