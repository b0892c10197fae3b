-- the fewest remarks: undone from the top down, then knitted up
def smb (f : Nat → Int32) (k : Nat) : Bool := decide (0 < k ∧ f k = f (k - 1))
/-- of d rows from k on: how many go on with the row below k -/
def AA (f : Nat → Int32) : Nat → Nat → Nat
  | 0, _ => 0
  | d + 1, k => if smb f k = true then AA f d (k + 1) + 1 else 0
/-- of d rows from k on: how many begin a stretch -/
def BB (f : Nat → Int32) : Nat → Nat → Nat
  | 0, _ => 0
  | d + 1, k => BB f d (k + 1) + (if smb f k = true then 0 else 1)
theorem AA_le (f : Nat → Int32) : ∀ d k, AA f d k ≤ d := by
  intro d
  induction d with
  | zero => intro k; exact Nat.le_refl _
  | succ d ih => intro k; have := ih (k + 1); simp only [AA]; split <;> omega
theorem BB_le (f : Nat → Int32) : ∀ d k, BB f d k ≤ d := by
  intro d
  induction d with
  | zero => intro k; exact Nat.le_refl _
  | succ d ih => intro k; have := ih (k + 1); simp only [BB]; split <;> omega
def dnO (f tm : Nat → Int32) (h k : Nat) : Option Nat := if AA f (h - k) k = 0 ∨ cw tm 2 6 ≠ 0 then some (AA f (h - k) k + BB f (h - k) k) else none
def flb (C : Nat → Int32) (k i : Nat) : Bool := decide (k < i ∧ C (i - 1) = C i)
def ubO (C K tm : Nat → Int32) (k : Nat) : Nat → Nat → Nat → Option Nat
  | 0, _, x => some x
  | d + 1, i, x => if K i = 2 then ubO C K tm k d (i + 1) x else if tm (C i).toNatClampNeg = 1 then none else if K i = 1 then (if flb C k i = true then ubO C K tm k d (i + 1) x else none) else ubO C K tm k d (i + 1) (if flb C k i = true then x + 1 else x)
def mnn (a b : Nat) : Nat := if a ≤ b then a else b
def wvv (w n x : Nat) : Nat := n + (2 * x - mnn (w - 1) x)
def omap (g : Nat → Nat) : Option Nat → Option Nat
  | none => none
  | some x => some (g x)
def upO (C K tm : Nat → Int32) (w n k : Nat) : Option Nat := if n ≤ k then some 0 else if w = 0 then none else omap (wvv w (n - k)) (ubO C K tm k (n - k) k 0)
def eC : Option Nat → Int32
  | none => -6
  | some n => nI n
def eM : Option Nat → Int32
  | none => 1000000
  | some n => nI n
def bnd (o : Option Nat) : Prop := ∀ n, o = some n → n ≤ 300
theorem ubO_le {C K tm : Nat → Int32} {k : Nat} : ∀ d i x y, ubO C K tm k d i x = some y → y ≤ x + d := by
  intro d
  induction d with
  | zero => intro i x y h; simp only [ubO, Option.some.injEq] at h; omega
  | succ d ih =>
    intro i x y h
    simp only [ubO] at h
    split at h
    · have := ih _ _ _ h; omega
    · split at h
      · cases h
      · split at h
        · split at h
          · have := ih _ _ _ h; omega
          · cases h
        · have := ih _ _ _ h
          split at this <;> omega
theorem dnO_b {f tm : Nat → Int32} {h k : Nat} (hh : h ≤ 30) : bnd (dnO f tm h k) := by
  intro n e
  unfold dnO at e
  split at e
  · have a := AA_le f (h - k) k
    have b := BB_le f (h - k) k
    simp only [Option.some.injEq] at e; omega
  · cases e
theorem upO_b {C K tm : Nat → Int32} {w n k : Nat} (hn : n ≤ 30) : ∀ y, upO C K tm w n k = some y → y ≤ 100 := by
  intro y e
  unfold upO at e
  split at e
  · simp only [Option.some.injEq] at e; omega
  · split at e
    · cases e
    · cases u : ubO C K tm k (n - k) k 0 with
      | none => rw [u] at e; cases e
      | some x =>
        have := ubO_le _ _ _ _ u
        rw [u] at e
        simp only [omap, wvv, Option.some.injEq] at e
        omega
theorem eC_n {n : Nat} (h : n < 1000) : ¬ eC (some n) = -6 := fun e => absurd (show nI n < 0 by rw [show nI n = -6 from e]; decide) (nI_pos (by omega))
/-- what the class's evening, from now, is made of -/
def MkC (s : Sto) (h w P : Nat) (f g tm C K : Nat → Int32) : Prop := (s.1 3 3 = nI h ∧ s.1 3 4 = nI w) ∧ (∀ i, i < 30 → s.1 4 i = f i) ∧ (∀ i, i < 30 → s.1 5 i = g i) ∧ (∀ i, i < 6 → s.1 2 i = tm i) ∧ (∀ j, j < P → s.1 35 j = C j ∧ s.1 36 j = K j) ∧ (∀ j, j < P → RowOk (C j) (K j)) ∧ h ≤ 30 ∧ w ≤ 40 ∧ P ≤ 30
theorem e_col {s : Sto} {k : Nat} {f : Nat → Int32} (hf : ∀ i, i < 30 → s.1 4 i = f i) (hk : k < 30) : f2_colourAt ((0 + 1) + 2) (nI k) s = some (f k, s) := by
  unfold f2_colourAt
  rw [if_pos (show kd ((0 + 1) + 2) = 2 from kd_3), e_atN (k := ((0 + 1) + 2) + 1) (i := k) kd_4 (by rw [show ln (((0 + 1) + 2) + 1) = 30 from rfl]; exact hk), bd2_some, show s.1 (((0 + 1) + 2) + 1) k = f k from hf k hk]
theorem e_kin {s : Sto} {k : Nat} {f : Nat → Int32} (hf : ∀ i, i < 30 → s.1 5 i = f i) (hk : k < 30) : f2_kindAt ((0 + 1) + 2) (nI k) s = some (f k, s) := by
  unfold f2_kindAt
  rw [if_pos (show kd ((0 + 1) + 2) = 2 from kd_3), e_atN (k := ((0 + 1) + 2) + 2) (i := k) kd_5 (by rw [show ln (((0 + 1) + 2) + 2) = 30 from rfl]; exact hk), bd2_some, show s.1 (((0 + 1) + 2) + 2) k = f k from hf k hk]
theorem down_loop {s : Sto} {h : Nat} {f : Nat → Int32} (hh : h ≤ 30) (h3 : s.1 3 3 = nI h) (hf : ∀ i, i < 30 → s.1 4 i = f i) : ∀ (d k fuel a b : Nat), k + d = h → d < fuel → L8_remarksDownTo_18 0 fuel 1 (nI a) (nI b) (nI k) s = some (nI (a + AA f d k), nI (b + BB f d k), s) ∧ L8_remarksDownTo_18 0 fuel 0 (nI a) (nI b) (nI k) s = some (nI a, nI (b + BB f d k), s) := by
  intro d
  have h3' : s.1 ((0 + 1) + 2) 3 = nI h := h3
  induction d with
  | zero =>
    intro k fuel a b e F
    obtain ⟨q, rfl⟩ : ∃ q, fuel = q + 1 := ⟨fuel - 1, by omega⟩
    have : k = h := by omega
    subst this
    unfold L8_remarksDownTo_18
    rw [h3', if_pos (Int32.le_refl _), if_pos (Int32.le_refl _)]
    exact ⟨rfl, rfl⟩
  | succ d ih =>
    intro k fuel a b e F
    obtain ⟨q, rfl⟩ : ∃ q, fuel = q + 1 := ⟨fuel - 1, by omega⟩
    unfold L8_remarksDownTo_18
    rw [h3', if_neg (nI_ge (by omega) (by omega)), if_neg (nI_ge (by omega) (by omega))]
    simp only [nI_1]
    obtain ⟨x1, x2⟩ := ih (k + 1) q (a + 1) b (by omega) (by omega)
    obtain ⟨y1, y2⟩ := ih (k + 1) q a b (by omega) (by omega)
    obtain ⟨z1, z2⟩ := ih (k + 1) q a (b + 1) (by omega) (by omega)
    by_cases k0 : k = 0
    · subst k0
      rw [if_pos (show nI 0 = 0 from rfl), if_pos (show nI 0 = 0 from rfl)]
      have sf : smb f 0 = false := rfl
      simp only [AA, BB, sf]
      rw [z2]
      simp [Nat.add_comm, Nat.add_left_comm, Nat.add_assoc]
    · have k1 : ¬ nI k = 0 := nI_ne0 (by omega) (by omega)
      rw [if_neg k1, if_neg k1, e_col hf (by omega), bd2_some, bd2_some, show nI k - 1 = nI (k - 1) by rw [show k = (k - 1) + 1 by omega, nI_pred, Nat.add_sub_cancel], e_col hf (by omega)]
      by_cases c : f k = f (k - 1)
      · have sf : smb f k = true := by simp [smb, c]; omega
        simp only [AA, BB, sf, bd2_some, eq_true c, if_true]
        rw [if_neg (show ¬ (1 : Int32) = 0 by decide), x1, y2]
        simp [Nat.add_comm, Nat.add_left_comm, Nat.add_assoc]
      · have sf : smb f k = false := by simp [smb, c]
        simp only [AA, BB, sf, bd2_some, c, if_false]
        rw [z2]
        simp [Nat.add_comm, Nat.add_left_comm, Nat.add_assoc]
theorem down_0 {f : Nat → Int32} {h : Nat} : AA f h 0 = 0 := by
  cases h with
  | zero => rfl
  | succ h => simp [AA, smb]
theorem e_down {s : Sto} {h w P k : Nat} {f g tm C K : Nat → Int32} (hs : MkC s h w P f g tm C K) (hk : k ≤ h) : f8_remarksDownTo 0 (nI k) s = some (eC (dnO f tm h k), s) := by
  obtain ⟨⟨h3, h4⟩, hf, hg, ht, hp, hr, hh, hw, hP⟩ := hs
  obtain ⟨x1, x2⟩ := down_loop hh h3 hf (h - k) k FU 0 0 (by omega) (by unfold FU; omega)
  have l1 := AA_le f (h - k) k
  have l2 := BB_le f (h - k) k
  rw [show nI 0 = 0 from rfl, Nat.zero_add, Nat.zero_add] at x1
  rw [show nI 0 = 0 from rfl, Nat.zero_add] at x2
  unfold f8_remarksDownTo
  rw [if_pos kd_0]
  have fin : bd3 (some (nI (AA f (h - k) k), nI (BB f (h - k) k), s)) (fun y14 y15 s16 =>
      if y14 ≤ 0 then some ((y14 + y15), s16) else
      bd2 (f0_countWithout (0 + 1) (2 : Int32) s16) fun r19 s17 => if r19 = 0 then some ((-6 : Int32), s17) else some ((y14 + y15), s17)) = some (eC (dnO f tm h k), s) := by
    show (if nI (AA f (h - k) k) ≤ 0 then _ else _) = _
    unfold dnO
    by_cases a : AA f (h - k) k = 0
    · rw [if_pos (show nI (AA f (h - k) k) ≤ 0 by rw [a]; decide), if_pos (Or.inl a), nI_add]; rfl
    · rw [if_neg (nI_nle (by omega) (by omega)), e_countWithout ht, bd2_some]
      have := cw_le tm 2 6
      by_cases c : cw tm 2 6 = 0
      · rw [if_pos (show nI (cw tm 2 6) = 0 by rw [c]; rfl), if_neg (by simp [a, c])]; rfl
      · rw [if_neg (nI_ne0 (by omega) (by omega)), if_pos (Or.inr c), nI_add]; rfl
  by_cases k0 : k = 0
  · subst k0
    rw [if_pos (by decide), bd1_some, x2]
    rw [Nat.sub_zero, down_0] at fin
    exact fin
  · rw [if_neg (nI_nle (by omega) (by omega)), bd1_some, x1]
    exact fin
theorem at35 {t : Sto} {j : Nat} (hj : j < 60) : f8_at ((0 + 34) + 1) (nI j) t = some (t.1 35 j, t) := e_atN (k := (0 + 34) + 1) (i := j) kd_35 (by rw [show ln ((0 + 34) + 1) = 60 from rfl]; exact hj)
theorem at36 {t : Sto} {j : Nat} (hj : j < 60) : f8_at ((0 + 34) + 2) (nI j) t = some (t.1 36 j, t) := e_atN (k := (0 + 34) + 2) (i := j) kd_36 (by rw [show ln ((0 + 34) + 2) = 60 from rfl]; exact hj)
theorem mi_nI {w x : Nat} (h1 : 1 ≤ w) (h2 : w ≤ 40) (hx : x ≤ 100) : (if (nI w - (1 : Int32)) < nI x then (nI w - (1 : Int32)) else nI x) = nI (mnn (w - 1) x) := by
  rw [show nI w - 1 = nI (w - 1) by rw [show w = (w - 1) + 1 by omega, nI_pred, Nat.add_sub_cancel]]
  unfold mnn
  by_cases a : w - 1 < x
  · rw [if_pos (nI_lt a (by omega)), if_pos (by omega)]
  · rw [if_neg (nI_nlt (by omega) (by omega))]
    by_cases b : w - 1 ≤ x
    · rw [if_pos b, show x = w - 1 by omega]
    · rw [if_neg b]
theorem up_loop {s : Sto} {h w P n k : Nat} {f g tm C K : Nat → Int32} (hs : MkC s h w P f g tm C K) (hw1 : 1 ≤ w) (hn : n ≤ P) : ∀ (d i x fuel : Nat), i + d = n → k ≤ i → x + d ≤ 30 → d < fuel → L8_remarksUpTo_29 0 (nI n) (nI k) fuel (nI x) (nI i) s = some (eC (omap (wvv w (n - k)) (ubO C K tm k d i x)), s) := by
  obtain ⟨⟨h3, h4⟩, hf, hg, ht, hp, hr, hh, hw, hP⟩ := hs
  intro d
  induction d with
  | zero =>
    intro i x fuel e l hx F
    obtain ⟨q, rfl⟩ : ∃ q, fuel = q + 1 := ⟨fuel - 1, by omega⟩
    have : i = n := by omega
    subst this
    unfold L8_remarksUpTo_29
    rw [if_pos (Int32.le_refl _), show s.1 ((0 + 1) + 2) 4 = nI w from h4, mi_nI hw1 hw (by omega), nm_eq]
    have m1 : mnn (w - 1) x ≤ x := by unfold mnn; split <;> omega
    rw [pk_sub l, pk_sub m1, nI_add, show (2 : Int32) = nI 2 from rfl, pk_mul, nI_add]
    simp only [ubO, omap, eC, wvv]
    rw [show i - k + mnn (w - 1) x + 2 * (x - mnn (w - 1) x) = i - k + (2 * x - mnn (w - 1) x) by omega]
  | succ d ih =>
    intro i x fuel e l hx F
    obtain ⟨q, rfl⟩ : ∃ q, fuel = q + 1 := ⟨fuel - 1, by omega⟩
    have go := ih (i + 1) x q (by omega) (by omega) (by omega) (by omega)
    have go1 := ih (i + 1) (x + 1) q (by omega) (by omega) (by omega) (by omega)
    have eK : s.1 36 i = K i := (hp i (by omega)).2
    have eF : (bd2 (if nI i ≤ nI k then some ((0 : Int32), s) else bd2 (f8_at ((0 + 34) + 1) (nI i - (1 : Int32)) s) fun r7 s5 => if r7 = C i then some ((1 : Int32), s5) else some ((0 : Int32), s5)) : (Int32 → Sto → Option (Int32 × Sto)) → Option (Int32 × Sto)) = fun F => F (bI (flb C k i)) s := by
      funext F
      by_cases a : i ≤ k
      · rw [if_pos (nI_le a (by omega)), bd2_some, show flb C k i = false by simp [flb]; omega]; rfl
      · rw [if_neg (nI_ge (by omega) (by omega)), show nI i - 1 = nI (i - 1) by rw [show i = (i - 1) + 1 by omega, nI_pred, Nat.add_sub_cancel], at35 (by omega), bd2_some, (hp (i - 1) (by omega)).1]
        by_cases b : C (i - 1) = C i
        · rw [if_pos b, bd2_some, show flb C k i = true by simp [flb, b]; omega]; rfl
        · rw [if_neg b, bd2_some, show flb C k i = false by simp [flb, b]]; rfl
    unfold L8_remarksUpTo_29
    rw [if_neg (nI_ge (by omega) (by omega)), at35 (by omega), bd2_some, (hp i (by omega)).1, eF]
    simp only [nI_1, at36 (show i < 60 by omega), bd2_some, e_isGuest, eK]
    simp only [ubO]
    rcases hr i (by omega) with ⟨r1, r2⟩ | ⟨r1, gg, hg6, r2⟩
    · rw [r1, r2]
      simp [show ¬ (6 : Int32) < 0 by decide, show (5 : Int32) < 6 by decide, go]
    · have g1 : ¬ nI gg < 0 := nI_pos (by omega)
      have g2 : ¬ (5 : Int32) < nI gg := nI_nlt (a := 5) (b := gg) (by omega) (by omega)
      have et := e_temper (o := 0 + 1) (g := gg) (s := s) kd_1 kd_2 ln_2 hg6
      rw [r2]
      simp only [g1, g2, if_false, et, bd2_some, eK, show s.1 (0 + 1 + 1) gg = tm gg from ht gg hg6, nI_clamp (show gg < 2 ^ 31 by omega)]
      rcases r1 with r1 | r1
      · rw [r1]
        by_cases t1 : tm gg = 1
        · simp [t1, omap, eC]
        · cases b : flb C k i with
          | true => simp [t1, show bI true = 1 from rfl, go1]
          | false => simp [t1, show bI false = 0 from rfl, go]
      · rw [r1]
        by_cases t1 : tm gg = 1
        · simp [t1, omap, eC]
        · cases b : flb C k i with
          | true => simp [t1, show bI true = 1 from rfl, go]
          | false => simp [t1, show bI false = 0 from rfl, omap, eC]
theorem e_up {s : Sto} {h w P n k : Nat} {f g tm C K : Nat → Int32} (hs : MkC s h w P f g tm C K) (hn : n ≤ P) (hk : k ≤ 100) : f8_remarksUpTo 0 (nI n) (nI k) s = some (eC (upO C K tm w n k), s) := by
  have hs' := hs
  obtain ⟨⟨h3, h4⟩, hf, hg, ht, hp, hr, hh, hw, hP⟩ := hs
  unfold f8_remarksUpTo
  rw [if_pos kd_0]
  unfold upO
  by_cases a : n ≤ k
  · rw [if_neg (nI_nlt a (by omega)), if_pos a]; rfl
  · rw [if_pos (nI_lt (by omega) (by omega)), if_neg a, show s.1 ((0 + 1) + 2) 4 = nI w from h4]
    by_cases b : w = 0
    · subst b
      rw [if_neg (by decide), if_pos rfl]; rfl
    · rw [if_pos (show (1 : Int32) ≤ nI w from nI_le (a := 1) (b := w) (by omega) (by omega)), if_neg b]
      exact up_loop hs' (by omega) hn (n - k) k 0 FU (by omega) (Nat.le_refl _) (by omega) (by unfold FU; omega)
