-- the check's side of the fewest remarks
def MkM (s : Sto) (h w P : Nat) (f g tm C K : Nat → Int32) : Prop := (s.1 43 3 = nI h ∧ s.1 43 4 = nI w) ∧ (∀ i, i < 30 → s.1 45 i = f i) ∧ (∀ i, i < 30 → s.1 46 i = g i) ∧ (∀ i, i < 6 → s.1 44 i = tm i) ∧ (∀ j, j < P → s.1 55 j = C j ∧ s.1 56 j = K j) ∧ (∀ j, j < P → RowOk (C j) (K j)) ∧ h ≤ 30 ∧ w ≤ 40 ∧ P ≤ 30
theorem MkM.keep {s t : Sto} {h w P : Nat} {f g tm C K : Nat → Int32} (hs : MkM s h w P f g tm C K) (e : ∀ k, k ≠ 60 → t.1 k = s.1 k) : MkM t h w P f g tm C K := by
  unfold MkM at hs ⊢
  rw [e 43 (by omega), e 44 (by omega), e 45 (by omega), e 46 (by omega), e 55 (by omega), e 56 (by omega)]
  exact hs
theorem tell_loop {s : Sto} {tm : Nat → Int32} (ht : ∀ i, i < 6 → s.1 44 i = tm i) : ∀ (d j fuel : Nat), j + d = 6 → d < fuel → L9_canTell_4 43 s fuel (bI (decide (cw tm 2 j ≠ 0))) (nI j) = some (bI (decide (cw tm 2 6 ≠ 0))) := by
  intro d
  induction d with
  | zero =>
    intro j fuel e F
    obtain ⟨q, rfl⟩ : ∃ q, fuel = q + 1 := ⟨fuel - 1, by omega⟩
    have : j = 6 := by omega
    subst this
    unfold L9_canTell_4
    rw [if_pos (by decide)]
  | succ d ih =>
    intro j fuel e F
    obtain ⟨q, rfl⟩ : ∃ q, fuel = q + 1 := ⟨fuel - 1, by omega⟩
    have q1 : inb (nI j) (ln (43 + 1)) := inb_nI (n := j) (m := 6) (by omega) (by omega)
    have q3 : (nI j).toNatClampNeg = j := nI_clamp (by omega)
    have go := ih (j + 1) q (by omega) (by omega)
    unfold L9_canTell_4
    rw [if_neg (i6 (by omega)), nI_1]
    by_cases c : cw tm 2 j = 0
    · rw [if_pos (show bI (decide (cw tm 2 j ≠ 0)) = 0 by simp [c, bI]), if_pos q1, q3, show s.1 (43 + 1) j = tm j from ht j (by omega)]
      by_cases t2 : tm j = 2
      · rw [if_pos t2]
        rw [show bI (decide (cw tm 2 (j + 1) ≠ 0)) = 0 by simp [cw, c, t2, bI]] at go
        exact go
      · rw [if_neg t2]
        rw [show bI (decide (cw tm 2 (j + 1) ≠ 0)) = 1 by simp [cw, c, t2, bI]] at go
        exact go
    · rw [if_neg (show ¬ bI (decide (cw tm 2 j ≠ 0)) = 0 by simp [c, bI])]
      rw [show bI (decide (cw tm 2 (j + 1) ≠ 0)) = 1 by simp [cw, c, bI]] at go
      exact go
theorem e_canTell {s : Sto} {tm : Nat → Int32} (ht : ∀ i, i < 6 → s.1 44 i = tm i) : f9_canTell 43 s = some (bI (decide (cw tm 2 6 ≠ 0)), s) := by
  have e := tell_loop ht 6 0 FU (by omega) (by decide)
  rw [show bI (decide (cw tm 2 0 ≠ 0)) = 0 from rfl, show nI 0 = 0 from rfl] at e
  unfold f9_canTell
  rw [if_pos kd_43, e, bd1_some, if_pos (by cases decide (cw tm 2 6 ≠ 0) <;> decide)]
theorem alike_loop {s : Sto} {h w P n : Nat} {f g tm C K : Nat → Int32} (hs : MkM s h w P f g tm C K) (hn : n ≤ P) : ∀ (d i fuel : Nat), i + d = 31 → d < fuel → i ≤ n → i ≤ h → L9_alikeUpTo_2 43 (nI n) s fuel (nI i) = some (nI (auN (alQ f g C K h n) d i)) := by
  obtain ⟨⟨h3, h4⟩, hf, hg, ht, hp, hr, hh, hw, hP⟩ := hs
  intro d
  induction d with
  | zero => intro i fuel e F a b; omega
  | succ d ih =>
    intro i fuel e F a b
    obtain ⟨q, rfl⟩ : ∃ q, fuel = q + 1 := ⟨fuel - 1, by omega⟩
    unfold L9_alikeUpTo_2 auN
    by_cases x1 : n ≤ i
    · rw [if_pos (nI_le x1 (by omega)), show alQ f g C K h n i = false by simp [alQ]; omega]; rfl
    · rw [if_neg (nI_ge (by omega) (by omega)), h3]
      by_cases x2 : h ≤ i
      · rw [if_pos (nI_le x2 (by omega)), show alQ f g C K h n i = false by simp [alQ]; omega]; rfl
      · have b1 : inb (nI i) (ln (43 + 2)) := inb_nI (n := i) (m := 30) (by omega) (by omega)
        have b2 : inb (nI i) (ln (43 + 12)) := inb_nI (n := i) (m := 60) (by omega) (by omega)
        have b3 : inb (nI i) (ln (43 + 3)) := inb_nI (n := i) (m := 30) (by omega) (by omega)
        have b4 : inb (nI i) (ln (43 + 13)) := inb_nI (n := i) (m := 60) (by omega) (by omega)
        have c1 : (nI i).toNatClampNeg = i := nI_clamp (by omega)
        rw [if_neg (nI_ge (by omega) (by omega)), if_pos b1, if_pos b2, c1, show s.1 (43 + 2) i = f i from hf i (by omega), show s.1 (43 + 12) i = C i from (hp i (by omega)).1]
        by_cases x3 : f i = C i
        · rw [if_pos x3, if_pos b3, if_pos b4, show s.1 (43 + 3) i = g i from hg i (by omega), show s.1 (43 + 13) i = K i from (hp i (by omega)).2]
          by_cases x4 : g i = K i
          · rw [if_pos x4, nI_1, show alQ f g C K h n i = true by simp [alQ, x3, x4]; omega, if_pos rfl]
            exact ih (i + 1) q (by omega) (by omega) (by omega) (by omega)
          · rw [if_neg x4, show alQ f g C K h n i = false by simp [alQ, x4]]; rfl
        · rw [if_neg x3, show alQ f g C K h n i = false by simp [alQ, x3]]; rfl
theorem e_alike {s : Sto} {h w P n : Nat} {f g tm C K : Nat → Int32} (hs : MkM s h w P f g tm C K) (hn : n ≤ P) : f9_alikeUpTo 43 (nI n) s = some (nI (auA f g C K h n), s) := by
  have e := alike_loop hs hn 31 0 FU (by omega) (by decide) (by omega) (by omega)
  rw [show nI 0 = 0 from rfl] at e
  unfold f9_alikeUpTo
  rw [if_pos kd_43, e, bd1_some]; rfl
/-- the lowest row of the stretch of colour c that ends below n -/
def bsN (f : Nat → Int32) (c : Int32) : Nat → Nat
  | 0 => 0
  | n + 1 => if f n = c then bsN f c n else n + 1
theorem bsN_le (f : Nat → Int32) (c : Int32) (n : Nat) : bsN f c n ≤ n := by
  induction n with
  | zero => exact Nat.le_refl _
  | succ n ih => simp only [bsN]; split <;> omega
theorem base_loop {s : Sto} {f : Nat → Int32} {a1 : Int32} {u : Nat} (hu : u < 30) (hf : ∀ i, i < 30 → s.1 45 i = f i) : ∀ (x fuel : Nat), x ≤ u → x < fuel → L9_findDown_52 43 a1 (nI (u + 1)) s fuel (nI x) = some (nI (bsN f (f u) x)) := by
  intro x
  induction x with
  | zero =>
    intro fuel h F
    obtain ⟨q, rfl⟩ : ∃ q, fuel = q + 1 := ⟨fuel - 1, by omega⟩
    unfold L9_findDown_52
    rw [if_pos (by decide)]; rfl
  | succ x ih =>
    intro fuel h F
    obtain ⟨q, rfl⟩ : ∃ q, fuel = q + 1 := ⟨fuel - 1, by omega⟩
    have b1 : inb (nI x) (ln (43 + 2)) := inb_nI (n := x) (m := 30) (by omega) (by omega)
    have b2 : inb (nI u) (ln (43 + 2)) := inb_nI (n := u) (m := 30) (by omega) (by omega)
    unfold L9_findDown_52
    rw [if_neg (nI_nle (by omega) (by omega)), nI_pred, nI_pred, if_pos b1, if_pos b2, nI_clamp (by omega), nI_clamp (by omega), show s.1 (43 + 2) x = f x from hf x (by omega), show s.1 (43 + 2) u = f u from hf u hu, pk_m1]
    unfold bsN
    by_cases c : f x = f u
    · rw [if_pos c, if_pos c]; exact ih q (by omega) (by omega)
    · rw [if_neg c, if_neg c]
theorem init_loop {h : Nat} (hh : h ≤ 30) : ∀ (d j fuel : Nat) (s : Sto), j + d = 31 → d < fuel → s.1 43 3 = nI h → ∃ t, L9_findDown_2 43 fuel (nI j) s = some t ∧ (∀ k, k ≤ 30 → t.1 60 k = if j ≤ k then (if k = h then 0 else 1000000) else s.1 60 k) ∧ ∀ k, k ≠ 60 → t.1 k = s.1 k := by
  intro d
  induction d with
  | zero =>
    intro j fuel s e F h3
    obtain ⟨q, rfl⟩ : ∃ q, fuel = q + 1 := ⟨fuel - 1, by omega⟩
    have : j = 31 := by omega
    subst this
    refine ⟨s, ?_, fun k hk => by rw [if_neg (by omega)], fun _ _ => rfl⟩
    unfold L9_findDown_2
    rw [if_pos (by decide)]
  | succ d ih =>
    intro j fuel s e F h3
    obtain ⟨q, rfl⟩ : ∃ q, fuel = q + 1 := ⟨fuel - 1, by omega⟩
    have q1 : inb (nI j) (ln (43 + 17)) := inb_nI (n := j) (m := 31) (by omega) (by omega)
    have q3 : (nI j).toNatClampNeg = j := nI_clamp (by omega)
    have go : ∀ v : Int32, v = (if j = h then 0 else 1000000) → ∃ t, L9_findDown_2 43 q (nI (j + 1)) (stI s 60 j v) = some t ∧ (∀ k, k ≤ 30 → t.1 60 k = if j ≤ k then (if k = h then 0 else 1000000) else s.1 60 k) ∧ ∀ k, k ≠ 60 → t.1 k = s.1 k := by
      intro v hv
      obtain ⟨t, t1, t2, t3⟩ := ih (j + 1) q (stI s 60 j v) (by omega) (by omega) (by rw [stI_ne (by omega)]; exact h3)
      refine ⟨t, t1, fun k hk => ?_, fun k hk => by rw [t3 k hk, stI_ne hk]⟩
      rw [t2 k hk, stI_get]
      by_cases x : k = j
      · subst x; simp [hv]
      · by_cases y : j + 1 ≤ k
        · rw [if_pos y, if_pos (show j ≤ k by omega)]
        · rw [if_neg y, if_neg (by omega), if_neg (by omega)]
    unfold L9_findDown_2
    rw [if_neg (show ¬ (30 : Int32) < nI j from nI_nlt (a := 30) (b := j) (by omega) (by omega)), h3, if_pos q1, if_pos q1, q3, nm_eq, nm_eq, nI_1]
    by_cases x : j = h
    · rw [if_pos (by rw [x])]; exact go 0 (by rw [if_pos x])
    · rw [if_neg (fun z => x ((nI_eq (by omega) (by omega)).mp z))]; exact go 1000000 (by rw [if_neg x])
/-- what stands in the check's row, when v and all above are done -/
def tgt (f tm : Nat → Int32) (h v k : Nat) : Int32 := if h < k then 1000000 else if v ≤ k then eM (dnO f tm h k) else if k = bsN f (f (v - 1)) (v - 1) ∧ v < h ∧ smb f v = true then nI (BB f (h - v) v + 1) else 1000000
theorem eM_n {n : Nat} (h : n < 1000) : ¬ (1000000 : Int32) ≤ nI n := nI_ge (a := n) (b := 1000000) (by omega) (by omega)
theorem dp_step {f tm : Nat → Int32} {h u : Nat} {a : Nat → Int32} (hh : h ≤ 30) (hu : u < h) (ha : ∀ k, k ≤ 30 → a k = tgt f tm h (u + 1) k) :
    ∀ (a1 a2 : Nat → Int32), (∀ k, a1 k = if k = bsN f (f u) u then (if a (bsN f (f u) u) ≤ a (u + 1) + 1 then a (bsN f (f u) u) else a (u + 1) + 1) else a k) → (∀ k, a2 k = if k = u then (if cw tm 2 6 = 0 then a1 u else if a1 u ≤ a (u + 1) + 1 then a1 u else a (u + 1) + 1) else a1 k) → ∀ k, k ≤ 30 → a2 k = tgt f tm h u k := by
  intro a1 a2 e1 e2
  have lb := bsN_le f (f u) u
  have lA := AA_le f (h - (u + 1)) (u + 1)
  have lB := BB_le f (h - (u + 1)) (u + 1)
  have hd : h - u = (h - (u + 1)) + 1 := by omega
  have rA : AA f (h - u) u = if smb f u = true then AA f (h - (u + 1)) (u + 1) + 1 else 0 := by rw [hd]; rfl
  have rB : BB f (h - u) u = BB f (h - (u + 1)) (u + 1) + (if smb f u = true then 0 else 1) := by rw [hd]; rfl
  have av : a (u + 1) = eM (dnO f tm h (u + 1)) := by rw [ha _ (by omega)]; unfold tgt; rw [if_neg (by omega), if_pos (Nat.le_refl _)]
  generalize hA : AA f (h - (u + 1)) (u + 1) = A at *
  generalize hB : BB f (h - (u + 1)) (u + 1) = B at *
  have a0 : ¬ (u + 1 < h ∧ smb f (u + 1) = true) → A = 0 := by
    intro z
    rw [← hA]
    cases q : h - (u + 1) with
    | zero => rfl
    | succ q =>
      have : smb f (u + 1) = false := by
        cases c : smb f (u + 1) with
        | false => rfl
        | true => exact absurd ⟨by omega, c⟩ z
      simp [AA, this]
  -- the number that comes from v
  have ax : (A = 0 ∨ cw tm 2 6 ≠ 0) ∧ a (u + 1) + 1 = nI (A + B + 1) ∨ (A ≠ 0 ∧ cw tm 2 6 = 0) ∧ a (u + 1) + 1 = 1000001 := by
    rw [av]
    unfold dnO
    rw [hA, hB]
    by_cases c : A = 0 ∨ cw tm 2 6 ≠ 0
    · rw [if_pos c]; exact Or.inl ⟨c, nI_1 _⟩
    · rw [if_neg c]; exact Or.inr ⟨⟨fun z => c (Or.inl z), by
        by_cases z : cw tm 2 6 = 0
        · exact z
        · exact absurd (Or.inr z) c⟩, rfl⟩
  have ab : a1 (bsN f (f u) u) = nI (B + 1) := by
    have abv : a (bsN f (f u) u) = if bsN f (f u) u = bsN f (f u) u ∧ u + 1 < h ∧ smb f (u + 1) = true then nI (BB f (h - (u + 1)) (u + 1) + 1) else 1000000 := by
      rw [ha _ (by omega)]
      unfold tgt
      rw [if_neg (show ¬ h < bsN f (f u) u by omega), if_neg (show ¬ u + 1 ≤ bsN f (f u) u by omega), Nat.add_sub_cancel]
    rw [e1, if_pos rfl]
    by_cases c : u + 1 < h ∧ smb f (u + 1) = true
    · rw [if_pos ⟨rfl, c⟩, hB] at abv
      rw [abv]
      rcases ax with ⟨-, x⟩ | ⟨-, x⟩
      · rw [x, if_pos (nI_le (by omega) (by omega))]
      · rw [x, if_pos (show nI (B + 1) ≤ (1000001 : Int32) from nI_le (a := B + 1) (b := 1000001) (by omega) (by omega))]
    · rw [if_neg (fun z => c z.2)] at abv
      rw [abv]
      have := a0 c
      subst this
      rcases ax with ⟨-, x⟩ | ⟨⟨x, -⟩, -⟩
      · rw [x, Nat.zero_add, if_neg (eM_n (by omega))]
      · exact absurd rfl x
  have ak : ∀ k, k ≤ u → k ≠ bsN f (f u) u → a1 k = 1000000 := by
    intro k hk hb
    rw [e1, if_neg hb, ha _ (by omega)]
    unfold tgt
    rw [if_neg (by omega), if_neg (by omega), Nat.add_sub_cancel, if_neg (fun z => hb z.1)]
  intro k hk
  by_cases c1 : h < k
  · rw [e2, if_neg (by omega), e1, if_neg (by omega), ha _ hk]
    unfold tgt; rw [if_pos c1, if_pos c1]
  by_cases c2 : u + 1 ≤ k
  · rw [e2, if_neg (by omega), e1, if_neg (by omega), ha _ hk]
    unfold tgt; rw [if_neg c1, if_pos c2, if_neg c1, if_pos (by omega)]
  cases sm : smb f u with
  | true =>
    have ⟨u0, fu⟩ : 0 < u ∧ f u = f (u - 1) := by simpa [smb] using sm
    have b2 : bsN f (f (u - 1)) (u - 1) = bsN f (f u) u := by
      obtain ⟨x, rfl⟩ : ∃ x, u = x + 1 := ⟨u - 1, by omega⟩
      rw [Nat.add_sub_cancel] at fu ⊢
      rw [fu]
      simp [bsN]
    have b3 : bsN f (f u) u < u := by
      rw [← b2]; have := bsN_le f (f (u - 1)) (u - 1); omega
    rw [sm] at rA rB
    rw [if_pos rfl] at rA rB
    by_cases c3 : k = u
    · subst c3
      rw [e2, if_pos rfl, ak k (Nat.le_refl _) (by omega)]
      unfold tgt dnO
      rw [if_neg c1, if_pos (Nat.le_refl _), rA, rB]
      by_cases c : cw tm 2 6 = 0
      · rw [if_pos c, if_neg (fun z => z.elim (by omega) (fun y => y c))]; rfl
      · rw [if_neg c, if_pos (Or.inr c)]
        rcases ax with ⟨-, x⟩ | ⟨⟨-, x⟩, -⟩
        · rw [x, if_neg (eM_n (by omega))]
          show nI _ = nI _
          rw [show A + B + 1 = A + 1 + (B + 0) by omega]
        · exact absurd x c
    · rw [e2, if_neg c3]
      unfold tgt
      rw [if_neg c1, if_neg (by omega), b2]
      by_cases c4 : k = bsN f (f u) u
      · rw [if_pos ⟨c4, by omega, sm⟩, c4, ab, rB]
      · rw [if_neg (fun z => c4 z.1)]; exact ak k (by omega) c4
  | false =>
    have b1 : bsN f (f u) u = u := by
      cases u with
      | zero => rfl
      | succ x =>
        have : ¬ f (x + 1) = f x := by simpa [smb] using sm
        simp only [bsN]
        rw [if_neg (fun z => this z.symm)]
    rw [sm] at rA rB
    rw [if_neg (by decide)] at rA rB
    rw [b1] at ab ak
    by_cases c3 : k = u
    · subst c3
      rw [e2, if_pos rfl, ab]
      unfold tgt dnO
      rw [if_neg c1, if_pos (Nat.le_refl _), rA, rB, if_pos (Or.inl rfl), Nat.zero_add]
      by_cases c : cw tm 2 6 = 0
      · rw [if_pos c]; rfl
      · rw [if_neg c]
        rcases ax with ⟨-, x⟩ | ⟨⟨-, x⟩, -⟩
        · rw [x, if_pos (nI_le (by omega) (by omega))]; rfl
        · exact absurd x c
    · rw [e2, if_neg c3, ak k (by omega) c3]
      unfold tgt
      rw [if_neg c1, if_neg (by omega), if_neg (fun z => by rw [sm] at z; exact absurd z.2.2 (by decide))]
