theorem dp_loop {h w P : Nat} {f g tm C K : Nat → Int32} : ∀ (v fuel : Nat) (s : Sto), MkM s h w P f g tm C K → v ≤ h → v < fuel → (∀ k, k ≤ 30 → s.1 60 k = tgt f tm h v k) → ∃ t, L9_findDown_44 43 (bI (decide (cw tm 2 6 ≠ 0))) fuel (nI v) s = some t ∧ (∀ k, k ≤ 30 → t.1 60 k = tgt f tm h 0 k) ∧ ∀ k, k ≠ 60 → t.1 k = s.1 k := by
  intro v
  induction v with
  | zero =>
    intro fuel s hs hv F ha
    obtain ⟨q, rfl⟩ : ∃ q, fuel = q + 1 := ⟨fuel - 1, by omega⟩
    refine ⟨s, ?_, ha, fun _ _ => rfl⟩
    unfold L9_findDown_44
    rw [if_pos (by decide)]
  | succ u ih =>
    intro fuel s hs hv F ha
    obtain ⟨q, rfl⟩ : ∃ q, fuel = q + 1 := ⟨fuel - 1, by omega⟩
    obtain ⟨⟨h3, h4⟩, hf, hg, ht, hp, hr, hh, hw, hP⟩ := id hs
    have lb := bsN_le f (f u) u
    have b1 : inb (nI (u + 1)) (ln (43 + 17)) := inb_nI (n := u + 1) (m := 31) (by omega) (by omega)
    have b2 : inb (nI (bsN f (f u) u)) (ln (43 + 17)) := inb_nI (n := bsN f (f u) u) (m := 31) (by omega) (by omega)
    have b3 : inb (nI u) (ln (43 + 17)) := inb_nI (n := u) (m := 31) (by omega) (by omega)
    have c1 : (nI (u + 1)).toNatClampNeg = u + 1 := nI_clamp (by omega)
    have c2 : (nI (bsN f (f u) u)).toNatClampNeg = bsN f (f u) u := nI_clamp (by omega)
    have c3 : (nI u).toNatClampNeg = u := nI_clamp (by omega)
    have eb := base_loop (a1 := bI (decide (cw tm 2 6 ≠ 0))) (s := s) (f := f) (u := u) (by omega) hf u FU (Nat.le_refl _) (by unfold FU; omega)
    have go : ∀ (y z : Int32), y = (if s.1 60 (bsN f (f u) u) ≤ s.1 60 (u + 1) + 1 then s.1 60 (bsN f (f u) u) else s.1 60 (u + 1) + 1) → z = (if cw tm 2 6 = 0 then (stI s 60 (bsN f (f u) u) y).1 60 u else if (stI s 60 (bsN f (f u) u) y).1 60 u ≤ s.1 60 (u + 1) + 1 then (stI s 60 (bsN f (f u) u) y).1 60 u else s.1 60 (u + 1) + 1) →
        ∃ t, L9_findDown_44 43 (bI (decide (cw tm 2 6 ≠ 0))) q (nI u) (stI (stI s 60 (bsN f (f u) u) y) 60 u z) = some t ∧ (∀ k, k ≤ 30 → t.1 60 k = tgt f tm h 0 k) ∧ ∀ k, k ≠ 60 → t.1 k = s.1 k := by
      intro y z hy hz
      have st := dp_step (f := f) (tm := tm) (h := h) (u := u) (a := s.1 60) hh (by omega) ha ((stI s 60 (bsN f (f u) u) y).1 60) ((stI (stI s 60 (bsN f (f u) u) y) 60 u z).1 60) (fun k => by
        rw [stI_get]
        by_cases e : k = bsN f (f u) u
        · rw [if_pos ⟨rfl, e⟩, if_pos e, hy]
        · rw [if_neg (fun q => e q.2), if_neg e]) (fun k => by
        rw [stI_get (s := stI s 60 (bsN f (f u) u) y)]
        by_cases e : k = u
        · rw [if_pos ⟨rfl, e⟩, if_pos e, hz]
        · rw [if_neg (fun q => e q.2), if_neg e])
      obtain ⟨t, t1, t2, t3⟩ := ih q (stI (stI s 60 (bsN f (f u) u) y) 60 u z) (hs.keep (fun k hk => by rw [stI_ne hk, stI_ne hk])) (by omega) (by omega) st
      exact ⟨t, t1, t2, fun k hk => by rw [t3 k hk, stI_ne hk, stI_ne hk]⟩
    have tail : ∀ (y : Int32), y = (if s.1 60 (bsN f (f u) u) ≤ s.1 60 (u + 1) + 1 then s.1 60 (bsN f (f u) u) else s.1 60 (u + 1) + 1) → ∃ t, (nm (stI s (43 + 17) (bsN f (f u) u) y) fun s25 =>
      if bI (decide (cw tm 2 6 ≠ 0)) = 0 then
        nm (stI s25 (43 + 17) u (s25.1 (43 + 17) u)) fun s28 => L9_findDown_44 43 (bI (decide (cw tm 2 6 ≠ 0))) q (nI u) s28
      else
        if (s25.1 (43 + 17) u) ≤ s.1 60 (u + 1) + 1 then
          nm (stI s25 (43 + 17) u (s25.1 (43 + 17) u)) fun s32 => L9_findDown_44 43 (bI (decide (cw tm 2 6 ≠ 0))) q (nI u) s32
        else
          nm (stI s25 (43 + 17) u (s.1 60 (u + 1) + 1)) fun s34 => L9_findDown_44 43 (bI (decide (cw tm 2 6 ≠ 0))) q (nI u) s34) = some t ∧ (∀ k, k ≤ 30 → t.1 60 k = tgt f tm h 0 k) ∧ ∀ k, k ≠ 60 → t.1 k = s.1 k := by
      intro y hy
      simp only [nm_eq]
      by_cases c : cw tm 2 6 = 0
      · rw [if_pos (show bI (decide (cw tm 2 6 ≠ 0)) = 0 by simp [c, bI])]
        exact go y _ hy (by rw [if_pos c])
      · rw [if_neg (show ¬ bI (decide (cw tm 2 6 ≠ 0)) = 0 by simp [c, bI])]
        by_cases c5 : (stI s 60 (bsN f (f u) u) y).1 60 u ≤ s.1 60 (u + 1) + 1
        · rw [if_pos c5]
          exact go y _ hy (by rw [if_neg c, if_pos c5])
        · rw [if_neg c5]
          exact go y _ hy (by rw [if_neg c, if_neg c5])
    unfold L9_findDown_44
    simp only [if_neg (nI_nle (show 0 < u + 1 by omega) (show u + 1 < 2 ^ 31 by omega)), nI_pred, eb, bd1_some, if_pos b1, c1, if_pos b2, c2, if_pos b3, c3, pk_m1]
    by_cases c : s.1 (43 + 17) (bsN f (f u) u) ≤ s.1 (43 + 17) (u + 1) + 1
    · have := tail (s.1 60 (bsN f (f u) u)) (by rw [if_pos c])
      simpa only [nm_eq, if_pos c, bd1_some] using this
    · have := tail (s.1 60 (u + 1) + 1) (by rw [if_neg c])
      simpa only [nm_eq, if_neg c, bd1_some] using this
theorem e_findDown {s : Sto} {h w P : Nat} {f g tm C K : Nat → Int32} (hs : MkM s h w P f g tm C K) : ∃ t, f9_findDown 43 s = some t ∧ (∀ k, k ≤ h → t.1 60 k = eM (dnO f tm h k)) ∧ ∀ k, k ≠ 60 → t.1 k = s.1 k := by
  obtain ⟨⟨h3, h4⟩, hf, hg, ht, hp, hr, hh, hw, hP⟩ := id hs
  obtain ⟨t, t1, t2, t3⟩ := init_loop hh 31 0 FU s (by omega) (by decide) h3
  have hst := hs.keep t3
  obtain ⟨⟨k3, k4⟩, kf, kg, kt, -⟩ := id hst
  have lB := BB_le f 0 h
  have d0 : dnO f tm h h = some 0 := by unfold dnO; rw [Nat.sub_self]; rfl
  obtain ⟨v, v1, v2, v3⟩ := dp_loop (h := h) (w := w) (P := P) (f := f) (g := g) (tm := tm) (C := C) (K := K) h FU t hst (Nat.le_refl _) (by unfold FU; omega) (fun k hk => by
    rw [t2 k hk, if_pos (by omega)]
    unfold tgt
    by_cases c : k = h
    · subst c
      rw [if_pos rfl, if_neg (by omega), if_pos (Nat.le_refl _), d0]; rfl
    · rw [if_neg c]
      by_cases c2 : h < k
      · rw [if_pos c2]
      · rw [if_neg c2, if_neg (by omega), if_neg (fun z => by omega)])
  refine ⟨v, ?_, fun k hk => ?_, fun k hk => by rw [v3 k hk, t3 k hk]⟩
  · unfold f9_findDown
    rw [if_pos kd_43, show (0 : Int32) = nI 0 from rfl, t1, bd1_some, e_canTell kt, bd2_some, k3, v1, bd1_some]
  · rw [v2 k (by omega)]; unfold tgt; rw [if_neg (by omega), if_pos (by omega)]
theorem min_M {w x : Nat} (h1 : 1 ≤ w) (h2 : w ≤ 40) (hx : x ≤ 100) : (if (nI w - (1 : Int32)) ≤ nI x then some (nI w - (1 : Int32)) else some (nI x)) = some (nI (mnn (w - 1) x)) := by
  rw [show nI w - 1 = nI (w - 1) by rw [show w = (w - 1) + 1 by omega, nI_pred, Nat.add_sub_cancel]]
  unfold mnn
  by_cases a : w - 1 ≤ x
  · rw [if_pos (nI_le a (by omega)), if_pos a]
  · rw [if_neg (nI_ge (by omega) (by omega)), if_neg a]
theorem build_loop {s : Sto} {h w P n k : Nat} {f g tm C K : Nat → Int32} (hs : MkM s h w P f g tm C K) (hw1 : 1 ≤ w) (hn : n ≤ P) : ∀ (d i x fuel : Nat), i + d = n → k ≤ i → x + d ≤ 30 → d < fuel → L9_building_23 43 (nI k) (nI n) s fuel (nI x) (nI (i - k)) (nI i) = some (eM (omap (wvv w (n - k)) (ubO C K tm k d i x)), s) := by
  obtain ⟨⟨h3, h4⟩, hf, hg, ht, hp, hr, hh, hw, hP⟩ := hs
  intro d
  induction d with
  | zero =>
    intro i x fuel e l hx F
    obtain ⟨q, rfl⟩ : ∃ q, fuel = q + 1 := ⟨fuel - 1, by omega⟩
    have : i = n := by omega
    subst this
    unfold L9_building_23
    rw [if_pos (Int32.le_refl _), h4, min_M hw1 hw (by omega), bd1_some]
    have m1 : mnn (w - 1) x ≤ x := by unfold mnn; split <;> omega
    simp only [ubO, omap, eM, wvv]
    by_cases x0 : x = 0
    · subst x0
      rw [if_pos (show nI 0 = 0 from rfl), show nI (i - k) + 0 = nI (i - k) from nI_add _ 0]
      rw [show i - k + (2 * 0 - mnn (w - 1) 0) = i - k by omega]
    · rw [if_neg (nI_ne0 (by omega) (by omega)), show (2 : Int32) = nI 2 from rfl, pk_mul, pk_sub (by omega), nI_add]
  | succ d ih =>
    intro i x fuel e l hx F
    obtain ⟨q, rfl⟩ : ∃ q, fuel = q + 1 := ⟨fuel - 1, by omega⟩
    have go := ih (i + 1) x q (by omega) (by omega) (by omega) (by omega)
    have go1 := ih (i + 1) (x + 1) q (by omega) (by omega) (by omega) (by omega)
    rw [show i + 1 - k = i - k + 1 by omega] at go go1
    have e0 : nI x + 0 = nI x := nI_add x 0
    have eK : s.1 (43 + 13) i = K i := (hp i (by omega)).2
    have eC' : s.1 (43 + 12) i = C i := (hp i (by omega)).1
    have b1 : inb (nI i) (ln (43 + 13)) := inb_nI (n := i) (m := 60) (by omega) (by omega)
    have b2 : inb (nI i) (ln (43 + 12)) := inb_nI (n := i) (m := 60) (by omega) (by omega)
    have c1 : (nI i).toNatClampNeg = i := nI_clamp (by omega)
    have eF : (if nI i ≤ nI k then some (0 : Int32) else if inb (nI i - (1 : Int32)) (ln (43 + 12)) then if inb (nI i) (ln (43 + 12)) then if s.1 (43 + 12) (nI i - (1 : Int32)).toNatClampNeg = s.1 (43 + 12) (nI i).toNatClampNeg then some (1 : Int32) else some (0 : Int32) else none else none) = some (bI (flb C k i)) := by
      by_cases a : i ≤ k
      · rw [if_pos (nI_le a (by omega)), show flb C k i = false by simp [flb]; omega]; rfl
      · have k1 : nI i - 1 = nI (i - 1) := by rw [show i = (i - 1) + 1 by omega, nI_pred, Nat.add_sub_cancel]
        rw [if_neg (nI_ge (by omega) (by omega)), k1, if_pos (show inb (nI (i - 1)) (ln (43 + 12)) from inb_nI (n := i - 1) (m := 60) (by omega) (by omega)), if_pos b2, nI_clamp (by omega), c1, eC', show s.1 (43 + 12) (i - 1) = C (i - 1) from (hp (i - 1) (by omega)).1]
        by_cases b : C (i - 1) = C i
        · rw [if_pos b, show flb C k i = true by simp [flb, b]; omega]; rfl
        · rw [if_neg b, show flb C k i = false by simp [flb, b]]; rfl
    unfold L9_building_23
    rw [if_neg (nI_ge (by omega) (by omega)), if_pos b1, eF]
    simp only [nI_1, c1, eK, eC', if_pos b1, if_pos b2, bd1_some, e0]
    simp only [ubO]
    rcases hr i (by omega) with ⟨r1, r2⟩ | ⟨r1, gg, hg6, r2⟩
    · rw [r1]
      simp [bd1_some, go]
    · have b3 : inb (nI gg) (ln (43 + 1)) := inb_nI (n := gg) (m := 6) (by omega) (by omega)
      have et : s.1 (43 + 1) gg = tm gg := ht gg hg6
      rw [r2]
      simp only [if_pos b3, nI_clamp (show gg < 2 ^ 31 by omega), et]
      rcases r1 with r1 | r1
      · rw [r1]
        by_cases t1 : tm gg = 1
        · simp [t1, omap, eM, bd1_some]
        · cases b : flb C k i with
          | true => simp [t1, show bI true = 1 from rfl, go1, bd1_some]
          | false => simp [t1, show bI false = 0 from rfl, go, bd1_some]
      · rw [r1]
        by_cases t1 : tm gg = 1
        · simp [t1, omap, eM, bd1_some]
        · cases b : flb C k i with
          | true => simp [t1, show bI true = 1 from rfl, go, bd1_some]
          | false => simp [t1, show bI false = 0 from rfl, omap, eM, bd1_some]
theorem e_building {s : Sto} {h w P n k : Nat} {f g tm C K : Nat → Int32} (hs : MkM s h w P f g tm C K) (hn : n ≤ P) (hk : k ≤ n) : f9_building 43 (nI k) (nI n) s = some (eM (upO C K tm w n k), s) := by
  have hs' := hs
  obtain ⟨⟨h3, h4⟩, hf, hg, ht, hp, hr, hh, hw, hP⟩ := hs
  unfold f9_building
  rw [if_pos kd_43]
  unfold upO
  by_cases a : n ≤ k
  · have : n = k := by omega
    subst this
    rw [if_pos (Int32.le_refl _), if_pos (Nat.le_refl _)]
    obtain ⟨q, hq⟩ : ∃ q, FU = q + 1 := ⟨1999, rfl⟩
    rw [hq]
    unfold L9_building_23
    rw [if_pos (Int32.le_refl _)]
    have : ∃ y, (if s.1 43 4 - 1 ≤ 0 then some (s.1 43 4 - 1) else some (0 : Int32)) = some y := by split <;> exact ⟨_, rfl⟩
    obtain ⟨y, hy⟩ := this
    rw [hy, bd1_some, if_pos rfl]
    rfl
  · rw [if_neg (nI_ge (by omega) (by omega)), if_neg a, h4]
    have lp : 1 ≤ w → L9_building_23 43 (nI k) (nI n) s FU 0 0 (nI k) = some (eM (omap (wvv w (n - k)) (ubO C K tm k (n - k) k 0)), s) := fun hw1 => by
      have := build_loop hs' hw1 hn (n - k) k 0 FU (by omega) (Nat.le_refl _) (by omega) (by unfold FU; omega)
      rw [Nat.sub_self] at this
      exact this
    by_cases b : w = 0
    · subst b
      rw [if_pos (show nI 0 = 0 from rfl), if_pos rfl]; rfl
    · rw [if_neg (nI_ne0 (by omega) (by omega)), if_neg b]
      exact lp (by omega)
theorem eM_le {b c : Option Nat} (hb : bnd b) (hc : bnd c) : (if eM b ≤ eM c then b else c) = omin b c := by
  cases b with
  | none =>
    cases c with
    | none => simp [omin]
    | some y =>
      have := hc y rfl
      rw [if_neg (show ¬ eM none ≤ eM (some y) from eM_n (by omega))]; rfl
  | some x =>
    have lx := hb x rfl
    cases c with
    | none => rw [if_pos (show eM (some x) ≤ eM none from nI_le (a := x) (b := 1000000) (by omega) (by omega))]; rfl
    | some y =>
      have ly := hc y rfl
      simp only [omin]
      by_cases z : x ≤ y
      · rw [if_pos (show eM (some x) ≤ eM (some y) from nI_le z (by omega)), if_pos z]
      · rw [if_neg (show ¬ eM (some x) ≤ eM (some y) from nI_ge (by omega) (by omega)), if_neg z]
theorem of_loop {s : Sto} {h w P n : Nat} {f g tm C K : Nat → Int32} (hs : MkM s h w P f g tm C K) (hn : n ≤ P) (ha : ∀ k, k ≤ h → s.1 60 k = eM (dnO f tm h k)) : ∀ (d k fuel : Nat) (b : Option Nat), k + d = auA f g C K h n + 1 → d < fuel → bnd b → L9_madeOf_16 43 (nI n) (nI (auA f g C K h n)) fuel (eM b) (nI k) s = some (eM (foO (csO f tm C K h w n) d k b), s) := by
  have hP : P ≤ 30 := hs.2.2.2.2.2.2.2.2
  have hh : h ≤ 30 := hs.2.2.2.2.2.2.1
  have h3 : s.1 43 3 = nI h := hs.1.1
  obtain ⟨l1, l2, l3, l4⟩ := auA_spec (f := f) (g := g) (C := C) (K := K) (h := h) (n := n) (by omega)
  intro d
  induction d with
  | zero =>
    intro k fuel b e F hb
    obtain ⟨q, rfl⟩ : ∃ q, fuel = q + 1 := ⟨fuel - 1, by omega⟩
    unfold L9_madeOf_16
    rw [if_pos (nI_lt (by omega) (by omega))]; rfl
  | succ d ih =>
    intro k fuel b e F hb
    obtain ⟨q, rfl⟩ : ∃ q, fuel = q + 1 := ⟨fuel - 1, by omega⟩
    have cb := csO_b (f := f) (tm := tm) (C := C) (K := K) (h := h) (w := w) (n := n) (k := k) hh (by omega)
    have go := ih (k + 1) q (omin b (csO f tm C K h w n k)) (by omega) (by omega) (omin_b hb cb)
    have q1 : inb (nI k) (ln (43 + 17)) := inb_nI (n := k) (m := 31) (by omega) (by omega)
    have q3 : (nI k).toNatClampNeg = k := nI_clamp (by omega)
    have fin : (if eM b ≤ eM (csO f tm C K h w n k) then L9_madeOf_16 43 (nI n) (nI (auA f g C K h n)) q (eM b) (nI (k + 1)) s else L9_madeOf_16 43 (nI n) (nI (auA f g C K h n)) q (eM (csO f tm C K h w n k)) (nI (k + 1)) s) = some (eM (foO (csO f tm C K h w n) (d + 1) k b), s) := by
      show _ = some (eM (foO (csO f tm C K h w n) d (k + 1) (omin b (csO f tm C K h w n k))), s)
      rw [← go, ← eM_le hb cb]
      split <;> rfl
    unfold L9_madeOf_16
    rw [if_neg (nI_nlt (by omega) (by omega)), h3, if_neg (nI_nlt (by omega) (by omega)), if_pos q1, q3, show s.1 (43 + 17) k = eM (dnO f tm h k) from ha k (by omega), e_building hs hn (by omega), bd2_some, nI_1]
    have db := dnO_b (f := f) (tm := tm) (h := h) (k := k) hh
    have ub := upO_b (C := C) (K := K) (tm := tm) (w := w) (n := n) (k := k) (by omega)
    unfold csO at fin
    cases e1 : dnO f tm h k with
    | none =>
      rw [e1] at fin
      rw [if_pos (show (1000000 : Int32) ≤ eM none from Int32.le_refl _), bd2_some, if_pos (Int32.le_refl _), bd1_some]
      exact fin
    | some x =>
      have lx := db x e1
      rw [e1] at fin
      rw [if_neg (show ¬ (1000000 : Int32) ≤ eM (some x) from eM_n (by omega)), bd2_some]
      cases e2 : upO C K tm w n k with
      | none =>
        rw [e2] at fin
        rw [if_pos (show (1000000 : Int32) ≤ eM none from Int32.le_refl _), bd1_some]
        exact fin
      | some y =>
        have ly := ub y e2
        rw [e2] at fin
        rw [if_neg (show ¬ (1000000 : Int32) ≤ eM (some y) from eM_n (by omega)), if_pos q1, bd1_some, show s.1 (43 + 17) k = eM (dnO f tm h k) from ha k (by omega), e1, show eM (some x) + eM (some y) = eM (some (x + y)) from nI_add x y]
        exact fin
theorem foO_b {cost : Nat → Option Nat} (hc : ∀ k, bnd (cost k)) : ∀ d k b, bnd b → bnd (foO cost d k b) := by
  intro d
  induction d with
  | zero => intro k b h; exact h
  | succ d ih => intro k b h; exact ih (k + 1) _ (omin_b h (hc k))
theorem moO_b {f g tm C K : Nat → Int32} {h w n : Nat} (hh : h ≤ 30) (hn : n ≤ 30) : bnd (moO f g tm C K h w n) := foO_b (fun k => csO_b hh hn) _ _ _ (fun n e => by cases e)
theorem e_madeOf {s : Sto} {h w P n : Nat} {f g tm C K : Nat → Int32} (hs : MkM s h w P f g tm C K) (hn : n ≤ P) : ∃ t, f9_madeOf 43 (nI n) s = some (eC (moO f g tm C K h w n), t) ∧ ∀ k, k ≠ 60 → t.1 k = s.1 k := by
  have hP : P ≤ 30 := hs.2.2.2.2.2.2.2.2
  have hh : h ≤ 30 := hs.2.2.2.2.2.2.1
  obtain ⟨l1, l2, l3, l4⟩ := auA_spec (f := f) (g := g) (C := C) (K := K) (h := h) (n := n) (by omega)
  obtain ⟨t, t1, t2, t3⟩ := e_findDown hs
  have lp := of_loop (hs.keep t3) hn t2 (auA f g C K h n + 1) 0 FU none (by omega) (by unfold FU; omega) (fun n e => by cases e)
  rw [show nI 0 = 0 from rfl] at lp
  refine ⟨t, ?_, t3⟩
  unfold f9_madeOf
  rw [if_pos kd_43, e_alike hs hn, bd2_some, t1, bd1_some, show (1000000 : Int32) = eM none from rfl, lp, bd2_some]
  have hb := moO_b (f := f) (g := g) (tm := tm) (C := C) (K := K) (w := w) hh (show n ≤ 30 by omega)
  unfold moO at hb ⊢
  cases e : foO (csO f tm C K h w n) (auA f g C K h n + 1) 0 none with
  | none => rw [if_pos rfl]; rfl
  | some x =>
    have := hb x e
    rw [if_neg (show ¬ eM (some x) = eM none from fun z => by
      have := (nI_eq (a := x) (b := 1000000) (by omega) (by omega)).mp z
      omega)]; rfl
theorem qp_val {p : Nat → Int32} {n : Nat} (hn : n ≤ 60) : ∀ (d i : Nat) (tw : Bool) (m : Nat) (c k : Nat → Int32), i + d = n → (qp p d i tw m c k).1 = -6 ∨ ∃ j, j ≤ 60 ∧ (qp p d i tw m c k).1 = nI j := by
  intro d
  induction d with
  | zero => intro i tw m c k h; exact Or.inl rfl
  | succ d ih =>
    intro i tw m c k h
    unfold qp
    split
    · exact ih _ _ _ _ _ (by omega)
    · split
      · exact ih _ _ _ _ _ (by omega)
      · split
        · exact Or.inr ⟨i, by omega, rfl⟩
        · exact ih _ _ _ _ _ (by omega)
theorem qpO_val {p : Nat → Int32} {n : Nat} (hn : n ≤ 60) : (qpO p n).1 = -6 ∨ ∃ k, k ≤ 60 ∧ (qpO p n).1 = nI k := qp_val hn n 0 false 0 _ _ (by omega)
theorem Same60 {s t : Sto} (h : ∀ k, k ≠ 60 → t.1 k = s.1 k) : Same s t := ⟨fun k a _ => h k (by omega), ⟨by rw [h 3 (by omega)], by rw [h 3 (by omega)]⟩, ⟨by rw [h 43 (by omega)], by rw [h 43 (by omega)], by rw [h 43 (by omega)], by rw [h 43 (by omega)], by rw [h 43 (by omega)], by rw [h 43 (by omega)]⟩, fun k a b i _ => by rw [h k (by omega)], h 65 (by omega), h 66 (by omega)⟩
/-- the pattern of both sides -/
theorem e_pat {s : Sto} (h : RR s) : ∃ t r, f8_readPattern 0 s = some (r, t) ∧ RR t ∧ FrT s t ∧ ((r = -5 ∧ ∃ q : Int32, 0 ≤ q ∧ ∀ t', FrT s t' → ∃ u, f9_faultOfPattern 43 t' = some (q, u) ∧ FrQ t' u) ∨ ∃ (P : Nat) (C K : Nat → Int32), ((P > 30 ∧ r = -4) ∨ (P ≤ 30 ∧ r = 0)) ∧ P ≤ 60 ∧ t.1 34 2 = nI P ∧ (∀ j, j < P → t.1 35 j = C j ∧ t.1 36 j = K j) ∧ (∀ j, j < P → RowOk (C j) (K j)) ∧ ∀ t', FrT s t' → ∃ u, f9_faultOfPattern 43 t' = some (-6, u) ∧ u.1 43 20 = nI P ∧ (∀ j, j < P → u.1 55 j = C j ∧ u.1 56 j = K j) ∧ FrQ t' u) := by
  obtain ⟨⟨D, hD, hC, hM⟩, hp, h0, h1⟩ := id h
  obtain ⟨⟨c, hc, p1, p2⟩, p3⟩ := id hp
  obtain ⟨t, t1, t2, t3, t4⟩ := e_readP (p := s.1 26) (n := c) (s := s) hc p1 (fun _ _ => rfl)
  obtain ⟨k1, k2⟩ := qpO_ok (p := s.1 26) (n := c) hc
  have eMx : ∀ t', FrT s t' → ∃ u, f9_faultOfPattern 43 t' = some ((qpO (s.1 26) c).1, u) ∧ u.1 43 20 = nI (qpO (s.1 26) c).2.1 ∧ (∀ j, j < (qpO (s.1 26) c).2.1 → u.1 55 j = (qpO (s.1 26) c).2.2.1 j ∧ u.1 56 j = (qpO (s.1 26) c).2.2.2 j) ∧ FrQ t' u := fun t' f => e_faultP (s := t') (p := s.1 26) (n := c) hc (by rw [f 43 (by omega)]; exact p2) (fun k hk => by rw [f 50 (by omega)]; exact (p3 k hk).symm)
  have e34 : t.1 (0 + 34) 2 = nI (qpO (s.1 26) c).2.1 := t2
  rcases qpO_val (p := s.1 26) (n := c) hc with e | ⟨k, hk, e⟩
  · rw [e] at t1
    by_cases g : (qpO (s.1 26) c).2.1 ≤ 30
    · refine ⟨t, 0, ?_, h.same t4.e.same, t4, Or.inr ⟨_, _, _, Or.inr ⟨g, rfl⟩, k1, t2, t3, k2, fun t' f => ?_⟩⟩
      · unfold f8_readPattern
        rw [if_pos kd_0, show (0 + 34) = 34 from rfl, show (0 + 25) = 25 from rfl, t1, bd2_some, if_pos rfl, t2, if_pos (show nI (qpO (s.1 26) c).2.1 ≤ 30 from nI_le (b := 30) g (by omega))]
      · obtain ⟨u, u1, u2⟩ := eMx t' f
        exact ⟨u, by rw [← e]; exact u1, u2⟩
    · refine ⟨t, -4, ?_, h.same t4.e.same, t4, Or.inr ⟨_, _, _, Or.inl ⟨by omega, rfl⟩, k1, t2, t3, k2, fun t' f => ?_⟩⟩
      · unfold f8_readPattern
        rw [if_pos kd_0, show (0 + 34) = 34 from rfl, show (0 + 25) = 25 from rfl, t1, bd2_some, if_pos rfl, t2, if_neg (show ¬ nI (qpO (s.1 26) c).2.1 ≤ 30 from nI_ge (a := 30) (by omega) (by omega))]
      · obtain ⟨u, u1, u2⟩ := eMx t' f
        exact ⟨u, by rw [← e]; exact u1, u2⟩
  · refine ⟨t, -5, ?_, h.same t4.e.same, t4, Or.inl ⟨rfl, nI k, nI_pos' (by omega), fun t' f => ?_⟩⟩
    · unfold f8_readPattern
      rw [if_pos kd_0, show (0 + 34) = 34 from rfl, show (0 + 25) = 25 from rfl, t1, bd2_some, e, if_neg]
      intro z
      exact absurd (show nI k < 0 by rw [z]; decide) (nI_pos (by omega))
    · obtain ⟨u, u1, u2, u3, u4⟩ := eMx t' f
      exact ⟨u, by rw [← e]; exact u1, u4⟩
theorem mk_both {s t u : Sto} {D : DD} {h w P : Nat} {C K : Nat → Int32} (hC : RelC s 1 D) (hM : RelM s D) (eh : D.1 2 = nI h) (ew : D.1 3 = nI w) (h1 : h ≤ 30) (h2 : w ≤ 40) (hP : P ≤ 30) (ft : FrT s t) (hr : ∀ j, j < P → RowOk (C j) (K j)) (hc : ∀ j, j < P → t.1 35 j = C j ∧ t.1 36 j = K j) (fu : FrQ t u) (hm : ∀ j, j < P → u.1 55 j = C j ∧ u.1 56 j = K j) : MkC t h w P (D.2 1) (D.2 2) (D.2 0) C K ∧ MkM u h w P (D.2 1) (D.2 2) (D.2 0) C K := by
  obtain ⟨⟨a0, a1, a2, a3, a4⟩, b0, b1, b2, b3, b4, b5⟩ := hC.lit
  obtain ⟨⟨m0, m1, m2, m3, m4⟩, n0, n1, n2, n3, n4, n5⟩ := id hM
  refine ⟨⟨⟨?_, ?_⟩, ?_, ?_, ?_, hc, hr, h1, h2, hP⟩, ⟨⟨?_, ?_⟩, ?_, ?_, ?_, hm, hr, h1, h2, hP⟩⟩
  · rw [ft 3 (by omega)]; exact a2.trans eh
  · rw [ft 3 (by omega)]; exact a3.trans ew
  · rw [ft 4 (by omega)]; exact b1
  · rw [ft 5 (by omega)]; exact b2
  · rw [ft 2 (by omega)]; exact b0
  · rw [fu.2 3 (by omega), ft 43 (by omega)]; exact m2.trans eh
  · rw [fu.2 4 (by omega), ft 43 (by omega)]; exact m3.trans ew
  · rw [fu.1 45 (by omega) (by omega) (by omega), ft 45 (by omega)]; exact n1
  · rw [fu.1 46 (by omega) (by omega) (by omega), ft 46 (by omega)]; exact n2
  · rw [fu.1 44 (by omega) (by omega) (by omega), ft 44 (by omega)]; exact n0
theorem op_made {s : Sto} (h : RR s) : ∃ r s1 s2, f8_made 0 s = some (r, s1) ∧ f9_made 43 s1 = some (r, s2) ∧ RR s2 := by
  obtain ⟨t, r, t1, rt, ft, cs⟩ := e_pat h
  obtain ⟨⟨D, hD, hC, hM⟩, hp, h0, h1⟩ := id h
  obtain ⟨⟨n, hn1, hn2, en⟩, ⟨hh, hh1, eh⟩, ⟨w, hw, ew⟩, -⟩ := id hD
  rcases cs with ⟨rfl, q, hq, hu⟩ | ⟨P, C, K, pc, hP6, hP, hc, hr, hu⟩
  · obtain ⟨u, u1, u2⟩ := hu t ft
    refine ⟨-5, t, u, by simp [f8_made, kd_0, t1, bd2_some], ?_, rt.same u2.same⟩
    unfold f9_made
    rw [if_pos kd_43, u1, bd2_some, if_neg (Int32.not_lt.mpr hq)]
  · obtain ⟨u, u1, u2, u3, u4⟩ := hu t ft
    rcases pc with ⟨g, rfl⟩ | ⟨g, rfl⟩
    · refine ⟨-4, t, u, by simp [f8_made, kd_0, t1, bd2_some], ?_, rt.same u4.same⟩
      unfold f9_made
      rw [if_pos kd_43, u1, bd2_some, if_pos (by decide), u2, if_neg (show ¬ nI P ≤ 30 from nI_ge (a := 30) (by omega) (by omega))]
    · obtain ⟨mc, mm⟩ := mk_both hC hM eh ew hh1 hw g ft hr hc u4 u3
      obtain ⟨v, v1, v2⟩ := e_madeOf mm (Nat.le_refl P)
      have ef := e_fewest mc (Nat.le_refl P)
      refine ⟨eC (moO (D.2 1) (D.2 2) (D.2 0) C K hh w P), t, v, ?_, ?_, (rt.same u4.same).same (Same60 v2)⟩
      · unfold f8_made
        rw [if_pos kd_0, t1, bd2_some, if_pos rfl, show t.1 (0 + 34) 2 = nI P from hP, ef, bd2_some]
      · unfold f9_made
        rw [if_pos kd_43, u1, bd2_some, if_pos (by decide), u2, if_pos (show nI P ≤ 30 from nI_le (b := 30) g (by omega)), v1, bd2_some]
theorem bars_loop {t : Sto} {h w P : Nat} {f g tm C K : Nat → Int32} (mc : MkC t h w P f g tm C K) (h34 : t.1 34 2 = nI P) : ∀ (d i fuel : Nat) (u : Sto), i + d = P → d < fuel → MkM u h w P f g tm C K → u.1 43 20 = nI P → ∃ r v, L8_bars_13 0 fuel (nI i) t = some (r, t) ∧ L9_bars_24 43 fuel (nI i) u = some (r, v) ∧ ∀ k, k ≠ 60 → v.1 k = u.1 k := by
  have hP : P ≤ 30 := mc.2.2.2.2.2.2.2.2
  have hh : h ≤ 30 := mc.2.2.2.2.2.2.1
  intro d
  induction d with
  | zero =>
    intro i fuel u e F mm h20
    obtain ⟨q, rfl⟩ : ∃ q, fuel = q + 1 := ⟨fuel - 1, by omega⟩
    have : i = P := by omega
    subst this
    refine ⟨-6, u, ?_, ?_, fun _ _ => rfl⟩
    · unfold L8_bars_13; rw [show t.1 (0 + 34) 2 = nI i from h34, if_pos (Int32.le_refl _)]
    · unfold L9_bars_24; rw [h20, if_pos (Int32.le_refl _)]
  | succ d ih =>
    intro i fuel u e F mm h20
    obtain ⟨q, rfl⟩ : ∃ q, fuel = q + 1 := ⟨fuel - 1, by omega⟩
    obtain ⟨v, v1, v2⟩ := e_madeOf mm (show i + 1 ≤ P by omega)
    have ef := e_fewest mc (show i + 1 ≤ P by omega)
    have hb := moO_b (f := f) (g := g) (tm := tm) (C := C) (K := K) (w := w) hh (show i + 1 ≤ 30 by omega)
    unfold L8_bars_13 L9_bars_24
    rw [show t.1 (0 + 34) 2 = nI P from h34, if_neg (nI_ge (by omega) (by omega)), h20, if_neg (nI_ge (by omega) (by omega)), nI_1, ef, bd2_some, v1, bd2_some]
    cases em : moO f g tm C K h w (i + 1) with
    | none =>
      rw [if_pos (show eC none = (-6 : Int32) from rfl), if_neg (show ¬ (0 : Int32) ≤ eC none by decide)]
      exact ⟨_, v, rfl, rfl, v2⟩
    | some x =>
      have := hb x em
      rw [if_neg (eC_n (by omega)), if_pos (show (0 : Int32) ≤ eC (some x) from nI_pos' (by omega))]
      obtain ⟨r, z, z1, z2, z3⟩ := ih (i + 1) q v (by omega) (by omega) (mm.keep v2) (by rw [v2 43 (by omega)]; exact h20)
      exact ⟨r, z, z1, z2, fun k hk => (z3 k hk).trans (v2 k hk)⟩
theorem op_bars {s : Sto} (h : RR s) : ∃ r s1 s2, f8_bars 0 s = some (r, s1) ∧ f9_bars 43 s1 = some (r, s2) ∧ RR s2 := by
  obtain ⟨t, r, t1, rt, ft, cs⟩ := e_pat h
  obtain ⟨⟨D, hD, hC, hM⟩, hp, h0, h1⟩ := id h
  obtain ⟨⟨n, hn1, hn2, en⟩, ⟨hh, hh1, eh⟩, ⟨w, hw, ew⟩, -⟩ := id hD
  rcases cs with ⟨rfl, q, hq, hu⟩ | ⟨P, C, K, pc, hP6, hP, hc, hr, hu⟩
  · obtain ⟨u, u1, u2⟩ := hu t ft
    refine ⟨-5, t, u, by simp [f8_bars, kd_0, t1, bd2_some], ?_, rt.same u2.same⟩
    unfold f9_bars
    rw [if_pos kd_43, u1, bd2_some, if_neg (Int32.not_lt.mpr hq)]
  · obtain ⟨u, u1, u2, u3, u4⟩ := hu t ft
    rcases pc with ⟨g, rfl⟩ | ⟨g, rfl⟩
    · refine ⟨-4, t, u, by simp [f8_bars, kd_0, t1, bd2_some], ?_, rt.same u4.same⟩
      unfold f9_bars
      rw [if_pos kd_43, u1, bd2_some, if_pos (by decide), u2, if_neg (show ¬ nI P ≤ 30 from nI_ge (a := 30) (by omega) (by omega))]
    · obtain ⟨mc, mm⟩ := mk_both hC hM eh ew hh1 hw g ft hr hc u4 u3
      obtain ⟨r, v, v1, v2, v3⟩ := bars_loop mc hP P 0 FU u (by omega) (by unfold FU; omega) mm u2
      rw [show nI 0 = 0 from rfl] at v1 v2
      refine ⟨r, t, v, ?_, ?_, (rt.same u4.same).same (Same60 v3)⟩
      · unfold f8_bars
        rw [if_pos kd_0, t1, bd2_some, if_pos rfl, v1]
      · unfold f9_bars
        rw [if_pos kd_43, u1, bd2_some, if_pos (by decide), u2, if_pos (show nI P ≤ 30 from nI_le (b := 30) g (by omega)), v2]
