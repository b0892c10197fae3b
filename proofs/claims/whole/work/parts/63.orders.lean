theorem RR.two {s t : Sto} (h : RR s) (e : t.1 = s.1) : RR t := by
  obtain ⟨s1, s2⟩ := s
  obtain ⟨t1, t2⟩ := t
  have e' : t1 = s1 := e
  subst e'
  exact h
theorem e_atL {k i : Nat} {s : Sto} (hk : kd k = 11) (hi : i < ln k) : f8_at_ k (nI i) s = some (s.2 k i, s) := by
  have hl := ln_small k (by omega)
  unfold f8_at_
  rw [if_pos hk, if_neg (nI_pos (by omega)), if_neg (nI_ge hi (by omega)), if_pos (inb_nI hi (by omega)), nI_clamp (by omega)]
theorem e_atL0 {k i : Nat} {s : Sto} (hk : kd k = 11) (hi : ln k ≤ i) (h2 : i < 2 ^ 31) : f8_at_ k (nI i) s = some (0, s) := by
  unfold f8_at_
  rw [if_pos hk, if_neg (nI_pos h2), if_pos (nI_le hi h2)]
theorem e_putL {k i : Nat} {v : Int64} {s : Sto} (hk : kd k = 11) (hi : i < ln k) : f8_put_ k (nI i) v s = some (stL s k i v) := by
  have hl := ln_small k (by omega)
  unfold f8_put_
  rw [if_pos hk, if_neg (nI_pos (by omega)), if_neg (nI_ge hi (by omega)), if_pos (inb_nI hi (by omega)), nI_clamp (by omega)]
  rfl
-- how many orders end with so many rows
def rz (f : Nat → Int64) : Nat → Int64 := fun h => if h = 0 then 0 else f (h - 1)
def dr (f g : Nat → Int64) : Nat → Int64 := fun h => if h = 0 then (f 0 + g 0) + g 1 else f h + g (h + 1)
def nxr (X : Nat → Nat → Int64) : Nat → Nat → Int64
  | 0 => X 0
  | t + 1 => dr (X (t + 1)) (nxr X t)
def X0 (a : Nat) : Nat → Nat → Int64 := fun t h => if t = 0 ∧ h = a then 1 else 0
def VV (a : Nat) : Nat → Nat → Nat → Int64
  | 0 => nxr (X0 a)
  | l + 1 => nxr (fun t => rz (VV a l t))
def XX (a : Nat) : Nat → Nat → Nat → Int64
  | 0 => X0 a
  | l + 1 => fun t => rz (VV a l t)
def PP (a : Nat) : Nat → Nat → Nat → Int64
  | 0 => X0 a
  | l + 1 => VV a l
theorem VV_X {a l : Nat} : VV a l = nxr (XX a l) := by cases l <;> rfl
theorem nxr_0 {X : Nat → Nat → Int64} {B : Nat} (h : ∀ t h, B < h → X t h = 0) : ∀ t h, B < h → nxr X t h = 0 := by
  intro t
  induction t with
  | zero => exact h 0
  | succ t ih =>
    intro q hq
    simp only [nxr, dr]
    rw [if_neg (by omega), h _ q hq, ih (q + 1) (by omega)]; rfl
theorem VV_0 {a : Nat} : ∀ l t h, a + l < h → VV a l t h = 0 := by
  intro l
  induction l with
  | zero => exact nxr_0 (fun t h hh => by simp [X0]; omega)
  | succ l ih =>
    exact nxr_0 (fun t h hh => by
      simp only [rz]
      rw [if_neg (by omega)]; exact ih t (h - 1) (by omega))
/-- f, with the first v numbers of g dropped into it -/
def pd (f g : Nat → Int64) (v h : Nat) : Int64 := if h = 0 then (if v = 0 then f 0 else if v = 1 then f 0 + g 0 else (f 0 + g 0) + g 1) else if h + 2 ≤ v then f h + g (h + 1) else f h
theorem pd_step {f g : Nat → Int64} {v h : Nat} : pd f g (v + 1) h = if h = v - 1 then pd f g v h + g v else pd f g v h := by
  unfold pd
  by_cases h0 : h = 0
  · subst h0
    rw [if_pos rfl, if_pos rfl]
    by_cases v0 : v = 0
    · subst v0; simp
    · by_cases v1 : v = 1
      · subst v1; simp
      · rw [if_neg (by omega), if_neg (by omega), if_neg (by omega), if_neg v0, if_neg v1]
  · rw [if_neg h0, if_neg h0]
    by_cases e : h = v - 1
    · rw [if_pos e, if_pos (by omega), if_neg (by omega), show h + 1 = v by omega]
    · rw [if_neg e]
      by_cases q : h + 2 ≤ v
      · rw [if_pos q, if_pos (by omega)]
      · rw [if_neg q, if_neg (by omega)]
theorem pd_end {f g : Nat → Int64} {n h : Nat} (hn : 2 ≤ n) (hg : g n = 0) (hh : h < n) : pd f g n h = dr f g h := by
  unfold pd dr
  by_cases h0 : h = 0
  · rw [if_pos h0, if_pos h0, if_neg (by omega)]
    by_cases n1 : n = 1
    · omega
    · rw [if_neg n1]
  · rw [if_neg h0, if_neg h0]
    by_cases q : h + 2 ≤ n
    · rw [if_pos q]
    · rw [if_neg q, show h + 1 = n by omega, hg, Int64.add_zero]
-- the class's rows of 43
theorem raiseC_loop {t : Nat} (ht : t ≤ 12) : ∀ (v fuel : Nat) (s : Sto), v ≤ 42 → v < fuel → ∃ u, L4_raise_3 39 (nI (t * 43)) fuel (nI v) s = some u ∧ u.1 = s.1 ∧ ∀ p, u.2 40 p = if t * 43 < p ∧ p ≤ t * 43 + v then s.2 40 (p - 1) else s.2 40 p := by
  intro v
  induction v with
  | zero =>
    intro fuel s hv F
    obtain ⟨q, rfl⟩ : ∃ q, fuel = q + 1 := ⟨fuel - 1, by omega⟩
    refine ⟨s, ?_, rfl, fun p => by rw [if_neg (by omega)]⟩
    unfold L4_raise_3
    rw [if_pos (by decide)]
  | succ v ih =>
    intro fuel s hv F
    obtain ⟨q, rfl⟩ : ∃ q, fuel = q + 1 := ⟨fuel - 1, by omega⟩
    obtain ⟨u, u1, u2, u3⟩ := ih q (stL s 40 (t * 43 + (v + 1)) (s.2 40 (t * 43 + v))) (by omega) (by omega)
    refine ⟨u, ?_, u2, fun p => ?_⟩
    · unfold L4_raise_3
      rw [if_neg (nI_nle (by omega) (by omega)), nI_add, show nI (t * 43 + (v + 1)) - 1 = nI (t * 43 + v) from nI_pred _, e_atL (k := 39 + 1) (i := t * 43 + v) kd_40 (by rw [show ln (39 + 1) = 559 from rfl]; omega), bd2_some, e_putL (k := 39 + 1) (i := t * 43 + (v + 1)) kd_40 (by rw [show ln (39 + 1) = 559 from rfl]; omega), bd1_some, pk_m1]
      exact u1
    · rw [u3 p]
      by_cases c1 : t * 43 < p ∧ p ≤ t * 43 + v
      · rw [if_pos c1, if_pos (by omega), stL_get, if_neg (by omega)]
      · rw [if_neg c1, stL_get]
        by_cases c2 : p = t * 43 + (v + 1)
        · rw [if_pos ⟨rfl, c2⟩, if_pos (by omega), c2]; rfl
        · rw [if_neg (fun z => c2 z.2), if_neg (by omega)]
theorem e_raiseC {t : Nat} {s : Sto} (ht : t ≤ 12) : ∃ u, f4_raise 39 (nI (t * 43)) s = some u ∧ u.1 = s.1 ∧ (∀ h, h < 43 → u.2 40 (t * 43 + h) = rz (fun x => s.2 40 (t * 43 + x)) h) ∧ ∀ p, (p < t * 43 ∨ t * 43 + 43 ≤ p) → u.2 40 p = s.2 40 p := by
  obtain ⟨u, u1, u2, u3⟩ := raiseC_loop ht 42 FU s (by omega) (by decide)
  refine ⟨stL u 40 (t * 43) 0, ?_, u2, fun h hh => ?_, fun p hp => ?_⟩
  · unfold f4_raise
    rw [if_pos kd_39, show (42 : Int32) = nI 42 from rfl, u1, bd1_some, e_putL (k := 39 + 1) (i := t * 43) kd_40 (by rw [show ln (39 + 1) = 559 from rfl]; omega), bd1_some]
  · rw [stL_get]
    unfold rz
    by_cases h0 : h = 0
    · subst h0; rw [if_pos ⟨rfl, rfl⟩, if_pos rfl]
    · rw [if_neg (by omega), if_neg h0, u3, if_pos (by omega), show t * 43 + h - 1 = t * 43 + (h - 1) by omega]
  · rw [stL_get, if_neg (by omega), u3, if_neg (by omega)]
theorem dropC_loop {A B : Nat} {f g : Nat → Int64} (hA : A + 43 ≤ B) (hB : B + 43 ≤ 559) : ∀ (d v fuel : Nat) (s : Sto), v + d = 43 → d < fuel → (∀ h, h < 43 → s.2 40 (B + h) = pd f g v h) → (∀ h, h < 43 → s.2 40 (A + h) = g h) → ∃ u, L4_addDropped_2 39 (nI A) (nI B) fuel (nI v) s = some u ∧ u.1 = s.1 ∧ (∀ h, h < 43 → u.2 40 (B + h) = pd f g 43 h) ∧ ∀ p, (p < B ∨ B + 43 ≤ p) → u.2 40 p = s.2 40 p := by
  intro d
  induction d with
  | zero =>
    intro v fuel s e F hb ha
    obtain ⟨q, rfl⟩ : ∃ q, fuel = q + 1 := ⟨fuel - 1, by omega⟩
    have : v = 43 := by omega
    subst this
    refine ⟨s, ?_, rfl, hb, fun _ _ => rfl⟩
    unfold L4_addDropped_2
    rw [if_pos (by decide)]
  | succ d ih =>
    intro v fuel s e F hb ha
    obtain ⟨q, rfl⟩ : ∃ q, fuel = q + 1 := ⟨fuel - 1, by omega⟩
    have x1 : (if (0 : Int32) < (nI v - (1 : Int32)) then (nI v - (1 : Int32)) else (0 : Int32)) = nI (v - 1) := by
      by_cases v0 : v = 0
      · subst v0; decide
      · rw [show nI v - 1 = nI (v - 1) by rw [show v = (v - 1) + 1 by omega, nI_pred, Nat.add_sub_cancel]]
        by_cases v1 : v = 1
        · subst v1; decide
        · rw [if_pos (show (0 : Int32) < nI (v - 1) from nI_lt (a := 0) (by omega) (by omega))]
    obtain ⟨u, u1, u2, u3, u4⟩ := ih (v + 1) q (stL s 40 (B + (v - 1)) (pd f g v (v - 1) + g v)) (by omega) (by omega) (fun h hh => by
      rw [stL_get, pd_step]
      by_cases c : h = v - 1
      · rw [if_pos ⟨rfl, by omega⟩, if_pos c, c]
      · rw [if_neg (by omega), if_neg c]; exact hb h hh) (fun h hh => by rw [stL_get, if_neg (by omega)]; exact ha h hh)
    refine ⟨u, ?_, u2, u3, fun p hp => by rw [u4 p hp, stL_get, if_neg (by omega)]⟩
    unfold L4_addDropped_2
    rw [if_neg (show ¬ (43 : Int32) ≤ nI v from nI_ge (b := 43) (by omega) (by omega)), x1, nm_eq, nI_add, nI_add, e_atL (k := 39 + 1) (i := B + (v - 1)) kd_40 (by rw [show ln (39 + 1) = 559 from rfl]; omega), bd2_some, e_atL (k := 39 + 1) (i := A + v) kd_40 (by rw [show ln (39 + 1) = 559 from rfl]; omega), bd2_some, e_putL (k := 39 + 1) (i := B + (v - 1)) kd_40 (by rw [show ln (39 + 1) = 559 from rfl]; omega), bd1_some, nI_1, show s.2 (39 + 1) (B + (v - 1)) = pd f g v (v - 1) from hb _ (by omega), show s.2 (39 + 1) (A + v) = g v from ha _ (by omega)]
    exact u1
theorem e_dropC {t : Nat} {s : Sto} {f g : Nat → Int64} (ht : t + 1 ≤ 12) (hg0 : g 43 = 0) (hf : ∀ h, h < 43 → s.2 40 ((t + 1) * 43 + h) = f h) (hg : ∀ h, h < 43 → s.2 40 (t * 43 + h) = g h) : ∃ u, f4_addDropped 39 (nI (t * 43)) (nI ((t + 1) * 43)) s = some u ∧ u.1 = s.1 ∧ (∀ h, h < 43 → u.2 40 ((t + 1) * 43 + h) = dr f g h) ∧ ∀ p, (p < (t + 1) * 43 ∨ (t + 1) * 43 + 43 ≤ p) → u.2 40 p = s.2 40 p := by
  obtain ⟨u, u1, u2, u3, u4⟩ := dropC_loop (A := t * 43) (B := (t + 1) * 43) (f := f) (g := g) (by omega) (by omega) 43 0 FU s (by omega) (by decide) (fun h hh => by
    rw [hf h hh]; unfold pd
    by_cases h0 : h = 0
    · subst h0; rfl
    · rw [if_neg h0, if_neg (by omega)]) hg
  rw [show nI 0 = 0 from rfl] at u1
  refine ⟨u, ?_, u2, fun h hh => by rw [u3 h hh, pd_end (by omega) hg0 hh], u4⟩
  unfold f4_addDropped
  rw [if_pos kd_39, u1, bd1_some]
/-- row t of the class's table holds f -/
def RwC (s : Sto) (t : Nat) (f : Nat → Int64) : Prop := ∀ h, h < 43 → s.2 40 (t * 43 + h) = f h
theorem rz_c {f g : Nat → Int64} (h : ∀ x, x < 43 → f x = g x) : ∀ x, x < 43 → rz f x = rz g x := by
  intro x hx
  unfold rz
  by_cases c : x = 0
  · rw [if_pos c, if_pos c]
  · rw [if_neg c, if_neg c]; exact h _ (by omega)
theorem innerC {a a1 l : Nat} {a2 a4 : Int32} (ha : a ≤ 30) (h1 : a1 ≤ 12) (hl : l ≤ 12) : ∀ (d t fuel : Nat) (s : Sto), t + d = a1 + 1 → d < fuel → (∀ j, j < t → RwC s j (VV a l j)) → (∀ j, t ≤ j → j ≤ a1 → RwC s j (PP a l j)) → ∃ u, L4_ending_59 39 (nI a1) a2 a4 (nI l) fuel (nI t) s = some u ∧ u.1 = s.1 ∧ ∀ j, j ≤ a1 → RwC u j (VV a l j) := by
  intro d
  induction d with
  | zero =>
    intro t fuel s e F hv hp
    obtain ⟨q, rfl⟩ : ∃ q, fuel = q + 1 := ⟨fuel - 1, by omega⟩
    refine ⟨s, ?_, rfl, fun j hj => hv j (by omega)⟩
    unfold L4_ending_59
    rw [if_pos (nI_lt (by omega) (by omega))]
  | succ d ih =>
    intro t fuel s e F hv hp
    obtain ⟨q, rfl⟩ : ∃ q, fuel = q + 1 := ⟨fuel - 1, by omega⟩
    have mid : ∃ u, (if nI l ≤ 0 then some s else Option.bind (f4_raise 39 (nI t * (43 : Int32)) s) fun s8 => some s8) = some u ∧ u.1 = s.1 ∧ RwC u t (XX a l t) ∧ (∀ j, j < t → RwC u j (VV a l j)) ∧ ∀ j, t < j → j ≤ a1 → RwC u j (PP a l j) := by
      cases l with
      | zero => exact ⟨s, by rw [if_pos (by decide)], rfl, hp t (Nat.le_refl _) (by omega), hv, fun j x y => hp j (by omega) y⟩
      | succ l =>
        obtain ⟨u, u1, u2, u3, u4⟩ := e_raiseC (t := t) (s := s) (by omega)
        refine ⟨u, ?_, u2, fun h hh => ?_, fun j hj h hh => ?_, fun j hj hj2 h hh => ?_⟩
        · rw [if_neg (nI_nle (by omega) (by omega)), show (43 : Int32) = nI 43 from rfl, pk_mul, u1, bd1_some]
        · rw [u3 h hh]
          exact rz_c (fun x hx => hp t (Nat.le_refl _) (by omega) x hx) h hh
        · rw [u4 _ (by omega)]; exact hv j hj h hh
        · rw [u4 _ (by omega)]; exact hp j (by omega) hj2 h hh
    obtain ⟨u, u1, u2, u3, u4, u5⟩ := mid
    unfold L4_ending_59
    rw [if_neg (nI_nlt (by omega) (by omega)), u1, bd1_some, nI_1]
    cases t with
    | zero =>
      rw [if_pos (by decide)]
      obtain ⟨v, v1, v2, v3⟩ := ih 1 q u (by omega) (by omega) (fun j hj => by rw [show j = 0 by omega, VV_X]; exact u3) (fun j x y => u5 j (by omega) y)
      exact ⟨v, v1, v2.trans u2, v3⟩
    | succ t =>
      obtain ⟨w, w1, w2, w3, w4⟩ := e_dropC (t := t) (s := u) (f := XX a l (t + 1)) (g := VV a l t) (by omega) (VV_0 l t 43 (by omega)) u3 (u4 t (by omega))
      rw [if_neg (nI_nle (by omega) (by omega)), nI_pred, show (43 : Int32) = nI 43 from rfl, pk_mul, pk_mul, w1, bd1_some]
      obtain ⟨v, v1, v2, v3⟩ := ih (t + 2) q w (by omega) (by omega) (fun j hj h hh => by
        by_cases c : j = t + 1
        · subst c
          rw [w3 h hh, VV_X]; rfl
        · rw [w4 _ (by omega)]; exact u4 j (by omega) h hh) (fun j x y h hh => by rw [w4 _ (by omega)]; exact u5 j (by omega) y h hh)
      exact ⟨v, v1, (v2.trans w2).trans u2, v3⟩
theorem outerC {a a1 a2 : Nat} {a4 : Int32} (ha : a ≤ 30) (h1 : a1 ≤ 12) (h2 : a2 ≤ 12) : ∀ (d l fuel : Nat) (s : Sto), l + d = a2 + 1 → d < fuel → (∀ j, j ≤ a1 → RwC s j (PP a l j)) → ∃ u, L4_ending_50 39 (nI a1) (nI a2) a4 fuel (nI l) s = some u ∧ u.1 = s.1 ∧ ∀ j, j ≤ a1 → RwC u j (PP a (a2 + 1) j) := by
  intro d
  induction d with
  | zero =>
    intro l fuel s e F hp
    obtain ⟨q, rfl⟩ : ∃ q, fuel = q + 1 := ⟨fuel - 1, by omega⟩
    have : l = a2 + 1 := by omega
    subst this
    refine ⟨s, ?_, rfl, hp⟩
    unfold L4_ending_50
    rw [if_pos (nI_lt (by omega) (by omega))]
  | succ d ih =>
    intro l fuel s e F hp
    obtain ⟨q, rfl⟩ : ∃ q, fuel = q + 1 := ⟨fuel - 1, by omega⟩
    obtain ⟨u, u1, u2, u3⟩ := innerC (a2 := nI a2) (a4 := a4) ha h1 (show l ≤ 12 by omega) (a1 + 1) 0 FU s (by omega) (by unfold FU; omega) (fun j hj => by omega) (fun j _ y => hp j y)
    rw [show nI 0 = 0 from rfl] at u1
    obtain ⟨v, v1, v2, v3⟩ := ih (l + 1) q u (by omega) (by omega) u3
    refine ⟨v, ?_, v2.trans u2, v3⟩
    unfold L4_ending_50
    rw [if_neg (nI_nlt (by omega) (by omega)), u1, bd1_some, nI_1]
    exact v1
theorem wipeC {a1 a2 a3 a4 : Int32} : ∀ (d j fuel : Nat) (s : Sto), j + d = 559 → d < fuel → ∃ u, L4_ending_12 39 a1 a2 a3 a4 fuel (nI j) s = some u ∧ u.1 = s.1 ∧ ∀ p, p < 559 → u.2 40 p = if j ≤ p then 0 else s.2 40 p := by
  intro d
  induction d with
  | zero =>
    intro j fuel s e F
    obtain ⟨q, rfl⟩ : ∃ q, fuel = q + 1 := ⟨fuel - 1, by omega⟩
    have : j = 559 := by omega
    subst this
    refine ⟨s, ?_, rfl, fun p hp => by rw [if_neg (by omega)]⟩
    unfold L4_ending_12
    rw [if_pos (by decide)]
  | succ d ih =>
    intro j fuel s e F
    obtain ⟨q, rfl⟩ : ∃ q, fuel = q + 1 := ⟨fuel - 1, by omega⟩
    obtain ⟨u, u1, u2, u3⟩ := ih (j + 1) q (stL s 40 j 0) (by omega) (by omega)
    refine ⟨u, ?_, u2, fun p hp => ?_⟩
    · unfold L4_ending_12
      rw [if_neg (show ¬ nI (ln (39 + 1)) ≤ nI j from nI_ge (b := 559) (by omega) (by omega)), e_putL (k := 39 + 1) (i := j) kd_40 (by rw [show ln (39 + 1) = 559 from rfl]; omega), bd1_some, nI_1]
      exact u1
    · rw [u3 p hp, stL_get]
      by_cases c : p = j
      · subst c; simp
      · by_cases c2 : j + 1 ≤ p
        · rw [if_pos c2, if_pos (by omega)]
        · rw [if_neg c2, if_neg (fun z => c z.2), if_neg (by omega)]
theorem e_ending {a a1 a2 a4 : Nat} {s : Sto} (ha : a ≤ 30) (h1 : a1 ≤ 12) (h2 : a2 ≤ 12) (h4 : a4 ≤ 50) : ∃ u, f4_ending 39 (nI a1) (nI a2) (nI a) (nI a4) s = some (VV a a2 a1 a4, u) ∧ u.1 = s.1 := by
  unfold f4_ending
  rw [if_pos kd_39]
  by_cases c : a4 < 43
  · obtain ⟨u, u1, u2, u3⟩ := wipeC (a1 := nI a1) (a2 := nI a2) (a3 := nI a) (a4 := nI a4) 559 0 FU s (by omega) (by decide)
    rw [show nI 0 = 0 from rfl] at u1
    obtain ⟨v, v1, v2, v3⟩ := outerC (a4 := nI a4) ha h1 h2 (a2 + 1) 0 FU (stL u 40 a 1) (by omega) (by unfold FU; omega) (fun j hj h hh => by
      rw [stL_get]
      show _ = X0 a j h
      unfold X0
      by_cases e : j = 0 ∧ h = a
      · rw [if_pos e, if_pos ⟨rfl, by omega⟩]
      · rw [if_neg e, if_neg (by omega), u3 _ (by omega), if_pos (by omega)])
    rw [show nI 0 = 0 from rfl] at v1
    refine ⟨v, ?_, v2.trans u2⟩
    rw [if_pos (show nI a4 < 43 from nI_lt (b := 43) c (by omega)), u1, bd1_some, e_putL (k := 39 + 1) (i := a) kd_40 (by rw [show ln (39 + 1) = 559 from rfl]; omega), bd1_some, show stL u (39 + 1) a 1 = stL u 40 a 1 from rfl, v1, bd1_some, show (43 : Int32) = nI 43 from rfl, pk_mul, nI_add, e_atL (k := 39 + 1) (i := a1 * 43 + a4) kd_40 (by rw [show ln (39 + 1) = 559 from rfl]; omega), bd2_some, show v.2 (39 + 1) (a1 * 43 + a4) = VV a a2 a1 a4 from v3 a1 (Nat.le_refl _) a4 c]
  · refine ⟨s, ?_, rfl⟩
    rw [if_neg (show ¬ nI a4 < 43 from nI_nlt (a := a4) (b := 43) (by omega) (by omega)), VV_0 a2 a1 a4 (by omega)]
-- the check's rows of 96
theorem k96 (a b : Nat) : ((96 : Int32) * nI a) + nI b = nI (96 * a + b) := by rw [show (96 : Int32) = nI 96 from rfl, pk_mul, nI_add]
theorem raiseM_loop {t : Nat} {a1 : Int32} (ht : t ≤ 12) : ∀ (v fuel : Nat) (s : Sto), v ≤ 95 → v < fuel → ∃ u, L9_raise_10 43 a1 (nI t) fuel (nI v) s = some u ∧ u.1 = s.1 ∧ ∀ p, u.2 64 p = if 96 * t < p ∧ p ≤ 96 * t + v then s.2 64 (p - 1) else s.2 64 p := by
  intro v
  induction v with
  | zero =>
    intro fuel s hv F
    obtain ⟨q, rfl⟩ : ∃ q, fuel = q + 1 := ⟨fuel - 1, by omega⟩
    refine ⟨s, ?_, rfl, fun p => by rw [if_neg (by omega)]⟩
    unfold L9_raise_10
    rw [if_pos (by decide)]
  | succ v ih =>
    intro fuel s hv F
    obtain ⟨q, rfl⟩ : ∃ q, fuel = q + 1 := ⟨fuel - 1, by omega⟩
    have b1 : inb (nI (96 * t + v)) (ln (43 + 21)) := inb_nI (n := 96 * t + v) (m := 1248) (by omega) (by omega)
    have b2 : inb (nI (96 * t + (v + 1))) (ln (43 + 21)) := inb_nI (n := 96 * t + (v + 1)) (m := 1248) (by omega) (by omega)
    obtain ⟨u, u1, u2, u3⟩ := ih q (stL s 64 (96 * t + (v + 1)) (s.2 64 (96 * t + v))) (by omega) (by omega)
    refine ⟨u, ?_, u2, fun p => ?_⟩
    · unfold L9_raise_10
      rw [if_neg (nI_nle (by omega) (by omega)), k96, show nI (96 * t + (v + 1)) - 1 = nI (96 * t + v) from nI_pred _, if_pos b1, if_pos b2, nI_clamp (by omega), nI_clamp (by omega), nm_eq, pk_m1]
      exact u1
    · rw [u3 p]
      by_cases c1 : 96 * t < p ∧ p ≤ 96 * t + v
      · rw [if_pos c1, if_pos (by omega), stL_get, if_neg (by omega)]
      · rw [if_neg c1, stL_get]
        by_cases c2 : p = 96 * t + (v + 1)
        · rw [if_pos ⟨rfl, c2⟩, if_pos (by omega), c2]; rfl
        · rw [if_neg (fun z => c2 z.2), if_neg (by omega)]
/-- row t of the check's table holds f -/
def RwM (s : Sto) (t : Nat) (f : Nat → Int64) : Prop := ∀ h, h < 96 → s.2 64 (96 * t + h) = f h
theorem raiseM_rows {a1 : Nat} {f : Nat → Nat → Int64} (h1 : a1 ≤ 12) : ∀ (d t fuel : Nat) (s : Sto), t + d = a1 + 1 → d < fuel → (∀ j, j < t → RwM s j (rz (f j))) → (∀ j, t ≤ j → j ≤ a1 → RwM s j (f j)) → ∃ u, L9_raise_2 43 (nI a1) fuel (nI t) s = some u ∧ u.1 = s.1 ∧ ∀ j, j ≤ a1 → RwM u j (rz (f j)) := by
  intro d
  induction d with
  | zero =>
    intro t fuel s e F hv hp
    obtain ⟨q, rfl⟩ : ∃ q, fuel = q + 1 := ⟨fuel - 1, by omega⟩
    refine ⟨s, ?_, rfl, fun j hj => hv j (by omega)⟩
    unfold L9_raise_2
    rw [if_pos (nI_lt (by omega) (by omega))]
  | succ d ih =>
    intro t fuel s e F hv hp
    obtain ⟨q, rfl⟩ : ∃ q, fuel = q + 1 := ⟨fuel - 1, by omega⟩
    obtain ⟨u, u1, u2, u3⟩ := raiseM_loop (t := t) (a1 := nI a1) (by omega) 95 FU s (by omega) (by decide)
    have k0 : (96 : Int32) * nI t = nI (96 * t) := pk_mul 96 t
    have b1 : inb (nI (96 * t)) (ln (43 + 21)) := inb_nI (n := 96 * t) (m := 1248) (by omega) (by omega)
    obtain ⟨v, v1, v2, v3⟩ := ih (t + 1) q (stL u 64 (96 * t) 0) (by omega) (by omega) (fun j hj h hh => by
      rw [stL_get]
      by_cases c : j = t
      · subst c
        unfold rz
        by_cases h0 : h = 0
        · subst h0; rw [if_pos ⟨rfl, rfl⟩, if_pos rfl]
        · rw [if_neg (by omega), if_neg h0, u3, if_pos (by omega), show 96 * j + h - 1 = 96 * j + (h - 1) by omega]
          exact hp j (Nat.le_refl _) (by omega) _ (by omega)
      · rw [if_neg (by omega), u3, if_neg (by omega)]; exact hv j (by omega) h hh) (fun j x y h hh => by
      rw [stL_get, if_neg (by omega), u3, if_neg (by omega)]; exact hp j (by omega) y h hh)
    refine ⟨v, ?_, v2.trans u2, v3⟩
    unfold L9_raise_2
    rw [if_neg (nI_nlt (by omega) (by omega)), show (95 : Int32) = nI 95 from rfl, u1, bd1_some, k0, if_pos b1, nI_clamp (by omega), nm_eq, nI_1]
    exact v1
theorem dropM_loop {t : Nat} {f g : Nat → Int64} {a1 a2 a4 a5 : Int32} (ht : t + 1 ≤ 12) : ∀ (d v fuel : Nat) (s : Sto), v + d = 96 → d < fuel → (∀ h, h < 96 → s.2 64 (96 * (t + 1) + h) = pd f g v h) → (∀ h, h < 96 → s.2 64 (96 * t + h) = g h) → ∃ u, L9_orders_79 43 a1 a2 a4 a5 (nI t) fuel (nI v) s = some u ∧ u.1 = s.1 ∧ (∀ h, h < 96 → u.2 64 (96 * (t + 1) + h) = pd f g 96 h) ∧ ∀ p, (p < 96 * (t + 1) ∨ 96 * (t + 1) + 96 ≤ p) → u.2 64 p = s.2 64 p := by
  intro d
  induction d with
  | zero =>
    intro v fuel s e F hb ha
    obtain ⟨q, rfl⟩ : ∃ q, fuel = q + 1 := ⟨fuel - 1, by omega⟩
    have : v = 96 := by omega
    subst this
    refine ⟨s, ?_, rfl, hb, fun _ _ => rfl⟩
    unfold L9_orders_79
    rw [if_pos (by decide)]
  | succ d ih =>
    intro v fuel s e F hb ha
    obtain ⟨q, rfl⟩ : ∃ q, fuel = q + 1 := ⟨fuel - 1, by omega⟩
    have x1 : (if nI v ≤ 0 then some (0 : Int32) else some (nI v - (1 : Int32))) = some (nI (v - 1)) := by
      by_cases v0 : v = 0
      · subst v0; rw [if_pos (by decide)]; rfl
      · rw [if_neg (nI_nle (by omega) (by omega)), show nI v - 1 = nI (v - 1) by rw [show v = (v - 1) + 1 by omega, nI_pred, Nat.add_sub_cancel]]
    have b1 : inb (nI (96 * (t + 1) + (v - 1))) (ln (43 + 21)) := inb_nI (n := 96 * (t + 1) + (v - 1)) (m := 1248) (by omega) (by omega)
    have b2 : inb (nI (96 * t + v)) (ln (43 + 21)) := inb_nI (n := 96 * t + v) (m := 1248) (by omega) (by omega)
    obtain ⟨u, u1, u2, u3, u4⟩ := ih (v + 1) q (stL s 64 (96 * (t + 1) + (v - 1)) (pd f g v (v - 1) + g v)) (by omega) (by omega) (fun h hh => by
      rw [stL_get, pd_step]
      by_cases c : h = v - 1
      · rw [if_pos ⟨rfl, by omega⟩, if_pos c, c]
      · rw [if_neg (by omega), if_neg c]; exact hb h hh) (fun h hh => by rw [stL_get, if_neg (by omega)]; exact ha h hh)
    refine ⟨u, ?_, u2, u3, fun p hp => by rw [u4 p hp, stL_get, if_neg (by omega)]⟩
    unfold L9_orders_79
    rw [if_neg (show ¬ (96 : Int32) ≤ nI v from nI_ge (b := 96) (by omega) (by omega)), x1, bd1_some, nI_1, k96, k96, if_pos b1, if_pos b2, if_pos b1, nI_clamp (by omega), nI_clamp (by omega), nm_eq, nI_1, show s.2 (43 + 21) (96 * (t + 1) + (v - 1)) = pd f g v (v - 1) from hb _ (by omega), show s.2 (43 + 21) (96 * t + v) = g v from ha _ (by omega)]
    exact u1
theorem innerM {a a1 l : Nat} {a2 a4 : Int32} (ha : a ≤ 30) (h1 : a1 ≤ 12) (hl : l ≤ 12) : ∀ (d t fuel : Nat) (s : Sto), t + d = a1 → d < fuel → (∀ j, j ≤ t → RwM s j (VV a l j)) → (∀ j, t < j → j ≤ a1 → RwM s j (XX a l j)) → ∃ u, L9_orders_70 43 (nI a1) a2 a4 (nI l) fuel (nI t) s = some u ∧ u.1 = s.1 ∧ ∀ j, j ≤ a1 → RwM u j (VV a l j) := by
  intro d
  induction d with
  | zero =>
    intro t fuel s e F hv hp
    obtain ⟨q, rfl⟩ : ∃ q, fuel = q + 1 := ⟨fuel - 1, by omega⟩
    have : t = a1 := by omega
    subst this
    refine ⟨s, ?_, rfl, hv⟩
    unfold L9_orders_70
    rw [if_pos (Int32.le_refl _)]
  | succ d ih =>
    intro t fuel s e F hv hp
    obtain ⟨q, rfl⟩ : ∃ q, fuel = q + 1 := ⟨fuel - 1, by omega⟩
    obtain ⟨u, u1, u2, u3, u4⟩ := dropM_loop (t := t) (f := XX a l (t + 1)) (g := VV a l t) (a1 := nI a1) (a2 := a2) (a4 := a4) (a5 := nI l) (by omega) 96 0 FU s (by omega) (by decide) (fun h hh => by
      rw [hp (t + 1) (by omega) (by omega) h hh]; unfold pd
      by_cases h0 : h = 0
      · subst h0; rfl
      · rw [if_neg h0, if_neg (by omega)]) (hv t (Nat.le_refl _))
    rw [show nI 0 = 0 from rfl] at u1
    obtain ⟨v, v1, v2, v3⟩ := ih (t + 1) q u (by omega) (by omega) (fun j hj h hh => by
      by_cases c : j = t + 1
      · subst c
        rw [u3 h hh, pd_end (by omega) (VV_0 l t 96 (by omega)) hh, VV_X]; rfl
      · rw [u4 _ (by omega)]; exact hv j (by omega) h hh) (fun j x y h hh => by rw [u4 _ (by omega)]; exact hp j (by omega) y h hh)
    refine ⟨v, ?_, v2.trans u2, v3⟩
    unfold L9_orders_70
    rw [if_neg (nI_ge (by omega) (by omega)), u1, bd1_some, nI_1]
    exact v1
theorem outerM {a a1 a2 : Nat} {a4 : Int32} (ha : a ≤ 30) (h1 : a1 ≤ 12) (h2 : a2 ≤ 12) : ∀ (d l fuel : Nat) (s : Sto), l + d = a2 → d + 1 < fuel → (∀ j, j ≤ a1 → RwM s j (XX a l j)) → ∃ u, L9_orders_61 43 (nI a1) (nI a2) a4 fuel (nI l) s = some u ∧ u.1 = s.1 ∧ ∀ j, j ≤ a1 → RwM u j (VV a a2 j) := by
  intro d
  induction d with
  | zero =>
    intro l fuel s e F hp
    obtain ⟨q, rfl⟩ : ∃ q, fuel = q + 2 := ⟨fuel - 2, by omega⟩
    have : l = a2 := by omega
    subst this
    obtain ⟨u, u1, u2, u3⟩ := innerM (a2 := nI l) (a4 := a4) ha h1 h2 a1 0 FU s (by omega) (by unfold FU; omega) (fun j hj => by rw [show j = 0 by omega, VV_X]; exact hp 0 (by omega)) (fun j _ y => hp j y)
    rw [show nI 0 = 0 from rfl] at u1
    refine ⟨u, ?_, u2, u3⟩
    unfold L9_orders_61
    rw [if_neg (nI_nlt (by omega) (by omega)), u1, bd1_some, if_pos (Int32.le_refl _), nI_1]
    unfold L9_orders_61
    rw [if_pos (nI_lt (by omega) (by omega))]
  | succ d ih =>
    intro l fuel s e F hp
    obtain ⟨q, rfl⟩ : ∃ q, fuel = q + 1 := ⟨fuel - 1, by omega⟩
    obtain ⟨u, u1, u2, u3⟩ := innerM (a2 := nI a2) (a4 := a4) ha h1 (show l ≤ 12 by omega) a1 0 FU s (by omega) (by unfold FU; omega) (fun j hj => by rw [show j = 0 by omega, VV_X]; exact hp 0 (by omega)) (fun j _ y => hp j y)
    rw [show nI 0 = 0 from rfl] at u1
    obtain ⟨w, w1, w2, w3⟩ := raiseM_rows (f := VV a l) h1 (a1 + 1) 0 FU u (by omega) (by unfold FU; omega) (fun j hj => by omega) (fun j _ y => u3 j y)
    rw [show nI 0 = 0 from rfl] at w1
    obtain ⟨v, v1, v2, v3⟩ := ih (l + 1) q w (by omega) (by omega) w3
    refine ⟨v, ?_, (v2.trans w2).trans u2, v3⟩
    unfold L9_orders_61
    rw [if_neg (nI_nlt (by omega) (by omega)), u1, bd1_some, if_neg (nI_ge (by omega) (by omega)), nI_1]
    unfold f9_raise
    rw [if_pos kd_43, w1, bd1_some, bd1_some]
    exact v1
theorem wipeM {a1 a2 a3 a4 : Int32} : ∀ (d j fuel : Nat) (s : Sto), j + d = 1248 → d < fuel → ∃ u, L9_orders_29 43 a1 a2 a3 a4 fuel (nI j) s = some u ∧ u.1 = s.1 ∧ ∀ p, p < 1248 → u.2 64 p = if j ≤ p then 0 else s.2 64 p := by
  intro d
  induction d with
  | zero =>
    intro j fuel s e F
    obtain ⟨q, rfl⟩ : ∃ q, fuel = q + 1 := ⟨fuel - 1, by omega⟩
    have : j = 1248 := by omega
    subst this
    refine ⟨s, ?_, rfl, fun p hp => by rw [if_neg (by omega)]⟩
    unfold L9_orders_29
    rw [if_pos (by decide)]
  | succ d ih =>
    intro j fuel s e F
    obtain ⟨q, rfl⟩ : ∃ q, fuel = q + 1 := ⟨fuel - 1, by omega⟩
    have b1 : inb (nI j) (ln (43 + 21)) := inb_nI (n := j) (m := 1248) (by omega) (by omega)
    obtain ⟨u, u1, u2, u3⟩ := ih (j + 1) q (stL s 64 j 0) (by omega) (by omega)
    refine ⟨u, ?_, u2, fun p hp => ?_⟩
    · unfold L9_orders_29
      rw [if_neg (show ¬ (1248 : Int32) ≤ nI j from nI_ge (b := 1248) (by omega) (by omega)), if_pos b1, nI_clamp (by omega), nm_eq, nI_1]
      exact u1
    · rw [u3 p hp, stL_get]
      by_cases c : p = j
      · subst c; simp
      · by_cases c2 : j + 1 ≤ p
        · rw [if_pos c2, if_pos (by omega)]
        · rw [if_neg c2, if_neg (fun z => c z.2), if_neg (by omega)]
theorem op_orders {s : Sto} (h : RR s) (a b c d : Int32) : ∃ r s1 s2, f8_orders 0 a b c d s = some (r, s1) ∧ f9_orders 43 a b c d s1 = some (r, s2) ∧ RR s2 := by
  rcases rng (v := a) (a := 0) (b := 12) with hr | ⟨hr, g1, g2⟩
  · exact ⟨_, s, s, by simp [f8_orders, f8_areOrders, e_isWithin, bd2_some, kd_0, hr]; rfl, by simp [f9_orders, f9_areRemarks, e9_in_0_12, bd2_some, kd_43, hr], h⟩
  rcases rng (v := b) (a := 0) (b := 12) with hq | ⟨hq, g3, g4⟩
  · exact ⟨_, s, s, by simp [f8_orders, f8_areOrders, e_isWithin, bd2_some, kd_0, hr, hq]; rfl, by simp [f9_orders, f9_areRemarks, e9_in_0_12, bd2_some, kd_43, hr, hq], h⟩
  rcases rng (v := c) (a := 0) (b := 30) with hs | ⟨hs, g5, g6⟩
  · exact ⟨_, s, s, by simp [f8_orders, f8_areOrders, e_isWithin, bd2_some, kd_0, hr, hq, hs]; rfl, by simp [f9_orders, f9_areRemarks, e9_in_0_12, e9_in_0_30, bd2_some, kd_43, hr, hq, hs], h⟩
  rcases rng (v := d) (a := 0) (b := 50) with ht | ⟨ht, g7, g8⟩
  · exact ⟨_, s, s, by simp [f8_orders, f8_areOrders, e_isWithin, bd2_some, kd_0, hr, hq, hs, ht]; rfl, by simp [f9_orders, f9_areRemarks, e9_in_0_12, e9_in_0_30, e9_in_0_50, bd2_some, kd_43, hr, hq, hs, ht], h⟩
  obtain ⟨x, hx, rfl⟩ := nI_of2 (n := 12) (by decide) g1 g2
  obtain ⟨y, hy, rfl⟩ := nI_of2 (n := 12) (by decide) g3 g4
  obtain ⟨z, hz, rfl⟩ := nI_of2 (n := 30) (by decide) g5 g6
  obtain ⟨w, hw, rfl⟩ := nI_of2 (n := 50) (by decide) g7 g8
  obtain ⟨t, t1, t2⟩ := e_ending (s := s) hz hx hy hw
  obtain ⟨u, u1, u2, u3⟩ := wipeM (a1 := nI x) (a2 := nI y) (a3 := nI z) (a4 := nI w) 1248 0 FU t (by omega) (by decide)
  rw [show nI 0 = 0 from rfl] at u1
  obtain ⟨v, v1, v2, v3⟩ := outerM (a4 := nI w) hz hx hy y 0 FU (stL u 64 z 1) (by omega) (by unfold FU; omega) (fun j hj h hh => by
    rw [stL_get]
    show _ = X0 z j h
    unfold X0
    by_cases e : j = 0 ∧ h = z
    · rw [if_pos e, if_pos ⟨rfl, by omega⟩]
    · rw [if_neg e, if_neg (by omega), u3 _ (by omega), if_pos (by omega)])
  rw [show nI 0 = 0 from rfl] at v1
  have b1 : inb (nI z) (ln (43 + 21)) := inb_nI (n := z) (m := 1248) (by omega) (by omega)
  have b2 : inb (nI (96 * x + w)) (ln (43 + 21)) := inb_nI (n := 96 * x + w) (m := 1248) (by omega) (by omega)
  refine ⟨VV z y x w, t, v, ?_, ?_, (h.two t2).two (v2.trans u2)⟩
  · unfold f8_orders f8_areOrders
    rw [if_pos kd_0, e_isWithin, bd2_some, hr, if_neg (by decide), e_isWithin, bd2_some, hq, if_neg (by decide), e_isWithin, bd2_some, hs, if_neg (by decide), bd2_some, if_neg (by decide), e_isWithin, bd2_some, ht, if_neg (by decide), show (0 + 39) = 39 from rfl, t1, bd2_some]
  · unfold f9_orders f9_areRemarks
    rw [if_pos kd_43, e9_in_0_12, bd2_some, hr, if_neg (by decide), e9_in_0_12, bd2_some, hq, if_neg (by decide), e9_in_0_30, bd2_some, hs, if_neg (by decide), bd2_some, if_neg (by decide), e9_in_0_50, bd2_some, ht, if_neg (by decide), u1, bd1_some, if_pos b1, nI_clamp (by omega), nm_eq, show stL u (43 + 21) z 1 = stL u 64 z 1 from rfl, v1, bd1_some, k96, if_pos b2, nI_clamp (by omega), show v.2 (43 + 21) (96 * x + w) = VV z y x w from v3 x (Nat.le_refl _) w (by omega)]
