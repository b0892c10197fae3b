def omin : Option Nat → Option Nat → Option Nat
  | none, c => c
  | some a, none => some a
  | some a, some b => if a ≤ b then some a else some b
def ocs : Option Nat → Option Nat → Option Nat
  | some a, some b => some (a + b)
  | none, _ => none
  | some _, none => none
def foO (cost : Nat → Option Nat) : Nat → Nat → Option Nat → Option Nat
  | 0, _, b => b
  | d + 1, k, b => foO cost d (k + 1) (omin b (cost k))
/-- how many rows from the bottom are there already -/
def auN (Q : Nat → Bool) : Nat → Nat → Nat
  | 0, i => i
  | d + 1, i => if Q i = true then auN Q d (i + 1) else i
theorem auN_spec {Q : Nat → Bool} : ∀ d i, i ≤ auN Q d i ∧ auN Q d i ≤ i + d ∧ (∀ j, i ≤ j → j < auN Q d i → Q j = true) ∧ (auN Q d i < i + d → Q (auN Q d i) = false) := by
  intro d
  induction d with
  | zero => intro i; exact ⟨Nat.le_refl _, Nat.le_refl _, fun j a b => by simp [auN] at b; omega, fun a => by simp [auN] at a⟩
  | succ d ih =>
    intro i
    obtain ⟨a1, a2, a3, a4⟩ := ih (i + 1)
    unfold auN
    cases e : Q i with
    | false => exact ⟨by simp, by simp, fun j a b => by simp at b; omega, fun _ => by simpa using e⟩
    | true =>
      rw [if_pos rfl]
      refine ⟨by omega, by omega, fun j a b => ?_, fun h => a4 (by omega)⟩
      by_cases c : j = i
      · rw [c]; exact e
      · exact a3 j (by omega) b
def alQ (f g C K : Nat → Int32) (h n j : Nat) : Bool := decide (j < n ∧ j < h ∧ f j = C j ∧ g j = K j)
def auA (f g C K : Nat → Int32) (h n : Nat) : Nat := auN (alQ f g C K h n) 31 0
theorem auA_spec {f g C K : Nat → Int32} {h n : Nat} (hn : n ≤ 30) : auA f g C K h n ≤ n ∧ auA f g C K h n ≤ h ∧ (∀ j, j < auA f g C K h n → f j = C j ∧ g j = K j) ∧ (n = auA f g C K h n ∨ h = auA f g C K h n ∨ ¬ (f (auA f g C K h n) = C (auA f g C K h n) ∧ g (auA f g C K h n) = K (auA f g C K h n))) := by
  obtain ⟨a1, a2, a3, a4⟩ := auN_spec (Q := alQ f g C K h n) 31 0
  have q : ∀ j, j < auA f g C K h n → j < n ∧ j < h ∧ f j = C j ∧ g j = K j := fun j hj => by
    have := a3 j (by omega) hj
    simpa [alQ] using this
  have l1 : auA f g C K h n ≤ n := by
    rcases Nat.lt_or_ge n (auA f g C K h n) with z | z
    · have := (q n z).1; omega
    · exact z
  have l2 : auA f g C K h n ≤ h := by
    rcases Nat.lt_or_ge h (auA f g C K h n) with z | z
    · have := (q h z).2.1; omega
    · exact z
  refine ⟨l1, l2, fun j hj => (q j hj).2.2, ?_⟩
  have z := a4 (show auN (alQ f g C K h n) 31 0 < 0 + 31 from by unfold auA at l1; omega)
  have z : ¬ (auA f g C K h n < n ∧ auA f g C K h n < h ∧ f (auA f g C K h n) = C (auA f g C K h n) ∧ g (auA f g C K h n) = K (auA f g C K h n)) := by simpa [alQ, auA] using z
  by_cases x1 : n = auA f g C K h n
  · exact Or.inl x1
  · by_cases x2 : h = auA f g C K h n
    · exact Or.inr (Or.inl x2)
    · exact Or.inr (Or.inr (fun x3 => z ⟨by omega, by omega, x3⟩))
def csO (f tm C K : Nat → Int32) (h w n k : Nat) : Option Nat := ocs (dnO f tm h k) (upO C K tm w n k)
def moO (f g tm C K : Nat → Int32) (h w n : Nat) : Option Nat := foO (csO f tm C K h w n) (auA f g C K h n + 1) 0 none
theorem csO_b {f tm C K : Nat → Int32} {h w n k : Nat} (hh : h ≤ 30) (hn : n ≤ 30) : bnd (csO f tm C K h w n k) := by
  intro y e
  unfold csO at e
  cases a : dnO f tm h k with
  | none => rw [a] at e; cases e
  | some x =>
    cases b : upO C K tm w n k with
    | none => rw [a, b] at e; cases e
    | some z =>
      rw [a, b] at e
      have l1 : x ≤ 60 := by
        unfold dnO at a
        have p := AA_le f (h - k) k
        have q := BB_le f (h - k) k
        split at a
        · simp only [Option.some.injEq] at a; omega
        · cases a
      have l2 := upO_b hn _ b
      simp only [ocs, Option.some.injEq] at e
      omega
theorem omin_b {a b : Option Nat} (ha : bnd a) (hb : bnd b) : bnd (omin a b) := by
  intro n e
  cases a with
  | none => exact hb n e
  | some x =>
    cases b with
    | none => exact ha n e
    | some y =>
      simp only [omin] at e
      split at e
      · exact ha n e
      · exact hb n e
theorem e_already {s : Sto} {h w P k : Nat} {f g tm C K : Nat → Int32} (hs : MkC s h w P f g tm C K) (hk : k < P) : f8_isThereAlready 0 (nI k) s = some (if f k = C k ∧ g k = K k then 1 else 0, s) := by
  obtain ⟨⟨h3, h4⟩, hf, hg, ht, hp, hr, hh, hw, hP⟩ := hs
  unfold f8_isThereAlready
  rw [if_pos kd_0, e_col hf (by omega), bd2_some, at35 (by omega), bd2_some, (hp k hk).1]
  by_cases a : f k = C k
  · rw [if_pos a, e_kin hg (by omega), bd2_some, at36 (by omega), bd2_some, (hp k hk).2]
    by_cases b : g k = K k
    · rw [if_pos b, if_pos ⟨a, b⟩]
    · rw [if_neg b, if_neg (fun z => b z.2)]
  · rw [if_neg a, if_neg (fun z => a z.1)]
theorem few_loop {s : Sto} {h w P n : Nat} {f g tm C K : Nat → Int32} (hs : MkC s h w P f g tm C K) (hn : n ≤ P) : ∀ (d k fuel : Nat) (b : Option Nat), k + d = auA f g C K h n + 1 → d < fuel → bnd b → L8_fewestRemarks_5 0 (nI n) fuel (eC b) (nI k) s = some (eC (foO (csO f tm C K h w n) d k b), s) := by
  have hP : P ≤ 30 := hs.2.2.2.2.2.2.2.2
  have hh : h ≤ 30 := hs.2.2.2.2.2.2.1
  have h3 : s.1 ((0 + 1) + 2) 3 = nI h := hs.1.1
  obtain ⟨l1, l2, l3, l4⟩ := auA_spec (f := f) (g := g) (C := C) (K := K) (h := h) (n := n) (by omega)
  intro d
  induction d with
  | zero =>
    intro k fuel b e F hb
    obtain ⟨q, rfl⟩ : ∃ q, fuel = q + 1 := ⟨fuel - 1, by omega⟩
    unfold L8_fewestRemarks_5
    rw [h3]
    by_cases x1 : n < k
    · rw [if_pos (nI_lt x1 (by omega))]; rfl
    · rw [if_neg (nI_nlt (by omega) (by omega))]
      by_cases x2 : h < k
      · rw [if_pos (nI_lt x2 (by omega))]; rfl
      · have k1 : nI k - 1 = nI (k - 1) := by rw [show k = (k - 1) + 1 by omega, nI_pred, Nat.add_sub_cancel]
        rw [if_neg (nI_nlt (by omega) (by omega)), if_neg (nI_nle (by omega) (by omega)), k1, e_already hs (by omega), bd2_some]
        rw [show auA f g C K h n = k - 1 by omega] at l4
        rcases l4 with l4 | l4 | l4
        · omega
        · omega
        · rw [if_neg l4, if_pos rfl]; rfl
  | succ d ih =>
    intro k fuel b e F hb
    obtain ⟨q, rfl⟩ : ∃ q, fuel = q + 1 := ⟨fuel - 1, by omega⟩
    have cb := csO_b (f := f) (tm := tm) (C := C) (K := K) (h := h) (w := w) (n := n) (k := k) hh (by omega)
    have go := ih (k + 1) q (omin b (csO f tm C K h w n k)) (by omega) (by omega) (omin_b hb cb)
    have fin : (if eC (dnO f tm h k) = (-6 : Int32) then L8_fewestRemarks_5 0 (nI n) q (eC b) (nI (k + 1)) s else if eC (upO C K tm w n k) = (-6 : Int32) then L8_fewestRemarks_5 0 (nI n) q (eC b) (nI (k + 1)) s else if eC b = (-6 : Int32) then L8_fewestRemarks_5 0 (nI n) q (eC (dnO f tm h k) + eC (upO C K tm w n k)) (nI (k + 1)) s else if eC b ≤ eC (dnO f tm h k) + eC (upO C K tm w n k) then L8_fewestRemarks_5 0 (nI n) q (eC b) (nI (k + 1)) s else L8_fewestRemarks_5 0 (nI n) q (eC (dnO f tm h k) + eC (upO C K tm w n k)) (nI (k + 1)) s) = some (eC (foO (csO f tm C K h w n) (d + 1) k b), s) := by
      show _ = some (eC (foO (csO f tm C K h w n) d (k + 1) (omin b (csO f tm C K h w n k))), s)
      rw [← go]
      have db := dnO_b (f := f) (tm := tm) (h := h) (k := k) hh
      have ub := upO_b (C := C) (K := K) (tm := tm) (w := w) (n := n) (k := k) (by omega)
      unfold csO at cb ⊢
      cases e1 : dnO f tm h k with
      | none => rw [if_pos (show eC none = (-6 : Int32) from rfl)]; cases b <;> rfl
      | some x =>
        have lx := db x e1
        rw [if_neg (eC_n (by omega))]
        cases e2 : upO C K tm w n k with
        | none => rw [if_pos (show eC none = (-6 : Int32) from rfl)]; cases b <;> rfl
        | some y =>
          have ly := ub y e2
          rw [if_neg (eC_n (by omega))]
          have ea : eC (some x) + eC (some y) = nI (x + y) := nI_add x y
          rw [ea]
          cases b with
          | none => rw [if_pos (show eC none = (-6 : Int32) from rfl)]; rfl
          | some z =>
            have lz := hb z rfl
            rw [if_neg (eC_n (by omega))]
            show (if nI z ≤ nI (x + y) then _ else _) = _
            by_cases c : z ≤ x + y
            · rw [if_pos (nI_le c (by omega))]; simp only [ocs, omin, if_pos c]
            · rw [if_neg (nI_ge (by omega) (by omega))]; simp only [ocs, omin, if_neg c]; rfl
    unfold L8_fewestRemarks_5
    rw [h3, if_neg (nI_nlt (by omega) (by omega)), if_neg (nI_nlt (by omega) (by omega))]
    by_cases k0 : k = 0
    · rw [if_pos (show nI k ≤ 0 by rw [k0]; decide), e_down hs (by omega), bd2_some, e_up hs hn (by omega), bd2_some, nI_1]
      exact fin
    · have k1 : nI k - 1 = nI (k - 1) := by rw [show k = (k - 1) + 1 by omega, nI_pred, Nat.add_sub_cancel]
      rw [if_neg (nI_nle (by omega) (by omega)), k1, e_already hs (by omega), bd2_some, if_pos (l3 (k - 1) (by omega)), if_neg (by decide), e_down hs (by omega), bd2_some, e_up hs hn (by omega), bd2_some, nI_1]
      exact fin
theorem e_fewest {s : Sto} {h w P n : Nat} {f g tm C K : Nat → Int32} (hs : MkC s h w P f g tm C K) (hn : n ≤ P) : f8_fewestRemarks 0 (nI n) s = some (eC (moO f g tm C K h w n), s) := by
  have hP : P ≤ 30 := hs.2.2.2.2.2.2.2.2
  obtain ⟨l1, l2, l3, l4⟩ := auA_spec (f := f) (g := g) (C := C) (K := K) (h := h) (n := n) (by omega)
  unfold f8_fewestRemarks
  have := few_loop hs hn (auA f g C K h n + 1) 0 FU none (by omega) (by unfold FU; omega) (fun n e => by cases e)
  rw [show nI 0 = 0 from rfl] at this
  rw [if_pos kd_0, show (-6 : Int32) = eC none from rfl, this, bd2_some]
  rfl
