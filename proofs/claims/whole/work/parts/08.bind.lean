theorem bd1_inv {α β : Type} {x : Option α} {f : α → Option β} {b : β} (h : x.bind f = some b) : ∃ a, x = some a ∧ f a = some b := by
  cases x with
  | none => cases h
  | some a => exact ⟨a, rfl, h⟩
def bd2 {α β γ : Type} (x : Option (α × β)) (f : α → β → Option γ) : Option γ := match x with
  | some (a, b) => f a b
  | none => none
def bd3 {α β γ δ : Type} (x : Option (α × β × γ)) (f : α → β → γ → Option δ) : Option δ := match x with
  | some (a, b, c) => f a b c
  | none => none
def bd4 {α β γ δ ε : Type} (x : Option (α × β × γ × δ)) (f : α → β → γ → δ → Option ε) : Option ε := match x with
  | some (a, b, c, d) => f a b c d
  | none => none
def bd5 {α β γ δ ε ζ : Type} (x : Option (α × β × γ × δ × ε)) (f : α → β → γ → δ → ε → Option ζ) : Option ζ := match x with
  | some (a, b, c, d, e) => f a b c d e
  | none => none
theorem bd2_inv {α β γ : Type} {x : Option (α × β)} {f : α → β → Option γ} {r : γ} (h : bd2 x f = some r) : ∃ a b, x = some (a, b) ∧ f a b = some r := by
  cases x with
  | none => cases h
  | some a => exact ⟨_, _, rfl, h⟩
theorem bd3_inv {α β γ δ : Type} {x : Option (α × β × γ)} {f : α → β → γ → Option δ} {r : δ} (h : bd3 x f = some r) : ∃ a b c, x = some (a, b, c) ∧ f a b c = some r := by
  cases x with
  | none => cases h
  | some a => exact ⟨_, _, _, rfl, h⟩
theorem bd4_inv {α β γ δ ε : Type} {x : Option (α × β × γ × δ)} {f : α → β → γ → δ → Option ε} {r : ε} (h : bd4 x f = some r) : ∃ a b c d, x = some (a, b, c, d) ∧ f a b c d = some r := by
  cases x with
  | none => cases h
  | some a => exact ⟨_, _, _, _, rfl, h⟩
theorem bd5_inv {α β γ δ ε ζ : Type} {x : Option (α × β × γ × δ × ε)} {f : α → β → γ → δ → ε → Option ζ} {r : ζ} (h : bd5 x f = some r) : ∃ a b c d e, x = some (a, b, c, d, e) ∧ f a b c d e = some r := by
  cases x with
  | none => cases h
  | some a => exact ⟨_, _, _, _, _, rfl, h⟩
theorem bd2_some {α β γ : Type} {a : α} {b : β} {f : α → β → Option γ} : bd2 (some (a, b)) f = f a b := rfl
theorem bd3_some {α β γ δ : Type} {a : α} {b : β} {c : γ} {f : α → β → γ → Option δ} : bd3 (some (a, b, c)) f = f a b c := rfl
theorem bd4_some {α β γ δ ε : Type} {a : α} {b : β} {c : γ} {d : δ} {f : α → β → γ → δ → Option ε} : bd4 (some (a, b, c, d)) f = f a b c d := rfl
theorem bd5_some {α β γ δ ε ζ : Type} {a : α} {b : β} {c : γ} {d : δ} {e : ε} {f : α → β → γ → δ → ε → Option ζ} : bd5 (some (a, b, c, d, e)) f = f a b c d e := rfl
theorem gd_inv {c : Prop} {β : Type} [Decidable c] {x : Option β} {b : β} (h : (if c then x else none) = some b) : c ∧ x = some b := by
  by_cases hc : c
  · exact ⟨hc, by rwa [if_pos hc] at h⟩
  · rw [if_neg hc] at h; cases h
theorem it_pos {c : Prop} {β : Type} [Decidable c] {x y : Option β} {b : β} (hc : c) (h : (if c then x else y) = some b) : x = some b := by rwa [if_pos hc] at h
theorem it_neg {c : Prop} {β : Type} [Decidable c] {x y : Option β} {b : β} (hc : ¬ c) (h : (if c then x else y) = some b) : y = some b := by rwa [if_neg hc] at h
/-- how often a loop may turn, at the most -/
def FU : Nat := 2000
/-- a value with a name -/
def nm {α β : Type} (x : α) (f : α → β) : β := f x
theorem nm_inv {α β : Type} {x : α} {f : α → Option β} {r : β} (h : nm x f = some r) : ∃ y, y = x ∧ f y = some r := ⟨x, rfl, h⟩
section NM
variable {φ : Fr} {ad : Nat → Nat} {pc : Nat} {lv : List (Nat × Value)} {st : List Value} {σ s1 : Sto}
theorem w_nm (e : s1 = σ) (K : wpm φ ad pc lv st s1) : wpm φ ad pc lv st σ := e ▸ K
theorem w_nmi {x x1 : Int32} (e : x1 = x) (K : wpm φ ad pc lv (.int x1 :: st) σ) : wpm φ ad pc lv (.int x :: st) σ := e ▸ K
theorem w_nml {x x1 : Int64} (e : x1 = x) (K : wpm φ ad pc lv (.long x1 :: st) σ) : wpm φ ad pc lv (.long x :: st) σ := e ▸ K
end NM
theorem lsw_ne {x : Int32} {k : Int} (c : ¬ x = Int32.ofInt k) : ¬ k = x.toInt := fun h => c (by rw [h]; exact (Int32.ofInt_toInt x).symm)
