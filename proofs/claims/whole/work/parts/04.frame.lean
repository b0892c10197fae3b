-- the cells of the class and of its check: 67, numbered; what kind each is of (0 to 9 an object of that class of cls; 10 ints, 11 longs, 12 booleans) and how long
def layL : List (Nat × Nat) := [(8, 0), (0, 0), (10, 6), (2, 0), (10, 30), (10, 30), (10, 30), (10, 8), (10, 8), (0, 0), (10, 6), (2, 0), (10, 30), (10, 30), (10, 30), (10, 8), (10, 8), (0, 0), (10, 6), (2, 0), (10, 30), (10, 30), (10, 30), (10, 8), (10, 8), (5, 0), (10, 60), (1, 0), (10, 60), (10, 61), (2, 0), (10, 30), (10, 30), (10, 30), (6, 0), (10, 60), (10, 60), (7, 0), (10, 8), (4, 0), (11, 559), (3, 0), (11, 83), (9, 0), (10, 6), (10, 30), (10, 30), (10, 30), (10, 8), (10, 8), (10, 60), (10, 60), (10, 60), (10, 60), (10, 60), (10, 60), (10, 60), (10, 30), (10, 92), (10, 90), (10, 31), (10, 8), (11, 96), (11, 96), (11, 1248), (10, 260), (12, 2)]
def kd (k : Nat) : Nat := (layL.getD k (99, 0)).1
def ln (k : Nat) : Nat := (layL.getD k (99, 0)).2
-- a class's fields in the order of its slots: an int (none), or the cell so many places behind the object
def fldL : List (List (Option Nat)) := [[none, none, some 1, some 2, none, some 6, some 7, none], [some 1, none, some 2, some 3, none, none], [some 1, some 2, some 3, none, none, none, none, none], [some 1], [some 1], [some 1, none], [some 1, some 2, none], [none, none, none, none, some 1], [some 1, some 9, some 17, some 25, some 27, some 34, some 37, some 39, some 41], [none, none, some 1, none, none, some 2, some 3, some 4, some 5, some 6, none, some 7, none, some 8, some 9, some 10, some 11, none, some 12, some 13, none, none, none, none, none, none, some 14, some 15, none, none, none, some 16, none, none, some 17, none, none, none, none, some 18, some 19, some 20, some 21, some 22, some 23, none, none]]
def fo (c j : Nat) : Option Nat := (fldL.getD c []).getD j none
def fn (c : Nat) : Nat := (fldL.getD c []).length
abbrev cls : List vw_C := [(RX0, TX0, 8), (RX1, TX1, 6), (RX2, TX2, 8), (RX3, TX3, 1), (RX4, TX4, 1), (RX5, TX5, 2), (RX6, TX6, 3), (RX7, TX7, 5), (RX8, TX8, 9), (RX9, TX9, 47)]
-- what the cells hold: ints by cell and place, longs by cell and place
abbrev Sto : Type := (Nat → Nat → Int32) × (Nat → Nat → Int64)
def stI (σ : Sto) (k j : Nat) (v : Int32) : Sto := (fun a => if a = k then (fun b => if b = j then v else σ.1 k b) else σ.1 a, σ.2)
def stL (σ : Sto) (k j : Nat) (v : Int64) : Sto := (σ.1, fun a => if a = k then (fun b => if b = j then v else σ.2 k b) else σ.2 a)
def stC (σ : Sto) (a b n : Nat) : Sto := (fun q => if q = b then va_cpy (σ.1 a) (σ.1 b) 0 0 n else σ.1 q, σ.2)
def fv (ad : Nat → Nat) (σ : Sto) (k j : Nat) : Value := match fo (kd k) j with
  | none => .int (σ.1 k j)
  | some d => .ref (ad (k + d))
abbrev C3 : Type := ClassId × ClassId × ClassId
def Ec (ad : Nat → Nat) (cc : C3) (σ : Sto) (k : Nat) : va_E :=
  if kd k ≤ 9 then .inr (kd k, (List.range (fn (kd k))).map (fv ad σ k))
  else if kd k = 10 then .inl (cc.1, ln k, .inl (σ.1 k))
  else if kd k = 11 then .inl (cc.2.1, ln k, .inr (.inl (σ.2 k)))
  else .inl (cc.2.2, ln k, .inl (σ.1 k))
def wv (ad : Nat → Nat) (cc : C3) (σ : Sto) : va_W := (List.range 67).map (fun k => (ad k, Ec ad cc σ k))
theorem layL_len : layL.length = 67 := by decide +kernel
theorem kd_lt {k : Nat} (h : kd k ≤ 12) : k < 67 := by
  by_cases hk : k < 67
  · exact hk
  · exfalso
    unfold kd at h
    rw [List.getD_eq_getElem?_getD, List.getElem?_eq_none (by rw [layL_len]; omega)] at h
    exact absurd h (by decide)
theorem wv_get {ad : Nat → Nat} {cc : C3} {σ : Sto} {k : Nat} (h : k < 67) : (wv ad cc σ)[k]? = some (ad k, Ec ad cc σ k) := by
  unfold wv
  rw [List.getElem?_map, List.getElem?_range h]; rfl
theorem wv_obj {ad : Nat → Nat} {cc : C3} {σ : Sto} {k c : Nat} (h : kd k = c) (hc : c ≤ 9) : (wv ad cc σ)[k]? = some (ad k, .inr (c, (List.range (fn c)).map (fv ad σ k))) := by
  rw [wv_get (kd_lt (by omega))]
  subst h
  rw [Ec, if_pos hc]
theorem wv_int {ad : Nat → Nat} {cc : C3} {σ : Sto} {k : Nat} (h : kd k = 10) : (wv ad cc σ)[k]? = some (ad k, .inl (cc.1, ln k, .inl (σ.1 k))) := by
  rw [wv_get (kd_lt (by omega)), Ec, if_neg (by omega), if_pos h]
theorem wv_lng {ad : Nat → Nat} {cc : C3} {σ : Sto} {k : Nat} (h : kd k = 11) : (wv ad cc σ)[k]? = some (ad k, .inl (cc.2.1, ln k, .inr (.inl (σ.2 k)))) := by
  rw [wv_get (kd_lt (by omega)), Ec, if_neg (by omega), if_neg (by omega), if_pos h]
theorem wv_boo {ad : Nat → Nat} {cc : C3} {σ : Sto} {k : Nat} (h : kd k = 12) : (wv ad cc σ)[k]? = some (ad k, .inl (cc.2.2, ln k, .inl (σ.1 k))) := by
  rw [wv_get (kd_lt (by omega)), Ec, if_neg (by omega), if_neg (by omega), if_neg (by omega)]
theorem wv_set {ad : Nat → Nat} {cc : C3} {σ σ' : Sto} {k : Nat} {e : va_E} (hk : k < 67) (he : Ec ad cc σ' k = e) (ho : ∀ q, q ≠ k → Ec ad cc σ' q = Ec ad cc σ q) : (wv ad cc σ).set k (ad k, e) = wv ad cc σ' := by
  refine List.ext_getElem? fun i => ?_
  have hlen : (wv ad cc σ).length = 67 := by simp [wv]
  by_cases hi : i < 67
  · rw [wv_get hi]
    by_cases hik : i = k
    · subst hik
      rw [List.getElem?_set_self (by omega), he]
    · rw [List.getElem?_set_ne (Ne.symm hik), wv_get hi, ho i hik]
  · rw [List.getElem?_eq_none (by simp [wv]; omega), List.getElem?_eq_none (by simp [wv]; omega)]
theorem Ec_ne {ad : Nat → Nat} {cc : C3} {σ σ' : Sto} {q : Nat} (h1 : σ'.1 q = σ.1 q) (h2 : σ'.2 q = σ.2 q) : Ec ad cc σ' q = Ec ad cc σ q := by
  have hf : fv ad σ' q = fv ad σ q := by
    funext j
    unfold fv
    rw [h1]
  unfold Ec
  rw [h1, h2, hf]
theorem stI_ne {σ : Sto} {k j q : Nat} {v : Int32} (h : q ≠ k) : (stI σ k j v).1 q = σ.1 q := by simp [stI, h]
theorem stI_2 {σ : Sto} {k j q : Nat} {v : Int32} : (stI σ k j v).2 q = σ.2 q := rfl
theorem stI_self {σ : Sto} {k j : Nat} {v : Int32} : (stI σ k j v).1 k = fun b => if b = j then v else σ.1 k b := by simp [stI]
theorem stL_ne {σ : Sto} {k j q : Nat} {v : Int64} (h : q ≠ k) : (stL σ k j v).2 q = σ.2 q := by simp [stL, h]
theorem stL_1 {σ : Sto} {k j q : Nat} {v : Int64} : (stL σ k j v).1 q = σ.1 q := rfl
theorem stL_self {σ : Sto} {k j : Nat} {v : Int64} : (stL σ k j v).2 k = fun b => if b = j then v else σ.2 k b := by simp [stL]
theorem wv_stO {ad : Nat → Nat} {cc : C3} {σ : Sto} {k c j : Nat} {v : Int32} (h : kd k = c) (hc : c ≤ 9) (hj : j < fn c) (hf : fo c j = none) : (wv ad cc σ).set k (ad k, .inr (c, ((List.range (fn c)).map (fv ad σ k)).set j (.int v))) = wv ad cc (stI σ k j v) := by
  refine wv_set (kd_lt (by omega)) ?_ fun q hq => Ec_ne (stI_ne hq) stI_2
  subst h
  rw [Ec, if_pos hc]
  congr 2
  refine List.ext_getElem? fun i => ?_
  by_cases hi : i < fn (kd k)
  · rw [List.getElem?_map, List.getElem?_range hi]
    by_cases hij : i = j
    · subst hij
      rw [List.getElem?_set_self (by simpa using hi)]
      show some (fv ad (stI σ k i v) k i) = _
      unfold fv
      rw [hf, stI_self]
      simp
    · rw [List.getElem?_set_ne (Ne.symm hij), List.getElem?_map, List.getElem?_range hi]
      show some (fv ad (stI σ k j v) k i) = some (fv ad σ k i)
      unfold fv
      rw [stI_self]
      simp [hij]
  · rw [List.getElem?_eq_none (by simpa using hi), List.getElem?_eq_none (by simpa using hi)]
theorem wv_stA {ad : Nat → Nat} {cc : C3} {σ : Sto} {k j : Nat} {v : Int32} (h : kd k = 10) : (wv ad cc σ).set k (ad k, .inl (cc.1, ln k, .inl (upd (σ.1 k) j v))) = wv ad cc (stI σ k j v) := by
  refine wv_set (kd_lt (by omega)) ?_ fun q hq => Ec_ne (stI_ne hq) stI_2
  rw [Ec, if_neg (by omega), if_pos h, stI_self]
  rfl
theorem wv_stZ {ad : Nat → Nat} {cc : C3} {σ : Sto} {k j : Nat} {v : Int32} (h : kd k = 12) : (wv ad cc σ).set k (ad k, .inl (cc.2.2, ln k, .inl (upd (σ.1 k) j v))) = wv ad cc (stI σ k j v) := by
  refine wv_set (kd_lt (by omega)) ?_ fun q hq => Ec_ne (stI_ne hq) stI_2
  rw [Ec, if_neg (by omega), if_neg (by omega), if_neg (by omega), stI_self]
  rfl
theorem wv_stL {ad : Nat → Nat} {cc : C3} {σ : Sto} {k j : Nat} {v : Int64} (h : kd k = 11) : (wv ad cc σ).set k (ad k, .inl (cc.2.1, ln k, .inr (.inl (vp_updL (σ.2 k) j v)))) = wv ad cc (stL σ k j v) := by
  refine wv_set (kd_lt (by omega)) ?_ fun q hq => Ec_ne stL_1 (stL_ne hq)
  rw [Ec, if_neg (by omega), if_neg (by omega), if_pos h, stL_self]
  rfl
theorem wv_stC {ad : Nat → Nat} {cc : C3} {σ : Sto} {a k n : Nat} (h : kd k = 10) : (wv ad cc σ).set k (ad k, .inl (cc.1, ln k, .inl (va_cpy (σ.1 a) (σ.1 k) 0 0 n))) = wv ad cc (stC σ a k n) := by
  refine wv_set (kd_lt (by omega)) ?_ fun q hq => Ec_ne (by simp [stC, hq]) rfl
  rw [Ec, if_neg (by omega), if_pos h]
  simp [stC]
-- the tables' words that a call takes on
def lw_gd : List Cond := lw_tbl.filter goodWord
theorem lw_in {w : Cond} (i : Nat) (h : lw_tbl[i]? = some w) (hg : goodWord w = true) : w ∈ lw_gd := List.mem_filter.mpr ⟨List.mem_of_getElem? h, hg⟩
/-- the words of nest mates' calls: they go on by themselves -/
def Nst (U : State) : Prop := ∀ (a : String) (i : Nat) (y : MethodName) (h : String), Cond.methodLinkNest a i y h ∈ lw_tbl → va_Nw (.methodLinkNest a i y h) U
-- a frame of a walk: the machine's names, bundled
abbrev Fr : Type := (Program × Launch × Env × Room × State × MethodId × Array Value × List Frame) × (Method × Code × va_G × C3 × (Nat → Prop) × Heap) × (Nat × Nat × Nat × (State → Prop))
abbrev tysOf (c3 : C3) : List (ClassId × FieldType) := [(c3.1, .int), (c3.2.1, .long), (c3.2.2, .boolean)]
/-- the machine comes from this point, over these cells, to what the frame asks -/
def wpm (φ : Fr) (ad : Nat → Nat) (pc : Nat) (lv : List (Nat × Value)) (st : List Value) (σ : Sto) : Prop := match φ with
  | ((p, l, e, R, s, m, args, below), (meth, c, D, c3, A, H0), (nL, cells, slots, Q)) =>
    ∀ (H : Heap) (locs : List Loc) (ls : Array Slot), va_P D cls (wv ad c3 σ) H → va_S A H0 H locs → lv_has ls nL lv → W p l e R s m args below meth c H locs cells slots Q (F0 m pc ls st)
/-- what holds all the while in a frame -/
def Cx (φ : Fr) (ad : Nat → Nat) (cc : ByteArray) (ret : Option FieldType) (own : String) (n fr lo : Nat) : Prop := match φ with
  | ((p, l, e, R, s, m, args, below), (meth, c, D, c3, A, H0), (nL, cells, slots, Q)) =>
    p.tables.exec = Jvm.exec ∧ c.code = cc ∧ meth.sig.returnType = ret ∧ c.maxLocals = n ∧ nL = n ∧ s.vm.findClass own = some m.cls ∧ (∀ w ∈ lw_gd, w.before args s = true) ∧ meth.locks = false ∧ va_K D cls (tysOf c3) s ∧ (∀ σ, va_D A (wv ad c3 σ)) ∧ (∀ q, H0.size ≤ q → A q) ∧ fr ≤ R.frames ∧ lo ≤ R.locals ∧ cells ≤ R.cells ∧ slots ≤ R.slots ∧ Nst s
/-- a method's end -/
def Qm (D : va_G) (ad : Nat → Nat) (c3 : C3) (A : Nat → Prop) (r : Option Value) (σ' : Sto) : Array Value → State → Outcome → State → Prop := fun _ st oc t => (oc = .returned r ∧ va_P D cls (wv ad c3 σ') t.heap) ∧ va_F A st t
def Fini (φ : Fr) (ad : Nat → Nat) (r : Option Value) (σ' : Sto) : Prop := match φ with
  | ((p, l, e, R, s, m, args, below), (meth, c, D, c3, A, H0), (nL, cells, slots, Q)) => Q = MQ below (Qm D ad c3 A r σ') args s cells slots A ∧ H0 = s.heap
/-- a method's contract over the cells -/
def Ct (y : MethodName) (cc : ByteArray) (n : Nat) (ret : Option FieldType) (fr lo : Nat) (av : (Nat → Nat) → List Value) (σ : Sto) (r : (Nat → Nat) → Option Value) (σ' : Sto) : Prop :=
  ∀ (l : Launch) (D : va_G) (c3 : C3) (ad : Nat → Nat) (sz : Nat), Met l y (.code y cc n ret :: lw_gd) { frames := fr, cells := 0, slots := 0, locals := lo } (va_Pc (av ad) (fun U => U.heap.size = sz ∧ va_P D cls (wv ad c3 σ) U.heap ∧ va_K D cls (tysOf c3) U ∧ va_D (fun _ => True) (wv ad c3 σ) ∧ Nst U)) (Qm D ad c3 (va_A (wv ad c3 σ) sz) (r ad) σ') 0 0 (va_A (wv ad c3 σ) sz)
theorem wv_D {A : Nat → Prop} {ad : Nat → Nat} {c3 : C3} {σ : Sto} (h : va_D A (wv ad c3 σ)) (τ : Sto) : va_D A (wv ad c3 τ) := by
  have key : ∀ (k : Nat) (q : Nat × va_E), (wv ad c3 τ)[k]? = some q → ∃ q', (wv ad c3 σ)[k]? = some q' ∧ q'.1 = q.1 := by
    intro k q hq
    by_cases hk : k < 67
    · rw [wv_get hk] at hq
      cases hq
      exact ⟨_, wv_get hk, rfl⟩
    · rw [List.getElem?_eq_none (by simp [wv]; omega)] at hq
      cases hq
  refine ⟨fun i j p q hp hq hpq => ?_, fun k q hq => ?_⟩
  · obtain ⟨p', h1, h2⟩ := key i p hp
    obtain ⟨q', h3, h4⟩ := key j q hq
    exact h.1 i j p' q' h1 h3 (by rw [h2, h4, hpq])
  · obtain ⟨q', h1, h2⟩ := key k q hq
    rw [← h2]
    exact h.2 k q' h1
theorem wv_A {ad : Nat → Nat} {c3 : C3} {σ τ : Sto} {sz q : Nat} (h : va_A (wv ad c3 σ) sz q) : va_A (wv ad c3 τ) sz q := by
  rcases h with ⟨k, e, h⟩ | h
  · left
    by_cases hk : k < 67
    · rw [wv_get hk] at h
      cases h
      exact ⟨k, _, wv_get hk⟩
    · rw [List.getElem?_eq_none (by simp [wv]; omega)] at h
      cases h
  · exact Or.inr h
theorem lw_goodIn {ws : List Cond} (h : ∀ w ∈ ws, w ∈ lw_gd) : GoodIn lw_gd ws := fun w hw => ⟨h w hw, good_of_word (List.mem_filter.mp (h w hw)).2⟩
theorem Ct_of {y : MethodName} {cc : ByteArray} {n : Nat} {ret : Option FieldType} {fr lo : Nat} {av : (Nat → Nat) → List Value} {σ : Sto} {r : (Nat → Nat) → Option Value} {σ' : Sto}
    (hy : plainName y.cls = true) (hn : ∀ ad, (lg_sl (av ad)).length ≤ n)
    (body : ∀ (φ : Fr) (ad : Nat → Nat), Cx φ ad cc ret y.cls n fr lo → Fini φ ad (r ad) σ' → wpm φ ad 0 (lv_args 0 (av ad)) [] σ) : Ct y cc n ret fr lo av σ r σ' := by
  intro l D c3 ad sz
  refine Met.ofW (cc := cc) (maxL := n) (ret := ret) hy rfl ?_
  intro p e s m args below meth c s₁ B hml hv
  obtain ⟨rfl, hsz, hP, hK, hD0, hN⟩ := hv
  subst hsz
  have hts : ∀ w ∈ lw_gd, w.before (av ad).toArray s = true := fun w hw => atoms_spec (ws := .code y cc n ret :: lw_gd) B.pre w (List.mem_cons_of_mem _ hw)
  have hD : va_D (va_A (wv ad c3 σ) s.heap.size) (wv ad c3 σ) := hD0.self (sz := s.heap.size)
  have K := body ((p, l, e, (headSpec (.code y cc n ret :: lw_gd) { frames := fr, cells := 0, slots := 0, locals := lo }).room, s, m, (av ad).toArray, below), (meth, c, D, c3, va_A (wv ad c3 σ) s.heap.size, s.heap), (n, 0, 0, MQ below (Qm D ad c3 (va_A (wv ad c3 σ) s.heap.size) (r ad) σ') (av ad).toArray s 0 0 (va_A (wv ad c3 σ) s.heap.size))) ad
    ⟨B.exec, B.bytes, B.returns, hml, rfl, findClass_of_methodNamed B.named, hts, B.notSynchronized, hK, wv_D hD, fun q h => Or.inr h, Nat.le_refl _, Nat.le_refl _, Nat.zero_le _, Nat.zero_le _, hN⟩ ⟨rfl, rfl⟩
  rw [lg_entry_eq]
  exact K s.heap [] _ hP va_S.rf (lv_entry (av ad) (hn ad))
