/-- behind playPad, where the pad holds an evening of m remarks R -/
def PlC (t : Sto) (D : DD) (h w m : Nat) (R : Nat → Nat) (so : Int32) : Prop := NeC t (sq R so (N0D D h w) (fbx (D.2 0) R so (N0D D h w) m 0)) ∧ (∀ j, j ≤ fbx (D.2 0) R so (N0D D h w) m 0 → t.1 29 j = nI ((sq R so (N0D D h w) j).1 0)) ∧ t.1 27 4 = (if fbx (D.2 0) R so (N0D D h w) m 0 = m then -6 else nI (fbx (D.2 0) R so (N0D D h w) m 0)) ∧ t.1 27 5 = (if fbx (D.2 0) R so (N0D D h w) m 0 = m then -6 else nI (wy (D.2 0) R so (N0D D h w) (fbx (D.2 0) R so (N0D D h w) m 0))) ∧ t.1 27 1 = nI m ∧ ∀ j, j < m → t.1 28 j = nI (R j)
theorem e_playPad {s : Sto} {D : DD} {n h w c pc : Nat} (hC : RelC s 1 D) (hn1 : 1 ≤ n) (hn2 : n ≤ 8) (en : D.1 0 = nI n) (eh : D.1 2 = nI h) (h1 : h ≤ 30) (ew : D.1 3 = nI w) (h2 : w ≤ 40) (hpc : pc ≤ 60) (hp : s.1 25 1 = nI pc) :
    ∃ t r, f8_playPad 0 s = some (r, t) ∧ FrE s t ∧ (((psO (s.1 26) pc n).1 ≠ -6 ∧ r = -5) ∨ ((psO (s.1 26) pc n).1 = -6 ∧ r = (if fbx (D.2 0) (psO (s.1 26) pc n).2.2 (D.1 1) (N0D D h w) (psO (s.1 26) pc n).2.1 0 = (psO (s.1 26) pc n).2.1 then 0 else -3) ∧ PlC t D h w (psO (s.1 26) pc n).2.1 (psO (s.1 26) pc n).2.2 (D.1 1))) := by
  obtain ⟨⟨a0, a1, a2, a3, a4⟩, b0, b1, b2, b3, b4, b5⟩ := hC.lit
  obtain ⟨t, t1, t2, t3, t4, t5⟩ := e_readE (p := s.1 26) (n := pc) (nf := n) hn1 hn2 hpc hp (fun _ _ => rfl)
  obtain ⟨k1, k2⟩ := psO_ok (p := s.1 26) (n := pc) (nf := n) hn1 hn2 hpc
  have fe : FrE s t := fun k hk => t4 k (by omega) (by omega)
  unfold f8_playPad
  rw [if_pos kd_0, show s.1 (0 + 1) 0 = nI n from a0.trans en, show (0 + 27) = 27 from rfl, show (0 + 25) = 25 from rfl, t1, bd2_some]
  by_cases hf : (psO (s.1 26) pc n).1 = -6
  · rw [if_pos hf]
    have hCt : RelC t 1 D := hC.away (fun j hj => fe _ (by omega))
    obtain ⟨u, u1, u2, u3, u4, u5, u6⟩ := e_play (so := D.1 1) hCt eh ew h1 h2 k1 (fun j hj => (k2 j hj).l hn2) t2 t3
    rw [show t.1 (0 + 1) 1 = D.1 1 from by rw [fe _ (by omega)]; exact a1, show (0 + 1) = 1 from rfl, u1, bd1_some]
    refine ⟨u, if fbx (D.2 0) (psO (s.1 26) pc n).2.2 (D.1 1) (N0D D h w) (psO (s.1 26) pc n).2.1 0 = (psO (s.1 26) pc n).2.1 then 0 else -3, ?_, fe.tr u6.e, Or.inr ⟨hf, rfl, u2, u3, u4, u5, by rw [u6.2 1 (by omega) (by omega)]; exact t2, fun j hj => by rw [u6.1 28 (by omega) (by omega) (by omega)]; exact t3 j hj⟩⟩
    have fb := (fbx_spec (tm := D.2 0) (R := (psO (s.1 26) pc n).2.2) (so := D.1 1) (N0 := N0D D h w) (psO (s.1 26) pc n).2.1 0).2.1
    rw [u4]
    by_cases e : fbx (D.2 0) (psO (s.1 26) pc n).2.2 (D.1 1) (N0D D h w) (psO (s.1 26) pc n).2.1 0 = (psO (s.1 26) pc n).2.1
    · rw [if_pos e, if_pos e, if_pos rfl]
    · rw [if_neg e, if_neg e, if_neg]
      intro z
      exact absurd (show nI (fbx (D.2 0) (psO (s.1 26) pc n).2.2 (D.1 1) (N0D D h w) (psO (s.1 26) pc n).2.1 0) < 0 by rw [z]; decide) (nI_pos (by omega))
  · rw [if_neg hf]
    exact ⟨t, -5, rfl, fe, Or.inl ⟨hf, rfl⟩⟩
/-- behind refusal() -/
def PlM (t : Sto) (D : DD) (h w m : Nat) (R : Nat → Nat) (so : Int32) : Prop := (∀ N b, N = sq R so (N0D D h w) b → b = fbx (D.2 0) R so (N0D D h w) m 0 → t.1 43 21 = nI (N.1 2) ∧ t.1 43 22 = nI (N.1 3) ∧ t.1 43 32 = nI (N.1 0) ∧ t.1 43 33 = nI (N.1 1) ∧ t.1 43 23 = nI (mn R so (N0D D h w) b) ∧ t.1 43 24 = nI (mx R so (N0D D h w) b) ∧ (∀ r, r < 30 → t.1 57 r = lb R so (N0D D h w) b r) ∧ (∀ r, r < 30 → t.1 59 (3 * r) = N.2 0 r ∧ t.1 59 (3 * r + 1) = N.2 1 r ∧ t.1 59 (3 * r + 2) = N.2 2 r)) ∧ t.1 43 28 = (if fbx (D.2 0) R so (N0D D h w) m 0 = m then -6 else nI (fbx (D.2 0) R so (N0D D h w) m 0)) ∧ t.1 43 29 = (if fbx (D.2 0) R so (N0D D h w) m 0 = m then -6 else nI (wy (D.2 0) R so (N0D D h w) (fbx (D.2 0) R so (N0D D h w) m 0))) ∧ t.1 43 17 = nI m ∧ (∀ j, j < m → RemM t j (R j)) ∧ t.1 58 90 = nI h ∧ NeR t (N0D D h w)
theorem e_refusal {s : Sto} {D : DD} {n h w c pc : Nat} {p : Nat → Int32} (hM : RelM s D) (hn1 : 1 ≤ n) (hn2 : n ≤ 8) (en : D.1 0 = nI n) (eh : D.1 2 = nI h) (h1 : h ≤ 30) (ew : D.1 3 = nI w) (h2 : w ≤ 40) (ec : D.1 4 = nI c) (hc : c ≤ 8) (hpc : pc ≤ 60) (hp : s.1 43 12 = nI pc) (hpp : ∀ k, k < 60 → s.1 50 k = p k) :
    ∃ t r, f9_refusal 43 s = some (r, t) ∧ Same s t ∧ (∀ k, k ≤ 42 → t.1 k = s.1 k) ∧ (((psO p pc n).1 ≠ -6 ∧ r = -5) ∨ ((psO p pc n).1 = -6 ∧ r = (if fbx (D.2 0) (psO p pc n).2.2 (D.1 1) (N0D D h w) (psO p pc n).2.1 0 = (psO p pc n).2.1 then -6 else -3) ∧ PlM t D h w (psO p pc n).2.1 (psO p pc n).2.2 (D.1 1))) := by
  obtain ⟨⟨m0, m1, m2, m3, m4⟩, n0, n1, n2, n3, n4, n5⟩ := id hM
  obtain ⟨t, t1, t2, t3, t4⟩ := e_faultE (s := s) (p := p) (n := pc) (nf := n) hn1 hn2 hpc hp hpp (m0.trans en)
  obtain ⟨k1, k2⟩ := psO_ok (p := p) (n := pc) (nf := n) hn1 hn2 hpc
  unfold f9_refusal
  rw [if_pos kd_43, t1, bd2_some]
  by_cases hf : (psO p pc n).1 = -6
  · rw [if_pos (show (psO p pc n).1 < 0 by rw [hf]; decide)]
    have hR : ∀ j, j < (psO p pc n).2.1 → CodL ((psO p pc n).2.2 j) := fun j hj => (k2 j hj).l hn2
    have nr : NeR t (N0D D h w) := ⟨⟨by rw [t4.2 3 (by omega)]; exact m2.trans eh, by rw [t4.2 4 (by omega)]; exact m3.trans ew⟩, fun i hi => by rw [t4.1 45 (by omega) (by omega)]; exact n1 i hi, fun i hi => by rw [t4.1 46 (by omega) (by omega)]; exact n2 i hi, fun i hi => by rw [t4.1 47 (by omega) (by omega)]; exact n3 i hi⟩
    obtain ⟨u, u1, u2, u3⟩ := e_keepNow nr
    have e43 : u.1 43 = t.1 43 := u3 43 (by omega)
    have so1 : u.1 43 1 = D.1 1 := by rw [e43, t4.2 1 (by omega)]; exact m1
    rw [u1, bd1_some, so1]
    have rm : ∀ j, j < (psO p pc n).2.1 → RemM u j ((psO p pc n).2.2 j) := fun j hj => (t3 j hj).keep ⟨by rw [u3 51 (by omega)], by rw [u3 52 (by omega)], by rw [u3 53 (by omega)], by rw [u3 54 (by omega)]⟩
    have nru : NeR u (N0D D h w) := by
      unfold NeR at nr ⊢
      rw [e43, u3 45 (by omega), u3 46 (by omega), u3 47 (by omega)]; exact nr
    obtain ⟨v, v1, v2, v3, v4, v5⟩ := e_goEvening (so := D.1 1) (D := D) hc h1 h2 k1 hR nru u2.2.1 (by rw [e43]; exact t2) rm (by rw [e43, t4.2 10 (by omega)]; exact m4.trans ec) (fun g hg => by rw [u3 44 (by omega), t4.1 44 (by omega) (by omega)]; exact n0 g hg) (fun k hk => by rw [u3 48 (by omega), t4.1 48 (by omega) (by omega)]; exact n4 k hk) (fun k hk => by rw [u3 49 (by omega), t4.1 49 (by omega) (by omega)]; exact n5 k hk)
    obtain ⟨w1, w2, w3, w4, w5, w6⟩ := v2
    obtain ⟨x, x1, x2, x3, x4⟩ := leave_loop 30 0 FU v (by omega) (by decide) w1.r
    rw [show nI 0 = 0 from rfl] at x1
    have y43 : x.1 43 = v.1 43 := x4 43 (by omega)
    rw [v1, bd1_some, x1, bd1_some]
    simp only [nm_eq]
    have z3 : x.1 43 3 = nI ((sq (psO p pc n).2.2 (D.1 1) (N0D D h w) (fbx (D.2 0) (psO p pc n).2.2 (D.1 1) (N0D D h w) (psO p pc n).2.1 0)).1 0) := by rw [y43]; exact w1.1.1
    have z4 : x.1 43 4 = nI ((sq (psO p pc n).2.2 (D.1 1) (N0D D h w) (fbx (D.2 0) (psO p pc n).2.2 (D.1 1) (N0D D h w) (psO p pc n).2.1 0)).1 1) := by rw [y43]; exact w1.1.2.1
    have had : Had (stI (stI x 43 32 (x.1 43 3)) 43 33 ((stI x 43 32 (x.1 43 3)).1 43 4)) (N0D D h w) := by
      have e58 : (stI (stI x 43 32 (x.1 43 3)) 43 33 ((stI x 43 32 (x.1 43 3)).1 43 4)).1 58 = u.1 58 := by rw [stI_ne (by omega), stI_ne (by omega), x4 58 (by omega), v5.1 58 (by omega) (by omega) (by omega) (by omega) (by omega)]
      unfold Had at u2 ⊢
      rw [e58]; exact u2
    obtain ⟨y, y1, y2, y3, y4⟩ := e_putBack had
    have g43 : ∀ j, j ≠ 3 → j ≠ 4 → j ≠ 32 → j ≠ 33 → y.1 43 j = v.1 43 j := fun j a b c d => by rw [y4 j a b, stI_get, if_neg (by omega), stI_get, if_neg (by omega), y43]
    have gk : ∀ k, k ≠ 43 → k ≠ 45 → k ≠ 46 → k ≠ 47 → y.1 k = x.1 k := fun k a b c d => by rw [y3 k a b c d, stI_ne a, stI_ne a]
    have gs : ∀ k, (k < 43 ∨ k = 44 ∨ (48 ≤ k ∧ k ≤ 50) ∨ 59 < k) → y.1 k = s.1 k := fun k hk => by rw [gk k (by omega) (by omega) (by omega) (by omega), x4 k (by omega), v5.1 k (by omega) (by omega) (by omega) (by omega) (by omega), u3 k (by omega), t4.1 k (by omega) (by omega)]
    have gj : ∀ j, j = 0 ∨ j = 1 ∨ j = 10 ∨ j = 12 → y.1 43 j = s.1 43 j := fun j hj => by rw [g43 j (by omega) (by omega) (by omega) (by omega), v5.2 j (by omega) (by omega) (by omega) (by omega), e43, t4.2 j (by omega)]
    have same : Same s y := ⟨fun k a _ => gs k (by omega), ⟨by rw [gs 3 (by omega)], by rw [gs 3 (by omega)]⟩, ⟨gj 0 (by omega), gj 1 (by omega), by rw [y2.1.1, m2, eh]; rfl, by rw [y2.1.2, m3, ew]; rfl, gj 10 (by omega), gj 12 (by omega)⟩, fun k a b i hi => by
      by_cases k45 : k = 45
      · subst k45; rw [y2.2.1 i (by simpa using hi), n1 i (by simpa using hi)]; rfl
      · by_cases k46 : k = 46
        · subst k46; rw [y2.2.2.1 i (by simpa using hi), n2 i (by simpa using hi)]; rfl
        · by_cases k47 : k = 47
          · subst k47; rw [y2.2.2.2 i (by simpa using hi), n3 i (by simpa using hi)]; rfl
          · rw [gs k (by omega)], gs 65 (by omega), gs 66 (by omega)⟩
    rw [y1, bd1_some]
    have e28 : y.1 43 28 = (if fbx (D.2 0) (psO p pc n).2.2 (D.1 1) (N0D D h w) (psO p pc n).2.1 0 = (psO p pc n).2.1 then -6 else nI (fbx (D.2 0) (psO p pc n).2.2 (D.1 1) (N0D D h w) (psO p pc n).2.1 0)) := by rw [g43 28 (by omega) (by omega) (by omega) (by omega)]; exact v3
    have fb := (fbx_spec (tm := D.2 0) (R := (psO p pc n).2.2) (so := D.1 1) (N0 := N0D D h w) (psO p pc n).2.1 0).2.1
    refine ⟨y, if fbx (D.2 0) (psO p pc n).2.2 (D.1 1) (N0D D h w) (psO p pc n).2.1 0 = (psO p pc n).2.1 then -6 else -3, ?_, same, fun k hk => gs k (by omega), Or.inr ⟨hf, rfl, fun N b hN hb => ?_, e28, by rw [g43 29 (by omega) (by omega) (by omega) (by omega)]; exact v4, by rw [g43 17 (by omega) (by omega) (by omega) (by omega), v5.2 17 (by omega) (by omega) (by omega) (by omega), e43]; exact t2, fun j hj => (rm j hj).keep ⟨by rw [gk 51 (by omega) (by omega) (by omega) (by omega), x4 51 (by omega), v5.1 51 (by omega) (by omega) (by omega) (by omega) (by omega)], by rw [gk 52 (by omega) (by omega) (by omega) (by omega), x4 52 (by omega), v5.1 52 (by omega) (by omega) (by omega) (by omega) (by omega)], by rw [gk 53 (by omega) (by omega) (by omega) (by omega), x4 53 (by omega), v5.1 53 (by omega) (by omega) (by omega) (by omega) (by omega)], by rw [gk 54 (by omega) (by omega) (by omega) (by omega), x4 54 (by omega), v5.1 54 (by omega) (by omega) (by omega) (by omega) (by omega)]⟩, by rw [gk 58 (by omega) (by omega) (by omega) (by omega), x4 58 (by omega)]; exact w6, y2⟩⟩
    · rw [e28]
      by_cases e : fbx (D.2 0) (psO p pc n).2.2 (D.1 1) (N0D D h w) (psO p pc n).2.1 0 = (psO p pc n).2.1
      · rw [if_pos e, if_pos e, if_pos (by decide)]
      · rw [if_neg e, if_neg e, if_neg (nI_pos (by omega))]
    · subst hN hb
      refine ⟨by rw [g43 21 (by omega) (by omega) (by omega) (by omega)]; exact w1.1.2.2.1, by rw [g43 22 (by omega) (by omega) (by omega) (by omega)]; exact w1.1.2.2.2.1, ?_, ?_, by rw [g43 23 (by omega) (by omega) (by omega) (by omega)]; exact w2, by rw [g43 24 (by omega) (by omega) (by omega) (by omega)]; exact w3, fun r hr => by rw [gk 57 (by omega) (by omega) (by omega) (by omega), x4 57 (by omega)]; exact w4 r hr, fun r hr => by rw [gk 59 (by omega) (by omega) (by omega) (by omega)]; exact x2 r hr (by omega)⟩
      · rw [y4 32 (by omega) (by omega), stI_get, if_neg (by omega), stI_get, if_pos ⟨rfl, rfl⟩]; exact z3
      · rw [y4 33 (by omega) (by omega), stI_get, if_pos ⟨rfl, rfl⟩, stI_get, if_neg (by omega)]; exact z4
  · have hz : ¬ (psO p pc n).1 < 0 := by
      rcases psO_val (p := p) (nf := n) hpc with e | ⟨k, hk, e⟩
      · exact absurd e hf
      · rw [e]; exact nI_pos (by omega)
    rw [if_neg hz]
    exact ⟨t, -5, rfl, t4.same, fun k hk => t4.1 k (by omega) (by omega), Or.inl ⟨hf, rfl⟩⟩
