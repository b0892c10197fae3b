set_option maxRecDepth 20000 in
theorem WL8_remarksUpTo_29 {φ : Fr} {ad : Nat → Nat} (X : Cx φ ad cX8_remarksUpTo (some .int) RX8 7 2 42) (o : Nat) (a1 : Int32) (a2 : Int32) (k_o : kd o = 8) {r : Int32} {σ' : Sto} (hQ : Fini φ ad (some (.int r)) σ') : ∀ (fuel : Nat) (v3 : Int32) (v4 : Int32) (s : Sto), L8_remarksUpTo_29 o a1 a2 fuel v3 v4 s = some (r, σ') → wpm φ ad 29 [(0, .ref (ad o)), (1, .int a1), (2, .int a2), (3, .int v3), (4, .int v4)] [] s := by
  intro fuel
  induction fuel with
  | zero => intro v3 v4 s h; cases h
  | succ fuel ih =>
    intro v3 v4 s h
    unfold L8_remarksUpTo_29 at h
    refine w_iload (pc := 29) X dX8_remarksUpTo_29 4 rfl ?_
    refine w_iload_n (pc := 31) X dX8_remarksUpTo_31 1 rfl ?_
    refine w_icmp_ge (pc := 32) (tgt := 158) X dX8_remarksUpTo_32 (by decide) (fun c51 => ?_) (fun c51 => ?_)
    · replace h := it_pos c51 h
      refine w_iload_n (pc := 158) X dX8_remarksUpTo_158 3 rfl ?_
      refine w_aload_n (pc := 159) X dX8_remarksUpTo_159 0 rfl ?_
      refine w_getR (pc := 160) X dX8_remarksUpTo_160 clO_8 k_o 0 (by decide) (d := 1) rfl fl_8_10 ?_
      refine w_getR (pc := 163) X dX8_remarksUpTo_163 clO_0 (kp_8_1 k_o) 3 (by decide) (d := 2) rfl fl_8_95 ?_
      refine w_getI (pc := 166) X dX8_remarksUpTo_166 clO_2 (kp_0_2 (kp_8_1 k_o)) 4 (by decide) rfl fl_8_99 ?_
      refine w_iconst (pc := 169) X dX8_remarksUpTo_169 (v := 1) rfl ?_
      refine w_isub (pc := 170) X dX8_remarksUpTo_170 ?_
      refine w_mmin (pc := 171) X dX8_remarksUpTo_171 cw_8_292 ⟨Nat.le_of_ble_eq_true rfl, Nat.le_of_ble_eq_true rfl⟩ ?_
      obtain ⟨x1, e_x1, h⟩ := nm_inv h
      refine w_nmi e_x1 ?_
      refine w_istore (pc := 174) X dX8_remarksUpTo_174 (by decide) (lv' := [(4, .int x1), (0, .ref (ad o)), (1, .int a1), (2, .int a2), (3, .int v3)]) rfl ?_
      refine w_iload_n (pc := 176) X dX8_remarksUpTo_176 2 rfl ?_
      refine w_iload_n (pc := 177) X dX8_remarksUpTo_177 3 rfl ?_
      refine w_isub (pc := 178) X dX8_remarksUpTo_178 ?_
      refine w_iload (pc := 179) X dX8_remarksUpTo_179 0 rfl ?_
      refine w_iadd (pc := 181) X dX8_remarksUpTo_181 ?_
      refine w_iconst (pc := 182) X dX8_remarksUpTo_182 (v := 2) rfl ?_
      refine w_iload_n (pc := 183) X dX8_remarksUpTo_183 4 rfl ?_
      refine w_iload (pc := 184) X dX8_remarksUpTo_184 0 rfl ?_
      refine w_isub (pc := 186) X dX8_remarksUpTo_186 ?_
      refine w_imul (pc := 187) X dX8_remarksUpTo_187 ?_
      refine w_iadd (pc := 188) X dX8_remarksUpTo_188 ?_
      cases h
      exact w_iret X hQ dX8_remarksUpTo_189
    · replace h := it_neg c51 h
      refine w_aload_n (pc := 35) X dX8_remarksUpTo_35 0 rfl ?_
      refine w_getR (pc := 36) X dX8_remarksUpTo_36 clO_8 k_o 5 (by decide) (d := 34) rfl fl_8_39 ?_
      refine w_getR (pc := 39) X dX8_remarksUpTo_39 clO_6 (kp_8_34 k_o) 0 (by decide) (d := 1) rfl fl_8_279 ?_
      refine w_iload (pc := 42) X dX8_remarksUpTo_42 4 rfl ?_
      obtain ⟨r4, s2, h3, h⟩ := bd2_inv h
      refine w_callS (pc := 44) X dX8_remarksUpTo_44 (M8_at h3) rfl cw_8_282 ⟨Nat.le_of_ble_eq_true rfl, Nat.le_of_ble_eq_true rfl⟩ rfl rfl (Nat.le_of_ble_eq_true rfl) ?_
      show wpm φ ad 47 [(0, .ref (ad o)), (1, .int a1), (2, .int a2), (3, .int v3), (4, .int v4)] [.int r4] s2
      refine w_istore (pc := 47) X dX8_remarksUpTo_47 (by decide) (lv' := [(5, .int r4), (0, .ref (ad o)), (1, .int a1), (2, .int a2), (3, .int v3), (4, .int v4)]) rfl ?_
      refine w_iload (pc := 49) X dX8_remarksUpTo_49 5 rfl ?_
      refine w_iload_n (pc := 51) X dX8_remarksUpTo_51 3 rfl ?_
      obtain ⟨x10, s11, h50, h⟩ := bd2_inv h
      have K52 : wpm φ ad 79 [(0, .ref (ad o)), (1, .int a1), (2, .int a2), (3, .int v3), (4, .int v4), (5, .int r4)] [.int x10] s11 := by
        refine w_istore (pc := 79) X dX8_remarksUpTo_79 (by decide) (lv' := [(6, .int x10), (0, .ref (ad o)), (1, .int a1), (2, .int a2), (3, .int v3), (4, .int v4), (5, .int r4)]) rfl ?_
        refine w_iload (pc := 81) X dX8_remarksUpTo_81 6 rfl ?_
        obtain ⟨r14, s12, h13, h⟩ := bd2_inv h
        refine w_callS (pc := 83) X dX8_remarksUpTo_83 (M8_isGuest h13) rfl cw_8_79 ⟨Nat.le_of_ble_eq_true rfl, Nat.le_of_ble_eq_true rfl⟩ rfl rfl (Nat.le_of_ble_eq_true rfl) ?_
        show wpm φ ad 86 [(6, .int x10), (0, .ref (ad o)), (1, .int a1), (2, .int a2), (3, .int v3), (4, .int v4), (5, .int r4)] [.int r14] s12
        refine w_if_eq (pc := 86) (tgt := 105) X dX8_remarksUpTo_86 (by decide) (fun c49 => ?_) (fun c49 => ?_)
        · replace h := it_pos c49 h
          refine w_aload_n (pc := 105) X dX8_remarksUpTo_105 1 rfl ?_
          refine w_getR (pc := 106) X dX8_remarksUpTo_106 clO_8 k_o 5 (by decide) (d := 34) rfl fl_8_39 ?_
          refine w_getR (pc := 109) X dX8_remarksUpTo_109 clO_6 (kp_8_34 k_o) 1 (by decide) (d := 2) rfl fl_8_289 ?_
          refine w_iload (pc := 112) X dX8_remarksUpTo_112 5 rfl ?_
          obtain ⟨r17, s15, h16, h⟩ := bd2_inv h
          refine w_callS (pc := 114) X dX8_remarksUpTo_114 (M8_at h16) rfl cw_8_282 ⟨Nat.le_of_ble_eq_true rfl, Nat.le_of_ble_eq_true rfl⟩ rfl rfl (Nat.le_of_ble_eq_true rfl) ?_
          show wpm φ ad 117 [(6, .int x10), (0, .ref (ad o)), (1, .int a1), (2, .int a2), (3, .int v3), (4, .int v4), (5, .int r4)] [.int r17] s15
          refine w_iconst (pc := 117) X dX8_remarksUpTo_117 (v := 1) rfl ?_
          refine w_icmp_ne (pc := 118) (tgt := 129) X dX8_remarksUpTo_118 (by decide) (fun c29 => ?_) (fun c29 => ?_)
          · replace h := it_neg c29 h
            refine w_aload_n (pc := 129) X dX8_remarksUpTo_129 1 rfl ?_
            refine w_getR (pc := 130) X dX8_remarksUpTo_130 clO_8 k_o 5 (by decide) (d := 34) rfl fl_8_39 ?_
            refine w_getR (pc := 133) X dX8_remarksUpTo_133 clO_6 (kp_8_34 k_o) 1 (by decide) (d := 2) rfl fl_8_289 ?_
            refine w_iload (pc := 136) X dX8_remarksUpTo_136 5 rfl ?_
            obtain ⟨r20, s18, h19, h⟩ := bd2_inv h
            refine w_callS (pc := 138) X dX8_remarksUpTo_138 (M8_at h19) rfl cw_8_282 ⟨Nat.le_of_ble_eq_true rfl, Nat.le_of_ble_eq_true rfl⟩ rfl rfl (Nat.le_of_ble_eq_true rfl) ?_
            show wpm φ ad 141 [(6, .int x10), (0, .ref (ad o)), (1, .int a1), (2, .int a2), (3, .int v3), (4, .int v4), (5, .int r4)] [.int r20] s18
            refine w_if_ne (pc := 141) (tgt := 152) X dX8_remarksUpTo_141 (by decide) (fun c22 => ?_) (fun c22 => ?_)
            · replace h := it_neg c22 h
              refine w_iinc (pc := 152) X dX8_remarksUpTo_152 5 rfl (v := (v4 + 1)) rfl (by decide) (lv' := [(4, .int (v4 + 1)), (6, .int x10), (0, .ref (ad o)), (1, .int a1), (2, .int a2), (3, .int v3), (5, .int r4)]) rfl ?_
              refine w_goto (tgt := 29) (pc := 155) X dX8_remarksUpTo_155 (by decide) ?_
              exact w_sub (pc := 29) [2, 3, 4, 5, 0] rfl (ih _ _ _ h)
            · replace h := it_pos c22 h
              refine w_iload (pc := 144) X dX8_remarksUpTo_144 0 rfl ?_
              refine w_if_eq (pc := 146) (tgt := 152) X dX8_remarksUpTo_146 (by decide) (fun c21 => ?_) (fun c21 => ?_)
              · replace h := it_pos c21 h
                refine w_iinc (pc := 152) X dX8_remarksUpTo_152 5 rfl (v := (v4 + 1)) rfl (by decide) (lv' := [(4, .int (v4 + 1)), (6, .int x10), (0, .ref (ad o)), (1, .int a1), (2, .int a2), (3, .int v3), (5, .int r4)]) rfl ?_
                refine w_goto (tgt := 29) (pc := 155) X dX8_remarksUpTo_155 (by decide) ?_
                exact w_sub (pc := 29) [2, 3, 4, 5, 0] rfl (ih _ _ _ h)
              · replace h := it_neg c21 h
                refine w_iinc (pc := 149) X dX8_remarksUpTo_149 4 rfl (v := (v3 + 1)) rfl (by decide) (lv' := [(3, .int (v3 + 1)), (6, .int x10), (0, .ref (ad o)), (1, .int a1), (2, .int a2), (4, .int v4), (5, .int r4)]) rfl ?_
                refine w_iinc (pc := 152) X dX8_remarksUpTo_152 5 rfl (v := (v4 + 1)) rfl (by decide) (lv' := [(4, .int (v4 + 1)), (3, .int (v3 + 1)), (6, .int x10), (0, .ref (ad o)), (1, .int a1), (2, .int a2), (5, .int r4)]) rfl ?_
                refine w_goto (tgt := 29) (pc := 155) X dX8_remarksUpTo_155 (by decide) ?_
                exact w_sub (pc := 29) [3, 4, 5, 1, 0] rfl (ih _ _ _ h)
          · replace h := it_pos c29 h
            refine w_iload (pc := 121) X dX8_remarksUpTo_121 0 rfl ?_
            refine w_if_ne (pc := 123) (tgt := 129) X dX8_remarksUpTo_123 (by decide) (fun c28 => ?_) (fun c28 => ?_)
            · replace h := it_neg c28 h
              refine w_aload_n (pc := 129) X dX8_remarksUpTo_129 1 rfl ?_
              refine w_getR (pc := 130) X dX8_remarksUpTo_130 clO_8 k_o 5 (by decide) (d := 34) rfl fl_8_39 ?_
              refine w_getR (pc := 133) X dX8_remarksUpTo_133 clO_6 (kp_8_34 k_o) 1 (by decide) (d := 2) rfl fl_8_289 ?_
              refine w_iload (pc := 136) X dX8_remarksUpTo_136 5 rfl ?_
              obtain ⟨r25, s23, h24, h⟩ := bd2_inv h
              refine w_callS (pc := 138) X dX8_remarksUpTo_138 (M8_at h24) rfl cw_8_282 ⟨Nat.le_of_ble_eq_true rfl, Nat.le_of_ble_eq_true rfl⟩ rfl rfl (Nat.le_of_ble_eq_true rfl) ?_
              show wpm φ ad 141 [(6, .int x10), (0, .ref (ad o)), (1, .int a1), (2, .int a2), (3, .int v3), (4, .int v4), (5, .int r4)] [.int r25] s23
              refine w_if_ne (pc := 141) (tgt := 152) X dX8_remarksUpTo_141 (by decide) (fun c27 => ?_) (fun c27 => ?_)
              · replace h := it_neg c27 h
                refine w_iinc (pc := 152) X dX8_remarksUpTo_152 5 rfl (v := (v4 + 1)) rfl (by decide) (lv' := [(4, .int (v4 + 1)), (6, .int x10), (0, .ref (ad o)), (1, .int a1), (2, .int a2), (3, .int v3), (5, .int r4)]) rfl ?_
                refine w_goto (tgt := 29) (pc := 155) X dX8_remarksUpTo_155 (by decide) ?_
                exact w_sub (pc := 29) [2, 3, 4, 5, 0] rfl (ih _ _ _ h)
              · replace h := it_pos c27 h
                refine w_iload (pc := 144) X dX8_remarksUpTo_144 0 rfl ?_
                refine w_if_eq (pc := 146) (tgt := 152) X dX8_remarksUpTo_146 (by decide) (fun c26 => ?_) (fun c26 => ?_)
                · replace h := it_pos c26 h
                  refine w_iinc (pc := 152) X dX8_remarksUpTo_152 5 rfl (v := (v4 + 1)) rfl (by decide) (lv' := [(4, .int (v4 + 1)), (6, .int x10), (0, .ref (ad o)), (1, .int a1), (2, .int a2), (3, .int v3), (5, .int r4)]) rfl ?_
                  refine w_goto (tgt := 29) (pc := 155) X dX8_remarksUpTo_155 (by decide) ?_
                  exact w_sub (pc := 29) [2, 3, 4, 5, 0] rfl (ih _ _ _ h)
                · replace h := it_neg c26 h
                  refine w_iinc (pc := 149) X dX8_remarksUpTo_149 4 rfl (v := (v3 + 1)) rfl (by decide) (lv' := [(3, .int (v3 + 1)), (6, .int x10), (0, .ref (ad o)), (1, .int a1), (2, .int a2), (4, .int v4), (5, .int r4)]) rfl ?_
                  refine w_iinc (pc := 152) X dX8_remarksUpTo_152 5 rfl (v := (v4 + 1)) rfl (by decide) (lv' := [(4, .int (v4 + 1)), (3, .int (v3 + 1)), (6, .int x10), (0, .ref (ad o)), (1, .int a1), (2, .int a2), (5, .int r4)]) rfl ?_
                  refine w_goto (tgt := 29) (pc := 155) X dX8_remarksUpTo_155 (by decide) ?_
                  exact w_sub (pc := 29) [3, 4, 5, 1, 0] rfl (ih _ _ _ h)
            · replace h := it_pos c28 h
              refine w_bipush (pc := 126) X dX8_remarksUpTo_126 (v := (-6)) rfl ?_
              cases h
              exact w_iret X hQ dX8_remarksUpTo_128
        · replace h := it_neg c49 h
          refine w_aload_n (pc := 89) X dX8_remarksUpTo_89 1 rfl ?_
          refine w_getR (pc := 90) X dX8_remarksUpTo_90 clO_8 k_o 0 (by decide) (d := 1) rfl fl_8_10 ?_
          refine w_iload (pc := 93) X dX8_remarksUpTo_93 6 rfl ?_
          obtain ⟨r32, s30, h31, h⟩ := bd2_inv h
          refine w_callV (pc := 95) X dX8_remarksUpTo_95 (M0_temperOf h31) (kp_8_1 k_o) (by decide) rfl cw_8_83 ⟨Nat.le_of_ble_eq_true rfl, Nat.le_of_ble_eq_true rfl⟩ rfl rfl (Nat.le_of_ble_eq_true rfl) ?_
          show wpm φ ad 98 [(6, .int x10), (0, .ref (ad o)), (1, .int a1), (2, .int a2), (3, .int v3), (4, .int v4), (5, .int r4)] [.int r32] s30
          refine w_iconst (pc := 98) X dX8_remarksUpTo_98 (v := 1) rfl ?_
          refine w_icmp_ne (pc := 99) (tgt := 105) X dX8_remarksUpTo_99 (by decide) (fun c48 => ?_) (fun c48 => ?_)
          · replace h := it_neg c48 h
            refine w_aload_n (pc := 105) X dX8_remarksUpTo_105 1 rfl ?_
            refine w_getR (pc := 106) X dX8_remarksUpTo_106 clO_8 k_o 5 (by decide) (d := 34) rfl fl_8_39 ?_
            refine w_getR (pc := 109) X dX8_remarksUpTo_109 clO_6 (kp_8_34 k_o) 1 (by decide) (d := 2) rfl fl_8_289 ?_
            refine w_iload (pc := 112) X dX8_remarksUpTo_112 5 rfl ?_
            obtain ⟨r35, s33, h34, h⟩ := bd2_inv h
            refine w_callS (pc := 114) X dX8_remarksUpTo_114 (M8_at h34) rfl cw_8_282 ⟨Nat.le_of_ble_eq_true rfl, Nat.le_of_ble_eq_true rfl⟩ rfl rfl (Nat.le_of_ble_eq_true rfl) ?_
            show wpm φ ad 117 [(6, .int x10), (0, .ref (ad o)), (1, .int a1), (2, .int a2), (3, .int v3), (4, .int v4), (5, .int r4)] [.int r35] s33
            refine w_iconst (pc := 117) X dX8_remarksUpTo_117 (v := 1) rfl ?_
            refine w_icmp_ne (pc := 118) (tgt := 129) X dX8_remarksUpTo_118 (by decide) (fun c47 => ?_) (fun c47 => ?_)
            · replace h := it_neg c47 h
              refine w_aload_n (pc := 129) X dX8_remarksUpTo_129 1 rfl ?_
              refine w_getR (pc := 130) X dX8_remarksUpTo_130 clO_8 k_o 5 (by decide) (d := 34) rfl fl_8_39 ?_
              refine w_getR (pc := 133) X dX8_remarksUpTo_133 clO_6 (kp_8_34 k_o) 1 (by decide) (d := 2) rfl fl_8_289 ?_
              refine w_iload (pc := 136) X dX8_remarksUpTo_136 5 rfl ?_
              obtain ⟨r38, s36, h37, h⟩ := bd2_inv h
              refine w_callS (pc := 138) X dX8_remarksUpTo_138 (M8_at h37) rfl cw_8_282 ⟨Nat.le_of_ble_eq_true rfl, Nat.le_of_ble_eq_true rfl⟩ rfl rfl (Nat.le_of_ble_eq_true rfl) ?_
              show wpm φ ad 141 [(6, .int x10), (0, .ref (ad o)), (1, .int a1), (2, .int a2), (3, .int v3), (4, .int v4), (5, .int r4)] [.int r38] s36
              refine w_if_ne (pc := 141) (tgt := 152) X dX8_remarksUpTo_141 (by decide) (fun c40 => ?_) (fun c40 => ?_)
              · replace h := it_neg c40 h
                refine w_iinc (pc := 152) X dX8_remarksUpTo_152 5 rfl (v := (v4 + 1)) rfl (by decide) (lv' := [(4, .int (v4 + 1)), (6, .int x10), (0, .ref (ad o)), (1, .int a1), (2, .int a2), (3, .int v3), (5, .int r4)]) rfl ?_
                refine w_goto (tgt := 29) (pc := 155) X dX8_remarksUpTo_155 (by decide) ?_
                exact w_sub (pc := 29) [2, 3, 4, 5, 0] rfl (ih _ _ _ h)
              · replace h := it_pos c40 h
                refine w_iload (pc := 144) X dX8_remarksUpTo_144 0 rfl ?_
                refine w_if_eq (pc := 146) (tgt := 152) X dX8_remarksUpTo_146 (by decide) (fun c39 => ?_) (fun c39 => ?_)
                · replace h := it_pos c39 h
                  refine w_iinc (pc := 152) X dX8_remarksUpTo_152 5 rfl (v := (v4 + 1)) rfl (by decide) (lv' := [(4, .int (v4 + 1)), (6, .int x10), (0, .ref (ad o)), (1, .int a1), (2, .int a2), (3, .int v3), (5, .int r4)]) rfl ?_
                  refine w_goto (tgt := 29) (pc := 155) X dX8_remarksUpTo_155 (by decide) ?_
                  exact w_sub (pc := 29) [2, 3, 4, 5, 0] rfl (ih _ _ _ h)
                · replace h := it_neg c39 h
                  refine w_iinc (pc := 149) X dX8_remarksUpTo_149 4 rfl (v := (v3 + 1)) rfl (by decide) (lv' := [(3, .int (v3 + 1)), (6, .int x10), (0, .ref (ad o)), (1, .int a1), (2, .int a2), (4, .int v4), (5, .int r4)]) rfl ?_
                  refine w_iinc (pc := 152) X dX8_remarksUpTo_152 5 rfl (v := (v4 + 1)) rfl (by decide) (lv' := [(4, .int (v4 + 1)), (3, .int (v3 + 1)), (6, .int x10), (0, .ref (ad o)), (1, .int a1), (2, .int a2), (5, .int r4)]) rfl ?_
                  refine w_goto (tgt := 29) (pc := 155) X dX8_remarksUpTo_155 (by decide) ?_
                  exact w_sub (pc := 29) [3, 4, 5, 1, 0] rfl (ih _ _ _ h)
            · replace h := it_pos c47 h
              refine w_iload (pc := 121) X dX8_remarksUpTo_121 0 rfl ?_
              refine w_if_ne (pc := 123) (tgt := 129) X dX8_remarksUpTo_123 (by decide) (fun c46 => ?_) (fun c46 => ?_)
              · replace h := it_neg c46 h
                refine w_aload_n (pc := 129) X dX8_remarksUpTo_129 1 rfl ?_
                refine w_getR (pc := 130) X dX8_remarksUpTo_130 clO_8 k_o 5 (by decide) (d := 34) rfl fl_8_39 ?_
                refine w_getR (pc := 133) X dX8_remarksUpTo_133 clO_6 (kp_8_34 k_o) 1 (by decide) (d := 2) rfl fl_8_289 ?_
                refine w_iload (pc := 136) X dX8_remarksUpTo_136 5 rfl ?_
                obtain ⟨r43, s41, h42, h⟩ := bd2_inv h
                refine w_callS (pc := 138) X dX8_remarksUpTo_138 (M8_at h42) rfl cw_8_282 ⟨Nat.le_of_ble_eq_true rfl, Nat.le_of_ble_eq_true rfl⟩ rfl rfl (Nat.le_of_ble_eq_true rfl) ?_
                show wpm φ ad 141 [(6, .int x10), (0, .ref (ad o)), (1, .int a1), (2, .int a2), (3, .int v3), (4, .int v4), (5, .int r4)] [.int r43] s41
                refine w_if_ne (pc := 141) (tgt := 152) X dX8_remarksUpTo_141 (by decide) (fun c45 => ?_) (fun c45 => ?_)
                · replace h := it_neg c45 h
                  refine w_iinc (pc := 152) X dX8_remarksUpTo_152 5 rfl (v := (v4 + 1)) rfl (by decide) (lv' := [(4, .int (v4 + 1)), (6, .int x10), (0, .ref (ad o)), (1, .int a1), (2, .int a2), (3, .int v3), (5, .int r4)]) rfl ?_
                  refine w_goto (tgt := 29) (pc := 155) X dX8_remarksUpTo_155 (by decide) ?_
                  exact w_sub (pc := 29) [2, 3, 4, 5, 0] rfl (ih _ _ _ h)
                · replace h := it_pos c45 h
                  refine w_iload (pc := 144) X dX8_remarksUpTo_144 0 rfl ?_
                  refine w_if_eq (pc := 146) (tgt := 152) X dX8_remarksUpTo_146 (by decide) (fun c44 => ?_) (fun c44 => ?_)
                  · replace h := it_pos c44 h
                    refine w_iinc (pc := 152) X dX8_remarksUpTo_152 5 rfl (v := (v4 + 1)) rfl (by decide) (lv' := [(4, .int (v4 + 1)), (6, .int x10), (0, .ref (ad o)), (1, .int a1), (2, .int a2), (3, .int v3), (5, .int r4)]) rfl ?_
                    refine w_goto (tgt := 29) (pc := 155) X dX8_remarksUpTo_155 (by decide) ?_
                    exact w_sub (pc := 29) [2, 3, 4, 5, 0] rfl (ih _ _ _ h)
                  · replace h := it_neg c44 h
                    refine w_iinc (pc := 149) X dX8_remarksUpTo_149 4 rfl (v := (v3 + 1)) rfl (by decide) (lv' := [(3, .int (v3 + 1)), (6, .int x10), (0, .ref (ad o)), (1, .int a1), (2, .int a2), (4, .int v4), (5, .int r4)]) rfl ?_
                    refine w_iinc (pc := 152) X dX8_remarksUpTo_152 5 rfl (v := (v4 + 1)) rfl (by decide) (lv' := [(4, .int (v4 + 1)), (3, .int (v3 + 1)), (6, .int x10), (0, .ref (ad o)), (1, .int a1), (2, .int a2), (5, .int r4)]) rfl ?_
                    refine w_goto (tgt := 29) (pc := 155) X dX8_remarksUpTo_155 (by decide) ?_
                    exact w_sub (pc := 29) [3, 4, 5, 1, 0] rfl (ih _ _ _ h)
              · replace h := it_pos c46 h
                refine w_bipush (pc := 126) X dX8_remarksUpTo_126 (v := (-6)) rfl ?_
                cases h
                exact w_iret X hQ dX8_remarksUpTo_128
          · replace h := it_pos c48 h
            refine w_bipush (pc := 102) X dX8_remarksUpTo_102 (v := (-6)) rfl ?_
            cases h
            exact w_iret X hQ dX8_remarksUpTo_104
      clear h
      have h := h50
      clear h50
      refine w_icmp_le (pc := 52) (tgt := 78) X dX8_remarksUpTo_52 (by decide) (fun c9 => ?_) (fun c9 => ?_)
      · replace h := it_pos c9 h
        refine w_iconst (pc := 78) X dX8_remarksUpTo_78 (v := 0) rfl ?_
        cases h
        exact w_sub (pc := 79) [1, 2, 3, 4, 5, 0] rfl K52
      · replace h := it_neg c9 h
        refine w_aload_n (pc := 55) X dX8_remarksUpTo_55 1 rfl ?_
        refine w_getR (pc := 56) X dX8_remarksUpTo_56 clO_8 k_o 5 (by decide) (d := 34) rfl fl_8_39 ?_
        refine w_getR (pc := 59) X dX8_remarksUpTo_59 clO_6 (kp_8_34 k_o) 0 (by decide) (d := 1) rfl fl_8_279 ?_
        refine w_iload (pc := 62) X dX8_remarksUpTo_62 5 rfl ?_
        refine w_iconst (pc := 64) X dX8_remarksUpTo_64 (v := 1) rfl ?_
        refine w_isub (pc := 65) X dX8_remarksUpTo_65 ?_
        obtain ⟨r7, s5, h6, h⟩ := bd2_inv h
        refine w_callS (pc := 66) X dX8_remarksUpTo_66 (M8_at h6) rfl cw_8_282 ⟨Nat.le_of_ble_eq_true rfl, Nat.le_of_ble_eq_true rfl⟩ rfl rfl (Nat.le_of_ble_eq_true rfl) ?_
        show wpm φ ad 69 [(5, .int r4), (0, .ref (ad o)), (1, .int a1), (2, .int a2), (3, .int v3), (4, .int v4)] [.int r7] s5
        refine w_iload (pc := 69) X dX8_remarksUpTo_69 0 rfl ?_
        refine w_icmp_ne (pc := 71) (tgt := 78) X dX8_remarksUpTo_71 (by decide) (fun c8 => ?_) (fun c8 => ?_)
        · replace h := it_neg c8 h
          refine w_iconst (pc := 78) X dX8_remarksUpTo_78 (v := 0) rfl ?_
          cases h
          exact w_sub (pc := 79) [1, 2, 3, 4, 5, 0] rfl K52
        · replace h := it_pos c8 h
          refine w_iconst (pc := 74) X dX8_remarksUpTo_74 (v := 1) rfl ?_
          refine w_goto (tgt := 79) (pc := 75) X dX8_remarksUpTo_75 (by decide) ?_
          cases h
          exact w_sub (pc := 79) [1, 2, 3, 4, 5, 0] rfl K52
set_option maxRecDepth 20000 in
theorem M8_remarksUpTo {o : Nat} {a1 : Int32} {a2 : Int32} {s : Sto} {r : Int32} {σ' : Sto} (h : f8_remarksUpTo o a1 a2 s = some (r, σ')) : Ct yX8_remarksUpTo cX8_remarksUpTo 7 (some .int) 2 42 (fun ad => [.ref (ad o), .int a1, .int a2]) s (fun ad => some (.int r)) σ' := by
  unfold f8_remarksUpTo at h
  obtain ⟨k_o, h⟩ := gd_inv h
  refine Ct_of (by decide) (fun ad => Nat.le_of_ble_eq_true rfl) (fun φ ad X hQ => ?_)
  show wpm φ ad 0 [(0, .ref (ad o)), (1, .int a1), (2, .int a2)] [] s
  replace X : Cx φ ad cX8_remarksUpTo (some .int) RX8 7 2 42 := X
  refine w_iload_n (pc := 0) X dX8_remarksUpTo_0 2 rfl ?_
  refine w_iload_n (pc := 1) X dX8_remarksUpTo_1 1 rfl ?_
  refine w_icmp_lt (pc := 2) (tgt := 7) X dX8_remarksUpTo_2 (by decide) (fun c53 => ?_) (fun c53 => ?_)
  · replace h := it_pos c53 h
    refine w_aload_n (pc := 7) X dX8_remarksUpTo_7 0 rfl ?_
    refine w_getR (pc := 8) X dX8_remarksUpTo_8 clO_8 k_o 0 (by decide) (d := 1) rfl fl_8_10 ?_
    refine w_getR (pc := 11) X dX8_remarksUpTo_11 clO_0 (kp_8_1 k_o) 3 (by decide) (d := 2) rfl fl_8_95 ?_
    refine w_getI (pc := 14) X dX8_remarksUpTo_14 clO_2 (kp_0_2 (kp_8_1 k_o)) 4 (by decide) rfl fl_8_99 ?_
    refine w_iconst (pc := 17) X dX8_remarksUpTo_17 (v := 1) rfl ?_
    refine w_icmp_ge (pc := 18) (tgt := 24) X dX8_remarksUpTo_18 (by decide) (fun c52 => ?_) (fun c52 => ?_)
    · replace h := it_pos c52 h
      refine w_iconst (pc := 24) X dX8_remarksUpTo_24 (v := 0) rfl ?_
      refine w_istore_n (pc := 25) X dX8_remarksUpTo_25 3 rfl (by decide) (lv' := [(3, .int (0 : Int32)), (0, .ref (ad o)), (1, .int a1), (2, .int a2)]) rfl ?_
      refine w_iload_n (pc := 26) X dX8_remarksUpTo_26 3 rfl ?_
      refine w_istore (pc := 27) X dX8_remarksUpTo_27 (by decide) (lv' := [(4, .int a2), (3, .int (0 : Int32)), (0, .ref (ad o)), (1, .int a1), (2, .int a2)]) rfl ?_
      exact w_sub (pc := 29) [2, 3, 4, 1, 0] rfl (WL8_remarksUpTo_29 X o a1 a2 k_o hQ FU (0 : Int32) a2 s h)
    · replace h := it_neg c52 h
      refine w_bipush (pc := 21) X dX8_remarksUpTo_21 (v := (-6)) rfl ?_
      cases h
      exact w_iret X hQ dX8_remarksUpTo_23
  · replace h := it_neg c53 h
    refine w_iconst (pc := 5) X dX8_remarksUpTo_5 (v := 0) rfl ?_
    cases h
    exact w_iret X hQ dX8_remarksUpTo_6
set_option maxRecDepth 20000 in
theorem WL8_fewestRemarks_5 {φ : Fr} {ad : Nat → Nat} (X : Cx φ ad cX8_fewestRemarks (some .int) RX8 6 4 90) (o : Nat) (a1 : Int32) (k_o : kd o = 8) : ∀ (fuel : Nat) (v2 : Int32) (v3 : Int32) (s : Sto) (t2 : Int32) (t : Sto), L8_fewestRemarks_5 o a1 fuel v2 v3 s = some (t2, t) → wpm φ ad 97 [(2, .int t2)] [] t → wpm φ ad 5 [(0, .ref (ad o)), (1, .int a1), (2, .int v2), (3, .int v3)] [] s := by
  intro fuel
  induction fuel with
  | zero => intro v2 v3 s t2 t h; cases h
  | succ fuel ih =>
    intro v2 v3 s t2 t h K
    unfold L8_fewestRemarks_5 at h
    refine w_iload_n (pc := 5) X dX8_fewestRemarks_5 3 rfl ?_
    refine w_iload_n (pc := 6) X dX8_fewestRemarks_6 1 rfl ?_
    refine w_icmp_gt (pc := 7) (tgt := 97) X dX8_fewestRemarks_7 (by decide) (fun c27 => ?_) (fun c27 => ?_)
    · replace h := it_pos c27 h
      cases h
      exact w_sub (pc := 97) [2] rfl K
    · replace h := it_neg c27 h
      refine w_iload_n (pc := 10) X dX8_fewestRemarks_10 3 rfl ?_
      refine w_aload_n (pc := 11) X dX8_fewestRemarks_11 0 rfl ?_
      refine w_getR (pc := 12) X dX8_fewestRemarks_12 clO_8 k_o 0 (by decide) (d := 1) rfl fl_8_10 ?_
      refine w_getR (pc := 15) X dX8_fewestRemarks_15 clO_0 (kp_8_1 k_o) 3 (by decide) (d := 2) rfl fl_8_95 ?_
      refine w_getI (pc := 18) X dX8_fewestRemarks_18 clO_2 (kp_0_2 (kp_8_1 k_o)) 3 (by decide) rfl fl_8_134 ?_
      refine w_icmp_gt (pc := 21) (tgt := 97) X dX8_fewestRemarks_21 (by decide) (fun c26 => ?_) (fun c26 => ?_)
      · replace h := it_pos c26 h
        cases h
        exact w_sub (pc := 97) [2] rfl K
      · replace h := it_neg c26 h
        refine w_iload_n (pc := 24) X dX8_fewestRemarks_24 3 rfl ?_
        refine w_if_le (pc := 25) (tgt := 41) X dX8_fewestRemarks_25 (by decide) (fun c25 => ?_) (fun c25 => ?_)
        · replace h := it_pos c25 h
          refine w_aload_n (pc := 41) X dX8_fewestRemarks_41 0 rfl ?_
          refine w_iload_n (pc := 42) X dX8_fewestRemarks_42 3 rfl ?_
          obtain ⟨r3, s1, h2, h⟩ := bd2_inv h
          refine w_callV (pc := 43) X dX8_fewestRemarks_43 (M8_remarksDownTo h2) k_o (by decide) rfl cw_8_270 ⟨Nat.le_of_ble_eq_true rfl, Nat.le_of_ble_eq_true rfl⟩ rfl rfl (Nat.le_of_ble_eq_true rfl) ?_
          show wpm φ ad 46 [(0, .ref (ad o)), (1, .int a1), (2, .int v2), (3, .int v3)] [.int r3] s1
          refine w_istore (pc := 46) X dX8_fewestRemarks_46 (by decide) (lv' := [(4, .int r3), (0, .ref (ad o)), (1, .int a1), (2, .int v2), (3, .int v3)]) rfl ?_
          refine w_aload_n (pc := 48) X dX8_fewestRemarks_48 1 rfl ?_
          refine w_iload_n (pc := 49) X dX8_fewestRemarks_49 2 rfl ?_
          refine w_iload_n (pc := 50) X dX8_fewestRemarks_50 4 rfl ?_
          obtain ⟨r6, s4, h5, h⟩ := bd2_inv h
          refine w_callV (pc := 51) X dX8_fewestRemarks_51 (M8_remarksUpTo h5) k_o (by decide) rfl cw_8_273 ⟨Nat.le_of_ble_eq_true rfl, Nat.le_of_ble_eq_true rfl⟩ rfl rfl (Nat.le_of_ble_eq_true rfl) ?_
          show wpm φ ad 54 [(4, .int r3), (0, .ref (ad o)), (1, .int a1), (2, .int v2), (3, .int v3)] [.int r6] s4
          refine w_istore (pc := 54) X dX8_fewestRemarks_54 (by decide) (lv' := [(5, .int r6), (4, .int r3), (0, .ref (ad o)), (1, .int a1), (2, .int v2), (3, .int v3)]) rfl ?_
          refine w_iload (pc := 56) X dX8_fewestRemarks_56 1 rfl ?_
          refine w_bipush (pc := 58) X dX8_fewestRemarks_58 (v := (-6)) rfl ?_
          refine w_icmp_eq (pc := 60) (tgt := 91) X dX8_fewestRemarks_60 (by decide) (fun c10 => ?_) (fun c10 => ?_)
          · replace h := it_pos c10 h
            refine w_iinc (pc := 91) X dX8_fewestRemarks_91 5 rfl (v := (v3 + 1)) rfl (by decide) (lv' := [(3, .int (v3 + 1)), (5, .int r6), (4, .int r3), (0, .ref (ad o)), (1, .int a1), (2, .int v2)]) rfl ?_
            refine w_goto (tgt := 5) (pc := 94) X dX8_fewestRemarks_94 (by decide) ?_
            exact w_sub (pc := 5) [3, 4, 5, 0] rfl (ih _ _ _ _ _ h K)
          · replace h := it_neg c10 h
            refine w_iload (pc := 63) X dX8_fewestRemarks_63 0 rfl ?_
            refine w_bipush (pc := 65) X dX8_fewestRemarks_65 (v := (-6)) rfl ?_
            refine w_icmp_eq (pc := 67) (tgt := 91) X dX8_fewestRemarks_67 (by decide) (fun c9 => ?_) (fun c9 => ?_)
            · replace h := it_pos c9 h
              refine w_iinc (pc := 91) X dX8_fewestRemarks_91 5 rfl (v := (v3 + 1)) rfl (by decide) (lv' := [(3, .int (v3 + 1)), (5, .int r6), (4, .int r3), (0, .ref (ad o)), (1, .int a1), (2, .int v2)]) rfl ?_
              refine w_goto (tgt := 5) (pc := 94) X dX8_fewestRemarks_94 (by decide) ?_
              exact w_sub (pc := 5) [3, 4, 5, 0] rfl (ih _ _ _ _ _ h K)
            · replace h := it_neg c9 h
              refine w_iload_n (pc := 70) X dX8_fewestRemarks_70 4 rfl ?_
              refine w_bipush (pc := 71) X dX8_fewestRemarks_71 (v := (-6)) rfl ?_
              refine w_icmp_eq (pc := 73) (tgt := 85) X dX8_fewestRemarks_73 (by decide) (fun c8 => ?_) (fun c8 => ?_)
              · replace h := it_pos c8 h
                refine w_iload (pc := 85) X dX8_fewestRemarks_85 1 rfl ?_
                refine w_iload (pc := 87) X dX8_fewestRemarks_87 0 rfl ?_
                refine w_iadd (pc := 89) X dX8_fewestRemarks_89 ?_
                refine w_istore_n (pc := 90) X dX8_fewestRemarks_90 2 rfl (by decide) (lv' := [(2, .int (r3 + r6)), (5, .int r6), (4, .int r3), (0, .ref (ad o)), (1, .int a1), (3, .int v3)]) rfl ?_
                refine w_iinc (pc := 91) X dX8_fewestRemarks_91 5 rfl (v := (v3 + 1)) rfl (by decide) (lv' := [(3, .int (v3 + 1)), (2, .int (r3 + r6)), (5, .int r6), (4, .int r3), (0, .ref (ad o)), (1, .int a1)]) rfl ?_
                refine w_goto (tgt := 5) (pc := 94) X dX8_fewestRemarks_94 (by decide) ?_
                exact w_sub (pc := 5) [4, 5, 1, 0] rfl (ih _ _ _ _ _ h K)
              · replace h := it_neg c8 h
                refine w_iload (pc := 76) X dX8_fewestRemarks_76 1 rfl ?_
                refine w_iload (pc := 78) X dX8_fewestRemarks_78 0 rfl ?_
                refine w_iadd (pc := 80) X dX8_fewestRemarks_80 ?_
                refine w_iload_n (pc := 81) X dX8_fewestRemarks_81 4 rfl ?_
                refine w_icmp_ge (pc := 82) (tgt := 91) X dX8_fewestRemarks_82 (by decide) (fun c7 => ?_) (fun c7 => ?_)
                · replace h := it_pos c7 h
                  refine w_iinc (pc := 91) X dX8_fewestRemarks_91 5 rfl (v := (v3 + 1)) rfl (by decide) (lv' := [(3, .int (v3 + 1)), (5, .int r6), (4, .int r3), (0, .ref (ad o)), (1, .int a1), (2, .int v2)]) rfl ?_
                  refine w_goto (tgt := 5) (pc := 94) X dX8_fewestRemarks_94 (by decide) ?_
                  exact w_sub (pc := 5) [3, 4, 5, 0] rfl (ih _ _ _ _ _ h K)
                · replace h := it_neg c7 h
                  refine w_iload (pc := 85) X dX8_fewestRemarks_85 1 rfl ?_
                  refine w_iload (pc := 87) X dX8_fewestRemarks_87 0 rfl ?_
                  refine w_iadd (pc := 89) X dX8_fewestRemarks_89 ?_
                  refine w_istore_n (pc := 90) X dX8_fewestRemarks_90 2 rfl (by decide) (lv' := [(2, .int (r3 + r6)), (5, .int r6), (4, .int r3), (0, .ref (ad o)), (1, .int a1), (3, .int v3)]) rfl ?_
                  refine w_iinc (pc := 91) X dX8_fewestRemarks_91 5 rfl (v := (v3 + 1)) rfl (by decide) (lv' := [(3, .int (v3 + 1)), (2, .int (r3 + r6)), (5, .int r6), (4, .int r3), (0, .ref (ad o)), (1, .int a1)]) rfl ?_
                  refine w_goto (tgt := 5) (pc := 94) X dX8_fewestRemarks_94 (by decide) ?_
                  exact w_sub (pc := 5) [4, 5, 1, 0] rfl (ih _ _ _ _ _ h K)
        · replace h := it_neg c25 h
          refine w_aload_n (pc := 28) X dX8_fewestRemarks_28 0 rfl ?_
          refine w_iload_n (pc := 29) X dX8_fewestRemarks_29 3 rfl ?_
          refine w_iconst (pc := 30) X dX8_fewestRemarks_30 (v := 1) rfl ?_
          refine w_isub (pc := 31) X dX8_fewestRemarks_31 ?_
          obtain ⟨r13, s11, h12, h⟩ := bd2_inv h
          refine w_callV (pc := 32) X dX8_fewestRemarks_32 (M8_isThereAlready h12) k_o (by decide) rfl cw_8_267 ⟨Nat.le_of_ble_eq_true rfl, Nat.le_of_ble_eq_true rfl⟩ rfl rfl (Nat.le_of_ble_eq_true rfl) ?_
          show wpm φ ad 35 [(0, .ref (ad o)), (1, .int a1), (2, .int v2), (3, .int v3)] [.int r13] s11
          refine w_if_ne (pc := 35) (tgt := 41) X dX8_fewestRemarks_35 (by decide) (fun c24 => ?_) (fun c24 => ?_)
          · replace h := it_neg c24 h
            refine w_aload_n (pc := 41) X dX8_fewestRemarks_41 0 rfl ?_
            refine w_iload_n (pc := 42) X dX8_fewestRemarks_42 3 rfl ?_
            obtain ⟨r16, s14, h15, h⟩ := bd2_inv h
            refine w_callV (pc := 43) X dX8_fewestRemarks_43 (M8_remarksDownTo h15) k_o (by decide) rfl cw_8_270 ⟨Nat.le_of_ble_eq_true rfl, Nat.le_of_ble_eq_true rfl⟩ rfl rfl (Nat.le_of_ble_eq_true rfl) ?_
            show wpm φ ad 46 [(0, .ref (ad o)), (1, .int a1), (2, .int v2), (3, .int v3)] [.int r16] s14
            refine w_istore (pc := 46) X dX8_fewestRemarks_46 (by decide) (lv' := [(4, .int r16), (0, .ref (ad o)), (1, .int a1), (2, .int v2), (3, .int v3)]) rfl ?_
            refine w_aload_n (pc := 48) X dX8_fewestRemarks_48 1 rfl ?_
            refine w_iload_n (pc := 49) X dX8_fewestRemarks_49 2 rfl ?_
            refine w_iload_n (pc := 50) X dX8_fewestRemarks_50 4 rfl ?_
            obtain ⟨r19, s17, h18, h⟩ := bd2_inv h
            refine w_callV (pc := 51) X dX8_fewestRemarks_51 (M8_remarksUpTo h18) k_o (by decide) rfl cw_8_273 ⟨Nat.le_of_ble_eq_true rfl, Nat.le_of_ble_eq_true rfl⟩ rfl rfl (Nat.le_of_ble_eq_true rfl) ?_
            show wpm φ ad 54 [(4, .int r16), (0, .ref (ad o)), (1, .int a1), (2, .int v2), (3, .int v3)] [.int r19] s17
            refine w_istore (pc := 54) X dX8_fewestRemarks_54 (by decide) (lv' := [(5, .int r19), (4, .int r16), (0, .ref (ad o)), (1, .int a1), (2, .int v2), (3, .int v3)]) rfl ?_
            refine w_iload (pc := 56) X dX8_fewestRemarks_56 1 rfl ?_
            refine w_bipush (pc := 58) X dX8_fewestRemarks_58 (v := (-6)) rfl ?_
            refine w_icmp_eq (pc := 60) (tgt := 91) X dX8_fewestRemarks_60 (by decide) (fun c23 => ?_) (fun c23 => ?_)
            · replace h := it_pos c23 h
              refine w_iinc (pc := 91) X dX8_fewestRemarks_91 5 rfl (v := (v3 + 1)) rfl (by decide) (lv' := [(3, .int (v3 + 1)), (5, .int r19), (4, .int r16), (0, .ref (ad o)), (1, .int a1), (2, .int v2)]) rfl ?_
              refine w_goto (tgt := 5) (pc := 94) X dX8_fewestRemarks_94 (by decide) ?_
              exact w_sub (pc := 5) [3, 4, 5, 0] rfl (ih _ _ _ _ _ h K)
            · replace h := it_neg c23 h
              refine w_iload (pc := 63) X dX8_fewestRemarks_63 0 rfl ?_
              refine w_bipush (pc := 65) X dX8_fewestRemarks_65 (v := (-6)) rfl ?_
              refine w_icmp_eq (pc := 67) (tgt := 91) X dX8_fewestRemarks_67 (by decide) (fun c22 => ?_) (fun c22 => ?_)
              · replace h := it_pos c22 h
                refine w_iinc (pc := 91) X dX8_fewestRemarks_91 5 rfl (v := (v3 + 1)) rfl (by decide) (lv' := [(3, .int (v3 + 1)), (5, .int r19), (4, .int r16), (0, .ref (ad o)), (1, .int a1), (2, .int v2)]) rfl ?_
                refine w_goto (tgt := 5) (pc := 94) X dX8_fewestRemarks_94 (by decide) ?_
                exact w_sub (pc := 5) [3, 4, 5, 0] rfl (ih _ _ _ _ _ h K)
              · replace h := it_neg c22 h
                refine w_iload_n (pc := 70) X dX8_fewestRemarks_70 4 rfl ?_
                refine w_bipush (pc := 71) X dX8_fewestRemarks_71 (v := (-6)) rfl ?_
                refine w_icmp_eq (pc := 73) (tgt := 85) X dX8_fewestRemarks_73 (by decide) (fun c21 => ?_) (fun c21 => ?_)
                · replace h := it_pos c21 h
                  refine w_iload (pc := 85) X dX8_fewestRemarks_85 1 rfl ?_
                  refine w_iload (pc := 87) X dX8_fewestRemarks_87 0 rfl ?_
                  refine w_iadd (pc := 89) X dX8_fewestRemarks_89 ?_
                  refine w_istore_n (pc := 90) X dX8_fewestRemarks_90 2 rfl (by decide) (lv' := [(2, .int (r16 + r19)), (5, .int r19), (4, .int r16), (0, .ref (ad o)), (1, .int a1), (3, .int v3)]) rfl ?_
                  refine w_iinc (pc := 91) X dX8_fewestRemarks_91 5 rfl (v := (v3 + 1)) rfl (by decide) (lv' := [(3, .int (v3 + 1)), (2, .int (r16 + r19)), (5, .int r19), (4, .int r16), (0, .ref (ad o)), (1, .int a1)]) rfl ?_
                  refine w_goto (tgt := 5) (pc := 94) X dX8_fewestRemarks_94 (by decide) ?_
                  exact w_sub (pc := 5) [4, 5, 1, 0] rfl (ih _ _ _ _ _ h K)
                · replace h := it_neg c21 h
                  refine w_iload (pc := 76) X dX8_fewestRemarks_76 1 rfl ?_
                  refine w_iload (pc := 78) X dX8_fewestRemarks_78 0 rfl ?_
                  refine w_iadd (pc := 80) X dX8_fewestRemarks_80 ?_
                  refine w_iload_n (pc := 81) X dX8_fewestRemarks_81 4 rfl ?_
                  refine w_icmp_ge (pc := 82) (tgt := 91) X dX8_fewestRemarks_82 (by decide) (fun c20 => ?_) (fun c20 => ?_)
                  · replace h := it_pos c20 h
                    refine w_iinc (pc := 91) X dX8_fewestRemarks_91 5 rfl (v := (v3 + 1)) rfl (by decide) (lv' := [(3, .int (v3 + 1)), (5, .int r19), (4, .int r16), (0, .ref (ad o)), (1, .int a1), (2, .int v2)]) rfl ?_
                    refine w_goto (tgt := 5) (pc := 94) X dX8_fewestRemarks_94 (by decide) ?_
                    exact w_sub (pc := 5) [3, 4, 5, 0] rfl (ih _ _ _ _ _ h K)
                  · replace h := it_neg c20 h
                    refine w_iload (pc := 85) X dX8_fewestRemarks_85 1 rfl ?_
                    refine w_iload (pc := 87) X dX8_fewestRemarks_87 0 rfl ?_
                    refine w_iadd (pc := 89) X dX8_fewestRemarks_89 ?_
                    refine w_istore_n (pc := 90) X dX8_fewestRemarks_90 2 rfl (by decide) (lv' := [(2, .int (r16 + r19)), (5, .int r19), (4, .int r16), (0, .ref (ad o)), (1, .int a1), (3, .int v3)]) rfl ?_
                    refine w_iinc (pc := 91) X dX8_fewestRemarks_91 5 rfl (v := (v3 + 1)) rfl (by decide) (lv' := [(3, .int (v3 + 1)), (2, .int (r16 + r19)), (5, .int r19), (4, .int r16), (0, .ref (ad o)), (1, .int a1)]) rfl ?_
                    refine w_goto (tgt := 5) (pc := 94) X dX8_fewestRemarks_94 (by decide) ?_
                    exact w_sub (pc := 5) [4, 5, 1, 0] rfl (ih _ _ _ _ _ h K)
          · replace h := it_pos c24 h
            refine w_goto (tgt := 97) (pc := 38) X dX8_fewestRemarks_38 (by decide) ?_
            cases h
            exact w_sub (pc := 97) [2] rfl K
set_option maxRecDepth 20000 in
theorem M8_fewestRemarks {o : Nat} {a1 : Int32} {s : Sto} {r : Int32} {σ' : Sto} (h : f8_fewestRemarks o a1 s = some (r, σ')) : Ct yX8_fewestRemarks cX8_fewestRemarks 6 (some .int) 4 90 (fun ad => [.ref (ad o), .int a1]) s (fun ad => some (.int r)) σ' := by
  unfold f8_fewestRemarks at h
  obtain ⟨k_o, h⟩ := gd_inv h
  refine Ct_of (by decide) (fun ad => Nat.le_of_ble_eq_true rfl) (fun φ ad X hQ => ?_)
  show wpm φ ad 0 [(0, .ref (ad o)), (1, .int a1)] [] s
  replace X : Cx φ ad cX8_fewestRemarks (some .int) RX8 6 4 90 := X
  refine w_bipush (pc := 0) X dX8_fewestRemarks_0 (v := (-6)) rfl ?_
  refine w_istore_n (pc := 2) X dX8_fewestRemarks_2 2 rfl (by decide) (lv' := [(2, .int (-6 : Int32)), (0, .ref (ad o)), (1, .int a1)]) rfl ?_
  refine w_iconst (pc := 3) X dX8_fewestRemarks_3 (v := 0) rfl ?_
  refine w_istore_n (pc := 4) X dX8_fewestRemarks_4 3 rfl (by decide) (lv' := [(3, .int (0 : Int32)), (2, .int (-6 : Int32)), (0, .ref (ad o)), (1, .int a1)]) rfl ?_
  obtain ⟨y29, s30, h28, h⟩ := bd2_inv h
  refine w_sub (pc := 5) [2, 3, 1, 0] rfl (WL8_fewestRemarks_5 X o a1 k_o FU (-6 : Int32) (0 : Int32) s y29 s30 h28 ?_)
  refine w_iload_n (pc := 97) X dX8_fewestRemarks_97 0 rfl ?_
  cases h
  exact w_iret X hQ dX8_fewestRemarks_98
set_option maxRecDepth 20000 in
theorem M8_made {o : Nat} {s : Sto} {r : Int32} {σ' : Sto} (h : f8_made o s = some (r, σ')) : Ct yX8_made cX8_made 2 (some .int) 5 115 (fun ad => [.ref (ad o)]) s (fun ad => some (.int r)) σ' := by
  unfold f8_made at h
  obtain ⟨k_o, h⟩ := gd_inv h
  refine Ct_of (by decide) (fun ad => Nat.le_of_ble_eq_true rfl) (fun φ ad X hQ => ?_)
  show wpm φ ad 0 [(0, .ref (ad o))] [] s
  replace X : Cx φ ad cX8_made (some .int) RX8 2 5 115 := X
  refine w_aload_n (pc := 0) X dX8_made_0 0 rfl ?_
  obtain ⟨r3, s1, h2, h⟩ := bd2_inv h
  refine w_callV (pc := 1) X dX8_made_1 (M8_readPattern h2) k_o (by decide) rfl cw_8_156 ⟨Nat.le_of_ble_eq_true rfl, Nat.le_of_ble_eq_true rfl⟩ rfl rfl (Nat.le_of_ble_eq_true rfl) ?_
  show wpm φ ad 4 [(0, .ref (ad o))] [.int r3] s1
  refine w_istore_n (pc := 4) X dX8_made_4 1 rfl (by decide) (lv' := [(1, .int r3), (0, .ref (ad o))]) rfl ?_
  refine w_iload_n (pc := 5) X dX8_made_5 0 rfl ?_
  refine w_if_eq (pc := 6) (tgt := 13) X dX8_made_6 (by decide) (fun c7 => ?_) (fun c7 => ?_)
  · replace h := it_pos c7 h
    refine w_aload_n (pc := 13) X dX8_made_13 1 rfl ?_
    refine w_aload_n (pc := 14) X dX8_made_14 1 rfl ?_
    refine w_getR (pc := 15) X dX8_made_15 clO_8 k_o 5 (by decide) (d := 34) rfl fl_8_39 ?_
    refine w_getI (pc := 18) X dX8_made_18 clO_6 (kp_8_34 k_o) 2 (by decide) rfl fl_8_159 ?_
    obtain ⟨r6, s4, h5, h⟩ := bd2_inv h
    refine w_callV (pc := 21) X dX8_made_21 (M8_fewestRemarks h5) k_o (by decide) rfl cw_8_160 ⟨Nat.le_of_ble_eq_true rfl, Nat.le_of_ble_eq_true rfl⟩ rfl rfl (Nat.le_of_ble_eq_true rfl) ?_
    show wpm φ ad 24 [(1, .int r3), (0, .ref (ad o))] [.int r6] s4
    cases h
    exact w_iret X hQ dX8_made_24
  · replace h := it_neg c7 h
    refine w_iload_n (pc := 9) X dX8_made_9 0 rfl ?_
    refine w_goto (tgt := 24) (pc := 10) X dX8_made_10 (by decide) ?_
    cases h
    exact w_iret X hQ dX8_made_24
set_option maxRecDepth 20000 in
theorem WL8_bars_13 {φ : Fr} {ad : Nat → Nat} (X : Cx φ ad cX8_bars (some .int) RX8 3 5 115) (o : Nat) (k_o : kd o = 8) {r : Int32} {σ' : Sto} (hQ : Fini φ ad (some (.int r)) σ') : ∀ (fuel : Nat) (v2 : Int32) (s : Sto), L8_bars_13 o fuel v2 s = some (r, σ') → wpm φ ad 13 [(0, .ref (ad o)), (2, .int v2)] [] s := by
  intro fuel
  induction fuel with
  | zero => intro v2 s h; cases h
  | succ fuel ih =>
    intro v2 s h
    unfold L8_bars_13 at h
    refine w_iload_n (pc := 13) X dX8_bars_13 1 rfl ?_
    refine w_aload_n (pc := 14) X dX8_bars_14 0 rfl ?_
    refine w_getR (pc := 15) X dX8_bars_15 clO_8 k_o 5 (by decide) (d := 34) rfl fl_8_39 ?_
    refine w_getI (pc := 18) X dX8_bars_18 clO_6 (kp_8_34 k_o) 2 (by decide) rfl fl_8_159 ?_
    refine w_icmp_ge (pc := 21) (tgt := 44) X dX8_bars_21 (by decide) (fun c8 => ?_) (fun c8 => ?_)
    · replace h := it_pos c8 h
      refine w_bipush (pc := 44) X dX8_bars_44 (v := (-6)) rfl ?_
      cases h
      exact w_iret X hQ dX8_bars_46
    · replace h := it_neg c8 h
      refine w_aload_n (pc := 24) X dX8_bars_24 0 rfl ?_
      refine w_iload_n (pc := 25) X dX8_bars_25 1 rfl ?_
      refine w_iconst (pc := 26) X dX8_bars_26 (v := 1) rfl ?_
      refine w_iadd (pc := 27) X dX8_bars_27 ?_
      obtain ⟨r6, s4, h5, h⟩ := bd2_inv h
      refine w_callV (pc := 28) X dX8_bars_28 (M8_fewestRemarks h5) k_o (by decide) rfl cw_8_160 ⟨Nat.le_of_ble_eq_true rfl, Nat.le_of_ble_eq_true rfl⟩ rfl rfl (Nat.le_of_ble_eq_true rfl) ?_
      show wpm φ ad 31 [(0, .ref (ad o)), (2, .int v2)] [.int r6] s4
      refine w_bipush (pc := 31) X dX8_bars_31 (v := (-6)) rfl ?_
      refine w_icmp_ne (pc := 33) (tgt := 38) X dX8_bars_33 (by decide) (fun c7 => ?_) (fun c7 => ?_)
      · replace h := it_neg c7 h
        refine w_iinc (pc := 38) X dX8_bars_38 1 rfl (v := (v2 + 1)) rfl (by decide) (lv' := [(2, .int (v2 + 1)), (0, .ref (ad o))]) rfl ?_
        refine w_goto (tgt := 13) (pc := 41) X dX8_bars_41 (by decide) ?_
        exact w_sub (pc := 13) [1, 0] rfl (ih _ _ h)
      · replace h := it_pos c7 h
        refine w_iload_n (pc := 36) X dX8_bars_36 1 rfl ?_
        cases h
        exact w_iret X hQ dX8_bars_37
set_option maxRecDepth 20000 in
theorem M8_bars {o : Nat} {s : Sto} {r : Int32} {σ' : Sto} (h : f8_bars o s = some (r, σ')) : Ct yX8_bars cX8_bars 3 (some .int) 5 115 (fun ad => [.ref (ad o)]) s (fun ad => some (.int r)) σ' := by
  unfold f8_bars at h
  obtain ⟨k_o, h⟩ := gd_inv h
  refine Ct_of (by decide) (fun ad => Nat.le_of_ble_eq_true rfl) (fun φ ad X hQ => ?_)
  show wpm φ ad 0 [(0, .ref (ad o))] [] s
  replace X : Cx φ ad cX8_bars (some .int) RX8 3 5 115 := X
  refine w_aload_n (pc := 0) X dX8_bars_0 0 rfl ?_
  obtain ⟨r3, s1, h2, h⟩ := bd2_inv h
  refine w_callV (pc := 1) X dX8_bars_1 (M8_readPattern h2) k_o (by decide) rfl cw_8_156 ⟨Nat.le_of_ble_eq_true rfl, Nat.le_of_ble_eq_true rfl⟩ rfl rfl (Nat.le_of_ble_eq_true rfl) ?_
  show wpm φ ad 4 [(0, .ref (ad o))] [.int r3] s1
  refine w_istore_n (pc := 4) X dX8_bars_4 1 rfl (by decide) (lv' := [(1, .int r3), (0, .ref (ad o))]) rfl ?_
  refine w_iload_n (pc := 5) X dX8_bars_5 0 rfl ?_
  refine w_if_eq (pc := 6) (tgt := 11) X dX8_bars_6 (by decide) (fun c9 => ?_) (fun c9 => ?_)
  · replace h := it_pos c9 h
    refine w_iconst (pc := 11) X dX8_bars_11 (v := 0) rfl ?_
    refine w_istore_n (pc := 12) X dX8_bars_12 2 rfl (by decide) (lv' := [(2, .int (0 : Int32)), (1, .int r3), (0, .ref (ad o))]) rfl ?_
    exact w_sub (pc := 13) [2, 0] rfl (WL8_bars_13 X o k_o hQ FU (0 : Int32) s1 h)
  · replace h := it_neg c9 h
    refine w_iload_n (pc := 9) X dX8_bars_9 0 rfl ?_
    cases h
    exact w_iret X hQ dX8_bars_10
set_option maxRecDepth 20000 in
theorem M0_addSight {o : Nat} {a1 : Int32} {a2 : Int32} {s : Sto} {r : Int32} {σ' : Sto} (h : f0_addSight o a1 a2 s = some (r, σ')) : Ct yX0_addSight cX0_addSight 3 (some .int) 1 22 (fun ad => [.ref (ad o), .int a1, .int a2]) s (fun ad => some (.int r)) σ' := by
  unfold f0_addSight at h
  obtain ⟨k_o, h⟩ := gd_inv h
  refine Ct_of (by decide) (fun ad => Nat.le_of_ble_eq_true rfl) (fun φ ad X hQ => ?_)
  show wpm φ ad 0 [(0, .ref (ad o)), (1, .int a1), (2, .int a2)] [] s
  replace X : Cx φ ad cX0_addSight (some .int) RX0 3 1 22 := X
  refine w_aload_n (pc := 0) X dX0_addSight_0 0 rfl ?_
  refine w_getI (pc := 1) X dX0_addSight_1 clO_0 k_o 4 (by decide) rfl fl_0_29 ?_
  refine w_bipush (pc := 4) X dX0_addSight_4 (v := (8)) rfl ?_
  refine w_icmp_lt (pc := 6) (tgt := 12) X dX0_addSight_6 (by decide) (fun c6 => ?_) (fun c6 => ?_)
  · replace h := it_pos c6 h
    refine w_aload_n (pc := 12) X dX0_addSight_12 0 rfl ?_
    refine w_getR (pc := 13) X dX0_addSight_13 clO_0 k_o 5 (by decide) (d := 6) rfl fl_0_32 ?_
    refine w_aload_n (pc := 16) X dX0_addSight_16 0 rfl ?_
    refine w_getI (pc := 17) X dX0_addSight_17 clO_0 k_o 4 (by decide) rfl fl_0_29 ?_
    refine w_iload_n (pc := 20) X dX0_addSight_20 1 rfl ?_
    obtain ⟨s1, h2, h⟩ := bd1_inv h
    refine w_callSN (pc := 21) X dX0_addSight_21 (M8_put h2) mn_0_42 cw_0_42 ⟨Nat.le_of_ble_eq_true rfl, Nat.le_of_ble_eq_true rfl⟩ rfl rfl (Nat.le_of_ble_eq_true rfl) ?_
    show wpm φ ad 24 [(0, .ref (ad o)), (1, .int a1), (2, .int a2)] [] s1
    refine w_aload_n (pc := 24) X dX0_addSight_24 0 rfl ?_
    refine w_getR (pc := 25) X dX0_addSight_25 clO_0 k_o 6 (by decide) (d := 7) rfl fl_0_35 ?_
    refine w_aload_n (pc := 28) X dX0_addSight_28 0 rfl ?_
    refine w_getI (pc := 29) X dX0_addSight_29 clO_0 k_o 4 (by decide) rfl fl_0_29 ?_
    refine w_iload_n (pc := 32) X dX0_addSight_32 2 rfl ?_
    obtain ⟨s3, h4, h⟩ := bd1_inv h
    refine w_callSN (pc := 33) X dX0_addSight_33 (M8_put h4) mn_0_42 cw_0_42 ⟨Nat.le_of_ble_eq_true rfl, Nat.le_of_ble_eq_true rfl⟩ rfl rfl (Nat.le_of_ble_eq_true rfl) ?_
    show wpm φ ad 36 [(0, .ref (ad o)), (1, .int a1), (2, .int a2)] [] s3
    refine w_aload_n (pc := 36) X dX0_addSight_36 0 rfl ?_
    refine w_dup (pc := 37) X dX0_addSight_37 rfl ?_
    refine w_getI (pc := 38) X dX0_addSight_38 clO_0 k_o 4 (by decide) rfl fl_0_29 ?_
    refine w_iconst (pc := 41) X dX0_addSight_41 (v := 1) rfl ?_
    refine w_iadd (pc := 42) X dX0_addSight_42 ?_
    refine w_putI (pc := 43) X dX0_addSight_43 clO_0 k_o 4 (by decide) rfl rfl (Or.inl rfl) fl_0_29 ?_
    obtain ⟨s5, e_s5, h⟩ := nm_inv h
    refine w_nm e_s5 ?_
    refine w_aload_n (pc := 46) X dX0_addSight_46 0 rfl ?_
    refine w_getI (pc := 47) X dX0_addSight_47 clO_0 k_o 4 (by decide) rfl fl_0_29 ?_
    cases h
    exact w_iret X hQ dX0_addSight_50
  · replace h := it_neg c6 h
    refine w_bipush (pc := 9) X dX0_addSight_9 (v := (-4)) rfl ?_
    cases h
    exact w_iret X hQ dX0_addSight_11
set_option maxRecDepth 20000 in
theorem M8_seen {o : Nat} {a1 : Int32} {a2 : Int32} {s : Sto} {r : Int32} {σ' : Sto} (h : f8_seen o a1 a2 s = some (r, σ')) : Ct yX8_seen cX8_seen 3 (some .int) 2 44 (fun ad => [.ref (ad o), .int a1, .int a2]) s (fun ad => some (.int r)) σ' := by
  unfold f8_seen at h
  obtain ⟨k_o, h⟩ := gd_inv h
  refine Ct_of (by decide) (fun ad => Nat.le_of_ble_eq_true rfl) (fun φ ad X hQ => ?_)
  show wpm φ ad 0 [(0, .ref (ad o)), (1, .int a1), (2, .int a2)] [] s
  replace X : Cx φ ad cX8_seen (some .int) RX8 3 2 44 := X
  refine w_iload_n (pc := 0) X dX8_seen_0 1 rfl ?_
  refine w_iconst (pc := 1) X dX8_seen_1 (v := 0) rfl ?_
  refine w_bipush (pc := 2) X dX8_seen_2 (v := (60)) rfl ?_
  obtain ⟨r3, s1, h2, h⟩ := bd2_inv h
  refine w_callS (pc := 4) X dX8_seen_4 (M8_isWithin h2) rfl cw_8_64 ⟨Nat.le_of_ble_eq_true rfl, Nat.le_of_ble_eq_true rfl⟩ rfl rfl (Nat.le_of_ble_eq_true rfl) ?_
  show wpm φ ad 7 [(0, .ref (ad o)), (1, .int a1), (2, .int a2)] [.int r3] s1
  refine w_if_eq (pc := 7) (tgt := 20) X dX8_seen_7 (by decide) (fun c11 => ?_) (fun c11 => ?_)
  · replace h := it_pos c11 h
    refine w_bipush (pc := 20) X dX8_seen_20 (v := (-2)) rfl ?_
    cases h
    exact w_iret X hQ dX8_seen_22
  · replace h := it_neg c11 h
    refine w_iload_n (pc := 10) X dX8_seen_10 2 rfl ?_
    refine w_iconst (pc := 11) X dX8_seen_11 (v := 0) rfl ?_
    refine w_bipush (pc := 12) X dX8_seen_12 (v := (30)) rfl ?_
    obtain ⟨r6, s4, h5, h⟩ := bd2_inv h
    refine w_callS (pc := 14) X dX8_seen_14 (M8_isWithin h5) rfl cw_8_64 ⟨Nat.le_of_ble_eq_true rfl, Nat.le_of_ble_eq_true rfl⟩ rfl rfl (Nat.le_of_ble_eq_true rfl) ?_
    show wpm φ ad 17 [(0, .ref (ad o)), (1, .int a1), (2, .int a2)] [.int r6] s4
    refine w_if_ne (pc := 17) (tgt := 23) X dX8_seen_17 (by decide) (fun c10 => ?_) (fun c10 => ?_)
    · replace h := it_neg c10 h
      refine w_aload_n (pc := 23) X dX8_seen_23 0 rfl ?_
      refine w_getR (pc := 24) X dX8_seen_24 clO_8 k_o 0 (by decide) (d := 1) rfl fl_8_10 ?_
      refine w_iload_n (pc := 27) X dX8_seen_27 1 rfl ?_
      refine w_iload_n (pc := 28) X dX8_seen_28 2 rfl ?_
      obtain ⟨r9, s7, h8, h⟩ := bd2_inv h
      refine w_callV (pc := 29) X dX8_seen_29 (M0_addSight h8) (kp_8_1 k_o) (by decide) rfl cw_8_163 ⟨Nat.le_of_ble_eq_true rfl, Nat.le_of_ble_eq_true rfl⟩ rfl rfl (Nat.le_of_ble_eq_true rfl) ?_
      show wpm φ ad 32 [(0, .ref (ad o)), (1, .int a1), (2, .int a2)] [.int r9] s7
      cases h
      exact w_iret X hQ dX8_seen_32
    · replace h := it_pos c10 h
      refine w_bipush (pc := 20) X dX8_seen_20 (v := (-2)) rfl ?_
      cases h
      exact w_iret X hQ dX8_seen_22
set_option maxRecDepth 20000 in
theorem M8_forget {o : Nat} {s : Sto} {r : Int32} {σ' : Sto} (h : f8_forget o s = some (r, σ')) : Ct yX8_forget cX8_forget 2 (some .int) 0 0 (fun ad => [.ref (ad o)]) s (fun ad => some (.int r)) σ' := by
  unfold f8_forget at h
  obtain ⟨k_o, h⟩ := gd_inv h
  refine Ct_of (by decide) (fun ad => Nat.le_of_ble_eq_true rfl) (fun φ ad X hQ => ?_)
  show wpm φ ad 0 [(0, .ref (ad o))] [] s
  replace X : Cx φ ad cX8_forget (some .int) RX8 2 0 0 := X
  refine w_aload_n (pc := 0) X dX8_forget_0 0 rfl ?_
  refine w_getR (pc := 1) X dX8_forget_1 clO_8 k_o 0 (by decide) (d := 1) rfl fl_8_10 ?_
  refine w_getI (pc := 4) X dX8_forget_4 clO_0 (kp_8_1 k_o) 4 (by decide) rfl fl_8_166 ?_
  refine w_istore_n (pc := 7) X dX8_forget_7 1 rfl (by decide) (lv' := [(1, .int (s.1 (o + 1) 4)), (0, .ref (ad o))]) rfl ?_
  refine w_aload_n (pc := 8) X dX8_forget_8 1 rfl ?_
  refine w_getR (pc := 9) X dX8_forget_9 clO_8 k_o 0 (by decide) (d := 1) rfl fl_8_10 ?_
  refine w_iconst (pc := 12) X dX8_forget_12 (v := 0) rfl ?_
  refine w_putI (pc := 13) X dX8_forget_13 clO_0 (kp_8_1 k_o) 4 (by decide) rfl rfl (Or.inl rfl) fl_8_166 ?_
  obtain ⟨s1, e_s1, h⟩ := nm_inv h
  refine w_nm e_s1 ?_
  refine w_iload_n (pc := 16) X dX8_forget_16 0 rfl ?_
  cases h
  exact w_iret X hQ dX8_forget_17
set_option maxRecDepth 20000 in
theorem WL7_clear_23 {φ : Fr} {ad : Nat → Nat} (X : Cx φ ad cX7_clear none RX7 2 1 22) (o : Nat) (k_o : kd o = 7) : ∀ (fuel : Nat) (v1 : Int32) (s : Sto)  (t : Sto), L7_clear_23 o fuel v1 s = some (t) → wpm φ ad 44 [] [] t → wpm φ ad 23 [(0, .ref (ad o)), (1, .int v1)] [] s := by
  intro fuel
  induction fuel with
  | zero => intro v1 s t h; cases h
  | succ fuel ih =>
    intro v1 s t h K
    unfold L7_clear_23 at h
    refine w_iload_n (pc := 23) X dX7_clear_23 1 rfl ?_
    refine w_bipush (pc := 24) X dX7_clear_24 (v := (8)) rfl ?_
    refine w_icmp_ge (pc := 26) (tgt := 44) X dX7_clear_26 (by decide) (fun c7 => ?_) (fun c7 => ?_)
    · replace h := it_pos c7 h
      cases h
      exact w_sub (pc := 44) [] rfl K
    · replace h := it_neg c7 h
      refine w_aload_n (pc := 29) X dX7_clear_29 0 rfl ?_
      refine w_getR (pc := 30) X dX7_clear_30 clO_7 k_o 4 (by decide) (d := 1) rfl fl_7_24 ?_
      refine w_iload_n (pc := 33) X dX7_clear_33 1 rfl ?_
      refine w_iconst (pc := 34) X dX7_clear_34 (v := 0) rfl ?_
      obtain ⟨s5, h6, h⟩ := bd1_inv h
      refine w_callSN (pc := 35) X dX7_clear_35 (M8_put h6) mn_7_28 cw_7_28 ⟨Nat.le_of_ble_eq_true rfl, Nat.le_of_ble_eq_true rfl⟩ rfl rfl (Nat.le_of_ble_eq_true rfl) ?_
      show wpm φ ad 38 [(0, .ref (ad o)), (1, .int v1)] [] s5
      refine w_iinc (pc := 38) X dX7_clear_38 1 rfl (v := (v1 + 1)) rfl (by decide) (lv' := [(1, .int (v1 + 1)), (0, .ref (ad o))]) rfl ?_
      refine w_goto (tgt := 23) (pc := 41) X dX7_clear_41 (by decide) ?_
      exact w_sub (pc := 23) [1, 0] rfl (ih _ _ _ h K)
set_option maxRecDepth 20000 in
theorem M7_clear {o : Nat} {s : Sto} {σ' : Sto} (h : f7_clear o s = some σ') : Ct yX7_clear cX7_clear 2 none 1 22 (fun ad => [.ref (ad o)]) s (fun _ => none) σ' := by
  unfold f7_clear at h
  obtain ⟨k_o, h⟩ := gd_inv h
  refine Ct_of (by decide) (fun ad => Nat.le_of_ble_eq_true rfl) (fun φ ad X hQ => ?_)
  show wpm φ ad 0 [(0, .ref (ad o))] [] s
  replace X : Cx φ ad cX7_clear none RX7 2 1 22 := X
  refine w_aload_n (pc := 0) X dX7_clear_0 0 rfl ?_
  refine w_iconst (pc := 1) X dX7_clear_1 (v := 0) rfl ?_
  refine w_putI (pc := 2) X dX7_clear_2 clO_7 k_o 0 (by decide) rfl rfl (Or.inl rfl) fl_7_9 ?_
  obtain ⟨s1, e_s1, h⟩ := nm_inv h
  refine w_nm e_s1 ?_
  refine w_aload_n (pc := 5) X dX7_clear_5 0 rfl ?_
  refine w_bipush (pc := 6) X dX7_clear_6 (v := (-6)) rfl ?_
  refine w_putI (pc := 8) X dX7_clear_8 clO_7 k_o 1 (by decide) rfl rfl (Or.inl rfl) fl_7_15 ?_
  obtain ⟨s2, e_s2, h⟩ := nm_inv h
  refine w_nm e_s2 ?_
  refine w_aload_n (pc := 11) X dX7_clear_11 0 rfl ?_
  refine w_iconst (pc := 12) X dX7_clear_12 (v := 0) rfl ?_
  refine w_putI (pc := 13) X dX7_clear_13 clO_7 k_o 2 (by decide) rfl rfl (Or.inl rfl) fl_7_18 ?_
  obtain ⟨s3, e_s3, h⟩ := nm_inv h
  refine w_nm e_s3 ?_
  refine w_aload_n (pc := 16) X dX7_clear_16 0 rfl ?_
  refine w_iconst (pc := 17) X dX7_clear_17 (v := 0) rfl ?_
  refine w_putI (pc := 18) X dX7_clear_18 clO_7 k_o 3 (by decide) rfl rfl (Or.inl rfl) fl_7_21 ?_
  obtain ⟨s4, e_s4, h⟩ := nm_inv h
  refine w_nm e_s4 ?_
  refine w_iconst (pc := 21) X dX7_clear_21 (v := 0) rfl ?_
  refine w_istore_n (pc := 22) X dX7_clear_22 1 rfl (by decide) (lv' := [(1, .int (0 : Int32)), (0, .ref (ad o))]) rfl ?_
  obtain ⟨s9, h8, h⟩ := bd1_inv h
  refine w_sub (pc := 23) [1, 0] rfl (WL7_clear_23 X o k_o FU (0 : Int32) s4 s9 h8 ?_)
  cases h
  exact w_vret X hQ dX7_clear_44
set_option maxRecDepth 20000 in
theorem WL0_sightsFit_2 {φ : Fr} {ad : Nat → Nat} (X : Cx φ ad cX0_sightsFit (some .boolean) RX0 4 1 21) (o : Nat) (a1 : Nat) (k_o : kd o = 0) (k_a1 : kd a1 = 1) {r : Int32} {σ' : Sto} (hQ : Fini φ ad (some (.int r)) σ') : ∀ (fuel : Nat) (v2 : Int32) (s : Sto), L0_sightsFit_2 o a1 fuel v2 s = some (r, σ') → wpm φ ad 2 [(0, .ref (ad o)), (1, .ref (ad a1)), (2, .int v2)] [] s := by
  intro fuel
  induction fuel with
  | zero => intro v2 s h; cases h
  | succ fuel ih =>
    intro v2 s h
    unfold L0_sightsFit_2 at h
    refine w_iload_n (pc := 2) X dX0_sightsFit_2 2 rfl ?_
    refine w_aload_n (pc := 3) X dX0_sightsFit_3 0 rfl ?_
    refine w_getI (pc := 4) X dX0_sightsFit_4 clO_0 k_o 4 (by decide) rfl fl_0_29 ?_
    refine w_icmp_ge (pc := 7) (tgt := 54) X dX0_sightsFit_7 (by decide) (fun c12 => ?_) (fun c12 => ?_)
    · replace h := it_pos c12 h
      refine w_iconst (pc := 54) X dX0_sightsFit_54 (v := 1) rfl ?_
      cases h
      exact w_zret X hQ dX0_sightsFit_55 (Or.inr rfl)
    · replace h := it_neg c12 h
      refine w_aload_n (pc := 10) X dX0_sightsFit_10 0 rfl ?_
      refine w_getR (pc := 11) X dX0_sightsFit_11 clO_0 k_o 5 (by decide) (d := 6) rfl fl_0_32 ?_
      refine w_iload_n (pc := 14) X dX0_sightsFit_14 2 rfl ?_
      obtain ⟨r3, s1, h2, h⟩ := bd2_inv h
      refine w_callSN (pc := 15) X dX0_sightsFit_15 (M8_at h2) mn_0_57 cw_0_57 ⟨Nat.le_of_ble_eq_true rfl, Nat.le_of_ble_eq_true rfl⟩ rfl rfl (Nat.le_of_ble_eq_true rfl) ?_
      show wpm φ ad 18 [(0, .ref (ad o)), (1, .ref (ad a1)), (2, .int v2)] [.int r3] s1
      refine w_istore_n (pc := 18) X dX0_sightsFit_18 3 rfl (by decide) (lv' := [(3, .int r3), (0, .ref (ad o)), (1, .ref (ad a1)), (2, .int v2)]) rfl ?_
      refine w_iload_n (pc := 19) X dX0_sightsFit_19 0 rfl ?_
      refine w_aload_n (pc := 20) X dX0_sightsFit_20 2 rfl ?_
      refine w_getI (pc := 21) X dX0_sightsFit_21 clO_1 k_a1 1 (by decide) rfl fl_0_65 ?_
      refine w_icmp_gt (pc := 24) (tgt := 46) X dX0_sightsFit_24 (by decide) (fun c11 => ?_) (fun c11 => ?_)
      · replace h := it_pos c11 h
        refine w_iconst (pc := 46) X dX0_sightsFit_46 (v := 0) rfl ?_
        cases h
        exact w_zret X hQ dX0_sightsFit_47 (Or.inl rfl)
      · replace h := it_neg c11 h
        refine w_aload_n (pc := 27) X dX0_sightsFit_27 2 rfl ?_
        refine w_getR (pc := 28) X dX0_sightsFit_28 clO_1 k_a1 2 (by decide) (d := 2) rfl fl_0_70 ?_
        refine w_iload_n (pc := 31) X dX0_sightsFit_31 0 rfl ?_
        obtain ⟨r6, s4, h5, h⟩ := bd2_inv h
        refine w_callSN (pc := 32) X dX0_sightsFit_32 (M8_at h5) mn_0_57 cw_0_57 ⟨Nat.le_of_ble_eq_true rfl, Nat.le_of_ble_eq_true rfl⟩ rfl rfl (Nat.le_of_ble_eq_true rfl) ?_
        show wpm φ ad 35 [(3, .int r3), (0, .ref (ad o)), (1, .ref (ad a1)), (2, .int v2)] [.int r6] s4
        refine w_aload_n (pc := 35) X dX0_sightsFit_35 1 rfl ?_
        refine w_getR (pc := 36) X dX0_sightsFit_36 clO_0 k_o 6 (by decide) (d := 7) rfl fl_0_35 ?_
        refine w_iload_n (pc := 39) X dX0_sightsFit_39 3 rfl ?_
        obtain ⟨r9, s7, h8, h⟩ := bd2_inv h
        refine w_callSN (pc := 40) X dX0_sightsFit_40 (M8_at h8) mn_0_57 cw_0_57 ⟨Nat.le_of_ble_eq_true rfl, Nat.le_of_ble_eq_true rfl⟩ rfl rfl (Nat.le_of_ble_eq_true rfl) ?_
        show wpm φ ad 43 [(3, .int r3), (0, .ref (ad o)), (1, .ref (ad a1)), (2, .int v2)] [.int r9, .int r6] s7
        refine w_icmp_eq (pc := 43) (tgt := 48) X dX0_sightsFit_43 (by decide) (fun c10 => ?_) (fun c10 => ?_)
        · replace h := it_pos c10 h
          refine w_iinc (pc := 48) X dX0_sightsFit_48 3 rfl (v := (v2 + 1)) rfl (by decide) (lv' := [(2, .int (v2 + 1)), (3, .int r3), (0, .ref (ad o)), (1, .ref (ad a1))]) rfl ?_
          refine w_goto (tgt := 2) (pc := 51) X dX0_sightsFit_51 (by decide) ?_
          exact w_sub (pc := 2) [2, 3, 0] rfl (ih _ _ h)
        · replace h := it_neg c10 h
          refine w_iconst (pc := 46) X dX0_sightsFit_46 (v := 0) rfl ?_
          cases h
          exact w_zret X hQ dX0_sightsFit_47 (Or.inl rfl)
set_option maxRecDepth 20000 in
theorem M0_sightsFit {o : Nat} {a1 : Nat} {s : Sto} {r : Int32} {σ' : Sto} (h : f0_sightsFit o a1 s = some (r, σ')) : Ct yX0_sightsFit cX0_sightsFit 4 (some .boolean) 1 21 (fun ad => [.ref (ad o), .ref (ad a1)]) s (fun ad => some (.int r)) σ' := by
  unfold f0_sightsFit at h
  obtain ⟨⟨k_o, k_a1⟩, h⟩ := gd_inv h
  refine Ct_of (by decide) (fun ad => Nat.le_of_ble_eq_true rfl) (fun φ ad X hQ => ?_)
  show wpm φ ad 0 [(0, .ref (ad o)), (1, .ref (ad a1))] [] s
  replace X : Cx φ ad cX0_sightsFit (some .boolean) RX0 4 1 21 := X
  refine w_iconst (pc := 0) X dX0_sightsFit_0 (v := 0) rfl ?_
  refine w_istore_n (pc := 1) X dX0_sightsFit_1 2 rfl (by decide) (lv' := [(2, .int (0 : Int32)), (0, .ref (ad o)), (1, .ref (ad a1))]) rfl ?_
  exact w_sub (pc := 2) [1, 2, 0] rfl (WL0_sightsFit_2 X o a1 k_o k_a1 hQ FU (0 : Int32) s h)
set_option maxRecDepth 20000 in
theorem WL7_add_49 {φ : Fr} {ad : Nat → Nat} (X : Cx φ ad cX7_add none RX7 3 1 22) (o : Nat) (a1 : Int32) (k_o : kd o = 7) : ∀ (fuel : Nat) (v2 : Int32) (s : Sto)  (t : Sto), L7_add_49 o a1 fuel v2 s = some (t) → wpm φ ad 83 [] [] t → wpm φ ad 49 [(0, .ref (ad o)), (1, .int a1), (2, .int v2)] [] s := by
  intro fuel
  induction fuel with
  | zero => intro v2 s t h; cases h
  | succ fuel ih =>
    intro v2 s t h K
    unfold L7_add_49 at h
    refine w_iload_n (pc := 49) X dX7_add_49 2 rfl ?_
    refine w_bipush (pc := 50) X dX7_add_50 (v := (8)) rfl ?_
    refine w_icmp_ge (pc := 52) (tgt := 83) X dX7_add_52 (by decide) (fun c13 => ?_) (fun c13 => ?_)
    · replace h := it_pos c13 h
      cases h
      exact w_sub (pc := 83) [] rfl K
    · replace h := it_neg c13 h
      refine w_aload_n (pc := 55) X dX7_add_55 0 rfl ?_
      refine w_getR (pc := 56) X dX7_add_56 clO_7 k_o 4 (by decide) (d := 1) rfl fl_7_24 ?_
      refine w_iload_n (pc := 59) X dX7_add_59 2 rfl ?_
      refine w_aload_n (pc := 60) X dX7_add_60 0 rfl ?_
      refine w_getR (pc := 61) X dX7_add_61 clO_7 k_o 4 (by decide) (d := 1) rfl fl_7_24 ?_
      refine w_iload_n (pc := 64) X dX7_add_64 2 rfl ?_
      obtain ⟨r10, s8, h9, h⟩ := bd2_inv h
      refine w_callSN (pc := 65) X dX7_add_65 (M8_at h9) mn_7_32 cw_7_32 ⟨Nat.le_of_ble_eq_true rfl, Nat.le_of_ble_eq_true rfl⟩ rfl rfl (Nat.le_of_ble_eq_true rfl) ?_
      show wpm φ ad 68 [(0, .ref (ad o)), (1, .int a1), (2, .int v2)] [.int r10, .int v2, .ref (ad (o + 1))] s8
      refine w_iload_n (pc := 68) X dX7_add_68 1 rfl ?_
      refine w_iload_n (pc := 69) X dX7_add_69 2 rfl ?_
      refine w_ishr (pc := 70) X dX7_add_70 ?_
      refine w_iconst (pc := 71) X dX7_add_71 (v := 1) rfl ?_
      refine w_iand (pc := 72) X dX7_add_72 ?_
      refine w_iadd (pc := 73) X dX7_add_73 ?_
      obtain ⟨s11, h12, h⟩ := bd1_inv h
      refine w_callSN (pc := 74) X dX7_add_74 (M8_put h12) mn_7_28 cw_7_28 ⟨Nat.le_of_ble_eq_true rfl, Nat.le_of_ble_eq_true rfl⟩ rfl rfl (Nat.le_of_ble_eq_true rfl) ?_
      show wpm φ ad 77 [(0, .ref (ad o)), (1, .int a1), (2, .int v2)] [] s11
      refine w_iinc (pc := 77) X dX7_add_77 2 rfl (v := (v2 + 1)) rfl (by decide) (lv' := [(2, .int (v2 + 1)), (0, .ref (ad o)), (1, .int a1)]) rfl ?_
      refine w_goto (tgt := 49) (pc := 80) X dX7_add_80 (by decide) ?_
      exact w_sub (pc := 49) [1, 2, 0] rfl (ih _ _ _ h K)
set_option maxRecDepth 20000 in
theorem M7_add {o : Nat} {a1 : Int32} {s : Sto} {σ' : Sto} (h : f7_add o a1 s = some σ') : Ct yX7_add cX7_add 3 none 1 22 (fun ad => [.ref (ad o), .int a1]) s (fun _ => none) σ' := by
  unfold f7_add at h
  obtain ⟨k_o, h⟩ := gd_inv h
  refine Ct_of (by decide) (fun ad => Nat.le_of_ble_eq_true rfl) (fun φ ad X hQ => ?_)
  show wpm φ ad 0 [(0, .ref (ad o)), (1, .int a1)] [] s
  replace X : Cx φ ad cX7_add none RX7 3 1 22 := X
  refine w_aload_n (pc := 0) X dX7_add_0 0 rfl ?_
  refine w_getI (pc := 1) X dX7_add_1 clO_7 k_o 0 (by decide) rfl fl_7_9 ?_
  obtain ⟨s4, h16, h⟩ := bd1_inv h
  have K4 : wpm φ ad 17 [(0, .ref (ad o)), (1, .int a1)] [] s4 := by
    refine w_aload_n (pc := 17) X dX7_add_17 0 rfl ?_
    refine w_dup (pc := 18) X dX7_add_18 rfl ?_
    refine w_getI (pc := 19) X dX7_add_19 clO_7 k_o 0 (by decide) rfl fl_7_9 ?_
    refine w_iconst (pc := 22) X dX7_add_22 (v := 1) rfl ?_
    refine w_iadd (pc := 23) X dX7_add_23 ?_
    refine w_putI (pc := 24) X dX7_add_24 clO_7 k_o 0 (by decide) rfl rfl (Or.inl rfl) fl_7_9 ?_
    obtain ⟨s5, e_s5, h⟩ := nm_inv h
    refine w_nm e_s5 ?_
    refine w_aload_n (pc := 27) X dX7_add_27 0 rfl ?_
    refine w_dup (pc := 28) X dX7_add_28 rfl ?_
    refine w_getI (pc := 29) X dX7_add_29 clO_7 k_o 2 (by decide) rfl fl_7_18 ?_
    refine w_iload_n (pc := 32) X dX7_add_32 1 rfl ?_
    refine w_iand (pc := 33) X dX7_add_33 ?_
    refine w_putI (pc := 34) X dX7_add_34 clO_7 k_o 2 (by decide) rfl rfl (Or.inl rfl) fl_7_18 ?_
    obtain ⟨s6, e_s6, h⟩ := nm_inv h
    refine w_nm e_s6 ?_
    refine w_aload_n (pc := 37) X dX7_add_37 0 rfl ?_
    refine w_dup (pc := 38) X dX7_add_38 rfl ?_
    refine w_getI (pc := 39) X dX7_add_39 clO_7 k_o 3 (by decide) rfl fl_7_21 ?_
    refine w_iload_n (pc := 42) X dX7_add_42 1 rfl ?_
    refine w_ior (pc := 43) X dX7_add_43 ?_
    refine w_putI (pc := 44) X dX7_add_44 clO_7 k_o 3 (by decide) rfl rfl (Or.inl rfl) fl_7_21 ?_
    obtain ⟨s7, e_s7, h⟩ := nm_inv h
    refine w_nm e_s7 ?_
    refine w_iconst (pc := 47) X dX7_add_47 (v := 0) rfl ?_
    refine w_istore_n (pc := 48) X dX7_add_48 2 rfl (by decide) (lv' := [(2, .int (0 : Int32)), (0, .ref (ad o)), (1, .int a1)]) rfl ?_
    obtain ⟨s15, h14, h⟩ := bd1_inv h
    refine w_sub (pc := 49) [1, 2, 0] rfl (WL7_add_49 X o a1 k_o FU (0 : Int32) s7 s15 h14 ?_)
    cases h
    exact w_vret X hQ dX7_add_83
  clear h
  have h := h16
  clear h16
  refine w_if_ne (pc := 4) (tgt := 17) X dX7_add_4 (by decide) (fun c3 => ?_) (fun c3 => ?_)
  · replace h := it_neg c3 h
    cases h
    exact w_sub (pc := 17) [0, 1] rfl K4
  · replace h := it_pos c3 h
    refine w_aload_n (pc := 7) X dX7_add_7 0 rfl ?_
    refine w_iload_n (pc := 8) X dX7_add_8 1 rfl ?_
    refine w_putI (pc := 9) X dX7_add_9 clO_7 k_o 1 (by decide) rfl rfl (Or.inl rfl) fl_7_15 ?_
    obtain ⟨s1, e_s1, h⟩ := nm_inv h
    refine w_nm e_s1 ?_
    refine w_aload_n (pc := 12) X dX7_add_12 0 rfl ?_
    refine w_iload_n (pc := 13) X dX7_add_13 1 rfl ?_
    refine w_putI (pc := 14) X dX7_add_14 clO_7 k_o 2 (by decide) rfl rfl (Or.inl rfl) fl_7_18 ?_
    obtain ⟨s2, e_s2, h⟩ := nm_inv h
    refine w_nm e_s2 ?_
    cases h
    exact w_sub (pc := 17) [0, 1] rfl K4
set_option maxRecDepth 20000 in
theorem WL8_surveyWorlds_44 {φ : Fr} {ad : Nat → Nat} (X : Cx φ ad cX8_surveyWorlds (some .boolean) RX8 3 5 112) (o : Nat) (a1 : Int32) (k_o : kd o = 8) : ∀ (fuel : Nat) (v2 : Int32) (s : Sto)  (t : Sto), L8_surveyWorlds_44 o a1 fuel v2 s = some (t) → wpm φ ad 101 [] [] t → wpm φ ad 44 [(0, .ref (ad o)), (1, .int a1), (2, .int v2)] [] s := by
  intro fuel
  induction fuel with
  | zero => intro v2 s t h; cases h
  | succ fuel ih =>
    intro v2 s t h K
    unfold L8_surveyWorlds_44 at h
    refine w_iload_n (pc := 44) X dX8_surveyWorlds_44 2 rfl ?_
    refine w_iload_n (pc := 45) X dX8_surveyWorlds_45 1 rfl ?_
    refine w_icmp_ge (pc := 46) (tgt := 101) X dX8_surveyWorlds_46 (by decide) (fun c16 => ?_) (fun c16 => ?_)
    · replace h := it_pos c16 h
      cases h
      exact w_sub (pc := 101) [] rfl K
    · replace h := it_neg c16 h
      refine w_aload_n (pc := 49) X dX8_surveyWorlds_49 0 rfl ?_
      refine w_getR (pc := 50) X dX8_surveyWorlds_50 clO_8 k_o 4 (by decide) (d := 27) rfl fl_8_32 ?_
      refine w_aload_n (pc := 53) X dX8_surveyWorlds_53 0 rfl ?_
      refine w_getR (pc := 54) X dX8_surveyWorlds_54 clO_8 k_o 0 (by decide) (d := 1) rfl fl_8_10 ?_
      refine w_iload_n (pc := 57) X dX8_surveyWorlds_57 2 rfl ?_
      obtain ⟨s7, h8, h⟩ := bd1_inv h
      refine w_callV (pc := 58) X dX8_surveyWorlds_58 (M1_play h8) (kp_8_27 k_o) (by decide) rfl cw_8_255 ⟨Nat.le_of_ble_eq_true rfl, Nat.le_of_ble_eq_true rfl⟩ rfl rfl (Nat.le_of_ble_eq_true rfl) ?_
      show wpm φ ad 61 [(0, .ref (ad o)), (1, .int a1), (2, .int v2)] [] s7
      refine w_aload_n (pc := 61) X dX8_surveyWorlds_61 0 rfl ?_
      refine w_getR (pc := 62) X dX8_surveyWorlds_62 clO_8 k_o 4 (by decide) (d := 27) rfl fl_8_32 ?_
      refine w_getI (pc := 65) X dX8_surveyWorlds_65 clO_1 (kp_8_27 k_o) 4 (by decide) rfl fl_8_121 ?_
      refine w_bipush (pc := 68) X dX8_surveyWorlds_68 (v := (-6)) rfl ?_
      refine w_icmp_ne (pc := 70) (tgt := 95) X dX8_surveyWorlds_70 (by decide) (fun c15 => ?_) (fun c15 => ?_)
      · replace h := it_neg c15 h
        refine w_iinc (pc := 95) X dX8_surveyWorlds_95 2 rfl (v := (v2 + 1)) rfl (by decide) (lv' := [(2, .int (v2 + 1)), (0, .ref (ad o)), (1, .int a1)]) rfl ?_
        refine w_goto (tgt := 44) (pc := 98) X dX8_surveyWorlds_98 (by decide) ?_
        exact w_sub (pc := 44) [1, 2, 0] rfl (ih _ _ _ h K)
      · replace h := it_pos c15 h
        refine w_aload_n (pc := 73) X dX8_surveyWorlds_73 0 rfl ?_
        refine w_getR (pc := 74) X dX8_surveyWorlds_74 clO_8 k_o 0 (by decide) (d := 1) rfl fl_8_10 ?_
        refine w_aload_n (pc := 77) X dX8_surveyWorlds_77 0 rfl ?_
        refine w_getR (pc := 78) X dX8_surveyWorlds_78 clO_8 k_o 4 (by decide) (d := 27) rfl fl_8_32 ?_
        obtain ⟨r11, s9, h10, h⟩ := bd2_inv h
        refine w_callV (pc := 81) X dX8_surveyWorlds_81 (M0_sightsFit h10) (kp_8_1 k_o) (by decide) rfl cw_8_261 ⟨Nat.le_of_ble_eq_true rfl, Nat.le_of_ble_eq_true rfl⟩ rfl rfl (Nat.le_of_ble_eq_true rfl) ?_
        show wpm φ ad 84 [(0, .ref (ad o)), (1, .int a1), (2, .int v2)] [.int r11] s9
        refine w_if_eq (pc := 84) (tgt := 95) X dX8_surveyWorlds_84 (by decide) (fun c14 => ?_) (fun c14 => ?_)
        · replace h := it_pos c14 h
          refine w_iinc (pc := 95) X dX8_surveyWorlds_95 2 rfl (v := (v2 + 1)) rfl (by decide) (lv' := [(2, .int (v2 + 1)), (0, .ref (ad o)), (1, .int a1)]) rfl ?_
          refine w_goto (tgt := 44) (pc := 98) X dX8_surveyWorlds_98 (by decide) ?_
          exact w_sub (pc := 44) [1, 2, 0] rfl (ih _ _ _ h K)
        · replace h := it_neg c14 h
          refine w_aload_n (pc := 87) X dX8_surveyWorlds_87 0 rfl ?_
          refine w_getR (pc := 88) X dX8_surveyWorlds_88 clO_8 k_o 6 (by decide) (d := 37) rfl fl_8_46 ?_
          refine w_iload_n (pc := 91) X dX8_surveyWorlds_91 2 rfl ?_
          obtain ⟨s12, h13, h⟩ := bd1_inv h
          refine w_callV (pc := 92) X dX8_surveyWorlds_92 (M7_add h13) (kp_8_37 k_o) (by decide) rfl cw_8_265 ⟨Nat.le_of_ble_eq_true rfl, Nat.le_of_ble_eq_true rfl⟩ rfl rfl (Nat.le_of_ble_eq_true rfl) ?_
          show wpm φ ad 95 [(0, .ref (ad o)), (1, .int a1), (2, .int v2)] [] s12
          refine w_iinc (pc := 95) X dX8_surveyWorlds_95 2 rfl (v := (v2 + 1)) rfl (by decide) (lv' := [(2, .int (v2 + 1)), (0, .ref (ad o)), (1, .int a1)]) rfl ?_
          refine w_goto (tgt := 44) (pc := 98) X dX8_surveyWorlds_98 (by decide) ?_
          exact w_sub (pc := 44) [1, 2, 0] rfl (ih _ _ _ h K)
set_option maxRecDepth 20000 in
theorem M8_surveyWorlds {o : Nat} {s : Sto} {r : Int32} {σ' : Sto} (h : f8_surveyWorlds o s = some (r, σ')) : Ct yX8_surveyWorlds cX8_surveyWorlds 3 (some .boolean) 5 112 (fun ad => [.ref (ad o)]) s (fun ad => some (.int r)) σ' := by
  unfold f8_surveyWorlds at h
  obtain ⟨k_o, h⟩ := gd_inv h
  refine Ct_of (by decide) (fun ad => Nat.le_of_ble_eq_true rfl) (fun φ ad X hQ => ?_)
  show wpm φ ad 0 [(0, .ref (ad o))] [] s
  replace X : Cx φ ad cX8_surveyWorlds (some .boolean) RX8 3 5 112 := X
  refine w_aload_n (pc := 0) X dX8_surveyWorlds_0 0 rfl ?_
  refine w_getR (pc := 1) X dX8_surveyWorlds_1 clO_8 k_o 4 (by decide) (d := 27) rfl fl_8_32 ?_
  refine w_aload_n (pc := 4) X dX8_surveyWorlds_4 0 rfl ?_
  refine w_getR (pc := 5) X dX8_surveyWorlds_5 clO_8 k_o 3 (by decide) (d := 25) rfl fl_8_25 ?_
  refine w_aload_n (pc := 8) X dX8_surveyWorlds_8 0 rfl ?_
  refine w_getR (pc := 9) X dX8_surveyWorlds_9 clO_8 k_o 0 (by decide) (d := 1) rfl fl_8_10 ?_
  refine w_getI (pc := 12) X dX8_surveyWorlds_12 clO_0 (kp_8_1 k_o) 0 (by decide) rfl fl_8_68 ?_
  obtain ⟨r3, s1, h2, h⟩ := bd2_inv h
  refine w_callV (pc := 15) X dX8_surveyWorlds_15 (M1_read h2) (kp_8_27 k_o) (by decide) rfl cw_8_110 ⟨Nat.le_of_ble_eq_true rfl, Nat.le_of_ble_eq_true rfl⟩ rfl rfl (Nat.le_of_ble_eq_true rfl) ?_
  show wpm φ ad 18 [(0, .ref (ad o))] [.int r3] s1
  refine w_bipush (pc := 18) X dX8_surveyWorlds_18 (v := (-6)) rfl ?_
  refine w_icmp_eq (pc := 20) (tgt := 25) X dX8_surveyWorlds_20 (by decide) (fun c19 => ?_) (fun c19 => ?_)
  · replace h := it_pos c19 h
    refine w_aload_n (pc := 25) X dX8_surveyWorlds_25 0 rfl ?_
    refine w_getR (pc := 26) X dX8_surveyWorlds_26 clO_8 k_o 6 (by decide) (d := 37) rfl fl_8_46 ?_
    obtain ⟨s4, h5, h⟩ := bd1_inv h
    refine w_callV (pc := 29) X dX8_surveyWorlds_29 (M7_clear h5) (kp_8_37 k_o) (by decide) rfl cw_8_258 ⟨Nat.le_of_ble_eq_true rfl, Nat.le_of_ble_eq_true rfl⟩ rfl rfl (Nat.le_of_ble_eq_true rfl) ?_
    show wpm φ ad 32 [(0, .ref (ad o))] [] s4
    refine w_iconst (pc := 32) X dX8_surveyWorlds_32 (v := 1) rfl ?_
    refine w_aload_n (pc := 33) X dX8_surveyWorlds_33 0 rfl ?_
    refine w_getR (pc := 34) X dX8_surveyWorlds_34 clO_8 k_o 0 (by decide) (d := 1) rfl fl_8_10 ?_
    refine w_getI (pc := 37) X dX8_surveyWorlds_37 clO_0 (kp_8_1 k_o) 0 (by decide) rfl fl_8_68 ?_
    refine w_ishl (pc := 40) X dX8_surveyWorlds_40 ?_
    obtain ⟨x6, e_x6, h⟩ := nm_inv h
    refine w_nmi e_x6 ?_
    refine w_istore_n (pc := 41) X dX8_surveyWorlds_41 1 rfl (by decide) (lv' := [(1, .int x6), (0, .ref (ad o))]) rfl ?_
    refine w_iconst (pc := 42) X dX8_surveyWorlds_42 (v := 0) rfl ?_
    refine w_istore_n (pc := 43) X dX8_surveyWorlds_43 2 rfl (by decide) (lv' := [(2, .int (0 : Int32)), (1, .int x6), (0, .ref (ad o))]) rfl ?_
    obtain ⟨s18, h17, h⟩ := bd1_inv h
    refine w_sub (pc := 44) [2, 1, 0] rfl (WL8_surveyWorlds_44 X o x6 k_o FU (0 : Int32) s4 s18 h17 ?_)
    refine w_iconst (pc := 101) X dX8_surveyWorlds_101 (v := 1) rfl ?_
    cases h
    exact w_zret X hQ dX8_surveyWorlds_102 (Or.inr rfl)
  · replace h := it_neg c19 h
    refine w_iconst (pc := 23) X dX8_surveyWorlds_23 (v := 0) rfl ?_
    cases h
    exact w_zret X hQ dX8_surveyWorlds_24 (Or.inl rfl)
