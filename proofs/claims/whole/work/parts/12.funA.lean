def f8_isWithin (a0 : Int32) (a1 : Int32) (a2 : Int32) (s : Sto) : Option (Int32 × Sto) :=
  if a0 < a1 then
    some ((0 : Int32), s)
  else
    if a2 < a0 then
      some ((0 : Int32), s)
    else
      some ((1 : Int32), s)
def f8_put (a0 : Nat) (a1 : Int32) (a2 : Int32) (s : Sto) : Option (Sto) :=
  if kd a0 = 10 then
  if a1 < 0 then
    some s
  else
    if (nI (ln a0)) ≤ a1 then
      some s
    else
      if inb a1 (ln a0) then
      nm (stI s a0 a1.toNatClampNeg a2) fun s2 =>
      some s2
      else none
  else none
def f2_restart (o : Nat) (s : Sto) : Option (Sto) :=
  if kd o = 2 then
  nm (stI s o 3 (0 : Int32)) fun s1 =>
  nm (stI s1 o 4 (20 : Int32)) fun s2 =>
  some s2
  else none
def L0_restart_12 (o : Nat) : Nat → Int32 → Sto → Option (Sto)
  | 0, _, _ => none
  | fuel + 1, v2, s =>
    if (6 : Int32) ≤ v2 then
      some s
    else
      Option.bind (f8_put (o + 1) v2 (0 : Int32) s) fun s3 =>
      L0_restart_12 o fuel (v2 + 1) s3
def f0_restart (o : Nat) (a1 : Int32) (s : Sto) : Option (Sto) :=
  if kd o = 0 then
  nm (stI s o 0 a1) fun s1 =>
  nm (stI s1 o 1 (0 : Int32)) fun s2 =>
  Option.bind (L0_restart_12 o FU (0 : Int32) s2) fun s7 =>
  Option.bind (f2_restart (o + 2) s7) fun s8 =>
  nm (stI s8 o 4 (0 : Int32)) fun s10 =>
  some s10
  else none
def f8_facts (o : Nat) (a1 : Int32) (s : Sto) : Option (Int32 × Sto) :=
  if kd o = 8 then
  bd2 (f8_isWithin a1 (1 : Int32) (8 : Int32) s) fun r3 s1 =>
  if r3 = 0 then
    some ((-2 : Int32), s1)
  else
    Option.bind (f0_restart (o + 1) a1 s1) fun s4 =>
    some ((s1.1 (o + 1) 0), s4)
  else none
def f8_fact (o : Nat) (a1 : Int32) (a2 : Int32) (s : Sto) : Option (Int32 × Sto) :=
  if kd o = 8 then
  bd2 (f8_isWithin a1 (0 : Int32) ((s.1 (o + 1) 0) - (1 : Int32)) s) fun r3 s1 =>
  if r3 = 0 then
    some ((-1 : Int32), s1)
  else
    if a2 = 0 then
      nm (stI s1 (o + 1) 1 ((s1.1 (o + 1) 1) &&& (((1 : Int32) <<< (a1 &&& 31)) ^^^ (-1 : Int32)))) fun s4 =>
      some ((s4.1 (o + 1) 1), s4)
    else
      nm (stI s1 (o + 1) 1 ((s1.1 (o + 1) 1) ||| ((1 : Int32) <<< (a1 &&& 31)))) fun s5 =>
      some ((s5.1 (o + 1) 1), s5)
  else none
def f8_isGuest (a0 : Int32) (s : Sto) : Option (Int32 × Sto) :=
  bd2 (f8_isWithin a0 (0 : Int32) (5 : Int32) s) fun r3 s1 =>
  if r3 = 0 ∨ r3 = 1 then
  some (r3, s1)
  else none
def f8_at (a0 : Nat) (a1 : Int32) (s : Sto) : Option (Int32 × Sto) :=
  if kd a0 = 10 then
  if a1 < 0 then
    some ((-6 : Int32), s)
  else
    if (nI (ln a0)) ≤ a1 then
      some ((-6 : Int32), s)
    else
      if inb a1 (ln a0) then
      some ((s.1 a0 a1.toNatClampNeg), s)
      else none
  else none
def f0_temperOf (o : Nat) (a1 : Int32) (s : Sto) : Option (Int32 × Sto) :=
  if kd o = 0 then
  bd2 (f8_at (o + 1) a1 s) fun r3 s1 =>
  some (r3, s1)
  else none
def f8_temper (o : Nat) (a1 : Int32) (a2 : Int32) (s : Sto) : Option (Int32 × Sto) :=
  if kd o = 8 then
  bd2 (f8_isGuest a1 s) fun r3 s1 =>
  if r3 = 0 then
    some ((-1 : Int32), s1)
  else
    bd2 (f8_isWithin a2 (0 : Int32) (2 : Int32) s1) fun r6 s4 =>
    if r6 = 0 then
      some ((-2 : Int32), s4)
    else
      bd2 (f0_temperOf (o + 1) a1 s4) fun r9 s7 =>
      Option.bind (f8_put ((o + 1) + 1) a1 a2 s7) fun s10 =>
      some (r9, s10)
  else none
def f8_width (o : Nat) (a1 : Int32) (s : Sto) : Option (Int32 × Sto) :=
  if kd o = 8 then
  bd2 (f8_isWithin a1 (0 : Int32) (40 : Int32) s) fun r3 s1 =>
  if r3 = 0 then
    some ((-2 : Int32), s1)
  else
    nm (stI s1 ((o + 1) + 2) 4 a1) fun s4 =>
    some ((s1.1 ((o + 1) + 2) 4), s4)
  else none
def f5_add (o : Nat) (a1 : Int32) (s : Sto) : Option (Int32 × Sto) :=
  if kd o = 5 then
  if (s.1 o 1) < (60 : Int32) then
    Option.bind (f8_put (o + 1) (s.1 o 1) a1 s) fun s1 =>
    nm (stI s1 o 1 ((s1.1 o 1) + (1 : Int32))) fun s3 =>
    some ((s3.1 o 1), s3)
  else
    some ((-4 : Int32), s)
  else none
def f8_say (o : Nat) (a1 : Int32) (s : Sto) : Option (Int32 × Sto) :=
  if kd o = 8 then
  bd2 (f8_isWithin a1 (33 : Int32) (126 : Int32) s) fun r3 s1 =>
  if r3 = 0 then
    some ((-2 : Int32), s1)
  else
    bd2 (f5_add (o + 25) a1 s1) fun r6 s4 =>
    some (r6, s4)
  else none
def f8_wipe (o : Nat) (s : Sto) : Option (Int32 × Sto) :=
  if kd o = 8 then
  nm (stI s (o + 25) 1 (0 : Int32)) fun s1 =>
  some ((s.1 (o + 25) 1), s1)
  else none
def f1_unspoken (a0 : Int32) (s : Sto) : Option (Int32 × Sto) :=
  if a0 = 33 then
    some ((102 : Int32), s)
  else
  if a0 = 46 then
    some ((100 : Int32), s)
  else
  if a0 = 63 then
    some ((101 : Int32), s)
  else
  some ((-6 : Int32), s)
def f1_add (o : Nat) (a1 : Int32) (s : Sto) : Option (Sto) :=
  if kd o = 1 then
  Option.bind (f8_put (o + 1) (s.1 o 1) a1 s) fun s1 =>
  nm (stI s1 o 1 ((s1.1 o 1) + (1 : Int32))) fun s3 =>
  some s3
  else none
def f8_spoken (a0 : Int32) (a1 : Int32) (a2 : Int32) (s : Sto) : Option (Int32 × Sto) :=
  if a2 = 0 then
    some ((((a0 * (16 : Int32)) + (a1 * (2 : Int32))) + (0 : Int32)), s)
  else
    some ((((a0 * (16 : Int32)) + (a1 * (2 : Int32))) + (1 : Int32)), s)
def L1_read_16 (o : Nat) (a1 : Nat) (a2 : Int32) : Nat → Int32 → Int32 → Int32 → Int32 → Sto → Option (Int32 × Sto)
  | 0, _, _, _, _, _ => none
  | fuel + 1, v3, v4, v5, v6, s =>
    if (s.1 a1 1) ≤ v6 then
      if v3 = 0 then
        some ((-6 : Int32), s)
      else
        some ((s.1 a1 1), s)
    else
      bd2 (f8_at (a1 + 1) v6 s) fun r5 s3 =>
      if v3 = 0 then
        bd2 (f8_isGuest (r5 - (65 : Int32)) s3) fun r104 s102 =>
        if r104 = 0 then
          if v3 = 0 then
            bd2 (f1_unspoken r5 s102) fun r150 s148 =>
            if r150 = (-6 : Int32) then
              if v3 = (1 : Int32) then
                bd2 (f8_isWithin (r5 - (97 : Int32)) (0 : Int32) (a2 - (1 : Int32)) s148) fun r172 s170 =>
                if r172 = 0 then
                  if v3 = (2 : Int32) then
                    if r5 = (43 : Int32) then
                      Option.bind (
                        if r5 = (43 : Int32) then
                          some (1 : Int32)
                        else
                          some (0 : Int32))
                      fun x174 =>
                      bd2 (f8_spoken v4 v5 x174 s170) fun r177 s175 =>
                      Option.bind (f1_add o r177 s175) fun s178 =>
                      L1_read_16 o a1 a2 fuel (0 : Int32) v4 v5 (v6 + 1) s178
                    else
                      if r5 = (45 : Int32) then
                        Option.bind (
                          if r5 = (43 : Int32) then
                            some (1 : Int32)
                          else
                            some (0 : Int32))
                        fun x182 =>
                        bd2 (f8_spoken v4 v5 x182 s170) fun r185 s183 =>
                        Option.bind (f1_add o r185 s183) fun s186 =>
                        L1_read_16 o a1 a2 fuel (0 : Int32) v4 v5 (v6 + 1) s186
                      else
                        some (v6, s170)
                  else
                    some (v6, s170)
                else
                  L1_read_16 o a1 a2 fuel (2 : Int32) v4 (r5 - (97 : Int32)) (v6 + 1) s170
              else
                if v3 = (2 : Int32) then
                  if r5 = (43 : Int32) then
                    Option.bind (
                      if r5 = (43 : Int32) then
                        some (1 : Int32)
                      else
                        some (0 : Int32))
                    fun x152 =>
                    bd2 (f8_spoken v4 v5 x152 s148) fun r155 s153 =>
                    Option.bind (f1_add o r155 s153) fun s156 =>
                    L1_read_16 o a1 a2 fuel (0 : Int32) v4 v5 (v6 + 1) s156
                  else
                    if r5 = (45 : Int32) then
                      Option.bind (
                        if r5 = (43 : Int32) then
                          some (1 : Int32)
                        else
                          some (0 : Int32))
                      fun x160 =>
                      bd2 (f8_spoken v4 v5 x160 s148) fun r163 s161 =>
                      Option.bind (f1_add o r163 s161) fun s164 =>
                      L1_read_16 o a1 a2 fuel (0 : Int32) v4 v5 (v6 + 1) s164
                    else
                      some (v6, s148)
                else
                  some (v6, s148)
            else
              bd2 (f1_unspoken r5 s148) fun r196 s194 =>
              Option.bind (f1_add o r196 s194) fun s197 =>
              L1_read_16 o a1 a2 fuel v3 v4 v5 (v6 + 1) s197
          else
            if v3 = (1 : Int32) then
              bd2 (f8_isWithin (r5 - (97 : Int32)) (0 : Int32) (a2 - (1 : Int32)) s102) fun r126 s124 =>
              if r126 = 0 then
                if v3 = (2 : Int32) then
                  if r5 = (43 : Int32) then
                    Option.bind (
                      if r5 = (43 : Int32) then
                        some (1 : Int32)
                      else
                        some (0 : Int32))
                    fun x128 =>
                    bd2 (f8_spoken v4 v5 x128 s124) fun r131 s129 =>
                    Option.bind (f1_add o r131 s129) fun s132 =>
                    L1_read_16 o a1 a2 fuel (0 : Int32) v4 v5 (v6 + 1) s132
                  else
                    if r5 = (45 : Int32) then
                      Option.bind (
                        if r5 = (43 : Int32) then
                          some (1 : Int32)
                        else
                          some (0 : Int32))
                      fun x136 =>
                      bd2 (f8_spoken v4 v5 x136 s124) fun r139 s137 =>
                      Option.bind (f1_add o r139 s137) fun s140 =>
                      L1_read_16 o a1 a2 fuel (0 : Int32) v4 v5 (v6 + 1) s140
                    else
                      some (v6, s124)
                else
                  some (v6, s124)
              else
                L1_read_16 o a1 a2 fuel (2 : Int32) v4 (r5 - (97 : Int32)) (v6 + 1) s124
            else
              if v3 = (2 : Int32) then
                if r5 = (43 : Int32) then
                  Option.bind (
                    if r5 = (43 : Int32) then
                      some (1 : Int32)
                    else
                      some (0 : Int32))
                  fun x106 =>
                  bd2 (f8_spoken v4 v5 x106 s102) fun r109 s107 =>
                  Option.bind (f1_add o r109 s107) fun s110 =>
                  L1_read_16 o a1 a2 fuel (0 : Int32) v4 v5 (v6 + 1) s110
                else
                  if r5 = (45 : Int32) then
                    Option.bind (
                      if r5 = (43 : Int32) then
                        some (1 : Int32)
                      else
                        some (0 : Int32))
                    fun x114 =>
                    bd2 (f8_spoken v4 v5 x114 s102) fun r117 s115 =>
                    Option.bind (f1_add o r117 s115) fun s118 =>
                    L1_read_16 o a1 a2 fuel (0 : Int32) v4 v5 (v6 + 1) s118
                  else
                    some (v6, s102)
              else
                some (v6, s102)
        else
          L1_read_16 o a1 a2 fuel (1 : Int32) (r5 - (65 : Int32)) v5 (v6 + 1) s102
      else
        if v3 = 0 then
          bd2 (f1_unspoken r5 s3) fun r51 s49 =>
          if r51 = (-6 : Int32) then
            if v3 = (1 : Int32) then
              bd2 (f8_isWithin (r5 - (97 : Int32)) (0 : Int32) (a2 - (1 : Int32)) s49) fun r73 s71 =>
              if r73 = 0 then
                if v3 = (2 : Int32) then
                  if r5 = (43 : Int32) then
                    Option.bind (
                      if r5 = (43 : Int32) then
                        some (1 : Int32)
                      else
                        some (0 : Int32))
                    fun x75 =>
                    bd2 (f8_spoken v4 v5 x75 s71) fun r78 s76 =>
                    Option.bind (f1_add o r78 s76) fun s79 =>
                    L1_read_16 o a1 a2 fuel (0 : Int32) v4 v5 (v6 + 1) s79
                  else
                    if r5 = (45 : Int32) then
                      Option.bind (
                        if r5 = (43 : Int32) then
                          some (1 : Int32)
                        else
                          some (0 : Int32))
                      fun x83 =>
                      bd2 (f8_spoken v4 v5 x83 s71) fun r86 s84 =>
                      Option.bind (f1_add o r86 s84) fun s87 =>
                      L1_read_16 o a1 a2 fuel (0 : Int32) v4 v5 (v6 + 1) s87
                    else
                      some (v6, s71)
                else
                  some (v6, s71)
              else
                L1_read_16 o a1 a2 fuel (2 : Int32) v4 (r5 - (97 : Int32)) (v6 + 1) s71
            else
              if v3 = (2 : Int32) then
                if r5 = (43 : Int32) then
                  Option.bind (
                    if r5 = (43 : Int32) then
                      some (1 : Int32)
                    else
                      some (0 : Int32))
                  fun x53 =>
                  bd2 (f8_spoken v4 v5 x53 s49) fun r56 s54 =>
                  Option.bind (f1_add o r56 s54) fun s57 =>
                  L1_read_16 o a1 a2 fuel (0 : Int32) v4 v5 (v6 + 1) s57
                else
                  if r5 = (45 : Int32) then
                    Option.bind (
                      if r5 = (43 : Int32) then
                        some (1 : Int32)
                      else
                        some (0 : Int32))
                    fun x61 =>
                    bd2 (f8_spoken v4 v5 x61 s49) fun r64 s62 =>
                    Option.bind (f1_add o r64 s62) fun s65 =>
                    L1_read_16 o a1 a2 fuel (0 : Int32) v4 v5 (v6 + 1) s65
                  else
                    some (v6, s49)
              else
                some (v6, s49)
          else
            bd2 (f1_unspoken r5 s49) fun r97 s95 =>
            Option.bind (f1_add o r97 s95) fun s98 =>
            L1_read_16 o a1 a2 fuel v3 v4 v5 (v6 + 1) s98
        else
          if v3 = (1 : Int32) then
            bd2 (f8_isWithin (r5 - (97 : Int32)) (0 : Int32) (a2 - (1 : Int32)) s3) fun r27 s25 =>
            if r27 = 0 then
              if v3 = (2 : Int32) then
                if r5 = (43 : Int32) then
                  Option.bind (
                    if r5 = (43 : Int32) then
                      some (1 : Int32)
                    else
                      some (0 : Int32))
                  fun x29 =>
                  bd2 (f8_spoken v4 v5 x29 s25) fun r32 s30 =>
                  Option.bind (f1_add o r32 s30) fun s33 =>
                  L1_read_16 o a1 a2 fuel (0 : Int32) v4 v5 (v6 + 1) s33
                else
                  if r5 = (45 : Int32) then
                    Option.bind (
                      if r5 = (43 : Int32) then
                        some (1 : Int32)
                      else
                        some (0 : Int32))
                    fun x37 =>
                    bd2 (f8_spoken v4 v5 x37 s25) fun r40 s38 =>
                    Option.bind (f1_add o r40 s38) fun s41 =>
                    L1_read_16 o a1 a2 fuel (0 : Int32) v4 v5 (v6 + 1) s41
                  else
                    some (v6, s25)
              else
                some (v6, s25)
            else
              L1_read_16 o a1 a2 fuel (2 : Int32) v4 (r5 - (97 : Int32)) (v6 + 1) s25
          else
            if v3 = (2 : Int32) then
              if r5 = (43 : Int32) then
                Option.bind (
                  if r5 = (43 : Int32) then
                    some (1 : Int32)
                  else
                    some (0 : Int32))
                fun x7 =>
                bd2 (f8_spoken v4 v5 x7 s3) fun r10 s8 =>
                Option.bind (f1_add o r10 s8) fun s11 =>
                L1_read_16 o a1 a2 fuel (0 : Int32) v4 v5 (v6 + 1) s11
              else
                if r5 = (45 : Int32) then
                  Option.bind (
                    if r5 = (43 : Int32) then
                      some (1 : Int32)
                    else
                      some (0 : Int32))
                  fun x15 =>
                  bd2 (f8_spoken v4 v5 x15 s3) fun r18 s16 =>
                  Option.bind (f1_add o r18 s16) fun s19 =>
                  L1_read_16 o a1 a2 fuel (0 : Int32) v4 v5 (v6 + 1) s19
                else
                  some (v6, s3)
            else
              some (v6, s3)
def f1_read (o : Nat) (a1 : Nat) (a2 : Int32) (s : Sto) : Option (Int32 × Sto) :=
  if kd o = 1 ∧ kd a1 = 5 then
  nm (stI s o 1 (0 : Int32)) fun s1 =>
  L1_read_16 o a1 a2 FU (0 : Int32) (0 : Int32) (0 : Int32) (0 : Int32) s1
  else none
def f6_add (o : Nat) (a1 : Int32) (a2 : Int32) (s : Sto) : Option (Sto) :=
  if kd o = 6 then
  Option.bind (f8_put (o + 1) (s.1 o 2) a1 s) fun s1 =>
  Option.bind (f8_put (o + 2) (s1.1 o 2) a2 s1) fun s3 =>
  nm (stI s3 o 2 ((s3.1 o 2) + (1 : Int32))) fun s5 =>
  some s5
  else none
def L6_read_9 (o : Nat) (a1 : Nat) : Nat → Int32 → Int32 → Sto → Option (Int32 × Sto)
  | 0, _, _, _ => none
  | fuel + 1, v2, v3, s =>
    if (s.1 a1 1) ≤ v3 then
      some ((-6 : Int32), s)
    else
      bd2 (f8_at (a1 + 1) v3 s) fun r4 s2 =>
      if r4 = (42 : Int32) then
        if v2 = 0 then
          if r4 = (109 : Int32) then
            Option.bind (f6_add o (6 : Int32) (2 : Int32) s2) fun s20 =>
            L6_read_9 o a1 fuel (0 : Int32) (v3 + 1) s20
          else
            bd2 (f8_isGuest (r4 - (65 : Int32)) s2) fun r16 s14 =>
            if r16 = 0 then
              some (v3, s14)
            else
              Option.bind (f6_add o (r4 - (65 : Int32)) (0 : Int32) s14) fun s17 =>
              L6_read_9 o a1 fuel (1 : Int32) (v3 + 1) s17
        else
          Option.bind (f8_put (o + 2) ((s2.1 o 2) - (1 : Int32)) (1 : Int32) s2) fun s23 =>
          L6_read_9 o a1 fuel (0 : Int32) (v3 + 1) s23
      else
        if r4 = (109 : Int32) then
          Option.bind (f6_add o (6 : Int32) (2 : Int32) s2) fun s11 =>
          L6_read_9 o a1 fuel (0 : Int32) (v3 + 1) s11
        else
          bd2 (f8_isGuest (r4 - (65 : Int32)) s2) fun r7 s5 =>
          if r7 = 0 then
            some (v3, s5)
          else
            Option.bind (f6_add o (r4 - (65 : Int32)) (0 : Int32) s5) fun s8 =>
            L6_read_9 o a1 fuel (1 : Int32) (v3 + 1) s8
def f6_read (o : Nat) (a1 : Nat) (s : Sto) : Option (Int32 × Sto) :=
  if kd o = 6 ∧ kd a1 = 5 then
  nm (stI s o 2 (0 : Int32)) fun s1 =>
  L6_read_9 o a1 FU (0 : Int32) (0 : Int32) s1
  else none
def f8_fault (o : Nat) (a1 : Int32) (s : Sto) : Option (Int32 × Sto) :=
  if kd o = 8 then
  bd2 (f8_isWithin a1 (0 : Int32) (1 : Int32) s) fun r3 s1 =>
  if r3 = 0 then
    some ((-2 : Int32), s1)
  else
    if a1 = 0 then
      bd2 (f1_read (o + 27) (o + 25) (s1.1 (o + 1) 0) s1) fun r9 s7 =>
      some (r9, s7)
    else
      bd2 (f6_read (o + 34) (o + 25) s1) fun r6 s4 =>
      some (r6, s4)
  else none
def f8_copyAll (a0 : Nat) (a1 : Nat) (s : Sto) : Option (Sto) :=
  if kd a0 = 10 ∧ kd a1 = 10 then
  nm (if (nI (ln a1)) < (nI (ln a0)) then (nI (ln a1)) else (nI (ln a0))) fun x1 =>
  if ¬ x1 < 0 ∧ x1.toNatClampNeg ≤ ln a0 ∧ x1.toNatClampNeg ≤ ln a1 then
  nm (stC s a0 a1 x1.toNatClampNeg) fun s3 =>
  some s3
  else none
  else none
def f2_copyFrom (o : Nat) (a1 : Nat) (s : Sto) : Option (Sto) :=
  if kd o = 2 ∧ kd a1 = 2 then
  Option.bind (f8_copyAll (a1 + 1) (o + 1) s) fun s1 =>
  Option.bind (f8_copyAll (a1 + 2) (o + 2) s1) fun s3 =>
  Option.bind (f8_copyAll (a1 + 3) (o + 3) s3) fun s5 =>
  nm (stI s5 o 3 (s5.1 a1 3)) fun s7 =>
  nm (stI s7 o 4 (s7.1 a1 4)) fun s8 =>
  nm (stI s8 o 5 (0 : Int32)) fun s9 =>
  nm (stI s9 o 6 (0 : Int32)) fun s10 =>
  nm (stI s10 o 7 (-1 : Int32)) fun s11 =>
  some s11
  else none
def f8_isSpoken (a0 : Int32) (s : Sto) : Option (Int32 × Sto) :=
  if a0 < 0 then
    some ((0 : Int32), s)
  else
    if (100 : Int32) ≤ a0 then
      some ((0 : Int32), s)
    else
      some ((1 : Int32), s)
def f8_isTrue (a0 : Int32) (a1 : Int32) (s : Sto) : Option (Int32 × Sto) :=
  nm ((a0 / (2 : Int32)) - (a0 / (2 : Int32)) / (8 : Int32) * (8 : Int32)) fun x1 =>
  if ((a1 >>> (x1 &&& 31)) &&& (1 : Int32)) = (a0 - a0 / (2 : Int32) * (2 : Int32)) then
    some ((1 : Int32), s)
  else
    some ((0 : Int32), s)
def f8_guestOf (a0 : Int32) (s : Sto) : Option (Int32 × Sto) :=
  some ((a0 / (16 : Int32)), s)
def f8_whyNot (a0 : Int32) (a1 : Nat) (a2 : Int32) (a3 : Nat) (s : Sto) : Option (Int32 × Sto) :=
  if kd a1 = 0 ∧ kd a3 = 2 then
  bd2 (f8_isSpoken a0 s) fun r3 s1 =>
  if r3 = 0 then
    Option.bind (
      if (0 : Int32) = 0 then
        if a0 = (100 : Int32) then
          some (1 : Int32)
        else
          some (0 : Int32)
      else
        some (1 : Int32))
    fun x6 =>
    if x6 = 0 then
      if x6 = 0 then
        if a0 = (101 : Int32) then
          if (1 : Int32) ≤ (s1.1 a3 4) then
            some ((0 : Int32), s1)
          else
            some ((3 : Int32), s1)
        else
          some ((0 : Int32), s1)
      else
        if (1 : Int32) ≤ (s1.1 a3 4) then
          some ((0 : Int32), s1)
        else
          some ((3 : Int32), s1)
    else
      if (s1.1 a3 3) < (30 : Int32) then
        if x6 = 0 then
          if a0 = (101 : Int32) then
            if (1 : Int32) ≤ (s1.1 a3 4) then
              some ((0 : Int32), s1)
            else
              some ((3 : Int32), s1)
          else
            some ((0 : Int32), s1)
        else
          if (1 : Int32) ≤ (s1.1 a3 4) then
            some ((0 : Int32), s1)
          else
            some ((3 : Int32), s1)
      else
        some ((2 : Int32), s1)
  else
    bd2 (f8_isTrue a0 a2 s1) fun r20 s18 =>
    Option.bind (
      if r20 = 0 then
        some (1 : Int32)
      else
        some (0 : Int32))
    fun x22 =>
    bd2 (f8_guestOf a0 s18) fun r25 s23 =>
    bd2 (f0_temperOf a1 r25 s23) fun r28 s26 =>
    Option.bind (
      if x22 = 0 then
        some (2 : Int32)
      else
        some (1 : Int32))
    fun x30 =>
    if r28 = x30 then
      some ((1 : Int32), s26)
    else
      Option.bind (
        if x22 = 0 then
          if a0 = (100 : Int32) then
            some (1 : Int32)
          else
            some (0 : Int32)
        else
          some (1 : Int32))
      fun x33 =>
      if x33 = 0 then
        if x33 = 0 then
          if a0 = (101 : Int32) then
            if (1 : Int32) ≤ (s26.1 a3 4) then
              some ((0 : Int32), s26)
            else
              some ((3 : Int32), s26)
          else
            some ((0 : Int32), s26)
        else
          if (1 : Int32) ≤ (s26.1 a3 4) then
            some ((0 : Int32), s26)
          else
            some ((3 : Int32), s26)
      else
        if (s26.1 a3 3) < (30 : Int32) then
          if x33 = 0 then
            if a0 = (101 : Int32) then
              if (1 : Int32) ≤ (s26.1 a3 4) then
                some ((0 : Int32), s26)
              else
                some ((3 : Int32), s26)
            else
              some ((0 : Int32), s26)
          else
            if (1 : Int32) ≤ (s26.1 a3 4) then
              some ((0 : Int32), s26)
            else
              some ((3 : Int32), s26)
        else
          some ((2 : Int32), s26)
  else none
def f2_colourAt (o : Nat) (a1 : Int32) (s : Sto) : Option (Int32 × Sto) :=
  if kd o = 2 then
  bd2 (f8_at (o + 1) a1 s) fun r3 s1 =>
  some (r3, s1)
  else none
def f2_dropTop (o : Nat) (s : Sto) : Option (Sto) :=
  if kd o = 2 then
  if (s.1 o 3) ≤ 0 then
    some s
  else
    nm (stI s o 3 ((s.1 o 3) - (1 : Int32))) fun s1 =>
    nm (stI s1 o 6 ((s1.1 o 6) + (1 : Int32))) fun s2 =>
    some s2
  else none
def L2_dropColour_18 (o : Nat) (a1 : Int32) : Nat → Int32 → Sto → Option (Sto)
  | 0, _, _ => none
  | fuel + 1, v2, s =>
    if v2 < 0 then
      some s
    else
      bd2 (f2_colourAt o v2 s) fun r6 s4 =>
      if r6 = a1 then
        Option.bind (f2_dropTop o s4) fun s7 =>
        L2_dropColour_18 o a1 fuel (v2 + (-1)) s7
      else
        some s4
def f2_dropColour (o : Nat) (s : Sto) : Option (Sto) :=
  if kd o = 2 then
  bd2 (f2_colourAt o ((s.1 o 3) - (1 : Int32)) s) fun r3 s1 =>
  Option.bind (L2_dropColour_18 o r3 FU ((s1.1 o 3) - (1 : Int32)) s1) fun s12 =>
  some s12
  else none
def f2_lay (o : Nat) (a1 : Int32) (a2 : Int32) (s : Sto) : Option (Sto) :=
  if kd o = 2 then
  Option.bind (f8_put (o + 1) (s.1 o 3) a1 s) fun s1 =>
  Option.bind (f8_put (o + 2) (s1.1 o 3) a2 s1) fun s3 =>
  Option.bind (f8_put (o + 3) (s3.1 o 3) (s3.1 o 4) s3) fun s5 =>
  nm (stI s5 o 3 ((s5.1 o 3) + (1 : Int32))) fun s7 =>
  nm (stI s7 o 5 ((s7.1 o 5) + (1 : Int32))) fun s8 =>
  some s8
  else none
def f2_hear (o : Nat) (a1 : Int32) (a2 : Int32) (s : Sto) : Option (Sto) :=
  if kd o = 2 then
  nm (stI s o 7 (-1 : Int32)) fun s1 =>
  if a1 = (101 : Int32) then
    nm (stI s1 o 4 ((s1.1 o 4) - (1 : Int32))) fun s23 =>
    some s23
  else
    if a1 = (102 : Int32) then
      Option.bind (f2_dropColour o s1) fun s20 =>
      some s20
    else
      if a1 = (100 : Int32) then
        Option.bind (f2_lay o (6 : Int32) (2 : Int32) s1) fun s17 =>
        some s17
      else
        bd2 (f8_isTrue a1 a2 s1) fun r4 s2 =>
        if r4 = 0 then
          bd2 (f8_guestOf a1 s2) fun r7 s5 =>
          nm (stI s5 o 7 r7) fun s8 =>
          Option.bind (
            if (s8.1 o 7) = (s.1 o 7) then
              some (1 : Int32)
            else
              some (0 : Int32))
          fun x10 =>
          Option.bind (f2_lay o (s8.1 o 7) x10 s8) fun s11 =>
          some s11
        else
          Option.bind (f2_dropTop o s2) fun s14 =>
          some s14
  else none
def L1_play_40 (o : Nat) (a1 : Nat) (a2 : Int32) : Nat → Int32 → Sto → Option (Sto)
  | 0, _, _ => none
  | fuel + 1, v3, s =>
    if (s.1 o 1) ≤ v3 then
      some s
    else
      bd2 (f8_at (o + 1) v3 s) fun r9 s7 =>
      bd2 (f8_whyNot r9 a1 a2 (o + 3) s7) fun r12 s10 =>
      if r12 = 0 then
        Option.bind (f2_hear (o + 3) r9 a2 s10) fun s13 =>
        Option.bind (f8_put (o + 2) (v3 + (1 : Int32)) (s13.1 (o + 3) 3) s13) fun s15 =>
        L1_play_40 o a1 a2 fuel (v3 + 1) s15
      else
        nm (stI s10 o 4 v3) fun s17 =>
        nm (stI s17 o 5 r12) fun s18 =>
        some s18
def f1_play (o : Nat) (a1 : Nat) (a2 : Int32) (s : Sto) : Option (Sto) :=
  if kd o = 1 ∧ kd a1 = 0 then
  Option.bind (f2_copyFrom (o + 3) (a1 + 2) s) fun s1 =>
  nm (stI s1 o 4 (-6 : Int32)) fun s3 =>
  nm (stI s3 o 5 (-6 : Int32)) fun s4 =>
  Option.bind (f8_put (o + 2) (0 : Int32) (s4.1 (o + 3) 3) s4) fun s5 =>
  L1_play_40 o a1 a2 FU (0 : Int32) s5
  else none
def f8_playPad (o : Nat) (s : Sto) : Option (Int32 × Sto) :=
  if kd o = 8 then
  bd2 (f1_read (o + 27) (o + 25) (s.1 (o + 1) 0) s) fun r3 s1 =>
  if r3 = (-6 : Int32) then
    Option.bind (f1_play (o + 27) (o + 1) (s1.1 (o + 1) 1) s1) fun s4 =>
    if (s4.1 (o + 27) 4) = (-6 : Int32) then
      some ((0 : Int32), s4)
    else
      some ((-3 : Int32), s4)
  else
    some ((-5 : Int32), s1)
  else none
def f8_judge (o : Nat) (a1 : Int32) (s : Sto) : Option (Int32 × Sto) :=
  if kd o = 8 then
  bd2 (f8_isWithin a1 (0 : Int32) (3 : Int32) s) fun r3 s1 =>
  if r3 = 0 then
    some ((-2 : Int32), s1)
  else
    bd2 (f8_playPad o s1) fun r6 s4 =>
    if r6 = (-5 : Int32) then
      some (r6, s4)
    else
      if r6 = (-3 : Int32) then
        if a1 < (2 : Int32) then
          if a1 = 0 then
            some ((s4.1 (o + 27) 4), s4)
          else
          if a1 = 1 then
            some ((s4.1 (o + 27) 5), s4)
          else
          if a1 = 2 then
            some ((s4.1 ((o + 27) + 3) 5), s4)
          else
          some ((s4.1 ((o + 27) + 3) 6), s4)
        else
          some (r6, s4)
      else
        if a1 = 0 then
          some ((s4.1 (o + 27) 4), s4)
        else
        if a1 = 1 then
          some ((s4.1 (o + 27) 5), s4)
        else
        if a1 = 2 then
          some ((s4.1 ((o + 27) + 3) 5), s4)
        else
        some ((s4.1 ((o + 27) + 3) 6), s4)
  else none
def L1_lowest_11 (o : Nat) : Nat → Int32 → Int32 → Sto → Option (Int32 × Sto)
  | 0, _, _, _ => none
  | fuel + 1, v1, v2, s =>
    if (s.1 o 1) < v2 then
      some (v1, s)
    else
      bd2 (f8_at (o + 2) v2 s) fun r6 s4 =>
      nm (if r6 < v1 then r6 else v1) fun x7 =>
      L1_lowest_11 o fuel x7 (v2 + 1) s4
def f1_lowest (o : Nat) (s : Sto) : Option (Int32 × Sto) :=
  if kd o = 1 then
  bd2 (f8_at (o + 2) (0 : Int32) s) fun r3 s1 =>
  bd2 (L1_lowest_11 o FU r3 (1 : Int32) s1) fun y10 s11 =>
  some (y10, s11)
  else none
def L1_highest_11 (o : Nat) : Nat → Int32 → Int32 → Sto → Option (Int32 × Sto)
  | 0, _, _, _ => none
  | fuel + 1, v1, v2, s =>
    if (s.1 o 1) < v2 then
      some (v1, s)
    else
      bd2 (f8_at (o + 2) v2 s) fun r6 s4 =>
      nm (if v1 < r6 then r6 else v1) fun x7 =>
      L1_highest_11 o fuel x7 (v2 + 1) s4
def f1_highest (o : Nat) (s : Sto) : Option (Int32 × Sto) :=
  if kd o = 1 then
  bd2 (f8_at (o + 2) (0 : Int32) s) fun r3 s1 =>
  bd2 (L1_highest_11 o FU r3 (1 : Int32) s1) fun y10 s11 =>
  some (y10, s11)
  else none
def f8_behind (o : Nat) (a1 : Int32) (s : Sto) : Option (Int32 × Sto) :=
  if kd o = 8 then
  bd2 (f8_isWithin a1 (0 : Int32) (3 : Int32) s) fun r3 s1 =>
  if r3 = 0 then
    some ((-2 : Int32), s1)
  else
    bd2 (f8_playPad o s1) fun r6 s4 =>
    if r6 = 0 then
      if a1 = 0 then
        some ((s4.1 ((o + 27) + 3) 3), s4)
      else
      if a1 = 1 then
        some ((s4.1 ((o + 27) + 3) 4), s4)
      else
      if a1 = 2 then
        bd2 (f1_lowest (o + 27) s4) fun r9 s7 =>
        some (r9, s7)
      else
      bd2 (f1_highest (o + 27) s4) fun r12 s10 =>
      some (r12, s10)
    else
      some (r6, s4)
  else none
def f2_has (o : Nat) (a1 : Int32) (s : Sto) : Option (Int32 × Sto) :=
  if kd o = 2 then
  if a1 < 0 then
    some ((0 : Int32), s)
  else
    if (s.1 o 3) ≤ a1 then
      some ((0 : Int32), s)
    else
      some ((1 : Int32), s)
  else none
def f2_kindAt (o : Nat) (a1 : Int32) (s : Sto) : Option (Int32 × Sto) :=
  if kd o = 2 then
  bd2 (f8_at (o + 2) a1 s) fun r3 s1 =>
  some (r3, s1)
  else none
def f2_tellRow (o : Nat) (a1 : Int32) (a2 : Int32) (s : Sto) : Option (Int32 × Sto) :=
  if kd o = 2 then
  if a2 = 0 then
    bd2 (f2_colourAt o a1 s) fun r10 s8 =>
    some (r10, s8)
  else
    if a2 = (1 : Int32) then
      bd2 (f2_kindAt o a1 s) fun r6 s4 =>
      some (r6, s4)
    else
      bd2 (f8_at (o + 3) a1 s) fun r3 s1 =>
      some (r3, s1)
  else none
def f8_row (o : Nat) (a1 : Int32) (a2 : Int32) (s : Sto) : Option (Int32 × Sto) :=
  if kd o = 8 then
  bd2 (f8_isWithin a2 (0 : Int32) (2 : Int32) s) fun r3 s1 =>
  if r3 = 0 then
    some ((-2 : Int32), s1)
  else
    bd2 (f8_playPad o s1) fun r6 s4 =>
    if r6 = 0 then
      bd2 (f2_has ((o + 27) + 3) a1 s4) fun r9 s7 =>
      if r9 = 0 then
        some ((-1 : Int32), s7)
      else
        bd2 (f2_tellRow ((o + 27) + 3) a1 a2 s7) fun r12 s10 =>
        some (r12, s10)
    else
      some (r6, s4)
  else none
def L1_remarkTaking_2 (o : Nat) (a1 : Int32) : Nat → Int32 → Sto → Option (Int32 × Sto)
  | 0, _, _ => none
  | fuel + 1, v2, s =>
    if (s.1 o 1) ≤ v2 then
      some ((-6 : Int32), s)
    else
      bd2 (f8_at (o + 2) (v2 + (1 : Int32)) s) fun r3 s1 =>
      if a1 < r3 then
        L1_remarkTaking_2 o a1 fuel (v2 + 1) s1
      else
        some (v2, s1)
def f1_remarkTaking (o : Nat) (a1 : Int32) (s : Sto) : Option (Int32 × Sto) :=
  if kd o = 1 then
  L1_remarkTaking_2 o a1 FU (0 : Int32) s
  else none
def f8_lost (o : Nat) (a1 : Int32) (s : Sto) : Option (Int32 × Sto) :=
  if kd o = 8 then
  bd2 (f2_has ((o + 1) + 2) a1 s) fun r3 s1 =>
  if r3 = 0 then
    some ((-1 : Int32), s1)
  else
    bd2 (f8_playPad o s1) fun r6 s4 =>
    if r6 = 0 then
      bd2 (f1_remarkTaking (o + 27) a1 s4) fun r9 s7 =>
      some (r9, s7)
    else
      some (r6, s4)
  else none
def f8_done (o : Nat) (s : Sto) : Option (Int32 × Sto) :=
  if kd o = 8 then
  bd2 (f8_playPad o s) fun r3 s1 =>
  if r3 = 0 then
    Option.bind (f2_copyFrom ((o + 1) + 2) ((o + 27) + 3) s1) fun s4 =>
    nm (stI s4 (o + 25) 1 (0 : Int32)) fun s6 =>
    some ((s6.1 (o + 27) 1), s6)
  else
    some (r3, s1)
  else none
def f8_state (o : Nat) (a1 : Int32) (a2 : Int32) (s : Sto) : Option (Int32 × Sto) :=
  if kd o = 8 then
  bd2 (f2_has ((o + 1) + 2) a1 s) fun r3 s1 =>
  if r3 = 0 then
    some ((-1 : Int32), s1)
  else
    bd2 (f8_isWithin a2 (0 : Int32) (2 : Int32) s1) fun r6 s4 =>
    if r6 = 0 then
      some ((-2 : Int32), s4)
    else
      bd2 (f2_tellRow ((o + 1) + 2) a1 a2 s4) fun r9 s7 =>
      some (r9, s7)
  else none
def f8_readPattern (o : Nat) (s : Sto) : Option (Int32 × Sto) :=
  if kd o = 8 then
  bd2 (f6_read (o + 34) (o + 25) s) fun r3 s1 =>
  if r3 = (-6 : Int32) then
    if (s1.1 (o + 34) 2) ≤ (30 : Int32) then
      some ((0 : Int32), s1)
    else
      some ((-4 : Int32), s1)
  else
    some ((-5 : Int32), s1)
  else none
def f8_isThereAlready (o : Nat) (a1 : Int32) (s : Sto) : Option (Int32 × Sto) :=
  if kd o = 8 then
  bd2 (f2_colourAt ((o + 1) + 2) a1 s) fun r3 s1 =>
  bd2 (f8_at ((o + 34) + 1) a1 s1) fun r6 s4 =>
  if r3 = r6 then
    bd2 (f2_kindAt ((o + 1) + 2) a1 s4) fun r9 s7 =>
    bd2 (f8_at ((o + 34) + 2) a1 s7) fun r12 s10 =>
    if r9 = r12 then
      some ((1 : Int32), s10)
    else
      some ((0 : Int32), s10)
  else
    some ((0 : Int32), s4)
  else none
def L0_countWithout_4 (o : Nat) (a1 : Int32) : Nat → Int32 → Int32 → Sto → Option (Int32 × Sto)
  | 0, _, _, _ => none
  | fuel + 1, v2, v3, s =>
    if (6 : Int32) ≤ v3 then
      some (v2, s)
    else
      bd2 (f0_temperOf o v3 s) fun r3 s1 =>
      if r3 = a1 then
        L0_countWithout_4 o a1 fuel v2 (v3 + 1) s1
      else
        L0_countWithout_4 o a1 fuel (v2 + 1) (v3 + 1) s1
def f0_countWithout (o : Nat) (a1 : Int32) (s : Sto) : Option (Int32 × Sto) :=
  if kd o = 0 then
  bd2 (L0_countWithout_4 o a1 FU (0 : Int32) (0 : Int32) s) fun y7 s8 =>
  some (y7, s8)
  else none
def L8_remarksDownTo_18 (o : Nat) : Nat → Int32 → Int32 → Int32 → Int32 → Sto → Option (Int32 × Int32 × Sto)
  | 0, _, _, _, _, _ => none
  | fuel + 1, v2, v3, v4, v5, s =>
    if (s.1 ((o + 1) + 2) 3) ≤ v5 then
      some (v3, v4, s)
    else
      if v5 = 0 then
        L8_remarksDownTo_18 o fuel (0 : Int32) v3 (v4 + 1) (v5 + 1) s
      else
        bd2 (f2_colourAt ((o + 1) + 2) v5 s) fun r5 s3 =>
        bd2 (f2_colourAt ((o + 1) + 2) (v5 - (1 : Int32)) s3) fun r8 s6 =>
        if r5 = r8 then
          if v2 = 0 then
            L8_remarksDownTo_18 o fuel v2 v3 v4 (v5 + 1) s6
          else
            L8_remarksDownTo_18 o fuel v2 (v3 + 1) v4 (v5 + 1) s6
        else
          L8_remarksDownTo_18 o fuel (0 : Int32) v3 (v4 + 1) (v5 + 1) s6
def f8_remarksDownTo (o : Nat) (a1 : Int32) (s : Sto) : Option (Int32 × Sto) :=
  if kd o = 8 then
  Option.bind (
    if a1 ≤ 0 then
      some (0 : Int32)
    else
      some (1 : Int32))
  fun x2 =>
  bd3 (L8_remarksDownTo_18 o FU x2 (0 : Int32) (0 : Int32) a1 s) fun y14 y15 s16 =>
  if y14 ≤ 0 then
    some ((y14 + y15), s16)
  else
    bd2 (f0_countWithout (o + 1) (2 : Int32) s16) fun r19 s17 =>
    if r19 = 0 then
      some ((-6 : Int32), s17)
    else
      some ((y14 + y15), s17)
  else none
def L8_remarksUpTo_29 (o : Nat) (a1 : Int32) (a2 : Int32) : Nat → Int32 → Int32 → Sto → Option (Int32 × Sto)
  | 0, _, _, _ => none
  | fuel + 1, v3, v4, s =>
    if a1 ≤ v4 then
      nm (if ((s.1 ((o + 1) + 2) 4) - (1 : Int32)) < v3 then ((s.1 ((o + 1) + 2) 4) - (1 : Int32)) else v3) fun x1 =>
      some ((((a1 - a2) + x1) + ((2 : Int32) * (v3 - x1))), s)
    else
      bd2 (f8_at ((o + 34) + 1) v4 s) fun r4 s2 =>
      bd2 (
        if v4 ≤ a2 then
          some ((0 : Int32), s2)
        else
          bd2 (f8_at ((o + 34) + 1) (v4 - (1 : Int32)) s2) fun r7 s5 =>
          if r7 = r4 then
            some ((1 : Int32), s5)
          else
            some ((0 : Int32), s5))
      fun x10 s11 =>
      bd2 (f8_isGuest r4 s11) fun r14 s12 =>
      if r14 = 0 then
        bd2 (f8_at ((o + 34) + 2) v4 s12) fun r17 s15 =>
        if r17 = (1 : Int32) then
          if x10 = 0 then
            some ((-6 : Int32), s15)
          else
            bd2 (f8_at ((o + 34) + 2) v4 s15) fun r25 s23 =>
            if r25 = 0 then
              if x10 = 0 then
                L8_remarksUpTo_29 o a1 a2 fuel v3 (v4 + 1) s23
              else
                L8_remarksUpTo_29 o a1 a2 fuel (v3 + 1) (v4 + 1) s23
            else
              L8_remarksUpTo_29 o a1 a2 fuel v3 (v4 + 1) s23
        else
          bd2 (f8_at ((o + 34) + 2) v4 s15) fun r20 s18 =>
          if r20 = 0 then
            if x10 = 0 then
              L8_remarksUpTo_29 o a1 a2 fuel v3 (v4 + 1) s18
            else
              L8_remarksUpTo_29 o a1 a2 fuel (v3 + 1) (v4 + 1) s18
          else
            L8_remarksUpTo_29 o a1 a2 fuel v3 (v4 + 1) s18
      else
        bd2 (f0_temperOf (o + 1) r4 s12) fun r32 s30 =>
        if r32 = (1 : Int32) then
          some ((-6 : Int32), s30)
        else
          bd2 (f8_at ((o + 34) + 2) v4 s30) fun r35 s33 =>
          if r35 = (1 : Int32) then
            if x10 = 0 then
              some ((-6 : Int32), s33)
            else
              bd2 (f8_at ((o + 34) + 2) v4 s33) fun r43 s41 =>
              if r43 = 0 then
                if x10 = 0 then
                  L8_remarksUpTo_29 o a1 a2 fuel v3 (v4 + 1) s41
                else
                  L8_remarksUpTo_29 o a1 a2 fuel (v3 + 1) (v4 + 1) s41
              else
                L8_remarksUpTo_29 o a1 a2 fuel v3 (v4 + 1) s41
          else
            bd2 (f8_at ((o + 34) + 2) v4 s33) fun r38 s36 =>
            if r38 = 0 then
              if x10 = 0 then
                L8_remarksUpTo_29 o a1 a2 fuel v3 (v4 + 1) s36
              else
                L8_remarksUpTo_29 o a1 a2 fuel (v3 + 1) (v4 + 1) s36
            else
              L8_remarksUpTo_29 o a1 a2 fuel v3 (v4 + 1) s36
def f8_remarksUpTo (o : Nat) (a1 : Int32) (a2 : Int32) (s : Sto) : Option (Int32 × Sto) :=
  if kd o = 8 then
  if a2 < a1 then
    if (1 : Int32) ≤ (s.1 ((o + 1) + 2) 4) then
      L8_remarksUpTo_29 o a1 a2 FU (0 : Int32) a2 s
    else
      some ((-6 : Int32), s)
  else
    some ((0 : Int32), s)
  else none
def L8_fewestRemarks_5 (o : Nat) (a1 : Int32) : Nat → Int32 → Int32 → Sto → Option (Int32 × Sto)
  | 0, _, _, _ => none
  | fuel + 1, v2, v3, s =>
    if a1 < v3 then
      some (v2, s)
    else
      if (s.1 ((o + 1) + 2) 3) < v3 then
        some (v2, s)
      else
        if v3 ≤ 0 then
          bd2 (f8_remarksDownTo o v3 s) fun r3 s1 =>
          bd2 (f8_remarksUpTo o a1 v3 s1) fun r6 s4 =>
          if r3 = (-6 : Int32) then
            L8_fewestRemarks_5 o a1 fuel v2 (v3 + 1) s4
          else
            if r6 = (-6 : Int32) then
              L8_fewestRemarks_5 o a1 fuel v2 (v3 + 1) s4
            else
              if v2 = (-6 : Int32) then
                L8_fewestRemarks_5 o a1 fuel (r3 + r6) (v3 + 1) s4
              else
                if v2 ≤ (r3 + r6) then
                  L8_fewestRemarks_5 o a1 fuel v2 (v3 + 1) s4
                else
                  L8_fewestRemarks_5 o a1 fuel (r3 + r6) (v3 + 1) s4
        else
          bd2 (f8_isThereAlready o (v3 - (1 : Int32)) s) fun r13 s11 =>
          if r13 = 0 then
            some (v2, s11)
          else
            bd2 (f8_remarksDownTo o v3 s11) fun r16 s14 =>
            bd2 (f8_remarksUpTo o a1 v3 s14) fun r19 s17 =>
            if r16 = (-6 : Int32) then
              L8_fewestRemarks_5 o a1 fuel v2 (v3 + 1) s17
            else
              if r19 = (-6 : Int32) then
                L8_fewestRemarks_5 o a1 fuel v2 (v3 + 1) s17
              else
                if v2 = (-6 : Int32) then
                  L8_fewestRemarks_5 o a1 fuel (r16 + r19) (v3 + 1) s17
                else
                  if v2 ≤ (r16 + r19) then
                    L8_fewestRemarks_5 o a1 fuel v2 (v3 + 1) s17
                  else
                    L8_fewestRemarks_5 o a1 fuel (r16 + r19) (v3 + 1) s17
def f8_fewestRemarks (o : Nat) (a1 : Int32) (s : Sto) : Option (Int32 × Sto) :=
  if kd o = 8 then
  bd2 (L8_fewestRemarks_5 o a1 FU (-6 : Int32) (0 : Int32) s) fun y29 s30 =>
  some (y29, s30)
  else none
def f8_made (o : Nat) (s : Sto) : Option (Int32 × Sto) :=
  if kd o = 8 then
  bd2 (f8_readPattern o s) fun r3 s1 =>
  if r3 = 0 then
    bd2 (f8_fewestRemarks o (s1.1 (o + 34) 2) s1) fun r6 s4 =>
    some (r6, s4)
  else
    some (r3, s1)
  else none
def L8_bars_13 (o : Nat) : Nat → Int32 → Sto → Option (Int32 × Sto)
  | 0, _, _ => none
  | fuel + 1, v2, s =>
    if (s.1 (o + 34) 2) ≤ v2 then
      some ((-6 : Int32), s)
    else
      bd2 (f8_fewestRemarks o (v2 + (1 : Int32)) s) fun r6 s4 =>
      if r6 = (-6 : Int32) then
        some (v2, s4)
      else
        L8_bars_13 o fuel (v2 + 1) s4
def f8_bars (o : Nat) (s : Sto) : Option (Int32 × Sto) :=
  if kd o = 8 then
  bd2 (f8_readPattern o s) fun r3 s1 =>
  if r3 = 0 then
    L8_bars_13 o FU (0 : Int32) s1
  else
    some (r3, s1)
  else none
def f0_addSight (o : Nat) (a1 : Int32) (a2 : Int32) (s : Sto) : Option (Int32 × Sto) :=
  if kd o = 0 then
  if (s.1 o 4) < (8 : Int32) then
    Option.bind (f8_put (o + 6) (s.1 o 4) a1 s) fun s1 =>
    Option.bind (f8_put (o + 7) (s1.1 o 4) a2 s1) fun s3 =>
    nm (stI s3 o 4 ((s3.1 o 4) + (1 : Int32))) fun s5 =>
    some ((s5.1 o 4), s5)
  else
    some ((-4 : Int32), s)
  else none
def f8_seen (o : Nat) (a1 : Int32) (a2 : Int32) (s : Sto) : Option (Int32 × Sto) :=
  if kd o = 8 then
  bd2 (f8_isWithin a1 (0 : Int32) (60 : Int32) s) fun r3 s1 =>
  if r3 = 0 then
    some ((-2 : Int32), s1)
  else
    bd2 (f8_isWithin a2 (0 : Int32) (30 : Int32) s1) fun r6 s4 =>
    if r6 = 0 then
      some ((-2 : Int32), s4)
    else
      bd2 (f0_addSight (o + 1) a1 a2 s4) fun r9 s7 =>
      some (r9, s7)
  else none
def f8_forget (o : Nat) (s : Sto) : Option (Int32 × Sto) :=
  if kd o = 8 then
  nm (stI s (o + 1) 4 (0 : Int32)) fun s1 =>
  some ((s.1 (o + 1) 4), s1)
  else none
def L7_clear_23 (o : Nat) : Nat → Int32 → Sto → Option (Sto)
  | 0, _, _ => none
  | fuel + 1, v1, s =>
    if (8 : Int32) ≤ v1 then
      some s
    else
      Option.bind (f8_put (o + 1) v1 (0 : Int32) s) fun s5 =>
      L7_clear_23 o fuel (v1 + 1) s5
def f7_clear (o : Nat) (s : Sto) : Option (Sto) :=
  if kd o = 7 then
  nm (stI s o 0 (0 : Int32)) fun s1 =>
  nm (stI s1 o 1 (-6 : Int32)) fun s2 =>
  nm (stI s2 o 2 (0 : Int32)) fun s3 =>
  nm (stI s3 o 3 (0 : Int32)) fun s4 =>
  Option.bind (L7_clear_23 o FU (0 : Int32) s4) fun s9 =>
  some s9
  else none
def L0_sightsFit_2 (o : Nat) (a1 : Nat) : Nat → Int32 → Sto → Option (Int32 × Sto)
  | 0, _, _ => none
  | fuel + 1, v2, s =>
    if (s.1 o 4) ≤ v2 then
      some ((1 : Int32), s)
    else
      bd2 (f8_at (o + 6) v2 s) fun r3 s1 =>
      if (s1.1 a1 1) < r3 then
        some ((0 : Int32), s1)
      else
        bd2 (f8_at (a1 + 2) r3 s1) fun r6 s4 =>
        bd2 (f8_at (o + 7) v2 s4) fun r9 s7 =>
        if r6 = r9 then
          L0_sightsFit_2 o a1 fuel (v2 + 1) s7
        else
          some ((0 : Int32), s7)
def f0_sightsFit (o : Nat) (a1 : Nat) (s : Sto) : Option (Int32 × Sto) :=
  if kd o = 0 ∧ kd a1 = 1 then
  L0_sightsFit_2 o a1 FU (0 : Int32) s
  else none
def L7_add_49 (o : Nat) (a1 : Int32) : Nat → Int32 → Sto → Option (Sto)
  | 0, _, _ => none
  | fuel + 1, v2, s =>
    if (8 : Int32) ≤ v2 then
      some s
    else
      bd2 (f8_at (o + 1) v2 s) fun r10 s8 =>
      Option.bind (f8_put (o + 1) v2 (r10 + ((a1 >>> (v2 &&& 31)) &&& (1 : Int32))) s8) fun s11 =>
      L7_add_49 o a1 fuel (v2 + 1) s11
def f7_add (o : Nat) (a1 : Int32) (s : Sto) : Option (Sto) :=
  if kd o = 7 then
  Option.bind (
    if (s.1 o 0) = 0 then
      nm (stI s o 1 a1) fun s1 =>
      nm (stI s1 o 2 a1) fun s2 =>
      some s2
    else
      some s)
  fun s4 =>
  nm (stI s4 o 0 ((s4.1 o 0) + (1 : Int32))) fun s5 =>
  nm (stI s5 o 2 ((s5.1 o 2) &&& a1)) fun s6 =>
  nm (stI s6 o 3 ((s6.1 o 3) ||| a1)) fun s7 =>
  Option.bind (L7_add_49 o a1 FU (0 : Int32) s7) fun s15 =>
  some s15
  else none
def L8_surveyWorlds_44 (o : Nat) (a1 : Int32) : Nat → Int32 → Sto → Option (Sto)
  | 0, _, _ => none
  | fuel + 1, v2, s =>
    if a1 ≤ v2 then
      some s
    else
      Option.bind (f1_play (o + 27) (o + 1) v2 s) fun s7 =>
      if (s7.1 (o + 27) 4) = (-6 : Int32) then
        bd2 (f0_sightsFit (o + 1) (o + 27) s7) fun r11 s9 =>
        if r11 = 0 then
          L8_surveyWorlds_44 o a1 fuel (v2 + 1) s9
        else
          Option.bind (f7_add (o + 37) v2 s9) fun s12 =>
          L8_surveyWorlds_44 o a1 fuel (v2 + 1) s12
      else
        L8_surveyWorlds_44 o a1 fuel (v2 + 1) s7
def f8_surveyWorlds (o : Nat) (s : Sto) : Option (Int32 × Sto) :=
  if kd o = 8 then
  bd2 (f1_read (o + 27) (o + 25) (s.1 (o + 1) 0) s) fun r3 s1 =>
  if r3 = (-6 : Int32) then
    Option.bind (f7_clear (o + 37) s1) fun s4 =>
    nm ((1 : Int32) <<< ((s4.1 (o + 1) 0) &&& 31)) fun x6 =>
    Option.bind (L8_surveyWorlds_44 o x6 FU (0 : Int32) s4) fun s18 =>
    some ((1 : Int32), s18)
  else
    some ((0 : Int32), s1)
  else none
def f8_worlds (o : Nat) (a1 : Int32) (s : Sto) : Option (Int32 × Sto) :=
  if kd o = 8 then
  bd2 (f8_isWithin a1 (0 : Int32) (3 : Int32) s) fun r3 s1 =>
  if r3 = 0 then
    some ((-2 : Int32), s1)
  else
    bd2 (f8_surveyWorlds o s1) fun r6 s4 =>
    if r6 = 0 then
      some ((-5 : Int32), s4)
    else
      if a1 = 0 then
        some ((s4.1 (o + 37) 0), s4)
      else
      if a1 = 1 then
        some ((s4.1 (o + 37) 1), s4)
      else
      if a1 = 2 then
        some ((s4.1 (o + 37) 2), s4)
      else
      some ((s4.1 (o + 37) 3), s4)
  else none
def f7_leftAtMost (o : Nat) (a1 : Int32) (s : Sto) : Option (Int32 × Sto) :=
  if kd o = 7 then
  bd2 (f8_at (o + 1) a1 s) fun r3 s1 =>
  nm (if r3 < ((s1.1 o 0) - r3) then ((s1.1 o 0) - r3) else r3) fun x4 =>
  some (x4, s1)
  else none
def L7_bestFact_4 (o : Nat) (a1 : Int32) : Nat → Int32 → Int32 → Sto → Option (Int32 × Sto)
  | 0, _, _, _ => none
  | fuel + 1, v2, v3, s =>
    if a1 ≤ v3 then
      some (v2, s)
    else
      bd2 (f7_leftAtMost o v3 s) fun r3 s1 =>
      bd2 (f7_leftAtMost o v2 s1) fun r6 s4 =>
      if r6 ≤ r3 then
        L7_bestFact_4 o a1 fuel v2 (v3 + 1) s4
      else
        L7_bestFact_4 o a1 fuel v3 (v3 + 1) s4
def f7_bestFact (o : Nat) (a1 : Int32) (s : Sto) : Option (Int32 × Sto) :=
  if kd o = 7 then
  bd2 (L7_bestFact_4 o a1 FU (0 : Int32) (1 : Int32) s) fun y10 s11 =>
  some (y10, s11)
  else none
def f8_tell (o : Nat) (a1 : Int32) (s : Sto) : Option (Int32 × Sto) :=
  if kd o = 8 then
  bd2 (f8_isWithin a1 (0 : Int32) (1 : Int32) s) fun r3 s1 =>
  if r3 = 0 then
    some ((-2 : Int32), s1)
  else
    bd2 (f8_surveyWorlds o s1) fun r6 s4 =>
    if r6 = 0 then
      some ((-5 : Int32), s4)
    else
      if (s4.1 (o + 37) 0) = 0 then
        some ((-6 : Int32), s4)
      else
        bd2 (f7_bestFact (o + 37) (s4.1 (o + 1) 0) s4) fun r9 s7 =>
        if a1 = 0 then
          some (r9, s7)
        else
          bd2 (f7_leftAtMost (o + 37) r9 s7) fun r12 s10 =>
          some (r12, s10)
  else none
def L1_habitOf_5 (o : Nat) (a1 : Int32) (a2 : Int32) : Nat → Int32 → Int32 → Sto → Option (Int32 × Sto)
  | 0, _, _, _ => none
  | fuel + 1, v3, v4, s =>
    if (s.1 o 1) ≤ v4 then
      some (v3, s)
    else
      bd2 (f8_at (o + 1) v4 s) fun r3 s1 =>
      bd2 (f8_isSpoken r3 s1) fun r6 s4 =>
      if r6 = 0 then
        L1_habitOf_5 o a1 a2 fuel v3 (v4 + 1) s4
      else
        bd2 (f8_guestOf r3 s4) fun r9 s7 =>
        if r9 = a1 then
          bd2 (f8_isTrue r3 a2 s7) fun r12 s10 =>
          if r12 = 0 then
            L1_habitOf_5 o a1 a2 fuel (v3 ||| (2 : Int32)) (v4 + 1) s10
          else
            L1_habitOf_5 o a1 a2 fuel (v3 ||| (1 : Int32)) (v4 + 1) s10
        else
          L1_habitOf_5 o a1 a2 fuel v3 (v4 + 1) s7
def f1_habitOf (o : Nat) (a1 : Int32) (a2 : Int32) (s : Sto) : Option (Int32 × Sto) :=
  if kd o = 1 then
  bd2 (L1_habitOf_5 o a1 a2 FU (0 : Int32) (0 : Int32) s) fun y18 s19 =>
  some (y18, s19)
  else none
def f8_says (o : Nat) (a1 : Int32) (s : Sto) : Option (Int32 × Sto) :=
  if kd o = 8 then
  bd2 (f8_isGuest a1 s) fun r3 s1 =>
  if r3 = 0 then
    some ((-1 : Int32), s1)
  else
    bd2 (f1_read (o + 27) (o + 25) (s1.1 (o + 1) 0) s1) fun r6 s4 =>
    if r6 = (-6 : Int32) then
      bd2 (f1_habitOf (o + 27) a1 (s4.1 (o + 1) 1) s4) fun r9 s7 =>
      some (r9, s7)
    else
      some ((-5 : Int32), s4)
  else none
def f8_areOrders (a0 : Int32) (a1 : Int32) (a2 : Int32) (s : Sto) : Option (Int32 × Sto) :=
  bd2 (f8_isWithin a0 (0 : Int32) (12 : Int32) s) fun r3 s1 =>
  if r3 = 0 then
    some ((0 : Int32), s1)
  else
    bd2 (f8_isWithin a1 (0 : Int32) (12 : Int32) s1) fun r6 s4 =>
    if r6 = 0 then
      some ((0 : Int32), s4)
    else
      bd2 (f8_isWithin a2 (0 : Int32) (30 : Int32) s4) fun r9 s7 =>
      if r9 = 0 then
        some ((0 : Int32), s7)
      else
        some ((1 : Int32), s7)
def f8_put_ (a0 : Nat) (a1 : Int32) (a2 : Int64) (s : Sto) : Option (Sto) :=
  if kd a0 = 11 then
  if a1 < 0 then
    some s
  else
    if (nI (ln a0)) ≤ a1 then
      some s
    else
      if inb a1 (ln a0) then
      nm (stL s a0 a1.toNatClampNeg a2) fun s2 =>
      some s2
      else none
  else none
def f8_at_ (a0 : Nat) (a1 : Int32) (s : Sto) : Option (Int64 × Sto) :=
  if kd a0 = 11 then
  if a1 < 0 then
    some ((0 : Int64), s)
  else
    if (nI (ln a0)) ≤ a1 then
      some ((0 : Int64), s)
    else
      if inb a1 (ln a0) then
      some ((s.2 a0 a1.toNatClampNeg), s)
      else none
  else none
def L4_raise_3 (o : Nat) (a1 : Int32) : Nat → Int32 → Sto → Option (Sto)
  | 0, _, _ => none
  | fuel + 1, v2, s =>
    if v2 ≤ 0 then
      some s
    else
      bd2 (f8_at_ (o + 1) ((a1 + v2) - (1 : Int32)) s) fun r3 s1 =>
      Option.bind (f8_put_ (o + 1) (a1 + v2) r3 s1) fun s4 =>
      L4_raise_3 o a1 fuel (v2 + (-1)) s4
def f4_raise (o : Nat) (a1 : Int32) (s : Sto) : Option (Sto) :=
  if kd o = 4 then
  Option.bind (L4_raise_3 o a1 FU (42 : Int32) s) fun s8 =>
  Option.bind (f8_put_ (o + 1) a1 (0 : Int64) s8) fun s9 =>
  some s9
  else none
def L4_addDropped_2 (o : Nat) (a1 : Int32) (a2 : Int32) : Nat → Int32 → Sto → Option (Sto)
  | 0, _, _ => none
  | fuel + 1, v3, s =>
    if (43 : Int32) ≤ v3 then
      some s
    else
      nm (if (0 : Int32) < (v3 - (1 : Int32)) then (v3 - (1 : Int32)) else (0 : Int32)) fun x1 =>
      bd2 (f8_at_ (o + 1) (a2 + x1) s) fun r4 s2 =>
      bd2 (f8_at_ (o + 1) (a1 + v3) s2) fun r7 s5 =>
      Option.bind (f8_put_ (o + 1) (a2 + x1) (r4 + r7) s5) fun s8 =>
      L4_addDropped_2 o a1 a2 fuel (v3 + 1) s8
def f4_addDropped (o : Nat) (a1 : Int32) (a2 : Int32) (s : Sto) : Option (Sto) :=
  if kd o = 4 then
  Option.bind (L4_addDropped_2 o a1 a2 FU (0 : Int32) s) fun s12 =>
  some s12
  else none
def L4_ending_12 (o : Nat) (a1 : Int32) (a2 : Int32) (a3 : Int32) (a4 : Int32) : Nat → Int32 → Sto → Option (Sto)
  | 0, _, _ => none
  | fuel + 1, v5, s =>
    if (nI (ln (o + 1))) ≤ v5 then
      some s
    else
      Option.bind (f8_put_ (o + 1) v5 (0 : Int64) s) fun s1 =>
      L4_ending_12 o a1 a2 a3 a4 fuel (v5 + 1) s1
def L4_ending_59 (o : Nat) (a1 : Int32) (a2 : Int32) (a4 : Int32) (a5 : Int32) : Nat → Int32 → Sto → Option (Sto)
  | 0, _, _ => none
  | fuel + 1, v6, s =>
    if a1 < v6 then
      some s
    else
      Option.bind (
        if a5 ≤ 0 then
          some s
        else
          Option.bind (f4_raise o (v6 * (43 : Int32)) s) fun s8 =>
          some s8)
      fun s11 =>
      if v6 ≤ 0 then
        L4_ending_59 o a1 a2 a4 a5 fuel (v6 + 1) s11
      else
        Option.bind (f4_addDropped o ((v6 - (1 : Int32)) * (43 : Int32)) (v6 * (43 : Int32)) s11) fun s12 =>
        L4_ending_59 o a1 a2 a4 a5 fuel (v6 + 1) s12
def L4_ending_50 (o : Nat) (a1 : Int32) (a2 : Int32) (a4 : Int32) : Nat → Int32 → Sto → Option (Sto)
  | 0, _, _ => none
  | fuel + 1, v5, s =>
    if a2 < v5 then
      some s
    else
      Option.bind (L4_ending_59 o a1 a2 a4 v5 FU (0 : Int32) s) fun s18 =>
      L4_ending_50 o a1 a2 a4 fuel (v5 + 1) s18
def f4_ending (o : Nat) (a1 : Int32) (a2 : Int32) (a3 : Int32) (a4 : Int32) (s : Sto) : Option (Int64 × Sto) :=
  if kd o = 4 then
  if a4 < (43 : Int32) then
    Option.bind (L4_ending_12 o a1 a2 a3 a4 FU (0 : Int32) s) fun s5 =>
    Option.bind (f8_put_ (o + 1) a3 (1 : Int64) s5) fun s6 =>
    Option.bind (L4_ending_50 o a1 a2 a4 FU (0 : Int32) s6) fun s21 =>
    bd2 (f8_at_ (o + 1) ((a1 * (43 : Int32)) + a4) s21) fun r24 s22 =>
    some (r24, s22)
  else
    some ((0 : Int64), s)
  else none
def f8_orders (o : Nat) (a1 : Int32) (a2 : Int32) (a3 : Int32) (a4 : Int32) (s : Sto) : Option (Int64 × Sto) :=
  if kd o = 8 then
  bd2 (f8_areOrders a1 a2 a3 s) fun r3 s1 =>
  if r3 = 0 then
    some ((-1000000000000000002 : Int64), s1)
  else
    bd2 (f8_isWithin a4 (0 : Int32) (50 : Int32) s1) fun r6 s4 =>
    if r6 = 0 then
      some ((-1000000000000000002 : Int64), s4)
    else
      bd2 (f4_ending (o + 39) a1 a2 a3 a4 s4) fun r9 s7 =>
      some (r9, s7)
  else none
def f8_left (o : Nat) (a1 : Int32) (a2 : Int32) (a3 : Int32) (a4 : Int32) (s : Sto) : Option (Int32 × Sto) :=
  if kd o = 8 then
  bd2 (f8_areOrders a1 a2 a3 s) fun r3 s1 =>
  if r3 = 0 then
    some ((-2 : Int32), s1)
  else
    bd2 (f8_isWithin a4 (0 : Int32) (1 : Int32) s1) fun r6 s4 =>
    if r6 = 0 then
      some ((-2 : Int32), s4)
    else
      if a4 = 0 then
        nm (if (0 : Int32) < ((a3 + a2) - a1) then ((a3 + a2) - a1) else (0 : Int32)) fun x8 =>
        some (x8, s4)
      else
        nm (if (0 : Int32) < (a3 - a1) then (a3 - a1) else (0 : Int32)) fun x7 =>
        some ((x7 + a2), s4)
  else none
def f8_areChances (a0 : Int32) (a1 : Int32) (s : Sto) : Option (Int32 × Sto) :=
  bd2 (f8_isWithin a0 (0 : Int32) (12 : Int32) s) fun r3 s1 =>
  if r3 = 0 then
    some ((0 : Int32), s1)
  else
    bd2 (f8_isWithin a1 (0 : Int32) (10 : Int32) s1) fun r6 s4 =>
    if r6 = 0 then
      some ((0 : Int32), s4)
    else
      some ((1 : Int32), s4)
def L3_step_5 (o : Nat) (a1 : Int32) : Nat → Int64 → Int32 → Sto → Option (Sto)
  | 0, _, _, _ => none
  | fuel + 1, v2, v4, s =>
    if (83 : Int32) ≤ v4 then
      some s
    else
      bd2 (f8_at_ (o + 1) v4 s) fun r3 s1 =>
      bd2 (f8_at_ (o + 1) (v4 + (1 : Int32)) s1) fun r6 s4 =>
      Option.bind (
        if v4 = 0 then
          some r3
        else
          some (0 : Int64))
      fun x8 =>
      Option.bind (f8_put_ (o + 1) v4 ((v2 * ((10 : Int32) - a1).toInt64) + ((r6 + x8) * (a1).toInt64)) s4) fun s9 =>
      L3_step_5 o a1 fuel r3 (v4 + 1) s9
def f3_step (o : Nat) (a1 : Int32) (s : Sto) : Option (Sto) :=
  if kd o = 3 then
  Option.bind (L3_step_5 o a1 FU (0 : Int64) (0 : Int32) s) fun s14 =>
  some s14
  else none
def L3_play_3 (o : Nat) (a1 : Int32) (a2 : Int32) (a3 : Int32) : Nat → Int32 → Sto → Option (Sto)
  | 0, _, _ => none
  | fuel + 1, v4, s =>
    if (83 : Int32) ≤ v4 then
      some s
    else
      Option.bind (f8_put_ (o + 1) v4 (0 : Int64) s) fun s1 =>
      L3_play_3 o a1 a2 a3 fuel (v4 + 1) s1
def L3_play_38 (o : Nat) (a2 : Int32) (a3 : Int32) : Nat → Int32 → Sto → Option (Sto)
  | 0, _, _ => none
  | fuel + 1, v4, s =>
    if a2 ≤ v4 then
      some s
    else
      Option.bind (f3_step o a3 s) fun s8 =>
      L3_play_38 o a2 a3 fuel (v4 + 1) s8
def f3_play (o : Nat) (a1 : Int32) (a2 : Int32) (a3 : Int32) (s : Sto) : Option (Sto) :=
  if kd o = 3 then
  Option.bind (L3_play_3 o a1 a2 a3 FU (0 : Int32) s) fun s5 =>
  Option.bind (f8_put_ (o + 1) a1 (1 : Int64) s5) fun s6 =>
  Option.bind (L3_play_38 o a2 a3 FU (0 : Int32) s6) fun s12 =>
  some s12
  else none
def L3_sumOfRows_4 (o : Nat) : Nat → Int64 → Int32 → Sto → Option (Int64 × Sto)
  | 0, _, _, _ => none
  | fuel + 1, v1, v3, s =>
    if (83 : Int32) ≤ v3 then
      some (v1, s)
    else
      bd2 (f8_at_ (o + 1) v3 s) fun r3 s1 =>
      L3_sumOfRows_4 o fuel (v1 + ((v3).toInt64 * r3)) (v3 + 1) s1
def f3_sumOfRows (o : Nat) (s : Sto) : Option (Int64 × Sto) :=
  if kd o = 3 then
  bd2 (L3_sumOfRows_4 o FU (0 : Int64) (0 : Int32) s) fun y6 s7 =>
  some (y6, s7)
  else none
def L3_atLeast_9 (o : Nat) : Nat → Int64 → Int32 → Sto → Option (Int64 × Sto)
  | 0, _, _, _ => none
  | fuel + 1, v2, v4, s =>
    if (83 : Int32) ≤ v4 then
      some (v2, s)
    else
      bd2 (f8_at_ (o + 1) v4 s) fun r4 s2 =>
      L3_atLeast_9 o fuel (v2 + r4) (v4 + 1) s2
def f3_atLeast (o : Nat) (a1 : Int32) (s : Sto) : Option (Int64 × Sto) :=
  if kd o = 3 then
  nm (if (0 : Int32) < a1 then a1 else (0 : Int32)) fun x1 =>
  bd2 (L3_atLeast_9 o FU (0 : Int64) x1 s) fun y7 s8 =>
  some (y7, s8)
  else none
def L8_powerOfTen_4 (a0 : Int32) (s : Sto) : Nat → Int64 → Int32 → Option (Int64)
  | 0, _, _ => none
  | fuel + 1, v1, v3 =>
    if a0 ≤ v3 then
      some v1
    else
      if (12 : Int32) ≤ v3 then
        some v1
      else
        L8_powerOfTen_4 a0 s fuel (v1 * (10 : Int64)) (v3 + 1)
def f8_powerOfTen (a0 : Int32) (s : Sto) : Option (Int64 × Sto) :=
  Option.bind (L8_powerOfTen_4 a0 s FU (1 : Int64) (0 : Int32)) fun y4 =>
  some (y4, s)
def L8_greatestDivisor_9  (s : Sto) : Nat → Int64 → Int64 → Int32 → Option (Int64)
  | 0, _, _, _ => none
  | fuel + 1, v4, v6, v8 =>
    if (200 : Int32) ≤ v8 then
      some v4
    else
      if (lg_cmp v6 (0 : Int64)) = 0 then
        some v4
      else
        if ¬ v6 = 0 then
        L8_greatestDivisor_9 s fuel v6 (v4 - v4 / v6 * v6) (v8 + 1)
        else none
def f8_greatestDivisor (a0 : Int64) (a2 : Int64) (s : Sto) : Option (Int64 × Sto) :=
  Option.bind (L8_greatestDivisor_9 s FU a0 a2 (0 : Int32)) fun y5 =>
  some (y5, s)
def f8_chance (o : Nat) (a1 : Int32) (a2 : Int32) (a3 : Int32) (a4 : Int32) (s : Sto) : Option (Int64 × Sto) :=
  if kd o = 8 then
  bd2 (f8_areChances a1 a2 s) fun r3 s1 =>
  if r3 = 0 then
    some ((-1000000000000000002 : Int64), s1)
  else
    bd2 (f8_isWithin a3 (-1 : Int32) (50 : Int32) s1) fun r6 s4 =>
    if r6 = 0 then
      some ((-1000000000000000002 : Int64), s4)
    else
      bd2 (f8_isWithin a4 (0 : Int32) (1 : Int32) s4) fun r9 s7 =>
      if r9 = 0 then
        some ((-1000000000000000002 : Int64), s7)
      else
        Option.bind (f3_play (o + 41) (s7.1 ((o + 1) + 2) 3) a1 a2 s7) fun s10 =>
        bd2 (
          if 0 ≤ a3 then
            bd2 (f3_atLeast (o + 41) a3 s10) fun r14 s12 =>
            some (r14, s12)
          else
            bd2 (f3_sumOfRows (o + 41) s10) fun r17 s15 =>
            some (r17, s15))
        fun x19 s20 =>
        bd2 (f8_powerOfTen a1 s20) fun r23 s21 =>
        bd2 (f8_greatestDivisor x19 r23 s21) fun r26 s24 =>
        Option.bind (
          if 0 ≤ (lg_cmp r26 (1 : Int64)) then
            some r26
          else
            some (1 : Int64))
        fun x28 =>
        if a4 = 0 then
          if ¬ x28 = 0 then
          some ((x19 / x28), s24)
          else none
        else
          if ¬ x28 = 0 then
          some ((r23 / x28), s24)
          else none
  else none
def L8_over_59 (o : Nat) (a1 : Int32) (a2 : Int32) (a3 : Int32) (a5 : Int32) (a6 : Int64) : Nat → Int32 → Sto → Option (Int32 × Sto)
  | 0, _, _ => none
  | fuel + 1, v8, s =>
    if (40 : Int32) < v8 then
      some ((-6 : Int32), s)
    else
      Option.bind (f3_play (o + 41) ((s.1 ((o + 1) + 2) 3) + v8) a1 a2 s) fun s16 =>
      bd2 (f3_atLeast (o + 41) a3 s16) fun r20 s18 =>
      if (lg_cmp (r20 * (a5).toInt64) a6) < 0 then
        L8_over_59 o a1 a2 a3 a5 a6 fuel (v8 + 1) s18
      else
        some (v8, s18)
def f8_over (o : Nat) (a1 : Int32) (a2 : Int32) (a3 : Int32) (a4 : Int32) (a5 : Int32) (s : Sto) : Option (Int32 × Sto) :=
  if kd o = 8 then
  bd2 (f8_areChances a1 a2 s) fun r3 s1 =>
  if r3 = 0 then
    some ((-2 : Int32), s1)
  else
    bd2 (f8_isWithin a3 (0 : Int32) (50 : Int32) s1) fun r6 s4 =>
    if r6 = 0 then
      some ((-2 : Int32), s4)
    else
      bd2 (f8_isWithin a5 (1 : Int32) (100 : Int32) s4) fun r9 s7 =>
      if r9 = 0 then
        some ((-2 : Int32), s7)
      else
        bd2 (f8_isWithin a4 (0 : Int32) a5 s7) fun r12 s10 =>
        if r12 = 0 then
          some ((-2 : Int32), s10)
        else
          bd2 (f8_powerOfTen a1 s10) fun r15 s13 =>
          L8_over_59 o a1 a2 a3 a5 ((a4).toInt64 * r15) FU (0 : Int32) s13
  else none
def L8_patterns_30 (a1 : Int32) (a2 : Int32) (s : Sto) : Nat → Int32 → Int32 → Int32 → Option (Int32 × Int32)
  | 0, _, _, _ => none
  | fuel + 1, v3, v4, v5 =>
    if a1 ≤ v5 then
      some (v3, v4)
    else
      L8_patterns_30 a1 a2 s fuel (v3 + v4) (((v3 + v4) * a2) + v4) (v5 + 1)
def f8_patterns (o : Nat) (a1 : Int32) (s : Sto) : Option (Int32 × Sto) :=
  if kd o = 8 then
  bd2 (f8_isWithin a1 (0 : Int32) (8 : Int32) s) fun r3 s1 =>
  if r3 = 0 then
    some ((-2 : Int32), s1)
  else
    bd2 (f0_countWithout (o + 1) (1 : Int32) s1) fun r6 s4 =>
    bd2 (L8_patterns_30 a1 r6 s4 FU (1 : Int32) (0 : Int32) (0 : Int32)) fun y9 y10 =>
    some ((y9 + y10), s4)
  else none
def f8_drawnRemark (a0 : Int32) (a1 : Int32) (s : Sto) : Option (Int32 × Sto) :=
  if (a0 - a0 / (8 : Int32) * (8 : Int32)) = 0 then
    some ((100 : Int32), s)
  else
  if (a0 - a0 / (8 : Int32) * (8 : Int32)) = 1 then
    some ((101 : Int32), s)
  else
  if (a0 - a0 / (8 : Int32) * (8 : Int32)) = 2 then
    some ((102 : Int32), s)
  else
  Option.bind (
    if a1 ≤ 0 then
      some (0 : Int32)
    else
      if ¬ a1 = 0 then
      some ((a0 / (48 : Int32)) - (a0 / (48 : Int32)) / a1 * a1)
      else none)
  fun x3 =>
  Option.bind (
    if ((a0 / (480 : Int32)) - (a0 / (480 : Int32)) / (2 : Int32) * (2 : Int32)) = (1 : Int32) then
      some (1 : Int32)
    else
      some (0 : Int32))
  fun x5 =>
  bd2 (f8_spoken ((a0 / (8 : Int32)) - (a0 / (8 : Int32)) / (6 : Int32) * (6 : Int32)) x3 x5 s) fun r8 s6 =>
  some (r8, s6)
def L8_draws_60 (o : Nat) (a2 : Int32) (a3 : Int32) (a4 : Nat) : Nat → Int32 → Int32 → Sto → Option (Sto)
  | 0, _, _, _ => none
  | fuel + 1, v5, v6, s =>
    if a2 ≤ v6 then
      some s
    else
      nm ((((75 : Int32) * v5) + (74 : Int32)) - (((75 : Int32) * v5) + (74 : Int32)) / (65537 : Int32) * (65537 : Int32)) fun x12 =>
      bd2 (f8_drawnRemark x12 (s.1 (o + 1) 0) s) fun r15 s13 =>
      bd2 (f8_whyNot r15 (o + 1) (s13.1 (o + 1) 1) a4 s13) fun r18 s16 =>
      if r18 = 0 then
        Option.bind (f2_hear a4 r15 (s16.1 (o + 1) 1) s16) fun s19 =>
        L8_draws_60 o a2 a3 a4 fuel x12 (v6 + 1) s19
      else
        L8_draws_60 o a2 a3 a4 fuel x12 (v6 + 1) s16
def f8_draws (o : Nat) (a1 : Int32) (a2 : Int32) (a3 : Int32) (s : Sto) : Option (Int32 × Sto) :=
  if kd o = 8 then
  bd2 (f8_isWithin a1 (0 : Int32) (9999 : Int32) s) fun r3 s1 =>
  if r3 = 0 then
    some ((-2 : Int32), s1)
  else
    bd2 (f8_isWithin a2 (1 : Int32) (99 : Int32) s1) fun r6 s4 =>
    if r6 = 0 then
      some ((-2 : Int32), s4)
    else
      bd2 (f8_isWithin a3 (0 : Int32) (2 : Int32) s4) fun r9 s7 =>
      if r9 = 0 then
        some ((-2 : Int32), s7)
      else
        Option.bind (f2_copyFrom ((o + 27) + 3) ((o + 1) + 2) s7) fun s10 =>
        Option.bind (L8_draws_60 o a2 a3 ((o + 27) + 3) FU a1 (0 : Int32) s10) fun s24 =>
        if a3 = 0 then
          some ((s24.1 ((o + 27) + 3) 3), s24)
        else
        if a3 = 1 then
          some ((s24.1 ((o + 27) + 3) 5), s24)
        else
        some ((s24.1 ((o + 27) + 3) 4), s24)
  else none
def f8_imageAt (o : Nat) (a1 : Int32) (s : Sto) : Option (Nat × Sto) :=
  if kd o = 8 then
  if a1 = 0 then
    some ((o + 9), s)
  else
    some ((o + 17), s)
  else none
def f0_copyFrom (o : Nat) (a1 : Nat) (s : Sto) : Option (Sto) :=
  if kd o = 0 ∧ kd a1 = 0 then
  nm (stI s o 0 (s.1 a1 0)) fun s1 =>
  nm (stI s1 o 1 (s1.1 a1 1)) fun s2 =>
  Option.bind (f8_copyAll (a1 + 1) (o + 1) s2) fun s3 =>
  Option.bind (f2_copyFrom (o + 2) (a1 + 2) s3) fun s5 =>
  nm (stI s5 o 4 (s5.1 a1 4)) fun s7 =>
  Option.bind (f8_copyAll (a1 + 6) (o + 6) s7) fun s8 =>
  Option.bind (f8_copyAll (a1 + 7) (o + 7) s8) fun s10 =>
  some s10
  else none
def f8_image (o : Nat) (a1 : Int32) (s : Sto) : Option (Int32 × Sto) :=
  if kd o = 8 then
  bd2 (f8_isWithin a1 (0 : Int32) (1 : Int32) s) fun r3 s1 =>
  if r3 = 0 then
    some ((-2 : Int32), s1)
  else
    bd2 (f8_imageAt o a1 s1) fun r6 s4 =>
    if kd r6 = 0 then
    Option.bind (f0_copyFrom r6 (o + 1) s4) fun s8 =>
    nm (stI s8 r6 7 (1 : Int32)) fun s10 =>
    some ((1 : Int32), s10)
    else none
  else none
def f8_restore (o : Nat) (a1 : Int32) (s : Sto) : Option (Int32 × Sto) :=
  if kd o = 8 then
  bd2 (f8_isWithin a1 (0 : Int32) (1 : Int32) s) fun r3 s1 =>
  if r3 = 0 then
    some ((-2 : Int32), s1)
  else
    bd2 (f8_imageAt o a1 s1) fun r6 s4 =>
    if kd r6 = 0 then
    if (s4.1 r6 7) = 0 then
      some ((-3 : Int32), s4)
    else
      Option.bind (f0_copyFrom (o + 1) r6 s4) fun s8 =>
      some ((1 : Int32), s8)
    else none
  else none
def f8_told (o : Nat) (a1 : Int32) (s : Sto) : Option (Int32 × Sto) :=
  if kd o = 8 then
  if a1 = 0 then
    some ((s.1 (o + 25) 1), s)
  else
  if a1 = 1 then
    some ((s.1 (o + 1) 0), s)
  else
  if a1 = 2 then
    some ((s.1 (o + 1) 1), s)
  else
  if a1 = 3 then
    some ((s.1 ((o + 1) + 2) 3), s)
  else
  if a1 = 4 then
    some ((s.1 ((o + 1) + 2) 4), s)
  else
  if a1 = 5 then
    some ((s.1 (o + 1) 4), s)
  else
  bd2 (f8_isWithin a1 (10 : Int32) (15 : Int32) s) fun r3 s1 =>
  if r3 = 0 then
    some ((-2 : Int32), s1)
  else
    bd2 (f0_temperOf (o + 1) (a1 - (10 : Int32)) s1) fun r6 s4 =>
    some (r6, s4)
  else none
