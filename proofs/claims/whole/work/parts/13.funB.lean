def f9_in (a0 : Int64) (a2 : Int64) (a4 : Int64) (s : Sto) : Option (Int32 × Sto) :=
  if (lg_cmp a0 a2) < 0 then
    some ((0 : Int32), s)
  else
    if 0 < (lg_cmp a0 a4) then
      some ((0 : Int32), s)
    else
      some ((1 : Int32), s)
def L9_begin_28 (o : Nat) : Nat → Int32 → Sto → Option (Sto)
  | 0, _, _ => none
  | fuel + 1, v2, s =>
    if (6 : Int32) ≤ v2 then
      some s
    else
      if inb v2 (ln (o + 1)) then
      nm (stI s (o + 1) v2.toNatClampNeg (0 : Int32)) fun s7 =>
      L9_begin_28 o fuel (v2 + 1) s7
      else none
def f9_begin (o : Nat) (a1 : Int32) (s : Sto) : Option (Sto) :=
  if kd o = 9 then
  nm (stI s o 0 a1) fun s1 =>
  nm (stI s1 o 1 (0 : Int32)) fun s2 =>
  nm (stI s2 o 3 (0 : Int32)) fun s3 =>
  nm (stI s3 o 4 (20 : Int32)) fun s4 =>
  nm (stI s4 o 10 (0 : Int32)) fun s5 =>
  Option.bind (L9_begin_28 o FU (0 : Int32) s5) fun s10 =>
  some s10
  else none
def f9_isFact (o : Nat) (a1 : Int32) (s : Sto) : Option (Int32 × Sto) :=
  if kd o = 9 then
  bd2 (f9_in (a1).toInt64 (0 : Int64) (((s.1 o 0) - (1 : Int32)).toInt64) s) fun r3 s1 =>
  if r3 = 0 ∨ r3 = 1 then
  some (r3, s1)
  else none
  else none
def f9_isGuest (a0 : Int32) (s : Sto) : Option (Int32 × Sto) :=
  bd2 (f9_in (a0).toInt64 (0 : Int64) (5 : Int64) s) fun r3 s1 =>
  if r3 = 0 ∨ r3 = 1 then
  some (r3, s1)
  else none
def f9_isRow (o : Nat) (a1 : Int32) (s : Sto) : Option (Int32 × Sto) :=
  if kd o = 9 then
  bd2 (f9_in (a1).toInt64 (0 : Int64) (((s.1 o 3) - (1 : Int32)).toInt64) s) fun r3 s1 =>
  if r3 = 0 ∨ r3 = 1 then
  some (r3, s1)
  else none
  else none
def f9_facts (o : Nat) (a1 : Int32) (s : Sto) : Option (Int32 × Sto) :=
  if kd o = 9 then
  bd2 (f9_in (a1).toInt64 (1 : Int64) (8 : Int64) s) fun r3 s1 =>
  if r3 = 0 then
    some ((-2 : Int32), s1)
  else
    Option.bind (f9_begin o a1 s1) fun s4 =>
    some ((s1.1 o 0), s4)
  else none
def f9_fact (o : Nat) (a1 : Int32) (a2 : Int32) (s : Sto) : Option (Int32 × Sto) :=
  if kd o = 9 then
  bd2 (f9_isFact o a1 s) fun r3 s1 =>
  if r3 = 0 then
    some ((-1 : Int32), s1)
  else
    if a2 = 0 then
      nm (stI s1 o 1 ((s1.1 o 1) &&& (((1 : Int32) <<< (a1 &&& 31)) ^^^ (-1 : Int32)))) fun s4 =>
      some ((s4.1 o 1), s4)
    else
      nm (stI s1 o 1 ((s1.1 o 1) ||| ((1 : Int32) <<< (a1 &&& 31)))) fun s5 =>
      some ((s5.1 o 1), s5)
  else none
def f9_temper (o : Nat) (a1 : Int32) (a2 : Int32) (s : Sto) : Option (Int32 × Sto) :=
  if kd o = 9 then
  bd2 (f9_isGuest a1 s) fun r3 s1 =>
  if r3 = 0 then
    some ((-1 : Int32), s1)
  else
    bd2 (f9_in (a2).toInt64 (0 : Int64) (2 : Int64) s1) fun r6 s4 =>
    if r6 = 0 then
      some ((-2 : Int32), s4)
    else
      if inb a1 (ln (o + 1)) then
      nm (s4.1 (o + 1) a1.toNatClampNeg) fun x8 =>
      if inb a1 (ln (o + 1)) then
      nm (stI s4 (o + 1) a1.toNatClampNeg a2) fun s10 =>
      some (x8, s10)
      else none
      else none
  else none
def f9_width (o : Nat) (a1 : Int32) (s : Sto) : Option (Int32 × Sto) :=
  if kd o = 9 then
  bd2 (f9_in (a1).toInt64 (0 : Int64) (40 : Int64) s) fun r3 s1 =>
  if r3 = 0 then
    some ((-2 : Int32), s1)
  else
    nm (stI s1 o 4 a1) fun s4 =>
    some ((s1.1 o 4), s4)
  else none
def f9_say (o : Nat) (a1 : Int32) (s : Sto) : Option (Int32 × Sto) :=
  if kd o = 9 then
  bd2 (f9_in (a1).toInt64 (33 : Int64) (126 : Int64) s) fun r3 s1 =>
  if r3 = 0 then
    some ((-2 : Int32), s1)
  else
    if (s1.1 o 12) = (60 : Int32) then
      some ((-4 : Int32), s1)
    else
      if inb (s1.1 o 12) (ln (o + 7)) then
      nm (stI s1 (o + 7) (s1.1 o 12).toNatClampNeg a1) fun s5 =>
      nm (stI s5 o 12 ((s5.1 o 12) + (1 : Int32))) fun s6 =>
      some ((s6.1 o 12), s6)
      else none
  else none
def f9_wipe (o : Nat) (s : Sto) : Option (Int32 × Sto) :=
  if kd o = 9 then
  nm (stI s o 12 (0 : Int32)) fun s1 =>
  some ((s.1 o 12), s1)
  else none
def f9_shortRemark (a0 : Int32) (s : Sto) : Option (Int32 × Sto) :=
  if a0 = (46 : Int32) then
    some ((1 : Int32), s)
  else
    if a0 = (63 : Int32) then
      some ((2 : Int32), s)
    else
      if a0 = (33 : Int32) then
        some ((3 : Int32), s)
      else
        some ((-6 : Int32), s)
def L9_faultOfEvening_9 (o : Nat) : Nat → Int32 → Int32 → Sto → Option (Int32 × Sto)
  | 0, _, _, _ => none
  | fuel + 1, v1, v2, s =>
    if (s.1 o 12) ≤ v2 then
      if v1 = 0 then
        some ((-6 : Int32), s)
      else
        some ((s.1 o 12), s)
    else
      if inb v2 (ln (o + 7)) then
      bd2 (
        if v1 = 0 then
          bd2 (f9_shortRemark (s.1 (o + 7) v2.toNatClampNeg) s) fun r6 s4 =>
          if r6 ≤ 0 then
            some ((0 : Int32), s4)
          else
            some ((1 : Int32), s4)
        else
          some ((0 : Int32), s))
      fun x9 s10 =>
      bd2 (
        if x9 = 0 then
          if v1 = 0 then
            bd2 (f9_isGuest ((s.1 (o + 7) v2.toNatClampNeg) - (65 : Int32)) s10) fun r20 s18 =>
            if r20 = 0 then
              some ((0 : Int32), s18)
            else
              some ((1 : Int32), s18)
          else
            if v1 = (1 : Int32) then
              bd2 (f9_isFact o ((s.1 (o + 7) v2.toNatClampNeg) - (97 : Int32)) s10) fun r15 s13 =>
              if r15 = 0 then
                some ((0 : Int32), s13)
              else
                some ((1 : Int32), s13)
            else
              if (s.1 (o + 7) v2.toNatClampNeg) = (43 : Int32) then
                some ((1 : Int32), s10)
              else
                if (s.1 (o + 7) v2.toNatClampNeg) = (45 : Int32) then
                  some ((1 : Int32), s10)
                else
                  some ((0 : Int32), s10)
        else
          some ((1 : Int32), s10))
      fun x24 s25 =>
      if x24 = 0 then
        some (v2, s25)
      else
        Option.bind (
          if x9 = 0 then
            if v1 = 0 then
              if inb (s25.1 o 17) (ln (o + 9)) then
              nm (stI s25 (o + 9) (s25.1 o 17).toNatClampNeg ((s.1 (o + 7) v2.toNatClampNeg) - (65 : Int32))) fun s37 =>
              some s37
              else none
            else
              if v1 = (1 : Int32) then
                if inb (s25.1 o 17) (ln (o + 10)) then
                nm (stI s25 (o + 10) (s25.1 o 17).toNatClampNeg ((s.1 (o + 7) v2.toNatClampNeg) - (97 : Int32))) fun s34 =>
                some s34
                else none
              else
                if inb (s25.1 o 17) (ln (o + 8)) then
                nm (stI s25 (o + 8) (s25.1 o 17).toNatClampNeg (0 : Int32)) fun s27 =>
                if (s.1 (o + 7) v2.toNatClampNeg) = (43 : Int32) then
                  if inb (s27.1 o 17) (ln (o + 11)) then
                  nm (stI s27 (o + 11) (s27.1 o 17).toNatClampNeg (1 : Int32)) fun s31 =>
                  some s31
                  else none
                else
                  if inb (s27.1 o 17) (ln (o + 11)) then
                  nm (stI s27 (o + 11) (s27.1 o 17).toNatClampNeg (0 : Int32)) fun s29 =>
                  some s29
                  else none
                else none
          else
            bd2 (f9_shortRemark (s.1 (o + 7) v2.toNatClampNeg) s25) fun r41 s39 =>
            if inb (s25.1 o 17) (ln (o + 8)) then
            nm (stI s39 (o + 8) (s25.1 o 17).toNatClampNeg r41) fun s43 =>
            some s43
            else none)
        fun s45 =>
        Option.bind (
          if x9 = 0 then
            if v1 = (2 : Int32) then
              some (1 : Int32)
            else
              some (0 : Int32)
          else
            some (1 : Int32))
        fun x48 =>
        nm (stI s45 o 17 ((s45.1 o 17) + x48)) fun s49 =>
        if x9 = 0 then
          if v1 = (2 : Int32) then
            L9_faultOfEvening_9 o fuel (0 : Int32) (v2 + 1) s49
          else
            L9_faultOfEvening_9 o fuel (v1 + (1 : Int32)) (v2 + 1) s49
        else
          L9_faultOfEvening_9 o fuel (0 : Int32) (v2 + 1) s49
      else none
def f9_faultOfEvening (o : Nat) (s : Sto) : Option (Int32 × Sto) :=
  if kd o = 9 then
  nm (stI s o 17 (0 : Int32)) fun s1 =>
  L9_faultOfEvening_9 o FU (0 : Int32) (0 : Int32) s1
  else none
def L9_faultOfPattern_9 (o : Nat) : Nat → Int32 → Int32 → Sto → Option (Int32 × Sto)
  | 0, _, _, _ => none
  | fuel + 1, v1, v2, s =>
    if (s.1 o 12) ≤ v2 then
      some ((-6 : Int32), s)
    else
      if inb v2 (ln (o + 7)) then
      bd2 (f9_isGuest ((s.1 (o + 7) v2.toNatClampNeg) - (65 : Int32)) s) fun r5 s3 =>
      Option.bind (
        if (s.1 (o + 7) v2.toNatClampNeg) = (42 : Int32) then
          if v1 = 0 then
            some (0 : Int32)
          else
            some (1 : Int32)
        else
          some (0 : Int32))
      fun x8 =>
      if r5 = 0 then
        if x8 = 0 then
          if (s.1 (o + 7) v2.toNatClampNeg) = (109 : Int32) then
            if x8 = 0 then
              Option.bind (
                if r5 = 0 then
                  some (6 : Int32)
                else
                  some ((s.1 (o + 7) v2.toNatClampNeg) - (65 : Int32)))
              fun x38 =>
              if inb (s3.1 o 20) (ln (o + 12)) then
              nm (stI s3 (o + 12) (s3.1 o 20).toNatClampNeg x38) fun s40 =>
              Option.bind (
                if r5 = 0 then
                  some (2 : Int32)
                else
                  some (0 : Int32))
              fun x42 =>
              if inb (s40.1 o 20) (ln (o + 13)) then
              nm (stI s40 (o + 13) (s40.1 o 20).toNatClampNeg x42) fun s44 =>
              nm (stI s44 o 20 ((s44.1 o 20) + (1 : Int32))) fun s45 =>
              L9_faultOfPattern_9 o fuel r5 (v2 + 1) s45
              else none
              else none
            else
              if inb ((s3.1 o 20) - (1 : Int32)) (ln (o + 13)) then
              nm (stI s3 (o + 13) ((s3.1 o 20) - (1 : Int32)).toNatClampNeg (1 : Int32)) fun s49 =>
              L9_faultOfPattern_9 o fuel r5 (v2 + 1) s49
              else none
          else
            some (v2, s3)
        else
          if x8 = 0 then
            Option.bind (
              if r5 = 0 then
                some (6 : Int32)
              else
                some ((s.1 (o + 7) v2.toNatClampNeg) - (65 : Int32)))
            fun x24 =>
            if inb (s3.1 o 20) (ln (o + 12)) then
            nm (stI s3 (o + 12) (s3.1 o 20).toNatClampNeg x24) fun s26 =>
            Option.bind (
              if r5 = 0 then
                some (2 : Int32)
              else
                some (0 : Int32))
            fun x28 =>
            if inb (s26.1 o 20) (ln (o + 13)) then
            nm (stI s26 (o + 13) (s26.1 o 20).toNatClampNeg x28) fun s30 =>
            nm (stI s30 o 20 ((s30.1 o 20) + (1 : Int32))) fun s31 =>
            L9_faultOfPattern_9 o fuel r5 (v2 + 1) s31
            else none
            else none
          else
            if inb ((s3.1 o 20) - (1 : Int32)) (ln (o + 13)) then
            nm (stI s3 (o + 13) ((s3.1 o 20) - (1 : Int32)).toNatClampNeg (1 : Int32)) fun s35 =>
            L9_faultOfPattern_9 o fuel r5 (v2 + 1) s35
            else none
      else
        if x8 = 0 then
          Option.bind (
            if r5 = 0 then
              some (6 : Int32)
            else
              some ((s.1 (o + 7) v2.toNatClampNeg) - (65 : Int32)))
          fun x10 =>
          if inb (s3.1 o 20) (ln (o + 12)) then
          nm (stI s3 (o + 12) (s3.1 o 20).toNatClampNeg x10) fun s12 =>
          Option.bind (
            if r5 = 0 then
              some (2 : Int32)
            else
              some (0 : Int32))
          fun x14 =>
          if inb (s12.1 o 20) (ln (o + 13)) then
          nm (stI s12 (o + 13) (s12.1 o 20).toNatClampNeg x14) fun s16 =>
          nm (stI s16 o 20 ((s16.1 o 20) + (1 : Int32))) fun s17 =>
          L9_faultOfPattern_9 o fuel r5 (v2 + 1) s17
          else none
          else none
        else
          if inb ((s3.1 o 20) - (1 : Int32)) (ln (o + 13)) then
          nm (stI s3 (o + 13) ((s3.1 o 20) - (1 : Int32)).toNatClampNeg (1 : Int32)) fun s21 =>
          L9_faultOfPattern_9 o fuel r5 (v2 + 1) s21
          else none
      else none
def f9_faultOfPattern (o : Nat) (s : Sto) : Option (Int32 × Sto) :=
  if kd o = 9 then
  nm (stI s o 20 (0 : Int32)) fun s1 =>
  L9_faultOfPattern_9 o FU (0 : Int32) (0 : Int32) s1
  else none
def f9_fault (o : Nat) (a1 : Int32) (s : Sto) : Option (Int32 × Sto) :=
  if kd o = 9 then
  if a1 = 0 then
    bd2 (f9_faultOfEvening o s) fun r7 s5 =>
    some (r7, s5)
  else
    if a1 = (1 : Int32) then
      bd2 (f9_faultOfPattern o s) fun r3 s1 =>
      some (r3, s1)
    else
      some ((-2 : Int32), s)
  else none
def f9_isLie (o : Nat) (a1 : Int32) (a2 : Int32) (s : Sto) : Option (Int32 × Sto) :=
  if kd o = 9 then
  if inb a1 (ln (o + 11)) then
  if inb a1 (ln (o + 10)) then
  if (s.1 (o + 11) a1.toNatClampNeg) = ((a2 >>> ((s.1 (o + 10) a1.toNatClampNeg) &&& 31)) &&& (1 : Int32)) then
    some ((0 : Int32), s)
  else
    some ((1 : Int32), s)
  else none
  else none
  else none
def f9_whyNotKnit (o : Nat) (s : Sto) : Option (Int32 × Sto) :=
  if kd o = 9 then
  if (s.1 o 3) = (30 : Int32) then
    some ((2 : Int32), s)
  else
    if (s.1 o 4) = 0 then
      some ((3 : Int32), s)
    else
      some ((0 : Int32), s)
  else none
def f9_whyNotSay (o : Nat) (a1 : Int32) (a2 : Int32) (s : Sto) : Option (Int32 × Sto) :=
  if kd o = 9 then
  if inb a1 (ln (o + 1)) then
  Option.bind (
    if a2 = 0 then
      some (2 : Int32)
    else
      some (1 : Int32))
  fun x3 =>
  if (s.1 (o + 1) a1.toNatClampNeg) = x3 then
    some ((1 : Int32), s)
  else
    if a2 = 0 then
      some ((0 : Int32), s)
    else
      bd2 (f9_whyNotKnit o s) fun r6 s4 =>
      some (r6, s4)
  else none
  else none
def f9_whyNot (o : Nat) (a1 : Int32) (a2 : Int32) (s : Sto) : Option (Int32 × Sto) :=
  if kd o = 9 then
  if inb a1 (ln (o + 8)) then
  if (s.1 (o + 8) a1.toNatClampNeg) = 0 then
    if inb a1 (ln (o + 9)) then
    bd2 (f9_isLie o a1 a2 s) fun r5 s3 =>
    bd2 (f9_whyNotSay o (s.1 (o + 9) a1.toNatClampNeg) r5 s3) fun r8 s6 =>
    some (r8, s6)
    else none
  else
  if (s.1 (o + 8) a1.toNatClampNeg) = 1 then
    bd2 (f9_whyNotKnit o s) fun r11 s9 =>
    some (r11, s9)
  else
  if (s.1 (o + 8) a1.toNatClampNeg) = 2 then
    if (s.1 o 4) = 0 then
      some ((3 : Int32), s)
    else
      some ((0 : Int32), s)
  else
  some ((0 : Int32), s)
  else none
  else none
def f9_knit (o : Nat) (a1 : Int32) (a2 : Int32) (s : Sto) : Option (Sto) :=
  if kd o = 9 then
  if inb (s.1 o 3) (ln (o + 2)) then
  nm (stI s (o + 2) (s.1 o 3).toNatClampNeg a1) fun s2 =>
  if inb (s2.1 o 3) (ln (o + 3)) then
  nm (stI s2 (o + 3) (s2.1 o 3).toNatClampNeg a2) fun s4 =>
  if inb (s4.1 o 3) (ln (o + 4)) then
  nm (stI s4 (o + 4) (s4.1 o 3).toNatClampNeg (s4.1 o 4)) fun s6 =>
  nm (stI s6 o 3 ((s6.1 o 3) + (1 : Int32))) fun s7 =>
  nm (stI s7 o 21 ((s7.1 o 21) + (1 : Int32))) fun s8 =>
  some s8
  else none
  else none
  else none
  else none
def f9_ravel (o : Nat) (s : Sto) : Option (Sto) :=
  if kd o = 9 then
  if (s.1 o 3) ≤ 0 then
    some s
  else
    nm (stI s o 3 ((s.1 o 3) - (1 : Int32))) fun s1 =>
    nm (stI s1 o 22 ((s1.1 o 22) + (1 : Int32))) fun s2 =>
    some s2
  else none
def L9_undo_24 (o : Nat) (a1 : Int32) : Nat → Sto → Option (Sto)
  | 0, _ => none
  | fuel + 1, s =>
    if (s.1 o 3) ≤ 0 then
      some s
    else
      if inb ((s.1 o 3) - (1 : Int32)) (ln (o + 2)) then
      if (s.1 (o + 2) ((s.1 o 3) - (1 : Int32)).toNatClampNeg) = a1 then
        Option.bind (f9_ravel o s) fun s5 =>
        L9_undo_24 o a1 fuel s5
      else
        some s
      else none
def f9_undo (o : Nat) (s : Sto) : Option (Sto) :=
  if kd o = 9 then
  Option.bind (
    if (s.1 o 3) ≤ 0 then
      some (-6 : Int32)
    else
      if inb ((s.1 o 3) - (1 : Int32)) (ln (o + 2)) then
      some (s.1 (o + 2) ((s.1 o 3) - (1 : Int32)).toNatClampNeg)
      else none)
  fun x3 =>
  Option.bind (L9_undo_24 o x3 FU s) fun s10 =>
  some s10
  else none
def f9_tells (o : Nat) (a1 : Int32) (a2 : Int32) (s : Sto) : Option (Sto) :=
  if kd o = 9 then
  Option.bind (
    if a2 = 0 then
      Option.bind (f9_ravel o s) fun s1 =>
      some s1
    else
      Option.bind (
        if (s.1 o 25) = a1 then
          some (1 : Int32)
        else
          some (0 : Int32))
      fun x4 =>
      Option.bind (f9_knit o a1 x4 s) fun s5 =>
      some s5)
  fun s9 =>
  if a2 = 0 then
    nm (stI s9 o 25 (-6 : Int32)) fun s10 =>
    some s10
  else
    nm (stI s9 o 25 a1) fun s11 =>
    some s11
  else none
def f9_happen (o : Nat) (a1 : Int32) (a2 : Int32) (s : Sto) : Option (Sto) :=
  if kd o = 9 then
  if inb a1 (ln (o + 8)) then
  if (s.1 (o + 8) a1.toNatClampNeg) = 0 then
    if inb a1 (ln (o + 9)) then
    bd2 (f9_isLie o a1 a2 s) fun r15 s13 =>
    Option.bind (f9_tells o (s.1 (o + 9) a1.toNatClampNeg) r15 s13) fun s16 =>
    some s16
    else none
  else
    nm (stI s o 25 (-6 : Int32)) fun s2 =>
    if inb a1 (ln (o + 8)) then
    if (s2.1 (o + 8) a1.toNatClampNeg) = (1 : Int32) then
      Option.bind (f9_knit o (6 : Int32) (2 : Int32) s2) fun s9 =>
      some s9
    else
      if inb a1 (ln (o + 8)) then
      if (s2.1 (o + 8) a1.toNatClampNeg) = (2 : Int32) then
        nm (stI s2 o 4 ((s2.1 o 4) - (1 : Int32))) fun s7 =>
        some s7
      else
        Option.bind (f9_undo o s2) fun s5 =>
        some s5
      else none
    else none
  else none
  else none
def L9_keepNow_2 (o : Nat) : Nat → Int32 → Sto → Option (Sto)
  | 0, _, _ => none
  | fuel + 1, v1, s =>
    if (30 : Int32) ≤ v1 then
      some s
    else
      if inb v1 (ln (o + 2)) then
      if inb v1 (ln (o + 15)) then
      nm (stI s (o + 15) v1.toNatClampNeg (s.1 (o + 2) v1.toNatClampNeg)) fun s3 =>
      if inb v1 (ln (o + 3)) then
      if inb ((30 : Int32) + v1) (ln (o + 15)) then
      nm (stI s3 (o + 15) ((30 : Int32) + v1).toNatClampNeg (s3.1 (o + 3) v1.toNatClampNeg)) fun s6 =>
      if inb v1 (ln (o + 4)) then
      if inb ((60 : Int32) + v1) (ln (o + 15)) then
      nm (stI s6 (o + 15) ((60 : Int32) + v1).toNatClampNeg (s6.1 (o + 4) v1.toNatClampNeg)) fun s9 =>
      L9_keepNow_2 o fuel (v1 + 1) s9
      else none
      else none
      else none
      else none
      else none
      else none
def f9_keepNow (o : Nat) (s : Sto) : Option (Sto) :=
  if kd o = 9 then
  Option.bind (L9_keepNow_2 o FU (0 : Int32) s) fun s12 =>
  if inb (90 : Int32) (ln (o + 15)) then
  nm (stI s12 (o + 15) (90 : Int32).toNatClampNeg (s12.1 o 3)) fun s14 =>
  if inb (91 : Int32) (ln (o + 15)) then
  nm (stI s14 (o + 15) (91 : Int32).toNatClampNeg (s14.1 o 4)) fun s16 =>
  some s16
  else none
  else none
  else none
def L9_putBack_2 (o : Nat) : Nat → Int32 → Sto → Option (Sto)
  | 0, _, _ => none
  | fuel + 1, v1, s =>
    if (30 : Int32) ≤ v1 then
      some s
    else
      if inb v1 (ln (o + 15)) then
      if inb v1 (ln (o + 2)) then
      nm (stI s (o + 2) v1.toNatClampNeg (s.1 (o + 15) v1.toNatClampNeg)) fun s3 =>
      if inb ((30 : Int32) + v1) (ln (o + 15)) then
      if inb v1 (ln (o + 3)) then
      nm (stI s3 (o + 3) v1.toNatClampNeg (s3.1 (o + 15) ((30 : Int32) + v1).toNatClampNeg)) fun s6 =>
      if inb ((60 : Int32) + v1) (ln (o + 15)) then
      if inb v1 (ln (o + 4)) then
      nm (stI s6 (o + 4) v1.toNatClampNeg (s6.1 (o + 15) ((60 : Int32) + v1).toNatClampNeg)) fun s9 =>
      L9_putBack_2 o fuel (v1 + 1) s9
      else none
      else none
      else none
      else none
      else none
      else none
def f9_putBack (o : Nat) (s : Sto) : Option (Sto) :=
  if kd o = 9 then
  Option.bind (L9_putBack_2 o FU (0 : Int32) s) fun s12 =>
  if inb (90 : Int32) (ln (o + 15)) then
  nm (stI s12 o 3 (s12.1 (o + 15) (90 : Int32).toNatClampNeg)) fun s14 =>
  if inb (91 : Int32) (ln (o + 15)) then
  nm (stI s14 o 4 (s14.1 (o + 15) (91 : Int32).toNatClampNeg)) fun s16 =>
  some s16
  else none
  else none
  else none
def L9_look_5 (o : Nat) (a1 : Int32) : Nat → Int32 → Sto → Option (Sto)
  | 0, _, _ => none
  | fuel + 1, v2, s =>
    if inb (90 : Int32) (ln (o + 15)) then
    if (s.1 (o + 15) (90 : Int32).toNatClampNeg) ≤ v2 then
      some s
    else
      if inb v2 (ln (o + 14)) then
      if 0 ≤ (s.1 (o + 14) v2.toNatClampNeg) then
        if inb v2 (ln (o + 14)) then
        if inb v2 (ln (o + 14)) then
        nm (stI s (o + 14) v2.toNatClampNeg (s.1 (o + 14) v2.toNatClampNeg)) fun s5 =>
        L9_look_5 o a1 fuel (v2 + 1) s5
        else none
        else none
      else
        if inb v2 (ln (o + 14)) then
        nm (stI s (o + 14) v2.toNatClampNeg a1) fun s7 =>
        L9_look_5 o a1 fuel (v2 + 1) s7
        else none
      else none
    else none
def f9_look (o : Nat) (a1 : Int32) (s : Sto) : Option (Sto) :=
  if kd o = 9 then
  Option.bind (L9_look_5 o a1 FU (s.1 o 3) s) fun s11 =>
  Option.bind (
    if (s11.1 o 23) ≤ (s11.1 o 3) then
      some (s11.1 o 23)
    else
      some (s11.1 o 3))
  fun x13 =>
  nm (stI s11 o 23 x13) fun s14 =>
  if (s14.1 o 3) ≤ (s14.1 o 24) then
    nm (stI s14 o 24 (s14.1 o 24)) fun s15 =>
    some s15
  else
    nm (stI s14 o 24 (s14.1 o 3)) fun s16 =>
    some s16
  else none
def L9_isSeenSo_4 (o : Nat) (a1 : Int32) (s : Sto) : Nat → Int32 → Int32 → Option (Int32)
  | 0, _, _ => none
  | fuel + 1, v2, v3 =>
    if (s.1 o 10) ≤ v3 then
      some v2
    else
      if v2 = 0 then
        L9_isSeenSo_4 o a1 s fuel (0 : Int32) (v3 + 1)
      else
        if inb v3 (ln (o + 5)) then
        if (s.1 (o + 5) v3.toNatClampNeg) = a1 then
          if inb v3 (ln (o + 6)) then
          if (s.1 (o + 6) v3.toNatClampNeg) = (s.1 o 3) then
            L9_isSeenSo_4 o a1 s fuel (1 : Int32) (v3 + 1)
          else
            L9_isSeenSo_4 o a1 s fuel (0 : Int32) (v3 + 1)
          else none
        else
          L9_isSeenSo_4 o a1 s fuel (1 : Int32) (v3 + 1)
        else none
def f9_isSeenSo (o : Nat) (a1 : Int32) (s : Sto) : Option (Int32 × Sto) :=
  if kd o = 9 then
  Option.bind (L9_isSeenSo_4 o a1 s FU (1 : Int32) (0 : Int32)) fun y8 =>
  if y8 = 0 ∨ y8 = 1 then
  some (y8, s)
  else none
  else none
def L9_goEvening_55 (o : Nat) (a1 : Int32) : Nat → Int32 → Sto → Option (Sto)
  | 0, _, _ => none
  | fuel + 1, v2, s =>
    if (30 : Int32) ≤ v2 then
      some s
    else
      if inb v2 (ln (o + 14)) then
      nm (stI s (o + 14) v2.toNatClampNeg (-6 : Int32)) fun s14 =>
      L9_goEvening_55 o a1 fuel (v2 + 1) s14
      else none
def L9_goEvening_77 (o : Nat) (a1 : Int32) : Nat → Int32 → Sto → Option (Sto)
  | 0, _, _ => none
  | fuel + 1, v2, s =>
    if (s.1 o 17) ≤ v2 then
      some s
    else
      if 0 ≤ (s.1 o 28) then
        some s
      else
        bd2 (f9_whyNot o v2 a1 s) fun r20 s18 =>
        Option.bind (
          if r20 ≤ 0 then
            some (-6 : Int32)
          else
            some v2)
        fun x22 =>
        nm (stI s18 o 28 x22) fun s23 =>
        Option.bind (
          if r20 ≤ 0 then
            some (-6 : Int32)
          else
            some r20)
        fun x25 =>
        nm (stI s23 o 29 x25) fun s26 =>
        if r20 = 0 then
          Option.bind (f9_happen o v2 a1 s26) fun s27 =>
          Option.bind (f9_look o v2 s27) fun s29 =>
          if (s29.1 o 30) = 0 then
            nm (stI s29 o 30 (0 : Int32)) fun s31 =>
            L9_goEvening_77 o a1 fuel (v2 + 1) s31
          else
            bd2 (f9_isSeenSo o (v2 + (1 : Int32)) s29) fun r34 s32 =>
            if r34 = 0 then
              nm (stI s32 o 30 (0 : Int32)) fun s35 =>
              L9_goEvening_77 o a1 fuel (v2 + 1) s35
            else
              nm (stI s32 o 30 (1 : Int32)) fun s36 =>
              L9_goEvening_77 o a1 fuel (v2 + 1) s36
        else
          L9_goEvening_77 o a1 fuel (v2 + 1) s26
def f9_goEvening (o : Nat) (a1 : Int32) (s : Sto) : Option (Sto) :=
  if kd o = 9 then
  nm (stI s o 28 (-6 : Int32)) fun s1 =>
  nm (stI s1 o 29 (-6 : Int32)) fun s2 =>
  nm (stI s2 o 21 (0 : Int32)) fun s3 =>
  nm (stI s3 o 22 (0 : Int32)) fun s4 =>
  nm (stI s4 o 23 (s4.1 o 3)) fun s5 =>
  nm (stI s5 o 24 (s5.1 o 3)) fun s6 =>
  nm (stI s6 o 25 (-6 : Int32)) fun s7 =>
  bd2 (f9_isSeenSo o (0 : Int32) s7) fun r10 s8 =>
  if r10 = 0 ∨ r10 = 1 then
  nm (stI s8 o 30 r10) fun s12 =>
  Option.bind (L9_goEvening_55 o a1 FU (0 : Int32) s12) fun s17 =>
  Option.bind (L9_goEvening_77 o a1 FU (0 : Int32) s17) fun s45 =>
  some s45
  else none
  else none
def L9_refusal_24 (o : Nat) : Nat → Int32 → Sto → Option (Sto)
  | 0, _, _ => none
  | fuel + 1, v1, s =>
    if (30 : Int32) ≤ v1 then
      some s
    else
      if inb v1 (ln (o + 2)) then
      if inb ((3 : Int32) * v1) (ln (o + 16)) then
      nm (stI s (o + 16) ((3 : Int32) * v1).toNatClampNeg (s.1 (o + 2) v1.toNatClampNeg)) fun s10 =>
      if inb v1 (ln (o + 3)) then
      if inb (((3 : Int32) * v1) + (1 : Int32)) (ln (o + 16)) then
      nm (stI s10 (o + 16) (((3 : Int32) * v1) + (1 : Int32)).toNatClampNeg (s10.1 (o + 3) v1.toNatClampNeg)) fun s13 =>
      if inb v1 (ln (o + 4)) then
      if inb (((3 : Int32) * v1) + (2 : Int32)) (ln (o + 16)) then
      nm (stI s13 (o + 16) (((3 : Int32) * v1) + (2 : Int32)).toNatClampNeg (s13.1 (o + 4) v1.toNatClampNeg)) fun s16 =>
      L9_refusal_24 o fuel (v1 + 1) s16
      else none
      else none
      else none
      else none
      else none
      else none
def f9_refusal (o : Nat) (s : Sto) : Option (Int32 × Sto) :=
  if kd o = 9 then
  bd2 (f9_faultOfEvening o s) fun r3 s1 =>
  if r3 < 0 then
    Option.bind (f9_keepNow o s1) fun s4 =>
    Option.bind (f9_goEvening o (s4.1 o 1) s4) fun s6 =>
    Option.bind (L9_refusal_24 o FU (0 : Int32) s6) fun s19 =>
    nm (stI s19 o 32 (s19.1 o 3)) fun s20 =>
    nm (stI s20 o 33 (s20.1 o 4)) fun s21 =>
    Option.bind (f9_putBack o s21) fun s22 =>
    if (s22.1 o 28) < 0 then
      some ((-6 : Int32), s22)
    else
      some ((-3 : Int32), s22)
  else
    some ((-5 : Int32), s1)
  else none
def f9_judge (o : Nat) (a1 : Int32) (s : Sto) : Option (Int32 × Sto) :=
  if kd o = 9 then
  bd2 (f9_in (a1).toInt64 (0 : Int64) (3 : Int64) s) fun r3 s1 =>
  if r3 = 0 then
    some ((-2 : Int32), s1)
  else
    bd2 (f9_refusal o s1) fun r6 s4 =>
    if r6 = (-5 : Int32) then
      some (r6, s4)
    else
      if a1 ≤ (1 : Int32) then
        if a1 = 0 then
          some ((s4.1 o 28), s4)
        else
          if a1 = (1 : Int32) then
            some ((s4.1 o 29), s4)
          else
            if a1 = (2 : Int32) then
              some ((s4.1 o 21), s4)
            else
              some ((s4.1 o 22), s4)
      else
        if r6 = (-3 : Int32) then
          some (r6, s4)
        else
          if a1 = 0 then
            some ((s4.1 o 28), s4)
          else
            if a1 = (1 : Int32) then
              some ((s4.1 o 29), s4)
            else
              if a1 = (2 : Int32) then
                some ((s4.1 o 21), s4)
              else
                some ((s4.1 o 22), s4)
  else none
def f9_behind (o : Nat) (a1 : Int32) (s : Sto) : Option (Int32 × Sto) :=
  if kd o = 9 then
  bd2 (f9_in (a1).toInt64 (0 : Int64) (3 : Int64) s) fun r3 s1 =>
  if r3 = 0 then
    some ((-2 : Int32), s1)
  else
    bd2 (f9_refusal o s1) fun r6 s4 =>
    if r6 = (-6 : Int32) then
      if a1 = 0 then
        some ((s4.1 o 32), s4)
      else
        if a1 = (1 : Int32) then
          some ((s4.1 o 33), s4)
        else
          if a1 = (2 : Int32) then
            some ((s4.1 o 23), s4)
          else
            some ((s4.1 o 24), s4)
    else
      some (r6, s4)
  else none
def f9_row (o : Nat) (a1 : Int32) (a2 : Int32) (s : Sto) : Option (Int32 × Sto) :=
  if kd o = 9 then
  bd2 (f9_in (a2).toInt64 (0 : Int64) (2 : Int64) s) fun r3 s1 =>
  if r3 = 0 then
    some ((-2 : Int32), s1)
  else
    bd2 (f9_refusal o s1) fun r6 s4 =>
    if r6 = (-6 : Int32) then
      bd2 (f9_in (a1).toInt64 (0 : Int64) (((s4.1 o 32) - (1 : Int32)).toInt64) s4) fun r9 s7 =>
      if r9 = 0 then
        some ((-1 : Int32), s7)
      else
        if inb (((3 : Int32) * a1) + a2) (ln (o + 16)) then
        some ((s7.1 (o + 16) (((3 : Int32) * a1) + a2).toNatClampNeg), s7)
        else none
    else
      some (r6, s4)
  else none
def f9_lost (o : Nat) (a1 : Int32) (s : Sto) : Option (Int32 × Sto) :=
  if kd o = 9 then
  bd2 (f9_isRow o a1 s) fun r3 s1 =>
  if r3 = 0 then
    some ((-1 : Int32), s1)
  else
    bd2 (f9_refusal o s1) fun r6 s4 =>
    if r6 = (-6 : Int32) then
      if inb a1 (ln (o + 14)) then
      some ((s4.1 (o + 14) a1.toNatClampNeg), s4)
      else none
    else
      some (r6, s4)
  else none
def f9_done (o : Nat) (s : Sto) : Option (Int32 × Sto) :=
  if kd o = 9 then
  bd2 (f9_refusal o s) fun r3 s1 =>
  if r3 = (-6 : Int32) then
    Option.bind (f9_goEvening o (s1.1 o 1) s1) fun s4 =>
    nm (stI s4 o 12 (0 : Int32)) fun s6 =>
    some ((s6.1 o 17), s6)
  else
    some (r3, s1)
  else none
def f9_state (o : Nat) (a1 : Int32) (a2 : Int32) (s : Sto) : Option (Int32 × Sto) :=
  if kd o = 9 then
  bd2 (f9_isRow o a1 s) fun r3 s1 =>
  if r3 = 0 then
    some ((-1 : Int32), s1)
  else
    if a2 = 0 then
      if inb a1 (ln (o + 2)) then
      some ((s1.1 (o + 2) a1.toNatClampNeg), s1)
      else none
    else
      if a2 = (1 : Int32) then
        if inb a1 (ln (o + 3)) then
        some ((s1.1 (o + 3) a1.toNatClampNeg), s1)
        else none
      else
        if a2 = (2 : Int32) then
          if inb a1 (ln (o + 4)) then
          some ((s1.1 (o + 4) a1.toNatClampNeg), s1)
          else none
        else
          some ((-2 : Int32), s1)
  else none
def L9_canTell_4 (o : Nat) (s : Sto) : Nat → Int32 → Int32 → Option (Int32)
  | 0, _, _ => none
  | fuel + 1, v1, v2 =>
    if (6 : Int32) ≤ v2 then
      some v1
    else
      if v1 = 0 then
        if inb v2 (ln (o + 1)) then
        if (s.1 (o + 1) v2.toNatClampNeg) = (2 : Int32) then
          L9_canTell_4 o s fuel (0 : Int32) (v2 + 1)
        else
          L9_canTell_4 o s fuel (1 : Int32) (v2 + 1)
        else none
      else
        L9_canTell_4 o s fuel (1 : Int32) (v2 + 1)
def f9_canTell (o : Nat) (s : Sto) : Option (Int32 × Sto) :=
  if kd o = 9 then
  Option.bind (L9_canTell_4 o s FU (0 : Int32) (0 : Int32)) fun y6 =>
  if y6 = 0 ∨ y6 = 1 then
  some (y6, s)
  else none
  else none
def L9_alikeUpTo_2 (o : Nat) (a1 : Int32) (s : Sto) : Nat → Int32 → Option (Int32)
  | 0, _ => none
  | fuel + 1, v2 =>
    if a1 ≤ v2 then
      some v2
    else
      if (s.1 o 3) ≤ v2 then
        some v2
      else
        if inb v2 (ln (o + 2)) then
        if inb v2 (ln (o + 12)) then
        if (s.1 (o + 2) v2.toNatClampNeg) = (s.1 (o + 12) v2.toNatClampNeg) then
          if inb v2 (ln (o + 3)) then
          if inb v2 (ln (o + 13)) then
          if (s.1 (o + 3) v2.toNatClampNeg) = (s.1 (o + 13) v2.toNatClampNeg) then
            L9_alikeUpTo_2 o a1 s fuel (v2 + 1)
          else
            some v2
          else none
          else none
        else
          some v2
        else none
        else none
def f9_alikeUpTo (o : Nat) (a1 : Int32) (s : Sto) : Option (Int32 × Sto) :=
  if kd o = 9 then
  Option.bind (L9_alikeUpTo_2 o a1 s FU (0 : Int32)) fun y10 =>
  some (y10, s)
  else none
def L9_findDown_2 (o : Nat) : Nat → Int32 → Sto → Option (Sto)
  | 0, _, _ => none
  | fuel + 1, v1, s =>
    if (30 : Int32) < v1 then
      some s
    else
      if v1 = (s.1 o 3) then
        if inb v1 (ln (o + 17)) then
        nm (stI s (o + 17) v1.toNatClampNeg (0 : Int32)) fun s4 =>
        L9_findDown_2 o fuel (v1 + 1) s4
        else none
      else
        if inb v1 (ln (o + 17)) then
        nm (stI s (o + 17) v1.toNatClampNeg (1000000 : Int32)) fun s2 =>
        L9_findDown_2 o fuel (v1 + 1) s2
        else none
def L9_findDown_52 (o : Nat) (a1 : Int32) (a2 : Int32) (s : Sto) : Nat → Int32 → Option (Int32)
  | 0, _ => none
  | fuel + 1, v3 =>
    if v3 ≤ 0 then
      some v3
    else
      if inb (v3 - (1 : Int32)) (ln (o + 2)) then
      if inb (a2 - (1 : Int32)) (ln (o + 2)) then
      if (s.1 (o + 2) (v3 - (1 : Int32)).toNatClampNeg) = (s.1 (o + 2) (a2 - (1 : Int32)).toNatClampNeg) then
        L9_findDown_52 o a1 a2 s fuel (v3 + (-1))
      else
        some v3
      else none
      else none
def L9_findDown_44 (o : Nat) (a1 : Int32) : Nat → Int32 → Sto → Option (Sto)
  | 0, _, _ => none
  | fuel + 1, v2, s =>
    if v2 ≤ 0 then
      some s
    else
      Option.bind (L9_findDown_52 o a1 v2 s FU (v2 - (1 : Int32))) fun y17 =>
      if inb v2 (ln (o + 17)) then
      nm ((s.1 (o + 17) v2.toNatClampNeg) + (1 : Int32)) fun x19 =>
      if inb y17 (ln (o + 17)) then
      Option.bind (
        if (s.1 (o + 17) y17.toNatClampNeg) ≤ x19 then
          if inb y17 (ln (o + 17)) then
          some (s.1 (o + 17) y17.toNatClampNeg)
          else none
        else
          some x19)
      fun x23 =>
      if inb y17 (ln (o + 17)) then
      nm (stI s (o + 17) y17.toNatClampNeg x23) fun s25 =>
      if a1 = 0 then
        if inb (v2 - (1 : Int32)) (ln (o + 17)) then
        if inb (v2 - (1 : Int32)) (ln (o + 17)) then
        nm (stI s25 (o + 17) (v2 - (1 : Int32)).toNatClampNeg (s25.1 (o + 17) (v2 - (1 : Int32)).toNatClampNeg)) fun s28 =>
        L9_findDown_44 o a1 fuel (v2 + (-1)) s28
        else none
        else none
      else
        if inb (v2 - (1 : Int32)) (ln (o + 17)) then
        if (s25.1 (o + 17) (v2 - (1 : Int32)).toNatClampNeg) ≤ x19 then
          if inb (v2 - (1 : Int32)) (ln (o + 17)) then
          if inb (v2 - (1 : Int32)) (ln (o + 17)) then
          nm (stI s25 (o + 17) (v2 - (1 : Int32)).toNatClampNeg (s25.1 (o + 17) (v2 - (1 : Int32)).toNatClampNeg)) fun s32 =>
          L9_findDown_44 o a1 fuel (v2 + (-1)) s32
          else none
          else none
        else
          if inb (v2 - (1 : Int32)) (ln (o + 17)) then
          nm (stI s25 (o + 17) (v2 - (1 : Int32)).toNatClampNeg x19) fun s34 =>
          L9_findDown_44 o a1 fuel (v2 + (-1)) s34
          else none
        else none
      else none
      else none
      else none
def f9_findDown (o : Nat) (s : Sto) : Option (Sto) :=
  if kd o = 9 then
  Option.bind (L9_findDown_2 o FU (0 : Int32) s) fun s8 =>
  bd2 (f9_canTell o s8) fun r11 s9 =>
  Option.bind (L9_findDown_44 o r11 FU (s9.1 o 3) s9) fun s40 =>
  some s40
  else none
def L9_building_23 (o : Nat) (a1 : Int32) (a2 : Int32) (s : Sto) : Nat → Int32 → Int32 → Int32 → Option (Int32 × Sto)
  | 0, _, _, _ => none
  | fuel + 1, v3, v4, v5 =>
    if a2 ≤ v5 then
      Option.bind (
        if ((s.1 o 4) - (1 : Int32)) ≤ v3 then
          some ((s.1 o 4) - (1 : Int32))
        else
          some v3)
      fun x2 =>
      if v3 = 0 then
        some ((v4 + (0 : Int32)), s)
      else
        some ((v4 + (((2 : Int32) * v3) - x2)), s)
    else
      if inb v5 (ln (o + 13)) then
      Option.bind (
        if (s.1 (o + 13) v5.toNatClampNeg) = (2 : Int32) then
          some (0 : Int32)
        else
          some (1 : Int32))
      fun x7 =>
      Option.bind (
        if v5 ≤ a1 then
          some (0 : Int32)
        else
          if inb (v5 - (1 : Int32)) (ln (o + 12)) then
          if inb v5 (ln (o + 12)) then
          if (s.1 (o + 12) (v5 - (1 : Int32)).toNatClampNeg) = (s.1 (o + 12) v5.toNatClampNeg) then
            some (1 : Int32)
          else
            some (0 : Int32)
          else none
          else none)
      fun x12 =>
      if x7 = 0 then
        if inb v5 (ln (o + 13)) then
        if (s.1 (o + 13) v5.toNatClampNeg) = (1 : Int32) then
          if x12 = 0 then
            some ((1000000 : Int32), s)
          else
            if inb v5 (ln (o + 13)) then
            if (s.1 (o + 13) v5.toNatClampNeg) = 0 then
              if x12 = 0 then
                L9_building_23 o a1 a2 s fuel (v3 + (0 : Int32)) (v4 + 1) (v5 + 1)
              else
                L9_building_23 o a1 a2 s fuel (v3 + (1 : Int32)) (v4 + 1) (v5 + 1)
            else
              L9_building_23 o a1 a2 s fuel (v3 + (0 : Int32)) (v4 + 1) (v5 + 1)
            else none
        else
          if inb v5 (ln (o + 13)) then
          if (s.1 (o + 13) v5.toNatClampNeg) = 0 then
            if x12 = 0 then
              L9_building_23 o a1 a2 s fuel (v3 + (0 : Int32)) (v4 + 1) (v5 + 1)
            else
              L9_building_23 o a1 a2 s fuel (v3 + (1 : Int32)) (v4 + 1) (v5 + 1)
          else
            L9_building_23 o a1 a2 s fuel (v3 + (0 : Int32)) (v4 + 1) (v5 + 1)
          else none
        else none
      else
        if inb v5 (ln (o + 12)) then
        if inb (s.1 (o + 12) v5.toNatClampNeg) (ln (o + 1)) then
        if (s.1 (o + 1) (s.1 (o + 12) v5.toNatClampNeg).toNatClampNeg) = (1 : Int32) then
          some ((1000000 : Int32), s)
        else
          if inb v5 (ln (o + 13)) then
          if (s.1 (o + 13) v5.toNatClampNeg) = (1 : Int32) then
            if x12 = 0 then
              some ((1000000 : Int32), s)
            else
              if inb v5 (ln (o + 13)) then
              if (s.1 (o + 13) v5.toNatClampNeg) = 0 then
                if x12 = 0 then
                  L9_building_23 o a1 a2 s fuel (v3 + (0 : Int32)) (v4 + 1) (v5 + 1)
                else
                  L9_building_23 o a1 a2 s fuel (v3 + (1 : Int32)) (v4 + 1) (v5 + 1)
              else
                L9_building_23 o a1 a2 s fuel (v3 + (0 : Int32)) (v4 + 1) (v5 + 1)
              else none
          else
            if inb v5 (ln (o + 13)) then
            if (s.1 (o + 13) v5.toNatClampNeg) = 0 then
              if x12 = 0 then
                L9_building_23 o a1 a2 s fuel (v3 + (0 : Int32)) (v4 + 1) (v5 + 1)
              else
                L9_building_23 o a1 a2 s fuel (v3 + (1 : Int32)) (v4 + 1) (v5 + 1)
            else
              L9_building_23 o a1 a2 s fuel (v3 + (0 : Int32)) (v4 + 1) (v5 + 1)
            else none
          else none
        else none
        else none
      else none
def f9_building (o : Nat) (a1 : Int32) (a2 : Int32) (s : Sto) : Option (Int32 × Sto) :=
  if kd o = 9 then
  if a2 ≤ a1 then
    L9_building_23 o a1 a2 s FU (0 : Int32) (0 : Int32) a1
  else
    if (s.1 o 4) = 0 then
      some ((1000000 : Int32), s)
    else
      L9_building_23 o a1 a2 s FU (0 : Int32) (0 : Int32) a1
  else none
def L9_madeOf_16 (o : Nat) (a1 : Int32) (a2 : Int32) : Nat → Int32 → Int32 → Sto → Option (Int32 × Sto)
  | 0, _, _, _ => none
  | fuel + 1, v3, v4, s =>
    if a2 < v4 then
      some (v3, s)
    else
      if (s.1 o 3) < v4 then
        some (v3, s)
      else
        if inb v4 (ln (o + 17)) then
        bd2 (
          if (1000000 : Int32) ≤ (s.1 (o + 17) v4.toNatClampNeg) then
            some ((1000000 : Int32), s)
          else
            bd2 (f9_building o v4 a1 s) fun r9 s7 =>
            some (r9, s7))
        fun x11 s12 =>
        Option.bind (
          if (1000000 : Int32) ≤ x11 then
            some (1000000 : Int32)
          else
            if inb v4 (ln (o + 17)) then
            some ((s12.1 (o + 17) v4.toNatClampNeg) + x11)
            else none)
        fun x15 =>
        if v3 ≤ x15 then
          L9_madeOf_16 o a1 a2 fuel v3 (v4 + 1) s12
        else
          L9_madeOf_16 o a1 a2 fuel x15 (v4 + 1) s12
        else none
def f9_madeOf (o : Nat) (a1 : Int32) (s : Sto) : Option (Int32 × Sto) :=
  if kd o = 9 then
  bd2 (f9_alikeUpTo o a1 s) fun r3 s1 =>
  Option.bind (f9_findDown o s1) fun s4 =>
  bd2 (L9_madeOf_16 o a1 r3 FU (1000000 : Int32) (0 : Int32) s4) fun y22 s23 =>
  if y22 = (1000000 : Int32) then
    some ((-6 : Int32), s23)
  else
    some (y22, s23)
  else none
def f9_made (o : Nat) (s : Sto) : Option (Int32 × Sto) :=
  if kd o = 9 then
  bd2 (f9_faultOfPattern o s) fun r3 s1 =>
  if r3 < 0 then
    if (s1.1 o 20) ≤ (30 : Int32) then
      bd2 (f9_madeOf o (s1.1 o 20) s1) fun r6 s4 =>
      some (r6, s4)
    else
      some ((-4 : Int32), s1)
  else
    some ((-5 : Int32), s1)
  else none
def L9_bars_24 (o : Nat) : Nat → Int32 → Sto → Option (Int32 × Sto)
  | 0, _, _ => none
  | fuel + 1, v1, s =>
    if (s.1 o 20) ≤ v1 then
      some ((-6 : Int32), s)
    else
      bd2 (f9_madeOf o (v1 + (1 : Int32)) s) fun r6 s4 =>
      if 0 ≤ r6 then
        L9_bars_24 o fuel (v1 + 1) s4
      else
        some (v1, s4)
def f9_bars (o : Nat) (s : Sto) : Option (Int32 × Sto) :=
  if kd o = 9 then
  bd2 (f9_faultOfPattern o s) fun r3 s1 =>
  if r3 < 0 then
    if (s1.1 o 20) ≤ (30 : Int32) then
      L9_bars_24 o FU (0 : Int32) s1
    else
      some ((-4 : Int32), s1)
  else
    some ((-5 : Int32), s1)
  else none
def f9_seen (o : Nat) (a1 : Int32) (a2 : Int32) (s : Sto) : Option (Int32 × Sto) :=
  if kd o = 9 then
  bd2 (f9_in (a1).toInt64 (0 : Int64) (60 : Int64) s) fun r3 s1 =>
  if r3 = 0 then
    some ((-2 : Int32), s1)
  else
    bd2 (f9_in (a2).toInt64 (0 : Int64) (30 : Int64) s1) fun r6 s4 =>
    if r6 = 0 then
      some ((-2 : Int32), s4)
    else
      if (s4.1 o 10) = (8 : Int32) then
        some ((-4 : Int32), s4)
      else
        if inb (s4.1 o 10) (ln (o + 5)) then
        nm (stI s4 (o + 5) (s4.1 o 10).toNatClampNeg a1) fun s8 =>
        if inb (s8.1 o 10) (ln (o + 6)) then
        nm (stI s8 (o + 6) (s8.1 o 10).toNatClampNeg a2) fun s10 =>
        nm (stI s10 o 10 ((s10.1 o 10) + (1 : Int32))) fun s11 =>
        some ((s11.1 o 10), s11)
        else none
        else none
  else none
def f9_forget (o : Nat) (s : Sto) : Option (Int32 × Sto) :=
  if kd o = 9 then
  nm (stI s o 10 (0 : Int32)) fun s1 =>
  some ((s.1 o 10), s1)
  else none
def L9_isWorld_27 (o : Nat) (s : Sto) : Nat → Int32 → Int32 → Option (Int32)
  | 0, _, _ => none
  | fuel + 1, v2, v3 =>
    if (s.1 o 10) ≤ v3 then
      some v2
    else
      if v2 = 0 then
        L9_isWorld_27 o s fuel (0 : Int32) (v3 + 1)
      else
        if inb v3 (ln (o + 5)) then
        if (s.1 o 17) < (s.1 (o + 5) v3.toNatClampNeg) then
          L9_isWorld_27 o s fuel (0 : Int32) (v3 + 1)
        else
          L9_isWorld_27 o s fuel (1 : Int32) (v3 + 1)
        else none
def f9_isWorld (o : Nat) (a1 : Int32) (s : Sto) : Option (Int32 × Sto) :=
  if kd o = 9 then
  Option.bind (f9_goEvening o a1 s) fun s1 =>
  Option.bind (
    if 0 ≤ (s1.1 o 28) then
      some (0 : Int32)
    else
      if (s1.1 o 30) = 0 then
        some (0 : Int32)
      else
        some (1 : Int32))
  fun x5 =>
  Option.bind (L9_isWorld_27 o s1 FU x5 (0 : Int32)) fun y11 =>
  Option.bind (f9_putBack o s1) fun s12 =>
  if y11 = 0 ∨ y11 = 1 then
  some (y11, s12)
  else none
  else none
def L9_findWorlds_23 (o : Nat) : Nat → Int32 → Sto → Option (Sto)
  | 0, _, _ => none
  | fuel + 1, v1, s =>
    if (8 : Int32) ≤ v1 then
      some s
    else
      if inb v1 (ln (o + 18)) then
      nm (stI s (o + 18) v1.toNatClampNeg (0 : Int32)) fun s6 =>
      L9_findWorlds_23 o fuel (v1 + 1) s6
      else none
def L9_findWorlds_128 (o : Nat) (a1 : Int32) : Nat → Int32 → Sto → Option (Sto)
  | 0, _, _ => none
  | fuel + 1, v2, s =>
    if (s.1 o 0) ≤ v2 then
      some s
    else
      if inb v2 (ln (o + 18)) then
      if inb v2 (ln (o + 18)) then
      nm (stI s (o + 18) v2.toNatClampNeg ((s.1 (o + 18) v2.toNatClampNeg) + ((a1 >>> (v2 &&& 31)) &&& (1 : Int32)))) fun s25 =>
      L9_findWorlds_128 o a1 fuel (v2 + 1) s25
      else none
      else none
def L9_findWorlds_48 (o : Nat) : Nat → Int32 → Sto → Option (Sto)
  | 0, _, _ => none
  | fuel + 1, v1, s =>
    if ((1 : Int32) <<< ((s.1 o 0) &&& 31)) ≤ v1 then
      some s
    else
      bd2 (f9_isWorld o v1 s) fun r14 s12 =>
      if r14 = 0 then
        L9_findWorlds_48 o fuel (v1 + 1) s12
      else
        Option.bind (
          if (s12.1 o 35) = 0 then
            some v1
          else
            some (s12.1 o 36))
        fun x16 =>
        nm (stI s12 o 36 x16) fun s17 =>
        Option.bind (
          if (s17.1 o 35) = 0 then
            some v1
          else
            some ((s17.1 o 37) &&& v1))
        fun x19 =>
        nm (stI s17 o 37 x19) fun s20 =>
        nm (stI s20 o 38 ((s20.1 o 38) ||| v1)) fun s21 =>
        nm (stI s21 o 35 ((s21.1 o 35) + (1 : Int32))) fun s22 =>
        Option.bind (L9_findWorlds_128 o v1 FU (0 : Int32) s22) fun s28 =>
        L9_findWorlds_48 o fuel (v1 + 1) s28
def f9_findWorlds (o : Nat) (s : Sto) : Option (Sto) :=
  if kd o = 9 then
  nm (stI s o 35 (0 : Int32)) fun s1 =>
  nm (stI s1 o 36 (-6 : Int32)) fun s2 =>
  nm (stI s2 o 37 (0 : Int32)) fun s3 =>
  nm (stI s3 o 38 (0 : Int32)) fun s4 =>
  Option.bind (L9_findWorlds_23 o FU (0 : Int32) s4) fun s9 =>
  Option.bind (f9_keepNow o s9) fun s10 =>
  Option.bind (L9_findWorlds_48 o FU (0 : Int32) s10) fun s34 =>
  some s34
  else none
def f9_worlds (o : Nat) (a1 : Int32) (s : Sto) : Option (Int32 × Sto) :=
  if kd o = 9 then
  bd2 (f9_in (a1).toInt64 (0 : Int64) (3 : Int64) s) fun r3 s1 =>
  if r3 = 0 then
    some ((-2 : Int32), s1)
  else
    bd2 (f9_faultOfEvening o s1) fun r6 s4 =>
    if r6 < 0 then
      Option.bind (f9_findWorlds o s4) fun s7 =>
      if a1 = 0 then
        some ((s7.1 o 35), s7)
      else
        if a1 = (1 : Int32) then
          some ((s7.1 o 36), s7)
        else
          if a1 = (2 : Int32) then
            some ((s7.1 o 37), s7)
          else
            some ((s7.1 o 38), s7)
    else
      some ((-5 : Int32), s4)
  else none
def f9_mostLeft (o : Nat) (a1 : Int32) (s : Sto) : Option (Int32 × Sto) :=
  if kd o = 9 then
  if inb a1 (ln (o + 18)) then
  if inb a1 (ln (o + 18)) then
  if (s.1 (o + 18) a1.toNatClampNeg) ≤ ((s.1 o 35) - (s.1 (o + 18) a1.toNatClampNeg)) then
    if inb a1 (ln (o + 18)) then
    some (((s.1 o 35) - (s.1 (o + 18) a1.toNatClampNeg)), s)
    else none
  else
    if inb a1 (ln (o + 18)) then
    some ((s.1 (o + 18) a1.toNatClampNeg), s)
    else none
  else none
  else none
  else none
def L9_tell_41 (o : Nat) (a1 : Int32) : Nat → Int32 → Int32 → Sto → Option (Int32 × Sto)
  | 0, _, _, _ => none
  | fuel + 1, v2, v3, s =>
    if (s.1 o 0) ≤ v3 then
      some (v2, s)
    else
      bd2 (f9_mostLeft o v3 s) fun r11 s9 =>
      bd2 (f9_mostLeft o v2 s9) fun r14 s12 =>
      if r14 ≤ r11 then
        L9_tell_41 o a1 fuel v2 (v3 + 1) s12
      else
        L9_tell_41 o a1 fuel v3 (v3 + 1) s12
def f9_tell (o : Nat) (a1 : Int32) (s : Sto) : Option (Int32 × Sto) :=
  if kd o = 9 then
  bd2 (f9_in (a1).toInt64 (0 : Int64) (1 : Int64) s) fun r3 s1 =>
  if r3 = 0 then
    some ((-2 : Int32), s1)
  else
    bd2 (f9_faultOfEvening o s1) fun r6 s4 =>
    if r6 < 0 then
      Option.bind (f9_findWorlds o s4) fun s7 =>
      if (s7.1 o 35) = 0 then
        some ((-6 : Int32), s7)
      else
        bd2 (L9_tell_41 o a1 FU (0 : Int32) (1 : Int32) s7) fun y18 s19 =>
        if a1 = 0 then
          some (y18, s19)
        else
          bd2 (f9_mostLeft o y18 s19) fun r22 s20 =>
          some (r22, s20)
    else
      some ((-5 : Int32), s4)
  else none
def L9_says_23 (o : Nat) (a1 : Int32) : Nat → Int32 → Int32 → Sto → Option (Int32 × Sto)
  | 0, _, _, _ => none
  | fuel + 1, v2, v3, s =>
    if (s.1 o 17) ≤ v3 then
      some (v2, s)
    else
      if inb v3 (ln (o + 8)) then
      Option.bind (
        if (s.1 (o + 8) v3.toNatClampNeg) = 0 then
          if inb v3 (ln (o + 9)) then
          if (s.1 (o + 9) v3.toNatClampNeg) = a1 then
            some (1 : Int32)
          else
            some (0 : Int32)
          else none
        else
          some (0 : Int32))
      fun x11 =>
      if x11 = 0 then
        L9_says_23 o a1 fuel (v2 ||| (0 : Int32)) (v3 + 1) s
      else
        bd2 (f9_isLie o v3 (s.1 o 1) s) fun r14 s12 =>
        if r14 = 0 then
          L9_says_23 o a1 fuel (v2 ||| (1 : Int32)) (v3 + 1) s12
        else
          L9_says_23 o a1 fuel (v2 ||| (2 : Int32)) (v3 + 1) s12
      else none
def f9_says (o : Nat) (a1 : Int32) (s : Sto) : Option (Int32 × Sto) :=
  if kd o = 9 then
  bd2 (f9_isGuest a1 s) fun r3 s1 =>
  if r3 = 0 then
    some ((-1 : Int32), s1)
  else
    bd2 (f9_faultOfEvening o s1) fun r6 s4 =>
    if r6 < 0 then
      bd2 (L9_says_23 o a1 FU (0 : Int32) (0 : Int32) s4) fun y20 s21 =>
      some (y20, s21)
    else
      some ((-5 : Int32), s4)
  else none
def f9_areRemarks (a0 : Int32) (a1 : Int32) (a2 : Int32) (s : Sto) : Option (Int32 × Sto) :=
  bd2 (f9_in (a0).toInt64 (0 : Int64) (12 : Int64) s) fun r3 s1 =>
  if r3 = 0 then
    some ((0 : Int32), s1)
  else
    bd2 (f9_in (a1).toInt64 (0 : Int64) (12 : Int64) s1) fun r6 s4 =>
    if r6 = 0 then
      some ((0 : Int32), s4)
    else
      bd2 (f9_in (a2).toInt64 (0 : Int64) (30 : Int64) s4) fun r9 s7 =>
      if r9 = 0 then
        some ((0 : Int32), s7)
      else
        some ((1 : Int32), s7)
def L9_raise_10 (o : Nat) (a1 : Int32) (a2 : Int32) : Nat → Int32 → Sto → Option (Sto)
  | 0, _, _ => none
  | fuel + 1, v3, s =>
    if v3 ≤ 0 then
      some s
    else
      if inb ((((96 : Int32) * a2) + v3) - (1 : Int32)) (ln (o + 21)) then
      if inb (((96 : Int32) * a2) + v3) (ln (o + 21)) then
      nm (stL s (o + 21) (((96 : Int32) * a2) + v3).toNatClampNeg (s.2 (o + 21) ((((96 : Int32) * a2) + v3) - (1 : Int32)).toNatClampNeg)) fun s3 =>
      L9_raise_10 o a1 a2 fuel (v3 + (-1)) s3
      else none
      else none
def L9_raise_2 (o : Nat) (a1 : Int32) : Nat → Int32 → Sto → Option (Sto)
  | 0, _, _ => none
  | fuel + 1, v2, s =>
    if a1 < v2 then
      some s
    else
      Option.bind (L9_raise_10 o a1 v2 FU (95 : Int32) s) fun s6 =>
      if inb ((96 : Int32) * v2) (ln (o + 21)) then
      nm (stL s6 (o + 21) ((96 : Int32) * v2).toNatClampNeg (0 : Int64)) fun s8 =>
      L9_raise_2 o a1 fuel (v2 + 1) s8
      else none
def f9_raise (o : Nat) (a1 : Int32) (s : Sto) : Option (Sto) :=
  if kd o = 9 then
  Option.bind (L9_raise_2 o a1 FU (0 : Int32) s) fun s11 =>
  some s11
  else none
def L9_orders_29 (o : Nat) (a1 : Int32) (a2 : Int32) (a3 : Int32) (a4 : Int32) : Nat → Int32 → Sto → Option (Sto)
  | 0, _, _ => none
  | fuel + 1, v5, s =>
    if (1248 : Int32) ≤ v5 then
      some s
    else
      if inb v5 (ln (o + 21)) then
      nm (stL s (o + 21) v5.toNatClampNeg (0 : Int64)) fun s8 =>
      L9_orders_29 o a1 a2 a3 a4 fuel (v5 + 1) s8
      else none
def L9_orders_79 (o : Nat) (a1 : Int32) (a2 : Int32) (a4 : Int32) (a5 : Int32) (a6 : Int32) : Nat → Int32 → Sto → Option (Sto)
  | 0, _, _ => none
  | fuel + 1, v7, s =>
    if (96 : Int32) ≤ v7 then
      some s
    else
      Option.bind (
        if v7 ≤ 0 then
          some (0 : Int32)
        else
          some (v7 - (1 : Int32)))
      fun x15 =>
      if inb (((96 : Int32) * (a6 + (1 : Int32))) + x15) (ln (o + 21)) then
      if inb (((96 : Int32) * a6) + v7) (ln (o + 21)) then
      if inb (((96 : Int32) * (a6 + (1 : Int32))) + x15) (ln (o + 21)) then
      nm (stL s (o + 21) (((96 : Int32) * (a6 + (1 : Int32))) + x15).toNatClampNeg ((s.2 (o + 21) (((96 : Int32) * (a6 + (1 : Int32))) + x15).toNatClampNeg) + (s.2 (o + 21) (((96 : Int32) * a6) + v7).toNatClampNeg))) fun s19 =>
      L9_orders_79 o a1 a2 a4 a5 a6 fuel (v7 + 1) s19
      else none
      else none
      else none
def L9_orders_70 (o : Nat) (a1 : Int32) (a2 : Int32) (a4 : Int32) (a5 : Int32) : Nat → Int32 → Sto → Option (Sto)
  | 0, _, _ => none
  | fuel + 1, v6, s =>
    if a1 ≤ v6 then
      some s
    else
      Option.bind (L9_orders_79 o a1 a2 a4 a5 v6 FU (0 : Int32) s) fun s23 =>
      L9_orders_70 o a1 a2 a4 a5 fuel (v6 + 1) s23
def L9_orders_61 (o : Nat) (a1 : Int32) (a2 : Int32) (a4 : Int32) : Nat → Int32 → Sto → Option (Sto)
  | 0, _, _ => none
  | fuel + 1, v5, s =>
    if a2 < v5 then
      some s
    else
      Option.bind (L9_orders_70 o a1 a2 a4 v5 FU (0 : Int32) s) fun s26 =>
      if a2 ≤ v5 then
        L9_orders_61 o a1 a2 a4 fuel (v5 + 1) s26
      else
        Option.bind (f9_raise o a1 s26) fun s27 =>
        L9_orders_61 o a1 a2 a4 fuel (v5 + 1) s27
def f9_orders (o : Nat) (a1 : Int32) (a2 : Int32) (a3 : Int32) (a4 : Int32) (s : Sto) : Option (Int64 × Sto) :=
  if kd o = 9 then
  bd2 (f9_areRemarks a1 a2 a3 s) fun r3 s1 =>
  if r3 = 0 then
    some ((-1000000000000000002 : Int64), s1)
  else
    bd2 (f9_in (a4).toInt64 (0 : Int64) (50 : Int64) s1) fun r6 s4 =>
    if r6 = 0 then
      some ((-1000000000000000002 : Int64), s4)
    else
      Option.bind (L9_orders_29 o a1 a2 a3 a4 FU (0 : Int32) s4) fun s11 =>
      if inb a3 (ln (o + 21)) then
      nm (stL s11 (o + 21) a3.toNatClampNeg (1 : Int64)) fun s13 =>
      Option.bind (L9_orders_61 o a1 a2 a4 FU (0 : Int32) s13) fun s32 =>
      if inb (((96 : Int32) * a1) + a4) (ln (o + 21)) then
      some ((s32.2 (o + 21) (((96 : Int32) * a1) + a4).toNatClampNeg), s32)
      else none
      else none
  else none
def f9_left (o : Nat) (a1 : Int32) (a2 : Int32) (a3 : Int32) (a4 : Int32) (s : Sto) : Option (Int32 × Sto) :=
  if kd o = 9 then
  bd2 (f9_areRemarks a1 a2 a3 s) fun r3 s1 =>
  if r3 = 0 then
    some ((-2 : Int32), s1)
  else
    bd2 (f9_in (a4).toInt64 (0 : Int64) (1 : Int64) s1) fun r6 s4 =>
    if r6 = 0 then
      some ((-2 : Int32), s4)
    else
      if a4 = 0 then
        if (a3 + a2) ≤ a1 then
          some ((0 : Int32), s4)
        else
          some (((a3 + a2) - a1), s4)
      else
        if a3 ≤ a1 then
          some (((0 : Int32) + a2), s4)
        else
          some (((a3 - a1) + a2), s4)
  else none
def L9_goChance_3 (o : Nat) (a1 : Int32) (a2 : Int32) (a3 : Int32) : Nat → Int32 → Sto → Option (Sto)
  | 0, _, _ => none
  | fuel + 1, v4, s =>
    if (96 : Int32) ≤ v4 then
      some s
    else
      if v4 = a1 then
        if inb v4 (ln (o + 19)) then
        nm (stL s (o + 19) v4.toNatClampNeg (1 : Int64)) fun s4 =>
        L9_goChance_3 o a1 a2 a3 fuel (v4 + 1) s4
        else none
      else
        if inb v4 (ln (o + 19)) then
        nm (stL s (o + 19) v4.toNatClampNeg (0 : Int64)) fun s2 =>
        L9_goChance_3 o a1 a2 a3 fuel (v4 + 1) s2
        else none
def L9_goChance_46 (o : Nat) (a2 : Int32) (a3 : Int32) (a4 : Int32) : Nat → Int32 → Sto → Option (Sto)
  | 0, _, _ => none
  | fuel + 1, v5, s =>
    if (96 : Int32) ≤ v5 then
      some s
    else
      Option.bind (
        if v5 ≤ 0 then
          if inb (0 : Int32) (ln (o + 19)) then
          some ((s.2 (o + 19) (0 : Int32).toNatClampNeg) * (a3).toInt64)
          else none
        else
          if inb (v5 - (1 : Int32)) (ln (o + 19)) then
          some ((s.2 (o + 19) (v5 - (1 : Int32)).toNatClampNeg) * ((10 : Int32) - a3).toInt64)
          else none)
      fun x12 =>
      if inb v5 (ln (o + 20)) then
      nm (stL s (o + 20) v5.toNatClampNeg x12) fun s14 =>
      if inb v5 (ln (o + 20)) then
      if (96 : Int32) ≤ (v5 + (1 : Int32)) then
        if inb v5 (ln (o + 20)) then
        nm (stL s14 (o + 20) v5.toNatClampNeg ((s14.2 (o + 20) v5.toNatClampNeg) + (0 : Int64))) fun s17 =>
        L9_goChance_46 o a2 a3 a4 fuel (v5 + 1) s17
        else none
      else
        if inb (v5 + (1 : Int32)) (ln (o + 19)) then
        if inb v5 (ln (o + 20)) then
        nm (stL s14 (o + 20) v5.toNatClampNeg ((s14.2 (o + 20) v5.toNatClampNeg) + ((s14.2 (o + 19) (v5 + (1 : Int32)).toNatClampNeg) * (a3).toInt64))) fun s20 =>
        L9_goChance_46 o a2 a3 a4 fuel (v5 + 1) s20
        else none
        else none
      else none
      else none
def L9_goChance_136 (o : Nat) (a2 : Int32) (a3 : Int32) (a4 : Int32) : Nat → Int32 → Sto → Option (Sto)
  | 0, _, _ => none
  | fuel + 1, v5, s =>
    if (96 : Int32) ≤ v5 then
      some s
    else
      if inb v5 (ln (o + 20)) then
      if inb v5 (ln (o + 19)) then
      nm (stL s (o + 19) v5.toNatClampNeg (s.2 (o + 20) v5.toNatClampNeg)) fun s28 =>
      L9_goChance_136 o a2 a3 a4 fuel (v5 + 1) s28
      else none
      else none
def L9_goChance_37 (o : Nat) (a2 : Int32) (a3 : Int32) : Nat → Int32 → Sto → Option (Sto)
  | 0, _, _ => none
  | fuel + 1, v4, s =>
    if a2 ≤ v4 then
      some s
    else
      Option.bind (L9_goChance_46 o a2 a3 v4 FU (0 : Int32) s) fun s25 =>
      Option.bind (L9_goChance_136 o a2 a3 v4 FU (0 : Int32) s25) fun s31 =>
      L9_goChance_37 o a2 a3 fuel (v4 + 1) s31
def f9_goChance (o : Nat) (a1 : Int32) (a2 : Int32) (a3 : Int32) (s : Sto) : Option (Sto) :=
  if kd o = 9 then
  Option.bind (L9_goChance_3 o a1 a2 a3 FU (0 : Int32) s) fun s8 =>
  Option.bind (L9_goChance_37 o a2 a3 FU (0 : Int32) s8) fun s34 =>
  some s34
  else none
def L9_tens_4 (a0 : Int32) (s : Sto) : Nat → Int64 → Int32 → Option (Int64)
  | 0, _, _ => none
  | fuel + 1, v1, v3 =>
    if a0 ≤ v3 then
      some v1
    else
      L9_tens_4 a0 s fuel (v1 * (10 : Int64)) (v3 + 1)
def f9_tens (a0 : Int32) (s : Sto) : Option (Int64 × Sto) :=
  Option.bind (L9_tens_4 a0 s FU (1 : Int64) (0 : Int32)) fun y3 =>
  some (y3, s)
def L9_lowest_6 (a0 : Int64) (a2 : Int64) (a4 : Int32) (s : Sto) : Nat → Int64 → Int64 → Option (Int64)
  | 0, _, _ => none
  | fuel + 1, v5, v7 =>
    if (lg_cmp v7 (0 : Int64)) = 0 then
      some v5
    else
      if ¬ v7 = 0 then
      L9_lowest_6 a0 a2 a4 s fuel v7 (v5 - v5 / v7 * v7)
      else none
def f9_lowest (a0 : Int64) (a2 : Int64) (a4 : Int32) (s : Sto) : Option (Int64 × Sto) :=
  Option.bind (L9_lowest_6 a0 a2 a4 s FU a2 a0) fun y4 =>
  if a4 = 0 then
    if ¬ y4 = 0 then
    some ((a0 / y4), s)
    else none
  else
    if ¬ y4 = 0 then
    some ((a2 / y4), s)
    else none
def L9_atLeast_5 (o : Nat) (s : Sto) : Nat → Int64 → Int32 → Option (Int64)
  | 0, _, _ => none
  | fuel + 1, v2, v4 =>
    if (96 : Int32) ≤ v4 then
      some v2
    else
      if inb v4 (ln (o + 19)) then
      nm (v2 + (s.2 (o + 19) v4.toNatClampNeg)) fun x2 =>
      L9_atLeast_5 o s fuel x2 (v4 + 1)
      else none
def f9_atLeast (o : Nat) (a1 : Int32) (s : Sto) : Option (Int64 × Sto) :=
  if kd o = 9 then
  Option.bind (L9_atLeast_5 o s FU (0 : Int64) a1) fun y5 =>
  some (y5, s)
  else none
def L9_chance_69 (o : Nat) (a1 : Int32) (a3 : Int32) (a4 : Int32) (s : Sto) : Nat → Int64 → Int32 → Option (Int64)
  | 0, _, _ => none
  | fuel + 1, v5, v7 =>
    if (96 : Int32) ≤ v7 then
      some v5
    else
      if inb v7 (ln (o + 19)) then
      nm (v5 + ((v7).toInt64 * (s.2 (o + 19) v7.toNatClampNeg))) fun x16 =>
      L9_chance_69 o a1 a3 a4 s fuel x16 (v7 + 1)
      else none
def f9_chance (o : Nat) (a1 : Int32) (a2 : Int32) (a3 : Int32) (a4 : Int32) (s : Sto) : Option (Int64 × Sto) :=
  if kd o = 9 then
  bd2 (f9_in (a1).toInt64 (0 : Int64) (12 : Int64) s) fun r3 s1 =>
  if r3 = 0 then
    some ((-1000000000000000002 : Int64), s1)
  else
    bd2 (f9_in (a2).toInt64 (0 : Int64) (10 : Int64) s1) fun r6 s4 =>
    if r6 = 0 then
      some ((-1000000000000000002 : Int64), s4)
    else
      bd2 (f9_in (a3).toInt64 (-1 : Int64) (50 : Int64) s4) fun r9 s7 =>
      if r9 = 0 then
        some ((-1000000000000000002 : Int64), s7)
      else
        bd2 (f9_in (a4).toInt64 (0 : Int64) (1 : Int64) s7) fun r12 s10 =>
        if r12 = 0 then
          some ((-1000000000000000002 : Int64), s10)
        else
          Option.bind (f9_goChance o (s10.1 o 3) a1 a2 s10) fun s13 =>
          Option.bind (L9_chance_69 o a1 a3 a4 s13 FU (0 : Int64) (0 : Int32)) fun y19 =>
          bd2 (
            if 0 ≤ a3 then
              bd2 (f9_atLeast o a3 s13) fun r22 s20 =>
              some (r22, s20)
            else
              some (y19, s13))
          fun x24 s25 =>
          bd2 (f9_tens a1 s25) fun r28 s26 =>
          bd2 (f9_lowest x24 r28 a4 s26) fun r31 s29 =>
          some (r31, s29)
  else none
def L9_over_68 (o : Nat) (a1 : Int32) (a2 : Int32) (a3 : Int32) (a4 : Int32) (a5 : Int32) : Nat → Int32 → Sto → Option (Int32 × Sto)
  | 0, _, _ => none
  | fuel + 1, v6, s =>
    if (40 : Int32) < v6 then
      some ((-6 : Int32), s)
    else
      Option.bind (
        if (((s.1 o 3) + v6) - a1) < a3 then
          some (0 : Int32)
        else
          some (1 : Int32))
      fun x17 =>
      if x17 = 0 then
        Option.bind (f9_goChance o ((s.1 o 3) + v6) a1 a2 s) fun s19 =>
        bd2 (f9_atLeast o a3 s19) fun r23 s21 =>
        bd2 (f9_tens a1 s21) fun r26 s24 =>
        Option.bind (
          if (lg_cmp (r23 * (a5).toInt64) ((a4).toInt64 * r26)) < 0 then
            some (0 : Int32)
          else
            some (1 : Int32))
        fun x28 =>
        if x28 = 0 then
          L9_over_68 o a1 a2 a3 a4 a5 fuel (v6 + 1) s24
        else
          some (v6, s24)
      else
        if x17 = 0 then
          L9_over_68 o a1 a2 a3 a4 a5 fuel (v6 + 1) s
        else
          some (v6, s)
def f9_over (o : Nat) (a1 : Int32) (a2 : Int32) (a3 : Int32) (a4 : Int32) (a5 : Int32) (s : Sto) : Option (Int32 × Sto) :=
  if kd o = 9 then
  bd2 (f9_in (a1).toInt64 (0 : Int64) (12 : Int64) s) fun r3 s1 =>
  if r3 = 0 then
    some ((-2 : Int32), s1)
  else
    bd2 (f9_in (a2).toInt64 (0 : Int64) (10 : Int64) s1) fun r6 s4 =>
    if r6 = 0 then
      some ((-2 : Int32), s4)
    else
      bd2 (f9_in (a3).toInt64 (0 : Int64) (50 : Int64) s4) fun r9 s7 =>
      if r9 = 0 then
        some ((-2 : Int32), s7)
      else
        bd2 (f9_in (a5).toInt64 (1 : Int64) (100 : Int64) s7) fun r12 s10 =>
        if r12 = 0 then
          some ((-2 : Int32), s10)
        else
          bd2 (f9_in (a4).toInt64 (0 : Int64) (a5).toInt64 s10) fun r15 s13 =>
          if r15 = 0 then
            some ((-2 : Int32), s13)
          else
            L9_over_68 o a1 a2 a3 a4 a5 FU (0 : Int32) s13
  else none
def L9_patterns_19 (o : Nat) (a1 : Int32) (s : Sto) : Nat → Int32 → Int32 → Option (Int32)
  | 0, _, _ => none
  | fuel + 1, v2, v3 =>
    if (6 : Int32) ≤ v3 then
      some v2
    else
      if inb v3 (ln (o + 1)) then
      if (s.1 (o + 1) v3.toNatClampNeg) = (1 : Int32) then
        L9_patterns_19 o a1 s fuel (v2 + (0 : Int32)) (v3 + 1)
      else
        L9_patterns_19 o a1 s fuel (v2 + (1 : Int32)) (v3 + 1)
      else none
def L9_patterns_57 (a1 : Int32) (a2 : Int32) (s : Sto) : Nat → Int32 → Int32 → Int32 → Option (Int32 × Int32)
  | 0, _, _, _ => none
  | fuel + 1, v3, v4, v5 =>
    if a1 ≤ v5 then
      some (v3, v4)
    else
      L9_patterns_57 a1 a2 s fuel (v3 + v4) (v4 + (a2 * (v3 + v4))) (v5 + 1)
def f9_patterns (o : Nat) (a1 : Int32) (s : Sto) : Option (Int32 × Sto) :=
  if kd o = 9 then
  bd2 (f9_in (a1).toInt64 (0 : Int64) (8 : Int64) s) fun r3 s1 =>
  if r3 = 0 then
    some ((-2 : Int32), s1)
  else
    Option.bind (L9_patterns_19 o a1 s1 FU (0 : Int32) (0 : Int32)) fun y8 =>
    bd2 (L9_patterns_57 a1 y8 s1 FU (1 : Int32) (0 : Int32) (0 : Int32)) fun y11 y12 =>
    some ((y11 + y12), s1)
  else none
def f9_drawn (o : Nat) (a1 : Int32) (s : Sto) : Option (Sto) :=
  if kd o = 9 then
  nm (a1 - a1 / (8 : Int32) * (8 : Int32)) fun x1 =>
  Option.bind (
    if x1 = 0 then
      some (1 : Int32)
    else
      if x1 = (1 : Int32) then
        some (2 : Int32)
      else
        if x1 = (2 : Int32) then
          some (3 : Int32)
        else
          some (0 : Int32))
  fun x5 =>
  if inb (0 : Int32) (ln (o + 8)) then
  nm (stI s (o + 8) (0 : Int32).toNatClampNeg x5) fun s7 =>
  if inb (0 : Int32) (ln (o + 9)) then
  nm (stI s7 (o + 9) (0 : Int32).toNatClampNeg ((a1 / (8 : Int32)) - (a1 / (8 : Int32)) / (6 : Int32) * (6 : Int32))) fun s9 =>
  if ¬ (s9.1 o 0) = 0 then
  if inb (0 : Int32) (ln (o + 10)) then
  nm (stI s9 (o + 10) (0 : Int32).toNatClampNeg ((a1 / (48 : Int32)) - (a1 / (48 : Int32)) / (s9.1 o 0) * (s9.1 o 0))) fun s12 =>
  if inb (0 : Int32) (ln (o + 11)) then
  nm (stI s12 (o + 11) (0 : Int32).toNatClampNeg ((a1 / (480 : Int32)) - (a1 / (480 : Int32)) / (2 : Int32) * (2 : Int32))) fun s14 =>
  bd2 (f9_whyNot o (0 : Int32) (s14.1 o 1) s14) fun r17 s15 =>
  if r17 = 0 then
    Option.bind (f9_happen o (0 : Int32) (s15.1 o 1) s15) fun s18 =>
    some s18
  else
    some s15
  else none
  else none
  else none
  else none
  else none
  else none
def L9_draws_60 (o : Nat) (a2 : Int32) (a3 : Int32) : Nat → Int32 → Int32 → Sto → Option (Sto)
  | 0, _, _, _ => none
  | fuel + 1, v4, v5, s =>
    if a2 ≤ v5 then
      some s
    else
      nm (((((75 : Int64) * (v4).toInt64) + (74 : Int64)) - (((75 : Int64) * (v4).toInt64) + (74 : Int64)) / (65537 : Int64) * (65537 : Int64)).toInt32) fun x14 =>
      Option.bind (f9_drawn o x14 s) fun s15 =>
      L9_draws_60 o a2 a3 fuel x14 (v5 + 1) s15
def f9_draws (o : Nat) (a1 : Int32) (a2 : Int32) (a3 : Int32) (s : Sto) : Option (Int32 × Sto) :=
  if kd o = 9 then
  bd2 (f9_in (a1).toInt64 (0 : Int64) (9999 : Int64) s) fun r3 s1 =>
  if r3 = 0 then
    some ((-2 : Int32), s1)
  else
    bd2 (f9_in (a2).toInt64 (1 : Int64) (99 : Int64) s1) fun r6 s4 =>
    if r6 = 0 then
      some ((-2 : Int32), s4)
    else
      bd2 (f9_in (a3).toInt64 (0 : Int64) (2 : Int64) s4) fun r9 s7 =>
      if r9 = 0 then
        some ((-2 : Int32), s7)
      else
        Option.bind (f9_keepNow o s7) fun s10 =>
        nm (stI s10 o 21 (0 : Int32)) fun s12 =>
        nm (stI s12 o 25 (-6 : Int32)) fun s13 =>
        Option.bind (L9_draws_60 o a2 a3 FU a1 (0 : Int32) s13) fun s19 =>
        Option.bind (
          if a3 = 0 then
            some (s19.1 o 3)
          else
            if a3 = (1 : Int32) then
              some (s19.1 o 21)
            else
              some (s19.1 o 4))
        fun x22 =>
        Option.bind (f9_putBack o s19) fun s23 =>
        some (x22, s23)
  else none
def f9_pass (o : Nat) (a1 : Int32) (s : Sto) : Option (Int32 × Sto) :=
  if kd o = 9 then
  Option.bind (
    if (s.1 o 46) = 0 then
      if inb (s.1 o 45) (ln (o + 22)) then
      some (s.1 (o + 22) (s.1 o 45).toNatClampNeg)
      else none
    else
      some a1)
  fun x3 =>
  if inb (s.1 o 45) (ln (o + 22)) then
  nm (stI s (o + 22) (s.1 o 45).toNatClampNeg x3) fun s5 =>
  nm (stI s5 o 45 ((s5.1 o 45) + (1 : Int32))) fun s6 =>
  some (x3, s6)
  else none
  else none
def L9_passAll_62 (o : Nat) : Nat → Int32 → Sto → Option (Sto)
  | 0, _, _ => none
  | fuel + 1, v1, s =>
    if (6 : Int32) ≤ v1 then
      some s
    else
      if inb v1 (ln (o + 1)) then
      bd2 (f9_pass o (s.1 (o + 1) v1.toNatClampNeg) s) fun r24 s22 =>
      if inb v1 (ln (o + 1)) then
      nm (stI s22 (o + 1) v1.toNatClampNeg r24) fun s26 =>
      L9_passAll_62 o fuel (v1 + 1) s26
      else none
      else none
def L9_passAll_92 (o : Nat) : Nat → Int32 → Sto → Option (Sto)
  | 0, _, _ => none
  | fuel + 1, v1, s =>
    if (30 : Int32) ≤ v1 then
      some s
    else
      if inb v1 (ln (o + 2)) then
      bd2 (f9_pass o (s.1 (o + 2) v1.toNatClampNeg) s) fun r33 s31 =>
      if inb v1 (ln (o + 2)) then
      nm (stI s31 (o + 2) v1.toNatClampNeg r33) fun s35 =>
      if inb v1 (ln (o + 3)) then
      bd2 (f9_pass o (s35.1 (o + 3) v1.toNatClampNeg) s35) fun r39 s37 =>
      if inb v1 (ln (o + 3)) then
      nm (stI s37 (o + 3) v1.toNatClampNeg r39) fun s41 =>
      if inb v1 (ln (o + 4)) then
      bd2 (f9_pass o (s41.1 (o + 4) v1.toNatClampNeg) s41) fun r45 s43 =>
      if inb v1 (ln (o + 4)) then
      nm (stI s43 (o + 4) v1.toNatClampNeg r45) fun s47 =>
      L9_passAll_92 o fuel (v1 + 1) s47
      else none
      else none
      else none
      else none
      else none
      else none
def L9_passAll_154 (o : Nat) : Nat → Int32 → Sto → Option (Sto)
  | 0, _, _ => none
  | fuel + 1, v1, s =>
    if (8 : Int32) ≤ v1 then
      some s
    else
      if inb v1 (ln (o + 5)) then
      bd2 (f9_pass o (s.1 (o + 5) v1.toNatClampNeg) s) fun r54 s52 =>
      if inb v1 (ln (o + 5)) then
      nm (stI s52 (o + 5) v1.toNatClampNeg r54) fun s56 =>
      if inb v1 (ln (o + 6)) then
      bd2 (f9_pass o (s56.1 (o + 6) v1.toNatClampNeg) s56) fun r60 s58 =>
      if inb v1 (ln (o + 6)) then
      nm (stI s58 (o + 6) v1.toNatClampNeg r60) fun s62 =>
      L9_passAll_154 o fuel (v1 + 1) s62
      else none
      else none
      else none
      else none
def f9_passAll (o : Nat) (s : Sto) : Option (Sto) :=
  if kd o = 9 then
  bd2 (f9_pass o (s.1 o 0) s) fun r3 s1 =>
  nm (stI s1 o 0 r3) fun s4 =>
  bd2 (f9_pass o (s4.1 o 1) s4) fun r7 s5 =>
  nm (stI s5 o 1 r7) fun s8 =>
  bd2 (f9_pass o (s8.1 o 3) s8) fun r11 s9 =>
  nm (stI s9 o 3 r11) fun s12 =>
  bd2 (f9_pass o (s12.1 o 4) s12) fun r15 s13 =>
  nm (stI s13 o 4 r15) fun s16 =>
  bd2 (f9_pass o (s16.1 o 10) s16) fun r19 s17 =>
  nm (stI s17 o 10 r19) fun s20 =>
  Option.bind (L9_passAll_62 o FU (0 : Int32) s20) fun s29 =>
  Option.bind (L9_passAll_92 o FU (0 : Int32) s29) fun s50 =>
  Option.bind (L9_passAll_154 o FU (0 : Int32) s50) fun s65 =>
  some s65
  else none
def f9_image (o : Nat) (a1 : Int32) (s : Sto) : Option (Int32 × Sto) :=
  if kd o = 9 then
  bd2 (f9_in (a1).toInt64 (0 : Int64) (1 : Int64) s) fun r3 s1 =>
  if r3 = 0 then
    some ((-2 : Int32), s1)
  else
    nm (stI s1 o 45 ((130 : Int32) * a1)) fun s4 =>
    nm (stI s4 o 46 (1 : Int32)) fun s5 =>
    Option.bind (f9_passAll o s5) fun s6 =>
    if inb a1 (ln (o + 23)) then
    nm (stI s6 (o + 23) a1.toNatClampNeg (1 : Int32)) fun s9 =>
    some ((1 : Int32), s9)
    else none
  else none
def f9_restore (o : Nat) (a1 : Int32) (s : Sto) : Option (Int32 × Sto) :=
  if kd o = 9 then
  bd2 (f9_in (a1).toInt64 (0 : Int64) (1 : Int64) s) fun r3 s1 =>
  if r3 = 0 then
    some ((-2 : Int32), s1)
  else
    if inb a1 (ln (o + 23)) then
    if (s1.1 (o + 23) a1.toNatClampNeg) = 0 then
      some ((-3 : Int32), s1)
    else
      nm (stI s1 o 45 ((130 : Int32) * a1)) fun s5 =>
      nm (stI s5 o 46 (0 : Int32)) fun s6 =>
      Option.bind (f9_passAll o s6) fun s7 =>
      some ((1 : Int32), s7)
    else none
  else none
def f9_told (o : Nat) (a1 : Int32) (s : Sto) : Option (Int32 × Sto) :=
  if kd o = 9 then
  bd2 (f9_in (a1).toInt64 (10 : Int64) (15 : Int64) s) fun r3 s1 =>
  if r3 = 0 then
    if a1 = 0 then
      some ((s1.1 o 12), s1)
    else
      if a1 = (1 : Int32) then
        some ((s1.1 o 0), s1)
      else
        if a1 = (2 : Int32) then
          some ((s1.1 o 1), s1)
        else
          if a1 = (3 : Int32) then
            some ((s1.1 o 3), s1)
          else
            if a1 = (4 : Int32) then
              some ((s1.1 o 4), s1)
            else
              if a1 = (5 : Int32) then
                some ((s1.1 o 10), s1)
              else
                some ((-2 : Int32), s1)
  else
    if inb (a1 - (10 : Int32)) (ln (o + 1)) then
    some ((s1.1 (o + 1) (a1 - (10 : Int32)).toNatClampNeg), s1)
    else none
  else none
