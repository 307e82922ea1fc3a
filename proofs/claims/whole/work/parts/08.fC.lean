/-! THE CLASS'S METHODS AS FUNCTIONS of the memory and the arguments: written by wip/whole/gen.py out of the bytecode -/
def f3_isRow (x0 : Int32) : Option Int32 :=
  if x0 < 0 then
    some 0
  else
    if 6 ≤ x0 then
      some 0
    else
      some 1
def f3_foundThat (S : Mem) (x1 : Int32) : Option (Int32 × Mem) :=
  nm (ui S 0 12 x1) fun S1 =>
  gd (inb x1 6) <|
  gd (inb x1 6) <|
  nm (ui S1 21 (ix x1) ((gi S1 21 (ix x1)) + 1)) fun S4 =>
  some ((-3), S4)
def f7_fillI_b5 : Nat → Mem → Nat → Nat → Int32 → Int32 → Int32 → Option Mem
  | 0, _, _, _, _, _, _ => none
  | n + 1, S, a0, a0n, x1, x2, x3 => if x3 ≤ x2 then
      some S
    else
      gd (inb x2 a0n) <|
      nm (ui S a0 (ix x2) x1) fun S3 =>
      nm (x2 + 1 : Int32) fun v4 =>
      (f7_fillI_b5 n) S3 a0 a0n x1 v4 x3
def f7_fillI (S : Mem) (a0 : Nat) (a0n : Nat) (x1 : Int32) : Option Mem :=
  nm ((nI a0n) : Int32) fun v1 =>
  f7_fillI_b5 FU S a0 a0n x1 0 v1
def f3_row (S : Mem) (x1 : Int32) (x2 : Int32) : Option (Int32 × Mem) :=
  b1 (f3_isRow x1) fun v2 =>
  if v2 = 0 then
    some ((-1), S)
  else
    if x2 ≤ 40 then
      if 0 ≤ x2 then
        gd (inb x1 6) <|
        b1 (f7_fillI S (2 + (ix x1)) 40 0) fun S8 =>
        gd (inb x1 6) <|
        nm (ui S8 8 (ix x1) x2) fun S10 =>
        some (x2, S10)
      else
        b2 (f3_foundThat S 5) fun v12 S13 =>
        some (v12, S13)
    else
      some ((-1), S)
def f3_rowRefusal (S : Mem) (x1 : Int32) : Option (Int32 × Mem) :=
  b1 (f3_isRow x1) fun v2 =>
  if v2 = 0 then
    some ((-1), S)
  else
    gd (inb x1 6) <|
    if (gi S 8 (ix x1)) = (-1) then
      b2 (f3_foundThat S 1) fun v7 S8 =>
      some (v7, S8)
    else
      some (0, S)
def f3_placeRefusal_b26 (S : Mem) : Option (Int32 × Mem) :=
  b2 (f3_foundThat S 2) fun v2 S3 =>
  some (v2, S3)
def f3_placeRefusal (S : Mem) (x1 : Int32) (x2 : Int32) : Option (Int32 × Mem) :=
  b2 (f3_rowRefusal S x1) fun v2 S3 =>
  if v2 = 0 then
    if x2 < 0 then
      f3_placeRefusal_b26 S3
    else
      gd (inb x1 6) <|
      if x2 < (gi S3 8 (ix x1)) then
        some (0, S3)
      else
        f3_placeRefusal_b26 S3
  else
    some (v2, S3)
def f3_lay (S : Mem) (x1 : Int32) (x2 : Int32) (x3 : Int32) : Option (Int32 × Mem) :=
  b2 (f3_placeRefusal S x1 x2) fun v2 S3 =>
  if v2 = 0 then
    gd (inb x1 6) <|
    gd (inb x2 40) <|
    nm (ui S3 0 9 (gi S3 (2 + (ix x1)) (ix x2))) fun S7 =>
    gd (inb x1 6) <|
    gd (inb x2 40) <|
    nm (ui S7 (2 + (ix x1)) (ix x2) x3) fun S10 =>
    some (1, S10)
  else
    some (v2, S3)
def f3_at (S : Mem) (x1 : Int32) (x2 : Int32) : Option (Int32 × Mem) :=
  b2 (f3_placeRefusal S x1 x2) fun v2 S3 =>
  if v2 = 0 then
    gd (inb x1 6) <|
    gd (inb x2 40) <|
    nm (ui S3 0 9 (gi S3 (2 + (ix x1)) (ix x2))) fun S7 =>
    some (1, S7)
  else
    some (v2, S3)
def f3_tear (S : Mem) (x1 : Int32) : Option (Int32 × Mem) :=
  b2 (f3_rowRefusal S x1) fun v2 S3 =>
  if v2 = 0 then
    gd (inb x1 6) <|
    nm (ui S3 8 (ix x1) (-1)) fun S6 =>
    some (1, S6)
  else
    some (v2, S3)
def f3_reaches (x0 : Int32) (x1 : Int32) (x2 : Int32) : Option Int32 :=
  if x1 < 0 then
    some 0
  else
    if (x0 - x2) < x1 then
      some 0
    else
      some 1
def f3_copy_b47 (S : Mem) : Option (Int32 × Mem) :=
  b2 (f3_foundThat S 1) fun v2 S3 =>
  some (v2, S3)
def f3_copy_b84 (S : Mem) : Option (Int32 × Mem) :=
  b2 (f3_foundThat S 2) fun v2 S3 =>
  some (v2, S3)
def f3_copy (S : Mem) (x1 : Int32) (x2 : Int32) (x3 : Int32) (x4 : Int32) (x5 : Int32) : Option (Int32 × Mem) :=
  b1 (f3_isRow x1) fun v2 =>
  if v2 = 0 then
    some ((-1), S)
  else
    b1 (f3_isRow x3) fun v5 =>
    if v5 = 0 then
      some ((-1), S)
    else
      if 0 ≤ x5 then
        gd (inb x1 6) <|
        if (gi S 8 (ix x1)) = (-1) then
          f3_copy_b47 S
        else
          gd (inb x3 6) <|
          if (gi S 8 (ix x3)) = (-1) then
            f3_copy_b47 S
          else
            gd (inb x1 6) <|
            b1 (f3_reaches (gi S 8 (ix x1)) x2 x5) fun v14 =>
            if v14 = 0 then
              f3_copy_b84 S
            else
              gd (inb x3 6) <|
              b1 (f3_reaches (gi S 8 (ix x3)) x4 x5) fun v18 =>
              if v18 = 0 then
                f3_copy_b84 S
              else
                gd (inb x1 6) <|
                gd (inb x3 6) <|
                gd (!(decide (x2 < 0)) && !(decide (x4 < 0)) && !(decide (x5 < 0)) && decide (ix x2 + ix x5 ≤ 40) && decide (ix x4 + ix x5 ≤ 40)) <|
                nm (ucp S (2 + (ix x1)) (ix x2) (2 + (ix x3)) (ix x4) (ix x5)) fun S23 =>
                some (1, S23)
      else
        b2 (f3_foundThat S 5) fun v25 S26 =>
        some (v25, S26)
def f3_mean_b35 : Nat → Mem → Int32 → Int32 → Int64 → Int32 → Option (Int32 × Mem)
  | 0, _, _, _, _, _ => none
  | n + 1, S, x1, x3, x4, x6 => if x3 ≤ x6 then
      gd (decide (¬ (Int32.toInt64 x3) = 0)) <|
      nm (ui S 0 9 (Int64.toInt32 (x4 / (Int32.toInt64 x3)))) fun S3 =>
      some (1, S3)
    else
      gd (inb x1 6) <|
      gd (inb x6 40) <|
      nm ((x4 + (Int32.toInt64 (gi S (2 + (ix x1)) (ix x6)))) : Int64) fun v6 =>
      nm (x6 + 1 : Int32) fun v7 =>
      (f3_mean_b35 n) S x1 x3 v6 v7
def f3_mean (S : Mem) (x1 : Int32) : Option (Int32 × Mem) :=
  b2 (f3_rowRefusal S x1) fun v2 S3 =>
  if v2 = 0 then
    gd (inb x1 6) <|
    nm ((gi S3 8 (ix x1)) : Int32) fun v6 =>
    if v6 = 0 then
      b2 (f3_foundThat S3 4) fun v9 S10 =>
      some (v9, S10)
    else
      f3_mean_b35 FU S3 x1 v6 0 0
  else
    some (v2, S3)
def f3_isText (x0 : Int32) : Option Int32 :=
  if x0 < 0 then
    some 0
  else
    if 4 ≤ x0 then
      some 0
    else
      some 1
def f7_fillB_b5 : Nat → Mem → Nat → Nat → Int32 → Int32 → Int32 → Option Mem
  | 0, _, _, _, _, _, _ => none
  | n + 1, S, a0, a0n, x1, x2, x3 => if x3 ≤ x2 then
      some S
    else
      gd (inb x2 a0n) <|
      nm (ui S a0 (ix x2) (i2b x1)) fun S3 =>
      nm (x2 + 1 : Int32) fun v4 =>
      (f7_fillB_b5 n) S3 a0 a0n x1 v4 x3
def f7_fillB (S : Mem) (a0 : Nat) (a0n : Nat) (x1 : Int32) : Option Mem :=
  nm ((nI a0n) : Int32) fun v1 =>
  f7_fillB_b5 FU S a0 a0n x1 0 v1
def f3_text (S : Mem) (x1 : Int32) (x2 : Int32) : Option (Int32 × Mem) :=
  b1 (f3_isText x1) fun v2 =>
  if v2 = 0 then
    some ((-1), S)
  else
    if x2 ≤ 60 then
      if 0 ≤ x2 then
        gd (inb x1 4) <|
        b1 (f7_fillB S (10 + (ix x1)) 60 32) fun S8 =>
        gd (inb x1 4) <|
        nm (ui S8 14 (ix x1) x2) fun S10 =>
        some (x2, S10)
      else
        b2 (f3_foundThat S 5) fun v12 S13 =>
        some (v12, S13)
    else
      some ((-1), S)
def f3_textRefusal (S : Mem) (x1 : Int32) : Option (Int32 × Mem) :=
  b1 (f3_isText x1) fun v2 =>
  if v2 = 0 then
    some ((-1), S)
  else
    gd (inb x1 4) <|
    if (gi S 14 (ix x1)) = (-1) then
      b2 (f3_foundThat S 1) fun v7 S8 =>
      some (v7, S8)
    else
      some (0, S)
def f3_put_b29 (S : Mem) : Option (Int32 × Mem) :=
  b2 (f3_foundThat S 2) fun v2 S3 =>
  some (v2, S3)
def f3_put (S : Mem) (x1 : Int32) (x2 : Int32) (x3 : Int32) : Option (Int32 × Mem) :=
  b2 (f3_textRefusal S x1) fun v2 S3 =>
  if v2 = 0 then
    if x2 < 0 then
      f3_put_b29 S3
    else
      gd (inb x1 4) <|
      if x2 < (gi S3 14 (ix x1)) then
        gd (inb x1 4) <|
        gd (inb x2 60) <|
        nm ((gi S3 (10 + (ix x1)) (ix x2)) : Int32) fun v10 =>
        gd (inb x1 4) <|
        gd (inb x2 60) <|
        nm (ui S3 (10 + (ix x1)) (ix x2) (i2b (i2b x3))) fun S13 =>
        some ((1000 + v10), S13)
      else
        f3_put_b29 S3
  else
    some (v2, S3)
def f3_kindByLetter_b2 (S : Mem) : Nat → Int32 → Int32 → Option Int32
  | 0, _, _ => none
  | n + 1, x0, x1 => if 6 ≤ x1 then
      some (-9)
    else
      gd (inb x1 6) <|
      if (lets (ix x1)) = x0 then
        some x1
      else
        nm (x1 + 1 : Int32) fun v4 =>
        (f3_kindByLetter_b2 S n) x0 v4
def f3_kindByLetter (S : Mem) (x0 : Int32) : Option Int32 :=
  f3_kindByLetter_b2 S FU x0 0
def f3_isFigure (x0 : Int32) : Option Int32 :=
  if x0 < 48 then
    some 0
  else
    if 57 < x0 then
      some 0
    else
      some 1
def f3_firstFault_b45 (k4 : Nat → Nat → Int32 → Int32 → Int32 → Option Int32) (S : Mem) : Nat → Nat → Nat → Int32 → Int32 → Int32 → Int32 → Option Int32
  | 0, _, _, _, _, _, _ => none
  | n + 1, a0, a0n, x1, x2, x3, x4 => if 5 ≤ x4 then
      nm (x2 + 1 : Int32) fun v2 =>
      nm (x3 + 5 : Int32) fun v3 =>
      k4 a0 a0n x1 v2 v3
    else
      if x1 ≤ (x3 + x4) then
        some (x3 + x4)
      else
        gd (inb (x3 + x4) a0n) <|
        b1 (f3_isFigure (gi S a0 (ix (x3 + x4)))) fun v7 =>
        if v7 = 0 then
          some (x3 + x4)
        else
          nm (x4 + 1 : Int32) fun v9 =>
          (f3_firstFault_b45 k4 S n) a0 a0n x1 x2 x3 v9
def f3_firstFault_b4 (S : Mem) : Nat → Nat → Nat → Int32 → Int32 → Int32 → Option Int32
  | 0, _, _, _, _, _ => none
  | n + 1, a0, a0n, x1, x2, x3 => if x1 ≤ x3 then
      if 2 ≤ x2 then
        some (-9)
      else
        some x1
    else
      gd (inb x3 a0n) <|
      if (gi S a0 (ix x3)) = 32 then
        nm (x3 + 1 : Int32) fun v10 =>
        (f3_firstFault_b4 S n) a0 a0n x1 x2 v10
      else
        if x2 = 7 then
          some x3
        else
          gd (inb x3 a0n) <|
          b1 (f3_kindByLetter S (gi S a0 (ix x3))) fun v8 =>
          if v8 = (-9) then
            some x3
          else
            f3_firstFault_b45 (f3_firstFault_b4 S n) S FU a0 a0n x1 x2 x3 1
def f3_firstFault (S : Mem) (a0 : Nat) (a0n : Nat) (x1 : Int32) : Option Int32 :=
  f3_firstFault_b4 S FU a0 a0n x1 0 0
def f3_fault (S : Mem) (x1 : Int32) : Option (Int32 × Mem) :=
  b2 (f3_textRefusal S x1) fun v2 S3 =>
  if v2 = 0 then
    gd (inb x1 4) <|
    gd (inb x1 4) <|
    b1 (f3_firstFault S3 (10 + (ix x1)) 60 (gi S3 14 (ix x1))) fun v8 =>
    some (v8, S3)
  else
    some (v2, S3)
def f2_startAnew (S : Mem) (s0 : Nat) : Option (Nat × Mem) :=
  nm (ui S (22 + s0) 1 0) fun S1 =>
  gd (inb 0 41) <|
  some ((41 * s0 + (ix 0)), S1)
def f3_figure (x0 : Int32) : Option Int32 :=
  some (x0 - 48)
def f3_settle_b133 (S : Mem) (x4 : Int32) : Option Mem :=
  nm (ui S 15 3 x4) fun S1 =>
  some S1
def f3_settle_b127 (k14 : Mem → Nat → Nat → Int32 → Nat → Int32 → Int32 → Option Mem) (S : Mem) (a1 : Nat) (a1n : Nat) (x2 : Int32) (q3 : Nat) (x4 : Int32) (x5 : Int32) : Option Mem :=
  nm (x5 + 1 : Int32) fun v1 =>
  k14 S a1 a1n x2 q3 x4 v1
def f3_settle_b14 : Nat → Mem → Nat → Nat → Int32 → Nat → Int32 → Int32 → Option Mem
  | 0, _, _, _, _, _, _, _ => none
  | n + 1, S, a1, a1n, x2, q3, x4, x5 => if x2 < (x5 + 5) then
      f3_settle_b133 S x4
    else
      if 7 ≤ x4 then
        f3_settle_b133 S x4
      else
        gd (inb x5 a1n) <|
        b1 (f3_kindByLetter S (gi S a1 (ix x5))) fun v5 =>
        if v5 = (-9) then
          f3_settle_b127 (f3_settle_b14 n) S a1 a1n x2 q3 x4 x5
        else
          gd (inb x4 7) <|
          nm (ui S 16 (ix x4) v5) fun S8 =>
          gd (inb (x5 + 1) a1n) <|
          b1 (f3_figure (gi S8 a1 (ix (x5 + 1)))) fun v11 =>
          gd (inb x4 7) <|
          nm (ui S8 17 (ix x4) v11) fun S13 =>
          gd (inb (x5 + 2) a1n) <|
          b1 (f3_figure (gi S13 a1 (ix (x5 + 2)))) fun v16 =>
          gd (inb x4 7) <|
          nm (ui S13 18 (ix x4) v16) fun S18 =>
          gd (inb (x5 + 3) a1n) <|
          b1 (f3_figure (gi S18 a1 (ix (x5 + 3)))) fun v21 =>
          gd (inb (x5 + 4) a1n) <|
          b1 (f3_figure (gi S18 a1 (ix (x5 + 4)))) fun v24 =>
          gd (inb x4 7) <|
          nm (ui S18 (195 + q3) (ix x4) ((10 * v21) + v24)) fun S26 =>
          nm (x4 + 1 : Int32) fun v27 =>
          f3_settle_b127 (f3_settle_b14 n) S26 a1 a1n x2 q3 v27 x5
def f3_settle (S : Mem) (a1 : Nat) (a1n : Nat) (x2 : Int32) : Option Mem :=
  b2 (f2_startAnew S 0) fun q2 S3 =>
  gd (decide (q2 < 165)) <|
  f3_settle_b14 FU S3 a1 a1n x2 q2 0 0
def f3_place_b37 : Nat → Mem → Int32 → Int32 → Option (Int32 × Mem)
  | 0, _, _, _ => none
  | n + 1, S, x1, x3 => if 3 ≤ x3 then
      gd (inb x1 4) <|
      gd (inb x1 4) <|
      b1 (f3_settle S (10 + (ix x1)) 60 (gi S 14 (ix x1))) fun S5 =>
      some ((gi S5 15 3), S5)
    else
      gd (inb x3 3) <|
      nm (ui S (22 + (1 + (ix x3))) 1 (-1)) fun S7 =>
      nm (x3 + 1 : Int32) fun v8 =>
      (f3_place_b37 n) S7 x1 v8
def f3_place (S : Mem) (x1 : Int32) : Option (Int32 × Mem) :=
  b2 (f3_textRefusal S x1) fun v2 S3 =>
  if v2 = 0 then
    gd (inb x1 4) <|
    gd (inb x1 4) <|
    b1 (f3_firstFault S3 (10 + (ix x1)) 60 (gi S3 14 (ix x1))) fun v8 =>
    if v8 = (-9) then
      f3_place_b37 FU S3 x1 0
    else
      some ((-4), S3)
  else
    some (v2, S3)
def f3_isHouse (S : Mem) (x1 : Int32) : Option Int32 :=
  if x1 < 0 then
    some 0
  else
    if (gi S 15 3) ≤ x1 then
      some 0
    else
      some 1
def f2_now (S : Mem) (s0 : Nat) : Option Nat :=
  gd (inb (gi S (22 + s0) 1) 41) <|
  some (41 * s0 + (ix (gi S (22 + s0) 1)))
def f3_broughtBy (x0 : Int32) (x1 : Int32) (x2 : Int32) : Option Int32 :=
  if x0 = 1 then
    some (x1 / 2)
  else
    if x0 = 2 then
      some x1
    else
      if x0 = 3 then
        some (mx 0 (x1 - 7))
      else
        if x0 = 4 then
          some 0
        else
          if x0 = 5 then
            if (x2 - x2 / 2 * 2) = 0 then
              some x1
            else
              some 0
          else
            some x1
def f1_bringsOf (S : Mem) (q0 : Nat) (x2 : Int32) : Option Int32 :=
  gd (inb x2 7) <|
  gd (inb x2 7) <|
  b1 (f3_broughtBy (gi S 16 (ix x2)) (gi S (195 + q0) (ix x2)) (gi S (30 + q0) 1)) fun v4 =>
  some v4
def f3_worthTo (x0 : Int32) (x1 : Int32) : Option Int32 :=
  if x0 = 1 then
    some (x1 + 3)
  else
    if x0 = 2 then
      some (2 * x1)
    else
      if x0 = 3 then
        if x1 ≤ 20 then
          some x1
        else
          some 0
      else
        if x0 = 4 then
          some (2 * (x1 + 3))
        else
          if x0 = 5 then
            some (mx 0 ((2 * x1) - 5))
          else
            some x1
def f0_comesOff (S : Mem) (x1 : Int32) (x2 : Int32) : Option Int32 :=
  gd (inb x1 7) <|
  b1 (f3_worthTo (gi S 16 (ix x1)) x2) fun v3 =>
  gd (inb x1 7) <|
  if v3 < (5 * (gi S 18 (ix x1))) then
    some 0
  else
    some 1
def f3_ofHouse (S : Mem) (x1 : Int32) (x2 : Int32) : Option Int32 :=
  b1 (f2_now S 0) fun q2 =>
  gd (decide (q2 < 165)) <|
  if x2 = 0 then
    gd (inb x1 7) <|
    some (gi S 16 (ix x1))
  else
    if x2 = 1 then
      gd (inb x1 7) <|
      some (gi S 17 (ix x1))
    else
      if x2 = 2 then
        gd (inb x1 7) <|
        some (gi S 18 (ix x1))
      else
        if x2 = 3 then
          gd (inb x1 7) <|
          some (gi S (195 + q2) (ix x1))
        else
          if x2 = 4 then
            b1 (f1_bringsOf S q2 x1) fun v14 =>
            some v14
          else
            if x2 = 5 then
              gd (inb x1 7) <|
              gd (inb x1 7) <|
              b1 (f3_worthTo (gi S 16 (ix x1)) (gi S (195 + q2) (ix x1))) fun v19 =>
              some v19
            else
              gd (inb x1 7) <|
              b1 (f0_comesOff S x1 (gi S (195 + q2) (ix x1))) fun v22 =>
              if v22 = 0 then
                some 0
              else
                some 1
def f3_house (S : Mem) (x1 : Int32) (x2 : Int32) : Option (Int32 × Mem) :=
  b1 (f3_isHouse S x1) fun v2 =>
  if v2 = 0 then
    some ((-1), S)
  else
    if x2 < 0 then
      some ((-1), S)
    else
      if x2 < 7 then
        b1 (f3_ofHouse S x1 x2) fun v7 =>
        nm (ui S 0 9 v7) fun S8 =>
        some (1, S8)
      else
        some ((-1), S)
def f3_isA_b15 (x0 : Int32) (x1 : Int32) : Option Int32 :=
  if x0 = 5 then
    if x1 = 2 then
      some 1
    else
      some 0
  else
    some 0
def f3_isA (x0 : Int32) (x1 : Int32) : Option Int32 :=
  if x0 = x1 then
    some 1
  else
    if x0 = 4 then
      if x1 = 1 then
        some 1
      else
        f3_isA_b15 x0 x1
    else
      f3_isA_b15 x0 x1
def f3_markOf (x0 : Int32) (x1 : Int32) (x2 : Int32) : Option Int32 :=
  b1 (f3_worthTo x0 x2) fun v2 =>
  if x1 = 1 then
    b1 (f3_worthTo 0 x2) fun v5 =>
    some (v2 - v5)
  else
    if x1 = 2 then
      b1 (f3_worthTo 0 x2) fun v8 =>
      some ((100 + v2) - v8)
    else
      if x1 = 3 then
        b1 (f3_broughtBy 3 x2 0) fun v11 =>
        some (x2 - v11)
      else
        if x1 = 4 then
          b1 (f3_worthTo 1 x2) fun v14 =>
          some (v2 - v14)
        else
          b1 (f3_worthTo 2 x2) fun v16 =>
          some (v16 - v2)
def f3_mark (S : Mem) (x1 : Int32) (x2 : Int32) : Option (Int32 × Mem) :=
  b1 (f3_isHouse S x1) fun v2 =>
  if v2 = 0 then
    some ((-1), S)
  else
    if x2 ≤ 0 then
      some ((-1), S)
    else
      if x2 < 6 then
        gd (inb x1 7) <|
        nm ((gi S 16 (ix x1)) : Int32) fun v7 =>
        b1 (f3_isA v7 x2) fun v9 =>
        if v9 = 0 then
          b2 (f3_foundThat S 3) fun v18 S19 =>
          some (v18, S19)
        else
          b1 (f2_now S 0) fun q12 =>
          gd (decide (q12 < 165)) <|
          gd (inb x1 7) <|
          b1 (f3_markOf v7 x2 (gi S (195 + q12) (ix x1))) fun v16 =>
          some (v16, S)
      else
        some ((-1), S)
def f3_worth (S : Mem) (x1 : Int32) (x2 : Int32) : Option Int32 :=
  b1 (f3_isHouse S x1) fun v2 =>
  if v2 = 0 then
    some (-1)
  else
    if x2 < 0 then
      some (-1)
    else
      if x2 ≤ 99 then
        gd (inb x1 7) <|
        b1 (f3_worthTo (gi S 16 (ix x1)) x2) fun v8 =>
        some v8
      else
        some (-1)
def f2_isFull (S : Mem) (s0 : Nat) : Option Int32 :=
  if (gi S (22 + s0) 1) < 40 then
    some 0
  else
    some 1
def f1_become (S : Mem) (q0 : Nat) (q1 : Nat) : Option Mem :=
  gd (!(decide (0 < 0)) && !(decide (0 < 0)) && !(decide (7 < 0)) && decide (ix 0 + ix 7 ≤ 7) && decide (ix 0 + ix 7 ≤ 7)) <|
  nm (ucp S (195 + q1) (ix 0) (195 + q0) (ix 0) (ix 7)) fun S2 =>
  nm (ui S2 (30 + q0) 1 (gi S2 (30 + q1) 1)) fun S3 =>
  nm (ui S3 (30 + q0) 2 (gi S3 (30 + q1) 2)) fun S4 =>
  some S4
def f2_next (S : Mem) (s0 : Nat) : Option (Nat × Mem) :=
  gd (inb ((gi S (22 + s0) 1) + 1) 41) <|
  gd (inb (gi S (22 + s0) 1) 41) <|
  b1 (f1_become S (41 * s0 + (ix ((gi S (22 + s0) 1) + 1))) (41 * s0 + (ix (gi S (22 + s0) 1)))) fun S4 =>
  nm (ui S4 (22 + s0) 1 ((gi S4 (22 + s0) 1) + 1)) fun S5 =>
  gd (inb (gi S5 (22 + s0) 1) 41) <|
  some ((41 * s0 + (ix (gi S5 (22 + s0) 1))), S5)
def f0_jarBehind (S : Mem) (x1 : Int32) (x2 : Int32) (x3 : Int32) : Option Int32 :=
  gd (inb x1 7) <|
  some (mn 99 (x2 + (x3 * (gi S 17 (ix x1)))))
def f1_passDays_b2 : Nat → Mem → Nat → Int32 → Int32 → Option Mem
  | 0, _, _, _, _ => none
  | n + 1, S, q0, x2, x3 => if (gi S 15 3) ≤ x3 then
      nm (ui S (30 + q0) 1 ((gi S (30 + q0) 1) + x2)) fun S2 =>
      some S2
    else
      gd (inb x3 7) <|
      b1 (f0_jarBehind S x3 (gi S (195 + q0) (ix x3)) x2) fun v5 =>
      gd (inb x3 7) <|
      nm (ui S (195 + q0) (ix x3) v5) fun S7 =>
      nm (x3 + 1 : Int32) fun v8 =>
      (f1_passDays_b2 n) S7 q0 x2 v8
def f1_passDays (S : Mem) (q0 : Nat) (x2 : Int32) : Option Mem :=
  f1_passDays_b2 FU S q0 x2 0
def f3_day (S : Mem) : Option (Int32 × Mem) :=
  if (gi S 15 3) = 0 then
    some ((-4), S)
  else
    b1 (f2_now S 0) fun q3 =>
    gd (decide (q3 < 165)) <|
    if (gi S (30 + q3) 1) < 99 then
      b1 (f2_isFull S 0) fun v7 =>
      if v7 = 0 then
        b2 (f2_next S 0) fun q10 S11 =>
        gd (decide (q10 < 165)) <|
        b1 (f1_passDays S11 q10 1) fun S14 =>
        some ((gi S14 (30 + q10) 1), S14)
      else
        some ((-2), S)
    else
      some ((-4), S)
def f1_brought_b4 (S : Mem) : Nat → Nat → Int32 → Int32 → Option Int32
  | 0, _, _, _ => none
  | n + 1, q0, x2, x3 => if (gi S 15 3) ≤ x3 then
      some x2
    else
      b1 (f1_bringsOf S q0 x3) fun v3 =>
      nm ((x2 + v3) : Int32) fun v4 =>
      nm (x3 + 1 : Int32) fun v5 =>
      (f1_brought_b4 S n) q0 v4 v5
def f1_brought (S : Mem) (q0 : Nat) : Option Int32 :=
  f1_brought_b4 S FU q0 0 0
def f1_receive (S : Mem) (q0 : Nat) (x1 : Int32) (x2 : Int32) : Option Mem :=
  gd (inb x1 7) <|
  nm ((mn x2 (99 - (gi S (195 + q0) (ix x1)))) : Int32) fun v2 =>
  gd (inb x1 7) <|
  gd (inb x1 7) <|
  nm (ui S (195 + q0) (ix x1) ((gi S (195 + q0) (ix x1)) + v2)) fun S5 =>
  nm (ui S5 (30 + q0) 2 ((gi S5 (30 + q0) 2) + (x2 - v2))) fun S6 =>
  some S6
def f1_shareOut_b40 : Nat → Mem → Nat → Int32 → Int32 → Option (Int32 × Mem)
  | 0, _, _, _, _ => none
  | n + 1, S, q0, x3, x4 => if (gi S 15 3) ≤ x4 then
      some (x3, S)
    else
      gd (inb x4 7) <|
      b1 (f1_bringsOf S q0 x4) fun v4 =>
      gd (inb x4 7) <|
      nm (ui S (195 + q0) (ix x4) ((gi S (195 + q0) (ix x4)) - v4)) fun S6 =>
      b1 (f1_receive S6 q0 x4 x3) fun S8 =>
      nm (x4 + 1 : Int32) fun v9 =>
      (f1_shareOut_b40 n) S8 q0 x3 v9
def f1_shareOut (S : Mem) (q0 : Nat) : Option (Int32 × Mem) :=
  if (gi S 15 3) = 0 then
    some (0, S)
  else
    b1 (f1_brought S q0) fun v3 =>
    nm (((gi S (30 + q0) 2) + v3) : Int32) fun v4 =>
    gd (decide (¬ (gi S 15 3) = 0)) <|
    nm ((v4 / (gi S 15 3)) : Int32) fun v6 =>
    gd (decide (¬ (gi S 15 3) = 0)) <|
    nm (ui S (30 + q0) 2 (v4 - v4 / (gi S 15 3) * (gi S 15 3))) fun S8 =>
    f1_shareOut_b40 FU S8 q0 v6 0
def f3_spring (S : Mem) : Option (Int32 × Mem) :=
  if (gi S 15 3) = 0 then
    some ((-4), S)
  else
    b1 (f2_isFull S 0) fun v3 =>
    if v3 = 0 then
      b2 (f2_next S 0) fun q6 S7 =>
      gd (decide (q6 < 165)) <|
      b2 (f1_shareOut S7 q6) fun v10 S11 =>
      nm (ui S11 0 9 (gi S11 (30 + q6) 2)) fun S12 =>
      some (v10, S12)
    else
      some ((-2), S)
def f3_isCup (x0 : Int32) : Option Int32 :=
  if x0 < 1 then
    some 0
  else
    if 99 < x0 then
      some 0
    else
      some 1
def f1_pass (S : Mem) (q0 : Nat) (x1 : Int32) (x2 : Int32) (x3 : Int32) : Option Mem :=
  gd (inb x1 7) <|
  gd (inb x1 7) <|
  nm (ui S (195 + q0) (ix x1) ((gi S (195 + q0) (ix x1)) - x3)) fun S3 =>
  b1 (f1_receive S3 q0 x2 x3) fun S5 =>
  some S5
def f3_lend (S : Mem) (x1 : Int32) (x2 : Int32) (x3 : Int32) : Option (Int32 × Mem) :=
  b1 (f3_isHouse S x1) fun v2 =>
  if v2 = 0 then
    some ((-1), S)
  else
    b1 (f3_isHouse S x2) fun v5 =>
    if v5 = 0 then
      some ((-1), S)
    else
      if x1 = x2 then
        some ((-1), S)
      else
        b1 (f3_isCup x3) fun v9 =>
        if v9 = 0 then
          some ((-1), S)
        else
          b1 (f2_now S 0) fun q12 =>
          gd (decide (q12 < 165)) <|
          gd (inb x1 7) <|
          if x3 ≤ (gi S (195 + q12) (ix x1)) then
            b1 (f2_isFull S 0) fun v17 =>
            if v17 = 0 then
              b2 (f2_next S 0) fun q20 S21 =>
              gd (decide (q20 < 165)) <|
              b1 (f1_pass S21 q20 x1 x2 x3) fun S24 =>
              gd (inb x2 7) <|
              some ((gi S24 (195 + q20) (ix x2)), S24)
            else
              some ((-2), S)
          else
            some ((-4), S)
def f1_toQuay (S : Mem) (q0 : Nat) (x1 : Int32) (x2 : Int32) : Option Mem :=
  gd (inb x1 7) <|
  gd (inb x1 7) <|
  nm (ui S (195 + q0) (ix x1) ((gi S (195 + q0) (ix x1)) - x2)) fun S3 =>
  nm (ui S3 (30 + q0) 2 ((gi S3 (30 + q0) 2) + x2)) fun S4 =>
  some S4
def f3_leave (S : Mem) (x1 : Int32) (x2 : Int32) : Option (Int32 × Mem) :=
  b1 (f3_isHouse S x1) fun v2 =>
  if v2 = 0 then
    some ((-1), S)
  else
    b1 (f3_isCup x2) fun v5 =>
    if v5 = 0 then
      some ((-1), S)
    else
      b1 (f2_now S 0) fun q8 =>
      gd (decide (q8 < 165)) <|
      gd (inb x1 7) <|
      if x2 ≤ (gi S (195 + q8) (ix x1)) then
        b1 (f2_isFull S 0) fun v13 =>
        if v13 = 0 then
          b2 (f2_next S 0) fun q16 S17 =>
          gd (decide (q16 < 165)) <|
          b1 (f1_toQuay S17 q16 x1 x2) fun S20 =>
          some ((gi S20 (30 + q16) 2), S20)
        else
          some ((-2), S)
      else
        some ((-4), S)
def f3_take (S : Mem) (x1 : Int32) (x2 : Int32) : Option (Int32 × Mem) :=
  b1 (f3_isHouse S x1) fun v2 =>
  if v2 = 0 then
    some ((-1), S)
  else
    b1 (f3_isCup x2) fun v5 =>
    if v5 = 0 then
      some ((-1), S)
    else
      b1 (f2_now S 0) fun q8 =>
      gd (decide (q8 < 165)) <|
      if (gi S (30 + q8) 2) < x2 then
        some ((-4), S)
      else
        gd (inb x1 7) <|
        if ((gi S (195 + q8) (ix x1)) + x2) ≤ 99 then
          b1 (f2_isFull S 0) fun v14 =>
          if v14 = 0 then
            b2 (f2_next S 0) fun q17 S18 =>
            gd (decide (q17 < 165)) <|
            b1 (f1_toQuay S18 q17 x1 (-x2)) fun S21 =>
            gd (inb x1 7) <|
            some ((gi S21 (195 + q17) (ix x1)), S21)
          else
            some ((-2), S)
        else
          some ((-4), S)
def f3_undo (S : Mem) (x1 : Int32) : Option (Int32 × Mem) :=
  if x1 < 0 then
    some ((-1), S)
  else
    if x1 ≤ (gi S (22 + 0) 1) then
      nm (((gi S (22 + 0) 1) - x1) : Int32) fun v3 =>
      nm (ui S (22 + 0) 1 x1) fun S4 =>
      some (v3, S4)
    else
      some ((-1), S)
def f3_isKeeping (x0 : Int32) : Option Int32 :=
  if x0 < 0 then
    some 0
  else
    if 3 ≤ x0 then
      some 0
    else
      some 1
def f2_become_b2 : Nat → Mem → Nat → Nat → Int32 → Option Mem
  | 0, _, _, _, _ => none
  | n + 1, S, s0, s1, x2 => if (gi S (22 + s1) 1) < x2 then
      nm (ui S (22 + s0) 1 (gi S (22 + s1) 1)) fun S2 =>
      some S2
    else
      gd (inb x2 41) <|
      gd (inb x2 41) <|
      b1 (f1_become S (41 * s0 + (ix x2)) (41 * s1 + (ix x2))) fun S6 =>
      nm (x2 + 1 : Int32) fun v7 =>
      (f2_become_b2 n) S6 s0 s1 v7
def f2_become (S : Mem) (s0 : Nat) (s1 : Nat) : Option Mem :=
  f2_become_b2 FU S s0 s1 0
def f3_keep (S : Mem) (x1 : Int32) : Option (Int32 × Mem) :=
  b1 (f3_isKeeping x1) fun v2 =>
  if v2 = 0 then
    some ((-1), S)
  else
    if (gi S 15 3) = 0 then
      some ((-4), S)
    else
      gd (inb x1 3) <|
      b1 (f2_become S (1 + (ix x1)) 0) fun S7 =>
      some ((gi S7 (22 + 0) 1), S7)
def f3_on (S : Mem) (x1 : Int32) : Option (Int32 × Mem) :=
  b1 (f3_isKeeping x1) fun v2 =>
  if v2 = 0 then
    some ((-1), S)
  else
    gd (inb x1 3) <|
    if (gi S (22 + (1 + (ix x1))) 1) = (-1) then
      b2 (f3_foundThat S 1) fun v10 S11 =>
      some (v10, S11)
    else
      gd (inb x1 3) <|
      b1 (f2_become S 0 (1 + (ix x1))) fun S8 =>
      some ((gi S8 (22 + 0) 1), S8)
def f1_worksOff_b32 (k4 : Nat → Int32 → Int32 → Option Int32) (S : Mem) (q0 : Nat) (x2 : Int32) (x3 : Int32) : Option Int32 :=
  nm (x3 + 1 : Int32) fun v1 =>
  k4 q0 x2 v1
def f1_worksOff_b4 (S : Mem) : Nat → Nat → Int32 → Int32 → Option Int32
  | 0, _, _, _ => none
  | n + 1, q0, x2, x3 => if (gi S 15 3) ≤ x3 then
      some x2
    else
      gd (inb x3 7) <|
      b1 (f0_comesOff S x3 (gi S (195 + q0) (ix x3))) fun v4 =>
      if v4 = 0 then
        f1_worksOff_b32 (f1_worksOff_b4 S n) S q0 x2 x3
      else
        nm ((x2 ||| (1 <<< (x3 &&& 31))) : Int32) fun v6 =>
        f1_worksOff_b32 (f1_worksOff_b4 S n) S q0 v6 x3
def f1_worksOff (S : Mem) (q0 : Nat) : Option Int32 :=
  f1_worksOff_b4 S FU q0 0 0
def f6_bitCount (x0 : Int32) : Option Int32 :=
  nm ((x0 - ((ush x0 1) &&& 1431655765)) : Int32) fun v1 =>
  nm (((v1 &&& 858993459) + ((ush v1 2) &&& 858993459)) : Int32) fun v2 =>
  nm (((v2 + (ush v2 4)) &&& 252645135) : Int32) fun v3 =>
  nm ((v3 + (ush v3 8)) : Int32) fun v4 =>
  nm ((v4 + (ush v4 16)) : Int32) fun v5 =>
  some (v5 &&& 63)
def f3_works (S : Mem) : Option (Int32 × Mem) :=
  b1 (f2_now S 0) fun q2 =>
  gd (decide (q2 < 165)) <|
  b1 (f1_worksOff S q2) fun v5 =>
  b1 (f6_bitCount v5) fun v7 =>
  nm (ui S 0 9 v7) fun S8 =>
  some (v5, S8)
def f3_later (S : Mem) (x1 : Int32) (x2 : Int32) : Option (Int32 × Mem) :=
  b1 (f3_isHouse S x1) fun v2 =>
  if v2 = 0 then
    some ((-1), S)
  else
    if x2 < 0 then
      some ((-1), S)
    else
      if x2 ≤ 60 then
        b1 (f2_now S 0) fun q7 =>
        gd (decide (q7 < 165)) <|
        b1 (f1_become S 164 q7) fun S10 =>
        b1 (f1_passDays S10 164 x2) fun S12 =>
        gd (inb x1 7) <|
        nm ((gi S12 (195 + 164) (ix x1)) : Int32) fun v14 =>
        b2 (f1_shareOut S12 164) fun v16 S17 =>
        gd (inb x1 7) <|
        nm (ui S17 0 9 (gi S17 (195 + 164) (ix x1))) fun S19 =>
        some (v14, S19)
      else
        some ((-1), S)
def f3_when_b25 : Nat → Mem → Int32 → Int32 → Int32 → Option (Int32 × Mem)
  | 0, _, _, _, _ => none
  | n + 1, S, x1, x2, x3 => if 60 < x3 then
      some ((-9), S)
    else
      b1 (f0_jarBehind S x1 x2 x3) fun v3 =>
      b1 (f0_comesOff S x1 v3) fun v5 =>
      if v5 = 0 then
        nm (x3 + 1 : Int32) fun v7 =>
        (f3_when_b25 n) S x1 x2 v7
      else
        gd (inb x1 7) <|
        b1 (f3_worthTo (gi S 16 (ix x1)) v3) fun v10 =>
        nm (ui S 0 9 v10) fun S11 =>
        some (x3, S11)
def f3_when (S : Mem) (x1 : Int32) : Option (Int32 × Mem) :=
  b1 (f3_isHouse S x1) fun v2 =>
  if v2 = 0 then
    some ((-1), S)
  else
    b1 (f2_now S 0) fun q5 =>
    gd (decide (q5 < 165)) <|
    gd (inb x1 7) <|
    nm ((gi S (195 + q5) (ix x1)) : Int32) fun v8 =>
    f3_when_b25 FU S x1 v8 0
def f0_leastMore_b2 (S : Mem) : Nat → Int32 → Int32 → Int32 → Option Int32
  | 0, _, _, _ => none
  | n + 1, x1, x2, x3 => if 99 < x3 then
      some (-9)
    else
      b1 (f0_comesOff S x1 x3) fun v3 =>
      if v3 = 0 then
        nm (x3 + 1 : Int32) fun v5 =>
        (f0_leastMore_b2 S n) x1 x2 v5
      else
        some (x3 - x2)
def f0_leastMore (S : Mem) (x1 : Int32) (x2 : Int32) : Option Int32 :=
  f0_leastMore_b2 S FU x1 x2 x2
def f3_lacks (S : Mem) (x1 : Int32) : Option (Int32 × Mem) :=
  b1 (f3_isHouse S x1) fun v2 =>
  if v2 = 0 then
    some ((-1), S)
  else
    b1 (f2_now S 0) fun q5 =>
    gd (decide (q5 < 165)) <|
    gd (inb x1 7) <|
    nm ((gi S (195 + q5) (ix x1)) : Int32) fun v8 =>
    b1 (f0_leastMore S x1 v8) fun v10 =>
    if v10 = (-9) then
      some (v10, S)
    else
      gd (inb x1 7) <|
      b1 (f3_worthTo (gi S 16 (ix x1)) (v8 + v10)) fun v14 =>
      nm (ui S 0 9 v14) fun S15 =>
      some (v10, S15)
def f3_has (x0 : Int32) (x1 : Int32) : Option Int32 :=
  if ((x0 >>> (x1 &&& 31)) &&& 1) = 0 then
    some 0
  else
    some 1
def f3_needOf_b46 (k4 : Int32 → Int32 → Int32 → Option Int32) (S : Mem) (x1 : Int32) (x2 : Int32) (x3 : Int32) : Option Int32 :=
  nm (x3 + 1 : Int32) fun v1 =>
  k4 x1 x2 v1
def f3_needOf_b4 (S : Mem) : Nat → Int32 → Int32 → Int32 → Option Int32
  | 0, _, _, _ => none
  | n + 1, x1, x2, x3 => if (gi S 15 3) ≤ x3 then
      some x2
    else
      b1 (f3_has x1 x3) fun v3 =>
      if v3 = 0 then
        f3_needOf_b46 (f3_needOf_b4 S n) S x1 x2 x3
      else
        gd (inb x3 7) <|
        if (gi S 20 (ix x3)) = (-9) then
          some (-9)
        else
          gd (inb x3 7) <|
          nm ((x2 + (gi S 20 (ix x3))) : Int32) fun v8 =>
          f3_needOf_b46 (f3_needOf_b4 S n) S x1 v8 x3
def f3_needOf (S : Mem) (x1 : Int32) : Option Int32 :=
  f3_needOf_b4 S FU x1 0 0
def f3_share_b123 (k67 : Mem → Nat → Int32 → Int32 → Int32 → Option (Int32 × Mem)) (S : Mem) (q1 : Nat) (x2 : Int32) (x3 : Int32) (x4 : Int32) : Option (Int32 × Mem) :=
  nm (x4 + 1 : Int32) fun v1 =>
  k67 S q1 x2 x3 v1
def f3_share_b67 : Nat → Mem → Nat → Int32 → Int32 → Int32 → Option (Int32 × Mem)
  | 0, _, _, _, _, _ => none
  | n + 1, S, q1, x2, x3, x4 => if (1 <<< ((gi S 15 3) &&& 31)) ≤ x4 then
      nm (ui S 0 9 x3) fun S2 =>
      some (x2, S2)
    else
      b1 (f3_needOf S x4) fun v4 =>
      if v4 = (-9) then
        f3_share_b123 (f3_share_b67 n) S q1 x2 x3 x4
      else
        if (gi S (30 + q1) 2) < v4 then
          f3_share_b123 (f3_share_b67 n) S q1 x2 x3 x4
        else
          b1 (f6_bitCount x4) fun v8 =>
          b1 (f6_bitCount x2) fun v10 =>
          if v8 ≤ v10 then
            f3_share_b123 (f3_share_b67 n) S q1 x2 x3 x4
          else
            f3_share_b123 (f3_share_b67 n) S q1 x4 v4 x4
def f3_share_b23 : Nat → Mem → Nat → Int32 → Option (Int32 × Mem)
  | 0, _, _, _ => none
  | n + 1, S, q1, x2 => if (gi S 15 3) ≤ x2 then
      f3_share_b67 FU S q1 0 0 1
    else
      gd (inb x2 7) <|
      b1 (f0_leastMore S x2 (gi S (195 + q1) (ix x2))) fun v4 =>
      gd (inb x2 7) <|
      nm (ui S 20 (ix x2) v4) fun S6 =>
      nm (x2 + 1 : Int32) fun v7 =>
      (f3_share_b23 n) S6 q1 v7
def f3_share (S : Mem) : Option (Int32 × Mem) :=
  if (gi S 15 3) = 0 then
    some ((-4), S)
  else
    b1 (f2_now S 0) fun q3 =>
    gd (decide (q3 < 165)) <|
    f3_share_b23 FU S q3 0
def f3_best_b90 (k19 : Mem → Int32 → Int32 → Int32 → Option (Int32 × Mem)) (S : Mem) (x1 : Int32) (x2 : Int32) (x3 : Int32) : Option (Int32 × Mem) :=
  nm (x3 + 1 : Int32) fun v1 =>
  k19 S x1 x2 v1
def f3_best_b19 : Nat → Mem → Int32 → Int32 → Int32 → Option (Int32 × Mem)
  | 0, _, _, _, _ => none
  | n + 1, S, x1, x2, x3 => if 20 < x3 then
      nm (ui S 0 9 x2) fun S2 =>
      some (x1, S2)
    else
      b1 (f2_now S 0) fun q4 =>
      gd (decide (q4 < 165)) <|
      b1 (f1_become S 164 q4) fun S7 =>
      b1 (f1_passDays S7 164 x3) fun S9 =>
      b2 (f1_shareOut S9 164) fun v11 S12 =>
      b1 (f1_worksOff S12 164) fun v14 =>
      b1 (f6_bitCount v14) fun v16 =>
      if v16 ≤ x2 then
        f3_best_b90 (f3_best_b19 n) S12 x1 x2 x3
      else
        f3_best_b90 (f3_best_b19 n) S12 x3 v16 x3
def f3_best (S : Mem) : Option (Int32 × Mem) :=
  if (gi S 15 3) = 0 then
    some ((-4), S)
  else
    f3_best_b19 FU S 0 (-1) 0
def f3_worksByLending (S : Mem) (x1 : Int32) (x2 : Int32) (x3 : Int32) : Option (Int32 × Mem) :=
  b1 (f2_now S 0) fun q2 =>
  gd (decide (q2 < 165)) <|
  if x1 = x2 then
    some ((-9), S)
  else
    gd (inb x1 7) <|
    if x3 ≤ (gi S (195 + q2) (ix x1)) then
      b1 (f1_become S 164 q2) fun S8 =>
      b1 (f1_pass S8 164 x1 x2 x3) fun S10 =>
      b1 (f1_worksOff S10 164) fun v12 =>
      b1 (f6_bitCount v12) fun v14 =>
      some (v14, S10)
    else
      some ((-9), S)
def f3_lending_b102 (k46 : Mem → Int32 → Int32 → Int32 → Int32 → Option (Int32 × Mem)) (k61 : Mem → Int32 → Int32 → Int32 → Int32 → Int32 → Option (Int32 × Mem)) (S : Mem) (x1 : Int32) (x2 : Int32) (x3 : Int32) (x4 : Int32) (x5 : Int32) : Option (Int32 × Mem) :=
  nm (x5 + 1 : Int32) fun v1 =>
  k61 S x1 x2 x3 x4 v1
def f3_lending_b61 (k46 : Mem → Int32 → Int32 → Int32 → Int32 → Option (Int32 × Mem)) : Nat → Mem → Int32 → Int32 → Int32 → Int32 → Int32 → Option (Int32 × Mem)
  | 0, _, _, _, _, _, _ => none
  | n + 1, S, x1, x2, x3, x4, x5 => if (gi S 15 3) ≤ x5 then
      nm (x4 + 1 : Int32) fun v2 =>
      k46 S x1 x2 x3 v2
    else
      b2 (f3_worksByLending S x4 x5 x1) fun v4 S5 =>
      if v4 ≤ x2 then
        f3_lending_b102 k46 (f3_lending_b61 k46 n) S5 x1 x2 x3 x4 x5
      else
        nm (((10 * x4) + x5) : Int32) fun v7 =>
        f3_lending_b102 k46 (f3_lending_b61 k46 n) S5 x1 v4 v7 x4 x5
def f3_lending_b46 : Nat → Mem → Int32 → Int32 → Int32 → Int32 → Option (Int32 × Mem)
  | 0, _, _, _, _, _ => none
  | n + 1, S, x1, x2, x3, x4 => if (gi S 15 3) ≤ x4 then
      if x3 = (-9) then
        some (x3, S)
      else
        nm (ui S 0 9 x2) fun S3 =>
        some (x3, S3)
    else
      f3_lending_b61 (f3_lending_b46 n) FU S x1 x2 x3 x4 0
def f3_lending (S : Mem) (x1 : Int32) : Option (Int32 × Mem) :=
  b1 (f3_isCup x1) fun v2 =>
  if v2 = 0 then
    some ((-1), S)
  else
    if (gi S 15 3) = 0 then
      some ((-4), S)
    else
      b1 (f2_now S 0) fun q6 =>
      gd (decide (q6 < 165)) <|
      b1 (f1_worksOff S q6) fun v9 =>
      b1 (f6_bitCount v9) fun v11 =>
      f3_lending_b46 FU S x1 v11 (-9) 0
def f3_broughtWithGreedy_b48 (k13 : Int32 → Nat → Int32 → Int32 → Option Int32) (S : Mem) (x1 : Int32) (q2 : Nat) (x3 : Int32) (x4 : Int32) (t0 : Int32) : Option Int32 :=
  gd (inb x4 7) <|
  b1 (f3_broughtBy t0 (gi S (195 + q2) (ix x4)) (gi S (30 + q2) 1)) fun v3 =>
  nm ((x3 + v3) : Int32) fun v4 =>
  nm (x4 + 1 : Int32) fun v5 =>
  k13 x1 q2 v4 v5
def f3_broughtWithGreedy_b13 (S : Mem) : Nat → Int32 → Nat → Int32 → Int32 → Option Int32
  | 0, _, _, _, _ => none
  | n + 1, x1, q2, x3, x4 => if (gi S 15 3) ≤ x4 then
      some x3
    else
      b1 (f3_has x1 x4) fun v3 =>
      if v3 = 0 then
        gd (inb x4 7) <|
        f3_broughtWithGreedy_b48 (f3_broughtWithGreedy_b13 S n) S x1 q2 x3 x4 (gi S 16 (ix x4))
      else
        f3_broughtWithGreedy_b48 (f3_broughtWithGreedy_b13 S n) S x1 q2 x3 x4 3
def f3_broughtWithGreedy (S : Mem) (x1 : Int32) : Option Int32 :=
  b1 (f2_now S 0) fun q2 =>
  gd (decide (q2 < 165)) <|
  f3_broughtWithGreedy_b13 S FU x1 q2 0 0
def f3_tellLeast (S : Mem) (x1 : Int32) (x2 : Int32) : Option (Int32 × Mem) :=
  if x1 = 0 then
    some ((-9), S)
  else
    nm (ui S 0 9 x2) fun S2 =>
    some (x1, S2)
def f3_greedy_b74 (k34 : Mem → Int32 → Int32 → Int32 → Int32 → Option (Int32 × Mem)) (S : Mem) (x1 : Int32) (x2 : Int32) (x3 : Int32) (x4 : Int32) : Option (Int32 × Mem) :=
  nm (x4 + 1 : Int32) fun v1 =>
  k34 S x1 x2 x3 v1
def f3_greedy_b73 (k34 : Mem → Int32 → Int32 → Int32 → Int32 → Option (Int32 × Mem)) (S : Mem) (x1 : Int32) (x2 : Int32) (x4 : Int32) (t0 : Int32) : Option (Int32 × Mem) :=
  f3_greedy_b74 k34 S x1 x2 t0 x4
def f3_greedy_b34 : Nat → Mem → Int32 → Int32 → Int32 → Int32 → Option (Int32 × Mem)
  | 0, _, _, _, _, _ => none
  | n + 1, S, x1, x2, x3, x4 => if (1 <<< ((gi S 15 3) &&& 31)) ≤ x4 then
      b2 (f3_tellLeast S x2 x3) fun v3 S4 =>
      some (v3, S4)
    else
      b1 (f3_broughtWithGreedy S x4) fun v6 =>
      if v6 = x1 then
        nm (x2 + 1 : Int32) fun v8 =>
        if x3 = (-9) then
          f3_greedy_b73 (f3_greedy_b34 n) S x1 v8 x4 x4
        else
          f3_greedy_b73 (f3_greedy_b34 n) S x1 v8 x4 x3
      else
        f3_greedy_b74 (f3_greedy_b34 n) S x1 x2 x3 x4
def f3_greedy (S : Mem) (x1 : Int32) : Option (Int32 × Mem) :=
  if x1 < 0 then
    some ((-1), S)
  else
    if x1 ≤ 999 then
      if (gi S 15 3) = 0 then
        some ((-4), S)
      else
        f3_greedy_b34 FU S x1 0 (-9) 0
    else
      some ((-1), S)
def f3_pairsRefusal_b96 (S : Mem) : Option (Int32 × Mem) :=
  b2 (f3_foundThat S 3) fun v2 S3 =>
  some (v2, S3)
def f3_pairsRefusal_b68 (k42 : Mem → Int32 → Int32 → Option (Int32 × Mem)) (S : Mem) (x2 : Int32) (x4 : Int32) (t0 : Int32) : Option (Int32 × Mem) :=
  gd (inb x2 6) <|
  gd (inb x4 40) <|
  if (gi S (2 + (ix x2)) (ix x4)) < 0 then
    f3_pairsRefusal_b96 S
  else
    gd (inb x2 6) <|
    gd (inb x4 40) <|
    if (gi S (2 + (ix x2)) (ix x4)) ≤ t0 then
      nm (x4 + 1 : Int32) fun v7 =>
      k42 S x2 v7
    else
      f3_pairsRefusal_b96 S
def f3_pairsRefusal_b42 : Nat → Mem → Int32 → Int32 → Option (Int32 × Mem)
  | 0, _, _, _ => none
  | n + 1, S, x2, x4 => gd (inb x2 6) <|
    if (gi S 8 (ix x2)) ≤ x4 then
      some (0, S)
    else
      if (x4 - x4 / 2 * 2) = 0 then
        f3_pairsRefusal_b68 (f3_pairsRefusal_b42 n) S x2 x4 99
      else
        f3_pairsRefusal_b68 (f3_pairsRefusal_b42 n) S x2 x4 300
def f3_pairsRefusal (S : Mem) (x1 : Int32) (x2 : Int32) : Option (Int32 × Mem) :=
  b1 (f3_isHouse S x1) fun v2 =>
  if v2 = 0 then
    some ((-1), S)
  else
    b2 (f3_rowRefusal S x2) fun v5 S6 =>
    if v5 = 0 then
      gd (inb x2 6) <|
      if ((gi S6 8 (ix x2)) - (gi S6 8 (ix x2)) / 2 * 2) = 0 then
        f3_pairsRefusal_b42 FU S6 x2 0
      else
        b2 (f3_foundThat S6 5) fun v11 S12 =>
        some (v11, S12)
    else
      some (v5, S6)
def f3_kindsByPairs_b70 (k4 : Nat → Nat → Int32 → Int32 → Int32 → Option Int32) (S : Mem) (a0 : Nat) (a0n : Nat) (x1 : Int32) (x2 : Int32) (x3 : Int32) : Option Int32 :=
  nm (x3 + 1 : Int32) fun v1 =>
  k4 a0 a0n x1 x2 v1
def f3_kindsByPairs_b51 (k4 : Nat → Nat → Int32 → Int32 → Int32 → Option Int32) (k16 : Nat → Nat → Int32 → Int32 → Int32 → Int32 → Int32 → Option Int32) (S : Mem) (a0 : Nat) (a0n : Nat) (x1 : Int32) (x2 : Int32) (x3 : Int32) (x5 : Int32) (t0 : Int32) : Option Int32 :=
  nm (x5 + 2 : Int32) fun v1 =>
  k16 a0 a0n x1 x2 x3 t0 v1
def f3_kindsByPairs_b50 (k4 : Nat → Nat → Int32 → Int32 → Int32 → Option Int32) (k16 : Nat → Nat → Int32 → Int32 → Int32 → Int32 → Int32 → Option Int32) (S : Mem) (a0 : Nat) (a0n : Nat) (x1 : Int32) (x2 : Int32) (x3 : Int32) (x5 : Int32) : Option Int32 :=
  f3_kindsByPairs_b51 k4 k16 S a0 a0n x1 x2 x3 x5 0
def f3_kindsByPairs_b16 (k4 : Nat → Nat → Int32 → Int32 → Int32 → Option Int32) (S : Mem) : Nat → Nat → Nat → Int32 → Int32 → Int32 → Int32 → Int32 → Option Int32
  | 0, _, _, _, _, _, _, _ => none
  | n + 1, a0, a0n, x1, x2, x3, x4, x5 => if x1 ≤ (x5 + 1) then
      if x4 = 0 then
        f3_kindsByPairs_b70 k4 S a0 a0n x1 x2 x3
      else
        nm ((x2 ||| (1 <<< (x3 &&& 31))) : Int32) fun v3 =>
        f3_kindsByPairs_b70 k4 S a0 a0n x1 v3 x3
    else
      if x4 = 0 then
        f3_kindsByPairs_b50 k4 (f3_kindsByPairs_b16 k4 S n) S a0 a0n x1 x2 x3 x5
      else
        gd (inb x5 a0n) <|
        b1 (f3_worthTo x3 (gi S a0 (ix x5))) fun v7 =>
        gd (inb (x5 + 1) a0n) <|
        if v7 = (gi S a0 (ix (x5 + 1))) then
          f3_kindsByPairs_b51 k4 (f3_kindsByPairs_b16 k4 S n) S a0 a0n x1 x2 x3 x5 1
        else
          f3_kindsByPairs_b50 k4 (f3_kindsByPairs_b16 k4 S n) S a0 a0n x1 x2 x3 x5
def f3_kindsByPairs_b4 (S : Mem) : Nat → Nat → Nat → Int32 → Int32 → Int32 → Option Int32
  | 0, _, _, _, _, _ => none
  | n + 1, a0, a0n, x1, x2, x3 => if 6 ≤ x3 then
      some x2
    else
      f3_kindsByPairs_b16 (f3_kindsByPairs_b4 S n) S FU a0 a0n x1 x2 x3 1 0
def f3_kindsByPairs (S : Mem) (a0 : Nat) (a0n : Nat) (x1 : Int32) : Option Int32 :=
  f3_kindsByPairs_b4 S FU a0 a0n x1 0 0
def f3_kinds (S : Mem) (x1 : Int32) (x2 : Int32) : Option (Int32 × Mem) :=
  b2 (f3_pairsRefusal S x1 x2) fun v2 S3 =>
  if v2 = 0 then
    gd (inb x2 6) <|
    gd (inb x2 6) <|
    b1 (f3_kindsByPairs S3 (2 + (ix x2)) 40 (gi S3 8 (ix x2))) fun v8 =>
    some (v8, S3)
  else
    some (v2, S3)
def f3_partAlike_b34 (k5 : Int32 → Int32 → Int32 → Int32 → Int32 → Option Int32) (x0 : Int32) (x1 : Int32) (x2 : Int32) (x3 : Int32) (x4 : Int32) : Option Int32 :=
  nm (x4 + 1 : Int32) fun v1 =>
  k5 x0 x1 x2 x3 v1
def f3_partAlike_b5 : Nat → Int32 → Int32 → Int32 → Int32 → Int32 → Option Int32
  | 0, _, _, _, _, _ => none
  | n + 1, x0, x1, x2, x3, x4 => if 6 ≤ x4 then
      some x3
    else
      b1 (f3_has x0 x4) fun v3 =>
      if v3 = 0 then
        f3_partAlike_b34 (f3_partAlike_b5 n) x0 x1 x2 x3 x4
      else
        b1 (f3_worthTo x4 x1) fun v6 =>
        if v6 = x2 then
          nm (x3 + 1 : Int32) fun v8 =>
          f3_partAlike_b34 (f3_partAlike_b5 n) x0 x1 x2 v8 x4
        else
          f3_partAlike_b34 (f3_partAlike_b5 n) x0 x1 x2 x3 x4
def f3_partAlike (x0 : Int32) (x1 : Int32) (x2 : Int32) : Option Int32 :=
  f3_partAlike_b5 FU x0 x1 x2 0 0
def f3_greatestPart_b33 (k4 : Int32 → Int32 → Int32 → Int32 → Option Int32) (x0 : Int32) (x1 : Int32) (x2 : Int32) (x3 : Int32) : Option Int32 :=
  nm (x3 + 1 : Int32) fun v1 =>
  k4 x0 x1 x2 v1
def f3_greatestPart_b4 : Nat → Int32 → Int32 → Int32 → Int32 → Option Int32
  | 0, _, _, _, _ => none
  | n + 1, x0, x1, x2, x3 => if 6 ≤ x3 then
      some x2
    else
      b1 (f3_has x0 x3) fun v3 =>
      if v3 = 0 then
        f3_greatestPart_b33 (f3_greatestPart_b4 n) x0 x1 x2 x3
      else
        b1 (f3_worthTo x3 x1) fun v6 =>
        b1 (f3_partAlike x0 x1 v6) fun v8 =>
        nm ((mx x2 v8) : Int32) fun v9 =>
        f3_greatestPart_b33 (f3_greatestPart_b4 n) x0 x1 v9 x3
def f3_greatestPart (x0 : Int32) (x1 : Int32) : Option Int32 :=
  f3_greatestPart_b4 FU x0 x1 0 0
def f3_test_b79 (k48 : Mem → Int32 → Int32 → Int32 → Int32 → Option (Int32 × Mem)) (S : Mem) (x4 : Int32) (x5 : Int32) (x6 : Int32) (x7 : Int32) : Option (Int32 × Mem) :=
  nm (x7 + 1 : Int32) fun v1 =>
  k48 S x4 x5 x6 v1
def f3_test_b48 : Nat → Mem → Int32 → Int32 → Int32 → Int32 → Option (Int32 × Mem)
  | 0, _, _, _, _, _ => none
  | n + 1, S, x4, x5, x6, x7 => if 99 < x7 then
      nm (ui S 0 9 x5) fun S2 =>
      some (x6, S2)
    else
      b1 (f3_greatestPart x4 x7) fun v4 =>
      if x5 ≤ v4 then
        f3_test_b79 (f3_test_b48 n) S x4 x5 x6 x7
      else
        f3_test_b79 (f3_test_b48 n) S x4 v4 x7 x7
def f3_test (S : Mem) (x1 : Int32) (x2 : Int32) : Option (Int32 × Mem) :=
  b2 (f3_pairsRefusal S x1 x2) fun v2 S3 =>
  if v2 = 0 then
    gd (inb x2 6) <|
    gd (inb x2 6) <|
    b1 (f3_kindsByPairs S3 (2 + (ix x2)) 40 (gi S3 8 (ix x2))) fun v8 =>
    if v8 = 0 then
      some ((-9), S3)
    else
      f3_test_b48 FU S3 v8 7 0 0
  else
    some (v2, S3)
def f3_jars_b74 (k30 : Mem → Int32 → Int32 → Int32 → Int32 → Int32 → Option (Int32 × Mem)) (S : Mem) (x1 : Int32) (x2 : Int32) (x3 : Int32) (x4 : Int32) (x5 : Int32) : Option (Int32 × Mem) :=
  nm (x5 + 1 : Int32) fun v1 =>
  k30 S x1 x2 x3 x4 v1
def f3_jars_b72 (k30 : Mem → Int32 → Int32 → Int32 → Int32 → Int32 → Option (Int32 × Mem)) (S : Mem) (x1 : Int32) (x2 : Int32) (x3 : Int32) (x5 : Int32) (t0 : Int32) : Option (Int32 × Mem) :=
  f3_jars_b74 k30 S x1 x2 x3 t0 x5
def f3_jars_b30 : Nat → Mem → Int32 → Int32 → Int32 → Int32 → Int32 → Option (Int32 × Mem)
  | 0, _, _, _, _, _, _ => none
  | n + 1, S, x1, x2, x3, x4, x5 => if 99 < x5 then
      b2 (f3_tellLeast S x3 x4) fun v3 S4 =>
      some (v3, S4)
    else
      gd (inb x1 7) <|
      b1 (f3_worthTo (gi S 16 (ix x1)) x5) fun v7 =>
      if v7 = x2 then
        nm (x3 + 1 : Int32) fun v9 =>
        if x4 = (-9) then
          f3_jars_b72 (f3_jars_b30 n) S x1 x2 v9 x5 x5
        else
          f3_jars_b72 (f3_jars_b30 n) S x1 x2 v9 x5 x4
      else
        f3_jars_b74 (f3_jars_b30 n) S x1 x2 x3 x4 x5
def f3_jars (S : Mem) (x1 : Int32) (x2 : Int32) : Option (Int32 × Mem) :=
  b1 (f3_isHouse S x1) fun v2 =>
  if v2 = 0 then
    some ((-1), S)
  else
    if x2 < 0 then
      some ((-1), S)
    else
      if x2 ≤ 300 then
        f3_jars_b30 FU S x1 x2 0 (-9) 0
      else
        some ((-1), S)
def f3_takenByTurn (x0 : Int32) (x1 : Int32) : Option Int32 :=
  some (mn 9 (mn x1 (99 - x0)))
def f3_leftByTurn (x0 : Int32) : Option Int32 :=
  some (mn 9 x0)
def f3_lead : Nat → Int32 → Int32 → Int32 → Int32 → Int32 → Int32 → Option Int32
  | 0, _, _, _, _, _, _ => none
  | n0 + 1, x0, x1, x2, x3, x4, x5 => if 0 < x5 then
      b1 (f3_takenByTurn x1 x4) fun v3 =>
      b1 (f3_leftByTurn x1) fun v5 =>
      b1 (f3_lead n0 x2 x3 x0 x1 x4 (x5 - 1)) fun v7 =>
      nm ((-v7) : Int32) fun v8 =>
      b1 (f3_lead n0 x2 x3 x0 (x1 + v3) (x4 - v3) (x5 - 1)) fun v10 =>
      nm ((mx v8 (-v10)) : Int32) fun v11 =>
      b1 (f3_lead n0 x2 x3 x0 (x1 - v5) (x4 + v5) (x5 - 1)) fun v13 =>
      some (mx v11 (-v13))
    else
      b1 (f3_worthTo x0 x1) fun v15 =>
      b1 (f3_worthTo x2 x3) fun v17 =>
      some (v15 - v17)
def f3_duel (S : Mem) (x1 : Int32) (x2 : Int32) (x3 : Int32) : Option Int32 :=
  b1 (f3_isHouse S x1) fun v2 =>
  if v2 = 0 then
    some (-1)
  else
    b1 (f3_isHouse S x2) fun v5 =>
    if v5 = 0 then
      some (-1)
    else
      if x1 = x2 then
        some (-1)
      else
        if x3 < 0 then
          some (-1)
        else
          if x3 ≤ 6 then
            b1 (f2_now S 0) fun q11 =>
            gd (decide (q11 < 165)) <|
            gd (inb x1 7) <|
            gd (inb x1 7) <|
            gd (inb x2 7) <|
            gd (inb x2 7) <|
            b1 (f3_lead 8 (gi S 16 (ix x1)) (gi S (195 + q11) (ix x1)) (gi S 16 (ix x2)) (gi S (195 + q11) (ix x2)) (gi S (30 + q11) 2) x3) fun v18 =>
            some (500 + v18)
          else
            some (-1)
def f3_isTwelfths (x0 : Int32) : Option Int32 :=
  if x0 < 0 then
    some 0
  else
    if 12 < x0 then
      some 0
    else
      some 1
def f3_partOf_b37 (k5 : Int32 → Int32 → Int64 → Int32 → Option Int64) (S : Mem) (x1 : Int32) (x2 : Int32) (x5 : Int32) (t0 : Int64) (t1 : Int64) : Option Int64 :=
  nm ((t0 * t1) : Int64) fun v1 =>
  nm (x5 + 1 : Int32) fun v2 =>
  k5 x1 x2 v1 v2
def f3_partOf_b5 (S : Mem) : Nat → Int32 → Int32 → Int64 → Int32 → Option Int64
  | 0, _, _, _, _ => none
  | n + 1, x1, x2, x3, x5 => if (gi S 15 3) ≤ x5 then
      some x3
    else
      b1 (f3_has x1 x5) fun v3 =>
      if v3 = 0 then
        f3_partOf_b37 (f3_partOf_b5 S n) S x1 x2 x5 x3 (Int32.toInt64 (12 - x2))
      else
        f3_partOf_b37 (f3_partOf_b5 S n) S x1 x2 x5 x3 (Int32.toInt64 x2)
def f3_partOf (S : Mem) (x1 : Int32) (x2 : Int32) : Option Int64 :=
  f3_partOf_b5 S FU x1 x2 1 0
def f3_worksWithIdle_b74 (k13 : Int32 → Nat → Int32 → Int32 → Option Int32) (S : Mem) (x1 : Int32) (q2 : Nat) (x3 : Int32) (x4 : Int32) : Option Int32 :=
  nm (x4 + 1 : Int32) fun v1 =>
  k13 x1 q2 x3 v1
def f3_worksWithIdle_b39 (k13 : Int32 → Nat → Int32 → Int32 → Option Int32) (S : Mem) (x1 : Int32) (q2 : Nat) (x3 : Int32) (x4 : Int32) (t0 : Int32) : Option Int32 :=
  gd (inb x4 7) <|
  b1 (f0_jarBehind S x4 (gi S (195 + q2) (ix x4)) t0) fun v3 =>
  b1 (f0_comesOff S x4 v3) fun v5 =>
  if v5 = 0 then
    f3_worksWithIdle_b74 k13 S x1 q2 x3 x4
  else
    nm (x3 + 1 : Int32) fun v7 =>
    f3_worksWithIdle_b74 k13 S x1 q2 v7 x4
def f3_worksWithIdle_b13 (S : Mem) : Nat → Int32 → Nat → Int32 → Int32 → Option Int32
  | 0, _, _, _, _ => none
  | n + 1, x1, q2, x3, x4 => if (gi S 15 3) ≤ x4 then
      some x3
    else
      b1 (f3_has x1 x4) fun v3 =>
      if v3 = 0 then
        f3_worksWithIdle_b39 (f3_worksWithIdle_b13 S n) S x1 q2 x3 x4 1
      else
        f3_worksWithIdle_b39 (f3_worksWithIdle_b13 S n) S x1 q2 x3 x4 0
def f3_worksWithIdle (S : Mem) (x1 : Int32) : Option Int32 :=
  b1 (f2_now S 0) fun q2 =>
  gd (decide (q2 < 165)) <|
  f3_worksWithIdle_b13 S FU x1 q2 0 0
def f3_greatestCommon_b9 : Nat → Int64 → Int64 → Int32 → Option Int64
  | 0, _, _, _ => none
  | n + 1, x4, x6, x8 => if 100 ≤ x8 then
      some x4
    else
      if (lg_cmp x6 0) = 0 then
        some x4
      else
        gd (decide (¬ x6 = 0)) <|
        nm ((x4 - x4 / x6 * x6) : Int64) fun v4 =>
        nm (x8 + 1 : Int32) fun v5 =>
        (f3_greatestCommon_b9 n) x6 v4 v5
def f3_greatestCommon (x0 : Int64) (x2 : Int64) : Option Int64 :=
  f3_greatestCommon_b9 FU x0 x2 0
def f3_tellChance (S : Mem) (x1 : Int64) (x3 : Int64) : Option (Int32 × Mem) :=
  b1 (f3_greatestCommon x1 x3) fun v2 =>
  if (lg_cmp v2 0) = 0 then
    some ((-9), S)
  else
    gd (decide (¬ v2 = 0)) <|
    nm (ul S 0 (x1 / v2)) fun S5 =>
    gd (decide (¬ v2 = 0)) <|
    nm (ul S5 1 (x3 / v2)) fun S7 =>
    some (1, S7)
def f3_odds_b85 (k40 : Mem → Int32 → Int32 → Int64 → Int64 → Int32 → Option (Int32 × Mem)) (S : Mem) (x1 : Int32) (x2 : Int32) (x3 : Int64) (x5 : Int64) (x7 : Int32) : Option (Int32 × Mem) :=
  nm (x7 + 1 : Int32) fun v1 =>
  k40 S x1 x2 x3 x5 v1
def f3_odds_b40 : Nat → Mem → Int32 → Int32 → Int64 → Int64 → Int32 → Option (Int32 × Mem)
  | 0, _, _, _, _, _, _ => none
  | n + 1, S, x1, x2, x3, x5, x7 => if (1 <<< ((gi S 15 3) &&& 31)) ≤ x7 then
      b2 (f3_tellChance S x3 x5) fun v3 S4 =>
      some (v3, S4)
    else
      b1 (f3_partOf S x7 x2) fun v6 =>
      nm ((x5 + v6) : Int64) fun v7 =>
      b1 (f3_worksWithIdle S x7) fun v9 =>
      if v9 < x1 then
        f3_odds_b85 (f3_odds_b40 n) S x1 x2 x3 v7 x7
      else
        nm ((x3 + v6) : Int64) fun v11 =>
        f3_odds_b85 (f3_odds_b40 n) S x1 x2 v11 v7 x7
def f3_odds (S : Mem) (x1 : Int32) (x2 : Int32) : Option (Int32 × Mem) :=
  if x1 < 0 then
    some ((-1), S)
  else
    if 7 < x1 then
      some ((-1), S)
    else
      b1 (f3_isTwelfths x2) fun v4 =>
      if v4 = 0 then
        some ((-1), S)
      else
        if (gi S 15 3) = 0 then
          some ((-4), S)
        else
          f3_odds_b40 FU S x1 x2 0 0 0
def f3_mid_b97 (k26 : Mem → Int32 → Int32 → Int32 → Option (Int32 × Mem)) (S : Mem) (x1 : Int32) (x2 : Int32) (x3 : Int32) : Option (Int32 × Mem) :=
  nm (x3 + 1 : Int32) fun v1 =>
  k26 S x1 x2 v1
def f3_mid_b68 (k26 : Mem → Int32 → Int32 → Int32 → Option (Int32 × Mem)) (S : Mem) (x1 : Int32) (x2 : Int32) (x3 : Int32) (x4 : Int32) : Option (Int32 × Mem) :=
  b1 (f0_jarBehind S x3 x4 1) fun v2 =>
  b1 (f0_comesOff S x3 v2) fun v4 =>
  if v4 = 0 then
    f3_mid_b97 k26 S x1 x2 x3
  else
    nm ((x2 + (12 - x1)) : Int32) fun v6 =>
    f3_mid_b97 k26 S x1 v6 x3
def f3_mid_b26 : Nat → Mem → Int32 → Int32 → Int32 → Option (Int32 × Mem)
  | 0, _, _, _, _ => none
  | n + 1, S, x1, x2, x3 => if (gi S 15 3) ≤ x3 then
      b2 (f3_tellChance S (Int32.toInt64 x2) 12) fun v3 S4 =>
      some (v3, S4)
    else
      b1 (f2_now S 0) fun q6 =>
      gd (decide (q6 < 165)) <|
      gd (inb x3 7) <|
      nm ((gi S (195 + q6) (ix x3)) : Int32) fun v9 =>
      b1 (f0_comesOff S x3 v9) fun v11 =>
      if v11 = 0 then
        f3_mid_b68 (f3_mid_b26 n) S x1 x2 x3 v9
      else
        nm ((x2 + x1) : Int32) fun v13 =>
        f3_mid_b68 (f3_mid_b26 n) S x1 v13 x3 v9
def f3_mid (S : Mem) (x1 : Int32) : Option (Int32 × Mem) :=
  b1 (f3_isTwelfths x1) fun v2 =>
  if v2 = 0 then
    some ((-1), S)
  else
    if (gi S 15 3) = 0 then
      some ((-4), S)
    else
      f3_mid_b26 FU S x1 0 0
def f3_doByLot (S : Mem) (q1 : Nat) (x2 : Int32) : Option Mem :=
  if (gi S 15 3) = 0 then
    some S
  else
    gd (decide (¬ (gi S 15 3) = 0)) <|
    nm (((x2 / 8) - (x2 / 8) / (gi S 15 3) * (gi S 15 3)) : Int32) fun v3 =>
    if (x2 - x2 / 8 * 8) = 0 then
      b2 (f1_shareOut S q1) fun v6 S7 =>
      some S7
    else
      if (x2 - x2 / 8 * 8) = 1 then
        gd (inb v3 7) <|
        b1 (f3_leftByTurn (gi S (195 + q1) (ix v3))) fun v11 =>
        b1 (f1_toQuay S q1 v3 v11) fun S13 =>
        some S13
      else
        if (x2 - x2 / 8 * 8) = 2 then
          gd (inb v3 7) <|
          b1 (f3_takenByTurn (gi S (195 + q1) (ix v3)) (gi S (30 + q1) 2)) fun v17 =>
          b1 (f1_toQuay S q1 v3 (-v17)) fun S19 =>
          some S19
        else
          if 99 ≤ (gi S (30 + q1) 1) then
            some S
          else
            b1 (f1_passDays S q1 1) fun S22 =>
            some S22
def f3_lots_b60 : Nat → Mem → Int32 → Int64 → Int32 → Option (Int32 × Mem)
  | 0, _, _, _, _ => none
  | n + 1, S, x1, x3, x5 => if x1 ≤ x5 then
      b1 (f2_now S 0) fun q3 =>
      gd (decide (q3 < 165)) <|
      some ((gi S (30 + q3) 2), S)
    else
      nm (((x3 * 48271) - (x3 * 48271) / 2147483647 * 2147483647) : Int64) fun v5 =>
      b2 (f2_next S 0) fun q7 S8 =>
      gd (decide (q7 < 165)) <|
      b1 (f3_doByLot S8 q7 (Int64.toInt32 v5)) fun S11 =>
      nm (x5 + 1 : Int32) fun v12 =>
      (f3_lots_b60 n) S11 x1 v5 v12
def f3_lots (S : Mem) (x1 : Int32) (x2 : Int32) : Option (Int32 × Mem) :=
  if x1 < 1 then
    some ((-1), S)
  else
    if 20 < x1 then
      some ((-1), S)
    else
      if x2 < 1 then
        some ((-1), S)
      else
        if x2 < 2147483647 then
          if (gi S 15 3) = 0 then
            some ((-4), S)
          else
            if ((gi S (22 + 0) 1) + x1) ≤ 40 then
              nm ((Int32.toInt64 x2) : Int64) fun v7 =>
              f3_lots_b60 FU S x1 v7 0
            else
              some ((-2), S)
        else
          some ((-1), S)
def f3_asked (S : Mem) : Option Int32 :=
  some (gi S 0 9)
def f3_upper (S : Mem) : Option Int64 :=
  some (gl S 0)
def f3_lower (S : Mem) : Option Int64 :=
  some (gl S 1)
def f1_inJars_b4 (S : Mem) : Nat → Nat → Int32 → Int32 → Option Int32
  | 0, _, _, _ => none
  | n + 1, q0, x2, x3 => if (gi S 15 3) ≤ x3 then
      some x2
    else
      gd (inb x3 7) <|
      nm ((x2 + (gi S (195 + q0) (ix x3))) : Int32) fun v3 =>
      nm (x3 + 1 : Int32) fun v4 =>
      (f1_inJars_b4 S n) q0 v3 v4
def f1_inJars (S : Mem) (q0 : Nat) : Option Int32 :=
  f1_inJars_b4 S FU q0 0 0
def f3_thoseThere_b20 (k4 : Nat → Nat → Int32 → Int32 → Option Int32) (S : Mem) (a0 : Nat) (a0n : Nat) (x1 : Int32) (x2 : Int32) : Option Int32 :=
  nm (x2 + 1 : Int32) fun v1 =>
  k4 a0 a0n x1 v1
def f3_thoseThere_b4 (S : Mem) : Nat → Nat → Nat → Int32 → Int32 → Option Int32
  | 0, _, _, _, _ => none
  | n + 1, a0, a0n, x1, x2 => if (nI a0n) ≤ x2 then
      some x1
    else
      gd (inb x2 a0n) <|
      if (gi S a0 (ix x2)) = (-1) then
        f3_thoseThere_b20 (f3_thoseThere_b4 S n) S a0 a0n x1 x2
      else
        nm (x1 + 1 : Int32) fun v4 =>
        f3_thoseThere_b20 (f3_thoseThere_b4 S n) S a0 a0n v4 x2
def f3_thoseThere (S : Mem) (a0 : Nat) (a0n : Nat) : Option Int32 :=
  f3_thoseThere_b4 S FU a0 a0n 0 0
def f3_keptThere_b25 (k4 : Int32 → Int32 → Option Int32) (S : Mem) (x1 : Int32) (x2 : Int32) : Option Int32 :=
  nm (x2 + 1 : Int32) fun v1 =>
  k4 x1 v1
def f3_keptThere_b4 (S : Mem) : Nat → Int32 → Int32 → Option Int32
  | 0, _, _ => none
  | n + 1, x1, x2 => if 3 ≤ x2 then
      some x1
    else
      gd (inb x2 3) <|
      if (gi S (22 + (1 + (ix x2))) 1) = (-1) then
        f3_keptThere_b25 (f3_keptThere_b4 S n) S x1 x2
      else
        nm (x1 + 1 : Int32) fun v4 =>
        f3_keptThere_b25 (f3_keptThere_b4 S n) S v4 x2
def f3_keptThere (S : Mem) : Option Int32 :=
  f3_keptThere_b4 S FU 0 0
def f0_ofKind_b28 (k4 : Int32 → Int32 → Int32 → Option Int32) (S : Mem) (x1 : Int32) (x2 : Int32) (x3 : Int32) : Option Int32 :=
  nm (x3 + 1 : Int32) fun v1 =>
  k4 x1 x2 v1
def f0_ofKind_b4 (S : Mem) : Nat → Int32 → Int32 → Int32 → Option Int32
  | 0, _, _, _ => none
  | n + 1, x1, x2, x3 => if (gi S 15 3) ≤ x3 then
      some x2
    else
      gd (inb x3 7) <|
      b1 (f3_isA (gi S 16 (ix x3)) x1) fun v4 =>
      if v4 = 0 then
        f0_ofKind_b28 (f0_ofKind_b4 S n) S x1 x2 x3
      else
        nm (x2 + 1 : Int32) fun v6 =>
        f0_ofKind_b28 (f0_ofKind_b4 S n) S x1 v6 x3
def f0_ofKind (S : Mem) (x1 : Int32) : Option Int32 :=
  f0_ofKind_b4 S FU x1 0 0
def f3_count (S : Mem) (x1 : Int32) : Option Int32 :=
  b1 (f2_now S 0) fun q2 =>
  gd (decide (q2 < 165)) <|
  if x1 = 0 then
    some (gi S 15 3)
  else
    if x1 = 1 then
      some (gi S (30 + q2) 1)
    else
      if x1 = 2 then
        some (gi S (22 + 0) 1)
      else
        if x1 = 3 then
          some (gi S (30 + q2) 2)
        else
          if x1 = 4 then
            b1 (f1_inJars S q2) fun v10 =>
            some v10
          else
            if x1 = 5 then
              b1 (f1_worksOff S q2) fun v13 =>
              b1 (f6_bitCount v13) fun v15 =>
              some v15
            else
              if x1 = 6 then
                b1 (f1_brought S q2) fun v18 =>
                some v18
              else
                if x1 = 7 then
                  b1 (f3_thoseThere S 8 6) fun v21 =>
                  some v21
                else
                  if x1 = 8 then
                    b1 (f3_thoseThere S 14 4) fun v24 =>
                    some v24
                  else
                    if x1 = 9 then
                      b1 (f3_keptThere S) fun v27 =>
                      some v27
                    else
                      if x1 = 10 then
                        b1 (f0_ofKind S 1) fun v30 =>
                        some v30
                      else
                        if x1 = 11 then
                          b1 (f0_ofKind S 2) fun v33 =>
                          some v33
                        else
                          some (-1)
def f3_finding (S : Mem) : Option Int32 :=
  some (gi S 0 12)
def f3_findings (S : Mem) (x1 : Int32) : Option Int32 :=
  if x1 < 1 then
    some (-1)
  else
    if x1 ≤ 5 then
      gd (inb x1 6) <|
      some (gi S 21 (ix x1))
    else
      some (-1)
def f3_digestRows_b30 (k5 : Int64 → Int32 → Option Int64) (S : Mem) : Nat → Int64 → Int32 → Int32 → Option Int64
  | 0, _, _, _ => none
  | n + 1, x3, x5, x6 => gd (inb x5 6) <|
    if (gi S 8 (ix x5)) ≤ x6 then
      nm (x5 + 1 : Int32) fun v3 =>
      k5 x3 v3
    else
      gd (inb x5 6) <|
      gd (inb x6 40) <|
      nm (((31 * x3) + (Int32.toInt64 (gi S (2 + (ix x5)) (ix x6)))) : Int64) fun v6 =>
      nm (x6 + 1 : Int32) fun v7 =>
      (f3_digestRows_b30 k5 S n) v6 x5 v7
def f3_digestRows_b5 (S : Mem) : Nat → Int64 → Int32 → Option Int64
  | 0, _, _ => none
  | n + 1, x3, x5 => if 6 ≤ x5 then
      some x3
    else
      gd (inb x5 6) <|
      nm (((31 * x3) + (Int32.toInt64 (gi S 8 (ix x5)))) : Int64) fun v3 =>
      f3_digestRows_b30 (f3_digestRows_b5 S n) S FU v3 x5 0
def f3_digestRows (S : Mem) (x1 : Int64) : Option Int64 :=
  f3_digestRows_b5 S FU x1 0
def f3_digestTexts_b29 (k5 : Int64 → Int32 → Option Int64) (S : Mem) : Nat → Int64 → Int32 → Int32 → Option Int64
  | 0, _, _, _ => none
  | n + 1, x3, x5, x6 => gd (inb x5 4) <|
    if (gi S 14 (ix x5)) ≤ x6 then
      nm (x5 + 1 : Int32) fun v3 =>
      k5 x3 v3
    else
      gd (inb x5 4) <|
      gd (inb x6 60) <|
      nm (((31 * x3) + (Int32.toInt64 (gi S (10 + (ix x5)) (ix x6)))) : Int64) fun v6 =>
      nm (x6 + 1 : Int32) fun v7 =>
      (f3_digestTexts_b29 k5 S n) v6 x5 v7
def f3_digestTexts_b5 (S : Mem) : Nat → Int64 → Int32 → Option Int64
  | 0, _, _ => none
  | n + 1, x3, x5 => if 4 ≤ x5 then
      some x3
    else
      gd (inb x5 4) <|
      nm (((31 * x3) + (Int32.toInt64 (gi S 14 (ix x5)))) : Int64) fun v3 =>
      f3_digestTexts_b29 (f3_digestTexts_b5 S n) S FU v3 x5 0
def f3_digestTexts (S : Mem) (x1 : Int64) : Option Int64 :=
  f3_digestTexts_b5 S FU x1 0
def f3_digest_b83 (S : Mem) : Nat → Int64 → Int32 → Option Int64
  | 0, _, _ => none
  | n + 1, x1, x3 => if 3 ≤ x3 then
      b1 (f3_digestRows S x1) fun v3 =>
      b1 (f3_digestTexts S v3) fun v5 =>
      some v5
    else
      gd (inb x3 3) <|
      nm (((31 * x1) + (Int32.toInt64 (gi S (22 + (1 + (ix x3))) 1))) : Int64) fun v7 =>
      nm (x3 + 1 : Int32) fun v8 =>
      (f3_digest_b83 S n) v7 v8
def f3_digest_b47 (k33 : Int64 → Int32 → Option Int64) (S : Mem) : Nat → Int64 → Int32 → Int32 → Option Int64
  | 0, _, _, _ => none
  | n + 1, x1, x3, x4 => if 7 ≤ x4 then
      nm (x3 + 1 : Int32) fun v2 =>
      k33 x1 v2
    else
      b1 (f3_ofHouse S x3 x4) fun v4 =>
      nm (((31 * x1) + (Int32.toInt64 v4)) : Int64) fun v5 =>
      nm (x4 + 1 : Int32) fun v6 =>
      (f3_digest_b47 k33 S n) v5 x3 v6
def f3_digest_b33 (S : Mem) : Nat → Int64 → Int32 → Option Int64
  | 0, _, _ => none
  | n + 1, x1, x3 => if (gi S 15 3) ≤ x3 then
      f3_digest_b83 S FU x1 0
    else
      f3_digest_b47 (f3_digest_b33 S n) S FU x1 x3 0
def f3_digest_b6 (S : Mem) : Nat → Int64 → Int32 → Option Int64
  | 0, _, _ => none
  | n + 1, x1, x3 => if 12 ≤ x3 then
      f3_digest_b33 S FU x1 0
    else
      b1 (f3_count S x3) fun v3 =>
      nm (((31 * x1) + (Int32.toInt64 v3)) : Int64) fun v4 =>
      nm (x3 + 1 : Int32) fun v5 =>
      (f3_digest_b6 S n) v4 v5
def f3_digest (S : Mem) : Option Int64 :=
  f3_digest_b6 S FU 17 0
