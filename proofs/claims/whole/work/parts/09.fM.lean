/-! THE REFERENCE'S METHODS AS FUNCTIONS: written by wip/whole/gen.py out of the bytecode -/
def f4_in (x0 : Int64) (x2 : Int64) (x4 : Int64) : Option Int32 :=
  if (lg_cmp x0 x2) < 0 then
    some 0
  else
    if 0 < (lg_cmp x0 x4) then
      some 0
    else
      some 1
def f4_finds (S : Mem) (x1 : Int32) : Option (Int32 × Mem) :=
  nm (ui S 0 0 x1) fun S1 =>
  gd (inb x1 6) <|
  gd (inb x1 6) <|
  nm (ui S1 1 (ix x1) ((gi S1 1 (ix x1)) + 1)) fun S4 =>
  some ((-3), S4)
def f4_tells (S : Mem) (x1 : Int32) (x2 : Int32) : Option (Int32 × Mem) :=
  nm (ui S 0 2 x2) fun S1 =>
  some (x1, S1)
def f4_fraction_b6 : Nat → Mem → Int64 → Int64 → Int64 → Int64 → Option (Int32 × Mem)
  | 0, _, _, _, _, _ => none
  | n + 1, S, x1, x3, x5, x7 => if (lg_cmp x7 0) = 0 then
      gd (decide (¬ x5 = 0)) <|
      nm (ul S 0 (x1 / x5)) fun S3 =>
      gd (decide (¬ x5 = 0)) <|
      nm (ul S3 1 (x3 / x5)) fun S5 =>
      some (1, S5)
    else
      gd (decide (¬ x7 = 0)) <|
      nm ((x5 - x5 / x7 * x7) : Int64) fun v7 =>
      (f4_fraction_b6 n) S x1 x3 x7 v7
def f4_fraction (S : Mem) (x1 : Int64) (x3 : Int64) : Option (Int32 × Mem) :=
  f4_fraction_b6 FU S x1 x3 x1 x3
def f4_isRow (x0 : Int32) : Option Int32 :=
  b1 (f4_in (Int32.toInt64 x0) 0 5) fun v2 =>
  gd (decide (v2 = 0 ∨ v2 = 1)) <|
  some v2
def f4_isText (x0 : Int32) : Option Int32 :=
  b1 (f4_in (Int32.toInt64 x0) 0 3) fun v2 =>
  gd (decide (v2 = 0 ∨ v2 = 1)) <|
  some v2
def f4_row_b34 : Nat → Mem → Int32 → Int32 → Int32 → Option (Int32 × Mem)
  | 0, _, _, _, _ => none
  | n + 1, S, x1, x2, x3 => if 40 ≤ x3 then
      some (x2, S)
    else
      gd (inb ((40 * x1) + x3) 240) <|
      nm (ui S 3 (ix ((40 * x1) + x3)) 0) fun S3 =>
      nm (x3 + 1 : Int32) fun v4 =>
      (f4_row_b34 n) S3 x1 x2 v4
def f4_row (S : Mem) (x1 : Int32) (x2 : Int32) : Option (Int32 × Mem) :=
  b1 (f4_isRow x1) fun v2 =>
  if v2 = 0 then
    some ((-1), S)
  else
    if x2 ≤ 40 then
      if 0 ≤ x2 then
        gd (inb x1 6) <|
        nm (ui S 2 (ix x1) x2) fun S7 =>
        f4_row_b34 FU S7 x1 x2 0
      else
        b2 (f4_finds S 5) fun v9 S10 =>
        some (v9, S10)
    else
      some ((-1), S)
def f4_why (S : Mem) (x1 : Int32) (x2 : Int32) : Option (Int32 × Mem) :=
  b1 (f4_isRow x1) fun v2 =>
  if v2 = 0 then
    some ((-1), S)
  else
    gd (inb x1 6) <|
    if 0 ≤ (gi S 2 (ix x1)) then
      gd (inb x1 6) <|
      b1 (f4_in (Int32.toInt64 x2) 0 (Int32.toInt64 ((gi S 2 (ix x1)) - 1))) fun v8 =>
      if v8 = 0 then
        b2 (f4_finds S 2) fun v11 S12 =>
        some (v11, S12)
      else
        some (0, S)
    else
      b2 (f4_finds S 1) fun v14 S15 =>
      some (v14, S15)
def f4_lay (S : Mem) (x1 : Int32) (x2 : Int32) (x3 : Int32) : Option (Int32 × Mem) :=
  b2 (f4_why S x1 x2) fun v2 S3 =>
  if 0 ≤ v2 then
    gd (inb ((40 * x1) + x2) 240) <|
    nm ((gi S3 3 (ix ((40 * x1) + x2))) : Int32) fun v6 =>
    gd (inb ((40 * x1) + x2) 240) <|
    nm (ui S3 3 (ix ((40 * x1) + x2)) x3) fun S8 =>
    b2 (f4_tells S8 1 v6) fun v10 S11 =>
    some (v10, S11)
  else
    some (v2, S3)
def f4_at (S : Mem) (x1 : Int32) (x2 : Int32) : Option (Int32 × Mem) :=
  b2 (f4_why S x1 x2) fun v2 S3 =>
  if 0 ≤ v2 then
    gd (inb ((40 * x1) + x2) 240) <|
    b2 (f4_tells S3 1 (gi S3 3 (ix ((40 * x1) + x2)))) fun v7 S8 =>
    some (v7, S8)
  else
    some (v2, S3)
def f4_tear (S : Mem) (x1 : Int32) : Option (Int32 × Mem) :=
  b1 (f4_isRow x1) fun v2 =>
  if v2 = 0 then
    some ((-1), S)
  else
    gd (inb x1 6) <|
    if 0 ≤ (gi S 2 (ix x1)) then
      gd (inb x1 6) <|
      nm (ui S 2 (ix x1) (-1)) fun S7 =>
      some (1, S7)
    else
      b2 (f4_finds S 1) fun v9 S10 =>
      some (v9, S10)
def f4_copy_b45 (S : Mem) : Option (Int32 × Mem) :=
  b2 (f4_finds S 1) fun v2 S3 =>
  some (v2, S3)
def f4_copy_b95 (S : Mem) : Option (Int32 × Mem) :=
  b2 (f4_finds S 2) fun v2 S3 =>
  some (v2, S3)
def f4_copy_b141 : Nat → Mem → Int32 → Int32 → Int32 → Int32 → Option (Int32 × Mem)
  | 0, _, _, _, _, _ => none
  | n + 1, S, x3, x4, x5, x6 => if x5 ≤ x6 then
      some (1, S)
    else
      gd (inb x6 40) <|
      gd (inb (((40 * x3) + x4) + x6) 240) <|
      nm (ui S 3 (ix (((40 * x3) + x4) + x6)) (gi S 6 (ix x6))) fun S4 =>
      nm (x6 + 1 : Int32) fun v5 =>
      (f4_copy_b141 n) S4 x3 x4 x5 v5
def f4_copy_b104 : Nat → Mem → Int32 → Int32 → Int32 → Int32 → Int32 → Int32 → Option (Int32 × Mem)
  | 0, _, _, _, _, _, _, _ => none
  | n + 1, S, x1, x2, x3, x4, x5, x6 => if x5 ≤ x6 then
      f4_copy_b141 FU S x3 x4 x5 0
    else
      gd (inb (((40 * x1) + x2) + x6) 240) <|
      gd (inb x6 40) <|
      nm (ui S 6 (ix x6) (gi S 3 (ix (((40 * x1) + x2) + x6)))) fun S4 =>
      nm (x6 + 1 : Int32) fun v5 =>
      (f4_copy_b104 n) S4 x1 x2 x3 x4 x5 v5
def f4_copy (S : Mem) (x1 : Int32) (x2 : Int32) (x3 : Int32) (x4 : Int32) (x5 : Int32) : Option (Int32 × Mem) :=
  b1 (f4_isRow x1) fun v2 =>
  if v2 = 0 then
    some ((-1), S)
  else
    b1 (f4_isRow x3) fun v5 =>
    if v5 = 0 then
      some ((-1), S)
    else
      if 0 ≤ x5 then
        gd (inb x1 6) <|
        if (gi S 2 (ix x1)) < 0 then
          f4_copy_b45 S
        else
          gd (inb x3 6) <|
          if 0 ≤ (gi S 2 (ix x3)) then
            if x2 < 0 then
              f4_copy_b95 S
            else
              if x4 < 0 then
                f4_copy_b95 S
              else
                gd (inb x1 6) <|
                if 0 < (lg_cmp ((Int32.toInt64 x2) + (Int32.toInt64 x5)) (Int32.toInt64 (gi S 2 (ix x1)))) then
                  f4_copy_b95 S
                else
                  gd (inb x3 6) <|
                  if (lg_cmp ((Int32.toInt64 x4) + (Int32.toInt64 x5)) (Int32.toInt64 (gi S 2 (ix x3)))) ≤ 0 then
                    f4_copy_b104 FU S x1 x2 x3 x4 x5 0
                  else
                    f4_copy_b95 S
          else
            f4_copy_b45 S
      else
        b2 (f4_finds S 5) fun v19 S20 =>
        some (v19, S20)
def f4_mean_b44 : Nat → Mem → Int32 → Int64 → Int32 → Option (Int32 × Mem)
  | 0, _, _, _, _ => none
  | n + 1, S, x1, x2, x4 => gd (inb x1 6) <|
    if (gi S 2 (ix x1)) ≤ x4 then
      gd (inb x1 6) <|
      gd (decide (¬ (Int32.toInt64 (gi S 2 (ix x1))) = 0)) <|
      b2 (f4_tells S 1 (Int64.toInt32 (x2 / (Int32.toInt64 (gi S 2 (ix x1)))))) fun v6 S7 =>
      some (v6, S7)
    else
      gd (inb ((40 * x1) + x4) 240) <|
      nm ((x2 + (Int32.toInt64 (gi S 3 (ix ((40 * x1) + x4))))) : Int64) fun v9 =>
      nm (x4 + 1 : Int32) fun v10 =>
      (f4_mean_b44 n) S x1 v9 v10
def f4_mean (S : Mem) (x1 : Int32) : Option (Int32 × Mem) :=
  b1 (f4_isRow x1) fun v2 =>
  if v2 = 0 then
    some ((-1), S)
  else
    gd (inb x1 6) <|
    if 0 ≤ (gi S 2 (ix x1)) then
      gd (inb x1 6) <|
      if (gi S 2 (ix x1)) = 0 then
        b2 (f4_finds S 4) fun v9 S10 =>
        some (v9, S10)
      else
        f4_mean_b44 FU S x1 0 0
    else
      b2 (f4_finds S 1) fun v12 S13 =>
      some (v12, S13)
def f4_text_b34 : Nat → Mem → Int32 → Int32 → Int32 → Option (Int32 × Mem)
  | 0, _, _, _, _ => none
  | n + 1, S, x1, x2, x3 => if 60 ≤ x3 then
      some (x2, S)
    else
      gd (inb ((60 * x1) + x3) 240) <|
      nm (ui S 5 (ix ((60 * x1) + x3)) 32) fun S3 =>
      nm (x3 + 1 : Int32) fun v4 =>
      (f4_text_b34 n) S3 x1 x2 v4
def f4_text (S : Mem) (x1 : Int32) (x2 : Int32) : Option (Int32 × Mem) :=
  b1 (f4_isText x1) fun v2 =>
  if v2 = 0 then
    some ((-1), S)
  else
    if x2 ≤ 60 then
      if 0 ≤ x2 then
        gd (inb x1 4) <|
        nm (ui S 4 (ix x1) x2) fun S7 =>
        f4_text_b34 FU S7 x1 x2 0
      else
        b2 (f4_finds S 5) fun v9 S10 =>
        some (v9, S10)
    else
      some ((-1), S)
def f4_put (S : Mem) (x1 : Int32) (x2 : Int32) (x3 : Int32) : Option (Int32 × Mem) :=
  b1 (f4_isText x1) fun v2 =>
  if v2 = 0 then
    some ((-1), S)
  else
    gd (inb x1 4) <|
    if 0 ≤ (gi S 4 (ix x1)) then
      gd (inb x1 4) <|
      b1 (f4_in (Int32.toInt64 x2) 0 (Int32.toInt64 ((gi S 4 (ix x1)) - 1))) fun v8 =>
      if v8 = 0 then
        b2 (f4_finds S 2) fun v15 S16 =>
        some (v15, S16)
      else
        gd (inb ((60 * x1) + x2) 240) <|
        nm ((gi S 5 (ix ((60 * x1) + x2))) : Int32) fun v11 =>
        gd (inb ((60 * x1) + x2) 240) <|
        nm (ui S 5 (ix ((60 * x1) + x2)) (i2b x3)) fun S13 =>
        some ((v11 + 1000), S13)
    else
      b2 (f4_finds S 1) fun v18 S19 =>
      some (v18, S19)
def f4_kindBy (x0 : Int32) : Option Int32 :=
  if x0 = 104 then
    some 0
  else
    if x0 = 119 then
      some 1
    else
      if x0 = 103 then
        some 2
      else
        if x0 = 107 then
          some 3
        else
          if x0 = 111 then
            some 4
          else
            if x0 = 99 then
              some 5
            else
              some (-1)
def f4_reads_b226 (k17 : Mem → Int32 → Int32 → Int32 → Int32 → Option (Int32 × Mem)) (S : Mem) (x1 : Int32) (x2 : Int32) (x3 : Int32) (x4 : Int32) : Option (Int32 × Mem) :=
  nm (x3 + 1 : Int32) fun v1 =>
  k17 S x1 x2 v1 x4
def f4_reads_b222 (k17 : Mem → Int32 → Int32 → Int32 → Int32 → Option (Int32 × Mem)) (S : Mem) (x1 : Int32) (x2 : Int32) (x3 : Int32) (x4 : Int32) (t1 : Int32) (t2 : Int32) : Option (Int32 × Mem) :=
  nm (ui S 0 11 (t1 + t2)) fun S1 =>
  f4_reads_b226 k17 S1 x1 x2 x3 x4
def f4_reads_b205 (k17 : Mem → Int32 → Int32 → Int32 → Int32 → Option (Int32 × Mem)) (S : Mem) (x1 : Int32) (x2 : Int32) (x3 : Int32) (t0 : Int32) : Option (Int32 × Mem) :=
  if t0 = 0 then
    f4_reads_b222 k17 S x1 x2 x3 t0 (gi S 0 11) 1
  else
    f4_reads_b222 k17 S x1 x2 x3 t0 (gi S 0 11) 0
def f4_reads_b160 (k17 : Mem → Int32 → Int32 → Int32 → Int32 → Option (Int32 × Mem)) (S : Mem) (x1 : Int32) (x2 : Int32) (x3 : Int32) (x4 : Int32) (x5 : Int32) (x6 : Int32) (t0 : Int32) : Option (Int32 × Mem) :=
  gd (inb (x6 + t0) 28) <|
  gd (inb (x6 + t0) 28) <|
  nm (ui S 7 (ix (x6 + t0)) (((10 * (gi S 7 (ix (x6 + t0)))) + x5) - 48)) fun S3 =>
  if x4 = 4 then
    f4_reads_b205 k17 S3 x1 x2 x3 0
  else
    f4_reads_b205 k17 S3 x1 x2 x3 (x4 + 1)
def f4_reads_b136 (k17 : Mem → Int32 → Int32 → Int32 → Int32 → Option (Int32 × Mem)) (S : Mem) (x1 : Int32) (x2 : Int32) (x3 : Int32) (x4 : Int32) (x5 : Int32) (x6 : Int32) (x7 : Int32) : Option (Int32 × Mem) :=
  if x4 ≤ 0 then
    f4_reads_b226 k17 S x1 x2 x3 x4
  else
    if x7 = 0 then
      some (x3, S)
    else
      if 3 ≤ x4 then
        f4_reads_b160 k17 S x1 x2 x3 x4 x5 x6 3
      else
        f4_reads_b160 k17 S x1 x2 x3 x4 x5 x6 x4
def f4_reads_b17 : Nat → Mem → Int32 → Int32 → Int32 → Int32 → Option (Int32 × Mem)
  | 0, _, _, _, _, _ => none
  | n + 1, S, x1, x2, x3, x4 => if x2 ≤ x3 then
      if 0 < x4 then
        some (x2, S)
      else
        if 2 ≤ (gi S 0 11) then
          some ((-1), S)
        else
          some (x2, S)
    else
      gd (inb ((60 * x1) + x3) 240) <|
      nm ((gi S 5 (ix ((60 * x1) + x3))) : Int32) fun v5 =>
      nm ((4 * (gi S 0 11)) : Int32) fun v6 =>
      b1 (f4_in (Int32.toInt64 v5) 48 57) fun v8 =>
      if x4 = 0 then
        if v5 = 32 then
          f4_reads_b136 (f4_reads_b17 n) S x1 x2 x3 x4 v5 v6 v8
        else
          b1 (f4_kindBy v5) fun v12 =>
          if v12 < 0 then
            some (x3, S)
          else
            if (gi S 0 11) = 7 then
              some (x3, S)
            else
              b1 (f4_kindBy v5) fun v16 =>
              gd (inb v6 28) <|
              nm (ui S 7 (ix v6) v16) fun S18 =>
              gd (inb (v6 + 1) 28) <|
              nm (ui S18 7 (ix (v6 + 1)) 0) fun S20 =>
              gd (inb (v6 + 2) 28) <|
              nm (ui S20 7 (ix (v6 + 2)) 0) fun S22 =>
              gd (inb (v6 + 3) 28) <|
              nm (ui S22 7 (ix (v6 + 3)) 0) fun S24 =>
              f4_reads_b226 (f4_reads_b17 n) S24 x1 x2 x3 1
      else
        f4_reads_b136 (f4_reads_b17 n) S x1 x2 x3 x4 v5 v6 v8
def f4_reads (S : Mem) (x1 : Int32) : Option (Int32 × Mem) :=
  gd (inb x1 4) <|
  nm ((gi S 4 (ix x1)) : Int32) fun v2 =>
  nm (ui S 0 11 0) fun S3 =>
  f4_reads_b17 FU S3 x1 v2 0 0
def f4_fault (S : Mem) (x1 : Int32) : Option (Int32 × Mem) :=
  b1 (f4_isText x1) fun v2 =>
  if v2 = 0 then
    some ((-1), S)
  else
    gd (inb x1 4) <|
    if 0 ≤ (gi S 4 (ix x1)) then
      b2 (f4_reads S x1) fun v7 S8 =>
      if 0 ≤ v7 then
        some (v7, S8)
      else
        some ((-9), S8)
    else
      b2 (f4_finds S 1) fun v11 S12 =>
      some (v11, S12)
def f4_place_b151 : Nat → Mem → Int32 → Option (Int32 × Mem)
  | 0, _, _ => none
  | n + 1, S, x2 => if 3 ≤ x2 then
      some ((gi S 0 12), S)
    else
      gd (inb x2 3) <|
      nm (ui S 13 (ix x2) (-1)) fun S3 =>
      nm (x2 + 1 : Int32) fun v4 =>
      (f4_place_b151 n) S3 v4
def f4_place_b71 : Nat → Mem → Int32 → Option (Int32 × Mem)
  | 0, _, _ => none
  | n + 1, S, x2 => if (gi S 0 12) ≤ x2 then
      f4_place_b151 FU S 0
    else
      gd (inb (4 * x2) 28) <|
      gd (inb x2 7) <|
      nm (ui S 8 (ix x2) (gi S 7 (ix (4 * x2)))) fun S4 =>
      gd (inb ((4 * x2) + 1) 28) <|
      gd (inb x2 7) <|
      nm (ui S4 9 (ix x2) (gi S4 7 (ix ((4 * x2) + 1)))) fun S7 =>
      gd (inb ((4 * x2) + 2) 28) <|
      gd (inb x2 7) <|
      nm (ui S7 10 (ix x2) (gi S7 7 (ix ((4 * x2) + 2)))) fun S10 =>
      gd (inb ((4 * x2) + 3) 28) <|
      gd (inb (2 + x2) 9) <|
      nm (ui S10 11 (ix (2 + x2)) (gi S10 7 (ix ((4 * x2) + 3)))) fun S13 =>
      nm (x2 + 1 : Int32) fun v14 =>
      (f4_place_b71 n) S13 v14
def f4_place_b50 : Nat → Mem → Int32 → Option (Int32 × Mem)
  | 0, _, _ => none
  | n + 1, S, x2 => if 9 ≤ x2 then
      f4_place_b71 FU S 0
    else
      gd (inb x2 9) <|
      nm (ui S 11 (ix x2) 0) fun S3 =>
      nm (x2 + 1 : Int32) fun v4 =>
      (f4_place_b50 n) S3 v4
def f4_place (S : Mem) (x1 : Int32) : Option (Int32 × Mem) :=
  b1 (f4_isText x1) fun v2 =>
  if v2 = 0 then
    some ((-1), S)
  else
    gd (inb x1 4) <|
    if 0 ≤ (gi S 4 (ix x1)) then
      b2 (f4_reads S x1) fun v7 S8 =>
      if v7 < 0 then
        nm (ui S8 0 12 (gi S8 0 11)) fun S10 =>
        nm (ui S10 0 18 0) fun S11 =>
        f4_place_b50 FU S11 0
      else
        some ((-4), S8)
    else
      b2 (f4_finds S 1) fun v13 S14 =>
      some (v13, S14)
def f4_isHouse (S : Mem) (x1 : Int32) : Option Int32 :=
  b1 (f4_in (Int32.toInt64 x1) 0 (Int32.toInt64 ((gi S 0 12) - 1))) fun v2 =>
  gd (decide (v2 = 0 ∨ v2 = 1)) <|
  some v2
def f4_jar (S : Mem) (x1 : Int32) : Option Int32 :=
  gd (inb (2 + x1) 9) <|
  some (gi S 11 (ix (2 + x1)))
def f4_worthTo (x0 : Int32) (x1 : Int32) : Option Int32 :=
  if x0 = 0 then
    some x1
  else
    if x0 = 1 then
      some (x1 + 3)
    else
      if x0 = 2 then
        some (2 * x1)
      else
        if x0 = 3 then
          if x1 ≤ 20 then
            some x1
          else
            some 0
        else
          if x0 = 4 then
            some (2 * (x1 + 3))
          else
            if 5 ≤ (2 * x1) then
              some ((2 * x1) - 5)
            else
              some 0
def f4_broughtBy (S : Mem) (x1 : Int32) (x2 : Int32) : Option Int32 :=
  if x1 = 0 then
    some x2
  else
    if x1 = 1 then
      some (x2 / 2)
    else
      if x1 = 2 then
        some x2
      else
        if x1 = 3 then
          if 7 ≤ x2 then
            some (x2 - 7)
          else
            some 0
        else
          if x1 = 4 then
            some 0
          else
            gd (inb 0 9) <|
            if ((gi S 11 (ix 0)) - (gi S 11 (ix 0)) / 2 * 2) = 1 then
              some 0
            else
              some x2
def f4_worthNow (S : Mem) (x1 : Int32) : Option Int32 :=
  gd (inb x1 7) <|
  b1 (f4_jar S x1) fun v3 =>
  b1 (f4_worthTo (gi S 8 (ix x1)) v3) fun v5 =>
  some v5
def f4_brings (S : Mem) (x1 : Int32) : Option Int32 :=
  gd (inb x1 7) <|
  b1 (f4_jar S x1) fun v3 =>
  b1 (f4_broughtBy S (gi S 8 (ix x1)) v3) fun v5 =>
  some v5
def f4_comesOff (S : Mem) (x1 : Int32) : Option Int32 :=
  b1 (f4_worthNow S x1) fun v2 =>
  gd (inb x1 7) <|
  if v2 < (5 * (gi S 10 (ix x1))) then
    some 0
  else
    some 1
def f4_isOf_b15 (x0 : Int32) (x1 : Int32) : Option Int32 :=
  if x0 = 5 then
    if x1 = 2 then
      some 1
    else
      some 0
  else
    some 0
def f4_isOf (x0 : Int32) (x1 : Int32) : Option Int32 :=
  if x0 = x1 then
    some 1
  else
    if x0 = 4 then
      if x1 = 1 then
        some 1
      else
        f4_isOf_b15 x0 x1
    else
      f4_isOf_b15 x0 x1
def f4_told (S : Mem) (x1 : Int32) (x2 : Int32) : Option Int32 :=
  if x2 = 0 then
    gd (inb x1 7) <|
    some (gi S 8 (ix x1))
  else
    if x2 = 1 then
      gd (inb x1 7) <|
      some (gi S 9 (ix x1))
    else
      if x2 = 2 then
        gd (inb x1 7) <|
        some (gi S 10 (ix x1))
      else
        if x2 = 3 then
          b1 (f4_jar S x1) fun v9 =>
          some v9
        else
          if x2 = 4 then
            b1 (f4_brings S x1) fun v12 =>
            some v12
          else
            if x2 = 5 then
              b1 (f4_worthNow S x1) fun v15 =>
              some v15
            else
              b1 (f4_comesOff S x1) fun v17 =>
              if v17 = 0 then
                some 0
              else
                some 1
def f4_house (S : Mem) (x1 : Int32) (x2 : Int32) : Option (Int32 × Mem) :=
  b1 (f4_isHouse S x1) fun v2 =>
  if v2 = 0 then
    some ((-1), S)
  else
    b1 (f4_in (Int32.toInt64 x2) 0 6) fun v5 =>
    if v5 = 0 then
      some ((-1), S)
    else
      b1 (f4_told S x1 x2) fun v8 =>
      b2 (f4_tells S 1 v8) fun v10 S11 =>
      some (v10, S11)
def f4_mark (S : Mem) (x1 : Int32) (x2 : Int32) : Option (Int32 × Mem) :=
  b1 (f4_isHouse S x1) fun v2 =>
  if v2 = 0 then
    some ((-1), S)
  else
    b1 (f4_in (Int32.toInt64 x2) 1 5) fun v5 =>
    if v5 = 0 then
      some ((-1), S)
    else
      b1 (f4_told S x1 0) fun v8 =>
      b1 (f4_isOf v8 x2) fun v10 =>
      if v10 = 0 then
        b2 (f4_finds S 3) fun v33 S34 =>
        some (v33, S34)
      else
        b1 (f4_jar S x1) fun v13 =>
        if x2 = 1 then
          b1 (f4_worthNow S x1) fun v16 =>
          some ((v16 - v13), S)
        else
          if x2 = 2 then
            b1 (f4_worthNow S x1) fun v19 =>
            some (((v19 - v13) + 100), S)
          else
            if x2 = 3 then
              b1 (f4_brings S x1) fun v22 =>
              some ((v13 - v22), S)
            else
              if x2 = 4 then
                b1 (f4_worthNow S x1) fun v25 =>
                b1 (f4_worthTo 1 v13) fun v27 =>
                some ((v25 - v27), S)
              else
                b1 (f4_worthTo 2 v13) fun v29 =>
                b1 (f4_worthNow S x1) fun v31 =>
                some ((v29 - v31), S)
def f4_worth (S : Mem) (x1 : Int32) (x2 : Int32) : Option Int32 :=
  b1 (f4_isHouse S x1) fun v2 =>
  if v2 = 0 then
    some (-1)
  else
    b1 (f4_in (Int32.toInt64 x2) 0 99) fun v5 =>
    if v5 = 0 then
      some (-1)
    else
      gd (inb x1 7) <|
      b1 (f4_worthTo (gi S 8 (ix x1)) x2) fun v9 =>
      some v9
def f4_notes_b2 : Nat → Mem → Int32 → Option Mem
  | 0, _, _ => none
  | n + 1, S, x1 => if 9 ≤ x1 then
      nm (ui S 0 18 ((gi S 0 18) + 1)) fun S2 =>
      some S2
    else
      gd (inb x1 9) <|
      gd (inb ((9 * (gi S 0 18)) + x1) 360) <|
      nm (ui S 12 (ix ((9 * (gi S 0 18)) + x1)) (gi S 11 (ix x1))) fun S5 =>
      nm (x1 + 1 : Int32) fun v6 =>
      (f4_notes_b2 n) S5 v6
def f4_notes (S : Mem) : Option Mem :=
  f4_notes_b2 FU S 0
def f4_goesBy_b42 (k2 : Mem → Int32 → Option Mem) (S : Mem) (x1 : Int32) (t0 : Nat) (t0n : Nat) (t1 : Int32) (t2 : Int32) : Option Mem :=
  gd (inb t1 t0n) <|
  nm (ui S t0 (ix t1) t2) fun S2 =>
  nm (x1 + 1 : Int32) fun v3 =>
  k2 S2 v3
def f4_goesBy_b2 : Nat → Mem → Int32 → Option Mem
  | 0, _, _ => none
  | n + 1, S, x1 => if (gi S 0 12) ≤ x1 then
      gd (inb 0 9) <|
      gd (inb 0 9) <|
      nm (ui S 11 (ix 0) ((gi S 11 (ix 0)) + 1)) fun S4 =>
      some S4
    else
      b1 (f4_jar S x1) fun v6 =>
      gd (inb x1 7) <|
      nm ((v6 + (gi S 9 (ix x1))) : Int32) fun v8 =>
      if v8 ≤ 99 then
        f4_goesBy_b42 (f4_goesBy_b2 n) S x1 11 9 (2 + x1) v8
      else
        f4_goesBy_b42 (f4_goesBy_b2 n) S x1 11 9 (2 + x1) 99
def f4_goesBy (S : Mem) : Option Mem :=
  f4_goesBy_b2 FU S 0
def f4_springs_b129 (k66 : Mem → Int32 → Int32 → Option (Int32 × Mem)) (S : Mem) (x2 : Int32) (x3 : Int32) (t0 : Nat) (t0n : Nat) (t1 : Int32) (t2 : Int32) : Option (Int32 × Mem) :=
  gd (inb t1 t0n) <|
  nm (ui S t0 (ix t1) t2) fun S2 =>
  nm (x3 + 1 : Int32) fun v3 =>
  k66 S2 x2 v3
def f4_springs_b106 (k66 : Mem → Int32 → Int32 → Option (Int32 × Mem)) (S : Mem) (x2 : Int32) (x3 : Int32) (x4 : Int32) (t0 : Nat) (t0n : Nat) (t1 : Int32) (t2 : Int32) (t3 : Int32) : Option (Int32 × Mem) :=
  gd (inb t1 t0n) <|
  nm (ui S t0 (ix t1) (t2 + t3)) fun S2 =>
  if x4 ≤ 99 then
    f4_springs_b129 k66 S2 x2 x3 11 9 (2 + x3) x4
  else
    f4_springs_b129 k66 S2 x2 x3 11 9 (2 + x3) 99
def f4_springs_b66 : Nat → Mem → Int32 → Int32 → Option (Int32 × Mem)
  | 0, _, _, _ => none
  | n + 1, S, x2, x3 => if (gi S 0 12) ≤ x3 then
      some (x2, S)
    else
      b1 (f4_jar S x3) fun v3 =>
      nm ((v3 + x2) : Int32) fun v4 =>
      gd (inb 1 9) <|
      if v4 ≤ 99 then
        f4_springs_b106 (f4_springs_b66 n) S x2 x3 v4 11 9 1 (gi S 11 (ix 1)) 0
      else
        f4_springs_b106 (f4_springs_b66 n) S x2 x3 v4 11 9 1 (gi S 11 (ix 1)) (v4 - 99)
def f4_springs_b9 : Nat → Mem → Int32 → Int32 → Option (Int32 × Mem)
  | 0, _, _, _ => none
  | n + 1, S, x1, x2 => if (gi S 0 12) ≤ x2 then
      gd (decide (¬ (gi S 0 12) = 0)) <|
      nm ((x1 / (gi S 0 12)) : Int32) fun v3 =>
      gd (decide (¬ (gi S 0 12) = 0)) <|
      gd (inb 1 9) <|
      nm (ui S 11 (ix 1) (x1 - x1 / (gi S 0 12) * (gi S 0 12))) fun S6 =>
      f4_springs_b66 FU S6 v3 0
    else
      b1 (f4_brings S x2) fun v8 =>
      nm ((x1 + v8) : Int32) fun v9 =>
      gd (inb (2 + x2) 9) <|
      gd (inb (2 + x2) 9) <|
      nm (ui S 11 (ix (2 + x2)) ((gi S 11 (ix (2 + x2))) - v8)) fun S12 =>
      nm (x2 + 1 : Int32) fun v13 =>
      (f4_springs_b9 n) S12 v9 v13
def f4_springs (S : Mem) : Option (Int32 × Mem) :=
  gd (inb 1 9) <|
  nm ((gi S 11 (ix 1)) : Int32) fun v2 =>
  f4_springs_b9 FU S v2 0
def f4_day (S : Mem) : Option (Int32 × Mem) :=
  if (gi S 0 12) = 0 then
    some ((-4), S)
  else
    gd (inb 0 9) <|
    if (gi S 11 (ix 0)) = 99 then
      some ((-4), S)
    else
      if (gi S 0 18) = 40 then
        some ((-2), S)
      else
        b1 (f4_notes S) fun S6 =>
        b1 (f4_goesBy S6) fun S8 =>
        gd (inb 0 9) <|
        some ((gi S8 11 (ix 0)), S8)
def f4_spring (S : Mem) : Option (Int32 × Mem) :=
  if (gi S 0 12) = 0 then
    some ((-4), S)
  else
    if (gi S 0 18) = 40 then
      some ((-2), S)
    else
      b1 (f4_notes S) fun S4 =>
      b2 (f4_springs S4) fun v6 S7 =>
      gd (inb 1 9) <|
      b2 (f4_tells S7 v6 (gi S7 11 (ix 1))) fun v10 S11 =>
      some (v10, S11)
def f4_lends_b44 (S : Mem) (x2 : Int32) (x4 : Int32) (t0 : Nat) (t0n : Nat) (t1 : Int32) (t2 : Int32) (t3 : Int32) : Option Mem :=
  gd (inb t1 t0n) <|
  nm (ui S t0 (ix t1) (t2 + t3)) fun S2 =>
  if x4 ≤ 99 then
    gd (inb (2 + x2) 9) <|
    nm (ui S2 11 (ix (2 + x2)) x4) fun S5 =>
    some S5
  else
    gd (inb (2 + x2) 9) <|
    nm (ui S2 11 (ix (2 + x2)) 99) fun S7 =>
    some S7
def f4_lends (S : Mem) (x1 : Int32) (x2 : Int32) (x3 : Int32) : Option Mem :=
  gd (inb (2 + x1) 9) <|
  gd (inb (2 + x1) 9) <|
  nm (ui S 11 (ix (2 + x1)) ((gi S 11 (ix (2 + x1))) - x3)) fun S3 =>
  b1 (f4_jar S3 x2) fun v5 =>
  nm ((v5 + x3) : Int32) fun v6 =>
  gd (inb 1 9) <|
  if v6 ≤ 99 then
    f4_lends_b44 S3 x2 v6 11 9 1 (gi S3 11 (ix 1)) 0
  else
    f4_lends_b44 S3 x2 v6 11 9 1 (gi S3 11 (ix 1)) (v6 - 99)
def f4_lend (S : Mem) (x1 : Int32) (x2 : Int32) (x3 : Int32) : Option (Int32 × Mem) :=
  b1 (f4_isHouse S x1) fun v2 =>
  if v2 = 0 then
    some ((-1), S)
  else
    b1 (f4_isHouse S x2) fun v5 =>
    if v5 = 0 then
      some ((-1), S)
    else
      if x1 = x2 then
        some ((-1), S)
      else
        b1 (f4_in (Int32.toInt64 x3) 1 99) fun v9 =>
        if v9 = 0 then
          some ((-1), S)
        else
          b1 (f4_jar S x1) fun v12 =>
          if x3 ≤ v12 then
            if (gi S 0 18) = 40 then
              some ((-2), S)
            else
              b1 (f4_notes S) fun S16 =>
              b1 (f4_lends S16 x1 x2 x3) fun S18 =>
              b1 (f4_jar S18 x2) fun v20 =>
              some (v20, S18)
          else
            some ((-4), S)
def f4_leaves (S : Mem) (x1 : Int32) (x2 : Int32) : Option Mem :=
  gd (inb (2 + x1) 9) <|
  gd (inb (2 + x1) 9) <|
  nm (ui S 11 (ix (2 + x1)) ((gi S 11 (ix (2 + x1))) - x2)) fun S3 =>
  gd (inb 1 9) <|
  gd (inb 1 9) <|
  nm (ui S3 11 (ix 1) ((gi S3 11 (ix 1)) + x2)) fun S6 =>
  some S6
def f4_leave (S : Mem) (x1 : Int32) (x2 : Int32) : Option (Int32 × Mem) :=
  b1 (f4_isHouse S x1) fun v2 =>
  if v2 = 0 then
    some ((-1), S)
  else
    b1 (f4_in (Int32.toInt64 x2) 1 99) fun v5 =>
    if v5 = 0 then
      some ((-1), S)
    else
      b1 (f4_jar S x1) fun v8 =>
      if x2 ≤ v8 then
        if (gi S 0 18) = 40 then
          some ((-2), S)
        else
          b1 (f4_notes S) fun S12 =>
          b1 (f4_leaves S12 x1 x2) fun S14 =>
          gd (inb 1 9) <|
          some ((gi S14 11 (ix 1)), S14)
      else
        some ((-4), S)
def f4_take (S : Mem) (x1 : Int32) (x2 : Int32) : Option (Int32 × Mem) :=
  b1 (f4_isHouse S x1) fun v2 =>
  if v2 = 0 then
    some ((-1), S)
  else
    b1 (f4_in (Int32.toInt64 x2) 1 99) fun v5 =>
    if v5 = 0 then
      some ((-1), S)
    else
      gd (inb 1 9) <|
      if (gi S 11 (ix 1)) < x2 then
        some ((-4), S)
      else
        b1 (f4_jar S x1) fun v10 =>
        if (v10 + x2) ≤ 99 then
          if (gi S 0 18) = 40 then
            some ((-2), S)
          else
            b1 (f4_notes S) fun S14 =>
            b1 (f4_leaves S14 x1 (-x2)) fun S16 =>
            b1 (f4_jar S16 x1) fun v18 =>
            some (v18, S16)
        else
          some ((-4), S)
def f4_undo_b58 (S : Mem) (x1 : Int32) (x2 : Int32) : Option (Int32 × Mem) :=
  nm (ui S 0 18 x1) fun S1 =>
  some (x2, S1)
def f4_undo_b25 : Nat → Mem → Int32 → Int32 → Int32 → Option (Int32 × Mem)
  | 0, _, _, _, _ => none
  | n + 1, S, x1, x2, x3 => if 9 ≤ x3 then
      f4_undo_b58 S x1 x2
    else
      if x2 ≤ 0 then
        f4_undo_b58 S x1 x2
      else
        gd (inb ((9 * x1) + x3) 360) <|
        gd (inb x3 9) <|
        nm (ui S 11 (ix x3) (gi S 12 (ix ((9 * x1) + x3)))) fun S5 =>
        nm (x3 + 1 : Int32) fun v6 =>
        (f4_undo_b25 n) S5 x1 x2 v6
def f4_undo (S : Mem) (x1 : Int32) : Option (Int32 × Mem) :=
  b1 (f4_in (Int32.toInt64 x1) 0 (Int32.toInt64 (gi S 0 18))) fun v2 =>
  if v2 = 0 then
    some ((-1), S)
  else
    nm (((gi S 0 18) - x1) : Int32) fun v4 =>
    f4_undo_b25 FU S x1 v4 0
def f4_keep_b137 : Nat → Mem → Int32 → Int32 → Int32 → Option (Int32 × Mem)
  | 0, _, _, _, _ => none
  | n + 1, S, x1, x2, x3 => if 360 ≤ x3 then
      gd (inb x1 3) <|
      nm (ui S 13 (ix x1) (gi S 0 18)) fun S3 =>
      some ((gi S3 0 18), S3)
    else
      gd (inb x3 360) <|
      gd (inb ((x2 + 31) + x3) 1173) <|
      nm (ui S 14 (ix ((x2 + 31) + x3)) (gi S 12 (ix x3))) fun S6 =>
      nm (x3 + 1 : Int32) fun v7 =>
      (f4_keep_b137 n) S6 x1 x2 v7
def f4_keep_b106 : Nat → Mem → Int32 → Int32 → Int32 → Option (Int32 × Mem)
  | 0, _, _, _, _ => none
  | n + 1, S, x1, x2, x3 => if 9 ≤ x3 then
      f4_keep_b137 FU S x1 x2 0
    else
      gd (inb x3 9) <|
      gd (inb ((x2 + 22) + x3) 1173) <|
      nm (ui S 14 (ix ((x2 + 22) + x3)) (gi S 11 (ix x3))) fun S4 =>
      nm (x3 + 1 : Int32) fun v5 =>
      (f4_keep_b106 n) S4 x1 x2 v5
def f4_keep_b42 : Nat → Mem → Int32 → Int32 → Int32 → Option (Int32 × Mem)
  | 0, _, _, _, _ => none
  | n + 1, S, x1, x2, x3 => if 7 ≤ x3 then
      f4_keep_b106 FU S x1 x2 0
    else
      gd (inb x3 7) <|
      gd (inb ((x2 + 1) + x3) 1173) <|
      nm (ui S 14 (ix ((x2 + 1) + x3)) (gi S 8 (ix x3))) fun S4 =>
      gd (inb x3 7) <|
      gd (inb ((x2 + 8) + x3) 1173) <|
      nm (ui S4 14 (ix ((x2 + 8) + x3)) (gi S4 9 (ix x3))) fun S7 =>
      gd (inb x3 7) <|
      gd (inb ((x2 + 15) + x3) 1173) <|
      nm (ui S7 14 (ix ((x2 + 15) + x3)) (gi S7 10 (ix x3))) fun S10 =>
      nm (x3 + 1 : Int32) fun v11 =>
      (f4_keep_b42 n) S10 x1 x2 v11
def f4_keep (S : Mem) (x1 : Int32) : Option (Int32 × Mem) :=
  b1 (f4_in (Int32.toInt64 x1) 0 2) fun v2 =>
  if v2 = 0 then
    some ((-1), S)
  else
    if (gi S 0 12) = 0 then
      some ((-4), S)
    else
      nm ((391 * x1) : Int32) fun v5 =>
      gd (inb v5 1173) <|
      nm (ui S 14 (ix v5) (gi S 0 12)) fun S7 =>
      f4_keep_b42 FU S7 x1 v5 0
def f4_on_b142 : Nat → Mem → Int32 → Int32 → Int32 → Option (Int32 × Mem)
  | 0, _, _, _, _ => none
  | n + 1, S, x1, x2, x3 => if 360 ≤ x3 then
      gd (inb x1 3) <|
      nm (ui S 0 18 (gi S 13 (ix x1))) fun S3 =>
      some ((gi S3 0 18), S3)
    else
      gd (inb ((x2 + 31) + x3) 1173) <|
      gd (inb x3 360) <|
      nm (ui S 12 (ix x3) (gi S 14 (ix ((x2 + 31) + x3)))) fun S6 =>
      nm (x3 + 1 : Int32) fun v7 =>
      (f4_on_b142 n) S6 x1 x2 v7
def f4_on_b111 : Nat → Mem → Int32 → Int32 → Int32 → Option (Int32 × Mem)
  | 0, _, _, _, _ => none
  | n + 1, S, x1, x2, x3 => if 9 ≤ x3 then
      f4_on_b142 FU S x1 x2 0
    else
      gd (inb ((x2 + 22) + x3) 1173) <|
      gd (inb x3 9) <|
      nm (ui S 11 (ix x3) (gi S 14 (ix ((x2 + 22) + x3)))) fun S4 =>
      nm (x3 + 1 : Int32) fun v5 =>
      (f4_on_b111 n) S4 x1 x2 v5
def f4_on_b47 : Nat → Mem → Int32 → Int32 → Int32 → Option (Int32 × Mem)
  | 0, _, _, _, _ => none
  | n + 1, S, x1, x2, x3 => if 7 ≤ x3 then
      f4_on_b111 FU S x1 x2 0
    else
      gd (inb ((x2 + 1) + x3) 1173) <|
      gd (inb x3 7) <|
      nm (ui S 8 (ix x3) (gi S 14 (ix ((x2 + 1) + x3)))) fun S4 =>
      gd (inb ((x2 + 8) + x3) 1173) <|
      gd (inb x3 7) <|
      nm (ui S4 9 (ix x3) (gi S4 14 (ix ((x2 + 8) + x3)))) fun S7 =>
      gd (inb ((x2 + 15) + x3) 1173) <|
      gd (inb x3 7) <|
      nm (ui S7 10 (ix x3) (gi S7 14 (ix ((x2 + 15) + x3)))) fun S10 =>
      nm (x3 + 1 : Int32) fun v11 =>
      (f4_on_b47 n) S10 x1 x2 v11
def f4_on (S : Mem) (x1 : Int32) : Option (Int32 × Mem) :=
  b1 (f4_in (Int32.toInt64 x1) 0 2) fun v2 =>
  if v2 = 0 then
    some ((-1), S)
  else
    gd (inb x1 3) <|
    if 0 ≤ (gi S 13 (ix x1)) then
      nm ((391 * x1) : Int32) fun v6 =>
      gd (inb v6 1173) <|
      nm (ui S 0 12 (gi S 14 (ix v6))) fun S8 =>
      f4_on_b47 FU S8 x1 v6 0
    else
      b2 (f4_finds S 1) fun v10 S11 =>
      some (v10, S11)
def f4_asides_b2 : Nat → Mem → Int32 → Option Mem
  | 0, _, _ => none
  | n + 1, S, x1 => if 9 ≤ x1 then
      some S
    else
      gd (inb x1 9) <|
      gd (inb x1 9) <|
      nm (ui S 15 (ix x1) (gi S 11 (ix x1))) fun S4 =>
      nm (x1 + 1 : Int32) fun v5 =>
      (f4_asides_b2 n) S4 v5
def f4_asides (S : Mem) : Option Mem :=
  f4_asides_b2 FU S 0
def f4_backs_b2 : Nat → Mem → Int32 → Option Mem
  | 0, _, _ => none
  | n + 1, S, x1 => if 9 ≤ x1 then
      some S
    else
      gd (inb x1 9) <|
      gd (inb x1 9) <|
      nm (ui S 11 (ix x1) (gi S 15 (ix x1))) fun S4 =>
      nm (x1 + 1 : Int32) fun v5 =>
      (f4_backs_b2 n) S4 v5
def f4_backs (S : Mem) : Option Mem :=
  f4_backs_b2 FU S 0
def f4_many_b4 : Nat → Int32 → Int32 → Option Int32
  | 0, _, _ => none
  | n + 1, x1, x2 => if x2 = 0 then
      some x1
    else
      nm (x1 + 1 : Int32) fun v2 =>
      nm ((x2 &&& (x2 - 1)) : Int32) fun v3 =>
      (f4_many_b4 n) v2 v3
def f4_many (x0 : Int32) : Option Int32 :=
  f4_many_b4 FU 0 x0
def f4_worksOff_b28 (k4 : Int32 → Int32 → Option Int32) (S : Mem) (x2 : Int32) (t0 : Int32) (t1 : Int32) : Option Int32 :=
  nm ((t0 ||| t1) : Int32) fun v1 =>
  nm (x2 + 1 : Int32) fun v2 =>
  k4 v1 v2
def f4_worksOff_b4 (S : Mem) : Nat → Int32 → Int32 → Option Int32
  | 0, _, _ => none
  | n + 1, x1, x2 => if (gi S 0 12) ≤ x2 then
      some x1
    else
      b1 (f4_comesOff S x2) fun v3 =>
      if v3 = 0 then
        f4_worksOff_b28 (f4_worksOff_b4 S n) S x2 x1 0
      else
        f4_worksOff_b28 (f4_worksOff_b4 S n) S x2 x1 (1 <<< (x2 &&& 31))
def f4_worksOff (S : Mem) : Option Int32 :=
  f4_worksOff_b4 S FU 0 0
def f4_works (S : Mem) : Option (Int32 × Mem) :=
  b1 (f4_worksOff S) fun v2 =>
  b1 (f4_many v2) fun v4 =>
  b2 (f4_tells S v2 v4) fun v6 S7 =>
  some (v6, S7)
def f4_goesOn_b2 : Nat → Mem → Int32 → Int32 → Option Mem
  | 0, _, _, _ => none
  | n + 1, S, x1, x2 => if x1 ≤ x2 then
      some S
    else
      b1 (f4_goesBy S) fun S3 =>
      nm (x2 + 1 : Int32) fun v4 =>
      (f4_goesOn_b2 n) S3 x1 v4
def f4_goesOn (S : Mem) (x1 : Int32) : Option Mem :=
  f4_goesOn_b2 FU S x1 0
def f4_later (S : Mem) (x1 : Int32) (x2 : Int32) : Option (Int32 × Mem) :=
  b1 (f4_isHouse S x1) fun v2 =>
  if v2 = 0 then
    some ((-1), S)
  else
    b1 (f4_in (Int32.toInt64 x2) 0 60) fun v5 =>
    if v5 = 0 then
      some ((-1), S)
    else
      b1 (f4_asides S) fun S8 =>
      b1 (f4_goesOn S8 x2) fun S10 =>
      b1 (f4_jar S10 x1) fun v12 =>
      b2 (f4_springs S10) fun v14 S15 =>
      b1 (f4_jar S15 x1) fun v17 =>
      b1 (f4_backs S15) fun S19 =>
      b2 (f4_tells S19 v12 v17) fun v21 S22 =>
      some (v21, S22)
def f4_when_b40 (S : Mem) (x1 : Int32) (x2 : Int32) : Option (Int32 × Mem) :=
  b1 (f4_worthNow S x1) fun v2 =>
  b1 (f4_backs S) fun S4 =>
  if 61 ≤ x2 then
    some ((-9), S4)
  else
    b2 (f4_tells S4 x2 v2) fun v7 S8 =>
    some (v7, S8)
def f4_when_b16 : Nat → Mem → Int32 → Int32 → Option (Int32 × Mem)
  | 0, _, _, _ => none
  | n + 1, S, x1, x2 => if 61 ≤ x2 then
      f4_when_b40 S x1 x2
    else
      b1 (f4_comesOff S x1) fun v3 =>
      if v3 = 0 then
        b1 (f4_goesBy S) fun S6 =>
        nm (x2 + 1 : Int32) fun v7 =>
        (f4_when_b16 n) S6 x1 v7
      else
        f4_when_b40 S x1 x2
def f4_when (S : Mem) (x1 : Int32) : Option (Int32 × Mem) :=
  b1 (f4_isHouse S x1) fun v2 =>
  if v2 = 0 then
    some ((-1), S)
  else
    b1 (f4_asides S) fun S5 =>
    f4_when_b16 FU S5 x1 0
def f4_lack_b47 (k6 : Int32 → Int32 → Int32 → Option Int32) (S : Mem) (x1 : Int32) (x3 : Int32) (t0 : Int32) : Option Int32 :=
  nm (x3 + (-1) : Int32) fun v1 =>
  k6 x1 t0 v1
def f4_lack_b6 (S : Mem) : Nat → Int32 → Int32 → Int32 → Option Int32
  | 0, _, _, _ => none
  | n + 1, x1, x2, x3 => b1 (f4_jar S x1) fun v2 =>
    if x3 < v2 then
      some x2
    else
      gd (inb x1 7) <|
      b1 (f4_worthTo (gi S 8 (ix x1)) x3) fun v6 =>
      gd (inb x1 7) <|
      if v6 < (5 * (gi S 10 (ix x1))) then
        f4_lack_b47 (f4_lack_b6 S n) S x1 x3 x2
      else
        b1 (f4_jar S x1) fun v10 =>
        f4_lack_b47 (f4_lack_b6 S n) S x1 x3 (x3 - v10)
def f4_lack (S : Mem) (x1 : Int32) : Option Int32 :=
  f4_lack_b6 S FU x1 (-9) 99
def f4_lacks (S : Mem) (x1 : Int32) : Option (Int32 × Mem) :=
  b1 (f4_isHouse S x1) fun v2 =>
  if v2 = 0 then
    some ((-1), S)
  else
    b1 (f4_lack S x1) fun v5 =>
    if v5 = (-9) then
      some ((-9), S)
    else
      gd (inb x1 7) <|
      b1 (f4_jar S x1) fun v9 =>
      b1 (f4_worthTo (gi S 8 (ix x1)) (v9 + v5)) fun v11 =>
      b2 (f4_tells S v5 v11) fun v13 S14 =>
      some (v13, S14)
def f4_share_b169 (k22 : Mem → Int32 → Int32 → Int32 → Int32 → Option (Int32 × Mem)) (S : Mem) (x1 : Int32) (x2 : Int32) (x3 : Int32) (x4 : Int32) : Option (Int32 × Mem) :=
  nm (x4 + 1 : Int32) fun v1 =>
  k22 S x1 x2 x3 v1
def f4_share_b126 (k22 : Mem → Int32 → Int32 → Int32 → Int32 → Option (Int32 × Mem)) (k54 : Mem → Int32 → Int32 → Int32 → Int32 → Int32 → Int32 → Int32 → Option (Int32 × Mem)) (S : Mem) (x1 : Int32) (x2 : Int32) (x3 : Int32) (x4 : Int32) (x6 : Int32) (x7 : Int32) (t0 : Int32) (t1 : Int32) : Option (Int32 × Mem) :=
  nm ((t0 + t1) : Int32) fun v1 =>
  nm (x7 + 1 : Int32) fun v2 =>
  k54 S x1 x2 x3 x4 v1 x6 v2
def f4_share_b107 (k22 : Mem → Int32 → Int32 → Int32 → Int32 → Option (Int32 × Mem)) (k54 : Mem → Int32 → Int32 → Int32 → Int32 → Int32 → Int32 → Int32 → Option (Int32 × Mem)) (S : Mem) (x1 : Int32) (x2 : Int32) (x3 : Int32) (x4 : Int32) (x5 : Int32) (x7 : Int32) (x8 : Int32) (t0 : Int32) : Option (Int32 × Mem) :=
  if x8 = 0 then
    f4_share_b126 k22 k54 S x1 x2 x3 x4 t0 x7 x5 0
  else
    b1 (f4_lack S x7) fun v3 =>
    f4_share_b126 k22 k54 S x1 x2 x3 x4 t0 x7 x5 v3
def f4_share_b106 (k22 : Mem → Int32 → Int32 → Int32 → Int32 → Option (Int32 × Mem)) (k54 : Mem → Int32 → Int32 → Int32 → Int32 → Int32 → Int32 → Int32 → Option (Int32 × Mem)) (S : Mem) (x1 : Int32) (x2 : Int32) (x3 : Int32) (x4 : Int32) (x5 : Int32) (x7 : Int32) (x8 : Int32) : Option (Int32 × Mem) :=
  f4_share_b107 k22 k54 S x1 x2 x3 x4 x5 x7 x8 0
def f4_share_b102 (k22 : Mem → Int32 → Int32 → Int32 → Int32 → Option (Int32 × Mem)) (k54 : Mem → Int32 → Int32 → Int32 → Int32 → Int32 → Int32 → Int32 → Option (Int32 × Mem)) (S : Mem) (x1 : Int32) (x2 : Int32) (x3 : Int32) (x4 : Int32) (x5 : Int32) (x7 : Int32) (x8 : Int32) : Option (Int32 × Mem) :=
  f4_share_b107 k22 k54 S x1 x2 x3 x4 x5 x7 x8 1
def f4_share_b79 (k22 : Mem → Int32 → Int32 → Int32 → Int32 → Option (Int32 × Mem)) (k54 : Mem → Int32 → Int32 → Int32 → Int32 → Int32 → Int32 → Int32 → Option (Int32 × Mem)) (S : Mem) (x1 : Int32) (x2 : Int32) (x3 : Int32) (x4 : Int32) (x5 : Int32) (x6 : Int32) (x7 : Int32) (t0 : Int32) : Option (Int32 × Mem) :=
  if x6 = 0 then
    f4_share_b106 k22 k54 S x1 x2 x3 x4 x5 x7 t0
  else
    if t0 = 0 then
      f4_share_b102 k22 k54 S x1 x2 x3 x4 x5 x7 t0
    else
      b1 (f4_lack S x7) fun v4 =>
      if v4 = (-9) then
        f4_share_b106 k22 k54 S x1 x2 x3 x4 x5 x7 t0
      else
        f4_share_b102 k22 k54 S x1 x2 x3 x4 x5 x7 t0
def f4_share_b54 (k22 : Mem → Int32 → Int32 → Int32 → Int32 → Option (Int32 × Mem)) : Nat → Mem → Int32 → Int32 → Int32 → Int32 → Int32 → Int32 → Int32 → Option (Int32 × Mem)
  | 0, _, _, _, _, _, _, _, _ => none
  | n + 1, S, x1, x2, x3, x4, x5, x6, x7 => if (gi S 0 12) ≤ x7 then
      if x6 = 0 then
        f4_share_b169 k22 S x1 x2 x3 x4
      else
        gd (inb 1 9) <|
        if (gi S 11 (ix 1)) < x5 then
          f4_share_b169 k22 S x1 x2 x3 x4
        else
          b1 (f4_many x4) fun v6 =>
          b1 (f4_many x2) fun v8 =>
          if v6 ≤ v8 then
            f4_share_b169 k22 S x1 x2 x3 x4
          else
            f4_share_b169 k22 S x1 x4 x5 x4
    else
      if ((x4 >>> (x7 &&& 31)) &&& 1) = 1 then
        f4_share_b79 k22 (f4_share_b54 k22 n) S x1 x2 x3 x4 x5 x6 x7 1
      else
        f4_share_b79 k22 (f4_share_b54 k22 n) S x1 x2 x3 x4 x5 x6 x7 0
def f4_share_b49 (k22 : Mem → Int32 → Int32 → Int32 → Int32 → Option (Int32 × Mem)) (S : Mem) (x1 : Int32) (x2 : Int32) (x3 : Int32) (x4 : Int32) (x5 : Int32) (t0 : Int32) : Option (Int32 × Mem) :=
  f4_share_b54 k22 FU S x1 x2 x3 x4 x5 t0 0
def f4_share_b22 : Nat → Mem → Int32 → Int32 → Int32 → Int32 → Option (Int32 × Mem)
  | 0, _, _, _, _, _ => none
  | n + 1, S, x1, x2, x3, x4 => if (1 <<< ((gi S 0 12) &&& 31)) ≤ x4 then
      b2 (f4_tells S x2 x3) fun v3 S4 =>
      some (v3, S4)
    else
      if (x4 &&& x1) = x1 then
        f4_share_b49 (f4_share_b22 n) S x1 x2 x3 x4 0 1
      else
        f4_share_b49 (f4_share_b22 n) S x1 x2 x3 x4 0 0
def f4_share (S : Mem) : Option (Int32 × Mem) :=
  if (gi S 0 12) = 0 then
    some ((-4), S)
  else
    b1 (f4_worksOff S) fun v3 =>
    f4_share_b22 FU S v3 v3 0 0
def f4_best_b73 (k20 : Mem → Int32 → Int32 → Int32 → Option (Int32 × Mem)) (S : Mem) (x1 : Int32) (x3 : Int32) (t0 : Int32) : Option (Int32 × Mem) :=
  nm (x3 + 1 : Int32) fun v1 =>
  k20 S x1 t0 v1
def f4_best_b60 (k20 : Mem → Int32 → Int32 → Int32 → Option (Int32 × Mem)) (S : Mem) (x2 : Int32) (x3 : Int32) (x4 : Int32) (t0 : Int32) : Option (Int32 × Mem) :=
  if x4 ≤ x2 then
    f4_best_b73 k20 S t0 x3 x2
  else
    f4_best_b73 k20 S t0 x3 x4
def f4_best_b20 : Nat → Mem → Int32 → Int32 → Int32 → Option (Int32 × Mem)
  | 0, _, _, _, _ => none
  | n + 1, S, x1, x2, x3 => if 21 ≤ x3 then
      b2 (f4_tells S x1 x2) fun v3 S4 =>
      some (v3, S4)
    else
      b1 (f4_goesOn S x3) fun S6 =>
      b2 (f4_springs S6) fun v8 S9 =>
      b1 (f4_worksOff S9) fun v11 =>
      b1 (f4_many v11) fun v13 =>
      b1 (f4_backs S9) fun S15 =>
      if v13 ≤ x2 then
        f4_best_b60 (f4_best_b20 n) S15 x2 x3 v13 x1
      else
        f4_best_b60 (f4_best_b20 n) S15 x2 x3 v13 x3
def f4_best (S : Mem) : Option (Int32 × Mem) :=
  if (gi S 0 12) = 0 then
    some ((-4), S)
  else
    b1 (f4_asides S) fun S3 =>
    f4_best_b20 FU S3 0 (-1) 0
def f4_lending_b134 (k42 : Mem → Int32 → Int32 → Int32 → Int32 → Option (Int32 × Mem)) (k54 : Mem → Int32 → Int32 → Int32 → Int32 → Int32 → Option (Int32 × Mem)) (S : Mem) (x1 : Int32) (x2 : Int32) (x3 : Int32) (x4 : Int32) (x5 : Int32) : Option (Int32 × Mem) :=
  nm (x5 + 1 : Int32) fun v1 =>
  k54 S x1 x2 x3 x4 v1
def f4_lending_b133 (k42 : Mem → Int32 → Int32 → Int32 → Int32 → Option (Int32 × Mem)) (k54 : Mem → Int32 → Int32 → Int32 → Int32 → Int32 → Option (Int32 × Mem)) (S : Mem) (x1 : Int32) (x2 : Int32) (x4 : Int32) (x5 : Int32) (t0 : Int32) : Option (Int32 × Mem) :=
  f4_lending_b134 k42 k54 S x1 x2 t0 x4 x5
def f4_lending_b120 (k42 : Mem → Int32 → Int32 → Int32 → Int32 → Option (Int32 × Mem)) (k54 : Mem → Int32 → Int32 → Int32 → Int32 → Int32 → Option (Int32 × Mem)) (S : Mem) (x1 : Int32) (x3 : Int32) (x4 : Int32) (x5 : Int32) (x6 : Int32) (t0 : Int32) : Option (Int32 × Mem) :=
  if x6 ≤ x3 then
    f4_lending_b133 k42 k54 S x1 t0 x4 x5 x3
  else
    f4_lending_b133 k42 k54 S x1 t0 x4 x5 x6
def f4_lending_b54 (k42 : Mem → Int32 → Int32 → Int32 → Int32 → Option (Int32 × Mem)) : Nat → Mem → Int32 → Int32 → Int32 → Int32 → Int32 → Option (Int32 × Mem)
  | 0, _, _, _, _, _, _ => none
  | n + 1, S, x1, x2, x3, x4, x5 => if (gi S 0 12) ≤ x5 then
      nm (x4 + 1 : Int32) fun v2 =>
      k42 S x1 x2 x3 v2
    else
      if x4 = x5 then
        f4_lending_b134 k42 (f4_lending_b54 k42 n) S x1 x2 x3 x4 x5
      else
        b1 (f4_jar S x4) fun v5 =>
        if v5 < x1 then
          f4_lending_b134 k42 (f4_lending_b54 k42 n) S x1 x2 x3 x4 x5
        else
          b1 (f4_lends S x4 x5 x1) fun S8 =>
          b1 (f4_worksOff S8) fun v10 =>
          b1 (f4_many v10) fun v12 =>
          b1 (f4_backs S8) fun S14 =>
          if v12 ≤ x3 then
            f4_lending_b120 k42 (f4_lending_b54 k42 n) S14 x1 x3 x4 x5 v12 x2
          else
            f4_lending_b120 k42 (f4_lending_b54 k42 n) S14 x1 x3 x4 x5 v12 ((10 * x4) + x5)
def f4_lending_b42 : Nat → Mem → Int32 → Int32 → Int32 → Int32 → Option (Int32 × Mem)
  | 0, _, _, _, _, _ => none
  | n + 1, S, x1, x2, x3, x4 => if (gi S 0 12) ≤ x4 then
      if x2 = (-9) then
        some ((-9), S)
      else
        b2 (f4_tells S x2 x3) fun v4 S5 =>
        some (v4, S5)
    else
      f4_lending_b54 (f4_lending_b42 n) FU S x1 x2 x3 x4 0
def f4_lending (S : Mem) (x1 : Int32) : Option (Int32 × Mem) :=
  b1 (f4_in (Int32.toInt64 x1) 1 99) fun v2 =>
  if v2 = 0 then
    some ((-1), S)
  else
    if (gi S 0 12) = 0 then
      some ((-4), S)
    else
      b1 (f4_worksOff S) fun v6 =>
      b1 (f4_many v6) fun v8 =>
      b1 (f4_asides S) fun S10 =>
      f4_lending_b42 FU S10 x1 (-9) v8 0
def f4_greedy_b128 (k31 : Mem → Int32 → Int32 → Int32 → Int32 → Option (Int32 × Mem)) (S : Mem) (x1 : Int32) (x3 : Int32) (x4 : Int32) (t0 : Int32) (t1 : Int32) : Option (Int32 × Mem) :=
  nm ((t0 + t1) : Int32) fun v1 =>
  nm (x4 + 1 : Int32) fun v2 =>
  k31 S x1 v1 x3 v2
def f4_greedy_b115 (k31 : Mem → Int32 → Int32 → Int32 → Int32 → Option (Int32 × Mem)) (S : Mem) (x1 : Int32) (x2 : Int32) (x4 : Int32) (x5 : Int32) (t0 : Int32) : Option (Int32 × Mem) :=
  if x5 = x1 then
    f4_greedy_b128 k31 S x1 t0 x4 x2 1
  else
    f4_greedy_b128 k31 S x1 t0 x4 x2 0
def f4_greedy_b114 (k31 : Mem → Int32 → Int32 → Int32 → Int32 → Option (Int32 × Mem)) (S : Mem) (x1 : Int32) (x2 : Int32) (x3 : Int32) (x4 : Int32) (x5 : Int32) : Option (Int32 × Mem) :=
  f4_greedy_b115 k31 S x1 x2 x4 x5 x3
def f4_greedy_b90 (k31 : Mem → Int32 → Int32 → Int32 → Int32 → Option (Int32 × Mem)) (k48 : Mem → Int32 → Int32 → Int32 → Int32 → Int32 → Int32 → Option (Int32 × Mem)) (S : Mem) (x1 : Int32) (x2 : Int32) (x3 : Int32) (x4 : Int32) (x6 : Int32) (t0 : Int32) (t1 : Int32) : Option (Int32 × Mem) :=
  nm ((t0 + t1) : Int32) fun v1 =>
  nm (x6 + 1 : Int32) fun v2 =>
  k48 S x1 x2 x3 x4 v1 v2
def f4_greedy_b48 (k31 : Mem → Int32 → Int32 → Int32 → Int32 → Option (Int32 × Mem)) : Nat → Mem → Int32 → Int32 → Int32 → Int32 → Int32 → Int32 → Option (Int32 × Mem)
  | 0, _, _, _, _, _, _, _ => none
  | n + 1, S, x1, x2, x3, x4, x5, x6 => if (gi S 0 12) ≤ x6 then
      if x5 = x1 then
        if x2 = 0 then
          f4_greedy_b115 k31 S x1 x2 x4 x5 x4
        else
          f4_greedy_b114 k31 S x1 x2 x3 x4 x5
      else
        f4_greedy_b114 k31 S x1 x2 x3 x4 x5
    else
      if ((x4 >>> (x6 &&& 31)) &&& 1) = 1 then
        b1 (f4_jar S x6) fun v8 =>
        b1 (f4_broughtBy S 3 v8) fun v10 =>
        f4_greedy_b90 k31 (f4_greedy_b48 k31 n) S x1 x2 x3 x4 x6 x5 v10
      else
        b1 (f4_brings S x6) fun v6 =>
        f4_greedy_b90 k31 (f4_greedy_b48 k31 n) S x1 x2 x3 x4 x6 x5 v6
def f4_greedy_b31 : Nat → Mem → Int32 → Int32 → Int32 → Int32 → Option (Int32 × Mem)
  | 0, _, _, _, _, _ => none
  | n + 1, S, x1, x2, x3, x4 => if (1 <<< ((gi S 0 12) &&& 31)) ≤ x4 then
      if x2 = 0 then
        some ((-9), S)
      else
        b2 (f4_tells S x2 x3) fun v4 S5 =>
        some (v4, S5)
    else
      f4_greedy_b48 (f4_greedy_b31 n) FU S x1 x2 x3 x4 0 0
def f4_greedy (S : Mem) (x1 : Int32) : Option (Int32 × Mem) :=
  b1 (f4_in (Int32.toInt64 x1) 0 999) fun v2 =>
  if v2 = 0 then
    some ((-1), S)
  else
    if (gi S 0 12) = 0 then
      some ((-4), S)
    else
      f4_greedy_b31 FU S x1 0 0 0
def f4_whyPairs_b90 (k52 : Mem → Int32 → Int32 → Option (Int32 × Mem)) (S : Mem) (x2 : Int32) (x3 : Int32) (t0 : Int64) (t1 : Int64) (t2 : Int64) : Option (Int32 × Mem) :=
  b1 (f4_in t0 t1 t2) fun v2 =>
  if v2 = 0 then
    b2 (f4_finds S 3) fun v6 S7 =>
    some (v6, S7)
  else
    nm (x3 + 1 : Int32) fun v4 =>
    k52 S x2 v4
def f4_whyPairs_b52 : Nat → Mem → Int32 → Int32 → Option (Int32 × Mem)
  | 0, _, _, _ => none
  | n + 1, S, x2, x3 => gd (inb x2 6) <|
    if (gi S 2 (ix x2)) ≤ x3 then
      some (0, S)
    else
      gd (inb ((40 * x2) + x3) 240) <|
      if (x3 - x3 / 2 * 2) = 0 then
        f4_whyPairs_b90 (f4_whyPairs_b52 n) S x2 x3 (Int32.toInt64 (gi S 3 (ix ((40 * x2) + x3)))) 0 99
      else
        f4_whyPairs_b90 (f4_whyPairs_b52 n) S x2 x3 (Int32.toInt64 (gi S 3 (ix ((40 * x2) + x3)))) 0 300
def f4_whyPairs (S : Mem) (x1 : Int32) (x2 : Int32) : Option (Int32 × Mem) :=
  b1 (f4_isHouse S x1) fun v2 =>
  if v2 = 0 then
    some ((-1), S)
  else
    b1 (f4_isRow x2) fun v5 =>
    if v5 = 0 then
      some ((-1), S)
    else
      gd (inb x2 6) <|
      if 0 ≤ (gi S 2 (ix x2)) then
        gd (inb x2 6) <|
        if ((gi S 2 (ix x2)) - (gi S 2 (ix x2)) / 2 * 2) = 1 then
          b2 (f4_finds S 5) fun v12 S13 =>
          some (v12, S13)
        else
          f4_whyPairs_b52 FU S x2 0
      else
        b2 (f4_finds S 1) fun v15 S16 =>
        some (v15, S16)
def f4_kindsBy_b91 (k4 : Int32 → Int32 → Int32 → Option Int32) (S : Mem) (x1 : Int32) (x3 : Int32) (t0 : Int32) (t1 : Int32) : Option Int32 :=
  nm ((t0 ||| t1) : Int32) fun v1 =>
  nm (x3 + 1 : Int32) fun v2 =>
  k4 x1 v1 v2
def f4_kindsBy_b70 (k4 : Int32 → Int32 → Int32 → Option Int32) (k16 : Int32 → Int32 → Int32 → Int32 → Int32 → Option Int32) (S : Mem) (x1 : Int32) (x2 : Int32) (x3 : Int32) (x5 : Int32) (t0 : Int32) : Option Int32 :=
  nm (x5 + 2 : Int32) fun v1 =>
  k16 x1 x2 x3 t0 v1
def f4_kindsBy_b69 (k4 : Int32 → Int32 → Int32 → Option Int32) (k16 : Int32 → Int32 → Int32 → Int32 → Int32 → Option Int32) (S : Mem) (x1 : Int32) (x2 : Int32) (x3 : Int32) (x5 : Int32) : Option Int32 :=
  f4_kindsBy_b70 k4 k16 S x1 x2 x3 x5 0
def f4_kindsBy_b16 (k4 : Int32 → Int32 → Int32 → Option Int32) (S : Mem) : Nat → Int32 → Int32 → Int32 → Int32 → Int32 → Option Int32
  | 0, _, _, _, _, _ => none
  | n + 1, x1, x2, x3, x4, x5 => gd (inb x1 6) <|
    if (gi S 2 (ix x1)) ≤ x5 then
      if x4 = 0 then
        f4_kindsBy_b91 k4 S x1 x3 x2 0
      else
        f4_kindsBy_b91 k4 S x1 x3 x2 (1 <<< (x3 &&& 31))
    else
      if x4 = 0 then
        f4_kindsBy_b69 k4 (f4_kindsBy_b16 k4 S n) S x1 x2 x3 x5
      else
        gd (inb ((40 * x1) + x5) 240) <|
        b1 (f4_worthTo x3 (gi S 3 (ix ((40 * x1) + x5)))) fun v7 =>
        gd (inb (((40 * x1) + x5) + 1) 240) <|
        if v7 = (gi S 3 (ix (((40 * x1) + x5) + 1))) then
          f4_kindsBy_b70 k4 (f4_kindsBy_b16 k4 S n) S x1 x2 x3 x5 1
        else
          f4_kindsBy_b69 k4 (f4_kindsBy_b16 k4 S n) S x1 x2 x3 x5
def f4_kindsBy_b4 (S : Mem) : Nat → Int32 → Int32 → Int32 → Option Int32
  | 0, _, _, _ => none
  | n + 1, x1, x2, x3 => if 6 ≤ x3 then
      some x2
    else
      f4_kindsBy_b16 (f4_kindsBy_b4 S n) S FU x1 x2 x3 1 0
def f4_kindsBy (S : Mem) (x1 : Int32) : Option Int32 :=
  f4_kindsBy_b4 S FU x1 0 0
def f4_kinds (S : Mem) (x1 : Int32) (x2 : Int32) : Option (Int32 × Mem) :=
  b2 (f4_whyPairs S x1 x2) fun v2 S3 =>
  if 0 ≤ v2 then
    b1 (f4_kindsBy S3 x2) fun v6 =>
    some (v6, S3)
  else
    some (v2, S3)
def f4_test_b190 (k38 : Mem → Int32 → Int32 → Int32 → Int32 → Option (Int32 × Mem)) (S : Mem) (x4 : Int32) (x5 : Int32) (x7 : Int32) (t0 : Int32) : Option (Int32 × Mem) :=
  nm (x7 + 1 : Int32) fun v1 =>
  k38 S x4 x5 t0 v1
def f4_test_b174 (k38 : Mem → Int32 → Int32 → Int32 → Int32 → Option (Int32 × Mem)) (S : Mem) (x4 : Int32) (x6 : Int32) (x7 : Int32) (x8 : Int32) (t0 : Int32) : Option (Int32 × Mem) :=
  if x6 ≤ x8 then
    f4_test_b190 k38 S x4 t0 x7 x6
  else
    f4_test_b190 k38 S x4 t0 x7 x8
def f4_test_b152 (k38 : Mem → Int32 → Int32 → Int32 → Int32 → Option (Int32 × Mem)) (k51 : Mem → Int32 → Int32 → Int32 → Int32 → Int32 → Int32 → Option (Int32 × Mem)) (S : Mem) (x4 : Int32) (x5 : Int32) (x6 : Int32) (x7 : Int32) (x9 : Int32) (t0 : Int32) : Option (Int32 × Mem) :=
  nm (x9 + 1 : Int32) fun v1 =>
  k51 S x4 x5 x6 x7 t0 v1
def f4_test_b129 (k38 : Mem → Int32 → Int32 → Int32 → Int32 → Option (Int32 × Mem)) (k51 : Mem → Int32 → Int32 → Int32 → Int32 → Int32 → Int32 → Option (Int32 × Mem)) (k64 : Mem → Int32 → Int32 → Int32 → Int32 → Int32 → Int32 → Int32 → Int32 → Option (Int32 × Mem)) (S : Mem) (x4 : Int32) (x5 : Int32) (x6 : Int32) (x7 : Int32) (x8 : Int32) (x9 : Int32) (x11 : Int32) (t0 : Int32) (t1 : Int32) : Option (Int32 × Mem) :=
  nm ((t0 + t1) : Int32) fun v1 =>
  nm (x11 + 1 : Int32) fun v2 =>
  k64 S x4 x5 x6 x7 x8 x9 v1 v2
def f4_test_b128 (k38 : Mem → Int32 → Int32 → Int32 → Int32 → Option (Int32 × Mem)) (k51 : Mem → Int32 → Int32 → Int32 → Int32 → Int32 → Int32 → Option (Int32 × Mem)) (k64 : Mem → Int32 → Int32 → Int32 → Int32 → Int32 → Int32 → Int32 → Int32 → Option (Int32 × Mem)) (S : Mem) (x4 : Int32) (x5 : Int32) (x6 : Int32) (x7 : Int32) (x8 : Int32) (x9 : Int32) (x11 : Int32) (t0 : Int32) : Option (Int32 × Mem) :=
  f4_test_b129 k38 k51 k64 S x4 x5 x6 x7 x8 x9 x11 t0 0
def f4_test_b98 (k38 : Mem → Int32 → Int32 → Int32 → Int32 → Option (Int32 × Mem)) (k51 : Mem → Int32 → Int32 → Int32 → Int32 → Int32 → Int32 → Option (Int32 × Mem)) (k64 : Mem → Int32 → Int32 → Int32 → Int32 → Int32 → Int32 → Int32 → Int32 → Option (Int32 × Mem)) (S : Mem) (x4 : Int32) (x5 : Int32) (x6 : Int32) (x7 : Int32) (x8 : Int32) (x9 : Int32) (x10 : Int32) (x11 : Int32) (t0 : Int32) : Option (Int32 × Mem) :=
  if t0 = 0 then
    f4_test_b128 k38 k51 k64 S x4 x5 x6 x7 x8 x9 x11 x10
  else
    b1 (f4_worthTo x9 x7) fun v3 =>
    b1 (f4_worthTo x11 x7) fun v5 =>
    if v3 = v5 then
      f4_test_b129 k38 k51 k64 S x4 x5 x6 x7 x8 x9 x11 x10 1
    else
      f4_test_b128 k38 k51 k64 S x4 x5 x6 x7 x8 x9 x11 x10
def f4_test_b97 (k38 : Mem → Int32 → Int32 → Int32 → Int32 → Option (Int32 × Mem)) (k51 : Mem → Int32 → Int32 → Int32 → Int32 → Int32 → Int32 → Option (Int32 × Mem)) (k64 : Mem → Int32 → Int32 → Int32 → Int32 → Int32 → Int32 → Int32 → Int32 → Option (Int32 × Mem)) (S : Mem) (x4 : Int32) (x5 : Int32) (x6 : Int32) (x7 : Int32) (x8 : Int32) (x9 : Int32) (x10 : Int32) (x11 : Int32) : Option (Int32 × Mem) :=
  f4_test_b98 k38 k51 k64 S x4 x5 x6 x7 x8 x9 x10 x11 0
def f4_test_b64 (k38 : Mem → Int32 → Int32 → Int32 → Int32 → Option (Int32 × Mem)) (k51 : Mem → Int32 → Int32 → Int32 → Int32 → Int32 → Int32 → Option (Int32 × Mem)) : Nat → Mem → Int32 → Int32 → Int32 → Int32 → Int32 → Int32 → Int32 → Int32 → Option (Int32 × Mem)
  | 0, _, _, _, _, _, _, _, _, _ => none
  | n + 1, S, x4, x5, x6, x7, x8, x9, x10, x11 => if 6 ≤ x11 then
      if x10 ≤ x8 then
        f4_test_b152 k38 k51 S x4 x5 x6 x7 x9 x8
      else
        f4_test_b152 k38 k51 S x4 x5 x6 x7 x9 x10
    else
      if ((x4 >>> (x9 &&& 31)) &&& 1) = 1 then
        if ((x4 >>> (x11 &&& 31)) &&& 1) = 1 then
          f4_test_b98 k38 k51 (f4_test_b64 k38 k51 n) S x4 x5 x6 x7 x8 x9 x10 x11 1
        else
          f4_test_b97 k38 k51 (f4_test_b64 k38 k51 n) S x4 x5 x6 x7 x8 x9 x10 x11
      else
        f4_test_b97 k38 k51 (f4_test_b64 k38 k51 n) S x4 x5 x6 x7 x8 x9 x10 x11
def f4_test_b51 (k38 : Mem → Int32 → Int32 → Int32 → Int32 → Option (Int32 × Mem)) : Nat → Mem → Int32 → Int32 → Int32 → Int32 → Int32 → Int32 → Option (Int32 × Mem)
  | 0, _, _, _, _, _, _, _ => none
  | n + 1, S, x4, x5, x6, x7, x8, x9 => if 6 ≤ x9 then
      if x6 ≤ x8 then
        f4_test_b174 k38 S x4 x6 x7 x8 x5
      else
        f4_test_b174 k38 S x4 x6 x7 x8 x7
    else
      f4_test_b64 k38 (f4_test_b51 k38 n) FU S x4 x5 x6 x7 x8 x9 0 0
def f4_test_b38 : Nat → Mem → Int32 → Int32 → Int32 → Int32 → Option (Int32 × Mem)
  | 0, _, _, _, _, _ => none
  | n + 1, S, x4, x5, x6, x7 => if 100 ≤ x7 then
      b2 (f4_tells S x5 x6) fun v3 S4 =>
      some (v3, S4)
    else
      f4_test_b51 (f4_test_b38 n) FU S x4 x5 x6 x7 0 0
def f4_test (S : Mem) (x1 : Int32) (x2 : Int32) : Option (Int32 × Mem) :=
  b2 (f4_whyPairs S x1 x2) fun v2 S3 =>
  if 0 ≤ v2 then
    b1 (f4_kindsBy S3 x2) fun v6 =>
    if v6 = 0 then
      some ((-9), S3)
    else
      f4_test_b38 FU S3 v6 0 99 0
  else
    some (v2, S3)
def f4_jars_b83 (k31 : Mem → Int32 → Int32 → Int32 → Int32 → Int32 → Option (Int32 × Mem)) (S : Mem) (x1 : Int32) (x2 : Int32) (x3 : Int32) (x5 : Int32) (t0 : Int32) : Option (Int32 × Mem) :=
  nm (x5 + (-1) : Int32) fun v1 =>
  k31 S x1 x2 x3 t0 v1
def f4_jars_b69 (k31 : Mem → Int32 → Int32 → Int32 → Int32 → Int32 → Option (Int32 × Mem)) (S : Mem) (x1 : Int32) (x2 : Int32) (x4 : Int32) (x5 : Int32) (x6 : Int32) (t0 : Int32) (t1 : Int32) : Option (Int32 × Mem) :=
  nm ((t0 + t1) : Int32) fun v1 =>
  if x6 = 0 then
    f4_jars_b83 k31 S x1 x2 v1 x5 x4
  else
    f4_jars_b83 k31 S x1 x2 v1 x5 x5
def f4_jars_b56 (k31 : Mem → Int32 → Int32 → Int32 → Int32 → Int32 → Option (Int32 × Mem)) (S : Mem) (x1 : Int32) (x2 : Int32) (x3 : Int32) (x4 : Int32) (x5 : Int32) (t0 : Int32) : Option (Int32 × Mem) :=
  if t0 = 0 then
    f4_jars_b69 k31 S x1 x2 x4 x5 t0 x3 0
  else
    f4_jars_b69 k31 S x1 x2 x4 x5 t0 x3 1
def f4_jars_b31 : Nat → Mem → Int32 → Int32 → Int32 → Int32 → Int32 → Option (Int32 × Mem)
  | 0, _, _, _, _, _, _ => none
  | n + 1, S, x1, x2, x3, x4, x5 => if x5 < 0 then
      if x3 = 0 then
        some ((-9), S)
      else
        b2 (f4_tells S x3 x4) fun v4 S5 =>
        some (v4, S5)
    else
      gd (inb x1 7) <|
      b1 (f4_worthTo (gi S 8 (ix x1)) x5) fun v8 =>
      if v8 = x2 then
        f4_jars_b56 (f4_jars_b31 n) S x1 x2 x3 x4 x5 1
      else
        f4_jars_b56 (f4_jars_b31 n) S x1 x2 x3 x4 x5 0
def f4_jars (S : Mem) (x1 : Int32) (x2 : Int32) : Option (Int32 × Mem) :=
  b1 (f4_isHouse S x1) fun v2 =>
  if v2 = 0 then
    some ((-1), S)
  else
    b1 (f4_in (Int32.toInt64 x2) 0 300) fun v5 =>
    if v5 = 0 then
      some ((-1), S)
    else
      f4_jars_b31 FU S x1 x2 0 0 99
def f4_takesNine_b47 (S : Mem) (x1 : Int32) (t0 : Int32) : Option Mem :=
  b1 (f4_leaves S x1 (-t0)) fun S2 =>
  some S2
def f4_takesNine_b22 (S : Mem) (x1 : Int32) (t0 : Int32) : Option Mem :=
  b1 (f4_jar S x1) fun v2 =>
  if (v2 + t0) ≤ 99 then
    f4_takesNine_b47 S x1 t0
  else
    b1 (f4_jar S x1) fun v5 =>
    f4_takesNine_b47 S x1 (99 - v5)
def f4_takesNine (S : Mem) (x1 : Int32) : Option Mem :=
  gd (inb 1 9) <|
  if 9 ≤ (gi S 11 (ix 1)) then
    f4_takesNine_b22 S x1 9
  else
    gd (inb 1 9) <|
    f4_takesNine_b22 S x1 (gi S 11 (ix 1))
def f4_leavesNine_b22 (S : Mem) (t1 : Int32) (t2 : Int32) : Option Mem :=
  b1 (f4_leaves S t1 t2) fun S2 =>
  some S2
def f4_leavesNine (S : Mem) (x1 : Int32) : Option Mem :=
  b1 (f4_jar S x1) fun v2 =>
  if 9 ≤ v2 then
    f4_leavesNine_b22 S x1 9
  else
    b1 (f4_jar S x1) fun v5 =>
    f4_leavesNine_b22 S x1 v5
def f4_duel_b314 (k180 : Mem → Int32 → Int32 → Option (Int32 × Mem)) (k194 : Mem → Int32 → Int32 → Int32 → Option (Int32 × Mem)) (S : Mem) (x4 : Int32) (x5 : Int32) (x6 : Int32) (t0 : Nat) (t0n : Nat) (t1 : Int32) (t2 : Int32) : Option (Int32 × Mem) :=
  gd (inb t1 t0n) <|
  nm (ui S t0 (ix t1) t2) fun S2 =>
  nm (x6 + 1 : Int32) fun v3 =>
  k194 S2 x4 x5 v3
def f4_duel_b268 (k180 : Mem → Int32 → Int32 → Option (Int32 × Mem)) (k194 : Mem → Int32 → Int32 → Int32 → Option (Int32 × Mem)) (S : Mem) (x4 : Int32) (x5 : Int32) (x6 : Int32) (x9 : Int32) (x10 : Int32) (t0 : Int32) : Option (Int32 × Mem) :=
  if (x5 - x5 / 2 * 2) = 0 then
    if x10 ≤ x9 then
      f4_duel_b314 k180 k194 S x4 x5 x6 16 729 x6 x9
    else
      f4_duel_b314 k180 k194 S x4 x5 x6 16 729 x6 x10
  else
    if x9 ≤ t0 then
      f4_duel_b314 k180 k194 S x4 x5 x6 16 729 x6 x9
    else
      f4_duel_b314 k180 k194 S x4 x5 x6 16 729 x6 t0
def f4_duel_b252 (k180 : Mem → Int32 → Int32 → Option (Int32 × Mem)) (k194 : Mem → Int32 → Int32 → Int32 → Option (Int32 × Mem)) (S : Mem) (x4 : Int32) (x5 : Int32) (x6 : Int32) (x7 : Int32) (x8 : Int32) (x9 : Int32) (t0 : Int32) : Option (Int32 × Mem) :=
  if x8 ≤ x7 then
    f4_duel_b268 k180 k194 S x4 x5 x6 x9 t0 x8
  else
    f4_duel_b268 k180 k194 S x4 x5 x6 x9 t0 x7
def f4_duel_b194 (k180 : Mem → Int32 → Int32 → Option (Int32 × Mem)) : Nat → Mem → Int32 → Int32 → Int32 → Option (Int32 × Mem)
  | 0, _, _, _, _ => none
  | n + 1, S, x4, x5, x6 => if x4 ≤ x6 then
      nm (x5 + (-1) : Int32) fun v2 =>
      k180 S x4 v2
    else
      gd (inb (3 * x6) 729) <|
      nm ((gi S 16 (ix (3 * x6))) : Int32) fun v4 =>
      gd (inb ((3 * x6) + 1) 729) <|
      nm ((gi S 16 (ix ((3 * x6) + 1))) : Int32) fun v6 =>
      gd (inb ((3 * x6) + 2) 729) <|
      nm ((gi S 16 (ix ((3 * x6) + 2))) : Int32) fun v8 =>
      if v4 ≤ v6 then
        f4_duel_b252 k180 (f4_duel_b194 k180 n) S x4 x5 x6 v4 v6 v8 v6
      else
        f4_duel_b252 k180 (f4_duel_b194 k180 n) S x4 x5 x6 v4 v6 v8 v4
def f4_duel_b180 : Nat → Mem → Int32 → Int32 → Option (Int32 × Mem)
  | 0, _, _, _ => none
  | n + 1, S, x4, x5 => if x5 < 0 then
      gd (inb 0 729) <|
      some (((gi S 16 (ix 0)) + 500), S)
    else
      nm ((x4 / 3) : Int32) fun v3 =>
      f4_duel_b194 (f4_duel_b180 n) FU S v3 x5 0
def f4_duel_b141 (k66 : Mem → Int32 → Int32 → Int32 → Int32 → Int32 → Option (Int32 × Mem)) (k80 : Mem → Int32 → Int32 → Int32 → Int32 → Int32 → Int32 → Int32 → Option (Int32 × Mem)) (S : Mem) (x1 : Int32) (x2 : Int32) (x3 : Int32) (x4 : Int32) (x5 : Int32) (x6 : Int32) (x7 : Int32) : Option (Int32 × Mem) :=
  nm (x7 + 1 : Int32) fun v1 =>
  k80 S x1 x2 x3 x4 x5 x6 v1
def f4_duel_b104 (k66 : Mem → Int32 → Int32 → Int32 → Int32 → Int32 → Option (Int32 × Mem)) (k80 : Mem → Int32 → Int32 → Int32 → Int32 → Int32 → Int32 → Int32 → Option (Int32 × Mem)) (S : Mem) (x1 : Int32) (x2 : Int32) (x3 : Int32) (x4 : Int32) (x5 : Int32) (x6 : Int32) (x7 : Int32) (t0 : Int32) : Option (Int32 × Mem) :=
  gd (decide (¬ x6 = 0)) <|
  nm (((x5 / x6) - (x5 / x6) / 3 * 3) : Int32) fun v2 =>
  if v2 = 0 then
    b1 (f4_takesNine S t0) fun S8 =>
    f4_duel_b141 k66 k80 S8 x1 x2 x3 x4 x5 x6 x7
  else
    if v2 = 1 then
      b1 (f4_leavesNine S t0) fun S6 =>
      f4_duel_b141 k66 k80 S6 x1 x2 x3 x4 x5 x6 x7
    else
      f4_duel_b141 k66 k80 S x1 x2 x3 x4 x5 x6 x7
def f4_duel_b80 (k66 : Mem → Int32 → Int32 → Int32 → Int32 → Int32 → Option (Int32 × Mem)) : Nat → Mem → Int32 → Int32 → Int32 → Int32 → Int32 → Int32 → Int32 → Option (Int32 × Mem)
  | 0, _, _, _, _, _, _, _, _ => none
  | n + 1, S, x1, x2, x3, x4, x5, x6, x7 => if x3 ≤ x7 then
      b1 (f4_worthNow S x1) fun v3 =>
      b1 (f4_worthNow S x2) fun v5 =>
      gd (inb x5 729) <|
      nm (ui S 16 (ix x5) (v3 - v5)) fun S7 =>
      b1 (f4_backs S7) fun S9 =>
      nm (x5 + 1 : Int32) fun v10 =>
      k66 S9 x1 x2 x3 x4 v10
    else
      nm ((x6 / 3) : Int32) fun v11 =>
      if (x7 - x7 / 2 * 2) = 0 then
        f4_duel_b104 k66 (f4_duel_b80 k66 n) S x1 x2 x3 x4 x5 v11 x7 x1
      else
        f4_duel_b104 k66 (f4_duel_b80 k66 n) S x1 x2 x3 x4 x5 v11 x7 x2
def f4_duel_b66 : Nat → Mem → Int32 → Int32 → Int32 → Int32 → Int32 → Option (Int32 × Mem)
  | 0, _, _, _, _, _, _ => none
  | n + 1, S, x1, x2, x3, x4, x5 => if x4 ≤ x5 then
      nm ((x3 - 1) : Int32) fun v2 =>
      f4_duel_b180 FU S x4 v2
    else
      f4_duel_b80 (f4_duel_b66 n) FU S x1 x2 x3 x4 x5 x4 0
def f4_duel_b41 : Nat → Mem → Int32 → Int32 → Int32 → Int32 → Int32 → Option (Int32 × Mem)
  | 0, _, _, _, _, _, _ => none
  | n + 1, S, x1, x2, x3, x4, x5 => if x3 ≤ x5 then
      b1 (f4_asides S) fun S3 =>
      f4_duel_b66 FU S3 x1 x2 x3 x4 0
    else
      nm ((x4 * 3) : Int32) fun v4 =>
      nm (x5 + 1 : Int32) fun v5 =>
      (f4_duel_b41 n) S x1 x2 x3 v4 v5
def f4_duel (S : Mem) (x1 : Int32) (x2 : Int32) (x3 : Int32) : Option (Int32 × Mem) :=
  b1 (f4_isHouse S x1) fun v2 =>
  if v2 = 0 then
    some ((-1), S)
  else
    b1 (f4_isHouse S x2) fun v5 =>
    if v5 = 0 then
      some ((-1), S)
    else
      if x1 = x2 then
        some ((-1), S)
      else
        b1 (f4_in (Int32.toInt64 x3) 0 6) fun v9 =>
        if v9 = 0 then
          some ((-1), S)
        else
          f4_duel_b41 FU S x1 x2 x3 1 0
def f4_odds_b191 (k48 : Mem → Int32 → Int32 → Int64 → Int64 → Int32 → Option (Int32 × Mem)) (S : Mem) (x1 : Int32) (x2 : Int32) (x5 : Int64) (x7 : Int32) (t0 : Int64) (t1 : Int64) : Option (Int32 × Mem) :=
  nm ((t0 + t1) : Int64) fun v1 =>
  b1 (f4_backs S) fun S3 =>
  nm (x7 + 1 : Int32) fun v4 =>
  k48 S3 x1 x2 v1 x5 v4
def f4_odds_b159 (k48 : Mem → Int32 → Int32 → Int64 → Int64 → Int32 → Option (Int32 × Mem)) (k65 : Mem → Int32 → Int32 → Int64 → Int64 → Int32 → Int64 → Int32 → Option (Int32 × Mem)) (S : Mem) (x1 : Int32) (x2 : Int32) (x3 : Int64) (x5 : Int64) (x7 : Int32) (x8 : Int64) (x10 : Int32) (t0 : Nat) (t0n : Nat) (t1 : Int32) (t2 : Int32) : Option (Int32 × Mem) :=
  gd (inb t1 t0n) <|
  nm (ui S t0 (ix t1) t2) fun S2 =>
  nm (x10 + 1 : Int32) fun v3 =>
  k65 S2 x1 x2 x3 x5 x7 x8 v3
def f4_odds_b134 (k48 : Mem → Int32 → Int32 → Int64 → Int64 → Int32 → Option (Int32 × Mem)) (k65 : Mem → Int32 → Int32 → Int64 → Int64 → Int32 → Int64 → Int32 → Option (Int32 × Mem)) (S : Mem) (x1 : Int32) (x2 : Int32) (x3 : Int64) (x5 : Int64) (x7 : Int32) (x10 : Int32) (x12 : Int32) (t0 : Int64) (t1 : Int64) : Option (Int32 × Mem) :=
  nm ((t0 * t1) : Int64) fun v1 =>
  if x12 ≤ 99 then
    f4_odds_b159 k48 k65 S x1 x2 x3 x5 x7 v1 x10 11 9 (2 + x10) x12
  else
    f4_odds_b159 k48 k65 S x1 x2 x3 x5 x7 v1 x10 11 9 (2 + x10) 99
def f4_odds_b114 (k48 : Mem → Int32 → Int32 → Int64 → Int64 → Int32 → Option (Int32 × Mem)) (k65 : Mem → Int32 → Int32 → Int64 → Int64 → Int32 → Int64 → Int32 → Option (Int32 × Mem)) (S : Mem) (x1 : Int32) (x2 : Int32) (x3 : Int64) (x5 : Int64) (x7 : Int32) (x8 : Int64) (x10 : Int32) (x11 : Int32) (t0 : Int32) (t1 : Int32) : Option (Int32 × Mem) :=
  nm ((t0 + t1) : Int32) fun v1 =>
  if x11 = 0 then
    f4_odds_b134 k48 k65 S x1 x2 x3 x5 x7 x10 v1 x8 (Int32.toInt64 (12 - x2))
  else
    f4_odds_b134 k48 k65 S x1 x2 x3 x5 x7 x10 v1 x8 (Int32.toInt64 x2)
def f4_odds_b90 (k48 : Mem → Int32 → Int32 → Int64 → Int64 → Int32 → Option (Int32 × Mem)) (k65 : Mem → Int32 → Int32 → Int64 → Int64 → Int32 → Int64 → Int32 → Option (Int32 × Mem)) (S : Mem) (x1 : Int32) (x2 : Int32) (x3 : Int64) (x5 : Int64) (x7 : Int32) (x8 : Int64) (x10 : Int32) (t0 : Int32) : Option (Int32 × Mem) :=
  b1 (f4_jar S x10) fun v2 =>
  if t0 = 0 then
    gd (inb x10 7) <|
    f4_odds_b114 k48 k65 S x1 x2 x3 x5 x7 x8 x10 t0 v2 (gi S 9 (ix x10))
  else
    f4_odds_b114 k48 k65 S x1 x2 x3 x5 x7 x8 x10 t0 v2 0
def f4_odds_b65 (k48 : Mem → Int32 → Int32 → Int64 → Int64 → Int32 → Option (Int32 × Mem)) : Nat → Mem → Int32 → Int32 → Int64 → Int64 → Int32 → Int64 → Int32 → Option (Int32 × Mem)
  | 0, _, _, _, _, _, _, _, _ => none
  | n + 1, S, x1, x2, x3, x5, x7, x8, x10 => if (gi S 0 12) ≤ x10 then
      nm ((x5 + x8) : Int64) fun v2 =>
      b1 (f4_worksOff S) fun v4 =>
      b1 (f4_many v4) fun v6 =>
      if v6 < x1 then
        f4_odds_b191 k48 S x1 x2 v2 x7 x3 0
      else
        f4_odds_b191 k48 S x1 x2 v2 x7 x3 x8
    else
      if ((x7 >>> (x10 &&& 31)) &&& 1) = 1 then
        f4_odds_b90 k48 (f4_odds_b65 k48 n) S x1 x2 x3 x5 x7 x8 x10 1
      else
        f4_odds_b90 k48 (f4_odds_b65 k48 n) S x1 x2 x3 x5 x7 x8 x10 0
def f4_odds_b48 : Nat → Mem → Int32 → Int32 → Int64 → Int64 → Int32 → Option (Int32 × Mem)
  | 0, _, _, _, _, _, _ => none
  | n + 1, S, x1, x2, x3, x5, x7 => if (1 <<< ((gi S 0 12) &&& 31)) ≤ x7 then
      b2 (f4_fraction S x3 x5) fun v3 S4 =>
      some (v3, S4)
    else
      f4_odds_b65 (f4_odds_b48 n) FU S x1 x2 x3 x5 x7 1 0
def f4_odds (S : Mem) (x1 : Int32) (x2 : Int32) : Option (Int32 × Mem) :=
  b1 (f4_in (Int32.toInt64 x1) 0 7) fun v2 =>
  if v2 = 0 then
    some ((-1), S)
  else
    b1 (f4_in (Int32.toInt64 x2) 0 12) fun v5 =>
    if v5 = 0 then
      some ((-1), S)
    else
      if (gi S 0 12) = 0 then
        some ((-4), S)
      else
        b1 (f4_asides S) fun S9 =>
        f4_odds_b48 FU S9 x1 x2 0 0 0
def f4_mid_b53 : Nat → Mem → Int32 → Int64 → Int32 → Int32 → Int32 → Option (Int32 × Mem)
  | 0, _, _, _, _, _, _ => none
  | n + 1, S, x1, x2, x4, x5, x6 => if (gi S 0 12) ≤ x6 then
      b2 (f4_fraction S x2 12) fun v3 S4 =>
      some (v3, S4)
    else
      nm ((x2 + (Int32.toInt64 ((((x4 >>> (x6 &&& 31)) &&& 1) * x1) + (((x5 >>> (x6 &&& 31)) &&& 1) * (12 - x1))))) : Int64) fun v5 =>
      nm (x6 + 1 : Int32) fun v6 =>
      (f4_mid_b53 n) S x1 v5 x4 x5 v6
def f4_mid (S : Mem) (x1 : Int32) : Option (Int32 × Mem) :=
  b1 (f4_in (Int32.toInt64 x1) 0 12) fun v2 =>
  if v2 = 0 then
    some ((-1), S)
  else
    if (gi S 0 12) = 0 then
      some ((-4), S)
    else
      b1 (f4_worksOff S) fun v6 =>
      b1 (f4_asides S) fun S8 =>
      b1 (f4_goesBy S8) fun S10 =>
      b1 (f4_worksOff S10) fun v12 =>
      b1 (f4_backs S10) fun S14 =>
      f4_mid_b53 FU S14 x1 0 v6 v12 0
def f4_lots_b156 (k56 : Mem → Int32 → Int64 → Int32 → Option (Int32 × Mem)) (S : Mem) (x1 : Int32) (x3 : Int64) (x5 : Int32) : Option (Int32 × Mem) :=
  nm (x5 + 1 : Int32) fun v1 =>
  k56 S x1 x3 v1
def f4_lots_b56 : Nat → Mem → Int32 → Int64 → Int32 → Option (Int32 × Mem)
  | 0, _, _, _, _ => none
  | n + 1, S, x1, x3, x5 => if x1 ≤ x5 then
      gd (inb 1 9) <|
      some ((gi S 11 (ix 1)), S)
    else
      nm (((x3 * 48271) - (x3 * 48271) / 2147483647 * 2147483647) : Int64) fun v3 =>
      nm ((Int64.toInt32 (v3 - v3 / 8 * 8)) : Int32) fun v4 =>
      gd (decide (¬ (Int32.toInt64 (gi S 0 12)) = 0)) <|
      nm ((Int64.toInt32 ((v3 / 8) - (v3 / 8) / (Int32.toInt64 (gi S 0 12)) * (Int32.toInt64 (gi S 0 12)))) : Int32) fun v6 =>
      b1 (f4_notes S) fun S8 =>
      if v4 = 0 then
        b2 (f4_springs S8) fun v21 S22 =>
        f4_lots_b156 (f4_lots_b56 n) S22 x1 v3 x5
      else
        if v4 = 1 then
          b1 (f4_leavesNine S8 v6) fun S19 =>
          f4_lots_b156 (f4_lots_b56 n) S19 x1 v3 x5
        else
          if v4 = 2 then
            b1 (f4_takesNine S8 v6) fun S17 =>
            f4_lots_b156 (f4_lots_b56 n) S17 x1 v3 x5
          else
            gd (inb 0 9) <|
            if 99 ≤ (gi S8 11 (ix 0)) then
              f4_lots_b156 (f4_lots_b56 n) S8 x1 v3 x5
            else
              b1 (f4_goesBy S8) fun S15 =>
              f4_lots_b156 (f4_lots_b56 n) S15 x1 v3 x5
def f4_lots (S : Mem) (x1 : Int32) (x2 : Int32) : Option (Int32 × Mem) :=
  b1 (f4_in (Int32.toInt64 x1) 1 20) fun v2 =>
  if v2 = 0 then
    some ((-1), S)
  else
    b1 (f4_in (Int32.toInt64 x2) 1 2147483646) fun v5 =>
    if v5 = 0 then
      some ((-1), S)
    else
      if (gi S 0 12) = 0 then
        some ((-4), S)
      else
        if ((gi S 0 18) + x1) ≤ 40 then
          nm ((Int32.toInt64 x2) : Int64) fun v9 =>
          f4_lots_b56 FU S x1 v9 0
        else
          some ((-2), S)
def f4_asked (S : Mem) : Option Int32 :=
  some (gi S 0 2)
def f4_upper (S : Mem) : Option Int64 :=
  some (gl S 0)
def f4_lower (S : Mem) : Option Int64 :=
  some (gl S 1)
def f4_ofKind_b31 (k4 : Int32 → Int32 → Int32 → Option Int32) (S : Mem) (x1 : Int32) (x3 : Int32) (t0 : Int32) (t1 : Int32) : Option Int32 :=
  nm ((t0 + t1) : Int32) fun v1 =>
  nm (x3 + 1 : Int32) fun v2 =>
  k4 x1 v1 v2
def f4_ofKind_b4 (S : Mem) : Nat → Int32 → Int32 → Int32 → Option Int32
  | 0, _, _, _ => none
  | n + 1, x1, x2, x3 => if (gi S 0 12) ≤ x3 then
      some x2
    else
      gd (inb x3 7) <|
      b1 (f4_isOf (gi S 8 (ix x3)) x1) fun v4 =>
      if v4 = 0 then
        f4_ofKind_b31 (f4_ofKind_b4 S n) S x1 x3 x2 0
      else
        f4_ofKind_b31 (f4_ofKind_b4 S n) S x1 x3 x2 1
def f4_ofKind (S : Mem) (x1 : Int32) : Option Int32 :=
  f4_ofKind_b4 S FU x1 0 0
def f4_sumOf_b4 (S : Mem) : Nat → Int32 → Int32 → Int32 → Option Int32
  | 0, _, _, _ => none
  | n + 1, x1, x2, x3 => if (gi S 0 12) ≤ x3 then
      some x2
    else
      b1 (f4_told S x3 x1) fun v3 =>
      nm ((x2 + v3) : Int32) fun v4 =>
      nm (x3 + 1 : Int32) fun v5 =>
      (f4_sumOf_b4 S n) x1 v4 v5
def f4_sumOf (S : Mem) (x1 : Int32) : Option Int32 :=
  f4_sumOf_b4 S FU x1 0 0
def f4_there_b21 (k4 : Nat → Nat → Int32 → Int32 → Int32 → Option Int32) (S : Mem) (a0 : Nat) (a0n : Nat) (x1 : Int32) (x3 : Int32) (t0 : Int32) (t1 : Int32) : Option Int32 :=
  nm ((t0 + t1) : Int32) fun v1 =>
  nm (x3 + 1 : Int32) fun v2 =>
  k4 a0 a0n x1 v1 v2
def f4_there_b4 (S : Mem) : Nat → Nat → Nat → Int32 → Int32 → Int32 → Option Int32
  | 0, _, _, _, _, _ => none
  | n + 1, a0, a0n, x1, x2, x3 => if x1 ≤ x3 then
      some x2
    else
      gd (inb x3 a0n) <|
      if 0 ≤ (gi S a0 (ix x3)) then
        f4_there_b21 (f4_there_b4 S n) S a0 a0n x1 x3 x2 1
      else
        f4_there_b21 (f4_there_b4 S n) S a0 a0n x1 x3 x2 0
def f4_there (S : Mem) (a0 : Nat) (a0n : Nat) (x1 : Int32) : Option Int32 :=
  f4_there_b4 S FU a0 a0n x1 0 0
def f4_count (S : Mem) (x1 : Int32) : Option Int32 :=
  if x1 = 0 then
    some (gi S 0 12)
  else
    if x1 = 1 then
      gd (inb 0 9) <|
      some (gi S 11 (ix 0))
    else
      if x1 = 2 then
        some (gi S 0 18)
      else
        if x1 = 3 then
          gd (inb 1 9) <|
          some (gi S 11 (ix 1))
        else
          if x1 = 4 then
            b1 (f4_sumOf S 3) fun v9 =>
            some v9
          else
            if x1 = 5 then
              b1 (f4_sumOf S 6) fun v12 =>
              some v12
            else
              if x1 = 6 then
                b1 (f4_sumOf S 4) fun v15 =>
                some v15
              else
                if x1 = 7 then
                  b1 (f4_there S 2 6 6) fun v18 =>
                  some v18
                else
                  if x1 = 8 then
                    b1 (f4_there S 4 4 4) fun v21 =>
                    some v21
                  else
                    if x1 = 9 then
                      b1 (f4_there S 13 3 3) fun v24 =>
                      some v24
                    else
                      if x1 = 10 then
                        b1 (f4_ofKind S 1) fun v27 =>
                        some v27
                      else
                        if x1 = 11 then
                          b1 (f4_ofKind S 2) fun v30 =>
                          some v30
                        else
                          some (-1)
def f4_finding (S : Mem) : Option Int32 :=
  some (gi S 0 0)
def f4_findings (S : Mem) (x1 : Int32) : Option Int32 :=
  b1 (f4_in (Int32.toInt64 x1) 1 5) fun v2 =>
  if v2 = 0 then
    some (-1)
  else
    gd (inb x1 6) <|
    some (gi S 1 (ix x1))
def f4_digest_b197 (k175 : Int64 → Int32 → Option Int64) (S : Mem) : Nat → Int64 → Int32 → Int32 → Option Int64
  | 0, _, _, _ => none
  | n + 1, x1, x3, x4 => gd (inb x3 4) <|
    if (gi S 4 (ix x3)) ≤ x4 then
      nm (x3 + 1 : Int32) fun v3 =>
      k175 x1 v3
    else
      gd (inb ((60 * x3) + x4) 240) <|
      nm (((31 * x1) + (Int32.toInt64 (gi S 5 (ix ((60 * x3) + x4))))) : Int64) fun v5 =>
      nm (x4 + 1 : Int32) fun v6 =>
      (f4_digest_b197 k175 S n) v5 x3 v6
def f4_digest_b175 (S : Mem) : Nat → Int64 → Int32 → Option Int64
  | 0, _, _ => none
  | n + 1, x1, x3 => if 4 ≤ x3 then
      some x1
    else
      gd (inb x3 4) <|
      nm (((31 * x1) + (Int32.toInt64 (gi S 4 (ix x3)))) : Int64) fun v3 =>
      f4_digest_b197 (f4_digest_b175 S n) S FU v3 x3 0
def f4_digest_b130 (k107 : Int64 → Int32 → Option Int64) (S : Mem) : Nat → Int64 → Int32 → Int32 → Option Int64
  | 0, _, _, _ => none
  | n + 1, x1, x3, x4 => gd (inb x3 6) <|
    if (gi S 2 (ix x3)) ≤ x4 then
      nm (x3 + 1 : Int32) fun v3 =>
      k107 x1 v3
    else
      gd (inb ((40 * x3) + x4) 240) <|
      nm (((31 * x1) + (Int32.toInt64 (gi S 3 (ix ((40 * x3) + x4))))) : Int64) fun v5 =>
      nm (x4 + 1 : Int32) fun v6 =>
      (f4_digest_b130 k107 S n) v5 x3 v6
def f4_digest_b107 (S : Mem) : Nat → Int64 → Int32 → Option Int64
  | 0, _, _ => none
  | n + 1, x1, x3 => if 6 ≤ x3 then
      f4_digest_b175 S FU x1 0
    else
      gd (inb x3 6) <|
      nm (((31 * x1) + (Int32.toInt64 (gi S 2 (ix x3)))) : Int64) fun v3 =>
      f4_digest_b130 (f4_digest_b107 S n) S FU v3 x3 0
def f4_digest_b80 (S : Mem) : Nat → Int64 → Int32 → Option Int64
  | 0, _, _ => none
  | n + 1, x1, x3 => if 3 ≤ x3 then
      f4_digest_b107 S FU x1 0
    else
      gd (inb x3 3) <|
      nm (((31 * x1) + (Int32.toInt64 (gi S 13 (ix x3)))) : Int64) fun v3 =>
      nm (x3 + 1 : Int32) fun v4 =>
      (f4_digest_b80 S n) v3 v4
def f4_digest_b44 (k33 : Int64 → Int32 → Option Int64) (S : Mem) : Nat → Int64 → Int32 → Int32 → Option Int64
  | 0, _, _, _ => none
  | n + 1, x1, x3, x4 => if 7 ≤ x4 then
      nm (x3 + 1 : Int32) fun v2 =>
      k33 x1 v2
    else
      b1 (f4_told S x3 x4) fun v4 =>
      nm (((31 * x1) + (Int32.toInt64 v4)) : Int64) fun v5 =>
      nm (x4 + 1 : Int32) fun v6 =>
      (f4_digest_b44 k33 S n) v5 x3 v6
def f4_digest_b33 (S : Mem) : Nat → Int64 → Int32 → Option Int64
  | 0, _, _ => none
  | n + 1, x1, x3 => if (gi S 0 12) ≤ x3 then
      f4_digest_b80 S FU x1 0
    else
      f4_digest_b44 (f4_digest_b33 S n) S FU x1 x3 0
def f4_digest_b6 (S : Mem) : Nat → Int64 → Int32 → Option Int64
  | 0, _, _ => none
  | n + 1, x1, x3 => if 12 ≤ x3 then
      f4_digest_b33 S FU x1 0
    else
      b1 (f4_count S x3) fun v3 =>
      nm (((31 * x1) + (Int32.toInt64 v3)) : Int64) fun v4 =>
      nm (x3 + 1 : Int32) fun v5 =>
      (f4_digest_b6 S n) v4 v5
def f4_digest (S : Mem) : Option Int64 :=
  f4_digest_b6 S FU 17 0
