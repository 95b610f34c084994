/-! every method of both programs as a function, by program (wip/gen/dec.py) -/
def f_X0_copyFrom (k0 : Nat) (k1 : Nat) (M : Mem) : Option (Unit × Mem) :=
  stm (mcpy M (k1 + 1) (k0 + 1) 0 0 6) fun M1 =>
  stm (mcpy M1 (k1 + 2) (k0 + 2) 0 0 4) fun M2 =>
  some ((), M2)
def f_X0_isReached_77 (k1 : Nat) (M : Mem) (r_44 : Int32 → Option Int32) (x2 : Int32) : Option Int32 :=
  r_44 (x2 + 1)
def f_X0_isReached_44_b (k1 : Nat) (M : Mem) (r_44 : Int32 → Option Int32) (x2 : Int32) : Option Int32 :=
  if (4 : Int32) ≤ x2 then
    some (1 : Int32)
  else
    rd 4 (M.1 22) x2 fun v1 =>
    if v1 = (-2 : Int32) then
      f_X0_isReached_77 k1 M r_44 x2
    else
      rd 4 (M.1 22) x2 fun v2 =>
      rd 4 (M.1 (k1 + 3)) x2 fun v3 =>
      if v2 = v3 then
        f_X0_isReached_77 k1 M r_44 x2
      else
        some (0 : Int32)
def f_X0_isReached_44 (k1 : Nat) (M : Mem) : Nat → Int32 → Option Int32
  | 0 => fun _ => none
  | n + 1 => f_X0_isReached_44_b k1 M (f_X0_isReached_44 k1 M n)
def f_X0_isReached_36 (k1 : Nat) (M : Mem) (r_2 : Int32 → Option Int32) (x2 : Int32) : Option Int32 :=
  r_2 (x2 + 1)
def f_X0_isReached_2_b (k1 : Nat) (M : Mem) (r_2 : Int32 → Option Int32) (x2 : Int32) : Option Int32 :=
  if (M.1 k1 0) ≤ x2 then
    f_X0_isReached_44 k1 M FU (0 : Int32)
  else
    rd 6 (M.1 21) x2 fun v1 =>
    if v1 = (0 : Int32) then
      f_X0_isReached_36 k1 M r_2 x2
    else
      rd 6 (M.1 21) x2 fun v2 =>
      rd 6 (M.1 (k1 + 1)) x2 fun v3 =>
      if v2 = v3 then
        f_X0_isReached_36 k1 M r_2 x2
      else
        some (0 : Int32)
def f_X0_isReached_2 (k1 : Nat) (M : Mem) : Nat → Int32 → Option Int32
  | 0 => fun _ => none
  | n + 1 => f_X0_isReached_2_b k1 M (f_X0_isReached_2 k1 M n)
def f_X0_isReached (k1 : Nat) (M : Mem) : Option Int32 :=
  f_X0_isReached_2 k1 M FU (0 : Int32)
def f_X1_copyFrom (k0 : Nat) (k1 : Nat) (M : Mem) : Option (Unit × Mem) :=
  stm (mset M k0 0 (M.1 k1 0)) fun M1 =>
  stm (mset M1 k0 1 (M1.1 k1 1)) fun M2 =>
  stm (mset M2 k0 2 (M2.1 k1 2)) fun M3 =>
  stm (mcpy M3 (k1 + 1) (k0 + 1) 0 0 6) fun M4 =>
  stm (mcpy M4 (k1 + 2) (k0 + 2) 0 0 6) fun M5 =>
  stm (mcpy M5 (k1 + 3) (k0 + 3) 0 0 6) fun M6 =>
  stm (mcpy M6 (k1 + 4) (k0 + 4) 0 0 6) fun M7 =>
  stm (mcpy M7 (k1 + 5) (k0 + 5) 0 0 48) fun M8 =>
  stm (mcpy M8 (k1 + 6) (k0 + 6) 0 0 48) fun M9 =>
  stm (mcpy M9 (k1 + 7) (k0 + 7) 0 0 48) fun M10 =>
  some ((), M10)
def f_X9_isIn (x0 : Int32) (x1 : Int32) (x2 : Int32) (M : Mem) : Option Int32 :=
  if x0 < x1 then
    some (0 : Int32)
  else
    if x2 < x0 then
      some (0 : Int32)
    else
      some (1 : Int32)
def f_X1_hasTongue (x1 : Int32) (M : Mem) : Option Int32 :=
  cp (f_X9_isIn x1 (0 : Int32) ((M.1 6 0) - (1 : Int32)) M) fun v1 =>
  rz v1 (some v1)
def f_X1_hasWords (x1 : Int32) (M : Mem) : Option Int32 :=
  cp (f_X1_hasTongue x1 M) fun v1 =>
  if v1 = (0 : Int32) then
    some (0 : Int32)
  else
    rd 6 (M.1 10) x1 fun v2 =>
    if v2 ≤ (0 : Int32) then
      some (0 : Int32)
    else
      some (1 : Int32)
def f_X1_hasWord (x1 : Int32) (x2 : Int32) (M : Mem) : Option Int32 :=
  cp (f_X1_hasTongue x1 M) fun v1 =>
  if v1 = (0 : Int32) then
    some (0 : Int32)
  else
    rd 6 (M.1 10) x1 fun v2 =>
    cp (f_X9_isIn x2 (0 : Int32) (v2 - (1 : Int32)) M) fun v3 =>
    if v3 = (0 : Int32) then
      some (0 : Int32)
    else
      some (1 : Int32)
def f_X1_isWordAt (x1 : Int32) (M : Mem) : Option Int32 :=
  if x1 < (0 : Int32) then
    some (0 : Int32)
  else
    cp (f_X1_hasWord (x1 / (8 : Int32)) (x1 % (8 : Int32)) M) fun v1 =>
    if v1 = (0 : Int32) then
      some (0 : Int32)
    else
      some (1 : Int32)
def f_X1_addTongue (x1 : Int32) (x2 : Int32) (x3 : Int32) (M : Mem) : Option (Int32 × Mem) :=
  ck 6 (M.1 6 0) <| stm (mset M 7 (M.1 6 0).toNatClampNeg x1) fun M1 =>
  ck 6 (M1.1 6 0) <| stm (mset M1 8 (M1.1 6 0).toNatClampNeg x2) fun M2 =>
  ck 6 (M2.1 6 0) <| stm (mset M2 9 (M2.1 6 0).toNatClampNeg x3) fun M3 =>
  ck 6 (M3.1 6 0) <| stm (mset M3 10 (M3.1 6 0).toNatClampNeg (0 : Int32)) fun M4 =>
  stm (mset M4 6 0 ((M4.1 6 0) + (1 : Int32))) fun M5 =>
  some (((M5.1 6 0) - (1 : Int32)), M5)
def f_X1_addWord (x1 : Int32) (x2 : Int32) (x3 : Int32) (x4 : Int32) (M : Mem) : Option (Int32 × Mem) :=
  rd 6 (M.1 10) x1 fun v1 =>
  ck 48 ((x1 * (8 : Int32)) + v1) <| stm (mset M 11 ((x1 * (8 : Int32)) + v1).toNatClampNeg x2) fun M1 =>
  ck 48 ((x1 * (8 : Int32)) + v1) <| stm (mset M1 12 ((x1 * (8 : Int32)) + v1).toNatClampNeg x3) fun M2 =>
  ck 48 ((x1 * (8 : Int32)) + v1) <| stm (mset M2 13 ((x1 * (8 : Int32)) + v1).toNatClampNeg x4) fun M3 =>
  rd 6 (M3.1 10) x1 fun v2 =>
  ck 6 x1 <| stm (mset M3 10 x1.toNatClampNeg (v2 + (1 : Int32))) fun M4 =>
  some (v1, M4)
def f_X1_voiceBehind_4_b (M : Mem) (r_4 : Int32 → Option Int32) (x2 : Int32) : Option Int32 :=
  if (M.1 6 0) ≤ x2 then
    some (-1 : Int32)
  else
    cp (f_X1_hasWords x2 M) fun v1 =>
    if v1 = (0 : Int32) then
      r_4 (x2 + 1)
    else
      some x2
def f_X1_voiceBehind_4 (M : Mem) : Nat → Int32 → Option Int32
  | 0 => fun _ => none
  | n + 1 => f_X1_voiceBehind_4_b M (f_X1_voiceBehind_4 M n)
def f_X1_voiceBehind (x1 : Int32) (M : Mem) : Option Int32 :=
  f_X1_voiceBehind_4 M FU (x1 + (1 : Int32))
def f_J6_bitCount_0f7a4 (x0 : Int32) (M : Mem) : Option Int32 :=
  some ((((((((x0 - (((x0.toUInt32 >>> ((1 : Int32).toUInt32 &&& Int32.toUInt32 31)).toInt32) &&& (1431655765 : Int32))) &&& (858993459 : Int32)) + ((((x0 - (((x0.toUInt32 >>> ((1 : Int32).toUInt32 &&& Int32.toUInt32 31)).toInt32) &&& (1431655765 : Int32))).toUInt32 >>> ((2 : Int32).toUInt32 &&& Int32.toUInt32 31)).toInt32) &&& (858993459 : Int32))) + (((((x0 - (((x0.toUInt32 >>> ((1 : Int32).toUInt32 &&& Int32.toUInt32 31)).toInt32) &&& (1431655765 : Int32))) &&& (858993459 : Int32)) + ((((x0 - (((x0.toUInt32 >>> ((1 : Int32).toUInt32 &&& Int32.toUInt32 31)).toInt32) &&& (1431655765 : Int32))).toUInt32 >>> ((2 : Int32).toUInt32 &&& Int32.toUInt32 31)).toInt32) &&& (858993459 : Int32))).toUInt32 >>> ((4 : Int32).toUInt32 &&& Int32.toUInt32 31)).toInt32)) &&& (252645135 : Int32)) + (((((((x0 - (((x0.toUInt32 >>> ((1 : Int32).toUInt32 &&& Int32.toUInt32 31)).toInt32) &&& (1431655765 : Int32))) &&& (858993459 : Int32)) + ((((x0 - (((x0.toUInt32 >>> ((1 : Int32).toUInt32 &&& Int32.toUInt32 31)).toInt32) &&& (1431655765 : Int32))).toUInt32 >>> ((2 : Int32).toUInt32 &&& Int32.toUInt32 31)).toInt32) &&& (858993459 : Int32))) + (((((x0 - (((x0.toUInt32 >>> ((1 : Int32).toUInt32 &&& Int32.toUInt32 31)).toInt32) &&& (1431655765 : Int32))) &&& (858993459 : Int32)) + ((((x0 - (((x0.toUInt32 >>> ((1 : Int32).toUInt32 &&& Int32.toUInt32 31)).toInt32) &&& (1431655765 : Int32))).toUInt32 >>> ((2 : Int32).toUInt32 &&& Int32.toUInt32 31)).toInt32) &&& (858993459 : Int32))).toUInt32 >>> ((4 : Int32).toUInt32 &&& Int32.toUInt32 31)).toInt32)) &&& (252645135 : Int32)).toUInt32 >>> ((8 : Int32).toUInt32 &&& Int32.toUInt32 31)).toInt32)) + ((((((((x0 - (((x0.toUInt32 >>> ((1 : Int32).toUInt32 &&& Int32.toUInt32 31)).toInt32) &&& (1431655765 : Int32))) &&& (858993459 : Int32)) + ((((x0 - (((x0.toUInt32 >>> ((1 : Int32).toUInt32 &&& Int32.toUInt32 31)).toInt32) &&& (1431655765 : Int32))).toUInt32 >>> ((2 : Int32).toUInt32 &&& Int32.toUInt32 31)).toInt32) &&& (858993459 : Int32))) + (((((x0 - (((x0.toUInt32 >>> ((1 : Int32).toUInt32 &&& Int32.toUInt32 31)).toInt32) &&& (1431655765 : Int32))) &&& (858993459 : Int32)) + ((((x0 - (((x0.toUInt32 >>> ((1 : Int32).toUInt32 &&& Int32.toUInt32 31)).toInt32) &&& (1431655765 : Int32))).toUInt32 >>> ((2 : Int32).toUInt32 &&& Int32.toUInt32 31)).toInt32) &&& (858993459 : Int32))).toUInt32 >>> ((4 : Int32).toUInt32 &&& Int32.toUInt32 31)).toInt32)) &&& (252645135 : Int32)) + (((((((x0 - (((x0.toUInt32 >>> ((1 : Int32).toUInt32 &&& Int32.toUInt32 31)).toInt32) &&& (1431655765 : Int32))) &&& (858993459 : Int32)) + ((((x0 - (((x0.toUInt32 >>> ((1 : Int32).toUInt32 &&& Int32.toUInt32 31)).toInt32) &&& (1431655765 : Int32))).toUInt32 >>> ((2 : Int32).toUInt32 &&& Int32.toUInt32 31)).toInt32) &&& (858993459 : Int32))) + (((((x0 - (((x0.toUInt32 >>> ((1 : Int32).toUInt32 &&& Int32.toUInt32 31)).toInt32) &&& (1431655765 : Int32))) &&& (858993459 : Int32)) + ((((x0 - (((x0.toUInt32 >>> ((1 : Int32).toUInt32 &&& Int32.toUInt32 31)).toInt32) &&& (1431655765 : Int32))).toUInt32 >>> ((2 : Int32).toUInt32 &&& Int32.toUInt32 31)).toInt32) &&& (858993459 : Int32))).toUInt32 >>> ((4 : Int32).toUInt32 &&& Int32.toUInt32 31)).toInt32)) &&& (252645135 : Int32)).toUInt32 >>> ((8 : Int32).toUInt32 &&& Int32.toUInt32 31)).toInt32)).toUInt32 >>> ((16 : Int32).toUInt32 &&& Int32.toUInt32 31)).toInt32)) &&& (63 : Int32))
def f_X1_costOf_137 (M : Mem) (t1 : Int32) (t0 : Int32) : Option Int32 :=
  some (t0 + t1)
def f_X1_costOf (x1 : Int32) (x2 : Int32) (x3 : Int32) (x4 : Int32) (M : Mem) : Option Int32 :=
  rd 48 (M.1 11) x4 fun v1 =>
  cp (f_J6_bitCount_0f7a4 (x2 &&& (v1 ^^^ (-1 : Int32))) M) fun v2 =>
  rd 48 (M.1 11) x4 fun v3 =>
  cp (f_J6_bitCount_0f7a4 (v3 &&& (x2 ^^^ (-1 : Int32))) M) fun v4 =>
  if x1 = 0 then
    some (((M.1 6 1) * v2) + ((M.1 6 2) * v4))
  else
    if x1 = 1 then
      some ((((M.1 6 1) * v2) + ((M.1 6 2) * v4)) + ((M.1 6 2) * v4))
    else
      if x1 = 2 then
        some ((((M.1 6 1) * v2) + ((M.1 6 2) * v4)) + ((M.1 6 1) * v2))
      else
        if x1 = 3 then
          rd 48 (M.1 13) x4 fun v5 =>
          some ((((M.1 6 1) * v2) + ((M.1 6 2) * v4)) - v5)
        else
          if x1 = 4 then
            if x3 = (-1 : Int32) then
              f_X1_costOf_137 M (0 : Int32) ((((M.1 6 1) * v2) + ((M.1 6 2) * v4)) + ((M.1 6 2) * v4))
            else
              rd 48 (M.1 12) x4 fun v6 =>
              f_X1_costOf_137 M (if 0 ≤ (v6 - x3) then (v6 - x3) else 0 - (v6 - x3)) ((((M.1 6 1) * v2) + ((M.1 6 2) * v4)) + ((M.1 6 2) * v4))
          else
            if x1 = 5 then
              rd 48 (M.1 11) x4 fun v7 =>
              if x2 = v7 then
                some (((M.1 6 1) * v2) + ((M.1 6 2) * v4))
              else
                some ((((M.1 6 1) * v2) + ((M.1 6 2) * v4)) + (5 : Int32))
            else
              some (((M.1 6 1) * v2) + ((M.1 6 2) * v4))
def f_X1_cheapest_93 (M : Mem) (r_28 : Int32 → Int32 → Int32 → Option Int32) (x1 : Int32) (x2 : Int32) (x3 : Int32) (x4 : Int32) (x5 : Int32) (x6 : Int32) (x7 : Int32) (x8 : Int32) : Option Int32 :=
  r_28 x6 x7 (x8 + 1)
def f_X1_cheapest_85 (M : Mem) (r_28 : Int32 → Int32 → Int32 → Option Int32) (x1 : Int32) (x2 : Int32) (x3 : Int32) (x4 : Int32) (x5 : Int32) (x8 : Int32) (x9 : Int32) : Option Int32 :=
  f_X1_cheapest_93 M r_28 x1 x2 x3 x4 x5 x8 x9 x8
def f_X1_cheapest_28_b (M : Mem) (r_28 : Int32 → Int32 → Int32 → Option Int32) (x1 : Int32) (x2 : Int32) (x3 : Int32) (x4 : Int32) (x5 : Int32) (x6 : Int32) (x7 : Int32) (x8 : Int32) : Option Int32 :=
  rd 6 (M.1 10) x2 fun v1 =>
  if (x5 + v1) ≤ x8 then
    some x6
  else
    cp (f_X1_costOf x1 x3 x4 x8 M) fun v2 =>
    if v2 < x7 then
      f_X1_cheapest_85 M r_28 x1 x2 x3 x4 x5 x8 v2
    else
      if v2 = x7 then
        rd 48 (M.1 13) x8 fun v3 =>
        rd 48 (M.1 13) x6 fun v4 =>
        if v3 ≤ v4 then
          f_X1_cheapest_93 M r_28 x1 x2 x3 x4 x5 x6 x7 x8
        else
          f_X1_cheapest_85 M r_28 x1 x2 x3 x4 x5 x8 v2
      else
        f_X1_cheapest_93 M r_28 x1 x2 x3 x4 x5 x6 x7 x8
def f_X1_cheapest_28 (M : Mem) (x1 : Int32) (x2 : Int32) (x3 : Int32) (x4 : Int32) (x5 : Int32) : Nat → Int32 → Int32 → Int32 → Option Int32
  | 0 => fun _ _ _ => none
  | n + 1 => f_X1_cheapest_28_b M (f_X1_cheapest_28 M x1 x2 x3 x4 x5 n) x1 x2 x3 x4 x5
def f_X1_cheapest (x1 : Int32) (x2 : Int32) (x3 : Int32) (x4 : Int32) (M : Mem) : Option Int32 :=
  cp (f_X1_costOf x1 x3 x4 (x2 * (8 : Int32)) M) fun v1 =>
  f_X1_cheapest_28 M x1 x2 x3 x4 (x2 * (8 : Int32)) FU (x2 * (8 : Int32)) v1 ((x2 * (8 : Int32)) + (1 : Int32))
def f_X1_formIn_38 (M : Mem) (x1 : Int32) (x2 : Int32) (x3 : Int32) (t0 : Int32) : Option Int32 :=
  if t0 = (0 : Int32) then
    some x3
  else
    rd 6 (M.1 9) x1 fun v1 =>
    some ((v1 >>> (x2 &&& 31)) &&& (1 : Int32))
def f_X1_formIn_37 (M : Mem) (x1 : Int32) (x2 : Int32) (x3 : Int32) : Option Int32 :=
  f_X1_formIn_38 M x1 x2 x3 (0 : Int32)
def f_X1_formIn (x1 : Int32) (x2 : Int32) (x3 : Int32) (M : Mem) : Option Int32 :=
  rd 6 (M.1 8) x1 fun v1 =>
  if ((v1 >>> (x2 &&& 31)) &&& (1 : Int32)) = (0 : Int32) then
    some (-1 : Int32)
  else
    if x3 = (-1 : Int32) then
      rd 6 (M.1 7) x1 fun v2 =>
      if ((v2 >>> (x2 &&& 31)) &&& (1 : Int32)) = (0 : Int32) then
        f_X1_formIn_37 M x1 x2 x3
      else
        f_X1_formIn_38 M x1 x2 x3 (1 : Int32)
    else
      f_X1_formIn_37 M x1 x2 x3
def f_X1_carry_80_b (k1 : Nat) (r_80 : Int32 → Mem → Option (Unit × Mem)) (x3 : Int32) (x4 : Int32) (M : Mem) : Option (Unit × Mem) :=
  if (4 : Int32) ≤ x4 then
    some ((), M)
  else
    rd 4 (M.1 (k1 + 3)) x4 fun v1 =>
    cp (f_X1_formIn x3 x4 v1 M) fun v2 =>
    ck 4 x4 <| stm (mset M (k1 + 3) x4.toNatClampNeg v2) fun M1 =>
    r_80 (x4 + 1) M1
def f_X1_carry_80 (k1 : Nat) (x3 : Int32) : Nat → Int32 → Mem → Option (Unit × Mem)
  | 0 => fun _ _ => none
  | n + 1 => f_X1_carry_80_b k1 (f_X1_carry_80 k1 x3 n) x3
def f_X1_carry_12_b (k1 : Nat) (r_12 : Int32 → Mem → Option (Unit × Mem)) (x2 : Int32) (x3 : Int32) (x4 : Int32) (M : Mem) : Option (Unit × Mem) :=
  if (M.1 k1 0) ≤ x4 then
    f_X1_carry_80 k1 x3 FU (0 : Int32) M
  else
    rd 6 (M.1 (k1 + 1)) x4 fun v1 =>
    rd 6 (M.1 (k1 + 2)) x4 fun v2 =>
    cp (f_X1_cheapest x2 x3 v1 v2 M) fun v3 =>
    rd 48 (M.1 11) v3 fun v4 =>
    ck 6 x4 <| stm (mset M (k1 + 1) x4.toNatClampNeg v4) fun M1 =>
    rd 48 (M1.1 12) v3 fun v5 =>
    ck 6 x4 <| stm (mset M1 (k1 + 2) x4.toNatClampNeg v5) fun M2 =>
    r_12 (x4 + 1) M2
def f_X1_carry_12 (k1 : Nat) (x2 : Int32) (x3 : Int32) : Nat → Int32 → Mem → Option (Unit × Mem)
  | 0 => fun _ _ => none
  | n + 1 => f_X1_carry_12_b k1 (f_X1_carry_12 k1 x2 x3 n) x2 x3
def f_X1_carry (k1 : Nat) (x2 : Int32) (x3 : Int32) (M : Mem) : Option (Unit × Mem) :=
  cp (f_X1_hasWords x3 M) fun v1 =>
  if v1 = (0 : Int32) then
    some ((), M)
  else
    f_X1_carry_12 k1 x2 x3 FU (0 : Int32) M
def f_X1_isBorne_63 (M : Mem) (r_3 : Int32 → Option Int32) (x1 : Int32) (x2 : Int32) (x3 : Int32) (x4 : Int32) : Option Int32 :=
  r_3 (x4 + 1)
def f_X1_isBorne_3_b (M : Mem) (r_3 : Int32 → Option Int32) (x1 : Int32) (x2 : Int32) (x3 : Int32) (x4 : Int32) : Option Int32 :=
  if (M.1 6 0) ≤ x4 then
    some (1 : Int32)
  else
    cp (f_X1_hasWords x4 M) fun v1 =>
    if v1 = (0 : Int32) then
      f_X1_isBorne_63 M r_3 x1 x2 x3 x4
    else
      cp (f_X1_cheapest x1 x4 x3 (-1 : Int32) M) fun v2 =>
      rd 48 (M.1 11) v2 fun v3 =>
      rd 48 (M.1 12) v2 fun v4 =>
      cp (f_X1_cheapest x1 x2 v3 v4 M) fun v5 =>
      rd 48 (M.1 11) v5 fun v6 =>
      if v6 = x3 then
        f_X1_isBorne_63 M r_3 x1 x2 x3 x4
      else
        some (0 : Int32)
def f_X1_isBorne_3 (M : Mem) (x1 : Int32) (x2 : Int32) (x3 : Int32) : Nat → Int32 → Option Int32
  | 0 => fun _ => none
  | n + 1 => f_X1_isBorne_3_b M (f_X1_isBorne_3 M x1 x2 x3 n) x1 x2 x3
def f_X1_isBorne (x1 : Int32) (x2 : Int32) (x3 : Int32) (M : Mem) : Option Int32 :=
  f_X1_isBorne_3 M x1 x2 x3 FU (0 : Int32)
def f_X1_isToldFromThoseAhead_44 (M : Mem) (r_2 : Int32 → Option Int32) (x1 : Int32) (x2 : Int32) (x3 : Int32) : Option Int32 :=
  r_2 (x3 + 1)
def f_X1_isToldFromThoseAhead_2_b (M : Mem) (r_2 : Int32 → Option Int32) (x1 : Int32) (x2 : Int32) (x3 : Int32) : Option Int32 :=
  if x1 ≤ x3 then
    some (1 : Int32)
  else
    rd 48 (M.1 11) x1 fun v1 =>
    rd 48 (M.1 11) x3 fun v2 =>
    if (v1 ^^^ v2) = (0 : Int32) then
      f_X1_isToldFromThoseAhead_44 M r_2 x1 x2 x3
    else
      if ((v1 ^^^ v2) &&& x2) = (0 : Int32) then
        cp (f_X1_isWordAt x3 M) fun v3 =>
        if v3 = (0 : Int32) then
          f_X1_isToldFromThoseAhead_44 M r_2 x1 x2 x3
        else
          some (0 : Int32)
      else
        f_X1_isToldFromThoseAhead_44 M r_2 x1 x2 x3
def f_X1_isToldFromThoseAhead_2 (M : Mem) (x1 : Int32) (x2 : Int32) : Nat → Int32 → Option Int32
  | 0 => fun _ => none
  | n + 1 => f_X1_isToldFromThoseAhead_2_b M (f_X1_isToldFromThoseAhead_2 M x1 x2 n) x1 x2
def f_X1_isToldFromThoseAhead (x1 : Int32) (x2 : Int32) (M : Mem) : Option Int32 :=
  f_X1_isToldFromThoseAhead_2 M x1 x2 FU (0 : Int32)
def f_X1_isToldApartBy_27 (M : Mem) (r_2 : Int32 → Option Int32) (x1 : Int32) (x2 : Int32) : Option Int32 :=
  r_2 (x2 + 1)
def f_X1_isToldApartBy_2_b (M : Mem) (r_2 : Int32 → Option Int32) (x1 : Int32) (x2 : Int32) : Option Int32 :=
  if (48 : Int32) ≤ x2 then
    some (1 : Int32)
  else
    cp (f_X1_isWordAt x2 M) fun v1 =>
    if v1 = (0 : Int32) then
      f_X1_isToldApartBy_27 M r_2 x1 x2
    else
      cp (f_X1_isToldFromThoseAhead x2 x1 M) fun v2 =>
      if v2 = (0 : Int32) then
        some (0 : Int32)
      else
        f_X1_isToldApartBy_27 M r_2 x1 x2
def f_X1_isToldApartBy_2 (M : Mem) (x1 : Int32) : Nat → Int32 → Option Int32
  | 0 => fun _ => none
  | n + 1 => f_X1_isToldApartBy_2_b M (f_X1_isToldApartBy_2 M x1 n) x1
def f_X1_isToldApartBy (x1 : Int32) (M : Mem) : Option Int32 :=
  f_X1_isToldApartBy_2 M x1 FU (0 : Int32)
def f_X9_mix (x0 : Int64) (x2 : Int64) (M : Mem) : Option Int64 :=
  some (((31 : Int64) * x0) + x2)
def f_X1_mixTongues_56_b (M : Mem) (r_5 : Int64 → Int32 → Option Int64) (r_56 : Int64 → Int32 → Option Int64) (x5 : Int32) (x3 : Int64) (x6 : Int32) : Option Int64 :=
  rd 6 (M.1 10) x5 fun v1 =>
  if ((x5 * (8 : Int32)) + v1) ≤ x6 then
    r_5 x3 (x5 + 1)
  else
    rd 48 (M.1 11) x6 fun v2 =>
    cp (f_X9_mix x3 v2.toInt64 M) fun v3 =>
    rd 48 (M.1 12) x6 fun v4 =>
    cp (f_X9_mix v3 v4.toInt64 M) fun v5 =>
    rd 48 (M.1 13) x6 fun v6 =>
    cp (f_X9_mix v5 v6.toInt64 M) fun v7 =>
    r_56 v7 (x6 + 1)
def f_X1_mixTongues_56 (M : Mem) (r_5 : Int64 → Int32 → Option Int64) (x5 : Int32) : Nat → Int64 → Int32 → Option Int64
  | 0 => fun _ _ => none
  | n + 1 => f_X1_mixTongues_56_b M r_5 (f_X1_mixTongues_56 M r_5 x5 n) x5
def f_X1_mixTongues_5_b (M : Mem) (r_5 : Int64 → Int32 → Option Int64) (x3 : Int64) (x5 : Int32) : Option Int64 :=
  if (M.1 6 0) ≤ x5 then
    cp (f_X9_mix x3 ((M.1 6 1).toInt64) M) fun v1 =>
    cp (f_X9_mix v1 ((M.1 6 2).toInt64) M) fun v2 =>
    some v2
  else
    rd 6 (M.1 7) x5 fun v3 =>
    cp (f_X9_mix x3 v3.toInt64 M) fun v4 =>
    rd 6 (M.1 8) x5 fun v5 =>
    cp (f_X9_mix v4 v5.toInt64 M) fun v6 =>
    rd 6 (M.1 9) x5 fun v7 =>
    cp (f_X9_mix v6 v7.toInt64 M) fun v8 =>
    f_X1_mixTongues_56 M r_5 x5 FU v8 (x5 * (8 : Int32))
def f_X1_mixTongues_5 (M : Mem) : Nat → Int64 → Int32 → Option Int64
  | 0 => fun _ _ => none
  | n + 1 => f_X1_mixTongues_5_b M (f_X1_mixTongues_5 M n)
def f_X1_mixTongues (x1 : Int64) (M : Mem) : Option Int64 :=
  f_X1_mixTongues_5 M FU x1 (0 : Int32)
def f_X2_copyFrom (k0 : Nat) (k1 : Nat) (M : Mem) : Option (Unit × Mem) :=
  stm (mset M k0 0 (M.1 k1 0)) fun M1 =>
  stm (mcpy M1 (k1 + 1) (k0 + 1) 0 0 24) fun M2 =>
  stm (mcpy M2 (k1 + 2) (k0 + 2) 0 0 24) fun M3 =>
  some ((), M3)
def f_X2_behind (x1 : Int32) (x2 : Int32) (M : Mem) : Option Int32 :=
  rd 24 (M.1 24) x1 fun v1 =>
  if v1 = x2 then
    rd 24 (M.1 25) x1 fun v4 =>
    some v4
  else
    rd 24 (M.1 25) x1 fun v2 =>
    if v2 = x2 then
      rd 24 (M.1 24) x1 fun v3 =>
      some v3
    else
      some (-1 : Int32)
def f_X2_has_2_b (M : Mem) (r_2 : Int32 → Option Int32) (x1 : Int32) (x2 : Int32) (x3 : Int32) : Option Int32 :=
  if (M.1 23 0) ≤ x3 then
    some (0 : Int32)
  else
    cp (f_X2_behind x3 x1 M) fun v1 =>
    if v1 = x2 then
      some (1 : Int32)
    else
      r_2 (x3 + 1)
def f_X2_has_2 (M : Mem) (x1 : Int32) (x2 : Int32) : Nat → Int32 → Option Int32
  | 0 => fun _ => none
  | n + 1 => f_X2_has_2_b M (f_X2_has_2 M x1 x2 n) x1 x2
def f_X2_has (x1 : Int32) (x2 : Int32) (M : Mem) : Option Int32 :=
  f_X2_has_2 M x1 x2 FU (0 : Int32)
def f_X2_add (x1 : Int32) (x2 : Int32) (M : Mem) : Option (Int32 × Mem) :=
  ck 24 (M.1 23 0) <| stm (mset M 24 (M.1 23 0).toNatClampNeg x1) fun M1 =>
  ck 24 (M1.1 23 0) <| stm (mset M1 25 (M1.1 23 0).toNatClampNeg x2) fun M2 =>
  stm (mset M2 23 0 ((M2.1 23 0) + (1 : Int32))) fun M3 =>
  some (((M3.1 23 0) - (1 : Int32)), M3)
def f_X2_mixPairs_5_b (M : Mem) (r_5 : Int64 → Int32 → Option Int64) (x3 : Int64) (x5 : Int32) : Option Int64 :=
  if (M.1 23 0) ≤ x5 then
    some x3
  else
    rd 24 (M.1 24) x5 fun v1 =>
    cp (f_X9_mix x3 ((v1 / (8 : Int32)).toInt64) M) fun v2 =>
    rd 24 (M.1 24) x5 fun v3 =>
    cp (f_X9_mix v2 ((v3 % (8 : Int32)).toInt64) M) fun v4 =>
    rd 24 (M.1 25) x5 fun v5 =>
    cp (f_X9_mix v4 ((v5 / (8 : Int32)).toInt64) M) fun v6 =>
    rd 24 (M.1 25) x5 fun v7 =>
    cp (f_X9_mix v6 ((v7 % (8 : Int32)).toInt64) M) fun v8 =>
    r_5 v8 (x5 + 1)
def f_X2_mixPairs_5 (M : Mem) : Nat → Int64 → Int32 → Option Int64
  | 0 => fun _ _ => none
  | n + 1 => f_X2_mixPairs_5_b M (f_X2_mixPairs_5 M n)
def f_X2_mixPairs (x1 : Int64) (M : Mem) : Option Int64 :=
  f_X2_mixPairs_5 M FU x1 (0 : Int32)
def f_X3_copyFrom (k0 : Nat) (k1 : Nat) (M : Mem) : Option (Unit × Mem) :=
  stm (mset M k0 0 (M.1 k1 0)) fun M1 =>
  stm (mcpy M1 (k1 + 1) (k0 + 1) 0 0 60) fun M2 =>
  some ((), M2)
def f_X3_add_5_b (r_5 : Int32 → Mem → Option (Unit × Mem)) (x1 : Int64) (x4 : Int32) (M : Mem) : Option (Unit × Mem) :=
  if x4 < (0 : Int32) then
    some ((), M)
  else
    if (60 : Int32) ≤ (M.1 18 0) then
      some ((), M)
    else
      ck 60 (M.1 18 0) <| stm (mset M 19 (M.1 18 0).toNatClampNeg ((((x1.toUInt64 >>> (((8 : Int32) * x4).toInt64.toUInt64 &&& Int64.toUInt64 63)).toInt64) &&& (255 : Int64)).toInt32)) fun M1 =>
      stm (mset M1 18 0 ((M1.1 18 0) + (1 : Int32))) fun M2 =>
      r_5 (x4 + (-1)) M2
def f_X3_add_5 (x1 : Int64) : Nat → Int32 → Mem → Option (Unit × Mem)
  | 0 => fun _ _ => none
  | n + 1 => f_X3_add_5_b (f_X3_add_5 x1 n) x1
def f_X3_add (x1 : Int64) (x3 : Int32) (M : Mem) : Option (Unit × Mem) :=
  f_X3_add_5 x1 FU (x3 - (1 : Int32)) M
def f_J7_fill_53178_5_b (q0 : Nat) (n0 : Nat) (r_5 : Int32 → Mem → Option (Unit × Mem)) (x1 : Int32) (x3 : Int32) (x2 : Int32) (M : Mem) : Option (Unit × Mem) :=
  if x3 ≤ x2 then
    some ((), M)
  else
    ck n0 x2 <| stm (mset M q0 x2.toNatClampNeg x1) fun M1 =>
    r_5 (x2 + 1) M1
def f_J7_fill_53178_5 (q0 : Nat) (n0 : Nat) (x1 : Int32) (x3 : Int32) : Nat → Int32 → Mem → Option (Unit × Mem)
  | 0 => fun _ _ => none
  | n + 1 => f_J7_fill_53178_5_b q0 n0 (f_J7_fill_53178_5 q0 n0 x1 x3 n) x1 x3
def f_J7_fill_53178 (q0 : Nat) (n0 : Nat) (x1 : Int32) (M : Mem) : Option (Unit × Mem) :=
  f_J7_fill_53178_5 q0 n0 x1 (Int32.ofNat n0) FU (0 : Int32) M
def f_X4_addTo_26 (t3 : Int32) (t2 : Int32) (t1 : Int32) (M : Mem) : Option (Unit × Mem) :=
  ck 24 t1 <| stm (mset M 98 t1.toNatClampNeg (t2 + t3)) fun M1 =>
  some ((), M1)
def f_X4_addTo (x1 : Int32) (x2 : Int32) (M : Mem) : Option (Unit × Mem) :=
  rd 24 (M.1 97) x1 fun v1 =>
  ck 24 x1 <| stm (mset M 97 x1.toNatClampNeg (v1 + (1 : Int32))) fun M1 =>
  rd 24 (M1.1 98) x1 fun v2 =>
  if x2 = (0 : Int32) then
    f_X4_addTo_26 (0 : Int32) v2 x1 M1
  else
    f_X4_addTo_26 (1 : Int32) v2 x1 M1
def f_X4_close_124 (r_3 : Int32 → Mem → Option (Unit × Mem)) (x2 : Int32) (x3 : Int32) (x4 : Int32) (x5 : Int32) (x6 : Int32) (M : Mem) : Option (Unit × Mem) :=
  r_3 (x6 + 1) M
def f_X4_close_121 (r_3 : Int32 → Mem → Option (Unit × Mem)) (x2 : Int32) (x3 : Int32) (x4 : Int32) (x5 : Int32) (x6 : Int32) (t2 : Int32) (t1 : Int32) (M : Mem) : Option (Unit × Mem) :=
  cl (f_X4_addTo t1 t2 M) fun _ M1 =>
  f_X4_close_124 r_3 x2 x3 x4 x5 x6 M1
def f_X4_close_103 (r_3 : Int32 → Mem → Option (Unit × Mem)) (x2 : Int32) (x3 : Int32) (x4 : Int32) (x5 : Int32) (x6 : Int32) (x7 : Int32) (t2 : Int32) (t1 : Int32) (M : Mem) : Option (Unit × Mem) :=
  cl (f_X4_addTo t1 t2 M) fun _ M1 =>
  if x7 = x5 then
    f_X4_close_121 r_3 x2 x3 x4 x5 x6 (0 : Int32) x6 M1
  else
    f_X4_close_121 r_3 x2 x3 x4 x5 x6 (1 : Int32) x6 M1
def f_X4_close_86 (r_3 : Int32 → Mem → Option (Unit × Mem)) (x2 : Int32) (x3 : Int32) (x4 : Int32) (x5 : Int32) (x6 : Int32) (x7 : Int32) (t2 : Int32) (t1 : Int32) (M : Mem) : Option (Unit × Mem) :=
  cl (f_X4_addTo t1 t2 M) fun _ M1 =>
  if x7 = x5 then
    f_X4_close_103 r_3 x2 x3 x4 x5 x6 x7 (0 : Int32) x3 M1
  else
    f_X4_close_103 r_3 x2 x3 x4 x5 x6 x7 (1 : Int32) x3 M1
def f_X4_close_68 (r_3 : Int32 → Mem → Option (Unit × Mem)) (x2 : Int32) (x3 : Int32) (x4 : Int32) (x5 : Int32) (x6 : Int32) (x7 : Int32) (t2 : Int32) (t1 : Int32) (M : Mem) : Option (Unit × Mem) :=
  stm (mset M 96 1 (t1 + t2)) fun M1 =>
  if x7 = x5 then
    f_X4_close_86 r_3 x2 x3 x4 x5 x6 x7 (0 : Int32) x2 M1
  else
    f_X4_close_86 r_3 x2 x3 x4 x5 x6 x7 (1 : Int32) x2 M1
def f_X4_close_3_b (r_3 : Int32 → Mem → Option (Unit × Mem)) (x2 : Int32) (x3 : Int32) (x4 : Int32) (x5 : Int32) (x6 : Int32) (M : Mem) : Option (Unit × Mem) :=
  if (M.1 23 0) ≤ x6 then
    some ((), M)
  else
    cp (f_X2_behind x6 x4 M) fun v1 =>
    if v1 = (-1 : Int32) then
      f_X4_close_124 r_3 x2 x3 x4 x5 x6 M
    else
      if (v1 / (8 : Int32)) = (x5 / (8 : Int32)) then
        stm (mset M 96 0 ((M.1 96 0) + (1 : Int32))) fun M1 =>
        if v1 = x5 then
          f_X4_close_68 r_3 x2 x3 x4 x5 x6 v1 (1 : Int32) (M1.1 96 1) M1
        else
          f_X4_close_68 r_3 x2 x3 x4 x5 x6 v1 (0 : Int32) (M1.1 96 1) M1
      else
        f_X4_close_124 r_3 x2 x3 x4 x5 x6 M
def f_X4_close_3 (x2 : Int32) (x3 : Int32) (x4 : Int32) (x5 : Int32) : Nat → Int32 → Mem → Option (Unit × Mem)
  | 0 => fun _ _ => none
  | n + 1 => f_X4_close_3_b (f_X4_close_3 x2 x3 x4 x5 n) x2 x3 x4 x5
def f_X4_close (x2 : Int32) (x3 : Int32) (x4 : Int32) (x5 : Int32) (M : Mem) : Option (Unit × Mem) :=
  f_X4_close_3 x2 x3 x4 x5 FU (0 : Int32) M
def f_X4_find_120 (r_72 : Int32 → Mem → Option (Unit × Mem)) (x2 : Int32) (x3 : Int32) (x4 : Int32) (x5 : Int32) (M : Mem) : Option (Unit × Mem) :=
  r_72 (x5 + 1) M
def f_X4_find_72_b (r_28 : Int32 → Mem → Option (Unit × Mem)) (r_72 : Int32 → Mem → Option (Unit × Mem)) (x2 : Int32) (x3 : Int32) (x4 : Int32) (x5 : Int32) (M : Mem) : Option (Unit × Mem) :=
  if (M.1 23 0) ≤ x5 then
    r_28 (x2 + 1) M
  else
    cp (f_X2_behind x5 x4 M) fun v1 =>
    if v1 = (-1 : Int32) then
      f_X4_find_120 r_72 x2 x3 x4 x5 M
    else
      if (v1 / (8 : Int32)) ≤ (x3 / (8 : Int32)) then
        f_X4_find_120 r_72 x2 x3 x4 x5 M
      else
        cl (f_X4_close x2 x5 v1 x3 M) fun _ M1 =>
        f_X4_find_120 r_72 x2 x3 x4 x5 M1
def f_X4_find_72 (r_28 : Int32 → Mem → Option (Unit × Mem)) (x2 : Int32) (x3 : Int32) (x4 : Int32) : Nat → Int32 → Mem → Option (Unit × Mem)
  | 0 => fun _ _ => none
  | n + 1 => f_X4_find_72_b r_28 (f_X4_find_72 r_28 x2 x3 x4 n) x2 x3 x4
def f_X4_find_28_b (r_28 : Int32 → Mem → Option (Unit × Mem)) (x2 : Int32) (M : Mem) : Option (Unit × Mem) :=
  if (M.1 23 0) ≤ x2 then
    some ((), M)
  else
    rd 24 (M.1 24) x2 fun v1 =>
    rd 24 (M.1 25) x2 fun v2 =>
    rd 24 (M.1 24) x2 fun v3 =>
    rd 24 (M.1 25) x2 fun v4 =>
    f_X4_find_72 r_28 x2 (if v2 < v1 then v2 else v1) (if v3 < v4 then v4 else v3) FU (0 : Int32) M
def f_X4_find_28 : Nat → Int32 → Mem → Option (Unit × Mem)
  | 0 => fun _ _ => none
  | n + 1 => f_X4_find_28_b (f_X4_find_28 n)
def f_X4_find (M : Mem) : Option (Unit × Mem) :=
  stm (mset M 96 0 (0 : Int32)) fun M1 =>
  stm (mset M1 96 1 (0 : Int32)) fun M2 =>
  cl (f_J7_fill_53178 97 24 (0 : Int32) M2) fun _ M3 =>
  cl (f_J7_fill_53178 98 24 (0 : Int32) M3) fun _ M4 =>
  f_X4_find_28 FU (0 : Int32) M4
def f_X4_isWorse (x1 : Int32) (x2 : Int32) (M : Mem) : Option Int32 :=
  rd 24 (M.1 98) x1 fun v1 =>
  rd 24 (M.1 97) x2 fun v2 =>
  rd 24 (M.1 98) x2 fun v3 =>
  rd 24 (M.1 97) x1 fun v4 =>
  if (v1 * v2) ≤ (v3 * v4) then
    some (0 : Int32)
  else
    some (1 : Int32)
def f_X4_join_25 (r_2 : Int32 → Mem → Option (Unit × Mem)) (x1 : Int32) (x2 : Int32) (x3 : Int32) (M : Mem) : Option (Unit × Mem) :=
  r_2 (x3 + 1) M
def f_X4_join_2_b (r_2 : Int32 → Mem → Option (Unit × Mem)) (x1 : Int32) (x2 : Int32) (x3 : Int32) (M : Mem) : Option (Unit × Mem) :=
  if (48 : Int32) ≤ x3 then
    some ((), M)
  else
    rd 48 (M.1 99) x3 fun v1 =>
    if v1 = x2 then
      ck 48 x3 <| stm (mset M 99 x3.toNatClampNeg x1) fun M1 =>
      f_X4_join_25 r_2 x1 x2 x3 M1
    else
      f_X4_join_25 r_2 x1 x2 x3 M
def f_X4_join_2 (x1 : Int32) (x2 : Int32) : Nat → Int32 → Mem → Option (Unit × Mem)
  | 0 => fun _ _ => none
  | n + 1 => f_X4_join_2_b (f_X4_join_2 x1 x2 n) x1 x2
def f_X4_join (x1 : Int32) (x2 : Int32) (M : Mem) : Option (Unit × Mem) :=
  f_X4_join_2 x1 x2 FU (0 : Int32) M
def f_X4_joinSets_74 (r_23 : Int32 → Mem → Option (Unit × Mem)) (x2 : Int32) (M : Mem) : Option (Unit × Mem) :=
  r_23 (x2 + 1) M
def f_X4_joinSets_23_b (r_23 : Int32 → Mem → Option (Unit × Mem)) (x2 : Int32) (M : Mem) : Option (Unit × Mem) :=
  if (M.1 23 0) ≤ x2 then
    some ((), M)
  else
    rd 24 (M.1 98) x2 fun v1 =>
    rd 24 (M.1 97) x2 fun v2 =>
    if v2 < (v1 * (2 : Int32)) then
      f_X4_joinSets_74 r_23 x2 M
    else
      rd 24 (M.1 24) x2 fun v3 =>
      rd 48 (M.1 99) v3 fun v4 =>
      rd 24 (M.1 25) x2 fun v5 =>
      rd 48 (M.1 99) v5 fun v6 =>
      cl (f_X4_join v4 v6 M) fun _ M1 =>
      f_X4_joinSets_74 r_23 x2 M1
def f_X4_joinSets_23 : Nat → Int32 → Mem → Option (Unit × Mem)
  | 0 => fun _ _ => none
  | n + 1 => f_X4_joinSets_23_b (f_X4_joinSets_23 n)
def f_X4_joinSets_2_b (r_2 : Int32 → Mem → Option (Unit × Mem)) (x2 : Int32) (M : Mem) : Option (Unit × Mem) :=
  if (48 : Int32) ≤ x2 then
    f_X4_joinSets_23 FU (0 : Int32) M
  else
    ck 48 x2 <| stm (mset M 99 x2.toNatClampNeg x2) fun M1 =>
    r_2 (x2 + 1) M1
def f_X4_joinSets_2 : Nat → Int32 → Mem → Option (Unit × Mem)
  | 0 => fun _ _ => none
  | n + 1 => f_X4_joinSets_2_b (f_X4_joinSets_2 n)
def f_X4_joinSets (M : Mem) : Option (Unit × Mem) :=
  f_X4_joinSets_2 FU (0 : Int32) M
def f_X5_addStep_30 (M : Mem) : Option (Unit × Mem) :=
  stm (mset M 68 1 (if (201 : Int32) < ((M.1 68 1) + (1 : Int32)) then (201 : Int32) else ((M.1 68 1) + (1 : Int32)))) fun M1 =>
  some ((), M1)
def f_X5_addStep (x1 : Int32) (x2 : Int32) (M : Mem) : Option (Unit × Mem) :=
  if (200 : Int32) ≤ (M.1 68 1) then
    f_X5_addStep_30 M
  else
    ck 200 (M.1 68 1) <| stm (mset M 70 (M.1 68 1).toNatClampNeg x1) fun M1 =>
    ck 200 (M1.1 68 1) <| stm (mset M1 71 (M1.1 68 1).toNatClampNeg x2) fun M2 =>
    f_X5_addStep_30 M2
def f_X5_takesRounds_105 (M : Mem) : Option (Int32 × Mem) :=
  stm (mset M 68 2 (2 : Int32)) fun M1 =>
  some ((1 : Int32), M1)
def f_X5_takesRounds_55_b (r_55 : Int32 → Mem → Option (Int32 × Mem)) (x2 : Int32) (x3 : Int32) (x4 : Int32) (M : Mem) : Option (Int32 × Mem) :=
  if (x2 + x3) ≤ x4 then
    f_X5_takesRounds_105 M
  else
    if (200 : Int32) < (M.1 68 1) then
      f_X5_takesRounds_105 M
    else
      if (200 : Int32) ≤ x4 then
        f_X5_takesRounds_105 M
      else
        rd 200 (M.1 70) x4 fun v1 =>
        rd 200 (M.1 71) x4 fun v2 =>
        cl (f_X5_addStep v1 v2 M) fun _ M1 =>
        r_55 (x4 + 1) M1
def f_X5_takesRounds_55 (x2 : Int32) (x3 : Int32) : Nat → Int32 → Mem → Option (Int32 × Mem)
  | 0 => fun _ _ => none
  | n + 1 => f_X5_takesRounds_55_b (f_X5_takesRounds_55 x2 x3 n) x2 x3
def f_X5_takesRounds (x1 : Int32) (M : Mem) : Option (Int32 × Mem) :=
  if (M.1 68 3) = (0 : Int32) then
    some ((0 : Int32), M)
  else
    cp (f_X9_isIn x1 (49 : Int32) (57 : Int32) M) fun v1 =>
    if v1 = (0 : Int32) then
      some ((0 : Int32), M)
    else
      stm (mset M 68 3 ((M.1 68 3) - (1 : Int32))) fun M1 =>
      rd 4 (M1.1 69) (M1.1 68 3) fun v2 =>
      f_X5_takesRounds_55 v2 (((M1.1 68 1) - v2) * (x1 - (49 : Int32))) FU v2 M1
def f_X5_takesOpening (M : Mem) : Option (Int32 × Mem) :=
  if (M.1 68 3) < (4 : Int32) then
    ck 4 (M.1 68 3) <| stm (mset M 69 (M.1 68 3).toNatClampNeg (M.1 68 1)) fun M1 =>
    stm (mset M1 68 3 ((M1.1 68 3) + (1 : Int32))) fun M2 =>
    stm (mset M2 68 2 (0 : Int32)) fun M3 =>
    some ((1 : Int32), M3)
  else
    some ((0 : Int32), M)
def f_X5_takesClosing (M : Mem) : Option (Int32 × Mem) :=
  if (M.1 68 3) = (0 : Int32) then
    some ((0 : Int32), M)
  else
    if (M.1 68 2) = (0 : Int32) then
      some ((0 : Int32), M)
    else
      stm (mset M 68 2 (3 : Int32)) fun M1 =>
      some ((1 : Int32), M1)
def f_X9_isKind (x0 : Int32) (M : Mem) : Option Int32 :=
  cp (f_X9_isIn x0 (0 : Int32) (5 : Int32) M) fun v1 =>
  rz v1 (some v1)
def f_X5_takesKind_43 (M : Mem) : Option (Int32 × Mem) :=
  stm (mset M 68 2 (2 : Int32)) fun M1 =>
  some ((1 : Int32), M1)
def f_X5_takesKind (x1 : Int32) (M : Mem) : Option (Int32 × Mem) :=
  if (M.1 68 2) = (1 : Int32) then
    cp (f_X9_isKind x1 M) fun v1 =>
    if v1 = (0 : Int32) then
      some ((0 : Int32), M)
    else
      cp (f_X9_isIn (M.1 68 1) (1 : Int32) (200 : Int32) M) fun v2 =>
      if v2 = (0 : Int32) then
        f_X5_takesKind_43 M
      else
        ck 200 ((M.1 68 1) - (1 : Int32)) <| stm (mset M 71 ((M.1 68 1) - (1 : Int32)).toNatClampNeg x1) fun M1 =>
        f_X5_takesKind_43 M1
  else
    some ((0 : Int32), M)
def f_X5_takesLetter (x1 : Int32) (M : Mem) : Option (Int32 × Mem) :=
  cp (f_X1_hasWords x1 M) fun v1 =>
  if v1 = (0 : Int32) then
    some ((0 : Int32), M)
  else
    cl (f_X5_addStep x1 (0 : Int32) M) fun _ M1 =>
    stm (mset M1 68 2 (1 : Int32)) fun M2 =>
    some ((1 : Int32), M2)
def f_X5_takes (x1 : Int32) (M : Mem) : Option (Int32 × Mem) :=
  if (M.1 68 2) = (3 : Int32) then
    cl (f_X5_takesRounds x1 M) fun v6 M5 =>
    rz v6 (some (v6, M5))
  else
    if x1 = (40 : Int32) then
      cl (f_X5_takesOpening M) fun v5 M4 =>
      rz v5 (some (v5, M4))
    else
      if x1 = (41 : Int32) then
        cl (f_X5_takesClosing M) fun v4 M3 =>
        rz v4 (some (v4, M3))
      else
        cp (f_X9_isIn x1 (48 : Int32) (57 : Int32) M) fun v1 =>
        if v1 = (0 : Int32) then
          cl (f_X5_takesLetter (x1 - (97 : Int32)) M) fun v2 M1 =>
          rz v2 (some (v2, M1))
        else
          cl (f_X5_takesKind (x1 - (48 : Int32)) M) fun v3 M2 =>
          rz v3 (some (v3, M2))
def f_X5_read_89 (M : Mem) : Option (Unit × Mem) :=
  stm (mset M 68 0 (M.1 18 0)) fun M1 =>
  some ((), M1)
def f_X5_read_61 (r_22 : Int32 → Mem → Option (Unit × Mem)) (x3 : Int32) (M : Mem) : Option (Unit × Mem) :=
  r_22 (x3 + 1) M
def f_X5_read_22_b (r_22 : Int32 → Mem → Option (Unit × Mem)) (x3 : Int32) (M : Mem) : Option (Unit × Mem) :=
  if (M.1 18 0) ≤ x3 then
    if (0 : Int32) < (M.1 68 3) then
      f_X5_read_89 M
    else
      if (M.1 68 2) = (0 : Int32) then
        f_X5_read_89 M
      else
        if (M.1 68 2) = (3 : Int32) then
          f_X5_read_89 M
        else
          some ((), M)
  else
    rd 60 (M.1 19) x3 fun v1 =>
    if v1 = (32 : Int32) then
      f_X5_read_61 r_22 x3 M
    else
      cl (f_X5_takes v1 M) fun v2 M1 =>
      if v2 = (0 : Int32) then
        stm (mset M1 68 0 x3) fun M2 =>
        some ((), M2)
      else
        f_X5_read_61 r_22 x3 M1
def f_X5_read_22 : Nat → Int32 → Mem → Option (Unit × Mem)
  | 0 => fun _ _ => none
  | n + 1 => f_X5_read_22_b (f_X5_read_22 n)
def f_X5_read (M : Mem) : Option (Unit × Mem) :=
  stm (mset M 68 1 (0 : Int32)) fun M1 =>
  stm (mset M1 68 3 (0 : Int32)) fun M2 =>
  stm (mset M2 68 2 (0 : Int32)) fun M3 =>
  stm (mset M3 68 0 (-1 : Int32)) fun M4 =>
  f_X5_read_22 FU (0 : Int32) M4
def f_X5_canBeGone (M : Mem) : Option Int32 :=
  if (M.1 68 0) = (-1 : Int32) then
    if (200 : Int32) < (M.1 68 1) then
      some (0 : Int32)
    else
      some (1 : Int32)
  else
    some (0 : Int32)
def f_X5_goStep (k1 : Nat) (x2 : Int32) (M : Mem) : Option (Unit × Mem) :=
  cp (f_X9_isIn x2 (1 : Int32) (M.1 68 1) M) fun v1 =>
  if v1 = (0 : Int32) then
    some ((), M)
  else
    if (200 : Int32) < x2 then
      some ((), M)
    else
      rd 200 (M.1 71) (x2 - (1 : Int32)) fun v2 =>
      rd 200 (M.1 70) (x2 - (1 : Int32)) fun v3 =>
      cl (f_X1_carry k1 v2 v3 M) fun _ M1 =>
      some ((), M1)
def f_X7_copyFrom (k0 : Nat) (k1 : Nat) (M : Mem) : Option (Unit × Mem) :=
  stm (mset M k0 0 (M.1 k1 0)) fun M1 =>
  stm (mcpy M1 (k1 + 1) (k0 + 1) 0 0 6) fun M2 =>
  stm (mcpy M2 (k1 + 2) (k0 + 2) 0 0 6) fun M3 =>
  stm (mcpy M3 (k1 + 3) (k0 + 3) 0 0 4) fun M4 =>
  some ((), M4)
def f_X6_goFrom_2_b (r_2 : Int32 → Mem → Option (Unit × Mem)) (x3 : Int32) (M : Mem) : Option (Unit × Mem) :=
  if (M.1 72 3) ≤ x3 then
    some ((), M)
  else
    ck 5 (x3 + (1 : Int32)) <| ck 5 x3 <| cl (f_X7_copyFrom (76 + 4 * (x3 + (1 : Int32)).toNatClampNeg) (76 + 4 * x3.toNatClampNeg) M) fun _ M1 =>
    ck 5 (x3 + (1 : Int32)) <| rd 4 (M1.1 73) x3 fun v1 =>
    cl (f_X1_carry (76 + 4 * (x3 + (1 : Int32)).toNatClampNeg) (M1.1 72 4) v1 M1) fun _ M2 =>
    r_2 (x3 + 1) M2
def f_X6_goFrom_2 : Nat → Int32 → Mem → Option (Unit × Mem)
  | 0 => fun _ _ => none
  | n + 1 => f_X6_goFrom_2_b (f_X6_goFrom_2 n)
def f_X6_goFrom (x1 : Int32) (M : Mem) : Option (Unit × Mem) :=
  f_X6_goFrom_2 FU x1 M
def f_X6_begin_59 (x4 : Int32) (M : Mem) : Option (Int32 × Mem) :=
  cl (f_J7_fill_53178 73 4 x4 M) fun _ M1 =>
  cl (f_X6_goFrom (0 : Int32) M1) fun _ M2 =>
  some ((1 : Int32), M2)
def f_X6_begin (x2 : Int32) (x3 : Int32) (M : Mem) : Option (Int32 × Mem) :=
  cp (f_X9_isIn x3 (0 : Int32) (4 : Int32) M) fun v1 =>
  if v1 = (0 : Int32) then
    some ((0 : Int32), M)
  else
    stm (mset M 72 3 x3) fun M1 =>
    stm (mset M1 72 4 x2) fun M2 =>
    ck 5 (0 : Int32) <| cl (f_X7_copyFrom (76 + 4 * (0 : Int32).toNatClampNeg) 14 M2) fun _ M3 =>
    cp (f_X1_voiceBehind (-1 : Int32) M3) fun v2 =>
    if (M3.1 72 3) ≤ (0 : Int32) then
      f_X6_begin_59 v2 M3
    else
      if v2 = (-1 : Int32) then
        some ((0 : Int32), M3)
      else
        f_X6_begin_59 v2 M3
def f_J7_rangeCheck_23922 (x0 : Int32) (x1 : Int32) (x2 : Int32) (M : Mem) : Option Unit :=
  if x1 ≤ x2 then
    if (0 : Int32) ≤ x1 then
      if x2 ≤ x0 then
        some ()
      else
        none
    else
      none
  else
    none
def f_J7_fill_fda19_10_b (q0 : Nat) (n0 : Nat) (r_10 : Int32 → Mem → Option (Unit × Mem)) (x2 : Int32) (x3 : Int32) (x4 : Int32) (M : Mem) : Option (Unit × Mem) :=
  if x2 ≤ x4 then
    some ((), M)
  else
    ck n0 x4 <| stm (mset M q0 x4.toNatClampNeg x3) fun M1 =>
    r_10 (x4 + 1) M1
def f_J7_fill_fda19_10 (q0 : Nat) (n0 : Nat) (x2 : Int32) (x3 : Int32) : Nat → Int32 → Mem → Option (Unit × Mem)
  | 0 => fun _ _ => none
  | n + 1 => f_J7_fill_fda19_10_b q0 n0 (f_J7_fill_fda19_10 q0 n0 x2 x3 n) x2 x3
def f_J7_fill_fda19 (q0 : Nat) (n0 : Nat) (x1 : Int32) (x2 : Int32) (x3 : Int32) (M : Mem) : Option (Unit × Mem) :=
  cp (f_J7_rangeCheck_23922 (Int32.ofNat n0) x1 x2 M) fun _ =>
  f_J7_fill_fda19_10 q0 n0 x2 x3 FU x1 M
def f_X6_goOn_7_b (r_7 : Int32 → Mem → Option (Int32 × Mem)) (x2 : Int32) (M : Mem) : Option (Int32 × Mem) :=
  if x2 < (0 : Int32) then
    some ((0 : Int32), M)
  else
    rd 4 (M.1 73) x2 fun v1 =>
    cp (f_X1_voiceBehind v1 M) fun v2 =>
    if v2 = (-1 : Int32) then
      r_7 (x2 + (-1)) M
    else
      ck 4 x2 <| stm (mset M 73 x2.toNatClampNeg v2) fun M1 =>
      cp (f_X1_voiceBehind (-1 : Int32) M1) fun v3 =>
      cl (f_J7_fill_fda19 73 4 (x2 + (1 : Int32)) (M1.1 72 3) v3 M1) fun _ M2 =>
      cl (f_X6_goFrom x2 M2) fun _ M3 =>
      some ((1 : Int32), M3)
def f_X6_goOn_7 : Nat → Int32 → Mem → Option (Int32 × Mem)
  | 0 => fun _ _ => none
  | n + 1 => f_X6_goOn_7_b (f_X6_goOn_7 n)
def f_X6_goOn (M : Mem) : Option (Int32 × Mem) :=
  f_X6_goOn_7 FU ((M.1 72 3) - (1 : Int32)) M
def f_X6_keepFirst (M : Mem) : Option (Unit × Mem) :=
  stm (mcpy M 73 74 0 0 4) fun M1 =>
  some ((), M1)
def f_X7_empty (k0 : Nat) (M : Mem) : Option (Unit × Mem) :=
  stm (mset M k0 0 (0 : Int32)) fun M1 =>
  cl (f_J7_fill_53178 (k0 + 3) 4 (-1 : Int32) M1) fun _ M2 =>
  some ((), M2)
def f_X7_addPlace (k0 : Nat) (x1 : Int32) (M : Mem) : Option (Int32 × Mem) :=
  ck 6 (M.1 k0 0) <| stm (mset M (k0 + 1) (M.1 k0 0).toNatClampNeg x1) fun M1 =>
  ck 6 (M1.1 k0 0) <| stm (mset M1 (k0 + 2) (M1.1 k0 0).toNatClampNeg (-1 : Int32)) fun M2 =>
  stm (mset M2 k0 0 ((M2.1 k0 0) + (1 : Int32))) fun M3 =>
  some (((M3.1 k0 0) - (1 : Int32)), M3)
def f_X7_partsBeyond_4_b (k0 : Nat) (k1 : Nat) (M : Mem) (r_4 : Int32 → Int32 → Option Int32) (x2 : Int32) (x3 : Int32) : Option Int32 :=
  if (M.1 k0 0) ≤ x3 then
    some x2
  else
    rd 6 (M.1 (k0 + 1)) x3 fun v1 =>
    rd 6 (M.1 (k1 + 1)) x3 fun v2 =>
    cp (f_J6_bitCount_0f7a4 (v1 &&& (v2 ^^^ (-1 : Int32))) M) fun v3 =>
    r_4 (x2 + v3) (x3 + 1)
def f_X7_partsBeyond_4 (k0 : Nat) (k1 : Nat) (M : Mem) : Nat → Int32 → Int32 → Option Int32
  | 0 => fun _ _ => none
  | n + 1 => f_X7_partsBeyond_4_b k0 k1 M (f_X7_partsBeyond_4 k0 k1 M n)
def f_X7_partsBeyond (k0 : Nat) (k1 : Nat) (M : Mem) : Option Int32 :=
  f_X7_partsBeyond_4 k0 k1 M FU (0 : Int32) (0 : Int32)
def f_X7_formsBeyond_32 (k0 : Nat) (k1 : Nat) (M : Mem) (r_4 : Int32 → Int32 → Option Int32) (x2 : Int32) (x3 : Int32) : Option Int32 :=
  r_4 x2 (x3 + 1)
def f_X7_formsBeyond_4_b (k0 : Nat) (k1 : Nat) (M : Mem) (r_4 : Int32 → Int32 → Option Int32) (x2 : Int32) (x3 : Int32) : Option Int32 :=
  if (4 : Int32) ≤ x3 then
    some x2
  else
    rd 4 (M.1 (k0 + 3)) x3 fun v1 =>
    if v1 = (-1 : Int32) then
      f_X7_formsBeyond_32 k0 k1 M r_4 x2 x3
    else
      rd 4 (M.1 (k1 + 3)) x3 fun v2 =>
      if v2 = (-1 : Int32) then
        f_X7_formsBeyond_32 k0 k1 M r_4 (x2 + 1) x3
      else
        f_X7_formsBeyond_32 k0 k1 M r_4 x2 x3
def f_X7_formsBeyond_4 (k0 : Nat) (k1 : Nat) (M : Mem) : Nat → Int32 → Int32 → Option Int32
  | 0 => fun _ _ => none
  | n + 1 => f_X7_formsBeyond_4_b k0 k1 M (f_X7_formsBeyond_4 k0 k1 M n)
def f_X7_formsBeyond (k0 : Nat) (k1 : Nat) (M : Mem) : Option Int32 :=
  f_X7_formsBeyond_4 k0 k1 M FU (0 : Int32) (0 : Int32)
def f_X7_unlikeness_37 (k0 : Nat) (k1 : Nat) (M : Mem) (r_14 : Int32 → Int32 → Option Int32) (x2 : Int32) (x3 : Int32) : Option Int32 :=
  r_14 x2 (x3 + 1)
def f_X7_unlikeness_14_b (k0 : Nat) (k1 : Nat) (M : Mem) (r_14 : Int32 → Int32 → Option Int32) (x2 : Int32) (x3 : Int32) : Option Int32 :=
  if (4 : Int32) ≤ x3 then
    some x2
  else
    rd 4 (M.1 (k0 + 3)) x3 fun v1 =>
    rd 4 (M.1 (k1 + 3)) x3 fun v2 =>
    if v1 = v2 then
      f_X7_unlikeness_37 k0 k1 M r_14 x2 x3
    else
      f_X7_unlikeness_37 k0 k1 M r_14 (x2 + 1) x3
def f_X7_unlikeness_14 (k0 : Nat) (k1 : Nat) (M : Mem) : Nat → Int32 → Int32 → Option Int32
  | 0 => fun _ _ => none
  | n + 1 => f_X7_unlikeness_14_b k0 k1 M (f_X7_unlikeness_14 k0 k1 M n)
def f_X7_unlikeness (k0 : Nat) (k1 : Nat) (M : Mem) : Option Int32 :=
  cp (f_X7_partsBeyond k0 k1 M) fun v1 =>
  cp (f_X7_partsBeyond k1 k0 M) fun v2 =>
  f_X7_unlikeness_14 k0 k1 M FU (v1 + v2) (0 : Int32)
def f_X7_isSameAs_2_b (k0 : Nat) (k1 : Nat) (M : Mem) (r_2 : Int32 → Option Int32) (x2 : Int32) : Option Int32 :=
  if (M.1 k0 0) ≤ x2 then
    if (M.1 k0 0) = (M.1 k1 0) then
      cp (f_X7_unlikeness k0 k1 M) fun v1 =>
      if v1 = (0 : Int32) then
        some (1 : Int32)
      else
        some (0 : Int32)
    else
      some (0 : Int32)
  else
    rd 6 (M.1 (k0 + 2)) x2 fun v2 =>
    rd 6 (M.1 (k1 + 2)) x2 fun v3 =>
    if v2 = v3 then
      r_2 (x2 + 1)
    else
      some (0 : Int32)
def f_X7_isSameAs_2 (k0 : Nat) (k1 : Nat) (M : Mem) : Nat → Int32 → Option Int32
  | 0 => fun _ => none
  | n + 1 => f_X7_isSameAs_2_b k0 k1 M (f_X7_isSameAs_2 k0 k1 M n)
def f_X7_isSameAs (k0 : Nat) (k1 : Nat) (M : Mem) : Option Int32 :=
  f_X7_isSameAs_2 k0 k1 M FU (0 : Int32)
def f_X8_copyFrom (k0 : Nat) (k1 : Nat) (M : Mem) : Option (Unit × Mem) :=
  cl (f_X1_copyFrom (k0 + 1) (k1 + 1) M) fun _ M1 =>
  cl (f_X7_copyFrom (k0 + 9) (k1 + 9) M1) fun _ M2 =>
  cl (f_X3_copyFrom (k0 + 13) (k1 + 13) M2) fun _ M3 =>
  cl (f_X0_copyFrom (k0 + 15) (k1 + 15) M3) fun _ M4 =>
  cl (f_X2_copyFrom (k0 + 18) (k1 + 18) M4) fun _ M5 =>
  some ((), M5)
def f_X8_wordsOf (x1 : Int32) (M : Mem) : Option Int32 :=
  cp (f_X1_hasTongue x1 M) fun v1 =>
  if v1 = (0 : Int32) then
    some (0 : Int32)
  else
    rd 6 (M.1 10) x1 fun v2 =>
    some v2
def f_X8_howMany (x1 : Int32) (M : Mem) : Option Int32 :=
  if x1 = 0 then
    some (M.1 6 0)
  else
    if x1 = 1 then
      some (M.1 14 0)
    else
      if x1 = 2 then
        some (M.1 18 0)
      else
        if x1 = 3 then
          some (M.1 23 0)
        else
          cp (f_X8_wordsOf (x1 - (4 : Int32)) M) fun v1 =>
          some v1
def f_X9_mixRow_37 (q2 : Nat) (n2 : Nat) (M : Mem) (x4 : Int64) : Option Int64 :=
  some x4
def f_X9_mixRow_6_b (q2 : Nat) (n2 : Nat) (M : Mem) (r_6 : Int64 → Int32 → Option Int64) (x3 : Int32) (x4 : Int64) (x6 : Int32) : Option Int64 :=
  if x3 ≤ x6 then
    f_X9_mixRow_37 q2 n2 M x4
  else
    if (Int32.ofNat n2) ≤ x6 then
      f_X9_mixRow_37 q2 n2 M x4
    else
      rd n2 (M.1 q2) x6 fun v1 =>
      cp (f_X9_mix x4 v1.toInt64 M) fun v2 =>
      r_6 v2 (x6 + 1)
def f_X9_mixRow_6 (q2 : Nat) (n2 : Nat) (M : Mem) (x3 : Int32) : Nat → Int64 → Int32 → Option Int64
  | 0 => fun _ _ => none
  | n + 1 => f_X9_mixRow_6_b q2 n2 M (f_X9_mixRow_6 q2 n2 M x3 n) x3
def f_X9_mixRow (q2 : Nat) (n2 : Nat) (x0 : Int64) (x3 : Int32) (M : Mem) : Option Int64 :=
  f_X9_mixRow_6 q2 n2 M x3 FU x0 (0 : Int32)
def f_X8_mixAll_5_b (M : Mem) (r_5 : Int64 → Int32 → Option Int64) (x3 : Int64) (x5 : Int32) : Option Int64 :=
  if (10 : Int32) ≤ x5 then
    cp (f_X1_mixTongues x3 M) fun v1 =>
    cp (f_X9_mixRow 15 6 v1 (M.1 14 0) M) fun v2 =>
    cp (f_X9_mixRow 17 4 v2 (4 : Int32) M) fun v3 =>
    cp (f_X9_mixRow 19 60 v3 (M.1 18 0) M) fun v4 =>
    cp (f_X9_mixRow 21 6 v4 (6 : Int32) M) fun v5 =>
    cp (f_X9_mixRow 22 4 v5 (4 : Int32) M) fun v6 =>
    cp (f_X2_mixPairs v6 M) fun v7 =>
    some v7
  else
    cp (f_X8_howMany x5 M) fun v8 =>
    cp (f_X9_mix x3 v8.toInt64 M) fun v9 =>
    r_5 v9 (x5 + 1)
def f_X8_mixAll_5 (M : Mem) : Nat → Int64 → Int32 → Option Int64
  | 0 => fun _ _ => none
  | n + 1 => f_X8_mixAll_5_b M (f_X8_mixAll_5 M n)
def f_X8_mixAll (x1 : Int64) (M : Mem) : Option Int64 :=
  f_X8_mixAll_5 M FU x1 (0 : Int32)
def f_X9_refuse__25 (x2 : Int32) (t1 : Int32) (M : Mem) : Option (Int32 × Mem) :=
  rd 3 (M.1 3) t1 fun v1 =>
  ck 3 t1 <| stm (mset M 3 t1.toNatClampNeg (v1 + (1 : Int32))) fun M1 =>
  some (x2, M1)
def f_X9_refuse_ (x1 : Int32) (x2 : Int32) (M : Mem) : Option (Int32 × Mem) :=
  if x1 = (-2 : Int32) then
    f_X9_refuse__25 x2 (0 : Int32) M
  else
    if x1 = (-3 : Int32) then
      f_X9_refuse__25 x2 (1 : Int32) M
    else
      f_X9_refuse__25 x2 (2 : Int32) M
def f_X9_refuse (x1 : Int32) (M : Mem) : Option (Int32 × Mem) :=
  cl (f_X9_refuse_ x1 x1 M) fun v1 M1 =>
  some (v1, M1)
def f_X9_tongue_50 (M : Mem) : Option (Int32 × Mem) :=
  cl (f_X9_refuse (-2 : Int32) M) fun v1 M1 =>
  some (v1, M1)
def f_X9_tongue_35 (x1 : Int32) (x2 : Int32) (x3 : Int32) (t0 : Int32) (M : Mem) : Option (Int32 × Mem) :=
  if t0 = (0 : Int32) then
    f_X9_tongue_50 M
  else
    if (x1 &&& (x2 ^^^ (-1 : Int32))) = (0 : Int32) then
      if (M.1 6 0) < (6 : Int32) then
        cl (f_X1_addTongue x1 x2 x3 M) fun v1 M1 =>
        some (v1, M1)
      else
        cl (f_X9_refuse (-4 : Int32) M) fun v2 M2 =>
        some (v2, M2)
    else
      f_X9_tongue_50 M
def f_X9_tongue_34 (x1 : Int32) (x2 : Int32) (x3 : Int32) (M : Mem) : Option (Int32 × Mem) :=
  f_X9_tongue_35 x1 x2 x3 (0 : Int32) M
def f_X9_tongue (x1 : Int32) (x2 : Int32) (x3 : Int32) (M : Mem) : Option (Int32 × Mem) :=
  cp (f_X9_isIn x1 (0 : Int32) (15 : Int32) M) fun v1 =>
  if v1 = (0 : Int32) then
    f_X9_tongue_34 x1 x2 x3 M
  else
    cp (f_X9_isIn x2 (0 : Int32) (15 : Int32) M) fun v2 =>
    if v2 = (0 : Int32) then
      f_X9_tongue_34 x1 x2 x3 M
    else
      cp (f_X9_isIn x3 (0 : Int32) (15 : Int32) M) fun v3 =>
      if v3 = (0 : Int32) then
        f_X9_tongue_34 x1 x2 x3 M
      else
        f_X9_tongue_35 x1 x2 x3 (1 : Int32) M
def f_X9_word_58 (M : Mem) : Option (Int32 × Mem) :=
  cl (f_X9_refuse (-2 : Int32) M) fun v1 M1 =>
  some (v1, M1)
def f_X9_word_37 (x1 : Int32) (x2 : Int32) (x3 : Int32) (x4 : Int32) (t0 : Int32) (M : Mem) : Option (Int32 × Mem) :=
  if t0 = (0 : Int32) then
    f_X9_word_58 M
  else
    cp (f_X1_hasTongue x1 M) fun v1 =>
    if v1 = (0 : Int32) then
      f_X9_word_58 M
    else
      rd 6 (M.1 10) x1 fun v2 =>
      if v2 < (8 : Int32) then
        cl (f_X1_addWord x1 x2 x3 x4 M) fun v3 M1 =>
        some (v3, M1)
      else
        cl (f_X9_refuse (-4 : Int32) M) fun v4 M2 =>
        some (v4, M2)
def f_X9_word_36 (x1 : Int32) (x2 : Int32) (x3 : Int32) (x4 : Int32) (M : Mem) : Option (Int32 × Mem) :=
  f_X9_word_37 x1 x2 x3 x4 (0 : Int32) M
def f_X9_word (x1 : Int32) (x2 : Int32) (x3 : Int32) (x4 : Int32) (M : Mem) : Option (Int32 × Mem) :=
  cp (f_X9_isIn x2 (1 : Int32) (255 : Int32) M) fun v1 =>
  if v1 = (0 : Int32) then
    f_X9_word_36 x1 x2 x3 x4 M
  else
    cp (f_X9_isIn x3 (0 : Int32) (9 : Int32) M) fun v2 =>
    if v2 = (0 : Int32) then
      f_X9_word_36 x1 x2 x3 x4 M
    else
      cp (f_X9_isIn x4 (0 : Int32) (9 : Int32) M) fun v3 =>
      if v3 = (0 : Int32) then
        f_X9_word_36 x1 x2 x3 x4 M
      else
        f_X9_word_37 x1 x2 x3 x4 (1 : Int32) M
def f_X9_put_19 (M : Mem) : Option (Int32 × Mem) :=
  cl (f_X9_refuse (-2 : Int32) M) fun v1 M1 =>
  some (v1, M1)
def f_X9_put_53 (x1 : Int32) (x2 : Int32) (t0 : Int32) (M : Mem) : Option (Int32 × Mem) :=
  if x1 = (0 : Int32) then
    stm (mset M 6 1 x2) fun M2 =>
    some (t0, M2)
  else
    stm (mset M 6 2 x2) fun M1 =>
    some (t0, M1)
def f_X9_put (x1 : Int32) (x2 : Int32) (M : Mem) : Option (Int32 × Mem) :=
  cp (f_X9_isIn x1 (0 : Int32) (1 : Int32) M) fun v1 =>
  if v1 = (0 : Int32) then
    f_X9_put_19 M
  else
    cp (f_X9_isIn x2 (0 : Int32) (9 : Int32) M) fun v2 =>
    if v2 = (0 : Int32) then
      f_X9_put_19 M
    else
      if x1 = (0 : Int32) then
        f_X9_put_53 x1 x2 (M.1 6 1) M
      else
        f_X9_put_53 x1 x2 (M.1 6 2) M
def f_X9_say (x1 : Int32) (M : Mem) : Option (Int32 × Mem) :=
  cp (f_X9_isIn x1 (1 : Int32) (255 : Int32) M) fun v1 =>
  if v1 = (0 : Int32) then
    cl (f_X9_refuse (-2 : Int32) M) fun v4 M3 =>
    some (v4, M3)
  else
    if (M.1 14 0) < (6 : Int32) then
      cl (f_X7_addPlace 14 x1 M) fun v2 M1 =>
      some (v2, M1)
    else
      cl (f_X9_refuse (-4 : Int32) M) fun v3 M2 =>
      some (v3, M2)
def f_X9_form_18 (M : Mem) : Option (Int32 × Mem) :=
  cl (f_X9_refuse_ (-2 : Int32) (-10 : Int32) M) fun v1 M1 =>
  some (v1, M1)
def f_X9_form (x1 : Int32) (x2 : Int32) (M : Mem) : Option (Int32 × Mem) :=
  cp (f_X9_isIn x1 (0 : Int32) (3 : Int32) M) fun v1 =>
  if v1 = (0 : Int32) then
    f_X9_form_18 M
  else
    cp (f_X9_isIn x2 (-1 : Int32) (1 : Int32) M) fun v2 =>
    if v2 = (0 : Int32) then
      f_X9_form_18 M
    else
      rd 4 (M.1 17) x1 fun v3 =>
      ck 4 x1 <| stm (mset M 17 x1.toNatClampNeg x2) fun M1 =>
      some (v3, M1)
def f_X9_hush (M : Mem) : Option (Int32 × Mem) :=
  cl (f_X7_empty 14 M) fun _ M1 =>
  some ((M.1 14 0), M1)
def f_X9_isPlace (x1 : Int32) (M : Mem) : Option Int32 :=
  cp (f_X9_isIn x1 (0 : Int32) ((M.1 14 0) - (1 : Int32)) M) fun v1 =>
  rz v1 (some v1)
def f_X9_cost_31 (M : Mem) : Option (Int32 × Mem) :=
  cl (f_X9_refuse_ (-2 : Int32) (-1000 : Int32) M) fun v1 M1 =>
  some (v1, M1)
def f_X9_cost (x1 : Int32) (x2 : Int32) (x3 : Int32) (x4 : Int32) (M : Mem) : Option (Int32 × Mem) :=
  cp (f_X9_isKind x1 M) fun v1 =>
  if v1 = (0 : Int32) then
    f_X9_cost_31 M
  else
    cp (f_X9_isPlace x2 M) fun v2 =>
    if v2 = (0 : Int32) then
      f_X9_cost_31 M
    else
      cp (f_X1_hasWord x3 x4 M) fun v3 =>
      if v3 = (0 : Int32) then
        f_X9_cost_31 M
      else
        rd 6 (M.1 15) x2 fun v4 =>
        rd 6 (M.1 16) x2 fun v5 =>
        cp (f_X1_costOf x1 v4 v5 ((x3 * (8 : Int32)) + x4) M) fun v6 =>
        some (v6, M)
def f_X9_type (x1 : Int64) (x3 : Int32) (M : Mem) : Option (Int32 × Mem) :=
  cp (f_X9_isIn x3 (1 : Int32) (8 : Int32) M) fun v1 =>
  if v1 = (0 : Int32) then
    cl (f_X9_refuse (-2 : Int32) M) fun v3 M3 =>
    some (v3, M3)
  else
    if ((M.1 18 0) + x3) ≤ (60 : Int32) then
      cl (f_X3_add x1 x3 M) fun _ M1 =>
      some ((M1.1 18 0), M1)
    else
      cl (f_X9_refuse (-4 : Int32) M) fun v2 M2 =>
      some (v2, M2)
def f_X9_clear (M : Mem) : Option (Int32 × Mem) :=
  stm (mset M 18 0 (0 : Int32)) fun M1 =>
  some ((M.1 18 0), M1)
def f_X9_fault (M : Mem) : Option (Int32 × Mem) :=
  cl (f_X5_read M) fun _ M1 =>
  some ((M1.1 68 0), M1)
def f_X9_length (M : Mem) : Option (Int32 × Mem) :=
  cl (f_X5_read M) fun _ M1 =>
  cp (f_X5_canBeGone M1) fun v1 =>
  if v1 = (0 : Int32) then
    cl (f_X9_refuse (-3 : Int32) M1) fun v2 M2 =>
    some (v2, M2)
  else
    some ((M1.1 68 1), M1)
def f_X9_goesPath (M : Mem) : Option (Int32 × Mem) :=
  cl (f_X5_read M) fun _ M1 =>
  cp (f_X5_canBeGone M1) fun v1 =>
  if v1 = (0 : Int32) then
    some ((0 : Int32), M1)
  else
    if (M1.1 14 0) ≤ (0 : Int32) then
      some ((0 : Int32), M1)
    else
      some ((1 : Int32), M1)
def f_X9_isState (x1 : Int32) (M : Mem) : Option Int32 :=
  cp (f_X9_isIn x1 (0 : Int32) (M.1 68 1) M) fun v1 =>
  rz v1 (some v1)
def f_X9_goTo_13_b (k1 : Nat) (r_13 : Int32 → Mem → Option (Unit × Mem)) (x2 : Int32) (x3 : Int32) (M : Mem) : Option (Unit × Mem) :=
  if x2 < x3 then
    some ((), M)
  else
    if (200 : Int32) < x3 then
      some ((), M)
    else
      cl (f_X5_goStep k1 x3 M) fun _ M1 =>
      r_13 (x3 + 1) M1
def f_X9_goTo_13 (k1 : Nat) (x2 : Int32) : Nat → Int32 → Mem → Option (Unit × Mem)
  | 0 => fun _ _ => none
  | n + 1 => f_X9_goTo_13_b k1 (f_X9_goTo_13 k1 x2 n) x2
def f_X9_goTo (k1 : Nat) (x2 : Int32) (M : Mem) : Option (Unit × Mem) :=
  cl (f_X7_copyFrom k1 14 M) fun _ M1 =>
  f_X9_goTo_13 k1 x2 FU (1 : Int32) M1
def f_X9_parts_30 (M : Mem) : Option (Int32 × Mem) :=
  cl (f_X9_refuse (-2 : Int32) M) fun v1 M1 =>
  some (v1, M1)
def f_X9_parts (x1 : Int32) (x2 : Int32) (M : Mem) : Option (Int32 × Mem) :=
  cl (f_X9_goesPath M) fun v1 M1 =>
  if v1 = (0 : Int32) then
    cl (f_X9_refuse (-3 : Int32) M1) fun v5 M3 =>
    some (v5, M3)
  else
    cp (f_X9_isState x1 M1) fun v2 =>
    if v2 = (0 : Int32) then
      f_X9_parts_30 M1
    else
      cp (f_X9_isPlace x2 M1) fun v3 =>
      if v3 = (0 : Int32) then
        f_X9_parts_30 M1
      else
        cl (f_X9_goTo 100 x1 M1) fun _ M2 =>
        rd 6 (M2.1 101) x2 fun v4 =>
        some (v4, M2)
def f_X9_formOf_31 (M : Mem) : Option (Int32 × Mem) :=
  cl (f_X9_refuse_ (-2 : Int32) (-10 : Int32) M) fun v1 M1 =>
  some (v1, M1)
def f_X9_formOf (x1 : Int32) (x2 : Int32) (M : Mem) : Option (Int32 × Mem) :=
  cl (f_X9_goesPath M) fun v1 M1 =>
  if v1 = (0 : Int32) then
    cl (f_X9_refuse (-3 : Int32) M1) fun v5 M3 =>
    some (v5, M3)
  else
    cp (f_X9_isState x1 M1) fun v2 =>
    if v2 = (0 : Int32) then
      f_X9_formOf_31 M1
    else
      cp (f_X9_isIn x2 (0 : Int32) (3 : Int32) M1) fun v3 =>
      if v3 = (0 : Int32) then
        f_X9_formOf_31 M1
      else
        cl (f_X9_goTo 100 x1 M1) fun _ M2 =>
        rd 4 (M2.1 103) x2 fun v4 =>
        some (v4, M2)
def f_X9_step_38 (M : Mem) : Option (Int32 × Mem) :=
  cl (f_X9_refuse (-2 : Int32) M) fun v1 M1 =>
  some (v1, M1)
def f_X9_step (x1 : Int32) (x2 : Int32) (M : Mem) : Option (Int32 × Mem) :=
  cl (f_X9_goesPath M) fun v1 M1 =>
  if v1 = (0 : Int32) then
    cl (f_X9_refuse (-3 : Int32) M1) fun v8 M5 =>
    some (v8, M5)
  else
    cp (f_X9_isIn x1 (1 : Int32) (M1.1 68 1) M1) fun v2 =>
    if v2 = (0 : Int32) then
      f_X9_step_38 M1
    else
      cp (f_X9_isIn x2 (0 : Int32) (3 : Int32) M1) fun v3 =>
      if v3 = (0 : Int32) then
        f_X9_step_38 M1
      else
        cl (f_X9_goTo 104 (x1 - (1 : Int32)) M1) fun _ M2 =>
        cl (f_X7_copyFrom 100 104 M2) fun _ M3 =>
        cl (f_X5_goStep 100 x1 M3) fun _ M4 =>
        if x2 = 0 then
          cp (f_X7_partsBeyond 104 100 M4) fun v4 =>
          some (v4, M4)
        else
          if x2 = 1 then
            cp (f_X7_partsBeyond 100 104 M4) fun v5 =>
            some (v5, M4)
          else
            if x2 = 2 then
              cp (f_X7_formsBeyond 100 104 M4) fun v6 =>
              some (v6, M4)
            else
              cp (f_X7_formsBeyond 104 100 M4) fun v7 =>
              some (v7, M4)
def f_X9_unlike_30 (M : Mem) : Option (Int32 × Mem) :=
  cl (f_X9_refuse (-2 : Int32) M) fun v1 M1 =>
  some (v1, M1)
def f_X9_unlike (x1 : Int32) (x2 : Int32) (M : Mem) : Option (Int32 × Mem) :=
  cl (f_X9_goesPath M) fun v1 M1 =>
  if v1 = (0 : Int32) then
    cl (f_X9_refuse (-3 : Int32) M1) fun v5 M4 =>
    some (v5, M4)
  else
    cp (f_X9_isState x1 M1) fun v2 =>
    if v2 = (0 : Int32) then
      f_X9_unlike_30 M1
    else
      cp (f_X9_isState x2 M1) fun v3 =>
      if v3 = (0 : Int32) then
        f_X9_unlike_30 M1
      else
        cl (f_X9_goTo 100 x1 M1) fun _ M2 =>
        cl (f_X9_goTo 104 x2 M2) fun _ M3 =>
        cp (f_X7_unlikeness 100 104 M3) fun v4 =>
        some (v4, M3)
def f_X9_gone_32 (M : Mem) : Option (Int32 × Mem) :=
  cl (f_X9_refuse (-2 : Int32) M) fun v1 M1 =>
  some (v1, M1)
def f_X9_gone_116 (r_58 : Int32 → Int32 → Mem → Option (Int32 × Mem)) (x1 : Int32) (x2 : Int32) (x3 : Int32) (x4 : Int32) (M : Mem) : Option (Int32 × Mem) :=
  r_58 x3 (x4 + 1) M
def f_X9_gone_95 (r_58 : Int32 → Int32 → Mem → Option (Int32 × Mem)) (x1 : Int32) (x2 : Int32) (x3 : Int32) (x4 : Int32) (M : Mem) : Option (Int32 × Mem) :=
  rd 6 (M.1 101) x1 fun v1 =>
  if ((v1 >>> (x2 &&& 31)) &&& (1 : Int32)) = (0 : Int32) then
    f_X9_gone_116 r_58 x1 x2 x3 x4 M
  else
    f_X9_gone_116 r_58 x1 x2 (x4 + (1 : Int32)) x4 M
def f_X9_gone_58_b (r_58 : Int32 → Int32 → Mem → Option (Int32 × Mem)) (x1 : Int32) (x2 : Int32) (x3 : Int32) (x4 : Int32) (M : Mem) : Option (Int32 × Mem) :=
  if (M.1 68 1) < x4 then
    if x3 ≤ (M.1 68 1) then
      some (x3, M)
    else
      some ((-1 : Int32), M)
  else
    if x4 ≤ (0 : Int32) then
      f_X9_gone_95 r_58 x1 x2 x3 x4 M
    else
      cl (f_X5_goStep 100 x4 M) fun _ M1 =>
      f_X9_gone_95 r_58 x1 x2 x3 x4 M1
def f_X9_gone_58 (x1 : Int32) (x2 : Int32) : Nat → Int32 → Int32 → Mem → Option (Int32 × Mem)
  | 0 => fun _ _ _ => none
  | n + 1 => f_X9_gone_58_b (f_X9_gone_58 x1 x2 n) x1 x2
def f_X9_gone (x1 : Int32) (x2 : Int32) (M : Mem) : Option (Int32 × Mem) :=
  cl (f_X9_goesPath M) fun v1 M1 =>
  if v1 = (0 : Int32) then
    cl (f_X9_refuse (-3 : Int32) M1) fun v4 M3 =>
    some (v4, M3)
  else
    cp (f_X9_isPlace x1 M1) fun v2 =>
    if v2 = (0 : Int32) then
      f_X9_gone_32 M1
    else
      cp (f_X9_isIn x2 (0 : Int32) (7 : Int32) M1) fun v3 =>
      if v3 = (0 : Int32) then
        f_X9_gone_32 M1
      else
        cl (f_X7_copyFrom 100 14 M1) fun _ M2 =>
        f_X9_gone_58 x1 x2 FU (0 : Int32) (0 : Int32) M2
def f_X9_leastUnlike_102 (r_23 : Int32 → Int32 → Int32 → Mem → Option (Int32 × Mem)) (x1 : Int32) (x2 : Int32) (x3 : Int32) (x4 : Int32) (x6 : Int32) (M : Mem) : Option (Int32 × Mem) :=
  cl (f_X6_goOn M) fun v1 M1 =>
  r_23 x4 v1 (x6 + 1) M1
def f_X9_leastUnlike_23_b (r_23 : Int32 → Int32 → Int32 → Mem → Option (Int32 × Mem)) (x1 : Int32) (x2 : Int32) (x3 : Int32) (x4 : Int32) (x5 : Int32) (x6 : Int32) (M : Mem) : Option (Int32 × Mem) :=
  if x5 = (0 : Int32) then
    some (x4, M)
  else
    if (10000 : Int32) ≤ x6 then
      some (x4, M)
    else
      ck 5 x3 <| cl (f_X7_copyFrom 100 (76 + 4 * x3.toNatClampNeg) M) fun _ M1 =>
      cl (f_X1_carry 100 x1 x2 M1) fun _ M2 =>
      cp (f_X7_unlikeness 100 14 M2) fun v1 =>
      if x4 ≤ v1 then
        f_X9_leastUnlike_102 r_23 x1 x2 x3 x4 x6 M2
      else
        cl (f_X6_keepFirst M2) fun _ M3 =>
        f_X9_leastUnlike_102 r_23 x1 x2 x3 v1 x6 M3
def f_X9_leastUnlike_23 (x1 : Int32) (x2 : Int32) (x3 : Int32) : Nat → Int32 → Int32 → Int32 → Mem → Option (Int32 × Mem)
  | 0 => fun _ _ _ _ => none
  | n + 1 => f_X9_leastUnlike_23_b (f_X9_leastUnlike_23 x1 x2 x3 n) x1 x2 x3
def f_X9_leastUnlike (x1 : Int32) (x2 : Int32) (x3 : Int32) (M : Mem) : Option (Int32 × Mem) :=
  cl (f_X6_begin x1 x3 M) fun v1 M1 =>
  f_X9_leastUnlike_23 x1 x2 x3 FU (1000 : Int32) v1 (0 : Int32) M1
def f_X9_best_42 (M : Mem) : Option (Int32 × Mem) :=
  cl (f_X9_refuse (-2 : Int32) M) fun v1 M1 =>
  some (v1, M1)
def f_X9_best_76 (M : Mem) : Option (Int32 × Mem) :=
  cl (f_X9_refuse (-3 : Int32) M) fun v1 M1 =>
  some (v1, M1)
def f_X9_best (x1 : Int32) (x2 : Int32) (x3 : Int32) (x4 : Int32) (M : Mem) : Option (Int32 × Mem) :=
  cp (f_X9_isKind x1 M) fun v1 =>
  if v1 = (0 : Int32) then
    f_X9_best_42 M
  else
    cp (f_X1_hasTongue x2 M) fun v2 =>
    if v2 = (0 : Int32) then
      f_X9_best_42 M
    else
      cp (f_X9_isIn x3 (0 : Int32) (3 : Int32) M) fun v3 =>
      if v3 = (0 : Int32) then
        f_X9_best_42 M
      else
        cp (f_X9_isIn x4 (-1 : Int32) (x3 - (1 : Int32)) M) fun v4 =>
        if v4 = (0 : Int32) then
          f_X9_best_42 M
        else
          if (M.1 14 0) = (0 : Int32) then
            f_X9_best_76 M
          else
            cp (f_X1_hasWords x2 M) fun v5 =>
            if v5 = (0 : Int32) then
              f_X9_best_76 M
            else
              cl (f_X9_leastUnlike x1 x2 x3 M) fun v6 M1 =>
              if x4 = (-1 : Int32) then
                some (v6, M1)
              else
                rd 4 (M1.1 74) x4 fun v7 =>
                some (v7, M1)
def f_X9_third_21 (M : Mem) : Option (Int32 × Mem) :=
  cl (f_X9_refuse (-2 : Int32) M) fun v1 M1 =>
  some (v1, M1)
def f_X9_third_55 (M : Mem) : Option (Int32 × Mem) :=
  cl (f_X9_refuse (-3 : Int32) M) fun v1 M1 =>
  some (v1, M1)
def f_X9_third (x1 : Int32) (x2 : Int32) (M : Mem) : Option (Int32 × Mem) :=
  cp (f_X9_isKind x1 M) fun v1 =>
  if v1 = (0 : Int32) then
    f_X9_third_21 M
  else
    cp (f_X1_hasTongue x2 M) fun v2 =>
    if v2 = (0 : Int32) then
      f_X9_third_21 M
    else
      if (M.1 14 0) = (0 : Int32) then
        f_X9_third_55 M
      else
        cp (f_X1_hasWords x2 M) fun v3 =>
        if v3 = (0 : Int32) then
          f_X9_third_55 M
        else
          cl (f_X9_leastUnlike x1 x2 (1 : Int32) M) fun v4 M1 =>
          cl (f_X9_leastUnlike x1 x2 (0 : Int32) M1) fun v5 M2 =>
          if v5 ≤ v4 then
            some ((0 : Int32), M2)
          else
            some ((1 : Int32), M2)
def f_X9_goRound (k1 : Nat) (x2 : Int32) (x3 : Int32) (x4 : Int32) (M : Mem) : Option (Unit × Mem) :=
  cl (f_X1_carry k1 x2 x4 M) fun _ M1 =>
  cl (f_X1_carry k1 x2 x3 M1) fun _ M2 =>
  some ((), M2)
def f_X9_roundLikeNow_17_b (r_17 : Int32 → Mem → Option (Int32 × Mem)) (x1 : Int32) (x2 : Int32) (x3 : Int32) (x4 : Int32) (x5 : Int32) (M : Mem) : Option (Int32 × Mem) :=
  if x4 ≤ x5 then
    some ((-1 : Int32), M)
  else
    cp (f_X7_isSameAs 104 100 M) fun v1 =>
    if v1 = (0 : Int32) then
      cl (f_X9_goRound 104 x1 x2 x3 M) fun _ M1 =>
      r_17 (x5 + 1) M1
    else
      some (x5, M)
def f_X9_roundLikeNow_17 (x1 : Int32) (x2 : Int32) (x3 : Int32) (x4 : Int32) : Nat → Int32 → Mem → Option (Int32 × Mem)
  | 0 => fun _ _ => none
  | n + 1 => f_X9_roundLikeNow_17_b (f_X9_roundLikeNow_17 x1 x2 x3 x4 n) x1 x2 x3 x4
def f_X9_roundLikeNow (x1 : Int32) (x2 : Int32) (x3 : Int32) (x4 : Int32) (M : Mem) : Option (Int32 × Mem) :=
  cl (f_X7_copyFrom 104 14 M) fun _ M1 =>
  f_X9_roundLikeNow_17 x1 x2 x3 x4 FU (0 : Int32) M1
def f_X9_round_45 (M : Mem) : Option (Int32 × Mem) :=
  cl (f_X9_refuse (-2 : Int32) M) fun v1 M1 =>
  some (v1, M1)
def f_X9_round_93 (M : Mem) : Option (Int32 × Mem) :=
  cl (f_X9_refuse (-3 : Int32) M) fun v1 M1 =>
  some (v1, M1)
def f_X9_round_117_b (r_117 : Int32 → Mem → Option (Int32 × Mem)) (x1 : Int32) (x2 : Int32) (x3 : Int32) (x4 : Int32) (x5 : Int32) (M : Mem) : Option (Int32 × Mem) :=
  if (1000 : Int32) < x5 then
    some ((-1 : Int32), M)
  else
    cl (f_X9_goRound 100 x1 x2 x3 M) fun _ M1 =>
    cl (f_X9_roundLikeNow x1 x2 x3 x5 M1) fun v1 M2 =>
    if v1 = (-1 : Int32) then
      r_117 (x5 + 1) M2
    else
      if x4 = (0 : Int32) then
        some (v1, M2)
      else
        some ((x5 - v1), M2)
def f_X9_round_117 (x1 : Int32) (x2 : Int32) (x3 : Int32) (x4 : Int32) : Nat → Int32 → Mem → Option (Int32 × Mem)
  | 0 => fun _ _ => none
  | n + 1 => f_X9_round_117_b (f_X9_round_117 x1 x2 x3 x4 n) x1 x2 x3 x4
def f_X9_round (x1 : Int32) (x2 : Int32) (x3 : Int32) (x4 : Int32) (M : Mem) : Option (Int32 × Mem) :=
  cp (f_X9_isKind x1 M) fun v1 =>
  if v1 = (0 : Int32) then
    f_X9_round_45 M
  else
    cp (f_X1_hasTongue x2 M) fun v2 =>
    if v2 = (0 : Int32) then
      f_X9_round_45 M
    else
      cp (f_X1_hasTongue x3 M) fun v3 =>
      if v3 = (0 : Int32) then
        f_X9_round_45 M
      else
        cp (f_X9_isIn x4 (0 : Int32) (1 : Int32) M) fun v4 =>
        if v4 = (0 : Int32) then
          f_X9_round_45 M
        else
          if (M.1 14 0) = (0 : Int32) then
            f_X9_round_93 M
          else
            cp (f_X1_hasWords x2 M) fun v5 =>
            if v5 = (0 : Int32) then
              f_X9_round_93 M
            else
              cp (f_X1_hasWords x3 M) fun v6 =>
              if v6 = (0 : Int32) then
                f_X9_round_93 M
              else
                cl (f_X7_copyFrom 100 14 M) fun _ M1 =>
                f_X9_round_117 x1 x2 x3 x4 FU (1 : Int32) M1
def f_X9_common_15 (M : Mem) : Option (Int32 × Mem) :=
  cl (f_X9_refuse (-2 : Int32) M) fun v1 M1 =>
  some (v1, M1)
def f_X9_common_113 (r_55 : Int32 → Int32 → Mem → Option (Int32 × Mem)) (x1 : Int32) (x2 : Int32) (x4 : Int32) (x5 : Int32) (M : Mem) : Option (Int32 × Mem) :=
  r_55 (x4 + 1) x5 M
def f_X9_common_55_b (r_55 : Int32 → Int32 → Mem → Option (Int32 × Mem)) (x1 : Int32) (x2 : Int32) (x4 : Int32) (x5 : Int32) (M : Mem) : Option (Int32 × Mem) :=
  if (M.1 6 0) ≤ x4 then
    some (x5, M)
  else
    cp (f_X1_hasWords x4 M) fun v1 =>
    if v1 = (0 : Int32) then
      f_X9_common_113 r_55 x1 x2 x4 x5 M
    else
      rd 6 (M.1 15) x2 fun v2 =>
      rd 6 (M.1 16) x2 fun v3 =>
      cp (f_X1_cheapest x1 x4 v2 v3 M) fun v4 =>
      rd 48 (M.1 11) v4 fun v5 =>
      f_X9_common_113 r_55 x1 x2 x4 (x5 &&& v5) M
def f_X9_common_55 (x1 : Int32) (x2 : Int32) : Nat → Int32 → Int32 → Mem → Option (Int32 × Mem)
  | 0 => fun _ _ _ => none
  | n + 1 => f_X9_common_55_b (f_X9_common_55 x1 x2 n) x1 x2
def f_X9_common (x1 : Int32) (x2 : Int32) (M : Mem) : Option (Int32 × Mem) :=
  cp (f_X9_isKind x1 M) fun v1 =>
  if v1 = (0 : Int32) then
    f_X9_common_15 M
  else
    cp (f_X9_isPlace x2 M) fun v2 =>
    if v2 = (0 : Int32) then
      f_X9_common_15 M
    else
      cp (f_X1_voiceBehind (-1 : Int32) M) fun v3 =>
      if v3 = (-1 : Int32) then
        cl (f_X9_refuse (-3 : Int32) M) fun v4 M1 =>
        some (v4, M1)
      else
        f_X9_common_55 x1 x2 FU v3 (255 : Int32) M
def f_X9_bears_26 (M : Mem) : Option (Int32 × Mem) :=
  cl (f_X9_refuse_ (-2 : Int32) (-10 : Int32) M) fun v1 M1 =>
  some (v1, M1)
def f_X9_bears_101 (r_64 : Int32 → Int32 → Mem → Option (Int32 × Mem)) (x1 : Int32) (x2 : Int32) (x3 : Int32) (x4 : Int32) (x5 : Int32) (M : Mem) : Option (Int32 × Mem) :=
  r_64 x4 (x5 + 1) M
def f_X9_bears_64_b (r_64 : Int32 → Int32 → Mem → Option (Int32 × Mem)) (x1 : Int32) (x2 : Int32) (x3 : Int32) (x4 : Int32) (x5 : Int32) (M : Mem) : Option (Int32 × Mem) :=
  if (255 : Int32) < x5 then
    if x3 = (-1 : Int32) then
      some (x4, M)
    else
      some ((-5 : Int32), M)
  else
    cp (f_X1_isBorne x1 x2 x5 M) fun v1 =>
    if v1 = (0 : Int32) then
      f_X9_bears_101 r_64 x1 x2 x3 x4 x5 M
    else
      if x4 = x3 then
        some (x5, M)
      else
        f_X9_bears_101 r_64 x1 x2 x3 (x4 + 1) x5 M
def f_X9_bears_64 (x1 : Int32) (x2 : Int32) (x3 : Int32) : Nat → Int32 → Int32 → Mem → Option (Int32 × Mem)
  | 0 => fun _ _ _ => none
  | n + 1 => f_X9_bears_64_b (f_X9_bears_64 x1 x2 x3 n) x1 x2 x3
def f_X9_bears (x1 : Int32) (x2 : Int32) (x3 : Int32) (M : Mem) : Option (Int32 × Mem) :=
  cp (f_X9_isKind x1 M) fun v1 =>
  if v1 = (0 : Int32) then
    f_X9_bears_26 M
  else
    cp (f_X1_hasTongue x2 M) fun v2 =>
    if v2 = (0 : Int32) then
      f_X9_bears_26 M
    else
      if (-1 : Int32) ≤ x3 then
        cp (f_X1_hasWords x2 M) fun v3 =>
        if v3 = (0 : Int32) then
          cl (f_X9_refuse_ (-3 : Int32) (-20 : Int32) M) fun v4 M1 =>
          some (v4, M1)
        else
          f_X9_bears_64 x1 x2 x3 FU (0 : Int32) (1 : Int32) M
      else
        f_X9_bears_26 M
def f_X9_middle_40 (M : Mem) (r_6 : Int32 → Int32 → Option Int32) (x1 : Int32) (x2 : Int32) : Option Int32 :=
  r_6 x1 (x2 + 1)
def f_X9_middle_6_b (M : Mem) (r_6 : Int32 → Int32 → Option Int32) (x1 : Int32) (x2 : Int32) : Option Int32 :=
  if (255 : Int32) ≤ x2 then
    some x1
  else
    cp (f_J6_bitCount_0f7a4 x2 M) fun v1 =>
    cp (f_J6_bitCount_0f7a4 x1 M) fun v2 =>
    if v2 ≤ v1 then
      f_X9_middle_40 M r_6 x1 x2
    else
      cp (f_X1_isToldApartBy x2 M) fun v3 =>
      if v3 = (0 : Int32) then
        f_X9_middle_40 M r_6 x1 x2
      else
        f_X9_middle_40 M r_6 x2 x2
def f_X9_middle_6 (M : Mem) : Nat → Int32 → Int32 → Option Int32
  | 0 => fun _ _ => none
  | n + 1 => f_X9_middle_6_b M (f_X9_middle_6 M n)
def f_X9_middle (M : Mem) : Option Int32 :=
  f_X9_middle_6 M FU (255 : Int32) (0 : Int32)
def f_X9_end_20 (M : Mem) : Option (Int32 × Mem) :=
  cl (f_X9_refuse (-2 : Int32) M) fun v1 M1 =>
  some (v1, M1)
def f_X9_end (x1 : Int32) (x2 : Int32) (M : Mem) : Option (Int32 × Mem) :=
  cp (f_X9_isIn x1 (0 : Int32) (5 : Int32) M) fun v1 =>
  if v1 = (0 : Int32) then
    f_X9_end_20 M
  else
    cp (f_X9_isIn x2 (0 : Int32) (255 : Int32) M) fun v2 =>
    if v2 = (0 : Int32) then
      f_X9_end_20 M
    else
      rd 6 (M.1 21) x1 fun v3 =>
      ck 6 x1 <| stm (mset M 21 x1.toNatClampNeg x2) fun M1 =>
      some (v3, M1)
def f_X9_endForm_19 (M : Mem) : Option (Int32 × Mem) :=
  cl (f_X9_refuse_ (-2 : Int32) (-10 : Int32) M) fun v1 M1 =>
  some (v1, M1)
def f_X9_endForm (x1 : Int32) (x2 : Int32) (M : Mem) : Option (Int32 × Mem) :=
  cp (f_X9_isIn x1 (0 : Int32) (3 : Int32) M) fun v1 =>
  if v1 = (0 : Int32) then
    f_X9_endForm_19 M
  else
    cp (f_X9_isIn x2 (-2 : Int32) (1 : Int32) M) fun v2 =>
    if v2 = (0 : Int32) then
      f_X9_endForm_19 M
    else
      rd 4 (M.1 22) x1 fun v3 =>
      ck 4 x1 <| stm (mset M 22 x1.toNatClampNeg x2) fun M1 =>
      some (v3, M1)
def f_X9_countRowsToEnd_84 (r_28 : Int32 → Int32 → Int32 → Mem → Option (Int32 × Mem)) (x2 : Int32) (x3 : Int32) (x5 : Int32) (M : Mem) : Option (Int32 × Mem) :=
  cl (f_X6_goOn M) fun v1 M1 =>
  r_28 x3 v1 (x5 + 1) M1
def f_X9_countRowsToEnd_28_b (r_28 : Int32 → Int32 → Int32 → Mem → Option (Int32 × Mem)) (x2 : Int32) (x3 : Int32) (x4 : Int32) (x5 : Int32) (M : Mem) : Option (Int32 × Mem) :=
  if x4 = (0 : Int32) then
    some (x3, M)
  else
    if (10000 : Int32) ≤ x5 then
      some (x3, M)
    else
      ck 5 x2 <| cp (f_X0_isReached (76 + 4 * x2.toNatClampNeg) M) fun v1 =>
      if v1 = (0 : Int32) then
        f_X9_countRowsToEnd_84 r_28 x2 x3 x5 M
      else
        rd 6 (M.1 4) (M.1 73 0) fun v2 =>
        ck 6 (M.1 73 0) <| stm (mset M 4 (M.1 73 0).toNatClampNeg (v2 + (1 : Int32))) fun M1 =>
        f_X9_countRowsToEnd_84 r_28 x2 (x3 + 1) x5 M1
def f_X9_countRowsToEnd_28 (x2 : Int32) : Nat → Int32 → Int32 → Int32 → Mem → Option (Int32 × Mem)
  | 0 => fun _ _ _ _ => none
  | n + 1 => f_X9_countRowsToEnd_28_b (f_X9_countRowsToEnd_28 x2 n) x2
def f_X9_countRowsToEnd (x1 : Int32) (x2 : Int32) (M : Mem) : Option (Int32 × Mem) :=
  cl (f_J7_fill_53178 4 6 (0 : Int32) M) fun _ M1 =>
  cl (f_X6_begin x1 x2 M1) fun v1 M2 =>
  f_X9_countRowsToEnd_28 x2 FU (0 : Int32) v1 (0 : Int32) M2
def f_X9_greatestDivisor_7_b (M : Mem) (r_7 : Int32 → Int32 → Int32 → Option Int32) (x2 : Int32) (x3 : Int32) (x4 : Int32) : Option Int32 :=
  if (100 : Int32) ≤ x4 then
    some x2
  else
    if x3 = (0 : Int32) then
      some x2
    else
      dz x3 <| r_7 x3 (x2 % x3) (x4 + 1)
def f_X9_greatestDivisor_7 (M : Mem) : Nat → Int32 → Int32 → Int32 → Option Int32
  | 0 => fun _ _ _ => none
  | n + 1 => f_X9_greatestDivisor_7_b M (f_X9_greatestDivisor_7 M n)
def f_X9_greatestDivisor (x0 : Int32) (x1 : Int32) (M : Mem) : Option Int32 :=
  f_X9_greatestDivisor_7 M FU x0 x1 (0 : Int32)
def f_X9_keepFraction (x1 : Int32) (x2 : Int32) (M : Mem) : Option (Unit × Mem) :=
  cp (f_X9_greatestDivisor x1 x2 M) fun v1 =>
  if v1 ≤ (0 : Int32) then
    some ((), M)
  else
    dz v1 <| stm (mset M 0 4 (x1 / v1)) fun M1 =>
    dz v1 <| stm (mset M1 0 5 (x2 / v1)) fun M2 =>
    some ((), M2)
def f_X9_which_35 (M : Mem) : Option (Int32 × Mem) :=
  cl (f_X9_refuse (-2 : Int32) M) fun v1 M1 =>
  some (v1, M1)
def f_X9_which_74 (M : Mem) : Option (Int32 × Mem) :=
  cl (f_X9_refuse (-3 : Int32) M) fun v1 M1 =>
  some (v1, M1)
def f_X9_which_81 (x1 : Int32) (x2 : Int32) (x3 : Int32) (M : Mem) : Option (Int32 × Mem) :=
  cl (f_X9_countRowsToEnd x1 x2 M) fun v1 M1 =>
  if x3 = (-1 : Int32) then
    some (v1, M1)
  else
    if v1 = (0 : Int32) then
      cl (f_X9_refuse (-3 : Int32) M1) fun v3 M3 =>
      some (v3, M3)
    else
      rd 6 (M1.1 4) x3 fun v2 =>
      cl (f_X9_keepFraction v2 v1 M1) fun _ M2 =>
      some ((1 : Int32), M2)
def f_X9_which_42 (x1 : Int32) (x2 : Int32) (x3 : Int32) (M : Mem) : Option (Int32 × Mem) :=
  if (M.1 14 0) = (0 : Int32) then
    f_X9_which_74 M
  else
    if x3 = (-1 : Int32) then
      f_X9_which_81 x1 x2 x3 M
    else
      cp (f_X1_hasWords x3 M) fun v1 =>
      if v1 = (0 : Int32) then
        f_X9_which_74 M
      else
        f_X9_which_81 x1 x2 x3 M
def f_X9_which (x1 : Int32) (x2 : Int32) (x3 : Int32) (M : Mem) : Option (Int32 × Mem) :=
  cp (f_X9_isKind x1 M) fun v1 =>
  if v1 = (0 : Int32) then
    f_X9_which_35 M
  else
    cp (f_X9_isIn x2 (1 : Int32) (4 : Int32) M) fun v2 =>
    if v2 = (0 : Int32) then
      f_X9_which_35 M
    else
      if x3 = (-1 : Int32) then
        f_X9_which_42 x1 x2 x3 M
      else
        cp (f_X1_hasTongue x3 M) fun v3 =>
        if v3 = (0 : Int32) then
          f_X9_which_35 M
        else
          f_X9_which_42 x1 x2 x3 M
def f_X9_pair_36 (M : Mem) : Option (Int32 × Mem) :=
  cl (f_X9_refuse (-2 : Int32) M) fun v1 M1 =>
  some (v1, M1)
def f_X9_pair (x1 : Int32) (x2 : Int32) (x3 : Int32) (x4 : Int32) (M : Mem) : Option (Int32 × Mem) :=
  if x1 = x3 then
    f_X9_pair_36 M
  else
    cp (f_X1_hasWord x1 x2 M) fun v1 =>
    if v1 = (0 : Int32) then
      f_X9_pair_36 M
    else
      cp (f_X1_hasWord x3 x4 M) fun v2 =>
      if v2 = (0 : Int32) then
        f_X9_pair_36 M
      else
        cp (f_X2_has ((x1 * (8 : Int32)) + x2) ((x3 * (8 : Int32)) + x4) M) fun v3 =>
        if v3 = (0 : Int32) then
          if (M.1 23 0) < (24 : Int32) then
            cl (f_X2_add ((x1 * (8 : Int32)) + x2) ((x3 * (8 : Int32)) + x4) M) fun v4 M1 =>
            some (v4, M1)
          else
            cl (f_X9_refuse (-4 : Int32) M) fun v5 M2 =>
            some (v5, M2)
        else
          cl (f_X9_refuse (-2 : Int32) M) fun v6 M3 =>
          some (v6, M3)
def f_X9_rings (x1 : Int32) (M : Mem) : Option (Int32 × Mem) :=
  cp (f_X9_isIn x1 (0 : Int32) (1 : Int32) M) fun v1 =>
  if v1 = (0 : Int32) then
    cl (f_X9_refuse (-2 : Int32) M) fun v2 M2 =>
    some (v2, M2)
  else
    cl (f_X4_find M) fun _ M1 =>
    if x1 = (0 : Int32) then
      some ((M1.1 96 0), M1)
    else
      some ((M1.1 96 1), M1)
def f_X9_atFault (x1 : Int32) (M : Mem) : Option (Int32 × Mem) :=
  cp (f_X9_isIn x1 (0 : Int32) ((M.1 23 0) - (1 : Int32)) M) fun v1 =>
  if v1 = (0 : Int32) then
    cl (f_X9_refuse (-2 : Int32) M) fun v6 M4 =>
    some (v6, M4)
  else
    cl (f_X4_find M) fun _ M1 =>
    rd 24 (M1.1 97) x1 fun v2 =>
    if v2 = (0 : Int32) then
      cl (f_X9_refuse (-3 : Int32) M1) fun v5 M3 =>
      some (v5, M3)
    else
      rd 24 (M1.1 98) x1 fun v3 =>
      rd 24 (M1.1 97) x1 fun v4 =>
      cl (f_X9_keepFraction v3 v4 M1) fun _ M2 =>
      some ((1 : Int32), M2)
def f_X9_worst_63 (r_18 : Int32 → Int32 → Mem → Option (Int32 × Mem)) (x1 : Int32) (x2 : Int32) (M : Mem) : Option (Int32 × Mem) :=
  r_18 x1 (x2 + 1) M
def f_X9_worst_61 (r_18 : Int32 → Int32 → Mem → Option (Int32 × Mem)) (x2 : Int32) (M : Mem) : Option (Int32 × Mem) :=
  f_X9_worst_63 r_18 x2 x2 M
def f_X9_worst_18_b (r_18 : Int32 → Int32 → Mem → Option (Int32 × Mem)) (x1 : Int32) (x2 : Int32) (M : Mem) : Option (Int32 × Mem) :=
  if (M.1 23 0) ≤ x2 then
    some (x1, M)
  else
    rd 24 (M.1 97) x2 fun v1 =>
    if v1 ≤ (0 : Int32) then
      f_X9_worst_63 r_18 x1 x2 M
    else
      if x1 = (-1 : Int32) then
        f_X9_worst_61 r_18 x2 M
      else
        cp (f_X4_isWorse x2 x1 M) fun v2 =>
        if v2 = (0 : Int32) then
          f_X9_worst_63 r_18 x1 x2 M
        else
          f_X9_worst_61 r_18 x2 M
def f_X9_worst_18 : Nat → Int32 → Int32 → Mem → Option (Int32 × Mem)
  | 0 => fun _ _ _ => none
  | n + 1 => f_X9_worst_18_b (f_X9_worst_18 n)
def f_X9_worst (M : Mem) : Option (Int32 × Mem) :=
  cl (f_X4_find M) fun _ M1 =>
  f_X9_worst_18 FU (-1 : Int32) (0 : Int32) M1
def f_X9_sets_68 (r_32 : Int32 → Int32 → Mem → Option (Int32 × Mem)) (x1 : Int32) (x2 : Int32) (M : Mem) : Option (Int32 × Mem) :=
  r_32 x1 (x2 + 1) M
def f_X9_sets_32_b (r_32 : Int32 → Int32 → Mem → Option (Int32 × Mem)) (x1 : Int32) (x2 : Int32) (M : Mem) : Option (Int32 × Mem) :=
  if (48 : Int32) ≤ x2 then
    some (x1, M)
  else
    cp (f_X1_isWordAt x2 M) fun v1 =>
    if v1 = (0 : Int32) then
      f_X9_sets_68 r_32 x1 x2 M
    else
      rd 48 (M.1 99) x2 fun v2 =>
      if v2 = x2 then
        f_X9_sets_68 r_32 (x1 + 1) x2 M
      else
        f_X9_sets_68 r_32 x1 x2 M
def f_X9_sets_32 : Nat → Int32 → Int32 → Mem → Option (Int32 × Mem)
  | 0 => fun _ _ _ => none
  | n + 1 => f_X9_sets_32_b (f_X9_sets_32 n)
def f_X9_sets (M : Mem) : Option (Int32 × Mem) :=
  cl (f_X4_find M) fun _ M1 =>
  cl (f_X4_joinSets M1) fun _ M2 =>
  f_X9_sets_32 FU (0 : Int32) (0 : Int32) M2
def f_X9_alike_31 (M : Mem) : Option (Int32 × Mem) :=
  cl (f_X9_refuse (-2 : Int32) M) fun v1 M1 =>
  some (v1, M1)
def f_X9_alike (x1 : Int32) (x2 : Int32) (x3 : Int32) (x4 : Int32) (M : Mem) : Option (Int32 × Mem) :=
  cp (f_X1_hasWord x1 x2 M) fun v1 =>
  if v1 = (0 : Int32) then
    f_X9_alike_31 M
  else
    cp (f_X1_hasWord x3 x4 M) fun v2 =>
    if v2 = (0 : Int32) then
      f_X9_alike_31 M
    else
      cl (f_X4_find M) fun _ M1 =>
      cl (f_X4_joinSets M1) fun _ M2 =>
      rd 48 (M2.1 99) ((x1 * (8 : Int32)) + x2) fun v3 =>
      rd 48 (M2.1 99) ((x3 * (8 : Int32)) + x4) fun v4 =>
      if v3 = v4 then
        some ((1 : Int32), M2)
      else
        some ((0 : Int32), M2)
def f_X9_part (x1 : Int32) (M : Mem) : Option (Int32 × Mem) :=
  cp (f_X9_isIn x1 (0 : Int32) (1 : Int32) M) fun v1 =>
  if v1 = (0 : Int32) then
    cl (f_X9_refuse (-2 : Int32) M) fun v2 M1 =>
    some (v2, M1)
  else
    if x1 = (0 : Int32) then
      some ((M.1 0 4), M)
    else
      some ((M.1 0 5), M)
def f_X9_image (x1 : Int32) (M : Mem) : Option (Int32 × Mem) :=
  cp (f_X9_isIn x1 (0 : Int32) (1 : Int32) M) fun v1 =>
  if v1 = (0 : Int32) then
    cl (f_X9_refuse (-2 : Int32) M) fun v2 M3 =>
    some (v2, M3)
  else
    ck 2 x1 <| cl (f_X8_copyFrom (26 + 21 * x1.toNatClampNeg) 5 M) fun _ M1 =>
    ck 2 x1 <| stm (mset M1 2 x1.toNatClampNeg (1 : Int32)) fun M2 =>
    some ((1 : Int32), M2)
def f_X9_from (x1 : Int32) (M : Mem) : Option (Int32 × Mem) :=
  cp (f_X9_isIn x1 (0 : Int32) (1 : Int32) M) fun v1 =>
  if v1 = (0 : Int32) then
    cl (f_X9_refuse (-2 : Int32) M) fun v4 M3 =>
    some (v4, M3)
  else
    rd 2 (M.1 2) x1 fun v2 =>
    if v2 = (0 : Int32) then
      cl (f_X9_refuse (-3 : Int32) M) fun v3 M2 =>
      some (v3, M2)
    else
      ck 2 x1 <| cl (f_X8_copyFrom 5 (26 + 21 * x1.toNatClampNeg) M) fun _ M1 =>
      some ((1 : Int32), M1)
def f_X9_status (x1 : Int32) (M : Mem) : Option (Int32 × Mem) :=
  cp (f_X9_isIn x1 (0 : Int32) ((3 : Int32) - (1 : Int32)) M) fun v1 =>
  if v1 = (0 : Int32) then
    cl (f_X9_refuse_ (-2 : Int32) (-1 : Int32) M) fun v3 M1 =>
    some (v3, M1)
  else
    rd 3 (M.1 3) x1 fun v2 =>
    some (v2, M)
def f_X9_count (x1 : Int32) (M : Mem) : Option (Int32 × Mem) :=
  cp (f_X9_isIn x1 (0 : Int32) (9 : Int32) M) fun v1 =>
  if v1 = (0 : Int32) then
    cl (f_X9_refuse (-2 : Int32) M) fun v2 M1 =>
    some (v2, M1)
  else
    cp (f_X8_howMany x1 M) fun v3 =>
    some (v3, M)
def f_X9_digest (M : Mem) : Option Int64 :=
  cp (f_X8_mixAll (599 : Int64) M) fun v1 =>
  cp (f_X9_mix v1 ((M.1 0 4).toInt64) M) fun v2 =>
  cp (f_X9_mix v2 ((M.1 0 5).toInt64) M) fun v3 =>
  some v3
def f_X10_between (x0 : Int32) (x1 : Int32) (x2 : Int32) (M : Mem) : Option Int32 :=
  if x0 < x1 then
    some (0 : Int32)
  else
    if x2 < x0 then
      some (0 : Int32)
    else
      some (1 : Int32)
def f_X10_bad (x1 : Int32) (M : Mem) : Option (Int32 × Mem) :=
  stm (mset M 120 0 ((M.1 120 0) + (1 : Int32))) fun M1 =>
  some (x1, M1)
def f_X10_no (x1 : Int32) (M : Mem) : Option (Int32 × Mem) :=
  stm (mset M 120 1 ((M.1 120 1) + (1 : Int32))) fun M1 =>
  some (x1, M1)
def f_X10_full (M : Mem) : Option (Int32 × Mem) :=
  stm (mset M 120 2 ((M.1 120 2) + (1 : Int32))) fun M1 =>
  some ((-4 : Int32), M1)
def f_X10_bits_4_b (M : Mem) (r_4 : Int32 → Int32 → Option Int32) (x0 : Int32) (x1 : Int32) (x2 : Int32) : Option Int32 :=
  if (8 : Int32) ≤ x2 then
    some x1
  else
    r_4 (x1 + ((x0 >>> (x2 &&& 31)) &&& (1 : Int32))) (x2 + 1)
def f_X10_bits_4 (M : Mem) (x0 : Int32) : Nat → Int32 → Int32 → Option Int32
  | 0 => fun _ _ => none
  | n + 1 => f_X10_bits_4_b M (f_X10_bits_4 M x0 n) x0
def f_X10_bits (x0 : Int32) (M : Mem) : Option Int32 :=
  f_X10_bits_4 M x0 FU (0 : Int32) (0 : Int32)
def f_X10_isTongue (x1 : Int32) (M : Mem) : Option Int32 :=
  cp (f_X10_between x1 (0 : Int32) ((M.1 109 0) - (1 : Int32)) M) fun v1 =>
  rz v1 (some v1)
def f_X10_isWord (x1 : Int32) (x2 : Int32) (M : Mem) : Option Int32 :=
  cp (f_X10_isTongue x1 M) fun v1 =>
  if v1 = (0 : Int32) then
    some (0 : Int32)
  else
    rd 72 (M.1 113) (((4 : Int32) * x1) + (3 : Int32)) fun v2 =>
    cp (f_X10_between x2 (0 : Int32) (v2 - (1 : Int32)) M) fun v3 =>
    if v3 = (0 : Int32) then
      some (0 : Int32)
    else
      some (1 : Int32)
def f_X10_speaks (x1 : Int32) (M : Mem) : Option Int32 :=
  cp (f_X10_isTongue x1 M) fun v1 =>
  if v1 = (0 : Int32) then
    some (0 : Int32)
  else
    rd 72 (M.1 113) (((4 : Int32) * x1) + (3 : Int32)) fun v2 =>
    if v2 ≤ (0 : Int32) then
      some (0 : Int32)
    else
      some (1 : Int32)
def f_X10_tongue_38 (M : Mem) : Option (Int32 × Mem) :=
  cl (f_X10_bad (-2 : Int32) M) fun v1 M1 =>
  some (v1, M1)
def f_X10_tongue (x1 : Int32) (x2 : Int32) (x3 : Int32) (M : Mem) : Option (Int32 × Mem) :=
  cp (f_X10_between x1 (0 : Int32) (15 : Int32) M) fun v1 =>
  if v1 = (0 : Int32) then
    f_X10_tongue_38 M
  else
    cp (f_X10_between x2 (0 : Int32) (15 : Int32) M) fun v2 =>
    if v2 = (0 : Int32) then
      f_X10_tongue_38 M
    else
      cp (f_X10_between x3 (0 : Int32) (15 : Int32) M) fun v3 =>
      if v3 = (0 : Int32) then
        f_X10_tongue_38 M
      else
        if (x1 &&& (x2 ^^^ (-1 : Int32))) = (0 : Int32) then
          if (M.1 109 0) = (6 : Int32) then
            cl (f_X10_full M) fun v4 M6 =>
            some (v4, M6)
          else
            ck 72 ((4 : Int32) * (M.1 109 0)) <| stm (mset M 113 ((4 : Int32) * (M.1 109 0)).toNatClampNeg x1) fun M1 =>
            ck 72 (((4 : Int32) * (M.1 109 0)) + (1 : Int32)) <| stm (mset M1 113 (((4 : Int32) * (M.1 109 0)) + (1 : Int32)).toNatClampNeg x2) fun M2 =>
            ck 72 (((4 : Int32) * (M.1 109 0)) + (2 : Int32)) <| stm (mset M2 113 (((4 : Int32) * (M.1 109 0)) + (2 : Int32)).toNatClampNeg x3) fun M3 =>
            ck 72 (((4 : Int32) * (M.1 109 0)) + (3 : Int32)) <| stm (mset M3 113 (((4 : Int32) * (M.1 109 0)) + (3 : Int32)).toNatClampNeg (0 : Int32)) fun M4 =>
            stm (mset M4 109 0 ((M4.1 109 0) + (1 : Int32))) fun M5 =>
            some ((M.1 109 0), M5)
        else
          f_X10_tongue_38 M
def f_X10_word_40 (M : Mem) : Option (Int32 × Mem) :=
  cl (f_X10_bad (-2 : Int32) M) fun v1 M1 =>
  some (v1, M1)
def f_X10_word (x1 : Int32) (x2 : Int32) (x3 : Int32) (x4 : Int32) (M : Mem) : Option (Int32 × Mem) :=
  cp (f_X10_isTongue x1 M) fun v1 =>
  if v1 = (0 : Int32) then
    f_X10_word_40 M
  else
    cp (f_X10_between x2 (1 : Int32) (255 : Int32) M) fun v2 =>
    if v2 = (0 : Int32) then
      f_X10_word_40 M
    else
      cp (f_X10_between x3 (0 : Int32) (9 : Int32) M) fun v3 =>
      if v3 = (0 : Int32) then
        f_X10_word_40 M
      else
        cp (f_X10_between x4 (0 : Int32) (9 : Int32) M) fun v4 =>
        if v4 = (0 : Int32) then
          f_X10_word_40 M
        else
          rd 72 (M.1 113) (((4 : Int32) * x1) + (3 : Int32)) fun v5 =>
          if v5 = (8 : Int32) then
            cl (f_X10_full M) fun v7 M5 =>
            some (v7, M5)
          else
            ck 432 (((24 : Int32) * x1) + ((3 : Int32) * v5)) <| stm (mset M 114 (((24 : Int32) * x1) + ((3 : Int32) * v5)).toNatClampNeg x2) fun M1 =>
            ck 432 ((((24 : Int32) * x1) + ((3 : Int32) * v5)) + (1 : Int32)) <| stm (mset M1 114 ((((24 : Int32) * x1) + ((3 : Int32) * v5)) + (1 : Int32)).toNatClampNeg x3) fun M2 =>
            ck 432 ((((24 : Int32) * x1) + ((3 : Int32) * v5)) + (2 : Int32)) <| stm (mset M2 114 ((((24 : Int32) * x1) + ((3 : Int32) * v5)) + (2 : Int32)).toNatClampNeg x4) fun M3 =>
            rd 72 (M3.1 113) (((4 : Int32) * x1) + (3 : Int32)) fun v6 =>
            ck 72 (((4 : Int32) * x1) + (3 : Int32)) <| stm (mset M3 113 (((4 : Int32) * x1) + (3 : Int32)).toNatClampNeg (v6 + (1 : Int32))) fun M4 =>
            some (v5, M4)
def f_X10_put_19 (M : Mem) : Option (Int32 × Mem) :=
  cl (f_X10_bad (-2 : Int32) M) fun v1 M1 =>
  some (v1, M1)
def f_X10_put (x1 : Int32) (x2 : Int32) (M : Mem) : Option (Int32 × Mem) :=
  cp (f_X10_between x1 (0 : Int32) (1 : Int32) M) fun v1 =>
  if v1 = (0 : Int32) then
    f_X10_put_19 M
  else
    cp (f_X10_between x2 (0 : Int32) (9 : Int32) M) fun v2 =>
    if v2 = (0 : Int32) then
      f_X10_put_19 M
    else
      rd 36 (M.1 118) ((10 : Int32) + x1) fun v3 =>
      ck 36 ((10 : Int32) + x1) <| stm (mset M 118 ((10 : Int32) + x1).toNatClampNeg x2) fun M1 =>
      some (v3, M1)
def f_X10_say (x1 : Int32) (M : Mem) : Option (Int32 × Mem) :=
  cp (f_X10_between x1 (1 : Int32) (255 : Int32) M) fun v1 =>
  if v1 = (0 : Int32) then
    cl (f_X10_bad (-2 : Int32) M) fun v3 M4 =>
    some (v3, M4)
  else
    if (M.1 110 0) = (6 : Int32) then
      cl (f_X10_full M) fun v2 M3 =>
      some (v2, M3)
    else
      ck 48 (M.1 110 0) <| stm (mset M 117 (M.1 110 0).toNatClampNeg x1) fun M1 =>
      stm (mset M1 110 0 ((M1.1 110 0) + (1 : Int32))) fun M2 =>
      some (((M2.1 110 0) - (1 : Int32)), M2)
def f_X10_form_18 (M : Mem) : Option (Int32 × Mem) :=
  cl (f_X10_bad (-10 : Int32) M) fun v1 M1 =>
  some (v1, M1)
def f_X10_form (x1 : Int32) (x2 : Int32) (M : Mem) : Option (Int32 × Mem) :=
  cp (f_X10_between x1 (0 : Int32) (3 : Int32) M) fun v1 =>
  if v1 = (0 : Int32) then
    f_X10_form_18 M
  else
    cp (f_X10_between x2 (-1 : Int32) (1 : Int32) M) fun v2 =>
    if v2 = (0 : Int32) then
      f_X10_form_18 M
    else
      rd 48 (M.1 117) ((12 : Int32) + x1) fun v3 =>
      ck 48 ((12 : Int32) + x1) <| stm (mset M 117 ((12 : Int32) + x1).toNatClampNeg x2) fun M1 =>
      some (v3, M1)
def f_X10_hush_38 (r_16 : Int32 → Mem → Option (Int32 × Mem)) (x1 : Int32) (x2 : Int32) (t2 : Int32) (t1 : Int32) (M : Mem) : Option (Int32 × Mem) :=
  ck 48 t1 <| stm (mset M 117 t1.toNatClampNeg t2) fun M1 =>
  r_16 (x2 + 1) M1
def f_X10_hush_16_b (r_16 : Int32 → Mem → Option (Int32 × Mem)) (x1 : Int32) (x2 : Int32) (M : Mem) : Option (Int32 × Mem) :=
  if (16 : Int32) ≤ x2 then
    some (x1, M)
  else
    if (6 : Int32) ≤ x2 then
      f_X10_hush_38 r_16 x1 x2 (-1 : Int32) x2 M
    else
      f_X10_hush_38 r_16 x1 x2 (0 : Int32) x2 M
def f_X10_hush_16 (x1 : Int32) : Nat → Int32 → Mem → Option (Int32 × Mem)
  | 0 => fun _ _ => none
  | n + 1 => f_X10_hush_16_b (f_X10_hush_16 x1 n) x1
def f_X10_hush (M : Mem) : Option (Int32 × Mem) :=
  stm (mset M 110 0 (0 : Int32)) fun M1 =>
  f_X10_hush_16 (M.1 110 0) FU (0 : Int32) M1
def f_X10_costs_182 (M : Mem) (t1 : Int32) (t0 : Int32) : Option Int32 :=
  some (t0 + t1)
def f_X10_costs_199 (M : Mem) (t1 : Int32) (t0 : Int32) : Option Int32 :=
  some (t0 + t1)
def f_X10_costs_74 (M : Mem) (x1 : Int32) (x4 : Int32) (x5 : Int32) (x6 : Int32) (x7 : Int32) (t0 : Int32) : Option Int32 :=
  if x1 = 0 then
    some x7
  else
    if x1 = 1 then
      some (x7 + ((M.1 118 11) * x6))
    else
      if x1 = 2 then
        some (x7 + ((M.1 118 10) * x5))
      else
        if x1 = 3 then
          rd 432 (M.1 114) (x4 + (2 : Int32)) fun v1 =>
          some (x7 - v1)
        else
          if x1 = 4 then
            if (0 : Int32) ≤ t0 then
              f_X10_costs_182 M t0 (x7 + ((M.1 118 11) * x6))
            else
              f_X10_costs_182 M (-t0) (x7 + ((M.1 118 11) * x6))
          else
            if (x5 + x6) ≤ (0 : Int32) then
              f_X10_costs_199 M (0 : Int32) x7
            else
              f_X10_costs_199 M (5 : Int32) x7
def f_X10_costs (x1 : Int32) (x2 : Int32) (x3 : Int32) (x4 : Int32) (M : Mem) : Option Int32 :=
  rd 432 (M.1 114) x4 fun v1 =>
  cp (f_X10_bits (x2 &&& (v1 ^^^ (-1 : Int32))) M) fun v2 =>
  rd 432 (M.1 114) x4 fun v3 =>
  cp (f_X10_bits (v3 &&& (x2 ^^^ (-1 : Int32))) M) fun v4 =>
  if (0 : Int32) ≤ x3 then
    rd 432 (M.1 114) (x4 + (1 : Int32)) fun v5 =>
    f_X10_costs_74 M x1 x4 v2 v4 (((M.1 118 10) * v2) + ((M.1 118 11) * v4)) (x3 - v5)
  else
    f_X10_costs_74 M x1 x4 v2 v4 (((M.1 118 10) * v2) + ((M.1 118 11) * v4)) (0 : Int32)
def f_X10_cost_35 (M : Mem) : Option (Int32 × Mem) :=
  cl (f_X10_bad (-1000 : Int32) M) fun v1 M1 =>
  some (v1, M1)
def f_X10_cost (x1 : Int32) (x2 : Int32) (x3 : Int32) (x4 : Int32) (M : Mem) : Option (Int32 × Mem) :=
  cp (f_X10_between x1 (0 : Int32) (5 : Int32) M) fun v1 =>
  if v1 = (0 : Int32) then
    f_X10_cost_35 M
  else
    cp (f_X10_between x2 (0 : Int32) ((M.1 110 0) - (1 : Int32)) M) fun v2 =>
    if v2 = (0 : Int32) then
      f_X10_cost_35 M
    else
      cp (f_X10_isWord x3 x4 M) fun v3 =>
      if v3 = (0 : Int32) then
        f_X10_cost_35 M
      else
        rd 48 (M.1 117) x2 fun v4 =>
        rd 48 (M.1 117) ((6 : Int32) + x2) fun v5 =>
        cp (f_X10_costs x1 v4 v5 (((24 : Int32) * x3) + ((3 : Int32) * x4)) M) fun v6 =>
        some (v6, M)
def f_X10_gets_97 (M : Mem) (r_10 : Int32 → Int32 → Option Int32) (x1 : Int32) (x2 : Int32) (x3 : Int32) (x4 : Int32) (x6 : Int32) (t0 : Int32) : Option Int32 :=
  r_10 t0 (x6 + 1)
def f_X10_gets_90 (M : Mem) (r_10 : Int32 → Int32 → Option Int32) (x1 : Int32) (x2 : Int32) (x3 : Int32) (x4 : Int32) (x6 : Int32) (x7 : Int32) : Option Int32 :=
  f_X10_gets_97 M r_10 x1 x2 x3 x4 x6 x7
def f_X10_gets_95 (M : Mem) (r_10 : Int32 → Int32 → Option Int32) (x1 : Int32) (x2 : Int32) (x3 : Int32) (x4 : Int32) (x5 : Int32) (x6 : Int32) : Option Int32 :=
  f_X10_gets_97 M r_10 x1 x2 x3 x4 x6 x5
def f_X10_gets_10_b (M : Mem) (r_10 : Int32 → Int32 → Option Int32) (x1 : Int32) (x2 : Int32) (x3 : Int32) (x4 : Int32) (x5 : Int32) (x6 : Int32) : Option Int32 :=
  rd 72 (M.1 113) (((4 : Int32) * x4) + (3 : Int32)) fun v1 =>
  if v1 ≤ x6 then
    some x5
  else
    cp (f_X10_costs x1 x2 x3 x5 M) fun v2 =>
    cp (f_X10_costs x1 x2 x3 (((24 : Int32) * x4) + ((3 : Int32) * x6)) M) fun v3 =>
    if (0 : Int32) < (v2 - v3) then
      f_X10_gets_90 M r_10 x1 x2 x3 x4 x6 (((24 : Int32) * x4) + ((3 : Int32) * x6))
    else
      if (v2 - v3) = (0 : Int32) then
        rd 432 (M.1 114) ((((24 : Int32) * x4) + ((3 : Int32) * x6)) + (2 : Int32)) fun v4 =>
        rd 432 (M.1 114) (x5 + (2 : Int32)) fun v5 =>
        if v4 ≤ v5 then
          f_X10_gets_95 M r_10 x1 x2 x3 x4 x5 x6
        else
          f_X10_gets_90 M r_10 x1 x2 x3 x4 x6 (((24 : Int32) * x4) + ((3 : Int32) * x6))
      else
        f_X10_gets_95 M r_10 x1 x2 x3 x4 x5 x6
def f_X10_gets_10 (M : Mem) (x1 : Int32) (x2 : Int32) (x3 : Int32) (x4 : Int32) : Nat → Int32 → Int32 → Option Int32
  | 0 => fun _ _ => none
  | n + 1 => f_X10_gets_10_b M (f_X10_gets_10 M x1 x2 x3 x4 n) x1 x2 x3 x4
def f_X10_gets (x1 : Int32) (x2 : Int32) (x3 : Int32) (x4 : Int32) (M : Mem) : Option Int32 :=
  f_X10_gets_10 M x1 x2 x3 x4 FU ((24 : Int32) * x4) (1 : Int32)
def f_X10_carries_203 (q1 : Nat) (n1 : Nat) (q3 : Nat) (n3 : Nat) (r_110 : Int32 → Mem → Option (Unit × Mem)) (x2 : Int32) (x4 : Int32) (x5 : Int32) (x7 : Int32) (t2 : Int32) (t1 : Int32) (M : Mem) : Option (Unit × Mem) :=
  ck n3 t1 <| stm (mset M q3 t1.toNatClampNeg t2) fun M1 =>
  r_110 (x7 + 1) M1
def f_X10_carries_201 (q1 : Nat) (n1 : Nat) (q3 : Nat) (n3 : Nat) (r_110 : Int32 → Mem → Option (Unit × Mem)) (x2 : Int32) (x4 : Int32) (x5 : Int32) (x7 : Int32) (x8 : Int32) (t1 : Int32) (M : Mem) : Option (Unit × Mem) :=
  f_X10_carries_203 q1 n1 q3 n3 r_110 x2 x4 x5 x7 x8 t1 M
def f_X10_carries_148 (q1 : Nat) (n1 : Nat) (q3 : Nat) (n3 : Nat) (r_110 : Int32 → Mem → Option (Unit × Mem)) (x2 : Int32) (x4 : Int32) (x5 : Int32) (x7 : Int32) (t0 : Int32) (M : Mem) : Option (Unit × Mem) :=
  rd 72 (M.1 113) ((4 : Int32) * x5) fun v1 =>
  if ((v1 >>> (x7 &&& 31)) &&& (1 : Int32)) = (1 : Int32) then
    if (0 : Int32) ≤ t0 then
      f_X10_carries_201 q1 n1 q3 n3 r_110 x2 x4 x5 x7 t0 ((x4 + (12 : Int32)) + x7) M
    else
      rd 72 (M.1 113) (((4 : Int32) * x5) + (2 : Int32)) fun v2 =>
      f_X10_carries_203 q1 n1 q3 n3 r_110 x2 x4 x5 x7 ((v2 >>> (x7 &&& 31)) &&& (1 : Int32)) ((x4 + (12 : Int32)) + x7) M
  else
    f_X10_carries_201 q1 n1 q3 n3 r_110 x2 x4 x5 x7 t0 ((x4 + (12 : Int32)) + x7) M
def f_X10_carries_110_b (q1 : Nat) (n1 : Nat) (q3 : Nat) (n3 : Nat) (r_110 : Int32 → Mem → Option (Unit × Mem)) (x2 : Int32) (x4 : Int32) (x5 : Int32) (x7 : Int32) (M : Mem) : Option (Unit × Mem) :=
  if (4 : Int32) ≤ x7 then
    some ((), M)
  else
    rd 72 (M.1 113) (((4 : Int32) * x5) + (1 : Int32)) fun v1 =>
    if ((v1 >>> (x7 &&& 31)) &&& (1 : Int32)) = (0 : Int32) then
      f_X10_carries_148 q1 n1 q3 n3 r_110 x2 x4 x5 x7 (-1 : Int32) M
    else
      rd n1 (M.1 q1) ((x2 + (12 : Int32)) + x7) fun v2 =>
      f_X10_carries_148 q1 n1 q3 n3 r_110 x2 x4 x5 x7 v2 M
def f_X10_carries_110 (q1 : Nat) (n1 : Nat) (q3 : Nat) (n3 : Nat) (x2 : Int32) (x4 : Int32) (x5 : Int32) : Nat → Int32 → Mem → Option (Unit × Mem)
  | 0 => fun _ _ => none
  | n + 1 => f_X10_carries_110_b q1 n1 q3 n3 (f_X10_carries_110 q1 n1 q3 n3 x2 x4 x5 n) x2 x4 x5
def f_X10_carries_100 (q1 : Nat) (n1 : Nat) (q3 : Nat) (n3 : Nat) (r_3 : Int32 → Mem → Option (Unit × Mem)) (x2 : Int32) (x4 : Int32) (x5 : Int32) (x6 : Int32) (x7 : Int32) (t2 : Int32) (t1 : Int32) (M : Mem) : Option (Unit × Mem) :=
  ck n3 t1 <| stm (mset M q3 t1.toNatClampNeg t2) fun M1 =>
  r_3 (x7 + 1) M1
def f_X10_carries_72 (q1 : Nat) (n1 : Nat) (q3 : Nat) (n3 : Nat) (r_3 : Int32 → Mem → Option (Unit × Mem)) (x2 : Int32) (x4 : Int32) (x5 : Int32) (x6 : Int32) (x7 : Int32) (x8 : Int32) (t2 : Int32) (t1 : Int32) (M : Mem) : Option (Unit × Mem) :=
  ck n3 t1 <| stm (mset M q3 t1.toNatClampNeg t2) fun M1 =>
  if (0 : Int32) ≤ x8 then
    rd 432 (M1.1 114) (x8 + (1 : Int32)) fun v1 =>
    f_X10_carries_100 q1 n1 q3 n3 r_3 x2 x4 x5 x6 x7 v1 ((x4 + (6 : Int32)) + x7) M1
  else
    f_X10_carries_100 q1 n1 q3 n3 r_3 x2 x4 x5 x6 x7 (-1 : Int32) ((x4 + (6 : Int32)) + x7) M1
def f_X10_carries_48 (q1 : Nat) (n1 : Nat) (q3 : Nat) (n3 : Nat) (r_3 : Int32 → Mem → Option (Unit × Mem)) (x2 : Int32) (x4 : Int32) (x5 : Int32) (x6 : Int32) (x7 : Int32) (t0 : Int32) (M : Mem) : Option (Unit × Mem) :=
  if (0 : Int32) ≤ t0 then
    rd 432 (M.1 114) t0 fun v1 =>
    f_X10_carries_72 q1 n1 q3 n3 r_3 x2 x4 x5 x6 x7 t0 v1 (x4 + x7) M
  else
    f_X10_carries_72 q1 n1 q3 n3 r_3 x2 x4 x5 x6 x7 t0 (0 : Int32) (x4 + x7) M
def f_X10_carries_3_b (q1 : Nat) (n1 : Nat) (q3 : Nat) (n3 : Nat) (r_3 : Int32 → Mem → Option (Unit × Mem)) (x2 : Int32) (x4 : Int32) (x5 : Int32) (x6 : Int32) (x7 : Int32) (M : Mem) : Option (Unit × Mem) :=
  if (6 : Int32) ≤ x7 then
    f_X10_carries_110 q1 n1 q3 n3 x2 x4 x5 FU (0 : Int32) M
  else
    if (M.1 110 0) ≤ x7 then
      f_X10_carries_48 q1 n1 q3 n3 r_3 x2 x4 x5 x6 x7 (-1 : Int32) M
    else
      rd n1 (M.1 q1) (x2 + x7) fun v1 =>
      rd n1 (M.1 q1) ((x2 + (6 : Int32)) + x7) fun v2 =>
      cp (f_X10_gets x6 v1 v2 x5 M) fun v3 =>
      f_X10_carries_48 q1 n1 q3 n3 r_3 x2 x4 x5 x6 x7 v3 M
def f_X10_carries_3 (q1 : Nat) (n1 : Nat) (q3 : Nat) (n3 : Nat) (x2 : Int32) (x4 : Int32) (x5 : Int32) (x6 : Int32) : Nat → Int32 → Mem → Option (Unit × Mem)
  | 0 => fun _ _ => none
  | n + 1 => f_X10_carries_3_b q1 n1 q3 n3 (f_X10_carries_3 q1 n1 q3 n3 x2 x4 x5 x6 n) x2 x4 x5 x6
def f_X10_carries (q1 : Nat) (n1 : Nat) (q3 : Nat) (n3 : Nat) (x2 : Int32) (x4 : Int32) (x5 : Int32) (x6 : Int32) (M : Mem) : Option (Unit × Mem) :=
  f_X10_carries_3 q1 n1 q3 n3 x2 x4 x5 x6 FU (0 : Int32) M
def f_X10_type_40_b (r_40 : Int32 → Mem → Option (Int32 × Mem)) (x1 : Int64) (x4 : Int32) (M : Mem) : Option (Int32 × Mem) :=
  if x4 < (0 : Int32) then
    some ((M.1 111 0), M)
  else
    ck 180 (M.1 111 0) <| stm (mset M 115 (M.1 111 0).toNatClampNeg (((x1 >>> (((8 : Int32) * x4).toInt64 &&& 63)) &&& (255 : Int64)).toInt32)) fun M1 =>
    stm (mset M1 111 0 ((M1.1 111 0) + (1 : Int32))) fun M2 =>
    r_40 (x4 + (-1)) M2
def f_X10_type_40 (x1 : Int64) : Nat → Int32 → Mem → Option (Int32 × Mem)
  | 0 => fun _ _ => none
  | n + 1 => f_X10_type_40_b (f_X10_type_40 x1 n) x1
def f_X10_type (x1 : Int64) (x3 : Int32) (M : Mem) : Option (Int32 × Mem) :=
  cp (f_X10_between x3 (1 : Int32) (8 : Int32) M) fun v1 =>
  if v1 = (0 : Int32) then
    cl (f_X10_bad (-2 : Int32) M) fun v3 M2 =>
    some (v3, M2)
  else
    if ((M.1 111 0) + x3) ≤ (60 : Int32) then
      f_X10_type_40 x1 FU (x3 - (1 : Int32)) M
    else
      cl (f_X10_full M) fun v2 M1 =>
      some (v2, M1)
def f_X10_clear (M : Mem) : Option (Int32 × Mem) :=
  stm (mset M 111 0 (0 : Int32)) fun M1 =>
  some ((M.1 111 0), M1)
def f_X10_next_40 (M : Mem) : Option (Int32 × Mem) :=
  if (M.1 111 0) ≤ (M.1 108 16) then
    some ((-1 : Int32), M)
  else
    rd 180 (M.1 115) (M.1 108 16) fun v1 =>
    some (v1, M)
def f_X10_next_0_b (r_0 : Mem → Option (Int32 × Mem)) (M : Mem) : Option (Int32 × Mem) :=
  if (M.1 111 0) ≤ (M.1 108 16) then
    f_X10_next_40 M
  else
    rd 180 (M.1 115) (M.1 108 16) fun v1 =>
    if v1 = (32 : Int32) then
      stm (mset M 108 16 ((M.1 108 16) + (1 : Int32))) fun M1 =>
      r_0  M1
    else
      f_X10_next_40 M
def f_X10_next_0 : Nat → Mem → Option (Int32 × Mem)
  | 0 => fun _ => none
  | n + 1 => f_X10_next_0_b (f_X10_next_0 n)
def f_X10_next (M : Mem) : Option (Int32 × Mem) :=
  f_X10_next_0 FU M
def f_X10_puts (x1 : Int32) (x2 : Int32) (M : Mem) : Option (Unit × Mem) :=
  if (200 : Int32) < (M.1 108 14) then
    some ((), M)
  else
    ck 402 ((2 : Int32) * (M.1 108 14)) <| stm (mset M 121 ((2 : Int32) * (M.1 108 14)).toNatClampNeg x1) fun M1 =>
    ck 402 (((2 : Int32) * (M1.1 108 14)) + (1 : Int32)) <| stm (mset M1 121 (((2 : Int32) * (M1.1 108 14)) + (1 : Int32)).toNatClampNeg x2) fun M2 =>
    stm (mset M2 108 14 ((M2.1 108 14) + (1 : Int32))) fun M3 =>
    some ((), M3)
def f_X10_again_10_b (r_10 : Int32 → Mem → Option (Unit × Mem)) (x1 : Int32) (x2 : Int32) (x3 : Int32) (x4 : Int32) (M : Mem) : Option (Unit × Mem) :=
  if (x3 * (x2 - (1 : Int32))) ≤ x4 then
    some ((), M)
  else
    if (200 : Int32) < (M.1 108 14) then
      some ((), M)
    else
      rd 402 (M.1 121) ((2 : Int32) * (x1 + x4)) fun v1 =>
      rd 402 (M.1 121) (((2 : Int32) * (x1 + x4)) + (1 : Int32)) fun v2 =>
      cl (f_X10_puts v1 v2 M) fun _ M1 =>
      r_10 (x4 + 1) M1
def f_X10_again_10 (x1 : Int32) (x2 : Int32) (x3 : Int32) : Nat → Int32 → Mem → Option (Unit × Mem)
  | 0 => fun _ _ => none
  | n + 1 => f_X10_again_10_b (f_X10_again_10 x1 x2 x3 n) x1 x2 x3
def f_X10_again (x1 : Int32) (x2 : Int32) (M : Mem) : Option (Unit × Mem) :=
  f_X10_again_10 x1 x2 ((M.1 108 14) - x1) FU (0 : Int32) M
def f_X10_reads_240 (M : Mem) : Option (Int32 × Mem) :=
  some ((M.1 111 0), M)
def f_X10_reads_224 (r_19 : Int32 → Int32 → Int32 → Mem → Option (Int32 × Mem)) (x1 : Int32) (x2 : Int32) (M : Mem) : Option (Int32 × Mem) :=
  cl (f_X10_next M) fun v1 M1 =>
  r_19 x1 x2 v1 M1
def f_X10_reads_153 (r_19 : Int32 → Int32 → Int32 → Mem → Option (Int32 × Mem)) (x1 : Int32) (x2 : Int32) (x3 : Int32) (x4 : Int32) (M : Mem) : Option (Int32 × Mem) :=
  if x3 = (41 : Int32) then
    if x1 ≤ (0 : Int32) then
      some (x4, M)
    else
      if x2 = (0 : Int32) then
        some (x4, M)
      else
        cl (f_X10_next M) fun v1 M1 =>
        cp (f_X10_between v1 (49 : Int32) (57 : Int32) M1) fun v2 =>
        if v2 = (0 : Int32) then
          some ((M1.1 108 16), M1)
        else
          stm (mset M1 108 16 ((M1.1 108 16) + (1 : Int32))) fun M2 =>
          rd 5 (M2.1 122) (x1 + (-1)) fun v3 =>
          cl (f_X10_again v3 (v1 - (48 : Int32)) M2) fun _ M3 =>
          f_X10_reads_224 r_19 (x1 + (-1)) x2 M3
  else
    some (x4, M)
def f_X10_reads_124 (r_19 : Int32 → Int32 → Int32 → Mem → Option (Int32 × Mem)) (x1 : Int32) (x2 : Int32) (x3 : Int32) (x4 : Int32) (M : Mem) : Option (Int32 × Mem) :=
  if x3 = (40 : Int32) then
    if (4 : Int32) ≤ x1 then
      f_X10_reads_153 r_19 x1 x2 x3 x4 M
    else
      ck 5 x1 <| stm (mset M 122 x1.toNatClampNeg (M.1 108 14)) fun M1 =>
      f_X10_reads_224 r_19 (x1 + 1) (0 : Int32) M1
  else
    f_X10_reads_153 r_19 x1 x2 x3 x4 M
def f_X10_reads_116 (r_19 : Int32 → Int32 → Int32 → Mem → Option (Int32 × Mem)) (x1 : Int32) (t2 : Int32) (t1 : Int32) (M : Mem) : Option (Int32 × Mem) :=
  cl (f_X10_puts t1 t2 M) fun _ M1 =>
  f_X10_reads_224 r_19 x1 (1 : Int32) M1
def f_X10_reads_93 (r_19 : Int32 → Int32 → Int32 → Mem → Option (Int32 × Mem)) (x1 : Int32) (x3 : Int32) (x5 : Int32) (x6 : Int32) (t2 : Int32) (t1 : Int32) (M : Mem) : Option (Int32 × Mem) :=
  stm (mset M 108 16 (t1 + t2)) fun M1 =>
  if x6 = (0 : Int32) then
    f_X10_reads_116 r_19 x1 (0 : Int32) (x3 - (97 : Int32)) M1
  else
    f_X10_reads_116 r_19 x1 (x5 - (48 : Int32)) (x3 - (97 : Int32)) M1
def f_X10_reads_19_b (r_19 : Int32 → Int32 → Int32 → Mem → Option (Int32 × Mem)) (x1 : Int32) (x2 : Int32) (x3 : Int32) (M : Mem) : Option (Int32 × Mem) :=
  if x3 < (0 : Int32) then
    if (0 : Int32) < x1 then
      f_X10_reads_240 M
    else
      if x2 = (0 : Int32) then
        f_X10_reads_240 M
      else
        some ((-1 : Int32), M)
  else
    stm (mset M 108 16 ((M.1 108 16) + (1 : Int32))) fun M1 =>
    cp (f_X10_between x3 (97 : Int32) (102 : Int32) M1) fun v1 =>
    if v1 = (0 : Int32) then
      f_X10_reads_124 r_19 x1 x2 x3 (M.1 108 16) M1
    else
      cp (f_X10_speaks (x3 - (97 : Int32)) M1) fun v2 =>
      if v2 = (0 : Int32) then
        f_X10_reads_124 r_19 x1 x2 x3 (M.1 108 16) M1
      else
        cl (f_X10_next M1) fun v3 M2 =>
        cp (f_X10_between v3 (48 : Int32) (53 : Int32) M2) fun v4 =>
        if v4 = (0 : Int32) then
          f_X10_reads_93 r_19 x1 x3 v3 v4 (0 : Int32) (M2.1 108 16) M2
        else
          f_X10_reads_93 r_19 x1 x3 v3 v4 (1 : Int32) (M2.1 108 16) M2
def f_X10_reads_19 : Nat → Int32 → Int32 → Int32 → Mem → Option (Int32 × Mem)
  | 0 => fun _ _ _ _ => none
  | n + 1 => f_X10_reads_19_b (f_X10_reads_19 n)
def f_X10_reads (M : Mem) : Option (Int32 × Mem) :=
  stm (mset M 108 16 (0 : Int32)) fun M1 =>
  stm (mset M1 108 14 (0 : Int32)) fun M2 =>
  cl (f_X10_next M2) fun v1 M3 =>
  f_X10_reads_19 FU (0 : Int32) (0 : Int32) v1 M3
def f_X10_fault (M : Mem) : Option (Int32 × Mem) :=
  cl (f_X10_reads M) fun v1 M1 =>
  some (v1, M1)
def f_X10_isPath (M : Mem) : Option (Int32 × Mem) :=
  cl (f_X10_reads M) fun v1 M1 =>
  if v1 = (-1 : Int32) then
    if (200 : Int32) < (M1.1 108 14) then
      some ((0 : Int32), M1)
    else
      some ((1 : Int32), M1)
  else
    some ((0 : Int32), M1)
def f_X10_length (M : Mem) : Option (Int32 × Mem) :=
  cl (f_X10_isPath M) fun v1 M1 =>
  if v1 = (0 : Int32) then
    cl (f_X10_no (-3 : Int32) M1) fun v2 M2 =>
    some (v2, M2)
  else
    some ((M1.1 108 14), M1)
def f_X10_goes_46_b (r_46 : Int32 → Mem → Option (Int32 × Mem)) (x1 : Int32) (M : Mem) : Option (Int32 × Mem) :=
  if (M.1 108 14) ≤ x1 then
    some ((1 : Int32), M)
  else
    rd 402 (M.1 121) ((2 : Int32) * x1) fun v1 =>
    rd 402 (M.1 121) (((2 : Int32) * x1) + (1 : Int32)) fun v2 =>
    cl (f_X10_carries 123 3216 123 3216 ((16 : Int32) * x1) (((16 : Int32) * x1) + (16 : Int32)) v1 v2 M) fun _ M1 =>
    r_46 (x1 + 1) M1
def f_X10_goes_46 : Nat → Int32 → Mem → Option (Int32 × Mem)
  | 0 => fun _ _ => none
  | n + 1 => f_X10_goes_46_b (f_X10_goes_46 n)
def f_X10_goes_20_b (r_20 : Int32 → Mem → Option (Int32 × Mem)) (x1 : Int32) (M : Mem) : Option (Int32 × Mem) :=
  if (16 : Int32) ≤ x1 then
    f_X10_goes_46 FU (0 : Int32) M
  else
    rd 48 (M.1 117) x1 fun v1 =>
    ck 3216 x1 <| stm (mset M 123 x1.toNatClampNeg v1) fun M1 =>
    r_20 (x1 + 1) M1
def f_X10_goes_20 : Nat → Int32 → Mem → Option (Int32 × Mem)
  | 0 => fun _ _ => none
  | n + 1 => f_X10_goes_20_b (f_X10_goes_20 n)
def f_X10_goes (M : Mem) : Option (Int32 × Mem) :=
  cl (f_X10_isPath M) fun v1 M1 =>
  if v1 = (0 : Int32) then
    some ((0 : Int32), M1)
  else
    if (M1.1 110 0) = (0 : Int32) then
      some ((0 : Int32), M1)
    else
      f_X10_goes_20 FU (0 : Int32) M1
def f_X10_parts_56 (M : Mem) : Option (Int32 × Mem) :=
  cl (f_X10_bad (-2 : Int32) M) fun v1 M1 =>
  some (v1, M1)
def f_X10_parts (x1 : Int32) (x2 : Int32) (M : Mem) : Option (Int32 × Mem) :=
  cl (f_X10_goes M) fun v1 M1 =>
  if v1 = (0 : Int32) then
    cl (f_X10_no (-3 : Int32) M1) fun v5 M2 =>
    some (v5, M2)
  else
    cp (f_X10_between x1 (0 : Int32) (M1.1 108 14) M1) fun v2 =>
    if v2 = (0 : Int32) then
      f_X10_parts_56 M1
    else
      cp (f_X10_between x2 (0 : Int32) ((M1.1 110 0) - (1 : Int32)) M1) fun v3 =>
      if v3 = (0 : Int32) then
        f_X10_parts_56 M1
      else
        rd 3216 (M1.1 123) (((16 : Int32) * x1) + x2) fun v4 =>
        some (v4, M1)
def f_X10_formOf_52 (M : Mem) : Option (Int32 × Mem) :=
  cl (f_X10_bad (-10 : Int32) M) fun v1 M1 =>
  some (v1, M1)
def f_X10_formOf (x1 : Int32) (x2 : Int32) (M : Mem) : Option (Int32 × Mem) :=
  cl (f_X10_goes M) fun v1 M1 =>
  if v1 = (0 : Int32) then
    cl (f_X10_no (-3 : Int32) M1) fun v5 M2 =>
    some (v5, M2)
  else
    cp (f_X10_between x1 (0 : Int32) (M1.1 108 14) M1) fun v2 =>
    if v2 = (0 : Int32) then
      f_X10_formOf_52 M1
    else
      cp (f_X10_between x2 (0 : Int32) (3 : Int32) M1) fun v3 =>
      if v3 = (0 : Int32) then
        f_X10_formOf_52 M1
      else
        rd 3216 (M1.1 123) ((((16 : Int32) * x1) + (12 : Int32)) + x2) fun v4 =>
        some (v4, M1)
def f_X10_step_35 (M : Mem) : Option (Int32 × Mem) :=
  cl (f_X10_bad (-2 : Int32) M) fun v1 M1 =>
  some (v1, M1)
def f_X10_step_238 (r_150 : Int32 → Int32 → Mem → Option (Int32 × Mem)) (x2 : Int32) (x3 : Int32) (x4 : Int32) (x6 : Int32) (t1 : Int32) (t0 : Int32) (M : Mem) : Option (Int32 × Mem) :=
  r_150 (t0 + t1) (x6 + 1) M
def f_X10_step_237 (r_150 : Int32 → Int32 → Mem → Option (Int32 × Mem)) (x2 : Int32) (x3 : Int32) (x4 : Int32) (x6 : Int32) (t0 : Int32) (M : Mem) : Option (Int32 × Mem) :=
  f_X10_step_238 r_150 x2 x3 x4 x6 (0 : Int32) t0 M
def f_X10_step_233 (r_150 : Int32 → Int32 → Mem → Option (Int32 × Mem)) (x2 : Int32) (x3 : Int32) (x4 : Int32) (x6 : Int32) (t0 : Int32) (M : Mem) : Option (Int32 × Mem) :=
  f_X10_step_238 r_150 x2 x3 x4 x6 (1 : Int32) t0 M
def f_X10_step_218 (r_150 : Int32 → Int32 → Mem → Option (Int32 × Mem)) (x2 : Int32) (x3 : Int32) (x4 : Int32) (x6 : Int32) (x7 : Int32) (x8 : Int32) (t0 : Int32) (M : Mem) : Option (Int32 × Mem) :=
  if x2 = (3 : Int32) then
    if x7 = (0 : Int32) then
      f_X10_step_237 r_150 x2 x3 x4 x6 t0 M
    else
      if x8 = (0 : Int32) then
        f_X10_step_233 r_150 x2 x3 x4 x6 t0 M
      else
        f_X10_step_237 r_150 x2 x3 x4 x6 t0 M
  else
    f_X10_step_237 r_150 x2 x3 x4 x6 t0 M
def f_X10_step_199 (r_150 : Int32 → Int32 → Mem → Option (Int32 × Mem)) (x2 : Int32) (x3 : Int32) (x4 : Int32) (x5 : Int32) (x6 : Int32) (x7 : Int32) (t0 : Int32) (M : Mem) : Option (Int32 × Mem) :=
  if x2 = (2 : Int32) then
    if x7 = (0 : Int32) then
      if t0 = (0 : Int32) then
        f_X10_step_218 r_150 x2 x3 x4 x6 x7 t0 x5 M
      else
        f_X10_step_233 r_150 x2 x3 x4 x6 x5 M
    else
      f_X10_step_218 r_150 x2 x3 x4 x6 x7 t0 x5 M
  else
    f_X10_step_218 r_150 x2 x3 x4 x6 x7 t0 x5 M
def f_X10_step_179 (r_150 : Int32 → Int32 → Mem → Option (Int32 × Mem)) (x2 : Int32) (x3 : Int32) (x4 : Int32) (x5 : Int32) (x6 : Int32) (t0 : Int32) (M : Mem) : Option (Int32 × Mem) :=
  rd 3216 (M.1 123) (x4 + x6) fun v1 =>
  if v1 < (0 : Int32) then
    f_X10_step_199 r_150 x2 x3 x4 x5 x6 t0 (0 : Int32) M
  else
    f_X10_step_199 r_150 x2 x3 x4 x5 x6 t0 (1 : Int32) M
def f_X10_step_150_b (r_150 : Int32 → Int32 → Mem → Option (Int32 × Mem)) (x2 : Int32) (x3 : Int32) (x4 : Int32) (x5 : Int32) (x6 : Int32) (M : Mem) : Option (Int32 × Mem) :=
  if (16 : Int32) ≤ x6 then
    some (x5, M)
  else
    if x2 ≤ (1 : Int32) then
      some (x5, M)
    else
      rd 3216 (M.1 123) (x3 + x6) fun v1 =>
      if v1 < (0 : Int32) then
        f_X10_step_179 r_150 x2 x3 x4 x5 x6 (0 : Int32) M
      else
        f_X10_step_179 r_150 x2 x3 x4 x5 x6 (1 : Int32) M
def f_X10_step_150 (x2 : Int32) (x3 : Int32) (x4 : Int32) : Nat → Int32 → Int32 → Mem → Option (Int32 × Mem)
  | 0 => fun _ _ _ => none
  | n + 1 => f_X10_step_150_b (f_X10_step_150 x2 x3 x4 n) x2 x3 x4
def f_X10_step_146 (x2 : Int32) (x3 : Int32) (x4 : Int32) (x5 : Int32) (M : Mem) : Option (Int32 × Mem) :=
  f_X10_step_150 x2 x3 x4 FU x5 (12 : Int32) M
def f_X10_step_137 (r_62 : Int32 → Int32 → Mem → Option (Int32 × Mem)) (x2 : Int32) (x3 : Int32) (x4 : Int32) (x6 : Int32) (t1 : Int32) (t0 : Int32) (M : Mem) : Option (Int32 × Mem) :=
  r_62 (t0 + t1) (x6 + 1) M
def f_X10_step_62_b (r_62 : Int32 → Int32 → Mem → Option (Int32 × Mem)) (x2 : Int32) (x3 : Int32) (x4 : Int32) (x5 : Int32) (x6 : Int32) (M : Mem) : Option (Int32 × Mem) :=
  if (M.1 110 0) ≤ x6 then
    f_X10_step_146 x2 x3 x4 x5 M
  else
    if (2 : Int32) ≤ x2 then
      f_X10_step_146 x2 x3 x4 x5 M
    else
      if x2 = (0 : Int32) then
        rd 3216 (M.1 123) (x3 + x6) fun v4 =>
        rd 3216 (M.1 123) (x4 + x6) fun v5 =>
        cp (f_X10_bits (v4 &&& (v5 ^^^ (-1 : Int32))) M) fun v6 =>
        f_X10_step_137 r_62 x2 x3 x4 x6 v6 x5 M
      else
        rd 3216 (M.1 123) (x4 + x6) fun v1 =>
        rd 3216 (M.1 123) (x3 + x6) fun v2 =>
        cp (f_X10_bits (v1 &&& (v2 ^^^ (-1 : Int32))) M) fun v3 =>
        f_X10_step_137 r_62 x2 x3 x4 x6 v3 x5 M
def f_X10_step_62 (x2 : Int32) (x3 : Int32) (x4 : Int32) : Nat → Int32 → Int32 → Mem → Option (Int32 × Mem)
  | 0 => fun _ _ _ => none
  | n + 1 => f_X10_step_62_b (f_X10_step_62 x2 x3 x4 n) x2 x3 x4
def f_X10_step (x1 : Int32) (x2 : Int32) (M : Mem) : Option (Int32 × Mem) :=
  cl (f_X10_goes M) fun v1 M1 =>
  if v1 = (0 : Int32) then
    cl (f_X10_no (-3 : Int32) M1) fun v4 M2 =>
    some (v4, M2)
  else
    cp (f_X10_between x1 (1 : Int32) (M1.1 108 14) M1) fun v2 =>
    if v2 = (0 : Int32) then
      f_X10_step_35 M1
    else
      cp (f_X10_between x2 (0 : Int32) (3 : Int32) M1) fun v3 =>
      if v3 = (0 : Int32) then
        f_X10_step_35 M1
      else
        f_X10_step_62 x2 (((16 : Int32) * x1) - (16 : Int32)) ((16 : Int32) * x1) FU (0 : Int32) (0 : Int32) M1
def f_X10_apart_79 (q1 : Nat) (n1 : Nat) (q3 : Nat) (n3 : Nat) (M : Mem) (r_49 : Int32 → Int32 → Option Int32) (x2 : Int32) (x4 : Int32) (x6 : Int32) (t1 : Int32) (t0 : Int32) : Option Int32 :=
  r_49 (t0 + t1) (x6 + 1)
def f_X10_apart_49_b (q1 : Nat) (n1 : Nat) (q3 : Nat) (n3 : Nat) (M : Mem) (r_49 : Int32 → Int32 → Option Int32) (x2 : Int32) (x4 : Int32) (x5 : Int32) (x6 : Int32) : Option Int32 :=
  if (16 : Int32) ≤ x6 then
    some x5
  else
    rd n1 (M.1 q1) (x2 + x6) fun v1 =>
    rd n3 (M.1 q3) (x4 + x6) fun v2 =>
    if v1 = v2 then
      f_X10_apart_79 q1 n1 q3 n3 M r_49 x2 x4 x6 (0 : Int32) x5
    else
      f_X10_apart_79 q1 n1 q3 n3 M r_49 x2 x4 x6 (1 : Int32) x5
def f_X10_apart_49 (q1 : Nat) (n1 : Nat) (q3 : Nat) (n3 : Nat) (M : Mem) (x2 : Int32) (x4 : Int32) : Nat → Int32 → Int32 → Option Int32
  | 0 => fun _ _ => none
  | n + 1 => f_X10_apart_49_b q1 n1 q3 n3 M (f_X10_apart_49 q1 n1 q3 n3 M x2 x4 n) x2 x4
def f_X10_apart_6_b (q1 : Nat) (n1 : Nat) (q3 : Nat) (n3 : Nat) (M : Mem) (r_6 : Int32 → Int32 → Option Int32) (x2 : Int32) (x4 : Int32) (x5 : Int32) (x6 : Int32) : Option Int32 :=
  if (M.1 110 0) ≤ x6 then
    f_X10_apart_49 q1 n1 q3 n3 M x2 x4 FU x5 (12 : Int32)
  else
    rd n1 (M.1 q1) (x2 + x6) fun v1 =>
    rd n3 (M.1 q3) (x4 + x6) fun v2 =>
    cp (f_X10_bits (v1 ^^^ v2) M) fun v3 =>
    r_6 (x5 + v3) (x6 + 1)
def f_X10_apart_6 (q1 : Nat) (n1 : Nat) (q3 : Nat) (n3 : Nat) (M : Mem) (x2 : Int32) (x4 : Int32) : Nat → Int32 → Int32 → Option Int32
  | 0 => fun _ _ => none
  | n + 1 => f_X10_apart_6_b q1 n1 q3 n3 M (f_X10_apart_6 q1 n1 q3 n3 M x2 x4 n) x2 x4
def f_X10_apart (q1 : Nat) (n1 : Nat) (q3 : Nat) (n3 : Nat) (x2 : Int32) (x4 : Int32) (M : Mem) : Option Int32 :=
  f_X10_apart_6 q1 n1 q3 n3 M x2 x4 FU (0 : Int32) (0 : Int32)
def f_X10_unlike_61 (M : Mem) : Option (Int32 × Mem) :=
  cl (f_X10_bad (-2 : Int32) M) fun v1 M1 =>
  some (v1, M1)
def f_X10_unlike (x1 : Int32) (x2 : Int32) (M : Mem) : Option (Int32 × Mem) :=
  cl (f_X10_goes M) fun v1 M1 =>
  if v1 = (0 : Int32) then
    cl (f_X10_no (-3 : Int32) M1) fun v5 M2 =>
    some (v5, M2)
  else
    cp (f_X10_between x1 (0 : Int32) (M1.1 108 14) M1) fun v2 =>
    if v2 = (0 : Int32) then
      f_X10_unlike_61 M1
    else
      cp (f_X10_between x2 (0 : Int32) (M1.1 108 14) M1) fun v3 =>
      if v3 = (0 : Int32) then
        f_X10_unlike_61 M1
      else
        cp (f_X10_apart 123 3216 123 3216 ((16 : Int32) * x1) ((16 : Int32) * x2) M1) fun v4 =>
        some (v4, M1)
def f_X10_gone_40 (M : Mem) : Option (Int32 × Mem) :=
  cl (f_X10_bad (-2 : Int32) M) fun v1 M1 =>
  some (v1, M1)
def f_X10_gone_87 (r_52 : Int32 → Int32 → Mem → Option (Int32 × Mem)) (x1 : Int32) (x2 : Int32) (x4 : Int32) (t0 : Int32) (M : Mem) : Option (Int32 × Mem) :=
  r_52 t0 (x4 + 1) M
def f_X10_gone_52_b (r_52 : Int32 → Int32 → Mem → Option (Int32 × Mem)) (x1 : Int32) (x2 : Int32) (x3 : Int32) (x4 : Int32) (M : Mem) : Option (Int32 × Mem) :=
  if (M.1 108 14) < x4 then
    if (0 : Int32) ≤ x3 then
      if x3 = (M.1 108 14) then
        some ((-1 : Int32), M)
      else
        some ((x3 + (1 : Int32)), M)
    else
      some ((0 : Int32), M)
  else
    rd 3216 (M.1 123) (((16 : Int32) * x4) + x1) fun v1 =>
    if ((v1 >>> (x2 &&& 31)) &&& (1 : Int32)) = (1 : Int32) then
      f_X10_gone_87 r_52 x1 x2 x4 x4 M
    else
      f_X10_gone_87 r_52 x1 x2 x4 x3 M
def f_X10_gone_52 (x1 : Int32) (x2 : Int32) : Nat → Int32 → Int32 → Mem → Option (Int32 × Mem)
  | 0 => fun _ _ _ => none
  | n + 1 => f_X10_gone_52_b (f_X10_gone_52 x1 x2 n) x1 x2
def f_X10_gone (x1 : Int32) (x2 : Int32) (M : Mem) : Option (Int32 × Mem) :=
  cl (f_X10_goes M) fun v1 M1 =>
  if v1 = (0 : Int32) then
    cl (f_X10_no (-3 : Int32) M1) fun v4 M2 =>
    some (v4, M2)
  else
    cp (f_X10_between x1 (0 : Int32) ((M1.1 110 0) - (1 : Int32)) M1) fun v2 =>
    if v2 = (0 : Int32) then
      f_X10_gone_40 M1
    else
      cp (f_X10_between x2 (0 : Int32) (7 : Int32) M1) fun v3 =>
      if v3 = (0 : Int32) then
        f_X10_gone_40 M1
      else
        f_X10_gone_52 x1 x2 FU (-1 : Int32) (0 : Int32) M1
def f_X10_isKind (x0 : Int32) (M : Mem) : Option Int32 :=
  cp (f_X10_between x0 (0 : Int32) (5 : Int32) M) fun v1 =>
  rz v1 (some v1)
def f_X10_codes_4_b (M : Mem) (r_4 : Int32 → Int32 → Option Int32) (x1 : Int32) (x2 : Int32) (x3 : Int32) : Option Int32 :=
  if x1 ≤ x3 then
    some x2
  else
    r_4 (x2 * (M.1 109 0)) (x3 + 1)
def f_X10_codes_4 (M : Mem) (x1 : Int32) : Nat → Int32 → Int32 → Option Int32
  | 0 => fun _ _ => none
  | n + 1 => f_X10_codes_4_b M (f_X10_codes_4 M x1 n) x1
def f_X10_codes (x1 : Int32) (M : Mem) : Option Int32 :=
  f_X10_codes_4 M x1 FU (1 : Int32) (0 : Int32)
def f_X10_tries_108_b (r_108 : Int32 → Mem → Option (Int32 × Mem)) (x1 : Int32) (x2 : Int32) (x5 : Int32) (x6 : Int32) (M : Mem) : Option (Int32 × Mem) :=
  if x2 ≤ x6 then
    rz x5 (some (x5, M))
  else
    if x5 = (0 : Int32) then
      rz x5 (some (x5, M))
    else
      rd 4 (M.1 126) x6 fun v1 =>
      cl (f_X10_carries 125 16 125 16 (0 : Int32) (0 : Int32) v1 x1 M) fun _ M1 =>
      r_108 (x6 + 1) M1
def f_X10_tries_108 (x1 : Int32) (x2 : Int32) (x5 : Int32) : Nat → Int32 → Mem → Option (Int32 × Mem)
  | 0 => fun _ _ => none
  | n + 1 => f_X10_tries_108_b (f_X10_tries_108 x1 x2 x5 n) x1 x2 x5
def f_X10_tries_78_b (r_78 : Int32 → Mem → Option (Int32 × Mem)) (x1 : Int32) (x2 : Int32) (x5 : Int32) (x6 : Int32) (M : Mem) : Option (Int32 × Mem) :=
  if (16 : Int32) ≤ x6 then
    f_X10_tries_108 x1 x2 x5 FU (0 : Int32) M
  else
    rd 48 (M.1 117) x6 fun v1 =>
    ck 16 x6 <| stm (mset M 125 x6.toNatClampNeg v1) fun M1 =>
    r_78 (x6 + 1) M1
def f_X10_tries_78 (x1 : Int32) (x2 : Int32) (x5 : Int32) : Nat → Int32 → Mem → Option (Int32 × Mem)
  | 0 => fun _ _ => none
  | n + 1 => f_X10_tries_78_b (f_X10_tries_78 x1 x2 x5 n) x1 x2 x5
def f_X10_tries_67 (r_11 : Int32 → Int32 → Int32 → Mem → Option (Int32 × Mem)) (x1 : Int32) (x2 : Int32) (x4 : Int32) (x6 : Int32) (t0 : Int32) (M : Mem) : Option (Int32 × Mem) :=
  r_11 x4 t0 (x6 + (-1)) M
def f_X10_tries_66 (r_11 : Int32 → Int32 → Int32 → Mem → Option (Int32 × Mem)) (x1 : Int32) (x2 : Int32) (x4 : Int32) (x6 : Int32) (M : Mem) : Option (Int32 × Mem) :=
  f_X10_tries_67 r_11 x1 x2 x4 x6 (0 : Int32) M
def f_X10_tries_11_b (r_11 : Int32 → Int32 → Int32 → Mem → Option (Int32 × Mem)) (x1 : Int32) (x2 : Int32) (x4 : Int32) (x5 : Int32) (x6 : Int32) (M : Mem) : Option (Int32 × Mem) :=
  if x6 < (0 : Int32) then
    f_X10_tries_78 x1 x2 x5 FU (0 : Int32) M
  else
    dz (M.1 109 0) <| ck 4 x6 <| stm (mset M 126 x6.toNatClampNeg (x4 % (M.1 109 0))) fun M1 =>
    dz (M1.1 109 0) <| if x5 = (0 : Int32) then
      f_X10_tries_66 r_11 x1 x2 (x4 / (M1.1 109 0)) x6 M1
    else
      rd 4 (M1.1 126) x6 fun v1 =>
      cp (f_X10_speaks v1 M1) fun v2 =>
      if v2 = (0 : Int32) then
        f_X10_tries_66 r_11 x1 x2 (x4 / (M1.1 109 0)) x6 M1
      else
        f_X10_tries_67 r_11 x1 x2 (x4 / (M1.1 109 0)) x6 (1 : Int32) M1
def f_X10_tries_11 (x1 : Int32) (x2 : Int32) : Nat → Int32 → Int32 → Int32 → Mem → Option (Int32 × Mem)
  | 0 => fun _ _ _ _ => none
  | n + 1 => f_X10_tries_11_b (f_X10_tries_11 x1 x2 n) x1 x2
def f_X10_tries (x1 : Int32) (x2 : Int32) (x3 : Int32) (M : Mem) : Option (Int32 × Mem) :=
  f_X10_tries_11 x1 x2 FU x3 (1 : Int32) (x2 - (1 : Int32)) M
def f_X10_bestOver_102 (r_13 : Int32 → Int32 → Mem → Option (Int32 × Mem)) (x1 : Int32) (x2 : Int32) (x3 : Int32) (x4 : Int32) (x5 : Int32) (M : Mem) : Option (Int32 × Mem) :=
  r_13 x4 (x5 + 1) M
def f_X10_bestOver_100 (r_13 : Int32 → Int32 → Mem → Option (Int32 × Mem)) (x1 : Int32) (x2 : Int32) (x3 : Int32) (x5 : Int32) (t0 : Int32) (M : Mem) : Option (Int32 × Mem) :=
  f_X10_bestOver_102 r_13 x1 x2 x3 t0 x5 M
def f_X10_bestOver_83 (r_13 : Int32 → Int32 → Mem → Option (Int32 × Mem)) (x1 : Int32) (x2 : Int32) (x3 : Int32) (x4 : Int32) (x5 : Int32) (x6 : Int32) (t1 : Int32) (M : Mem) : Option (Int32 × Mem) :=
  stm (mset M 108 27 t1) fun M1 =>
  if x4 ≤ x6 then
    f_X10_bestOver_100 r_13 x1 x2 x3 x5 x4 M1
  else
    f_X10_bestOver_100 r_13 x1 x2 x3 x5 x6 M1
def f_X10_bestOver_13_b (r_13 : Int32 → Int32 → Mem → Option (Int32 × Mem)) (x1 : Int32) (x2 : Int32) (x3 : Int32) (x4 : Int32) (x5 : Int32) (M : Mem) : Option (Int32 × Mem) :=
  cp (f_X10_codes x3 M) fun v1 =>
  if v1 ≤ x5 then
    some (x4, M)
  else
    cl (f_X10_tries x1 x3 x5 M) fun v2 M1 =>
    if v2 = (0 : Int32) then
      f_X10_bestOver_102 r_13 x1 x2 x3 x4 x5 M1
    else
      cl (f_X10_carries 125 16 125 16 (0 : Int32) (0 : Int32) x2 x1 M1) fun _ M2 =>
      cp (f_X10_apart 125 16 117 48 (0 : Int32) (0 : Int32) M2) fun v3 =>
      if x4 ≤ v3 then
        f_X10_bestOver_83 r_13 x1 x2 x3 x4 x5 v3 (M2.1 108 27) M2
      else
        f_X10_bestOver_83 r_13 x1 x2 x3 x4 x5 v3 x5 M2
def f_X10_bestOver_13 (x1 : Int32) (x2 : Int32) (x3 : Int32) : Nat → Int32 → Int32 → Mem → Option (Int32 × Mem)
  | 0 => fun _ _ _ => none
  | n + 1 => f_X10_bestOver_13_b (f_X10_bestOver_13 x1 x2 x3 n) x1 x2 x3
def f_X10_bestOver (x1 : Int32) (x2 : Int32) (x3 : Int32) (M : Mem) : Option (Int32 × Mem) :=
  stm (mset M 108 27 (0 : Int32)) fun M1 =>
  f_X10_bestOver_13 x1 x2 x3 FU (1000 : Int32) (0 : Int32) M1
def f_X10_best_36 (M : Mem) : Option (Int32 × Mem) :=
  cl (f_X10_bad (-2 : Int32) M) fun v1 M1 =>
  some (v1, M1)
def f_X10_best_60 (M : Mem) : Option (Int32 × Mem) :=
  cl (f_X10_no (-3 : Int32) M) fun v1 M1 =>
  some (v1, M1)
def f_X10_best (x1 : Int32) (x2 : Int32) (x3 : Int32) (x4 : Int32) (M : Mem) : Option (Int32 × Mem) :=
  cp (f_X10_isKind x1 M) fun v1 =>
  if v1 = (0 : Int32) then
    f_X10_best_36 M
  else
    cp (f_X10_isTongue x2 M) fun v2 =>
    if v2 = (0 : Int32) then
      f_X10_best_36 M
    else
      cp (f_X10_between x3 (0 : Int32) (3 : Int32) M) fun v3 =>
      if v3 = (0 : Int32) then
        f_X10_best_36 M
      else
        cp (f_X10_between x4 (-1 : Int32) (x3 - (1 : Int32)) M) fun v4 =>
        if v4 = (0 : Int32) then
          f_X10_best_36 M
        else
          if (M.1 110 0) = (0 : Int32) then
            f_X10_best_60 M
          else
            cp (f_X10_speaks x2 M) fun v5 =>
            if v5 = (0 : Int32) then
              f_X10_best_60 M
            else
              cl (f_X10_bestOver x1 x2 x3 M) fun v6 M1 =>
              if (0 : Int32) ≤ x4 then
                cl (f_X10_tries x1 x3 (M1.1 108 27) M1) fun v7 M2 =>
                if v7 = (0 : Int32) then
                  some ((-2 : Int32), M2)
                else
                  rd 4 (M2.1 126) x4 fun v8 =>
                  some (v8, M2)
              else
                some (v6, M1)
def f_X10_third_15 (M : Mem) : Option (Int32 × Mem) :=
  cl (f_X10_bad (-2 : Int32) M) fun v1 M1 =>
  some (v1, M1)
def f_X10_third_39 (M : Mem) : Option (Int32 × Mem) :=
  cl (f_X10_no (-3 : Int32) M) fun v1 M1 =>
  some (v1, M1)
def f_X10_third (x1 : Int32) (x2 : Int32) (M : Mem) : Option (Int32 × Mem) :=
  cp (f_X10_isKind x1 M) fun v1 =>
  if v1 = (0 : Int32) then
    f_X10_third_15 M
  else
    cp (f_X10_isTongue x2 M) fun v2 =>
    if v2 = (0 : Int32) then
      f_X10_third_15 M
    else
      if (M.1 110 0) = (0 : Int32) then
        f_X10_third_39 M
      else
        cp (f_X10_speaks x2 M) fun v3 =>
        if v3 = (0 : Int32) then
          f_X10_third_39 M
        else
          cl (f_X10_bestOver x1 x2 (1 : Int32) M) fun v4 M1 =>
          cl (f_X10_bestOver x1 x2 (0 : Int32) M1) fun v5 M2 =>
          if v5 ≤ v4 then
            some ((0 : Int32), M2)
          else
            some ((1 : Int32), M2)
def f_X10_isSame_48 (M : Mem) (r_5 : Int32 → Int32 → Option Int32) (x1 : Int32) (x2 : Int32) (x4 : Int32) (t0 : Int32) : Option Int32 :=
  r_5 t0 (x4 + 1)
def f_X10_isSame_47 (M : Mem) (r_5 : Int32 → Int32 → Option Int32) (x1 : Int32) (x2 : Int32) (x4 : Int32) : Option Int32 :=
  f_X10_isSame_48 M r_5 x1 x2 x4 (0 : Int32)
def f_X10_isSame_5_b (M : Mem) (r_5 : Int32 → Int32 → Option Int32) (x1 : Int32) (x2 : Int32) (x3 : Int32) (x4 : Int32) : Option Int32 :=
  if (16 : Int32) ≤ x4 then
    rz x3 (some x3)
  else
    if x3 = (0 : Int32) then
      f_X10_isSame_47 M r_5 x1 x2 x4
    else
      rd 1024 (M.1 124) (((16 : Int32) * x1) + x4) fun v1 =>
      rd 1024 (M.1 124) (((16 : Int32) * x2) + x4) fun v2 =>
      if v1 = v2 then
        f_X10_isSame_48 M r_5 x1 x2 x4 (1 : Int32)
      else
        f_X10_isSame_47 M r_5 x1 x2 x4
def f_X10_isSame_5 (M : Mem) (x1 : Int32) (x2 : Int32) : Nat → Int32 → Int32 → Option Int32
  | 0 => fun _ _ => none
  | n + 1 => f_X10_isSame_5_b M (f_X10_isSame_5 M x1 x2 n) x1 x2
def f_X10_isSame (x1 : Int32) (x2 : Int32) (M : Mem) : Option Int32 :=
  f_X10_isSame_5 M x1 x2 FU (1 : Int32) (0 : Int32)
def f_X10_round_33 (M : Mem) : Option (Int32 × Mem) :=
  cl (f_X10_bad (-2 : Int32) M) fun v1 M1 =>
  some (v1, M1)
def f_X10_round_65 (M : Mem) : Option (Int32 × Mem) :=
  cl (f_X10_no (-3 : Int32) M) fun v1 M1 =>
  some (v1, M1)
def f_X10_round_196 (r_166 : Int32 → Int32 → Mem → Option (Int32 × Mem)) (x1 : Int32) (x2 : Int32) (x3 : Int32) (x4 : Int32) (x5 : Int32) (x7 : Int32) (t0 : Int32) (M : Mem) : Option (Int32 × Mem) :=
  r_166 t0 (x7 + 1) M
def f_X10_round_194 (r_166 : Int32 → Int32 → Mem → Option (Int32 × Mem)) (x1 : Int32) (x2 : Int32) (x3 : Int32) (x4 : Int32) (x5 : Int32) (x6 : Int32) (x7 : Int32) (M : Mem) : Option (Int32 × Mem) :=
  f_X10_round_196 r_166 x1 x2 x3 x4 x5 x7 x6 M
def f_X10_round_166_b (r_108 : Int32 → Int32 → Mem → Option (Int32 × Mem)) (r_166 : Int32 → Int32 → Mem → Option (Int32 × Mem)) (x1 : Int32) (x2 : Int32) (x3 : Int32) (x4 : Int32) (x5 : Int32) (x6 : Int32) (x7 : Int32) (M : Mem) : Option (Int32 × Mem) :=
  if x5 ≤ x7 then
    r_108 (x5 + 1) x6 M
  else
    if (0 : Int32) ≤ x6 then
      f_X10_round_194 r_166 x1 x2 x3 x4 x5 x6 x7 M
    else
      cp (f_X10_isSame x7 x5 M) fun v1 =>
      if v1 = (0 : Int32) then
        f_X10_round_194 r_166 x1 x2 x3 x4 x5 x6 x7 M
      else
        f_X10_round_196 r_166 x1 x2 x3 x4 x5 x7 x7 M
def f_X10_round_166 (r_108 : Int32 → Int32 → Mem → Option (Int32 × Mem)) (x1 : Int32) (x2 : Int32) (x3 : Int32) (x4 : Int32) (x5 : Int32) : Nat → Int32 → Int32 → Mem → Option (Int32 × Mem)
  | 0 => fun _ _ _ => none
  | n + 1 => f_X10_round_166_b r_108 (f_X10_round_166 r_108 x1 x2 x3 x4 x5 n) x1 x2 x3 x4 x5
def f_X10_round_108_b (r_108 : Int32 → Int32 → Mem → Option (Int32 × Mem)) (x1 : Int32) (x2 : Int32) (x3 : Int32) (x4 : Int32) (x5 : Int32) (x6 : Int32) (M : Mem) : Option (Int32 × Mem) :=
  if (0 : Int32) ≤ x6 then
    if x4 = (0 : Int32) then
      some (x6, M)
    else
      some (((x5 - (1 : Int32)) - x6), M)
  else
    cl (f_X10_carries 124 1024 124 1024 ((16 : Int32) * (x5 - (1 : Int32))) ((16 : Int32) * x5) x3 x1 M) fun _ M1 =>
    cl (f_X10_carries 124 1024 124 1024 ((16 : Int32) * x5) ((16 : Int32) * x5) x2 x1 M1) fun _ M2 =>
    f_X10_round_166 r_108 x1 x2 x3 x4 x5 FU x6 (0 : Int32) M2
def f_X10_round_108 (x1 : Int32) (x2 : Int32) (x3 : Int32) (x4 : Int32) : Nat → Int32 → Int32 → Mem → Option (Int32 × Mem)
  | 0 => fun _ _ _ => none
  | n + 1 => f_X10_round_108_b (f_X10_round_108 x1 x2 x3 x4 n) x1 x2 x3 x4
def f_X10_round_75_b (r_75 : Int32 → Mem → Option (Int32 × Mem)) (x1 : Int32) (x2 : Int32) (x3 : Int32) (x4 : Int32) (x5 : Int32) (M : Mem) : Option (Int32 × Mem) :=
  if (16 : Int32) ≤ x5 then
    f_X10_round_108 x1 x2 x3 x4 FU (1 : Int32) (-1 : Int32) M
  else
    rd 48 (M.1 117) x5 fun v1 =>
    ck 1024 x5 <| stm (mset M 124 x5.toNatClampNeg v1) fun M1 =>
    r_75 (x5 + 1) M1
def f_X10_round_75 (x1 : Int32) (x2 : Int32) (x3 : Int32) (x4 : Int32) : Nat → Int32 → Mem → Option (Int32 × Mem)
  | 0 => fun _ _ => none
  | n + 1 => f_X10_round_75_b (f_X10_round_75 x1 x2 x3 x4 n) x1 x2 x3 x4
def f_X10_round (x1 : Int32) (x2 : Int32) (x3 : Int32) (x4 : Int32) (M : Mem) : Option (Int32 × Mem) :=
  cp (f_X10_isKind x1 M) fun v1 =>
  if v1 = (0 : Int32) then
    f_X10_round_33 M
  else
    cp (f_X10_isTongue x2 M) fun v2 =>
    if v2 = (0 : Int32) then
      f_X10_round_33 M
    else
      cp (f_X10_isTongue x3 M) fun v3 =>
      if v3 = (0 : Int32) then
        f_X10_round_33 M
      else
        cp (f_X10_between x4 (0 : Int32) (1 : Int32) M) fun v4 =>
        if v4 = (0 : Int32) then
          f_X10_round_33 M
        else
          if (M.1 110 0) = (0 : Int32) then
            f_X10_round_65 M
          else
            cp (f_X10_speaks x2 M) fun v5 =>
            if v5 = (0 : Int32) then
              f_X10_round_65 M
            else
              cp (f_X10_speaks x3 M) fun v6 =>
              if v6 = (0 : Int32) then
                f_X10_round_65 M
              else
                f_X10_round_75 x1 x2 x3 x4 FU (0 : Int32) M
def f_X10_common_23 (M : Mem) : Option (Int32 × Mem) :=
  cl (f_X10_bad (-2 : Int32) M) fun v1 M1 =>
  some (v1, M1)
def f_X10_common_93 (r_40 : Int32 → Int32 → Int32 → Mem → Option (Int32 × Mem)) (x1 : Int32) (x2 : Int32) (x3 : Int32) (x4 : Int32) (x5 : Int32) (M : Mem) : Option (Int32 × Mem) :=
  r_40 x3 x4 (x5 + 1) M
def f_X10_common_40_b (r_40 : Int32 → Int32 → Int32 → Mem → Option (Int32 × Mem)) (x1 : Int32) (x2 : Int32) (x3 : Int32) (x4 : Int32) (x5 : Int32) (M : Mem) : Option (Int32 × Mem) :=
  if (M.1 109 0) ≤ x5 then
    if x4 = (0 : Int32) then
      cl (f_X10_no (-3 : Int32) M) fun v1 M1 =>
      some (v1, M1)
    else
      some (x3, M)
  else
    cp (f_X10_speaks x5 M) fun v2 =>
    if v2 = (0 : Int32) then
      f_X10_common_93 r_40 x1 x2 x3 x4 x5 M
    else
      rd 48 (M.1 117) x2 fun v3 =>
      rd 48 (M.1 117) ((6 : Int32) + x2) fun v4 =>
      cp (f_X10_gets x1 v3 v4 x5 M) fun v5 =>
      rd 432 (M.1 114) v5 fun v6 =>
      f_X10_common_93 r_40 x1 x2 (x3 &&& v6) (x4 + 1) x5 M
def f_X10_common_40 (x1 : Int32) (x2 : Int32) : Nat → Int32 → Int32 → Int32 → Mem → Option (Int32 × Mem)
  | 0 => fun _ _ _ _ => none
  | n + 1 => f_X10_common_40_b (f_X10_common_40 x1 x2 n) x1 x2
def f_X10_common (x1 : Int32) (x2 : Int32) (M : Mem) : Option (Int32 × Mem) :=
  cp (f_X10_isKind x1 M) fun v1 =>
  if v1 = (0 : Int32) then
    f_X10_common_23 M
  else
    cp (f_X10_between x2 (0 : Int32) ((M.1 110 0) - (1 : Int32)) M) fun v2 =>
    if v2 = (0 : Int32) then
      f_X10_common_23 M
    else
      f_X10_common_40 x1 x2 FU (255 : Int32) (0 : Int32) (0 : Int32) M
def f_X10_isBorne_80 (M : Mem) (r_6 : Int32 → Int32 → Option Int32) (x1 : Int32) (x2 : Int32) (x3 : Int32) (x4 : Int32) (x5 : Int32) : Option Int32 :=
  r_6 x4 (x5 + 1)
def f_X10_isBorne_78 (M : Mem) (r_6 : Int32 → Int32 → Option Int32) (x1 : Int32) (x2 : Int32) (x3 : Int32) (x5 : Int32) (t0 : Int32) : Option Int32 :=
  f_X10_isBorne_80 M r_6 x1 x2 x3 t0 x5
def f_X10_isBorne_77 (M : Mem) (r_6 : Int32 → Int32 → Option Int32) (x1 : Int32) (x2 : Int32) (x3 : Int32) (x5 : Int32) : Option Int32 :=
  f_X10_isBorne_78 M r_6 x1 x2 x3 x5 (0 : Int32)
def f_X10_isBorne_6_b (M : Mem) (r_6 : Int32 → Int32 → Option Int32) (x1 : Int32) (x2 : Int32) (x3 : Int32) (x4 : Int32) (x5 : Int32) : Option Int32 :=
  if (M.1 109 0) ≤ x5 then
    rz x4 (some x4)
  else
    cp (f_X10_speaks x5 M) fun v1 =>
    if v1 = (0 : Int32) then
      f_X10_isBorne_80 M r_6 x1 x2 x3 x4 x5
    else
      cp (f_X10_gets x1 x3 (-1 : Int32) x5 M) fun v2 =>
      if x4 = (0 : Int32) then
        f_X10_isBorne_77 M r_6 x1 x2 x3 x5
      else
        rd 432 (M.1 114) v2 fun v3 =>
        rd 432 (M.1 114) (v2 + (1 : Int32)) fun v4 =>
        cp (f_X10_gets x1 v3 v4 x2 M) fun v5 =>
        rd 432 (M.1 114) v5 fun v6 =>
        if v6 = x3 then
          f_X10_isBorne_78 M r_6 x1 x2 x3 x5 (1 : Int32)
        else
          f_X10_isBorne_77 M r_6 x1 x2 x3 x5
def f_X10_isBorne_6 (M : Mem) (x1 : Int32) (x2 : Int32) (x3 : Int32) : Nat → Int32 → Int32 → Option Int32
  | 0 => fun _ _ => none
  | n + 1 => f_X10_isBorne_6_b M (f_X10_isBorne_6 M x1 x2 x3 n) x1 x2 x3
def f_X10_isBorne (x1 : Int32) (x2 : Int32) (x3 : Int32) (M : Mem) : Option Int32 :=
  f_X10_isBorne_6 M x1 x2 x3 FU (1 : Int32) (0 : Int32)
def f_X10_borne_37 (M : Mem) (r_6 : Int32 → Int32 → Option Int32) (x1 : Int32) (x2 : Int32) (x3 : Int32) (x4 : Int32) (x5 : Int32) : Option Int32 :=
  r_6 x4 (x5 + 1)
def f_X10_borne_6_b (M : Mem) (r_6 : Int32 → Int32 → Option Int32) (x1 : Int32) (x2 : Int32) (x3 : Int32) (x4 : Int32) (x5 : Int32) : Option Int32 :=
  if (256 : Int32) ≤ x5 then
    if (0 : Int32) ≤ x3 then
      some (-5 : Int32)
    else
      some x4
  else
    cp (f_X10_isBorne x1 x2 x5 M) fun v1 =>
    if v1 = (0 : Int32) then
      f_X10_borne_37 M r_6 x1 x2 x3 x4 x5
    else
      if x4 = x3 then
        some x5
      else
        f_X10_borne_37 M r_6 x1 x2 x3 (x4 + 1) x5
def f_X10_borne_6 (M : Mem) (x1 : Int32) (x2 : Int32) (x3 : Int32) : Nat → Int32 → Int32 → Option Int32
  | 0 => fun _ _ => none
  | n + 1 => f_X10_borne_6_b M (f_X10_borne_6 M x1 x2 x3 n) x1 x2 x3
def f_X10_borne (x1 : Int32) (x2 : Int32) (x3 : Int32) (M : Mem) : Option Int32 :=
  f_X10_borne_6 M x1 x2 x3 FU (0 : Int32) (1 : Int32)
def f_X10_bears_20 (M : Mem) : Option (Int32 × Mem) :=
  cl (f_X10_bad (-10 : Int32) M) fun v1 M1 =>
  some (v1, M1)
def f_X10_bears (x1 : Int32) (x2 : Int32) (x3 : Int32) (M : Mem) : Option (Int32 × Mem) :=
  cp (f_X10_isKind x1 M) fun v1 =>
  if v1 = (0 : Int32) then
    f_X10_bears_20 M
  else
    cp (f_X10_isTongue x2 M) fun v2 =>
    if v2 = (0 : Int32) then
      f_X10_bears_20 M
    else
      if (-1 : Int32) ≤ x3 then
        cp (f_X10_speaks x2 M) fun v3 =>
        if v3 = (0 : Int32) then
          cl (f_X10_no (-20 : Int32) M) fun v4 M1 =>
          some (v4, M1)
        else
          cp (f_X10_borne x1 x2 x3 M) fun v5 =>
          some (v5, M)
      else
        f_X10_bears_20 M
def f_X10_tells_108 (M : Mem) (r_13 : Int32 → Int32 → Option Int32) (x1 : Int32) (x3 : Int32) (x4 : Int32) (t0 : Int32) : Option Int32 :=
  r_13 t0 (x4 + 1)
def f_X10_tells_107 (M : Mem) (r_13 : Int32 → Int32 → Option Int32) (x1 : Int32) (x3 : Int32) (x4 : Int32) : Option Int32 :=
  f_X10_tells_108 M r_13 x1 x3 x4 (0 : Int32)
def f_X10_tells_103 (M : Mem) (r_13 : Int32 → Int32 → Option Int32) (x1 : Int32) (x3 : Int32) (x4 : Int32) : Option Int32 :=
  f_X10_tells_108 M r_13 x1 x3 x4 (1 : Int32)
def f_X10_tells_85 (M : Mem) (r_13 : Int32 → Int32 → Option Int32) (x1 : Int32) (x2 : Int32) (x3 : Int32) (x4 : Int32) (t0 : Int32) : Option Int32 :=
  if x2 = (0 : Int32) then
    f_X10_tells_107 M r_13 x1 x3 x4
  else
    if t0 = (0 : Int32) then
      f_X10_tells_103 M r_13 x1 x3 x4
    else
      if (t0 &&& x1) = (0 : Int32) then
        f_X10_tells_107 M r_13 x1 x3 x4
      else
        f_X10_tells_103 M r_13 x1 x3 x4
def f_X10_tells_56 (M : Mem) (r_13 : Int32 → Int32 → Option Int32) (x1 : Int32) (x2 : Int32) (x3 : Int32) (x4 : Int32) (t0 : Int32) : Option Int32 :=
  if t0 = (0 : Int32) then
    f_X10_tells_85 M r_13 x1 x2 x3 x4 (0 : Int32)
  else
    rd 432 (M.1 114) ((3 : Int32) * x3) fun v1 =>
    rd 432 (M.1 114) ((3 : Int32) * x4) fun v2 =>
    f_X10_tells_85 M r_13 x1 x2 x3 x4 (v1 ^^^ v2)
def f_X10_tells_55 (M : Mem) (r_13 : Int32 → Int32 → Option Int32) (x1 : Int32) (x2 : Int32) (x3 : Int32) (x4 : Int32) : Option Int32 :=
  f_X10_tells_56 M r_13 x1 x2 x3 x4 (0 : Int32)
def f_X10_tells_13_b (M : Mem) (r_4 : Int32 → Int32 → Option Int32) (r_13 : Int32 → Int32 → Option Int32) (x1 : Int32) (x3 : Int32) (x2 : Int32) (x4 : Int32) : Option Int32 :=
  if x3 ≤ x4 then
    r_4 x2 (x3 + 1)
  else
    cp (f_X10_isWord (x3 / (8 : Int32)) (x3 % (8 : Int32)) M) fun v1 =>
    if v1 = (0 : Int32) then
      f_X10_tells_55 M r_13 x1 x2 x3 x4
    else
      cp (f_X10_isWord (x4 / (8 : Int32)) (x4 % (8 : Int32)) M) fun v2 =>
      if v2 = (0 : Int32) then
        f_X10_tells_55 M r_13 x1 x2 x3 x4
      else
        f_X10_tells_56 M r_13 x1 x2 x3 x4 (1 : Int32)
def f_X10_tells_13 (M : Mem) (r_4 : Int32 → Int32 → Option Int32) (x1 : Int32) (x3 : Int32) : Nat → Int32 → Int32 → Option Int32
  | 0 => fun _ _ => none
  | n + 1 => f_X10_tells_13_b M r_4 (f_X10_tells_13 M r_4 x1 x3 n) x1 x3
def f_X10_tells_4_b (M : Mem) (r_4 : Int32 → Int32 → Option Int32) (x1 : Int32) (x2 : Int32) (x3 : Int32) : Option Int32 :=
  if (48 : Int32) ≤ x3 then
    rz x2 (some x2)
  else
    f_X10_tells_13 M r_4 x1 x3 FU x2 (0 : Int32)
def f_X10_tells_4 (M : Mem) (x1 : Int32) : Nat → Int32 → Int32 → Option Int32
  | 0 => fun _ _ => none
  | n + 1 => f_X10_tells_4_b M (f_X10_tells_4 M x1 n) x1
def f_X10_tells (x1 : Int32) (M : Mem) : Option Int32 :=
  f_X10_tells_4 M x1 FU (1 : Int32) (0 : Int32)
def f_X10_middle_63 (M : Mem) (r_6 : Int32 → Int32 → Option Int32) (x2 : Int32) (t0 : Int32) : Option Int32 :=
  r_6 t0 (x2 + 1)
def f_X10_middle_62 (M : Mem) (r_6 : Int32 → Int32 → Option Int32) (x1 : Int32) (x2 : Int32) : Option Int32 :=
  f_X10_middle_63 M r_6 x2 x1
def f_X10_middle_45 (M : Mem) (r_6 : Int32 → Int32 → Option Int32) (x1 : Int32) (x2 : Int32) (t0 : Int32) : Option Int32 :=
  if t0 = (0 : Int32) then
    f_X10_middle_62 M r_6 x1 x2
  else
    cp (f_X10_tells x2 M) fun v1 =>
    if v1 = (0 : Int32) then
      f_X10_middle_62 M r_6 x1 x2
    else
      f_X10_middle_63 M r_6 x2 x2
def f_X10_middle_40 (M : Mem) (r_6 : Int32 → Int32 → Option Int32) (x1 : Int32) (x2 : Int32) : Option Int32 :=
  f_X10_middle_45 M r_6 x1 x2 (1 : Int32)
def f_X10_middle_44 (M : Mem) (r_6 : Int32 → Int32 → Option Int32) (x1 : Int32) (x2 : Int32) : Option Int32 :=
  f_X10_middle_45 M r_6 x1 x2 (0 : Int32)
def f_X10_middle_6_b (M : Mem) (r_6 : Int32 → Int32 → Option Int32) (x1 : Int32) (x2 : Int32) : Option Int32 :=
  if (256 : Int32) ≤ x2 then
    some x1
  else
    cp (f_X10_bits x2 M) fun v1 =>
    cp (f_X10_bits x1 M) fun v2 =>
    if v1 < v2 then
      f_X10_middle_40 M r_6 x1 x2
    else
      cp (f_X10_bits x2 M) fun v3 =>
      cp (f_X10_bits x1 M) fun v4 =>
      if v3 = v4 then
        if x1 ≤ x2 then
          f_X10_middle_44 M r_6 x1 x2
        else
          f_X10_middle_40 M r_6 x1 x2
      else
        f_X10_middle_44 M r_6 x1 x2
def f_X10_middle_6 (M : Mem) : Nat → Int32 → Int32 → Option Int32
  | 0 => fun _ _ => none
  | n + 1 => f_X10_middle_6_b M (f_X10_middle_6 M n)
def f_X10_middle (M : Mem) : Option Int32 :=
  f_X10_middle_6 M FU (255 : Int32) (0 : Int32)
def f_X10_end_20 (M : Mem) : Option (Int32 × Mem) :=
  cl (f_X10_bad (-2 : Int32) M) fun v1 M1 =>
  some (v1, M1)
def f_X10_end (x1 : Int32) (x2 : Int32) (M : Mem) : Option (Int32 × Mem) :=
  cp (f_X10_between x1 (0 : Int32) (5 : Int32) M) fun v1 =>
  if v1 = (0 : Int32) then
    f_X10_end_20 M
  else
    cp (f_X10_between x2 (0 : Int32) (255 : Int32) M) fun v2 =>
    if v2 = (0 : Int32) then
      f_X10_end_20 M
    else
      rd 36 (M.1 118) x1 fun v3 =>
      ck 36 x1 <| stm (mset M 118 x1.toNatClampNeg x2) fun M1 =>
      some (v3, M1)
def f_X10_endForm_19 (M : Mem) : Option (Int32 × Mem) :=
  cl (f_X10_bad (-10 : Int32) M) fun v1 M1 =>
  some (v1, M1)
def f_X10_endForm (x1 : Int32) (x2 : Int32) (M : Mem) : Option (Int32 × Mem) :=
  cp (f_X10_between x1 (0 : Int32) (3 : Int32) M) fun v1 =>
  if v1 = (0 : Int32) then
    f_X10_endForm_19 M
  else
    cp (f_X10_between x2 (-2 : Int32) (1 : Int32) M) fun v2 =>
    if v2 = (0 : Int32) then
      f_X10_endForm_19 M
    else
      rd 36 (M.1 118) ((6 : Int32) + x1) fun v3 =>
      ck 36 ((6 : Int32) + x1) <| stm (mset M 118 ((6 : Int32) + x1).toNatClampNeg x2) fun M1 =>
      some (v3, M1)
def f_X10_isEnd_105 (M : Mem) (r_56 : Int32 → Int32 → Option Int32) (x2 : Int32) (t0 : Int32) : Option Int32 :=
  r_56 t0 (x2 + 1)
def f_X10_isEnd_104 (M : Mem) (r_56 : Int32 → Int32 → Option Int32) (x2 : Int32) : Option Int32 :=
  f_X10_isEnd_105 M r_56 x2 (0 : Int32)
def f_X10_isEnd_100 (M : Mem) (r_56 : Int32 → Int32 → Option Int32) (x2 : Int32) : Option Int32 :=
  f_X10_isEnd_105 M r_56 x2 (1 : Int32)
def f_X10_isEnd_56_b (M : Mem) (r_56 : Int32 → Int32 → Option Int32) (x1 : Int32) (x2 : Int32) : Option Int32 :=
  if (4 : Int32) ≤ x2 then
    rz x1 (some x1)
  else
    if x1 = (0 : Int32) then
      f_X10_isEnd_104 M r_56 x2
    else
      rd 36 (M.1 118) ((6 : Int32) + x2) fun v1 =>
      if v1 = (-2 : Int32) then
        f_X10_isEnd_100 M r_56 x2
      else
        rd 16 (M.1 125) ((12 : Int32) + x2) fun v2 =>
        rd 36 (M.1 118) ((6 : Int32) + x2) fun v3 =>
        if v2 = v3 then
          f_X10_isEnd_100 M r_56 x2
        else
          f_X10_isEnd_104 M r_56 x2
def f_X10_isEnd_56 (M : Mem) : Nat → Int32 → Int32 → Option Int32
  | 0 => fun _ _ => none
  | n + 1 => f_X10_isEnd_56_b M (f_X10_isEnd_56 M n)
def f_X10_isEnd_47 (M : Mem) (r_4 : Int32 → Int32 → Option Int32) (x2 : Int32) (t0 : Int32) : Option Int32 :=
  r_4 t0 (x2 + 1)
def f_X10_isEnd_46 (M : Mem) (r_4 : Int32 → Int32 → Option Int32) (x2 : Int32) : Option Int32 :=
  f_X10_isEnd_47 M r_4 x2 (0 : Int32)
def f_X10_isEnd_42 (M : Mem) (r_4 : Int32 → Int32 → Option Int32) (x2 : Int32) : Option Int32 :=
  f_X10_isEnd_47 M r_4 x2 (1 : Int32)
def f_X10_isEnd_4_b (M : Mem) (r_4 : Int32 → Int32 → Option Int32) (x1 : Int32) (x2 : Int32) : Option Int32 :=
  if (M.1 110 0) ≤ x2 then
    f_X10_isEnd_56 M FU x1 (0 : Int32)
  else
    if x1 = (0 : Int32) then
      f_X10_isEnd_46 M r_4 x2
    else
      rd 36 (M.1 118) x2 fun v1 =>
      if v1 = (0 : Int32) then
        f_X10_isEnd_42 M r_4 x2
      else
        rd 16 (M.1 125) x2 fun v2 =>
        rd 36 (M.1 118) x2 fun v3 =>
        if v2 = v3 then
          f_X10_isEnd_42 M r_4 x2
        else
          f_X10_isEnd_46 M r_4 x2
def f_X10_isEnd_4 (M : Mem) : Nat → Int32 → Int32 → Option Int32
  | 0 => fun _ _ => none
  | n + 1 => f_X10_isEnd_4_b M (f_X10_isEnd_4 M n)
def f_X10_isEnd (M : Mem) : Option Int32 :=
  f_X10_isEnd_4 M FU (1 : Int32) (0 : Int32)
def f_X10_fraction_5_b (r_5 : Int32 → Int32 → Mem → Option (Unit × Mem)) (x1 : Int32) (x2 : Int32) (x3 : Int32) (x4 : Int32) (M : Mem) : Option (Unit × Mem) :=
  if x4 = (0 : Int32) then
    dz x3 <| stm (mset M 108 11 (x1 / x3)) fun M1 =>
    dz x3 <| stm (mset M1 108 12 (x2 / x3)) fun M2 =>
    some ((), M2)
  else
    dz x4 <| r_5 x4 (x3 % x4) M
def f_X10_fraction_5 (x1 : Int32) (x2 : Int32) : Nat → Int32 → Int32 → Mem → Option (Unit × Mem)
  | 0 => fun _ _ _ => none
  | n + 1 => f_X10_fraction_5_b (f_X10_fraction_5 x1 x2 n) x1 x2
def f_X10_fraction (x1 : Int32) (x2 : Int32) (M : Mem) : Option (Unit × Mem) :=
  f_X10_fraction_5 x1 x2 FU x1 x2 M
def f_X10_which_29 (M : Mem) : Option (Int32 × Mem) :=
  cl (f_X10_bad (-2 : Int32) M) fun v1 M1 =>
  some (v1, M1)
def f_X10_which_58 (M : Mem) : Option (Int32 × Mem) :=
  cl (f_X10_no (-3 : Int32) M) fun v1 M1 =>
  some (v1, M1)
def f_X10_which_125 (r_74 : Int32 → Int32 → Int32 → Mem → Option (Int32 × Mem)) (x1 : Int32) (x2 : Int32) (x3 : Int32) (x4 : Int32) (x5 : Int32) (x6 : Int32) (M : Mem) : Option (Int32 × Mem) :=
  r_74 x4 x5 (x6 + 1) M
def f_X10_which_122 (r_74 : Int32 → Int32 → Int32 → Mem → Option (Int32 × Mem)) (x1 : Int32) (x2 : Int32) (x3 : Int32) (x4 : Int32) (x6 : Int32) (t1 : Int32) (t0 : Int32) (M : Mem) : Option (Int32 × Mem) :=
  f_X10_which_125 r_74 x1 x2 x3 x4 (t0 + t1) x6 M
def f_X10_which_74_b (r_74 : Int32 → Int32 → Int32 → Mem → Option (Int32 × Mem)) (x1 : Int32) (x2 : Int32) (x3 : Int32) (x4 : Int32) (x5 : Int32) (x6 : Int32) (M : Mem) : Option (Int32 × Mem) :=
  cp (f_X10_codes x2 M) fun v1 =>
  if v1 ≤ x6 then
    if x3 = (-1 : Int32) then
      some (x4, M)
    else
      if x4 = (0 : Int32) then
        cl (f_X10_no (-3 : Int32) M) fun v2 M2 =>
        some (v2, M2)
      else
        cl (f_X10_fraction x5 x4 M) fun _ M1 =>
        some ((1 : Int32), M1)
  else
    cl (f_X10_tries x1 x2 x6 M) fun v3 M3 =>
    if v3 = (0 : Int32) then
      f_X10_which_125 r_74 x1 x2 x3 x4 x5 x6 M3
    else
      cp (f_X10_isEnd M3) fun v4 =>
      if v4 = (0 : Int32) then
        f_X10_which_125 r_74 x1 x2 x3 x4 x5 x6 M3
      else
        if (M3.1 126 0) = x3 then
          f_X10_which_122 r_74 x1 x2 x3 (x4 + 1) x6 (1 : Int32) x5 M3
        else
          f_X10_which_122 r_74 x1 x2 x3 (x4 + 1) x6 (0 : Int32) x5 M3
def f_X10_which_74 (x1 : Int32) (x2 : Int32) (x3 : Int32) : Nat → Int32 → Int32 → Int32 → Mem → Option (Int32 × Mem)
  | 0 => fun _ _ _ _ => none
  | n + 1 => f_X10_which_74_b (f_X10_which_74 x1 x2 x3 n) x1 x2 x3
def f_X10_which_65 (x1 : Int32) (x2 : Int32) (x3 : Int32) (M : Mem) : Option (Int32 × Mem) :=
  f_X10_which_74 x1 x2 x3 FU (0 : Int32) (0 : Int32) (0 : Int32) M
def f_X10_which_36 (x1 : Int32) (x2 : Int32) (x3 : Int32) (M : Mem) : Option (Int32 × Mem) :=
  if (M.1 110 0) = (0 : Int32) then
    f_X10_which_58 M
  else
    if x3 = (-1 : Int32) then
      f_X10_which_65 x1 x2 x3 M
    else
      cp (f_X10_speaks x3 M) fun v1 =>
      if v1 = (0 : Int32) then
        f_X10_which_58 M
      else
        f_X10_which_65 x1 x2 x3 M
def f_X10_which (x1 : Int32) (x2 : Int32) (x3 : Int32) (M : Mem) : Option (Int32 × Mem) :=
  cp (f_X10_isKind x1 M) fun v1 =>
  if v1 = (0 : Int32) then
    f_X10_which_29 M
  else
    cp (f_X10_between x2 (1 : Int32) (4 : Int32) M) fun v2 =>
    if v2 = (0 : Int32) then
      f_X10_which_29 M
    else
      if x3 = (-1 : Int32) then
        f_X10_which_36 x1 x2 x3 M
      else
        cp (f_X10_isTongue x3 M) fun v3 =>
        if v3 = (0 : Int32) then
          f_X10_which_29 M
        else
          f_X10_which_36 x1 x2 x3 M
def f_X10_isAt (x1 : Int32) (x2 : Int32) (x3 : Int32) (x4 : Int32) (x5 : Int32) (M : Mem) : Option Int32 :=
  rd 288 (M.1 116) ((4 : Int32) * x1) fun v1 =>
  if v1 = x2 then
    rd 288 (M.1 116) (((4 : Int32) * x1) + (1 : Int32)) fun v2 =>
    if v2 = x3 then
      rd 288 (M.1 116) (((4 : Int32) * x1) + (2 : Int32)) fun v3 =>
      if v3 = x4 then
        rd 288 (M.1 116) (((4 : Int32) * x1) + (3 : Int32)) fun v4 =>
        if v4 = x5 then
          some (1 : Int32)
        else
          some (0 : Int32)
      else
        some (0 : Int32)
    else
      some (0 : Int32)
  else
    some (0 : Int32)
def f_X10_pair_91 (x1 : Int32) (x2 : Int32) (x3 : Int32) (x4 : Int32) (x5 : Int32) (M : Mem) : Option (Int32 × Mem) :=
  if x5 = (0 : Int32) then
    cl (f_X10_bad (-2 : Int32) M) fun v2 M7 =>
    some (v2, M7)
  else
    if (M.1 112 0) = (24 : Int32) then
      cl (f_X10_full M) fun v1 M6 =>
      some (v1, M6)
    else
      ck 288 ((4 : Int32) * (M.1 112 0)) <| stm (mset M 116 ((4 : Int32) * (M.1 112 0)).toNatClampNeg x1) fun M1 =>
      ck 288 (((4 : Int32) * (M.1 112 0)) + (1 : Int32)) <| stm (mset M1 116 (((4 : Int32) * (M.1 112 0)) + (1 : Int32)).toNatClampNeg x2) fun M2 =>
      ck 288 (((4 : Int32) * (M.1 112 0)) + (2 : Int32)) <| stm (mset M2 116 (((4 : Int32) * (M.1 112 0)) + (2 : Int32)).toNatClampNeg x3) fun M3 =>
      ck 288 (((4 : Int32) * (M.1 112 0)) + (3 : Int32)) <| stm (mset M3 116 (((4 : Int32) * (M.1 112 0)) + (3 : Int32)).toNatClampNeg x4) fun M4 =>
      stm (mset M4 112 0 ((M4.1 112 0) + (1 : Int32))) fun M5 =>
      some ((M.1 112 0), M5)
def f_X10_pair_83 (r_34 : Int32 → Int32 → Mem → Option (Int32 × Mem)) (x1 : Int32) (x2 : Int32) (x3 : Int32) (x4 : Int32) (x6 : Int32) (t0 : Int32) (M : Mem) : Option (Int32 × Mem) :=
  r_34 t0 (x6 + 1) M
def f_X10_pair_82 (r_34 : Int32 → Int32 → Mem → Option (Int32 × Mem)) (x1 : Int32) (x2 : Int32) (x3 : Int32) (x4 : Int32) (x6 : Int32) (M : Mem) : Option (Int32 × Mem) :=
  f_X10_pair_83 r_34 x1 x2 x3 x4 x6 (0 : Int32) M
def f_X10_pair_34_b (r_34 : Int32 → Int32 → Mem → Option (Int32 × Mem)) (x1 : Int32) (x2 : Int32) (x3 : Int32) (x4 : Int32) (x5 : Int32) (x6 : Int32) (M : Mem) : Option (Int32 × Mem) :=
  if (M.1 112 0) ≤ x6 then
    f_X10_pair_91 x1 x2 x3 x4 x5 M
  else
    if x5 = (0 : Int32) then
      f_X10_pair_91 x1 x2 x3 x4 x5 M
    else
      cp (f_X10_isAt x6 x1 x2 x3 x4 M) fun v1 =>
      if v1 = (0 : Int32) then
        cp (f_X10_isAt x6 x3 x4 x1 x2 M) fun v2 =>
        if v2 = (0 : Int32) then
          f_X10_pair_83 r_34 x1 x2 x3 x4 x6 (1 : Int32) M
        else
          f_X10_pair_82 r_34 x1 x2 x3 x4 x6 M
      else
        f_X10_pair_82 r_34 x1 x2 x3 x4 x6 M
def f_X10_pair_34 (x1 : Int32) (x2 : Int32) (x3 : Int32) (x4 : Int32) : Nat → Int32 → Int32 → Mem → Option (Int32 × Mem)
  | 0 => fun _ _ _ => none
  | n + 1 => f_X10_pair_34_b (f_X10_pair_34 x1 x2 x3 x4 n) x1 x2 x3 x4
def f_X10_pair_29 (x1 : Int32) (x2 : Int32) (x3 : Int32) (x4 : Int32) (t0 : Int32) (M : Mem) : Option (Int32 × Mem) :=
  f_X10_pair_34 x1 x2 x3 x4 FU t0 (0 : Int32) M
def f_X10_pair_28 (x1 : Int32) (x2 : Int32) (x3 : Int32) (x4 : Int32) (M : Mem) : Option (Int32 × Mem) :=
  f_X10_pair_29 x1 x2 x3 x4 (0 : Int32) M
def f_X10_pair (x1 : Int32) (x2 : Int32) (x3 : Int32) (x4 : Int32) (M : Mem) : Option (Int32 × Mem) :=
  cp (f_X10_isWord x1 x2 M) fun v1 =>
  if v1 = (0 : Int32) then
    f_X10_pair_28 x1 x2 x3 x4 M
  else
    cp (f_X10_isWord x3 x4 M) fun v2 =>
    if v2 = (0 : Int32) then
      f_X10_pair_28 x1 x2 x3 x4 M
    else
      if x1 = x3 then
        f_X10_pair_28 x1 x2 x3 x4 M
      else
        f_X10_pair_29 x1 x2 x3 x4 (1 : Int32) M
def f_X10_leads_54 (M : Mem) (x1 : Int32) (x2 : Int32) (x3 : Int32) (x4 : Int32) : Option Int32 :=
  rd 288 (M.1 116) (((4 : Int32) * x1) + (2 : Int32)) fun v1 =>
  if v1 = x2 then
    rd 288 (M.1 116) (((4 : Int32) * x1) + (3 : Int32)) fun v2 =>
    if v2 = x3 then
      rd 288 (M.1 116) ((4 : Int32) * x1) fun v3 =>
      if v3 = x4 then
        rd 288 (M.1 116) (((4 : Int32) * x1) + (1 : Int32)) fun v4 =>
        some v4
      else
        some (-1 : Int32)
    else
      some (-1 : Int32)
  else
    some (-1 : Int32)
def f_X10_leads (x1 : Int32) (x2 : Int32) (x3 : Int32) (x4 : Int32) (M : Mem) : Option Int32 :=
  rd 288 (M.1 116) ((4 : Int32) * x1) fun v1 =>
  if v1 = x2 then
    rd 288 (M.1 116) (((4 : Int32) * x1) + (1 : Int32)) fun v2 =>
    if v2 = x3 then
      rd 288 (M.1 116) (((4 : Int32) * x1) + (2 : Int32)) fun v3 =>
      if v3 = x4 then
        rd 288 (M.1 116) (((4 : Int32) * x1) + (3 : Int32)) fun v4 =>
        some v4
      else
        f_X10_leads_54 M x1 x2 x3 x4
    else
      f_X10_leads_54 M x1 x2 x3 x4
  else
    f_X10_leads_54 M x1 x2 x3 x4
def f_X10_counts_114 (t3 : Int32) (t2 : Int32) (t1 : Int32) (M : Mem) : Option (Unit × Mem) :=
  ck 24 t1 <| stm (mset M 128 t1.toNatClampNeg (t2 + t3)) fun M1 =>
  some ((), M1)
def f_X10_counts_95 (x3 : Int32) (x4 : Int32) (t3 : Int32) (t2 : Int32) (t1 : Int32) (M : Mem) : Option (Unit × Mem) :=
  ck 24 t1 <| stm (mset M 128 t1.toNatClampNeg (t2 + t3)) fun M1 =>
  rd 24 (M1.1 128) x3 fun v1 =>
  if x4 = (0 : Int32) then
    f_X10_counts_114 (1 : Int32) v1 x3 M1
  else
    f_X10_counts_114 (0 : Int32) v1 x3 M1
def f_X10_counts_76 (x2 : Int32) (x3 : Int32) (x4 : Int32) (t3 : Int32) (t2 : Int32) (t1 : Int32) (M : Mem) : Option (Unit × Mem) :=
  ck 24 t1 <| stm (mset M 128 t1.toNatClampNeg (t2 + t3)) fun M1 =>
  rd 24 (M1.1 128) x2 fun v1 =>
  if x4 = (0 : Int32) then
    f_X10_counts_95 x3 x4 (1 : Int32) v1 x2 M1
  else
    f_X10_counts_95 x3 x4 (0 : Int32) v1 x2 M1
def f_X10_counts_25 (x1 : Int32) (x2 : Int32) (x3 : Int32) (x4 : Int32) (t2 : Int32) (t1 : Int32) (M : Mem) : Option (Unit × Mem) :=
  stm (mset M 108 25 (t1 + t2)) fun M1 =>
  rd 24 (M1.1 127) x1 fun v1 =>
  ck 24 x1 <| stm (mset M1 127 x1.toNatClampNeg (v1 + (1 : Int32))) fun M2 =>
  rd 24 (M2.1 127) x2 fun v2 =>
  ck 24 x2 <| stm (mset M2 127 x2.toNatClampNeg (v2 + (1 : Int32))) fun M3 =>
  rd 24 (M3.1 127) x3 fun v3 =>
  ck 24 x3 <| stm (mset M3 127 x3.toNatClampNeg (v3 + (1 : Int32))) fun M4 =>
  rd 24 (M4.1 128) x1 fun v4 =>
  if x4 = (0 : Int32) then
    f_X10_counts_76 x2 x3 x4 (1 : Int32) v4 x1 M4
  else
    f_X10_counts_76 x2 x3 x4 (0 : Int32) v4 x1 M4
def f_X10_counts (x1 : Int32) (x2 : Int32) (x3 : Int32) (x4 : Int32) (M : Mem) : Option (Unit × Mem) :=
  stm (mset M 108 24 ((M.1 108 24) + (1 : Int32))) fun M1 =>
  if x4 = (0 : Int32) then
    f_X10_counts_25 x1 x2 x3 x4 (0 : Int32) (M1.1 108 25) M1
  else
    f_X10_counts_25 x1 x2 x3 x4 (1 : Int32) (M1.1 108 25) M1
def f_X10_ring_127 (r_3 : Int32 → Mem → Option (Unit × Mem)) (x1 : Int32) (x2 : Int32) (x3 : Int32) (x4 : Int32) (x5 : Int32) (M : Mem) : Option (Unit × Mem) :=
  r_3 (x5 + 1) M
def f_X10_ring_121 (r_29 : Int32 → Mem → Option (Unit × Mem)) (x1 : Int32) (x2 : Int32) (x3 : Int32) (x4 : Int32) (x5 : Int32) (x6 : Int32) (x7 : Int32) (M : Mem) : Option (Unit × Mem) :=
  r_29 (x7 + 1) M
def f_X10_ring_115 (r_60 : Int32 → Mem → Option (Unit × Mem)) (x1 : Int32) (x2 : Int32) (x3 : Int32) (x4 : Int32) (x5 : Int32) (x6 : Int32) (x7 : Int32) (x8 : Int32) (x9 : Int32) (M : Mem) : Option (Unit × Mem) :=
  r_60 (x9 + 1) M
def f_X10_ring_112 (r_60 : Int32 → Mem → Option (Unit × Mem)) (x1 : Int32) (x2 : Int32) (x3 : Int32) (x4 : Int32) (x5 : Int32) (x6 : Int32) (x7 : Int32) (x8 : Int32) (x9 : Int32) (t4 : Int32) (t3 : Int32) (t2 : Int32) (t1 : Int32) (M : Mem) : Option (Unit × Mem) :=
  cl (f_X10_counts t1 t2 t3 t4 M) fun _ M1 =>
  f_X10_ring_115 r_60 x1 x2 x3 x4 x5 x6 x7 x8 x9 M1
def f_X10_ring_60_b (r_29 : Int32 → Mem → Option (Unit × Mem)) (r_60 : Int32 → Mem → Option (Unit × Mem)) (x1 : Int32) (x2 : Int32) (x3 : Int32) (x4 : Int32) (x5 : Int32) (x6 : Int32) (x7 : Int32) (x8 : Int32) (x9 : Int32) (M : Mem) : Option (Unit × Mem) :=
  if (M.1 112 0) ≤ x9 then
    f_X10_ring_121 r_29 x1 x2 x3 x4 x5 x6 x7 M
  else
    if x8 < (0 : Int32) then
      f_X10_ring_121 r_29 x1 x2 x3 x4 x5 x6 x7 M
    else
      cp (f_X10_leads x9 x3 x8 x1 M) fun v1 =>
      if v1 < (0 : Int32) then
        f_X10_ring_115 r_60 x1 x2 x3 x4 x5 x6 x7 x8 x9 M
      else
        if v1 = x4 then
          f_X10_ring_112 r_60 x1 x2 x3 x4 x5 x6 x7 x8 x9 (1 : Int32) x9 x7 x5 M
        else
          f_X10_ring_112 r_60 x1 x2 x3 x4 x5 x6 x7 x8 x9 (0 : Int32) x9 x7 x5 M
def f_X10_ring_60 (r_29 : Int32 → Mem → Option (Unit × Mem)) (x1 : Int32) (x2 : Int32) (x3 : Int32) (x4 : Int32) (x5 : Int32) (x6 : Int32) (x7 : Int32) (x8 : Int32) : Nat → Int32 → Mem → Option (Unit × Mem)
  | 0 => fun _ _ => none
  | n + 1 => f_X10_ring_60_b r_29 (f_X10_ring_60 r_29 x1 x2 x3 x4 x5 x6 x7 x8 n) x1 x2 x3 x4 x5 x6 x7 x8
def f_X10_ring_29_b (r_3 : Int32 → Mem → Option (Unit × Mem)) (r_29 : Int32 → Mem → Option (Unit × Mem)) (x1 : Int32) (x2 : Int32) (x3 : Int32) (x4 : Int32) (x5 : Int32) (x6 : Int32) (x7 : Int32) (M : Mem) : Option (Unit × Mem) :=
  if (M.1 112 0) ≤ x7 then
    f_X10_ring_127 r_3 x1 x2 x3 x4 x5 M
  else
    if x6 < (0 : Int32) then
      f_X10_ring_127 r_3 x1 x2 x3 x4 x5 M
    else
      cp (f_X10_leads x7 x2 x6 x3 M) fun v1 =>
      f_X10_ring_60 r_29 x1 x2 x3 x4 x5 x6 x7 v1 FU (0 : Int32) M
def f_X10_ring_29 (r_3 : Int32 → Mem → Option (Unit × Mem)) (x1 : Int32) (x2 : Int32) (x3 : Int32) (x4 : Int32) (x5 : Int32) (x6 : Int32) : Nat → Int32 → Mem → Option (Unit × Mem)
  | 0 => fun _ _ => none
  | n + 1 => f_X10_ring_29_b r_3 (f_X10_ring_29 r_3 x1 x2 x3 x4 x5 x6 n) x1 x2 x3 x4 x5 x6
def f_X10_ring_3_b (r_3 : Int32 → Mem → Option (Unit × Mem)) (x1 : Int32) (x2 : Int32) (x3 : Int32) (x4 : Int32) (x5 : Int32) (M : Mem) : Option (Unit × Mem) :=
  if (M.1 112 0) ≤ x5 then
    some ((), M)
  else
    cp (f_X10_leads x5 x1 x4 x2 M) fun v1 =>
    f_X10_ring_29 r_3 x1 x2 x3 x4 x5 v1 FU (0 : Int32) M
def f_X10_ring_3 (x1 : Int32) (x2 : Int32) (x3 : Int32) (x4 : Int32) : Nat → Int32 → Mem → Option (Unit × Mem)
  | 0 => fun _ _ => none
  | n + 1 => f_X10_ring_3_b (f_X10_ring_3 x1 x2 x3 x4 n) x1 x2 x3 x4
def f_X10_ring (x1 : Int32) (x2 : Int32) (x3 : Int32) (x4 : Int32) (M : Mem) : Option (Unit × Mem) :=
  f_X10_ring_3 x1 x2 x3 x4 FU (0 : Int32) M
def f_X10_allRings_116 (r_68 : Int32 → Mem → Option (Unit × Mem)) (x1 : Int32) (x2 : Int32) (x3 : Int32) (M : Mem) : Option (Unit × Mem) :=
  r_68 (x3 + 1) M
def f_X10_allRings_81_b (r_68 : Int32 → Mem → Option (Unit × Mem)) (r_81 : Int32 → Mem → Option (Unit × Mem)) (x1 : Int32) (x2 : Int32) (x3 : Int32) (x4 : Int32) (M : Mem) : Option (Unit × Mem) :=
  rd 72 (M.1 113) (((4 : Int32) * x1) + (3 : Int32)) fun v1 =>
  if v1 ≤ x4 then
    f_X10_allRings_116 r_68 x1 x2 x3 M
  else
    if x2 = x3 then
      f_X10_allRings_116 r_68 x1 x2 x3 M
    else
      cl (f_X10_ring x1 x2 x3 x4 M) fun _ M1 =>
      r_81 (x4 + 1) M1
def f_X10_allRings_81 (r_68 : Int32 → Mem → Option (Unit × Mem)) (x1 : Int32) (x2 : Int32) (x3 : Int32) : Nat → Int32 → Mem → Option (Unit × Mem)
  | 0 => fun _ _ => none
  | n + 1 => f_X10_allRings_81_b r_68 (f_X10_allRings_81 r_68 x1 x2 x3 n) x1 x2 x3
def f_X10_allRings_68_b (r_54 : Int32 → Mem → Option (Unit × Mem)) (r_68 : Int32 → Mem → Option (Unit × Mem)) (x1 : Int32) (x2 : Int32) (x3 : Int32) (M : Mem) : Option (Unit × Mem) :=
  if (M.1 109 0) ≤ x3 then
    r_54 (x2 + 1) M
  else
    f_X10_allRings_81 r_68 x1 x2 x3 FU (0 : Int32) M
def f_X10_allRings_68 (r_54 : Int32 → Mem → Option (Unit × Mem)) (x1 : Int32) (x2 : Int32) : Nat → Int32 → Mem → Option (Unit × Mem)
  | 0 => fun _ _ => none
  | n + 1 => f_X10_allRings_68_b r_54 (f_X10_allRings_68 r_54 x1 x2 n) x1 x2
def f_X10_allRings_54_b (r_40 : Int32 → Mem → Option (Unit × Mem)) (r_54 : Int32 → Mem → Option (Unit × Mem)) (x1 : Int32) (x2 : Int32) (M : Mem) : Option (Unit × Mem) :=
  if (M.1 109 0) ≤ x2 then
    r_40 (x1 + 1) M
  else
    f_X10_allRings_68 r_54 x1 x2 FU (x1 + (1 : Int32)) M
def f_X10_allRings_54 (r_40 : Int32 → Mem → Option (Unit × Mem)) (x1 : Int32) : Nat → Int32 → Mem → Option (Unit × Mem)
  | 0 => fun _ _ => none
  | n + 1 => f_X10_allRings_54_b r_40 (f_X10_allRings_54 r_40 x1 n) x1
def f_X10_allRings_40_b (r_40 : Int32 → Mem → Option (Unit × Mem)) (x1 : Int32) (M : Mem) : Option (Unit × Mem) :=
  if (M.1 109 0) ≤ x1 then
    some ((), M)
  else
    f_X10_allRings_54 r_40 x1 FU (x1 + (1 : Int32)) M
def f_X10_allRings_40 : Nat → Int32 → Mem → Option (Unit × Mem)
  | 0 => fun _ _ => none
  | n + 1 => f_X10_allRings_40_b (f_X10_allRings_40 n)
def f_X10_allRings_12_b (r_12 : Int32 → Mem → Option (Unit × Mem)) (x1 : Int32) (M : Mem) : Option (Unit × Mem) :=
  if (24 : Int32) ≤ x1 then
    f_X10_allRings_40 FU (0 : Int32) M
  else
    ck 24 x1 <| stm (mset M 127 x1.toNatClampNeg (0 : Int32)) fun M1 =>
    ck 24 x1 <| stm (mset M1 128 x1.toNatClampNeg (0 : Int32)) fun M2 =>
    r_12 (x1 + 1) M2
def f_X10_allRings_12 : Nat → Int32 → Mem → Option (Unit × Mem)
  | 0 => fun _ _ => none
  | n + 1 => f_X10_allRings_12_b (f_X10_allRings_12 n)
def f_X10_allRings (M : Mem) : Option (Unit × Mem) :=
  stm (mset M 108 24 (0 : Int32)) fun M1 =>
  stm (mset M1 108 25 (0 : Int32)) fun M2 =>
  f_X10_allRings_12 FU (0 : Int32) M2
def f_X10_rings (x1 : Int32) (M : Mem) : Option (Int32 × Mem) :=
  cp (f_X10_between x1 (0 : Int32) (1 : Int32) M) fun v1 =>
  if v1 = (0 : Int32) then
    cl (f_X10_bad (-2 : Int32) M) fun v2 M2 =>
    some (v2, M2)
  else
    cl (f_X10_allRings M) fun _ M1 =>
    if x1 = (0 : Int32) then
      some ((M1.1 108 24), M1)
    else
      some ((M1.1 108 25), M1)
def f_X10_atFault (x1 : Int32) (M : Mem) : Option (Int32 × Mem) :=
  cp (f_X10_between x1 (0 : Int32) ((M.1 112 0) - (1 : Int32)) M) fun v1 =>
  if v1 = (0 : Int32) then
    cl (f_X10_bad (-2 : Int32) M) fun v6 M4 =>
    some (v6, M4)
  else
    cl (f_X10_allRings M) fun _ M1 =>
    rd 24 (M1.1 127) x1 fun v2 =>
    if v2 = (0 : Int32) then
      cl (f_X10_no (-3 : Int32) M1) fun v5 M3 =>
      some (v5, M3)
    else
      rd 24 (M1.1 128) x1 fun v3 =>
      rd 24 (M1.1 127) x1 fun v4 =>
      cl (f_X10_fraction v3 v4 M1) fun _ M2 =>
      some ((1 : Int32), M2)
def f_X10_worst_70 (r_8 : Int32 → Int32 → Mem → Option (Int32 × Mem)) (x2 : Int32) (t0 : Int32) (M : Mem) : Option (Int32 × Mem) :=
  r_8 t0 (x2 + 1) M
def f_X10_worst_69 (r_8 : Int32 → Int32 → Mem → Option (Int32 × Mem)) (x1 : Int32) (x2 : Int32) (M : Mem) : Option (Int32 × Mem) :=
  f_X10_worst_70 r_8 x2 x1 M
def f_X10_worst_65 (r_8 : Int32 → Int32 → Mem → Option (Int32 × Mem)) (x2 : Int32) (M : Mem) : Option (Int32 × Mem) :=
  f_X10_worst_70 r_8 x2 x2 M
def f_X10_worst_8_b (r_8 : Int32 → Int32 → Mem → Option (Int32 × Mem)) (x1 : Int32) (x2 : Int32) (M : Mem) : Option (Int32 × Mem) :=
  if (M.1 112 0) ≤ x2 then
    some (x1, M)
  else
    rd 24 (M.1 127) x2 fun v1 =>
    if v1 ≤ (0 : Int32) then
      f_X10_worst_69 r_8 x1 x2 M
    else
      if x1 < (0 : Int32) then
        f_X10_worst_65 r_8 x2 M
      else
        rd 24 (M.1 128) x2 fun v2 =>
        rd 24 (M.1 127) x1 fun v3 =>
        rd 24 (M.1 128) x1 fun v4 =>
        rd 24 (M.1 127) x2 fun v5 =>
        if (lg_cmp (v2.toInt64 * v3.toInt64) (v4.toInt64 * v5.toInt64)) ≤ (0 : Int32) then
          f_X10_worst_69 r_8 x1 x2 M
        else
          f_X10_worst_65 r_8 x2 M
def f_X10_worst_8 : Nat → Int32 → Int32 → Mem → Option (Int32 × Mem)
  | 0 => fun _ _ _ => none
  | n + 1 => f_X10_worst_8_b (f_X10_worst_8 n)
def f_X10_worst (M : Mem) : Option (Int32 × Mem) :=
  cl (f_X10_allRings M) fun _ M1 =>
  f_X10_worst_8 FU (-1 : Int32) (0 : Int32) M1
def f_X10_joins_157 (r_27 : Int32 → Mem → Option (Unit × Mem)) (x1 : Int32) (M : Mem) : Option (Unit × Mem) :=
  r_27 (x1 + 1) M
def f_X10_joins_150 (r_98 : Int32 → Mem → Option (Unit × Mem)) (x1 : Int32) (x2 : Int32) (x3 : Int32) (x4 : Int32) (t2 : Int32) (t1 : Int32) (M : Mem) : Option (Unit × Mem) :=
  ck 48 t1 <| stm (mset M 129 t1.toNatClampNeg t2) fun M1 =>
  r_98 (x4 + 1) M1
def f_X10_joins_98_b (r_27 : Int32 → Mem → Option (Unit × Mem)) (r_98 : Int32 → Mem → Option (Unit × Mem)) (x1 : Int32) (x2 : Int32) (x3 : Int32) (x4 : Int32) (M : Mem) : Option (Unit × Mem) :=
  if (48 : Int32) ≤ x4 then
    f_X10_joins_157 r_27 x1 M
  else
    rd 24 (M.1 128) x1 fun v1 =>
    rd 24 (M.1 127) x1 fun v2 =>
    if v2 < ((2 : Int32) * v1) then
      f_X10_joins_157 r_27 x1 M
    else
      rd 48 (M.1 129) x4 fun v3 =>
      if v3 = x2 then
        f_X10_joins_150 r_98 x1 x2 x3 x4 x3 x4 M
      else
        rd 48 (M.1 129) x4 fun v4 =>
        f_X10_joins_150 r_98 x1 x2 x3 x4 v4 x4 M
def f_X10_joins_98 (r_27 : Int32 → Mem → Option (Unit × Mem)) (x1 : Int32) (x2 : Int32) (x3 : Int32) : Nat → Int32 → Mem → Option (Unit × Mem)
  | 0 => fun _ _ => none
  | n + 1 => f_X10_joins_98_b r_27 (f_X10_joins_98 r_27 x1 x2 x3 n) x1 x2 x3
def f_X10_joins_27_b (r_27 : Int32 → Mem → Option (Unit × Mem)) (x1 : Int32) (M : Mem) : Option (Unit × Mem) :=
  if (M.1 112 0) ≤ x1 then
    some ((), M)
  else
    rd 288 (M.1 116) ((4 : Int32) * x1) fun v1 =>
    rd 288 (M.1 116) (((4 : Int32) * x1) + (1 : Int32)) fun v2 =>
    rd 48 (M.1 129) (((8 : Int32) * v1) + v2) fun v3 =>
    rd 288 (M.1 116) (((4 : Int32) * x1) + (2 : Int32)) fun v4 =>
    rd 288 (M.1 116) (((4 : Int32) * x1) + (3 : Int32)) fun v5 =>
    rd 48 (M.1 129) (((8 : Int32) * v4) + v5) fun v6 =>
    f_X10_joins_98 r_27 x1 v3 v6 FU (0 : Int32) M
def f_X10_joins_27 : Nat → Int32 → Mem → Option (Unit × Mem)
  | 0 => fun _ _ => none
  | n + 1 => f_X10_joins_27_b (f_X10_joins_27 n)
def f_X10_joins_6_b (r_6 : Int32 → Mem → Option (Unit × Mem)) (x1 : Int32) (M : Mem) : Option (Unit × Mem) :=
  if (48 : Int32) ≤ x1 then
    f_X10_joins_27 FU (0 : Int32) M
  else
    ck 48 x1 <| stm (mset M 129 x1.toNatClampNeg x1) fun M1 =>
    r_6 (x1 + 1) M1
def f_X10_joins_6 : Nat → Int32 → Mem → Option (Unit × Mem)
  | 0 => fun _ _ => none
  | n + 1 => f_X10_joins_6_b (f_X10_joins_6 n)
def f_X10_joins (M : Mem) : Option (Unit × Mem) :=
  cl (f_X10_allRings M) fun _ M1 =>
  f_X10_joins_6 FU (0 : Int32) M1
def f_X10_sets_95 (r_8 : Int32 → Int32 → Mem → Option (Int32 × Mem)) (x2 : Int32) (t1 : Int32) (t0 : Int32) (M : Mem) : Option (Int32 × Mem) :=
  r_8 (t0 + t1) (x2 + 1) M
def f_X10_sets_78 (r_30 : Int32 → Int32 → Mem → Option (Int32 × Mem)) (x1 : Int32) (x2 : Int32) (x4 : Int32) (t0 : Int32) (M : Mem) : Option (Int32 × Mem) :=
  r_30 t0 (x4 + 1) M
def f_X10_sets_77 (r_30 : Int32 → Int32 → Mem → Option (Int32 × Mem)) (x1 : Int32) (x2 : Int32) (x4 : Int32) (M : Mem) : Option (Int32 × Mem) :=
  f_X10_sets_78 r_30 x1 x2 x4 (0 : Int32) M
def f_X10_sets_73 (r_30 : Int32 → Int32 → Mem → Option (Int32 × Mem)) (x1 : Int32) (x2 : Int32) (x4 : Int32) (M : Mem) : Option (Int32 × Mem) :=
  f_X10_sets_78 r_30 x1 x2 x4 (1 : Int32) M
def f_X10_sets_30_b (r_8 : Int32 → Int32 → Mem → Option (Int32 × Mem)) (r_30 : Int32 → Int32 → Mem → Option (Int32 × Mem)) (x1 : Int32) (x2 : Int32) (x3 : Int32) (x4 : Int32) (M : Mem) : Option (Int32 × Mem) :=
  if x2 ≤ x4 then
    if x3 = (0 : Int32) then
      f_X10_sets_95 r_8 x2 (0 : Int32) x1 M
    else
      f_X10_sets_95 r_8 x2 (1 : Int32) x1 M
  else
    if x3 = (0 : Int32) then
      f_X10_sets_77 r_30 x1 x2 x4 M
    else
      cp (f_X10_isWord (x4 / (8 : Int32)) (x4 % (8 : Int32)) M) fun v1 =>
      if v1 = (0 : Int32) then
        f_X10_sets_73 r_30 x1 x2 x4 M
      else
        rd 48 (M.1 129) x4 fun v2 =>
        rd 48 (M.1 129) x2 fun v3 =>
        if v2 = v3 then
          f_X10_sets_77 r_30 x1 x2 x4 M
        else
          f_X10_sets_73 r_30 x1 x2 x4 M
def f_X10_sets_30 (r_8 : Int32 → Int32 → Mem → Option (Int32 × Mem)) (x1 : Int32) (x2 : Int32) : Nat → Int32 → Int32 → Mem → Option (Int32 × Mem)
  | 0 => fun _ _ _ => none
  | n + 1 => f_X10_sets_30_b r_8 (f_X10_sets_30 r_8 x1 x2 n) x1 x2
def f_X10_sets_8_b (r_8 : Int32 → Int32 → Mem → Option (Int32 × Mem)) (x1 : Int32) (x2 : Int32) (M : Mem) : Option (Int32 × Mem) :=
  if (48 : Int32) ≤ x2 then
    some (x1, M)
  else
    cp (f_X10_isWord (x2 / (8 : Int32)) (x2 % (8 : Int32)) M) fun v1 =>
    f_X10_sets_30 r_8 x1 x2 FU v1 (0 : Int32) M
def f_X10_sets_8 : Nat → Int32 → Int32 → Mem → Option (Int32 × Mem)
  | 0 => fun _ _ _ => none
  | n + 1 => f_X10_sets_8_b (f_X10_sets_8 n)
def f_X10_sets (M : Mem) : Option (Int32 × Mem) :=
  cl (f_X10_joins M) fun _ M1 =>
  f_X10_sets_8 FU (0 : Int32) (0 : Int32) M1
def f_X10_alike_19 (M : Mem) : Option (Int32 × Mem) :=
  cl (f_X10_bad (-2 : Int32) M) fun v1 M1 =>
  some (v1, M1)
def f_X10_alike (x1 : Int32) (x2 : Int32) (x3 : Int32) (x4 : Int32) (M : Mem) : Option (Int32 × Mem) :=
  cp (f_X10_isWord x1 x2 M) fun v1 =>
  if v1 = (0 : Int32) then
    f_X10_alike_19 M
  else
    cp (f_X10_isWord x3 x4 M) fun v2 =>
    if v2 = (0 : Int32) then
      f_X10_alike_19 M
    else
      cl (f_X10_joins M) fun _ M1 =>
      rd 48 (M1.1 129) (((8 : Int32) * x1) + x2) fun v3 =>
      rd 48 (M1.1 129) (((8 : Int32) * x3) + x4) fun v4 =>
      if v3 = v4 then
        some ((1 : Int32), M1)
      else
        some ((0 : Int32), M1)
def f_X10_part (x1 : Int32) (M : Mem) : Option (Int32 × Mem) :=
  if x1 = (0 : Int32) then
    some ((M.1 108 11), M)
  else
    if x1 = (1 : Int32) then
      some ((M.1 108 12), M)
    else
      cl (f_X10_bad (-2 : Int32) M) fun v1 M1 =>
      some (v1, M1)
def f_X10_copies_221 (r_50 : Int32 → Mem → Option (Unit × Mem)) (x1 : Int32) (x2 : Int32) (x3 : Int32) (M : Mem) : Option (Unit × Mem) :=
  r_50 (x3 + 1) M
def f_X10_copies_193 (r_50 : Int32 → Mem → Option (Unit × Mem)) (x1 : Int32) (x2 : Int32) (x3 : Int32) (M : Mem) : Option (Unit × Mem) :=
  if (12 : Int32) ≤ x3 then
    f_X10_copies_221 r_50 x1 x2 x3 M
  else
    rd 36 (M.1 118) (((12 : Int32) * x1) + x3) fun v1 =>
    ck 36 (((12 : Int32) * x2) + x3) <| stm (mset M 118 (((12 : Int32) * x2) + x3).toNatClampNeg v1) fun M1 =>
    f_X10_copies_221 r_50 x1 x2 x3 M1
def f_X10_copies_165 (r_50 : Int32 → Mem → Option (Unit × Mem)) (x1 : Int32) (x2 : Int32) (x3 : Int32) (M : Mem) : Option (Unit × Mem) :=
  if (16 : Int32) ≤ x3 then
    f_X10_copies_193 r_50 x1 x2 x3 M
  else
    rd 48 (M.1 117) (((16 : Int32) * x1) + x3) fun v1 =>
    ck 48 (((16 : Int32) * x2) + x3) <| stm (mset M 117 (((16 : Int32) * x2) + x3).toNatClampNeg v1) fun M1 =>
    f_X10_copies_193 r_50 x1 x2 x3 M1
def f_X10_copies_137 (r_50 : Int32 → Mem → Option (Unit × Mem)) (x1 : Int32) (x2 : Int32) (x3 : Int32) (M : Mem) : Option (Unit × Mem) :=
  if (96 : Int32) ≤ x3 then
    f_X10_copies_165 r_50 x1 x2 x3 M
  else
    rd 288 (M.1 116) (((96 : Int32) * x1) + x3) fun v1 =>
    ck 288 (((96 : Int32) * x2) + x3) <| stm (mset M 116 (((96 : Int32) * x2) + x3).toNatClampNeg v1) fun M1 =>
    f_X10_copies_165 r_50 x1 x2 x3 M1
def f_X10_copies_109 (r_50 : Int32 → Mem → Option (Unit × Mem)) (x1 : Int32) (x2 : Int32) (x3 : Int32) (M : Mem) : Option (Unit × Mem) :=
  if (60 : Int32) ≤ x3 then
    f_X10_copies_137 r_50 x1 x2 x3 M
  else
    rd 180 (M.1 115) (((60 : Int32) * x1) + x3) fun v1 =>
    ck 180 (((60 : Int32) * x2) + x3) <| stm (mset M 115 (((60 : Int32) * x2) + x3).toNatClampNeg v1) fun M1 =>
    f_X10_copies_137 r_50 x1 x2 x3 M1
def f_X10_copies_50_b (r_50 : Int32 → Mem → Option (Unit × Mem)) (x1 : Int32) (x2 : Int32) (x3 : Int32) (M : Mem) : Option (Unit × Mem) :=
  if (144 : Int32) ≤ x3 then
    some ((), M)
  else
    rd 432 (M.1 114) (((144 : Int32) * x1) + x3) fun v1 =>
    ck 432 (((144 : Int32) * x2) + x3) <| stm (mset M 114 (((144 : Int32) * x2) + x3).toNatClampNeg v1) fun M1 =>
    if (24 : Int32) ≤ x3 then
      f_X10_copies_109 r_50 x1 x2 x3 M1
    else
      rd 72 (M1.1 113) (((24 : Int32) * x1) + x3) fun v2 =>
      ck 72 (((24 : Int32) * x2) + x3) <| stm (mset M1 113 (((24 : Int32) * x2) + x3).toNatClampNeg v2) fun M2 =>
      f_X10_copies_109 r_50 x1 x2 x3 M2
def f_X10_copies_50 (x1 : Int32) (x2 : Int32) : Nat → Int32 → Mem → Option (Unit × Mem)
  | 0 => fun _ _ => none
  | n + 1 => f_X10_copies_50_b (f_X10_copies_50 x1 x2 n) x1 x2
def f_X10_copies (x1 : Int32) (x2 : Int32) (M : Mem) : Option (Unit × Mem) :=
  rd 3 (M.1 109) x1 fun v1 =>
  ck 3 x2 <| stm (mset M 109 x2.toNatClampNeg v1) fun M1 =>
  rd 3 (M1.1 110) x1 fun v2 =>
  ck 3 x2 <| stm (mset M1 110 x2.toNatClampNeg v2) fun M2 =>
  rd 3 (M2.1 111) x1 fun v3 =>
  ck 3 x2 <| stm (mset M2 111 x2.toNatClampNeg v3) fun M3 =>
  rd 3 (M3.1 112) x1 fun v4 =>
  ck 3 x2 <| stm (mset M3 112 x2.toNatClampNeg v4) fun M4 =>
  f_X10_copies_50 x1 x2 FU (0 : Int32) M4
def f_X10_image (x1 : Int32) (M : Mem) : Option (Int32 × Mem) :=
  cp (f_X10_between x1 (0 : Int32) (1 : Int32) M) fun v1 =>
  if v1 = (0 : Int32) then
    cl (f_X10_bad (-2 : Int32) M) fun v2 M3 =>
    some (v2, M3)
  else
    cl (f_X10_copies (0 : Int32) (x1 + (1 : Int32)) M) fun _ M1 =>
    ck 3 x1 <| stm (mset M1 119 x1.toNatClampNeg (1 : Int32)) fun M2 =>
    some ((1 : Int32), M2)
def f_X10_from (x1 : Int32) (M : Mem) : Option (Int32 × Mem) :=
  cp (f_X10_between x1 (0 : Int32) (1 : Int32) M) fun v1 =>
  if v1 = (0 : Int32) then
    cl (f_X10_bad (-2 : Int32) M) fun v4 M3 =>
    some (v4, M3)
  else
    rd 3 (M.1 119) x1 fun v2 =>
    if v2 = (0 : Int32) then
      cl (f_X10_no (-3 : Int32) M) fun v3 M2 =>
      some (v3, M2)
    else
      cl (f_X10_copies (x1 + (1 : Int32)) (0 : Int32) M) fun _ M1 =>
      some ((1 : Int32), M1)
def f_X10_status (x1 : Int32) (M : Mem) : Option (Int32 × Mem) :=
  cp (f_X10_between x1 (0 : Int32) (2 : Int32) M) fun v1 =>
  if v1 = (0 : Int32) then
    cl (f_X10_bad (-1 : Int32) M) fun v2 M1 =>
    some (v2, M1)
  else
    rd 3 (M.1 120) x1 fun v3 =>
    some (v3, M)
def f_X10_counted (x1 : Int32) (M : Mem) : Option Int32 :=
  if x1 = (0 : Int32) then
    some (M.1 109 0)
  else
    if x1 = (1 : Int32) then
      some (M.1 110 0)
    else
      if x1 = (2 : Int32) then
        some (M.1 111 0)
      else
        if x1 = (3 : Int32) then
          some (M.1 112 0)
        else
          cp (f_X10_isTongue (x1 - (4 : Int32)) M) fun v1 =>
          if v1 = (0 : Int32) then
            some (0 : Int32)
          else
            rd 72 (M.1 113) (((4 : Int32) * (x1 - (4 : Int32))) + (3 : Int32)) fun v2 =>
            some v2
def f_X10_count (x1 : Int32) (M : Mem) : Option (Int32 × Mem) :=
  cp (f_X10_between x1 (0 : Int32) (9 : Int32) M) fun v1 =>
  if v1 = (0 : Int32) then
    cl (f_X10_bad (-2 : Int32) M) fun v2 M1 =>
    some (v2, M1)
  else
    cp (f_X10_counted x1 M) fun v3 =>
    some (v3, M)
def f_X10_sums (x1 : Int64) (M : Mem) : Option (Unit × Mem) :=
  stm (lset M (((31 : Int64) * M.2) + x1)) fun M1 =>
  some ((), M1)
def f_X10_digest_252_b (r_252 : Int32 → Mem → Option (Int64 × Mem)) (x1 : Int32) (M : Mem) : Option (Int64 × Mem) :=
  if ((4 : Int32) * (M.1 112 0)) ≤ x1 then
    cl (f_X10_sums ((M.1 108 11).toInt64) M) fun _ M1 =>
    cl (f_X10_sums ((M1.1 108 12).toInt64) M1) fun _ M2 =>
    some (M2.2, M2)
  else
    rd 288 (M.1 116) x1 fun v1 =>
    cl (f_X10_sums v1.toInt64 M) fun _ M3 =>
    r_252 (x1 + 1) M3
def f_X10_digest_252 : Nat → Int32 → Mem → Option (Int64 × Mem)
  | 0 => fun _ _ => none
  | n + 1 => f_X10_digest_252_b (f_X10_digest_252 n)
def f_X10_digest_227_b (r_227 : Int32 → Mem → Option (Int64 × Mem)) (x1 : Int32) (M : Mem) : Option (Int64 × Mem) :=
  if (10 : Int32) ≤ x1 then
    f_X10_digest_252 FU (0 : Int32) M
  else
    rd 36 (M.1 118) x1 fun v1 =>
    cl (f_X10_sums v1.toInt64 M) fun _ M1 =>
    r_227 (x1 + 1) M1
def f_X10_digest_227 : Nat → Int32 → Mem → Option (Int64 × Mem)
  | 0 => fun _ _ => none
  | n + 1 => f_X10_digest_227_b (f_X10_digest_227 n)
def f_X10_digest_198_b (r_198 : Int32 → Mem → Option (Int64 × Mem)) (x1 : Int32) (M : Mem) : Option (Int64 × Mem) :=
  if (M.1 111 0) ≤ x1 then
    f_X10_digest_227 FU (0 : Int32) M
  else
    rd 180 (M.1 115) x1 fun v1 =>
    cl (f_X10_sums v1.toInt64 M) fun _ M1 =>
    r_198 (x1 + 1) M1
def f_X10_digest_198 : Nat → Int32 → Mem → Option (Int64 × Mem)
  | 0 => fun _ _ => none
  | n + 1 => f_X10_digest_198_b (f_X10_digest_198 n)
def f_X10_digest_173_b (r_173 : Int32 → Mem → Option (Int64 × Mem)) (x1 : Int32) (M : Mem) : Option (Int64 × Mem) :=
  if (16 : Int32) ≤ x1 then
    f_X10_digest_198 FU (0 : Int32) M
  else
    rd 48 (M.1 117) x1 fun v1 =>
    cl (f_X10_sums v1.toInt64 M) fun _ M1 =>
    r_173 (x1 + 1) M1
def f_X10_digest_173 : Nat → Int32 → Mem → Option (Int64 × Mem)
  | 0 => fun _ _ => none
  | n + 1 => f_X10_digest_173_b (f_X10_digest_173 n)
def f_X10_digest_143_b (r_143 : Int32 → Mem → Option (Int64 × Mem)) (x1 : Int32) (M : Mem) : Option (Int64 × Mem) :=
  if (M.1 110 0) ≤ x1 then
    f_X10_digest_173 FU (12 : Int32) M
  else
    rd 48 (M.1 117) x1 fun v1 =>
    cl (f_X10_sums v1.toInt64 M) fun _ M1 =>
    r_143 (x1 + 1) M1
def f_X10_digest_143 : Nat → Int32 → Mem → Option (Int64 × Mem)
  | 0 => fun _ _ => none
  | n + 1 => f_X10_digest_143_b (f_X10_digest_143 n)
def f_X10_digest_73_b (r_33 : Int32 → Mem → Option (Int64 × Mem)) (r_73 : Int32 → Mem → Option (Int64 × Mem)) (x1 : Int32) (x2 : Int32) (M : Mem) : Option (Int64 × Mem) :=
  rd 72 (M.1 113) (((4 : Int32) * x1) + (3 : Int32)) fun v1 =>
  if ((3 : Int32) * v1) ≤ x2 then
    r_33 (x1 + 1) M
  else
    rd 432 (M.1 114) (((24 : Int32) * x1) + x2) fun v2 =>
    cl (f_X10_sums v2.toInt64 M) fun _ M1 =>
    r_73 (x2 + 1) M1
def f_X10_digest_73 (r_33 : Int32 → Mem → Option (Int64 × Mem)) (x1 : Int32) : Nat → Int32 → Mem → Option (Int64 × Mem)
  | 0 => fun _ _ => none
  | n + 1 => f_X10_digest_73_b r_33 (f_X10_digest_73 r_33 x1 n) x1
def f_X10_digest_45_b (r_33 : Int32 → Mem → Option (Int64 × Mem)) (r_45 : Int32 → Mem → Option (Int64 × Mem)) (x1 : Int32) (x2 : Int32) (M : Mem) : Option (Int64 × Mem) :=
  if (3 : Int32) ≤ x2 then
    f_X10_digest_73 r_33 x1 FU (0 : Int32) M
  else
    rd 72 (M.1 113) (((4 : Int32) * x1) + x2) fun v1 =>
    cl (f_X10_sums v1.toInt64 M) fun _ M1 =>
    r_45 (x2 + 1) M1
def f_X10_digest_45 (r_33 : Int32 → Mem → Option (Int64 × Mem)) (x1 : Int32) : Nat → Int32 → Mem → Option (Int64 × Mem)
  | 0 => fun _ _ => none
  | n + 1 => f_X10_digest_45_b r_33 (f_X10_digest_45 r_33 x1 n) x1
def f_X10_digest_33_b (r_33 : Int32 → Mem → Option (Int64 × Mem)) (x1 : Int32) (M : Mem) : Option (Int64 × Mem) :=
  if (M.1 109 0) ≤ x1 then
    cl (f_X10_sums ((M.1 118 10).toInt64) M) fun _ M1 =>
    cl (f_X10_sums ((M1.1 118 11).toInt64) M1) fun _ M2 =>
    f_X10_digest_143 FU (0 : Int32) M2
  else
    f_X10_digest_45 r_33 x1 FU (0 : Int32) M
def f_X10_digest_33 : Nat → Int32 → Mem → Option (Int64 × Mem)
  | 0 => fun _ _ => none
  | n + 1 => f_X10_digest_33_b (f_X10_digest_33 n)
def f_X10_digest_9_b (r_9 : Int32 → Mem → Option (Int64 × Mem)) (x1 : Int32) (M : Mem) : Option (Int64 × Mem) :=
  if (10 : Int32) ≤ x1 then
    f_X10_digest_33 FU (0 : Int32) M
  else
    cp (f_X10_counted x1 M) fun v1 =>
    cl (f_X10_sums v1.toInt64 M) fun _ M1 =>
    r_9 (x1 + 1) M1
def f_X10_digest_9 : Nat → Int32 → Mem → Option (Int64 × Mem)
  | 0 => fun _ _ => none
  | n + 1 => f_X10_digest_9_b (f_X10_digest_9 n)
def f_X10_digest (M : Mem) : Option (Int64 × Mem) :=
  stm (lset M (599 : Int64)) fun M1 =>
  f_X10_digest_9 FU (0 : Int32) M1
