def zf_JA_fill_5 : Nat → Int32 → Int32 → Int32 → Nat → (Nat → Int32) → Option ((Nat → Int32))
  | 0, _, _, _, _, _ => none
  | n + 1, x1, x2, x3, n_p0, p0 =>
    if x3 ≤ x2 then
      some (p0)
    else
      z_gd x2 n_p0 <|
      (zf_JA_fill_5 n) x1 (x2 + (1 : Int32)) x3 n_p0 (upd p0 x2.toNatClampNeg x1)
def zf_JA_fill (x1 : Int32) (n_p0 : Nat) (p0 : Nat → Int32) : Option ((Nat → Int32)) :=
  zf_JA_fill_5 z_FU x1 (0 : Int32) (Int32.ofNat n_p0) n_p0 p0
def zf_JL_bitCount (x0 : Int64) : Option (Int32) :=
  z_lt (x0 - ((x0.toUInt64 >>> ((1 : Int32).toInt64.toUInt64 &&& Int64.toUInt64 63)).toInt64 &&& (6148914691236517205 : Int64))) fun y1 =>
  z_lt ((y1 &&& (3689348814741910323 : Int64)) + ((y1.toUInt64 >>> ((2 : Int32).toInt64.toUInt64 &&& Int64.toUInt64 63)).toInt64 &&& (3689348814741910323 : Int64))) fun y2 =>
  z_lt ((y2 + (y2.toUInt64 >>> ((4 : Int32).toInt64.toUInt64 &&& Int64.toUInt64 63)).toInt64) &&& (1085102592571150095 : Int64)) fun y3 =>
  z_lt (y3 + (y3.toUInt64 >>> ((8 : Int32).toInt64.toUInt64 &&& Int64.toUInt64 63)).toInt64) fun y4 =>
  z_lt (y4 + (y4.toUInt64 >>> ((16 : Int32).toInt64.toUInt64 &&& Int64.toUInt64 63)).toInt64) fun y5 =>
  z_lt (y5 + (y5.toUInt64 >>> ((32 : Int32).toInt64.toUInt64 &&& Int64.toUInt64 63)).toInt64) fun y6 =>
  some ((y6.toInt32 &&& (127 : Int32)))
def zf_S_byteAt (x0 : Int64) (x2 : Int32) : Option (Int32) :=
  z_gc (((x0.toUInt64 >>> (((8 : Int32) * x2).toInt64.toUInt64 &&& Int64.toUInt64 63)).toInt64 &&& (255 : Int64)).toInt32.toUInt32 % 65536).toInt32 <| some ((((x0.toUInt64 >>> (((8 : Int32) * x2).toInt64.toUInt64 &&& Int64.toUInt64 63)).toInt64 &&& (255 : Int64)).toInt32.toUInt32 % 65536).toInt32)
def zf_S_countCharacters_4 : Nat → Int64 → Int32 → Int32 → Option (Int32)
  | 0, _, _, _ => none
  | n + 1, x0, x2, x3 =>
    if (8 : Int32) ≤ x3 then
      some (x2)
    else
      z_b1 (zf_S_byteAt x0 x3) fun r1 =>
      if r1 = 0 then
        (zf_S_countCharacters_4 n) x0 x2 (x3 + (1 : Int32))
      else
        if r1 < (32 : Int32) then
          some ((-1 : Int32))
        else
          if r1 ≤ (126 : Int32) then
            (zf_S_countCharacters_4 n) x0 (x2 + (1 : Int32)) (x3 + (1 : Int32))
          else
            some ((-1 : Int32))
def zf_S_countCharacters (x0 : Int64) : Option (Int32) :=
  zf_S_countCharacters_4 z_FU x0 (0 : Int32) (0 : Int32)
def zf_S_append_27 : Nat → Int64 → Int32 → (Nat → Int32) → Int32 → Option (Int32 × (Nat → Int32) × Int32)
  | 0, _, _, _, _ => none
  | n + 1, x1, x4, S_characters, S_length =>
    if (8 : Int32) ≤ x4 then
      z_gb (1 : Int32) <| some ((1 : Int32), S_characters, S_length)
    else
      z_b1 (zf_S_byteAt x1 x4) fun r1 =>
      if r1 = 0 then
        (zf_S_append_27 n) x1 (x4 + (1 : Int32)) S_characters S_length
      else
        z_gd S_length 240 <|
        (zf_S_append_27 n) x1 (x4 + (1 : Int32)) (upd S_characters S_length.toNatClampNeg (vp_nar .char r1)) (S_length + (1 : Int32))
def zf_S_append (x1 : Int64) (S_characters : Nat → Int32) (S_length : Int32) : Option (Int32 × (Nat → Int32) × Int32) :=
  z_b1 (zf_S_countCharacters x1) fun r1 =>
  if r1 = (-1 : Int32) then
    z_gb (0 : Int32) <| some ((0 : Int32), S_characters, S_length)
  else
    if (S_length + r1) ≤ (240 : Int32) then
      zf_S_append_27 z_FU x1 (0 : Int32) S_characters S_length
    else
      z_gb (0 : Int32) <| some ((0 : Int32), S_characters, S_length)
def zf_N_write (x1 : Int64) (S_characters : Nat → Int32) (S_length : Int32) : Option (Int32 × (Nat → Int32) × Int32) :=
  z_b3 (zf_S_append x1 S_characters S_length) fun r1 S_characters_1 S_length_1 =>
  z_gb r1 <| some (r1, S_characters_1, S_length_1)
def zf_S_clear (S_length : Int32) : Option (Int32) :=
  some ((0 : Int32))
def zf_N_wipe (S_length : Int32) : Option (Int32) :=
  z_b1 (zf_S_clear S_length) fun S_length_1 =>
  some (S_length_1)
def zf_S_ahead_38 (S_characters : Nat → Int32) (S_length : Int32) (S_at : Int32) : Option (Int32 × Int32) :=
  if S_length ≤ S_at then
    z_gc (0 : Int32) <| some ((0 : Int32), S_at)
  else
    z_gd S_at 240 <|
    z_gc (S_characters S_at.toNatClampNeg) <| some ((S_characters S_at.toNatClampNeg), S_at)
def zf_S_ahead_0 : Nat → (Nat → Int32) → Int32 → Int32 → Option (Int32 × Int32)
  | 0, _, _, _ => none
  | n + 1, S_characters, S_length, S_at =>
    if S_length ≤ S_at then
      zf_S_ahead_38 S_characters S_length S_at
    else
      z_gd S_at 240 <|
      if (S_characters S_at.toNatClampNeg) = (32 : Int32) then
        (zf_S_ahead_0 n) S_characters S_length (S_at + (1 : Int32))
      else
        zf_S_ahead_38 S_characters S_length S_at
def zf_S_ahead (S_characters : Nat → Int32) (S_length : Int32) (S_at : Int32) : Option (Int32 × Int32) :=
  zf_S_ahead_0 z_FU S_characters S_length S_at
def zf_S_isName (x0 : Int32) : Option (Int32) :=
  if x0 < (97 : Int32) then
    z_gb (0 : Int32) <| some ((0 : Int32))
  else
    if (122 : Int32) < x0 then
      z_gb (0 : Int32) <| some ((0 : Int32))
    else
      z_gb (1 : Int32) <| some ((1 : Int32))
def zf_N_indexOf_2 : Nat → Int32 → Int32 → Int32 → Nat → (Nat → Int32) → Option (Int32)
  | 0, _, _, _, _, _ => none
  | n + 1, x0, x2, x3, n_p1, p1 =>
    if x2 ≤ x3 then
      some ((-1 : Int32))
    else
      z_gd x3 n_p1 <|
      if (p1 x3.toNatClampNeg) = x0 then
        some (x3)
      else
        (zf_N_indexOf_2 n) x0 x2 (x3 + (1 : Int32)) n_p1 p1
def zf_N_indexOf (x0 : Int32) (x2 : Int32) (n_p1 : Nat) (p1 : Nat → Int32) : Option (Int32) :=
  zf_N_indexOf_2 z_FU x0 x2 (0 : Int32) n_p1 p1
def zf_S_readMark (x1 : Int32) (S_characters : Nat → Int32) (S_length : Int32) (S_at : Int32) : Option (Int32 × Int32) :=
  z_b2 (zf_S_ahead S_characters S_length S_at) fun r1 S_at_1 =>
  if r1 = x1 then
    z_gb (1 : Int32) <| some ((1 : Int32), (S_at_1 + (1 : Int32)))
  else
    z_gb (0 : Int32) <| some ((0 : Int32), S_at_1)
def zf_S_emit (x1 : Int32) (S_code : Nat → Int32) (S_codeLength : Int32) : Option ((Nat → Int32) × Int32) :=
  if (240 : Int32) ≤ S_codeLength then
    some (S_code, S_codeLength)
  else
    z_gd S_codeLength 240 <|
    some ((upd S_code S_codeLength.toNatClampNeg (vp_nar .char x1)), (S_codeLength + (1 : Int32)))
def zf_S_readLeaf_51 (x1 : Int32) (S_at : Int32) (S_code : Nat → Int32) (S_codeLength : Int32) (S_firstUses : Nat → Int32) : Option (Int32 × Int32 × (Nat → Int32) × Int32 × (Nat → Int32)) :=
  z_b2 (zf_S_emit x1 S_code S_codeLength) fun S_code_1 S_codeLength_1 =>
  z_gb (1 : Int32) <| some ((1 : Int32), (S_at + (1 : Int32)), S_code_1, S_codeLength_1, S_firstUses)
def zf_S_readLeaf (x1 : Int32) (S_at : Int32) (S_code : Nat → Int32) (S_codeLength : Int32) (S_firstUses : Nat → Int32) : Option (Int32 × Int32 × (Nat → Int32) × Int32 × (Nat → Int32)) :=
  z_b1 (zf_S_isName x1) fun r1 =>
  if r1 = 0 then
    if x1 = (48 : Int32) then
      zf_S_readLeaf_51 x1 S_at S_code S_codeLength S_firstUses
    else
      if x1 = (49 : Int32) then
        zf_S_readLeaf_51 x1 S_at S_code S_codeLength S_firstUses
      else
        z_gb (0 : Int32) <| some ((0 : Int32), S_at, S_code, S_codeLength, S_firstUses)
  else
    z_gd (x1 - (97 : Int32)) 26 <|
    if (S_firstUses (x1 - (97 : Int32)).toNatClampNeg) = 0 then
      z_gd (x1 - (97 : Int32)) 26 <|
      zf_S_readLeaf_51 x1 S_at S_code S_codeLength (upd S_firstUses (x1 - (97 : Int32)).toNatClampNeg (S_at + (1 : Int32)))
    else
      zf_S_readLeaf_51 x1 S_at S_code S_codeLength S_firstUses
def zf_S_readProduct_12 (rf : Int32 → (Nat → Int32) → Int32 → Int32 → (Nat → Int32) → Int32 → (Nat → Int32) → Option (Int32 × Int32 × (Nat → Int32) × Int32 × (Nat → Int32))) : Nat → Int32 → Int32 → (Nat → Int32) → Int32 → Int32 → (Nat → Int32) → Int32 → (Nat → Int32) → Option (Int32 × Int32 × (Nat → Int32) × Int32 × (Nat → Int32))
  | 0, _, _, _, _, _, _, _, _ => none
  | n + 1, x1, x2, S_characters, S_length, S_at, S_code, S_codeLength, S_firstUses =>
    if (240 : Int32) ≤ x2 then
      z_gb (1 : Int32) <| some ((1 : Int32), S_at, S_code, S_codeLength, S_firstUses)
    else
      z_b2 (zf_S_ahead S_characters S_length S_at) fun r1 S_at_1 =>
      if r1 = (38 : Int32) then
        z_b5 (rf x1 S_characters S_length (S_at_1 + (1 : Int32)) S_code S_codeLength S_firstUses) fun r2 S_at_2 S_code_2 S_codeLength_2 S_firstUses_2 =>
        if r2 = 0 then
          z_gb (0 : Int32) <| some ((0 : Int32), S_at_2, S_code_2, S_codeLength_2, S_firstUses_2)
        else
          z_b2 (zf_S_emit (38 : Int32) S_code_2 S_codeLength_2) fun S_code_3 S_codeLength_3 =>
          (zf_S_readProduct_12 rf n) x1 (x2 + (1 : Int32)) S_characters S_length S_at_2 S_code_3 S_codeLength_3 S_firstUses_2
      else
        z_gb (1 : Int32) <| some ((1 : Int32), S_at_1, S_code, S_codeLength, S_firstUses)
def zf_S_readProduct (rf : Int32 → (Nat → Int32) → Int32 → Int32 → (Nat → Int32) → Int32 → (Nat → Int32) → Option (Int32 × Int32 × (Nat → Int32) × Int32 × (Nat → Int32))) (x1 : Int32) (S_characters : Nat → Int32) (S_length : Int32) (S_at : Int32) (S_code : Nat → Int32) (S_codeLength : Int32) (S_firstUses : Nat → Int32) : Option (Int32 × Int32 × (Nat → Int32) × Int32 × (Nat → Int32)) :=
  z_b5 (rf x1 S_characters S_length S_at S_code S_codeLength S_firstUses) fun r1 S_at_1 S_code_1 S_codeLength_1 S_firstUses_1 =>
  if r1 = 0 then
    z_gb (0 : Int32) <| some ((0 : Int32), S_at_1, S_code_1, S_codeLength_1, S_firstUses_1)
  else
    zf_S_readProduct_12 rf z_FU x1 (0 : Int32) S_characters S_length S_at_1 S_code_1 S_codeLength_1 S_firstUses_1
def zf_S_readSum_12 (rf : Int32 → (Nat → Int32) → Int32 → Int32 → (Nat → Int32) → Int32 → (Nat → Int32) → Option (Int32 × Int32 × (Nat → Int32) × Int32 × (Nat → Int32))) : Nat → Int32 → Int32 → (Nat → Int32) → Int32 → Int32 → (Nat → Int32) → Int32 → (Nat → Int32) → Option (Int32 × Int32 × (Nat → Int32) × Int32 × (Nat → Int32))
  | 0, _, _, _, _, _, _, _, _ => none
  | n + 1, x1, x2, S_characters, S_length, S_at, S_code, S_codeLength, S_firstUses =>
    if (240 : Int32) ≤ x2 then
      z_gb (1 : Int32) <| some ((1 : Int32), S_at, S_code, S_codeLength, S_firstUses)
    else
      z_b2 (zf_S_ahead S_characters S_length S_at) fun r1 S_at_1 =>
      if r1 = (124 : Int32) then
        z_b5 (zf_S_readProduct rf x1 S_characters S_length (S_at_1 + (1 : Int32)) S_code S_codeLength S_firstUses) fun r2 S_at_2 S_code_2 S_codeLength_2 S_firstUses_2 =>
        if r2 = 0 then
          z_gb (0 : Int32) <| some ((0 : Int32), S_at_2, S_code_2, S_codeLength_2, S_firstUses_2)
        else
          z_b2 (zf_S_emit (124 : Int32) S_code_2 S_codeLength_2) fun S_code_3 S_codeLength_3 =>
          (zf_S_readSum_12 rf n) x1 (x2 + (1 : Int32)) S_characters S_length S_at_2 S_code_3 S_codeLength_3 S_firstUses_2
      else
        z_gb (1 : Int32) <| some ((1 : Int32), S_at_1, S_code, S_codeLength, S_firstUses)
def zf_S_readSum (rf : Int32 → (Nat → Int32) → Int32 → Int32 → (Nat → Int32) → Int32 → (Nat → Int32) → Option (Int32 × Int32 × (Nat → Int32) × Int32 × (Nat → Int32))) (x1 : Int32) (S_characters : Nat → Int32) (S_length : Int32) (S_at : Int32) (S_code : Nat → Int32) (S_codeLength : Int32) (S_firstUses : Nat → Int32) : Option (Int32 × Int32 × (Nat → Int32) × Int32 × (Nat → Int32)) :=
  z_b5 (zf_S_readProduct rf x1 S_characters S_length S_at S_code S_codeLength S_firstUses) fun r1 S_at_1 S_code_1 S_codeLength_1 S_firstUses_1 =>
  if r1 = 0 then
    z_gb (0 : Int32) <| some ((0 : Int32), S_at_1, S_code_1, S_codeLength_1, S_firstUses_1)
  else
    zf_S_readSum_12 rf z_FU x1 (0 : Int32) S_characters S_length S_at_1 S_code_1 S_codeLength_1 S_firstUses_1
def zf_S_readFactor_23 (rf : Int32 → (Nat → Int32) → Int32 → Int32 → (Nat → Int32) → Int32 → (Nat → Int32) → Option (Int32 × Int32 × (Nat → Int32) × Int32 × (Nat → Int32))) (x1 : Int32) (x2 : Int32) (S_characters : Nat → Int32) (S_length : Int32) (S_at : Int32) (S_code : Nat → Int32) (S_codeLength : Int32) (S_firstUses : Nat → Int32) : Option (Int32 × Int32 × (Nat → Int32) × Int32 × (Nat → Int32)) :=
  if x1 < (12 : Int32) then
    if x2 = (40 : Int32) then
      z_b5 (zf_S_readSum rf (x1 + (1 : Int32)) S_characters S_length (S_at + (1 : Int32)) S_code S_codeLength S_firstUses) fun r3 S_at_3 S_code_3 S_codeLength_3 S_firstUses_3 =>
      if r3 = 0 then
        z_gb (0 : Int32) <| some ((0 : Int32), S_at_3, S_code_3, S_codeLength_3, S_firstUses_3)
      else
        z_b2 (zf_S_readMark (41 : Int32) S_characters S_length S_at_3) fun r4 S_at_4 =>
        if r4 = 0 then
          z_gb (0 : Int32) <| some ((0 : Int32), S_at_4, S_code_3, S_codeLength_3, S_firstUses_3)
        else
          z_gb (1 : Int32) <| some ((1 : Int32), S_at_4, S_code_3, S_codeLength_3, S_firstUses_3)
    else
      z_b5 (rf (x1 + (1 : Int32)) S_characters S_length (S_at + (1 : Int32)) S_code S_codeLength S_firstUses) fun r1 S_at_1 S_code_1 S_codeLength_1 S_firstUses_1 =>
      if r1 = 0 then
        z_gb (0 : Int32) <| some ((0 : Int32), S_at_1, S_code_1, S_codeLength_1, S_firstUses_1)
      else
        z_b2 (zf_S_emit (33 : Int32) S_code_1 S_codeLength_1) fun S_code_2 S_codeLength_2 =>
        z_gb (1 : Int32) <| some ((1 : Int32), S_at_1, S_code_2, S_codeLength_2, S_firstUses_1)
  else
    z_gb (0 : Int32) <| some ((0 : Int32), S_at, S_code, S_codeLength, S_firstUses)
def zf_S_readFactor_b (rf : Int32 → (Nat → Int32) → Int32 → Int32 → (Nat → Int32) → Int32 → (Nat → Int32) → Option (Int32 × Int32 × (Nat → Int32) × Int32 × (Nat → Int32))) (x1 : Int32) (S_characters : Nat → Int32) (S_length : Int32) (S_at : Int32) (S_code : Nat → Int32) (S_codeLength : Int32) (S_firstUses : Nat → Int32) : Option (Int32 × Int32 × (Nat → Int32) × Int32 × (Nat → Int32)) :=
  z_b2 (zf_S_ahead S_characters S_length S_at) fun r1 S_at_1 =>
  if r1 = (33 : Int32) then
    zf_S_readFactor_23 rf x1 r1 S_characters S_length S_at_1 S_code S_codeLength S_firstUses
  else
    if r1 = (40 : Int32) then
      zf_S_readFactor_23 rf x1 r1 S_characters S_length S_at_1 S_code S_codeLength S_firstUses
    else
      z_b5 (zf_S_readLeaf r1 S_at_1 S_code S_codeLength S_firstUses) fun r2 S_at_2 S_code_2 S_codeLength_2 S_firstUses_2 =>
      z_gb r2 <| some (r2, S_at_2, S_code_2, S_codeLength_2, S_firstUses_2)
def zf_S_readFactor : Nat → Int32 → (Nat → Int32) → Int32 → Int32 → (Nat → Int32) → Int32 → (Nat → Int32) → Option (Int32 × Int32 × (Nat → Int32) × Int32 × (Nat → Int32))
  | 0, _, _, _, _, _, _, _ => none
  | d + 1, x1, S_characters, S_length, S_at, S_code, S_codeLength, S_firstUses => zf_S_readFactor_b (zf_S_readFactor d) x1 S_characters S_length S_at S_code S_codeLength S_firstUses
def zf_S_readRule (S_characters : Nat → Int32) (S_length : Int32) (S_at : Int32) (S_names : Nat → Int32) (S_count : Int32) (S_code : Nat → Int32) (S_codeLength : Int32) (S_ends : Nat → Int32) (S_firstUses : Nat → Int32) : Option (Int32 × Int32 × (Nat → Int32) × Int32 × (Nat → Int32) × Int32 × (Nat → Int32) × (Nat → Int32)) :=
  z_b2 (zf_S_ahead S_characters S_length S_at) fun r1 S_at_1 =>
  z_b1 (zf_S_isName r1) fun r2 =>
  if r2 = 0 then
    z_gb (0 : Int32) <| some ((0 : Int32), S_at_1, S_names, S_count, S_code, S_codeLength, S_ends, S_firstUses)
  else
    if (7 : Int32) ≤ S_count then
      z_gb (0 : Int32) <| some ((0 : Int32), S_at_1, S_names, S_count, S_code, S_codeLength, S_ends, S_firstUses)
    else
      z_b1 (zf_N_indexOf r1 S_count 7 S_names) fun r3 =>
      if r3 = (-1 : Int32) then
        z_b2 (zf_S_readMark (44 : Int32) S_characters S_length (S_at_1 + (1 : Int32))) fun r4 S_at_4 =>
        if r4 = 0 then
          z_gb (0 : Int32) <| some ((0 : Int32), S_at_4, S_names, S_count, S_code, S_codeLength, S_ends, S_firstUses)
        else
          z_b5 (zf_S_readSum (zf_S_readFactor z_DEP) (0 : Int32) S_characters S_length S_at_4 S_code S_codeLength S_firstUses) fun r5 S_at_5 S_code_5 S_codeLength_5 S_firstUses_5 =>
          if r5 = 0 then
            z_gb (0 : Int32) <| some ((0 : Int32), S_at_5, S_names, S_count, S_code_5, S_codeLength_5, S_ends, S_firstUses_5)
          else
            z_gd S_count 7 <|
            z_gd S_count 7 <|
            z_gb (1 : Int32) <| some ((1 : Int32), S_at_5, (upd S_names S_count.toNatClampNeg (vp_nar .char r1)), (S_count + (1 : Int32)), S_code_5, S_codeLength_5, (upd S_ends S_count.toNatClampNeg S_codeLength_5), S_firstUses_5)
      else
        z_gb (0 : Int32) <| some ((0 : Int32), S_at_1, S_names, S_count, S_code, S_codeLength, S_ends, S_firstUses)
def zf_S_readRules_52 (S_characters : Nat → Int32) (S_length : Int32) (S_at : Int32) (S_names : Nat → Int32) (S_count : Int32) (S_code : Nat → Int32) (S_codeLength : Int32) (S_ends : Nat → Int32) (S_firstUses : Nat → Int32) : Option (Int32 × Int32 × (Nat → Int32) × Int32 × (Nat → Int32) × Int32 × (Nat → Int32) × (Nat → Int32)) :=
  z_b2 (zf_S_ahead S_characters S_length S_at) fun r1 S_at_1 =>
  if r1 = 0 then
    z_gb (1 : Int32) <| some ((1 : Int32), S_at_1, S_names, S_count, S_code, S_codeLength, S_ends, S_firstUses)
  else
    z_gb (0 : Int32) <| some ((0 : Int32), S_at_1, S_names, S_count, S_code, S_codeLength, S_ends, S_firstUses)
def zf_S_readRules_11 : Nat → Int32 → (Nat → Int32) → Int32 → Int32 → (Nat → Int32) → Int32 → (Nat → Int32) → Int32 → (Nat → Int32) → (Nat → Int32) → Option (Int32 × Int32 × (Nat → Int32) × Int32 × (Nat → Int32) × Int32 × (Nat → Int32) × (Nat → Int32))
  | 0, _, _, _, _, _, _, _, _, _, _ => none
  | n + 1, x1, S_characters, S_length, S_at, S_names, S_count, S_code, S_codeLength, S_ends, S_firstUses =>
    if (240 : Int32) ≤ x1 then
      zf_S_readRules_52 S_characters S_length S_at S_names S_count S_code S_codeLength S_ends S_firstUses
    else
      z_b2 (zf_S_ahead S_characters S_length S_at) fun r1 S_at_1 =>
      if r1 = (59 : Int32) then
        z_b8 (zf_S_readRule S_characters S_length (S_at_1 + (1 : Int32)) S_names S_count S_code S_codeLength S_ends S_firstUses) fun r2 S_at_2 S_names_2 S_count_2 S_code_2 S_codeLength_2 S_ends_2 S_firstUses_2 =>
        if r2 = 0 then
          z_gb (0 : Int32) <| some ((0 : Int32), S_at_2, S_names_2, S_count_2, S_code_2, S_codeLength_2, S_ends_2, S_firstUses_2)
        else
          (zf_S_readRules_11 n) (x1 + (1 : Int32)) S_characters S_length S_at_2 S_names_2 S_count_2 S_code_2 S_codeLength_2 S_ends_2 S_firstUses_2
      else
        zf_S_readRules_52 S_characters S_length S_at_1 S_names S_count S_code S_codeLength S_ends S_firstUses
def zf_S_readRules (S_characters : Nat → Int32) (S_length : Int32) (S_at : Int32) (S_names : Nat → Int32) (S_count : Int32) (S_code : Nat → Int32) (S_codeLength : Int32) (S_ends : Nat → Int32) (S_firstUses : Nat → Int32) : Option (Int32 × Int32 × (Nat → Int32) × Int32 × (Nat → Int32) × Int32 × (Nat → Int32) × (Nat → Int32)) :=
  z_b8 (zf_S_readRule S_characters S_length S_at S_names S_count S_code S_codeLength S_ends S_firstUses) fun r1 S_at_1 S_names_1 S_count_1 S_code_1 S_codeLength_1 S_ends_1 S_firstUses_1 =>
  if r1 = 0 then
    z_gb (0 : Int32) <| some ((0 : Int32), S_at_1, S_names_1, S_count_1, S_code_1, S_codeLength_1, S_ends_1, S_firstUses_1)
  else
    zf_S_readRules_11 z_FU (0 : Int32) S_characters S_length S_at_1 S_names_1 S_count_1 S_code_1 S_codeLength_1 S_ends_1 S_firstUses_1
def zf_S_findStranger_62 (k4 : Int32 → Int32 → (Nat → Int32) → Int32 → (Nat → Int32) → Option (Int32)) (x2 : Int32) (x3 : Int32) (S_names : Nat → Int32) (S_count : Int32) (S_firstUses : Nat → Int32) : Option (Int32) :=
  k4 x3 (x2 + (1 : Int32)) S_names S_count S_firstUses
def zf_S_findStranger_46 (k4 : Int32 → Int32 → (Nat → Int32) → Int32 → (Nat → Int32) → Option (Int32)) (x1 : Int32) (x2 : Int32) (x3 : Int32) (t0 : Int32) (S_names : Nat → Int32) (S_count : Int32) (S_firstUses : Nat → Int32) : Option (Int32) :=
  if t0 = 0 then
    k4 x1 (x2 + (1 : Int32)) S_names S_count S_firstUses
  else
    if x1 = 0 then
      zf_S_findStranger_62 k4 x2 x3 S_names S_count S_firstUses
    else
      if x1 ≤ x3 then
        k4 x1 (x2 + (1 : Int32)) S_names S_count S_firstUses
      else
        zf_S_findStranger_62 k4 x2 x3 S_names S_count S_firstUses
def zf_S_findStranger_45 (k4 : Int32 → Int32 → (Nat → Int32) → Int32 → (Nat → Int32) → Option (Int32)) (x1 : Int32) (x2 : Int32) (x3 : Int32) (S_names : Nat → Int32) (S_count : Int32) (S_firstUses : Nat → Int32) : Option (Int32) :=
  zf_S_findStranger_46 k4 x1 x2 x3 (0 : Int32) S_names S_count S_firstUses
def zf_S_findStranger_4 : Nat → Int32 → Int32 → (Nat → Int32) → Int32 → (Nat → Int32) → Option (Int32)
  | 0, _, _, _, _, _ => none
  | n + 1, x1, x2, S_names, S_count, S_firstUses =>
    if (26 : Int32) ≤ x2 then
      some (x1)
    else
      z_gd x2 26 <|
      if (S_firstUses x2.toNatClampNeg) = 0 then
        zf_S_findStranger_45 (zf_S_findStranger_4 n) x1 x2 (S_firstUses x2.toNatClampNeg) S_names S_count S_firstUses
      else
        z_b1 (zf_N_indexOf (((97 : Int32) + x2).toUInt32 % 65536).toInt32 S_count 7 S_names) fun r1 =>
        if r1 = (-1 : Int32) then
          zf_S_findStranger_46 (zf_S_findStranger_4 n) x1 x2 (S_firstUses x2.toNatClampNeg) (1 : Int32) S_names S_count S_firstUses
        else
          zf_S_findStranger_45 (zf_S_findStranger_4 n) x1 x2 (S_firstUses x2.toNatClampNeg) S_names S_count S_firstUses
def zf_S_findStranger (S_names : Nat → Int32) (S_count : Int32) (S_firstUses : Nat → Int32) : Option (Int32) :=
  zf_S_findStranger_4 z_FU (0 : Int32) (0 : Int32) S_names S_count S_firstUses
def zf_S_findFault (S_characters : Nat → Int32) (S_length : Int32) (S_at : Int32) (S_names : Nat → Int32) (S_count : Int32) (S_code : Nat → Int32) (S_codeLength : Int32) (S_ends : Nat → Int32) (S_firstUses : Nat → Int32) : Option (Int32 × Int32 × (Nat → Int32) × Int32 × (Nat → Int32) × Int32 × (Nat → Int32) × (Nat → Int32)) :=
  z_b1 (zf_JA_fill (0 : Int32) 26 S_firstUses) fun S_firstUses_1 =>
  z_b8 (zf_S_readRules S_characters S_length (0 : Int32) S_names (0 : Int32) S_code (0 : Int32) S_ends S_firstUses_1) fun r2 S_at_2 S_names_2 S_count_2 S_code_2 S_codeLength_2 S_ends_2 S_firstUses_2 =>
  if r2 = 0 then
    some ((S_at_2 + (1 : Int32)), S_at_2, S_names_2, S_count_2, S_code_2, S_codeLength_2, S_ends_2, S_firstUses_2)
  else
    z_b1 (zf_S_findStranger S_names_2 S_count_2 S_firstUses_2) fun r3 =>
    some (r3, S_at_2, S_names_2, S_count_2, S_code_2, S_codeLength_2, S_ends_2, S_firstUses_2)
def zf_R_leafBits_55 (x2 : Int64) (S_names : Nat → Int32) (S_count : Int32) : Option (Int64) :=
  some (x2)
def zf_R_leafBits (x1 : Int32) (x2 : Int64) (S_names : Nat → Int32) (S_count : Int32) : Option (Int64) :=
  if x1 = (48 : Int32) then
    some ((0 : Int64))
  else
    if x1 = (49 : Int32) then
      some ((-1 : Int64))
    else
      z_b1 (zf_N_indexOf x1 S_count 7 S_names) fun r1 =>
      if r1 < 0 then
        zf_R_leafBits_55 x2 S_names S_count
      else
        if (6 : Int32) ≤ r1 then
          zf_R_leafBits_55 x2 S_names S_count
        else
          z_gd r1 6 <|
          some ((z_PATTERNS r1.toNatClampNeg))
def zf_R_work_135 (k6 : Int32 → Int64 → Int32 → Int32 → (Nat → Int32) → Int32 → (Nat → Int32) → (Nat → Int64) → Option (Int64 × (Nat → Int64))) (x3 : Int32) (x4 : Int64) (x6 : Int32) (x7 : Int32) (x8 : Int32) (S_names : Nat → Int32) (S_count : Int32) (S_code : Nat → Int32) (R_stack : Nat → Int64) : Option (Int64 × (Nat → Int64)) :=
  if (240 : Int32) ≤ x6 then
    k6 x3 x4 x6 (x7 + (1 : Int32)) S_names S_count S_code R_stack
  else
    z_b1 (zf_R_leafBits x8 x4 S_names S_count) fun r1 =>
    z_gd x6 240 <|
    k6 x3 x4 (x6 + (1 : Int32)) (x7 + (1 : Int32)) S_names S_count S_code (vp_updL R_stack x6.toNatClampNeg r1)
def zf_R_work_97 (k6 : Int32 → Int64 → Int32 → Int32 → (Nat → Int32) → Int32 → (Nat → Int32) → (Nat → Int64) → Option (Int64 × (Nat → Int64))) (x3 : Int32) (x4 : Int64) (x6 : Int32) (x7 : Int32) (x8 : Int32) (S_names : Nat → Int32) (S_count : Int32) (S_code : Nat → Int32) (R_stack : Nat → Int64) : Option (Int64 × (Nat → Int64)) :=
  if x8 = (124 : Int32) then
    if x6 < (2 : Int32) then
      zf_R_work_135 k6 x3 x4 x6 x7 x8 S_names S_count S_code R_stack
    else
      z_gd ((x6 + (-1 : Int32)) - (1 : Int32)) 240 <|
      z_gd (x6 + (-1 : Int32)) 240 <|
      z_gd ((x6 + (-1 : Int32)) - (1 : Int32)) 240 <|
      k6 x3 x4 (x6 + (-1 : Int32)) (x7 + (1 : Int32)) S_names S_count S_code (vp_updL R_stack ((x6 + (-1 : Int32)) - (1 : Int32)).toNatClampNeg ((R_stack ((x6 + (-1 : Int32)) - (1 : Int32)).toNatClampNeg) ||| (R_stack (x6 + (-1 : Int32)).toNatClampNeg)))
  else
    zf_R_work_135 k6 x3 x4 x6 x7 x8 S_names S_count S_code R_stack
def zf_R_work_59 (k6 : Int32 → Int64 → Int32 → Int32 → (Nat → Int32) → Int32 → (Nat → Int32) → (Nat → Int64) → Option (Int64 × (Nat → Int64))) (x3 : Int32) (x4 : Int64) (x6 : Int32) (x7 : Int32) (x8 : Int32) (S_names : Nat → Int32) (S_count : Int32) (S_code : Nat → Int32) (R_stack : Nat → Int64) : Option (Int64 × (Nat → Int64)) :=
  if x8 = (38 : Int32) then
    if x6 < (2 : Int32) then
      zf_R_work_97 k6 x3 x4 x6 x7 x8 S_names S_count S_code R_stack
    else
      z_gd ((x6 + (-1 : Int32)) - (1 : Int32)) 240 <|
      z_gd (x6 + (-1 : Int32)) 240 <|
      z_gd ((x6 + (-1 : Int32)) - (1 : Int32)) 240 <|
      k6 x3 x4 (x6 + (-1 : Int32)) (x7 + (1 : Int32)) S_names S_count S_code (vp_updL R_stack ((x6 + (-1 : Int32)) - (1 : Int32)).toNatClampNeg ((R_stack ((x6 + (-1 : Int32)) - (1 : Int32)).toNatClampNeg) &&& (R_stack (x6 + (-1 : Int32)).toNatClampNeg)))
  else
    zf_R_work_97 k6 x3 x4 x6 x7 x8 S_names S_count S_code R_stack
def zf_R_work_6 : Nat → Int32 → Int64 → Int32 → Int32 → (Nat → Int32) → Int32 → (Nat → Int32) → (Nat → Int64) → Option (Int64 × (Nat → Int64))
  | 0, _, _, _, _, _, _, _, _ => none
  | n + 1, x3, x4, x6, x7, S_names, S_count, S_code, R_stack =>
    if x3 ≤ x7 then
      z_gd (0 : Int32) 240 <|
      some ((R_stack (0 : Int32).toNatClampNeg), R_stack)
    else
      z_gd x7 240 <|
      if (S_code x7.toNatClampNeg) = (33 : Int32) then
        if x6 < (1 : Int32) then
          zf_R_work_59 (zf_R_work_6 n) x3 x4 x6 x7 (S_code x7.toNatClampNeg) S_names S_count S_code R_stack
        else
          z_gd (x6 - (1 : Int32)) 240 <|
          z_gd (x6 - (1 : Int32)) 240 <|
          (zf_R_work_6 n) x3 x4 x6 (x7 + (1 : Int32)) S_names S_count S_code (vp_updL R_stack (x6 - (1 : Int32)).toNatClampNeg ((R_stack (x6 - (1 : Int32)).toNatClampNeg) ^^^ (-1 : Int64)))
      else
        zf_R_work_59 (zf_R_work_6 n) x3 x4 x6 x7 (S_code x7.toNatClampNeg) S_names S_count S_code R_stack
def zf_R_work (x2 : Int32) (x3 : Int32) (x4 : Int64) (S_names : Nat → Int32) (S_count : Int32) (S_code : Nat → Int32) (R_stack : Nat → Int64) : Option (Int64 × (Nat → Int64)) :=
  zf_R_work_6 z_FU x3 x4 (0 : Int32) x2 S_names S_count S_code R_stack
def zf_R_take_12 : Nat → Int32 → Int32 → (Nat → Int32) → Int32 → (Nat → Int32) → (Nat → Int32) → Int32 → (Nat → Int32) → (Nat → Int32) → (Nat → Int64) → (Nat → Int64) → (Nat → Int64) → Option (Int32 × (Nat → Int32) × (Nat → Int32) × (Nat → Int64) × (Nat → Int64) × (Nat → Int64))
  | 0, _, _, _, _, _, _, _, _, _, _, _, _ => none
  | n + 1, x2, x3, S_names, S_count, S_code, S_ends, R_count, R_names, R_fixed, R_low, R_high, R_stack =>
    if R_count ≤ x3 then
      some (R_count, R_names, R_fixed, R_low, R_high, R_stack)
    else
      z_gd x3 7 <|
      z_gd x3 7 <|
      z_gd x3 7 <|
      z_gd x3 7 <|
      z_b2 (zf_R_work x2 (S_ends x3.toNatClampNeg) (0 : Int64) S_names S_count S_code R_stack) fun r1 R_stack_1 =>
      z_gd x3 7 <|
      z_gd x3 7 <|
      z_b2 (zf_R_work x2 (S_ends x3.toNatClampNeg) (-1 : Int64) S_names S_count S_code R_stack_1) fun r2 R_stack_2 =>
      z_gd x3 7 <|
      z_gd x3 7 <|
      (zf_R_take_12 n) (S_ends x3.toNatClampNeg) (x3 + (1 : Int32)) S_names S_count S_code S_ends R_count (upd R_names x3.toNatClampNeg (vp_nar .char (S_names x3.toNatClampNeg))) (upd R_fixed x3.toNatClampNeg (2 : Int32)) (vp_updL R_low x3.toNatClampNeg r1) (vp_updL R_high x3.toNatClampNeg r2) R_stack_2
def zf_R_take (S_names : Nat → Int32) (S_count : Int32) (S_code : Nat → Int32) (S_ends : Nat → Int32) (R_count : Int32) (R_names : Nat → Int32) (R_fixed : Nat → Int32) (R_low : Nat → Int64) (R_high : Nat → Int64) (R_stack : Nat → Int64) : Option (Int32 × (Nat → Int32) × (Nat → Int32) × (Nat → Int64) × (Nat → Int64) × (Nat → Int64)) :=
  zf_R_take_12 z_FU (0 : Int32) (0 : Int32) S_names S_count S_code S_ends S_count R_names R_fixed R_low R_high R_stack
def zf_A_forget (A_count : Int32) (A_states : Int32) : Option (Int32 × Int32) :=
  some ((0 : Int32), (0 : Int32))
def zf_N_load (S_characters : Nat → Int32) (S_length : Int32) (S_at : Int32) (S_names : Nat → Int32) (S_count : Int32) (S_code : Nat → Int32) (S_codeLength : Int32) (S_ends : Nat → Int32) (S_firstUses : Nat → Int32) (R_count : Int32) (R_names : Nat → Int32) (R_fixed : Nat → Int32) (R_low : Nat → Int64) (R_high : Nat → Int64) (R_stack : Nat → Int64) (A_count : Int32) (A_states : Int32) : Option (Int32 × Int32 × (Nat → Int32) × Int32 × (Nat → Int32) × Int32 × (Nat → Int32) × (Nat → Int32) × Int32 × (Nat → Int32) × (Nat → Int32) × (Nat → Int64) × (Nat → Int64) × (Nat → Int64) × Int32 × Int32) :=
  z_b8 (zf_S_findFault S_characters S_length S_at S_names S_count S_code S_codeLength S_ends S_firstUses) fun r1 S_at_1 S_names_1 S_count_1 S_code_1 S_codeLength_1 S_ends_1 S_firstUses_1 =>
  if r1 = 0 then
    z_b6 (zf_R_take S_names_1 S_count_1 S_code_1 S_ends_1 R_count R_names R_fixed R_low R_high R_stack) fun R_count_2 R_names_2 R_fixed_2 R_low_2 R_high_2 R_stack_2 =>
    z_b2 (zf_A_forget A_count A_states) fun A_count_3 A_states_3 =>
    some (R_count_2, S_at_1, S_names_1, S_count_1, S_code_1, S_codeLength_1, S_ends_1, S_firstUses_1, R_count_2, R_names_2, R_fixed_2, R_low_2, R_high_2, R_stack_2, A_count_3, A_states_3)
  else
    some ((-r1), S_at_1, S_names_1, S_count_1, S_code_1, S_codeLength_1, S_ends_1, S_firstUses_1, R_count, R_names, R_fixed, R_low, R_high, R_stack, A_count, A_states)
def zf_N_genes (R_count : Int32) : Option (Int32) :=
  some (R_count)
def zf_N_gene (x1 : Int32) (R_count : Int32) (R_names : Nat → Int32) : Option (Int32) :=
  z_b1 (zf_N_indexOf x1 R_count 7 R_names) fun r1 =>
  some (r1)
def zf_R_hasGene (x1 : Int32) (R_count : Int32) : Option (Int32) :=
  if x1 < 0 then
    z_gb (0 : Int32) <| some ((0 : Int32))
  else
    if R_count ≤ x1 then
      z_gb (0 : Int32) <| some ((0 : Int32))
    else
      z_gb (1 : Int32) <| some ((1 : Int32))
def zf_N_fix (x1 : Int32) (x2 : Int32) (R_count : Int32) (R_fixed : Nat → Int32) (A_count : Int32) (A_states : Int32) : Option (Int32 × (Nat → Int32) × Int32 × Int32) :=
  z_b1 (zf_R_hasGene x1 R_count) fun r1 =>
  if r1 = 0 then
    z_gb (0 : Int32) <| some ((0 : Int32), R_fixed, A_count, A_states)
  else
    if x2 < 0 then
      z_gb (0 : Int32) <| some ((0 : Int32), R_fixed, A_count, A_states)
    else
      if x2 ≤ (2 : Int32) then
        z_gd x1 7 <|
        z_b2 (zf_A_forget A_count A_states) fun A_count_2 A_states_2 =>
        z_gb (1 : Int32) <| some ((1 : Int32), (upd R_fixed x1.toNatClampNeg x2), A_count_2, A_states_2)
      else
        z_gb (0 : Int32) <| some ((0 : Int32), R_fixed, A_count, A_states)
def zf_R_hasState (x1 : Int32) (R_count : Int32) : Option (Int32) :=
  if R_count ≤ 0 then
    z_gb (0 : Int32) <| some ((0 : Int32))
  else
    if x1 < 0 then
      z_gb (0 : Int32) <| some ((0 : Int32))
    else
      if ((1 : Int32) <<< (R_count &&& 31)) ≤ x1 then
        z_gb (0 : Int32) <| some ((0 : Int32))
      else
        z_gb (1 : Int32) <| some ((1 : Int32))
def zf_N_bitOf_12 (x4 : Int32) (t0 : Int64) : Option (Int32) :=
  some (((t0.toUInt64 >>> ((x4 &&& (63 : Int32)).toInt64.toUInt64 &&& Int64.toUInt64 63)).toInt64 &&& (1 : Int64)).toInt32)
def zf_N_bitOf (x0 : Int64) (x2 : Int64) (x4 : Int32) : Option (Int32) :=
  if (64 : Int32) ≤ x4 then
    zf_N_bitOf_12 x4 x2
  else
    zf_N_bitOf_12 x4 x0
def zf_R_valueOf (x1 : Int32) (x2 : Int32) (R_fixed : Nat → Int32) (R_low : Nat → Int64) (R_high : Nat → Int64) : Option (Int32) :=
  z_gd x1 7 <|
  if (R_fixed x1.toNatClampNeg) = (2 : Int32) then
    z_gd x1 7 <|
    z_gd x1 7 <|
    z_b1 (zf_N_bitOf (R_low x1.toNatClampNeg) (R_high x1.toNatClampNeg) x2) fun r1 =>
    some (r1)
  else
    z_gd x1 7 <|
    some ((R_fixed x1.toNatClampNeg))
def zf_N_value (x1 : Int32) (x2 : Int32) (R_count : Int32) (R_fixed : Nat → Int32) (R_low : Nat → Int64) (R_high : Nat → Int64) : Option (Int32) :=
  z_b1 (zf_R_hasGene x1 R_count) fun r1 =>
  if r1 = 0 then
    some ((-1 : Int32))
  else
    z_b1 (zf_R_hasState x2 R_count) fun r2 =>
    if r2 = 0 then
      some ((-1 : Int32))
    else
      z_b1 (zf_R_valueOf x1 x2 R_fixed R_low R_high) fun r3 =>
      some (r3)
def zf_R_stepTogether_4 : Nat → Int32 → Int32 → Int32 → Int32 → (Nat → Int32) → (Nat → Int64) → (Nat → Int64) → Option (Int32)
  | 0, _, _, _, _, _, _, _ => none
  | n + 1, x1, x2, x3, R_count, R_fixed, R_low, R_high =>
    if R_count ≤ x3 then
      some (x2)
    else
      z_b1 (zf_R_valueOf x3 x1 R_fixed R_low R_high) fun r1 =>
      (zf_R_stepTogether_4 n) x1 (x2 ||| (r1 <<< (x3 &&& 31))) (x3 + (1 : Int32)) R_count R_fixed R_low R_high
def zf_R_stepTogether (x1 : Int32) (R_count : Int32) (R_fixed : Nat → Int32) (R_low : Nat → Int64) (R_high : Nat → Int64) : Option (Int32) :=
  zf_R_stepTogether_4 z_FU x1 (0 : Int32) (0 : Int32) R_count R_fixed R_low R_high
def zf_N_next (x1 : Int32) (R_count : Int32) (R_fixed : Nat → Int32) (R_low : Nat → Int64) (R_high : Nat → Int64) : Option (Int32) :=
  z_b1 (zf_R_hasState x1 R_count) fun r1 =>
  if r1 = 0 then
    some ((-1 : Int32))
  else
    z_b1 (zf_R_stepTogether x1 R_count R_fixed R_low R_high) fun r2 =>
    some (r2)
def zf_C_numberOf_10 : Nat → Int32 → Int32 → Int32 → (Nat → Int32) → (Nat → Int32) → Int32 → Option (Int32 × (Nat → Int32) × (Nat → Int32) × Int32)
  | 0, _, _, _, _, _, _ => none
  | n + 1, x1, x2, x4, C_zeros, C_ones, C_nodes =>
    if C_nodes ≤ x4 then
      z_gd C_nodes 128 <|
      z_gd C_nodes 128 <|
      some (((C_nodes + (1 : Int32)) + (1 : Int32)), (upd C_zeros C_nodes.toNatClampNeg x1), (upd C_ones C_nodes.toNatClampNeg x2), (C_nodes + (1 : Int32)))
    else
      z_gd x4 128 <|
      if (C_zeros x4.toNatClampNeg) = x1 then
        z_gd x4 128 <|
        if (C_ones x4.toNatClampNeg) = x2 then
          some ((x4 + (2 : Int32)), C_zeros, C_ones, C_nodes)
        else
          (zf_C_numberOf_10 n) x1 x2 (x4 + (1 : Int32)) C_zeros C_ones C_nodes
      else
        (zf_C_numberOf_10 n) x1 x2 (x4 + (1 : Int32)) C_zeros C_ones C_nodes
def zf_C_numberOf (x1 : Int32) (x2 : Int32) (x3 : Int32) (C_zeros : Nat → Int32) (C_ones : Nat → Int32) (C_nodes : Int32) : Option (Int32 × (Nat → Int32) × (Nat → Int32) × Int32) :=
  if x1 = x2 then
    some (x1, C_zeros, C_ones, C_nodes)
  else
    zf_C_numberOf_10 z_FU x1 x2 x3 C_zeros C_ones C_nodes
def zf_C_joinAt_12 : Nat → Int32 → Int32 → Int32 → (Nat → Int32) → (Nat → Int32) → (Nat → Int32) → Int32 → Option ((Nat → Int32) × (Nat → Int32) × (Nat → Int32) × Int32)
  | 0, _, _, _, _, _, _, _ => none
  | n + 1, x2, x3, x4, C_numbers, C_zeros, C_ones, C_nodes =>
    if x3 ≤ x4 then
      some (C_numbers, C_zeros, C_ones, C_nodes)
    else
      z_gd x4 128 <|
      z_gd (x4 + x3) 128 <|
      z_b4 (zf_C_numberOf (C_numbers x4.toNatClampNeg) (C_numbers (x4 + x3).toNatClampNeg) x2 C_zeros C_ones C_nodes) fun r1 C_zeros_1 C_ones_1 C_nodes_1 =>
      z_gd x4 128 <|
      (zf_C_joinAt_12 n) x2 x3 (x4 + (1 : Int32)) (upd C_numbers x4.toNatClampNeg r1) C_zeros_1 C_ones_1 C_nodes_1
def zf_C_joinAt (x1 : Int32) (C_numbers : Nat → Int32) (C_zeros : Nat → Int32) (C_ones : Nat → Int32) (C_nodes : Int32) : Option ((Nat → Int32) × (Nat → Int32) × (Nat → Int32) × Int32) :=
  zf_C_joinAt_12 z_FU C_nodes ((1 : Int32) <<< (x1 &&& 31)) (0 : Int32) C_numbers C_zeros C_ones C_nodes
def zf_C_countNodes_42 : Nat → Int32 → Int32 → (Nat → Int32) → (Nat → Int64) → (Nat → Int64) → (Nat → Int32) → (Nat → Int32) → (Nat → Int32) → Int32 → Option (Int32 × (Nat → Int32) × (Nat → Int32) × (Nat → Int32) × Int32)
  | 0, _, _, _, _, _, _, _, _, _ => none
  | n + 1, x3, R_count, R_fixed, R_low, R_high, C_numbers, C_zeros, C_ones, C_nodes =>
    if x3 < 0 then
      some (C_nodes, C_numbers, C_zeros, C_ones, C_nodes)
    else
      z_b4 (zf_C_joinAt x3 C_numbers C_zeros C_ones C_nodes) fun C_numbers_1 C_zeros_1 C_ones_1 C_nodes_1 =>
      (zf_C_countNodes_42 n) (x3 + (-1 : Int32)) R_count R_fixed R_low R_high C_numbers_1 C_zeros_1 C_ones_1 C_nodes_1
def zf_C_countNodes_7 : Nat → Int32 → Int32 → Int32 → (Nat → Int32) → (Nat → Int64) → (Nat → Int64) → (Nat → Int32) → (Nat → Int32) → (Nat → Int32) → Int32 → Option (Int32 × (Nat → Int32) × (Nat → Int32) × (Nat → Int32) × Int32)
  | 0, _, _, _, _, _, _, _, _, _, _ => none
  | n + 1, x2, x3, R_count, R_fixed, R_low, R_high, C_numbers, C_zeros, C_ones, C_nodes =>
    if ((1 : Int32) <<< (R_count &&& 31)) ≤ x3 then
      zf_C_countNodes_42 z_FU (R_count - (1 : Int32)) R_count R_fixed R_low R_high C_numbers C_zeros C_ones C_nodes
    else
      z_b1 (zf_R_valueOf x2 x3 R_fixed R_low R_high) fun r1 =>
      z_gd x3 128 <|
      (zf_C_countNodes_7 n) x2 (x3 + (1 : Int32)) R_count R_fixed R_low R_high (upd C_numbers x3.toNatClampNeg r1) C_zeros C_ones C_nodes
def zf_C_countNodes (x2 : Int32) (R_count : Int32) (R_fixed : Nat → Int32) (R_low : Nat → Int64) (R_high : Nat → Int64) (C_numbers : Nat → Int32) (C_zeros : Nat → Int32) (C_ones : Nat → Int32) (C_nodes : Int32) : Option (Int32 × (Nat → Int32) × (Nat → Int32) × (Nat → Int32) × Int32) :=
  zf_C_countNodes_7 z_FU x2 (0 : Int32) R_count R_fixed R_low R_high C_numbers C_zeros C_ones (0 : Int32)
def zf_N_spread (x1 : Int32) (R_count : Int32) (R_fixed : Nat → Int32) (R_low : Nat → Int64) (R_high : Nat → Int64) (C_numbers : Nat → Int32) (C_zeros : Nat → Int32) (C_ones : Nat → Int32) (C_nodes : Int32) : Option (Int32 × (Nat → Int32) × (Nat → Int32) × (Nat → Int32) × Int32) :=
  z_b1 (zf_R_hasGene x1 R_count) fun r1 =>
  if r1 = 0 then
    some ((-1 : Int32), C_numbers, C_zeros, C_ones, C_nodes)
  else
    z_b5 (zf_C_countNodes x1 R_count R_fixed R_low R_high C_numbers C_zeros C_ones C_nodes) fun r2 C_numbers_2 C_zeros_2 C_ones_2 C_nodes_2 =>
    some (r2, C_numbers_2, C_zeros_2, C_ones_2, C_nodes_2)
def zf_A_leads (x1 : Int32) (x2 : Int32) (A_low : Nat → Int64) (A_high : Nat → Int64) : Option (Int32) :=
  z_gd x1 128 <|
  z_gd x1 128 <|
  z_b1 (zf_N_bitOf (A_low x1.toNatClampNeg) (A_high x1.toNatClampNeg) x2) fun r1 =>
  if r1 = (1 : Int32) then
    z_gb (1 : Int32) <| some ((1 : Int32))
  else
    z_gb (0 : Int32) <| some ((0 : Int32))
def zf_A_joinSteps_12 (k2 : Int32 → (Nat → Int64) → (Nat → Int64) → Int32 → Option ((Nat → Int64) × (Nat → Int64))) : Nat → Int32 → Int32 → (Nat → Int64) → (Nat → Int64) → Int32 → Option ((Nat → Int64) × (Nat → Int64))
  | 0, _, _, _, _, _ => none
  | n + 1, x1, x2, A_low, A_high, A_states =>
    if A_states ≤ x2 then
      k2 (x1 + (1 : Int32)) A_low A_high A_states
    else
      z_b1 (zf_A_leads x2 x1 A_low A_high) fun r1 =>
      if r1 = 0 then
        (zf_A_joinSteps_12 k2 n) x1 (x2 + (1 : Int32)) A_low A_high A_states
      else
        z_gd x2 128 <|
        z_gd x1 128 <|
        z_gd x2 128 <|
        z_gd x2 128 <|
        z_gd x1 128 <|
        z_gd x2 128 <|
        (zf_A_joinSteps_12 k2 n) x1 (x2 + (1 : Int32)) (vp_updL A_low x2.toNatClampNeg ((A_low x2.toNatClampNeg) ||| (A_low x1.toNatClampNeg))) (vp_updL A_high x2.toNatClampNeg ((A_high x2.toNatClampNeg) ||| (A_high x1.toNatClampNeg))) A_states
def zf_A_joinSteps_2 : Nat → Int32 → (Nat → Int64) → (Nat → Int64) → Int32 → Option ((Nat → Int64) × (Nat → Int64))
  | 0, _, _, _, _ => none
  | n + 1, x1, A_low, A_high, A_states =>
    if A_states ≤ x1 then
      some (A_low, A_high)
    else
      zf_A_joinSteps_12 (zf_A_joinSteps_2 n) z_FU x1 (0 : Int32) A_low A_high A_states
def zf_A_joinSteps (A_low : Nat → Int64) (A_high : Nat → Int64) (A_states : Int32) : Option ((Nat → Int64) × (Nat → Int64)) :=
  zf_A_joinSteps_2 z_FU (0 : Int32) A_low A_high A_states
def zf_A_isLedBackTo_2 : Nat → Int32 → Int32 → (Nat → Int64) → (Nat → Int64) → Int32 → Option (Int32)
  | 0, _, _, _, _, _ => none
  | n + 1, x1, x2, A_low, A_high, A_states =>
    if A_states ≤ x2 then
      z_gb (1 : Int32) <| some ((1 : Int32))
    else
      z_b1 (zf_A_leads x1 x2 A_low A_high) fun r1 =>
      if r1 = 0 then
        (zf_A_isLedBackTo_2 n) x1 (x2 + (1 : Int32)) A_low A_high A_states
      else
        z_b1 (zf_A_leads x2 x1 A_low A_high) fun r2 =>
        if r2 = 0 then
          z_gb (0 : Int32) <| some ((0 : Int32))
        else
          (zf_A_isLedBackTo_2 n) x1 (x2 + (1 : Int32)) A_low A_high A_states
def zf_A_isLedBackTo (x1 : Int32) (A_low : Nat → Int64) (A_high : Nat → Int64) (A_states : Int32) : Option (Int32) :=
  zf_A_isLedBackTo_2 z_FU x1 (0 : Int32) A_low A_high A_states
def zf_A_addAttractor_2 : Nat → Int32 → Int32 → Int32 → (Nat → Int64) → (Nat → Int64) → (Nat → Int32) → (Nat → Int32) → Int32 → Int64 → Int64 → Option (Int32 × (Nat → Int32) × (Nat → Int32) × Int64 × Int64)
  | 0, _, _, _, _, _, _, _, _, _, _ => none
  | n + 1, x1, x2, A_count, A_low, A_high, A_homes, A_leasts, A_states, A_lowLeasts, A_highLeasts =>
    if A_states ≤ x2 then
      z_gd A_count 128 <|
      if (64 : Int32) ≤ x1 then
        some ((A_count + (1 : Int32)), A_homes, (upd A_leasts A_count.toNatClampNeg x1), A_lowLeasts, (A_highLeasts ||| ((1 : Int64) <<< ((x1 &&& (63 : Int32)).toInt64 &&& 63))))
      else
        some ((A_count + (1 : Int32)), A_homes, (upd A_leasts A_count.toNatClampNeg x1), (A_lowLeasts ||| ((1 : Int64) <<< (x1.toInt64 &&& 63))), A_highLeasts)
    else
      z_b1 (zf_A_leads x1 x2 A_low A_high) fun r1 =>
      if r1 = 0 then
        (zf_A_addAttractor_2 n) x1 (x2 + (1 : Int32)) A_count A_low A_high A_homes A_leasts A_states A_lowLeasts A_highLeasts
      else
        z_gd x2 128 <|
        (zf_A_addAttractor_2 n) x1 (x2 + (1 : Int32)) A_count A_low A_high (upd A_homes x2.toNatClampNeg A_count) A_leasts A_states A_lowLeasts A_highLeasts
def zf_A_addAttractor (x1 : Int32) (A_count : Int32) (A_low : Nat → Int64) (A_high : Nat → Int64) (A_homes : Nat → Int32) (A_leasts : Nat → Int32) (A_states : Int32) (A_lowLeasts : Int64) (A_highLeasts : Int64) : Option (Int32 × (Nat → Int32) × (Nat → Int32) × Int64 × Int64) :=
  zf_A_addAttractor_2 z_FU x1 (0 : Int32) A_count A_low A_high A_homes A_leasts A_states A_lowLeasts A_highLeasts
def zf_A_findAttractors_25 : Nat → Int32 → Int32 → (Nat → Int64) → (Nat → Int64) → (Nat → Int32) → (Nat → Int32) → Int32 → Int64 → Int64 → Option (Int32 × (Nat → Int32) × (Nat → Int32) × Int64 × Int64)
  | 0, _, _, _, _, _, _, _, _, _ => none
  | n + 1, x1, A_count, A_low, A_high, A_homes, A_leasts, A_states, A_lowLeasts, A_highLeasts =>
    if A_states ≤ x1 then
      some (A_count, A_homes, A_leasts, A_lowLeasts, A_highLeasts)
    else
      z_gd x1 128 <|
      if (A_homes x1.toNatClampNeg) = (-1 : Int32) then
        z_b1 (zf_A_isLedBackTo x1 A_low A_high A_states) fun r1 =>
        if r1 = 0 then
          (zf_A_findAttractors_25 n) (x1 + (1 : Int32)) A_count A_low A_high A_homes A_leasts A_states A_lowLeasts A_highLeasts
        else
          z_b5 (zf_A_addAttractor x1 A_count A_low A_high A_homes A_leasts A_states A_lowLeasts A_highLeasts) fun A_count_2 A_homes_2 A_leasts_2 A_lowLeasts_2 A_highLeasts_2 =>
          (zf_A_findAttractors_25 n) (x1 + (1 : Int32)) A_count_2 A_low A_high A_homes_2 A_leasts_2 A_states A_lowLeasts_2 A_highLeasts_2
      else
        (zf_A_findAttractors_25 n) (x1 + (1 : Int32)) A_count A_low A_high A_homes A_leasts A_states A_lowLeasts A_highLeasts
def zf_A_findAttractors (A_count : Int32) (A_low : Nat → Int64) (A_high : Nat → Int64) (A_homes : Nat → Int32) (A_leasts : Nat → Int32) (A_states : Int32) (A_lowLeasts : Int64) (A_highLeasts : Int64) : Option (Int32 × (Nat → Int32) × (Nat → Int32) × Int64 × Int64) :=
  z_b1 (zf_JA_fill (-1 : Int32) 128 A_homes) fun A_homes_1 =>
  zf_A_findAttractors_25 z_FU (0 : Int32) (0 : Int32) A_low A_high A_homes_1 A_leasts A_states (0 : Int64) (0 : Int64)
def zf_A_markLeading (x1 : Int32) (x2 : Int32) (A_low : Nat → Int64) (A_high : Nat → Int64) : Option ((Nat → Int64) × (Nat → Int64)) :=
  if (64 : Int32) ≤ x2 then
    z_gd x1 128 <|
    z_gd x1 128 <|
    some (A_low, (vp_updL A_high x1.toNatClampNeg ((A_high x1.toNatClampNeg) ||| ((1 : Int64) <<< ((x2 &&& (63 : Int32)).toInt64 &&& 63)))))
  else
    z_gd x1 128 <|
    z_gd x1 128 <|
    some ((vp_updL A_low x1.toNatClampNeg ((A_low x1.toNatClampNeg) ||| ((1 : Int64) <<< (x2.toInt64 &&& 63)))), A_high)
def zf_A_markSteps_34 : Nat → Int32 → Int32 → Int32 → Int32 → (Nat → Int64) → (Nat → Int64) → Option ((Nat → Int64) × (Nat → Int64))
  | 0, _, _, _, _, _, _ => none
  | n + 1, x1, x2, x4, A_genes, A_low, A_high =>
    if A_genes ≤ x4 then
      some (A_low, A_high)
    else
      z_b2 (zf_A_markLeading x1 ((x1 &&& (((1 : Int32) <<< (x4 &&& 31)) ^^^ (-1 : Int32))) ||| (x2 &&& ((1 : Int32) <<< (x4 &&& 31)))) A_low A_high) fun A_low_1 A_high_1 =>
      (zf_A_markSteps_34 n) x1 x2 (x4 + (1 : Int32)) A_genes A_low_1 A_high_1
def zf_A_markSteps (x1 : Int32) (x2 : Int32) (x3 : Int32) (A_genes : Int32) (A_low : Nat → Int64) (A_high : Nat → Int64) : Option ((Nat → Int64) × (Nat → Int64)) :=
  z_gd x1 128 <|
  z_gd x1 128 <|
  z_b2 (zf_A_markLeading x1 x1 (vp_updL A_low x1.toNatClampNeg (0 : Int64)) (vp_updL A_high x1.toNatClampNeg (0 : Int64))) fun A_low_1 A_high_1 =>
  if x3 = 0 then
    z_b2 (zf_A_markLeading x1 x2 A_low_1 A_high_1) fun A_low_2 A_high_2 =>
    some (A_low_2, A_high_2)
  else
    zf_A_markSteps_34 z_FU x1 x2 (0 : Int32) A_genes A_low_1 A_high_1
def zf_A_run_20 : Nat → Int32 → Int32 → Int32 → (Nat → Int32) → (Nat → Int64) → (Nat → Int64) → Int32 → Int32 → (Nat → Int64) → (Nat → Int64) → (Nat → Int32) → (Nat → Int32) → Int32 → Int64 → Int64 → Option (Int32 × Int32 × (Nat → Int64) × (Nat → Int64) × (Nat → Int32) × (Nat → Int32) × Int32 × Int64 × Int64)
  | 0, _, _, _, _, _, _, _, _, _, _, _, _, _, _, _ => none
  | n + 1, x2, x3, R_count, R_fixed, R_low, R_high, A_genes, A_count, A_low, A_high, A_homes, A_leasts, A_states, A_lowLeasts, A_highLeasts =>
    if A_states ≤ x3 then
      z_b2 (zf_A_joinSteps A_low A_high A_states) fun A_low_1 A_high_1 =>
      z_b5 (zf_A_findAttractors A_count A_low_1 A_high_1 A_homes A_leasts A_states A_lowLeasts A_highLeasts) fun A_count_2 A_homes_2 A_leasts_2 A_lowLeasts_2 A_highLeasts_2 =>
      some (A_genes, A_count_2, A_low_1, A_high_1, A_homes_2, A_leasts_2, A_states, A_lowLeasts_2, A_highLeasts_2)
    else
      z_b1 (zf_R_stepTogether x3 R_count R_fixed R_low R_high) fun r3 =>
      z_b2 (zf_A_markSteps x3 r3 x2 A_genes A_low A_high) fun A_low_4 A_high_4 =>
      (zf_A_run_20 n) x2 (x3 + (1 : Int32)) R_count R_fixed R_low R_high A_genes A_count A_low_4 A_high_4 A_homes A_leasts A_states A_lowLeasts A_highLeasts
def zf_A_run (x2 : Int32) (R_count : Int32) (R_fixed : Nat → Int32) (R_low : Nat → Int64) (R_high : Nat → Int64) (A_genes : Int32) (A_count : Int32) (A_low : Nat → Int64) (A_high : Nat → Int64) (A_homes : Nat → Int32) (A_leasts : Nat → Int32) (A_states : Int32) (A_lowLeasts : Int64) (A_highLeasts : Int64) : Option (Int32 × Int32 × (Nat → Int64) × (Nat → Int64) × (Nat → Int32) × (Nat → Int32) × Int32 × Int64 × Int64) :=
  zf_A_run_20 z_FU x2 (0 : Int32) R_count R_fixed R_low R_high R_count A_count A_low A_high A_homes A_leasts ((1 : Int32) <<< (R_count &&& 31)) A_lowLeasts A_highLeasts
def zf_N_analyse (x1 : Int32) (R_count : Int32) (R_fixed : Nat → Int32) (R_low : Nat → Int64) (R_high : Nat → Int64) (A_genes : Int32) (A_count : Int32) (A_low : Nat → Int64) (A_high : Nat → Int64) (A_homes : Nat → Int32) (A_leasts : Nat → Int32) (A_states : Int32) (A_lowLeasts : Int64) (A_highLeasts : Int64) : Option (Int32 × Int32 × Int32 × (Nat → Int64) × (Nat → Int64) × (Nat → Int32) × (Nat → Int32) × Int32 × Int64 × Int64) :=
  if R_count = 0 then
    some ((-1 : Int32), A_genes, A_count, A_low, A_high, A_homes, A_leasts, A_states, A_lowLeasts, A_highLeasts)
  else
    z_b9 (zf_A_run x1 R_count R_fixed R_low R_high A_genes A_count A_low A_high A_homes A_leasts A_states A_lowLeasts A_highLeasts) fun A_genes_1 A_count_1 A_low_1 A_high_1 A_homes_1 A_leasts_1 A_states_1 A_lowLeasts_1 A_highLeasts_1 =>
    some (A_count_1, A_genes_1, A_count_1, A_low_1, A_high_1, A_homes_1, A_leasts_1, A_states_1, A_lowLeasts_1, A_highLeasts_1)
def zf_A_hasAttractor (x1 : Int32) (A_count : Int32) : Option (Int32) :=
  if x1 < 0 then
    z_gb (0 : Int32) <| some ((0 : Int32))
  else
    if A_count ≤ x1 then
      z_gb (0 : Int32) <| some ((0 : Int32))
    else
      z_gb (1 : Int32) <| some ((1 : Int32))
def zf_A_countStates (x1 : Int32) (A_low : Nat → Int64) (A_high : Nat → Int64) (A_leasts : Nat → Int32) : Option (Int32) :=
  z_gd x1 128 <|
  z_gd (A_leasts x1.toNatClampNeg) 128 <|
  z_b1 (zf_JL_bitCount (A_low (A_leasts x1.toNatClampNeg).toNatClampNeg)) fun r1 =>
  z_gd (A_leasts x1.toNatClampNeg) 128 <|
  z_b1 (zf_JL_bitCount (A_high (A_leasts x1.toNatClampNeg).toNatClampNeg)) fun r2 =>
  some ((r1 + r2))
def zf_N_size (x1 : Int32) (A_count : Int32) (A_low : Nat → Int64) (A_high : Nat → Int64) (A_leasts : Nat → Int32) : Option (Int32) :=
  z_b1 (zf_A_hasAttractor x1 A_count) fun r1 =>
  if r1 = 0 then
    some ((0 : Int32))
  else
    z_b1 (zf_A_countStates x1 A_low A_high A_leasts) fun r2 =>
    some (r2)
def zf_N_least (x1 : Int32) (A_count : Int32) (A_leasts : Nat → Int32) : Option (Int32) :=
  z_b1 (zf_A_hasAttractor x1 A_count) fun r1 =>
  if r1 = 0 then
    some ((-1 : Int32))
  else
    z_gd x1 128 <|
    some ((A_leasts x1.toNatClampNeg))
def zf_A_hasState (x1 : Int32) (A_states : Int32) : Option (Int32) :=
  if x1 < 0 then
    z_gb (0 : Int32) <| some ((0 : Int32))
  else
    if A_states ≤ x1 then
      z_gb (0 : Int32) <| some ((0 : Int32))
    else
      z_gb (1 : Int32) <| some ((1 : Int32))
def zf_N_attractor (x1 : Int32) (A_homes : Nat → Int32) (A_states : Int32) : Option (Int32) :=
  z_b1 (zf_A_hasState x1 A_states) fun r1 =>
  if r1 = 0 then
    some ((-1 : Int32))
  else
    z_gd x1 128 <|
    some ((A_homes x1.toNatClampNeg))
def zf_A_countLeading_4 : Nat → Int32 → Int32 → Int32 → (Nat → Int64) → (Nat → Int64) → (Nat → Int32) → Int32 → Option (Int32)
  | 0, _, _, _, _, _, _, _ => none
  | n + 1, x1, x2, x3, A_low, A_high, A_leasts, A_states =>
    if A_states ≤ x3 then
      some (x2)
    else
      z_gd x1 128 <|
      z_b1 (zf_A_leads x3 (A_leasts x1.toNatClampNeg) A_low A_high) fun r1 =>
      if r1 = 0 then
        (zf_A_countLeading_4 n) x1 x2 (x3 + (1 : Int32)) A_low A_high A_leasts A_states
      else
        (zf_A_countLeading_4 n) x1 (x2 + (1 : Int32)) (x3 + (1 : Int32)) A_low A_high A_leasts A_states
def zf_A_countLeading (x1 : Int32) (A_low : Nat → Int64) (A_high : Nat → Int64) (A_leasts : Nat → Int32) (A_states : Int32) : Option (Int32) :=
  zf_A_countLeading_4 z_FU x1 (0 : Int32) (0 : Int32) A_low A_high A_leasts A_states
def zf_N_basin (x1 : Int32) (A_count : Int32) (A_low : Nat → Int64) (A_high : Nat → Int64) (A_leasts : Nat → Int32) (A_states : Int32) : Option (Int32) :=
  z_b1 (zf_A_hasAttractor x1 A_count) fun r1 =>
  if r1 = 0 then
    some ((0 : Int32))
  else
    z_b1 (zf_A_countLeading x1 A_low A_high A_leasts A_states) fun r2 =>
    some (r2)
def zf_A_countAttractorsFrom (x1 : Int32) (A_low : Nat → Int64) (A_high : Nat → Int64) (A_lowLeasts : Int64) (A_highLeasts : Int64) : Option (Int32) :=
  z_gd x1 128 <|
  z_b1 (zf_JL_bitCount ((A_low x1.toNatClampNeg) &&& A_lowLeasts)) fun r1 =>
  z_gd x1 128 <|
  z_b1 (zf_JL_bitCount ((A_high x1.toNatClampNeg) &&& A_highLeasts)) fun r2 =>
  some ((r1 + r2))
def zf_A_countLeadingOnly_4 : Nat → Int32 → Int32 → Int32 → (Nat → Int64) → (Nat → Int64) → (Nat → Int32) → Int32 → Int64 → Int64 → Option (Int32)
  | 0, _, _, _, _, _, _, _, _, _ => none
  | n + 1, x1, x2, x3, A_low, A_high, A_leasts, A_states, A_lowLeasts, A_highLeasts =>
    if A_states ≤ x3 then
      some (x2)
    else
      z_gd x1 128 <|
      z_b1 (zf_A_leads x3 (A_leasts x1.toNatClampNeg) A_low A_high) fun r1 =>
      if r1 = 0 then
        (zf_A_countLeadingOnly_4 n) x1 x2 (x3 + (1 : Int32)) A_low A_high A_leasts A_states A_lowLeasts A_highLeasts
      else
        z_b1 (zf_A_countAttractorsFrom x3 A_low A_high A_lowLeasts A_highLeasts) fun r2 =>
        if r2 = (1 : Int32) then
          (zf_A_countLeadingOnly_4 n) x1 (x2 + (1 : Int32)) (x3 + (1 : Int32)) A_low A_high A_leasts A_states A_lowLeasts A_highLeasts
        else
          (zf_A_countLeadingOnly_4 n) x1 x2 (x3 + (1 : Int32)) A_low A_high A_leasts A_states A_lowLeasts A_highLeasts
def zf_A_countLeadingOnly (x1 : Int32) (A_low : Nat → Int64) (A_high : Nat → Int64) (A_leasts : Nat → Int32) (A_states : Int32) (A_lowLeasts : Int64) (A_highLeasts : Int64) : Option (Int32) :=
  zf_A_countLeadingOnly_4 z_FU x1 (0 : Int32) (0 : Int32) A_low A_high A_leasts A_states A_lowLeasts A_highLeasts
def zf_N_only (x1 : Int32) (A_count : Int32) (A_low : Nat → Int64) (A_high : Nat → Int64) (A_leasts : Nat → Int32) (A_states : Int32) (A_lowLeasts : Int64) (A_highLeasts : Int64) : Option (Int32) :=
  z_b1 (zf_A_hasAttractor x1 A_count) fun r1 =>
  if r1 = 0 then
    some ((0 : Int32))
  else
    z_b1 (zf_A_countLeadingOnly x1 A_low A_high A_leasts A_states A_lowLeasts A_highLeasts) fun r2 =>
    some (r2)
def zf_M_clear (M_count : Int32) : Option (Int32) :=
  some ((0 : Int32))
def zf_M_countInside_5 : Nat → Int32 → Int32 → Int32 → Int32 → Int64 → Int64 → Option (Int32)
  | 0, _, _, _, _, _, _ => none
  | n + 1, x1, x3, x4, M_genes, M_low, M_high =>
    if ((1 : Int32) <<< (M_genes &&& 31)) ≤ x4 then
      some (x3)
    else
      z_b1 (zf_N_bitOf M_low M_high x4) fun r1 =>
      (zf_M_countInside_5 n) x1 (x3 + r1) (x4 + ((1 : Int32) <<< (x1 &&& 31))) M_genes M_low M_high
def zf_M_countInside (x1 : Int32) (x2 : Int32) (M_genes : Int32) (M_low : Int64) (M_high : Int64) : Option (Int32) :=
  zf_M_countInside_5 z_FU x1 (0 : Int32) x2 M_genes M_low M_high
def zf_M_makesDifference_7 : Nat → Int32 → Int32 → Int32 → Int64 → Int64 → Option (Int32)
  | 0, _, _, _, _, _ => none
  | n + 1, x3, x4, M_genes, M_low, M_high =>
    if ((1 : Int32) <<< (M_genes &&& 31)) ≤ x4 then
      z_gb (0 : Int32) <| some ((0 : Int32))
    else
      z_b1 (zf_N_bitOf M_low M_high x4) fun r1 =>
      z_b1 (zf_N_bitOf M_low M_high (x4 + x3)) fun r2 =>
      if r1 = r2 then
        (zf_M_makesDifference_7 n) x3 (x4 + ((2 : Int32) * x3)) M_genes M_low M_high
      else
        z_gb (1 : Int32) <| some ((1 : Int32))
def zf_M_makesDifference (x1 : Int32) (x2 : Int32) (M_genes : Int32) (M_low : Int64) (M_high : Int64) : Option (Int32) :=
  zf_M_makesDifference_7 z_FU ((1 : Int32) <<< (x1 &&& 31)) x2 M_genes M_low M_high
def zf_M_given (x0 : Int32) (x1 : Int32) : Option (Int32) :=
  some ((x1 <<< (((2 : Int32) * x0) &&& 31)))
def zf_M_anyFrom_4 : Nat → Int32 → Int32 → Int32 → Option (Int32)
  | 0, _, _, _ => none
  | n + 1, x2, x3, M_genes =>
    if M_genes ≤ x3 then
      some (x2)
    else
      z_b1 (zf_M_given x3 (2 : Int32)) fun r1 =>
      (zf_M_anyFrom_4 n) (x2 + r1) (x3 + (1 : Int32)) M_genes
def zf_M_anyFrom (x1 : Int32) (M_genes : Int32) : Option (Int32) :=
  zf_M_anyFrom_4 z_FU (0 : Int32) x1 M_genes
def zf_M_split_b (rf : Int32 → Int32 → Int32 → (Nat → Int32) → Int32 → Int32 → Int64 → Int64 → Option ((Nat → Int32) × Int32)) (x1 : Int32) (x2 : Int32) (x3 : Int32) (M_made : Nat → Int32) (M_count : Int32) (M_genes : Int32) (M_low : Int64) (M_high : Int64) : Option ((Nat → Int32) × Int32) :=
  z_b1 (zf_M_countInside x1 x2 M_genes M_low M_high) fun r1 =>
  if r1 = ((1 : Int32) <<< ((M_genes - x1) &&& 31)) then
    z_b1 (zf_M_anyFrom x1 M_genes) fun r8 =>
    z_gd M_count 128 <|
    some ((upd M_made M_count.toNatClampNeg (x3 + r8)), (M_count + (1 : Int32)))
  else
    if r1 ≤ 0 then
      some (M_made, M_count)
    else
      if M_genes ≤ x1 then
        some (M_made, M_count)
      else
        z_b1 (zf_M_makesDifference x1 x2 M_genes M_low M_high) fun r2 =>
        if r2 = 0 then
          z_b1 (zf_M_given x1 (2 : Int32)) fun r3 =>
          z_b2 (rf (x1 + (1 : Int32)) x2 (x3 + r3) M_made M_count M_genes M_low M_high) fun M_made_4 M_count_4 =>
          some (M_made_4, M_count_4)
        else
          z_b2 (rf (x1 + (1 : Int32)) x2 x3 M_made M_count M_genes M_low M_high) fun M_made_5 M_count_5 =>
          z_b1 (zf_M_given x1 (1 : Int32)) fun r6 =>
          z_b2 (rf (x1 + (1 : Int32)) (x2 + ((1 : Int32) <<< (x1 &&& 31))) (x3 + r6) M_made_5 M_count_5 M_genes M_low M_high) fun M_made_7 M_count_7 =>
          some (M_made_7, M_count_7)
def zf_M_split : Nat → Int32 → Int32 → Int32 → (Nat → Int32) → Int32 → Int32 → Int64 → Int64 → Option ((Nat → Int32) × Int32)
  | 0, _, _, _, _, _, _, _, _ => none
  | d + 1, x1, x2, x3, M_made, M_count, M_genes, M_low, M_high => zf_M_split_b (zf_M_split d) x1 x2 x3 M_made M_count M_genes M_low M_high
def zf_M_make (x1 : Int32) (x2 : Int64) (x4 : Int64) (M_made : Nat → Int32) (M_count : Int32) (M_genes : Int32) (M_low : Int64) (M_high : Int64) : Option ((Nat → Int32) × Int32 × Int32 × Int64 × Int64) :=
  z_b2 (zf_M_split z_DEP (0 : Int32) (0 : Int32) (0 : Int32) M_made (0 : Int32) x1 x2 x4) fun M_made_1 M_count_1 =>
  some (M_made_1, M_count_1, x1, x2, x4)
def zf_N_makeCubes (x1 : Int32) (A_genes : Int32) (A_count : Int32) (A_low : Nat → Int64) (A_high : Nat → Int64) (A_leasts : Nat → Int32) (M_made : Nat → Int32) (M_count : Int32) (M_genes : Int32) (M_low : Int64) (M_high : Int64) : Option ((Nat → Int32) × Int32 × Int32 × Int64 × Int64) :=
  z_b1 (zf_A_hasAttractor x1 A_count) fun r1 =>
  if r1 = 0 then
    z_b1 (zf_M_clear M_count) fun M_count_2 =>
    some (M_made, M_count_2, M_genes, M_low, M_high)
  else
    z_gd x1 128 <|
    z_gd (A_leasts x1.toNatClampNeg) 128 <|
    z_gd (A_leasts x1.toNatClampNeg) 128 <|
    z_b5 (zf_M_make A_genes (A_low (A_leasts x1.toNatClampNeg).toNatClampNeg) (A_high (A_leasts x1.toNatClampNeg).toNatClampNeg) M_made M_count M_genes M_low M_high) fun M_made_3 M_count_3 M_genes_3 M_low_3 M_high_3 =>
    some (M_made_3, M_count_3, M_genes_3, M_low_3, M_high_3)
def zf_N_cubes (x1 : Int32) (A_genes : Int32) (A_count : Int32) (A_low : Nat → Int64) (A_high : Nat → Int64) (A_leasts : Nat → Int32) (M_made : Nat → Int32) (M_count : Int32) (M_genes : Int32) (M_low : Int64) (M_high : Int64) : Option (Int32 × (Nat → Int32) × Int32 × Int32 × Int64 × Int64) :=
  z_b5 (zf_N_makeCubes x1 A_genes A_count A_low A_high A_leasts M_made M_count M_genes M_low M_high) fun M_made_1 M_count_1 M_genes_1 M_low_1 M_high_1 =>
  some (M_count_1, M_made_1, M_count_1, M_genes_1, M_low_1, M_high_1)
def zf_N_cube (x1 : Int32) (x2 : Int32) (A_genes : Int32) (A_count : Int32) (A_low : Nat → Int64) (A_high : Nat → Int64) (A_leasts : Nat → Int32) (M_made : Nat → Int32) (M_count : Int32) (M_genes : Int32) (M_low : Int64) (M_high : Int64) : Option (Int32 × (Nat → Int32) × Int32 × Int32 × Int64 × Int64) :=
  z_b5 (zf_N_makeCubes x1 A_genes A_count A_low A_high A_leasts M_made M_count M_genes M_low M_high) fun M_made_1 M_count_1 M_genes_1 M_low_1 M_high_1 =>
  if x2 < 0 then
    some ((-1 : Int32), M_made_1, M_count_1, M_genes_1, M_low_1, M_high_1)
  else
    if M_count_1 ≤ x2 then
      some ((-1 : Int32), M_made_1, M_count_1, M_genes_1, M_low_1, M_high_1)
    else
      z_gd x2 128 <|
      some ((M_made_1 x2.toNatClampNeg), M_made_1, M_count_1, M_genes_1, M_low_1, M_high_1)
