def zf_Q_byteOf (x0 : Int64) (x2 : Int32) : Option (Int32) :=
  some (((x0 >>> (((8 : Int32) * x2).toInt64 &&& 63)) &&& (255 : Int64)).toInt32)
def zf_Q_write_52 (k5 : Int64 → Int32 → Int32 → Int32 → (Nat → Int32) → Option (Int32 × Int32 × (Nat → Int32))) (x1 : Int64) (x4 : Int32) (t0 : Int32) (t1 : Int32) (Q_size : Int32) (Q_text : Nat → Int32) : Option (Int32 × Int32 × (Nat → Int32)) :=
  k5 x1 (t0 + t1) (x4 + (1 : Int32)) Q_size Q_text
def zf_Q_write_41 (k5 : Int64 → Int32 → Int32 → Int32 → (Nat → Int32) → Option (Int32 × Int32 × (Nat → Int32))) (x1 : Int64) (x3 : Int32) (x4 : Int32) (x5 : Int32) (Q_size : Int32) (Q_text : Nat → Int32) : Option (Int32 × Int32 × (Nat → Int32)) :=
  if x5 = 0 then
    zf_Q_write_52 k5 x1 x4 x3 (0 : Int32) Q_size Q_text
  else
    zf_Q_write_52 k5 x1 x4 x3 (1 : Int32) Q_size Q_text
def zf_Q_write_77 : Nat → Int64 → Int32 → Int32 → (Nat → Int32) → Option (Int32 × Int32 × (Nat → Int32))
  | 0, _, _, _, _ => none
  | n + 1, x1, x4, Q_size, Q_text =>
    if (8 : Int32) ≤ x4 then
      z_gb (1 : Int32) <| some ((1 : Int32), Q_size, Q_text)
    else
      z_b1 (zf_Q_byteOf x1 x4) fun r1 =>
      if r1 = 0 then
        (zf_Q_write_77 n) x1 (x4 + (1 : Int32)) Q_size Q_text
      else
        z_gd Q_size 240 <|
        (zf_Q_write_77 n) x1 (x4 + (1 : Int32)) (Q_size + (1 : Int32)) (upd Q_text Q_size.toNatClampNeg r1)
def zf_Q_write_5 : Nat → Int64 → Int32 → Int32 → Int32 → (Nat → Int32) → Option (Int32 × Int32 × (Nat → Int32))
  | 0, _, _, _, _, _ => none
  | n + 1, x1, x3, x4, Q_size, Q_text =>
    if (8 : Int32) ≤ x4 then
      if (Q_size + x3) ≤ (240 : Int32) then
        zf_Q_write_77 z_FU x1 (0 : Int32) Q_size Q_text
      else
        z_gb (0 : Int32) <| some ((0 : Int32), Q_size, Q_text)
    else
      z_b1 (zf_Q_byteOf x1 x4) fun r1 =>
      if r1 = 0 then
        zf_Q_write_41 (zf_Q_write_5 n) x1 x3 x4 r1 Q_size Q_text
      else
        if r1 < (32 : Int32) then
          z_gb (0 : Int32) <| some ((0 : Int32), Q_size, Q_text)
        else
          if r1 ≤ (126 : Int32) then
            zf_Q_write_41 (zf_Q_write_5 n) x1 x3 x4 r1 Q_size Q_text
          else
            z_gb (0 : Int32) <| some ((0 : Int32), Q_size, Q_text)
def zf_Q_write (x1 : Int64) (Q_size : Int32) (Q_text : Nat → Int32) : Option (Int32 × Int32 × (Nat → Int32)) :=
  zf_Q_write_5 z_FU x1 (0 : Int32) (0 : Int32) Q_size Q_text
def zf_Q_wipe (Q_size : Int32) : Option (Int32) :=
  some ((0 : Int32))
def zf_Q_isName (x0 : Int32) : Option (Int32) :=
  if x0 < (97 : Int32) then
    z_gb (0 : Int32) <| some ((0 : Int32))
  else
    if (122 : Int32) < x0 then
      z_gb (0 : Int32) <| some ((0 : Int32))
    else
      z_gb (1 : Int32) <| some ((1 : Int32))
def zf_Q_newGene_2 : Nat → Int32 → Int32 → Int32 → (Nat → Int32) → Option (Int32)
  | 0, _, _, _, _ => none
  | n + 1, x1, x2, Q_found, Q_newNames =>
    if Q_found ≤ x2 then
      some ((-1 : Int32))
    else
      z_gd x2 7 <|
      if (Q_newNames x2.toNatClampNeg) = x1 then
        some (x2)
      else
        (zf_Q_newGene_2 n) x1 (x2 + (1 : Int32)) Q_found Q_newNames
def zf_Q_newGene (x1 : Int32) (Q_found : Int32) (Q_newNames : Nat → Int32) : Option (Int32) :=
  zf_Q_newGene_2 z_FU x1 (0 : Int32) Q_found Q_newNames
def zf_Q_pushValue (x1 : Int64) (x3 : Int64) (Q_values : Int32) (Q_valueLow : Nat → Int64) (Q_valueHigh : Nat → Int64) : Option (Int32 × (Nat → Int64) × (Nat → Int64)) :=
  z_gd Q_values 64 <|
  z_gd Q_values 64 <|
  some ((Q_values + (1 : Int32)), (vp_updL Q_valueLow Q_values.toNatClampNeg x1), (vp_updL Q_valueHigh Q_values.toNatClampNeg x3))
def zf_Q_apply_213 (t1 : Int32) (t2 : Int64) (Q_nested : Int32) (Q_marks : Int32) (Q_mark : Nat → Int32) (Q_values : Int32) (Q_valueLow : Nat → Int64) (Q_valueHigh : Nat → Int64) : Option (Int32 × Int32 × Int32 × (Nat → Int64) × (Nat → Int64)) :=
  z_gd t1 64 <|
  some (Q_nested, Q_marks, Q_values, Q_valueLow, (vp_updL Q_valueHigh t1.toNatClampNeg t2))
def zf_Q_apply_165 (x1 : Int32) (x4 : Int64) (t1 : Int32) (t2 : Int64) (Q_nested : Int32) (Q_marks : Int32) (Q_mark : Nat → Int32) (Q_values : Int32) (Q_valueLow : Nat → Int64) (Q_valueHigh : Nat → Int64) : Option (Int32 × Int32 × Int32 × (Nat → Int64) × (Nat → Int64)) :=
  z_gd t1 64 <|
  if x1 = (38 : Int32) then
    z_gd (Q_values - (1 : Int32)) 64 <|
    zf_Q_apply_213 (Q_values - (1 : Int32)) ((Q_valueHigh (Q_values - (1 : Int32)).toNatClampNeg) &&& x4) Q_nested Q_marks Q_mark Q_values (vp_updL Q_valueLow t1.toNatClampNeg t2) Q_valueHigh
  else
    z_gd (Q_values - (1 : Int32)) 64 <|
    zf_Q_apply_213 (Q_values - (1 : Int32)) ((Q_valueHigh (Q_values - (1 : Int32)).toNatClampNeg) ||| x4) Q_nested Q_marks Q_mark Q_values (vp_updL Q_valueLow t1.toNatClampNeg t2) Q_valueHigh
def zf_Q_apply (Q_nested : Int32) (Q_marks : Int32) (Q_mark : Nat → Int32) (Q_values : Int32) (Q_valueLow : Nat → Int64) (Q_valueHigh : Nat → Int64) : Option (Int32 × Int32 × Int32 × (Nat → Int64) × (Nat → Int64)) :=
  z_gd (Q_marks - (1 : Int32)) 64 <|
  if (Q_mark (Q_marks - (1 : Int32)).toNatClampNeg) = (33 : Int32) then
    z_gd (Q_values - (1 : Int32)) 64 <|
    z_gd (Q_values - (1 : Int32)) 64 <|
    z_gd (Q_values - (1 : Int32)) 64 <|
    z_gd (Q_values - (1 : Int32)) 64 <|
    some ((Q_nested - (1 : Int32)), (Q_marks - (1 : Int32)), Q_values, (vp_updL Q_valueLow (Q_values - (1 : Int32)).toNatClampNeg ((Q_valueLow (Q_values - (1 : Int32)).toNatClampNeg) ^^^ (-1 : Int64))), (vp_updL Q_valueHigh (Q_values - (1 : Int32)).toNatClampNeg ((Q_valueHigh (Q_values - (1 : Int32)).toNatClampNeg) ^^^ (-1 : Int64))))
  else
    z_gd (Q_values - (1 : Int32)) 64 <|
    z_gd (Q_values - (1 : Int32)) 64 <|
    if (Q_mark (Q_marks - (1 : Int32)).toNatClampNeg) = (38 : Int32) then
      z_gd ((Q_values - (1 : Int32)) - (1 : Int32)) 64 <|
      zf_Q_apply_165 (Q_mark (Q_marks - (1 : Int32)).toNatClampNeg) (Q_valueHigh (Q_values - (1 : Int32)).toNatClampNeg) ((Q_values - (1 : Int32)) - (1 : Int32)) ((Q_valueLow ((Q_values - (1 : Int32)) - (1 : Int32)).toNatClampNeg) &&& (Q_valueLow (Q_values - (1 : Int32)).toNatClampNeg)) Q_nested (Q_marks - (1 : Int32)) Q_mark (Q_values - (1 : Int32)) Q_valueLow Q_valueHigh
    else
      z_gd ((Q_values - (1 : Int32)) - (1 : Int32)) 64 <|
      zf_Q_apply_165 (Q_mark (Q_marks - (1 : Int32)).toNatClampNeg) (Q_valueHigh (Q_values - (1 : Int32)).toNatClampNeg) ((Q_values - (1 : Int32)) - (1 : Int32)) ((Q_valueLow ((Q_values - (1 : Int32)) - (1 : Int32)).toNatClampNeg) ||| (Q_valueLow (Q_values - (1 : Int32)).toNatClampNeg)) Q_nested (Q_marks - (1 : Int32)) Q_mark (Q_values - (1 : Int32)) Q_valueLow Q_valueHigh
def zf_Q_waits (x1 : Int32) (Q_marks : Int32) (Q_mark : Nat → Int32) : Option (Int32) :=
  if Q_marks ≤ 0 then
    z_gb (0 : Int32) <| some ((0 : Int32))
  else
    z_gd (Q_marks - (1 : Int32)) 64 <|
    if (Q_mark (Q_marks - (1 : Int32)).toNatClampNeg) = x1 then
      z_gb (1 : Int32) <| some ((1 : Int32))
    else
      z_gb (0 : Int32) <| some ((0 : Int32))
def zf_Q_finish_0 : Nat → Int32 → Int32 → (Nat → Int32) → Int32 → (Nat → Int64) → (Nat → Int64) → Option (Int32 × Int32 × Int32 × (Nat → Int64) × (Nat → Int64))
  | 0, _, _, _, _, _, _ => none
  | n + 1, Q_nested, Q_marks, Q_mark, Q_values, Q_valueLow, Q_valueHigh =>
    z_b1 (zf_Q_waits (33 : Int32) Q_marks Q_mark) fun r1 =>
    if r1 = 0 then
      some (Q_nested, Q_marks, Q_values, Q_valueLow, Q_valueHigh)
    else
      z_b5 (zf_Q_apply Q_nested Q_marks Q_mark Q_values Q_valueLow Q_valueHigh) fun Q_nested_2 Q_marks_2 Q_values_2 Q_valueLow_2 Q_valueHigh_2 =>
      (zf_Q_finish_0 n) Q_nested_2 Q_marks_2 Q_mark Q_values_2 Q_valueLow_2 Q_valueHigh_2
def zf_Q_finish (Q_nested : Int32) (Q_marks : Int32) (Q_mark : Nat → Int32) (Q_values : Int32) (Q_valueLow : Nat → Int64) (Q_valueHigh : Nat → Int64) : Option (Int32 × Int32 × Int32 × (Nat → Int64) × (Nat → Int64)) :=
  zf_Q_finish_0 z_FU Q_nested Q_marks Q_mark Q_values Q_valueLow Q_valueHigh
def zf_Q_operand_89 (x2 : Int64) (x4 : Int64) (Q_found : Int32) (Q_newNames : Nat → Int32) (Q_nested : Int32) (Q_marks : Int32) (Q_mark : Nat → Int32) (Q_values : Int32) (Q_valueLow : Nat → Int64) (Q_valueHigh : Nat → Int64) : Option (Int32 × Int32 × Int32 × (Nat → Int64) × (Nat → Int64)) :=
  z_b3 (zf_Q_pushValue x2 x4 Q_values Q_valueLow Q_valueHigh) fun Q_values_1 Q_valueLow_1 Q_valueHigh_1 =>
  z_b5 (zf_Q_finish Q_nested Q_marks Q_mark Q_values_1 Q_valueLow_1 Q_valueHigh_1) fun Q_nested_2 Q_marks_2 Q_values_2 Q_valueLow_2 Q_valueHigh_2 =>
  some (Q_nested_2, Q_marks_2, Q_values_2, Q_valueLow_2, Q_valueHigh_2)
def zf_Q_operand_38 : Nat → Int64 → Int64 → Int32 → Int32 → Int32 → (Nat → Int32) → Int32 → Int32 → (Nat → Int32) → Int32 → (Nat → Int64) → (Nat → Int64) → Option (Int32 × Int32 × Int32 × (Nat → Int64) × (Nat → Int64))
  | 0, _, _, _, _, _, _, _, _, _, _, _, _ => none
  | n + 1, x2, x4, x6, x7, Q_found, Q_newNames, Q_nested, Q_marks, Q_mark, Q_values, Q_valueLow, Q_valueHigh =>
    if (64 : Int32) ≤ x7 then
      zf_Q_operand_89 x2 x4 Q_found Q_newNames Q_nested Q_marks Q_mark Q_values Q_valueLow Q_valueHigh
    else
      if x6 < 0 then
        zf_Q_operand_89 x2 x4 Q_found Q_newNames Q_nested Q_marks Q_mark Q_values Q_valueLow Q_valueHigh
      else
        z_lt (x2 ||| (((x7 >>> (x6 &&& 31)) &&& (1 : Int32)).toInt64 <<< (x7.toInt64 &&& 63))) fun y1 =>
        z_lt (x4 ||| ((((x7 + (64 : Int32)) >>> (x6 &&& 31)) &&& (1 : Int32)).toInt64 <<< (x7.toInt64 &&& 63))) fun y2 =>
        (zf_Q_operand_38 n) y1 y2 x6 (x7 + (1 : Int32)) Q_found Q_newNames Q_nested Q_marks Q_mark Q_values Q_valueLow Q_valueHigh
def zf_Q_operand_33 (x2 : Int64) (x4 : Int64) (t0 : Int32) (Q_found : Int32) (Q_newNames : Nat → Int32) (Q_nested : Int32) (Q_marks : Int32) (Q_mark : Nat → Int32) (Q_values : Int32) (Q_valueLow : Nat → Int64) (Q_valueHigh : Nat → Int64) : Option (Int32 × Int32 × Int32 × (Nat → Int64) × (Nat → Int64)) :=
  zf_Q_operand_38 z_FU x2 x4 t0 (0 : Int32) Q_found Q_newNames Q_nested Q_marks Q_mark Q_values Q_valueLow Q_valueHigh
def zf_Q_operand_13 (x1 : Int32) (t0 : Int64) (Q_found : Int32) (Q_newNames : Nat → Int32) (Q_nested : Int32) (Q_marks : Int32) (Q_mark : Nat → Int32) (Q_values : Int32) (Q_valueLow : Nat → Int64) (Q_valueHigh : Nat → Int64) : Option (Int32 × Int32 × Int32 × (Nat → Int64) × (Nat → Int64)) :=
  z_b1 (zf_Q_isName x1) fun r1 =>
  if r1 = 0 then
    zf_Q_operand_33 t0 t0 (-1 : Int32) Q_found Q_newNames Q_nested Q_marks Q_mark Q_values Q_valueLow Q_valueHigh
  else
    z_b1 (zf_Q_newGene x1 Q_found Q_newNames) fun r2 =>
    zf_Q_operand_33 t0 t0 r2 Q_found Q_newNames Q_nested Q_marks Q_mark Q_values Q_valueLow Q_valueHigh
def zf_Q_operand (x1 : Int32) (Q_found : Int32) (Q_newNames : Nat → Int32) (Q_nested : Int32) (Q_marks : Int32) (Q_mark : Nat → Int32) (Q_values : Int32) (Q_valueLow : Nat → Int64) (Q_valueHigh : Nat → Int64) : Option (Int32 × Int32 × Int32 × (Nat → Int64) × (Nat → Int64)) :=
  if x1 = (49 : Int32) then
    zf_Q_operand_13 x1 (-1 : Int64) Q_found Q_newNames Q_nested Q_marks Q_mark Q_values Q_valueLow Q_valueHigh
  else
    zf_Q_operand_13 x1 (0 : Int64) Q_found Q_newNames Q_nested Q_marks Q_mark Q_values Q_valueLow Q_valueHigh
def zf_Q_begins_12 (x1 : Int32) (Q_found : Int32) (Q_newNames : Nat → Int32) (Q_nested : Int32) (Q_marks : Int32) (Q_mark : Nat → Int32) (Q_values : Int32) (Q_valueLow : Nat → Int64) (Q_valueHigh : Nat → Int64) : Option (Int32 × Int32 × Int32 × (Nat → Int32) × Int32 × (Nat → Int64) × (Nat → Int64)) :=
  if Q_nested = (12 : Int32) then
    z_gb (0 : Int32) <| some ((0 : Int32), Q_nested, Q_marks, Q_mark, Q_values, Q_valueLow, Q_valueHigh)
  else
    z_gd Q_marks 64 <|
    z_gb (1 : Int32) <| some ((1 : Int32), (Q_nested + (1 : Int32)), (Q_marks + (1 : Int32)), (upd Q_mark Q_marks.toNatClampNeg x1), Q_values, Q_valueLow, Q_valueHigh)
def zf_Q_begins_76 (x1 : Int32) (Q_found : Int32) (Q_newNames : Nat → Int32) (Q_nested : Int32) (Q_marks : Int32) (Q_mark : Nat → Int32) (Q_values : Int32) (Q_valueLow : Nat → Int64) (Q_valueHigh : Nat → Int64) : Option (Int32 × Int32 × Int32 × (Nat → Int32) × Int32 × (Nat → Int64) × (Nat → Int64)) :=
  z_b5 (zf_Q_operand x1 Q_found Q_newNames Q_nested Q_marks Q_mark Q_values Q_valueLow Q_valueHigh) fun Q_nested_1 Q_marks_1 Q_values_1 Q_valueLow_1 Q_valueHigh_1 =>
  z_gb (1 : Int32) <| some ((1 : Int32), Q_nested_1, Q_marks_1, Q_mark, Q_values_1, Q_valueLow_1, Q_valueHigh_1)
def zf_Q_begins (x1 : Int32) (Q_found : Int32) (Q_newNames : Nat → Int32) (Q_nested : Int32) (Q_marks : Int32) (Q_mark : Nat → Int32) (Q_values : Int32) (Q_valueLow : Nat → Int64) (Q_valueHigh : Nat → Int64) : Option (Int32 × Int32 × Int32 × (Nat → Int32) × Int32 × (Nat → Int64) × (Nat → Int64)) :=
  if x1 = (33 : Int32) then
    zf_Q_begins_12 x1 Q_found Q_newNames Q_nested Q_marks Q_mark Q_values Q_valueLow Q_valueHigh
  else
    if x1 = (40 : Int32) then
      zf_Q_begins_12 x1 Q_found Q_newNames Q_nested Q_marks Q_mark Q_values Q_valueLow Q_valueHigh
    else
      z_b1 (zf_Q_isName x1) fun r1 =>
      if r1 = 0 then
        if x1 = (48 : Int32) then
          zf_Q_begins_76 x1 Q_found Q_newNames Q_nested Q_marks Q_mark Q_values Q_valueLow Q_valueHigh
        else
          if x1 = (49 : Int32) then
            zf_Q_begins_76 x1 Q_found Q_newNames Q_nested Q_marks Q_mark Q_values Q_valueLow Q_valueHigh
          else
            z_gb (0 : Int32) <| some ((0 : Int32), Q_nested, Q_marks, Q_mark, Q_values, Q_valueLow, Q_valueHigh)
      else
        zf_Q_begins_76 x1 Q_found Q_newNames Q_nested Q_marks Q_mark Q_values Q_valueLow Q_valueHigh
def zf_Q_goesOn_44 (k20 : Int32 → Int32 → Int32 → (Nat → Int32) → Int32 → (Nat → Int64) → (Nat → Int64) → Option (Int32 × Int32 × Int32 × (Nat → Int32) × Int32 × (Nat → Int64) × (Nat → Int64))) (x1 : Int32) (Q_nested : Int32) (Q_marks : Int32) (Q_mark : Nat → Int32) (Q_values : Int32) (Q_valueLow : Nat → Int64) (Q_valueHigh : Nat → Int64) : Option (Int32 × Int32 × Int32 × (Nat → Int32) × Int32 × (Nat → Int64) × (Nat → Int64)) :=
  z_b5 (zf_Q_apply Q_nested Q_marks Q_mark Q_values Q_valueLow Q_valueHigh) fun Q_nested_1 Q_marks_1 Q_values_1 Q_valueLow_1 Q_valueHigh_1 =>
  k20 x1 Q_nested_1 Q_marks_1 Q_mark Q_values_1 Q_valueLow_1 Q_valueHigh_1
def zf_Q_goesOn_51 (x1 : Int32) (Q_nested : Int32) (Q_marks : Int32) (Q_mark : Nat → Int32) (Q_values : Int32) (Q_valueLow : Nat → Int64) (Q_valueHigh : Nat → Int64) : Option (Int32 × Int32 × Int32 × (Nat → Int32) × Int32 × (Nat → Int64) × (Nat → Int64)) :=
  if x1 = (41 : Int32) then
    z_b1 (zf_Q_waits (40 : Int32) Q_marks Q_mark) fun r1 =>
    if r1 = 0 then
      z_gb (0 : Int32) <| some ((0 : Int32), Q_nested, Q_marks, Q_mark, Q_values, Q_valueLow, Q_valueHigh)
    else
      z_b5 (zf_Q_finish (Q_nested - (1 : Int32)) (Q_marks - (1 : Int32)) Q_mark Q_values Q_valueLow Q_valueHigh) fun Q_nested_2 Q_marks_2 Q_values_2 Q_valueLow_2 Q_valueHigh_2 =>
      z_gb (1 : Int32) <| some ((1 : Int32), Q_nested_2, Q_marks_2, Q_mark, Q_values_2, Q_valueLow_2, Q_valueHigh_2)
  else
    z_gd Q_marks 64 <|
    z_gb (1 : Int32) <| some ((1 : Int32), Q_nested, (Q_marks + (1 : Int32)), (upd Q_mark Q_marks.toNatClampNeg x1), Q_values, Q_valueLow, Q_valueHigh)
def zf_Q_goesOn_20 : Nat → Int32 → Int32 → Int32 → (Nat → Int32) → Int32 → (Nat → Int64) → (Nat → Int64) → Option (Int32 × Int32 × Int32 × (Nat → Int32) × Int32 × (Nat → Int64) × (Nat → Int64))
  | 0, _, _, _, _, _, _, _ => none
  | n + 1, x1, Q_nested, Q_marks, Q_mark, Q_values, Q_valueLow, Q_valueHigh =>
    z_b1 (zf_Q_waits (38 : Int32) Q_marks Q_mark) fun r1 =>
    if r1 = 0 then
      if x1 = (38 : Int32) then
        zf_Q_goesOn_51 x1 Q_nested Q_marks Q_mark Q_values Q_valueLow Q_valueHigh
      else
        z_b1 (zf_Q_waits (124 : Int32) Q_marks Q_mark) fun r2 =>
        if r2 = 0 then
          zf_Q_goesOn_51 x1 Q_nested Q_marks Q_mark Q_values Q_valueLow Q_valueHigh
        else
          zf_Q_goesOn_44 (zf_Q_goesOn_20 n) x1 Q_nested Q_marks Q_mark Q_values Q_valueLow Q_valueHigh
    else
      zf_Q_goesOn_44 (zf_Q_goesOn_20 n) x1 Q_nested Q_marks Q_mark Q_values Q_valueLow Q_valueHigh
def zf_Q_goesOn (x1 : Int32) (Q_nested : Int32) (Q_marks : Int32) (Q_mark : Nat → Int32) (Q_values : Int32) (Q_valueLow : Nat → Int64) (Q_valueHigh : Nat → Int64) : Option (Int32 × Int32 × Int32 × (Nat → Int32) × Int32 × (Nat → Int64) × (Nat → Int64)) :=
  if x1 = (38 : Int32) then
    zf_Q_goesOn_20 z_FU x1 Q_nested Q_marks Q_mark Q_values Q_valueLow Q_valueHigh
  else
    if x1 = (124 : Int32) then
      zf_Q_goesOn_20 z_FU x1 Q_nested Q_marks Q_mark Q_values Q_valueLow Q_valueHigh
    else
      if x1 = (41 : Int32) then
        zf_Q_goesOn_20 z_FU x1 Q_nested Q_marks Q_mark Q_values Q_valueLow Q_valueHigh
      else
        z_gb (0 : Int32) <| some ((0 : Int32), Q_nested, Q_marks, Q_mark, Q_values, Q_valueLow, Q_valueHigh)
def zf_Q_ends_18 (k0 : Int32 → (Nat → Int64) → (Nat → Int64) → Int32 → Int32 → (Nat → Int32) → Int32 → (Nat → Int64) → (Nat → Int64) → Int32 → Option (Int32 × (Nat → Int64) × (Nat → Int64) × Int32 × Int32 × Int32 × (Nat → Int64) × (Nat → Int64) × Int32)) (x1 : Int32) (Q_low : Nat → Int64) (Q_high : Nat → Int64) (Q_nested : Int32) (Q_marks : Int32) (Q_mark : Nat → Int32) (Q_values : Int32) (Q_valueLow : Nat → Int64) (Q_valueHigh : Nat → Int64) (Q_rules : Int32) : Option (Int32 × (Nat → Int64) × (Nat → Int64) × Int32 × Int32 × Int32 × (Nat → Int64) × (Nat → Int64) × Int32) :=
  z_b5 (zf_Q_apply Q_nested Q_marks Q_mark Q_values Q_valueLow Q_valueHigh) fun Q_nested_1 Q_marks_1 Q_values_1 Q_valueLow_1 Q_valueHigh_1 =>
  k0 x1 Q_low Q_high Q_nested_1 Q_marks_1 Q_mark Q_values_1 Q_valueLow_1 Q_valueHigh_1 Q_rules
def zf_Q_ends_73 (Q_low : Nat → Int64) (Q_high : Nat → Int64) (Q_nested : Int32) (Q_marks : Int32) (Q_mark : Nat → Int32) (Q_values : Int32) (Q_valueLow : Nat → Int64) (Q_valueHigh : Nat → Int64) (Q_rules : Int32) : Option (Int32 × (Nat → Int64) × (Nat → Int64) × Int32 × Int32 × Int32 × (Nat → Int64) × (Nat → Int64) × Int32) :=
  z_gb (1 : Int32) <| some ((1 : Int32), Q_low, Q_high, Q_nested, Q_marks, Q_values, Q_valueLow, Q_valueHigh, (Q_rules + (1 : Int32)))
def zf_Q_ends_0 : Nat → Int32 → (Nat → Int64) → (Nat → Int64) → Int32 → Int32 → (Nat → Int32) → Int32 → (Nat → Int64) → (Nat → Int64) → Int32 → Option (Int32 × (Nat → Int64) × (Nat → Int64) × Int32 × Int32 × Int32 × (Nat → Int64) × (Nat → Int64) × Int32)
  | 0, _, _, _, _, _, _, _, _, _, _ => none
  | n + 1, x1, Q_low, Q_high, Q_nested, Q_marks, Q_mark, Q_values, Q_valueLow, Q_valueHigh, Q_rules =>
    z_b1 (zf_Q_waits (38 : Int32) Q_marks Q_mark) fun r1 =>
    if r1 = 0 then
      z_b1 (zf_Q_waits (124 : Int32) Q_marks Q_mark) fun r2 =>
      if r2 = 0 then
        if Q_marks ≤ 0 then
          if x1 = 0 then
            zf_Q_ends_73 Q_low Q_high Q_nested Q_marks Q_mark (0 : Int32) Q_valueLow Q_valueHigh Q_rules
          else
            z_gd (0 : Int32) 64 <|
            z_gd Q_rules 7 <|
            z_gd (0 : Int32) 64 <|
            z_gd Q_rules 7 <|
            zf_Q_ends_73 (vp_updL Q_low Q_rules.toNatClampNeg (Q_valueLow (0 : Int32).toNatClampNeg)) (vp_updL Q_high Q_rules.toNatClampNeg (Q_valueHigh (0 : Int32).toNatClampNeg)) Q_nested Q_marks Q_mark (0 : Int32) Q_valueLow Q_valueHigh Q_rules
        else
          z_gb (0 : Int32) <| some ((0 : Int32), Q_low, Q_high, Q_nested, Q_marks, Q_values, Q_valueLow, Q_valueHigh, Q_rules)
      else
        zf_Q_ends_18 (zf_Q_ends_0 n) x1 Q_low Q_high Q_nested Q_marks Q_mark Q_values Q_valueLow Q_valueHigh Q_rules
    else
      zf_Q_ends_18 (zf_Q_ends_0 n) x1 Q_low Q_high Q_nested Q_marks Q_mark Q_values Q_valueLow Q_valueHigh Q_rules
def zf_Q_ends (x1 : Int32) (Q_low : Nat → Int64) (Q_high : Nat → Int64) (Q_nested : Int32) (Q_marks : Int32) (Q_mark : Nat → Int32) (Q_values : Int32) (Q_valueLow : Nat → Int64) (Q_valueHigh : Nat → Int64) (Q_rules : Int32) : Option (Int32 × (Nat → Int64) × (Nat → Int64) × Int32 × Int32 × Int32 × (Nat → Int64) × (Nat → Int64) × Int32) :=
  zf_Q_ends_0 z_FU x1 Q_low Q_high Q_nested Q_marks Q_mark Q_values Q_valueLow Q_valueHigh Q_rules
def zf_Q_isNew (x1 : Int32) (Q_found : Int32) (Q_newNames : Nat → Int32) : Option (Int32 × Int32 × (Nat → Int32)) :=
  z_b1 (zf_Q_newGene x1 Q_found Q_newNames) fun r1 =>
  if r1 = (-1 : Int32) then
    if Q_found = (7 : Int32) then
      z_gb (0 : Int32) <| some ((0 : Int32), Q_found, Q_newNames)
    else
      z_gd Q_found 7 <|
      z_gb (1 : Int32) <| some ((1 : Int32), (Q_found + (1 : Int32)), (upd Q_newNames Q_found.toNatClampNeg x1))
  else
    z_gb (0 : Int32) <| some ((0 : Int32), Q_found, Q_newNames)
def zf_Q_scan_213 (k24 : Int32 → Int32 → Int32 → Int32 → (Nat → Int32) → (Nat → Int64) → (Nat → Int64) → Int32 → (Nat → Int32) → Int32 → Int32 → (Nat → Int32) → Int32 → (Nat → Int64) → (Nat → Int64) → Int32 → Option (Int32 × (Nat → Int64) × (Nat → Int64) × Int32 × (Nat → Int32) × Int32 × Int32 × (Nat → Int32) × Int32 × (Nat → Int64) × (Nat → Int64) × Int32)) (x1 : Int32) (x3 : Int32) (t0 : Int32) (Q_size : Int32) (Q_text : Nat → Int32) (Q_low : Nat → Int64) (Q_high : Nat → Int64) (Q_found : Int32) (Q_newNames : Nat → Int32) (Q_nested : Int32) (Q_marks : Int32) (Q_mark : Nat → Int32) (Q_values : Int32) (Q_valueLow : Nat → Int64) (Q_valueHigh : Nat → Int64) (Q_rules : Int32) : Option (Int32 × (Nat → Int64) × (Nat → Int64) × Int32 × (Nat → Int32) × Int32 × Int32 × (Nat → Int32) × Int32 × (Nat → Int64) × (Nat → Int64) × Int32) :=
  k24 x1 t0 (x3 + (1 : Int32)) Q_size Q_text Q_low Q_high Q_found Q_newNames Q_nested Q_marks Q_mark Q_values Q_valueLow Q_valueHigh Q_rules
def zf_Q_scan_182 (k24 : Int32 → Int32 → Int32 → Int32 → (Nat → Int32) → (Nat → Int64) → (Nat → Int64) → Int32 → (Nat → Int32) → Int32 → Int32 → (Nat → Int32) → Int32 → (Nat → Int64) → (Nat → Int64) → Int32 → Option (Int32 × (Nat → Int64) × (Nat → Int64) × Int32 × (Nat → Int32) × Int32 × Int32 × (Nat → Int32) × Int32 × (Nat → Int64) × (Nat → Int64) × Int32)) (x1 : Int32) (x3 : Int32) (Q_size : Int32) (Q_text : Nat → Int32) (Q_low : Nat → Int64) (Q_high : Nat → Int64) (Q_found : Int32) (Q_newNames : Nat → Int32) (Q_nested : Int32) (Q_marks : Int32) (Q_mark : Nat → Int32) (Q_values : Int32) (Q_valueLow : Nat → Int64) (Q_valueHigh : Nat → Int64) (Q_rules : Int32) : Option (Int32 × (Nat → Int64) × (Nat → Int64) × Int32 × (Nat → Int32) × Int32 × Int32 × (Nat → Int32) × Int32 × (Nat → Int64) × (Nat → Int64) × Int32) :=
  zf_Q_scan_213 k24 x1 x3 (2 : Int32) Q_size Q_text Q_low Q_high Q_found Q_newNames Q_nested Q_marks Q_mark Q_values Q_valueLow Q_valueHigh Q_rules
def zf_Q_scan_135 (k24 : Int32 → Int32 → Int32 → Int32 → (Nat → Int32) → (Nat → Int64) → (Nat → Int64) → Int32 → (Nat → Int32) → Int32 → Int32 → (Nat → Int32) → Int32 → (Nat → Int64) → (Nat → Int64) → Int32 → Option (Int32 × (Nat → Int64) × (Nat → Int64) × Int32 × (Nat → Int32) × Int32 × Int32 × (Nat → Int32) × Int32 × (Nat → Int64) × (Nat → Int64) × Int32)) (x1 : Int32) (x2 : Int32) (x3 : Int32) (x4 : Int32) (t0 : Int32) (Q_size : Int32) (Q_text : Nat → Int32) (Q_low : Nat → Int64) (Q_high : Nat → Int64) (Q_found : Int32) (Q_newNames : Nat → Int32) (Q_nested : Int32) (Q_marks : Int32) (Q_mark : Nat → Int32) (Q_values : Int32) (Q_valueLow : Nat → Int64) (Q_valueHigh : Nat → Int64) (Q_rules : Int32) : Option (Int32 × (Nat → Int64) × (Nat → Int64) × Int32 × (Nat → Int32) × Int32 × Int32 × (Nat → Int32) × Int32 × (Nat → Int64) × (Nat → Int64) × Int32) :=
  if t0 = 0 then
    some ((x3 + (1 : Int32)), Q_low, Q_high, Q_found, Q_newNames, Q_nested, Q_marks, Q_mark, Q_values, Q_valueLow, Q_valueHigh, Q_rules)
  else
    if x2 = 0 then
      zf_Q_scan_213 k24 x1 x3 (1 : Int32) Q_size Q_text Q_low Q_high Q_found Q_newNames Q_nested Q_marks Q_mark Q_values Q_valueLow Q_valueHigh Q_rules
    else
      if x2 = (1 : Int32) then
        zf_Q_scan_213 k24 x1 x3 (2 : Int32) Q_size Q_text Q_low Q_high Q_found Q_newNames Q_nested Q_marks Q_mark Q_values Q_valueLow Q_valueHigh Q_rules
      else
        if x2 = (2 : Int32) then
          if x4 = (33 : Int32) then
            zf_Q_scan_182 k24 x1 x3 Q_size Q_text Q_low Q_high Q_found Q_newNames Q_nested Q_marks Q_mark Q_values Q_valueLow Q_valueHigh Q_rules
          else
            if x4 = (40 : Int32) then
              zf_Q_scan_182 k24 x1 x3 Q_size Q_text Q_low Q_high Q_found Q_newNames Q_nested Q_marks Q_mark Q_values Q_valueLow Q_valueHigh Q_rules
            else
              zf_Q_scan_213 k24 x1 x3 (3 : Int32) Q_size Q_text Q_low Q_high Q_found Q_newNames Q_nested Q_marks Q_mark Q_values Q_valueLow Q_valueHigh Q_rules
        else
          if x4 = (59 : Int32) then
            zf_Q_scan_213 k24 x1 x3 (0 : Int32) Q_size Q_text Q_low Q_high Q_found Q_newNames Q_nested Q_marks Q_mark Q_values Q_valueLow Q_valueHigh Q_rules
          else
            if x4 = (41 : Int32) then
              zf_Q_scan_213 k24 x1 x3 (3 : Int32) Q_size Q_text Q_low Q_high Q_found Q_newNames Q_nested Q_marks Q_mark Q_values Q_valueLow Q_valueHigh Q_rules
            else
              zf_Q_scan_213 k24 x1 x3 (2 : Int32) Q_size Q_text Q_low Q_high Q_found Q_newNames Q_nested Q_marks Q_mark Q_values Q_valueLow Q_valueHigh Q_rules
def zf_Q_scan_72 (k24 : Int32 → Int32 → Int32 → Int32 → (Nat → Int32) → (Nat → Int64) → (Nat → Int64) → Int32 → (Nat → Int32) → Int32 → Int32 → (Nat → Int32) → Int32 → (Nat → Int64) → (Nat → Int64) → Int32 → Option (Int32 × (Nat → Int64) × (Nat → Int64) × Int32 × (Nat → Int32) × Int32 × Int32 × (Nat → Int32) × Int32 × (Nat → Int64) × (Nat → Int64) × Int32)) (x1 : Int32) (x2 : Int32) (x3 : Int32) (x4 : Int32) (Q_size : Int32) (Q_text : Nat → Int32) (Q_low : Nat → Int64) (Q_high : Nat → Int64) (Q_found : Int32) (Q_newNames : Nat → Int32) (Q_nested : Int32) (Q_marks : Int32) (Q_mark : Nat → Int32) (Q_values : Int32) (Q_valueLow : Nat → Int64) (Q_valueHigh : Nat → Int64) (Q_rules : Int32) : Option (Int32 × (Nat → Int64) × (Nat → Int64) × Int32 × (Nat → Int32) × Int32 × Int32 × (Nat → Int32) × Int32 × (Nat → Int64) × (Nat → Int64) × Int32) :=
  zf_Q_scan_135 k24 x1 x2 x3 x4 (1 : Int32) Q_size Q_text Q_low Q_high Q_found Q_newNames Q_nested Q_marks Q_mark Q_values Q_valueLow Q_valueHigh Q_rules
def zf_Q_scan_76 (k24 : Int32 → Int32 → Int32 → Int32 → (Nat → Int32) → (Nat → Int64) → (Nat → Int64) → Int32 → (Nat → Int32) → Int32 → Int32 → (Nat → Int32) → Int32 → (Nat → Int64) → (Nat → Int64) → Int32 → Option (Int32 × (Nat → Int64) × (Nat → Int64) × Int32 × (Nat → Int32) × Int32 × Int32 × (Nat → Int32) × Int32 × (Nat → Int64) × (Nat → Int64) × Int32)) (x1 : Int32) (x2 : Int32) (x3 : Int32) (x4 : Int32) (Q_size : Int32) (Q_text : Nat → Int32) (Q_low : Nat → Int64) (Q_high : Nat → Int64) (Q_found : Int32) (Q_newNames : Nat → Int32) (Q_nested : Int32) (Q_marks : Int32) (Q_mark : Nat → Int32) (Q_values : Int32) (Q_valueLow : Nat → Int64) (Q_valueHigh : Nat → Int64) (Q_rules : Int32) : Option (Int32 × (Nat → Int64) × (Nat → Int64) × Int32 × (Nat → Int32) × Int32 × Int32 × (Nat → Int32) × Int32 × (Nat → Int64) × (Nat → Int64) × Int32) :=
  zf_Q_scan_135 k24 x1 x2 x3 x4 (0 : Int32) Q_size Q_text Q_low Q_high Q_found Q_newNames Q_nested Q_marks Q_mark Q_values Q_valueLow Q_valueHigh Q_rules
def zf_Q_scan_237 (Q_size : Int32) (Q_text : Nat → Int32) (Q_low : Nat → Int64) (Q_high : Nat → Int64) (Q_found : Int32) (Q_newNames : Nat → Int32) (Q_nested : Int32) (Q_marks : Int32) (Q_mark : Nat → Int32) (Q_values : Int32) (Q_valueLow : Nat → Int64) (Q_valueHigh : Nat → Int64) (Q_rules : Int32) : Option (Int32 × (Nat → Int64) × (Nat → Int64) × Int32 × (Nat → Int32) × Int32 × Int32 × (Nat → Int32) × Int32 × (Nat → Int64) × (Nat → Int64) × Int32) :=
  some ((Q_size + (1 : Int32)), Q_low, Q_high, Q_found, Q_newNames, Q_nested, Q_marks, Q_mark, Q_values, Q_valueLow, Q_valueHigh, Q_rules)
def zf_Q_scan_24 : Nat → Int32 → Int32 → Int32 → Int32 → (Nat → Int32) → (Nat → Int64) → (Nat → Int64) → Int32 → (Nat → Int32) → Int32 → Int32 → (Nat → Int32) → Int32 → (Nat → Int64) → (Nat → Int64) → Int32 → Option (Int32 × (Nat → Int64) × (Nat → Int64) × Int32 × (Nat → Int32) × Int32 × Int32 × (Nat → Int32) × Int32 × (Nat → Int64) × (Nat → Int64) × Int32)
  | 0, _, _, _, _, _, _, _, _, _, _, _, _, _, _, _, _ => none
  | n + 1, x1, x2, x3, Q_size, Q_text, Q_low, Q_high, Q_found, Q_newNames, Q_nested, Q_marks, Q_mark, Q_values, Q_valueLow, Q_valueHigh, Q_rules =>
    if Q_size ≤ x3 then
      if x2 = (3 : Int32) then
        z_b9 (zf_Q_ends x1 Q_low Q_high Q_nested Q_marks Q_mark Q_values Q_valueLow Q_valueHigh Q_rules) fun r1 Q_low_1 Q_high_1 Q_nested_1 Q_marks_1 Q_values_1 Q_valueLow_1 Q_valueHigh_1 Q_rules_1 =>
        if r1 = 0 then
          zf_Q_scan_237 Q_size Q_text Q_low_1 Q_high_1 Q_found Q_newNames Q_nested_1 Q_marks_1 Q_mark Q_values_1 Q_valueLow_1 Q_valueHigh_1 Q_rules_1
        else
          some ((0 : Int32), Q_low_1, Q_high_1, Q_found, Q_newNames, Q_nested_1, Q_marks_1, Q_mark, Q_values_1, Q_valueLow_1, Q_valueHigh_1, Q_rules_1)
      else
        zf_Q_scan_237 Q_size Q_text Q_low Q_high Q_found Q_newNames Q_nested Q_marks Q_mark Q_values Q_valueLow Q_valueHigh Q_rules
    else
      z_gd x3 240 <|
      if (Q_text x3.toNatClampNeg) = (32 : Int32) then
        (zf_Q_scan_24 n) x1 x2 (x3 + (1 : Int32)) Q_size Q_text Q_low Q_high Q_found Q_newNames Q_nested Q_marks Q_mark Q_values Q_valueLow Q_valueHigh Q_rules
      else
        if x2 = 0 then
          z_b1 (zf_Q_isName (Q_text x3.toNatClampNeg)) fun r5 =>
          if r5 = 0 then
            zf_Q_scan_76 (zf_Q_scan_24 n) x1 x2 x3 (Q_text x3.toNatClampNeg) Q_size Q_text Q_low Q_high Q_found Q_newNames Q_nested Q_marks Q_mark Q_values Q_valueLow Q_valueHigh Q_rules
          else
            if x1 = 0 then
              z_b3 (zf_Q_isNew (Q_text x3.toNatClampNeg) Q_found Q_newNames) fun r6 Q_found_6 Q_newNames_6 =>
              if r6 = 0 then
                zf_Q_scan_76 (zf_Q_scan_24 n) x1 x2 x3 (Q_text x3.toNatClampNeg) Q_size Q_text Q_low Q_high Q_found_6 Q_newNames_6 Q_nested Q_marks Q_mark Q_values Q_valueLow Q_valueHigh Q_rules
              else
                zf_Q_scan_72 (zf_Q_scan_24 n) x1 x2 x3 (Q_text x3.toNatClampNeg) Q_size Q_text Q_low Q_high Q_found_6 Q_newNames_6 Q_nested Q_marks Q_mark Q_values Q_valueLow Q_valueHigh Q_rules
            else
              zf_Q_scan_72 (zf_Q_scan_24 n) x1 x2 x3 (Q_text x3.toNatClampNeg) Q_size Q_text Q_low Q_high Q_found Q_newNames Q_nested Q_marks Q_mark Q_values Q_valueLow Q_valueHigh Q_rules
        else
          if x2 = (1 : Int32) then
            if (Q_text x3.toNatClampNeg) = (44 : Int32) then
              zf_Q_scan_135 (zf_Q_scan_24 n) x1 x2 x3 (Q_text x3.toNatClampNeg) (1 : Int32) Q_size Q_text Q_low Q_high Q_found Q_newNames Q_nested Q_marks Q_mark Q_values Q_valueLow Q_valueHigh Q_rules
            else
              zf_Q_scan_135 (zf_Q_scan_24 n) x1 x2 x3 (Q_text x3.toNatClampNeg) (0 : Int32) Q_size Q_text Q_low Q_high Q_found Q_newNames Q_nested Q_marks Q_mark Q_values Q_valueLow Q_valueHigh Q_rules
          else
            if x2 = (2 : Int32) then
              z_b7 (zf_Q_begins (Q_text x3.toNatClampNeg) Q_found Q_newNames Q_nested Q_marks Q_mark Q_values Q_valueLow Q_valueHigh) fun r4 Q_nested_4 Q_marks_4 Q_mark_4 Q_values_4 Q_valueLow_4 Q_valueHigh_4 =>
              zf_Q_scan_135 (zf_Q_scan_24 n) x1 x2 x3 (Q_text x3.toNatClampNeg) r4 Q_size Q_text Q_low Q_high Q_found Q_newNames Q_nested_4 Q_marks_4 Q_mark_4 Q_values_4 Q_valueLow_4 Q_valueHigh_4 Q_rules
            else
              if (Q_text x3.toNatClampNeg) = (59 : Int32) then
                z_b9 (zf_Q_ends x1 Q_low Q_high Q_nested Q_marks Q_mark Q_values Q_valueLow Q_valueHigh Q_rules) fun r3 Q_low_3 Q_high_3 Q_nested_3 Q_marks_3 Q_values_3 Q_valueLow_3 Q_valueHigh_3 Q_rules_3 =>
                zf_Q_scan_135 (zf_Q_scan_24 n) x1 x2 x3 (Q_text x3.toNatClampNeg) r3 Q_size Q_text Q_low_3 Q_high_3 Q_found Q_newNames Q_nested_3 Q_marks_3 Q_mark Q_values_3 Q_valueLow_3 Q_valueHigh_3 Q_rules_3
              else
                z_b7 (zf_Q_goesOn (Q_text x3.toNatClampNeg) Q_nested Q_marks Q_mark Q_values Q_valueLow Q_valueHigh) fun r2 Q_nested_2 Q_marks_2 Q_mark_2 Q_values_2 Q_valueLow_2 Q_valueHigh_2 =>
                zf_Q_scan_135 (zf_Q_scan_24 n) x1 x2 x3 (Q_text x3.toNatClampNeg) r2 Q_size Q_text Q_low Q_high Q_found Q_newNames Q_nested_2 Q_marks_2 Q_mark_2 Q_values_2 Q_valueLow_2 Q_valueHigh_2 Q_rules
def zf_Q_scan (x1 : Int32) (Q_size : Int32) (Q_text : Nat → Int32) (Q_low : Nat → Int64) (Q_high : Nat → Int64) (Q_found : Int32) (Q_newNames : Nat → Int32) (Q_nested : Int32) (Q_marks : Int32) (Q_mark : Nat → Int32) (Q_values : Int32) (Q_valueLow : Nat → Int64) (Q_valueHigh : Nat → Int64) (Q_rules : Int32) : Option (Int32 × (Nat → Int64) × (Nat → Int64) × Int32 × (Nat → Int32) × Int32 × Int32 × (Nat → Int32) × Int32 × (Nat → Int64) × (Nat → Int64) × Int32) :=
  zf_Q_scan_24 z_FU x1 (0 : Int32) (0 : Int32) Q_size Q_text Q_low Q_high Q_found Q_newNames (0 : Int32) (0 : Int32) Q_mark (0 : Int32) Q_valueLow Q_valueHigh (0 : Int32)
def zf_Q_unknown_77 (k4 : Int32 → Int32 → Int32 → (Nat → Int32) → Int32 → (Nat → Int32) → Option (Int32)) (x2 : Int32) (t0 : Int32) (Q_size : Int32) (Q_text : Nat → Int32) (Q_found : Int32) (Q_newNames : Nat → Int32) : Option (Int32) :=
  k4 t0 (x2 + (1 : Int32)) Q_size Q_text Q_found Q_newNames
def zf_Q_unknown_72 (k4 : Int32 → Int32 → Int32 → (Nat → Int32) → Int32 → (Nat → Int32) → Option (Int32)) (x2 : Int32) (Q_size : Int32) (Q_text : Nat → Int32) (Q_found : Int32) (Q_newNames : Nat → Int32) : Option (Int32) :=
  zf_Q_unknown_77 k4 x2 (1 : Int32) Q_size Q_text Q_found Q_newNames
def zf_Q_unknown_76 (k4 : Int32 → Int32 → Int32 → (Nat → Int32) → Int32 → (Nat → Int32) → Option (Int32)) (x2 : Int32) (Q_size : Int32) (Q_text : Nat → Int32) (Q_found : Int32) (Q_newNames : Nat → Int32) : Option (Int32) :=
  zf_Q_unknown_77 k4 x2 (0 : Int32) Q_size Q_text Q_found Q_newNames
def zf_Q_unknown_46 (k4 : Int32 → Int32 → Int32 → (Nat → Int32) → Int32 → (Nat → Int32) → Option (Int32)) (x1 : Int32) (x2 : Int32) (Q_size : Int32) (Q_text : Nat → Int32) (Q_found : Int32) (Q_newNames : Nat → Int32) : Option (Int32) :=
  z_gd x2 240 <|
  if (Q_text x2.toNatClampNeg) = (44 : Int32) then
    zf_Q_unknown_72 k4 x2 Q_size Q_text Q_found Q_newNames
  else
    if x1 = 0 then
      zf_Q_unknown_76 k4 x2 Q_size Q_text Q_found Q_newNames
    else
      z_gd x2 240 <|
      if (Q_text x2.toNatClampNeg) = (59 : Int32) then
        zf_Q_unknown_76 k4 x2 Q_size Q_text Q_found Q_newNames
      else
        zf_Q_unknown_72 k4 x2 Q_size Q_text Q_found Q_newNames
def zf_Q_unknown_4 : Nat → Int32 → Int32 → Int32 → (Nat → Int32) → Int32 → (Nat → Int32) → Option (Int32)
  | 0, _, _, _, _, _, _ => none
  | n + 1, x1, x2, Q_size, Q_text, Q_found, Q_newNames =>
    if Q_size ≤ x2 then
      some ((0 : Int32))
    else
      if x1 = 0 then
        zf_Q_unknown_46 (zf_Q_unknown_4 n) x1 x2 Q_size Q_text Q_found Q_newNames
      else
        z_gd x2 240 <|
        z_b1 (zf_Q_isName (Q_text x2.toNatClampNeg)) fun r1 =>
        if r1 = 0 then
          zf_Q_unknown_46 (zf_Q_unknown_4 n) x1 x2 Q_size Q_text Q_found Q_newNames
        else
          z_gd x2 240 <|
          z_b1 (zf_Q_newGene (Q_text x2.toNatClampNeg) Q_found Q_newNames) fun r2 =>
          if r2 = (-1 : Int32) then
            some ((x2 + (1 : Int32)))
          else
            zf_Q_unknown_46 (zf_Q_unknown_4 n) x1 x2 Q_size Q_text Q_found Q_newNames
def zf_Q_unknown (Q_size : Int32) (Q_text : Nat → Int32) (Q_found : Int32) (Q_newNames : Nat → Int32) : Option (Int32) :=
  zf_Q_unknown_4 z_FU (0 : Int32) (0 : Int32) Q_size Q_text Q_found Q_newNames
def zf_Q_load_37 : Nat → Int32 → Int32 → (Nat → Int32) → Int32 → (Nat → Int32) → (Nat → Int64) → (Nat → Int64) → (Nat → Int32) → Int32 → (Nat → Int32) → Int32 → Int32 → (Nat → Int32) → Int32 → (Nat → Int64) → (Nat → Int64) → Int32 → Int32 → Option (Int32 × Int32 × (Nat → Int32) × (Nat → Int64) × (Nat → Int64) × (Nat → Int32) × Int32 × (Nat → Int32) × Int32 × Int32 × (Nat → Int32) × Int32 × (Nat → Int64) × (Nat → Int64) × Int32 × Int32)
  | 0, _, _, _, _, _, _, _, _, _, _, _, _, _, _, _, _, _, _ => none
  | n + 1, x2, Q_size, Q_text, Q_genes, Q_names, Q_low, Q_high, Q_fixed, Q_found, Q_newNames, Q_nested, Q_marks, Q_mark, Q_values, Q_valueLow, Q_valueHigh, Q_rules, Q_analysed =>
    if Q_genes ≤ x2 then
      z_b12 (zf_Q_scan (1 : Int32) Q_size Q_text Q_low Q_high Q_found Q_newNames Q_nested Q_marks Q_mark Q_values Q_valueLow Q_valueHigh Q_rules) fun r1 Q_low_1 Q_high_1 Q_found_1 Q_newNames_1 Q_nested_1 Q_marks_1 Q_mark_1 Q_values_1 Q_valueLow_1 Q_valueHigh_1 Q_rules_1 =>
      some (Q_genes, Q_genes, Q_names, Q_low_1, Q_high_1, Q_fixed, Q_found_1, Q_newNames_1, Q_nested_1, Q_marks_1, Q_mark_1, Q_values_1, Q_valueLow_1, Q_valueHigh_1, Q_rules_1, (0 : Int32))
    else
      z_gd x2 7 <|
      z_gd x2 7 <|
      z_gd x2 7 <|
      (zf_Q_load_37 n) (x2 + (1 : Int32)) Q_size Q_text Q_genes (upd Q_names x2.toNatClampNeg (Q_newNames x2.toNatClampNeg)) Q_low Q_high (upd Q_fixed x2.toNatClampNeg (2 : Int32)) Q_found Q_newNames Q_nested Q_marks Q_mark Q_values Q_valueLow Q_valueHigh Q_rules Q_analysed
def zf_Q_load_20 (x1 : Int32) (Q_size : Int32) (Q_text : Nat → Int32) (Q_genes : Int32) (Q_names : Nat → Int32) (Q_low : Nat → Int64) (Q_high : Nat → Int64) (Q_fixed : Nat → Int32) (Q_found : Int32) (Q_newNames : Nat → Int32) (Q_nested : Int32) (Q_marks : Int32) (Q_mark : Nat → Int32) (Q_values : Int32) (Q_valueLow : Nat → Int64) (Q_valueHigh : Nat → Int64) (Q_rules : Int32) (Q_analysed : Int32) : Option (Int32 × Int32 × (Nat → Int32) × (Nat → Int64) × (Nat → Int64) × (Nat → Int32) × Int32 × (Nat → Int32) × Int32 × Int32 × (Nat → Int32) × Int32 × (Nat → Int64) × (Nat → Int64) × Int32 × Int32) :=
  if x1 ≤ 0 then
    zf_Q_load_37 z_FU (0 : Int32) Q_size Q_text Q_found Q_names Q_low Q_high Q_fixed Q_found Q_newNames Q_nested Q_marks Q_mark Q_values Q_valueLow Q_valueHigh Q_rules Q_analysed
  else
    some ((-x1), Q_genes, Q_names, Q_low, Q_high, Q_fixed, Q_found, Q_newNames, Q_nested, Q_marks, Q_mark, Q_values, Q_valueLow, Q_valueHigh, Q_rules, Q_analysed)
def zf_Q_load (Q_size : Int32) (Q_text : Nat → Int32) (Q_genes : Int32) (Q_names : Nat → Int32) (Q_low : Nat → Int64) (Q_high : Nat → Int64) (Q_fixed : Nat → Int32) (Q_found : Int32) (Q_newNames : Nat → Int32) (Q_nested : Int32) (Q_marks : Int32) (Q_mark : Nat → Int32) (Q_values : Int32) (Q_valueLow : Nat → Int64) (Q_valueHigh : Nat → Int64) (Q_rules : Int32) (Q_analysed : Int32) : Option (Int32 × Int32 × (Nat → Int32) × (Nat → Int64) × (Nat → Int64) × (Nat → Int32) × Int32 × (Nat → Int32) × Int32 × Int32 × (Nat → Int32) × Int32 × (Nat → Int64) × (Nat → Int64) × Int32 × Int32) :=
  z_b12 (zf_Q_scan (0 : Int32) Q_size Q_text Q_low Q_high (0 : Int32) Q_newNames Q_nested Q_marks Q_mark Q_values Q_valueLow Q_valueHigh Q_rules) fun r1 Q_low_1 Q_high_1 Q_found_1 Q_newNames_1 Q_nested_1 Q_marks_1 Q_mark_1 Q_values_1 Q_valueLow_1 Q_valueHigh_1 Q_rules_1 =>
  if r1 = 0 then
    z_b1 (zf_Q_unknown Q_size Q_text Q_found_1 Q_newNames_1) fun r2 =>
    zf_Q_load_20 r2 Q_size Q_text Q_genes Q_names Q_low_1 Q_high_1 Q_fixed Q_found_1 Q_newNames_1 Q_nested_1 Q_marks_1 Q_mark_1 Q_values_1 Q_valueLow_1 Q_valueHigh_1 Q_rules_1 Q_analysed
  else
    zf_Q_load_20 r1 Q_size Q_text Q_genes Q_names Q_low_1 Q_high_1 Q_fixed Q_found_1 Q_newNames_1 Q_nested_1 Q_marks_1 Q_mark_1 Q_values_1 Q_valueLow_1 Q_valueHigh_1 Q_rules_1 Q_analysed
def zf_Q_genes (Q_genes : Int32) : Option (Int32) :=
  some (Q_genes)
def zf_Q_gene_2 : Nat → Int32 → Int32 → Int32 → (Nat → Int32) → Option (Int32)
  | 0, _, _, _, _ => none
  | n + 1, x1, x2, Q_genes, Q_names =>
    if Q_genes ≤ x2 then
      some ((-1 : Int32))
    else
      z_gd x2 7 <|
      if (Q_names x2.toNatClampNeg) = x1 then
        some (x2)
      else
        (zf_Q_gene_2 n) x1 (x2 + (1 : Int32)) Q_genes Q_names
def zf_Q_gene (x1 : Int32) (Q_genes : Int32) (Q_names : Nat → Int32) : Option (Int32) :=
  zf_Q_gene_2 z_FU x1 (0 : Int32) Q_genes Q_names
def zf_Q_isGene (x1 : Int32) (Q_genes : Int32) : Option (Int32) :=
  if x1 < 0 then
    z_gb (0 : Int32) <| some ((0 : Int32))
  else
    if Q_genes ≤ x1 then
      z_gb (0 : Int32) <| some ((0 : Int32))
    else
      z_gb (1 : Int32) <| some ((1 : Int32))
def zf_Q_isState (x1 : Int32) (Q_genes : Int32) : Option (Int32) :=
  if Q_genes ≤ 0 then
    z_gb (0 : Int32) <| some ((0 : Int32))
  else
    if x1 < 0 then
      z_gb (0 : Int32) <| some ((0 : Int32))
    else
      if ((1 : Int32) <<< (Q_genes &&& 31)) ≤ x1 then
        z_gb (0 : Int32) <| some ((0 : Int32))
      else
        z_gb (1 : Int32) <| some ((1 : Int32))
def zf_Q_fix (x1 : Int32) (x2 : Int32) (Q_genes : Int32) (Q_fixed : Nat → Int32) (Q_analysed : Int32) : Option (Int32 × (Nat → Int32) × Int32) :=
  z_b1 (zf_Q_isGene x1 Q_genes) fun r1 =>
  if r1 = 0 then
    z_gb (0 : Int32) <| some ((0 : Int32), Q_fixed, Q_analysed)
  else
    if x2 < 0 then
      z_gb (0 : Int32) <| some ((0 : Int32), Q_fixed, Q_analysed)
    else
      if x2 ≤ (2 : Int32) then
        z_gd x1 7 <|
        z_gb (1 : Int32) <| some ((1 : Int32), (upd Q_fixed x1.toNatClampNeg x2), (0 : Int32))
      else
        z_gb (0 : Int32) <| some ((0 : Int32), Q_fixed, Q_analysed)
def zf_Q_valueAt_45 (t0 : Int64) (Q_low : Nat → Int64) (Q_high : Nat → Int64) (Q_fixed : Nat → Int32) : Option (Int32) :=
  some ((t0 &&& (1 : Int64)).toInt32)
def zf_Q_valueAt (x1 : Int32) (x2 : Int32) (Q_low : Nat → Int64) (Q_high : Nat → Int64) (Q_fixed : Nat → Int32) : Option (Int32) :=
  z_gd x1 7 <|
  if (2 : Int32) ≤ (Q_fixed x1.toNatClampNeg) then
    if (64 : Int32) ≤ x2 then
      z_gd x1 7 <|
      zf_Q_valueAt_45 ((Q_high x1.toNatClampNeg) >>> ((x2 - (64 : Int32)).toInt64 &&& 63)) Q_low Q_high Q_fixed
    else
      z_gd x1 7 <|
      zf_Q_valueAt_45 ((Q_low x1.toNatClampNeg) >>> (x2.toInt64 &&& 63)) Q_low Q_high Q_fixed
  else
    z_gd x1 7 <|
    some ((Q_fixed x1.toNatClampNeg))
def zf_Q_value (x1 : Int32) (x2 : Int32) (Q_genes : Int32) (Q_low : Nat → Int64) (Q_high : Nat → Int64) (Q_fixed : Nat → Int32) : Option (Int32) :=
  z_b1 (zf_Q_isGene x1 Q_genes) fun r1 =>
  if r1 = 0 then
    some ((-1 : Int32))
  else
    z_b1 (zf_Q_isState x2 Q_genes) fun r2 =>
    if r2 = 0 then
      some ((-1 : Int32))
    else
      z_b1 (zf_Q_valueAt x1 x2 Q_low Q_high Q_fixed) fun r3 =>
      some (r3)
def zf_Q_next_14 : Nat → Int32 → Int32 → Int32 → Int32 → (Nat → Int64) → (Nat → Int64) → (Nat → Int32) → Option (Int32)
  | 0, _, _, _, _, _, _, _ => none
  | n + 1, x1, x2, x3, Q_genes, Q_low, Q_high, Q_fixed =>
    if Q_genes ≤ x3 then
      some (x2)
    else
      z_b1 (zf_Q_valueAt x3 x1 Q_low Q_high Q_fixed) fun r1 =>
      (zf_Q_next_14 n) x1 (x2 + (r1 <<< (x3 &&& 31))) (x3 + (1 : Int32)) Q_genes Q_low Q_high Q_fixed
def zf_Q_next (x1 : Int32) (Q_genes : Int32) (Q_low : Nat → Int64) (Q_high : Nat → Int64) (Q_fixed : Nat → Int32) : Option (Int32) :=
  z_b1 (zf_Q_isState x1 Q_genes) fun r1 =>
  if r1 = 0 then
    some ((-1 : Int32))
  else
    zf_Q_next_14 z_FU x1 (0 : Int32) (0 : Int32) Q_genes Q_low Q_high Q_fixed
def zf_Q_sameLeft_55 (k6 : Int32 → Int32 → Int32 → Int32 → Int32 → Int32 → Int32 → (Nat → Int64) → (Nat → Int64) → (Nat → Int32) → Option (Int32)) (x1 : Int32) (x2 : Int32) (x3 : Int32) (x4 : Int32) (x6 : Int32) (t0 : Int32) (Q_genes : Int32) (Q_low : Nat → Int64) (Q_high : Nat → Int64) (Q_fixed : Nat → Int32) : Option (Int32) :=
  k6 x1 x2 x3 x4 t0 (x6 + (1 : Int32)) Q_genes Q_low Q_high Q_fixed
def zf_Q_sameLeft_54 (k6 : Int32 → Int32 → Int32 → Int32 → Int32 → Int32 → Int32 → (Nat → Int64) → (Nat → Int64) → (Nat → Int32) → Option (Int32)) (x1 : Int32) (x2 : Int32) (x3 : Int32) (x4 : Int32) (x6 : Int32) (Q_genes : Int32) (Q_low : Nat → Int64) (Q_high : Nat → Int64) (Q_fixed : Nat → Int32) : Option (Int32) :=
  zf_Q_sameLeft_55 k6 x1 x2 x3 x4 x6 (0 : Int32) Q_genes Q_low Q_high Q_fixed
def zf_Q_sameLeft_6 : Nat → Int32 → Int32 → Int32 → Int32 → Int32 → Int32 → Int32 → (Nat → Int64) → (Nat → Int64) → (Nat → Int32) → Option (Int32)
  | 0, _, _, _, _, _, _, _, _, _, _ => none
  | n + 1, x1, x2, x3, x4, x5, x6, Q_genes, Q_low, Q_high, Q_fixed =>
    if ((1 : Int32) <<< ((Q_genes - x2) &&& 31)) ≤ x6 then
      z_gb x5 <| some (x5)
    else
      if x5 = 0 then
        zf_Q_sameLeft_54 (zf_Q_sameLeft_6 n) x1 x2 x3 x4 x6 Q_genes Q_low Q_high Q_fixed
      else
        z_b1 (zf_Q_valueAt x1 (x3 + (x6 <<< (x2 &&& 31))) Q_low Q_high Q_fixed) fun r1 =>
        z_b1 (zf_Q_valueAt x1 (x4 + (x6 <<< (x2 &&& 31))) Q_low Q_high Q_fixed) fun r2 =>
        if r1 = r2 then
          zf_Q_sameLeft_55 (zf_Q_sameLeft_6 n) x1 x2 x3 x4 x6 (1 : Int32) Q_genes Q_low Q_high Q_fixed
        else
          zf_Q_sameLeft_54 (zf_Q_sameLeft_6 n) x1 x2 x3 x4 x6 Q_genes Q_low Q_high Q_fixed
def zf_Q_sameLeft (x1 : Int32) (x2 : Int32) (x3 : Int32) (x4 : Int32) (Q_genes : Int32) (Q_low : Nat → Int64) (Q_high : Nat → Int64) (Q_fixed : Nat → Int32) : Option (Int32) :=
  zf_Q_sameLeft_6 z_FU x1 x2 x3 x4 (1 : Int32) (0 : Int32) Q_genes Q_low Q_high Q_fixed
def zf_Q_differs_58 (k6 : Int32 → Int32 → Int32 → Int32 → Int32 → Int32 → (Nat → Int64) → (Nat → Int64) → (Nat → Int32) → Option (Int32)) (x1 : Int32) (x2 : Int32) (x3 : Int32) (x5 : Int32) (t0 : Int32) (Q_genes : Int32) (Q_low : Nat → Int64) (Q_high : Nat → Int64) (Q_fixed : Nat → Int32) : Option (Int32) :=
  k6 x1 x2 x3 t0 (x5 + (1 : Int32)) Q_genes Q_low Q_high Q_fixed
def zf_Q_differs_53 (k6 : Int32 → Int32 → Int32 → Int32 → Int32 → Int32 → (Nat → Int64) → (Nat → Int64) → (Nat → Int32) → Option (Int32)) (x1 : Int32) (x2 : Int32) (x3 : Int32) (x5 : Int32) (Q_genes : Int32) (Q_low : Nat → Int64) (Q_high : Nat → Int64) (Q_fixed : Nat → Int32) : Option (Int32) :=
  zf_Q_differs_58 k6 x1 x2 x3 x5 (1 : Int32) Q_genes Q_low Q_high Q_fixed
def zf_Q_differs_6 : Nat → Int32 → Int32 → Int32 → Int32 → Int32 → Int32 → (Nat → Int64) → (Nat → Int64) → (Nat → Int32) → Option (Int32)
  | 0, _, _, _, _, _, _, _, _, _ => none
  | n + 1, x1, x2, x3, x4, x5, Q_genes, Q_low, Q_high, Q_fixed =>
    if ((1 : Int32) <<< ((Q_genes - x2) &&& 31)) ≤ x5 then
      z_gb x4 <| some (x4)
    else
      if x4 = 0 then
        z_b1 (zf_Q_valueAt x1 (x3 + (x5 <<< (x2 &&& 31))) Q_low Q_high Q_fixed) fun r1 =>
        z_b1 (zf_Q_valueAt x1 ((x3 + (x5 <<< (x2 &&& 31))) ^^^ ((1 : Int32) <<< (x2 &&& 31))) Q_low Q_high Q_fixed) fun r2 =>
        if r1 = r2 then
          zf_Q_differs_58 (zf_Q_differs_6 n) x1 x2 x3 x5 (0 : Int32) Q_genes Q_low Q_high Q_fixed
        else
          zf_Q_differs_53 (zf_Q_differs_6 n) x1 x2 x3 x5 Q_genes Q_low Q_high Q_fixed
      else
        zf_Q_differs_53 (zf_Q_differs_6 n) x1 x2 x3 x5 Q_genes Q_low Q_high Q_fixed
def zf_Q_differs (x1 : Int32) (x2 : Int32) (x3 : Int32) (Q_genes : Int32) (Q_low : Nat → Int64) (Q_high : Nat → Int64) (Q_fixed : Nat → Int32) : Option (Int32) :=
  zf_Q_differs_6 z_FU x1 x2 x3 (0 : Int32) (0 : Int32) Q_genes Q_low Q_high Q_fixed
def zf_Q_spread_76 (k46 : Int32 → Int32 → Int32 → Int32 → Int32 → Int32 → Int32 → (Nat → Int64) → (Nat → Int64) → (Nat → Int32) → Option (Int32)) (x1 : Int32) (x2 : Int32) (x3 : Int32) (x4 : Int32) (x6 : Int32) (t0 : Int32) (Q_genes : Int32) (Q_low : Nat → Int64) (Q_high : Nat → Int64) (Q_fixed : Nat → Int32) : Option (Int32) :=
  k46 x1 x2 x3 x4 t0 (x6 + (1 : Int32)) Q_genes Q_low Q_high Q_fixed
def zf_Q_spread_95 (k25 : Int32 → Int32 → Int32 → Int32 → Int32 → (Nat → Int64) → (Nat → Int64) → (Nat → Int32) → Option (Int32)) (x1 : Int32) (x3 : Int32) (x4 : Int32) (t0 : Int32) (t1 : Int32) (Q_genes : Int32) (Q_low : Nat → Int64) (Q_high : Nat → Int64) (Q_fixed : Nat → Int32) : Option (Int32) :=
  k25 x1 (t0 + t1) x3 (x4 + (1 : Int32)) Q_genes Q_low Q_high Q_fixed
def zf_Q_spread_84 (k25 : Int32 → Int32 → Int32 → Int32 → Int32 → (Nat → Int64) → (Nat → Int64) → (Nat → Int32) → Option (Int32)) (x1 : Int32) (x2 : Int32) (x3 : Int32) (x4 : Int32) (x5 : Int32) (Q_genes : Int32) (Q_low : Nat → Int64) (Q_high : Nat → Int64) (Q_fixed : Nat → Int32) : Option (Int32) :=
  if x5 = 0 then
    zf_Q_spread_95 k25 x1 x3 x4 x2 (0 : Int32) Q_genes Q_low Q_high Q_fixed
  else
    zf_Q_spread_95 k25 x1 x3 x4 x2 (1 : Int32) Q_genes Q_low Q_high Q_fixed
def zf_Q_spread_46 (k25 : Int32 → Int32 → Int32 → Int32 → Int32 → (Nat → Int64) → (Nat → Int64) → (Nat → Int32) → Option (Int32)) : Nat → Int32 → Int32 → Int32 → Int32 → Int32 → Int32 → Int32 → (Nat → Int64) → (Nat → Int64) → (Nat → Int32) → Option (Int32)
  | 0, _, _, _, _, _, _, _, _, _, _ => none
  | n + 1, x1, x2, x3, x4, x5, x6, Q_genes, Q_low, Q_high, Q_fixed =>
    if x4 ≤ x6 then
      zf_Q_spread_84 k25 x1 x2 x3 x4 x5 Q_genes Q_low Q_high Q_fixed
    else
      if x5 = 0 then
        zf_Q_spread_84 k25 x1 x2 x3 x4 x5 Q_genes Q_low Q_high Q_fixed
      else
        z_b1 (zf_Q_sameLeft x1 x3 x4 x6 Q_genes Q_low Q_high Q_fixed) fun r1 =>
        if r1 = 0 then
          zf_Q_spread_76 (zf_Q_spread_46 k25 n) x1 x2 x3 x4 x6 (1 : Int32) Q_genes Q_low Q_high Q_fixed
        else
          zf_Q_spread_76 (zf_Q_spread_46 k25 n) x1 x2 x3 x4 x6 (0 : Int32) Q_genes Q_low Q_high Q_fixed
def zf_Q_spread_25 (k14 : Int32 → Int32 → Int32 → Int32 → (Nat → Int64) → (Nat → Int64) → (Nat → Int32) → Option (Int32)) : Nat → Int32 → Int32 → Int32 → Int32 → Int32 → (Nat → Int64) → (Nat → Int64) → (Nat → Int32) → Option (Int32)
  | 0, _, _, _, _, _, _, _, _ => none
  | n + 1, x1, x2, x3, x4, Q_genes, Q_low, Q_high, Q_fixed =>
    if ((1 : Int32) <<< (x3 &&& 31)) ≤ x4 then
      k14 x1 x2 (x3 + (1 : Int32)) Q_genes Q_low Q_high Q_fixed
    else
      z_b1 (zf_Q_differs x1 x3 x4 Q_genes Q_low Q_high Q_fixed) fun r1 =>
      zf_Q_spread_46 (zf_Q_spread_25 k14 n) z_FU x1 x2 x3 x4 r1 (0 : Int32) Q_genes Q_low Q_high Q_fixed
def zf_Q_spread_14 : Nat → Int32 → Int32 → Int32 → Int32 → (Nat → Int64) → (Nat → Int64) → (Nat → Int32) → Option (Int32)
  | 0, _, _, _, _, _, _, _ => none
  | n + 1, x1, x2, x3, Q_genes, Q_low, Q_high, Q_fixed =>
    if Q_genes ≤ x3 then
      some (x2)
    else
      zf_Q_spread_25 (zf_Q_spread_14 n) z_FU x1 x2 x3 (0 : Int32) Q_genes Q_low Q_high Q_fixed
def zf_Q_spread (x1 : Int32) (Q_genes : Int32) (Q_low : Nat → Int64) (Q_high : Nat → Int64) (Q_fixed : Nat → Int32) : Option (Int32) :=
  z_b1 (zf_Q_isGene x1 Q_genes) fun r1 =>
  if r1 = 0 then
    some ((-1 : Int32))
  else
    zf_Q_spread_14 z_FU x1 (0 : Int32) (0 : Int32) Q_genes Q_low Q_high Q_fixed
def zf_Q_leads (x1 : Int32) (x2 : Int32) (Q_reachLow : Nat → Int64) (Q_reachHigh : Nat → Int64) : Option (Int32) :=
  if (64 : Int32) ≤ x2 then
    z_gd x1 128 <|
    if (lg_cmp (((Q_reachHigh x1.toNatClampNeg) >>> ((x2 - (64 : Int32)).toInt64 &&& 63)) &&& (1 : Int64)) (1 : Int64)) = 0 then
      z_gb (1 : Int32) <| some ((1 : Int32))
    else
      z_gb (0 : Int32) <| some ((0 : Int32))
  else
    z_gd x1 128 <|
    if (lg_cmp (((Q_reachLow x1.toNatClampNeg) >>> (x2.toInt64 &&& 63)) &&& (1 : Int64)) (1 : Int64)) = 0 then
      z_gb (1 : Int32) <| some ((1 : Int32))
    else
      z_gb (0 : Int32) <| some ((0 : Int32))
def zf_Q_join_57 (x1 : Int32) (x3 : Int64) (x5 : Int64) (t0 : Int32) (Q_reachLow : Nat → Int64) (Q_reachHigh : Nat → Int64) : Option (Int32 × (Nat → Int64) × (Nat → Int64)) :=
  z_gd x1 128 <|
  z_gd x1 128 <|
  z_gb t0 <| some (t0, (vp_updL Q_reachLow x1.toNatClampNeg x3), (vp_updL Q_reachHigh x1.toNatClampNeg x5))
def zf_Q_join_52 (x1 : Int32) (x3 : Int64) (x5 : Int64) (Q_reachLow : Nat → Int64) (Q_reachHigh : Nat → Int64) : Option (Int32 × (Nat → Int64) × (Nat → Int64)) :=
  zf_Q_join_57 x1 x3 x5 (1 : Int32) Q_reachLow Q_reachHigh
def zf_Q_join (x1 : Int32) (x2 : Int32) (Q_reachLow : Nat → Int64) (Q_reachHigh : Nat → Int64) : Option (Int32 × (Nat → Int64) × (Nat → Int64)) :=
  z_gd x1 128 <|
  z_gd x2 128 <|
  z_lt ((Q_reachLow x1.toNatClampNeg) ||| (Q_reachLow x2.toNatClampNeg)) fun y1 =>
  z_gd x1 128 <|
  z_gd x2 128 <|
  z_lt ((Q_reachHigh x1.toNatClampNeg) ||| (Q_reachHigh x2.toNatClampNeg)) fun y2 =>
  z_gd x1 128 <|
  if (lg_cmp y1 (Q_reachLow x1.toNatClampNeg)) = 0 then
    z_gd x1 128 <|
    if (lg_cmp y2 (Q_reachHigh x1.toNatClampNeg)) = 0 then
      zf_Q_join_57 x1 y1 y2 (0 : Int32) Q_reachLow Q_reachHigh
    else
      zf_Q_join_52 x1 y1 y2 Q_reachLow Q_reachHigh
  else
    zf_Q_join_52 x1 y1 y2 Q_reachLow Q_reachHigh
def zf_Q_step (x1 : Int32) (x2 : Int32) (Q_genes : Int32) (Q_low : Nat → Int64) (Q_high : Nat → Int64) (Q_fixed : Nat → Int32) : Option (Int32) :=
  if 0 ≤ x2 then
    z_b1 (zf_Q_valueAt x2 x1 Q_low Q_high Q_fixed) fun r1 =>
    some (((x1 &&& (((1 : Int32) <<< (x2 &&& 31)) ^^^ (-1 : Int32))) + (r1 <<< (x2 &&& 31))))
  else
    z_b1 (zf_Q_next x1 Q_genes Q_low Q_high Q_fixed) fun r2 =>
    some (r2)
def zf_Q_spreadOut_54 (k9 : Int32 → Int32 → Int32 → (Nat → Int64) → (Nat → Int64) → (Nat → Int32) → Int32 → (Nat → Int64) → (Nat → Int64) → Option ((Nat → Int64) × (Nat → Int64))) (x1 : Int32) (x2 : Int32) (t1 : Int32) (t2 : Int64) (Q_genes : Int32) (Q_low : Nat → Int64) (Q_high : Nat → Int64) (Q_fixed : Nat → Int32) (Q_one : Int32) (Q_reachLow : Nat → Int64) (Q_reachHigh : Nat → Int64) : Option ((Nat → Int64) × (Nat → Int64)) :=
  z_gd t1 128 <|
  k9 x1 (x2 + (1 : Int32)) Q_genes Q_low Q_high Q_fixed Q_one Q_reachLow (vp_updL Q_reachHigh t1.toNatClampNeg t2)
def zf_Q_spreadOut_32 (k9 : Int32 → Int32 → Int32 → (Nat → Int64) → (Nat → Int64) → (Nat → Int32) → Int32 → (Nat → Int64) → (Nat → Int64) → Option ((Nat → Int64) × (Nat → Int64))) (x1 : Int32) (x2 : Int32) (t1 : Int32) (t2 : Int64) (Q_genes : Int32) (Q_low : Nat → Int64) (Q_high : Nat → Int64) (Q_fixed : Nat → Int32) (Q_one : Int32) (Q_reachLow : Nat → Int64) (Q_reachHigh : Nat → Int64) : Option ((Nat → Int64) × (Nat → Int64)) :=
  z_gd t1 128 <|
  if (64 : Int32) ≤ x2 then
    zf_Q_spreadOut_54 k9 x1 x2 x2 ((1 : Int64) <<< ((x2 - (64 : Int32)).toInt64 &&& 63)) Q_genes Q_low Q_high Q_fixed Q_one (vp_updL Q_reachLow t1.toNatClampNeg t2) Q_reachHigh
  else
    zf_Q_spreadOut_54 k9 x1 x2 x2 (0 : Int64) Q_genes Q_low Q_high Q_fixed Q_one (vp_updL Q_reachLow t1.toNatClampNeg t2) Q_reachHigh
def zf_Q_spreadOut_142 (k90 : Int32 → Int32 → Int32 → Int32 → Int32 → (Nat → Int64) → (Nat → Int64) → (Nat → Int32) → Int32 → (Nat → Int64) → (Nat → Int64) → Option ((Nat → Int64) × (Nat → Int64))) (x1 : Int32) (x3 : Int32) (x4 : Int32) (t0 : Int32) (Q_genes : Int32) (Q_low : Nat → Int64) (Q_high : Nat → Int64) (Q_fixed : Nat → Int32) (Q_one : Int32) (Q_reachLow : Nat → Int64) (Q_reachHigh : Nat → Int64) : Option ((Nat → Int64) × (Nat → Int64)) :=
  k90 x1 t0 x3 (x4 + (1 : Int32)) Q_genes Q_low Q_high Q_fixed Q_one Q_reachLow Q_reachHigh
def zf_Q_spreadOut_137 (k90 : Int32 → Int32 → Int32 → Int32 → Int32 → (Nat → Int64) → (Nat → Int64) → (Nat → Int32) → Int32 → (Nat → Int64) → (Nat → Int64) → Option ((Nat → Int64) × (Nat → Int64))) (x1 : Int32) (x3 : Int32) (x4 : Int32) (Q_genes : Int32) (Q_low : Nat → Int64) (Q_high : Nat → Int64) (Q_fixed : Nat → Int32) (Q_one : Int32) (Q_reachLow : Nat → Int64) (Q_reachHigh : Nat → Int64) : Option ((Nat → Int64) × (Nat → Int64)) :=
  zf_Q_spreadOut_142 k90 x1 x3 x4 (1 : Int32) Q_genes Q_low Q_high Q_fixed Q_one Q_reachLow Q_reachHigh
def zf_Q_spreadOut_107 (k71 : Int32 → Int32 → Int32 → Int32 → (Nat → Int64) → (Nat → Int64) → (Nat → Int32) → Int32 → (Nat → Int64) → (Nat → Int64) → Option ((Nat → Int64) × (Nat → Int64))) (k90 : Int32 → Int32 → Int32 → Int32 → Int32 → (Nat → Int64) → (Nat → Int64) → (Nat → Int32) → Int32 → (Nat → Int64) → (Nat → Int64) → Option ((Nat → Int64) × (Nat → Int64))) (x1 : Int32) (x2 : Int32) (x3 : Int32) (x4 : Int32) (t0 : Int32) (t1 : Int32) (Q_genes : Int32) (Q_low : Nat → Int64) (Q_high : Nat → Int64) (Q_fixed : Nat → Int32) (Q_one : Int32) (Q_reachLow : Nat → Int64) (Q_reachHigh : Nat → Int64) : Option ((Nat → Int64) × (Nat → Int64)) :=
  if t1 ≤ t0 then
    k71 x1 x2 (x3 + (1 : Int32)) Q_genes Q_low Q_high Q_fixed Q_one Q_reachLow Q_reachHigh
  else
    z_b1 (zf_Q_step x3 x4 Q_genes Q_low Q_high Q_fixed) fun r1 =>
    z_b3 (zf_Q_join x3 r1 Q_reachLow Q_reachHigh) fun r2 Q_reachLow_2 Q_reachHigh_2 =>
    if x2 = 0 then
      if r2 = 0 then
        zf_Q_spreadOut_142 k90 x1 x3 x4 (0 : Int32) Q_genes Q_low Q_high Q_fixed Q_one Q_reachLow_2 Q_reachHigh_2
      else
        zf_Q_spreadOut_137 k90 x1 x3 x4 Q_genes Q_low Q_high Q_fixed Q_one Q_reachLow_2 Q_reachHigh_2
    else
      zf_Q_spreadOut_137 k90 x1 x3 x4 Q_genes Q_low Q_high Q_fixed Q_one Q_reachLow_2 Q_reachHigh_2
def zf_Q_spreadOut_90 (k71 : Int32 → Int32 → Int32 → Int32 → (Nat → Int64) → (Nat → Int64) → (Nat → Int32) → Int32 → (Nat → Int64) → (Nat → Int64) → Option ((Nat → Int64) × (Nat → Int64))) : Nat → Int32 → Int32 → Int32 → Int32 → Int32 → (Nat → Int64) → (Nat → Int64) → (Nat → Int32) → Int32 → (Nat → Int64) → (Nat → Int64) → Option ((Nat → Int64) × (Nat → Int64))
  | 0, _, _, _, _, _, _, _, _, _, _, _ => none
  | n + 1, x1, x2, x3, x4, Q_genes, Q_low, Q_high, Q_fixed, Q_one, Q_reachLow, Q_reachHigh =>
    if Q_one = 0 then
      zf_Q_spreadOut_107 k71 (zf_Q_spreadOut_90 k71 n) x1 x2 x3 x4 x4 (0 : Int32) Q_genes Q_low Q_high Q_fixed Q_one Q_reachLow Q_reachHigh
    else
      zf_Q_spreadOut_107 k71 (zf_Q_spreadOut_90 k71 n) x1 x2 x3 x4 x4 Q_genes Q_genes Q_low Q_high Q_fixed Q_one Q_reachLow Q_reachHigh
def zf_Q_spreadOut_88 (k71 : Int32 → Int32 → Int32 → Int32 → (Nat → Int64) → (Nat → Int64) → (Nat → Int32) → Int32 → (Nat → Int64) → (Nat → Int64) → Option ((Nat → Int64) × (Nat → Int64))) (x1 : Int32) (x2 : Int32) (x3 : Int32) (t0 : Int32) (Q_genes : Int32) (Q_low : Nat → Int64) (Q_high : Nat → Int64) (Q_fixed : Nat → Int32) (Q_one : Int32) (Q_reachLow : Nat → Int64) (Q_reachHigh : Nat → Int64) : Option ((Nat → Int64) × (Nat → Int64)) :=
  zf_Q_spreadOut_90 k71 z_FU x1 x2 x3 t0 Q_genes Q_low Q_high Q_fixed Q_one Q_reachLow Q_reachHigh
def zf_Q_spreadOut_71 (k63 : Int32 → Int32 → Int32 → (Nat → Int64) → (Nat → Int64) → (Nat → Int32) → Int32 → (Nat → Int64) → (Nat → Int64) → Option ((Nat → Int64) × (Nat → Int64))) : Nat → Int32 → Int32 → Int32 → Int32 → (Nat → Int64) → (Nat → Int64) → (Nat → Int32) → Int32 → (Nat → Int64) → (Nat → Int64) → Option ((Nat → Int64) × (Nat → Int64))
  | 0, _, _, _, _, _, _, _, _, _, _ => none
  | n + 1, x1, x2, x3, Q_genes, Q_low, Q_high, Q_fixed, Q_one, Q_reachLow, Q_reachHigh =>
    if x1 ≤ x3 then
      k63 x1 x2 Q_genes Q_low Q_high Q_fixed Q_one Q_reachLow Q_reachHigh
    else
      if Q_one = 0 then
        zf_Q_spreadOut_88 (zf_Q_spreadOut_71 k63 n) x1 x2 x3 (-1 : Int32) Q_genes Q_low Q_high Q_fixed Q_one Q_reachLow Q_reachHigh
      else
        zf_Q_spreadOut_88 (zf_Q_spreadOut_71 k63 n) x1 x2 x3 (0 : Int32) Q_genes Q_low Q_high Q_fixed Q_one Q_reachLow Q_reachHigh
def zf_Q_spreadOut_63 : Nat → Int32 → Int32 → Int32 → (Nat → Int64) → (Nat → Int64) → (Nat → Int32) → Int32 → (Nat → Int64) → (Nat → Int64) → Option ((Nat → Int64) × (Nat → Int64))
  | 0, _, _, _, _, _, _, _, _, _ => none
  | n + 1, x1, x2, Q_genes, Q_low, Q_high, Q_fixed, Q_one, Q_reachLow, Q_reachHigh =>
    if x2 = 0 then
      some (Q_reachLow, Q_reachHigh)
    else
      zf_Q_spreadOut_71 (zf_Q_spreadOut_63 n) z_FU x1 (0 : Int32) (0 : Int32) Q_genes Q_low Q_high Q_fixed Q_one Q_reachLow Q_reachHigh
def zf_Q_spreadOut_9 : Nat → Int32 → Int32 → Int32 → (Nat → Int64) → (Nat → Int64) → (Nat → Int32) → Int32 → (Nat → Int64) → (Nat → Int64) → Option ((Nat → Int64) × (Nat → Int64))
  | 0, _, _, _, _, _, _, _, _, _ => none
  | n + 1, x1, x2, Q_genes, Q_low, Q_high, Q_fixed, Q_one, Q_reachLow, Q_reachHigh =>
    if x1 ≤ x2 then
      zf_Q_spreadOut_63 z_FU x1 (1 : Int32) Q_genes Q_low Q_high Q_fixed Q_one Q_reachLow Q_reachHigh
    else
      if (64 : Int32) ≤ x2 then
        zf_Q_spreadOut_32 (zf_Q_spreadOut_9 n) x1 x2 x2 (0 : Int64) Q_genes Q_low Q_high Q_fixed Q_one Q_reachLow Q_reachHigh
      else
        zf_Q_spreadOut_32 (zf_Q_spreadOut_9 n) x1 x2 x2 ((1 : Int64) <<< (x2.toInt64 &&& 63)) Q_genes Q_low Q_high Q_fixed Q_one Q_reachLow Q_reachHigh
def zf_Q_spreadOut (Q_genes : Int32) (Q_low : Nat → Int64) (Q_high : Nat → Int64) (Q_fixed : Nat → Int32) (Q_one : Int32) (Q_reachLow : Nat → Int64) (Q_reachHigh : Nat → Int64) : Option ((Nat → Int64) × (Nat → Int64)) :=
  zf_Q_spreadOut_9 z_FU ((1 : Int32) <<< (Q_genes &&& 31)) (0 : Int32) Q_genes Q_low Q_high Q_fixed Q_one Q_reachLow Q_reachHigh
def zf_Q_settled_41 (k4 : Int32 → Int32 → Int32 → Int32 → (Nat → Int64) → (Nat → Int64) → Option (Int32)) (x1 : Int32) (x3 : Int32) (t0 : Int32) (Q_genes : Int32) (Q_reachLow : Nat → Int64) (Q_reachHigh : Nat → Int64) : Option (Int32) :=
  k4 x1 t0 (x3 + (1 : Int32)) Q_genes Q_reachLow Q_reachHigh
def zf_Q_settled_36 (k4 : Int32 → Int32 → Int32 → Int32 → (Nat → Int64) → (Nat → Int64) → Option (Int32)) (x1 : Int32) (x3 : Int32) (Q_genes : Int32) (Q_reachLow : Nat → Int64) (Q_reachHigh : Nat → Int64) : Option (Int32) :=
  zf_Q_settled_41 k4 x1 x3 (1 : Int32) Q_genes Q_reachLow Q_reachHigh
def zf_Q_settled_40 (k4 : Int32 → Int32 → Int32 → Int32 → (Nat → Int64) → (Nat → Int64) → Option (Int32)) (x1 : Int32) (x3 : Int32) (Q_genes : Int32) (Q_reachLow : Nat → Int64) (Q_reachHigh : Nat → Int64) : Option (Int32) :=
  zf_Q_settled_41 k4 x1 x3 (0 : Int32) Q_genes Q_reachLow Q_reachHigh
def zf_Q_settled_4 : Nat → Int32 → Int32 → Int32 → Int32 → (Nat → Int64) → (Nat → Int64) → Option (Int32)
  | 0, _, _, _, _, _, _ => none
  | n + 1, x1, x2, x3, Q_genes, Q_reachLow, Q_reachHigh =>
    if ((1 : Int32) <<< (Q_genes &&& 31)) ≤ x3 then
      z_gb x2 <| some (x2)
    else
      if x2 = 0 then
        zf_Q_settled_40 (zf_Q_settled_4 n) x1 x3 Q_genes Q_reachLow Q_reachHigh
      else
        z_b1 (zf_Q_leads x1 x3 Q_reachLow Q_reachHigh) fun r1 =>
        if r1 = 0 then
          zf_Q_settled_36 (zf_Q_settled_4 n) x1 x3 Q_genes Q_reachLow Q_reachHigh
        else
          z_b1 (zf_Q_leads x3 x1 Q_reachLow Q_reachHigh) fun r2 =>
          if r2 = 0 then
            zf_Q_settled_40 (zf_Q_settled_4 n) x1 x3 Q_genes Q_reachLow Q_reachHigh
          else
            zf_Q_settled_36 (zf_Q_settled_4 n) x1 x3 Q_genes Q_reachLow Q_reachHigh
def zf_Q_settled (x1 : Int32) (Q_genes : Int32) (Q_reachLow : Nat → Int64) (Q_reachHigh : Nat → Int64) : Option (Int32) :=
  zf_Q_settled_4 z_FU x1 (1 : Int32) (0 : Int32) Q_genes Q_reachLow Q_reachHigh
def zf_Q_isLeast_27 (k4 : Int32 → Int32 → Int32 → (Nat → Int64) → (Nat → Int64) → Option (Int32)) (x1 : Int32) (x3 : Int32) (t0 : Int32) (Q_reachLow : Nat → Int64) (Q_reachHigh : Nat → Int64) : Option (Int32) :=
  k4 x1 t0 (x3 + (1 : Int32)) Q_reachLow Q_reachHigh
def zf_Q_isLeast_26 (k4 : Int32 → Int32 → Int32 → (Nat → Int64) → (Nat → Int64) → Option (Int32)) (x1 : Int32) (x3 : Int32) (Q_reachLow : Nat → Int64) (Q_reachHigh : Nat → Int64) : Option (Int32) :=
  zf_Q_isLeast_27 k4 x1 x3 (0 : Int32) Q_reachLow Q_reachHigh
def zf_Q_isLeast_4 : Nat → Int32 → Int32 → Int32 → (Nat → Int64) → (Nat → Int64) → Option (Int32)
  | 0, _, _, _, _, _ => none
  | n + 1, x1, x2, x3, Q_reachLow, Q_reachHigh =>
    if x1 ≤ x3 then
      z_gb x2 <| some (x2)
    else
      if x2 = 0 then
        zf_Q_isLeast_26 (zf_Q_isLeast_4 n) x1 x3 Q_reachLow Q_reachHigh
      else
        z_b1 (zf_Q_leads x1 x3 Q_reachLow Q_reachHigh) fun r1 =>
        if r1 = 0 then
          zf_Q_isLeast_27 (zf_Q_isLeast_4 n) x1 x3 (1 : Int32) Q_reachLow Q_reachHigh
        else
          zf_Q_isLeast_26 (zf_Q_isLeast_4 n) x1 x3 Q_reachLow Q_reachHigh
def zf_Q_isLeast (x1 : Int32) (Q_reachLow : Nat → Int64) (Q_reachHigh : Nat → Int64) : Option (Int32) :=
  zf_Q_isLeast_4 z_FU x1 (1 : Int32) (0 : Int32) Q_reachLow Q_reachHigh
def zf_Q_analyse_25 : Nat → Int32 → Int32 → (Nat → Int64) → (Nat → Int64) → (Nat → Int32) → Int32 → Int32 → (Nat → Int64) → (Nat → Int64) → Int32 → (Nat → Int32) → Option (Int32 × Int32 × Int32 × (Nat → Int64) × (Nat → Int64) × Int32 × (Nat → Int32))
  | 0, _, _, _, _, _, _, _, _, _, _, _ => none
  | n + 1, x2, Q_genes, Q_low, Q_high, Q_fixed, Q_analysed, Q_one, Q_reachLow, Q_reachHigh, Q_attractors, Q_leastOf =>
    if ((1 : Int32) <<< (Q_genes &&& 31)) ≤ x2 then
      some (Q_attractors, (1 : Int32), Q_one, Q_reachLow, Q_reachHigh, Q_attractors, Q_leastOf)
    else
      z_b1 (zf_Q_settled x2 Q_genes Q_reachLow Q_reachHigh) fun r1 =>
      if r1 = 0 then
        (zf_Q_analyse_25 n) (x2 + (1 : Int32)) Q_genes Q_low Q_high Q_fixed Q_analysed Q_one Q_reachLow Q_reachHigh Q_attractors Q_leastOf
      else
        z_b1 (zf_Q_isLeast x2 Q_reachLow Q_reachHigh) fun r2 =>
        if r2 = 0 then
          (zf_Q_analyse_25 n) (x2 + (1 : Int32)) Q_genes Q_low Q_high Q_fixed Q_analysed Q_one Q_reachLow Q_reachHigh Q_attractors Q_leastOf
        else
          z_gd Q_attractors 128 <|
          (zf_Q_analyse_25 n) (x2 + (1 : Int32)) Q_genes Q_low Q_high Q_fixed Q_analysed Q_one Q_reachLow Q_reachHigh (Q_attractors + (1 : Int32)) (upd Q_leastOf Q_attractors.toNatClampNeg x2)
def zf_Q_analyse (x1 : Int32) (Q_genes : Int32) (Q_low : Nat → Int64) (Q_high : Nat → Int64) (Q_fixed : Nat → Int32) (Q_analysed : Int32) (Q_one : Int32) (Q_reachLow : Nat → Int64) (Q_reachHigh : Nat → Int64) (Q_attractors : Int32) (Q_leastOf : Nat → Int32) : Option (Int32 × Int32 × Int32 × (Nat → Int64) × (Nat → Int64) × Int32 × (Nat → Int32)) :=
  if Q_genes = 0 then
    some ((-1 : Int32), Q_analysed, Q_one, Q_reachLow, Q_reachHigh, Q_attractors, Q_leastOf)
  else
    z_gb x1 <|
    z_b2 (zf_Q_spreadOut Q_genes Q_low Q_high Q_fixed x1 Q_reachLow Q_reachHigh) fun Q_reachLow_1 Q_reachHigh_1 =>
    zf_Q_analyse_25 z_FU (0 : Int32) Q_genes Q_low Q_high Q_fixed Q_analysed x1 Q_reachLow_1 Q_reachHigh_1 (0 : Int32) Q_leastOf
def zf_Q_isAttractor (x1 : Int32) (Q_analysed : Int32) (Q_attractors : Int32) : Option (Int32) :=
  if Q_analysed = 0 then
    z_gb (0 : Int32) <| some ((0 : Int32))
  else
    if x1 < 0 then
      z_gb (0 : Int32) <| some ((0 : Int32))
    else
      if Q_attractors ≤ x1 then
        z_gb (0 : Int32) <| some ((0 : Int32))
      else
        z_gb (1 : Int32) <| some ((1 : Int32))
def zf_Q_in (x1 : Int32) (x2 : Int32) (Q_reachLow : Nat → Int64) (Q_reachHigh : Nat → Int64) (Q_leastOf : Nat → Int32) : Option (Int32) :=
  z_gd x2 128 <|
  z_b1 (zf_Q_leads (Q_leastOf x2.toNatClampNeg) x1 Q_reachLow Q_reachHigh) fun r1 =>
  z_gb r1 <| some (r1)
def zf_Q_size_37 (k4 : Int32 → Int32 → Int32 → Int32 → Int32 → (Nat → Int64) → (Nat → Int64) → Int32 → (Nat → Int32) → Option (Int32)) (x1 : Int32) (x3 : Int32) (t0 : Int32) (t1 : Int32) (Q_genes : Int32) (Q_analysed : Int32) (Q_reachLow : Nat → Int64) (Q_reachHigh : Nat → Int64) (Q_attractors : Int32) (Q_leastOf : Nat → Int32) : Option (Int32) :=
  k4 x1 (t0 + t1) (x3 + (1 : Int32)) Q_genes Q_analysed Q_reachLow Q_reachHigh Q_attractors Q_leastOf
def zf_Q_size_4 : Nat → Int32 → Int32 → Int32 → Int32 → Int32 → (Nat → Int64) → (Nat → Int64) → Int32 → (Nat → Int32) → Option (Int32)
  | 0, _, _, _, _, _, _, _, _, _ => none
  | n + 1, x1, x2, x3, Q_genes, Q_analysed, Q_reachLow, Q_reachHigh, Q_attractors, Q_leastOf =>
    if ((1 : Int32) <<< (Q_genes &&& 31)) ≤ x3 then
      some (x2)
    else
      z_b1 (zf_Q_isAttractor x1 Q_analysed Q_attractors) fun r1 =>
      if r1 = 0 then
        some (x2)
      else
        z_b1 (zf_Q_in x3 x1 Q_reachLow Q_reachHigh Q_leastOf) fun r2 =>
        if r2 = 0 then
          zf_Q_size_37 (zf_Q_size_4 n) x1 x3 x2 (0 : Int32) Q_genes Q_analysed Q_reachLow Q_reachHigh Q_attractors Q_leastOf
        else
          zf_Q_size_37 (zf_Q_size_4 n) x1 x3 x2 (1 : Int32) Q_genes Q_analysed Q_reachLow Q_reachHigh Q_attractors Q_leastOf
def zf_Q_size (x1 : Int32) (Q_genes : Int32) (Q_analysed : Int32) (Q_reachLow : Nat → Int64) (Q_reachHigh : Nat → Int64) (Q_attractors : Int32) (Q_leastOf : Nat → Int32) : Option (Int32) :=
  zf_Q_size_4 z_FU x1 (0 : Int32) (0 : Int32) Q_genes Q_analysed Q_reachLow Q_reachHigh Q_attractors Q_leastOf
def zf_Q_least (x1 : Int32) (Q_analysed : Int32) (Q_attractors : Int32) (Q_leastOf : Nat → Int32) : Option (Int32) :=
  z_b1 (zf_Q_isAttractor x1 Q_analysed Q_attractors) fun r1 =>
  if r1 = 0 then
    some ((-1 : Int32))
  else
    z_gd x1 128 <|
    some ((Q_leastOf x1.toNatClampNeg))
def zf_Q_attractor_2 : Nat → Int32 → Int32 → Int32 → Int32 → (Nat → Int64) → (Nat → Int64) → Int32 → (Nat → Int32) → Option (Int32)
  | 0, _, _, _, _, _, _, _, _ => none
  | n + 1, x1, x2, Q_genes, Q_analysed, Q_reachLow, Q_reachHigh, Q_attractors, Q_leastOf =>
    if Q_attractors ≤ x2 then
      some ((-1 : Int32))
    else
      if Q_analysed = 0 then
        some ((-1 : Int32))
      else
        z_b1 (zf_Q_isState x1 Q_genes) fun r1 =>
        if r1 = 0 then
          some ((-1 : Int32))
        else
          z_b1 (zf_Q_in x1 x2 Q_reachLow Q_reachHigh Q_leastOf) fun r2 =>
          if r2 = 0 then
            (zf_Q_attractor_2 n) x1 (x2 + (1 : Int32)) Q_genes Q_analysed Q_reachLow Q_reachHigh Q_attractors Q_leastOf
          else
            some (x2)
def zf_Q_attractor (x1 : Int32) (Q_genes : Int32) (Q_analysed : Int32) (Q_reachLow : Nat → Int64) (Q_reachHigh : Nat → Int64) (Q_attractors : Int32) (Q_leastOf : Nat → Int32) : Option (Int32) :=
  zf_Q_attractor_2 z_FU x1 (0 : Int32) Q_genes Q_analysed Q_reachLow Q_reachHigh Q_attractors Q_leastOf
def zf_Q_basin_42 (k4 : Int32 → Int32 → Int32 → Int32 → Int32 → (Nat → Int64) → (Nat → Int64) → Int32 → (Nat → Int32) → Option (Int32)) (x1 : Int32) (x3 : Int32) (t0 : Int32) (t1 : Int32) (Q_genes : Int32) (Q_analysed : Int32) (Q_reachLow : Nat → Int64) (Q_reachHigh : Nat → Int64) (Q_attractors : Int32) (Q_leastOf : Nat → Int32) : Option (Int32) :=
  k4 x1 (t0 + t1) (x3 + (1 : Int32)) Q_genes Q_analysed Q_reachLow Q_reachHigh Q_attractors Q_leastOf
def zf_Q_basin_4 : Nat → Int32 → Int32 → Int32 → Int32 → Int32 → (Nat → Int64) → (Nat → Int64) → Int32 → (Nat → Int32) → Option (Int32)
  | 0, _, _, _, _, _, _, _, _, _ => none
  | n + 1, x1, x2, x3, Q_genes, Q_analysed, Q_reachLow, Q_reachHigh, Q_attractors, Q_leastOf =>
    if ((1 : Int32) <<< (Q_genes &&& 31)) ≤ x3 then
      some (x2)
    else
      z_b1 (zf_Q_isAttractor x1 Q_analysed Q_attractors) fun r1 =>
      if r1 = 0 then
        some (x2)
      else
        z_gd x1 128 <|
        z_b1 (zf_Q_leads x3 (Q_leastOf x1.toNatClampNeg) Q_reachLow Q_reachHigh) fun r2 =>
        if r2 = 0 then
          zf_Q_basin_42 (zf_Q_basin_4 n) x1 x3 x2 (0 : Int32) Q_genes Q_analysed Q_reachLow Q_reachHigh Q_attractors Q_leastOf
        else
          zf_Q_basin_42 (zf_Q_basin_4 n) x1 x3 x2 (1 : Int32) Q_genes Q_analysed Q_reachLow Q_reachHigh Q_attractors Q_leastOf
def zf_Q_basin (x1 : Int32) (Q_genes : Int32) (Q_analysed : Int32) (Q_reachLow : Nat → Int64) (Q_reachHigh : Nat → Int64) (Q_attractors : Int32) (Q_leastOf : Nat → Int32) : Option (Int32) :=
  zf_Q_basin_4 z_FU x1 (0 : Int32) (0 : Int32) Q_genes Q_analysed Q_reachLow Q_reachHigh Q_attractors Q_leastOf
def zf_Q_only_78 (k38 : Int32 → Int32 → Int32 → Int32 → Int32 → Int32 → Int32 → (Nat → Int64) → (Nat → Int64) → Int32 → (Nat → Int32) → Option (Int32)) (x1 : Int32) (x2 : Int32) (x3 : Int32) (x5 : Int32) (t0 : Int32) (Q_genes : Int32) (Q_analysed : Int32) (Q_reachLow : Nat → Int64) (Q_reachHigh : Nat → Int64) (Q_attractors : Int32) (Q_leastOf : Nat → Int32) : Option (Int32) :=
  k38 x1 x2 x3 t0 (x5 + (1 : Int32)) Q_genes Q_analysed Q_reachLow Q_reachHigh Q_attractors Q_leastOf
def zf_Q_only_73 (k38 : Int32 → Int32 → Int32 → Int32 → Int32 → Int32 → Int32 → (Nat → Int64) → (Nat → Int64) → Int32 → (Nat → Int32) → Option (Int32)) (x1 : Int32) (x2 : Int32) (x3 : Int32) (x5 : Int32) (Q_genes : Int32) (Q_analysed : Int32) (Q_reachLow : Nat → Int64) (Q_reachHigh : Nat → Int64) (Q_attractors : Int32) (Q_leastOf : Nat → Int32) : Option (Int32) :=
  zf_Q_only_78 k38 x1 x2 x3 x5 (1 : Int32) Q_genes Q_analysed Q_reachLow Q_reachHigh Q_attractors Q_leastOf
def zf_Q_only_77 (k38 : Int32 → Int32 → Int32 → Int32 → Int32 → Int32 → Int32 → (Nat → Int64) → (Nat → Int64) → Int32 → (Nat → Int32) → Option (Int32)) (x1 : Int32) (x2 : Int32) (x3 : Int32) (x5 : Int32) (Q_genes : Int32) (Q_analysed : Int32) (Q_reachLow : Nat → Int64) (Q_reachHigh : Nat → Int64) (Q_attractors : Int32) (Q_leastOf : Nat → Int32) : Option (Int32) :=
  zf_Q_only_78 k38 x1 x2 x3 x5 (0 : Int32) Q_genes Q_analysed Q_reachLow Q_reachHigh Q_attractors Q_leastOf
def zf_Q_only_97 (k4 : Int32 → Int32 → Int32 → Int32 → Int32 → (Nat → Int64) → (Nat → Int64) → Int32 → (Nat → Int32) → Option (Int32)) (x1 : Int32) (x3 : Int32) (t0 : Int32) (t1 : Int32) (Q_genes : Int32) (Q_analysed : Int32) (Q_reachLow : Nat → Int64) (Q_reachHigh : Nat → Int64) (Q_attractors : Int32) (Q_leastOf : Nat → Int32) : Option (Int32) :=
  k4 x1 (t0 + t1) (x3 + (1 : Int32)) Q_genes Q_analysed Q_reachLow Q_reachHigh Q_attractors Q_leastOf
def zf_Q_only_38 (k4 : Int32 → Int32 → Int32 → Int32 → Int32 → (Nat → Int64) → (Nat → Int64) → Int32 → (Nat → Int32) → Option (Int32)) : Nat → Int32 → Int32 → Int32 → Int32 → Int32 → Int32 → Int32 → (Nat → Int64) → (Nat → Int64) → Int32 → (Nat → Int32) → Option (Int32)
  | 0, _, _, _, _, _, _, _, _, _, _, _ => none
  | n + 1, x1, x2, x3, x4, x5, Q_genes, Q_analysed, Q_reachLow, Q_reachHigh, Q_attractors, Q_leastOf =>
    if Q_attractors ≤ x5 then
      if x4 = 0 then
        zf_Q_only_97 k4 x1 x3 x2 (0 : Int32) Q_genes Q_analysed Q_reachLow Q_reachHigh Q_attractors Q_leastOf
      else
        zf_Q_only_97 k4 x1 x3 x2 (1 : Int32) Q_genes Q_analysed Q_reachLow Q_reachHigh Q_attractors Q_leastOf
    else
      if x4 = 0 then
        zf_Q_only_77 (zf_Q_only_38 k4 n) x1 x2 x3 x5 Q_genes Q_analysed Q_reachLow Q_reachHigh Q_attractors Q_leastOf
      else
        if x5 = x1 then
          zf_Q_only_73 (zf_Q_only_38 k4 n) x1 x2 x3 x5 Q_genes Q_analysed Q_reachLow Q_reachHigh Q_attractors Q_leastOf
        else
          z_gd x5 128 <|
          z_b1 (zf_Q_leads x3 (Q_leastOf x5.toNatClampNeg) Q_reachLow Q_reachHigh) fun r1 =>
          if r1 = 0 then
            zf_Q_only_73 (zf_Q_only_38 k4 n) x1 x2 x3 x5 Q_genes Q_analysed Q_reachLow Q_reachHigh Q_attractors Q_leastOf
          else
            zf_Q_only_77 (zf_Q_only_38 k4 n) x1 x2 x3 x5 Q_genes Q_analysed Q_reachLow Q_reachHigh Q_attractors Q_leastOf
def zf_Q_only_4 : Nat → Int32 → Int32 → Int32 → Int32 → Int32 → (Nat → Int64) → (Nat → Int64) → Int32 → (Nat → Int32) → Option (Int32)
  | 0, _, _, _, _, _, _, _, _, _ => none
  | n + 1, x1, x2, x3, Q_genes, Q_analysed, Q_reachLow, Q_reachHigh, Q_attractors, Q_leastOf =>
    if ((1 : Int32) <<< (Q_genes &&& 31)) ≤ x3 then
      some (x2)
    else
      z_b1 (zf_Q_isAttractor x1 Q_analysed Q_attractors) fun r1 =>
      if r1 = 0 then
        some (x2)
      else
        z_gd x1 128 <|
        z_b1 (zf_Q_leads x3 (Q_leastOf x1.toNatClampNeg) Q_reachLow Q_reachHigh) fun r2 =>
        zf_Q_only_38 (zf_Q_only_4 n) z_FU x1 x2 x3 r2 (0 : Int32) Q_genes Q_analysed Q_reachLow Q_reachHigh Q_attractors Q_leastOf
def zf_Q_only (x1 : Int32) (Q_genes : Int32) (Q_analysed : Int32) (Q_reachLow : Nat → Int64) (Q_reachHigh : Nat → Int64) (Q_attractors : Int32) (Q_leastOf : Nat → Int32) : Option (Int32) :=
  zf_Q_only_4 z_FU x1 (0 : Int32) (0 : Int32) Q_genes Q_analysed Q_reachLow Q_reachHigh Q_attractors Q_leastOf
def zf_Q_fits_47 (k5 : Int32 → Int32 → Int32 → Int32 → Int32 → Option (Int32)) (x0 : Int32) (x1 : Int32) (x2 : Int32) (x4 : Int32) (t0 : Int32) : Option (Int32) :=
  k5 x0 x1 x2 t0 (x4 + (1 : Int32))
def zf_Q_fits_42 (k5 : Int32 → Int32 → Int32 → Int32 → Int32 → Option (Int32)) (x0 : Int32) (x1 : Int32) (x2 : Int32) (x4 : Int32) : Option (Int32) :=
  zf_Q_fits_47 k5 x0 x1 x2 x4 (1 : Int32)
def zf_Q_fits_46 (k5 : Int32 → Int32 → Int32 → Int32 → Int32 → Option (Int32)) (x0 : Int32) (x1 : Int32) (x2 : Int32) (x4 : Int32) : Option (Int32) :=
  zf_Q_fits_47 k5 x0 x1 x2 x4 (0 : Int32)
def zf_Q_fits_5 : Nat → Int32 → Int32 → Int32 → Int32 → Int32 → Option (Int32)
  | 0, _, _, _, _, _ => none
  | n + 1, x0, x1, x2, x3, x4 =>
    if x1 ≤ x4 then
      z_gb x3 <| some (x3)
    else
      if x3 = 0 then
        zf_Q_fits_46 (zf_Q_fits_5 n) x0 x1 x2 x4
      else
        if ((x2 >>> (((2 : Int32) * x4) &&& 31)) &&& (3 : Int32)) = (2 : Int32) then
          zf_Q_fits_42 (zf_Q_fits_5 n) x0 x1 x2 x4
        else
          if ((x2 >>> (((2 : Int32) * x4) &&& 31)) &&& (3 : Int32)) = ((x0 >>> (x4 &&& 31)) &&& (1 : Int32)) then
            zf_Q_fits_42 (zf_Q_fits_5 n) x0 x1 x2 x4
          else
            zf_Q_fits_46 (zf_Q_fits_5 n) x0 x1 x2 x4
def zf_Q_fits (x0 : Int32) (x1 : Int32) (x2 : Int32) : Option (Int32) :=
  zf_Q_fits_5 z_FU x0 x1 x2 (1 : Int32) (0 : Int32)
def zf_Q_share_116 (k12 : Int32 → Int32 → Int32 → Int32 → Int32 → Int32 → Int32 → Int32 → (Nat → Int64) → (Nat → Int64) → (Nat → Int32) → Option (Int32)) (x1 : Int32) (x2 : Int32) (x3 : Int32) (x4 : Int32) (x5 : Int32) (x7 : Int32) (t0 : Int32) (Q_genes : Int32) (Q_reachLow : Nat → Int64) (Q_reachHigh : Nat → Int64) (Q_leastOf : Nat → Int32) : Option (Int32) :=
  k12 x1 x2 x3 x4 x5 t0 (x7 + (1 : Int32)) Q_genes Q_reachLow Q_reachHigh Q_leastOf
def zf_Q_share_111 (k12 : Int32 → Int32 → Int32 → Int32 → Int32 → Int32 → Int32 → Int32 → (Nat → Int64) → (Nat → Int64) → (Nat → Int32) → Option (Int32)) (x1 : Int32) (x2 : Int32) (x3 : Int32) (x4 : Int32) (x5 : Int32) (x7 : Int32) (Q_genes : Int32) (Q_reachLow : Nat → Int64) (Q_reachHigh : Nat → Int64) (Q_leastOf : Nat → Int32) : Option (Int32) :=
  zf_Q_share_116 k12 x1 x2 x3 x4 x5 x7 (1 : Int32) Q_genes Q_reachLow Q_reachHigh Q_leastOf
def zf_Q_share_115 (k12 : Int32 → Int32 → Int32 → Int32 → Int32 → Int32 → Int32 → Int32 → (Nat → Int64) → (Nat → Int64) → (Nat → Int32) → Option (Int32)) (x1 : Int32) (x2 : Int32) (x3 : Int32) (x4 : Int32) (x5 : Int32) (x7 : Int32) (Q_genes : Int32) (Q_reachLow : Nat → Int64) (Q_reachHigh : Nat → Int64) (Q_leastOf : Nat → Int32) : Option (Int32) :=
  zf_Q_share_116 k12 x1 x2 x3 x4 x5 x7 (0 : Int32) Q_genes Q_reachLow Q_reachHigh Q_leastOf
def zf_Q_share_75 (k12 : Int32 → Int32 → Int32 → Int32 → Int32 → Int32 → Int32 → Int32 → (Nat → Int64) → (Nat → Int64) → (Nat → Int32) → Option (Int32)) (x1 : Int32) (x2 : Int32) (x3 : Int32) (x4 : Int32) (x6 : Int32) (x7 : Int32) (t0 : Int32) (Q_genes : Int32) (Q_reachLow : Nat → Int64) (Q_reachHigh : Nat → Int64) (Q_leastOf : Nat → Int32) : Option (Int32) :=
  if x6 = 0 then
    if Q_genes ≤ x2 then
      zf_Q_share_115 k12 x1 x2 x3 x4 t0 x7 Q_genes Q_reachLow Q_reachHigh Q_leastOf
    else
      z_b1 (zf_Q_in x7 x1 Q_reachLow Q_reachHigh Q_leastOf) fun r1 =>
      z_b1 (zf_Q_in (x7 ^^^ ((1 : Int32) <<< (x2 &&& 31))) x1 Q_reachLow Q_reachHigh Q_leastOf) fun r2 =>
      if r1 = r2 then
        zf_Q_share_115 k12 x1 x2 x3 x4 t0 x7 Q_genes Q_reachLow Q_reachHigh Q_leastOf
      else
        zf_Q_share_111 k12 x1 x2 x3 x4 t0 x7 Q_genes Q_reachLow Q_reachHigh Q_leastOf
  else
    zf_Q_share_111 k12 x1 x2 x3 x4 t0 x7 Q_genes Q_reachLow Q_reachHigh Q_leastOf
def zf_Q_share_74 (k12 : Int32 → Int32 → Int32 → Int32 → Int32 → Int32 → Int32 → Int32 → (Nat → Int64) → (Nat → Int64) → (Nat → Int32) → Option (Int32)) (x1 : Int32) (x2 : Int32) (x3 : Int32) (x4 : Int32) (x6 : Int32) (x7 : Int32) (Q_genes : Int32) (Q_reachLow : Nat → Int64) (Q_reachHigh : Nat → Int64) (Q_leastOf : Nat → Int32) : Option (Int32) :=
  zf_Q_share_75 k12 x1 x2 x3 x4 x6 x7 (0 : Int32) Q_genes Q_reachLow Q_reachHigh Q_leastOf
def zf_Q_share_53 (k12 : Int32 → Int32 → Int32 → Int32 → Int32 → Int32 → Int32 → Int32 → (Nat → Int64) → (Nat → Int64) → (Nat → Int32) → Option (Int32)) (x1 : Int32) (x2 : Int32) (x3 : Int32) (x5 : Int32) (x6 : Int32) (x7 : Int32) (t0 : Int32) (Q_genes : Int32) (Q_reachLow : Nat → Int64) (Q_reachHigh : Nat → Int64) (Q_leastOf : Nat → Int32) : Option (Int32) :=
  if x5 = 0 then
    zf_Q_share_74 k12 x1 x2 x3 t0 x6 x7 Q_genes Q_reachLow Q_reachHigh Q_leastOf
  else
    z_b1 (zf_Q_in x7 x1 Q_reachLow Q_reachHigh Q_leastOf) fun r1 =>
    if r1 = 0 then
      zf_Q_share_74 k12 x1 x2 x3 t0 x6 x7 Q_genes Q_reachLow Q_reachHigh Q_leastOf
    else
      zf_Q_share_75 k12 x1 x2 x3 t0 x6 x7 (1 : Int32) Q_genes Q_reachLow Q_reachHigh Q_leastOf
def zf_Q_share_48 (k12 : Int32 → Int32 → Int32 → Int32 → Int32 → Int32 → Int32 → Int32 → (Nat → Int64) → (Nat → Int64) → (Nat → Int32) → Option (Int32)) (x1 : Int32) (x2 : Int32) (x3 : Int32) (x5 : Int32) (x6 : Int32) (x7 : Int32) (Q_genes : Int32) (Q_reachLow : Nat → Int64) (Q_reachHigh : Nat → Int64) (Q_leastOf : Nat → Int32) : Option (Int32) :=
  zf_Q_share_53 k12 x1 x2 x3 x5 x6 x7 (1 : Int32) Q_genes Q_reachLow Q_reachHigh Q_leastOf
def zf_Q_share_12 : Nat → Int32 → Int32 → Int32 → Int32 → Int32 → Int32 → Int32 → Int32 → (Nat → Int64) → (Nat → Int64) → (Nat → Int32) → Option (Int32)
  | 0, _, _, _, _, _, _, _, _, _, _, _ => none
  | n + 1, x1, x2, x3, x4, x5, x6, x7, Q_genes, Q_reachLow, Q_reachHigh, Q_leastOf =>
    if ((1 : Int32) <<< (Q_genes &&& 31)) ≤ x7 then
      if x4 = 0 then
        some ((0 : Int32))
      else
        if x5 = 0 then
          if x6 = 0 then
            some ((3 : Int32))
          else
            some ((2 : Int32))
        else
          some ((1 : Int32))
    else
      z_b1 (zf_Q_fits x7 x2 x3) fun r1 =>
      if r1 = 0 then
        (zf_Q_share_12 n) x1 x2 x3 x4 x5 x6 (x7 + (1 : Int32)) Q_genes Q_reachLow Q_reachHigh Q_leastOf
      else
        if x4 = 0 then
          z_b1 (zf_Q_in x7 x1 Q_reachLow Q_reachHigh Q_leastOf) fun r2 =>
          if r2 = 0 then
            zf_Q_share_53 (zf_Q_share_12 n) x1 x2 x3 x5 x6 x7 (0 : Int32) Q_genes Q_reachLow Q_reachHigh Q_leastOf
          else
            zf_Q_share_48 (zf_Q_share_12 n) x1 x2 x3 x5 x6 x7 Q_genes Q_reachLow Q_reachHigh Q_leastOf
        else
          zf_Q_share_48 (zf_Q_share_12 n) x1 x2 x3 x5 x6 x7 Q_genes Q_reachLow Q_reachHigh Q_leastOf
def zf_Q_share (x1 : Int32) (x2 : Int32) (x3 : Int32) (Q_genes : Int32) (Q_reachLow : Nat → Int64) (Q_reachHigh : Nat → Int64) (Q_leastOf : Nat → Int32) : Option (Int32) :=
  zf_Q_share_12 z_FU x1 x2 x3 (0 : Int32) (1 : Int32) (0 : Int32) (0 : Int32) Q_genes Q_reachLow Q_reachHigh Q_leastOf
def zf_Q_later (x1 : Int32) (x2 : Int32) (Q_open : Int32) (Q_givenTo : Nat → Int32) (Q_given : Nat → Int32) : Option (Int32 × (Nat → Int32) × (Nat → Int32)) :=
  z_gd Q_open 32 <|
  z_gd Q_open 32 <|
  some ((Q_open + (1 : Int32)), (upd Q_givenTo Q_open.toNatClampNeg x1), (upd Q_given Q_open.toNatClampNeg x2))
def zf_Q_look_73 (k13 : Int32 → Int32 → Int32 → Int32 → (Nat → Int64) → (Nat → Int64) → (Nat → Int32) → Int32 → (Nat → Int32) → (Nat → Int32) → Option (Int32 × Int32 × (Nat → Int32) × (Nat → Int32))) : Nat → Int32 → Int32 → Int32 → Int32 → Int32 → Int32 → (Nat → Int64) → (Nat → Int64) → (Nat → Int32) → Int32 → (Nat → Int32) → (Nat → Int32) → Option (Int32 × Int32 × (Nat → Int32) × (Nat → Int32))
  | 0, _, _, _, _, _, _, _, _, _, _, _, _ => none
  | n + 1, x1, x2, x3, x5, x7, Q_genes, Q_reachLow, Q_reachHigh, Q_leastOf, Q_open, Q_givenTo, Q_given =>
    if Q_genes ≤ x7 then
      if x3 = x2 then
        some (x5, Q_open, Q_givenTo, Q_given)
      else
        k13 x1 x2 (x3 + (1 : Int32)) Q_genes Q_reachLow Q_reachHigh Q_leastOf Q_open Q_givenTo Q_given
    else
      (zf_Q_look_73 k13 n) x1 x2 x3 (x5 + ((2 : Int32) <<< (((2 : Int32) * x7) &&& 31))) (x7 + (1 : Int32)) Q_genes Q_reachLow Q_reachHigh Q_leastOf Q_open Q_givenTo Q_given
def zf_Q_look_13 : Nat → Int32 → Int32 → Int32 → Int32 → (Nat → Int64) → (Nat → Int64) → (Nat → Int32) → Int32 → (Nat → Int32) → (Nat → Int32) → Option (Int32 × Int32 × (Nat → Int32) × (Nat → Int32))
  | 0, _, _, _, _, _, _, _, _, _, _ => none
  | n + 1, x1, x2, x3, Q_genes, Q_reachLow, Q_reachHigh, Q_leastOf, Q_open, Q_givenTo, Q_given =>
    if Q_open ≤ 0 then
      if 0 ≤ x2 then
        some ((-1 : Int32), Q_open, Q_givenTo, Q_given)
      else
        some (x3, Q_open, Q_givenTo, Q_given)
    else
      z_gd (Q_open - (1 : Int32)) 32 <|
      z_gd (Q_open - (1 : Int32)) 32 <|
      z_b1 (zf_Q_share x1 (Q_givenTo (Q_open - (1 : Int32)).toNatClampNeg) (Q_given (Q_open - (1 : Int32)).toNatClampNeg) Q_genes Q_reachLow Q_reachHigh Q_leastOf) fun r1 =>
      if r1 = (1 : Int32) then
        zf_Q_look_73 (zf_Q_look_13 n) z_FU x1 x2 x3 (Q_given (Q_open - (1 : Int32)).toNatClampNeg) (Q_givenTo (Q_open - (1 : Int32)).toNatClampNeg) Q_genes Q_reachLow Q_reachHigh Q_leastOf (Q_open - (1 : Int32)) Q_givenTo Q_given
      else
        if r1 = (3 : Int32) then
          z_b3 (zf_Q_later ((Q_givenTo (Q_open - (1 : Int32)).toNatClampNeg) + (1 : Int32)) ((Q_given (Q_open - (1 : Int32)).toNatClampNeg) + ((2 : Int32) <<< (((2 : Int32) * (Q_givenTo (Q_open - (1 : Int32)).toNatClampNeg)) &&& 31))) (Q_open - (1 : Int32)) Q_givenTo Q_given) fun Q_open_4 Q_givenTo_4 Q_given_4 =>
          (zf_Q_look_13 n) x1 x2 x3 Q_genes Q_reachLow Q_reachHigh Q_leastOf Q_open_4 Q_givenTo_4 Q_given_4
        else
          if r1 = (2 : Int32) then
            z_b3 (zf_Q_later ((Q_givenTo (Q_open - (1 : Int32)).toNatClampNeg) + (1 : Int32)) ((Q_given (Q_open - (1 : Int32)).toNatClampNeg) + ((1 : Int32) <<< (((2 : Int32) * (Q_givenTo (Q_open - (1 : Int32)).toNatClampNeg)) &&& 31))) (Q_open - (1 : Int32)) Q_givenTo Q_given) fun Q_open_2 Q_givenTo_2 Q_given_2 =>
            z_b3 (zf_Q_later ((Q_givenTo (Q_open - (1 : Int32)).toNatClampNeg) + (1 : Int32)) (Q_given (Q_open - (1 : Int32)).toNatClampNeg) Q_open_2 Q_givenTo_2 Q_given_2) fun Q_open_3 Q_givenTo_3 Q_given_3 =>
            (zf_Q_look_13 n) x1 x2 x3 Q_genes Q_reachLow Q_reachHigh Q_leastOf Q_open_3 Q_givenTo_3 Q_given_3
          else
            (zf_Q_look_13 n) x1 x2 x3 Q_genes Q_reachLow Q_reachHigh Q_leastOf (Q_open - (1 : Int32)) Q_givenTo Q_given
def zf_Q_look (x1 : Int32) (x2 : Int32) (Q_genes : Int32) (Q_reachLow : Nat → Int64) (Q_reachHigh : Nat → Int64) (Q_leastOf : Nat → Int32) (Q_open : Int32) (Q_givenTo : Nat → Int32) (Q_given : Nat → Int32) : Option (Int32 × Int32 × (Nat → Int32) × (Nat → Int32)) :=
  z_b3 (zf_Q_later (0 : Int32) (0 : Int32) (0 : Int32) Q_givenTo Q_given) fun Q_open_1 Q_givenTo_1 Q_given_1 =>
  zf_Q_look_13 z_FU x1 x2 (0 : Int32) Q_genes Q_reachLow Q_reachHigh Q_leastOf Q_open_1 Q_givenTo_1 Q_given_1
def zf_Q_cubes (x1 : Int32) (Q_genes : Int32) (Q_analysed : Int32) (Q_reachLow : Nat → Int64) (Q_reachHigh : Nat → Int64) (Q_attractors : Int32) (Q_leastOf : Nat → Int32) (Q_open : Int32) (Q_givenTo : Nat → Int32) (Q_given : Nat → Int32) : Option (Int32 × Int32 × (Nat → Int32) × (Nat → Int32)) :=
  z_b1 (zf_Q_isAttractor x1 Q_analysed Q_attractors) fun r1 =>
  if r1 = 0 then
    some ((0 : Int32), Q_open, Q_givenTo, Q_given)
  else
    z_b4 (zf_Q_look x1 (-1 : Int32) Q_genes Q_reachLow Q_reachHigh Q_leastOf Q_open Q_givenTo Q_given) fun r2 Q_open_2 Q_givenTo_2 Q_given_2 =>
    some (r2, Q_open_2, Q_givenTo_2, Q_given_2)
def zf_Q_cube (x1 : Int32) (x2 : Int32) (Q_genes : Int32) (Q_analysed : Int32) (Q_reachLow : Nat → Int64) (Q_reachHigh : Nat → Int64) (Q_attractors : Int32) (Q_leastOf : Nat → Int32) (Q_open : Int32) (Q_givenTo : Nat → Int32) (Q_given : Nat → Int32) : Option (Int32 × Int32 × (Nat → Int32) × (Nat → Int32)) :=
  z_b1 (zf_Q_isAttractor x1 Q_analysed Q_attractors) fun r1 =>
  if r1 = 0 then
    some ((-1 : Int32), Q_open, Q_givenTo, Q_given)
  else
    if x2 < 0 then
      some ((-1 : Int32), Q_open, Q_givenTo, Q_given)
    else
      z_b4 (zf_Q_look x1 x2 Q_genes Q_reachLow Q_reachHigh Q_leastOf Q_open Q_givenTo Q_given) fun r2 Q_open_2 Q_givenTo_2 Q_given_2 =>
      some (r2, Q_open_2, Q_givenTo_2, Q_given_2)
