def fRi_within (p0 : Int32) (p1 : Int32) (p2 : Int32) : Option (Int32) :=
  if p0 < p1 then
   some (0 : Int32)
  else
   if p2 < p0 then
    some (0 : Int32)
   else
    some (1 : Int32)
def fSc_hasPicture (p1 : Int32) (sc_count : Int32) : Option (Int32) :=
  if p1 < 0 then
   some (0 : Int32)
  else
   if sc_count ≤ p1 then
    some (0 : Int32)
   else
    if (6 : Int32) ≤ p1 then
     some (0 : Int32)
    else
     some (1 : Int32)
def fSc_isRight (p1 : Int32) (p2 : Int32) (p3 : Int32) (p4 : Int32) (sc_count : Int32) (sc_shotX : Nat → Int32) (sc_shotY : Nat → Int32) (sc_shotColumns : Nat → Int32) : Option (Int32) :=
  (fSc_hasPicture p1 sc_count).bind fun u1 =>
  if u1 = 0 then
   some (0 : Int32)
  else
   (fSc_hasPicture p2 sc_count).bind fun u3 =>
   if u3 = 0 then
    some (0 : Int32)
   else
    if 0 ≤ p1.toInt ∧ p1.toInt < 6 then
     (some (sc_shotColumns p1.toNatClampNeg)).bind fun (t6 : Int32) =>
     if t6 ≤ 0 then
      some (0 : Int32)
     else
      if 0 ≤ p2.toInt ∧ p2.toInt < 6 then
       if (sc_shotColumns p2.toNatClampNeg) = t6 then
        if 0 ≤ p2.toInt ∧ p2.toInt < 6 then
         if 0 ≤ p1.toInt ∧ p1.toInt < 6 then
          if (sc_shotY p2.toNatClampNeg) = ((sc_shotY p1.toNatClampNeg) + p3) then
           if 0 ≤ p2.toInt ∧ p2.toInt < 6 then
            if 0 ≤ p1.toInt ∧ p1.toInt < 6 then
             if ¬ t6 = 0 then
              if (sc_shotX p2.toNatClampNeg) = (((sc_shotX p1.toNatClampNeg) + p4) - ((sc_shotX p1.toNatClampNeg) + p4) / t6 * t6) then
               some (1 : Int32)
              else
               some (0 : Int32)
             else none
            else none
           else none
          else
           some (0 : Int32)
         else none
        else none
       else
        some (0 : Int32)
      else none
    else none
def fJ9_floorDiv_f86c9 (p0 : Int64) (p2 : Int64) : Option (Int64) :=
  if ¬ p2 = 0 then
   if 0 ≤ (lg_cmp (p0 ^^^ p2) (0 : Int64)) then
    some (p0 / p2)
   else
    if (lg_cmp ((p0 / p2) * p2) p0) = 0 then
     some (p0 / p2)
    else
     some ((p0 / p2) - (1 : Int64))
  else none
def fRi_nearest (p0 : Int64) (p2 : Int64) : Option (Int64) :=
  if (lg_cmp p2 (0 : Int64)) ≤ 0 then
   some (0 : Int64)
  else
   (fJ9_floorDiv_f86c9 (((2 : Int64) * p0) + p2) ((2 : Int64) * p2)).bind fun u2 =>
   some u2
def fSc_copyFrom (sc_columns : Int32) (sc_count : Int32) (sc_cornerChange : Int32) (sc_voteApart : Int32) (sc_dots : Nat → Int32) (sc_cells : Nat → Int32) (sc_shotX : Nat → Int32) (sc_shotY : Nat → Int32) (sc_shotColumns : Nat → Int32) (s2_columns : Int32) (s2_count : Int32) (s2_cornerChange : Int32) (s2_voteApart : Int32) (s2_dots : Nat → Int32) (s2_cells : Nat → Int32) (s2_shotX : Nat → Int32) (s2_shotY : Nat → Int32) (s2_shotColumns : Nat → Int32) : Option (Int32 × Int32 × Int32 × Int32 × (Nat → Int32) × (Nat → Int32) × (Nat → Int32) × (Nat → Int32) × (Nat → Int32)) :=
  if (¬ (0 : Int32) < 0 ∧ ¬ (0 : Int32) < 0 ∧ ¬ (192 : Int32) < 0) ∧ (0 : Int32).toNatClampNeg + (192 : Int32).toNatClampNeg ≤ 192 ∧ (0 : Int32).toNatClampNeg + (192 : Int32).toNatClampNeg ≤ 192 then
   if (¬ (0 : Int32) < 0 ∧ ¬ (0 : Int32) < 0 ∧ ¬ (192 : Int32) < 0) ∧ (0 : Int32).toNatClampNeg + (192 : Int32).toNatClampNeg ≤ 192 ∧ (0 : Int32).toNatClampNeg + (192 : Int32).toNatClampNeg ≤ 192 then
    if (¬ (0 : Int32) < 0 ∧ ¬ (0 : Int32) < 0 ∧ ¬ (6 : Int32) < 0) ∧ (0 : Int32).toNatClampNeg + (6 : Int32).toNatClampNeg ≤ 6 ∧ (0 : Int32).toNatClampNeg + (6 : Int32).toNatClampNeg ≤ 6 then
     if (¬ (0 : Int32) < 0 ∧ ¬ (0 : Int32) < 0 ∧ ¬ (6 : Int32) < 0) ∧ (0 : Int32).toNatClampNeg + (6 : Int32).toNatClampNeg ≤ 6 ∧ (0 : Int32).toNatClampNeg + (6 : Int32).toNatClampNeg ≤ 6 then
      if (¬ (0 : Int32) < 0 ∧ ¬ (0 : Int32) < 0 ∧ ¬ (6 : Int32) < 0) ∧ (0 : Int32).toNatClampNeg + (6 : Int32).toNatClampNeg ≤ 6 ∧ (0 : Int32).toNatClampNeg + (6 : Int32).toNatClampNeg ≤ 6 then
       some (s2_columns, s2_count, s2_cornerChange, s2_voteApart, (va_cpy s2_dots sc_dots (0 : Int32).toNatClampNeg (0 : Int32).toNatClampNeg (192 : Int32).toNatClampNeg), (va_cpy s2_cells sc_cells (0 : Int32).toNatClampNeg (0 : Int32).toNatClampNeg (192 : Int32).toNatClampNeg), (va_cpy s2_shotX sc_shotX (0 : Int32).toNatClampNeg (0 : Int32).toNatClampNeg (6 : Int32).toNatClampNeg), (va_cpy s2_shotY sc_shotY (0 : Int32).toNatClampNeg (0 : Int32).toNatClampNeg (6 : Int32).toNatClampNeg), (va_cpy s2_shotColumns sc_shotColumns (0 : Int32).toNatClampNeg (0 : Int32).toNatClampNeg (6 : Int32).toNatClampNeg))
      else none
     else none
    else none
   else none
  else none
def fRi_greatestDivisor_L31 : Nat → Int64 → Int64 → Int32 → Option (Int64)
  | 0, _, _, _ => none
  | n + 1, a31_4, a31_6, a31_8 =>
    if (200 : Int32) ≤ a31_8 then
     some a31_4
    else
     if (lg_cmp a31_6 (0 : Int64)) = 0 then
      some a31_4
     else
      if ¬ a31_6 = 0 then
       (some (a31_4 - a31_4 / a31_6 * a31_6)).bind fun (t9 : Int64) =>
       fRi_greatestDivisor_L31 n a31_6 t9 (a31_8 + (1 : Int32))
      else none
def fRi_greatestDivisor (p0 : Int64) (p2 : Int64) : Option (Int64) :=
  ((if 0 ≤ (lg_cmp p0 (0 : Int64)) then
    some p0
   else
    some (-p0) : Option (Int64))).bind fun u2 =>
  ((if 0 ≤ (lg_cmp p2 (0 : Int64)) then
    some p2
   else
    some (-p2) : Option (Int64))).bind fun u4 =>
  (fRi_greatestDivisor_L31 FU u2 u4 (0 : Int32)).bind fun u5 =>
  some u5
def fSc_hasCell (p1 : Int32) (p2 : Int32) (p3 : Int32) (sc_count : Int32) : Option (Int32) :=
  if p1 < 0 then
   some (0 : Int32)
  else
   if sc_count ≤ p1 then
    some (0 : Int32)
   else
    if (6 : Int32) ≤ p1 then
     some (0 : Int32)
    else
     if p2 < 0 then
      some (0 : Int32)
     else
      if (4 : Int32) ≤ p2 then
       some (0 : Int32)
      else
       if p3 < 0 then
        some (0 : Int32)
       else
        if (8 : Int32) ≤ p3 then
         some (0 : Int32)
        else
         some (1 : Int32)
def fSc_cellAt (p1 : Int32) (p2 : Int32) (p3 : Int32) (sc_count : Int32) (sc_cells : Nat → Int32) : Option (Int32) :=
  (fSc_hasCell p1 p2 p3 sc_count).bind fun u1 =>
  if u1 = 0 then
   some (0 : Int32)
  else
   if 0 ≤ (((p1 * (32 : Int32)) + (p2 * (8 : Int32))) + p3).toInt ∧ (((p1 * (32 : Int32)) + (p2 * (8 : Int32))) + p3).toInt < 192 then
    some (sc_cells (((p1 * (32 : Int32)) + (p2 * (8 : Int32))) + p3).toNatClampNeg)
   else none
def fRi_isInner (p0 : Int32) (p1 : Int32) : Option (Int32) :=
  if p0 < (1 : Int32) then
   some (0 : Int32)
  else
   if (2 : Int32) < p0 then
    some (0 : Int32)
   else
    if p1 < (1 : Int32) then
     some (0 : Int32)
    else
     if (6 : Int32) < p1 then
      some (0 : Int32)
     else
      some (1 : Int32)
def fSc_drawWorld_L57 (b57_6 : Int32) : Nat → Int64 → Int32 → (Nat → Int32) → Option (Int64 × (Nat → Int32))
  | 0, _, _, _ => none
  | n + 1, a57_4, a57_7, c57_sc_dots =>
    if (6 : Int32) ≤ a57_7 then
     some (a57_4, c57_sc_dots)
    else
     if ¬ (2147483648 : Int64) = 0 then
      (some (((a57_4 * (1103515245 : Int64)) + (12345 : Int64)) - ((a57_4 * (1103515245 : Int64)) + (12345 : Int64)) / (2147483648 : Int64) * (2147483648 : Int64))).bind fun (t11 : Int64) =>
      if ¬ (65536 : Int64) = 0 then
       if ¬ (64 : Int64) = 0 then
        if 0 ≤ ((a57_7 * (32 : Int32)) + b57_6).toInt ∧ ((a57_7 * (32 : Int32)) + b57_6).toInt < 192 then
         fSc_drawWorld_L57 b57_6 n t11 (a57_7 + (1 : Int32)) (upd c57_sc_dots ((a57_7 * (32 : Int32)) + b57_6).toNatClampNeg (((t11 / (65536 : Int64)) - (t11 / (65536 : Int64)) / (64 : Int64) * (64 : Int64)).toInt32))
        else none
       else none
      else none
     else none
def fSc_drawWorld_L41 (b41_2 : Int32) : Nat → Int64 → Int32 → (Nat → Int32) → Option ((Nat → Int32))
  | 0, _, _, _ => none
  | n + 1, a41_4, a41_6, c41_sc_dots =>
    if (32 : Int32) ≤ a41_6 then
     some c41_sc_dots
    else
     if b41_2 ≤ a41_6 then
      some c41_sc_dots
     else
      (fSc_drawWorld_L57 a41_6 FU a41_4 (0 : Int32) c41_sc_dots).bind fun u8 =>
      fSc_drawWorld_L41 b41_2 n u8.1 (a41_6 + (1 : Int32)) u8.2
def fSc_drawWorld (p1 : Int32) (p2 : Int32) (sc_columns : Int32) (sc_dots : Nat → Int32) : Option (Int32 × Int32 × (Nat → Int32)) :=
  (fRi_within p1 (0 : Int32) (999999 : Int32)).bind fun u1 =>
  if u1 = 0 then
   some ((-2 : Int32), sc_columns, sc_dots)
  else
   (fRi_within p2 (12 : Int32) (32 : Int32)).bind fun u3 =>
   if u3 = 0 then
    some ((-2 : Int32), sc_columns, sc_dots)
   else
    (fSc_drawWorld_L41 p2 FU p1.toInt64 (0 : Int32) sc_dots).bind fun u5 =>
    some (sc_columns, p2, u5)
def fSc_hasDot (p1 : Int32) (p2 : Int32) (sc_columns : Int32) : Option (Int32) :=
  if p1 < 0 then
   some (0 : Int32)
  else
   if (6 : Int32) ≤ p1 then
    some (0 : Int32)
   else
    if p2 < 0 then
     some (0 : Int32)
    else
     if sc_columns ≤ p2 then
      some (0 : Int32)
     else
      if (32 : Int32) ≤ p2 then
       some (0 : Int32)
      else
       some (1 : Int32)
def fSc_dotAt (p1 : Int32) (p2 : Int32) (sc_columns : Int32) (sc_dots : Nat → Int32) : Option (Int32) :=
  (fSc_hasDot p1 p2 sc_columns).bind fun u1 =>
  if u1 = 0 then
   some (0 : Int32)
  else
   if 0 ≤ ((p1 * (32 : Int32)) + p2).toInt ∧ ((p1 * (32 : Int32)) + p2).toInt < 192 then
    some (sc_dots ((p1 * (32 : Int32)) + p2).toNatClampNeg)
   else none
def fSc_takeShot_L107 (b107_1 : Int32) (b107_2 : Int32) (b107_3 : Int32) (b107_4 : Int32) (b107_5 : Int32) (d107_sc_columns : Int32) (d107_sc_dots : Nat → Int32) : Nat → Int32 → (Nat → Int32) → Option ((Nat → Int32))
  | 0, _, _ => none
  | n + 1, a107_6, c107_sc_cells =>
    if (8 : Int32) ≤ a107_6 then
     some c107_sc_cells
    else
     ((if d107_sc_columns ≤ (b107_1 + a107_6) then
       some ((b107_1 + a107_6) - d107_sc_columns)
      else
       some (b107_1 + a107_6) : Option (Int32))).bind fun u17 =>
     (fSc_dotAt (b107_2 + b107_5) u17 d107_sc_columns d107_sc_dots).bind fun u18 =>
     if 0 ≤ (((b107_4 * (32 : Int32)) + (b107_5 * (8 : Int32))) + a107_6).toInt ∧ (((b107_4 * (32 : Int32)) + (b107_5 * (8 : Int32))) + a107_6).toInt < 192 then
      fSc_takeShot_L107 b107_1 b107_2 b107_3 b107_4 b107_5 d107_sc_columns d107_sc_dots n (a107_6 + (1 : Int32)) (upd c107_sc_cells (((b107_4 * (32 : Int32)) + (b107_5 * (8 : Int32))) + a107_6).toNatClampNeg (if (0 : Int32) < (if (u18 + b107_3) < (63 : Int32) then (u18 + b107_3) else (63 : Int32)) then (if (u18 + b107_3) < (63 : Int32) then (u18 + b107_3) else (63 : Int32)) else (0 : Int32)))
     else none
def fSc_takeShot_L98 (b98_1 : Int32) (b98_2 : Int32) (b98_3 : Int32) (b98_4 : Int32) (d98_sc_columns : Int32) (d98_sc_dots : Nat → Int32) : Nat → Int32 → (Nat → Int32) → Option ((Nat → Int32))
  | 0, _, _ => none
  | n + 1, a98_5, c98_sc_cells =>
    if (4 : Int32) ≤ a98_5 then
     some c98_sc_cells
    else
     (fSc_takeShot_L107 b98_1 b98_2 b98_3 b98_4 a98_5 d98_sc_columns d98_sc_dots FU (0 : Int32) c98_sc_cells).bind fun u14 =>
     fSc_takeShot_L98 b98_1 b98_2 b98_3 b98_4 d98_sc_columns d98_sc_dots n (a98_5 + (1 : Int32)) u14
def fSc_takeShot (p1 : Int32) (p2 : Int32) (p3 : Int32) (sc_columns : Int32) (sc_count : Int32) (sc_dots : Nat → Int32) (sc_cells : Nat → Int32) (sc_shotX : Nat → Int32) (sc_shotY : Nat → Int32) (sc_shotColumns : Nat → Int32) : Option (Int32 × Int32 × (Nat → Int32) × (Nat → Int32) × (Nat → Int32) × (Nat → Int32)) :=
  (fRi_within p1 (0 : Int32) (sc_columns - (1 : Int32))).bind fun u1 =>
  if u1 = 0 then
   some ((-2 : Int32), sc_count, sc_cells, sc_shotX, sc_shotY, sc_shotColumns)
  else
   (fRi_within p2 (0 : Int32) (2 : Int32)).bind fun u3 =>
   if u3 = 0 then
    some ((-2 : Int32), sc_count, sc_cells, sc_shotX, sc_shotY, sc_shotColumns)
   else
    (fRi_within p3 (-20 : Int32) (20 : Int32)).bind fun u5 =>
    if u5 = 0 then
     some ((-2 : Int32), sc_count, sc_cells, sc_shotX, sc_shotY, sc_shotColumns)
    else
     if sc_count < 0 then
      some ((-4 : Int32), sc_count, sc_cells, sc_shotX, sc_shotY, sc_shotColumns)
     else
      if sc_count < (6 : Int32) then
       if 0 ≤ sc_count.toInt ∧ sc_count.toInt < 6 then
        if 0 ≤ sc_count.toInt ∧ sc_count.toInt < 6 then
         if 0 ≤ sc_count.toInt ∧ sc_count.toInt < 6 then
          (fSc_takeShot_L98 p1 p2 p3 sc_count sc_columns sc_dots FU (0 : Int32) sc_cells).bind fun u12 =>
          some (sc_count, (sc_count + (1 : Int32)), u12, (upd sc_shotX sc_count.toNatClampNeg p1), (upd sc_shotY sc_count.toNatClampNeg p2), (upd sc_shotColumns sc_count.toNatClampNeg sc_columns))
         else none
        else none
       else none
      else
       some ((-4 : Int32), sc_count, sc_cells, sc_shotX, sc_shotY, sc_shotColumns)
def fSc_putCell (p1 : Int32) (p2 : Int32) (p3 : Int32) (p4 : Int32) (sc_count : Int32) (sc_cells : Nat → Int32) : Option (Int32 × (Nat → Int32)) :=
  (fSc_hasCell p1 p2 p3 sc_count).bind fun u1 =>
  if u1 = 0 then
   some ((-2 : Int32), sc_cells)
  else
   (fRi_within p4 (0 : Int32) (63 : Int32)).bind fun u3 =>
   if u3 = 0 then
    some ((-2 : Int32), sc_cells)
   else
    if 0 ≤ (((p1 * (32 : Int32)) + (p2 * (8 : Int32))) + p3).toInt ∧ (((p1 * (32 : Int32)) + (p2 * (8 : Int32))) + p3).toInt < 192 then
     (some (sc_cells (((p1 * (32 : Int32)) + (p2 * (8 : Int32))) + p3).toNatClampNeg)).bind fun (t6 : Int32) =>
     if 0 ≤ (((p1 * (32 : Int32)) + (p2 * (8 : Int32))) + p3).toInt ∧ (((p1 * (32 : Int32)) + (p2 * (8 : Int32))) + p3).toInt < 192 then
      some (t6, (upd sc_cells (((p1 * (32 : Int32)) + (p2 * (8 : Int32))) + p3).toNatClampNeg p4))
     else none
    else none
def fSc_putDot (p1 : Int32) (p2 : Int32) (p3 : Int32) (sc_columns : Int32) (sc_dots : Nat → Int32) : Option (Int32 × (Nat → Int32)) :=
  (fSc_hasDot p1 p2 sc_columns).bind fun u1 =>
  if u1 = 0 then
   some ((-2 : Int32), sc_dots)
  else
   (fRi_within p3 (0 : Int32) (63 : Int32)).bind fun u3 =>
   if u3 = 0 then
    some ((-2 : Int32), sc_dots)
   else
    if 0 ≤ ((p1 * (32 : Int32)) + p2).toInt ∧ ((p1 * (32 : Int32)) + p2).toInt < 192 then
     (some (sc_dots ((p1 * (32 : Int32)) + p2).toNatClampNeg)).bind fun (t6 : Int32) =>
     if 0 ≤ ((p1 * (32 : Int32)) + p2).toInt ∧ ((p1 * (32 : Int32)) + p2).toInt < 192 then
      some (t6, (upd sc_dots ((p1 * (32 : Int32)) + p2).toNatClampNeg p3))
     else none
    else none
def fSc_setNumber (p1 : Int32) (p2 : Int32) (sc_cornerChange : Int32) (sc_voteApart : Int32) : Option (Int32 × Int32 × Int32) :=
  if p1 = 0 then
   (fRi_within p2 (1 : Int32) (126 : Int32)).bind fun u5 =>
   if u5 = 0 then
    if p1 = (1 : Int32) then
     (fRi_within p2 (0 : Int32) (63 : Int32)).bind fun u8 =>
     if u8 = 0 then
      some ((-2 : Int32), sc_cornerChange, sc_voteApart)
     else
      some (sc_voteApart, sc_cornerChange, p2)
    else
     some ((-2 : Int32), sc_cornerChange, sc_voteApart)
   else
    some (sc_cornerChange, p2, sc_voteApart)
  else
   if p1 = (1 : Int32) then
    (fRi_within p2 (0 : Int32) (63 : Int32)).bind fun u3 =>
    if u3 = 0 then
     some ((-2 : Int32), sc_cornerChange, sc_voteApart)
    else
     some (sc_voteApart, sc_cornerChange, p2)
   else
    some ((-2 : Int32), sc_cornerChange, sc_voteApart)
def fSc_dropPicture_L13 (d13_sc_count : Int32) : Nat → Int32 → (Nat → Int32) → (Nat → Int32) → (Nat → Int32) → (Nat → Int32) → Option ((Nat → Int32) × (Nat → Int32) × (Nat → Int32) × (Nat → Int32))
  | 0, _, _, _, _, _ => none
  | n + 1, a13_2, c13_sc_cells, c13_sc_shotX, c13_sc_shotY, c13_sc_shotColumns =>
    if (d13_sc_count - (1 : Int32)) ≤ a13_2 then
     some (c13_sc_cells, c13_sc_shotX, c13_sc_shotY, c13_sc_shotColumns)
    else
     if (5 : Int32) ≤ a13_2 then
      some (c13_sc_cells, c13_sc_shotX, c13_sc_shotY, c13_sc_shotColumns)
     else
      if (¬ ((a13_2 + (1 : Int32)) * (32 : Int32)) < 0 ∧ ¬ (a13_2 * (32 : Int32)) < 0 ∧ ¬ (32 : Int32) < 0) ∧ ((a13_2 + (1 : Int32)) * (32 : Int32)).toNatClampNeg + (32 : Int32).toNatClampNeg ≤ 192 ∧ (a13_2 * (32 : Int32)).toNatClampNeg + (32 : Int32).toNatClampNeg ≤ 192 then
       if 0 ≤ (a13_2 + (1 : Int32)).toInt ∧ (a13_2 + (1 : Int32)).toInt < 6 then
        if 0 ≤ a13_2.toInt ∧ a13_2.toInt < 6 then
         if 0 ≤ (a13_2 + (1 : Int32)).toInt ∧ (a13_2 + (1 : Int32)).toInt < 6 then
          if 0 ≤ a13_2.toInt ∧ a13_2.toInt < 6 then
           if 0 ≤ (a13_2 + (1 : Int32)).toInt ∧ (a13_2 + (1 : Int32)).toInt < 6 then
            if 0 ≤ a13_2.toInt ∧ a13_2.toInt < 6 then
             fSc_dropPicture_L13 d13_sc_count n (a13_2 + (1 : Int32)) (va_cpy c13_sc_cells c13_sc_cells ((a13_2 + (1 : Int32)) * (32 : Int32)).toNatClampNeg (a13_2 * (32 : Int32)).toNatClampNeg (32 : Int32).toNatClampNeg) (upd c13_sc_shotX a13_2.toNatClampNeg (c13_sc_shotX (a13_2 + (1 : Int32)).toNatClampNeg)) (upd c13_sc_shotY a13_2.toNatClampNeg (c13_sc_shotY (a13_2 + (1 : Int32)).toNatClampNeg)) (upd c13_sc_shotColumns a13_2.toNatClampNeg (c13_sc_shotColumns (a13_2 + (1 : Int32)).toNatClampNeg))
            else none
           else none
          else none
         else none
        else none
       else none
      else none
def fSc_dropPicture (p1 : Int32) (sc_count : Int32) (sc_cells : Nat → Int32) (sc_shotX : Nat → Int32) (sc_shotY : Nat → Int32) (sc_shotColumns : Nat → Int32) : Option (Int32 × Int32 × (Nat → Int32) × (Nat → Int32) × (Nat → Int32) × (Nat → Int32)) :=
  (fSc_hasPicture p1 sc_count).bind fun u1 =>
  if u1 = 0 then
   some ((-2 : Int32), sc_count, sc_cells, sc_shotX, sc_shotY, sc_shotColumns)
  else
   (fSc_dropPicture_L13 sc_count FU p1 sc_cells sc_shotX sc_shotY sc_shotColumns).bind fun u3 =>
   some ((sc_count - (1 : Int32)), (sc_count - (1 : Int32)), u3.1, u3.2.1, u3.2.2.1, u3.2.2.2)
def fHi_hold (sc_columns : Int32) (sc_count : Int32) (sc_cornerChange : Int32) (sc_voteApart : Int32) (sc_dots : Nat → Int32) (sc_cells : Nat → Int32) (sc_shotX : Nat → Int32) (sc_shotY : Nat → Int32) (sc_shotColumns : Nat → Int32) (s2_columns : Int32) (s2_count : Int32) (s2_cornerChange : Int32) (s2_voteApart : Int32) (s2_dots : Nat → Int32) (s2_cells : Nat → Int32) (s2_shotX : Nat → Int32) (s2_shotY : Nat → Int32) (s2_shotColumns : Nat → Int32) : Option (Int32 × Int32 × Int32 × Int32 × (Nat → Int32) × (Nat → Int32) × (Nat → Int32) × (Nat → Int32) × (Nat → Int32)) :=
  (fSc_copyFrom s2_columns s2_count s2_cornerChange s2_voteApart s2_dots s2_cells s2_shotX s2_shotY s2_shotColumns sc_columns sc_count sc_cornerChange sc_voteApart sc_dots sc_cells sc_shotX sc_shotY sc_shotColumns).bind fun u1 =>
  some (u1.1, u1.2.1, u1.2.2.1, u1.2.2.2.1, u1.2.2.2.2.1, u1.2.2.2.2.2.1, u1.2.2.2.2.2.2.1, u1.2.2.2.2.2.2.2.1, u1.2.2.2.2.2.2.2.2)
def fHi_release (sc_columns : Int32) (sc_count : Int32) (sc_cornerChange : Int32) (sc_voteApart : Int32) (sc_dots : Nat → Int32) (sc_cells : Nat → Int32) (sc_shotX : Nat → Int32) (sc_shotY : Nat → Int32) (sc_shotColumns : Nat → Int32) (s2_columns : Int32) (s2_count : Int32) (s2_cornerChange : Int32) (s2_voteApart : Int32) (s2_dots : Nat → Int32) (s2_cells : Nat → Int32) (s2_shotX : Nat → Int32) (s2_shotY : Nat → Int32) (s2_shotColumns : Nat → Int32) : Option (Int32 × Int32 × Int32 × Int32 × (Nat → Int32) × (Nat → Int32) × (Nat → Int32) × (Nat → Int32) × (Nat → Int32)) :=
  (fSc_copyFrom sc_columns sc_count sc_cornerChange sc_voteApart sc_dots sc_cells sc_shotX sc_shotY sc_shotColumns s2_columns s2_count s2_cornerChange s2_voteApart s2_dots s2_cells s2_shotX s2_shotY s2_shotColumns).bind fun u1 =>
  some (u1.1, u1.2.1, u1.2.2.1, u1.2.2.2.1, u1.2.2.2.2.1, u1.2.2.2.2.2.1, u1.2.2.2.2.2.2.1, u1.2.2.2.2.2.2.2.1, u1.2.2.2.2.2.2.2.2)
def fHi_keep (c : Int32) (st : Nat → Option Nat) (h : Nat) : Option (Int32 × (Nat → Option Nat) × Nat) :=
  if c < (5 : Int32) then
   if c < 0 then some (c, st, h)
   else if 0 ≤ c.toInt ∧ c.toInt < 5 then (st c.toNatClampNeg).bind fun x => some ((c + (1 : Int32)), va_up st c.toNatClampNeg (some h), x) else none
  else (st 0).bind fun x0 => (st 1).bind fun x1 => (st 2).bind fun x2 => (st 3).bind fun x3 => (st 4).bind fun x4 => some (c, va_up (va_up (va_up (va_up (va_up st 0 (some x1)) 1 (some x2)) 2 (some x3)) 3 (some x4)) 4 (some h), x0)
def fHi_goBack (sc_columns : Int32) (sc_count : Int32) (sc_cornerChange : Int32) (sc_voteApart : Int32) (sc_dots : Nat → Int32) (sc_cells : Nat → Int32) (sc_shotX : Nat → Int32) (sc_shotY : Nat → Int32) (sc_shotColumns : Nat → Int32) (s2_columns : Int32) (s2_count : Int32) (s2_cornerChange : Int32) (s2_voteApart : Int32) (s2_dots : Nat → Int32) (s2_cells : Nat → Int32) (s2_shotX : Nat → Int32) (s2_shotY : Nat → Int32) (s2_shotColumns : Nat → Int32) (hi_count : Int32) : Option (Int32 × Int32 × Int32 × Int32 × (Nat → Int32) × (Nat → Int32) × (Nat → Int32) × (Nat → Int32) × (Nat → Int32) × Int32) :=
  if hi_count ≤ 0 then
   some (sc_columns, sc_count, sc_cornerChange, sc_voteApart, sc_dots, sc_cells, sc_shotX, sc_shotY, sc_shotColumns, hi_count)
  else
   if (5 : Int32) < hi_count then
    some (sc_columns, sc_count, sc_cornerChange, sc_voteApart, sc_dots, sc_cells, sc_shotX, sc_shotY, sc_shotColumns, hi_count)
   else
    if 0 ≤ (hi_count - (1 : Int32)).toInt ∧ (hi_count - (1 : Int32)).toInt < 5 then
     (fSc_copyFrom sc_columns sc_count sc_cornerChange sc_voteApart sc_dots sc_cells sc_shotX sc_shotY sc_shotColumns s2_columns s2_count s2_cornerChange s2_voteApart s2_dots s2_cells s2_shotX s2_shotY s2_shotColumns).bind fun u4 =>
     some (u4.1, u4.2.1, u4.2.2.1, u4.2.2.2.1, u4.2.2.2.2.1, u4.2.2.2.2.2.1, u4.2.2.2.2.2.2.1, u4.2.2.2.2.2.2.2.1, u4.2.2.2.2.2.2.2.2, (hi_count - (1 : Int32)))
    else none
def fLi_areTwo (p0 : Int32) (p1 : Int32) : Option (Int32) :=
  (fRi_within p0 (0 : Int32) (5 : Int32)).bind fun u1 =>
  if u1 = 0 then
   some (0 : Int32)
  else
   (fRi_within p1 (0 : Int32) (5 : Int32)).bind fun u3 =>
   if u3 = 0 then
    some (0 : Int32)
   else
    some (1 : Int32)
def fLi_votesOf (p1 : Int32) (p2 : Int32) (li_most : Nat → Int32) : Option (Int32) :=
  (fLi_areTwo p1 p2).bind fun u1 =>
  if u1 = 0 then
   some (0 : Int32)
  else
   if 0 ≤ ((p1 * (6 : Int32)) + p2).toInt ∧ ((p1 * (6 : Int32)) + p2).toInt < 36 then
    some (li_most ((p1 * (6 : Int32)) + p2).toNatClampNeg)
   else none
def fLi_shiftE (p1 : Int32) (p2 : Int32) (li_bestE : Nat → Int32) : Option (Int32) :=
  (fLi_areTwo p1 p2).bind fun u1 =>
  if u1 = 0 then
   some (0 : Int32)
  else
   if 0 ≤ ((p1 * (6 : Int32)) + p2).toInt ∧ ((p1 * (6 : Int32)) + p2).toInt < 36 then
    some (li_bestE ((p1 * (6 : Int32)) + p2).toNatClampNeg)
   else none
def fLi_shiftF (p1 : Int32) (p2 : Int32) (li_bestF : Nat → Int32) : Option (Int32) :=
  (fLi_areTwo p1 p2).bind fun u1 =>
  if u1 = 0 then
   some (0 : Int32)
  else
   if 0 ≤ ((p1 * (6 : Int32)) + p2).toInt ∧ ((p1 * (6 : Int32)) + p2).toInt < 36 then
    some (li_bestF ((p1 * (6 : Int32)) + p2).toNatClampNeg)
   else none
def fLi_changeAlong (p1 : Int32) (p2 : Int32) (p3 : Int32) (p4 : Int32) (p5 : Int32) (sc_count : Int32) (sc_cells : Nat → Int32) : Option (Int32) :=
  (fSc_cellAt p1 p2 p3 sc_count sc_cells).bind fun u1 =>
  (fSc_cellAt p1 (p2 - p4) (p3 - p5) sc_count sc_cells).bind fun u2 =>
  (fSc_cellAt p1 (p2 + p4) (p3 + p5) sc_count sc_cells).bind fun u3 =>
  some ((if 0 ≤ (u1 - u2) then (u1 - u2) else 0 - (u1 - u2)) + (if 0 ≤ (u1 - u3) then (u1 - u3) else 0 - (u1 - u3)))
def fLi_changeAt (p1 : Int32) (p2 : Int32) (p3 : Int32) (sc_count : Int32) (sc_cells : Nat → Int32) : Option (Int32) :=
  (fLi_changeAlong p1 p2 p3 (0 : Int32) (1 : Int32) sc_count sc_cells).bind fun u1 =>
  (fLi_changeAlong p1 p2 p3 (1 : Int32) (0 : Int32) sc_count sc_cells).bind fun u2 =>
  (fLi_changeAlong p1 p2 p3 (1 : Int32) (1 : Int32) sc_count sc_cells).bind fun u3 =>
  (some (if u3 < (if u2 < u1 then u2 else u1) then u3 else (if u2 < u1 then u2 else u1))).bind fun (t4 : Int32) =>
  (fLi_changeAlong p1 p2 p3 (1 : Int32) (-1 : Int32) sc_count sc_cells).bind fun u5 =>
  some (if u5 < t4 then u5 else t4)
def fLi_cornerBit (p0 : Int32) (p1 : Int32) : Option (Int32) :=
  some ((1 : Int32) <<< (((((6 : Int32) * (p0 - (1 : Int32))) + p1) - (1 : Int32)) &&& 31))
def fLi_findCorners_L24 (b24_2 : Int32) (b24_4 : Int32) (d24_sc_count : Int32) (d24_sc_cornerChange : Int32) (d24_sc_cells : Nat → Int32) : Nat → Int32 → Int32 → Option (Int32)
  | 0, _, _ => none
  | n + 1, a24_3, a24_5 =>
    if (6 : Int32) < a24_5 then
     some a24_3
    else
     (fLi_changeAt b24_2 b24_4 a24_5 d24_sc_count d24_sc_cells).bind fun u7 =>
     if u7 < d24_sc_cornerChange then
      fLi_findCorners_L24 b24_2 b24_4 d24_sc_count d24_sc_cornerChange d24_sc_cells n a24_3 (a24_5 + (1 : Int32))
     else
      (fLi_cornerBit b24_4 a24_5).bind fun u9 =>
      fLi_findCorners_L24 b24_2 b24_4 d24_sc_count d24_sc_cornerChange d24_sc_cells n (a24_3 ||| u9) (a24_5 + (1 : Int32))
def fLi_findCorners_L15 (b15_2 : Int32) (d15_sc_count : Int32) (d15_sc_cornerChange : Int32) (d15_sc_cells : Nat → Int32) : Nat → Int32 → Int32 → Option (Int32)
  | 0, _, _ => none
  | n + 1, a15_3, a15_4 =>
    if (2 : Int32) < a15_4 then
     some a15_3
    else
     (fLi_findCorners_L24 b15_2 a15_4 d15_sc_count d15_sc_cornerChange d15_sc_cells FU a15_3 (1 : Int32)).bind fun u5 =>
     fLi_findCorners_L15 b15_2 d15_sc_count d15_sc_cornerChange d15_sc_cells n u5 (a15_4 + (1 : Int32))
def fLi_findCorners (p2 : Int32) (sc_count : Int32) (sc_cornerChange : Int32) (sc_cells : Nat → Int32) : Option (Int32) :=
  (fSc_hasPicture p2 sc_count).bind fun u1 =>
  if u1 = 0 then
   some (0 : Int32)
  else
   (fLi_findCorners_L15 p2 sc_count sc_cornerChange sc_cells FU (0 : Int32) (1 : Int32)).bind fun u3 =>
   some u3
def fLi_isCorner (p1 : Int32) (p2 : Int32) (p3 : Int32) (li_corner : Nat → Int32) : Option (Int32) :=
  (fRi_isInner p2 p3).bind fun u1 =>
  if u1 = 0 then
   some (0 : Int32)
  else
   if p1 < 0 then
    some (0 : Int32)
   else
    if (6 : Int32) ≤ p1 then
     some (0 : Int32)
    else
     if 0 ≤ p1.toInt ∧ p1.toInt < 6 then
      (fLi_cornerBit p2 p3).bind fun u6 =>
      if ((li_corner p1.toNatClampNeg) &&& u6) = 0 then
       some (0 : Int32)
      else
       some (1 : Int32)
     else none
def fLi_countVotes_L15 (b15_2 : Int32) (b15_3 : Int32) (b15_4 : Int32) (b15_5 : Int32) (b15_7 : Int32) (d15_sc_count : Int32) (d15_sc_voteApart : Int32) (d15_sc_cells : Nat → Int32) (d15_li_corner : Nat → Int32) : Nat → Int32 → Int32 → Option (Int32)
  | 0, _, _ => none
  | n + 1, a15_6, a15_8 =>
    if (6 : Int32) < a15_8 then
     some a15_6
    else
     (fLi_isCorner b15_2 b15_7 a15_8 d15_li_corner).bind fun u5 =>
     if u5 = 0 then
      fLi_countVotes_L15 b15_2 b15_3 b15_4 b15_5 b15_7 d15_sc_count d15_sc_voteApart d15_sc_cells d15_li_corner n a15_6 (a15_8 + (1 : Int32))
     else
      (fLi_isCorner b15_3 (b15_7 - b15_4) (a15_8 - b15_5) d15_li_corner).bind fun u7 =>
      if u7 = 0 then
       fLi_countVotes_L15 b15_2 b15_3 b15_4 b15_5 b15_7 d15_sc_count d15_sc_voteApart d15_sc_cells d15_li_corner n a15_6 (a15_8 + (1 : Int32))
      else
       (fSc_cellAt b15_2 b15_7 a15_8 d15_sc_count d15_sc_cells).bind fun u9 =>
       (fSc_cellAt b15_3 (b15_7 - b15_4) (a15_8 - b15_5) d15_sc_count d15_sc_cells).bind fun u10 =>
       if d15_sc_voteApart < (if 0 ≤ (u9 - u10) then (u9 - u10) else 0 - (u9 - u10)) then
        fLi_countVotes_L15 b15_2 b15_3 b15_4 b15_5 b15_7 d15_sc_count d15_sc_voteApart d15_sc_cells d15_li_corner n (a15_6 + (0 : Int32)) (a15_8 + (1 : Int32))
       else
        fLi_countVotes_L15 b15_2 b15_3 b15_4 b15_5 b15_7 d15_sc_count d15_sc_voteApart d15_sc_cells d15_li_corner n (a15_6 + (1 : Int32)) (a15_8 + (1 : Int32))
def fLi_countVotes_L6 (b6_2 : Int32) (b6_3 : Int32) (b6_4 : Int32) (b6_5 : Int32) (d6_sc_count : Int32) (d6_sc_voteApart : Int32) (d6_sc_cells : Nat → Int32) (d6_li_corner : Nat → Int32) : Nat → Int32 → Int32 → Option (Int32)
  | 0, _, _ => none
  | n + 1, a6_6, a6_7 =>
    if (2 : Int32) < a6_7 then
     some a6_6
    else
     (fLi_countVotes_L15 b6_2 b6_3 b6_4 b6_5 a6_7 d6_sc_count d6_sc_voteApart d6_sc_cells d6_li_corner FU a6_6 (1 : Int32)).bind fun u3 =>
     fLi_countVotes_L6 b6_2 b6_3 b6_4 b6_5 d6_sc_count d6_sc_voteApart d6_sc_cells d6_li_corner n u3 (a6_7 + (1 : Int32))
def fLi_countVotes (p2 : Int32) (p3 : Int32) (p4 : Int32) (p5 : Int32) (sc_count : Int32) (sc_voteApart : Int32) (sc_cells : Nat → Int32) (li_corner : Nat → Int32) : Option (Int32) :=
  (fLi_countVotes_L6 p2 p3 p4 p5 sc_count sc_voteApart sc_cells li_corner FU (0 : Int32) (1 : Int32)).bind fun u1 =>
  some u1
def fLi_findLink_L59 (b59_2 : Int32) (b59_3 : Int32) (b59_4 : Int32) (b59_5 : Int32) (d59_sc_count : Int32) (d59_sc_voteApart : Int32) (d59_sc_cells : Nat → Int32) (d59_li_corner : Nat → Int32) : Nat → Int32 → (Nat → Int32) → (Nat → Int32) → (Nat → Int32) → Option ((Nat → Int32) × (Nat → Int32) × (Nat → Int32))
  | 0, _, _, _, _ => none
  | n + 1, a59_6, c59_li_most, c59_li_bestE, c59_li_bestF =>
    if (10 : Int32) ≤ a59_6 then
     some (c59_li_most, c59_li_bestE, c59_li_bestF)
    else
     if ¬ (2 : Int32) = 0 then
      ((if (a59_6 - a59_6 / (2 : Int32) * (2 : Int32)) = 0 then
        some (-b59_5)
       else
        some b59_5 : Option (Int32))).bind fun u15 =>
      if ¬ (2 : Int32) = 0 then
       (some ((1 : Int32) + (a59_6 / (2 : Int32)))).bind fun (t17 : Int32) =>
       (fLi_countVotes b59_2 b59_3 u15 t17 d59_sc_count d59_sc_voteApart d59_sc_cells d59_li_corner).bind fun u18 =>
       if 0 ≤ b59_4.toInt ∧ b59_4.toInt < 36 then
        if u18 ≤ (c59_li_most b59_4.toNatClampNeg) then
         fLi_findLink_L59 b59_2 b59_3 b59_4 b59_5 d59_sc_count d59_sc_voteApart d59_sc_cells d59_li_corner n (a59_6 + (1 : Int32)) c59_li_most c59_li_bestE c59_li_bestF
        else
         if 0 ≤ b59_4.toInt ∧ b59_4.toInt < 36 then
          if 0 ≤ b59_4.toInt ∧ b59_4.toInt < 36 then
           if 0 ≤ b59_4.toInt ∧ b59_4.toInt < 36 then
            fLi_findLink_L59 b59_2 b59_3 b59_4 b59_5 d59_sc_count d59_sc_voteApart d59_sc_cells d59_li_corner n (a59_6 + (1 : Int32)) (upd c59_li_most b59_4.toNatClampNeg u18) (upd c59_li_bestE b59_4.toNatClampNeg u15) (upd c59_li_bestF b59_4.toNatClampNeg t17)
           else none
          else none
         else none
       else none
      else none
     else none
def fLi_findLink_L50 (b50_2 : Int32) (b50_3 : Int32) (b50_4 : Int32) (d50_sc_count : Int32) (d50_sc_voteApart : Int32) (d50_sc_cells : Nat → Int32) (d50_li_corner : Nat → Int32) : Nat → Int32 → (Nat → Int32) → (Nat → Int32) → (Nat → Int32) → Option ((Nat → Int32) × (Nat → Int32) × (Nat → Int32))
  | 0, _, _, _, _ => none
  | n + 1, a50_5, c50_li_most, c50_li_bestE, c50_li_bestF =>
    if (1 : Int32) < a50_5 then
     some (c50_li_most, c50_li_bestE, c50_li_bestF)
    else
     (fLi_findLink_L59 b50_2 b50_3 b50_4 a50_5 d50_sc_count d50_sc_voteApart d50_sc_cells d50_li_corner FU (0 : Int32) c50_li_most c50_li_bestE c50_li_bestF).bind fun u11 =>
     fLi_findLink_L50 b50_2 b50_3 b50_4 d50_sc_count d50_sc_voteApart d50_sc_cells d50_li_corner n (a50_5 + (1 : Int32)) u11.1 u11.2.1 u11.2.2
def fLi_findLink (p2 : Int32) (p3 : Int32) (sc_count : Int32) (sc_voteApart : Int32) (sc_cells : Nat → Int32) (li_corner : Nat → Int32) (li_most : Nat → Int32) (li_bestE : Nat → Int32) (li_bestF : Nat → Int32) : Option ((Nat → Int32) × (Nat → Int32) × (Nat → Int32)) :=
  (fLi_areTwo p2 p3).bind fun u1 =>
  if u1 = 0 then
   some (li_most, li_bestE, li_bestF)
  else
   if 0 ≤ ((p2 * (6 : Int32)) + p3).toInt ∧ ((p2 * (6 : Int32)) + p3).toInt < 36 then
    if p2 = p3 then
     some ((upd li_most ((p2 * (6 : Int32)) + p3).toNatClampNeg (0 : Int32)), li_bestE, li_bestF)
    else
     (fSc_hasPicture p2 sc_count).bind fun u5 =>
     if u5 = 0 then
      some ((upd li_most ((p2 * (6 : Int32)) + p3).toNatClampNeg (0 : Int32)), li_bestE, li_bestF)
     else
      (fSc_hasPicture p3 sc_count).bind fun u7 =>
      if u7 = 0 then
       some ((upd li_most ((p2 * (6 : Int32)) + p3).toNatClampNeg (0 : Int32)), li_bestE, li_bestF)
      else
       (fLi_findLink_L50 p2 p3 ((p2 * (6 : Int32)) + p3) sc_count sc_voteApart sc_cells li_corner FU (0 : Int32) (upd li_most ((p2 * (6 : Int32)) + p3).toNatClampNeg (0 : Int32)) li_bestE li_bestF).bind fun u9 =>
       some (u9.1, u9.2.1, u9.2.2)
   else none
def fLi_find_L2 (d2_sc_count : Int32) (d2_sc_cornerChange : Int32) (d2_sc_cells : Nat → Int32) : Nat → Int32 → (Nat → Int32) → Option ((Nat → Int32))
  | 0, _, _ => none
  | n + 1, a2_2, c2_li_corner =>
    if (6 : Int32) ≤ a2_2 then
     some c2_li_corner
    else
     (fLi_findCorners a2_2 d2_sc_count d2_sc_cornerChange d2_sc_cells).bind fun u3 =>
     if 0 ≤ a2_2.toInt ∧ a2_2.toInt < 6 then
      fLi_find_L2 d2_sc_count d2_sc_cornerChange d2_sc_cells n (a2_2 + (1 : Int32)) (upd c2_li_corner a2_2.toNatClampNeg u3)
     else none
def fLi_find_L36 (b36_2 : Int32) (d36_sc_count : Int32) (d36_sc_voteApart : Int32) (d36_sc_cells : Nat → Int32) (d36_li_corner : Nat → Int32) : Nat → Int32 → (Nat → Int32) → (Nat → Int32) → (Nat → Int32) → Option ((Nat → Int32) × (Nat → Int32) × (Nat → Int32))
  | 0, _, _, _, _ => none
  | n + 1, a36_3, c36_li_most, c36_li_bestE, c36_li_bestF =>
    if (6 : Int32) ≤ a36_3 then
     some (c36_li_most, c36_li_bestE, c36_li_bestF)
    else
     (fLi_findLink b36_2 a36_3 d36_sc_count d36_sc_voteApart d36_sc_cells d36_li_corner c36_li_most c36_li_bestE c36_li_bestF).bind fun u9 =>
     fLi_find_L36 b36_2 d36_sc_count d36_sc_voteApart d36_sc_cells d36_li_corner n (a36_3 + (1 : Int32)) u9.1 u9.2.1 u9.2.2
def fLi_find_L28 (d28_sc_count : Int32) (d28_sc_voteApart : Int32) (d28_sc_cells : Nat → Int32) (d28_li_corner : Nat → Int32) : Nat → Int32 → (Nat → Int32) → (Nat → Int32) → (Nat → Int32) → Option ((Nat → Int32) × (Nat → Int32) × (Nat → Int32))
  | 0, _, _, _, _ => none
  | n + 1, a28_2, c28_li_most, c28_li_bestE, c28_li_bestF =>
    if (6 : Int32) ≤ a28_2 then
     some (c28_li_most, c28_li_bestE, c28_li_bestF)
    else
     (fLi_find_L36 a28_2 d28_sc_count d28_sc_voteApart d28_sc_cells d28_li_corner FU (0 : Int32) c28_li_most c28_li_bestE c28_li_bestF).bind fun u7 =>
     fLi_find_L28 d28_sc_count d28_sc_voteApart d28_sc_cells d28_li_corner n (a28_2 + (1 : Int32)) u7.1 u7.2.1 u7.2.2
def fLi_find (sc_count : Int32) (sc_cornerChange : Int32) (sc_voteApart : Int32) (sc_cells : Nat → Int32) (li_corner : Nat → Int32) (li_most : Nat → Int32) (li_bestE : Nat → Int32) (li_bestF : Nat → Int32) : Option ((Nat → Int32) × (Nat → Int32) × (Nat → Int32) × (Nat → Int32)) :=
  (fLi_find_L2 sc_count sc_cornerChange sc_cells FU (0 : Int32) li_corner).bind fun u1 =>
  (fLi_find_L28 sc_count sc_voteApart sc_cells u1 FU (0 : Int32) li_most li_bestE li_bestF).bind fun u5 =>
  some (u1, u5.1, u5.2.1, u5.2.2)
def fLi_cornerBits (p1 : Int32) (li_corner : Nat → Int32) : Option (Int32) :=
  (fRi_within p1 (0 : Int32) (5 : Int32)).bind fun u1 =>
  if u1 = 0 then
   some (0 : Int32)
  else
   if 0 ≤ p1.toInt ∧ p1.toInt < 6 then
    some (li_corner p1.toNatClampNeg)
   else none
def fCh_followerOf (p1 : Int32) (ch_follower : Nat → Int32) : Option (Int32) :=
  (fRi_within p1 (0 : Int32) (5 : Int32)).bind fun u1 =>
  if u1 = 0 then
   some (-1 : Int32)
  else
   if 0 ≤ p1.toInt ∧ p1.toInt < 6 then
    some (ch_follower p1.toNatClampNeg)
   else none
def fCh_aheadOf (p1 : Int32) (ch_ahead : Nat → Int32) : Option (Int32) :=
  (fRi_within p1 (0 : Int32) (5 : Int32)).bind fun u1 =>
  if u1 = 0 then
   some (-1 : Int32)
  else
   if 0 ≤ p1.toInt ∧ p1.toInt < 6 then
    some (ch_ahead p1.toNatClampNeg)
   else none
def fCh_shiftE (p1 : Int32) (ch_linkE : Nat → Int32) : Option (Int32) :=
  (fRi_within p1 (0 : Int32) (5 : Int32)).bind fun u1 =>
  if u1 = 0 then
   some (0 : Int32)
  else
   if 0 ≤ p1.toInt ∧ p1.toInt < 6 then
    some (ch_linkE p1.toNatClampNeg)
   else none
def fCh_shiftF (p1 : Int32) (ch_linkF : Nat → Int32) : Option (Int32) :=
  (fRi_within p1 (0 : Int32) (5 : Int32)).bind fun u1 =>
  if u1 = 0 then
   some (0 : Int32)
  else
   if 0 ≤ p1.toInt ∧ p1.toInt < 6 then
    some (ch_linkF p1.toNatClampNeg)
   else none
def fCh_rightOf (p1 : Int32) (ch_placeRight : Nat → Int32) : Option (Int32) :=
  (fRi_within p1 (0 : Int32) (5 : Int32)).bind fun u1 =>
  if u1 = 0 then
   some (0 : Int32)
  else
   if 0 ≤ p1.toInt ∧ p1.toInt < 6 then
    some (ch_placeRight p1.toNatClampNeg)
   else none
def fCh_lowerOf (p1 : Int32) (ch_placeLower : Nat → Int32) : Option (Int32) :=
  (fRi_within p1 (0 : Int32) (5 : Int32)).bind fun u1 =>
  if u1 = 0 then
   some (0 : Int32)
  else
   if 0 ≤ p1.toInt ∧ p1.toInt < 6 then
    some (ch_placeLower p1.toNatClampNeg)
   else none
def fCh_wayLength_L5 (b5_2 : Int32) (d5_ch_follower : Nat → Int32) : Nat → Int32 → Int32 → Option (Sum (Int32) (Unit))
  | 0, _, _ => none
  | n + 1, a5_3, a5_4 =>
    if (6 : Int32) < a5_4 then
     some (.inr ())
    else
     if a5_3 = (-1 : Int32) then
      some (.inr ())
     else
      if a5_3 = b5_2 then
       some (.inl a5_4)
      else
       (fCh_followerOf a5_3 d5_ch_follower).bind fun u5 =>
       fCh_wayLength_L5 b5_2 d5_ch_follower n u5 (a5_4 + (1 : Int32))
def fCh_wayLength (p1 : Int32) (p2 : Int32) (ch_follower : Nat → Int32) : Option (Int32) :=
  (fCh_wayLength_L5 p2 ch_follower FU p1 (1 : Int32)).bind fun u1 => Sum.elim (fun r => some r) (fun x6 =>
  some (0 : Int32)) u1
def fCh_mayJoin (p1 : Int32) (p2 : Int32) (p3 : Int32) (ch_follower : Nat → Int32) (ch_ahead : Nat → Int32) : Option (Int32) :=
  (fCh_followerOf p1 ch_follower).bind fun u1 =>
  if u1 = (-1 : Int32) then
   (fCh_aheadOf p2 ch_ahead).bind fun u3 =>
   if u3 = (-1 : Int32) then
    (fCh_wayLength p2 p1 ch_follower).bind fun u5 =>
    if u5 = 0 then
     some (1 : Int32)
    else
     if u5 = p3 then
      some (1 : Int32)
     else
      some (0 : Int32)
   else
    some (0 : Int32)
  else
   some (0 : Int32)
def fCh_take (p3 : Int32) (p4 : Int32) (sc_count : Int32) (sc_shotX : Nat → Int32) (sc_shotY : Nat → Int32) (sc_shotColumns : Nat → Int32) (li_bestE : Nat → Int32) (li_bestF : Nat → Int32) (ch_taken : Int32) (ch_turn : Int32) (ch_drift : Int32) (ch_right : Int32) (ch_follower : Nat → Int32) (ch_ahead : Nat → Int32) (ch_linkE : Nat → Int32) (ch_linkF : Nat → Int32) : Option (Int32 × Int32 × Int32 × Int32 × (Nat → Int32) × (Nat → Int32) × (Nat → Int32) × (Nat → Int32)) :=
  (fRi_within p3 (0 : Int32) (5 : Int32)).bind fun u1 =>
  if u1 = 0 then
   some (ch_taken, ch_turn, ch_drift, ch_right, ch_follower, ch_ahead, ch_linkE, ch_linkF)
  else
   (fRi_within p4 (0 : Int32) (5 : Int32)).bind fun u3 =>
   if u3 = 0 then
    some (ch_taken, ch_turn, ch_drift, ch_right, ch_follower, ch_ahead, ch_linkE, ch_linkF)
   else
    if 0 ≤ p3.toInt ∧ p3.toInt < 6 then
     if 0 ≤ p4.toInt ∧ p4.toInt < 6 then
      (fLi_shiftE p3 p4 li_bestE).bind fun u7 =>
      if 0 ≤ p3.toInt ∧ p3.toInt < 6 then
       (fLi_shiftF p3 p4 li_bestF).bind fun u9 =>
       if 0 ≤ p3.toInt ∧ p3.toInt < 6 then
        if 0 ≤ p3.toInt ∧ p3.toInt < 6 then
         if 0 ≤ p3.toInt ∧ p3.toInt < 6 then
          if 0 ≤ p3.toInt ∧ p3.toInt < 6 then
           if 0 ≤ p3.toInt ∧ p3.toInt < 6 then
            (fSc_isRight p3 p4 ((upd ch_linkE p3.toNatClampNeg u7) p3.toNatClampNeg) ((upd ch_linkF p3.toNatClampNeg u9) p3.toNatClampNeg) sc_count sc_shotX sc_shotY sc_shotColumns).bind fun u15 =>
            if u15 = 0 then
             some ((ch_taken + (1 : Int32)), (ch_turn + ((upd ch_linkF p3.toNatClampNeg u9) p3.toNatClampNeg)), (ch_drift + ((upd ch_linkE p3.toNatClampNeg u7) p3.toNatClampNeg)), ch_right, (upd ch_follower p3.toNatClampNeg p4), (upd ch_ahead p4.toNatClampNeg p3), (upd ch_linkE p3.toNatClampNeg u7), (upd ch_linkF p3.toNatClampNeg u9))
            else
             some ((ch_taken + (1 : Int32)), (ch_turn + ((upd ch_linkF p3.toNatClampNeg u9) p3.toNatClampNeg)), (ch_drift + ((upd ch_linkE p3.toNatClampNeg u7) p3.toNatClampNeg)), (ch_right + (1 : Int32)), (upd ch_follower p3.toNatClampNeg p4), (upd ch_ahead p4.toNatClampNeg p3), (upd ch_linkE p3.toNatClampNeg u7), (upd ch_linkF p3.toNatClampNeg u9))
           else none
          else none
         else none
        else none
       else none
      else none
     else none
    else none
def fCh_findPlaces_L10 (b10_1 : Int32) (d10_ch_drift : Int32) (d10_ch_follower : Nat → Int32) (d10_ch_linkE : Nat → Int32) (d10_ch_linkF : Nat → Int32) : Nat → Int32 → Int32 → Int32 → Int32 → (Nat → Int32) → (Nat → Int32) → Option ((Nat → Int32) × (Nat → Int32))
  | 0, _, _, _, _, _, _ => none
  | n + 1, a10_2, a10_3, a10_4, a10_5, c10_ch_placeRight, c10_ch_placeLower =>
    if b10_1 ≤ a10_5 then
     some (c10_ch_placeRight, c10_ch_placeLower)
    else
     (fRi_within a10_2 (0 : Int32) (5 : Int32)).bind fun u3 =>
     if u3 = 0 then
      some (c10_ch_placeRight, c10_ch_placeLower)
     else
      if 0 ≤ a10_2.toInt ∧ a10_2.toInt < 6 then
       (fRi_nearest (d10_ch_drift.toInt64 * a10_5.toInt64) b10_1.toInt64).bind fun u6 =>
       if 0 ≤ a10_2.toInt ∧ a10_2.toInt < 6 then
        if 0 ≤ a10_2.toInt ∧ a10_2.toInt < 6 then
         (some (a10_3 + (d10_ch_linkF a10_2.toNatClampNeg))).bind fun (t9 : Int32) =>
         if 0 ≤ a10_2.toInt ∧ a10_2.toInt < 6 then
          (some (a10_4 + (d10_ch_linkE a10_2.toNatClampNeg))).bind fun (t11 : Int32) =>
          if 0 ≤ a10_2.toInt ∧ a10_2.toInt < 6 then
           (some (d10_ch_follower a10_2.toNatClampNeg)).bind fun (t13 : Int32) =>
           fCh_findPlaces_L10 b10_1 d10_ch_drift d10_ch_follower d10_ch_linkE d10_ch_linkF n t13 t9 t11 (a10_5 + (1 : Int32)) (upd c10_ch_placeRight a10_2.toNatClampNeg a10_3) (upd c10_ch_placeLower a10_2.toNatClampNeg (a10_4 - u6.toInt32))
          else none
         else none
        else none
       else none
      else none
def fCh_findPlaces (p1 : Int32) (ch_drift : Int32) (ch_follower : Nat → Int32) (ch_linkE : Nat → Int32) (ch_linkF : Nat → Int32) (ch_placeRight : Nat → Int32) (ch_placeLower : Nat → Int32) : Option ((Nat → Int32) × (Nat → Int32)) :=
  (fCh_findPlaces_L10 p1 ch_drift ch_follower ch_linkE ch_linkF FU (0 : Int32) (0 : Int32) (0 : Int32) (0 : Int32) ch_placeRight ch_placeLower).bind fun u1 =>
  some (u1.1, u1.2)
def fCh_join_L22 : Nat → Int32 → (Nat → Int32) → (Nat → Int32) → Option ((Nat → Int32) × (Nat → Int32))
  | 0, _, _, _ => none
  | n + 1, a22_3, c22_ch_follower, c22_ch_ahead =>
    if (6 : Int32) ≤ a22_3 then
     some (c22_ch_follower, c22_ch_ahead)
    else
     if 0 ≤ a22_3.toInt ∧ a22_3.toInt < 6 then
      if 0 ≤ a22_3.toInt ∧ a22_3.toInt < 6 then
       fCh_join_L22 n (a22_3 + (1 : Int32)) (upd c22_ch_follower a22_3.toNatClampNeg (-1 : Int32)) (upd c22_ch_ahead a22_3.toNatClampNeg (-1 : Int32))
      else none
     else none
def fCh_join_L68 (b68_3 : Int32) (b68_4 : Int32) (d68_sc_count : Int32) (d68_sc_shotX : Nat → Int32) (d68_sc_shotY : Nat → Int32) (d68_sc_shotColumns : Nat → Int32) (d68_li_most : Nat → Int32) (d68_li_bestE : Nat → Int32) (d68_li_bestF : Nat → Int32) : Nat → Int32 → Int32 → Int32 → Int32 → Int32 → (Nat → Int32) → (Nat → Int32) → (Nat → Int32) → (Nat → Int32) → Option (Int32 × Int32 × Int32 × Int32 × (Nat → Int32) × (Nat → Int32) × (Nat → Int32) × (Nat → Int32))
  | 0, _, _, _, _, _, _, _, _, _ => none
  | n + 1, a68_5, c68_ch_taken, c68_ch_turn, c68_ch_drift, c68_ch_right, c68_ch_follower, c68_ch_ahead, c68_ch_linkE, c68_ch_linkF =>
    if (6 : Int32) ≤ a68_5 then
     some (c68_ch_taken, c68_ch_turn, c68_ch_drift, c68_ch_right, c68_ch_follower, c68_ch_ahead, c68_ch_linkE, c68_ch_linkF)
    else
     (fLi_votesOf b68_4 a68_5 d68_li_most).bind fun u11 =>
     if u11 = b68_3 then
      (fCh_mayJoin b68_4 a68_5 d68_sc_count c68_ch_follower c68_ch_ahead).bind fun u13 =>
      if u13 = 0 then
       fCh_join_L68 b68_3 b68_4 d68_sc_count d68_sc_shotX d68_sc_shotY d68_sc_shotColumns d68_li_most d68_li_bestE d68_li_bestF n (a68_5 + (1 : Int32)) c68_ch_taken c68_ch_turn c68_ch_drift c68_ch_right c68_ch_follower c68_ch_ahead c68_ch_linkE c68_ch_linkF
      else
       (fCh_take b68_4 a68_5 d68_sc_count d68_sc_shotX d68_sc_shotY d68_sc_shotColumns d68_li_bestE d68_li_bestF c68_ch_taken c68_ch_turn c68_ch_drift c68_ch_right c68_ch_follower c68_ch_ahead c68_ch_linkE c68_ch_linkF).bind fun u15 =>
       fCh_join_L68 b68_3 b68_4 d68_sc_count d68_sc_shotX d68_sc_shotY d68_sc_shotColumns d68_li_most d68_li_bestE d68_li_bestF n (a68_5 + (1 : Int32)) u15.1 u15.2.1 u15.2.2.1 u15.2.2.2.1 u15.2.2.2.2.1 u15.2.2.2.2.2.1 u15.2.2.2.2.2.2.1 u15.2.2.2.2.2.2.2
     else
      fCh_join_L68 b68_3 b68_4 d68_sc_count d68_sc_shotX d68_sc_shotY d68_sc_shotColumns d68_li_most d68_li_bestE d68_li_bestF n (a68_5 + (1 : Int32)) c68_ch_taken c68_ch_turn c68_ch_drift c68_ch_right c68_ch_follower c68_ch_ahead c68_ch_linkE c68_ch_linkF
def fCh_join_L58 (b58_3 : Int32) (d58_sc_count : Int32) (d58_sc_shotX : Nat → Int32) (d58_sc_shotY : Nat → Int32) (d58_sc_shotColumns : Nat → Int32) (d58_li_most : Nat → Int32) (d58_li_bestE : Nat → Int32) (d58_li_bestF : Nat → Int32) : Nat → Int32 → Int32 → Int32 → Int32 → Int32 → (Nat → Int32) → (Nat → Int32) → (Nat → Int32) → (Nat → Int32) → Option (Int32 × Int32 × Int32 × Int32 × (Nat → Int32) × (Nat → Int32) × (Nat → Int32) × (Nat → Int32))
  | 0, _, _, _, _, _, _, _, _, _ => none
  | n + 1, a58_4, c58_ch_taken, c58_ch_turn, c58_ch_drift, c58_ch_right, c58_ch_follower, c58_ch_ahead, c58_ch_linkE, c58_ch_linkF =>
    if (6 : Int32) ≤ a58_4 then
     some (c58_ch_taken, c58_ch_turn, c58_ch_drift, c58_ch_right, c58_ch_follower, c58_ch_ahead, c58_ch_linkE, c58_ch_linkF)
    else
     (fCh_join_L68 b58_3 a58_4 d58_sc_count d58_sc_shotX d58_sc_shotY d58_sc_shotColumns d58_li_most d58_li_bestE d58_li_bestF FU (0 : Int32) c58_ch_taken c58_ch_turn c58_ch_drift c58_ch_right c58_ch_follower c58_ch_ahead c58_ch_linkE c58_ch_linkF).bind fun u9 =>
     fCh_join_L58 b58_3 d58_sc_count d58_sc_shotX d58_sc_shotY d58_sc_shotColumns d58_li_most d58_li_bestE d58_li_bestF n (a58_4 + (1 : Int32)) u9.1 u9.2.1 u9.2.2.1 u9.2.2.2.1 u9.2.2.2.2.1 u9.2.2.2.2.2.1 u9.2.2.2.2.2.2.1 u9.2.2.2.2.2.2.2
def fCh_join_L51 (d51_sc_count : Int32) (d51_sc_shotX : Nat → Int32) (d51_sc_shotY : Nat → Int32) (d51_sc_shotColumns : Nat → Int32) (d51_li_most : Nat → Int32) (d51_li_bestE : Nat → Int32) (d51_li_bestF : Nat → Int32) : Nat → Int32 → Int32 → Int32 → Int32 → Int32 → (Nat → Int32) → (Nat → Int32) → (Nat → Int32) → (Nat → Int32) → Option (Int32 × Int32 × Int32 × Int32 × (Nat → Int32) × (Nat → Int32) × (Nat → Int32) × (Nat → Int32))
  | 0, _, _, _, _, _, _, _, _, _ => none
  | n + 1, a51_3, c51_ch_taken, c51_ch_turn, c51_ch_drift, c51_ch_right, c51_ch_follower, c51_ch_ahead, c51_ch_linkE, c51_ch_linkF =>
    if a51_3 ≤ 0 then
     some (c51_ch_taken, c51_ch_turn, c51_ch_drift, c51_ch_right, c51_ch_follower, c51_ch_ahead, c51_ch_linkE, c51_ch_linkF)
    else
     (fCh_join_L58 a51_3 d51_sc_count d51_sc_shotX d51_sc_shotY d51_sc_shotColumns d51_li_most d51_li_bestE d51_li_bestF FU (0 : Int32) c51_ch_taken c51_ch_turn c51_ch_drift c51_ch_right c51_ch_follower c51_ch_ahead c51_ch_linkE c51_ch_linkF).bind fun u7 =>
     fCh_join_L51 d51_sc_count d51_sc_shotX d51_sc_shotY d51_sc_shotColumns d51_li_most d51_li_bestE d51_li_bestF n (a51_3 + (-1 : Int32)) u7.1 u7.2.1 u7.2.2.1 u7.2.2.2.1 u7.2.2.2.2.1 u7.2.2.2.2.2.1 u7.2.2.2.2.2.2.1 u7.2.2.2.2.2.2.2
def fCh_join (sc_count : Int32) (sc_shotX : Nat → Int32) (sc_shotY : Nat → Int32) (sc_shotColumns : Nat → Int32) (li_most : Nat → Int32) (li_bestE : Nat → Int32) (li_bestF : Nat → Int32) (ch_taken : Int32) (ch_turn : Int32) (ch_drift : Int32) (ch_right : Int32) (ch_closed : Int32) (ch_follower : Nat → Int32) (ch_ahead : Nat → Int32) (ch_linkE : Nat → Int32) (ch_linkF : Nat → Int32) (ch_placeRight : Nat → Int32) (ch_placeLower : Nat → Int32) : Option (Int32 × Int32 × Int32 × Int32 × Int32 × (Nat → Int32) × (Nat → Int32) × (Nat → Int32) × (Nat → Int32) × (Nat → Int32) × (Nat → Int32)) :=
  (fCh_join_L22 FU (0 : Int32) ch_follower ch_ahead).bind fun u1 =>
  (fCh_join_L51 sc_count sc_shotX sc_shotY sc_shotColumns li_most li_bestE li_bestF FU (12 : Int32) (0 : Int32) (0 : Int32) (0 : Int32) (0 : Int32) u1.1 u1.2 ch_linkE ch_linkF).bind fun u5 =>
  ((if sc_count < (2 : Int32) then
    some (0 : Int32)
   else
    if u5.1 = sc_count then
     some (1 : Int32)
    else
     some (0 : Int32) : Option (Int32))).bind fun u17 =>
  if u17 = 0 ∨ u17 = 1 then
   if u17 = 0 then
    some (u5.1, u5.2.1, u5.2.2.1, u5.2.2.2.1, u17, u5.2.2.2.2.1, u5.2.2.2.2.2.1, u5.2.2.2.2.2.2.1, u5.2.2.2.2.2.2.2, ch_placeRight, ch_placeLower)
   else
    (fCh_findPlaces sc_count u5.2.2.1 u5.2.2.2.2.1 u5.2.2.2.2.2.2.1 u5.2.2.2.2.2.2.2 ch_placeRight ch_placeLower).bind fun u21 =>
    some (u5.1, u5.2.1, u5.2.2.1, u5.2.2.2.1, u17, u5.2.2.2.2.1, u5.2.2.2.2.2.1, u5.2.2.2.2.2.2.1, u5.2.2.2.2.2.2.2, u21.1, u21.2)
  else none
def fSe_surplusOf (p1 : Int32) (se_surplus : Nat → Int32) : Option (Int32) :=
  (fRi_within p1 (0 : Int32) (5 : Int32)).bind fun u1 =>
  if u1 = 0 then
   some (0 : Int32)
  else
   if 0 ≤ p1.toInt ∧ p1.toInt < 6 then
    some (se_surplus p1.toNatClampNeg)
   else none
def fSe_cellsOf (p1 : Int32) (se_cells : Nat → Int32) : Option (Int32) :=
  (fRi_within p1 (0 : Int32) (5 : Int32)).bind fun u1 =>
  if u1 = 0 then
   some (0 : Int32)
  else
   if 0 ≤ p1.toInt ∧ p1.toInt < 6 then
    some (se_cells p1.toNatClampNeg)
   else none
def fSe_apartOf (p1 : Int32) (se_apart : Nat → Int32) : Option (Int32) :=
  (fRi_within p1 (0 : Int32) (5 : Int32)).bind fun u1 =>
  if u1 = 0 then
   some (0 : Int32)
  else
   if 0 ≤ p1.toInt ∧ p1.toInt < 6 then
    some (se_apart p1.toNatClampNeg)
   else none
def fSe_seamCostOf (p1 : Int32) (se_seamCost : Nat → Int32) : Option (Int32) :=
  (fRi_within p1 (0 : Int32) (5 : Int32)).bind fun u1 =>
  if u1 = 0 then
   some (0 : Int32)
  else
   if 0 ≤ p1.toInt ∧ p1.toInt < 6 then
    some (se_seamCost p1.toNatClampNeg)
   else none
def fSe_columnAt (p1 : Int32) (p2 : Int32) (se_column : Nat → Int32) : Option (Int32) :=
  (fRi_within p1 (0 : Int32) (5 : Int32)).bind fun u1 =>
  if u1 = 0 then
   some (-1 : Int32)
  else
   (fRi_within p2 (0 : Int32) (3 : Int32)).bind fun u3 =>
   if u3 = 0 then
    some (-1 : Int32)
   else
    if 0 ≤ ((p1 * (4 : Int32)) + p2).toInt ∧ ((p1 * (4 : Int32)) + p2).toInt < 24 then
     some (se_column ((p1 * (4 : Int32)) + p2).toNatClampNeg)
    else none
def fSe_compare_L54 (b54_3 : Int32) (b54_4 : Int32) (b54_5 : Int32) (b54_6 : Int32) (b54_7 : Int32) (d54_sc_count : Int32) (d54_sc_cells : Nat → Int32) : Nat → Int32 → (Nat → Int32) → (Nat → Int32) → (Nat → Int32) → (Nat → Int32) → Option ((Nat → Int32) × (Nat → Int32) × (Nat → Int32) × (Nat → Int32))
  | 0, _, _, _, _, _ => none
  | n + 1, a54_8, c54_se_cells, c54_se_apart, c54_se_surplus, c54_se_gap =>
    if (8 : Int32) ≤ a54_8 then
     some (c54_se_cells, c54_se_apart, c54_se_surplus, c54_se_gap)
    else
     (fSc_hasCell b54_4 (b54_7 - b54_5) (a54_8 - b54_6) d54_sc_count).bind fun u11 =>
     if u11 = 0 then
      fSe_compare_L54 b54_3 b54_4 b54_5 b54_6 b54_7 d54_sc_count d54_sc_cells n (a54_8 + (1 : Int32)) c54_se_cells c54_se_apart c54_se_surplus c54_se_gap
     else
      (fSc_cellAt b54_3 b54_7 a54_8 d54_sc_count d54_sc_cells).bind fun u13 =>
      (fSc_cellAt b54_4 (b54_7 - b54_5) (a54_8 - b54_6) d54_sc_count d54_sc_cells).bind fun u14 =>
      if 0 ≤ ((b54_7 * (8 : Int32)) + a54_8).toInt ∧ ((b54_7 * (8 : Int32)) + a54_8).toInt < 32 then
       if 0 ≤ b54_3.toInt ∧ b54_3.toInt < 6 then
        if 0 ≤ b54_3.toInt ∧ b54_3.toInt < 6 then
         if 0 ≤ b54_3.toInt ∧ b54_3.toInt < 6 then
          if 0 ≤ b54_3.toInt ∧ b54_3.toInt < 6 then
           if 0 ≤ b54_3.toInt ∧ b54_3.toInt < 6 then
            if 0 ≤ b54_3.toInt ∧ b54_3.toInt < 6 then
             fSe_compare_L54 b54_3 b54_4 b54_5 b54_6 b54_7 d54_sc_count d54_sc_cells n (a54_8 + (1 : Int32)) (upd c54_se_cells b54_3.toNatClampNeg ((c54_se_cells b54_3.toNatClampNeg) + (1 : Int32))) (upd c54_se_apart b54_3.toNatClampNeg ((c54_se_apart b54_3.toNatClampNeg) + (if 0 ≤ (u13 - u14) then (u13 - u14) else 0 - (u13 - u14)))) (upd c54_se_surplus b54_3.toNatClampNeg ((c54_se_surplus b54_3.toNatClampNeg) + (u13 - u14))) (upd c54_se_gap ((b54_7 * (8 : Int32)) + a54_8).toNatClampNeg (if 0 ≤ (u13 - u14) then (u13 - u14) else 0 - (u13 - u14)))
            else none
           else none
          else none
         else none
        else none
       else none
      else none
def fSe_compare_L45 (b45_3 : Int32) (b45_4 : Int32) (b45_5 : Int32) (b45_6 : Int32) (d45_sc_count : Int32) (d45_sc_cells : Nat → Int32) : Nat → Int32 → (Nat → Int32) → (Nat → Int32) → (Nat → Int32) → (Nat → Int32) → Option ((Nat → Int32) × (Nat → Int32) × (Nat → Int32) × (Nat → Int32))
  | 0, _, _, _, _, _ => none
  | n + 1, a45_7, c45_se_cells, c45_se_apart, c45_se_surplus, c45_se_gap =>
    if (4 : Int32) ≤ a45_7 then
     some (c45_se_cells, c45_se_apart, c45_se_surplus, c45_se_gap)
    else
     (fSe_compare_L54 b45_3 b45_4 b45_5 b45_6 a45_7 d45_sc_count d45_sc_cells FU (0 : Int32) c45_se_cells c45_se_apart c45_se_surplus c45_se_gap).bind fun u9 =>
     fSe_compare_L45 b45_3 b45_4 b45_5 b45_6 d45_sc_count d45_sc_cells n (a45_7 + (1 : Int32)) u9.1 u9.2.1 u9.2.2.1 u9.2.2.2
def fSe_compare (p3 : Int32) (sc_count : Int32) (sc_cells : Nat → Int32) (ch_follower : Nat → Int32) (ch_linkE : Nat → Int32) (ch_linkF : Nat → Int32) (se_cells : Nat → Int32) (se_apart : Nat → Int32) (se_surplus : Nat → Int32) (se_gap : Nat → Int32) : Option ((Nat → Int32) × (Nat → Int32) × (Nat → Int32) × (Nat → Int32)) :=
  (fCh_followerOf p3 ch_follower).bind fun u1 =>
  (fCh_shiftE p3 ch_linkE).bind fun u2 =>
  (fCh_shiftF p3 ch_linkF).bind fun u3 =>
  if 0 ≤ p3.toInt ∧ p3.toInt < 6 then
   if 0 ≤ p3.toInt ∧ p3.toInt < 6 then
    if 0 ≤ p3.toInt ∧ p3.toInt < 6 then
     (fSe_compare_L45 p3 u1 u2 u3 sc_count sc_cells FU (0 : Int32) (upd se_cells p3.toNatClampNeg (0 : Int32)) (upd se_apart p3.toNatClampNeg (0 : Int32)) (upd se_surplus p3.toNatClampNeg (0 : Int32)) se_gap).bind fun u7 =>
     some (u7.1, u7.2.1, u7.2.2.1, u7.2.2.2)
    else none
   else none
  else none
def fSe_cheapest_L30 (b30_1 : Int32) (b30_3 : Int32) (d30_se_cost : Nat → Int32) : Nat → Int32 → Int32 → Option (Int32)
  | 0, _, _ => none
  | n + 1, a30_4, a30_5 =>
    if b30_3 < a30_5 then
     some a30_4
    else
     if (8 : Int32) ≤ a30_5 then
      some a30_4
     else
      if 0 ≤ ((b30_1 * (8 : Int32)) + a30_5).toInt ∧ ((b30_1 * (8 : Int32)) + a30_5).toInt < 32 then
       if 0 ≤ ((b30_1 * (8 : Int32)) + a30_4).toInt ∧ ((b30_1 * (8 : Int32)) + a30_4).toInt < 32 then
        if (d30_se_cost ((b30_1 * (8 : Int32)) + a30_4).toNatClampNeg) ≤ (d30_se_cost ((b30_1 * (8 : Int32)) + a30_5).toNatClampNeg) then
         fSe_cheapest_L30 b30_1 b30_3 d30_se_cost n a30_4 (a30_5 + (1 : Int32))
        else
         fSe_cheapest_L30 b30_1 b30_3 d30_se_cost n a30_5 (a30_5 + (1 : Int32))
       else none
      else none
def fSe_cheapest (p1 : Int32) (p2 : Int32) (p3 : Int32) (se_cost : Nat → Int32) : Option (Int32) :=
  (some (if (0 : Int32) < (if p2 < (7 : Int32) then p2 else (7 : Int32)) then (if p2 < (7 : Int32) then p2 else (7 : Int32)) else (0 : Int32))).bind fun (t1 : Int32) =>
  (fRi_within p1 (0 : Int32) (3 : Int32)).bind fun u2 =>
  if u2 = 0 then
   some t1
  else
   (fSe_cheapest_L30 p1 p3 se_cost FU t1 (t1 + (1 : Int32))).bind fun u4 =>
   some u4
def fSe_follow_L17 (b17_1 : Int32) (b17_2 : Int32) (b17_4 : Int32) (d17_se_gap : Nat → Int32) (d17_se_cost : Nat → Int32) : Nat → Int32 → Int32 → Int32 → (Nat → Int32) → (Nat → Int32) → Option ((Nat → Int32) × (Nat → Int32))
  | 0, _, _, _, _, _ => none
  | n + 1, a17_5, a17_6, a17_7, c17_se_seamCost, c17_se_column =>
    if b17_4 < a17_7 then
     some (c17_se_seamCost, c17_se_column)
    else
     (fSe_cheapest a17_7 a17_5 a17_6 d17_se_cost).bind fun u4 =>
     if 0 ≤ ((b17_1 * (4 : Int32)) + a17_7).toInt ∧ ((b17_1 * (4 : Int32)) + a17_7).toInt < 24 then
      if 0 ≤ b17_1.toInt ∧ b17_1.toInt < 6 then
       if 0 ≤ ((a17_7 * (8 : Int32)) + u4).toInt ∧ ((a17_7 * (8 : Int32)) + u4).toInt < 32 then
        if 0 ≤ b17_1.toInt ∧ b17_1.toInt < 6 then
         (some (if b17_2 < (u4 - (1 : Int32)) then (u4 - (1 : Int32)) else b17_2)).bind fun (t9 : Int32) =>
         fSe_follow_L17 b17_1 b17_2 b17_4 d17_se_gap d17_se_cost n t9 (u4 + (1 : Int32)) (a17_7 + (1 : Int32)) (upd c17_se_seamCost b17_1.toNatClampNeg ((c17_se_seamCost b17_1.toNatClampNeg) + (d17_se_gap ((a17_7 * (8 : Int32)) + u4).toNatClampNeg))) (upd c17_se_column ((b17_1 * (4 : Int32)) + a17_7).toNatClampNeg u4)
        else none
       else none
      else none
     else none
def fSe_follow (p1 : Int32) (p2 : Int32) (p3 : Int32) (p4 : Int32) (se_seamCost : Nat → Int32) (se_column : Nat → Int32) (se_gap : Nat → Int32) (se_cost : Nat → Int32) : Option ((Nat → Int32) × (Nat → Int32)) :=
  if 0 ≤ p1.toInt ∧ p1.toInt < 6 then
   (fSe_follow_L17 p1 p2 p4 se_gap se_cost FU p2 (7 : Int32) p3 (upd se_seamCost p1.toNatClampNeg (0 : Int32)) se_column).bind fun u2 =>
   some (u2.1, u2.2)
  else none
def fSe_cutOne_L58 (b58_5 : Int32) (b58_7 : Int32) (b58_8 : Int32) (d58_se_gap : Nat → Int32) : Nat → Int32 → (Nat → Int32) → Option ((Nat → Int32))
  | 0, _, _ => none
  | n + 1, a58_9, c58_se_cost =>
    if (8 : Int32) ≤ a58_9 then
     some c58_se_cost
    else
     if 0 ≤ ((b58_8 * (8 : Int32)) + a58_9).toInt ∧ ((b58_8 * (8 : Int32)) + a58_9).toInt < 32 then
      if 0 ≤ ((b58_8 * (8 : Int32)) + a58_9).toInt ∧ ((b58_8 * (8 : Int32)) + a58_9).toInt < 32 then
       if b58_7 ≤ b58_8 then
        fSe_cutOne_L58 b58_5 b58_7 b58_8 d58_se_gap n (a58_9 + (1 : Int32)) (upd c58_se_cost ((b58_8 * (8 : Int32)) + a58_9).toNatClampNeg (d58_se_gap ((b58_8 * (8 : Int32)) + a58_9).toNatClampNeg))
       else
        (fSe_cheapest (b58_8 + (1 : Int32)) (if b58_5 < (a58_9 - (1 : Int32)) then (a58_9 - (1 : Int32)) else b58_5) (a58_9 + (1 : Int32)) (upd c58_se_cost ((b58_8 * (8 : Int32)) + a58_9).toNatClampNeg (d58_se_gap ((b58_8 * (8 : Int32)) + a58_9).toNatClampNeg))).bind fun u14 =>
        if 0 ≤ ((b58_8 * (8 : Int32)) + a58_9).toInt ∧ ((b58_8 * (8 : Int32)) + a58_9).toInt < 32 then
         if 0 ≤ (((b58_8 + (1 : Int32)) * (8 : Int32)) + u14).toInt ∧ (((b58_8 + (1 : Int32)) * (8 : Int32)) + u14).toInt < 32 then
          if 0 ≤ ((b58_8 * (8 : Int32)) + a58_9).toInt ∧ ((b58_8 * (8 : Int32)) + a58_9).toInt < 32 then
           fSe_cutOne_L58 b58_5 b58_7 b58_8 d58_se_gap n (a58_9 + (1 : Int32)) (upd (upd c58_se_cost ((b58_8 * (8 : Int32)) + a58_9).toNatClampNeg (d58_se_gap ((b58_8 * (8 : Int32)) + a58_9).toNatClampNeg)) ((b58_8 * (8 : Int32)) + a58_9).toNatClampNeg (((upd c58_se_cost ((b58_8 * (8 : Int32)) + a58_9).toNatClampNeg (d58_se_gap ((b58_8 * (8 : Int32)) + a58_9).toNatClampNeg)) ((b58_8 * (8 : Int32)) + a58_9).toNatClampNeg) + ((upd c58_se_cost ((b58_8 * (8 : Int32)) + a58_9).toNatClampNeg (d58_se_gap ((b58_8 * (8 : Int32)) + a58_9).toNatClampNeg)) (((b58_8 + (1 : Int32)) * (8 : Int32)) + u14).toNatClampNeg)))
          else none
         else none
        else none
      else none
     else none
def fSe_cutOne_L43 (b43_5 : Int32) (b43_6 : Int32) (b43_7 : Int32) (d43_se_gap : Nat → Int32) : Nat → Int32 → (Nat → Int32) → Option ((Nat → Int32))
  | 0, _, _ => none
  | n + 1, a43_8, c43_se_cost =>
    if a43_8 < b43_6 then
     some c43_se_cost
    else
     (some (if b43_5 < (0 : Int32) then (0 : Int32) else b43_5)).bind fun (t8 : Int32) =>
     (fSe_cutOne_L58 b43_5 b43_7 a43_8 d43_se_gap FU t8 c43_se_cost).bind fun u9 =>
     fSe_cutOne_L43 b43_5 b43_6 b43_7 d43_se_gap n (a43_8 + (-1 : Int32)) u9
def fSe_cutOne (p3 : Int32) (sc_count : Int32) (sc_cells : Nat → Int32) (ch_follower : Nat → Int32) (ch_linkE : Nat → Int32) (ch_linkF : Nat → Int32) (se_cells : Nat → Int32) (se_apart : Nat → Int32) (se_surplus : Nat → Int32) (se_seamCost : Nat → Int32) (se_column : Nat → Int32) (se_gap : Nat → Int32) (se_cost : Nat → Int32) : Option ((Nat → Int32) × (Nat → Int32) × (Nat → Int32) × (Nat → Int32) × (Nat → Int32) × (Nat → Int32) × (Nat → Int32)) :=
  (fCh_shiftE p3 ch_linkE).bind fun u1 =>
  (fCh_shiftF p3 ch_linkF).bind fun u2 =>
  (some (if (0 : Int32) < u1 then u1 else (0 : Int32))).bind fun (t3 : Int32) =>
  (some (if ((3 : Int32) + u1) < (3 : Int32) then ((3 : Int32) + u1) else (3 : Int32))).bind fun (t4 : Int32) =>
  (fSe_compare p3 sc_count sc_cells ch_follower ch_linkE ch_linkF se_cells se_apart se_surplus se_gap).bind fun u5 =>
  (fSe_cutOne_L43 u2 t3 t4 u5.2.2.2 FU t4 se_cost).bind fun u6 =>
  (fSe_follow p3 u2 t3 t4 se_seamCost se_column u5.2.2.2 u6).bind fun u18 =>
  some (u5.1, u5.2.1, u5.2.2.1, u18.1, u18.2, u5.2.2.2, u6)
def fSe_cut_L2 : Nat → Int32 → (Nat → Int32) → Option ((Nat → Int32))
  | 0, _, _ => none
  | n + 1, a2_3, c2_se_column =>
    if (24 : Int32) ≤ a2_3 then
     some c2_se_column
    else
     if 0 ≤ a2_3.toInt ∧ a2_3.toInt < 24 then
      fSe_cut_L2 n (a2_3 + (1 : Int32)) (upd c2_se_column a2_3.toNatClampNeg (-1 : Int32))
     else none
def fSe_cut_L23 (d23_sc_count : Int32) (d23_sc_cells : Nat → Int32) (d23_ch_follower : Nat → Int32) (d23_ch_linkE : Nat → Int32) (d23_ch_linkF : Nat → Int32) : Nat → Int32 → (Nat → Int32) → (Nat → Int32) → (Nat → Int32) → (Nat → Int32) → (Nat → Int32) → (Nat → Int32) → (Nat → Int32) → Option ((Nat → Int32) × (Nat → Int32) × (Nat → Int32) × (Nat → Int32) × (Nat → Int32) × (Nat → Int32) × (Nat → Int32))
  | 0, _, _, _, _, _, _, _, _ => none
  | n + 1, a23_3, c23_se_cells, c23_se_apart, c23_se_surplus, c23_se_seamCost, c23_se_column, c23_se_gap, c23_se_cost =>
    if (6 : Int32) ≤ a23_3 then
     some (c23_se_cells, c23_se_apart, c23_se_surplus, c23_se_seamCost, c23_se_column, c23_se_gap, c23_se_cost)
    else
     (fCh_followerOf a23_3 d23_ch_follower).bind fun u6 =>
     if u6 = (-1 : Int32) then
      fSe_cut_L23 d23_sc_count d23_sc_cells d23_ch_follower d23_ch_linkE d23_ch_linkF n (a23_3 + (1 : Int32)) c23_se_cells c23_se_apart c23_se_surplus c23_se_seamCost c23_se_column c23_se_gap c23_se_cost
     else
      (fSe_cutOne a23_3 d23_sc_count d23_sc_cells d23_ch_follower d23_ch_linkE d23_ch_linkF c23_se_cells c23_se_apart c23_se_surplus c23_se_seamCost c23_se_column c23_se_gap c23_se_cost).bind fun u8 =>
      fSe_cut_L23 d23_sc_count d23_sc_cells d23_ch_follower d23_ch_linkE d23_ch_linkF n (a23_3 + (1 : Int32)) u8.1 u8.2.1 u8.2.2.1 u8.2.2.2.1 u8.2.2.2.2.1 u8.2.2.2.2.2.1 u8.2.2.2.2.2.2
def fSe_cut (sc_count : Int32) (sc_cells : Nat → Int32) (ch_follower : Nat → Int32) (ch_linkE : Nat → Int32) (ch_linkF : Nat → Int32) (se_cells : Nat → Int32) (se_apart : Nat → Int32) (se_surplus : Nat → Int32) (se_seamCost : Nat → Int32) (se_column : Nat → Int32) (se_gap : Nat → Int32) (se_cost : Nat → Int32) : Option ((Nat → Int32) × (Nat → Int32) × (Nat → Int32) × (Nat → Int32) × (Nat → Int32) × (Nat → Int32) × (Nat → Int32)) :=
  (fSe_cut_L2 FU (0 : Int32) se_column).bind fun u1 =>
  (fSe_cut_L23 sc_count sc_cells ch_follower ch_linkE ch_linkF FU (0 : Int32) se_cells se_apart se_surplus se_seamCost u1 se_gap se_cost).bind fun u4 =>
  some (u4.1, u4.2.1, u4.2.2.1, u4.2.2.2.1, u4.2.2.2.2.1, u4.2.2.2.2.2.1, u4.2.2.2.2.2.2)
def fLe_aboveOf (p1 : Int32) (le_above : Nat → Int64) : Option (Int64) :=
  (fRi_within p1 (0 : Int32) (5 : Int32)).bind fun u1 =>
  if u1 = 0 then
   some (0 : Int64)
  else
   if 0 ≤ p1.toInt ∧ p1.toInt < 6 then
    some (le_above p1.toNatClampNeg)
   else none
def fLe_belowOf (p1 : Int32) (le_below : Nat → Int64) : Option (Int64) :=
  (fRi_within p1 (0 : Int32) (5 : Int32)).bind fun u1 =>
  if u1 = 0 then
   some (1 : Int64)
  else
   if 0 ≤ p1.toInt ∧ p1.toInt < 6 then
    some (le_below p1.toNatClampNeg)
   else none
def fLe_share (p0 : Int32) : Option (Int64) :=
  if p0 ≤ 0 then
   some (0 : Int64)
  else
   if ¬ p0 = 0 then
    some (((5040 : Int32) / p0).toInt64)
   else none
def fLe_setLevel (p1 : Int32) (p2 : Int64) (p4 : Int64) (le_above : Nat → Int64) (le_below : Nat → Int64) : Option ((Nat → Int64) × (Nat → Int64)) :=
  (fRi_greatestDivisor p2 p4).bind fun u1 =>
  (fRi_within p1 (0 : Int32) (5 : Int32)).bind fun u2 =>
  if u2 = 0 then
   some (le_above, le_below)
  else
   if (lg_cmp u1 (0 : Int64)) ≤ 0 then
    some (le_above, le_below)
   else
    if ¬ u1 = 0 then
     if 0 ≤ p1.toInt ∧ p1.toInt < 6 then
      if ¬ u1 = 0 then
       if 0 ≤ p1.toInt ∧ p1.toInt < 6 then
        some ((vp_updL le_above p1.toNatClampNeg (p2 / u1)), (vp_updL le_below p1.toNatClampNeg (p4 / u1)))
       else none
      else none
     else none
    else none
def fLe_walk_L9 (b9_3 : Int32) (b9_4 : Int64) (b9_6 : Int64) (d9_ch_follower : Nat → Int32) (d9_se_cells : Nat → Int32) (d9_se_surplus : Nat → Int32) : Nat → Int32 → Int64 → Int32 → (Nat → Int64) → (Nat → Int64) → Option (Sum ((Nat → Int64) × (Nat → Int64)) ((Nat → Int64) × (Nat → Int64)))
  | 0, _, _, _, _, _ => none
  | n + 1, a9_8, a9_9, a9_11, c9_le_above, c9_le_below =>
    if (6 : Int32) ≤ a9_11 then
     some (.inr (c9_le_above, c9_le_below))
    else
     (fRi_within a9_8 (0 : Int32) (5 : Int32)).bind fun u3 =>
     if u3 = 0 then
      some (.inr (c9_le_above, c9_le_below))
     else
      if a9_11 ≤ 0 then
       (fLe_setLevel a9_8 a9_9 ((5040 : Int64) * b9_4) c9_le_above c9_le_below).bind fun u6 =>
       (fSe_surplusOf a9_8 d9_se_surplus).bind fun u7 =>
       (fSe_cellsOf a9_8 d9_se_cells).bind fun u8 =>
       (fLe_share u8).bind fun u9 =>
       (some (a9_9 + (((u7.toInt64 * b9_4) - b9_6) * u9))).bind fun (t10 : Int64) =>
       (fCh_followerOf a9_8 d9_ch_follower).bind fun u11 =>
       fLe_walk_L9 b9_3 b9_4 b9_6 d9_ch_follower d9_se_cells d9_se_surplus n u11 t10 (a9_11 + (1 : Int32)) u6.1 u6.2
      else
       if a9_8 = b9_3 then
        some (.inl (c9_le_above, c9_le_below))
       else
        (fLe_setLevel a9_8 a9_9 ((5040 : Int64) * b9_4) c9_le_above c9_le_below).bind fun u13 =>
        (fSe_surplusOf a9_8 d9_se_surplus).bind fun u14 =>
        (fSe_cellsOf a9_8 d9_se_cells).bind fun u15 =>
        (fLe_share u15).bind fun u16 =>
        (some (a9_9 + (((u14.toInt64 * b9_4) - b9_6) * u16))).bind fun (t17 : Int64) =>
        (fCh_followerOf a9_8 d9_ch_follower).bind fun u18 =>
        fLe_walk_L9 b9_3 b9_4 b9_6 d9_ch_follower d9_se_cells d9_se_surplus n u18 t17 (a9_11 + (1 : Int32)) u13.1 u13.2
def fLe_walk (p3 : Int32) (p4 : Int64) (p6 : Int64) (ch_follower : Nat → Int32) (se_cells : Nat → Int32) (se_surplus : Nat → Int32) (le_above : Nat → Int64) (le_below : Nat → Int64) : Option ((Nat → Int64) × (Nat → Int64)) :=
  (fLe_walk_L9 p3 p4 p6 ch_follower se_cells se_surplus FU p3 (0 : Int64) (0 : Int32) le_above le_below).bind fun u1 => Sum.elim (fun r => some r) (fun x19 =>
  some (x19.1, x19.2)) u1
def fLe_agreeRound_L8 (d8_ch_follower : Nat → Int32) (d8_se_cells : Nat → Int32) (d8_se_surplus : Nat → Int32) : Nat → Int64 → Int64 → Int32 → Option (Int64 × Int64)
  | 0, _, _, _ => none
  | n + 1, a8_3, a8_5, a8_7 =>
    if (6 : Int32) ≤ a8_7 then
     some (a8_3, a8_5)
    else
     (fCh_followerOf a8_7 d8_ch_follower).bind fun u3 =>
     if u3 = (-1 : Int32) then
      fLe_agreeRound_L8 d8_ch_follower d8_se_cells d8_se_surplus n a8_3 a8_5 (a8_7 + (1 : Int32))
     else
      (fSe_surplusOf a8_7 d8_se_surplus).bind fun u5 =>
      (fSe_cellsOf a8_7 d8_se_cells).bind fun u6 =>
      (fLe_share u6).bind fun u7 =>
      (fSe_cellsOf a8_7 d8_se_cells).bind fun u8 =>
      (fLe_share u8).bind fun u9 =>
      fLe_agreeRound_L8 d8_ch_follower d8_se_cells d8_se_surplus n (a8_3 + (u5.toInt64 * u7)) (a8_5 + u9) (a8_7 + (1 : Int32))
def fLe_agreeRound (ch_follower : Nat → Int32) (se_cells : Nat → Int32) (se_surplus : Nat → Int32) (le_restAbove : Int64) (le_restBelow : Int64) (le_above : Nat → Int64) (le_below : Nat → Int64) : Option (Int64 × Int64 × (Nat → Int64) × (Nat → Int64)) :=
  (fLe_agreeRound_L8 ch_follower se_cells se_surplus FU (0 : Int64) (0 : Int64) (0 : Int32)).bind fun u1 =>
  (fLe_walk (0 : Int32) u1.2 u1.1 ch_follower se_cells se_surplus le_above le_below).bind fun u10 =>
  (fRi_greatestDivisor (u1.1 * u1.1) ((5040 : Int64) * u1.2)).bind fun u11 =>
  if (lg_cmp u11 (0 : Int64)) ≤ 0 then
   some (le_restAbove, le_restBelow, u10.1, u10.2)
  else
   if ¬ u11 = 0 then
    if ¬ u11 = 0 then
     some (((u1.1 * u1.1) / u11), (((5040 : Int64) * u1.2) / u11), u10.1, u10.2)
    else none
   else none
def fLe_agree_L27 (b27_1 : Int32) (d27_ch_follower : Nat → Int32) (d27_ch_ahead : Nat → Int32) (d27_se_cells : Nat → Int32) (d27_se_surplus : Nat → Int32) : Nat → Int32 → (Nat → Int64) → (Nat → Int64) → Option ((Nat → Int64) × (Nat → Int64))
  | 0, _, _, _ => none
  | n + 1, a27_4, c27_le_above, c27_le_below =>
    if (6 : Int32) ≤ a27_4 then
     some (c27_le_above, c27_le_below)
    else
     if b27_1 ≤ a27_4 then
      some (c27_le_above, c27_le_below)
     else
      (fCh_aheadOf a27_4 d27_ch_ahead).bind fun u5 =>
      if u5 = (-1 : Int32) then
       (fLe_walk a27_4 (1 : Int64) (0 : Int64) d27_ch_follower d27_se_cells d27_se_surplus c27_le_above c27_le_below).bind fun u7 =>
       fLe_agree_L27 b27_1 d27_ch_follower d27_ch_ahead d27_se_cells d27_se_surplus n (a27_4 + (1 : Int32)) u7.1 u7.2
      else
       fLe_agree_L27 b27_1 d27_ch_follower d27_ch_ahead d27_se_cells d27_se_surplus n (a27_4 + (1 : Int32)) c27_le_above c27_le_below
def fLe_agree (p1 : Int32) (ch_closed : Int32) (ch_follower : Nat → Int32) (ch_ahead : Nat → Int32) (se_cells : Nat → Int32) (se_surplus : Nat → Int32) (le_restAbove : Int64) (le_restBelow : Int64) (le_above : Nat → Int64) (le_below : Nat → Int64) : Option (Int64 × Int64 × (Nat → Int64) × (Nat → Int64)) :=
  if ch_closed = 0 then
   (fLe_agree_L27 p1 ch_follower ch_ahead se_cells se_surplus FU (0 : Int32) le_above le_below).bind fun u2 =>
   some ((0 : Int64), (1 : Int64), u2.1, u2.2)
  else
   (fLe_agreeRound ch_follower se_cells se_surplus (0 : Int64) (1 : Int64) le_above le_below).bind fun u8 =>
   some (u8.1, u8.2.1, u8.2.2.1, u8.2.2.2)
def fOr_numbersOf (p0 : Int32) : Option (Int32) :=
  if p0 = (97 : Int32) then
   some (1 : Int32)
  else
   if p0 = (99 : Int32) then
    some (3 : Int32)
   else
    if p0 = (112 : Int32) then
     some (4 : Int32)
    else
     if p0 = (115 : Int32) then
      some (3 : Int32)
     else
      if p0 = (116 : Int32) then
       some (1 : Int32)
      else
       if p0 = (119 : Int32) then
        some (2 : Int32)
       else
        if p0 = (120 : Int32) then
         some (1 : Int32)
        else
         some (0 : Int32)
def fOr_acceptLetter (p1 : Int32) (or_count : Int32) (or_state : Int32) (or_letter : Int32) (or_filled : Int32) : Option (Int32 × Int32 × Int32 × Int32) :=
  (fOr_numbersOf p1).bind fun u1 =>
  if u1 = 0 then
   some ((0 : Int32), or_state, or_letter, or_filled)
  else
   (fRi_within or_count (0 : Int32) (39 : Int32)).bind fun u3 =>
   if u3 = 0 then
    some ((0 : Int32), or_state, or_letter, or_filled)
   else
    some ((1 : Int32), (1 : Int32), p1, (0 : Int32))
def fOr_isFigure (p0 : Int32) : Option (Int32) :=
  if p0 < (48 : Int32) then
   some (0 : Int32)
  else
   if (57 : Int32) < p0 then
    some (0 : Int32)
   else
    some (1 : Int32)
def fOr_acceptFigure (p1 : Int32) (or_state : Int32) (or_figures : Int32) (or_number : Int32) : Option (Int32 × Int32 × Int32 × Int32) :=
  if or_figures < (6 : Int32) then
   some ((1 : Int32), (3 : Int32), (or_figures + (1 : Int32)), ((((10 : Int32) * or_number) + p1) - (48 : Int32)))
  else
   some ((0 : Int32), or_state, or_figures, or_number)
def fOr_endNumber (or_count : Int32) (or_numbers : Nat → Int32) (or_state : Int32) (or_filled : Int32) (or_number : Int32) (or_below : Int32) : Option ((Nat → Int32) × Int32 × Int32) :=
  (some ((or_count * (4 : Int32)) + or_filled)).bind fun (t1 : Int32) =>
  (fRi_within t1 (0 : Int32) (159 : Int32)).bind fun u2 =>
  ((if u2 = 0 then
    some or_numbers
   else
    if or_below = 0 then
     if 0 ≤ t1.toInt ∧ t1.toInt < 160 then
      some (upd or_numbers t1.toNatClampNeg or_number)
     else none
    else
     if 0 ≤ t1.toInt ∧ t1.toInt < 160 then
      some (upd or_numbers t1.toNatClampNeg (-or_number))
     else none : Option ((Nat → Int32)))).bind fun u4 =>
  some (u4, (1 : Int32), (or_filled + (1 : Int32)))
def fOr_endOrder (or_count : Int32) (or_letters : Nat → Int32) (or_state : Int32) (or_letter : Int32) : Option (Int32 × Int32 × (Nat → Int32) × Int32) :=
  (fRi_within or_count (0 : Int32) (39 : Int32)).bind fun u1 =>
  if u1 = 0 then
   some ((0 : Int32), or_count, or_letters, or_state)
  else
   if 0 ≤ or_count.toInt ∧ or_count.toInt < 40 then
    some ((1 : Int32), (or_count + (1 : Int32)), (upd or_letters or_count.toNatClampNeg or_letter), (0 : Int32))
   else none
def fOr_acceptInGap (p1 : Int32) (or_count : Int32) (or_letters : Nat → Int32) (or_state : Int32) (or_letter : Int32) (or_filled : Int32) (or_figures : Int32) (or_number : Int32) (or_below : Int32) : Option (Int32 × Int32 × (Nat → Int32) × Int32 × Int32 × Int32 × Int32) :=
  if p1 = (32 : Int32) then
   some ((1 : Int32), or_count, or_letters, or_state, or_figures, or_number, or_below)
  else
   (fOr_numbersOf or_letter).bind fun u2 =>
   if or_filled < u2 then
    ((if p1 = (45 : Int32) then
      if or_letter = (115 : Int32) then
       if or_filled = (2 : Int32) then
        some (1 : Int32)
       else
        some (0 : Int32)
      else
       some (0 : Int32)
     else
      some (0 : Int32) : Option (Int32))).bind fun u5 =>
    if u5 = 0 then
     (fOr_isFigure p1).bind fun u13 =>
     if u13 = 0 then
      some ((0 : Int32), or_count, or_letters, or_state, or_figures, or_number, or_below)
     else
      if u5 = 0 ∨ u5 = 1 then
       if u5 = 0 then
        (fOr_acceptFigure p1 (2 : Int32) (0 : Int32) (0 : Int32)).bind fun u17 =>
        if u17.1 = 0 then
         some ((0 : Int32), or_count, or_letters, u17.2.1, u17.2.2.1, u17.2.2.2, u5)
        else
         some ((1 : Int32), or_count, or_letters, u17.2.1, u17.2.2.1, u17.2.2.2, u5)
       else
        some ((1 : Int32), or_count, or_letters, (2 : Int32), (0 : Int32), (0 : Int32), u5)
      else none
    else
     if u5 = 0 ∨ u5 = 1 then
      if u5 = 0 then
       (fOr_acceptFigure p1 (2 : Int32) (0 : Int32) (0 : Int32)).bind fun u11 =>
       if u11.1 = 0 then
        some ((0 : Int32), or_count, or_letters, u11.2.1, u11.2.2.1, u11.2.2.2, u5)
       else
        some ((1 : Int32), or_count, or_letters, u11.2.1, u11.2.2.1, u11.2.2.2, u5)
      else
       some ((1 : Int32), or_count, or_letters, (2 : Int32), (0 : Int32), (0 : Int32), u5)
     else none
   else
    if p1 = (59 : Int32) then
     (fOr_endOrder or_count or_letters or_state or_letter).bind fun u20 =>
     if u20.1 = 0 then
      some ((0 : Int32), u20.2.1, u20.2.2.1, u20.2.2.2, or_figures, or_number, or_below)
     else
      some ((1 : Int32), u20.2.1, u20.2.2.1, u20.2.2.2, or_figures, or_number, or_below)
    else
     some ((0 : Int32), or_count, or_letters, or_state, or_figures, or_number, or_below)
def fOr_accept (p1 : Int32) (or_count : Int32) (or_letters : Nat → Int32) (or_numbers : Nat → Int32) (or_state : Int32) (or_letter : Int32) (or_filled : Int32) (or_figures : Int32) (or_number : Int32) (or_below : Int32) : Option (Int32 × Int32 × (Nat → Int32) × (Nat → Int32) × Int32 × Int32 × Int32 × Int32 × Int32 × Int32) :=
  if or_state = (0 : Int32) then
   if p1 = (32 : Int32) then
    some ((1 : Int32), or_count, or_letters, or_numbers, or_state, or_letter, or_filled, or_figures, or_number, or_below)
   else
    (fOr_acceptLetter p1 or_count or_state or_letter or_filled).bind fun u3 =>
    if u3.1 = 0 then
     some ((0 : Int32), or_count, or_letters, or_numbers, u3.2.1, u3.2.2.1, u3.2.2.2, or_figures, or_number, or_below)
    else
     some ((1 : Int32), or_count, or_letters, or_numbers, u3.2.1, u3.2.2.1, u3.2.2.2, or_figures, or_number, or_below)
  else
   if or_state = (2 : Int32) then
    (fOr_isFigure p1).bind fun u6 =>
    if u6 = 0 then
     some ((0 : Int32), or_count, or_letters, or_numbers, or_state, or_letter, or_filled, or_figures, or_number, or_below)
    else
     (fOr_acceptFigure p1 or_state or_figures or_number).bind fun u8 =>
     if u8.1 = 0 then
      some ((0 : Int32), or_count, or_letters, or_numbers, u8.2.1, or_letter, or_filled, u8.2.2.1, u8.2.2.2, or_below)
     else
      some ((1 : Int32), or_count, or_letters, or_numbers, u8.2.1, or_letter, or_filled, u8.2.2.1, u8.2.2.2, or_below)
   else
    if or_state = (3 : Int32) then
     (fOr_isFigure p1).bind fun u11 =>
     if u11 = 0 then
      (fOr_endNumber or_count or_numbers or_state or_filled or_number or_below).bind fun u13 =>
      (fOr_acceptInGap p1 or_count or_letters u13.2.1 or_letter u13.2.2 or_figures or_number or_below).bind fun u14 =>
      if u14.1 = 0 ∨ u14.1 = 1 then
       some (u14.1, u14.2.1, u14.2.2.1, u13.1, u14.2.2.2.1, or_letter, u13.2.2, u14.2.2.2.2.1, u14.2.2.2.2.2.1, u14.2.2.2.2.2.2)
      else none
     else
      (fOr_acceptFigure p1 or_state or_figures or_number).bind fun u15 =>
      if u15.1 = 0 ∨ u15.1 = 1 then
       some (u15.1, or_count, or_letters, or_numbers, u15.2.1, or_letter, or_filled, u15.2.2.1, u15.2.2.2, or_below)
      else none
    else
     (fOr_acceptInGap p1 or_count or_letters or_state or_letter or_filled or_figures or_number or_below).bind fun u16 =>
     if u16.1 = 0 ∨ u16.1 = 1 then
      some (u16.1, u16.2.1, u16.2.2.1, or_numbers, u16.2.2.2.1, or_letter, or_filled, u16.2.2.2.2.1, u16.2.2.2.2.2.1, u16.2.2.2.2.2.2)
     else none
def fOr_findFault_L12 (b12_2 : Int32) (d12_tx_text : Nat → Int32) : Nat → Int32 → Int32 → (Nat → Int32) → (Nat → Int32) → Int32 → Int32 → Int32 → Int32 → Int32 → Int32 → Option (Sum (Int32 × Int32 × (Nat → Int32) × (Nat → Int32) × Int32 × Int32 × Int32 × Int32 × Int32 × Int32) (Int32 × (Nat → Int32) × (Nat → Int32) × Int32 × Int32 × Int32 × Int32 × Int32 × Int32))
  | 0, _, _, _, _, _, _, _, _, _, _ => none
  | n + 1, a12_3, c12_or_count, c12_or_letters, c12_or_numbers, c12_or_state, c12_or_letter, c12_or_filled, c12_or_figures, c12_or_number, c12_or_below =>
    if b12_2 ≤ a12_3 then
     some (.inr (c12_or_count, c12_or_letters, c12_or_numbers, c12_or_state, c12_or_letter, c12_or_filled, c12_or_figures, c12_or_number, c12_or_below))
    else
     if (120 : Int32) ≤ a12_3 then
      some (.inr (c12_or_count, c12_or_letters, c12_or_numbers, c12_or_state, c12_or_letter, c12_or_filled, c12_or_figures, c12_or_number, c12_or_below))
     else
      if 0 ≤ a12_3.toInt ∧ a12_3.toInt < 120 then
       (fOr_accept (d12_tx_text a12_3.toNatClampNeg) c12_or_count c12_or_letters c12_or_numbers c12_or_state c12_or_letter c12_or_filled c12_or_figures c12_or_number c12_or_below).bind fun u5 =>
       if u5.1 = 0 then
        some (.inl (a12_3, u5.2.1, u5.2.2.1, u5.2.2.2.1, u5.2.2.2.2.1, u5.2.2.2.2.2.1, u5.2.2.2.2.2.2.1, u5.2.2.2.2.2.2.2.1, u5.2.2.2.2.2.2.2.2.1, u5.2.2.2.2.2.2.2.2.2))
       else
        fOr_findFault_L12 b12_2 d12_tx_text n (a12_3 + (1 : Int32)) u5.2.1 u5.2.2.1 u5.2.2.2.1 u5.2.2.2.2.1 u5.2.2.2.2.2.1 u5.2.2.2.2.2.2.1 u5.2.2.2.2.2.2.2.1 u5.2.2.2.2.2.2.2.2.1 u5.2.2.2.2.2.2.2.2.2
      else none
def fOr_findFault (p2 : Int32) (or_count : Int32) (or_letters : Nat → Int32) (or_numbers : Nat → Int32) (or_state : Int32) (or_letter : Int32) (or_filled : Int32) (or_figures : Int32) (or_number : Int32) (or_below : Int32) (tx_text : Nat → Int32) : Option (Int32 × Int32 × (Nat → Int32) × (Nat → Int32) × Int32 × Int32 × Int32 × Int32 × Int32 × Int32) :=
  (fOr_findFault_L12 p2 tx_text FU (0 : Int32) (0 : Int32) or_letters or_numbers (0 : Int32) or_letter or_filled or_figures or_number or_below).bind fun u1 => Sum.elim (fun r => some r) (fun x7 =>
  if x7.1 ≤ 0 then
   some (p2, x7.1, x7.2.1, x7.2.2.1, x7.2.2.2.1, x7.2.2.2.2.1, x7.2.2.2.2.2.1, x7.2.2.2.2.2.2.1, x7.2.2.2.2.2.2.2.1, x7.2.2.2.2.2.2.2.2)
  else
   if x7.2.2.2.1 = 0 then
    some ((-1 : Int32), x7.1, x7.2.1, x7.2.2.1, x7.2.2.2.1, x7.2.2.2.2.1, x7.2.2.2.2.2.1, x7.2.2.2.2.2.2.1, x7.2.2.2.2.2.2.2.1, x7.2.2.2.2.2.2.2.2)
   else
    some (p2, x7.1, x7.2.1, x7.2.2.1, x7.2.2.2.1, x7.2.2.2.2.1, x7.2.2.2.2.2.1, x7.2.2.2.2.2.2.1, x7.2.2.2.2.2.2.2.1, x7.2.2.2.2.2.2.2.2)) u1
def fOr_carryOutOne (p2 : Int32) (p3 : Int32) (sc_columns : Int32) (sc_count : Int32) (sc_cornerChange : Int32) (sc_voteApart : Int32) (sc_dots : Nat → Int32) (sc_cells : Nat → Int32) (sc_shotX : Nat → Int32) (sc_shotY : Nat → Int32) (sc_shotColumns : Nat → Int32) (or_numbers : Nat → Int32) : Option (Int32 × Int32 × Int32 × Int32 × Int32 × (Nat → Int32) × (Nat → Int32) × (Nat → Int32) × (Nat → Int32) × (Nat → Int32)) :=
  (fRi_within p3 (0 : Int32) (156 : Int32)).bind fun u1 =>
  if u1 = 0 then
   some ((-2 : Int32), sc_columns, sc_count, sc_cornerChange, sc_voteApart, sc_dots, sc_cells, sc_shotX, sc_shotY, sc_shotColumns)
  else
   if 0 ≤ p3.toInt ∧ p3.toInt < 160 then
    if 0 ≤ (p3 + (1 : Int32)).toInt ∧ (p3 + (1 : Int32)).toInt < 160 then
     (some (or_numbers (p3 + (1 : Int32)).toNatClampNeg)).bind fun (t5 : Int32) =>
     if 0 ≤ (p3 + (2 : Int32)).toInt ∧ (p3 + (2 : Int32)).toInt < 160 then
      (some (or_numbers (p3 + (2 : Int32)).toNatClampNeg)).bind fun (t7 : Int32) =>
      if p2 = (97 : Int32) then
       (fSc_setNumber (1 : Int32) (or_numbers p3.toNatClampNeg) sc_cornerChange sc_voteApart).bind fun u9 =>
       some (u9.1, sc_columns, sc_count, u9.2.1, u9.2.2, sc_dots, sc_cells, sc_shotX, sc_shotY, sc_shotColumns)
      else
       if p2 = (99 : Int32) then
        (fSc_putDot (or_numbers p3.toNatClampNeg) t5 t7 sc_columns sc_dots).bind fun u11 =>
        some (u11.1, sc_columns, sc_count, sc_cornerChange, sc_voteApart, u11.2, sc_cells, sc_shotX, sc_shotY, sc_shotColumns)
       else
        if p2 = (112 : Int32) then
         if 0 ≤ (p3 + (3 : Int32)).toInt ∧ (p3 + (3 : Int32)).toInt < 160 then
          (fSc_putCell (or_numbers p3.toNatClampNeg) t5 t7 (or_numbers (p3 + (3 : Int32)).toNatClampNeg) sc_count sc_cells).bind fun u14 =>
          some (u14.1, sc_columns, sc_count, sc_cornerChange, sc_voteApart, sc_dots, u14.2, sc_shotX, sc_shotY, sc_shotColumns)
         else none
        else
         if p2 = (115 : Int32) then
          (fSc_takeShot (or_numbers p3.toNatClampNeg) t5 t7 sc_columns sc_count sc_dots sc_cells sc_shotX sc_shotY sc_shotColumns).bind fun u16 =>
          some (u16.1, sc_columns, u16.2.1, sc_cornerChange, sc_voteApart, sc_dots, u16.2.2.1, u16.2.2.2.1, u16.2.2.2.2.1, u16.2.2.2.2.2)
         else
          if p2 = (116 : Int32) then
           (fSc_setNumber (0 : Int32) (or_numbers p3.toNatClampNeg) sc_cornerChange sc_voteApart).bind fun u18 =>
           some (u18.1, sc_columns, sc_count, u18.2.1, u18.2.2, sc_dots, sc_cells, sc_shotX, sc_shotY, sc_shotColumns)
          else
           if p2 = (119 : Int32) then
            (fSc_drawWorld (or_numbers p3.toNatClampNeg) t5 sc_columns sc_dots).bind fun u20 =>
            some (u20.1, u20.2.1, sc_count, sc_cornerChange, sc_voteApart, u20.2.2, sc_cells, sc_shotX, sc_shotY, sc_shotColumns)
           else
            if p2 = (120 : Int32) then
             (fSc_dropPicture (or_numbers p3.toNatClampNeg) sc_count sc_cells sc_shotX sc_shotY sc_shotColumns).bind fun u22 =>
             some (u22.1, sc_columns, u22.2.1, sc_cornerChange, sc_voteApart, sc_dots, u22.2.2.1, u22.2.2.2.1, u22.2.2.2.2.1, u22.2.2.2.2.2)
            else
             some ((-2 : Int32), sc_columns, sc_count, sc_cornerChange, sc_voteApart, sc_dots, sc_cells, sc_shotX, sc_shotY, sc_shotColumns)
     else none
    else none
   else none
def fOr_carryOut_L2 (d2_or_count : Int32) (d2_or_letters : Nat → Int32) (d2_or_numbers : Nat → Int32) : Nat → Int32 → Int32 → Int32 → Int32 → Int32 → (Nat → Int32) → (Nat → Int32) → (Nat → Int32) → (Nat → Int32) → (Nat → Int32) → Int32 → Option (Sum (Int32 × Int32 × Int32 × Int32 × Int32 × (Nat → Int32) × (Nat → Int32) × (Nat → Int32) × (Nat → Int32) × (Nat → Int32) × Int32) (Int32 × Int32 × Int32 × Int32 × (Nat → Int32) × (Nat → Int32) × (Nat → Int32) × (Nat → Int32) × (Nat → Int32) × Int32))
  | 0, _, _, _, _, _, _, _, _, _, _, _ => none
  | n + 1, a2_2, c2_sc_columns, c2_sc_count, c2_sc_cornerChange, c2_sc_voteApart, c2_sc_dots, c2_sc_cells, c2_sc_shotX, c2_sc_shotY, c2_sc_shotColumns, c2_or_stopKind =>
    if d2_or_count ≤ a2_2 then
     some (.inr (c2_sc_columns, c2_sc_count, c2_sc_cornerChange, c2_sc_voteApart, c2_sc_dots, c2_sc_cells, c2_sc_shotX, c2_sc_shotY, c2_sc_shotColumns, c2_or_stopKind))
    else
     if (40 : Int32) ≤ a2_2 then
      some (.inr (c2_sc_columns, c2_sc_count, c2_sc_cornerChange, c2_sc_voteApart, c2_sc_dots, c2_sc_cells, c2_sc_shotX, c2_sc_shotY, c2_sc_shotColumns, c2_or_stopKind))
     else
      if 0 ≤ a2_2.toInt ∧ a2_2.toInt < 40 then
       (fOr_carryOutOne (d2_or_letters a2_2.toNatClampNeg) (a2_2 * (4 : Int32)) c2_sc_columns c2_sc_count c2_sc_cornerChange c2_sc_voteApart c2_sc_dots c2_sc_cells c2_sc_shotX c2_sc_shotY c2_sc_shotColumns d2_or_numbers).bind fun u5 =>
       if 0 ≤ u5.1 then
        fOr_carryOut_L2 d2_or_count d2_or_letters d2_or_numbers n (a2_2 + (1 : Int32)) u5.2.1 u5.2.2.1 u5.2.2.2.1 u5.2.2.2.2.1 u5.2.2.2.2.2.1 u5.2.2.2.2.2.2.1 u5.2.2.2.2.2.2.2.1 u5.2.2.2.2.2.2.2.2.1 u5.2.2.2.2.2.2.2.2.2 c2_or_stopKind
       else
        some (.inl (a2_2, u5.2.1, u5.2.2.1, u5.2.2.2.1, u5.2.2.2.2.1, u5.2.2.2.2.2.1, u5.2.2.2.2.2.2.1, u5.2.2.2.2.2.2.2.1, u5.2.2.2.2.2.2.2.2.1, u5.2.2.2.2.2.2.2.2.2, (-u5.1)))
      else none
def fOr_carryOut (sc_columns : Int32) (sc_count : Int32) (sc_cornerChange : Int32) (sc_voteApart : Int32) (sc_dots : Nat → Int32) (sc_cells : Nat → Int32) (sc_shotX : Nat → Int32) (sc_shotY : Nat → Int32) (sc_shotColumns : Nat → Int32) (or_count : Int32) (or_stopKind : Int32) (or_letters : Nat → Int32) (or_numbers : Nat → Int32) : Option (Int32 × Int32 × Int32 × Int32 × Int32 × (Nat → Int32) × (Nat → Int32) × (Nat → Int32) × (Nat → Int32) × (Nat → Int32) × Int32) :=
  (fOr_carryOut_L2 or_count or_letters or_numbers FU (0 : Int32) sc_columns sc_count sc_cornerChange sc_voteApart sc_dots sc_cells sc_shotX sc_shotY sc_shotColumns or_stopKind).bind fun u1 => Sum.elim (fun r => some r) (fun x7 =>
  some ((-1 : Int32), x7.1, x7.2.1, x7.2.2.1, x7.2.2.2.1, x7.2.2.2.2.1, x7.2.2.2.2.2.1, x7.2.2.2.2.2.2.1, x7.2.2.2.2.2.2.2.1, x7.2.2.2.2.2.2.2.2.1, x7.2.2.2.2.2.2.2.2.2)) u1
def fMo_in (p0 : Int64) (p2 : Int64) (p4 : Int64) : Option (Int32) :=
  if (lg_cmp p0 p2) < 0 then
   some (0 : Int32)
  else
   if 0 < (lg_cmp p0 p4) then
    some (0 : Int32)
   else
    some (1 : Int32)
def fMo_refuses (p1 : Int32) (mo_refused : Nat → Int32) : Option (Int32 × (Nat → Int32)) :=
  if 0 ≤ ((-2 : Int32) - p1).toInt ∧ ((-2 : Int32) - p1).toInt < 3 then
   if 0 ≤ ((-2 : Int32) - p1).toInt ∧ ((-2 : Int32) - p1).toInt < 3 then
    some (p1, (upd mo_refused ((-2 : Int32) - p1).toNatClampNeg ((mo_refused ((-2 : Int32) - p1).toNatClampNeg) + (1 : Int32))))
   else none
  else none
def fMo_keep_L10 : Nat → Int32 → (Nat → Int32) → Option ((Nat → Int32))
  | 0, _, _ => none
  | n + 1, a10_1, c10_mo_past =>
    if (1624 : Int32) ≤ a10_1 then
     some c10_mo_past
    else
     if 0 ≤ (a10_1 + (406 : Int32)).toInt ∧ (a10_1 + (406 : Int32)).toInt < 2030 then
      if 0 ≤ a10_1.toInt ∧ a10_1.toInt < 2030 then
       fMo_keep_L10 n (a10_1 + (1 : Int32)) (upd c10_mo_past a10_1.toNatClampNeg (c10_mo_past (a10_1 + (406 : Int32)).toNatClampNeg))
      else none
     else none
def fMo_keep_L51 (d51_mo_all : Nat → Int32) (d51_mo_states : Int32) : Nat → Int32 → (Nat → Int32) → Option ((Nat → Int32))
  | 0, _, _ => none
  | n + 1, a51_1, c51_mo_past =>
    if (406 : Int32) ≤ a51_1 then
     some c51_mo_past
    else
     if 0 ≤ a51_1.toInt ∧ a51_1.toInt < 406 then
      if 0 ≤ (((406 : Int32) * d51_mo_states) + a51_1).toInt ∧ (((406 : Int32) * d51_mo_states) + a51_1).toInt < 2030 then
       fMo_keep_L51 d51_mo_all d51_mo_states n (a51_1 + (1 : Int32)) (upd c51_mo_past (((406 : Int32) * d51_mo_states) + a51_1).toNatClampNeg (d51_mo_all a51_1.toNatClampNeg))
      else none
     else none
def fMo_keep (mo_all : Nat → Int32) (mo_past : Nat → Int32) (mo_states : Int32) : Option ((Nat → Int32) × Int32) :=
  ((if mo_states = (5 : Int32) then
    (fMo_keep_L10 FU (0 : Int32) mo_past).bind fun u3 =>
    some (u3, (mo_states - (1 : Int32)))
   else
    some (mo_past, mo_states) : Option ((Nat → Int32) × Int32))).bind fun u2 =>
  (fMo_keep_L51 mo_all u2.2 FU (0 : Int32) u2.1).bind fun u7 =>
  some (u7, (u2.2 + (1 : Int32)))
def fMo_abs (p0 : Int32) : Option (Int32) :=
  if 0 ≤ p0 then
   some p0
  else
   some (-p0)
def fMo_held (p0 : Int32) : Option (Int32) :=
  if 0 ≤ p0 then
   if p0 ≤ (63 : Int32) then
    some p0
   else
    some (63 : Int32)
  else
   some (0 : Int32)
def fMo_many (mo_all : Nat → Int32) : Option (Int32) :=
  if 0 ≤ (3 : Int32).toInt ∧ (3 : Int32).toInt < 406 then
   some (mo_all (3 : Int32).toNatClampNeg)
  else none
def fMo_isPicture (p1 : Int32) (mo_all : Nat → Int32) : Option (Int32) :=
  (fMo_many mo_all).bind fun u1 =>
  (fMo_in p1.toInt64 (0 : Int64) ((u1 - (1 : Int32)).toInt64)).bind fun u2 =>
  if u2 = 0 ∨ u2 = 1 then
   some u2
  else none
def fMo_isCell (p0 : Int32) (p1 : Int32) : Option (Int32) :=
  (fMo_in p0.toInt64 (0 : Int64) (3 : Int64)).bind fun u1 =>
  if u1 = 0 then
   some (0 : Int32)
  else
   (fMo_in p1.toInt64 (0 : Int64) (7 : Int64)).bind fun u3 =>
   if u3 = 0 then
    some (0 : Int32)
   else
    some (1 : Int32)
def fMo_at (p1 : Int32) (p2 : Int32) (p3 : Int32) (mo_all : Nat → Int32) : Option (Int32) :=
  if 0 ≤ ((((196 : Int32) + ((35 : Int32) * p1)) + ((8 : Int32) * p2)) + p3).toInt ∧ ((((196 : Int32) + ((35 : Int32) * p1)) + ((8 : Int32) * p2)) + p3).toInt < 406 then
   some (mo_all ((((196 : Int32) + ((35 : Int32) * p1)) + ((8 : Int32) * p2)) + p3).toNatClampNeg)
  else none
def fMo_shotOf (p1 : Int32) (p2 : Int32) (mo_all : Nat → Int32) : Option (Int32) :=
  if 0 ≤ ((((196 : Int32) + ((35 : Int32) * p1)) + (32 : Int32)) + p2).toInt ∧ ((((196 : Int32) + ((35 : Int32) * p1)) + (32 : Int32)) + p2).toInt < 406 then
   some (mo_all ((((196 : Int32) + ((35 : Int32) * p1)) + (32 : Int32)) + p2).toNatClampNeg)
  else none
def fMo_isWorld (p0 : Int32) (p1 : Int32) : Option (Int32) :=
  (fMo_in p0.toInt64 (0 : Int64) (999999 : Int64)).bind fun u1 =>
  if u1 = 0 then
   some (0 : Int32)
  else
   (fMo_in p1.toInt64 (12 : Int64) (32 : Int64)).bind fun u3 =>
   if u3 = 0 then
    some (0 : Int32)
   else
    some (1 : Int32)
def fMo_worldNow_L23 (b23_6 : Int32) : Nat → Int64 → Int32 → (Nat → Int32) → Option (Int64 × (Nat → Int32))
  | 0, _, _, _ => none
  | n + 1, a23_4, a23_7, c23_mo_all =>
    if (6 : Int32) ≤ a23_7 then
     some (a23_4, c23_mo_all)
    else
     if ¬ (2147483648 : Int64) = 0 then
      (some (((a23_4 * (1103515245 : Int64)) + (12345 : Int64)) - ((a23_4 * (1103515245 : Int64)) + (12345 : Int64)) / (2147483648 : Int64) * (2147483648 : Int64))).bind fun (t8 : Int64) =>
      if ¬ (65536 : Int64) = 0 then
       if ¬ (64 : Int64) = 0 then
        if 0 ≤ (((4 : Int32) + ((32 : Int32) * a23_7)) + b23_6).toInt ∧ (((4 : Int32) + ((32 : Int32) * a23_7)) + b23_6).toInt < 406 then
         fMo_worldNow_L23 b23_6 n t8 (a23_7 + (1 : Int32)) (upd c23_mo_all (((4 : Int32) + ((32 : Int32) * a23_7)) + b23_6).toNatClampNeg (((t8 / (65536 : Int64)) - (t8 / (65536 : Int64)) / (64 : Int64) * (64 : Int64)).toInt32))
        else none
       else none
      else none
     else none
def fMo_worldNow_L14 (b14_2 : Int32) : Nat → Int64 → Int32 → (Nat → Int32) → Option ((Nat → Int32))
  | 0, _, _, _ => none
  | n + 1, a14_4, a14_6, c14_mo_all =>
    if b14_2 ≤ a14_6 then
     some c14_mo_all
    else
     (fMo_worldNow_L23 a14_6 FU a14_4 (0 : Int32) c14_mo_all).bind fun u5 =>
     fMo_worldNow_L14 b14_2 n u5.1 (a14_6 + (1 : Int32)) u5.2
def fMo_worldNow (p1 : Int32) (p2 : Int32) (mo_all : Nat → Int32) : Option (Int32 × (Nat → Int32)) :=
  if 0 ≤ (0 : Int32).toInt ∧ (0 : Int32).toInt < 406 then
   (some (mo_all (0 : Int32).toNatClampNeg)).bind fun (t2 : Int32) =>
   (fMo_worldNow_L14 p2 FU p1.toInt64 (0 : Int32) mo_all).bind fun u3 =>
   if 0 ≤ (0 : Int32).toInt ∧ (0 : Int32).toInt < 406 then
    some (t2, (upd u3 (0 : Int32).toNatClampNeg p2))
   else none
  else none
def fMo_world (p1 : Int32) (p2 : Int32) (mo_all : Nat → Int32) (mo_past : Nat → Int32) (mo_states : Int32) (mo_refused : Nat → Int32) : Option (Int32 × (Nat → Int32) × (Nat → Int32) × Int32 × (Nat → Int32)) :=
  (fMo_isWorld p1 p2).bind fun u1 =>
  if u1 = 0 then
   (fMo_refuses (-2 : Int32) mo_refused).bind fun u5 =>
   some (u5.1, mo_all, mo_past, mo_states, u5.2)
  else
   (fMo_keep mo_all mo_past mo_states).bind fun u3 =>
   (fMo_worldNow p1 p2 mo_all).bind fun u4 =>
   some (u4.1, u4.2, u3.1, u3.2, mo_refused)
def fMo_isDot (p1 : Int32) (p2 : Int32) (mo_all : Nat → Int32) : Option (Int32) :=
  (fMo_in p1.toInt64 (0 : Int64) (5 : Int64)).bind fun u1 =>
  if u1 = 0 then
   some (0 : Int32)
  else
   if 0 ≤ (0 : Int32).toInt ∧ (0 : Int32).toInt < 406 then
    (fMo_in p2.toInt64 (0 : Int64) (((mo_all (0 : Int32).toNatClampNeg) - (1 : Int32)).toInt64)).bind fun u4 =>
    if u4 = 0 then
     some (0 : Int32)
    else
     some (1 : Int32)
   else none
def fMo_cellNow (p1 : Int32) (p2 : Int32) (mo_all : Nat → Int32) : Option (Int32 × (Nat → Int32)) :=
  if 0 ≤ p1.toInt ∧ p1.toInt < 406 then
   if 0 ≤ p1.toInt ∧ p1.toInt < 406 then
    some ((mo_all p1.toNatClampNeg), (upd mo_all p1.toNatClampNeg p2))
   else none
  else none
def fMo_dots (p1 : Int32) (p2 : Int32) (p3 : Int32) (mo_all : Nat → Int32) (mo_past : Nat → Int32) (mo_states : Int32) (mo_refused : Nat → Int32) : Option (Int32 × (Nat → Int32) × (Nat → Int32) × Int32 × (Nat → Int32)) :=
  (fMo_isDot p1 p2 mo_all).bind fun u1 =>
  if u1 = 0 then
   (fMo_refuses (-2 : Int32) mo_refused).bind fun u3 =>
   some (u3.1, mo_all, mo_past, mo_states, u3.2)
  else
   (fMo_in p3.toInt64 (0 : Int64) (63 : Int64)).bind fun u4 =>
   if u4 = 0 then
    (fMo_refuses (-2 : Int32) mo_refused).bind fun u8 =>
    some (u8.1, mo_all, mo_past, mo_states, u8.2)
   else
    (fMo_keep mo_all mo_past mo_states).bind fun u6 =>
    (fMo_cellNow (((4 : Int32) + ((32 : Int32) * p1)) + p2) p3 mo_all).bind fun u7 =>
    some (u7.1, u7.2, u6.1, u6.2, mo_refused)
def fMo_canShoot (p1 : Int32) (p2 : Int32) (p3 : Int32) (mo_all : Nat → Int32) : Option (Int32) :=
  if 0 ≤ (0 : Int32).toInt ∧ (0 : Int32).toInt < 406 then
   (fMo_in p1.toInt64 (0 : Int64) (((mo_all (0 : Int32).toNatClampNeg) - (1 : Int32)).toInt64)).bind fun u2 =>
   if u2 = 0 then
    some (-2 : Int32)
   else
    (fMo_in p2.toInt64 (0 : Int64) (2 : Int64)).bind fun u4 =>
    if u4 = 0 then
     some (-2 : Int32)
    else
     (fMo_in p3.toInt64 (-20 : Int64) (20 : Int64)).bind fun u6 =>
     if u6 = 0 then
      some (-2 : Int32)
     else
      (fMo_many mo_all).bind fun u8 =>
      if u8 = (6 : Int32) then
       some (-4 : Int32)
      else
       some (0 : Int32)
  else none
def fMo_shotNow_L18 (b18_1 : Int32) (b18_2 : Int32) (b18_3 : Int32) (b18_4 : Int32) (b18_5 : Int32) : Nat → Int32 → (Nat → Int32) → Option ((Nat → Int32))
  | 0, _, _ => none
  | n + 1, a18_6, c18_mo_all =>
    if (8 : Int32) ≤ a18_6 then
     some c18_mo_all
    else
     if 0 ≤ (0 : Int32).toInt ∧ (0 : Int32).toInt < 406 then
      if ¬ (c18_mo_all (0 : Int32).toNatClampNeg) = 0 then
       if 0 ≤ (((4 : Int32) + ((32 : Int32) * (b18_2 + b18_5))) + ((b18_1 + a18_6) - (b18_1 + a18_6) / (c18_mo_all (0 : Int32).toNatClampNeg) * (c18_mo_all (0 : Int32).toNatClampNeg))).toInt ∧ (((4 : Int32) + ((32 : Int32) * (b18_2 + b18_5))) + ((b18_1 + a18_6) - (b18_1 + a18_6) / (c18_mo_all (0 : Int32).toNatClampNeg) * (c18_mo_all (0 : Int32).toNatClampNeg))).toInt < 406 then
        (fMo_held ((c18_mo_all (((4 : Int32) + ((32 : Int32) * (b18_2 + b18_5))) + ((b18_1 + a18_6) - (b18_1 + a18_6) / (c18_mo_all (0 : Int32).toNatClampNeg) * (c18_mo_all (0 : Int32).toNatClampNeg))).toNatClampNeg) + b18_3)).bind fun u9 =>
        if 0 ≤ ((((196 : Int32) + ((35 : Int32) * b18_4)) + ((8 : Int32) * b18_5)) + a18_6).toInt ∧ ((((196 : Int32) + ((35 : Int32) * b18_4)) + ((8 : Int32) * b18_5)) + a18_6).toInt < 406 then
         fMo_shotNow_L18 b18_1 b18_2 b18_3 b18_4 b18_5 n (a18_6 + (1 : Int32)) (upd c18_mo_all ((((196 : Int32) + ((35 : Int32) * b18_4)) + ((8 : Int32) * b18_5)) + a18_6).toNatClampNeg u9)
        else none
       else none
      else none
     else none
def fMo_shotNow_L9 (b9_1 : Int32) (b9_2 : Int32) (b9_3 : Int32) (b9_4 : Int32) : Nat → Int32 → (Nat → Int32) → Option ((Nat → Int32))
  | 0, _, _ => none
  | n + 1, a9_5, c9_mo_all =>
    if (4 : Int32) ≤ a9_5 then
     some c9_mo_all
    else
     (fMo_shotNow_L18 b9_1 b9_2 b9_3 b9_4 a9_5 FU (0 : Int32) c9_mo_all).bind fun u4 =>
     fMo_shotNow_L9 b9_1 b9_2 b9_3 b9_4 n (a9_5 + (1 : Int32)) u4
def fMo_shotNow (p1 : Int32) (p2 : Int32) (p3 : Int32) (mo_all : Nat → Int32) : Option (Int32 × (Nat → Int32)) :=
  (fMo_many mo_all).bind fun u1 =>
  (fMo_shotNow_L9 p1 p2 p3 u1 FU (0 : Int32) mo_all).bind fun u2 =>
  if 0 ≤ (((196 : Int32) + ((35 : Int32) * u1)) + (32 : Int32)).toInt ∧ (((196 : Int32) + ((35 : Int32) * u1)) + (32 : Int32)).toInt < 406 then
   if 0 ≤ ((((196 : Int32) + ((35 : Int32) * u1)) + (32 : Int32)) + (1 : Int32)).toInt ∧ ((((196 : Int32) + ((35 : Int32) * u1)) + (32 : Int32)) + (1 : Int32)).toInt < 406 then
    if 0 ≤ (0 : Int32).toInt ∧ (0 : Int32).toInt < 406 then
     if 0 ≤ ((((196 : Int32) + ((35 : Int32) * u1)) + (32 : Int32)) + (2 : Int32)).toInt ∧ ((((196 : Int32) + ((35 : Int32) * u1)) + (32 : Int32)) + (2 : Int32)).toInt < 406 then
      if 0 ≤ (3 : Int32).toInt ∧ (3 : Int32).toInt < 406 then
       if 0 ≤ (3 : Int32).toInt ∧ (3 : Int32).toInt < 406 then
        some (u1, (upd (upd (upd (upd u2 (((196 : Int32) + ((35 : Int32) * u1)) + (32 : Int32)).toNatClampNeg p1) ((((196 : Int32) + ((35 : Int32) * u1)) + (32 : Int32)) + (1 : Int32)).toNatClampNeg p2) ((((196 : Int32) + ((35 : Int32) * u1)) + (32 : Int32)) + (2 : Int32)).toNatClampNeg ((upd (upd u2 (((196 : Int32) + ((35 : Int32) * u1)) + (32 : Int32)).toNatClampNeg p1) ((((196 : Int32) + ((35 : Int32) * u1)) + (32 : Int32)) + (1 : Int32)).toNatClampNeg p2) (0 : Int32).toNatClampNeg)) (3 : Int32).toNatClampNeg (((upd (upd (upd u2 (((196 : Int32) + ((35 : Int32) * u1)) + (32 : Int32)).toNatClampNeg p1) ((((196 : Int32) + ((35 : Int32) * u1)) + (32 : Int32)) + (1 : Int32)).toNatClampNeg p2) ((((196 : Int32) + ((35 : Int32) * u1)) + (32 : Int32)) + (2 : Int32)).toNatClampNeg ((upd (upd u2 (((196 : Int32) + ((35 : Int32) * u1)) + (32 : Int32)).toNatClampNeg p1) ((((196 : Int32) + ((35 : Int32) * u1)) + (32 : Int32)) + (1 : Int32)).toNatClampNeg p2) (0 : Int32).toNatClampNeg)) (3 : Int32).toNatClampNeg) + (1 : Int32))))
       else none
      else none
     else none
    else none
   else none
  else none
def fMo_shot (p1 : Int32) (p2 : Int32) (p3 : Int32) (mo_all : Nat → Int32) (mo_past : Nat → Int32) (mo_states : Int32) (mo_refused : Nat → Int32) : Option (Int32 × (Nat → Int32) × (Nat → Int32) × Int32 × (Nat → Int32)) :=
  (fMo_canShoot p1 p2 p3 mo_all).bind fun u1 =>
  if 0 ≤ u1 then
   (fMo_keep mo_all mo_past mo_states).bind fun u3 =>
   (fMo_shotNow p1 p2 p3 mo_all).bind fun u4 =>
   some (u4.1, u4.2, u3.1, u3.2, mo_refused)
  else
   (fMo_refuses u1 mo_refused).bind fun u5 =>
   some (u5.1, mo_all, mo_past, mo_states, u5.2)
def fMo_paint (p1 : Int32) (p2 : Int32) (p3 : Int32) (p4 : Int32) (mo_all : Nat → Int32) (mo_past : Nat → Int32) (mo_states : Int32) (mo_refused : Nat → Int32) : Option (Int32 × (Nat → Int32) × (Nat → Int32) × Int32 × (Nat → Int32)) :=
  (fMo_isPicture p1 mo_all).bind fun u1 =>
  if u1 = 0 then
   (fMo_refuses (-2 : Int32) mo_refused).bind fun u3 =>
   some (u3.1, mo_all, mo_past, mo_states, u3.2)
  else
   (fMo_isCell p2 p3).bind fun u4 =>
   if u4 = 0 then
    (fMo_refuses (-2 : Int32) mo_refused).bind fun u6 =>
    some (u6.1, mo_all, mo_past, mo_states, u6.2)
   else
    (fMo_in p4.toInt64 (0 : Int64) (63 : Int64)).bind fun u7 =>
    if u7 = 0 then
     (fMo_refuses (-2 : Int32) mo_refused).bind fun u11 =>
     some (u11.1, mo_all, mo_past, mo_states, u11.2)
    else
     (fMo_keep mo_all mo_past mo_states).bind fun u9 =>
     (fMo_cellNow ((((196 : Int32) + ((35 : Int32) * p1)) + ((8 : Int32) * p2)) + p3) p4 mo_all).bind fun u10 =>
     some (u10.1, u10.2, u9.1, u9.2, mo_refused)
def fMo_dropNow_L9 : Nat → Int32 → (Nat → Int32) → Option ((Nat → Int32))
  | 0, _, _ => none
  | n + 1, a9_2, c9_mo_all =>
    (fMo_many c9_mo_all).bind fun u3 =>
    if ((196 : Int32) + ((35 : Int32) * (u3 - (1 : Int32)))) ≤ a9_2 then
     some c9_mo_all
    else
     if 0 ≤ (a9_2 + (35 : Int32)).toInt ∧ (a9_2 + (35 : Int32)).toInt < 406 then
      if 0 ≤ a9_2.toInt ∧ a9_2.toInt < 406 then
       fMo_dropNow_L9 n (a9_2 + (1 : Int32)) (upd c9_mo_all a9_2.toNatClampNeg (c9_mo_all (a9_2 + (35 : Int32)).toNatClampNeg))
      else none
     else none
def fMo_dropNow (p1 : Int32) (mo_all : Nat → Int32) : Option (Int32 × (Nat → Int32)) :=
  (some ((196 : Int32) + ((35 : Int32) * p1))).bind fun (t1 : Int32) =>
  (fMo_dropNow_L9 FU t1 mo_all).bind fun u2 =>
  if 0 ≤ (3 : Int32).toInt ∧ (3 : Int32).toInt < 406 then
   if 0 ≤ (3 : Int32).toInt ∧ (3 : Int32).toInt < 406 then
    (fMo_many (upd u2 (3 : Int32).toNatClampNeg ((u2 (3 : Int32).toNatClampNeg) - (1 : Int32)))).bind fun u9 =>
    some (u9, (upd u2 (3 : Int32).toNatClampNeg ((u2 (3 : Int32).toNatClampNeg) - (1 : Int32))))
   else none
  else none
def fMo_drops (p1 : Int32) (mo_all : Nat → Int32) (mo_past : Nat → Int32) (mo_states : Int32) (mo_refused : Nat → Int32) : Option (Int32 × (Nat → Int32) × (Nat → Int32) × Int32 × (Nat → Int32)) :=
  (fMo_isPicture p1 mo_all).bind fun u1 =>
  if u1 = 0 then
   (fMo_refuses (-2 : Int32) mo_refused).bind fun u5 =>
   some (u5.1, mo_all, mo_past, mo_states, u5.2)
  else
   (fMo_keep mo_all mo_past mo_states).bind fun u3 =>
   (fMo_dropNow p1 mo_all).bind fun u4 =>
   some (u4.1, u4.2, u3.1, u3.2, mo_refused)
def fMo_isSetting (p0 : Int32) (p1 : Int32) : Option (Int32) :=
  if p0 = 0 then
   (fMo_in p1.toInt64 (1 : Int64) (126 : Int64)).bind fun u5 =>
   if u5 = 0 then
    if p0 = (1 : Int32) then
     (fMo_in p1.toInt64 (0 : Int64) (63 : Int64)).bind fun u8 =>
     if u8 = 0 then
      some (0 : Int32)
     else
      some (1 : Int32)
    else
     some (0 : Int32)
   else
    some (1 : Int32)
  else
   if p0 = (1 : Int32) then
    (fMo_in p1.toInt64 (0 : Int64) (63 : Int64)).bind fun u3 =>
    if u3 = 0 then
     some (0 : Int32)
    else
     some (1 : Int32)
   else
    some (0 : Int32)
def fMo_sets (p1 : Int32) (p2 : Int32) (mo_all : Nat → Int32) (mo_past : Nat → Int32) (mo_states : Int32) (mo_refused : Nat → Int32) : Option (Int32 × (Nat → Int32) × (Nat → Int32) × Int32 × (Nat → Int32)) :=
  (fMo_isSetting p1 p2).bind fun u1 =>
  if u1 = 0 then
   (fMo_refuses (-2 : Int32) mo_refused).bind fun u5 =>
   some (u5.1, mo_all, mo_past, mo_states, u5.2)
  else
   (fMo_keep mo_all mo_past mo_states).bind fun u3 =>
   (fMo_cellNow ((1 : Int32) + p1) p2 mo_all).bind fun u4 =>
   some (u4.1, u4.2, u3.1, u3.2, mo_refused)
def fMo_value (p1 : Int32) (p2 : Int32) (p3 : Int32) (mo_all : Nat → Int32) (mo_refused : Nat → Int32) : Option (Int32 × (Nat → Int32)) :=
  if p1 = (-1 : Int32) then
   (fMo_isDot p2 p3 mo_all).bind fun u9 =>
   if u9 = 0 then
    (fMo_refuses (-2 : Int32) mo_refused).bind fun u11 =>
    some (u11.1, u11.2)
   else
    if 0 ≤ (((4 : Int32) + ((32 : Int32) * p2)) + p3).toInt ∧ (((4 : Int32) + ((32 : Int32) * p2)) + p3).toInt < 406 then
     some ((mo_all (((4 : Int32) + ((32 : Int32) * p2)) + p3).toNatClampNeg), mo_refused)
    else none
  else
   (fMo_isPicture p1 mo_all).bind fun u2 =>
   if u2 = 0 then
    (fMo_refuses (-2 : Int32) mo_refused).bind fun u4 =>
    some (u4.1, u4.2)
   else
    (fMo_isCell p2 p3).bind fun u5 =>
    if u5 = 0 then
     (fMo_refuses (-2 : Int32) mo_refused).bind fun u7 =>
     some (u7.1, u7.2)
    else
     (fMo_at p1 p2 p3 mo_all).bind fun u8 =>
     some (u8, mo_refused)
def fMo_pair (p1 : Int32) (p2 : Int32) (p3 : Int32) (p4 : Int32) (p5 : Int32) (mo_all : Nat → Int32) : Option (Int32) :=
  (fMo_at p1 p2 p3 mo_all).bind fun u1 =>
  (fMo_at p1 (p2 + p4) (p3 + p5) mo_all).bind fun u2 =>
  (fMo_abs (u1 - u2)).bind fun u3 =>
  (fMo_at p1 p2 p3 mo_all).bind fun u4 =>
  (fMo_at p1 (p2 - p4) (p3 - p5) mo_all).bind fun u5 =>
  (fMo_abs (u4 - u5)).bind fun u6 =>
  some (u3 + u6)
def fMo_changeNow (p1 : Int32) (p2 : Int32) (p3 : Int32) (mo_all : Nat → Int32) : Option (Int32) :=
  (fMo_pair p1 p2 p3 (0 : Int32) (1 : Int32) mo_all).bind fun u1 =>
  (fMo_pair p1 p2 p3 (1 : Int32) (0 : Int32) mo_all).bind fun u2 =>
  ((if u1 ≤ u2 then
    some u1
   else
    some u2 : Option (Int32))).bind fun u4 =>
  (fMo_pair p1 p2 p3 (1 : Int32) (1 : Int32) mo_all).bind fun u5 =>
  ((if u4 ≤ u5 then
    some u4
   else
    some u5 : Option (Int32))).bind fun u7 =>
  (fMo_pair p1 p2 p3 (1 : Int32) (-1 : Int32) mo_all).bind fun u8 =>
  if u7 ≤ u8 then
   some u7
  else
   some u8
def fMo_isInner (p0 : Int32) (p1 : Int32) : Option (Int32) :=
  (fMo_in p0.toInt64 (1 : Int64) (2 : Int64)).bind fun u1 =>
  if u1 = 0 then
   some (0 : Int32)
  else
   (fMo_in p1.toInt64 (1 : Int64) (6 : Int64)).bind fun u3 =>
   if u3 = 0 then
    some (0 : Int32)
   else
    some (1 : Int32)
def fMo_change (p1 : Int32) (p2 : Int32) (p3 : Int32) (mo_all : Nat → Int32) (mo_refused : Nat → Int32) : Option (Int32 × (Nat → Int32)) :=
  (fMo_isPicture p1 mo_all).bind fun u1 =>
  if u1 = 0 then
   (fMo_refuses (-2 : Int32) mo_refused).bind fun u3 =>
   some (u3.1, u3.2)
  else
   (fMo_isInner p2 p3).bind fun u4 =>
   if u4 = 0 then
    (fMo_refuses (-2 : Int32) mo_refused).bind fun u6 =>
    some (u6.1, u6.2)
   else
    (fMo_changeNow p1 p2 p3 mo_all).bind fun u7 =>
    some (u7, mo_refused)
def fMo_isCorner (p1 : Int32) (p2 : Int32) (p3 : Int32) (mo_all : Nat → Int32) : Option (Int32) :=
  (fMo_isInner p2 p3).bind fun u1 =>
  if u1 = 0 then
   some (0 : Int32)
  else
   (fMo_changeNow p1 p2 p3 mo_all).bind fun u3 =>
   if 0 ≤ (1 : Int32).toInt ∧ (1 : Int32).toInt < 406 then
    if u3 < (mo_all (1 : Int32).toNatClampNeg) then
     some (0 : Int32)
    else
     some (1 : Int32)
   else none
def fMo_cornersNow_L12 (b12_1 : Int32) (b12_3 : Int32) (d12_mo_all : Nat → Int32) : Nat → Int32 → Int32 → Option (Int32)
  | 0, _, _ => none
  | n + 1, a12_2, a12_4 =>
    if (6 : Int32) < a12_4 then
     some a12_2
    else
     (fMo_isCorner b12_1 b12_3 a12_4 d12_mo_all).bind fun u5 =>
     if u5 = 0 then
      fMo_cornersNow_L12 b12_1 b12_3 d12_mo_all n (a12_2 ||| (0 : Int32)) (a12_4 + (1 : Int32))
     else
      (some (a12_2 ||| ((1 : Int32) <<< (((((6 : Int32) * (b12_3 - (1 : Int32))) + a12_4) - (1 : Int32)) &&& 31)))).bind fun (t7 : Int32) =>
      fMo_cornersNow_L12 b12_1 b12_3 d12_mo_all n t7 (a12_4 + (1 : Int32))
def fMo_cornersNow_L4 (b4_1 : Int32) (d4_mo_all : Nat → Int32) : Nat → Int32 → Int32 → Option (Int32)
  | 0, _, _ => none
  | n + 1, a4_2, a4_3 =>
    if (2 : Int32) < a4_3 then
     some a4_2
    else
     (fMo_cornersNow_L12 b4_1 a4_3 d4_mo_all FU a4_2 (1 : Int32)).bind fun u3 =>
     fMo_cornersNow_L4 b4_1 d4_mo_all n u3 (a4_3 + (1 : Int32))
def fMo_cornersNow (p1 : Int32) (mo_all : Nat → Int32) : Option (Int32) :=
  (fMo_cornersNow_L4 p1 mo_all FU (0 : Int32) (1 : Int32)).bind fun u1 =>
  some u1
def fMo_corners (p1 : Int32) (mo_all : Nat → Int32) (mo_refused : Nat → Int32) : Option (Int32 × (Nat → Int32)) :=
  (fMo_isPicture p1 mo_all).bind fun u1 =>
  if u1 = 0 then
   (fMo_refuses (-2 : Int32) mo_refused).bind fun u3 =>
   some (u3.1, u3.2)
  else
   (fMo_cornersNow p1 mo_all).bind fun u4 =>
   some (u4, mo_refused)
def fMo_laysCorners_L2 (d2_mo_all : Nat → Int32) : Nat → Int32 → (Nat → Int32) → Option ((Nat → Int32))
  | 0, _, _ => none
  | n + 1, a2_1, c2_mo_corner =>
    (fMo_many d2_mo_all).bind fun u2 =>
    if u2 ≤ a2_1 then
     some c2_mo_corner
    else
     (fMo_cornersNow a2_1 d2_mo_all).bind fun u4 =>
     if 0 ≤ a2_1.toInt ∧ a2_1.toInt < 6 then
      fMo_laysCorners_L2 d2_mo_all n (a2_1 + (1 : Int32)) (upd c2_mo_corner a2_1.toNatClampNeg u4)
     else none
def fMo_laysCorners (mo_all : Nat → Int32) (mo_corner : Nat → Int32) : Option ((Nat → Int32)) :=
  (fMo_laysCorners_L2 mo_all FU (0 : Int32) mo_corner).bind fun u1 =>
  some u1
def fMo_hasCorner (p1 : Int32) (p2 : Int32) (p3 : Int32) (mo_corner : Nat → Int32) : Option (Int32) :=
  (fMo_isInner p2 p3).bind fun u1 =>
  if u1 = 0 then
   some (0 : Int32)
  else
   if 0 ≤ p1.toInt ∧ p1.toInt < 6 then
    if (((mo_corner p1.toNatClampNeg) >>> (((((6 : Int32) * (p2 - (1 : Int32))) + p3) - (1 : Int32)) &&& 31)) &&& (1 : Int32)) = (1 : Int32) then
     some (1 : Int32)
    else
     some (0 : Int32)
   else none
def fMo_votesNow_L15 (b15_1 : Int32) (b15_2 : Int32) (b15_3 : Int32) (b15_4 : Int32) (b15_6 : Int32) (d15_mo_all : Nat → Int32) (d15_mo_corner : Nat → Int32) : Nat → Int32 → Int32 → Option (Int32)
  | 0, _, _ => none
  | n + 1, a15_5, a15_7 =>
    if (6 : Int32) < a15_7 then
     some a15_5
    else
     (fMo_hasCorner b15_1 b15_6 a15_7 d15_mo_corner).bind fun u5 =>
     ((if u5 = 0 then
       some (0 : Int32)
      else
       (fMo_hasCorner b15_2 (b15_6 - b15_3) (a15_7 - b15_4) d15_mo_corner).bind fun u8 =>
       if u8 = 0 then
        some (0 : Int32)
       else
        some (1 : Int32) : Option (Int32))).bind fun u7 =>
     if u7 = 0 then
      fMo_votesNow_L15 b15_1 b15_2 b15_3 b15_4 b15_6 d15_mo_all d15_mo_corner n (a15_5 + (0 : Int32)) (a15_7 + (1 : Int32))
     else
      (fMo_at b15_1 b15_6 a15_7 d15_mo_all).bind fun u11 =>
      (fMo_at b15_2 (b15_6 - b15_3) (a15_7 - b15_4) d15_mo_all).bind fun u12 =>
      (fMo_abs (u11 - u12)).bind fun u13 =>
      if 0 ≤ (2 : Int32).toInt ∧ (2 : Int32).toInt < 406 then
       if (d15_mo_all (2 : Int32).toNatClampNeg) < u13 then
        fMo_votesNow_L15 b15_1 b15_2 b15_3 b15_4 b15_6 d15_mo_all d15_mo_corner n (a15_5 + (0 : Int32)) (a15_7 + (1 : Int32))
       else
        fMo_votesNow_L15 b15_1 b15_2 b15_3 b15_4 b15_6 d15_mo_all d15_mo_corner n (a15_5 + (1 : Int32)) (a15_7 + (1 : Int32))
      else none
def fMo_votesNow_L6 (b6_1 : Int32) (b6_2 : Int32) (b6_3 : Int32) (b6_4 : Int32) (d6_mo_all : Nat → Int32) (d6_mo_corner : Nat → Int32) : Nat → Int32 → Int32 → Option (Int32)
  | 0, _, _ => none
  | n + 1, a6_5, a6_6 =>
    if (2 : Int32) < a6_6 then
     some a6_5
    else
     (fMo_votesNow_L15 b6_1 b6_2 b6_3 b6_4 a6_6 d6_mo_all d6_mo_corner FU a6_5 (1 : Int32)).bind fun u3 =>
     fMo_votesNow_L6 b6_1 b6_2 b6_3 b6_4 d6_mo_all d6_mo_corner n u3 (a6_6 + (1 : Int32))
def fMo_votesNow (p1 : Int32) (p2 : Int32) (p3 : Int32) (p4 : Int32) (mo_all : Nat → Int32) (mo_corner : Nat → Int32) : Option (Int32) :=
  (fMo_votesNow_L6 p1 p2 p3 p4 mo_all mo_corner FU (0 : Int32) (1 : Int32)).bind fun u1 =>
  some u1
def fMo_areTwo (p1 : Int32) (p2 : Int32) (mo_all : Nat → Int32) : Option (Int32) :=
  (fMo_isPicture p1 mo_all).bind fun u1 =>
  if u1 = 0 then
   some (0 : Int32)
  else
   (fMo_isPicture p2 mo_all).bind fun u3 =>
   if u3 = 0 then
    some (0 : Int32)
   else
    if p1 = p2 then
     some (0 : Int32)
    else
     some (1 : Int32)
def fMo_votes (p1 : Int32) (p2 : Int32) (p3 : Int32) (p4 : Int32) (mo_all : Nat → Int32) (mo_refused : Nat → Int32) (mo_corner : Nat → Int32) : Option (Int32 × (Nat → Int32) × (Nat → Int32)) :=
  (fMo_areTwo p1 p2 mo_all).bind fun u1 =>
  if u1 = 0 then
   (fMo_refuses (-2 : Int32) mo_refused).bind fun u3 =>
   some (u3.1, u3.2, mo_corner)
  else
   (fMo_in p3.toInt64 (-1 : Int64) (1 : Int64)).bind fun u4 =>
   if u4 = 0 then
    (fMo_refuses (-2 : Int32) mo_refused).bind fun u6 =>
    some (u6.1, u6.2, mo_corner)
   else
    (fMo_in p4.toInt64 (1 : Int64) (5 : Int64)).bind fun u7 =>
    if u7 = 0 then
     (fMo_refuses (-2 : Int32) mo_refused).bind fun u11 =>
     some (u11.1, u11.2, mo_corner)
    else
     (fMo_laysCorners mo_all mo_corner).bind fun u9 =>
     (fMo_votesNow p1 p2 p3 p4 mo_all u9).bind fun u10 =>
     some (u10, mo_refused, u9)
def fMo_laysLink_L51 (b51_1 : Int32) (b51_2 : Int32) (b51_3 : Int32) (b51_4 : Int32) (b51_5 : Int32) (d51_mo_all : Nat → Int32) (d51_mo_corner : Nat → Int32) : Nat → Int32 → (Nat → Int32) → (Nat → Int32) → (Nat → Int32) → Option ((Nat → Int32) × (Nat → Int32) × (Nat → Int32))
  | 0, _, _, _, _ => none
  | n + 1, a51_6, c51_mo_linkVotes, c51_mo_linkE, c51_mo_linkF =>
    if b51_4 < a51_6 then
     some (c51_mo_linkVotes, c51_mo_linkE, c51_mo_linkF)
    else
     (fMo_abs a51_6).bind fun u10 =>
     ((if u10 = b51_4 then
       (fMo_votesNow b51_1 b51_2 a51_6 b51_5 d51_mo_all d51_mo_corner).bind fun u13 =>
       some u13
      else
       some (0 : Int32) : Option (Int32))).bind fun u12 =>
     if 0 ≤ b51_3.toInt ∧ b51_3.toInt < 36 then
      if u12 ≤ (c51_mo_linkVotes b51_3.toNatClampNeg) then
       fMo_laysLink_L51 b51_1 b51_2 b51_3 b51_4 b51_5 d51_mo_all d51_mo_corner n (a51_6 + (1 : Int32)) c51_mo_linkVotes c51_mo_linkE c51_mo_linkF
      else
       if 0 ≤ b51_3.toInt ∧ b51_3.toInt < 36 then
        if 0 ≤ b51_3.toInt ∧ b51_3.toInt < 36 then
         if 0 ≤ b51_3.toInt ∧ b51_3.toInt < 36 then
          fMo_laysLink_L51 b51_1 b51_2 b51_3 b51_4 b51_5 d51_mo_all d51_mo_corner n (a51_6 + (1 : Int32)) (upd c51_mo_linkVotes b51_3.toNatClampNeg u12) (upd c51_mo_linkE b51_3.toNatClampNeg a51_6) (upd c51_mo_linkF b51_3.toNatClampNeg b51_5)
         else none
        else none
       else none
     else none
def fMo_laysLink_L40 (b40_1 : Int32) (b40_2 : Int32) (b40_3 : Int32) (b40_4 : Int32) (d40_mo_all : Nat → Int32) (d40_mo_corner : Nat → Int32) : Nat → Int32 → (Nat → Int32) → (Nat → Int32) → (Nat → Int32) → Option ((Nat → Int32) × (Nat → Int32) × (Nat → Int32))
  | 0, _, _, _, _ => none
  | n + 1, a40_5, c40_mo_linkVotes, c40_mo_linkE, c40_mo_linkF =>
    if (5 : Int32) < a40_5 then
     some (c40_mo_linkVotes, c40_mo_linkE, c40_mo_linkF)
    else
     (fMo_laysLink_L51 b40_1 b40_2 b40_3 b40_4 a40_5 d40_mo_all d40_mo_corner FU (-b40_4) c40_mo_linkVotes c40_mo_linkE c40_mo_linkF).bind fun u8 =>
     fMo_laysLink_L40 b40_1 b40_2 b40_3 b40_4 d40_mo_all d40_mo_corner n (a40_5 + (1 : Int32)) u8.1 u8.2.1 u8.2.2
def fMo_laysLink_L31 (b31_1 : Int32) (b31_2 : Int32) (b31_3 : Int32) (d31_mo_all : Nat → Int32) (d31_mo_corner : Nat → Int32) : Nat → Int32 → (Nat → Int32) → (Nat → Int32) → (Nat → Int32) → Option ((Nat → Int32) × (Nat → Int32) × (Nat → Int32))
  | 0, _, _, _, _ => none
  | n + 1, a31_4, c31_mo_linkVotes, c31_mo_linkE, c31_mo_linkF =>
    if (1 : Int32) < a31_4 then
     some (c31_mo_linkVotes, c31_mo_linkE, c31_mo_linkF)
    else
     (fMo_laysLink_L40 b31_1 b31_2 b31_3 a31_4 d31_mo_all d31_mo_corner FU (1 : Int32) c31_mo_linkVotes c31_mo_linkE c31_mo_linkF).bind fun u6 =>
     fMo_laysLink_L31 b31_1 b31_2 b31_3 d31_mo_all d31_mo_corner n (a31_4 + (1 : Int32)) u6.1 u6.2.1 u6.2.2
def fMo_laysLink (p1 : Int32) (p2 : Int32) (mo_all : Nat → Int32) (mo_corner : Nat → Int32) (mo_linkVotes : Nat → Int32) (mo_linkE : Nat → Int32) (mo_linkF : Nat → Int32) : Option ((Nat → Int32) × (Nat → Int32) × (Nat → Int32)) :=
  if 0 ≤ (((6 : Int32) * p1) + p2).toInt ∧ (((6 : Int32) * p1) + p2).toInt < 36 then
   if 0 ≤ (((6 : Int32) * p1) + p2).toInt ∧ (((6 : Int32) * p1) + p2).toInt < 36 then
    if 0 ≤ (((6 : Int32) * p1) + p2).toInt ∧ (((6 : Int32) * p1) + p2).toInt < 36 then
     (fMo_laysLink_L31 p1 p2 (((6 : Int32) * p1) + p2) mo_all mo_corner FU (0 : Int32) (upd mo_linkVotes (((6 : Int32) * p1) + p2).toNatClampNeg (0 : Int32)) (upd mo_linkE (((6 : Int32) * p1) + p2).toNatClampNeg (0 : Int32)) (upd mo_linkF (((6 : Int32) * p1) + p2).toNatClampNeg (0 : Int32))).bind fun u4 =>
     some (u4.1, u4.2.1, u4.2.2)
    else none
   else none
  else none
def fMo_laysLinks_L16 (b16_1 : Int32) (d16_mo_all : Nat → Int32) (d16_mo_corner : Nat → Int32) : Nat → Int32 → (Nat → Int32) → (Nat → Int32) → (Nat → Int32) → Option ((Nat → Int32) × (Nat → Int32) × (Nat → Int32))
  | 0, _, _, _, _ => none
  | n + 1, a16_2, c16_mo_linkVotes, c16_mo_linkE, c16_mo_linkF =>
    (fMo_many d16_mo_all).bind fun u6 =>
    if u6 ≤ a16_2 then
     some (c16_mo_linkVotes, c16_mo_linkE, c16_mo_linkF)
    else
     if b16_1 = a16_2 then
      fMo_laysLinks_L16 b16_1 d16_mo_all d16_mo_corner n (a16_2 + (1 : Int32)) c16_mo_linkVotes c16_mo_linkE c16_mo_linkF
     else
      (fMo_laysLink b16_1 a16_2 d16_mo_all d16_mo_corner c16_mo_linkVotes c16_mo_linkE c16_mo_linkF).bind fun u9 =>
      fMo_laysLinks_L16 b16_1 d16_mo_all d16_mo_corner n (a16_2 + (1 : Int32)) u9.1 u9.2.1 u9.2.2
def fMo_laysLinks_L6 (d6_mo_all : Nat → Int32) (d6_mo_corner : Nat → Int32) : Nat → Int32 → (Nat → Int32) → (Nat → Int32) → (Nat → Int32) → Option ((Nat → Int32) × (Nat → Int32) × (Nat → Int32))
  | 0, _, _, _, _ => none
  | n + 1, a6_1, c6_mo_linkVotes, c6_mo_linkE, c6_mo_linkF =>
    (fMo_many d6_mo_all).bind fun u3 =>
    if u3 ≤ a6_1 then
     some (c6_mo_linkVotes, c6_mo_linkE, c6_mo_linkF)
    else
     (fMo_laysLinks_L16 a6_1 d6_mo_all d6_mo_corner FU (0 : Int32) c6_mo_linkVotes c6_mo_linkE c6_mo_linkF).bind fun u5 =>
     fMo_laysLinks_L6 d6_mo_all d6_mo_corner n (a6_1 + (1 : Int32)) u5.1 u5.2.1 u5.2.2
def fMo_laysLinks (mo_all : Nat → Int32) (mo_corner : Nat → Int32) (mo_linkVotes : Nat → Int32) (mo_linkE : Nat → Int32) (mo_linkF : Nat → Int32) : Option ((Nat → Int32) × (Nat → Int32) × (Nat → Int32) × (Nat → Int32)) :=
  (fMo_laysCorners mo_all mo_corner).bind fun u1 =>
  (fMo_laysLinks_L6 mo_all u1 FU (0 : Int32) mo_linkVotes mo_linkE mo_linkF).bind fun u2 =>
  some (u1, u2.1, u2.2.1, u2.2.2)
def fMo_link (p1 : Int32) (p2 : Int32) (p3 : Int32) (mo_all : Nat → Int32) (mo_refused : Nat → Int32) (mo_corner : Nat → Int32) (mo_linkVotes : Nat → Int32) (mo_linkE : Nat → Int32) (mo_linkF : Nat → Int32) : Option (Int32 × (Nat → Int32) × (Nat → Int32) × (Nat → Int32) × (Nat → Int32) × (Nat → Int32)) :=
  (fMo_areTwo p1 p2 mo_all).bind fun u1 =>
  if u1 = 0 then
   (fMo_refuses (-2 : Int32) mo_refused).bind fun u3 =>
   some (u3.1, u3.2, mo_corner, mo_linkVotes, mo_linkE, mo_linkF)
  else
   (fMo_in p3.toInt64 (0 : Int64) (2 : Int64)).bind fun u4 =>
   if u4 = 0 then
    (fMo_refuses (-2 : Int32) mo_refused).bind fun u15 =>
    some (u15.1, u15.2, mo_corner, mo_linkVotes, mo_linkE, mo_linkF)
   else
    (fMo_laysCorners mo_all mo_corner).bind fun u6 =>
    (fMo_laysLink p1 p2 mo_all u6 mo_linkVotes mo_linkE mo_linkF).bind fun u7 =>
    if p3 = 0 then
     if 0 ≤ (((6 : Int32) * p1) + p2).toInt ∧ (((6 : Int32) * p1) + p2).toInt < 36 then
      some ((u7.1 (((6 : Int32) * p1) + p2).toNatClampNeg), mo_refused, u6, u7.1, u7.2.1, u7.2.2)
     else none
    else
     if 0 ≤ (((6 : Int32) * p1) + p2).toInt ∧ (((6 : Int32) * p1) + p2).toInt < 36 then
      if (u7.1 (((6 : Int32) * p1) + p2).toNatClampNeg) = 0 then
       some ((-1 : Int32), mo_refused, u6, u7.1, u7.2.1, u7.2.2)
      else
       if p3 = (1 : Int32) then
        if 0 ≤ (((6 : Int32) * p1) + p2).toInt ∧ (((6 : Int32) * p1) + p2).toInt < 36 then
         some (((u7.2.1 (((6 : Int32) * p1) + p2).toNatClampNeg) + (1 : Int32)), mo_refused, u6, u7.1, u7.2.1, u7.2.2)
        else none
       else
        if 0 ≤ (((6 : Int32) * p1) + p2).toInt ∧ (((6 : Int32) * p1) + p2).toInt < 36 then
         some ((u7.2.2 (((6 : Int32) * p1) + p2).toNatClampNeg), mo_refused, u6, u7.1, u7.2.1, u7.2.2)
        else none
     else none
def fMo_wayFrom_L5 (b5_2 : Int32) (d5_mo_follower : Nat → Int32) : Nat → Int32 → Int32 → Option (Int32 × Int32)
  | 0, _, _ => none
  | n + 1, a5_3, a5_4 =>
    if a5_4 = b5_2 then
     some (a5_3, a5_4)
    else
     if 0 ≤ a5_4.toInt ∧ a5_4.toInt < 6 then
      if (d5_mo_follower a5_4.toNatClampNeg) = (-1 : Int32) then
       some (a5_3, a5_4)
      else
       if 0 ≤ a5_4.toInt ∧ a5_4.toInt < 6 then
        (some (d5_mo_follower a5_4.toNatClampNeg)).bind fun (t6 : Int32) =>
        fMo_wayFrom_L5 b5_2 d5_mo_follower n (a5_3 + (1 : Int32)) t6
       else none
     else none
def fMo_wayFrom (p1 : Int32) (p2 : Int32) (mo_follower : Nat → Int32) : Option (Int32) :=
  (fMo_wayFrom_L5 p2 mo_follower FU (1 : Int32) p1).bind fun u1 =>
  if u1.2 = p2 then
   some u1.1
  else
   some (0 : Int32)
def fMo_mayTake (p1 : Int32) (p2 : Int32) (mo_all : Nat → Int32) (mo_follower : Nat → Int32) (mo_ahead : Nat → Int32) : Option (Int32) :=
  if 0 ≤ p1.toInt ∧ p1.toInt < 6 then
   if (mo_follower p1.toNatClampNeg) = (-1 : Int32) then
    if 0 ≤ p2.toInt ∧ p2.toInt < 6 then
     if (mo_ahead p2.toNatClampNeg) = (-1 : Int32) then
      (fMo_wayFrom p2 p1 mo_follower).bind fun u5 =>
      if u5 = 0 then
       some (1 : Int32)
      else
       (fMo_many mo_all).bind fun u7 =>
       if u5 = u7 then
        some (1 : Int32)
       else
        some (0 : Int32)
     else
      some (0 : Int32)
    else none
   else
    some (0 : Int32)
  else none
def fMo_laysChain_L6 : Nat → Int32 → (Nat → Int32) → (Nat → Int32) → Option ((Nat → Int32) × (Nat → Int32))
  | 0, _, _, _ => none
  | n + 1, a6_1, c6_mo_follower, c6_mo_ahead =>
    if (6 : Int32) ≤ a6_1 then
     some (c6_mo_follower, c6_mo_ahead)
    else
     if 0 ≤ a6_1.toInt ∧ a6_1.toInt < 6 then
      if 0 ≤ a6_1.toInt ∧ a6_1.toInt < 6 then
       fMo_laysChain_L6 n (a6_1 + (1 : Int32)) (upd c6_mo_follower a6_1.toNatClampNeg (-1 : Int32)) (upd c6_mo_ahead a6_1.toNatClampNeg (-1 : Int32))
      else none
     else none
def fMo_laysChain_L51 (b51_1 : Int32) (b51_2 : Int32) (d51_mo_all : Nat → Int32) (d51_mo_linkVotes : Nat → Int32) : Nat → Int32 → (Nat → Int32) → (Nat → Int32) → Option ((Nat → Int32) × (Nat → Int32))
  | 0, _, _, _ => none
  | n + 1, a51_3, c51_mo_follower, c51_mo_ahead =>
    (fMo_many d51_mo_all).bind fun u12 =>
    if u12 ≤ a51_3 then
     some (c51_mo_follower, c51_mo_ahead)
    else
     if b51_2 = a51_3 then
      fMo_laysChain_L51 b51_1 b51_2 d51_mo_all d51_mo_linkVotes n (a51_3 + (1 : Int32)) c51_mo_follower c51_mo_ahead
     else
      if 0 ≤ (((6 : Int32) * b51_2) + a51_3).toInt ∧ (((6 : Int32) * b51_2) + a51_3).toInt < 36 then
       if (d51_mo_linkVotes (((6 : Int32) * b51_2) + a51_3).toNatClampNeg) = b51_1 then
        (fMo_mayTake b51_2 a51_3 d51_mo_all c51_mo_follower c51_mo_ahead).bind fun u17 =>
        if u17 = 0 then
         fMo_laysChain_L51 b51_1 b51_2 d51_mo_all d51_mo_linkVotes n (a51_3 + (1 : Int32)) c51_mo_follower c51_mo_ahead
        else
         if 0 ≤ b51_2.toInt ∧ b51_2.toInt < 6 then
          if 0 ≤ a51_3.toInt ∧ a51_3.toInt < 6 then
           fMo_laysChain_L51 b51_1 b51_2 d51_mo_all d51_mo_linkVotes n (a51_3 + (1 : Int32)) (upd c51_mo_follower b51_2.toNatClampNeg a51_3) (upd c51_mo_ahead a51_3.toNatClampNeg b51_2)
          else none
         else none
       else
        fMo_laysChain_L51 b51_1 b51_2 d51_mo_all d51_mo_linkVotes n (a51_3 + (1 : Int32)) c51_mo_follower c51_mo_ahead
      else none
def fMo_laysChain_L41 (b41_1 : Int32) (d41_mo_all : Nat → Int32) (d41_mo_linkVotes : Nat → Int32) : Nat → Int32 → (Nat → Int32) → (Nat → Int32) → Option ((Nat → Int32) × (Nat → Int32))
  | 0, _, _, _ => none
  | n + 1, a41_2, c41_mo_follower, c41_mo_ahead =>
    (fMo_many d41_mo_all).bind fun u9 =>
    if u9 ≤ a41_2 then
     some (c41_mo_follower, c41_mo_ahead)
    else
     (fMo_laysChain_L51 b41_1 a41_2 d41_mo_all d41_mo_linkVotes FU (0 : Int32) c41_mo_follower c41_mo_ahead).bind fun u11 =>
     fMo_laysChain_L41 b41_1 d41_mo_all d41_mo_linkVotes n (a41_2 + (1 : Int32)) u11.1 u11.2
def fMo_laysChain_L35 (d35_mo_all : Nat → Int32) (d35_mo_linkVotes : Nat → Int32) : Nat → Int32 → (Nat → Int32) → (Nat → Int32) → Option ((Nat → Int32) × (Nat → Int32))
  | 0, _, _, _ => none
  | n + 1, a35_1, c35_mo_follower, c35_mo_ahead =>
    if a35_1 ≤ 0 then
     some (c35_mo_follower, c35_mo_ahead)
    else
     (fMo_laysChain_L41 a35_1 d35_mo_all d35_mo_linkVotes FU (0 : Int32) c35_mo_follower c35_mo_ahead).bind fun u8 =>
     fMo_laysChain_L35 d35_mo_all d35_mo_linkVotes n (a35_1 + (-1 : Int32)) u8.1 u8.2
def fMo_laysChain (mo_all : Nat → Int32) (mo_corner : Nat → Int32) (mo_linkVotes : Nat → Int32) (mo_linkE : Nat → Int32) (mo_linkF : Nat → Int32) (mo_follower : Nat → Int32) (mo_ahead : Nat → Int32) : Option ((Nat → Int32) × (Nat → Int32) × (Nat → Int32) × (Nat → Int32) × (Nat → Int32) × (Nat → Int32)) :=
  (fMo_laysLinks mo_all mo_corner mo_linkVotes mo_linkE mo_linkF).bind fun u1 =>
  (fMo_laysChain_L6 FU (0 : Int32) mo_follower mo_ahead).bind fun u2 =>
  (fMo_laysChain_L35 mo_all u1.2.1 FU (12 : Int32) u2.1 u2.2).bind fun u6 =>
  some (u1.1, u1.2.1, u1.2.2.1, u1.2.2.2, u6.1, u6.2)
def fMo_eOf (p1 : Int32) (mo_linkE : Nat → Int32) (mo_follower : Nat → Int32) : Option (Int32) :=
  if 0 ≤ p1.toInt ∧ p1.toInt < 6 then
   if 0 ≤ (((6 : Int32) * p1) + (mo_follower p1.toNatClampNeg)).toInt ∧ (((6 : Int32) * p1) + (mo_follower p1.toNatClampNeg)).toInt < 36 then
    some (mo_linkE (((6 : Int32) * p1) + (mo_follower p1.toNatClampNeg)).toNatClampNeg)
   else none
  else none
def fMo_fOf (p1 : Int32) (mo_linkF : Nat → Int32) (mo_follower : Nat → Int32) : Option (Int32) :=
  if 0 ≤ p1.toInt ∧ p1.toInt < 6 then
   if 0 ≤ (((6 : Int32) * p1) + (mo_follower p1.toNatClampNeg)).toInt ∧ (((6 : Int32) * p1) + (mo_follower p1.toNatClampNeg)).toInt < 36 then
    some (mo_linkF (((6 : Int32) * p1) + (mo_follower p1.toNatClampNeg)).toNatClampNeg)
   else none
  else none
def fMo_chain (p1 : Int32) (p2 : Int32) (mo_all : Nat → Int32) (mo_refused : Nat → Int32) (mo_corner : Nat → Int32) (mo_linkVotes : Nat → Int32) (mo_linkE : Nat → Int32) (mo_linkF : Nat → Int32) (mo_follower : Nat → Int32) (mo_ahead : Nat → Int32) : Option (Int32 × (Nat → Int32) × (Nat → Int32) × (Nat → Int32) × (Nat → Int32) × (Nat → Int32) × (Nat → Int32) × (Nat → Int32)) :=
  (fMo_isPicture p1 mo_all).bind fun u1 =>
  if u1 = 0 then
   (fMo_refuses (-2 : Int32) mo_refused).bind fun u3 =>
   some (u3.1, u3.2, mo_corner, mo_linkVotes, mo_linkE, mo_linkF, mo_follower, mo_ahead)
  else
   (fMo_in p2.toInt64 (0 : Int64) (1 : Int64)).bind fun u4 =>
   if u4 = 0 then
    (fMo_refuses (-2 : Int32) mo_refused).bind fun u10 =>
    some (u10.1, u10.2, mo_corner, mo_linkVotes, mo_linkE, mo_linkF, mo_follower, mo_ahead)
   else
    (fMo_laysChain mo_all mo_corner mo_linkVotes mo_linkE mo_linkF mo_follower mo_ahead).bind fun u6 =>
    if p2 = 0 then
     if 0 ≤ p1.toInt ∧ p1.toInt < 6 then
      some ((u6.2.2.2.2.1 p1.toNatClampNeg), mo_refused, u6.1, u6.2.1, u6.2.2.1, u6.2.2.2.1, u6.2.2.2.2.1, u6.2.2.2.2.2)
     else none
    else
     if 0 ≤ p1.toInt ∧ p1.toInt < 6 then
      some ((u6.2.2.2.2.2 p1.toNatClampNeg), mo_refused, u6.1, u6.2.1, u6.2.2.1, u6.2.2.2.1, u6.2.2.2.2.1, u6.2.2.2.2.2)
     else none
def fMo_taken_L4 (d4_mo_all : Nat → Int32) (d4_mo_follower : Nat → Int32) : Nat → Int32 → Int32 → Option (Int32)
  | 0, _, _ => none
  | n + 1, a4_1, a4_2 =>
    (fMo_many d4_mo_all).bind fun u2 =>
    if u2 ≤ a4_2 then
     some a4_1
    else
     if 0 ≤ a4_2.toInt ∧ a4_2.toInt < 6 then
      if (d4_mo_follower a4_2.toNatClampNeg) = (-1 : Int32) then
       fMo_taken_L4 d4_mo_all d4_mo_follower n (a4_1 + (0 : Int32)) (a4_2 + (1 : Int32))
      else
       fMo_taken_L4 d4_mo_all d4_mo_follower n (a4_1 + (1 : Int32)) (a4_2 + (1 : Int32))
     else none
def fMo_taken (mo_all : Nat → Int32) (mo_follower : Nat → Int32) : Option (Int32) :=
  (fMo_taken_L4 mo_all mo_follower FU (0 : Int32) (0 : Int32)).bind fun u1 =>
  some u1
def fMo_isClosed (mo_all : Nat → Int32) (mo_follower : Nat → Int32) : Option (Int32) :=
  (fMo_many mo_all).bind fun u1 =>
  if u1 < (2 : Int32) then
   some (0 : Int32)
  else
   (fMo_taken mo_all mo_follower).bind fun u3 =>
   (fMo_many mo_all).bind fun u4 =>
   if u3 = u4 then
    some (1 : Int32)
   else
    some (0 : Int32)
def fMo_sumOf_L4 (b4_1 : Int32) (d4_mo_all : Nat → Int32) (d4_mo_linkE : Nat → Int32) (d4_mo_linkF : Nat → Int32) (d4_mo_follower : Nat → Int32) : Nat → Int32 → Int32 → Option (Int32)
  | 0, _, _ => none
  | n + 1, a4_2, a4_3 =>
    (fMo_many d4_mo_all).bind fun u2 =>
    if u2 ≤ a4_3 then
     some a4_2
    else
     if 0 ≤ a4_3.toInt ∧ a4_3.toInt < 6 then
      if (d4_mo_follower a4_3.toNatClampNeg) = (-1 : Int32) then
       fMo_sumOf_L4 b4_1 d4_mo_all d4_mo_linkE d4_mo_linkF d4_mo_follower n (a4_2 + (0 : Int32)) (a4_3 + (1 : Int32))
      else
       if b4_1 = 0 then
        (fMo_fOf a4_3 d4_mo_linkF d4_mo_follower).bind fun u7 =>
        fMo_sumOf_L4 b4_1 d4_mo_all d4_mo_linkE d4_mo_linkF d4_mo_follower n (a4_2 + u7) (a4_3 + (1 : Int32))
       else
        (fMo_eOf a4_3 d4_mo_linkE d4_mo_follower).bind fun u8 =>
        fMo_sumOf_L4 b4_1 d4_mo_all d4_mo_linkE d4_mo_linkF d4_mo_follower n (a4_2 + u8) (a4_3 + (1 : Int32))
     else none
def fMo_sumOf (p1 : Int32) (mo_all : Nat → Int32) (mo_linkE : Nat → Int32) (mo_linkF : Nat → Int32) (mo_follower : Nat → Int32) : Option (Int32) :=
  (fMo_sumOf_L4 p1 mo_all mo_linkE mo_linkF mo_follower FU (0 : Int32) (0 : Int32)).bind fun u1 =>
  some u1
def fMo_isRight (p1 : Int32) (mo_all : Nat → Int32) (mo_linkE : Nat → Int32) (mo_linkF : Nat → Int32) (mo_follower : Nat → Int32) : Option (Int32) :=
  if 0 ≤ p1.toInt ∧ p1.toInt < 6 then
   (fMo_shotOf p1 (2 : Int32) mo_all).bind fun u2 =>
   (fMo_shotOf (mo_follower p1.toNatClampNeg) (2 : Int32) mo_all).bind fun u3 =>
   if u2 = u3 then
    (fMo_shotOf p1 (0 : Int32) mo_all).bind fun u5 =>
    (fMo_fOf p1 mo_linkF mo_follower).bind fun u6 =>
    if ¬ u2 = 0 then
     (fMo_shotOf (mo_follower p1.toNatClampNeg) (0 : Int32) mo_all).bind fun u8 =>
     if ((u5 + u6) - (u5 + u6) / u2 * u2) = u8 then
      (fMo_shotOf p1 (1 : Int32) mo_all).bind fun u10 =>
      (fMo_eOf p1 mo_linkE mo_follower).bind fun u11 =>
      (fMo_shotOf (mo_follower p1.toNatClampNeg) (1 : Int32) mo_all).bind fun u12 =>
      if (u10 + u11) = u12 then
       some (1 : Int32)
      else
       some (0 : Int32)
     else
      some (0 : Int32)
    else none
   else
    some (0 : Int32)
  else none
def fMo_allNow_L7 (d7_mo_all : Nat → Int32) (d7_mo_linkE : Nat → Int32) (d7_mo_linkF : Nat → Int32) (d7_mo_follower : Nat → Int32) (d7_mo_ahead : Nat → Int32) : Nat → Int32 → Int32 → Int32 → Option (Int32 × Int32)
  | 0, _, _, _ => none
  | n + 1, a7_2, a7_3, a7_4 =>
    (fMo_many d7_mo_all).bind fun u2 =>
    if u2 ≤ a7_4 then
     some (a7_2, a7_3)
    else
     if 0 ≤ a7_4.toInt ∧ a7_4.toInt < 6 then
      ((if (d7_mo_follower a7_4.toNatClampNeg) = (-1 : Int32) then
        some (0 : Int32)
       else
        (fMo_isRight a7_4 d7_mo_all d7_mo_linkE d7_mo_linkF d7_mo_follower).bind fun u7 =>
        if u7 = 0 then
         some (0 : Int32)
        else
         some (1 : Int32) : Option (Int32))).bind fun u6 =>
      if 0 ≤ a7_4.toInt ∧ a7_4.toInt < 6 then
       if (d7_mo_ahead a7_4.toNatClampNeg) = (-1 : Int32) then
        fMo_allNow_L7 d7_mo_all d7_mo_linkE d7_mo_linkF d7_mo_follower d7_mo_ahead n (a7_2 + u6) (a7_3 + (1 : Int32)) (a7_4 + (1 : Int32))
       else
        fMo_allNow_L7 d7_mo_all d7_mo_linkE d7_mo_linkF d7_mo_follower d7_mo_ahead n (a7_2 + u6) (a7_3 + (0 : Int32)) (a7_4 + (1 : Int32))
      else none
     else none
def fMo_allNow (p1 : Int32) (mo_all : Nat → Int32) (mo_linkE : Nat → Int32) (mo_linkF : Nat → Int32) (mo_follower : Nat → Int32) (mo_ahead : Nat → Int32) : Option (Int32) :=
  (fMo_allNow_L7 mo_all mo_linkE mo_linkF mo_follower mo_ahead FU (0 : Int32) (0 : Int32) (0 : Int32)).bind fun u1 =>
  if p1 = (0 : Int32) then
   (fMo_taken mo_all mo_follower).bind fun u12 =>
   some u12
  else
   if p1 = (1 : Int32) then
    (fMo_isClosed mo_all mo_follower).bind fun u14 =>
    if u14 = 0 then
     some (0 : Int32)
    else
     some (1 : Int32)
   else
    if p1 = (2 : Int32) then
     (fMo_sumOf (0 : Int32) mo_all mo_linkE mo_linkF mo_follower).bind fun u17 =>
     some u17
    else
     if p1 = (3 : Int32) then
      (fMo_sumOf (1 : Int32) mo_all mo_linkE mo_linkF mo_follower).bind fun u19 =>
      some (u19 + (6 : Int32))
     else
      if p1 = (4 : Int32) then
       some u1.1
      else
       some u1.2
def fMo_all (p1 : Int32) (mo_all : Nat → Int32) (mo_refused : Nat → Int32) (mo_corner : Nat → Int32) (mo_linkVotes : Nat → Int32) (mo_linkE : Nat → Int32) (mo_linkF : Nat → Int32) (mo_follower : Nat → Int32) (mo_ahead : Nat → Int32) : Option (Int32 × (Nat → Int32) × (Nat → Int32) × (Nat → Int32) × (Nat → Int32) × (Nat → Int32) × (Nat → Int32) × (Nat → Int32)) :=
  (fMo_in p1.toInt64 (0 : Int64) (5 : Int64)).bind fun u1 =>
  if u1 = 0 then
   (fMo_refuses (-2 : Int32) mo_refused).bind fun u5 =>
   some (u5.1, u5.2, mo_corner, mo_linkVotes, mo_linkE, mo_linkF, mo_follower, mo_ahead)
  else
   (fMo_laysChain mo_all mo_corner mo_linkVotes mo_linkE mo_linkF mo_follower mo_ahead).bind fun u3 =>
   (fMo_allNow p1 mo_all u3.2.2.1 u3.2.2.2.1 u3.2.2.2.2.1 u3.2.2.2.2.2).bind fun u4 =>
   some (u4, mo_refused, u3.1, u3.2.1, u3.2.2.1, u3.2.2.2.1, u3.2.2.2.2.1, u3.2.2.2.2.2)
def fMo_floorBy (p0 : Int32) (p1 : Int32) : Option (Int32) :=
  if ¬ p1 = 0 then
   if ¬ p1 = 0 then
    if 0 ≤ (p0 - p0 / p1 * p1) then
     some (p0 / p1)
    else
     some ((p0 / p1) - (1 : Int32))
   else none
  else none
def fMo_place_L54 (b54_1 : Int32) (d54_mo_linkE : Nat → Int32) (d54_mo_linkF : Nat → Int32) (d54_mo_follower : Nat → Int32) : Nat → Int32 → Int32 → Int32 → Int32 → Option (Int32 × Int32 × Int32)
  | 0, _, _, _, _ => none
  | n + 1, a54_3, a54_4, a54_5, a54_6 =>
    if a54_6 = b54_1 then
     some (a54_3, a54_4, a54_5)
    else
     (fMo_fOf a54_6 d54_mo_linkF d54_mo_follower).bind fun u11 =>
     (fMo_eOf a54_6 d54_mo_linkE d54_mo_follower).bind fun u12 =>
     if 0 ≤ a54_6.toInt ∧ a54_6.toInt < 6 then
      (some (d54_mo_follower a54_6.toNatClampNeg)).bind fun (t14 : Int32) =>
      fMo_place_L54 b54_1 d54_mo_linkE d54_mo_linkF d54_mo_follower n (a54_3 + u11) (a54_4 + u12) (a54_5 + (1 : Int32)) t14
     else none
def fMo_place (p1 : Int32) (p2 : Int32) (mo_all : Nat → Int32) (mo_refused : Nat → Int32) (mo_corner : Nat → Int32) (mo_linkVotes : Nat → Int32) (mo_linkE : Nat → Int32) (mo_linkF : Nat → Int32) (mo_follower : Nat → Int32) (mo_ahead : Nat → Int32) : Option (Int32 × (Nat → Int32) × (Nat → Int32) × (Nat → Int32) × (Nat → Int32) × (Nat → Int32) × (Nat → Int32) × (Nat → Int32)) :=
  (fMo_isPicture p1 mo_all).bind fun u1 =>
  if u1 = 0 then
   (fMo_refuses (-2 : Int32) mo_refused).bind fun u3 =>
   some (u3.1, u3.2, mo_corner, mo_linkVotes, mo_linkE, mo_linkF, mo_follower, mo_ahead)
  else
   (fMo_in p2.toInt64 (0 : Int64) (1 : Int64)).bind fun u4 =>
   if u4 = 0 then
    (fMo_refuses (-2 : Int32) mo_refused).bind fun u21 =>
    some (u21.1, u21.2, mo_corner, mo_linkVotes, mo_linkE, mo_linkF, mo_follower, mo_ahead)
   else
    (fMo_laysChain mo_all mo_corner mo_linkVotes mo_linkE mo_linkF mo_follower mo_ahead).bind fun u6 =>
    (fMo_isClosed mo_all u6.2.2.2.2.1).bind fun u7 =>
    if u7 = 0 then
     (fMo_refuses (-3 : Int32) mo_refused).bind fun u20 =>
     some (u20.1, u20.2, u6.1, u6.2.1, u6.2.2.1, u6.2.2.2.1, u6.2.2.2.2.1, u6.2.2.2.2.2)
    else
     (fMo_place_L54 p1 u6.2.2.1 u6.2.2.2.1 u6.2.2.2.2.1 FU (0 : Int32) (0 : Int32) (0 : Int32) (0 : Int32)).bind fun u9 =>
     (fMo_sumOf (1 : Int32) mo_all u6.2.2.1 u6.2.2.2.1 u6.2.2.2.2.1).bind fun u15 =>
     (fMo_many mo_all).bind fun u16 =>
     (fMo_many mo_all).bind fun u17 =>
     (fMo_floorBy ((((2 : Int32) * u15) * u9.2.2) + u16) ((2 : Int32) * u17)).bind fun u18 =>
     if p2 = 0 then
      some (u9.1, mo_refused, u6.1, u6.2.1, u6.2.2.1, u6.2.2.2.1, u6.2.2.2.2.1, u6.2.2.2.2.2)
     else
      some (((u9.2.1 - u18) + (20 : Int32)), mo_refused, u6.1, u6.2.1, u6.2.2.1, u6.2.2.2.1, u6.2.2.2.2.1, u6.2.2.2.2.2)
def fMo_differs (p1 : Int32) (p2 : Int32) (p3 : Int32) (mo_all : Nat → Int32) (mo_linkE : Nat → Int32) (mo_linkF : Nat → Int32) (mo_follower : Nat → Int32) : Option (Int32) :=
  (fMo_at p1 p2 p3 mo_all).bind fun u1 =>
  if 0 ≤ p1.toInt ∧ p1.toInt < 6 then
   (fMo_eOf p1 mo_linkE mo_follower).bind fun u3 =>
   (fMo_fOf p1 mo_linkF mo_follower).bind fun u4 =>
   (fMo_at (mo_follower p1.toNatClampNeg) (p2 - u3) (p3 - u4) mo_all).bind fun u5 =>
   some (u1 - u5)
  else none
def fMo_hasRow (p1 : Int32) (p2 : Int32) (mo_linkE : Nat → Int32) (mo_follower : Nat → Int32) : Option (Int32) :=
  (fMo_in p2.toInt64 (0 : Int64) (3 : Int64)).bind fun u1 =>
  if u1 = 0 then
   some (0 : Int32)
  else
   (fMo_eOf p1 mo_linkE mo_follower).bind fun u3 =>
   (fMo_in ((p2 - u3).toInt64) (0 : Int64) (3 : Int64)).bind fun u4 =>
   if u4 = 0 then
    some (0 : Int32)
   else
    some (1 : Int32)
def fMo_isNear (p0 : Int32) (p1 : Int32) : Option (Int32) :=
  if (1 : Int32) < (p0 - p1) then
   some (0 : Int32)
  else
   if (1 : Int32) < (p1 - p0) then
    some (0 : Int32)
   else
    some (1 : Int32)
def fMo_laysSeam_L47 (b47_1 : Int32) (b47_3 : Int32) (b47_4 : Int32) (d47_mo_linkE : Nat → Int32) (d47_mo_follower : Nat → Int32) (d47_mo_least : Nat → Int32) : Nat → Int32 → Int32 → Int32 → Option (Int32)
  | 0, _, _, _ => none
  | n + 1, a47_5, a47_6, a47_7 =>
    if (8 : Int32) ≤ a47_7 then
     some a47_5
    else
     (fMo_hasRow b47_1 (b47_3 + (1 : Int32)) d47_mo_linkE d47_mo_follower).bind fun u11 =>
     if u11 = 0 then
      some a47_5
     else
      (fMo_isNear b47_4 a47_7).bind fun u13 =>
      if u13 = 0 then
       fMo_laysSeam_L47 b47_1 b47_3 b47_4 d47_mo_linkE d47_mo_follower d47_mo_least n a47_5 a47_6 (a47_7 + (1 : Int32))
      else
       if a47_6 = 0 then
        if 0 ≤ (((8 : Int32) * (b47_3 + (1 : Int32))) + a47_7).toInt ∧ (((8 : Int32) * (b47_3 + (1 : Int32))) + a47_7).toInt < 32 then
         (some (d47_mo_least (((8 : Int32) * (b47_3 + (1 : Int32))) + a47_7).toNatClampNeg)).bind fun (t17 : Int32) =>
         fMo_laysSeam_L47 b47_1 b47_3 b47_4 d47_mo_linkE d47_mo_follower d47_mo_least n t17 (1 : Int32) (a47_7 + (1 : Int32))
        else none
       else
        if 0 ≤ (((8 : Int32) * (b47_3 + (1 : Int32))) + a47_7).toInt ∧ (((8 : Int32) * (b47_3 + (1 : Int32))) + a47_7).toInt < 32 then
         if a47_5 ≤ (d47_mo_least (((8 : Int32) * (b47_3 + (1 : Int32))) + a47_7).toNatClampNeg) then
          fMo_laysSeam_L47 b47_1 b47_3 b47_4 d47_mo_linkE d47_mo_follower d47_mo_least n a47_5 a47_6 (a47_7 + (1 : Int32))
         else
          if 0 ≤ (((8 : Int32) * (b47_3 + (1 : Int32))) + a47_7).toInt ∧ (((8 : Int32) * (b47_3 + (1 : Int32))) + a47_7).toInt < 32 then
           (some (d47_mo_least (((8 : Int32) * (b47_3 + (1 : Int32))) + a47_7).toNatClampNeg)).bind fun (t21 : Int32) =>
           fMo_laysSeam_L47 b47_1 b47_3 b47_4 d47_mo_linkE d47_mo_follower d47_mo_least n t21 (1 : Int32) (a47_7 + (1 : Int32))
          else none
        else none
def fMo_laysSeam_L22 (b22_1 : Int32) (b22_2 : Int32) (b22_3 : Int32) (d22_mo_all : Nat → Int32) (d22_mo_linkE : Nat → Int32) (d22_mo_linkF : Nat → Int32) (d22_mo_follower : Nat → Int32) : Nat → Int32 → (Nat → Int32) → Option ((Nat → Int32))
  | 0, _, _ => none
  | n + 1, a22_4, c22_mo_least =>
    if (8 : Int32) ≤ a22_4 then
     some c22_mo_least
    else
     (fMo_hasRow b22_1 b22_3 d22_mo_linkE d22_mo_follower).bind fun u7 =>
     if u7 = 0 then
      some c22_mo_least
     else
      (fMo_laysSeam_L47 b22_1 b22_3 a22_4 d22_mo_linkE d22_mo_follower c22_mo_least FU (0 : Int32) (0 : Int32) b22_2).bind fun u9 =>
      (fMo_differs b22_1 b22_3 a22_4 d22_mo_all d22_mo_linkE d22_mo_linkF d22_mo_follower).bind fun u22 =>
      (fMo_abs u22).bind fun u23 =>
      if 0 ≤ (((8 : Int32) * b22_3) + a22_4).toInt ∧ (((8 : Int32) * b22_3) + a22_4).toInt < 32 then
       fMo_laysSeam_L22 b22_1 b22_2 b22_3 d22_mo_all d22_mo_linkE d22_mo_linkF d22_mo_follower n (a22_4 + (1 : Int32)) (upd c22_mo_least (((8 : Int32) * b22_3) + a22_4).toNatClampNeg (u23 + u9))
      else none
def fMo_laysSeam_L8 (b8_1 : Int32) (b8_2 : Int32) (d8_mo_all : Nat → Int32) (d8_mo_linkE : Nat → Int32) (d8_mo_linkF : Nat → Int32) (d8_mo_follower : Nat → Int32) : Nat → Int32 → (Nat → Int32) → (Nat → Int32) → Option ((Nat → Int32) × (Nat → Int32))
  | 0, _, _, _ => none
  | n + 1, a8_3, c8_mo_least, c8_mo_seam =>
    if a8_3 < 0 then
     some (c8_mo_least, c8_mo_seam)
    else
     if 0 ≤ a8_3.toInt ∧ a8_3.toInt < 4 then
      (fMo_laysSeam_L22 b8_1 b8_2 a8_3 d8_mo_all d8_mo_linkE d8_mo_linkF d8_mo_follower FU b8_2 c8_mo_least).bind fun u5 =>
      fMo_laysSeam_L8 b8_1 b8_2 d8_mo_all d8_mo_linkE d8_mo_linkF d8_mo_follower n (a8_3 + (-1 : Int32)) u5 (upd c8_mo_seam a8_3.toNatClampNeg (-1 : Int32))
     else none
def fMo_laysSeam_L172 (b172_1 : Int32) (b172_3 : Int32) (d172_mo_linkE : Nat → Int32) (d172_mo_follower : Nat → Int32) (d172_mo_least : Nat → Int32) : Nat → Int32 → (Nat → Int32) → Option ((Nat → Int32))
  | 0, _, _ => none
  | n + 1, a172_4, c172_mo_seam =>
    if (8 : Int32) ≤ a172_4 then
     some c172_mo_seam
    else
     (fMo_hasRow b172_1 b172_3 d172_mo_linkE d172_mo_follower).bind fun u29 =>
     if u29 = 0 then
      some c172_mo_seam
     else
      ((if b172_3 = 0 then
        some (1 : Int32)
       else
        if 0 ≤ (b172_3 - (1 : Int32)).toInt ∧ (b172_3 - (1 : Int32)).toInt < 4 then
         if (c172_mo_seam (b172_3 - (1 : Int32)).toNatClampNeg) = (-1 : Int32) then
          some (1 : Int32)
         else
          if 0 ≤ (b172_3 - (1 : Int32)).toInt ∧ (b172_3 - (1 : Int32)).toInt < 4 then
           (fMo_isNear a172_4 (c172_mo_seam (b172_3 - (1 : Int32)).toNatClampNeg)).bind fun u36 =>
           if u36 = 0 then
            some (0 : Int32)
           else
            some (1 : Int32)
          else none
        else none : Option (Int32))).bind fun u32 =>
      if u32 = 0 then
       fMo_laysSeam_L172 b172_1 b172_3 d172_mo_linkE d172_mo_follower d172_mo_least n (a172_4 + (1 : Int32)) c172_mo_seam
      else
       if 0 ≤ b172_3.toInt ∧ b172_3.toInt < 4 then
        if (c172_mo_seam b172_3.toNatClampNeg) = (-1 : Int32) then
         if 0 ≤ b172_3.toInt ∧ b172_3.toInt < 4 then
          fMo_laysSeam_L172 b172_1 b172_3 d172_mo_linkE d172_mo_follower d172_mo_least n (a172_4 + (1 : Int32)) (upd c172_mo_seam b172_3.toNatClampNeg a172_4)
         else none
        else
         if 0 ≤ (((8 : Int32) * b172_3) + a172_4).toInt ∧ (((8 : Int32) * b172_3) + a172_4).toInt < 32 then
          if 0 ≤ b172_3.toInt ∧ b172_3.toInt < 4 then
           if 0 ≤ (((8 : Int32) * b172_3) + (c172_mo_seam b172_3.toNatClampNeg)).toInt ∧ (((8 : Int32) * b172_3) + (c172_mo_seam b172_3.toNatClampNeg)).toInt < 32 then
            if (d172_mo_least (((8 : Int32) * b172_3) + (c172_mo_seam b172_3.toNatClampNeg)).toNatClampNeg) ≤ (d172_mo_least (((8 : Int32) * b172_3) + a172_4).toNatClampNeg) then
             fMo_laysSeam_L172 b172_1 b172_3 d172_mo_linkE d172_mo_follower d172_mo_least n (a172_4 + (1 : Int32)) c172_mo_seam
            else
             if 0 ≤ b172_3.toInt ∧ b172_3.toInt < 4 then
              fMo_laysSeam_L172 b172_1 b172_3 d172_mo_linkE d172_mo_follower d172_mo_least n (a172_4 + (1 : Int32)) (upd c172_mo_seam b172_3.toNatClampNeg a172_4)
             else none
           else none
          else none
         else none
       else none
def fMo_laysSeam_L164 (b164_1 : Int32) (b164_2 : Int32) (d164_mo_linkE : Nat → Int32) (d164_mo_follower : Nat → Int32) (d164_mo_least : Nat → Int32) : Nat → Int32 → (Nat → Int32) → Option ((Nat → Int32))
  | 0, _, _ => none
  | n + 1, a164_3, c164_mo_seam =>
    if (4 : Int32) ≤ a164_3 then
     some c164_mo_seam
    else
     (fMo_laysSeam_L172 b164_1 a164_3 d164_mo_linkE d164_mo_follower d164_mo_least FU b164_2 c164_mo_seam).bind fun u27 =>
     fMo_laysSeam_L164 b164_1 b164_2 d164_mo_linkE d164_mo_follower d164_mo_least n (a164_3 + (1 : Int32)) u27
def fMo_laysSeam (p1 : Int32) (mo_all : Nat → Int32) (mo_linkE : Nat → Int32) (mo_linkF : Nat → Int32) (mo_follower : Nat → Int32) (mo_least : Nat → Int32) (mo_seam : Nat → Int32) : Option ((Nat → Int32) × (Nat → Int32)) :=
  (fMo_fOf p1 mo_linkF mo_follower).bind fun u1 =>
  (fMo_laysSeam_L8 p1 u1 mo_all mo_linkE mo_linkF mo_follower FU (3 : Int32) mo_least mo_seam).bind fun u2 =>
  (fMo_laysSeam_L164 p1 u1 mo_linkE mo_follower u2.1 FU (0 : Int32) u2.2).bind fun u25 =>
  some (u2.1, u25)
def fMo_seamSum_L9 (b9_1 : Int32) (d9_mo_all : Nat → Int32) (d9_mo_linkE : Nat → Int32) (d9_mo_linkF : Nat → Int32) (d9_mo_follower : Nat → Int32) (d9_mo_seam : Nat → Int32) : Nat → Int32 → Int32 → Option (Int32)
  | 0, _, _ => none
  | n + 1, a9_2, a9_3 =>
    if (4 : Int32) ≤ a9_3 then
     some a9_2
    else
     if 0 ≤ a9_3.toInt ∧ a9_3.toInt < 4 then
      if (d9_mo_seam a9_3.toNatClampNeg) = (-1 : Int32) then
       fMo_seamSum_L9 b9_1 d9_mo_all d9_mo_linkE d9_mo_linkF d9_mo_follower d9_mo_seam n (a9_2 + (0 : Int32)) (a9_3 + (1 : Int32))
      else
       if 0 ≤ a9_3.toInt ∧ a9_3.toInt < 4 then
        (fMo_differs b9_1 a9_3 (d9_mo_seam a9_3.toNatClampNeg) d9_mo_all d9_mo_linkE d9_mo_linkF d9_mo_follower).bind fun u7 =>
        (fMo_abs u7).bind fun u8 =>
        fMo_seamSum_L9 b9_1 d9_mo_all d9_mo_linkE d9_mo_linkF d9_mo_follower d9_mo_seam n (a9_2 + u8) (a9_3 + (1 : Int32))
       else none
     else none
def fMo_seamSum (p1 : Int32) (mo_all : Nat → Int32) (mo_linkE : Nat → Int32) (mo_linkF : Nat → Int32) (mo_follower : Nat → Int32) (mo_least : Nat → Int32) (mo_seam : Nat → Int32) : Option (Int32 × (Nat → Int32) × (Nat → Int32)) :=
  (fMo_laysSeam p1 mo_all mo_linkE mo_linkF mo_follower mo_least mo_seam).bind fun u1 =>
  (fMo_seamSum_L9 p1 mo_all mo_linkE mo_linkF mo_follower u1.2 FU (0 : Int32) (0 : Int32)).bind fun u2 =>
  some (u2, u1.1, u1.2)
def fMo_cells (p1 : Int32) (mo_linkE : Nat → Int32) (mo_linkF : Nat → Int32) (mo_follower : Nat → Int32) : Option (Int32) :=
  (fMo_eOf p1 mo_linkE mo_follower).bind fun u1 =>
  (fMo_abs u1).bind fun u2 =>
  (fMo_fOf p1 mo_linkF mo_follower).bind fun u3 =>
  some (((4 : Int32) - u2) * ((8 : Int32) - u3))
def fMo_differences_L18 (b18_1 : Int32) (b18_2 : Int32) (b18_4 : Int32) (d18_mo_all : Nat → Int32) (d18_mo_linkE : Nat → Int32) (d18_mo_linkF : Nat → Int32) (d18_mo_follower : Nat → Int32) : Nat → Int32 → Int32 → Option (Int32)
  | 0, _, _ => none
  | n + 1, a18_3, a18_5 =>
    if (8 : Int32) ≤ a18_5 then
     some a18_3
    else
     (fMo_hasRow b18_1 b18_4 d18_mo_linkE d18_mo_follower).bind fun u6 =>
     if u6 = 0 then
      some a18_3
     else
      if b18_2 = 0 then
       (fMo_differs b18_1 b18_4 a18_5 d18_mo_all d18_mo_linkE d18_mo_linkF d18_mo_follower).bind fun u9 =>
       (fMo_abs u9).bind fun u10 =>
       fMo_differences_L18 b18_1 b18_2 b18_4 d18_mo_all d18_mo_linkE d18_mo_linkF d18_mo_follower n (a18_3 + u10) (a18_5 + (1 : Int32))
      else
       (fMo_differs b18_1 b18_4 a18_5 d18_mo_all d18_mo_linkE d18_mo_linkF d18_mo_follower).bind fun u11 =>
       fMo_differences_L18 b18_1 b18_2 b18_4 d18_mo_all d18_mo_linkE d18_mo_linkF d18_mo_follower n (a18_3 + u11) (a18_5 + (1 : Int32))
def fMo_differences_L5 (b5_1 : Int32) (b5_2 : Int32) (d5_mo_all : Nat → Int32) (d5_mo_linkE : Nat → Int32) (d5_mo_linkF : Nat → Int32) (d5_mo_follower : Nat → Int32) : Nat → Int32 → Int32 → Option (Int32)
  | 0, _, _ => none
  | n + 1, a5_3, a5_4 =>
    if (4 : Int32) ≤ a5_4 then
     some a5_3
    else
     (fMo_fOf b5_1 d5_mo_linkF d5_mo_follower).bind fun u3 =>
     (fMo_differences_L18 b5_1 b5_2 a5_4 d5_mo_all d5_mo_linkE d5_mo_linkF d5_mo_follower FU a5_3 u3).bind fun u4 =>
     fMo_differences_L5 b5_1 b5_2 d5_mo_all d5_mo_linkE d5_mo_linkF d5_mo_follower n u4 (a5_4 + (1 : Int32))
def fMo_differences (p1 : Int32) (p2 : Int32) (mo_all : Nat → Int32) (mo_linkE : Nat → Int32) (mo_linkF : Nat → Int32) (mo_follower : Nat → Int32) : Option (Int32) :=
  (fMo_differences_L5 p1 p2 mo_all mo_linkE mo_linkF mo_follower FU (0 : Int32) (0 : Int32)).bind fun u1 =>
  some u1
def fMo_overlap (p1 : Int32) (p2 : Int32) (mo_all : Nat → Int32) (mo_refused : Nat → Int32) (mo_corner : Nat → Int32) (mo_linkVotes : Nat → Int32) (mo_linkE : Nat → Int32) (mo_linkF : Nat → Int32) (mo_follower : Nat → Int32) (mo_ahead : Nat → Int32) (mo_least : Nat → Int32) (mo_seam : Nat → Int32) : Option (Int32 × (Nat → Int32) × (Nat → Int32) × (Nat → Int32) × (Nat → Int32) × (Nat → Int32) × (Nat → Int32) × (Nat → Int32) × (Nat → Int32) × (Nat → Int32)) :=
  (fMo_isPicture p1 mo_all).bind fun u1 =>
  if u1 = 0 then
   (fMo_refuses (-2 : Int32) mo_refused).bind fun u3 =>
   some (u3.1, u3.2, mo_corner, mo_linkVotes, mo_linkE, mo_linkF, mo_follower, mo_ahead, mo_least, mo_seam)
  else
   (fMo_in p2.toInt64 (0 : Int64) (3 : Int64)).bind fun u4 =>
   if u4 = 0 then
    (fMo_refuses (-2 : Int32) mo_refused).bind fun u17 =>
    some (u17.1, u17.2, mo_corner, mo_linkVotes, mo_linkE, mo_linkF, mo_follower, mo_ahead, mo_least, mo_seam)
   else
    (fMo_laysChain mo_all mo_corner mo_linkVotes mo_linkE mo_linkF mo_follower mo_ahead).bind fun u6 =>
    if 0 ≤ p1.toInt ∧ p1.toInt < 6 then
     if (u6.2.2.2.2.1 p1.toNatClampNeg) = (-1 : Int32) then
      (fMo_refuses (-3 : Int32) mo_refused).bind fun u16 =>
      some (u16.1, u16.2, u6.1, u6.2.1, u6.2.2.1, u6.2.2.2.1, u6.2.2.2.2.1, u6.2.2.2.2.2, mo_least, mo_seam)
     else
      if p2 = 0 then
       (fMo_cells p1 u6.2.2.1 u6.2.2.2.1 u6.2.2.2.2.1).bind fun u15 =>
       some (u15, mo_refused, u6.1, u6.2.1, u6.2.2.1, u6.2.2.2.1, u6.2.2.2.2.1, u6.2.2.2.2.2, mo_least, mo_seam)
      else
       if p2 = (1 : Int32) then
        (fMo_differences p1 (0 : Int32) mo_all u6.2.2.1 u6.2.2.2.1 u6.2.2.2.2.1).bind fun u14 =>
        some (u14, mo_refused, u6.1, u6.2.1, u6.2.2.1, u6.2.2.2.1, u6.2.2.2.2.1, u6.2.2.2.2.2, mo_least, mo_seam)
       else
        if p2 = (2 : Int32) then
         (fMo_seamSum p1 mo_all u6.2.2.1 u6.2.2.2.1 u6.2.2.2.2.1 mo_least mo_seam).bind fun u13 =>
         some (u13.1, mo_refused, u6.1, u6.2.1, u6.2.2.1, u6.2.2.2.1, u6.2.2.2.2.1, u6.2.2.2.2.2, u13.2.1, u13.2.2)
        else
         (fMo_differences p1 (1 : Int32) mo_all u6.2.2.1 u6.2.2.2.1 u6.2.2.2.2.1).bind fun u12 =>
         some ((u12 + (2000 : Int32)), mo_refused, u6.1, u6.2.1, u6.2.2.1, u6.2.2.2.1, u6.2.2.2.2.1, u6.2.2.2.2.2, mo_least, mo_seam)
    else none
def fMo_seam (p1 : Int32) (p2 : Int32) (mo_all : Nat → Int32) (mo_refused : Nat → Int32) (mo_corner : Nat → Int32) (mo_linkVotes : Nat → Int32) (mo_linkE : Nat → Int32) (mo_linkF : Nat → Int32) (mo_follower : Nat → Int32) (mo_ahead : Nat → Int32) (mo_least : Nat → Int32) (mo_seam : Nat → Int32) : Option (Int32 × (Nat → Int32) × (Nat → Int32) × (Nat → Int32) × (Nat → Int32) × (Nat → Int32) × (Nat → Int32) × (Nat → Int32) × (Nat → Int32) × (Nat → Int32)) :=
  (fMo_isPicture p1 mo_all).bind fun u1 =>
  if u1 = 0 then
   (fMo_refuses (-2 : Int32) mo_refused).bind fun u3 =>
   some (u3.1, u3.2, mo_corner, mo_linkVotes, mo_linkE, mo_linkF, mo_follower, mo_ahead, mo_least, mo_seam)
  else
   (fMo_in p2.toInt64 (0 : Int64) (3 : Int64)).bind fun u4 =>
   if u4 = 0 then
    (fMo_refuses (-2 : Int32) mo_refused).bind fun u12 =>
    some (u12.1, u12.2, mo_corner, mo_linkVotes, mo_linkE, mo_linkF, mo_follower, mo_ahead, mo_least, mo_seam)
   else
    (fMo_laysChain mo_all mo_corner mo_linkVotes mo_linkE mo_linkF mo_follower mo_ahead).bind fun u6 =>
    if 0 ≤ p1.toInt ∧ p1.toInt < 6 then
     if (u6.2.2.2.2.1 p1.toNatClampNeg) = (-1 : Int32) then
      (fMo_refuses (-3 : Int32) mo_refused).bind fun u11 =>
      some (u11.1, u11.2, u6.1, u6.2.1, u6.2.2.1, u6.2.2.2.1, u6.2.2.2.2.1, u6.2.2.2.2.2, mo_least, mo_seam)
     else
      (fMo_laysSeam p1 mo_all u6.2.2.1 u6.2.2.2.1 u6.2.2.2.2.1 mo_least mo_seam).bind fun u9 =>
      if 0 ≤ p2.toInt ∧ p2.toInt < 4 then
       some ((u9.2 p2.toNatClampNeg), mo_refused, u6.1, u6.2.1, u6.2.2.1, u6.2.2.2.1, u6.2.2.2.2.1, u6.2.2.2.2.2, u9.1, u9.2)
      else none
    else none
def fMo_lowest_L27 : Nat → Int64 → Int64 → Option (Int64)
  | 0, _, _ => none
  | n + 1, a27_1, a27_3 =>
    if (lg_cmp a27_3 (0 : Int64)) = 0 then
     some a27_1
    else
     if ¬ a27_3 = 0 then
      (some (a27_1 - a27_1 / a27_3 * a27_3)).bind fun (t6 : Int64) =>
      fMo_lowest_L27 n a27_3 t6
     else none
def fMo_lowest (mo_above : Int64) (mo_below : Int64) : Option (Int64 × Int64) :=
  ((if 0 ≤ (lg_cmp mo_above (0 : Int64)) then
    some mo_above
   else
    some (-mo_above) : Option (Int64))).bind fun u2 =>
  (fMo_lowest_L27 FU u2 mo_below).bind fun u3 =>
  if ¬ u3 = 0 then
   if ¬ u3 = 0 then
    some ((mo_above / u3), (mo_below / u3))
   else none
  else none
def fMo_share (p1 : Int32) (mo_linkE : Nat → Int32) (mo_linkF : Nat → Int32) (mo_follower : Nat → Int32) : Option (Int64) :=
  (fMo_cells p1 mo_linkE mo_linkF mo_follower).bind fun u1 =>
  if ¬ u1 = 0 then
   some (((5040 : Int32) / u1).toInt64)
  else none
def fMo_shares_L4 (d4_mo_all : Nat → Int32) (d4_mo_linkE : Nat → Int32) (d4_mo_linkF : Nat → Int32) (d4_mo_follower : Nat → Int32) : Nat → Int64 → Int32 → Option (Int64)
  | 0, _, _ => none
  | n + 1, a4_1, a4_3 =>
    (fMo_many d4_mo_all).bind fun u2 =>
    if u2 ≤ a4_3 then
     some a4_1
    else
     (fMo_share a4_3 d4_mo_linkE d4_mo_linkF d4_mo_follower).bind fun u4 =>
     fMo_shares_L4 d4_mo_all d4_mo_linkE d4_mo_linkF d4_mo_follower n (a4_1 + u4) (a4_3 + (1 : Int32))
def fMo_shares (mo_all : Nat → Int32) (mo_linkE : Nat → Int32) (mo_linkF : Nat → Int32) (mo_follower : Nat → Int32) : Option (Int64) :=
  (fMo_shares_L4 mo_all mo_linkE mo_linkF mo_follower FU (0 : Int64) (0 : Int32)).bind fun u1 =>
  some u1
def fMo_leftOver_L4 (d4_mo_all : Nat → Int32) (d4_mo_linkE : Nat → Int32) (d4_mo_linkF : Nat → Int32) (d4_mo_follower : Nat → Int32) : Nat → Int64 → Int32 → Option (Int64)
  | 0, _, _ => none
  | n + 1, a4_1, a4_3 =>
    (fMo_many d4_mo_all).bind fun u2 =>
    if u2 ≤ a4_3 then
     some a4_1
    else
     (fMo_differences a4_3 (1 : Int32) d4_mo_all d4_mo_linkE d4_mo_linkF d4_mo_follower).bind fun u4 =>
     (fMo_share a4_3 d4_mo_linkE d4_mo_linkF d4_mo_follower).bind fun u5 =>
     fMo_leftOver_L4 d4_mo_all d4_mo_linkE d4_mo_linkF d4_mo_follower n (a4_1 + (u4.toInt64 * u5)) (a4_3 + (1 : Int32))
def fMo_leftOver (mo_all : Nat → Int32) (mo_linkE : Nat → Int32) (mo_linkF : Nat → Int32) (mo_follower : Nat → Int32) : Option (Int64) :=
  (fMo_leftOver_L4 mo_all mo_linkE mo_linkF mo_follower FU (0 : Int64) (0 : Int32)).bind fun u1 =>
  some u1
def fMo_laysLevel_L99 (d99_mo_all : Nat → Int32) (d99_mo_linkE : Nat → Int32) (d99_mo_linkF : Nat → Int32) (d99_mo_follower : Nat → Int32) (d99_mo_ahead : Nat → Int32) : Nat → Int32 → Int64 → Option (Int64)
  | 0, _, _ => none
  | n + 1, a99_2, c99_mo_above =>
    if a99_2 = (-1 : Int32) then
     some c99_mo_above
    else
     (fMo_differences a99_2 (1 : Int32) d99_mo_all d99_mo_linkE d99_mo_linkF d99_mo_follower).bind fun u6 =>
     (fMo_share a99_2 d99_mo_linkE d99_mo_linkF d99_mo_follower).bind fun u7 =>
     if 0 ≤ a99_2.toInt ∧ a99_2.toInt < 6 then
      (some (d99_mo_ahead a99_2.toNatClampNeg)).bind fun (t9 : Int32) =>
      fMo_laysLevel_L99 d99_mo_all d99_mo_linkE d99_mo_linkF d99_mo_follower d99_mo_ahead n t9 (c99_mo_above + (u6.toInt64 * u7))
     else none
def fMo_laysLevel_L33 (b33_1 : Int32) (b33_2 : Int64) (b33_4 : Int64) (d33_mo_all : Nat → Int32) (d33_mo_linkE : Nat → Int32) (d33_mo_linkF : Nat → Int32) (d33_mo_follower : Nat → Int32) : Nat → Int32 → Int64 → Option (Int64)
  | 0, _, _ => none
  | n + 1, a33_6, c33_mo_above =>
    if a33_6 = b33_1 then
     some c33_mo_above
    else
     (fMo_differences a33_6 (1 : Int32) d33_mo_all d33_mo_linkE d33_mo_linkF d33_mo_follower).bind fun u15 =>
     (fMo_share a33_6 d33_mo_linkE d33_mo_linkF d33_mo_follower).bind fun u16 =>
     if 0 ≤ a33_6.toInt ∧ a33_6.toInt < 6 then
      (some (d33_mo_follower a33_6.toNatClampNeg)).bind fun (t18 : Int32) =>
      fMo_laysLevel_L33 b33_1 b33_2 b33_4 d33_mo_all d33_mo_linkE d33_mo_linkF d33_mo_follower n t18 (c33_mo_above + (((u15.toInt64 * b33_2) - b33_4) * u16))
     else none
def fMo_laysLevel (p1 : Int32) (mo_all : Nat → Int32) (mo_linkE : Nat → Int32) (mo_linkF : Nat → Int32) (mo_follower : Nat → Int32) (mo_ahead : Nat → Int32) (mo_above : Int64) (mo_below : Int64) : Option (Int64 × Int64) :=
  (fMo_isClosed mo_all mo_follower).bind fun u1 =>
  if u1 = 0 then
   if 0 ≤ p1.toInt ∧ p1.toInt < 6 then
    (fMo_laysLevel_L99 mo_all mo_linkE mo_linkF mo_follower mo_ahead FU (mo_ahead p1.toNatClampNeg) (0 : Int64)).bind fun u4 =>
    (fMo_lowest u4 (5040 : Int64)).bind fun u10 =>
    some (u10.1, u10.2)
   else none
  else
   (fMo_shares mo_all mo_linkE mo_linkF mo_follower).bind fun u11 =>
   (fMo_leftOver mo_all mo_linkE mo_linkF mo_follower).bind fun u12 =>
   (fMo_laysLevel_L33 p1 u11 u12 mo_all mo_linkE mo_linkF mo_follower FU (0 : Int32) (0 : Int64)).bind fun u13 =>
   (fMo_lowest u13 ((5040 : Int64) * u11)).bind fun u19 =>
   some (u19.1, u19.2)
def fMo_level (p1 : Int32) (p2 : Int32) (mo_all : Nat → Int32) (mo_refused : Nat → Int32) (mo_corner : Nat → Int32) (mo_linkVotes : Nat → Int32) (mo_linkE : Nat → Int32) (mo_linkF : Nat → Int32) (mo_follower : Nat → Int32) (mo_ahead : Nat → Int32) (mo_above : Int64) (mo_below : Int64) : Option (Int64 × (Nat → Int32) × (Nat → Int32) × (Nat → Int32) × (Nat → Int32) × (Nat → Int32) × (Nat → Int32) × (Nat → Int32) × Int64 × Int64) :=
  (fMo_isPicture p1 mo_all).bind fun u1 =>
  if u1 = 0 then
   if 0 ≤ (0 : Int32).toInt ∧ (0 : Int32).toInt < 3 then
    if 0 ≤ (0 : Int32).toInt ∧ (0 : Int32).toInt < 3 then
     some ((-999999 : Int64), (upd mo_refused (0 : Int32).toNatClampNeg ((mo_refused (0 : Int32).toNatClampNeg) + (1 : Int32))), mo_corner, mo_linkVotes, mo_linkE, mo_linkF, mo_follower, mo_ahead, mo_above, mo_below)
    else none
   else none
  else
   (fMo_in p2.toInt64 (0 : Int64) (1 : Int64)).bind fun u5 =>
   if u5 = 0 then
    if 0 ≤ (0 : Int32).toInt ∧ (0 : Int32).toInt < 3 then
     if 0 ≤ (0 : Int32).toInt ∧ (0 : Int32).toInt < 3 then
      some ((-999999 : Int64), (upd mo_refused (0 : Int32).toNatClampNeg ((mo_refused (0 : Int32).toNatClampNeg) + (1 : Int32))), mo_corner, mo_linkVotes, mo_linkE, mo_linkF, mo_follower, mo_ahead, mo_above, mo_below)
     else none
    else none
   else
    (fMo_laysChain mo_all mo_corner mo_linkVotes mo_linkE mo_linkF mo_follower mo_ahead).bind fun u7 =>
    (fMo_laysLevel p1 mo_all u7.2.2.1 u7.2.2.2.1 u7.2.2.2.2.1 u7.2.2.2.2.2 mo_above mo_below).bind fun u8 =>
    if p2 = 0 then
     some (u8.1, mo_refused, u7.1, u7.2.1, u7.2.2.1, u7.2.2.2.1, u7.2.2.2.2.1, u7.2.2.2.2.2, u8.1, u8.2)
    else
     some (u8.2, mo_refused, u7.1, u7.2.1, u7.2.2.1, u7.2.2.2.1, u7.2.2.2.2.1, u7.2.2.2.2.2, u8.1, u8.2)
def fMo_rest (p1 : Int32) (mo_all : Nat → Int32) (mo_refused : Nat → Int32) (mo_corner : Nat → Int32) (mo_linkVotes : Nat → Int32) (mo_linkE : Nat → Int32) (mo_linkF : Nat → Int32) (mo_follower : Nat → Int32) (mo_ahead : Nat → Int32) (mo_above : Int64) (mo_below : Int64) : Option (Int64 × (Nat → Int32) × (Nat → Int32) × (Nat → Int32) × (Nat → Int32) × (Nat → Int32) × (Nat → Int32) × (Nat → Int32) × Int64 × Int64) :=
  (fMo_in p1.toInt64 (0 : Int64) (1 : Int64)).bind fun u1 =>
  if u1 = 0 then
   (fMo_refuses (-2 : Int32) mo_refused).bind fun u12 =>
   some (u12.1.toInt64, u12.2, mo_corner, mo_linkVotes, mo_linkE, mo_linkF, mo_follower, mo_ahead, mo_above, mo_below)
  else
   (fMo_laysChain mo_all mo_corner mo_linkVotes mo_linkE mo_linkF mo_follower mo_ahead).bind fun u3 =>
   (fMo_isClosed mo_all u3.2.2.2.2.1).bind fun u4 =>
   ((if u4 = 0 then
     some ((0 : Int64), (1 : Int64))
    else
     (fMo_leftOver mo_all u3.2.2.1 u3.2.2.2.1 u3.2.2.2.2.1).bind fun u7 =>
     (fMo_leftOver mo_all u3.2.2.1 u3.2.2.2.1 u3.2.2.2.2.1).bind fun u8 =>
     (fMo_shares mo_all u3.2.2.1 u3.2.2.2.1 u3.2.2.2.2.1).bind fun u9 =>
     (fMo_lowest (u7 * u8) ((5040 : Int64) * u9)).bind fun u10 =>
     some (u10.1, u10.2) : Option (Int64 × Int64))).bind fun u6 =>
   if p1 = 0 then
    some (u6.1, mo_refused, u3.1, u3.2.1, u3.2.2.1, u3.2.2.2.1, u3.2.2.2.2.1, u3.2.2.2.2.2, u6.1, u6.2)
   else
    some (u6.2, mo_refused, u3.1, u3.2.1, u3.2.2.1, u3.2.2.2.1, u3.2.2.2.2.1, u3.2.2.2.2.2, u6.1, u6.2)
def fMo_shows_L133 (b133_4 : Int32) : Nat → Int32 → Int32 → Option (Int32)
  | 0, _, _ => none
  | n + 1, a133_6, a133_7 =>
    if b133_4 ≤ a133_7 then
     some a133_6
    else
     (some (a133_6 ||| ((1 : Int32) <<< (a133_7 &&& 31)))).bind fun (t28 : Int32) =>
     fMo_shows_L133 b133_4 n t28 (a133_7 + (1 : Int32))
def fMo_shows (p1 : Int32) (p2 : Int32) (mo_all : Nat → Int32) (mo_refused : Nat → Int32) (mo_corner : Nat → Int32) (mo_linkVotes : Nat → Int32) (mo_linkE : Nat → Int32) (mo_linkF : Nat → Int32) (mo_follower : Nat → Int32) (mo_ahead : Nat → Int32) (mo_least : Nat → Int32) (mo_seam : Nat → Int32) : Option (Int32 × (Nat → Int32) × (Nat → Int32) × (Nat → Int32) × (Nat → Int32) × (Nat → Int32) × (Nat → Int32) × (Nat → Int32) × (Nat → Int32) × (Nat → Int32)) :=
  (fMo_isPicture p1 mo_all).bind fun u1 =>
  if u1 = 0 then
   (fMo_refuses (-2 : Int32) mo_refused).bind fun u3 =>
   some (u3.1, u3.2, mo_corner, mo_linkVotes, mo_linkE, mo_linkF, mo_follower, mo_ahead, mo_least, mo_seam)
  else
   (fMo_in p2.toInt64 (0 : Int64) (3 : Int64)).bind fun u4 =>
   if u4 = 0 then
    (fMo_refuses (-2 : Int32) mo_refused).bind fun u29 =>
    some (u29.1, u29.2, mo_corner, mo_linkVotes, mo_linkE, mo_linkF, mo_follower, mo_ahead, mo_least, mo_seam)
   else
    (fMo_laysChain mo_all mo_corner mo_linkVotes mo_linkE mo_linkF mo_follower mo_ahead).bind fun u6 =>
    if 0 ≤ p1.toInt ∧ p1.toInt < 6 then
     (some (u6.2.2.2.2.2 p1.toNatClampNeg)).bind fun (t8 : Int32) =>
     ((if t8 = (-1 : Int32) then
       some ((0 : Int32), mo_least, mo_seam)
      else
       (fMo_eOf t8 u6.2.2.1 u6.2.2.2.2.1).bind fun u11 =>
       (fMo_hasRow t8 (p2 + u11) u6.2.2.1 u6.2.2.2.2.1).bind fun u12 =>
       if u12 = 0 then
        some ((0 : Int32), mo_least, mo_seam)
       else
        (fMo_laysSeam t8 mo_all u6.2.2.1 u6.2.2.2.1 u6.2.2.2.2.1 mo_least mo_seam).bind fun u14 =>
        (fMo_eOf t8 u6.2.2.1 u6.2.2.2.2.1).bind fun u15 =>
        if 0 ≤ (p2 + u15).toInt ∧ (p2 + u15).toInt < 4 then
         (fMo_fOf t8 u6.2.2.2.1 u6.2.2.2.2.1).bind fun u17 =>
         (some ((u14.2 (p2 + u15).toNatClampNeg) - u17)).bind fun (t18 : Int32) =>
         some (t18, u14.1, u14.2)
        else none : Option (Int32 × (Nat → Int32) × (Nat → Int32)))).bind fun u10 =>
     if 0 ≤ p1.toInt ∧ p1.toInt < 6 then
      ((if (u6.2.2.2.2.1 p1.toNatClampNeg) = (-1 : Int32) then
        some ((8 : Int32), u10.2.1, u10.2.2)
       else
        (fMo_hasRow p1 p2 u6.2.2.1 u6.2.2.2.2.1).bind fun u22 =>
        if u22 = 0 then
         some ((8 : Int32), u10.2.1, u10.2.2)
        else
         (fMo_laysSeam p1 mo_all u6.2.2.1 u6.2.2.2.1 u6.2.2.2.2.1 u10.2.1 u10.2.2).bind fun u24 =>
         if 0 ≤ p2.toInt ∧ p2.toInt < 4 then
          some ((u24.2 p2.toNatClampNeg), u24.1, u24.2)
         else none : Option (Int32 × (Nat → Int32) × (Nat → Int32)))).bind fun u21 =>
      (fMo_shows_L133 u21.1 FU (0 : Int32) u10.1).bind fun u26 =>
      some (u26, mo_refused, u6.1, u6.2.1, u6.2.2.1, u6.2.2.2.1, u6.2.2.2.2.1, u6.2.2.2.2.2, u21.2.1, u21.2.2)
     else none
    else none
def fMo_seen (p1 : Int32) (p2 : Int32) (p3 : Int32) (mo_all : Nat → Int32) (mo_refused : Nat → Int32) (mo_corner : Nat → Int32) (mo_linkVotes : Nat → Int32) (mo_linkE : Nat → Int32) (mo_linkF : Nat → Int32) (mo_follower : Nat → Int32) (mo_ahead : Nat → Int32) (mo_above : Int64) (mo_below : Int64) : Option (Int32 × (Nat → Int32) × (Nat → Int32) × (Nat → Int32) × (Nat → Int32) × (Nat → Int32) × (Nat → Int32) × (Nat → Int32) × Int64 × Int64) :=
  (fMo_isPicture p1 mo_all).bind fun u1 =>
  if u1 = 0 then
   (fMo_refuses (-2 : Int32) mo_refused).bind fun u3 =>
   some (u3.1, u3.2, mo_corner, mo_linkVotes, mo_linkE, mo_linkF, mo_follower, mo_ahead, mo_above, mo_below)
  else
   (fMo_isCell p2 p3).bind fun u4 =>
   if u4 = 0 then
    (fMo_refuses (-2 : Int32) mo_refused).bind fun u17 =>
    some (u17.1, u17.2, mo_corner, mo_linkVotes, mo_linkE, mo_linkF, mo_follower, mo_ahead, mo_above, mo_below)
   else
    (fMo_laysChain mo_all mo_corner mo_linkVotes mo_linkE mo_linkF mo_follower mo_ahead).bind fun u6 =>
    (fMo_laysLevel p1 mo_all u6.2.2.1 u6.2.2.2.1 u6.2.2.2.2.1 u6.2.2.2.2.2 mo_above mo_below).bind fun u7 =>
    (fMo_at p1 p2 p3 mo_all).bind fun u8 =>
    (some (((2 : Int64) * ((u8.toInt64 * u7.2) + u7.1)) + u7.2)).bind fun (t9 : Int64) =>
    if ¬ ((2 : Int64) * u7.2) = 0 then
     if ¬ ((2 : Int64) * u7.2) = 0 then
      ((if 0 ≤ (lg_cmp (t9 - t9 / ((2 : Int64) * u7.2) * ((2 : Int64) * u7.2)) (0 : Int64)) then
        some (0 : Int64)
       else
        some (1 : Int64) : Option (Int64))).bind fun u13 =>
      (some ((t9 / ((2 : Int64) * u7.2)) - u13)).bind fun (t14 : Int64) =>
      if 0 ≤ (lg_cmp t14 (0 : Int64)) then
       if (lg_cmp t14 (63 : Int64)) ≤ 0 then
        some (t14.toInt32, mo_refused, u6.1, u6.2.1, u6.2.2.1, u6.2.2.2.1, u6.2.2.2.2.1, u6.2.2.2.2.2, u7.1, u7.2)
       else
        some ((63 : Int32), mo_refused, u6.1, u6.2.1, u6.2.2.1, u6.2.2.2.1, u6.2.2.2.2.1, u6.2.2.2.2.2, u7.1, u7.2)
      else
       some ((0 : Int32), mo_refused, u6.1, u6.2.1, u6.2.2.1, u6.2.2.2.1, u6.2.2.2.2.1, u6.2.2.2.2.2, u7.1, u7.2)
     else none
    else none
def fMo_type (p1 : Int32) (mo_refused : Nat → Int32) (mo_text : Nat → Int32) (mo_textLong : Int32) : Option (Int32 × (Nat → Int32) × (Nat → Int32) × Int32) :=
  (fMo_in p1.toInt64 (0 : Int64) (127 : Int64)).bind fun u1 =>
  if u1 = 0 then
   (fMo_refuses (-2 : Int32) mo_refused).bind fun u6 =>
   some (u6.1, u6.2, mo_text, mo_textLong)
  else
   if mo_textLong = (120 : Int32) then
    (fMo_refuses (-4 : Int32) mo_refused).bind fun u5 =>
    some (u5.1, u5.2, mo_text, mo_textLong)
   else
    if 0 ≤ mo_textLong.toInt ∧ mo_textLong.toInt < 120 then
     some ((mo_textLong + (1 : Int32)), mo_refused, (upd mo_text mo_textLong.toNatClampNeg p1), (mo_textLong + (1 : Int32)))
    else none
def fMo_clear (mo_textLong : Int32) : Option (Int32 × Int32) :=
  some (mo_textLong, (0 : Int32))
def fMo_here_L0 (d0_mo_text : Nat → Int32) (d0_mo_textLong : Int32) : Nat → Int32 → Option (Int32)
  | 0, _ => none
  | n + 1, c0_mo_place =>
    if d0_mo_textLong ≤ c0_mo_place then
     some c0_mo_place
    else
     if 0 ≤ c0_mo_place.toInt ∧ c0_mo_place.toInt < 120 then
      if (d0_mo_text c0_mo_place.toNatClampNeg) = (32 : Int32) then
       fMo_here_L0 d0_mo_text d0_mo_textLong n (c0_mo_place + (1 : Int32))
      else
       some c0_mo_place
     else none
def fMo_here (mo_text : Nat → Int32) (mo_textLong : Int32) (mo_place : Int32) : Option (Int32 × Int32) :=
  (fMo_here_L0 mo_text mo_textLong FU mo_place).bind fun u1 =>
  if mo_textLong ≤ u1 then
   some ((-1 : Int32), u1)
  else
   if 0 ≤ u1.toInt ∧ u1.toInt < 120 then
    some ((mo_text u1.toNatClampNeg), u1)
   else none
def fMo_isFigure (p1 : Int32) (mo_text : Nat → Int32) (mo_textLong : Int32) : Option (Int32) :=
  if mo_textLong ≤ p1 then
   some (0 : Int32)
  else
   if 0 ≤ p1.toInt ∧ p1.toInt < 120 then
    (fMo_in ((mo_text p1.toNatClampNeg).toInt64) (48 : Int64) (57 : Int64)).bind fun u3 =>
    if u3 = 0 then
     some (0 : Int32)
    else
     some (1 : Int32)
   else none
def fMo_takes_L58 (d58_mo_text : Nat → Int32) (d58_mo_textLong : Int32) : Nat → Int32 → Int32 → Int32 → Option (Int32 × Int32 × Int32)
  | 0, _, _, _ => none
  | n + 1, a58_4, c58_mo_place, c58_mo_value =>
    (fMo_isFigure c58_mo_place d58_mo_text d58_mo_textLong).bind fun u11 =>
    if u11 = 0 then
     some (a58_4, c58_mo_place, c58_mo_value)
    else
     if (6 : Int32) ≤ a58_4 then
      some (a58_4, c58_mo_place, c58_mo_value)
     else
      if 0 ≤ c58_mo_place.toInt ∧ c58_mo_place.toInt < 120 then
       fMo_takes_L58 d58_mo_text d58_mo_textLong n (a58_4 + (1 : Int32)) (c58_mo_place + (1 : Int32)) ((((10 : Int32) * c58_mo_value) + (d58_mo_text c58_mo_place.toNatClampNeg)) - (48 : Int32))
      else none
def fMo_takes (p1 : Int32) (mo_text : Nat → Int32) (mo_textLong : Int32) (mo_place : Int32) (mo_value : Int32) : Option (Int32 × Int32 × Int32) :=
  (fMo_here mo_text mo_textLong mo_place).bind fun u1 =>
  ((if u1.1 = (45 : Int32) then
    if p1 = 0 then
     some (0 : Int32)
    else
     some (1 : Int32)
   else
    some (0 : Int32) : Option (Int32))).bind fun u3 =>
  ((if u3 = 0 then
    some (0 : Int32)
   else
    some (1 : Int32) : Option (Int32))).bind fun u6 =>
  ((if u3 = 0 then
    (fMo_here mo_text mo_textLong (u1.2 + u6)).bind fun u9 =>
    some (u9.1, u9.2)
   else
    some ((0 : Int32), (u1.2 + u6)) : Option (Int32 × Int32))).bind fun u8 =>
  (fMo_takes_L58 mo_text mo_textLong FU (0 : Int32) u8.2 (0 : Int32)).bind fun u10 =>
  ((if u3 = 0 then
    some u10.2.2
   else
    some (-u10.2.2) : Option (Int32))).bind fun u16 =>
  if u8.1 = (-1 : Int32) then
   some ((0 : Int32), u10.2.1, u16)
  else
   if u10.1 ≤ 0 then
    some ((0 : Int32), u10.2.1, u16)
   else
    (fMo_isFigure u10.2.1 mo_text mo_textLong).bind fun u19 =>
    if u19 = 0 then
     some ((1 : Int32), u10.2.1, u16)
    else
     some ((0 : Int32), u10.2.1, u16)
def fMo_takesAll_L2 (b2_1 : Int32) (b2_2 : Int32) (d2_mo_text : Nat → Int32) (d2_mo_textLong : Int32) : Nat → Int32 → Int32 → Int32 → (Nat → Int32) → Option (Sum (Int32 × Int32 × Int32 × (Nat → Int32)) (Int32 × Int32 × (Nat → Int32)))
  | 0, _, _, _, _ => none
  | n + 1, a2_3, c2_mo_place, c2_mo_value, c2_mo_numbers =>
    if b2_1 ≤ a2_3 then
     some (.inr (c2_mo_place, c2_mo_value, c2_mo_numbers))
    else
     ((if a2_3 = b2_2 then
       some (1 : Int32)
      else
       some (0 : Int32) : Option (Int32))).bind fun u4 =>
     (fMo_takes u4 d2_mo_text d2_mo_textLong c2_mo_place c2_mo_value).bind fun u5 =>
     if u5.1 = 0 then
      some (.inl ((0 : Int32), u5.2.1, u5.2.2, c2_mo_numbers))
     else
      if 0 ≤ a2_3.toInt ∧ a2_3.toInt < 4 then
       fMo_takesAll_L2 b2_1 b2_2 d2_mo_text d2_mo_textLong n (a2_3 + (1 : Int32)) u5.2.1 u5.2.2 (upd c2_mo_numbers a2_3.toNatClampNeg u5.2.2)
      else none
def fMo_takesAll (p1 : Int32) (p2 : Int32) (mo_text : Nat → Int32) (mo_textLong : Int32) (mo_place : Int32) (mo_value : Int32) (mo_numbers : Nat → Int32) : Option (Int32 × Int32 × Int32 × (Nat → Int32)) :=
  (fMo_takesAll_L2 p1 p2 mo_text mo_textLong FU (0 : Int32) mo_place mo_value mo_numbers).bind fun u1 => Sum.elim (fun r => some r) (fun x8 =>
  some ((1 : Int32), x8.1, x8.2.1, x8.2.2)) u1
def fMo_numbersOf (p0 : Int32) : Option (Int32) :=
  if p0 = (119 : Int32) then
   some (2 : Int32)
  else
   if p0 = (115 : Int32) then
    some (3 : Int32)
   else
    if p0 = (99 : Int32) then
     some (3 : Int32)
    else
     if p0 = (112 : Int32) then
      some (4 : Int32)
     else
      some (1 : Int32)
def fMo_can (p1 : Int32) (mo_all : Nat → Int32) (mo_numbers : Nat → Int32) : Option (Int32) :=
  if 0 ≤ (0 : Int32).toInt ∧ (0 : Int32).toInt < 4 then
   (some (mo_numbers (0 : Int32).toNatClampNeg)).bind fun (t2 : Int32) =>
   if 0 ≤ (1 : Int32).toInt ∧ (1 : Int32).toInt < 4 then
    (some (mo_numbers (1 : Int32).toNatClampNeg)).bind fun (t4 : Int32) =>
    if p1 = (97 : Int32) then
     (fMo_isSetting (1 : Int32) t2).bind fun u6 =>
     if u6 = 0 then
      some (-2 : Int32)
     else
      some (0 : Int32)
    else
     if p1 = (99 : Int32) then
      (fMo_isDot t2 t4 mo_all).bind fun u9 =>
      if u9 = 0 then
       some (-2 : Int32)
      else
       if 0 ≤ (2 : Int32).toInt ∧ (2 : Int32).toInt < 4 then
        (fMo_in ((mo_numbers (2 : Int32).toNatClampNeg).toInt64) (0 : Int64) (63 : Int64)).bind fun u12 =>
        if u12 = 0 then
         some (-2 : Int32)
        else
         some (0 : Int32)
       else none
     else
      if p1 = (112 : Int32) then
       (fMo_isPicture t2 mo_all).bind fun u15 =>
       if u15 = 0 then
        some (-2 : Int32)
       else
        if 0 ≤ (2 : Int32).toInt ∧ (2 : Int32).toInt < 4 then
         (fMo_isCell t4 (mo_numbers (2 : Int32).toNatClampNeg)).bind fun u18 =>
         if u18 = 0 then
          some (-2 : Int32)
         else
          if 0 ≤ (3 : Int32).toInt ∧ (3 : Int32).toInt < 4 then
           (fMo_in ((mo_numbers (3 : Int32).toNatClampNeg).toInt64) (0 : Int64) (63 : Int64)).bind fun u21 =>
           if u21 = 0 then
            some (-2 : Int32)
           else
            some (0 : Int32)
          else none
        else none
      else
       if p1 = (115 : Int32) then
        if 0 ≤ (2 : Int32).toInt ∧ (2 : Int32).toInt < 4 then
         (fMo_canShoot t2 t4 (mo_numbers (2 : Int32).toNatClampNeg) mo_all).bind fun u25 =>
         some u25
        else none
       else
        if p1 = (116 : Int32) then
         (fMo_isSetting (0 : Int32) t2).bind fun u27 =>
         if u27 = 0 then
          some (-2 : Int32)
         else
          some (0 : Int32)
        else
         if p1 = (119 : Int32) then
          (fMo_isWorld t2 t4).bind fun u30 =>
          if u30 = 0 then
           some (-2 : Int32)
          else
           some (0 : Int32)
         else
          (fMo_isPicture t2 mo_all).bind fun u32 =>
          if u32 = 0 then
           some (-2 : Int32)
          else
           some (0 : Int32)
   else none
  else none
def fMo_does (p1 : Int32) (mo_all : Nat → Int32) (mo_numbers : Nat → Int32) : Option ((Nat → Int32)) :=
  if 0 ≤ (0 : Int32).toInt ∧ (0 : Int32).toInt < 4 then
   (some (mo_numbers (0 : Int32).toNatClampNeg)).bind fun (t2 : Int32) =>
   if 0 ≤ (1 : Int32).toInt ∧ (1 : Int32).toInt < 4 then
    (some (mo_numbers (1 : Int32).toNatClampNeg)).bind fun (t4 : Int32) =>
    ((if p1 = (119 : Int32) then
      (fMo_worldNow t2 t4 mo_all).bind fun u12 =>
      some (u12.1, u12.2)
     else
      if p1 = (115 : Int32) then
       if 0 ≤ (2 : Int32).toInt ∧ (2 : Int32).toInt < 4 then
        (fMo_shotNow t2 t4 (mo_numbers (2 : Int32).toNatClampNeg) mo_all).bind fun u11 =>
        some (u11.1, u11.2)
       else none
      else
       if p1 = (120 : Int32) then
        (fMo_dropNow t2 mo_all).bind fun u9 =>
        some (u9.1, u9.2)
       else
        some ((0 : Int32), mo_all) : Option (Int32 × (Nat → Int32)))).bind fun u6 =>
    if p1 = (112 : Int32) then
     if 0 ≤ (2 : Int32).toInt ∧ (2 : Int32).toInt < 4 then
      if 0 ≤ (3 : Int32).toInt ∧ (3 : Int32).toInt < 4 then
       if 0 ≤ ((((196 : Int32) + ((35 : Int32) * t2)) + ((8 : Int32) * t4)) + (mo_numbers (2 : Int32).toNatClampNeg)).toInt ∧ ((((196 : Int32) + ((35 : Int32) * t2)) + ((8 : Int32) * t4)) + (mo_numbers (2 : Int32).toNatClampNeg)).toInt < 406 then
        some (upd u6.2 ((((196 : Int32) + ((35 : Int32) * t2)) + ((8 : Int32) * t4)) + (mo_numbers (2 : Int32).toNatClampNeg)).toNatClampNeg (mo_numbers (3 : Int32).toNatClampNeg))
       else none
      else none
     else none
    else
     if p1 = (99 : Int32) then
      if 0 ≤ (2 : Int32).toInt ∧ (2 : Int32).toInt < 4 then
       if 0 ≤ (((4 : Int32) + ((32 : Int32) * t2)) + t4).toInt ∧ (((4 : Int32) + ((32 : Int32) * t2)) + t4).toInt < 406 then
        some (upd u6.2 (((4 : Int32) + ((32 : Int32) * t2)) + t4).toNatClampNeg (mo_numbers (2 : Int32).toNatClampNeg))
       else none
      else none
     else
      if p1 = (116 : Int32) then
       if p1 = (116 : Int32) then
        if 0 ≤ (1 : Int32).toInt ∧ (1 : Int32).toInt < 406 then
         some (upd u6.2 (1 : Int32).toNatClampNeg t2)
        else none
       else
        if 0 ≤ (2 : Int32).toInt ∧ (2 : Int32).toInt < 406 then
         some (upd u6.2 (2 : Int32).toNatClampNeg t2)
        else none
      else
       if p1 = (97 : Int32) then
        if p1 = (116 : Int32) then
         if 0 ≤ (1 : Int32).toInt ∧ (1 : Int32).toInt < 406 then
          some (upd u6.2 (1 : Int32).toNatClampNeg t2)
         else none
        else
         if 0 ≤ (2 : Int32).toInt ∧ (2 : Int32).toInt < 406 then
          some (upd u6.2 (2 : Int32).toNatClampNeg t2)
         else none
       else
        some u6.2
   else none
  else none
def fMo_readsOrder (p1 : Int32) (mo_all : Nat → Int32) (mo_text : Nat → Int32) (mo_textLong : Int32) (mo_place : Int32) (mo_value : Int32) (mo_numbers : Nat → Int32) (mo_not : Int32) : Option (Int32 × (Nat → Int32) × Int32 × Int32 × (Nat → Int32) × Int32) :=
  (fMo_here mo_text mo_textLong mo_place).bind fun u1 =>
  if u1.1 = (119 : Int32) then
   (fMo_numbersOf u1.1).bind fun u3 =>
   ((if u1.1 = (115 : Int32) then
     some (2 : Int32)
    else
     some (-1 : Int32) : Option (Int32))).bind fun u5 =>
   (fMo_takesAll u3 u5 mo_text mo_textLong (u1.2 + (1 : Int32)) mo_value mo_numbers).bind fun u6 =>
   if u6.1 = 0 then
    some ((0 : Int32), mo_all, u6.2.1, u6.2.2.1, u6.2.2.2, mo_not)
   else
    (fMo_here mo_text mo_textLong u6.2.1).bind fun u8 =>
    if u8.1 = (59 : Int32) then
     if p1 = 0 then
      some ((1 : Int32), mo_all, (u8.2 + (1 : Int32)), u6.2.2.1, u6.2.2.2, mo_not)
     else
      (fMo_can u1.1 mo_all u6.2.2.2).bind fun u11 =>
      if u11 = 0 then
       (fMo_does u1.1 mo_all u6.2.2.2).bind fun u13 =>
       some ((1 : Int32), u13, (u8.2 + (1 : Int32)), u6.2.2.1, u6.2.2.2, u11)
      else
       some ((1 : Int32), mo_all, (u8.2 + (1 : Int32)), u6.2.2.1, u6.2.2.2, u11)
    else
     some ((0 : Int32), mo_all, u8.2, u6.2.2.1, u6.2.2.2, mo_not)
  else
   if u1.1 = (115 : Int32) then
    (fMo_numbersOf u1.1).bind fun u15 =>
    ((if u1.1 = (115 : Int32) then
      some (2 : Int32)
     else
      some (-1 : Int32) : Option (Int32))).bind fun u17 =>
    (fMo_takesAll u15 u17 mo_text mo_textLong (u1.2 + (1 : Int32)) mo_value mo_numbers).bind fun u18 =>
    if u18.1 = 0 then
     some ((0 : Int32), mo_all, u18.2.1, u18.2.2.1, u18.2.2.2, mo_not)
    else
     (fMo_here mo_text mo_textLong u18.2.1).bind fun u20 =>
     if u20.1 = (59 : Int32) then
      if p1 = 0 then
       some ((1 : Int32), mo_all, (u20.2 + (1 : Int32)), u18.2.2.1, u18.2.2.2, mo_not)
      else
       (fMo_can u1.1 mo_all u18.2.2.2).bind fun u23 =>
       if u23 = 0 then
        (fMo_does u1.1 mo_all u18.2.2.2).bind fun u25 =>
        some ((1 : Int32), u25, (u20.2 + (1 : Int32)), u18.2.2.1, u18.2.2.2, u23)
       else
        some ((1 : Int32), mo_all, (u20.2 + (1 : Int32)), u18.2.2.1, u18.2.2.2, u23)
     else
      some ((0 : Int32), mo_all, u20.2, u18.2.2.1, u18.2.2.2, mo_not)
   else
    if u1.1 = (112 : Int32) then
     (fMo_numbersOf u1.1).bind fun u27 =>
     ((if u1.1 = (115 : Int32) then
       some (2 : Int32)
      else
       some (-1 : Int32) : Option (Int32))).bind fun u29 =>
     (fMo_takesAll u27 u29 mo_text mo_textLong (u1.2 + (1 : Int32)) mo_value mo_numbers).bind fun u30 =>
     if u30.1 = 0 then
      some ((0 : Int32), mo_all, u30.2.1, u30.2.2.1, u30.2.2.2, mo_not)
     else
      (fMo_here mo_text mo_textLong u30.2.1).bind fun u32 =>
      if u32.1 = (59 : Int32) then
       if p1 = 0 then
        some ((1 : Int32), mo_all, (u32.2 + (1 : Int32)), u30.2.2.1, u30.2.2.2, mo_not)
       else
        (fMo_can u1.1 mo_all u30.2.2.2).bind fun u35 =>
        if u35 = 0 then
         (fMo_does u1.1 mo_all u30.2.2.2).bind fun u37 =>
         some ((1 : Int32), u37, (u32.2 + (1 : Int32)), u30.2.2.1, u30.2.2.2, u35)
        else
         some ((1 : Int32), mo_all, (u32.2 + (1 : Int32)), u30.2.2.1, u30.2.2.2, u35)
      else
       some ((0 : Int32), mo_all, u32.2, u30.2.2.1, u30.2.2.2, mo_not)
    else
     if u1.1 = (99 : Int32) then
      (fMo_numbersOf u1.1).bind fun u39 =>
      ((if u1.1 = (115 : Int32) then
        some (2 : Int32)
       else
        some (-1 : Int32) : Option (Int32))).bind fun u41 =>
      (fMo_takesAll u39 u41 mo_text mo_textLong (u1.2 + (1 : Int32)) mo_value mo_numbers).bind fun u42 =>
      if u42.1 = 0 then
       some ((0 : Int32), mo_all, u42.2.1, u42.2.2.1, u42.2.2.2, mo_not)
      else
       (fMo_here mo_text mo_textLong u42.2.1).bind fun u44 =>
       if u44.1 = (59 : Int32) then
        if p1 = 0 then
         some ((1 : Int32), mo_all, (u44.2 + (1 : Int32)), u42.2.2.1, u42.2.2.2, mo_not)
        else
         (fMo_can u1.1 mo_all u42.2.2.2).bind fun u47 =>
         if u47 = 0 then
          (fMo_does u1.1 mo_all u42.2.2.2).bind fun u49 =>
          some ((1 : Int32), u49, (u44.2 + (1 : Int32)), u42.2.2.1, u42.2.2.2, u47)
         else
          some ((1 : Int32), mo_all, (u44.2 + (1 : Int32)), u42.2.2.1, u42.2.2.2, u47)
       else
        some ((0 : Int32), mo_all, u44.2, u42.2.2.1, u42.2.2.2, mo_not)
     else
      if u1.1 = (116 : Int32) then
       (fMo_numbersOf u1.1).bind fun u51 =>
       ((if u1.1 = (115 : Int32) then
         some (2 : Int32)
        else
         some (-1 : Int32) : Option (Int32))).bind fun u53 =>
       (fMo_takesAll u51 u53 mo_text mo_textLong (u1.2 + (1 : Int32)) mo_value mo_numbers).bind fun u54 =>
       if u54.1 = 0 then
        some ((0 : Int32), mo_all, u54.2.1, u54.2.2.1, u54.2.2.2, mo_not)
       else
        (fMo_here mo_text mo_textLong u54.2.1).bind fun u56 =>
        if u56.1 = (59 : Int32) then
         if p1 = 0 then
          some ((1 : Int32), mo_all, (u56.2 + (1 : Int32)), u54.2.2.1, u54.2.2.2, mo_not)
         else
          (fMo_can u1.1 mo_all u54.2.2.2).bind fun u59 =>
          if u59 = 0 then
           (fMo_does u1.1 mo_all u54.2.2.2).bind fun u61 =>
           some ((1 : Int32), u61, (u56.2 + (1 : Int32)), u54.2.2.1, u54.2.2.2, u59)
          else
           some ((1 : Int32), mo_all, (u56.2 + (1 : Int32)), u54.2.2.1, u54.2.2.2, u59)
        else
         some ((0 : Int32), mo_all, u56.2, u54.2.2.1, u54.2.2.2, mo_not)
      else
       if u1.1 = (97 : Int32) then
        (fMo_numbersOf u1.1).bind fun u63 =>
        ((if u1.1 = (115 : Int32) then
          some (2 : Int32)
         else
          some (-1 : Int32) : Option (Int32))).bind fun u65 =>
        (fMo_takesAll u63 u65 mo_text mo_textLong (u1.2 + (1 : Int32)) mo_value mo_numbers).bind fun u66 =>
        if u66.1 = 0 then
         some ((0 : Int32), mo_all, u66.2.1, u66.2.2.1, u66.2.2.2, mo_not)
        else
         (fMo_here mo_text mo_textLong u66.2.1).bind fun u68 =>
         if u68.1 = (59 : Int32) then
          if p1 = 0 then
           some ((1 : Int32), mo_all, (u68.2 + (1 : Int32)), u66.2.2.1, u66.2.2.2, mo_not)
          else
           (fMo_can u1.1 mo_all u66.2.2.2).bind fun u71 =>
           if u71 = 0 then
            (fMo_does u1.1 mo_all u66.2.2.2).bind fun u73 =>
            some ((1 : Int32), u73, (u68.2 + (1 : Int32)), u66.2.2.1, u66.2.2.2, u71)
           else
            some ((1 : Int32), mo_all, (u68.2 + (1 : Int32)), u66.2.2.1, u66.2.2.2, u71)
         else
          some ((0 : Int32), mo_all, u68.2, u66.2.2.1, u66.2.2.2, mo_not)
       else
        if u1.1 = (120 : Int32) then
         (fMo_numbersOf u1.1).bind fun u75 =>
         ((if u1.1 = (115 : Int32) then
           some (2 : Int32)
          else
           some (-1 : Int32) : Option (Int32))).bind fun u77 =>
         (fMo_takesAll u75 u77 mo_text mo_textLong (u1.2 + (1 : Int32)) mo_value mo_numbers).bind fun u78 =>
         if u78.1 = 0 then
          some ((0 : Int32), mo_all, u78.2.1, u78.2.2.1, u78.2.2.2, mo_not)
         else
          (fMo_here mo_text mo_textLong u78.2.1).bind fun u80 =>
          if u80.1 = (59 : Int32) then
           if p1 = 0 then
            some ((1 : Int32), mo_all, (u80.2 + (1 : Int32)), u78.2.2.1, u78.2.2.2, mo_not)
           else
            (fMo_can u1.1 mo_all u78.2.2.2).bind fun u83 =>
            if u83 = 0 then
             (fMo_does u1.1 mo_all u78.2.2.2).bind fun u85 =>
             some ((1 : Int32), u85, (u80.2 + (1 : Int32)), u78.2.2.1, u78.2.2.2, u83)
            else
             some ((1 : Int32), mo_all, (u80.2 + (1 : Int32)), u78.2.2.1, u78.2.2.2, u83)
          else
           some ((0 : Int32), mo_all, u80.2, u78.2.2.1, u78.2.2.2, mo_not)
        else
         some ((0 : Int32), mo_all, u1.2, mo_value, mo_numbers, mo_not)
def fMo_keepsAside_L2 : Nat → Int32 → (Nat → Int32) → (Nat → Int32) → Option ((Nat → Int32) × (Nat → Int32))
  | 0, _, _, _ => none
  | n + 1, a2_1, c2_mo_all, c2_mo_aside =>
    if (406 : Int32) ≤ a2_1 then
     some (c2_mo_all, c2_mo_aside)
    else
     if 0 ≤ a2_1.toInt ∧ a2_1.toInt < 406 then
      if 0 ≤ a2_1.toInt ∧ a2_1.toInt < 406 then
       if 0 ≤ a2_1.toInt ∧ a2_1.toInt < 406 then
        if 0 ≤ a2_1.toInt ∧ a2_1.toInt < 406 then
         fMo_keepsAside_L2 n (a2_1 + (1 : Int32)) (upd c2_mo_all a2_1.toNatClampNeg (c2_mo_aside a2_1.toNatClampNeg)) (upd c2_mo_aside a2_1.toNatClampNeg (c2_mo_all a2_1.toNatClampNeg))
        else none
       else none
      else none
     else none
def fMo_keepsAside_L47 (d47_mo_aside : Nat → Int32) : Nat → Int32 → (Nat → Int32) → Option ((Nat → Int32))
  | 0, _, _ => none
  | n + 1, a47_1, c47_mo_all =>
    if (406 : Int32) ≤ a47_1 then
     some c47_mo_all
    else
     if 0 ≤ a47_1.toInt ∧ a47_1.toInt < 406 then
      if 0 ≤ a47_1.toInt ∧ a47_1.toInt < 406 then
       fMo_keepsAside_L47 d47_mo_aside n (a47_1 + (1 : Int32)) (upd c47_mo_all a47_1.toNatClampNeg (d47_mo_aside a47_1.toNatClampNeg))
      else none
     else none
def fMo_keepsAside (mo_all : Nat → Int32) (mo_past : Nat → Int32) (mo_aside : Nat → Int32) (mo_states : Int32) : Option ((Nat → Int32) × (Nat → Int32) × (Nat → Int32) × Int32) :=
  (fMo_keepsAside_L2 FU (0 : Int32) mo_all mo_aside).bind fun u1 =>
  (fMo_keep u1.1 mo_past mo_states).bind fun u7 =>
  (fMo_keepsAside_L47 u1.2 FU (0 : Int32) u1.1).bind fun u8 =>
  some (u8, u7.1, u1.2, u7.2)
def fMo_reads_L11 (d11_mo_text : Nat → Int32) (d11_mo_textLong : Int32) : Nat → Int32 → (Nat → Int32) → Int32 → Int32 → (Nat → Int32) → Int32 → Option (Int32 × (Nat → Int32) × Int32 × Int32 × (Nat → Int32) × Int32)
  | 0, _, _, _, _, _, _ => none
  | n + 1, a11_1, c11_mo_all, c11_mo_place, c11_mo_value, c11_mo_numbers, c11_mo_not =>
    if a11_1 = 0 then
     some (a11_1, c11_mo_all, c11_mo_place, c11_mo_value, c11_mo_numbers, c11_mo_not)
    else
     (fMo_here d11_mo_text d11_mo_textLong c11_mo_place).bind fun u4 =>
     if u4.1 = (-1 : Int32) then
      some (a11_1, c11_mo_all, u4.2, c11_mo_value, c11_mo_numbers, c11_mo_not)
     else
      (fMo_readsOrder (0 : Int32) c11_mo_all d11_mo_text d11_mo_textLong u4.2 c11_mo_value c11_mo_numbers c11_mo_not).bind fun u6 =>
      fMo_reads_L11 d11_mo_text d11_mo_textLong n u6.1 u6.2.1 u6.2.2.1 u6.2.2.2.1 u6.2.2.2.2.1 u6.2.2.2.2.2
def fMo_reads_L46 (d46_mo_all : Nat → Int32) : Nat → Int32 → (Nat → Int32) → Option ((Nat → Int32))
  | 0, _, _ => none
  | n + 1, a46_2, c46_mo_aside =>
    if (406 : Int32) ≤ a46_2 then
     some c46_mo_aside
    else
     if 0 ≤ a46_2.toInt ∧ a46_2.toInt < 406 then
      if 0 ≤ a46_2.toInt ∧ a46_2.toInt < 406 then
       fMo_reads_L46 d46_mo_all n (a46_2 + (1 : Int32)) (upd c46_mo_aside a46_2.toNatClampNeg (d46_mo_all a46_2.toNatClampNeg))
      else none
     else none
def fMo_reads_L106 (d106_mo_aside : Nat → Int32) : Nat → Int32 → (Nat → Int32) → Option ((Nat → Int32))
  | 0, _, _ => none
  | n + 1, a106_3, c106_mo_all =>
    if (406 : Int32) ≤ a106_3 then
     some c106_mo_all
    else
     if 0 ≤ a106_3.toInt ∧ a106_3.toInt < 406 then
      if 0 ≤ a106_3.toInt ∧ a106_3.toInt < 406 then
       fMo_reads_L106 d106_mo_aside n (a106_3 + (1 : Int32)) (upd c106_mo_all a106_3.toNatClampNeg (d106_mo_aside a106_3.toNatClampNeg))
      else none
     else none
def fMo_reads_L83 (d83_mo_past : Nat → Int32) (d83_mo_aside : Nat → Int32) (d83_mo_states : Int32) (d83_mo_text : Nat → Int32) (d83_mo_textLong : Int32) : Nat → Int32 → (Nat → Int32) → Int32 → Int32 → Int32 → Int32 → (Nat → Int32) → Int32 → Option (Sum (Int32 × (Nat → Int32) × (Nat → Int32) × (Nat → Int32) × Int32 × Int32 × Int32 × Int32 × Int32 × (Nat → Int32) × Int32) (Int32 × (Nat → Int32) × Int32 × Int32 × Int32 × Int32 × (Nat → Int32) × Int32))
  | 0, _, _, _, _, _, _, _, _ => none
  | n + 1, a83_2, c83_mo_all, c83_mo_causeKind, c83_mo_causeOrder, c83_mo_place, c83_mo_value, c83_mo_numbers, c83_mo_not =>
    (fMo_here d83_mo_text d83_mo_textLong c83_mo_place).bind fun u13 =>
    if u13.1 = (-1 : Int32) then
     some (.inr (a83_2, c83_mo_all, c83_mo_causeKind, c83_mo_causeOrder, u13.2, c83_mo_value, c83_mo_numbers, c83_mo_not))
    else
     (fMo_readsOrder (1 : Int32) c83_mo_all d83_mo_text d83_mo_textLong u13.2 c83_mo_value c83_mo_numbers c83_mo_not).bind fun u15 =>
     if 0 ≤ u15.2.2.2.2.2 then
      fMo_reads_L83 d83_mo_past d83_mo_aside d83_mo_states d83_mo_text d83_mo_textLong n (a83_2 + (1 : Int32)) u15.2.1 c83_mo_causeKind c83_mo_causeOrder u15.2.2.1 u15.2.2.2.1 u15.2.2.2.2.1 u15.2.2.2.2.2
     else
      (fMo_reads_L106 d83_mo_aside FU (0 : Int32) u15.2.1).bind fun u17 =>
      some (.inl (((-1000 : Int32) - a83_2), u17, d83_mo_past, d83_mo_aside, d83_mo_states, (-u15.2.2.2.2.2), a83_2, u15.2.2.1, u15.2.2.2.1, u15.2.2.2.2.1, u15.2.2.2.2.2))
def fMo_reads (mo_all : Nat → Int32) (mo_past : Nat → Int32) (mo_aside : Nat → Int32) (mo_states : Int32) (mo_causeKind : Int32) (mo_causeOrder : Int32) (mo_text : Nat → Int32) (mo_textLong : Int32) (mo_place : Int32) (mo_value : Int32) (mo_numbers : Nat → Int32) (mo_not : Int32) : Option (Int32 × (Nat → Int32) × (Nat → Int32) × (Nat → Int32) × Int32 × Int32 × Int32 × Int32 × Int32 × (Nat → Int32) × Int32) :=
  (fMo_readsOrder (0 : Int32) mo_all mo_text mo_textLong (0 : Int32) mo_value mo_numbers mo_not).bind fun u1 =>
  (fMo_reads_L11 mo_text mo_textLong FU u1.1 u1.2.1 u1.2.2.1 u1.2.2.2.1 u1.2.2.2.2.1 u1.2.2.2.2.2).bind fun u2 =>
  if u2.1 = 0 then
   some (((-10 : Int32) - u2.2.2.1), u2.2.1, mo_past, mo_aside, mo_states, mo_causeKind, mo_causeOrder, u2.2.2.1, u2.2.2.2.1, u2.2.2.2.2.1, u2.2.2.2.2.2)
  else
   (fMo_reads_L46 u2.2.1 FU (0 : Int32) mo_aside).bind fun u8 =>
   (fMo_reads_L83 mo_past u8 mo_states mo_text mo_textLong FU (0 : Int32) u2.2.1 mo_causeKind mo_causeOrder (0 : Int32) u2.2.2.2.1 u2.2.2.2.2.1 (0 : Int32)).bind fun u12 => Sum.elim (fun r => some r) (fun x21 =>
   (fMo_keepsAside x21.2.1 mo_past u8 mo_states).bind fun u22 =>
   some (x21.1, u22.1, u22.2.1, u22.2.2.1, u22.2.2.2, x21.2.2.1, x21.2.2.2.1, x21.2.2.2.2.1, x21.2.2.2.2.2.1, x21.2.2.2.2.2.2.1, x21.2.2.2.2.2.2.2)) u12
def fMo_why (p1 : Int32) (mo_refused : Nat → Int32) (mo_causeKind : Int32) (mo_causeOrder : Int32) : Option (Int32 × (Nat → Int32)) :=
  (fMo_in p1.toInt64 (0 : Int64) (1 : Int64)).bind fun u1 =>
  if u1 = 0 then
   if 0 ≤ (0 : Int32).toInt ∧ (0 : Int32).toInt < 3 then
    if 0 ≤ (0 : Int32).toInt ∧ (0 : Int32).toInt < 3 then
     some ((-10 : Int32), (upd mo_refused (0 : Int32).toNatClampNeg ((mo_refused (0 : Int32).toNatClampNeg) + (1 : Int32))))
    else none
   else none
  else
   if p1 = 0 then
    some (mo_causeKind, mo_refused)
   else
    some (mo_causeOrder, mo_refused)
def fMo_back_L26 (d26_mo_past : Nat → Int32) (d26_mo_states : Int32) : Nat → Int32 → (Nat → Int32) → Option ((Nat → Int32))
  | 0, _, _ => none
  | n + 1, a26_1, c26_mo_all =>
    if (406 : Int32) ≤ a26_1 then
     some c26_mo_all
    else
     if 0 ≤ (((406 : Int32) * d26_mo_states) + a26_1).toInt ∧ (((406 : Int32) * d26_mo_states) + a26_1).toInt < 2030 then
      if 0 ≤ a26_1.toInt ∧ a26_1.toInt < 406 then
       fMo_back_L26 d26_mo_past d26_mo_states n (a26_1 + (1 : Int32)) (upd c26_mo_all a26_1.toNatClampNeg (d26_mo_past (((406 : Int32) * d26_mo_states) + a26_1).toNatClampNeg))
      else none
     else none
def fMo_back (mo_all : Nat → Int32) (mo_past : Nat → Int32) (mo_states : Int32) (mo_refused : Nat → Int32) : Option (Int32 × (Nat → Int32) × Int32 × (Nat → Int32)) :=
  if mo_states = 0 then
   (fMo_refuses (-3 : Int32) mo_refused).bind fun u6 =>
   some (u6.1, mo_all, mo_states, u6.2)
  else
   (fMo_back_L26 mo_past (mo_states - (1 : Int32)) FU (0 : Int32) mo_all).bind fun u2 =>
   some ((mo_states - (1 : Int32)), u2, (mo_states - (1 : Int32)), mo_refused)
def fMo_toldOf (p1 : Int32) (mo_all : Nat → Int32) (mo_states : Int32) (mo_refused : Nat → Int32) (mo_textLong : Int32) : Option (Int32) :=
  if p1 = (3 : Int32) then
   some mo_textLong
  else
   if p1 = (4 : Int32) then
    if 0 ≤ (0 : Int32).toInt ∧ (0 : Int32).toInt < 406 then
     some (mo_all (0 : Int32).toNatClampNeg)
    else none
   else
    if p1 = (5 : Int32) then
     (fMo_many mo_all).bind fun u5 =>
     some u5
    else
     if p1 = (6 : Int32) then
      if 0 ≤ (1 : Int32).toInt ∧ (1 : Int32).toInt < 406 then
       some (mo_all (1 : Int32).toNatClampNeg)
      else none
     else
      if p1 = (7 : Int32) then
       if 0 ≤ (2 : Int32).toInt ∧ (2 : Int32).toInt < 406 then
        some (mo_all (2 : Int32).toNatClampNeg)
       else none
      else
       if p1 = (8 : Int32) then
        some mo_states
       else
        if 0 ≤ p1.toInt ∧ p1.toInt < 3 then
         some (mo_refused p1.toNatClampNeg)
        else none
def fMo_told (p1 : Int32) (mo_all : Nat → Int32) (mo_states : Int32) (mo_refused : Nat → Int32) (mo_textLong : Int32) : Option (Int32 × (Nat → Int32)) :=
  (fMo_in p1.toInt64 (0 : Int64) (8 : Int64)).bind fun u1 =>
  if u1 = 0 then
   (fMo_refuses (-2 : Int32) mo_refused).bind fun u3 =>
   some (u3.1, u3.2)
  else
   (fMo_toldOf p1 mo_all mo_states mo_refused mo_textLong).bind fun u4 =>
   some (u4, mo_refused)
def fMo_digest_L6 (d6_mo_all : Nat → Int32) (d6_mo_states : Int32) (d6_mo_refused : Nat → Int32) (d6_mo_textLong : Int32) : Nat → Int64 → Int32 → Option (Int64)
  | 0, _, _ => none
  | n + 1, a6_1, a6_3 =>
    if (9 : Int32) ≤ a6_3 then
     some a6_1
    else
     (fMo_toldOf a6_3 d6_mo_all d6_mo_states d6_mo_refused d6_mo_textLong).bind fun u3 =>
     (some (((31 : Int64) * a6_1) + u3.toInt64)).bind fun (t4 : Int64) =>
     fMo_digest_L6 d6_mo_all d6_mo_states d6_mo_refused d6_mo_textLong n t4 (a6_3 + (1 : Int32))
def fMo_digest_L70 (b70_3 : Int32) (d70_mo_all : Nat → Int32) : Nat → Int64 → Int32 → Option (Int64)
  | 0, _, _ => none
  | n + 1, a70_1, a70_4 =>
    if (32 : Int32) ≤ a70_4 then
     some a70_1
    else
     if ¬ (8 : Int32) = 0 then
      if ¬ (8 : Int32) = 0 then
       (fMo_at b70_3 (a70_4 / (8 : Int32)) (a70_4 - a70_4 / (8 : Int32) * (8 : Int32)) d70_mo_all).bind fun u14 =>
       (some (((31 : Int64) * a70_1) + u14.toInt64)).bind fun (t15 : Int64) =>
       fMo_digest_L70 b70_3 d70_mo_all n t15 (a70_4 + (1 : Int32))
      else none
     else none
def fMo_digest_L59 (d59_mo_all : Nat → Int32) (d59_mo_corner : Nat → Int32) (d59_mo_follower : Nat → Int32) : Nat → Int64 → Int32 → Option (Int64)
  | 0, _, _ => none
  | n + 1, a59_1, a59_3 =>
    (fMo_many d59_mo_all).bind fun u8 =>
    if u8 ≤ a59_3 then
     some a59_1
    else
     (fMo_digest_L70 a59_3 d59_mo_all FU a59_1 (0 : Int32)).bind fun u10 =>
     if 0 ≤ a59_3.toInt ∧ a59_3.toInt < 6 then
      if 0 ≤ a59_3.toInt ∧ a59_3.toInt < 6 then
       (some (((31 : Int64) * (((31 : Int64) * u10) + (d59_mo_corner a59_3.toNatClampNeg).toInt64)) + (d59_mo_follower a59_3.toNatClampNeg).toInt64)).bind fun (t18 : Int64) =>
       fMo_digest_L59 d59_mo_all d59_mo_corner d59_mo_follower n t18 (a59_3 + (1 : Int32))
      else none
     else none
def fMo_digest_L140 (d140_mo_all : Nat → Int32) (d140_mo_linkE : Nat → Int32) (d140_mo_linkF : Nat → Int32) (d140_mo_follower : Nat → Int32) (d140_mo_ahead : Nat → Int32) : Nat → Int64 → Int32 → Option (Int64)
  | 0, _, _ => none
  | n + 1, a140_1, a140_3 =>
    if (6 : Int32) ≤ a140_3 then
     some a140_1
    else
     (fMo_allNow a140_3 d140_mo_all d140_mo_linkE d140_mo_linkF d140_mo_follower d140_mo_ahead).bind fun u21 =>
     (some (((31 : Int64) * a140_1) + u21.toInt64)).bind fun (t22 : Int64) =>
     fMo_digest_L140 d140_mo_all d140_mo_linkE d140_mo_linkF d140_mo_follower d140_mo_ahead n t22 (a140_3 + (1 : Int32))
def fMo_digest (mo_all : Nat → Int32) (mo_states : Int32) (mo_refused : Nat → Int32) (mo_causeKind : Int32) (mo_causeOrder : Int32) (mo_corner : Nat → Int32) (mo_linkVotes : Nat → Int32) (mo_linkE : Nat → Int32) (mo_linkF : Nat → Int32) (mo_follower : Nat → Int32) (mo_ahead : Nat → Int32) (mo_textLong : Int32) : Option (Int64 × (Nat → Int32) × (Nat → Int32) × (Nat → Int32) × (Nat → Int32) × (Nat → Int32) × (Nat → Int32)) :=
  (fMo_digest_L6 mo_all mo_states mo_refused mo_textLong FU (2269 : Int64) (0 : Int32)).bind fun u1 =>
  (some (((31 : Int64) * (((31 : Int64) * u1) + mo_causeKind.toInt64)) + mo_causeOrder.toInt64)).bind fun (t5 : Int64) =>
  (fMo_laysChain mo_all mo_corner mo_linkVotes mo_linkE mo_linkF mo_follower mo_ahead).bind fun u6 =>
  (fMo_digest_L59 mo_all u6.1 u6.2.2.2.2.1 FU t5 (0 : Int32)).bind fun u7 =>
  (fMo_digest_L140 mo_all u6.2.2.1 u6.2.2.2.1 u6.2.2.2.2.1 u6.2.2.2.2.2 FU u7 (0 : Int32)).bind fun u19 =>
  some (u19, u6.1, u6.2.1, u6.2.2.1, u6.2.2.2.1, u6.2.2.2.2.1, u6.2.2.2.2.2)
def fRi_refuse (p1 : Int32) (rf_refused : Nat → Int32) : Option (Int32 × (Nat → Int32)) :=
  if ((-2 : Int32) - p1) < 0 then
   some (p1, rf_refused)
  else
   if (3 : Int32) ≤ ((-2 : Int32) - p1) then
    some (p1, rf_refused)
   else
    if 0 ≤ ((-2 : Int32) - p1).toInt ∧ ((-2 : Int32) - p1).toInt < 3 then
     if 0 ≤ ((-2 : Int32) - p1).toInt ∧ ((-2 : Int32) - p1).toInt < 3 then
      some (p1, (upd rf_refused ((-2 : Int32) - p1).toNatClampNeg ((rf_refused ((-2 : Int32) - p1).toNatClampNeg) + (1 : Int32))))
     else none
    else none
def fRi_settle (p1 : Int32) (ri_fresh : Int32) (hi_count : Int32) (hi_states : Nat → Option Nat) (hi_held : Nat) (rf_refused : Nat → Int32) : Option (Int32 × Int32 × Int32 × (Nat → Option Nat) × Nat × (Nat → Int32)) :=
  if 0 ≤ p1 then
   (fHi_keep hi_count hi_states hi_held).bind fun u2 =>
   some (p1, (0 : Int32), u2.1, u2.2.1, u2.2.2, rf_refused)
  else
   (fRi_refuse p1 rf_refused).bind fun u3 =>
   some (u3.1, ri_fresh, hi_count, hi_states, hi_held, u3.2)
def fRi_world (p1 : Int32) (p2 : Int32) (ri_fresh : Int32) (sc_columns : Int32) (sc_count : Int32) (sc_cornerChange : Int32) (sc_voteApart : Int32) (sc_dots : Nat → Int32) (sc_cells : Nat → Int32) (sc_shotX : Nat → Int32) (sc_shotY : Nat → Int32) (sc_shotColumns : Nat → Int32) (s2_columns : Int32) (s2_count : Int32) (s2_cornerChange : Int32) (s2_voteApart : Int32) (s2_dots : Nat → Int32) (s2_cells : Nat → Int32) (s2_shotX : Nat → Int32) (s2_shotY : Nat → Int32) (s2_shotColumns : Nat → Int32) (hi_count : Int32) (hi_states : Nat → Option Nat) (hi_held : Nat) (rf_refused : Nat → Int32) : Option (Int32 × Int32 × Int32 × (Nat → Int32) × Int32 × Int32 × Int32 × Int32 × (Nat → Int32) × (Nat → Int32) × (Nat → Int32) × (Nat → Int32) × (Nat → Int32) × Int32 × (Nat → Option Nat) × Nat × (Nat → Int32)) :=
  (fHi_hold sc_columns sc_count sc_cornerChange sc_voteApart sc_dots sc_cells sc_shotX sc_shotY sc_shotColumns s2_columns s2_count s2_cornerChange s2_voteApart s2_dots s2_cells s2_shotX s2_shotY s2_shotColumns).bind fun u1 =>
  (fSc_drawWorld p1 p2 sc_columns sc_dots).bind fun u2 =>
  (fRi_settle u2.1 ri_fresh hi_count hi_states hi_held rf_refused).bind fun u3 =>
  some (u3.1, u3.2.1, u2.2.1, u2.2.2, u1.1, u1.2.1, u1.2.2.1, u1.2.2.2.1, u1.2.2.2.2.1, u1.2.2.2.2.2.1, u1.2.2.2.2.2.2.1, u1.2.2.2.2.2.2.2.1, u1.2.2.2.2.2.2.2.2, u3.2.2.1, u3.2.2.2.1, u3.2.2.2.2.1, u3.2.2.2.2.2)
def fRi_dots (p1 : Int32) (p2 : Int32) (p3 : Int32) (ri_fresh : Int32) (sc_columns : Int32) (sc_count : Int32) (sc_cornerChange : Int32) (sc_voteApart : Int32) (sc_dots : Nat → Int32) (sc_cells : Nat → Int32) (sc_shotX : Nat → Int32) (sc_shotY : Nat → Int32) (sc_shotColumns : Nat → Int32) (s2_columns : Int32) (s2_count : Int32) (s2_cornerChange : Int32) (s2_voteApart : Int32) (s2_dots : Nat → Int32) (s2_cells : Nat → Int32) (s2_shotX : Nat → Int32) (s2_shotY : Nat → Int32) (s2_shotColumns : Nat → Int32) (hi_count : Int32) (hi_states : Nat → Option Nat) (hi_held : Nat) (rf_refused : Nat → Int32) : Option (Int32 × Int32 × (Nat → Int32) × Int32 × Int32 × Int32 × Int32 × (Nat → Int32) × (Nat → Int32) × (Nat → Int32) × (Nat → Int32) × (Nat → Int32) × Int32 × (Nat → Option Nat) × Nat × (Nat → Int32)) :=
  (fHi_hold sc_columns sc_count sc_cornerChange sc_voteApart sc_dots sc_cells sc_shotX sc_shotY sc_shotColumns s2_columns s2_count s2_cornerChange s2_voteApart s2_dots s2_cells s2_shotX s2_shotY s2_shotColumns).bind fun u1 =>
  (fSc_putDot p1 p2 p3 sc_columns sc_dots).bind fun u2 =>
  (fRi_settle u2.1 ri_fresh hi_count hi_states hi_held rf_refused).bind fun u3 =>
  some (u3.1, u3.2.1, u2.2, u1.1, u1.2.1, u1.2.2.1, u1.2.2.2.1, u1.2.2.2.2.1, u1.2.2.2.2.2.1, u1.2.2.2.2.2.2.1, u1.2.2.2.2.2.2.2.1, u1.2.2.2.2.2.2.2.2, u3.2.2.1, u3.2.2.2.1, u3.2.2.2.2.1, u3.2.2.2.2.2)
def fRi_shot (p1 : Int32) (p2 : Int32) (p3 : Int32) (ri_fresh : Int32) (sc_columns : Int32) (sc_count : Int32) (sc_cornerChange : Int32) (sc_voteApart : Int32) (sc_dots : Nat → Int32) (sc_cells : Nat → Int32) (sc_shotX : Nat → Int32) (sc_shotY : Nat → Int32) (sc_shotColumns : Nat → Int32) (s2_columns : Int32) (s2_count : Int32) (s2_cornerChange : Int32) (s2_voteApart : Int32) (s2_dots : Nat → Int32) (s2_cells : Nat → Int32) (s2_shotX : Nat → Int32) (s2_shotY : Nat → Int32) (s2_shotColumns : Nat → Int32) (hi_count : Int32) (hi_states : Nat → Option Nat) (hi_held : Nat) (rf_refused : Nat → Int32) : Option (Int32 × Int32 × Int32 × (Nat → Int32) × (Nat → Int32) × (Nat → Int32) × (Nat → Int32) × Int32 × Int32 × Int32 × Int32 × (Nat → Int32) × (Nat → Int32) × (Nat → Int32) × (Nat → Int32) × (Nat → Int32) × Int32 × (Nat → Option Nat) × Nat × (Nat → Int32)) :=
  (fHi_hold sc_columns sc_count sc_cornerChange sc_voteApart sc_dots sc_cells sc_shotX sc_shotY sc_shotColumns s2_columns s2_count s2_cornerChange s2_voteApart s2_dots s2_cells s2_shotX s2_shotY s2_shotColumns).bind fun u1 =>
  (fSc_takeShot p1 p2 p3 sc_columns sc_count sc_dots sc_cells sc_shotX sc_shotY sc_shotColumns).bind fun u2 =>
  (fRi_settle u2.1 ri_fresh hi_count hi_states hi_held rf_refused).bind fun u3 =>
  some (u3.1, u3.2.1, u2.2.1, u2.2.2.1, u2.2.2.2.1, u2.2.2.2.2.1, u2.2.2.2.2.2, u1.1, u1.2.1, u1.2.2.1, u1.2.2.2.1, u1.2.2.2.2.1, u1.2.2.2.2.2.1, u1.2.2.2.2.2.2.1, u1.2.2.2.2.2.2.2.1, u1.2.2.2.2.2.2.2.2, u3.2.2.1, u3.2.2.2.1, u3.2.2.2.2.1, u3.2.2.2.2.2)
def fRi_paint (p1 : Int32) (p2 : Int32) (p3 : Int32) (p4 : Int32) (ri_fresh : Int32) (sc_columns : Int32) (sc_count : Int32) (sc_cornerChange : Int32) (sc_voteApart : Int32) (sc_dots : Nat → Int32) (sc_cells : Nat → Int32) (sc_shotX : Nat → Int32) (sc_shotY : Nat → Int32) (sc_shotColumns : Nat → Int32) (s2_columns : Int32) (s2_count : Int32) (s2_cornerChange : Int32) (s2_voteApart : Int32) (s2_dots : Nat → Int32) (s2_cells : Nat → Int32) (s2_shotX : Nat → Int32) (s2_shotY : Nat → Int32) (s2_shotColumns : Nat → Int32) (hi_count : Int32) (hi_states : Nat → Option Nat) (hi_held : Nat) (rf_refused : Nat → Int32) : Option (Int32 × Int32 × (Nat → Int32) × Int32 × Int32 × Int32 × Int32 × (Nat → Int32) × (Nat → Int32) × (Nat → Int32) × (Nat → Int32) × (Nat → Int32) × Int32 × (Nat → Option Nat) × Nat × (Nat → Int32)) :=
  (fHi_hold sc_columns sc_count sc_cornerChange sc_voteApart sc_dots sc_cells sc_shotX sc_shotY sc_shotColumns s2_columns s2_count s2_cornerChange s2_voteApart s2_dots s2_cells s2_shotX s2_shotY s2_shotColumns).bind fun u1 =>
  (fSc_putCell p1 p2 p3 p4 sc_count sc_cells).bind fun u2 =>
  (fRi_settle u2.1 ri_fresh hi_count hi_states hi_held rf_refused).bind fun u3 =>
  some (u3.1, u3.2.1, u2.2, u1.1, u1.2.1, u1.2.2.1, u1.2.2.2.1, u1.2.2.2.2.1, u1.2.2.2.2.2.1, u1.2.2.2.2.2.2.1, u1.2.2.2.2.2.2.2.1, u1.2.2.2.2.2.2.2.2, u3.2.2.1, u3.2.2.2.1, u3.2.2.2.2.1, u3.2.2.2.2.2)
def fRi_drops (p1 : Int32) (ri_fresh : Int32) (sc_columns : Int32) (sc_count : Int32) (sc_cornerChange : Int32) (sc_voteApart : Int32) (sc_dots : Nat → Int32) (sc_cells : Nat → Int32) (sc_shotX : Nat → Int32) (sc_shotY : Nat → Int32) (sc_shotColumns : Nat → Int32) (s2_columns : Int32) (s2_count : Int32) (s2_cornerChange : Int32) (s2_voteApart : Int32) (s2_dots : Nat → Int32) (s2_cells : Nat → Int32) (s2_shotX : Nat → Int32) (s2_shotY : Nat → Int32) (s2_shotColumns : Nat → Int32) (hi_count : Int32) (hi_states : Nat → Option Nat) (hi_held : Nat) (rf_refused : Nat → Int32) : Option (Int32 × Int32 × Int32 × (Nat → Int32) × (Nat → Int32) × (Nat → Int32) × (Nat → Int32) × Int32 × Int32 × Int32 × Int32 × (Nat → Int32) × (Nat → Int32) × (Nat → Int32) × (Nat → Int32) × (Nat → Int32) × Int32 × (Nat → Option Nat) × Nat × (Nat → Int32)) :=
  (fHi_hold sc_columns sc_count sc_cornerChange sc_voteApart sc_dots sc_cells sc_shotX sc_shotY sc_shotColumns s2_columns s2_count s2_cornerChange s2_voteApart s2_dots s2_cells s2_shotX s2_shotY s2_shotColumns).bind fun u1 =>
  (fSc_dropPicture p1 sc_count sc_cells sc_shotX sc_shotY sc_shotColumns).bind fun u2 =>
  (fRi_settle u2.1 ri_fresh hi_count hi_states hi_held rf_refused).bind fun u3 =>
  some (u3.1, u3.2.1, u2.2.1, u2.2.2.1, u2.2.2.2.1, u2.2.2.2.2.1, u2.2.2.2.2.2, u1.1, u1.2.1, u1.2.2.1, u1.2.2.2.1, u1.2.2.2.2.1, u1.2.2.2.2.2.1, u1.2.2.2.2.2.2.1, u1.2.2.2.2.2.2.2.1, u1.2.2.2.2.2.2.2.2, u3.2.2.1, u3.2.2.2.1, u3.2.2.2.2.1, u3.2.2.2.2.2)
def fRi_sets (p1 : Int32) (p2 : Int32) (ri_fresh : Int32) (sc_columns : Int32) (sc_count : Int32) (sc_cornerChange : Int32) (sc_voteApart : Int32) (sc_dots : Nat → Int32) (sc_cells : Nat → Int32) (sc_shotX : Nat → Int32) (sc_shotY : Nat → Int32) (sc_shotColumns : Nat → Int32) (s2_columns : Int32) (s2_count : Int32) (s2_cornerChange : Int32) (s2_voteApart : Int32) (s2_dots : Nat → Int32) (s2_cells : Nat → Int32) (s2_shotX : Nat → Int32) (s2_shotY : Nat → Int32) (s2_shotColumns : Nat → Int32) (hi_count : Int32) (hi_states : Nat → Option Nat) (hi_held : Nat) (rf_refused : Nat → Int32) : Option (Int32 × Int32 × Int32 × Int32 × Int32 × Int32 × Int32 × Int32 × (Nat → Int32) × (Nat → Int32) × (Nat → Int32) × (Nat → Int32) × (Nat → Int32) × Int32 × (Nat → Option Nat) × Nat × (Nat → Int32)) :=
  (fHi_hold sc_columns sc_count sc_cornerChange sc_voteApart sc_dots sc_cells sc_shotX sc_shotY sc_shotColumns s2_columns s2_count s2_cornerChange s2_voteApart s2_dots s2_cells s2_shotX s2_shotY s2_shotColumns).bind fun u1 =>
  (fSc_setNumber p1 p2 sc_cornerChange sc_voteApart).bind fun u2 =>
  (fRi_settle u2.1 ri_fresh hi_count hi_states hi_held rf_refused).bind fun u3 =>
  some (u3.1, u3.2.1, u2.2.1, u2.2.2, u1.1, u1.2.1, u1.2.2.1, u1.2.2.2.1, u1.2.2.2.2.1, u1.2.2.2.2.2.1, u1.2.2.2.2.2.2.1, u1.2.2.2.2.2.2.2.1, u1.2.2.2.2.2.2.2.2, u3.2.2.1, u3.2.2.2.1, u3.2.2.2.2.1, u3.2.2.2.2.2)
def fRi_value (p1 : Int32) (p2 : Int32) (p3 : Int32) (sc_columns : Int32) (sc_count : Int32) (sc_dots : Nat → Int32) (sc_cells : Nat → Int32) (rf_refused : Nat → Int32) : Option (Int32 × (Nat → Int32)) :=
  if p1 = (-1 : Int32) then
   (fSc_hasDot p2 p3 sc_columns).bind fun u6 =>
   if u6 = 0 then
    (fRi_refuse (-2 : Int32) rf_refused).bind fun u8 =>
    some (u8.1, u8.2)
   else
    (fSc_dotAt p2 p3 sc_columns sc_dots).bind fun u9 =>
    some (u9, rf_refused)
  else
   (fSc_hasCell p1 p2 p3 sc_count).bind fun u2 =>
   if u2 = 0 then
    (fRi_refuse (-2 : Int32) rf_refused).bind fun u4 =>
    some (u4.1, u4.2)
   else
    (fSc_cellAt p1 p2 p3 sc_count sc_cells).bind fun u5 =>
    some (u5, rf_refused)
def fRi_change (p1 : Int32) (p2 : Int32) (p3 : Int32) (sc_count : Int32) (sc_cells : Nat → Int32) (rf_refused : Nat → Int32) : Option (Int32 × (Nat → Int32)) :=
  (fSc_hasPicture p1 sc_count).bind fun u1 =>
  if u1 = 0 then
   (fRi_refuse (-2 : Int32) rf_refused).bind fun u3 =>
   some (u3.1, u3.2)
  else
   (fRi_isInner p2 p3).bind fun u4 =>
   if u4 = 0 then
    (fRi_refuse (-2 : Int32) rf_refused).bind fun u7 =>
    some (u7.1, u7.2)
   else
    (fLi_changeAt p1 p2 p3 sc_count sc_cells).bind fun u6 =>
    some (u6, rf_refused)
def fRi_refresh (ri_fresh : Int32) (sc_count : Int32) (sc_cornerChange : Int32) (sc_voteApart : Int32) (sc_cells : Nat → Int32) (sc_shotX : Nat → Int32) (sc_shotY : Nat → Int32) (sc_shotColumns : Nat → Int32) (li_corner : Nat → Int32) (li_most : Nat → Int32) (li_bestE : Nat → Int32) (li_bestF : Nat → Int32) (ch_taken : Int32) (ch_turn : Int32) (ch_drift : Int32) (ch_right : Int32) (ch_closed : Int32) (ch_follower : Nat → Int32) (ch_ahead : Nat → Int32) (ch_linkE : Nat → Int32) (ch_linkF : Nat → Int32) (ch_placeRight : Nat → Int32) (ch_placeLower : Nat → Int32) (se_cells : Nat → Int32) (se_apart : Nat → Int32) (se_surplus : Nat → Int32) (se_seamCost : Nat → Int32) (se_column : Nat → Int32) (se_gap : Nat → Int32) (se_cost : Nat → Int32) (le_restAbove : Int64) (le_restBelow : Int64) (le_above : Nat → Int64) (le_below : Nat → Int64) : Option (Int32 × (Nat → Int32) × (Nat → Int32) × (Nat → Int32) × (Nat → Int32) × Int32 × Int32 × Int32 × Int32 × Int32 × (Nat → Int32) × (Nat → Int32) × (Nat → Int32) × (Nat → Int32) × (Nat → Int32) × (Nat → Int32) × (Nat → Int32) × (Nat → Int32) × (Nat → Int32) × (Nat → Int32) × (Nat → Int32) × (Nat → Int32) × (Nat → Int32) × Int64 × Int64 × (Nat → Int64) × (Nat → Int64)) :=
  if ri_fresh = 0 then
   (fLi_find sc_count sc_cornerChange sc_voteApart sc_cells li_corner li_most li_bestE li_bestF).bind fun u2 =>
   (fCh_join sc_count sc_shotX sc_shotY sc_shotColumns u2.2.1 u2.2.2.1 u2.2.2.2 ch_taken ch_turn ch_drift ch_right ch_closed ch_follower ch_ahead ch_linkE ch_linkF ch_placeRight ch_placeLower).bind fun u3 =>
   (fSe_cut sc_count sc_cells u3.2.2.2.2.2.1 u3.2.2.2.2.2.2.2.1 u3.2.2.2.2.2.2.2.2.1 se_cells se_apart se_surplus se_seamCost se_column se_gap se_cost).bind fun u4 =>
   (fLe_agree sc_count u3.2.2.2.2.1 u3.2.2.2.2.2.1 u3.2.2.2.2.2.2.1 u4.1 u4.2.2.1 le_restAbove le_restBelow le_above le_below).bind fun u5 =>
   some ((1 : Int32), u2.1, u2.2.1, u2.2.2.1, u2.2.2.2, u3.1, u3.2.1, u3.2.2.1, u3.2.2.2.1, u3.2.2.2.2.1, u3.2.2.2.2.2.1, u3.2.2.2.2.2.2.1, u3.2.2.2.2.2.2.2.1, u3.2.2.2.2.2.2.2.2.1, u3.2.2.2.2.2.2.2.2.2.1, u3.2.2.2.2.2.2.2.2.2.2, u4.1, u4.2.1, u4.2.2.1, u4.2.2.2.1, u4.2.2.2.2.1, u4.2.2.2.2.2.1, u4.2.2.2.2.2.2, u5.1, u5.2.1, u5.2.2.1, u5.2.2.2)
  else
   some (ri_fresh, li_corner, li_most, li_bestE, li_bestF, ch_taken, ch_turn, ch_drift, ch_right, ch_closed, ch_follower, ch_ahead, ch_linkE, ch_linkF, ch_placeRight, ch_placeLower, se_cells, se_apart, se_surplus, se_seamCost, se_column, se_gap, se_cost, le_restAbove, le_restBelow, le_above, le_below)
def fRi_corners (p1 : Int32) (ri_fresh : Int32) (sc_count : Int32) (sc_cornerChange : Int32) (sc_voteApart : Int32) (sc_cells : Nat → Int32) (sc_shotX : Nat → Int32) (sc_shotY : Nat → Int32) (sc_shotColumns : Nat → Int32) (li_corner : Nat → Int32) (li_most : Nat → Int32) (li_bestE : Nat → Int32) (li_bestF : Nat → Int32) (ch_taken : Int32) (ch_turn : Int32) (ch_drift : Int32) (ch_right : Int32) (ch_closed : Int32) (ch_follower : Nat → Int32) (ch_ahead : Nat → Int32) (ch_linkE : Nat → Int32) (ch_linkF : Nat → Int32) (ch_placeRight : Nat → Int32) (ch_placeLower : Nat → Int32) (se_cells : Nat → Int32) (se_apart : Nat → Int32) (se_surplus : Nat → Int32) (se_seamCost : Nat → Int32) (se_column : Nat → Int32) (se_gap : Nat → Int32) (se_cost : Nat → Int32) (le_restAbove : Int64) (le_restBelow : Int64) (le_above : Nat → Int64) (le_below : Nat → Int64) (rf_refused : Nat → Int32) : Option (Int32 × Int32 × (Nat → Int32) × (Nat → Int32) × (Nat → Int32) × (Nat → Int32) × Int32 × Int32 × Int32 × Int32 × Int32 × (Nat → Int32) × (Nat → Int32) × (Nat → Int32) × (Nat → Int32) × (Nat → Int32) × (Nat → Int32) × (Nat → Int32) × (Nat → Int32) × (Nat → Int32) × (Nat → Int32) × (Nat → Int32) × (Nat → Int32) × (Nat → Int32) × Int64 × Int64 × (Nat → Int64) × (Nat → Int64) × (Nat → Int32)) :=
  (fSc_hasPicture p1 sc_count).bind fun u1 =>
  if u1 = 0 then
   (fRi_refuse (-2 : Int32) rf_refused).bind fun u5 =>
   some (u5.1, ri_fresh, li_corner, li_most, li_bestE, li_bestF, ch_taken, ch_turn, ch_drift, ch_right, ch_closed, ch_follower, ch_ahead, ch_linkE, ch_linkF, ch_placeRight, ch_placeLower, se_cells, se_apart, se_surplus, se_seamCost, se_column, se_gap, se_cost, le_restAbove, le_restBelow, le_above, le_below, u5.2)
  else
   (fRi_refresh ri_fresh sc_count sc_cornerChange sc_voteApart sc_cells sc_shotX sc_shotY sc_shotColumns li_corner li_most li_bestE li_bestF ch_taken ch_turn ch_drift ch_right ch_closed ch_follower ch_ahead ch_linkE ch_linkF ch_placeRight ch_placeLower se_cells se_apart se_surplus se_seamCost se_column se_gap se_cost le_restAbove le_restBelow le_above le_below).bind fun u3 =>
   (fLi_cornerBits p1 u3.2.1).bind fun u4 =>
   some (u4, u3.1, u3.2.1, u3.2.2.1, u3.2.2.2.1, u3.2.2.2.2.1, u3.2.2.2.2.2.1, u3.2.2.2.2.2.2.1, u3.2.2.2.2.2.2.2.1, u3.2.2.2.2.2.2.2.2.1, u3.2.2.2.2.2.2.2.2.2.1, u3.2.2.2.2.2.2.2.2.2.2.1, u3.2.2.2.2.2.2.2.2.2.2.2.1, u3.2.2.2.2.2.2.2.2.2.2.2.2.1, u3.2.2.2.2.2.2.2.2.2.2.2.2.2.1, u3.2.2.2.2.2.2.2.2.2.2.2.2.2.2.1, u3.2.2.2.2.2.2.2.2.2.2.2.2.2.2.2.1, u3.2.2.2.2.2.2.2.2.2.2.2.2.2.2.2.2.1, u3.2.2.2.2.2.2.2.2.2.2.2.2.2.2.2.2.2.1, u3.2.2.2.2.2.2.2.2.2.2.2.2.2.2.2.2.2.2.1, u3.2.2.2.2.2.2.2.2.2.2.2.2.2.2.2.2.2.2.2.1, u3.2.2.2.2.2.2.2.2.2.2.2.2.2.2.2.2.2.2.2.2.1, u3.2.2.2.2.2.2.2.2.2.2.2.2.2.2.2.2.2.2.2.2.2.1, u3.2.2.2.2.2.2.2.2.2.2.2.2.2.2.2.2.2.2.2.2.2.2.1, u3.2.2.2.2.2.2.2.2.2.2.2.2.2.2.2.2.2.2.2.2.2.2.2.1, u3.2.2.2.2.2.2.2.2.2.2.2.2.2.2.2.2.2.2.2.2.2.2.2.2.1, u3.2.2.2.2.2.2.2.2.2.2.2.2.2.2.2.2.2.2.2.2.2.2.2.2.2.1, u3.2.2.2.2.2.2.2.2.2.2.2.2.2.2.2.2.2.2.2.2.2.2.2.2.2.2, rf_refused)
def fRi_isPair (p1 : Int32) (p2 : Int32) (sc_count : Int32) : Option (Int32) :=
  (fSc_hasPicture p1 sc_count).bind fun u1 =>
  if u1 = 0 then
   some (0 : Int32)
  else
   (fSc_hasPicture p2 sc_count).bind fun u3 =>
   if u3 = 0 then
    some (0 : Int32)
   else
    if p1 = p2 then
     some (0 : Int32)
    else
     some (1 : Int32)
def fRi_votes (p1 : Int32) (p2 : Int32) (p3 : Int32) (p4 : Int32) (ri_fresh : Int32) (sc_count : Int32) (sc_cornerChange : Int32) (sc_voteApart : Int32) (sc_cells : Nat → Int32) (sc_shotX : Nat → Int32) (sc_shotY : Nat → Int32) (sc_shotColumns : Nat → Int32) (li_corner : Nat → Int32) (li_most : Nat → Int32) (li_bestE : Nat → Int32) (li_bestF : Nat → Int32) (ch_taken : Int32) (ch_turn : Int32) (ch_drift : Int32) (ch_right : Int32) (ch_closed : Int32) (ch_follower : Nat → Int32) (ch_ahead : Nat → Int32) (ch_linkE : Nat → Int32) (ch_linkF : Nat → Int32) (ch_placeRight : Nat → Int32) (ch_placeLower : Nat → Int32) (se_cells : Nat → Int32) (se_apart : Nat → Int32) (se_surplus : Nat → Int32) (se_seamCost : Nat → Int32) (se_column : Nat → Int32) (se_gap : Nat → Int32) (se_cost : Nat → Int32) (le_restAbove : Int64) (le_restBelow : Int64) (le_above : Nat → Int64) (le_below : Nat → Int64) (rf_refused : Nat → Int32) : Option (Int32 × Int32 × (Nat → Int32) × (Nat → Int32) × (Nat → Int32) × (Nat → Int32) × Int32 × Int32 × Int32 × Int32 × Int32 × (Nat → Int32) × (Nat → Int32) × (Nat → Int32) × (Nat → Int32) × (Nat → Int32) × (Nat → Int32) × (Nat → Int32) × (Nat → Int32) × (Nat → Int32) × (Nat → Int32) × (Nat → Int32) × (Nat → Int32) × (Nat → Int32) × Int64 × Int64 × (Nat → Int64) × (Nat → Int64) × (Nat → Int32)) :=
  (fRi_isPair p1 p2 sc_count).bind fun u1 =>
  if u1 = 0 then
   (fRi_refuse (-2 : Int32) rf_refused).bind fun u3 =>
   some (u3.1, ri_fresh, li_corner, li_most, li_bestE, li_bestF, ch_taken, ch_turn, ch_drift, ch_right, ch_closed, ch_follower, ch_ahead, ch_linkE, ch_linkF, ch_placeRight, ch_placeLower, se_cells, se_apart, se_surplus, se_seamCost, se_column, se_gap, se_cost, le_restAbove, le_restBelow, le_above, le_below, u3.2)
  else
   (fRi_within p3 (-1 : Int32) (1 : Int32)).bind fun u4 =>
   if u4 = 0 then
    (fRi_refuse (-2 : Int32) rf_refused).bind fun u6 =>
    some (u6.1, ri_fresh, li_corner, li_most, li_bestE, li_bestF, ch_taken, ch_turn, ch_drift, ch_right, ch_closed, ch_follower, ch_ahead, ch_linkE, ch_linkF, ch_placeRight, ch_placeLower, se_cells, se_apart, se_surplus, se_seamCost, se_column, se_gap, se_cost, le_restAbove, le_restBelow, le_above, le_below, u6.2)
   else
    (fRi_within p4 (1 : Int32) (5 : Int32)).bind fun u7 =>
    if u7 = 0 then
     (fRi_refuse (-2 : Int32) rf_refused).bind fun u11 =>
     some (u11.1, ri_fresh, li_corner, li_most, li_bestE, li_bestF, ch_taken, ch_turn, ch_drift, ch_right, ch_closed, ch_follower, ch_ahead, ch_linkE, ch_linkF, ch_placeRight, ch_placeLower, se_cells, se_apart, se_surplus, se_seamCost, se_column, se_gap, se_cost, le_restAbove, le_restBelow, le_above, le_below, u11.2)
    else
     (fRi_refresh ri_fresh sc_count sc_cornerChange sc_voteApart sc_cells sc_shotX sc_shotY sc_shotColumns li_corner li_most li_bestE li_bestF ch_taken ch_turn ch_drift ch_right ch_closed ch_follower ch_ahead ch_linkE ch_linkF ch_placeRight ch_placeLower se_cells se_apart se_surplus se_seamCost se_column se_gap se_cost le_restAbove le_restBelow le_above le_below).bind fun u9 =>
     (fLi_countVotes p1 p2 p3 p4 sc_count sc_voteApart sc_cells u9.2.1).bind fun u10 =>
     some (u10, u9.1, u9.2.1, u9.2.2.1, u9.2.2.2.1, u9.2.2.2.2.1, u9.2.2.2.2.2.1, u9.2.2.2.2.2.2.1, u9.2.2.2.2.2.2.2.1, u9.2.2.2.2.2.2.2.2.1, u9.2.2.2.2.2.2.2.2.2.1, u9.2.2.2.2.2.2.2.2.2.2.1, u9.2.2.2.2.2.2.2.2.2.2.2.1, u9.2.2.2.2.2.2.2.2.2.2.2.2.1, u9.2.2.2.2.2.2.2.2.2.2.2.2.2.1, u9.2.2.2.2.2.2.2.2.2.2.2.2.2.2.1, u9.2.2.2.2.2.2.2.2.2.2.2.2.2.2.2.1, u9.2.2.2.2.2.2.2.2.2.2.2.2.2.2.2.2.1, u9.2.2.2.2.2.2.2.2.2.2.2.2.2.2.2.2.2.1, u9.2.2.2.2.2.2.2.2.2.2.2.2.2.2.2.2.2.2.1, u9.2.2.2.2.2.2.2.2.2.2.2.2.2.2.2.2.2.2.2.1, u9.2.2.2.2.2.2.2.2.2.2.2.2.2.2.2.2.2.2.2.2.1, u9.2.2.2.2.2.2.2.2.2.2.2.2.2.2.2.2.2.2.2.2.2.1, u9.2.2.2.2.2.2.2.2.2.2.2.2.2.2.2.2.2.2.2.2.2.2.1, u9.2.2.2.2.2.2.2.2.2.2.2.2.2.2.2.2.2.2.2.2.2.2.2.1, u9.2.2.2.2.2.2.2.2.2.2.2.2.2.2.2.2.2.2.2.2.2.2.2.2.1, u9.2.2.2.2.2.2.2.2.2.2.2.2.2.2.2.2.2.2.2.2.2.2.2.2.2.1, u9.2.2.2.2.2.2.2.2.2.2.2.2.2.2.2.2.2.2.2.2.2.2.2.2.2.2, rf_refused)
def fRi_link (p1 : Int32) (p2 : Int32) (p3 : Int32) (ri_fresh : Int32) (sc_count : Int32) (sc_cornerChange : Int32) (sc_voteApart : Int32) (sc_cells : Nat → Int32) (sc_shotX : Nat → Int32) (sc_shotY : Nat → Int32) (sc_shotColumns : Nat → Int32) (li_corner : Nat → Int32) (li_most : Nat → Int32) (li_bestE : Nat → Int32) (li_bestF : Nat → Int32) (ch_taken : Int32) (ch_turn : Int32) (ch_drift : Int32) (ch_right : Int32) (ch_closed : Int32) (ch_follower : Nat → Int32) (ch_ahead : Nat → Int32) (ch_linkE : Nat → Int32) (ch_linkF : Nat → Int32) (ch_placeRight : Nat → Int32) (ch_placeLower : Nat → Int32) (se_cells : Nat → Int32) (se_apart : Nat → Int32) (se_surplus : Nat → Int32) (se_seamCost : Nat → Int32) (se_column : Nat → Int32) (se_gap : Nat → Int32) (se_cost : Nat → Int32) (le_restAbove : Int64) (le_restBelow : Int64) (le_above : Nat → Int64) (le_below : Nat → Int64) (rf_refused : Nat → Int32) : Option (Int32 × Int32 × (Nat → Int32) × (Nat → Int32) × (Nat → Int32) × (Nat → Int32) × Int32 × Int32 × Int32 × Int32 × Int32 × (Nat → Int32) × (Nat → Int32) × (Nat → Int32) × (Nat → Int32) × (Nat → Int32) × (Nat → Int32) × (Nat → Int32) × (Nat → Int32) × (Nat → Int32) × (Nat → Int32) × (Nat → Int32) × (Nat → Int32) × (Nat → Int32) × Int64 × Int64 × (Nat → Int64) × (Nat → Int64) × (Nat → Int32)) :=
  (fRi_isPair p1 p2 sc_count).bind fun u1 =>
  if u1 = 0 then
   (fRi_refuse (-2 : Int32) rf_refused).bind fun u3 =>
   some (u3.1, ri_fresh, li_corner, li_most, li_bestE, li_bestF, ch_taken, ch_turn, ch_drift, ch_right, ch_closed, ch_follower, ch_ahead, ch_linkE, ch_linkF, ch_placeRight, ch_placeLower, se_cells, se_apart, se_surplus, se_seamCost, se_column, se_gap, se_cost, le_restAbove, le_restBelow, le_above, le_below, u3.2)
  else
   (fRi_within p3 (0 : Int32) (2 : Int32)).bind fun u4 =>
   if u4 = 0 then
    (fRi_refuse (-2 : Int32) rf_refused).bind fun u13 =>
    some (u13.1, ri_fresh, li_corner, li_most, li_bestE, li_bestF, ch_taken, ch_turn, ch_drift, ch_right, ch_closed, ch_follower, ch_ahead, ch_linkE, ch_linkF, ch_placeRight, ch_placeLower, se_cells, se_apart, se_surplus, se_seamCost, se_column, se_gap, se_cost, le_restAbove, le_restBelow, le_above, le_below, u13.2)
   else
    (fRi_refresh ri_fresh sc_count sc_cornerChange sc_voteApart sc_cells sc_shotX sc_shotY sc_shotColumns li_corner li_most li_bestE li_bestF ch_taken ch_turn ch_drift ch_right ch_closed ch_follower ch_ahead ch_linkE ch_linkF ch_placeRight ch_placeLower se_cells se_apart se_surplus se_seamCost se_column se_gap se_cost le_restAbove le_restBelow le_above le_below).bind fun u6 =>
    (fLi_votesOf p1 p2 u6.2.2.1).bind fun u7 =>
    if p3 = 0 then
     some (u7, u6.1, u6.2.1, u6.2.2.1, u6.2.2.2.1, u6.2.2.2.2.1, u6.2.2.2.2.2.1, u6.2.2.2.2.2.2.1, u6.2.2.2.2.2.2.2.1, u6.2.2.2.2.2.2.2.2.1, u6.2.2.2.2.2.2.2.2.2.1, u6.2.2.2.2.2.2.2.2.2.2.1, u6.2.2.2.2.2.2.2.2.2.2.2.1, u6.2.2.2.2.2.2.2.2.2.2.2.2.1, u6.2.2.2.2.2.2.2.2.2.2.2.2.2.1, u6.2.2.2.2.2.2.2.2.2.2.2.2.2.2.1, u6.2.2.2.2.2.2.2.2.2.2.2.2.2.2.2.1, u6.2.2.2.2.2.2.2.2.2.2.2.2.2.2.2.2.1, u6.2.2.2.2.2.2.2.2.2.2.2.2.2.2.2.2.2.1, u6.2.2.2.2.2.2.2.2.2.2.2.2.2.2.2.2.2.2.1, u6.2.2.2.2.2.2.2.2.2.2.2.2.2.2.2.2.2.2.2.1, u6.2.2.2.2.2.2.2.2.2.2.2.2.2.2.2.2.2.2.2.2.1, u6.2.2.2.2.2.2.2.2.2.2.2.2.2.2.2.2.2.2.2.2.2.1, u6.2.2.2.2.2.2.2.2.2.2.2.2.2.2.2.2.2.2.2.2.2.2.1, u6.2.2.2.2.2.2.2.2.2.2.2.2.2.2.2.2.2.2.2.2.2.2.2.1, u6.2.2.2.2.2.2.2.2.2.2.2.2.2.2.2.2.2.2.2.2.2.2.2.2.1, u6.2.2.2.2.2.2.2.2.2.2.2.2.2.2.2.2.2.2.2.2.2.2.2.2.2.1, u6.2.2.2.2.2.2.2.2.2.2.2.2.2.2.2.2.2.2.2.2.2.2.2.2.2.2, rf_refused)
    else
     if u7 = 0 then
      some ((-1 : Int32), u6.1, u6.2.1, u6.2.2.1, u6.2.2.2.1, u6.2.2.2.2.1, u6.2.2.2.2.2.1, u6.2.2.2.2.2.2.1, u6.2.2.2.2.2.2.2.1, u6.2.2.2.2.2.2.2.2.1, u6.2.2.2.2.2.2.2.2.2.1, u6.2.2.2.2.2.2.2.2.2.2.1, u6.2.2.2.2.2.2.2.2.2.2.2.1, u6.2.2.2.2.2.2.2.2.2.2.2.2.1, u6.2.2.2.2.2.2.2.2.2.2.2.2.2.1, u6.2.2.2.2.2.2.2.2.2.2.2.2.2.2.1, u6.2.2.2.2.2.2.2.2.2.2.2.2.2.2.2.1, u6.2.2.2.2.2.2.2.2.2.2.2.2.2.2.2.2.1, u6.2.2.2.2.2.2.2.2.2.2.2.2.2.2.2.2.2.1, u6.2.2.2.2.2.2.2.2.2.2.2.2.2.2.2.2.2.2.1, u6.2.2.2.2.2.2.2.2.2.2.2.2.2.2.2.2.2.2.2.1, u6.2.2.2.2.2.2.2.2.2.2.2.2.2.2.2.2.2.2.2.2.1, u6.2.2.2.2.2.2.2.2.2.2.2.2.2.2.2.2.2.2.2.2.2.1, u6.2.2.2.2.2.2.2.2.2.2.2.2.2.2.2.2.2.2.2.2.2.2.1, u6.2.2.2.2.2.2.2.2.2.2.2.2.2.2.2.2.2.2.2.2.2.2.2.1, u6.2.2.2.2.2.2.2.2.2.2.2.2.2.2.2.2.2.2.2.2.2.2.2.2.1, u6.2.2.2.2.2.2.2.2.2.2.2.2.2.2.2.2.2.2.2.2.2.2.2.2.2.1, u6.2.2.2.2.2.2.2.2.2.2.2.2.2.2.2.2.2.2.2.2.2.2.2.2.2.2, rf_refused)
     else
      if p3 = (1 : Int32) then
       (fLi_shiftE p1 p2 u6.2.2.2.1).bind fun u12 =>
       some ((u12 + (1 : Int32)), u6.1, u6.2.1, u6.2.2.1, u6.2.2.2.1, u6.2.2.2.2.1, u6.2.2.2.2.2.1, u6.2.2.2.2.2.2.1, u6.2.2.2.2.2.2.2.1, u6.2.2.2.2.2.2.2.2.1, u6.2.2.2.2.2.2.2.2.2.1, u6.2.2.2.2.2.2.2.2.2.2.1, u6.2.2.2.2.2.2.2.2.2.2.2.1, u6.2.2.2.2.2.2.2.2.2.2.2.2.1, u6.2.2.2.2.2.2.2.2.2.2.2.2.2.1, u6.2.2.2.2.2.2.2.2.2.2.2.2.2.2.1, u6.2.2.2.2.2.2.2.2.2.2.2.2.2.2.2.1, u6.2.2.2.2.2.2.2.2.2.2.2.2.2.2.2.2.1, u6.2.2.2.2.2.2.2.2.2.2.2.2.2.2.2.2.2.1, u6.2.2.2.2.2.2.2.2.2.2.2.2.2.2.2.2.2.2.1, u6.2.2.2.2.2.2.2.2.2.2.2.2.2.2.2.2.2.2.2.1, u6.2.2.2.2.2.2.2.2.2.2.2.2.2.2.2.2.2.2.2.2.1, u6.2.2.2.2.2.2.2.2.2.2.2.2.2.2.2.2.2.2.2.2.2.1, u6.2.2.2.2.2.2.2.2.2.2.2.2.2.2.2.2.2.2.2.2.2.2.1, u6.2.2.2.2.2.2.2.2.2.2.2.2.2.2.2.2.2.2.2.2.2.2.2.1, u6.2.2.2.2.2.2.2.2.2.2.2.2.2.2.2.2.2.2.2.2.2.2.2.2.1, u6.2.2.2.2.2.2.2.2.2.2.2.2.2.2.2.2.2.2.2.2.2.2.2.2.2.1, u6.2.2.2.2.2.2.2.2.2.2.2.2.2.2.2.2.2.2.2.2.2.2.2.2.2.2, rf_refused)
      else
       (fLi_shiftF p1 p2 u6.2.2.2.2.1).bind fun u11 =>
       some (u11, u6.1, u6.2.1, u6.2.2.1, u6.2.2.2.1, u6.2.2.2.2.1, u6.2.2.2.2.2.1, u6.2.2.2.2.2.2.1, u6.2.2.2.2.2.2.2.1, u6.2.2.2.2.2.2.2.2.1, u6.2.2.2.2.2.2.2.2.2.1, u6.2.2.2.2.2.2.2.2.2.2.1, u6.2.2.2.2.2.2.2.2.2.2.2.1, u6.2.2.2.2.2.2.2.2.2.2.2.2.1, u6.2.2.2.2.2.2.2.2.2.2.2.2.2.1, u6.2.2.2.2.2.2.2.2.2.2.2.2.2.2.1, u6.2.2.2.2.2.2.2.2.2.2.2.2.2.2.2.1, u6.2.2.2.2.2.2.2.2.2.2.2.2.2.2.2.2.1, u6.2.2.2.2.2.2.2.2.2.2.2.2.2.2.2.2.2.1, u6.2.2.2.2.2.2.2.2.2.2.2.2.2.2.2.2.2.2.1, u6.2.2.2.2.2.2.2.2.2.2.2.2.2.2.2.2.2.2.2.1, u6.2.2.2.2.2.2.2.2.2.2.2.2.2.2.2.2.2.2.2.2.1, u6.2.2.2.2.2.2.2.2.2.2.2.2.2.2.2.2.2.2.2.2.2.1, u6.2.2.2.2.2.2.2.2.2.2.2.2.2.2.2.2.2.2.2.2.2.2.1, u6.2.2.2.2.2.2.2.2.2.2.2.2.2.2.2.2.2.2.2.2.2.2.2.1, u6.2.2.2.2.2.2.2.2.2.2.2.2.2.2.2.2.2.2.2.2.2.2.2.2.1, u6.2.2.2.2.2.2.2.2.2.2.2.2.2.2.2.2.2.2.2.2.2.2.2.2.2.1, u6.2.2.2.2.2.2.2.2.2.2.2.2.2.2.2.2.2.2.2.2.2.2.2.2.2.2, rf_refused)
def fRi_chain (p1 : Int32) (p2 : Int32) (ri_fresh : Int32) (sc_count : Int32) (sc_cornerChange : Int32) (sc_voteApart : Int32) (sc_cells : Nat → Int32) (sc_shotX : Nat → Int32) (sc_shotY : Nat → Int32) (sc_shotColumns : Nat → Int32) (li_corner : Nat → Int32) (li_most : Nat → Int32) (li_bestE : Nat → Int32) (li_bestF : Nat → Int32) (ch_taken : Int32) (ch_turn : Int32) (ch_drift : Int32) (ch_right : Int32) (ch_closed : Int32) (ch_follower : Nat → Int32) (ch_ahead : Nat → Int32) (ch_linkE : Nat → Int32) (ch_linkF : Nat → Int32) (ch_placeRight : Nat → Int32) (ch_placeLower : Nat → Int32) (se_cells : Nat → Int32) (se_apart : Nat → Int32) (se_surplus : Nat → Int32) (se_seamCost : Nat → Int32) (se_column : Nat → Int32) (se_gap : Nat → Int32) (se_cost : Nat → Int32) (le_restAbove : Int64) (le_restBelow : Int64) (le_above : Nat → Int64) (le_below : Nat → Int64) (rf_refused : Nat → Int32) : Option (Int32 × Int32 × (Nat → Int32) × (Nat → Int32) × (Nat → Int32) × (Nat → Int32) × Int32 × Int32 × Int32 × Int32 × Int32 × (Nat → Int32) × (Nat → Int32) × (Nat → Int32) × (Nat → Int32) × (Nat → Int32) × (Nat → Int32) × (Nat → Int32) × (Nat → Int32) × (Nat → Int32) × (Nat → Int32) × (Nat → Int32) × (Nat → Int32) × (Nat → Int32) × Int64 × Int64 × (Nat → Int64) × (Nat → Int64) × (Nat → Int32)) :=
  (fSc_hasPicture p1 sc_count).bind fun u1 =>
  if u1 = 0 then
   (fRi_refuse (-2 : Int32) rf_refused).bind fun u3 =>
   some (u3.1, ri_fresh, li_corner, li_most, li_bestE, li_bestF, ch_taken, ch_turn, ch_drift, ch_right, ch_closed, ch_follower, ch_ahead, ch_linkE, ch_linkF, ch_placeRight, ch_placeLower, se_cells, se_apart, se_surplus, se_seamCost, se_column, se_gap, se_cost, le_restAbove, le_restBelow, le_above, le_below, u3.2)
  else
   (fRi_within p2 (0 : Int32) (1 : Int32)).bind fun u4 =>
   if u4 = 0 then
    (fRi_refuse (-2 : Int32) rf_refused).bind fun u10 =>
    some (u10.1, ri_fresh, li_corner, li_most, li_bestE, li_bestF, ch_taken, ch_turn, ch_drift, ch_right, ch_closed, ch_follower, ch_ahead, ch_linkE, ch_linkF, ch_placeRight, ch_placeLower, se_cells, se_apart, se_surplus, se_seamCost, se_column, se_gap, se_cost, le_restAbove, le_restBelow, le_above, le_below, u10.2)
   else
    (fRi_refresh ri_fresh sc_count sc_cornerChange sc_voteApart sc_cells sc_shotX sc_shotY sc_shotColumns li_corner li_most li_bestE li_bestF ch_taken ch_turn ch_drift ch_right ch_closed ch_follower ch_ahead ch_linkE ch_linkF ch_placeRight ch_placeLower se_cells se_apart se_surplus se_seamCost se_column se_gap se_cost le_restAbove le_restBelow le_above le_below).bind fun u6 =>
    if p2 = 0 then
     (fCh_followerOf p1 u6.2.2.2.2.2.2.2.2.2.2.1).bind fun u9 =>
     some (u9, u6.1, u6.2.1, u6.2.2.1, u6.2.2.2.1, u6.2.2.2.2.1, u6.2.2.2.2.2.1, u6.2.2.2.2.2.2.1, u6.2.2.2.2.2.2.2.1, u6.2.2.2.2.2.2.2.2.1, u6.2.2.2.2.2.2.2.2.2.1, u6.2.2.2.2.2.2.2.2.2.2.1, u6.2.2.2.2.2.2.2.2.2.2.2.1, u6.2.2.2.2.2.2.2.2.2.2.2.2.1, u6.2.2.2.2.2.2.2.2.2.2.2.2.2.1, u6.2.2.2.2.2.2.2.2.2.2.2.2.2.2.1, u6.2.2.2.2.2.2.2.2.2.2.2.2.2.2.2.1, u6.2.2.2.2.2.2.2.2.2.2.2.2.2.2.2.2.1, u6.2.2.2.2.2.2.2.2.2.2.2.2.2.2.2.2.2.1, u6.2.2.2.2.2.2.2.2.2.2.2.2.2.2.2.2.2.2.1, u6.2.2.2.2.2.2.2.2.2.2.2.2.2.2.2.2.2.2.2.1, u6.2.2.2.2.2.2.2.2.2.2.2.2.2.2.2.2.2.2.2.2.1, u6.2.2.2.2.2.2.2.2.2.2.2.2.2.2.2.2.2.2.2.2.2.1, u6.2.2.2.2.2.2.2.2.2.2.2.2.2.2.2.2.2.2.2.2.2.2.1, u6.2.2.2.2.2.2.2.2.2.2.2.2.2.2.2.2.2.2.2.2.2.2.2.1, u6.2.2.2.2.2.2.2.2.2.2.2.2.2.2.2.2.2.2.2.2.2.2.2.2.1, u6.2.2.2.2.2.2.2.2.2.2.2.2.2.2.2.2.2.2.2.2.2.2.2.2.2.1, u6.2.2.2.2.2.2.2.2.2.2.2.2.2.2.2.2.2.2.2.2.2.2.2.2.2.2, rf_refused)
    else
     (fCh_aheadOf p1 u6.2.2.2.2.2.2.2.2.2.2.2.1).bind fun u8 =>
     some (u8, u6.1, u6.2.1, u6.2.2.1, u6.2.2.2.1, u6.2.2.2.2.1, u6.2.2.2.2.2.1, u6.2.2.2.2.2.2.1, u6.2.2.2.2.2.2.2.1, u6.2.2.2.2.2.2.2.2.1, u6.2.2.2.2.2.2.2.2.2.1, u6.2.2.2.2.2.2.2.2.2.2.1, u6.2.2.2.2.2.2.2.2.2.2.2.1, u6.2.2.2.2.2.2.2.2.2.2.2.2.1, u6.2.2.2.2.2.2.2.2.2.2.2.2.2.1, u6.2.2.2.2.2.2.2.2.2.2.2.2.2.2.1, u6.2.2.2.2.2.2.2.2.2.2.2.2.2.2.2.1, u6.2.2.2.2.2.2.2.2.2.2.2.2.2.2.2.2.1, u6.2.2.2.2.2.2.2.2.2.2.2.2.2.2.2.2.2.1, u6.2.2.2.2.2.2.2.2.2.2.2.2.2.2.2.2.2.2.1, u6.2.2.2.2.2.2.2.2.2.2.2.2.2.2.2.2.2.2.2.1, u6.2.2.2.2.2.2.2.2.2.2.2.2.2.2.2.2.2.2.2.2.1, u6.2.2.2.2.2.2.2.2.2.2.2.2.2.2.2.2.2.2.2.2.2.1, u6.2.2.2.2.2.2.2.2.2.2.2.2.2.2.2.2.2.2.2.2.2.2.1, u6.2.2.2.2.2.2.2.2.2.2.2.2.2.2.2.2.2.2.2.2.2.2.2.1, u6.2.2.2.2.2.2.2.2.2.2.2.2.2.2.2.2.2.2.2.2.2.2.2.2.1, u6.2.2.2.2.2.2.2.2.2.2.2.2.2.2.2.2.2.2.2.2.2.2.2.2.2.1, u6.2.2.2.2.2.2.2.2.2.2.2.2.2.2.2.2.2.2.2.2.2.2.2.2.2.2, rf_refused)
def fRi_aboutAll (p1 : Int32) (sc_count : Int32) (ch_taken : Int32) (ch_turn : Int32) (ch_drift : Int32) (ch_right : Int32) (ch_closed : Int32) : Option (Int32) :=
  if p1 = (0 : Int32) then
   some ch_taken
  else
   if p1 = (1 : Int32) then
    if ch_closed = 0 then
     some (0 : Int32)
    else
     some (1 : Int32)
   else
    if p1 = (2 : Int32) then
     some ch_turn
    else
     if p1 = (3 : Int32) then
      some (ch_drift + (6 : Int32))
     else
      if p1 = (4 : Int32) then
       some ch_right
      else
       some (sc_count - ch_taken)
def fRi_all (p1 : Int32) (ri_fresh : Int32) (sc_count : Int32) (sc_cornerChange : Int32) (sc_voteApart : Int32) (sc_cells : Nat → Int32) (sc_shotX : Nat → Int32) (sc_shotY : Nat → Int32) (sc_shotColumns : Nat → Int32) (li_corner : Nat → Int32) (li_most : Nat → Int32) (li_bestE : Nat → Int32) (li_bestF : Nat → Int32) (ch_taken : Int32) (ch_turn : Int32) (ch_drift : Int32) (ch_right : Int32) (ch_closed : Int32) (ch_follower : Nat → Int32) (ch_ahead : Nat → Int32) (ch_linkE : Nat → Int32) (ch_linkF : Nat → Int32) (ch_placeRight : Nat → Int32) (ch_placeLower : Nat → Int32) (se_cells : Nat → Int32) (se_apart : Nat → Int32) (se_surplus : Nat → Int32) (se_seamCost : Nat → Int32) (se_column : Nat → Int32) (se_gap : Nat → Int32) (se_cost : Nat → Int32) (le_restAbove : Int64) (le_restBelow : Int64) (le_above : Nat → Int64) (le_below : Nat → Int64) (rf_refused : Nat → Int32) : Option (Int32 × Int32 × (Nat → Int32) × (Nat → Int32) × (Nat → Int32) × (Nat → Int32) × Int32 × Int32 × Int32 × Int32 × Int32 × (Nat → Int32) × (Nat → Int32) × (Nat → Int32) × (Nat → Int32) × (Nat → Int32) × (Nat → Int32) × (Nat → Int32) × (Nat → Int32) × (Nat → Int32) × (Nat → Int32) × (Nat → Int32) × (Nat → Int32) × (Nat → Int32) × Int64 × Int64 × (Nat → Int64) × (Nat → Int64) × (Nat → Int32)) :=
  (fRi_within p1 (0 : Int32) (5 : Int32)).bind fun u1 =>
  if u1 = 0 then
   (fRi_refuse (-2 : Int32) rf_refused).bind fun u5 =>
   some (u5.1, ri_fresh, li_corner, li_most, li_bestE, li_bestF, ch_taken, ch_turn, ch_drift, ch_right, ch_closed, ch_follower, ch_ahead, ch_linkE, ch_linkF, ch_placeRight, ch_placeLower, se_cells, se_apart, se_surplus, se_seamCost, se_column, se_gap, se_cost, le_restAbove, le_restBelow, le_above, le_below, u5.2)
  else
   (fRi_refresh ri_fresh sc_count sc_cornerChange sc_voteApart sc_cells sc_shotX sc_shotY sc_shotColumns li_corner li_most li_bestE li_bestF ch_taken ch_turn ch_drift ch_right ch_closed ch_follower ch_ahead ch_linkE ch_linkF ch_placeRight ch_placeLower se_cells se_apart se_surplus se_seamCost se_column se_gap se_cost le_restAbove le_restBelow le_above le_below).bind fun u3 =>
   (fRi_aboutAll p1 sc_count u3.2.2.2.2.2.1 u3.2.2.2.2.2.2.1 u3.2.2.2.2.2.2.2.1 u3.2.2.2.2.2.2.2.2.1 u3.2.2.2.2.2.2.2.2.2.1).bind fun u4 =>
   some (u4, u3.1, u3.2.1, u3.2.2.1, u3.2.2.2.1, u3.2.2.2.2.1, u3.2.2.2.2.2.1, u3.2.2.2.2.2.2.1, u3.2.2.2.2.2.2.2.1, u3.2.2.2.2.2.2.2.2.1, u3.2.2.2.2.2.2.2.2.2.1, u3.2.2.2.2.2.2.2.2.2.2.1, u3.2.2.2.2.2.2.2.2.2.2.2.1, u3.2.2.2.2.2.2.2.2.2.2.2.2.1, u3.2.2.2.2.2.2.2.2.2.2.2.2.2.1, u3.2.2.2.2.2.2.2.2.2.2.2.2.2.2.1, u3.2.2.2.2.2.2.2.2.2.2.2.2.2.2.2.1, u3.2.2.2.2.2.2.2.2.2.2.2.2.2.2.2.2.1, u3.2.2.2.2.2.2.2.2.2.2.2.2.2.2.2.2.2.1, u3.2.2.2.2.2.2.2.2.2.2.2.2.2.2.2.2.2.2.1, u3.2.2.2.2.2.2.2.2.2.2.2.2.2.2.2.2.2.2.2.1, u3.2.2.2.2.2.2.2.2.2.2.2.2.2.2.2.2.2.2.2.2.1, u3.2.2.2.2.2.2.2.2.2.2.2.2.2.2.2.2.2.2.2.2.2.1, u3.2.2.2.2.2.2.2.2.2.2.2.2.2.2.2.2.2.2.2.2.2.2.1, u3.2.2.2.2.2.2.2.2.2.2.2.2.2.2.2.2.2.2.2.2.2.2.2.1, u3.2.2.2.2.2.2.2.2.2.2.2.2.2.2.2.2.2.2.2.2.2.2.2.2.1, u3.2.2.2.2.2.2.2.2.2.2.2.2.2.2.2.2.2.2.2.2.2.2.2.2.2.1, u3.2.2.2.2.2.2.2.2.2.2.2.2.2.2.2.2.2.2.2.2.2.2.2.2.2.2, rf_refused)
def fRi_place (p1 : Int32) (p2 : Int32) (ri_fresh : Int32) (sc_count : Int32) (sc_cornerChange : Int32) (sc_voteApart : Int32) (sc_cells : Nat → Int32) (sc_shotX : Nat → Int32) (sc_shotY : Nat → Int32) (sc_shotColumns : Nat → Int32) (li_corner : Nat → Int32) (li_most : Nat → Int32) (li_bestE : Nat → Int32) (li_bestF : Nat → Int32) (ch_taken : Int32) (ch_turn : Int32) (ch_drift : Int32) (ch_right : Int32) (ch_closed : Int32) (ch_follower : Nat → Int32) (ch_ahead : Nat → Int32) (ch_linkE : Nat → Int32) (ch_linkF : Nat → Int32) (ch_placeRight : Nat → Int32) (ch_placeLower : Nat → Int32) (se_cells : Nat → Int32) (se_apart : Nat → Int32) (se_surplus : Nat → Int32) (se_seamCost : Nat → Int32) (se_column : Nat → Int32) (se_gap : Nat → Int32) (se_cost : Nat → Int32) (le_restAbove : Int64) (le_restBelow : Int64) (le_above : Nat → Int64) (le_below : Nat → Int64) (rf_refused : Nat → Int32) : Option (Int32 × Int32 × (Nat → Int32) × (Nat → Int32) × (Nat → Int32) × (Nat → Int32) × Int32 × Int32 × Int32 × Int32 × Int32 × (Nat → Int32) × (Nat → Int32) × (Nat → Int32) × (Nat → Int32) × (Nat → Int32) × (Nat → Int32) × (Nat → Int32) × (Nat → Int32) × (Nat → Int32) × (Nat → Int32) × (Nat → Int32) × (Nat → Int32) × (Nat → Int32) × Int64 × Int64 × (Nat → Int64) × (Nat → Int64) × (Nat → Int32)) :=
  (fSc_hasPicture p1 sc_count).bind fun u1 =>
  if u1 = 0 then
   (fRi_refuse (-2 : Int32) rf_refused).bind fun u3 =>
   some (u3.1, ri_fresh, li_corner, li_most, li_bestE, li_bestF, ch_taken, ch_turn, ch_drift, ch_right, ch_closed, ch_follower, ch_ahead, ch_linkE, ch_linkF, ch_placeRight, ch_placeLower, se_cells, se_apart, se_surplus, se_seamCost, se_column, se_gap, se_cost, le_restAbove, le_restBelow, le_above, le_below, u3.2)
  else
   (fRi_within p2 (0 : Int32) (1 : Int32)).bind fun u4 =>
   if u4 = 0 then
    (fRi_refuse (-2 : Int32) rf_refused).bind fun u12 =>
    some (u12.1, ri_fresh, li_corner, li_most, li_bestE, li_bestF, ch_taken, ch_turn, ch_drift, ch_right, ch_closed, ch_follower, ch_ahead, ch_linkE, ch_linkF, ch_placeRight, ch_placeLower, se_cells, se_apart, se_surplus, se_seamCost, se_column, se_gap, se_cost, le_restAbove, le_restBelow, le_above, le_below, u12.2)
   else
    (fRi_refresh ri_fresh sc_count sc_cornerChange sc_voteApart sc_cells sc_shotX sc_shotY sc_shotColumns li_corner li_most li_bestE li_bestF ch_taken ch_turn ch_drift ch_right ch_closed ch_follower ch_ahead ch_linkE ch_linkF ch_placeRight ch_placeLower se_cells se_apart se_surplus se_seamCost se_column se_gap se_cost le_restAbove le_restBelow le_above le_below).bind fun u6 =>
    if u6.2.2.2.2.2.2.2.2.2.1 = 0 then
     (fRi_refuse (-3 : Int32) rf_refused).bind fun u11 =>
     some (u11.1, u6.1, u6.2.1, u6.2.2.1, u6.2.2.2.1, u6.2.2.2.2.1, u6.2.2.2.2.2.1, u6.2.2.2.2.2.2.1, u6.2.2.2.2.2.2.2.1, u6.2.2.2.2.2.2.2.2.1, u6.2.2.2.2.2.2.2.2.2.1, u6.2.2.2.2.2.2.2.2.2.2.1, u6.2.2.2.2.2.2.2.2.2.2.2.1, u6.2.2.2.2.2.2.2.2.2.2.2.2.1, u6.2.2.2.2.2.2.2.2.2.2.2.2.2.1, u6.2.2.2.2.2.2.2.2.2.2.2.2.2.2.1, u6.2.2.2.2.2.2.2.2.2.2.2.2.2.2.2.1, u6.2.2.2.2.2.2.2.2.2.2.2.2.2.2.2.2.1, u6.2.2.2.2.2.2.2.2.2.2.2.2.2.2.2.2.2.1, u6.2.2.2.2.2.2.2.2.2.2.2.2.2.2.2.2.2.2.1, u6.2.2.2.2.2.2.2.2.2.2.2.2.2.2.2.2.2.2.2.1, u6.2.2.2.2.2.2.2.2.2.2.2.2.2.2.2.2.2.2.2.2.1, u6.2.2.2.2.2.2.2.2.2.2.2.2.2.2.2.2.2.2.2.2.2.1, u6.2.2.2.2.2.2.2.2.2.2.2.2.2.2.2.2.2.2.2.2.2.2.1, u6.2.2.2.2.2.2.2.2.2.2.2.2.2.2.2.2.2.2.2.2.2.2.2.1, u6.2.2.2.2.2.2.2.2.2.2.2.2.2.2.2.2.2.2.2.2.2.2.2.2.1, u6.2.2.2.2.2.2.2.2.2.2.2.2.2.2.2.2.2.2.2.2.2.2.2.2.2.1, u6.2.2.2.2.2.2.2.2.2.2.2.2.2.2.2.2.2.2.2.2.2.2.2.2.2.2, u11.2)
    else
     if p2 = 0 then
      (fCh_rightOf p1 u6.2.2.2.2.2.2.2.2.2.2.2.2.2.2.1).bind fun u10 =>
      some (u10, u6.1, u6.2.1, u6.2.2.1, u6.2.2.2.1, u6.2.2.2.2.1, u6.2.2.2.2.2.1, u6.2.2.2.2.2.2.1, u6.2.2.2.2.2.2.2.1, u6.2.2.2.2.2.2.2.2.1, u6.2.2.2.2.2.2.2.2.2.1, u6.2.2.2.2.2.2.2.2.2.2.1, u6.2.2.2.2.2.2.2.2.2.2.2.1, u6.2.2.2.2.2.2.2.2.2.2.2.2.1, u6.2.2.2.2.2.2.2.2.2.2.2.2.2.1, u6.2.2.2.2.2.2.2.2.2.2.2.2.2.2.1, u6.2.2.2.2.2.2.2.2.2.2.2.2.2.2.2.1, u6.2.2.2.2.2.2.2.2.2.2.2.2.2.2.2.2.1, u6.2.2.2.2.2.2.2.2.2.2.2.2.2.2.2.2.2.1, u6.2.2.2.2.2.2.2.2.2.2.2.2.2.2.2.2.2.2.1, u6.2.2.2.2.2.2.2.2.2.2.2.2.2.2.2.2.2.2.2.1, u6.2.2.2.2.2.2.2.2.2.2.2.2.2.2.2.2.2.2.2.2.1, u6.2.2.2.2.2.2.2.2.2.2.2.2.2.2.2.2.2.2.2.2.2.1, u6.2.2.2.2.2.2.2.2.2.2.2.2.2.2.2.2.2.2.2.2.2.2.1, u6.2.2.2.2.2.2.2.2.2.2.2.2.2.2.2.2.2.2.2.2.2.2.2.1, u6.2.2.2.2.2.2.2.2.2.2.2.2.2.2.2.2.2.2.2.2.2.2.2.2.1, u6.2.2.2.2.2.2.2.2.2.2.2.2.2.2.2.2.2.2.2.2.2.2.2.2.2.1, u6.2.2.2.2.2.2.2.2.2.2.2.2.2.2.2.2.2.2.2.2.2.2.2.2.2.2, rf_refused)
     else
      (fCh_lowerOf p1 u6.2.2.2.2.2.2.2.2.2.2.2.2.2.2.2.1).bind fun u9 =>
      some ((u9 + (20 : Int32)), u6.1, u6.2.1, u6.2.2.1, u6.2.2.2.1, u6.2.2.2.2.1, u6.2.2.2.2.2.1, u6.2.2.2.2.2.2.1, u6.2.2.2.2.2.2.2.1, u6.2.2.2.2.2.2.2.2.1, u6.2.2.2.2.2.2.2.2.2.1, u6.2.2.2.2.2.2.2.2.2.2.1, u6.2.2.2.2.2.2.2.2.2.2.2.1, u6.2.2.2.2.2.2.2.2.2.2.2.2.1, u6.2.2.2.2.2.2.2.2.2.2.2.2.2.1, u6.2.2.2.2.2.2.2.2.2.2.2.2.2.2.1, u6.2.2.2.2.2.2.2.2.2.2.2.2.2.2.2.1, u6.2.2.2.2.2.2.2.2.2.2.2.2.2.2.2.2.1, u6.2.2.2.2.2.2.2.2.2.2.2.2.2.2.2.2.2.1, u6.2.2.2.2.2.2.2.2.2.2.2.2.2.2.2.2.2.2.1, u6.2.2.2.2.2.2.2.2.2.2.2.2.2.2.2.2.2.2.2.1, u6.2.2.2.2.2.2.2.2.2.2.2.2.2.2.2.2.2.2.2.2.1, u6.2.2.2.2.2.2.2.2.2.2.2.2.2.2.2.2.2.2.2.2.2.1, u6.2.2.2.2.2.2.2.2.2.2.2.2.2.2.2.2.2.2.2.2.2.2.1, u6.2.2.2.2.2.2.2.2.2.2.2.2.2.2.2.2.2.2.2.2.2.2.2.1, u6.2.2.2.2.2.2.2.2.2.2.2.2.2.2.2.2.2.2.2.2.2.2.2.2.1, u6.2.2.2.2.2.2.2.2.2.2.2.2.2.2.2.2.2.2.2.2.2.2.2.2.2.1, u6.2.2.2.2.2.2.2.2.2.2.2.2.2.2.2.2.2.2.2.2.2.2.2.2.2.2, rf_refused)
def fRi_overlap (p1 : Int32) (p2 : Int32) (ri_fresh : Int32) (sc_count : Int32) (sc_cornerChange : Int32) (sc_voteApart : Int32) (sc_cells : Nat → Int32) (sc_shotX : Nat → Int32) (sc_shotY : Nat → Int32) (sc_shotColumns : Nat → Int32) (li_corner : Nat → Int32) (li_most : Nat → Int32) (li_bestE : Nat → Int32) (li_bestF : Nat → Int32) (ch_taken : Int32) (ch_turn : Int32) (ch_drift : Int32) (ch_right : Int32) (ch_closed : Int32) (ch_follower : Nat → Int32) (ch_ahead : Nat → Int32) (ch_linkE : Nat → Int32) (ch_linkF : Nat → Int32) (ch_placeRight : Nat → Int32) (ch_placeLower : Nat → Int32) (se_cells : Nat → Int32) (se_apart : Nat → Int32) (se_surplus : Nat → Int32) (se_seamCost : Nat → Int32) (se_column : Nat → Int32) (se_gap : Nat → Int32) (se_cost : Nat → Int32) (le_restAbove : Int64) (le_restBelow : Int64) (le_above : Nat → Int64) (le_below : Nat → Int64) (rf_refused : Nat → Int32) : Option (Int32 × Int32 × (Nat → Int32) × (Nat → Int32) × (Nat → Int32) × (Nat → Int32) × Int32 × Int32 × Int32 × Int32 × Int32 × (Nat → Int32) × (Nat → Int32) × (Nat → Int32) × (Nat → Int32) × (Nat → Int32) × (Nat → Int32) × (Nat → Int32) × (Nat → Int32) × (Nat → Int32) × (Nat → Int32) × (Nat → Int32) × (Nat → Int32) × (Nat → Int32) × Int64 × Int64 × (Nat → Int64) × (Nat → Int64) × (Nat → Int32)) :=
  (fSc_hasPicture p1 sc_count).bind fun u1 =>
  if u1 = 0 then
   (fRi_refuse (-2 : Int32) rf_refused).bind fun u3 =>
   some (u3.1, ri_fresh, li_corner, li_most, li_bestE, li_bestF, ch_taken, ch_turn, ch_drift, ch_right, ch_closed, ch_follower, ch_ahead, ch_linkE, ch_linkF, ch_placeRight, ch_placeLower, se_cells, se_apart, se_surplus, se_seamCost, se_column, se_gap, se_cost, le_restAbove, le_restBelow, le_above, le_below, u3.2)
  else
   (fRi_within p2 (0 : Int32) (3 : Int32)).bind fun u4 =>
   if u4 = 0 then
    (fRi_refuse (-2 : Int32) rf_refused).bind fun u17 =>
    some (u17.1, ri_fresh, li_corner, li_most, li_bestE, li_bestF, ch_taken, ch_turn, ch_drift, ch_right, ch_closed, ch_follower, ch_ahead, ch_linkE, ch_linkF, ch_placeRight, ch_placeLower, se_cells, se_apart, se_surplus, se_seamCost, se_column, se_gap, se_cost, le_restAbove, le_restBelow, le_above, le_below, u17.2)
   else
    (fRi_refresh ri_fresh sc_count sc_cornerChange sc_voteApart sc_cells sc_shotX sc_shotY sc_shotColumns li_corner li_most li_bestE li_bestF ch_taken ch_turn ch_drift ch_right ch_closed ch_follower ch_ahead ch_linkE ch_linkF ch_placeRight ch_placeLower se_cells se_apart se_surplus se_seamCost se_column se_gap se_cost le_restAbove le_restBelow le_above le_below).bind fun u6 =>
    (fCh_followerOf p1 u6.2.2.2.2.2.2.2.2.2.2.1).bind fun u7 =>
    if u7 = (-1 : Int32) then
     (fRi_refuse (-3 : Int32) rf_refused).bind fun u16 =>
     some (u16.1, u6.1, u6.2.1, u6.2.2.1, u6.2.2.2.1, u6.2.2.2.2.1, u6.2.2.2.2.2.1, u6.2.2.2.2.2.2.1, u6.2.2.2.2.2.2.2.1, u6.2.2.2.2.2.2.2.2.1, u6.2.2.2.2.2.2.2.2.2.1, u6.2.2.2.2.2.2.2.2.2.2.1, u6.2.2.2.2.2.2.2.2.2.2.2.1, u6.2.2.2.2.2.2.2.2.2.2.2.2.1, u6.2.2.2.2.2.2.2.2.2.2.2.2.2.1, u6.2.2.2.2.2.2.2.2.2.2.2.2.2.2.1, u6.2.2.2.2.2.2.2.2.2.2.2.2.2.2.2.1, u6.2.2.2.2.2.2.2.2.2.2.2.2.2.2.2.2.1, u6.2.2.2.2.2.2.2.2.2.2.2.2.2.2.2.2.2.1, u6.2.2.2.2.2.2.2.2.2.2.2.2.2.2.2.2.2.2.1, u6.2.2.2.2.2.2.2.2.2.2.2.2.2.2.2.2.2.2.2.1, u6.2.2.2.2.2.2.2.2.2.2.2.2.2.2.2.2.2.2.2.2.1, u6.2.2.2.2.2.2.2.2.2.2.2.2.2.2.2.2.2.2.2.2.2.1, u6.2.2.2.2.2.2.2.2.2.2.2.2.2.2.2.2.2.2.2.2.2.2.1, u6.2.2.2.2.2.2.2.2.2.2.2.2.2.2.2.2.2.2.2.2.2.2.2.1, u6.2.2.2.2.2.2.2.2.2.2.2.2.2.2.2.2.2.2.2.2.2.2.2.2.1, u6.2.2.2.2.2.2.2.2.2.2.2.2.2.2.2.2.2.2.2.2.2.2.2.2.2.1, u6.2.2.2.2.2.2.2.2.2.2.2.2.2.2.2.2.2.2.2.2.2.2.2.2.2.2, u16.2)
    else
     if p2 = (0 : Int32) then
      (fSe_cellsOf p1 u6.2.2.2.2.2.2.2.2.2.2.2.2.2.2.2.2.1).bind fun u10 =>
      some (u10, u6.1, u6.2.1, u6.2.2.1, u6.2.2.2.1, u6.2.2.2.2.1, u6.2.2.2.2.2.1, u6.2.2.2.2.2.2.1, u6.2.2.2.2.2.2.2.1, u6.2.2.2.2.2.2.2.2.1, u6.2.2.2.2.2.2.2.2.2.1, u6.2.2.2.2.2.2.2.2.2.2.1, u6.2.2.2.2.2.2.2.2.2.2.2.1, u6.2.2.2.2.2.2.2.2.2.2.2.2.1, u6.2.2.2.2.2.2.2.2.2.2.2.2.2.1, u6.2.2.2.2.2.2.2.2.2.2.2.2.2.2.1, u6.2.2.2.2.2.2.2.2.2.2.2.2.2.2.2.1, u6.2.2.2.2.2.2.2.2.2.2.2.2.2.2.2.2.1, u6.2.2.2.2.2.2.2.2.2.2.2.2.2.2.2.2.2.1, u6.2.2.2.2.2.2.2.2.2.2.2.2.2.2.2.2.2.2.1, u6.2.2.2.2.2.2.2.2.2.2.2.2.2.2.2.2.2.2.2.1, u6.2.2.2.2.2.2.2.2.2.2.2.2.2.2.2.2.2.2.2.2.1, u6.2.2.2.2.2.2.2.2.2.2.2.2.2.2.2.2.2.2.2.2.2.1, u6.2.2.2.2.2.2.2.2.2.2.2.2.2.2.2.2.2.2.2.2.2.2.1, u6.2.2.2.2.2.2.2.2.2.2.2.2.2.2.2.2.2.2.2.2.2.2.2.1, u6.2.2.2.2.2.2.2.2.2.2.2.2.2.2.2.2.2.2.2.2.2.2.2.2.1, u6.2.2.2.2.2.2.2.2.2.2.2.2.2.2.2.2.2.2.2.2.2.2.2.2.2.1, u6.2.2.2.2.2.2.2.2.2.2.2.2.2.2.2.2.2.2.2.2.2.2.2.2.2.2, rf_refused)
     else
      if p2 = (1 : Int32) then
       (fSe_apartOf p1 u6.2.2.2.2.2.2.2.2.2.2.2.2.2.2.2.2.2.1).bind fun u12 =>
       some (u12, u6.1, u6.2.1, u6.2.2.1, u6.2.2.2.1, u6.2.2.2.2.1, u6.2.2.2.2.2.1, u6.2.2.2.2.2.2.1, u6.2.2.2.2.2.2.2.1, u6.2.2.2.2.2.2.2.2.1, u6.2.2.2.2.2.2.2.2.2.1, u6.2.2.2.2.2.2.2.2.2.2.1, u6.2.2.2.2.2.2.2.2.2.2.2.1, u6.2.2.2.2.2.2.2.2.2.2.2.2.1, u6.2.2.2.2.2.2.2.2.2.2.2.2.2.1, u6.2.2.2.2.2.2.2.2.2.2.2.2.2.2.1, u6.2.2.2.2.2.2.2.2.2.2.2.2.2.2.2.1, u6.2.2.2.2.2.2.2.2.2.2.2.2.2.2.2.2.1, u6.2.2.2.2.2.2.2.2.2.2.2.2.2.2.2.2.2.1, u6.2.2.2.2.2.2.2.2.2.2.2.2.2.2.2.2.2.2.1, u6.2.2.2.2.2.2.2.2.2.2.2.2.2.2.2.2.2.2.2.1, u6.2.2.2.2.2.2.2.2.2.2.2.2.2.2.2.2.2.2.2.2.1, u6.2.2.2.2.2.2.2.2.2.2.2.2.2.2.2.2.2.2.2.2.2.1, u6.2.2.2.2.2.2.2.2.2.2.2.2.2.2.2.2.2.2.2.2.2.2.1, u6.2.2.2.2.2.2.2.2.2.2.2.2.2.2.2.2.2.2.2.2.2.2.2.1, u6.2.2.2.2.2.2.2.2.2.2.2.2.2.2.2.2.2.2.2.2.2.2.2.2.1, u6.2.2.2.2.2.2.2.2.2.2.2.2.2.2.2.2.2.2.2.2.2.2.2.2.2.1, u6.2.2.2.2.2.2.2.2.2.2.2.2.2.2.2.2.2.2.2.2.2.2.2.2.2.2, rf_refused)
      else
       if p2 = (2 : Int32) then
        (fSe_seamCostOf p1 u6.2.2.2.2.2.2.2.2.2.2.2.2.2.2.2.2.2.2.2.1).bind fun u14 =>
        some (u14, u6.1, u6.2.1, u6.2.2.1, u6.2.2.2.1, u6.2.2.2.2.1, u6.2.2.2.2.2.1, u6.2.2.2.2.2.2.1, u6.2.2.2.2.2.2.2.1, u6.2.2.2.2.2.2.2.2.1, u6.2.2.2.2.2.2.2.2.2.1, u6.2.2.2.2.2.2.2.2.2.2.1, u6.2.2.2.2.2.2.2.2.2.2.2.1, u6.2.2.2.2.2.2.2.2.2.2.2.2.1, u6.2.2.2.2.2.2.2.2.2.2.2.2.2.1, u6.2.2.2.2.2.2.2.2.2.2.2.2.2.2.1, u6.2.2.2.2.2.2.2.2.2.2.2.2.2.2.2.1, u6.2.2.2.2.2.2.2.2.2.2.2.2.2.2.2.2.1, u6.2.2.2.2.2.2.2.2.2.2.2.2.2.2.2.2.2.1, u6.2.2.2.2.2.2.2.2.2.2.2.2.2.2.2.2.2.2.1, u6.2.2.2.2.2.2.2.2.2.2.2.2.2.2.2.2.2.2.2.1, u6.2.2.2.2.2.2.2.2.2.2.2.2.2.2.2.2.2.2.2.2.1, u6.2.2.2.2.2.2.2.2.2.2.2.2.2.2.2.2.2.2.2.2.2.1, u6.2.2.2.2.2.2.2.2.2.2.2.2.2.2.2.2.2.2.2.2.2.2.1, u6.2.2.2.2.2.2.2.2.2.2.2.2.2.2.2.2.2.2.2.2.2.2.2.1, u6.2.2.2.2.2.2.2.2.2.2.2.2.2.2.2.2.2.2.2.2.2.2.2.2.1, u6.2.2.2.2.2.2.2.2.2.2.2.2.2.2.2.2.2.2.2.2.2.2.2.2.2.1, u6.2.2.2.2.2.2.2.2.2.2.2.2.2.2.2.2.2.2.2.2.2.2.2.2.2.2, rf_refused)
       else
        (fSe_surplusOf p1 u6.2.2.2.2.2.2.2.2.2.2.2.2.2.2.2.2.2.2.1).bind fun u15 =>
        some ((u15 + (2000 : Int32)), u6.1, u6.2.1, u6.2.2.1, u6.2.2.2.1, u6.2.2.2.2.1, u6.2.2.2.2.2.1, u6.2.2.2.2.2.2.1, u6.2.2.2.2.2.2.2.1, u6.2.2.2.2.2.2.2.2.1, u6.2.2.2.2.2.2.2.2.2.1, u6.2.2.2.2.2.2.2.2.2.2.1, u6.2.2.2.2.2.2.2.2.2.2.2.1, u6.2.2.2.2.2.2.2.2.2.2.2.2.1, u6.2.2.2.2.2.2.2.2.2.2.2.2.2.1, u6.2.2.2.2.2.2.2.2.2.2.2.2.2.2.1, u6.2.2.2.2.2.2.2.2.2.2.2.2.2.2.2.1, u6.2.2.2.2.2.2.2.2.2.2.2.2.2.2.2.2.1, u6.2.2.2.2.2.2.2.2.2.2.2.2.2.2.2.2.2.1, u6.2.2.2.2.2.2.2.2.2.2.2.2.2.2.2.2.2.2.1, u6.2.2.2.2.2.2.2.2.2.2.2.2.2.2.2.2.2.2.2.1, u6.2.2.2.2.2.2.2.2.2.2.2.2.2.2.2.2.2.2.2.2.1, u6.2.2.2.2.2.2.2.2.2.2.2.2.2.2.2.2.2.2.2.2.2.1, u6.2.2.2.2.2.2.2.2.2.2.2.2.2.2.2.2.2.2.2.2.2.2.1, u6.2.2.2.2.2.2.2.2.2.2.2.2.2.2.2.2.2.2.2.2.2.2.2.1, u6.2.2.2.2.2.2.2.2.2.2.2.2.2.2.2.2.2.2.2.2.2.2.2.2.1, u6.2.2.2.2.2.2.2.2.2.2.2.2.2.2.2.2.2.2.2.2.2.2.2.2.2.1, u6.2.2.2.2.2.2.2.2.2.2.2.2.2.2.2.2.2.2.2.2.2.2.2.2.2.2, rf_refused)
def fRi_seam (p1 : Int32) (p2 : Int32) (ri_fresh : Int32) (sc_count : Int32) (sc_cornerChange : Int32) (sc_voteApart : Int32) (sc_cells : Nat → Int32) (sc_shotX : Nat → Int32) (sc_shotY : Nat → Int32) (sc_shotColumns : Nat → Int32) (li_corner : Nat → Int32) (li_most : Nat → Int32) (li_bestE : Nat → Int32) (li_bestF : Nat → Int32) (ch_taken : Int32) (ch_turn : Int32) (ch_drift : Int32) (ch_right : Int32) (ch_closed : Int32) (ch_follower : Nat → Int32) (ch_ahead : Nat → Int32) (ch_linkE : Nat → Int32) (ch_linkF : Nat → Int32) (ch_placeRight : Nat → Int32) (ch_placeLower : Nat → Int32) (se_cells : Nat → Int32) (se_apart : Nat → Int32) (se_surplus : Nat → Int32) (se_seamCost : Nat → Int32) (se_column : Nat → Int32) (se_gap : Nat → Int32) (se_cost : Nat → Int32) (le_restAbove : Int64) (le_restBelow : Int64) (le_above : Nat → Int64) (le_below : Nat → Int64) (rf_refused : Nat → Int32) : Option (Int32 × Int32 × (Nat → Int32) × (Nat → Int32) × (Nat → Int32) × (Nat → Int32) × Int32 × Int32 × Int32 × Int32 × Int32 × (Nat → Int32) × (Nat → Int32) × (Nat → Int32) × (Nat → Int32) × (Nat → Int32) × (Nat → Int32) × (Nat → Int32) × (Nat → Int32) × (Nat → Int32) × (Nat → Int32) × (Nat → Int32) × (Nat → Int32) × (Nat → Int32) × Int64 × Int64 × (Nat → Int64) × (Nat → Int64) × (Nat → Int32)) :=
  (fSc_hasPicture p1 sc_count).bind fun u1 =>
  if u1 = 0 then
   (fRi_refuse (-2 : Int32) rf_refused).bind fun u3 =>
   some (u3.1, ri_fresh, li_corner, li_most, li_bestE, li_bestF, ch_taken, ch_turn, ch_drift, ch_right, ch_closed, ch_follower, ch_ahead, ch_linkE, ch_linkF, ch_placeRight, ch_placeLower, se_cells, se_apart, se_surplus, se_seamCost, se_column, se_gap, se_cost, le_restAbove, le_restBelow, le_above, le_below, u3.2)
  else
   (fRi_within p2 (0 : Int32) (3 : Int32)).bind fun u4 =>
   if u4 = 0 then
    (fRi_refuse (-2 : Int32) rf_refused).bind fun u11 =>
    some (u11.1, ri_fresh, li_corner, li_most, li_bestE, li_bestF, ch_taken, ch_turn, ch_drift, ch_right, ch_closed, ch_follower, ch_ahead, ch_linkE, ch_linkF, ch_placeRight, ch_placeLower, se_cells, se_apart, se_surplus, se_seamCost, se_column, se_gap, se_cost, le_restAbove, le_restBelow, le_above, le_below, u11.2)
   else
    (fRi_refresh ri_fresh sc_count sc_cornerChange sc_voteApart sc_cells sc_shotX sc_shotY sc_shotColumns li_corner li_most li_bestE li_bestF ch_taken ch_turn ch_drift ch_right ch_closed ch_follower ch_ahead ch_linkE ch_linkF ch_placeRight ch_placeLower se_cells se_apart se_surplus se_seamCost se_column se_gap se_cost le_restAbove le_restBelow le_above le_below).bind fun u6 =>
    (fCh_followerOf p1 u6.2.2.2.2.2.2.2.2.2.2.1).bind fun u7 =>
    if u7 = (-1 : Int32) then
     (fRi_refuse (-3 : Int32) rf_refused).bind fun u10 =>
     some (u10.1, u6.1, u6.2.1, u6.2.2.1, u6.2.2.2.1, u6.2.2.2.2.1, u6.2.2.2.2.2.1, u6.2.2.2.2.2.2.1, u6.2.2.2.2.2.2.2.1, u6.2.2.2.2.2.2.2.2.1, u6.2.2.2.2.2.2.2.2.2.1, u6.2.2.2.2.2.2.2.2.2.2.1, u6.2.2.2.2.2.2.2.2.2.2.2.1, u6.2.2.2.2.2.2.2.2.2.2.2.2.1, u6.2.2.2.2.2.2.2.2.2.2.2.2.2.1, u6.2.2.2.2.2.2.2.2.2.2.2.2.2.2.1, u6.2.2.2.2.2.2.2.2.2.2.2.2.2.2.2.1, u6.2.2.2.2.2.2.2.2.2.2.2.2.2.2.2.2.1, u6.2.2.2.2.2.2.2.2.2.2.2.2.2.2.2.2.2.1, u6.2.2.2.2.2.2.2.2.2.2.2.2.2.2.2.2.2.2.1, u6.2.2.2.2.2.2.2.2.2.2.2.2.2.2.2.2.2.2.2.1, u6.2.2.2.2.2.2.2.2.2.2.2.2.2.2.2.2.2.2.2.2.1, u6.2.2.2.2.2.2.2.2.2.2.2.2.2.2.2.2.2.2.2.2.2.1, u6.2.2.2.2.2.2.2.2.2.2.2.2.2.2.2.2.2.2.2.2.2.2.1, u6.2.2.2.2.2.2.2.2.2.2.2.2.2.2.2.2.2.2.2.2.2.2.2.1, u6.2.2.2.2.2.2.2.2.2.2.2.2.2.2.2.2.2.2.2.2.2.2.2.2.1, u6.2.2.2.2.2.2.2.2.2.2.2.2.2.2.2.2.2.2.2.2.2.2.2.2.2.1, u6.2.2.2.2.2.2.2.2.2.2.2.2.2.2.2.2.2.2.2.2.2.2.2.2.2.2, u10.2)
    else
     (fSe_columnAt p1 p2 u6.2.2.2.2.2.2.2.2.2.2.2.2.2.2.2.2.2.2.2.2.1).bind fun u9 =>
     some (u9, u6.1, u6.2.1, u6.2.2.1, u6.2.2.2.1, u6.2.2.2.2.1, u6.2.2.2.2.2.1, u6.2.2.2.2.2.2.1, u6.2.2.2.2.2.2.2.1, u6.2.2.2.2.2.2.2.2.1, u6.2.2.2.2.2.2.2.2.2.1, u6.2.2.2.2.2.2.2.2.2.2.1, u6.2.2.2.2.2.2.2.2.2.2.2.1, u6.2.2.2.2.2.2.2.2.2.2.2.2.1, u6.2.2.2.2.2.2.2.2.2.2.2.2.2.1, u6.2.2.2.2.2.2.2.2.2.2.2.2.2.2.1, u6.2.2.2.2.2.2.2.2.2.2.2.2.2.2.2.1, u6.2.2.2.2.2.2.2.2.2.2.2.2.2.2.2.2.1, u6.2.2.2.2.2.2.2.2.2.2.2.2.2.2.2.2.2.1, u6.2.2.2.2.2.2.2.2.2.2.2.2.2.2.2.2.2.2.1, u6.2.2.2.2.2.2.2.2.2.2.2.2.2.2.2.2.2.2.2.1, u6.2.2.2.2.2.2.2.2.2.2.2.2.2.2.2.2.2.2.2.2.1, u6.2.2.2.2.2.2.2.2.2.2.2.2.2.2.2.2.2.2.2.2.2.1, u6.2.2.2.2.2.2.2.2.2.2.2.2.2.2.2.2.2.2.2.2.2.2.1, u6.2.2.2.2.2.2.2.2.2.2.2.2.2.2.2.2.2.2.2.2.2.2.2.1, u6.2.2.2.2.2.2.2.2.2.2.2.2.2.2.2.2.2.2.2.2.2.2.2.2.1, u6.2.2.2.2.2.2.2.2.2.2.2.2.2.2.2.2.2.2.2.2.2.2.2.2.2.1, u6.2.2.2.2.2.2.2.2.2.2.2.2.2.2.2.2.2.2.2.2.2.2.2.2.2.2, rf_refused)
def fRi_level (p1 : Int32) (p2 : Int32) (ri_fresh : Int32) (sc_count : Int32) (sc_cornerChange : Int32) (sc_voteApart : Int32) (sc_cells : Nat → Int32) (sc_shotX : Nat → Int32) (sc_shotY : Nat → Int32) (sc_shotColumns : Nat → Int32) (li_corner : Nat → Int32) (li_most : Nat → Int32) (li_bestE : Nat → Int32) (li_bestF : Nat → Int32) (ch_taken : Int32) (ch_turn : Int32) (ch_drift : Int32) (ch_right : Int32) (ch_closed : Int32) (ch_follower : Nat → Int32) (ch_ahead : Nat → Int32) (ch_linkE : Nat → Int32) (ch_linkF : Nat → Int32) (ch_placeRight : Nat → Int32) (ch_placeLower : Nat → Int32) (se_cells : Nat → Int32) (se_apart : Nat → Int32) (se_surplus : Nat → Int32) (se_seamCost : Nat → Int32) (se_column : Nat → Int32) (se_gap : Nat → Int32) (se_cost : Nat → Int32) (le_restAbove : Int64) (le_restBelow : Int64) (le_above : Nat → Int64) (le_below : Nat → Int64) (rf_refused : Nat → Int32) : Option (Int64 × Int32 × (Nat → Int32) × (Nat → Int32) × (Nat → Int32) × (Nat → Int32) × Int32 × Int32 × Int32 × Int32 × Int32 × (Nat → Int32) × (Nat → Int32) × (Nat → Int32) × (Nat → Int32) × (Nat → Int32) × (Nat → Int32) × (Nat → Int32) × (Nat → Int32) × (Nat → Int32) × (Nat → Int32) × (Nat → Int32) × (Nat → Int32) × (Nat → Int32) × Int64 × Int64 × (Nat → Int64) × (Nat → Int64) × (Nat → Int32)) :=
  (fSc_hasPicture p1 sc_count).bind fun u1 =>
  if u1 = 0 then
   (fRi_refuse (-2 : Int32) rf_refused).bind fun u3 =>
   some ((-999999 : Int64), ri_fresh, li_corner, li_most, li_bestE, li_bestF, ch_taken, ch_turn, ch_drift, ch_right, ch_closed, ch_follower, ch_ahead, ch_linkE, ch_linkF, ch_placeRight, ch_placeLower, se_cells, se_apart, se_surplus, se_seamCost, se_column, se_gap, se_cost, le_restAbove, le_restBelow, le_above, le_below, u3.2)
  else
   (fRi_within p2 (0 : Int32) (1 : Int32)).bind fun u4 =>
   if u4 = 0 then
    (fRi_refuse (-2 : Int32) rf_refused).bind fun u10 =>
    some ((-999999 : Int64), ri_fresh, li_corner, li_most, li_bestE, li_bestF, ch_taken, ch_turn, ch_drift, ch_right, ch_closed, ch_follower, ch_ahead, ch_linkE, ch_linkF, ch_placeRight, ch_placeLower, se_cells, se_apart, se_surplus, se_seamCost, se_column, se_gap, se_cost, le_restAbove, le_restBelow, le_above, le_below, u10.2)
   else
    (fRi_refresh ri_fresh sc_count sc_cornerChange sc_voteApart sc_cells sc_shotX sc_shotY sc_shotColumns li_corner li_most li_bestE li_bestF ch_taken ch_turn ch_drift ch_right ch_closed ch_follower ch_ahead ch_linkE ch_linkF ch_placeRight ch_placeLower se_cells se_apart se_surplus se_seamCost se_column se_gap se_cost le_restAbove le_restBelow le_above le_below).bind fun u6 =>
    if p2 = 0 then
     (fLe_aboveOf p1 u6.2.2.2.2.2.2.2.2.2.2.2.2.2.2.2.2.2.2.2.2.2.2.2.2.2.1).bind fun u9 =>
     some (u9, u6.1, u6.2.1, u6.2.2.1, u6.2.2.2.1, u6.2.2.2.2.1, u6.2.2.2.2.2.1, u6.2.2.2.2.2.2.1, u6.2.2.2.2.2.2.2.1, u6.2.2.2.2.2.2.2.2.1, u6.2.2.2.2.2.2.2.2.2.1, u6.2.2.2.2.2.2.2.2.2.2.1, u6.2.2.2.2.2.2.2.2.2.2.2.1, u6.2.2.2.2.2.2.2.2.2.2.2.2.1, u6.2.2.2.2.2.2.2.2.2.2.2.2.2.1, u6.2.2.2.2.2.2.2.2.2.2.2.2.2.2.1, u6.2.2.2.2.2.2.2.2.2.2.2.2.2.2.2.1, u6.2.2.2.2.2.2.2.2.2.2.2.2.2.2.2.2.1, u6.2.2.2.2.2.2.2.2.2.2.2.2.2.2.2.2.2.1, u6.2.2.2.2.2.2.2.2.2.2.2.2.2.2.2.2.2.2.1, u6.2.2.2.2.2.2.2.2.2.2.2.2.2.2.2.2.2.2.2.1, u6.2.2.2.2.2.2.2.2.2.2.2.2.2.2.2.2.2.2.2.2.1, u6.2.2.2.2.2.2.2.2.2.2.2.2.2.2.2.2.2.2.2.2.2.1, u6.2.2.2.2.2.2.2.2.2.2.2.2.2.2.2.2.2.2.2.2.2.2.1, u6.2.2.2.2.2.2.2.2.2.2.2.2.2.2.2.2.2.2.2.2.2.2.2.1, u6.2.2.2.2.2.2.2.2.2.2.2.2.2.2.2.2.2.2.2.2.2.2.2.2.1, u6.2.2.2.2.2.2.2.2.2.2.2.2.2.2.2.2.2.2.2.2.2.2.2.2.2.1, u6.2.2.2.2.2.2.2.2.2.2.2.2.2.2.2.2.2.2.2.2.2.2.2.2.2.2, rf_refused)
    else
     (fLe_belowOf p1 u6.2.2.2.2.2.2.2.2.2.2.2.2.2.2.2.2.2.2.2.2.2.2.2.2.2.2).bind fun u8 =>
     some (u8, u6.1, u6.2.1, u6.2.2.1, u6.2.2.2.1, u6.2.2.2.2.1, u6.2.2.2.2.2.1, u6.2.2.2.2.2.2.1, u6.2.2.2.2.2.2.2.1, u6.2.2.2.2.2.2.2.2.1, u6.2.2.2.2.2.2.2.2.2.1, u6.2.2.2.2.2.2.2.2.2.2.1, u6.2.2.2.2.2.2.2.2.2.2.2.1, u6.2.2.2.2.2.2.2.2.2.2.2.2.1, u6.2.2.2.2.2.2.2.2.2.2.2.2.2.1, u6.2.2.2.2.2.2.2.2.2.2.2.2.2.2.1, u6.2.2.2.2.2.2.2.2.2.2.2.2.2.2.2.1, u6.2.2.2.2.2.2.2.2.2.2.2.2.2.2.2.2.1, u6.2.2.2.2.2.2.2.2.2.2.2.2.2.2.2.2.2.1, u6.2.2.2.2.2.2.2.2.2.2.2.2.2.2.2.2.2.2.1, u6.2.2.2.2.2.2.2.2.2.2.2.2.2.2.2.2.2.2.2.1, u6.2.2.2.2.2.2.2.2.2.2.2.2.2.2.2.2.2.2.2.2.1, u6.2.2.2.2.2.2.2.2.2.2.2.2.2.2.2.2.2.2.2.2.2.1, u6.2.2.2.2.2.2.2.2.2.2.2.2.2.2.2.2.2.2.2.2.2.2.1, u6.2.2.2.2.2.2.2.2.2.2.2.2.2.2.2.2.2.2.2.2.2.2.2.1, u6.2.2.2.2.2.2.2.2.2.2.2.2.2.2.2.2.2.2.2.2.2.2.2.2.1, u6.2.2.2.2.2.2.2.2.2.2.2.2.2.2.2.2.2.2.2.2.2.2.2.2.2.1, u6.2.2.2.2.2.2.2.2.2.2.2.2.2.2.2.2.2.2.2.2.2.2.2.2.2.2, rf_refused)
def fRi_rest (p1 : Int32) (ri_fresh : Int32) (sc_count : Int32) (sc_cornerChange : Int32) (sc_voteApart : Int32) (sc_cells : Nat → Int32) (sc_shotX : Nat → Int32) (sc_shotY : Nat → Int32) (sc_shotColumns : Nat → Int32) (li_corner : Nat → Int32) (li_most : Nat → Int32) (li_bestE : Nat → Int32) (li_bestF : Nat → Int32) (ch_taken : Int32) (ch_turn : Int32) (ch_drift : Int32) (ch_right : Int32) (ch_closed : Int32) (ch_follower : Nat → Int32) (ch_ahead : Nat → Int32) (ch_linkE : Nat → Int32) (ch_linkF : Nat → Int32) (ch_placeRight : Nat → Int32) (ch_placeLower : Nat → Int32) (se_cells : Nat → Int32) (se_apart : Nat → Int32) (se_surplus : Nat → Int32) (se_seamCost : Nat → Int32) (se_column : Nat → Int32) (se_gap : Nat → Int32) (se_cost : Nat → Int32) (le_restAbove : Int64) (le_restBelow : Int64) (le_above : Nat → Int64) (le_below : Nat → Int64) (rf_refused : Nat → Int32) : Option (Int64 × Int32 × (Nat → Int32) × (Nat → Int32) × (Nat → Int32) × (Nat → Int32) × Int32 × Int32 × Int32 × Int32 × Int32 × (Nat → Int32) × (Nat → Int32) × (Nat → Int32) × (Nat → Int32) × (Nat → Int32) × (Nat → Int32) × (Nat → Int32) × (Nat → Int32) × (Nat → Int32) × (Nat → Int32) × (Nat → Int32) × (Nat → Int32) × (Nat → Int32) × Int64 × Int64 × (Nat → Int64) × (Nat → Int64) × (Nat → Int32)) :=
  (fRi_within p1 (0 : Int32) (1 : Int32)).bind fun u1 =>
  if u1 = 0 then
   (fRi_refuse (-2 : Int32) rf_refused).bind fun u5 =>
   some (u5.1.toInt64, ri_fresh, li_corner, li_most, li_bestE, li_bestF, ch_taken, ch_turn, ch_drift, ch_right, ch_closed, ch_follower, ch_ahead, ch_linkE, ch_linkF, ch_placeRight, ch_placeLower, se_cells, se_apart, se_surplus, se_seamCost, se_column, se_gap, se_cost, le_restAbove, le_restBelow, le_above, le_below, u5.2)
  else
   (fRi_refresh ri_fresh sc_count sc_cornerChange sc_voteApart sc_cells sc_shotX sc_shotY sc_shotColumns li_corner li_most li_bestE li_bestF ch_taken ch_turn ch_drift ch_right ch_closed ch_follower ch_ahead ch_linkE ch_linkF ch_placeRight ch_placeLower se_cells se_apart se_surplus se_seamCost se_column se_gap se_cost le_restAbove le_restBelow le_above le_below).bind fun u3 =>
   if p1 = 0 then
    some (u3.2.2.2.2.2.2.2.2.2.2.2.2.2.2.2.2.2.2.2.2.2.2.2.1, u3.1, u3.2.1, u3.2.2.1, u3.2.2.2.1, u3.2.2.2.2.1, u3.2.2.2.2.2.1, u3.2.2.2.2.2.2.1, u3.2.2.2.2.2.2.2.1, u3.2.2.2.2.2.2.2.2.1, u3.2.2.2.2.2.2.2.2.2.1, u3.2.2.2.2.2.2.2.2.2.2.1, u3.2.2.2.2.2.2.2.2.2.2.2.1, u3.2.2.2.2.2.2.2.2.2.2.2.2.1, u3.2.2.2.2.2.2.2.2.2.2.2.2.2.1, u3.2.2.2.2.2.2.2.2.2.2.2.2.2.2.1, u3.2.2.2.2.2.2.2.2.2.2.2.2.2.2.2.1, u3.2.2.2.2.2.2.2.2.2.2.2.2.2.2.2.2.1, u3.2.2.2.2.2.2.2.2.2.2.2.2.2.2.2.2.2.1, u3.2.2.2.2.2.2.2.2.2.2.2.2.2.2.2.2.2.2.1, u3.2.2.2.2.2.2.2.2.2.2.2.2.2.2.2.2.2.2.2.1, u3.2.2.2.2.2.2.2.2.2.2.2.2.2.2.2.2.2.2.2.2.1, u3.2.2.2.2.2.2.2.2.2.2.2.2.2.2.2.2.2.2.2.2.2.1, u3.2.2.2.2.2.2.2.2.2.2.2.2.2.2.2.2.2.2.2.2.2.2.1, u3.2.2.2.2.2.2.2.2.2.2.2.2.2.2.2.2.2.2.2.2.2.2.2.1, u3.2.2.2.2.2.2.2.2.2.2.2.2.2.2.2.2.2.2.2.2.2.2.2.2.1, u3.2.2.2.2.2.2.2.2.2.2.2.2.2.2.2.2.2.2.2.2.2.2.2.2.2.1, u3.2.2.2.2.2.2.2.2.2.2.2.2.2.2.2.2.2.2.2.2.2.2.2.2.2.2, rf_refused)
   else
    some (u3.2.2.2.2.2.2.2.2.2.2.2.2.2.2.2.2.2.2.2.2.2.2.2.2.1, u3.1, u3.2.1, u3.2.2.1, u3.2.2.2.1, u3.2.2.2.2.1, u3.2.2.2.2.2.1, u3.2.2.2.2.2.2.1, u3.2.2.2.2.2.2.2.1, u3.2.2.2.2.2.2.2.2.1, u3.2.2.2.2.2.2.2.2.2.1, u3.2.2.2.2.2.2.2.2.2.2.1, u3.2.2.2.2.2.2.2.2.2.2.2.1, u3.2.2.2.2.2.2.2.2.2.2.2.2.1, u3.2.2.2.2.2.2.2.2.2.2.2.2.2.1, u3.2.2.2.2.2.2.2.2.2.2.2.2.2.2.1, u3.2.2.2.2.2.2.2.2.2.2.2.2.2.2.2.1, u3.2.2.2.2.2.2.2.2.2.2.2.2.2.2.2.2.1, u3.2.2.2.2.2.2.2.2.2.2.2.2.2.2.2.2.2.1, u3.2.2.2.2.2.2.2.2.2.2.2.2.2.2.2.2.2.2.1, u3.2.2.2.2.2.2.2.2.2.2.2.2.2.2.2.2.2.2.2.1, u3.2.2.2.2.2.2.2.2.2.2.2.2.2.2.2.2.2.2.2.2.1, u3.2.2.2.2.2.2.2.2.2.2.2.2.2.2.2.2.2.2.2.2.2.1, u3.2.2.2.2.2.2.2.2.2.2.2.2.2.2.2.2.2.2.2.2.2.2.1, u3.2.2.2.2.2.2.2.2.2.2.2.2.2.2.2.2.2.2.2.2.2.2.2.1, u3.2.2.2.2.2.2.2.2.2.2.2.2.2.2.2.2.2.2.2.2.2.2.2.2.1, u3.2.2.2.2.2.2.2.2.2.2.2.2.2.2.2.2.2.2.2.2.2.2.2.2.2.1, u3.2.2.2.2.2.2.2.2.2.2.2.2.2.2.2.2.2.2.2.2.2.2.2.2.2.2, rf_refused)
def fRi_lastShown (p1 : Int32) (p2 : Int32) (se_column : Nat → Int32) : Option (Int32) :=
  (fSe_columnAt p1 p2 se_column).bind fun u1 =>
  if u1 = (-1 : Int32) then
   some (7 : Int32)
  else
   some (u1 - (1 : Int32))
def fRi_firstShown (p1 : Int32) (p2 : Int32) (ch_ahead : Nat → Int32) (ch_linkE : Nat → Int32) (ch_linkF : Nat → Int32) (se_column : Nat → Int32) : Option (Int32) :=
  (fCh_aheadOf p1 ch_ahead).bind fun u1 =>
  if u1 = (-1 : Int32) then
   some (0 : Int32)
  else
   (fCh_shiftE u1 ch_linkE).bind fun u3 =>
   (fSe_columnAt u1 (p2 + u3) se_column).bind fun u4 =>
   if u4 = (-1 : Int32) then
    some (0 : Int32)
   else
    (fCh_shiftF u1 ch_linkF).bind fun u6 =>
    some (u4 - u6)
def fRi_shows_L53 (b53_4 : Int32) : Nat → Int32 → Int32 → Option (Int32)
  | 0, _, _ => none
  | n + 1, a53_3, a53_5 =>
    if (8 : Int32) ≤ a53_5 then
     some a53_3
    else
     if b53_4 < a53_5 then
      some a53_3
     else
      (some (a53_3 ||| ((1 : Int32) <<< (a53_5 &&& 31)))).bind fun (t13 : Int32) =>
      fRi_shows_L53 b53_4 n t13 (a53_5 + (1 : Int32))
def fRi_shows (p1 : Int32) (p2 : Int32) (ri_fresh : Int32) (sc_count : Int32) (sc_cornerChange : Int32) (sc_voteApart : Int32) (sc_cells : Nat → Int32) (sc_shotX : Nat → Int32) (sc_shotY : Nat → Int32) (sc_shotColumns : Nat → Int32) (li_corner : Nat → Int32) (li_most : Nat → Int32) (li_bestE : Nat → Int32) (li_bestF : Nat → Int32) (ch_taken : Int32) (ch_turn : Int32) (ch_drift : Int32) (ch_right : Int32) (ch_closed : Int32) (ch_follower : Nat → Int32) (ch_ahead : Nat → Int32) (ch_linkE : Nat → Int32) (ch_linkF : Nat → Int32) (ch_placeRight : Nat → Int32) (ch_placeLower : Nat → Int32) (se_cells : Nat → Int32) (se_apart : Nat → Int32) (se_surplus : Nat → Int32) (se_seamCost : Nat → Int32) (se_column : Nat → Int32) (se_gap : Nat → Int32) (se_cost : Nat → Int32) (le_restAbove : Int64) (le_restBelow : Int64) (le_above : Nat → Int64) (le_below : Nat → Int64) (rf_refused : Nat → Int32) : Option (Int32 × Int32 × (Nat → Int32) × (Nat → Int32) × (Nat → Int32) × (Nat → Int32) × Int32 × Int32 × Int32 × Int32 × Int32 × (Nat → Int32) × (Nat → Int32) × (Nat → Int32) × (Nat → Int32) × (Nat → Int32) × (Nat → Int32) × (Nat → Int32) × (Nat → Int32) × (Nat → Int32) × (Nat → Int32) × (Nat → Int32) × (Nat → Int32) × (Nat → Int32) × Int64 × Int64 × (Nat → Int64) × (Nat → Int64) × (Nat → Int32)) :=
  (fSc_hasPicture p1 sc_count).bind fun u1 =>
  if u1 = 0 then
   (fRi_refuse (-2 : Int32) rf_refused).bind fun u3 =>
   some (u3.1, ri_fresh, li_corner, li_most, li_bestE, li_bestF, ch_taken, ch_turn, ch_drift, ch_right, ch_closed, ch_follower, ch_ahead, ch_linkE, ch_linkF, ch_placeRight, ch_placeLower, se_cells, se_apart, se_surplus, se_seamCost, se_column, se_gap, se_cost, le_restAbove, le_restBelow, le_above, le_below, u3.2)
  else
   (fRi_within p2 (0 : Int32) (3 : Int32)).bind fun u4 =>
   if u4 = 0 then
    (fRi_refuse (-2 : Int32) rf_refused).bind fun u14 =>
    some (u14.1, ri_fresh, li_corner, li_most, li_bestE, li_bestF, ch_taken, ch_turn, ch_drift, ch_right, ch_closed, ch_follower, ch_ahead, ch_linkE, ch_linkF, ch_placeRight, ch_placeLower, se_cells, se_apart, se_surplus, se_seamCost, se_column, se_gap, se_cost, le_restAbove, le_restBelow, le_above, le_below, u14.2)
   else
    (fRi_refresh ri_fresh sc_count sc_cornerChange sc_voteApart sc_cells sc_shotX sc_shotY sc_shotColumns li_corner li_most li_bestE li_bestF ch_taken ch_turn ch_drift ch_right ch_closed ch_follower ch_ahead ch_linkE ch_linkF ch_placeRight ch_placeLower se_cells se_apart se_surplus se_seamCost se_column se_gap se_cost le_restAbove le_restBelow le_above le_below).bind fun u6 =>
    (fRi_lastShown p1 p2 u6.2.2.2.2.2.2.2.2.2.2.2.2.2.2.2.2.2.2.2.2.1).bind fun u7 =>
    (fRi_firstShown p1 p2 u6.2.2.2.2.2.2.2.2.2.2.2.1 u6.2.2.2.2.2.2.2.2.2.2.2.2.1 u6.2.2.2.2.2.2.2.2.2.2.2.2.2.1 u6.2.2.2.2.2.2.2.2.2.2.2.2.2.2.2.2.2.2.2.2.1).bind fun u8 =>
    (some (if u8 < (0 : Int32) then (0 : Int32) else u8)).bind fun (t9 : Int32) =>
    (fRi_shows_L53 u7 FU (0 : Int32) t9).bind fun u10 =>
    some (u10, u6.1, u6.2.1, u6.2.2.1, u6.2.2.2.1, u6.2.2.2.2.1, u6.2.2.2.2.2.1, u6.2.2.2.2.2.2.1, u6.2.2.2.2.2.2.2.1, u6.2.2.2.2.2.2.2.2.1, u6.2.2.2.2.2.2.2.2.2.1, u6.2.2.2.2.2.2.2.2.2.2.1, u6.2.2.2.2.2.2.2.2.2.2.2.1, u6.2.2.2.2.2.2.2.2.2.2.2.2.1, u6.2.2.2.2.2.2.2.2.2.2.2.2.2.1, u6.2.2.2.2.2.2.2.2.2.2.2.2.2.2.1, u6.2.2.2.2.2.2.2.2.2.2.2.2.2.2.2.1, u6.2.2.2.2.2.2.2.2.2.2.2.2.2.2.2.2.1, u6.2.2.2.2.2.2.2.2.2.2.2.2.2.2.2.2.2.1, u6.2.2.2.2.2.2.2.2.2.2.2.2.2.2.2.2.2.2.1, u6.2.2.2.2.2.2.2.2.2.2.2.2.2.2.2.2.2.2.2.1, u6.2.2.2.2.2.2.2.2.2.2.2.2.2.2.2.2.2.2.2.2.1, u6.2.2.2.2.2.2.2.2.2.2.2.2.2.2.2.2.2.2.2.2.2.1, u6.2.2.2.2.2.2.2.2.2.2.2.2.2.2.2.2.2.2.2.2.2.2.1, u6.2.2.2.2.2.2.2.2.2.2.2.2.2.2.2.2.2.2.2.2.2.2.2.1, u6.2.2.2.2.2.2.2.2.2.2.2.2.2.2.2.2.2.2.2.2.2.2.2.2.1, u6.2.2.2.2.2.2.2.2.2.2.2.2.2.2.2.2.2.2.2.2.2.2.2.2.2.1, u6.2.2.2.2.2.2.2.2.2.2.2.2.2.2.2.2.2.2.2.2.2.2.2.2.2.2, rf_refused)
def fRi_seen (p1 : Int32) (p2 : Int32) (p3 : Int32) (ri_fresh : Int32) (sc_count : Int32) (sc_cornerChange : Int32) (sc_voteApart : Int32) (sc_cells : Nat → Int32) (sc_shotX : Nat → Int32) (sc_shotY : Nat → Int32) (sc_shotColumns : Nat → Int32) (li_corner : Nat → Int32) (li_most : Nat → Int32) (li_bestE : Nat → Int32) (li_bestF : Nat → Int32) (ch_taken : Int32) (ch_turn : Int32) (ch_drift : Int32) (ch_right : Int32) (ch_closed : Int32) (ch_follower : Nat → Int32) (ch_ahead : Nat → Int32) (ch_linkE : Nat → Int32) (ch_linkF : Nat → Int32) (ch_placeRight : Nat → Int32) (ch_placeLower : Nat → Int32) (se_cells : Nat → Int32) (se_apart : Nat → Int32) (se_surplus : Nat → Int32) (se_seamCost : Nat → Int32) (se_column : Nat → Int32) (se_gap : Nat → Int32) (se_cost : Nat → Int32) (le_restAbove : Int64) (le_restBelow : Int64) (le_above : Nat → Int64) (le_below : Nat → Int64) (rf_refused : Nat → Int32) : Option (Int32 × Int32 × (Nat → Int32) × (Nat → Int32) × (Nat → Int32) × (Nat → Int32) × Int32 × Int32 × Int32 × Int32 × Int32 × (Nat → Int32) × (Nat → Int32) × (Nat → Int32) × (Nat → Int32) × (Nat → Int32) × (Nat → Int32) × (Nat → Int32) × (Nat → Int32) × (Nat → Int32) × (Nat → Int32) × (Nat → Int32) × (Nat → Int32) × (Nat → Int32) × Int64 × Int64 × (Nat → Int64) × (Nat → Int64) × (Nat → Int32)) :=
  (fSc_hasCell p1 p2 p3 sc_count).bind fun u1 =>
  if u1 = 0 then
   (fRi_refuse (-2 : Int32) rf_refused).bind fun u8 =>
   some (u8.1, ri_fresh, li_corner, li_most, li_bestE, li_bestF, ch_taken, ch_turn, ch_drift, ch_right, ch_closed, ch_follower, ch_ahead, ch_linkE, ch_linkF, ch_placeRight, ch_placeLower, se_cells, se_apart, se_surplus, se_seamCost, se_column, se_gap, se_cost, le_restAbove, le_restBelow, le_above, le_below, u8.2)
  else
   (fRi_refresh ri_fresh sc_count sc_cornerChange sc_voteApart sc_cells sc_shotX sc_shotY sc_shotColumns li_corner li_most li_bestE li_bestF ch_taken ch_turn ch_drift ch_right ch_closed ch_follower ch_ahead ch_linkE ch_linkF ch_placeRight ch_placeLower se_cells se_apart se_surplus se_seamCost se_column se_gap se_cost le_restAbove le_restBelow le_above le_below).bind fun u3 =>
   (fLe_belowOf p1 u3.2.2.2.2.2.2.2.2.2.2.2.2.2.2.2.2.2.2.2.2.2.2.2.2.2.2).bind fun u4 =>
   (fSc_cellAt p1 p2 p3 sc_count sc_cells).bind fun u5 =>
   (fLe_aboveOf p1 u3.2.2.2.2.2.2.2.2.2.2.2.2.2.2.2.2.2.2.2.2.2.2.2.2.2.1).bind fun u6 =>
   (fRi_nearest ((u5.toInt64 * u4) + u6) u4).bind fun u7 =>
   some ((if (if u7 < (63 : Int64) then u7 else (63 : Int64)) < (0 : Int64) then (0 : Int64) else (if u7 < (63 : Int64) then u7 else (63 : Int64))).toInt32, u3.1, u3.2.1, u3.2.2.1, u3.2.2.2.1, u3.2.2.2.2.1, u3.2.2.2.2.2.1, u3.2.2.2.2.2.2.1, u3.2.2.2.2.2.2.2.1, u3.2.2.2.2.2.2.2.2.1, u3.2.2.2.2.2.2.2.2.2.1, u3.2.2.2.2.2.2.2.2.2.2.1, u3.2.2.2.2.2.2.2.2.2.2.2.1, u3.2.2.2.2.2.2.2.2.2.2.2.2.1, u3.2.2.2.2.2.2.2.2.2.2.2.2.2.1, u3.2.2.2.2.2.2.2.2.2.2.2.2.2.2.1, u3.2.2.2.2.2.2.2.2.2.2.2.2.2.2.2.1, u3.2.2.2.2.2.2.2.2.2.2.2.2.2.2.2.2.1, u3.2.2.2.2.2.2.2.2.2.2.2.2.2.2.2.2.2.1, u3.2.2.2.2.2.2.2.2.2.2.2.2.2.2.2.2.2.2.1, u3.2.2.2.2.2.2.2.2.2.2.2.2.2.2.2.2.2.2.2.1, u3.2.2.2.2.2.2.2.2.2.2.2.2.2.2.2.2.2.2.2.2.1, u3.2.2.2.2.2.2.2.2.2.2.2.2.2.2.2.2.2.2.2.2.2.1, u3.2.2.2.2.2.2.2.2.2.2.2.2.2.2.2.2.2.2.2.2.2.2.1, u3.2.2.2.2.2.2.2.2.2.2.2.2.2.2.2.2.2.2.2.2.2.2.2.1, u3.2.2.2.2.2.2.2.2.2.2.2.2.2.2.2.2.2.2.2.2.2.2.2.2.1, u3.2.2.2.2.2.2.2.2.2.2.2.2.2.2.2.2.2.2.2.2.2.2.2.2.2.1, u3.2.2.2.2.2.2.2.2.2.2.2.2.2.2.2.2.2.2.2.2.2.2.2.2.2.2, rf_refused)
def fRi_type (p1 : Int32) (ri_length : Int32) (tx_text : Nat → Int32) (rf_refused : Nat → Int32) : Option (Int32 × Int32 × (Nat → Int32) × (Nat → Int32)) :=
  (fRi_within p1 (0 : Int32) (127 : Int32)).bind fun u1 =>
  if u1 = 0 then
   (fRi_refuse (-2 : Int32) rf_refused).bind fun u8 =>
   some (u8.1, ri_length, tx_text, u8.2)
  else
   if ri_length < 0 then
    (fRi_refuse (-4 : Int32) rf_refused).bind fun u4 =>
    some (u4.1, ri_length, tx_text, u4.2)
   else
    if ri_length < (120 : Int32) then
     if 0 ≤ ri_length.toInt ∧ ri_length.toInt < 120 then
      some ((ri_length + (1 : Int32)), (ri_length + (1 : Int32)), (upd tx_text ri_length.toNatClampNeg p1), rf_refused)
     else none
    else
     (fRi_refuse (-4 : Int32) rf_refused).bind fun u7 =>
     some (u7.1, ri_length, tx_text, u7.2)
def fRi_clear (ri_length : Int32) : Option (Int32 × Int32) :=
  some (ri_length, (0 : Int32))
def fRi_reads (ri_length : Int32) (ri_causeKind : Int32) (ri_causeOrder : Int32) (ri_fresh : Int32) (sc_columns : Int32) (sc_count : Int32) (sc_cornerChange : Int32) (sc_voteApart : Int32) (sc_dots : Nat → Int32) (sc_cells : Nat → Int32) (sc_shotX : Nat → Int32) (sc_shotY : Nat → Int32) (sc_shotColumns : Nat → Int32) (s2_columns : Int32) (s2_count : Int32) (s2_cornerChange : Int32) (s2_voteApart : Int32) (s2_dots : Nat → Int32) (s2_cells : Nat → Int32) (s2_shotX : Nat → Int32) (s2_shotY : Nat → Int32) (s2_shotColumns : Nat → Int32) (hi_count : Int32) (hi_states : Nat → Option Nat) (hi_held : Nat) (or_count : Int32) (or_stopKind : Int32) (or_letters : Nat → Int32) (or_numbers : Nat → Int32) (or_state : Int32) (or_letter : Int32) (or_filled : Int32) (or_figures : Int32) (or_number : Int32) (or_below : Int32) (tx_text : Nat → Int32) (rf_refused : Nat → Int32) : Option (Int32 × Int32 × Int32 × Int32 × Int32 × Int32 × Int32 × Int32 × (Nat → Int32) × (Nat → Int32) × (Nat → Int32) × (Nat → Int32) × (Nat → Int32) × Int32 × Int32 × Int32 × Int32 × (Nat → Int32) × (Nat → Int32) × (Nat → Int32) × (Nat → Int32) × (Nat → Int32) × Int32 × (Nat → Option Nat) × Nat × Int32 × Int32 × (Nat → Int32) × (Nat → Int32) × Int32 × Int32 × Int32 × Int32 × Int32 × Int32 × (Nat → Int32)) :=
  (fOr_findFault ri_length or_count or_letters or_numbers or_state or_letter or_filled or_figures or_number or_below tx_text).bind fun u1 =>
  if u1.1 = (-1 : Int32) then
   (fHi_hold sc_columns sc_count sc_cornerChange sc_voteApart sc_dots sc_cells sc_shotX sc_shotY sc_shotColumns s2_columns s2_count s2_cornerChange s2_voteApart s2_dots s2_cells s2_shotX s2_shotY s2_shotColumns).bind fun u3 =>
   (fOr_carryOut sc_columns sc_count sc_cornerChange sc_voteApart sc_dots sc_cells sc_shotX sc_shotY sc_shotColumns u1.2.1 or_stopKind u1.2.2.1 u1.2.2.2.1).bind fun u4 =>
   if u4.1 = (-1 : Int32) then
    (fRi_settle u1.2.1 ri_fresh hi_count hi_states hi_held rf_refused).bind fun u6 =>
    some (u6.1, ri_causeKind, ri_causeOrder, u6.2.1, u4.2.1, u4.2.2.1, u4.2.2.2.1, u4.2.2.2.2.1, u4.2.2.2.2.2.1, u4.2.2.2.2.2.2.1, u4.2.2.2.2.2.2.2.1, u4.2.2.2.2.2.2.2.2.1, u4.2.2.2.2.2.2.2.2.2.1, u3.1, u3.2.1, u3.2.2.1, u3.2.2.2.1, u3.2.2.2.2.1, u3.2.2.2.2.2.1, u3.2.2.2.2.2.2.1, u3.2.2.2.2.2.2.2.1, u3.2.2.2.2.2.2.2.2, u6.2.2.1, u6.2.2.2.1, u6.2.2.2.2.1, u1.2.1, u4.2.2.2.2.2.2.2.2.2.2, u1.2.2.1, u1.2.2.2.1, u1.2.2.2.2.1, u1.2.2.2.2.2.1, u1.2.2.2.2.2.2.1, u1.2.2.2.2.2.2.2.1, u1.2.2.2.2.2.2.2.2.1, u1.2.2.2.2.2.2.2.2.2, u6.2.2.2.2.2)
   else
    (fHi_release u4.2.1 u4.2.2.1 u4.2.2.2.1 u4.2.2.2.2.1 u4.2.2.2.2.2.1 u4.2.2.2.2.2.2.1 u4.2.2.2.2.2.2.2.1 u4.2.2.2.2.2.2.2.2.1 u4.2.2.2.2.2.2.2.2.2.1 u3.1 u3.2.1 u3.2.2.1 u3.2.2.2.1 u3.2.2.2.2.1 u3.2.2.2.2.2.1 u3.2.2.2.2.2.2.1 u3.2.2.2.2.2.2.2.1 u3.2.2.2.2.2.2.2.2).bind fun u7 =>
    some (((-1000 : Int32) - u4.1), u4.2.2.2.2.2.2.2.2.2.2, u4.1, ri_fresh, u7.1, u7.2.1, u7.2.2.1, u7.2.2.2.1, u7.2.2.2.2.1, u7.2.2.2.2.2.1, u7.2.2.2.2.2.2.1, u7.2.2.2.2.2.2.2.1, u7.2.2.2.2.2.2.2.2, u3.1, u3.2.1, u3.2.2.1, u3.2.2.2.1, u3.2.2.2.2.1, u3.2.2.2.2.2.1, u3.2.2.2.2.2.2.1, u3.2.2.2.2.2.2.2.1, u3.2.2.2.2.2.2.2.2, hi_count, hi_states, hi_held, u1.2.1, u4.2.2.2.2.2.2.2.2.2.2, u1.2.2.1, u1.2.2.2.1, u1.2.2.2.2.1, u1.2.2.2.2.2.1, u1.2.2.2.2.2.2.1, u1.2.2.2.2.2.2.2.1, u1.2.2.2.2.2.2.2.2.1, u1.2.2.2.2.2.2.2.2.2, rf_refused)
  else
   some (((-10 : Int32) - u1.1), ri_causeKind, ri_causeOrder, ri_fresh, sc_columns, sc_count, sc_cornerChange, sc_voteApart, sc_dots, sc_cells, sc_shotX, sc_shotY, sc_shotColumns, s2_columns, s2_count, s2_cornerChange, s2_voteApart, s2_dots, s2_cells, s2_shotX, s2_shotY, s2_shotColumns, hi_count, hi_states, hi_held, u1.2.1, or_stopKind, u1.2.2.1, u1.2.2.2.1, u1.2.2.2.2.1, u1.2.2.2.2.2.1, u1.2.2.2.2.2.2.1, u1.2.2.2.2.2.2.2.1, u1.2.2.2.2.2.2.2.2.1, u1.2.2.2.2.2.2.2.2.2, rf_refused)
def fRi_why (p1 : Int32) (ri_causeKind : Int32) (ri_causeOrder : Int32) (rf_refused : Nat → Int32) : Option (Int32 × (Nat → Int32)) :=
  (fRi_within p1 (0 : Int32) (1 : Int32)).bind fun u1 =>
  if u1 = 0 then
   (fRi_refuse (-2 : Int32) rf_refused).bind fun u4 =>
   some ((-10 : Int32), u4.2)
  else
   if p1 = 0 then
    some (ri_causeKind, rf_refused)
   else
    some (ri_causeOrder, rf_refused)
def fRi_back (ri_fresh : Int32) (sc_columns : Int32) (sc_count : Int32) (sc_cornerChange : Int32) (sc_voteApart : Int32) (sc_dots : Nat → Int32) (sc_cells : Nat → Int32) (sc_shotX : Nat → Int32) (sc_shotY : Nat → Int32) (sc_shotColumns : Nat → Int32) (s2_columns : Int32) (s2_count : Int32) (s2_cornerChange : Int32) (s2_voteApart : Int32) (s2_dots : Nat → Int32) (s2_cells : Nat → Int32) (s2_shotX : Nat → Int32) (s2_shotY : Nat → Int32) (s2_shotColumns : Nat → Int32) (hi_count : Int32) (rf_refused : Nat → Int32) : Option (Int32 × Int32 × Int32 × Int32 × Int32 × Int32 × (Nat → Int32) × (Nat → Int32) × (Nat → Int32) × (Nat → Int32) × (Nat → Int32) × Int32 × (Nat → Int32)) :=
  if hi_count = 0 then
   (fRi_refuse (-3 : Int32) rf_refused).bind fun u3 =>
   some (u3.1, ri_fresh, sc_columns, sc_count, sc_cornerChange, sc_voteApart, sc_dots, sc_cells, sc_shotX, sc_shotY, sc_shotColumns, hi_count, u3.2)
  else
   (fHi_goBack sc_columns sc_count sc_cornerChange sc_voteApart sc_dots sc_cells sc_shotX sc_shotY sc_shotColumns s2_columns s2_count s2_cornerChange s2_voteApart s2_dots s2_cells s2_shotX s2_shotY s2_shotColumns hi_count).bind fun u2 =>
   some (u2.2.2.2.2.2.2.2.2.2, (0 : Int32), u2.1, u2.2.1, u2.2.2.1, u2.2.2.2.1, u2.2.2.2.2.1, u2.2.2.2.2.2.1, u2.2.2.2.2.2.2.1, u2.2.2.2.2.2.2.2.1, u2.2.2.2.2.2.2.2.2.1, u2.2.2.2.2.2.2.2.2.2, rf_refused)
def fRi_aboutObject (p1 : Int32) (ri_length : Int32) (sc_columns : Int32) (sc_count : Int32) (sc_cornerChange : Int32) (sc_voteApart : Int32) (hi_count : Int32) (rf_refused : Nat → Int32) : Option (Int32) :=
  if p1 = (0 : Int32) then
   if 0 ≤ (0 : Int32).toInt ∧ (0 : Int32).toInt < 3 then
    some (rf_refused (0 : Int32).toNatClampNeg)
   else none
  else
   if p1 = (1 : Int32) then
    if 0 ≤ (1 : Int32).toInt ∧ (1 : Int32).toInt < 3 then
     some (rf_refused (1 : Int32).toNatClampNeg)
    else none
   else
    if p1 = (2 : Int32) then
     if 0 ≤ (2 : Int32).toInt ∧ (2 : Int32).toInt < 3 then
      some (rf_refused (2 : Int32).toNatClampNeg)
     else none
    else
     if p1 = (3 : Int32) then
      some ri_length
     else
      if p1 = (4 : Int32) then
       some sc_columns
      else
       if p1 = (5 : Int32) then
        some sc_count
       else
        if p1 = (6 : Int32) then
         some sc_cornerChange
        else
         if p1 = (7 : Int32) then
          some sc_voteApart
         else
          some hi_count
def fRi_told (p1 : Int32) (ri_length : Int32) (sc_columns : Int32) (sc_count : Int32) (sc_cornerChange : Int32) (sc_voteApart : Int32) (hi_count : Int32) (rf_refused : Nat → Int32) : Option (Int32 × (Nat → Int32)) :=
  (fRi_within p1 (0 : Int32) (8 : Int32)).bind fun u1 =>
  if u1 = 0 then
   (fRi_refuse (-2 : Int32) rf_refused).bind fun u3 =>
   some (u3.1, u3.2)
  else
   (fRi_aboutObject p1 ri_length sc_columns sc_count sc_cornerChange sc_voteApart hi_count rf_refused).bind fun u4 =>
   some (u4, rf_refused)
def fRi_digestPicture_L15 (b15_3 : Int32) (b15_6 : Int32) (d15_sc_count : Int32) (d15_sc_cells : Nat → Int32) : Nat → Int64 → Int32 → Option (Int64)
  | 0, _, _ => none
  | n + 1, a15_4, a15_7 =>
    if (8 : Int32) ≤ a15_7 then
     some a15_4
    else
     (fSc_cellAt b15_3 b15_6 a15_7 d15_sc_count d15_sc_cells).bind fun u5 =>
     (some (((31 : Int64) * a15_4) + u5.toInt64)).bind fun (t6 : Int64) =>
     fRi_digestPicture_L15 b15_3 b15_6 d15_sc_count d15_sc_cells n t6 (a15_7 + (1 : Int32))
def fRi_digestPicture_L6 (b6_3 : Int32) (d6_sc_count : Int32) (d6_sc_cells : Nat → Int32) : Nat → Int64 → Int32 → Option (Int64)
  | 0, _, _ => none
  | n + 1, a6_4, a6_6 =>
    if (4 : Int32) ≤ a6_6 then
     some a6_4
    else
     (fRi_digestPicture_L15 b6_3 a6_6 d6_sc_count d6_sc_cells FU a6_4 (0 : Int32)).bind fun u3 =>
     fRi_digestPicture_L6 b6_3 d6_sc_count d6_sc_cells n u3 (a6_6 + (1 : Int32))
def fRi_digestPicture (p1 : Int64) (p3 : Int32) (sc_count : Int32) (sc_cells : Nat → Int32) (li_corner : Nat → Int32) (ch_follower : Nat → Int32) : Option (Int64) :=
  (fRi_digestPicture_L6 p3 sc_count sc_cells FU p1 (0 : Int32)).bind fun u1 =>
  (fLi_cornerBits p3 li_corner).bind fun u7 =>
  (some (((31 : Int64) * u1) + u7.toInt64)).bind fun (t8 : Int64) =>
  (fCh_followerOf p3 ch_follower).bind fun u9 =>
  some (((31 : Int64) * t8) + u9.toInt64)
def fRi_digest_L10 (d10_ri_length : Int32) (d10_sc_columns : Int32) (d10_sc_count : Int32) (d10_sc_cornerChange : Int32) (d10_sc_voteApart : Int32) (d10_hi_count : Int32) (d10_rf_refused : Nat → Int32) : Nat → Int64 → Int32 → Option (Int64)
  | 0, _, _ => none
  | n + 1, a10_1, a10_3 =>
    if (8 : Int32) < a10_3 then
     some a10_1
    else
     (fRi_aboutObject a10_3 d10_ri_length d10_sc_columns d10_sc_count d10_sc_cornerChange d10_sc_voteApart d10_hi_count d10_rf_refused).bind fun u4 =>
     (some (((31 : Int64) * a10_1) + u4.toInt64)).bind fun (t5 : Int64) =>
     fRi_digest_L10 d10_ri_length d10_sc_columns d10_sc_count d10_sc_cornerChange d10_sc_voteApart d10_hi_count d10_rf_refused n t5 (a10_3 + (1 : Int32))
def fRi_digest_L61 (d61_sc_count : Int32) (d61_sc_cells : Nat → Int32) (d61_li_corner : Nat → Int32) (d61_ch_follower : Nat → Int32) : Nat → Int64 → Int32 → Option (Int64)
  | 0, _, _ => none
  | n + 1, a61_1, a61_3 =>
    if d61_sc_count ≤ a61_3 then
     some a61_1
    else
     (fRi_digestPicture a61_1 a61_3 d61_sc_count d61_sc_cells d61_li_corner d61_ch_follower).bind fun u10 =>
     fRi_digest_L61 d61_sc_count d61_sc_cells d61_li_corner d61_ch_follower n u10 (a61_3 + (1 : Int32))
def fRi_digest_L87 (d87_sc_count : Int32) (d87_ch_taken : Int32) (d87_ch_turn : Int32) (d87_ch_drift : Int32) (d87_ch_right : Int32) (d87_ch_closed : Int32) : Nat → Int64 → Int32 → Option (Int64)
  | 0, _, _ => none
  | n + 1, a87_1, a87_3 =>
    if (5 : Int32) < a87_3 then
     some a87_1
    else
     (fRi_aboutAll a87_3 d87_sc_count d87_ch_taken d87_ch_turn d87_ch_drift d87_ch_right d87_ch_closed).bind fun u13 =>
     (some (((31 : Int64) * a87_1) + u13.toInt64)).bind fun (t14 : Int64) =>
     fRi_digest_L87 d87_sc_count d87_ch_taken d87_ch_turn d87_ch_drift d87_ch_right d87_ch_closed n t14 (a87_3 + (1 : Int32))
def fRi_digest (ri_length : Int32) (ri_causeKind : Int32) (ri_causeOrder : Int32) (ri_fresh : Int32) (sc_columns : Int32) (sc_count : Int32) (sc_cornerChange : Int32) (sc_voteApart : Int32) (sc_cells : Nat → Int32) (sc_shotX : Nat → Int32) (sc_shotY : Nat → Int32) (sc_shotColumns : Nat → Int32) (hi_count : Int32) (li_corner : Nat → Int32) (li_most : Nat → Int32) (li_bestE : Nat → Int32) (li_bestF : Nat → Int32) (ch_taken : Int32) (ch_turn : Int32) (ch_drift : Int32) (ch_right : Int32) (ch_closed : Int32) (ch_follower : Nat → Int32) (ch_ahead : Nat → Int32) (ch_linkE : Nat → Int32) (ch_linkF : Nat → Int32) (ch_placeRight : Nat → Int32) (ch_placeLower : Nat → Int32) (se_cells : Nat → Int32) (se_apart : Nat → Int32) (se_surplus : Nat → Int32) (se_seamCost : Nat → Int32) (se_column : Nat → Int32) (se_gap : Nat → Int32) (se_cost : Nat → Int32) (le_restAbove : Int64) (le_restBelow : Int64) (le_above : Nat → Int64) (le_below : Nat → Int64) (rf_refused : Nat → Int32) : Option (Int64 × Int32 × (Nat → Int32) × (Nat → Int32) × (Nat → Int32) × (Nat → Int32) × Int32 × Int32 × Int32 × Int32 × Int32 × (Nat → Int32) × (Nat → Int32) × (Nat → Int32) × (Nat → Int32) × (Nat → Int32) × (Nat → Int32) × (Nat → Int32) × (Nat → Int32) × (Nat → Int32) × (Nat → Int32) × (Nat → Int32) × (Nat → Int32) × (Nat → Int32) × Int64 × Int64 × (Nat → Int64) × (Nat → Int64)) :=
  (fRi_refresh ri_fresh sc_count sc_cornerChange sc_voteApart sc_cells sc_shotX sc_shotY sc_shotColumns li_corner li_most li_bestE li_bestF ch_taken ch_turn ch_drift ch_right ch_closed ch_follower ch_ahead ch_linkE ch_linkF ch_placeRight ch_placeLower se_cells se_apart se_surplus se_seamCost se_column se_gap se_cost le_restAbove le_restBelow le_above le_below).bind fun u1 =>
  (fRi_digest_L10 ri_length sc_columns sc_count sc_cornerChange sc_voteApart hi_count rf_refused FU (2269 : Int64) (0 : Int32)).bind fun u2 =>
  (some (((31 : Int64) * u2) + ri_causeKind.toInt64)).bind fun (t6 : Int64) =>
  (some (((31 : Int64) * t6) + ri_causeOrder.toInt64)).bind fun (t7 : Int64) =>
  (fRi_digest_L61 sc_count sc_cells u1.2.1 u1.2.2.2.2.2.2.2.2.2.2.1 FU t7 (0 : Int32)).bind fun u8 =>
  (fRi_digest_L87 sc_count u1.2.2.2.2.2.1 u1.2.2.2.2.2.2.1 u1.2.2.2.2.2.2.2.1 u1.2.2.2.2.2.2.2.2.1 u1.2.2.2.2.2.2.2.2.2.1 FU u8 (0 : Int32)).bind fun u11 =>
  some (u11, u1.1, u1.2.1, u1.2.2.1, u1.2.2.2.1, u1.2.2.2.2.1, u1.2.2.2.2.2.1, u1.2.2.2.2.2.2.1, u1.2.2.2.2.2.2.2.1, u1.2.2.2.2.2.2.2.2.1, u1.2.2.2.2.2.2.2.2.2.1, u1.2.2.2.2.2.2.2.2.2.2.1, u1.2.2.2.2.2.2.2.2.2.2.2.1, u1.2.2.2.2.2.2.2.2.2.2.2.2.1, u1.2.2.2.2.2.2.2.2.2.2.2.2.2.1, u1.2.2.2.2.2.2.2.2.2.2.2.2.2.2.1, u1.2.2.2.2.2.2.2.2.2.2.2.2.2.2.2.1, u1.2.2.2.2.2.2.2.2.2.2.2.2.2.2.2.2.1, u1.2.2.2.2.2.2.2.2.2.2.2.2.2.2.2.2.2.1, u1.2.2.2.2.2.2.2.2.2.2.2.2.2.2.2.2.2.2.1, u1.2.2.2.2.2.2.2.2.2.2.2.2.2.2.2.2.2.2.2.1, u1.2.2.2.2.2.2.2.2.2.2.2.2.2.2.2.2.2.2.2.2.1, u1.2.2.2.2.2.2.2.2.2.2.2.2.2.2.2.2.2.2.2.2.2.1, u1.2.2.2.2.2.2.2.2.2.2.2.2.2.2.2.2.2.2.2.2.2.2.1, u1.2.2.2.2.2.2.2.2.2.2.2.2.2.2.2.2.2.2.2.2.2.2.2.1, u1.2.2.2.2.2.2.2.2.2.2.2.2.2.2.2.2.2.2.2.2.2.2.2.2.1, u1.2.2.2.2.2.2.2.2.2.2.2.2.2.2.2.2.2.2.2.2.2.2.2.2.2.1, u1.2.2.2.2.2.2.2.2.2.2.2.2.2.2.2.2.2.2.2.2.2.2.2.2.2.2)
