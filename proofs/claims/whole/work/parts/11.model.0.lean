def fMo_in (p0 : Int64) (p2 : Int64) (p4 : Int64) : Option (Int32) :=
  if (lg_cmp p0 p2) < 0 then
   some (0 : Int32)
  else
   if 0 < (lg_cmp p0 p4) then
    some (0 : Int32)
   else
    some (1 : Int32)
def fMo_refuses (p1 : Int32) (mo_refused : Nat → Int32) : Option (Int32 × (Nat → Int32)) :=
  if 0 ≤ ((-2 : Int32) - p1).toInt ∧ ((-2 : Int32) - p1).toInt < 3 then
   if 0 ≤ ((-2 : Int32) - p1).toInt ∧ ((-2 : Int32) - p1).toInt < 3 then
    some (p1, (upd mo_refused ((-2 : Int32) - p1).toNatClampNeg ((mo_refused ((-2 : Int32) - p1).toNatClampNeg) + (1 : Int32))))
   else none
  else none
def fMo_keep_L10 : Nat → Int32 → (Nat → Int32) → Option ((Nat → Int32))
  | 0, _, _ => none
  | n + 1, a10_1, c10_mo_past =>
    fMo_keep_L10 n a10_1 c10_mo_past
def fMo_keep_L51 (d51_mo_all : Nat → Int32) (d51_mo_states : Int32) : Nat → Int32 → (Nat → Int32) → Option ((Nat → Int32))
  | 0, _, _ => none
  | n + 1, a51_1, c51_mo_past =>
    fMo_keep_L51 d51_mo_all d51_mo_states n a51_1 c51_mo_past
def fMo_keep (mo_all : Nat → Int32) (mo_past : Nat → Int32) (mo_states : Int32) : Option ((Nat → Int32) × Int32) :=
  ((if mo_states = (5 : Int32) then
    (fMo_keep_L10 FU (0 : Int32) mo_past).bind fun u3 =>
    some (u3, (mo_states - (1 : Int32)))
   else
    some (mo_past, mo_states) : Option ((Nat → Int32) × Int32))).bind fun u2 =>
  (fMo_keep_L51 mo_all u2.2 FU (0 : Int32) u2.1).bind fun u4 =>
  some (u4, (u2.2 + (1 : Int32)))
def fMo_abs (p0 : Int32) : Option (Int32) :=
  if 0 ≤ p0 then
   some p0
  else
   some (-p0)
def fMo_held (p0 : Int32) : Option (Int32) :=
  if 0 ≤ p0 then
   if p0 ≤ (63 : Int32) then
    some p0
   else
    some (63 : Int32)
  else
   some (0 : Int32)
def fMo_many (mo_all : Nat → Int32) : Option (Int32) :=
  if 0 ≤ (3 : Int32).toInt ∧ (3 : Int32).toInt < 406 then
   some (mo_all (3 : Int32).toNatClampNeg)
  else none
def fMo_isPicture (p1 : Int32) (mo_all : Nat → Int32) : Option (Int32) :=
  (fMo_many mo_all).bind fun u1 =>
  (fMo_in p1.toInt64 (0 : Int64) ((u1 - (1 : Int32)).toInt64)).bind fun u2 =>
  if u2 = 0 ∨ u2 = 1 then
   some u2
  else none
def fMo_isCell (p0 : Int32) (p1 : Int32) : Option (Int32) :=
  (fMo_in p0.toInt64 (0 : Int64) (3 : Int64)).bind fun u1 =>
  if u1 = 0 then
   some (0 : Int32)
  else
   (fMo_in p1.toInt64 (0 : Int64) (7 : Int64)).bind fun u3 =>
   if u3 = 0 then
    some (0 : Int32)
   else
    some (1 : Int32)
def fMo_at (p1 : Int32) (p2 : Int32) (p3 : Int32) (mo_all : Nat → Int32) : Option (Int32) :=
  if 0 ≤ ((((196 : Int32) + ((35 : Int32) * p1)) + ((8 : Int32) * p2)) + p3).toInt ∧ ((((196 : Int32) + ((35 : Int32) * p1)) + ((8 : Int32) * p2)) + p3).toInt < 406 then
   some (mo_all ((((196 : Int32) + ((35 : Int32) * p1)) + ((8 : Int32) * p2)) + p3).toNatClampNeg)
  else none
def fMo_shotOf (p1 : Int32) (p2 : Int32) (mo_all : Nat → Int32) : Option (Int32) :=
  if 0 ≤ ((((196 : Int32) + ((35 : Int32) * p1)) + (32 : Int32)) + p2).toInt ∧ ((((196 : Int32) + ((35 : Int32) * p1)) + (32 : Int32)) + p2).toInt < 406 then
   some (mo_all ((((196 : Int32) + ((35 : Int32) * p1)) + (32 : Int32)) + p2).toNatClampNeg)
  else none
def fMo_isWorld (p0 : Int32) (p1 : Int32) : Option (Int32) :=
  (fMo_in p0.toInt64 (0 : Int64) (999999 : Int64)).bind fun u1 =>
  if u1 = 0 then
   some (0 : Int32)
  else
   (fMo_in p1.toInt64 (12 : Int64) (32 : Int64)).bind fun u3 =>
   if u3 = 0 then
    some (0 : Int32)
   else
    some (1 : Int32)
def fMo_worldNow_L14 (b14_2 : Int32) : Nat → Int64 → Int32 → (Nat → Int32) → Option ((Nat → Int32))
  | 0, _, _, _ => none
  | n + 1, a14_4, a14_6, c14_mo_all =>
    fMo_worldNow_L14 b14_2 n a14_4 a14_6 c14_mo_all
def fMo_worldNow (p1 : Int32) (p2 : Int32) (mo_all : Nat → Int32) : Option (Int32 × (Nat → Int32)) :=
  if 0 ≤ (0 : Int32).toInt ∧ (0 : Int32).toInt < 406 then
   (some (mo_all (0 : Int32).toNatClampNeg)).bind fun (t2 : Int32) =>
   (fMo_worldNow_L14 p2 FU p1.toInt64 (0 : Int32) mo_all).bind fun u3 =>
   if 0 ≤ (0 : Int32).toInt ∧ (0 : Int32).toInt < 406 then
    some (t2, (upd u3 (0 : Int32).toNatClampNeg p2))
   else none
  else none
def fMo_world (p1 : Int32) (p2 : Int32) (mo_all : Nat → Int32) (mo_past : Nat → Int32) (mo_states : Int32) (mo_refused : Nat → Int32) : Option (Int32 × (Nat → Int32) × (Nat → Int32) × Int32 × (Nat → Int32)) :=
  (fMo_isWorld p1 p2).bind fun u1 =>
  if u1 = 0 then
   (fMo_refuses (-2 : Int32) mo_refused).bind fun u5 =>
   some (u5.1, mo_all, mo_past, mo_states, u5.2)
  else
   (fMo_keep mo_all mo_past mo_states).bind fun u3 =>
   (fMo_worldNow p1 p2 mo_all).bind fun u4 =>
   some (u4.1, u4.2, u3.1, u3.2, mo_refused)
def fMo_isDot (p1 : Int32) (p2 : Int32) (mo_all : Nat → Int32) : Option (Int32) :=
  (fMo_in p1.toInt64 (0 : Int64) (5 : Int64)).bind fun u1 =>
  if u1 = 0 then
   some (0 : Int32)
  else
   if 0 ≤ (0 : Int32).toInt ∧ (0 : Int32).toInt < 406 then
    (fMo_in p2.toInt64 (0 : Int64) (((mo_all (0 : Int32).toNatClampNeg) - (1 : Int32)).toInt64)).bind fun u4 =>
    if u4 = 0 then
     some (0 : Int32)
    else
     some (1 : Int32)
   else none
def fMo_cellNow (p1 : Int32) (p2 : Int32) (mo_all : Nat → Int32) : Option (Int32 × (Nat → Int32)) :=
  if 0 ≤ p1.toInt ∧ p1.toInt < 406 then
   if 0 ≤ p1.toInt ∧ p1.toInt < 406 then
    some ((mo_all p1.toNatClampNeg), (upd mo_all p1.toNatClampNeg p2))
   else none
  else none
def fMo_dots (p1 : Int32) (p2 : Int32) (p3 : Int32) (mo_all : Nat → Int32) (mo_past : Nat → Int32) (mo_states : Int32) (mo_refused : Nat → Int32) : Option (Int32 × (Nat → Int32) × (Nat → Int32) × Int32 × (Nat → Int32)) :=
  (fMo_isDot p1 p2 mo_all).bind fun u1 =>
  if u1 = 0 then
   (fMo_refuses (-2 : Int32) mo_refused).bind fun u3 =>
   some (u3.1, mo_all, mo_past, mo_states, u3.2)
  else
   (fMo_in p3.toInt64 (0 : Int64) (63 : Int64)).bind fun u4 =>
   if u4 = 0 then
    (fMo_refuses (-2 : Int32) mo_refused).bind fun u8 =>
    some (u8.1, mo_all, mo_past, mo_states, u8.2)
   else
    (fMo_keep mo_all mo_past mo_states).bind fun u6 =>
    (fMo_cellNow (((4 : Int32) + ((32 : Int32) * p1)) + p2) p3 mo_all).bind fun u7 =>
    some (u7.1, u7.2, u6.1, u6.2, mo_refused)
def fMo_canShoot (p1 : Int32) (p2 : Int32) (p3 : Int32) (mo_all : Nat → Int32) : Option (Int32) :=
  if 0 ≤ (0 : Int32).toInt ∧ (0 : Int32).toInt < 406 then
   (fMo_in p1.toInt64 (0 : Int64) (((mo_all (0 : Int32).toNatClampNeg) - (1 : Int32)).toInt64)).bind fun u2 =>
   if u2 = 0 then
    some (-2 : Int32)
   else
    (fMo_in p2.toInt64 (0 : Int64) (2 : Int64)).bind fun u4 =>
    if u4 = 0 then
     some (-2 : Int32)
    else
     (fMo_in p3.toInt64 (-20 : Int64) (20 : Int64)).bind fun u6 =>
     if u6 = 0 then
      some (-2 : Int32)
     else
      (fMo_many mo_all).bind fun u8 =>
      if u8 = (6 : Int32) then
       some (-4 : Int32)
      else
       some (0 : Int32)
  else none
def fMo_shotNow_L9 (b9_1 : Int32) (b9_2 : Int32) (b9_3 : Int32) (b9_4 : Int32) : Nat → Int32 → (Nat → Int32) → Option ((Nat → Int32))
  | 0, _, _ => none
  | n + 1, a9_5, c9_mo_all =>
    fMo_shotNow_L9 b9_1 b9_2 b9_3 b9_4 n a9_5 c9_mo_all
def fMo_shotNow (p1 : Int32) (p2 : Int32) (p3 : Int32) (mo_all : Nat → Int32) : Option (Int32 × (Nat → Int32)) :=
  (fMo_many mo_all).bind fun u1 =>
  (fMo_shotNow_L9 p1 p2 p3 u1 FU (0 : Int32) mo_all).bind fun u2 =>
  if 0 ≤ (((196 : Int32) + ((35 : Int32) * u1)) + (32 : Int32)).toInt ∧ (((196 : Int32) + ((35 : Int32) * u1)) + (32 : Int32)).toInt < 406 then
   if 0 ≤ ((((196 : Int32) + ((35 : Int32) * u1)) + (32 : Int32)) + (1 : Int32)).toInt ∧ ((((196 : Int32) + ((35 : Int32) * u1)) + (32 : Int32)) + (1 : Int32)).toInt < 406 then
    if 0 ≤ (0 : Int32).toInt ∧ (0 : Int32).toInt < 406 then
     if 0 ≤ ((((196 : Int32) + ((35 : Int32) * u1)) + (32 : Int32)) + (2 : Int32)).toInt ∧ ((((196 : Int32) + ((35 : Int32) * u1)) + (32 : Int32)) + (2 : Int32)).toInt < 406 then
      if 0 ≤ (3 : Int32).toInt ∧ (3 : Int32).toInt < 406 then
       if 0 ≤ (3 : Int32).toInt ∧ (3 : Int32).toInt < 406 then
        some (u1, (upd (upd (upd (upd u2 (((196 : Int32) + ((35 : Int32) * u1)) + (32 : Int32)).toNatClampNeg p1) ((((196 : Int32) + ((35 : Int32) * u1)) + (32 : Int32)) + (1 : Int32)).toNatClampNeg p2) ((((196 : Int32) + ((35 : Int32) * u1)) + (32 : Int32)) + (2 : Int32)).toNatClampNeg ((upd (upd u2 (((196 : Int32) + ((35 : Int32) * u1)) + (32 : Int32)).toNatClampNeg p1) ((((196 : Int32) + ((35 : Int32) * u1)) + (32 : Int32)) + (1 : Int32)).toNatClampNeg p2) (0 : Int32).toNatClampNeg)) (3 : Int32).toNatClampNeg (((upd (upd (upd u2 (((196 : Int32) + ((35 : Int32) * u1)) + (32 : Int32)).toNatClampNeg p1) ((((196 : Int32) + ((35 : Int32) * u1)) + (32 : Int32)) + (1 : Int32)).toNatClampNeg p2) ((((196 : Int32) + ((35 : Int32) * u1)) + (32 : Int32)) + (2 : Int32)).toNatClampNeg ((upd (upd u2 (((196 : Int32) + ((35 : Int32) * u1)) + (32 : Int32)).toNatClampNeg p1) ((((196 : Int32) + ((35 : Int32) * u1)) + (32 : Int32)) + (1 : Int32)).toNatClampNeg p2) (0 : Int32).toNatClampNeg)) (3 : Int32).toNatClampNeg) + (1 : Int32))))
       else none
      else none
     else none
    else none
   else none
  else none
def fMo_shot (p1 : Int32) (p2 : Int32) (p3 : Int32) (mo_all : Nat → Int32) (mo_past : Nat → Int32) (mo_states : Int32) (mo_refused : Nat → Int32) : Option (Int32 × (Nat → Int32) × (Nat → Int32) × Int32 × (Nat → Int32)) :=
  (fMo_canShoot p1 p2 p3 mo_all).bind fun u1 =>
  if 0 ≤ u1 then
   (fMo_keep mo_all mo_past mo_states).bind fun u3 =>
   (fMo_shotNow p1 p2 p3 mo_all).bind fun u4 =>
   some (u4.1, u4.2, u3.1, u3.2, mo_refused)
  else
   (fMo_refuses u1 mo_refused).bind fun u5 =>
   some (u5.1, mo_all, mo_past, mo_states, u5.2)
def fMo_paint (p1 : Int32) (p2 : Int32) (p3 : Int32) (p4 : Int32) (mo_all : Nat → Int32) (mo_past : Nat → Int32) (mo_states : Int32) (mo_refused : Nat → Int32) : Option (Int32 × (Nat → Int32) × (Nat → Int32) × Int32 × (Nat → Int32)) :=
  (fMo_isPicture p1 mo_all).bind fun u1 =>
  if u1 = 0 then
   (fMo_refuses (-2 : Int32) mo_refused).bind fun u3 =>
   some (u3.1, mo_all, mo_past, mo_states, u3.2)
  else
   (fMo_isCell p2 p3).bind fun u4 =>
   if u4 = 0 then
    (fMo_refuses (-2 : Int32) mo_refused).bind fun u6 =>
    some (u6.1, mo_all, mo_past, mo_states, u6.2)
   else
    (fMo_in p4.toInt64 (0 : Int64) (63 : Int64)).bind fun u7 =>
    if u7 = 0 then
     (fMo_refuses (-2 : Int32) mo_refused).bind fun u11 =>
     some (u11.1, mo_all, mo_past, mo_states, u11.2)
    else
     (fMo_keep mo_all mo_past mo_states).bind fun u9 =>
     (fMo_cellNow ((((196 : Int32) + ((35 : Int32) * p1)) + ((8 : Int32) * p2)) + p3) p4 mo_all).bind fun u10 =>
     some (u10.1, u10.2, u9.1, u9.2, mo_refused)
def fMo_dropNow_L9 : Nat → Int32 → (Nat → Int32) → Option ((Nat → Int32))
  | 0, _, _ => none
  | n + 1, a9_2, c9_mo_all =>
    fMo_dropNow_L9 n a9_2 c9_mo_all
def fMo_dropNow (p1 : Int32) (mo_all : Nat → Int32) : Option (Int32 × (Nat → Int32)) :=
  (some ((196 : Int32) + ((35 : Int32) * p1))).bind fun (t1 : Int32) =>
  (fMo_dropNow_L9 FU t1 mo_all).bind fun u2 =>
  if 0 ≤ (3 : Int32).toInt ∧ (3 : Int32).toInt < 406 then
   if 0 ≤ (3 : Int32).toInt ∧ (3 : Int32).toInt < 406 then
    (fMo_many (upd u2 (3 : Int32).toNatClampNeg ((u2 (3 : Int32).toNatClampNeg) - (1 : Int32)))).bind fun u5 =>
    some (u5, (upd u2 (3 : Int32).toNatClampNeg ((u2 (3 : Int32).toNatClampNeg) - (1 : Int32))))
   else none
  else none
def fMo_drops (p1 : Int32) (mo_all : Nat → Int32) (mo_past : Nat → Int32) (mo_states : Int32) (mo_refused : Nat → Int32) : Option (Int32 × (Nat → Int32) × (Nat → Int32) × Int32 × (Nat → Int32)) :=
  (fMo_isPicture p1 mo_all).bind fun u1 =>
  if u1 = 0 then
   (fMo_refuses (-2 : Int32) mo_refused).bind fun u5 =>
   some (u5.1, mo_all, mo_past, mo_states, u5.2)
  else
   (fMo_keep mo_all mo_past mo_states).bind fun u3 =>
   (fMo_dropNow p1 mo_all).bind fun u4 =>
   some (u4.1, u4.2, u3.1, u3.2, mo_refused)
def fMo_isSetting (p0 : Int32) (p1 : Int32) : Option (Int32) :=
  if p0 = 0 then
   (fMo_in p1.toInt64 (1 : Int64) (126 : Int64)).bind fun u5 =>
   if u5 = 0 then
    if p0 = (1 : Int32) then
     (fMo_in p1.toInt64 (0 : Int64) (63 : Int64)).bind fun u8 =>
     if u8 = 0 then
      some (0 : Int32)
     else
      some (1 : Int32)
    else
     some (0 : Int32)
   else
    some (1 : Int32)
  else
   if p0 = (1 : Int32) then
    (fMo_in p1.toInt64 (0 : Int64) (63 : Int64)).bind fun u3 =>
    if u3 = 0 then
     some (0 : Int32)
    else
     some (1 : Int32)
   else
    some (0 : Int32)
def fMo_sets (p1 : Int32) (p2 : Int32) (mo_all : Nat → Int32) (mo_past : Nat → Int32) (mo_states : Int32) (mo_refused : Nat → Int32) : Option (Int32 × (Nat → Int32) × (Nat → Int32) × Int32 × (Nat → Int32)) :=
  (fMo_isSetting p1 p2).bind fun u1 =>
  if u1 = 0 then
   (fMo_refuses (-2 : Int32) mo_refused).bind fun u5 =>
   some (u5.1, mo_all, mo_past, mo_states, u5.2)
  else
   (fMo_keep mo_all mo_past mo_states).bind fun u3 =>
   (fMo_cellNow ((1 : Int32) + p1) p2 mo_all).bind fun u4 =>
   some (u4.1, u4.2, u3.1, u3.2, mo_refused)
def fMo_value (p1 : Int32) (p2 : Int32) (p3 : Int32) (mo_all : Nat → Int32) (mo_refused : Nat → Int32) : Option (Int32 × (Nat → Int32)) :=
  if p1 = (-1 : Int32) then
   (fMo_isDot p2 p3 mo_all).bind fun u9 =>
   if u9 = 0 then
    (fMo_refuses (-2 : Int32) mo_refused).bind fun u11 =>
    some (u11.1, u11.2)
   else
    if 0 ≤ (((4 : Int32) + ((32 : Int32) * p2)) + p3).toInt ∧ (((4 : Int32) + ((32 : Int32) * p2)) + p3).toInt < 406 then
     some ((mo_all (((4 : Int32) + ((32 : Int32) * p2)) + p3).toNatClampNeg), mo_refused)
    else none
  else
   (fMo_isPicture p1 mo_all).bind fun u2 =>
   if u2 = 0 then
    (fMo_refuses (-2 : Int32) mo_refused).bind fun u4 =>
    some (u4.1, u4.2)
   else
    (fMo_isCell p2 p3).bind fun u5 =>
    if u5 = 0 then
     (fMo_refuses (-2 : Int32) mo_refused).bind fun u7 =>
     some (u7.1, u7.2)
    else
     (fMo_at p1 p2 p3 mo_all).bind fun u8 =>
     some (u8, mo_refused)
def fMo_pair (p1 : Int32) (p2 : Int32) (p3 : Int32) (p4 : Int32) (p5 : Int32) (mo_all : Nat → Int32) : Option (Int32) :=
  (fMo_at p1 p2 p3 mo_all).bind fun u1 =>
  (fMo_at p1 (p2 + p4) (p3 + p5) mo_all).bind fun u2 =>
  (fMo_abs (u1 - u2)).bind fun u3 =>
  (fMo_at p1 p2 p3 mo_all).bind fun u4 =>
  (fMo_at p1 (p2 - p4) (p3 - p5) mo_all).bind fun u5 =>
  (fMo_abs (u4 - u5)).bind fun u6 =>
  some (u3 + u6)
def fMo_changeNow (p1 : Int32) (p2 : Int32) (p3 : Int32) (mo_all : Nat → Int32) : Option (Int32) :=
  (fMo_pair p1 p2 p3 (0 : Int32) (1 : Int32) mo_all).bind fun u1 =>
  (fMo_pair p1 p2 p3 (1 : Int32) (0 : Int32) mo_all).bind fun u2 =>
  ((if u1 ≤ u2 then
    some u1
   else
    some u2 : Option (Int32))).bind fun u4 =>
  (fMo_pair p1 p2 p3 (1 : Int32) (1 : Int32) mo_all).bind fun u5 =>
  ((if u4 ≤ u5 then
    some u4
   else
    some u5 : Option (Int32))).bind fun u7 =>
  (fMo_pair p1 p2 p3 (1 : Int32) (-1 : Int32) mo_all).bind fun u8 =>
  if u7 ≤ u8 then
   some u7
  else
   some u8
def fMo_isInner (p0 : Int32) (p1 : Int32) : Option (Int32) :=
  (fMo_in p0.toInt64 (1 : Int64) (2 : Int64)).bind fun u1 =>
  if u1 = 0 then
   some (0 : Int32)
  else
   (fMo_in p1.toInt64 (1 : Int64) (6 : Int64)).bind fun u3 =>
   if u3 = 0 then
    some (0 : Int32)
   else
    some (1 : Int32)
def fMo_change (p1 : Int32) (p2 : Int32) (p3 : Int32) (mo_all : Nat → Int32) (mo_refused : Nat → Int32) : Option (Int32 × (Nat → Int32)) :=
  (fMo_isPicture p1 mo_all).bind fun u1 =>
  if u1 = 0 then
   (fMo_refuses (-2 : Int32) mo_refused).bind fun u3 =>
   some (u3.1, u3.2)
  else
   (fMo_isInner p2 p3).bind fun u4 =>
   if u4 = 0 then
    (fMo_refuses (-2 : Int32) mo_refused).bind fun u6 =>
    some (u6.1, u6.2)
   else
    (fMo_changeNow p1 p2 p3 mo_all).bind fun u7 =>
    some (u7, mo_refused)
def fMo_isCorner (p1 : Int32) (p2 : Int32) (p3 : Int32) (mo_all : Nat → Int32) : Option (Int32) :=
  (fMo_isInner p2 p3).bind fun u1 =>
  if u1 = 0 then
   some (0 : Int32)
  else
   (fMo_changeNow p1 p2 p3 mo_all).bind fun u3 =>
   if 0 ≤ (1 : Int32).toInt ∧ (1 : Int32).toInt < 406 then
    if u3 < (mo_all (1 : Int32).toNatClampNeg) then
     some (0 : Int32)
    else
     some (1 : Int32)
   else none
def fMo_cornersNow_L4 (b4_1 : Int32) (d4_mo_all : Nat → Int32) : Nat → Int32 → Int32 → Option (Int32)
  | 0, _, _ => none
  | n + 1, a4_2, a4_3 =>
    fMo_cornersNow_L4 b4_1 d4_mo_all n a4_2 a4_3
def fMo_cornersNow (p1 : Int32) (mo_all : Nat → Int32) : Option (Int32) :=
  (fMo_cornersNow_L4 p1 mo_all FU (0 : Int32) (1 : Int32)).bind fun u1 =>
  some u1
def fMo_corners (p1 : Int32) (mo_all : Nat → Int32) (mo_refused : Nat → Int32) : Option (Int32 × (Nat → Int32)) :=
  (fMo_isPicture p1 mo_all).bind fun u1 =>
  if u1 = 0 then
   (fMo_refuses (-2 : Int32) mo_refused).bind fun u3 =>
   some (u3.1, u3.2)
  else
   (fMo_cornersNow p1 mo_all).bind fun u4 =>
   some (u4, mo_refused)
def fMo_laysCorners_L2 (d2_mo_all : Nat → Int32) : Nat → Int32 → (Nat → Int32) → Option ((Nat → Int32))
  | 0, _, _ => none
  | n + 1, a2_1, c2_mo_corner =>
    fMo_laysCorners_L2 d2_mo_all n a2_1 c2_mo_corner
def fMo_laysCorners (mo_all : Nat → Int32) (mo_corner : Nat → Int32) : Option ((Nat → Int32)) :=
  (fMo_laysCorners_L2 mo_all FU (0 : Int32) mo_corner).bind fun u1 =>
  some u1
def fMo_hasCorner (p1 : Int32) (p2 : Int32) (p3 : Int32) (mo_corner : Nat → Int32) : Option (Int32) :=
  (fMo_isInner p2 p3).bind fun u1 =>
  if u1 = 0 then
   some (0 : Int32)
  else
   if 0 ≤ p1.toInt ∧ p1.toInt < 6 then
    if (((mo_corner p1.toNatClampNeg) >>> (((((6 : Int32) * (p2 - (1 : Int32))) + p3) - (1 : Int32)) &&& 31)) &&& (1 : Int32)) = (1 : Int32) then
     some (1 : Int32)
    else
     some (0 : Int32)
   else none
def fMo_votesNow_L6 (b6_1 : Int32) (b6_2 : Int32) (b6_3 : Int32) (b6_4 : Int32) (d6_mo_all : Nat → Int32) (d6_mo_corner : Nat → Int32) : Nat → Int32 → Int32 → Option (Int32)
  | 0, _, _ => none
  | n + 1, a6_5, a6_6 =>
    fMo_votesNow_L6 b6_1 b6_2 b6_3 b6_4 d6_mo_all d6_mo_corner n a6_5 a6_6
def fMo_votesNow (p1 : Int32) (p2 : Int32) (p3 : Int32) (p4 : Int32) (mo_all : Nat → Int32) (mo_corner : Nat → Int32) : Option (Int32) :=
  (fMo_votesNow_L6 p1 p2 p3 p4 mo_all mo_corner FU (0 : Int32) (1 : Int32)).bind fun u1 =>
  some u1
def fMo_areTwo (p1 : Int32) (p2 : Int32) (mo_all : Nat → Int32) : Option (Int32) :=
  (fMo_isPicture p1 mo_all).bind fun u1 =>
  if u1 = 0 then
   some (0 : Int32)
  else
   (fMo_isPicture p2 mo_all).bind fun u3 =>
   if u3 = 0 then
    some (0 : Int32)
   else
    if p1 = p2 then
     some (0 : Int32)
    else
     some (1 : Int32)
def fMo_votes (p1 : Int32) (p2 : Int32) (p3 : Int32) (p4 : Int32) (mo_all : Nat → Int32) (mo_refused : Nat → Int32) (mo_corner : Nat → Int32) : Option (Int32 × (Nat → Int32) × (Nat → Int32)) :=
  (fMo_areTwo p1 p2 mo_all).bind fun u1 =>
  if u1 = 0 then
   (fMo_refuses (-2 : Int32) mo_refused).bind fun u3 =>
   some (u3.1, u3.2, mo_corner)
  else
   (fMo_in p3.toInt64 (-1 : Int64) (1 : Int64)).bind fun u4 =>
   if u4 = 0 then
    (fMo_refuses (-2 : Int32) mo_refused).bind fun u6 =>
    some (u6.1, u6.2, mo_corner)
   else
    (fMo_in p4.toInt64 (1 : Int64) (5 : Int64)).bind fun u7 =>
    if u7 = 0 then
     (fMo_refuses (-2 : Int32) mo_refused).bind fun u11 =>
     some (u11.1, u11.2, mo_corner)
    else
     (fMo_laysCorners mo_all mo_corner).bind fun u9 =>
     (fMo_votesNow p1 p2 p3 p4 mo_all u9).bind fun u10 =>
     some (u10, mo_refused, u9)
def fMo_laysLink_L31 (b31_1 : Int32) (b31_2 : Int32) (b31_3 : Int32) (d31_mo_all : Nat → Int32) (d31_mo_corner : Nat → Int32) : Nat → Int32 → (Nat → Int32) → (Nat → Int32) → (Nat → Int32) → Option ((Nat → Int32) × (Nat → Int32) × (Nat → Int32))
  | 0, _, _, _, _ => none
  | n + 1, a31_4, c31_mo_linkVotes, c31_mo_linkE, c31_mo_linkF =>
    fMo_laysLink_L31 b31_1 b31_2 b31_3 d31_mo_all d31_mo_corner n a31_4 c31_mo_linkVotes c31_mo_linkE c31_mo_linkF
def fMo_laysLink (p1 : Int32) (p2 : Int32) (mo_all : Nat → Int32) (mo_corner : Nat → Int32) (mo_linkVotes : Nat → Int32) (mo_linkE : Nat → Int32) (mo_linkF : Nat → Int32) : Option ((Nat → Int32) × (Nat → Int32) × (Nat → Int32)) :=
  if 0 ≤ (((6 : Int32) * p1) + p2).toInt ∧ (((6 : Int32) * p1) + p2).toInt < 36 then
   if 0 ≤ (((6 : Int32) * p1) + p2).toInt ∧ (((6 : Int32) * p1) + p2).toInt < 36 then
    if 0 ≤ (((6 : Int32) * p1) + p2).toInt ∧ (((6 : Int32) * p1) + p2).toInt < 36 then
     (fMo_laysLink_L31 p1 p2 (((6 : Int32) * p1) + p2) mo_all mo_corner FU (0 : Int32) (upd mo_linkVotes (((6 : Int32) * p1) + p2).toNatClampNeg (0 : Int32)) (upd mo_linkE (((6 : Int32) * p1) + p2).toNatClampNeg (0 : Int32)) (upd mo_linkF (((6 : Int32) * p1) + p2).toNatClampNeg (0 : Int32))).bind fun u4 =>
     some (u4.1, u4.2.1, u4.2.2)
    else none
   else none
  else none
def fMo_laysLinks_L6 (d6_mo_all : Nat → Int32) (d6_mo_corner : Nat → Int32) : Nat → Int32 → (Nat → Int32) → (Nat → Int32) → (Nat → Int32) → Option ((Nat → Int32) × (Nat → Int32) × (Nat → Int32))
  | 0, _, _, _, _ => none
  | n + 1, a6_1, c6_mo_linkVotes, c6_mo_linkE, c6_mo_linkF =>
    fMo_laysLinks_L6 d6_mo_all d6_mo_corner n a6_1 c6_mo_linkVotes c6_mo_linkE c6_mo_linkF
def fMo_laysLinks (mo_all : Nat → Int32) (mo_corner : Nat → Int32) (mo_linkVotes : Nat → Int32) (mo_linkE : Nat → Int32) (mo_linkF : Nat → Int32) : Option ((Nat → Int32) × (Nat → Int32) × (Nat → Int32) × (Nat → Int32)) :=
  (fMo_laysCorners mo_all mo_corner).bind fun u1 =>
  (fMo_laysLinks_L6 mo_all u1 FU (0 : Int32) mo_linkVotes mo_linkE mo_linkF).bind fun u2 =>
  some (u1, u2.1, u2.2.1, u2.2.2)
def fMo_link (p1 : Int32) (p2 : Int32) (p3 : Int32) (mo_all : Nat → Int32) (mo_refused : Nat → Int32) (mo_corner : Nat → Int32) (mo_linkVotes : Nat → Int32) (mo_linkE : Nat → Int32) (mo_linkF : Nat → Int32) : Option (Int32 × (Nat → Int32) × (Nat → Int32) × (Nat → Int32) × (Nat → Int32) × (Nat → Int32)) :=
  (fMo_areTwo p1 p2 mo_all).bind fun u1 =>
  if u1 = 0 then
   (fMo_refuses (-2 : Int32) mo_refused).bind fun u3 =>
   some (u3.1, u3.2, mo_corner, mo_linkVotes, mo_linkE, mo_linkF)
  else
   (fMo_in p3.toInt64 (0 : Int64) (2 : Int64)).bind fun u4 =>
   if u4 = 0 then
    (fMo_refuses (-2 : Int32) mo_refused).bind fun u15 =>
    some (u15.1, u15.2, mo_corner, mo_linkVotes, mo_linkE, mo_linkF)
   else
    (fMo_laysCorners mo_all mo_corner).bind fun u6 =>
    (fMo_laysLink p1 p2 mo_all u6 mo_linkVotes mo_linkE mo_linkF).bind fun u7 =>
    if p3 = 0 then
     if 0 ≤ (((6 : Int32) * p1) + p2).toInt ∧ (((6 : Int32) * p1) + p2).toInt < 36 then
      some ((u7.1 (((6 : Int32) * p1) + p2).toNatClampNeg), mo_refused, u6, u7.1, u7.2.1, u7.2.2)
     else none
    else
     if 0 ≤ (((6 : Int32) * p1) + p2).toInt ∧ (((6 : Int32) * p1) + p2).toInt < 36 then
      if (u7.1 (((6 : Int32) * p1) + p2).toNatClampNeg) = 0 then
       some ((-1 : Int32), mo_refused, u6, u7.1, u7.2.1, u7.2.2)
      else
       if p3 = (1 : Int32) then
        if 0 ≤ (((6 : Int32) * p1) + p2).toInt ∧ (((6 : Int32) * p1) + p2).toInt < 36 then
         some (((u7.2.1 (((6 : Int32) * p1) + p2).toNatClampNeg) + (1 : Int32)), mo_refused, u6, u7.1, u7.2.1, u7.2.2)
        else none
       else
        if 0 ≤ (((6 : Int32) * p1) + p2).toInt ∧ (((6 : Int32) * p1) + p2).toInt < 36 then
         some ((u7.2.2 (((6 : Int32) * p1) + p2).toNatClampNeg), mo_refused, u6, u7.1, u7.2.1, u7.2.2)
        else none
     else none
def fMo_wayFrom_L5 (b5_2 : Int32) (d5_mo_follower : Nat → Int32) : Nat → Int32 → Int32 → Option (Int32 × Int32)
  | 0, _, _ => none
  | n + 1, a5_3, a5_4 =>
    fMo_wayFrom_L5 b5_2 d5_mo_follower n a5_3 a5_4
def fMo_wayFrom (p1 : Int32) (p2 : Int32) (mo_follower : Nat → Int32) : Option (Int32) :=
  (fMo_wayFrom_L5 p2 mo_follower FU (1 : Int32) p1).bind fun u1 =>
  if u1.2 = p2 then
   some u1.1
  else
   some (0 : Int32)
def fMo_mayTake (p1 : Int32) (p2 : Int32) (mo_all : Nat → Int32) (mo_follower : Nat → Int32) (mo_ahead : Nat → Int32) : Option (Int32) :=
  if 0 ≤ p1.toInt ∧ p1.toInt < 6 then
   if (mo_follower p1.toNatClampNeg) = (-1 : Int32) then
    if 0 ≤ p2.toInt ∧ p2.toInt < 6 then
     if (mo_ahead p2.toNatClampNeg) = (-1 : Int32) then
      (fMo_wayFrom p2 p1 mo_follower).bind fun u5 =>
      if u5 = 0 then
       some (1 : Int32)
      else
       (fMo_many mo_all).bind fun u7 =>
       if u5 = u7 then
        some (1 : Int32)
       else
        some (0 : Int32)
     else
      some (0 : Int32)
    else none
   else
    some (0 : Int32)
  else none
def fMo_laysChain_L6 : Nat → Int32 → (Nat → Int32) → (Nat → Int32) → Option ((Nat → Int32) × (Nat → Int32))
  | 0, _, _, _ => none
  | n + 1, a6_1, c6_mo_follower, c6_mo_ahead =>
    fMo_laysChain_L6 n a6_1 c6_mo_follower c6_mo_ahead
def fMo_laysChain_L35 (d35_mo_all : Nat → Int32) (d35_mo_linkVotes : Nat → Int32) : Nat → Int32 → (Nat → Int32) → (Nat → Int32) → Option ((Nat → Int32) × (Nat → Int32))
  | 0, _, _, _ => none
  | n + 1, a35_1, c35_mo_follower, c35_mo_ahead =>
    fMo_laysChain_L35 d35_mo_all d35_mo_linkVotes n a35_1 c35_mo_follower c35_mo_ahead
def fMo_laysChain (mo_all : Nat → Int32) (mo_corner : Nat → Int32) (mo_linkVotes : Nat → Int32) (mo_linkE : Nat → Int32) (mo_linkF : Nat → Int32) (mo_follower : Nat → Int32) (mo_ahead : Nat → Int32) : Option ((Nat → Int32) × (Nat → Int32) × (Nat → Int32) × (Nat → Int32) × (Nat → Int32) × (Nat → Int32)) :=
  (fMo_laysLinks mo_all mo_corner mo_linkVotes mo_linkE mo_linkF).bind fun u1 =>
  (fMo_laysChain_L6 FU (0 : Int32) mo_follower mo_ahead).bind fun u2 =>
  (fMo_laysChain_L35 mo_all u1.2.1 FU (12 : Int32) u2.1 u2.2).bind fun u3 =>
  some (u1.1, u1.2.1, u1.2.2.1, u1.2.2.2, u3.1, u3.2)
def fMo_eOf (p1 : Int32) (mo_linkE : Nat → Int32) (mo_follower : Nat → Int32) : Option (Int32) :=
  if 0 ≤ p1.toInt ∧ p1.toInt < 6 then
   if 0 ≤ (((6 : Int32) * p1) + (mo_follower p1.toNatClampNeg)).toInt ∧ (((6 : Int32) * p1) + (mo_follower p1.toNatClampNeg)).toInt < 36 then
    some (mo_linkE (((6 : Int32) * p1) + (mo_follower p1.toNatClampNeg)).toNatClampNeg)
   else none
  else none
def fMo_fOf (p1 : Int32) (mo_linkF : Nat → Int32) (mo_follower : Nat → Int32) : Option (Int32) :=
  if 0 ≤ p1.toInt ∧ p1.toInt < 6 then
   if 0 ≤ (((6 : Int32) * p1) + (mo_follower p1.toNatClampNeg)).toInt ∧ (((6 : Int32) * p1) + (mo_follower p1.toNatClampNeg)).toInt < 36 then
    some (mo_linkF (((6 : Int32) * p1) + (mo_follower p1.toNatClampNeg)).toNatClampNeg)
   else none
  else none
def fMo_chain (p1 : Int32) (p2 : Int32) (mo_all : Nat → Int32) (mo_refused : Nat → Int32) (mo_corner : Nat → Int32) (mo_linkVotes : Nat → Int32) (mo_linkE : Nat → Int32) (mo_linkF : Nat → Int32) (mo_follower : Nat → Int32) (mo_ahead : Nat → Int32) : Option (Int32 × (Nat → Int32) × (Nat → Int32) × (Nat → Int32) × (Nat → Int32) × (Nat → Int32) × (Nat → Int32) × (Nat → Int32)) :=
  (fMo_isPicture p1 mo_all).bind fun u1 =>
  if u1 = 0 then
   (fMo_refuses (-2 : Int32) mo_refused).bind fun u3 =>
   some (u3.1, u3.2, mo_corner, mo_linkVotes, mo_linkE, mo_linkF, mo_follower, mo_ahead)
  else
   (fMo_in p2.toInt64 (0 : Int64) (1 : Int64)).bind fun u4 =>
   if u4 = 0 then
    (fMo_refuses (-2 : Int32) mo_refused).bind fun u10 =>
    some (u10.1, u10.2, mo_corner, mo_linkVotes, mo_linkE, mo_linkF, mo_follower, mo_ahead)
   else
    (fMo_laysChain mo_all mo_corner mo_linkVotes mo_linkE mo_linkF mo_follower mo_ahead).bind fun u6 =>
    if p2 = 0 then
     if 0 ≤ p1.toInt ∧ p1.toInt < 6 then
      some ((u6.2.2.2.2.1 p1.toNatClampNeg), mo_refused, u6.1, u6.2.1, u6.2.2.1, u6.2.2.2.1, u6.2.2.2.2.1, u6.2.2.2.2.2)
     else none
    else
     if 0 ≤ p1.toInt ∧ p1.toInt < 6 then
      some ((u6.2.2.2.2.2 p1.toNatClampNeg), mo_refused, u6.1, u6.2.1, u6.2.2.1, u6.2.2.2.1, u6.2.2.2.2.1, u6.2.2.2.2.2)
     else none
def fMo_taken_L4 (d4_mo_all : Nat → Int32) (d4_mo_follower : Nat → Int32) : Nat → Int32 → Int32 → Option (Int32)
  | 0, _, _ => none
  | n + 1, a4_1, a4_2 =>
    fMo_taken_L4 d4_mo_all d4_mo_follower n a4_1 a4_2
def fMo_taken (mo_all : Nat → Int32) (mo_follower : Nat → Int32) : Option (Int32) :=
  (fMo_taken_L4 mo_all mo_follower FU (0 : Int32) (0 : Int32)).bind fun u1 =>
  some u1
def fMo_isClosed (mo_all : Nat → Int32) (mo_follower : Nat → Int32) : Option (Int32) :=
  (fMo_many mo_all).bind fun u1 =>
  if u1 < (2 : Int32) then
   some (0 : Int32)
  else
   (fMo_taken mo_all mo_follower).bind fun u3 =>
   (fMo_many mo_all).bind fun u4 =>
   if u3 = u4 then
    some (1 : Int32)
   else
    some (0 : Int32)
def fMo_sumOf_L4 (b4_1 : Int32) (d4_mo_all : Nat → Int32) (d4_mo_linkE : Nat → Int32) (d4_mo_linkF : Nat → Int32) (d4_mo_follower : Nat → Int32) : Nat → Int32 → Int32 → Option (Int32)
  | 0, _, _ => none
  | n + 1, a4_2, a4_3 =>
    fMo_sumOf_L4 b4_1 d4_mo_all d4_mo_linkE d4_mo_linkF d4_mo_follower n a4_2 a4_3
def fMo_sumOf (p1 : Int32) (mo_all : Nat → Int32) (mo_linkE : Nat → Int32) (mo_linkF : Nat → Int32) (mo_follower : Nat → Int32) : Option (Int32) :=
  (fMo_sumOf_L4 p1 mo_all mo_linkE mo_linkF mo_follower FU (0 : Int32) (0 : Int32)).bind fun u1 =>
  some u1
def fMo_isRight (p1 : Int32) (mo_all : Nat → Int32) (mo_linkE : Nat → Int32) (mo_linkF : Nat → Int32) (mo_follower : Nat → Int32) : Option (Int32) :=
  if 0 ≤ p1.toInt ∧ p1.toInt < 6 then
   (fMo_shotOf p1 (2 : Int32) mo_all).bind fun u2 =>
   (fMo_shotOf (mo_follower p1.toNatClampNeg) (2 : Int32) mo_all).bind fun u3 =>
   if u2 = u3 then
    (fMo_shotOf p1 (0 : Int32) mo_all).bind fun u5 =>
    (fMo_fOf p1 mo_linkF mo_follower).bind fun u6 =>
    if ¬ u2 = 0 then
     (fMo_shotOf (mo_follower p1.toNatClampNeg) (0 : Int32) mo_all).bind fun u8 =>
     if ((u5 + u6) - (u5 + u6) / u2 * u2) = u8 then
      (fMo_shotOf p1 (1 : Int32) mo_all).bind fun u10 =>
      (fMo_eOf p1 mo_linkE mo_follower).bind fun u11 =>
      (fMo_shotOf (mo_follower p1.toNatClampNeg) (1 : Int32) mo_all).bind fun u12 =>
      if (u10 + u11) = u12 then
       some (1 : Int32)
      else
       some (0 : Int32)
     else
      some (0 : Int32)
    else none
   else
    some (0 : Int32)
  else none
def fMo_allNow_L7 (d7_mo_all : Nat → Int32) (d7_mo_linkE : Nat → Int32) (d7_mo_linkF : Nat → Int32) (d7_mo_follower : Nat → Int32) (d7_mo_ahead : Nat → Int32) : Nat → Int32 → Int32 → Int32 → Option (Int32 × Int32)
  | 0, _, _, _ => none
  | n + 1, a7_2, a7_3, a7_4 =>
    fMo_allNow_L7 d7_mo_all d7_mo_linkE d7_mo_linkF d7_mo_follower d7_mo_ahead n a7_2 a7_3 a7_4
def fMo_allNow (p1 : Int32) (mo_all : Nat → Int32) (mo_linkE : Nat → Int32) (mo_linkF : Nat → Int32) (mo_follower : Nat → Int32) (mo_ahead : Nat → Int32) : Option (Int32) :=
  (fMo_allNow_L7 mo_all mo_linkE mo_linkF mo_follower mo_ahead FU (0 : Int32) (0 : Int32) (0 : Int32)).bind fun u1 =>
  if p1 = (0 : Int32) then
   (fMo_taken mo_all mo_follower).bind fun u3 =>
   some u3
  else
   if p1 = (1 : Int32) then
    (fMo_isClosed mo_all mo_follower).bind fun u5 =>
    if u5 = 0 then
     some (0 : Int32)
    else
     some (1 : Int32)
   else
    if p1 = (2 : Int32) then
     (fMo_sumOf (0 : Int32) mo_all mo_linkE mo_linkF mo_follower).bind fun u8 =>
     some u8
    else
     if p1 = (3 : Int32) then
      (fMo_sumOf (1 : Int32) mo_all mo_linkE mo_linkF mo_follower).bind fun u10 =>
      some (u10 + (6 : Int32))
     else
      if p1 = (4 : Int32) then
       some u1.1
      else
       some u1.2
def fMo_all (p1 : Int32) (mo_all : Nat → Int32) (mo_refused : Nat → Int32) (mo_corner : Nat → Int32) (mo_linkVotes : Nat → Int32) (mo_linkE : Nat → Int32) (mo_linkF : Nat → Int32) (mo_follower : Nat → Int32) (mo_ahead : Nat → Int32) : Option (Int32 × (Nat → Int32) × (Nat → Int32) × (Nat → Int32) × (Nat → Int32) × (Nat → Int32) × (Nat → Int32) × (Nat → Int32)) :=
  (fMo_in p1.toInt64 (0 : Int64) (5 : Int64)).bind fun u1 =>
  if u1 = 0 then
   (fMo_refuses (-2 : Int32) mo_refused).bind fun u5 =>
   some (u5.1, u5.2, mo_corner, mo_linkVotes, mo_linkE, mo_linkF, mo_follower, mo_ahead)
  else
   (fMo_laysChain mo_all mo_corner mo_linkVotes mo_linkE mo_linkF mo_follower mo_ahead).bind fun u3 =>
   (fMo_allNow p1 mo_all u3.2.2.1 u3.2.2.2.1 u3.2.2.2.2.1 u3.2.2.2.2.2).bind fun u4 =>
   some (u4, mo_refused, u3.1, u3.2.1, u3.2.2.1, u3.2.2.2.1, u3.2.2.2.2.1, u3.2.2.2.2.2)
def fMo_floorBy (p0 : Int32) (p1 : Int32) : Option (Int32) :=
  if ¬ p1 = 0 then
   if ¬ p1 = 0 then
    if 0 ≤ (p0 - p0 / p1 * p1) then
     some (p0 / p1)
    else
     some ((p0 / p1) - (1 : Int32))
   else none
  else none
def fMo_place_L54 (b54_1 : Int32) (d54_mo_linkE : Nat → Int32) (d54_mo_linkF : Nat → Int32) (d54_mo_follower : Nat → Int32) : Nat → Int32 → Int32 → Int32 → Int32 → Option (Int32 × Int32 × Int32)
  | 0, _, _, _, _ => none
  | n + 1, a54_3, a54_4, a54_5, a54_6 =>
    fMo_place_L54 b54_1 d54_mo_linkE d54_mo_linkF d54_mo_follower n a54_3 a54_4 a54_5 a54_6
def fMo_place (p1 : Int32) (p2 : Int32) (mo_all : Nat → Int32) (mo_refused : Nat → Int32) (mo_corner : Nat → Int32) (mo_linkVotes : Nat → Int32) (mo_linkE : Nat → Int32) (mo_linkF : Nat → Int32) (mo_follower : Nat → Int32) (mo_ahead : Nat → Int32) : Option (Int32 × (Nat → Int32) × (Nat → Int32) × (Nat → Int32) × (Nat → Int32) × (Nat → Int32) × (Nat → Int32) × (Nat → Int32)) :=
  (fMo_isPicture p1 mo_all).bind fun u1 =>
  if u1 = 0 then
   (fMo_refuses (-2 : Int32) mo_refused).bind fun u3 =>
   some (u3.1, u3.2, mo_corner, mo_linkVotes, mo_linkE, mo_linkF, mo_follower, mo_ahead)
  else
   (fMo_in p2.toInt64 (0 : Int64) (1 : Int64)).bind fun u4 =>
   if u4 = 0 then
    (fMo_refuses (-2 : Int32) mo_refused).bind fun u16 =>
    some (u16.1, u16.2, mo_corner, mo_linkVotes, mo_linkE, mo_linkF, mo_follower, mo_ahead)
   else
    (fMo_laysChain mo_all mo_corner mo_linkVotes mo_linkE mo_linkF mo_follower mo_ahead).bind fun u6 =>
    (fMo_isClosed mo_all u6.2.2.2.2.1).bind fun u7 =>
    if u7 = 0 then
     (fMo_refuses (-3 : Int32) mo_refused).bind fun u15 =>
     some (u15.1, u15.2, u6.1, u6.2.1, u6.2.2.1, u6.2.2.2.1, u6.2.2.2.2.1, u6.2.2.2.2.2)
    else
     (fMo_place_L54 p1 u6.2.2.1 u6.2.2.2.1 u6.2.2.2.2.1 FU (0 : Int32) (0 : Int32) (0 : Int32) (0 : Int32)).bind fun u9 =>
     (fMo_sumOf (1 : Int32) mo_all u6.2.2.1 u6.2.2.2.1 u6.2.2.2.2.1).bind fun u10 =>
     (fMo_many mo_all).bind fun u11 =>
     (fMo_many mo_all).bind fun u12 =>
     (fMo_floorBy ((((2 : Int32) * u10) * u9.2.2) + u11) ((2 : Int32) * u12)).bind fun u13 =>
     if p2 = 0 then
      some (u9.1, mo_refused, u6.1, u6.2.1, u6.2.2.1, u6.2.2.2.1, u6.2.2.2.2.1, u6.2.2.2.2.2)
     else
      some (((u9.2.1 - u13) + (20 : Int32)), mo_refused, u6.1, u6.2.1, u6.2.2.1, u6.2.2.2.1, u6.2.2.2.2.1, u6.2.2.2.2.2)
def fMo_differs (p1 : Int32) (p2 : Int32) (p3 : Int32) (mo_all : Nat → Int32) (mo_linkE : Nat → Int32) (mo_linkF : Nat → Int32) (mo_follower : Nat → Int32) : Option (Int32) :=
  (fMo_at p1 p2 p3 mo_all).bind fun u1 =>
  if 0 ≤ p1.toInt ∧ p1.toInt < 6 then
   (fMo_eOf p1 mo_linkE mo_follower).bind fun u3 =>
   (fMo_fOf p1 mo_linkF mo_follower).bind fun u4 =>
   (fMo_at (mo_follower p1.toNatClampNeg) (p2 - u3) (p3 - u4) mo_all).bind fun u5 =>
   some (u1 - u5)
  else none
def fMo_hasRow (p1 : Int32) (p2 : Int32) (mo_linkE : Nat → Int32) (mo_follower : Nat → Int32) : Option (Int32) :=
  (fMo_in p2.toInt64 (0 : Int64) (3 : Int64)).bind fun u1 =>
  if u1 = 0 then
   some (0 : Int32)
  else
   (fMo_eOf p1 mo_linkE mo_follower).bind fun u3 =>
   (fMo_in ((p2 - u3).toInt64) (0 : Int64) (3 : Int64)).bind fun u4 =>
   if u4 = 0 then
    some (0 : Int32)
   else
    some (1 : Int32)
def fMo_isNear (p0 : Int32) (p1 : Int32) : Option (Int32) :=
  if (1 : Int32) < (p0 - p1) then
   some (0 : Int32)
  else
   if (1 : Int32) < (p1 - p0) then
    some (0 : Int32)
   else
    some (1 : Int32)
def fMo_laysSeam_L8 (b8_1 : Int32) (b8_2 : Int32) (d8_mo_all : Nat → Int32) (d8_mo_linkE : Nat → Int32) (d8_mo_linkF : Nat → Int32) (d8_mo_follower : Nat → Int32) : Nat → Int32 → (Nat → Int32) → (Nat → Int32) → Option ((Nat → Int32) × (Nat → Int32))
  | 0, _, _, _ => none
  | n + 1, a8_3, c8_mo_least, c8_mo_seam =>
    fMo_laysSeam_L8 b8_1 b8_2 d8_mo_all d8_mo_linkE d8_mo_linkF d8_mo_follower n a8_3 c8_mo_least c8_mo_seam
def fMo_laysSeam_L164 (b164_1 : Int32) (b164_2 : Int32) (d164_mo_linkE : Nat → Int32) (d164_mo_follower : Nat → Int32) (d164_mo_least : Nat → Int32) : Nat → Int32 → (Nat → Int32) → Option ((Nat → Int32))
  | 0, _, _ => none
  | n + 1, a164_3, c164_mo_seam =>
    fMo_laysSeam_L164 b164_1 b164_2 d164_mo_linkE d164_mo_follower d164_mo_least n a164_3 c164_mo_seam
def fMo_laysSeam (p1 : Int32) (mo_all : Nat → Int32) (mo_linkE : Nat → Int32) (mo_linkF : Nat → Int32) (mo_follower : Nat → Int32) (mo_least : Nat → Int32) (mo_seam : Nat → Int32) : Option ((Nat → Int32) × (Nat → Int32)) :=
  (fMo_fOf p1 mo_linkF mo_follower).bind fun u1 =>
  (fMo_laysSeam_L8 p1 u1 mo_all mo_linkE mo_linkF mo_follower FU (3 : Int32) mo_least mo_seam).bind fun u2 =>
  (fMo_laysSeam_L164 p1 u1 mo_linkE mo_follower u2.1 FU (0 : Int32) u2.2).bind fun u3 =>
  some (u2.1, u3)
def fMo_seamSum_L9 (b9_1 : Int32) (d9_mo_all : Nat → Int32) (d9_mo_linkE : Nat → Int32) (d9_mo_linkF : Nat → Int32) (d9_mo_follower : Nat → Int32) (d9_mo_seam : Nat → Int32) : Nat → Int32 → Int32 → Option (Int32)
  | 0, _, _ => none
  | n + 1, a9_2, a9_3 =>
    fMo_seamSum_L9 b9_1 d9_mo_all d9_mo_linkE d9_mo_linkF d9_mo_follower d9_mo_seam n a9_2 a9_3
def fMo_seamSum (p1 : Int32) (mo_all : Nat → Int32) (mo_linkE : Nat → Int32) (mo_linkF : Nat → Int32) (mo_follower : Nat → Int32) (mo_least : Nat → Int32) (mo_seam : Nat → Int32) : Option (Int32 × (Nat → Int32) × (Nat → Int32)) :=
  (fMo_laysSeam p1 mo_all mo_linkE mo_linkF mo_follower mo_least mo_seam).bind fun u1 =>
  (fMo_seamSum_L9 p1 mo_all mo_linkE mo_linkF mo_follower u1.2 FU (0 : Int32) (0 : Int32)).bind fun u2 =>
  some (u2, u1.1, u1.2)
def fMo_cells (p1 : Int32) (mo_linkE : Nat → Int32) (mo_linkF : Nat → Int32) (mo_follower : Nat → Int32) : Option (Int32) :=
  (fMo_eOf p1 mo_linkE mo_follower).bind fun u1 =>
  (fMo_abs u1).bind fun u2 =>
  (fMo_fOf p1 mo_linkF mo_follower).bind fun u3 =>
  some (((4 : Int32) - u2) * ((8 : Int32) - u3))
def fMo_differences_L5 (b5_1 : Int32) (b5_2 : Int32) (d5_mo_all : Nat → Int32) (d5_mo_linkE : Nat → Int32) (d5_mo_linkF : Nat → Int32) (d5_mo_follower : Nat → Int32) : Nat → Int32 → Int32 → Option (Int32)
  | 0, _, _ => none
  | n + 1, a5_3, a5_4 =>
    fMo_differences_L5 b5_1 b5_2 d5_mo_all d5_mo_linkE d5_mo_linkF d5_mo_follower n a5_3 a5_4
def fMo_differences (p1 : Int32) (p2 : Int32) (mo_all : Nat → Int32) (mo_linkE : Nat → Int32) (mo_linkF : Nat → Int32) (mo_follower : Nat → Int32) : Option (Int32) :=
  (fMo_differences_L5 p1 p2 mo_all mo_linkE mo_linkF mo_follower FU (0 : Int32) (0 : Int32)).bind fun u1 =>
  some u1
def fMo_overlap (p1 : Int32) (p2 : Int32) (mo_all : Nat → Int32) (mo_refused : Nat → Int32) (mo_corner : Nat → Int32) (mo_linkVotes : Nat → Int32) (mo_linkE : Nat → Int32) (mo_linkF : Nat → Int32) (mo_follower : Nat → Int32) (mo_ahead : Nat → Int32) (mo_least : Nat → Int32) (mo_seam : Nat → Int32) : Option (Int32 × (Nat → Int32) × (Nat → Int32) × (Nat → Int32) × (Nat → Int32) × (Nat → Int32) × (Nat → Int32) × (Nat → Int32) × (Nat → Int32) × (Nat → Int32)) :=
  (fMo_isPicture p1 mo_all).bind fun u1 =>
  if u1 = 0 then
   (fMo_refuses (-2 : Int32) mo_refused).bind fun u3 =>
   some (u3.1, u3.2, mo_corner, mo_linkVotes, mo_linkE, mo_linkF, mo_follower, mo_ahead, mo_least, mo_seam)
  else
   (fMo_in p2.toInt64 (0 : Int64) (3 : Int64)).bind fun u4 =>
   if u4 = 0 then
    (fMo_refuses (-2 : Int32) mo_refused).bind fun u17 =>
    some (u17.1, u17.2, mo_corner, mo_linkVotes, mo_linkE, mo_linkF, mo_follower, mo_ahead, mo_least, mo_seam)
   else
    (fMo_laysChain mo_all mo_corner mo_linkVotes mo_linkE mo_linkF mo_follower mo_ahead).bind fun u6 =>
    if 0 ≤ p1.toInt ∧ p1.toInt < 6 then
     if (u6.2.2.2.2.1 p1.toNatClampNeg) = (-1 : Int32) then
      (fMo_refuses (-3 : Int32) mo_refused).bind fun u16 =>
      some (u16.1, u16.2, u6.1, u6.2.1, u6.2.2.1, u6.2.2.2.1, u6.2.2.2.2.1, u6.2.2.2.2.2, mo_least, mo_seam)
     else
      if p2 = 0 then
       (fMo_cells p1 u6.2.2.1 u6.2.2.2.1 u6.2.2.2.2.1).bind fun u15 =>
       some (u15, mo_refused, u6.1, u6.2.1, u6.2.2.1, u6.2.2.2.1, u6.2.2.2.2.1, u6.2.2.2.2.2, mo_least, mo_seam)
      else
       if p2 = (1 : Int32) then
        (fMo_differences p1 (0 : Int32) mo_all u6.2.2.1 u6.2.2.2.1 u6.2.2.2.2.1).bind fun u14 =>
        some (u14, mo_refused, u6.1, u6.2.1, u6.2.2.1, u6.2.2.2.1, u6.2.2.2.2.1, u6.2.2.2.2.2, mo_least, mo_seam)
       else
        if p2 = (2 : Int32) then
         (fMo_seamSum p1 mo_all u6.2.2.1 u6.2.2.2.1 u6.2.2.2.2.1 mo_least mo_seam).bind fun u13 =>
         some (u13.1, mo_refused, u6.1, u6.2.1, u6.2.2.1, u6.2.2.2.1, u6.2.2.2.2.1, u6.2.2.2.2.2, u13.2.1, u13.2.2)
        else
         (fMo_differences p1 (1 : Int32) mo_all u6.2.2.1 u6.2.2.2.1 u6.2.2.2.2.1).bind fun u12 =>
         some ((u12 + (2000 : Int32)), mo_refused, u6.1, u6.2.1, u6.2.2.1, u6.2.2.2.1, u6.2.2.2.2.1, u6.2.2.2.2.2, mo_least, mo_seam)
    else none
def fMo_seam (p1 : Int32) (p2 : Int32) (mo_all : Nat → Int32) (mo_refused : Nat → Int32) (mo_corner : Nat → Int32) (mo_linkVotes : Nat → Int32) (mo_linkE : Nat → Int32) (mo_linkF : Nat → Int32) (mo_follower : Nat → Int32) (mo_ahead : Nat → Int32) (mo_least : Nat → Int32) (mo_seam : Nat → Int32) : Option (Int32 × (Nat → Int32) × (Nat → Int32) × (Nat → Int32) × (Nat → Int32) × (Nat → Int32) × (Nat → Int32) × (Nat → Int32) × (Nat → Int32) × (Nat → Int32)) :=
  (fMo_isPicture p1 mo_all).bind fun u1 =>
  if u1 = 0 then
   (fMo_refuses (-2 : Int32) mo_refused).bind fun u3 =>
   some (u3.1, u3.2, mo_corner, mo_linkVotes, mo_linkE, mo_linkF, mo_follower, mo_ahead, mo_least, mo_seam)
  else
   (fMo_in p2.toInt64 (0 : Int64) (3 : Int64)).bind fun u4 =>
   if u4 = 0 then
    (fMo_refuses (-2 : Int32) mo_refused).bind fun u12 =>
    some (u12.1, u12.2, mo_corner, mo_linkVotes, mo_linkE, mo_linkF, mo_follower, mo_ahead, mo_least, mo_seam)
   else
    (fMo_laysChain mo_all mo_corner mo_linkVotes mo_linkE mo_linkF mo_follower mo_ahead).bind fun u6 =>
    if 0 ≤ p1.toInt ∧ p1.toInt < 6 then
     if (u6.2.2.2.2.1 p1.toNatClampNeg) = (-1 : Int32) then
      (fMo_refuses (-3 : Int32) mo_refused).bind fun u11 =>
      some (u11.1, u11.2, u6.1, u6.2.1, u6.2.2.1, u6.2.2.2.1, u6.2.2.2.2.1, u6.2.2.2.2.2, mo_least, mo_seam)
     else
      (fMo_laysSeam p1 mo_all u6.2.2.1 u6.2.2.2.1 u6.2.2.2.2.1 mo_least mo_seam).bind fun u9 =>
      if 0 ≤ p2.toInt ∧ p2.toInt < 4 then
       some ((u9.2 p2.toNatClampNeg), mo_refused, u6.1, u6.2.1, u6.2.2.1, u6.2.2.2.1, u6.2.2.2.2.1, u6.2.2.2.2.2, u9.1, u9.2)
      else none
    else none
def fMo_lowest_L27 : Nat → Int64 → Int64 → Option (Int64)
  | 0, _, _ => none
  | n + 1, a27_1, a27_3 =>
    fMo_lowest_L27 n a27_1 a27_3
def fMo_lowest (mo_above : Int64) (mo_below : Int64) : Option (Int64 × Int64) :=
  ((if 0 ≤ (lg_cmp mo_above (0 : Int64)) then
    some mo_above
   else
    some (-mo_above) : Option (Int64))).bind fun u2 =>
  (fMo_lowest_L27 FU u2 mo_below).bind fun u3 =>
  if ¬ u3 = 0 then
   if ¬ u3 = 0 then
    some ((mo_above / u3), (mo_below / u3))
   else none
  else none
def fMo_share (p1 : Int32) (mo_linkE : Nat → Int32) (mo_linkF : Nat → Int32) (mo_follower : Nat → Int32) : Option (Int64) :=
  (fMo_cells p1 mo_linkE mo_linkF mo_follower).bind fun u1 =>
  if ¬ u1 = 0 then
   some (((5040 : Int32) / u1).toInt64)
  else none
def fMo_shares_L4 (d4_mo_all : Nat → Int32) (d4_mo_linkE : Nat → Int32) (d4_mo_linkF : Nat → Int32) (d4_mo_follower : Nat → Int32) : Nat → Int64 → Int32 → Option (Int64)
  | 0, _, _ => none
  | n + 1, a4_1, a4_3 =>
    fMo_shares_L4 d4_mo_all d4_mo_linkE d4_mo_linkF d4_mo_follower n a4_1 a4_3
def fMo_shares (mo_all : Nat → Int32) (mo_linkE : Nat → Int32) (mo_linkF : Nat → Int32) (mo_follower : Nat → Int32) : Option (Int64) :=
  (fMo_shares_L4 mo_all mo_linkE mo_linkF mo_follower FU (0 : Int64) (0 : Int32)).bind fun u1 =>
  some u1
def fMo_leftOver_L4 (d4_mo_all : Nat → Int32) (d4_mo_linkE : Nat → Int32) (d4_mo_linkF : Nat → Int32) (d4_mo_follower : Nat → Int32) : Nat → Int64 → Int32 → Option (Int64)
  | 0, _, _ => none
  | n + 1, a4_1, a4_3 =>
    fMo_leftOver_L4 d4_mo_all d4_mo_linkE d4_mo_linkF d4_mo_follower n a4_1 a4_3
def fMo_leftOver (mo_all : Nat → Int32) (mo_linkE : Nat → Int32) (mo_linkF : Nat → Int32) (mo_follower : Nat → Int32) : Option (Int64) :=
  (fMo_leftOver_L4 mo_all mo_linkE mo_linkF mo_follower FU (0 : Int64) (0 : Int32)).bind fun u1 =>
  some u1
def fMo_laysLevel_L99 (d99_mo_all : Nat → Int32) (d99_mo_linkE : Nat → Int32) (d99_mo_linkF : Nat → Int32) (d99_mo_follower : Nat → Int32) (d99_mo_ahead : Nat → Int32) : Nat → Int32 → Int64 → Option (Int64)
  | 0, _, _ => none
  | n + 1, a99_2, c99_mo_above =>
    fMo_laysLevel_L99 d99_mo_all d99_mo_linkE d99_mo_linkF d99_mo_follower d99_mo_ahead n a99_2 c99_mo_above
def fMo_laysLevel_L33 (b33_1 : Int32) (b33_2 : Int64) (b33_4 : Int64) (d33_mo_all : Nat → Int32) (d33_mo_linkE : Nat → Int32) (d33_mo_linkF : Nat → Int32) (d33_mo_follower : Nat → Int32) : Nat → Int32 → Int64 → Option (Int64)
  | 0, _, _ => none
  | n + 1, a33_6, c33_mo_above =>
    fMo_laysLevel_L33 b33_1 b33_2 b33_4 d33_mo_all d33_mo_linkE d33_mo_linkF d33_mo_follower n a33_6 c33_mo_above
def fMo_laysLevel (p1 : Int32) (mo_all : Nat → Int32) (mo_linkE : Nat → Int32) (mo_linkF : Nat → Int32) (mo_follower : Nat → Int32) (mo_ahead : Nat → Int32) (mo_above : Int64) (mo_below : Int64) : Option (Int64 × Int64) :=
  (fMo_isClosed mo_all mo_follower).bind fun u1 =>
  if u1 = 0 then
   if 0 ≤ p1.toInt ∧ p1.toInt < 6 then
    (fMo_laysLevel_L99 mo_all mo_linkE mo_linkF mo_follower mo_ahead FU (mo_ahead p1.toNatClampNeg) (0 : Int64)).bind fun u4 =>
    (fMo_lowest u4 (5040 : Int64)).bind fun u5 =>
    some (u5.1, u5.2)
   else none
  else
   (fMo_shares mo_all mo_linkE mo_linkF mo_follower).bind fun u6 =>
   (fMo_leftOver mo_all mo_linkE mo_linkF mo_follower).bind fun u7 =>
   (fMo_laysLevel_L33 p1 u6 u7 mo_all mo_linkE mo_linkF mo_follower FU (0 : Int32) (0 : Int64)).bind fun u8 =>
   (fMo_lowest u8 ((5040 : Int64) * u6)).bind fun u9 =>
   some (u9.1, u9.2)
def fMo_level (p1 : Int32) (p2 : Int32) (mo_all : Nat → Int32) (mo_refused : Nat → Int32) (mo_corner : Nat → Int32) (mo_linkVotes : Nat → Int32) (mo_linkE : Nat → Int32) (mo_linkF : Nat → Int32) (mo_follower : Nat → Int32) (mo_ahead : Nat → Int32) (mo_above : Int64) (mo_below : Int64) : Option (Int64 × (Nat → Int32) × (Nat → Int32) × (Nat → Int32) × (Nat → Int32) × (Nat → Int32) × (Nat → Int32) × (Nat → Int32) × Int64 × Int64) :=
  (fMo_isPicture p1 mo_all).bind fun u1 =>
  if u1 = 0 then
   if 0 ≤ (0 : Int32).toInt ∧ (0 : Int32).toInt < 3 then
    if 0 ≤ (0 : Int32).toInt ∧ (0 : Int32).toInt < 3 then
     some ((-999999 : Int64), (upd mo_refused (0 : Int32).toNatClampNeg ((mo_refused (0 : Int32).toNatClampNeg) + (1 : Int32))), mo_corner, mo_linkVotes, mo_linkE, mo_linkF, mo_follower, mo_ahead, mo_above, mo_below)
    else none
   else none
  else
   (fMo_in p2.toInt64 (0 : Int64) (1 : Int64)).bind fun u5 =>
   if u5 = 0 then
    if 0 ≤ (0 : Int32).toInt ∧ (0 : Int32).toInt < 3 then
     if 0 ≤ (0 : Int32).toInt ∧ (0 : Int32).toInt < 3 then
      some ((-999999 : Int64), (upd mo_refused (0 : Int32).toNatClampNeg ((mo_refused (0 : Int32).toNatClampNeg) + (1 : Int32))), mo_corner, mo_linkVotes, mo_linkE, mo_linkF, mo_follower, mo_ahead, mo_above, mo_below)
     else none
    else none
   else
    (fMo_laysChain mo_all mo_corner mo_linkVotes mo_linkE mo_linkF mo_follower mo_ahead).bind fun u7 =>
    (fMo_laysLevel p1 mo_all u7.2.2.1 u7.2.2.2.1 u7.2.2.2.2.1 u7.2.2.2.2.2 mo_above mo_below).bind fun u8 =>
    if p2 = 0 then
     some (u8.1, mo_refused, u7.1, u7.2.1, u7.2.2.1, u7.2.2.2.1, u7.2.2.2.2.1, u7.2.2.2.2.2, u8.1, u8.2)
    else
     some (u8.2, mo_refused, u7.1, u7.2.1, u7.2.2.1, u7.2.2.2.1, u7.2.2.2.2.1, u7.2.2.2.2.2, u8.1, u8.2)
def fMo_rest (p1 : Int32) (mo_all : Nat → Int32) (mo_refused : Nat → Int32) (mo_corner : Nat → Int32) (mo_linkVotes : Nat → Int32) (mo_linkE : Nat → Int32) (mo_linkF : Nat → Int32) (mo_follower : Nat → Int32) (mo_ahead : Nat → Int32) (mo_above : Int64) (mo_below : Int64) : Option (Int64 × (Nat → Int32) × (Nat → Int32) × (Nat → Int32) × (Nat → Int32) × (Nat → Int32) × (Nat → Int32) × (Nat → Int32) × Int64 × Int64) :=
  (fMo_in p1.toInt64 (0 : Int64) (1 : Int64)).bind fun u1 =>
  if u1 = 0 then
   (fMo_refuses (-2 : Int32) mo_refused).bind fun u12 =>
   some (u12.1.toInt64, u12.2, mo_corner, mo_linkVotes, mo_linkE, mo_linkF, mo_follower, mo_ahead, mo_above, mo_below)
  else
   (fMo_laysChain mo_all mo_corner mo_linkVotes mo_linkE mo_linkF mo_follower mo_ahead).bind fun u3 =>
   (fMo_isClosed mo_all u3.2.2.2.2.1).bind fun u4 =>
   ((if u4 = 0 then
     some ((0 : Int64), (1 : Int64))
    else
     (fMo_leftOver mo_all u3.2.2.1 u3.2.2.2.1 u3.2.2.2.2.1).bind fun u7 =>
     (fMo_leftOver mo_all u3.2.2.1 u3.2.2.2.1 u3.2.2.2.2.1).bind fun u8 =>
     (fMo_shares mo_all u3.2.2.1 u3.2.2.2.1 u3.2.2.2.2.1).bind fun u9 =>
     (fMo_lowest (u7 * u8) ((5040 : Int64) * u9)).bind fun u10 =>
     some (u10.1, u10.2) : Option (Int64 × Int64))).bind fun u6 =>
   if p1 = 0 then
    some (u6.1, mo_refused, u3.1, u3.2.1, u3.2.2.1, u3.2.2.2.1, u3.2.2.2.2.1, u3.2.2.2.2.2, u6.1, u6.2)
   else
    some (u6.2, mo_refused, u3.1, u3.2.1, u3.2.2.1, u3.2.2.2.1, u3.2.2.2.2.1, u3.2.2.2.2.2, u6.1, u6.2)
def fMo_shows_L133 (b133_4 : Int32) : Nat → Int32 → Int32 → Option (Int32)
  | 0, _, _ => none
  | n + 1, a133_6, a133_7 =>
    fMo_shows_L133 b133_4 n a133_6 a133_7
def fMo_shows (p1 : Int32) (p2 : Int32) (mo_all : Nat → Int32) (mo_refused : Nat → Int32) (mo_corner : Nat → Int32) (mo_linkVotes : Nat → Int32) (mo_linkE : Nat → Int32) (mo_linkF : Nat → Int32) (mo_follower : Nat → Int32) (mo_ahead : Nat → Int32) (mo_least : Nat → Int32) (mo_seam : Nat → Int32) : Option (Int32 × (Nat → Int32) × (Nat → Int32) × (Nat → Int32) × (Nat → Int32) × (Nat → Int32) × (Nat → Int32) × (Nat → Int32) × (Nat → Int32) × (Nat → Int32)) :=
  (fMo_isPicture p1 mo_all).bind fun u1 =>
  if u1 = 0 then
   (fMo_refuses (-2 : Int32) mo_refused).bind fun u3 =>
   some (u3.1, u3.2, mo_corner, mo_linkVotes, mo_linkE, mo_linkF, mo_follower, mo_ahead, mo_least, mo_seam)
  else
   (fMo_in p2.toInt64 (0 : Int64) (3 : Int64)).bind fun u4 =>
   if u4 = 0 then
    (fMo_refuses (-2 : Int32) mo_refused).bind fun u27 =>
    some (u27.1, u27.2, mo_corner, mo_linkVotes, mo_linkE, mo_linkF, mo_follower, mo_ahead, mo_least, mo_seam)
   else
    (fMo_laysChain mo_all mo_corner mo_linkVotes mo_linkE mo_linkF mo_follower mo_ahead).bind fun u6 =>
    if 0 ≤ p1.toInt ∧ p1.toInt < 6 then
     (some (u6.2.2.2.2.2 p1.toNatClampNeg)).bind fun (t8 : Int32) =>
     ((if t8 = (-1 : Int32) then
       some ((0 : Int32), mo_least, mo_seam)
      else
       (fMo_eOf t8 u6.2.2.1 u6.2.2.2.2.1).bind fun u11 =>
       (fMo_hasRow t8 (p2 + u11) u6.2.2.1 u6.2.2.2.2.1).bind fun u12 =>
       if u12 = 0 then
        some ((0 : Int32), mo_least, mo_seam)
       else
        (fMo_laysSeam t8 mo_all u6.2.2.1 u6.2.2.2.1 u6.2.2.2.2.1 mo_least mo_seam).bind fun u14 =>
        (fMo_eOf t8 u6.2.2.1 u6.2.2.2.2.1).bind fun u15 =>
        if 0 ≤ (p2 + u15).toInt ∧ (p2 + u15).toInt < 4 then
         (fMo_fOf t8 u6.2.2.2.1 u6.2.2.2.2.1).bind fun u17 =>
         (some ((u14.2 (p2 + u15).toNatClampNeg) - u17)).bind fun (t18 : Int32) =>
         some (t18, u14.1, u14.2)
        else none : Option (Int32 × (Nat → Int32) × (Nat → Int32)))).bind fun u10 =>
     if 0 ≤ p1.toInt ∧ p1.toInt < 6 then
      ((if (u6.2.2.2.2.1 p1.toNatClampNeg) = (-1 : Int32) then
        some ((8 : Int32), u10.2.1, u10.2.2)
       else
        (fMo_hasRow p1 p2 u6.2.2.1 u6.2.2.2.2.1).bind fun u22 =>
        if u22 = 0 then
         some ((8 : Int32), u10.2.1, u10.2.2)
        else
         (fMo_laysSeam p1 mo_all u6.2.2.1 u6.2.2.2.1 u6.2.2.2.2.1 u10.2.1 u10.2.2).bind fun u24 =>
         if 0 ≤ p2.toInt ∧ p2.toInt < 4 then
          some ((u24.2 p2.toNatClampNeg), u24.1, u24.2)
         else none : Option (Int32 × (Nat → Int32) × (Nat → Int32)))).bind fun u21 =>
      (fMo_shows_L133 u21.1 FU (0 : Int32) u10.1).bind fun u26 =>
      some (u26, mo_refused, u6.1, u6.2.1, u6.2.2.1, u6.2.2.2.1, u6.2.2.2.2.1, u6.2.2.2.2.2, u21.2.1, u21.2.2)
     else none
    else none
def fMo_seen (p1 : Int32) (p2 : Int32) (p3 : Int32) (mo_all : Nat → Int32) (mo_refused : Nat → Int32) (mo_corner : Nat → Int32) (mo_linkVotes : Nat → Int32) (mo_linkE : Nat → Int32) (mo_linkF : Nat → Int32) (mo_follower : Nat → Int32) (mo_ahead : Nat → Int32) (mo_above : Int64) (mo_below : Int64) : Option (Int32 × (Nat → Int32) × (Nat → Int32) × (Nat → Int32) × (Nat → Int32) × (Nat → Int32) × (Nat → Int32) × (Nat → Int32) × Int64 × Int64) :=
  (fMo_isPicture p1 mo_all).bind fun u1 =>
  if u1 = 0 then
   (fMo_refuses (-2 : Int32) mo_refused).bind fun u3 =>
   some (u3.1, u3.2, mo_corner, mo_linkVotes, mo_linkE, mo_linkF, mo_follower, mo_ahead, mo_above, mo_below)
  else
   (fMo_isCell p2 p3).bind fun u4 =>
   if u4 = 0 then
    (fMo_refuses (-2 : Int32) mo_refused).bind fun u17 =>
    some (u17.1, u17.2, mo_corner, mo_linkVotes, mo_linkE, mo_linkF, mo_follower, mo_ahead, mo_above, mo_below)
   else
    (fMo_laysChain mo_all mo_corner mo_linkVotes mo_linkE mo_linkF mo_follower mo_ahead).bind fun u6 =>
    (fMo_laysLevel p1 mo_all u6.2.2.1 u6.2.2.2.1 u6.2.2.2.2.1 u6.2.2.2.2.2 mo_above mo_below).bind fun u7 =>
    (fMo_at p1 p2 p3 mo_all).bind fun u8 =>
    (some (((2 : Int64) * ((u8.toInt64 * u7.2) + u7.1)) + u7.2)).bind fun (t9 : Int64) =>
    if ¬ ((2 : Int64) * u7.2) = 0 then
     if ¬ ((2 : Int64) * u7.2) = 0 then
      ((if 0 ≤ (lg_cmp (t9 - t9 / ((2 : Int64) * u7.2) * ((2 : Int64) * u7.2)) (0 : Int64)) then
        some (0 : Int64)
       else
        some (1 : Int64) : Option (Int64))).bind fun u13 =>
      (some ((t9 / ((2 : Int64) * u7.2)) - u13)).bind fun (t14 : Int64) =>
      if 0 ≤ (lg_cmp t14 (0 : Int64)) then
       if (lg_cmp t14 (63 : Int64)) ≤ 0 then
        some (t14.toInt32, mo_refused, u6.1, u6.2.1, u6.2.2.1, u6.2.2.2.1, u6.2.2.2.2.1, u6.2.2.2.2.2, u7.1, u7.2)
       else
        some ((63 : Int32), mo_refused, u6.1, u6.2.1, u6.2.2.1, u6.2.2.2.1, u6.2.2.2.2.1, u6.2.2.2.2.2, u7.1, u7.2)
      else
       some ((0 : Int32), mo_refused, u6.1, u6.2.1, u6.2.2.1, u6.2.2.2.1, u6.2.2.2.2.1, u6.2.2.2.2.2, u7.1, u7.2)
     else none
    else none
def fMo_type (p1 : Int32) (mo_refused : Nat → Int32) (mo_text : Nat → Int32) (mo_textLong : Int32) : Option (Int32 × (Nat → Int32) × (Nat → Int32) × Int32) :=
  (fMo_in p1.toInt64 (0 : Int64) (127 : Int64)).bind fun u1 =>
  if u1 = 0 then
   (fMo_refuses (-2 : Int32) mo_refused).bind fun u6 =>
   some (u6.1, u6.2, mo_text, mo_textLong)
  else
   if mo_textLong = (120 : Int32) then
    (fMo_refuses (-4 : Int32) mo_refused).bind fun u5 =>
    some (u5.1, u5.2, mo_text, mo_textLong)
   else
    if 0 ≤ mo_textLong.toInt ∧ mo_textLong.toInt < 120 then
     some ((mo_textLong + (1 : Int32)), mo_refused, (upd mo_text mo_textLong.toNatClampNeg p1), (mo_textLong + (1 : Int32)))
    else none
def fMo_clear (mo_textLong : Int32) : Option (Int32 × Int32) :=
  some (mo_textLong, (0 : Int32))
def fMo_here_L0 (d0_mo_text : Nat → Int32) (d0_mo_textLong : Int32) : Nat → Int32 → Option (Int32)
  | 0, _ => none
  | n + 1, c0_mo_place =>
    fMo_here_L0 d0_mo_text d0_mo_textLong n c0_mo_place
def fMo_here (mo_text : Nat → Int32) (mo_textLong : Int32) (mo_place : Int32) : Option (Int32 × Int32) :=
  (fMo_here_L0 mo_text mo_textLong FU mo_place).bind fun u1 =>
  if mo_textLong ≤ u1 then
   some ((-1 : Int32), u1)
  else
   if 0 ≤ u1.toInt ∧ u1.toInt < 120 then
    some ((mo_text u1.toNatClampNeg), u1)
   else none
def fMo_isFigure (p1 : Int32) (mo_text : Nat → Int32) (mo_textLong : Int32) : Option (Int32) :=
  if mo_textLong ≤ p1 then
   some (0 : Int32)
  else
   if 0 ≤ p1.toInt ∧ p1.toInt < 120 then
    (fMo_in ((mo_text p1.toNatClampNeg).toInt64) (48 : Int64) (57 : Int64)).bind fun u3 =>
    if u3 = 0 then
     some (0 : Int32)
    else
     some (1 : Int32)
   else none
def fMo_takes_L58 (d58_mo_text : Nat → Int32) (d58_mo_textLong : Int32) : Nat → Int32 → Int32 → Int32 → Option (Int32 × Int32 × Int32)
  | 0, _, _, _ => none
  | n + 1, a58_4, c58_mo_place, c58_mo_value =>
    fMo_takes_L58 d58_mo_text d58_mo_textLong n a58_4 c58_mo_place c58_mo_value
def fMo_takes (p1 : Int32) (mo_text : Nat → Int32) (mo_textLong : Int32) (mo_place : Int32) (mo_value : Int32) : Option (Int32 × Int32 × Int32) :=
  (fMo_here mo_text mo_textLong mo_place).bind fun u1 =>
  ((if u1.1 = (45 : Int32) then
    if p1 = 0 then
     some (0 : Int32)
    else
     some (1 : Int32)
   else
    some (0 : Int32) : Option (Int32))).bind fun u3 =>
  ((if u3 = 0 then
    some (0 : Int32)
   else
    some (1 : Int32) : Option (Int32))).bind fun u6 =>
  ((if u3 = 0 then
    (fMo_here mo_text mo_textLong (u1.2 + u6)).bind fun u9 =>
    some (u9.1, u9.2)
   else
    some ((0 : Int32), (u1.2 + u6)) : Option (Int32 × Int32))).bind fun u8 =>
  (fMo_takes_L58 mo_text mo_textLong FU (0 : Int32) u8.2 (0 : Int32)).bind fun u10 =>
  ((if u3 = 0 then
    some u10.2.2
   else
    some (-u10.2.2) : Option (Int32))).bind fun u12 =>
  if u8.1 = (-1 : Int32) then
   some ((0 : Int32), u10.2.1, u12)
  else
   if u10.1 ≤ 0 then
    some ((0 : Int32), u10.2.1, u12)
   else
    (fMo_isFigure u10.2.1 mo_text mo_textLong).bind fun u15 =>
    if u15 = 0 then
     some ((1 : Int32), u10.2.1, u12)
    else
     some ((0 : Int32), u10.2.1, u12)
def fMo_takesAll_L2 (b2_1 : Int32) (b2_2 : Int32) (d2_mo_text : Nat → Int32) (d2_mo_textLong : Int32) : Nat → Int32 → Int32 → Int32 → (Nat → Int32) → Option (Sum (Int32 × Int32 × Int32 × (Nat → Int32)) (Int32 × Int32 × (Nat → Int32)))
  | 0, _, _, _, _ => none
  | n + 1, a2_3, c2_mo_place, c2_mo_value, c2_mo_numbers =>
    fMo_takesAll_L2 b2_1 b2_2 d2_mo_text d2_mo_textLong n a2_3 c2_mo_place c2_mo_value c2_mo_numbers
def fMo_takesAll (p1 : Int32) (p2 : Int32) (mo_text : Nat → Int32) (mo_textLong : Int32) (mo_place : Int32) (mo_value : Int32) (mo_numbers : Nat → Int32) : Option (Int32 × Int32 × Int32 × (Nat → Int32)) :=
  (fMo_takesAll_L2 p1 p2 mo_text mo_textLong FU (0 : Int32) mo_place mo_value mo_numbers).bind fun u1 => Sum.elim (fun r => some r) (fun x2 =>
  some ((1 : Int32), x2.1, x2.2.1, x2.2.2)) u1
def fMo_numbersOf (p0 : Int32) : Option (Int32) :=
  if p0 = (119 : Int32) then
   some (2 : Int32)
  else
   if p0 = (115 : Int32) then
    some (3 : Int32)
   else
    if p0 = (99 : Int32) then
     some (3 : Int32)
    else
     if p0 = (112 : Int32) then
      some (4 : Int32)
     else
      some (1 : Int32)
def fMo_can (p1 : Int32) (mo_all : Nat → Int32) (mo_numbers : Nat → Int32) : Option (Int32) :=
  if 0 ≤ (0 : Int32).toInt ∧ (0 : Int32).toInt < 4 then
   (some (mo_numbers (0 : Int32).toNatClampNeg)).bind fun (t2 : Int32) =>
   if 0 ≤ (1 : Int32).toInt ∧ (1 : Int32).toInt < 4 then
    (some (mo_numbers (1 : Int32).toNatClampNeg)).bind fun (t4 : Int32) =>
    if p1 = (97 : Int32) then
     (fMo_isSetting (1 : Int32) t2).bind fun u6 =>
     if u6 = 0 then
      some (-2 : Int32)
     else
      some (0 : Int32)
    else
     if p1 = (99 : Int32) then
      (fMo_isDot t2 t4 mo_all).bind fun u9 =>
      if u9 = 0 then
       some (-2 : Int32)
      else
       if 0 ≤ (2 : Int32).toInt ∧ (2 : Int32).toInt < 4 then
        (fMo_in ((mo_numbers (2 : Int32).toNatClampNeg).toInt64) (0 : Int64) (63 : Int64)).bind fun u12 =>
        if u12 = 0 then
         some (-2 : Int32)
        else
         some (0 : Int32)
       else none
     else
      if p1 = (112 : Int32) then
       (fMo_isPicture t2 mo_all).bind fun u15 =>
       if u15 = 0 then
        some (-2 : Int32)
       else
        if 0 ≤ (2 : Int32).toInt ∧ (2 : Int32).toInt < 4 then
         (fMo_isCell t4 (mo_numbers (2 : Int32).toNatClampNeg)).bind fun u18 =>
         if u18 = 0 then
          some (-2 : Int32)
         else
          if 0 ≤ (3 : Int32).toInt ∧ (3 : Int32).toInt < 4 then
           (fMo_in ((mo_numbers (3 : Int32).toNatClampNeg).toInt64) (0 : Int64) (63 : Int64)).bind fun u21 =>
           if u21 = 0 then
            some (-2 : Int32)
           else
            some (0 : Int32)
          else none
        else none
      else
       if p1 = (115 : Int32) then
        if 0 ≤ (2 : Int32).toInt ∧ (2 : Int32).toInt < 4 then
         (fMo_canShoot t2 t4 (mo_numbers (2 : Int32).toNatClampNeg) mo_all).bind fun u25 =>
         some u25
        else none
       else
        if p1 = (116 : Int32) then
         (fMo_isSetting (0 : Int32) t2).bind fun u27 =>
         if u27 = 0 then
          some (-2 : Int32)
         else
          some (0 : Int32)
        else
         if p1 = (119 : Int32) then
          (fMo_isWorld t2 t4).bind fun u30 =>
          if u30 = 0 then
           some (-2 : Int32)
          else
           some (0 : Int32)
         else
          (fMo_isPicture t2 mo_all).bind fun u32 =>
          if u32 = 0 then
           some (-2 : Int32)
          else
           some (0 : Int32)
   else none
  else none
def fMo_does (p1 : Int32) (mo_all : Nat → Int32) (mo_numbers : Nat → Int32) : Option ((Nat → Int32)) :=
  if 0 ≤ (0 : Int32).toInt ∧ (0 : Int32).toInt < 4 then
   (some (mo_numbers (0 : Int32).toNatClampNeg)).bind fun (t2 : Int32) =>
   if 0 ≤ (1 : Int32).toInt ∧ (1 : Int32).toInt < 4 then
    (some (mo_numbers (1 : Int32).toNatClampNeg)).bind fun (t4 : Int32) =>
    ((if p1 = (119 : Int32) then
      (fMo_worldNow t2 t4 mo_all).bind fun u12 =>
      some (u12.1, u12.2)
     else
      if p1 = (115 : Int32) then
       if 0 ≤ (2 : Int32).toInt ∧ (2 : Int32).toInt < 4 then
        (fMo_shotNow t2 t4 (mo_numbers (2 : Int32).toNatClampNeg) mo_all).bind fun u11 =>
        some (u11.1, u11.2)
       else none
      else
       if p1 = (120 : Int32) then
        (fMo_dropNow t2 mo_all).bind fun u9 =>
        some (u9.1, u9.2)
       else
        some ((0 : Int32), mo_all) : Option (Int32 × (Nat → Int32)))).bind fun u6 =>
    if p1 = (112 : Int32) then
     if 0 ≤ (2 : Int32).toInt ∧ (2 : Int32).toInt < 4 then
      if 0 ≤ (3 : Int32).toInt ∧ (3 : Int32).toInt < 4 then
       if 0 ≤ ((((196 : Int32) + ((35 : Int32) * t2)) + ((8 : Int32) * t4)) + (mo_numbers (2 : Int32).toNatClampNeg)).toInt ∧ ((((196 : Int32) + ((35 : Int32) * t2)) + ((8 : Int32) * t4)) + (mo_numbers (2 : Int32).toNatClampNeg)).toInt < 406 then
        some (upd u6.2 ((((196 : Int32) + ((35 : Int32) * t2)) + ((8 : Int32) * t4)) + (mo_numbers (2 : Int32).toNatClampNeg)).toNatClampNeg (mo_numbers (3 : Int32).toNatClampNeg))
       else none
      else none
     else none
    else
     if p1 = (99 : Int32) then
      if 0 ≤ (2 : Int32).toInt ∧ (2 : Int32).toInt < 4 then
       if 0 ≤ (((4 : Int32) + ((32 : Int32) * t2)) + t4).toInt ∧ (((4 : Int32) + ((32 : Int32) * t2)) + t4).toInt < 406 then
        some (upd u6.2 (((4 : Int32) + ((32 : Int32) * t2)) + t4).toNatClampNeg (mo_numbers (2 : Int32).toNatClampNeg))
       else none
      else none
     else
      if p1 = (116 : Int32) then
       if p1 = (116 : Int32) then
        if 0 ≤ (1 : Int32).toInt ∧ (1 : Int32).toInt < 406 then
         some (upd u6.2 (1 : Int32).toNatClampNeg t2)
        else none
       else
        if 0 ≤ (2 : Int32).toInt ∧ (2 : Int32).toInt < 406 then
         some (upd u6.2 (2 : Int32).toNatClampNeg t2)
        else none
      else
       if p1 = (97 : Int32) then
        if p1 = (116 : Int32) then
         if 0 ≤ (1 : Int32).toInt ∧ (1 : Int32).toInt < 406 then
          some (upd u6.2 (1 : Int32).toNatClampNeg t2)
         else none
        else
         if 0 ≤ (2 : Int32).toInt ∧ (2 : Int32).toInt < 406 then
          some (upd u6.2 (2 : Int32).toNatClampNeg t2)
         else none
       else
        some u6.2
   else none
  else none
def fMo_readsOrder (p1 : Int32) (mo_all : Nat → Int32) (mo_text : Nat → Int32) (mo_textLong : Int32) (mo_place : Int32) (mo_value : Int32) (mo_numbers : Nat → Int32) (mo_not : Int32) : Option (Int32 × (Nat → Int32) × Int32 × Int32 × (Nat → Int32) × Int32) :=
  (fMo_here mo_text mo_textLong mo_place).bind fun u1 =>
  if u1.1 = (119 : Int32) then
   (fMo_numbersOf u1.1).bind fun u3 =>
   ((if u1.1 = (115 : Int32) then
     some (2 : Int32)
    else
     some (-1 : Int32) : Option (Int32))).bind fun u5 =>
   (fMo_takesAll u3 u5 mo_text mo_textLong (u1.2 + (1 : Int32)) mo_value mo_numbers).bind fun u6 =>
   if u6.1 = 0 then
    some ((0 : Int32), mo_all, u6.2.1, u6.2.2.1, u6.2.2.2, mo_not)
   else
    (fMo_here mo_text mo_textLong u6.2.1).bind fun u8 =>
    if u8.1 = (59 : Int32) then
     if p1 = 0 then
      some ((1 : Int32), mo_all, (u8.2 + (1 : Int32)), u6.2.2.1, u6.2.2.2, mo_not)
     else
      (fMo_can u1.1 mo_all u6.2.2.2).bind fun u11 =>
      if u11 = 0 then
       (fMo_does u1.1 mo_all u6.2.2.2).bind fun u13 =>
       some ((1 : Int32), u13, (u8.2 + (1 : Int32)), u6.2.2.1, u6.2.2.2, u11)
      else
       some ((1 : Int32), mo_all, (u8.2 + (1 : Int32)), u6.2.2.1, u6.2.2.2, u11)
    else
     some ((0 : Int32), mo_all, u8.2, u6.2.2.1, u6.2.2.2, mo_not)
  else
   if u1.1 = (115 : Int32) then
    (fMo_numbersOf u1.1).bind fun u15 =>
    ((if u1.1 = (115 : Int32) then
      some (2 : Int32)
     else
      some (-1 : Int32) : Option (Int32))).bind fun u17 =>
    (fMo_takesAll u15 u17 mo_text mo_textLong (u1.2 + (1 : Int32)) mo_value mo_numbers).bind fun u18 =>
    if u18.1 = 0 then
     some ((0 : Int32), mo_all, u18.2.1, u18.2.2.1, u18.2.2.2, mo_not)
    else
     (fMo_here mo_text mo_textLong u18.2.1).bind fun u20 =>
     if u20.1 = (59 : Int32) then
      if p1 = 0 then
       some ((1 : Int32), mo_all, (u20.2 + (1 : Int32)), u18.2.2.1, u18.2.2.2, mo_not)
      else
       (fMo_can u1.1 mo_all u18.2.2.2).bind fun u23 =>
       if u23 = 0 then
        (fMo_does u1.1 mo_all u18.2.2.2).bind fun u25 =>
        some ((1 : Int32), u25, (u20.2 + (1 : Int32)), u18.2.2.1, u18.2.2.2, u23)
       else
        some ((1 : Int32), mo_all, (u20.2 + (1 : Int32)), u18.2.2.1, u18.2.2.2, u23)
     else
      some ((0 : Int32), mo_all, u20.2, u18.2.2.1, u18.2.2.2, mo_not)
   else
    if u1.1 = (112 : Int32) then
     (fMo_numbersOf u1.1).bind fun u27 =>
     ((if u1.1 = (115 : Int32) then
       some (2 : Int32)
      else
       some (-1 : Int32) : Option (Int32))).bind fun u29 =>
     (fMo_takesAll u27 u29 mo_text mo_textLong (u1.2 + (1 : Int32)) mo_value mo_numbers).bind fun u30 =>
     if u30.1 = 0 then
      some ((0 : Int32), mo_all, u30.2.1, u30.2.2.1, u30.2.2.2, mo_not)
     else
      (fMo_here mo_text mo_textLong u30.2.1).bind fun u32 =>
      if u32.1 = (59 : Int32) then
       if p1 = 0 then
        some ((1 : Int32), mo_all, (u32.2 + (1 : Int32)), u30.2.2.1, u30.2.2.2, mo_not)
       else
        (fMo_can u1.1 mo_all u30.2.2.2).bind fun u35 =>
        if u35 = 0 then
         (fMo_does u1.1 mo_all u30.2.2.2).bind fun u37 =>
         some ((1 : Int32), u37, (u32.2 + (1 : Int32)), u30.2.2.1, u30.2.2.2, u35)
        else
         some ((1 : Int32), mo_all, (u32.2 + (1 : Int32)), u30.2.2.1, u30.2.2.2, u35)
      else
       some ((0 : Int32), mo_all, u32.2, u30.2.2.1, u30.2.2.2, mo_not)
    else
     if u1.1 = (99 : Int32) then
      (fMo_numbersOf u1.1).bind fun u39 =>
      ((if u1.1 = (115 : Int32) then
        some (2 : Int32)
       else
        some (-1 : Int32) : Option (Int32))).bind fun u41 =>
      (fMo_takesAll u39 u41 mo_text mo_textLong (u1.2 + (1 : Int32)) mo_value mo_numbers).bind fun u42 =>
      if u42.1 = 0 then
       some ((0 : Int32), mo_all, u42.2.1, u42.2.2.1, u42.2.2.2, mo_not)
      else
       (fMo_here mo_text mo_textLong u42.2.1).bind fun u44 =>
       if u44.1 = (59 : Int32) then
        if p1 = 0 then
         some ((1 : Int32), mo_all, (u44.2 + (1 : Int32)), u42.2.2.1, u42.2.2.2, mo_not)
        else
         (fMo_can u1.1 mo_all u42.2.2.2).bind fun u47 =>
         if u47 = 0 then
          (fMo_does u1.1 mo_all u42.2.2.2).bind fun u49 =>
          some ((1 : Int32), u49, (u44.2 + (1 : Int32)), u42.2.2.1, u42.2.2.2, u47)
         else
          some ((1 : Int32), mo_all, (u44.2 + (1 : Int32)), u42.2.2.1, u42.2.2.2, u47)
       else
        some ((0 : Int32), mo_all, u44.2, u42.2.2.1, u42.2.2.2, mo_not)
     else
      if u1.1 = (116 : Int32) then
       (fMo_numbersOf u1.1).bind fun u51 =>
       ((if u1.1 = (115 : Int32) then
         some (2 : Int32)
        else
         some (-1 : Int32) : Option (Int32))).bind fun u53 =>
       (fMo_takesAll u51 u53 mo_text mo_textLong (u1.2 + (1 : Int32)) mo_value mo_numbers).bind fun u54 =>
       if u54.1 = 0 then
        some ((0 : Int32), mo_all, u54.2.1, u54.2.2.1, u54.2.2.2, mo_not)
       else
        (fMo_here mo_text mo_textLong u54.2.1).bind fun u56 =>
        if u56.1 = (59 : Int32) then
         if p1 = 0 then
          some ((1 : Int32), mo_all, (u56.2 + (1 : Int32)), u54.2.2.1, u54.2.2.2, mo_not)
         else
          (fMo_can u1.1 mo_all u54.2.2.2).bind fun u59 =>
          if u59 = 0 then
           (fMo_does u1.1 mo_all u54.2.2.2).bind fun u61 =>
           some ((1 : Int32), u61, (u56.2 + (1 : Int32)), u54.2.2.1, u54.2.2.2, u59)
          else
           some ((1 : Int32), mo_all, (u56.2 + (1 : Int32)), u54.2.2.1, u54.2.2.2, u59)
        else
         some ((0 : Int32), mo_all, u56.2, u54.2.2.1, u54.2.2.2, mo_not)
      else
       if u1.1 = (97 : Int32) then
        (fMo_numbersOf u1.1).bind fun u63 =>
        ((if u1.1 = (115 : Int32) then
          some (2 : Int32)
         else
          some (-1 : Int32) : Option (Int32))).bind fun u65 =>
        (fMo_takesAll u63 u65 mo_text mo_textLong (u1.2 + (1 : Int32)) mo_value mo_numbers).bind fun u66 =>
        if u66.1 = 0 then
         some ((0 : Int32), mo_all, u66.2.1, u66.2.2.1, u66.2.2.2, mo_not)
        else
         (fMo_here mo_text mo_textLong u66.2.1).bind fun u68 =>
         if u68.1 = (59 : Int32) then
          if p1 = 0 then
           some ((1 : Int32), mo_all, (u68.2 + (1 : Int32)), u66.2.2.1, u66.2.2.2, mo_not)
          else
           (fMo_can u1.1 mo_all u66.2.2.2).bind fun u71 =>
           if u71 = 0 then
            (fMo_does u1.1 mo_all u66.2.2.2).bind fun u73 =>
            some ((1 : Int32), u73, (u68.2 + (1 : Int32)), u66.2.2.1, u66.2.2.2, u71)
           else
            some ((1 : Int32), mo_all, (u68.2 + (1 : Int32)), u66.2.2.1, u66.2.2.2, u71)
         else
          some ((0 : Int32), mo_all, u68.2, u66.2.2.1, u66.2.2.2, mo_not)
       else
        if u1.1 = (120 : Int32) then
         (fMo_numbersOf u1.1).bind fun u75 =>
         ((if u1.1 = (115 : Int32) then
           some (2 : Int32)
          else
           some (-1 : Int32) : Option (Int32))).bind fun u77 =>
         (fMo_takesAll u75 u77 mo_text mo_textLong (u1.2 + (1 : Int32)) mo_value mo_numbers).bind fun u78 =>
         if u78.1 = 0 then
          some ((0 : Int32), mo_all, u78.2.1, u78.2.2.1, u78.2.2.2, mo_not)
         else
          (fMo_here mo_text mo_textLong u78.2.1).bind fun u80 =>
          if u80.1 = (59 : Int32) then
           if p1 = 0 then
            some ((1 : Int32), mo_all, (u80.2 + (1 : Int32)), u78.2.2.1, u78.2.2.2, mo_not)
           else
            (fMo_can u1.1 mo_all u78.2.2.2).bind fun u83 =>
            if u83 = 0 then
             (fMo_does u1.1 mo_all u78.2.2.2).bind fun u85 =>
             some ((1 : Int32), u85, (u80.2 + (1 : Int32)), u78.2.2.1, u78.2.2.2, u83)
            else
             some ((1 : Int32), mo_all, (u80.2 + (1 : Int32)), u78.2.2.1, u78.2.2.2, u83)
          else
           some ((0 : Int32), mo_all, u80.2, u78.2.2.1, u78.2.2.2, mo_not)
        else
         some ((0 : Int32), mo_all, u1.2, mo_value, mo_numbers, mo_not)
def fMo_keepsAside_L2 : Nat → Int32 → (Nat → Int32) → (Nat → Int32) → Option ((Nat → Int32) × (Nat → Int32))
  | 0, _, _, _ => none
  | n + 1, a2_1, c2_mo_all, c2_mo_aside =>
    fMo_keepsAside_L2 n a2_1 c2_mo_all c2_mo_aside
def fMo_keepsAside_L47 (d47_mo_aside : Nat → Int32) : Nat → Int32 → (Nat → Int32) → Option ((Nat → Int32))
  | 0, _, _ => none
  | n + 1, a47_1, c47_mo_all =>
    fMo_keepsAside_L47 d47_mo_aside n a47_1 c47_mo_all
def fMo_keepsAside (mo_all : Nat → Int32) (mo_past : Nat → Int32) (mo_aside : Nat → Int32) (mo_states : Int32) : Option ((Nat → Int32) × (Nat → Int32) × (Nat → Int32) × Int32) :=
  (fMo_keepsAside_L2 FU (0 : Int32) mo_all mo_aside).bind fun u1 =>
  (fMo_keep u1.1 mo_past mo_states).bind fun u2 =>
  (fMo_keepsAside_L47 u1.2 FU (0 : Int32) u1.1).bind fun u3 =>
  some (u3, u2.1, u1.2, u2.2)
def fMo_reads_L11 (d11_mo_text : Nat → Int32) (d11_mo_textLong : Int32) : Nat → Int32 → (Nat → Int32) → Int32 → Int32 → (Nat → Int32) → Int32 → Option (Int32 × (Nat → Int32) × Int32 × Int32 × (Nat → Int32) × Int32)
  | 0, _, _, _, _, _, _ => none
  | n + 1, a11_1, c11_mo_all, c11_mo_place, c11_mo_value, c11_mo_numbers, c11_mo_not =>
    fMo_reads_L11 d11_mo_text d11_mo_textLong n a11_1 c11_mo_all c11_mo_place c11_mo_value c11_mo_numbers c11_mo_not
def fMo_reads_L46 (d46_mo_all : Nat → Int32) : Nat → Int32 → (Nat → Int32) → Option ((Nat → Int32))
  | 0, _, _ => none
  | n + 1, a46_2, c46_mo_aside =>
    fMo_reads_L46 d46_mo_all n a46_2 c46_mo_aside
def fMo_reads_L83 (d83_mo_aside : Nat → Int32) (d83_mo_text : Nat → Int32) (d83_mo_textLong : Int32) : Nat → Int32 → (Nat → Int32) → Int32 → Int32 → Int32 → Int32 → (Nat → Int32) → Int32 → Option (Sum (Int32 × (Nat → Int32) × (Nat → Int32) × (Nat → Int32) × Int32 × Int32 × Int32 × Int32 × Int32 × (Nat → Int32) × Int32) (Int32 × (Nat → Int32) × Int32 × Int32 × Int32 × Int32 × (Nat → Int32) × Int32))
  | 0, _, _, _, _, _, _, _, _ => none
  | n + 1, a83_2, c83_mo_all, c83_mo_causeKind, c83_mo_causeOrder, c83_mo_place, c83_mo_value, c83_mo_numbers, c83_mo_not =>
    fMo_reads_L83 d83_mo_aside d83_mo_text d83_mo_textLong n a83_2 c83_mo_all c83_mo_causeKind c83_mo_causeOrder c83_mo_place c83_mo_value c83_mo_numbers c83_mo_not
def fMo_reads (mo_all : Nat → Int32) (mo_past : Nat → Int32) (mo_aside : Nat → Int32) (mo_states : Int32) (mo_causeKind : Int32) (mo_causeOrder : Int32) (mo_text : Nat → Int32) (mo_textLong : Int32) (mo_place : Int32) (mo_value : Int32) (mo_numbers : Nat → Int32) (mo_not : Int32) : Option (Int32 × (Nat → Int32) × (Nat → Int32) × (Nat → Int32) × Int32 × Int32 × Int32 × Int32 × Int32 × (Nat → Int32) × Int32) :=
  (fMo_readsOrder (0 : Int32) mo_all mo_text mo_textLong (0 : Int32) mo_value mo_numbers mo_not).bind fun u1 =>
  (fMo_reads_L11 mo_text mo_textLong FU u1.1 u1.2.1 u1.2.2.1 u1.2.2.2.1 u1.2.2.2.2.1 u1.2.2.2.2.2).bind fun u2 =>
  if u2.1 = 0 then
   some (((-10 : Int32) - u2.2.2.1), u2.2.1, mo_past, mo_aside, mo_states, mo_causeKind, mo_causeOrder, u2.2.2.1, u2.2.2.2.1, u2.2.2.2.2.1, u2.2.2.2.2.2)
  else
   (fMo_reads_L46 u2.2.1 FU (0 : Int32) mo_aside).bind fun u4 =>
   (fMo_reads_L83 u4 mo_text mo_textLong FU (0 : Int32) u2.2.1 mo_causeKind mo_causeOrder (0 : Int32) u2.2.2.2.1 u2.2.2.2.2.1 (0 : Int32)).bind fun u5 => Sum.elim (fun r => some r) (fun x6 =>
   (fMo_keepsAside x6.2.1 mo_past u4 mo_states).bind fun u7 =>
   some (x6.1, u7.1, u7.2.1, u7.2.2.1, u7.2.2.2, x6.2.2.1, x6.2.2.2.1, x6.2.2.2.2.1, x6.2.2.2.2.2.1, x6.2.2.2.2.2.2.1, x6.2.2.2.2.2.2.2)) u5
def fMo_why (p1 : Int32) (mo_refused : Nat → Int32) (mo_causeKind : Int32) (mo_causeOrder : Int32) : Option (Int32 × (Nat → Int32)) :=
  (fMo_in p1.toInt64 (0 : Int64) (1 : Int64)).bind fun u1 =>
  if u1 = 0 then
   if 0 ≤ (0 : Int32).toInt ∧ (0 : Int32).toInt < 3 then
    if 0 ≤ (0 : Int32).toInt ∧ (0 : Int32).toInt < 3 then
     some ((-10 : Int32), (upd mo_refused (0 : Int32).toNatClampNeg ((mo_refused (0 : Int32).toNatClampNeg) + (1 : Int32))))
    else none
   else none
  else
   if p1 = 0 then
    some (mo_causeKind, mo_refused)
   else
    some (mo_causeOrder, mo_refused)
def fMo_back_L26 (d26_mo_past : Nat → Int32) (d26_mo_states : Int32) : Nat → Int32 → (Nat → Int32) → Option ((Nat → Int32))
  | 0, _, _ => none
  | n + 1, a26_1, c26_mo_all =>
    fMo_back_L26 d26_mo_past d26_mo_states n a26_1 c26_mo_all
def fMo_back (mo_all : Nat → Int32) (mo_past : Nat → Int32) (mo_states : Int32) (mo_refused : Nat → Int32) : Option (Int32 × (Nat → Int32) × Int32 × (Nat → Int32)) :=
  if mo_states = 0 then
   (fMo_refuses (-3 : Int32) mo_refused).bind fun u3 =>
   some (u3.1, mo_all, mo_states, u3.2)
  else
   (fMo_back_L26 mo_past (mo_states - (1 : Int32)) FU (0 : Int32) mo_all).bind fun u2 =>
   some ((mo_states - (1 : Int32)), u2, (mo_states - (1 : Int32)), mo_refused)
def fMo_toldOf (p1 : Int32) (mo_all : Nat → Int32) (mo_states : Int32) (mo_refused : Nat → Int32) (mo_textLong : Int32) : Option (Int32) :=
  if p1 = (3 : Int32) then
   some mo_textLong
  else
   if p1 = (4 : Int32) then
    if 0 ≤ (0 : Int32).toInt ∧ (0 : Int32).toInt < 406 then
     some (mo_all (0 : Int32).toNatClampNeg)
    else none
   else
    if p1 = (5 : Int32) then
     (fMo_many mo_all).bind fun u5 =>
     some u5
    else
     if p1 = (6 : Int32) then
      if 0 ≤ (1 : Int32).toInt ∧ (1 : Int32).toInt < 406 then
       some (mo_all (1 : Int32).toNatClampNeg)
      else none
     else
      if p1 = (7 : Int32) then
       if 0 ≤ (2 : Int32).toInt ∧ (2 : Int32).toInt < 406 then
        some (mo_all (2 : Int32).toNatClampNeg)
       else none
      else
       if p1 = (8 : Int32) then
        some mo_states
       else
        if 0 ≤ p1.toInt ∧ p1.toInt < 3 then
         some (mo_refused p1.toNatClampNeg)
        else none
def fMo_told (p1 : Int32) (mo_all : Nat → Int32) (mo_states : Int32) (mo_refused : Nat → Int32) (mo_textLong : Int32) : Option (Int32 × (Nat → Int32)) :=
  (fMo_in p1.toInt64 (0 : Int64) (8 : Int64)).bind fun u1 =>
  if u1 = 0 then
   (fMo_refuses (-2 : Int32) mo_refused).bind fun u3 =>
   some (u3.1, u3.2)
  else
   (fMo_toldOf p1 mo_all mo_states mo_refused mo_textLong).bind fun u4 =>
   some (u4, mo_refused)
def fMo_digest_L6 (d6_mo_all : Nat → Int32) (d6_mo_states : Int32) (d6_mo_refused : Nat → Int32) (d6_mo_textLong : Int32) : Nat → Int64 → Int32 → Option (Int64)
  | 0, _, _ => none
  | n + 1, a6_1, a6_3 =>
    fMo_digest_L6 d6_mo_all d6_mo_states d6_mo_refused d6_mo_textLong n a6_1 a6_3
def fMo_digest_L59 (d59_mo_all : Nat → Int32) (d59_mo_corner : Nat → Int32) (d59_mo_follower : Nat → Int32) : Nat → Int64 → Int32 → Option (Int64)
  | 0, _, _ => none
  | n + 1, a59_1, a59_3 =>
    fMo_digest_L59 d59_mo_all d59_mo_corner d59_mo_follower n a59_1 a59_3
def fMo_digest_L140 (d140_mo_all : Nat → Int32) (d140_mo_linkE : Nat → Int32) (d140_mo_linkF : Nat → Int32) (d140_mo_follower : Nat → Int32) (d140_mo_ahead : Nat → Int32) : Nat → Int64 → Int32 → Option (Int64)
  | 0, _, _ => none
  | n + 1, a140_1, a140_3 =>
    fMo_digest_L140 d140_mo_all d140_mo_linkE d140_mo_linkF d140_mo_follower d140_mo_ahead n a140_1 a140_3
def fMo_digest (mo_all : Nat → Int32) (mo_states : Int32) (mo_refused : Nat → Int32) (mo_causeKind : Int32) (mo_causeOrder : Int32) (mo_corner : Nat → Int32) (mo_linkVotes : Nat → Int32) (mo_linkE : Nat → Int32) (mo_linkF : Nat → Int32) (mo_follower : Nat → Int32) (mo_ahead : Nat → Int32) (mo_textLong : Int32) : Option (Int64 × (Nat → Int32) × (Nat → Int32) × (Nat → Int32) × (Nat → Int32) × (Nat → Int32) × (Nat → Int32)) :=
  (fMo_digest_L6 mo_all mo_states mo_refused mo_textLong FU (2269 : Int64) (0 : Int32)).bind fun u1 =>
  (some (((31 : Int64) * (((31 : Int64) * u1) + mo_causeKind.toInt64)) + mo_causeOrder.toInt64)).bind fun (t2 : Int64) =>
  (fMo_laysChain mo_all mo_corner mo_linkVotes mo_linkE mo_linkF mo_follower mo_ahead).bind fun u3 =>
  (fMo_digest_L59 mo_all u3.1 u3.2.2.2.2.1 FU t2 (0 : Int32)).bind fun u4 =>
  (fMo_digest_L140 mo_all u3.2.2.1 u3.2.2.2.1 u3.2.2.2.2.1 u3.2.2.2.2.2 FU u4 (0 : Int32)).bind fun u5 =>
  some (u5, u3.1, u3.2.1, u3.2.2.1, u3.2.2.2.1, u3.2.2.2.2.1, u3.2.2.2.2.2)
abbrev rmMo_in : Room := { frames := 0, cells := 0, slots := 0, locals := 0 }
theorem wd_yX8_in : wdS yX8_in cX8_in 6 (some .boolean) 3 := ⟨wc_yX8_in, wst_yX8_in, wini_X8, by decide +kernel, by decide +kernel, by decide +kernel⟩
set_option maxHeartbeats 4000000 in
set_option maxRecDepth 100000 in
theorem kMo_in (l : Launch) (G : wG) (p0 : Int64) (p2 : Int64) (p4 : Int64) (o : Int32) (hf : fMo_in p0 p2 p4 = some o) : Ct G l yX8_in cX8_in 6 (some .boolean) rmMo_in [.long p0, .long p2, .long p4] [] (some (.int o)) [] := by
  refine Ct.ofZ (by decide +kernel) (Nat.le_of_ble_eq_true rfl) (fun p e s m args below meth c A Q E hret => ?_)
  unfold fMo_in at hf
  show V G p l e rmMo_in s m args below meth c 6 A Q 0 0 [] 0 [(0, .long p0), (2, .long p2), (4, .long p4)] []
  refine V_lload_n E 0 rfl dX8_in_0 ?_
  refine V_lload_n E 1 rfl dX8_in_1 ?_
  refine V_lcmp E dX8_in_2 ?_
  refine V_if_lt E (tgt := 17) dX8_in_3 (by decide) (fun hc1 => ?_) (fun hc1 => ?_)
  · have hf := ip hc1 hf
    refine V_iconst E (v := (0 : Int32)) dX8_in_17 (by decide) ?_
    have h9 := hret 18 [(0, .long p0), (2, .long p2), (4, .long p4)] dX8_in_18
    rw [← (Option.some.inj hf)] at h9
    exact h9 (z01a (Or.inl rfl))
  · have hf := iq hc1 hf
    refine V_lload_n E 0 rfl dX8_in_6 ?_
    refine V_lload E 2 rfl dX8_in_7 ?_
    refine V_lcmp E dX8_in_9 ?_
    refine V_if_gt E (tgt := 17) dX8_in_10 (by decide) (fun hc2 => ?_) (fun hc2 => ?_)
    · have hf := ip hc2 hf
      refine V_iconst E (v := (0 : Int32)) dX8_in_17 (by decide) ?_
      have h9 := hret 18 [(0, .long p0), (2, .long p2), (4, .long p4)] dX8_in_18
      rw [← (Option.some.inj hf)] at h9
      exact h9 (z01a (Or.inl rfl))
    · have hf := iq hc2 hf
      refine V_iconst E (v := (1 : Int32)) dX8_in_13 (by decide) ?_
      refine V_goto E (tgt := 18) dX8_in_14 (by decide) ?_
      have h9 := hret 18 [(0, .long p0), (2, .long p2), (4, .long p4)] dX8_in_18
      rw [← (Option.some.inj hf)] at h9
      exact h9 (z01a (Or.inr rfl))
abbrev rmMo_refuses : Room := { frames := 0, cells := 0, slots := 0, locals := 0 }
theorem wd_yX8_refuses : wdV yX8_refuses cX8_refuses 2 (some .int) 1 := ⟨wc_yX8_refuses, wi_yX8_refuses, wse_yX8_refuses, wini_X8, by decide +kernel, by decide +kernel, by decide +kernel⟩
set_option maxHeartbeats 4000000 in
set_option maxRecDepth 100000 in
theorem kMo_refuses (l : Launch) (G : wG) (qMo : Nat → Nat) (p1 : Int32) (mo_all : Nat → Int32) (mo_past : Nat → Int32) (mo_aside : Nat → Int32) (mo_states : Int32) (mo_refused : Nat → Int32) (mo_causeKind : Int32) (mo_causeOrder : Int32) (mo_corner : Nat → Int32) (mo_linkVotes : Nat → Int32) (mo_linkE : Nat → Int32) (mo_linkF : Nat → Int32) (mo_follower : Nat → Int32) (mo_ahead : Nat → Int32) (mo_least : Nat → Int32) (mo_seam : Nat → Int32) (mo_above : Int64) (mo_below : Int64) (mo_text : Nat → Int32) (mo_textLong : Int32) (mo_place : Int32) (mo_value : Int32) (mo_numbers : Nat → Int32) (mo_not : Int32) (o : Int32 × (Nat → Int32)) (hf : fMo_refuses p1 mo_refused = some o) : Ct G l yX8_refuses cX8_refuses 2 (some .int) rmMo_refuses [.ref (qMo 0), .int p1] (gMo G qMo mo_all mo_past mo_aside mo_states mo_refused mo_causeKind mo_causeOrder mo_corner mo_linkVotes mo_linkE mo_linkF mo_follower mo_ahead mo_least mo_seam mo_above mo_below mo_text mo_textLong mo_place mo_value mo_numbers mo_not) (some (.int o.1)) (gMo G qMo mo_all mo_past mo_aside mo_states o.2 mo_causeKind mo_causeOrder mo_corner mo_linkVotes mo_linkE mo_linkF mo_follower mo_ahead mo_least mo_seam mo_above mo_below mo_text mo_textLong mo_place mo_value mo_numbers mo_not) := by
  refine Ct.ofI (by decide +kernel) (Nat.le_of_ble_eq_true rfl) (fun p e s m args below meth c A Q E hret => ?_)
  unfold fMo_refuses at hf
  show V G p l e rmMo_refuses s m args below meth c 2 A Q 0 0 (gMo G qMo mo_all mo_past mo_aside mo_states mo_refused mo_causeKind mo_causeOrder mo_corner mo_linkVotes mo_linkE mo_linkF mo_follower mo_ahead mo_least mo_seam mo_above mo_below mo_text mo_textLong mo_place mo_value mo_numbers mo_not) 0 [(0, .ref (qMo 0)), (1, .int p1)] []
  refine V_aload_n E 0 rfl dX8_refuses_0 ?_
  refine gfX8_19 E 0 rfl rfl dX8_refuses_1 ?_
  refine V_bipush E (v := (-2 : Int32)) dX8_refuses_4 (by decide) ?_
  refine V_iload_n E 1 rfl dX8_refuses_6 ?_
  refine V_isub E dX8_refuses_7 ?_
  refine V_dup2 E dX8_refuses_8 rfl rfl ?_
  obtain ⟨hi1, hf⟩ := asr_ok hf
  refine V_iald E 4 rfl hi1 dX8_refuses_9 ?_
  refine V_iconst E (v := (1 : Int32)) dX8_refuses_10 (by decide) ?_
  refine V_iadd E dX8_refuses_11 ?_
  obtain ⟨hi2, hf⟩ := asr_ok hf
  refine V_iast E (ws' := (gMo G qMo mo_all mo_past mo_aside mo_states (upd mo_refused ((-2 : Int32) - p1).toNatClampNeg ((mo_refused ((-2 : Int32) - p1).toNatClampNeg) + (1 : Int32))) mo_causeKind mo_causeOrder mo_corner mo_linkVotes mo_linkE mo_linkF mo_follower mo_ahead mo_least mo_seam mo_above mo_below mo_text mo_textLong mo_place mo_value mo_numbers mo_not)) 4 rfl hi2 dX8_refuses_12 rfl ?_
  refine V_iload_n E 1 rfl dX8_refuses_13 ?_
  have h9 := hret 14 [(0, .ref (qMo 0)), (1, .int p1)] dX8_refuses_14
  rw [← (Option.some.inj hf)] at h9
  exact h9
abbrev rmMo_keep : Room := { frames := 0, cells := 0, slots := 0, locals := 0 }
theorem wd_yX8_keep : wdV yX8_keep cX8_keep 2 none 0 := ⟨wc_yX8_keep, wi_yX8_keep, wse_yX8_keep, wini_X8, by decide +kernel, by decide +kernel, by decide +kernel⟩
set_option maxHeartbeats 4000000 in
set_option maxRecDepth 100000 in
theorem kMo_keep (l : Launch) (G : wG) (qMo : Nat → Nat) (mo_all : Nat → Int32) (mo_past : Nat → Int32) (mo_aside : Nat → Int32) (mo_states : Int32) (mo_refused : Nat → Int32) (mo_causeKind : Int32) (mo_causeOrder : Int32) (mo_corner : Nat → Int32) (mo_linkVotes : Nat → Int32) (mo_linkE : Nat → Int32) (mo_linkF : Nat → Int32) (mo_follower : Nat → Int32) (mo_ahead : Nat → Int32) (mo_least : Nat → Int32) (mo_seam : Nat → Int32) (mo_above : Int64) (mo_below : Int64) (mo_text : Nat → Int32) (mo_textLong : Int32) (mo_place : Int32) (mo_value : Int32) (mo_numbers : Nat → Int32) (mo_not : Int32) (o : (Nat → Int32) × Int32) (hf : fMo_keep mo_all mo_past mo_states = some o) : Ct G l yX8_keep cX8_keep 2 none rmMo_keep [.ref (qMo 0)] (gMo G qMo mo_all mo_past mo_aside mo_states mo_refused mo_causeKind mo_causeOrder mo_corner mo_linkVotes mo_linkE mo_linkF mo_follower mo_ahead mo_least mo_seam mo_above mo_below mo_text mo_textLong mo_place mo_value mo_numbers mo_not) none (gMo G qMo mo_all o.1 mo_aside o.2 mo_refused mo_causeKind mo_causeOrder mo_corner mo_linkVotes mo_linkE mo_linkF mo_follower mo_ahead mo_least mo_seam mo_above mo_below mo_text mo_textLong mo_place mo_value mo_numbers mo_not) := by
  refine Ct.ofV (by decide +kernel) (Nat.le_of_ble_eq_true rfl) (fun p e s m args below meth c A Q E hret => ?_)
  unfold fMo_keep at hf
  show V G p l e rmMo_keep s m args below meth c 2 A Q 0 0 (gMo G qMo mo_all mo_past mo_aside mo_states mo_refused mo_causeKind mo_causeOrder mo_corner mo_linkVotes mo_linkE mo_linkF mo_follower mo_ahead mo_least mo_seam mo_above mo_below mo_text mo_textLong mo_place mo_value mo_numbers mo_not) 0 [(0, .ref (qMo 0))] []
  refine V_aload_n E 0 rfl dX8_keep_0 ?_
  refine gfX8_56 E 0 rfl rfl dX8_keep_1 ?_
  refine V_iconst E (v := (5 : Int32)) dX8_keep_4 (by decide) ?_
  obtain ⟨u2, hu2, hf⟩ := bd hf
  have J49 : V G p l e rmMo_keep s m args below meth c 2 A Q 0 0 (gMo G qMo mo_all u2.1 mo_aside u2.2 mo_refused mo_causeKind mo_causeOrder mo_corner mo_linkVotes mo_linkE mo_linkF mo_follower mo_ahead mo_least mo_seam mo_above mo_below mo_text mo_textLong mo_place mo_value mo_numbers mo_not) 49 [(0, .ref (qMo 0))] [] := by
    refine V_iconst E (v := (0 : Int32)) dX8_keep_49 (by decide) ?_
    refine V_istore_n E (lv' := [(0, .ref (qMo 0)), (1, .int (0 : Int32))]) dX8_keep_50 (by decide) rfl ?_
    have L51 : ∀ (n : Nat) (a51_1 : Int32) (c51_mo_past : Nat → Int32) (u : (Nat → Int32)), fMo_keep_L51 mo_all u2.2 n a51_1 c51_mo_past = some u → (V G p l e rmMo_keep s m args below meth c 2 A Q 0 0 (gMo G qMo mo_all u mo_aside u2.2 mo_refused mo_causeKind mo_causeOrder mo_corner mo_linkVotes mo_linkE mo_linkF mo_follower mo_ahead mo_least mo_seam mo_above mo_below mo_text mo_textLong mo_place mo_value mo_numbers mo_not) 85 [(0, .ref (qMo 0))] []) → V G p l e rmMo_keep s m args below meth c 2 A Q 0 0 (gMo G qMo mo_all c51_mo_past mo_aside u2.2 mo_refused mo_causeKind mo_causeOrder mo_corner mo_linkVotes mo_linkE mo_linkF mo_follower mo_ahead mo_least mo_seam mo_above mo_below mo_text mo_textLong mo_place mo_value mo_numbers mo_not) 51 [(0, .ref (qMo 0)), (1, .int a51_1)] [] := by
      intro n
      induction n with
      | zero =>
        intro a51_1 c51_mo_past u hf hk
        rw [fMo_keep_L51] at hf
        cases hf
      | succ n ih =>
        intro a51_1 c51_mo_past u hf hk
        rw [fMo_keep_L51] at hf
        exact ih a51_1 c51_mo_past _ hf hk
    obtain ⟨u4, hu4, hf⟩ := bd hf
    refine L51 FU (0 : Int32) u2.1 u4 hu4 ?_
    refine V_aload_n E 0 rfl dX8_keep_85 ?_
    refine V_dup E dX8_keep_86 rfl ?_
    refine gfX8_56 E 0 rfl rfl dX8_keep_87 ?_
    refine V_iconst E (v := (1 : Int32)) dX8_keep_90 (by decide) ?_
    refine V_iadd E dX8_keep_91 ?_
    refine pfX8_56 E (ws' := (gMo G qMo mo_all u4 mo_aside (u2.2 + (1 : Int32)) mo_refused mo_causeKind mo_causeOrder mo_corner mo_linkVotes mo_linkE mo_linkF mo_follower mo_ahead mo_least mo_seam mo_above mo_below mo_text mo_textLong mo_place mo_value mo_numbers mo_not)) 0 rfl (Nat.le_of_ble_eq_true rfl) rfl rfl dX8_keep_92 rfl ?_
    have h9 := hret 95 [(0, .ref (qMo 0))] dX8_keep_95
    rw [← (Option.some.inj hf)] at h9
    exact h9
  clear hf
  have hf := hu2
  refine V_icmp_ne E (tgt := 49) dX8_keep_5 (by decide) (fun hc1 => ?_) (fun hc1 => ?_)
  · have hf := iq hc1 hf
    rw [← Option.some.inj hf] at J49
    exact J49
  · have hf := ip hc1 hf
    refine V_iconst E (v := (0 : Int32)) dX8_keep_8 (by decide) ?_
    refine V_istore_n E (lv' := [(0, .ref (qMo 0)), (1, .int (0 : Int32))]) dX8_keep_9 (by decide) rfl ?_
    have L10 : ∀ (n : Nat) (a10_1 : Int32) (c10_mo_past : Nat → Int32) (u : (Nat → Int32)), fMo_keep_L10 n a10_1 c10_mo_past = some u → (V G p l e rmMo_keep s m args below meth c 2 A Q 0 0 (gMo G qMo mo_all u mo_aside mo_states mo_refused mo_causeKind mo_causeOrder mo_corner mo_linkVotes mo_linkE mo_linkF mo_follower mo_ahead mo_least mo_seam mo_above mo_below mo_text mo_textLong mo_place mo_value mo_numbers mo_not) 39 [(0, .ref (qMo 0))] []) → V G p l e rmMo_keep s m args below meth c 2 A Q 0 0 (gMo G qMo mo_all c10_mo_past mo_aside mo_states mo_refused mo_causeKind mo_causeOrder mo_corner mo_linkVotes mo_linkE mo_linkF mo_follower mo_ahead mo_least mo_seam mo_above mo_below mo_text mo_textLong mo_place mo_value mo_numbers mo_not) 10 [(0, .ref (qMo 0)), (1, .int a10_1)] [] := by
      intro n
      induction n with
      | zero =>
        intro a10_1 c10_mo_past u hf hk
        rw [fMo_keep_L10] at hf
        cases hf
      | succ n ih =>
        intro a10_1 c10_mo_past u hf hk
        rw [fMo_keep_L10] at hf
        exact ih a10_1 c10_mo_past _ hf hk
    obtain ⟨u3, hu3, hf⟩ := bd hf
    refine L10 FU (0 : Int32) mo_past u3 hu3 ?_
    refine V_aload_n E 0 rfl dX8_keep_39 ?_
    refine V_dup E dX8_keep_40 rfl ?_
    refine gfX8_56 E 0 rfl rfl dX8_keep_41 ?_
    refine V_iconst E (v := (1 : Int32)) dX8_keep_44 (by decide) ?_
    refine V_isub E dX8_keep_45 ?_
    refine pfX8_56 E (ws' := (gMo G qMo mo_all u3 mo_aside (mo_states - (1 : Int32)) mo_refused mo_causeKind mo_causeOrder mo_corner mo_linkVotes mo_linkE mo_linkF mo_follower mo_ahead mo_least mo_seam mo_above mo_below mo_text mo_textLong mo_place mo_value mo_numbers mo_not)) 0 rfl (Nat.le_of_ble_eq_true rfl) rfl rfl dX8_keep_46 rfl ?_
    rw [← Option.some.inj hf] at J49
    exact J49
abbrev rmMo_abs : Room := { frames := 0, cells := 0, slots := 0, locals := 0 }
theorem wd_yX8_abs : wdS yX8_abs cX8_abs 1 (some .int) 1 := ⟨wc_yX8_abs, wst_yX8_abs, wini_X8, by decide +kernel, by decide +kernel, by decide +kernel⟩
set_option maxHeartbeats 4000000 in
set_option maxRecDepth 100000 in
theorem kMo_abs (l : Launch) (G : wG) (p0 : Int32) (o : Int32) (hf : fMo_abs p0 = some o) : Ct G l yX8_abs cX8_abs 1 (some .int) rmMo_abs [.int p0] [] (some (.int o)) [] := by
  refine Ct.ofI (by decide +kernel) (Nat.le_of_ble_eq_true rfl) (fun p e s m args below meth c A Q E hret => ?_)
  unfold fMo_abs at hf
  show V G p l e rmMo_abs s m args below meth c 1 A Q 0 0 [] 0 [(0, .int p0)] []
  refine V_iload_n E 0 rfl dX8_abs_0 ?_
  refine V_if_ge E (tgt := 9) dX8_abs_1 (by decide) (fun hc1 => ?_) (fun hc1 => ?_)
  · have hf := ip hc1 hf
    refine V_iload_n E 0 rfl dX8_abs_9 ?_
    have h9 := hret 10 [(0, .int p0)] dX8_abs_10
    rw [← (Option.some.inj hf)] at h9
    exact h9
  · have hf := iq hc1 hf
    refine V_iload_n E 0 rfl dX8_abs_4 ?_
    refine V_ineg E dX8_abs_5 ?_
    refine V_goto E (tgt := 10) dX8_abs_6 (by decide) ?_
    have h9 := hret 10 [(0, .int p0)] dX8_abs_10
    rw [← (Option.some.inj hf)] at h9
    exact h9
abbrev rmMo_held : Room := { frames := 0, cells := 0, slots := 0, locals := 0 }
theorem wd_yX8_held : wdS yX8_held cX8_held 1 (some .int) 1 := ⟨wc_yX8_held, wst_yX8_held, wini_X8, by decide +kernel, by decide +kernel, by decide +kernel⟩
set_option maxHeartbeats 4000000 in
set_option maxRecDepth 100000 in
theorem kMo_held (l : Launch) (G : wG) (p0 : Int32) (o : Int32) (hf : fMo_held p0 = some o) : Ct G l yX8_held cX8_held 1 (some .int) rmMo_held [.int p0] [] (some (.int o)) [] := by
  refine Ct.ofI (by decide +kernel) (Nat.le_of_ble_eq_true rfl) (fun p e s m args below meth c A Q E hret => ?_)
  unfold fMo_held at hf
  show V G p l e rmMo_held s m args below meth c 1 A Q 0 0 [] 0 [(0, .int p0)] []
  refine V_iload_n E 0 rfl dX8_held_0 ?_
  refine V_if_ge E (tgt := 8) dX8_held_1 (by decide) (fun hc1 => ?_) (fun hc1 => ?_)
  · have hf := ip hc1 hf
    refine V_iload_n E 0 rfl dX8_held_8 ?_
    refine V_bipush E (v := (63 : Int32)) dX8_held_9 (by decide) ?_
    refine V_icmp_le E (tgt := 19) dX8_held_11 (by decide) (fun hc2 => ?_) (fun hc2 => ?_)
    · have hf := ip hc2 hf
      refine V_iload_n E 0 rfl dX8_held_19 ?_
      have h9 := hret 20 [(0, .int p0)] dX8_held_20
      rw [← (Option.some.inj hf)] at h9
      exact h9
    · have hf := iq hc2 hf
      refine V_bipush E (v := (63 : Int32)) dX8_held_14 (by decide) ?_
      refine V_goto E (tgt := 20) dX8_held_16 (by decide) ?_
      have h9 := hret 20 [(0, .int p0)] dX8_held_20
      rw [← (Option.some.inj hf)] at h9
      exact h9
  · have hf := iq hc1 hf
    refine V_iconst E (v := (0 : Int32)) dX8_held_4 (by decide) ?_
    refine V_goto E (tgt := 20) dX8_held_5 (by decide) ?_
    have h9 := hret 20 [(0, .int p0)] dX8_held_20
    rw [← (Option.some.inj hf)] at h9
    exact h9
abbrev rmMo_many : Room := { frames := 0, cells := 0, slots := 0, locals := 0 }
theorem wd_yX8_many : wdV yX8_many cX8_many 1 (some .int) 0 := ⟨wc_yX8_many, wi_yX8_many, wse_yX8_many, wini_X8, by decide +kernel, by decide +kernel, by decide +kernel⟩
set_option maxHeartbeats 4000000 in
set_option maxRecDepth 100000 in
theorem kMo_many (l : Launch) (G : wG) (qMo : Nat → Nat) (mo_all : Nat → Int32) (mo_past : Nat → Int32) (mo_aside : Nat → Int32) (mo_states : Int32) (mo_refused : Nat → Int32) (mo_causeKind : Int32) (mo_causeOrder : Int32) (mo_corner : Nat → Int32) (mo_linkVotes : Nat → Int32) (mo_linkE : Nat → Int32) (mo_linkF : Nat → Int32) (mo_follower : Nat → Int32) (mo_ahead : Nat → Int32) (mo_least : Nat → Int32) (mo_seam : Nat → Int32) (mo_above : Int64) (mo_below : Int64) (mo_text : Nat → Int32) (mo_textLong : Int32) (mo_place : Int32) (mo_value : Int32) (mo_numbers : Nat → Int32) (mo_not : Int32) (o : Int32) (hf : fMo_many mo_all = some o) : Ct G l yX8_many cX8_many 1 (some .int) rmMo_many [.ref (qMo 0)] (gMo G qMo mo_all mo_past mo_aside mo_states mo_refused mo_causeKind mo_causeOrder mo_corner mo_linkVotes mo_linkE mo_linkF mo_follower mo_ahead mo_least mo_seam mo_above mo_below mo_text mo_textLong mo_place mo_value mo_numbers mo_not) (some (.int o)) (gMo G qMo mo_all mo_past mo_aside mo_states mo_refused mo_causeKind mo_causeOrder mo_corner mo_linkVotes mo_linkE mo_linkF mo_follower mo_ahead mo_least mo_seam mo_above mo_below mo_text mo_textLong mo_place mo_value mo_numbers mo_not) := by
  refine Ct.ofI (by decide +kernel) (Nat.le_of_ble_eq_true rfl) (fun p e s m args below meth c A Q E hret => ?_)
  unfold fMo_many at hf
  show V G p l e rmMo_many s m args below meth c 1 A Q 0 0 (gMo G qMo mo_all mo_past mo_aside mo_states mo_refused mo_causeKind mo_causeOrder mo_corner mo_linkVotes mo_linkE mo_linkF mo_follower mo_ahead mo_least mo_seam mo_above mo_below mo_text mo_textLong mo_place mo_value mo_numbers mo_not) 0 [(0, .ref (qMo 0))] []
  refine V_aload_n E 0 rfl dX8_many_0 ?_
  refine gfX8_7 E 0 rfl rfl dX8_many_1 ?_
  refine V_iconst E (v := (3 : Int32)) dX8_many_4 (by decide) ?_
  obtain ⟨hi1, hf⟩ := asr_ok hf
  refine V_iald E 1 rfl hi1 dX8_many_5 ?_
  have h9 := hret 6 [(0, .ref (qMo 0))] dX8_many_6
  rw [← (Option.some.inj hf)] at h9
  exact h9
abbrev rmMo_isPicture : Room := { frames := 1, cells := 0, slots := 0, locals := 25 }
theorem wd_yX8_isPicture : wdV yX8_isPicture cX8_isPicture 2 (some .boolean) 1 := ⟨wc_yX8_isPicture, wi_yX8_isPicture, wse_yX8_isPicture, wini_X8, by decide +kernel, by decide +kernel, by decide +kernel⟩
set_option maxHeartbeats 4000000 in
set_option maxRecDepth 100000 in
theorem kMo_isPicture (l : Launch) (G : wG) (qMo : Nat → Nat) (p1 : Int32) (mo_all : Nat → Int32) (mo_past : Nat → Int32) (mo_aside : Nat → Int32) (mo_states : Int32) (mo_refused : Nat → Int32) (mo_causeKind : Int32) (mo_causeOrder : Int32) (mo_corner : Nat → Int32) (mo_linkVotes : Nat → Int32) (mo_linkE : Nat → Int32) (mo_linkF : Nat → Int32) (mo_follower : Nat → Int32) (mo_ahead : Nat → Int32) (mo_least : Nat → Int32) (mo_seam : Nat → Int32) (mo_above : Int64) (mo_below : Int64) (mo_text : Nat → Int32) (mo_textLong : Int32) (mo_place : Int32) (mo_value : Int32) (mo_numbers : Nat → Int32) (mo_not : Int32) (o : Int32) (hf : fMo_isPicture p1 mo_all = some o) : Ct G l yX8_isPicture cX8_isPicture 2 (some .boolean) rmMo_isPicture [.ref (qMo 0), .int p1] (gMo G qMo mo_all mo_past mo_aside mo_states mo_refused mo_causeKind mo_causeOrder mo_corner mo_linkVotes mo_linkE mo_linkF mo_follower mo_ahead mo_least mo_seam mo_above mo_below mo_text mo_textLong mo_place mo_value mo_numbers mo_not) (some (.int o)) (gMo G qMo mo_all mo_past mo_aside mo_states mo_refused mo_causeKind mo_causeOrder mo_corner mo_linkVotes mo_linkE mo_linkF mo_follower mo_ahead mo_least mo_seam mo_above mo_below mo_text mo_textLong mo_place mo_value mo_numbers mo_not) := by
  refine Ct.ofZ (by decide +kernel) (Nat.le_of_ble_eq_true rfl) (fun p e s m args below meth c A Q E hret => ?_)
  unfold fMo_isPicture at hf
  show V G p l e rmMo_isPicture s m args below meth c 2 A Q 0 0 (gMo G qMo mo_all mo_past mo_aside mo_states mo_refused mo_causeKind mo_causeOrder mo_corner mo_linkVotes mo_linkE mo_linkF mo_follower mo_ahead mo_least mo_seam mo_above mo_below mo_text mo_textLong mo_place mo_value mo_numbers mo_not) 0 [(0, .ref (qMo 0)), (1, .int p1)] []
  refine V_iload_n E 1 rfl dX8_isPicture_0 ?_
  refine V_i2l E dX8_isPicture_1 ?_
  refine V_lconst E (v := (0 : Int64)) dX8_isPicture_2 (by decide) ?_
  refine V_aload_n E 0 rfl dX8_isPicture_3 ?_
  obtain ⟨u1, hu1, hf⟩ := bd hf
  refine V_frW E (Rn_V E (rest := [.long (0 : Int64), .long p1.toInt64]) mlX8_59 wd_yX8_many (kMo_many l G qMo mo_all mo_past mo_aside mo_states mo_refused mo_causeKind mo_causeOrder mo_corner mo_linkVotes mo_linkE mo_linkF mo_follower mo_ahead mo_least mo_seam mo_above mo_below mo_text mo_textLong mo_place mo_value mo_numbers mo_not u1 hu1) ⟨rfl, rfl, Nat.le_of_ble_eq_true rfl, Nat.le_of_ble_eq_true rfl⟩ 0 rfl rfl rfl rfl rfl (Nat.le_of_ble_eq_true rfl) dX8_isPicture_4) ?_
  show V G p l e rmMo_isPicture s m args below meth c 2 A Q 0 0 (gMo G qMo mo_all mo_past mo_aside mo_states mo_refused mo_causeKind mo_causeOrder mo_corner mo_linkVotes mo_linkE mo_linkF mo_follower mo_ahead mo_least mo_seam mo_above mo_below mo_text mo_textLong mo_place mo_value mo_numbers mo_not) 7 [(0, .ref (qMo 0)), (1, .int p1)] [.int u1, .long (0 : Int64), .long p1.toInt64]
  refine V_iconst E (v := (1 : Int32)) dX8_isPicture_7 (by decide) ?_
  refine V_isub E dX8_isPicture_8 ?_
  refine V_i2l E dX8_isPicture_9 ?_
  obtain ⟨u2, hu2, hf⟩ := bd hf
  refine V_fr0 E (Rn_S E (rest := []) mlX8_63 wd_yX8_in (kMo_in l G p1.toInt64 (0 : Int64) ((u1 - (1 : Int32)).toInt64) u2 hu2) ⟨rfl, rfl, Nat.le_of_ble_eq_true rfl, Nat.le_of_ble_eq_true rfl⟩ rfl rfl (Nat.le_of_ble_eq_true rfl) dX8_isPicture_10) ?_
  show V G p l e rmMo_isPicture s m args below meth c 2 A Q 0 0 (gMo G qMo mo_all mo_past mo_aside mo_states mo_refused mo_causeKind mo_causeOrder mo_corner mo_linkVotes mo_linkE mo_linkF mo_follower mo_ahead mo_least mo_seam mo_above mo_below mo_text mo_textLong mo_place mo_value mo_numbers mo_not) 13 [(0, .ref (qMo 0)), (1, .int p1)] [.int u2]
  obtain ⟨hz, hf⟩ := asr_ok hf
  have h9 := hret 13 [(0, .ref (qMo 0)), (1, .int p1)] dX8_isPicture_13
  rw [← (Option.some.inj hf)] at h9
  exact h9 (z01a hz)
abbrev rmMo_isCell : Room := { frames := 1, cells := 0, slots := 0, locals := 25 }
theorem wd_yX8_isCell : wdS yX8_isCell cX8_isCell 2 (some .boolean) 2 := ⟨wc_yX8_isCell, wst_yX8_isCell, wini_X8, by decide +kernel, by decide +kernel, by decide +kernel⟩
set_option maxHeartbeats 4000000 in
set_option maxRecDepth 100000 in
theorem kMo_isCell (l : Launch) (G : wG) (p0 : Int32) (p1 : Int32) (o : Int32) (hf : fMo_isCell p0 p1 = some o) : Ct G l yX8_isCell cX8_isCell 2 (some .boolean) rmMo_isCell [.int p0, .int p1] [] (some (.int o)) [] := by
  refine Ct.ofZ (by decide +kernel) (Nat.le_of_ble_eq_true rfl) (fun p e s m args below meth c A Q E hret => ?_)
  unfold fMo_isCell at hf
  show V G p l e rmMo_isCell s m args below meth c 2 A Q 0 0 [] 0 [(0, .int p0), (1, .int p1)] []
  refine V_iload_n E 0 rfl dX8_isCell_0 ?_
  refine V_i2l E dX8_isCell_1 ?_
  refine V_lconst E (v := (0 : Int64)) dX8_isCell_2 (by decide) ?_
  refine V_ldc2 E (v := (3 : Int64)) dX8_isCell_3 kX8_67 ?_
  obtain ⟨u1, hu1, hf⟩ := bd hf
  refine V_fr0 E (Rn_S E (rest := []) mlX8_63 wd_yX8_in (kMo_in l G p0.toInt64 (0 : Int64) (3 : Int64) u1 hu1) ⟨rfl, rfl, Nat.le_of_ble_eq_true rfl, Nat.le_of_ble_eq_true rfl⟩ rfl rfl (Nat.le_of_ble_eq_true rfl) dX8_isCell_6) ?_
  show V G p l e rmMo_isCell s m args below meth c 2 A Q 0 0 [] 9 [(0, .int p0), (1, .int p1)] [.int u1]
  refine V_if_eq E (tgt := 28) dX8_isCell_9 (by decide) (fun hc2 => ?_) (fun hc2 => ?_)
  · have hf := ip hc2 hf
    refine V_iconst E (v := (0 : Int32)) dX8_isCell_28 (by decide) ?_
    have h9 := hret 29 [(0, .int p0), (1, .int p1)] dX8_isCell_29
    rw [← (Option.some.inj hf)] at h9
    exact h9 (z01a (Or.inl rfl))
  · have hf := iq hc2 hf
    refine V_iload_n E 1 rfl dX8_isCell_12 ?_
    refine V_i2l E dX8_isCell_13 ?_
    refine V_lconst E (v := (0 : Int64)) dX8_isCell_14 (by decide) ?_
    refine V_ldc2 E (v := (7 : Int64)) dX8_isCell_15 kX8_69 ?_
    obtain ⟨u3, hu3, hf⟩ := bd hf
    refine V_fr0 E (Rn_S E (rest := []) mlX8_63 wd_yX8_in (kMo_in l G p1.toInt64 (0 : Int64) (7 : Int64) u3 hu3) ⟨rfl, rfl, Nat.le_of_ble_eq_true rfl, Nat.le_of_ble_eq_true rfl⟩ rfl rfl (Nat.le_of_ble_eq_true rfl) dX8_isCell_18) ?_
    show V G p l e rmMo_isCell s m args below meth c 2 A Q 0 0 [] 21 [(0, .int p0), (1, .int p1)] [.int u3]
    refine V_if_eq E (tgt := 28) dX8_isCell_21 (by decide) (fun hc4 => ?_) (fun hc4 => ?_)
    · have hf := ip hc4 hf
      refine V_iconst E (v := (0 : Int32)) dX8_isCell_28 (by decide) ?_
      have h9 := hret 29 [(0, .int p0), (1, .int p1)] dX8_isCell_29
      rw [← (Option.some.inj hf)] at h9
      exact h9 (z01a (Or.inl rfl))
    · have hf := iq hc4 hf
      refine V_iconst E (v := (1 : Int32)) dX8_isCell_24 (by decide) ?_
      refine V_goto E (tgt := 29) dX8_isCell_25 (by decide) ?_
      have h9 := hret 29 [(0, .int p0), (1, .int p1)] dX8_isCell_29
      rw [← (Option.some.inj hf)] at h9
      exact h9 (z01a (Or.inr rfl))
abbrev rmMo_at : Room := { frames := 0, cells := 0, slots := 0, locals := 0 }
theorem wd_yX8_at : wdV yX8_at cX8_at 4 (some .int) 3 := ⟨wc_yX8_at, wi_yX8_at, wse_yX8_at, wini_X8, by decide +kernel, by decide +kernel, by decide +kernel⟩
set_option maxHeartbeats 4000000 in
set_option maxRecDepth 100000 in
theorem kMo_at (l : Launch) (G : wG) (qMo : Nat → Nat) (p1 : Int32) (p2 : Int32) (p3 : Int32) (mo_all : Nat → Int32) (mo_past : Nat → Int32) (mo_aside : Nat → Int32) (mo_states : Int32) (mo_refused : Nat → Int32) (mo_causeKind : Int32) (mo_causeOrder : Int32) (mo_corner : Nat → Int32) (mo_linkVotes : Nat → Int32) (mo_linkE : Nat → Int32) (mo_linkF : Nat → Int32) (mo_follower : Nat → Int32) (mo_ahead : Nat → Int32) (mo_least : Nat → Int32) (mo_seam : Nat → Int32) (mo_above : Int64) (mo_below : Int64) (mo_text : Nat → Int32) (mo_textLong : Int32) (mo_place : Int32) (mo_value : Int32) (mo_numbers : Nat → Int32) (mo_not : Int32) (o : Int32) (hf : fMo_at p1 p2 p3 mo_all = some o) : Ct G l yX8_at cX8_at 4 (some .int) rmMo_at [.ref (qMo 0), .int p1, .int p2, .int p3] (gMo G qMo mo_all mo_past mo_aside mo_states mo_refused mo_causeKind mo_causeOrder mo_corner mo_linkVotes mo_linkE mo_linkF mo_follower mo_ahead mo_least mo_seam mo_above mo_below mo_text mo_textLong mo_place mo_value mo_numbers mo_not) (some (.int o)) (gMo G qMo mo_all mo_past mo_aside mo_states mo_refused mo_causeKind mo_causeOrder mo_corner mo_linkVotes mo_linkE mo_linkF mo_follower mo_ahead mo_least mo_seam mo_above mo_below mo_text mo_textLong mo_place mo_value mo_numbers mo_not) := by
  refine Ct.ofI (by decide +kernel) (Nat.le_of_ble_eq_true rfl) (fun p e s m args below meth c A Q E hret => ?_)
  unfold fMo_at at hf
  show V G p l e rmMo_at s m args below meth c 4 A Q 0 0 (gMo G qMo mo_all mo_past mo_aside mo_states mo_refused mo_causeKind mo_causeOrder mo_corner mo_linkVotes mo_linkE mo_linkF mo_follower mo_ahead mo_least mo_seam mo_above mo_below mo_text mo_textLong mo_place mo_value mo_numbers mo_not) 0 [(0, .ref (qMo 0)), (1, .int p1), (2, .int p2), (3, .int p3)] []
  refine V_aload_n E 0 rfl dX8_at_0 ?_
  refine gfX8_7 E 0 rfl rfl dX8_at_1 ?_
  refine V_sipush E (v := (196 : Int32)) dX8_at_4 (by decide) ?_
  refine V_bipush E (v := (35 : Int32)) dX8_at_7 (by decide) ?_
  refine V_iload_n E 1 rfl dX8_at_9 ?_
  refine V_imul E dX8_at_10 ?_
  refine V_iadd E dX8_at_11 ?_
  refine V_bipush E (v := (8 : Int32)) dX8_at_12 (by decide) ?_
  refine V_iload_n E 2 rfl dX8_at_14 ?_
  refine V_imul E dX8_at_15 ?_
  refine V_iadd E dX8_at_16 ?_
  refine V_iload_n E 3 rfl dX8_at_17 ?_
  refine V_iadd E dX8_at_18 ?_
  obtain ⟨hi1, hf⟩ := asr_ok hf
  refine V_iald E 1 rfl hi1 dX8_at_19 ?_
  have h9 := hret 20 [(0, .ref (qMo 0)), (1, .int p1), (2, .int p2), (3, .int p3)] dX8_at_20
  rw [← (Option.some.inj hf)] at h9
  exact h9
abbrev rmMo_shotOf : Room := { frames := 0, cells := 0, slots := 0, locals := 0 }
theorem wd_yX8_shotOf : wdV yX8_shotOf cX8_shotOf 3 (some .int) 2 := ⟨wc_yX8_shotOf, wi_yX8_shotOf, wse_yX8_shotOf, wini_X8, by decide +kernel, by decide +kernel, by decide +kernel⟩
set_option maxHeartbeats 4000000 in
set_option maxRecDepth 100000 in
theorem kMo_shotOf (l : Launch) (G : wG) (qMo : Nat → Nat) (p1 : Int32) (p2 : Int32) (mo_all : Nat → Int32) (mo_past : Nat → Int32) (mo_aside : Nat → Int32) (mo_states : Int32) (mo_refused : Nat → Int32) (mo_causeKind : Int32) (mo_causeOrder : Int32) (mo_corner : Nat → Int32) (mo_linkVotes : Nat → Int32) (mo_linkE : Nat → Int32) (mo_linkF : Nat → Int32) (mo_follower : Nat → Int32) (mo_ahead : Nat → Int32) (mo_least : Nat → Int32) (mo_seam : Nat → Int32) (mo_above : Int64) (mo_below : Int64) (mo_text : Nat → Int32) (mo_textLong : Int32) (mo_place : Int32) (mo_value : Int32) (mo_numbers : Nat → Int32) (mo_not : Int32) (o : Int32) (hf : fMo_shotOf p1 p2 mo_all = some o) : Ct G l yX8_shotOf cX8_shotOf 3 (some .int) rmMo_shotOf [.ref (qMo 0), .int p1, .int p2] (gMo G qMo mo_all mo_past mo_aside mo_states mo_refused mo_causeKind mo_causeOrder mo_corner mo_linkVotes mo_linkE mo_linkF mo_follower mo_ahead mo_least mo_seam mo_above mo_below mo_text mo_textLong mo_place mo_value mo_numbers mo_not) (some (.int o)) (gMo G qMo mo_all mo_past mo_aside mo_states mo_refused mo_causeKind mo_causeOrder mo_corner mo_linkVotes mo_linkE mo_linkF mo_follower mo_ahead mo_least mo_seam mo_above mo_below mo_text mo_textLong mo_place mo_value mo_numbers mo_not) := by
  refine Ct.ofI (by decide +kernel) (Nat.le_of_ble_eq_true rfl) (fun p e s m args below meth c A Q E hret => ?_)
  unfold fMo_shotOf at hf
  show V G p l e rmMo_shotOf s m args below meth c 3 A Q 0 0 (gMo G qMo mo_all mo_past mo_aside mo_states mo_refused mo_causeKind mo_causeOrder mo_corner mo_linkVotes mo_linkE mo_linkF mo_follower mo_ahead mo_least mo_seam mo_above mo_below mo_text mo_textLong mo_place mo_value mo_numbers mo_not) 0 [(0, .ref (qMo 0)), (1, .int p1), (2, .int p2)] []
  refine V_aload_n E 0 rfl dX8_shotOf_0 ?_
  refine gfX8_7 E 0 rfl rfl dX8_shotOf_1 ?_
  refine V_sipush E (v := (196 : Int32)) dX8_shotOf_4 (by decide) ?_
  refine V_bipush E (v := (35 : Int32)) dX8_shotOf_7 (by decide) ?_
  refine V_iload_n E 1 rfl dX8_shotOf_9 ?_
  refine V_imul E dX8_shotOf_10 ?_
  refine V_iadd E dX8_shotOf_11 ?_
  refine V_bipush E (v := (32 : Int32)) dX8_shotOf_12 (by decide) ?_
  refine V_iadd E dX8_shotOf_14 ?_
  refine V_iload_n E 2 rfl dX8_shotOf_15 ?_
  refine V_iadd E dX8_shotOf_16 ?_
  obtain ⟨hi1, hf⟩ := asr_ok hf
  refine V_iald E 1 rfl hi1 dX8_shotOf_17 ?_
  have h9 := hret 18 [(0, .ref (qMo 0)), (1, .int p1), (2, .int p2)] dX8_shotOf_18
  rw [← (Option.some.inj hf)] at h9
  exact h9
abbrev rmMo_isWorld : Room := { frames := 1, cells := 0, slots := 0, locals := 25 }
theorem wd_yX8_isWorld : wdS yX8_isWorld cX8_isWorld 2 (some .boolean) 2 := ⟨wc_yX8_isWorld, wst_yX8_isWorld, wini_X8, by decide +kernel, by decide +kernel, by decide +kernel⟩
set_option maxHeartbeats 4000000 in
set_option maxRecDepth 100000 in
theorem kMo_isWorld (l : Launch) (G : wG) (p0 : Int32) (p1 : Int32) (o : Int32) (hf : fMo_isWorld p0 p1 = some o) : Ct G l yX8_isWorld cX8_isWorld 2 (some .boolean) rmMo_isWorld [.int p0, .int p1] [] (some (.int o)) [] := by
  refine Ct.ofZ (by decide +kernel) (Nat.le_of_ble_eq_true rfl) (fun p e s m args below meth c A Q E hret => ?_)
  unfold fMo_isWorld at hf
  show V G p l e rmMo_isWorld s m args below meth c 2 A Q 0 0 [] 0 [(0, .int p0), (1, .int p1)] []
  refine V_iload_n E 0 rfl dX8_isWorld_0 ?_
  refine V_i2l E dX8_isWorld_1 ?_
  refine V_lconst E (v := (0 : Int64)) dX8_isWorld_2 (by decide) ?_
  refine V_ldc2 E (v := (999999 : Int64)) dX8_isWorld_3 kX8_71 ?_
  obtain ⟨u1, hu1, hf⟩ := bd hf
  refine V_fr0 E (Rn_S E (rest := []) mlX8_63 wd_yX8_in (kMo_in l G p0.toInt64 (0 : Int64) (999999 : Int64) u1 hu1) ⟨rfl, rfl, Nat.le_of_ble_eq_true rfl, Nat.le_of_ble_eq_true rfl⟩ rfl rfl (Nat.le_of_ble_eq_true rfl) dX8_isWorld_6) ?_
  show V G p l e rmMo_isWorld s m args below meth c 2 A Q 0 0 [] 9 [(0, .int p0), (1, .int p1)] [.int u1]
  refine V_if_eq E (tgt := 30) dX8_isWorld_9 (by decide) (fun hc2 => ?_) (fun hc2 => ?_)
  · have hf := ip hc2 hf
    refine V_iconst E (v := (0 : Int32)) dX8_isWorld_30 (by decide) ?_
    have h9 := hret 31 [(0, .int p0), (1, .int p1)] dX8_isWorld_31
    rw [← (Option.some.inj hf)] at h9
    exact h9 (z01a (Or.inl rfl))
  · have hf := iq hc2 hf
    refine V_iload_n E 1 rfl dX8_isWorld_12 ?_
    refine V_i2l E dX8_isWorld_13 ?_
    refine V_ldc2 E (v := (12 : Int64)) dX8_isWorld_14 kX8_73 ?_
    refine V_ldc2 E (v := (32 : Int64)) dX8_isWorld_17 kX8_75 ?_
    obtain ⟨u3, hu3, hf⟩ := bd hf
    refine V_fr0 E (Rn_S E (rest := []) mlX8_63 wd_yX8_in (kMo_in l G p1.toInt64 (12 : Int64) (32 : Int64) u3 hu3) ⟨rfl, rfl, Nat.le_of_ble_eq_true rfl, Nat.le_of_ble_eq_true rfl⟩ rfl rfl (Nat.le_of_ble_eq_true rfl) dX8_isWorld_20) ?_
    show V G p l e rmMo_isWorld s m args below meth c 2 A Q 0 0 [] 23 [(0, .int p0), (1, .int p1)] [.int u3]
    refine V_if_eq E (tgt := 30) dX8_isWorld_23 (by decide) (fun hc4 => ?_) (fun hc4 => ?_)
    · have hf := ip hc4 hf
      refine V_iconst E (v := (0 : Int32)) dX8_isWorld_30 (by decide) ?_
      have h9 := hret 31 [(0, .int p0), (1, .int p1)] dX8_isWorld_31
      rw [← (Option.some.inj hf)] at h9
      exact h9 (z01a (Or.inl rfl))
    · have hf := iq hc4 hf
      refine V_iconst E (v := (1 : Int32)) dX8_isWorld_26 (by decide) ?_
      refine V_goto E (tgt := 31) dX8_isWorld_27 (by decide) ?_
      have h9 := hret 31 [(0, .int p0), (1, .int p1)] dX8_isWorld_31
      rw [← (Option.some.inj hf)] at h9
      exact h9 (z01a (Or.inr rfl))
abbrev rmMo_worldNow : Room := { frames := 0, cells := 0, slots := 0, locals := 0 }
theorem wd_yX8_worldNow : wdV yX8_worldNow cX8_worldNow 8 (some .int) 2 := ⟨wc_yX8_worldNow, wi_yX8_worldNow, wse_yX8_worldNow, wini_X8, by decide +kernel, by decide +kernel, by decide +kernel⟩
set_option maxHeartbeats 4000000 in
set_option maxRecDepth 100000 in
theorem kMo_worldNow (l : Launch) (G : wG) (qMo : Nat → Nat) (p1 : Int32) (p2 : Int32) (mo_all : Nat → Int32) (mo_past : Nat → Int32) (mo_aside : Nat → Int32) (mo_states : Int32) (mo_refused : Nat → Int32) (mo_causeKind : Int32) (mo_causeOrder : Int32) (mo_corner : Nat → Int32) (mo_linkVotes : Nat → Int32) (mo_linkE : Nat → Int32) (mo_linkF : Nat → Int32) (mo_follower : Nat → Int32) (mo_ahead : Nat → Int32) (mo_least : Nat → Int32) (mo_seam : Nat → Int32) (mo_above : Int64) (mo_below : Int64) (mo_text : Nat → Int32) (mo_textLong : Int32) (mo_place : Int32) (mo_value : Int32) (mo_numbers : Nat → Int32) (mo_not : Int32) (o : Int32 × (Nat → Int32)) (hf : fMo_worldNow p1 p2 mo_all = some o) : Ct G l yX8_worldNow cX8_worldNow 8 (some .int) rmMo_worldNow [.ref (qMo 0), .int p1, .int p2] (gMo G qMo mo_all mo_past mo_aside mo_states mo_refused mo_causeKind mo_causeOrder mo_corner mo_linkVotes mo_linkE mo_linkF mo_follower mo_ahead mo_least mo_seam mo_above mo_below mo_text mo_textLong mo_place mo_value mo_numbers mo_not) (some (.int o.1)) (gMo G qMo o.2 mo_past mo_aside mo_states mo_refused mo_causeKind mo_causeOrder mo_corner mo_linkVotes mo_linkE mo_linkF mo_follower mo_ahead mo_least mo_seam mo_above mo_below mo_text mo_textLong mo_place mo_value mo_numbers mo_not) := by
  refine Ct.ofI (by decide +kernel) (Nat.le_of_ble_eq_true rfl) (fun p e s m args below meth c A Q E hret => ?_)
  unfold fMo_worldNow at hf
  show V G p l e rmMo_worldNow s m args below meth c 8 A Q 0 0 (gMo G qMo mo_all mo_past mo_aside mo_states mo_refused mo_causeKind mo_causeOrder mo_corner mo_linkVotes mo_linkE mo_linkF mo_follower mo_ahead mo_least mo_seam mo_above mo_below mo_text mo_textLong mo_place mo_value mo_numbers mo_not) 0 [(0, .ref (qMo 0)), (1, .int p1), (2, .int p2)] []
  refine V_aload_n E 0 rfl dX8_worldNow_0 ?_
  refine gfX8_7 E 0 rfl rfl dX8_worldNow_1 ?_
  refine V_iconst E (v := (0 : Int32)) dX8_worldNow_4 (by decide) ?_
  obtain ⟨hi1, hf⟩ := asr_ok hf
  refine V_iald E 1 rfl hi1 dX8_worldNow_5 ?_
  obtain ⟨t2, ht2, hf⟩ := bd hf
  have ht2 := Option.some.inj ht2
  rw [ht2]
  refine V_istore_n E (lv' := [(0, .ref (qMo 0)), (1, .int p1), (2, .int p2), (3, .int t2)]) dX8_worldNow_6 (by decide) rfl ?_
  refine V_iload_n E 1 rfl dX8_worldNow_7 ?_
  refine V_i2l E dX8_worldNow_8 ?_
  refine V_lstore E (lv' := [(0, .ref (qMo 0)), (1, .int p1), (2, .int p2), (3, .int t2), (4, .long p1.toInt64)]) dX8_worldNow_9 (by decide) rfl ?_
  refine V_iconst E (v := (0 : Int32)) dX8_worldNow_11 (by decide) ?_
  refine V_istore E (lv' := [(0, .ref (qMo 0)), (1, .int p1), (2, .int p2), (3, .int t2), (4, .long p1.toInt64), (6, .int (0 : Int32))]) dX8_worldNow_12 (by decide) rfl ?_
  have L14 : ∀ (n : Nat) (a14_4 : Int64) (a14_6 : Int32) (c14_mo_all : Nat → Int32) (u : (Nat → Int32)), fMo_worldNow_L14 p2 n a14_4 a14_6 c14_mo_all = some u → (V G p l e rmMo_worldNow s m args below meth c 8 A Q 0 0 (gMo G qMo u mo_past mo_aside mo_states mo_refused mo_causeKind mo_causeOrder mo_corner mo_linkVotes mo_linkE mo_linkF mo_follower mo_ahead mo_least mo_seam mo_above mo_below mo_text mo_textLong mo_place mo_value mo_numbers mo_not) 84 [(0, .ref (qMo 0)), (2, .int p2), (3, .int t2)] []) → V G p l e rmMo_worldNow s m args below meth c 8 A Q 0 0 (gMo G qMo c14_mo_all mo_past mo_aside mo_states mo_refused mo_causeKind mo_causeOrder mo_corner mo_linkVotes mo_linkE mo_linkF mo_follower mo_ahead mo_least mo_seam mo_above mo_below mo_text mo_textLong mo_place mo_value mo_numbers mo_not) 14 [(0, .ref (qMo 0)), (2, .int p2), (3, .int t2), (4, .long a14_4), (6, .int a14_6)] [] := by
    intro n
    induction n with
    | zero =>
      intro a14_4 a14_6 c14_mo_all u hf hk
      rw [fMo_worldNow_L14] at hf
      cases hf
    | succ n ih =>
      intro a14_4 a14_6 c14_mo_all u hf hk
      rw [fMo_worldNow_L14] at hf
      exact ih a14_4 a14_6 c14_mo_all _ hf hk
  refine V_sub [0, 2, 3, 4, 5] rfl ?_
  obtain ⟨u3, hu3, hf⟩ := bd hf
  refine L14 FU p1.toInt64 (0 : Int32) mo_all u3 hu3 ?_
  refine V_aload_n E 0 rfl dX8_worldNow_84 ?_
  refine gfX8_7 E 0 rfl rfl dX8_worldNow_85 ?_
  refine V_iconst E (v := (0 : Int32)) dX8_worldNow_88 (by decide) ?_
  refine V_iload_n E 1 rfl dX8_worldNow_89 ?_
  obtain ⟨hi4, hf⟩ := asr_ok hf
  refine V_iast E (ws' := (gMo G qMo (upd u3 (0 : Int32).toNatClampNeg p2) mo_past mo_aside mo_states mo_refused mo_causeKind mo_causeOrder mo_corner mo_linkVotes mo_linkE mo_linkF mo_follower mo_ahead mo_least mo_seam mo_above mo_below mo_text mo_textLong mo_place mo_value mo_numbers mo_not)) 1 rfl hi4 dX8_worldNow_90 rfl ?_
  refine V_iload_n E 2 rfl dX8_worldNow_91 ?_
  have h9 := hret 92 [(0, .ref (qMo 0)), (2, .int p2), (3, .int t2)] dX8_worldNow_92
  rw [← (Option.some.inj hf)] at h9
  exact h9
abbrev rmMo_world : Room := { frames := 2, cells := 0, slots := 0, locals := 46 }
theorem wd_yX8_world : wdV yX8_world cX8_world 3 (some .int) 2 := ⟨wc_yX8_world, wi_yX8_world, wse_yX8_world, wini_X8, by decide +kernel, by decide +kernel, by decide +kernel⟩
set_option maxHeartbeats 4000000 in
set_option maxRecDepth 100000 in
theorem kMo_world (l : Launch) (G : wG) (qMo : Nat → Nat) (p1 : Int32) (p2 : Int32) (mo_all : Nat → Int32) (mo_past : Nat → Int32) (mo_aside : Nat → Int32) (mo_states : Int32) (mo_refused : Nat → Int32) (mo_causeKind : Int32) (mo_causeOrder : Int32) (mo_corner : Nat → Int32) (mo_linkVotes : Nat → Int32) (mo_linkE : Nat → Int32) (mo_linkF : Nat → Int32) (mo_follower : Nat → Int32) (mo_ahead : Nat → Int32) (mo_least : Nat → Int32) (mo_seam : Nat → Int32) (mo_above : Int64) (mo_below : Int64) (mo_text : Nat → Int32) (mo_textLong : Int32) (mo_place : Int32) (mo_value : Int32) (mo_numbers : Nat → Int32) (mo_not : Int32) (o : Int32 × (Nat → Int32) × (Nat → Int32) × Int32 × (Nat → Int32)) (hf : fMo_world p1 p2 mo_all mo_past mo_states mo_refused = some o) : Ct G l yX8_world cX8_world 3 (some .int) rmMo_world [.ref (qMo 0), .int p1, .int p2] (gMo G qMo mo_all mo_past mo_aside mo_states mo_refused mo_causeKind mo_causeOrder mo_corner mo_linkVotes mo_linkE mo_linkF mo_follower mo_ahead mo_least mo_seam mo_above mo_below mo_text mo_textLong mo_place mo_value mo_numbers mo_not) (some (.int o.1)) (gMo G qMo o.2.1 o.2.2.1 mo_aside o.2.2.2.1 o.2.2.2.2 mo_causeKind mo_causeOrder mo_corner mo_linkVotes mo_linkE mo_linkF mo_follower mo_ahead mo_least mo_seam mo_above mo_below mo_text mo_textLong mo_place mo_value mo_numbers mo_not) := by
  refine Ct.ofI (by decide +kernel) (Nat.le_of_ble_eq_true rfl) (fun p e s m args below meth c A Q E hret => ?_)
  unfold fMo_world at hf
  show V G p l e rmMo_world s m args below meth c 3 A Q 0 0 (gMo G qMo mo_all mo_past mo_aside mo_states mo_refused mo_causeKind mo_causeOrder mo_corner mo_linkVotes mo_linkE mo_linkF mo_follower mo_ahead mo_least mo_seam mo_above mo_below mo_text mo_textLong mo_place mo_value mo_numbers mo_not) 0 [(0, .ref (qMo 0)), (1, .int p1), (2, .int p2)] []
  refine V_iload_n E 1 rfl dX8_world_0 ?_
  refine V_iload_n E 2 rfl dX8_world_1 ?_
  obtain ⟨u1, hu1, hf⟩ := bd hf
  refine V_fr0 E (Rn_S E (rest := []) mlX8_87 wd_yX8_isWorld (kMo_isWorld l G p1 p2 u1 hu1) ⟨rfl, rfl, Nat.le_of_ble_eq_true rfl, Nat.le_of_ble_eq_true rfl⟩ rfl rfl (Nat.le_of_ble_eq_true rfl) dX8_world_2) ?_
  show V G p l e rmMo_world s m args below meth c 3 A Q 0 0 (gMo G qMo mo_all mo_past mo_aside mo_states mo_refused mo_causeKind mo_causeOrder mo_corner mo_linkVotes mo_linkE mo_linkF mo_follower mo_ahead mo_least mo_seam mo_above mo_below mo_text mo_textLong mo_place mo_value mo_numbers mo_not) 5 [(0, .ref (qMo 0)), (1, .int p1), (2, .int p2)] [.int u1]
  refine V_if_ne E (tgt := 15) dX8_world_5 (by decide) (fun hc2 => ?_) (fun hc2 => ?_)
  · have hf := iq hc2 hf
    refine V_aload_n E 0 rfl dX8_world_15 ?_
    obtain ⟨u3, hu3, hf⟩ := bd hf
    refine V_frW E (Rn_V E (rest := []) mlX8_95 wd_yX8_keep (kMo_keep l G qMo mo_all mo_past mo_aside mo_states mo_refused mo_causeKind mo_causeOrder mo_corner mo_linkVotes mo_linkE mo_linkF mo_follower mo_ahead mo_least mo_seam mo_above mo_below mo_text mo_textLong mo_place mo_value mo_numbers mo_not u3 hu3) ⟨rfl, rfl, Nat.le_of_ble_eq_true rfl, Nat.le_of_ble_eq_true rfl⟩ 0 rfl rfl rfl rfl rfl (Nat.le_of_ble_eq_true rfl) dX8_world_16) ?_
    show V G p l e rmMo_world s m args below meth c 3 A Q 0 0 (gMo G qMo mo_all u3.1 mo_aside u3.2 mo_refused mo_causeKind mo_causeOrder mo_corner mo_linkVotes mo_linkE mo_linkF mo_follower mo_ahead mo_least mo_seam mo_above mo_below mo_text mo_textLong mo_place mo_value mo_numbers mo_not) 19 [(0, .ref (qMo 0)), (1, .int p1), (2, .int p2)] []
    refine V_aload_n E 0 rfl dX8_world_19 ?_
    refine V_iload_n E 1 rfl dX8_world_20 ?_
    refine V_iload_n E 2 rfl dX8_world_21 ?_
    obtain ⟨u4, hu4, hf⟩ := bd hf
    refine V_frW E (Rn_V E (rest := []) mlX8_98 wd_yX8_worldNow (kMo_worldNow l G qMo p1 p2 mo_all u3.1 mo_aside u3.2 mo_refused mo_causeKind mo_causeOrder mo_corner mo_linkVotes mo_linkE mo_linkF mo_follower mo_ahead mo_least mo_seam mo_above mo_below mo_text mo_textLong mo_place mo_value mo_numbers mo_not u4 hu4) ⟨rfl, rfl, Nat.le_of_ble_eq_true rfl, Nat.le_of_ble_eq_true rfl⟩ 0 rfl rfl rfl rfl rfl (Nat.le_of_ble_eq_true rfl) dX8_world_22) ?_
    show V G p l e rmMo_world s m args below meth c 3 A Q 0 0 (gMo G qMo u4.2 u3.1 mo_aside u3.2 mo_refused mo_causeKind mo_causeOrder mo_corner mo_linkVotes mo_linkE mo_linkF mo_follower mo_ahead mo_least mo_seam mo_above mo_below mo_text mo_textLong mo_place mo_value mo_numbers mo_not) 25 [(0, .ref (qMo 0)), (1, .int p1), (2, .int p2)] [.int u4.1]
    have h9 := hret 25 [(0, .ref (qMo 0)), (1, .int p1), (2, .int p2)] dX8_world_25
    rw [← (Option.some.inj hf)] at h9
    exact h9
  · have hf := ip hc2 hf
    refine V_aload_n E 0 rfl dX8_world_8 ?_
    refine V_bipush E (v := (-2 : Int32)) dX8_world_9 (by decide) ?_
    obtain ⟨u5, hu5, hf⟩ := bd hf
    refine V_frW E (Rn_V E (rest := []) mlX8_91 wd_yX8_refuses (kMo_refuses l G qMo (-2 : Int32) mo_all mo_past mo_aside mo_states mo_refused mo_causeKind mo_causeOrder mo_corner mo_linkVotes mo_linkE mo_linkF mo_follower mo_ahead mo_least mo_seam mo_above mo_below mo_text mo_textLong mo_place mo_value mo_numbers mo_not u5 hu5) ⟨rfl, rfl, Nat.le_of_ble_eq_true rfl, Nat.le_of_ble_eq_true rfl⟩ 0 rfl rfl rfl rfl rfl (Nat.le_of_ble_eq_true rfl) dX8_world_11) ?_
    show V G p l e rmMo_world s m args below meth c 3 A Q 0 0 (gMo G qMo mo_all mo_past mo_aside mo_states u5.2 mo_causeKind mo_causeOrder mo_corner mo_linkVotes mo_linkE mo_linkF mo_follower mo_ahead mo_least mo_seam mo_above mo_below mo_text mo_textLong mo_place mo_value mo_numbers mo_not) 14 [(0, .ref (qMo 0)), (1, .int p1), (2, .int p2)] [.int u5.1]
    have h9 := hret 14 [(0, .ref (qMo 0)), (1, .int p1), (2, .int p2)] dX8_world_14
    rw [← (Option.some.inj hf)] at h9
    exact h9
abbrev rmMo_isDot : Room := { frames := 1, cells := 0, slots := 0, locals := 25 }
theorem wd_yX8_isDot : wdV yX8_isDot cX8_isDot 3 (some .boolean) 2 := ⟨wc_yX8_isDot, wi_yX8_isDot, wse_yX8_isDot, wini_X8, by decide +kernel, by decide +kernel, by decide +kernel⟩
set_option maxHeartbeats 4000000 in
set_option maxRecDepth 100000 in
theorem kMo_isDot (l : Launch) (G : wG) (qMo : Nat → Nat) (p1 : Int32) (p2 : Int32) (mo_all : Nat → Int32) (mo_past : Nat → Int32) (mo_aside : Nat → Int32) (mo_states : Int32) (mo_refused : Nat → Int32) (mo_causeKind : Int32) (mo_causeOrder : Int32) (mo_corner : Nat → Int32) (mo_linkVotes : Nat → Int32) (mo_linkE : Nat → Int32) (mo_linkF : Nat → Int32) (mo_follower : Nat → Int32) (mo_ahead : Nat → Int32) (mo_least : Nat → Int32) (mo_seam : Nat → Int32) (mo_above : Int64) (mo_below : Int64) (mo_text : Nat → Int32) (mo_textLong : Int32) (mo_place : Int32) (mo_value : Int32) (mo_numbers : Nat → Int32) (mo_not : Int32) (o : Int32) (hf : fMo_isDot p1 p2 mo_all = some o) : Ct G l yX8_isDot cX8_isDot 3 (some .boolean) rmMo_isDot [.ref (qMo 0), .int p1, .int p2] (gMo G qMo mo_all mo_past mo_aside mo_states mo_refused mo_causeKind mo_causeOrder mo_corner mo_linkVotes mo_linkE mo_linkF mo_follower mo_ahead mo_least mo_seam mo_above mo_below mo_text mo_textLong mo_place mo_value mo_numbers mo_not) (some (.int o)) (gMo G qMo mo_all mo_past mo_aside mo_states mo_refused mo_causeKind mo_causeOrder mo_corner mo_linkVotes mo_linkE mo_linkF mo_follower mo_ahead mo_least mo_seam mo_above mo_below mo_text mo_textLong mo_place mo_value mo_numbers mo_not) := by
  refine Ct.ofZ (by decide +kernel) (Nat.le_of_ble_eq_true rfl) (fun p e s m args below meth c A Q E hret => ?_)
  unfold fMo_isDot at hf
  show V G p l e rmMo_isDot s m args below meth c 3 A Q 0 0 (gMo G qMo mo_all mo_past mo_aside mo_states mo_refused mo_causeKind mo_causeOrder mo_corner mo_linkVotes mo_linkE mo_linkF mo_follower mo_ahead mo_least mo_seam mo_above mo_below mo_text mo_textLong mo_place mo_value mo_numbers mo_not) 0 [(0, .ref (qMo 0)), (1, .int p1), (2, .int p2)] []
  refine V_iload_n E 1 rfl dX8_isDot_0 ?_
  refine V_i2l E dX8_isDot_1 ?_
  refine V_lconst E (v := (0 : Int64)) dX8_isDot_2 (by decide) ?_
  refine V_ldc2 E (v := (5 : Int64)) dX8_isDot_3 kX8_102 ?_
  obtain ⟨u1, hu1, hf⟩ := bd hf
  refine V_fr0 E (Rn_S E (rest := []) mlX8_63 wd_yX8_in (kMo_in l G p1.toInt64 (0 : Int64) (5 : Int64) u1 hu1) ⟨rfl, rfl, Nat.le_of_ble_eq_true rfl, Nat.le_of_ble_eq_true rfl⟩ rfl rfl (Nat.le_of_ble_eq_true rfl) dX8_isDot_6) ?_
  show V G p l e rmMo_isDot s m args below meth c 3 A Q 0 0 (gMo G qMo mo_all mo_past mo_aside mo_states mo_refused mo_causeKind mo_causeOrder mo_corner mo_linkVotes mo_linkE mo_linkF mo_follower mo_ahead mo_least mo_seam mo_above mo_below mo_text mo_textLong mo_place mo_value mo_numbers mo_not) 9 [(0, .ref (qMo 0)), (1, .int p1), (2, .int p2)] [.int u1]
  refine V_if_eq E (tgt := 34) dX8_isDot_9 (by decide) (fun hc2 => ?_) (fun hc2 => ?_)
  · have hf := ip hc2 hf
    refine V_iconst E (v := (0 : Int32)) dX8_isDot_34 (by decide) ?_
    have h9 := hret 35 [(0, .ref (qMo 0)), (1, .int p1), (2, .int p2)] dX8_isDot_35
    rw [← (Option.some.inj hf)] at h9
    exact h9 (z01a (Or.inl rfl))
  · have hf := iq hc2 hf
    refine V_iload_n E 2 rfl dX8_isDot_12 ?_
    refine V_i2l E dX8_isDot_13 ?_
    refine V_lconst E (v := (0 : Int64)) dX8_isDot_14 (by decide) ?_
    refine V_aload_n E 0 rfl dX8_isDot_15 ?_
    refine gfX8_7 E 0 rfl rfl dX8_isDot_16 ?_
    refine V_iconst E (v := (0 : Int32)) dX8_isDot_19 (by decide) ?_
    obtain ⟨hi3, hf⟩ := asr_ok hf
    refine V_iald E 1 rfl hi3 dX8_isDot_20 ?_
    refine V_iconst E (v := (1 : Int32)) dX8_isDot_21 (by decide) ?_
    refine V_isub E dX8_isDot_22 ?_
    refine V_i2l E dX8_isDot_23 ?_
    obtain ⟨u4, hu4, hf⟩ := bd hf
    refine V_fr0 E (Rn_S E (rest := []) mlX8_63 wd_yX8_in (kMo_in l G p2.toInt64 (0 : Int64) (((mo_all (0 : Int32).toNatClampNeg) - (1 : Int32)).toInt64) u4 hu4) ⟨rfl, rfl, Nat.le_of_ble_eq_true rfl, Nat.le_of_ble_eq_true rfl⟩ rfl rfl (Nat.le_of_ble_eq_true rfl) dX8_isDot_24) ?_
    show V G p l e rmMo_isDot s m args below meth c 3 A Q 0 0 (gMo G qMo mo_all mo_past mo_aside mo_states mo_refused mo_causeKind mo_causeOrder mo_corner mo_linkVotes mo_linkE mo_linkF mo_follower mo_ahead mo_least mo_seam mo_above mo_below mo_text mo_textLong mo_place mo_value mo_numbers mo_not) 27 [(0, .ref (qMo 0)), (1, .int p1), (2, .int p2)] [.int u4]
    refine V_if_eq E (tgt := 34) dX8_isDot_27 (by decide) (fun hc5 => ?_) (fun hc5 => ?_)
    · have hf := ip hc5 hf
      refine V_iconst E (v := (0 : Int32)) dX8_isDot_34 (by decide) ?_
      have h9 := hret 35 [(0, .ref (qMo 0)), (1, .int p1), (2, .int p2)] dX8_isDot_35
      rw [← (Option.some.inj hf)] at h9
      exact h9 (z01a (Or.inl rfl))
    · have hf := iq hc5 hf
      refine V_iconst E (v := (1 : Int32)) dX8_isDot_30 (by decide) ?_
      refine V_goto E (tgt := 35) dX8_isDot_31 (by decide) ?_
      have h9 := hret 35 [(0, .ref (qMo 0)), (1, .int p1), (2, .int p2)] dX8_isDot_35
      rw [← (Option.some.inj hf)] at h9
      exact h9 (z01a (Or.inr rfl))
abbrev rmMo_cellNow : Room := { frames := 0, cells := 0, slots := 0, locals := 0 }
theorem wd_yX8_cellNow : wdV yX8_cellNow cX8_cellNow 4 (some .int) 2 := ⟨wc_yX8_cellNow, wi_yX8_cellNow, wse_yX8_cellNow, wini_X8, by decide +kernel, by decide +kernel, by decide +kernel⟩
set_option maxHeartbeats 4000000 in
set_option maxRecDepth 100000 in
theorem kMo_cellNow (l : Launch) (G : wG) (qMo : Nat → Nat) (p1 : Int32) (p2 : Int32) (mo_all : Nat → Int32) (mo_past : Nat → Int32) (mo_aside : Nat → Int32) (mo_states : Int32) (mo_refused : Nat → Int32) (mo_causeKind : Int32) (mo_causeOrder : Int32) (mo_corner : Nat → Int32) (mo_linkVotes : Nat → Int32) (mo_linkE : Nat → Int32) (mo_linkF : Nat → Int32) (mo_follower : Nat → Int32) (mo_ahead : Nat → Int32) (mo_least : Nat → Int32) (mo_seam : Nat → Int32) (mo_above : Int64) (mo_below : Int64) (mo_text : Nat → Int32) (mo_textLong : Int32) (mo_place : Int32) (mo_value : Int32) (mo_numbers : Nat → Int32) (mo_not : Int32) (o : Int32 × (Nat → Int32)) (hf : fMo_cellNow p1 p2 mo_all = some o) : Ct G l yX8_cellNow cX8_cellNow 4 (some .int) rmMo_cellNow [.ref (qMo 0), .int p1, .int p2] (gMo G qMo mo_all mo_past mo_aside mo_states mo_refused mo_causeKind mo_causeOrder mo_corner mo_linkVotes mo_linkE mo_linkF mo_follower mo_ahead mo_least mo_seam mo_above mo_below mo_text mo_textLong mo_place mo_value mo_numbers mo_not) (some (.int o.1)) (gMo G qMo o.2 mo_past mo_aside mo_states mo_refused mo_causeKind mo_causeOrder mo_corner mo_linkVotes mo_linkE mo_linkF mo_follower mo_ahead mo_least mo_seam mo_above mo_below mo_text mo_textLong mo_place mo_value mo_numbers mo_not) := by
  refine Ct.ofI (by decide +kernel) (Nat.le_of_ble_eq_true rfl) (fun p e s m args below meth c A Q E hret => ?_)
  unfold fMo_cellNow at hf
  show V G p l e rmMo_cellNow s m args below meth c 4 A Q 0 0 (gMo G qMo mo_all mo_past mo_aside mo_states mo_refused mo_causeKind mo_causeOrder mo_corner mo_linkVotes mo_linkE mo_linkF mo_follower mo_ahead mo_least mo_seam mo_above mo_below mo_text mo_textLong mo_place mo_value mo_numbers mo_not) 0 [(0, .ref (qMo 0)), (1, .int p1), (2, .int p2)] []
  refine V_aload_n E 0 rfl dX8_cellNow_0 ?_
  refine gfX8_7 E 0 rfl rfl dX8_cellNow_1 ?_
  refine V_iload_n E 1 rfl dX8_cellNow_4 ?_
  obtain ⟨hi1, hf⟩ := asr_ok hf
  refine V_iald E 1 rfl hi1 dX8_cellNow_5 ?_
  refine V_istore_n E (lv' := [(0, .ref (qMo 0)), (1, .int p1), (2, .int p2), (3, .int (mo_all p1.toNatClampNeg))]) dX8_cellNow_6 (by decide) rfl ?_
  refine V_aload_n E 0 rfl dX8_cellNow_7 ?_
  refine gfX8_7 E 0 rfl rfl dX8_cellNow_8 ?_
  refine V_iload_n E 1 rfl dX8_cellNow_11 ?_
  refine V_iload_n E 2 rfl dX8_cellNow_12 ?_
  obtain ⟨hi2, hf⟩ := asr_ok hf
  refine V_iast E (ws' := (gMo G qMo (upd mo_all p1.toNatClampNeg p2) mo_past mo_aside mo_states mo_refused mo_causeKind mo_causeOrder mo_corner mo_linkVotes mo_linkE mo_linkF mo_follower mo_ahead mo_least mo_seam mo_above mo_below mo_text mo_textLong mo_place mo_value mo_numbers mo_not)) 1 rfl hi2 dX8_cellNow_13 rfl ?_
  refine V_iload_n E 3 rfl dX8_cellNow_14 ?_
  have h9 := hret 15 [(0, .ref (qMo 0)), (1, .int p1), (2, .int p2), (3, .int (mo_all p1.toNatClampNeg))] dX8_cellNow_15
  rw [← (Option.some.inj hf)] at h9
  exact h9
abbrev rmMo_dots : Room := { frames := 2, cells := 0, slots := 0, locals := 47 }
theorem wd_yX8_dots : wdV yX8_dots cX8_dots 4 (some .int) 3 := ⟨wc_yX8_dots, wi_yX8_dots, wse_yX8_dots, wini_X8, by decide +kernel, by decide +kernel, by decide +kernel⟩
set_option maxHeartbeats 4000000 in
set_option maxRecDepth 100000 in
theorem kMo_dots (l : Launch) (G : wG) (qMo : Nat → Nat) (p1 : Int32) (p2 : Int32) (p3 : Int32) (mo_all : Nat → Int32) (mo_past : Nat → Int32) (mo_aside : Nat → Int32) (mo_states : Int32) (mo_refused : Nat → Int32) (mo_causeKind : Int32) (mo_causeOrder : Int32) (mo_corner : Nat → Int32) (mo_linkVotes : Nat → Int32) (mo_linkE : Nat → Int32) (mo_linkF : Nat → Int32) (mo_follower : Nat → Int32) (mo_ahead : Nat → Int32) (mo_least : Nat → Int32) (mo_seam : Nat → Int32) (mo_above : Int64) (mo_below : Int64) (mo_text : Nat → Int32) (mo_textLong : Int32) (mo_place : Int32) (mo_value : Int32) (mo_numbers : Nat → Int32) (mo_not : Int32) (o : Int32 × (Nat → Int32) × (Nat → Int32) × Int32 × (Nat → Int32)) (hf : fMo_dots p1 p2 p3 mo_all mo_past mo_states mo_refused = some o) : Ct G l yX8_dots cX8_dots 4 (some .int) rmMo_dots [.ref (qMo 0), .int p1, .int p2, .int p3] (gMo G qMo mo_all mo_past mo_aside mo_states mo_refused mo_causeKind mo_causeOrder mo_corner mo_linkVotes mo_linkE mo_linkF mo_follower mo_ahead mo_least mo_seam mo_above mo_below mo_text mo_textLong mo_place mo_value mo_numbers mo_not) (some (.int o.1)) (gMo G qMo o.2.1 o.2.2.1 mo_aside o.2.2.2.1 o.2.2.2.2 mo_causeKind mo_causeOrder mo_corner mo_linkVotes mo_linkE mo_linkF mo_follower mo_ahead mo_least mo_seam mo_above mo_below mo_text mo_textLong mo_place mo_value mo_numbers mo_not) := by
  refine Ct.ofI (by decide +kernel) (Nat.le_of_ble_eq_true rfl) (fun p e s m args below meth c A Q E hret => ?_)
  unfold fMo_dots at hf
  show V G p l e rmMo_dots s m args below meth c 4 A Q 0 0 (gMo G qMo mo_all mo_past mo_aside mo_states mo_refused mo_causeKind mo_causeOrder mo_corner mo_linkVotes mo_linkE mo_linkF mo_follower mo_ahead mo_least mo_seam mo_above mo_below mo_text mo_textLong mo_place mo_value mo_numbers mo_not) 0 [(0, .ref (qMo 0)), (1, .int p1), (2, .int p2), (3, .int p3)] []
  refine V_aload_n E 0 rfl dX8_dots_0 ?_
  refine V_iload_n E 1 rfl dX8_dots_1 ?_
  refine V_iload_n E 2 rfl dX8_dots_2 ?_
  obtain ⟨u1, hu1, hf⟩ := bd hf
  refine V_frW E (Rn_V E (rest := []) mlX8_104 wd_yX8_isDot (kMo_isDot l G qMo p1 p2 mo_all mo_past mo_aside mo_states mo_refused mo_causeKind mo_causeOrder mo_corner mo_linkVotes mo_linkE mo_linkF mo_follower mo_ahead mo_least mo_seam mo_above mo_below mo_text mo_textLong mo_place mo_value mo_numbers mo_not u1 hu1) ⟨rfl, rfl, Nat.le_of_ble_eq_true rfl, Nat.le_of_ble_eq_true rfl⟩ 0 rfl rfl rfl rfl rfl (Nat.le_of_ble_eq_true rfl) dX8_dots_3) ?_
  show V G p l e rmMo_dots s m args below meth c 4 A Q 0 0 (gMo G qMo mo_all mo_past mo_aside mo_states mo_refused mo_causeKind mo_causeOrder mo_corner mo_linkVotes mo_linkE mo_linkF mo_follower mo_ahead mo_least mo_seam mo_above mo_below mo_text mo_textLong mo_place mo_value mo_numbers mo_not) 6 [(0, .ref (qMo 0)), (1, .int p1), (2, .int p2), (3, .int p3)] [.int u1]
  refine V_if_eq E (tgt := 21) dX8_dots_6 (by decide) (fun hc2 => ?_) (fun hc2 => ?_)
  · have hf := ip hc2 hf
    refine V_aload_n E 0 rfl dX8_dots_21 ?_
    refine V_bipush E (v := (-2 : Int32)) dX8_dots_22 (by decide) ?_
    obtain ⟨u3, hu3, hf⟩ := bd hf
    refine V_frW E (Rn_V E (rest := []) mlX8_91 wd_yX8_refuses (kMo_refuses l G qMo (-2 : Int32) mo_all mo_past mo_aside mo_states mo_refused mo_causeKind mo_causeOrder mo_corner mo_linkVotes mo_linkE mo_linkF mo_follower mo_ahead mo_least mo_seam mo_above mo_below mo_text mo_textLong mo_place mo_value mo_numbers mo_not u3 hu3) ⟨rfl, rfl, Nat.le_of_ble_eq_true rfl, Nat.le_of_ble_eq_true rfl⟩ 0 rfl rfl rfl rfl rfl (Nat.le_of_ble_eq_true rfl) dX8_dots_24) ?_
    show V G p l e rmMo_dots s m args below meth c 4 A Q 0 0 (gMo G qMo mo_all mo_past mo_aside mo_states u3.2 mo_causeKind mo_causeOrder mo_corner mo_linkVotes mo_linkE mo_linkF mo_follower mo_ahead mo_least mo_seam mo_above mo_below mo_text mo_textLong mo_place mo_value mo_numbers mo_not) 27 [(0, .ref (qMo 0)), (1, .int p1), (2, .int p2), (3, .int p3)] [.int u3.1]
    have h9 := hret 27 [(0, .ref (qMo 0)), (1, .int p1), (2, .int p2), (3, .int p3)] dX8_dots_27
    rw [← (Option.some.inj hf)] at h9
    exact h9
  · have hf := iq hc2 hf
    refine V_iload_n E 3 rfl dX8_dots_9 ?_
    refine V_i2l E dX8_dots_10 ?_
    refine V_lconst E (v := (0 : Int64)) dX8_dots_11 (by decide) ?_
    refine V_ldc2 E (v := (63 : Int64)) dX8_dots_12 kX8_107 ?_
    obtain ⟨u4, hu4, hf⟩ := bd hf
    refine V_fr0 E (Rn_S E (rest := []) mlX8_63 wd_yX8_in (kMo_in l G p3.toInt64 (0 : Int64) (63 : Int64) u4 hu4) ⟨rfl, rfl, Nat.le_of_ble_eq_true rfl, Nat.le_of_ble_eq_true rfl⟩ rfl rfl (Nat.le_of_ble_eq_true rfl) dX8_dots_15) ?_
    show V G p l e rmMo_dots s m args below meth c 4 A Q 0 0 (gMo G qMo mo_all mo_past mo_aside mo_states mo_refused mo_causeKind mo_causeOrder mo_corner mo_linkVotes mo_linkE mo_linkF mo_follower mo_ahead mo_least mo_seam mo_above mo_below mo_text mo_textLong mo_place mo_value mo_numbers mo_not) 18 [(0, .ref (qMo 0)), (1, .int p1), (2, .int p2), (3, .int p3)] [.int u4]
    refine V_if_ne E (tgt := 28) dX8_dots_18 (by decide) (fun hc5 => ?_) (fun hc5 => ?_)
    · have hf := iq hc5 hf
      refine V_aload_n E 0 rfl dX8_dots_28 ?_
      obtain ⟨u6, hu6, hf⟩ := bd hf
      refine V_frW E (Rn_V E (rest := []) mlX8_95 wd_yX8_keep (kMo_keep l G qMo mo_all mo_past mo_aside mo_states mo_refused mo_causeKind mo_causeOrder mo_corner mo_linkVotes mo_linkE mo_linkF mo_follower mo_ahead mo_least mo_seam mo_above mo_below mo_text mo_textLong mo_place mo_value mo_numbers mo_not u6 hu6) ⟨rfl, rfl, Nat.le_of_ble_eq_true rfl, Nat.le_of_ble_eq_true rfl⟩ 0 rfl rfl rfl rfl rfl (Nat.le_of_ble_eq_true rfl) dX8_dots_29) ?_
      show V G p l e rmMo_dots s m args below meth c 4 A Q 0 0 (gMo G qMo mo_all u6.1 mo_aside u6.2 mo_refused mo_causeKind mo_causeOrder mo_corner mo_linkVotes mo_linkE mo_linkF mo_follower mo_ahead mo_least mo_seam mo_above mo_below mo_text mo_textLong mo_place mo_value mo_numbers mo_not) 32 [(0, .ref (qMo 0)), (1, .int p1), (2, .int p2), (3, .int p3)] []
      refine V_aload_n E 0 rfl dX8_dots_32 ?_
      refine V_iconst E (v := (4 : Int32)) dX8_dots_33 (by decide) ?_
      refine V_bipush E (v := (32 : Int32)) dX8_dots_34 (by decide) ?_
      refine V_iload_n E 1 rfl dX8_dots_36 ?_
      refine V_imul E dX8_dots_37 ?_
      refine V_iadd E dX8_dots_38 ?_
      refine V_iload_n E 2 rfl dX8_dots_39 ?_
      refine V_iadd E dX8_dots_40 ?_
      refine V_iload_n E 3 rfl dX8_dots_41 ?_
      obtain ⟨u7, hu7, hf⟩ := bd hf
      refine V_frW E (Rn_V E (rest := []) mlX8_109 wd_yX8_cellNow (kMo_cellNow l G qMo (((4 : Int32) + ((32 : Int32) * p1)) + p2) p3 mo_all u6.1 mo_aside u6.2 mo_refused mo_causeKind mo_causeOrder mo_corner mo_linkVotes mo_linkE mo_linkF mo_follower mo_ahead mo_least mo_seam mo_above mo_below mo_text mo_textLong mo_place mo_value mo_numbers mo_not u7 hu7) ⟨rfl, rfl, Nat.le_of_ble_eq_true rfl, Nat.le_of_ble_eq_true rfl⟩ 0 rfl rfl rfl rfl rfl (Nat.le_of_ble_eq_true rfl) dX8_dots_42) ?_
      show V G p l e rmMo_dots s m args below meth c 4 A Q 0 0 (gMo G qMo u7.2 u6.1 mo_aside u6.2 mo_refused mo_causeKind mo_causeOrder mo_corner mo_linkVotes mo_linkE mo_linkF mo_follower mo_ahead mo_least mo_seam mo_above mo_below mo_text mo_textLong mo_place mo_value mo_numbers mo_not) 45 [(0, .ref (qMo 0)), (1, .int p1), (2, .int p2), (3, .int p3)] [.int u7.1]
      have h9 := hret 45 [(0, .ref (qMo 0)), (1, .int p1), (2, .int p2), (3, .int p3)] dX8_dots_45
      rw [← (Option.some.inj hf)] at h9
      exact h9
    · have hf := ip hc5 hf
      refine V_aload_n E 0 rfl dX8_dots_21 ?_
      refine V_bipush E (v := (-2 : Int32)) dX8_dots_22 (by decide) ?_
      obtain ⟨u8, hu8, hf⟩ := bd hf
      refine V_frW E (Rn_V E (rest := []) mlX8_91 wd_yX8_refuses (kMo_refuses l G qMo (-2 : Int32) mo_all mo_past mo_aside mo_states mo_refused mo_causeKind mo_causeOrder mo_corner mo_linkVotes mo_linkE mo_linkF mo_follower mo_ahead mo_least mo_seam mo_above mo_below mo_text mo_textLong mo_place mo_value mo_numbers mo_not u8 hu8) ⟨rfl, rfl, Nat.le_of_ble_eq_true rfl, Nat.le_of_ble_eq_true rfl⟩ 0 rfl rfl rfl rfl rfl (Nat.le_of_ble_eq_true rfl) dX8_dots_24) ?_
      show V G p l e rmMo_dots s m args below meth c 4 A Q 0 0 (gMo G qMo mo_all mo_past mo_aside mo_states u8.2 mo_causeKind mo_causeOrder mo_corner mo_linkVotes mo_linkE mo_linkF mo_follower mo_ahead mo_least mo_seam mo_above mo_below mo_text mo_textLong mo_place mo_value mo_numbers mo_not) 27 [(0, .ref (qMo 0)), (1, .int p1), (2, .int p2), (3, .int p3)] [.int u8.1]
      have h9 := hret 27 [(0, .ref (qMo 0)), (1, .int p1), (2, .int p2), (3, .int p3)] dX8_dots_27
      rw [← (Option.some.inj hf)] at h9
      exact h9
abbrev rmMo_canShoot : Room := { frames := 1, cells := 0, slots := 0, locals := 25 }
theorem wd_yX8_canShoot : wdV yX8_canShoot cX8_canShoot 4 (some .int) 3 := ⟨wc_yX8_canShoot, wi_yX8_canShoot, wse_yX8_canShoot, wini_X8, by decide +kernel, by decide +kernel, by decide +kernel⟩
set_option maxHeartbeats 4000000 in
set_option maxRecDepth 100000 in
theorem kMo_canShoot (l : Launch) (G : wG) (qMo : Nat → Nat) (p1 : Int32) (p2 : Int32) (p3 : Int32) (mo_all : Nat → Int32) (mo_past : Nat → Int32) (mo_aside : Nat → Int32) (mo_states : Int32) (mo_refused : Nat → Int32) (mo_causeKind : Int32) (mo_causeOrder : Int32) (mo_corner : Nat → Int32) (mo_linkVotes : Nat → Int32) (mo_linkE : Nat → Int32) (mo_linkF : Nat → Int32) (mo_follower : Nat → Int32) (mo_ahead : Nat → Int32) (mo_least : Nat → Int32) (mo_seam : Nat → Int32) (mo_above : Int64) (mo_below : Int64) (mo_text : Nat → Int32) (mo_textLong : Int32) (mo_place : Int32) (mo_value : Int32) (mo_numbers : Nat → Int32) (mo_not : Int32) (o : Int32) (hf : fMo_canShoot p1 p2 p3 mo_all = some o) : Ct G l yX8_canShoot cX8_canShoot 4 (some .int) rmMo_canShoot [.ref (qMo 0), .int p1, .int p2, .int p3] (gMo G qMo mo_all mo_past mo_aside mo_states mo_refused mo_causeKind mo_causeOrder mo_corner mo_linkVotes mo_linkE mo_linkF mo_follower mo_ahead mo_least mo_seam mo_above mo_below mo_text mo_textLong mo_place mo_value mo_numbers mo_not) (some (.int o)) (gMo G qMo mo_all mo_past mo_aside mo_states mo_refused mo_causeKind mo_causeOrder mo_corner mo_linkVotes mo_linkE mo_linkF mo_follower mo_ahead mo_least mo_seam mo_above mo_below mo_text mo_textLong mo_place mo_value mo_numbers mo_not) := by
  refine Ct.ofI (by decide +kernel) (Nat.le_of_ble_eq_true rfl) (fun p e s m args below meth c A Q E hret => ?_)
  unfold fMo_canShoot at hf
  show V G p l e rmMo_canShoot s m args below meth c 4 A Q 0 0 (gMo G qMo mo_all mo_past mo_aside mo_states mo_refused mo_causeKind mo_causeOrder mo_corner mo_linkVotes mo_linkE mo_linkF mo_follower mo_ahead mo_least mo_seam mo_above mo_below mo_text mo_textLong mo_place mo_value mo_numbers mo_not) 0 [(0, .ref (qMo 0)), (1, .int p1), (2, .int p2), (3, .int p3)] []
  refine V_iload_n E 1 rfl dX8_canShoot_0 ?_
  refine V_i2l E dX8_canShoot_1 ?_
  refine V_lconst E (v := (0 : Int64)) dX8_canShoot_2 (by decide) ?_
  refine V_aload_n E 0 rfl dX8_canShoot_3 ?_
  refine gfX8_7 E 0 rfl rfl dX8_canShoot_4 ?_
  refine V_iconst E (v := (0 : Int32)) dX8_canShoot_7 (by decide) ?_
  obtain ⟨hi1, hf⟩ := asr_ok hf
  refine V_iald E 1 rfl hi1 dX8_canShoot_8 ?_
  refine V_iconst E (v := (1 : Int32)) dX8_canShoot_9 (by decide) ?_
  refine V_isub E dX8_canShoot_10 ?_
  refine V_i2l E dX8_canShoot_11 ?_
  obtain ⟨u2, hu2, hf⟩ := bd hf
  refine V_fr0 E (Rn_S E (rest := []) mlX8_63 wd_yX8_in (kMo_in l G p1.toInt64 (0 : Int64) (((mo_all (0 : Int32).toNatClampNeg) - (1 : Int32)).toInt64) u2 hu2) ⟨rfl, rfl, Nat.le_of_ble_eq_true rfl, Nat.le_of_ble_eq_true rfl⟩ rfl rfl (Nat.le_of_ble_eq_true rfl) dX8_canShoot_12) ?_
  show V G p l e rmMo_canShoot s m args below meth c 4 A Q 0 0 (gMo G qMo mo_all mo_past mo_aside mo_states mo_refused mo_causeKind mo_causeOrder mo_corner mo_linkVotes mo_linkE mo_linkF mo_follower mo_ahead mo_least mo_seam mo_above mo_below mo_text mo_textLong mo_place mo_value mo_numbers mo_not) 15 [(0, .ref (qMo 0)), (1, .int p1), (2, .int p2), (3, .int p3)] [.int u2]
  refine V_if_eq E (tgt := 44) dX8_canShoot_15 (by decide) (fun hc3 => ?_) (fun hc3 => ?_)
  · have hf := ip hc3 hf
    refine V_bipush E (v := (-2 : Int32)) dX8_canShoot_44 (by decide) ?_
    refine V_goto E (tgt := 64) dX8_canShoot_46 (by decide) ?_
    have h9 := hret 64 [(0, .ref (qMo 0)), (1, .int p1), (2, .int p2), (3, .int p3)] dX8_canShoot_64
    rw [← (Option.some.inj hf)] at h9
    exact h9
  · have hf := iq hc3 hf
    refine V_iload_n E 2 rfl dX8_canShoot_18 ?_
    refine V_i2l E dX8_canShoot_19 ?_
    refine V_lconst E (v := (0 : Int64)) dX8_canShoot_20 (by decide) ?_
    refine V_ldc2 E (v := (2 : Int64)) dX8_canShoot_21 kX8_112 ?_
    obtain ⟨u4, hu4, hf⟩ := bd hf
    refine V_fr0 E (Rn_S E (rest := []) mlX8_63 wd_yX8_in (kMo_in l G p2.toInt64 (0 : Int64) (2 : Int64) u4 hu4) ⟨rfl, rfl, Nat.le_of_ble_eq_true rfl, Nat.le_of_ble_eq_true rfl⟩ rfl rfl (Nat.le_of_ble_eq_true rfl) dX8_canShoot_24) ?_
    show V G p l e rmMo_canShoot s m args below meth c 4 A Q 0 0 (gMo G qMo mo_all mo_past mo_aside mo_states mo_refused mo_causeKind mo_causeOrder mo_corner mo_linkVotes mo_linkE mo_linkF mo_follower mo_ahead mo_least mo_seam mo_above mo_below mo_text mo_textLong mo_place mo_value mo_numbers mo_not) 27 [(0, .ref (qMo 0)), (1, .int p1), (2, .int p2), (3, .int p3)] [.int u4]
    refine V_if_eq E (tgt := 44) dX8_canShoot_27 (by decide) (fun hc5 => ?_) (fun hc5 => ?_)
    · have hf := ip hc5 hf
      refine V_bipush E (v := (-2 : Int32)) dX8_canShoot_44 (by decide) ?_
      refine V_goto E (tgt := 64) dX8_canShoot_46 (by decide) ?_
      have h9 := hret 64 [(0, .ref (qMo 0)), (1, .int p1), (2, .int p2), (3, .int p3)] dX8_canShoot_64
      rw [← (Option.some.inj hf)] at h9
      exact h9
    · have hf := iq hc5 hf
      refine V_iload_n E 3 rfl dX8_canShoot_30 ?_
      refine V_i2l E dX8_canShoot_31 ?_
      refine V_ldc2 E (v := (-20 : Int64)) dX8_canShoot_32 kX8_114 ?_
      refine V_ldc2 E (v := (20 : Int64)) dX8_canShoot_35 kX8_116 ?_
      obtain ⟨u6, hu6, hf⟩ := bd hf
      refine V_fr0 E (Rn_S E (rest := []) mlX8_63 wd_yX8_in (kMo_in l G p3.toInt64 (-20 : Int64) (20 : Int64) u6 hu6) ⟨rfl, rfl, Nat.le_of_ble_eq_true rfl, Nat.le_of_ble_eq_true rfl⟩ rfl rfl (Nat.le_of_ble_eq_true rfl) dX8_canShoot_38) ?_
      show V G p l e rmMo_canShoot s m args below meth c 4 A Q 0 0 (gMo G qMo mo_all mo_past mo_aside mo_states mo_refused mo_causeKind mo_causeOrder mo_corner mo_linkVotes mo_linkE mo_linkF mo_follower mo_ahead mo_least mo_seam mo_above mo_below mo_text mo_textLong mo_place mo_value mo_numbers mo_not) 41 [(0, .ref (qMo 0)), (1, .int p1), (2, .int p2), (3, .int p3)] [.int u6]
      refine V_if_ne E (tgt := 49) dX8_canShoot_41 (by decide) (fun hc7 => ?_) (fun hc7 => ?_)
      · have hf := iq hc7 hf
        refine V_aload_n E 0 rfl dX8_canShoot_49 ?_
        obtain ⟨u8, hu8, hf⟩ := bd hf
        refine V_frW E (Rn_V E (rest := []) mlX8_59 wd_yX8_many (kMo_many l G qMo mo_all mo_past mo_aside mo_states mo_refused mo_causeKind mo_causeOrder mo_corner mo_linkVotes mo_linkE mo_linkF mo_follower mo_ahead mo_least mo_seam mo_above mo_below mo_text mo_textLong mo_place mo_value mo_numbers mo_not u8 hu8) ⟨rfl, rfl, Nat.le_of_ble_eq_true rfl, Nat.le_of_ble_eq_true rfl⟩ 0 rfl rfl rfl rfl rfl (Nat.le_of_ble_eq_true rfl) dX8_canShoot_50) ?_
        show V G p l e rmMo_canShoot s m args below meth c 4 A Q 0 0 (gMo G qMo mo_all mo_past mo_aside mo_states mo_refused mo_causeKind mo_causeOrder mo_corner mo_linkVotes mo_linkE mo_linkF mo_follower mo_ahead mo_least mo_seam mo_above mo_below mo_text mo_textLong mo_place mo_value mo_numbers mo_not) 53 [(0, .ref (qMo 0)), (1, .int p1), (2, .int p2), (3, .int p3)] [.int u8]
        refine V_bipush E (v := (6 : Int32)) dX8_canShoot_53 (by decide) ?_
        refine V_icmp_ne E (tgt := 63) dX8_canShoot_55 (by decide) (fun hc9 => ?_) (fun hc9 => ?_)
        · have hf := iq hc9 hf
          refine V_iconst E (v := (0 : Int32)) dX8_canShoot_63 (by decide) ?_
          have h9 := hret 64 [(0, .ref (qMo 0)), (1, .int p1), (2, .int p2), (3, .int p3)] dX8_canShoot_64
          rw [← (Option.some.inj hf)] at h9
          exact h9
        · have hf := ip hc9 hf
          refine V_bipush E (v := (-4 : Int32)) dX8_canShoot_58 (by decide) ?_
          refine V_goto E (tgt := 64) dX8_canShoot_60 (by decide) ?_
          have h9 := hret 64 [(0, .ref (qMo 0)), (1, .int p1), (2, .int p2), (3, .int p3)] dX8_canShoot_64
          rw [← (Option.some.inj hf)] at h9
          exact h9
      · have hf := ip hc7 hf
        refine V_bipush E (v := (-2 : Int32)) dX8_canShoot_44 (by decide) ?_
        refine V_goto E (tgt := 64) dX8_canShoot_46 (by decide) ?_
        have h9 := hret 64 [(0, .ref (qMo 0)), (1, .int p1), (2, .int p2), (3, .int p3)] dX8_canShoot_64
        rw [← (Option.some.inj hf)] at h9
        exact h9
abbrev rmMo_shotNow : Room := { frames := 1, cells := 0, slots := 0, locals := 20 }
theorem wd_yX8_shotNow : wdV yX8_shotNow cX8_shotNow 7 (some .int) 3 := ⟨wc_yX8_shotNow, wi_yX8_shotNow, wse_yX8_shotNow, wini_X8, by decide +kernel, by decide +kernel, by decide +kernel⟩
set_option maxHeartbeats 4000000 in
set_option maxRecDepth 100000 in
theorem kMo_shotNow (l : Launch) (G : wG) (qMo : Nat → Nat) (p1 : Int32) (p2 : Int32) (p3 : Int32) (mo_all : Nat → Int32) (mo_past : Nat → Int32) (mo_aside : Nat → Int32) (mo_states : Int32) (mo_refused : Nat → Int32) (mo_causeKind : Int32) (mo_causeOrder : Int32) (mo_corner : Nat → Int32) (mo_linkVotes : Nat → Int32) (mo_linkE : Nat → Int32) (mo_linkF : Nat → Int32) (mo_follower : Nat → Int32) (mo_ahead : Nat → Int32) (mo_least : Nat → Int32) (mo_seam : Nat → Int32) (mo_above : Int64) (mo_below : Int64) (mo_text : Nat → Int32) (mo_textLong : Int32) (mo_place : Int32) (mo_value : Int32) (mo_numbers : Nat → Int32) (mo_not : Int32) (o : Int32 × (Nat → Int32)) (hf : fMo_shotNow p1 p2 p3 mo_all = some o) : Ct G l yX8_shotNow cX8_shotNow 7 (some .int) rmMo_shotNow [.ref (qMo 0), .int p1, .int p2, .int p3] (gMo G qMo mo_all mo_past mo_aside mo_states mo_refused mo_causeKind mo_causeOrder mo_corner mo_linkVotes mo_linkE mo_linkF mo_follower mo_ahead mo_least mo_seam mo_above mo_below mo_text mo_textLong mo_place mo_value mo_numbers mo_not) (some (.int o.1)) (gMo G qMo o.2 mo_past mo_aside mo_states mo_refused mo_causeKind mo_causeOrder mo_corner mo_linkVotes mo_linkE mo_linkF mo_follower mo_ahead mo_least mo_seam mo_above mo_below mo_text mo_textLong mo_place mo_value mo_numbers mo_not) := by
  refine Ct.ofI (by decide +kernel) (Nat.le_of_ble_eq_true rfl) (fun p e s m args below meth c A Q E hret => ?_)
  unfold fMo_shotNow at hf
  show V G p l e rmMo_shotNow s m args below meth c 7 A Q 0 0 (gMo G qMo mo_all mo_past mo_aside mo_states mo_refused mo_causeKind mo_causeOrder mo_corner mo_linkVotes mo_linkE mo_linkF mo_follower mo_ahead mo_least mo_seam mo_above mo_below mo_text mo_textLong mo_place mo_value mo_numbers mo_not) 0 [(0, .ref (qMo 0)), (1, .int p1), (2, .int p2), (3, .int p3)] []
  refine V_aload_n E 0 rfl dX8_shotNow_0 ?_
  obtain ⟨u1, hu1, hf⟩ := bd hf
  refine V_frW E (Rn_V E (rest := []) mlX8_59 wd_yX8_many (kMo_many l G qMo mo_all mo_past mo_aside mo_states mo_refused mo_causeKind mo_causeOrder mo_corner mo_linkVotes mo_linkE mo_linkF mo_follower mo_ahead mo_least mo_seam mo_above mo_below mo_text mo_textLong mo_place mo_value mo_numbers mo_not u1 hu1) ⟨rfl, rfl, Nat.le_of_ble_eq_true rfl, Nat.le_of_ble_eq_true rfl⟩ 0 rfl rfl rfl rfl rfl (Nat.le_of_ble_eq_true rfl) dX8_shotNow_1) ?_
  show V G p l e rmMo_shotNow s m args below meth c 7 A Q 0 0 (gMo G qMo mo_all mo_past mo_aside mo_states mo_refused mo_causeKind mo_causeOrder mo_corner mo_linkVotes mo_linkE mo_linkF mo_follower mo_ahead mo_least mo_seam mo_above mo_below mo_text mo_textLong mo_place mo_value mo_numbers mo_not) 4 [(0, .ref (qMo 0)), (1, .int p1), (2, .int p2), (3, .int p3)] [.int u1]
  refine V_istore E (lv' := [(0, .ref (qMo 0)), (1, .int p1), (2, .int p2), (3, .int p3), (4, .int u1)]) dX8_shotNow_4 (by decide) rfl ?_
  refine V_iconst E (v := (0 : Int32)) dX8_shotNow_6 (by decide) ?_
  refine V_istore E (lv' := [(0, .ref (qMo 0)), (1, .int p1), (2, .int p2), (3, .int p3), (4, .int u1), (5, .int (0 : Int32))]) dX8_shotNow_7 (by decide) rfl ?_
  have L9 : ∀ (n : Nat) (a9_5 : Int32) (c9_mo_all : Nat → Int32) (u : (Nat → Int32)), fMo_shotNow_L9 p1 p2 p3 u1 n a9_5 c9_mo_all = some u → (V G p l e rmMo_shotNow s m args below meth c 7 A Q 0 0 (gMo G qMo u mo_past mo_aside mo_states mo_refused mo_causeKind mo_causeOrder mo_corner mo_linkVotes mo_linkE mo_linkF mo_follower mo_ahead mo_least mo_seam mo_above mo_below mo_text mo_textLong mo_place mo_value mo_numbers mo_not) 91 [(0, .ref (qMo 0)), (1, .int p1), (2, .int p2), (4, .int u1)] []) → V G p l e rmMo_shotNow s m args below meth c 7 A Q 0 0 (gMo G qMo c9_mo_all mo_past mo_aside mo_states mo_refused mo_causeKind mo_causeOrder mo_corner mo_linkVotes mo_linkE mo_linkF mo_follower mo_ahead mo_least mo_seam mo_above mo_below mo_text mo_textLong mo_place mo_value mo_numbers mo_not) 9 [(0, .ref (qMo 0)), (1, .int p1), (2, .int p2), (3, .int p3), (4, .int u1), (5, .int a9_5)] [] := by
    intro n
    induction n with
    | zero =>
      intro a9_5 c9_mo_all u hf hk
      rw [fMo_shotNow_L9] at hf
      cases hf
    | succ n ih =>
      intro a9_5 c9_mo_all u hf hk
      rw [fMo_shotNow_L9] at hf
      exact ih a9_5 c9_mo_all _ hf hk
  obtain ⟨u2, hu2, hf⟩ := bd hf
  refine L9 FU (0 : Int32) mo_all u2 hu2 ?_
  refine V_aload_n E 0 rfl dX8_shotNow_91 ?_
  refine gfX8_7 E 0 rfl rfl dX8_shotNow_92 ?_
  refine V_sipush E (v := (196 : Int32)) dX8_shotNow_95 (by decide) ?_
  refine V_bipush E (v := (35 : Int32)) dX8_shotNow_98 (by decide) ?_
  refine V_iload E 3 rfl dX8_shotNow_100 ?_
  refine V_imul E dX8_shotNow_102 ?_
  refine V_iadd E dX8_shotNow_103 ?_
  refine V_bipush E (v := (32 : Int32)) dX8_shotNow_104 (by decide) ?_
  refine V_iadd E dX8_shotNow_106 ?_
  refine V_iload_n E 1 rfl dX8_shotNow_107 ?_
  obtain ⟨hi3, hf⟩ := asr_ok hf
  refine V_iast E (ws' := (gMo G qMo (upd u2 (((196 : Int32) + ((35 : Int32) * u1)) + (32 : Int32)).toNatClampNeg p1) mo_past mo_aside mo_states mo_refused mo_causeKind mo_causeOrder mo_corner mo_linkVotes mo_linkE mo_linkF mo_follower mo_ahead mo_least mo_seam mo_above mo_below mo_text mo_textLong mo_place mo_value mo_numbers mo_not)) 1 rfl hi3 dX8_shotNow_108 rfl ?_
  refine V_aload_n E 0 rfl dX8_shotNow_109 ?_
  refine gfX8_7 E 0 rfl rfl dX8_shotNow_110 ?_
  refine V_sipush E (v := (196 : Int32)) dX8_shotNow_113 (by decide) ?_
  refine V_bipush E (v := (35 : Int32)) dX8_shotNow_116 (by decide) ?_
  refine V_iload E 3 rfl dX8_shotNow_118 ?_
  refine V_imul E dX8_shotNow_120 ?_
  refine V_iadd E dX8_shotNow_121 ?_
  refine V_bipush E (v := (32 : Int32)) dX8_shotNow_122 (by decide) ?_
  refine V_iadd E dX8_shotNow_124 ?_
  refine V_iconst E (v := (1 : Int32)) dX8_shotNow_125 (by decide) ?_
  refine V_iadd E dX8_shotNow_126 ?_
  refine V_iload_n E 2 rfl dX8_shotNow_127 ?_
  obtain ⟨hi4, hf⟩ := asr_ok hf
  refine V_iast E (ws' := (gMo G qMo (upd (upd u2 (((196 : Int32) + ((35 : Int32) * u1)) + (32 : Int32)).toNatClampNeg p1) ((((196 : Int32) + ((35 : Int32) * u1)) + (32 : Int32)) + (1 : Int32)).toNatClampNeg p2) mo_past mo_aside mo_states mo_refused mo_causeKind mo_causeOrder mo_corner mo_linkVotes mo_linkE mo_linkF mo_follower mo_ahead mo_least mo_seam mo_above mo_below mo_text mo_textLong mo_place mo_value mo_numbers mo_not)) 1 rfl hi4 dX8_shotNow_128 rfl ?_
  refine V_aload_n E 0 rfl dX8_shotNow_129 ?_
  refine gfX8_7 E 0 rfl rfl dX8_shotNow_130 ?_
  refine V_sipush E (v := (196 : Int32)) dX8_shotNow_133 (by decide) ?_
  refine V_bipush E (v := (35 : Int32)) dX8_shotNow_136 (by decide) ?_
  refine V_iload E 3 rfl dX8_shotNow_138 ?_
  refine V_imul E dX8_shotNow_140 ?_
  refine V_iadd E dX8_shotNow_141 ?_
  refine V_bipush E (v := (32 : Int32)) dX8_shotNow_142 (by decide) ?_
  refine V_iadd E dX8_shotNow_144 ?_
  refine V_iconst E (v := (2 : Int32)) dX8_shotNow_145 (by decide) ?_
  refine V_iadd E dX8_shotNow_146 ?_
  refine V_aload_n E 0 rfl dX8_shotNow_147 ?_
  refine gfX8_7 E 0 rfl rfl dX8_shotNow_148 ?_
  refine V_iconst E (v := (0 : Int32)) dX8_shotNow_151 (by decide) ?_
  obtain ⟨hi5, hf⟩ := asr_ok hf
  refine V_iald E 1 rfl hi5 dX8_shotNow_152 ?_
  obtain ⟨hi6, hf⟩ := asr_ok hf
  refine V_iast E (ws' := (gMo G qMo (upd (upd (upd u2 (((196 : Int32) + ((35 : Int32) * u1)) + (32 : Int32)).toNatClampNeg p1) ((((196 : Int32) + ((35 : Int32) * u1)) + (32 : Int32)) + (1 : Int32)).toNatClampNeg p2) ((((196 : Int32) + ((35 : Int32) * u1)) + (32 : Int32)) + (2 : Int32)).toNatClampNeg ((upd (upd u2 (((196 : Int32) + ((35 : Int32) * u1)) + (32 : Int32)).toNatClampNeg p1) ((((196 : Int32) + ((35 : Int32) * u1)) + (32 : Int32)) + (1 : Int32)).toNatClampNeg p2) (0 : Int32).toNatClampNeg)) mo_past mo_aside mo_states mo_refused mo_causeKind mo_causeOrder mo_corner mo_linkVotes mo_linkE mo_linkF mo_follower mo_ahead mo_least mo_seam mo_above mo_below mo_text mo_textLong mo_place mo_value mo_numbers mo_not)) 1 rfl hi6 dX8_shotNow_153 rfl ?_
  refine V_aload_n E 0 rfl dX8_shotNow_154 ?_
  refine gfX8_7 E 0 rfl rfl dX8_shotNow_155 ?_
  refine V_iconst E (v := (3 : Int32)) dX8_shotNow_158 (by decide) ?_
  refine V_dup2 E dX8_shotNow_159 rfl rfl ?_
  obtain ⟨hi7, hf⟩ := asr_ok hf
  refine V_iald E 1 rfl hi7 dX8_shotNow_160 ?_
  refine V_iconst E (v := (1 : Int32)) dX8_shotNow_161 (by decide) ?_
  refine V_iadd E dX8_shotNow_162 ?_
  obtain ⟨hi8, hf⟩ := asr_ok hf
  refine V_iast E (ws' := (gMo G qMo (upd (upd (upd (upd u2 (((196 : Int32) + ((35 : Int32) * u1)) + (32 : Int32)).toNatClampNeg p1) ((((196 : Int32) + ((35 : Int32) * u1)) + (32 : Int32)) + (1 : Int32)).toNatClampNeg p2) ((((196 : Int32) + ((35 : Int32) * u1)) + (32 : Int32)) + (2 : Int32)).toNatClampNeg ((upd (upd u2 (((196 : Int32) + ((35 : Int32) * u1)) + (32 : Int32)).toNatClampNeg p1) ((((196 : Int32) + ((35 : Int32) * u1)) + (32 : Int32)) + (1 : Int32)).toNatClampNeg p2) (0 : Int32).toNatClampNeg)) (3 : Int32).toNatClampNeg (((upd (upd (upd u2 (((196 : Int32) + ((35 : Int32) * u1)) + (32 : Int32)).toNatClampNeg p1) ((((196 : Int32) + ((35 : Int32) * u1)) + (32 : Int32)) + (1 : Int32)).toNatClampNeg p2) ((((196 : Int32) + ((35 : Int32) * u1)) + (32 : Int32)) + (2 : Int32)).toNatClampNeg ((upd (upd u2 (((196 : Int32) + ((35 : Int32) * u1)) + (32 : Int32)).toNatClampNeg p1) ((((196 : Int32) + ((35 : Int32) * u1)) + (32 : Int32)) + (1 : Int32)).toNatClampNeg p2) (0 : Int32).toNatClampNeg)) (3 : Int32).toNatClampNeg) + (1 : Int32))) mo_past mo_aside mo_states mo_refused mo_causeKind mo_causeOrder mo_corner mo_linkVotes mo_linkE mo_linkF mo_follower mo_ahead mo_least mo_seam mo_above mo_below mo_text mo_textLong mo_place mo_value mo_numbers mo_not)) 1 rfl hi8 dX8_shotNow_163 rfl ?_
  refine V_iload E 3 rfl dX8_shotNow_164 ?_
  have h9 := hret 166 [(0, .ref (qMo 0)), (1, .int p1), (2, .int p2), (4, .int u1)] dX8_shotNow_166
  rw [← (Option.some.inj hf)] at h9
  exact h9
abbrev rmMo_shot : Room := { frames := 2, cells := 0, slots := 0, locals := 48 }
theorem wd_yX8_shot : wdV yX8_shot cX8_shot 5 (some .int) 3 := ⟨wc_yX8_shot, wi_yX8_shot, wse_yX8_shot, wini_X8, by decide +kernel, by decide +kernel, by decide +kernel⟩
set_option maxHeartbeats 4000000 in
set_option maxRecDepth 100000 in
theorem kMo_shot (l : Launch) (G : wG) (qMo : Nat → Nat) (p1 : Int32) (p2 : Int32) (p3 : Int32) (mo_all : Nat → Int32) (mo_past : Nat → Int32) (mo_aside : Nat → Int32) (mo_states : Int32) (mo_refused : Nat → Int32) (mo_causeKind : Int32) (mo_causeOrder : Int32) (mo_corner : Nat → Int32) (mo_linkVotes : Nat → Int32) (mo_linkE : Nat → Int32) (mo_linkF : Nat → Int32) (mo_follower : Nat → Int32) (mo_ahead : Nat → Int32) (mo_least : Nat → Int32) (mo_seam : Nat → Int32) (mo_above : Int64) (mo_below : Int64) (mo_text : Nat → Int32) (mo_textLong : Int32) (mo_place : Int32) (mo_value : Int32) (mo_numbers : Nat → Int32) (mo_not : Int32) (o : Int32 × (Nat → Int32) × (Nat → Int32) × Int32 × (Nat → Int32)) (hf : fMo_shot p1 p2 p3 mo_all mo_past mo_states mo_refused = some o) : Ct G l yX8_shot cX8_shot 5 (some .int) rmMo_shot [.ref (qMo 0), .int p1, .int p2, .int p3] (gMo G qMo mo_all mo_past mo_aside mo_states mo_refused mo_causeKind mo_causeOrder mo_corner mo_linkVotes mo_linkE mo_linkF mo_follower mo_ahead mo_least mo_seam mo_above mo_below mo_text mo_textLong mo_place mo_value mo_numbers mo_not) (some (.int o.1)) (gMo G qMo o.2.1 o.2.2.1 mo_aside o.2.2.2.1 o.2.2.2.2 mo_causeKind mo_causeOrder mo_corner mo_linkVotes mo_linkE mo_linkF mo_follower mo_ahead mo_least mo_seam mo_above mo_below mo_text mo_textLong mo_place mo_value mo_numbers mo_not) := by
  refine Ct.ofI (by decide +kernel) (Nat.le_of_ble_eq_true rfl) (fun p e s m args below meth c A Q E hret => ?_)
  unfold fMo_shot at hf
  show V G p l e rmMo_shot s m args below meth c 5 A Q 0 0 (gMo G qMo mo_all mo_past mo_aside mo_states mo_refused mo_causeKind mo_causeOrder mo_corner mo_linkVotes mo_linkE mo_linkF mo_follower mo_ahead mo_least mo_seam mo_above mo_below mo_text mo_textLong mo_place mo_value mo_numbers mo_not) 0 [(0, .ref (qMo 0)), (1, .int p1), (2, .int p2), (3, .int p3)] []
  refine V_aload_n E 0 rfl dX8_shot_0 ?_
  refine V_iload_n E 1 rfl dX8_shot_1 ?_
  refine V_iload_n E 2 rfl dX8_shot_2 ?_
  refine V_iload_n E 3 rfl dX8_shot_3 ?_
  obtain ⟨u1, hu1, hf⟩ := bd hf
  refine V_frW E (Rn_V E (rest := []) mlX8_121 wd_yX8_canShoot (kMo_canShoot l G qMo p1 p2 p3 mo_all mo_past mo_aside mo_states mo_refused mo_causeKind mo_causeOrder mo_corner mo_linkVotes mo_linkE mo_linkF mo_follower mo_ahead mo_least mo_seam mo_above mo_below mo_text mo_textLong mo_place mo_value mo_numbers mo_not u1 hu1) ⟨rfl, rfl, Nat.le_of_ble_eq_true rfl, Nat.le_of_ble_eq_true rfl⟩ 0 rfl rfl rfl rfl rfl (Nat.le_of_ble_eq_true rfl) dX8_shot_4) ?_
  show V G p l e rmMo_shot s m args below meth c 5 A Q 0 0 (gMo G qMo mo_all mo_past mo_aside mo_states mo_refused mo_causeKind mo_causeOrder mo_corner mo_linkVotes mo_linkE mo_linkF mo_follower mo_ahead mo_least mo_seam mo_above mo_below mo_text mo_textLong mo_place mo_value mo_numbers mo_not) 7 [(0, .ref (qMo 0)), (1, .int p1), (2, .int p2), (3, .int p3)] [.int u1]
  refine V_istore E (lv' := [(0, .ref (qMo 0)), (1, .int p1), (2, .int p2), (3, .int p3), (4, .int u1)]) dX8_shot_7 (by decide) rfl ?_
  refine V_iload E 4 rfl dX8_shot_9 ?_
  refine V_if_ge E (tgt := 21) dX8_shot_11 (by decide) (fun hc2 => ?_) (fun hc2 => ?_)
  · have hf := ip hc2 hf
    refine V_aload_n E 0 rfl dX8_shot_21 ?_
    obtain ⟨u3, hu3, hf⟩ := bd hf
    refine V_frW E (Rn_V E (rest := []) mlX8_95 wd_yX8_keep (kMo_keep l G qMo mo_all mo_past mo_aside mo_states mo_refused mo_causeKind mo_causeOrder mo_corner mo_linkVotes mo_linkE mo_linkF mo_follower mo_ahead mo_least mo_seam mo_above mo_below mo_text mo_textLong mo_place mo_value mo_numbers mo_not u3 hu3) ⟨rfl, rfl, Nat.le_of_ble_eq_true rfl, Nat.le_of_ble_eq_true rfl⟩ 0 rfl rfl rfl rfl rfl (Nat.le_of_ble_eq_true rfl) dX8_shot_22) ?_
    show V G p l e rmMo_shot s m args below meth c 5 A Q 0 0 (gMo G qMo mo_all u3.1 mo_aside u3.2 mo_refused mo_causeKind mo_causeOrder mo_corner mo_linkVotes mo_linkE mo_linkF mo_follower mo_ahead mo_least mo_seam mo_above mo_below mo_text mo_textLong mo_place mo_value mo_numbers mo_not) 25 [(0, .ref (qMo 0)), (1, .int p1), (2, .int p2), (3, .int p3), (4, .int u1)] []
    refine V_aload_n E 0 rfl dX8_shot_25 ?_
    refine V_iload_n E 1 rfl dX8_shot_26 ?_
    refine V_iload_n E 2 rfl dX8_shot_27 ?_
    refine V_iload_n E 3 rfl dX8_shot_28 ?_
    obtain ⟨u4, hu4, hf⟩ := bd hf
    refine V_frW E (Rn_V E (rest := []) mlX8_125 wd_yX8_shotNow (kMo_shotNow l G qMo p1 p2 p3 mo_all u3.1 mo_aside u3.2 mo_refused mo_causeKind mo_causeOrder mo_corner mo_linkVotes mo_linkE mo_linkF mo_follower mo_ahead mo_least mo_seam mo_above mo_below mo_text mo_textLong mo_place mo_value mo_numbers mo_not u4 hu4) ⟨rfl, rfl, Nat.le_of_ble_eq_true rfl, Nat.le_of_ble_eq_true rfl⟩ 0 rfl rfl rfl rfl rfl (Nat.le_of_ble_eq_true rfl) dX8_shot_29) ?_
    show V G p l e rmMo_shot s m args below meth c 5 A Q 0 0 (gMo G qMo u4.2 u3.1 mo_aside u3.2 mo_refused mo_causeKind mo_causeOrder mo_corner mo_linkVotes mo_linkE mo_linkF mo_follower mo_ahead mo_least mo_seam mo_above mo_below mo_text mo_textLong mo_place mo_value mo_numbers mo_not) 32 [(0, .ref (qMo 0)), (1, .int p1), (2, .int p2), (3, .int p3), (4, .int u1)] [.int u4.1]
    have h9 := hret 32 [(0, .ref (qMo 0)), (1, .int p1), (2, .int p2), (3, .int p3), (4, .int u1)] dX8_shot_32
    rw [← (Option.some.inj hf)] at h9
    exact h9
  · have hf := iq hc2 hf
    refine V_aload_n E 0 rfl dX8_shot_14 ?_
    refine V_iload E 4 rfl dX8_shot_15 ?_
    obtain ⟨u5, hu5, hf⟩ := bd hf
    refine V_frW E (Rn_V E (rest := []) mlX8_91 wd_yX8_refuses (kMo_refuses l G qMo u1 mo_all mo_past mo_aside mo_states mo_refused mo_causeKind mo_causeOrder mo_corner mo_linkVotes mo_linkE mo_linkF mo_follower mo_ahead mo_least mo_seam mo_above mo_below mo_text mo_textLong mo_place mo_value mo_numbers mo_not u5 hu5) ⟨rfl, rfl, Nat.le_of_ble_eq_true rfl, Nat.le_of_ble_eq_true rfl⟩ 0 rfl rfl rfl rfl rfl (Nat.le_of_ble_eq_true rfl) dX8_shot_17) ?_
    show V G p l e rmMo_shot s m args below meth c 5 A Q 0 0 (gMo G qMo mo_all mo_past mo_aside mo_states u5.2 mo_causeKind mo_causeOrder mo_corner mo_linkVotes mo_linkE mo_linkF mo_follower mo_ahead mo_least mo_seam mo_above mo_below mo_text mo_textLong mo_place mo_value mo_numbers mo_not) 20 [(0, .ref (qMo 0)), (1, .int p1), (2, .int p2), (3, .int p3), (4, .int u1)] [.int u5.1]
    have h9 := hret 20 [(0, .ref (qMo 0)), (1, .int p1), (2, .int p2), (3, .int p3), (4, .int u1)] dX8_shot_20
    rw [← (Option.some.inj hf)] at h9
    exact h9
abbrev rmMo_paint : Room := { frames := 2, cells := 0, slots := 0, locals := 46 }
theorem wd_yX8_paint : wdV yX8_paint cX8_paint 5 (some .int) 4 := ⟨wc_yX8_paint, wi_yX8_paint, wse_yX8_paint, wini_X8, by decide +kernel, by decide +kernel, by decide +kernel⟩
set_option maxHeartbeats 4000000 in
set_option maxRecDepth 100000 in
theorem kMo_paint (l : Launch) (G : wG) (qMo : Nat → Nat) (p1 : Int32) (p2 : Int32) (p3 : Int32) (p4 : Int32) (mo_all : Nat → Int32) (mo_past : Nat → Int32) (mo_aside : Nat → Int32) (mo_states : Int32) (mo_refused : Nat → Int32) (mo_causeKind : Int32) (mo_causeOrder : Int32) (mo_corner : Nat → Int32) (mo_linkVotes : Nat → Int32) (mo_linkE : Nat → Int32) (mo_linkF : Nat → Int32) (mo_follower : Nat → Int32) (mo_ahead : Nat → Int32) (mo_least : Nat → Int32) (mo_seam : Nat → Int32) (mo_above : Int64) (mo_below : Int64) (mo_text : Nat → Int32) (mo_textLong : Int32) (mo_place : Int32) (mo_value : Int32) (mo_numbers : Nat → Int32) (mo_not : Int32) (o : Int32 × (Nat → Int32) × (Nat → Int32) × Int32 × (Nat → Int32)) (hf : fMo_paint p1 p2 p3 p4 mo_all mo_past mo_states mo_refused = some o) : Ct G l yX8_paint cX8_paint 5 (some .int) rmMo_paint [.ref (qMo 0), .int p1, .int p2, .int p3, .int p4] (gMo G qMo mo_all mo_past mo_aside mo_states mo_refused mo_causeKind mo_causeOrder mo_corner mo_linkVotes mo_linkE mo_linkF mo_follower mo_ahead mo_least mo_seam mo_above mo_below mo_text mo_textLong mo_place mo_value mo_numbers mo_not) (some (.int o.1)) (gMo G qMo o.2.1 o.2.2.1 mo_aside o.2.2.2.1 o.2.2.2.2 mo_causeKind mo_causeOrder mo_corner mo_linkVotes mo_linkE mo_linkF mo_follower mo_ahead mo_least mo_seam mo_above mo_below mo_text mo_textLong mo_place mo_value mo_numbers mo_not) := by
  refine Ct.ofI (by decide +kernel) (Nat.le_of_ble_eq_true rfl) (fun p e s m args below meth c A Q E hret => ?_)
  unfold fMo_paint at hf
  show V G p l e rmMo_paint s m args below meth c 5 A Q 0 0 (gMo G qMo mo_all mo_past mo_aside mo_states mo_refused mo_causeKind mo_causeOrder mo_corner mo_linkVotes mo_linkE mo_linkF mo_follower mo_ahead mo_least mo_seam mo_above mo_below mo_text mo_textLong mo_place mo_value mo_numbers mo_not) 0 [(0, .ref (qMo 0)), (1, .int p1), (2, .int p2), (3, .int p3), (4, .int p4)] []
  refine V_aload_n E 0 rfl dX8_paint_0 ?_
  refine V_iload_n E 1 rfl dX8_paint_1 ?_
  obtain ⟨u1, hu1, hf⟩ := bd hf
  refine V_frW E (Rn_V E (rest := []) mlX8_128 wd_yX8_isPicture (kMo_isPicture l G qMo p1 mo_all mo_past mo_aside mo_states mo_refused mo_causeKind mo_causeOrder mo_corner mo_linkVotes mo_linkE mo_linkF mo_follower mo_ahead mo_least mo_seam mo_above mo_below mo_text mo_textLong mo_place mo_value mo_numbers mo_not u1 hu1) ⟨rfl, rfl, Nat.le_of_ble_eq_true rfl, Nat.le_of_ble_eq_true rfl⟩ 0 rfl rfl rfl rfl rfl (Nat.le_of_ble_eq_true rfl) dX8_paint_2) ?_
  show V G p l e rmMo_paint s m args below meth c 5 A Q 0 0 (gMo G qMo mo_all mo_past mo_aside mo_states mo_refused mo_causeKind mo_causeOrder mo_corner mo_linkVotes mo_linkE mo_linkF mo_follower mo_ahead mo_least mo_seam mo_above mo_below mo_text mo_textLong mo_place mo_value mo_numbers mo_not) 5 [(0, .ref (qMo 0)), (1, .int p1), (2, .int p2), (3, .int p3), (4, .int p4)] [.int u1]
  refine V_if_eq E (tgt := 29) dX8_paint_5 (by decide) (fun hc2 => ?_) (fun hc2 => ?_)
  · have hf := ip hc2 hf
    refine V_aload_n E 0 rfl dX8_paint_29 ?_
    refine V_bipush E (v := (-2 : Int32)) dX8_paint_30 (by decide) ?_
    obtain ⟨u3, hu3, hf⟩ := bd hf
    refine V_frW E (Rn_V E (rest := []) mlX8_91 wd_yX8_refuses (kMo_refuses l G qMo (-2 : Int32) mo_all mo_past mo_aside mo_states mo_refused mo_causeKind mo_causeOrder mo_corner mo_linkVotes mo_linkE mo_linkF mo_follower mo_ahead mo_least mo_seam mo_above mo_below mo_text mo_textLong mo_place mo_value mo_numbers mo_not u3 hu3) ⟨rfl, rfl, Nat.le_of_ble_eq_true rfl, Nat.le_of_ble_eq_true rfl⟩ 0 rfl rfl rfl rfl rfl (Nat.le_of_ble_eq_true rfl) dX8_paint_32) ?_
    show V G p l e rmMo_paint s m args below meth c 5 A Q 0 0 (gMo G qMo mo_all mo_past mo_aside mo_states u3.2 mo_causeKind mo_causeOrder mo_corner mo_linkVotes mo_linkE mo_linkF mo_follower mo_ahead mo_least mo_seam mo_above mo_below mo_text mo_textLong mo_place mo_value mo_numbers mo_not) 35 [(0, .ref (qMo 0)), (1, .int p1), (2, .int p2), (3, .int p3), (4, .int p4)] [.int u3.1]
    have h9 := hret 35 [(0, .ref (qMo 0)), (1, .int p1), (2, .int p2), (3, .int p3), (4, .int p4)] dX8_paint_35
    rw [← (Option.some.inj hf)] at h9
    exact h9
  · have hf := iq hc2 hf
    refine V_iload_n E 2 rfl dX8_paint_8 ?_
    refine V_iload_n E 3 rfl dX8_paint_9 ?_
    obtain ⟨u4, hu4, hf⟩ := bd hf
    refine V_fr0 E (Rn_S E (rest := []) mlX8_132 wd_yX8_isCell (kMo_isCell l G p2 p3 u4 hu4) ⟨rfl, rfl, Nat.le_of_ble_eq_true rfl, Nat.le_of_ble_eq_true rfl⟩ rfl rfl (Nat.le_of_ble_eq_true rfl) dX8_paint_10) ?_
    show V G p l e rmMo_paint s m args below meth c 5 A Q 0 0 (gMo G qMo mo_all mo_past mo_aside mo_states mo_refused mo_causeKind mo_causeOrder mo_corner mo_linkVotes mo_linkE mo_linkF mo_follower mo_ahead mo_least mo_seam mo_above mo_below mo_text mo_textLong mo_place mo_value mo_numbers mo_not) 13 [(0, .ref (qMo 0)), (1, .int p1), (2, .int p2), (3, .int p3), (4, .int p4)] [.int u4]
    refine V_if_eq E (tgt := 29) dX8_paint_13 (by decide) (fun hc5 => ?_) (fun hc5 => ?_)
    · have hf := ip hc5 hf
      refine V_aload_n E 0 rfl dX8_paint_29 ?_
      refine V_bipush E (v := (-2 : Int32)) dX8_paint_30 (by decide) ?_
      obtain ⟨u6, hu6, hf⟩ := bd hf
      refine V_frW E (Rn_V E (rest := []) mlX8_91 wd_yX8_refuses (kMo_refuses l G qMo (-2 : Int32) mo_all mo_past mo_aside mo_states mo_refused mo_causeKind mo_causeOrder mo_corner mo_linkVotes mo_linkE mo_linkF mo_follower mo_ahead mo_least mo_seam mo_above mo_below mo_text mo_textLong mo_place mo_value mo_numbers mo_not u6 hu6) ⟨rfl, rfl, Nat.le_of_ble_eq_true rfl, Nat.le_of_ble_eq_true rfl⟩ 0 rfl rfl rfl rfl rfl (Nat.le_of_ble_eq_true rfl) dX8_paint_32) ?_
      show V G p l e rmMo_paint s m args below meth c 5 A Q 0 0 (gMo G qMo mo_all mo_past mo_aside mo_states u6.2 mo_causeKind mo_causeOrder mo_corner mo_linkVotes mo_linkE mo_linkF mo_follower mo_ahead mo_least mo_seam mo_above mo_below mo_text mo_textLong mo_place mo_value mo_numbers mo_not) 35 [(0, .ref (qMo 0)), (1, .int p1), (2, .int p2), (3, .int p3), (4, .int p4)] [.int u6.1]
      have h9 := hret 35 [(0, .ref (qMo 0)), (1, .int p1), (2, .int p2), (3, .int p3), (4, .int p4)] dX8_paint_35
      rw [← (Option.some.inj hf)] at h9
      exact h9
    · have hf := iq hc5 hf
      refine V_iload E 4 rfl dX8_paint_16 ?_
      refine V_i2l E dX8_paint_18 ?_
      refine V_lconst E (v := (0 : Int64)) dX8_paint_19 (by decide) ?_
      refine V_ldc2 E (v := (63 : Int64)) dX8_paint_20 kX8_107 ?_
      obtain ⟨u7, hu7, hf⟩ := bd hf
      refine V_fr0 E (Rn_S E (rest := []) mlX8_63 wd_yX8_in (kMo_in l G p4.toInt64 (0 : Int64) (63 : Int64) u7 hu7) ⟨rfl, rfl, Nat.le_of_ble_eq_true rfl, Nat.le_of_ble_eq_true rfl⟩ rfl rfl (Nat.le_of_ble_eq_true rfl) dX8_paint_23) ?_
      show V G p l e rmMo_paint s m args below meth c 5 A Q 0 0 (gMo G qMo mo_all mo_past mo_aside mo_states mo_refused mo_causeKind mo_causeOrder mo_corner mo_linkVotes mo_linkE mo_linkF mo_follower mo_ahead mo_least mo_seam mo_above mo_below mo_text mo_textLong mo_place mo_value mo_numbers mo_not) 26 [(0, .ref (qMo 0)), (1, .int p1), (2, .int p2), (3, .int p3), (4, .int p4)] [.int u7]
      refine V_if_ne E (tgt := 36) dX8_paint_26 (by decide) (fun hc8 => ?_) (fun hc8 => ?_)
      · have hf := iq hc8 hf
        refine V_aload_n E 0 rfl dX8_paint_36 ?_
        obtain ⟨u9, hu9, hf⟩ := bd hf
        refine V_frW E (Rn_V E (rest := []) mlX8_95 wd_yX8_keep (kMo_keep l G qMo mo_all mo_past mo_aside mo_states mo_refused mo_causeKind mo_causeOrder mo_corner mo_linkVotes mo_linkE mo_linkF mo_follower mo_ahead mo_least mo_seam mo_above mo_below mo_text mo_textLong mo_place mo_value mo_numbers mo_not u9 hu9) ⟨rfl, rfl, Nat.le_of_ble_eq_true rfl, Nat.le_of_ble_eq_true rfl⟩ 0 rfl rfl rfl rfl rfl (Nat.le_of_ble_eq_true rfl) dX8_paint_37) ?_
        show V G p l e rmMo_paint s m args below meth c 5 A Q 0 0 (gMo G qMo mo_all u9.1 mo_aside u9.2 mo_refused mo_causeKind mo_causeOrder mo_corner mo_linkVotes mo_linkE mo_linkF mo_follower mo_ahead mo_least mo_seam mo_above mo_below mo_text mo_textLong mo_place mo_value mo_numbers mo_not) 40 [(0, .ref (qMo 0)), (1, .int p1), (2, .int p2), (3, .int p3), (4, .int p4)] []
        refine V_aload_n E 0 rfl dX8_paint_40 ?_
        refine V_sipush E (v := (196 : Int32)) dX8_paint_41 (by decide) ?_
        refine V_bipush E (v := (35 : Int32)) dX8_paint_44 (by decide) ?_
        refine V_iload_n E 1 rfl dX8_paint_46 ?_
        refine V_imul E dX8_paint_47 ?_
        refine V_iadd E dX8_paint_48 ?_
        refine V_bipush E (v := (8 : Int32)) dX8_paint_49 (by decide) ?_
        refine V_iload_n E 2 rfl dX8_paint_51 ?_
        refine V_imul E dX8_paint_52 ?_
        refine V_iadd E dX8_paint_53 ?_
        refine V_iload_n E 3 rfl dX8_paint_54 ?_
        refine V_iadd E dX8_paint_55 ?_
        refine V_iload E 4 rfl dX8_paint_56 ?_
        obtain ⟨u10, hu10, hf⟩ := bd hf
        refine V_frW E (Rn_V E (rest := []) mlX8_109 wd_yX8_cellNow (kMo_cellNow l G qMo ((((196 : Int32) + ((35 : Int32) * p1)) + ((8 : Int32) * p2)) + p3) p4 mo_all u9.1 mo_aside u9.2 mo_refused mo_causeKind mo_causeOrder mo_corner mo_linkVotes mo_linkE mo_linkF mo_follower mo_ahead mo_least mo_seam mo_above mo_below mo_text mo_textLong mo_place mo_value mo_numbers mo_not u10 hu10) ⟨rfl, rfl, Nat.le_of_ble_eq_true rfl, Nat.le_of_ble_eq_true rfl⟩ 0 rfl rfl rfl rfl rfl (Nat.le_of_ble_eq_true rfl) dX8_paint_58) ?_
        show V G p l e rmMo_paint s m args below meth c 5 A Q 0 0 (gMo G qMo u10.2 u9.1 mo_aside u9.2 mo_refused mo_causeKind mo_causeOrder mo_corner mo_linkVotes mo_linkE mo_linkF mo_follower mo_ahead mo_least mo_seam mo_above mo_below mo_text mo_textLong mo_place mo_value mo_numbers mo_not) 61 [(0, .ref (qMo 0)), (1, .int p1), (2, .int p2), (3, .int p3), (4, .int p4)] [.int u10.1]
        have h9 := hret 61 [(0, .ref (qMo 0)), (1, .int p1), (2, .int p2), (3, .int p3), (4, .int p4)] dX8_paint_61
        rw [← (Option.some.inj hf)] at h9
        exact h9
      · have hf := ip hc8 hf
        refine V_aload_n E 0 rfl dX8_paint_29 ?_
        refine V_bipush E (v := (-2 : Int32)) dX8_paint_30 (by decide) ?_
        obtain ⟨u11, hu11, hf⟩ := bd hf
        refine V_frW E (Rn_V E (rest := []) mlX8_91 wd_yX8_refuses (kMo_refuses l G qMo (-2 : Int32) mo_all mo_past mo_aside mo_states mo_refused mo_causeKind mo_causeOrder mo_corner mo_linkVotes mo_linkE mo_linkF mo_follower mo_ahead mo_least mo_seam mo_above mo_below mo_text mo_textLong mo_place mo_value mo_numbers mo_not u11 hu11) ⟨rfl, rfl, Nat.le_of_ble_eq_true rfl, Nat.le_of_ble_eq_true rfl⟩ 0 rfl rfl rfl rfl rfl (Nat.le_of_ble_eq_true rfl) dX8_paint_32) ?_
        show V G p l e rmMo_paint s m args below meth c 5 A Q 0 0 (gMo G qMo mo_all mo_past mo_aside mo_states u11.2 mo_causeKind mo_causeOrder mo_corner mo_linkVotes mo_linkE mo_linkF mo_follower mo_ahead mo_least mo_seam mo_above mo_below mo_text mo_textLong mo_place mo_value mo_numbers mo_not) 35 [(0, .ref (qMo 0)), (1, .int p1), (2, .int p2), (3, .int p3), (4, .int p4)] [.int u11.1]
        have h9 := hret 35 [(0, .ref (qMo 0)), (1, .int p1), (2, .int p2), (3, .int p3), (4, .int p4)] dX8_paint_35
        rw [← (Option.some.inj hf)] at h9
        exact h9
abbrev rmMo_dropNow : Room := { frames := 1, cells := 0, slots := 0, locals := 20 }
theorem wd_yX8_dropNow : wdV yX8_dropNow cX8_dropNow 3 (some .int) 1 := ⟨wc_yX8_dropNow, wi_yX8_dropNow, wse_yX8_dropNow, wini_X8, by decide +kernel, by decide +kernel, by decide +kernel⟩
set_option maxHeartbeats 4000000 in
set_option maxRecDepth 100000 in
theorem kMo_dropNow (l : Launch) (G : wG) (qMo : Nat → Nat) (p1 : Int32) (mo_all : Nat → Int32) (mo_past : Nat → Int32) (mo_aside : Nat → Int32) (mo_states : Int32) (mo_refused : Nat → Int32) (mo_causeKind : Int32) (mo_causeOrder : Int32) (mo_corner : Nat → Int32) (mo_linkVotes : Nat → Int32) (mo_linkE : Nat → Int32) (mo_linkF : Nat → Int32) (mo_follower : Nat → Int32) (mo_ahead : Nat → Int32) (mo_least : Nat → Int32) (mo_seam : Nat → Int32) (mo_above : Int64) (mo_below : Int64) (mo_text : Nat → Int32) (mo_textLong : Int32) (mo_place : Int32) (mo_value : Int32) (mo_numbers : Nat → Int32) (mo_not : Int32) (o : Int32 × (Nat → Int32)) (hf : fMo_dropNow p1 mo_all = some o) : Ct G l yX8_dropNow cX8_dropNow 3 (some .int) rmMo_dropNow [.ref (qMo 0), .int p1] (gMo G qMo mo_all mo_past mo_aside mo_states mo_refused mo_causeKind mo_causeOrder mo_corner mo_linkVotes mo_linkE mo_linkF mo_follower mo_ahead mo_least mo_seam mo_above mo_below mo_text mo_textLong mo_place mo_value mo_numbers mo_not) (some (.int o.1)) (gMo G qMo o.2 mo_past mo_aside mo_states mo_refused mo_causeKind mo_causeOrder mo_corner mo_linkVotes mo_linkE mo_linkF mo_follower mo_ahead mo_least mo_seam mo_above mo_below mo_text mo_textLong mo_place mo_value mo_numbers mo_not) := by
  refine Ct.ofI (by decide +kernel) (Nat.le_of_ble_eq_true rfl) (fun p e s m args below meth c A Q E hret => ?_)
  unfold fMo_dropNow at hf
  show V G p l e rmMo_dropNow s m args below meth c 3 A Q 0 0 (gMo G qMo mo_all mo_past mo_aside mo_states mo_refused mo_causeKind mo_causeOrder mo_corner mo_linkVotes mo_linkE mo_linkF mo_follower mo_ahead mo_least mo_seam mo_above mo_below mo_text mo_textLong mo_place mo_value mo_numbers mo_not) 0 [(0, .ref (qMo 0)), (1, .int p1)] []
  refine V_sipush E (v := (196 : Int32)) dX8_dropNow_0 (by decide) ?_
  refine V_bipush E (v := (35 : Int32)) dX8_dropNow_3 (by decide) ?_
  refine V_iload_n E 1 rfl dX8_dropNow_5 ?_
  refine V_imul E dX8_dropNow_6 ?_
  refine V_iadd E dX8_dropNow_7 ?_
  obtain ⟨t1, ht1, hf⟩ := bd hf
  have ht1 := Option.some.inj ht1
  rw [ht1]
  refine V_istore_n E (lv' := [(0, .ref (qMo 0)), (1, .int p1), (2, .int t1)]) dX8_dropNow_8 (by decide) rfl ?_
  have L9 : ∀ (n : Nat) (a9_2 : Int32) (c9_mo_all : Nat → Int32) (u : (Nat → Int32)), fMo_dropNow_L9 n a9_2 c9_mo_all = some u → (V G p l e rmMo_dropNow s m args below meth c 3 A Q 0 0 (gMo G qMo u mo_past mo_aside mo_states mo_refused mo_causeKind mo_causeOrder mo_corner mo_linkVotes mo_linkE mo_linkF mo_follower mo_ahead mo_least mo_seam mo_above mo_below mo_text mo_textLong mo_place mo_value mo_numbers mo_not) 47 [(0, .ref (qMo 0))] []) → V G p l e rmMo_dropNow s m args below meth c 3 A Q 0 0 (gMo G qMo c9_mo_all mo_past mo_aside mo_states mo_refused mo_causeKind mo_causeOrder mo_corner mo_linkVotes mo_linkE mo_linkF mo_follower mo_ahead mo_least mo_seam mo_above mo_below mo_text mo_textLong mo_place mo_value mo_numbers mo_not) 9 [(0, .ref (qMo 0)), (2, .int a9_2)] [] := by
    intro n
    induction n with
    | zero =>
      intro a9_2 c9_mo_all u hf hk
      rw [fMo_dropNow_L9] at hf
      cases hf
    | succ n ih =>
      intro a9_2 c9_mo_all u hf hk
      rw [fMo_dropNow_L9] at hf
      exact ih a9_2 c9_mo_all _ hf hk
  refine V_sub [0, 2] rfl ?_
  obtain ⟨u2, hu2, hf⟩ := bd hf
  refine L9 FU t1 mo_all u2 hu2 ?_
  refine V_aload_n E 0 rfl dX8_dropNow_47 ?_
  refine gfX8_7 E 0 rfl rfl dX8_dropNow_48 ?_
  refine V_iconst E (v := (3 : Int32)) dX8_dropNow_51 (by decide) ?_
  refine V_dup2 E dX8_dropNow_52 rfl rfl ?_
  obtain ⟨hi3, hf⟩ := asr_ok hf
  refine V_iald E 1 rfl hi3 dX8_dropNow_53 ?_
  refine V_iconst E (v := (1 : Int32)) dX8_dropNow_54 (by decide) ?_
  refine V_isub E dX8_dropNow_55 ?_
  obtain ⟨hi4, hf⟩ := asr_ok hf
  refine V_iast E (ws' := (gMo G qMo (upd u2 (3 : Int32).toNatClampNeg ((u2 (3 : Int32).toNatClampNeg) - (1 : Int32))) mo_past mo_aside mo_states mo_refused mo_causeKind mo_causeOrder mo_corner mo_linkVotes mo_linkE mo_linkF mo_follower mo_ahead mo_least mo_seam mo_above mo_below mo_text mo_textLong mo_place mo_value mo_numbers mo_not)) 1 rfl hi4 dX8_dropNow_56 rfl ?_
  refine V_aload_n E 0 rfl dX8_dropNow_57 ?_
  obtain ⟨u5, hu5, hf⟩ := bd hf
  refine V_frW E (Rn_V E (rest := []) mlX8_59 wd_yX8_many (kMo_many l G qMo (upd u2 (3 : Int32).toNatClampNeg ((u2 (3 : Int32).toNatClampNeg) - (1 : Int32))) mo_past mo_aside mo_states mo_refused mo_causeKind mo_causeOrder mo_corner mo_linkVotes mo_linkE mo_linkF mo_follower mo_ahead mo_least mo_seam mo_above mo_below mo_text mo_textLong mo_place mo_value mo_numbers mo_not u5 hu5) ⟨rfl, rfl, Nat.le_of_ble_eq_true rfl, Nat.le_of_ble_eq_true rfl⟩ 0 rfl rfl rfl rfl rfl (Nat.le_of_ble_eq_true rfl) dX8_dropNow_58) ?_
  show V G p l e rmMo_dropNow s m args below meth c 3 A Q 0 0 (gMo G qMo (upd u2 (3 : Int32).toNatClampNeg ((u2 (3 : Int32).toNatClampNeg) - (1 : Int32))) mo_past mo_aside mo_states mo_refused mo_causeKind mo_causeOrder mo_corner mo_linkVotes mo_linkE mo_linkF mo_follower mo_ahead mo_least mo_seam mo_above mo_below mo_text mo_textLong mo_place mo_value mo_numbers mo_not) 61 [(0, .ref (qMo 0))] [.int u5]
  have h9 := hret 61 [(0, .ref (qMo 0))] dX8_dropNow_61
  rw [← (Option.some.inj hf)] at h9
  exact h9
abbrev rmMo_drops : Room := { frames := 2, cells := 0, slots := 0, locals := 46 }
theorem wd_yX8_drops : wdV yX8_drops cX8_drops 2 (some .int) 1 := ⟨wc_yX8_drops, wi_yX8_drops, wse_yX8_drops, wini_X8, by decide +kernel, by decide +kernel, by decide +kernel⟩
set_option maxHeartbeats 4000000 in
set_option maxRecDepth 100000 in
theorem kMo_drops (l : Launch) (G : wG) (qMo : Nat → Nat) (p1 : Int32) (mo_all : Nat → Int32) (mo_past : Nat → Int32) (mo_aside : Nat → Int32) (mo_states : Int32) (mo_refused : Nat → Int32) (mo_causeKind : Int32) (mo_causeOrder : Int32) (mo_corner : Nat → Int32) (mo_linkVotes : Nat → Int32) (mo_linkE : Nat → Int32) (mo_linkF : Nat → Int32) (mo_follower : Nat → Int32) (mo_ahead : Nat → Int32) (mo_least : Nat → Int32) (mo_seam : Nat → Int32) (mo_above : Int64) (mo_below : Int64) (mo_text : Nat → Int32) (mo_textLong : Int32) (mo_place : Int32) (mo_value : Int32) (mo_numbers : Nat → Int32) (mo_not : Int32) (o : Int32 × (Nat → Int32) × (Nat → Int32) × Int32 × (Nat → Int32)) (hf : fMo_drops p1 mo_all mo_past mo_states mo_refused = some o) : Ct G l yX8_drops cX8_drops 2 (some .int) rmMo_drops [.ref (qMo 0), .int p1] (gMo G qMo mo_all mo_past mo_aside mo_states mo_refused mo_causeKind mo_causeOrder mo_corner mo_linkVotes mo_linkE mo_linkF mo_follower mo_ahead mo_least mo_seam mo_above mo_below mo_text mo_textLong mo_place mo_value mo_numbers mo_not) (some (.int o.1)) (gMo G qMo o.2.1 o.2.2.1 mo_aside o.2.2.2.1 o.2.2.2.2 mo_causeKind mo_causeOrder mo_corner mo_linkVotes mo_linkE mo_linkF mo_follower mo_ahead mo_least mo_seam mo_above mo_below mo_text mo_textLong mo_place mo_value mo_numbers mo_not) := by
  refine Ct.ofI (by decide +kernel) (Nat.le_of_ble_eq_true rfl) (fun p e s m args below meth c A Q E hret => ?_)
  unfold fMo_drops at hf
  show V G p l e rmMo_drops s m args below meth c 2 A Q 0 0 (gMo G qMo mo_all mo_past mo_aside mo_states mo_refused mo_causeKind mo_causeOrder mo_corner mo_linkVotes mo_linkE mo_linkF mo_follower mo_ahead mo_least mo_seam mo_above mo_below mo_text mo_textLong mo_place mo_value mo_numbers mo_not) 0 [(0, .ref (qMo 0)), (1, .int p1)] []
  refine V_aload_n E 0 rfl dX8_drops_0 ?_
  refine V_iload_n E 1 rfl dX8_drops_1 ?_
  obtain ⟨u1, hu1, hf⟩ := bd hf
  refine V_frW E (Rn_V E (rest := []) mlX8_128 wd_yX8_isPicture (kMo_isPicture l G qMo p1 mo_all mo_past mo_aside mo_states mo_refused mo_causeKind mo_causeOrder mo_corner mo_linkVotes mo_linkE mo_linkF mo_follower mo_ahead mo_least mo_seam mo_above mo_below mo_text mo_textLong mo_place mo_value mo_numbers mo_not u1 hu1) ⟨rfl, rfl, Nat.le_of_ble_eq_true rfl, Nat.le_of_ble_eq_true rfl⟩ 0 rfl rfl rfl rfl rfl (Nat.le_of_ble_eq_true rfl) dX8_drops_2) ?_
  show V G p l e rmMo_drops s m args below meth c 2 A Q 0 0 (gMo G qMo mo_all mo_past mo_aside mo_states mo_refused mo_causeKind mo_causeOrder mo_corner mo_linkVotes mo_linkE mo_linkF mo_follower mo_ahead mo_least mo_seam mo_above mo_below mo_text mo_textLong mo_place mo_value mo_numbers mo_not) 5 [(0, .ref (qMo 0)), (1, .int p1)] [.int u1]
  refine V_if_ne E (tgt := 15) dX8_drops_5 (by decide) (fun hc2 => ?_) (fun hc2 => ?_)
  · have hf := iq hc2 hf
    refine V_aload_n E 0 rfl dX8_drops_15 ?_
    obtain ⟨u3, hu3, hf⟩ := bd hf
    refine V_frW E (Rn_V E (rest := []) mlX8_95 wd_yX8_keep (kMo_keep l G qMo mo_all mo_past mo_aside mo_states mo_refused mo_causeKind mo_causeOrder mo_corner mo_linkVotes mo_linkE mo_linkF mo_follower mo_ahead mo_least mo_seam mo_above mo_below mo_text mo_textLong mo_place mo_value mo_numbers mo_not u3 hu3) ⟨rfl, rfl, Nat.le_of_ble_eq_true rfl, Nat.le_of_ble_eq_true rfl⟩ 0 rfl rfl rfl rfl rfl (Nat.le_of_ble_eq_true rfl) dX8_drops_16) ?_
    show V G p l e rmMo_drops s m args below meth c 2 A Q 0 0 (gMo G qMo mo_all u3.1 mo_aside u3.2 mo_refused mo_causeKind mo_causeOrder mo_corner mo_linkVotes mo_linkE mo_linkF mo_follower mo_ahead mo_least mo_seam mo_above mo_below mo_text mo_textLong mo_place mo_value mo_numbers mo_not) 19 [(0, .ref (qMo 0)), (1, .int p1)] []
    refine V_aload_n E 0 rfl dX8_drops_19 ?_
    refine V_iload_n E 1 rfl dX8_drops_20 ?_
    obtain ⟨u4, hu4, hf⟩ := bd hf
    refine V_frW E (Rn_V E (rest := []) mlX8_135 wd_yX8_dropNow (kMo_dropNow l G qMo p1 mo_all u3.1 mo_aside u3.2 mo_refused mo_causeKind mo_causeOrder mo_corner mo_linkVotes mo_linkE mo_linkF mo_follower mo_ahead mo_least mo_seam mo_above mo_below mo_text mo_textLong mo_place mo_value mo_numbers mo_not u4 hu4) ⟨rfl, rfl, Nat.le_of_ble_eq_true rfl, Nat.le_of_ble_eq_true rfl⟩ 0 rfl rfl rfl rfl rfl (Nat.le_of_ble_eq_true rfl) dX8_drops_21) ?_
    show V G p l e rmMo_drops s m args below meth c 2 A Q 0 0 (gMo G qMo u4.2 u3.1 mo_aside u3.2 mo_refused mo_causeKind mo_causeOrder mo_corner mo_linkVotes mo_linkE mo_linkF mo_follower mo_ahead mo_least mo_seam mo_above mo_below mo_text mo_textLong mo_place mo_value mo_numbers mo_not) 24 [(0, .ref (qMo 0)), (1, .int p1)] [.int u4.1]
    have h9 := hret 24 [(0, .ref (qMo 0)), (1, .int p1)] dX8_drops_24
    rw [← (Option.some.inj hf)] at h9
    exact h9
  · have hf := ip hc2 hf
    refine V_aload_n E 0 rfl dX8_drops_8 ?_
    refine V_bipush E (v := (-2 : Int32)) dX8_drops_9 (by decide) ?_
    obtain ⟨u5, hu5, hf⟩ := bd hf
    refine V_frW E (Rn_V E (rest := []) mlX8_91 wd_yX8_refuses (kMo_refuses l G qMo (-2 : Int32) mo_all mo_past mo_aside mo_states mo_refused mo_causeKind mo_causeOrder mo_corner mo_linkVotes mo_linkE mo_linkF mo_follower mo_ahead mo_least mo_seam mo_above mo_below mo_text mo_textLong mo_place mo_value mo_numbers mo_not u5 hu5) ⟨rfl, rfl, Nat.le_of_ble_eq_true rfl, Nat.le_of_ble_eq_true rfl⟩ 0 rfl rfl rfl rfl rfl (Nat.le_of_ble_eq_true rfl) dX8_drops_11) ?_
    show V G p l e rmMo_drops s m args below meth c 2 A Q 0 0 (gMo G qMo mo_all mo_past mo_aside mo_states u5.2 mo_causeKind mo_causeOrder mo_corner mo_linkVotes mo_linkE mo_linkF mo_follower mo_ahead mo_least mo_seam mo_above mo_below mo_text mo_textLong mo_place mo_value mo_numbers mo_not) 14 [(0, .ref (qMo 0)), (1, .int p1)] [.int u5.1]
    have h9 := hret 14 [(0, .ref (qMo 0)), (1, .int p1)] dX8_drops_14
    rw [← (Option.some.inj hf)] at h9
    exact h9
abbrev rmMo_isSetting : Room := { frames := 1, cells := 0, slots := 0, locals := 25 }
theorem wd_yX8_isSetting : wdS yX8_isSetting cX8_isSetting 2 (some .boolean) 2 := ⟨wc_yX8_isSetting, wst_yX8_isSetting, wini_X8, by decide +kernel, by decide +kernel, by decide +kernel⟩
set_option maxHeartbeats 4000000 in
set_option maxRecDepth 100000 in
theorem kMo_isSetting (l : Launch) (G : wG) (p0 : Int32) (p1 : Int32) (o : Int32) (hf : fMo_isSetting p0 p1 = some o) : Ct G l yX8_isSetting cX8_isSetting 2 (some .boolean) rmMo_isSetting [.int p0, .int p1] [] (some (.int o)) [] := by
  refine Ct.ofZ (by decide +kernel) (Nat.le_of_ble_eq_true rfl) (fun p e s m args below meth c A Q E hret => ?_)
  unfold fMo_isSetting at hf
  show V G p l e rmMo_isSetting s m args below meth c 2 A Q 0 0 [] 0 [(0, .int p0), (1, .int p1)] []
  refine V_iload_n E 0 rfl dX8_isSetting_0 ?_
  refine V_if_ne E (tgt := 16) dX8_isSetting_1 (by decide) (fun hc1 => ?_) (fun hc1 => ?_)
  · have hf := iq hc1 hf
    refine V_iload_n E 0 rfl dX8_isSetting_16 ?_
    refine V_iconst E (v := (1 : Int32)) dX8_isSetting_17 (by decide) ?_
    refine V_icmp_ne E (tgt := 37) dX8_isSetting_18 (by decide) (fun hc2 => ?_) (fun hc2 => ?_)
    · have hf := iq hc2 hf
      refine V_iconst E (v := (0 : Int32)) dX8_isSetting_37 (by decide) ?_
      have h9 := hret 38 [(0, .int p0), (1, .int p1)] dX8_isSetting_38
      rw [← (Option.some.inj hf)] at h9
      exact h9 (z01a (Or.inl rfl))
    · have hf := ip hc2 hf
      refine V_iload_n E 1 rfl dX8_isSetting_21 ?_
      refine V_i2l E dX8_isSetting_22 ?_
      refine V_lconst E (v := (0 : Int64)) dX8_isSetting_23 (by decide) ?_
      refine V_ldc2 E (v := (63 : Int64)) dX8_isSetting_24 kX8_107 ?_
      obtain ⟨u3, hu3, hf⟩ := bd hf
      refine V_fr0 E (Rn_S E (rest := []) mlX8_63 wd_yX8_in (kMo_in l G p1.toInt64 (0 : Int64) (63 : Int64) u3 hu3) ⟨rfl, rfl, Nat.le_of_ble_eq_true rfl, Nat.le_of_ble_eq_true rfl⟩ rfl rfl (Nat.le_of_ble_eq_true rfl) dX8_isSetting_27) ?_
      show V G p l e rmMo_isSetting s m args below meth c 2 A Q 0 0 [] 30 [(0, .int p0), (1, .int p1)] [.int u3]
      refine V_if_eq E (tgt := 37) dX8_isSetting_30 (by decide) (fun hc4 => ?_) (fun hc4 => ?_)
      · have hf := ip hc4 hf
        refine V_iconst E (v := (0 : Int32)) dX8_isSetting_37 (by decide) ?_
        have h9 := hret 38 [(0, .int p0), (1, .int p1)] dX8_isSetting_38
        rw [← (Option.some.inj hf)] at h9
        exact h9 (z01a (Or.inl rfl))
      · have hf := iq hc4 hf
        refine V_iconst E (v := (1 : Int32)) dX8_isSetting_33 (by decide) ?_
        refine V_goto E (tgt := 38) dX8_isSetting_34 (by decide) ?_
        have h9 := hret 38 [(0, .int p0), (1, .int p1)] dX8_isSetting_38
        rw [← (Option.some.inj hf)] at h9
        exact h9 (z01a (Or.inr rfl))
  · have hf := ip hc1 hf
    refine V_iload_n E 1 rfl dX8_isSetting_4 ?_
    refine V_i2l E dX8_isSetting_5 ?_
    refine V_lconst E (v := (1 : Int64)) dX8_isSetting_6 (by decide) ?_
    refine V_ldc2 E (v := (126 : Int64)) dX8_isSetting_7 kX8_138 ?_
    obtain ⟨u5, hu5, hf⟩ := bd hf
    refine V_fr0 E (Rn_S E (rest := []) mlX8_63 wd_yX8_in (kMo_in l G p1.toInt64 (1 : Int64) (126 : Int64) u5 hu5) ⟨rfl, rfl, Nat.le_of_ble_eq_true rfl, Nat.le_of_ble_eq_true rfl⟩ rfl rfl (Nat.le_of_ble_eq_true rfl) dX8_isSetting_10) ?_
    show V G p l e rmMo_isSetting s m args below meth c 2 A Q 0 0 [] 13 [(0, .int p0), (1, .int p1)] [.int u5]
    refine V_if_ne E (tgt := 33) dX8_isSetting_13 (by decide) (fun hc6 => ?_) (fun hc6 => ?_)
    · have hf := iq hc6 hf
      refine V_iconst E (v := (1 : Int32)) dX8_isSetting_33 (by decide) ?_
      refine V_goto E (tgt := 38) dX8_isSetting_34 (by decide) ?_
      have h9 := hret 38 [(0, .int p0), (1, .int p1)] dX8_isSetting_38
      rw [← (Option.some.inj hf)] at h9
      exact h9 (z01a (Or.inr rfl))
    · have hf := ip hc6 hf
      refine V_iload_n E 0 rfl dX8_isSetting_16 ?_
      refine V_iconst E (v := (1 : Int32)) dX8_isSetting_17 (by decide) ?_
      refine V_icmp_ne E (tgt := 37) dX8_isSetting_18 (by decide) (fun hc7 => ?_) (fun hc7 => ?_)
      · have hf := iq hc7 hf
        refine V_iconst E (v := (0 : Int32)) dX8_isSetting_37 (by decide) ?_
        have h9 := hret 38 [(0, .int p0), (1, .int p1)] dX8_isSetting_38
        rw [← (Option.some.inj hf)] at h9
        exact h9 (z01a (Or.inl rfl))
      · have hf := ip hc7 hf
        refine V_iload_n E 1 rfl dX8_isSetting_21 ?_
        refine V_i2l E dX8_isSetting_22 ?_
        refine V_lconst E (v := (0 : Int64)) dX8_isSetting_23 (by decide) ?_
        refine V_ldc2 E (v := (63 : Int64)) dX8_isSetting_24 kX8_107 ?_
        obtain ⟨u8, hu8, hf⟩ := bd hf
        refine V_fr0 E (Rn_S E (rest := []) mlX8_63 wd_yX8_in (kMo_in l G p1.toInt64 (0 : Int64) (63 : Int64) u8 hu8) ⟨rfl, rfl, Nat.le_of_ble_eq_true rfl, Nat.le_of_ble_eq_true rfl⟩ rfl rfl (Nat.le_of_ble_eq_true rfl) dX8_isSetting_27) ?_
        show V G p l e rmMo_isSetting s m args below meth c 2 A Q 0 0 [] 30 [(0, .int p0), (1, .int p1)] [.int u8]
        refine V_if_eq E (tgt := 37) dX8_isSetting_30 (by decide) (fun hc9 => ?_) (fun hc9 => ?_)
        · have hf := ip hc9 hf
          refine V_iconst E (v := (0 : Int32)) dX8_isSetting_37 (by decide) ?_
          have h9 := hret 38 [(0, .int p0), (1, .int p1)] dX8_isSetting_38
          rw [← (Option.some.inj hf)] at h9
          exact h9 (z01a (Or.inl rfl))
        · have hf := iq hc9 hf
          refine V_iconst E (v := (1 : Int32)) dX8_isSetting_33 (by decide) ?_
          refine V_goto E (tgt := 38) dX8_isSetting_34 (by decide) ?_
          have h9 := hret 38 [(0, .int p0), (1, .int p1)] dX8_isSetting_38
          rw [← (Option.some.inj hf)] at h9
          exact h9 (z01a (Or.inr rfl))
abbrev rmMo_sets : Room := { frames := 2, cells := 0, slots := 0, locals := 46 }
theorem wd_yX8_sets : wdV yX8_sets cX8_sets 3 (some .int) 2 := ⟨wc_yX8_sets, wi_yX8_sets, wse_yX8_sets, wini_X8, by decide +kernel, by decide +kernel, by decide +kernel⟩
set_option maxHeartbeats 4000000 in
set_option maxRecDepth 100000 in
theorem kMo_sets (l : Launch) (G : wG) (qMo : Nat → Nat) (p1 : Int32) (p2 : Int32) (mo_all : Nat → Int32) (mo_past : Nat → Int32) (mo_aside : Nat → Int32) (mo_states : Int32) (mo_refused : Nat → Int32) (mo_causeKind : Int32) (mo_causeOrder : Int32) (mo_corner : Nat → Int32) (mo_linkVotes : Nat → Int32) (mo_linkE : Nat → Int32) (mo_linkF : Nat → Int32) (mo_follower : Nat → Int32) (mo_ahead : Nat → Int32) (mo_least : Nat → Int32) (mo_seam : Nat → Int32) (mo_above : Int64) (mo_below : Int64) (mo_text : Nat → Int32) (mo_textLong : Int32) (mo_place : Int32) (mo_value : Int32) (mo_numbers : Nat → Int32) (mo_not : Int32) (o : Int32 × (Nat → Int32) × (Nat → Int32) × Int32 × (Nat → Int32)) (hf : fMo_sets p1 p2 mo_all mo_past mo_states mo_refused = some o) : Ct G l yX8_sets cX8_sets 3 (some .int) rmMo_sets [.ref (qMo 0), .int p1, .int p2] (gMo G qMo mo_all mo_past mo_aside mo_states mo_refused mo_causeKind mo_causeOrder mo_corner mo_linkVotes mo_linkE mo_linkF mo_follower mo_ahead mo_least mo_seam mo_above mo_below mo_text mo_textLong mo_place mo_value mo_numbers mo_not) (some (.int o.1)) (gMo G qMo o.2.1 o.2.2.1 mo_aside o.2.2.2.1 o.2.2.2.2 mo_causeKind mo_causeOrder mo_corner mo_linkVotes mo_linkE mo_linkF mo_follower mo_ahead mo_least mo_seam mo_above mo_below mo_text mo_textLong mo_place mo_value mo_numbers mo_not) := by
  refine Ct.ofI (by decide +kernel) (Nat.le_of_ble_eq_true rfl) (fun p e s m args below meth c A Q E hret => ?_)
  unfold fMo_sets at hf
  show V G p l e rmMo_sets s m args below meth c 3 A Q 0 0 (gMo G qMo mo_all mo_past mo_aside mo_states mo_refused mo_causeKind mo_causeOrder mo_corner mo_linkVotes mo_linkE mo_linkF mo_follower mo_ahead mo_least mo_seam mo_above mo_below mo_text mo_textLong mo_place mo_value mo_numbers mo_not) 0 [(0, .ref (qMo 0)), (1, .int p1), (2, .int p2)] []
  refine V_iload_n E 1 rfl dX8_sets_0 ?_
  refine V_iload_n E 2 rfl dX8_sets_1 ?_
  obtain ⟨u1, hu1, hf⟩ := bd hf
  refine V_fr0 E (Rn_S E (rest := []) mlX8_140 wd_yX8_isSetting (kMo_isSetting l G p1 p2 u1 hu1) ⟨rfl, rfl, Nat.le_of_ble_eq_true rfl, Nat.le_of_ble_eq_true rfl⟩ rfl rfl (Nat.le_of_ble_eq_true rfl) dX8_sets_2) ?_
  show V G p l e rmMo_sets s m args below meth c 3 A Q 0 0 (gMo G qMo mo_all mo_past mo_aside mo_states mo_refused mo_causeKind mo_causeOrder mo_corner mo_linkVotes mo_linkE mo_linkF mo_follower mo_ahead mo_least mo_seam mo_above mo_below mo_text mo_textLong mo_place mo_value mo_numbers mo_not) 5 [(0, .ref (qMo 0)), (1, .int p1), (2, .int p2)] [.int u1]
  refine V_if_ne E (tgt := 15) dX8_sets_5 (by decide) (fun hc2 => ?_) (fun hc2 => ?_)
  · have hf := iq hc2 hf
    refine V_aload_n E 0 rfl dX8_sets_15 ?_
    obtain ⟨u3, hu3, hf⟩ := bd hf
    refine V_frW E (Rn_V E (rest := []) mlX8_95 wd_yX8_keep (kMo_keep l G qMo mo_all mo_past mo_aside mo_states mo_refused mo_causeKind mo_causeOrder mo_corner mo_linkVotes mo_linkE mo_linkF mo_follower mo_ahead mo_least mo_seam mo_above mo_below mo_text mo_textLong mo_place mo_value mo_numbers mo_not u3 hu3) ⟨rfl, rfl, Nat.le_of_ble_eq_true rfl, Nat.le_of_ble_eq_true rfl⟩ 0 rfl rfl rfl rfl rfl (Nat.le_of_ble_eq_true rfl) dX8_sets_16) ?_
    show V G p l e rmMo_sets s m args below meth c 3 A Q 0 0 (gMo G qMo mo_all u3.1 mo_aside u3.2 mo_refused mo_causeKind mo_causeOrder mo_corner mo_linkVotes mo_linkE mo_linkF mo_follower mo_ahead mo_least mo_seam mo_above mo_below mo_text mo_textLong mo_place mo_value mo_numbers mo_not) 19 [(0, .ref (qMo 0)), (1, .int p1), (2, .int p2)] []
    refine V_aload_n E 0 rfl dX8_sets_19 ?_
    refine V_iconst E (v := (1 : Int32)) dX8_sets_20 (by decide) ?_
    refine V_iload_n E 1 rfl dX8_sets_21 ?_
    refine V_iadd E dX8_sets_22 ?_
    refine V_iload_n E 2 rfl dX8_sets_23 ?_
    obtain ⟨u4, hu4, hf⟩ := bd hf
    refine V_frW E (Rn_V E (rest := []) mlX8_109 wd_yX8_cellNow (kMo_cellNow l G qMo ((1 : Int32) + p1) p2 mo_all u3.1 mo_aside u3.2 mo_refused mo_causeKind mo_causeOrder mo_corner mo_linkVotes mo_linkE mo_linkF mo_follower mo_ahead mo_least mo_seam mo_above mo_below mo_text mo_textLong mo_place mo_value mo_numbers mo_not u4 hu4) ⟨rfl, rfl, Nat.le_of_ble_eq_true rfl, Nat.le_of_ble_eq_true rfl⟩ 0 rfl rfl rfl rfl rfl (Nat.le_of_ble_eq_true rfl) dX8_sets_24) ?_
    show V G p l e rmMo_sets s m args below meth c 3 A Q 0 0 (gMo G qMo u4.2 u3.1 mo_aside u3.2 mo_refused mo_causeKind mo_causeOrder mo_corner mo_linkVotes mo_linkE mo_linkF mo_follower mo_ahead mo_least mo_seam mo_above mo_below mo_text mo_textLong mo_place mo_value mo_numbers mo_not) 27 [(0, .ref (qMo 0)), (1, .int p1), (2, .int p2)] [.int u4.1]
    have h9 := hret 27 [(0, .ref (qMo 0)), (1, .int p1), (2, .int p2)] dX8_sets_27
    rw [← (Option.some.inj hf)] at h9
    exact h9
  · have hf := ip hc2 hf
    refine V_aload_n E 0 rfl dX8_sets_8 ?_
    refine V_bipush E (v := (-2 : Int32)) dX8_sets_9 (by decide) ?_
    obtain ⟨u5, hu5, hf⟩ := bd hf
    refine V_frW E (Rn_V E (rest := []) mlX8_91 wd_yX8_refuses (kMo_refuses l G qMo (-2 : Int32) mo_all mo_past mo_aside mo_states mo_refused mo_causeKind mo_causeOrder mo_corner mo_linkVotes mo_linkE mo_linkF mo_follower mo_ahead mo_least mo_seam mo_above mo_below mo_text mo_textLong mo_place mo_value mo_numbers mo_not u5 hu5) ⟨rfl, rfl, Nat.le_of_ble_eq_true rfl, Nat.le_of_ble_eq_true rfl⟩ 0 rfl rfl rfl rfl rfl (Nat.le_of_ble_eq_true rfl) dX8_sets_11) ?_
    show V G p l e rmMo_sets s m args below meth c 3 A Q 0 0 (gMo G qMo mo_all mo_past mo_aside mo_states u5.2 mo_causeKind mo_causeOrder mo_corner mo_linkVotes mo_linkE mo_linkF mo_follower mo_ahead mo_least mo_seam mo_above mo_below mo_text mo_textLong mo_place mo_value mo_numbers mo_not) 14 [(0, .ref (qMo 0)), (1, .int p1), (2, .int p2)] [.int u5.1]
    have h9 := hret 14 [(0, .ref (qMo 0)), (1, .int p1), (2, .int p2)] dX8_sets_14
    rw [← (Option.some.inj hf)] at h9
    exact h9
abbrev rmMo_value : Room := { frames := 2, cells := 0, slots := 0, locals := 47 }
theorem wd_yX8_value : wdV yX8_value cX8_value 4 (some .int) 3 := ⟨wc_yX8_value, wi_yX8_value, wse_yX8_value, wini_X8, by decide +kernel, by decide +kernel, by decide +kernel⟩
set_option maxHeartbeats 4000000 in
set_option maxRecDepth 100000 in
theorem kMo_value (l : Launch) (G : wG) (qMo : Nat → Nat) (p1 : Int32) (p2 : Int32) (p3 : Int32) (mo_all : Nat → Int32) (mo_past : Nat → Int32) (mo_aside : Nat → Int32) (mo_states : Int32) (mo_refused : Nat → Int32) (mo_causeKind : Int32) (mo_causeOrder : Int32) (mo_corner : Nat → Int32) (mo_linkVotes : Nat → Int32) (mo_linkE : Nat → Int32) (mo_linkF : Nat → Int32) (mo_follower : Nat → Int32) (mo_ahead : Nat → Int32) (mo_least : Nat → Int32) (mo_seam : Nat → Int32) (mo_above : Int64) (mo_below : Int64) (mo_text : Nat → Int32) (mo_textLong : Int32) (mo_place : Int32) (mo_value : Int32) (mo_numbers : Nat → Int32) (mo_not : Int32) (o : Int32 × (Nat → Int32)) (hf : fMo_value p1 p2 p3 mo_all mo_refused = some o) : Ct G l yX8_value cX8_value 4 (some .int) rmMo_value [.ref (qMo 0), .int p1, .int p2, .int p3] (gMo G qMo mo_all mo_past mo_aside mo_states mo_refused mo_causeKind mo_causeOrder mo_corner mo_linkVotes mo_linkE mo_linkF mo_follower mo_ahead mo_least mo_seam mo_above mo_below mo_text mo_textLong mo_place mo_value mo_numbers mo_not) (some (.int o.1)) (gMo G qMo mo_all mo_past mo_aside mo_states o.2 mo_causeKind mo_causeOrder mo_corner mo_linkVotes mo_linkE mo_linkF mo_follower mo_ahead mo_least mo_seam mo_above mo_below mo_text mo_textLong mo_place mo_value mo_numbers mo_not) := by
  refine Ct.ofI (by decide +kernel) (Nat.le_of_ble_eq_true rfl) (fun p e s m args below meth c A Q E hret => ?_)
  unfold fMo_value at hf
  show V G p l e rmMo_value s m args below meth c 4 A Q 0 0 (gMo G qMo mo_all mo_past mo_aside mo_states mo_refused mo_causeKind mo_causeOrder mo_corner mo_linkVotes mo_linkE mo_linkF mo_follower mo_ahead mo_least mo_seam mo_above mo_below mo_text mo_textLong mo_place mo_value mo_numbers mo_not) 0 [(0, .ref (qMo 0)), (1, .int p1), (2, .int p2), (3, .int p3)] []
  refine V_iload_n E 1 rfl dX8_value_0 ?_
  refine V_iconst E (v := (-1 : Int32)) dX8_value_1 (by decide) ?_
  refine V_icmp_ne E (tgt := 37) dX8_value_2 (by decide) (fun hc1 => ?_) (fun hc1 => ?_)
  · have hf := iq hc1 hf
    refine V_aload_n E 0 rfl dX8_value_37 ?_
    refine V_iload_n E 1 rfl dX8_value_38 ?_
    obtain ⟨u2, hu2, hf⟩ := bd hf
    refine V_frW E (Rn_V E (rest := []) mlX8_128 wd_yX8_isPicture (kMo_isPicture l G qMo p1 mo_all mo_past mo_aside mo_states mo_refused mo_causeKind mo_causeOrder mo_corner mo_linkVotes mo_linkE mo_linkF mo_follower mo_ahead mo_least mo_seam mo_above mo_below mo_text mo_textLong mo_place mo_value mo_numbers mo_not u2 hu2) ⟨rfl, rfl, Nat.le_of_ble_eq_true rfl, Nat.le_of_ble_eq_true rfl⟩ 0 rfl rfl rfl rfl rfl (Nat.le_of_ble_eq_true rfl) dX8_value_39) ?_
    show V G p l e rmMo_value s m args below meth c 4 A Q 0 0 (gMo G qMo mo_all mo_past mo_aside mo_states mo_refused mo_causeKind mo_causeOrder mo_corner mo_linkVotes mo_linkE mo_linkF mo_follower mo_ahead mo_least mo_seam mo_above mo_below mo_text mo_textLong mo_place mo_value mo_numbers mo_not) 42 [(0, .ref (qMo 0)), (1, .int p1), (2, .int p2), (3, .int p3)] [.int u2]
    refine V_if_eq E (tgt := 63) dX8_value_42 (by decide) (fun hc3 => ?_) (fun hc3 => ?_)
    · have hf := ip hc3 hf
      refine V_aload_n E 0 rfl dX8_value_63 ?_
      refine V_bipush E (v := (-2 : Int32)) dX8_value_64 (by decide) ?_
      obtain ⟨u4, hu4, hf⟩ := bd hf
      refine V_frW E (Rn_V E (rest := []) mlX8_91 wd_yX8_refuses (kMo_refuses l G qMo (-2 : Int32) mo_all mo_past mo_aside mo_states mo_refused mo_causeKind mo_causeOrder mo_corner mo_linkVotes mo_linkE mo_linkF mo_follower mo_ahead mo_least mo_seam mo_above mo_below mo_text mo_textLong mo_place mo_value mo_numbers mo_not u4 hu4) ⟨rfl, rfl, Nat.le_of_ble_eq_true rfl, Nat.le_of_ble_eq_true rfl⟩ 0 rfl rfl rfl rfl rfl (Nat.le_of_ble_eq_true rfl) dX8_value_66) ?_
      show V G p l e rmMo_value s m args below meth c 4 A Q 0 0 (gMo G qMo mo_all mo_past mo_aside mo_states u4.2 mo_causeKind mo_causeOrder mo_corner mo_linkVotes mo_linkE mo_linkF mo_follower mo_ahead mo_least mo_seam mo_above mo_below mo_text mo_textLong mo_place mo_value mo_numbers mo_not) 69 [(0, .ref (qMo 0)), (1, .int p1), (2, .int p2), (3, .int p3)] [.int u4.1]
      have h9 := hret 69 [(0, .ref (qMo 0)), (1, .int p1), (2, .int p2), (3, .int p3)] dX8_value_69
      rw [← (Option.some.inj hf)] at h9
      exact h9
    · have hf := iq hc3 hf
      refine V_iload_n E 2 rfl dX8_value_45 ?_
      refine V_iload_n E 3 rfl dX8_value_46 ?_
      obtain ⟨u5, hu5, hf⟩ := bd hf
      refine V_fr0 E (Rn_S E (rest := []) mlX8_132 wd_yX8_isCell (kMo_isCell l G p2 p3 u5 hu5) ⟨rfl, rfl, Nat.le_of_ble_eq_true rfl, Nat.le_of_ble_eq_true rfl⟩ rfl rfl (Nat.le_of_ble_eq_true rfl) dX8_value_47) ?_
      show V G p l e rmMo_value s m args below meth c 4 A Q 0 0 (gMo G qMo mo_all mo_past mo_aside mo_states mo_refused mo_causeKind mo_causeOrder mo_corner mo_linkVotes mo_linkE mo_linkF mo_follower mo_ahead mo_least mo_seam mo_above mo_below mo_text mo_textLong mo_place mo_value mo_numbers mo_not) 50 [(0, .ref (qMo 0)), (1, .int p1), (2, .int p2), (3, .int p3)] [.int u5]
      refine V_if_eq E (tgt := 63) dX8_value_50 (by decide) (fun hc6 => ?_) (fun hc6 => ?_)
      · have hf := ip hc6 hf
        refine V_aload_n E 0 rfl dX8_value_63 ?_
        refine V_bipush E (v := (-2 : Int32)) dX8_value_64 (by decide) ?_
        obtain ⟨u7, hu7, hf⟩ := bd hf
        refine V_frW E (Rn_V E (rest := []) mlX8_91 wd_yX8_refuses (kMo_refuses l G qMo (-2 : Int32) mo_all mo_past mo_aside mo_states mo_refused mo_causeKind mo_causeOrder mo_corner mo_linkVotes mo_linkE mo_linkF mo_follower mo_ahead mo_least mo_seam mo_above mo_below mo_text mo_textLong mo_place mo_value mo_numbers mo_not u7 hu7) ⟨rfl, rfl, Nat.le_of_ble_eq_true rfl, Nat.le_of_ble_eq_true rfl⟩ 0 rfl rfl rfl rfl rfl (Nat.le_of_ble_eq_true rfl) dX8_value_66) ?_
        show V G p l e rmMo_value s m args below meth c 4 A Q 0 0 (gMo G qMo mo_all mo_past mo_aside mo_states u7.2 mo_causeKind mo_causeOrder mo_corner mo_linkVotes mo_linkE mo_linkF mo_follower mo_ahead mo_least mo_seam mo_above mo_below mo_text mo_textLong mo_place mo_value mo_numbers mo_not) 69 [(0, .ref (qMo 0)), (1, .int p1), (2, .int p2), (3, .int p3)] [.int u7.1]
        have h9 := hret 69 [(0, .ref (qMo 0)), (1, .int p1), (2, .int p2), (3, .int p3)] dX8_value_69
        rw [← (Option.some.inj hf)] at h9
        exact h9
      · have hf := iq hc6 hf
        refine V_aload_n E 0 rfl dX8_value_53 ?_
        refine V_iload_n E 1 rfl dX8_value_54 ?_
        refine V_iload_n E 2 rfl dX8_value_55 ?_
        refine V_iload_n E 3 rfl dX8_value_56 ?_
        obtain ⟨u8, hu8, hf⟩ := bd hf
        refine V_frW E (Rn_V E (rest := []) mlX8_143 wd_yX8_at (kMo_at l G qMo p1 p2 p3 mo_all mo_past mo_aside mo_states mo_refused mo_causeKind mo_causeOrder mo_corner mo_linkVotes mo_linkE mo_linkF mo_follower mo_ahead mo_least mo_seam mo_above mo_below mo_text mo_textLong mo_place mo_value mo_numbers mo_not u8 hu8) ⟨rfl, rfl, Nat.le_of_ble_eq_true rfl, Nat.le_of_ble_eq_true rfl⟩ 0 rfl rfl rfl rfl rfl (Nat.le_of_ble_eq_true rfl) dX8_value_57) ?_
        show V G p l e rmMo_value s m args below meth c 4 A Q 0 0 (gMo G qMo mo_all mo_past mo_aside mo_states mo_refused mo_causeKind mo_causeOrder mo_corner mo_linkVotes mo_linkE mo_linkF mo_follower mo_ahead mo_least mo_seam mo_above mo_below mo_text mo_textLong mo_place mo_value mo_numbers mo_not) 60 [(0, .ref (qMo 0)), (1, .int p1), (2, .int p2), (3, .int p3)] [.int u8]
        refine V_goto E (tgt := 69) dX8_value_60 (by decide) ?_
        have h9 := hret 69 [(0, .ref (qMo 0)), (1, .int p1), (2, .int p2), (3, .int p3)] dX8_value_69
        rw [← (Option.some.inj hf)] at h9
        exact h9
  · have hf := ip hc1 hf
    refine V_aload_n E 0 rfl dX8_value_5 ?_
    refine V_iload_n E 2 rfl dX8_value_6 ?_
    refine V_iload_n E 3 rfl dX8_value_7 ?_
    obtain ⟨u9, hu9, hf⟩ := bd hf
    refine V_frW E (Rn_V E (rest := []) mlX8_104 wd_yX8_isDot (kMo_isDot l G qMo p2 p3 mo_all mo_past mo_aside mo_states mo_refused mo_causeKind mo_causeOrder mo_corner mo_linkVotes mo_linkE mo_linkF mo_follower mo_ahead mo_least mo_seam mo_above mo_below mo_text mo_textLong mo_place mo_value mo_numbers mo_not u9 hu9) ⟨rfl, rfl, Nat.le_of_ble_eq_true rfl, Nat.le_of_ble_eq_true rfl⟩ 0 rfl rfl rfl rfl rfl (Nat.le_of_ble_eq_true rfl) dX8_value_8) ?_
    show V G p l e rmMo_value s m args below meth c 4 A Q 0 0 (gMo G qMo mo_all mo_past mo_aside mo_states mo_refused mo_causeKind mo_causeOrder mo_corner mo_linkVotes mo_linkE mo_linkF mo_follower mo_ahead mo_least mo_seam mo_above mo_below mo_text mo_textLong mo_place mo_value mo_numbers mo_not) 11 [(0, .ref (qMo 0)), (1, .int p1), (2, .int p2), (3, .int p3)] [.int u9]
    refine V_if_eq E (tgt := 30) dX8_value_11 (by decide) (fun hc10 => ?_) (fun hc10 => ?_)
    · have hf := ip hc10 hf
      refine V_aload_n E 0 rfl dX8_value_30 ?_
      refine V_bipush E (v := (-2 : Int32)) dX8_value_31 (by decide) ?_
      obtain ⟨u11, hu11, hf⟩ := bd hf
      refine V_frW E (Rn_V E (rest := []) mlX8_91 wd_yX8_refuses (kMo_refuses l G qMo (-2 : Int32) mo_all mo_past mo_aside mo_states mo_refused mo_causeKind mo_causeOrder mo_corner mo_linkVotes mo_linkE mo_linkF mo_follower mo_ahead mo_least mo_seam mo_above mo_below mo_text mo_textLong mo_place mo_value mo_numbers mo_not u11 hu11) ⟨rfl, rfl, Nat.le_of_ble_eq_true rfl, Nat.le_of_ble_eq_true rfl⟩ 0 rfl rfl rfl rfl rfl (Nat.le_of_ble_eq_true rfl) dX8_value_33) ?_
      show V G p l e rmMo_value s m args below meth c 4 A Q 0 0 (gMo G qMo mo_all mo_past mo_aside mo_states u11.2 mo_causeKind mo_causeOrder mo_corner mo_linkVotes mo_linkE mo_linkF mo_follower mo_ahead mo_least mo_seam mo_above mo_below mo_text mo_textLong mo_place mo_value mo_numbers mo_not) 36 [(0, .ref (qMo 0)), (1, .int p1), (2, .int p2), (3, .int p3)] [.int u11.1]
      have h9 := hret 36 [(0, .ref (qMo 0)), (1, .int p1), (2, .int p2), (3, .int p3)] dX8_value_36
      rw [← (Option.some.inj hf)] at h9
      exact h9
    · have hf := iq hc10 hf
      refine V_aload_n E 0 rfl dX8_value_14 ?_
      refine gfX8_7 E 0 rfl rfl dX8_value_15 ?_
      refine V_iconst E (v := (4 : Int32)) dX8_value_18 (by decide) ?_
      refine V_bipush E (v := (32 : Int32)) dX8_value_19 (by decide) ?_
      refine V_iload_n E 2 rfl dX8_value_21 ?_
      refine V_imul E dX8_value_22 ?_
      refine V_iadd E dX8_value_23 ?_
      refine V_iload_n E 3 rfl dX8_value_24 ?_
      refine V_iadd E dX8_value_25 ?_
      obtain ⟨hi12, hf⟩ := asr_ok hf
      refine V_iald E 1 rfl hi12 dX8_value_26 ?_
      refine V_goto E (tgt := 36) dX8_value_27 (by decide) ?_
      have h9 := hret 36 [(0, .ref (qMo 0)), (1, .int p1), (2, .int p2), (3, .int p3)] dX8_value_36
      rw [← (Option.some.inj hf)] at h9
      exact h9
abbrev rmMo_pair : Room := { frames := 1, cells := 0, slots := 0, locals := 23 }
theorem wd_yX8_pair : wdV yX8_pair cX8_pair 6 (some .int) 5 := ⟨wc_yX8_pair, wi_yX8_pair, wse_yX8_pair, wini_X8, by decide +kernel, by decide +kernel, by decide +kernel⟩
set_option maxHeartbeats 4000000 in
set_option maxRecDepth 100000 in
theorem kMo_pair (l : Launch) (G : wG) (qMo : Nat → Nat) (p1 : Int32) (p2 : Int32) (p3 : Int32) (p4 : Int32) (p5 : Int32) (mo_all : Nat → Int32) (mo_past : Nat → Int32) (mo_aside : Nat → Int32) (mo_states : Int32) (mo_refused : Nat → Int32) (mo_causeKind : Int32) (mo_causeOrder : Int32) (mo_corner : Nat → Int32) (mo_linkVotes : Nat → Int32) (mo_linkE : Nat → Int32) (mo_linkF : Nat → Int32) (mo_follower : Nat → Int32) (mo_ahead : Nat → Int32) (mo_least : Nat → Int32) (mo_seam : Nat → Int32) (mo_above : Int64) (mo_below : Int64) (mo_text : Nat → Int32) (mo_textLong : Int32) (mo_place : Int32) (mo_value : Int32) (mo_numbers : Nat → Int32) (mo_not : Int32) (o : Int32) (hf : fMo_pair p1 p2 p3 p4 p5 mo_all = some o) : Ct G l yX8_pair cX8_pair 6 (some .int) rmMo_pair [.ref (qMo 0), .int p1, .int p2, .int p3, .int p4, .int p5] (gMo G qMo mo_all mo_past mo_aside mo_states mo_refused mo_causeKind mo_causeOrder mo_corner mo_linkVotes mo_linkE mo_linkF mo_follower mo_ahead mo_least mo_seam mo_above mo_below mo_text mo_textLong mo_place mo_value mo_numbers mo_not) (some (.int o)) (gMo G qMo mo_all mo_past mo_aside mo_states mo_refused mo_causeKind mo_causeOrder mo_corner mo_linkVotes mo_linkE mo_linkF mo_follower mo_ahead mo_least mo_seam mo_above mo_below mo_text mo_textLong mo_place mo_value mo_numbers mo_not) := by
  refine Ct.ofI (by decide +kernel) (Nat.le_of_ble_eq_true rfl) (fun p e s m args below meth c A Q E hret => ?_)
  unfold fMo_pair at hf
  show V G p l e rmMo_pair s m args below meth c 6 A Q 0 0 (gMo G qMo mo_all mo_past mo_aside mo_states mo_refused mo_causeKind mo_causeOrder mo_corner mo_linkVotes mo_linkE mo_linkF mo_follower mo_ahead mo_least mo_seam mo_above mo_below mo_text mo_textLong mo_place mo_value mo_numbers mo_not) 0 [(0, .ref (qMo 0)), (1, .int p1), (2, .int p2), (3, .int p3), (4, .int p4), (5, .int p5)] []
  refine V_aload_n E 0 rfl dX8_pair_0 ?_
  refine V_iload_n E 1 rfl dX8_pair_1 ?_
  refine V_iload_n E 2 rfl dX8_pair_2 ?_
  refine V_iload_n E 3 rfl dX8_pair_3 ?_
  obtain ⟨u1, hu1, hf⟩ := bd hf
  refine V_frW E (Rn_V E (rest := []) mlX8_143 wd_yX8_at (kMo_at l G qMo p1 p2 p3 mo_all mo_past mo_aside mo_states mo_refused mo_causeKind mo_causeOrder mo_corner mo_linkVotes mo_linkE mo_linkF mo_follower mo_ahead mo_least mo_seam mo_above mo_below mo_text mo_textLong mo_place mo_value mo_numbers mo_not u1 hu1) ⟨rfl, rfl, Nat.le_of_ble_eq_true rfl, Nat.le_of_ble_eq_true rfl⟩ 0 rfl rfl rfl rfl rfl (Nat.le_of_ble_eq_true rfl) dX8_pair_4) ?_
  show V G p l e rmMo_pair s m args below meth c 6 A Q 0 0 (gMo G qMo mo_all mo_past mo_aside mo_states mo_refused mo_causeKind mo_causeOrder mo_corner mo_linkVotes mo_linkE mo_linkF mo_follower mo_ahead mo_least mo_seam mo_above mo_below mo_text mo_textLong mo_place mo_value mo_numbers mo_not) 7 [(0, .ref (qMo 0)), (1, .int p1), (2, .int p2), (3, .int p3), (4, .int p4), (5, .int p5)] [.int u1]
  refine V_aload_n E 0 rfl dX8_pair_7 ?_
  refine V_iload_n E 1 rfl dX8_pair_8 ?_
  refine V_iload_n E 2 rfl dX8_pair_9 ?_
  refine V_iload E 4 rfl dX8_pair_10 ?_
  refine V_iadd E dX8_pair_12 ?_
  refine V_iload_n E 3 rfl dX8_pair_13 ?_
  refine V_iload E 5 rfl dX8_pair_14 ?_
  refine V_iadd E dX8_pair_16 ?_
  obtain ⟨u2, hu2, hf⟩ := bd hf
  refine V_frW E (Rn_V E (rest := [.int u1]) mlX8_143 wd_yX8_at (kMo_at l G qMo p1 (p2 + p4) (p3 + p5) mo_all mo_past mo_aside mo_states mo_refused mo_causeKind mo_causeOrder mo_corner mo_linkVotes mo_linkE mo_linkF mo_follower mo_ahead mo_least mo_seam mo_above mo_below mo_text mo_textLong mo_place mo_value mo_numbers mo_not u2 hu2) ⟨rfl, rfl, Nat.le_of_ble_eq_true rfl, Nat.le_of_ble_eq_true rfl⟩ 0 rfl rfl rfl rfl rfl (Nat.le_of_ble_eq_true rfl) dX8_pair_17) ?_
  show V G p l e rmMo_pair s m args below meth c 6 A Q 0 0 (gMo G qMo mo_all mo_past mo_aside mo_states mo_refused mo_causeKind mo_causeOrder mo_corner mo_linkVotes mo_linkE mo_linkF mo_follower mo_ahead mo_least mo_seam mo_above mo_below mo_text mo_textLong mo_place mo_value mo_numbers mo_not) 20 [(0, .ref (qMo 0)), (1, .int p1), (2, .int p2), (3, .int p3), (4, .int p4), (5, .int p5)] [.int u2, .int u1]
  refine V_isub E dX8_pair_20 ?_
  obtain ⟨u3, hu3, hf⟩ := bd hf
  refine V_fr0 E (Rn_S E (rest := []) mlX8_146 wd_yX8_abs (kMo_abs l G (u1 - u2) u3 hu3) ⟨rfl, rfl, Nat.le_of_ble_eq_true rfl, Nat.le_of_ble_eq_true rfl⟩ rfl rfl (Nat.le_of_ble_eq_true rfl) dX8_pair_21) ?_
  show V G p l e rmMo_pair s m args below meth c 6 A Q 0 0 (gMo G qMo mo_all mo_past mo_aside mo_states mo_refused mo_causeKind mo_causeOrder mo_corner mo_linkVotes mo_linkE mo_linkF mo_follower mo_ahead mo_least mo_seam mo_above mo_below mo_text mo_textLong mo_place mo_value mo_numbers mo_not) 24 [(0, .ref (qMo 0)), (1, .int p1), (2, .int p2), (3, .int p3), (4, .int p4), (5, .int p5)] [.int u3]
  refine V_aload_n E 0 rfl dX8_pair_24 ?_
  refine V_iload_n E 1 rfl dX8_pair_25 ?_
  refine V_iload_n E 2 rfl dX8_pair_26 ?_
  refine V_iload_n E 3 rfl dX8_pair_27 ?_
  obtain ⟨u4, hu4, hf⟩ := bd hf
  refine V_frW E (Rn_V E (rest := [.int u3]) mlX8_143 wd_yX8_at (kMo_at l G qMo p1 p2 p3 mo_all mo_past mo_aside mo_states mo_refused mo_causeKind mo_causeOrder mo_corner mo_linkVotes mo_linkE mo_linkF mo_follower mo_ahead mo_least mo_seam mo_above mo_below mo_text mo_textLong mo_place mo_value mo_numbers mo_not u4 hu4) ⟨rfl, rfl, Nat.le_of_ble_eq_true rfl, Nat.le_of_ble_eq_true rfl⟩ 0 rfl rfl rfl rfl rfl (Nat.le_of_ble_eq_true rfl) dX8_pair_28) ?_
  show V G p l e rmMo_pair s m args below meth c 6 A Q 0 0 (gMo G qMo mo_all mo_past mo_aside mo_states mo_refused mo_causeKind mo_causeOrder mo_corner mo_linkVotes mo_linkE mo_linkF mo_follower mo_ahead mo_least mo_seam mo_above mo_below mo_text mo_textLong mo_place mo_value mo_numbers mo_not) 31 [(0, .ref (qMo 0)), (1, .int p1), (2, .int p2), (3, .int p3), (4, .int p4), (5, .int p5)] [.int u4, .int u3]
  refine V_aload_n E 0 rfl dX8_pair_31 ?_
  refine V_iload_n E 1 rfl dX8_pair_32 ?_
  refine V_iload_n E 2 rfl dX8_pair_33 ?_
  refine V_iload E 4 rfl dX8_pair_34 ?_
  refine V_isub E dX8_pair_36 ?_
  refine V_iload_n E 3 rfl dX8_pair_37 ?_
  refine V_iload E 5 rfl dX8_pair_38 ?_
  refine V_isub E dX8_pair_40 ?_
  obtain ⟨u5, hu5, hf⟩ := bd hf
  refine V_frW E (Rn_V E (rest := [.int u4, .int u3]) mlX8_143 wd_yX8_at (kMo_at l G qMo p1 (p2 - p4) (p3 - p5) mo_all mo_past mo_aside mo_states mo_refused mo_causeKind mo_causeOrder mo_corner mo_linkVotes mo_linkE mo_linkF mo_follower mo_ahead mo_least mo_seam mo_above mo_below mo_text mo_textLong mo_place mo_value mo_numbers mo_not u5 hu5) ⟨rfl, rfl, Nat.le_of_ble_eq_true rfl, Nat.le_of_ble_eq_true rfl⟩ 0 rfl rfl rfl rfl rfl (Nat.le_of_ble_eq_true rfl) dX8_pair_41) ?_
  show V G p l e rmMo_pair s m args below meth c 6 A Q 0 0 (gMo G qMo mo_all mo_past mo_aside mo_states mo_refused mo_causeKind mo_causeOrder mo_corner mo_linkVotes mo_linkE mo_linkF mo_follower mo_ahead mo_least mo_seam mo_above mo_below mo_text mo_textLong mo_place mo_value mo_numbers mo_not) 44 [(0, .ref (qMo 0)), (1, .int p1), (2, .int p2), (3, .int p3), (4, .int p4), (5, .int p5)] [.int u5, .int u4, .int u3]
  refine V_isub E dX8_pair_44 ?_
  obtain ⟨u6, hu6, hf⟩ := bd hf
  refine V_fr0 E (Rn_S E (rest := [.int u3]) mlX8_146 wd_yX8_abs (kMo_abs l G (u4 - u5) u6 hu6) ⟨rfl, rfl, Nat.le_of_ble_eq_true rfl, Nat.le_of_ble_eq_true rfl⟩ rfl rfl (Nat.le_of_ble_eq_true rfl) dX8_pair_45) ?_
  show V G p l e rmMo_pair s m args below meth c 6 A Q 0 0 (gMo G qMo mo_all mo_past mo_aside mo_states mo_refused mo_causeKind mo_causeOrder mo_corner mo_linkVotes mo_linkE mo_linkF mo_follower mo_ahead mo_least mo_seam mo_above mo_below mo_text mo_textLong mo_place mo_value mo_numbers mo_not) 48 [(0, .ref (qMo 0)), (1, .int p1), (2, .int p2), (3, .int p3), (4, .int p4), (5, .int p5)] [.int u6, .int u3]
  refine V_iadd E dX8_pair_48 ?_
  have h9 := hret 49 [(0, .ref (qMo 0)), (1, .int p1), (2, .int p2), (3, .int p3), (4, .int p4), (5, .int p5)] dX8_pair_49
  rw [← (Option.some.inj hf)] at h9
  exact h9
abbrev rmMo_changeNow : Room := { frames := 2, cells := 0, slots := 0, locals := 48 }
theorem wd_yX8_changeNow : wdV yX8_changeNow cX8_changeNow 6 (some .int) 3 := ⟨wc_yX8_changeNow, wi_yX8_changeNow, wse_yX8_changeNow, wini_X8, by decide +kernel, by decide +kernel, by decide +kernel⟩
set_option maxHeartbeats 4000000 in
set_option maxRecDepth 100000 in
theorem kMo_changeNow (l : Launch) (G : wG) (qMo : Nat → Nat) (p1 : Int32) (p2 : Int32) (p3 : Int32) (mo_all : Nat → Int32) (mo_past : Nat → Int32) (mo_aside : Nat → Int32) (mo_states : Int32) (mo_refused : Nat → Int32) (mo_causeKind : Int32) (mo_causeOrder : Int32) (mo_corner : Nat → Int32) (mo_linkVotes : Nat → Int32) (mo_linkE : Nat → Int32) (mo_linkF : Nat → Int32) (mo_follower : Nat → Int32) (mo_ahead : Nat → Int32) (mo_least : Nat → Int32) (mo_seam : Nat → Int32) (mo_above : Int64) (mo_below : Int64) (mo_text : Nat → Int32) (mo_textLong : Int32) (mo_place : Int32) (mo_value : Int32) (mo_numbers : Nat → Int32) (mo_not : Int32) (o : Int32) (hf : fMo_changeNow p1 p2 p3 mo_all = some o) : Ct G l yX8_changeNow cX8_changeNow 6 (some .int) rmMo_changeNow [.ref (qMo 0), .int p1, .int p2, .int p3] (gMo G qMo mo_all mo_past mo_aside mo_states mo_refused mo_causeKind mo_causeOrder mo_corner mo_linkVotes mo_linkE mo_linkF mo_follower mo_ahead mo_least mo_seam mo_above mo_below mo_text mo_textLong mo_place mo_value mo_numbers mo_not) (some (.int o)) (gMo G qMo mo_all mo_past mo_aside mo_states mo_refused mo_causeKind mo_causeOrder mo_corner mo_linkVotes mo_linkE mo_linkF mo_follower mo_ahead mo_least mo_seam mo_above mo_below mo_text mo_textLong mo_place mo_value mo_numbers mo_not) := by
  refine Ct.ofI (by decide +kernel) (Nat.le_of_ble_eq_true rfl) (fun p e s m args below meth c A Q E hret => ?_)
  unfold fMo_changeNow at hf
  show V G p l e rmMo_changeNow s m args below meth c 6 A Q 0 0 (gMo G qMo mo_all mo_past mo_aside mo_states mo_refused mo_causeKind mo_causeOrder mo_corner mo_linkVotes mo_linkE mo_linkF mo_follower mo_ahead mo_least mo_seam mo_above mo_below mo_text mo_textLong mo_place mo_value mo_numbers mo_not) 0 [(0, .ref (qMo 0)), (1, .int p1), (2, .int p2), (3, .int p3)] []
  refine V_aload_n E 0 rfl dX8_changeNow_0 ?_
  refine V_iload_n E 1 rfl dX8_changeNow_1 ?_
  refine V_iload_n E 2 rfl dX8_changeNow_2 ?_
  refine V_iload_n E 3 rfl dX8_changeNow_3 ?_
  refine V_iconst E (v := (0 : Int32)) dX8_changeNow_4 (by decide) ?_
  refine V_iconst E (v := (1 : Int32)) dX8_changeNow_5 (by decide) ?_
  obtain ⟨u1, hu1, hf⟩ := bd hf
  refine V_frW E (Rn_V E (rest := []) mlX8_149 wd_yX8_pair (kMo_pair l G qMo p1 p2 p3 (0 : Int32) (1 : Int32) mo_all mo_past mo_aside mo_states mo_refused mo_causeKind mo_causeOrder mo_corner mo_linkVotes mo_linkE mo_linkF mo_follower mo_ahead mo_least mo_seam mo_above mo_below mo_text mo_textLong mo_place mo_value mo_numbers mo_not u1 hu1) ⟨rfl, rfl, Nat.le_of_ble_eq_true rfl, Nat.le_of_ble_eq_true rfl⟩ 0 rfl rfl rfl rfl rfl (Nat.le_of_ble_eq_true rfl) dX8_changeNow_6) ?_
  show V G p l e rmMo_changeNow s m args below meth c 6 A Q 0 0 (gMo G qMo mo_all mo_past mo_aside mo_states mo_refused mo_causeKind mo_causeOrder mo_corner mo_linkVotes mo_linkE mo_linkF mo_follower mo_ahead mo_least mo_seam mo_above mo_below mo_text mo_textLong mo_place mo_value mo_numbers mo_not) 9 [(0, .ref (qMo 0)), (1, .int p1), (2, .int p2), (3, .int p3)] [.int u1]
  refine V_istore E (lv' := [(0, .ref (qMo 0)), (1, .int p1), (2, .int p2), (3, .int p3), (4, .int u1)]) dX8_changeNow_9 (by decide) rfl ?_
  refine V_aload_n E 0 rfl dX8_changeNow_11 ?_
  refine V_iload_n E 1 rfl dX8_changeNow_12 ?_
  refine V_iload_n E 2 rfl dX8_changeNow_13 ?_
  refine V_iload_n E 3 rfl dX8_changeNow_14 ?_
  refine V_iconst E (v := (1 : Int32)) dX8_changeNow_15 (by decide) ?_
  refine V_iconst E (v := (0 : Int32)) dX8_changeNow_16 (by decide) ?_
  obtain ⟨u2, hu2, hf⟩ := bd hf
  refine V_frW E (Rn_V E (rest := []) mlX8_149 wd_yX8_pair (kMo_pair l G qMo p1 p2 p3 (1 : Int32) (0 : Int32) mo_all mo_past mo_aside mo_states mo_refused mo_causeKind mo_causeOrder mo_corner mo_linkVotes mo_linkE mo_linkF mo_follower mo_ahead mo_least mo_seam mo_above mo_below mo_text mo_textLong mo_place mo_value mo_numbers mo_not u2 hu2) ⟨rfl, rfl, Nat.le_of_ble_eq_true rfl, Nat.le_of_ble_eq_true rfl⟩ 0 rfl rfl rfl rfl rfl (Nat.le_of_ble_eq_true rfl) dX8_changeNow_17) ?_
  show V G p l e rmMo_changeNow s m args below meth c 6 A Q 0 0 (gMo G qMo mo_all mo_past mo_aside mo_states mo_refused mo_causeKind mo_causeOrder mo_corner mo_linkVotes mo_linkE mo_linkF mo_follower mo_ahead mo_least mo_seam mo_above mo_below mo_text mo_textLong mo_place mo_value mo_numbers mo_not) 20 [(0, .ref (qMo 0)), (1, .int p1), (2, .int p2), (3, .int p3), (4, .int u1)] [.int u2]
  refine V_istore E (lv' := [(0, .ref (qMo 0)), (1, .int p1), (2, .int p2), (3, .int p3), (4, .int u1), (5, .int u2)]) dX8_changeNow_20 (by decide) rfl ?_
  refine V_iload E 5 rfl dX8_changeNow_22 ?_
  refine V_iload E 4 rfl dX8_changeNow_24 ?_
  obtain ⟨u4, hu4, hf⟩ := bd hf
  have J36 : V G p l e rmMo_changeNow s m args below meth c 6 A Q 0 0 (gMo G qMo mo_all mo_past mo_aside mo_states mo_refused mo_causeKind mo_causeOrder mo_corner mo_linkVotes mo_linkE mo_linkF mo_follower mo_ahead mo_least mo_seam mo_above mo_below mo_text mo_textLong mo_place mo_value mo_numbers mo_not) 36 [(0, .ref (qMo 0)), (1, .int p1), (2, .int p2), (3, .int p3)] [.int u4] := by
    refine V_istore E (lv' := [(0, .ref (qMo 0)), (1, .int p1), (2, .int p2), (3, .int p3), (4, .int u4)]) dX8_changeNow_36 (by decide) rfl ?_
    refine V_aload_n E 0 rfl dX8_changeNow_38 ?_
    refine V_iload_n E 1 rfl dX8_changeNow_39 ?_
    refine V_iload_n E 2 rfl dX8_changeNow_40 ?_
    refine V_iload_n E 3 rfl dX8_changeNow_41 ?_
    refine V_iconst E (v := (1 : Int32)) dX8_changeNow_42 (by decide) ?_
    refine V_iconst E (v := (1 : Int32)) dX8_changeNow_43 (by decide) ?_
    obtain ⟨u5, hu5, hf⟩ := bd hf
    refine V_frW E (Rn_V E (rest := []) mlX8_149 wd_yX8_pair (kMo_pair l G qMo p1 p2 p3 (1 : Int32) (1 : Int32) mo_all mo_past mo_aside mo_states mo_refused mo_causeKind mo_causeOrder mo_corner mo_linkVotes mo_linkE mo_linkF mo_follower mo_ahead mo_least mo_seam mo_above mo_below mo_text mo_textLong mo_place mo_value mo_numbers mo_not u5 hu5) ⟨rfl, rfl, Nat.le_of_ble_eq_true rfl, Nat.le_of_ble_eq_true rfl⟩ 0 rfl rfl rfl rfl rfl (Nat.le_of_ble_eq_true rfl) dX8_changeNow_44) ?_
    show V G p l e rmMo_changeNow s m args below meth c 6 A Q 0 0 (gMo G qMo mo_all mo_past mo_aside mo_states mo_refused mo_causeKind mo_causeOrder mo_corner mo_linkVotes mo_linkE mo_linkF mo_follower mo_ahead mo_least mo_seam mo_above mo_below mo_text mo_textLong mo_place mo_value mo_numbers mo_not) 47 [(0, .ref (qMo 0)), (1, .int p1), (2, .int p2), (3, .int p3), (4, .int u4)] [.int u5]
    refine V_istore E (lv' := [(0, .ref (qMo 0)), (1, .int p1), (2, .int p2), (3, .int p3), (4, .int u4), (5, .int u5)]) dX8_changeNow_47 (by decide) rfl ?_
    refine V_iload E 5 rfl dX8_changeNow_49 ?_
    refine V_iload E 4 rfl dX8_changeNow_51 ?_
    obtain ⟨u7, hu7, hf⟩ := bd hf
    have J63 : V G p l e rmMo_changeNow s m args below meth c 6 A Q 0 0 (gMo G qMo mo_all mo_past mo_aside mo_states mo_refused mo_causeKind mo_causeOrder mo_corner mo_linkVotes mo_linkE mo_linkF mo_follower mo_ahead mo_least mo_seam mo_above mo_below mo_text mo_textLong mo_place mo_value mo_numbers mo_not) 63 [(0, .ref (qMo 0)), (1, .int p1), (2, .int p2), (3, .int p3)] [.int u7] := by
      refine V_istore E (lv' := [(0, .ref (qMo 0)), (1, .int p1), (2, .int p2), (3, .int p3), (4, .int u7)]) dX8_changeNow_63 (by decide) rfl ?_
      refine V_aload_n E 0 rfl dX8_changeNow_65 ?_
      refine V_iload_n E 1 rfl dX8_changeNow_66 ?_
      refine V_iload_n E 2 rfl dX8_changeNow_67 ?_
      refine V_iload_n E 3 rfl dX8_changeNow_68 ?_
      refine V_iconst E (v := (1 : Int32)) dX8_changeNow_69 (by decide) ?_
      refine V_iconst E (v := (-1 : Int32)) dX8_changeNow_70 (by decide) ?_
      obtain ⟨u8, hu8, hf⟩ := bd hf
      refine V_frW E (Rn_V E (rest := []) mlX8_149 wd_yX8_pair (kMo_pair l G qMo p1 p2 p3 (1 : Int32) (-1 : Int32) mo_all mo_past mo_aside mo_states mo_refused mo_causeKind mo_causeOrder mo_corner mo_linkVotes mo_linkE mo_linkF mo_follower mo_ahead mo_least mo_seam mo_above mo_below mo_text mo_textLong mo_place mo_value mo_numbers mo_not u8 hu8) ⟨rfl, rfl, Nat.le_of_ble_eq_true rfl, Nat.le_of_ble_eq_true rfl⟩ 0 rfl rfl rfl rfl rfl (Nat.le_of_ble_eq_true rfl) dX8_changeNow_71) ?_
      show V G p l e rmMo_changeNow s m args below meth c 6 A Q 0 0 (gMo G qMo mo_all mo_past mo_aside mo_states mo_refused mo_causeKind mo_causeOrder mo_corner mo_linkVotes mo_linkE mo_linkF mo_follower mo_ahead mo_least mo_seam mo_above mo_below mo_text mo_textLong mo_place mo_value mo_numbers mo_not) 74 [(0, .ref (qMo 0)), (1, .int p1), (2, .int p2), (3, .int p3), (4, .int u7)] [.int u8]
      refine V_istore E (lv' := [(0, .ref (qMo 0)), (1, .int p1), (2, .int p2), (3, .int p3), (4, .int u7), (5, .int u8)]) dX8_changeNow_74 (by decide) rfl ?_
      refine V_iload E 5 rfl dX8_changeNow_76 ?_
      refine V_iload E 4 rfl dX8_changeNow_78 ?_
      refine V_icmp_ge E (tgt := 88) dX8_changeNow_80 (by decide) (fun hc9 => ?_) (fun hc9 => ?_)
      · have hf := ip hc9 hf
        refine V_iload E 4 rfl dX8_changeNow_88 ?_
        have h9 := hret 90 [(0, .ref (qMo 0)), (1, .int p1), (2, .int p2), (3, .int p3), (4, .int u7), (5, .int u8)] dX8_changeNow_90
        rw [← (Option.some.inj hf)] at h9
        exact h9
      · have hf := iq hc9 hf
        refine V_iload E 5 rfl dX8_changeNow_83 ?_
        refine V_goto E (tgt := 90) dX8_changeNow_85 (by decide) ?_
        have h9 := hret 90 [(0, .ref (qMo 0)), (1, .int p1), (2, .int p2), (3, .int p3), (4, .int u7), (5, .int u8)] dX8_changeNow_90
        rw [← (Option.some.inj hf)] at h9
        exact h9
    clear hf
    have hf := hu7
    refine V_icmp_ge E (tgt := 61) dX8_changeNow_53 (by decide) (fun hc6 => ?_) (fun hc6 => ?_)
    · have hf := ip hc6 hf
      refine V_iload E 4 rfl dX8_changeNow_61 ?_
      refine V_sub [0, 1, 2, 3] rfl ?_
      rw [← Option.some.inj hf] at J63
      exact J63
    · have hf := iq hc6 hf
      refine V_iload E 5 rfl dX8_changeNow_56 ?_
      refine V_goto E (tgt := 63) dX8_changeNow_58 (by decide) ?_
      refine V_sub [0, 1, 2, 3] rfl ?_
      rw [← Option.some.inj hf] at J63
      exact J63
  clear hf
  have hf := hu4
  refine V_icmp_ge E (tgt := 34) dX8_changeNow_26 (by decide) (fun hc3 => ?_) (fun hc3 => ?_)
  · have hf := ip hc3 hf
    refine V_iload E 4 rfl dX8_changeNow_34 ?_
    refine V_sub [0, 1, 2, 3] rfl ?_
    rw [← Option.some.inj hf] at J36
    exact J36
  · have hf := iq hc3 hf
    refine V_iload E 5 rfl dX8_changeNow_29 ?_
    refine V_goto E (tgt := 36) dX8_changeNow_31 (by decide) ?_
    refine V_sub [0, 1, 2, 3] rfl ?_
    rw [← Option.some.inj hf] at J36
    exact J36
abbrev rmMo_isInner : Room := { frames := 1, cells := 0, slots := 0, locals := 25 }
theorem wd_yX8_isInner : wdS yX8_isInner cX8_isInner 2 (some .boolean) 2 := ⟨wc_yX8_isInner, wst_yX8_isInner, wini_X8, by decide +kernel, by decide +kernel, by decide +kernel⟩
set_option maxHeartbeats 4000000 in
set_option maxRecDepth 100000 in
theorem kMo_isInner (l : Launch) (G : wG) (p0 : Int32) (p1 : Int32) (o : Int32) (hf : fMo_isInner p0 p1 = some o) : Ct G l yX8_isInner cX8_isInner 2 (some .boolean) rmMo_isInner [.int p0, .int p1] [] (some (.int o)) [] := by
  refine Ct.ofZ (by decide +kernel) (Nat.le_of_ble_eq_true rfl) (fun p e s m args below meth c A Q E hret => ?_)
  unfold fMo_isInner at hf
  show V G p l e rmMo_isInner s m args below meth c 2 A Q 0 0 [] 0 [(0, .int p0), (1, .int p1)] []
  refine V_iload_n E 0 rfl dX8_isInner_0 ?_
  refine V_i2l E dX8_isInner_1 ?_
  refine V_lconst E (v := (1 : Int64)) dX8_isInner_2 (by decide) ?_
  refine V_ldc2 E (v := (2 : Int64)) dX8_isInner_3 kX8_112 ?_
  obtain ⟨u1, hu1, hf⟩ := bd hf
  refine V_fr0 E (Rn_S E (rest := []) mlX8_63 wd_yX8_in (kMo_in l G p0.toInt64 (1 : Int64) (2 : Int64) u1 hu1) ⟨rfl, rfl, Nat.le_of_ble_eq_true rfl, Nat.le_of_ble_eq_true rfl⟩ rfl rfl (Nat.le_of_ble_eq_true rfl) dX8_isInner_6) ?_
  show V G p l e rmMo_isInner s m args below meth c 2 A Q 0 0 [] 9 [(0, .int p0), (1, .int p1)] [.int u1]
  refine V_if_eq E (tgt := 28) dX8_isInner_9 (by decide) (fun hc2 => ?_) (fun hc2 => ?_)
  · have hf := ip hc2 hf
    refine V_iconst E (v := (0 : Int32)) dX8_isInner_28 (by decide) ?_
    have h9 := hret 29 [(0, .int p0), (1, .int p1)] dX8_isInner_29
    rw [← (Option.some.inj hf)] at h9
    exact h9 (z01a (Or.inl rfl))
  · have hf := iq hc2 hf
    refine V_iload_n E 1 rfl dX8_isInner_12 ?_
    refine V_i2l E dX8_isInner_13 ?_
    refine V_lconst E (v := (1 : Int64)) dX8_isInner_14 (by decide) ?_
    refine V_ldc2 E (v := (6 : Int64)) dX8_isInner_15 kX8_153 ?_
    obtain ⟨u3, hu3, hf⟩ := bd hf
    refine V_fr0 E (Rn_S E (rest := []) mlX8_63 wd_yX8_in (kMo_in l G p1.toInt64 (1 : Int64) (6 : Int64) u3 hu3) ⟨rfl, rfl, Nat.le_of_ble_eq_true rfl, Nat.le_of_ble_eq_true rfl⟩ rfl rfl (Nat.le_of_ble_eq_true rfl) dX8_isInner_18) ?_
    show V G p l e rmMo_isInner s m args below meth c 2 A Q 0 0 [] 21 [(0, .int p0), (1, .int p1)] [.int u3]
    refine V_if_eq E (tgt := 28) dX8_isInner_21 (by decide) (fun hc4 => ?_) (fun hc4 => ?_)
    · have hf := ip hc4 hf
      refine V_iconst E (v := (0 : Int32)) dX8_isInner_28 (by decide) ?_
      have h9 := hret 29 [(0, .int p0), (1, .int p1)] dX8_isInner_29
      rw [← (Option.some.inj hf)] at h9
      exact h9 (z01a (Or.inl rfl))
    · have hf := iq hc4 hf
      refine V_iconst E (v := (1 : Int32)) dX8_isInner_24 (by decide) ?_
      refine V_goto E (tgt := 29) dX8_isInner_25 (by decide) ?_
      have h9 := hret 29 [(0, .int p0), (1, .int p1)] dX8_isInner_29
      rw [← (Option.some.inj hf)] at h9
      exact h9 (z01a (Or.inr rfl))
abbrev rmMo_change : Room := { frames := 3, cells := 0, slots := 0, locals := 73 }
theorem wd_yX8_change : wdV yX8_change cX8_change 4 (some .int) 3 := ⟨wc_yX8_change, wi_yX8_change, wse_yX8_change, wini_X8, by decide +kernel, by decide +kernel, by decide +kernel⟩
set_option maxHeartbeats 4000000 in
set_option maxRecDepth 100000 in
theorem kMo_change (l : Launch) (G : wG) (qMo : Nat → Nat) (p1 : Int32) (p2 : Int32) (p3 : Int32) (mo_all : Nat → Int32) (mo_past : Nat → Int32) (mo_aside : Nat → Int32) (mo_states : Int32) (mo_refused : Nat → Int32) (mo_causeKind : Int32) (mo_causeOrder : Int32) (mo_corner : Nat → Int32) (mo_linkVotes : Nat → Int32) (mo_linkE : Nat → Int32) (mo_linkF : Nat → Int32) (mo_follower : Nat → Int32) (mo_ahead : Nat → Int32) (mo_least : Nat → Int32) (mo_seam : Nat → Int32) (mo_above : Int64) (mo_below : Int64) (mo_text : Nat → Int32) (mo_textLong : Int32) (mo_place : Int32) (mo_value : Int32) (mo_numbers : Nat → Int32) (mo_not : Int32) (o : Int32 × (Nat → Int32)) (hf : fMo_change p1 p2 p3 mo_all mo_refused = some o) : Ct G l yX8_change cX8_change 4 (some .int) rmMo_change [.ref (qMo 0), .int p1, .int p2, .int p3] (gMo G qMo mo_all mo_past mo_aside mo_states mo_refused mo_causeKind mo_causeOrder mo_corner mo_linkVotes mo_linkE mo_linkF mo_follower mo_ahead mo_least mo_seam mo_above mo_below mo_text mo_textLong mo_place mo_value mo_numbers mo_not) (some (.int o.1)) (gMo G qMo mo_all mo_past mo_aside mo_states o.2 mo_causeKind mo_causeOrder mo_corner mo_linkVotes mo_linkE mo_linkF mo_follower mo_ahead mo_least mo_seam mo_above mo_below mo_text mo_textLong mo_place mo_value mo_numbers mo_not) := by
  refine Ct.ofI (by decide +kernel) (Nat.le_of_ble_eq_true rfl) (fun p e s m args below meth c A Q E hret => ?_)
  unfold fMo_change at hf
  show V G p l e rmMo_change s m args below meth c 4 A Q 0 0 (gMo G qMo mo_all mo_past mo_aside mo_states mo_refused mo_causeKind mo_causeOrder mo_corner mo_linkVotes mo_linkE mo_linkF mo_follower mo_ahead mo_least mo_seam mo_above mo_below mo_text mo_textLong mo_place mo_value mo_numbers mo_not) 0 [(0, .ref (qMo 0)), (1, .int p1), (2, .int p2), (3, .int p3)] []
  refine V_aload_n E 0 rfl dX8_change_0 ?_
  refine V_iload_n E 1 rfl dX8_change_1 ?_
  obtain ⟨u1, hu1, hf⟩ := bd hf
  refine V_frW E (Rn_V E (rest := []) mlX8_128 wd_yX8_isPicture (kMo_isPicture l G qMo p1 mo_all mo_past mo_aside mo_states mo_refused mo_causeKind mo_causeOrder mo_corner mo_linkVotes mo_linkE mo_linkF mo_follower mo_ahead mo_least mo_seam mo_above mo_below mo_text mo_textLong mo_place mo_value mo_numbers mo_not u1 hu1) ⟨rfl, rfl, Nat.le_of_ble_eq_true rfl, Nat.le_of_ble_eq_true rfl⟩ 0 rfl rfl rfl rfl rfl (Nat.le_of_ble_eq_true rfl) dX8_change_2) ?_
  show V G p l e rmMo_change s m args below meth c 4 A Q 0 0 (gMo G qMo mo_all mo_past mo_aside mo_states mo_refused mo_causeKind mo_causeOrder mo_corner mo_linkVotes mo_linkE mo_linkF mo_follower mo_ahead mo_least mo_seam mo_above mo_below mo_text mo_textLong mo_place mo_value mo_numbers mo_not) 5 [(0, .ref (qMo 0)), (1, .int p1), (2, .int p2), (3, .int p3)] [.int u1]
  refine V_if_eq E (tgt := 26) dX8_change_5 (by decide) (fun hc2 => ?_) (fun hc2 => ?_)
  · have hf := ip hc2 hf
    refine V_aload_n E 0 rfl dX8_change_26 ?_
    refine V_bipush E (v := (-2 : Int32)) dX8_change_27 (by decide) ?_
    obtain ⟨u3, hu3, hf⟩ := bd hf
    refine V_frW E (Rn_V E (rest := []) mlX8_91 wd_yX8_refuses (kMo_refuses l G qMo (-2 : Int32) mo_all mo_past mo_aside mo_states mo_refused mo_causeKind mo_causeOrder mo_corner mo_linkVotes mo_linkE mo_linkF mo_follower mo_ahead mo_least mo_seam mo_above mo_below mo_text mo_textLong mo_place mo_value mo_numbers mo_not u3 hu3) ⟨rfl, rfl, Nat.le_of_ble_eq_true rfl, Nat.le_of_ble_eq_true rfl⟩ 0 rfl rfl rfl rfl rfl (Nat.le_of_ble_eq_true rfl) dX8_change_29) ?_
    show V G p l e rmMo_change s m args below meth c 4 A Q 0 0 (gMo G qMo mo_all mo_past mo_aside mo_states u3.2 mo_causeKind mo_causeOrder mo_corner mo_linkVotes mo_linkE mo_linkF mo_follower mo_ahead mo_least mo_seam mo_above mo_below mo_text mo_textLong mo_place mo_value mo_numbers mo_not) 32 [(0, .ref (qMo 0)), (1, .int p1), (2, .int p2), (3, .int p3)] [.int u3.1]
    have h9 := hret 32 [(0, .ref (qMo 0)), (1, .int p1), (2, .int p2), (3, .int p3)] dX8_change_32
    rw [← (Option.some.inj hf)] at h9
    exact h9
  · have hf := iq hc2 hf
    refine V_iload_n E 2 rfl dX8_change_8 ?_
    refine V_iload_n E 3 rfl dX8_change_9 ?_
    obtain ⟨u4, hu4, hf⟩ := bd hf
    refine V_fr0 E (Rn_S E (rest := []) mlX8_155 wd_yX8_isInner (kMo_isInner l G p2 p3 u4 hu4) ⟨rfl, rfl, Nat.le_of_ble_eq_true rfl, Nat.le_of_ble_eq_true rfl⟩ rfl rfl (Nat.le_of_ble_eq_true rfl) dX8_change_10) ?_
    show V G p l e rmMo_change s m args below meth c 4 A Q 0 0 (gMo G qMo mo_all mo_past mo_aside mo_states mo_refused mo_causeKind mo_causeOrder mo_corner mo_linkVotes mo_linkE mo_linkF mo_follower mo_ahead mo_least mo_seam mo_above mo_below mo_text mo_textLong mo_place mo_value mo_numbers mo_not) 13 [(0, .ref (qMo 0)), (1, .int p1), (2, .int p2), (3, .int p3)] [.int u4]
    refine V_if_eq E (tgt := 26) dX8_change_13 (by decide) (fun hc5 => ?_) (fun hc5 => ?_)
    · have hf := ip hc5 hf
      refine V_aload_n E 0 rfl dX8_change_26 ?_
      refine V_bipush E (v := (-2 : Int32)) dX8_change_27 (by decide) ?_
      obtain ⟨u6, hu6, hf⟩ := bd hf
      refine V_frW E (Rn_V E (rest := []) mlX8_91 wd_yX8_refuses (kMo_refuses l G qMo (-2 : Int32) mo_all mo_past mo_aside mo_states mo_refused mo_causeKind mo_causeOrder mo_corner mo_linkVotes mo_linkE mo_linkF mo_follower mo_ahead mo_least mo_seam mo_above mo_below mo_text mo_textLong mo_place mo_value mo_numbers mo_not u6 hu6) ⟨rfl, rfl, Nat.le_of_ble_eq_true rfl, Nat.le_of_ble_eq_true rfl⟩ 0 rfl rfl rfl rfl rfl (Nat.le_of_ble_eq_true rfl) dX8_change_29) ?_
      show V G p l e rmMo_change s m args below meth c 4 A Q 0 0 (gMo G qMo mo_all mo_past mo_aside mo_states u6.2 mo_causeKind mo_causeOrder mo_corner mo_linkVotes mo_linkE mo_linkF mo_follower mo_ahead mo_least mo_seam mo_above mo_below mo_text mo_textLong mo_place mo_value mo_numbers mo_not) 32 [(0, .ref (qMo 0)), (1, .int p1), (2, .int p2), (3, .int p3)] [.int u6.1]
      have h9 := hret 32 [(0, .ref (qMo 0)), (1, .int p1), (2, .int p2), (3, .int p3)] dX8_change_32
      rw [← (Option.some.inj hf)] at h9
      exact h9
    · have hf := iq hc5 hf
      refine V_aload_n E 0 rfl dX8_change_16 ?_
      refine V_iload_n E 1 rfl dX8_change_17 ?_
      refine V_iload_n E 2 rfl dX8_change_18 ?_
      refine V_iload_n E 3 rfl dX8_change_19 ?_
      obtain ⟨u7, hu7, hf⟩ := bd hf
      refine V_frW E (Rn_V E (rest := []) mlX8_158 wd_yX8_changeNow (kMo_changeNow l G qMo p1 p2 p3 mo_all mo_past mo_aside mo_states mo_refused mo_causeKind mo_causeOrder mo_corner mo_linkVotes mo_linkE mo_linkF mo_follower mo_ahead mo_least mo_seam mo_above mo_below mo_text mo_textLong mo_place mo_value mo_numbers mo_not u7 hu7) ⟨rfl, rfl, Nat.le_of_ble_eq_true rfl, Nat.le_of_ble_eq_true rfl⟩ 0 rfl rfl rfl rfl rfl (Nat.le_of_ble_eq_true rfl) dX8_change_20) ?_
      show V G p l e rmMo_change s m args below meth c 4 A Q 0 0 (gMo G qMo mo_all mo_past mo_aside mo_states mo_refused mo_causeKind mo_causeOrder mo_corner mo_linkVotes mo_linkE mo_linkF mo_follower mo_ahead mo_least mo_seam mo_above mo_below mo_text mo_textLong mo_place mo_value mo_numbers mo_not) 23 [(0, .ref (qMo 0)), (1, .int p1), (2, .int p2), (3, .int p3)] [.int u7]
      refine V_goto E (tgt := 32) dX8_change_23 (by decide) ?_
      have h9 := hret 32 [(0, .ref (qMo 0)), (1, .int p1), (2, .int p2), (3, .int p3)] dX8_change_32
      rw [← (Option.some.inj hf)] at h9
      exact h9
abbrev rmMo_isCorner : Room := { frames := 3, cells := 0, slots := 0, locals := 73 }
theorem wd_yX8_isCorner : wdV yX8_isCorner cX8_isCorner 4 (some .boolean) 3 := ⟨wc_yX8_isCorner, wi_yX8_isCorner, wse_yX8_isCorner, wini_X8, by decide +kernel, by decide +kernel, by decide +kernel⟩
set_option maxHeartbeats 4000000 in
set_option maxRecDepth 100000 in
theorem kMo_isCorner (l : Launch) (G : wG) (qMo : Nat → Nat) (p1 : Int32) (p2 : Int32) (p3 : Int32) (mo_all : Nat → Int32) (mo_past : Nat → Int32) (mo_aside : Nat → Int32) (mo_states : Int32) (mo_refused : Nat → Int32) (mo_causeKind : Int32) (mo_causeOrder : Int32) (mo_corner : Nat → Int32) (mo_linkVotes : Nat → Int32) (mo_linkE : Nat → Int32) (mo_linkF : Nat → Int32) (mo_follower : Nat → Int32) (mo_ahead : Nat → Int32) (mo_least : Nat → Int32) (mo_seam : Nat → Int32) (mo_above : Int64) (mo_below : Int64) (mo_text : Nat → Int32) (mo_textLong : Int32) (mo_place : Int32) (mo_value : Int32) (mo_numbers : Nat → Int32) (mo_not : Int32) (o : Int32) (hf : fMo_isCorner p1 p2 p3 mo_all = some o) : Ct G l yX8_isCorner cX8_isCorner 4 (some .boolean) rmMo_isCorner [.ref (qMo 0), .int p1, .int p2, .int p3] (gMo G qMo mo_all mo_past mo_aside mo_states mo_refused mo_causeKind mo_causeOrder mo_corner mo_linkVotes mo_linkE mo_linkF mo_follower mo_ahead mo_least mo_seam mo_above mo_below mo_text mo_textLong mo_place mo_value mo_numbers mo_not) (some (.int o)) (gMo G qMo mo_all mo_past mo_aside mo_states mo_refused mo_causeKind mo_causeOrder mo_corner mo_linkVotes mo_linkE mo_linkF mo_follower mo_ahead mo_least mo_seam mo_above mo_below mo_text mo_textLong mo_place mo_value mo_numbers mo_not) := by
  refine Ct.ofZ (by decide +kernel) (Nat.le_of_ble_eq_true rfl) (fun p e s m args below meth c A Q E hret => ?_)
  unfold fMo_isCorner at hf
  show V G p l e rmMo_isCorner s m args below meth c 4 A Q 0 0 (gMo G qMo mo_all mo_past mo_aside mo_states mo_refused mo_causeKind mo_causeOrder mo_corner mo_linkVotes mo_linkE mo_linkF mo_follower mo_ahead mo_least mo_seam mo_above mo_below mo_text mo_textLong mo_place mo_value mo_numbers mo_not) 0 [(0, .ref (qMo 0)), (1, .int p1), (2, .int p2), (3, .int p3)] []
  refine V_iload_n E 2 rfl dX8_isCorner_0 ?_
  refine V_iload_n E 3 rfl dX8_isCorner_1 ?_
  obtain ⟨u1, hu1, hf⟩ := bd hf
  refine V_fr0 E (Rn_S E (rest := []) mlX8_155 wd_yX8_isInner (kMo_isInner l G p2 p3 u1 hu1) ⟨rfl, rfl, Nat.le_of_ble_eq_true rfl, Nat.le_of_ble_eq_true rfl⟩ rfl rfl (Nat.le_of_ble_eq_true rfl) dX8_isCorner_2) ?_
  show V G p l e rmMo_isCorner s m args below meth c 4 A Q 0 0 (gMo G qMo mo_all mo_past mo_aside mo_states mo_refused mo_causeKind mo_causeOrder mo_corner mo_linkVotes mo_linkE mo_linkF mo_follower mo_ahead mo_least mo_seam mo_above mo_below mo_text mo_textLong mo_place mo_value mo_numbers mo_not) 5 [(0, .ref (qMo 0)), (1, .int p1), (2, .int p2), (3, .int p3)] [.int u1]
  refine V_if_eq E (tgt := 28) dX8_isCorner_5 (by decide) (fun hc2 => ?_) (fun hc2 => ?_)
  · have hf := ip hc2 hf
    refine V_iconst E (v := (0 : Int32)) dX8_isCorner_28 (by decide) ?_
    have h9 := hret 29 [(0, .ref (qMo 0)), (1, .int p1), (2, .int p2), (3, .int p3)] dX8_isCorner_29
    rw [← (Option.some.inj hf)] at h9
    exact h9 (z01a (Or.inl rfl))
  · have hf := iq hc2 hf
    refine V_aload_n E 0 rfl dX8_isCorner_8 ?_
    refine V_iload_n E 1 rfl dX8_isCorner_9 ?_
    refine V_iload_n E 2 rfl dX8_isCorner_10 ?_
    refine V_iload_n E 3 rfl dX8_isCorner_11 ?_
    obtain ⟨u3, hu3, hf⟩ := bd hf
    refine V_frW E (Rn_V E (rest := []) mlX8_158 wd_yX8_changeNow (kMo_changeNow l G qMo p1 p2 p3 mo_all mo_past mo_aside mo_states mo_refused mo_causeKind mo_causeOrder mo_corner mo_linkVotes mo_linkE mo_linkF mo_follower mo_ahead mo_least mo_seam mo_above mo_below mo_text mo_textLong mo_place mo_value mo_numbers mo_not u3 hu3) ⟨rfl, rfl, Nat.le_of_ble_eq_true rfl, Nat.le_of_ble_eq_true rfl⟩ 0 rfl rfl rfl rfl rfl (Nat.le_of_ble_eq_true rfl) dX8_isCorner_12) ?_
    show V G p l e rmMo_isCorner s m args below meth c 4 A Q 0 0 (gMo G qMo mo_all mo_past mo_aside mo_states mo_refused mo_causeKind mo_causeOrder mo_corner mo_linkVotes mo_linkE mo_linkF mo_follower mo_ahead mo_least mo_seam mo_above mo_below mo_text mo_textLong mo_place mo_value mo_numbers mo_not) 15 [(0, .ref (qMo 0)), (1, .int p1), (2, .int p2), (3, .int p3)] [.int u3]
    refine V_aload_n E 0 rfl dX8_isCorner_15 ?_
    refine gfX8_7 E 0 rfl rfl dX8_isCorner_16 ?_
    refine V_iconst E (v := (1 : Int32)) dX8_isCorner_19 (by decide) ?_
    obtain ⟨hi4, hf⟩ := asr_ok hf
    refine V_iald E 1 rfl hi4 dX8_isCorner_20 ?_
    refine V_icmp_lt E (tgt := 28) dX8_isCorner_21 (by decide) (fun hc5 => ?_) (fun hc5 => ?_)
    · have hf := ip hc5 hf
      refine V_iconst E (v := (0 : Int32)) dX8_isCorner_28 (by decide) ?_
      have h9 := hret 29 [(0, .ref (qMo 0)), (1, .int p1), (2, .int p2), (3, .int p3)] dX8_isCorner_29
      rw [← (Option.some.inj hf)] at h9
      exact h9 (z01a (Or.inl rfl))
    · have hf := iq hc5 hf
      refine V_iconst E (v := (1 : Int32)) dX8_isCorner_24 (by decide) ?_
      refine V_goto E (tgt := 29) dX8_isCorner_25 (by decide) ?_
      have h9 := hret 29 [(0, .ref (qMo 0)), (1, .int p1), (2, .int p2), (3, .int p3)] dX8_isCorner_29
      rw [← (Option.some.inj hf)] at h9
      exact h9 (z01a (Or.inr rfl))
abbrev rmMo_cornersNow : Room := { frames := 4, cells := 0, slots := 0, locals := 96 }
theorem wd_yX8_cornersNow : wdV yX8_cornersNow cX8_cornersNow 5 (some .int) 1 := ⟨wc_yX8_cornersNow, wi_yX8_cornersNow, wse_yX8_cornersNow, wini_X8, by decide +kernel, by decide +kernel, by decide +kernel⟩
set_option maxHeartbeats 4000000 in
set_option maxRecDepth 100000 in
theorem kMo_cornersNow (l : Launch) (G : wG) (qMo : Nat → Nat) (p1 : Int32) (mo_all : Nat → Int32) (mo_past : Nat → Int32) (mo_aside : Nat → Int32) (mo_states : Int32) (mo_refused : Nat → Int32) (mo_causeKind : Int32) (mo_causeOrder : Int32) (mo_corner : Nat → Int32) (mo_linkVotes : Nat → Int32) (mo_linkE : Nat → Int32) (mo_linkF : Nat → Int32) (mo_follower : Nat → Int32) (mo_ahead : Nat → Int32) (mo_least : Nat → Int32) (mo_seam : Nat → Int32) (mo_above : Int64) (mo_below : Int64) (mo_text : Nat → Int32) (mo_textLong : Int32) (mo_place : Int32) (mo_value : Int32) (mo_numbers : Nat → Int32) (mo_not : Int32) (o : Int32) (hf : fMo_cornersNow p1 mo_all = some o) : Ct G l yX8_cornersNow cX8_cornersNow 5 (some .int) rmMo_cornersNow [.ref (qMo 0), .int p1] (gMo G qMo mo_all mo_past mo_aside mo_states mo_refused mo_causeKind mo_causeOrder mo_corner mo_linkVotes mo_linkE mo_linkF mo_follower mo_ahead mo_least mo_seam mo_above mo_below mo_text mo_textLong mo_place mo_value mo_numbers mo_not) (some (.int o)) (gMo G qMo mo_all mo_past mo_aside mo_states mo_refused mo_causeKind mo_causeOrder mo_corner mo_linkVotes mo_linkE mo_linkF mo_follower mo_ahead mo_least mo_seam mo_above mo_below mo_text mo_textLong mo_place mo_value mo_numbers mo_not) := by
  refine Ct.ofI (by decide +kernel) (Nat.le_of_ble_eq_true rfl) (fun p e s m args below meth c A Q E hret => ?_)
  unfold fMo_cornersNow at hf
  show V G p l e rmMo_cornersNow s m args below meth c 5 A Q 0 0 (gMo G qMo mo_all mo_past mo_aside mo_states mo_refused mo_causeKind mo_causeOrder mo_corner mo_linkVotes mo_linkE mo_linkF mo_follower mo_ahead mo_least mo_seam mo_above mo_below mo_text mo_textLong mo_place mo_value mo_numbers mo_not) 0 [(0, .ref (qMo 0)), (1, .int p1)] []
  refine V_iconst E (v := (0 : Int32)) dX8_cornersNow_0 (by decide) ?_
  refine V_istore_n E (lv' := [(0, .ref (qMo 0)), (1, .int p1), (2, .int (0 : Int32))]) dX8_cornersNow_1 (by decide) rfl ?_
  refine V_iconst E (v := (1 : Int32)) dX8_cornersNow_2 (by decide) ?_
  refine V_istore_n E (lv' := [(0, .ref (qMo 0)), (1, .int p1), (2, .int (0 : Int32)), (3, .int (1 : Int32))]) dX8_cornersNow_3 (by decide) rfl ?_
  have L4 : ∀ (n : Nat) (a4_2 : Int32) (a4_3 : Int32) (u : Int32), fMo_cornersNow_L4 p1 mo_all n a4_2 a4_3 = some u → (V G p l e rmMo_cornersNow s m args below meth c 5 A Q 0 0 (gMo G qMo mo_all mo_past mo_aside mo_states mo_refused mo_causeKind mo_causeOrder mo_corner mo_linkVotes mo_linkE mo_linkF mo_follower mo_ahead mo_least mo_seam mo_above mo_below mo_text mo_textLong mo_place mo_value mo_numbers mo_not) 62 [(2, .int u)] []) → V G p l e rmMo_cornersNow s m args below meth c 5 A Q 0 0 (gMo G qMo mo_all mo_past mo_aside mo_states mo_refused mo_causeKind mo_causeOrder mo_corner mo_linkVotes mo_linkE mo_linkF mo_follower mo_ahead mo_least mo_seam mo_above mo_below mo_text mo_textLong mo_place mo_value mo_numbers mo_not) 4 [(0, .ref (qMo 0)), (1, .int p1), (2, .int a4_2), (3, .int a4_3)] [] := by
    intro n
    induction n with
    | zero =>
      intro a4_2 a4_3 u hf hk
      rw [fMo_cornersNow_L4] at hf
      cases hf
    | succ n ih =>
      intro a4_2 a4_3 u hf hk
      rw [fMo_cornersNow_L4] at hf
      exact ih a4_2 a4_3 _ hf hk
  obtain ⟨u1, hu1, hf⟩ := bd hf
  refine L4 FU (0 : Int32) (1 : Int32) u1 hu1 ?_
  refine V_iload_n E 0 rfl dX8_cornersNow_62 ?_
  have h9 := hret 63 [(2, .int u1)] dX8_cornersNow_63
  rw [← (Option.some.inj hf)] at h9
  exact h9
abbrev rmMo_corners : Room := { frames := 5, cells := 0, slots := 0, locals := 120 }
theorem wd_yX8_corners : wdV yX8_corners cX8_corners 2 (some .int) 1 := ⟨wc_yX8_corners, wi_yX8_corners, wse_yX8_corners, wini_X8, by decide +kernel, by decide +kernel, by decide +kernel⟩
set_option maxHeartbeats 4000000 in
set_option maxRecDepth 100000 in
theorem kMo_corners (l : Launch) (G : wG) (qMo : Nat → Nat) (p1 : Int32) (mo_all : Nat → Int32) (mo_past : Nat → Int32) (mo_aside : Nat → Int32) (mo_states : Int32) (mo_refused : Nat → Int32) (mo_causeKind : Int32) (mo_causeOrder : Int32) (mo_corner : Nat → Int32) (mo_linkVotes : Nat → Int32) (mo_linkE : Nat → Int32) (mo_linkF : Nat → Int32) (mo_follower : Nat → Int32) (mo_ahead : Nat → Int32) (mo_least : Nat → Int32) (mo_seam : Nat → Int32) (mo_above : Int64) (mo_below : Int64) (mo_text : Nat → Int32) (mo_textLong : Int32) (mo_place : Int32) (mo_value : Int32) (mo_numbers : Nat → Int32) (mo_not : Int32) (o : Int32 × (Nat → Int32)) (hf : fMo_corners p1 mo_all mo_refused = some o) : Ct G l yX8_corners cX8_corners 2 (some .int) rmMo_corners [.ref (qMo 0), .int p1] (gMo G qMo mo_all mo_past mo_aside mo_states mo_refused mo_causeKind mo_causeOrder mo_corner mo_linkVotes mo_linkE mo_linkF mo_follower mo_ahead mo_least mo_seam mo_above mo_below mo_text mo_textLong mo_place mo_value mo_numbers mo_not) (some (.int o.1)) (gMo G qMo mo_all mo_past mo_aside mo_states o.2 mo_causeKind mo_causeOrder mo_corner mo_linkVotes mo_linkE mo_linkF mo_follower mo_ahead mo_least mo_seam mo_above mo_below mo_text mo_textLong mo_place mo_value mo_numbers mo_not) := by
  refine Ct.ofI (by decide +kernel) (Nat.le_of_ble_eq_true rfl) (fun p e s m args below meth c A Q E hret => ?_)
  unfold fMo_corners at hf
  show V G p l e rmMo_corners s m args below meth c 2 A Q 0 0 (gMo G qMo mo_all mo_past mo_aside mo_states mo_refused mo_causeKind mo_causeOrder mo_corner mo_linkVotes mo_linkE mo_linkF mo_follower mo_ahead mo_least mo_seam mo_above mo_below mo_text mo_textLong mo_place mo_value mo_numbers mo_not) 0 [(0, .ref (qMo 0)), (1, .int p1)] []
  refine V_aload_n E 0 rfl dX8_corners_0 ?_
  refine V_iload_n E 1 rfl dX8_corners_1 ?_
  obtain ⟨u1, hu1, hf⟩ := bd hf
  refine V_frW E (Rn_V E (rest := []) mlX8_128 wd_yX8_isPicture (kMo_isPicture l G qMo p1 mo_all mo_past mo_aside mo_states mo_refused mo_causeKind mo_causeOrder mo_corner mo_linkVotes mo_linkE mo_linkF mo_follower mo_ahead mo_least mo_seam mo_above mo_below mo_text mo_textLong mo_place mo_value mo_numbers mo_not u1 hu1) ⟨rfl, rfl, Nat.le_of_ble_eq_true rfl, Nat.le_of_ble_eq_true rfl⟩ 0 rfl rfl rfl rfl rfl (Nat.le_of_ble_eq_true rfl) dX8_corners_2) ?_
  show V G p l e rmMo_corners s m args below meth c 2 A Q 0 0 (gMo G qMo mo_all mo_past mo_aside mo_states mo_refused mo_causeKind mo_causeOrder mo_corner mo_linkVotes mo_linkE mo_linkF mo_follower mo_ahead mo_least mo_seam mo_above mo_below mo_text mo_textLong mo_place mo_value mo_numbers mo_not) 5 [(0, .ref (qMo 0)), (1, .int p1)] [.int u1]
  refine V_if_eq E (tgt := 16) dX8_corners_5 (by decide) (fun hc2 => ?_) (fun hc2 => ?_)
  · have hf := ip hc2 hf
    refine V_aload_n E 0 rfl dX8_corners_16 ?_
    refine V_bipush E (v := (-2 : Int32)) dX8_corners_17 (by decide) ?_
    obtain ⟨u3, hu3, hf⟩ := bd hf
    refine V_frW E (Rn_V E (rest := []) mlX8_91 wd_yX8_refuses (kMo_refuses l G qMo (-2 : Int32) mo_all mo_past mo_aside mo_states mo_refused mo_causeKind mo_causeOrder mo_corner mo_linkVotes mo_linkE mo_linkF mo_follower mo_ahead mo_least mo_seam mo_above mo_below mo_text mo_textLong mo_place mo_value mo_numbers mo_not u3 hu3) ⟨rfl, rfl, Nat.le_of_ble_eq_true rfl, Nat.le_of_ble_eq_true rfl⟩ 0 rfl rfl rfl rfl rfl (Nat.le_of_ble_eq_true rfl) dX8_corners_19) ?_
    show V G p l e rmMo_corners s m args below meth c 2 A Q 0 0 (gMo G qMo mo_all mo_past mo_aside mo_states u3.2 mo_causeKind mo_causeOrder mo_corner mo_linkVotes mo_linkE mo_linkF mo_follower mo_ahead mo_least mo_seam mo_above mo_below mo_text mo_textLong mo_place mo_value mo_numbers mo_not) 22 [(0, .ref (qMo 0)), (1, .int p1)] [.int u3.1]
    have h9 := hret 22 [(0, .ref (qMo 0)), (1, .int p1)] dX8_corners_22
    rw [← (Option.some.inj hf)] at h9
    exact h9
  · have hf := iq hc2 hf
    refine V_aload_n E 0 rfl dX8_corners_8 ?_
    refine V_iload_n E 1 rfl dX8_corners_9 ?_
    obtain ⟨u4, hu4, hf⟩ := bd hf
    refine V_frW E (Rn_V E (rest := []) mlX8_165 wd_yX8_cornersNow (kMo_cornersNow l G qMo p1 mo_all mo_past mo_aside mo_states mo_refused mo_causeKind mo_causeOrder mo_corner mo_linkVotes mo_linkE mo_linkF mo_follower mo_ahead mo_least mo_seam mo_above mo_below mo_text mo_textLong mo_place mo_value mo_numbers mo_not u4 hu4) ⟨rfl, rfl, Nat.le_of_ble_eq_true rfl, Nat.le_of_ble_eq_true rfl⟩ 0 rfl rfl rfl rfl rfl (Nat.le_of_ble_eq_true rfl) dX8_corners_10) ?_
    show V G p l e rmMo_corners s m args below meth c 2 A Q 0 0 (gMo G qMo mo_all mo_past mo_aside mo_states mo_refused mo_causeKind mo_causeOrder mo_corner mo_linkVotes mo_linkE mo_linkF mo_follower mo_ahead mo_least mo_seam mo_above mo_below mo_text mo_textLong mo_place mo_value mo_numbers mo_not) 13 [(0, .ref (qMo 0)), (1, .int p1)] [.int u4]
    refine V_goto E (tgt := 22) dX8_corners_13 (by decide) ?_
    have h9 := hret 22 [(0, .ref (qMo 0)), (1, .int p1)] dX8_corners_22
    rw [← (Option.some.inj hf)] at h9
    exact h9
abbrev rmMo_laysCorners : Room := { frames := 5, cells := 0, slots := 0, locals := 120 }
theorem wd_yX8_laysCorners : wdV yX8_laysCorners cX8_laysCorners 2 none 0 := ⟨wc_yX8_laysCorners, wi_yX8_laysCorners, wse_yX8_laysCorners, wini_X8, by decide +kernel, by decide +kernel, by decide +kernel⟩
set_option maxHeartbeats 4000000 in
set_option maxRecDepth 100000 in
theorem kMo_laysCorners (l : Launch) (G : wG) (qMo : Nat → Nat) (mo_all : Nat → Int32) (mo_past : Nat → Int32) (mo_aside : Nat → Int32) (mo_states : Int32) (mo_refused : Nat → Int32) (mo_causeKind : Int32) (mo_causeOrder : Int32) (mo_corner : Nat → Int32) (mo_linkVotes : Nat → Int32) (mo_linkE : Nat → Int32) (mo_linkF : Nat → Int32) (mo_follower : Nat → Int32) (mo_ahead : Nat → Int32) (mo_least : Nat → Int32) (mo_seam : Nat → Int32) (mo_above : Int64) (mo_below : Int64) (mo_text : Nat → Int32) (mo_textLong : Int32) (mo_place : Int32) (mo_value : Int32) (mo_numbers : Nat → Int32) (mo_not : Int32) (o : (Nat → Int32)) (hf : fMo_laysCorners mo_all mo_corner = some o) : Ct G l yX8_laysCorners cX8_laysCorners 2 none rmMo_laysCorners [.ref (qMo 0)] (gMo G qMo mo_all mo_past mo_aside mo_states mo_refused mo_causeKind mo_causeOrder mo_corner mo_linkVotes mo_linkE mo_linkF mo_follower mo_ahead mo_least mo_seam mo_above mo_below mo_text mo_textLong mo_place mo_value mo_numbers mo_not) none (gMo G qMo mo_all mo_past mo_aside mo_states mo_refused mo_causeKind mo_causeOrder o mo_linkVotes mo_linkE mo_linkF mo_follower mo_ahead mo_least mo_seam mo_above mo_below mo_text mo_textLong mo_place mo_value mo_numbers mo_not) := by
  refine Ct.ofV (by decide +kernel) (Nat.le_of_ble_eq_true rfl) (fun p e s m args below meth c A Q E hret => ?_)
  unfold fMo_laysCorners at hf
  show V G p l e rmMo_laysCorners s m args below meth c 2 A Q 0 0 (gMo G qMo mo_all mo_past mo_aside mo_states mo_refused mo_causeKind mo_causeOrder mo_corner mo_linkVotes mo_linkE mo_linkF mo_follower mo_ahead mo_least mo_seam mo_above mo_below mo_text mo_textLong mo_place mo_value mo_numbers mo_not) 0 [(0, .ref (qMo 0))] []
  refine V_iconst E (v := (0 : Int32)) dX8_laysCorners_0 (by decide) ?_
  refine V_istore_n E (lv' := [(0, .ref (qMo 0)), (1, .int (0 : Int32))]) dX8_laysCorners_1 (by decide) rfl ?_
  have L2 : ∀ (n : Nat) (a2_1 : Int32) (c2_mo_corner : Nat → Int32) (u : (Nat → Int32)), fMo_laysCorners_L2 mo_all n a2_1 c2_mo_corner = some u → (V G p l e rmMo_laysCorners s m args below meth c 2 A Q 0 0 (gMo G qMo mo_all mo_past mo_aside mo_states mo_refused mo_causeKind mo_causeOrder u mo_linkVotes mo_linkE mo_linkF mo_follower mo_ahead mo_least mo_seam mo_above mo_below mo_text mo_textLong mo_place mo_value mo_numbers mo_not) 27 [] []) → V G p l e rmMo_laysCorners s m args below meth c 2 A Q 0 0 (gMo G qMo mo_all mo_past mo_aside mo_states mo_refused mo_causeKind mo_causeOrder c2_mo_corner mo_linkVotes mo_linkE mo_linkF mo_follower mo_ahead mo_least mo_seam mo_above mo_below mo_text mo_textLong mo_place mo_value mo_numbers mo_not) 2 [(0, .ref (qMo 0)), (1, .int a2_1)] [] := by
    intro n
    induction n with
    | zero =>
      intro a2_1 c2_mo_corner u hf hk
      rw [fMo_laysCorners_L2] at hf
      cases hf
    | succ n ih =>
      intro a2_1 c2_mo_corner u hf hk
      rw [fMo_laysCorners_L2] at hf
      exact ih a2_1 c2_mo_corner _ hf hk
  obtain ⟨u1, hu1, hf⟩ := bd hf
  refine L2 FU (0 : Int32) mo_corner u1 hu1 ?_
  have h9 := hret 27 [] dX8_laysCorners_27
  rw [← (Option.some.inj hf)] at h9
  exact h9
abbrev rmMo_hasCorner : Room := { frames := 2, cells := 0, slots := 0, locals := 46 }
theorem wd_yX8_hasCorner : wdV yX8_hasCorner cX8_hasCorner 4 (some .boolean) 3 := ⟨wc_yX8_hasCorner, wi_yX8_hasCorner, wse_yX8_hasCorner, wini_X8, by decide +kernel, by decide +kernel, by decide +kernel⟩
set_option maxHeartbeats 4000000 in
set_option maxRecDepth 100000 in
theorem kMo_hasCorner (l : Launch) (G : wG) (qMo : Nat → Nat) (p1 : Int32) (p2 : Int32) (p3 : Int32) (mo_all : Nat → Int32) (mo_past : Nat → Int32) (mo_aside : Nat → Int32) (mo_states : Int32) (mo_refused : Nat → Int32) (mo_causeKind : Int32) (mo_causeOrder : Int32) (mo_corner : Nat → Int32) (mo_linkVotes : Nat → Int32) (mo_linkE : Nat → Int32) (mo_linkF : Nat → Int32) (mo_follower : Nat → Int32) (mo_ahead : Nat → Int32) (mo_least : Nat → Int32) (mo_seam : Nat → Int32) (mo_above : Int64) (mo_below : Int64) (mo_text : Nat → Int32) (mo_textLong : Int32) (mo_place : Int32) (mo_value : Int32) (mo_numbers : Nat → Int32) (mo_not : Int32) (o : Int32) (hf : fMo_hasCorner p1 p2 p3 mo_corner = some o) : Ct G l yX8_hasCorner cX8_hasCorner 4 (some .boolean) rmMo_hasCorner [.ref (qMo 0), .int p1, .int p2, .int p3] (gMo G qMo mo_all mo_past mo_aside mo_states mo_refused mo_causeKind mo_causeOrder mo_corner mo_linkVotes mo_linkE mo_linkF mo_follower mo_ahead mo_least mo_seam mo_above mo_below mo_text mo_textLong mo_place mo_value mo_numbers mo_not) (some (.int o)) (gMo G qMo mo_all mo_past mo_aside mo_states mo_refused mo_causeKind mo_causeOrder mo_corner mo_linkVotes mo_linkE mo_linkF mo_follower mo_ahead mo_least mo_seam mo_above mo_below mo_text mo_textLong mo_place mo_value mo_numbers mo_not) := by
  refine Ct.ofZ (by decide +kernel) (Nat.le_of_ble_eq_true rfl) (fun p e s m args below meth c A Q E hret => ?_)
  unfold fMo_hasCorner at hf
  show V G p l e rmMo_hasCorner s m args below meth c 4 A Q 0 0 (gMo G qMo mo_all mo_past mo_aside mo_states mo_refused mo_causeKind mo_causeOrder mo_corner mo_linkVotes mo_linkE mo_linkF mo_follower mo_ahead mo_least mo_seam mo_above mo_below mo_text mo_textLong mo_place mo_value mo_numbers mo_not) 0 [(0, .ref (qMo 0)), (1, .int p1), (2, .int p2), (3, .int p3)] []
  refine V_iload_n E 2 rfl dX8_hasCorner_0 ?_
  refine V_iload_n E 3 rfl dX8_hasCorner_1 ?_
  obtain ⟨u1, hu1, hf⟩ := bd hf
  refine V_fr0 E (Rn_S E (rest := []) mlX8_155 wd_yX8_isInner (kMo_isInner l G p2 p3 u1 hu1) ⟨rfl, rfl, Nat.le_of_ble_eq_true rfl, Nat.le_of_ble_eq_true rfl⟩ rfl rfl (Nat.le_of_ble_eq_true rfl) dX8_hasCorner_2) ?_
  show V G p l e rmMo_hasCorner s m args below meth c 4 A Q 0 0 (gMo G qMo mo_all mo_past mo_aside mo_states mo_refused mo_causeKind mo_causeOrder mo_corner mo_linkVotes mo_linkE mo_linkF mo_follower mo_ahead mo_least mo_seam mo_above mo_below mo_text mo_textLong mo_place mo_value mo_numbers mo_not) 5 [(0, .ref (qMo 0)), (1, .int p1), (2, .int p2), (3, .int p3)] [.int u1]
  refine V_if_eq E (tgt := 35) dX8_hasCorner_5 (by decide) (fun hc2 => ?_) (fun hc2 => ?_)
  · have hf := ip hc2 hf
    refine V_iconst E (v := (0 : Int32)) dX8_hasCorner_35 (by decide) ?_
    have h9 := hret 36 [(0, .ref (qMo 0)), (1, .int p1), (2, .int p2), (3, .int p3)] dX8_hasCorner_36
    rw [← (Option.some.inj hf)] at h9
    exact h9 (z01a (Or.inl rfl))
  · have hf := iq hc2 hf
    refine V_aload_n E 0 rfl dX8_hasCorner_8 ?_
    refine gfX8_26 E 0 rfl rfl dX8_hasCorner_9 ?_
    refine V_iload_n E 1 rfl dX8_hasCorner_12 ?_
    obtain ⟨hi3, hf⟩ := asr_ok hf
    refine V_iald E 5 rfl hi3 dX8_hasCorner_13 ?_
    refine V_bipush E (v := (6 : Int32)) dX8_hasCorner_14 (by decide) ?_
    refine V_iload_n E 2 rfl dX8_hasCorner_16 ?_
    refine V_iconst E (v := (1 : Int32)) dX8_hasCorner_17 (by decide) ?_
    refine V_isub E dX8_hasCorner_18 ?_
    refine V_imul E dX8_hasCorner_19 ?_
    refine V_iload_n E 3 rfl dX8_hasCorner_20 ?_
    refine V_iadd E dX8_hasCorner_21 ?_
    refine V_iconst E (v := (1 : Int32)) dX8_hasCorner_22 (by decide) ?_
    refine V_isub E dX8_hasCorner_23 ?_
    refine V_ishr E dX8_hasCorner_24 ?_
    refine V_iconst E (v := (1 : Int32)) dX8_hasCorner_25 (by decide) ?_
    refine V_iand E dX8_hasCorner_26 ?_
    refine V_iconst E (v := (1 : Int32)) dX8_hasCorner_27 (by decide) ?_
    refine V_icmp_ne E (tgt := 35) dX8_hasCorner_28 (by decide) (fun hc4 => ?_) (fun hc4 => ?_)
    · have hf := iq hc4 hf
      refine V_iconst E (v := (0 : Int32)) dX8_hasCorner_35 (by decide) ?_
      have h9 := hret 36 [(0, .ref (qMo 0)), (1, .int p1), (2, .int p2), (3, .int p3)] dX8_hasCorner_36
      rw [← (Option.some.inj hf)] at h9
      exact h9 (z01a (Or.inl rfl))
    · have hf := ip hc4 hf
      refine V_iconst E (v := (1 : Int32)) dX8_hasCorner_31 (by decide) ?_
      refine V_goto E (tgt := 36) dX8_hasCorner_32 (by decide) ?_
      have h9 := hret 36 [(0, .ref (qMo 0)), (1, .int p1), (2, .int p2), (3, .int p3)] dX8_hasCorner_36
      rw [← (Option.some.inj hf)] at h9
      exact h9 (z01a (Or.inr rfl))
abbrev rmMo_votesNow : Room := { frames := 3, cells := 0, slots := 0, locals := 69 }
theorem wd_yX8_votesNow : wdV yX8_votesNow cX8_votesNow 9 (some .int) 4 := ⟨wc_yX8_votesNow, wi_yX8_votesNow, wse_yX8_votesNow, wini_X8, by decide +kernel, by decide +kernel, by decide +kernel⟩
set_option maxHeartbeats 4000000 in
set_option maxRecDepth 100000 in
theorem kMo_votesNow (l : Launch) (G : wG) (qMo : Nat → Nat) (p1 : Int32) (p2 : Int32) (p3 : Int32) (p4 : Int32) (mo_all : Nat → Int32) (mo_past : Nat → Int32) (mo_aside : Nat → Int32) (mo_states : Int32) (mo_refused : Nat → Int32) (mo_causeKind : Int32) (mo_causeOrder : Int32) (mo_corner : Nat → Int32) (mo_linkVotes : Nat → Int32) (mo_linkE : Nat → Int32) (mo_linkF : Nat → Int32) (mo_follower : Nat → Int32) (mo_ahead : Nat → Int32) (mo_least : Nat → Int32) (mo_seam : Nat → Int32) (mo_above : Int64) (mo_below : Int64) (mo_text : Nat → Int32) (mo_textLong : Int32) (mo_place : Int32) (mo_value : Int32) (mo_numbers : Nat → Int32) (mo_not : Int32) (o : Int32) (hf : fMo_votesNow p1 p2 p3 p4 mo_all mo_corner = some o) : Ct G l yX8_votesNow cX8_votesNow 9 (some .int) rmMo_votesNow [.ref (qMo 0), .int p1, .int p2, .int p3, .int p4] (gMo G qMo mo_all mo_past mo_aside mo_states mo_refused mo_causeKind mo_causeOrder mo_corner mo_linkVotes mo_linkE mo_linkF mo_follower mo_ahead mo_least mo_seam mo_above mo_below mo_text mo_textLong mo_place mo_value mo_numbers mo_not) (some (.int o)) (gMo G qMo mo_all mo_past mo_aside mo_states mo_refused mo_causeKind mo_causeOrder mo_corner mo_linkVotes mo_linkE mo_linkF mo_follower mo_ahead mo_least mo_seam mo_above mo_below mo_text mo_textLong mo_place mo_value mo_numbers mo_not) := by
  refine Ct.ofI (by decide +kernel) (Nat.le_of_ble_eq_true rfl) (fun p e s m args below meth c A Q E hret => ?_)
  unfold fMo_votesNow at hf
  show V G p l e rmMo_votesNow s m args below meth c 9 A Q 0 0 (gMo G qMo mo_all mo_past mo_aside mo_states mo_refused mo_causeKind mo_causeOrder mo_corner mo_linkVotes mo_linkE mo_linkF mo_follower mo_ahead mo_least mo_seam mo_above mo_below mo_text mo_textLong mo_place mo_value mo_numbers mo_not) 0 [(0, .ref (qMo 0)), (1, .int p1), (2, .int p2), (3, .int p3), (4, .int p4)] []
  refine V_iconst E (v := (0 : Int32)) dX8_votesNow_0 (by decide) ?_
  refine V_istore E (lv' := [(0, .ref (qMo 0)), (1, .int p1), (2, .int p2), (3, .int p3), (4, .int p4), (5, .int (0 : Int32))]) dX8_votesNow_1 (by decide) rfl ?_
  refine V_iconst E (v := (1 : Int32)) dX8_votesNow_3 (by decide) ?_
  refine V_istore E (lv' := [(0, .ref (qMo 0)), (1, .int p1), (2, .int p2), (3, .int p3), (4, .int p4), (5, .int (0 : Int32)), (6, .int (1 : Int32))]) dX8_votesNow_4 (by decide) rfl ?_
  have L6 : ∀ (n : Nat) (a6_5 : Int32) (a6_6 : Int32) (u : Int32), fMo_votesNow_L6 p1 p2 p3 p4 mo_all mo_corner n a6_5 a6_6 = some u → (V G p l e rmMo_votesNow s m args below meth c 9 A Q 0 0 (gMo G qMo mo_all mo_past mo_aside mo_states mo_refused mo_causeKind mo_causeOrder mo_corner mo_linkVotes mo_linkE mo_linkF mo_follower mo_ahead mo_least mo_seam mo_above mo_below mo_text mo_textLong mo_place mo_value mo_numbers mo_not) 121 [(5, .int u)] []) → V G p l e rmMo_votesNow s m args below meth c 9 A Q 0 0 (gMo G qMo mo_all mo_past mo_aside mo_states mo_refused mo_causeKind mo_causeOrder mo_corner mo_linkVotes mo_linkE mo_linkF mo_follower mo_ahead mo_least mo_seam mo_above mo_below mo_text mo_textLong mo_place mo_value mo_numbers mo_not) 6 [(0, .ref (qMo 0)), (1, .int p1), (2, .int p2), (3, .int p3), (4, .int p4), (5, .int a6_5), (6, .int a6_6)] [] := by
    intro n
    induction n with
    | zero =>
      intro a6_5 a6_6 u hf hk
      rw [fMo_votesNow_L6] at hf
      cases hf
    | succ n ih =>
      intro a6_5 a6_6 u hf hk
      rw [fMo_votesNow_L6] at hf
      exact ih a6_5 a6_6 _ hf hk
  obtain ⟨u1, hu1, hf⟩ := bd hf
  refine L6 FU (0 : Int32) (1 : Int32) u1 hu1 ?_
  refine V_iload E 0 rfl dX8_votesNow_121 ?_
  have h9 := hret 123 [(5, .int u1)] dX8_votesNow_123
  rw [← (Option.some.inj hf)] at h9
  exact h9
abbrev rmMo_areTwo : Room := { frames := 2, cells := 0, slots := 0, locals := 46 }
theorem wd_yX8_areTwo : wdV yX8_areTwo cX8_areTwo 3 (some .boolean) 2 := ⟨wc_yX8_areTwo, wi_yX8_areTwo, wse_yX8_areTwo, wini_X8, by decide +kernel, by decide +kernel, by decide +kernel⟩
set_option maxHeartbeats 4000000 in
set_option maxRecDepth 100000 in
theorem kMo_areTwo (l : Launch) (G : wG) (qMo : Nat → Nat) (p1 : Int32) (p2 : Int32) (mo_all : Nat → Int32) (mo_past : Nat → Int32) (mo_aside : Nat → Int32) (mo_states : Int32) (mo_refused : Nat → Int32) (mo_causeKind : Int32) (mo_causeOrder : Int32) (mo_corner : Nat → Int32) (mo_linkVotes : Nat → Int32) (mo_linkE : Nat → Int32) (mo_linkF : Nat → Int32) (mo_follower : Nat → Int32) (mo_ahead : Nat → Int32) (mo_least : Nat → Int32) (mo_seam : Nat → Int32) (mo_above : Int64) (mo_below : Int64) (mo_text : Nat → Int32) (mo_textLong : Int32) (mo_place : Int32) (mo_value : Int32) (mo_numbers : Nat → Int32) (mo_not : Int32) (o : Int32) (hf : fMo_areTwo p1 p2 mo_all = some o) : Ct G l yX8_areTwo cX8_areTwo 3 (some .boolean) rmMo_areTwo [.ref (qMo 0), .int p1, .int p2] (gMo G qMo mo_all mo_past mo_aside mo_states mo_refused mo_causeKind mo_causeOrder mo_corner mo_linkVotes mo_linkE mo_linkF mo_follower mo_ahead mo_least mo_seam mo_above mo_below mo_text mo_textLong mo_place mo_value mo_numbers mo_not) (some (.int o)) (gMo G qMo mo_all mo_past mo_aside mo_states mo_refused mo_causeKind mo_causeOrder mo_corner mo_linkVotes mo_linkE mo_linkF mo_follower mo_ahead mo_least mo_seam mo_above mo_below mo_text mo_textLong mo_place mo_value mo_numbers mo_not) := by
  refine Ct.ofZ (by decide +kernel) (Nat.le_of_ble_eq_true rfl) (fun p e s m args below meth c A Q E hret => ?_)
  unfold fMo_areTwo at hf
  show V G p l e rmMo_areTwo s m args below meth c 3 A Q 0 0 (gMo G qMo mo_all mo_past mo_aside mo_states mo_refused mo_causeKind mo_causeOrder mo_corner mo_linkVotes mo_linkE mo_linkF mo_follower mo_ahead mo_least mo_seam mo_above mo_below mo_text mo_textLong mo_place mo_value mo_numbers mo_not) 0 [(0, .ref (qMo 0)), (1, .int p1), (2, .int p2)] []
  refine V_aload_n E 0 rfl dX8_areTwo_0 ?_
  refine V_iload_n E 1 rfl dX8_areTwo_1 ?_
  obtain ⟨u1, hu1, hf⟩ := bd hf
  refine V_frW E (Rn_V E (rest := []) mlX8_128 wd_yX8_isPicture (kMo_isPicture l G qMo p1 mo_all mo_past mo_aside mo_states mo_refused mo_causeKind mo_causeOrder mo_corner mo_linkVotes mo_linkE mo_linkF mo_follower mo_ahead mo_least mo_seam mo_above mo_below mo_text mo_textLong mo_place mo_value mo_numbers mo_not u1 hu1) ⟨rfl, rfl, Nat.le_of_ble_eq_true rfl, Nat.le_of_ble_eq_true rfl⟩ 0 rfl rfl rfl rfl rfl (Nat.le_of_ble_eq_true rfl) dX8_areTwo_2) ?_
  show V G p l e rmMo_areTwo s m args below meth c 3 A Q 0 0 (gMo G qMo mo_all mo_past mo_aside mo_states mo_refused mo_causeKind mo_causeOrder mo_corner mo_linkVotes mo_linkE mo_linkF mo_follower mo_ahead mo_least mo_seam mo_above mo_below mo_text mo_textLong mo_place mo_value mo_numbers mo_not) 5 [(0, .ref (qMo 0)), (1, .int p1), (2, .int p2)] [.int u1]
  refine V_if_eq E (tgt := 25) dX8_areTwo_5 (by decide) (fun hc2 => ?_) (fun hc2 => ?_)
  · have hf := ip hc2 hf
    refine V_iconst E (v := (0 : Int32)) dX8_areTwo_25 (by decide) ?_
    have h9 := hret 26 [(0, .ref (qMo 0)), (1, .int p1), (2, .int p2)] dX8_areTwo_26
    rw [← (Option.some.inj hf)] at h9
    exact h9 (z01a (Or.inl rfl))
  · have hf := iq hc2 hf
    refine V_aload_n E 0 rfl dX8_areTwo_8 ?_
    refine V_iload_n E 2 rfl dX8_areTwo_9 ?_
    obtain ⟨u3, hu3, hf⟩ := bd hf
    refine V_frW E (Rn_V E (rest := []) mlX8_128 wd_yX8_isPicture (kMo_isPicture l G qMo p2 mo_all mo_past mo_aside mo_states mo_refused mo_causeKind mo_causeOrder mo_corner mo_linkVotes mo_linkE mo_linkF mo_follower mo_ahead mo_least mo_seam mo_above mo_below mo_text mo_textLong mo_place mo_value mo_numbers mo_not u3 hu3) ⟨rfl, rfl, Nat.le_of_ble_eq_true rfl, Nat.le_of_ble_eq_true rfl⟩ 0 rfl rfl rfl rfl rfl (Nat.le_of_ble_eq_true rfl) dX8_areTwo_10) ?_
    show V G p l e rmMo_areTwo s m args below meth c 3 A Q 0 0 (gMo G qMo mo_all mo_past mo_aside mo_states mo_refused mo_causeKind mo_causeOrder mo_corner mo_linkVotes mo_linkE mo_linkF mo_follower mo_ahead mo_least mo_seam mo_above mo_below mo_text mo_textLong mo_place mo_value mo_numbers mo_not) 13 [(0, .ref (qMo 0)), (1, .int p1), (2, .int p2)] [.int u3]
    refine V_if_eq E (tgt := 25) dX8_areTwo_13 (by decide) (fun hc4 => ?_) (fun hc4 => ?_)
    · have hf := ip hc4 hf
      refine V_iconst E (v := (0 : Int32)) dX8_areTwo_25 (by decide) ?_
      have h9 := hret 26 [(0, .ref (qMo 0)), (1, .int p1), (2, .int p2)] dX8_areTwo_26
      rw [← (Option.some.inj hf)] at h9
      exact h9 (z01a (Or.inl rfl))
    · have hf := iq hc4 hf
      refine V_iload_n E 1 rfl dX8_areTwo_16 ?_
      refine V_iload_n E 2 rfl dX8_areTwo_17 ?_
      refine V_icmp_eq E (tgt := 25) dX8_areTwo_18 (by decide) (fun hc5 => ?_) (fun hc5 => ?_)
      · have hf := ip hc5 hf
        refine V_iconst E (v := (0 : Int32)) dX8_areTwo_25 (by decide) ?_
        have h9 := hret 26 [(0, .ref (qMo 0)), (1, .int p1), (2, .int p2)] dX8_areTwo_26
        rw [← (Option.some.inj hf)] at h9
        exact h9 (z01a (Or.inl rfl))
      · have hf := iq hc5 hf
        refine V_iconst E (v := (1 : Int32)) dX8_areTwo_21 (by decide) ?_
        refine V_goto E (tgt := 26) dX8_areTwo_22 (by decide) ?_
        have h9 := hret 26 [(0, .ref (qMo 0)), (1, .int p1), (2, .int p2)] dX8_areTwo_26
        rw [← (Option.some.inj hf)] at h9
        exact h9 (z01a (Or.inr rfl))
abbrev rmMo_votes : Room := { frames := 6, cells := 0, slots := 0, locals := 141 }
theorem wd_yX8_votes : wdV yX8_votes cX8_votes 5 (some .int) 4 := ⟨wc_yX8_votes, wi_yX8_votes, wse_yX8_votes, wini_X8, by decide +kernel, by decide +kernel, by decide +kernel⟩
set_option maxHeartbeats 4000000 in
set_option maxRecDepth 100000 in
theorem kMo_votes (l : Launch) (G : wG) (qMo : Nat → Nat) (p1 : Int32) (p2 : Int32) (p3 : Int32) (p4 : Int32) (mo_all : Nat → Int32) (mo_past : Nat → Int32) (mo_aside : Nat → Int32) (mo_states : Int32) (mo_refused : Nat → Int32) (mo_causeKind : Int32) (mo_causeOrder : Int32) (mo_corner : Nat → Int32) (mo_linkVotes : Nat → Int32) (mo_linkE : Nat → Int32) (mo_linkF : Nat → Int32) (mo_follower : Nat → Int32) (mo_ahead : Nat → Int32) (mo_least : Nat → Int32) (mo_seam : Nat → Int32) (mo_above : Int64) (mo_below : Int64) (mo_text : Nat → Int32) (mo_textLong : Int32) (mo_place : Int32) (mo_value : Int32) (mo_numbers : Nat → Int32) (mo_not : Int32) (o : Int32 × (Nat → Int32) × (Nat → Int32)) (hf : fMo_votes p1 p2 p3 p4 mo_all mo_refused mo_corner = some o) : Ct G l yX8_votes cX8_votes 5 (some .int) rmMo_votes [.ref (qMo 0), .int p1, .int p2, .int p3, .int p4] (gMo G qMo mo_all mo_past mo_aside mo_states mo_refused mo_causeKind mo_causeOrder mo_corner mo_linkVotes mo_linkE mo_linkF mo_follower mo_ahead mo_least mo_seam mo_above mo_below mo_text mo_textLong mo_place mo_value mo_numbers mo_not) (some (.int o.1)) (gMo G qMo mo_all mo_past mo_aside mo_states o.2.1 mo_causeKind mo_causeOrder o.2.2 mo_linkVotes mo_linkE mo_linkF mo_follower mo_ahead mo_least mo_seam mo_above mo_below mo_text mo_textLong mo_place mo_value mo_numbers mo_not) := by
  refine Ct.ofI (by decide +kernel) (Nat.le_of_ble_eq_true rfl) (fun p e s m args below meth c A Q E hret => ?_)
  unfold fMo_votes at hf
  show V G p l e rmMo_votes s m args below meth c 5 A Q 0 0 (gMo G qMo mo_all mo_past mo_aside mo_states mo_refused mo_causeKind mo_causeOrder mo_corner mo_linkVotes mo_linkE mo_linkF mo_follower mo_ahead mo_least mo_seam mo_above mo_below mo_text mo_textLong mo_place mo_value mo_numbers mo_not) 0 [(0, .ref (qMo 0)), (1, .int p1), (2, .int p2), (3, .int p3), (4, .int p4)] []
  refine V_aload_n E 0 rfl dX8_votes_0 ?_
  refine V_iload_n E 1 rfl dX8_votes_1 ?_
  refine V_iload_n E 2 rfl dX8_votes_2 ?_
  obtain ⟨u1, hu1, hf⟩ := bd hf
  refine V_frW E (Rn_V E (rest := []) mlX8_171 wd_yX8_areTwo (kMo_areTwo l G qMo p1 p2 mo_all mo_past mo_aside mo_states mo_refused mo_causeKind mo_causeOrder mo_corner mo_linkVotes mo_linkE mo_linkF mo_follower mo_ahead mo_least mo_seam mo_above mo_below mo_text mo_textLong mo_place mo_value mo_numbers mo_not u1 hu1) ⟨rfl, rfl, Nat.le_of_ble_eq_true rfl, Nat.le_of_ble_eq_true rfl⟩ 0 rfl rfl rfl rfl rfl (Nat.le_of_ble_eq_true rfl) dX8_votes_3) ?_
  show V G p l e rmMo_votes s m args below meth c 5 A Q 0 0 (gMo G qMo mo_all mo_past mo_aside mo_states mo_refused mo_causeKind mo_causeOrder mo_corner mo_linkVotes mo_linkE mo_linkF mo_follower mo_ahead mo_least mo_seam mo_above mo_below mo_text mo_textLong mo_place mo_value mo_numbers mo_not) 6 [(0, .ref (qMo 0)), (1, .int p1), (2, .int p2), (3, .int p3), (4, .int p4)] [.int u1]
  refine V_if_eq E (tgt := 34) dX8_votes_6 (by decide) (fun hc2 => ?_) (fun hc2 => ?_)
  · have hf := ip hc2 hf
    refine V_aload_n E 0 rfl dX8_votes_34 ?_
    refine V_bipush E (v := (-2 : Int32)) dX8_votes_35 (by decide) ?_
    obtain ⟨u3, hu3, hf⟩ := bd hf
    refine V_frW E (Rn_V E (rest := []) mlX8_91 wd_yX8_refuses (kMo_refuses l G qMo (-2 : Int32) mo_all mo_past mo_aside mo_states mo_refused mo_causeKind mo_causeOrder mo_corner mo_linkVotes mo_linkE mo_linkF mo_follower mo_ahead mo_least mo_seam mo_above mo_below mo_text mo_textLong mo_place mo_value mo_numbers mo_not u3 hu3) ⟨rfl, rfl, Nat.le_of_ble_eq_true rfl, Nat.le_of_ble_eq_true rfl⟩ 0 rfl rfl rfl rfl rfl (Nat.le_of_ble_eq_true rfl) dX8_votes_37) ?_
    show V G p l e rmMo_votes s m args below meth c 5 A Q 0 0 (gMo G qMo mo_all mo_past mo_aside mo_states u3.2 mo_causeKind mo_causeOrder mo_corner mo_linkVotes mo_linkE mo_linkF mo_follower mo_ahead mo_least mo_seam mo_above mo_below mo_text mo_textLong mo_place mo_value mo_numbers mo_not) 40 [(0, .ref (qMo 0)), (1, .int p1), (2, .int p2), (3, .int p3), (4, .int p4)] [.int u3.1]
    have h9 := hret 40 [(0, .ref (qMo 0)), (1, .int p1), (2, .int p2), (3, .int p3), (4, .int p4)] dX8_votes_40
    rw [← (Option.some.inj hf)] at h9
    exact h9
  · have hf := iq hc2 hf
    refine V_iload_n E 3 rfl dX8_votes_9 ?_
    refine V_i2l E dX8_votes_10 ?_
    refine V_ldc2 E (v := (-1 : Int64)) dX8_votes_11 kX8_174 ?_
    refine V_lconst E (v := (1 : Int64)) dX8_votes_14 (by decide) ?_
    obtain ⟨u4, hu4, hf⟩ := bd hf
    refine V_fr0 E (Rn_S E (rest := []) mlX8_63 wd_yX8_in (kMo_in l G p3.toInt64 (-1 : Int64) (1 : Int64) u4 hu4) ⟨rfl, rfl, Nat.le_of_ble_eq_true rfl, Nat.le_of_ble_eq_true rfl⟩ rfl rfl (Nat.le_of_ble_eq_true rfl) dX8_votes_15) ?_
    show V G p l e rmMo_votes s m args below meth c 5 A Q 0 0 (gMo G qMo mo_all mo_past mo_aside mo_states mo_refused mo_causeKind mo_causeOrder mo_corner mo_linkVotes mo_linkE mo_linkF mo_follower mo_ahead mo_least mo_seam mo_above mo_below mo_text mo_textLong mo_place mo_value mo_numbers mo_not) 18 [(0, .ref (qMo 0)), (1, .int p1), (2, .int p2), (3, .int p3), (4, .int p4)] [.int u4]
    refine V_if_eq E (tgt := 34) dX8_votes_18 (by decide) (fun hc5 => ?_) (fun hc5 => ?_)
    · have hf := ip hc5 hf
      refine V_aload_n E 0 rfl dX8_votes_34 ?_
      refine V_bipush E (v := (-2 : Int32)) dX8_votes_35 (by decide) ?_
      obtain ⟨u6, hu6, hf⟩ := bd hf
      refine V_frW E (Rn_V E (rest := []) mlX8_91 wd_yX8_refuses (kMo_refuses l G qMo (-2 : Int32) mo_all mo_past mo_aside mo_states mo_refused mo_causeKind mo_causeOrder mo_corner mo_linkVotes mo_linkE mo_linkF mo_follower mo_ahead mo_least mo_seam mo_above mo_below mo_text mo_textLong mo_place mo_value mo_numbers mo_not u6 hu6) ⟨rfl, rfl, Nat.le_of_ble_eq_true rfl, Nat.le_of_ble_eq_true rfl⟩ 0 rfl rfl rfl rfl rfl (Nat.le_of_ble_eq_true rfl) dX8_votes_37) ?_
      show V G p l e rmMo_votes s m args below meth c 5 A Q 0 0 (gMo G qMo mo_all mo_past mo_aside mo_states u6.2 mo_causeKind mo_causeOrder mo_corner mo_linkVotes mo_linkE mo_linkF mo_follower mo_ahead mo_least mo_seam mo_above mo_below mo_text mo_textLong mo_place mo_value mo_numbers mo_not) 40 [(0, .ref (qMo 0)), (1, .int p1), (2, .int p2), (3, .int p3), (4, .int p4)] [.int u6.1]
      have h9 := hret 40 [(0, .ref (qMo 0)), (1, .int p1), (2, .int p2), (3, .int p3), (4, .int p4)] dX8_votes_40
      rw [← (Option.some.inj hf)] at h9
      exact h9
    · have hf := iq hc5 hf
      refine V_iload E 4 rfl dX8_votes_21 ?_
      refine V_i2l E dX8_votes_23 ?_
      refine V_lconst E (v := (1 : Int64)) dX8_votes_24 (by decide) ?_
      refine V_ldc2 E (v := (5 : Int64)) dX8_votes_25 kX8_102 ?_
      obtain ⟨u7, hu7, hf⟩ := bd hf
      refine V_fr0 E (Rn_S E (rest := []) mlX8_63 wd_yX8_in (kMo_in l G p4.toInt64 (1 : Int64) (5 : Int64) u7 hu7) ⟨rfl, rfl, Nat.le_of_ble_eq_true rfl, Nat.le_of_ble_eq_true rfl⟩ rfl rfl (Nat.le_of_ble_eq_true rfl) dX8_votes_28) ?_
      show V G p l e rmMo_votes s m args below meth c 5 A Q 0 0 (gMo G qMo mo_all mo_past mo_aside mo_states mo_refused mo_causeKind mo_causeOrder mo_corner mo_linkVotes mo_linkE mo_linkF mo_follower mo_ahead mo_least mo_seam mo_above mo_below mo_text mo_textLong mo_place mo_value mo_numbers mo_not) 31 [(0, .ref (qMo 0)), (1, .int p1), (2, .int p2), (3, .int p3), (4, .int p4)] [.int u7]
      refine V_if_ne E (tgt := 41) dX8_votes_31 (by decide) (fun hc8 => ?_) (fun hc8 => ?_)
      · have hf := iq hc8 hf
        refine V_aload_n E 0 rfl dX8_votes_41 ?_
        obtain ⟨u9, hu9, hf⟩ := bd hf
        refine V_frW E (Rn_V E (rest := []) mlX8_176 wd_yX8_laysCorners (kMo_laysCorners l G qMo mo_all mo_past mo_aside mo_states mo_refused mo_causeKind mo_causeOrder mo_corner mo_linkVotes mo_linkE mo_linkF mo_follower mo_ahead mo_least mo_seam mo_above mo_below mo_text mo_textLong mo_place mo_value mo_numbers mo_not u9 hu9) ⟨rfl, rfl, Nat.le_of_ble_eq_true rfl, Nat.le_of_ble_eq_true rfl⟩ 0 rfl rfl rfl rfl rfl (Nat.le_of_ble_eq_true rfl) dX8_votes_42) ?_
        show V G p l e rmMo_votes s m args below meth c 5 A Q 0 0 (gMo G qMo mo_all mo_past mo_aside mo_states mo_refused mo_causeKind mo_causeOrder u9 mo_linkVotes mo_linkE mo_linkF mo_follower mo_ahead mo_least mo_seam mo_above mo_below mo_text mo_textLong mo_place mo_value mo_numbers mo_not) 45 [(0, .ref (qMo 0)), (1, .int p1), (2, .int p2), (3, .int p3), (4, .int p4)] []
        refine V_aload_n E 0 rfl dX8_votes_45 ?_
        refine V_iload_n E 1 rfl dX8_votes_46 ?_
        refine V_iload_n E 2 rfl dX8_votes_47 ?_
        refine V_iload_n E 3 rfl dX8_votes_48 ?_
        refine V_iload E 4 rfl dX8_votes_49 ?_
        obtain ⟨u10, hu10, hf⟩ := bd hf
        refine V_frW E (Rn_V E (rest := []) mlX8_179 wd_yX8_votesNow (kMo_votesNow l G qMo p1 p2 p3 p4 mo_all mo_past mo_aside mo_states mo_refused mo_causeKind mo_causeOrder u9 mo_linkVotes mo_linkE mo_linkF mo_follower mo_ahead mo_least mo_seam mo_above mo_below mo_text mo_textLong mo_place mo_value mo_numbers mo_not u10 hu10) ⟨rfl, rfl, Nat.le_of_ble_eq_true rfl, Nat.le_of_ble_eq_true rfl⟩ 0 rfl rfl rfl rfl rfl (Nat.le_of_ble_eq_true rfl) dX8_votes_51) ?_
        show V G p l e rmMo_votes s m args below meth c 5 A Q 0 0 (gMo G qMo mo_all mo_past mo_aside mo_states mo_refused mo_causeKind mo_causeOrder u9 mo_linkVotes mo_linkE mo_linkF mo_follower mo_ahead mo_least mo_seam mo_above mo_below mo_text mo_textLong mo_place mo_value mo_numbers mo_not) 54 [(0, .ref (qMo 0)), (1, .int p1), (2, .int p2), (3, .int p3), (4, .int p4)] [.int u10]
        have h9 := hret 54 [(0, .ref (qMo 0)), (1, .int p1), (2, .int p2), (3, .int p3), (4, .int p4)] dX8_votes_54
        rw [← (Option.some.inj hf)] at h9
        exact h9
      · have hf := ip hc8 hf
        refine V_aload_n E 0 rfl dX8_votes_34 ?_
        refine V_bipush E (v := (-2 : Int32)) dX8_votes_35 (by decide) ?_
        obtain ⟨u11, hu11, hf⟩ := bd hf
        refine V_frW E (Rn_V E (rest := []) mlX8_91 wd_yX8_refuses (kMo_refuses l G qMo (-2 : Int32) mo_all mo_past mo_aside mo_states mo_refused mo_causeKind mo_causeOrder mo_corner mo_linkVotes mo_linkE mo_linkF mo_follower mo_ahead mo_least mo_seam mo_above mo_below mo_text mo_textLong mo_place mo_value mo_numbers mo_not u11 hu11) ⟨rfl, rfl, Nat.le_of_ble_eq_true rfl, Nat.le_of_ble_eq_true rfl⟩ 0 rfl rfl rfl rfl rfl (Nat.le_of_ble_eq_true rfl) dX8_votes_37) ?_
        show V G p l e rmMo_votes s m args below meth c 5 A Q 0 0 (gMo G qMo mo_all mo_past mo_aside mo_states u11.2 mo_causeKind mo_causeOrder mo_corner mo_linkVotes mo_linkE mo_linkF mo_follower mo_ahead mo_least mo_seam mo_above mo_below mo_text mo_textLong mo_place mo_value mo_numbers mo_not) 40 [(0, .ref (qMo 0)), (1, .int p1), (2, .int p2), (3, .int p3), (4, .int p4)] [.int u11.1]
        have h9 := hret 40 [(0, .ref (qMo 0)), (1, .int p1), (2, .int p2), (3, .int p3), (4, .int p4)] dX8_votes_40
        rw [← (Option.some.inj hf)] at h9
        exact h9
abbrev rmMo_laysLink : Room := { frames := 4, cells := 0, slots := 0, locals := 97 }
theorem wd_yX8_laysLink : wdV yX8_laysLink cX8_laysLink 8 none 2 := ⟨wc_yX8_laysLink, wi_yX8_laysLink, wse_yX8_laysLink, wini_X8, by decide +kernel, by decide +kernel, by decide +kernel⟩
set_option maxHeartbeats 4000000 in
set_option maxRecDepth 100000 in
theorem kMo_laysLink (l : Launch) (G : wG) (qMo : Nat → Nat) (p1 : Int32) (p2 : Int32) (mo_all : Nat → Int32) (mo_past : Nat → Int32) (mo_aside : Nat → Int32) (mo_states : Int32) (mo_refused : Nat → Int32) (mo_causeKind : Int32) (mo_causeOrder : Int32) (mo_corner : Nat → Int32) (mo_linkVotes : Nat → Int32) (mo_linkE : Nat → Int32) (mo_linkF : Nat → Int32) (mo_follower : Nat → Int32) (mo_ahead : Nat → Int32) (mo_least : Nat → Int32) (mo_seam : Nat → Int32) (mo_above : Int64) (mo_below : Int64) (mo_text : Nat → Int32) (mo_textLong : Int32) (mo_place : Int32) (mo_value : Int32) (mo_numbers : Nat → Int32) (mo_not : Int32) (o : (Nat → Int32) × (Nat → Int32) × (Nat → Int32)) (hf : fMo_laysLink p1 p2 mo_all mo_corner mo_linkVotes mo_linkE mo_linkF = some o) : Ct G l yX8_laysLink cX8_laysLink 8 none rmMo_laysLink [.ref (qMo 0), .int p1, .int p2] (gMo G qMo mo_all mo_past mo_aside mo_states mo_refused mo_causeKind mo_causeOrder mo_corner mo_linkVotes mo_linkE mo_linkF mo_follower mo_ahead mo_least mo_seam mo_above mo_below mo_text mo_textLong mo_place mo_value mo_numbers mo_not) none (gMo G qMo mo_all mo_past mo_aside mo_states mo_refused mo_causeKind mo_causeOrder mo_corner o.1 o.2.1 o.2.2 mo_follower mo_ahead mo_least mo_seam mo_above mo_below mo_text mo_textLong mo_place mo_value mo_numbers mo_not) := by
  refine Ct.ofV (by decide +kernel) (Nat.le_of_ble_eq_true rfl) (fun p e s m args below meth c A Q E hret => ?_)
  unfold fMo_laysLink at hf
  show V G p l e rmMo_laysLink s m args below meth c 8 A Q 0 0 (gMo G qMo mo_all mo_past mo_aside mo_states mo_refused mo_causeKind mo_causeOrder mo_corner mo_linkVotes mo_linkE mo_linkF mo_follower mo_ahead mo_least mo_seam mo_above mo_below mo_text mo_textLong mo_place mo_value mo_numbers mo_not) 0 [(0, .ref (qMo 0)), (1, .int p1), (2, .int p2)] []
  refine V_bipush E (v := (6 : Int32)) dX8_laysLink_0 (by decide) ?_
  refine V_iload_n E 1 rfl dX8_laysLink_2 ?_
  refine V_imul E dX8_laysLink_3 ?_
  refine V_iload_n E 2 rfl dX8_laysLink_4 ?_
  refine V_iadd E dX8_laysLink_5 ?_
  refine V_istore_n E (lv' := [(0, .ref (qMo 0)), (1, .int p1), (2, .int p2), (3, .int (((6 : Int32) * p1) + p2))]) dX8_laysLink_6 (by decide) rfl ?_
  refine V_aload_n E 0 rfl dX8_laysLink_7 ?_
  refine gfX8_29 E 0 rfl rfl dX8_laysLink_8 ?_
  refine V_iload_n E 3 rfl dX8_laysLink_11 ?_
  refine V_iconst E (v := (0 : Int32)) dX8_laysLink_12 (by decide) ?_
  obtain ⟨hi1, hf⟩ := asr_ok hf
  refine V_iast E (ws' := (gMo G qMo mo_all mo_past mo_aside mo_states mo_refused mo_causeKind mo_causeOrder mo_corner (upd mo_linkVotes (((6 : Int32) * p1) + p2).toNatClampNeg (0 : Int32)) mo_linkE mo_linkF mo_follower mo_ahead mo_least mo_seam mo_above mo_below mo_text mo_textLong mo_place mo_value mo_numbers mo_not)) 6 rfl hi1 dX8_laysLink_13 rfl ?_
  refine V_aload_n E 0 rfl dX8_laysLink_14 ?_
  refine gfX8_32 E 0 rfl rfl dX8_laysLink_15 ?_
  refine V_iload_n E 3 rfl dX8_laysLink_18 ?_
  refine V_iconst E (v := (0 : Int32)) dX8_laysLink_19 (by decide) ?_
  obtain ⟨hi2, hf⟩ := asr_ok hf
  refine V_iast E (ws' := (gMo G qMo mo_all mo_past mo_aside mo_states mo_refused mo_causeKind mo_causeOrder mo_corner (upd mo_linkVotes (((6 : Int32) * p1) + p2).toNatClampNeg (0 : Int32)) (upd mo_linkE (((6 : Int32) * p1) + p2).toNatClampNeg (0 : Int32)) mo_linkF mo_follower mo_ahead mo_least mo_seam mo_above mo_below mo_text mo_textLong mo_place mo_value mo_numbers mo_not)) 7 rfl hi2 dX8_laysLink_20 rfl ?_
  refine V_aload_n E 0 rfl dX8_laysLink_21 ?_
  refine gfX8_35 E 0 rfl rfl dX8_laysLink_22 ?_
  refine V_iload_n E 3 rfl dX8_laysLink_25 ?_
  refine V_iconst E (v := (0 : Int32)) dX8_laysLink_26 (by decide) ?_
  obtain ⟨hi3, hf⟩ := asr_ok hf
  refine V_iast E (ws' := (gMo G qMo mo_all mo_past mo_aside mo_states mo_refused mo_causeKind mo_causeOrder mo_corner (upd mo_linkVotes (((6 : Int32) * p1) + p2).toNatClampNeg (0 : Int32)) (upd mo_linkE (((6 : Int32) * p1) + p2).toNatClampNeg (0 : Int32)) (upd mo_linkF (((6 : Int32) * p1) + p2).toNatClampNeg (0 : Int32)) mo_follower mo_ahead mo_least mo_seam mo_above mo_below mo_text mo_textLong mo_place mo_value mo_numbers mo_not)) 8 rfl hi3 dX8_laysLink_27 rfl ?_
  refine V_iconst E (v := (0 : Int32)) dX8_laysLink_28 (by decide) ?_
  refine V_istore E (lv' := [(0, .ref (qMo 0)), (1, .int p1), (2, .int p2), (3, .int (((6 : Int32) * p1) + p2)), (4, .int (0 : Int32))]) dX8_laysLink_29 (by decide) rfl ?_
  have L31 : ∀ (n : Nat) (a31_4 : Int32) (c31_mo_linkVotes : Nat → Int32) (c31_mo_linkE : Nat → Int32) (c31_mo_linkF : Nat → Int32) (u : (Nat → Int32) × (Nat → Int32) × (Nat → Int32)), fMo_laysLink_L31 p1 p2 (((6 : Int32) * p1) + p2) mo_all mo_corner n a31_4 c31_mo_linkVotes c31_mo_linkE c31_mo_linkF = some u → (V G p l e rmMo_laysLink s m args below meth c 8 A Q 0 0 (gMo G qMo mo_all mo_past mo_aside mo_states mo_refused mo_causeKind mo_causeOrder mo_corner u.1 u.2.1 u.2.2 mo_follower mo_ahead mo_least mo_seam mo_above mo_below mo_text mo_textLong mo_place mo_value mo_numbers mo_not) 137 [] []) → V G p l e rmMo_laysLink s m args below meth c 8 A Q 0 0 (gMo G qMo mo_all mo_past mo_aside mo_states mo_refused mo_causeKind mo_causeOrder mo_corner c31_mo_linkVotes c31_mo_linkE c31_mo_linkF mo_follower mo_ahead mo_least mo_seam mo_above mo_below mo_text mo_textLong mo_place mo_value mo_numbers mo_not) 31 [(0, .ref (qMo 0)), (1, .int p1), (2, .int p2), (3, .int (((6 : Int32) * p1) + p2)), (4, .int a31_4)] [] := by
    intro n
    induction n with
    | zero =>
      intro a31_4 c31_mo_linkVotes c31_mo_linkE c31_mo_linkF u hf hk
      rw [fMo_laysLink_L31] at hf
      cases hf
    | succ n ih =>
      intro a31_4 c31_mo_linkVotes c31_mo_linkE c31_mo_linkF u hf hk
      rw [fMo_laysLink_L31] at hf
      exact ih a31_4 c31_mo_linkVotes c31_mo_linkE c31_mo_linkF _ hf hk
  obtain ⟨u4, hu4, hf⟩ := bd hf
  refine L31 FU (0 : Int32) (upd mo_linkVotes (((6 : Int32) * p1) + p2).toNatClampNeg (0 : Int32)) (upd mo_linkE (((6 : Int32) * p1) + p2).toNatClampNeg (0 : Int32)) (upd mo_linkF (((6 : Int32) * p1) + p2).toNatClampNeg (0 : Int32)) u4 hu4 ?_
  have h9 := hret 137 [] dX8_laysLink_137
  rw [← (Option.some.inj hf)] at h9
  exact h9
abbrev rmMo_laysLinks : Room := { frames := 6, cells := 0, slots := 0, locals := 141 }
theorem wd_yX8_laysLinks : wdV yX8_laysLinks cX8_laysLinks 3 none 0 := ⟨wc_yX8_laysLinks, wi_yX8_laysLinks, wse_yX8_laysLinks, wini_X8, by decide +kernel, by decide +kernel, by decide +kernel⟩
set_option maxHeartbeats 4000000 in
set_option maxRecDepth 100000 in
theorem kMo_laysLinks (l : Launch) (G : wG) (qMo : Nat → Nat) (mo_all : Nat → Int32) (mo_past : Nat → Int32) (mo_aside : Nat → Int32) (mo_states : Int32) (mo_refused : Nat → Int32) (mo_causeKind : Int32) (mo_causeOrder : Int32) (mo_corner : Nat → Int32) (mo_linkVotes : Nat → Int32) (mo_linkE : Nat → Int32) (mo_linkF : Nat → Int32) (mo_follower : Nat → Int32) (mo_ahead : Nat → Int32) (mo_least : Nat → Int32) (mo_seam : Nat → Int32) (mo_above : Int64) (mo_below : Int64) (mo_text : Nat → Int32) (mo_textLong : Int32) (mo_place : Int32) (mo_value : Int32) (mo_numbers : Nat → Int32) (mo_not : Int32) (o : (Nat → Int32) × (Nat → Int32) × (Nat → Int32) × (Nat → Int32)) (hf : fMo_laysLinks mo_all mo_corner mo_linkVotes mo_linkE mo_linkF = some o) : Ct G l yX8_laysLinks cX8_laysLinks 3 none rmMo_laysLinks [.ref (qMo 0)] (gMo G qMo mo_all mo_past mo_aside mo_states mo_refused mo_causeKind mo_causeOrder mo_corner mo_linkVotes mo_linkE mo_linkF mo_follower mo_ahead mo_least mo_seam mo_above mo_below mo_text mo_textLong mo_place mo_value mo_numbers mo_not) none (gMo G qMo mo_all mo_past mo_aside mo_states mo_refused mo_causeKind mo_causeOrder o.1 o.2.1 o.2.2.1 o.2.2.2 mo_follower mo_ahead mo_least mo_seam mo_above mo_below mo_text mo_textLong mo_place mo_value mo_numbers mo_not) := by
  refine Ct.ofV (by decide +kernel) (Nat.le_of_ble_eq_true rfl) (fun p e s m args below meth c A Q E hret => ?_)
  unfold fMo_laysLinks at hf
  show V G p l e rmMo_laysLinks s m args below meth c 3 A Q 0 0 (gMo G qMo mo_all mo_past mo_aside mo_states mo_refused mo_causeKind mo_causeOrder mo_corner mo_linkVotes mo_linkE mo_linkF mo_follower mo_ahead mo_least mo_seam mo_above mo_below mo_text mo_textLong mo_place mo_value mo_numbers mo_not) 0 [(0, .ref (qMo 0))] []
  refine V_aload_n E 0 rfl dX8_laysLinks_0 ?_
  obtain ⟨u1, hu1, hf⟩ := bd hf
  refine V_frW E (Rn_V E (rest := []) mlX8_176 wd_yX8_laysCorners (kMo_laysCorners l G qMo mo_all mo_past mo_aside mo_states mo_refused mo_causeKind mo_causeOrder mo_corner mo_linkVotes mo_linkE mo_linkF mo_follower mo_ahead mo_least mo_seam mo_above mo_below mo_text mo_textLong mo_place mo_value mo_numbers mo_not u1 hu1) ⟨rfl, rfl, Nat.le_of_ble_eq_true rfl, Nat.le_of_ble_eq_true rfl⟩ 0 rfl rfl rfl rfl rfl (Nat.le_of_ble_eq_true rfl) dX8_laysLinks_1) ?_
  show V G p l e rmMo_laysLinks s m args below meth c 3 A Q 0 0 (gMo G qMo mo_all mo_past mo_aside mo_states mo_refused mo_causeKind mo_causeOrder u1 mo_linkVotes mo_linkE mo_linkF mo_follower mo_ahead mo_least mo_seam mo_above mo_below mo_text mo_textLong mo_place mo_value mo_numbers mo_not) 4 [(0, .ref (qMo 0))] []
  refine V_iconst E (v := (0 : Int32)) dX8_laysLinks_4 (by decide) ?_
  refine V_istore_n E (lv' := [(0, .ref (qMo 0)), (1, .int (0 : Int32))]) dX8_laysLinks_5 (by decide) rfl ?_
  have L6 : ∀ (n : Nat) (a6_1 : Int32) (c6_mo_linkVotes : Nat → Int32) (c6_mo_linkE : Nat → Int32) (c6_mo_linkF : Nat → Int32) (u : (Nat → Int32) × (Nat → Int32) × (Nat → Int32)), fMo_laysLinks_L6 mo_all u1 n a6_1 c6_mo_linkVotes c6_mo_linkE c6_mo_linkF = some u → (V G p l e rmMo_laysLinks s m args below meth c 3 A Q 0 0 (gMo G qMo mo_all mo_past mo_aside mo_states mo_refused mo_causeKind mo_causeOrder u1 u.1 u.2.1 u.2.2 mo_follower mo_ahead mo_least mo_seam mo_above mo_below mo_text mo_textLong mo_place mo_value mo_numbers mo_not) 47 [] []) → V G p l e rmMo_laysLinks s m args below meth c 3 A Q 0 0 (gMo G qMo mo_all mo_past mo_aside mo_states mo_refused mo_causeKind mo_causeOrder u1 c6_mo_linkVotes c6_mo_linkE c6_mo_linkF mo_follower mo_ahead mo_least mo_seam mo_above mo_below mo_text mo_textLong mo_place mo_value mo_numbers mo_not) 6 [(0, .ref (qMo 0)), (1, .int a6_1)] [] := by
    intro n
    induction n with
    | zero =>
      intro a6_1 c6_mo_linkVotes c6_mo_linkE c6_mo_linkF u hf hk
      rw [fMo_laysLinks_L6] at hf
      cases hf
    | succ n ih =>
      intro a6_1 c6_mo_linkVotes c6_mo_linkE c6_mo_linkF u hf hk
      rw [fMo_laysLinks_L6] at hf
      exact ih a6_1 c6_mo_linkVotes c6_mo_linkE c6_mo_linkF _ hf hk
  obtain ⟨u2, hu2, hf⟩ := bd hf
  refine L6 FU (0 : Int32) mo_linkVotes mo_linkE mo_linkF u2 hu2 ?_
  have h9 := hret 47 [] dX8_laysLinks_47
  rw [← (Option.some.inj hf)] at h9
  exact h9
abbrev rmMo_link : Room := { frames := 6, cells := 0, slots := 0, locals := 141 }
theorem wd_yX8_link : wdV yX8_link cX8_link 5 (some .int) 3 := ⟨wc_yX8_link, wi_yX8_link, wse_yX8_link, wini_X8, by decide +kernel, by decide +kernel, by decide +kernel⟩
set_option maxHeartbeats 4000000 in
set_option maxRecDepth 100000 in
theorem kMo_link (l : Launch) (G : wG) (qMo : Nat → Nat) (p1 : Int32) (p2 : Int32) (p3 : Int32) (mo_all : Nat → Int32) (mo_past : Nat → Int32) (mo_aside : Nat → Int32) (mo_states : Int32) (mo_refused : Nat → Int32) (mo_causeKind : Int32) (mo_causeOrder : Int32) (mo_corner : Nat → Int32) (mo_linkVotes : Nat → Int32) (mo_linkE : Nat → Int32) (mo_linkF : Nat → Int32) (mo_follower : Nat → Int32) (mo_ahead : Nat → Int32) (mo_least : Nat → Int32) (mo_seam : Nat → Int32) (mo_above : Int64) (mo_below : Int64) (mo_text : Nat → Int32) (mo_textLong : Int32) (mo_place : Int32) (mo_value : Int32) (mo_numbers : Nat → Int32) (mo_not : Int32) (o : Int32 × (Nat → Int32) × (Nat → Int32) × (Nat → Int32) × (Nat → Int32) × (Nat → Int32)) (hf : fMo_link p1 p2 p3 mo_all mo_refused mo_corner mo_linkVotes mo_linkE mo_linkF = some o) : Ct G l yX8_link cX8_link 5 (some .int) rmMo_link [.ref (qMo 0), .int p1, .int p2, .int p3] (gMo G qMo mo_all mo_past mo_aside mo_states mo_refused mo_causeKind mo_causeOrder mo_corner mo_linkVotes mo_linkE mo_linkF mo_follower mo_ahead mo_least mo_seam mo_above mo_below mo_text mo_textLong mo_place mo_value mo_numbers mo_not) (some (.int o.1)) (gMo G qMo mo_all mo_past mo_aside mo_states o.2.1 mo_causeKind mo_causeOrder o.2.2.1 o.2.2.2.1 o.2.2.2.2.1 o.2.2.2.2.2 mo_follower mo_ahead mo_least mo_seam mo_above mo_below mo_text mo_textLong mo_place mo_value mo_numbers mo_not) := by
  refine Ct.ofI (by decide +kernel) (Nat.le_of_ble_eq_true rfl) (fun p e s m args below meth c A Q E hret => ?_)
  unfold fMo_link at hf
  show V G p l e rmMo_link s m args below meth c 5 A Q 0 0 (gMo G qMo mo_all mo_past mo_aside mo_states mo_refused mo_causeKind mo_causeOrder mo_corner mo_linkVotes mo_linkE mo_linkF mo_follower mo_ahead mo_least mo_seam mo_above mo_below mo_text mo_textLong mo_place mo_value mo_numbers mo_not) 0 [(0, .ref (qMo 0)), (1, .int p1), (2, .int p2), (3, .int p3)] []
  refine V_aload_n E 0 rfl dX8_link_0 ?_
  refine V_iload_n E 1 rfl dX8_link_1 ?_
  refine V_iload_n E 2 rfl dX8_link_2 ?_
  obtain ⟨u1, hu1, hf⟩ := bd hf
  refine V_frW E (Rn_V E (rest := []) mlX8_171 wd_yX8_areTwo (kMo_areTwo l G qMo p1 p2 mo_all mo_past mo_aside mo_states mo_refused mo_causeKind mo_causeOrder mo_corner mo_linkVotes mo_linkE mo_linkF mo_follower mo_ahead mo_least mo_seam mo_above mo_below mo_text mo_textLong mo_place mo_value mo_numbers mo_not u1 hu1) ⟨rfl, rfl, Nat.le_of_ble_eq_true rfl, Nat.le_of_ble_eq_true rfl⟩ 0 rfl rfl rfl rfl rfl (Nat.le_of_ble_eq_true rfl) dX8_link_3) ?_
  show V G p l e rmMo_link s m args below meth c 5 A Q 0 0 (gMo G qMo mo_all mo_past mo_aside mo_states mo_refused mo_causeKind mo_causeOrder mo_corner mo_linkVotes mo_linkE mo_linkF mo_follower mo_ahead mo_least mo_seam mo_above mo_below mo_text mo_textLong mo_place mo_value mo_numbers mo_not) 6 [(0, .ref (qMo 0)), (1, .int p1), (2, .int p2), (3, .int p3)] [.int u1]
  refine V_if_eq E (tgt := 21) dX8_link_6 (by decide) (fun hc2 => ?_) (fun hc2 => ?_)
  · have hf := ip hc2 hf
    refine V_aload_n E 0 rfl dX8_link_21 ?_
    refine V_bipush E (v := (-2 : Int32)) dX8_link_22 (by decide) ?_
    obtain ⟨u3, hu3, hf⟩ := bd hf
    refine V_frW E (Rn_V E (rest := []) mlX8_91 wd_yX8_refuses (kMo_refuses l G qMo (-2 : Int32) mo_all mo_past mo_aside mo_states mo_refused mo_causeKind mo_causeOrder mo_corner mo_linkVotes mo_linkE mo_linkF mo_follower mo_ahead mo_least mo_seam mo_above mo_below mo_text mo_textLong mo_place mo_value mo_numbers mo_not u3 hu3) ⟨rfl, rfl, Nat.le_of_ble_eq_true rfl, Nat.le_of_ble_eq_true rfl⟩ 0 rfl rfl rfl rfl rfl (Nat.le_of_ble_eq_true rfl) dX8_link_24) ?_
    show V G p l e rmMo_link s m args below meth c 5 A Q 0 0 (gMo G qMo mo_all mo_past mo_aside mo_states u3.2 mo_causeKind mo_causeOrder mo_corner mo_linkVotes mo_linkE mo_linkF mo_follower mo_ahead mo_least mo_seam mo_above mo_below mo_text mo_textLong mo_place mo_value mo_numbers mo_not) 27 [(0, .ref (qMo 0)), (1, .int p1), (2, .int p2), (3, .int p3)] [.int u3.1]
    have h9 := hret 27 [(0, .ref (qMo 0)), (1, .int p1), (2, .int p2), (3, .int p3)] dX8_link_27
    rw [← (Option.some.inj hf)] at h9
    exact h9
  · have hf := iq hc2 hf
    refine V_iload_n E 3 rfl dX8_link_9 ?_
    refine V_i2l E dX8_link_10 ?_
    refine V_lconst E (v := (0 : Int64)) dX8_link_11 (by decide) ?_
    refine V_ldc2 E (v := (2 : Int64)) dX8_link_12 kX8_112 ?_
    obtain ⟨u4, hu4, hf⟩ := bd hf
    refine V_fr0 E (Rn_S E (rest := []) mlX8_63 wd_yX8_in (kMo_in l G p3.toInt64 (0 : Int64) (2 : Int64) u4 hu4) ⟨rfl, rfl, Nat.le_of_ble_eq_true rfl, Nat.le_of_ble_eq_true rfl⟩ rfl rfl (Nat.le_of_ble_eq_true rfl) dX8_link_15) ?_
    show V G p l e rmMo_link s m args below meth c 5 A Q 0 0 (gMo G qMo mo_all mo_past mo_aside mo_states mo_refused mo_causeKind mo_causeOrder mo_corner mo_linkVotes mo_linkE mo_linkF mo_follower mo_ahead mo_least mo_seam mo_above mo_below mo_text mo_textLong mo_place mo_value mo_numbers mo_not) 18 [(0, .ref (qMo 0)), (1, .int p1), (2, .int p2), (3, .int p3)] [.int u4]
    refine V_if_ne E (tgt := 28) dX8_link_18 (by decide) (fun hc5 => ?_) (fun hc5 => ?_)
    · have hf := iq hc5 hf
      refine V_aload_n E 0 rfl dX8_link_28 ?_
      obtain ⟨u6, hu6, hf⟩ := bd hf
      refine V_frW E (Rn_V E (rest := []) mlX8_176 wd_yX8_laysCorners (kMo_laysCorners l G qMo mo_all mo_past mo_aside mo_states mo_refused mo_causeKind mo_causeOrder mo_corner mo_linkVotes mo_linkE mo_linkF mo_follower mo_ahead mo_least mo_seam mo_above mo_below mo_text mo_textLong mo_place mo_value mo_numbers mo_not u6 hu6) ⟨rfl, rfl, Nat.le_of_ble_eq_true rfl, Nat.le_of_ble_eq_true rfl⟩ 0 rfl rfl rfl rfl rfl (Nat.le_of_ble_eq_true rfl) dX8_link_29) ?_
      show V G p l e rmMo_link s m args below meth c 5 A Q 0 0 (gMo G qMo mo_all mo_past mo_aside mo_states mo_refused mo_causeKind mo_causeOrder u6 mo_linkVotes mo_linkE mo_linkF mo_follower mo_ahead mo_least mo_seam mo_above mo_below mo_text mo_textLong mo_place mo_value mo_numbers mo_not) 32 [(0, .ref (qMo 0)), (1, .int p1), (2, .int p2), (3, .int p3)] []
      refine V_aload_n E 0 rfl dX8_link_32 ?_
      refine V_iload_n E 1 rfl dX8_link_33 ?_
      refine V_iload_n E 2 rfl dX8_link_34 ?_
      obtain ⟨u7, hu7, hf⟩ := bd hf
      refine V_frW E (Rn_V E (rest := []) mlX8_183 wd_yX8_laysLink (kMo_laysLink l G qMo p1 p2 mo_all mo_past mo_aside mo_states mo_refused mo_causeKind mo_causeOrder u6 mo_linkVotes mo_linkE mo_linkF mo_follower mo_ahead mo_least mo_seam mo_above mo_below mo_text mo_textLong mo_place mo_value mo_numbers mo_not u7 hu7) ⟨rfl, rfl, Nat.le_of_ble_eq_true rfl, Nat.le_of_ble_eq_true rfl⟩ 0 rfl rfl rfl rfl rfl (Nat.le_of_ble_eq_true rfl) dX8_link_35) ?_
      show V G p l e rmMo_link s m args below meth c 5 A Q 0 0 (gMo G qMo mo_all mo_past mo_aside mo_states mo_refused mo_causeKind mo_causeOrder u6 u7.1 u7.2.1 u7.2.2 mo_follower mo_ahead mo_least mo_seam mo_above mo_below mo_text mo_textLong mo_place mo_value mo_numbers mo_not) 38 [(0, .ref (qMo 0)), (1, .int p1), (2, .int p2), (3, .int p3)] []
      refine V_bipush E (v := (6 : Int32)) dX8_link_38 (by decide) ?_
      refine V_iload_n E 1 rfl dX8_link_40 ?_
      refine V_imul E dX8_link_41 ?_
      refine V_iload_n E 2 rfl dX8_link_42 ?_
      refine V_iadd E dX8_link_43 ?_
      refine V_istore E (lv' := [(0, .ref (qMo 0)), (1, .int p1), (2, .int p2), (3, .int p3), (4, .int (((6 : Int32) * p1) + p2))]) dX8_link_44 (by decide) rfl ?_
      refine V_iload_n E 3 rfl dX8_link_46 ?_
      refine V_if_ne E (tgt := 60) dX8_link_47 (by decide) (fun hc8 => ?_) (fun hc8 => ?_)
      · have hf := iq hc8 hf
        refine V_aload_n E 0 rfl dX8_link_60 ?_
        refine gfX8_29 E 0 rfl rfl dX8_link_61 ?_
        refine V_iload E 4 rfl dX8_link_64 ?_
        obtain ⟨hi9, hf⟩ := asr_ok hf
        refine V_iald E 6 rfl hi9 dX8_link_66 ?_
        refine V_if_ne E (tgt := 74) dX8_link_67 (by decide) (fun hc10 => ?_) (fun hc10 => ?_)
        · have hf := iq hc10 hf
          refine V_iload_n E 3 rfl dX8_link_74 ?_
          refine V_iconst E (v := (1 : Int32)) dX8_link_75 (by decide) ?_
          refine V_icmp_ne E (tgt := 91) dX8_link_76 (by decide) (fun hc11 => ?_) (fun hc11 => ?_)
          · have hf := iq hc11 hf
            refine V_aload_n E 0 rfl dX8_link_91 ?_
            refine gfX8_35 E 0 rfl rfl dX8_link_92 ?_
            refine V_iload E 4 rfl dX8_link_95 ?_
            obtain ⟨hi12, hf⟩ := asr_ok hf
            refine V_iald E 8 rfl hi12 dX8_link_97 ?_
            have h9 := hret 98 [(0, .ref (qMo 0)), (1, .int p1), (2, .int p2), (3, .int p3), (4, .int (((6 : Int32) * p1) + p2))] dX8_link_98
            rw [← (Option.some.inj hf)] at h9
            exact h9
          · have hf := ip hc11 hf
            refine V_aload_n E 0 rfl dX8_link_79 ?_
            refine gfX8_32 E 0 rfl rfl dX8_link_80 ?_
            refine V_iload E 4 rfl dX8_link_83 ?_
            obtain ⟨hi13, hf⟩ := asr_ok hf
            refine V_iald E 7 rfl hi13 dX8_link_85 ?_
            refine V_iconst E (v := (1 : Int32)) dX8_link_86 (by decide) ?_
            refine V_iadd E dX8_link_87 ?_
            refine V_goto E (tgt := 98) dX8_link_88 (by decide) ?_
            have h9 := hret 98 [(0, .ref (qMo 0)), (1, .int p1), (2, .int p2), (3, .int p3), (4, .int (((6 : Int32) * p1) + p2))] dX8_link_98
            rw [← (Option.some.inj hf)] at h9
            exact h9
        · have hf := ip hc10 hf
          refine V_iconst E (v := (-1 : Int32)) dX8_link_70 (by decide) ?_
          refine V_goto E (tgt := 98) dX8_link_71 (by decide) ?_
          have h9 := hret 98 [(0, .ref (qMo 0)), (1, .int p1), (2, .int p2), (3, .int p3), (4, .int (((6 : Int32) * p1) + p2))] dX8_link_98
          rw [← (Option.some.inj hf)] at h9
          exact h9
      · have hf := ip hc8 hf
        refine V_aload_n E 0 rfl dX8_link_50 ?_
        refine gfX8_29 E 0 rfl rfl dX8_link_51 ?_
        refine V_iload E 4 rfl dX8_link_54 ?_
        obtain ⟨hi14, hf⟩ := asr_ok hf
        refine V_iald E 6 rfl hi14 dX8_link_56 ?_
        refine V_goto E (tgt := 98) dX8_link_57 (by decide) ?_
        have h9 := hret 98 [(0, .ref (qMo 0)), (1, .int p1), (2, .int p2), (3, .int p3), (4, .int (((6 : Int32) * p1) + p2))] dX8_link_98
        rw [← (Option.some.inj hf)] at h9
        exact h9
    · have hf := ip hc5 hf
      refine V_aload_n E 0 rfl dX8_link_21 ?_
      refine V_bipush E (v := (-2 : Int32)) dX8_link_22 (by decide) ?_
      obtain ⟨u15, hu15, hf⟩ := bd hf
      refine V_frW E (Rn_V E (rest := []) mlX8_91 wd_yX8_refuses (kMo_refuses l G qMo (-2 : Int32) mo_all mo_past mo_aside mo_states mo_refused mo_causeKind mo_causeOrder mo_corner mo_linkVotes mo_linkE mo_linkF mo_follower mo_ahead mo_least mo_seam mo_above mo_below mo_text mo_textLong mo_place mo_value mo_numbers mo_not u15 hu15) ⟨rfl, rfl, Nat.le_of_ble_eq_true rfl, Nat.le_of_ble_eq_true rfl⟩ 0 rfl rfl rfl rfl rfl (Nat.le_of_ble_eq_true rfl) dX8_link_24) ?_
      show V G p l e rmMo_link s m args below meth c 5 A Q 0 0 (gMo G qMo mo_all mo_past mo_aside mo_states u15.2 mo_causeKind mo_causeOrder mo_corner mo_linkVotes mo_linkE mo_linkF mo_follower mo_ahead mo_least mo_seam mo_above mo_below mo_text mo_textLong mo_place mo_value mo_numbers mo_not) 27 [(0, .ref (qMo 0)), (1, .int p1), (2, .int p2), (3, .int p3)] [.int u15.1]
      have h9 := hret 27 [(0, .ref (qMo 0)), (1, .int p1), (2, .int p2), (3, .int p3)] dX8_link_27
      rw [← (Option.some.inj hf)] at h9
      exact h9
abbrev rmMo_wayFrom : Room := { frames := 0, cells := 0, slots := 0, locals := 0 }
theorem wd_yX8_wayFrom : wdV yX8_wayFrom cX8_wayFrom 5 (some .int) 2 := ⟨wc_yX8_wayFrom, wi_yX8_wayFrom, wse_yX8_wayFrom, wini_X8, by decide +kernel, by decide +kernel, by decide +kernel⟩
set_option maxHeartbeats 4000000 in
set_option maxRecDepth 100000 in
theorem kMo_wayFrom (l : Launch) (G : wG) (qMo : Nat → Nat) (p1 : Int32) (p2 : Int32) (mo_all : Nat → Int32) (mo_past : Nat → Int32) (mo_aside : Nat → Int32) (mo_states : Int32) (mo_refused : Nat → Int32) (mo_causeKind : Int32) (mo_causeOrder : Int32) (mo_corner : Nat → Int32) (mo_linkVotes : Nat → Int32) (mo_linkE : Nat → Int32) (mo_linkF : Nat → Int32) (mo_follower : Nat → Int32) (mo_ahead : Nat → Int32) (mo_least : Nat → Int32) (mo_seam : Nat → Int32) (mo_above : Int64) (mo_below : Int64) (mo_text : Nat → Int32) (mo_textLong : Int32) (mo_place : Int32) (mo_value : Int32) (mo_numbers : Nat → Int32) (mo_not : Int32) (o : Int32) (hf : fMo_wayFrom p1 p2 mo_follower = some o) : Ct G l yX8_wayFrom cX8_wayFrom 5 (some .int) rmMo_wayFrom [.ref (qMo 0), .int p1, .int p2] (gMo G qMo mo_all mo_past mo_aside mo_states mo_refused mo_causeKind mo_causeOrder mo_corner mo_linkVotes mo_linkE mo_linkF mo_follower mo_ahead mo_least mo_seam mo_above mo_below mo_text mo_textLong mo_place mo_value mo_numbers mo_not) (some (.int o)) (gMo G qMo mo_all mo_past mo_aside mo_states mo_refused mo_causeKind mo_causeOrder mo_corner mo_linkVotes mo_linkE mo_linkF mo_follower mo_ahead mo_least mo_seam mo_above mo_below mo_text mo_textLong mo_place mo_value mo_numbers mo_not) := by
  refine Ct.ofI (by decide +kernel) (Nat.le_of_ble_eq_true rfl) (fun p e s m args below meth c A Q E hret => ?_)
  unfold fMo_wayFrom at hf
  show V G p l e rmMo_wayFrom s m args below meth c 5 A Q 0 0 (gMo G qMo mo_all mo_past mo_aside mo_states mo_refused mo_causeKind mo_causeOrder mo_corner mo_linkVotes mo_linkE mo_linkF mo_follower mo_ahead mo_least mo_seam mo_above mo_below mo_text mo_textLong mo_place mo_value mo_numbers mo_not) 0 [(0, .ref (qMo 0)), (1, .int p1), (2, .int p2)] []
  refine V_iconst E (v := (1 : Int32)) dX8_wayFrom_0 (by decide) ?_
  refine V_istore_n E (lv' := [(0, .ref (qMo 0)), (1, .int p1), (2, .int p2), (3, .int (1 : Int32))]) dX8_wayFrom_1 (by decide) rfl ?_
  refine V_iload_n E 1 rfl dX8_wayFrom_2 ?_
  refine V_istore E (lv' := [(0, .ref (qMo 0)), (1, .int p1), (2, .int p2), (3, .int (1 : Int32)), (4, .int p1)]) dX8_wayFrom_3 (by decide) rfl ?_
  have L5 : ∀ (n : Nat) (a5_3 : Int32) (a5_4 : Int32) (u : Int32 × Int32), fMo_wayFrom_L5 p2 mo_follower n a5_3 a5_4 = some u → (V G p l e rmMo_wayFrom s m args below meth c 5 A Q 0 0 (gMo G qMo mo_all mo_past mo_aside mo_states mo_refused mo_causeKind mo_causeOrder mo_corner mo_linkVotes mo_linkE mo_linkF mo_follower mo_ahead mo_least mo_seam mo_above mo_below mo_text mo_textLong mo_place mo_value mo_numbers mo_not) 37 [(2, .int p2), (3, .int u.1), (4, .int u.2)] []) → V G p l e rmMo_wayFrom s m args below meth c 5 A Q 0 0 (gMo G qMo mo_all mo_past mo_aside mo_states mo_refused mo_causeKind mo_causeOrder mo_corner mo_linkVotes mo_linkE mo_linkF mo_follower mo_ahead mo_least mo_seam mo_above mo_below mo_text mo_textLong mo_place mo_value mo_numbers mo_not) 5 [(0, .ref (qMo 0)), (2, .int p2), (3, .int a5_3), (4, .int a5_4)] [] := by
    intro n
    induction n with
    | zero =>
      intro a5_3 a5_4 u hf hk
      rw [fMo_wayFrom_L5] at hf
      cases hf
    | succ n ih =>
      intro a5_3 a5_4 u hf hk
      rw [fMo_wayFrom_L5] at hf
      exact ih a5_3 a5_4 _ hf hk
  refine V_sub [0, 2, 3, 4] rfl ?_
  obtain ⟨u1, hu1, hf⟩ := bd hf
  refine L5 FU (1 : Int32) p1 u1 hu1 ?_
  refine V_iload E 2 rfl dX8_wayFrom_37 ?_
  refine V_iload_n E 0 rfl dX8_wayFrom_39 ?_
  refine V_icmp_ne E (tgt := 47) dX8_wayFrom_40 (by decide) (fun hc2 => ?_) (fun hc2 => ?_)
  · have hf := iq hc2 hf
    refine V_iconst E (v := (0 : Int32)) dX8_wayFrom_47 (by decide) ?_
    have h9 := hret 48 [(2, .int p2), (3, .int u1.1), (4, .int u1.2)] dX8_wayFrom_48
    rw [← (Option.some.inj hf)] at h9
    exact h9
  · have hf := ip hc2 hf
    refine V_iload_n E 1 rfl dX8_wayFrom_43 ?_
    refine V_goto E (tgt := 48) dX8_wayFrom_44 (by decide) ?_
    have h9 := hret 48 [(2, .int p2), (3, .int u1.1), (4, .int u1.2)] dX8_wayFrom_48
    rw [← (Option.some.inj hf)] at h9
    exact h9
abbrev rmMo_mayTake : Room := { frames := 1, cells := 0, slots := 0, locals := 24 }
theorem wd_yX8_mayTake : wdV yX8_mayTake cX8_mayTake 4 (some .boolean) 2 := ⟨wc_yX8_mayTake, wi_yX8_mayTake, wse_yX8_mayTake, wini_X8, by decide +kernel, by decide +kernel, by decide +kernel⟩
set_option maxHeartbeats 4000000 in
set_option maxRecDepth 100000 in
theorem kMo_mayTake (l : Launch) (G : wG) (qMo : Nat → Nat) (p1 : Int32) (p2 : Int32) (mo_all : Nat → Int32) (mo_past : Nat → Int32) (mo_aside : Nat → Int32) (mo_states : Int32) (mo_refused : Nat → Int32) (mo_causeKind : Int32) (mo_causeOrder : Int32) (mo_corner : Nat → Int32) (mo_linkVotes : Nat → Int32) (mo_linkE : Nat → Int32) (mo_linkF : Nat → Int32) (mo_follower : Nat → Int32) (mo_ahead : Nat → Int32) (mo_least : Nat → Int32) (mo_seam : Nat → Int32) (mo_above : Int64) (mo_below : Int64) (mo_text : Nat → Int32) (mo_textLong : Int32) (mo_place : Int32) (mo_value : Int32) (mo_numbers : Nat → Int32) (mo_not : Int32) (o : Int32) (hf : fMo_mayTake p1 p2 mo_all mo_follower mo_ahead = some o) : Ct G l yX8_mayTake cX8_mayTake 4 (some .boolean) rmMo_mayTake [.ref (qMo 0), .int p1, .int p2] (gMo G qMo mo_all mo_past mo_aside mo_states mo_refused mo_causeKind mo_causeOrder mo_corner mo_linkVotes mo_linkE mo_linkF mo_follower mo_ahead mo_least mo_seam mo_above mo_below mo_text mo_textLong mo_place mo_value mo_numbers mo_not) (some (.int o)) (gMo G qMo mo_all mo_past mo_aside mo_states mo_refused mo_causeKind mo_causeOrder mo_corner mo_linkVotes mo_linkE mo_linkF mo_follower mo_ahead mo_least mo_seam mo_above mo_below mo_text mo_textLong mo_place mo_value mo_numbers mo_not) := by
  refine Ct.ofZ (by decide +kernel) (Nat.le_of_ble_eq_true rfl) (fun p e s m args below meth c A Q E hret => ?_)
  unfold fMo_mayTake at hf
  show V G p l e rmMo_mayTake s m args below meth c 4 A Q 0 0 (gMo G qMo mo_all mo_past mo_aside mo_states mo_refused mo_causeKind mo_causeOrder mo_corner mo_linkVotes mo_linkE mo_linkF mo_follower mo_ahead mo_least mo_seam mo_above mo_below mo_text mo_textLong mo_place mo_value mo_numbers mo_not) 0 [(0, .ref (qMo 0)), (1, .int p1), (2, .int p2)] []
  refine V_aload_n E 0 rfl dX8_mayTake_0 ?_
  refine gfX8_38 E 0 rfl rfl dX8_mayTake_1 ?_
  refine V_iload_n E 1 rfl dX8_mayTake_4 ?_
  obtain ⟨hi1, hf⟩ := asr_ok hf
  refine V_iald E 9 rfl hi1 dX8_mayTake_5 ?_
  refine V_iconst E (v := (-1 : Int32)) dX8_mayTake_6 (by decide) ?_
  refine V_icmp_ne E (tgt := 20) dX8_mayTake_7 (by decide) (fun hc2 => ?_) (fun hc2 => ?_)
  · have hf := iq hc2 hf
    refine V_iconst E (v := (0 : Int32)) dX8_mayTake_20 (by decide) ?_
    have h9 := hret 21 [(0, .ref (qMo 0)), (1, .int p1), (2, .int p2)] dX8_mayTake_21
    rw [← (Option.some.inj hf)] at h9
    exact h9 (z01a (Or.inl rfl))
  · have hf := ip hc2 hf
    refine V_aload_n E 0 rfl dX8_mayTake_10 ?_
    refine gfX8_41 E 0 rfl rfl dX8_mayTake_11 ?_
    refine V_iload_n E 2 rfl dX8_mayTake_14 ?_
    obtain ⟨hi3, hf⟩ := asr_ok hf
    refine V_iald E 10 rfl hi3 dX8_mayTake_15 ?_
    refine V_iconst E (v := (-1 : Int32)) dX8_mayTake_16 (by decide) ?_
    refine V_icmp_eq E (tgt := 22) dX8_mayTake_17 (by decide) (fun hc4 => ?_) (fun hc4 => ?_)
    · have hf := ip hc4 hf
      refine V_aload_n E 0 rfl dX8_mayTake_22 ?_
      refine V_iload_n E 2 rfl dX8_mayTake_23 ?_
      refine V_iload_n E 1 rfl dX8_mayTake_24 ?_
      obtain ⟨u5, hu5, hf⟩ := bd hf
      refine V_frW E (Rn_V E (rest := []) mlX8_187 wd_yX8_wayFrom (kMo_wayFrom l G qMo p2 p1 mo_all mo_past mo_aside mo_states mo_refused mo_causeKind mo_causeOrder mo_corner mo_linkVotes mo_linkE mo_linkF mo_follower mo_ahead mo_least mo_seam mo_above mo_below mo_text mo_textLong mo_place mo_value mo_numbers mo_not u5 hu5) ⟨rfl, rfl, Nat.le_of_ble_eq_true rfl, Nat.le_of_ble_eq_true rfl⟩ 0 rfl rfl rfl rfl rfl (Nat.le_of_ble_eq_true rfl) dX8_mayTake_25) ?_
      show V G p l e rmMo_mayTake s m args below meth c 4 A Q 0 0 (gMo G qMo mo_all mo_past mo_aside mo_states mo_refused mo_causeKind mo_causeOrder mo_corner mo_linkVotes mo_linkE mo_linkF mo_follower mo_ahead mo_least mo_seam mo_above mo_below mo_text mo_textLong mo_place mo_value mo_numbers mo_not) 28 [(0, .ref (qMo 0)), (1, .int p1), (2, .int p2)] [.int u5]
      refine V_istore_n E (lv' := [(0, .ref (qMo 0)), (1, .int p1), (2, .int p2), (3, .int u5)]) dX8_mayTake_28 (by decide) rfl ?_
      refine V_iload_n E 3 rfl dX8_mayTake_29 ?_
      refine V_if_eq E (tgt := 41) dX8_mayTake_30 (by decide) (fun hc6 => ?_) (fun hc6 => ?_)
      · have hf := ip hc6 hf
        refine V_iconst E (v := (1 : Int32)) dX8_mayTake_41 (by decide) ?_
        refine V_goto E (tgt := 46) dX8_mayTake_42 (by decide) ?_
        have h9 := hret 46 [(0, .ref (qMo 0)), (1, .int p1), (2, .int p2), (3, .int u5)] dX8_mayTake_46
        rw [← (Option.some.inj hf)] at h9
        exact h9 (z01a (Or.inr rfl))
      · have hf := iq hc6 hf
        refine V_iload_n E 3 rfl dX8_mayTake_33 ?_
        refine V_aload_n E 0 rfl dX8_mayTake_34 ?_
        obtain ⟨u7, hu7, hf⟩ := bd hf
        refine V_frW E (Rn_V E (rest := [.int u5]) mlX8_59 wd_yX8_many (kMo_many l G qMo mo_all mo_past mo_aside mo_states mo_refused mo_causeKind mo_causeOrder mo_corner mo_linkVotes mo_linkE mo_linkF mo_follower mo_ahead mo_least mo_seam mo_above mo_below mo_text mo_textLong mo_place mo_value mo_numbers mo_not u7 hu7) ⟨rfl, rfl, Nat.le_of_ble_eq_true rfl, Nat.le_of_ble_eq_true rfl⟩ 0 rfl rfl rfl rfl rfl (Nat.le_of_ble_eq_true rfl) dX8_mayTake_35) ?_
        show V G p l e rmMo_mayTake s m args below meth c 4 A Q 0 0 (gMo G qMo mo_all mo_past mo_aside mo_states mo_refused mo_causeKind mo_causeOrder mo_corner mo_linkVotes mo_linkE mo_linkF mo_follower mo_ahead mo_least mo_seam mo_above mo_below mo_text mo_textLong mo_place mo_value mo_numbers mo_not) 38 [(0, .ref (qMo 0)), (1, .int p1), (2, .int p2), (3, .int u5)] [.int u7, .int u5]
        refine V_icmp_ne E (tgt := 45) dX8_mayTake_38 (by decide) (fun hc8 => ?_) (fun hc8 => ?_)
        · have hf := iq hc8 hf
          refine V_iconst E (v := (0 : Int32)) dX8_mayTake_45 (by decide) ?_
          have h9 := hret 46 [(0, .ref (qMo 0)), (1, .int p1), (2, .int p2), (3, .int u5)] dX8_mayTake_46
          rw [← (Option.some.inj hf)] at h9
          exact h9 (z01a (Or.inl rfl))
        · have hf := ip hc8 hf
          refine V_iconst E (v := (1 : Int32)) dX8_mayTake_41 (by decide) ?_
          refine V_goto E (tgt := 46) dX8_mayTake_42 (by decide) ?_
          have h9 := hret 46 [(0, .ref (qMo 0)), (1, .int p1), (2, .int p2), (3, .int u5)] dX8_mayTake_46
          rw [← (Option.some.inj hf)] at h9
          exact h9 (z01a (Or.inr rfl))
    · have hf := iq hc4 hf
      refine V_iconst E (v := (0 : Int32)) dX8_mayTake_20 (by decide) ?_
      have h9 := hret 21 [(0, .ref (qMo 0)), (1, .int p1), (2, .int p2)] dX8_mayTake_21
      rw [← (Option.some.inj hf)] at h9
      exact h9 (z01a (Or.inl rfl))
abbrev rmMo_laysChain : Room := { frames := 7, cells := 0, slots := 0, locals := 163 }
theorem wd_yX8_laysChain : wdV yX8_laysChain cX8_laysChain 4 none 0 := ⟨wc_yX8_laysChain, wi_yX8_laysChain, wse_yX8_laysChain, wini_X8, by decide +kernel, by decide +kernel, by decide +kernel⟩
set_option maxHeartbeats 4000000 in
set_option maxRecDepth 100000 in
theorem kMo_laysChain (l : Launch) (G : wG) (qMo : Nat → Nat) (mo_all : Nat → Int32) (mo_past : Nat → Int32) (mo_aside : Nat → Int32) (mo_states : Int32) (mo_refused : Nat → Int32) (mo_causeKind : Int32) (mo_causeOrder : Int32) (mo_corner : Nat → Int32) (mo_linkVotes : Nat → Int32) (mo_linkE : Nat → Int32) (mo_linkF : Nat → Int32) (mo_follower : Nat → Int32) (mo_ahead : Nat → Int32) (mo_least : Nat → Int32) (mo_seam : Nat → Int32) (mo_above : Int64) (mo_below : Int64) (mo_text : Nat → Int32) (mo_textLong : Int32) (mo_place : Int32) (mo_value : Int32) (mo_numbers : Nat → Int32) (mo_not : Int32) (o : (Nat → Int32) × (Nat → Int32) × (Nat → Int32) × (Nat → Int32) × (Nat → Int32) × (Nat → Int32)) (hf : fMo_laysChain mo_all mo_corner mo_linkVotes mo_linkE mo_linkF mo_follower mo_ahead = some o) : Ct G l yX8_laysChain cX8_laysChain 4 none rmMo_laysChain [.ref (qMo 0)] (gMo G qMo mo_all mo_past mo_aside mo_states mo_refused mo_causeKind mo_causeOrder mo_corner mo_linkVotes mo_linkE mo_linkF mo_follower mo_ahead mo_least mo_seam mo_above mo_below mo_text mo_textLong mo_place mo_value mo_numbers mo_not) none (gMo G qMo mo_all mo_past mo_aside mo_states mo_refused mo_causeKind mo_causeOrder o.1 o.2.1 o.2.2.1 o.2.2.2.1 o.2.2.2.2.1 o.2.2.2.2.2 mo_least mo_seam mo_above mo_below mo_text mo_textLong mo_place mo_value mo_numbers mo_not) := by
  refine Ct.ofV (by decide +kernel) (Nat.le_of_ble_eq_true rfl) (fun p e s m args below meth c A Q E hret => ?_)
  unfold fMo_laysChain at hf
  show V G p l e rmMo_laysChain s m args below meth c 4 A Q 0 0 (gMo G qMo mo_all mo_past mo_aside mo_states mo_refused mo_causeKind mo_causeOrder mo_corner mo_linkVotes mo_linkE mo_linkF mo_follower mo_ahead mo_least mo_seam mo_above mo_below mo_text mo_textLong mo_place mo_value mo_numbers mo_not) 0 [(0, .ref (qMo 0))] []
  refine V_aload_n E 0 rfl dX8_laysChain_0 ?_
  obtain ⟨u1, hu1, hf⟩ := bd hf
  refine V_frW E (Rn_V E (rest := []) mlX8_190 wd_yX8_laysLinks (kMo_laysLinks l G qMo mo_all mo_past mo_aside mo_states mo_refused mo_causeKind mo_causeOrder mo_corner mo_linkVotes mo_linkE mo_linkF mo_follower mo_ahead mo_least mo_seam mo_above mo_below mo_text mo_textLong mo_place mo_value mo_numbers mo_not u1 hu1) ⟨rfl, rfl, Nat.le_of_ble_eq_true rfl, Nat.le_of_ble_eq_true rfl⟩ 0 rfl rfl rfl rfl rfl (Nat.le_of_ble_eq_true rfl) dX8_laysChain_1) ?_
  show V G p l e rmMo_laysChain s m args below meth c 4 A Q 0 0 (gMo G qMo mo_all mo_past mo_aside mo_states mo_refused mo_causeKind mo_causeOrder u1.1 u1.2.1 u1.2.2.1 u1.2.2.2 mo_follower mo_ahead mo_least mo_seam mo_above mo_below mo_text mo_textLong mo_place mo_value mo_numbers mo_not) 4 [(0, .ref (qMo 0))] []
  refine V_iconst E (v := (0 : Int32)) dX8_laysChain_4 (by decide) ?_
  refine V_istore_n E (lv' := [(0, .ref (qMo 0)), (1, .int (0 : Int32))]) dX8_laysChain_5 (by decide) rfl ?_
  have L6 : ∀ (n : Nat) (a6_1 : Int32) (c6_mo_follower : Nat → Int32) (c6_mo_ahead : Nat → Int32) (u : (Nat → Int32) × (Nat → Int32)), fMo_laysChain_L6 n a6_1 c6_mo_follower c6_mo_ahead = some u → (V G p l e rmMo_laysChain s m args below meth c 4 A Q 0 0 (gMo G qMo mo_all mo_past mo_aside mo_states mo_refused mo_causeKind mo_causeOrder u1.1 u1.2.1 u1.2.2.1 u1.2.2.2 u.1 u.2 mo_least mo_seam mo_above mo_below mo_text mo_textLong mo_place mo_value mo_numbers mo_not) 32 [(0, .ref (qMo 0))] []) → V G p l e rmMo_laysChain s m args below meth c 4 A Q 0 0 (gMo G qMo mo_all mo_past mo_aside mo_states mo_refused mo_causeKind mo_causeOrder u1.1 u1.2.1 u1.2.2.1 u1.2.2.2 c6_mo_follower c6_mo_ahead mo_least mo_seam mo_above mo_below mo_text mo_textLong mo_place mo_value mo_numbers mo_not) 6 [(0, .ref (qMo 0)), (1, .int a6_1)] [] := by
    intro n
    induction n with
    | zero =>
      intro a6_1 c6_mo_follower c6_mo_ahead u hf hk
      rw [fMo_laysChain_L6] at hf
      cases hf
    | succ n ih =>
      intro a6_1 c6_mo_follower c6_mo_ahead u hf hk
      rw [fMo_laysChain_L6] at hf
      exact ih a6_1 c6_mo_follower c6_mo_ahead _ hf hk
  obtain ⟨u2, hu2, hf⟩ := bd hf
  refine L6 FU (0 : Int32) mo_follower mo_ahead u2 hu2 ?_
  refine V_bipush E (v := (12 : Int32)) dX8_laysChain_32 (by decide) ?_
  refine V_istore_n E (lv' := [(0, .ref (qMo 0)), (1, .int (12 : Int32))]) dX8_laysChain_34 (by decide) rfl ?_
  have L35 : ∀ (n : Nat) (a35_1 : Int32) (c35_mo_follower : Nat → Int32) (c35_mo_ahead : Nat → Int32) (u : (Nat → Int32) × (Nat → Int32)), fMo_laysChain_L35 mo_all u1.2.1 n a35_1 c35_mo_follower c35_mo_ahead = some u → (V G p l e rmMo_laysChain s m args below meth c 4 A Q 0 0 (gMo G qMo mo_all mo_past mo_aside mo_states mo_refused mo_causeKind mo_causeOrder u1.1 u1.2.1 u1.2.2.1 u1.2.2.2 u.1 u.2 mo_least mo_seam mo_above mo_below mo_text mo_textLong mo_place mo_value mo_numbers mo_not) 120 [] []) → V G p l e rmMo_laysChain s m args below meth c 4 A Q 0 0 (gMo G qMo mo_all mo_past mo_aside mo_states mo_refused mo_causeKind mo_causeOrder u1.1 u1.2.1 u1.2.2.1 u1.2.2.2 c35_mo_follower c35_mo_ahead mo_least mo_seam mo_above mo_below mo_text mo_textLong mo_place mo_value mo_numbers mo_not) 35 [(0, .ref (qMo 0)), (1, .int a35_1)] [] := by
    intro n
    induction n with
    | zero =>
      intro a35_1 c35_mo_follower c35_mo_ahead u hf hk
      rw [fMo_laysChain_L35] at hf
      cases hf
    | succ n ih =>
      intro a35_1 c35_mo_follower c35_mo_ahead u hf hk
      rw [fMo_laysChain_L35] at hf
      exact ih a35_1 c35_mo_follower c35_mo_ahead _ hf hk
  obtain ⟨u3, hu3, hf⟩ := bd hf
  refine L35 FU (12 : Int32) u2.1 u2.2 u3 hu3 ?_
  have h9 := hret 120 [] dX8_laysChain_120
  rw [← (Option.some.inj hf)] at h9
  exact h9
abbrev rmMo_eOf : Room := { frames := 0, cells := 0, slots := 0, locals := 0 }
theorem wd_yX8_eOf : wdV yX8_eOf cX8_eOf 2 (some .int) 1 := ⟨wc_yX8_eOf, wi_yX8_eOf, wse_yX8_eOf, wini_X8, by decide +kernel, by decide +kernel, by decide +kernel⟩
set_option maxHeartbeats 4000000 in
set_option maxRecDepth 100000 in
theorem kMo_eOf (l : Launch) (G : wG) (qMo : Nat → Nat) (p1 : Int32) (mo_all : Nat → Int32) (mo_past : Nat → Int32) (mo_aside : Nat → Int32) (mo_states : Int32) (mo_refused : Nat → Int32) (mo_causeKind : Int32) (mo_causeOrder : Int32) (mo_corner : Nat → Int32) (mo_linkVotes : Nat → Int32) (mo_linkE : Nat → Int32) (mo_linkF : Nat → Int32) (mo_follower : Nat → Int32) (mo_ahead : Nat → Int32) (mo_least : Nat → Int32) (mo_seam : Nat → Int32) (mo_above : Int64) (mo_below : Int64) (mo_text : Nat → Int32) (mo_textLong : Int32) (mo_place : Int32) (mo_value : Int32) (mo_numbers : Nat → Int32) (mo_not : Int32) (o : Int32) (hf : fMo_eOf p1 mo_linkE mo_follower = some o) : Ct G l yX8_eOf cX8_eOf 2 (some .int) rmMo_eOf [.ref (qMo 0), .int p1] (gMo G qMo mo_all mo_past mo_aside mo_states mo_refused mo_causeKind mo_causeOrder mo_corner mo_linkVotes mo_linkE mo_linkF mo_follower mo_ahead mo_least mo_seam mo_above mo_below mo_text mo_textLong mo_place mo_value mo_numbers mo_not) (some (.int o)) (gMo G qMo mo_all mo_past mo_aside mo_states mo_refused mo_causeKind mo_causeOrder mo_corner mo_linkVotes mo_linkE mo_linkF mo_follower mo_ahead mo_least mo_seam mo_above mo_below mo_text mo_textLong mo_place mo_value mo_numbers mo_not) := by
  refine Ct.ofI (by decide +kernel) (Nat.le_of_ble_eq_true rfl) (fun p e s m args below meth c A Q E hret => ?_)
  unfold fMo_eOf at hf
  show V G p l e rmMo_eOf s m args below meth c 2 A Q 0 0 (gMo G qMo mo_all mo_past mo_aside mo_states mo_refused mo_causeKind mo_causeOrder mo_corner mo_linkVotes mo_linkE mo_linkF mo_follower mo_ahead mo_least mo_seam mo_above mo_below mo_text mo_textLong mo_place mo_value mo_numbers mo_not) 0 [(0, .ref (qMo 0)), (1, .int p1)] []
  refine V_aload_n E 0 rfl dX8_eOf_0 ?_
  refine gfX8_32 E 0 rfl rfl dX8_eOf_1 ?_
  refine V_bipush E (v := (6 : Int32)) dX8_eOf_4 (by decide) ?_
  refine V_iload_n E 1 rfl dX8_eOf_6 ?_
  refine V_imul E dX8_eOf_7 ?_
  refine V_aload_n E 0 rfl dX8_eOf_8 ?_
  refine gfX8_38 E 0 rfl rfl dX8_eOf_9 ?_
  refine V_iload_n E 1 rfl dX8_eOf_12 ?_
  obtain ⟨hi1, hf⟩ := asr_ok hf
  refine V_iald E 9 rfl hi1 dX8_eOf_13 ?_
  refine V_iadd E dX8_eOf_14 ?_
  obtain ⟨hi2, hf⟩ := asr_ok hf
  refine V_iald E 7 rfl hi2 dX8_eOf_15 ?_
  have h9 := hret 16 [(0, .ref (qMo 0)), (1, .int p1)] dX8_eOf_16
  rw [← (Option.some.inj hf)] at h9
  exact h9
abbrev rmMo_fOf : Room := { frames := 0, cells := 0, slots := 0, locals := 0 }
theorem wd_yX8_fOf : wdV yX8_fOf cX8_fOf 2 (some .int) 1 := ⟨wc_yX8_fOf, wi_yX8_fOf, wse_yX8_fOf, wini_X8, by decide +kernel, by decide +kernel, by decide +kernel⟩
set_option maxHeartbeats 4000000 in
set_option maxRecDepth 100000 in
theorem kMo_fOf (l : Launch) (G : wG) (qMo : Nat → Nat) (p1 : Int32) (mo_all : Nat → Int32) (mo_past : Nat → Int32) (mo_aside : Nat → Int32) (mo_states : Int32) (mo_refused : Nat → Int32) (mo_causeKind : Int32) (mo_causeOrder : Int32) (mo_corner : Nat → Int32) (mo_linkVotes : Nat → Int32) (mo_linkE : Nat → Int32) (mo_linkF : Nat → Int32) (mo_follower : Nat → Int32) (mo_ahead : Nat → Int32) (mo_least : Nat → Int32) (mo_seam : Nat → Int32) (mo_above : Int64) (mo_below : Int64) (mo_text : Nat → Int32) (mo_textLong : Int32) (mo_place : Int32) (mo_value : Int32) (mo_numbers : Nat → Int32) (mo_not : Int32) (o : Int32) (hf : fMo_fOf p1 mo_linkF mo_follower = some o) : Ct G l yX8_fOf cX8_fOf 2 (some .int) rmMo_fOf [.ref (qMo 0), .int p1] (gMo G qMo mo_all mo_past mo_aside mo_states mo_refused mo_causeKind mo_causeOrder mo_corner mo_linkVotes mo_linkE mo_linkF mo_follower mo_ahead mo_least mo_seam mo_above mo_below mo_text mo_textLong mo_place mo_value mo_numbers mo_not) (some (.int o)) (gMo G qMo mo_all mo_past mo_aside mo_states mo_refused mo_causeKind mo_causeOrder mo_corner mo_linkVotes mo_linkE mo_linkF mo_follower mo_ahead mo_least mo_seam mo_above mo_below mo_text mo_textLong mo_place mo_value mo_numbers mo_not) := by
  refine Ct.ofI (by decide +kernel) (Nat.le_of_ble_eq_true rfl) (fun p e s m args below meth c A Q E hret => ?_)
  unfold fMo_fOf at hf
  show V G p l e rmMo_fOf s m args below meth c 2 A Q 0 0 (gMo G qMo mo_all mo_past mo_aside mo_states mo_refused mo_causeKind mo_causeOrder mo_corner mo_linkVotes mo_linkE mo_linkF mo_follower mo_ahead mo_least mo_seam mo_above mo_below mo_text mo_textLong mo_place mo_value mo_numbers mo_not) 0 [(0, .ref (qMo 0)), (1, .int p1)] []
  refine V_aload_n E 0 rfl dX8_fOf_0 ?_
  refine gfX8_35 E 0 rfl rfl dX8_fOf_1 ?_
  refine V_bipush E (v := (6 : Int32)) dX8_fOf_4 (by decide) ?_
  refine V_iload_n E 1 rfl dX8_fOf_6 ?_
  refine V_imul E dX8_fOf_7 ?_
  refine V_aload_n E 0 rfl dX8_fOf_8 ?_
  refine gfX8_38 E 0 rfl rfl dX8_fOf_9 ?_
  refine V_iload_n E 1 rfl dX8_fOf_12 ?_
  obtain ⟨hi1, hf⟩ := asr_ok hf
  refine V_iald E 9 rfl hi1 dX8_fOf_13 ?_
  refine V_iadd E dX8_fOf_14 ?_
  obtain ⟨hi2, hf⟩ := asr_ok hf
  refine V_iald E 8 rfl hi2 dX8_fOf_15 ?_
  have h9 := hret 16 [(0, .ref (qMo 0)), (1, .int p1)] dX8_fOf_16
  rw [← (Option.some.inj hf)] at h9
  exact h9
abbrev rmMo_chain : Room := { frames := 8, cells := 0, slots := 0, locals := 186 }
theorem wd_yX8_chain : wdV yX8_chain cX8_chain 3 (some .int) 2 := ⟨wc_yX8_chain, wi_yX8_chain, wse_yX8_chain, wini_X8, by decide +kernel, by decide +kernel, by decide +kernel⟩
set_option maxHeartbeats 4000000 in
set_option maxRecDepth 100000 in
theorem kMo_chain (l : Launch) (G : wG) (qMo : Nat → Nat) (p1 : Int32) (p2 : Int32) (mo_all : Nat → Int32) (mo_past : Nat → Int32) (mo_aside : Nat → Int32) (mo_states : Int32) (mo_refused : Nat → Int32) (mo_causeKind : Int32) (mo_causeOrder : Int32) (mo_corner : Nat → Int32) (mo_linkVotes : Nat → Int32) (mo_linkE : Nat → Int32) (mo_linkF : Nat → Int32) (mo_follower : Nat → Int32) (mo_ahead : Nat → Int32) (mo_least : Nat → Int32) (mo_seam : Nat → Int32) (mo_above : Int64) (mo_below : Int64) (mo_text : Nat → Int32) (mo_textLong : Int32) (mo_place : Int32) (mo_value : Int32) (mo_numbers : Nat → Int32) (mo_not : Int32) (o : Int32 × (Nat → Int32) × (Nat → Int32) × (Nat → Int32) × (Nat → Int32) × (Nat → Int32) × (Nat → Int32) × (Nat → Int32)) (hf : fMo_chain p1 p2 mo_all mo_refused mo_corner mo_linkVotes mo_linkE mo_linkF mo_follower mo_ahead = some o) : Ct G l yX8_chain cX8_chain 3 (some .int) rmMo_chain [.ref (qMo 0), .int p1, .int p2] (gMo G qMo mo_all mo_past mo_aside mo_states mo_refused mo_causeKind mo_causeOrder mo_corner mo_linkVotes mo_linkE mo_linkF mo_follower mo_ahead mo_least mo_seam mo_above mo_below mo_text mo_textLong mo_place mo_value mo_numbers mo_not) (some (.int o.1)) (gMo G qMo mo_all mo_past mo_aside mo_states o.2.1 mo_causeKind mo_causeOrder o.2.2.1 o.2.2.2.1 o.2.2.2.2.1 o.2.2.2.2.2.1 o.2.2.2.2.2.2.1 o.2.2.2.2.2.2.2 mo_least mo_seam mo_above mo_below mo_text mo_textLong mo_place mo_value mo_numbers mo_not) := by
  refine Ct.ofI (by decide +kernel) (Nat.le_of_ble_eq_true rfl) (fun p e s m args below meth c A Q E hret => ?_)
  unfold fMo_chain at hf
  show V G p l e rmMo_chain s m args below meth c 3 A Q 0 0 (gMo G qMo mo_all mo_past mo_aside mo_states mo_refused mo_causeKind mo_causeOrder mo_corner mo_linkVotes mo_linkE mo_linkF mo_follower mo_ahead mo_least mo_seam mo_above mo_below mo_text mo_textLong mo_place mo_value mo_numbers mo_not) 0 [(0, .ref (qMo 0)), (1, .int p1), (2, .int p2)] []
  refine V_aload_n E 0 rfl dX8_chain_0 ?_
  refine V_iload_n E 1 rfl dX8_chain_1 ?_
  obtain ⟨u1, hu1, hf⟩ := bd hf
  refine V_frW E (Rn_V E (rest := []) mlX8_128 wd_yX8_isPicture (kMo_isPicture l G qMo p1 mo_all mo_past mo_aside mo_states mo_refused mo_causeKind mo_causeOrder mo_corner mo_linkVotes mo_linkE mo_linkF mo_follower mo_ahead mo_least mo_seam mo_above mo_below mo_text mo_textLong mo_place mo_value mo_numbers mo_not u1 hu1) ⟨rfl, rfl, Nat.le_of_ble_eq_true rfl, Nat.le_of_ble_eq_true rfl⟩ 0 rfl rfl rfl rfl rfl (Nat.le_of_ble_eq_true rfl) dX8_chain_2) ?_
  show V G p l e rmMo_chain s m args below meth c 3 A Q 0 0 (gMo G qMo mo_all mo_past mo_aside mo_states mo_refused mo_causeKind mo_causeOrder mo_corner mo_linkVotes mo_linkE mo_linkF mo_follower mo_ahead mo_least mo_seam mo_above mo_below mo_text mo_textLong mo_place mo_value mo_numbers mo_not) 5 [(0, .ref (qMo 0)), (1, .int p1), (2, .int p2)] [.int u1]
  refine V_if_eq E (tgt := 18) dX8_chain_5 (by decide) (fun hc2 => ?_) (fun hc2 => ?_)
  · have hf := ip hc2 hf
    refine V_aload_n E 0 rfl dX8_chain_18 ?_
    refine V_bipush E (v := (-2 : Int32)) dX8_chain_19 (by decide) ?_
    obtain ⟨u3, hu3, hf⟩ := bd hf
    refine V_frW E (Rn_V E (rest := []) mlX8_91 wd_yX8_refuses (kMo_refuses l G qMo (-2 : Int32) mo_all mo_past mo_aside mo_states mo_refused mo_causeKind mo_causeOrder mo_corner mo_linkVotes mo_linkE mo_linkF mo_follower mo_ahead mo_least mo_seam mo_above mo_below mo_text mo_textLong mo_place mo_value mo_numbers mo_not u3 hu3) ⟨rfl, rfl, Nat.le_of_ble_eq_true rfl, Nat.le_of_ble_eq_true rfl⟩ 0 rfl rfl rfl rfl rfl (Nat.le_of_ble_eq_true rfl) dX8_chain_21) ?_
    show V G p l e rmMo_chain s m args below meth c 3 A Q 0 0 (gMo G qMo mo_all mo_past mo_aside mo_states u3.2 mo_causeKind mo_causeOrder mo_corner mo_linkVotes mo_linkE mo_linkF mo_follower mo_ahead mo_least mo_seam mo_above mo_below mo_text mo_textLong mo_place mo_value mo_numbers mo_not) 24 [(0, .ref (qMo 0)), (1, .int p1), (2, .int p2)] [.int u3.1]
    have h9 := hret 24 [(0, .ref (qMo 0)), (1, .int p1), (2, .int p2)] dX8_chain_24
    rw [← (Option.some.inj hf)] at h9
    exact h9
  · have hf := iq hc2 hf
    refine V_iload_n E 2 rfl dX8_chain_8 ?_
    refine V_i2l E dX8_chain_9 ?_
    refine V_lconst E (v := (0 : Int64)) dX8_chain_10 (by decide) ?_
    refine V_lconst E (v := (1 : Int64)) dX8_chain_11 (by decide) ?_
    obtain ⟨u4, hu4, hf⟩ := bd hf
    refine V_fr0 E (Rn_S E (rest := []) mlX8_63 wd_yX8_in (kMo_in l G p2.toInt64 (0 : Int64) (1 : Int64) u4 hu4) ⟨rfl, rfl, Nat.le_of_ble_eq_true rfl, Nat.le_of_ble_eq_true rfl⟩ rfl rfl (Nat.le_of_ble_eq_true rfl) dX8_chain_12) ?_
    show V G p l e rmMo_chain s m args below meth c 3 A Q 0 0 (gMo G qMo mo_all mo_past mo_aside mo_states mo_refused mo_causeKind mo_causeOrder mo_corner mo_linkVotes mo_linkE mo_linkF mo_follower mo_ahead mo_least mo_seam mo_above mo_below mo_text mo_textLong mo_place mo_value mo_numbers mo_not) 15 [(0, .ref (qMo 0)), (1, .int p1), (2, .int p2)] [.int u4]
    refine V_if_ne E (tgt := 25) dX8_chain_15 (by decide) (fun hc5 => ?_) (fun hc5 => ?_)
    · have hf := iq hc5 hf
      refine V_aload_n E 0 rfl dX8_chain_25 ?_
      obtain ⟨u6, hu6, hf⟩ := bd hf
      refine V_frW E (Rn_V E (rest := []) mlX8_196 wd_yX8_laysChain (kMo_laysChain l G qMo mo_all mo_past mo_aside mo_states mo_refused mo_causeKind mo_causeOrder mo_corner mo_linkVotes mo_linkE mo_linkF mo_follower mo_ahead mo_least mo_seam mo_above mo_below mo_text mo_textLong mo_place mo_value mo_numbers mo_not u6 hu6) ⟨rfl, rfl, Nat.le_of_ble_eq_true rfl, Nat.le_of_ble_eq_true rfl⟩ 0 rfl rfl rfl rfl rfl (Nat.le_of_ble_eq_true rfl) dX8_chain_26) ?_
      show V G p l e rmMo_chain s m args below meth c 3 A Q 0 0 (gMo G qMo mo_all mo_past mo_aside mo_states mo_refused mo_causeKind mo_causeOrder u6.1 u6.2.1 u6.2.2.1 u6.2.2.2.1 u6.2.2.2.2.1 u6.2.2.2.2.2 mo_least mo_seam mo_above mo_below mo_text mo_textLong mo_place mo_value mo_numbers mo_not) 29 [(0, .ref (qMo 0)), (1, .int p1), (2, .int p2)] []
      refine V_iload_n E 2 rfl dX8_chain_29 ?_
      refine V_if_ne E (tgt := 42) dX8_chain_30 (by decide) (fun hc7 => ?_) (fun hc7 => ?_)
      · have hf := iq hc7 hf
        refine V_aload_n E 0 rfl dX8_chain_42 ?_
        refine gfX8_41 E 0 rfl rfl dX8_chain_43 ?_
        refine V_iload_n E 1 rfl dX8_chain_46 ?_
        obtain ⟨hi8, hf⟩ := asr_ok hf
        refine V_iald E 10 rfl hi8 dX8_chain_47 ?_
        have h9 := hret 48 [(0, .ref (qMo 0)), (1, .int p1), (2, .int p2)] dX8_chain_48
        rw [← (Option.some.inj hf)] at h9
        exact h9
      · have hf := ip hc7 hf
        refine V_aload_n E 0 rfl dX8_chain_33 ?_
        refine gfX8_38 E 0 rfl rfl dX8_chain_34 ?_
        refine V_iload_n E 1 rfl dX8_chain_37 ?_
        obtain ⟨hi9, hf⟩ := asr_ok hf
        refine V_iald E 9 rfl hi9 dX8_chain_38 ?_
        refine V_goto E (tgt := 48) dX8_chain_39 (by decide) ?_
        have h9 := hret 48 [(0, .ref (qMo 0)), (1, .int p1), (2, .int p2)] dX8_chain_48
        rw [← (Option.some.inj hf)] at h9
        exact h9
    · have hf := ip hc5 hf
      refine V_aload_n E 0 rfl dX8_chain_18 ?_
      refine V_bipush E (v := (-2 : Int32)) dX8_chain_19 (by decide) ?_
      obtain ⟨u10, hu10, hf⟩ := bd hf
      refine V_frW E (Rn_V E (rest := []) mlX8_91 wd_yX8_refuses (kMo_refuses l G qMo (-2 : Int32) mo_all mo_past mo_aside mo_states mo_refused mo_causeKind mo_causeOrder mo_corner mo_linkVotes mo_linkE mo_linkF mo_follower mo_ahead mo_least mo_seam mo_above mo_below mo_text mo_textLong mo_place mo_value mo_numbers mo_not u10 hu10) ⟨rfl, rfl, Nat.le_of_ble_eq_true rfl, Nat.le_of_ble_eq_true rfl⟩ 0 rfl rfl rfl rfl rfl (Nat.le_of_ble_eq_true rfl) dX8_chain_21) ?_
      show V G p l e rmMo_chain s m args below meth c 3 A Q 0 0 (gMo G qMo mo_all mo_past mo_aside mo_states u10.2 mo_causeKind mo_causeOrder mo_corner mo_linkVotes mo_linkE mo_linkF mo_follower mo_ahead mo_least mo_seam mo_above mo_below mo_text mo_textLong mo_place mo_value mo_numbers mo_not) 24 [(0, .ref (qMo 0)), (1, .int p1), (2, .int p2)] [.int u10.1]
      have h9 := hret 24 [(0, .ref (qMo 0)), (1, .int p1), (2, .int p2)] dX8_chain_24
      rw [← (Option.some.inj hf)] at h9
      exact h9
abbrev rmMo_taken : Room := { frames := 1, cells := 0, slots := 0, locals := 20 }
theorem wd_yX8_taken : wdV yX8_taken cX8_taken 3 (some .int) 0 := ⟨wc_yX8_taken, wi_yX8_taken, wse_yX8_taken, wini_X8, by decide +kernel, by decide +kernel, by decide +kernel⟩
set_option maxHeartbeats 4000000 in
set_option maxRecDepth 100000 in
theorem kMo_taken (l : Launch) (G : wG) (qMo : Nat → Nat) (mo_all : Nat → Int32) (mo_past : Nat → Int32) (mo_aside : Nat → Int32) (mo_states : Int32) (mo_refused : Nat → Int32) (mo_causeKind : Int32) (mo_causeOrder : Int32) (mo_corner : Nat → Int32) (mo_linkVotes : Nat → Int32) (mo_linkE : Nat → Int32) (mo_linkF : Nat → Int32) (mo_follower : Nat → Int32) (mo_ahead : Nat → Int32) (mo_least : Nat → Int32) (mo_seam : Nat → Int32) (mo_above : Int64) (mo_below : Int64) (mo_text : Nat → Int32) (mo_textLong : Int32) (mo_place : Int32) (mo_value : Int32) (mo_numbers : Nat → Int32) (mo_not : Int32) (o : Int32) (hf : fMo_taken mo_all mo_follower = some o) : Ct G l yX8_taken cX8_taken 3 (some .int) rmMo_taken [.ref (qMo 0)] (gMo G qMo mo_all mo_past mo_aside mo_states mo_refused mo_causeKind mo_causeOrder mo_corner mo_linkVotes mo_linkE mo_linkF mo_follower mo_ahead mo_least mo_seam mo_above mo_below mo_text mo_textLong mo_place mo_value mo_numbers mo_not) (some (.int o)) (gMo G qMo mo_all mo_past mo_aside mo_states mo_refused mo_causeKind mo_causeOrder mo_corner mo_linkVotes mo_linkE mo_linkF mo_follower mo_ahead mo_least mo_seam mo_above mo_below mo_text mo_textLong mo_place mo_value mo_numbers mo_not) := by
  refine Ct.ofI (by decide +kernel) (Nat.le_of_ble_eq_true rfl) (fun p e s m args below meth c A Q E hret => ?_)
  unfold fMo_taken at hf
  show V G p l e rmMo_taken s m args below meth c 3 A Q 0 0 (gMo G qMo mo_all mo_past mo_aside mo_states mo_refused mo_causeKind mo_causeOrder mo_corner mo_linkVotes mo_linkE mo_linkF mo_follower mo_ahead mo_least mo_seam mo_above mo_below mo_text mo_textLong mo_place mo_value mo_numbers mo_not) 0 [(0, .ref (qMo 0))] []
  refine V_iconst E (v := (0 : Int32)) dX8_taken_0 (by decide) ?_
  refine V_istore_n E (lv' := [(0, .ref (qMo 0)), (1, .int (0 : Int32))]) dX8_taken_1 (by decide) rfl ?_
  refine V_iconst E (v := (0 : Int32)) dX8_taken_2 (by decide) ?_
  refine V_istore_n E (lv' := [(0, .ref (qMo 0)), (1, .int (0 : Int32)), (2, .int (0 : Int32))]) dX8_taken_3 (by decide) rfl ?_
  have L4 : ∀ (n : Nat) (a4_1 : Int32) (a4_2 : Int32) (u : Int32), fMo_taken_L4 mo_all mo_follower n a4_1 a4_2 = some u → (V G p l e rmMo_taken s m args below meth c 3 A Q 0 0 (gMo G qMo mo_all mo_past mo_aside mo_states mo_refused mo_causeKind mo_causeOrder mo_corner mo_linkVotes mo_linkE mo_linkF mo_follower mo_ahead mo_least mo_seam mo_above mo_below mo_text mo_textLong mo_place mo_value mo_numbers mo_not) 36 [(1, .int u)] []) → V G p l e rmMo_taken s m args below meth c 3 A Q 0 0 (gMo G qMo mo_all mo_past mo_aside mo_states mo_refused mo_causeKind mo_causeOrder mo_corner mo_linkVotes mo_linkE mo_linkF mo_follower mo_ahead mo_least mo_seam mo_above mo_below mo_text mo_textLong mo_place mo_value mo_numbers mo_not) 4 [(0, .ref (qMo 0)), (1, .int a4_1), (2, .int a4_2)] [] := by
    intro n
    induction n with
    | zero =>
      intro a4_1 a4_2 u hf hk
      rw [fMo_taken_L4] at hf
      cases hf
    | succ n ih =>
      intro a4_1 a4_2 u hf hk
      rw [fMo_taken_L4] at hf
      exact ih a4_1 a4_2 _ hf hk
  obtain ⟨u1, hu1, hf⟩ := bd hf
  refine L4 FU (0 : Int32) (0 : Int32) u1 hu1 ?_
  refine V_iload_n E 0 rfl dX8_taken_36 ?_
  have h9 := hret 37 [(1, .int u1)] dX8_taken_37
  rw [← (Option.some.inj hf)] at h9
  exact h9
abbrev rmMo_isClosed : Room := { frames := 2, cells := 0, slots := 0, locals := 42 }
theorem wd_yX8_isClosed : wdV yX8_isClosed cX8_isClosed 1 (some .boolean) 0 := ⟨wc_yX8_isClosed, wi_yX8_isClosed, wse_yX8_isClosed, wini_X8, by decide +kernel, by decide +kernel, by decide +kernel⟩
set_option maxHeartbeats 4000000 in
set_option maxRecDepth 100000 in
theorem kMo_isClosed (l : Launch) (G : wG) (qMo : Nat → Nat) (mo_all : Nat → Int32) (mo_past : Nat → Int32) (mo_aside : Nat → Int32) (mo_states : Int32) (mo_refused : Nat → Int32) (mo_causeKind : Int32) (mo_causeOrder : Int32) (mo_corner : Nat → Int32) (mo_linkVotes : Nat → Int32) (mo_linkE : Nat → Int32) (mo_linkF : Nat → Int32) (mo_follower : Nat → Int32) (mo_ahead : Nat → Int32) (mo_least : Nat → Int32) (mo_seam : Nat → Int32) (mo_above : Int64) (mo_below : Int64) (mo_text : Nat → Int32) (mo_textLong : Int32) (mo_place : Int32) (mo_value : Int32) (mo_numbers : Nat → Int32) (mo_not : Int32) (o : Int32) (hf : fMo_isClosed mo_all mo_follower = some o) : Ct G l yX8_isClosed cX8_isClosed 1 (some .boolean) rmMo_isClosed [.ref (qMo 0)] (gMo G qMo mo_all mo_past mo_aside mo_states mo_refused mo_causeKind mo_causeOrder mo_corner mo_linkVotes mo_linkE mo_linkF mo_follower mo_ahead mo_least mo_seam mo_above mo_below mo_text mo_textLong mo_place mo_value mo_numbers mo_not) (some (.int o)) (gMo G qMo mo_all mo_past mo_aside mo_states mo_refused mo_causeKind mo_causeOrder mo_corner mo_linkVotes mo_linkE mo_linkF mo_follower mo_ahead mo_least mo_seam mo_above mo_below mo_text mo_textLong mo_place mo_value mo_numbers mo_not) := by
  refine Ct.ofZ (by decide +kernel) (Nat.le_of_ble_eq_true rfl) (fun p e s m args below meth c A Q E hret => ?_)
  unfold fMo_isClosed at hf
  show V G p l e rmMo_isClosed s m args below meth c 1 A Q 0 0 (gMo G qMo mo_all mo_past mo_aside mo_states mo_refused mo_causeKind mo_causeOrder mo_corner mo_linkVotes mo_linkE mo_linkF mo_follower mo_ahead mo_least mo_seam mo_above mo_below mo_text mo_textLong mo_place mo_value mo_numbers mo_not) 0 [(0, .ref (qMo 0))] []
  refine V_aload_n E 0 rfl dX8_isClosed_0 ?_
  obtain ⟨u1, hu1, hf⟩ := bd hf
  refine V_frW E (Rn_V E (rest := []) mlX8_59 wd_yX8_many (kMo_many l G qMo mo_all mo_past mo_aside mo_states mo_refused mo_causeKind mo_causeOrder mo_corner mo_linkVotes mo_linkE mo_linkF mo_follower mo_ahead mo_least mo_seam mo_above mo_below mo_text mo_textLong mo_place mo_value mo_numbers mo_not u1 hu1) ⟨rfl, rfl, Nat.le_of_ble_eq_true rfl, Nat.le_of_ble_eq_true rfl⟩ 0 rfl rfl rfl rfl rfl (Nat.le_of_ble_eq_true rfl) dX8_isClosed_1) ?_
  show V G p l e rmMo_isClosed s m args below meth c 1 A Q 0 0 (gMo G qMo mo_all mo_past mo_aside mo_states mo_refused mo_causeKind mo_causeOrder mo_corner mo_linkVotes mo_linkE mo_linkF mo_follower mo_ahead mo_least mo_seam mo_above mo_below mo_text mo_textLong mo_place mo_value mo_numbers mo_not) 4 [(0, .ref (qMo 0))] [.int u1]
  refine V_iconst E (v := (2 : Int32)) dX8_isClosed_4 (by decide) ?_
  refine V_icmp_lt E (tgt := 23) dX8_isClosed_5 (by decide) (fun hc2 => ?_) (fun hc2 => ?_)
  · have hf := ip hc2 hf
    refine V_iconst E (v := (0 : Int32)) dX8_isClosed_23 (by decide) ?_
    have h9 := hret 24 [(0, .ref (qMo 0))] dX8_isClosed_24
    rw [← (Option.some.inj hf)] at h9
    exact h9 (z01a (Or.inl rfl))
  · have hf := iq hc2 hf
    refine V_aload_n E 0 rfl dX8_isClosed_8 ?_
    obtain ⟨u3, hu3, hf⟩ := bd hf
    refine V_frW E (Rn_V E (rest := []) mlX8_199 wd_yX8_taken (kMo_taken l G qMo mo_all mo_past mo_aside mo_states mo_refused mo_causeKind mo_causeOrder mo_corner mo_linkVotes mo_linkE mo_linkF mo_follower mo_ahead mo_least mo_seam mo_above mo_below mo_text mo_textLong mo_place mo_value mo_numbers mo_not u3 hu3) ⟨rfl, rfl, Nat.le_of_ble_eq_true rfl, Nat.le_of_ble_eq_true rfl⟩ 0 rfl rfl rfl rfl rfl (Nat.le_of_ble_eq_true rfl) dX8_isClosed_9) ?_
    show V G p l e rmMo_isClosed s m args below meth c 1 A Q 0 0 (gMo G qMo mo_all mo_past mo_aside mo_states mo_refused mo_causeKind mo_causeOrder mo_corner mo_linkVotes mo_linkE mo_linkF mo_follower mo_ahead mo_least mo_seam mo_above mo_below mo_text mo_textLong mo_place mo_value mo_numbers mo_not) 12 [(0, .ref (qMo 0))] [.int u3]
    refine V_aload_n E 0 rfl dX8_isClosed_12 ?_
    obtain ⟨u4, hu4, hf⟩ := bd hf
    refine V_frW E (Rn_V E (rest := [.int u3]) mlX8_59 wd_yX8_many (kMo_many l G qMo mo_all mo_past mo_aside mo_states mo_refused mo_causeKind mo_causeOrder mo_corner mo_linkVotes mo_linkE mo_linkF mo_follower mo_ahead mo_least mo_seam mo_above mo_below mo_text mo_textLong mo_place mo_value mo_numbers mo_not u4 hu4) ⟨rfl, rfl, Nat.le_of_ble_eq_true rfl, Nat.le_of_ble_eq_true rfl⟩ 0 rfl rfl rfl rfl rfl (Nat.le_of_ble_eq_true rfl) dX8_isClosed_13) ?_
    show V G p l e rmMo_isClosed s m args below meth c 1 A Q 0 0 (gMo G qMo mo_all mo_past mo_aside mo_states mo_refused mo_causeKind mo_causeOrder mo_corner mo_linkVotes mo_linkE mo_linkF mo_follower mo_ahead mo_least mo_seam mo_above mo_below mo_text mo_textLong mo_place mo_value mo_numbers mo_not) 16 [(0, .ref (qMo 0))] [.int u4, .int u3]
    refine V_icmp_ne E (tgt := 23) dX8_isClosed_16 (by decide) (fun hc5 => ?_) (fun hc5 => ?_)
    · have hf := iq hc5 hf
      refine V_iconst E (v := (0 : Int32)) dX8_isClosed_23 (by decide) ?_
      have h9 := hret 24 [(0, .ref (qMo 0))] dX8_isClosed_24
      rw [← (Option.some.inj hf)] at h9
      exact h9 (z01a (Or.inl rfl))
    · have hf := ip hc5 hf
      refine V_iconst E (v := (1 : Int32)) dX8_isClosed_19 (by decide) ?_
      refine V_goto E (tgt := 24) dX8_isClosed_20 (by decide) ?_
      have h9 := hret 24 [(0, .ref (qMo 0))] dX8_isClosed_24
      rw [← (Option.some.inj hf)] at h9
      exact h9 (z01a (Or.inr rfl))
abbrev rmMo_sumOf : Room := { frames := 1, cells := 0, slots := 0, locals := 21 }
theorem wd_yX8_sumOf : wdV yX8_sumOf cX8_sumOf 4 (some .int) 1 := ⟨wc_yX8_sumOf, wi_yX8_sumOf, wse_yX8_sumOf, wini_X8, by decide +kernel, by decide +kernel, by decide +kernel⟩
set_option maxHeartbeats 4000000 in
set_option maxRecDepth 100000 in
theorem kMo_sumOf (l : Launch) (G : wG) (qMo : Nat → Nat) (p1 : Int32) (mo_all : Nat → Int32) (mo_past : Nat → Int32) (mo_aside : Nat → Int32) (mo_states : Int32) (mo_refused : Nat → Int32) (mo_causeKind : Int32) (mo_causeOrder : Int32) (mo_corner : Nat → Int32) (mo_linkVotes : Nat → Int32) (mo_linkE : Nat → Int32) (mo_linkF : Nat → Int32) (mo_follower : Nat → Int32) (mo_ahead : Nat → Int32) (mo_least : Nat → Int32) (mo_seam : Nat → Int32) (mo_above : Int64) (mo_below : Int64) (mo_text : Nat → Int32) (mo_textLong : Int32) (mo_place : Int32) (mo_value : Int32) (mo_numbers : Nat → Int32) (mo_not : Int32) (o : Int32) (hf : fMo_sumOf p1 mo_all mo_linkE mo_linkF mo_follower = some o) : Ct G l yX8_sumOf cX8_sumOf 4 (some .int) rmMo_sumOf [.ref (qMo 0), .int p1] (gMo G qMo mo_all mo_past mo_aside mo_states mo_refused mo_causeKind mo_causeOrder mo_corner mo_linkVotes mo_linkE mo_linkF mo_follower mo_ahead mo_least mo_seam mo_above mo_below mo_text mo_textLong mo_place mo_value mo_numbers mo_not) (some (.int o)) (gMo G qMo mo_all mo_past mo_aside mo_states mo_refused mo_causeKind mo_causeOrder mo_corner mo_linkVotes mo_linkE mo_linkF mo_follower mo_ahead mo_least mo_seam mo_above mo_below mo_text mo_textLong mo_place mo_value mo_numbers mo_not) := by
  refine Ct.ofI (by decide +kernel) (Nat.le_of_ble_eq_true rfl) (fun p e s m args below meth c A Q E hret => ?_)
  unfold fMo_sumOf at hf
  show V G p l e rmMo_sumOf s m args below meth c 4 A Q 0 0 (gMo G qMo mo_all mo_past mo_aside mo_states mo_refused mo_causeKind mo_causeOrder mo_corner mo_linkVotes mo_linkE mo_linkF mo_follower mo_ahead mo_least mo_seam mo_above mo_below mo_text mo_textLong mo_place mo_value mo_numbers mo_not) 0 [(0, .ref (qMo 0)), (1, .int p1)] []
  refine V_iconst E (v := (0 : Int32)) dX8_sumOf_0 (by decide) ?_
  refine V_istore_n E (lv' := [(0, .ref (qMo 0)), (1, .int p1), (2, .int (0 : Int32))]) dX8_sumOf_1 (by decide) rfl ?_
  refine V_iconst E (v := (0 : Int32)) dX8_sumOf_2 (by decide) ?_
  refine V_istore_n E (lv' := [(0, .ref (qMo 0)), (1, .int p1), (2, .int (0 : Int32)), (3, .int (0 : Int32))]) dX8_sumOf_3 (by decide) rfl ?_
  have L4 : ∀ (n : Nat) (a4_2 : Int32) (a4_3 : Int32) (u : Int32), fMo_sumOf_L4 p1 mo_all mo_linkE mo_linkF mo_follower n a4_2 a4_3 = some u → (V G p l e rmMo_sumOf s m args below meth c 4 A Q 0 0 (gMo G qMo mo_all mo_past mo_aside mo_states mo_refused mo_causeKind mo_causeOrder mo_corner mo_linkVotes mo_linkE mo_linkF mo_follower mo_ahead mo_least mo_seam mo_above mo_below mo_text mo_textLong mo_place mo_value mo_numbers mo_not) 52 [(2, .int u)] []) → V G p l e rmMo_sumOf s m args below meth c 4 A Q 0 0 (gMo G qMo mo_all mo_past mo_aside mo_states mo_refused mo_causeKind mo_causeOrder mo_corner mo_linkVotes mo_linkE mo_linkF mo_follower mo_ahead mo_least mo_seam mo_above mo_below mo_text mo_textLong mo_place mo_value mo_numbers mo_not) 4 [(0, .ref (qMo 0)), (1, .int p1), (2, .int a4_2), (3, .int a4_3)] [] := by
    intro n
    induction n with
    | zero =>
      intro a4_2 a4_3 u hf hk
      rw [fMo_sumOf_L4] at hf
      cases hf
    | succ n ih =>
      intro a4_2 a4_3 u hf hk
      rw [fMo_sumOf_L4] at hf
      exact ih a4_2 a4_3 _ hf hk
  obtain ⟨u1, hu1, hf⟩ := bd hf
  refine L4 FU (0 : Int32) (0 : Int32) u1 hu1 ?_
  refine V_iload_n E 0 rfl dX8_sumOf_52 ?_
  have h9 := hret 53 [(2, .int u1)] dX8_sumOf_53
  rw [← (Option.some.inj hf)] at h9
  exact h9
abbrev rmMo_isRight : Room := { frames := 1, cells := 0, slots := 0, locals := 22 }
theorem wd_yX8_isRight : wdV yX8_isRight cX8_isRight 4 (some .boolean) 1 := ⟨wc_yX8_isRight, wi_yX8_isRight, wse_yX8_isRight, wini_X8, by decide +kernel, by decide +kernel, by decide +kernel⟩
set_option maxHeartbeats 4000000 in
set_option maxRecDepth 100000 in
theorem kMo_isRight (l : Launch) (G : wG) (qMo : Nat → Nat) (p1 : Int32) (mo_all : Nat → Int32) (mo_past : Nat → Int32) (mo_aside : Nat → Int32) (mo_states : Int32) (mo_refused : Nat → Int32) (mo_causeKind : Int32) (mo_causeOrder : Int32) (mo_corner : Nat → Int32) (mo_linkVotes : Nat → Int32) (mo_linkE : Nat → Int32) (mo_linkF : Nat → Int32) (mo_follower : Nat → Int32) (mo_ahead : Nat → Int32) (mo_least : Nat → Int32) (mo_seam : Nat → Int32) (mo_above : Int64) (mo_below : Int64) (mo_text : Nat → Int32) (mo_textLong : Int32) (mo_place : Int32) (mo_value : Int32) (mo_numbers : Nat → Int32) (mo_not : Int32) (o : Int32) (hf : fMo_isRight p1 mo_all mo_linkE mo_linkF mo_follower = some o) : Ct G l yX8_isRight cX8_isRight 4 (some .boolean) rmMo_isRight [.ref (qMo 0), .int p1] (gMo G qMo mo_all mo_past mo_aside mo_states mo_refused mo_causeKind mo_causeOrder mo_corner mo_linkVotes mo_linkE mo_linkF mo_follower mo_ahead mo_least mo_seam mo_above mo_below mo_text mo_textLong mo_place mo_value mo_numbers mo_not) (some (.int o)) (gMo G qMo mo_all mo_past mo_aside mo_states mo_refused mo_causeKind mo_causeOrder mo_corner mo_linkVotes mo_linkE mo_linkF mo_follower mo_ahead mo_least mo_seam mo_above mo_below mo_text mo_textLong mo_place mo_value mo_numbers mo_not) := by
  refine Ct.ofZ (by decide +kernel) (Nat.le_of_ble_eq_true rfl) (fun p e s m args below meth c A Q E hret => ?_)
  unfold fMo_isRight at hf
  show V G p l e rmMo_isRight s m args below meth c 4 A Q 0 0 (gMo G qMo mo_all mo_past mo_aside mo_states mo_refused mo_causeKind mo_causeOrder mo_corner mo_linkVotes mo_linkE mo_linkF mo_follower mo_ahead mo_least mo_seam mo_above mo_below mo_text mo_textLong mo_place mo_value mo_numbers mo_not) 0 [(0, .ref (qMo 0)), (1, .int p1)] []
  refine V_aload_n E 0 rfl dX8_isRight_0 ?_
  refine gfX8_38 E 0 rfl rfl dX8_isRight_1 ?_
  refine V_iload_n E 1 rfl dX8_isRight_4 ?_
  obtain ⟨hi1, hf⟩ := asr_ok hf
  refine V_iald E 9 rfl hi1 dX8_isRight_5 ?_
  refine V_istore_n E (lv' := [(0, .ref (qMo 0)), (1, .int p1), (2, .int (mo_follower p1.toNatClampNeg))]) dX8_isRight_6 (by decide) rfl ?_
  refine V_aload_n E 0 rfl dX8_isRight_7 ?_
  refine V_iload_n E 1 rfl dX8_isRight_8 ?_
  refine V_iconst E (v := (2 : Int32)) dX8_isRight_9 (by decide) ?_
  obtain ⟨u2, hu2, hf⟩ := bd hf
  refine V_frW E (Rn_V E (rest := []) mlX8_208 wd_yX8_shotOf (kMo_shotOf l G qMo p1 (2 : Int32) mo_all mo_past mo_aside mo_states mo_refused mo_causeKind mo_causeOrder mo_corner mo_linkVotes mo_linkE mo_linkF mo_follower mo_ahead mo_least mo_seam mo_above mo_below mo_text mo_textLong mo_place mo_value mo_numbers mo_not u2 hu2) ⟨rfl, rfl, Nat.le_of_ble_eq_true rfl, Nat.le_of_ble_eq_true rfl⟩ 0 rfl rfl rfl rfl rfl (Nat.le_of_ble_eq_true rfl) dX8_isRight_10) ?_
  show V G p l e rmMo_isRight s m args below meth c 4 A Q 0 0 (gMo G qMo mo_all mo_past mo_aside mo_states mo_refused mo_causeKind mo_causeOrder mo_corner mo_linkVotes mo_linkE mo_linkF mo_follower mo_ahead mo_least mo_seam mo_above mo_below mo_text mo_textLong mo_place mo_value mo_numbers mo_not) 13 [(0, .ref (qMo 0)), (1, .int p1), (2, .int (mo_follower p1.toNatClampNeg))] [.int u2]
  refine V_istore_n E (lv' := [(0, .ref (qMo 0)), (1, .int p1), (2, .int (mo_follower p1.toNatClampNeg)), (3, .int u2)]) dX8_isRight_13 (by decide) rfl ?_
  refine V_iload_n E 3 rfl dX8_isRight_14 ?_
  refine V_aload_n E 0 rfl dX8_isRight_15 ?_
  refine V_iload_n E 2 rfl dX8_isRight_16 ?_
  refine V_iconst E (v := (2 : Int32)) dX8_isRight_17 (by decide) ?_
  obtain ⟨u3, hu3, hf⟩ := bd hf
  refine V_frW E (Rn_V E (rest := [.int u2]) mlX8_208 wd_yX8_shotOf (kMo_shotOf l G qMo (mo_follower p1.toNatClampNeg) (2 : Int32) mo_all mo_past mo_aside mo_states mo_refused mo_causeKind mo_causeOrder mo_corner mo_linkVotes mo_linkE mo_linkF mo_follower mo_ahead mo_least mo_seam mo_above mo_below mo_text mo_textLong mo_place mo_value mo_numbers mo_not u3 hu3) ⟨rfl, rfl, Nat.le_of_ble_eq_true rfl, Nat.le_of_ble_eq_true rfl⟩ 0 rfl rfl rfl rfl rfl (Nat.le_of_ble_eq_true rfl) dX8_isRight_18) ?_
  show V G p l e rmMo_isRight s m args below meth c 4 A Q 0 0 (gMo G qMo mo_all mo_past mo_aside mo_states mo_refused mo_causeKind mo_causeOrder mo_corner mo_linkVotes mo_linkE mo_linkF mo_follower mo_ahead mo_least mo_seam mo_above mo_below mo_text mo_textLong mo_place mo_value mo_numbers mo_not) 21 [(0, .ref (qMo 0)), (1, .int p1), (2, .int (mo_follower p1.toNatClampNeg)), (3, .int u2)] [.int u3, .int u2]
  refine V_icmp_ne E (tgt := 72) dX8_isRight_21 (by decide) (fun hc4 => ?_) (fun hc4 => ?_)
  · have hf := iq hc4 hf
    refine V_iconst E (v := (0 : Int32)) dX8_isRight_72 (by decide) ?_
    have h9 := hret 73 [(0, .ref (qMo 0)), (1, .int p1), (2, .int (mo_follower p1.toNatClampNeg)), (3, .int u2)] dX8_isRight_73
    rw [← (Option.some.inj hf)] at h9
    exact h9 (z01a (Or.inl rfl))
  · have hf := ip hc4 hf
    refine V_aload_n E 0 rfl dX8_isRight_24 ?_
    refine V_iload_n E 1 rfl dX8_isRight_25 ?_
    refine V_iconst E (v := (0 : Int32)) dX8_isRight_26 (by decide) ?_
    obtain ⟨u5, hu5, hf⟩ := bd hf
    refine V_frW E (Rn_V E (rest := []) mlX8_208 wd_yX8_shotOf (kMo_shotOf l G qMo p1 (0 : Int32) mo_all mo_past mo_aside mo_states mo_refused mo_causeKind mo_causeOrder mo_corner mo_linkVotes mo_linkE mo_linkF mo_follower mo_ahead mo_least mo_seam mo_above mo_below mo_text mo_textLong mo_place mo_value mo_numbers mo_not u5 hu5) ⟨rfl, rfl, Nat.le_of_ble_eq_true rfl, Nat.le_of_ble_eq_true rfl⟩ 0 rfl rfl rfl rfl rfl (Nat.le_of_ble_eq_true rfl) dX8_isRight_27) ?_
    show V G p l e rmMo_isRight s m args below meth c 4 A Q 0 0 (gMo G qMo mo_all mo_past mo_aside mo_states mo_refused mo_causeKind mo_causeOrder mo_corner mo_linkVotes mo_linkE mo_linkF mo_follower mo_ahead mo_least mo_seam mo_above mo_below mo_text mo_textLong mo_place mo_value mo_numbers mo_not) 30 [(0, .ref (qMo 0)), (1, .int p1), (2, .int (mo_follower p1.toNatClampNeg)), (3, .int u2)] [.int u5]
    refine V_aload_n E 0 rfl dX8_isRight_30 ?_
    refine V_iload_n E 1 rfl dX8_isRight_31 ?_
    obtain ⟨u6, hu6, hf⟩ := bd hf
    refine V_frW E (Rn_V E (rest := [.int u5]) mlX8_205 wd_yX8_fOf (kMo_fOf l G qMo p1 mo_all mo_past mo_aside mo_states mo_refused mo_causeKind mo_causeOrder mo_corner mo_linkVotes mo_linkE mo_linkF mo_follower mo_ahead mo_least mo_seam mo_above mo_below mo_text mo_textLong mo_place mo_value mo_numbers mo_not u6 hu6) ⟨rfl, rfl, Nat.le_of_ble_eq_true rfl, Nat.le_of_ble_eq_true rfl⟩ 0 rfl rfl rfl rfl rfl (Nat.le_of_ble_eq_true rfl) dX8_isRight_32) ?_
    show V G p l e rmMo_isRight s m args below meth c 4 A Q 0 0 (gMo G qMo mo_all mo_past mo_aside mo_states mo_refused mo_causeKind mo_causeOrder mo_corner mo_linkVotes mo_linkE mo_linkF mo_follower mo_ahead mo_least mo_seam mo_above mo_below mo_text mo_textLong mo_place mo_value mo_numbers mo_not) 35 [(0, .ref (qMo 0)), (1, .int p1), (2, .int (mo_follower p1.toNatClampNeg)), (3, .int u2)] [.int u6, .int u5]
    refine V_iadd E dX8_isRight_35 ?_
    refine V_iload_n E 3 rfl dX8_isRight_36 ?_
    obtain ⟨hz7, hf⟩ := asr_ok hf
    refine V_irem E dX8_isRight_37 hz7 ?_
    refine V_aload_n E 0 rfl dX8_isRight_38 ?_
    refine V_iload_n E 2 rfl dX8_isRight_39 ?_
    refine V_iconst E (v := (0 : Int32)) dX8_isRight_40 (by decide) ?_
    obtain ⟨u8, hu8, hf⟩ := bd hf
    refine V_frW E (Rn_V E (rest := [.int ((u5 + u6) - (u5 + u6) / u2 * u2)]) mlX8_208 wd_yX8_shotOf (kMo_shotOf l G qMo (mo_follower p1.toNatClampNeg) (0 : Int32) mo_all mo_past mo_aside mo_states mo_refused mo_causeKind mo_causeOrder mo_corner mo_linkVotes mo_linkE mo_linkF mo_follower mo_ahead mo_least mo_seam mo_above mo_below mo_text mo_textLong mo_place mo_value mo_numbers mo_not u8 hu8) ⟨rfl, rfl, Nat.le_of_ble_eq_true rfl, Nat.le_of_ble_eq_true rfl⟩ 0 rfl rfl rfl rfl rfl (Nat.le_of_ble_eq_true rfl) dX8_isRight_41) ?_
    show V G p l e rmMo_isRight s m args below meth c 4 A Q 0 0 (gMo G qMo mo_all mo_past mo_aside mo_states mo_refused mo_causeKind mo_causeOrder mo_corner mo_linkVotes mo_linkE mo_linkF mo_follower mo_ahead mo_least mo_seam mo_above mo_below mo_text mo_textLong mo_place mo_value mo_numbers mo_not) 44 [(0, .ref (qMo 0)), (1, .int p1), (2, .int (mo_follower p1.toNatClampNeg)), (3, .int u2)] [.int u8, .int ((u5 + u6) - (u5 + u6) / u2 * u2)]
    refine V_icmp_ne E (tgt := 72) dX8_isRight_44 (by decide) (fun hc9 => ?_) (fun hc9 => ?_)
    · have hf := iq hc9 hf
      refine V_iconst E (v := (0 : Int32)) dX8_isRight_72 (by decide) ?_
      have h9 := hret 73 [(0, .ref (qMo 0)), (1, .int p1), (2, .int (mo_follower p1.toNatClampNeg)), (3, .int u2)] dX8_isRight_73
      rw [← (Option.some.inj hf)] at h9
      exact h9 (z01a (Or.inl rfl))
    · have hf := ip hc9 hf
      refine V_aload_n E 0 rfl dX8_isRight_47 ?_
      refine V_iload_n E 1 rfl dX8_isRight_48 ?_
      refine V_iconst E (v := (1 : Int32)) dX8_isRight_49 (by decide) ?_
      obtain ⟨u10, hu10, hf⟩ := bd hf
      refine V_frW E (Rn_V E (rest := []) mlX8_208 wd_yX8_shotOf (kMo_shotOf l G qMo p1 (1 : Int32) mo_all mo_past mo_aside mo_states mo_refused mo_causeKind mo_causeOrder mo_corner mo_linkVotes mo_linkE mo_linkF mo_follower mo_ahead mo_least mo_seam mo_above mo_below mo_text mo_textLong mo_place mo_value mo_numbers mo_not u10 hu10) ⟨rfl, rfl, Nat.le_of_ble_eq_true rfl, Nat.le_of_ble_eq_true rfl⟩ 0 rfl rfl rfl rfl rfl (Nat.le_of_ble_eq_true rfl) dX8_isRight_50) ?_
      show V G p l e rmMo_isRight s m args below meth c 4 A Q 0 0 (gMo G qMo mo_all mo_past mo_aside mo_states mo_refused mo_causeKind mo_causeOrder mo_corner mo_linkVotes mo_linkE mo_linkF mo_follower mo_ahead mo_least mo_seam mo_above mo_below mo_text mo_textLong mo_place mo_value mo_numbers mo_not) 53 [(0, .ref (qMo 0)), (1, .int p1), (2, .int (mo_follower p1.toNatClampNeg)), (3, .int u2)] [.int u10]
      refine V_aload_n E 0 rfl dX8_isRight_53 ?_
      refine V_iload_n E 1 rfl dX8_isRight_54 ?_
      obtain ⟨u11, hu11, hf⟩ := bd hf
      refine V_frW E (Rn_V E (rest := [.int u10]) mlX8_202 wd_yX8_eOf (kMo_eOf l G qMo p1 mo_all mo_past mo_aside mo_states mo_refused mo_causeKind mo_causeOrder mo_corner mo_linkVotes mo_linkE mo_linkF mo_follower mo_ahead mo_least mo_seam mo_above mo_below mo_text mo_textLong mo_place mo_value mo_numbers mo_not u11 hu11) ⟨rfl, rfl, Nat.le_of_ble_eq_true rfl, Nat.le_of_ble_eq_true rfl⟩ 0 rfl rfl rfl rfl rfl (Nat.le_of_ble_eq_true rfl) dX8_isRight_55) ?_
      show V G p l e rmMo_isRight s m args below meth c 4 A Q 0 0 (gMo G qMo mo_all mo_past mo_aside mo_states mo_refused mo_causeKind mo_causeOrder mo_corner mo_linkVotes mo_linkE mo_linkF mo_follower mo_ahead mo_least mo_seam mo_above mo_below mo_text mo_textLong mo_place mo_value mo_numbers mo_not) 58 [(0, .ref (qMo 0)), (1, .int p1), (2, .int (mo_follower p1.toNatClampNeg)), (3, .int u2)] [.int u11, .int u10]
      refine V_iadd E dX8_isRight_58 ?_
      refine V_aload_n E 0 rfl dX8_isRight_59 ?_
      refine V_iload_n E 2 rfl dX8_isRight_60 ?_
      refine V_iconst E (v := (1 : Int32)) dX8_isRight_61 (by decide) ?_
      obtain ⟨u12, hu12, hf⟩ := bd hf
      refine V_frW E (Rn_V E (rest := [.int (u10 + u11)]) mlX8_208 wd_yX8_shotOf (kMo_shotOf l G qMo (mo_follower p1.toNatClampNeg) (1 : Int32) mo_all mo_past mo_aside mo_states mo_refused mo_causeKind mo_causeOrder mo_corner mo_linkVotes mo_linkE mo_linkF mo_follower mo_ahead mo_least mo_seam mo_above mo_below mo_text mo_textLong mo_place mo_value mo_numbers mo_not u12 hu12) ⟨rfl, rfl, Nat.le_of_ble_eq_true rfl, Nat.le_of_ble_eq_true rfl⟩ 0 rfl rfl rfl rfl rfl (Nat.le_of_ble_eq_true rfl) dX8_isRight_62) ?_
      show V G p l e rmMo_isRight s m args below meth c 4 A Q 0 0 (gMo G qMo mo_all mo_past mo_aside mo_states mo_refused mo_causeKind mo_causeOrder mo_corner mo_linkVotes mo_linkE mo_linkF mo_follower mo_ahead mo_least mo_seam mo_above mo_below mo_text mo_textLong mo_place mo_value mo_numbers mo_not) 65 [(0, .ref (qMo 0)), (1, .int p1), (2, .int (mo_follower p1.toNatClampNeg)), (3, .int u2)] [.int u12, .int (u10 + u11)]
      refine V_icmp_ne E (tgt := 72) dX8_isRight_65 (by decide) (fun hc13 => ?_) (fun hc13 => ?_)
      · have hf := iq hc13 hf
        refine V_iconst E (v := (0 : Int32)) dX8_isRight_72 (by decide) ?_
        have h9 := hret 73 [(0, .ref (qMo 0)), (1, .int p1), (2, .int (mo_follower p1.toNatClampNeg)), (3, .int u2)] dX8_isRight_73
        rw [← (Option.some.inj hf)] at h9
        exact h9 (z01a (Or.inl rfl))
      · have hf := ip hc13 hf
        refine V_iconst E (v := (1 : Int32)) dX8_isRight_68 (by decide) ?_
        refine V_goto E (tgt := 73) dX8_isRight_69 (by decide) ?_
        have h9 := hret 73 [(0, .ref (qMo 0)), (1, .int p1), (2, .int (mo_follower p1.toNatClampNeg)), (3, .int u2)] dX8_isRight_73
        rw [← (Option.some.inj hf)] at h9
        exact h9 (z01a (Or.inr rfl))
abbrev rmMo_allNow : Room := { frames := 3, cells := 0, slots := 0, locals := 62 }
theorem wd_yX8_allNow : wdV yX8_allNow cX8_allNow 5 (some .int) 1 := ⟨wc_yX8_allNow, wi_yX8_allNow, wse_yX8_allNow, wini_X8, by decide +kernel, by decide +kernel, by decide +kernel⟩
set_option maxHeartbeats 4000000 in
set_option maxRecDepth 100000 in
theorem kMo_allNow (l : Launch) (G : wG) (qMo : Nat → Nat) (p1 : Int32) (mo_all : Nat → Int32) (mo_past : Nat → Int32) (mo_aside : Nat → Int32) (mo_states : Int32) (mo_refused : Nat → Int32) (mo_causeKind : Int32) (mo_causeOrder : Int32) (mo_corner : Nat → Int32) (mo_linkVotes : Nat → Int32) (mo_linkE : Nat → Int32) (mo_linkF : Nat → Int32) (mo_follower : Nat → Int32) (mo_ahead : Nat → Int32) (mo_least : Nat → Int32) (mo_seam : Nat → Int32) (mo_above : Int64) (mo_below : Int64) (mo_text : Nat → Int32) (mo_textLong : Int32) (mo_place : Int32) (mo_value : Int32) (mo_numbers : Nat → Int32) (mo_not : Int32) (o : Int32) (hf : fMo_allNow p1 mo_all mo_linkE mo_linkF mo_follower mo_ahead = some o) : Ct G l yX8_allNow cX8_allNow 5 (some .int) rmMo_allNow [.ref (qMo 0), .int p1] (gMo G qMo mo_all mo_past mo_aside mo_states mo_refused mo_causeKind mo_causeOrder mo_corner mo_linkVotes mo_linkE mo_linkF mo_follower mo_ahead mo_least mo_seam mo_above mo_below mo_text mo_textLong mo_place mo_value mo_numbers mo_not) (some (.int o)) (gMo G qMo mo_all mo_past mo_aside mo_states mo_refused mo_causeKind mo_causeOrder mo_corner mo_linkVotes mo_linkE mo_linkF mo_follower mo_ahead mo_least mo_seam mo_above mo_below mo_text mo_textLong mo_place mo_value mo_numbers mo_not) := by
  refine Ct.ofI (by decide +kernel) (Nat.le_of_ble_eq_true rfl) (fun p e s m args below meth c A Q E hret => ?_)
  unfold fMo_allNow at hf
  show V G p l e rmMo_allNow s m args below meth c 5 A Q 0 0 (gMo G qMo mo_all mo_past mo_aside mo_states mo_refused mo_causeKind mo_causeOrder mo_corner mo_linkVotes mo_linkE mo_linkF mo_follower mo_ahead mo_least mo_seam mo_above mo_below mo_text mo_textLong mo_place mo_value mo_numbers mo_not) 0 [(0, .ref (qMo 0)), (1, .int p1)] []
  refine V_iconst E (v := (0 : Int32)) dX8_allNow_0 (by decide) ?_
  refine V_istore_n E (lv' := [(0, .ref (qMo 0)), (1, .int p1), (2, .int (0 : Int32))]) dX8_allNow_1 (by decide) rfl ?_
  refine V_iconst E (v := (0 : Int32)) dX8_allNow_2 (by decide) ?_
  refine V_istore_n E (lv' := [(0, .ref (qMo 0)), (1, .int p1), (2, .int (0 : Int32)), (3, .int (0 : Int32))]) dX8_allNow_3 (by decide) rfl ?_
  refine V_iconst E (v := (0 : Int32)) dX8_allNow_4 (by decide) ?_
  refine V_istore E (lv' := [(0, .ref (qMo 0)), (1, .int p1), (2, .int (0 : Int32)), (3, .int (0 : Int32)), (4, .int (0 : Int32))]) dX8_allNow_5 (by decide) rfl ?_
  have L7 : ∀ (n : Nat) (a7_2 : Int32) (a7_3 : Int32) (a7_4 : Int32) (u : Int32 × Int32), fMo_allNow_L7 mo_all mo_linkE mo_linkF mo_follower mo_ahead n a7_2 a7_3 a7_4 = some u → (V G p l e rmMo_allNow s m args below meth c 5 A Q 0 0 (gMo G qMo mo_all mo_past mo_aside mo_states mo_refused mo_causeKind mo_causeOrder mo_corner mo_linkVotes mo_linkE mo_linkF mo_follower mo_ahead mo_least mo_seam mo_above mo_below mo_text mo_textLong mo_place mo_value mo_numbers mo_not) 69 [(0, .ref (qMo 0)), (1, .int p1), (2, .int u.1), (3, .int u.2)] []) → V G p l e rmMo_allNow s m args below meth c 5 A Q 0 0 (gMo G qMo mo_all mo_past mo_aside mo_states mo_refused mo_causeKind mo_causeOrder mo_corner mo_linkVotes mo_linkE mo_linkF mo_follower mo_ahead mo_least mo_seam mo_above mo_below mo_text mo_textLong mo_place mo_value mo_numbers mo_not) 7 [(0, .ref (qMo 0)), (1, .int p1), (2, .int a7_2), (3, .int a7_3), (4, .int a7_4)] [] := by
    intro n
    induction n with
    | zero =>
      intro a7_2 a7_3 a7_4 u hf hk
      rw [fMo_allNow_L7] at hf
      cases hf
    | succ n ih =>
      intro a7_2 a7_3 a7_4 u hf hk
      rw [fMo_allNow_L7] at hf
      exact ih a7_2 a7_3 a7_4 _ hf hk
  obtain ⟨u1, hu1, hf⟩ := bd hf
  refine L7 FU (0 : Int32) (0 : Int32) (0 : Int32) u1 hu1 ?_
  refine V_iload_n E 1 rfl dX8_allNow_69 ?_
  by_cases hc2 : p1 = (0 : Int32)
  · have hf := ip hc2 hf
    refine V_tsIn E (tgt := 104) (off := 34) dX8_allNow_70 (by rw [hc2]; decide) (by decide) ?_
    refine V_aload_n E 0 rfl dX8_allNow_104 ?_
    obtain ⟨u3, hu3, hf⟩ := bd hf
    refine V_frW E (Rn_V E (rest := []) mlX8_199 wd_yX8_taken (kMo_taken l G qMo mo_all mo_past mo_aside mo_states mo_refused mo_causeKind mo_causeOrder mo_corner mo_linkVotes mo_linkE mo_linkF mo_follower mo_ahead mo_least mo_seam mo_above mo_below mo_text mo_textLong mo_place mo_value mo_numbers mo_not u3 hu3) ⟨rfl, rfl, Nat.le_of_ble_eq_true rfl, Nat.le_of_ble_eq_true rfl⟩ 0 rfl rfl rfl rfl rfl (Nat.le_of_ble_eq_true rfl) dX8_allNow_105) ?_
    show V G p l e rmMo_allNow s m args below meth c 5 A Q 0 0 (gMo G qMo mo_all mo_past mo_aside mo_states mo_refused mo_causeKind mo_causeOrder mo_corner mo_linkVotes mo_linkE mo_linkF mo_follower mo_ahead mo_least mo_seam mo_above mo_below mo_text mo_textLong mo_place mo_value mo_numbers mo_not) 108 [(0, .ref (qMo 0)), (1, .int p1), (2, .int u1.1), (3, .int u1.2)] [.int u3]
    have h9 := hret 108 [(0, .ref (qMo 0)), (1, .int p1), (2, .int u1.1), (3, .int u1.2)] dX8_allNow_108
    rw [← (Option.some.inj hf)] at h9
    exact h9
  · have hf := iq hc2 hf
    by_cases hc4 : p1 = (1 : Int32)
    · have hf := ip hc4 hf
      refine V_tsIn E (tgt := 109) (off := 39) dX8_allNow_70 (by rw [hc4]; decide) (by decide) ?_
      refine V_aload_n E 0 rfl dX8_allNow_109 ?_
      obtain ⟨u5, hu5, hf⟩ := bd hf
      refine V_frW E (Rn_V E (rest := []) mlX8_214 wd_yX8_isClosed (kMo_isClosed l G qMo mo_all mo_past mo_aside mo_states mo_refused mo_causeKind mo_causeOrder mo_corner mo_linkVotes mo_linkE mo_linkF mo_follower mo_ahead mo_least mo_seam mo_above mo_below mo_text mo_textLong mo_place mo_value mo_numbers mo_not u5 hu5) ⟨rfl, rfl, Nat.le_of_ble_eq_true rfl, Nat.le_of_ble_eq_true rfl⟩ 0 rfl rfl rfl rfl rfl (Nat.le_of_ble_eq_true rfl) dX8_allNow_110) ?_
      show V G p l e rmMo_allNow s m args below meth c 5 A Q 0 0 (gMo G qMo mo_all mo_past mo_aside mo_states mo_refused mo_causeKind mo_causeOrder mo_corner mo_linkVotes mo_linkE mo_linkF mo_follower mo_ahead mo_least mo_seam mo_above mo_below mo_text mo_textLong mo_place mo_value mo_numbers mo_not) 113 [(0, .ref (qMo 0)), (1, .int p1), (2, .int u1.1), (3, .int u1.2)] [.int u5]
      refine V_if_eq E (tgt := 120) dX8_allNow_113 (by decide) (fun hc6 => ?_) (fun hc6 => ?_)
      · have hf := ip hc6 hf
        refine V_iconst E (v := (0 : Int32)) dX8_allNow_120 (by decide) ?_
        have h9 := hret 121 [(0, .ref (qMo 0)), (1, .int p1), (2, .int u1.1), (3, .int u1.2)] dX8_allNow_121
        rw [← (Option.some.inj hf)] at h9
        exact h9
      · have hf := iq hc6 hf
        refine V_iconst E (v := (1 : Int32)) dX8_allNow_116 (by decide) ?_
        refine V_goto E (tgt := 121) dX8_allNow_117 (by decide) ?_
        have h9 := hret 121 [(0, .ref (qMo 0)), (1, .int p1), (2, .int u1.1), (3, .int u1.2)] dX8_allNow_121
        rw [← (Option.some.inj hf)] at h9
        exact h9
    · have hf := iq hc4 hf
      by_cases hc7 : p1 = (2 : Int32)
      · have hf := ip hc7 hf
        refine V_tsIn E (tgt := 122) (off := 52) dX8_allNow_70 (by rw [hc7]; decide) (by decide) ?_
        refine V_aload_n E 0 rfl dX8_allNow_122 ?_
        refine V_iconst E (v := (0 : Int32)) dX8_allNow_123 (by decide) ?_
        obtain ⟨u8, hu8, hf⟩ := bd hf
        refine V_frW E (Rn_V E (rest := []) mlX8_218 wd_yX8_sumOf (kMo_sumOf l G qMo (0 : Int32) mo_all mo_past mo_aside mo_states mo_refused mo_causeKind mo_causeOrder mo_corner mo_linkVotes mo_linkE mo_linkF mo_follower mo_ahead mo_least mo_seam mo_above mo_below mo_text mo_textLong mo_place mo_value mo_numbers mo_not u8 hu8) ⟨rfl, rfl, Nat.le_of_ble_eq_true rfl, Nat.le_of_ble_eq_true rfl⟩ 0 rfl rfl rfl rfl rfl (Nat.le_of_ble_eq_true rfl) dX8_allNow_124) ?_
        show V G p l e rmMo_allNow s m args below meth c 5 A Q 0 0 (gMo G qMo mo_all mo_past mo_aside mo_states mo_refused mo_causeKind mo_causeOrder mo_corner mo_linkVotes mo_linkE mo_linkF mo_follower mo_ahead mo_least mo_seam mo_above mo_below mo_text mo_textLong mo_place mo_value mo_numbers mo_not) 127 [(0, .ref (qMo 0)), (1, .int p1), (2, .int u1.1), (3, .int u1.2)] [.int u8]
        have h9 := hret 127 [(0, .ref (qMo 0)), (1, .int p1), (2, .int u1.1), (3, .int u1.2)] dX8_allNow_127
        rw [← (Option.some.inj hf)] at h9
        exact h9
      · have hf := iq hc7 hf
        by_cases hc9 : p1 = (3 : Int32)
        · have hf := ip hc9 hf
          refine V_tsIn E (tgt := 128) (off := 58) dX8_allNow_70 (by rw [hc9]; decide) (by decide) ?_
          refine V_aload_n E 0 rfl dX8_allNow_128 ?_
          refine V_iconst E (v := (1 : Int32)) dX8_allNow_129 (by decide) ?_
          obtain ⟨u10, hu10, hf⟩ := bd hf
          refine V_frW E (Rn_V E (rest := []) mlX8_218 wd_yX8_sumOf (kMo_sumOf l G qMo (1 : Int32) mo_all mo_past mo_aside mo_states mo_refused mo_causeKind mo_causeOrder mo_corner mo_linkVotes mo_linkE mo_linkF mo_follower mo_ahead mo_least mo_seam mo_above mo_below mo_text mo_textLong mo_place mo_value mo_numbers mo_not u10 hu10) ⟨rfl, rfl, Nat.le_of_ble_eq_true rfl, Nat.le_of_ble_eq_true rfl⟩ 0 rfl rfl rfl rfl rfl (Nat.le_of_ble_eq_true rfl) dX8_allNow_130) ?_
          show V G p l e rmMo_allNow s m args below meth c 5 A Q 0 0 (gMo G qMo mo_all mo_past mo_aside mo_states mo_refused mo_causeKind mo_causeOrder mo_corner mo_linkVotes mo_linkE mo_linkF mo_follower mo_ahead mo_least mo_seam mo_above mo_below mo_text mo_textLong mo_place mo_value mo_numbers mo_not) 133 [(0, .ref (qMo 0)), (1, .int p1), (2, .int u1.1), (3, .int u1.2)] [.int u10]
          refine V_bipush E (v := (6 : Int32)) dX8_allNow_133 (by decide) ?_
          refine V_iadd E dX8_allNow_135 ?_
          have h9 := hret 136 [(0, .ref (qMo 0)), (1, .int p1), (2, .int u1.1), (3, .int u1.2)] dX8_allNow_136
          rw [← (Option.some.inj hf)] at h9
          exact h9
        · have hf := iq hc9 hf
          by_cases hc11 : p1 = (4 : Int32)
          · have hf := ip hc11 hf
            refine V_tsIn E (tgt := 137) (off := 67) dX8_allNow_70 (by rw [hc11]; decide) (by decide) ?_
            refine V_iload_n E 2 rfl dX8_allNow_137 ?_
            have h9 := hret 138 [(0, .ref (qMo 0)), (1, .int p1), (2, .int u1.1), (3, .int u1.2)] dX8_allNow_138
            rw [← (Option.some.inj hf)] at h9
            exact h9
          · have hf := iq hc11 hf
            refine V_tsD E (tgt := 139) [0, 1, 2, 3, 4] dX8_allNow_70 (List.forall_mem_cons.mpr ⟨tsne hc2 (by decide), List.forall_mem_cons.mpr ⟨tsne hc4 (by decide), List.forall_mem_cons.mpr ⟨tsne hc7 (by decide), List.forall_mem_cons.mpr ⟨tsne hc9 (by decide), List.forall_mem_cons.mpr ⟨tsne hc11 (by decide), fun _ h => absurd h List.not_mem_nil⟩⟩⟩⟩⟩) (by decide) (by decide) (by decide) ?_
            refine V_iload_n E 3 rfl dX8_allNow_139 ?_
            have h9 := hret 140 [(0, .ref (qMo 0)), (1, .int p1), (2, .int u1.1), (3, .int u1.2)] dX8_allNow_140
            rw [← (Option.some.inj hf)] at h9
            exact h9
abbrev rmMo_all : Room := { frames := 8, cells := 0, slots := 0, locals := 186 }
theorem wd_yX8_all : wdV yX8_all cX8_all 2 (some .int) 1 := ⟨wc_yX8_all, wi_yX8_all, wse_yX8_all, wini_X8, by decide +kernel, by decide +kernel, by decide +kernel⟩
set_option maxHeartbeats 4000000 in
set_option maxRecDepth 100000 in
theorem kMo_all (l : Launch) (G : wG) (qMo : Nat → Nat) (p1 : Int32) (mo_all : Nat → Int32) (mo_past : Nat → Int32) (mo_aside : Nat → Int32) (mo_states : Int32) (mo_refused : Nat → Int32) (mo_causeKind : Int32) (mo_causeOrder : Int32) (mo_corner : Nat → Int32) (mo_linkVotes : Nat → Int32) (mo_linkE : Nat → Int32) (mo_linkF : Nat → Int32) (mo_follower : Nat → Int32) (mo_ahead : Nat → Int32) (mo_least : Nat → Int32) (mo_seam : Nat → Int32) (mo_above : Int64) (mo_below : Int64) (mo_text : Nat → Int32) (mo_textLong : Int32) (mo_place : Int32) (mo_value : Int32) (mo_numbers : Nat → Int32) (mo_not : Int32) (o : Int32 × (Nat → Int32) × (Nat → Int32) × (Nat → Int32) × (Nat → Int32) × (Nat → Int32) × (Nat → Int32) × (Nat → Int32)) (hf : fMo_all p1 mo_all mo_refused mo_corner mo_linkVotes mo_linkE mo_linkF mo_follower mo_ahead = some o) : Ct G l yX8_all cX8_all 2 (some .int) rmMo_all [.ref (qMo 0), .int p1] (gMo G qMo mo_all mo_past mo_aside mo_states mo_refused mo_causeKind mo_causeOrder mo_corner mo_linkVotes mo_linkE mo_linkF mo_follower mo_ahead mo_least mo_seam mo_above mo_below mo_text mo_textLong mo_place mo_value mo_numbers mo_not) (some (.int o.1)) (gMo G qMo mo_all mo_past mo_aside mo_states o.2.1 mo_causeKind mo_causeOrder o.2.2.1 o.2.2.2.1 o.2.2.2.2.1 o.2.2.2.2.2.1 o.2.2.2.2.2.2.1 o.2.2.2.2.2.2.2 mo_least mo_seam mo_above mo_below mo_text mo_textLong mo_place mo_value mo_numbers mo_not) := by
  refine Ct.ofI (by decide +kernel) (Nat.le_of_ble_eq_true rfl) (fun p e s m args below meth c A Q E hret => ?_)
  unfold fMo_all at hf
  show V G p l e rmMo_all s m args below meth c 2 A Q 0 0 (gMo G qMo mo_all mo_past mo_aside mo_states mo_refused mo_causeKind mo_causeOrder mo_corner mo_linkVotes mo_linkE mo_linkF mo_follower mo_ahead mo_least mo_seam mo_above mo_below mo_text mo_textLong mo_place mo_value mo_numbers mo_not) 0 [(0, .ref (qMo 0)), (1, .int p1)] []
  refine V_iload_n E 1 rfl dX8_all_0 ?_
  refine V_i2l E dX8_all_1 ?_
  refine V_lconst E (v := (0 : Int64)) dX8_all_2 (by decide) ?_
  refine V_ldc2 E (v := (5 : Int64)) dX8_all_3 kX8_102 ?_
  obtain ⟨u1, hu1, hf⟩ := bd hf
  refine V_fr0 E (Rn_S E (rest := []) mlX8_63 wd_yX8_in (kMo_in l G p1.toInt64 (0 : Int64) (5 : Int64) u1 hu1) ⟨rfl, rfl, Nat.le_of_ble_eq_true rfl, Nat.le_of_ble_eq_true rfl⟩ rfl rfl (Nat.le_of_ble_eq_true rfl) dX8_all_6) ?_
  show V G p l e rmMo_all s m args below meth c 2 A Q 0 0 (gMo G qMo mo_all mo_past mo_aside mo_states mo_refused mo_causeKind mo_causeOrder mo_corner mo_linkVotes mo_linkE mo_linkF mo_follower mo_ahead mo_least mo_seam mo_above mo_below mo_text mo_textLong mo_place mo_value mo_numbers mo_not) 9 [(0, .ref (qMo 0)), (1, .int p1)] [.int u1]
  refine V_if_ne E (tgt := 19) dX8_all_9 (by decide) (fun hc2 => ?_) (fun hc2 => ?_)
  · have hf := iq hc2 hf
    refine V_aload_n E 0 rfl dX8_all_19 ?_
    obtain ⟨u3, hu3, hf⟩ := bd hf
    refine V_frW E (Rn_V E (rest := []) mlX8_196 wd_yX8_laysChain (kMo_laysChain l G qMo mo_all mo_past mo_aside mo_states mo_refused mo_causeKind mo_causeOrder mo_corner mo_linkVotes mo_linkE mo_linkF mo_follower mo_ahead mo_least mo_seam mo_above mo_below mo_text mo_textLong mo_place mo_value mo_numbers mo_not u3 hu3) ⟨rfl, rfl, Nat.le_of_ble_eq_true rfl, Nat.le_of_ble_eq_true rfl⟩ 0 rfl rfl rfl rfl rfl (Nat.le_of_ble_eq_true rfl) dX8_all_20) ?_
    show V G p l e rmMo_all s m args below meth c 2 A Q 0 0 (gMo G qMo mo_all mo_past mo_aside mo_states mo_refused mo_causeKind mo_causeOrder u3.1 u3.2.1 u3.2.2.1 u3.2.2.2.1 u3.2.2.2.2.1 u3.2.2.2.2.2 mo_least mo_seam mo_above mo_below mo_text mo_textLong mo_place mo_value mo_numbers mo_not) 23 [(0, .ref (qMo 0)), (1, .int p1)] []
    refine V_aload_n E 0 rfl dX8_all_23 ?_
    refine V_iload_n E 1 rfl dX8_all_24 ?_
    obtain ⟨u4, hu4, hf⟩ := bd hf
    refine V_frW E (Rn_V E (rest := []) mlX8_222 wd_yX8_allNow (kMo_allNow l G qMo p1 mo_all mo_past mo_aside mo_states mo_refused mo_causeKind mo_causeOrder u3.1 u3.2.1 u3.2.2.1 u3.2.2.2.1 u3.2.2.2.2.1 u3.2.2.2.2.2 mo_least mo_seam mo_above mo_below mo_text mo_textLong mo_place mo_value mo_numbers mo_not u4 hu4) ⟨rfl, rfl, Nat.le_of_ble_eq_true rfl, Nat.le_of_ble_eq_true rfl⟩ 0 rfl rfl rfl rfl rfl (Nat.le_of_ble_eq_true rfl) dX8_all_25) ?_
    show V G p l e rmMo_all s m args below meth c 2 A Q 0 0 (gMo G qMo mo_all mo_past mo_aside mo_states mo_refused mo_causeKind mo_causeOrder u3.1 u3.2.1 u3.2.2.1 u3.2.2.2.1 u3.2.2.2.2.1 u3.2.2.2.2.2 mo_least mo_seam mo_above mo_below mo_text mo_textLong mo_place mo_value mo_numbers mo_not) 28 [(0, .ref (qMo 0)), (1, .int p1)] [.int u4]
    have h9 := hret 28 [(0, .ref (qMo 0)), (1, .int p1)] dX8_all_28
    rw [← (Option.some.inj hf)] at h9
    exact h9
  · have hf := ip hc2 hf
    refine V_aload_n E 0 rfl dX8_all_12 ?_
    refine V_bipush E (v := (-2 : Int32)) dX8_all_13 (by decide) ?_
    obtain ⟨u5, hu5, hf⟩ := bd hf
    refine V_frW E (Rn_V E (rest := []) mlX8_91 wd_yX8_refuses (kMo_refuses l G qMo (-2 : Int32) mo_all mo_past mo_aside mo_states mo_refused mo_causeKind mo_causeOrder mo_corner mo_linkVotes mo_linkE mo_linkF mo_follower mo_ahead mo_least mo_seam mo_above mo_below mo_text mo_textLong mo_place mo_value mo_numbers mo_not u5 hu5) ⟨rfl, rfl, Nat.le_of_ble_eq_true rfl, Nat.le_of_ble_eq_true rfl⟩ 0 rfl rfl rfl rfl rfl (Nat.le_of_ble_eq_true rfl) dX8_all_15) ?_
    show V G p l e rmMo_all s m args below meth c 2 A Q 0 0 (gMo G qMo mo_all mo_past mo_aside mo_states u5.2 mo_causeKind mo_causeOrder mo_corner mo_linkVotes mo_linkE mo_linkF mo_follower mo_ahead mo_least mo_seam mo_above mo_below mo_text mo_textLong mo_place mo_value mo_numbers mo_not) 18 [(0, .ref (qMo 0)), (1, .int p1)] [.int u5.1]
    have h9 := hret 18 [(0, .ref (qMo 0)), (1, .int p1)] dX8_all_18
    rw [← (Option.some.inj hf)] at h9
    exact h9
abbrev rmMo_floorBy : Room := { frames := 0, cells := 0, slots := 0, locals := 0 }
theorem wd_yX8_floorBy : wdS yX8_floorBy cX8_floorBy 3 (some .int) 2 := ⟨wc_yX8_floorBy, wst_yX8_floorBy, wini_X8, by decide +kernel, by decide +kernel, by decide +kernel⟩
set_option maxHeartbeats 4000000 in
set_option maxRecDepth 100000 in
theorem kMo_floorBy (l : Launch) (G : wG) (p0 : Int32) (p1 : Int32) (o : Int32) (hf : fMo_floorBy p0 p1 = some o) : Ct G l yX8_floorBy cX8_floorBy 3 (some .int) rmMo_floorBy [.int p0, .int p1] [] (some (.int o)) [] := by
  refine Ct.ofI (by decide +kernel) (Nat.le_of_ble_eq_true rfl) (fun p e s m args below meth c A Q E hret => ?_)
  unfold fMo_floorBy at hf
  show V G p l e rmMo_floorBy s m args below meth c 3 A Q 0 0 [] 0 [(0, .int p0), (1, .int p1)] []
  refine V_iload_n E 0 rfl dX8_floorBy_0 ?_
  refine V_iload_n E 1 rfl dX8_floorBy_1 ?_
  obtain ⟨hz1, hf⟩ := asr_ok hf
  refine V_idiv E dX8_floorBy_2 hz1 ?_
  refine V_istore_n E (lv' := [(0, .int p0), (1, .int p1), (2, .int (p0 / p1))]) dX8_floorBy_3 (by decide) rfl ?_
  refine V_iload_n E 0 rfl dX8_floorBy_4 ?_
  refine V_iload_n E 1 rfl dX8_floorBy_5 ?_
  obtain ⟨hz2, hf⟩ := asr_ok hf
  refine V_irem E dX8_floorBy_6 hz2 ?_
  refine V_if_ge E (tgt := 16) dX8_floorBy_7 (by decide) (fun hc3 => ?_) (fun hc3 => ?_)
  · have hf := ip hc3 hf
    refine V_iload_n E 2 rfl dX8_floorBy_16 ?_
    have h9 := hret 17 [(0, .int p0), (1, .int p1), (2, .int (p0 / p1))] dX8_floorBy_17
    rw [← (Option.some.inj hf)] at h9
    exact h9
  · have hf := iq hc3 hf
    refine V_iload_n E 2 rfl dX8_floorBy_10 ?_
    refine V_iconst E (v := (1 : Int32)) dX8_floorBy_11 (by decide) ?_
    refine V_isub E dX8_floorBy_12 ?_
    refine V_goto E (tgt := 17) dX8_floorBy_13 (by decide) ?_
    have h9 := hret 17 [(0, .int p0), (1, .int p1), (2, .int (p0 / p1))] dX8_floorBy_17
    rw [← (Option.some.inj hf)] at h9
    exact h9
abbrev rmMo_place : Room := { frames := 8, cells := 0, slots := 0, locals := 186 }
theorem wd_yX8_place : wdV yX8_place cX8_place 7 (some .int) 2 := ⟨wc_yX8_place, wi_yX8_place, wse_yX8_place, wini_X8, by decide +kernel, by decide +kernel, by decide +kernel⟩
set_option maxHeartbeats 4000000 in
set_option maxRecDepth 100000 in
theorem kMo_place (l : Launch) (G : wG) (qMo : Nat → Nat) (p1 : Int32) (p2 : Int32) (mo_all : Nat → Int32) (mo_past : Nat → Int32) (mo_aside : Nat → Int32) (mo_states : Int32) (mo_refused : Nat → Int32) (mo_causeKind : Int32) (mo_causeOrder : Int32) (mo_corner : Nat → Int32) (mo_linkVotes : Nat → Int32) (mo_linkE : Nat → Int32) (mo_linkF : Nat → Int32) (mo_follower : Nat → Int32) (mo_ahead : Nat → Int32) (mo_least : Nat → Int32) (mo_seam : Nat → Int32) (mo_above : Int64) (mo_below : Int64) (mo_text : Nat → Int32) (mo_textLong : Int32) (mo_place : Int32) (mo_value : Int32) (mo_numbers : Nat → Int32) (mo_not : Int32) (o : Int32 × (Nat → Int32) × (Nat → Int32) × (Nat → Int32) × (Nat → Int32) × (Nat → Int32) × (Nat → Int32) × (Nat → Int32)) (hf : fMo_place p1 p2 mo_all mo_refused mo_corner mo_linkVotes mo_linkE mo_linkF mo_follower mo_ahead = some o) : Ct G l yX8_place cX8_place 7 (some .int) rmMo_place [.ref (qMo 0), .int p1, .int p2] (gMo G qMo mo_all mo_past mo_aside mo_states mo_refused mo_causeKind mo_causeOrder mo_corner mo_linkVotes mo_linkE mo_linkF mo_follower mo_ahead mo_least mo_seam mo_above mo_below mo_text mo_textLong mo_place mo_value mo_numbers mo_not) (some (.int o.1)) (gMo G qMo mo_all mo_past mo_aside mo_states o.2.1 mo_causeKind mo_causeOrder o.2.2.1 o.2.2.2.1 o.2.2.2.2.1 o.2.2.2.2.2.1 o.2.2.2.2.2.2.1 o.2.2.2.2.2.2.2 mo_least mo_seam mo_above mo_below mo_text mo_textLong mo_place mo_value mo_numbers mo_not) := by
  refine Ct.ofI (by decide +kernel) (Nat.le_of_ble_eq_true rfl) (fun p e s m args below meth c A Q E hret => ?_)
  unfold fMo_place at hf
  show V G p l e rmMo_place s m args below meth c 7 A Q 0 0 (gMo G qMo mo_all mo_past mo_aside mo_states mo_refused mo_causeKind mo_causeOrder mo_corner mo_linkVotes mo_linkE mo_linkF mo_follower mo_ahead mo_least mo_seam mo_above mo_below mo_text mo_textLong mo_place mo_value mo_numbers mo_not) 0 [(0, .ref (qMo 0)), (1, .int p1), (2, .int p2)] []
  refine V_aload_n E 0 rfl dX8_place_0 ?_
  refine V_iload_n E 1 rfl dX8_place_1 ?_
  obtain ⟨u1, hu1, hf⟩ := bd hf
  refine V_frW E (Rn_V E (rest := []) mlX8_128 wd_yX8_isPicture (kMo_isPicture l G qMo p1 mo_all mo_past mo_aside mo_states mo_refused mo_causeKind mo_causeOrder mo_corner mo_linkVotes mo_linkE mo_linkF mo_follower mo_ahead mo_least mo_seam mo_above mo_below mo_text mo_textLong mo_place mo_value mo_numbers mo_not u1 hu1) ⟨rfl, rfl, Nat.le_of_ble_eq_true rfl, Nat.le_of_ble_eq_true rfl⟩ 0 rfl rfl rfl rfl rfl (Nat.le_of_ble_eq_true rfl) dX8_place_2) ?_
  show V G p l e rmMo_place s m args below meth c 7 A Q 0 0 (gMo G qMo mo_all mo_past mo_aside mo_states mo_refused mo_causeKind mo_causeOrder mo_corner mo_linkVotes mo_linkE mo_linkF mo_follower mo_ahead mo_least mo_seam mo_above mo_below mo_text mo_textLong mo_place mo_value mo_numbers mo_not) 5 [(0, .ref (qMo 0)), (1, .int p1), (2, .int p2)] [.int u1]
  refine V_if_eq E (tgt := 18) dX8_place_5 (by decide) (fun hc2 => ?_) (fun hc2 => ?_)
  · have hf := ip hc2 hf
    refine V_aload_n E 0 rfl dX8_place_18 ?_
    refine V_bipush E (v := (-2 : Int32)) dX8_place_19 (by decide) ?_
    obtain ⟨u3, hu3, hf⟩ := bd hf
    refine V_frW E (Rn_V E (rest := []) mlX8_91 wd_yX8_refuses (kMo_refuses l G qMo (-2 : Int32) mo_all mo_past mo_aside mo_states mo_refused mo_causeKind mo_causeOrder mo_corner mo_linkVotes mo_linkE mo_linkF mo_follower mo_ahead mo_least mo_seam mo_above mo_below mo_text mo_textLong mo_place mo_value mo_numbers mo_not u3 hu3) ⟨rfl, rfl, Nat.le_of_ble_eq_true rfl, Nat.le_of_ble_eq_true rfl⟩ 0 rfl rfl rfl rfl rfl (Nat.le_of_ble_eq_true rfl) dX8_place_21) ?_
    show V G p l e rmMo_place s m args below meth c 7 A Q 0 0 (gMo G qMo mo_all mo_past mo_aside mo_states u3.2 mo_causeKind mo_causeOrder mo_corner mo_linkVotes mo_linkE mo_linkF mo_follower mo_ahead mo_least mo_seam mo_above mo_below mo_text mo_textLong mo_place mo_value mo_numbers mo_not) 24 [(0, .ref (qMo 0)), (1, .int p1), (2, .int p2)] [.int u3.1]
    have h9 := hret 24 [(0, .ref (qMo 0)), (1, .int p1), (2, .int p2)] dX8_place_24
    rw [← (Option.some.inj hf)] at h9
    exact h9
  · have hf := iq hc2 hf
    refine V_iload_n E 2 rfl dX8_place_8 ?_
    refine V_i2l E dX8_place_9 ?_
    refine V_lconst E (v := (0 : Int64)) dX8_place_10 (by decide) ?_
    refine V_lconst E (v := (1 : Int64)) dX8_place_11 (by decide) ?_
    obtain ⟨u4, hu4, hf⟩ := bd hf
    refine V_fr0 E (Rn_S E (rest := []) mlX8_63 wd_yX8_in (kMo_in l G p2.toInt64 (0 : Int64) (1 : Int64) u4 hu4) ⟨rfl, rfl, Nat.le_of_ble_eq_true rfl, Nat.le_of_ble_eq_true rfl⟩ rfl rfl (Nat.le_of_ble_eq_true rfl) dX8_place_12) ?_
    show V G p l e rmMo_place s m args below meth c 7 A Q 0 0 (gMo G qMo mo_all mo_past mo_aside mo_states mo_refused mo_causeKind mo_causeOrder mo_corner mo_linkVotes mo_linkE mo_linkF mo_follower mo_ahead mo_least mo_seam mo_above mo_below mo_text mo_textLong mo_place mo_value mo_numbers mo_not) 15 [(0, .ref (qMo 0)), (1, .int p1), (2, .int p2)] [.int u4]
    refine V_if_ne E (tgt := 25) dX8_place_15 (by decide) (fun hc5 => ?_) (fun hc5 => ?_)
    · have hf := iq hc5 hf
      refine V_aload_n E 0 rfl dX8_place_25 ?_
      obtain ⟨u6, hu6, hf⟩ := bd hf
      refine V_frW E (Rn_V E (rest := []) mlX8_196 wd_yX8_laysChain (kMo_laysChain l G qMo mo_all mo_past mo_aside mo_states mo_refused mo_causeKind mo_causeOrder mo_corner mo_linkVotes mo_linkE mo_linkF mo_follower mo_ahead mo_least mo_seam mo_above mo_below mo_text mo_textLong mo_place mo_value mo_numbers mo_not u6 hu6) ⟨rfl, rfl, Nat.le_of_ble_eq_true rfl, Nat.le_of_ble_eq_true rfl⟩ 0 rfl rfl rfl rfl rfl (Nat.le_of_ble_eq_true rfl) dX8_place_26) ?_
      show V G p l e rmMo_place s m args below meth c 7 A Q 0 0 (gMo G qMo mo_all mo_past mo_aside mo_states mo_refused mo_causeKind mo_causeOrder u6.1 u6.2.1 u6.2.2.1 u6.2.2.2.1 u6.2.2.2.2.1 u6.2.2.2.2.2 mo_least mo_seam mo_above mo_below mo_text mo_textLong mo_place mo_value mo_numbers mo_not) 29 [(0, .ref (qMo 0)), (1, .int p1), (2, .int p2)] []
      refine V_aload_n E 0 rfl dX8_place_29 ?_
      obtain ⟨u7, hu7, hf⟩ := bd hf
      refine V_frW E (Rn_V E (rest := []) mlX8_214 wd_yX8_isClosed (kMo_isClosed l G qMo mo_all mo_past mo_aside mo_states mo_refused mo_causeKind mo_causeOrder u6.1 u6.2.1 u6.2.2.1 u6.2.2.2.1 u6.2.2.2.2.1 u6.2.2.2.2.2 mo_least mo_seam mo_above mo_below mo_text mo_textLong mo_place mo_value mo_numbers mo_not u7 hu7) ⟨rfl, rfl, Nat.le_of_ble_eq_true rfl, Nat.le_of_ble_eq_true rfl⟩ 0 rfl rfl rfl rfl rfl (Nat.le_of_ble_eq_true rfl) dX8_place_30) ?_
      show V G p l e rmMo_place s m args below meth c 7 A Q 0 0 (gMo G qMo mo_all mo_past mo_aside mo_states mo_refused mo_causeKind mo_causeOrder u6.1 u6.2.1 u6.2.2.1 u6.2.2.2.1 u6.2.2.2.2.1 u6.2.2.2.2.2 mo_least mo_seam mo_above mo_below mo_text mo_textLong mo_place mo_value mo_numbers mo_not) 33 [(0, .ref (qMo 0)), (1, .int p1), (2, .int p2)] [.int u7]
      refine V_if_ne E (tgt := 43) dX8_place_33 (by decide) (fun hc8 => ?_) (fun hc8 => ?_)
      · have hf := iq hc8 hf
        refine V_iconst E (v := (0 : Int32)) dX8_place_43 (by decide) ?_
        refine V_istore_n E (lv' := [(0, .ref (qMo 0)), (1, .int p1), (2, .int p2), (3, .int (0 : Int32))]) dX8_place_44 (by decide) rfl ?_
        refine V_iconst E (v := (0 : Int32)) dX8_place_45 (by decide) ?_
        refine V_istore E (lv' := [(0, .ref (qMo 0)), (1, .int p1), (2, .int p2), (3, .int (0 : Int32)), (4, .int (0 : Int32))]) dX8_place_46 (by decide) rfl ?_
        refine V_iconst E (v := (0 : Int32)) dX8_place_48 (by decide) ?_
        refine V_istore E (lv' := [(0, .ref (qMo 0)), (1, .int p1), (2, .int p2), (3, .int (0 : Int32)), (4, .int (0 : Int32)), (5, .int (0 : Int32))]) dX8_place_49 (by decide) rfl ?_
        refine V_iconst E (v := (0 : Int32)) dX8_place_51 (by decide) ?_
        refine V_istore E (lv' := [(0, .ref (qMo 0)), (1, .int p1), (2, .int p2), (3, .int (0 : Int32)), (4, .int (0 : Int32)), (5, .int (0 : Int32)), (6, .int (0 : Int32))]) dX8_place_52 (by decide) rfl ?_
        have L54 : ∀ (n : Nat) (a54_3 : Int32) (a54_4 : Int32) (a54_5 : Int32) (a54_6 : Int32) (u : Int32 × Int32 × Int32), fMo_place_L54 p1 u6.2.2.1 u6.2.2.2.1 u6.2.2.2.2.1 n a54_3 a54_4 a54_5 a54_6 = some u → (V G p l e rmMo_place s m args below meth c 7 A Q 0 0 (gMo G qMo mo_all mo_past mo_aside mo_states mo_refused mo_causeKind mo_causeOrder u6.1 u6.2.1 u6.2.2.1 u6.2.2.2.1 u6.2.2.2.2.1 u6.2.2.2.2.2 mo_least mo_seam mo_above mo_below mo_text mo_textLong mo_place mo_value mo_numbers mo_not) 95 [(0, .ref (qMo 0)), (2, .int p2), (3, .int u.1), (4, .int u.2.1), (5, .int u.2.2)] []) → V G p l e rmMo_place s m args below meth c 7 A Q 0 0 (gMo G qMo mo_all mo_past mo_aside mo_states mo_refused mo_causeKind mo_causeOrder u6.1 u6.2.1 u6.2.2.1 u6.2.2.2.1 u6.2.2.2.2.1 u6.2.2.2.2.2 mo_least mo_seam mo_above mo_below mo_text mo_textLong mo_place mo_value mo_numbers mo_not) 54 [(0, .ref (qMo 0)), (1, .int p1), (2, .int p2), (3, .int a54_3), (4, .int a54_4), (5, .int a54_5), (6, .int a54_6)] [] := by
          intro n
          induction n with
          | zero =>
            intro a54_3 a54_4 a54_5 a54_6 u hf hk
            rw [fMo_place_L54] at hf
            cases hf
          | succ n ih =>
            intro a54_3 a54_4 a54_5 a54_6 u hf hk
            rw [fMo_place_L54] at hf
            exact ih a54_3 a54_4 a54_5 a54_6 _ hf hk
        obtain ⟨u9, hu9, hf⟩ := bd hf
        refine L54 FU (0 : Int32) (0 : Int32) (0 : Int32) (0 : Int32) u9 hu9 ?_
        refine V_iconst E (v := (2 : Int32)) dX8_place_95 (by decide) ?_
        refine V_aload_n E 0 rfl dX8_place_96 ?_
        refine V_iconst E (v := (1 : Int32)) dX8_place_97 (by decide) ?_
        obtain ⟨u10, hu10, hf⟩ := bd hf
        refine V_frW E (Rn_V E (rest := [.int (2 : Int32)]) mlX8_218 wd_yX8_sumOf (kMo_sumOf l G qMo (1 : Int32) mo_all mo_past mo_aside mo_states mo_refused mo_causeKind mo_causeOrder u6.1 u6.2.1 u6.2.2.1 u6.2.2.2.1 u6.2.2.2.2.1 u6.2.2.2.2.2 mo_least mo_seam mo_above mo_below mo_text mo_textLong mo_place mo_value mo_numbers mo_not u10 hu10) ⟨rfl, rfl, Nat.le_of_ble_eq_true rfl, Nat.le_of_ble_eq_true rfl⟩ 0 rfl rfl rfl rfl rfl (Nat.le_of_ble_eq_true rfl) dX8_place_98) ?_
        show V G p l e rmMo_place s m args below meth c 7 A Q 0 0 (gMo G qMo mo_all mo_past mo_aside mo_states mo_refused mo_causeKind mo_causeOrder u6.1 u6.2.1 u6.2.2.1 u6.2.2.2.1 u6.2.2.2.2.1 u6.2.2.2.2.2 mo_least mo_seam mo_above mo_below mo_text mo_textLong mo_place mo_value mo_numbers mo_not) 101 [(0, .ref (qMo 0)), (2, .int p2), (3, .int u9.1), (4, .int u9.2.1), (5, .int u9.2.2)] [.int u10, .int (2 : Int32)]
        refine V_imul E dX8_place_101 ?_
        refine V_iload E 4 rfl dX8_place_102 ?_
        refine V_imul E dX8_place_104 ?_
        refine V_aload_n E 0 rfl dX8_place_105 ?_
        obtain ⟨u11, hu11, hf⟩ := bd hf
        refine V_frW E (Rn_V E (rest := [.int (((2 : Int32) * u10) * u9.2.2)]) mlX8_59 wd_yX8_many (kMo_many l G qMo mo_all mo_past mo_aside mo_states mo_refused mo_causeKind mo_causeOrder u6.1 u6.2.1 u6.2.2.1 u6.2.2.2.1 u6.2.2.2.2.1 u6.2.2.2.2.2 mo_least mo_seam mo_above mo_below mo_text mo_textLong mo_place mo_value mo_numbers mo_not u11 hu11) ⟨rfl, rfl, Nat.le_of_ble_eq_true rfl, Nat.le_of_ble_eq_true rfl⟩ 0 rfl rfl rfl rfl rfl (Nat.le_of_ble_eq_true rfl) dX8_place_106) ?_
        show V G p l e rmMo_place s m args below meth c 7 A Q 0 0 (gMo G qMo mo_all mo_past mo_aside mo_states mo_refused mo_causeKind mo_causeOrder u6.1 u6.2.1 u6.2.2.1 u6.2.2.2.1 u6.2.2.2.2.1 u6.2.2.2.2.2 mo_least mo_seam mo_above mo_below mo_text mo_textLong mo_place mo_value mo_numbers mo_not) 109 [(0, .ref (qMo 0)), (2, .int p2), (3, .int u9.1), (4, .int u9.2.1), (5, .int u9.2.2)] [.int u11, .int (((2 : Int32) * u10) * u9.2.2)]
        refine V_iadd E dX8_place_109 ?_
        refine V_iconst E (v := (2 : Int32)) dX8_place_110 (by decide) ?_
        refine V_aload_n E 0 rfl dX8_place_111 ?_
        obtain ⟨u12, hu12, hf⟩ := bd hf
        refine V_frW E (Rn_V E (rest := [.int (2 : Int32), .int ((((2 : Int32) * u10) * u9.2.2) + u11)]) mlX8_59 wd_yX8_many (kMo_many l G qMo mo_all mo_past mo_aside mo_states mo_refused mo_causeKind mo_causeOrder u6.1 u6.2.1 u6.2.2.1 u6.2.2.2.1 u6.2.2.2.2.1 u6.2.2.2.2.2 mo_least mo_seam mo_above mo_below mo_text mo_textLong mo_place mo_value mo_numbers mo_not u12 hu12) ⟨rfl, rfl, Nat.le_of_ble_eq_true rfl, Nat.le_of_ble_eq_true rfl⟩ 0 rfl rfl rfl rfl rfl (Nat.le_of_ble_eq_true rfl) dX8_place_112) ?_
        show V G p l e rmMo_place s m args below meth c 7 A Q 0 0 (gMo G qMo mo_all mo_past mo_aside mo_states mo_refused mo_causeKind mo_causeOrder u6.1 u6.2.1 u6.2.2.1 u6.2.2.2.1 u6.2.2.2.2.1 u6.2.2.2.2.2 mo_least mo_seam mo_above mo_below mo_text mo_textLong mo_place mo_value mo_numbers mo_not) 115 [(0, .ref (qMo 0)), (2, .int p2), (3, .int u9.1), (4, .int u9.2.1), (5, .int u9.2.2)] [.int u12, .int (2 : Int32), .int ((((2 : Int32) * u10) * u9.2.2) + u11)]
        refine V_imul E dX8_place_115 ?_
        obtain ⟨u13, hu13, hf⟩ := bd hf
        refine V_fr0 E (Rn_S E (rest := []) mlX8_225 wd_yX8_floorBy (kMo_floorBy l G ((((2 : Int32) * u10) * u9.2.2) + u11) ((2 : Int32) * u12) u13 hu13) ⟨rfl, rfl, Nat.le_of_ble_eq_true rfl, Nat.le_of_ble_eq_true rfl⟩ rfl rfl (Nat.le_of_ble_eq_true rfl) dX8_place_116) ?_
        show V G p l e rmMo_place s m args below meth c 7 A Q 0 0 (gMo G qMo mo_all mo_past mo_aside mo_states mo_refused mo_causeKind mo_causeOrder u6.1 u6.2.1 u6.2.2.1 u6.2.2.2.1 u6.2.2.2.2.1 u6.2.2.2.2.2 mo_least mo_seam mo_above mo_below mo_text mo_textLong mo_place mo_value mo_numbers mo_not) 119 [(0, .ref (qMo 0)), (2, .int p2), (3, .int u9.1), (4, .int u9.2.1), (5, .int u9.2.2)] [.int u13]
        refine V_istore E (lv' := [(0, .ref (qMo 0)), (2, .int p2), (3, .int u9.1), (4, .int u9.2.1), (5, .int u9.2.2), (6, .int u13)]) dX8_place_119 (by decide) rfl ?_
        refine V_iload_n E 1 rfl dX8_place_121 ?_
        refine V_if_ne E (tgt := 129) dX8_place_122 (by decide) (fun hc14 => ?_) (fun hc14 => ?_)
        · have hf := iq hc14 hf
          refine V_iload E 3 rfl dX8_place_129 ?_
          refine V_iload E 5 rfl dX8_place_131 ?_
          refine V_isub E dX8_place_133 ?_
          refine V_bipush E (v := (20 : Int32)) dX8_place_134 (by decide) ?_
          refine V_iadd E dX8_place_136 ?_
          have h9 := hret 137 [(0, .ref (qMo 0)), (2, .int p2), (3, .int u9.1), (4, .int u9.2.1), (5, .int u9.2.2), (6, .int u13)] dX8_place_137
          rw [← (Option.some.inj hf)] at h9
          exact h9
        · have hf := ip hc14 hf
          refine V_iload_n E 2 rfl dX8_place_125 ?_
          refine V_goto E (tgt := 137) dX8_place_126 (by decide) ?_
          have h9 := hret 137 [(0, .ref (qMo 0)), (2, .int p2), (3, .int u9.1), (4, .int u9.2.1), (5, .int u9.2.2), (6, .int u13)] dX8_place_137
          rw [← (Option.some.inj hf)] at h9
          exact h9
      · have hf := ip hc8 hf
        refine V_aload_n E 0 rfl dX8_place_36 ?_
        refine V_bipush E (v := (-3 : Int32)) dX8_place_37 (by decide) ?_
        obtain ⟨u15, hu15, hf⟩ := bd hf
        refine V_frW E (Rn_V E (rest := []) mlX8_91 wd_yX8_refuses (kMo_refuses l G qMo (-3 : Int32) mo_all mo_past mo_aside mo_states mo_refused mo_causeKind mo_causeOrder u6.1 u6.2.1 u6.2.2.1 u6.2.2.2.1 u6.2.2.2.2.1 u6.2.2.2.2.2 mo_least mo_seam mo_above mo_below mo_text mo_textLong mo_place mo_value mo_numbers mo_not u15 hu15) ⟨rfl, rfl, Nat.le_of_ble_eq_true rfl, Nat.le_of_ble_eq_true rfl⟩ 0 rfl rfl rfl rfl rfl (Nat.le_of_ble_eq_true rfl) dX8_place_39) ?_
        show V G p l e rmMo_place s m args below meth c 7 A Q 0 0 (gMo G qMo mo_all mo_past mo_aside mo_states u15.2 mo_causeKind mo_causeOrder u6.1 u6.2.1 u6.2.2.1 u6.2.2.2.1 u6.2.2.2.2.1 u6.2.2.2.2.2 mo_least mo_seam mo_above mo_below mo_text mo_textLong mo_place mo_value mo_numbers mo_not) 42 [(0, .ref (qMo 0)), (1, .int p1), (2, .int p2)] [.int u15.1]
        have h9 := hret 42 [(0, .ref (qMo 0)), (1, .int p1), (2, .int p2)] dX8_place_42
        rw [← (Option.some.inj hf)] at h9
        exact h9
    · have hf := ip hc5 hf
      refine V_aload_n E 0 rfl dX8_place_18 ?_
      refine V_bipush E (v := (-2 : Int32)) dX8_place_19 (by decide) ?_
      obtain ⟨u16, hu16, hf⟩ := bd hf
      refine V_frW E (Rn_V E (rest := []) mlX8_91 wd_yX8_refuses (kMo_refuses l G qMo (-2 : Int32) mo_all mo_past mo_aside mo_states mo_refused mo_causeKind mo_causeOrder mo_corner mo_linkVotes mo_linkE mo_linkF mo_follower mo_ahead mo_least mo_seam mo_above mo_below mo_text mo_textLong mo_place mo_value mo_numbers mo_not u16 hu16) ⟨rfl, rfl, Nat.le_of_ble_eq_true rfl, Nat.le_of_ble_eq_true rfl⟩ 0 rfl rfl rfl rfl rfl (Nat.le_of_ble_eq_true rfl) dX8_place_21) ?_
      show V G p l e rmMo_place s m args below meth c 7 A Q 0 0 (gMo G qMo mo_all mo_past mo_aside mo_states u16.2 mo_causeKind mo_causeOrder mo_corner mo_linkVotes mo_linkE mo_linkF mo_follower mo_ahead mo_least mo_seam mo_above mo_below mo_text mo_textLong mo_place mo_value mo_numbers mo_not) 24 [(0, .ref (qMo 0)), (1, .int p1), (2, .int p2)] [.int u16.1]
      have h9 := hret 24 [(0, .ref (qMo 0)), (1, .int p1), (2, .int p2)] dX8_place_24
      rw [← (Option.some.inj hf)] at h9
      exact h9
abbrev rmMo_differs : Room := { frames := 1, cells := 0, slots := 0, locals := 23 }
theorem wd_yX8_differs : wdV yX8_differs cX8_differs 4 (some .int) 3 := ⟨wc_yX8_differs, wi_yX8_differs, wse_yX8_differs, wini_X8, by decide +kernel, by decide +kernel, by decide +kernel⟩
set_option maxHeartbeats 4000000 in
set_option maxRecDepth 100000 in
theorem kMo_differs (l : Launch) (G : wG) (qMo : Nat → Nat) (p1 : Int32) (p2 : Int32) (p3 : Int32) (mo_all : Nat → Int32) (mo_past : Nat → Int32) (mo_aside : Nat → Int32) (mo_states : Int32) (mo_refused : Nat → Int32) (mo_causeKind : Int32) (mo_causeOrder : Int32) (mo_corner : Nat → Int32) (mo_linkVotes : Nat → Int32) (mo_linkE : Nat → Int32) (mo_linkF : Nat → Int32) (mo_follower : Nat → Int32) (mo_ahead : Nat → Int32) (mo_least : Nat → Int32) (mo_seam : Nat → Int32) (mo_above : Int64) (mo_below : Int64) (mo_text : Nat → Int32) (mo_textLong : Int32) (mo_place : Int32) (mo_value : Int32) (mo_numbers : Nat → Int32) (mo_not : Int32) (o : Int32) (hf : fMo_differs p1 p2 p3 mo_all mo_linkE mo_linkF mo_follower = some o) : Ct G l yX8_differs cX8_differs 4 (some .int) rmMo_differs [.ref (qMo 0), .int p1, .int p2, .int p3] (gMo G qMo mo_all mo_past mo_aside mo_states mo_refused mo_causeKind mo_causeOrder mo_corner mo_linkVotes mo_linkE mo_linkF mo_follower mo_ahead mo_least mo_seam mo_above mo_below mo_text mo_textLong mo_place mo_value mo_numbers mo_not) (some (.int o)) (gMo G qMo mo_all mo_past mo_aside mo_states mo_refused mo_causeKind mo_causeOrder mo_corner mo_linkVotes mo_linkE mo_linkF mo_follower mo_ahead mo_least mo_seam mo_above mo_below mo_text mo_textLong mo_place mo_value mo_numbers mo_not) := by
  refine Ct.ofI (by decide +kernel) (Nat.le_of_ble_eq_true rfl) (fun p e s m args below meth c A Q E hret => ?_)
  unfold fMo_differs at hf
  show V G p l e rmMo_differs s m args below meth c 4 A Q 0 0 (gMo G qMo mo_all mo_past mo_aside mo_states mo_refused mo_causeKind mo_causeOrder mo_corner mo_linkVotes mo_linkE mo_linkF mo_follower mo_ahead mo_least mo_seam mo_above mo_below mo_text mo_textLong mo_place mo_value mo_numbers mo_not) 0 [(0, .ref (qMo 0)), (1, .int p1), (2, .int p2), (3, .int p3)] []
  refine V_aload_n E 0 rfl dX8_differs_0 ?_
  refine V_iload_n E 1 rfl dX8_differs_1 ?_
  refine V_iload_n E 2 rfl dX8_differs_2 ?_
  refine V_iload_n E 3 rfl dX8_differs_3 ?_
  obtain ⟨u1, hu1, hf⟩ := bd hf
  refine V_frW E (Rn_V E (rest := []) mlX8_143 wd_yX8_at (kMo_at l G qMo p1 p2 p3 mo_all mo_past mo_aside mo_states mo_refused mo_causeKind mo_causeOrder mo_corner mo_linkVotes mo_linkE mo_linkF mo_follower mo_ahead mo_least mo_seam mo_above mo_below mo_text mo_textLong mo_place mo_value mo_numbers mo_not u1 hu1) ⟨rfl, rfl, Nat.le_of_ble_eq_true rfl, Nat.le_of_ble_eq_true rfl⟩ 0 rfl rfl rfl rfl rfl (Nat.le_of_ble_eq_true rfl) dX8_differs_4) ?_
  show V G p l e rmMo_differs s m args below meth c 4 A Q 0 0 (gMo G qMo mo_all mo_past mo_aside mo_states mo_refused mo_causeKind mo_causeOrder mo_corner mo_linkVotes mo_linkE mo_linkF mo_follower mo_ahead mo_least mo_seam mo_above mo_below mo_text mo_textLong mo_place mo_value mo_numbers mo_not) 7 [(0, .ref (qMo 0)), (1, .int p1), (2, .int p2), (3, .int p3)] [.int u1]
  refine V_aload_n E 0 rfl dX8_differs_7 ?_
  refine V_aload_n E 0 rfl dX8_differs_8 ?_
  refine gfX8_38 E 0 rfl rfl dX8_differs_9 ?_
  refine V_iload_n E 1 rfl dX8_differs_12 ?_
  obtain ⟨hi2, hf⟩ := asr_ok hf
  refine V_iald E 9 rfl hi2 dX8_differs_13 ?_
  refine V_iload_n E 2 rfl dX8_differs_14 ?_
  refine V_aload_n E 0 rfl dX8_differs_15 ?_
  refine V_iload_n E 1 rfl dX8_differs_16 ?_
  obtain ⟨u3, hu3, hf⟩ := bd hf
  refine V_frW E (Rn_V E (rest := [.int p2, .int (mo_follower p1.toNatClampNeg), .ref (qMo 0), .int u1]) mlX8_202 wd_yX8_eOf (kMo_eOf l G qMo p1 mo_all mo_past mo_aside mo_states mo_refused mo_causeKind mo_causeOrder mo_corner mo_linkVotes mo_linkE mo_linkF mo_follower mo_ahead mo_least mo_seam mo_above mo_below mo_text mo_textLong mo_place mo_value mo_numbers mo_not u3 hu3) ⟨rfl, rfl, Nat.le_of_ble_eq_true rfl, Nat.le_of_ble_eq_true rfl⟩ 0 rfl rfl rfl rfl rfl (Nat.le_of_ble_eq_true rfl) dX8_differs_17) ?_
  show V G p l e rmMo_differs s m args below meth c 4 A Q 0 0 (gMo G qMo mo_all mo_past mo_aside mo_states mo_refused mo_causeKind mo_causeOrder mo_corner mo_linkVotes mo_linkE mo_linkF mo_follower mo_ahead mo_least mo_seam mo_above mo_below mo_text mo_textLong mo_place mo_value mo_numbers mo_not) 20 [(0, .ref (qMo 0)), (1, .int p1), (2, .int p2), (3, .int p3)] [.int u3, .int p2, .int (mo_follower p1.toNatClampNeg), .ref (qMo 0), .int u1]
  refine V_isub E dX8_differs_20 ?_
  refine V_iload_n E 3 rfl dX8_differs_21 ?_
  refine V_aload_n E 0 rfl dX8_differs_22 ?_
  refine V_iload_n E 1 rfl dX8_differs_23 ?_
  obtain ⟨u4, hu4, hf⟩ := bd hf
  refine V_frW E (Rn_V E (rest := [.int p3, .int (p2 - u3), .int (mo_follower p1.toNatClampNeg), .ref (qMo 0), .int u1]) mlX8_205 wd_yX8_fOf (kMo_fOf l G qMo p1 mo_all mo_past mo_aside mo_states mo_refused mo_causeKind mo_causeOrder mo_corner mo_linkVotes mo_linkE mo_linkF mo_follower mo_ahead mo_least mo_seam mo_above mo_below mo_text mo_textLong mo_place mo_value mo_numbers mo_not u4 hu4) ⟨rfl, rfl, Nat.le_of_ble_eq_true rfl, Nat.le_of_ble_eq_true rfl⟩ 0 rfl rfl rfl rfl rfl (Nat.le_of_ble_eq_true rfl) dX8_differs_24) ?_
  show V G p l e rmMo_differs s m args below meth c 4 A Q 0 0 (gMo G qMo mo_all mo_past mo_aside mo_states mo_refused mo_causeKind mo_causeOrder mo_corner mo_linkVotes mo_linkE mo_linkF mo_follower mo_ahead mo_least mo_seam mo_above mo_below mo_text mo_textLong mo_place mo_value mo_numbers mo_not) 27 [(0, .ref (qMo 0)), (1, .int p1), (2, .int p2), (3, .int p3)] [.int u4, .int p3, .int (p2 - u3), .int (mo_follower p1.toNatClampNeg), .ref (qMo 0), .int u1]
  refine V_isub E dX8_differs_27 ?_
  obtain ⟨u5, hu5, hf⟩ := bd hf
  refine V_frW E (Rn_V E (rest := [.int u1]) mlX8_143 wd_yX8_at (kMo_at l G qMo (mo_follower p1.toNatClampNeg) (p2 - u3) (p3 - u4) mo_all mo_past mo_aside mo_states mo_refused mo_causeKind mo_causeOrder mo_corner mo_linkVotes mo_linkE mo_linkF mo_follower mo_ahead mo_least mo_seam mo_above mo_below mo_text mo_textLong mo_place mo_value mo_numbers mo_not u5 hu5) ⟨rfl, rfl, Nat.le_of_ble_eq_true rfl, Nat.le_of_ble_eq_true rfl⟩ 0 rfl rfl rfl rfl rfl (Nat.le_of_ble_eq_true rfl) dX8_differs_28) ?_
  show V G p l e rmMo_differs s m args below meth c 4 A Q 0 0 (gMo G qMo mo_all mo_past mo_aside mo_states mo_refused mo_causeKind mo_causeOrder mo_corner mo_linkVotes mo_linkE mo_linkF mo_follower mo_ahead mo_least mo_seam mo_above mo_below mo_text mo_textLong mo_place mo_value mo_numbers mo_not) 31 [(0, .ref (qMo 0)), (1, .int p1), (2, .int p2), (3, .int p3)] [.int u5, .int u1]
  refine V_isub E dX8_differs_31 ?_
  have h9 := hret 32 [(0, .ref (qMo 0)), (1, .int p1), (2, .int p2), (3, .int p3)] dX8_differs_32
  rw [← (Option.some.inj hf)] at h9
  exact h9
abbrev rmMo_hasRow : Room := { frames := 1, cells := 0, slots := 0, locals := 25 }
theorem wd_yX8_hasRow : wdV yX8_hasRow cX8_hasRow 3 (some .boolean) 2 := ⟨wc_yX8_hasRow, wi_yX8_hasRow, wse_yX8_hasRow, wini_X8, by decide +kernel, by decide +kernel, by decide +kernel⟩
set_option maxHeartbeats 4000000 in
set_option maxRecDepth 100000 in
theorem kMo_hasRow (l : Launch) (G : wG) (qMo : Nat → Nat) (p1 : Int32) (p2 : Int32) (mo_all : Nat → Int32) (mo_past : Nat → Int32) (mo_aside : Nat → Int32) (mo_states : Int32) (mo_refused : Nat → Int32) (mo_causeKind : Int32) (mo_causeOrder : Int32) (mo_corner : Nat → Int32) (mo_linkVotes : Nat → Int32) (mo_linkE : Nat → Int32) (mo_linkF : Nat → Int32) (mo_follower : Nat → Int32) (mo_ahead : Nat → Int32) (mo_least : Nat → Int32) (mo_seam : Nat → Int32) (mo_above : Int64) (mo_below : Int64) (mo_text : Nat → Int32) (mo_textLong : Int32) (mo_place : Int32) (mo_value : Int32) (mo_numbers : Nat → Int32) (mo_not : Int32) (o : Int32) (hf : fMo_hasRow p1 p2 mo_linkE mo_follower = some o) : Ct G l yX8_hasRow cX8_hasRow 3 (some .boolean) rmMo_hasRow [.ref (qMo 0), .int p1, .int p2] (gMo G qMo mo_all mo_past mo_aside mo_states mo_refused mo_causeKind mo_causeOrder mo_corner mo_linkVotes mo_linkE mo_linkF mo_follower mo_ahead mo_least mo_seam mo_above mo_below mo_text mo_textLong mo_place mo_value mo_numbers mo_not) (some (.int o)) (gMo G qMo mo_all mo_past mo_aside mo_states mo_refused mo_causeKind mo_causeOrder mo_corner mo_linkVotes mo_linkE mo_linkF mo_follower mo_ahead mo_least mo_seam mo_above mo_below mo_text mo_textLong mo_place mo_value mo_numbers mo_not) := by
  refine Ct.ofZ (by decide +kernel) (Nat.le_of_ble_eq_true rfl) (fun p e s m args below meth c A Q E hret => ?_)
  unfold fMo_hasRow at hf
  show V G p l e rmMo_hasRow s m args below meth c 3 A Q 0 0 (gMo G qMo mo_all mo_past mo_aside mo_states mo_refused mo_causeKind mo_causeOrder mo_corner mo_linkVotes mo_linkE mo_linkF mo_follower mo_ahead mo_least mo_seam mo_above mo_below mo_text mo_textLong mo_place mo_value mo_numbers mo_not) 0 [(0, .ref (qMo 0)), (1, .int p1), (2, .int p2)] []
  refine V_iload_n E 2 rfl dX8_hasRow_0 ?_
  refine V_i2l E dX8_hasRow_1 ?_
  refine V_lconst E (v := (0 : Int64)) dX8_hasRow_2 (by decide) ?_
  refine V_ldc2 E (v := (3 : Int64)) dX8_hasRow_3 kX8_67 ?_
  obtain ⟨u1, hu1, hf⟩ := bd hf
  refine V_fr0 E (Rn_S E (rest := []) mlX8_63 wd_yX8_in (kMo_in l G p2.toInt64 (0 : Int64) (3 : Int64) u1 hu1) ⟨rfl, rfl, Nat.le_of_ble_eq_true rfl, Nat.le_of_ble_eq_true rfl⟩ rfl rfl (Nat.le_of_ble_eq_true rfl) dX8_hasRow_6) ?_
  show V G p l e rmMo_hasRow s m args below meth c 3 A Q 0 0 (gMo G qMo mo_all mo_past mo_aside mo_states mo_refused mo_causeKind mo_causeOrder mo_corner mo_linkVotes mo_linkE mo_linkF mo_follower mo_ahead mo_least mo_seam mo_above mo_below mo_text mo_textLong mo_place mo_value mo_numbers mo_not) 9 [(0, .ref (qMo 0)), (1, .int p1), (2, .int p2)] [.int u1]
  refine V_if_eq E (tgt := 34) dX8_hasRow_9 (by decide) (fun hc2 => ?_) (fun hc2 => ?_)
  · have hf := ip hc2 hf
    refine V_iconst E (v := (0 : Int32)) dX8_hasRow_34 (by decide) ?_
    have h9 := hret 35 [(0, .ref (qMo 0)), (1, .int p1), (2, .int p2)] dX8_hasRow_35
    rw [← (Option.some.inj hf)] at h9
    exact h9 (z01a (Or.inl rfl))
  · have hf := iq hc2 hf
    refine V_iload_n E 2 rfl dX8_hasRow_12 ?_
    refine V_aload_n E 0 rfl dX8_hasRow_13 ?_
    refine V_iload_n E 1 rfl dX8_hasRow_14 ?_
    obtain ⟨u3, hu3, hf⟩ := bd hf
    refine V_frW E (Rn_V E (rest := [.int p2]) mlX8_202 wd_yX8_eOf (kMo_eOf l G qMo p1 mo_all mo_past mo_aside mo_states mo_refused mo_causeKind mo_causeOrder mo_corner mo_linkVotes mo_linkE mo_linkF mo_follower mo_ahead mo_least mo_seam mo_above mo_below mo_text mo_textLong mo_place mo_value mo_numbers mo_not u3 hu3) ⟨rfl, rfl, Nat.le_of_ble_eq_true rfl, Nat.le_of_ble_eq_true rfl⟩ 0 rfl rfl rfl rfl rfl (Nat.le_of_ble_eq_true rfl) dX8_hasRow_15) ?_
    show V G p l e rmMo_hasRow s m args below meth c 3 A Q 0 0 (gMo G qMo mo_all mo_past mo_aside mo_states mo_refused mo_causeKind mo_causeOrder mo_corner mo_linkVotes mo_linkE mo_linkF mo_follower mo_ahead mo_least mo_seam mo_above mo_below mo_text mo_textLong mo_place mo_value mo_numbers mo_not) 18 [(0, .ref (qMo 0)), (1, .int p1), (2, .int p2)] [.int u3, .int p2]
    refine V_isub E dX8_hasRow_18 ?_
    refine V_i2l E dX8_hasRow_19 ?_
    refine V_lconst E (v := (0 : Int64)) dX8_hasRow_20 (by decide) ?_
    refine V_ldc2 E (v := (3 : Int64)) dX8_hasRow_21 kX8_67 ?_
    obtain ⟨u4, hu4, hf⟩ := bd hf
    refine V_fr0 E (Rn_S E (rest := []) mlX8_63 wd_yX8_in (kMo_in l G ((p2 - u3).toInt64) (0 : Int64) (3 : Int64) u4 hu4) ⟨rfl, rfl, Nat.le_of_ble_eq_true rfl, Nat.le_of_ble_eq_true rfl⟩ rfl rfl (Nat.le_of_ble_eq_true rfl) dX8_hasRow_24) ?_
    show V G p l e rmMo_hasRow s m args below meth c 3 A Q 0 0 (gMo G qMo mo_all mo_past mo_aside mo_states mo_refused mo_causeKind mo_causeOrder mo_corner mo_linkVotes mo_linkE mo_linkF mo_follower mo_ahead mo_least mo_seam mo_above mo_below mo_text mo_textLong mo_place mo_value mo_numbers mo_not) 27 [(0, .ref (qMo 0)), (1, .int p1), (2, .int p2)] [.int u4]
    refine V_if_eq E (tgt := 34) dX8_hasRow_27 (by decide) (fun hc5 => ?_) (fun hc5 => ?_)
    · have hf := ip hc5 hf
      refine V_iconst E (v := (0 : Int32)) dX8_hasRow_34 (by decide) ?_
      have h9 := hret 35 [(0, .ref (qMo 0)), (1, .int p1), (2, .int p2)] dX8_hasRow_35
      rw [← (Option.some.inj hf)] at h9
      exact h9 (z01a (Or.inl rfl))
    · have hf := iq hc5 hf
      refine V_iconst E (v := (1 : Int32)) dX8_hasRow_30 (by decide) ?_
      refine V_goto E (tgt := 35) dX8_hasRow_31 (by decide) ?_
      have h9 := hret 35 [(0, .ref (qMo 0)), (1, .int p1), (2, .int p2)] dX8_hasRow_35
      rw [← (Option.some.inj hf)] at h9
      exact h9 (z01a (Or.inr rfl))
abbrev rmMo_isNear : Room := { frames := 0, cells := 0, slots := 0, locals := 0 }
theorem wd_yX8_isNear : wdS yX8_isNear cX8_isNear 2 (some .boolean) 2 := ⟨wc_yX8_isNear, wst_yX8_isNear, wini_X8, by decide +kernel, by decide +kernel, by decide +kernel⟩
set_option maxHeartbeats 4000000 in
set_option maxRecDepth 100000 in
theorem kMo_isNear (l : Launch) (G : wG) (p0 : Int32) (p1 : Int32) (o : Int32) (hf : fMo_isNear p0 p1 = some o) : Ct G l yX8_isNear cX8_isNear 2 (some .boolean) rmMo_isNear [.int p0, .int p1] [] (some (.int o)) [] := by
  refine Ct.ofZ (by decide +kernel) (Nat.le_of_ble_eq_true rfl) (fun p e s m args below meth c A Q E hret => ?_)
  unfold fMo_isNear at hf
  show V G p l e rmMo_isNear s m args below meth c 2 A Q 0 0 [] 0 [(0, .int p0), (1, .int p1)] []
  refine V_iload_n E 0 rfl dX8_isNear_0 ?_
  refine V_iload_n E 1 rfl dX8_isNear_1 ?_
  refine V_isub E dX8_isNear_2 ?_
  refine V_iconst E (v := (1 : Int32)) dX8_isNear_3 (by decide) ?_
  refine V_icmp_gt E (tgt := 18) dX8_isNear_4 (by decide) (fun hc1 => ?_) (fun hc1 => ?_)
  · have hf := ip hc1 hf
    refine V_iconst E (v := (0 : Int32)) dX8_isNear_18 (by decide) ?_
    have h9 := hret 19 [(0, .int p0), (1, .int p1)] dX8_isNear_19
    rw [← (Option.some.inj hf)] at h9
    exact h9 (z01a (Or.inl rfl))
  · have hf := iq hc1 hf
    refine V_iload_n E 1 rfl dX8_isNear_7 ?_
    refine V_iload_n E 0 rfl dX8_isNear_8 ?_
    refine V_isub E dX8_isNear_9 ?_
    refine V_iconst E (v := (1 : Int32)) dX8_isNear_10 (by decide) ?_
    refine V_icmp_gt E (tgt := 18) dX8_isNear_11 (by decide) (fun hc2 => ?_) (fun hc2 => ?_)
    · have hf := ip hc2 hf
      refine V_iconst E (v := (0 : Int32)) dX8_isNear_18 (by decide) ?_
      have h9 := hret 19 [(0, .int p0), (1, .int p1)] dX8_isNear_19
      rw [← (Option.some.inj hf)] at h9
      exact h9 (z01a (Or.inl rfl))
    · have hf := iq hc2 hf
      refine V_iconst E (v := (1 : Int32)) dX8_isNear_14 (by decide) ?_
      refine V_goto E (tgt := 19) dX8_isNear_15 (by decide) ?_
      have h9 := hret 19 [(0, .int p0), (1, .int p1)] dX8_isNear_19
      rw [← (Option.some.inj hf)] at h9
      exact h9 (z01a (Or.inr rfl))
abbrev rmMo_laysSeam : Room := { frames := 2, cells := 0, slots := 0, locals := 47 }
theorem wd_yX8_laysSeam : wdV yX8_laysSeam cX8_laysSeam 8 none 1 := ⟨wc_yX8_laysSeam, wi_yX8_laysSeam, wse_yX8_laysSeam, wini_X8, by decide +kernel, by decide +kernel, by decide +kernel⟩
set_option maxHeartbeats 4000000 in
set_option maxRecDepth 100000 in
theorem kMo_laysSeam (l : Launch) (G : wG) (qMo : Nat → Nat) (p1 : Int32) (mo_all : Nat → Int32) (mo_past : Nat → Int32) (mo_aside : Nat → Int32) (mo_states : Int32) (mo_refused : Nat → Int32) (mo_causeKind : Int32) (mo_causeOrder : Int32) (mo_corner : Nat → Int32) (mo_linkVotes : Nat → Int32) (mo_linkE : Nat → Int32) (mo_linkF : Nat → Int32) (mo_follower : Nat → Int32) (mo_ahead : Nat → Int32) (mo_least : Nat → Int32) (mo_seam : Nat → Int32) (mo_above : Int64) (mo_below : Int64) (mo_text : Nat → Int32) (mo_textLong : Int32) (mo_place : Int32) (mo_value : Int32) (mo_numbers : Nat → Int32) (mo_not : Int32) (o : (Nat → Int32) × (Nat → Int32)) (hf : fMo_laysSeam p1 mo_all mo_linkE mo_linkF mo_follower mo_least mo_seam = some o) : Ct G l yX8_laysSeam cX8_laysSeam 8 none rmMo_laysSeam [.ref (qMo 0), .int p1] (gMo G qMo mo_all mo_past mo_aside mo_states mo_refused mo_causeKind mo_causeOrder mo_corner mo_linkVotes mo_linkE mo_linkF mo_follower mo_ahead mo_least mo_seam mo_above mo_below mo_text mo_textLong mo_place mo_value mo_numbers mo_not) none (gMo G qMo mo_all mo_past mo_aside mo_states mo_refused mo_causeKind mo_causeOrder mo_corner mo_linkVotes mo_linkE mo_linkF mo_follower mo_ahead o.1 o.2 mo_above mo_below mo_text mo_textLong mo_place mo_value mo_numbers mo_not) := by
  refine Ct.ofV (by decide +kernel) (Nat.le_of_ble_eq_true rfl) (fun p e s m args below meth c A Q E hret => ?_)
  unfold fMo_laysSeam at hf
  show V G p l e rmMo_laysSeam s m args below meth c 8 A Q 0 0 (gMo G qMo mo_all mo_past mo_aside mo_states mo_refused mo_causeKind mo_causeOrder mo_corner mo_linkVotes mo_linkE mo_linkF mo_follower mo_ahead mo_least mo_seam mo_above mo_below mo_text mo_textLong mo_place mo_value mo_numbers mo_not) 0 [(0, .ref (qMo 0)), (1, .int p1)] []
  refine V_aload_n E 0 rfl dX8_laysSeam_0 ?_
  refine V_iload_n E 1 rfl dX8_laysSeam_1 ?_
  obtain ⟨u1, hu1, hf⟩ := bd hf
  refine V_frW E (Rn_V E (rest := []) mlX8_205 wd_yX8_fOf (kMo_fOf l G qMo p1 mo_all mo_past mo_aside mo_states mo_refused mo_causeKind mo_causeOrder mo_corner mo_linkVotes mo_linkE mo_linkF mo_follower mo_ahead mo_least mo_seam mo_above mo_below mo_text mo_textLong mo_place mo_value mo_numbers mo_not u1 hu1) ⟨rfl, rfl, Nat.le_of_ble_eq_true rfl, Nat.le_of_ble_eq_true rfl⟩ 0 rfl rfl rfl rfl rfl (Nat.le_of_ble_eq_true rfl) dX8_laysSeam_2) ?_
  show V G p l e rmMo_laysSeam s m args below meth c 8 A Q 0 0 (gMo G qMo mo_all mo_past mo_aside mo_states mo_refused mo_causeKind mo_causeOrder mo_corner mo_linkVotes mo_linkE mo_linkF mo_follower mo_ahead mo_least mo_seam mo_above mo_below mo_text mo_textLong mo_place mo_value mo_numbers mo_not) 5 [(0, .ref (qMo 0)), (1, .int p1)] [.int u1]
  refine V_istore_n E (lv' := [(0, .ref (qMo 0)), (1, .int p1), (2, .int u1)]) dX8_laysSeam_5 (by decide) rfl ?_
  refine V_iconst E (v := (3 : Int32)) dX8_laysSeam_6 (by decide) ?_
  refine V_istore_n E (lv' := [(0, .ref (qMo 0)), (1, .int p1), (2, .int u1), (3, .int (3 : Int32))]) dX8_laysSeam_7 (by decide) rfl ?_
  have L8 : ∀ (n : Nat) (a8_3 : Int32) (c8_mo_least : Nat → Int32) (c8_mo_seam : Nat → Int32) (u : (Nat → Int32) × (Nat → Int32)), fMo_laysSeam_L8 p1 u1 mo_all mo_linkE mo_linkF mo_follower n a8_3 c8_mo_least c8_mo_seam = some u → (V G p l e rmMo_laysSeam s m args below meth c 8 A Q 0 0 (gMo G qMo mo_all mo_past mo_aside mo_states mo_refused mo_causeKind mo_causeOrder mo_corner mo_linkVotes mo_linkE mo_linkF mo_follower mo_ahead u.1 u.2 mo_above mo_below mo_text mo_textLong mo_place mo_value mo_numbers mo_not) 162 [(0, .ref (qMo 0)), (1, .int p1), (2, .int u1)] []) → V G p l e rmMo_laysSeam s m args below meth c 8 A Q 0 0 (gMo G qMo mo_all mo_past mo_aside mo_states mo_refused mo_causeKind mo_causeOrder mo_corner mo_linkVotes mo_linkE mo_linkF mo_follower mo_ahead c8_mo_least c8_mo_seam mo_above mo_below mo_text mo_textLong mo_place mo_value mo_numbers mo_not) 8 [(0, .ref (qMo 0)), (1, .int p1), (2, .int u1), (3, .int a8_3)] [] := by
    intro n
    induction n with
    | zero =>
      intro a8_3 c8_mo_least c8_mo_seam u hf hk
      rw [fMo_laysSeam_L8] at hf
      cases hf
    | succ n ih =>
      intro a8_3 c8_mo_least c8_mo_seam u hf hk
      rw [fMo_laysSeam_L8] at hf
      exact ih a8_3 c8_mo_least c8_mo_seam _ hf hk
  obtain ⟨u2, hu2, hf⟩ := bd hf
  refine L8 FU (3 : Int32) mo_least mo_seam u2 hu2 ?_
  refine V_iconst E (v := (0 : Int32)) dX8_laysSeam_162 (by decide) ?_
  refine V_istore_n E (lv' := [(0, .ref (qMo 0)), (1, .int p1), (2, .int u1), (3, .int (0 : Int32))]) dX8_laysSeam_163 (by decide) rfl ?_
  have L164 : ∀ (n : Nat) (a164_3 : Int32) (c164_mo_seam : Nat → Int32) (u : (Nat → Int32)), fMo_laysSeam_L164 p1 u1 mo_linkE mo_follower u2.1 n a164_3 c164_mo_seam = some u → (V G p l e rmMo_laysSeam s m args below meth c 8 A Q 0 0 (gMo G qMo mo_all mo_past mo_aside mo_states mo_refused mo_causeKind mo_causeOrder mo_corner mo_linkVotes mo_linkE mo_linkF mo_follower mo_ahead u2.1 u mo_above mo_below mo_text mo_textLong mo_place mo_value mo_numbers mo_not) 293 [] []) → V G p l e rmMo_laysSeam s m args below meth c 8 A Q 0 0 (gMo G qMo mo_all mo_past mo_aside mo_states mo_refused mo_causeKind mo_causeOrder mo_corner mo_linkVotes mo_linkE mo_linkF mo_follower mo_ahead u2.1 c164_mo_seam mo_above mo_below mo_text mo_textLong mo_place mo_value mo_numbers mo_not) 164 [(0, .ref (qMo 0)), (1, .int p1), (2, .int u1), (3, .int a164_3)] [] := by
    intro n
    induction n with
    | zero =>
      intro a164_3 c164_mo_seam u hf hk
      rw [fMo_laysSeam_L164] at hf
      cases hf
    | succ n ih =>
      intro a164_3 c164_mo_seam u hf hk
      rw [fMo_laysSeam_L164] at hf
      exact ih a164_3 c164_mo_seam _ hf hk
  obtain ⟨u3, hu3, hf⟩ := bd hf
  refine L164 FU (0 : Int32) u2.2 u3 hu3 ?_
  have h9 := hret 293 [] dX8_laysSeam_293
  rw [← (Option.some.inj hf)] at h9
  exact h9
abbrev rmMo_seamSum : Room := { frames := 3, cells := 0, slots := 0, locals := 74 }
theorem wd_yX8_seamSum : wdV yX8_seamSum cX8_seamSum 4 (some .int) 1 := ⟨wc_yX8_seamSum, wi_yX8_seamSum, wse_yX8_seamSum, wini_X8, by decide +kernel, by decide +kernel, by decide +kernel⟩
set_option maxHeartbeats 4000000 in
set_option maxRecDepth 100000 in
theorem kMo_seamSum (l : Launch) (G : wG) (qMo : Nat → Nat) (p1 : Int32) (mo_all : Nat → Int32) (mo_past : Nat → Int32) (mo_aside : Nat → Int32) (mo_states : Int32) (mo_refused : Nat → Int32) (mo_causeKind : Int32) (mo_causeOrder : Int32) (mo_corner : Nat → Int32) (mo_linkVotes : Nat → Int32) (mo_linkE : Nat → Int32) (mo_linkF : Nat → Int32) (mo_follower : Nat → Int32) (mo_ahead : Nat → Int32) (mo_least : Nat → Int32) (mo_seam : Nat → Int32) (mo_above : Int64) (mo_below : Int64) (mo_text : Nat → Int32) (mo_textLong : Int32) (mo_place : Int32) (mo_value : Int32) (mo_numbers : Nat → Int32) (mo_not : Int32) (o : Int32 × (Nat → Int32) × (Nat → Int32)) (hf : fMo_seamSum p1 mo_all mo_linkE mo_linkF mo_follower mo_least mo_seam = some o) : Ct G l yX8_seamSum cX8_seamSum 4 (some .int) rmMo_seamSum [.ref (qMo 0), .int p1] (gMo G qMo mo_all mo_past mo_aside mo_states mo_refused mo_causeKind mo_causeOrder mo_corner mo_linkVotes mo_linkE mo_linkF mo_follower mo_ahead mo_least mo_seam mo_above mo_below mo_text mo_textLong mo_place mo_value mo_numbers mo_not) (some (.int o.1)) (gMo G qMo mo_all mo_past mo_aside mo_states mo_refused mo_causeKind mo_causeOrder mo_corner mo_linkVotes mo_linkE mo_linkF mo_follower mo_ahead o.2.1 o.2.2 mo_above mo_below mo_text mo_textLong mo_place mo_value mo_numbers mo_not) := by
  refine Ct.ofI (by decide +kernel) (Nat.le_of_ble_eq_true rfl) (fun p e s m args below meth c A Q E hret => ?_)
  unfold fMo_seamSum at hf
  show V G p l e rmMo_seamSum s m args below meth c 4 A Q 0 0 (gMo G qMo mo_all mo_past mo_aside mo_states mo_refused mo_causeKind mo_causeOrder mo_corner mo_linkVotes mo_linkE mo_linkF mo_follower mo_ahead mo_least mo_seam mo_above mo_below mo_text mo_textLong mo_place mo_value mo_numbers mo_not) 0 [(0, .ref (qMo 0)), (1, .int p1)] []
  refine V_iconst E (v := (0 : Int32)) dX8_seamSum_0 (by decide) ?_
  refine V_istore_n E (lv' := [(0, .ref (qMo 0)), (1, .int p1), (2, .int (0 : Int32))]) dX8_seamSum_1 (by decide) rfl ?_
  refine V_aload_n E 0 rfl dX8_seamSum_2 ?_
  refine V_iload_n E 1 rfl dX8_seamSum_3 ?_
  obtain ⟨u1, hu1, hf⟩ := bd hf
  refine V_frW E (Rn_V E (rest := []) mlX8_237 wd_yX8_laysSeam (kMo_laysSeam l G qMo p1 mo_all mo_past mo_aside mo_states mo_refused mo_causeKind mo_causeOrder mo_corner mo_linkVotes mo_linkE mo_linkF mo_follower mo_ahead mo_least mo_seam mo_above mo_below mo_text mo_textLong mo_place mo_value mo_numbers mo_not u1 hu1) ⟨rfl, rfl, Nat.le_of_ble_eq_true rfl, Nat.le_of_ble_eq_true rfl⟩ 0 rfl rfl rfl rfl rfl (Nat.le_of_ble_eq_true rfl) dX8_seamSum_4) ?_
  show V G p l e rmMo_seamSum s m args below meth c 4 A Q 0 0 (gMo G qMo mo_all mo_past mo_aside mo_states mo_refused mo_causeKind mo_causeOrder mo_corner mo_linkVotes mo_linkE mo_linkF mo_follower mo_ahead u1.1 u1.2 mo_above mo_below mo_text mo_textLong mo_place mo_value mo_numbers mo_not) 7 [(0, .ref (qMo 0)), (1, .int p1), (2, .int (0 : Int32))] []
  refine V_iconst E (v := (0 : Int32)) dX8_seamSum_7 (by decide) ?_
  refine V_istore_n E (lv' := [(0, .ref (qMo 0)), (1, .int p1), (2, .int (0 : Int32)), (3, .int (0 : Int32))]) dX8_seamSum_8 (by decide) rfl ?_
  have L9 : ∀ (n : Nat) (a9_2 : Int32) (a9_3 : Int32) (u : Int32), fMo_seamSum_L9 p1 mo_all mo_linkE mo_linkF mo_follower u1.2 n a9_2 a9_3 = some u → (V G p l e rmMo_seamSum s m args below meth c 4 A Q 0 0 (gMo G qMo mo_all mo_past mo_aside mo_states mo_refused mo_causeKind mo_causeOrder mo_corner mo_linkVotes mo_linkE mo_linkF mo_follower mo_ahead u1.1 u1.2 mo_above mo_below mo_text mo_textLong mo_place mo_value mo_numbers mo_not) 52 [(2, .int u)] []) → V G p l e rmMo_seamSum s m args below meth c 4 A Q 0 0 (gMo G qMo mo_all mo_past mo_aside mo_states mo_refused mo_causeKind mo_causeOrder mo_corner mo_linkVotes mo_linkE mo_linkF mo_follower mo_ahead u1.1 u1.2 mo_above mo_below mo_text mo_textLong mo_place mo_value mo_numbers mo_not) 9 [(0, .ref (qMo 0)), (1, .int p1), (2, .int a9_2), (3, .int a9_3)] [] := by
    intro n
    induction n with
    | zero =>
      intro a9_2 a9_3 u hf hk
      rw [fMo_seamSum_L9] at hf
      cases hf
    | succ n ih =>
      intro a9_2 a9_3 u hf hk
      rw [fMo_seamSum_L9] at hf
      exact ih a9_2 a9_3 _ hf hk
  obtain ⟨u2, hu2, hf⟩ := bd hf
  refine L9 FU (0 : Int32) (0 : Int32) u2 hu2 ?_
  refine V_iload_n E 0 rfl dX8_seamSum_52 ?_
  have h9 := hret 53 [(2, .int u2)] dX8_seamSum_53
  rw [← (Option.some.inj hf)] at h9
  exact h9
abbrev rmMo_cells : Room := { frames := 1, cells := 0, slots := 0, locals := 21 }
theorem wd_yX8_cells : wdV yX8_cells cX8_cells 2 (some .int) 1 := ⟨wc_yX8_cells, wi_yX8_cells, wse_yX8_cells, wini_X8, by decide +kernel, by decide +kernel, by decide +kernel⟩
set_option maxHeartbeats 4000000 in
set_option maxRecDepth 100000 in
theorem kMo_cells (l : Launch) (G : wG) (qMo : Nat → Nat) (p1 : Int32) (mo_all : Nat → Int32) (mo_past : Nat → Int32) (mo_aside : Nat → Int32) (mo_states : Int32) (mo_refused : Nat → Int32) (mo_causeKind : Int32) (mo_causeOrder : Int32) (mo_corner : Nat → Int32) (mo_linkVotes : Nat → Int32) (mo_linkE : Nat → Int32) (mo_linkF : Nat → Int32) (mo_follower : Nat → Int32) (mo_ahead : Nat → Int32) (mo_least : Nat → Int32) (mo_seam : Nat → Int32) (mo_above : Int64) (mo_below : Int64) (mo_text : Nat → Int32) (mo_textLong : Int32) (mo_place : Int32) (mo_value : Int32) (mo_numbers : Nat → Int32) (mo_not : Int32) (o : Int32) (hf : fMo_cells p1 mo_linkE mo_linkF mo_follower = some o) : Ct G l yX8_cells cX8_cells 2 (some .int) rmMo_cells [.ref (qMo 0), .int p1] (gMo G qMo mo_all mo_past mo_aside mo_states mo_refused mo_causeKind mo_causeOrder mo_corner mo_linkVotes mo_linkE mo_linkF mo_follower mo_ahead mo_least mo_seam mo_above mo_below mo_text mo_textLong mo_place mo_value mo_numbers mo_not) (some (.int o)) (gMo G qMo mo_all mo_past mo_aside mo_states mo_refused mo_causeKind mo_causeOrder mo_corner mo_linkVotes mo_linkE mo_linkF mo_follower mo_ahead mo_least mo_seam mo_above mo_below mo_text mo_textLong mo_place mo_value mo_numbers mo_not) := by
  refine Ct.ofI (by decide +kernel) (Nat.le_of_ble_eq_true rfl) (fun p e s m args below meth c A Q E hret => ?_)
  unfold fMo_cells at hf
  show V G p l e rmMo_cells s m args below meth c 2 A Q 0 0 (gMo G qMo mo_all mo_past mo_aside mo_states mo_refused mo_causeKind mo_causeOrder mo_corner mo_linkVotes mo_linkE mo_linkF mo_follower mo_ahead mo_least mo_seam mo_above mo_below mo_text mo_textLong mo_place mo_value mo_numbers mo_not) 0 [(0, .ref (qMo 0)), (1, .int p1)] []
  refine V_iconst E (v := (4 : Int32)) dX8_cells_0 (by decide) ?_
  refine V_aload_n E 0 rfl dX8_cells_1 ?_
  refine V_iload_n E 1 rfl dX8_cells_2 ?_
  obtain ⟨u1, hu1, hf⟩ := bd hf
  refine V_frW E (Rn_V E (rest := [.int (4 : Int32)]) mlX8_202 wd_yX8_eOf (kMo_eOf l G qMo p1 mo_all mo_past mo_aside mo_states mo_refused mo_causeKind mo_causeOrder mo_corner mo_linkVotes mo_linkE mo_linkF mo_follower mo_ahead mo_least mo_seam mo_above mo_below mo_text mo_textLong mo_place mo_value mo_numbers mo_not u1 hu1) ⟨rfl, rfl, Nat.le_of_ble_eq_true rfl, Nat.le_of_ble_eq_true rfl⟩ 0 rfl rfl rfl rfl rfl (Nat.le_of_ble_eq_true rfl) dX8_cells_3) ?_
  show V G p l e rmMo_cells s m args below meth c 2 A Q 0 0 (gMo G qMo mo_all mo_past mo_aside mo_states mo_refused mo_causeKind mo_causeOrder mo_corner mo_linkVotes mo_linkE mo_linkF mo_follower mo_ahead mo_least mo_seam mo_above mo_below mo_text mo_textLong mo_place mo_value mo_numbers mo_not) 6 [(0, .ref (qMo 0)), (1, .int p1)] [.int u1, .int (4 : Int32)]
  obtain ⟨u2, hu2, hf⟩ := bd hf
  refine V_fr0 E (Rn_S E (rest := [.int (4 : Int32)]) mlX8_146 wd_yX8_abs (kMo_abs l G u1 u2 hu2) ⟨rfl, rfl, Nat.le_of_ble_eq_true rfl, Nat.le_of_ble_eq_true rfl⟩ rfl rfl (Nat.le_of_ble_eq_true rfl) dX8_cells_6) ?_
  show V G p l e rmMo_cells s m args below meth c 2 A Q 0 0 (gMo G qMo mo_all mo_past mo_aside mo_states mo_refused mo_causeKind mo_causeOrder mo_corner mo_linkVotes mo_linkE mo_linkF mo_follower mo_ahead mo_least mo_seam mo_above mo_below mo_text mo_textLong mo_place mo_value mo_numbers mo_not) 9 [(0, .ref (qMo 0)), (1, .int p1)] [.int u2, .int (4 : Int32)]
  refine V_isub E dX8_cells_9 ?_
  refine V_bipush E (v := (8 : Int32)) dX8_cells_10 (by decide) ?_
  refine V_aload_n E 0 rfl dX8_cells_12 ?_
  refine V_iload_n E 1 rfl dX8_cells_13 ?_
  obtain ⟨u3, hu3, hf⟩ := bd hf
  refine V_frW E (Rn_V E (rest := [.int (8 : Int32), .int ((4 : Int32) - u2)]) mlX8_205 wd_yX8_fOf (kMo_fOf l G qMo p1 mo_all mo_past mo_aside mo_states mo_refused mo_causeKind mo_causeOrder mo_corner mo_linkVotes mo_linkE mo_linkF mo_follower mo_ahead mo_least mo_seam mo_above mo_below mo_text mo_textLong mo_place mo_value mo_numbers mo_not u3 hu3) ⟨rfl, rfl, Nat.le_of_ble_eq_true rfl, Nat.le_of_ble_eq_true rfl⟩ 0 rfl rfl rfl rfl rfl (Nat.le_of_ble_eq_true rfl) dX8_cells_14) ?_
  show V G p l e rmMo_cells s m args below meth c 2 A Q 0 0 (gMo G qMo mo_all mo_past mo_aside mo_states mo_refused mo_causeKind mo_causeOrder mo_corner mo_linkVotes mo_linkE mo_linkF mo_follower mo_ahead mo_least mo_seam mo_above mo_below mo_text mo_textLong mo_place mo_value mo_numbers mo_not) 17 [(0, .ref (qMo 0)), (1, .int p1)] [.int u3, .int (8 : Int32), .int ((4 : Int32) - u2)]
  refine V_isub E dX8_cells_17 ?_
  refine V_imul E dX8_cells_18 ?_
  have h9 := hret 19 [(0, .ref (qMo 0)), (1, .int p1)] dX8_cells_19
  rw [← (Option.some.inj hf)] at h9
  exact h9
