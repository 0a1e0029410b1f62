/-! What each method does, as a function: none where the machine itself would throw, or where a loop has run FU times. Printed by wip/whole/gen out of the bytecode. -/
def f_X_refuse (z_h_refusals : (Nat → Int32)) (x1 : Int32) : Option (Int32 × (Nat → Int32)) :=
 if x1 < (-6) then
  some (x1, z_h_refusals)
 else
  if (-1) < x1 then
   some (x1, z_h_refusals)
  else
   if (-x1) < 0 ∨ 7 ≤ (-x1).toNatClampNeg then none else
   some (x1, (upd z_h_refusals (-x1).toNatClampNeg ((z_h_refusals (-x1).toNatClampNeg) + 1)))
def f_Letters_add (z_h_length : Int32) (z_h_text : (Nat → Int32)) (x1 : Int32) : Option (Int32 × Int32 × (Nat → Int32)) :=
 if 64 ≤ z_h_length then
  some (z_h_length, z_h_length, z_h_text)
 else
  if z_h_length < 0 ∨ 64 ≤ z_h_length.toNatClampNeg then none else
  some ((z_h_length + 1), (z_h_length + 1), (upd z_h_text z_h_length.toNatClampNeg (vp_nar .char x1)))
def f_X_feed (z_h_letters_length : Int32) (z_h_letters_text : (Nat → Int32)) (z_h_refusals : (Nat → Int32)) (x1 : Int32) : Option (Int32 × Int32 × (Nat → Int32) × (Nat → Int32)) :=
 if 0 ≤ x1 then
  if 255 < x1 then
   (f_X_refuse z_h_refusals (-6)).bind fun q3 =>
   some (q3.1, z_h_letters_length, z_h_letters_text, q3.2)
  else
   if z_h_letters_length < 64 then
    (f_Letters_add z_h_letters_length z_h_letters_text ((x1.toUInt32 % 65536).toInt32)).bind fun q5 =>
    some (q5.1, q5.2.1, q5.2.2, z_h_refusals)
   else
    (f_X_refuse z_h_refusals (-6)).bind fun q6 =>
    some (q6.1, z_h_letters_length, z_h_letters_text, q6.2)
 else
  (f_X_refuse z_h_refusals (-4)).bind fun q7 =>
  some (q7.1, z_h_letters_length, z_h_letters_text, q7.2)
def f_Letters_behindStart (x0 : Int32) : Option (Int32) :=
 if x0 = 99 then
  some 1
 else
  if x0 = 103 then
   some 2
  else
   if x0 = 108 then
    some 6
   else
    some (-1)
def f_Letters_isDigit (x0 : Int32) : Option (Int32) :=
 if x0 < 48 then
  some 0
 else
  if 57 < x0 then
   some 0
  else
   some 1
def f_Letters_behindEnd (x0 : Int32) : Option (Int32) :=
 if x0 = 59 then
  some 0
 else
  some (-1)
def f_Str_isLatin1 : Option (Int32) :=
 some 1
def f_Str_coder : Option (Int32) :=
 some 0
def f_Str_length : Option (Int32) :=
 (f_Str_coder).bind fun q1 =>
 some ((7 : Int32) >>> (q1 &&& 31))
def f_Lat_canEncode (x0 : Int32) : Option (Int32) :=
 if x0 < 0 then
  some 0
 else
  if 255 < x0 then
   some 0
  else
   some 1
def f_Lat_indexOfChar_L7 (x3 : Int32) (x4 : Int32) : Nat → Int32 → Option (Int32)
  | 0, _ => none
  | n + 1, x5 =>
  if x3 ≤ x5 then
   some (-1)
  else
   if x5 < 0 ∨ 7 ≤ x5.toNatClampNeg then none else
   if (s_text x5.toNatClampNeg) = x4 then
    some x5
   else
    f_Lat_indexOfChar_L7 x3 x4 n (x5 + 1)
def f_Lat_indexOfChar (x1 : Int32) (x2 : Int32) (x3 : Int32) : Option (Int32) :=
 f_Lat_indexOfChar_L7 x3 (x1.toInt8.toInt32) FU x2
def f_Lat_indexOf (x1 : Int32) (x2 : Int32) (x3 : Int32) : Option (Int32) :=
 (f_Lat_canEncode x1).bind fun q1 =>
 if q1 = 0 then
  some (-1)
 else
  if (jmax x2 0) < (jmin x3 7) then
   (f_Lat_indexOfChar x1 (jmax x2 0) (jmin x3 7)).bind fun q4 =>
   some q4
  else
   some (-1)
def f_Str_indexOf2 (x1 : Int32) (x2 : Int32) : Option (Int32) :=
 (f_Str_isLatin1).bind fun q1 =>
 if q1 = 0 then
  (f_Str_length).bind fun q3 =>
  none
 else
  (f_Str_length).bind fun q4 =>
  (f_Lat_indexOf x1 x2 q4).bind fun q5 =>
  some q5
def f_Str_indexOf1 (x1 : Int32) : Option (Int32) :=
 (f_Str_indexOf2 x1 0).bind fun q1 =>
 some q1
def f_Letters_behind (x0 : Int32) (x1 : Int32) : Option (Int32) :=
 if x0 = 0 then
  (f_Letters_behindStart x1).bind fun q2 =>
  some q2
 else
  if x0 = 1 then
   (f_Str_indexOf1 x1).bind fun q4 =>
   if q4 < 0 then
    some (-1)
   else
    some 2
  else
   if x0 = 2 then
    (f_Letters_isDigit x1).bind fun q7 =>
    if q7 = 0 then
     some (-1)
    else
     some 3
   else
    if x0 = 3 then
     (f_Letters_isDigit x1).bind fun q10 =>
     if q10 = 0 then
      (f_Letters_behindEnd x1).bind fun q12 =>
      some q12
     else
      some 4
    else
     if x0 = 4 then
      (f_Letters_isDigit x1).bind fun q14 =>
      if q14 = 0 then
       (f_Letters_behindEnd x1).bind fun q16 =>
       some q16
      else
       some 5
     else
      if x0 = 5 then
       (f_Letters_behindEnd x1).bind fun q18 =>
       some q18
      else
       if x0 = 6 then
        (f_Letters_isDigit x1).bind fun q20 =>
        if q20 = 0 then
         some (-1)
        else
         some 7
       else
        if x0 = 7 then
         (f_Letters_isDigit x1).bind fun q23 =>
         if q23 = 0 then
          some (-1)
         else
          some 5
        else
         some (-1)
def f_Letters_placeOfBadForm_L4 (z_h_length : Int32) (z_h_text : (Nat → Int32)) : Nat → Int32 → Int32 → Option (Int32)
  | 0, _, _ => none
  | n + 1, x1, x2 =>
  if z_h_length ≤ x2 then
   if z_h_length ≤ 0 then
    some z_h_length
   else
    if x1 = 0 then
     some (-1)
    else
     some z_h_length
  else
   if x2 < 0 ∨ 64 ≤ x2.toNatClampNeg then none else
   (f_Letters_behind x1 (z_h_text x2.toNatClampNeg)).bind fun q5 =>
   if q5 = (-1) then
    some x2
   else
    f_Letters_placeOfBadForm_L4 z_h_length z_h_text n q5 (x2 + 1)
def f_Letters_placeOfBadForm (z_h_length : Int32) (z_h_text : (Nat → Int32)) : Option (Int32) :=
 f_Letters_placeOfBadForm_L4 z_h_length z_h_text FU 0 0
def f_Ring_copyFrom (z_h : RS) (z_g1 : RS) : Option (RS) :=
 some ((va_cpy (r_kinds z_g1) (r_kinds z_h) 0 0 8), (va_cpy (r_sweets z_g1) (r_sweets z_h) 0 0 8), (va_cpy (r_settings z_g1) (r_settings z_h) 0 0 3), (r_heaps z_h), (r_children z_g1), (r_strokes z_g1), (r_gave z_g1), (r_threw z_g1))
def f_Letters_letterAt (z_h_length : Int32) (z_h_text : (Nat → Int32)) (x1 : Int32) : Option (Int32) :=
 if x1 < 0 then
  some 32
 else
  if z_h_length ≤ x1 then
   some 32
  else
   if x1 < 0 ∨ 64 ≤ x1.toNatClampNeg then none else
   if ¬ vp_nar .char (z_h_text x1.toNatClampNeg) = (z_h_text x1.toNatClampNeg) then none else
   some (z_h_text x1.toNatClampNeg)
def f_Letters_number_L5 (z_h_length : Int32) (z_h_text : (Nat → Int32)) (x2 : Int32) : Nat → Int32 → Int32 → Option (Int32)
  | 0, _, _ => none
  | n + 1, x3, x4 =>
  if x2 ≤ x4 then
   some x3
  else
   (f_Letters_letterAt z_h_length z_h_text x4).bind fun q2 =>
   f_Letters_number_L5 z_h_length z_h_text x2 n (((x3 * 10) + q2) - 48) (x4 + 1)
def f_Letters_number (z_h_length : Int32) (z_h_text : (Nat → Int32)) (x1 : Int32) (x2 : Int32) : Option (Int32) :=
 f_Letters_number_L5 z_h_length z_h_text x2 FU 0 x1
def f_Ring_seatLast (z_h : RS) (x1 : Int32) (x2 : Int32) : Option (Int32 × RS) :=
 if (r_children z_h) < 8 then
  if (r_children z_h) < 0 ∨ 8 ≤ (r_children z_h).toNatClampNeg then none else
  some (1, ((upd (r_kinds z_h) (r_children z_h).toNatClampNeg x1), (upd (r_sweets z_h) (r_children z_h).toNatClampNeg x2), (r_settings z_h), (r_heaps z_h), ((r_children z_h) + 1), (r_strokes z_h), (r_gave z_h), (r_threw z_h)))
 else
  some (0, z_h)
def f_X_outside (x0 : Int32) (x1 : Int32) (x2 : Int32) : Option (Int32) :=
 if x1 ≤ x0 then
  if x0 ≤ x2 then
   some 0
  else
   some (-6)
 else
  some (-4)
def f_Letters_bring (z_h_trial : RS) (x1 : Int32) (x2 : Int32) : Option (Int32 × RS) :=
 if x1 < 0 ∨ 3 ≤ x1.toNatClampNeg then none else
 (f_X_outside x2 (s_LEAST_SETTING x1.toNatClampNeg) (s_GREATEST_SETTING x1.toNatClampNeg)).bind fun q2 =>
 if q2 = 0 then
  some (1, ((r_kinds z_h_trial), (r_sweets z_h_trial), (upd (r_settings z_h_trial) x1.toNatClampNeg x2), (r_heaps z_h_trial), (r_children z_h_trial), (r_strokes z_h_trial), (r_gave z_h_trial), (r_threw z_h_trial)))
 else
  some (0, z_h_trial)
def f_Letters_carryOutOne (z_h_length : Int32) (z_h_text : (Nat → Int32)) (z_h_trial : RS) (x1 : Int32) (x2 : Int32) : Option (Int32 × RS) :=
 (f_Letters_letterAt z_h_length z_h_text x1).bind fun q1 =>
 if q1 = 99 then
  (f_Letters_letterAt z_h_length z_h_text (x1 + 1)).bind fun q3 =>
  (f_Str_indexOf1 q3).bind fun q4 =>
  (f_Letters_number z_h_length z_h_text (x1 + 2) x2).bind fun q5 =>
  (f_Ring_seatLast z_h_trial q4 q5).bind fun q6 =>
  if ¬ (q6.1 = 0 ∨ q6.1 = 1) then none else
  some (q6.1, q6.2)
 else
  if q1 = 103 then
   (f_Letters_number z_h_length z_h_text (x1 + 1) x2).bind fun q9 =>
   (f_Letters_bring z_h_trial 2 q9).bind fun q10 =>
   if ¬ (q10.1 = 0 ∨ q10.1 = 1) then none else
   some (q10.1, q10.2)
  else
   if q1 = 108 then
    (f_Letters_number z_h_length z_h_text (x1 + 1) (x1 + 2)).bind fun q13 =>
    (f_Letters_bring z_h_trial 0 q13).bind fun q14 =>
    if q14.1 = 0 then
     some (0, q14.2)
    else
     (f_Letters_number z_h_length z_h_text (x1 + 2) x2).bind fun q16 =>
     (f_Letters_bring q14.2 1 q16).bind fun q17 =>
     if q17.1 = 0 then
      some (0, q17.2)
     else
      some (1, q17.2)
   else
    some (0, z_h_trial)
def f_Letters_carryOut_L31 (z_h_length : Int32) (z_h_text : (Nat → Int32)) (z_g1 : RS) (k : RS → Int32 → Option (Int32 × RS × RS)) : Nat → RS → Int32 → Int32 → Int32 → Option (Int32 × RS × RS)
  | 0, _, _, _, _ => none
  | n + 1, z_h_trial, x3, x4, x5 =>
  if z_h_length ≤ x5 then
   k z_h_trial x3
  else
   if x5 < 0 ∨ 64 ≤ x5.toNatClampNeg then none else
   if (z_h_text x5.toNatClampNeg) = 59 then
    (f_Letters_carryOutOne z_h_length z_h_text z_h_trial x4 x5).bind fun q7 =>
    if q7.1 = 0 then
     some (((-2000) - x4), q7.2, z_g1)
    else
     f_Letters_carryOut_L31 z_h_length z_h_text z_g1 k n q7.2 (x3 + 1) (x5 + 1) (x5 + 1)
   else
    f_Letters_carryOut_L31 z_h_length z_h_text z_g1 k n z_h_trial x3 x4 (x5 + 1)
def f_Letters_carryOut (z_h_length : Int32) (z_h_text : (Nat → Int32)) (z_h_trial : RS) (z_g1 : RS) : Option (Int32 × RS × RS) :=
 (f_Letters_placeOfBadForm z_h_length z_h_text).bind fun q1 =>
 if q1 < 0 then
  (f_Ring_copyFrom z_h_trial z_g1).bind fun q3 =>
  f_Letters_carryOut_L31 z_h_length z_h_text z_g1 (fun z_h_trial_9 x3_9 =>
   (f_Ring_copyFrom z_g1 z_h_trial_9).bind fun q10 =>
   some (x3_9, z_h_trial_9, q10)) FU q3 0 0 0
 else
  some (((-1000) - q1), z_h_trial, z_g1)
def f_X_table (z_h_now : RS) (z_h_letters_length : Int32) (z_h_letters_text : (Nat → Int32)) (z_h_letters_trial : RS) : Option (Int32 × RS × Int32 × RS) :=
 (f_Letters_carryOut z_h_letters_length z_h_letters_text z_h_letters_trial z_h_now).bind fun q1 =>
 some (q1.1, q1.2.2, 0, q1.2.1)
def f_Ring_has (z_h : RS) (x1 : Int32) : Option (Int32) :=
 if x1 < 0 then
  some 0
 else
  if (r_children z_h) ≤ x1 then
   some 0
  else
   some 1
def f_Ring_leftOf (z_h : RS) (x1 : Int32) : Option (Int32) :=
 if (r_children z_h) = 0 then
  some 0
 else
  some ((x1 + ((r_settings z_h) 1)) % (r_children z_h))
def f_Ring_gift (z_h : RS) (x1 : Int32) : Option (Int32) :=
 (f_Ring_leftOf z_h x1).bind fun q1 =>
 if q1 = x1 then
  some 0
 else
  if x1 < 0 ∨ 8 ≤ x1.toNatClampNeg then none else
  if q1 < 0 ∨ 8 ≤ q1.toNatClampNeg then none else
  if ((r_kinds z_h) x1.toNatClampNeg) = 0 then
   some (((r_sweets z_h) x1.toNatClampNeg) / 2)
  else
   if ((r_kinds z_h) x1.toNatClampNeg) = 1 then
    some (((r_sweets z_h) x1.toNatClampNeg) / 4)
   else
    if ((r_kinds z_h) x1.toNatClampNeg) = 2 then
     if ((r_sweets z_h) x1.toNatClampNeg) ≤ ((r_sweets z_h) q1.toNatClampNeg) then
      some 0
     else
      some (((r_sweets z_h) x1.toNatClampNeg) / 2)
    else
     if ((r_kinds z_h) x1.toNatClampNeg) = 3 then
      if ((r_sweets z_h) x1.toNatClampNeg) ≤ 0 then
       some 0
      else
       some ((((r_sweets z_h) x1.toNatClampNeg) - 1) / 2)
     else
      if ((r_kinds z_h) x1.toNatClampNeg) = 4 then
       some 0
      else
       if ((r_kinds z_h) x1.toNatClampNeg) = 5 then
        if ((r_sweets z_h) x1.toNatClampNeg) ≤ ((r_sweets z_h) q1.toNatClampNeg) then
         some 0
        else
         some ((((r_sweets z_h) x1.toNatClampNeg) - ((r_sweets z_h) q1.toNatClampNeg)) / 2)
       else
        if ((r_kinds z_h) x1.toNatClampNeg) = 6 then
         if ((r_sweets z_h) x1.toNatClampNeg) < 4 then
          some 0
         else
          some ((((r_sweets z_h) x1.toNatClampNeg) - 1) / 2)
        else
         some 0
def f_Ring_sides (z_h : RS) (x1 : Int32) : Option (Int32) :=
 (f_Ring_gift z_h x1).bind fun q1 =>
 if q1 = 0 then
  some 0
 else
  if x1 < 0 ∨ 8 ≤ x1.toNatClampNeg then none else
  if ((r_kinds z_h) x1.toNatClampNeg) = 1 then
   some 2
  else
   some 1
def f_X_child (z_h_now : RS) (z_h_refusals : (Nat → Int32)) (x1 : Int32) (x2 : Int32) : Option (Int32 × (Nat → Int32)) :=
 (f_Ring_has z_h_now x1).bind fun q1 =>
 if q1 = 0 then
  (f_X_refuse z_h_refusals (-1)).bind fun q12 =>
  some (q12.1, q12.2)
 else
  if x2 = 0 then
   if x1 < 0 ∨ 8 ≤ x1.toNatClampNeg then none else
   some (((r_kinds z_h_now) x1.toNatClampNeg), z_h_refusals)
  else
   if x2 = 1 then
    if x1 < 0 ∨ 8 ≤ x1.toNatClampNeg then none else
    some (((r_sweets z_h_now) x1.toNatClampNeg), z_h_refusals)
   else
    if x2 = 2 then
     (f_Ring_gift z_h_now x1).bind fun q8 =>
     some (q8, z_h_refusals)
    else
     if x2 = 3 then
      (f_Ring_sides z_h_now x1).bind fun q10 =>
      some (q10, z_h_refusals)
     else
      (f_X_refuse z_h_refusals (-2)).bind fun q11 =>
      some (q11.1, q11.2)
def f_X_set (z_h_now : RS) (z_h_refusals : (Nat → Int32)) (x1 : Int32) (x2 : Int32) : Option (Int32 × RS × (Nat → Int32)) :=
 if x1 < 0 then
  (f_X_refuse z_h_refusals (-2)).bind fun q2 =>
  some (q2.1, z_h_now, q2.2)
 else
  if x1 ≤ 2 then
   if x1 < 0 ∨ 3 ≤ x1.toNatClampNeg then none else
   (f_X_outside x2 (s_LEAST_SETTING x1.toNatClampNeg) (s_GREATEST_SETTING x1.toNatClampNeg)).bind fun q5 =>
   if q5 = 0 then
    some (((r_settings z_h_now) x1.toNatClampNeg), ((r_kinds z_h_now), (r_sweets z_h_now), (upd (r_settings z_h_now) x1.toNatClampNeg x2), (r_heaps z_h_now), (r_children z_h_now), (r_strokes z_h_now), (r_gave z_h_now), (r_threw z_h_now)), z_h_refusals)
   else
    (f_X_refuse z_h_refusals q5).bind fun q7 =>
    some (q7.1, z_h_now, q7.2)
  else
   (f_X_refuse z_h_refusals (-2)).bind fun q8 =>
   some (q8.1, z_h_now, q8.2)
def f_Ring_rightOf (z_h : RS) (x1 : Int32) : Option (Int32) :=
 if (r_children z_h) = 0 then
  some 0
 else
  some (((x1 + (3 * (r_children z_h))) - ((r_settings z_h) 1)) % (r_children z_h))
def f_Ring_handOn_L17 (k : RS → Option (RS)) : Nat → RS → Int32 → Option (RS)
  | 0, _, _ => none
  | n + 1, z_h, x1 =>
  if (r_children z_h) ≤ x1 then
   k z_h
  else
   (f_Ring_gift z_h x1).bind fun q2 =>
   if x1 < 0 ∨ 8 ≤ x1.toNatClampNeg then none else
   (f_Ring_leftOf ((r_kinds z_h), (r_sweets z_h), (r_settings z_h), (upd (r_heaps z_h) x1.toNatClampNeg (((r_heaps z_h) x1.toNatClampNeg) - q2)), (r_children z_h), (r_strokes z_h), (r_gave z_h), (r_threw z_h)) x1).bind fun q4 =>
   if q4 < 0 ∨ 8 ≤ q4.toNatClampNeg then none else
   if ((r_kinds z_h) x1.toNatClampNeg) = 1 then
    (f_Ring_rightOf ((r_kinds z_h), (r_sweets z_h), (r_settings z_h), (upd (upd (upd (r_heaps z_h) x1.toNatClampNeg (((r_heaps z_h) x1.toNatClampNeg) - q2)) q4.toNatClampNeg (((upd (r_heaps z_h) x1.toNatClampNeg (((r_heaps z_h) x1.toNatClampNeg) - q2)) q4.toNatClampNeg) + q2)) x1.toNatClampNeg (((upd (upd (r_heaps z_h) x1.toNatClampNeg (((r_heaps z_h) x1.toNatClampNeg) - q2)) q4.toNatClampNeg (((upd (r_heaps z_h) x1.toNatClampNeg (((r_heaps z_h) x1.toNatClampNeg) - q2)) q4.toNatClampNeg) + q2)) x1.toNatClampNeg) - q2)), (r_children z_h), (r_strokes z_h), (r_gave z_h), (r_threw z_h)) x1).bind fun q7 =>
    if q7 < 0 ∨ 8 ≤ q7.toNatClampNeg then none else
    f_Ring_handOn_L17 k n ((r_kinds z_h), (r_sweets z_h), (r_settings z_h), (upd (upd (upd (upd (r_heaps z_h) x1.toNatClampNeg (((r_heaps z_h) x1.toNatClampNeg) - q2)) q4.toNatClampNeg (((upd (r_heaps z_h) x1.toNatClampNeg (((r_heaps z_h) x1.toNatClampNeg) - q2)) q4.toNatClampNeg) + q2)) x1.toNatClampNeg (((upd (upd (r_heaps z_h) x1.toNatClampNeg (((r_heaps z_h) x1.toNatClampNeg) - q2)) q4.toNatClampNeg (((upd (r_heaps z_h) x1.toNatClampNeg (((r_heaps z_h) x1.toNatClampNeg) - q2)) q4.toNatClampNeg) + q2)) x1.toNatClampNeg) - q2)) q7.toNatClampNeg (((upd (upd (upd (r_heaps z_h) x1.toNatClampNeg (((r_heaps z_h) x1.toNatClampNeg) - q2)) q4.toNatClampNeg (((upd (r_heaps z_h) x1.toNatClampNeg (((r_heaps z_h) x1.toNatClampNeg) - q2)) q4.toNatClampNeg) + q2)) x1.toNatClampNeg (((upd (upd (r_heaps z_h) x1.toNatClampNeg (((r_heaps z_h) x1.toNatClampNeg) - q2)) q4.toNatClampNeg (((upd (r_heaps z_h) x1.toNatClampNeg (((r_heaps z_h) x1.toNatClampNeg) - q2)) q4.toNatClampNeg) + q2)) x1.toNatClampNeg) - q2)) q7.toNatClampNeg) + q2)), (r_children z_h), (r_strokes z_h), (r_gave z_h), (r_threw z_h)) (x1 + 1)
   else
    f_Ring_handOn_L17 k n ((r_kinds z_h), (r_sweets z_h), (r_settings z_h), (upd (upd (r_heaps z_h) x1.toNatClampNeg (((r_heaps z_h) x1.toNatClampNeg) - q2)) q4.toNatClampNeg (((upd (r_heaps z_h) x1.toNatClampNeg (((r_heaps z_h) x1.toNatClampNeg) - q2)) q4.toNatClampNeg) + q2)), (r_children z_h), (r_strokes z_h), (r_gave z_h), (r_threw z_h)) (x1 + 1)
def f_Ring_handOn_L97 : Nat → RS → Int32 → Option (RS)
  | 0, _, _ => none
  | n + 1, z_h, x1 =>
  if (r_children z_h) ≤ x1 then
   some z_h
  else
   if x1 < 0 ∨ 8 ≤ x1.toNatClampNeg then none else
   f_Ring_handOn_L97 n ((r_kinds z_h), (upd (r_sweets z_h) x1.toNatClampNeg (jmin ((r_heaps z_h) x1.toNatClampNeg) 999)), (r_settings z_h), (r_heaps z_h), (r_children z_h), (r_strokes z_h), (r_gave z_h), (r_threw z_h)) (x1 + 1)
def f_Ring_handOn (z_h : RS) : Option (RS) :=
 f_Ring_handOn_L17 (fun z_h_9 =>
  f_Ring_handOn_L97 FU z_h_9 0) FU ((r_kinds z_h), (r_sweets z_h), (r_settings z_h), (va_cpy (r_sweets z_h) (r_heaps z_h) 0 0 8), (r_children z_h), (r_strokes z_h), (r_gave z_h), (r_threw z_h)) 0
def f_Ring_mend (z_h : RS) (x1 : Int32) : Option (RS) :=
 if ((r_settings z_h) 0) = 0 then
  if ((r_settings z_h) 2) ≤ 0 then
   some z_h
  else
   if x1 < 0 ∨ 8 ≤ x1.toNatClampNeg then none else
   some ((r_kinds z_h), (upd (r_sweets z_h) x1.toNatClampNeg (jmin (((r_sweets z_h) x1.toNatClampNeg) + 1) 999)), (upd (r_settings z_h) 2 (((r_settings z_h) 2) - 1)), (r_heaps z_h), (r_children z_h), (r_strokes z_h), ((r_gave z_h) + 1), (r_threw z_h))
 else
  if ((r_settings z_h) 0) = 1 then
   if x1 < 0 ∨ 8 ≤ x1.toNatClampNeg then none else
   some ((r_kinds z_h), (upd (r_sweets z_h) x1.toNatClampNeg (((r_sweets z_h) x1.toNatClampNeg) - 1)), (r_settings z_h), (r_heaps z_h), (r_children z_h), (r_strokes z_h), (r_gave z_h), ((r_threw z_h) + 1))
  else
   some z_h
def f_Ring_strike_L11 (x1 : Int32) : Nat → RS → Int32 → Option (Int32 × RS)
  | 0, _, _ => none
  | n + 1, z_h, x2 =>
  if (r_children z_h) ≤ x2 then
   some (((r_gave z_h) - x1), ((r_kinds z_h), (r_sweets z_h), (r_settings z_h), (r_heaps z_h), (r_children z_h), ((r_strokes z_h) + 1), (r_gave z_h), (r_threw z_h)))
  else
   if x2 < 0 ∨ 8 ≤ x2.toNatClampNeg then none else
   if (((r_sweets z_h) x2.toNatClampNeg) % 2) = 1 then
    (f_Ring_mend z_h x2).bind fun q5 =>
    f_Ring_strike_L11 x1 n q5 (x2 + 1)
   else
    f_Ring_strike_L11 x1 n z_h (x2 + 1)
def f_Ring_strike (z_h : RS) : Option (Int32 × RS) :=
 (f_Ring_handOn z_h).bind fun q1 =>
 f_Ring_strike_L11 (r_gave z_h) FU q1 0
def f_X_stroke (z_h_now : RS) (z_h_refusals : (Nat → Int32)) : Option (Int32 × RS × (Nat → Int32)) :=
 if (r_children z_h_now) = 0 then
  (f_X_refuse z_h_refusals (-3)).bind fun q3 =>
  some (q3.1, z_h_now, q3.2)
 else
  (f_Ring_strike z_h_now).bind fun q2 =>
  some (q2.1, q2.2, z_h_refusals)
def f_Ring_strikeOften_L2 (x1 : Int32) : Nat → RS → Int32 → Option (RS)
  | 0, _, _ => none
  | n + 1, z_h, x2 =>
  if x1 ≤ x2 then
   some z_h
  else
   (f_Ring_strike z_h).bind fun q2 =>
   f_Ring_strikeOften_L2 x1 n q2.2 (x2 + 1)
def f_Ring_strikeOften (z_h : RS) (x1 : Int32) : Option (RS) :=
 f_Ring_strikeOften_L2 x1 FU z_h 0
def f_Mind_sweetsBehind (z_h_one : RS) (z_g1 : RS) (x2 : Int32) (x3 : Int32) : Option (Int32 × RS) :=
 (f_Ring_copyFrom z_h_one z_g1).bind fun q1 =>
 (f_Ring_strikeOften q1 x3).bind fun q2 =>
 if x2 < 0 ∨ 8 ≤ x2.toNatClampNeg then none else
 some (((r_sweets q2) x2.toNatClampNeg), q2)
def f_X_run (z_h_now : RS) (z_h_refusals : (Nat → Int32)) (z_h_mind_one : RS) (x1 : Int32) (x2 : Int32) : Option (Int32 × (Nat → Int32) × RS) :=
 (f_Ring_has z_h_now x1).bind fun q1 =>
 if q1 = 0 then
  (f_X_refuse z_h_refusals (-1)).bind fun q3 =>
  some (q3.1, q3.2, z_h_mind_one)
 else
  (f_X_outside x2 0 200).bind fun q4 =>
  if q4 = 0 then
   (f_Mind_sweetsBehind z_h_mind_one z_h_now x1 x2).bind fun q6 =>
   some (q6.1, z_h_refusals, q6.2)
  else
   (f_X_refuse z_h_refusals q4).bind fun q7 =>
   some (q7.1, q7.2, z_h_mind_one)
def f_X_isPart (x0 : Int32) : Option (Int32) :=
 if x0 = 0 then
  some 1
 else
  if x0 = 1 then
   some 1
  else
   some 0
def f_Mind_gaveIn (z_h_one : RS) (z_g1 : RS) (x2 : Int32) : Option (Int32 × RS) :=
 (f_Ring_copyFrom z_h_one z_g1).bind fun q1 =>
 (f_Ring_strikeOften q1 x2).bind fun q2 =>
 some (((r_gave q2) - (r_gave z_g1)), q2)
def f_Mind_threwIn (z_h_one : RS) (z_g1 : RS) (x2 : Int32) : Option (Int32 × RS) :=
 (f_Ring_copyFrom z_h_one z_g1).bind fun q1 =>
 (f_Ring_strikeOften q1 x2).bind fun q2 =>
 some (((r_threw q2) - (r_threw z_g1)), q2)
def f_X_given (z_h_now : RS) (z_h_refusals : (Nat → Int32)) (z_h_mind_one : RS) (x1 : Int32) (x2 : Int32) : Option (Int32 × (Nat → Int32) × RS) :=
 (f_X_isPart x2).bind fun q1 =>
 if q1 = 0 then
  (f_X_refuse z_h_refusals (-2)).bind fun q3 =>
  some (q3.1, q3.2, z_h_mind_one)
 else
  (f_X_outside x1 0 200).bind fun q4 =>
  if q4 = 0 then
   if x2 = 0 then
    (f_Mind_gaveIn z_h_mind_one z_h_now x1).bind fun q8 =>
    some (q8.1, z_h_refusals, q8.2)
   else
    (f_Mind_threwIn z_h_mind_one z_h_now x1).bind fun q7 =>
    some (q7.1, z_h_refusals, q7.2)
  else
   (f_X_refuse z_h_refusals q4).bind fun q9 =>
   some (q9.1, q9.2, z_h_mind_one)
def f_Ring_hasSweetsOf_L2 (z_h : RS) (z_g1 : RS) : Nat → Int32 → Option (Int32)
  | 0, _ => none
  | n + 1, x2 =>
  if (r_children z_h) ≤ x2 then
   some 1
  else
   if x2 < 0 ∨ 8 ≤ x2.toNatClampNeg then none else
   if ((r_sweets z_h) x2.toNatClampNeg) = ((r_sweets z_g1) x2.toNatClampNeg) then
    f_Ring_hasSweetsOf_L2 z_h z_g1 n (x2 + 1)
   else
    some 0
def f_Ring_hasSweetsOf (z_h : RS) (z_g1 : RS) : Option (Int32) :=
 f_Ring_hasSweetsOf_L2 z_h z_g1 FU 0
def f_Mind_restsBehind_L18 : Nat → RS → RS → Int32 → Option (Int32 × RS × RS)
  | 0, _, _, _ => none
  | n + 1, z_h_one, z_h_two, x2 =>
  if 200 < x2 then
   some ((-9), z_h_one, z_h_two)
  else
   (f_Ring_strike z_h_two).bind fun q4 =>
   (f_Ring_hasSweetsOf q4.2 z_h_one).bind fun q5 =>
   if q5 = 0 then
    (f_Ring_copyFrom z_h_one q4.2).bind fun q7 =>
    f_Mind_restsBehind_L18 n q7 q4.2 (x2 + 1)
   else
    some (x2, z_h_one, q4.2)
def f_Mind_restsBehind (z_h_one : RS) (z_h_two : RS) (z_g1 : RS) : Option (Int32 × RS × RS) :=
 (f_Ring_copyFrom z_h_one z_g1).bind fun q1 =>
 (f_Ring_copyFrom z_h_two z_g1).bind fun q2 =>
 f_Mind_restsBehind_L18 FU q1 q2 0
def f_X_rests (z_h_now : RS) (z_h_refusals : (Nat → Int32)) (z_h_mind_one : RS) (z_h_mind_two : RS) : Option (Int32 × (Nat → Int32) × RS × RS) :=
 if (r_children z_h_now) = 0 then
  (f_X_refuse z_h_refusals (-3)).bind fun q3 =>
  some (q3.1, q3.2, z_h_mind_one, z_h_mind_two)
 else
  (f_Mind_restsBehind z_h_mind_one z_h_mind_two z_h_now).bind fun q2 =>
  some (q2.1, z_h_refusals, q2.2.1, q2.2.2)
def f_Ring_allHaveAlike_L2 (z_h : RS) : Nat → Int32 → Option (Int32)
  | 0, _ => none
  | n + 1, x1 =>
  if (r_children z_h) ≤ x1 then
   some 1
  else
   if x1 < 0 ∨ 8 ≤ x1.toNatClampNeg then none else
   if ((r_sweets z_h) x1.toNatClampNeg) = ((r_sweets z_h) 0) then
    f_Ring_allHaveAlike_L2 z_h n (x1 + 1)
   else
    some 0
def f_Ring_allHaveAlike (z_h : RS) : Option (Int32) :=
 f_Ring_allHaveAlike_L2 z_h FU 1
def f_Mind_alikeWithin_L2 (x1 : Int32) : Nat → RS → Int32 → Option (Int32 × RS)
  | 0, _, _ => none
  | n + 1, z_g0, x2 =>
  if x1 < x2 then
   some ((-9), z_g0)
  else
   (f_Ring_allHaveAlike z_g0).bind fun q2 =>
   if q2 = 0 then
    (f_Ring_strike z_g0).bind fun q4 =>
    f_Mind_alikeWithin_L2 x1 n q4.2 (x2 + 1)
   else
    some (x2, z_g0)
def f_Mind_alikeWithin (z_g0 : RS) (x1 : Int32) : Option (Int32 × RS) :=
 f_Mind_alikeWithin_L2 x1 FU z_g0 0
def f_Mind_alikeBehind (z_h_one : RS) (z_g1 : RS) : Option (Int32 × RS) :=
 (f_Ring_copyFrom z_h_one z_g1).bind fun q1 =>
 (f_Mind_alikeWithin q1 200).bind fun q2 =>
 some (q2.1, q2.2)
def f_X_alike (z_h_now : RS) (z_h_refusals : (Nat → Int32)) (z_h_mind_one : RS) : Option (Int32 × (Nat → Int32) × RS) :=
 if (r_children z_h_now) = 0 then
  (f_X_refuse z_h_refusals (-3)).bind fun q3 =>
  some (q3.1, q3.2, z_h_mind_one)
 else
  (f_Mind_alikeBehind z_h_mind_one z_h_now).bind fun q2 =>
  some (q2.1, z_h_refusals, q2.2)
def f_Ring_hasSweetsAndBagOf (z_h : RS) (z_g1 : RS) : Option (Int32) :=
 if ((r_settings z_h) 2) = ((r_settings z_g1) 2) then
  (f_Ring_hasSweetsOf z_h z_g1).bind fun q2 =>
  if q2 = 0 then
   some 0
  else
   some 1
 else
  some 0
def f_Mind_roundOf_L30 (z_h_one : RS) : Nat → RS → Int32 → Option (Int32 × RS × RS)
  | 0, _, _ => none
  | n + 1, z_h_two, x2 =>
  if 100 < x2 then
   some ((-9), z_h_one, z_h_two)
  else
   (f_Ring_strike z_h_two).bind fun q5 =>
   (f_Ring_hasSweetsAndBagOf q5.2 z_h_one).bind fun q6 =>
   if q6 = 0 then
    f_Mind_roundOf_L30 z_h_one n q5.2 (x2 + 1)
   else
    some (x2, z_h_one, q5.2)
def f_Mind_roundOf (z_h_one : RS) (z_h_two : RS) (z_g1 : RS) : Option (Int32 × RS × RS) :=
 (f_Ring_copyFrom z_h_one z_g1).bind fun q1 =>
 (f_Ring_strikeOften q1 100).bind fun q2 =>
 (f_Ring_copyFrom z_h_two q2).bind fun q3 =>
 f_Mind_roundOf_L30 q2 FU q3 1
def f_Mind_aheadOfRound_L26 : Nat → RS → RS → Int32 → Option (Int32 × RS × RS)
  | 0, _, _, _ => none
  | n + 1, z_h_one, z_h_two, x3 =>
  if 100 < x3 then
   some ((-9), z_h_one, z_h_two)
  else
   (f_Ring_hasSweetsAndBagOf z_h_two z_h_one).bind fun q5 =>
   if q5 = 0 then
    (f_Ring_strike z_h_one).bind fun q7 =>
    (f_Ring_strike z_h_two).bind fun q8 =>
    f_Mind_aheadOfRound_L26 n q7.2 q8.2 (x3 + 1)
   else
    some (x3, z_h_one, z_h_two)
def f_Mind_aheadOfRound (z_h_one : RS) (z_h_two : RS) (z_g1 : RS) (x2 : Int32) : Option (Int32 × RS × RS) :=
 (f_Ring_copyFrom z_h_one z_g1).bind fun q1 =>
 (f_Ring_copyFrom z_h_two z_g1).bind fun q2 =>
 (f_Ring_strikeOften q2 x2).bind fun q3 =>
 f_Mind_aheadOfRound_L26 FU q1 q3 0
def f_X_ring (z_h_now : RS) (z_h_refusals : (Nat → Int32)) (z_h_mind_one : RS) (z_h_mind_two : RS) (x1 : Int32) : Option (Int32 × (Nat → Int32) × RS × RS) :=
 (f_X_isPart x1).bind fun q1 =>
 if q1 = 0 then
  (f_X_refuse z_h_refusals (-2)).bind fun q9 =>
  some (q9.1, q9.2, z_h_mind_one, z_h_mind_two)
 else
  if (r_children z_h_now) = 0 then
   (f_X_refuse z_h_refusals (-3)).bind fun q8 =>
   some (q8.1, q8.2, z_h_mind_one, z_h_mind_two)
  else
   (f_Mind_roundOf z_h_mind_one z_h_mind_two z_h_now).bind fun q4 =>
   if q4.1 = (-9) then
    some (q4.1, z_h_refusals, q4.2.1, q4.2.2)
   else
    if x1 = 1 then
     some (q4.1, z_h_refusals, q4.2.1, q4.2.2)
    else
     (f_Mind_aheadOfRound q4.2.1 q4.2.2 z_h_now q4.1).bind fun q7 =>
     some (q7.1, z_h_refusals, q7.2.1, q7.2.2)
def f_X_areTwo (z_h_now : RS) (x1 : Int32) (x2 : Int32) : Option (Int32) :=
 (f_Ring_has z_h_now x1).bind fun q1 =>
 if q1 = 0 then
  some 0
 else
  (f_Ring_has z_h_now x2).bind fun q3 =>
  if q3 = 0 then
   some 0
  else
   if x1 = x2 then
    some 0
   else
    some 1
def f_Mind_meetBehind_L11 (x2 : Int32) (x3 : Int32) : Nat → RS → Int32 → Option (Int32 × RS)
  | 0, _, _ => none
  | n + 1, z_h_one, x4 =>
  if 200 < x4 then
   some ((-9), z_h_one)
  else
   if x2 < 0 ∨ 8 ≤ x2.toNatClampNeg then none else
   if x3 < 0 ∨ 8 ≤ x3.toNatClampNeg then none else
   if ((r_sweets z_h_one) x2.toNatClampNeg) = ((r_sweets z_h_one) x3.toNatClampNeg) then
    some (x4, z_h_one)
   else
    (f_Ring_strike z_h_one).bind fun q6 =>
    f_Mind_meetBehind_L11 x2 x3 n q6.2 (x4 + 1)
def f_Mind_meetBehind (z_h_one : RS) (z_g1 : RS) (x2 : Int32) (x3 : Int32) : Option (Int32 × RS) :=
 (f_Ring_copyFrom z_h_one z_g1).bind fun q1 =>
 f_Mind_meetBehind_L11 x2 x3 FU q1 0
def f_X_meet (z_h_now : RS) (z_h_refusals : (Nat → Int32)) (z_h_mind_one : RS) (x1 : Int32) (x2 : Int32) : Option (Int32 × (Nat → Int32) × RS) :=
 (f_X_areTwo z_h_now x1 x2).bind fun q1 =>
 if q1 = 0 then
  (f_X_refuse z_h_refusals (-1)).bind fun q4 =>
  some (q4.1, q4.2, z_h_mind_one)
 else
  (f_Mind_meetBehind z_h_mind_one z_h_now x1 x2).bind fun q3 =>
  some (q3.1, z_h_refusals, q3.2)
def f_Crumbs_begin_L7 (z_h_doublings : Int32) (z_g1 : RS) : Nat → (Nat → Int64) → Int32 → Option (Int32 × (Nat → Int64))
  | 0, _, _ => none
  | n + 1, z_h_have, x2 =>
  if (r_children z_g1) ≤ x2 then
   some (z_h_doublings, z_h_have)
  else
   if x2 < 0 ∨ 8 ≤ x2.toNatClampNeg then none else
   f_Crumbs_begin_L7 z_h_doublings z_g1 n (vp_updL z_h_have x2.toNatClampNeg (((r_sweets z_g1) x2.toNatClampNeg).toInt64)) (x2 + 1)
def f_Crumbs_begin (z_h_doublings : Int32) (z_h_have : (Nat → Int64)) (z_g1 : RS) : Option (Int32 × (Nat → Int64)) :=
 f_Crumbs_begin_L7 0 z_g1 FU z_h_have 0
def f_Crumbs_advance_L2 (z_h_have : (Nat → Int64)) (z_g1 : RS) (k : (Nat → Int64) → Option (Int32 × (Nat → Int64) × (Nat → Int64))) : Nat → (Nat → Int64) → Int32 → Option (Int32 × (Nat → Int64) × (Nat → Int64))
  | 0, _, _ => none
  | n + 1, z_h_next, x2 =>
  if (r_children z_g1) ≤ x2 then
   k z_h_next
  else
   if x2 < 0 ∨ 8 ≤ x2.toNatClampNeg then none else
   (f_Ring_rightOf z_g1 x2).bind fun q3 =>
   if q3 < 0 ∨ 8 ≤ q3.toNatClampNeg then none else
   f_Crumbs_advance_L2 z_h_have z_g1 k n (vp_updL z_h_next x2.toNatClampNeg ((z_h_have x2.toNatClampNeg) + (z_h_have q3.toNatClampNeg))) (x2 + 1)
def f_Crumbs_advance (z_h_doublings : Int32) (z_h_have : (Nat → Int64)) (z_h_next : (Nat → Int64)) (z_g1 : RS) : Option (Int32 × (Nat → Int64) × (Nat → Int64)) :=
 f_Crumbs_advance_L2 z_h_have z_g1 (fun z_h_next_5 =>
  some ((z_h_doublings + 1), (va_cpy z_h_next_5 z_h_have 0 0 8), z_h_next_5)) FU z_h_next 0
def f_Crumbs_take_L7 (z_g1 : RS) (x2 : Int32) : Nat → Int32 → (Nat → Int64) → (Nat → Int64) → Int32 → Option (Int32 × (Nat → Int64) × (Nat → Int64))
  | 0, _, _, _, _ => none
  | n + 1, z_h_doublings, z_h_have, z_h_next, x3 =>
  if x2 ≤ x3 then
   some (z_h_doublings, z_h_have, z_h_next)
  else
   (f_Crumbs_advance z_h_doublings z_h_have z_h_next z_g1).bind fun q3 =>
   f_Crumbs_take_L7 z_g1 x2 n q3.1 q3.2.1 q3.2.2 (x3 + 1)
def f_Crumbs_take (z_h_doublings : Int32) (z_h_have : (Nat → Int64)) (z_h_next : (Nat → Int64)) (z_g1 : RS) (x2 : Int32) : Option (Int32 × (Nat → Int64) × (Nat → Int64)) :=
 (f_Crumbs_begin z_h_doublings z_h_have z_g1).bind fun q1 =>
 f_Crumbs_take_L7 z_g1 x2 FU q1.1 q1.2 z_h_next 0
def f_Crumbs_halvings_L2 (z_h_doublings : Int32) (z_h_have : (Nat → Int64)) (x1 : Int32) : Nat → Int32 → Option (Int32)
  | 0, _ => none
  | n + 1, x2 =>
  if z_h_doublings ≤ x2 then
   some x2
  else
   if x1 < 0 ∨ 8 ≤ x1.toNatClampNeg then none else
   if (lg_cmp (((z_h_have x1.toNatClampNeg) >>> (x2.toInt64 &&& 63)) % 2) 0) = 0 then
    f_Crumbs_halvings_L2 z_h_doublings z_h_have x1 n (x2 + 1)
   else
    some x2
def f_Crumbs_halvings (z_h_doublings : Int32) (z_h_have : (Nat → Int64)) (x1 : Int32) : Option (Int32) :=
 f_Crumbs_halvings_L2 z_h_doublings z_h_have x1 FU 0
def f_Crumbs_above (z_h_doublings : Int32) (z_h_have : (Nat → Int64)) (x1 : Int32) : Option (Int64) :=
 if x1 < 0 ∨ 8 ≤ x1.toNatClampNeg then none else
 (f_Crumbs_halvings z_h_doublings z_h_have x1).bind fun q2 =>
 some ((z_h_have x1.toNatClampNeg) >>> (q2.toInt64 &&& 63))
def f_Crumbs_below (z_h_doublings : Int32) (z_h_have : (Nat → Int64)) (x1 : Int32) : Option (Int64) :=
 (f_Crumbs_halvings z_h_doublings z_h_have x1).bind fun q1 =>
 some (1 <<< ((z_h_doublings - q1).toInt64 &&& 63))
def f_X_crumbs (z_h_now : RS) (z_h_refusals : (Nat → Int32)) (z_h_parts_doublings : Int32) (z_h_parts_have : (Nat → Int64)) (z_h_parts_next : (Nat → Int64)) (x1 : Int32) (x2 : Int32) (x3 : Int32) : Option (Int64 × (Nat → Int32) × Int32 × (Nat → Int64) × (Nat → Int64)) :=
 (f_X_outside x2 0 20).bind fun q1 =>
 (f_Ring_has z_h_now x1).bind fun q2 =>
 if q2 = 0 then
  (f_X_refuse z_h_refusals (-1)).bind fun q13 =>
  some ((4000000000000000000 - (q13.1.toInt64)), q13.2, z_h_parts_doublings, z_h_parts_have, z_h_parts_next)
 else
  (f_X_isPart x3).bind fun q4 =>
  if q4 = 0 then
   (f_X_refuse z_h_refusals (-2)).bind fun q12 =>
   some ((4000000000000000000 - (q12.1.toInt64)), q12.2, z_h_parts_doublings, z_h_parts_have, z_h_parts_next)
  else
   if q1 = 0 then
    (f_Crumbs_take z_h_parts_doublings z_h_parts_have z_h_parts_next z_h_now x2).bind fun q7 =>
    if x3 = 0 then
     (f_Crumbs_above q7.1 q7.2.1 x1).bind fun q10 =>
     some (q10, z_h_refusals, q7.1, q7.2.1, q7.2.2)
    else
     (f_Crumbs_below q7.1 q7.2.1 x1).bind fun q9 =>
     some (q9, z_h_refusals, q7.1, q7.2.1, q7.2.2)
   else
    (f_X_refuse z_h_refusals q1).bind fun q11 =>
    some ((4000000000000000000 - (q11.1.toInt64)), q11.2, z_h_parts_doublings, z_h_parts_have, z_h_parts_next)
def f_Ring_allSweets_L4 (z_h : RS) : Nat → Int32 → Int32 → Option (Int32)
  | 0, _, _ => none
  | n + 1, x1, x2 =>
  if (r_children z_h) ≤ x2 then
   some x1
  else
   if x2 < 0 ∨ 8 ≤ x2.toNatClampNeg then none else
   f_Ring_allSweets_L4 z_h n (x1 + ((r_sweets z_h) x2.toNatClampNeg)) (x2 + 1)
def f_Ring_allSweets (z_h : RS) : Option (Int32) :=
 f_Ring_allSweets_L4 z_h FU 0 0
def f_Ring_commonDivisor_L10 (z_h : RS) (x1 : Int32) : Nat → Int32 → Option (Int32)
  | 0, _ => none
  | n + 1, x2 =>
  if x2 ≤ 1 then
   some 1
  else
   if x2 = 0 then none else
   if ((r_children z_h) % x2) = 0 then
    if (x1 % x2) = 0 then
     some x2
    else
     f_Ring_commonDivisor_L10 z_h x1 n (x2 + (-1))
   else
    f_Ring_commonDivisor_L10 z_h x1 n (x2 + (-1))
def f_Ring_commonDivisor (z_h : RS) : Option (Int32) :=
 (f_Ring_allSweets z_h).bind fun q1 =>
 f_Ring_commonDivisor_L10 z_h q1 FU (r_children z_h)
def f_X_mean (z_h_now : RS) (z_h_refusals : (Nat → Int32)) (x1 : Int32) : Option (Int32 × (Nat → Int32)) :=
 (f_X_isPart x1).bind fun q1 =>
 if q1 = 0 then
  (f_X_refuse z_h_refusals (-2)).bind fun q10 =>
  some (q10.1, q10.2)
 else
  if (r_children z_h_now) = 0 then
   (f_X_refuse z_h_refusals (-3)).bind fun q9 =>
   some (q9.1, q9.2)
  else
   (f_Ring_commonDivisor z_h_now).bind fun q4 =>
   if x1 = 0 then
    (f_Ring_allSweets z_h_now).bind fun q7 =>
    if (jmax q4 1) = 0 then none else
    some ((q7 / (jmax q4 1)), z_h_refusals)
   else
    if (jmax q4 1) = 0 then none else
    some (((r_children z_h_now) / (jmax q4 1)), z_h_refusals)
def f_Ring_oddHeaps_L4 (z_h : RS) : Nat → Int32 → Int32 → Option (Int32)
  | 0, _, _ => none
  | n + 1, x1, x2 =>
  if (r_children z_h) ≤ x2 then
   some x1
  else
   if x2 < 0 ∨ 8 ≤ x2.toNatClampNeg then none else
   f_Ring_oddHeaps_L4 z_h n (x1 + (((r_sweets z_h) x2.toNatClampNeg) % 2)) (x2 + 1)
def f_Ring_oddHeaps (z_h : RS) : Option (Int32) :=
 f_Ring_oddHeaps_L4 z_h FU 0 0
def f_X_count (z_h_numberCount : Int32) (z_h_now : RS) (z_h_letters_length : Int32) (z_h_refusals : (Nat → Int32)) (x1 : Int32) : Option (Int32) :=
 if x1 = 0 then
  some (r_children z_h_now)
 else
  if x1 = 1 then
   (f_Ring_allSweets z_h_now).bind fun q3 =>
   some q3
  else
   if x1 = 2 then
    some (r_strokes z_h_now)
   else
    if x1 = 3 then
     some (r_gave z_h_now)
    else
     if x1 = 4 then
      some (r_threw z_h_now)
     else
      if x1 = 5 then
       some z_h_letters_length
      else
       if x1 = 6 then
        some z_h_numberCount
       else
        if x1 = 7 then
         (f_Ring_oddHeaps z_h_now).bind fun q10 =>
         some q10
        else
         if x1 < 11 then
          some (-9)
         else
          if 16 < x1 then
           some (-9)
          else
           if (x1 - 10) < 0 ∨ 7 ≤ (x1 - 10).toNatClampNeg then none else
           some (z_h_refusals (x1 - 10).toNatClampNeg)
