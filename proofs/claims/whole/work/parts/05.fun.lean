/-! What each method does, as a function: none where the machine itself would throw, or where a loop has run FU times. Printed by wip/whole/gen out of the bytecode. -/
def f_X_refuse (z_h_refusals : (Nat → Int32)) (x1 : Int32) : Option (Int32 × (Nat → Int32)) :=
 if x1 < (-6) then
  some (x1, z_h_refusals)
 else
  if (-1) < x1 then
   some (x1, z_h_refusals)
  else
   if (-x1) < 0 ∨ 7 ≤ (-x1).toNatClampNeg then none else
   some (x1, (upd z_h_refusals (-x1).toNatClampNeg ((z_h_refusals (-x1).toNatClampNeg) + 1)))
def f_Letters_add (z_h_length : Int32) (z_h_text : (Nat → Int32)) (x1 : Int32) : Option (Int32 × Int32 × (Nat → Int32)) :=
 if 64 ≤ z_h_length then
  some (z_h_length, z_h_length, z_h_text)
 else
  if z_h_length < 0 ∨ 64 ≤ z_h_length.toNatClampNeg then none else
  some ((z_h_length + 1), (z_h_length + 1), (upd z_h_text z_h_length.toNatClampNeg (vp_nar .char x1)))
def f_X_feed (z_h_letters_length : Int32) (z_h_letters_text : (Nat → Int32)) (z_h_refusals : (Nat → Int32)) (x1 : Int32) : Option (Int32 × Int32 × (Nat → Int32) × (Nat → Int32)) :=
 if 0 ≤ x1 then
  if 255 < x1 then
   (f_X_refuse z_h_refusals (-6)).bind fun q3 =>
   some (q3.1, z_h_letters_length, z_h_letters_text, q3.2)
  else
   if z_h_letters_length < 64 then
    (f_Letters_add z_h_letters_length z_h_letters_text ((x1.toUInt32 % 65536).toInt32)).bind fun q5 =>
    some (q5.1, q5.2.1, q5.2.2, z_h_refusals)
   else
    (f_X_refuse z_h_refusals (-6)).bind fun q6 =>
    some (q6.1, z_h_letters_length, z_h_letters_text, q6.2)
 else
  (f_X_refuse z_h_refusals (-4)).bind fun q7 =>
  some (q7.1, z_h_letters_length, z_h_letters_text, q7.2)
def f_Letters_behindStart (x0 : Int32) : Option (Int32) :=
 if x0 = 99 then
  some 1
 else
  if x0 = 103 then
   some 2
  else
   if x0 = 108 then
    some 6
   else
    some (-1)
def f_Letters_isDigit (x0 : Int32) : Option (Int32) :=
 if x0 < 48 then
  some 0
 else
  if 57 < x0 then
   some 0
  else
   some 1
def f_Letters_behindEnd (x0 : Int32) : Option (Int32) :=
 if x0 = 59 then
  some 0
 else
  some (-1)
def f_Str_isLatin1 : Option (Int32) :=
 some 1
def f_Str_coder : Option (Int32) :=
 some 0
def f_Str_length : Option (Int32) :=
 (f_Str_coder).bind fun q1 =>
 some ((7 : Int32) >>> (q1 &&& 31))
def f_Lat_canEncode (x0 : Int32) : Option (Int32) :=
 if x0 < 0 then
  some 0
 else
  if 255 < x0 then
   some 0
  else
   some 1
def f_Lat_indexOfChar_L7 (x3 : Int32) (x4 : Int32) : Nat → Int32 → Option (Int32)
  | 0, _ => none
  | n + 1, x5 =>
  if x3 ≤ x5 then
   some (-1)
  else
   if x5 < 0 ∨ 7 ≤ x5.toNatClampNeg then none else
   if (s_text x5.toNatClampNeg) = x4 then
    some x5
   else
    f_Lat_indexOfChar_L7 x3 x4 n (x5 + 1)
def f_Lat_indexOfChar (x1 : Int32) (x2 : Int32) (x3 : Int32) : Option (Int32) :=
 f_Lat_indexOfChar_L7 x3 (x1.toInt8.toInt32) FU x2
def f_Lat_indexOf (x1 : Int32) (x2 : Int32) (x3 : Int32) : Option (Int32) :=
 (f_Lat_canEncode x1).bind fun q1 =>
 if q1 = 0 then
  some (-1)
 else
  if (jmax x2 0) < (jmin x3 7) then
   (f_Lat_indexOfChar x1 (jmax x2 0) (jmin x3 7)).bind fun q4 =>
   some q4
  else
   some (-1)
def f_Str_indexOf2 (x1 : Int32) (x2 : Int32) : Option (Int32) :=
 (f_Str_isLatin1).bind fun q1 =>
 if q1 = 0 then
  (f_Str_length).bind fun q3 =>
  none
 else
  (f_Str_length).bind fun q4 =>
  (f_Lat_indexOf x1 x2 q4).bind fun q5 =>
  some q5
def f_Str_indexOf1 (x1 : Int32) : Option (Int32) :=
 (f_Str_indexOf2 x1 0).bind fun q1 =>
 some q1
def f_Letters_behind (x0 : Int32) (x1 : Int32) : Option (Int32) :=
 if x0 = 0 then
  (f_Letters_behindStart x1).bind fun q2 =>
  some q2
 else
  if x0 = 1 then
   (f_Str_indexOf1 x1).bind fun q4 =>
   if q4 < 0 then
    some (-1)
   else
    some 2
  else
   if x0 = 2 then
    (f_Letters_isDigit x1).bind fun q7 =>
    if q7 = 0 then
     some (-1)
    else
     some 3
   else
    if x0 = 3 then
     (f_Letters_isDigit x1).bind fun q10 =>
     if q10 = 0 then
      (f_Letters_behindEnd x1).bind fun q12 =>
      some q12
     else
      some 4
    else
     if x0 = 4 then
      (f_Letters_isDigit x1).bind fun q14 =>
      if q14 = 0 then
       (f_Letters_behindEnd x1).bind fun q16 =>
       some q16
      else
       some 5
     else
      if x0 = 5 then
       (f_Letters_behindEnd x1).bind fun q18 =>
       some q18
      else
       if x0 = 6 then
        (f_Letters_isDigit x1).bind fun q20 =>
        if q20 = 0 then
         some (-1)
        else
         some 7
       else
        if x0 = 7 then
         (f_Letters_isDigit x1).bind fun q23 =>
         if q23 = 0 then
          some (-1)
         else
          some 5
        else
         some (-1)
def f_Letters_placeOfBadForm_L4 (z_h_length : Int32) (z_h_text : (Nat → Int32)) : Nat → Int32 → Int32 → Option (Int32)
  | 0, _, _ => none
  | n + 1, x1, x2 =>
  if z_h_length ≤ x2 then
   if z_h_length ≤ 0 then
    some z_h_length
   else
    if x1 = 0 then
     some (-1)
    else
     some z_h_length
  else
   if x2 < 0 ∨ 64 ≤ x2.toNatClampNeg then none else
   (f_Letters_behind x1 (z_h_text x2.toNatClampNeg)).bind fun q5 =>
   if q5 = (-1) then
    some x2
   else
    f_Letters_placeOfBadForm_L4 z_h_length z_h_text n q5 (x2 + 1)
def f_Letters_placeOfBadForm (z_h_length : Int32) (z_h_text : (Nat → Int32)) : Option (Int32) :=
 f_Letters_placeOfBadForm_L4 z_h_length z_h_text FU 0 0
def f_Ring_copyFrom (z_h : RS) (z_g1 : RS) : Option (RS) :=
 some ((va_cpy (r_kinds z_g1) (r_kinds z_h) 0 0 8), (va_cpy (r_sweets z_g1) (r_sweets z_h) 0 0 8), (va_cpy (r_settings z_g1) (r_settings z_h) 0 0 3), (r_heaps z_h), (r_children z_g1), (r_strokes z_g1), (r_gave z_g1), (r_threw z_g1))
def f_Letters_letterAt (z_h_length : Int32) (z_h_text : (Nat → Int32)) (x1 : Int32) : Option (Int32) :=
 if x1 < 0 then
  some 32
 else
  if z_h_length ≤ x1 then
   some 32
  else
   if x1 < 0 ∨ 64 ≤ x1.toNatClampNeg then none else
   if ¬ vp_nar .char (z_h_text x1.toNatClampNeg) = (z_h_text x1.toNatClampNeg) then none else
   some (z_h_text x1.toNatClampNeg)
def f_Letters_number_L5 (z_h_length : Int32) (z_h_text : (Nat → Int32)) (x2 : Int32) : Nat → Int32 → Int32 → Option (Int32)
  | 0, _, _ => none
  | n + 1, x3, x4 =>
  if x2 ≤ x4 then
   some x3
  else
   (f_Letters_letterAt z_h_length z_h_text x4).bind fun q2 =>
   f_Letters_number_L5 z_h_length z_h_text x2 n (((x3 * 10) + q2) - 48) (x4 + 1)
def f_Letters_number (z_h_length : Int32) (z_h_text : (Nat → Int32)) (x1 : Int32) (x2 : Int32) : Option (Int32) :=
 f_Letters_number_L5 z_h_length z_h_text x2 FU 0 x1
def f_Ring_seatLast (z_h : RS) (x1 : Int32) (x2 : Int32) : Option (Int32 × RS) :=
 if (r_children z_h) < 8 then
  if (r_children z_h) < 0 ∨ 8 ≤ (r_children z_h).toNatClampNeg then none else
  some (1, ((upd (r_kinds z_h) (r_children z_h).toNatClampNeg x1), (upd (r_sweets z_h) (r_children z_h).toNatClampNeg x2), (r_settings z_h), (r_heaps z_h), ((r_children z_h) + 1), (r_strokes z_h), (r_gave z_h), (r_threw z_h)))
 else
  some (0, z_h)
def f_X_outside (x0 : Int32) (x1 : Int32) (x2 : Int32) : Option (Int32) :=
 if x1 ≤ x0 then
  if x0 ≤ x2 then
   some 0
  else
   some (-6)
 else
  some (-4)
def f_Letters_bring (z_h_trial : RS) (x1 : Int32) (x2 : Int32) : Option (Int32 × RS) :=
 if x1 < 0 ∨ 3 ≤ x1.toNatClampNeg then none else
 (f_X_outside x2 (s_LEAST_SETTING x1.toNatClampNeg) (s_GREATEST_SETTING x1.toNatClampNeg)).bind fun q2 =>
 if q2 = 0 then
  some (1, ((r_kinds z_h_trial), (r_sweets z_h_trial), (upd (r_settings z_h_trial) x1.toNatClampNeg x2), (r_heaps z_h_trial), (r_children z_h_trial), (r_strokes z_h_trial), (r_gave z_h_trial), (r_threw z_h_trial)))
 else
  some (0, z_h_trial)
def f_Letters_carryOutOne (z_h_length : Int32) (z_h_text : (Nat → Int32)) (z_h_trial : RS) (x1 : Int32) (x2 : Int32) : Option (Int32 × RS) :=
 (f_Letters_letterAt z_h_length z_h_text x1).bind fun q1 =>
 if q1 = 99 then
  (f_Letters_letterAt z_h_length z_h_text (x1 + 1)).bind fun q3 =>
  (f_Str_indexOf1 q3).bind fun q4 =>
  (f_Letters_number z_h_length z_h_text (x1 + 2) x2).bind fun q5 =>
  (f_Ring_seatLast z_h_trial q4 q5).bind fun q6 =>
  if ¬ (q6.1 = 0 ∨ q6.1 = 1) then none else
  some (q6.1, q6.2)
 else
  if q1 = 103 then
   (f_Letters_number z_h_length z_h_text (x1 + 1) x2).bind fun q9 =>
   (f_Letters_bring z_h_trial 2 q9).bind fun q10 =>
   if ¬ (q10.1 = 0 ∨ q10.1 = 1) then none else
   some (q10.1, q10.2)
  else
   if q1 = 108 then
    (f_Letters_number z_h_length z_h_text (x1 + 1) (x1 + 2)).bind fun q13 =>
    (f_Letters_bring z_h_trial 0 q13).bind fun q14 =>
    if q14.1 = 0 then
     some (0, q14.2)
    else
     (f_Letters_number z_h_length z_h_text (x1 + 2) x2).bind fun q16 =>
     (f_Letters_bring q14.2 1 q16).bind fun q17 =>
     if q17.1 = 0 then
      some (0, q17.2)
     else
      some (1, q17.2)
   else
    some (0, z_h_trial)
def f_Letters_carryOut_L31 (z_h_length : Int32) (z_h_text : (Nat → Int32)) (z_g1 : RS) (k : RS → Int32 → Option (Int32 × RS × RS)) : Nat → RS → Int32 → Int32 → Int32 → Option (Int32 × RS × RS)
  | 0, _, _, _, _ => none
  | n + 1, z_h_trial, x3, x4, x5 =>
  if z_h_length ≤ x5 then
   k z_h_trial x3
  else
   if x5 < 0 ∨ 64 ≤ x5.toNatClampNeg then none else
   if (z_h_text x5.toNatClampNeg) = 59 then
    (f_Letters_carryOutOne z_h_length z_h_text z_h_trial x4 x5).bind fun q7 =>
    if q7.1 = 0 then
     some (((-2000) - x4), q7.2, z_g1)
    else
     f_Letters_carryOut_L31 z_h_length z_h_text z_g1 k n q7.2 (x3 + 1) (x5 + 1) (x5 + 1)
   else
    f_Letters_carryOut_L31 z_h_length z_h_text z_g1 k n z_h_trial x3 x4 (x5 + 1)
def f_Letters_carryOut (z_h_length : Int32) (z_h_text : (Nat → Int32)) (z_h_trial : RS) (z_g1 : RS) : Option (Int32 × RS × RS) :=
 (f_Letters_placeOfBadForm z_h_length z_h_text).bind fun q1 =>
 if q1 < 0 then
  (f_Ring_copyFrom z_h_trial z_g1).bind fun q3 =>
  f_Letters_carryOut_L31 z_h_length z_h_text z_g1 (fun z_h_trial_9 x3_9 =>
   (f_Ring_copyFrom z_g1 z_h_trial_9).bind fun q10 =>
   some (x3_9, z_h_trial_9, q10)) FU q3 0 0 0
 else
  some (((-1000) - q1), z_h_trial, z_g1)
def f_X_table (z_h_now : RS) (z_h_letters_length : Int32) (z_h_letters_text : (Nat → Int32)) (z_h_letters_trial : RS) : Option (Int32 × RS × Int32 × RS) :=
 (f_Letters_carryOut z_h_letters_length z_h_letters_text z_h_letters_trial z_h_now).bind fun q1 =>
 some (q1.1, q1.2.2, 0, q1.2.1)
def f_Ring_has (z_h : RS) (x1 : Int32) : Option (Int32) :=
 if x1 < 0 then
  some 0
 else
  if (r_children z_h) ≤ x1 then
   some 0
  else
   some 1
def f_Ring_leftOf (z_h : RS) (x1 : Int32) : Option (Int32) :=
 if (r_children z_h) = 0 then
  some 0
 else
  some ((x1 + ((r_settings z_h) 1)) % (r_children z_h))
def f_Ring_gift (z_h : RS) (x1 : Int32) : Option (Int32) :=
 (f_Ring_leftOf z_h x1).bind fun q1 =>
 if q1 = x1 then
  some 0
 else
  if x1 < 0 ∨ 8 ≤ x1.toNatClampNeg then none else
  if q1 < 0 ∨ 8 ≤ q1.toNatClampNeg then none else
  if ((r_kinds z_h) x1.toNatClampNeg) = 0 then
   some (((r_sweets z_h) x1.toNatClampNeg) / 2)
  else
   if ((r_kinds z_h) x1.toNatClampNeg) = 1 then
    some (((r_sweets z_h) x1.toNatClampNeg) / 4)
   else
    if ((r_kinds z_h) x1.toNatClampNeg) = 2 then
     if ((r_sweets z_h) x1.toNatClampNeg) ≤ ((r_sweets z_h) q1.toNatClampNeg) then
      some 0
     else
      some (((r_sweets z_h) x1.toNatClampNeg) / 2)
    else
     if ((r_kinds z_h) x1.toNatClampNeg) = 3 then
      if ((r_sweets z_h) x1.toNatClampNeg) ≤ 0 then
       some 0
      else
       some ((((r_sweets z_h) x1.toNatClampNeg) - 1) / 2)
     else
      if ((r_kinds z_h) x1.toNatClampNeg) = 4 then
       some 0
      else
       if ((r_kinds z_h) x1.toNatClampNeg) = 5 then
        if ((r_sweets z_h) x1.toNatClampNeg) ≤ ((r_sweets z_h) q1.toNatClampNeg) then
         some 0
        else
         some ((((r_sweets z_h) x1.toNatClampNeg) - ((r_sweets z_h) q1.toNatClampNeg)) / 2)
       else
        if ((r_kinds z_h) x1.toNatClampNeg) = 6 then
         if ((r_sweets z_h) x1.toNatClampNeg) < 4 then
          some 0
         else
          some ((((r_sweets z_h) x1.toNatClampNeg) - 1) / 2)
        else
         some 0
def f_Ring_sides (z_h : RS) (x1 : Int32) : Option (Int32) :=
 (f_Ring_gift z_h x1).bind fun q1 =>
 if q1 = 0 then
  some 0
 else
  if x1 < 0 ∨ 8 ≤ x1.toNatClampNeg then none else
  if ((r_kinds z_h) x1.toNatClampNeg) = 1 then
   some 2
  else
   some 1
def f_X_child (z_h_now : RS) (z_h_refusals : (Nat → Int32)) (x1 : Int32) (x2 : Int32) : Option (Int32 × (Nat → Int32)) :=
 (f_Ring_has z_h_now x1).bind fun q1 =>
 if q1 = 0 then
  (f_X_refuse z_h_refusals (-1)).bind fun q12 =>
  some (q12.1, q12.2)
 else
  if x2 = 0 then
   if x1 < 0 ∨ 8 ≤ x1.toNatClampNeg then none else
   some (((r_kinds z_h_now) x1.toNatClampNeg), z_h_refusals)
  else
   if x2 = 1 then
    if x1 < 0 ∨ 8 ≤ x1.toNatClampNeg then none else
    some (((r_sweets z_h_now) x1.toNatClampNeg), z_h_refusals)
   else
    if x2 = 2 then
     (f_Ring_gift z_h_now x1).bind fun q8 =>
     some (q8, z_h_refusals)
    else
     if x2 = 3 then
      (f_Ring_sides z_h_now x1).bind fun q10 =>
      some (q10, z_h_refusals)
     else
      (f_X_refuse z_h_refusals (-2)).bind fun q11 =>
      some (q11.1, q11.2)
def f_X_put (z_h_now : RS) (z_h_refusals : (Nat → Int32)) (x1 : Int32) (x2 : Int32) : Option (Int32 × RS × (Nat → Int32)) :=
 (f_Ring_has z_h_now x1).bind fun q1 =>
 if q1 = 0 then
  (f_X_refuse z_h_refusals (-1)).bind fun q3 =>
  some (q3.1, z_h_now, q3.2)
 else
  (f_X_outside x2 0 999).bind fun q4 =>
  if q4 = 0 then
   if x1 < 0 ∨ 8 ≤ x1.toNatClampNeg then none else
   some (((r_sweets z_h_now) x1.toNatClampNeg), ((r_kinds z_h_now), (upd (r_sweets z_h_now) x1.toNatClampNeg x2), (r_settings z_h_now), (r_heaps z_h_now), (r_children z_h_now), (r_strokes z_h_now), (r_gave z_h_now), (r_threw z_h_now)), z_h_refusals)
  else
   (f_X_refuse z_h_refusals q4).bind fun q7 =>
   some (q7.1, z_h_now, q7.2)
def f_X_kind (z_h_now : RS) (z_h_refusals : (Nat → Int32)) (x1 : Int32) (x2 : Int32) : Option (Int32 × RS × (Nat → Int32)) :=
 (f_Ring_has z_h_now x1).bind fun q1 =>
 if q1 = 0 then
  (f_X_refuse z_h_refusals (-1)).bind fun q8 =>
  some (q8.1, z_h_now, q8.2)
 else
  if x2 < 0 then
   (f_X_refuse z_h_refusals (-2)).bind fun q4 =>
   some (q4.1, z_h_now, q4.2)
  else
   if x2 ≤ 6 then
    if x1 < 0 ∨ 8 ≤ x1.toNatClampNeg then none else
    some (((r_kinds z_h_now) x1.toNatClampNeg), ((upd (r_kinds z_h_now) x1.toNatClampNeg x2), (r_sweets z_h_now), (r_settings z_h_now), (r_heaps z_h_now), (r_children z_h_now), (r_strokes z_h_now), (r_gave z_h_now), (r_threw z_h_now)), z_h_refusals)
   else
    (f_X_refuse z_h_refusals (-2)).bind fun q7 =>
    some (q7.1, z_h_now, q7.2)
def f_X_set (z_h_now : RS) (z_h_refusals : (Nat → Int32)) (x1 : Int32) (x2 : Int32) : Option (Int32 × RS × (Nat → Int32)) :=
 if x1 < 0 then
  (f_X_refuse z_h_refusals (-2)).bind fun q2 =>
  some (q2.1, z_h_now, q2.2)
 else
  if x1 ≤ 2 then
   if x1 < 0 ∨ 3 ≤ x1.toNatClampNeg then none else
   (f_X_outside x2 (s_LEAST_SETTING x1.toNatClampNeg) (s_GREATEST_SETTING x1.toNatClampNeg)).bind fun q5 =>
   if q5 = 0 then
    some (((r_settings z_h_now) x1.toNatClampNeg), ((r_kinds z_h_now), (r_sweets z_h_now), (upd (r_settings z_h_now) x1.toNatClampNeg x2), (r_heaps z_h_now), (r_children z_h_now), (r_strokes z_h_now), (r_gave z_h_now), (r_threw z_h_now)), z_h_refusals)
   else
    (f_X_refuse z_h_refusals q5).bind fun q7 =>
    some (q7.1, z_h_now, q7.2)
  else
   (f_X_refuse z_h_refusals (-2)).bind fun q8 =>
   some (q8.1, z_h_now, q8.2)
def f_X_areTwo (z_h_now : RS) (x1 : Int32) (x2 : Int32) : Option (Int32) :=
 (f_Ring_has z_h_now x1).bind fun q1 =>
 if q1 = 0 then
  some 0
 else
  (f_Ring_has z_h_now x2).bind fun q3 =>
  if q3 = 0 then
   some 0
  else
   if x1 = x2 then
    some 0
   else
    some 1
def f_Ring_changeSweets (z_h : RS) (x1 : Int32) (x2 : Int32) : Option (RS) :=
 if x1 < 0 ∨ 8 ≤ x1.toNatClampNeg then none else
 if x2 < 0 ∨ 8 ≤ x2.toNatClampNeg then none else
 some ((r_kinds z_h), (upd (upd (r_sweets z_h) x1.toNatClampNeg ((r_sweets z_h) x2.toNatClampNeg)) x2.toNatClampNeg ((r_sweets z_h) x1.toNatClampNeg)), (r_settings z_h), (r_heaps z_h), (r_children z_h), (r_strokes z_h), (r_gave z_h), (r_threw z_h))
def f_Ring_changeSeats (z_h : RS) (x1 : Int32) (x2 : Int32) : Option (RS) :=
 if x1 < 0 ∨ 8 ≤ x1.toNatClampNeg then none else
 if x2 < 0 ∨ 8 ≤ x2.toNatClampNeg then none else
 (f_Ring_changeSweets ((upd (upd (r_kinds z_h) x1.toNatClampNeg ((r_kinds z_h) x2.toNatClampNeg)) x2.toNatClampNeg ((r_kinds z_h) x1.toNatClampNeg)), (r_sweets z_h), (r_settings z_h), (r_heaps z_h), (r_children z_h), (r_strokes z_h), (r_gave z_h), (r_threw z_h)) x1 x2).bind fun q3 =>
 some q3
def f_X_change (z_h_now : RS) (z_h_refusals : (Nat → Int32)) (x1 : Int32) (x2 : Int32) : Option (Int32 × RS × (Nat → Int32)) :=
 (f_X_areTwo z_h_now x1 x2).bind fun q1 =>
 if q1 = 0 then
  (f_X_refuse z_h_refusals (-1)).bind fun q4 =>
  some (q4.1, z_h_now, q4.2)
 else
  (f_Ring_changeSeats z_h_now x1 x2).bind fun q3 =>
  some (1, q3, z_h_refusals)
def f_Ring_rightOf (z_h : RS) (x1 : Int32) : Option (Int32) :=
 if (r_children z_h) = 0 then
  some 0
 else
  some (((x1 + (3 * (r_children z_h))) - ((r_settings z_h) 1)) % (r_children z_h))
def f_Ring_handOn_L17 (k : RS → Option (RS)) : Nat → RS → Int32 → Option (RS)
  | 0, _, _ => none
  | n + 1, z_h, x1 =>
  if (r_children z_h) ≤ x1 then
   k z_h
  else
   (f_Ring_gift z_h x1).bind fun q2 =>
   if x1 < 0 ∨ 8 ≤ x1.toNatClampNeg then none else
   (f_Ring_leftOf ((r_kinds z_h), (r_sweets z_h), (r_settings z_h), (upd (r_heaps z_h) x1.toNatClampNeg (((r_heaps z_h) x1.toNatClampNeg) - q2)), (r_children z_h), (r_strokes z_h), (r_gave z_h), (r_threw z_h)) x1).bind fun q4 =>
   if q4 < 0 ∨ 8 ≤ q4.toNatClampNeg then none else
   if ((r_kinds z_h) x1.toNatClampNeg) = 1 then
    (f_Ring_rightOf ((r_kinds z_h), (r_sweets z_h), (r_settings z_h), (upd (upd (upd (r_heaps z_h) x1.toNatClampNeg (((r_heaps z_h) x1.toNatClampNeg) - q2)) q4.toNatClampNeg (((upd (r_heaps z_h) x1.toNatClampNeg (((r_heaps z_h) x1.toNatClampNeg) - q2)) q4.toNatClampNeg) + q2)) x1.toNatClampNeg (((upd (upd (r_heaps z_h) x1.toNatClampNeg (((r_heaps z_h) x1.toNatClampNeg) - q2)) q4.toNatClampNeg (((upd (r_heaps z_h) x1.toNatClampNeg (((r_heaps z_h) x1.toNatClampNeg) - q2)) q4.toNatClampNeg) + q2)) x1.toNatClampNeg) - q2)), (r_children z_h), (r_strokes z_h), (r_gave z_h), (r_threw z_h)) x1).bind fun q7 =>
    if q7 < 0 ∨ 8 ≤ q7.toNatClampNeg then none else
    f_Ring_handOn_L17 k n ((r_kinds z_h), (r_sweets z_h), (r_settings z_h), (upd (upd (upd (upd (r_heaps z_h) x1.toNatClampNeg (((r_heaps z_h) x1.toNatClampNeg) - q2)) q4.toNatClampNeg (((upd (r_heaps z_h) x1.toNatClampNeg (((r_heaps z_h) x1.toNatClampNeg) - q2)) q4.toNatClampNeg) + q2)) x1.toNatClampNeg (((upd (upd (r_heaps z_h) x1.toNatClampNeg (((r_heaps z_h) x1.toNatClampNeg) - q2)) q4.toNatClampNeg (((upd (r_heaps z_h) x1.toNatClampNeg (((r_heaps z_h) x1.toNatClampNeg) - q2)) q4.toNatClampNeg) + q2)) x1.toNatClampNeg) - q2)) q7.toNatClampNeg (((upd (upd (upd (r_heaps z_h) x1.toNatClampNeg (((r_heaps z_h) x1.toNatClampNeg) - q2)) q4.toNatClampNeg (((upd (r_heaps z_h) x1.toNatClampNeg (((r_heaps z_h) x1.toNatClampNeg) - q2)) q4.toNatClampNeg) + q2)) x1.toNatClampNeg (((upd (upd (r_heaps z_h) x1.toNatClampNeg (((r_heaps z_h) x1.toNatClampNeg) - q2)) q4.toNatClampNeg (((upd (r_heaps z_h) x1.toNatClampNeg (((r_heaps z_h) x1.toNatClampNeg) - q2)) q4.toNatClampNeg) + q2)) x1.toNatClampNeg) - q2)) q7.toNatClampNeg) + q2)), (r_children z_h), (r_strokes z_h), (r_gave z_h), (r_threw z_h)) (x1 + 1)
   else
    f_Ring_handOn_L17 k n ((r_kinds z_h), (r_sweets z_h), (r_settings z_h), (upd (upd (r_heaps z_h) x1.toNatClampNeg (((r_heaps z_h) x1.toNatClampNeg) - q2)) q4.toNatClampNeg (((upd (r_heaps z_h) x1.toNatClampNeg (((r_heaps z_h) x1.toNatClampNeg) - q2)) q4.toNatClampNeg) + q2)), (r_children z_h), (r_strokes z_h), (r_gave z_h), (r_threw z_h)) (x1 + 1)
def f_Ring_handOn_L97 : Nat → RS → Int32 → Option (RS)
  | 0, _, _ => none
  | n + 1, z_h, x1 =>
  if (r_children z_h) ≤ x1 then
   some z_h
  else
   if x1 < 0 ∨ 8 ≤ x1.toNatClampNeg then none else
   f_Ring_handOn_L97 n ((r_kinds z_h), (upd (r_sweets z_h) x1.toNatClampNeg (jmin ((r_heaps z_h) x1.toNatClampNeg) 999)), (r_settings z_h), (r_heaps z_h), (r_children z_h), (r_strokes z_h), (r_gave z_h), (r_threw z_h)) (x1 + 1)
def f_Ring_handOn (z_h : RS) : Option (RS) :=
 f_Ring_handOn_L17 (fun z_h_9 =>
  f_Ring_handOn_L97 FU z_h_9 0) FU ((r_kinds z_h), (r_sweets z_h), (r_settings z_h), (va_cpy (r_sweets z_h) (r_heaps z_h) 0 0 8), (r_children z_h), (r_strokes z_h), (r_gave z_h), (r_threw z_h)) 0
def f_Ring_mend (z_h : RS) (x1 : Int32) : Option (RS) :=
 if ((r_settings z_h) 0) = 0 then
  if ((r_settings z_h) 2) ≤ 0 then
   some z_h
  else
   if x1 < 0 ∨ 8 ≤ x1.toNatClampNeg then none else
   some ((r_kinds z_h), (upd (r_sweets z_h) x1.toNatClampNeg (jmin (((r_sweets z_h) x1.toNatClampNeg) + 1) 999)), (upd (r_settings z_h) 2 (((r_settings z_h) 2) - 1)), (r_heaps z_h), (r_children z_h), (r_strokes z_h), ((r_gave z_h) + 1), (r_threw z_h))
 else
  if ((r_settings z_h) 0) = 1 then
   if x1 < 0 ∨ 8 ≤ x1.toNatClampNeg then none else
   some ((r_kinds z_h), (upd (r_sweets z_h) x1.toNatClampNeg (((r_sweets z_h) x1.toNatClampNeg) - 1)), (r_settings z_h), (r_heaps z_h), (r_children z_h), (r_strokes z_h), (r_gave z_h), ((r_threw z_h) + 1))
  else
   some z_h
def f_Ring_strike_L11 (x1 : Int32) : Nat → RS → Int32 → Option (Int32 × RS)
  | 0, _, _ => none
  | n + 1, z_h, x2 =>
  if (r_children z_h) ≤ x2 then
   some (((r_gave z_h) - x1), ((r_kinds z_h), (r_sweets z_h), (r_settings z_h), (r_heaps z_h), (r_children z_h), ((r_strokes z_h) + 1), (r_gave z_h), (r_threw z_h)))
  else
   if x2 < 0 ∨ 8 ≤ x2.toNatClampNeg then none else
   if (((r_sweets z_h) x2.toNatClampNeg) % 2) = 1 then
    (f_Ring_mend z_h x2).bind fun q5 =>
    f_Ring_strike_L11 x1 n q5 (x2 + 1)
   else
    f_Ring_strike_L11 x1 n z_h (x2 + 1)
def f_Ring_strike (z_h : RS) : Option (Int32 × RS) :=
 (f_Ring_handOn z_h).bind fun q1 =>
 f_Ring_strike_L11 (r_gave z_h) FU q1 0
def f_X_stroke (z_h_now : RS) (z_h_refusals : (Nat → Int32)) : Option (Int32 × RS × (Nat → Int32)) :=
 if (r_children z_h_now) = 0 then
  (f_X_refuse z_h_refusals (-3)).bind fun q3 =>
  some (q3.1, z_h_now, q3.2)
 else
  (f_Ring_strike z_h_now).bind fun q2 =>
  some (q2.1, q2.2, z_h_refusals)
def f_Ring_strikeOften_L2 (x1 : Int32) : Nat → RS → Int32 → Option (RS)
  | 0, _, _ => none
  | n + 1, z_h, x2 =>
  if x1 ≤ x2 then
   some z_h
  else
   (f_Ring_strike z_h).bind fun q2 =>
   f_Ring_strikeOften_L2 x1 n q2.2 (x2 + 1)
def f_Ring_strikeOften (z_h : RS) (x1 : Int32) : Option (RS) :=
 f_Ring_strikeOften_L2 x1 FU z_h 0
def f_Mind_sweetsBehind (z_h_one : RS) (z_g1 : RS) (x2 : Int32) (x3 : Int32) : Option (Int32 × RS) :=
 (f_Ring_copyFrom z_h_one z_g1).bind fun q1 =>
 (f_Ring_strikeOften q1 x3).bind fun q2 =>
 if x2 < 0 ∨ 8 ≤ x2.toNatClampNeg then none else
 some (((r_sweets q2) x2.toNatClampNeg), q2)
def f_X_run (z_h_now : RS) (z_h_refusals : (Nat → Int32)) (z_h_mind_one : RS) (x1 : Int32) (x2 : Int32) : Option (Int32 × (Nat → Int32) × RS) :=
 (f_Ring_has z_h_now x1).bind fun q1 =>
 if q1 = 0 then
  (f_X_refuse z_h_refusals (-1)).bind fun q3 =>
  some (q3.1, q3.2, z_h_mind_one)
 else
  (f_X_outside x2 0 200).bind fun q4 =>
  if q4 = 0 then
   (f_Mind_sweetsBehind z_h_mind_one z_h_now x1 x2).bind fun q6 =>
   some (q6.1, z_h_refusals, q6.2)
  else
   (f_X_refuse z_h_refusals q4).bind fun q7 =>
   some (q7.1, q7.2, z_h_mind_one)
def f_X_isPart (x0 : Int32) : Option (Int32) :=
 if x0 = 0 then
  some 1
 else
  if x0 = 1 then
   some 1
  else
   some 0
def f_Mind_gaveIn (z_h_one : RS) (z_g1 : RS) (x2 : Int32) : Option (Int32 × RS) :=
 (f_Ring_copyFrom z_h_one z_g1).bind fun q1 =>
 (f_Ring_strikeOften q1 x2).bind fun q2 =>
 some (((r_gave q2) - (r_gave z_g1)), q2)
def f_Mind_threwIn (z_h_one : RS) (z_g1 : RS) (x2 : Int32) : Option (Int32 × RS) :=
 (f_Ring_copyFrom z_h_one z_g1).bind fun q1 =>
 (f_Ring_strikeOften q1 x2).bind fun q2 =>
 some (((r_threw q2) - (r_threw z_g1)), q2)
def f_X_given (z_h_now : RS) (z_h_refusals : (Nat → Int32)) (z_h_mind_one : RS) (x1 : Int32) (x2 : Int32) : Option (Int32 × (Nat → Int32) × RS) :=
 (f_X_isPart x2).bind fun q1 =>
 if q1 = 0 then
  (f_X_refuse z_h_refusals (-2)).bind fun q3 =>
  some (q3.1, q3.2, z_h_mind_one)
 else
  (f_X_outside x1 0 200).bind fun q4 =>
  if q4 = 0 then
   if x2 = 0 then
    (f_Mind_gaveIn z_h_mind_one z_h_now x1).bind fun q8 =>
    some (q8.1, z_h_refusals, q8.2)
   else
    (f_Mind_threwIn z_h_mind_one z_h_now x1).bind fun q7 =>
    some (q7.1, z_h_refusals, q7.2)
  else
   (f_X_refuse z_h_refusals q4).bind fun q9 =>
   some (q9.1, q9.2, z_h_mind_one)
def f_Ring_hasSweetsOf_L2 (z_h : RS) (z_g1 : RS) : Nat → Int32 → Option (Int32)
  | 0, _ => none
  | n + 1, x2 =>
  if (r_children z_h) ≤ x2 then
   some 1
  else
   if x2 < 0 ∨ 8 ≤ x2.toNatClampNeg then none else
   if ((r_sweets z_h) x2.toNatClampNeg) = ((r_sweets z_g1) x2.toNatClampNeg) then
    f_Ring_hasSweetsOf_L2 z_h z_g1 n (x2 + 1)
   else
    some 0
def f_Ring_hasSweetsOf (z_h : RS) (z_g1 : RS) : Option (Int32) :=
 f_Ring_hasSweetsOf_L2 z_h z_g1 FU 0
def f_Mind_restsBehind_L18 : Nat → RS → RS → Int32 → Option (Int32 × RS × RS)
  | 0, _, _, _ => none
  | n + 1, z_h_one, z_h_two, x2 =>
  if 200 < x2 then
   some ((-9), z_h_one, z_h_two)
  else
   (f_Ring_strike z_h_two).bind fun q4 =>
   (f_Ring_hasSweetsOf q4.2 z_h_one).bind fun q5 =>
   if q5 = 0 then
    (f_Ring_copyFrom z_h_one q4.2).bind fun q7 =>
    f_Mind_restsBehind_L18 n q7 q4.2 (x2 + 1)
   else
    some (x2, z_h_one, q4.2)
def f_Mind_restsBehind (z_h_one : RS) (z_h_two : RS) (z_g1 : RS) : Option (Int32 × RS × RS) :=
 (f_Ring_copyFrom z_h_one z_g1).bind fun q1 =>
 (f_Ring_copyFrom z_h_two z_g1).bind fun q2 =>
 f_Mind_restsBehind_L18 FU q1 q2 0
def f_X_rests (z_h_now : RS) (z_h_refusals : (Nat → Int32)) (z_h_mind_one : RS) (z_h_mind_two : RS) : Option (Int32 × (Nat → Int32) × RS × RS) :=
 if (r_children z_h_now) = 0 then
  (f_X_refuse z_h_refusals (-3)).bind fun q3 =>
  some (q3.1, q3.2, z_h_mind_one, z_h_mind_two)
 else
  (f_Mind_restsBehind z_h_mind_one z_h_mind_two z_h_now).bind fun q2 =>
  some (q2.1, z_h_refusals, q2.2.1, q2.2.2)
def f_Ring_allHaveAlike_L2 (z_h : RS) : Nat → Int32 → Option (Int32)
  | 0, _ => none
  | n + 1, x1 =>
  if (r_children z_h) ≤ x1 then
   some 1
  else
   if x1 < 0 ∨ 8 ≤ x1.toNatClampNeg then none else
   if ((r_sweets z_h) x1.toNatClampNeg) = ((r_sweets z_h) 0) then
    f_Ring_allHaveAlike_L2 z_h n (x1 + 1)
   else
    some 0
def f_Ring_allHaveAlike (z_h : RS) : Option (Int32) :=
 f_Ring_allHaveAlike_L2 z_h FU 1
def f_Mind_alikeWithin_L2 (x1 : Int32) : Nat → RS → Int32 → Option (Int32 × RS)
  | 0, _, _ => none
  | n + 1, z_g0, x2 =>
  if x1 < x2 then
   some ((-9), z_g0)
  else
   (f_Ring_allHaveAlike z_g0).bind fun q2 =>
   if q2 = 0 then
    (f_Ring_strike z_g0).bind fun q4 =>
    f_Mind_alikeWithin_L2 x1 n q4.2 (x2 + 1)
   else
    some (x2, z_g0)
def f_Mind_alikeWithin (z_g0 : RS) (x1 : Int32) : Option (Int32 × RS) :=
 f_Mind_alikeWithin_L2 x1 FU z_g0 0
def f_Mind_alikeBehind (z_h_one : RS) (z_g1 : RS) : Option (Int32 × RS) :=
 (f_Ring_copyFrom z_h_one z_g1).bind fun q1 =>
 (f_Mind_alikeWithin q1 200).bind fun q2 =>
 some (q2.1, q2.2)
def f_X_alike (z_h_now : RS) (z_h_refusals : (Nat → Int32)) (z_h_mind_one : RS) : Option (Int32 × (Nat → Int32) × RS) :=
 if (r_children z_h_now) = 0 then
  (f_X_refuse z_h_refusals (-3)).bind fun q3 =>
  some (q3.1, q3.2, z_h_mind_one)
 else
  (f_Mind_alikeBehind z_h_mind_one z_h_now).bind fun q2 =>
  some (q2.1, z_h_refusals, q2.2)
def f_Ring_hasSweetsAndBagOf (z_h : RS) (z_g1 : RS) : Option (Int32) :=
 if ((r_settings z_h) 2) = ((r_settings z_g1) 2) then
  (f_Ring_hasSweetsOf z_h z_g1).bind fun q2 =>
  if q2 = 0 then
   some 0
  else
   some 1
 else
  some 0
def f_Mind_roundOf_L30 (z_h_one : RS) : Nat → RS → Int32 → Option (Int32 × RS × RS)
  | 0, _, _ => none
  | n + 1, z_h_two, x2 =>
  if 100 < x2 then
   some ((-9), z_h_one, z_h_two)
  else
   (f_Ring_strike z_h_two).bind fun q5 =>
   (f_Ring_hasSweetsAndBagOf q5.2 z_h_one).bind fun q6 =>
   if q6 = 0 then
    f_Mind_roundOf_L30 z_h_one n q5.2 (x2 + 1)
   else
    some (x2, z_h_one, q5.2)
def f_Mind_roundOf (z_h_one : RS) (z_h_two : RS) (z_g1 : RS) : Option (Int32 × RS × RS) :=
 (f_Ring_copyFrom z_h_one z_g1).bind fun q1 =>
 (f_Ring_strikeOften q1 100).bind fun q2 =>
 (f_Ring_copyFrom z_h_two q2).bind fun q3 =>
 f_Mind_roundOf_L30 q2 FU q3 1
def f_Mind_aheadOfRound_L26 : Nat → RS → RS → Int32 → Option (Int32 × RS × RS)
  | 0, _, _, _ => none
  | n + 1, z_h_one, z_h_two, x3 =>
  if 100 < x3 then
   some ((-9), z_h_one, z_h_two)
  else
   (f_Ring_hasSweetsAndBagOf z_h_two z_h_one).bind fun q5 =>
   if q5 = 0 then
    (f_Ring_strike z_h_one).bind fun q7 =>
    (f_Ring_strike z_h_two).bind fun q8 =>
    f_Mind_aheadOfRound_L26 n q7.2 q8.2 (x3 + 1)
   else
    some (x3, z_h_one, z_h_two)
def f_Mind_aheadOfRound (z_h_one : RS) (z_h_two : RS) (z_g1 : RS) (x2 : Int32) : Option (Int32 × RS × RS) :=
 (f_Ring_copyFrom z_h_one z_g1).bind fun q1 =>
 (f_Ring_copyFrom z_h_two z_g1).bind fun q2 =>
 (f_Ring_strikeOften q2 x2).bind fun q3 =>
 f_Mind_aheadOfRound_L26 FU q1 q3 0
def f_X_ring (z_h_now : RS) (z_h_refusals : (Nat → Int32)) (z_h_mind_one : RS) (z_h_mind_two : RS) (x1 : Int32) : Option (Int32 × (Nat → Int32) × RS × RS) :=
 (f_X_isPart x1).bind fun q1 =>
 if q1 = 0 then
  (f_X_refuse z_h_refusals (-2)).bind fun q9 =>
  some (q9.1, q9.2, z_h_mind_one, z_h_mind_two)
 else
  if (r_children z_h_now) = 0 then
   (f_X_refuse z_h_refusals (-3)).bind fun q8 =>
   some (q8.1, q8.2, z_h_mind_one, z_h_mind_two)
  else
   (f_Mind_roundOf z_h_mind_one z_h_mind_two z_h_now).bind fun q4 =>
   if q4.1 = (-9) then
    some (q4.1, z_h_refusals, q4.2.1, q4.2.2)
   else
    if x1 = 1 then
     some (q4.1, z_h_refusals, q4.2.1, q4.2.2)
    else
     (f_Mind_aheadOfRound q4.2.1 q4.2.2 z_h_now q4.1).bind fun q7 =>
     some (q7.1, z_h_refusals, q7.2.1, q7.2.2)
def f_Mind_meetBehind_L11 (x2 : Int32) (x3 : Int32) : Nat → RS → Int32 → Option (Int32 × RS)
  | 0, _, _ => none
  | n + 1, z_h_one, x4 =>
  if 200 < x4 then
   some ((-9), z_h_one)
  else
   if x2 < 0 ∨ 8 ≤ x2.toNatClampNeg then none else
   if x3 < 0 ∨ 8 ≤ x3.toNatClampNeg then none else
   if ((r_sweets z_h_one) x2.toNatClampNeg) = ((r_sweets z_h_one) x3.toNatClampNeg) then
    some (x4, z_h_one)
   else
    (f_Ring_strike z_h_one).bind fun q6 =>
    f_Mind_meetBehind_L11 x2 x3 n q6.2 (x4 + 1)
def f_Mind_meetBehind (z_h_one : RS) (z_g1 : RS) (x2 : Int32) (x3 : Int32) : Option (Int32 × RS) :=
 (f_Ring_copyFrom z_h_one z_g1).bind fun q1 =>
 f_Mind_meetBehind_L11 x2 x3 FU q1 0
def f_X_meet (z_h_now : RS) (z_h_refusals : (Nat → Int32)) (z_h_mind_one : RS) (x1 : Int32) (x2 : Int32) : Option (Int32 × (Nat → Int32) × RS) :=
 (f_X_areTwo z_h_now x1 x2).bind fun q1 =>
 if q1 = 0 then
  (f_X_refuse z_h_refusals (-1)).bind fun q4 =>
  some (q4.1, q4.2, z_h_mind_one)
 else
  (f_Mind_meetBehind z_h_mind_one z_h_now x1 x2).bind fun q3 =>
  some (q3.1, z_h_refusals, q3.2)
def f_Crumbs_begin_L7 (z_h_doublings : Int32) (z_g1 : RS) : Nat → (Nat → Int64) → Int32 → Option (Int32 × (Nat → Int64))
  | 0, _, _ => none
  | n + 1, z_h_have, x2 =>
  if (r_children z_g1) ≤ x2 then
   some (z_h_doublings, z_h_have)
  else
   if x2 < 0 ∨ 8 ≤ x2.toNatClampNeg then none else
   f_Crumbs_begin_L7 z_h_doublings z_g1 n (vp_updL z_h_have x2.toNatClampNeg (((r_sweets z_g1) x2.toNatClampNeg).toInt64)) (x2 + 1)
def f_Crumbs_begin (z_h_doublings : Int32) (z_h_have : (Nat → Int64)) (z_g1 : RS) : Option (Int32 × (Nat → Int64)) :=
 f_Crumbs_begin_L7 0 z_g1 FU z_h_have 0
def f_Crumbs_advance_L2 (z_h_have : (Nat → Int64)) (z_g1 : RS) (k : (Nat → Int64) → Option (Int32 × (Nat → Int64) × (Nat → Int64))) : Nat → (Nat → Int64) → Int32 → Option (Int32 × (Nat → Int64) × (Nat → Int64))
  | 0, _, _ => none
  | n + 1, z_h_next, x2 =>
  if (r_children z_g1) ≤ x2 then
   k z_h_next
  else
   if x2 < 0 ∨ 8 ≤ x2.toNatClampNeg then none else
   (f_Ring_rightOf z_g1 x2).bind fun q3 =>
   if q3 < 0 ∨ 8 ≤ q3.toNatClampNeg then none else
   f_Crumbs_advance_L2 z_h_have z_g1 k n (vp_updL z_h_next x2.toNatClampNeg ((z_h_have x2.toNatClampNeg) + (z_h_have q3.toNatClampNeg))) (x2 + 1)
def f_Crumbs_advance (z_h_doublings : Int32) (z_h_have : (Nat → Int64)) (z_h_next : (Nat → Int64)) (z_g1 : RS) : Option (Int32 × (Nat → Int64) × (Nat → Int64)) :=
 f_Crumbs_advance_L2 z_h_have z_g1 (fun z_h_next_5 =>
  some ((z_h_doublings + 1), (va_cpy z_h_next_5 z_h_have 0 0 8), z_h_next_5)) FU z_h_next 0
def f_Crumbs_take_L7 (z_g1 : RS) (x2 : Int32) : Nat → Int32 → (Nat → Int64) → (Nat → Int64) → Int32 → Option (Int32 × (Nat → Int64) × (Nat → Int64))
  | 0, _, _, _, _ => none
  | n + 1, z_h_doublings, z_h_have, z_h_next, x3 =>
  if x2 ≤ x3 then
   some (z_h_doublings, z_h_have, z_h_next)
  else
   (f_Crumbs_advance z_h_doublings z_h_have z_h_next z_g1).bind fun q3 =>
   f_Crumbs_take_L7 z_g1 x2 n q3.1 q3.2.1 q3.2.2 (x3 + 1)
def f_Crumbs_take (z_h_doublings : Int32) (z_h_have : (Nat → Int64)) (z_h_next : (Nat → Int64)) (z_g1 : RS) (x2 : Int32) : Option (Int32 × (Nat → Int64) × (Nat → Int64)) :=
 (f_Crumbs_begin z_h_doublings z_h_have z_g1).bind fun q1 =>
 f_Crumbs_take_L7 z_g1 x2 FU q1.1 q1.2 z_h_next 0
def f_Crumbs_halvings_L2 (z_h_doublings : Int32) (z_h_have : (Nat → Int64)) (x1 : Int32) : Nat → Int32 → Option (Int32)
  | 0, _ => none
  | n + 1, x2 =>
  if z_h_doublings ≤ x2 then
   some x2
  else
   if x1 < 0 ∨ 8 ≤ x1.toNatClampNeg then none else
   if (lg_cmp (((z_h_have x1.toNatClampNeg) >>> (x2.toInt64 &&& 63)) % 2) 0) = 0 then
    f_Crumbs_halvings_L2 z_h_doublings z_h_have x1 n (x2 + 1)
   else
    some x2
def f_Crumbs_halvings (z_h_doublings : Int32) (z_h_have : (Nat → Int64)) (x1 : Int32) : Option (Int32) :=
 f_Crumbs_halvings_L2 z_h_doublings z_h_have x1 FU 0
def f_Crumbs_above (z_h_doublings : Int32) (z_h_have : (Nat → Int64)) (x1 : Int32) : Option (Int64) :=
 if x1 < 0 ∨ 8 ≤ x1.toNatClampNeg then none else
 (f_Crumbs_halvings z_h_doublings z_h_have x1).bind fun q2 =>
 some ((z_h_have x1.toNatClampNeg) >>> (q2.toInt64 &&& 63))
def f_Crumbs_below (z_h_doublings : Int32) (z_h_have : (Nat → Int64)) (x1 : Int32) : Option (Int64) :=
 (f_Crumbs_halvings z_h_doublings z_h_have x1).bind fun q1 =>
 some (1 <<< ((z_h_doublings - q1).toInt64 &&& 63))
def f_X_crumbs (z_h_now : RS) (z_h_refusals : (Nat → Int32)) (z_h_parts_doublings : Int32) (z_h_parts_have : (Nat → Int64)) (z_h_parts_next : (Nat → Int64)) (x1 : Int32) (x2 : Int32) (x3 : Int32) : Option (Int64 × (Nat → Int32) × Int32 × (Nat → Int64) × (Nat → Int64)) :=
 (f_X_outside x2 0 20).bind fun q1 =>
 (f_Ring_has z_h_now x1).bind fun q2 =>
 if q2 = 0 then
  (f_X_refuse z_h_refusals (-1)).bind fun q13 =>
  some ((4000000000000000000 - (q13.1.toInt64)), q13.2, z_h_parts_doublings, z_h_parts_have, z_h_parts_next)
 else
  (f_X_isPart x3).bind fun q4 =>
  if q4 = 0 then
   (f_X_refuse z_h_refusals (-2)).bind fun q12 =>
   some ((4000000000000000000 - (q12.1.toInt64)), q12.2, z_h_parts_doublings, z_h_parts_have, z_h_parts_next)
  else
   if q1 = 0 then
    (f_Crumbs_take z_h_parts_doublings z_h_parts_have z_h_parts_next z_h_now x2).bind fun q7 =>
    if x3 = 0 then
     (f_Crumbs_above q7.1 q7.2.1 x1).bind fun q10 =>
     some (q10, z_h_refusals, q7.1, q7.2.1, q7.2.2)
    else
     (f_Crumbs_below q7.1 q7.2.1 x1).bind fun q9 =>
     some (q9, z_h_refusals, q7.1, q7.2.1, q7.2.2)
   else
    (f_X_refuse z_h_refusals q1).bind fun q11 =>
    some ((4000000000000000000 - (q11.1.toInt64)), q11.2, z_h_parts_doublings, z_h_parts_have, z_h_parts_next)
def f_Ring_allSweets_L4 (z_h : RS) : Nat → Int32 → Int32 → Option (Int32)
  | 0, _, _ => none
  | n + 1, x1, x2 =>
  if (r_children z_h) ≤ x2 then
   some x1
  else
   if x2 < 0 ∨ 8 ≤ x2.toNatClampNeg then none else
   f_Ring_allSweets_L4 z_h n (x1 + ((r_sweets z_h) x2.toNatClampNeg)) (x2 + 1)
def f_Ring_allSweets (z_h : RS) : Option (Int32) :=
 f_Ring_allSweets_L4 z_h FU 0 0
def f_Ring_commonDivisor_L10 (z_h : RS) (x1 : Int32) : Nat → Int32 → Option (Int32)
  | 0, _ => none
  | n + 1, x2 =>
  if x2 ≤ 1 then
   some 1
  else
   if x2 = 0 then none else
   if ((r_children z_h) % x2) = 0 then
    if (x1 % x2) = 0 then
     some x2
    else
     f_Ring_commonDivisor_L10 z_h x1 n (x2 + (-1))
   else
    f_Ring_commonDivisor_L10 z_h x1 n (x2 + (-1))
def f_Ring_commonDivisor (z_h : RS) : Option (Int32) :=
 (f_Ring_allSweets z_h).bind fun q1 =>
 f_Ring_commonDivisor_L10 z_h q1 FU (r_children z_h)
def f_X_mean (z_h_now : RS) (z_h_refusals : (Nat → Int32)) (x1 : Int32) : Option (Int32 × (Nat → Int32)) :=
 (f_X_isPart x1).bind fun q1 =>
 if q1 = 0 then
  (f_X_refuse z_h_refusals (-2)).bind fun q10 =>
  some (q10.1, q10.2)
 else
  if (r_children z_h_now) = 0 then
   (f_X_refuse z_h_refusals (-3)).bind fun q9 =>
   some (q9.1, q9.2)
  else
   (f_Ring_commonDivisor z_h_now).bind fun q4 =>
   if x1 = 0 then
    (f_Ring_allSweets z_h_now).bind fun q7 =>
    if (jmax q4 1) = 0 then none else
    some ((q7 / (jmax q4 1)), z_h_refusals)
   else
    if (jmax q4 1) = 0 then none else
    some (((r_children z_h_now) / (jmax q4 1)), z_h_refusals)
def f_X_outsideOrNobody (z_h_now : RS) (x1 : Int32) (x2 : Int32) (x3 : Int32) : Option (Int32) :=
 (f_X_outside x1 x2 x3).bind fun q1 =>
 if q1 = 0 then
  if (r_children z_h_now) = 0 then
   some (-3)
  else
   some q1
 else
  some q1
def f_Crumbs_allAreNear_L26 (z_h_have : (Nat → Int64)) (z_g1 : RS) (x2 : Int32) (x3 : Int64) (x5 : Int64) : Nat → Int32 → Option (Int32)
  | 0, _ => none
  | n + 1, x7 =>
  if (r_children z_g1) ≤ x7 then
   some 1
  else
   if x7 < 0 ∨ 8 ≤ x7.toNatClampNeg then none else
   if (lg_cmp ((jabsL (((z_h_have x7.toNatClampNeg) * ((r_children z_g1).toInt64)) - x3)) * (x2.toInt64)) x5) < 0 then
    f_Crumbs_allAreNear_L26 z_h_have z_g1 x2 x3 x5 n (x7 + 1)
   else
    some 0
def f_Crumbs_allAreNear (z_h_doublings : Int32) (z_h_have : (Nat → Int64)) (z_g1 : RS) (x2 : Int32) : Option (Int32) :=
 (f_Ring_allSweets z_g1).bind fun q1 =>
 f_Crumbs_allAreNear_L26 z_h_have z_g1 x2 ((q1.toInt64) <<< (z_h_doublings.toInt64 &&& 63)) (((r_children z_g1).toInt64) <<< (z_h_doublings.toInt64 &&& 63)) FU 0
def f_Crumbs_nearBehind_L7 (z_g1 : RS) (x2 : Int32) : Nat → Int32 → (Nat → Int64) → (Nat → Int64) → Int32 → Option (Int32 × Int32 × (Nat → Int64) × (Nat → Int64))
  | 0, _, _, _, _ => none
  | n + 1, z_h_doublings, z_h_have, z_h_next, x3 =>
  if 20 < x3 then
   some ((-9), z_h_doublings, z_h_have, z_h_next)
  else
   (f_Crumbs_allAreNear z_h_doublings z_h_have z_g1 x2).bind fun q3 =>
   if q3 = 0 then
    (f_Crumbs_advance z_h_doublings z_h_have z_h_next z_g1).bind fun q5 =>
    f_Crumbs_nearBehind_L7 z_g1 x2 n q5.1 q5.2.1 q5.2.2 (x3 + 1)
   else
    some (x3, z_h_doublings, z_h_have, z_h_next)
def f_Crumbs_nearBehind (z_h_doublings : Int32) (z_h_have : (Nat → Int64)) (z_h_next : (Nat → Int64)) (z_g1 : RS) (x2 : Int32) : Option (Int32 × Int32 × (Nat → Int64) × (Nat → Int64)) :=
 (f_Crumbs_begin z_h_doublings z_h_have z_g1).bind fun q1 =>
 f_Crumbs_nearBehind_L7 z_g1 x2 FU q1.1 q1.2 z_h_next 0
def f_X_near (z_h_now : RS) (z_h_refusals : (Nat → Int32)) (z_h_parts_doublings : Int32) (z_h_parts_have : (Nat → Int64)) (z_h_parts_next : (Nat → Int64)) (x1 : Int32) : Option (Int32 × (Nat → Int32) × Int32 × (Nat → Int64) × (Nat → Int64)) :=
 (f_X_outsideOrNobody z_h_now x1 1 99).bind fun q1 =>
 if q1 = 0 then
  (f_Crumbs_nearBehind z_h_parts_doublings z_h_parts_have z_h_parts_next z_h_now x1).bind fun q3 =>
  some (q3.1, z_h_refusals, q3.2.1, q3.2.2.1, q3.2.2.2)
 else
  (f_X_refuse z_h_refusals q1).bind fun q4 =>
  some (q4.1, q4.2, z_h_parts_doublings, z_h_parts_have, z_h_parts_next)
def f_X_outsideOrMany (z_h_now : RS) (x1 : Int32) (x2 : Int32) (x3 : Int32) : Option (Int32) :=
 (f_X_outside x1 0 x2).bind fun q1 =>
 if q1 = 0 then
  if (r_children z_h_now) ≤ x3 then
   some q1
  else
   some (-6)
 else
  some q1
def f_Ring_heapBehindGifts (z_h : RS) (x1 : Int32) : Option (Int32) :=
 (f_Ring_leftOf z_h x1).bind fun q1 =>
 (f_Ring_gift z_h x1).bind fun q2 =>
 if x1 < 0 ∨ 8 ≤ x1.toNatClampNeg then none else
 (f_Ring_rightOf z_h x1).bind fun q4 =>
 (f_Ring_gift z_h q4).bind fun q5 =>
 if ((r_kinds z_h) x1.toNatClampNeg) = 1 then
  if q1 < 0 ∨ 8 ≤ q1.toNatClampNeg then none else
  if ((r_kinds z_h) q1.toNatClampNeg) = 1 then
   (f_Ring_gift z_h q1).bind fun q12 =>
   some ((((((r_sweets z_h) x1.toNatClampNeg) - q2) + q5) - q2) + q12)
  else
   some (((((r_sweets z_h) x1.toNatClampNeg) - q2) + q5) - q2)
 else
  if q1 < 0 ∨ 8 ≤ q1.toNatClampNeg then none else
  if ((r_kinds z_h) q1.toNatClampNeg) = 1 then
   (f_Ring_gift z_h q1).bind fun q9 =>
   some (((((r_sweets z_h) x1.toNatClampNeg) - q2) + q5) + q9)
  else
   some ((((r_sweets z_h) x1.toNatClampNeg) - q2) + q5)
def f_Past_mayBecome (x0 : Int32) (x1 : Int32) : Option (Int32) :=
 if x0 = x1 then
  some 1
 else
  if (x0 % 2) = 1 then
   if (jabs (x1 - x0)) = 1 then
    some 1
   else
    some 0
  else
   some 0
def f_Past_lastOfThoseWhoMakeHeapOf (z_h_told : RS) (x1 : Int32) : Option (Int32) :=
 (f_Ring_leftOf z_h_told x1).bind fun q1 =>
 (f_Ring_rightOf z_h_told x1).bind fun q2 =>
 if x1 < 0 ∨ 8 ≤ x1.toNatClampNeg then none else
 if ((r_kinds z_h_told) x1.toNatClampNeg) = 2 then
  some (jmax (jmax x1 q2) q1)
 else
  if ((r_kinds z_h_told) x1.toNatClampNeg) = 5 then
   some (jmax (jmax x1 q2) q1)
  else
   if q1 < 0 ∨ 8 ≤ q1.toNatClampNeg then none else
   if ((r_kinds z_h_told) q1.toNatClampNeg) = 1 then
    some (jmax (jmax x1 q2) q1)
   else
    some (jmax x1 q2)
def f_Past_placeOfWrong_L10 (z_h_told : RS) (z_g1 : RS) : Nat → Int32 → Int32 → Option (Int32)
  | 0, _, _ => none
  | n + 1, x2, x3 =>
  if (r_children z_h_told) ≤ x3 then
   some x2
  else
   (f_Ring_heapBehindGifts z_h_told x3).bind fun q2 =>
   if x3 < 0 ∨ 8 ≤ x3.toNatClampNeg then none else
   (f_Past_mayBecome q2 ((r_sweets z_g1) x3.toNatClampNeg)).bind fun q4 =>
   if q4 = 0 then
    (f_Past_lastOfThoseWhoMakeHeapOf z_h_told x3).bind fun q6 =>
    f_Past_placeOfWrong_L10 z_h_told z_g1 n (jmin x2 q6) (x3 + 1)
   else
    f_Past_placeOfWrong_L10 z_h_told z_g1 n x2 (x3 + 1)
def f_Past_placeOfWrong (z_h_told : RS) (z_g1 : RS) : Option (Int32) :=
 f_Past_placeOfWrong_L10 z_h_told z_g1 FU (r_children z_h_told) 0
def f_Past_leadsTo (z_h_told : RS) (z_h_struck : RS) (z_g1 : RS) : Option (Int32 × RS) :=
 (f_Ring_copyFrom z_h_struck z_h_told).bind fun q1 =>
 (f_Ring_strike q1).bind fun q2 =>
 (f_Ring_hasSweetsOf q2.2 z_g1).bind fun q3 =>
 if ¬ (q3 = 0 ∨ q3 = 1) then none else
 some (q3, q2.2)
def f_Past_advance_L2 (x2 : Int32) : Nat → RS → Int32 → Option (Int32 × RS)
  | 0, _, _ => none
  | n + 1, z_h_told, x3 =>
  if x3 < 0 then
   some (0, z_h_told)
  else
   if x3 < 0 ∨ 8 ≤ x3.toNatClampNeg then none else
   if x2 ≤ ((r_sweets z_h_told) x3.toNatClampNeg) then
    f_Past_advance_L2 x2 n ((r_kinds z_h_told), (upd (r_sweets z_h_told) x3.toNatClampNeg 0), (r_settings z_h_told), (r_heaps z_h_told), (r_children z_h_told), (r_strokes z_h_told), (r_gave z_h_told), (r_threw z_h_told)) (x3 + (-1))
   else
    some (1, ((r_kinds z_h_told), (upd (r_sweets z_h_told) x3.toNatClampNeg (((r_sweets z_h_told) x3.toNatClampNeg) + 1)), (r_settings z_h_told), (r_heaps z_h_told), (r_children z_h_told), (r_strokes z_h_told), (r_gave z_h_told), (r_threw z_h_told)))
def f_Past_advance (z_h_told : RS) (x1 : Int32) (x2 : Int32) : Option (Int32 × RS) :=
 f_Past_advance_L2 x2 FU z_h_told x1
def f_Past_find_L28 (x2 : Int32) (k : RS → Int32 → Option (Int32 × RS × RS)) : Nat → RS → Int32 → Int32 → Option (Int32 × RS × RS)
  | 0, _, _, _ => none
  | n + 1, z_h_told, x5, x6 =>
  if (r_children z_h_told) ≤ x6 then
   k z_h_told x5
  else
   if x6 < 0 ∨ 8 ≤ x6.toNatClampNeg then none else
   f_Past_find_L28 x2 k n ((r_kinds z_h_told), (upd (r_sweets z_h_told) x6.toNatClampNeg 0), (r_settings z_h_told), (r_heaps z_h_told), (r_children z_h_told), (r_strokes z_h_told), (r_gave z_h_told), (r_threw z_h_told)) (x5 * (x2 + 1)) (x6 + 1)
def f_Past_find_L68 (z_g1 : RS) (x2 : Int32) (x3 : Int32) (x5 : Int32) : Nat → RS → RS → Int32 → Int32 → Option (Int32 × RS × RS)
  | 0, _, _, _, _ => none
  | n + 1, z_h_told, z_h_struck, x4, x6 =>
  if x5 ≤ x6 then
   some (x4, z_h_told, z_h_struck)
  else
   (f_Past_placeOfWrong z_h_told z_g1).bind fun q7 =>
   if q7 = (r_children z_h_told) then
    (f_Past_leadsTo z_h_told z_h_struck z_g1).bind fun q11 =>
    if q11.1 = 0 then
     (f_Past_advance z_h_told (jmin q7 ((r_children z_h_told) - 1)) x2).bind fun q13 =>
     if q13.1 = 0 then
      some (x4, q13.2, q11.2)
     else
      f_Past_find_L68 z_g1 x2 x3 x5 n q13.2 q11.2 x4 (x6 + 1)
    else
     if (x4 + 1) ≤ x3 then
      (f_Past_advance z_h_told (jmin q7 ((r_children z_h_told) - 1)) x2).bind fun q16 =>
      if q16.1 = 0 then
       some ((x4 + 1), q16.2, q11.2)
      else
       f_Past_find_L68 z_g1 x2 x3 x5 n q16.2 q11.2 (x4 + 1) (x6 + 1)
     else
      some ((x4 + 1), z_h_told, q11.2)
   else
    (f_Past_advance z_h_told (jmin q7 ((r_children z_h_told) - 1)) x2).bind fun q9 =>
    if q9.1 = 0 then
     some (x4, q9.2, z_h_struck)
    else
     f_Past_find_L68 z_g1 x2 x3 x5 n q9.2 z_h_struck x4 (x6 + 1)
def f_Past_find (z_h_told : RS) (z_h_struck : RS) (z_g1 : RS) (x2 : Int32) (x3 : Int32) : Option (Int32 × RS × RS) :=
 if (r_children z_g1) ≤ 5 then
  (f_Ring_copyFrom z_h_told z_g1).bind fun q2 =>
  f_Past_find_L28 x2 (fun z_h_told_5 x5_5 =>
   f_Past_find_L68 z_g1 x2 x3 x5_5 FU z_h_told_5 z_h_struck 0 0) FU q2 1 0
 else
  some (0, z_h_told, z_h_struck)
def f_X_before (z_h_now : RS) (z_h_refusals : (Nat → Int32)) (z_h_past_told : RS) (z_h_past_struck : RS) (x1 : Int32) : Option (Int32 × (Nat → Int32) × RS × RS) :=
 (f_X_outsideOrMany z_h_now x1 9 5).bind fun q1 =>
 if q1 = 0 then
  if (r_children z_h_now) = 0 then
   (f_X_refuse z_h_refusals (-3)).bind fun q6 =>
   some (q6.1, q6.2, z_h_past_told, z_h_past_struck)
  else
   (f_Past_find z_h_past_told z_h_past_struck z_h_now x1 2147483647).bind fun q5 =>
   some (q5.1, z_h_refusals, q5.2.1, q5.2.2)
 else
  (f_X_refuse z_h_refusals q1).bind fun q3 =>
  some (q3.1, q3.2, z_h_past_told, z_h_past_struck)
def f_X_beforeOf (z_h_now : RS) (z_h_refusals : (Nat → Int32)) (z_h_past_told : RS) (z_h_past_struck : RS) (x1 : Int32) (x2 : Int32) (x3 : Int32) : Option (Int32 × (Nat → Int32) × RS × RS) :=
 (f_X_outsideOrMany z_h_now x2 9 5).bind fun q1 =>
 (f_Ring_has z_h_now x1).bind fun q2 =>
 if q2 = 0 then
  (f_X_refuse z_h_refusals (-1)).bind fun q11 =>
  some (q11.1, q11.2, z_h_past_told, z_h_past_struck)
 else
  if 0 ≤ x3 then
   if q1 = 0 then
    (f_Past_find z_h_past_told z_h_past_struck z_h_now x2 x3).bind fun q6 =>
    if q6.1 ≤ x3 then
     some ((-9), z_h_refusals, q6.2.1, q6.2.2)
    else
     if x1 < 0 ∨ 8 ≤ x1.toNatClampNeg then none else
     some (((r_sweets q6.2.1) x1.toNatClampNeg), z_h_refusals, q6.2.1, q6.2.2)
   else
    (f_X_refuse z_h_refusals q1).bind fun q9 =>
    some (q9.1, q9.2, z_h_past_told, z_h_past_struck)
  else
   (f_X_refuse z_h_refusals (-4)).bind fun q10 =>
   some (q10.1, q10.2, z_h_past_told, z_h_past_struck)
def f_X_refusalOfSeats (z_h_now : RS) (x1 : Int32) (x2 : Int32) (x3 : Int32) : Option (Int32) :=
 if x2 < 0 then
  some (-2)
 else
  if x2 ≤ 2 then
   if 0 ≤ x3 then
    (f_X_outsideOrMany z_h_now x1 50 6).bind fun q4 =>
    if q4 = 0 then
     if (r_children z_h_now) = 0 then
      some (-3)
     else
      some q4
    else
     some q4
   else
    some (-4)
  else
   some (-2)
def f_Seating_numberOfOrder_L11 (z_h_order : (Nat → Int32)) (z_g1 : RS) (k : RS → Option (Int32 × RS)) : Nat → RS → Int32 → Option (Int32 × RS)
  | 0, _, _ => none
  | n + 1, z_h_trial, x4 =>
  if (r_children z_g1) ≤ x4 then
   k z_h_trial
  else
   if 6 ≤ x4 then
    k z_h_trial
   else
    if x4 < 0 ∨ 6 ≤ x4.toNatClampNeg then none else
    if (z_h_order x4.toNatClampNeg) < 0 ∨ 8 ≤ (z_h_order x4.toNatClampNeg).toNatClampNeg then none else
    if x4 < 0 ∨ 8 ≤ x4.toNatClampNeg then none else
    f_Seating_numberOfOrder_L11 z_h_order z_g1 k n ((upd (r_kinds z_h_trial) x4.toNatClampNeg ((r_kinds z_g1) (z_h_order x4.toNatClampNeg).toNatClampNeg)), (upd (r_sweets z_h_trial) x4.toNatClampNeg ((r_sweets z_g1) (z_h_order x4.toNatClampNeg).toNatClampNeg)), (r_settings z_h_trial), (r_heaps z_h_trial), (r_children z_h_trial), (r_strokes z_h_trial), (r_gave z_h_trial), (r_threw z_h_trial)) (x4 + 1)
def f_Seating_numberOfOrder (z_h_order : (Nat → Int32)) (z_h_trial : RS) (z_g1 : RS) (x2 : Int32) (x3 : Int32) : Option (Int32 × RS) :=
 (f_Ring_copyFrom z_h_trial z_g1).bind fun q1 =>
 f_Seating_numberOfOrder_L11 z_h_order z_g1 (fun z_h_trial_7 =>
  (f_Ring_strikeOften z_h_trial_7 x2).bind fun q8 =>
  if x3 = 0 then
   some (((r_gave q8) - (r_gave z_g1)), q8)
  else
   if x3 = 1 then
    some (((r_gave q8) - (r_gave z_g1)), q8)
   else
    some (((r_sweets q8) 0), q8)) FU q1 0
def f_Seating_changePlaces (z_h_order : (Nat → Int32)) (x1 : Int32) (x2 : Int32) : Option ((Nat → Int32)) :=
 if x1 < 0 ∨ 6 ≤ x1.toNatClampNeg then none else
 if x2 < 0 ∨ 6 ≤ x2.toNatClampNeg then none else
 some (upd (upd z_h_order x1.toNatClampNeg (z_h_order x2.toNatClampNeg)) x2.toNatClampNeg (z_h_order x1.toNatClampNeg))
def f_Seating_goToNextOrder_L4 (z_h_order : (Nat → Int32)) (k : Int32 → Option (Int32 × (Nat → Int32))) : Nat → Int32 → Option (Int32 × (Nat → Int32))
  | 0, _ => none
  | n + 1, x2 =>
  if x2 ≤ 0 then
   k x2
  else
   if x2 < 0 ∨ 6 ≤ x2.toNatClampNeg then none else
   if (x2 + 1) < 0 ∨ 6 ≤ (x2 + 1).toNatClampNeg then none else
   if (z_h_order x2.toNatClampNeg) ≤ (z_h_order (x2 + 1).toNatClampNeg) then
    k x2
   else
    f_Seating_goToNextOrder_L4 z_h_order k n (x2 + (-1))
def f_Seating_goToNextOrder_L41 (z_h_order : (Nat → Int32)) (x2 : Int32) (k : Int32 → Option (Int32 × (Nat → Int32))) : Nat → Int32 → Option (Int32 × (Nat → Int32))
  | 0, _ => none
  | n + 1, x3 =>
  if x3 ≤ x2 then
   k x3
  else
   if x3 < 0 ∨ 6 ≤ x3.toNatClampNeg then none else
   if x2 < 0 ∨ 6 ≤ x2.toNatClampNeg then none else
   if (z_h_order x2.toNatClampNeg) ≤ (z_h_order x3.toNatClampNeg) then
    k x3
   else
    f_Seating_goToNextOrder_L41 z_h_order x2 k n (x3 + (-1))
def f_Seating_goToNextOrder_L83 : Nat → (Nat → Int32) → Int32 → Int32 → Option (Int32 × (Nat → Int32))
  | 0, _, _, _ => none
  | n + 1, z_h_order, x4, x5 =>
  if x5 ≤ x4 then
   some (1, z_h_order)
  else
   (f_Seating_changePlaces z_h_order x4 x5).bind fun q14 =>
   f_Seating_goToNextOrder_L83 n q14 (x4 + 1) (x5 + (-1))
def f_Seating_goToNextOrder (z_h_order : (Nat → Int32)) (x1 : Int32) : Option (Int32 × (Nat → Int32)) :=
 f_Seating_goToNextOrder_L4 z_h_order (fun x2_5 =>
  if 0 < x2_5 then
   f_Seating_goToNextOrder_L41 z_h_order x2_5 (fun x3_11 =>
    (f_Seating_changePlaces z_h_order x2_5 x3_11).bind fun q12 =>
    f_Seating_goToNextOrder_L83 FU q12 (x2_5 + 1) (x1 - 1)) FU (x1 - 1)
  else
   some (0, z_h_order)) FU (x1 - 2)
def f_Seating_best_L14 (x4 : Int32) (k : (Nat → Int32) → Option (Int32 × (Nat → Int32) × (Nat → Int32) × RS)) : Nat → (Nat → Int32) → Int32 → Option (Int32 × (Nat → Int32) × (Nat → Int32) × RS)
  | 0, _, _ => none
  | n + 1, z_h_order, x5 =>
  if x4 ≤ x5 then
   k z_h_order
  else
   if x5 < 0 ∨ 6 ≤ x5.toNatClampNeg then none else
   f_Seating_best_L14 x4 k n (upd z_h_order x5.toNatClampNeg x5) (x5 + 1)
def f_Seating_best_L63 (z_g1 : RS) (x2 : Int32) (x3 : Int32) (x4 : Int32) : Nat → (Nat → Int32) → (Nat → Int32) → RS → Int32 → Int32 → Option (Int32 × (Nat → Int32) × (Nat → Int32) × RS)
  | 0, _, _, _, _, _ => none
  | n + 1, z_h_bestOrder, z_h_order, z_h_trial, x5, x6 =>
  if 120 ≤ x6 then
   some (x5, z_h_bestOrder, z_h_order, z_h_trial)
  else
   (f_Seating_goToNextOrder z_h_order x4).bind fun q7 =>
   if q7.1 = 0 then
    some (x5, z_h_bestOrder, q7.2, z_h_trial)
   else
    (f_Seating_numberOfOrder q7.2 z_h_trial z_g1 x2 x3).bind fun q9 =>
    if x3 = 0 then
     if x5 ≤ q9.1 then
      f_Seating_best_L63 z_g1 x2 x3 x4 n z_h_bestOrder q7.2 q9.2 x5 (x6 + 1)
     else
      if x4 < 0 ∨ 6 < x4.toNatClampNeg then none else
      f_Seating_best_L63 z_g1 x2 x3 x4 n (va_cpy q7.2 z_h_bestOrder 0 0 x4.toNatClampNeg) q7.2 q9.2 q9.1 (x6 + 1)
    else
     if q9.1 ≤ x5 then
      f_Seating_best_L63 z_g1 x2 x3 x4 n z_h_bestOrder q7.2 q9.2 x5 (x6 + 1)
     else
      if x4 < 0 ∨ 6 < x4.toNatClampNeg then none else
      f_Seating_best_L63 z_g1 x2 x3 x4 n (va_cpy q7.2 z_h_bestOrder 0 0 x4.toNatClampNeg) q7.2 q9.2 q9.1 (x6 + 1)
def f_Seating_best (z_h_bestOrder : (Nat → Int32)) (z_h_order : (Nat → Int32)) (z_h_trial : RS) (z_g1 : RS) (x2 : Int32) (x3 : Int32) : Option (Int32 × (Nat → Int32) × (Nat → Int32) × RS) :=
 f_Seating_best_L14 (jmin (r_children z_g1) 6) (fun z_h_order_3 =>
  (f_Seating_numberOfOrder z_h_order_3 z_h_trial z_g1 x2 x3).bind fun q4 =>
  if (jmin (r_children z_g1) 6) < 0 ∨ 6 < (jmin (r_children z_g1) 6).toNatClampNeg then none else
  f_Seating_best_L63 z_g1 x2 x3 (jmin (r_children z_g1) 6) FU (va_cpy z_h_order_3 z_h_bestOrder 0 0 (jmin (r_children z_g1) 6).toNatClampNeg) z_h_order_3 q4.2 q4.1 1) FU z_h_order 0
def f_X_seats (z_h_now : RS) (z_h_refusals : (Nat → Int32)) (z_h_seating_bestOrder : (Nat → Int32)) (z_h_seating_order : (Nat → Int32)) (z_h_seating_trial : RS) (x1 : Int32) (x2 : Int32) : Option (Int32 × (Nat → Int32) × (Nat → Int32) × (Nat → Int32) × RS) :=
 (f_X_refusalOfSeats z_h_now x1 x2 0).bind fun q1 =>
 if q1 = 0 then
  (f_Seating_best z_h_seating_bestOrder z_h_seating_order z_h_seating_trial z_h_now x1 x2).bind fun q3 =>
  some (q3.1, z_h_refusals, q3.2.1, q3.2.2.1, q3.2.2.2)
 else
  (f_X_refuse z_h_refusals q1).bind fun q4 =>
  some (q4.1, q4.2, z_h_seating_bestOrder, z_h_seating_order, z_h_seating_trial)
def f_X_seat (z_h_now : RS) (z_h_refusals : (Nat → Int32)) (z_h_seating_bestOrder : (Nat → Int32)) (z_h_seating_order : (Nat → Int32)) (z_h_seating_trial : RS) (x1 : Int32) (x2 : Int32) (x3 : Int32) : Option (Int32 × (Nat → Int32) × (Nat → Int32) × (Nat → Int32) × RS) :=
 (f_X_refusalOfSeats z_h_now x1 x2 x3).bind fun q1 =>
 if q1 = 0 then
  if x3 < (r_children z_h_now) then
   (f_Seating_best z_h_seating_bestOrder z_h_seating_order z_h_seating_trial z_h_now x1 x2).bind fun q4 =>
   if x3 < 0 ∨ 6 ≤ x3.toNatClampNeg then none else
   some ((q4.2.1 x3.toNatClampNeg), z_h_refusals, q4.2.1, q4.2.2.1, q4.2.2.2)
  else
   some ((-9), z_h_refusals, z_h_seating_bestOrder, z_h_seating_order, z_h_seating_trial)
 else
  (f_X_refuse z_h_refusals q1).bind fun q6 =>
  some (q6.1, q6.2, z_h_seating_bestOrder, z_h_seating_order, z_h_seating_trial)
def f_Mind_othersMore (z_h_one : RS) (z_h_two : RS) (z_g1 : RS) (x2 : Int32) (x3 : Int32) (x4 : Int32) : Option (Int32 × RS × RS) :=
 (f_Ring_copyFrom z_h_one z_g1).bind fun q1 =>
 (f_Ring_copyFrom z_h_two z_g1).bind fun q2 =>
 if x2 < 0 ∨ 8 ≤ x2.toNatClampNeg then none else
 (f_Ring_strikeOften q1 x4).bind fun q4 =>
 (f_Ring_strikeOften ((upd (r_kinds q2) x2.toNatClampNeg x3), (r_sweets q2), (r_settings q2), (r_heaps q2), (r_children q2), (r_strokes q2), (r_gave q2), (r_threw q2)) x4).bind fun q5 =>
 (f_Ring_allSweets q4).bind fun q6 =>
 (f_Ring_allSweets q5).bind fun q7 =>
 some (((q7 - ((r_sweets q5) x2.toNatClampNeg)) - (q6 - ((r_sweets q4) x2.toNatClampNeg))), q4, q5)
def f_X_hides (z_h_now : RS) (z_h_refusals : (Nat → Int32)) (z_h_mind_one : RS) (z_h_mind_two : RS) (x1 : Int32) (x2 : Int32) (x3 : Int32) : Option (Int32 × (Nat → Int32) × RS × RS) :=
 (f_Ring_has z_h_now x1).bind fun q1 =>
 if q1 = 0 then
  (f_X_refuse z_h_refusals (-1)).bind fun q3 =>
  some ((1000000000 - q3.1), q3.2, z_h_mind_one, z_h_mind_two)
 else
  (f_X_outside x2 0 50).bind fun q4 =>
  if q4 = 0 then
   if x3 = 0 then
    (f_Mind_othersMore z_h_mind_one z_h_mind_two z_h_now x1 3 x2).bind fun q7 =>
    some (q7.1, z_h_refusals, q7.2.1, q7.2.2)
   else
    (f_Mind_othersMore z_h_mind_one z_h_mind_two z_h_now x1 4 x2).bind fun q8 =>
    some (q8.1, z_h_refusals, q8.2.1, q8.2.2)
  else
   (f_X_refuse z_h_refusals q4).bind fun q9 =>
   some ((1000000000 - q9.1), q9.2, z_h_mind_one, z_h_mind_two)
def f_Mind_feltBehind_L45 (x2 : Int32) : Nat → RS → RS → Int32 → Option (Int32 × RS × RS)
  | 0, _, _, _ => none
  | n + 1, z_h_one, z_h_two, x4 =>
  if 50 < x4 then
   some ((-9), z_h_one, z_h_two)
  else
   if x2 < 0 ∨ 8 ≤ x2.toNatClampNeg then none else
   if ((r_sweets z_h_one) x2.toNatClampNeg) = ((r_sweets z_h_two) x2.toNatClampNeg) then
    (f_Ring_strike z_h_one).bind fun q7 =>
    (f_Ring_strike z_h_two).bind fun q8 =>
    f_Mind_feltBehind_L45 x2 n q7.2 q8.2 (x4 + 1)
   else
    some (x4, z_h_one, z_h_two)
def f_Mind_feltBehind (z_h_one : RS) (z_h_two : RS) (z_g1 : RS) (x2 : Int32) (x3 : Int32) : Option (Int32 × RS × RS) :=
 (f_Ring_copyFrom z_h_one z_g1).bind fun q1 =>
 (f_Ring_copyFrom z_h_two z_g1).bind fun q2 =>
 if x3 < 0 ∨ 8 ≤ x3.toNatClampNeg then none else
 f_Mind_feltBehind_L45 x2 FU q1 ((r_kinds q2), (upd (r_sweets q2) x3.toNatClampNeg (jmin (((r_sweets q2) x3.toNatClampNeg) + 1) 999)), (r_settings q2), (r_heaps q2), (r_children q2), (r_strokes q2), (r_gave q2), (r_threw q2)) 0
def f_X_felt (z_h_now : RS) (z_h_refusals : (Nat → Int32)) (z_h_mind_one : RS) (z_h_mind_two : RS) (x1 : Int32) (x2 : Int32) : Option (Int32 × (Nat → Int32) × RS × RS) :=
 (f_Ring_has z_h_now x1).bind fun q1 =>
 if q1 = 0 then
  (f_X_refuse z_h_refusals (-1)).bind fun q3 =>
  some (q3.1, q3.2, z_h_mind_one, z_h_mind_two)
 else
  (f_Ring_has z_h_now x2).bind fun q4 =>
  if q4 = 0 then
   (f_X_refuse z_h_refusals (-1)).bind fun q7 =>
   some (q7.1, q7.2, z_h_mind_one, z_h_mind_two)
  else
   (f_Mind_feltBehind z_h_mind_one z_h_mind_two z_h_now x1 x2).bind fun q6 =>
   some (q6.1, z_h_refusals, q6.2.1, q6.2.2)
def f_Mind_gaveJoined_L11 (z_g2 : RS) (k : RS → Option (Int32 × RS)) : Nat → RS → Int32 → Option (Int32 × RS)
  | 0, _, _ => none
  | n + 1, z_h_one, x4 =>
  if (r_children z_g2) ≤ x4 then
   k z_h_one
  else
   if x4 < 0 ∨ 8 ≤ x4.toNatClampNeg then none else
   (f_Ring_seatLast z_h_one ((r_kinds z_g2) x4.toNatClampNeg) ((r_sweets z_g2) x4.toNatClampNeg)).bind fun q4 =>
   f_Mind_gaveJoined_L11 z_g2 k n q4.2 (x4 + 1)
def f_Mind_gaveJoined (z_h_one : RS) (z_g1 : RS) (z_g2 : RS) (x3 : Int32) : Option (Int32 × RS) :=
 (f_Ring_copyFrom z_h_one z_g1).bind fun q1 =>
 f_Mind_gaveJoined_L11 z_g2 (fun z_h_one_5 =>
  (f_Ring_strikeOften z_h_one_5 x3).bind fun q6 =>
  some (((r_gave q6) - (r_gave z_g1)), q6)) FU q1 0
def f_X_joined (z_h_isKept : Int32) (z_h_now : RS) (z_h_kept : RS) (z_h_refusals : (Nat → Int32)) (z_h_mind_one : RS) (x1 : Int32) : Option (Int32 × (Nat → Int32) × RS) :=
 (f_X_outside x1 0 50).bind fun q1 =>
 if q1 = 0 then
  if z_h_isKept = 0 then
   (f_X_refuse z_h_refusals (-3)).bind fun q5 =>
   some (q5.1, q5.2, z_h_mind_one)
  else
   if ((r_children z_h_now) + (r_children z_h_kept)) ≤ 8 then
    (f_Mind_gaveJoined z_h_mind_one z_h_now z_h_kept x1).bind fun q7 =>
    some (q7.1, z_h_refusals, q7.2)
   else
    (f_X_refuse z_h_refusals (-3)).bind fun q8 =>
    some (q8.1, q8.2, z_h_mind_one)
 else
  (f_X_refuse z_h_refusals q1).bind fun q3 =>
  some (q3.1, q3.2, z_h_mind_one)
def f_Mind_gaveMore (z_h_one : RS) (z_h_two : RS) (z_g1 : RS) (x2 : Int32) (x3 : Int32) : Option (Int32 × RS × RS) :=
 (f_Ring_copyFrom z_h_one z_g1).bind fun q1 =>
 (f_Ring_copyFrom z_h_two z_g1).bind fun q2 =>
 (f_Ring_seatLast q2 0 x2).bind fun q3 =>
 (f_Ring_strikeOften q1 x3).bind fun q4 =>
 (f_Ring_strikeOften q3.2 x3).bind fun q5 =>
 some (((r_gave q5) - (r_gave q4)), q4, q5)
def f_X_newly (z_h_now : RS) (z_h_refusals : (Nat → Int32)) (z_h_mind_one : RS) (z_h_mind_two : RS) (x1 : Int32) (x2 : Int32) : Option (Int32 × (Nat → Int32) × RS × RS) :=
 if x1 < 0 then
  (f_X_refuse z_h_refusals (-4)).bind fun q2 =>
  some ((1000000000 - q2.1), q2.2, z_h_mind_one, z_h_mind_two)
 else
  if 0 ≤ x2 then
   if 999 < x1 then
    (f_X_refuse z_h_refusals (-6)).bind fun q5 =>
    some ((1000000000 - q5.1), q5.2, z_h_mind_one, z_h_mind_two)
   else
    if 50 < x2 then
     (f_X_refuse z_h_refusals (-6)).bind fun q7 =>
     some ((1000000000 - q7.1), q7.2, z_h_mind_one, z_h_mind_two)
    else
     if (r_children z_h_now) < 8 then
      (f_Mind_gaveMore z_h_mind_one z_h_mind_two z_h_now x1 x2).bind fun q9 =>
      some (q9.1, z_h_refusals, q9.2.1, q9.2.2)
     else
      (f_X_refuse z_h_refusals (-6)).bind fun q10 =>
      some ((1000000000 - q10.1), q10.2, z_h_mind_one, z_h_mind_two)
  else
   (f_X_refuse z_h_refusals (-4)).bind fun q11 =>
   some ((1000000000 - q11.1), q11.2, z_h_mind_one, z_h_mind_two)
def f_Mind_leastBegun_L19 (x3 : Int32) (k : RS → Option (Int32 × RS)) : Nat → RS → Int32 → Option (Int32 × RS)
  | 0, _, _ => none
  | n + 1, z_h_one, x4 =>
  if (r_children z_h_one) ≤ x4 then
   k z_h_one
  else
   if x4 < 0 ∨ 8 ≤ x4.toNatClampNeg then none else
   f_Mind_leastBegun_L19 x3 k n ((r_kinds z_h_one), (upd (r_sweets z_h_one) x4.toNatClampNeg x3), (r_settings z_h_one), (r_heaps z_h_one), (r_children z_h_one), (r_strokes z_h_one), (r_gave z_h_one), (r_threw z_h_one)) (x4 + 1)
def f_Mind_leastBegun_L2 (z_g1 : RS) (x2 : Int32) : Nat → RS → Int32 → Option (Int32 × RS)
  | 0, _, _ => none
  | n + 1, z_h_one, x3 =>
  if 99 < x3 then
   some ((-9), z_h_one)
  else
   (f_Ring_copyFrom z_h_one z_g1).bind fun q2 =>
   f_Mind_leastBegun_L19 x3 (fun z_h_one_5 =>
    (f_Mind_alikeWithin z_h_one_5 x2).bind fun q6 =>
    if q6.1 = (-9) then
     f_Mind_leastBegun_L2 z_g1 x2 n q6.2 (x3 + 1)
    else
     some (x3, q6.2)) FU q2 1
def f_Mind_leastBegun (z_h_one : RS) (z_g1 : RS) (x2 : Int32) : Option (Int32 × RS) :=
 f_Mind_leastBegun_L2 z_g1 x2 FU z_h_one 0
def f_X_begun (z_h_now : RS) (z_h_refusals : (Nat → Int32)) (z_h_mind_one : RS) (x1 : Int32) : Option (Int32 × (Nat → Int32) × RS) :=
 (f_X_outsideOrNobody z_h_now x1 0 50).bind fun q1 =>
 if q1 = 0 then
  (f_Mind_leastBegun z_h_mind_one z_h_now x1).bind fun q3 =>
  some (q3.1, z_h_refusals, q3.2)
 else
  (f_X_refuse z_h_refusals q1).bind fun q4 =>
  some (q4.1, q4.2, z_h_mind_one)
def f_Mind_draw (z_h_seed : Int32) (x1 : Int32) : Option (Int32 × Int32) :=
 if 1 ≤ x1 then
  if x1 = 0 then none else
  some ((((((z_h_seed * 1103515245) + 12345) &&& 2147483647) / 65536) % x1), ((z_h_seed * 1103515245) + 12345))
 else
  some (0, ((z_h_seed * 1103515245) + 12345))
def f_Mind_gaveBySeed_L16 (z_g1 : RS) (x2 : Int32) : Nat → Int32 → RS → Int32 → Option (Int32 × Int32 × RS)
  | 0, _, _, _ => none
  | n + 1, z_h_seed, z_h_one, x4 =>
  if x2 ≤ x4 then
   some (((r_gave z_h_one) - (r_gave z_g1)), z_h_seed, z_h_one)
  else
   (f_Mind_draw z_h_seed (r_children z_h_one)).bind fun q3 =>
   (f_Mind_draw q3.2 (r_children z_h_one)).bind fun q4 =>
   (f_Ring_changeSweets z_h_one q3.1 q4.1).bind fun q5 =>
   (f_Ring_strike q5).bind fun q6 =>
   f_Mind_gaveBySeed_L16 z_g1 x2 n q4.2 q6.2 (x4 + 1)
def f_Mind_gaveBySeed (z_h_seed : Int32) (z_h_one : RS) (z_g1 : RS) (x2 : Int32) (x3 : Int32) : Option (Int32 × Int32 × RS) :=
 (f_Ring_copyFrom z_h_one z_g1).bind fun q1 =>
 f_Mind_gaveBySeed_L16 z_g1 x2 FU x3 q1 0
def f_X_seeds (z_h_now : RS) (z_h_refusals : (Nat → Int32)) (z_h_mind_seed : Int32) (z_h_mind_one : RS) (x1 : Int32) (x2 : Int32) : Option (Int32 × (Nat → Int32) × Int32 × RS) :=
 (f_X_outsideOrNobody z_h_now x1 1 50).bind fun q1 =>
 if q1 = 0 then
  (f_Mind_gaveBySeed z_h_mind_seed z_h_mind_one z_h_now x1 x2).bind fun q3 =>
  some (q3.1, z_h_refusals, q3.2.1, q3.2.2)
 else
  (f_X_refuse z_h_refusals q1).bind fun q4 =>
  some (q4.1, q4.2, z_h_mind_seed, z_h_mind_one)
def f_X_row (z_h_numberCount : Int32) (z_h_numbers : (Nat → Int32)) (z_h_refusals : (Nat → Int32)) (x1 : Int32) : Option (Int32 × Int32 × (Nat → Int32) × (Nat → Int32)) :=
 (f_X_outside x1 0 999).bind fun q1 =>
 if q1 = 0 then
  if z_h_numberCount < 24 then
   if z_h_numberCount < 0 ∨ 24 ≤ z_h_numberCount.toNatClampNeg then none else
   some ((z_h_numberCount + 1), (z_h_numberCount + 1), (upd z_h_numbers z_h_numberCount.toNatClampNeg x1), z_h_refusals)
  else
   (f_X_refuse z_h_refusals (-6)).bind fun q6 =>
   some (q6.1, z_h_numberCount, z_h_numbers, q6.2)
 else
  (f_X_refuse z_h_refusals q1).bind fun q3 =>
  some (q3.1, z_h_numberCount, z_h_numbers, q3.2)
def f_Mind_firstWrong_L14 (z_g2 : (Nat → Int32)) (x3 : Int32) : Nat → RS → Int32 → Int32 → Option (Int32 × RS)
  | 0, _, _, _ => none
  | n + 1, z_h_one, x4, x5 =>
  if x3 ≤ x5 then
   some ((-9), z_h_one)
  else
   if 24 ≤ x5 then
    some ((-9), z_h_one)
   else
    if x4 = 0 then
     (f_Ring_strike z_h_one).bind fun q9 =>
     if x5 < 0 ∨ 24 ≤ x5.toNatClampNeg then none else
     if x4 < 0 ∨ 8 ≤ x4.toNatClampNeg then none else
     if (z_g2 x5.toNatClampNeg) = ((r_sweets q9.2) x4.toNatClampNeg) then
      if (r_children q9.2) ≤ (x4 + 1) then
       f_Mind_firstWrong_L14 z_g2 x3 n q9.2 0 (x5 + 1)
      else
       f_Mind_firstWrong_L14 z_g2 x3 n q9.2 (x4 + 1) (x5 + 1)
     else
      some (x5, q9.2)
    else
     if x5 < 0 ∨ 24 ≤ x5.toNatClampNeg then none else
     if x4 < 0 ∨ 8 ≤ x4.toNatClampNeg then none else
     if (z_g2 x5.toNatClampNeg) = ((r_sweets z_h_one) x4.toNatClampNeg) then
      if (r_children z_h_one) ≤ (x4 + 1) then
       f_Mind_firstWrong_L14 z_g2 x3 n z_h_one 0 (x5 + 1)
      else
       f_Mind_firstWrong_L14 z_g2 x3 n z_h_one (x4 + 1) (x5 + 1)
     else
      some (x5, z_h_one)
def f_Mind_firstWrong (z_h_one : RS) (z_g1 : RS) (z_g2 : (Nat → Int32)) (x3 : Int32) : Option (Int32 × RS) :=
 (f_Ring_copyFrom z_h_one z_g1).bind fun q1 =>
 f_Mind_firstWrong_L14 z_g2 x3 FU q1 0 0
def f_X_judge (z_h_numberCount : Int32) (z_h_now : RS) (z_h_numbers : (Nat → Int32)) (z_h_refusals : (Nat → Int32)) (z_h_mind_one : RS) : Option (Int32 × Int32 × (Nat → Int32) × RS) :=
 if (r_children z_h_now) = 0 then
  (f_X_refuse z_h_refusals (-3)).bind fun q3 =>
  some (q3.1, z_h_numberCount, q3.2, z_h_mind_one)
 else
  (f_Mind_firstWrong z_h_mind_one z_h_now z_h_numbers z_h_numberCount).bind fun q2 =>
  some (q2.1, 0, z_h_refusals, q2.2)
def f_X_image (z_h_isKept : Int32) (z_h_now : RS) (z_h_kept : RS) : Option (Int32 × Int32 × RS) :=
 (f_Ring_copyFrom z_h_kept z_h_now).bind fun q1 =>
 some ((r_children z_h_now), 1, q1)
def f_X_restore (z_h_isKept : Int32) (z_h_now : RS) (z_h_kept : RS) (z_h_refusals : (Nat → Int32)) : Option (Int32 × RS × (Nat → Int32)) :=
 if z_h_isKept = 0 then
  (f_X_refuse z_h_refusals (-3)).bind fun q3 =>
  some (q3.1, z_h_now, q3.2)
 else
  (f_Ring_copyFrom z_h_now z_h_kept).bind fun q2 =>
  some ((r_children q2), q2, z_h_refusals)
def f_Ring_oddHeaps_L4 (z_h : RS) : Nat → Int32 → Int32 → Option (Int32)
  | 0, _, _ => none
  | n + 1, x1, x2 =>
  if (r_children z_h) ≤ x2 then
   some x1
  else
   if x2 < 0 ∨ 8 ≤ x2.toNatClampNeg then none else
   f_Ring_oddHeaps_L4 z_h n (x1 + (((r_sweets z_h) x2.toNatClampNeg) % 2)) (x2 + 1)
def f_Ring_oddHeaps (z_h : RS) : Option (Int32) :=
 f_Ring_oddHeaps_L4 z_h FU 0 0
def f_X_count (z_h_numberCount : Int32) (z_h_now : RS) (z_h_letters_length : Int32) (z_h_refusals : (Nat → Int32)) (x1 : Int32) : Option (Int32) :=
 if x1 = 0 then
  some (r_children z_h_now)
 else
  if x1 = 1 then
   (f_Ring_allSweets z_h_now).bind fun q3 =>
   some q3
  else
   if x1 = 2 then
    some (r_strokes z_h_now)
   else
    if x1 = 3 then
     some (r_gave z_h_now)
    else
     if x1 = 4 then
      some (r_threw z_h_now)
     else
      if x1 = 5 then
       some z_h_letters_length
      else
       if x1 = 6 then
        some z_h_numberCount
       else
        if x1 = 7 then
         (f_Ring_oddHeaps z_h_now).bind fun q10 =>
         some q10
        else
         if x1 < 11 then
          some (-9)
         else
          if 16 < x1 then
           some (-9)
          else
           if (x1 - 10) < 0 ∨ 7 ≤ (x1 - 10).toNatClampNeg then none else
           some (z_h_refusals (x1 - 10).toNatClampNeg)
def f_M_no (z_h_refused : (Nat → Int32)) (x1 : Int32) : Option (Int32 × (Nat → Int32)) :=
 if (-x1) < 0 ∨ 7 ≤ (-x1).toNatClampNeg then none else
 some (x1, (upd z_h_refused (-x1).toNatClampNeg ((z_h_refused (-x1).toNatClampNeg) + 1)))
def f_M_lower (z_h_refused : (Nat → Int32)) (x1 : Int32) : Option (Int32 × (Nat → Int32)) :=
 if (-x1) < 0 ∨ 7 ≤ (-x1).toNatClampNeg then none else
 some ((1000000000 - x1), (upd z_h_refused (-x1).toNatClampNeg ((z_h_refused (-x1).toNatClampNeg) + 1)))
def f_M_lowest (z_h_refused : (Nat → Int32)) (x1 : Int32) : Option (Int64 × (Nat → Int32)) :=
 if (-x1) < 0 ∨ 7 ≤ (-x1).toNatClampNeg then none else
 some ((4000000000000000000 - (x1.toInt64)), (upd z_h_refused (-x1).toNatClampNeg ((z_h_refused (-x1).toNatClampNeg) + 1)))
def f_M_isIn (x0 : Int32) (x1 : Int32) (x2 : Int32) : Option (Int32) :=
 if x0 < x1 then
  some 0
 else
  if x2 < x0 then
   some 0
  else
   some 1
def f_M_bound (x0 : Int32) (x1 : Int32) (x2 : Int32) : Option (Int32) :=
 if x1 ≤ x0 then
  if x0 ≤ x2 then
   some 0
  else
   some (-6)
 else
  some (-4)
def f_M_isChild (z_h_T : MT) (x1 : Int32) : Option (Int32) :=
 if x1 < 0 then
  some 0
 else
  if (m_many z_h_T) ≤ x1 then
   some 0
  else
   some 1
def f_M_feed (z_h_taped : Int32) (z_h_refused : (Nat → Int32)) (z_h_tape : (Nat → Int32)) (x1 : Int32) : Option (Int32 × Int32 × (Nat → Int32) × (Nat → Int32)) :=
 (f_M_bound x1 0 255).bind fun q1 =>
 if q1 = 0 then
  if z_h_taped = 64 then
   (f_M_no z_h_refused (-6)).bind fun q6 =>
   some (q6.1, z_h_taped, q6.2, z_h_tape)
  else
   if z_h_taped < 0 ∨ 64 ≤ z_h_taped.toNatClampNeg then none else
   some ((z_h_taped + 1), (z_h_taped + 1), z_h_refused, (upd z_h_tape z_h_taped.toNatClampNeg x1))
 else
  (f_M_no z_h_refused q1).bind fun q3 =>
  some (q3.1, z_h_taped, q3.2, z_h_tape)
def f_M_next (z_h_taped : Int32) (z_h_at : Int32) (z_h_tape : (Nat → Int32)) : Option (Int32) :=
 if z_h_taped ≤ z_h_at then
  some (-1)
 else
  if z_h_at < 0 ∨ 64 ≤ z_h_at.toNatClampNeg then none else
  some (z_h_tape z_h_at.toNatClampNeg)
def f_M_number_L20 (z_h_taped : Int32) (z_h_tape : (Nat → Int32)) (x1 : Int32) : Nat → Int32 → Int32 → Int32 → Option (Int32 × Int32)
  | 0, _, _, _ => none
  | n + 1, z_h_at, x2, x3 =>
  if x1 ≤ x3 then
   some (x2, z_h_at)
  else
   (f_M_next z_h_taped z_h_at z_h_tape).bind fun q5 =>
   (f_M_isIn q5 48 57).bind fun q6 =>
   if q6 = 0 then
    some (x2, z_h_at)
   else
    (f_M_next z_h_taped z_h_at z_h_tape).bind fun q8 =>
    f_M_number_L20 z_h_taped z_h_tape x1 n (z_h_at + 1) (((10 * x2) + q8) - 48) (x3 + 1)
def f_M_number (z_h_taped : Int32) (z_h_at : Int32) (z_h_tape : (Nat → Int32)) (x1 : Int32) : Option (Int32 × Int32) :=
 (f_M_next z_h_taped z_h_at z_h_tape).bind fun q1 =>
 (f_M_isIn q1 48 57).bind fun q2 =>
 if q2 = 0 then
  some ((-1), z_h_at)
 else
  f_M_number_L20 z_h_taped z_h_tape x1 FU z_h_at 0 0
def f_M_kindOf (x0 : Int32) : Option (Int32) :=
 if x0 = 98 then
  some 1
 else
  if x0 = 99 then
   some (-1)
  else
   if x0 = 100 then
    some 3
   else
    if x0 = 101 then
     some (-1)
    else
     if x0 = 102 then
      some (-1)
     else
      if x0 = 103 then
       some (-1)
      else
       if x0 = 104 then
        some 0
       else
        if x0 = 105 then
         some (-1)
        else
         if x0 = 106 then
          some (-1)
         else
          if x0 = 107 then
           some (-1)
          else
           if x0 = 108 then
            some (-1)
           else
            if x0 = 109 then
             some (-1)
            else
             if x0 = 110 then
              some 4
             else
              if x0 = 111 then
               some (-1)
              else
               if x0 = 112 then
                some 5
               else
                if x0 = 113 then
                 some (-1)
                else
                 if x0 = 114 then
                  some 2
                 else
                  if x0 = 115 then
                   some 6
                  else
                   some (-1)
def f_M_statement (z_h_taped : Int32) (z_h_at : Int32) (z_h_statements : Int32) (z_h_tape : (Nat → Int32)) (z_h_letter : (Nat → Int32)) (z_h_letterAt : (Nat → Int32)) (z_h_one : (Nat → Int32)) (z_h_two : (Nat → Int32)) : Option (Int32 × Int32 × (Nat → Int32) × (Nat → Int32) × (Nat → Int32) × (Nat → Int32)) :=
 (f_M_next z_h_taped z_h_at z_h_tape).bind fun q1 =>
 if q1 = 99 then
  if z_h_statements < 0 ∨ 32 ≤ z_h_statements.toNatClampNeg then none else
  (f_M_next z_h_taped (z_h_at + 1) z_h_tape).bind fun q4 =>
  (f_M_kindOf q4).bind fun q5 =>
  if 0 ≤ ((upd z_h_one z_h_statements.toNatClampNeg q5) z_h_statements.toNatClampNeg) then
   (f_M_number z_h_taped ((z_h_at + 1) + 1) z_h_tape 3).bind fun q7 =>
   if 0 ≤ ((upd z_h_two z_h_statements.toNatClampNeg q7.1) z_h_statements.toNatClampNeg) then
    (f_M_next z_h_taped q7.2 z_h_tape).bind fun q9 =>
    if q9 = 59 then
     some (1, (q7.2 + 1), (upd z_h_letter z_h_statements.toNatClampNeg q1), (upd z_h_letterAt z_h_statements.toNatClampNeg z_h_at), (upd z_h_one z_h_statements.toNatClampNeg q5), (upd z_h_two z_h_statements.toNatClampNeg q7.1))
    else
     some (0, q7.2, (upd z_h_letter z_h_statements.toNatClampNeg q1), (upd z_h_letterAt z_h_statements.toNatClampNeg z_h_at), (upd z_h_one z_h_statements.toNatClampNeg q5), (upd z_h_two z_h_statements.toNatClampNeg q7.1))
   else
    some (0, q7.2, (upd z_h_letter z_h_statements.toNatClampNeg q1), (upd z_h_letterAt z_h_statements.toNatClampNeg z_h_at), (upd z_h_one z_h_statements.toNatClampNeg q5), (upd z_h_two z_h_statements.toNatClampNeg q7.1))
  else
   some (0, (z_h_at + 1), (upd z_h_letter z_h_statements.toNatClampNeg q1), (upd z_h_letterAt z_h_statements.toNatClampNeg z_h_at), (upd z_h_one z_h_statements.toNatClampNeg q5), z_h_two)
 else
  if q1 = 108 then
   if z_h_statements < 0 ∨ 32 ≤ z_h_statements.toNatClampNeg then none else
   (f_M_number z_h_taped (z_h_at + 1) z_h_tape 1).bind fun q13 =>
   if 0 ≤ ((upd z_h_one z_h_statements.toNatClampNeg q13.1) z_h_statements.toNatClampNeg) then
    (f_M_number z_h_taped q13.2 z_h_tape 1).bind fun q15 =>
    if 0 ≤ ((upd z_h_two z_h_statements.toNatClampNeg q15.1) z_h_statements.toNatClampNeg) then
     (f_M_next z_h_taped q15.2 z_h_tape).bind fun q17 =>
     if q17 = 59 then
      some (1, (q15.2 + 1), (upd z_h_letter z_h_statements.toNatClampNeg q1), (upd z_h_letterAt z_h_statements.toNatClampNeg z_h_at), (upd z_h_one z_h_statements.toNatClampNeg q13.1), (upd z_h_two z_h_statements.toNatClampNeg q15.1))
     else
      some (0, q15.2, (upd z_h_letter z_h_statements.toNatClampNeg q1), (upd z_h_letterAt z_h_statements.toNatClampNeg z_h_at), (upd z_h_one z_h_statements.toNatClampNeg q13.1), (upd z_h_two z_h_statements.toNatClampNeg q15.1))
    else
     some (0, q15.2, (upd z_h_letter z_h_statements.toNatClampNeg q1), (upd z_h_letterAt z_h_statements.toNatClampNeg z_h_at), (upd z_h_one z_h_statements.toNatClampNeg q13.1), (upd z_h_two z_h_statements.toNatClampNeg q15.1))
   else
    some (0, q13.2, (upd z_h_letter z_h_statements.toNatClampNeg q1), (upd z_h_letterAt z_h_statements.toNatClampNeg z_h_at), (upd z_h_one z_h_statements.toNatClampNeg q13.1), z_h_two)
  else
   if q1 = 103 then
    if z_h_statements < 0 ∨ 32 ≤ z_h_statements.toNatClampNeg then none else
    (f_M_number z_h_taped (z_h_at + 1) z_h_tape 3).bind fun q21 =>
    if 0 ≤ ((upd z_h_one z_h_statements.toNatClampNeg q21.1) z_h_statements.toNatClampNeg) then
     if 0 ≤ ((upd z_h_two z_h_statements.toNatClampNeg 0) z_h_statements.toNatClampNeg) then
      (f_M_next z_h_taped q21.2 z_h_tape).bind fun q24 =>
      if q24 = 59 then
       some (1, (q21.2 + 1), (upd z_h_letter z_h_statements.toNatClampNeg q1), (upd z_h_letterAt z_h_statements.toNatClampNeg z_h_at), (upd z_h_one z_h_statements.toNatClampNeg q21.1), (upd z_h_two z_h_statements.toNatClampNeg 0))
      else
       some (0, q21.2, (upd z_h_letter z_h_statements.toNatClampNeg q1), (upd z_h_letterAt z_h_statements.toNatClampNeg z_h_at), (upd z_h_one z_h_statements.toNatClampNeg q21.1), (upd z_h_two z_h_statements.toNatClampNeg 0))
     else
      some (0, q21.2, (upd z_h_letter z_h_statements.toNatClampNeg q1), (upd z_h_letterAt z_h_statements.toNatClampNeg z_h_at), (upd z_h_one z_h_statements.toNatClampNeg q21.1), (upd z_h_two z_h_statements.toNatClampNeg 0))
    else
     some (0, q21.2, (upd z_h_letter z_h_statements.toNatClampNeg q1), (upd z_h_letterAt z_h_statements.toNatClampNeg z_h_at), (upd z_h_one z_h_statements.toNatClampNeg q21.1), z_h_two)
   else
    some (0, z_h_at, z_h_letter, z_h_letterAt, z_h_one, z_h_two)
def f_M_comes (z_h_T : MT) (z_h_letter : (Nat → Int32)) (z_h_one : (Nat → Int32)) (z_h_two : (Nat → Int32)) (x1 : Int32) : Option (Int32 × MT) :=
 if x1 < 0 ∨ 32 ≤ x1.toNatClampNeg then none else
 if (z_h_letter x1.toNatClampNeg) = 103 then
  some (1, ((m_kind z_h_T), (m_sweets z_h_T), (m_gives z_h_T), (m_kept z_h_T), (m_many z_h_T), (m_odd z_h_T), (m_step z_h_T), (z_h_one x1.toNatClampNeg), (m_strokes z_h_T), (m_gave z_h_T), (m_threw z_h_T), (m_isKeeping z_h_T), (m_cursor z_h_T)))
 else
  if (z_h_letter x1.toNatClampNeg) = 108 then
   if 3 ≤ (z_h_one x1.toNatClampNeg) then
    some (0, ((m_kind z_h_T), (m_sweets z_h_T), (m_gives z_h_T), (m_kept z_h_T), (m_many z_h_T), (z_h_one x1.toNatClampNeg), (z_h_two x1.toNatClampNeg), (m_bag z_h_T), (m_strokes z_h_T), (m_gave z_h_T), (m_threw z_h_T), (m_isKeeping z_h_T), (m_cursor z_h_T)))
   else
    (f_M_isIn (z_h_two x1.toNatClampNeg) 1 3).bind fun q7 =>
    if q7 = 0 then
     some (0, ((m_kind z_h_T), (m_sweets z_h_T), (m_gives z_h_T), (m_kept z_h_T), (m_many z_h_T), (z_h_one x1.toNatClampNeg), (z_h_two x1.toNatClampNeg), (m_bag z_h_T), (m_strokes z_h_T), (m_gave z_h_T), (m_threw z_h_T), (m_isKeeping z_h_T), (m_cursor z_h_T)))
    else
     some (1, ((m_kind z_h_T), (m_sweets z_h_T), (m_gives z_h_T), (m_kept z_h_T), (m_many z_h_T), (z_h_one x1.toNatClampNeg), (z_h_two x1.toNatClampNeg), (m_bag z_h_T), (m_strokes z_h_T), (m_gave z_h_T), (m_threw z_h_T), (m_isKeeping z_h_T), (m_cursor z_h_T)))
  else
   if (m_many z_h_T) = 8 then
    some (0, z_h_T)
   else
    if (m_many z_h_T) < 0 ∨ 8 ≤ (m_many z_h_T).toNatClampNeg then none else
    some (1, ((upd (m_kind z_h_T) (m_many z_h_T).toNatClampNeg (z_h_one x1.toNatClampNeg)), (upd (m_sweets z_h_T) (m_many z_h_T).toNatClampNeg (z_h_two x1.toNatClampNeg)), (m_gives z_h_T), (m_kept z_h_T), ((m_many z_h_T) + 1), (m_odd z_h_T), (m_step z_h_T), (m_bag z_h_T), (m_strokes z_h_T), (m_gave z_h_T), (m_threw z_h_T), (m_isKeeping z_h_T), (m_cursor z_h_T)))
def f_M_passOne (z_h_T : MT) (x1 : Int32) : Option (Int32 × MT) :=
 if (m_isKeeping z_h_T) = 0 then
  if (m_cursor z_h_T) < 0 ∨ 90 ≤ (m_cursor z_h_T).toNatClampNeg then none else
  some (((m_kept z_h_T) (m_cursor z_h_T).toNatClampNeg), ((m_kind z_h_T), (m_sweets z_h_T), (m_gives z_h_T), (m_kept z_h_T), (m_many z_h_T), (m_odd z_h_T), (m_step z_h_T), (m_bag z_h_T), (m_strokes z_h_T), (m_gave z_h_T), (m_threw z_h_T), (m_isKeeping z_h_T), ((m_cursor z_h_T) + 1)))
 else
  if (m_cursor z_h_T) < 0 ∨ 90 ≤ (m_cursor z_h_T).toNatClampNeg then none else
  some (x1, ((m_kind z_h_T), (m_sweets z_h_T), (m_gives z_h_T), (upd (m_kept z_h_T) (m_cursor z_h_T).toNatClampNeg x1), (m_many z_h_T), (m_odd z_h_T), (m_step z_h_T), (m_bag z_h_T), (m_strokes z_h_T), (m_gave z_h_T), (m_threw z_h_T), (m_isKeeping z_h_T), ((m_cursor z_h_T) + 1)))
def f_M_passesAll_L15 (k : MT → Option (MT)) : Nat → MT → Int32 → Option (MT)
  | 0, _, _ => none
  | n + 1, z_h_T, x3 =>
  if 8 ≤ x3 then
   k z_h_T
  else
   if x3 < 0 ∨ 8 ≤ x3.toNatClampNeg then none else
   (f_M_passOne z_h_T ((m_kind z_h_T) x3.toNatClampNeg)).bind fun q4 =>
   (f_M_passOne ((upd (m_kind q4.2) x3.toNatClampNeg q4.1), (m_sweets q4.2), (m_gives q4.2), (m_kept q4.2), (m_many q4.2), (m_odd q4.2), (m_step q4.2), (m_bag q4.2), (m_strokes q4.2), (m_gave q4.2), (m_threw q4.2), (m_isKeeping q4.2), (m_cursor q4.2)) ((m_sweets q4.2) x3.toNatClampNeg)).bind fun q5 =>
   f_M_passesAll_L15 k n ((m_kind q5.2), (upd (m_sweets q5.2) x3.toNatClampNeg q5.1), (m_gives q5.2), (m_kept q5.2), (m_many q5.2), (m_odd q5.2), (m_step q5.2), (m_bag q5.2), (m_strokes q5.2), (m_gave q5.2), (m_threw q5.2), (m_isKeeping q5.2), (m_cursor q5.2)) (x3 + 1)
def f_M_passesAll (z_h_T : MT) (x1 : Int32) (x2 : Int32) : Option (MT) :=
 if ¬ (x2 = 0 ∨ x2 = 1) then none else
 f_M_passesAll_L15 (fun z_h_T_6 =>
  (f_M_passOne z_h_T_6 (m_many z_h_T_6)).bind fun q7 =>
  (f_M_passOne ((m_kind q7.2), (m_sweets q7.2), (m_gives q7.2), (m_kept q7.2), q7.1, (m_odd q7.2), (m_step q7.2), (m_bag q7.2), (m_strokes q7.2), (m_gave q7.2), (m_threw q7.2), (m_isKeeping q7.2), (m_cursor q7.2)) (m_odd q7.2)).bind fun q8 =>
  (f_M_passOne ((m_kind q8.2), (m_sweets q8.2), (m_gives q8.2), (m_kept q8.2), (m_many q8.2), q8.1, (m_step q8.2), (m_bag q8.2), (m_strokes q8.2), (m_gave q8.2), (m_threw q8.2), (m_isKeeping q8.2), (m_cursor q8.2)) (m_step q8.2)).bind fun q9 =>
  (f_M_passOne ((m_kind q9.2), (m_sweets q9.2), (m_gives q9.2), (m_kept q9.2), (m_many q9.2), (m_odd q9.2), q9.1, (m_bag q9.2), (m_strokes q9.2), (m_gave q9.2), (m_threw q9.2), (m_isKeeping q9.2), (m_cursor q9.2)) (m_bag q9.2)).bind fun q10 =>
  (f_M_passOne ((m_kind q10.2), (m_sweets q10.2), (m_gives q10.2), (m_kept q10.2), (m_many q10.2), (m_odd q10.2), (m_step q10.2), q10.1, (m_strokes q10.2), (m_gave q10.2), (m_threw q10.2), (m_isKeeping q10.2), (m_cursor q10.2)) (m_strokes q10.2)).bind fun q11 =>
  (f_M_passOne ((m_kind q11.2), (m_sweets q11.2), (m_gives q11.2), (m_kept q11.2), (m_many q11.2), (m_odd q11.2), (m_step q11.2), (m_bag q11.2), q11.1, (m_gave q11.2), (m_threw q11.2), (m_isKeeping q11.2), (m_cursor q11.2)) (m_gave q11.2)).bind fun q12 =>
  (f_M_passOne ((m_kind q12.2), (m_sweets q12.2), (m_gives q12.2), (m_kept q12.2), (m_many q12.2), (m_odd q12.2), (m_step q12.2), (m_bag q12.2), (m_strokes q12.2), q12.1, (m_threw q12.2), (m_isKeeping q12.2), (m_cursor q12.2)) (m_threw q12.2)).bind fun q13 =>
  some ((m_kind q13.2), (m_sweets q13.2), (m_gives q13.2), (m_kept q13.2), (m_many q13.2), (m_odd q13.2), (m_step q13.2), (m_bag q13.2), (m_strokes q13.2), (m_gave q13.2), q13.1, (m_isKeeping q13.2), (m_cursor q13.2))) FU ((m_kind z_h_T), (m_sweets z_h_T), (m_gives z_h_T), (m_kept z_h_T), (m_many z_h_T), (m_odd z_h_T), (m_step z_h_T), (m_bag z_h_T), (m_strokes z_h_T), (m_gave z_h_T), (m_threw z_h_T), x2, (30 * x1)) 0
def f_M_table_L12 (z_h_taped : Int32) (z_h_tape : (Nat → Int32)) (k : Int32 → Int32 → (Nat → Int32) → (Nat → Int32) → (Nat → Int32) → (Nat → Int32) → Int32 → Option (Int32 × MT × Int32 × Int32 × Int32 × (Nat → Int32) × (Nat → Int32) × (Nat → Int32) × (Nat → Int32))) : Nat → Int32 → Int32 → (Nat → Int32) → (Nat → Int32) → (Nat → Int32) → (Nat → Int32) → Int32 → Option (Int32 × MT × Int32 × Int32 × Int32 × (Nat → Int32) × (Nat → Int32) × (Nat → Int32) × (Nat → Int32))
  | 0, _, _, _, _, _, _, _ => none
  | n + 1, z_h_at, z_h_statements, z_h_letter, z_h_letterAt, z_h_one, z_h_two, x1 =>
  if x1 = 0 then
   k z_h_at z_h_statements z_h_letter z_h_letterAt z_h_one z_h_two x1
  else
   if z_h_at < z_h_taped then
    (f_M_statement z_h_taped z_h_at z_h_statements z_h_tape z_h_letter z_h_letterAt z_h_one z_h_two).bind fun q3 =>
    if q3.1 = 0 then
     f_M_table_L12 z_h_taped z_h_tape k n q3.2.1 (z_h_statements + 0) q3.2.2.1 q3.2.2.2.1 q3.2.2.2.2.1 q3.2.2.2.2.2 q3.1
    else
     f_M_table_L12 z_h_taped z_h_tape k n q3.2.1 (z_h_statements + 1) q3.2.2.1 q3.2.2.2.1 q3.2.2.2.2.1 q3.2.2.2.2.2 q3.1
   else
    if z_h_statements = 0 then
     (f_M_statement z_h_taped z_h_at z_h_statements z_h_tape z_h_letter z_h_letterAt z_h_one z_h_two).bind fun q6 =>
     if q6.1 = 0 then
      f_M_table_L12 z_h_taped z_h_tape k n q6.2.1 (z_h_statements + 0) q6.2.2.1 q6.2.2.2.1 q6.2.2.2.2.1 q6.2.2.2.2.2 q6.1
     else
      f_M_table_L12 z_h_taped z_h_tape k n q6.2.1 (z_h_statements + 1) q6.2.2.1 q6.2.2.2.1 q6.2.2.2.2.1 q6.2.2.2.2.2 q6.1
    else
     k z_h_at z_h_statements z_h_letter z_h_letterAt z_h_one z_h_two x1
def f_M_table_L86 (z_h_taped : Int32) (z_h_at : Int32) (z_h_statements : Int32) (z_h_letter : (Nat → Int32)) (z_h_letterAt : (Nat → Int32)) (z_h_one : (Nat → Int32)) (z_h_two : (Nat → Int32)) (k : MT → Int32 → Option (Int32 × MT × Int32 × Int32 × Int32 × (Nat → Int32) × (Nat → Int32) × (Nat → Int32) × (Nat → Int32))) : Nat → MT → Int32 → Option (Int32 × MT × Int32 × Int32 × Int32 × (Nat → Int32) × (Nat → Int32) × (Nat → Int32) × (Nat → Int32))
  | 0, _, _ => none
  | n + 1, z_h_T, x2 =>
  if z_h_statements ≤ x2 then
   some (z_h_statements, z_h_T, z_h_taped, z_h_at, z_h_statements, z_h_letter, z_h_letterAt, z_h_one, z_h_two)
  else
   (f_M_comes z_h_T z_h_letter z_h_one z_h_two x2).bind fun q12 =>
   if q12.1 = 0 then
    k q12.2 x2
   else
    f_M_table_L86 z_h_taped z_h_at z_h_statements z_h_letter z_h_letterAt z_h_one z_h_two k n q12.2 (x2 + 1)
def f_M_table (z_h_T : MT) (z_h_taped : Int32) (z_h_at : Int32) (z_h_statements : Int32) (z_h_tape : (Nat → Int32)) (z_h_letter : (Nat → Int32)) (z_h_letterAt : (Nat → Int32)) (z_h_one : (Nat → Int32)) (z_h_two : (Nat → Int32)) : Option (Int32 × MT × Int32 × Int32 × Int32 × (Nat → Int32) × (Nat → Int32) × (Nat → Int32) × (Nat → Int32)) :=
 f_M_table_L12 z_h_taped z_h_tape (fun z_h_at_8 z_h_statements_8 z_h_letter_8 z_h_letterAt_8 z_h_one_8 z_h_two_8 x1_8 =>
  if x1_8 = 0 then
   some (((-1000) - z_h_at_8), z_h_T, 0, z_h_at_8, z_h_statements_8, z_h_letter_8, z_h_letterAt_8, z_h_one_8, z_h_two_8)
  else
   (f_M_passesAll z_h_T 1 1).bind fun q10 =>
   f_M_table_L86 0 z_h_at_8 z_h_statements_8 z_h_letter_8 z_h_letterAt_8 z_h_one_8 z_h_two_8 (fun z_h_T_14 x2_14 =>
    (f_M_passesAll z_h_T_14 1 0).bind fun q15 =>
    if x2_14 < 0 ∨ 32 ≤ x2_14.toNatClampNeg then none else
    some (((-2000) - (z_h_letterAt_8 x2_14.toNatClampNeg)), q15, 0, z_h_at_8, z_h_statements_8, z_h_letter_8, z_h_letterAt_8, z_h_one_8, z_h_two_8)) FU q10 0) FU 0 0 z_h_letter z_h_letterAt z_h_one z_h_two 1
def f_M_image (z_h_T : MT) (z_h_hasImage : Int32) : Option (Int32 × MT × Int32) :=
 (f_M_passesAll z_h_T 0 1).bind fun q1 =>
 some ((m_many q1), q1, 1)
def f_M_restore (z_h_T : MT) (z_h_hasImage : Int32) (z_h_refused : (Nat → Int32)) : Option (Int32 × MT × (Nat → Int32)) :=
 if z_h_hasImage = 0 then
  (f_M_no z_h_refused (-3)).bind fun q3 =>
  some (q3.1, z_h_T, q3.2)
 else
  (f_M_passesAll z_h_T 0 0).bind fun q2 =>
  some ((m_many q2), q2, z_h_refused)
def f_M_leftOf (z_h_T : MT) (x1 : Int32) : Option (Int32) :=
 if (m_many z_h_T) = 0 then none else
 some ((x1 + (m_step z_h_T)) % (m_many z_h_T))
def f_M_rightOf (z_h_T : MT) (x1 : Int32) : Option (Int32) :=
 if (m_many z_h_T) = 0 then none else
 some (((x1 + (3 * (m_many z_h_T))) - (m_step z_h_T)) % (m_many z_h_T))
def f_M_givesOf (z_h_T : MT) (x1 : Int32) : Option (Int32) :=
 (f_M_leftOf z_h_T x1).bind fun q1 =>
 if x1 < 0 ∨ 8 ≤ x1.toNatClampNeg then none else
 if q1 = x1 then
  some 0
 else
  if q1 < 0 ∨ 8 ≤ q1.toNatClampNeg then none else
  if ((m_kind z_h_T) x1.toNatClampNeg) = 0 then
   some (((m_sweets z_h_T) x1.toNatClampNeg) / 2)
  else
   if ((m_kind z_h_T) x1.toNatClampNeg) = 1 then
    some (((m_sweets z_h_T) x1.toNatClampNeg) / 4)
   else
    if ((m_kind z_h_T) x1.toNatClampNeg) = 2 then
     if (((m_sweets z_h_T) x1.toNatClampNeg) - ((m_sweets z_h_T) q1.toNatClampNeg)) ≤ 0 then
      some 0
     else
      some (((m_sweets z_h_T) x1.toNatClampNeg) / 2)
    else
     if ((m_kind z_h_T) x1.toNatClampNeg) = 3 then
      if ((m_sweets z_h_T) x1.toNatClampNeg) = 0 then
       some 0
      else
       some ((((m_sweets z_h_T) x1.toNatClampNeg) - 1) / 2)
     else
      if ((m_kind z_h_T) x1.toNatClampNeg) = 4 then
       some 0
      else
       if ((m_kind z_h_T) x1.toNatClampNeg) = 5 then
        if (((m_sweets z_h_T) x1.toNatClampNeg) - ((m_sweets z_h_T) q1.toNatClampNeg)) ≤ 0 then
         some 0
        else
         some ((((m_sweets z_h_T) x1.toNatClampNeg) - ((m_sweets z_h_T) q1.toNatClampNeg)) / 2)
       else
        if ((m_kind z_h_T) x1.toNatClampNeg) = 6 then
         if 4 ≤ ((m_sweets z_h_T) x1.toNatClampNeg) then
          some ((((m_sweets z_h_T) x1.toNatClampNeg) - 1) / 2)
         else
          some 0
        else
         some 0
def f_M_held (x0 : Int32) : Option (Int32) :=
 if x0 ≤ 999 then
  some x0
 else
  some 999
def f_M_mends (z_h_T : MT) (x1 : Int32) : Option (MT) :=
 if x1 < 0 ∨ 8 ≤ x1.toNatClampNeg then none else
 if (((m_sweets z_h_T) x1.toNatClampNeg) % 2) = 0 then
  some z_h_T
 else
  if (m_odd z_h_T) = 0 then
   if (m_bag z_h_T) ≤ 0 then
    some z_h_T
   else
    (f_M_held (((m_sweets z_h_T) x1.toNatClampNeg) + 1)).bind fun q6 =>
    some ((m_kind z_h_T), (upd (m_sweets z_h_T) x1.toNatClampNeg q6), (m_gives z_h_T), (m_kept z_h_T), (m_many z_h_T), (m_odd z_h_T), (m_step z_h_T), ((m_bag z_h_T) - 1), (m_strokes z_h_T), ((m_gave z_h_T) + 1), (m_threw z_h_T), (m_isKeeping z_h_T), (m_cursor z_h_T))
  else
   if (m_odd z_h_T) = 1 then
    some ((m_kind z_h_T), (upd (m_sweets z_h_T) x1.toNatClampNeg (((m_sweets z_h_T) x1.toNatClampNeg) - 1)), (m_gives z_h_T), (m_kept z_h_T), (m_many z_h_T), (m_odd z_h_T), (m_step z_h_T), (m_bag z_h_T), (m_strokes z_h_T), (m_gave z_h_T), ((m_threw z_h_T) + 1), (m_isKeeping z_h_T), (m_cursor z_h_T))
   else
    some z_h_T
def f_M_goesOnce_L2 (k : MT → Option (MT)) : Nat → MT → Int32 → Option (MT)
  | 0, _, _ => none
  | n + 1, z_h_T, x1 =>
  if (m_many z_h_T) ≤ x1 then
   k z_h_T
  else
   (f_M_givesOf z_h_T x1).bind fun q2 =>
   if x1 < 0 ∨ 8 ≤ x1.toNatClampNeg then none else
   f_M_goesOnce_L2 k n ((m_kind z_h_T), (m_sweets z_h_T), (upd (m_gives z_h_T) x1.toNatClampNeg q2), (m_kept z_h_T), (m_many z_h_T), (m_odd z_h_T), (m_step z_h_T), (m_bag z_h_T), (m_strokes z_h_T), (m_gave z_h_T), (m_threw z_h_T), (m_isKeeping z_h_T), (m_cursor z_h_T)) (x1 + 1)
def f_M_goesOnce_L29 (k : MT → Option (MT)) : Nat → MT → Int32 → Option (MT)
  | 0, _, _ => none
  | n + 1, z_h_T, x1 =>
  if (m_many z_h_T) ≤ x1 then
   k z_h_T
  else
   if x1 < 0 ∨ 8 ≤ x1.toNatClampNeg then none else
   if ((m_kind z_h_T) x1.toNatClampNeg) = 1 then
    (f_M_leftOf ((m_kind z_h_T), (upd (m_sweets z_h_T) x1.toNatClampNeg (((m_sweets z_h_T) x1.toNatClampNeg) - (2 * ((m_gives z_h_T) x1.toNatClampNeg)))), (m_gives z_h_T), (m_kept z_h_T), (m_many z_h_T), (m_odd z_h_T), (m_step z_h_T), (m_bag z_h_T), (m_strokes z_h_T), (m_gave z_h_T), (m_threw z_h_T), (m_isKeeping z_h_T), (m_cursor z_h_T)) x1).bind fun q10 =>
    if q10 < 0 ∨ 8 ≤ q10.toNatClampNeg then none else
    (f_M_rightOf ((m_kind z_h_T), (upd (upd (m_sweets z_h_T) x1.toNatClampNeg (((m_sweets z_h_T) x1.toNatClampNeg) - (2 * ((m_gives z_h_T) x1.toNatClampNeg)))) q10.toNatClampNeg (((upd (m_sweets z_h_T) x1.toNatClampNeg (((m_sweets z_h_T) x1.toNatClampNeg) - (2 * ((m_gives z_h_T) x1.toNatClampNeg)))) q10.toNatClampNeg) + ((m_gives z_h_T) x1.toNatClampNeg))), (m_gives z_h_T), (m_kept z_h_T), (m_many z_h_T), (m_odd z_h_T), (m_step z_h_T), (m_bag z_h_T), (m_strokes z_h_T), (m_gave z_h_T), (m_threw z_h_T), (m_isKeeping z_h_T), (m_cursor z_h_T)) x1).bind fun q12 =>
    if q12 < 0 ∨ 8 ≤ q12.toNatClampNeg then none else
    f_M_goesOnce_L29 k n ((m_kind z_h_T), (upd (upd (upd (m_sweets z_h_T) x1.toNatClampNeg (((m_sweets z_h_T) x1.toNatClampNeg) - (2 * ((m_gives z_h_T) x1.toNatClampNeg)))) q10.toNatClampNeg (((upd (m_sweets z_h_T) x1.toNatClampNeg (((m_sweets z_h_T) x1.toNatClampNeg) - (2 * ((m_gives z_h_T) x1.toNatClampNeg)))) q10.toNatClampNeg) + ((m_gives z_h_T) x1.toNatClampNeg))) q12.toNatClampNeg (((upd (upd (m_sweets z_h_T) x1.toNatClampNeg (((m_sweets z_h_T) x1.toNatClampNeg) - (2 * ((m_gives z_h_T) x1.toNatClampNeg)))) q10.toNatClampNeg (((upd (m_sweets z_h_T) x1.toNatClampNeg (((m_sweets z_h_T) x1.toNatClampNeg) - (2 * ((m_gives z_h_T) x1.toNatClampNeg)))) q10.toNatClampNeg) + ((m_gives z_h_T) x1.toNatClampNeg))) q12.toNatClampNeg) + ((m_gives z_h_T) x1.toNatClampNeg))), (m_gives z_h_T), (m_kept z_h_T), (m_many z_h_T), (m_odd z_h_T), (m_step z_h_T), (m_bag z_h_T), (m_strokes z_h_T), (m_gave z_h_T), (m_threw z_h_T), (m_isKeeping z_h_T), (m_cursor z_h_T)) (x1 + 1)
   else
    (f_M_leftOf ((m_kind z_h_T), (upd (m_sweets z_h_T) x1.toNatClampNeg (((m_sweets z_h_T) x1.toNatClampNeg) - ((m_gives z_h_T) x1.toNatClampNeg))), (m_gives z_h_T), (m_kept z_h_T), (m_many z_h_T), (m_odd z_h_T), (m_step z_h_T), (m_bag z_h_T), (m_strokes z_h_T), (m_gave z_h_T), (m_threw z_h_T), (m_isKeeping z_h_T), (m_cursor z_h_T)) x1).bind fun q8 =>
    if q8 < 0 ∨ 8 ≤ q8.toNatClampNeg then none else
    f_M_goesOnce_L29 k n ((m_kind z_h_T), (upd (upd (m_sweets z_h_T) x1.toNatClampNeg (((m_sweets z_h_T) x1.toNatClampNeg) - ((m_gives z_h_T) x1.toNatClampNeg))) q8.toNatClampNeg (((upd (m_sweets z_h_T) x1.toNatClampNeg (((m_sweets z_h_T) x1.toNatClampNeg) - ((m_gives z_h_T) x1.toNatClampNeg))) q8.toNatClampNeg) + ((m_gives z_h_T) x1.toNatClampNeg))), (m_gives z_h_T), (m_kept z_h_T), (m_many z_h_T), (m_odd z_h_T), (m_step z_h_T), (m_bag z_h_T), (m_strokes z_h_T), (m_gave z_h_T), (m_threw z_h_T), (m_isKeeping z_h_T), (m_cursor z_h_T)) (x1 + 1)
def f_M_goesOnce_L129 (k : MT → Option (MT)) : Nat → MT → Int32 → Option (MT)
  | 0, _, _ => none
  | n + 1, z_h_T, x1 =>
  if (m_many z_h_T) ≤ x1 then
   k z_h_T
  else
   if x1 < 0 ∨ 8 ≤ x1.toNatClampNeg then none else
   (f_M_held ((m_sweets z_h_T) x1.toNatClampNeg)).bind fun q17 =>
   f_M_goesOnce_L129 k n ((m_kind z_h_T), (upd (m_sweets z_h_T) x1.toNatClampNeg q17), (m_gives z_h_T), (m_kept z_h_T), (m_many z_h_T), (m_odd z_h_T), (m_step z_h_T), (m_bag z_h_T), (m_strokes z_h_T), (m_gave z_h_T), (m_threw z_h_T), (m_isKeeping z_h_T), (m_cursor z_h_T)) (x1 + 1)
def f_M_goesOnce_L160 : Nat → MT → Int32 → Option (MT)
  | 0, _, _ => none
  | n + 1, z_h_T, x1 =>
  if (m_many z_h_T) ≤ x1 then
   some ((m_kind z_h_T), (m_sweets z_h_T), (m_gives z_h_T), (m_kept z_h_T), (m_many z_h_T), (m_odd z_h_T), (m_step z_h_T), (m_bag z_h_T), ((m_strokes z_h_T) + 1), (m_gave z_h_T), (m_threw z_h_T), (m_isKeeping z_h_T), (m_cursor z_h_T))
  else
   (f_M_mends z_h_T x1).bind fun q20 =>
   f_M_goesOnce_L160 n q20 (x1 + 1)
def f_M_goesOnce (z_h_T : MT) : Option (MT) :=
 f_M_goesOnce_L2 (fun z_h_T_4 =>
  f_M_goesOnce_L29 (fun z_h_T_14 =>
   f_M_goesOnce_L129 (fun z_h_T_18 =>
    f_M_goesOnce_L160 FU z_h_T_18 0) FU z_h_T_14 0) FU z_h_T_4 0) FU z_h_T 0
def f_M_goes_L7 (x1 : Int32) (x2 : Int32) : Nat → MT → Int32 → Option (Int32 × MT)
  | 0, _, _ => none
  | n + 1, z_h_T, x3 =>
  if x1 ≤ x3 then
   some (((m_gave z_h_T) - x2), z_h_T)
  else
   (f_M_goesOnce z_h_T).bind fun q2 =>
   f_M_goes_L7 x1 x2 n q2 (x3 + 1)
def f_M_goes (z_h_T : MT) (x1 : Int32) : Option (Int32 × MT) :=
 f_M_goes_L7 x1 (m_gave z_h_T) FU z_h_T 0
def f_M_child (z_h_T : MT) (z_h_refused : (Nat → Int32)) (x1 : Int32) (x2 : Int32) : Option (Int32 × (Nat → Int32)) :=
 (f_M_isChild z_h_T x1).bind fun q1 =>
 if q1 = 0 then
  (f_M_no z_h_refused (-1)).bind fun q15 =>
  some (q15.1, q15.2)
 else
  if x2 = 0 then
   if x1 < 0 ∨ 8 ≤ x1.toNatClampNeg then none else
   some (((m_kind z_h_T) x1.toNatClampNeg), z_h_refused)
  else
   if x2 = 1 then
    if x1 < 0 ∨ 8 ≤ x1.toNatClampNeg then none else
    some (((m_sweets z_h_T) x1.toNatClampNeg), z_h_refused)
   else
    if x2 = 2 then
     (f_M_givesOf z_h_T x1).bind fun q8 =>
     some (q8, z_h_refused)
    else
     if x2 = 3 then
      (f_M_givesOf z_h_T x1).bind fun q10 =>
      if q10 = 0 then
       some (0, z_h_refused)
      else
       if x1 < 0 ∨ 8 ≤ x1.toNatClampNeg then none else
       if ((m_kind z_h_T) x1.toNatClampNeg) = 1 then
        some (2, z_h_refused)
       else
        some (1, z_h_refused)
     else
      (f_M_no z_h_refused (-2)).bind fun q14 =>
      some (q14.1, q14.2)
def f_M_put (z_h_T : MT) (z_h_refused : (Nat → Int32)) (x1 : Int32) (x2 : Int32) : Option (Int32 × MT × (Nat → Int32)) :=
 (f_M_isChild z_h_T x1).bind fun q1 =>
 if q1 = 0 then
  (f_M_no z_h_refused (-1)).bind fun q7 =>
  some (q7.1, z_h_T, q7.2)
 else
  (f_M_bound x2 0 999).bind fun q3 =>
  if q3 = 0 then
   if x1 < 0 ∨ 8 ≤ x1.toNatClampNeg then none else
   some (((m_sweets z_h_T) x1.toNatClampNeg), ((m_kind z_h_T), (upd (m_sweets z_h_T) x1.toNatClampNeg x2), (m_gives z_h_T), (m_kept z_h_T), (m_many z_h_T), (m_odd z_h_T), (m_step z_h_T), (m_bag z_h_T), (m_strokes z_h_T), (m_gave z_h_T), (m_threw z_h_T), (m_isKeeping z_h_T), (m_cursor z_h_T)), z_h_refused)
  else
   (f_M_no z_h_refused q3).bind fun q6 =>
   some (q6.1, z_h_T, q6.2)
def f_M_kind (z_h_T : MT) (z_h_refused : (Nat → Int32)) (x1 : Int32) (x2 : Int32) : Option (Int32 × MT × (Nat → Int32)) :=
 (f_M_isChild z_h_T x1).bind fun q1 =>
 if q1 = 0 then
  (f_M_no z_h_refused (-1)).bind fun q7 =>
  some (q7.1, z_h_T, q7.2)
 else
  (f_M_isIn x2 0 6).bind fun q3 =>
  if q3 = 0 then
   (f_M_no z_h_refused (-2)).bind fun q6 =>
   some (q6.1, z_h_T, q6.2)
  else
   if x1 < 0 ∨ 8 ≤ x1.toNatClampNeg then none else
   some (((m_kind z_h_T) x1.toNatClampNeg), ((upd (m_kind z_h_T) x1.toNatClampNeg x2), (m_sweets z_h_T), (m_gives z_h_T), (m_kept z_h_T), (m_many z_h_T), (m_odd z_h_T), (m_step z_h_T), (m_bag z_h_T), (m_strokes z_h_T), (m_gave z_h_T), (m_threw z_h_T), (m_isKeeping z_h_T), (m_cursor z_h_T)), z_h_refused)
def f_M_set (z_h_T : MT) (z_h_refused : (Nat → Int32)) (x1 : Int32) (x2 : Int32) : Option (Int32 × MT × (Nat → Int32)) :=
 (f_M_isIn x1 0 2).bind fun q1 =>
 if q1 = 0 then
  (f_M_no z_h_refused (-2)).bind fun q15 =>
  some (q15.1, z_h_T, q15.2)
 else
  if x1 = 1 then
   (f_M_bound x2 1 3).bind fun q12 =>
   if q12 = 0 then
    some ((m_step z_h_T), ((m_kind z_h_T), (m_sweets z_h_T), (m_gives z_h_T), (m_kept z_h_T), (m_many z_h_T), (m_odd z_h_T), x2, (m_bag z_h_T), (m_strokes z_h_T), (m_gave z_h_T), (m_threw z_h_T), (m_isKeeping z_h_T), (m_cursor z_h_T)), z_h_refused)
   else
    (f_M_no z_h_refused q12).bind fun q14 =>
    some (q14.1, z_h_T, q14.2)
  else
   if x1 = 0 then
    (f_M_bound x2 0 2).bind fun q9 =>
    if q9 = 0 then
     some ((m_odd z_h_T), ((m_kind z_h_T), (m_sweets z_h_T), (m_gives z_h_T), (m_kept z_h_T), (m_many z_h_T), x2, (m_step z_h_T), (m_bag z_h_T), (m_strokes z_h_T), (m_gave z_h_T), (m_threw z_h_T), (m_isKeeping z_h_T), (m_cursor z_h_T)), z_h_refused)
    else
     (f_M_no z_h_refused q9).bind fun q11 =>
     some (q11.1, z_h_T, q11.2)
   else
    (f_M_bound x2 0 999).bind fun q5 =>
    if q5 = 0 then
     if x1 = 2 then
      some ((m_bag z_h_T), ((m_kind z_h_T), (m_sweets z_h_T), (m_gives z_h_T), (m_kept z_h_T), (m_many z_h_T), (m_odd z_h_T), (m_step z_h_T), x2, (m_strokes z_h_T), (m_gave z_h_T), (m_threw z_h_T), (m_isKeeping z_h_T), (m_cursor z_h_T)), z_h_refused)
     else
      some ((m_bag z_h_T), z_h_T, z_h_refused)
    else
     (f_M_no z_h_refused q5).bind fun q8 =>
     some (q8.1, z_h_T, q8.2)
def f_M_areTwo (z_h_T : MT) (x1 : Int32) (x2 : Int32) : Option (Int32) :=
 (f_M_isChild z_h_T x1).bind fun q1 =>
 if q1 = 0 then
  some 0
 else
  (f_M_isChild z_h_T x2).bind fun q3 =>
  if q3 = 0 then
   some 0
  else
   if x1 = x2 then
    some 0
   else
    some 1
def f_M_swapsSweets (z_h_T : MT) (x1 : Int32) (x2 : Int32) : Option (MT) :=
 if x1 < 0 ∨ 8 ≤ x1.toNatClampNeg then none else
 if x2 < 0 ∨ 8 ≤ x2.toNatClampNeg then none else
 some ((m_kind z_h_T), (upd (upd (m_sweets z_h_T) x1.toNatClampNeg ((m_sweets z_h_T) x2.toNatClampNeg)) x2.toNatClampNeg ((m_sweets z_h_T) x1.toNatClampNeg)), (m_gives z_h_T), (m_kept z_h_T), (m_many z_h_T), (m_odd z_h_T), (m_step z_h_T), (m_bag z_h_T), (m_strokes z_h_T), (m_gave z_h_T), (m_threw z_h_T), (m_isKeeping z_h_T), (m_cursor z_h_T))
def f_M_change (z_h_T : MT) (z_h_refused : (Nat → Int32)) (x1 : Int32) (x2 : Int32) : Option (Int32 × MT × (Nat → Int32)) :=
 (f_M_areTwo z_h_T x1 x2).bind fun q1 =>
 if q1 = 0 then
  (f_M_no z_h_refused (-1)).bind fun q6 =>
  some (q6.1, z_h_T, q6.2)
 else
  (f_M_swapsSweets z_h_T x1 x2).bind fun q3 =>
  if x1 < 0 ∨ 8 ≤ x1.toNatClampNeg then none else
  if x2 < 0 ∨ 8 ≤ x2.toNatClampNeg then none else
  some (1, ((upd (upd (m_kind q3) x1.toNatClampNeg ((m_kind q3) x2.toNatClampNeg)) x2.toNatClampNeg ((m_kind q3) x1.toNatClampNeg)), (m_sweets q3), (m_gives q3), (m_kept q3), (m_many q3), (m_odd q3), (m_step q3), (m_bag q3), (m_strokes q3), (m_gave q3), (m_threw q3), (m_isKeeping q3), (m_cursor q3)), z_h_refused)
def f_M_stroke (z_h_T : MT) (z_h_refused : (Nat → Int32)) : Option (Int32 × MT × (Nat → Int32)) :=
 if (m_many z_h_T) = 0 then
  (f_M_no z_h_refused (-3)).bind fun q3 =>
  some (q3.1, z_h_T, q3.2)
 else
  (f_M_goes z_h_T 1).bind fun q2 =>
  some (q2.1, q2.2, z_h_refused)
def f_M_run (z_h_T : MT) (z_h_refused : (Nat → Int32)) (x1 : Int32) (x2 : Int32) : Option (Int32 × MT × (Nat → Int32)) :=
 (f_M_isChild z_h_T x1).bind fun q1 =>
 if q1 = 0 then
  (f_M_no z_h_refused (-1)).bind fun q10 =>
  some (q10.1, z_h_T, q10.2)
 else
  (f_M_bound x2 0 200).bind fun q3 =>
  if q3 = 0 then
   (f_M_passesAll z_h_T 1 1).bind fun q5 =>
   (f_M_goes q5 x2).bind fun q6 =>
   if x1 < 0 ∨ 8 ≤ x1.toNatClampNeg then none else
   (f_M_passesAll q6.2 1 0).bind fun q8 =>
   some (((m_sweets q6.2) x1.toNatClampNeg), q8, z_h_refused)
  else
   (f_M_no z_h_refused q3).bind fun q9 =>
   some (q9.1, z_h_T, q9.2)
def f_M_given (z_h_T : MT) (z_h_refused : (Nat → Int32)) (x1 : Int32) (x2 : Int32) : Option (Int32 × MT × (Nat → Int32)) :=
 (f_M_isIn x2 0 1).bind fun q1 =>
 if q1 = 0 then
  (f_M_no z_h_refused (-2)).bind fun q11 =>
  some (q11.1, z_h_T, q11.2)
 else
  (f_M_bound x1 0 200).bind fun q3 =>
  if q3 = 0 then
   (f_M_passesAll z_h_T 1 1).bind fun q5 =>
   (f_M_goes q5 x1).bind fun q6 =>
   if x2 = 1 then
    (f_M_passesAll q6.2 1 0).bind fun q9 =>
    some (((m_threw q6.2) - (m_threw q5)), q9, z_h_refused)
   else
    (f_M_passesAll q6.2 1 0).bind fun q8 =>
    some (q6.1, q8, z_h_refused)
  else
   (f_M_no z_h_refused q3).bind fun q10 =>
   some (q10.1, z_h_T, q10.2)
def f_M_writesTrail_L15 (z_h_T : MT) (x2 : Int32) (k : (Nat → Int32) → Option (MT × (Nat → Int32))) : Nat → (Nat → Int32) → Int32 → Option (MT × (Nat → Int32))
  | 0, _, _ => none
  | n + 1, z_h_trail, x3 =>
  if 8 ≤ x3 then
   k z_h_trail
  else
   if (m_many z_h_T) ≤ x3 then
    if ((9 * x2) + x3) < 0 ∨ 1827 ≤ ((9 * x2) + x3).toNatClampNeg then none else
    f_M_writesTrail_L15 z_h_T x2 k n (upd z_h_trail ((9 * x2) + x3).toNatClampNeg 0) (x3 + 1)
   else
    if x3 < 0 ∨ 8 ≤ x3.toNatClampNeg then none else
    if ((9 * x2) + x3) < 0 ∨ 1827 ≤ ((9 * x2) + x3).toNatClampNeg then none else
    f_M_writesTrail_L15 z_h_T x2 k n (upd z_h_trail ((9 * x2) + x3).toNatClampNeg ((m_sweets z_h_T) x3.toNatClampNeg)) (x3 + 1)
def f_M_writesTrail_L8 (x1 : Int32) (k : MT → (Nat → Int32) → Option (MT × (Nat → Int32))) : Nat → MT → (Nat → Int32) → Int32 → Option (MT × (Nat → Int32))
  | 0, _, _, _ => none
  | n + 1, z_h_T, z_h_trail, x2 =>
  if x1 < x2 then
   k z_h_T z_h_trail
  else
   f_M_writesTrail_L15 z_h_T x2 (fun z_h_trail_8 =>
    if ((9 * x2) + 8) < 0 ∨ 1827 ≤ ((9 * x2) + 8).toNatClampNeg then none else
    if x1 ≤ x2 then
     f_M_writesTrail_L8 x1 k n z_h_T (upd z_h_trail_8 ((9 * x2) + 8).toNatClampNeg (m_bag z_h_T)) (x2 + 1)
    else
     (f_M_goesOnce z_h_T).bind fun q11 =>
     f_M_writesTrail_L8 x1 k n q11 (upd z_h_trail_8 ((9 * x2) + 8).toNatClampNeg (m_bag z_h_T)) (x2 + 1)) FU z_h_trail 0
def f_M_writesTrail (z_h_T : MT) (z_h_trail : (Nat → Int32)) (x1 : Int32) : Option (MT × (Nat → Int32)) :=
 (f_M_passesAll z_h_T 1 1).bind fun q1 =>
 f_M_writesTrail_L8 x1 (fun z_h_T_12 z_h_trail_12 =>
  (f_M_passesAll z_h_T_12 1 0).bind fun q13 =>
  some (q13, z_h_trail_12)) FU q1 z_h_trail 0
def f_M_areSame_L3 (z_h_trail : (Nat → Int32)) (x1 : Int32) (x2 : Int32) (x3 : Int32) : Nat → Int32 → Option (Int32)
  | 0, _ => none
  | n + 1, x4 =>
  if x3 ≤ x4 then
   some 1
  else
   if ((9 * x1) + x4) < 0 ∨ 1827 ≤ ((9 * x1) + x4).toNatClampNeg then none else
   if ((9 * x2) + x4) < 0 ∨ 1827 ≤ ((9 * x2) + x4).toNatClampNeg then none else
   if (z_h_trail ((9 * x1) + x4).toNatClampNeg) = (z_h_trail ((9 * x2) + x4).toNatClampNeg) then
    f_M_areSame_L3 z_h_trail x1 x2 x3 n (x4 + 1)
   else
    some 0
def f_M_areSame (z_h_trail : (Nat → Int32)) (x1 : Int32) (x2 : Int32) (x3 : Int32) : Option (Int32) :=
 f_M_areSame_L3 z_h_trail x1 x2 x3 FU 0
def f_M_areAlike_L2 (z_h_T : MT) (z_h_trail : (Nat → Int32)) (x1 : Int32) : Nat → Int32 → Option (Int32)
  | 0, _ => none
  | n + 1, x2 =>
  if (m_many z_h_T) ≤ x2 then
   some 1
  else
   if ((9 * x1) + x2) < 0 ∨ 1827 ≤ ((9 * x1) + x2).toNatClampNeg then none else
   if (9 * x1) < 0 ∨ 1827 ≤ (9 * x1).toNatClampNeg then none else
   if (z_h_trail ((9 * x1) + x2).toNatClampNeg) = (z_h_trail (9 * x1).toNatClampNeg) then
    f_M_areAlike_L2 z_h_T z_h_trail x1 n (x2 + 1)
   else
    some 0
def f_M_areAlike (z_h_T : MT) (z_h_trail : (Nat → Int32)) (x1 : Int32) : Option (Int32) :=
 f_M_areAlike_L2 z_h_T z_h_trail x1 FU 1
def f_M_rests_L23 (z_h_T : MT) (z_h_refused : (Nat → Int32)) (z_h_trail : (Nat → Int32)) : Nat → Int32 → Option (Int32 × MT × (Nat → Int32) × (Nat → Int32))
  | 0, _ => none
  | n + 1, x1 =>
  if 200 < x1 then
   some ((-9), z_h_T, z_h_refused, z_h_trail)
  else
   (f_M_areSame z_h_trail x1 (x1 + 1) 8).bind fun q4 =>
   if q4 = 0 then
    f_M_rests_L23 z_h_T z_h_refused z_h_trail n (x1 + 1)
   else
    some (x1, z_h_T, z_h_refused, z_h_trail)
def f_M_rests (z_h_T : MT) (z_h_refused : (Nat → Int32)) (z_h_trail : (Nat → Int32)) : Option (Int32 × MT × (Nat → Int32) × (Nat → Int32)) :=
 if (m_many z_h_T) = 0 then
  (f_M_no z_h_refused (-3)).bind fun q6 =>
  some (q6.1, z_h_T, q6.2, z_h_trail)
 else
  (f_M_writesTrail z_h_T z_h_trail 201).bind fun q2 =>
  f_M_rests_L23 q2.1 z_h_refused q2.2 FU 0
def f_M_firstAlike_L7 (z_h_T : MT) (z_h_trail : (Nat → Int32)) (x1 : Int32) : Nat → Int32 → Option (Int32 × MT × (Nat → Int32))
  | 0, _ => none
  | n + 1, x2 =>
  if x1 < x2 then
   some ((-9), z_h_T, z_h_trail)
  else
   (f_M_areAlike z_h_T z_h_trail x2).bind fun q3 =>
   if q3 = 0 then
    f_M_firstAlike_L7 z_h_T z_h_trail x1 n (x2 + 1)
   else
    some (x2, z_h_T, z_h_trail)
def f_M_firstAlike (z_h_T : MT) (z_h_trail : (Nat → Int32)) (x1 : Int32) : Option (Int32 × MT × (Nat → Int32)) :=
 (f_M_writesTrail z_h_T z_h_trail x1).bind fun q1 =>
 f_M_firstAlike_L7 q1.1 q1.2 x1 FU 0
def f_M_alike (z_h_T : MT) (z_h_refused : (Nat → Int32)) (z_h_trail : (Nat → Int32)) : Option (Int32 × MT × (Nat → Int32) × (Nat → Int32)) :=
 if (m_many z_h_T) = 0 then
  (f_M_no z_h_refused (-3)).bind fun q3 =>
  some (q3.1, z_h_T, q3.2, z_h_trail)
 else
  (f_M_firstAlike z_h_T z_h_trail 200).bind fun q2 =>
  some (q2.1, q2.2.1, z_h_refused, q2.2.2)
def f_M_ring_L47 (z_h_T : MT) (z_h_refused : (Nat → Int32)) (z_h_trail : (Nat → Int32)) (x1 : Int32) (x2 : Int32) (k : Option (Int32 × MT × (Nat → Int32) × (Nat → Int32))) : Nat → Int32 → Option (Int32 × MT × (Nat → Int32) × (Nat → Int32))
  | 0, _ => none
  | n + 1, x3 =>
  if 100 < x3 then
   k
  else
   (f_M_areSame z_h_trail x2 (x2 + x3) 9).bind fun q7 =>
   if q7 = 0 then
    f_M_ring_L47 z_h_T z_h_refused z_h_trail x1 x2 k n (x3 + 1)
   else
    if x1 = 0 then
     some (x2, z_h_T, z_h_refused, z_h_trail)
    else
     some (x3, z_h_T, z_h_refused, z_h_trail)
def f_M_ring_L39 (z_h_T : MT) (z_h_refused : (Nat → Int32)) (z_h_trail : (Nat → Int32)) (x1 : Int32) : Nat → Int32 → Option (Int32 × MT × (Nat → Int32) × (Nat → Int32))
  | 0, _ => none
  | n + 1, x2 =>
  if 100 < x2 then
   some ((-9), z_h_T, z_h_refused, z_h_trail)
  else
   f_M_ring_L47 z_h_T z_h_refused z_h_trail x1 x2 (
    f_M_ring_L39 z_h_T z_h_refused z_h_trail x1 n (x2 + 1)) FU 1
def f_M_ring (z_h_T : MT) (z_h_refused : (Nat → Int32)) (z_h_trail : (Nat → Int32)) (x1 : Int32) : Option (Int32 × MT × (Nat → Int32) × (Nat → Int32)) :=
 (f_M_isIn x1 0 1).bind fun q1 =>
 if q1 = 0 then
  (f_M_no z_h_refused (-2)).bind fun q12 =>
  some (q12.1, z_h_T, q12.2, z_h_trail)
 else
  if (m_many z_h_T) = 0 then
   (f_M_no z_h_refused (-3)).bind fun q11 =>
   some (q11.1, z_h_T, q11.2, z_h_trail)
  else
   (f_M_writesTrail z_h_T z_h_trail 200).bind fun q4 =>
   f_M_ring_L39 q4.1 z_h_refused q4.2 x1 FU 0
def f_M_meet_L24 (z_h_T : MT) (z_h_refused : (Nat → Int32)) (z_h_trail : (Nat → Int32)) (x1 : Int32) (x2 : Int32) : Nat → Int32 → Option (Int32 × MT × (Nat → Int32) × (Nat → Int32))
  | 0, _ => none
  | n + 1, x3 =>
  if 200 < x3 then
   some ((-9), z_h_T, z_h_refused, z_h_trail)
  else
   if ((9 * x3) + x1) < 0 ∨ 1827 ≤ ((9 * x3) + x1).toNatClampNeg then none else
   if ((9 * x3) + x2) < 0 ∨ 1827 ≤ ((9 * x3) + x2).toNatClampNeg then none else
   if (z_h_trail ((9 * x3) + x1).toNatClampNeg) = (z_h_trail ((9 * x3) + x2).toNatClampNeg) then
    some (x3, z_h_T, z_h_refused, z_h_trail)
   else
    f_M_meet_L24 z_h_T z_h_refused z_h_trail x1 x2 n (x3 + 1)
def f_M_meet (z_h_T : MT) (z_h_refused : (Nat → Int32)) (z_h_trail : (Nat → Int32)) (x1 : Int32) (x2 : Int32) : Option (Int32 × MT × (Nat → Int32) × (Nat → Int32)) :=
 (f_M_areTwo z_h_T x1 x2).bind fun q1 =>
 if q1 = 0 then
  (f_M_no z_h_refused (-1)).bind fun q8 =>
  some (q8.1, z_h_T, q8.2, z_h_trail)
 else
  (f_M_writesTrail z_h_T z_h_trail 200).bind fun q3 =>
  f_M_meet_L24 q3.1 z_h_refused q3.2 x1 x2 FU 0
def f_M_begins_L2 (z_h_T : MT) : Nat → (Nat → Int64) → Int32 → Option ((Nat → Int64))
  | 0, _, _ => none
  | n + 1, z_h_crumb, x1 =>
  if (m_many z_h_T) ≤ x1 then
   some z_h_crumb
  else
   if x1 < 0 ∨ 8 ≤ x1.toNatClampNeg then none else
   f_M_begins_L2 z_h_T n (vp_updL z_h_crumb x1.toNatClampNeg (((m_sweets z_h_T) x1.toNatClampNeg).toInt64)) (x1 + 1)
def f_M_begins (z_h_T : MT) (z_h_crumb : (Nat → Int64)) : Option ((Nat → Int64)) :=
 f_M_begins_L2 z_h_T FU z_h_crumb 0
def f_M_halves_L2 (z_h_T : MT) (z_h_crumb : (Nat → Int64)) (k : (Nat → Int64) → Option ((Nat → Int64) × (Nat → Int64))) : Nat → (Nat → Int64) → Int32 → Option ((Nat → Int64) × (Nat → Int64))
  | 0, _, _ => none
  | n + 1, z_h_nextCrumb, x1 =>
  if (m_many z_h_T) ≤ x1 then
   k z_h_nextCrumb
  else
   (f_M_leftOf z_h_T x1).bind fun q2 =>
   if q2 = x1 then
    if x1 < 0 ∨ 8 ≤ x1.toNatClampNeg then none else
    f_M_halves_L2 z_h_T z_h_crumb k n (vp_updL z_h_nextCrumb x1.toNatClampNeg (2 * (z_h_crumb x1.toNatClampNeg))) (x1 + 1)
   else
    if x1 < 0 ∨ 8 ≤ x1.toNatClampNeg then none else
    f_M_halves_L2 z_h_T z_h_crumb k n (vp_updL z_h_nextCrumb x1.toNatClampNeg (z_h_crumb x1.toNatClampNeg)) (x1 + 1)
def f_M_halves_L52 (z_h_T : MT) (z_h_crumb : (Nat → Int64)) (k : (Nat → Int64) → Option ((Nat → Int64) × (Nat → Int64))) : Nat → (Nat → Int64) → Int32 → Option ((Nat → Int64) × (Nat → Int64))
  | 0, _, _ => none
  | n + 1, z_h_nextCrumb, x1 =>
  if (m_many z_h_T) ≤ x1 then
   k z_h_nextCrumb
  else
   (f_M_leftOf z_h_T x1).bind fun q8 =>
   if q8 = x1 then
    f_M_halves_L52 z_h_T z_h_crumb k n z_h_nextCrumb (x1 + 1)
   else
    (f_M_leftOf z_h_T x1).bind fun q10 =>
    if q10 < 0 ∨ 8 ≤ q10.toNatClampNeg then none else
    if x1 < 0 ∨ 8 ≤ x1.toNatClampNeg then none else
    f_M_halves_L52 z_h_T z_h_crumb k n (vp_updL z_h_nextCrumb q10.toNatClampNeg ((z_h_nextCrumb q10.toNatClampNeg) + (z_h_crumb x1.toNatClampNeg))) (x1 + 1)
def f_M_halves_L96 (z_h_T : MT) (z_h_nextCrumb : (Nat → Int64)) : Nat → (Nat → Int64) → Int32 → Option ((Nat → Int64) × (Nat → Int64))
  | 0, _, _ => none
  | n + 1, z_h_crumb, x1 =>
  if (m_many z_h_T) ≤ x1 then
   some (z_h_crumb, z_h_nextCrumb)
  else
   if x1 < 0 ∨ 8 ≤ x1.toNatClampNeg then none else
   f_M_halves_L96 z_h_T z_h_nextCrumb n (vp_updL z_h_crumb x1.toNatClampNeg (z_h_nextCrumb x1.toNatClampNeg)) (x1 + 1)
def f_M_halves (z_h_T : MT) (z_h_crumb : (Nat → Int64)) (z_h_nextCrumb : (Nat → Int64)) : Option ((Nat → Int64) × (Nat → Int64)) :=
 f_M_halves_L2 z_h_T z_h_crumb (fun z_h_nextCrumb_6 =>
  f_M_halves_L52 z_h_T z_h_crumb (fun z_h_nextCrumb_13 =>
   f_M_halves_L96 z_h_T z_h_nextCrumb_13 FU z_h_crumb 0) FU z_h_nextCrumb_6 0) FU z_h_nextCrumb 0
def f_M_divisor_L6 : Nat → Int64 → Int64 → Option (Int64)
  | 0, _, _ => none
  | n + 1, x4, x6 =>
  if (lg_cmp x6 0) = 0 then
   some x4
  else
   if x6 = 0 then none else
   f_M_divisor_L6 n x6 (x4 % x6)
def f_M_divisor (x0 : Int64) (x2 : Int64) : Option (Int64) :=
 f_M_divisor_L6 FU x0 x2
def f_M_crumbs_L61 (z_h_T : MT) (x2 : Int32) (k : (Nat → Int64) → (Nat → Int64) → Int64 → Option (Int64 × (Nat → Int32) × (Nat → Int64) × (Nat → Int64))) : Nat → (Nat → Int64) → (Nat → Int64) → Int64 → Int32 → Option (Int64 × (Nat → Int32) × (Nat → Int64) × (Nat → Int64))
  | 0, _, _, _, _ => none
  | n + 1, z_h_crumb, z_h_nextCrumb, x5, x7 =>
  if x2 ≤ x7 then
   k z_h_crumb z_h_nextCrumb x5
  else
   (f_M_halves z_h_T z_h_crumb z_h_nextCrumb).bind fun q9 =>
   f_M_crumbs_L61 z_h_T x2 k n q9.1 q9.2 (x5 * 2) (x7 + 1)
def f_M_crumbs (z_h_T : MT) (z_h_refused : (Nat → Int32)) (z_h_crumb : (Nat → Int64)) (z_h_nextCrumb : (Nat → Int64)) (x1 : Int32) (x2 : Int32) (x3 : Int32) : Option (Int64 × (Nat → Int32) × (Nat → Int64) × (Nat → Int64)) :=
 (f_M_isChild z_h_T x1).bind fun q1 =>
 if q1 = 0 then
  (f_M_lowest z_h_refused (-1)).bind fun q20 =>
  some (q20.1, q20.2, z_h_crumb, z_h_nextCrumb)
 else
  (f_M_isIn x3 0 1).bind fun q3 =>
  if q3 = 0 then
   (f_M_lowest z_h_refused (-2)).bind fun q19 =>
   some (q19.1, q19.2, z_h_crumb, z_h_nextCrumb)
  else
   (f_M_bound x2 0 20).bind fun q5 =>
   if q5 = 0 then
    (f_M_begins z_h_T z_h_crumb).bind fun q7 =>
    f_M_crumbs_L61 z_h_T x2 (fun z_h_crumb_10 z_h_nextCrumb_10 x5_10 =>
     if x3 = 0 then
      if x1 < 0 ∨ 8 ≤ x1.toNatClampNeg then none else
      (f_M_divisor (z_h_crumb_10 x1.toNatClampNeg) x5_10).bind fun q16 =>
      if q16 = 0 then none else
      some (((z_h_crumb_10 x1.toNatClampNeg) / q16), z_h_refused, z_h_crumb_10, z_h_nextCrumb_10)
     else
      if x1 < 0 ∨ 8 ≤ x1.toNatClampNeg then none else
      (f_M_divisor (z_h_crumb_10 x1.toNatClampNeg) x5_10).bind fun q13 =>
      if q13 = 0 then none else
      some ((x5_10 / q13), z_h_refused, z_h_crumb_10, z_h_nextCrumb_10)) FU q7 z_h_nextCrumb 1 0
   else
    (f_M_lowest z_h_refused q5).bind fun q18 =>
    some (q18.1, q18.2, z_h_crumb, z_h_nextCrumb)
def f_M_sum_L4 (z_h_T : MT) : Nat → Int32 → Int32 → Option (Int32)
  | 0, _, _ => none
  | n + 1, x1, x2 =>
  if (m_many z_h_T) ≤ x2 then
   some x1
  else
   if x2 < 0 ∨ 8 ≤ x2.toNatClampNeg then none else
   f_M_sum_L4 z_h_T n (x1 + ((m_sweets z_h_T) x2.toNatClampNeg)) (x2 + 1)
def f_M_sum (z_h_T : MT) : Option (Int32) :=
 f_M_sum_L4 z_h_T FU 0 0
def f_M_mean (z_h_T : MT) (z_h_refused : (Nat → Int32)) (x1 : Int32) : Option (Int32 × (Nat → Int32)) :=
 (f_M_isIn x1 0 1).bind fun q1 =>
 if q1 = 0 then
  (f_M_no z_h_refused (-2)).bind fun q13 =>
  some (q13.1, q13.2)
 else
  if (m_many z_h_T) = 0 then
   (f_M_no z_h_refused (-3)).bind fun q12 =>
   some (q12.1, q12.2)
  else
   if x1 = 0 then
    (f_M_sum z_h_T).bind fun q8 =>
    (f_M_sum z_h_T).bind fun q9 =>
    (f_M_divisor (q9.toInt64) ((m_many z_h_T).toInt64)).bind fun q10 =>
    if (q10.toInt32) = 0 then none else
    some ((q8 / (q10.toInt32)), z_h_refused)
   else
    (f_M_sum z_h_T).bind fun q5 =>
    (f_M_divisor (q5.toInt64) ((m_many z_h_T).toInt64)).bind fun q6 =>
    if (q6.toInt32) = 0 then none else
    some (((m_many z_h_T) / (q6.toInt32)), z_h_refused)
def f_M_areNear_L3 (z_h_T : MT) (z_h_crumb : (Nat → Int64)) (x1 : Int64) (x3 : Int32) : Nat → Int32 → Option (Int32)
  | 0, _ => none
  | n + 1, x4 =>
  if (m_many z_h_T) ≤ x4 then
   some 1
  else
   if x4 < 0 ∨ 8 ≤ x4.toNatClampNeg then none else
   (f_M_sum z_h_T).bind fun q3 =>
   if 0 ≤ (lg_cmp (((z_h_crumb x4.toNatClampNeg) * ((m_many z_h_T).toInt64)) - ((q3.toInt64) * x1)) 0) then
    if (lg_cmp ((((z_h_crumb x4.toNatClampNeg) * ((m_many z_h_T).toInt64)) - ((q3.toInt64) * x1)) * (x3.toInt64)) (((m_many z_h_T).toInt64) * x1)) < 0 then
     f_M_areNear_L3 z_h_T z_h_crumb x1 x3 n (x4 + 1)
    else
     some 0
   else
    if (lg_cmp ((-(((z_h_crumb x4.toNatClampNeg) * ((m_many z_h_T).toInt64)) - ((q3.toInt64) * x1))) * (x3.toInt64)) (((m_many z_h_T).toInt64) * x1)) < 0 then
     f_M_areNear_L3 z_h_T z_h_crumb x1 x3 n (x4 + 1)
    else
     some 0
def f_M_areNear (z_h_T : MT) (z_h_crumb : (Nat → Int64)) (x1 : Int64) (x3 : Int32) : Option (Int32) :=
 f_M_areNear_L3 z_h_T z_h_crumb x1 x3 FU 0
def f_M_near_L41 (z_h_T : MT) (z_h_refused : (Nat → Int32)) (x1 : Int32) : Nat → (Nat → Int64) → (Nat → Int64) → Int64 → Int32 → Option (Int32 × (Nat → Int32) × (Nat → Int64) × (Nat → Int64))
  | 0, _, _, _, _ => none
  | n + 1, z_h_crumb, z_h_nextCrumb, x3, x5 =>
  if 20 < x5 then
   some ((-9), z_h_refused, z_h_crumb, z_h_nextCrumb)
  else
   (f_M_areNear z_h_T z_h_crumb x3 x1).bind fun q6 =>
   if q6 = 0 then
    (f_M_halves z_h_T z_h_crumb z_h_nextCrumb).bind fun q8 =>
    f_M_near_L41 z_h_T z_h_refused x1 n q8.1 q8.2 (x3 * 2) (x5 + 1)
   else
    some (x5, z_h_refused, z_h_crumb, z_h_nextCrumb)
def f_M_near (z_h_T : MT) (z_h_refused : (Nat → Int32)) (z_h_crumb : (Nat → Int64)) (z_h_nextCrumb : (Nat → Int64)) (x1 : Int32) : Option (Int32 × (Nat → Int32) × (Nat → Int64) × (Nat → Int64)) :=
 (f_M_bound x1 1 99).bind fun q1 =>
 if q1 = 0 then
  if (m_many z_h_T) = 0 then
   (f_M_no z_h_refused (-3)).bind fun q9 =>
   some (q9.1, q9.2, z_h_crumb, z_h_nextCrumb)
  else
   (f_M_begins z_h_T z_h_crumb).bind fun q4 =>
   f_M_near_L41 z_h_T z_h_refused x1 FU q4 z_h_nextCrumb 1 0
 else
  (f_M_no z_h_refused q1).bind fun q10 =>
  some (q10.1, q10.2, z_h_crumb, z_h_nextCrumb)
def f_M_notBefore (z_h_T : MT) (x1 : Int32) : Option (Int32) :=
 if 9 < x1 then
  some (-6)
 else
  if (m_many z_h_T) ≤ 5 then
   some 0
  else
   some (-6)
def f_M_findBefore_L23 (z_h_T : MT) (x1 : Int32) (k : (Nat → Int32) → Int32 → Option (MT × Int32 × Int32 × (Nat → Int32) × (Nat → Int32))) : Nat → (Nat → Int32) → Int32 → Int32 → Option (MT × Int32 × Int32 × (Nat → Int32) × (Nat → Int32))
  | 0, _, _, _ => none
  | n + 1, z_h_goal, x4, x5 =>
  if (m_many z_h_T) ≤ x5 then
   k z_h_goal x4
  else
   if x5 < 0 ∨ 8 ≤ x5.toNatClampNeg then none else
   f_M_findBefore_L23 z_h_T x1 k n (upd z_h_goal x5.toNatClampNeg ((m_sweets z_h_T) x5.toNatClampNeg)) (x4 * (x1 + 1)) (x5 + 1)
def f_M_findBefore_L88 (x1 : Int32) (k : MT → (Nat → Int32) → Option (MT × Int32 × Int32 × (Nat → Int32) × (Nat → Int32))) : Nat → MT → (Nat → Int32) → Int32 → Int32 → Option (MT × Int32 × Int32 × (Nat → Int32) × (Nat → Int32))
  | 0, _, _, _, _ => none
  | n + 1, z_h_T, z_h_start, x7, x8 =>
  if x8 < 0 then
   k z_h_T z_h_start
  else
   if (x1 + 1) = 0 then none else
   if x8 < 0 ∨ 8 ≤ x8.toNatClampNeg then none else
   f_M_findBefore_L88 x1 k n ((m_kind z_h_T), (upd (m_sweets z_h_T) x8.toNatClampNeg ((upd z_h_start x8.toNatClampNeg (x7 % (x1 + 1))) x8.toNatClampNeg)), (m_gives z_h_T), (m_kept z_h_T), (m_many z_h_T), (m_odd z_h_T), (m_step z_h_T), (m_bag z_h_T), (m_strokes z_h_T), (m_gave z_h_T), (m_threw z_h_T), (m_isKeeping z_h_T), (m_cursor z_h_T)) (upd z_h_start x8.toNatClampNeg (x7 % (x1 + 1))) (x7 / (x1 + 1)) (x8 + (-1))
def f_M_findBefore_L150 (z_h_T : MT) (z_h_goal : (Nat → Int32)) (k : Int32 → Option (MT × Int32 × Int32 × (Nat → Int32) × (Nat → Int32))) : Nat → Int32 → Int32 → Option (MT × Int32 × Int32 × (Nat → Int32) × (Nat → Int32))
  | 0, _, _ => none
  | n + 1, x8, x9 =>
  if (m_many z_h_T) ≤ x9 then
   k x8
  else
   if x8 = 0 then
    f_M_findBefore_L150 z_h_T z_h_goal k n 0 (x9 + 1)
   else
    if x9 < 0 ∨ 8 ≤ x9.toNatClampNeg then none else
    if ((m_sweets z_h_T) x9.toNatClampNeg) = (z_h_goal x9.toNatClampNeg) then
     f_M_findBefore_L150 z_h_T z_h_goal k n 1 (x9 + 1)
    else
     f_M_findBefore_L150 z_h_T z_h_goal k n 0 (x9 + 1)
def f_M_findBefore_L69 (z_h_goal : (Nat → Int32)) (x1 : Int32) (x2 : Int32) (x3 : Int32) (x4 : Int32) (x5 : Int32) (k : MT → Int32 → Int32 → (Nat → Int32) → Option (MT × Int32 × Int32 × (Nat → Int32) × (Nat → Int32))) : Nat → MT → Int32 → Int32 → (Nat → Int32) → Int32 → Option (MT × Int32 × Int32 × (Nat → Int32) × (Nat → Int32))
  | 0, _, _, _, _, _ => none
  | n + 1, z_h_T, z_h_beforeMany, z_h_found, z_h_start, x6 =>
  if x4 ≤ x6 then
   k z_h_T z_h_beforeMany z_h_found z_h_start
  else
   f_M_findBefore_L88 x1 (fun z_h_T_9 z_h_start_9 =>
    (f_M_goesOnce ((m_kind z_h_T_9), (m_sweets z_h_T_9), (m_gives z_h_T_9), (m_kept z_h_T_9), (m_many z_h_T_9), (m_odd z_h_T_9), (m_step z_h_T_9), x5, (m_strokes z_h_T_9), (m_gave z_h_T_9), (m_threw z_h_T_9), (m_isKeeping z_h_T_9), (m_cursor z_h_T_9))).bind fun q10 =>
    f_M_findBefore_L150 q10 z_h_goal (fun x8_15 =>
     if x8_15 = 0 then
      f_M_findBefore_L69 z_h_goal x1 x2 x3 x4 x5 k n q10 z_h_beforeMany z_h_found z_h_start_9 (x6 + 1)
     else
      if z_h_beforeMany = x3 then
       if x2 < 0 ∨ 8 ≤ x2.toNatClampNeg then none else
       f_M_findBefore_L69 z_h_goal x1 x2 x3 x4 x5 k n q10 (z_h_beforeMany + 1) (z_h_start_9 x2.toNatClampNeg) z_h_start_9 (x6 + 1)
      else
       f_M_findBefore_L69 z_h_goal x1 x2 x3 x4 x5 k n q10 (z_h_beforeMany + 1) z_h_found z_h_start_9 (x6 + 1)) FU 1 0) FU z_h_T z_h_start x6 ((m_many z_h_T) - 1)
def f_M_findBefore (z_h_T : MT) (z_h_beforeMany : Int32) (z_h_found : Int32) (z_h_goal : (Nat → Int32)) (z_h_start : (Nat → Int32)) (x1 : Int32) (x2 : Int32) (x3 : Int32) : Option (MT × Int32 × Int32 × (Nat → Int32) × (Nat → Int32)) :=
 (f_M_passesAll z_h_T 1 1).bind fun q1 =>
 f_M_findBefore_L23 q1 x1 (fun z_h_goal_4 x4_4 =>
  f_M_findBefore_L69 z_h_goal_4 x1 x2 x3 x4_4 (m_bag q1) (fun z_h_T_19 z_h_beforeMany_19 z_h_found_19 z_h_start_19 =>
   (f_M_passesAll z_h_T_19 1 0).bind fun q20 =>
   some (q20, z_h_beforeMany_19, z_h_found_19, z_h_goal_4, z_h_start_19)) FU q1 0 (-9) z_h_start 0) FU z_h_goal 1 0
def f_M_before (z_h_T : MT) (z_h_beforeMany : Int32) (z_h_found : Int32) (z_h_refused : (Nat → Int32)) (z_h_goal : (Nat → Int32)) (z_h_start : (Nat → Int32)) (x1 : Int32) : Option (Int32 × MT × Int32 × Int32 × (Nat → Int32) × (Nat → Int32) × (Nat → Int32)) :=
 if 0 ≤ x1 then
  (f_M_notBefore z_h_T x1).bind fun q2 =>
  if q2 = 0 then
   if (m_many z_h_T) = 0 then
    (f_M_no z_h_refused (-3)).bind fun q7 =>
    some (q7.1, z_h_T, z_h_beforeMany, z_h_found, q7.2, z_h_goal, z_h_start)
   else
    (f_M_findBefore z_h_T z_h_beforeMany z_h_found z_h_goal z_h_start x1 0 (-1)).bind fun q6 =>
    some (q6.2.1, q6.1, q6.2.1, q6.2.2.1, z_h_refused, q6.2.2.2.1, q6.2.2.2.2)
  else
   (f_M_no z_h_refused q2).bind fun q4 =>
   some (q4.1, z_h_T, z_h_beforeMany, z_h_found, q4.2, z_h_goal, z_h_start)
 else
  (f_M_no z_h_refused (-4)).bind fun q8 =>
  some (q8.1, z_h_T, z_h_beforeMany, z_h_found, q8.2, z_h_goal, z_h_start)
def f_M_beforeOf (z_h_T : MT) (z_h_beforeMany : Int32) (z_h_found : Int32) (z_h_refused : (Nat → Int32)) (z_h_goal : (Nat → Int32)) (z_h_start : (Nat → Int32)) (x1 : Int32) (x2 : Int32) (x3 : Int32) : Option (Int32 × MT × Int32 × Int32 × (Nat → Int32) × (Nat → Int32) × (Nat → Int32)) :=
 (f_M_isChild z_h_T x1).bind fun q1 =>
 if q1 = 0 then
  (f_M_no z_h_refused (-1)).bind fun q11 =>
  some (q11.1, z_h_T, z_h_beforeMany, z_h_found, q11.2, z_h_goal, z_h_start)
 else
  if x2 < 0 then
   (f_M_no z_h_refused (-4)).bind fun q4 =>
   some (q4.1, z_h_T, z_h_beforeMany, z_h_found, q4.2, z_h_goal, z_h_start)
  else
   if 0 ≤ x3 then
    (f_M_notBefore z_h_T x2).bind fun q6 =>
    if q6 = 0 then
     (f_M_findBefore z_h_T z_h_beforeMany z_h_found z_h_goal z_h_start x2 x1 x3).bind fun q8 =>
     some (q8.2.2.1, q8.1, q8.2.1, q8.2.2.1, z_h_refused, q8.2.2.2.1, q8.2.2.2.2)
    else
     (f_M_no z_h_refused q6).bind fun q9 =>
     some (q9.1, z_h_T, z_h_beforeMany, z_h_found, q9.2, z_h_goal, z_h_start)
   else
    (f_M_no z_h_refused (-4)).bind fun q10 =>
    some (q10.1, z_h_T, z_h_beforeMany, z_h_found, q10.2, z_h_goal, z_h_start)
def f_M_nextSeats_L7 (z_h_sits : (Nat → Int32)) (k : Int32 → Option (Int32 × (Nat → Int32))) : Nat → Int32 → Option (Int32 × (Nat → Int32))
  | 0, _ => none
  | n + 1, x1 =>
  if x1 ≤ 0 then
   k x1
  else
   if x1 < 0 ∨ 8 ≤ x1.toNatClampNeg then none else
   if (x1 + 1) < 0 ∨ 8 ≤ (x1 + 1).toNatClampNeg then none else
   if (z_h_sits x1.toNatClampNeg) ≤ (z_h_sits (x1 + 1).toNatClampNeg) then
    k x1
   else
    f_M_nextSeats_L7 z_h_sits k n (x1 + (-1))
def f_M_nextSeats_L47 (z_h_sits : (Nat → Int32)) (x1 : Int32) (k : Int32 → Option (Int32 × (Nat → Int32))) : Nat → Int32 → Option (Int32 × (Nat → Int32))
  | 0, _ => none
  | n + 1, x2 =>
  if x2 < 0 ∨ 8 ≤ x2.toNatClampNeg then none else
  if x1 < 0 ∨ 8 ≤ x1.toNatClampNeg then none else
  if (z_h_sits x1.toNatClampNeg) ≤ (z_h_sits x2.toNatClampNeg) then
   k x2
  else
   f_M_nextSeats_L47 z_h_sits x1 k n (x2 + (-1))
def f_M_nextSeats_L107 : Nat → (Nat → Int32) → Int32 → Int32 → Option (Int32 × (Nat → Int32))
  | 0, _, _, _ => none
  | n + 1, z_h_sits, x4, x5 =>
  if x5 ≤ x4 then
   some (1, z_h_sits)
  else
   if x4 < 0 ∨ 8 ≤ x4.toNatClampNeg then none else
   if x5 < 0 ∨ 8 ≤ x5.toNatClampNeg then none else
   f_M_nextSeats_L107 n (upd (upd z_h_sits x4.toNatClampNeg (z_h_sits x5.toNatClampNeg)) x5.toNatClampNeg (z_h_sits x4.toNatClampNeg)) (x4 + 1) (x5 + (-1))
def f_M_nextSeats (z_h_T : MT) (z_h_sits : (Nat → Int32)) : Option (Int32 × (Nat → Int32)) :=
 f_M_nextSeats_L7 z_h_sits (fun x1_5 =>
  if 0 < x1_5 then
   f_M_nextSeats_L47 z_h_sits x1_5 (fun x2_10 =>
    if x1_5 < 0 ∨ 8 ≤ x1_5.toNatClampNeg then none else
    if x2_10 < 0 ∨ 8 ≤ x2_10.toNatClampNeg then none else
    f_M_nextSeats_L107 FU (upd (upd z_h_sits x1_5.toNatClampNeg (z_h_sits x2_10.toNatClampNeg)) x2_10.toNatClampNeg (z_h_sits x1_5.toNatClampNeg)) (x1_5 + 1) ((m_many z_h_T) - 1)) FU ((m_many z_h_T) - 1)
  else
   some (0, z_h_sits)) FU ((m_many z_h_T) - 2)
def f_M_seated_L8 (z_h_sits : (Nat → Int32)) (k : MT → Option (Int32 × MT)) : Nat → MT → Int32 → Option (Int32 × MT)
  | 0, _, _ => none
  | n + 1, z_h_T, x3 =>
  if (m_many z_h_T) ≤ x3 then
   k z_h_T
  else
   if x3 < 0 ∨ 8 ≤ x3.toNatClampNeg then none else
   if (30 + (2 * (z_h_sits x3.toNatClampNeg))) < 0 ∨ 90 ≤ (30 + (2 * (z_h_sits x3.toNatClampNeg))).toNatClampNeg then none else
   if ((30 + (2 * (z_h_sits x3.toNatClampNeg))) + 1) < 0 ∨ 90 ≤ ((30 + (2 * (z_h_sits x3.toNatClampNeg))) + 1).toNatClampNeg then none else
   f_M_seated_L8 z_h_sits k n ((upd (m_kind z_h_T) x3.toNatClampNeg ((m_kept z_h_T) (30 + (2 * (z_h_sits x3.toNatClampNeg))).toNatClampNeg)), (upd (m_sweets z_h_T) x3.toNatClampNeg ((m_kept z_h_T) ((30 + (2 * (z_h_sits x3.toNatClampNeg))) + 1).toNatClampNeg)), (m_gives z_h_T), (m_kept z_h_T), (m_many z_h_T), (m_odd z_h_T), (m_step z_h_T), (m_bag z_h_T), (m_strokes z_h_T), (m_gave z_h_T), (m_threw z_h_T), (m_isKeeping z_h_T), (m_cursor z_h_T)) (x3 + 1)
def f_M_seated (z_h_T : MT) (z_h_sits : (Nat → Int32)) (x1 : Int32) (x2 : Int32) : Option (Int32 × MT) :=
 (f_M_passesAll z_h_T 2 1).bind fun q1 =>
 f_M_seated_L8 z_h_sits (fun z_h_T_6 =>
  (f_M_goes z_h_T_6 x1).bind fun q7 =>
  if x2 = 2 then
   (f_M_passesAll q7.2 2 0).bind fun q10 =>
   some (((m_sweets q7.2) 0), q10)
  else
   (f_M_passesAll q7.2 2 0).bind fun q9 =>
   some (q7.1, q9)) FU q1 0
def f_M_findSeats_L8 (z_h_T : MT) (k : (Nat → Int32) → Option (Int32 × MT × (Nat → Int32) × (Nat → Int32))) : Nat → (Nat → Int32) → Int32 → Option (Int32 × MT × (Nat → Int32) × (Nat → Int32))
  | 0, _, _ => none
  | n + 1, z_h_sits, x3 =>
  if (m_many z_h_T) ≤ x3 then
   k z_h_sits
  else
   if x3 < 0 ∨ 8 ≤ x3.toNatClampNeg then none else
   f_M_findSeats_L8 z_h_T k n (upd z_h_sits x3.toNatClampNeg x3) (x3 + 1)
def f_M_findSeats_L80 (z_h_T : MT) (z_h_sits : (Nat → Int32)) (k : (Nat → Int32) → Option (Int32 × MT × (Nat → Int32) × (Nat → Int32))) : Nat → (Nat → Int32) → Int32 → Option (Int32 × MT × (Nat → Int32) × (Nat → Int32))
  | 0, _, _ => none
  | n + 1, z_h_bestSits, x7 =>
  if (m_many z_h_T) ≤ x7 then
   k z_h_bestSits
  else
   if x7 < 0 ∨ 8 ≤ x7.toNatClampNeg then none else
   f_M_findSeats_L80 z_h_T z_h_sits k n (upd z_h_bestSits x7.toNatClampNeg (z_h_sits x7.toNatClampNeg)) (x7 + 1)
def f_M_findSeats_L37 (x1 : Int32) (x2 : Int32) (k : MT → (Nat → Int32) → (Nat → Int32) → Int32 → Option (Int32 × MT × (Nat → Int32) × (Nat → Int32))) : Nat → MT → (Nat → Int32) → (Nat → Int32) → Int32 → Int32 → Int32 → Option (Int32 × MT × (Nat → Int32) × (Nat → Int32))
  | 0, _, _, _, _, _, _ => none
  | n + 1, z_h_T, z_h_sits, z_h_bestSits, x3, x4, x5 =>
  if x5 = 0 then
   k z_h_T z_h_sits z_h_bestSits x3
  else
   (f_M_seated z_h_T z_h_sits x1 x2).bind fun q6 =>
   if x4 = 0 then
    if x2 = 0 then
     if x3 ≤ q6.1 then
      (f_M_nextSeats q6.2 z_h_sits).bind fun q18 =>
      f_M_findSeats_L37 x1 x2 k n q6.2 q18.2 z_h_bestSits x3 0 q18.1
     else
      f_M_findSeats_L80 q6.2 z_h_sits (fun z_h_bestSits_19 =>
       (f_M_nextSeats q6.2 z_h_sits).bind fun q20 =>
       f_M_findSeats_L37 x1 x2 k n q6.2 q20.2 z_h_bestSits_19 q6.1 0 q20.1) FU z_h_bestSits 0
    else
     if q6.1 ≤ x3 then
      (f_M_nextSeats q6.2 z_h_sits).bind fun q14 =>
      f_M_findSeats_L37 x1 x2 k n q6.2 q14.2 z_h_bestSits x3 0 q14.1
     else
      f_M_findSeats_L80 q6.2 z_h_sits (fun z_h_bestSits_15 =>
       (f_M_nextSeats q6.2 z_h_sits).bind fun q16 =>
       f_M_findSeats_L37 x1 x2 k n q6.2 q16.2 z_h_bestSits_15 q6.1 0 q16.1) FU z_h_bestSits 0
   else
    f_M_findSeats_L80 q6.2 z_h_sits (fun z_h_bestSits_10 =>
     (f_M_nextSeats q6.2 z_h_sits).bind fun q11 =>
     f_M_findSeats_L37 x1 x2 k n q6.2 q11.2 z_h_bestSits_10 q6.1 0 q11.1) FU z_h_bestSits 0
def f_M_findSeats (z_h_T : MT) (z_h_sits : (Nat → Int32)) (z_h_bestSits : (Nat → Int32)) (x1 : Int32) (x2 : Int32) : Option (Int32 × MT × (Nat → Int32) × (Nat → Int32)) :=
 (f_M_passesAll z_h_T 1 1).bind fun q1 =>
 f_M_findSeats_L8 q1 (fun z_h_sits_4 =>
  f_M_findSeats_L37 x1 x2 (fun z_h_T_21 z_h_sits_21 z_h_bestSits_21 x3_21 =>
   (f_M_passesAll z_h_T_21 1 0).bind fun q22 =>
   some (x3_21, q22, z_h_sits_21, z_h_bestSits_21)) FU q1 z_h_sits_4 z_h_bestSits 0 1 1) FU z_h_sits 0
def f_M_seats (z_h_T : MT) (z_h_refused : (Nat → Int32)) (z_h_sits : (Nat → Int32)) (z_h_bestSits : (Nat → Int32)) (x1 : Int32) (x2 : Int32) : Option (Int32 × MT × (Nat → Int32) × (Nat → Int32) × (Nat → Int32)) :=
 (f_M_isIn x2 0 2).bind fun q1 =>
 if q1 = 0 then
  (f_M_no z_h_refused (-2)).bind fun q12 =>
  some (q12.1, z_h_T, q12.2, z_h_sits, z_h_bestSits)
 else
  if 0 ≤ x1 then
   if 50 < x1 then
    (f_M_no z_h_refused (-6)).bind fun q5 =>
    some (q5.1, z_h_T, q5.2, z_h_sits, z_h_bestSits)
   else
    if (m_many z_h_T) ≤ 6 then
     if (m_many z_h_T) = 0 then
      (f_M_no z_h_refused (-3)).bind fun q9 =>
      some (q9.1, z_h_T, q9.2, z_h_sits, z_h_bestSits)
     else
      (f_M_findSeats z_h_T z_h_sits z_h_bestSits x1 x2).bind fun q8 =>
      some (q8.1, q8.2.1, z_h_refused, q8.2.2.1, q8.2.2.2)
    else
     (f_M_no z_h_refused (-6)).bind fun q10 =>
     some (q10.1, z_h_T, q10.2, z_h_sits, z_h_bestSits)
  else
   (f_M_no z_h_refused (-4)).bind fun q11 =>
   some (q11.1, z_h_T, q11.2, z_h_sits, z_h_bestSits)
def f_M_seat (z_h_T : MT) (z_h_refused : (Nat → Int32)) (z_h_sits : (Nat → Int32)) (z_h_bestSits : (Nat → Int32)) (x1 : Int32) (x2 : Int32) (x3 : Int32) : Option (Int32 × MT × (Nat → Int32) × (Nat → Int32) × (Nat → Int32)) :=
 (f_M_isIn x2 0 2).bind fun q1 =>
 if q1 = 0 then
  (f_M_no z_h_refused (-2)).bind fun q16 =>
  some (q16.1, z_h_T, q16.2, z_h_sits, z_h_bestSits)
 else
  if x1 < 0 then
   (f_M_no z_h_refused (-4)).bind fun q4 =>
   some (q4.1, z_h_T, q4.2, z_h_sits, z_h_bestSits)
  else
   if 0 ≤ x3 then
    if 50 < x1 then
     (f_M_no z_h_refused (-6)).bind fun q7 =>
     some (q7.1, z_h_T, q7.2, z_h_sits, z_h_bestSits)
    else
     if (m_many z_h_T) ≤ 6 then
      if (m_many z_h_T) = 0 then
       (f_M_no z_h_refused (-3)).bind fun q13 =>
       some (q13.1, z_h_T, q13.2, z_h_sits, z_h_bestSits)
      else
       (f_M_findSeats z_h_T z_h_sits z_h_bestSits x1 x2).bind fun q10 =>
       if (m_many q10.2.1) ≤ x3 then
        some ((-9), q10.2.1, z_h_refused, q10.2.2.1, q10.2.2.2)
       else
        if x3 < 0 ∨ 8 ≤ x3.toNatClampNeg then none else
        some ((q10.2.2.2 x3.toNatClampNeg), q10.2.1, z_h_refused, q10.2.2.1, q10.2.2.2)
     else
      (f_M_no z_h_refused (-6)).bind fun q14 =>
      some (q14.1, z_h_T, q14.2, z_h_sits, z_h_bestSits)
   else
    (f_M_no z_h_refused (-4)).bind fun q15 =>
    some (q15.1, z_h_T, q15.2, z_h_sits, z_h_bestSits)
def f_M_othersBehind (z_h_T : MT) (x1 : Int32) (x2 : Int32) : Option (Int32 × MT) :=
 (f_M_passesAll z_h_T 1 1).bind fun q1 =>
 (f_M_goes q1 x2).bind fun q2 =>
 (f_M_sum q2.2).bind fun q3 =>
 if x1 < 0 ∨ 8 ≤ x1.toNatClampNeg then none else
 (f_M_passesAll q2.2 1 0).bind fun q5 =>
 some ((q3 - ((m_sweets q2.2) x1.toNatClampNeg)), q5)
def f_M_hides (z_h_T : MT) (z_h_refused : (Nat → Int32)) (x1 : Int32) (x2 : Int32) (x3 : Int32) : Option (Int32 × MT × (Nat → Int32)) :=
 (f_M_isChild z_h_T x1).bind fun q1 =>
 if q1 = 0 then
  (f_M_lower z_h_refused (-1)).bind fun q11 =>
  some (q11.1, z_h_T, q11.2)
 else
  (f_M_bound x2 0 50).bind fun q3 =>
  if q3 = 0 then
   (f_M_othersBehind z_h_T x1 x2).bind fun q5 =>
   if x1 < 0 ∨ 8 ≤ x1.toNatClampNeg then none else
   if x3 = 0 then
    (f_M_othersBehind ((upd (m_kind q5.2) x1.toNatClampNeg 3), (m_sweets q5.2), (m_gives q5.2), (m_kept q5.2), (m_many q5.2), (m_odd q5.2), (m_step q5.2), (m_bag q5.2), (m_strokes q5.2), (m_gave q5.2), (m_threw q5.2), (m_isKeeping q5.2), (m_cursor q5.2)) x1 x2).bind fun q8 =>
    some ((q8.1 - q5.1), ((upd (m_kind q8.2) x1.toNatClampNeg ((m_kind q5.2) x1.toNatClampNeg)), (m_sweets q8.2), (m_gives q8.2), (m_kept q8.2), (m_many q8.2), (m_odd q8.2), (m_step q8.2), (m_bag q8.2), (m_strokes q8.2), (m_gave q8.2), (m_threw q8.2), (m_isKeeping q8.2), (m_cursor q8.2)), z_h_refused)
   else
    (f_M_othersBehind ((upd (m_kind q5.2) x1.toNatClampNeg 4), (m_sweets q5.2), (m_gives q5.2), (m_kept q5.2), (m_many q5.2), (m_odd q5.2), (m_step q5.2), (m_bag q5.2), (m_strokes q5.2), (m_gave q5.2), (m_threw q5.2), (m_isKeeping q5.2), (m_cursor q5.2)) x1 x2).bind fun q9 =>
    some ((q9.1 - q5.1), ((upd (m_kind q9.2) x1.toNatClampNeg ((m_kind q5.2) x1.toNatClampNeg)), (m_sweets q9.2), (m_gives q9.2), (m_kept q9.2), (m_many q9.2), (m_odd q9.2), (m_step q9.2), (m_bag q9.2), (m_strokes q9.2), (m_gave q9.2), (m_threw q9.2), (m_isKeeping q9.2), (m_cursor q9.2)), z_h_refused)
  else
   (f_M_lower z_h_refused q3).bind fun q10 =>
   some (q10.1, z_h_T, q10.2)
def f_M_felt_L30 (z_h_trail : (Nat → Int32)) (x1 : Int32) (k : (Nat → Int32) → Option (Int32 × MT × (Nat → Int32) × (Nat → Int32) × (Nat → Int32))) : Nat → (Nat → Int32) → Int32 → Option (Int32 × MT × (Nat → Int32) × (Nat → Int32) × (Nat → Int32))
  | 0, _, _ => none
  | n + 1, z_h_without, x3 =>
  if 50 < x3 then
   k z_h_without
  else
   if ((9 * x3) + x1) < 0 ∨ 1827 ≤ ((9 * x3) + x1).toNatClampNeg then none else
   if x3 < 0 ∨ 51 ≤ x3.toNatClampNeg then none else
   f_M_felt_L30 z_h_trail x1 k n (upd z_h_without x3.toNatClampNeg (z_h_trail ((9 * x3) + x1).toNatClampNeg)) (x3 + 1)
def f_M_felt_L94 (z_h_T : MT) (z_h_refused : (Nat → Int32)) (z_h_trail : (Nat → Int32)) (z_h_without : (Nat → Int32)) (x1 : Int32) : Nat → Int32 → Option (Int32 × MT × (Nat → Int32) × (Nat → Int32) × (Nat → Int32))
  | 0, _ => none
  | n + 1, x4 =>
  if 50 < x4 then
   some ((-9), z_h_T, z_h_refused, z_h_trail, z_h_without)
  else
   if ((9 * x4) + x1) < 0 ∨ 1827 ≤ ((9 * x4) + x1).toNatClampNeg then none else
   if x4 < 0 ∨ 51 ≤ x4.toNatClampNeg then none else
   if (z_h_trail ((9 * x4) + x1).toNatClampNeg) = (z_h_without x4.toNatClampNeg) then
    f_M_felt_L94 z_h_T z_h_refused z_h_trail z_h_without x1 n (x4 + 1)
   else
    some (x4, z_h_T, z_h_refused, z_h_trail, z_h_without)
def f_M_felt (z_h_T : MT) (z_h_refused : (Nat → Int32)) (z_h_trail : (Nat → Int32)) (z_h_without : (Nat → Int32)) (x1 : Int32) (x2 : Int32) : Option (Int32 × MT × (Nat → Int32) × (Nat → Int32) × (Nat → Int32)) :=
 (f_M_isChild z_h_T x1).bind fun q1 =>
 if q1 = 0 then
  (f_M_no z_h_refused (-1)).bind fun q3 =>
  some (q3.1, z_h_T, q3.2, z_h_trail, z_h_without)
 else
  (f_M_isChild z_h_T x2).bind fun q4 =>
  if q4 = 0 then
   (f_M_no z_h_refused (-1)).bind fun q18 =>
   some (q18.1, z_h_T, q18.2, z_h_trail, z_h_without)
  else
   (f_M_writesTrail z_h_T z_h_trail 50).bind fun q6 =>
   f_M_felt_L30 q6.2 x1 (fun z_h_without_10 =>
    if x2 < 0 ∨ 8 ≤ x2.toNatClampNeg then none else
    (f_M_held (((m_sweets q6.1) x2.toNatClampNeg) + 1)).bind fun q12 =>
    (f_M_writesTrail ((m_kind q6.1), (upd (m_sweets q6.1) x2.toNatClampNeg q12), (m_gives q6.1), (m_kept q6.1), (m_many q6.1), (m_odd q6.1), (m_step q6.1), (m_bag q6.1), (m_strokes q6.1), (m_gave q6.1), (m_threw q6.1), (m_isKeeping q6.1), (m_cursor q6.1)) q6.2 50).bind fun q13 =>
    f_M_felt_L94 ((m_kind q13.1), (upd (m_sweets q13.1) x2.toNatClampNeg ((m_sweets q6.1) x2.toNatClampNeg)), (m_gives q13.1), (m_kept q13.1), (m_many q13.1), (m_odd q13.1), (m_step q13.1), (m_bag q13.1), (m_strokes q13.1), (m_gave q13.1), (m_threw q13.1), (m_isKeeping q13.1), (m_cursor q13.1)) z_h_refused q13.2 z_h_without_10 x1 FU 0) FU z_h_without 0
def f_M_joined_L57 (k : MT → Option (Int32 × MT × (Nat → Int32))) : Nat → MT → Int32 → Option (Int32 × MT × (Nat → Int32))
  | 0, _, _ => none
  | n + 1, z_h_T, x3 =>
  if ((m_kept z_h_T) 16) ≤ x3 then
   k z_h_T
  else
   if (2 * x3) < 0 ∨ 90 ≤ (2 * x3).toNatClampNeg then none else
   if (m_many z_h_T) < 0 ∨ 8 ≤ (m_many z_h_T).toNatClampNeg then none else
   if ((2 * x3) + 1) < 0 ∨ 90 ≤ ((2 * x3) + 1).toNatClampNeg then none else
   f_M_joined_L57 k n ((upd (m_kind z_h_T) (m_many z_h_T).toNatClampNeg ((m_kept z_h_T) (2 * x3).toNatClampNeg)), (upd (m_sweets z_h_T) (m_many z_h_T).toNatClampNeg ((m_kept z_h_T) ((2 * x3) + 1).toNatClampNeg)), (m_gives z_h_T), (m_kept z_h_T), ((m_many z_h_T) + 1), (m_odd z_h_T), (m_step z_h_T), (m_bag z_h_T), (m_strokes z_h_T), (m_gave z_h_T), (m_threw z_h_T), (m_isKeeping z_h_T), (m_cursor z_h_T)) (x3 + 1)
def f_M_joined (z_h_T : MT) (z_h_hasImage : Int32) (z_h_refused : (Nat → Int32)) (x1 : Int32) : Option (Int32 × MT × (Nat → Int32)) :=
 (f_M_bound x1 0 50).bind fun q1 =>
 if q1 = 0 then
  if z_h_hasImage = 0 then
   (f_M_no z_h_refused (-3)).bind fun q5 =>
   some (q5.1, z_h_T, q5.2)
  else
   if ((m_many z_h_T) + ((m_kept z_h_T) 16)) ≤ 8 then
    (f_M_passesAll z_h_T 1 1).bind fun q7 =>
    f_M_joined_L57 (fun z_h_T_12 =>
     if (m_many z_h_T_12) = 0 then
      (f_M_passesAll z_h_T_12 1 0).bind fun q16 =>
      some (0, q16, z_h_refused)
     else
      (f_M_goes z_h_T_12 x1).bind fun q14 =>
      (f_M_passesAll q14.2 1 0).bind fun q15 =>
      some (q14.1, q15, z_h_refused)) FU q7 0
   else
    (f_M_no z_h_refused (-3)).bind fun q17 =>
    some (q17.1, z_h_T, q17.2)
 else
  (f_M_no z_h_refused q1).bind fun q3 =>
  some (q3.1, z_h_T, q3.2)
def f_M_newly (z_h_T : MT) (z_h_refused : (Nat → Int32)) (x1 : Int32) (x2 : Int32) : Option (Int32 × MT × (Nat → Int32)) :=
 if x1 < 0 then
  (f_M_lower z_h_refused (-4)).bind fun q2 =>
  some (q2.1, z_h_T, q2.2)
 else
  if 0 ≤ x2 then
   if 999 < x1 then
    (f_M_lower z_h_refused (-6)).bind fun q5 =>
    some (q5.1, z_h_T, q5.2)
   else
    if 50 < x2 then
     (f_M_lower z_h_refused (-6)).bind fun q7 =>
     some (q7.1, z_h_T, q7.2)
    else
     if (m_many z_h_T) = 8 then
      (f_M_lower z_h_refused (-6)).bind fun q15 =>
      some (q15.1, z_h_T, q15.2)
     else
      (f_M_passesAll z_h_T 1 1).bind fun q9 =>
      (f_M_goes q9 x2).bind fun q10 =>
      (f_M_passesAll q10.2 1 0).bind fun q11 =>
      if (m_many q11) < 0 ∨ 8 ≤ (m_many q11).toNatClampNeg then none else
      (f_M_goes ((upd (m_kind q11) (m_many q11).toNatClampNeg 0), (upd (m_sweets q11) (m_many q11).toNatClampNeg x1), (m_gives q11), (m_kept q11), ((m_many q11) + 1), (m_odd q11), (m_step q11), (m_bag q11), (m_strokes q11), (m_gave q11), (m_threw q11), (m_isKeeping q11), (m_cursor q11)) x2).bind fun q13 =>
      (f_M_passesAll q13.2 1 0).bind fun q14 =>
      some ((q13.1 - q10.1), q14, z_h_refused)
  else
   (f_M_lower z_h_refused (-4)).bind fun q16 =>
   some (q16.1, z_h_T, q16.2)
def f_M_begun_L58 (x4 : Int32) (k : MT → Option (Int32 × MT × (Nat → Int32) × (Nat → Int32))) : Nat → MT → Int32 → Option (Int32 × MT × (Nat → Int32) × (Nat → Int32))
  | 0, _, _ => none
  | n + 1, z_h_T, x5 =>
  if (m_many z_h_T) ≤ x5 then
   k z_h_T
  else
   if x5 < 0 ∨ 8 ≤ x5.toNatClampNeg then none else
   f_M_begun_L58 x4 k n ((m_kind z_h_T), (upd (m_sweets z_h_T) x5.toNatClampNeg x4), (m_gives z_h_T), (m_kept z_h_T), (m_many z_h_T), (m_odd z_h_T), (m_step z_h_T), (m_bag z_h_T), (m_strokes z_h_T), (m_gave z_h_T), (m_threw z_h_T), (m_isKeeping z_h_T), (m_cursor z_h_T)) (x5 + 1)
def f_M_begun_L44 (x1 : Int32) (k : MT → (Nat → Int32) → Int32 → Option (Int32 × MT × (Nat → Int32) × (Nat → Int32))) : Nat → MT → (Nat → Int32) → Int32 → Int32 → Option (Int32 × MT × (Nat → Int32) × (Nat → Int32))
  | 0, _, _, _, _ => none
  | n + 1, z_h_T, z_h_trail, x3, x4 =>
  if 100 ≤ x4 then
   k z_h_T z_h_trail x3
  else
   if 0 ≤ x3 then
    k z_h_T z_h_trail x3
   else
    f_M_begun_L58 x4 (fun z_h_T_10 =>
     (f_M_firstAlike z_h_T_10 z_h_trail x1).bind fun q11 =>
     if q11.1 < 0 then
      f_M_begun_L44 x1 k n q11.2.1 q11.2.2 x3 (x4 + 1)
     else
      f_M_begun_L44 x1 k n q11.2.1 q11.2.2 x4 (x4 + 1)) FU z_h_T 1
def f_M_begun (z_h_T : MT) (z_h_refused : (Nat → Int32)) (z_h_trail : (Nat → Int32)) (x1 : Int32) : Option (Int32 × MT × (Nat → Int32) × (Nat → Int32)) :=
 (f_M_bound x1 0 50).bind fun q1 =>
 if q1 = 0 then
  if (m_many z_h_T) = 0 then
   (f_M_no z_h_refused (-3)).bind fun q15 =>
   some (q15.1, z_h_T, q15.2, z_h_trail)
  else
   (f_M_passesAll z_h_T 2 1).bind fun q5 =>
   f_M_begun_L44 x1 (fun z_h_T_13 z_h_trail_13 x3_13 =>
    (f_M_passesAll z_h_T_13 2 0).bind fun q14 =>
    some (x3_13, q14, z_h_refused, z_h_trail_13)) FU q5 z_h_trail (-9) 0
 else
  (f_M_no z_h_refused q1).bind fun q3 =>
  some (q3.1, z_h_T, q3.2, z_h_trail)
def f_M_draw (z_h_lots : Int32) (x1 : Int32) : Option (Int32 × Int32) :=
 if x1 = 0 then none else
 some ((((((z_h_lots * 1103515245) + 12345) &&& 2147483647) / 65536) % x1), ((z_h_lots * 1103515245) + 12345))
def f_M_seeds_L49 (x1 : Int32) (k : MT → Int32 → Int32 → Option (Int32 × MT × Int32 × (Nat → Int32))) : Nat → MT → Int32 → Int32 → Int32 → Option (Int32 × MT × Int32 × (Nat → Int32))
  | 0, _, _, _, _ => none
  | n + 1, z_h_T, z_h_lots, x4, x5 =>
  if x1 ≤ x5 then
   k z_h_T z_h_lots x4
  else
   (f_M_draw z_h_lots (m_many z_h_T)).bind fun q7 =>
   (f_M_draw q7.2 (m_many z_h_T)).bind fun q8 =>
   (f_M_swapsSweets z_h_T q7.1 q8.1).bind fun q9 =>
   (f_M_goes q9 1).bind fun q10 =>
   f_M_seeds_L49 x1 k n q10.2 q8.2 (x4 + q10.1) (x5 + 1)
def f_M_seeds (z_h_T : MT) (z_h_lots : Int32) (z_h_refused : (Nat → Int32)) (x1 : Int32) (x2 : Int32) : Option (Int32 × MT × Int32 × (Nat → Int32)) :=
 (f_M_bound x1 1 50).bind fun q1 =>
 if q1 = 0 then
  if (m_many z_h_T) = 0 then
   (f_M_no z_h_refused (-3)).bind fun q13 =>
   some (q13.1, z_h_T, z_h_lots, q13.2)
  else
   (f_M_passesAll z_h_T 1 1).bind fun q5 =>
   f_M_seeds_L49 x1 (fun z_h_T_11 z_h_lots_11 x4_11 =>
    (f_M_passesAll z_h_T_11 1 0).bind fun q12 =>
    some (x4_11, q12, z_h_lots_11, z_h_refused)) FU q5 x2 0 0
 else
  (f_M_no z_h_refused q1).bind fun q3 =>
  some (q3.1, z_h_T, z_h_lots, q3.2)
def f_M_row (z_h_rowMany : Int32) (z_h_refused : (Nat → Int32)) (z_h_row : (Nat → Int32)) (x1 : Int32) : Option (Int32 × Int32 × (Nat → Int32) × (Nat → Int32)) :=
 (f_M_bound x1 0 999).bind fun q1 =>
 if q1 = 0 then
  if z_h_rowMany = 24 then
   (f_M_no z_h_refused (-6)).bind fun q6 =>
   some (q6.1, z_h_rowMany, q6.2, z_h_row)
  else
   if z_h_rowMany < 0 ∨ 24 ≤ z_h_rowMany.toNatClampNeg then none else
   some ((z_h_rowMany + 1), (z_h_rowMany + 1), z_h_refused, (upd z_h_row z_h_rowMany.toNatClampNeg x1))
 else
  (f_M_no z_h_refused q1).bind fun q3 =>
  some (q3.1, z_h_rowMany, q3.2, z_h_row)
def f_M_judge_L32 (z_h_T : MT) (z_h_rowMany : Int32) (z_h_refused : (Nat → Int32)) (z_h_trail : (Nat → Int32)) (z_h_row : (Nat → Int32)) (x1 : Int32) : Nat → Int32 → Option (Int32 × MT × Int32 × (Nat → Int32) × (Nat → Int32))
  | 0, _ => none
  | n + 1, x2 =>
  if x1 ≤ x2 then
   some ((-9), z_h_T, z_h_rowMany, z_h_refused, z_h_trail)
  else
   if x2 < 0 ∨ 24 ≤ x2.toNatClampNeg then none else
   if (m_many z_h_T) = 0 then none else
   if ((9 * (1 + (x2 / (m_many z_h_T)))) + (x2 % (m_many z_h_T))) < 0 ∨ 1827 ≤ ((9 * (1 + (x2 / (m_many z_h_T)))) + (x2 % (m_many z_h_T))).toNatClampNeg then none else
   if (z_h_row x2.toNatClampNeg) = (z_h_trail ((9 * (1 + (x2 / (m_many z_h_T)))) + (x2 % (m_many z_h_T))).toNatClampNeg) then
    f_M_judge_L32 z_h_T z_h_rowMany z_h_refused z_h_trail z_h_row x1 n (x2 + 1)
   else
    some (x2, z_h_T, z_h_rowMany, z_h_refused, z_h_trail)
def f_M_judge (z_h_T : MT) (z_h_rowMany : Int32) (z_h_refused : (Nat → Int32)) (z_h_trail : (Nat → Int32)) (z_h_row : (Nat → Int32)) : Option (Int32 × MT × Int32 × (Nat → Int32) × (Nat → Int32)) :=
 if (m_many z_h_T) = 0 then
  (f_M_no z_h_refused (-3)).bind fun q8 =>
  some (q8.1, z_h_T, z_h_rowMany, q8.2, z_h_trail)
 else
  (f_M_writesTrail z_h_T z_h_trail 24).bind fun q2 =>
  f_M_judge_L32 q2.1 0 z_h_refused q2.2 z_h_row z_h_rowMany FU 0
def f_M_count_L109 (z_h_T : MT) : Nat → Int32 → Int32 → Option (Int32)
  | 0, _, _ => none
  | n + 1, x2, x3 =>
  if (m_many z_h_T) ≤ x3 then
   some x2
  else
   if x3 < 0 ∨ 8 ≤ x3.toNatClampNeg then none else
   f_M_count_L109 z_h_T n (x2 + (((m_sweets z_h_T) x3.toNatClampNeg) % 2)) (x3 + 1)
def f_M_count (z_h_T : MT) (z_h_taped : Int32) (z_h_rowMany : Int32) (z_h_refused : (Nat → Int32)) (x1 : Int32) : Option (Int32) :=
 (f_M_isIn x1 11 16).bind fun q1 =>
 if q1 = 0 then
  if x1 = 0 then
   some (m_many z_h_T)
  else
   if x1 = 1 then
    (f_M_sum z_h_T).bind fun q5 =>
    some q5
   else
    if x1 = 2 then
     some (m_strokes z_h_T)
    else
     if x1 = 3 then
      some (m_gave z_h_T)
     else
      if x1 = 4 then
       some (m_threw z_h_T)
      else
       if x1 = 5 then
        some z_h_taped
       else
        if x1 = 6 then
         some z_h_rowMany
        else
         if x1 = 7 then
          f_M_count_L109 z_h_T FU 0 0
         else
          some (-9)
 else
  if (x1 - 10) < 0 ∨ 7 ≤ (x1 - 10).toNatClampNeg then none else
  some (z_h_refused (x1 - 10).toNatClampNeg)
