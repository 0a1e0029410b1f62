/-! What the law's methods do, as functions. Printed by wip/p35/gen/lawgen.py. -/
def f_Law_cell (xs : Nat → Int32) (L : Nat) (x1 : Int32) : Option (Int32) :=
 if nI L ≤ x1 then
  some ((7919 * x1) + 12)
 else
  if x1 < 0 ∨ L ≤ x1.toNatClampNeg then none else
  some (xs x1.toNatClampNeg)
def f_Law_pick (x0 : Int32) (x1 : Int32) : Option (Int32) :=
 if x1 = 0 then none else
 some ((x0 &&& 2147483647) % x1)
def f_Law_told_L8 (z_g1 : (Nat → Int32)) (x3 : Int32) (k : Int32 → (Nat → Int32) → (Nat → Int32) → Option (Int32 × RS × Int32 × (Nat → Int32) × RS × (Nat → Int32))) : Nat → Int32 → (Nat → Int32) → (Nat → Int32) → Int32 → Option (Int32 × RS × Int32 × (Nat → Int32) × RS × (Nat → Int32))
  | 0, _, _, _, _ => none
  | n + 1, z_g0_letters_length, z_g0_letters_text, z_g0_refusals, x4 =>
  if x3 ≤ x4 then
   k z_g0_letters_length z_g0_letters_text z_g0_refusals
  else
   if x4 < 0 ∨ 6 ≤ x4.toNatClampNeg then none else
   (f_X_feed z_g0_letters_length z_g0_letters_text z_g0_refusals (z_g1 x4.toNatClampNeg)).bind fun q3 =>
   f_Law_told_L8 z_g1 x3 k n q3.2.1 q3.2.2.1 q3.2.2.2 (x4 + 1)
def f_Law_told (z_g0_now : RS) (z_g0_letters_length : Int32) (z_g0_letters_text : (Nat → Int32)) (z_g0_letters_trial : RS) (z_g0_refusals : (Nat → Int32)) (z_g1 : (Nat → Int32)) : Option (Int32 × RS × Int32 × (Nat → Int32) × RS × (Nat → Int32)) :=
 f_Law_told_L8 z_g1 6 (fun z_g0_letters_length_4 z_g0_letters_text_4 z_g0_refusals_4 =>
  (f_X_table z_g0_now z_g0_letters_length_4 z_g0_letters_text_4 z_g0_letters_trial).bind fun q5 =>
  some (q5.1, q5.2.1, q5.2.2.1, z_g0_letters_text_4, q5.2.2.2, z_g0_refusals_4)) FU z_g0_letters_length z_g0_letters_text z_g0_refusals 0
def f_Law_child (z_g0_now : RS) (z_g0_letters_length : Int32) (z_g0_letters_text : (Nat → Int32)) (z_g0_letters_trial : RS) (z_g0_refusals : (Nat → Int32)) (x1 : Int32) (x2 : Int32) : Option (Int32 × RS × Int32 × (Nat → Int32) × RS × (Nat → Int32)) :=
 if x1 < 0 ∨ 7 ≤ x1.toNatClampNeg then none else
 (f_Law_told z_g0_now z_g0_letters_length z_g0_letters_text z_g0_letters_trial z_g0_refusals (upd (upd (upd (upd (upd (upd (fun _ => 0) 0 99) 1 ((upd (upd (upd (upd (upd (upd (upd (fun _ => 0) 0 104) 1 98) 2 114) 3 100) 4 110) 5 112) 6 115) x1.toNatClampNeg)) 2 (48 + (x2 / 100))) 3 (48 + ((x2 / 10) % 10))) 4 (48 + (x2 % 10))) 5 59)).bind fun q2 =>
 some (q2.1, q2.2.1, q2.2.2.1, q2.2.2.2.1, q2.2.2.2.2.1, q2.2.2.2.2.2)
def f_Law_table_L16 (xs : Nat → Int32) (L : Nat) (x3 : Int32) (x4 : Int32) (k : RS → Int32 → (Nat → Int32) → RS → (Nat → Int32) → Option (Int32 × RS × Int32 × (Nat → Int32) × RS × (Nat → Int32))) : Nat → RS → Int32 → (Nat → Int32) → RS → (Nat → Int32) → Int32 → Option (Int32 × RS × Int32 × (Nat → Int32) × RS × (Nat → Int32))
  | 0, _, _, _, _, _, _ => none
  | n + 1, z_g0_now, z_g0_letters_length, z_g0_letters_text, z_g0_letters_trial, z_g0_refusals, x5 =>
  if x4 ≤ x5 then
   k z_g0_now z_g0_letters_length z_g0_letters_text z_g0_letters_trial z_g0_refusals
  else
   (f_Law_cell xs L (1 + x5)).bind fun q4 =>
   (f_Law_pick q4 3).bind fun q5 =>
   if q5 = 0 then
    (f_Law_cell xs L (1 + x5)).bind fun q12 =>
    (f_Law_pick (q12 >>> (5 &&& 31)) x3).bind fun q13 =>
    (f_Law_child z_g0_now z_g0_letters_length z_g0_letters_text z_g0_letters_trial z_g0_refusals 0 q13).bind fun q14 =>
    f_Law_table_L16 xs L x3 x4 k n q14.2.1 q14.2.2.1 q14.2.2.2.1 q14.2.2.2.2.1 q14.2.2.2.2.2 (x5 + 1)
   else
    (f_Law_cell xs L (1 + x5)).bind fun q7 =>
    (f_Law_pick (q7 >>> (2 &&& 31)) 7).bind fun q8 =>
    (f_Law_cell xs L (1 + x5)).bind fun q9 =>
    (f_Law_pick (q9 >>> (5 &&& 31)) x3).bind fun q10 =>
    (f_Law_child z_g0_now z_g0_letters_length z_g0_letters_text z_g0_letters_trial z_g0_refusals q8 q10).bind fun q11 =>
    f_Law_table_L16 xs L x3 x4 k n q11.2.1 q11.2.2.1 q11.2.2.2.1 q11.2.2.2.2.1 q11.2.2.2.2.2 (x5 + 1)
def f_Law_table (xs : Nat → Int32) (L : Nat) (z_g0_now : RS) (z_g0_letters_length : Int32) (z_g0_letters_text : (Nat → Int32)) (z_g0_letters_trial : RS) (z_g0_refusals : (Nat → Int32)) (x2 : Int32) (x3 : Int32) : Option (Int32 × RS × Int32 × (Nat → Int32) × RS × (Nat → Int32)) :=
 (f_Law_cell xs L 0).bind fun q1 =>
 (f_Law_pick q1 x2).bind fun q2 =>
 f_Law_table_L16 xs L x3 (1 + q2) (fun z_g0_now_15 z_g0_letters_length_15 z_g0_letters_text_15 z_g0_letters_trial_15 z_g0_refusals_15 =>
  (f_Law_cell xs L 9).bind fun q16 =>
  (f_Law_pick q16 3).bind fun q17 =>
  (f_X_set z_g0_now_15 z_g0_refusals_15 0 q17).bind fun q18 =>
  (f_Law_cell xs L 10).bind fun q19 =>
  (f_Law_pick q19 3).bind fun q20 =>
  (f_X_set q18.2.1 q18.2.2 1 (1 + q20)).bind fun q21 =>
  (f_Law_cell xs L 11).bind fun q22 =>
  (f_Law_pick q22 3).bind fun q23 =>
  if q23 = 0 then
   (f_Law_cell xs L 11).bind fun q25 =>
   (f_Law_pick (q25 >>> (2 &&& 31)) 30).bind fun q26 =>
   (f_X_set q21.2.1 q21.2.2 2 q26).bind fun q27 =>
   some ((1 + q2), q27.2.1, z_g0_letters_length_15, z_g0_letters_text_15, z_g0_letters_trial_15, q27.2.2)
  else
   some ((1 + q2), q21.2.1, z_g0_letters_length_15, z_g0_letters_text_15, z_g0_letters_trial_15, q21.2.2)) 9 z_g0_now z_g0_letters_length z_g0_letters_text z_g0_letters_trial z_g0_refusals 0
def f_Law_law_L55 (z_x_now : RS) (x2 : Int32) (x5 : Int32) (k : (Nat → Int32) → RS → Int32 → Option (Int32)) : Nat → (Nat → Int32) → RS → Int32 → Int32 → Option (Int32)
  | 0, _, _, _, _ => none
  | n + 1, z_x_refusals, z_x_mind_one, x6, x7 =>
  if x2 ≤ x7 then
   k z_x_refusals z_x_mind_one x6
  else
   (f_X_run z_x_now z_x_refusals z_x_mind_one x7 x5).bind fun q7 =>
   f_Law_law_L55 z_x_now x2 x5 k n q7.2.1 q7.2.2 (x6 + q7.1) (x7 + 1)
def f_Law_law_L200 (z_x_now : RS) (x2 : Int32) (x8 : Int32) (k : (Nat → Int32) → RS → Option (Int32)) : Nat → (Nat → Int32) → RS → Int32 → Option (Int32)
  | 0, _, _, _ => none
  | n + 1, z_x_refusals, z_x_mind_one, x9 =>
  if x2 ≤ x9 then
   k z_x_refusals z_x_mind_one
  else
   if x8 < 0 then
    k z_x_refusals z_x_mind_one
   else
    (f_X_run z_x_now z_x_refusals z_x_mind_one x9 x8).bind fun q20 =>
    (f_X_run z_x_now q20.2.1 q20.2.2 0 x8).bind fun q21 =>
    if q20.1 = q21.1 then
     if x9 ≤ 0 then
      f_Law_law_L200 z_x_now x2 x8 k n q21.2.1 q21.2.2 (x9 + 1)
     else
      (f_X_meet z_x_now q21.2.1 q21.2.2 0 x9).bind fun q24 =>
      if q24.1 < 0 then
       some 0
      else
       (f_X_meet z_x_now q24.2.1 q24.2.2 0 x9).bind fun q26 =>
       if q26.1 ≤ x8 then
        f_Law_law_L200 z_x_now x2 x8 k n q26.2.1 q26.2.2 (x9 + 1)
       else
        some 0
    else
     some 0
def f_Law_law_L276 (z_x_now : RS) (x2 : Int32) (x9 : Int32) (k : (Nat → Int32) → RS → RS → Option (Int32)) : Nat → (Nat → Int32) → RS → RS → Int32 → Option (Int32)
  | 0, _, _, _, _ => none
  | n + 1, z_x_refusals, z_x_mind_one, z_x_mind_two, x10 =>
  if x2 ≤ x10 then
   k z_x_refusals z_x_mind_one z_x_mind_two
  else
   if x9 < 0 then
    k z_x_refusals z_x_mind_one z_x_mind_two
   else
    (f_X_run z_x_now z_x_refusals z_x_mind_one x10 x9).bind fun q32 =>
    (f_X_ring z_x_now q32.2.1 q32.2.2 z_x_mind_two 1).bind fun q33 =>
    (f_X_run z_x_now q33.2.1 q33.2.2.1 x10 (x9 + q33.1)).bind fun q34 =>
    if q32.1 = q34.1 then
     f_Law_law_L276 z_x_now x2 x9 k n q34.2.1 q34.2.2 q33.2.2.2 (x10 + 1)
    else
     some 0
def f_Law_law_L333 (z_x_now : RS) (x2 : Int32) (k : (Nat → Int32) → Int32 → (Nat → Int64) → (Nat → Int64) → Int64 → Option (Int32)) : Nat → (Nat → Int32) → Int32 → (Nat → Int64) → (Nat → Int64) → Int64 → Int32 → Option (Int32)
  | 0, _, _, _, _, _, _ => none
  | n + 1, z_x_refusals, z_x_parts_doublings, z_x_parts_have, z_x_parts_next, x10, x13 =>
  if x2 ≤ x13 then
   k z_x_refusals z_x_parts_doublings z_x_parts_have z_x_parts_next x10
  else
   (f_X_crumbs z_x_now z_x_refusals z_x_parts_doublings z_x_parts_have z_x_parts_next x13 7 1).bind fun q39 =>
   if q39.1 = 0 then none else
   if (lg_cmp (128 % q39.1) 0) = 0 then
    (f_X_crumbs z_x_now q39.2.1 q39.2.2.1 q39.2.2.2.1 q39.2.2.2.2 x13 7 0).bind fun q42 =>
    f_Law_law_L333 z_x_now x2 k n q42.2.1 q42.2.2.1 q42.2.2.2.1 q42.2.2.2.2 (x10 + (q42.1 * (128 / q39.1))) (x13 + 1)
   else
    some 0
def f_Law_law_L431 (z_x_now : RS) (x2 : Int32) (k : (Nat → Int32) → Option (Int32)) : Nat → (Nat → Int32) → Int32 → Option (Int32)
  | 0, _, _ => none
  | n + 1, z_x_refusals, x15 =>
  if x2 ≤ x15 then
   k z_x_refusals
  else
   (f_X_child z_x_now z_x_refusals x15 2).bind fun q48 =>
   if q48.1 < 0 then
    some 0
   else
    (f_X_child z_x_now q48.2 x15 2).bind fun q50 =>
    (f_X_child z_x_now q50.2 x15 3).bind fun q51 =>
    (f_X_child z_x_now q51.2 x15 1).bind fun q52 =>
    if (q50.1 * (jmax 1 q51.1)) ≤ q52.1 then
     f_Law_law_L431 z_x_now x2 k n q52.2 (x15 + 1)
    else
     some 0
def f_Law_law_L421 (z_x_numberCount : Int32) (z_x_letters_length : Int32) (x2 : Int32) (x3 : Int32) (x5 : Int32) (k : RS → (Nat → Int32) → Int32 → Option (Int32)) : Nat → RS → (Nat → Int32) → Int32 → Int32 → Option (Int32)
  | 0, _, _, _, _ => none
  | n + 1, z_x_now, z_x_refusals, x13, x14 =>
  if x5 ≤ x14 then
   k z_x_now z_x_refusals x13
  else
   f_Law_law_L431 z_x_now x2 (fun z_x_refusals_54 =>
    (f_X_stroke z_x_now z_x_refusals_54).bind fun q55 =>
    if x3 = 1 then
     (f_X_count z_x_numberCount q55.2.1 z_x_letters_length q55.2.2 7).bind fun q57 =>
     if q57 = 0 then
      f_Law_law_L421 z_x_numberCount z_x_letters_length x2 x3 x5 k n q55.2.1 q55.2.2 (x13 + q55.1) (x14 + 1)
     else
      some 0
    else
     f_Law_law_L421 z_x_numberCount z_x_letters_length x2 x3 x5 k n q55.2.1 q55.2.2 (x13 + q55.1) (x14 + 1)) FU z_x_refusals 0
def f_Law_C415 (z_x_numberCount : Int32) (z_x_now : RS) (z_x_letters_length : Int32) (z_x_letters_text : (Nat → Int32)) (z_x_letters_trial : RS) (z_x_refusals : (Nat → Int32)) (z_x_mind_one : RS) (z_x_mind_two : RS) (z_x_parts_doublings : Int32) (z_x_parts_have : (Nat → Int64)) (z_x_parts_next : (Nat → Int64)) (x2 : Int32) (x3 : Int32) (x5 : Int32) (x6 : Int32) : Option (Int32) :=
 f_Law_law_L421 z_x_numberCount z_x_letters_length x2 x3 x5 (fun z_x_now_59 z_x_refusals_59 x13_59 =>
  (f_X_count z_x_numberCount z_x_now_59 z_x_letters_length z_x_refusals_59 1).bind fun q60 =>
  if q60 = x6 then
   (f_X_count z_x_numberCount z_x_now_59 z_x_letters_length z_x_refusals_59 3).bind fun q62 =>
   if q62 = x13_59 then
    (f_X_count z_x_numberCount z_x_now_59 z_x_letters_length z_x_refusals_59 2).bind fun q64 =>
    if q64 = x5 then
     some 1
    else
     some 0
   else
    some 0
  else
   some 0) FU z_x_now z_x_refusals 0 0
def f_Law_C320 (z_x_numberCount : Int32) (z_x_now : RS) (z_x_letters_length : Int32) (z_x_letters_text : (Nat → Int32)) (z_x_letters_trial : RS) (z_x_refusals : (Nat → Int32)) (z_x_mind_one : RS) (z_x_mind_two : RS) (z_x_parts_doublings : Int32) (z_x_parts_have : (Nat → Int64)) (z_x_parts_next : (Nat → Int64)) (x2 : Int32) (x3 : Int32) (x5 : Int32) (x6 : Int32) : Option (Int32) :=
 (f_X_mean z_x_now z_x_refusals 1).bind fun q37 =>
 f_Law_law_L333 z_x_now x2 (fun z_x_refusals_43 z_x_parts_doublings_43 z_x_parts_have_43 z_x_parts_next_43 x10_43 =>
  (f_X_mean z_x_now z_x_refusals_43 0).bind fun q44 =>
  if (lg_cmp (x10_43 * (q37.1.toInt64)) ((128 * (x2.toInt64)) * (q44.1.toInt64))) = 0 then
   f_Law_C415 z_x_numberCount z_x_now z_x_letters_length z_x_letters_text z_x_letters_trial q44.2 z_x_mind_one z_x_mind_two z_x_parts_doublings_43 z_x_parts_have_43 z_x_parts_next_43 x2 x3 x5 x6
  else
   some 0) FU q37.2 z_x_parts_doublings z_x_parts_have z_x_parts_next 0 0
def f_Law_C266 (z_x_numberCount : Int32) (z_x_now : RS) (z_x_letters_length : Int32) (z_x_letters_text : (Nat → Int32)) (z_x_letters_trial : RS) (z_x_refusals : (Nat → Int32)) (z_x_mind_one : RS) (z_x_mind_two : RS) (z_x_parts_doublings : Int32) (z_x_parts_have : (Nat → Int64)) (z_x_parts_next : (Nat → Int64)) (x2 : Int32) (x3 : Int32) (x5 : Int32) (x6 : Int32) : Option (Int32) :=
 (f_X_ring z_x_now z_x_refusals z_x_mind_one z_x_mind_two 0).bind fun q29 =>
 f_Law_law_L276 z_x_now x2 q29.1 (fun z_x_refusals_36 z_x_mind_one_36 z_x_mind_two_36 =>
  f_Law_C320 z_x_numberCount z_x_now z_x_letters_length z_x_letters_text z_x_letters_trial z_x_refusals_36 z_x_mind_one_36 z_x_mind_two_36 z_x_parts_doublings z_x_parts_have z_x_parts_next x2 x3 x5 x6) FU q29.2.1 q29.2.2.1 q29.2.2.2 0
def f_Law_C197 (z_x_numberCount : Int32) (z_x_now : RS) (z_x_letters_length : Int32) (z_x_letters_text : (Nat → Int32)) (z_x_letters_trial : RS) (z_x_refusals : (Nat → Int32)) (z_x_mind_one : RS) (z_x_mind_two : RS) (z_x_parts_doublings : Int32) (z_x_parts_have : (Nat → Int64)) (z_x_parts_next : (Nat → Int64)) (x2 : Int32) (x3 : Int32) (x5 : Int32) (x6 : Int32) (x8 : Int32) : Option (Int32) :=
 f_Law_law_L200 z_x_now x2 x8 (fun z_x_refusals_28 z_x_mind_one_28 =>
  f_Law_C266 z_x_numberCount z_x_now z_x_letters_length z_x_letters_text z_x_letters_trial z_x_refusals_28 z_x_mind_one_28 z_x_mind_two z_x_parts_doublings z_x_parts_have z_x_parts_next x2 x3 x5 x6) FU z_x_refusals z_x_mind_one 0
def f_Law_law_L162 (z_x_now : RS) (x2 : Int32) (x7 : Int32) (k : (Nat → Int32) → RS → Option (Int32)) : Nat → (Nat → Int32) → RS → Int32 → Option (Int32)
  | 0, _, _, _ => none
  | n + 1, z_x_refusals, z_x_mind_one, x9 =>
  if x2 ≤ x9 then
   k z_x_refusals z_x_mind_one
  else
   (f_X_run z_x_now z_x_refusals z_x_mind_one x9 x7).bind fun q68 =>
   (f_X_run z_x_now q68.2.1 q68.2.2 x9 (x7 + 1)).bind fun q69 =>
   if q68.1 = q69.1 then
    f_Law_law_L162 z_x_now x2 x7 k n q69.2.1 q69.2.2 (x9 + 1)
   else
    some 0
def f_Law_C134 (z_x_numberCount : Int32) (z_x_now : RS) (z_x_letters_length : Int32) (z_x_letters_text : (Nat → Int32)) (z_x_letters_trial : RS) (z_x_refusals : (Nat → Int32)) (z_x_mind_one : RS) (z_x_mind_two : RS) (z_x_parts_doublings : Int32) (z_x_parts_have : (Nat → Int64)) (z_x_parts_next : (Nat → Int64)) (x2 : Int32) (x3 : Int32) (x5 : Int32) (x6 : Int32) : Option (Int32) :=
 (f_X_rests z_x_now z_x_refusals z_x_mind_one z_x_mind_two).bind fun q15 =>
 (f_X_alike z_x_now q15.2.1 q15.2.2.1).bind fun q16 =>
 if q15.1 < 0 then
  f_Law_C197 z_x_numberCount z_x_now z_x_letters_length z_x_letters_text z_x_letters_trial q16.2.1 q16.2.2 q15.2.2.2 z_x_parts_doublings z_x_parts_have z_x_parts_next x2 x3 x5 x6 q16.1
 else
  if 200 ≤ q15.1 then
   f_Law_C197 z_x_numberCount z_x_now z_x_letters_length z_x_letters_text z_x_letters_trial q16.2.1 q16.2.2 q15.2.2.2 z_x_parts_doublings z_x_parts_have z_x_parts_next x2 x3 x5 x6 q16.1
  else
   f_Law_law_L162 z_x_now x2 q15.1 (fun z_x_refusals_71 z_x_mind_one_71 =>
    f_Law_C197 z_x_numberCount z_x_now z_x_letters_length z_x_letters_text z_x_letters_trial z_x_refusals_71 z_x_mind_one_71 q15.2.2.2 z_x_parts_doublings z_x_parts_have z_x_parts_next x2 x3 x5 x6 q16.1) FU q16.2.1 q16.2.2 0
def f_Law_C17 (xs : Nat → Int32) (L : Nat) (z_x_numberCount : Int32) (z_x_now : RS) (z_x_letters_length : Int32) (z_x_letters_text : (Nat → Int32)) (z_x_letters_trial : RS) (z_x_refusals : (Nat → Int32)) (z_x_mind_one : RS) (z_x_mind_two : RS) (z_x_parts_doublings : Int32) (z_x_parts_have : (Nat → Int64)) (z_x_parts_next : (Nat → Int64)) (x2 : Int32) : Option (Int32) :=
 (f_Law_cell xs L 9).bind fun q1 =>
 (f_Law_pick q1 3).bind fun q2 =>
 (f_X_count z_x_numberCount z_x_now z_x_letters_length z_x_refusals 1).bind fun q3 =>
 (f_Law_cell xs L 13).bind fun q4 =>
 (f_Law_pick q4 40).bind fun q5 =>
 f_Law_law_L55 z_x_now x2 q5 (fun z_x_refusals_8 z_x_mind_one_8 x6_8 =>
  (f_X_given z_x_now z_x_refusals_8 z_x_mind_one_8 q5 0).bind fun q9 =>
  (f_X_given z_x_now q9.2.1 q9.2.2 q5 1).bind fun q10 =>
  if x6_8 = ((q3 + q9.1) - q10.1) then
   if q2 = 0 then
    (f_X_given z_x_now q10.2.1 q10.2.2 q5 1).bind fun q13 =>
    if q13.1 = 0 then
     f_Law_C134 z_x_numberCount z_x_now z_x_letters_length z_x_letters_text z_x_letters_trial q13.2.1 q13.2.2 z_x_mind_two z_x_parts_doublings z_x_parts_have z_x_parts_next x2 q2 q5 x6_8
    else
     some 0
   else
    (f_X_given z_x_now q10.2.1 q10.2.2 q5 0).bind fun q72 =>
    if q72.1 = 0 then
     if q2 = 1 then
      f_Law_C134 z_x_numberCount z_x_now z_x_letters_length z_x_letters_text z_x_letters_trial q72.2.1 q72.2.2 z_x_mind_two z_x_parts_doublings z_x_parts_have z_x_parts_next x2 q2 q5 x6_8
     else
      (f_X_given z_x_now q72.2.1 q72.2.2 q5 1).bind fun q75 =>
      if q75.1 = 0 then
       f_Law_C134 z_x_numberCount z_x_now z_x_letters_length z_x_letters_text z_x_letters_trial q75.2.1 q75.2.2 z_x_mind_two z_x_parts_doublings z_x_parts_have z_x_parts_next x2 q2 q5 x6_8
      else
       some 0
    else
     some 0
  else
   some 0) FU z_x_refusals z_x_mind_one 0 0
