def g_Listing_greatestNumber (a0 : Int32) : Option (Int32) :=
  if a0 = (0 : Int32) then
    some ((99 : Int32))
  else if a0 = (1 : Int32) then
    some ((5 : Int32))
  else if a0 = (2 : Int32) then
    some ((5 : Int32))
  else if a0 = (8 : Int32) then
    some ((30 : Int32))
  else if a0 = (9 : Int32) then
    some ((30 : Int32))
  else some ((-1 : Int32))
def g_Listing_holds (t_size : Int32) (a1 : Int32) : Option (Int32) :=
  if a1 < 0 then
    some ((0 : Int32))
  else
  if t_size ≤ a1 then
    some ((0 : Int32))
  else
  some ((1 : Int32))
def g_Listing_rise (a0 : Int32) : Option (Int32) :=
  if a0 = (0 : Int32) then
    some ((1 : Int32))
  else if a0 = (1 : Int32) then
    some ((1 : Int32))
  else if a0 = (7 : Int32) then
    some ((0 : Int32))
  else if a0 = (8 : Int32) then
    some ((0 : Int32))
  else some ((-1 : Int32))
def b_Listing_set_38 (t_R : Nat) (t_size : Int32) : Nat → (Nat → Int32) → (Nat → Int32) → (Nat → Int32) → Int32 → Option ((Nat → Int32) × (Nat → Int32) × (Nat → Int32))
  | 0, _, _, _, _ => none
  | n + 1, t_ops, t_numbers, t_heights, v4 =>
    if t_size ≤ v4 then
      some (t_ops, t_numbers, t_heights)
    else
    if ck v4 (t_R + 1) = true then
    if ck v4 t_R = true then
    (g_Listing_rise (t_ops v4.toNatClampNeg)).bind fun q1 =>
    if ck (v4 + (1 : Int32)) (t_R + 1) = true then
    b_Listing_set_38 t_R t_size n t_ops t_numbers (upd t_heights (v4 + (1 : Int32)).toNatClampNeg ((t_heights v4.toNatClampNeg) + q1)) (v4 + (1 : Int32))
    else none
    else none
    else none
def g_Listing_set (t_R : Nat) (t_ops : Nat → Int32) (t_numbers : Nat → Int32) (t_heights : Nat → Int32) (t_size : Int32) (a1 : Int32) (a2 : Int32) (a3 : Int32) : Option ((Nat → Int32) × (Nat → Int32) × (Nat → Int32)) :=
  (g_Listing_holds t_size a1).bind fun q1 =>
  if q1 = 0 then
    some (t_ops, t_numbers, t_heights)
  else
  if ck a1 t_R = true then
  (g_Listing_greatestNumber a2).bind fun q2 =>
  if q2 = (-1 : Int32) then
    if ck a1 t_R = true then
    b_Listing_set_38 t_R t_size 500 (upd t_ops a1.toNatClampNeg a2) (upd t_numbers a1.toNatClampNeg (0 : Int32)) t_heights a1
    else none
  else
  if ck a1 t_R = true then
  b_Listing_set_38 t_R t_size 500 (upd t_ops a1.toNatClampNeg a2) (upd t_numbers a1.toNatClampNeg a3) t_heights a1
  else none
  else none
def g_Listing_add (t_R : Nat) (t_ops : Nat → Int32) (t_numbers : Nat → Int32) (t_heights : Nat → Int32) (t_size : Int32) (a1 : Int32) (a2 : Int32) : Option (Int32 × (Nat → Int32) × (Nat → Int32) × (Nat → Int32) × Int32) :=
  if t_size < (nI t_R) then
    (g_Listing_set t_R t_ops t_numbers t_heights (t_size + (1 : Int32)) ((t_size + (1 : Int32)) - (1 : Int32)) a1 a2).bind fun q1 =>
    some ((1 : Int32), q1.1, q1.2.1, q1.2.2, t_size + (1 : Int32))
  else
  some ((0 : Int32), t_ops, t_numbers, t_heights, t_size)
def g_Listing_fits (a0 : Int32) (a1 : Int32) : Option (Int32) :=
  if a0 < 0 then
    some ((0 : Int32))
  else
  if a0 ≤ (10 : Int32) then
    (g_Listing_greatestNumber a0).bind fun q1 =>
    if q1 = (-1 : Int32) then
      some ((1 : Int32))
    else
    if a1 < 0 then
      some ((0 : Int32))
    else
    if q1 < a1 then
      some ((0 : Int32))
    else
    some ((1 : Int32))
  else
  some ((0 : Int32))
def g_Listing_size (t_size : Int32) : Option (Int32) :=
  some (t_size)
def g_S_put (t_listing_ops : Nat → Int32) (t_listing_numbers : Nat → Int32) (t_listing_heights : Nat → Int32) (t_listing_size : Int32) (a1 : Int32) (a2 : Int32) : Option (Int32 × (Nat → Int32) × (Nat → Int32) × (Nat → Int32) × Int32) :=
  (g_Listing_fits a1 a2).bind fun q1 =>
  if q1 = 0 then
    some ((-1 : Int32), t_listing_ops, t_listing_numbers, t_listing_heights, t_listing_size)
  else
  (g_Listing_add 30 t_listing_ops t_listing_numbers t_listing_heights t_listing_size a1 a2).bind fun q2 =>
  if q2.1 = 0 then
    some ((-3 : Int32), q2.2.1, q2.2.2.1, q2.2.2.2.1, q2.2.2.2.2)
  else
  (g_Listing_size q2.2.2.2.2).bind fun q3 =>
  some (q3, q2.2.1, q2.2.2.1, q2.2.2.2.1, q2.2.2.2.2)
def g_S_change (t_listing_ops : Nat → Int32) (t_listing_numbers : Nat → Int32) (t_listing_heights : Nat → Int32) (t_listing_size : Int32) (a1 : Int32) (a2 : Int32) (a3 : Int32) : Option (Int32 × (Nat → Int32) × (Nat → Int32) × (Nat → Int32)) :=
  (g_Listing_holds t_listing_size a1).bind fun q1 =>
  if q1 = 0 then
    some ((0 : Int32), t_listing_ops, t_listing_numbers, t_listing_heights)
  else
  (g_Listing_fits a2 a3).bind fun q2 =>
  if q2 = 0 then
    some ((0 : Int32), t_listing_ops, t_listing_numbers, t_listing_heights)
  else
  (g_Listing_set 30 t_listing_ops t_listing_numbers t_listing_heights t_listing_size a1 a2 a3).bind fun q3 =>
  some ((1 : Int32), q3.1, q3.2.1, q3.2.2)
def g_Characters_drop (t_size : Int32) : Option (Int32) :=
  some ((0 : Int32))
def g_Characters_size (t_size : Int32) : Option (Int32) :=
  some (t_size)
def g_Draft_row : Option (Unit) :=
  some ()
def g_Listing_drop (t_size : Int32) : Option (Int32) :=
  some ((0 : Int32))
def g_S_clear (t_listing_size : Int32) (t_draft_row_size : Int32) (a1 : Int32) : Option (Int32 × Int32 × Int32) :=
  if a1 = 0 then
    (g_Listing_size t_listing_size).bind fun q5 =>
    (g_Listing_drop t_listing_size).bind fun q6 =>
    some (q5, q6, t_draft_row_size)
  else
  if a1 = (1 : Int32) then
    (g_Characters_size t_draft_row_size).bind fun q2 =>
    (g_Characters_drop t_draft_row_size).bind fun q4 =>
    some (q2, t_listing_size, q4)
  else
  some ((-1 : Int32), t_listing_size, t_draft_row_size)
def g_Listing_heightBefore (t_R : Nat) (t_heights : Nat → Int32) (t_size : Int32) (a1 : Int32) : Option (Int32) :=
  if a1 < 0 then
    some ((0 : Int32))
  else
  if t_size < a1 then
    some ((0 : Int32))
  else
  if ck a1 (t_R + 1) = true then
  some (t_heights a1.toNatClampNeg)
  else none
def g_Listing_number (t_R : Nat) (t_numbers : Nat → Int32) (t_size : Int32) (a1 : Int32) : Option (Int32) :=
  (g_Listing_holds t_size a1).bind fun q1 =>
  if q1 = 0 then
    some ((-2 : Int32))
  else
  if ck a1 t_R = true then
  some (t_numbers a1.toNatClampNeg)
  else none
def g_Listing_op (t_R : Nat) (t_ops : Nat → Int32) (t_size : Int32) (a1 : Int32) : Option (Int32) :=
  (g_Listing_holds t_size a1).bind fun q1 =>
  if q1 = 0 then
    some ((-2 : Int32))
  else
  if ck a1 t_R = true then
  some (t_ops a1.toNatClampNeg)
  else none
def g_S_code (t_listing_ops : Nat → Int32) (t_listing_numbers : Nat → Int32) (t_listing_heights : Nat → Int32) (t_listing_size : Int32) (a1 : Int32) (a2 : Int32) : Option (Int32) :=
  if a2 < 0 then
    some ((-1 : Int32))
  else
  if a2 ≤ (2 : Int32) then
    if a2 = (2 : Int32) then
      (g_Listing_size t_listing_size).bind fun q3 =>
      if a1 = q3 then
        (g_Listing_heightBefore 30 t_listing_heights t_listing_size a1).bind fun q4 =>
        some (q4)
      else
      (g_Listing_holds t_listing_size a1).bind fun q5 =>
      if q5 = 0 then
        some ((-2 : Int32))
      else
      (g_Listing_heightBefore 30 t_listing_heights t_listing_size a1).bind fun q6 =>
      some (q6)
    else
    if a2 = 0 then
      (g_Listing_op 30 t_listing_ops t_listing_size a1).bind fun q2 =>
      some (q2)
    else
    (g_Listing_number 30 t_listing_numbers t_listing_size a1).bind fun q1 =>
    some (q1)
  else
  some ((-1 : Int32))
def g_Listing_isLanding (t_R : Nat) (t_heights : Nat → Int32) (t_size : Int32) (a1 : Int32) : Option (Int32) :=
  if t_size < a1 then
    some ((0 : Int32))
  else
  (g_Listing_heightBefore t_R t_heights t_size a1).bind fun q1 =>
  if q1 = 0 then
    some ((1 : Int32))
  else
  some ((0 : Int32))
def g_Listing_isWrong (t_R : Nat) (t_ops : Nat → Int32) (t_numbers : Nat → Int32) (t_heights : Nat → Int32) (t_size : Int32) (a1 : Int32) : Option (Int32) :=
  (g_Listing_heightBefore t_R t_heights t_size a1).bind fun q1 =>
  (g_Listing_op t_R t_ops t_size a1).bind fun q2 =>
  if q2 = (0 : Int32) then
    if q1 < (8 : Int32) then
      some ((0 : Int32))
    else
    some ((1 : Int32))
  else if q2 = (1 : Int32) then
    if q1 < (8 : Int32) then
      some ((0 : Int32))
    else
    some ((1 : Int32))
  else if q2 = (3 : Int32) then
    if (2 : Int32) ≤ q1 then
      some ((0 : Int32))
    else
    some ((1 : Int32))
  else if q2 = (4 : Int32) then
    if (2 : Int32) ≤ q1 then
      some ((0 : Int32))
    else
    some ((1 : Int32))
  else if q2 = (5 : Int32) then
    if (2 : Int32) ≤ q1 then
      some ((0 : Int32))
    else
    some ((1 : Int32))
  else if q2 = (6 : Int32) then
    if (2 : Int32) ≤ q1 then
      some ((0 : Int32))
    else
    some ((1 : Int32))
  else if q2 = (7 : Int32) then
    if (1 : Int32) ≤ q1 then
      some ((0 : Int32))
    else
    some ((1 : Int32))
  else if q2 = (8 : Int32) then
    if q1 = 0 then
      (g_Listing_number t_R t_numbers t_size a1).bind fun q3 =>
      (g_Listing_isLanding t_R t_heights t_size q3).bind fun q4 =>
      if q4 = 0 then
        some ((1 : Int32))
      else
      some ((0 : Int32))
    else
    some ((1 : Int32))
  else if q2 = (9 : Int32) then
    if q1 = (1 : Int32) then
      (g_Listing_number t_R t_numbers t_size a1).bind fun q5 =>
      (g_Listing_isLanding t_R t_heights t_size q5).bind fun q6 =>
      if q6 = 0 then
        some ((1 : Int32))
      else
      some ((0 : Int32))
    else
    some ((1 : Int32))
  else if q1 = (1 : Int32) then
    some ((0 : Int32))
  else
  some ((1 : Int32))
def b_Listing_leastWrong_2 (t_R : Nat) (t_ops : Nat → Int32) (t_numbers : Nat → Int32) (t_heights : Nat → Int32) (t_size : Int32) : Nat → Int32 → Option (Int32)
  | 0, _ => none
  | n + 1, v1 =>
    if t_size ≤ v1 then
      (g_Listing_heightBefore t_R t_heights t_size t_size).bind fun q1 =>
      if q1 = 0 then
        some ((-2 : Int32))
      else
      some (t_size)
    else
    (g_Listing_isWrong t_R t_ops t_numbers t_heights t_size v1).bind fun q2 =>
    if q2 = 0 then
      b_Listing_leastWrong_2 t_R t_ops t_numbers t_heights t_size n (v1 + (1 : Int32))
    else
    some (v1)
def g_Listing_leastWrong (t_R : Nat) (t_ops : Nat → Int32) (t_numbers : Nat → Int32) (t_heights : Nat → Int32) (t_size : Int32) : Option (Int32) :=
  b_Listing_leastWrong_2 t_R t_ops t_numbers t_heights t_size 500 (0 : Int32)
def g_S_verify (t_listing_ops : Nat → Int32) (t_listing_numbers : Nat → Int32) (t_listing_heights : Nat → Int32) (t_listing_size : Int32) : Option (Int32) :=
  (g_Listing_leastWrong 30 t_listing_ops t_listing_numbers t_listing_heights t_listing_size).bind fun q1 =>
  some (q1)
def g_Characters_add (t_R : Nat) (t_row : Nat → Int32) (t_size : Int32) (a1 : Int32) : Option (Int32 × (Nat → Int32) × Int32) :=
  if t_size < (nI t_R) then
    if ck t_size t_R = true then
    some ((1 : Int32), upd t_row t_size.toNatClampNeg (vp_nar .char (gc a1)), t_size + (1 : Int32))
    else none
  else
  some ((0 : Int32), t_row, t_size)
def g_Scribe_signOfStatement (a0 : Int32) : Option (Int32) :=
  if a0 = (2 : Int32) then
    some ((61 : Int32))
  else if a0 = (10 : Int32) then
    some ((35 : Int32))
  else if a0 = (11 : Int32) then
    some ((64 : Int32))
  else some ((63 : Int32))
def g_Scribe_signOfOp (a0 : Int32) : Option (Int32) :=
  if a0 = (3 : Int32) then
    some ((43 : Int32))
  else if a0 = (4 : Int32) then
    some ((45 : Int32))
  else if a0 = (5 : Int32) then
    some ((42 : Int32))
  else some ((60 : Int32))
def g_Scribe_writeNumber (x1_R : Nat) (x1_row : Nat → Int32) (x1_size : Int32) (a1 : Int32) : Option ((Nat → Int32) × Int32) :=
  if a1 < (10 : Int32) then
    (g_Characters_add x1_R x1_row x1_size ((48 : Int32) + (a1 - a1 / (10 : Int32) * (10 : Int32)))).bind fun q1 =>
    some (q1.2.1, q1.2.2)
  else
  (g_Characters_add x1_R x1_row x1_size ((48 : Int32) + (a1 / (10 : Int32)))).bind fun q2 =>
  (g_Characters_add x1_R q2.2.1 q2.2.2 ((48 : Int32) + (a1 - a1 / (10 : Int32) * (10 : Int32)))).bind fun q3 =>
  some (q3.2.1, q3.2.2)
def g_Tree_leftOf (t_begins : Nat → Int32) (a1 : Int32) : Option (Int32) :=
  if a1 < (1 : Int32) then
    some ((-1 : Int32))
  else
  if (30 : Int32) < a1 then
    some ((-1 : Int32))
  else
  if ck (a1 - (1 : Int32)) 30 = true then
  some ((t_begins (a1 - (1 : Int32)).toNatClampNeg) - (1 : Int32))
  else none
def g_Tree_source : Option (Unit) :=
  some ()
def gb_Scribe_writeExpression (f_Scribe_writeExpression : Nat → (Nat → Int32) → (Nat → Int32) → Int32 → (Nat → Int32) → (Nat → Int32) → Int32 → Int32 → Int32 → Option ((Nat → Int32) × Int32)) (x2_R : Nat) (x1_source_ops : Nat → Int32) (x1_source_numbers : Nat → Int32) (x1_source_size : Int32) (x1_begins : Nat → Int32) (x2_row : Nat → Int32) (x2_size : Int32) (a2 : Int32) (a3 : Int32) : Option ((Nat → Int32) × Int32) :=
  (g_Listing_holds x1_source_size a2).bind fun q2 =>
  if q2 = 0 then
    some (x2_row, x2_size)
  else
  if a3 ≤ (30 : Int32) then
    (g_Listing_op 30 x1_source_ops x1_source_size a2).bind fun q4 =>
    if q4 = 0 then
      (g_Listing_number 30 x1_source_numbers x1_source_size a2).bind fun q18 =>
      (g_Scribe_writeNumber x2_R x2_row x2_size q18).bind fun q19 =>
      some (q19.1, q19.2)
    else
    if q4 = (1 : Int32) then
      (g_Listing_number 30 x1_source_numbers x1_source_size a2).bind fun q15 =>
      (g_Characters_add x2_R x2_row x2_size ((97 : Int32) + q15)).bind fun q16 =>
      some (q16.2.1, q16.2.2)
    else
    if q4 = (7 : Int32) then
      (g_Characters_add x2_R x2_row x2_size (33 : Int32)).bind fun q12 =>
      (f_Scribe_writeExpression x2_R x1_source_ops x1_source_numbers x1_source_size x1_begins q12.2.1 q12.2.2 (a2 - (1 : Int32)) (a3 + (1 : Int32))).bind fun q13 =>
      some (q13.1, q13.2)
    else
    (g_Characters_add x2_R x2_row x2_size (40 : Int32)).bind fun q5 =>
    (g_Tree_leftOf x1_begins a2).bind fun q6 =>
    (f_Scribe_writeExpression x2_R x1_source_ops x1_source_numbers x1_source_size x1_begins q5.2.1 q5.2.2 q6 (a3 + (1 : Int32))).bind fun q7 =>
    (g_Scribe_signOfOp q4).bind fun q8 =>
    (g_Characters_add x2_R q7.1 q7.2 q8).bind fun q9 =>
    (f_Scribe_writeExpression x2_R x1_source_ops x1_source_numbers x1_source_size x1_begins q9.2.1 q9.2.2 (a2 - (1 : Int32)) (a3 + (1 : Int32))).bind fun q10 =>
    (g_Characters_add x2_R q10.1 q10.2 (41 : Int32)).bind fun q11 =>
    some (q11.2.1, q11.2.2)
  else
  some (x2_row, x2_size)
def gg_Scribe_writeExpression : Nat → (Nat → (Nat → Int32) → (Nat → Int32) → Int32 → (Nat → Int32) → (Nat → Int32) → Int32 → Int32 → Int32 → Option ((Nat → Int32) × Int32))
  | 0 => (fun _ _ _ _ _ _ _ _ _ => none)
  | n + 1 => (gb_Scribe_writeExpression (gg_Scribe_writeExpression n))
abbrev g_Scribe_writeExpression (n : Nat) : Nat → (Nat → Int32) → (Nat → Int32) → Int32 → (Nat → Int32) → (Nat → Int32) → Int32 → Int32 → Int32 → Option ((Nat → Int32) × Int32) := (gg_Scribe_writeExpression n)
def g_Tree_holds (t_size : Int32) (a1 : Int32) : Option (Int32) :=
  if a1 < 0 then
    some ((0 : Int32))
  else
  if t_size ≤ a1 then
    some ((0 : Int32))
  else
  some ((1 : Int32))
def g_Tree_kind (t_kinds : Nat → Int32) (t_size : Int32) (a1 : Int32) : Option (Int32) :=
  (g_Tree_holds t_size a1).bind fun q1 =>
  if q1 = 0 then
    some ((-1 : Int32))
  else
  if ck a1 15 = true then
  some (t_kinds a1.toNatClampNeg)
  else none
def g_Tree_mark (t_marks : Nat → Int32) (t_size : Int32) (a1 : Int32) : Option (Int32) :=
  (g_Tree_holds t_size a1).bind fun q1 =>
  if q1 = 0 then
    some ((0 : Int32))
  else
  if ck a1 15 = true then
  some (t_marks a1.toNatClampNeg)
  else none
def g_Tree_other (t_others : Nat → Int32) (t_size : Int32) (a1 : Int32) : Option (Int32) :=
  (g_Tree_holds t_size a1).bind fun q1 =>
  if q1 = 0 then
    some ((-1 : Int32))
  else
  if ck a1 15 = true then
  some (t_others a1.toNatClampNeg)
  else none
def g_Tree_part (t_parts : Nat → Int32) (t_size : Int32) (a1 : Int32) : Option (Int32) :=
  (g_Tree_holds t_size a1).bind fun q1 =>
  if q1 = 0 then
    some ((-1 : Int32))
  else
  if ck a1 15 = true then
  some (t_parts a1.toNatClampNeg)
  else none
def g_Tree_follower (t_followers : Nat → Int32) (t_size : Int32) (a1 : Int32) : Option (Int32) :=
  (g_Tree_holds t_size a1).bind fun q1 =>
  if q1 = 0 then
    some ((-1 : Int32))
  else
  if ck a1 15 = true then
  some (t_followers a1.toNatClampNeg)
  else none
def b_Scribe_writeFrom_13 (f_Scribe_writeStatement : Nat → (Nat → Int32) → (Nat → Int32) → Int32 → (Nat → Int32) → (Nat → Int32) → (Nat → Int32) → (Nat → Int32) → (Nat → Int32) → (Nat → Int32) → Int32 → (Nat → Int32) → Int32 → Int32 → Int32 → Option ((Nat → Int32) × Int32)) (x2_R : Nat) (x1_source_ops : Nat → Int32) (x1_source_numbers : Nat → Int32) (x1_source_size : Int32) (x1_kinds : Nat → Int32) (x1_marks : Nat → Int32) (x1_parts : Nat → Int32) (x1_others : Nat → Int32) (x1_followers : Nat → Int32) (x1_begins : Nat → Int32) (x1_size : Int32) : Nat → (Nat → Int32) → Int32 → Int32 → Int32 → Int32 → Option ((Nat → Int32) × Int32)
  | 0, _, _, _, _, _ => none
  | n + 1, x2_row, x2_size, v3, v4, v5 =>
    if (15 : Int32) ≤ v5 then
      some (x2_row, x2_size)
    else
    (g_Tree_holds x1_size v4).bind fun q1 =>
    if q1 = 0 then
      some (x2_row, x2_size)
    else
    (f_Scribe_writeStatement x2_R x1_source_ops x1_source_numbers x1_source_size x1_kinds x1_marks x1_parts x1_others x1_followers x1_begins x1_size x2_row x2_size v4 v3).bind fun q2 =>
    (g_Tree_follower x1_followers x1_size v4).bind fun q3 =>
    b_Scribe_writeFrom_13 f_Scribe_writeStatement x2_R x1_source_ops x1_source_numbers x1_source_size x1_kinds x1_marks x1_parts x1_others x1_followers x1_begins x1_size n q2.1 q2.2 v3 q3 (v5 + (1 : Int32))
def gb_Scribe_writeFrom (f_Scribe_writeStatement : Nat → (Nat → Int32) → (Nat → Int32) → Int32 → (Nat → Int32) → (Nat → Int32) → (Nat → Int32) → (Nat → Int32) → (Nat → Int32) → (Nat → Int32) → Int32 → (Nat → Int32) → Int32 → Int32 → Int32 → Option ((Nat → Int32) × Int32)) (x2_R : Nat) (x1_source_ops : Nat → Int32) (x1_source_numbers : Nat → Int32) (x1_source_size : Int32) (x1_kinds : Nat → Int32) (x1_marks : Nat → Int32) (x1_parts : Nat → Int32) (x1_others : Nat → Int32) (x1_followers : Nat → Int32) (x1_begins : Nat → Int32) (x1_size : Int32) (x2_row : Nat → Int32) (x2_size : Int32) (a2 : Int32) (a3 : Int32) : Option ((Nat → Int32) × Int32) :=
  if a3 ≤ (15 : Int32) then
    b_Scribe_writeFrom_13 f_Scribe_writeStatement x2_R x1_source_ops x1_source_numbers x1_source_size x1_kinds x1_marks x1_parts x1_others x1_followers x1_begins x1_size 500 x2_row x2_size a3 a2 (0 : Int32)
  else
  some (x2_row, x2_size)
def b_Scribe_writeStatement_37 (f_Scribe_writeBlock : Nat → (Nat → Int32) → (Nat → Int32) → Int32 → (Nat → Int32) → (Nat → Int32) → (Nat → Int32) → (Nat → Int32) → (Nat → Int32) → (Nat → Int32) → Int32 → (Nat → Int32) → Int32 → Int32 → Int32 → Option ((Nat → Int32) × Int32)) (x2_R : Nat) (x1_source_ops : Nat → Int32) (x1_source_numbers : Nat → Int32) (x1_source_size : Int32) (x1_kinds : Nat → Int32) (x1_marks : Nat → Int32) (x1_parts : Nat → Int32) (x1_others : Nat → Int32) (x1_followers : Nat → Int32) (x1_begins : Nat → Int32) (x1_size : Int32) (x2_row : Nat → Int32) (x2_size : Int32) (v2 : Int32) (v3 : Int32) (v4 : Int32) (v5 : Int32) : Option ((Nat → Int32) × Int32) :=
  (g_Scribe_signOfStatement v4).bind fun q1 =>
  (g_Characters_add x2_R x2_row x2_size q1).bind fun q2 =>
  (g_Scribe_writeExpression 100 x2_R x1_source_ops x1_source_numbers x1_source_size x1_begins q2.2.1 q2.2.2 (v5 - (1 : Int32)) (0 : Int32)).bind fun q3 =>
  if v4 = (2 : Int32) then
    (g_Characters_add x2_R q3.1 q3.2 (59 : Int32)).bind fun q4 =>
    some (q4.2.1, q4.2.2)
  else
  if v4 = (10 : Int32) then
    (g_Characters_add x2_R q3.1 q3.2 (59 : Int32)).bind fun q10 =>
    some (q10.2.1, q10.2.2)
  else
  (g_Tree_part x1_parts x1_size v2).bind fun q5 =>
  (f_Scribe_writeBlock x2_R x1_source_ops x1_source_numbers x1_source_size x1_kinds x1_marks x1_parts x1_others x1_followers x1_begins x1_size q3.1 q3.2 q5 v3).bind fun q6 =>
  if v4 = (13 : Int32) then
    (g_Characters_add x2_R q6.1 q6.2 (58 : Int32)).bind fun q7 =>
    (g_Tree_other x1_others x1_size v2).bind fun q8 =>
    (f_Scribe_writeBlock x2_R x1_source_ops x1_source_numbers x1_source_size x1_kinds x1_marks x1_parts x1_others x1_followers x1_begins x1_size q7.2.1 q7.2.2 q8 v3).bind fun q9 =>
    some (q9.1, q9.2)
  else
  some (q6.1, q6.2)
def gb_Scribe_writeStatement (f_Scribe_writeBlock : Nat → (Nat → Int32) → (Nat → Int32) → Int32 → (Nat → Int32) → (Nat → Int32) → (Nat → Int32) → (Nat → Int32) → (Nat → Int32) → (Nat → Int32) → Int32 → (Nat → Int32) → Int32 → Int32 → Int32 → Option ((Nat → Int32) × Int32)) (x2_R : Nat) (x1_source_ops : Nat → Int32) (x1_source_numbers : Nat → Int32) (x1_source_size : Int32) (x1_kinds : Nat → Int32) (x1_marks : Nat → Int32) (x1_parts : Nat → Int32) (x1_others : Nat → Int32) (x1_followers : Nat → Int32) (x1_begins : Nat → Int32) (x1_size : Int32) (x2_row : Nat → Int32) (x2_size : Int32) (a2 : Int32) (a3 : Int32) : Option ((Nat → Int32) × Int32) :=
  (g_Tree_kind x1_kinds x1_size a2).bind fun q1 =>
  (g_Tree_mark x1_marks x1_size a2).bind fun q2 =>
  if q1 = (2 : Int32) then
    (g_Listing_number 30 x1_source_numbers x1_source_size q2).bind fun q4 =>
    (g_Characters_add x2_R x2_row x2_size ((97 : Int32) + q4)).bind fun q5 =>
    b_Scribe_writeStatement_37 f_Scribe_writeBlock x2_R x1_source_ops x1_source_numbers x1_source_size x1_kinds x1_marks x1_parts x1_others x1_followers x1_begins x1_size q5.2.1 q5.2.2 a2 a3 q1 q2
  else
  b_Scribe_writeStatement_37 f_Scribe_writeBlock x2_R x1_source_ops x1_source_numbers x1_source_size x1_kinds x1_marks x1_parts x1_others x1_followers x1_begins x1_size x2_row x2_size a2 a3 q1 q2
def gb_Scribe_writeBlock (f_Scribe_writeFrom : Nat → (Nat → Int32) → (Nat → Int32) → Int32 → (Nat → Int32) → (Nat → Int32) → (Nat → Int32) → (Nat → Int32) → (Nat → Int32) → (Nat → Int32) → Int32 → (Nat → Int32) → Int32 → Int32 → Int32 → Option ((Nat → Int32) × Int32)) (x2_R : Nat) (x1_source_ops : Nat → Int32) (x1_source_numbers : Nat → Int32) (x1_source_size : Int32) (x1_kinds : Nat → Int32) (x1_marks : Nat → Int32) (x1_parts : Nat → Int32) (x1_others : Nat → Int32) (x1_followers : Nat → Int32) (x1_begins : Nat → Int32) (x1_size : Int32) (x2_row : Nat → Int32) (x2_size : Int32) (a2 : Int32) (a3 : Int32) : Option ((Nat → Int32) × Int32) :=
  (g_Characters_add x2_R x2_row x2_size (123 : Int32)).bind fun q1 =>
  (f_Scribe_writeFrom x2_R x1_source_ops x1_source_numbers x1_source_size x1_kinds x1_marks x1_parts x1_others x1_followers x1_begins x1_size q1.2.1 q1.2.2 a2 (a3 + (1 : Int32))).bind fun q2 =>
  (g_Characters_add x2_R q2.1 q2.2 (125 : Int32)).bind fun q3 =>
  some (q3.2.1, q3.2.2)
def gg_Scribe_writeFrom : Nat → (Nat → (Nat → Int32) → (Nat → Int32) → Int32 → (Nat → Int32) → (Nat → Int32) → (Nat → Int32) → (Nat → Int32) → (Nat → Int32) → (Nat → Int32) → Int32 → (Nat → Int32) → Int32 → Int32 → Int32 → Option ((Nat → Int32) × Int32)) × (Nat → (Nat → Int32) → (Nat → Int32) → Int32 → (Nat → Int32) → (Nat → Int32) → (Nat → Int32) → (Nat → Int32) → (Nat → Int32) → (Nat → Int32) → Int32 → (Nat → Int32) → Int32 → Int32 → Int32 → Option ((Nat → Int32) × Int32)) × (Nat → (Nat → Int32) → (Nat → Int32) → Int32 → (Nat → Int32) → (Nat → Int32) → (Nat → Int32) → (Nat → Int32) → (Nat → Int32) → (Nat → Int32) → Int32 → (Nat → Int32) → Int32 → Int32 → Int32 → Option ((Nat → Int32) × Int32))
  | 0 => (fun _ _ _ _ _ _ _ _ _ _ _ _ _ _ _ => none, fun _ _ _ _ _ _ _ _ _ _ _ _ _ _ _ => none, fun _ _ _ _ _ _ _ _ _ _ _ _ _ _ _ => none)
  | n + 1 => (gb_Scribe_writeFrom (gg_Scribe_writeFrom n).2.1, gb_Scribe_writeStatement (gg_Scribe_writeFrom n).2.2, gb_Scribe_writeBlock (gg_Scribe_writeFrom n).1)
abbrev g_Scribe_writeFrom (n : Nat) : Nat → (Nat → Int32) → (Nat → Int32) → Int32 → (Nat → Int32) → (Nat → Int32) → (Nat → Int32) → (Nat → Int32) → (Nat → Int32) → (Nat → Int32) → Int32 → (Nat → Int32) → Int32 → Int32 → Int32 → Option ((Nat → Int32) × Int32) := (gg_Scribe_writeFrom n).1
abbrev g_Scribe_writeStatement (n : Nat) : Nat → (Nat → Int32) → (Nat → Int32) → Int32 → (Nat → Int32) → (Nat → Int32) → (Nat → Int32) → (Nat → Int32) → (Nat → Int32) → (Nat → Int32) → Int32 → (Nat → Int32) → Int32 → Int32 → Int32 → Option ((Nat → Int32) × Int32) := (gg_Scribe_writeFrom n).2.1
abbrev g_Scribe_writeBlock (n : Nat) : Nat → (Nat → Int32) → (Nat → Int32) → Int32 → (Nat → Int32) → (Nat → Int32) → (Nat → Int32) → (Nat → Int32) → (Nat → Int32) → (Nat → Int32) → Int32 → (Nat → Int32) → Int32 → Int32 → Int32 → Option ((Nat → Int32) × Int32) := (gg_Scribe_writeFrom n).2.2
def g_Tree_first (t_size : Int32) : Option (Int32) :=
  if t_size ≤ 0 then
    some ((-1 : Int32))
  else
  some ((0 : Int32))
def g_Scribe_write (x2_R : Nat) (x1_source_ops : Nat → Int32) (x1_source_numbers : Nat → Int32) (x1_source_size : Int32) (x1_kinds : Nat → Int32) (x1_marks : Nat → Int32) (x1_parts : Nat → Int32) (x1_others : Nat → Int32) (x1_followers : Nat → Int32) (x1_begins : Nat → Int32) (x1_size : Int32) (x2_row : Nat → Int32) (x2_size : Int32) : Option ((Nat → Int32) × Int32) :=
  (g_Characters_drop x2_size).bind fun q1 =>
  (g_Tree_first x1_size).bind fun q2 =>
  (g_Scribe_writeFrom 100 x2_R x1_source_ops x1_source_numbers x1_source_size x1_kinds x1_marks x1_parts x1_others x1_followers x1_begins x1_size x2_row q1 q2 (0 : Int32)).bind fun q3 =>
  some (q3.1, q3.2)
def g_Tree_drop (t_size : Int32) (t_depth : Int32) (t_stands : Int32) : Option (Int32 × Int32 × Int32) :=
  some ((0 : Int32), (0 : Int32), (0 : Int32))
def g_Listing_become (t_R : Nat) (x1_R : Nat) (t_ops : Nat → Int32) (t_numbers : Nat → Int32) (t_heights : Nat → Int32) (t_size : Int32) (x1_ops : Nat → Int32) (x1_numbers : Nat → Int32) (x1_heights : Nat → Int32) (x1_size : Int32) : Option ((Nat → Int32) × (Nat → Int32) × (Nat → Int32) × Int32) :=
  if cpok .int x1_R t_R x1_ops (0 : Int32) (0 : Int32) (if (nI t_R) < x1_size then nI t_R else x1_size) = true then
  if cpok .int x1_R t_R x1_numbers (0 : Int32) (0 : Int32) (if (nI t_R) < x1_size then nI t_R else x1_size) = true then
  if cpok .int (x1_R + 1) (t_R + 1) x1_heights (0 : Int32) (0 : Int32) ((if (nI t_R) < x1_size then nI t_R else x1_size) + (1 : Int32)) = true then
  some (va_cpy x1_ops t_ops (0 : Int32).toNatClampNeg (0 : Int32).toNatClampNeg (if (nI t_R) < x1_size then nI t_R else x1_size).toNatClampNeg, va_cpy x1_numbers t_numbers (0 : Int32).toNatClampNeg (0 : Int32).toNatClampNeg (if (nI t_R) < x1_size then nI t_R else x1_size).toNatClampNeg, va_cpy x1_heights t_heights (0 : Int32).toNatClampNeg (0 : Int32).toNatClampNeg ((if (nI t_R) < x1_size then nI t_R else x1_size) + (1 : Int32)).toNatClampNeg, if (nI t_R) < x1_size then nI t_R else x1_size)
  else none
  else none
  else none
def g_Tree_tie (t_knot : Int32) (a1 : Int32) : Option (Int32 × Int32) :=
  some ((-1 : Int32), a1)
def g_Tree_add (t_kinds : Nat → Int32) (t_froms : Nat → Int32) (t_marks : Nat → Int32) (t_ends : Nat → Int32) (t_parts : Nat → Int32) (t_others : Nat → Int32) (t_followers : Nat → Int32) (t_size : Int32) (t_depth : Int32) (t_knot : Int32) (a1 : Int32) (a2 : Int32) (a3 : Int32) (a4 : Int32) (a5 : Int32) : Option (Int32 × (Nat → Int32) × (Nat → Int32) × (Nat → Int32) × (Nat → Int32) × (Nat → Int32) × (Nat → Int32) × (Nat → Int32) × Int32 × Int32 × Int32) :=
  if (15 : Int32) ≤ t_size then
    (g_Tree_tie t_knot a3).bind fun q1 =>
    some (q1.1, t_kinds, t_froms, t_marks, t_ends, t_parts, t_others, t_followers, t_size, t_depth, q1.2)
  else
  if a5 ≤ (15 : Int32) then
    if ck t_size 15 = true then
    if ck t_size 15 = true then
    if ck t_size 15 = true then
    if ck t_size 15 = true then
    if ck t_size 15 = true then
    if ck t_size 15 = true then
    if ck t_size 15 = true then
    some (t_size, upd t_kinds t_size.toNatClampNeg a1, upd t_froms t_size.toNatClampNeg a2, upd t_marks t_size.toNatClampNeg a3, upd t_ends t_size.toNatClampNeg a4, upd t_parts t_size.toNatClampNeg (-1 : Int32), upd t_others t_size.toNatClampNeg (-1 : Int32), upd t_followers t_size.toNatClampNeg (-1 : Int32), t_size + (1 : Int32), if t_depth < a5 then a5 else t_depth, t_knot)
    else none
    else none
    else none
    else none
    else none
    else none
    else none
  else
  (g_Tree_tie t_knot a3).bind fun q2 =>
  some (q2.1, t_kinds, t_froms, t_marks, t_ends, t_parts, t_others, t_followers, t_size, t_depth, q2.2)
def g_Tree_beginOf (t_source_ops : Nat → Int32) (t_source_size : Int32) (t_begins : Nat → Int32) (a1 : Int32) : Option (Int32) :=
  (g_Listing_op 30 t_source_ops t_source_size a1).bind fun q1 =>
  if q1 = 0 then
    some (a1)
  else
  if q1 = (1 : Int32) then
    some (a1)
  else
  if q1 = (7 : Int32) then
    if (a1 - (1 : Int32)) < 0 then
      some ((0 : Int32))
    else
    if ck (a1 - (1 : Int32)) 30 = true then
    some (t_begins (a1 - (1 : Int32)).toNatClampNeg)
    else none
  else
  (g_Tree_leftOf t_begins a1).bind fun q2 =>
  if q2 < 0 then
    some ((0 : Int32))
  else
  if ck q2 30 = true then
  some (t_begins q2.toNatClampNeg)
  else none
def g_Tree_isPart (a0 : Int32) : Option (Int32) :=
  if a0 = (2 : Int32) then
    some ((0 : Int32))
  else
  if a0 = (10 : Int32) then
    some ((0 : Int32))
  else
  if a0 = (9 : Int32) then
    some ((0 : Int32))
  else
  if a0 = (8 : Int32) then
    some ((0 : Int32))
  else
  some ((1 : Int32))
def b_Tree_endOfExpression_2 (t_source_ops : Nat → Int32) (t_source_size : Int32) : Nat → (Nat → Int32) → Int32 → Option (Int32 × (Nat → Int32))
  | 0, _, _ => none
  | n + 1, t_begins, v2 =>
    (g_Listing_size t_source_size).bind fun q1 =>
    if q1 ≤ v2 then
      some (v2, t_begins)
    else
    (g_Listing_op 30 t_source_ops t_source_size v2).bind fun q2 =>
    (g_Tree_isPart q2).bind fun q3 =>
    if q3 = 0 then
      some (v2, t_begins)
    else
    (g_Tree_beginOf t_source_ops t_source_size t_begins v2).bind fun q4 =>
    if ck v2 30 = true then
    b_Tree_endOfExpression_2 t_source_ops t_source_size n (upd t_begins v2.toNatClampNeg q4) (v2 + (1 : Int32))
    else none
def g_Tree_endOfExpression (t_source_ops : Nat → Int32) (t_source_size : Int32) (t_begins : Nat → Int32) (a1 : Int32) : Option (Int32 × (Nat → Int32)) :=
  b_Tree_endOfExpression_2 t_source_ops t_source_size 500 t_begins a1
def b_Tree_grow_12 (f_Tree_growStatement : (Nat → Int32) → (Nat → Int32) → Int32 → (Nat → Int32) → (Nat → Int32) → (Nat → Int32) → (Nat → Int32) → (Nat → Int32) → (Nat → Int32) → (Nat → Int32) → (Nat → Int32) → Int32 → Int32 → Int32 → Int32 → Int32 → Int32 → Option (Int32 × (Nat → Int32) × (Nat → Int32) × (Nat → Int32) × (Nat → Int32) × (Nat → Int32) × (Nat → Int32) × (Nat → Int32) × (Nat → Int32) × Int32 × Int32 × Int32)) (t_source_ops : Nat → Int32) (t_source_numbers : Nat → Int32) (t_source_size : Int32) : Nat → (Nat → Int32) → (Nat → Int32) → (Nat → Int32) → (Nat → Int32) → (Nat → Int32) → (Nat → Int32) → (Nat → Int32) → (Nat → Int32) → Int32 → Int32 → Int32 → Int32 → Int32 → Int32 → Int32 → Int32 → Int32 → Option (Int32 × (Nat → Int32) × (Nat → Int32) × (Nat → Int32) × (Nat → Int32) × (Nat → Int32) × (Nat → Int32) × (Nat → Int32) × (Nat → Int32) × Int32 × Int32 × Int32)
  | 0, _, _, _, _, _, _, _, _, _, _, _, _, _, _, _, _, _ => none
  | n + 1, t_kinds, t_froms, t_marks, t_ends, t_parts, t_others, t_followers, t_begins, t_size, t_depth, t_knot, v2, v3, v4, v5, v6, v7 =>
    if (15 : Int32) ≤ v7 then
      some (v4, t_kinds, t_froms, t_marks, t_ends, t_parts, t_others, t_followers, t_begins, t_size, t_depth, t_knot)
    else
    if v2 ≤ v6 then
      some (v4, t_kinds, t_froms, t_marks, t_ends, t_parts, t_others, t_followers, t_begins, t_size, t_depth, t_knot)
    else
    (f_Tree_growStatement t_source_ops t_source_numbers t_source_size t_kinds t_froms t_marks t_ends t_parts t_others t_followers t_begins t_size t_depth t_knot v6 v2 v3).bind fun q1 =>
    if q1.1 = (-1 : Int32) then
      some (v4, q1.2.1, q1.2.2.1, q1.2.2.2.1, q1.2.2.2.2.1, q1.2.2.2.2.2.1, q1.2.2.2.2.2.2.1, q1.2.2.2.2.2.2.2.1, q1.2.2.2.2.2.2.2.2.1, q1.2.2.2.2.2.2.2.2.2.1, q1.2.2.2.2.2.2.2.2.2.2.1, q1.2.2.2.2.2.2.2.2.2.2.2)
    else
    if v5 = (-1 : Int32) then
      if ck q1.1 15 = true then
      b_Tree_grow_12 f_Tree_growStatement t_source_ops t_source_numbers t_source_size n q1.2.1 q1.2.2.1 q1.2.2.2.1 q1.2.2.2.2.1 q1.2.2.2.2.2.1 q1.2.2.2.2.2.2.1 q1.2.2.2.2.2.2.2.1 q1.2.2.2.2.2.2.2.2.1 q1.2.2.2.2.2.2.2.2.2.1 q1.2.2.2.2.2.2.2.2.2.2.1 q1.2.2.2.2.2.2.2.2.2.2.2 v2 v3 q1.1 q1.1 (q1.2.2.2.2.1 q1.1.toNatClampNeg) (v7 + (1 : Int32))
      else none
    else
    if ck v5 15 = true then
    if ck q1.1 15 = true then
    b_Tree_grow_12 f_Tree_growStatement t_source_ops t_source_numbers t_source_size n q1.2.1 q1.2.2.1 q1.2.2.2.1 q1.2.2.2.2.1 q1.2.2.2.2.2.1 q1.2.2.2.2.2.2.1 (upd q1.2.2.2.2.2.2.2.1 v5.toNatClampNeg q1.1) q1.2.2.2.2.2.2.2.2.1 q1.2.2.2.2.2.2.2.2.2.1 q1.2.2.2.2.2.2.2.2.2.2.1 q1.2.2.2.2.2.2.2.2.2.2.2 v2 v3 v4 q1.1 (q1.2.2.2.2.1 q1.1.toNatClampNeg) (v7 + (1 : Int32))
    else none
    else none
def gb_Tree_grow (f_Tree_growStatement : (Nat → Int32) → (Nat → Int32) → Int32 → (Nat → Int32) → (Nat → Int32) → (Nat → Int32) → (Nat → Int32) → (Nat → Int32) → (Nat → Int32) → (Nat → Int32) → (Nat → Int32) → Int32 → Int32 → Int32 → Int32 → Int32 → Int32 → Option (Int32 × (Nat → Int32) × (Nat → Int32) × (Nat → Int32) × (Nat → Int32) × (Nat → Int32) × (Nat → Int32) × (Nat → Int32) × (Nat → Int32) × Int32 × Int32 × Int32)) (t_source_ops : Nat → Int32) (t_source_numbers : Nat → Int32) (t_source_size : Int32) (t_kinds : Nat → Int32) (t_froms : Nat → Int32) (t_marks : Nat → Int32) (t_ends : Nat → Int32) (t_parts : Nat → Int32) (t_others : Nat → Int32) (t_followers : Nat → Int32) (t_begins : Nat → Int32) (t_size : Int32) (t_depth : Int32) (t_knot : Int32) (a1 : Int32) (a2 : Int32) (a3 : Int32) : Option (Int32 × (Nat → Int32) × (Nat → Int32) × (Nat → Int32) × (Nat → Int32) × (Nat → Int32) × (Nat → Int32) × (Nat → Int32) × (Nat → Int32) × Int32 × Int32 × Int32) :=
  b_Tree_grow_12 f_Tree_growStatement t_source_ops t_source_numbers t_source_size 500 t_kinds t_froms t_marks t_ends t_parts t_others t_followers t_begins t_size t_depth t_knot a2 a3 (-1 : Int32) (-1 : Int32) a1 (0 : Int32)
def gb_Tree_growStatement (f_Tree_growBranch : (Nat → Int32) → (Nat → Int32) → Int32 → (Nat → Int32) → (Nat → Int32) → (Nat → Int32) → (Nat → Int32) → (Nat → Int32) → (Nat → Int32) → (Nat → Int32) → (Nat → Int32) → Int32 → Int32 → Int32 → Int32 → Int32 → Int32 → Int32 → Option (Int32 × (Nat → Int32) × (Nat → Int32) × (Nat → Int32) × (Nat → Int32) × (Nat → Int32) × (Nat → Int32) × (Nat → Int32) × (Nat → Int32) × Int32 × Int32 × Int32)) (t_source_ops : Nat → Int32) (t_source_numbers : Nat → Int32) (t_source_size : Int32) (t_kinds : Nat → Int32) (t_froms : Nat → Int32) (t_marks : Nat → Int32) (t_ends : Nat → Int32) (t_parts : Nat → Int32) (t_others : Nat → Int32) (t_followers : Nat → Int32) (t_begins : Nat → Int32) (t_size : Int32) (t_depth : Int32) (t_knot : Int32) (a1 : Int32) (a2 : Int32) (a3 : Int32) : Option (Int32 × (Nat → Int32) × (Nat → Int32) × (Nat → Int32) × (Nat → Int32) × (Nat → Int32) × (Nat → Int32) × (Nat → Int32) × (Nat → Int32) × Int32 × Int32 × Int32) :=
  if t_knot = (-2 : Int32) then
    (g_Tree_endOfExpression t_source_ops t_source_size t_begins a1).bind fun q1 =>
    (g_Listing_op 30 t_source_ops t_source_size q1.1).bind fun q2 =>
    if q2 = (9 : Int32) then
      (f_Tree_growBranch t_source_ops t_source_numbers t_source_size t_kinds t_froms t_marks t_ends t_parts t_others t_followers q1.2 t_size t_depth t_knot a1 q1.1 a2 a3).bind fun q6 =>
      some (q6.1, q6.2.1, q6.2.2.1, q6.2.2.2.1, q6.2.2.2.2.1, q6.2.2.2.2.2.1, q6.2.2.2.2.2.2.1, q6.2.2.2.2.2.2.2.1, q6.2.2.2.2.2.2.2.2.1, q6.2.2.2.2.2.2.2.2.2.1, q6.2.2.2.2.2.2.2.2.2.2.1, q6.2.2.2.2.2.2.2.2.2.2.2)
    else
    if q2 = (2 : Int32) then
      (g_Tree_add t_kinds t_froms t_marks t_ends t_parts t_others t_followers t_size t_depth t_knot q2 a1 q1.1 (q1.1 + (1 : Int32)) a3).bind fun q3 =>
      some (q3.1, q3.2.1, q3.2.2.1, q3.2.2.2.1, q3.2.2.2.2.1, q3.2.2.2.2.2.1, q3.2.2.2.2.2.2.1, q3.2.2.2.2.2.2.2.1, q1.2, q3.2.2.2.2.2.2.2.2.1, q3.2.2.2.2.2.2.2.2.2.1, q3.2.2.2.2.2.2.2.2.2.2)
    else
    if q2 = (10 : Int32) then
      (g_Tree_add t_kinds t_froms t_marks t_ends t_parts t_others t_followers t_size t_depth t_knot q2 a1 q1.1 (q1.1 + (1 : Int32)) a3).bind fun q5 =>
      some (q5.1, q5.2.1, q5.2.2.1, q5.2.2.2.1, q5.2.2.2.2.1, q5.2.2.2.2.2.1, q5.2.2.2.2.2.2.1, q5.2.2.2.2.2.2.2.1, q1.2, q5.2.2.2.2.2.2.2.2.1, q5.2.2.2.2.2.2.2.2.2.1, q5.2.2.2.2.2.2.2.2.2.2)
    else
    (g_Tree_tie t_knot q1.1).bind fun q4 =>
    some (q4.1, t_kinds, t_froms, t_marks, t_ends, t_parts, t_others, t_followers, q1.2, t_size, t_depth, q4.2)
  else
  some ((-1 : Int32), t_kinds, t_froms, t_marks, t_ends, t_parts, t_others, t_followers, t_begins, t_size, t_depth, t_knot)
def b_Tree_growBranch_209 (f_Tree_grow : (Nat → Int32) → (Nat → Int32) → Int32 → (Nat → Int32) → (Nat → Int32) → (Nat → Int32) → (Nat → Int32) → (Nat → Int32) → (Nat → Int32) → (Nat → Int32) → (Nat → Int32) → Int32 → Int32 → Int32 → Int32 → Int32 → Int32 → Option (Int32 × (Nat → Int32) × (Nat → Int32) × (Nat → Int32) × (Nat → Int32) × (Nat → Int32) × (Nat → Int32) × (Nat → Int32) × (Nat → Int32) × Int32 × Int32 × Int32)) (t_source_ops : Nat → Int32) (t_source_numbers : Nat → Int32) (t_source_size : Int32) (t_kinds : Nat → Int32) (t_froms : Nat → Int32) (t_marks : Nat → Int32) (t_ends : Nat → Int32) (t_parts : Nat → Int32) (t_others : Nat → Int32) (t_followers : Nat → Int32) (t_begins : Nat → Int32) (t_size : Int32) (t_depth : Int32) (t_knot : Int32) (v4 : Int32) (v5 : Int32) (v8 : Int32) (v10 : Int32) (v12 : Int32) (k1 : Int32) (k3 : Int32) (k4 : Int32) : Option (Int32 × (Nat → Int32) × (Nat → Int32) × (Nat → Int32) × (Nat → Int32) × (Nat → Int32) × (Nat → Int32) × (Nat → Int32) × (Nat → Int32) × Int32 × Int32 × Int32) :=
  (f_Tree_grow t_source_ops t_source_numbers t_source_size t_kinds t_froms t_marks t_ends t_parts t_others t_followers t_begins t_size t_depth t_knot k3 k4 (v4 + (1 : Int32))).bind fun q1 =>
  if ck k1 15 = true then
  if v10 = 0 then
    some (v12, q1.2.1, q1.2.2.1, q1.2.2.2.1, q1.2.2.2.2.1, upd q1.2.2.2.2.2.1 k1.toNatClampNeg q1.1, q1.2.2.2.2.2.2.1, q1.2.2.2.2.2.2.2.1, q1.2.2.2.2.2.2.2.2.1, q1.2.2.2.2.2.2.2.2.2.1, q1.2.2.2.2.2.2.2.2.2.2.1, q1.2.2.2.2.2.2.2.2.2.2.2)
  else
  (f_Tree_grow t_source_ops t_source_numbers t_source_size q1.2.1 q1.2.2.1 q1.2.2.2.1 q1.2.2.2.2.1 (upd q1.2.2.2.2.2.1 k1.toNatClampNeg q1.1) q1.2.2.2.2.2.2.1 q1.2.2.2.2.2.2.2.1 q1.2.2.2.2.2.2.2.2.1 q1.2.2.2.2.2.2.2.2.2.1 q1.2.2.2.2.2.2.2.2.2.2.1 q1.2.2.2.2.2.2.2.2.2.2.2 v5 v8 (v4 + (1 : Int32))).bind fun q2 =>
  if ck v12 15 = true then
  some (v12, q2.2.1, q2.2.2.1, q2.2.2.2.1, q2.2.2.2.2.1, q2.2.2.2.2.2.1, upd q2.2.2.2.2.2.2.1 v12.toNatClampNeg q2.1, q2.2.2.2.2.2.2.2.1, q2.2.2.2.2.2.2.2.2.1, q2.2.2.2.2.2.2.2.2.2.1, q2.2.2.2.2.2.2.2.2.2.2.1, q2.2.2.2.2.2.2.2.2.2.2.2)
  else none
  else none
def b_Tree_growBranch_170 (f_Tree_grow : (Nat → Int32) → (Nat → Int32) → Int32 → (Nat → Int32) → (Nat → Int32) → (Nat → Int32) → (Nat → Int32) → (Nat → Int32) → (Nat → Int32) → (Nat → Int32) → (Nat → Int32) → Int32 → Int32 → Int32 → Int32 → Int32 → Int32 → Option (Int32 × (Nat → Int32) × (Nat → Int32) × (Nat → Int32) × (Nat → Int32) × (Nat → Int32) × (Nat → Int32) × (Nat → Int32) × (Nat → Int32) × Int32 × Int32 × Int32)) (t_source_ops : Nat → Int32) (t_source_numbers : Nat → Int32) (t_source_size : Int32) (t_kinds : Nat → Int32) (t_froms : Nat → Int32) (t_marks : Nat → Int32) (t_ends : Nat → Int32) (t_parts : Nat → Int32) (t_others : Nat → Int32) (t_followers : Nat → Int32) (t_begins : Nat → Int32) (t_size : Int32) (t_depth : Int32) (t_knot : Int32) (v2 : Int32) (v4 : Int32) (v5 : Int32) (v6 : Int32) (v8 : Int32) (v10 : Int32) (v11 : Int32) (k1 : Int32) (k2 : Int32) (k3 : Int32) (k4 : Int32) : Option (Int32 × (Nat → Int32) × (Nat → Int32) × (Nat → Int32) × (Nat → Int32) × (Nat → Int32) × (Nat → Int32) × (Nat → Int32) × (Nat → Int32) × Int32 × Int32 × Int32) :=
  (g_Tree_add t_kinds t_froms t_marks t_ends t_parts t_others t_followers t_size t_depth t_knot k1 k2 k3 k4 v4).bind fun q1 =>
  if q1.1 = (-1 : Int32) then
    some ((-1 : Int32), q1.2.1, q1.2.2.1, q1.2.2.2.1, q1.2.2.2.2.1, q1.2.2.2.2.2.1, q1.2.2.2.2.2.2.1, q1.2.2.2.2.2.2.2.1, t_begins, q1.2.2.2.2.2.2.2.2.1, q1.2.2.2.2.2.2.2.2.2.1, q1.2.2.2.2.2.2.2.2.2.2)
  else
  if v11 = (12 : Int32) then
    b_Tree_growBranch_209 f_Tree_grow t_source_ops t_source_numbers t_source_size q1.2.1 q1.2.2.1 q1.2.2.2.1 q1.2.2.2.2.1 q1.2.2.2.2.2.1 q1.2.2.2.2.2.2.1 q1.2.2.2.2.2.2.2.1 t_begins q1.2.2.2.2.2.2.2.2.1 q1.2.2.2.2.2.2.2.2.2.1 q1.2.2.2.2.2.2.2.2.2.2 v4 v5 v8 v10 q1.1 q1.1 (v2 + (1 : Int32)) v5
  else
  b_Tree_growBranch_209 f_Tree_grow t_source_ops t_source_numbers t_source_size q1.2.1 q1.2.2.1 q1.2.2.2.1 q1.2.2.2.2.1 q1.2.2.2.2.2.1 q1.2.2.2.2.2.2.1 q1.2.2.2.2.2.2.2.1 t_begins q1.2.2.2.2.2.2.2.2.1 q1.2.2.2.2.2.2.2.2.2.1 q1.2.2.2.2.2.2.2.2.2.2 v4 v5 v8 v10 q1.1 q1.1 (v2 + (1 : Int32)) v6
def b_Tree_growBranch_127 (f_Tree_grow : (Nat → Int32) → (Nat → Int32) → Int32 → (Nat → Int32) → (Nat → Int32) → (Nat → Int32) → (Nat → Int32) → (Nat → Int32) → (Nat → Int32) → (Nat → Int32) → (Nat → Int32) → Int32 → Int32 → Int32 → Int32 → Int32 → Int32 → Option (Int32 × (Nat → Int32) × (Nat → Int32) × (Nat → Int32) × (Nat → Int32) × (Nat → Int32) × (Nat → Int32) × (Nat → Int32) × (Nat → Int32) × Int32 × Int32 × Int32)) (t_source_ops : Nat → Int32) (t_source_numbers : Nat → Int32) (t_source_size : Int32) (t_kinds : Nat → Int32) (t_froms : Nat → Int32) (t_marks : Nat → Int32) (t_ends : Nat → Int32) (t_parts : Nat → Int32) (t_others : Nat → Int32) (t_followers : Nat → Int32) (t_begins : Nat → Int32) (t_size : Int32) (t_depth : Int32) (t_knot : Int32) (v1 : Int32) (v2 : Int32) (v4 : Int32) (v5 : Int32) (v6 : Int32) (v8 : Int32) (v9 : Int32) (k0 : Int32) : Option (Int32 × (Nat → Int32) × (Nat → Int32) × (Nat → Int32) × (Nat → Int32) × (Nat → Int32) × (Nat → Int32) × (Nat → Int32) × (Nat → Int32) × Int32 × Int32 × Int32) :=
  if v9 = 0 then
    if k0 = 0 then
      if k0 = 0 then
        b_Tree_growBranch_170 f_Tree_grow t_source_ops t_source_numbers t_source_size t_kinds t_froms t_marks t_ends t_parts t_others t_followers t_begins t_size t_depth t_knot v2 v4 v5 v6 v8 k0 (12 : Int32) (12 : Int32) v1 v2 v5
      else
      b_Tree_growBranch_170 f_Tree_grow t_source_ops t_source_numbers t_source_size t_kinds t_froms t_marks t_ends t_parts t_others t_followers t_begins t_size t_depth t_knot v2 v4 v5 v6 v8 k0 (12 : Int32) (12 : Int32) v1 v2 v8
    else
    if k0 = 0 then
      b_Tree_growBranch_170 f_Tree_grow t_source_ops t_source_numbers t_source_size t_kinds t_froms t_marks t_ends t_parts t_others t_followers t_begins t_size t_depth t_knot v2 v4 v5 v6 v8 k0 (13 : Int32) (13 : Int32) v1 v2 v5
    else
    b_Tree_growBranch_170 f_Tree_grow t_source_ops t_source_numbers t_source_size t_kinds t_froms t_marks t_ends t_parts t_others t_followers t_begins t_size t_depth t_knot v2 v4 v5 v6 v8 k0 (13 : Int32) (13 : Int32) v1 v2 v8
  else
  if k0 = 0 then
    b_Tree_growBranch_170 f_Tree_grow t_source_ops t_source_numbers t_source_size t_kinds t_froms t_marks t_ends t_parts t_others t_followers t_begins t_size t_depth t_knot v2 v4 v5 v6 v8 k0 (11 : Int32) (11 : Int32) v1 v2 v5
  else
  b_Tree_growBranch_170 f_Tree_grow t_source_ops t_source_numbers t_source_size t_kinds t_froms t_marks t_ends t_parts t_others t_followers t_begins t_size t_depth t_knot v2 v4 v5 v6 v8 k0 (11 : Int32) (11 : Int32) v1 v2 v8
def b_Tree_growBranch_97 (f_Tree_grow : (Nat → Int32) → (Nat → Int32) → Int32 → (Nat → Int32) → (Nat → Int32) → (Nat → Int32) → (Nat → Int32) → (Nat → Int32) → (Nat → Int32) → (Nat → Int32) → (Nat → Int32) → Int32 → Int32 → Int32 → Int32 → Int32 → Int32 → Option (Int32 × (Nat → Int32) × (Nat → Int32) × (Nat → Int32) × (Nat → Int32) × (Nat → Int32) × (Nat → Int32) × (Nat → Int32) × (Nat → Int32) × Int32 × Int32 × Int32)) (t_source_ops : Nat → Int32) (t_source_numbers : Nat → Int32) (t_source_size : Int32) (t_kinds : Nat → Int32) (t_froms : Nat → Int32) (t_marks : Nat → Int32) (t_ends : Nat → Int32) (t_parts : Nat → Int32) (t_others : Nat → Int32) (t_followers : Nat → Int32) (t_begins : Nat → Int32) (t_size : Int32) (t_depth : Int32) (t_knot : Int32) (v1 : Int32) (v2 : Int32) (v3 : Int32) (v4 : Int32) (v5 : Int32) (v6 : Int32) (v7 : Int32) (v8 : Int32) (k0 : Int32) : Option (Int32 × (Nat → Int32) × (Nat → Int32) × (Nat → Int32) × (Nat → Int32) × (Nat → Int32) × (Nat → Int32) × (Nat → Int32) × (Nat → Int32) × Int32 × Int32 × Int32) :=
  if v7 = 0 then
    b_Tree_growBranch_127 f_Tree_grow t_source_ops t_source_numbers t_source_size t_kinds t_froms t_marks t_ends t_parts t_others t_followers t_begins t_size t_depth t_knot v1 v2 v4 v5 v6 v8 k0 (0 : Int32)
  else
  if k0 = 0 then
    if v8 < v5 then
      b_Tree_growBranch_127 f_Tree_grow t_source_ops t_source_numbers t_source_size t_kinds t_froms t_marks t_ends t_parts t_others t_followers t_begins t_size t_depth t_knot v1 v2 v4 v5 v6 v8 k0 (0 : Int32)
    else
    if v3 < v8 then
      b_Tree_growBranch_127 f_Tree_grow t_source_ops t_source_numbers t_source_size t_kinds t_froms t_marks t_ends t_parts t_others t_followers t_begins t_size t_depth t_knot v1 v2 v4 v5 v6 v8 k0 (0 : Int32)
    else
    b_Tree_growBranch_127 f_Tree_grow t_source_ops t_source_numbers t_source_size t_kinds t_froms t_marks t_ends t_parts t_others t_followers t_begins t_size t_depth t_knot v1 v2 v4 v5 v6 v8 k0 (1 : Int32)
  else
  b_Tree_growBranch_127 f_Tree_grow t_source_ops t_source_numbers t_source_size t_kinds t_froms t_marks t_ends t_parts t_others t_followers t_begins t_size t_depth t_knot v1 v2 v4 v5 v6 v8 k0 (0 : Int32)
def b_Tree_growBranch_59 (f_Tree_grow : (Nat → Int32) → (Nat → Int32) → Int32 → (Nat → Int32) → (Nat → Int32) → (Nat → Int32) → (Nat → Int32) → (Nat → Int32) → (Nat → Int32) → (Nat → Int32) → (Nat → Int32) → Int32 → Int32 → Int32 → Int32 → Int32 → Int32 → Option (Int32 × (Nat → Int32) × (Nat → Int32) × (Nat → Int32) × (Nat → Int32) × (Nat → Int32) × (Nat → Int32) × (Nat → Int32) × (Nat → Int32) × Int32 × Int32 × Int32)) (t_source_ops : Nat → Int32) (t_source_numbers : Nat → Int32) (t_source_size : Int32) (t_kinds : Nat → Int32) (t_froms : Nat → Int32) (t_marks : Nat → Int32) (t_ends : Nat → Int32) (t_parts : Nat → Int32) (t_others : Nat → Int32) (t_followers : Nat → Int32) (t_begins : Nat → Int32) (t_size : Int32) (t_depth : Int32) (t_knot : Int32) (v1 : Int32) (v2 : Int32) (v3 : Int32) (v4 : Int32) (v5 : Int32) (v6 : Int32) (k0 : Int32) : Option (Int32 × (Nat → Int32) × (Nat → Int32) × (Nat → Int32) × (Nat → Int32) × (Nat → Int32) × (Nat → Int32) × (Nat → Int32) × (Nat → Int32) × Int32 × Int32 × Int32) :=
  if k0 = 0 then
    if k0 = 0 then
      b_Tree_growBranch_97 f_Tree_grow t_source_ops t_source_numbers t_source_size t_kinds t_froms t_marks t_ends t_parts t_others t_followers t_begins t_size t_depth t_knot v1 v2 v3 v4 v5 v6 k0 (-1 : Int32) (0 : Int32)
    else
    if (-1 : Int32) = v1 then
      b_Tree_growBranch_97 f_Tree_grow t_source_ops t_source_numbers t_source_size t_kinds t_froms t_marks t_ends t_parts t_others t_followers t_begins t_size t_depth t_knot v1 v2 v3 v4 v5 v6 k0 (-1 : Int32) (1 : Int32)
    else
    b_Tree_growBranch_97 f_Tree_grow t_source_ops t_source_numbers t_source_size t_kinds t_froms t_marks t_ends t_parts t_others t_followers t_begins t_size t_depth t_knot v1 v2 v3 v4 v5 v6 k0 (-1 : Int32) (0 : Int32)
  else
  (g_Listing_number 30 t_source_numbers t_source_size v6).bind fun q1 =>
  if k0 = 0 then
    b_Tree_growBranch_97 f_Tree_grow t_source_ops t_source_numbers t_source_size t_kinds t_froms t_marks t_ends t_parts t_others t_followers t_begins t_size t_depth t_knot v1 v2 v3 v4 v5 v6 k0 q1 (0 : Int32)
  else
  if q1 = v1 then
    b_Tree_growBranch_97 f_Tree_grow t_source_ops t_source_numbers t_source_size t_kinds t_froms t_marks t_ends t_parts t_others t_followers t_begins t_size t_depth t_knot v1 v2 v3 v4 v5 v6 k0 q1 (1 : Int32)
  else
  b_Tree_growBranch_97 f_Tree_grow t_source_ops t_source_numbers t_source_size t_kinds t_froms t_marks t_ends t_parts t_others t_followers t_begins t_size t_depth t_knot v1 v2 v3 v4 v5 v6 k0 q1 (0 : Int32)
def gb_Tree_growBranch (f_Tree_grow : (Nat → Int32) → (Nat → Int32) → Int32 → (Nat → Int32) → (Nat → Int32) → (Nat → Int32) → (Nat → Int32) → (Nat → Int32) → (Nat → Int32) → (Nat → Int32) → (Nat → Int32) → Int32 → Int32 → Int32 → Int32 → Int32 → Int32 → Option (Int32 × (Nat → Int32) × (Nat → Int32) × (Nat → Int32) × (Nat → Int32) × (Nat → Int32) × (Nat → Int32) × (Nat → Int32) × (Nat → Int32) × Int32 × Int32 × Int32)) (t_source_ops : Nat → Int32) (t_source_numbers : Nat → Int32) (t_source_size : Int32) (t_kinds : Nat → Int32) (t_froms : Nat → Int32) (t_marks : Nat → Int32) (t_ends : Nat → Int32) (t_parts : Nat → Int32) (t_others : Nat → Int32) (t_followers : Nat → Int32) (t_begins : Nat → Int32) (t_size : Int32) (t_depth : Int32) (t_knot : Int32) (a1 : Int32) (a2 : Int32) (a3 : Int32) (a4 : Int32) : Option (Int32 × (Nat → Int32) × (Nat → Int32) × (Nat → Int32) × (Nat → Int32) × (Nat → Int32) × (Nat → Int32) × (Nat → Int32) × (Nat → Int32) × Int32 × Int32 × Int32) :=
  (g_Listing_number 30 t_source_numbers t_source_size a2).bind fun q1 =>
  if q1 ≤ a2 then
    (g_Tree_tie t_knot a2).bind fun q2 =>
    some (q2.1, t_kinds, t_froms, t_marks, t_ends, t_parts, t_others, t_followers, t_begins, t_size, t_depth, q2.2)
  else
  if q1 ≤ a3 then
    if (q1 - (1 : Int32)) ≤ a2 then
      b_Tree_growBranch_59 f_Tree_grow t_source_ops t_source_numbers t_source_size t_kinds t_froms t_marks t_ends t_parts t_others t_followers t_begins t_size t_depth t_knot a1 a2 a3 a4 q1 (q1 - (1 : Int32)) (0 : Int32)
    else
    (g_Listing_op 30 t_source_ops t_source_size (q1 - (1 : Int32))).bind fun q3 =>
    if q3 = (8 : Int32) then
      b_Tree_growBranch_59 f_Tree_grow t_source_ops t_source_numbers t_source_size t_kinds t_froms t_marks t_ends t_parts t_others t_followers t_begins t_size t_depth t_knot a1 a2 a3 a4 q1 (q1 - (1 : Int32)) (1 : Int32)
    else
    b_Tree_growBranch_59 f_Tree_grow t_source_ops t_source_numbers t_source_size t_kinds t_froms t_marks t_ends t_parts t_others t_followers t_begins t_size t_depth t_knot a1 a2 a3 a4 q1 (q1 - (1 : Int32)) (0 : Int32)
  else
  (g_Tree_tie t_knot a2).bind fun q4 =>
  some (q4.1, t_kinds, t_froms, t_marks, t_ends, t_parts, t_others, t_followers, t_begins, t_size, t_depth, q4.2)
def gg_Tree_grow : Nat → ((Nat → Int32) → (Nat → Int32) → Int32 → (Nat → Int32) → (Nat → Int32) → (Nat → Int32) → (Nat → Int32) → (Nat → Int32) → (Nat → Int32) → (Nat → Int32) → (Nat → Int32) → Int32 → Int32 → Int32 → Int32 → Int32 → Int32 → Option (Int32 × (Nat → Int32) × (Nat → Int32) × (Nat → Int32) × (Nat → Int32) × (Nat → Int32) × (Nat → Int32) × (Nat → Int32) × (Nat → Int32) × Int32 × Int32 × Int32)) × ((Nat → Int32) → (Nat → Int32) → Int32 → (Nat → Int32) → (Nat → Int32) → (Nat → Int32) → (Nat → Int32) → (Nat → Int32) → (Nat → Int32) → (Nat → Int32) → (Nat → Int32) → Int32 → Int32 → Int32 → Int32 → Int32 → Int32 → Option (Int32 × (Nat → Int32) × (Nat → Int32) × (Nat → Int32) × (Nat → Int32) × (Nat → Int32) × (Nat → Int32) × (Nat → Int32) × (Nat → Int32) × Int32 × Int32 × Int32)) × ((Nat → Int32) → (Nat → Int32) → Int32 → (Nat → Int32) → (Nat → Int32) → (Nat → Int32) → (Nat → Int32) → (Nat → Int32) → (Nat → Int32) → (Nat → Int32) → (Nat → Int32) → Int32 → Int32 → Int32 → Int32 → Int32 → Int32 → Int32 → Option (Int32 × (Nat → Int32) × (Nat → Int32) × (Nat → Int32) × (Nat → Int32) × (Nat → Int32) × (Nat → Int32) × (Nat → Int32) × (Nat → Int32) × Int32 × Int32 × Int32))
  | 0 => (fun _ _ _ _ _ _ _ _ _ _ _ _ _ _ _ _ _ => none, fun _ _ _ _ _ _ _ _ _ _ _ _ _ _ _ _ _ => none, fun _ _ _ _ _ _ _ _ _ _ _ _ _ _ _ _ _ _ => none)
  | n + 1 => (gb_Tree_grow (gg_Tree_grow n).2.1, gb_Tree_growStatement (gg_Tree_grow n).2.2, gb_Tree_growBranch (gg_Tree_grow n).1)
abbrev g_Tree_grow (n : Nat) : (Nat → Int32) → (Nat → Int32) → Int32 → (Nat → Int32) → (Nat → Int32) → (Nat → Int32) → (Nat → Int32) → (Nat → Int32) → (Nat → Int32) → (Nat → Int32) → (Nat → Int32) → Int32 → Int32 → Int32 → Int32 → Int32 → Int32 → Option (Int32 × (Nat → Int32) × (Nat → Int32) × (Nat → Int32) × (Nat → Int32) × (Nat → Int32) × (Nat → Int32) × (Nat → Int32) × (Nat → Int32) × Int32 × Int32 × Int32) := (gg_Tree_grow n).1
abbrev g_Tree_growStatement (n : Nat) : (Nat → Int32) → (Nat → Int32) → Int32 → (Nat → Int32) → (Nat → Int32) → (Nat → Int32) → (Nat → Int32) → (Nat → Int32) → (Nat → Int32) → (Nat → Int32) → (Nat → Int32) → Int32 → Int32 → Int32 → Int32 → Int32 → Int32 → Option (Int32 × (Nat → Int32) × (Nat → Int32) × (Nat → Int32) × (Nat → Int32) × (Nat → Int32) × (Nat → Int32) × (Nat → Int32) × (Nat → Int32) × Int32 × Int32 × Int32) := (gg_Tree_grow n).2.1
abbrev g_Tree_growBranch (n : Nat) : (Nat → Int32) → (Nat → Int32) → Int32 → (Nat → Int32) → (Nat → Int32) → (Nat → Int32) → (Nat → Int32) → (Nat → Int32) → (Nat → Int32) → (Nat → Int32) → (Nat → Int32) → Int32 → Int32 → Int32 → Int32 → Int32 → Int32 → Int32 → Option (Int32 × (Nat → Int32) × (Nat → Int32) × (Nat → Int32) × (Nat → Int32) × (Nat → Int32) × (Nat → Int32) × (Nat → Int32) × (Nat → Int32) × Int32 × Int32 × Int32) := (gg_Tree_grow n).2.2
def g_Tree_make (x1_R : Nat) (t_source_ops : Nat → Int32) (t_source_numbers : Nat → Int32) (t_source_heights : Nat → Int32) (t_source_size : Int32) (t_kinds : Nat → Int32) (t_froms : Nat → Int32) (t_marks : Nat → Int32) (t_ends : Nat → Int32) (t_parts : Nat → Int32) (t_others : Nat → Int32) (t_followers : Nat → Int32) (t_begins : Nat → Int32) (t_size : Int32) (t_depth : Int32) (t_knot : Int32) (t_stands : Int32) (x1_ops : Nat → Int32) (x1_numbers : Nat → Int32) (x1_heights : Nat → Int32) (x1_size : Int32) : Option (Int32 × (Nat → Int32) × (Nat → Int32) × (Nat → Int32) × Int32 × (Nat → Int32) × (Nat → Int32) × (Nat → Int32) × (Nat → Int32) × (Nat → Int32) × (Nat → Int32) × (Nat → Int32) × (Nat → Int32) × Int32 × Int32 × Int32 × Int32) :=
  (g_Tree_drop t_size t_depth t_stands).bind fun q1 =>
  (g_Listing_become 30 x1_R t_source_ops t_source_numbers t_source_heights t_source_size x1_ops x1_numbers x1_heights x1_size).bind fun q2 =>
  (g_Listing_size q2.2.2.2).bind fun q3 =>
  (g_Tree_grow 100 q2.1 q2.2.1 q2.2.2.2 t_kinds t_froms t_marks t_ends t_parts t_others t_followers t_begins q1.1 q1.2.1 (-2 : Int32) (0 : Int32) q3 (1 : Int32)).bind fun q4 =>
  if q4.2.2.2.2.2.2.2.2.2.2.2 = (-2 : Int32) then
    some (q4.2.2.2.2.2.2.2.2.2.2.2, q2.1, q2.2.1, q2.2.2.1, q2.2.2.2, q4.2.1, q4.2.2.1, q4.2.2.2.1, q4.2.2.2.2.1, q4.2.2.2.2.2.1, q4.2.2.2.2.2.2.1, q4.2.2.2.2.2.2.2.1, q4.2.2.2.2.2.2.2.2.1, q4.2.2.2.2.2.2.2.2.2.1, q4.2.2.2.2.2.2.2.2.2.2.1, q4.2.2.2.2.2.2.2.2.2.2.2, (1 : Int32))
  else
  some (q4.2.2.2.2.2.2.2.2.2.2.2, q2.1, q2.2.1, q2.2.2.1, q2.2.2.2, q4.2.1, q4.2.2.1, q4.2.2.2.1, q4.2.2.2.2.1, q4.2.2.2.2.2.1, q4.2.2.2.2.2.2.1, q4.2.2.2.2.2.2.2.1, q4.2.2.2.2.2.2.2.2.1, q4.2.2.2.2.2.2.2.2.2.1, q4.2.2.2.2.2.2.2.2.2.2.1, q4.2.2.2.2.2.2.2.2.2.2.2, (0 : Int32))
def g_S_lift (t_listing_ops : Nat → Int32) (t_listing_numbers : Nat → Int32) (t_listing_heights : Nat → Int32) (t_listing_size : Int32) (t_written_row : Nat → Int32) (t_written_size : Int32) (t_tree_source_ops : Nat → Int32) (t_tree_source_numbers : Nat → Int32) (t_tree_source_heights : Nat → Int32) (t_tree_source_size : Int32) (t_tree_kinds : Nat → Int32) (t_tree_froms : Nat → Int32) (t_tree_marks : Nat → Int32) (t_tree_ends : Nat → Int32) (t_tree_parts : Nat → Int32) (t_tree_others : Nat → Int32) (t_tree_followers : Nat → Int32) (t_tree_begins : Nat → Int32) (t_tree_size : Int32) (t_tree_depth : Int32) (t_tree_knot : Int32) (t_tree_stands : Int32) (t_trouble : Int32) : Option (Int32 × (Nat → Int32) × Int32 × (Nat → Int32) × (Nat → Int32) × (Nat → Int32) × Int32 × (Nat → Int32) × (Nat → Int32) × (Nat → Int32) × (Nat → Int32) × (Nat → Int32) × (Nat → Int32) × (Nat → Int32) × (Nat → Int32) × Int32 × Int32 × Int32 × Int32 × Int32) :=
  (g_Tree_drop t_tree_size t_tree_depth t_tree_stands).bind fun q1 =>
  (g_Characters_drop t_written_size).bind fun q2 =>
  (g_Listing_leastWrong 30 t_listing_ops t_listing_numbers t_listing_heights t_listing_size).bind fun q3 =>
  if q3 = (-2 : Int32) then
    (g_Tree_make 30 t_tree_source_ops t_tree_source_numbers t_tree_source_heights t_tree_source_size t_tree_kinds t_tree_froms t_tree_marks t_tree_ends t_tree_parts t_tree_others t_tree_followers t_tree_begins q1.1 q1.2.1 t_tree_knot q1.2.2 t_listing_ops t_listing_numbers t_listing_heights t_listing_size).bind fun q4 =>
    if q4.1 = (-2 : Int32) then
      (g_Scribe_write 90 q4.2.1 q4.2.2.1 q4.2.2.2.2.1 q4.2.2.2.2.2.1 q4.2.2.2.2.2.2.2.1 q4.2.2.2.2.2.2.2.2.2.1 q4.2.2.2.2.2.2.2.2.2.2.1 q4.2.2.2.2.2.2.2.2.2.2.2.1 q4.2.2.2.2.2.2.2.2.2.2.2.2.1 q4.2.2.2.2.2.2.2.2.2.2.2.2.2.1 t_written_row q2).bind fun q5 =>
      (g_Characters_size q5.2).bind fun q6 =>
      some (q6, q5.1, q5.2, q4.2.1, q4.2.2.1, q4.2.2.2.1, q4.2.2.2.2.1, q4.2.2.2.2.2.1, q4.2.2.2.2.2.2.1, q4.2.2.2.2.2.2.2.1, q4.2.2.2.2.2.2.2.2.1, q4.2.2.2.2.2.2.2.2.2.1, q4.2.2.2.2.2.2.2.2.2.2.1, q4.2.2.2.2.2.2.2.2.2.2.2.1, q4.2.2.2.2.2.2.2.2.2.2.2.2.1, q4.2.2.2.2.2.2.2.2.2.2.2.2.2.1, q4.2.2.2.2.2.2.2.2.2.2.2.2.2.2.1, q4.2.2.2.2.2.2.2.2.2.2.2.2.2.2.2.1, q4.2.2.2.2.2.2.2.2.2.2.2.2.2.2.2.2, q4.1)
    else
    (g_Tree_drop q4.2.2.2.2.2.2.2.2.2.2.2.2.2.1 q4.2.2.2.2.2.2.2.2.2.2.2.2.2.2.1 q4.2.2.2.2.2.2.2.2.2.2.2.2.2.2.2.2).bind fun q7 =>
    some ((-5 : Int32), t_written_row, q2, q4.2.1, q4.2.2.1, q4.2.2.2.1, q4.2.2.2.2.1, q4.2.2.2.2.2.1, q4.2.2.2.2.2.2.1, q4.2.2.2.2.2.2.2.1, q4.2.2.2.2.2.2.2.2.1, q4.2.2.2.2.2.2.2.2.2.1, q4.2.2.2.2.2.2.2.2.2.2.1, q4.2.2.2.2.2.2.2.2.2.2.2.1, q4.2.2.2.2.2.2.2.2.2.2.2.2.1, q7.1, q7.2.1, q4.2.2.2.2.2.2.2.2.2.2.2.2.2.2.2.1, q7.2.2, q4.1)
  else
  some ((-4 : Int32), t_written_row, q2, t_tree_source_ops, t_tree_source_numbers, t_tree_source_heights, t_tree_source_size, t_tree_kinds, t_tree_froms, t_tree_marks, t_tree_ends, t_tree_parts, t_tree_others, t_tree_followers, t_tree_begins, q1.1, q1.2.1, t_tree_knot, q1.2.2, q3)
def g_Characters_at (t_R : Nat) (t_row : Nat → Int32) (t_size : Int32) (a1 : Int32) : Option (Int32) :=
  if a1 < 0 then
    some ((-2 : Int32))
  else
  if t_size ≤ a1 then
    some ((-2 : Int32))
  else
  if ck a1 t_R = true then
  some (t_row a1.toNatClampNeg)
  else none
def g_S_text (t_written_row : Nat → Int32) (t_written_size : Int32) (a1 : Int32) : Option (Int32) :=
  if a1 = (-1 : Int32) then
    (g_Characters_size t_written_size).bind fun q2 =>
    some (q2)
  else
  (g_Characters_at 90 t_written_row t_written_size a1).bind fun q1 =>
  some (q1)
def g_S_where (t_trouble : Int32) : Option (Int32) :=
  some (t_trouble)
def g_S_letter (t_draft_row_row : Nat → Int32) (t_draft_row_size : Int32) (a1 : Int32) : Option (Int32 × (Nat → Int32) × Int32) :=
  if a1 < (33 : Int32) then
    some ((-1 : Int32), t_draft_row_row, t_draft_row_size)
  else
  if a1 ≤ (126 : Int32) then
    (g_Characters_add 120 t_draft_row_row t_draft_row_size a1).bind fun q2 =>
    if q2.1 = 0 then
      some ((-3 : Int32), q2.2.1, q2.2.2)
    else
    (g_Characters_size q2.2.2).bind fun q4 =>
    some (q4, q2.2.1, q2.2.2)
  else
  some ((-1 : Int32), t_draft_row_row, t_draft_row_size)
def g_Characters_become (t_R : Nat) (x1_R : Nat) (t_row : Nat → Int32) (t_size : Int32) (x1_row : Nat → Int32) (x1_size : Int32) : Option ((Nat → Int32) × Int32) :=
  if cpok .char x1_R t_R x1_row (0 : Int32) (0 : Int32) (if (nI t_R) < x1_size then nI t_R else x1_size) = true then
  some (va_cpy x1_row t_row (0 : Int32).toNatClampNeg (0 : Int32).toNatClampNeg (if (nI t_R) < x1_size then nI t_R else x1_size).toNatClampNeg, if (nI t_R) < x1_size then nI t_R else x1_size)
  else none
def g_S_copy (t_draft_row_row : Nat → Int32) (t_draft_row_size : Int32) (t_written_row : Nat → Int32) (t_written_size : Int32) : Option (Int32 × (Nat → Int32) × Int32) :=
  (g_Characters_size t_written_size).bind fun q1 =>
  if q1 ≤ (120 : Int32) then
    (g_Characters_become 120 90 t_draft_row_row t_draft_row_size t_written_row t_written_size).bind fun q3 =>
    (g_Characters_size t_written_size).bind fun q4 =>
    some (q4, q3.1, q3.2)
  else
  some ((-3 : Int32), t_draft_row_row, t_draft_row_size)
def g_Draft_made : Option (Unit) :=
  some ()
def g_Draft_isVariable (a0 : Int32) : Option (Int32) :=
  if a0 < (97 : Int32) then
    some ((0 : Int32))
  else
  if (103 : Int32) ≤ a0 then
    some ((0 : Int32))
  else
  some ((1 : Int32))
def g_Draft_take (t_row_row : Nat → Int32) (t_row_size : Int32) (t_at : Int32) (a1 : Int32) : Option (Int32 × Int32) :=
  (g_Characters_at 120 t_row_row t_row_size t_at).bind fun q1 =>
  if q1 = a1 then
    some ((1 : Int32), t_at + (1 : Int32))
  else
  some ((0 : Int32), t_at)
def g_Draft_isDigit (a0 : Int32) : Option (Int32) :=
  if a0 < (48 : Int32) then
    some ((0 : Int32))
  else
  if (57 : Int32) < a0 then
    some ((0 : Int32))
  else
  some ((1 : Int32))
def g_Draft_takeNumber (t_row_row : Nat → Int32) (t_row_size : Int32) (t_made_ops : Nat → Int32) (t_made_numbers : Nat → Int32) (t_made_heights : Nat → Int32) (t_made_size : Int32) (t_at : Int32) : Option ((Nat → Int32) × (Nat → Int32) × (Nat → Int32) × Int32 × Int32) :=
  (g_Characters_at 120 t_row_row t_row_size t_at).bind fun q1 =>
  (g_Characters_at 120 t_row_row t_row_size (t_at + (1 : Int32))).bind fun q2 =>
  (g_Draft_isDigit q2).bind fun q3 =>
  if q3 = 0 then
    (g_Listing_add 31 t_made_ops t_made_numbers t_made_heights t_made_size (0 : Int32) (q1 - (48 : Int32))).bind fun q4 =>
    some (q4.2.1, q4.2.2.1, q4.2.2.2.1, q4.2.2.2.2, t_at + (1 : Int32))
  else
  (g_Characters_at 120 t_row_row t_row_size (t_at + (1 : Int32))).bind fun q5 =>
  (g_Listing_add 31 t_made_ops t_made_numbers t_made_heights t_made_size (0 : Int32) ((((q1 - (48 : Int32)) * (10 : Int32)) + q5) - (48 : Int32))).bind fun q6 =>
  some (q6.2.1, q6.2.2.1, q6.2.2.2.1, q6.2.2.2.2, (t_at + (1 : Int32)) + (1 : Int32))
def g_Draft_opOfSign (a0 : Int32) : Option (Int32) :=
  if a0 = (42 : Int32) then
    some ((5 : Int32))
  else if a0 = (43 : Int32) then
    some ((3 : Int32))
  else if a0 = (45 : Int32) then
    some ((4 : Int32))
  else if a0 = (60 : Int32) then
    some ((6 : Int32))
  else some ((-2 : Int32))
def gb_Draft_takeExpression (f_Draft_takeNot : (Nat → Int32) → Int32 → (Nat → Int32) → (Nat → Int32) → (Nat → Int32) → Int32 → Int32 → Int32 → Option (Int32 × (Nat → Int32) × (Nat → Int32) × (Nat → Int32) × Int32 × Int32)) (f_Draft_takePair : (Nat → Int32) → Int32 → (Nat → Int32) → (Nat → Int32) → (Nat → Int32) → Int32 → Int32 → Int32 → Option (Int32 × (Nat → Int32) × (Nat → Int32) × (Nat → Int32) × Int32 × Int32)) (t_row_row : Nat → Int32) (t_row_size : Int32) (t_made_ops : Nat → Int32) (t_made_numbers : Nat → Int32) (t_made_heights : Nat → Int32) (t_made_size : Int32) (t_at : Int32) (a1 : Int32) : Option (Int32 × (Nat → Int32) × (Nat → Int32) × (Nat → Int32) × Int32 × Int32) :=
  if a1 < (8 : Int32) then
    (g_Characters_at 120 t_row_row t_row_size t_at).bind fun q1 =>
    (g_Draft_isDigit q1).bind fun q2 =>
    if q2 = 0 then
      (g_Draft_isVariable q1).bind fun q3 =>
      if q3 = 0 then
        (g_Draft_take t_row_row t_row_size t_at (33 : Int32)).bind fun q4 =>
        if q4.1 = 0 then
          (g_Draft_take t_row_row t_row_size q4.2 (40 : Int32)).bind fun q5 =>
          if q5.1 = 0 then
            some ((0 : Int32), t_made_ops, t_made_numbers, t_made_heights, t_made_size, q5.2)
          else
          (f_Draft_takePair t_row_row t_row_size t_made_ops t_made_numbers t_made_heights t_made_size q5.2 a1).bind fun q6 =>
          if q6.1 = 0 then
            some ((0 : Int32), q6.2.1, q6.2.2.1, q6.2.2.2.1, q6.2.2.2.2.1, q6.2.2.2.2.2)
          else
          some ((1 : Int32), q6.2.1, q6.2.2.1, q6.2.2.2.1, q6.2.2.2.2.1, q6.2.2.2.2.2)
        else
        (f_Draft_takeNot t_row_row t_row_size t_made_ops t_made_numbers t_made_heights t_made_size q4.2 a1).bind fun q7 =>
        if q7.1 = 0 ∨ q7.1 = 1 then some (q7.1, q7.2.1, q7.2.2.1, q7.2.2.2.1, q7.2.2.2.2.1, q7.2.2.2.2.2) else none
      else
      (g_Listing_add 31 t_made_ops t_made_numbers t_made_heights t_made_size (1 : Int32) (q1 - (97 : Int32))).bind fun q8 =>
      some ((1 : Int32), q8.2.1, q8.2.2.1, q8.2.2.2.1, q8.2.2.2.2, t_at + (1 : Int32))
    else
    (g_Draft_takeNumber t_row_row t_row_size t_made_ops t_made_numbers t_made_heights t_made_size t_at).bind fun q9 =>
    some ((1 : Int32), q9.1, q9.2.1, q9.2.2.1, q9.2.2.2.1, q9.2.2.2.2)
  else
  some ((0 : Int32), t_made_ops, t_made_numbers, t_made_heights, t_made_size, t_at)
def gb_Draft_takeNot (f_Draft_takeExpression : (Nat → Int32) → Int32 → (Nat → Int32) → (Nat → Int32) → (Nat → Int32) → Int32 → Int32 → Int32 → Option (Int32 × (Nat → Int32) × (Nat → Int32) × (Nat → Int32) × Int32 × Int32)) (t_row_row : Nat → Int32) (t_row_size : Int32) (t_made_ops : Nat → Int32) (t_made_numbers : Nat → Int32) (t_made_heights : Nat → Int32) (t_made_size : Int32) (t_at : Int32) (a1 : Int32) : Option (Int32 × (Nat → Int32) × (Nat → Int32) × (Nat → Int32) × Int32 × Int32) :=
  (f_Draft_takeExpression t_row_row t_row_size t_made_ops t_made_numbers t_made_heights t_made_size t_at (a1 + (1 : Int32))).bind fun q1 =>
  if q1.1 = 0 then
    some ((0 : Int32), q1.2.1, q1.2.2.1, q1.2.2.2.1, q1.2.2.2.2.1, q1.2.2.2.2.2)
  else
  (g_Listing_add 31 q1.2.1 q1.2.2.1 q1.2.2.2.1 q1.2.2.2.2.1 (7 : Int32) (0 : Int32)).bind fun q2 =>
  some ((1 : Int32), q2.2.1, q2.2.2.1, q2.2.2.2.1, q2.2.2.2.2, q1.2.2.2.2.2)
def gb_Draft_takePair (f_Draft_takeExpression : (Nat → Int32) → Int32 → (Nat → Int32) → (Nat → Int32) → (Nat → Int32) → Int32 → Int32 → Int32 → Option (Int32 × (Nat → Int32) × (Nat → Int32) × (Nat → Int32) × Int32 × Int32)) (t_row_row : Nat → Int32) (t_row_size : Int32) (t_made_ops : Nat → Int32) (t_made_numbers : Nat → Int32) (t_made_heights : Nat → Int32) (t_made_size : Int32) (t_at : Int32) (a1 : Int32) : Option (Int32 × (Nat → Int32) × (Nat → Int32) × (Nat → Int32) × Int32 × Int32) :=
  (f_Draft_takeExpression t_row_row t_row_size t_made_ops t_made_numbers t_made_heights t_made_size t_at (a1 + (1 : Int32))).bind fun q1 =>
  if q1.1 = 0 then
    some ((0 : Int32), q1.2.1, q1.2.2.1, q1.2.2.2.1, q1.2.2.2.2.1, q1.2.2.2.2.2)
  else
  (g_Characters_at 120 t_row_row t_row_size q1.2.2.2.2.2).bind fun q2 =>
  (g_Draft_opOfSign q2).bind fun q3 =>
  if q3 = (-2 : Int32) then
    some ((0 : Int32), q1.2.1, q1.2.2.1, q1.2.2.2.1, q1.2.2.2.2.1, q1.2.2.2.2.2)
  else
  (f_Draft_takeExpression t_row_row t_row_size q1.2.1 q1.2.2.1 q1.2.2.2.1 q1.2.2.2.2.1 (q1.2.2.2.2.2 + (1 : Int32)) (a1 + (1 : Int32))).bind fun q4 =>
  if q4.1 = 0 then
    some ((0 : Int32), q4.2.1, q4.2.2.1, q4.2.2.2.1, q4.2.2.2.2.1, q4.2.2.2.2.2)
  else
  (g_Draft_take t_row_row t_row_size q4.2.2.2.2.2 (41 : Int32)).bind fun q5 =>
  if q5.1 = 0 then
    some ((0 : Int32), q4.2.1, q4.2.2.1, q4.2.2.2.1, q4.2.2.2.2.1, q5.2)
  else
  (g_Listing_add 31 q4.2.1 q4.2.2.1 q4.2.2.2.1 q4.2.2.2.2.1 q3 (0 : Int32)).bind fun q6 =>
  some ((1 : Int32), q6.2.1, q6.2.2.1, q6.2.2.2.1, q6.2.2.2.2, q5.2)
def gg_Draft_takeExpression : Nat → ((Nat → Int32) → Int32 → (Nat → Int32) → (Nat → Int32) → (Nat → Int32) → Int32 → Int32 → Int32 → Option (Int32 × (Nat → Int32) × (Nat → Int32) × (Nat → Int32) × Int32 × Int32)) × ((Nat → Int32) → Int32 → (Nat → Int32) → (Nat → Int32) → (Nat → Int32) → Int32 → Int32 → Int32 → Option (Int32 × (Nat → Int32) × (Nat → Int32) × (Nat → Int32) × Int32 × Int32)) × ((Nat → Int32) → Int32 → (Nat → Int32) → (Nat → Int32) → (Nat → Int32) → Int32 → Int32 → Int32 → Option (Int32 × (Nat → Int32) × (Nat → Int32) × (Nat → Int32) × Int32 × Int32))
  | 0 => (fun _ _ _ _ _ _ _ _ => none, fun _ _ _ _ _ _ _ _ => none, fun _ _ _ _ _ _ _ _ => none)
  | n + 1 => (gb_Draft_takeExpression (gg_Draft_takeExpression n).2.1 (gg_Draft_takeExpression n).2.2, gb_Draft_takeNot (gg_Draft_takeExpression n).1, gb_Draft_takePair (gg_Draft_takeExpression n).1)
abbrev g_Draft_takeExpression (n : Nat) : (Nat → Int32) → Int32 → (Nat → Int32) → (Nat → Int32) → (Nat → Int32) → Int32 → Int32 → Int32 → Option (Int32 × (Nat → Int32) × (Nat → Int32) × (Nat → Int32) × Int32 × Int32) := (gg_Draft_takeExpression n).1
abbrev g_Draft_takeNot (n : Nat) : (Nat → Int32) → Int32 → (Nat → Int32) → (Nat → Int32) → (Nat → Int32) → Int32 → Int32 → Int32 → Option (Int32 × (Nat → Int32) × (Nat → Int32) × (Nat → Int32) × Int32 × Int32) := (gg_Draft_takeExpression n).2.1
abbrev g_Draft_takePair (n : Nat) : (Nat → Int32) → Int32 → (Nat → Int32) → (Nat → Int32) → (Nat → Int32) → Int32 → Int32 → Int32 → Option (Int32 × (Nat → Int32) × (Nat → Int32) × (Nat → Int32) × Int32 × Int32) := (gg_Draft_takeExpression n).2.2
def g_Draft_takePrint (t_row_row : Nat → Int32) (t_row_size : Int32) (t_made_ops : Nat → Int32) (t_made_numbers : Nat → Int32) (t_made_heights : Nat → Int32) (t_made_size : Int32) (t_at : Int32) : Option (Int32 × (Nat → Int32) × (Nat → Int32) × (Nat → Int32) × Int32 × Int32) :=
  (g_Draft_takeExpression 100 t_row_row t_row_size t_made_ops t_made_numbers t_made_heights t_made_size (t_at + (1 : Int32)) (0 : Int32)).bind fun q1 =>
  if q1.1 = 0 then
    some ((0 : Int32), q1.2.1, q1.2.2.1, q1.2.2.2.1, q1.2.2.2.2.1, q1.2.2.2.2.2)
  else
  (g_Draft_take t_row_row t_row_size q1.2.2.2.2.2 (59 : Int32)).bind fun q2 =>
  if q2.1 = 0 then
    some ((0 : Int32), q1.2.1, q1.2.2.1, q1.2.2.2.1, q1.2.2.2.2.1, q2.2)
  else
  (g_Listing_add 31 q1.2.1 q1.2.2.1 q1.2.2.2.1 q1.2.2.2.2.1 (10 : Int32) (0 : Int32)).bind fun q3 =>
  some ((1 : Int32), q3.2.1, q3.2.2.1, q3.2.2.2.1, q3.2.2.2.2, q2.2)
def g_Draft_takeStore (t_row_row : Nat → Int32) (t_row_size : Int32) (t_made_ops : Nat → Int32) (t_made_numbers : Nat → Int32) (t_made_heights : Nat → Int32) (t_made_size : Int32) (t_at : Int32) (a1 : Int32) : Option (Int32 × (Nat → Int32) × (Nat → Int32) × (Nat → Int32) × Int32 × Int32) :=
  (g_Draft_take t_row_row t_row_size (t_at + (1 : Int32)) (61 : Int32)).bind fun q1 =>
  if q1.1 = 0 then
    some ((0 : Int32), t_made_ops, t_made_numbers, t_made_heights, t_made_size, q1.2)
  else
  (g_Draft_takeExpression 100 t_row_row t_row_size t_made_ops t_made_numbers t_made_heights t_made_size q1.2 (0 : Int32)).bind fun q2 =>
  if q2.1 = 0 then
    some ((0 : Int32), q2.2.1, q2.2.2.1, q2.2.2.2.1, q2.2.2.2.2.1, q2.2.2.2.2.2)
  else
  (g_Draft_take t_row_row t_row_size q2.2.2.2.2.2 (59 : Int32)).bind fun q3 =>
  if q3.1 = 0 then
    some ((0 : Int32), q2.2.1, q2.2.2.1, q2.2.2.2.1, q2.2.2.2.2.1, q3.2)
  else
  (g_Listing_add 31 q2.2.1 q2.2.2.1 q2.2.2.2.1 q2.2.2.2.2.1 (2 : Int32) a1).bind fun q4 =>
  some ((1 : Int32), q4.2.1, q4.2.2.1, q4.2.2.2.1, q4.2.2.2.2, q3.2)
def b_Draft_takeStatements_2 (f_Draft_takeStatement : (Nat → Int32) → Int32 → (Nat → Int32) → (Nat → Int32) → (Nat → Int32) → Int32 → Int32 → Int32 → Option (Int32 × (Nat → Int32) × (Nat → Int32) × (Nat → Int32) × Int32 × Int32)) (t_row_row : Nat → Int32) (t_row_size : Int32) : Nat → (Nat → Int32) → (Nat → Int32) → (Nat → Int32) → Int32 → Int32 → Int32 → Int32 → Option (Int32 × (Nat → Int32) × (Nat → Int32) × (Nat → Int32) × Int32 × Int32)
  | 0, _, _, _, _, _, _, _ => none
  | n + 1, t_made_ops, t_made_numbers, t_made_heights, t_made_size, t_at, v1, v2 =>
    if (120 : Int32) ≤ v2 then
      some ((1 : Int32), t_made_ops, t_made_numbers, t_made_heights, t_made_size, t_at)
    else
    (g_Characters_size t_row_size).bind fun q1 =>
    if q1 ≤ t_at then
      some ((1 : Int32), t_made_ops, t_made_numbers, t_made_heights, t_made_size, t_at)
    else
    (g_Characters_at 120 t_row_row t_row_size t_at).bind fun q2 =>
    if q2 = (125 : Int32) then
      some ((1 : Int32), t_made_ops, t_made_numbers, t_made_heights, t_made_size, t_at)
    else
    (f_Draft_takeStatement t_row_row t_row_size t_made_ops t_made_numbers t_made_heights t_made_size t_at v1).bind fun q3 =>
    if q3.1 = 0 then
      some ((0 : Int32), q3.2.1, q3.2.2.1, q3.2.2.2.1, q3.2.2.2.2.1, q3.2.2.2.2.2)
    else
    b_Draft_takeStatements_2 f_Draft_takeStatement t_row_row t_row_size n q3.2.1 q3.2.2.1 q3.2.2.2.1 q3.2.2.2.2.1 q3.2.2.2.2.2 v1 (v2 + (1 : Int32))
def gb_Draft_takeStatements (f_Draft_takeStatement : (Nat → Int32) → Int32 → (Nat → Int32) → (Nat → Int32) → (Nat → Int32) → Int32 → Int32 → Int32 → Option (Int32 × (Nat → Int32) × (Nat → Int32) × (Nat → Int32) × Int32 × Int32)) (t_row_row : Nat → Int32) (t_row_size : Int32) (t_made_ops : Nat → Int32) (t_made_numbers : Nat → Int32) (t_made_heights : Nat → Int32) (t_made_size : Int32) (t_at : Int32) (a1 : Int32) : Option (Int32 × (Nat → Int32) × (Nat → Int32) × (Nat → Int32) × Int32 × Int32) :=
  b_Draft_takeStatements_2 f_Draft_takeStatement t_row_row t_row_size 500 t_made_ops t_made_numbers t_made_heights t_made_size t_at a1 (0 : Int32)
def gb_Draft_takeStatement (f_Draft_takeIf : (Nat → Int32) → Int32 → (Nat → Int32) → (Nat → Int32) → (Nat → Int32) → Int32 → Int32 → Int32 → Option (Int32 × (Nat → Int32) × (Nat → Int32) × (Nat → Int32) × Int32 × Int32)) (f_Draft_takeWhile : (Nat → Int32) → Int32 → (Nat → Int32) → (Nat → Int32) → (Nat → Int32) → Int32 → Int32 → Int32 → Option (Int32 × (Nat → Int32) × (Nat → Int32) × (Nat → Int32) × Int32 × Int32)) (t_row_row : Nat → Int32) (t_row_size : Int32) (t_made_ops : Nat → Int32) (t_made_numbers : Nat → Int32) (t_made_heights : Nat → Int32) (t_made_size : Int32) (t_at : Int32) (a1 : Int32) : Option (Int32 × (Nat → Int32) × (Nat → Int32) × (Nat → Int32) × Int32 × Int32) :=
  if a1 < (6 : Int32) then
    (g_Characters_at 120 t_row_row t_row_size t_at).bind fun q1 =>
    (g_Draft_isVariable q1).bind fun q2 =>
    if q2 = 0 then
      if q1 = (35 : Int32) then
        (g_Draft_takePrint t_row_row t_row_size t_made_ops t_made_numbers t_made_heights t_made_size t_at).bind fun q3 =>
        if q3.1 = 0 ∨ q3.1 = 1 then some (q3.1, q3.2.1, q3.2.2.1, q3.2.2.2.1, q3.2.2.2.2.1, q3.2.2.2.2.2) else none
      else if q1 = (63 : Int32) then
        (f_Draft_takeIf t_row_row t_row_size t_made_ops t_made_numbers t_made_heights t_made_size t_at a1).bind fun q4 =>
        if q4.1 = 0 ∨ q4.1 = 1 then some (q4.1, q4.2.1, q4.2.2.1, q4.2.2.2.1, q4.2.2.2.2.1, q4.2.2.2.2.2) else none
      else if q1 = (64 : Int32) then
        (f_Draft_takeWhile t_row_row t_row_size t_made_ops t_made_numbers t_made_heights t_made_size t_at a1).bind fun q5 =>
        if q5.1 = 0 ∨ q5.1 = 1 then some (q5.1, q5.2.1, q5.2.2.1, q5.2.2.2.1, q5.2.2.2.2.1, q5.2.2.2.2.2) else none
      else some ((0 : Int32), t_made_ops, t_made_numbers, t_made_heights, t_made_size, t_at)
    else
    (g_Draft_takeStore t_row_row t_row_size t_made_ops t_made_numbers t_made_heights t_made_size t_at (q1 - (97 : Int32))).bind fun q6 =>
    if q6.1 = 0 ∨ q6.1 = 1 then some (q6.1, q6.2.1, q6.2.2.1, q6.2.2.2.1, q6.2.2.2.2.1, q6.2.2.2.2.2) else none
  else
  some ((0 : Int32), t_made_ops, t_made_numbers, t_made_heights, t_made_size, t_at)
def gb_Draft_takeIf (f_Draft_takeBlock : (Nat → Int32) → Int32 → (Nat → Int32) → (Nat → Int32) → (Nat → Int32) → Int32 → Int32 → Int32 → Option (Int32 × (Nat → Int32) × (Nat → Int32) × (Nat → Int32) × Int32 × Int32)) (f_Draft_takeGuarded : (Nat → Int32) → Int32 → (Nat → Int32) → (Nat → Int32) → (Nat → Int32) → Int32 → Int32 → Int32 → Option (Int32 × (Nat → Int32) × (Nat → Int32) × (Nat → Int32) × Int32 × Int32)) (t_row_row : Nat → Int32) (t_row_size : Int32) (t_made_ops : Nat → Int32) (t_made_numbers : Nat → Int32) (t_made_heights : Nat → Int32) (t_made_size : Int32) (t_at : Int32) (a1 : Int32) : Option (Int32 × (Nat → Int32) × (Nat → Int32) × (Nat → Int32) × Int32 × Int32) :=
  (f_Draft_takeGuarded t_row_row t_row_size t_made_ops t_made_numbers t_made_heights t_made_size t_at a1).bind fun q1 =>
  if q1.1 = (-1 : Int32) then
    some ((0 : Int32), q1.2.1, q1.2.2.1, q1.2.2.2.1, q1.2.2.2.2.1, q1.2.2.2.2.2)
  else
  (g_Draft_take t_row_row t_row_size q1.2.2.2.2.2 (58 : Int32)).bind fun q2 =>
  if q2.1 = 0 then
    (g_Listing_size q1.2.2.2.2.1).bind fun q10 =>
    (g_Listing_set 31 q1.2.1 q1.2.2.1 q1.2.2.2.1 q1.2.2.2.2.1 q1.1 (9 : Int32) q10).bind fun q11 =>
    some ((1 : Int32), q11.1, q11.2.1, q11.2.2, q1.2.2.2.2.1, q2.2)
  else
  (g_Listing_size q1.2.2.2.2.1).bind fun q3 =>
  (g_Listing_add 31 q1.2.1 q1.2.2.1 q1.2.2.2.1 q1.2.2.2.2.1 (8 : Int32) (0 : Int32)).bind fun q4 =>
  (g_Listing_size q4.2.2.2.2).bind fun q5 =>
  (g_Listing_set 31 q4.2.1 q4.2.2.1 q4.2.2.2.1 q4.2.2.2.2 q1.1 (9 : Int32) q5).bind fun q6 =>
  (f_Draft_takeBlock t_row_row t_row_size q6.1 q6.2.1 q6.2.2 q4.2.2.2.2 q2.2 a1).bind fun q7 =>
  if q7.1 = 0 then
    some ((0 : Int32), q7.2.1, q7.2.2.1, q7.2.2.2.1, q7.2.2.2.2.1, q7.2.2.2.2.2)
  else
  (g_Listing_size q7.2.2.2.2.1).bind fun q8 =>
  (g_Listing_set 31 q7.2.1 q7.2.2.1 q7.2.2.2.1 q7.2.2.2.2.1 q3 (8 : Int32) q8).bind fun q9 =>
  some ((1 : Int32), q9.1, q9.2.1, q9.2.2, q7.2.2.2.2.1, q7.2.2.2.2.2)
def gb_Draft_takeBlock (f_Draft_takeStatements : (Nat → Int32) → Int32 → (Nat → Int32) → (Nat → Int32) → (Nat → Int32) → Int32 → Int32 → Int32 → Option (Int32 × (Nat → Int32) × (Nat → Int32) × (Nat → Int32) × Int32 × Int32)) (t_row_row : Nat → Int32) (t_row_size : Int32) (t_made_ops : Nat → Int32) (t_made_numbers : Nat → Int32) (t_made_heights : Nat → Int32) (t_made_size : Int32) (t_at : Int32) (a1 : Int32) : Option (Int32 × (Nat → Int32) × (Nat → Int32) × (Nat → Int32) × Int32 × Int32) :=
  (g_Draft_take t_row_row t_row_size t_at (123 : Int32)).bind fun q1 =>
  if q1.1 = 0 then
    some ((0 : Int32), t_made_ops, t_made_numbers, t_made_heights, t_made_size, q1.2)
  else
  (f_Draft_takeStatements t_row_row t_row_size t_made_ops t_made_numbers t_made_heights t_made_size q1.2 (a1 + (1 : Int32))).bind fun q2 =>
  if q2.1 = 0 then
    some ((0 : Int32), q2.2.1, q2.2.2.1, q2.2.2.2.1, q2.2.2.2.2.1, q2.2.2.2.2.2)
  else
  (g_Draft_take t_row_row t_row_size q2.2.2.2.2.2 (125 : Int32)).bind fun q3 =>
  if q3.1 = 0 then
    some ((0 : Int32), q2.2.1, q2.2.2.1, q2.2.2.2.1, q2.2.2.2.2.1, q3.2)
  else
  some ((1 : Int32), q2.2.1, q2.2.2.1, q2.2.2.2.1, q2.2.2.2.2.1, q3.2)
def gb_Draft_takeGuarded (f_Draft_takeBlock : (Nat → Int32) → Int32 → (Nat → Int32) → (Nat → Int32) → (Nat → Int32) → Int32 → Int32 → Int32 → Option (Int32 × (Nat → Int32) × (Nat → Int32) × (Nat → Int32) × Int32 × Int32)) (t_row_row : Nat → Int32) (t_row_size : Int32) (t_made_ops : Nat → Int32) (t_made_numbers : Nat → Int32) (t_made_heights : Nat → Int32) (t_made_size : Int32) (t_at : Int32) (a1 : Int32) : Option (Int32 × (Nat → Int32) × (Nat → Int32) × (Nat → Int32) × Int32 × Int32) :=
  (g_Draft_takeExpression 100 t_row_row t_row_size t_made_ops t_made_numbers t_made_heights t_made_size (t_at + (1 : Int32)) (0 : Int32)).bind fun q1 =>
  if q1.1 = 0 then
    some ((-1 : Int32), q1.2.1, q1.2.2.1, q1.2.2.2.1, q1.2.2.2.2.1, q1.2.2.2.2.2)
  else
  (g_Listing_size q1.2.2.2.2.1).bind fun q2 =>
  (g_Listing_add 31 q1.2.1 q1.2.2.1 q1.2.2.2.1 q1.2.2.2.2.1 (9 : Int32) (0 : Int32)).bind fun q3 =>
  (f_Draft_takeBlock t_row_row t_row_size q3.2.1 q3.2.2.1 q3.2.2.2.1 q3.2.2.2.2 q1.2.2.2.2.2 a1).bind fun q4 =>
  if q4.1 = 0 then
    some ((-1 : Int32), q4.2.1, q4.2.2.1, q4.2.2.2.1, q4.2.2.2.2.1, q4.2.2.2.2.2)
  else
  some (q2, q4.2.1, q4.2.2.1, q4.2.2.2.1, q4.2.2.2.2.1, q4.2.2.2.2.2)
def gb_Draft_takeWhile (f_Draft_takeGuarded : (Nat → Int32) → Int32 → (Nat → Int32) → (Nat → Int32) → (Nat → Int32) → Int32 → Int32 → Int32 → Option (Int32 × (Nat → Int32) × (Nat → Int32) × (Nat → Int32) × Int32 × Int32)) (t_row_row : Nat → Int32) (t_row_size : Int32) (t_made_ops : Nat → Int32) (t_made_numbers : Nat → Int32) (t_made_heights : Nat → Int32) (t_made_size : Int32) (t_at : Int32) (a1 : Int32) : Option (Int32 × (Nat → Int32) × (Nat → Int32) × (Nat → Int32) × Int32 × Int32) :=
  (g_Listing_size t_made_size).bind fun q1 =>
  (f_Draft_takeGuarded t_row_row t_row_size t_made_ops t_made_numbers t_made_heights t_made_size t_at a1).bind fun q2 =>
  if q2.1 = (-1 : Int32) then
    some ((0 : Int32), q2.2.1, q2.2.2.1, q2.2.2.2.1, q2.2.2.2.2.1, q2.2.2.2.2.2)
  else
  (g_Listing_add 31 q2.2.1 q2.2.2.1 q2.2.2.2.1 q2.2.2.2.2.1 (8 : Int32) q1).bind fun q3 =>
  (g_Listing_size q3.2.2.2.2).bind fun q4 =>
  (g_Listing_set 31 q3.2.1 q3.2.2.1 q3.2.2.2.1 q3.2.2.2.2 q2.1 (9 : Int32) q4).bind fun q5 =>
  some ((1 : Int32), q5.1, q5.2.1, q5.2.2, q3.2.2.2.2, q2.2.2.2.2.2)
def gg_Draft_takeStatements : Nat → ((Nat → Int32) → Int32 → (Nat → Int32) → (Nat → Int32) → (Nat → Int32) → Int32 → Int32 → Int32 → Option (Int32 × (Nat → Int32) × (Nat → Int32) × (Nat → Int32) × Int32 × Int32)) × ((Nat → Int32) → Int32 → (Nat → Int32) → (Nat → Int32) → (Nat → Int32) → Int32 → Int32 → Int32 → Option (Int32 × (Nat → Int32) × (Nat → Int32) × (Nat → Int32) × Int32 × Int32)) × ((Nat → Int32) → Int32 → (Nat → Int32) → (Nat → Int32) → (Nat → Int32) → Int32 → Int32 → Int32 → Option (Int32 × (Nat → Int32) × (Nat → Int32) × (Nat → Int32) × Int32 × Int32)) × ((Nat → Int32) → Int32 → (Nat → Int32) → (Nat → Int32) → (Nat → Int32) → Int32 → Int32 → Int32 → Option (Int32 × (Nat → Int32) × (Nat → Int32) × (Nat → Int32) × Int32 × Int32)) × ((Nat → Int32) → Int32 → (Nat → Int32) → (Nat → Int32) → (Nat → Int32) → Int32 → Int32 → Int32 → Option (Int32 × (Nat → Int32) × (Nat → Int32) × (Nat → Int32) × Int32 × Int32)) × ((Nat → Int32) → Int32 → (Nat → Int32) → (Nat → Int32) → (Nat → Int32) → Int32 → Int32 → Int32 → Option (Int32 × (Nat → Int32) × (Nat → Int32) × (Nat → Int32) × Int32 × Int32))
  | 0 => (fun _ _ _ _ _ _ _ _ => none, fun _ _ _ _ _ _ _ _ => none, fun _ _ _ _ _ _ _ _ => none, fun _ _ _ _ _ _ _ _ => none, fun _ _ _ _ _ _ _ _ => none, fun _ _ _ _ _ _ _ _ => none)
  | n + 1 => (gb_Draft_takeStatements (gg_Draft_takeStatements n).2.1, gb_Draft_takeStatement (gg_Draft_takeStatements n).2.2.1 (gg_Draft_takeStatements n).2.2.2.2.2, gb_Draft_takeIf (gg_Draft_takeStatements n).2.2.2.1 (gg_Draft_takeStatements n).2.2.2.2.1, gb_Draft_takeBlock (gg_Draft_takeStatements n).1, gb_Draft_takeGuarded (gg_Draft_takeStatements n).2.2.2.1, gb_Draft_takeWhile (gg_Draft_takeStatements n).2.2.2.2.1)
abbrev g_Draft_takeStatements (n : Nat) : (Nat → Int32) → Int32 → (Nat → Int32) → (Nat → Int32) → (Nat → Int32) → Int32 → Int32 → Int32 → Option (Int32 × (Nat → Int32) × (Nat → Int32) × (Nat → Int32) × Int32 × Int32) := (gg_Draft_takeStatements n).1
abbrev g_Draft_takeStatement (n : Nat) : (Nat → Int32) → Int32 → (Nat → Int32) → (Nat → Int32) → (Nat → Int32) → Int32 → Int32 → Int32 → Option (Int32 × (Nat → Int32) × (Nat → Int32) × (Nat → Int32) × Int32 × Int32) := (gg_Draft_takeStatements n).2.1
abbrev g_Draft_takeIf (n : Nat) : (Nat → Int32) → Int32 → (Nat → Int32) → (Nat → Int32) → (Nat → Int32) → Int32 → Int32 → Int32 → Option (Int32 × (Nat → Int32) × (Nat → Int32) × (Nat → Int32) × Int32 × Int32) := (gg_Draft_takeStatements n).2.2.1
abbrev g_Draft_takeBlock (n : Nat) : (Nat → Int32) → Int32 → (Nat → Int32) → (Nat → Int32) → (Nat → Int32) → Int32 → Int32 → Int32 → Option (Int32 × (Nat → Int32) × (Nat → Int32) × (Nat → Int32) × Int32 × Int32) := (gg_Draft_takeStatements n).2.2.2.1
abbrev g_Draft_takeGuarded (n : Nat) : (Nat → Int32) → Int32 → (Nat → Int32) → (Nat → Int32) → (Nat → Int32) → Int32 → Int32 → Int32 → Option (Int32 × (Nat → Int32) × (Nat → Int32) × (Nat → Int32) × Int32 × Int32) := (gg_Draft_takeStatements n).2.2.2.2.1
abbrev g_Draft_takeWhile (n : Nat) : (Nat → Int32) → Int32 → (Nat → Int32) → (Nat → Int32) → (Nat → Int32) → Int32 → Int32 → Int32 → Option (Int32 × (Nat → Int32) × (Nat → Int32) × (Nat → Int32) × Int32 × Int32) := (gg_Draft_takeStatements n).2.2.2.2.2
def b_Draft_translate_39 (t_row_row : Nat → Int32) (t_row_size : Int32) (t_made_ops : Nat → Int32) (t_made_numbers : Nat → Int32) (t_made_heights : Nat → Int32) (t_made_size : Int32) (t_at : Int32) (k0 : Int32) : Option (Int32 × (Nat → Int32) × (Nat → Int32) × (Nat → Int32) × Int32 × Int32) :=
  if k0 = 0 then
    some (t_at, t_made_ops, t_made_numbers, t_made_heights, t_made_size, t_at)
  else
  (g_Listing_size t_made_size).bind fun q1 =>
  if (30 : Int32) < q1 then
    some (t_at, t_made_ops, t_made_numbers, t_made_heights, t_made_size, t_at)
  else
  some ((-2 : Int32), t_made_ops, t_made_numbers, t_made_heights, t_made_size, t_at)
def g_Draft_translate (t_row_row : Nat → Int32) (t_row_size : Int32) (t_made_ops : Nat → Int32) (t_made_numbers : Nat → Int32) (t_made_heights : Nat → Int32) (t_made_size : Int32) (t_at : Int32) : Option (Int32 × (Nat → Int32) × (Nat → Int32) × (Nat → Int32) × Int32 × Int32) :=
  (g_Listing_drop t_made_size).bind fun q1 =>
  (g_Draft_takeStatements 100 t_row_row t_row_size t_made_ops t_made_numbers t_made_heights q1 (0 : Int32) (0 : Int32)).bind fun q2 =>
  if q2.1 = 0 then
    b_Draft_translate_39 t_row_row t_row_size q2.2.1 q2.2.2.1 q2.2.2.2.1 q2.2.2.2.2.1 q2.2.2.2.2.2 (0 : Int32)
  else
  (g_Characters_size t_row_size).bind fun q3 =>
  if q2.2.2.2.2.2 = q3 then
    b_Draft_translate_39 t_row_row t_row_size q2.2.1 q2.2.2.1 q2.2.2.2.1 q2.2.2.2.2.1 q2.2.2.2.2.2 (1 : Int32)
  else
  b_Draft_translate_39 t_row_row t_row_size q2.2.1 q2.2.2.1 q2.2.2.2.1 q2.2.2.2.2.1 q2.2.2.2.2.2 (0 : Int32)
def g_S_read (t_listing_ops : Nat → Int32) (t_listing_numbers : Nat → Int32) (t_listing_heights : Nat → Int32) (t_listing_size : Int32) (t_draft_row_row : Nat → Int32) (t_draft_row_size : Int32) (t_draft_made_ops : Nat → Int32) (t_draft_made_numbers : Nat → Int32) (t_draft_made_heights : Nat → Int32) (t_draft_made_size : Int32) (t_draft_at : Int32) (t_trouble : Int32) : Option (Int32 × (Nat → Int32) × (Nat → Int32) × (Nat → Int32) × Int32 × (Nat → Int32) × (Nat → Int32) × (Nat → Int32) × Int32 × Int32 × Int32) :=
  (g_Draft_translate t_draft_row_row t_draft_row_size t_draft_made_ops t_draft_made_numbers t_draft_made_heights t_draft_made_size t_draft_at).bind fun q1 =>
  if q1.1 = (-2 : Int32) then
    (g_Listing_become 30 31 t_listing_ops t_listing_numbers t_listing_heights t_listing_size q1.2.1 q1.2.2.1 q1.2.2.2.1 q1.2.2.2.2.1).bind fun q3 =>
    (g_Listing_size q3.2.2.2).bind fun q4 =>
    some (q4, q3.1, q3.2.1, q3.2.2.1, q3.2.2.2, q1.2.1, q1.2.2.1, q1.2.2.2.1, q1.2.2.2.2.1, q1.2.2.2.2.2, q1.1)
  else
  some ((-6 : Int32), t_listing_ops, t_listing_numbers, t_listing_heights, t_listing_size, q1.2.1, q1.2.2.1, q1.2.2.2.1, q1.2.2.2.2.1, q1.2.2.2.2.2, q1.1)
def g_Machine_spend (t_done : Int32) (t_limit : Int32) : Option (Int32 × Int32) :=
  if t_done < t_limit then
    some ((1 : Int32), t_done + (1 : Int32))
  else
  some ((0 : Int32), t_done)
def g_Machine_combined (a0 : Int32) (a1 : Int32) (a2 : Int32) : Option (Int32) :=
  if a0 = (3 : Int32) then
    some (a1 + a2)
  else if a0 = (4 : Int32) then
    some (a1 - a2)
  else if a0 = (5 : Int32) then
    some (a1 * a2)
  else if a2 ≤ a1 then
    some ((0 : Int32))
  else
  some ((1 : Int32))
def g_Machine_keepVariable (t_variables : Nat → Int32) (a1 : Int32) (a2 : Int32) : Option ((Nat → Int32)) :=
  if a1 < 0 then
    some (t_variables)
  else
  if (6 : Int32) ≤ a1 then
    some (t_variables)
  else
  if ck a1 6 = true then
  some (upd t_variables a1.toNatClampNeg a2)
  else none
def g_Machine_pop (t_stack : Nat → Int32) (t_height : Int32) : Option (Int32 × Int32) :=
  if 0 < t_height then
    if ck (t_height - (1 : Int32)) 16 = true then
    some (t_stack (t_height - (1 : Int32)).toNatClampNeg, t_height - (1 : Int32))
    else none
  else
  some ((0 : Int32), t_height)
def g_Machine_print (t_kept : Nat → Int32) (t_printed : Int32) (a1 : Int32) : Option ((Nat → Int32) × Int32) :=
  if (20 : Int32) ≤ t_printed then
    some (t_kept, t_printed + (1 : Int32))
  else
  if ck t_printed 20 = true then
  some (upd t_kept t_printed.toNatClampNeg a1, t_printed + (1 : Int32))
  else none
def g_Machine_push (t_stack : Nat → Int32) (t_height : Int32) (a1 : Int32) : Option ((Nat → Int32) × Int32) :=
  if (16 : Int32) ≤ t_height then
    some (t_stack, t_height)
  else
  if ck t_height 16 = true then
  some (upd t_stack t_height.toNatClampNeg a1, t_height + (1 : Int32))
  else none
def g_Machine_variable (t_variables : Nat → Int32) (a1 : Int32) : Option (Int32) :=
  if a1 < 0 then
    some ((0 : Int32))
  else
  if (6 : Int32) ≤ a1 then
    some ((0 : Int32))
  else
  if ck a1 6 = true then
  some (t_variables a1.toNatClampNeg)
  else none
def g_Machine_perform (t_stack : Nat → Int32) (t_variables : Nat → Int32) (t_kept : Nat → Int32) (t_height : Int32) (t_printed : Int32) (a1 : Int32) (a2 : Int32) : Option ((Nat → Int32) × (Nat → Int32) × (Nat → Int32) × Int32 × Int32) :=
  if a1 = (0 : Int32) then
    (g_Machine_push t_stack t_height a2).bind fun q1 =>
    some (q1.1, t_variables, t_kept, q1.2, t_printed)
  else if a1 = (1 : Int32) then
    (g_Machine_variable t_variables a2).bind fun q2 =>
    (g_Machine_push t_stack t_height q2).bind fun q3 =>
    some (q3.1, t_variables, t_kept, q3.2, t_printed)
  else if a1 = (2 : Int32) then
    (g_Machine_pop t_stack t_height).bind fun q4 =>
    (g_Machine_keepVariable t_variables a2 q4.1).bind fun q5 =>
    some (t_stack, q5, t_kept, q4.2, t_printed)
  else if a1 = (7 : Int32) then
    (g_Machine_pop t_stack t_height).bind fun q6 =>
    if q6.1 = 0 then
      (g_Machine_push t_stack q6.2 (1 : Int32)).bind fun q8 =>
      some (q8.1, t_variables, t_kept, q8.2, t_printed)
    else
    (g_Machine_push t_stack q6.2 (0 : Int32)).bind fun q7 =>
    some (q7.1, t_variables, t_kept, q7.2, t_printed)
  else if a1 = (10 : Int32) then
    (g_Machine_pop t_stack t_height).bind fun q9 =>
    (g_Machine_print t_kept t_printed q9.1).bind fun q10 =>
    some (t_stack, t_variables, q10.1, q9.2, q10.2)
  else (g_Machine_pop t_stack t_height).bind fun q11 =>
  (g_Machine_pop t_stack q11.2).bind fun q12 =>
  (g_Machine_combined a1 q12.1 q11.1).bind fun q13 =>
  (g_Machine_push t_stack q12.2 q13).bind fun q14 =>
  some (q14.1, t_variables, t_kept, q14.2, t_printed)
def g_Machine_step (t_stack : Nat → Int32) (t_variables : Nat → Int32) (t_kept : Nat → Int32) (t_height : Int32) (t_printed : Int32) (a1 : Int32) (a2 : Int32) (a3 : Int32) : Option (Int32 × (Nat → Int32) × (Nat → Int32) × (Nat → Int32) × Int32 × Int32) :=
  if a1 = (8 : Int32) then
    some (a2, t_stack, t_variables, t_kept, t_height, t_printed)
  else
  if a1 = (9 : Int32) then
    (g_Machine_pop t_stack t_height).bind fun q2 =>
    if q2.1 = 0 then
      some (a2, t_stack, t_variables, t_kept, q2.2, t_printed)
    else
    some (a3 + (1 : Int32), t_stack, t_variables, t_kept, q2.2, t_printed)
  else
  (g_Machine_perform t_stack t_variables t_kept t_height t_printed a1 a2).bind fun q1 =>
  some (a3 + (1 : Int32), q1.1, q1.2.1, q1.2.2.1, q1.2.2.2.1, q1.2.2.2.2)
def b_Machine_execute_4 (x1_R : Nat) (t_limit : Int32) (x1_ops : Nat → Int32) (x1_numbers : Nat → Int32) (x1_size : Int32) : Nat → (Nat → Int32) → (Nat → Int32) → (Nat → Int32) → Int32 → Int32 → Int32 → Int32 → Int32 → Option (Int32 × (Nat → Int32) × (Nat → Int32) × (Nat → Int32) × Int32 × Int32 × Int32)
  | 0, _, _, _, _, _, _, _, _ => none
  | n + 1, t_stack, t_variables, t_kept, t_height, t_printed, t_done, v2, v3 =>
    if (400 : Int32) < v3 then
      some ((1 : Int32), t_stack, t_variables, t_kept, t_height, t_printed, t_done)
    else
    (g_Listing_holds x1_size v2).bind fun q1 =>
    if q1 = 0 then
      some ((1 : Int32), t_stack, t_variables, t_kept, t_height, t_printed, t_done)
    else
    (g_Machine_spend t_done t_limit).bind fun q2 =>
    if q2.1 = 0 then
      some ((0 : Int32), t_stack, t_variables, t_kept, t_height, t_printed, q2.2)
    else
    (g_Listing_op x1_R x1_ops x1_size v2).bind fun q3 =>
    (g_Listing_number x1_R x1_numbers x1_size v2).bind fun q4 =>
    (g_Machine_step t_stack t_variables t_kept t_height t_printed q3 q4 v2).bind fun q5 =>
    b_Machine_execute_4 x1_R t_limit x1_ops x1_numbers x1_size n q5.2.1 q5.2.2.1 q5.2.2.2.1 q5.2.2.2.2.1 q5.2.2.2.2.2 q2.2 q5.1 (v3 + (1 : Int32))
def g_Machine_execute (x1_R : Nat) (t_stack : Nat → Int32) (t_variables : Nat → Int32) (t_kept : Nat → Int32) (t_height : Int32) (t_printed : Int32) (t_done : Int32) (t_limit : Int32) (x1_ops : Nat → Int32) (x1_numbers : Nat → Int32) (x1_size : Int32) : Option (Int32 × (Nat → Int32) × (Nat → Int32) × (Nat → Int32) × Int32 × Int32 × Int32) :=
  b_Machine_execute_4 x1_R t_limit x1_ops x1_numbers x1_size 500 t_stack t_variables t_kept t_height t_printed t_done (0 : Int32) (0 : Int32)
def g_Machine_printed (t_printed : Int32) : Option (Int32) :=
  some (t_printed)
def b_Machine_start_2 : Nat → (Nat → Int32) → Int32 → Int32 → Int32 → Int32 → Int32 → Int32 → Int32 → Option ((Nat → Int32) × Int32 × Int32 × Int32 × Int32)
  | 0, _, _, _, _, _, _, _, _ => none
  | n + 1, t_variables, t_height, t_printed, t_done, t_limit, v1, v2, v3 =>
    if (6 : Int32) ≤ v3 then
      if ck (0 : Int32) 6 = true then
      some (upd t_variables (0 : Int32).toNatClampNeg v1, (0 : Int32), (0 : Int32), (0 : Int32), v2)
      else none
    else
    if ck v3 6 = true then
    b_Machine_start_2 n (upd t_variables v3.toNatClampNeg (0 : Int32)) t_height t_printed t_done t_limit v1 v2 (v3 + (1 : Int32))
    else none
def g_Machine_start (t_variables : Nat → Int32) (t_height : Int32) (t_printed : Int32) (t_done : Int32) (t_limit : Int32) (a1 : Int32) (a2 : Int32) : Option ((Nat → Int32) × Int32 × Int32 × Int32 × Int32) :=
  b_Machine_start_2 500 t_variables t_height t_printed t_done t_limit a1 a2 (0 : Int32)
def g_S_run (t_listing_ops : Nat → Int32) (t_listing_numbers : Nat → Int32) (t_listing_size : Int32) (t_machine_stack : Nat → Int32) (t_machine_variables : Nat → Int32) (t_machine_kept : Nat → Int32) (t_machine_height : Int32) (t_machine_printed : Int32) (t_machine_done : Int32) (t_machine_limit : Int32) (a1 : Int32) (a2 : Int32) : Option (Int32 × (Nat → Int32) × (Nat → Int32) × (Nat → Int32) × Int32 × Int32 × Int32 × Int32) :=
  if a2 < 0 then
    some ((-1 : Int32), t_machine_stack, t_machine_variables, t_machine_kept, t_machine_height, t_machine_printed, t_machine_done, t_machine_limit)
  else
  if a2 ≤ (400 : Int32) then
    (g_Machine_start t_machine_variables t_machine_height t_machine_printed t_machine_done t_machine_limit a1 a2).bind fun q1 =>
    (g_Machine_execute 30 t_machine_stack q1.1 t_machine_kept q1.2.1 q1.2.2.1 q1.2.2.2.1 q1.2.2.2.2 t_listing_ops t_listing_numbers t_listing_size).bind fun q2 =>
    if q2.1 = 0 then
      some ((-7 : Int32), q2.2.1, q2.2.2.1, q2.2.2.2.1, q2.2.2.2.2.1, q2.2.2.2.2.2.1, q2.2.2.2.2.2.2, q1.2.2.2.2)
    else
    (g_Machine_printed q2.2.2.2.2.2.1).bind fun q3 =>
    some (q3, q2.2.1, q2.2.2.1, q2.2.2.2.1, q2.2.2.2.2.1, q2.2.2.2.2.2.1, q2.2.2.2.2.2.2, q1.2.2.2.2)
  else
  some ((-1 : Int32), t_machine_stack, t_machine_variables, t_machine_kept, t_machine_height, t_machine_printed, t_machine_done, t_machine_limit)
def g_Tree_stands (t_stands : Int32) : Option (Int32) :=
  if t_stands = 0 ∨ t_stands = 1 then some (t_stands) else none
def g_Tree_from (t_froms : Nat → Int32) (t_size : Int32) (a1 : Int32) : Option (Int32) :=
  (g_Tree_holds t_size a1).bind fun q1 =>
  if q1 = 0 then
    some ((0 : Int32))
  else
  if ck a1 15 = true then
  some (t_froms a1.toNatClampNeg)
  else none
def b_Walker_perform_9 (x1_source_ops : Nat → Int32) (x1_source_numbers : Nat → Int32) (x1_source_size : Int32) : Nat → (Nat → Int32) → (Nat → Int32) → (Nat → Int32) → Int32 → Int32 → Int32 → Int32 → Option ((Nat → Int32) × (Nat → Int32) × (Nat → Int32) × Int32 × Int32)
  | 0, _, _, _, _, _, _, _ => none
  | n + 1, x2_stack, x2_variables, x2_kept, x2_height, x2_printed, v3, v5 =>
    if v3 ≤ v5 then
      some (x2_stack, x2_variables, x2_kept, x2_height, x2_printed)
    else
    (g_Listing_op 30 x1_source_ops x1_source_size v5).bind fun q1 =>
    (g_Listing_number 30 x1_source_numbers x1_source_size v5).bind fun q2 =>
    (g_Machine_perform x2_stack x2_variables x2_kept x2_height x2_printed q1 q2).bind fun q3 =>
    b_Walker_perform_9 x1_source_ops x1_source_numbers x1_source_size n q3.1 q3.2.1 q3.2.2.1 q3.2.2.2.1 q3.2.2.2.2 v3 (v5 + (1 : Int32))
def g_Walker_perform (x1_source_ops : Nat → Int32) (x1_source_numbers : Nat → Int32) (x1_source_size : Int32) (x2_stack : Nat → Int32) (x2_variables : Nat → Int32) (x2_kept : Nat → Int32) (x2_height : Int32) (x2_printed : Int32) (a2 : Int32) (a3 : Int32) : Option ((Nat → Int32) × (Nat → Int32) × (Nat → Int32) × Int32 × Int32) :=
  b_Walker_perform_9 x1_source_ops x1_source_numbers x1_source_size 500 x2_stack x2_variables x2_kept x2_height x2_printed a3 a2
def g_Walker_valueOf (x1_source_ops : Nat → Int32) (x1_source_numbers : Nat → Int32) (x1_source_size : Int32) (x1_froms : Nat → Int32) (x1_marks : Nat → Int32) (x1_size : Int32) (x2_stack : Nat → Int32) (x2_variables : Nat → Int32) (x2_kept : Nat → Int32) (x2_height : Int32) (x2_printed : Int32) (a2 : Int32) : Option (Int32 × (Nat → Int32) × (Nat → Int32) × (Nat → Int32) × Int32 × Int32) :=
  (g_Tree_from x1_froms x1_size a2).bind fun q1 =>
  (g_Tree_mark x1_marks x1_size a2).bind fun q2 =>
  (g_Walker_perform x1_source_ops x1_source_numbers x1_source_size x2_stack x2_variables x2_kept x2_height x2_printed q1 q2).bind fun q3 =>
  (g_Machine_pop q3.1 q3.2.2.2.1).bind fun q4 =>
  some (q4.1, q3.1, q3.2.1, q3.2.2.1, q4.2, q3.2.2.2.2)
def b_Walker_walkFrom_14 (f_Walker_walkLoop : (Nat → Int32) → (Nat → Int32) → Int32 → (Nat → Int32) → (Nat → Int32) → (Nat → Int32) → (Nat → Int32) → (Nat → Int32) → (Nat → Int32) → Int32 → (Nat → Int32) → (Nat → Int32) → (Nat → Int32) → Int32 → Int32 → Int32 → Int32 → Int32 → Int32 → Option (Int32 × (Nat → Int32) × (Nat → Int32) × (Nat → Int32) × Int32 × Int32 × Int32)) (f_Walker_walkStatement : (Nat → Int32) → (Nat → Int32) → Int32 → (Nat → Int32) → (Nat → Int32) → (Nat → Int32) → (Nat → Int32) → (Nat → Int32) → (Nat → Int32) → Int32 → (Nat → Int32) → (Nat → Int32) → (Nat → Int32) → Int32 → Int32 → Int32 → Int32 → Int32 → Int32 → Option (Int32 × (Nat → Int32) × (Nat → Int32) × (Nat → Int32) × Int32 × Int32 × Int32)) (x1_source_ops : Nat → Int32) (x1_source_numbers : Nat → Int32) (x1_source_size : Int32) (x1_kinds : Nat → Int32) (x1_froms : Nat → Int32) (x1_marks : Nat → Int32) (x1_parts : Nat → Int32) (x1_others : Nat → Int32) (x1_followers : Nat → Int32) (x1_size : Int32) (x2_limit : Int32) : Nat → (Nat → Int32) → (Nat → Int32) → (Nat → Int32) → Int32 → Int32 → Int32 → Int32 → Int32 → Int32 → Option (Int32 × (Nat → Int32) × (Nat → Int32) × (Nat → Int32) × Int32 × Int32 × Int32)
  | 0, _, _, _, _, _, _, _, _, _ => none
  | n + 1, x2_stack, x2_variables, x2_kept, x2_height, x2_printed, x2_done, v3, v4, v5 =>
    if (15 : Int32) ≤ v5 then
      some ((1 : Int32), x2_stack, x2_variables, x2_kept, x2_height, x2_printed, x2_done)
    else
    (g_Tree_holds x1_size v4).bind fun q1 =>
    if q1 = 0 then
      some ((1 : Int32), x2_stack, x2_variables, x2_kept, x2_height, x2_printed, x2_done)
    else
    (g_Tree_kind x1_kinds x1_size v4).bind fun q2 =>
    if q2 = (11 : Int32) then
      (f_Walker_walkLoop x1_source_ops x1_source_numbers x1_source_size x1_kinds x1_froms x1_marks x1_parts x1_others x1_followers x1_size x2_stack x2_variables x2_kept x2_height x2_printed x2_done x2_limit v4 v3).bind fun q5 =>
      if q5.1 = 0 then
        some ((0 : Int32), q5.2.1, q5.2.2.1, q5.2.2.2.1, q5.2.2.2.2.1, q5.2.2.2.2.2.1, q5.2.2.2.2.2.2)
      else
      (g_Tree_follower x1_followers x1_size v4).bind fun q6 =>
      b_Walker_walkFrom_14 f_Walker_walkLoop f_Walker_walkStatement x1_source_ops x1_source_numbers x1_source_size x1_kinds x1_froms x1_marks x1_parts x1_others x1_followers x1_size x2_limit n q5.2.1 q5.2.2.1 q5.2.2.2.1 q5.2.2.2.2.1 q5.2.2.2.2.2.1 q5.2.2.2.2.2.2 v3 q6 (v5 + (1 : Int32))
    else
    (f_Walker_walkStatement x1_source_ops x1_source_numbers x1_source_size x1_kinds x1_froms x1_marks x1_parts x1_others x1_followers x1_size x2_stack x2_variables x2_kept x2_height x2_printed x2_done x2_limit v4 v3).bind fun q3 =>
    if q3.1 = 0 then
      some ((0 : Int32), q3.2.1, q3.2.2.1, q3.2.2.2.1, q3.2.2.2.2.1, q3.2.2.2.2.2.1, q3.2.2.2.2.2.2)
    else
    (g_Tree_follower x1_followers x1_size v4).bind fun q4 =>
    b_Walker_walkFrom_14 f_Walker_walkLoop f_Walker_walkStatement x1_source_ops x1_source_numbers x1_source_size x1_kinds x1_froms x1_marks x1_parts x1_others x1_followers x1_size x2_limit n q3.2.1 q3.2.2.1 q3.2.2.2.1 q3.2.2.2.2.1 q3.2.2.2.2.2.1 q3.2.2.2.2.2.2 v3 q4 (v5 + (1 : Int32))
def gb_Walker_walkFrom (f_Walker_walkLoop : (Nat → Int32) → (Nat → Int32) → Int32 → (Nat → Int32) → (Nat → Int32) → (Nat → Int32) → (Nat → Int32) → (Nat → Int32) → (Nat → Int32) → Int32 → (Nat → Int32) → (Nat → Int32) → (Nat → Int32) → Int32 → Int32 → Int32 → Int32 → Int32 → Int32 → Option (Int32 × (Nat → Int32) × (Nat → Int32) × (Nat → Int32) × Int32 × Int32 × Int32)) (f_Walker_walkStatement : (Nat → Int32) → (Nat → Int32) → Int32 → (Nat → Int32) → (Nat → Int32) → (Nat → Int32) → (Nat → Int32) → (Nat → Int32) → (Nat → Int32) → Int32 → (Nat → Int32) → (Nat → Int32) → (Nat → Int32) → Int32 → Int32 → Int32 → Int32 → Int32 → Int32 → Option (Int32 × (Nat → Int32) × (Nat → Int32) × (Nat → Int32) × Int32 × Int32 × Int32)) (x1_source_ops : Nat → Int32) (x1_source_numbers : Nat → Int32) (x1_source_size : Int32) (x1_kinds : Nat → Int32) (x1_froms : Nat → Int32) (x1_marks : Nat → Int32) (x1_parts : Nat → Int32) (x1_others : Nat → Int32) (x1_followers : Nat → Int32) (x1_size : Int32) (x2_stack : Nat → Int32) (x2_variables : Nat → Int32) (x2_kept : Nat → Int32) (x2_height : Int32) (x2_printed : Int32) (x2_done : Int32) (x2_limit : Int32) (a2 : Int32) (a3 : Int32) : Option (Int32 × (Nat → Int32) × (Nat → Int32) × (Nat → Int32) × Int32 × Int32 × Int32) :=
  if a3 ≤ (15 : Int32) then
    b_Walker_walkFrom_14 f_Walker_walkLoop f_Walker_walkStatement x1_source_ops x1_source_numbers x1_source_size x1_kinds x1_froms x1_marks x1_parts x1_others x1_followers x1_size x2_limit 500 x2_stack x2_variables x2_kept x2_height x2_printed x2_done a3 a2 (0 : Int32)
  else
  some ((0 : Int32), x2_stack, x2_variables, x2_kept, x2_height, x2_printed, x2_done)
def b_Walker_walkLoop_3 (f_Walker_walkFrom : (Nat → Int32) → (Nat → Int32) → Int32 → (Nat → Int32) → (Nat → Int32) → (Nat → Int32) → (Nat → Int32) → (Nat → Int32) → (Nat → Int32) → Int32 → (Nat → Int32) → (Nat → Int32) → (Nat → Int32) → Int32 → Int32 → Int32 → Int32 → Int32 → Int32 → Option (Int32 × (Nat → Int32) × (Nat → Int32) × (Nat → Int32) × Int32 × Int32 × Int32)) (x1_source_ops : Nat → Int32) (x1_source_numbers : Nat → Int32) (x1_source_size : Int32) (x1_kinds : Nat → Int32) (x1_froms : Nat → Int32) (x1_marks : Nat → Int32) (x1_parts : Nat → Int32) (x1_others : Nat → Int32) (x1_followers : Nat → Int32) (x1_size : Int32) (x2_limit : Int32) : Nat → (Nat → Int32) → (Nat → Int32) → (Nat → Int32) → Int32 → Int32 → Int32 → Int32 → Int32 → Int32 → Option (Int32 × (Nat → Int32) × (Nat → Int32) × (Nat → Int32) × Int32 × Int32 × Int32)
  | 0, _, _, _, _, _, _, _, _, _ => none
  | n + 1, x2_stack, x2_variables, x2_kept, x2_height, x2_printed, x2_done, v2, v3, v4 =>
    if (400 : Int32) < v4 then
      some ((0 : Int32), x2_stack, x2_variables, x2_kept, x2_height, x2_printed, x2_done)
    else
    (g_Machine_spend x2_done x2_limit).bind fun q1 =>
    if q1.1 = 0 then
      some ((0 : Int32), x2_stack, x2_variables, x2_kept, x2_height, x2_printed, q1.2)
    else
    (g_Walker_valueOf x1_source_ops x1_source_numbers x1_source_size x1_froms x1_marks x1_size x2_stack x2_variables x2_kept x2_height x2_printed v2).bind fun q2 =>
    if q2.1 = 0 then
      some ((1 : Int32), q2.2.1, q2.2.2.1, q2.2.2.2.1, q2.2.2.2.2.1, q2.2.2.2.2.2, q1.2)
    else
    (g_Tree_part x1_parts x1_size v2).bind fun q3 =>
    (f_Walker_walkFrom x1_source_ops x1_source_numbers x1_source_size x1_kinds x1_froms x1_marks x1_parts x1_others x1_followers x1_size q2.2.1 q2.2.2.1 q2.2.2.2.1 q2.2.2.2.2.1 q2.2.2.2.2.2 q1.2 x2_limit q3 (v3 + (1 : Int32))).bind fun q4 =>
    if q4.1 = 0 then
      some ((0 : Int32), q4.2.1, q4.2.2.1, q4.2.2.2.1, q4.2.2.2.2.1, q4.2.2.2.2.2.1, q4.2.2.2.2.2.2)
    else
    b_Walker_walkLoop_3 f_Walker_walkFrom x1_source_ops x1_source_numbers x1_source_size x1_kinds x1_froms x1_marks x1_parts x1_others x1_followers x1_size x2_limit n q4.2.1 q4.2.2.1 q4.2.2.2.1 q4.2.2.2.2.1 q4.2.2.2.2.2.1 q4.2.2.2.2.2.2 v2 v3 (v4 + (1 : Int32))
def gb_Walker_walkLoop (f_Walker_walkFrom : (Nat → Int32) → (Nat → Int32) → Int32 → (Nat → Int32) → (Nat → Int32) → (Nat → Int32) → (Nat → Int32) → (Nat → Int32) → (Nat → Int32) → Int32 → (Nat → Int32) → (Nat → Int32) → (Nat → Int32) → Int32 → Int32 → Int32 → Int32 → Int32 → Int32 → Option (Int32 × (Nat → Int32) × (Nat → Int32) × (Nat → Int32) × Int32 × Int32 × Int32)) (x1_source_ops : Nat → Int32) (x1_source_numbers : Nat → Int32) (x1_source_size : Int32) (x1_kinds : Nat → Int32) (x1_froms : Nat → Int32) (x1_marks : Nat → Int32) (x1_parts : Nat → Int32) (x1_others : Nat → Int32) (x1_followers : Nat → Int32) (x1_size : Int32) (x2_stack : Nat → Int32) (x2_variables : Nat → Int32) (x2_kept : Nat → Int32) (x2_height : Int32) (x2_printed : Int32) (x2_done : Int32) (x2_limit : Int32) (a2 : Int32) (a3 : Int32) : Option (Int32 × (Nat → Int32) × (Nat → Int32) × (Nat → Int32) × Int32 × Int32 × Int32) :=
  b_Walker_walkLoop_3 f_Walker_walkFrom x1_source_ops x1_source_numbers x1_source_size x1_kinds x1_froms x1_marks x1_parts x1_others x1_followers x1_size x2_limit 500 x2_stack x2_variables x2_kept x2_height x2_printed x2_done a2 a3 (0 : Int32)
def b_Walker_walkStatement_29 (f_Walker_walkFrom : (Nat → Int32) → (Nat → Int32) → Int32 → (Nat → Int32) → (Nat → Int32) → (Nat → Int32) → (Nat → Int32) → (Nat → Int32) → (Nat → Int32) → Int32 → (Nat → Int32) → (Nat → Int32) → (Nat → Int32) → Int32 → Int32 → Int32 → Int32 → Int32 → Int32 → Option (Int32 × (Nat → Int32) × (Nat → Int32) × (Nat → Int32) × Int32 × Int32 × Int32)) (x1_source_ops : Nat → Int32) (x1_source_numbers : Nat → Int32) (x1_source_size : Int32) (x1_kinds : Nat → Int32) (x1_froms : Nat → Int32) (x1_marks : Nat → Int32) (x1_parts : Nat → Int32) (x1_others : Nat → Int32) (x1_followers : Nat → Int32) (x1_size : Int32) (x2_limit : Int32) (x2_stack : Nat → Int32) (x2_variables : Nat → Int32) (x2_kept : Nat → Int32) (x2_height : Int32) (x2_printed : Int32) (x2_done : Int32) (v2 : Int32) : Option (Int32 × (Nat → Int32) × (Nat → Int32) × (Nat → Int32) × Int32 × Int32 × Int32) :=
  (g_Tree_from x1_froms x1_size v2).bind fun q1 =>
  (g_Tree_mark x1_marks x1_size v2).bind fun q2 =>
  (g_Walker_perform x1_source_ops x1_source_numbers x1_source_size x2_stack x2_variables x2_kept x2_height x2_printed q1 (q2 + (1 : Int32))).bind fun q3 =>
  some ((1 : Int32), q3.1, q3.2.1, q3.2.2.1, q3.2.2.2.1, q3.2.2.2.2, x2_done)
def b_Walker_walkStatement_62 (f_Walker_walkFrom : (Nat → Int32) → (Nat → Int32) → Int32 → (Nat → Int32) → (Nat → Int32) → (Nat → Int32) → (Nat → Int32) → (Nat → Int32) → (Nat → Int32) → Int32 → (Nat → Int32) → (Nat → Int32) → (Nat → Int32) → Int32 → Int32 → Int32 → Int32 → Int32 → Int32 → Option (Int32 × (Nat → Int32) × (Nat → Int32) × (Nat → Int32) × Int32 × Int32 × Int32)) (x1_source_ops : Nat → Int32) (x1_source_numbers : Nat → Int32) (x1_source_size : Int32) (x1_kinds : Nat → Int32) (x1_froms : Nat → Int32) (x1_marks : Nat → Int32) (x1_parts : Nat → Int32) (x1_others : Nat → Int32) (x1_followers : Nat → Int32) (x1_size : Int32) (x2_limit : Int32) (x2_stack : Nat → Int32) (x2_variables : Nat → Int32) (x2_kept : Nat → Int32) (x2_height : Int32) (x2_printed : Int32) (x2_done : Int32) (v2 : Int32) (v3 : Int32) (k0 : Int32) : Option (Int32 × (Nat → Int32) × (Nat → Int32) × (Nat → Int32) × Int32 × Int32 × Int32) :=
  if k0 = 0 then
    (g_Tree_other x1_others x1_size v2).bind fun q1 =>
    (f_Walker_walkFrom x1_source_ops x1_source_numbers x1_source_size x1_kinds x1_froms x1_marks x1_parts x1_others x1_followers x1_size x2_stack x2_variables x2_kept x2_height x2_printed x2_done x2_limit q1 (v3 + (1 : Int32))).bind fun q2 =>
    if q2.1 = 0 ∨ q2.1 = 1 then some (q2.1, q2.2.1, q2.2.2.1, q2.2.2.2.1, q2.2.2.2.2.1, q2.2.2.2.2.2.1, q2.2.2.2.2.2.2) else none
  else
  (g_Tree_part x1_parts x1_size v2).bind fun q3 =>
  (f_Walker_walkFrom x1_source_ops x1_source_numbers x1_source_size x1_kinds x1_froms x1_marks x1_parts x1_others x1_followers x1_size x2_stack x2_variables x2_kept x2_height x2_printed x2_done x2_limit q3 (v3 + (1 : Int32))).bind fun q4 =>
  if q4.1 = 0 ∨ q4.1 = 1 then some (q4.1, q4.2.1, q4.2.2.1, q4.2.2.2.1, q4.2.2.2.2.1, q4.2.2.2.2.2.1, q4.2.2.2.2.2.2) else none
def gb_Walker_walkStatement (f_Walker_walkFrom : (Nat → Int32) → (Nat → Int32) → Int32 → (Nat → Int32) → (Nat → Int32) → (Nat → Int32) → (Nat → Int32) → (Nat → Int32) → (Nat → Int32) → Int32 → (Nat → Int32) → (Nat → Int32) → (Nat → Int32) → Int32 → Int32 → Int32 → Int32 → Int32 → Int32 → Option (Int32 × (Nat → Int32) × (Nat → Int32) × (Nat → Int32) × Int32 × Int32 × Int32)) (x1_source_ops : Nat → Int32) (x1_source_numbers : Nat → Int32) (x1_source_size : Int32) (x1_kinds : Nat → Int32) (x1_froms : Nat → Int32) (x1_marks : Nat → Int32) (x1_parts : Nat → Int32) (x1_others : Nat → Int32) (x1_followers : Nat → Int32) (x1_size : Int32) (x2_stack : Nat → Int32) (x2_variables : Nat → Int32) (x2_kept : Nat → Int32) (x2_height : Int32) (x2_printed : Int32) (x2_done : Int32) (x2_limit : Int32) (a2 : Int32) (a3 : Int32) : Option (Int32 × (Nat → Int32) × (Nat → Int32) × (Nat → Int32) × Int32 × Int32 × Int32) :=
  (g_Machine_spend x2_done x2_limit).bind fun q1 =>
  if q1.1 = 0 then
    some ((0 : Int32), x2_stack, x2_variables, x2_kept, x2_height, x2_printed, q1.2)
  else
  (g_Tree_kind x1_kinds x1_size a2).bind fun q2 =>
  if q2 = (2 : Int32) then
    b_Walker_walkStatement_29 f_Walker_walkFrom x1_source_ops x1_source_numbers x1_source_size x1_kinds x1_froms x1_marks x1_parts x1_others x1_followers x1_size x2_limit x2_stack x2_variables x2_kept x2_height x2_printed q1.2 a2
  else
  if q2 = (10 : Int32) then
    b_Walker_walkStatement_29 f_Walker_walkFrom x1_source_ops x1_source_numbers x1_source_size x1_kinds x1_froms x1_marks x1_parts x1_others x1_followers x1_size x2_limit x2_stack x2_variables x2_kept x2_height x2_printed q1.2 a2
  else
  (g_Walker_valueOf x1_source_ops x1_source_numbers x1_source_size x1_froms x1_marks x1_size x2_stack x2_variables x2_kept x2_height x2_printed a2).bind fun q3 =>
  if q3.1 = 0 then
    b_Walker_walkStatement_62 f_Walker_walkFrom x1_source_ops x1_source_numbers x1_source_size x1_kinds x1_froms x1_marks x1_parts x1_others x1_followers x1_size x2_limit q3.2.1 q3.2.2.1 q3.2.2.2.1 q3.2.2.2.2.1 q3.2.2.2.2.2 q1.2 a2 a3 (0 : Int32)
  else
  b_Walker_walkStatement_62 f_Walker_walkFrom x1_source_ops x1_source_numbers x1_source_size x1_kinds x1_froms x1_marks x1_parts x1_others x1_followers x1_size x2_limit q3.2.1 q3.2.2.1 q3.2.2.2.1 q3.2.2.2.2.1 q3.2.2.2.2.2 q1.2 a2 a3 (1 : Int32)
def gg_Walker_walkFrom : Nat → ((Nat → Int32) → (Nat → Int32) → Int32 → (Nat → Int32) → (Nat → Int32) → (Nat → Int32) → (Nat → Int32) → (Nat → Int32) → (Nat → Int32) → Int32 → (Nat → Int32) → (Nat → Int32) → (Nat → Int32) → Int32 → Int32 → Int32 → Int32 → Int32 → Int32 → Option (Int32 × (Nat → Int32) × (Nat → Int32) × (Nat → Int32) × Int32 × Int32 × Int32)) × ((Nat → Int32) → (Nat → Int32) → Int32 → (Nat → Int32) → (Nat → Int32) → (Nat → Int32) → (Nat → Int32) → (Nat → Int32) → (Nat → Int32) → Int32 → (Nat → Int32) → (Nat → Int32) → (Nat → Int32) → Int32 → Int32 → Int32 → Int32 → Int32 → Int32 → Option (Int32 × (Nat → Int32) × (Nat → Int32) × (Nat → Int32) × Int32 × Int32 × Int32)) × ((Nat → Int32) → (Nat → Int32) → Int32 → (Nat → Int32) → (Nat → Int32) → (Nat → Int32) → (Nat → Int32) → (Nat → Int32) → (Nat → Int32) → Int32 → (Nat → Int32) → (Nat → Int32) → (Nat → Int32) → Int32 → Int32 → Int32 → Int32 → Int32 → Int32 → Option (Int32 × (Nat → Int32) × (Nat → Int32) × (Nat → Int32) × Int32 × Int32 × Int32))
  | 0 => (fun _ _ _ _ _ _ _ _ _ _ _ _ _ _ _ _ _ _ _ => none, fun _ _ _ _ _ _ _ _ _ _ _ _ _ _ _ _ _ _ _ => none, fun _ _ _ _ _ _ _ _ _ _ _ _ _ _ _ _ _ _ _ => none)
  | n + 1 => (gb_Walker_walkFrom (gg_Walker_walkFrom n).2.1 (gg_Walker_walkFrom n).2.2, gb_Walker_walkLoop (gg_Walker_walkFrom n).1, gb_Walker_walkStatement (gg_Walker_walkFrom n).1)
abbrev g_Walker_walkFrom (n : Nat) : (Nat → Int32) → (Nat → Int32) → Int32 → (Nat → Int32) → (Nat → Int32) → (Nat → Int32) → (Nat → Int32) → (Nat → Int32) → (Nat → Int32) → Int32 → (Nat → Int32) → (Nat → Int32) → (Nat → Int32) → Int32 → Int32 → Int32 → Int32 → Int32 → Int32 → Option (Int32 × (Nat → Int32) × (Nat → Int32) × (Nat → Int32) × Int32 × Int32 × Int32) := (gg_Walker_walkFrom n).1
abbrev g_Walker_walkLoop (n : Nat) : (Nat → Int32) → (Nat → Int32) → Int32 → (Nat → Int32) → (Nat → Int32) → (Nat → Int32) → (Nat → Int32) → (Nat → Int32) → (Nat → Int32) → Int32 → (Nat → Int32) → (Nat → Int32) → (Nat → Int32) → Int32 → Int32 → Int32 → Int32 → Int32 → Int32 → Option (Int32 × (Nat → Int32) × (Nat → Int32) × (Nat → Int32) × Int32 × Int32 × Int32) := (gg_Walker_walkFrom n).2.1
abbrev g_Walker_walkStatement (n : Nat) : (Nat → Int32) → (Nat → Int32) → Int32 → (Nat → Int32) → (Nat → Int32) → (Nat → Int32) → (Nat → Int32) → (Nat → Int32) → (Nat → Int32) → Int32 → (Nat → Int32) → (Nat → Int32) → (Nat → Int32) → Int32 → Int32 → Int32 → Int32 → Int32 → Int32 → Option (Int32 × (Nat → Int32) × (Nat → Int32) × (Nat → Int32) × Int32 × Int32 × Int32) := (gg_Walker_walkFrom n).2.2
def g_Walker_follow (x1_source_ops : Nat → Int32) (x1_source_numbers : Nat → Int32) (x1_source_size : Int32) (x1_kinds : Nat → Int32) (x1_froms : Nat → Int32) (x1_marks : Nat → Int32) (x1_parts : Nat → Int32) (x1_others : Nat → Int32) (x1_followers : Nat → Int32) (x1_size : Int32) (x2_stack : Nat → Int32) (x2_variables : Nat → Int32) (x2_kept : Nat → Int32) (x2_height : Int32) (x2_printed : Int32) (x2_done : Int32) (x2_limit : Int32) : Option (Int32 × (Nat → Int32) × (Nat → Int32) × (Nat → Int32) × Int32 × Int32 × Int32) :=
  (g_Tree_first x1_size).bind fun q1 =>
  (g_Walker_walkFrom 100 x1_source_ops x1_source_numbers x1_source_size x1_kinds x1_froms x1_marks x1_parts x1_others x1_followers x1_size x2_stack x2_variables x2_kept x2_height x2_printed x2_done x2_limit q1 (0 : Int32)).bind fun q2 =>
  if q2.1 = 0 ∨ q2.1 = 1 then some (q2.1, q2.2.1, q2.2.2.1, q2.2.2.2.1, q2.2.2.2.2.1, q2.2.2.2.2.2.1, q2.2.2.2.2.2.2) else none
def g_S_walk (t_tree_source_ops : Nat → Int32) (t_tree_source_numbers : Nat → Int32) (t_tree_source_size : Int32) (t_tree_kinds : Nat → Int32) (t_tree_froms : Nat → Int32) (t_tree_marks : Nat → Int32) (t_tree_parts : Nat → Int32) (t_tree_others : Nat → Int32) (t_tree_followers : Nat → Int32) (t_tree_size : Int32) (t_tree_stands : Int32) (t_machine_stack : Nat → Int32) (t_machine_variables : Nat → Int32) (t_machine_kept : Nat → Int32) (t_machine_height : Int32) (t_machine_printed : Int32) (t_machine_done : Int32) (t_machine_limit : Int32) (a1 : Int32) (a2 : Int32) : Option (Int32 × (Nat → Int32) × (Nat → Int32) × (Nat → Int32) × Int32 × Int32 × Int32 × Int32) :=
  if a2 < 0 then
    some ((-1 : Int32), t_machine_stack, t_machine_variables, t_machine_kept, t_machine_height, t_machine_printed, t_machine_done, t_machine_limit)
  else
  if a2 ≤ (400 : Int32) then
    (g_Tree_stands t_tree_stands).bind fun q1 =>
    if q1 = 0 then
      some ((-2 : Int32), t_machine_stack, t_machine_variables, t_machine_kept, t_machine_height, t_machine_printed, t_machine_done, t_machine_limit)
    else
    (g_Machine_start t_machine_variables t_machine_height t_machine_printed t_machine_done t_machine_limit a1 a2).bind fun q2 =>
    (g_Walker_follow t_tree_source_ops t_tree_source_numbers t_tree_source_size t_tree_kinds t_tree_froms t_tree_marks t_tree_parts t_tree_others t_tree_followers t_tree_size t_machine_stack q2.1 t_machine_kept q2.2.1 q2.2.2.1 q2.2.2.2.1 q2.2.2.2.2).bind fun q3 =>
    if q3.1 = 0 then
      some ((-7 : Int32), q3.2.1, q3.2.2.1, q3.2.2.2.1, q3.2.2.2.2.1, q3.2.2.2.2.2.1, q3.2.2.2.2.2.2, q2.2.2.2.2)
    else
    (g_Machine_printed q3.2.2.2.2.2.1).bind fun q4 =>
    some (q4, q3.2.1, q3.2.2.1, q3.2.2.2.1, q3.2.2.2.2.1, q3.2.2.2.2.2.1, q3.2.2.2.2.2.2, q2.2.2.2.2)
  else
  some ((-1 : Int32), t_machine_stack, t_machine_variables, t_machine_kept, t_machine_height, t_machine_printed, t_machine_done, t_machine_limit)
def g_Machine_kept (t_kept : Nat → Int32) (t_printed : Int32) (a1 : Int32) : Option (Int32) :=
  if a1 < 0 then
    some ((0 : Int32))
  else
  if t_printed ≤ a1 then
    some ((0 : Int32))
  else
  if (20 : Int32) ≤ a1 then
    some ((0 : Int32))
  else
  if ck a1 20 = true then
  some (t_kept a1.toNatClampNeg)
  else none
def g_S_output (t_machine_kept : Nat → Int32) (t_machine_printed : Int32) (a1 : Int32) : Option (Int32) :=
  (g_Machine_kept t_machine_kept t_machine_printed a1).bind fun q1 =>
  some (q1)
def g_Machine_done (t_done : Int32) : Option (Int32) :=
  some (t_done)
def g_Tree_depth (t_depth : Int32) : Option (Int32) :=
  some (t_depth)
def g_Tree_size (t_size : Int32) : Option (Int32) :=
  some (t_size)
def b_Tree_sizeOf_4 (t_kinds : Nat → Int32) (t_size : Int32) : Nat → Int32 → Int32 → Int32 → Option (Int32)
  | 0, _, _, _ => none
  | n + 1, v1, v2, v3 =>
    if t_size ≤ v3 then
      some (v2)
    else
    if ck v3 15 = true then
    if (t_kinds v3.toNatClampNeg) = v1 then
      b_Tree_sizeOf_4 t_kinds t_size n v1 (v2 + (1 : Int32)) (v3 + (1 : Int32))
    else
    b_Tree_sizeOf_4 t_kinds t_size n v1 v2 (v3 + (1 : Int32))
    else none
def g_Tree_sizeOf (t_kinds : Nat → Int32) (t_size : Int32) (a1 : Int32) : Option (Int32) :=
  b_Tree_sizeOf_4 t_kinds t_size 500 a1 (0 : Int32) (0 : Int32)
def g_S_count (t_listing_size : Int32) (t_draft_row_size : Int32) (t_written_size : Int32) (t_tree_kinds : Nat → Int32) (t_tree_size : Int32) (t_tree_depth : Int32) (t_machine_variables : Nat → Int32) (t_machine_printed : Int32) (t_machine_done : Int32) (a1 : Int32) : Option (Int32) :=
  if a1 = (0 : Int32) then
    (g_Listing_size t_listing_size).bind fun q1 =>
    some (q1)
  else if a1 = (1 : Int32) then
    (g_Characters_size t_draft_row_size).bind fun q3 =>
    some (q3)
  else if a1 = (2 : Int32) then
    (g_Characters_size t_written_size).bind fun q4 =>
    some (q4)
  else if a1 = (3 : Int32) then
    (g_Machine_printed t_machine_printed).bind fun q5 =>
    some (q5)
  else if a1 = (4 : Int32) then
    (g_Machine_done t_machine_done).bind fun q6 =>
    some (q6)
  else if a1 = (5 : Int32) then
    (g_Tree_size t_tree_size).bind fun q7 =>
    some (q7)
  else if a1 = (6 : Int32) then
    (g_Tree_sizeOf t_tree_kinds t_tree_size (11 : Int32)).bind fun q8 =>
    some (q8)
  else if a1 = (7 : Int32) then
    (g_Tree_sizeOf t_tree_kinds t_tree_size (12 : Int32)).bind fun q9 =>
    some (q9)
  else if a1 = (8 : Int32) then
    (g_Tree_sizeOf t_tree_kinds t_tree_size (13 : Int32)).bind fun q10 =>
    some (q10)
  else if a1 = (9 : Int32) then
    (g_Tree_depth t_tree_depth).bind fun q11 =>
    some (q11)
  else if a1 < (10 : Int32) then
    some ((-1 : Int32))
  else
  if (16 : Int32) ≤ a1 then
    some ((-1 : Int32))
  else
  (g_Machine_variable t_machine_variables (a1 - (10 : Int32))).bind fun q12 =>
  some (q12)
