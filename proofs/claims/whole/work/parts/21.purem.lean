def g_M_in (a0 : Int32) (a1 : Int32) (a2 : Int32) : Option (Int32) :=
  if a0 < a1 then
    some ((0 : Int32))
  else
  if a2 < a0 then
    some ((0 : Int32))
  else
  some ((1 : Int32))
def g_M_isGood (a0 : Int32) (a1 : Int32) : Option (Int32) :=
  if a0 = 0 then
    (g_M_in a1 (0 : Int32) (99 : Int32)).bind fun q6 =>
    if q6 = 0 ∨ q6 = 1 then some (q6) else none
  else
  if a0 = (1 : Int32) then
    (g_M_in a1 (0 : Int32) (5 : Int32)).bind fun q1 =>
    if q1 = 0 ∨ q1 = 1 then some (q1) else none
  else
  if a0 = (2 : Int32) then
    (g_M_in a1 (0 : Int32) (5 : Int32)).bind fun q5 =>
    if q5 = 0 ∨ q5 = 1 then some (q5) else none
  else
  if a0 = (8 : Int32) then
    (g_M_in a1 (0 : Int32) (30 : Int32)).bind fun q2 =>
    if q2 = 0 ∨ q2 = 1 then some (q2) else none
  else
  if a0 = (9 : Int32) then
    (g_M_in a1 (0 : Int32) (30 : Int32)).bind fun q4 =>
    if q4 = 0 ∨ q4 = 1 then some (q4) else none
  else
  (g_M_in a0 (3 : Int32) (10 : Int32)).bind fun q3 =>
  if q3 = 0 ∨ q3 = 1 then some (q3) else none
def g_M_has (a0 : Int32) : Option (Int32) :=
  if a0 < (3 : Int32) then
    some ((1 : Int32))
  else
  if a0 = (8 : Int32) then
    some ((1 : Int32))
  else
  if a0 = (9 : Int32) then
    some ((1 : Int32))
  else
  some ((0 : Int32))
def g_M_change (t_op : Nat → Int32) (t_to : Nat → Int32) (t_many : Int32) (a1 : Int32) (a2 : Int32) (a3 : Int32) : Option (Int32 × (Nat → Int32) × (Nat → Int32)) :=
  (g_M_in a1 (0 : Int32) (t_many - (1 : Int32))).bind fun q1 =>
  if q1 = 0 then
    some ((0 : Int32), t_op, t_to)
  else
  (g_M_isGood a2 a3).bind fun q2 =>
  if q2 = 0 then
    some ((0 : Int32), t_op, t_to)
  else
  if ck a1 30 = true then
  (g_M_has a2).bind fun q3 =>
  if q3 = 0 then
    if ck a1 31 = true then
    some ((1 : Int32), upd t_op a1.toNatClampNeg a2, upd t_to a1.toNatClampNeg (0 : Int32))
    else none
  else
  if ck a1 31 = true then
  some ((1 : Int32), upd t_op a1.toNatClampNeg a2, upd t_to a1.toNatClampNeg a3)
  else none
  else none
def g_M_put (t_op : Nat → Int32) (t_to : Nat → Int32) (t_many : Int32) (a1 : Int32) (a2 : Int32) : Option (Int32 × (Nat → Int32) × (Nat → Int32) × Int32) :=
  (g_M_isGood a1 a2).bind fun q1 =>
  if q1 = 0 then
    some ((-1 : Int32), t_op, t_to, t_many)
  else
  if t_many = (30 : Int32) then
    some ((-3 : Int32), t_op, t_to, t_many)
  else
  (g_M_change t_op t_to (t_many + (1 : Int32)) ((t_many + (1 : Int32)) - (1 : Int32)) a1 a2).bind fun q2 =>
  some (t_many + (1 : Int32), q2.2.1, q2.2.2, t_many + (1 : Int32))
def b_M_clear_26 (t_many : Int32) (t_letters : Int32) (v1 : Int32) (k0 : Int32) : Option (Int32 × Int32 × Int32) :=
  if v1 = 0 then
    if v1 = 0 then
      some (k0, (0 : Int32), t_letters)
    else
    some (k0, (0 : Int32), (0 : Int32))
  else
  if v1 = 0 then
    some (k0, t_many, t_letters)
  else
  some (k0, t_many, (0 : Int32))
def g_M_clear (t_many : Int32) (t_letters : Int32) (a1 : Int32) : Option (Int32 × Int32 × Int32) :=
  (g_M_in a1 (0 : Int32) (1 : Int32)).bind fun q1 =>
  if q1 = 0 then
    some ((-1 : Int32), t_many, t_letters)
  else
  if a1 = 0 then
    b_M_clear_26 t_many t_letters a1 t_many
  else
  b_M_clear_26 t_many t_letters a1 t_letters
def g_M_grows (a0 : Int32) : Option (Int32) :=
  if (2 : Int32) ≤ a0 then
    if a0 = (7 : Int32) then
      some ((0 : Int32))
    else
    if a0 = (8 : Int32) then
      some ((0 : Int32))
    else
    some ((-1 : Int32))
  else
  some ((1 : Int32))
def b_M_height_4 (t_op : Nat → Int32) : Nat → Int32 → Int32 → Int32 → Option (Int32)
  | 0, _, _, _ => none
  | n + 1, v1, v2, v3 =>
    if v1 ≤ v3 then
      some (v2)
    else
    if ck v3 30 = true then
    (g_M_grows (t_op v3.toNatClampNeg)).bind fun q1 =>
    b_M_height_4 t_op n v1 (v2 + q1) (v3 + (1 : Int32))
    else none
def g_M_height (t_op : Nat → Int32) (a1 : Int32) : Option (Int32) :=
  b_M_height_4 t_op 500 a1 (0 : Int32) (0 : Int32)
def b_M_code_31 (t_op : Nat → Int32) (t_to : Nat → Int32) (t_many : Int32) (v1 : Int32) (v2 : Int32) (k0 : Int32) (k1 : Int32) (k2 : Int32) : Option (Int32) :=
  (g_M_in k0 k1 k2).bind fun q1 =>
  if q1 = 0 then
    some ((-2 : Int32))
  else
  if v2 = 0 then
    if ck v1 30 = true then
    some (t_op v1.toNatClampNeg)
    else none
  else
  if v2 = (1 : Int32) then
    if ck v1 31 = true then
    some (t_to v1.toNatClampNeg)
    else none
  else
  (g_M_height t_op v1).bind fun q2 =>
  some (q2)
def g_M_code (t_op : Nat → Int32) (t_to : Nat → Int32) (t_many : Int32) (a1 : Int32) (a2 : Int32) : Option (Int32) :=
  (g_M_in a2 (0 : Int32) (2 : Int32)).bind fun q1 =>
  if q1 = 0 then
    some ((-1 : Int32))
  else
  if a2 = (2 : Int32) then
    b_M_code_31 t_op t_to t_many a1 a2 a1 (0 : Int32) t_many
  else
  b_M_code_31 t_op t_to t_many a1 a2 a1 (0 : Int32) (t_many - (1 : Int32))
def b_M_isWrong_122 (t_op : Nat → Int32) (t_to : Nat → Int32) (t_many : Int32) (v1 : Int32) : Option (Int32) :=
  if ck v1 31 = true then
  if t_many < (t_to v1.toNatClampNeg) then
    some ((1 : Int32))
  else
  if ck v1 31 = true then
  (g_M_height t_op (t_to v1.toNatClampNeg)).bind fun q1 =>
  if q1 = 0 then
    some ((0 : Int32))
  else
  some ((1 : Int32))
  else none
  else none
def g_M_isWrong (t_op : Nat → Int32) (t_to : Nat → Int32) (t_many : Int32) (a1 : Int32) : Option (Int32) :=
  (g_M_height t_op a1).bind fun q1 =>
  if a1 = t_many then
    if q1 = 0 then
      some ((0 : Int32))
    else
    some ((1 : Int32))
  else
  if ck a1 30 = true then
  if (t_op a1.toNatClampNeg) = 0 then
    if q1 ≤ (7 : Int32) then
      some ((0 : Int32))
    else
    some ((1 : Int32))
  else
  if (t_op a1.toNatClampNeg) = (1 : Int32) then
    if q1 ≤ (7 : Int32) then
      some ((0 : Int32))
    else
    some ((1 : Int32))
  else
  if (t_op a1.toNatClampNeg) = (7 : Int32) then
    if (1 : Int32) ≤ q1 then
      some ((0 : Int32))
    else
    some ((1 : Int32))
  else
  (g_M_in (t_op a1.toNatClampNeg) (3 : Int32) (6 : Int32)).bind fun q2 =>
  if q2 = 0 then
    if (t_op a1.toNatClampNeg) = (8 : Int32) then
      if q1 = 0 then
        if (t_op a1.toNatClampNeg) = (8 : Int32) then
          b_M_isWrong_122 t_op t_to t_many a1
        else
        if (t_op a1.toNatClampNeg) = (9 : Int32) then
          b_M_isWrong_122 t_op t_to t_many a1
        else
        some ((0 : Int32))
      else
      some ((1 : Int32))
    else
    if q1 = (1 : Int32) then
      if (t_op a1.toNatClampNeg) = (8 : Int32) then
        b_M_isWrong_122 t_op t_to t_many a1
      else
      if (t_op a1.toNatClampNeg) = (9 : Int32) then
        b_M_isWrong_122 t_op t_to t_many a1
      else
      some ((0 : Int32))
    else
    some ((1 : Int32))
  else
  if (2 : Int32) ≤ q1 then
    some ((0 : Int32))
  else
  some ((1 : Int32))
  else none
def b_M_verify_2 (t_op : Nat → Int32) (t_to : Nat → Int32) (t_many : Int32) : Nat → Int32 → Option (Int32)
  | 0, _ => none
  | n + 1, v1 =>
    if t_many < v1 then
      some ((-2 : Int32))
    else
    (g_M_isWrong t_op t_to t_many v1).bind fun q1 =>
    if q1 = 0 then
      b_M_verify_2 t_op t_to t_many n (v1 + (1 : Int32))
    else
    some (v1)
def g_M_verify (t_op : Nat → Int32) (t_to : Nat → Int32) (t_many : Int32) : Option (Int32) :=
  b_M_verify_2 t_op t_to t_many 500 (0 : Int32)
def g_M_write (t_text : Nat → Int32) (t_length : Int32) (a1 : Int32) : Option ((Nat → Int32) × Int32) :=
  if ck t_length 600 = true then
  some (upd t_text t_length.toNatClampNeg a1, t_length + (1 : Int32))
  else none
def g_M_push (t_todo : Nat → Int32) (t_with : Nat → Int32) (t_top : Int32) (a1 : Int32) (a2 : Int32) : Option ((Nat → Int32) × (Nat → Int32) × Int32) :=
  if ck t_top 600 = true then
  if ck t_top 600 = true then
  some (upd t_todo t_top.toNatClampNeg a1, upd t_with t_top.toNatClampNeg a2, t_top + (1 : Int32))
  else none
  else none
def b_M_startOf_4 (t_op : Nat → Int32) : Nat → Int32 → Int32 → Option (Int32)
  | 0, _, _ => none
  | n + 1, v2, v3 =>
    if v2 ≤ 0 then
      some (v3 + (1 : Int32))
    else
    if ck v3 30 = true then
    if (2 : Int32) ≤ (t_op v3.toNatClampNeg) then
      if ck v3 30 = true then
      if (t_op v3.toNatClampNeg) = (7 : Int32) then
        b_M_startOf_4 t_op n (v2 + (0 : Int32)) (v3 + (-1 : Int32))
      else
      b_M_startOf_4 t_op n (v2 + (1 : Int32)) (v3 + (-1 : Int32))
      else none
    else
    b_M_startOf_4 t_op n (v2 + (-1 : Int32)) (v3 + (-1 : Int32))
    else none
def g_M_startOf (t_op : Nat → Int32) (a1 : Int32) : Option (Int32) :=
  b_M_startOf_4 t_op 500 (1 : Int32) a1
def b_M_tell_239 (t_op : Nat → Int32) (t_to : Nat → Int32) (rc_11 : (Nat → Int32) → Int32 → (Nat → Int32) → (Nat → Int32) → Int32 → Int32 → Option ((Nat → Int32) × Int32 × (Nat → Int32) × (Nat → Int32) × Int32)) (t_text : Nat → Int32) (t_length : Int32) (t_todo : Nat → Int32) (t_with : Nat → Int32) (t_top : Int32) (v2 : Int32) (v3 : Int32) (k1 : Int32) (k2 : Int32) : Option ((Nat → Int32) × Int32 × (Nat → Int32) × (Nat → Int32) × Int32) :=
  (g_M_push t_todo t_with t_top k1 k2).bind fun q1 =>
  (g_M_startOf t_op (v3 - (1 : Int32))).bind fun q2 =>
  (g_M_push q1.1 q1.2.1 q1.2.2 (2 : Int32) (q2 - (1 : Int32))).bind fun q3 =>
  rc_11 t_text t_length q3.1 q3.2.1 q3.2.2 v2
def b_M_tell_11 (t_op : Nat → Int32) (t_to : Nat → Int32) : Nat → (Nat → Int32) → Int32 → (Nat → Int32) → (Nat → Int32) → Int32 → Int32 → Option ((Nat → Int32) × Int32 × (Nat → Int32) × (Nat → Int32) × Int32)
  | 0, _, _, _, _, _, _ => none
  | n + 1, t_text, t_length, t_todo, t_with, t_top, v2 =>
    if t_top ≤ v2 then
      some (t_text, t_length, t_todo, t_with, t_top)
    else
    if ck (t_top - (1 : Int32)) 600 = true then
    if ck (t_top - (1 : Int32)) 600 = true then
    if (t_todo (t_top - (1 : Int32)).toNatClampNeg) = (1 : Int32) then
      (g_M_write t_text t_length (t_with (t_top - (1 : Int32)).toNatClampNeg)).bind fun q10 =>
      b_M_tell_11 t_op t_to n q10.1 q10.2 t_todo t_with (t_top - (1 : Int32)) v2
    else
    if ck (t_with (t_top - (1 : Int32)).toNatClampNeg) 30 = true then
    if (t_op (t_with (t_top - (1 : Int32)).toNatClampNeg).toNatClampNeg) = 0 then
      if ck (t_with (t_top - (1 : Int32)).toNatClampNeg) 31 = true then
      if (t_to (t_with (t_top - (1 : Int32)).toNatClampNeg).toNatClampNeg) ≤ (9 : Int32) then
        if ck (t_with (t_top - (1 : Int32)).toNatClampNeg) 31 = true then
        (g_M_write t_text t_length ((48 : Int32) + ((t_to (t_with (t_top - (1 : Int32)).toNatClampNeg).toNatClampNeg) - (t_to (t_with (t_top - (1 : Int32)).toNatClampNeg).toNatClampNeg) / (10 : Int32) * (10 : Int32)))).bind fun q7 =>
        b_M_tell_11 t_op t_to n q7.1 q7.2 t_todo t_with (t_top - (1 : Int32)) v2
        else none
      else
      if ck (t_with (t_top - (1 : Int32)).toNatClampNeg) 31 = true then
      (g_M_write t_text t_length ((48 : Int32) + ((t_to (t_with (t_top - (1 : Int32)).toNatClampNeg).toNatClampNeg) / (10 : Int32)))).bind fun q8 =>
      if ck (t_with (t_top - (1 : Int32)).toNatClampNeg) 31 = true then
      (g_M_write q8.1 q8.2 ((48 : Int32) + ((t_to (t_with (t_top - (1 : Int32)).toNatClampNeg).toNatClampNeg) - (t_to (t_with (t_top - (1 : Int32)).toNatClampNeg).toNatClampNeg) / (10 : Int32) * (10 : Int32)))).bind fun q9 =>
      b_M_tell_11 t_op t_to n q9.1 q9.2 t_todo t_with (t_top - (1 : Int32)) v2
      else none
      else none
      else none
    else
    if ck (t_with (t_top - (1 : Int32)).toNatClampNeg) 30 = true then
    if (t_op (t_with (t_top - (1 : Int32)).toNatClampNeg).toNatClampNeg) = (1 : Int32) then
      if ck (t_with (t_top - (1 : Int32)).toNatClampNeg) 31 = true then
      (g_M_write t_text t_length ((97 : Int32) + (t_to (t_with (t_top - (1 : Int32)).toNatClampNeg).toNatClampNeg))).bind fun q6 =>
      b_M_tell_11 t_op t_to n q6.1 q6.2 t_todo t_with (t_top - (1 : Int32)) v2
      else none
    else
    if ck (t_with (t_top - (1 : Int32)).toNatClampNeg) 30 = true then
    if (t_op (t_with (t_top - (1 : Int32)).toNatClampNeg).toNatClampNeg) = (7 : Int32) then
      (g_M_write t_text t_length (33 : Int32)).bind fun q4 =>
      (g_M_push t_todo t_with (t_top - (1 : Int32)) (2 : Int32) ((t_with (t_top - (1 : Int32)).toNatClampNeg) - (1 : Int32))).bind fun q5 =>
      b_M_tell_11 t_op t_to n q4.1 q4.2 q5.1 q5.2.1 q5.2.2 v2
    else
    (g_M_write t_text t_length (40 : Int32)).bind fun q1 =>
    (g_M_push t_todo t_with (t_top - (1 : Int32)) (1 : Int32) (41 : Int32)).bind fun q2 =>
    (g_M_push q2.1 q2.2.1 q2.2.2 (2 : Int32) ((t_with (t_top - (1 : Int32)).toNatClampNeg) - (1 : Int32))).bind fun q3 =>
    if ck (t_with (t_top - (1 : Int32)).toNatClampNeg) 30 = true then
    if (t_op (t_with (t_top - (1 : Int32)).toNatClampNeg).toNatClampNeg) = (3 : Int32) then
      b_M_tell_239 t_op t_to (b_M_tell_11 t_op t_to n) q1.1 q1.2 q3.1 q3.2.1 q3.2.2 v2 (t_with (t_top - (1 : Int32)).toNatClampNeg) (1 : Int32) (43 : Int32)
    else
    if ck (t_with (t_top - (1 : Int32)).toNatClampNeg) 30 = true then
    if (t_op (t_with (t_top - (1 : Int32)).toNatClampNeg).toNatClampNeg) = (4 : Int32) then
      b_M_tell_239 t_op t_to (b_M_tell_11 t_op t_to n) q1.1 q1.2 q3.1 q3.2.1 q3.2.2 v2 (t_with (t_top - (1 : Int32)).toNatClampNeg) (1 : Int32) (45 : Int32)
    else
    if ck (t_with (t_top - (1 : Int32)).toNatClampNeg) 30 = true then
    if (t_op (t_with (t_top - (1 : Int32)).toNatClampNeg).toNatClampNeg) = (5 : Int32) then
      b_M_tell_239 t_op t_to (b_M_tell_11 t_op t_to n) q1.1 q1.2 q3.1 q3.2.1 q3.2.2 v2 (t_with (t_top - (1 : Int32)).toNatClampNeg) (1 : Int32) (42 : Int32)
    else
    b_M_tell_239 t_op t_to (b_M_tell_11 t_op t_to n) q1.1 q1.2 q3.1 q3.2.1 q3.2.2 v2 (t_with (t_top - (1 : Int32)).toNatClampNeg) (1 : Int32) (60 : Int32)
    else none
    else none
    else none
    else none
    else none
    else none
    else none
    else none
def g_M_tell (t_op : Nat → Int32) (t_to : Nat → Int32) (t_text : Nat → Int32) (t_length : Int32) (t_todo : Nat → Int32) (t_with : Nat → Int32) (t_top : Int32) (a1 : Int32) : Option ((Nat → Int32) × Int32 × (Nat → Int32) × (Nat → Int32) × Int32) :=
  (g_M_push t_todo t_with t_top (2 : Int32) a1).bind fun q1 =>
  b_M_tell_11 t_op t_to 1000 t_text t_length q1.1 q1.2.1 q1.2.2 t_top
def b_M_range_135 (t_op : Nat → Int32) (t_to : Nat → Int32) (t_text : Nat → Int32) (t_length : Int32) (t_where : Int32) (t_todo : Nat → Int32) (t_with : Nat → Int32) (t_top : Int32) (v2 : Int32) (v3 : Int32) : Option (Int32 × (Nat → Int32) × Int32 × Int32 × (Nat → Int32) × (Nat → Int32) × Int32) :=
  (g_M_tell t_op t_to t_text t_length t_todo t_with t_top (v3 - (1 : Int32))).bind fun q1 =>
  (g_M_write q1.1 q1.2.1 (59 : Int32)).bind fun q2 =>
  (g_M_push q1.2.2.1 q1.2.2.2.1 q1.2.2.2.2 (0 : Int32) ((v3 + (1 : Int32)) + ((64 : Int32) * v2))).bind fun q3 =>
  some ((1 : Int32), q2.1, q2.2, t_where, q3.1, q3.2.1, q3.2.2)
def b_M_range_377 (t_op : Nat → Int32) (t_to : Nat → Int32) (t_text : Nat → Int32) (t_length : Int32) (t_where : Int32) (t_todo : Nat → Int32) (t_with : Nat → Int32) (t_top : Int32) (v3 : Int32) (v4 : Int32) (v5 : Int32) (v6 : Int32) (v7 : Int32) : Option (Int32 × (Nat → Int32) × Int32 × Int32 × (Nat → Int32) × (Nat → Int32) × Int32) :=
  if v5 = 0 then
    (g_M_push t_todo t_with t_top (0 : Int32) ((v3 + (1 : Int32)) + ((64 : Int32) * v4))).bind fun q1 =>
    some ((1 : Int32), t_text, t_length, t_where, q1.1, q1.2.1, q1.2.2)
  else
  if v6 = 0 then
    if v7 = 0 then
      (g_M_push t_todo t_with t_top (0 : Int32) ((v3 + (1 : Int32)) + ((64 : Int32) * v4))).bind fun q3 =>
      some ((1 : Int32), t_text, t_length, t_where, q3.1, q3.2.1, q3.2.2)
    else
    (g_M_push t_todo t_with t_top (0 : Int32) ((v3 + (1 : Int32)) + ((64 : Int32) * (v4 - (1 : Int32))))).bind fun q4 =>
    some ((1 : Int32), t_text, t_length, t_where, q4.1, q4.2.1, q4.2.2)
  else
  (g_M_push t_todo t_with t_top (0 : Int32) ((v3 + (1 : Int32)) + ((64 : Int32) * (v4 - (1 : Int32))))).bind fun q2 =>
  some ((1 : Int32), t_text, t_length, t_where, q2.1, q2.2.1, q2.2.2)
def b_M_range_316 (t_op : Nat → Int32) (t_to : Nat → Int32) (t_text : Nat → Int32) (t_length : Int32) (t_where : Int32) (t_todo : Nat → Int32) (t_with : Nat → Int32) (t_top : Int32) (v2 : Int32) (v3 : Int32) (v4 : Int32) (v5 : Int32) (v6 : Int32) (v7 : Int32) (k1 : Int32) (k2 : Int32) : Option (Int32 × (Nat → Int32) × Int32 × Int32 × (Nat → Int32) × (Nat → Int32) × Int32) :=
  (g_M_push t_todo t_with t_top k1 (k2 + ((64 : Int32) * v2))).bind fun q1 =>
  (g_M_push q1.1 q1.2.1 q1.2.2 (1 : Int32) (125 : Int32)).bind fun q2 =>
  if v7 = 0 then
    b_M_range_377 t_op t_to t_text t_length t_where q2.1 q2.2.1 q2.2.2 v3 v4 v5 v6 v7
  else
  if ck (v4 - (1 : Int32)) 31 = true then
  (g_M_push q2.1 q2.2.1 q2.2.2 (0 : Int32) (v4 + ((64 : Int32) * (t_to (v4 - (1 : Int32)).toNatClampNeg)))).bind fun q3 =>
  (g_M_push q3.1 q3.2.1 q3.2.2 (1 : Int32) (123 : Int32)).bind fun q4 =>
  (g_M_push q4.1 q4.2.1 q4.2.2 (1 : Int32) (58 : Int32)).bind fun q5 =>
  (g_M_push q5.1 q5.2.1 q5.2.2 (1 : Int32) (125 : Int32)).bind fun q6 =>
  b_M_range_377 t_op t_to t_text t_length t_where q6.1 q6.2.1 q6.2.2 v3 v4 v5 v6 v7
  else none
def b_M_range_279 (t_op : Nat → Int32) (t_to : Nat → Int32) (t_text : Nat → Int32) (t_length : Int32) (t_where : Int32) (t_todo : Nat → Int32) (t_with : Nat → Int32) (t_top : Int32) (v2 : Int32) (v3 : Int32) (v4 : Int32) (v5 : Int32) (v6 : Int32) (v7 : Int32) (k1 : Int32) : Option (Int32 × (Nat → Int32) × Int32 × Int32 × (Nat → Int32) × (Nat → Int32) × Int32) :=
  (g_M_write t_text t_length k1).bind fun q1 =>
  (g_M_tell t_op t_to q1.1 q1.2 t_todo t_with t_top (v3 - (1 : Int32))).bind fun q2 =>
  (g_M_write q2.1 q2.2.1 (123 : Int32)).bind fun q3 =>
  if v7 = 0 then
    b_M_range_316 t_op t_to q3.1 q3.2 t_where q2.2.2.1 q2.2.2.2.1 q2.2.2.2.2 v2 v3 v4 v5 v6 v7 (0 : Int32) v4
  else
  if ck (v4 - (1 : Int32)) 31 = true then
  b_M_range_316 t_op t_to q3.1 q3.2 t_where q2.2.2.1 q2.2.2.2.1 q2.2.2.2.2 v2 v3 v4 v5 v6 v7 (0 : Int32) (t_to (v4 - (1 : Int32)).toNatClampNeg)
  else none
def b_M_range_229 (t_op : Nat → Int32) (t_to : Nat → Int32) (t_text : Nat → Int32) (t_length : Int32) (t_where : Int32) (t_todo : Nat → Int32) (t_with : Nat → Int32) (t_top : Int32) (v2 : Int32) (v3 : Int32) (v4 : Int32) (v5 : Int32) (k0 : Int32) : Option (Int32 × (Nat → Int32) × Int32 × Int32 × (Nat → Int32) × (Nat → Int32) × Int32) :=
  if v5 = 0 then
    if k0 = 0 then
      b_M_range_279 t_op t_to t_text t_length t_where t_todo t_with t_top v2 v3 v4 v5 k0 (0 : Int32) (63 : Int32)
    else
    b_M_range_279 t_op t_to t_text t_length t_where t_todo t_with t_top v2 v3 v4 v5 k0 (0 : Int32) (64 : Int32)
  else
  if k0 = 0 then
    if ck (v4 - (1 : Int32)) 31 = true then
    (g_M_in (t_to (v4 - (1 : Int32)).toNatClampNeg) v4 v2).bind fun q1 =>
    if q1 = 0 then
      if k0 = 0 then
        b_M_range_279 t_op t_to t_text t_length t_where t_todo t_with t_top v2 v3 v4 v5 k0 (0 : Int32) (63 : Int32)
      else
      b_M_range_279 t_op t_to t_text t_length t_where t_todo t_with t_top v2 v3 v4 v5 k0 (0 : Int32) (64 : Int32)
    else
    if k0 = 0 then
      b_M_range_279 t_op t_to t_text t_length t_where t_todo t_with t_top v2 v3 v4 v5 k0 (1 : Int32) (63 : Int32)
    else
    b_M_range_279 t_op t_to t_text t_length t_where t_todo t_with t_top v2 v3 v4 v5 k0 (1 : Int32) (64 : Int32)
    else none
  else
  if k0 = 0 then
    b_M_range_279 t_op t_to t_text t_length t_where t_todo t_with t_top v2 v3 v4 v5 k0 (0 : Int32) (63 : Int32)
  else
  b_M_range_279 t_op t_to t_text t_length t_where t_todo t_with t_top v2 v3 v4 v5 k0 (0 : Int32) (64 : Int32)
def b_M_range_204 (t_op : Nat → Int32) (t_to : Nat → Int32) (t_text : Nat → Int32) (t_length : Int32) (t_where : Int32) (t_todo : Nat → Int32) (t_with : Nat → Int32) (t_top : Int32) (v1 : Int32) (v2 : Int32) (v3 : Int32) (v4 : Int32) (k0 : Int32) : Option (Int32 × (Nat → Int32) × Int32 × Int32 × (Nat → Int32) × (Nat → Int32) × Int32) :=
  if k0 = 0 then
    b_M_range_229 t_op t_to t_text t_length t_where t_todo t_with t_top v2 v3 v4 k0 (0 : Int32)
  else
  if ck (v4 - (1 : Int32)) 31 = true then
  if (t_to (v4 - (1 : Int32)).toNatClampNeg) = v1 then
    b_M_range_229 t_op t_to t_text t_length t_where t_todo t_with t_top v2 v3 v4 k0 (1 : Int32)
  else
  b_M_range_229 t_op t_to t_text t_length t_where t_todo t_with t_top v2 v3 v4 k0 (0 : Int32)
  else none
def b_M_range_58 (t_op : Nat → Int32) (t_to : Nat → Int32) (t_text : Nat → Int32) (t_length : Int32) (t_where : Int32) (t_todo : Nat → Int32) (t_with : Nat → Int32) (t_top : Int32) (v1 : Int32) (v2 : Int32) (v3 : Int32) : Option (Int32 × (Nat → Int32) × Int32 × Int32 × (Nat → Int32) × (Nat → Int32) × Int32) :=
  if ck v3 30 = true then
  if (t_op v3.toNatClampNeg) = (8 : Int32) then
    some ((0 : Int32), t_text, t_length, v3, t_todo, t_with, t_top)
  else
  if ck v3 31 = true then
  if ck v3 30 = true then
  if (t_op v3.toNatClampNeg) = (9 : Int32) then
    if (t_to v3.toNatClampNeg) ≤ v3 then
      some ((0 : Int32), t_text, t_length, v3, t_todo, t_with, t_top)
    else
    if (t_to v3.toNatClampNeg) ≤ v2 then
      if ((t_to v3.toNatClampNeg) - (1 : Int32)) ≤ v3 then
        b_M_range_204 t_op t_to t_text t_length v3 t_todo t_with t_top v1 v2 v3 (t_to v3.toNatClampNeg) (0 : Int32)
      else
      if ck ((t_to v3.toNatClampNeg) - (1 : Int32)) 30 = true then
      if (t_op ((t_to v3.toNatClampNeg) - (1 : Int32)).toNatClampNeg) = (8 : Int32) then
        b_M_range_204 t_op t_to t_text t_length v3 t_todo t_with t_top v1 v2 v3 (t_to v3.toNatClampNeg) (1 : Int32)
      else
      b_M_range_204 t_op t_to t_text t_length v3 t_todo t_with t_top v1 v2 v3 (t_to v3.toNatClampNeg) (0 : Int32)
      else none
    else
    some ((0 : Int32), t_text, t_length, v3, t_todo, t_with, t_top)
  else
  if ck v3 30 = true then
  if (t_op v3.toNatClampNeg) = (2 : Int32) then
    (g_M_write t_text t_length ((97 : Int32) + (t_to v3.toNatClampNeg))).bind fun q3 =>
    if ck v3 30 = true then
    if (t_op v3.toNatClampNeg) = (2 : Int32) then
      (g_M_write q3.1 q3.2 (61 : Int32)).bind fun q4 =>
      b_M_range_135 t_op t_to q4.1 q4.2 v3 t_todo t_with t_top v2 v3
    else
    b_M_range_135 t_op t_to q3.1 q3.2 v3 t_todo t_with t_top v2 v3
    else none
  else
  (g_M_write t_text t_length (35 : Int32)).bind fun q1 =>
  if ck v3 30 = true then
  if (t_op v3.toNatClampNeg) = (2 : Int32) then
    (g_M_write q1.1 q1.2 (61 : Int32)).bind fun q2 =>
    b_M_range_135 t_op t_to q2.1 q2.2 v3 t_todo t_with t_top v2 v3
  else
  b_M_range_135 t_op t_to q1.1 q1.2 v3 t_todo t_with t_top v2 v3
  else none
  else none
  else none
  else none
  else none
def b_M_range_9 (t_op : Nat → Int32) (t_to : Nat → Int32) : Nat → (Nat → Int32) → Int32 → Int32 → (Nat → Int32) → (Nat → Int32) → Int32 → Int32 → Int32 → Int32 → Option (Int32 × (Nat → Int32) × Int32 × Int32 × (Nat → Int32) × (Nat → Int32) × Int32)
  | 0, _, _, _, _, _, _, _, _, _ => none
  | n + 1, t_text, t_length, t_where, t_todo, t_with, t_top, v1, v2, v3 =>
    if ck v3 30 = true then
    if (t_op v3.toNatClampNeg) = (2 : Int32) then
      b_M_range_58 t_op t_to t_text t_length t_where t_todo t_with t_top v1 v2 v3
    else
    if ck v3 30 = true then
    if (t_op v3.toNatClampNeg) = (10 : Int32) then
      b_M_range_58 t_op t_to t_text t_length t_where t_todo t_with t_top v1 v2 v3
    else
    if ck v3 30 = true then
    if (t_op v3.toNatClampNeg) = (9 : Int32) then
      b_M_range_58 t_op t_to t_text t_length t_where t_todo t_with t_top v1 v2 v3
    else
    if ck v3 30 = true then
    if (t_op v3.toNatClampNeg) = (8 : Int32) then
      b_M_range_58 t_op t_to t_text t_length t_where t_todo t_with t_top v1 v2 v3
    else
    b_M_range_9 t_op t_to n t_text t_length t_where t_todo t_with t_top v1 v2 (v3 + (1 : Int32))
    else none
    else none
    else none
    else none
def g_M_range (t_op : Nat → Int32) (t_to : Nat → Int32) (t_text : Nat → Int32) (t_length : Int32) (t_where : Int32) (t_todo : Nat → Int32) (t_with : Nat → Int32) (t_top : Int32) (a1 : Int32) (a2 : Int32) : Option (Int32 × (Nat → Int32) × Int32 × Int32 × (Nat → Int32) × (Nat → Int32) × Int32) :=
  if a1 = a2 then
    some ((1 : Int32), t_text, t_length, t_where, t_todo, t_with, t_top)
  else
  b_M_range_9 t_op t_to 500 t_text t_length t_where t_todo t_with t_top a1 a2 a1
def b_M_lift_47 (t_op : Nat → Int32) (t_to : Nat → Int32) (t_many : Int32) : Nat → (Nat → Int32) → Int32 → Int32 → Int32 → (Nat → Int32) → (Nat → Int32) → Int32 → Int32 → Option (Int32 × (Nat → Int32) × Int32 × Int32 × Int32 × (Nat → Int32) × (Nat → Int32) × Int32)
  | 0, _, _, _, _, _, _, _, _ => none
  | n + 1, t_text, t_length, t_where, t_tree, t_todo, t_with, t_top, v1 =>
    if t_top ≤ 0 then
      if v1 = 0 then
        some ((-5 : Int32), t_text, (0 : Int32), t_where, t_tree, t_todo, t_with, t_top)
      else
      some (t_length, t_text, t_length, (-2 : Int32), (1 : Int32), t_todo, t_with, t_top)
    else
    if v1 = 0 then
      if v1 = 0 then
        some ((-5 : Int32), t_text, (0 : Int32), t_where, t_tree, t_todo, t_with, t_top)
      else
      some (t_length, t_text, t_length, (-2 : Int32), (1 : Int32), t_todo, t_with, t_top)
    else
    if ck (t_top - (1 : Int32)) 600 = true then
    if (t_todo (t_top - (1 : Int32)).toNatClampNeg) = (1 : Int32) then
      if ck (t_top - (1 : Int32)) 600 = true then
      (g_M_write t_text t_length (t_with (t_top - (1 : Int32)).toNatClampNeg)).bind fun q2 =>
      b_M_lift_47 t_op t_to t_many n q2.1 q2.2 t_where t_tree t_todo t_with (t_top - (1 : Int32)) v1
      else none
    else
    if ck (t_top - (1 : Int32)) 600 = true then
    if ck (t_top - (1 : Int32)) 600 = true then
    (g_M_range t_op t_to t_text t_length t_where t_todo t_with (t_top - (1 : Int32)) ((t_with (t_top - (1 : Int32)).toNatClampNeg) - (t_with (t_top - (1 : Int32)).toNatClampNeg) / (64 : Int32) * (64 : Int32)) ((t_with (t_top - (1 : Int32)).toNatClampNeg) / (64 : Int32))).bind fun q1 =>
    b_M_lift_47 t_op t_to t_many n q1.2.1 q1.2.2.1 q1.2.2.2.1 t_tree q1.2.2.2.2.1 q1.2.2.2.2.2.1 q1.2.2.2.2.2.2 q1.1
    else none
    else none
    else none
def g_M_lift (t_op : Nat → Int32) (t_to : Nat → Int32) (t_text : Nat → Int32) (t_many : Int32) (t_length : Int32) (t_where : Int32) (t_tree : Int32) (t_todo : Nat → Int32) (t_with : Nat → Int32) (t_top : Int32) : Option (Int32 × (Nat → Int32) × Int32 × Int32 × Int32 × (Nat → Int32) × (Nat → Int32) × Int32) :=
  (g_M_verify t_op t_to t_many).bind fun q1 =>
  if q1 < 0 then
    (g_M_push t_todo t_with (0 : Int32) (0 : Int32) ((64 : Int32) * t_many)).bind fun q2 =>
    b_M_lift_47 t_op t_to t_many 5000 t_text (0 : Int32) q1 (0 : Int32) q2.1 q2.2.1 q2.2.2 (1 : Int32)
  else
  some ((-4 : Int32), t_text, (0 : Int32), q1, (0 : Int32), t_todo, t_with, t_top)
def g_M_text (t_text : Nat → Int32) (t_length : Int32) (a1 : Int32) : Option (Int32) :=
  if a1 = (-1 : Int32) then
    some (t_length)
  else
  (g_M_in a1 (0 : Int32) (t_length - (1 : Int32))).bind fun q1 =>
  if q1 = 0 then
    some ((-2 : Int32))
  else
  if ck a1 600 = true then
  some (t_text a1.toNatClampNeg)
  else none
def g_M_where (t_where : Int32) : Option (Int32) :=
  some (t_where)
def g_M_letter (t_draft : Nat → Int32) (t_letters : Int32) (a1 : Int32) : Option (Int32 × (Nat → Int32) × Int32) :=
  (g_M_in a1 (33 : Int32) (126 : Int32)).bind fun q1 =>
  if q1 = 0 then
    some ((-1 : Int32), t_draft, t_letters)
  else
  if t_letters = (120 : Int32) then
    some ((-3 : Int32), t_draft, t_letters)
  else
  if ck t_letters 120 = true then
  some (t_letters + (1 : Int32), upd t_draft t_letters.toNatClampNeg a1, t_letters + (1 : Int32))
  else none
def b_M_copy_14 (t_text : Nat → Int32) (t_length : Int32) : Nat → (Nat → Int32) → Int32 → Int32 → Option (Int32 × (Nat → Int32) × Int32)
  | 0, _, _, _ => none
  | n + 1, t_draft, t_letters, v1 =>
    if t_length ≤ v1 then
      some (t_length, t_draft, t_length)
    else
    if ck v1 600 = true then
    if ck v1 120 = true then
    b_M_copy_14 t_text t_length n (upd t_draft v1.toNatClampNeg (t_text v1.toNatClampNeg)) t_letters (v1 + (1 : Int32))
    else none
    else none
def g_M_copy (t_draft : Nat → Int32) (t_text : Nat → Int32) (t_letters : Int32) (t_length : Int32) : Option (Int32 × (Nat → Int32) × Int32) :=
  if t_length ≤ (120 : Int32) then
    b_M_copy_14 t_text t_length 500 t_draft t_letters (0 : Int32)
  else
  some ((-3 : Int32), t_draft, t_letters)
def g_M_emit (t_newOp : Nat → Int32) (t_newTo : Nat → Int32) (t_made : Int32) (a1 : Int32) (a2 : Int32) : Option ((Nat → Int32) × (Nat → Int32) × Int32) :=
  if ck t_made 200 = true then
  if ck t_made 200 = true then
  some (upd t_newOp t_made.toNatClampNeg a1, upd t_newTo t_made.toNatClampNeg a2, t_made + (1 : Int32))
  else none
  else none
def g_M_next (t_draft : Nat → Int32) (t_letters : Int32) (t_at : Int32) : Option (Int32) :=
  if t_letters ≤ t_at then
    some ((-1 : Int32))
  else
  if ck t_at 120 = true then
  some (t_draft t_at.toNatClampNeg)
  else none
def g_M_isDigit (a0 : Int32) : Option (Int32) :=
  (g_M_in a0 (48 : Int32) (57 : Int32)).bind fun q1 =>
  if q1 = 0 ∨ q1 = 1 then some (q1) else none
def g_M_isLetter (a0 : Int32) : Option (Int32) :=
  (g_M_in a0 (97 : Int32) (102 : Int32)).bind fun q1 =>
  if q1 = 0 ∨ q1 = 1 then some (q1) else none
def b_M_list_115 (t_draft : Nat → Int32) (t_letters : Int32) (t_made : Int32) (t_todo : Nat → Int32) (t_with : Nat → Int32) (t_top : Int32) (t_at : Int32) (v2 : Int32) (k1 : Int32) (k2 : Int32) : Option (Int32 × (Nat → Int32) × (Nat → Int32) × Int32 × Int32) :=
  (g_M_push t_todo t_with t_top k1 k2).bind fun q1 =>
  (g_M_push q1.1 q1.2.1 q1.2.2 (1 : Int32) (59 : Int32)).bind fun q2 =>
  (g_M_push q2.1 q2.2.1 q2.2.2 (2 : Int32) (0 : Int32)).bind fun q3 =>
  if v2 = (35 : Int32) then
    some ((1 : Int32), q3.1, q3.2.1, q3.2.2, t_at)
  else
  (g_M_push q3.1 q3.2.1 q3.2.2 (1 : Int32) (61 : Int32)).bind fun q4 =>
  some ((1 : Int32), q4.1, q4.2.1, q4.2.2, t_at)
def b_M_list_92 (t_draft : Nat → Int32) (t_letters : Int32) (t_made : Int32) (t_todo : Nat → Int32) (t_with : Nat → Int32) (t_top : Int32) (t_at : Int32) (v2 : Int32) : Option (Int32 × (Nat → Int32) × (Nat → Int32) × Int32 × Int32) :=
  (g_M_isLetter v2).bind fun q1 =>
  if q1 = 0 then
    b_M_list_115 t_draft t_letters t_made t_todo t_with t_top t_at v2 (4 : Int32) (10 : Int32)
  else
  b_M_list_115 t_draft t_letters t_made t_todo t_with t_top t_at v2 (4 : Int32) ((2 : Int32) + ((16 : Int32) * (v2 - (97 : Int32))))
def b_M_list_174 (t_draft : Nat → Int32) (t_letters : Int32) (t_made : Int32) (t_todo : Nat → Int32) (t_with : Nat → Int32) (t_top : Int32) (t_at : Int32) (v1 : Int32) (k1 : Int32) (k2 : Int32) : Option (Int32 × (Nat → Int32) × (Nat → Int32) × Int32 × Int32) :=
  (g_M_push t_todo t_with t_top k1 k2).bind fun q1 =>
  (g_M_push q1.1 q1.2.1 q1.2.2 (1 : Int32) (125 : Int32)).bind fun q2 =>
  (g_M_push q2.1 q2.2.1 q2.2.2 (0 : Int32) (v1 + (1 : Int32))).bind fun q3 =>
  (g_M_push q3.1 q3.2.1 q3.2.2 (5 : Int32) (9 : Int32)).bind fun q4 =>
  (g_M_push q4.1 q4.2.1 q4.2.2 (1 : Int32) (123 : Int32)).bind fun q5 =>
  (g_M_push q5.1 q5.2.1 q5.2.2 (2 : Int32) (0 : Int32)).bind fun q6 =>
  some ((1 : Int32), q6.1, q6.2.1, q6.2.2, t_at)
def b_M_list_63 (t_draft : Nat → Int32) (t_letters : Int32) (t_made : Int32) (t_todo : Nat → Int32) (t_with : Nat → Int32) (t_top : Int32) (t_at : Int32) (v1 : Int32) (v2 : Int32) : Option (Int32 × (Nat → Int32) × (Nat → Int32) × Int32 × Int32) :=
  (g_M_push t_todo t_with t_top (0 : Int32) v1).bind fun q1 =>
  (g_M_isLetter v2).bind fun q2 =>
  if q2 = 0 then
    if v2 = (35 : Int32) then
      b_M_list_92 t_draft t_letters t_made q1.1 q1.2.1 q1.2.2 (t_at + (1 : Int32)) v2
    else
    if v2 = (64 : Int32) then
      if v2 = (64 : Int32) then
        b_M_list_174 t_draft t_letters t_made q1.1 q1.2.1 q1.2.2 (t_at + (1 : Int32)) v1 (6 : Int32) t_made
      else
      b_M_list_174 t_draft t_letters t_made q1.1 q1.2.1 q1.2.2 (t_at + (1 : Int32)) v1 (6 : Int32) v1
    else
    if v2 = (64 : Int32) then
      b_M_list_174 t_draft t_letters t_made q1.1 q1.2.1 q1.2.2 (t_at + (1 : Int32)) v1 (7 : Int32) t_made
    else
    b_M_list_174 t_draft t_letters t_made q1.1 q1.2.1 q1.2.2 (t_at + (1 : Int32)) v1 (7 : Int32) v1
  else
  b_M_list_92 t_draft t_letters t_made q1.1 q1.2.1 q1.2.2 (t_at + (1 : Int32)) v2
def b_M_list_31 (t_draft : Nat → Int32) (t_letters : Int32) (t_made : Int32) (t_todo : Nat → Int32) (t_with : Nat → Int32) (t_top : Int32) (t_at : Int32) (v1 : Int32) (v2 : Int32) : Option (Int32 × (Nat → Int32) × (Nat → Int32) × Int32 × Int32) :=
  if (5 : Int32) < v1 then
    some ((0 : Int32), t_todo, t_with, t_top, t_at)
  else
  (g_M_isLetter v2).bind fun q1 =>
  if q1 = 0 then
    if v2 = (35 : Int32) then
      b_M_list_63 t_draft t_letters t_made t_todo t_with t_top t_at v1 v2
    else
    if v2 = (64 : Int32) then
      b_M_list_63 t_draft t_letters t_made t_todo t_with t_top t_at v1 v2
    else
    if v2 = (63 : Int32) then
      b_M_list_63 t_draft t_letters t_made t_todo t_with t_top t_at v1 v2
    else
    some ((0 : Int32), t_todo, t_with, t_top, t_at)
  else
  b_M_list_63 t_draft t_letters t_made t_todo t_with t_top t_at v1 v2
def g_M_list (t_draft : Nat → Int32) (t_letters : Int32) (t_todo : Nat → Int32) (t_with : Nat → Int32) (t_top : Int32) (t_at : Int32) (t_made : Int32) (a1 : Int32) : Option (Int32 × (Nat → Int32) × (Nat → Int32) × Int32 × Int32) :=
  (g_M_next t_draft t_letters t_at).bind fun q1 =>
  if 0 ≤ q1 then
    if q1 = (125 : Int32) then
      if a1 ≤ 0 then
        b_M_list_31 t_draft t_letters t_made t_todo t_with t_top t_at a1 q1
      else
      some ((1 : Int32), t_todo, t_with, t_top, t_at)
    else
    b_M_list_31 t_draft t_letters t_made t_todo t_with t_top t_at a1 q1
  else
  if a1 = 0 then
    some ((1 : Int32), t_todo, t_with, t_top, t_at)
  else
  some ((0 : Int32), t_todo, t_with, t_top, t_at)
def g_M_expression (t_newOp : Nat → Int32) (t_newTo : Nat → Int32) (t_draft : Nat → Int32) (t_letters : Int32) (t_todo : Nat → Int32) (t_with : Nat → Int32) (t_top : Int32) (t_at : Int32) (t_made : Int32) (a1 : Int32) : Option (Int32 × (Nat → Int32) × (Nat → Int32) × (Nat → Int32) × (Nat → Int32) × Int32 × Int32 × Int32) :=
  (g_M_next t_draft t_letters t_at).bind fun q1 =>
  if (7 : Int32) < a1 then
    some ((0 : Int32), t_newOp, t_newTo, t_todo, t_with, t_top, t_at, t_made)
  else
  if 0 ≤ q1 then
    (g_M_isDigit q1).bind fun q2 =>
    if q2 = 0 then
      (g_M_isLetter q1).bind fun q3 =>
      if q3 = 0 then
        if q1 = (33 : Int32) then
          (g_M_push t_todo t_with t_top (4 : Int32) (7 : Int32)).bind fun q6 =>
          (g_M_push q6.1 q6.2.1 q6.2.2 (2 : Int32) (a1 + (1 : Int32))).bind fun q7 =>
          some ((1 : Int32), t_newOp, t_newTo, q7.1, q7.2.1, q7.2.2, t_at + (1 : Int32), t_made)
        else
        if q1 = (40 : Int32) then
          (g_M_push t_todo t_with t_top (3 : Int32) (a1 + (1 : Int32))).bind fun q4 =>
          (g_M_push q4.1 q4.2.1 q4.2.2 (2 : Int32) (a1 + (1 : Int32))).bind fun q5 =>
          some ((1 : Int32), t_newOp, t_newTo, q5.1, q5.2.1, q5.2.2, t_at + (1 : Int32), t_made)
        else
        some ((0 : Int32), t_newOp, t_newTo, t_todo, t_with, t_top, (t_at + (1 : Int32)) - (1 : Int32), t_made)
      else
      (g_M_emit t_newOp t_newTo t_made (1 : Int32) (q1 - (97 : Int32))).bind fun q8 =>
      some ((1 : Int32), q8.1, q8.2.1, t_todo, t_with, t_top, t_at + (1 : Int32), q8.2.2)
    else
    (g_M_next t_draft t_letters (t_at + (1 : Int32))).bind fun q9 =>
    (g_M_isDigit q9).bind fun q10 =>
    if q10 = 0 then
      (g_M_emit t_newOp t_newTo t_made (0 : Int32) (q1 - (48 : Int32))).bind fun q11 =>
      some ((1 : Int32), q11.1, q11.2.1, t_todo, t_with, t_top, t_at + (1 : Int32), q11.2.2)
    else
    (g_M_next t_draft t_letters (t_at + (1 : Int32))).bind fun q12 =>
    (g_M_emit t_newOp t_newTo t_made (0 : Int32) ((((10 : Int32) * (q1 - (48 : Int32))) + q12) - (48 : Int32))).bind fun q13 =>
    some ((1 : Int32), q13.1, q13.2.1, t_todo, t_with, t_top, (t_at + (1 : Int32)) + (1 : Int32), q13.2.2)
  else
  some ((0 : Int32), t_newOp, t_newTo, t_todo, t_with, t_top, t_at, t_made)
def b_M_operator_47 (t_draft : Nat → Int32) (t_letters : Int32) (t_todo : Nat → Int32) (t_with : Nat → Int32) (t_top : Int32) (t_at : Int32) (v1 : Int32) (k0 : Int32) : Option (Int32 × (Nat → Int32) × (Nat → Int32) × Int32 × Int32) :=
  if 0 ≤ k0 then
    (g_M_push t_todo t_with t_top (4 : Int32) k0).bind fun q1 =>
    (g_M_push q1.1 q1.2.1 q1.2.2 (1 : Int32) (41 : Int32)).bind fun q2 =>
    (g_M_push q2.1 q2.2.1 q2.2.2 (2 : Int32) v1).bind fun q3 =>
    some ((1 : Int32), q3.1, q3.2.1, q3.2.2, t_at + (1 : Int32))
  else
  some ((0 : Int32), t_todo, t_with, t_top, t_at)
def g_M_operator (t_draft : Nat → Int32) (t_letters : Int32) (t_todo : Nat → Int32) (t_with : Nat → Int32) (t_top : Int32) (t_at : Int32) (a1 : Int32) : Option (Int32 × (Nat → Int32) × (Nat → Int32) × Int32 × Int32) :=
  (g_M_next t_draft t_letters t_at).bind fun q1 =>
  if q1 = (43 : Int32) then
    b_M_operator_47 t_draft t_letters t_todo t_with t_top t_at a1 (3 : Int32)
  else
  if q1 = (45 : Int32) then
    b_M_operator_47 t_draft t_letters t_todo t_with t_top t_at a1 (4 : Int32)
  else
  if q1 = (42 : Int32) then
    b_M_operator_47 t_draft t_letters t_todo t_with t_top t_at a1 (5 : Int32)
  else
  if q1 = (60 : Int32) then
    b_M_operator_47 t_draft t_letters t_todo t_with t_top t_at a1 (6 : Int32)
  else
  b_M_operator_47 t_draft t_letters t_todo t_with t_top t_at a1 (-1 : Int32)
def g_M_choice (t_todo : Nat → Int32) (t_with : Nat → Int32) (t_top : Int32) (t_at : Int32) (a1 : Int32) : Option ((Nat → Int32) × (Nat → Int32) × Int32 × Int32) :=
  (g_M_push t_todo t_with t_top (9 : Int32) (0 : Int32)).bind fun q1 =>
  (g_M_push q1.1 q1.2.1 q1.2.2 (1 : Int32) (125 : Int32)).bind fun q2 =>
  (g_M_push q2.1 q2.2.1 q2.2.2 (0 : Int32) (a1 + (1 : Int32))).bind fun q3 =>
  (g_M_push q3.1 q3.2.1 q3.2.2 (8 : Int32) (0 : Int32)).bind fun q4 =>
  (g_M_push q4.1 q4.2.1 q4.2.2 (1 : Int32) (123 : Int32)).bind fun q5 =>
  some (q5.1, q5.2.1, q5.2.2, t_at + (1 : Int32))
def g_M_fill (t_newTo : Nat → Int32) (t_holes : Nat → Int32) (t_hole : Int32) (t_made : Int32) : Option ((Nat → Int32) × Int32) :=
  if ck (t_hole - (1 : Int32)) 40 = true then
  if ck (t_holes (t_hole - (1 : Int32)).toNatClampNeg) 200 = true then
  some (upd t_newTo (t_holes (t_hole - (1 : Int32)).toNatClampNeg).toNatClampNeg t_made, t_hole - (1 : Int32))
  else none
  else none
def g_M_goOn (t_newOp : Nat → Int32) (t_newTo : Nat → Int32) (t_draft : Nat → Int32) (t_letters : Int32) (t_todo : Nat → Int32) (t_with : Nat → Int32) (t_holes : Nat → Int32) (t_top : Int32) (t_hole : Int32) (t_at : Int32) (t_made : Int32) (a1 : Int32) (a2 : Int32) : Option (Int32 × (Nat → Int32) × (Nat → Int32) × (Nat → Int32) × (Nat → Int32) × (Nat → Int32) × Int32 × Int32 × Int32 × Int32) :=
  if a1 = (0 : Int32) then
    (g_M_list t_draft t_letters t_todo t_with t_top t_at t_made a2).bind fun q1 =>
    if q1.1 = 0 ∨ q1.1 = 1 then some (q1.1, t_newOp, t_newTo, q1.2.1, q1.2.2.1, t_holes, q1.2.2.2.1, t_hole, q1.2.2.2.2, t_made) else none
  else if a1 = (1 : Int32) then
    (g_M_next t_draft t_letters t_at).bind fun q2 =>
    if q2 = a2 then
      some ((1 : Int32), t_newOp, t_newTo, t_todo, t_with, t_holes, t_top, t_hole, t_at + (1 : Int32), t_made)
    else
    some ((0 : Int32), t_newOp, t_newTo, t_todo, t_with, t_holes, t_top, t_hole, t_at, t_made)
  else if a1 = (2 : Int32) then
    (g_M_expression t_newOp t_newTo t_draft t_letters t_todo t_with t_top t_at t_made a2).bind fun q3 =>
    if q3.1 = 0 ∨ q3.1 = 1 then some (q3.1, q3.2.1, q3.2.2.1, q3.2.2.2.1, q3.2.2.2.2.1, t_holes, q3.2.2.2.2.2.1, t_hole, q3.2.2.2.2.2.2.1, q3.2.2.2.2.2.2.2) else none
  else if a1 = (3 : Int32) then
    (g_M_operator t_draft t_letters t_todo t_with t_top t_at a2).bind fun q4 =>
    if q4.1 = 0 ∨ q4.1 = 1 then some (q4.1, t_newOp, t_newTo, q4.2.1, q4.2.2.1, t_holes, q4.2.2.2.1, t_hole, q4.2.2.2.2, t_made) else none
  else if a1 = (4 : Int32) then
    (g_M_emit t_newOp t_newTo t_made (a2 - a2 / (16 : Int32) * (16 : Int32)) (a2 / (16 : Int32))).bind fun q5 =>
    some ((1 : Int32), q5.1, q5.2.1, t_todo, t_with, t_holes, t_top, t_hole, t_at, q5.2.2)
  else if a1 = (5 : Int32) then
    if ck t_hole 40 = true then
    (g_M_emit t_newOp t_newTo t_made a2 (0 : Int32)).bind fun q6 =>
    some ((1 : Int32), q6.1, q6.2.1, t_todo, t_with, upd t_holes t_hole.toNatClampNeg t_made, t_top, t_hole + (1 : Int32), t_at, q6.2.2)
    else none
  else if a1 = (6 : Int32) then
    (g_M_emit t_newOp t_newTo t_made (8 : Int32) a2).bind fun q7 =>
    (g_M_fill q7.2.1 t_holes t_hole q7.2.2).bind fun q8 =>
    some ((1 : Int32), q7.1, q8.1, t_todo, t_with, t_holes, t_top, q8.2, t_at, q7.2.2)
  else if a1 = (7 : Int32) then
    (g_M_next t_draft t_letters t_at).bind fun q9 =>
    if q9 = (58 : Int32) then
      (g_M_choice t_todo t_with t_top t_at a2).bind fun q11 =>
      some ((1 : Int32), t_newOp, t_newTo, q11.1, q11.2.1, t_holes, q11.2.2.1, t_hole, q11.2.2.2, t_made)
    else
    (g_M_fill t_newTo t_holes t_hole t_made).bind fun q10 =>
    some ((1 : Int32), t_newOp, q10.1, t_todo, t_with, t_holes, t_top, q10.2, t_at, t_made)
  else if a1 = (8 : Int32) then
    (g_M_emit t_newOp t_newTo t_made (8 : Int32) (0 : Int32)).bind fun q12 =>
    (g_M_fill q12.2.1 t_holes t_hole q12.2.2).bind fun q13 =>
    if ck q13.2 40 = true then
    some ((1 : Int32), q12.1, q13.1, t_todo, t_with, upd t_holes q13.2.toNatClampNeg (q12.2.2 - (1 : Int32)), t_top, q13.2 + (1 : Int32), t_at, q12.2.2)
    else none
  else (g_M_fill t_newTo t_holes t_hole t_made).bind fun q14 =>
  some ((1 : Int32), t_newOp, q14.1, t_todo, t_with, t_holes, t_top, q14.2, t_at, t_made)
def b_M_read_139 (t_draft : Nat → Int32) (t_letters : Int32) : Nat → (Nat → Int32) → (Nat → Int32) → (Nat → Int32) → (Nat → Int32) → Int32 → Int32 → (Nat → Int32) → (Nat → Int32) → (Nat → Int32) → Int32 → Int32 → Int32 → Int32 → Int32 → Option (Int32 × (Nat → Int32) × (Nat → Int32) × (Nat → Int32) × (Nat → Int32) × Int32 × Int32 × (Nat → Int32) × (Nat → Int32) × (Nat → Int32) × Int32 × Int32 × Int32 × Int32)
  | 0, _, _, _, _, _, _, _, _, _, _, _, _, _, _ => none
  | n + 1, t_op, t_to, t_newOp, t_newTo, t_many, t_where, t_todo, t_with, t_holes, t_top, t_hole, t_at, t_made, v3 =>
    if t_made ≤ v3 then
      some (t_many, t_op, t_to, t_newOp, t_newTo, t_many, t_where, t_todo, t_with, t_holes, t_top, t_hole, t_at, t_made)
    else
    if ck v3 200 = true then
    if ck v3 200 = true then
    (g_M_change t_op t_to t_many v3 (t_newOp v3.toNatClampNeg) (t_newTo v3.toNatClampNeg)).bind fun q1 =>
    b_M_read_139 t_draft t_letters n q1.2.1 q1.2.2 t_newOp t_newTo t_many t_where t_todo t_with t_holes t_top t_hole t_at t_made (v3 + (1 : Int32))
    else none
    else none
def b_M_read_93 (t_draft : Nat → Int32) (t_letters : Int32) (t_op : Nat → Int32) (t_to : Nat → Int32) (t_newOp : Nat → Int32) (t_newTo : Nat → Int32) (t_many : Int32) (t_where : Int32) (t_todo : Nat → Int32) (t_with : Nat → Int32) (t_holes : Nat → Int32) (t_top : Int32) (t_hole : Int32) (t_at : Int32) (t_made : Int32) (v1 : Int32) (k0 : Int32) : Option (Int32 × (Nat → Int32) × (Nat → Int32) × (Nat → Int32) × (Nat → Int32) × Int32 × Int32 × (Nat → Int32) × (Nat → Int32) × (Nat → Int32) × Int32 × Int32 × Int32 × Int32) :=
  if k0 = 0 then
    if v1 = 0 then
      if k0 = 0 then
        some ((-6 : Int32), t_op, t_to, t_newOp, t_newTo, t_many, t_at, t_todo, t_with, t_holes, t_top, t_hole, t_at, t_made)
      else
      b_M_read_139 t_draft t_letters 5000 t_op t_to t_newOp t_newTo t_made t_at t_todo t_with t_holes t_top t_hole t_at t_made (0 : Int32)
    else
    if k0 = 0 then
      some ((-6 : Int32), t_op, t_to, t_newOp, t_newTo, t_many, t_letters, t_todo, t_with, t_holes, t_top, t_hole, t_at, t_made)
    else
    b_M_read_139 t_draft t_letters 5000 t_op t_to t_newOp t_newTo t_made t_letters t_todo t_with t_holes t_top t_hole t_at t_made (0 : Int32)
  else
  if k0 = 0 then
    some ((-6 : Int32), t_op, t_to, t_newOp, t_newTo, t_many, (-2 : Int32), t_todo, t_with, t_holes, t_top, t_hole, t_at, t_made)
  else
  b_M_read_139 t_draft t_letters 5000 t_op t_to t_newOp t_newTo t_made (-2 : Int32) t_todo t_with t_holes t_top t_hole t_at t_made (0 : Int32)
def b_M_read_28 (t_draft : Nat → Int32) (t_letters : Int32) : Nat → (Nat → Int32) → (Nat → Int32) → (Nat → Int32) → (Nat → Int32) → Int32 → Int32 → (Nat → Int32) → (Nat → Int32) → (Nat → Int32) → Int32 → Int32 → Int32 → Int32 → Int32 → Option (Int32 × (Nat → Int32) × (Nat → Int32) × (Nat → Int32) × (Nat → Int32) × Int32 × Int32 × (Nat → Int32) × (Nat → Int32) × (Nat → Int32) × Int32 × Int32 × Int32 × Int32)
  | 0, _, _, _, _, _, _, _, _, _, _, _, _, _, _ => none
  | n + 1, t_op, t_to, t_newOp, t_newTo, t_many, t_where, t_todo, t_with, t_holes, t_top, t_hole, t_at, t_made, v1 =>
    if t_top ≤ 0 then
      if v1 = 0 then
        b_M_read_93 t_draft t_letters t_op t_to t_newOp t_newTo t_many t_where t_todo t_with t_holes t_top t_hole t_at t_made v1 (0 : Int32)
      else
      if (30 : Int32) < t_made then
        b_M_read_93 t_draft t_letters t_op t_to t_newOp t_newTo t_many t_where t_todo t_with t_holes t_top t_hole t_at t_made v1 (0 : Int32)
      else
      b_M_read_93 t_draft t_letters t_op t_to t_newOp t_newTo t_many t_where t_todo t_with t_holes t_top t_hole t_at t_made v1 (1 : Int32)
    else
    if v1 = 0 then
      if v1 = 0 then
        b_M_read_93 t_draft t_letters t_op t_to t_newOp t_newTo t_many t_where t_todo t_with t_holes t_top t_hole t_at t_made v1 (0 : Int32)
      else
      if (30 : Int32) < t_made then
        b_M_read_93 t_draft t_letters t_op t_to t_newOp t_newTo t_many t_where t_todo t_with t_holes t_top t_hole t_at t_made v1 (0 : Int32)
      else
      b_M_read_93 t_draft t_letters t_op t_to t_newOp t_newTo t_many t_where t_todo t_with t_holes t_top t_hole t_at t_made v1 (1 : Int32)
    else
    if ck (t_top - (1 : Int32)) 600 = true then
    if ck (t_top - (1 : Int32)) 600 = true then
    (g_M_goOn t_newOp t_newTo t_draft t_letters t_todo t_with t_holes (t_top - (1 : Int32)) t_hole t_at t_made (t_todo (t_top - (1 : Int32)).toNatClampNeg) (t_with (t_top - (1 : Int32)).toNatClampNeg)).bind fun q1 =>
    b_M_read_28 t_draft t_letters n t_op t_to q1.2.1 q1.2.2.1 t_many t_where q1.2.2.2.1 q1.2.2.2.2.1 q1.2.2.2.2.2.1 q1.2.2.2.2.2.2.1 q1.2.2.2.2.2.2.2.1 q1.2.2.2.2.2.2.2.2.1 q1.2.2.2.2.2.2.2.2.2 q1.1
    else none
    else none
def g_M_read (t_op : Nat → Int32) (t_to : Nat → Int32) (t_newOp : Nat → Int32) (t_newTo : Nat → Int32) (t_draft : Nat → Int32) (t_many : Int32) (t_letters : Int32) (t_where : Int32) (t_todo : Nat → Int32) (t_with : Nat → Int32) (t_holes : Nat → Int32) (t_top : Int32) (t_hole : Int32) (t_at : Int32) (t_made : Int32) : Option (Int32 × (Nat → Int32) × (Nat → Int32) × (Nat → Int32) × (Nat → Int32) × Int32 × Int32 × (Nat → Int32) × (Nat → Int32) × (Nat → Int32) × Int32 × Int32 × Int32 × Int32) :=
  (g_M_push t_todo t_with (0 : Int32) (0 : Int32) (0 : Int32)).bind fun q1 =>
  b_M_read_28 t_draft t_letters 5000 t_op t_to t_newOp t_newTo t_many t_where q1.1 q1.2.1 t_holes q1.2.2 (0 : Int32) (0 : Int32) (0 : Int32) (1 : Int32)
def b_M_start_45 : Nat → (Nat → Int32) → (Nat → Int32) → Int32 → Int32 → Int32 → Int32 → Option ((Nat → Int32) × (Nat → Int32) × Int32 × Int32 × Int32)
  | 0, _, _, _, _, _, _ => none
  | n + 1, t_variable, t_output, t_high, t_printed, t_done, v2 =>
    if (20 : Int32) ≤ v2 then
      some (t_variable, t_output, t_high, t_printed, t_done)
    else
    if ck v2 20 = true then
    b_M_start_45 n t_variable (upd t_output v2.toNatClampNeg (0 : Int32)) t_high t_printed t_done (v2 + (1 : Int32))
    else none
def b_M_start_2 : Nat → (Nat → Int32) → (Nat → Int32) → Int32 → Int32 → Int32 → Int32 → Int32 → Option ((Nat → Int32) × (Nat → Int32) × Int32 × Int32 × Int32)
  | 0, _, _, _, _, _, _, _ => none
  | n + 1, t_variable, t_output, t_high, t_printed, t_done, v1, v2 =>
    if (6 : Int32) ≤ v2 then
      if ck (0 : Int32) 6 = true then
      b_M_start_45 500 (upd t_variable (0 : Int32).toNatClampNeg v1) t_output (0 : Int32) (0 : Int32) (0 : Int32) (0 : Int32)
      else none
    else
    if ck v2 6 = true then
    b_M_start_2 n (upd t_variable v2.toNatClampNeg (0 : Int32)) t_output t_high t_printed t_done v1 (v2 + (1 : Int32))
    else none
def g_M_start (t_variable : Nat → Int32) (t_output : Nat → Int32) (t_high : Int32) (t_printed : Int32) (t_done : Int32) (a1 : Int32) : Option ((Nat → Int32) × (Nat → Int32) × Int32 × Int32 × Int32) :=
  b_M_start_2 500 t_variable t_output t_high t_printed t_done a1 (0 : Int32)
def g_M_come (t_stack : Nat → Int32) (t_high : Int32) (a1 : Int32) : Option ((Nat → Int32) × Int32) :=
  if t_high = (16 : Int32) then
    some (t_stack, t_high)
  else
  if ck t_high 64 = true then
  some (upd t_stack t_high.toNatClampNeg a1, t_high + (1 : Int32))
  else none
def g_M_take (t_stack : Nat → Int32) (t_high : Int32) : Option (Int32 × Int32) :=
  if t_high = 0 then
    some ((0 : Int32), t_high)
  else
  if ck (t_high - (1 : Int32)) 64 = true then
  some (t_stack (t_high - (1 : Int32)).toNatClampNeg, t_high - (1 : Int32))
  else none
def g_M_print (t_output : Nat → Int32) (t_printed : Int32) (a1 : Int32) : Option ((Nat → Int32) × Int32) :=
  if (20 : Int32) ≤ t_printed then
    some (t_output, t_printed + (1 : Int32))
  else
  if ck t_printed 20 = true then
  some (upd t_output t_printed.toNatClampNeg a1, t_printed + (1 : Int32))
  else none
def g_M_both (a0 : Int32) (a1 : Int32) (a2 : Int32) : Option (Int32) :=
  if a0 = (3 : Int32) then
    some (a1 + a2)
  else
  if a0 = (43 : Int32) then
    some (a1 + a2)
  else
  if a0 = (4 : Int32) then
    some (a1 - a2)
  else
  if a0 = (45 : Int32) then
    some (a1 - a2)
  else
  if a0 = (5 : Int32) then
    some (a1 * a2)
  else
  if a0 = (42 : Int32) then
    some (a1 * a2)
  else
  if a2 ≤ a1 then
    some ((0 : Int32))
  else
  some ((1 : Int32))
def b_M_run_20 (t_op : Nat → Int32) (t_to : Nat → Int32) (t_many : Int32) : Nat → (Nat → Int32) → (Nat → Int32) → (Nat → Int32) → Int32 → Int32 → Int32 → Int32 → Int32 → Option (Int32 × (Nat → Int32) × (Nat → Int32) × (Nat → Int32) × Int32 × Int32 × Int32)
  | 0, _, _, _, _, _, _, _, _ => none
  | n + 1, t_variable, t_stack, t_output, t_high, t_printed, t_done, v2, v3 =>
    if t_many ≤ v3 then
      if t_many ≤ v3 then
        some (t_printed, t_variable, t_stack, t_output, t_high, t_printed, t_done)
      else
      some ((-7 : Int32), t_variable, t_stack, t_output, t_high, t_printed, t_done)
    else
    if v2 ≤ t_done then
      if t_many ≤ v3 then
        some (t_printed, t_variable, t_stack, t_output, t_high, t_printed, t_done)
      else
      some ((-7 : Int32), t_variable, t_stack, t_output, t_high, t_printed, t_done)
    else
    if ck v3 30 = true then
    if ck v3 31 = true then
    if (t_op v3.toNatClampNeg) = 0 then
      (g_M_come t_stack t_high (t_to v3.toNatClampNeg)).bind fun q13 =>
      b_M_run_20 t_op t_to t_many n t_variable q13.1 t_output q13.2 t_printed (t_done + (1 : Int32)) v2 (v3 + (1 : Int32))
    else
    if (t_op v3.toNatClampNeg) = (1 : Int32) then
      if ck (t_to v3.toNatClampNeg) 6 = true then
      (g_M_come t_stack t_high (t_variable (t_to v3.toNatClampNeg).toNatClampNeg)).bind fun q12 =>
      b_M_run_20 t_op t_to t_many n t_variable q12.1 t_output q12.2 t_printed (t_done + (1 : Int32)) v2 (v3 + (1 : Int32))
      else none
    else
    if (t_op v3.toNatClampNeg) = (2 : Int32) then
      (g_M_take t_stack t_high).bind fun q11 =>
      if ck (t_to v3.toNatClampNeg) 6 = true then
      b_M_run_20 t_op t_to t_many n (upd t_variable (t_to v3.toNatClampNeg).toNatClampNeg q11.1) t_stack t_output q11.2 t_printed (t_done + (1 : Int32)) v2 (v3 + (1 : Int32))
      else none
    else
    if (t_op v3.toNatClampNeg) = (7 : Int32) then
      (g_M_take t_stack t_high).bind fun q8 =>
      if q8.1 = 0 then
        (g_M_come t_stack q8.2 (1 : Int32)).bind fun q10 =>
        b_M_run_20 t_op t_to t_many n t_variable q10.1 t_output q10.2 t_printed (t_done + (1 : Int32)) v2 (v3 + (1 : Int32))
      else
      (g_M_come t_stack q8.2 (0 : Int32)).bind fun q9 =>
      b_M_run_20 t_op t_to t_many n t_variable q9.1 t_output q9.2 t_printed (t_done + (1 : Int32)) v2 (v3 + (1 : Int32))
    else
    if (t_op v3.toNatClampNeg) = (8 : Int32) then
      b_M_run_20 t_op t_to t_many n t_variable t_stack t_output t_high t_printed (t_done + (1 : Int32)) v2 (t_to v3.toNatClampNeg)
    else
    if (t_op v3.toNatClampNeg) = (9 : Int32) then
      (g_M_take t_stack t_high).bind fun q7 =>
      if q7.1 = 0 then
        b_M_run_20 t_op t_to t_many n t_variable t_stack t_output q7.2 t_printed (t_done + (1 : Int32)) v2 (t_to v3.toNatClampNeg)
      else
      b_M_run_20 t_op t_to t_many n t_variable t_stack t_output q7.2 t_printed (t_done + (1 : Int32)) v2 (v3 + (1 : Int32))
    else
    if (t_op v3.toNatClampNeg) = (10 : Int32) then
      (g_M_take t_stack t_high).bind fun q5 =>
      (g_M_print t_output t_printed q5.1).bind fun q6 =>
      b_M_run_20 t_op t_to t_many n t_variable t_stack q6.1 q5.2 q6.2 (t_done + (1 : Int32)) v2 (v3 + (1 : Int32))
    else
    (g_M_take t_stack t_high).bind fun q1 =>
    (g_M_take t_stack q1.2).bind fun q2 =>
    (g_M_both (t_op v3.toNatClampNeg) q2.1 q1.1).bind fun q3 =>
    (g_M_come t_stack q2.2 q3).bind fun q4 =>
    b_M_run_20 t_op t_to t_many n t_variable q4.1 t_output q4.2 t_printed (t_done + (1 : Int32)) v2 (v3 + (1 : Int32))
    else none
    else none
def g_M_run (t_op : Nat → Int32) (t_to : Nat → Int32) (t_many : Int32) (t_variable : Nat → Int32) (t_stack : Nat → Int32) (t_output : Nat → Int32) (t_high : Int32) (t_printed : Int32) (t_done : Int32) (a1 : Int32) (a2 : Int32) : Option (Int32 × (Nat → Int32) × (Nat → Int32) × (Nat → Int32) × Int32 × Int32 × Int32) :=
  (g_M_in a2 (0 : Int32) (400 : Int32)).bind fun q1 =>
  if q1 = 0 then
    some ((-1 : Int32), t_variable, t_stack, t_output, t_high, t_printed, t_done)
  else
  (g_M_start t_variable t_output t_high t_printed t_done a1).bind fun q2 =>
  b_M_run_20 t_op t_to t_many 500 q2.1 t_stack q2.2.1 q2.2.2.1 q2.2.2.2.1 q2.2.2.2.2 a2 (0 : Int32)
def b_M_work_304 (t_text : Nat → Int32) (t_variable : Nat → Int32) (rc_14 : (Nat → Int32) → (Nat → Int32) → Int32 → Int32 → Int32 → Int32 → Int32 → Option (Int32 × (Nat → Int32) × (Nat → Int32) × Int32 × Int32 × Int32)) (t_stack : Nat → Int32) (t_signs : Nat → Int32) (t_high : Int32) (t_signsHigh : Int32) (t_value : Int32) (v2 : Int32) (v5 : Int32) : Option (Int32 × (Nat → Int32) × (Nat → Int32) × Int32 × Int32 × Int32) :=
  if v5 = 0 then
    rc_14 t_stack t_signs t_high t_signsHigh t_value v2 (0 : Int32)
  else
  if t_signsHigh = 0 then
    rc_14 t_stack t_signs t_high t_signsHigh t_value v2 (1 : Int32)
  else
  rc_14 t_stack t_signs t_high t_signsHigh t_value v2 (0 : Int32)
def b_M_work_233 (t_text : Nat → Int32) (t_variable : Nat → Int32) (rc_14 : (Nat → Int32) → (Nat → Int32) → Int32 → Int32 → Int32 → Int32 → Int32 → Option (Int32 × (Nat → Int32) × (Nat → Int32) × Int32 × Int32 × Int32)) : Nat → (Nat → Int32) → (Nat → Int32) → Int32 → Int32 → Int32 → Int32 → Int32 → Option (Int32 × (Nat → Int32) × (Nat → Int32) × Int32 × Int32 × Int32)
  | 0, _, _, _, _, _, _, _ => none
  | n + 1, t_stack, t_signs, t_high, t_signsHigh, t_value, v2, v5 =>
    if v5 = 0 then
      b_M_work_304 t_text t_variable rc_14 t_stack t_signs t_high t_signsHigh t_value v2 v5
    else
    if t_signsHigh ≤ 0 then
      b_M_work_304 t_text t_variable rc_14 t_stack t_signs t_high t_signsHigh t_value v2 v5
    else
    if ck (t_signsHigh - (1 : Int32)) 64 = true then
    if (t_signs (t_signsHigh - (1 : Int32)).toNatClampNeg) = (33 : Int32) then
      if ck (t_high - (1 : Int32)) 64 = true then
      if (t_stack (t_high - (1 : Int32)).toNatClampNeg) = 0 then
        if ck (t_high - (1 : Int32)) 64 = true then
        b_M_work_233 t_text t_variable rc_14 n (upd t_stack (t_high - (1 : Int32)).toNatClampNeg (1 : Int32)) t_signs t_high (t_signsHigh - (1 : Int32)) t_value v2 v5
        else none
      else
      if ck (t_high - (1 : Int32)) 64 = true then
      b_M_work_233 t_text t_variable rc_14 n (upd t_stack (t_high - (1 : Int32)).toNatClampNeg (0 : Int32)) t_signs t_high (t_signsHigh - (1 : Int32)) t_value v2 v5
      else none
      else none
    else
    b_M_work_304 t_text t_variable rc_14 t_stack t_signs t_high t_signsHigh t_value v2 v5
    else none
def b_M_work_14 (t_text : Nat → Int32) (t_variable : Nat → Int32) : Nat → (Nat → Int32) → (Nat → Int32) → Int32 → Int32 → Int32 → Int32 → Int32 → Option (Int32 × (Nat → Int32) × (Nat → Int32) × Int32 × Int32 × Int32)
  | 0, _, _, _, _, _, _, _ => none
  | n + 1, t_stack, t_signs, t_high, t_signsHigh, t_value, v2, v3 =>
    if v3 = 0 then
      if ck v2 600 = true then
      (g_M_isDigit (t_text v2.toNatClampNeg)).bind fun q1 =>
      if q1 = 0 then
        (g_M_isLetter (t_text v2.toNatClampNeg)).bind fun q2 =>
        if q2 = 0 then
          if (t_text v2.toNatClampNeg) = (41 : Int32) then
            if ck (t_signsHigh - (1 : Int32)) 64 = true then
            if ck ((t_high - (1 : Int32)) - (1 : Int32)) 64 = true then
            if ck (t_high - (1 : Int32)) 64 = true then
            (g_M_both (t_signs (t_signsHigh - (1 : Int32)).toNatClampNeg) (t_stack ((t_high - (1 : Int32)) - (1 : Int32)).toNatClampNeg) (t_stack (t_high - (1 : Int32)).toNatClampNeg)).bind fun q3 =>
            if ck ((t_high - (1 : Int32)) - (1 : Int32)) 64 = true then
            b_M_work_233 t_text t_variable (b_M_work_14 t_text t_variable n) 500 (upd t_stack ((t_high - (1 : Int32)) - (1 : Int32)).toNatClampNeg q3) t_signs (t_high - (1 : Int32)) (t_signsHigh - (2 : Int32)) t_value (v2 + (1 : Int32)) (1 : Int32)
            else none
            else none
            else none
            else none
          else
          if ck t_signsHigh 64 = true then
          b_M_work_233 t_text t_variable (b_M_work_14 t_text t_variable n) 500 t_stack (upd t_signs t_signsHigh.toNatClampNeg (t_text v2.toNatClampNeg)) t_high (t_signsHigh + (1 : Int32)) t_value (v2 + (1 : Int32)) (0 : Int32)
          else none
        else
        if ck ((t_text v2.toNatClampNeg) - (97 : Int32)) 6 = true then
        if ck t_high 64 = true then
        b_M_work_233 t_text t_variable (b_M_work_14 t_text t_variable n) 500 (upd t_stack t_high.toNatClampNeg (t_variable ((t_text v2.toNatClampNeg) - (97 : Int32)).toNatClampNeg)) t_signs (t_high + (1 : Int32)) t_signsHigh t_value (v2 + (1 : Int32)) (1 : Int32)
        else none
        else none
      else
      if ck (v2 + (1 : Int32)) 600 = true then
      (g_M_isDigit (t_text (v2 + (1 : Int32)).toNatClampNeg)).bind fun q4 =>
      if q4 = 0 then
        if ck t_high 64 = true then
        b_M_work_233 t_text t_variable (b_M_work_14 t_text t_variable n) 500 (upd t_stack t_high.toNatClampNeg ((t_text v2.toNatClampNeg) - (48 : Int32))) t_signs (t_high + (1 : Int32)) t_signsHigh t_value (v2 + (1 : Int32)) (1 : Int32)
        else none
      else
      if ck (v2 + (1 : Int32)) 600 = true then
      if ck t_high 64 = true then
      b_M_work_233 t_text t_variable (b_M_work_14 t_text t_variable n) 500 (upd t_stack t_high.toNatClampNeg ((((10 : Int32) * ((t_text v2.toNatClampNeg) - (48 : Int32))) + (t_text (v2 + (1 : Int32)).toNatClampNeg)) - (48 : Int32))) t_signs (t_high + (1 : Int32)) t_signsHigh t_value ((v2 + (1 : Int32)) + (1 : Int32)) (1 : Int32)
      else none
      else none
      else none
      else none
    else
    if ck (0 : Int32) 64 = true then
    some (v2, t_stack, t_signs, t_high, t_signsHigh, t_stack (0 : Int32).toNatClampNeg)
    else none
def g_M_work (t_text : Nat → Int32) (t_variable : Nat → Int32) (t_stack : Nat → Int32) (t_signs : Nat → Int32) (t_high : Int32) (t_signsHigh : Int32) (t_value : Int32) (a1 : Int32) : Option (Int32 × (Nat → Int32) × (Nat → Int32) × Int32 × Int32 × Int32) :=
  b_M_work_14 t_text t_variable 500 t_stack t_signs (0 : Int32) (0 : Int32) t_value a1 (0 : Int32)
def b_M_behind_18 (t_text : Nat → Int32) (rc_4 : Int32 → Int32 → Option (Int32)) (v2 : Int32) (v3 : Int32) : Option (Int32) :=
  if ck v3 600 = true then
  if (t_text v3.toNatClampNeg) = (125 : Int32) then
    if 0 < (v2 + (-1 : Int32)) then
      rc_4 (v2 + (-1 : Int32)) (v3 + (1 : Int32))
    else
    some (v3 + (1 : Int32))
  else
  if 0 < v2 then
    rc_4 v2 (v3 + (1 : Int32))
  else
  some (v3 + (1 : Int32))
  else none
def b_M_behind_4 (t_text : Nat → Int32) : Nat → Int32 → Int32 → Option (Int32)
  | 0, _, _ => none
  | n + 1, v2, v3 =>
    if ck v3 600 = true then
    if (t_text v3.toNatClampNeg) = (123 : Int32) then
      b_M_behind_18 t_text (b_M_behind_4 t_text n) (v2 + (1 : Int32)) v3
    else
    b_M_behind_18 t_text (b_M_behind_4 t_text n) v2 v3
    else none
def g_M_behind (t_text : Nat → Int32) (a1 : Int32) : Option (Int32) :=
  b_M_behind_4 t_text 500 (0 : Int32) a1
def b_M_walk_82 (t_text : Nat → Int32) (t_length : Int32) (t_tree : Int32) (rc_33 : (Nat → Int32) → (Nat → Int32) → (Nat → Int32) → (Nat → Int32) → (Nat → Int32) → Int32 → Int32 → Int32 → Int32 → Int32 → Int32 → Int32 → Int32 → Option (Int32 × (Nat → Int32) × (Nat → Int32) × (Nat → Int32) × (Nat → Int32) × (Nat → Int32) × Int32 × Int32 × Int32 × Int32 × Int32)) (t_variable : Nat → Int32) (t_stack : Nat → Int32) (t_signs : Nat → Int32) (t_output : Nat → Int32) (t_blocks : Nat → Int32) (t_high : Int32) (t_signsHigh : Int32) (t_printed : Int32) (t_done : Int32) (t_value : Int32) (v2 : Int32) (v4 : Int32) (k0 : Int32) : Option (Int32 × (Nat → Int32) × (Nat → Int32) × (Nat → Int32) × (Nat → Int32) × (Nat → Int32) × Int32 × Int32 × Int32 × Int32 × Int32) :=
  if ck v4 40 = true then
  if (t_blocks v4.toNatClampNeg) = (-1 : Int32) then
    if t_length ≤ k0 then
      rc_33 t_variable t_stack t_signs t_output t_blocks t_high t_signsHigh t_printed t_done t_value v2 k0 v4
    else
    if ck k0 600 = true then
    if (t_text k0.toNatClampNeg) = (58 : Int32) then
      (g_M_behind t_text (k0 + (1 : Int32))).bind fun q1 =>
      rc_33 t_variable t_stack t_signs t_output t_blocks t_high t_signsHigh t_printed t_done t_value v2 q1 v4
    else
    rc_33 t_variable t_stack t_signs t_output t_blocks t_high t_signsHigh t_printed t_done t_value v2 k0 v4
    else none
  else
  rc_33 t_variable t_stack t_signs t_output t_blocks t_high t_signsHigh t_printed t_done t_value v2 k0 v4
  else none
def b_M_walk_205 (t_text : Nat → Int32) (t_length : Int32) (t_tree : Int32) (rc_33 : (Nat → Int32) → (Nat → Int32) → (Nat → Int32) → (Nat → Int32) → (Nat → Int32) → Int32 → Int32 → Int32 → Int32 → Int32 → Int32 → Int32 → Int32 → Option (Int32 × (Nat → Int32) × (Nat → Int32) × (Nat → Int32) × (Nat → Int32) × (Nat → Int32) × Int32 × Int32 × Int32 × Int32 × Int32)) (t_variable : Nat → Int32) (t_stack : Nat → Int32) (t_signs : Nat → Int32) (t_output : Nat → Int32) (t_blocks : Nat → Int32) (t_high : Int32) (t_signsHigh : Int32) (t_printed : Int32) (t_done : Int32) (t_value : Int32) (v2 : Int32) (v3 : Int32) (v4 : Int32) (v5 : Int32) (v6 : Int32) : Option (Int32 × (Nat → Int32) × (Nat → Int32) × (Nat → Int32) × (Nat → Int32) × (Nat → Int32) × Int32 × Int32 × Int32 × Int32 × Int32) :=
  (g_M_isLetter v5).bind fun q1 =>
  if q1 = 0 then
    if v5 = (35 : Int32) then
      rc_33 t_variable t_stack t_signs t_output t_blocks t_high t_signsHigh t_printed t_done t_value v2 (v6 + (1 : Int32)) v4
    else
    if t_value = 0 then
      (g_M_behind t_text v6).bind fun q2 =>
      if v5 = (63 : Int32) then
        if t_length ≤ q2 then
          rc_33 t_variable t_stack t_signs t_output t_blocks t_high t_signsHigh t_printed t_done t_value v2 q2 v4
        else
        if ck q2 600 = true then
        if (t_text q2.toNatClampNeg) = (58 : Int32) then
          if ck v4 40 = true then
          rc_33 t_variable t_stack t_signs t_output (upd t_blocks v4.toNatClampNeg (-2 : Int32)) t_high t_signsHigh t_printed t_done t_value v2 (q2 + (2 : Int32)) (v4 + (1 : Int32))
          else none
        else
        rc_33 t_variable t_stack t_signs t_output t_blocks t_high t_signsHigh t_printed t_done t_value v2 q2 v4
        else none
      else
      rc_33 t_variable t_stack t_signs t_output t_blocks t_high t_signsHigh t_printed t_done t_value v2 q2 v4
    else
    if v5 = (64 : Int32) then
      if ck v4 40 = true then
      rc_33 t_variable t_stack t_signs t_output (upd t_blocks v4.toNatClampNeg v3) t_high t_signsHigh t_printed t_done t_value v2 (v6 + (1 : Int32)) (v4 + (1 : Int32))
      else none
    else
    if ck v4 40 = true then
    rc_33 t_variable t_stack t_signs t_output (upd t_blocks v4.toNatClampNeg (-1 : Int32)) t_high t_signsHigh t_printed t_done t_value v2 (v6 + (1 : Int32)) (v4 + (1 : Int32))
    else none
  else
  rc_33 t_variable t_stack t_signs t_output t_blocks t_high t_signsHigh t_printed t_done t_value v2 (v6 + (1 : Int32)) v4
def b_M_walk_163 (t_text : Nat → Int32) (t_length : Int32) (t_tree : Int32) (rc_33 : (Nat → Int32) → (Nat → Int32) → (Nat → Int32) → (Nat → Int32) → (Nat → Int32) → Int32 → Int32 → Int32 → Int32 → Int32 → Int32 → Int32 → Int32 → Option (Int32 × (Nat → Int32) × (Nat → Int32) × (Nat → Int32) × (Nat → Int32) × (Nat → Int32) × Int32 × Int32 × Int32 × Int32 × Int32)) (t_variable : Nat → Int32) (t_stack : Nat → Int32) (t_signs : Nat → Int32) (t_output : Nat → Int32) (t_blocks : Nat → Int32) (t_high : Int32) (t_signsHigh : Int32) (t_printed : Int32) (t_done : Int32) (t_value : Int32) (v2 : Int32) (v3 : Int32) (v4 : Int32) (v5 : Int32) (k1 : Int32) : Option (Int32 × (Nat → Int32) × (Nat → Int32) × (Nat → Int32) × (Nat → Int32) × (Nat → Int32) × Int32 × Int32 × Int32 × Int32 × Int32) :=
  (g_M_work t_text t_variable t_stack t_signs t_high t_signsHigh t_value k1).bind fun q1 =>
  (g_M_isLetter v5).bind fun q2 =>
  if q2 = 0 then
    if v5 = (35 : Int32) then
      (g_M_print t_output t_printed q1.2.2.2.2.2).bind fun q3 =>
      b_M_walk_205 t_text t_length t_tree rc_33 t_variable q1.2.1 q1.2.2.1 q3.1 t_blocks q1.2.2.2.1 q1.2.2.2.2.1 q3.2 t_done q1.2.2.2.2.2 v2 v3 v4 v5 q1.1
    else
    b_M_walk_205 t_text t_length t_tree rc_33 t_variable q1.2.1 q1.2.2.1 t_output t_blocks q1.2.2.2.1 q1.2.2.2.2.1 t_printed t_done q1.2.2.2.2.2 v2 v3 v4 v5 q1.1
  else
  if ck (v5 - (97 : Int32)) 6 = true then
  if v5 = (35 : Int32) then
    (g_M_print t_output t_printed q1.2.2.2.2.2).bind fun q4 =>
    b_M_walk_205 t_text t_length t_tree rc_33 (upd t_variable (v5 - (97 : Int32)).toNatClampNeg q1.2.2.2.2.2) q1.2.1 q1.2.2.1 q4.1 t_blocks q1.2.2.2.1 q1.2.2.2.2.1 q4.2 t_done q1.2.2.2.2.2 v2 v3 v4 v5 q1.1
  else
  b_M_walk_205 t_text t_length t_tree rc_33 (upd t_variable (v5 - (97 : Int32)).toNatClampNeg q1.2.2.2.2.2) q1.2.1 q1.2.2.1 t_output t_blocks q1.2.2.2.1 q1.2.2.2.2.1 t_printed t_done q1.2.2.2.2.2 v2 v3 v4 v5 q1.1
  else none
def b_M_walk_33 (t_text : Nat → Int32) (t_length : Int32) (t_tree : Int32) : Nat → (Nat → Int32) → (Nat → Int32) → (Nat → Int32) → (Nat → Int32) → (Nat → Int32) → Int32 → Int32 → Int32 → Int32 → Int32 → Int32 → Int32 → Int32 → Option (Int32 × (Nat → Int32) × (Nat → Int32) × (Nat → Int32) × (Nat → Int32) × (Nat → Int32) × Int32 × Int32 × Int32 × Int32 × Int32)
  | 0, _, _, _, _, _, _, _, _, _, _, _, _, _ => none
  | n + 1, t_variable, t_stack, t_signs, t_output, t_blocks, t_high, t_signsHigh, t_printed, t_done, t_value, v2, v3, v4 =>
    if t_length ≤ v3 then
      some (t_printed, t_variable, t_stack, t_signs, t_output, t_blocks, t_high, t_signsHigh, t_printed, t_done, t_value)
    else
    if ck v3 600 = true then
    if (t_text v3.toNatClampNeg) = (125 : Int32) then
      if ck (v4 + (-1 : Int32)) 40 = true then
      if (t_blocks (v4 + (-1 : Int32)).toNatClampNeg) < 0 then
        b_M_walk_82 t_text t_length t_tree (b_M_walk_33 t_text t_length t_tree n) t_variable t_stack t_signs t_output t_blocks t_high t_signsHigh t_printed t_done t_value v2 (v4 + (-1 : Int32)) (v3 + (1 : Int32))
      else
      if ck (v4 + (-1 : Int32)) 40 = true then
      b_M_walk_82 t_text t_length t_tree (b_M_walk_33 t_text t_length t_tree n) t_variable t_stack t_signs t_output t_blocks t_high t_signsHigh t_printed t_done t_value v2 (v4 + (-1 : Int32)) (t_blocks (v4 + (-1 : Int32)).toNatClampNeg)
      else none
      else none
    else
    if t_done = v2 then
      some ((-7 : Int32), t_variable, t_stack, t_signs, t_output, t_blocks, t_high, t_signsHigh, t_printed, t_done, t_value)
    else
    (g_M_isLetter (t_text v3.toNatClampNeg)).bind fun q1 =>
    if q1 = 0 then
      b_M_walk_163 t_text t_length t_tree (b_M_walk_33 t_text t_length t_tree n) t_variable t_stack t_signs t_output t_blocks t_high t_signsHigh t_printed (t_done + (1 : Int32)) t_value v2 v3 v4 (t_text v3.toNatClampNeg) (v3 + (1 : Int32))
    else
    b_M_walk_163 t_text t_length t_tree (b_M_walk_33 t_text t_length t_tree n) t_variable t_stack t_signs t_output t_blocks t_high t_signsHigh t_printed (t_done + (1 : Int32)) t_value v2 v3 v4 (t_text v3.toNatClampNeg) (v3 + (2 : Int32))
    else none
def g_M_walk (t_text : Nat → Int32) (t_length : Int32) (t_tree : Int32) (t_variable : Nat → Int32) (t_stack : Nat → Int32) (t_signs : Nat → Int32) (t_output : Nat → Int32) (t_blocks : Nat → Int32) (t_high : Int32) (t_signsHigh : Int32) (t_printed : Int32) (t_done : Int32) (t_value : Int32) (a1 : Int32) (a2 : Int32) : Option (Int32 × (Nat → Int32) × (Nat → Int32) × (Nat → Int32) × (Nat → Int32) × (Nat → Int32) × Int32 × Int32 × Int32 × Int32 × Int32) :=
  (g_M_in a2 (0 : Int32) (400 : Int32)).bind fun q1 =>
  if q1 = 0 then
    some ((-1 : Int32), t_variable, t_stack, t_signs, t_output, t_blocks, t_high, t_signsHigh, t_printed, t_done, t_value)
  else
  if t_tree = 0 then
    some ((-2 : Int32), t_variable, t_stack, t_signs, t_output, t_blocks, t_high, t_signsHigh, t_printed, t_done, t_value)
  else
  (g_M_start t_variable t_output t_high t_printed t_done a1).bind fun q2 =>
  b_M_walk_33 t_text t_length t_tree 5000 q2.1 t_stack t_signs q2.2.1 t_blocks q2.2.2.1 t_signsHigh q2.2.2.2.1 q2.2.2.2.2 t_value a2 (0 : Int32) (0 : Int32)
def g_M_output (t_output : Nat → Int32) (a1 : Int32) : Option (Int32) :=
  (g_M_in a1 (0 : Int32) (19 : Int32)).bind fun q1 =>
  if q1 = 0 then
    some ((0 : Int32))
  else
  if ck a1 20 = true then
  some (t_output a1.toNatClampNeg)
  else none
def b_M_tally_156 (t_text : Nat → Int32) (t_length : Int32) (t_tree : Int32) (v1 : Int32) (v2 : Int32) (v3 : Int32) (v4 : Int32) (v5 : Int32) (v7 : Int32) : Option (Int32) :=
  if v1 = (5 : Int32) then
    some (v2)
  else
  if v1 = (6 : Int32) then
    some (v3)
  else
  if v1 = (7 : Int32) then
    some (v4 - v5)
  else
  if v1 = (8 : Int32) then
    some (v5)
  else
  some (v7)
def b_M_tally_130 (t_text : Nat → Int32) (t_length : Int32) (t_tree : Int32) (rc_19 : Int32 → Int32 → Int32 → Int32 → Int32 → Int32 → Int32 → Int32 → Option (Int32)) (v1 : Int32) (v2 : Int32) (v3 : Int32) (v4 : Int32) (v5 : Int32) (v6 : Int32) (v7 : Int32) (v8 : Int32) (v9 : Int32) : Option (Int32) :=
  if v9 = (123 : Int32) then
    if v9 = (125 : Int32) then
      rc_19 v1 v2 v3 v4 v5 ((v6 + (1 : Int32)) + (-1 : Int32)) v7 (v8 + (1 : Int32))
    else
    rc_19 v1 v2 v3 v4 v5 (v6 + (1 : Int32)) v7 (v8 + (1 : Int32))
  else
  if v9 = (125 : Int32) then
    rc_19 v1 v2 v3 v4 v5 (v6 + (-1 : Int32)) v7 (v8 + (1 : Int32))
  else
  rc_19 v1 v2 v3 v4 v5 v6 v7 (v8 + (1 : Int32))
def b_M_tally_100 (t_text : Nat → Int32) (t_length : Int32) (t_tree : Int32) (rc_19 : Int32 → Int32 → Int32 → Int32 → Int32 → Int32 → Int32 → Int32 → Option (Int32)) (v1 : Int32) (v2 : Int32) (v3 : Int32) (v4 : Int32) (v5 : Int32) (v6 : Int32) (v7 : Int32) (v8 : Int32) (v9 : Int32) : Option (Int32) :=
  if v9 = (64 : Int32) then
    if v9 = (63 : Int32) then
      if v9 = (58 : Int32) then
        b_M_tally_130 t_text t_length t_tree rc_19 v1 v2 (v3 + (1 : Int32)) (v4 + (1 : Int32)) (v5 + (1 : Int32)) v6 v7 v8 v9
      else
      b_M_tally_130 t_text t_length t_tree rc_19 v1 v2 (v3 + (1 : Int32)) (v4 + (1 : Int32)) v5 v6 v7 v8 v9
    else
    if v9 = (58 : Int32) then
      b_M_tally_130 t_text t_length t_tree rc_19 v1 v2 (v3 + (1 : Int32)) v4 (v5 + (1 : Int32)) v6 v7 v8 v9
    else
    b_M_tally_130 t_text t_length t_tree rc_19 v1 v2 (v3 + (1 : Int32)) v4 v5 v6 v7 v8 v9
  else
  if v9 = (63 : Int32) then
    if v9 = (58 : Int32) then
      b_M_tally_130 t_text t_length t_tree rc_19 v1 v2 v3 (v4 + (1 : Int32)) (v5 + (1 : Int32)) v6 v7 v8 v9
    else
    b_M_tally_130 t_text t_length t_tree rc_19 v1 v2 v3 (v4 + (1 : Int32)) v5 v6 v7 v8 v9
  else
  if v9 = (58 : Int32) then
    b_M_tally_130 t_text t_length t_tree rc_19 v1 v2 v3 v4 (v5 + (1 : Int32)) v6 v7 v8 v9
  else
  b_M_tally_130 t_text t_length t_tree rc_19 v1 v2 v3 v4 v5 v6 v7 v8 v9
def b_M_tally_70 (t_text : Nat → Int32) (t_length : Int32) (t_tree : Int32) (rc_19 : Int32 → Int32 → Int32 → Int32 → Int32 → Int32 → Int32 → Int32 → Option (Int32)) (v1 : Int32) (v2 : Int32) (v3 : Int32) (v4 : Int32) (v5 : Int32) (v6 : Int32) (v7 : Int32) (v8 : Int32) (v9 : Int32) (k0 : Int32) : Option (Int32) :=
  if k0 = 0 then
    if k0 = 0 then
      b_M_tally_100 t_text t_length t_tree rc_19 v1 v2 v3 v4 v5 v6 v7 v8 v9
    else
    if (v6 + (1 : Int32)) ≤ v7 then
      b_M_tally_100 t_text t_length t_tree rc_19 v1 v2 v3 v4 v5 v6 v7 v8 v9
    else
    b_M_tally_100 t_text t_length t_tree rc_19 v1 v2 v3 v4 v5 v6 (v6 + (1 : Int32)) v8 v9
  else
  if k0 = 0 then
    b_M_tally_100 t_text t_length t_tree rc_19 v1 (v2 + (1 : Int32)) v3 v4 v5 v6 v7 v8 v9
  else
  if (v6 + (1 : Int32)) ≤ v7 then
    b_M_tally_100 t_text t_length t_tree rc_19 v1 (v2 + (1 : Int32)) v3 v4 v5 v6 v7 v8 v9
  else
  b_M_tally_100 t_text t_length t_tree rc_19 v1 (v2 + (1 : Int32)) v3 v4 v5 v6 (v6 + (1 : Int32)) v8 v9
def b_M_tally_19 (t_text : Nat → Int32) (t_length : Int32) (t_tree : Int32) : Nat → Int32 → Int32 → Int32 → Int32 → Int32 → Int32 → Int32 → Int32 → Option (Int32)
  | 0, _, _, _, _, _, _, _, _ => none
  | n + 1, v1, v2, v3, v4, v5, v6, v7, v8 =>
    if t_length ≤ v8 then
      b_M_tally_156 t_text t_length t_tree v1 v2 v3 v4 v5 v7
    else
    if t_tree = 0 then
      b_M_tally_156 t_text t_length t_tree v1 v2 v3 v4 v5 v7
    else
    if ck v8 600 = true then
    if (t_text v8.toNatClampNeg) = (64 : Int32) then
      b_M_tally_70 t_text t_length t_tree (b_M_tally_19 t_text t_length t_tree n) v1 v2 v3 v4 v5 v6 v7 v8 (t_text v8.toNatClampNeg) (1 : Int32)
    else
    if (t_text v8.toNatClampNeg) = (63 : Int32) then
      b_M_tally_70 t_text t_length t_tree (b_M_tally_19 t_text t_length t_tree n) v1 v2 v3 v4 v5 v6 v7 v8 (t_text v8.toNatClampNeg) (1 : Int32)
    else
    if (t_text v8.toNatClampNeg) = (59 : Int32) then
      b_M_tally_70 t_text t_length t_tree (b_M_tally_19 t_text t_length t_tree n) v1 v2 v3 v4 v5 v6 v7 v8 (t_text v8.toNatClampNeg) (1 : Int32)
    else
    b_M_tally_70 t_text t_length t_tree (b_M_tally_19 t_text t_length t_tree n) v1 v2 v3 v4 v5 v6 v7 v8 (t_text v8.toNatClampNeg) (0 : Int32)
    else none
def g_M_tally (t_text : Nat → Int32) (t_length : Int32) (t_tree : Int32) (a1 : Int32) : Option (Int32) :=
  b_M_tally_19 t_text t_length t_tree 500 a1 (0 : Int32) (0 : Int32) (0 : Int32) (0 : Int32) (0 : Int32) (0 : Int32) (0 : Int32)
def g_M_count (t_text : Nat → Int32) (t_many : Int32) (t_letters : Int32) (t_length : Int32) (t_tree : Int32) (t_variable : Nat → Int32) (t_printed : Int32) (t_done : Int32) (a1 : Int32) : Option (Int32) :=
  (g_M_in a1 (5 : Int32) (9 : Int32)).bind fun q1 =>
  if q1 = 0 then
    (g_M_in a1 (10 : Int32) (15 : Int32)).bind fun q2 =>
    if q2 = 0 then
      if a1 = (0 : Int32) then
        if a1 = 0 then
          some (t_many)
        else
        if a1 = (1 : Int32) then
          some (t_letters)
        else
        some (t_length)
      else if a1 = (1 : Int32) then
        if a1 = 0 then
          some (t_many)
        else
        if a1 = (1 : Int32) then
          some (t_letters)
        else
        some (t_length)
      else if a1 = (2 : Int32) then
        if a1 = 0 then
          some (t_many)
        else
        if a1 = (1 : Int32) then
          some (t_letters)
        else
        some (t_length)
      else if a1 = (3 : Int32) then
        if a1 = (3 : Int32) then
          some (t_printed)
        else
        some (t_done)
      else if a1 = (4 : Int32) then
        if a1 = (3 : Int32) then
          some (t_printed)
        else
        some (t_done)
      else some ((-1 : Int32))
    else
    if ck (a1 - (10 : Int32)) 6 = true then
    some (t_variable (a1 - (10 : Int32)).toNatClampNeg)
    else none
  else
  (g_M_tally t_text t_length t_tree a1).bind fun q3 =>
  some (q3)
