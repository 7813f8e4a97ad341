/-! READING: the grammar as functions of the row of characters; the class's front end against them -/
def ch (d : Nat → Int32) (L at' : Nat) : Int32 := if at' < L then d at' else -2
def isD (c : Int32) : Bool := decide (48 ≤ c.toInt ∧ c.toInt ≤ 57)
def isV (c : Int32) : Bool := decide (97 ≤ c.toInt ∧ c.toInt ≤ 102)
def sgn (c : Int32) : Int32 := if c = 42 then 5 else if c = 43 then 3 else if c = 45 then 4 else if c = 60 then 6 else -2
abbrev IL : Type := List (Int32 × Int32)
/-- an EXPRESSION at a character, in 8 - f others: where it ends, or where it is at FAULT; its INSTRUCTIONS -/
def pE (d : Nat → Int32) (L : Nat) : Nat → Nat → Nat × Option IL
  | 0, a => (a, none)
  | f + 1, a =>
    if isD (ch d L a) = true then
      (if isD (ch d L (a + 1)) = true then (a + 2, some [(0, (ch d L a - 48) * 10 + ch d L (a + 1) - 48)]) else (a + 1, some [(0, ch d L a - 48)]))
    else if isV (ch d L a) = true then (a + 1, some [(1, ch d L a - 97)])
    else if ch d L a = 33 then
      (match pE d L f (a + 1) with
      | (b, none) => (b, none)
      | (b, some l) => (b, some (l ++ [(7, 0)])))
    else if ch d L a = 40 then
      (match pE d L f (a + 1) with
      | (b, none) => (b, none)
      | (b, some l) => if sgn (ch d L b) = -2 then (b, none) else
        (match pE d L f (b + 1) with
        | (e, none) => (e, none)
        | (e, some l2) => if ch d L e = 41 then (e + 1, some (l ++ l2 ++ [(sgn (ch d L b), 0)])) else (e, none)))
    else (a, none)
/-- STATEMENTS one behind the other, by what a STATEMENT is -/
def pL (d : Nat → Int32) (L : Nat) (S : Nat → Nat → Nat × Option IL) : Nat → Nat → Nat → Nat × Option IL
  | 0, a, _ => (a, none)
  | k + 1, a, base =>
    if L ≤ a ∨ ch d L a = 125 then (a, some []) else
    (match S a base with
    | (b, none) => (b, none)
    | (b, some l) => (match pL d L S k b (base + l.length) with
      | (e, none) => (e, none)
      | (e, some l2) => (e, some (l ++ l2))))
def pB (d : Nat → Int32) (L : Nat) (S : Nat → Nat → Nat × Option IL) (a base : Nat) : Nat × Option IL :=
  if ch d L a = 123 then
    (match pL d L S 121 (a + 1) base with
    | (b, none) => (b, none)
    | (b, some l) => if ch d L b = 125 then (b + 1, some l) else (b, none))
  else (a, none)
/-- a sign, an EXPRESSION and a block -/
def pG (d : Nat → Int32) (L : Nat) (S : Nat → Nat → Nat × Option IL) (a base : Nat) : Nat × Option (IL × IL) :=
  match pE d L 8 (a + 1) with
  | (b, none) => (b, none)
  | (b, some l) => (match pB d L S b (base + l.length + 1) with
    | (e, none) => (e, none)
    | (e, some l2) => (e, some (l, l2)))
def pS (d : Nat → Int32) (L : Nat) : Nat → Nat → Nat → Nat × Option IL
  | 0, a, _ => (a, none)
  | f + 1, a, base =>
    if isV (ch d L a) = true then
      (if ch d L (a + 1) = 61 then
        (match pE d L 8 (a + 2) with
        | (b, none) => (b, none)
        | (b, some l) => if ch d L b = 59 then (b + 1, some (l ++ [(2, ch d L a - 97)])) else (b, none))
      else (a + 1, none))
    else if ch d L a = 35 then
      (match pE d L 8 (a + 1) with
      | (b, none) => (b, none)
      | (b, some l) => if ch d L b = 59 then (b + 1, some (l ++ [(10, 0)])) else (b, none))
    else if ch d L a = 64 then
      (match pG d L (pS d L f) a base with
      | (b, none) => (b, none)
      | (b, some (l, l2)) => (b, some (l ++ (9, nI (base + l.length + 1 + l2.length + 1)) :: l2 ++ [(8, nI base)])))
    else if ch d L a = 63 then
      (match pG d L (pS d L f) a base with
      | (b, none) => (b, none)
      | (b, some (l, l2)) => if ch d L b = 58 then
          (match pB d L (pS d L f) (b + 1) (base + l.length + 1 + l2.length + 1) with
          | (e, none) => (e, none)
          | (e, some l3) => (e, some (l ++ (9, nI (base + l.length + 1 + l2.length + 1)) :: l2 ++ (8, nI (base + l.length + 1 + l2.length + 1 + l3.length)) :: l3)))
        else (b, some (l ++ (9, nI (base + l.length + 1 + l2.length)) :: l2)))
    else (a, none)
/-- the class's rows hold the INSTRUCTIONS l, of which 31 have room -/
def MR (l : IL) (ops nums hts : Nat → Int32) (size : Int32) : Prop := size = nI (min l.length 31) ∧ (∀ i, i < min l.length 31 → okO (ops i)) ∧ (∀ j, j ≤ min l.length 31 → hts j = ht ops j) ∧ (l.length ≤ 31 → ∀ i, i < l.length → l[i]? = some (ops i, nums i))
theorem MR_add {l : IL} {ops nums hts : Nat → Int32} {size o a : Int32} (h : MR l ops nums hts size) (ho : okO o) : ∃ (r : Int32) (ops' nums' hts' : Nat → Int32) (size' : Int32), g_Listing_add 31 ops nums hts size o a = some (r, ops', nums', hts', size') ∧ MR (l ++ [(o, sa o a)]) ops' nums' hts' size' := by
  obtain ⟨rfl, h1, h2, h3⟩ := h
  by_cases hl : l.length < 31
  · have em : min l.length 31 = l.length := by omega
    rw [em] at h1 h2 ⊢
    unfold g_Listing_add
    rw [if_pos (nI_lt hl (by omega)), z_a1, z_s1 (by omega), Nat.add_sub_cancel]
    obtain ⟨hts', e1, e2⟩ := cl_set (R := 31) (n := l.length + 1) (k := l.length) (ops := ops) (nums := nums) (hts := hts) (o := o) (a := a) (by omega) (by omega) (by omega) ho h2
    rw [z_bind e1]
    refine ⟨_, _, _, _, _, rfl, ?_⟩
    have el : min (l ++ [(o, sa o a)]).length 31 = l.length + 1 := by rw [List.length_append, List.length_singleton]; omega
    refine ⟨by rw [el], ?_, ?_, ?_⟩
    · rw [el]
      intro i hi
      by_cases hil : i = l.length
      · subst hil; show okO (upd ops l.length o l.length); rw [pk_us]; exact ho
      · show okO (upd ops l.length o i); rw [pk_un hil]; exact h1 i (by omega)
    · rw [el]; exact e2
    · intro _ i hi
      rw [List.length_append, List.length_singleton] at hi
      by_cases hil : i = l.length
      · subst hil
        show _ = some (upd ops l.length o l.length, upd nums l.length (sa o a) l.length)
        rw [pk_us, pk_us, List.getElem?_append_right (Nat.le_refl _), Nat.sub_self]
        rfl
      · show _ = some (upd ops l.length o i, upd nums l.length (sa o a) i)
        rw [pk_un hil, pk_un hil, List.getElem?_append_left (by omega)]
        exact h3 (by omega) i (by omega)
  · have em : min l.length 31 = 31 := by omega
    rw [em] at h1 h2 ⊢
    rw [cl_addF (by omega)]
    refine ⟨_, _, _, _, _, rfl, ?_⟩
    have el : min (l ++ [(o, sa o a)]).length 31 = 31 := by rw [List.length_append, List.length_singleton]; omega
    refine ⟨by rw [el], by rw [el]; exact h1, by rw [el]; exact h2, fun hc => ?_⟩
    rw [List.length_append, List.length_singleton] at hc
    omega
theorem MR_set {l : IL} {ops nums hts : Nat → Int32} {size o : Int32} {k : Nat} (h : MR l ops nums hts size) (hk : k < l.length) (ho : o = 8 ∨ o = 9) : ∃ (ops' nums' hts' : Nat → Int32), g_Listing_set 31 ops nums hts size (nI (min k 31)) o size = some (ops', nums', hts') ∧ MR (l.set k (o, nI l.length)) ops' nums' hts' size := by
  obtain ⟨rfl, h1, h2, h3⟩ := h
  have hoo : okO o := by rcases ho with rfl | rfl <;> (unfold okO; decide)
  have hsa : ∀ x : Int32, sa o x = x := by rcases ho with rfl | rfl <;> (intro x; rfl)
  by_cases hk31 : k < 31
  · have ek : min k 31 = k := by omega
    rw [ek]
    obtain ⟨hts', e1, e2⟩ := cl_set (R := 31) (n := min l.length 31) (k := k) (ops := ops) (nums := nums) (hts := hts) (o := o) (a := nI (min l.length 31)) (by omega) (by omega) (by omega) hoo (fun j hj => h2 j (by omega))
    rw [hsa] at e1
    refine ⟨_, _, _, e1, by rw [List.length_set], ?_, ?_, ?_⟩
    · rw [List.length_set]
      intro i hi
      by_cases hik : i = k
      · subst hik; rw [pk_us]; exact hoo
      · rw [pk_un hik]; exact h1 i hi
    · rw [List.length_set]; exact e2
    · rw [List.length_set]
      intro hl i hi
      have el : min l.length 31 = l.length := by omega
      rw [el]
      by_cases hik : i = k
      · subst hik
        rw [pk_us, pk_us, List.getElem?_set_self hi]
      · rw [pk_un hik, pk_un hik, List.getElem?_set_ne (Ne.symm hik)]
        exact h3 hl i hi
  · have ek : min k 31 = 31 := by omega
    have el : min l.length 31 = 31 := by omega
    rw [el] at h1 h2
    rw [ek, el]
    have e : g_Listing_set 31 ops nums hts (nI 31) (nI 31) o (nI 31) = some (ops, nums, hts) := by
      unfold g_Listing_set
      rw [z_bind (cl_holds (by omega) (by omega)), if_neg (show ¬ 31 < 31 by omega), if_pos (show (0 : Int32) = 0 from rfl)]
    refine ⟨_, _, _, e, by rw [List.length_set, el], by rw [List.length_set, el]; exact h1, by rw [List.length_set, el]; exact h2, fun hc => ?_⟩
    rw [List.length_set] at hc
    omega
theorem cl_take {L a : Nat} {row : Nat → Int32} {c : Int32} (hL : L ≤ 120) (ha : a < 1000) : g_Draft_take row (nI L) (nI a) c = some (if ch row L a = c then (1, nI (a + 1)) else (0, nI a)) := by
  unfold g_Draft_take ch
  rw [z_bind (cl_Chars_at hL (by omega) (by omega)), z_a1]
  by_cases h : (if a < L then row a else -2) = c
  · rw [if_pos h, if_pos h]
  · rw [if_neg h, if_neg h]
theorem cl_isDigit (c : Int32) : g_Draft_isDigit c = some (if isD c = true then 1 else 0) := by
  unfold g_Draft_isDigit isD
  have h48 := zi_48
  have h57 := zi_57
  by_cases h1 : c < 48
  · rw [if_pos h1, if_neg (by rw [z_lt] at h1; simp; omega)]
  · rw [if_neg h1]
    by_cases h2 : 57 < c
    · rw [if_pos h2, if_neg (by rw [z_lt] at h2; simp; omega)]
    · rw [if_neg h2, if_pos (by rw [z_lt] at h1 h2; simp; omega)]
theorem cl_isVariable (c : Int32) : g_Draft_isVariable c = some (if isV c = true then 1 else 0) := by
  unfold g_Draft_isVariable isV
  have h97 := zi_97
  have h103 := zi_103
  by_cases h1 : c < 97
  · rw [if_pos h1, if_neg (by rw [z_lt] at h1; simp; omega)]
  · rw [if_neg h1]
    by_cases h2 : 103 ≤ c
    · rw [if_pos h2, if_neg (by rw [z_le] at h2; simp; omega)]
    · rw [if_neg h2, if_pos (by rw [z_lt] at h1; rw [z_le] at h2; simp; omega)]
theorem cl_sgn (c : Int32) : g_Draft_opOfSign c = some (sgn c) := by
  unfold g_Draft_opOfSign sgn
  repeat (first | rfl | split)
theorem cl_ch {L a : Nat} {row : Nat → Int32} (hL : L ≤ 120) (ha : a < 1000) : g_Characters_at 120 row (nI L) (nI a) = some (ch row L a) := cl_Chars_at hL (by omega) (by omega)
theorem isD_lt {d : Nat → Int32} {L a : Nat} (h : isD (ch d L a) = true) : a < L := by
  unfold ch at h
  by_cases hl : a < L
  · exact hl
  · rw [if_neg hl] at h; exact absurd h (by decide)
theorem isV_lt {d : Nat → Int32} {L a : Nat} (h : isV (ch d L a) = true) : a < L := by
  unfold ch at h
  by_cases hl : a < L
  · exact hl
  · rw [if_neg hl] at h; exact absurd h (by decide)
theorem ch_lt {d : Nat → Int32} {L a : Nat} {c : Int32} (h : ch d L a = c) (hc : c ≠ -2) : a < L := by
  unfold ch at h
  by_cases hl : a < L
  · exact hl
  · rw [if_neg hl] at h; exact absurd h.symm hc
