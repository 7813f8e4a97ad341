/-! numbers: Int32 against Nat and Int; rows for the pure functions' guards -/
theorem z_lt (x y : Int32) : (x < y) = (x.toInt < y.toInt) := propext Int32.lt_iff_toInt_lt
theorem z_le (x y : Int32) : (x ≤ y) = (x.toInt ≤ y.toInt) := propext Int32.le_iff_toInt_le
theorem z_eq (x y : Int32) : (x = y) = (x.toInt = y.toInt) := propext Int32.toInt_inj.symm
theorem z_ck {k n : Nat} (h : k < n) (hn : n < 2147483648) : ck (nI k) n = true := decide_eq_true (vp_in_nI h hn)
theorem z_ckf {k n : Nat} (h : n ≤ k) (hk : k < 2147483648) : ck (nI k) n = false := decide_eq_false (fun hn => hn (Or.inr (by rw [nI_clamp hk]; exact h)))
theorem z_add (a b : Nat) : nI a + nI b = nI (a + b) := nI_add a b
theorem z_a1 (a : Nat) : nI a + 1 = nI (a + 1) := nI_1 a
theorem z_a2 (a : Nat) : nI a + 2 = nI (a + 2) := nI_add a 2
theorem z_s1 {a : Nat} (h : 0 < a) : nI a - 1 = nI (a - 1) := pk_sub (b := 1) h
theorem z_m1 {a : Nat} (h : 0 < a) : nI a + (-1) = nI (a - 1) := sb_m1 h
theorem z_cl {k : Nat} (h : k < 2147483648) : (nI k).toNatClampNeg = k := nI_clamp h
theorem z_cl0 : (0 : Int32).toNatClampNeg = 0 := rfl
theorem z_tI {n : Nat} (h : n < 2147483648) : (nI n).toInt = (n : Int) := nI_toInt h
theorem z_ne {x y : Int32} (h : x.toInt ≠ y.toInt) : ¬ x = y := fun e => h (by rw [e])
theorem z_bind {α β : Type} {x : Option α} {f : α → Option β} {a : α} (h : x = some a) : x.bind f = f a := by rw [h]; rfl
theorem z_us {α : Type} (f : Nat → Int32) (k : Nat) (x : Int32) : upd f k x k = x := pk_us
theorem z_un (f : Nat → Int32) {k j : Nat} (x : Int32) (h : j ≠ k) : upd f k x j = f j := pk_un h
theorem z_u (f : Nat → Int32) (k j : Nat) (x : Int32) : upd f k x j = if j = k then x else f j := by
  by_cases h : j = k
  · subst h; rw [pk_us, if_pos rfl]
  · rw [pk_un h, if_neg h]
theorem z_gc {c : Nat} (h : c < 65536) : vp_nar .char (gc (nI c)) = nI c := by
  unfold gc
  rw [pk_vc, pk_char, pk_tn (by omega), Nat.mod_eq_of_lt h]
theorem zi_0 : (0 : Int32).toInt = 0 := by decide
theorem zi_1 : (1 : Int32).toInt = 1 := by decide
theorem zi_2 : (2 : Int32).toInt = 2 := by decide
theorem zi_3 : (3 : Int32).toInt = 3 := by decide
theorem zi_4 : (4 : Int32).toInt = 4 := by decide
theorem zi_5 : (5 : Int32).toInt = 5 := by decide
theorem zi_6 : (6 : Int32).toInt = 6 := by decide
theorem zi_7 : (7 : Int32).toInt = 7 := by decide
theorem zi_8 : (8 : Int32).toInt = 8 := by decide
theorem zi_9 : (9 : Int32).toInt = 9 := by decide
theorem zi_10 : (10 : Int32).toInt = 10 := by decide
theorem zi_11 : (11 : Int32).toInt = 11 := by decide
theorem zi_12 : (12 : Int32).toInt = 12 := by decide
theorem zi_13 : (13 : Int32).toInt = 13 := by decide
theorem zi_14 : (14 : Int32).toInt = 14 := by decide
theorem zi_15 : (15 : Int32).toInt = 15 := by decide
theorem zi_16 : (16 : Int32).toInt = 16 := by decide
theorem zi_17 : (17 : Int32).toInt = 17 := by decide
theorem zi_18 : (18 : Int32).toInt = 18 := by decide
theorem zi_19 : (19 : Int32).toInt = 19 := by decide
theorem zi_20 : (20 : Int32).toInt = 20 := by decide
theorem zi_21 : (21 : Int32).toInt = 21 := by decide
theorem zi_22 : (22 : Int32).toInt = 22 := by decide
theorem zi_23 : (23 : Int32).toInt = 23 := by decide
theorem zi_24 : (24 : Int32).toInt = 24 := by decide
theorem zi_25 : (25 : Int32).toInt = 25 := by decide
theorem zi_26 : (26 : Int32).toInt = 26 := by decide
theorem zi_27 : (27 : Int32).toInt = 27 := by decide
theorem zi_28 : (28 : Int32).toInt = 28 := by decide
theorem zi_29 : (29 : Int32).toInt = 29 := by decide
theorem zi_30 : (30 : Int32).toInt = 30 := by decide
theorem zi_31 : (31 : Int32).toInt = 31 := by decide
theorem zi_33 : (33 : Int32).toInt = 33 := by decide
theorem zi_35 : (35 : Int32).toInt = 35 := by decide
theorem zi_40 : (40 : Int32).toInt = 40 := by decide
theorem zi_41 : (41 : Int32).toInt = 41 := by decide
theorem zi_42 : (42 : Int32).toInt = 42 := by decide
theorem zi_43 : (43 : Int32).toInt = 43 := by decide
theorem zi_45 : (45 : Int32).toInt = 45 := by decide
theorem zi_48 : (48 : Int32).toInt = 48 := by decide
theorem zi_57 : (57 : Int32).toInt = 57 := by decide
theorem zi_58 : (58 : Int32).toInt = 58 := by decide
theorem zi_59 : (59 : Int32).toInt = 59 := by decide
theorem zi_60 : (60 : Int32).toInt = 60 := by decide
theorem zi_61 : (61 : Int32).toInt = 61 := by decide
theorem zi_63 : (63 : Int32).toInt = 63 := by decide
theorem zi_64 : (64 : Int32).toInt = 64 := by decide
theorem zi_90 : (90 : Int32).toInt = 90 := by decide
theorem zi_97 : (97 : Int32).toInt = 97 := by decide
theorem zi_99 : (99 : Int32).toInt = 99 := by decide
theorem zi_102 : (102 : Int32).toInt = 102 := by decide
theorem zi_103 : (103 : Int32).toInt = 103 := by decide
theorem zi_120 : (120 : Int32).toInt = 120 := by decide
theorem zi_123 : (123 : Int32).toInt = 123 := by decide
theorem zi_125 : (125 : Int32).toInt = 125 := by decide
theorem zi_126 : (126 : Int32).toInt = 126 := by decide
theorem zi_200 : (200 : Int32).toInt = 200 := by decide
theorem zi_400 : (400 : Int32).toInt = 400 := by decide
theorem zi_401 : (401 : Int32).toInt = 401 := by decide
theorem zi_600 : (600 : Int32).toInt = 600 := by decide
theorem zi_m1 : (-1 : Int32).toInt = -1 := by decide
theorem zi_m2 : (-2 : Int32).toInt = -2 := by decide
theorem zi_m3 : (-3 : Int32).toInt = -3 := by decide
theorem zi_m4 : (-4 : Int32).toInt = -4 := by decide
theorem zi_m5 : (-5 : Int32).toInt = -5 := by decide
theorem zi_m6 : (-6 : Int32).toInt = -6 := by decide
theorem zi_m7 : (-7 : Int32).toInt = -7 := by decide
