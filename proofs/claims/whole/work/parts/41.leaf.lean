/-! the class's smallest functions, on numbers that stand for Nats -/
theorem cl_Chars_size (s : Int32) : g_Characters_size s = some s := rfl
theorem cl_Chars_drop (s : Int32) : g_Characters_drop s = some 0 := rfl
theorem cl_Chars_at {R L k : Nat} {row : Nat → Int32} (hL : L ≤ R) (hR : R < 2147483648) (hk : k < 2147483648) : g_Characters_at R row (nI L) (nI k) = some (if k < L then row k else (-2)) := by
  unfold g_Characters_at
  rw [if_neg (nI_pos hk)]
  by_cases h : k < L
  · rw [if_neg (nI_ge h (by omega)), if_pos (z_ck (by omega) hR), z_cl hk, if_pos h]
  · rw [if_pos (nI_le (by omega) hk), if_neg h]
theorem cl_Chars_add {R L : Nat} {row : Nat → Int32} {c : Int32} (hL : L < R) (hR : R < 2147483648) : g_Characters_add R row (nI L) c = some (1, upd row L (vp_nar .char (gc c)), nI (L + 1)) := by
  unfold g_Characters_add
  rw [if_pos (nI_lt hL hR), if_pos (z_ck hL hR), z_cl (by omega), z_a1]
theorem cl_Chars_addF {R : Nat} {row : Nat → Int32} {c : Int32} (hR : R < 2147483648) : g_Characters_add R row (nI R) c = some (0, row, nI R) := by
  unfold g_Characters_add
  rw [if_neg (nI_nlt (Nat.le_refl _) hR)]
theorem cl_size (s : Int32) : g_Listing_size s = some s := rfl
theorem cl_drop (s : Int32) : g_Listing_drop s = some 0 := rfl
theorem cl_holds {n k : Nat} (hn : n < 2147483648) (hk : k < 2147483648) : g_Listing_holds (nI n) (nI k) = some (if k < n then 1 else 0) := by
  unfold g_Listing_holds
  rw [if_neg (nI_pos hk)]
  by_cases h : k < n
  · rw [if_neg (nI_ge h hn), if_pos h]
  · rw [if_pos (nI_le (by omega) hk), if_neg h]
theorem cl_op {R n k : Nat} {f : Nat → Int32} (hn : n ≤ R) (hR : R < 2147483648) (hk : k < 2147483648) : g_Listing_op R f (nI n) (nI k) = some (if k < n then f k else (-2)) := by
  unfold g_Listing_op
  rw [z_bind (cl_holds (by omega) hk)]
  by_cases h : k < n
  · rw [if_pos h, if_neg (by decide), if_pos (z_ck (by omega) hR), z_cl hk, if_pos h]
  · rw [if_neg h, if_pos rfl, if_neg h]
theorem cl_number {R n k : Nat} {f : Nat → Int32} (hn : n ≤ R) (hR : R < 2147483648) (hk : k < 2147483648) : g_Listing_number R f (nI n) (nI k) = some (if k < n then f k else (-2)) := by
  unfold g_Listing_number
  rw [z_bind (cl_holds (by omega) hk)]
  by_cases h : k < n
  · rw [if_pos h, if_neg (by decide), if_pos (z_ck (by omega) hR), z_cl hk, if_pos h]
  · rw [if_neg h, if_pos rfl, if_neg h]
theorem cl_height {R n k : Nat} {f : Nat → Int32} (hn : n ≤ R) (hR : R < 2147483646) (hk : k < 2147483648) : g_Listing_heightBefore R f (nI n) (nI k) = some (if k ≤ n then f k else 0) := by
  unfold g_Listing_heightBefore
  rw [if_neg (nI_pos hk)]
  by_cases h : k ≤ n
  · rw [if_neg (nI_nlt h (by omega)), if_pos (z_ck (by omega) (by omega)), z_cl hk, if_pos h]
  · rw [if_pos (nI_lt (by omega) (by omega)), if_neg h]
