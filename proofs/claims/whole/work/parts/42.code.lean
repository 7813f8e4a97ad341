/-! the CODE: what an INSTRUCTION may be, heights; the class's and the reference's functions of it -/
def okO (o : Int32) : Prop := o = 0 ∨ o = 1 ∨ o = 2 ∨ o = 3 ∨ o = 4 ∨ o = 5 ∨ o = 6 ∨ o = 7 ∨ o = 8 ∨ o = 9 ∨ o = 10
theorem z_ops (o : Int32) : okO o ∨ o.toInt < 0 ∨ 10 < o.toInt := by
  have e : ∀ y : Int32, o.toInt = y.toInt → o = y := fun y h => Int32.toInt_inj.mp h
  rcases (show o.toInt < 0 ∨ 10 < o.toInt ∨ o.toInt = 0 ∨ o.toInt = 1 ∨ o.toInt = 2 ∨ o.toInt = 3 ∨ o.toInt = 4 ∨ o.toInt = 5 ∨ o.toInt = 6 ∨ o.toInt = 7 ∨ o.toInt = 8 ∨ o.toInt = 9 ∨ o.toInt = 10 by omega) with h | h | h | h | h | h | h | h | h | h | h | h | h
  · exact Or.inr (Or.inl h)
  · exact Or.inr (Or.inr h)
  · exact Or.inl (Or.inl (e 0 h))
  · exact Or.inl (Or.inr (Or.inl (e 1 h)))
  · exact Or.inl (Or.inr (Or.inr (Or.inl (e 2 h))))
  · exact Or.inl (Or.inr (Or.inr (Or.inr (Or.inl (e 3 h)))))
  · exact Or.inl (Or.inr (Or.inr (Or.inr (Or.inr (Or.inl (e 4 h))))))
  · exact Or.inl (Or.inr (Or.inr (Or.inr (Or.inr (Or.inr (Or.inl (e 5 h)))))))
  · exact Or.inl (Or.inr (Or.inr (Or.inr (Or.inr (Or.inr (Or.inr (Or.inl (e 6 h))))))))
  · exact Or.inl (Or.inr (Or.inr (Or.inr (Or.inr (Or.inr (Or.inr (Or.inr (Or.inl (e 7 h)))))))))
  · exact Or.inl (Or.inr (Or.inr (Or.inr (Or.inr (Or.inr (Or.inr (Or.inr (Or.inr (Or.inl (e 8 h))))))))))
  · exact Or.inl (Or.inr (Or.inr (Or.inr (Or.inr (Or.inr (Or.inr (Or.inr (Or.inr (Or.inr (Or.inl (e 9 h)))))))))))
  · exact Or.inl (Or.inr (Or.inr (Or.inr (Or.inr (Or.inr (Or.inr (Or.inr (Or.inr (Or.inr (Or.inr (e 10 h)))))))))))
/-- the greatest a of an op; 0 for ops without one -/
def mx (o : Int32) : Int := if o = 0 then 99 else if o = 1 then 5 else if o = 2 then 5 else if o = 8 then 30 else if o = 9 then 30 else 0
def okI (o a : Int32) : Prop := okO o ∧ 0 ≤ a.toInt ∧ a.toInt ≤ mx o
/-- what is kept of a -/
def sa (o a : Int32) : Int32 := if o = 0 then a else if o = 1 then a else if o = 2 then a else if o = 8 then a else if o = 9 then a else 0
def rs (o : Int32) : Int32 := if o = 0 then 1 else if o = 1 then 1 else if o = 7 then 0 else if o = 8 then 0 else -1
theorem cl_rise (o : Int32) : g_Listing_rise o = some (rs o) := by
  unfold g_Listing_rise rs
  repeat (first | rfl | split)
theorem ml_grows {o : Int32} (h : okO o) : g_M_grows o = some (rs o) := by
  rcases h with rfl | rfl | rfl | rfl | rfl | rfl | rfl | rfl | rfl | rfl | rfl <;> decide
def ht (o : Nat → Int32) : Nat → Int32
  | 0 => 0
  | n + 1 => ht o n + rs (o n)
theorem ml_in1 {x lo hi : Int32} (h1 : lo.toInt ≤ x.toInt) (h2 : x.toInt ≤ hi.toInt) : g_M_in x lo hi = some 1 := by
  unfold g_M_in
  rw [if_neg (by rw [z_lt]; omega), if_neg (by rw [z_lt]; omega)]
theorem ml_in0 {x lo hi : Int32} (h : x.toInt < lo.toInt ∨ hi.toInt < x.toInt) : g_M_in x lo hi = some 0 := by
  unfold g_M_in
  rcases h with h | h
  · rw [if_pos (by rw [z_lt]; omega)]
  · by_cases h1 : x < lo
    · rw [if_pos h1]
    · rw [if_neg h1, if_pos (by rw [z_lt]; omega)]
theorem ml_inn {k lo hi : Nat} (h1 : lo ≤ k) (h2 : k ≤ hi) (hh : hi < 2147483648) : g_M_in (nI k) (nI lo) (nI hi) = some 1 := ml_in1 (by rw [z_tI (by omega), z_tI (by omega)]; omega) (by rw [z_tI (by omega), z_tI (by omega)]; omega)
theorem fits_cases (o a : Int32) : (g_Listing_fits o a = some 1 ∧ g_M_isGood o a = some 1 ∧ okI o (sa o a)) ∨ (g_Listing_fits o a = some 0 ∧ g_M_isGood o a = some 0) := by
  have key : ∀ (o : Int32) (m : Int32), (∀ b : Int32, g_Listing_fits o b = if b < 0 then some 0 else if m < b then some 0 else some 1) → (∀ b : Int32, g_M_isGood o b = (g_M_in b 0 m).bind fun q => if q = 0 ∨ q = 1 then some q else none) → okO o → sa o a = a → m.toInt = mx o → (g_Listing_fits o a = some 1 ∧ g_M_isGood o a = some 1 ∧ okI o (sa o a)) ∨ (g_Listing_fits o a = some 0 ∧ g_M_isGood o a = some 0) := by
    intro o m h1 h2 h3 h4 h5
    rw [h1, h2]
    by_cases ha : a < 0
    · refine Or.inr ⟨by rw [if_pos ha], ?_⟩
      rw [z_bind (ml_in0 (Or.inl (by rw [z_lt] at ha; exact ha)))]
      decide
    · by_cases hb : m < a
      · refine Or.inr ⟨by rw [if_neg ha, if_pos hb], ?_⟩
        rw [z_bind (ml_in0 (Or.inr (by rw [z_lt] at hb; exact hb)))]
        decide
      · refine Or.inl ⟨by rw [if_neg ha, if_neg hb], ?_, h3, ?_, ?_⟩
        · rw [z_lt] at ha hb
          rw [z_bind (ml_in1 (by have := zi_0; omega) (by omega))]
          decide
        · rw [h4]
          rw [z_lt] at ha
          have := zi_0; omega
        · rw [h4]
          rw [z_lt] at hb
          omega
  rcases z_ops o with (rfl | rfl | rfl | rfl | rfl | rfl | rfl | rfl | rfl | rfl | rfl) | h | h
  · exact key 0 99 (fun b => rfl) (fun b => rfl) (Or.inl rfl) rfl (by decide)
  · exact key 1 5 (fun b => rfl) (fun b => rfl) (Or.inr (Or.inl rfl)) rfl (by decide)
  · exact key 2 5 (fun b => rfl) (fun b => rfl) (Or.inr (Or.inr (Or.inl rfl))) rfl (by decide)
  · exact Or.inl ⟨rfl, rfl, show okI 3 0 by unfold okI okO mx; decide⟩
  · exact Or.inl ⟨rfl, rfl, show okI 4 0 by unfold okI okO mx; decide⟩
  · exact Or.inl ⟨rfl, rfl, show okI 5 0 by unfold okI okO mx; decide⟩
  · exact Or.inl ⟨rfl, rfl, show okI 6 0 by unfold okI okO mx; decide⟩
  · exact Or.inl ⟨rfl, rfl, show okI 7 0 by unfold okI okO mx; decide⟩
  · exact key 8 30 (fun b => rfl) (fun b => rfl) (Or.inr (Or.inr (Or.inr (Or.inr (Or.inr (Or.inr (Or.inr (Or.inr (Or.inl rfl))))))))) rfl (by decide)
  · exact key 9 30 (fun b => rfl) (fun b => rfl) (Or.inr (Or.inr (Or.inr (Or.inr (Or.inr (Or.inr (Or.inr (Or.inr (Or.inr (Or.inl rfl)))))))))) rfl (by decide)
  · exact Or.inl ⟨rfl, rfl, show okI 10 0 by unfold okI okO mx; decide⟩
  · have e : ∀ y : Int32, 0 ≤ y.toInt → ¬ o = y := fun y hy e => by subst e; omega
    refine Or.inr ⟨?_, ?_⟩
    · unfold g_Listing_fits
      rw [if_pos (by rw [z_lt]; have := zi_0; omega)]
    · unfold g_M_isGood
      rw [if_neg (e 0 (by decide)), if_neg (e 1 (by decide)), if_neg (e 2 (by decide)), if_neg (e 8 (by decide)), if_neg (e 9 (by decide)), z_bind (ml_in0 (Or.inl (by have := zi_3; omega)))]
      decide
  · have e : ∀ y : Int32, y.toInt ≤ 10 → ¬ o = y := fun y hy e => by subst e; omega
    refine Or.inr ⟨?_, ?_⟩
    · unfold g_Listing_fits
      rw [if_neg (by rw [z_lt]; have := zi_0; omega), if_neg (by rw [z_le]; have := zi_10; omega)]
    · unfold g_M_isGood
      rw [if_neg (e 0 (by decide)), if_neg (e 1 (by decide)), if_neg (e 2 (by decide)), if_neg (e 8 (by decide)), if_neg (e 9 (by decide)), z_bind (ml_in0 (Or.inr (by have := zi_10; omega)))]
      decide
/-- the class's rows of heights, filled up from place p on -/
theorem cl_set_loop {R n : Nat} {ops nums : Nat → Int32} (hn : n ≤ R) (hR : R < 1000000) : ∀ (f i : Nat) (hts : Nat → Int32), i ≤ n → n - i < f → (∀ j, j ≤ i → hts j = ht ops j) → ∃ hts' : Nat → Int32, b_Listing_set_38 R (nI n) f ops nums hts (nI i) = some (ops, nums, hts') ∧ ∀ j, j ≤ n → hts' j = ht ops j := by
  intro f
  induction f with
  | zero => intro i hts h1 h2; omega
  | succ f ih =>
    intro i hts h1 h2 h3
    rw [b_Listing_set_38]
    by_cases h : i < n
    · rw [if_neg (nI_ge h (by omega)), if_pos (z_ck (by omega) (by omega)), if_pos (z_ck (by omega) (by omega)), z_cl (by omega), z_bind (cl_rise _), z_a1, if_pos (z_ck (by omega) (by omega)), z_cl (by omega)]
      refine ih (i + 1) _ (by omega) (by omega) (fun j hj => ?_)
      by_cases hj1 : j = i + 1
      · subst hj1
        rw [pk_us, h3 i (Nat.le_refl i)]
        rfl
      · rw [pk_un hj1]
        exact h3 j (by omega)
    · have : i = n := by omega
      subst this
      rw [if_pos (nI_le (Nat.le_refl _) (by omega))]
      exact ⟨hts, rfl, h3⟩
theorem ht_upd {o : Nat → Int32} {k : Nat} {x : Int32} : ∀ j, j ≤ k → ht (upd o k x) j = ht o j := by
  intro j
  induction j with
  | zero => intro _; rfl
  | succ j ih =>
    intro h
    show ht (upd o k x) j + rs (upd o k x j) = ht o j + rs (o j)
    rw [ih (by omega), pk_un (by omega)]
theorem sa_gn {o : Int32} (h : okO o) (a : Int32) : ∃ g : Int32, g_Listing_greatestNumber o = some g ∧ sa o a = if g = -1 then 0 else a := by
  rcases h with rfl | rfl | rfl | rfl | rfl | rfl | rfl | rfl | rfl | rfl | rfl <;> exact ⟨_, rfl, rfl⟩
theorem sa_has {o : Int32} (h : okO o) (a : Int32) : ∃ g : Int32, g_M_has o = some g ∧ sa o a = if g = 0 then 0 else a := by
  rcases h with rfl | rfl | rfl | rfl | rfl | rfl | rfl | rfl | rfl | rfl | rfl <;> exact ⟨_, rfl, rfl⟩
theorem cl_set {R n k : Nat} {ops nums hts : Nat → Int32} {o a : Int32} (hn : n ≤ R) (hR : R < 400) (hk : k < n) (ho : okO o) (hh : ∀ j, j ≤ k → hts j = ht ops j) : ∃ hts' : Nat → Int32, g_Listing_set R ops nums hts (nI n) (nI k) o a = some (upd ops k o, upd nums k (sa o a), hts') ∧ ∀ j, j ≤ n → hts' j = ht (upd ops k o) j := by
  unfold g_Listing_set
  rw [z_bind (cl_holds (by omega) (by omega)), if_pos hk, if_neg (by decide), if_pos (z_ck (by omega) (by omega)), z_cl (by omega)]
  obtain ⟨g, hg, hs⟩ := sa_gn ho a
  obtain ⟨hts', h1, h2⟩ := cl_set_loop (R := R) (n := n) (ops := upd ops k o) (nums := upd nums k (sa o a)) hn (by omega) 500 k hts (by omega) (by omega) (fun j hj => by rw [ht_upd j hj]; exact hh j hj)
  refine ⟨hts', ?_, h2⟩
  rw [z_bind hg]
  by_cases hg1 : g = -1
  · rw [if_pos hg1, if_pos (z_ck (by omega) (by omega))]
    rw [if_pos hg1] at hs
    rw [hs] at h1 ⊢
    exact h1
  · rw [if_neg hg1, if_pos (z_ck (by omega) (by omega))]
    rw [if_neg hg1] at hs
    rw [hs] at h1 ⊢
    exact h1
/-- INSTRUCTIONS 0 .. n - 1 of the class's rows -/
def CI (n : Nat) (ops nums hts : Nat → Int32) : Prop := (∀ i, i < n → okI (ops i) (nums i)) ∧ ∀ j, j ≤ n → hts j = ht ops j
theorem cl_add {R n : Nat} {ops nums hts : Nat → Int32} {o a : Int32} (hn : n < R) (hR : R < 400) (ho : okI o (sa o a)) (hC : CI n ops nums hts) : ∃ hts' : Nat → Int32, g_Listing_add R ops nums hts (nI n) o a = some (1, upd ops n o, upd nums n (sa o a), hts', nI (n + 1)) ∧ CI (n + 1) (upd ops n o) (upd nums n (sa o a)) hts' := by
  unfold g_Listing_add
  rw [if_pos (nI_lt hn (by omega)), z_a1, z_s1 (by omega), Nat.add_sub_cancel]
  obtain ⟨hts', h1, h2⟩ := cl_set (R := R) (n := n + 1) (k := n) (ops := ops) (nums := nums) (hts := hts) (o := o) (a := a) (by omega) hR (by omega) ho.1 hC.2
  refine ⟨hts', by rw [z_bind h1], fun i hi => ?_, h2⟩
  by_cases h : i = n
  · subst h
    rw [pk_us, pk_us]
    exact ho
  · rw [pk_un h, pk_un h]
    exact hC.1 i (by omega)
theorem cl_addF {R : Nat} {ops nums hts : Nat → Int32} {o a : Int32} (hR : R < 400) : g_Listing_add R ops nums hts (nI R) o a = some (0, ops, nums, hts, nI R) := by
  unfold g_Listing_add
  rw [if_neg (nI_nlt (Nat.le_refl _) (by omega))]
