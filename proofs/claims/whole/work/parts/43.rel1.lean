/-! the CODE on both sides: heights, WRONG places, verify, put, change, clear, code -/
theorem ht_eq {o o' : Nat → Int32} : ∀ p, (∀ i, i < p → o' i = o i) → ht o' p = ht o p := by
  intro p
  induction p with
  | zero => intro _; rfl
  | succ p ih =>
    intro h
    show ht o' p + rs (o' p) = ht o p + rs (o p)
    rw [ih (fun i hi => h i (by omega)), h p (by omega)]
theorem ml_height_loop {op : Nat → Int32} {p : Nat} (hp : p ≤ 30) (ho : ∀ i, i < p → okO (op i)) : ∀ (f i : Nat), i ≤ p → p - i < f → b_M_height_4 op f (nI p) (ht op i) (nI i) = some (ht op p) := by
  intro f
  induction f with
  | zero => intro i h1 h2; omega
  | succ f ih =>
    intro i h1 h2
    rw [b_M_height_4]
    by_cases h : i < p
    · rw [if_neg (nI_ge h (by omega)), if_pos (z_ck (by omega) (by omega)), z_cl (by omega), z_bind (ml_grows (ho i h)), z_a1]
      exact ih (i + 1) (by omega) (by omega)
    · have : i = p := by omega
      subst this
      rw [if_pos (nI_le (Nat.le_refl _) (by omega))]
theorem ml_height {op : Nat → Int32} {p : Nat} (hp : p ≤ 30) (ho : ∀ i, i < p → okO (op i)) : g_M_height op (nI p) = some (ht op p) := ml_height_loop hp ho 500 0 (by omega) (by omega)
theorem z_ai (c : Prop) [Decidable c] : (if c then some (0 : Int32) else some 1) = some (if c then 0 else 1) := by split <;> rfl
/-- is a PLACE wrong, by its op, the HEIGHT before it, and whether its a is a landing -/
def cw (o H : Int32) (ld : Bool) : Int32 :=
  if o = 0 ∨ o = 1 then (if H < 8 then 0 else 1) else if o = 3 ∨ o = 4 ∨ o = 5 ∨ o = 6 then (if 2 ≤ H then 0 else 1) else if o = 7 then (if 1 ≤ H then 0 else 1)
  else if o = 8 then (if H = 0 then (if ld = true then 0 else 1) else 1) else if o = 9 then (if H = 1 then (if ld = true then 0 else 1) else 1) else (if H = 1 then 0 else 1)
def ldg (ops : Nat → Int32) (n k : Nat) : Bool := decide (k ≤ n ∧ ht ops k = 0)
theorem okI_nat {o a : Int32} (h : okI o a) : ∃ k : Nat, k ≤ 99 ∧ a = nI k := by
  have hm : mx o ≤ 99 := by
    rcases h.1 with rfl | rfl | rfl | rfl | rfl | rfl | rfl | rfl | rfl | rfl | rfl <;> decide
  refine ⟨a.toInt.toNat, by have := h.2.1; have := h.2.2; omega, ?_⟩
  apply Int32.toInt_inj.mp
  have h1 := h.2.1
  have h2 := h.2.2
  rw [z_tI (by omega)]
  omega
theorem okI_nat30 {o a : Int32} (h : okI o a) (ho : o = 8 ∨ o = 9) : ∃ k : Nat, k ≤ 30 ∧ a = nI k := by
  obtain ⟨k, hk, rfl⟩ := okI_nat h
  refine ⟨k, ?_, rfl⟩
  have h2 := h.2.2
  rw [z_tI (by omega)] at h2
  rcases ho with rfl | rfl <;> simp [mx] at h2 <;> omega
theorem cl_landing {n k : Nat} {ops nums hts : Nat → Int32} (hC : CI n ops nums hts) (hn : n ≤ 30) (hk : k ≤ 99) : g_Listing_isLanding 30 hts (nI n) (nI k) = some (if ldg ops n k = true then 1 else 0) := by
  unfold g_Listing_isLanding ldg
  by_cases h : k ≤ n
  · rw [if_neg (nI_nlt h (by omega)), z_bind (cl_height hn (by omega) (by omega)), if_pos h, hC.2 k h]
    by_cases h0 : ht ops k = 0
    · rw [if_pos h0, if_pos (decide_eq_true ⟨h, h0⟩)]
    · rw [if_neg h0, if_neg (by simp [h0])]
  · rw [if_pos (nI_lt (by omega) (by omega)), if_neg (by simp [h])]
theorem cl_isWrong {n p k : Nat} {ops nums hts : Nat → Int32} (hC : CI n ops nums hts) (hn : n ≤ 30) (hp : p < n) (hk : nums p = nI k) (hk9 : k ≤ 99) : g_Listing_isWrong 30 ops nums hts (nI n) (nI p) = some (cw (ops p) (ht ops p) (ldg ops n k)) := by
  unfold g_Listing_isWrong
  rw [z_bind (cl_height hn (by omega) (by omega)), if_pos (show p ≤ n by omega), hC.2 p (by omega), z_bind (cl_op hn (by omega) (by omega)), if_pos hp]
  have hl := cl_landing hC hn hk9
  have hnum : g_Listing_number 30 nums (nI n) (nI p) = some (nI k) := by rw [cl_number hn (by omega) (by omega), if_pos hp, hk]
  rw [hnum]
  simp only [Option.bind_some, hl]
  have ho := (hC.1 p hp).1
  generalize ldg ops n k = ld
  generalize ht ops p = H
  generalize ops p = o at ho
  rcases ho with rfl | rfl | rfl | rfl | rfl | rfl | rfl | rfl | rfl | rfl | rfl
  · exact z_ai (H < 8)
  · exact z_ai (H < 8)
  · exact z_ai (H = 1)
  · exact z_ai (2 ≤ H)
  · exact z_ai (2 ≤ H)
  · exact z_ai (2 ≤ H)
  · exact z_ai (2 ≤ H)
  · exact z_ai (1 ≤ H)
  · by_cases h : H = 0 <;> cases ld <;> simp [cw, h]
  · by_cases h : H = 1 <;> cases ld <;> simp [cw, h]
  · exact z_ai (H = 1)
theorem ml_isWrong {n p k : Nat} {op to : Nat → Int32} (ho : ∀ i, i < n → okO (op i)) (hn : n ≤ 30) (hp : p < n) (hk : to p = nI k) (hk9 : k ≤ 99) : g_M_isWrong op to (nI n) (nI p) = some (cw (op p) (ht op p) (ldg op n k)) := by
  unfold g_M_isWrong
  rw [z_bind (ml_height (by omega) (fun i hi => ho i (by omega))), if_neg (by rw [nI_eq (by omega) (by omega)]; omega), if_pos (z_ck (by omega) (by omega)), z_cl (by omega)]
  have hb : b_M_isWrong_122 op to (nI n) (nI p) = some (if ldg op n k = true then 0 else 1) := by
    unfold b_M_isWrong_122 ldg
    rw [if_pos (z_ck (by omega) (by omega)), z_cl (by omega), hk]
    by_cases h : k ≤ n
    · rw [if_neg (nI_nlt h (by omega)), if_pos (z_ck (by omega) (by omega)), z_bind (ml_height (by omega) (fun i hi => ho i (by omega)))]
      by_cases h0 : ht op k = 0
      · rw [if_pos h0, if_pos (decide_eq_true ⟨h, h0⟩)]
      · rw [if_neg h0, if_neg (by simp [h0])]
    · rw [if_pos (nI_lt (by omega) (by omega)), if_neg (by simp [h])]
  rw [hb]
  have ho := ho p hp
  generalize ldg op n k = ld
  generalize ht op p = H
  generalize op p = o at ho
  have h78 : (H ≤ 7) ↔ (H < 8) := by
    rw [z_le, z_lt]
    have := zi_7
    have := zi_8
    omega
  rcases ho with rfl | rfl | rfl | rfl | rfl | rfl | rfl | rfl | rfl | rfl | rfl
  · simp only [h78]; exact z_ai (H < 8)
  · simp only [h78]; exact z_ai (H < 8)
  · exact z_ai (H = 1)
  · exact z_ai (2 ≤ H)
  · exact z_ai (2 ≤ H)
  · exact z_ai (2 ≤ H)
  · exact z_ai (2 ≤ H)
  · exact z_ai (1 ≤ H)
  · by_cases h : H = 0 <;> cases ld <;> simp [cw, h, g_M_in]
  · by_cases h : H = 1 <;> cases ld <;> simp [cw, h, g_M_in]
  · exact z_ai (H = 1)
/-- what a PLACE that isn't wrong says -/
def okAt (ops nums : Nat → Int32) (n p : Nat) : Prop :=
  (ops p = 0 ∨ ops p = 1 → ht ops p < 8) ∧ (ops p = 3 ∨ ops p = 4 ∨ ops p = 5 ∨ ops p = 6 → 2 ≤ ht ops p) ∧ (ops p = 7 → 1 ≤ ht ops p) ∧ (ops p = 2 ∨ ops p = 10 ∨ ops p = 9 → ht ops p = 1) ∧ (ops p = 8 → ht ops p = 0) ∧ (ops p = 8 ∨ ops p = 9 → ∃ k : Nat, k ≤ n ∧ nums p = nI k ∧ ht ops k = 0)
theorem cw_bit (o H : Int32) (ld : Bool) : cw o H ld = 0 ∨ cw o H ld = 1 := by
  unfold cw
  repeat (first | exact Or.inl rfl | exact Or.inr rfl | split)
theorem cw_ok {ops nums : Nat → Int32} {n p k : Nat} (hk : nums p = nI k) (ho : okO (ops p)) (h : cw (ops p) (ht ops p) (ldg ops n k) = 0) : okAt ops nums n p := by
  have hl : ldg ops n k = true → ∃ k : Nat, k ≤ n ∧ nums p = nI k ∧ ht ops k = 0 := fun h => ⟨k, (of_decide_eq_true h).1, hk, (of_decide_eq_true h).2⟩
  unfold okAt
  generalize ldg ops n k = ld at h hl
  generalize ht ops p = H at h ⊢
  generalize ops p = o at h ho ⊢
  rcases ho with rfl | rfl | rfl | rfl | rfl | rfl | rfl | rfl | rfl | rfl | rfl <;> simp [cw] at h ⊢ <;> first | exact h | (by_cases hH : H = 0 <;> by_cases hH1 : H = 1 <;> cases ld <;> simp_all)
theorem ml_isWrongN {n : Nat} {op to : Nat → Int32} (ho : ∀ i, i < n → okO (op i)) (hn : n ≤ 30) : g_M_isWrong op to (nI n) (nI n) = some (if ht op n = 0 then 0 else 1) := by
  unfold g_M_isWrong
  rw [z_bind (ml_height hn ho), if_pos rfl]
  exact z_ai (ht op n = 0)
/-- the CODE on both sides -/
def RelC (n : Nat) (ops nums hts op to : Nat → Int32) : Prop := n ≤ 30 ∧ CI n ops nums hts ∧ ∀ i, i < n → op i = ops i ∧ to i = nums i
theorem RelC.op {n : Nat} {ops nums hts op to : Nat → Int32} (h : RelC n ops nums hts op to) : ∀ i, i < n → okO (op i) := fun i hi => by rw [(h.2.2 i hi).1]; exact (h.2.1.1 i hi).1
theorem RelC.ht {n : Nat} {ops nums hts op to : Nat → Int32} (h : RelC n ops nums hts op to) {p : Nat} (hp : p ≤ n) : ht op p = ht ops p := ht_eq p (fun i hi => (h.2.2 i (by omega)).1)
theorem ldg_eq {ops op : Nat → Int32} {n k : Nat} (h : ∀ p, p ≤ n → ht op p = ht ops p) : ldg op n k = ldg ops n k := by
  unfold ldg
  by_cases hk : k ≤ n
  · rw [h k hk]
  · simp [hk]
/-- verify: both sides find the same PLACE; if there is none, no PLACE is wrong -/
def okAll (ops nums : Nat → Int32) (n : Nat) : Prop := (∀ p, p < n → okAt ops nums n p) ∧ ht ops n = 0
theorem r_verify_loop {n : Nat} {ops nums hts op to : Nat → Int32} (h : RelC n ops nums hts op to) : ∀ (f p : Nat), p ≤ n → n + 1 - p < f → (∀ i, i < p → okAt ops nums n i) → ∃ r : Int32, b_Listing_leastWrong_2 30 ops nums hts (nI n) f (nI p) = some r ∧ b_M_verify_2 op to (nI n) f (nI p) = some r ∧ ((r = -2 ∧ okAll ops nums n) ∨ ∃ k : Nat, k ≤ n ∧ r = nI k) := by
  intro f
  induction f with
  | zero => intro p h1 h2; omega
  | succ f ih =>
    intro p h1 h2 h3
    have hn := h.1
    rw [b_Listing_leastWrong_2, b_M_verify_2]
    by_cases hp : p < n
    · obtain ⟨k, hk9, hk⟩ := okI_nat (h.2.1.1 p hp)
      have e1 := cl_isWrong h.2.1 hn hp hk hk9
      have e2 := ml_isWrong (op := op) (to := to) h.op hn hp (by rw [(h.2.2 p hp).2]; exact hk) hk9
      rw [(h.2.2 p hp).1, h.ht (by omega), ldg_eq (fun p hp => h.ht hp)] at e2
      rw [if_neg (nI_ge hp (by omega)), if_neg (nI_nlt (by omega) (by omega)), z_bind e1, z_bind e2]
      rcases cw_bit (ops p) (ht ops p) (ldg ops n k) with e | e
      · rw [e, if_pos rfl, if_pos rfl, z_a1]
        refine ih (p + 1) (by omega) (by omega) (fun i hi => ?_)
        by_cases hip : i = p
        · subst hip
          exact cw_ok hk (h.2.1.1 i hp).1 e
        · exact h3 i (by omega)
      · rw [e, if_neg (by decide), if_neg (by decide)]
        exact ⟨nI p, rfl, rfl, Or.inr ⟨p, h1, rfl⟩⟩
    · have : p = n := by omega
      subst this
      rw [if_pos (nI_le (Nat.le_refl _) (by omega)), if_neg (nI_nlt (Nat.le_refl _) (by omega)), z_bind (cl_height hn (by omega) (by omega)), if_pos (Nat.le_refl _), h.2.1.2 p (Nat.le_refl _), z_bind (ml_isWrongN h.op hn), h.ht (Nat.le_refl _)]
      by_cases e : ht ops p = 0
      · rw [if_pos e, if_pos e, if_pos rfl, z_a1]
        obtain ⟨f, rfl⟩ : ∃ f', f = f' + 1 := ⟨f - 1, by omega⟩
        rw [b_M_verify_2, if_pos (nI_lt (by omega) (by omega))]
        exact ⟨-2, rfl, rfl, Or.inl ⟨rfl, h3, e⟩⟩
      · rw [if_neg e, if_neg e, if_neg (by decide)]
        exact ⟨nI p, rfl, rfl, Or.inr ⟨p, h1, rfl⟩⟩
theorem r_least {n : Nat} {ops nums hts op to : Nat → Int32} (h : RelC n ops nums hts op to) : ∃ r : Int32, g_Listing_leastWrong 30 ops nums hts (nI n) = some r ∧ g_M_verify op to (nI n) = some r ∧ ((r = -2 ∧ okAll ops nums n) ∨ ∃ k : Nat, k ≤ n ∧ r = nI k) := by
  have hn := h.1
  exact r_verify_loop h 500 0 (by omega) (by omega) (fun i hi => by omega)
theorem r_verify {n : Nat} {ops nums hts op to : Nat → Int32} (h : RelC n ops nums hts op to) : ∃ r : Int32, g_S_verify ops nums hts (nI n) = some r ∧ g_M_verify op to (nI n) = some r := by
  obtain ⟨r, h1, h2, -⟩ := r_least h
  exact ⟨r, by unfold g_S_verify; rw [z_bind h1], h2⟩
theorem r_put {n : Nat} {ops nums hts op to : Nat → Int32} (h : RelC n ops nums hts op to) (o a : Int32) : ∃ q q', g_S_put ops nums hts (nI n) o a = some q ∧ g_M_put op to (nI n) o a = some q' ∧ q.1 = q'.1 ∧ ∃ n' : Nat, q.2.2.2.2 = nI n' ∧ q'.2.2.2 = nI n' ∧ RelC n' q.2.1 q.2.2.1 q.2.2.2.1 q'.2.1 q'.2.2.1 := by
  have hn := h.1
  unfold g_S_put g_M_put
  rcases fits_cases o a with ⟨h1, h2, h3⟩ | ⟨h1, h2⟩
  · rw [z_bind h1, z_bind h2, if_neg (by decide), if_neg (by decide)]
    by_cases h30 : n = 30
    · subst h30
      rw [z_bind (cl_addF (by omega)), if_pos (show (nI 30 : Int32) = 30 from rfl)]
      exact ⟨_, _, rfl, rfl, rfl, 30, rfl, rfl, h⟩
    · obtain ⟨hts', e1, e2⟩ := cl_add (R := 30) (n := n) (o := o) (a := a) (by omega) (by omega) h3 h.2.1
      rw [z_bind e1]
      dsimp only
      rw [if_neg (by decide), if_neg (by rw [show (30 : Int32) = nI 30 from rfl, nI_eq (by omega) (by omega)]; exact h30), z_a1, z_s1 (by omega), Nat.add_sub_cancel]
      have e3 : g_M_change op to (nI (n + 1)) (nI n) o a = some (1, upd op n o, upd to n (sa o a)) := by
        unfold g_M_change
        rw [z_s1 (by omega), Nat.add_sub_cancel, z_bind (show g_M_in (nI n) 0 (nI n) = some 1 from ml_inn (lo := 0) (Nat.zero_le _) (Nat.le_refl n) (by omega)), if_neg (by decide), z_bind h2, if_neg (by decide), if_pos (z_ck (by omega) (by omega)), z_cl (by omega)]
        obtain ⟨g, hg, hs⟩ := sa_has h3.1 a
        rw [z_bind hg, hs]
        by_cases hg0 : g = 0
        · rw [if_pos hg0, if_pos hg0, if_pos (z_ck (by omega) (by omega))]
        · rw [if_neg hg0, if_neg hg0, if_pos (z_ck (by omega) (by omega))]
      rw [z_bind e3]
      suffices key : RelC (n + 1) (upd ops n o) (upd nums n (sa o a)) hts' (upd op n o) (upd to n (sa o a)) from ⟨_, _, rfl, rfl, rfl, n + 1, rfl, rfl, key⟩
      refine ⟨by omega, e2, fun i hi => ?_⟩
      by_cases hin : i = n
      · subst hin
        exact ⟨by rw [pk_us, pk_us], by rw [pk_us, pk_us]⟩
      · exact ⟨by rw [pk_un hin, pk_un hin]; exact (h.2.2 i (by omega)).1, by rw [pk_un hin, pk_un hin]; exact (h.2.2 i (by omega)).2⟩
  · rw [z_bind h1, z_bind h2, if_pos rfl, if_pos rfl]
    exact ⟨_, _, rfl, rfl, rfl, n, rfl, rfl, h⟩
theorem z_ix (x : Int32) (n : Nat) (hn : n < 1000000) : (x.toInt < 0 ∨ (n : Int) ≤ x.toInt) ∨ ∃ k : Nat, k < n ∧ x = nI k := by
  rcases (show x.toInt < 0 ∨ (n : Int) ≤ x.toInt ∨ (0 ≤ x.toInt ∧ x.toInt < n) by omega) with h | h | h
  · exact Or.inl (Or.inl h)
  · exact Or.inl (Or.inr h)
  · refine Or.inr ⟨x.toInt.toNat, by omega, Int32.toInt_inj.mp ?_⟩
    rw [z_tI (by omega)]
    omega
theorem cl_holds0 {n : Nat} {x : Int32} (hn : n < 1000000) (h : x.toInt < 0 ∨ (n : Int) ≤ x.toInt) : g_Listing_holds (nI n) x = some 0 := by
  unfold g_Listing_holds
  by_cases h0 : x < 0
  · rw [if_pos h0]
  · rw [if_neg h0]
    rw [z_lt] at h0
    rw [if_pos (by rw [z_le, z_tI (by omega)]; have := zi_0; omega)]
theorem ml_inp {n : Nat} {x : Int32} (hn : n < 1000000) (h : x.toInt < 0 ∨ (n : Int) ≤ x.toInt) : g_M_in x 0 (nI n - 1) = some 0 := by
  have e : (nI n - 1 : Int32).toInt = (n : Int) - 1 := by
    by_cases h0 : n = 0
    · subst h0; decide
    · rw [z_s1 (by omega), z_tI (by omega)]; omega
  refine ml_in0 ?_
  rw [e]
  have := zi_0
  omega
theorem ml_inq {n k : Nat} (hn : n < 1000000) (h : k < n) : g_M_in (nI k) 0 (nI n - 1) = some 1 := by
  rw [z_s1 (by omega)]
  exact ml_inn (lo := 0) (Nat.zero_le _) (by omega) (by omega)
theorem r_change {n : Nat} {ops nums hts op to : Nat → Int32} (h : RelC n ops nums hts op to) (x o a : Int32) : ∃ q q', g_S_change ops nums hts (nI n) x o a = some q ∧ g_M_change op to (nI n) x o a = some q' ∧ q.1 = q'.1 ∧ RelC n q.2.1 q.2.2.1 q.2.2.2 q'.2.1 q'.2.2 := by
  have hn := h.1
  unfold g_S_change g_M_change
  rcases z_ix x n (by omega) with hx | ⟨k, hk, rfl⟩
  · rw [z_bind (cl_holds0 (by omega) hx), if_pos rfl, z_bind (ml_inp (by omega) hx), if_pos rfl]
    exact ⟨_, _, rfl, rfl, rfl, h⟩
  · rw [z_bind (cl_holds (by omega) (by omega)), if_pos hk, if_neg (by decide), z_bind (ml_inq (by omega) hk), if_neg (by decide)]
    rcases fits_cases o a with ⟨h1, h2, h3⟩ | ⟨h1, h2⟩
    · rw [z_bind h1, z_bind h2, if_neg (by decide), if_neg (by decide)]
      obtain ⟨hts', e1, e2⟩ := cl_set (R := 30) (n := n) (k := k) (ops := ops) (nums := nums) (hts := hts) (o := o) (a := a) hn (by omega) hk h3.1 (fun j hj => h.2.1.2 j (by omega))
      rw [z_bind e1, if_pos (z_ck (by omega) (by omega)), z_cl (by omega)]
      obtain ⟨g, hg, hs⟩ := sa_has h3.1 a
      have key : RelC n (upd ops k o) (upd nums k (sa o a)) hts' (upd op k o) (upd to k (sa o a)) := by
        refine ⟨hn, ⟨fun i hi => ?_, e2⟩, fun i hi => ?_⟩
        · by_cases hik : i = k
          · subst hik; rw [pk_us, pk_us]; exact h3
          · rw [pk_un hik, pk_un hik]; exact h.2.1.1 i hi
        · by_cases hik : i = k
          · subst hik; exact ⟨by rw [pk_us, pk_us], by rw [pk_us, pk_us]⟩
          · exact ⟨by rw [pk_un hik, pk_un hik]; exact (h.2.2 i hi).1, by rw [pk_un hik, pk_un hik]; exact (h.2.2 i hi).2⟩
      rw [z_bind hg]
      by_cases hg0 : g = 0
      · rw [if_pos hg0, if_pos (z_ck (by omega) (by omega))]
        rw [if_pos hg0] at hs
        rw [hs] at key ⊢
        exact ⟨_, _, rfl, rfl, rfl, key⟩
      · rw [if_neg hg0, if_pos (z_ck (by omega) (by omega))]
        rw [if_neg hg0] at hs
        rw [hs] at key ⊢
        exact ⟨_, _, rfl, rfl, rfl, key⟩
    · rw [z_bind h1, z_bind h2, if_pos rfl, if_pos rfl]
      exact ⟨_, _, rfl, rfl, rfl, h⟩
theorem RelC.zero {n : Nat} {ops nums hts op to : Nat → Int32} (h : RelC n ops nums hts op to) : RelC 0 ops nums hts op to := ⟨by omega, ⟨fun i hi => by omega, fun j hj => h.2.1.2 j (by omega)⟩, fun i hi => by omega⟩
theorem r_clear {n L : Nat} (w : Int32) : ∃ q q', g_S_clear (nI n) (nI L) w = some q ∧ g_M_clear (nI n) (nI L) w = some q' ∧ q.1 = q'.1 ∧ q.2.1 = q'.2.1 ∧ q.2.2 = q'.2.2 ∧ (q.2.1 = nI n ∨ q.2.1 = nI 0) ∧ (q.2.2 = nI L ∨ q.2.2 = nI 0) := by
  unfold g_S_clear g_M_clear
  by_cases h0 : w = 0
  · subst h0
    exact ⟨_, _, rfl, rfl, rfl, rfl, rfl, Or.inr rfl, Or.inl rfl⟩
  · by_cases h1 : w = 1
    · subst h1
      exact ⟨_, _, rfl, rfl, rfl, rfl, rfl, Or.inl rfl, Or.inr rfl⟩
    · rw [if_neg h0, if_neg h1]
      have e : g_M_in w 0 1 = some 0 := by
        refine ml_in0 ?_
        rw [z_eq] at h0 h1
        have := zi_0
        have := zi_1
        omega
      rw [z_bind e, if_pos rfl]
      exact ⟨_, _, rfl, rfl, rfl, rfl, rfl, Or.inl rfl, Or.inl rfl⟩
theorem r_code {n : Nat} {ops nums hts op to : Nat → Int32} (h : RelC n ops nums hts op to) (x w : Int32) : ∃ r : Int32, g_S_code ops nums hts (nI n) x w = some r ∧ g_M_code op to (nI n) x w = some r := by
  have hn := h.1
  unfold g_S_code g_M_code
  by_cases h0 : w = 0
  · subst h0
    rw [if_neg (by decide), if_pos (by decide), if_neg (by decide), if_pos rfl, z_bind (show g_M_in 0 0 2 = some 1 from rfl), if_neg (by decide), if_neg (by decide)]
    unfold b_M_code_31
    rcases z_ix x n (by omega) with hx | ⟨k, hk, rfl⟩
    · have e : g_Listing_op 30 ops (nI n) x = some (-2) := by unfold g_Listing_op; rw [z_bind (cl_holds0 (by omega) hx), if_pos rfl]
      rw [z_bind e, z_bind (ml_inp (by omega) hx), if_pos rfl]
      exact ⟨_, rfl, rfl⟩
    · rw [z_bind (cl_op hn (by omega) (by omega)), if_pos hk, z_bind (ml_inq (by omega) hk), if_neg (by decide), if_pos rfl, if_pos (z_ck (by omega) (by omega)), z_cl (by omega), (h.2.2 k hk).1]
      exact ⟨_, rfl, rfl⟩
  · by_cases h1 : w = 1
    · subst h1
      rw [if_neg (by decide), if_pos (by decide), if_neg (by decide), if_neg (by decide), z_bind (show g_M_in 1 0 2 = some 1 from rfl), if_neg (by decide), if_neg (by decide)]
      unfold b_M_code_31
      rcases z_ix x n (by omega) with hx | ⟨k, hk, rfl⟩
      · have e : g_Listing_number 30 nums (nI n) x = some (-2) := by unfold g_Listing_number; rw [z_bind (cl_holds0 (by omega) hx), if_pos rfl]
        rw [z_bind e, z_bind (ml_inp (by omega) hx), if_pos rfl]
        exact ⟨_, rfl, rfl⟩
      · rw [z_bind (cl_number hn (by omega) (by omega)), if_pos hk, z_bind (ml_inq (by omega) hk), if_neg (by decide), if_neg (by decide), if_pos rfl, if_pos (z_ck (by omega) (by omega)), z_cl (by omega), (h.2.2 k hk).2]
        exact ⟨_, rfl, rfl⟩
    · by_cases h2 : w = 2
      · subst h2
        unfold b_M_code_31
        rw [if_neg (show ¬ (2 : Int32) < 0 by decide), if_pos (show (2 : Int32) ≤ 2 by decide), if_pos (show (2 : Int32) = 2 from rfl), z_bind (cl_size _)]
        rcases z_ix x (n + 1) (by omega) with hx | ⟨k, hk, rfl⟩
        · have hxn : ¬ x = nI n := fun e => by subst e; rw [z_tI (by omega)] at hx; omega
          have e : g_M_in x 0 (nI n) = some 0 := ml_in0 (by rw [z_tI (by omega)]; have := zi_0; omega)
          rw [if_neg hxn, z_bind (cl_holds0 (by omega) (by omega)), if_pos (show (0 : Int32) = 0 from rfl), e]
          exact ⟨_, rfl, rfl⟩
        · have e : g_M_in (nI k) 0 (nI n) = some 1 := ml_inn (lo := 0) (Nat.zero_le _) (by omega) (by omega)
          have e2 : g_Listing_heightBefore 30 hts (nI n) (nI k) = some (ht ops k) := by rw [cl_height hn (by omega) (by omega), if_pos (show k ≤ n by omega), h.2.1.2 k (by omega)]
          rw [e, ml_height (by omega) (fun i hi => h.op i (by omega)), h.ht (by omega)]
          by_cases hkn : k = n
          · subst hkn
            rw [if_pos (show nI k = nI k from rfl), z_bind e2]
            exact ⟨_, rfl, rfl⟩
          · rw [if_neg (show ¬ nI k = nI n by rw [nI_eq (by omega) (by omega)]; exact hkn), z_bind (cl_holds (by omega) (by omega)), if_pos (show k < n by omega), if_neg (show ¬ (1 : Int32) = 0 by decide), z_bind e2]
            exact ⟨_, rfl, rfl⟩
      · have hw : w.toInt < 0 ∨ 2 < w.toInt := by
          rw [z_eq] at h0 h1 h2
          have := zi_0
          have := zi_1
          have := zi_2
          omega
        have e : g_M_in w 0 2 = some 0 := ml_in0 (by have := zi_0; have := zi_2; omega)
        rw [z_bind e, if_pos rfl]
        by_cases hl : w < 0
        · rw [if_pos hl]
          exact ⟨_, rfl, rfl⟩
        · rw [if_neg hl, if_neg (by rw [z_lt] at hl; rw [z_le]; have := zi_0; have := zi_2; omega)]
          exact ⟨_, rfl, rfl⟩
