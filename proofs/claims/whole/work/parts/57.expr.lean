/-! EXPRESSIONS in the CODE: where a part begins, that CODE without wrong PLACES has whole parts -/
def bgs (o : Nat → Int32) : Nat → Nat → Nat
  | 0, _ => 0
  | m + 1, i => if i = m then (if o m = 0 ∨ o m = 1 then m else if o m = 7 then bgs o m (m - 1) else bgs o m (bgs o m (m - 1) - 1)) else bgs o m i
/-- the first PLACE of the part that ends at u -/
def B (o : Nat → Int32) (u : Nat) : Nat := bgs o (u + 1) u
theorem bgs_B {o : Nat → Int32} {i : Nat} : ∀ m : Nat, i < m → bgs o m i = B o i := by
  intro m
  induction m with
  | zero => intro h; omega
  | succ m ih =>
    intro h
    by_cases hi : i = m
    · subst hi; rfl
    · rw [bgs, if_neg hi]; exact ih (by omega)
theorem B_eq (o : Nat → Int32) (u : Nat) : B o u = if o u = 0 ∨ o u = 1 then u else if o u = 7 then bgs o u (u - 1) else bgs o u (bgs o u (u - 1) - 1) := by
  show bgs o (u + 1) u = _
  rw [bgs, if_pos rfl]
theorem bgs_le {o : Nat → Int32} : ∀ (m i : Nat), i < m → bgs o m i ≤ i := by
  intro m
  induction m with
  | zero => intro i h; omega
  | succ m ih =>
    intro i h
    rw [bgs]
    by_cases hi : i = m
    · subst hi
      rw [if_pos rfl]
      by_cases h1 : o i = 0 ∨ o i = 1
      · rw [if_pos h1]; exact Nat.le_refl _
      · rw [if_neg h1]
        by_cases h0 : i = 0
        · subst h0
          by_cases h7 : o 0 = 7
          · rw [if_pos h7]; exact Nat.le_refl _
          · rw [if_neg h7]; exact Nat.le_refl _
        · have h2 := ih (i - 1) (by omega)
          by_cases h7 : o i = 7
          · rw [if_pos h7]; omega
          · rw [if_neg h7]
            have h3 := ih (bgs o i (i - 1) - 1) (by omega)
            omega
    · rw [if_neg hi]; exact ih i (by omega)
theorem B_le (o : Nat → Int32) (u : Nat) : B o u ≤ u := bgs_le (u + 1) u (by omega)
theorem B_push {o : Nat → Int32} {u : Nat} (h : o u = 0 ∨ o u = 1) : B o u = u := by rw [B_eq, if_pos h]
theorem B_not {o : Nat → Int32} {u : Nat} (h : o u = 7) (hu : 0 < u) : B o u = B o (u - 1) := by
  rw [B_eq, if_neg (by rw [h]; decide), if_pos h, bgs_B u (by omega)]
def isBin (x : Int32) : Prop := x = 3 ∨ x = 4 ∨ x = 5 ∨ x = 6
theorem isBin.n01 {x : Int32} (h : isBin x) : ¬ (x = 0 ∨ x = 1) := by rcases h with rfl | rfl | rfl | rfl <;> decide
theorem isBin.n7 {x : Int32} (h : isBin x) : ¬ x = 7 := by rcases h with rfl | rfl | rfl | rfl <;> decide
theorem B_bin {o : Nat → Int32} {u : Nat} (h : isBin (o u)) (hu : 0 < u) : B o u = B o (B o (u - 1) - 1) := by
  have hl := B_le o (u - 1)
  rw [B_eq, if_neg h.n01, if_neg h.n7, bgs_B (i := u - 1) u (by omega), bgs_B u (by omega)]
/-- the part that ends at u is whole -/
def vd (o : Nat → Int32) (u : Nat) : Prop :=
  (o u = 0 ∨ o u = 1) ∨ (o u = 7 ∧ ∃ h : 0 < u, vd o (u - 1)) ∨ (isBin (o u) ∧ ∃ h : 0 < u, 0 < B o (u - 1) ∧ vd o (u - 1) ∧ vd o (B o (u - 1) - 1))
termination_by u
decreasing_by
  · omega
  · omega
  · have := B_le o (u - 1); omega
/-- PLACES p to i - 1 are k whole parts -/
def EX (o : Nat → Int32) (p : Nat) : Nat → Nat → Prop
  | 0, i => i = p
  | k + 1, i => p < i ∧ p ≤ B o (i - 1) ∧ vd o (i - 1) ∧ EX o p k (B o (i - 1))
theorem EX.le {o : Nat → Int32} {p : Nat} : ∀ (k i : Nat), EX o p k i → p ≤ i
  | 0, i, h => by rw [h]; exact Nat.le_refl _
  | k + 1, i, h => Nat.le_of_lt h.1
theorem EX_push {o : Nat → Int32} {p i k : Nat} (h : EX o p k i) (ho : o i = 0 ∨ o i = 1) : EX o p (k + 1) (i + 1) := by
  have hle := EX.le k i h
  refine ⟨by omega, ?_, ?_, ?_⟩
  · rw [Nat.add_sub_cancel, B_push ho]; exact hle
  · rw [Nat.add_sub_cancel, vd]; exact Or.inl ho
  · rw [Nat.add_sub_cancel, B_push ho]; exact h
theorem EX_not {o : Nat → Int32} {p i k : Nat} (h : EX o p (k + 1) i) (ho : o i = 7) : EX o p (k + 1) (i + 1) := by
  obtain ⟨h1, h2, h3, h4⟩ := h
  have hi : 0 < i := by omega
  refine ⟨by omega, ?_, ?_, ?_⟩
  · rw [Nat.add_sub_cancel, B_not ho hi]; exact h2
  · rw [Nat.add_sub_cancel, vd]; exact Or.inr (Or.inl ⟨ho, hi, h3⟩)
  · rw [Nat.add_sub_cancel, B_not ho hi]; exact h4
theorem EX_bin {o : Nat → Int32} {p i k : Nat} (h : EX o p (k + 2) i) (ho : isBin (o i)) : EX o p (k + 1) (i + 1) := by
  obtain ⟨h1, h2, h3, g1, g2, g3, g4⟩ := h
  have hi : 0 < i := by omega
  refine ⟨by omega, ?_, ?_, ?_⟩
  · rw [Nat.add_sub_cancel, B_bin ho hi]; exact g2
  · rw [Nat.add_sub_cancel, vd]; exact Or.inr (Or.inr ⟨ho, hi, by omega, h3, g3⟩)
  · rw [Nat.add_sub_cancel, B_bin ho hi]; exact g4
def isT (x : Int32) : Prop := x = 2 ∨ x = 8 ∨ x = 9 ∨ x = 10
theorem part_or {x : Int32} (h : okO x) (ht : ¬ isT x) : (x = 0 ∨ x = 1) ∨ x = 7 ∨ isBin x := by
  unfold isT at ht
  unfold isBin
  rcases h with h | h | h | h | h | h | h | h | h | h | h <;> simp_all
/-- CODE without wrong PLACES -/
def okC (o w : Nat → Int32) (n : Nat) : Prop := n ≤ 30 ∧ (∀ i, i < n → okI (o i) (w i)) ∧ okAll o w n
theorem ht_ex {o w : Nat → Int32} {n p : Nat} (hC : okC o w n) (hp : ht o p = 0) : ∀ (m i : Nat), i = p + m → i ≤ n → (∀ j, p ≤ j → j < i → ¬ isT (o j)) → ∃ k : Nat, k ≤ 8 ∧ ht o i = nI k ∧ EX o p k i := by
  intro m
  induction m with
  | zero =>
    intro i hi hn hj
    exact ⟨0, by omega, by rw [hi]; exact hp, hi⟩
  | succ m ih =>
    intro i hi hn hj
    obtain ⟨k, hk, e1, e2⟩ := ih (p + m) rfl (by omega) (fun j h1 h2 => hj j h1 (by omega))
    have hii : i = p + m + 1 := by omega
    subst hii
    have hlt : p + m < n := by omega
    have hok := hC.2.2.1 (p + m) hlt
    have es : ht o (p + m + 1) = ht o (p + m) + rs (o (p + m)) := rfl
    rcases part_or (hC.2.1 (p + m) hlt).1 (hj (p + m) (by omega) (by omega)) with h | h | h
    · have h8 := hok.1 h
      rw [e1] at h8
      have hk8 : k < 8 := by
        rw [z_lt, z_tI (by omega)] at h8
        have := zi_8
        omega
      refine ⟨k + 1, by omega, ?_, EX_push e2 h⟩
      rw [es, e1]
      rcases h with h | h <;> (rw [h]; exact z_a1 k)
    · have h1 := hok.2.2.1 h
      rw [e1] at h1
      have hk1 : 1 ≤ k := by
        rw [z_le, z_tI (by omega)] at h1
        have := zi_1
        omega
      obtain ⟨k', rfl⟩ : ∃ k', k = k' + 1 := ⟨k - 1, by omega⟩
      refine ⟨k' + 1, hk, ?_, EX_not e2 h⟩
      rw [es, e1, h]
      exact (nI_add (k' + 1) 0)
    · have h2 := hok.2.1 h
      rw [e1] at h2
      have hk2 : 2 ≤ k := by
        rw [z_le, z_tI (by omega)] at h2
        have := zi_2
        omega
      obtain ⟨k', rfl⟩ : ∃ k', k = k' + 2 := ⟨k - 2, by omega⟩
      refine ⟨k' + 1, by omega, ?_, EX_bin e2 h⟩
      rw [es, e1]
      have er : rs (o (p + m)) = -1 := by rcases h with h | h | h | h <;> rw [h] <;> rfl
      rw [er]
      exact z_m1 (by omega)
/-- the end of the EXPRESSION that begins at p -/
def ux (o : Nat → Int32) : Nat → Nat → Nat
  | 0, p => p
  | k + 1, p => if o p = 2 ∨ o p = 8 ∨ o p = 9 ∨ o p = 10 then p else ux o k (p + 1)
theorem ux_spec {o : Nat → Int32} : ∀ (k p u : Nat), p ≤ u → u < p + k → isT (o u) → (∀ j, p ≤ j → j < u → ¬ isT (o j)) → ux o k p = u := by
  intro k
  induction k with
  | zero => intro p u h1 h2; omega
  | succ k ih =>
    intro p u h1 h2 h3 h4
    rw [ux]
    by_cases h : p = u
    · subst h; exact if_pos h3
    · rw [if_neg (show ¬ (o p = 2 ∨ o p = 8 ∨ o p = 9 ∨ o p = 10) from h4 p (Nat.le_refl _) (by omega))]
      exact ih (p + 1) u (by omega) (by omega) h3 (fun j a b => h4 j (by omega) b)
def U (o : Nat → Int32) (p : Nat) : Nat := ux o 31 p
/-- what holds at a PLACE of HEIGHT 0 below the end: an EXPRESSION, and what ends it -/
theorem U_spec {o w : Nat → Int32} {n p : Nat} (hC : okC o w n) (hp : ht o p = 0) (hpn : p < n) : p ≤ U o p ∧ U o p < n ∧ isT (o (U o p)) ∧ (∀ j, p ≤ j → j < U o p → ¬ isT (o j)) ∧ (o (U o p) = 8 → U o p = p) ∧ (¬ o (U o p) = 8 → EX o p 1 (U o p) ∧ ht o (U o p + 1) = 0) := by
  have hn := hC.1
  have hex : ∃ u, (p ≤ u ∧ u < n) ∧ isT (o u) := by
    apply Classical.byContradiction
    intro hno
    obtain ⟨k, hk, e1, e2⟩ := ht_ex hC hp (n - p) n (by omega) (Nat.le_refl _) (fun j h1 h2 h3 => hno ⟨j, ⟨h1, h2⟩, h3⟩)
    rw [hC.2.2.2] at e1
    have hk0 : k = 0 := by
      have := congrArg Int32.toInt e1
      rw [z_tI (by omega), zi_0] at this
      omega
    subst hk0
    have : n = p := e2
    omega
  obtain ⟨u, ⟨⟨h1, h2⟩, h3⟩, h4⟩ := pk_least (fun u => (p ≤ u ∧ u < n) ∧ isT (o u)) hex
  have h4' : ∀ j, p ≤ j → j < u → ¬ isT (o j) := fun j a b c => h4 j b ⟨⟨a, by omega⟩, c⟩
  have hu : U o p = u := ux_spec 31 p u h1 (by omega) h3 h4'
  rw [hu]
  obtain ⟨k, hk, e1, e2⟩ := ht_ex hC hp (u - p) u (by omega) (by omega) h4'
  have hok := hC.2.2.1 u h2
  have hki : ∀ m : Nat, m < 100 → ht o u = nI m → k = m := fun m hm e => by
    rw [e1] at e
    have := congrArg Int32.toInt e
    rw [z_tI (by omega), z_tI (by omega)] at this
    omega
  refine ⟨h1, h2, h3, h4', fun h8 => ?_, fun h8 => ?_⟩
  · have := hki 0 (by omega) (hok.2.2.2.2.1 h8)
    subst this
    exact e2
  · have e3 : o u = 2 ∨ o u = 10 ∨ o u = 9 := by
      rcases h3 with h | h | h | h
      · exact Or.inl h
      · exact absurd h h8
      · exact Or.inr (Or.inr h)
      · exact Or.inr (Or.inl h)
    have e4 := hok.2.2.2.1 e3
    have := hki 1 (by omega) e4
    subst this
    refine ⟨e2, ?_⟩
    show ht o u + rs (o u) = 0
    rw [e4]
    rcases e3 with h | h | h <;> (rw [h]; decide)
theorem vd_ind {o : Nat → Int32} {P : Nat → Prop} (h0 : ∀ u, (o u = 0 ∨ o u = 1) → P u) (h1 : ∀ u, o u = 7 → 0 < u → vd o (u - 1) → B o u = B o (u - 1) → P (u - 1) → P u) (h2 : ∀ u, isBin (o u) → 0 < u → 0 < B o (u - 1) → vd o (u - 1) → vd o (B o (u - 1) - 1) → B o u = B o (B o (u - 1) - 1) → P (u - 1) → P (B o (u - 1) - 1) → P u) : ∀ u, vd o u → P u := by
  intro u
  induction u using Nat.strongRecOn with
  | ind u ih =>
    intro h
    rw [vd] at h
    rcases h with h | ⟨h, hu, h3⟩ | ⟨h, hu, h3, h4, h5⟩
    · exact h0 u h
    · exact h1 u h hu h3 (B_not h hu) (ih (u - 1) (by omega) h3)
    · have hl := B_le o (u - 1)
      exact h2 u h hu h3 h4 h5 (B_bin h hu) (ih (u - 1) (by omega) h4) (ih (B o (u - 1) - 1) (by omega) h5)
