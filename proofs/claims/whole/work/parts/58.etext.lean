/-! EXPRESSIONS as text: what both sides write -/
def sgO (x : Int32) : Int32 := if x = 3 then 43 else if x = 4 then 45 else if x = 5 then 42 else 60
def dgt (v : Int32) : List Int32 := if v < 10 then [48 + (v - v / 10 * 10)] else [48 + v / 10, 48 + (v - v / 10 * 10)]
/-- the text of the part that ends at u -/
def ext (o w : Nat → Int32) (u : Nat) : List Int32 :=
  if o u = 0 then dgt (w u) else if o u = 1 then [97 + w u] else if h : 0 < u then (if o u = 7 then 33 :: ext o w (u - 1) else 40 :: (ext o w (B o (u - 1) - 1) ++ sgO (o u) :: (ext o w (u - 1) ++ [41]))) else []
termination_by u
decreasing_by
  · omega
  · have := B_le o (u - 1); omega
  · omega
theorem ext_0 {o w : Nat → Int32} {u : Nat} (h : o u = 0) : ext o w u = dgt (w u) := by rw [ext, if_pos h]
theorem ext_1 {o w : Nat → Int32} {u : Nat} (h : o u = 1) : ext o w u = [97 + w u] := by rw [ext, if_neg (by rw [h]; decide), if_pos h]
theorem ext_7 {o w : Nat → Int32} {u : Nat} (h : o u = 7) (hu : 0 < u) : ext o w u = 33 :: ext o w (u - 1) := by rw [ext, if_neg (by rw [h]; decide), if_neg (by rw [h]; decide), dif_pos hu, if_pos h]
theorem ext_b {o w : Nat → Int32} {u : Nat} (h : isBin (o u)) (hu : 0 < u) : ext o w u = 40 :: (ext o w (B o (u - 1) - 1) ++ sgO (o u) :: (ext o w (u - 1) ++ [41])) := by
  have h1 := h.n01
  rw [ext, if_neg (fun e => h1 (Or.inl e)), if_neg (fun e => h1 (Or.inr e)), dif_pos hu, if_neg h.n7]
theorem dgt_len (v : Int32) : 0 < (dgt v).length ∧ (dgt v).length ≤ 2 := by
  unfold dgt
  split
  · exact ⟨by simp, by simp⟩
  · exact ⟨by simp, by simp⟩
theorem dgt_n {k : Nat} (h : k ≤ 99) : dgt (nI k) = if k < 10 then [nI (48 + k)] else [nI (48 + k / 10), nI (48 + k % 10)] := by
  unfold dgt
  rw [show (10 : Int32) = nI 10 from rfl, show (48 : Int32) = nI 48 from rfl, pk_rem (by omega) (by omega) (by omega), pk_div (by omega) (by omega) (by omega), nI_add, nI_add]
  by_cases h1 : k < 10
  · rw [if_pos (nI_lt h1 (by omega)), if_pos h1, Nat.mod_eq_of_lt h1]
  · rw [if_neg (nI_nlt (by omega) (by omega)), if_neg h1]
theorem ext_len {o w : Nat → Int32} : ∀ u, vd o u → 0 < (ext o w u).length ∧ (ext o w u).length ≤ 3 * (u + 1 - B o u) := by
  refine vd_ind (fun u h => ?_) (fun u h hu hv hB ih => ?_) (fun u h hu hb hv1 hv2 hB ih1 ih2 => ?_)
  · rw [B_push h]
    rcases h with h | h
    · rw [ext_0 h]; have := dgt_len (w u); omega
    · rw [ext_1 h]; simp only [List.length_singleton]; omega
  · rw [ext_7 h hu, hB, List.length_cons]
    have := B_le o (u - 1)
    omega
  · rw [ext_b h hu, hB]
    simp only [List.length_cons, List.length_append, List.length_nil]
    have := B_le o (u - 1)
    have := B_le o (B o (u - 1) - 1)
    omega
def okCh (c : Int32) : Prop := ∃ k : Nat, 33 ≤ k ∧ k ≤ 126 ∧ c = nI k
def okT (l : List Int32) : Prop := ∀ x ∈ l, okCh x
theorem okT.nil : okT [] := fun x hx => absurd hx List.not_mem_nil
theorem okT.cons {c : Int32} {l : List Int32} (h : okCh c) (h' : okT l) : okT (c :: l) := fun x hx => (List.mem_cons.mp hx).elim (fun e => by rw [e]; exact h) (h' x)
theorem okT.app {l l' : List Int32} (h : okT l) (h' : okT l') : okT (l ++ l') := fun x hx => (List.mem_append.mp hx).elim (h x) (h' x)
theorem okT.one {c : Int32} (h : okCh c) : okT [c] := okT.cons h okT.nil
theorem okN {k : Nat} (h1 : 33 ≤ k) (h2 : k ≤ 126) : okCh (nI k) := ⟨k, h1, h2, rfl⟩
theorem sgO_n (x : Int32) : sgO x = nI 43 ∨ sgO x = nI 45 ∨ sgO x = nI 42 ∨ sgO x = nI 60 := by
  unfold sgO
  split
  · exact Or.inl rfl
  · split
    · exact Or.inr (Or.inl rfl)
    · split
      · exact Or.inr (Or.inr (Or.inl rfl))
      · exact Or.inr (Or.inr (Or.inr rfl))
theorem sgO_ok (x : Int32) : okCh (sgO x) := by
  rcases sgO_n x with h | h | h | h <;> (rw [h]; exact okN (by omega) (by omega))
theorem dgt_ok {k : Nat} (h : k ≤ 99) : okT (dgt (nI k)) := by
  rw [dgt_n h]
  split
  · exact okT.one (okN (by omega) (by omega))
  · exact okT.cons (okN (by omega) (by omega)) (okT.one (okN (by omega) (by omega)))
theorem w_num {o w : Nat → Int32} {n u : Nat} (hI : ∀ i, i < n → okI (o i) (w i)) (hu : u < n) : ∃ k : Nat, k ≤ 99 ∧ w u = nI k := okI_nat (hI u hu)
theorem w_var {o w : Nat → Int32} {n u : Nat} (hI : ∀ i, i < n → okI (o i) (w i)) (hu : u < n) (h : o u = 1 ∨ o u = 2) : ∃ k : Nat, k < 6 ∧ w u = nI k := okI_nat5 (hI u hu) h
theorem w_to {o w : Nat → Int32} {n u : Nat} (hI : ∀ i, i < n → okI (o i) (w i)) (hu : u < n) (h : o u = 8 ∨ o u = 9) : ∃ k : Nat, k ≤ 30 ∧ w u = nI k := okI_nat30 (hI u hu) h
theorem ok97 {k : Nat} (h : k < 6) : okCh (97 + nI k) := by
  rw [show (97 : Int32) = nI 97 from rfl, nI_add]
  exact okN (by omega) (by omega)
theorem ext_ok {o w : Nat → Int32} {n : Nat} (hI : ∀ i, i < n → okI (o i) (w i)) : ∀ u, vd o u → u < n → okT (ext o w u) := by
  refine vd_ind (fun u h hn => ?_) (fun u h hu hv hB ih hn => ?_) (fun u h hu hb hv1 hv2 hB ih1 ih2 hn => ?_)
  · rcases h with h | h
    · obtain ⟨k, hk, e⟩ := w_num hI hn
      rw [ext_0 h, e]
      exact dgt_ok hk
    · obtain ⟨k, hk, e⟩ := w_var hI hn (Or.inl h)
      rw [ext_1 h, e]
      exact okT.one (ok97 hk)
  · rw [ext_7 h hu]
    exact okT.cons (okN (k := 33) (by omega) (by omega)) (ih (by omega))
  · have := B_le o (u - 1)
    rw [ext_b h hu]
    exact okT.cons (okN (k := 40) (by omega) (by omega)) (okT.app (ih2 (by omega)) (okT.cons (sgO_ok _) (okT.app (ih1 (by omega)) (okT.one (okN (k := 41) (by omega) (by omega))))))
/-- the row begins with l -/
def WR (row : Nat → Int32) (l : List Int32) : Prop := ∀ i, i < l.length → l[i]? = some (row i)
theorem WR.add {row : Nat → Int32} {l : List Int32} (h : WR row l) (c : Int32) : WR (upd row l.length c) (l ++ [c]) := by
  intro i hi
  rw [List.length_append, List.length_singleton] at hi
  by_cases hil : i = l.length
  · subst hil
    rw [pk_us, List.getElem?_append_right (Nat.le_refl _), Nat.sub_self]
    rfl
  · rw [pk_un hil, List.getElem?_append_left (by omega)]
    exact h i (by omega)
/-- g writes t behind l -/
def W9 (l t : List Int32) (g : (Nat → Int32) → Int32 → Option ((Nat → Int32) × Int32)) : Prop := ∀ row, WR row l → ∃ row', g row (nI l.length) = some (row', nI (l ++ t).length) ∧ WR row' (l ++ t)
theorem cw_add {l : List Int32} {c : Int32} {row : Nat → Int32} (hl : l.length < 90) (hc : okCh c) : g_Characters_add 90 row (nI l.length) c = some (1, upd row l.length c, nI (l ++ [c]).length) := by
  obtain ⟨k, h1, h2, rfl⟩ := hc
  rw [cl_Chars_add hl (by omega), z_gc (by omega), List.length_append, List.length_singleton]
theorem cw_num {l : List Int32} {k : Nat} (hk : k ≤ 99) (hl : l.length + (dgt (nI k)).length ≤ 90) : W9 l (dgt (nI k)) (fun row s => g_Scribe_writeNumber 90 row s (nI k)) := by
  intro row hr
  dsimp only
  unfold g_Scribe_writeNumber
  have e := dgt_n hk
  unfold dgt at e hl ⊢
  by_cases h : nI k < 10
  · rw [if_pos h] at hl e ⊢
    rw [if_pos h]
    have hk1 : k < 10 := (nI_ltI (b := 10) (by omega) (by omega)).mp h
    rw [if_pos hk1] at e
    have e1 : 48 + (nI k - nI k / 10 * 10) = nI (48 + k) := by injection e
    rw [e1] at hl ⊢
    rw [z_bind (cw_add (by simp only [List.length_singleton] at hl; omega) (okN (by omega) (by omega)))]
    exact ⟨_, rfl, hr.add _⟩
  · rw [if_neg h] at hl e ⊢
    rw [if_neg h]
    have hk1 : ¬ k < 10 := fun h9 => h ((nI_ltI (b := 10) (by omega) (by omega)).mpr h9)
    rw [if_neg hk1] at e
    have e1 : 48 + nI k / 10 = nI (48 + k / 10) := by injection e
    have e2 : 48 + (nI k - nI k / 10 * 10) = nI (48 + k % 10) := by injection e with _ e; injection e
    rw [e1, e2] at hl ⊢
    simp only [List.length_cons, List.length_nil] at hl
    rw [z_bind (cw_add (by omega) (okN (by omega) (by omega)))]
    dsimp only
    rw [z_bind (cw_add (by simp only [List.length_append, List.length_singleton]; omega) (okN (by omega) (by omega)))]
    have := (hr.add (nI (48 + k / 10))).add (nI (48 + k % 10))
    rw [List.append_assoc] at this ⊢
    exact ⟨_, rfl, this⟩
theorem cw_sg (x : Int32) : g_Scribe_signOfOp x = some (sgO x) := by
  unfold g_Scribe_signOfOp sgO
  repeat (first | rfl | split)
theorem cl_left {begins : Nat → Int32} {u m : Nat} (hu : 0 < u) (hu9 : u ≤ 30) (h : begins (u - 1) = nI m) (hm : 0 < m) : g_Tree_leftOf begins (nI u) = some (nI (m - 1)) := by
  unfold g_Tree_leftOf
  rw [if_neg (show ¬ nI u < 1 from nI_nlt (b := 1) hu (by omega)), if_neg (show ¬ (30 : Int32) < nI u from nI_nlt (a := 30) hu9 (by omega)), z_s1 hu, if_pos (z_ck (by omega) (by omega)), z_cl (by omega), h, z_s1 hm]
/-- what the class writes of a part -/
theorem cw_E {n : Nat} {ops nums o w begins : Nat → Int32} (hn : n ≤ 30) (hE : ∀ i, i < n → ops i = o i ∧ nums i = w i) (hI : ∀ i, i < n → okI (o i) (w i)) : ∀ u, vd o u → u < n → (∀ j, B o u ≤ j → j < u → begins j = nI (B o j)) → ∀ (f d : Nat) (l : List Int32), d + (u - B o u) ≤ 30 → u - B o u < f → l.length + (ext o w u).length ≤ 90 → W9 l (ext o w u) (fun row s => gg_Scribe_writeExpression f 90 ops nums (nI n) begins row s (nI u) (nI d)) := by
  refine vd_ind (fun u h hun hb f d l hd hf hl => ?_) (fun u h hu hv hB ih hun hb f d l hd hf hl => ?_) (fun u h hu hp hv1 hv2 hB ih1 ih2 hun hb f d l hd hf hl => ?_)
  · obtain ⟨f, rfl⟩ : ∃ g, f = g + 1 := ⟨f - 1, by omega⟩
    have e0 : ∀ row s, gg_Scribe_writeExpression (f + 1) 90 ops nums (nI n) begins row s (nI u) (nI d) = gb_Scribe_writeExpression (gg_Scribe_writeExpression f) 90 ops nums (nI n) begins row s (nI u) (nI d) := fun row s => rfl
    simp only [e0]
    intro row hr
    dsimp only
    unfold gb_Scribe_writeExpression
    rw [z_bind (cl_holds (by omega) (by omega)), if_pos hun, if_neg (show ¬ (1 : Int32) = 0 by decide), if_pos (show nI d ≤ 30 from nI_le (b := 30) (by omega) (by omega)), z_bind (cl_op hn (by omega) (by omega)), if_pos hun, (hE u hun).1]
    rcases h with h | h
    · obtain ⟨k, hk, e⟩ := w_num hI hun
      rw [ext_0 h, e] at hl ⊢
      obtain ⟨row', e1, e2⟩ := cw_num hk hl row hr
      dsimp only at e1
      rw [h, if_pos rfl, z_bind (cl_number hn (by omega) (by omega)), if_pos hun, (hE u hun).2, e, z_bind e1]
      exact ⟨_, rfl, e2⟩
    · obtain ⟨k, hk, e⟩ := w_var hI hun (Or.inl h)
      rw [ext_1 h, e] at hl ⊢
      simp only [List.length_singleton] at hl
      rw [h, if_neg (show ¬ (1 : Int32) = 0 by decide), if_pos (show (1 : Int32) = 1 from rfl), z_bind (cl_number hn (by omega) (by omega)), if_pos hun, (hE u hun).2, e, z_bind (cw_add (by omega) (ok97 hk))]
      exact ⟨_, rfl, hr.add _⟩
  · obtain ⟨f, rfl⟩ : ∃ g, f = g + 1 := ⟨f - 1, by omega⟩
    have hl1 := B_le o (u - 1)
    have e0 : ∀ row s, gg_Scribe_writeExpression (f + 1) 90 ops nums (nI n) begins row s (nI u) (nI d) = gb_Scribe_writeExpression (gg_Scribe_writeExpression f) 90 ops nums (nI n) begins row s (nI u) (nI d) := fun row s => rfl
    simp only [e0]
    intro row hr
    dsimp only
    unfold gb_Scribe_writeExpression
    rw [ext_7 h hu] at hl ⊢
    rw [List.length_cons] at hl
    rw [z_bind (cl_holds (by omega) (by omega)), if_pos hun, if_neg (show ¬ (1 : Int32) = 0 by decide), if_pos (show nI d ≤ 30 from nI_le (b := 30) (by omega) (by omega)), z_bind (cl_op hn (by omega) (by omega)), if_pos hun, (hE u hun).1, h, if_neg (show ¬ (7 : Int32) = 0 by decide), if_neg (show ¬ (7 : Int32) = 1 by decide), if_pos (show (7 : Int32) = 7 from rfl), z_bind (cw_add (c := 33) (by omega) (okN (k := 33) (by omega) (by omega)))]
    dsimp only
    obtain ⟨row', e1, e2⟩ := ih (by omega) (fun j a b => hb j (by omega) (by omega)) f (d + 1) (l ++ [33]) (by omega) (by omega) (by simp only [List.length_append, List.length_singleton]; omega) _ (hr.add 33)
    dsimp only at e1
    rw [z_s1 hu, z_a1, z_bind e1]
    rw [List.append_assoc] at e2 ⊢
    exact ⟨_, rfl, e2⟩
  · obtain ⟨f, rfl⟩ : ∃ g, f = g + 1 := ⟨f - 1, by omega⟩
    have hl1 := B_le o (u - 1)
    have hl2 := B_le o (B o (u - 1) - 1)
    have e0 : ∀ row s, gg_Scribe_writeExpression (f + 1) 90 ops nums (nI n) begins row s (nI u) (nI d) = gb_Scribe_writeExpression (gg_Scribe_writeExpression f) 90 ops nums (nI n) begins row s (nI u) (nI d) := fun row s => rfl
    simp only [e0]
    intro row hr
    dsimp only
    unfold gb_Scribe_writeExpression
    rw [ext_b h hu] at hl ⊢
    simp only [List.length_cons, List.length_append, List.length_nil] at hl
    have hn01 := h.n01
    rw [z_bind (cl_holds (by omega) (by omega)), if_pos hun, if_neg (show ¬ (1 : Int32) = 0 by decide), if_pos (show nI d ≤ 30 from nI_le (b := 30) (by omega) (by omega)), z_bind (cl_op hn (by omega) (by omega)), if_pos hun, (hE u hun).1, if_neg (fun e => hn01 (Or.inl e)), if_neg (fun e => hn01 (Or.inr e)), if_neg h.n7, z_bind (cw_add (c := 40) (by omega) (okN (k := 40) (by omega) (by omega)))]
    dsimp only
    rw [z_bind (cl_left hu (by omega) (hb (u - 1) (by omega) (by omega)) hp)]
    obtain ⟨row1, e1, e2⟩ := ih2 (by omega) (fun j a b => hb j (by omega) (by omega)) f (d + 1) (l ++ [40]) (by omega) (by omega) (by simp only [List.length_append, List.length_singleton]; omega) _ (hr.add 40)
    dsimp only at e1
    rw [z_a1, z_bind e1]
    dsimp only
    rw [z_bind (cw_sg _), z_bind (cw_add (by simp only [List.length_append, List.length_singleton]; omega) (sgO_ok _))]
    dsimp only
    obtain ⟨row2, e3, e4⟩ := ih1 (by omega) (fun j a b => hb j (by omega) (by omega)) f (d + 1) (l ++ [40] ++ ext o w (B o (u - 1) - 1) ++ [sgO (o u)]) (by omega) (by omega) (by simp only [List.length_append, List.length_singleton]; omega) _ (e2.add _)
    dsimp only at e3
    rw [z_s1 hu, z_bind e3]
    dsimp only
    rw [z_bind (cw_add (c := 41) (by simp only [List.length_append, List.length_singleton]; omega) (okN (k := 41) (by omega) (by omega)))]
    have e5 := e4.add 41
    have e6 : l ++ [40] ++ ext o w (B o (u - 1) - 1) ++ [sgO (o u)] ++ ext o w (u - 1) ++ [41] = l ++ 40 :: (ext o w (B o (u - 1) - 1) ++ sgO (o u) :: (ext o w (u - 1) ++ [41])) := by simp only [List.append_assoc, List.cons_append, List.nil_append]
    rw [e6] at e5 ⊢
    exact ⟨_, rfl, e5⟩
