/-- what the class's front end does, against what the grammar says -/
def EO (L : Nat) (l : IL) (r : Nat × Option IL) (g : Option (Int32 × (Nat → Int32) × (Nat → Int32) × (Nat → Int32) × Int32 × Int32)) : Prop :=
  ∃ (ops nums hts : Nat → Int32) (size : Int32), r.1 ≤ L ∧ ((r.2 = none ∧ g = some (0, ops, nums, hts, size, nI r.1) ∧ hts 0 = 0) ∨ ∃ e : IL, r.2 = some e ∧ g = some (1, ops, nums, hts, size, nI r.1) ∧ MR (l ++ e) ops nums hts size)
theorem MR.h0 {l : IL} {ops nums hts : Nat → Int32} {size : Int32} (h : MR l ops nums hts size) : hts 0 = 0 := h.2.2.1 0 (Nat.zero_le _)
theorem EO.fail {L : Nat} {l : IL} {a : Nat} {ops nums hts : Nat → Int32} {size : Int32} (ha : a ≤ L) (h : hts 0 = 0) : EO L l (a, none) (some (0, ops, nums, hts, size, nI a)) := ⟨ops, nums, hts, size, ha, Or.inl ⟨rfl, rfl, h⟩⟩
theorem EO.good {L : Nat} {l e : IL} {a : Nat} {ops nums hts : Nat → Int32} {size : Int32} (ha : a ≤ L) (h : MR (l ++ e) ops nums hts size) : EO L l (a, some e) (some (1, ops, nums, hts, size, nI a)) := ⟨ops, nums, hts, size, ha, Or.inr ⟨e, rfl, rfl, h⟩⟩
theorem cl_takeNumber {L a : Nat} {row : Nat → Int32} {l : IL} {ops nums hts : Nat → Int32} {size : Int32} (hL : L ≤ 120) (ha : a ≤ L) (h : MR l ops nums hts size) : ∃ (ops' nums' hts' : Nat → Int32) (size' : Int32),
    (isD (ch row L (a + 1)) = true → g_Draft_takeNumber row (nI L) ops nums hts size (nI a) = some (ops', nums', hts', size', nI (a + 2)) ∧ MR (l ++ [(0, (ch row L a - 48) * 10 + ch row L (a + 1) - 48)]) ops' nums' hts' size') ∧
    (¬ isD (ch row L (a + 1)) = true → g_Draft_takeNumber row (nI L) ops nums hts size (nI a) = some (ops', nums', hts', size', nI (a + 1)) ∧ MR (l ++ [(0, ch row L a - 48)]) ops' nums' hts' size') := by
  unfold g_Draft_takeNumber
  rw [z_bind (cl_ch hL (by omega)), z_a1, z_bind (cl_ch hL (by omega)), z_bind (cl_isDigit _)]
  by_cases hD : isD (ch row L (a + 1)) = true
  · obtain ⟨r, o', n', h', s', e1, e2⟩ := MR_add (o := 0) (a := (ch row L a - 48) * 10 + ch row L (a + 1) - 48) h (Or.inl rfl)
    refine ⟨o', n', h', s', fun _ => ⟨?_, e2⟩, fun hn => absurd hD hn⟩
    rw [if_pos hD, if_neg (show ¬ (1 : Int32) = 0 by decide), z_bind (cl_ch hL (by omega)), z_bind e1, z_a1]
  · obtain ⟨r, o', n', h', s', e1, e2⟩ := MR_add (o := 0) (a := ch row L a - 48) h (Or.inl rfl)
    refine ⟨o', n', h', s', fun hn => absurd hn hD, fun _ => ⟨?_, e2⟩⟩
    rw [if_neg hD, if_pos (show (0 : Int32) = 0 from rfl), z_bind e1]
theorem sgn_ok {c : Int32} (h : ¬ sgn c = -2) : (sgn c = 3 ∨ sgn c = 4 ∨ sgn c = 5 ∨ sgn c = 6) := by
  unfold sgn at h ⊢
  by_cases h1 : c = 42
  · rw [if_pos h1]; simp
  · rw [if_neg h1] at h ⊢
    by_cases h2 : c = 43
    · rw [if_pos h2]; simp
    · rw [if_neg h2] at h ⊢
      by_cases h3 : c = 45
      · rw [if_pos h3]; simp
      · rw [if_neg h3] at h ⊢
        by_cases h4 : c = 60
        · rw [if_pos h4]; simp
        · rw [if_neg h4] at h; exact absurd rfl h
set_option maxHeartbeats 4000000 in
theorem cl_E {L : Nat} {row : Nat → Int32} (hL : L ≤ 120) : ∀ f : Nat, f ≤ 8 → ∀ n : Nat, 2 * f + 1 ≤ n → ∀ (a : Nat) (l : IL) (ops nums hts : Nat → Int32) (size : Int32), a ≤ L → MR l ops nums hts size → EO L l (pE row L f a) (g_Draft_takeExpression n row (nI L) ops nums hts size (nI a) (nI (8 - f))) := by
  intro f
  induction f with
  | zero =>
    intro _ n hn a l ops nums hts size ha hM
    obtain ⟨m, rfl⟩ : ∃ m, n = m + 1 := ⟨n - 1, by omega⟩
    show EO L l (a, none) (gb_Draft_takeExpression (g_Draft_takeNot m) (g_Draft_takePair m) row (nI L) ops nums hts size (nI a) (nI 8))
    unfold gb_Draft_takeExpression
    rw [if_neg (show ¬ (nI 8 : Int32) < 8 by decide)]
    exact EO.fail ha hM.h0
  | succ f ih =>
    intro hf n hn a l ops nums hts size ha hM
    obtain ⟨m, rfl⟩ : ∃ m, n = m + 3 := ⟨n - 3, by omega⟩
    have ih := ih (by omega) (m + 1) (by omega)
    show EO L l (pE row L (f + 1) a) (gb_Draft_takeExpression (g_Draft_takeNot (m + 2)) (g_Draft_takePair (m + 2)) row (nI L) ops nums hts size (nI a) (nI (8 - (f + 1))))
    unfold gb_Draft_takeExpression
    rw [if_pos (show nI (8 - (f + 1)) < 8 from nI_lt (b := 8) (by omega) (by omega)), z_bind (cl_ch hL (by omega)), z_bind (cl_isDigit _), pE]
    have ed : 8 - (f + 1) + 1 = 8 - f := by omega
    by_cases hD : isD (ch row L a) = true
    · have hlt := isD_lt hD
      obtain ⟨o', n', h', s', e1, e2⟩ := cl_takeNumber hL ha hM (row := row)
      rw [if_pos hD, if_pos hD, if_neg (show ¬ (1 : Int32) = 0 by decide)]
      by_cases hD2 : isD (ch row L (a + 1)) = true
      · have hlt2 := isD_lt hD2
        obtain ⟨g1, g2⟩ := e1 hD2
        rw [if_pos hD2, z_bind g1]
        exact EO.good (by omega) g2
      · obtain ⟨g1, g2⟩ := e2 hD2
        rw [if_neg hD2, z_bind g1]
        exact EO.good (by omega) g2
    · rw [if_neg hD, if_neg hD, if_pos (show (0 : Int32) = 0 from rfl), z_bind (cl_isVariable _)]
      by_cases hV : isV (ch row L a) = true
      · have hlt := isV_lt hV
        rw [if_pos hV, if_pos hV, if_neg (show ¬ (1 : Int32) = 0 by decide)]
        obtain ⟨r, o', n', h', s', e1, e2⟩ := MR_add (o := 1) (a := ch row L a - 97) hM (Or.inr (Or.inl rfl))
        rw [z_bind e1, z_a1]
        exact EO.good (by omega) e2
      · rw [if_neg hV, if_neg hV, if_pos (show (0 : Int32) = 0 from rfl), z_bind (cl_take hL (by omega))]
        by_cases h33 : ch row L a = 33
        · have hlt := ch_lt h33 (by decide)
          rw [if_pos h33, if_pos h33]
          dsimp only
          rw [if_neg (show ¬ (1 : Int32) = 0 by decide)]
          have hs := ih (a + 1) l ops nums hts size (by omega) hM
          have hN : g_Draft_takeNot (m + 2) row (nI L) ops nums hts size (nI (a + 1)) (nI (8 - (f + 1))) = gb_Draft_takeNot (g_Draft_takeExpression (m + 1)) row (nI L) ops nums hts size (nI (a + 1)) (nI (8 - (f + 1))) := rfl
          rw [hN]
          unfold gb_Draft_takeNot
          rw [z_a1, ed]
          obtain ⟨o1, n1, h1, s1, hb, ⟨r1, r2, r3⟩ | ⟨e, r1, r2, r3⟩⟩ := hs
          · rw [show pE row L f (a + 1) = ((pE row L f (a + 1)).1, none) from Prod.ext rfl r1, r2]
            exact EO.fail hb r3
          · rw [show pE row L f (a + 1) = ((pE row L f (a + 1)).1, some e) from Prod.ext rfl r1, r2]
            obtain ⟨r, o', n', h', s', e1, e2⟩ := MR_add (o := 7) (a := 0) r3 (by unfold okO; decide)
            rw [z_bind rfl]
            dsimp only
            rw [if_neg (show ¬ (1 : Int32) = 0 by decide), z_bind e1]
            rw [List.append_assoc] at e2
            exact EO.good hb e2
        · rw [if_neg h33, if_neg h33]
          dsimp only
          rw [if_pos (show (0 : Int32) = 0 from rfl), z_bind (cl_take hL (by omega))]
          by_cases h40 : ch row L a = 40
          · have hlt := ch_lt h40 (by decide)
            rw [if_pos h40, if_pos h40]
            dsimp only
            rw [if_neg (show ¬ (1 : Int32) = 0 by decide)]
            have hs := ih (a + 1) l ops nums hts size (by omega) hM
            have hN : g_Draft_takePair (m + 2) row (nI L) ops nums hts size (nI (a + 1)) (nI (8 - (f + 1))) = gb_Draft_takePair (g_Draft_takeExpression (m + 1)) row (nI L) ops nums hts size (nI (a + 1)) (nI (8 - (f + 1))) := rfl
            rw [hN]
            unfold gb_Draft_takePair
            rw [z_a1, ed]
            obtain ⟨o1, n1, h1, s1, hb, ⟨r1, r2, r3⟩ | ⟨e, r1, r2, r3⟩⟩ := hs
            · rw [show pE row L f (a + 1) = ((pE row L f (a + 1)).1, none) from Prod.ext rfl r1, r2]
              exact EO.fail hb r3
            · rw [show pE row L f (a + 1) = ((pE row L f (a + 1)).1, some e) from Prod.ext rfl r1, r2]
              generalize (pE row L f (a + 1)).1 = b at hb
              rw [z_bind rfl]
              dsimp only
              rw [if_neg (show ¬ (1 : Int32) = 0 by decide), z_bind (cl_ch hL (by omega)), z_bind (cl_sgn _)]
              by_cases hsg : sgn (ch row L b) = -2
              · rw [if_pos hsg, if_pos hsg]
                exact EO.fail hb r3.h0
              · have hblt : b < L := by
                  unfold ch at hsg
                  by_cases hl : b < L
                  · exact hl
                  · rw [if_neg hl] at hsg; exact absurd (by decide) hsg
                rw [if_neg hsg, if_neg hsg, z_a1]
                have hs2 := ih (b + 1) (l ++ e) o1 n1 h1 s1 (by omega) r3
                obtain ⟨o2, n2, h2, s2, hb2, ⟨t1, t2, t3⟩ | ⟨e2, t1, t2, t3⟩⟩ := hs2
                · rw [show pE row L f (b + 1) = ((pE row L f (b + 1)).1, none) from Prod.ext rfl t1, t2]
                  exact EO.fail hb2 t3
                · rw [show pE row L f (b + 1) = ((pE row L f (b + 1)).1, some e2) from Prod.ext rfl t1, t2]
                  generalize (pE row L f (b + 1)).1 = b2 at hb2
                  rw [z_bind rfl]
                  dsimp only
                  rw [if_neg (show ¬ (1 : Int32) = 0 by decide), z_bind (cl_take hL (by omega))]
                  by_cases h41 : ch row L b2 = 41
                  · have hlt2 := ch_lt h41 (by decide)
                    have hok := sgn_ok hsg
                    rw [if_pos h41, if_pos h41]
                    dsimp only
                    obtain ⟨r, o', n', h', s', g1, g2⟩ := MR_add (o := sgn (ch row L b)) (a := 0) t3 (by unfold okO; rcases hok with h | h | h | h <;> rw [h] <;> decide)
                    have hsa : sa (sgn (ch row L b)) 0 = 0 := by rcases hok with h | h | h | h <;> rw [h] <;> rfl
                    rw [hsa, List.append_assoc, List.append_assoc] at g2
                    rw [if_neg (show ¬ (1 : Int32) = 0 by decide), z_bind g1]
                    rw [List.append_assoc]
                    exact EO.good (by omega) g2
                  · rw [if_neg h41, if_neg h41]
                    exact EO.fail hb2 t3.h0
          · rw [if_neg h40, if_neg h40]
            exact EO.fail ha hM.h0
