/-! the reference's EXPRESSIONS -/
def okD (d : Nat → Int32) (L : Nat) : Prop := ∀ i, i < L → ∃ c : Nat, 33 ≤ c ∧ c ≤ 126 ∧ d i = nI c
theorem ml_isDigit (c : Int32) : g_M_isDigit c = some (if isD c = true then 1 else 0) := by
  unfold g_M_isDigit isD
  have h48 := zi_48
  have h57 := zi_57
  by_cases h : 48 ≤ c.toInt ∧ c.toInt ≤ 57
  · rw [z_bind (ml_in1 (by omega) (by omega)), if_pos (by decide), if_pos (decide_eq_true h)]
  · rw [z_bind (ml_in0 (by omega)), if_pos (by decide), if_neg (by simp; omega)]
theorem ml_isLetter (c : Int32) : g_M_isLetter c = some (if isV c = true then 1 else 0) := by
  unfold g_M_isLetter isV
  have h97 := zi_97
  have h102 := zi_102
  by_cases h : 97 ≤ c.toInt ∧ c.toInt ≤ 102
  · rw [z_bind (ml_in1 (by omega) (by omega)), if_pos (by decide), if_pos (decide_eq_true h)]
  · rw [z_bind (ml_in0 (by omega)), if_pos (by decide), if_neg (by simp; omega)]
theorem nx_D {d : Nat → Int32} {L a : Nat} : isD (if a < L then d a else -1) = isD (ch d L a) := by
  unfold ch
  by_cases h : a < L
  · rw [if_pos h, if_pos h]
  · rw [if_neg h, if_neg h]; decide
theorem nx_ge {d : Nat → Int32} {L a : Nat} (hd : okD d L) (h : a < L) : (0 : Int32) ≤ ch d L a ∧ (if a < L then d a else -1) = ch d L a := by
  unfold ch
  rw [if_pos h, if_pos h]
  obtain ⟨c, h1, h2, h3⟩ := hd a h
  exact ⟨by rw [h3]; exact nI_pos' (by omega), rfl⟩
section GoE
variable {d : Nat → Int32} {L a f : Nat} {r l : IL} {hs : List Nat}
/-- an EXPRESSION's turn, by what g_M_expression answers -/
theorem go_ex {w v : Int32} {ts' l' : IL} {a' : Nat} (hr : r.length < 600) (h : ∀ nO nT td wi : Nat → Int32, TS r td wi → ML l nO nT → ∃ nO' nT' td' wi' : Nat → Int32, g_M_expression nO nT d (nI L) td wi (nI r.length) (nI a) (nI l.length) w = some (v, nO', nT', td', wi', nI ts'.length, nI a', nI l'.length) ∧ TS ts' td' wi' ∧ ML l' nO' nT') (hv : v = 0 ∨ v = 1) : Go d L 1 ((2, w) :: r) l hs a ts' l' hs a' v := by
  refine Go.step hr (fun nO nT td wi ho hR => ?_)
  obtain ⟨nO', nT', td', wi', e1, e2, e3⟩ := h nO nT td wi hR.1 hR.2.1
  refine ⟨nO', nT', td', wi', ho, ?_, e2, e3, hR.2.2⟩
  unfold g_M_goOn
  rw [if_neg (show ¬ (2 : Int32) = 0 by decide), if_neg (show ¬ (2 : Int32) = 1 by decide), if_pos (show (2 : Int32) = 2 from rfl), z_bind e1, if_pos hv]
theorem go_ex0 (hL : L ≤ 120) (ha : a < 1000) (hr : r.length < 600) : Fl d L 1 ((2, nI 8) :: r) l hs a a := by
  refine ⟨r, l, hs, go_ex hr (fun nO nT td wi hT hM => ⟨nO, nT, td, wi, ?_, hT, hM⟩) (Or.inl rfl)⟩
  unfold g_M_expression
  rw [z_bind (ml_next hL ha), if_pos (show (7 : Int32) < nI 8 by decide)]
theorem go_exN (hL : L ≤ 120) (hd : okD d L) (ha : a ≤ L) (hf : f < 8) (hr : r.length < 600) (h1 : ¬ isD (ch d L a) = true) (h2 : ¬ isV (ch d L a) = true) (h3 : ¬ ch d L a = 33) (h4 : ¬ ch d L a = 40) : Fl d L 1 ((2, nI f) :: r) l hs a a := by
  refine ⟨r, l, hs, go_ex hr (fun nO nT td wi hT hM => ⟨nO, nT, td, wi, ?_, hT, hM⟩) (Or.inl rfl)⟩
  unfold g_M_expression
  rw [z_bind (ml_next hL (by omega)), if_neg (show ¬ (7 : Int32) < nI f from nI_nlt (a := 7) (by omega) (by omega))]
  by_cases hla : a < L
  · obtain ⟨g1, g2⟩ := nx_ge hd hla
    rw [g2, if_pos g1, z_bind (ml_isDigit _), if_neg h1, if_pos (show (0 : Int32) = 0 from rfl), z_bind (ml_isLetter _), if_neg h2, if_pos (show (0 : Int32) = 0 from rfl), if_neg h3, if_neg h4, z_a1, z_s1 (by omega), Nat.add_sub_cancel]
  · rw [if_neg hla, if_neg (show ¬ (0 : Int32) ≤ -1 by decide)]
theorem go_ex2 (hL : L ≤ 120) (hd : okD d L) (hf : f < 8) (hr : r.length < 600) (hl : l.length < 200) (h1 : isD (ch d L a) = true) (h2 : isD (ch d L (a + 1)) = true) : Go d L 1 ((2, nI f) :: r) l hs a r (l ++ [(0, (ch d L a - 48) * 10 + ch d L (a + 1) - 48)]) hs (a + 2) 1 := by
  have hla := isD_lt h1
  have hla2 := isD_lt h2
  obtain ⟨g1, g2⟩ := nx_ge hd hla
  obtain ⟨g3, g4⟩ := nx_ge hd hla2
  refine go_ex hr (fun nO nT td wi hT hM => ?_) (Or.inr rfl)
  obtain ⟨e1, e2⟩ := ml_emit (o := 0) (x := (ch d L a - 48) * 10 + ch d L (a + 1) - 48) hl hM
  refine ⟨_, _, td, wi, ?_, hT, e2⟩
  unfold g_M_expression
  rw [z_bind (ml_next hL (by omega)), if_neg (show ¬ (7 : Int32) < nI f from nI_nlt (a := 7) (by omega) (by omega)), g2, if_pos g1, z_bind (ml_isDigit _), if_pos h1, if_neg (show ¬ (1 : Int32) = 0 by decide), z_a1, z_bind (ml_next hL (by omega)), g4, z_bind (ml_isDigit _), if_pos h2, if_neg (show ¬ (1 : Int32) = 0 by decide), z_bind (ml_next hL (by omega)), g4, Int32.mul_comm 10, z_bind e1, z_a1]
theorem go_ex1 (hL : L ≤ 120) (hd : okD d L) (hf : f < 8) (hr : r.length < 600) (hl : l.length < 200) (h1 : isD (ch d L a) = true) (h2 : ¬ isD (ch d L (a + 1)) = true) : Go d L 1 ((2, nI f) :: r) l hs a r (l ++ [(0, ch d L a - 48)]) hs (a + 1) 1 := by
  have hla := isD_lt h1
  obtain ⟨g1, g2⟩ := nx_ge hd hla
  refine go_ex hr (fun nO nT td wi hT hM => ?_) (Or.inr rfl)
  obtain ⟨e1, e2⟩ := ml_emit (o := 0) (x := ch d L a - 48) hl hM
  refine ⟨_, _, td, wi, ?_, hT, e2⟩
  unfold g_M_expression
  rw [z_bind (ml_next hL (by omega)), if_neg (show ¬ (7 : Int32) < nI f from nI_nlt (a := 7) (by omega) (by omega)), g2, if_pos g1, z_bind (ml_isDigit _), if_pos h1, if_neg (show ¬ (1 : Int32) = 0 by decide), z_a1, z_bind (ml_next hL (by omega)), z_bind (ml_isDigit _), nx_D, if_neg h2, if_pos (show (0 : Int32) = 0 from rfl), z_bind e1]
theorem go_exV (hL : L ≤ 120) (hd : okD d L) (hf : f < 8) (hr : r.length < 600) (hl : l.length < 200) (h1 : ¬ isD (ch d L a) = true) (h2 : isV (ch d L a) = true) : Go d L 1 ((2, nI f) :: r) l hs a r (l ++ [(1, ch d L a - 97)]) hs (a + 1) 1 := by
  have hla := isV_lt h2
  obtain ⟨g1, g2⟩ := nx_ge hd hla
  refine go_ex hr (fun nO nT td wi hT hM => ?_) (Or.inr rfl)
  obtain ⟨e1, e2⟩ := ml_emit (o := 1) (x := ch d L a - 97) hl hM
  refine ⟨_, _, td, wi, ?_, hT, e2⟩
  unfold g_M_expression
  rw [z_bind (ml_next hL (by omega)), if_neg (show ¬ (7 : Int32) < nI f from nI_nlt (a := 7) (by omega) (by omega)), g2, if_pos g1, z_bind (ml_isDigit _), if_neg h1, if_pos (show (0 : Int32) = 0 from rfl), z_bind (ml_isLetter _), if_pos h2, if_neg (show ¬ (1 : Int32) = 0 by decide), z_bind e1, z_a1]
theorem go_exNot (hL : L ≤ 120) (hd : okD d L) (hf : f < 8) (hr : r.length + 2 < 600) (h1 : ¬ isD (ch d L a) = true) (h2 : ¬ isV (ch d L a) = true) (h3 : ch d L a = 33) : Go d L 1 ((2, nI f) :: r) l hs a ((2, nI (f + 1)) :: (4, nI 7) :: r) l hs (a + 1) 1 := by
  have hla := ch_lt h3 (by decide)
  obtain ⟨g1, g2⟩ := nx_ge hd hla
  refine go_ex (by omega) (fun nO nT td wi hT hM => ?_) (Or.inr rfl)
  refine ⟨nO, nT, _, _, ?_, TS_push (TS_push hT), hM⟩
  unfold g_M_expression
  rw [z_bind (ml_next hL (by omega)), if_neg (show ¬ (7 : Int32) < nI f from nI_nlt (a := 7) (by omega) (by omega)), g2, if_pos g1, z_bind (ml_isDigit _), if_neg h1, if_pos (show (0 : Int32) = 0 from rfl), z_bind (ml_isLetter _), if_neg h2, if_pos (show (0 : Int32) = 0 from rfl), if_pos h3, z_a1, z_bind (show g_M_push td wi (nI r.length) 4 7 = some (upd td r.length 4, upd wi r.length (nI 7), nI ((4, nI 7) :: r).length) from ml_push (u := 4) (v := nI 7) (by omega)), z_bind (ml_push (u := 2) (v := nI (f + 1)) (by rw [List.length_cons]; omega)), z_a1]
theorem go_exPair (hL : L ≤ 120) (hd : okD d L) (hf : f < 8) (hr : r.length + 2 < 600) (h1 : ¬ isD (ch d L a) = true) (h2 : ¬ isV (ch d L a) = true) (h3 : ¬ ch d L a = 33) (h4 : ch d L a = 40) : Go d L 1 ((2, nI f) :: r) l hs a ((2, nI (f + 1)) :: (3, nI (f + 1)) :: r) l hs (a + 1) 1 := by
  have hla := ch_lt h4 (by decide)
  obtain ⟨g1, g2⟩ := nx_ge hd hla
  refine go_ex (by omega) (fun nO nT td wi hT hM => ?_) (Or.inr rfl)
  refine ⟨nO, nT, _, _, ?_, TS_push (TS_push hT), hM⟩
  unfold g_M_expression
  rw [z_bind (ml_next hL (by omega)), if_neg (show ¬ (7 : Int32) < nI f from nI_nlt (a := 7) (by omega) (by omega)), g2, if_pos g1, z_bind (ml_isDigit _), if_neg h1, if_pos (show (0 : Int32) = 0 from rfl), z_bind (ml_isLetter _), if_neg h2, if_pos (show (0 : Int32) = 0 from rfl), if_neg h3, if_pos h4, z_a1, z_bind (ml_push (u := 3) (v := nI (f + 1)) (by omega)), z_bind (ml_push (u := 2) (v := nI (f + 1)) (by rw [List.length_cons]; omega)), z_a1]
theorem ml_operator {td wi : Nat → Int32} {w : Int32} (hL : L ≤ 120) (ha : a < 1000) : g_M_operator d (nI L) td wi (nI r.length) (nI a) w = b_M_operator_47 d (nI L) td wi (nI r.length) (nI a) w (if sgn (ch d L a) = -2 then -1 else sgn (ch d L a)) := by
  unfold g_M_operator
  rw [z_bind (ml_next hL ha)]
  have k : ∀ c : Int32, 0 ≤ c.toInt → (((if a < L then d a else -1) = c) = (ch d L a = c)) := fun c hc => propext (nx_eq hc)
  simp only [k 43 (by decide), k 45 (by decide), k 42 (by decide), k 60 (by decide)]
  unfold sgn
  by_cases h1 : ch d L a = 43
  · simp [h1]
  · by_cases h2 : ch d L a = 45
    · simp [h2]
    · by_cases h3 : ch d L a = 42
      · simp [h3]
      · by_cases h4 : ch d L a = 60
        · simp [h4]
        · simp [h1, h2, h3, h4]
theorem go_opN {w : Int32} (hL : L ≤ 120) (ha : a < 1000) (hr : r.length < 600) (h : sgn (ch d L a) = -2) : Fl d L 1 ((3, w) :: r) l hs a a := by
  refine ⟨r, l, hs, Go.step hr (fun nO nT td wi ho hR => ⟨nO, nT, td, wi, ho, ?_, hR⟩)⟩
  unfold g_M_goOn
  rw [if_neg (show ¬ (3 : Int32) = 0 by decide), if_neg (show ¬ (3 : Int32) = 1 by decide), if_neg (show ¬ (3 : Int32) = 2 by decide), if_pos (show (3 : Int32) = 3 from rfl), ml_operator hL ha, if_pos h]
  unfold b_M_operator_47
  rw [if_neg (show ¬ (0 : Int32) ≤ -1 by decide)]
  rfl
theorem go_op {w : Int32} (hL : L ≤ 120) (ha : a < 1000) (hr : r.length + 3 < 600) (h : ¬ sgn (ch d L a) = -2) : Go d L 1 ((3, w) :: r) l hs a ((2, w) :: (1, 41) :: (4, sgn (ch d L a)) :: r) l hs (a + 1) 1 := by
  refine Go.step (by omega) (fun nO nT td wi ho hR => ?_)
  refine ⟨nO, nT, _, _, ho, ?_, TS_push (TS_push (TS_push hR.1)), hR.2⟩
  have hp : (0 : Int32) ≤ sgn (ch d L a) := by rcases sgn_ok h with e | e | e | e <;> rw [e] <;> decide
  unfold g_M_goOn
  rw [if_neg (show ¬ (3 : Int32) = 0 by decide), if_neg (show ¬ (3 : Int32) = 1 by decide), if_neg (show ¬ (3 : Int32) = 2 by decide), if_pos (show (3 : Int32) = 3 from rfl), ml_operator hL ha, if_neg h]
  unfold b_M_operator_47
  rw [if_pos hp, z_bind (ml_push (u := 4) (v := sgn (ch d L a)) (by omega)), z_bind (ml_push (u := 1) (v := 41) (by rw [List.length_cons]; omega)), z_bind (ml_push (u := 2) (v := w) (by simp only [List.length_cons]; omega)), z_a1]
  rfl
end GoE
theorem go_emitS {d : Nat → Int32} {L a : Nat} {o : Int32} {r l : IL} {hs : List Nat} (hr : r.length < 600) (hl : l.length < 200) (ho : o = 3 ∨ o = 4 ∨ o = 5 ∨ o = 6) : Go d L 1 ((4, o) :: r) l hs a r (l ++ [(o, 0)]) hs a 1 := by
  rcases ho with rfl | rfl | rfl | rfl
  · exact go_emit (k := 3) hr hl (by omega)
  · exact go_emit (k := 4) hr hl (by omega)
  · exact go_emit (k := 5) hr hl (by omega)
  · exact go_emit (k := 6) hr hl (by omega)
set_option maxHeartbeats 4000000 in
theorem ml_E {d : Nat → Int32} {L : Nat} (hL : L ≤ 120) (hd : okD d L) : ∀ f : Nat, f ≤ 8 → ∀ a : Nat, a ≤ L → ∀ (b : Nat) (x : Option IL), pE d L f a = (b, x) → b ≤ L ∧ ∃ K : Nat, K ≤ 2 * (b - a) + 1 ∧
    (∀ e : IL, x = some e → K ≤ 2 * (b - a) ∧ ∀ (r l : IL) (hs : List Nat), r.length + 3 * f + 4 ≤ 600 → l.length ≤ a → Go d L K ((2, nI (8 - f)) :: r) l hs a r (l ++ e) hs b 1) ∧
    (x = none → ∀ (r l : IL) (hs : List Nat), r.length + 3 * f + 4 ≤ 600 → l.length ≤ a → Fl d L K ((2, nI (8 - f)) :: r) l hs a b) := by
  intro f
  induction f with
  | zero =>
    intro _ a ha b x hp
    cases hp
    exact ⟨ha, 1, by omega, fun e he => (by cases he), fun _ r l hs hr hl => go_ex0 hL (by omega) (by omega)⟩
  | succ f ih =>
    intro hf a ha b x hp
    have ih := ih (by omega)
    have hf8 : 8 - (f + 1) < 8 := by omega
    have ef : 8 - (f + 1) + 1 = 8 - f := by omega
    rw [pE] at hp
    by_cases hD : isD (ch d L a) = true
    · rw [if_pos hD] at hp
      have hla := isD_lt hD
      by_cases hD2 : isD (ch d L (a + 1)) = true
      · rw [if_pos hD2] at hp
        have hla2 := isD_lt hD2
        cases hp
        exact ⟨by omega, 1, by omega, fun e he => by cases he; exact ⟨by omega, fun r l hs hr hl => go_ex2 hL hd hf8 (by omega) (by omega) hD hD2⟩, fun he => by cases he⟩
      · rw [if_neg hD2] at hp
        cases hp
        exact ⟨by omega, 1, by omega, fun e he => by cases he; exact ⟨by omega, fun r l hs hr hl => go_ex1 hL hd hf8 (by omega) (by omega) hD hD2⟩, fun he => by cases he⟩
    · rw [if_neg hD] at hp
      by_cases hV : isV (ch d L a) = true
      · rw [if_pos hV] at hp
        have hla := isV_lt hV
        cases hp
        exact ⟨by omega, 1, by omega, fun e he => by cases he; exact ⟨by omega, fun r l hs hr hl => go_exV hL hd hf8 (by omega) (by omega) hD hV⟩, fun he => by cases he⟩
      · rw [if_neg hV] at hp
        by_cases h33 : ch d L a = 33
        · rw [if_pos h33] at hp
          have hla := ch_lt h33 (by decide)
          obtain ⟨b1, x1, hp1⟩ : ∃ b1 x1, pE d L f (a + 1) = (b1, x1) := ⟨_, _, rfl⟩
          obtain ⟨hb1, K1, hK1, hs1, hn1⟩ := ih (a + 1) (by omega) b1 x1 hp1
          have had := pE_adv (d := d) (L := L) f (a + 1)
          rw [hp1] at hp had
          have had1 : a + 1 ≤ b1 := had.1
          cases x1 with
          | none =>
            cases hp
            refine ⟨hb1, K1 + 1, by omega, fun e he => (by cases he), fun _ r l hs hr hl => ?_⟩
            have g1 := go_exNot (l := l) (hs := hs) (r := r) hL hd hf8 (by omega) hD hV h33
            rw [ef] at g1
            exact g1.fl (hn1 rfl ((4, nI 7) :: r) l hs (by rw [List.length_cons]; omega) (by omega))
          | some e1 =>
            cases hp
            have had2 : a + 1 < b ∧ e1.length ≤ b - (a + 1) := had.2 e1 rfl
            obtain ⟨hK2, hs1⟩ := hs1 e1 rfl
            refine ⟨hb1, 1 + (K1 + 1), by omega, fun e he => ?_, fun he => by cases he⟩
            cases he
            refine ⟨by omega, fun r l hs hr hl => ?_⟩
            have g1 := go_exNot (l := l) (hs := hs) (r := r) hL hd hf8 (by omega) hD hV h33
            rw [ef] at g1
            have g2 := g1.then (hs1 ((4, nI 7) :: r) l hs (by rw [List.length_cons]; omega) (by omega))
            have g3 := g2.then (go_emit (k := 7) (d := d) (L := L) (a := b) (r := r) (hs := hs) (l := l ++ e1) (by omega) (by rw [List.length_append]; omega) (by omega))
            rw [List.append_assoc] at g3
            exact g3
        · rw [if_neg h33] at hp
          by_cases h40 : ch d L a = 40
          · rw [if_pos h40] at hp
            have hla := ch_lt h40 (by decide)
            obtain ⟨b1, x1, hp1⟩ : ∃ b1 x1, pE d L f (a + 1) = (b1, x1) := ⟨_, _, rfl⟩
            obtain ⟨hb1, K1, hK1, hs1, hn1⟩ := ih (a + 1) (by omega) b1 x1 hp1
            have had := pE_adv (d := d) (L := L) f (a + 1)
            rw [hp1] at hp had
            have had1 : a + 1 ≤ b1 := had.1
            cases x1 with
            | none =>
              cases hp
              refine ⟨hb1, K1 + 1, by omega, fun e he => (by cases he), fun _ r l hs hr hl => ?_⟩
              have g1 := go_exPair (l := l) (hs := hs) (r := r) hL hd hf8 (by omega) hD hV h33 h40
              rw [ef] at g1
              exact g1.fl (hn1 rfl ((3, nI (8 - f)) :: r) l hs (by rw [List.length_cons]; omega) (by omega))
            | some e1 =>
              have had2 : a + 1 < b1 ∧ e1.length ≤ b1 - (a + 1) := had.2 e1 rfl
              obtain ⟨hK2, hs1⟩ := hs1 e1 rfl
              dsimp only at hp
              have g12 : ∀ (r l : IL) (hs : List Nat), r.length + 3 * (f + 1) + 4 ≤ 600 → l.length ≤ a → Go d L (K1 + 1) ((2, nI (8 - (f + 1))) :: r) l hs a ((3, nI (8 - f)) :: r) (l ++ e1) hs b1 1 := by
                intro r l hs hr hl
                have g1 := go_exPair (l := l) (hs := hs) (r := r) hL hd hf8 (by omega) hD hV h33 h40
                rw [ef] at g1
                exact g1.then (hs1 ((3, nI (8 - f)) :: r) l hs (by rw [List.length_cons]; omega) (by omega))
              by_cases hsg : sgn (ch d L b1) = -2
              · rw [if_pos hsg] at hp
                cases hp
                exact ⟨hb1, 1 + (K1 + 1), by omega, fun e he => (by cases he), fun _ r l hs hr hl => (g12 r l hs hr hl).fl (go_opN hL (by omega) (by omega) hsg)⟩
              · rw [if_neg hsg] at hp
                have hblt : b1 < L := by
                  unfold ch at hsg
                  by_cases hl : b1 < L
                  · exact hl
                  · rw [if_neg hl] at hsg; exact absurd (by decide) hsg
                obtain ⟨b2, x2, hp2⟩ : ∃ b2 x2, pE d L f (b1 + 1) = (b2, x2) := ⟨_, _, rfl⟩
                obtain ⟨hb2, K2, hK3, hs2, hn2⟩ := ih (b1 + 1) (by omega) b2 x2 hp2
                have had3 := pE_adv (d := d) (L := L) f (b1 + 1)
                rw [hp2] at hp had3
                have had4 : b1 + 1 ≤ b2 := had3.1
                have g13 : ∀ (r l : IL) (hs : List Nat), r.length + 3 * (f + 1) + 4 ≤ 600 → l.length ≤ a → Go d L (1 + (K1 + 1)) ((2, nI (8 - (f + 1))) :: r) l hs a ((2, nI (8 - f)) :: (1, 41) :: (4, sgn (ch d L b1)) :: r) (l ++ e1) hs (b1 + 1) 1 := fun r l hs hr hl => (g12 r l hs hr hl).then (go_op hL (by omega) (by omega) hsg)
                cases x2 with
                | none =>
                  cases hp
                  exact ⟨hb2, K2 + (1 + (K1 + 1)), by omega, fun e he => (by cases he), fun _ r l hs hr hl => (g13 r l hs hr hl).fl (hn2 rfl ((1, 41) :: (4, sgn (ch d L b1)) :: r) (l ++ e1) hs (by simp only [List.length_cons]; omega) (by rw [List.length_append]; omega))⟩
                | some e2 =>
                  have had5 : b1 + 1 < b2 ∧ e2.length ≤ b2 - (b1 + 1) := had3.2 e2 rfl
                  obtain ⟨hK4, hs2⟩ := hs2 e2 rfl
                  dsimp only at hp
                  have g14 : ∀ (r l : IL) (hs : List Nat), r.length + 3 * (f + 1) + 4 ≤ 600 → l.length ≤ a → Go d L (K2 + (1 + (K1 + 1))) ((2, nI (8 - (f + 1))) :: r) l hs a ((1, 41) :: (4, sgn (ch d L b1)) :: r) (l ++ e1 ++ e2) hs b2 1 := fun r l hs hr hl => (g13 r l hs hr hl).then (hs2 ((1, 41) :: (4, sgn (ch d L b1)) :: r) (l ++ e1) hs (by simp only [List.length_cons]; omega) (by rw [List.length_append]; omega))
                  by_cases h41 : ch d L b2 = 41
                  · rw [if_pos h41] at hp
                    have hlt2 := ch_lt h41 (by decide)
                    cases hp
                    refine ⟨by omega, 1 + (1 + (K2 + (1 + (K1 + 1)))), by omega, fun e he => ?_, fun he => by cases he⟩
                    cases he
                    refine ⟨by omega, fun r l hs hr hl => ?_⟩
                    have g5 := (g14 r l hs hr hl).then (go_sign (c := 41) hL (by decide) (by omega) (by rw [List.length_cons]; omega) h41)
                    have g6 := g5.then (go_emitS (by omega) (by simp only [List.length_append]; omega) (sgn_ok hsg))
                    simp only [List.append_assoc] at g6 ⊢
                    exact g6
                  · rw [if_neg h41] at hp
                    cases hp
                    exact ⟨hb2, 1 + (K2 + (1 + (K1 + 1))), by omega, fun e he => (by cases he), fun _ r l hs hr hl => (g14 r l hs hr hl).fl (go_signN hL (by decide) (by omega) (by rw [List.length_cons]; omega) h41)⟩
          · rw [if_neg h40] at hp
            cases hp
            exact ⟨ha, 1, by omega, fun e he => (by cases he), fun _ r l hs hr hl => go_exN hL hd ha hf8 (by omega) hD hV h33 h40⟩
