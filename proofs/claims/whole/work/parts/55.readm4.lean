theorem isV_k {d : Nat → Int32} {L a : Nat} (h : isV (ch d L a) = true) : ∃ k : Nat, k ≤ 5 ∧ ch d L a = nI (97 + k) := by
  have h1 := of_decide_eq_true h
  refine ⟨(ch d L a).toInt.toNat - 97, by omega, Int32.toInt_inj.mp ?_⟩
  rw [z_tI (by omega)]
  omega
set_option maxHeartbeats 4000000 in
theorem ml_St {d : Nat → Int32} {L : Nat} (hL : L ≤ 120) (hd : okD d L) : ∀ f : Nat, f ≤ 6 → MSt d L f := by
  intro f
  induction f with
  | zero =>
    intro _ a base b x ha h125 hp
    cases hp
    exact ⟨by omega, 1, by omega, fun e he => (by cases he), fun _ r l hs hl hb hr hh => go_liDeep hL hd ha (by omega) (fun e => (h125 e).2) (by omega) (by omega)⟩
  | succ f ih =>
    intro hf a base b x ha h125 hp
    have n125 : ¬ ch d L a = 125 := fun e => (h125 e).2
    have hLi := ml_Li hL (ih (by omega))
    have hdp : 6 - (f + 1) ≤ 5 := by omega
    have ef : 6 - (f + 1) + 1 = 6 - f := by omega
    rw [pS] at hp
    by_cases hV : isV (ch d L a) = true
    · rw [if_pos hV] at hp
      obtain ⟨k, hk5, hk⟩ := isV_k hV
      have g0 : ∀ (r l : IL) (hs : List Nat), r.length + 8 * (f + 1) + 40 ≤ 600 → Go d L 1 ((0, nI (6 - (f + 1))) :: r) l hs a ((1, 61) :: (2, 0) :: (1, 59) :: (4, nI (2 + 16 * k)) :: (0, nI (6 - (f + 1))) :: r) l hs (a + 1) 1 := fun r l hs hr => go_liStore hL hd ha (by omega) hdp hV hk hk5
      by_cases h61 : ch d L (a + 1) = 61
      · rw [if_pos h61] at hp
        have hlt := ch_lt h61 (by decide)
        have g1 : ∀ (r l : IL) (hs : List Nat), r.length + 8 * (f + 1) + 40 ≤ 600 → Go d L (1 + 1) ((0, nI (6 - (f + 1))) :: r) l hs a ((2, 0) :: (1, 59) :: (4, nI (2 + 16 * k)) :: (0, nI (6 - (f + 1))) :: r) l hs (a + 2) 1 := fun r l hs hr => (g0 r l hs hr).then (go_sign hL (by decide) (by omega) (by simp only [List.length_cons]; omega) h61)
        obtain ⟨b1, x1, hp1⟩ : ∃ b1 x1, pE d L 8 (a + 2) = (b1, x1) := ⟨_, _, rfl⟩
        obtain ⟨hb1, K1, hK1, hs1, hn1⟩ := ml_E hL hd 8 (Nat.le_refl _) (a + 2) (by omega) b1 x1 hp1
        have had := pE_adv (d := d) (L := L) 8 (a + 2)
        rw [hp1] at hp had
        have had1 : a + 2 ≤ b1 := had.1
        cases x1 with
        | none =>
          cases hp
          exact ⟨hb1, K1 + (1 + 1), by omega, fun e he => (by cases he), fun _ r l hs hl hb hr hh => (g1 r l hs hr).fl (hn1 rfl ((1, 59) :: (4, nI (2 + 16 * k)) :: (0, nI (6 - (f + 1))) :: r) l hs (by simp only [List.length_cons]; omega) (by omega))⟩
        | some e1 =>
          have had2 : a + 2 < b1 ∧ e1.length ≤ b1 - (a + 2) := had.2 e1 rfl
          obtain ⟨hK2, hs1⟩ := hs1 e1 rfl
          dsimp only at hp
          have g2 : ∀ (r l : IL) (hs : List Nat), l.length ≤ a → r.length + 8 * (f + 1) + 40 ≤ 600 → Go d L (K1 + (1 + 1)) ((0, nI (6 - (f + 1))) :: r) l hs a ((1, 59) :: (4, nI (2 + 16 * k)) :: (0, nI (6 - (f + 1))) :: r) (l ++ e1) hs b1 1 := fun r l hs hl hr => (g1 r l hs hr).then (hs1 ((1, 59) :: (4, nI (2 + 16 * k)) :: (0, nI (6 - (f + 1))) :: r) l hs (by simp only [List.length_cons]; omega) (by omega))
          by_cases h59 : ch d L b1 = 59
          · rw [if_pos h59] at hp
            have hlt2 := ch_lt h59 (by decide)
            cases hp
            refine ⟨by omega, 1 + (1 + (K1 + (1 + 1))), by omega, fun e he => ?_, fun he => by cases he⟩
            cases he
            refine ⟨by omega, fun r l hs hl hb hr hh => ?_⟩
            have g3 := (g2 r l hs (by omega) hr).then (go_sign hL (by decide) (by omega) (by simp only [List.length_cons]; omega) h59)
            have g4 := g3.then (go_emit (k := 2 + 16 * k) (by simp only [List.length_cons]; omega) (by rw [List.length_append]; omega) (by omega))
            have e1' : (2 + 16 * k) % 16 = 2 := by omega
            have e2' : (2 + 16 * k) / 16 = k := by omega
            rw [e1', e2', List.append_assoc] at g4
            have ec : ch d L a - 97 = nI k := by
              rw [hk, show (97 : Int32) = nI 97 from rfl, pk_sub (by omega)]
              congr 1
              omega
            rw [ec]
            exact g4
          · rw [if_neg h59] at hp
            cases hp
            exact ⟨hb1, 1 + (K1 + (1 + 1)), by omega, fun e he => (by cases he), fun _ r l hs hl hb hr hh => (g2 r l hs (by omega) hr).fl (go_signN hL (by decide) (by omega) (by simp only [List.length_cons]; omega) h59)⟩
      · rw [if_neg h61] at hp
        cases hp
        exact ⟨by omega, 1 + 1, by omega, fun e he => (by cases he), fun _ r l hs hl hb hr hh => (g0 r l hs hr).fl (go_signN hL (by decide) (by omega) (by simp only [List.length_cons]; omega) h61)⟩
    · rw [if_neg hV] at hp
      by_cases h35 : ch d L a = 35
      · rw [if_pos h35] at hp
        have g1 : ∀ (r l : IL) (hs : List Nat), r.length + 8 * (f + 1) + 40 ≤ 600 → Go d L 1 ((0, nI (6 - (f + 1))) :: r) l hs a ((2, 0) :: (1, 59) :: (4, nI 10) :: (0, nI (6 - (f + 1))) :: r) l hs (a + 1) 1 := fun r l hs hr => go_liPrint hL hd ha (by omega) hdp hV h35
        obtain ⟨b1, x1, hp1⟩ : ∃ b1 x1, pE d L 8 (a + 1) = (b1, x1) := ⟨_, _, rfl⟩
        obtain ⟨hb1, K1, hK1, hs1, hn1⟩ := ml_E hL hd 8 (Nat.le_refl _) (a + 1) (by omega) b1 x1 hp1
        have had := pE_adv (d := d) (L := L) 8 (a + 1)
        rw [hp1] at hp had
        have had1 : a + 1 ≤ b1 := had.1
        cases x1 with
        | none =>
          cases hp
          exact ⟨hb1, K1 + 1, by omega, fun e he => (by cases he), fun _ r l hs hl hb hr hh => (g1 r l hs hr).fl (hn1 rfl ((1, 59) :: (4, nI 10) :: (0, nI (6 - (f + 1))) :: r) l hs (by simp only [List.length_cons]; omega) (by omega))⟩
        | some e1 =>
          have had2 : a + 1 < b1 ∧ e1.length ≤ b1 - (a + 1) := had.2 e1 rfl
          obtain ⟨hK2, hs1⟩ := hs1 e1 rfl
          dsimp only at hp
          have g2 : ∀ (r l : IL) (hs : List Nat), l.length ≤ a → r.length + 8 * (f + 1) + 40 ≤ 600 → Go d L (K1 + 1) ((0, nI (6 - (f + 1))) :: r) l hs a ((1, 59) :: (4, nI 10) :: (0, nI (6 - (f + 1))) :: r) (l ++ e1) hs b1 1 := fun r l hs hl hr => (g1 r l hs hr).then (hs1 ((1, 59) :: (4, nI 10) :: (0, nI (6 - (f + 1))) :: r) l hs (by simp only [List.length_cons]; omega) (by omega))
          by_cases h59 : ch d L b1 = 59
          · rw [if_pos h59] at hp
            have hlt2 := ch_lt h59 (by decide)
            cases hp
            refine ⟨by omega, 1 + (1 + (K1 + 1)), by omega, fun e he => ?_, fun he => by cases he⟩
            cases he
            refine ⟨by omega, fun r l hs hl hb hr hh => ?_⟩
            have g3 := (g2 r l hs (by omega) hr).then (go_sign hL (by decide) (by omega) (by simp only [List.length_cons]; omega) h59)
            have g4 := g3.then (go_emit (k := 10) (by simp only [List.length_cons]; omega) (by rw [List.length_append]; omega) (by omega))
            rw [List.append_assoc] at g4
            exact g4
          · rw [if_neg h59] at hp
            cases hp
            exact ⟨hb1, 1 + (K1 + 1), by omega, fun e he => (by cases he), fun _ r l hs hl hb hr hh => (g2 r l hs (by omega) hr).fl (go_signN hL (by decide) (by omega) (by simp only [List.length_cons]; omega) h59)⟩
      · rw [if_neg h35] at hp
        -- a sign, an EXPRESSION and a block, whatever stands behind it
        have guard : ∀ (X : Int32 × Int32) (b : Nat) (x : Option (IL × IL)), (∀ (r l : IL) (hs : List Nat), l.length = base → r.length + 8 * (f + 1) + 40 ≤ 600 → Go d L 1 ((0, nI (6 - (f + 1))) :: r) l hs a ((2, 0) :: (1, 123) :: (5, 9) :: (0, nI (6 - f)) :: (1, 125) :: X :: (0, nI (6 - (f + 1))) :: r) l hs (a + 1) 1) → pG d L (pS d L f) a base = (b, x) → b ≤ L ∧ ∃ K : Nat, K ≤ 8 * (b - a) + 7 ∧
            (∀ e e2 : IL, x = some (e, e2) → K + 10 ≤ 8 * (b - a) ∧ e.length + e2.length + 3 ≤ b - a ∧ ∀ (r l : IL) (hs : List Nat), l.length = base → base ≤ a → r.length + 8 * (f + 1) + 40 ≤ 600 → hs.length + (f + 1) ≤ 30 → Go d L K ((0, nI (6 - (f + 1))) :: r) l hs a (X :: (0, nI (6 - (f + 1))) :: r) ((l ++ e) ++ (9, 0) :: e2) ((l ++ e).length :: hs) b 1) ∧
            (x = none → ∀ (r l : IL) (hs : List Nat), l.length = base → base ≤ a → r.length + 8 * (f + 1) + 40 ≤ 600 → hs.length + (f + 1) ≤ 30 → Fl d L K ((0, nI (6 - (f + 1))) :: r) l hs a b) := by
          intro X b x g0 hp
          unfold pG at hp
          obtain ⟨b1, x1, hp1⟩ : ∃ b1 x1, pE d L 8 (a + 1) = (b1, x1) := ⟨_, _, rfl⟩
          obtain ⟨hb1, K1, hK1, hs1, hn1⟩ := ml_E hL hd 8 (Nat.le_refl _) (a + 1) (by omega) b1 x1 hp1
          have had := pE_adv (d := d) (L := L) 8 (a + 1)
          rw [hp1] at hp had
          have had1 : a + 1 ≤ b1 := had.1
          cases x1 with
          | none =>
            cases hp
            exact ⟨hb1, K1 + 1, by omega, fun e e2 he => (by cases he), fun _ r l hs hl hb hr hh => (g0 r l hs hl hr).fl (hn1 rfl _ l hs (by simp only [List.length_cons]; omega) (by omega))⟩
          | some e1 =>
            have had2 : a + 1 < b1 ∧ e1.length ≤ b1 - (a + 1) := had.2 e1 rfl
            obtain ⟨hK2, hs1⟩ := hs1 e1 rfl
            dsimp only at hp
            have g1 : ∀ (r l : IL) (hs : List Nat), l.length = base → base ≤ a → r.length + 8 * (f + 1) + 40 ≤ 600 → Go d L (K1 + 1) ((0, nI (6 - (f + 1))) :: r) l hs a ((1, 123) :: (5, 9) :: (0, nI (6 - f)) :: (1, 125) :: X :: (0, nI (6 - (f + 1))) :: r) (l ++ e1) hs b1 1 := fun r l hs hl hb hr => (g0 r l hs hl hr).then (hs1 _ l hs (by simp only [List.length_cons]; omega) (by omega))
            unfold pB at hp
            by_cases h123 : ch d L b1 = 123
            · rw [if_pos h123] at hp
              have hlt := ch_lt h123 (by decide)
              have g2 : ∀ (r l : IL) (hs : List Nat), l.length = base → base ≤ a → r.length + 8 * (f + 1) + 40 ≤ 600 → hs.length + (f + 1) ≤ 30 → Go d L (1 + (1 + (K1 + 1))) ((0, nI (6 - (f + 1))) :: r) l hs a ((0, nI (6 - f)) :: (1, 125) :: X :: (0, nI (6 - (f + 1))) :: r) (l ++ e1 ++ [(9, 0)]) ((l ++ e1).length :: hs) (b1 + 1) 1 := fun r l hs hl hb hr hh => ((g1 r l hs hl hb hr).then (go_sign hL (by decide) (by omega) (by simp only [List.length_cons]; omega) h123)).then (go_hole (by simp only [List.length_cons]; omega) (by rw [List.length_append]; omega) (by omega))
              obtain ⟨b2, x2, hp2⟩ : ∃ b2 x2, pL d L (pS d L f) 121 (b1 + 1) (base + e1.length + 1) = (b2, x2) := ⟨_, _, rfl⟩
              obtain ⟨hb2, had3, K2, hK3, hs2, hn2⟩ := ml_blk hL hd (by omega) hLi (b1 + 1) (base + e1.length + 1) b2 x2 (by omega) hp2
              have had4 := (pL_adv (d := d) (L := L) (pS_adv (d := d) (L := L) f) 121 (b1 + 1) (base + e1.length + 1)).2
              rw [hp2] at hp had4
              cases x2 with
              | none =>
                cases hp
                exact ⟨hb2, K2 + (1 + (1 + (K1 + 1))), by omega, fun e e2 he => (by cases he), fun _ r l hs hl hb hr hh => (g2 r l hs hl hb hr hh).fl (hn2 (Or.inl rfl) _ _ _ (by simp only [List.length_append, List.length_cons, List.length_nil]; omega) (by omega) (by simp only [List.length_cons]; omega) (by simp only [List.length_cons]; omega))⟩
              | some e2 =>
                have had5 : e2.length ≤ b2 - (b1 + 1) := had4 e2 rfl
                dsimp only at hp
                by_cases hc : ch d L b2 = 125
                · rw [if_pos hc] at hp
                  have hlt2 := ch_lt hc (by decide)
                  cases hp
                  obtain ⟨hK4, hs2⟩ := hs2 e2 rfl hc
                  refine ⟨by omega, K2 + (1 + (1 + (K1 + 1))), by omega, fun e e2' he => ?_, fun he => by cases he⟩
                  cases he
                  refine ⟨by omega, by omega, fun r l hs hl hb hr hh => ?_⟩
                  have g3 := (g2 r l hs hl hb hr hh).then (hs2 _ _ _ (by simp only [List.length_append, List.length_cons, List.length_nil]; omega) (by omega) (by simp only [List.length_cons]; omega) (by simp only [List.length_cons]; omega))
                  rw [List.append_assoc (l ++ e1)] at g3
                  exact g3
                · rw [if_neg hc] at hp
                  cases hp
                  exact ⟨hb2, K2 + (1 + (1 + (K1 + 1))), by omega, fun e e2 he => (by cases he), fun _ r l hs hl hb hr hh => (g2 r l hs hl hb hr hh).fl (hn2 (Or.inr hc) _ _ _ (by simp only [List.length_append, List.length_cons, List.length_nil]; omega) (by omega) (by simp only [List.length_cons]; omega) (by simp only [List.length_cons]; omega))⟩
            · rw [if_neg h123] at hp
              cases hp
              exact ⟨hb1, 1 + (K1 + 1), by omega, fun e e2 he => (by cases he), fun _ r l hs hl hb hr hh => (g1 r l hs hl hb hr).fl (go_signN hL (by decide) (by omega) (by simp only [List.length_cons]; omega) h123)⟩
        by_cases h64 : ch d L a = 64
        · rw [if_pos h64] at hp
          obtain ⟨b1, x1, hp1⟩ : ∃ b1 x1, pG d L (pS d L f) a base = (b1, x1) := ⟨_, _, rfl⟩
          obtain ⟨hb1, K1, hK1, hs1, hn1⟩ := guard (6, nI base) b1 x1 (fun r l hs hl hr => by
            have g := go_liWhile (l := l) (hs := hs) (r := r) hL hd ha (by omega) hdp hV h64
            rw [ef, hl] at g
            exact g) hp1
          rw [hp1] at hp
          cases x1 with
          | none =>
            cases hp
            exact ⟨hb1, K1, by omega, fun e he => (by cases he), fun _ => hn1 rfl⟩
          | some y =>
            obtain ⟨e1, e2⟩ := y
            cases hp
            obtain ⟨hK2, hlen, hs1⟩ := hs1 e1 e2 rfl
            refine ⟨hb1, 1 + K1, by omega, fun e he => ?_, fun he => by cases he⟩
            cases he
            refine ⟨by omega, fun r l hs hl hb hr hh => ?_⟩
            have g := (hs1 r l hs hl hb hr hh).then (go_round (by simp only [List.length_cons]; omega) (by simp only [List.length_append, List.length_cons]; omega) (by omega))
            have el : ((l ++ e1) ++ (9, (0 : Int32)) :: e2).length + 1 = base + e1.length + 1 + e2.length + 1 := by simp only [List.length_append, List.length_cons]; omega
            rw [el] at g
            simpa using g
        · rw [if_neg h64] at hp
          by_cases h63 : ch d L a = 63
          · rw [if_pos h63] at hp
            obtain ⟨b1, x1, hp1⟩ : ∃ b1 x1, pG d L (pS d L f) a base = (b1, x1) := ⟨_, _, rfl⟩
            obtain ⟨hb1, K1, hK1, hs1, hn1⟩ := guard (7, nI (6 - (f + 1))) b1 x1 (fun r l hs hl hr => by
              have g := go_liIf (l := l) (hs := hs) (r := r) hL hd ha (by omega) hdp hV h63
              rw [ef] at g
              exact g) hp1
            rw [hp1] at hp
            cases x1 with
            | none =>
              cases hp
              exact ⟨hb1, K1, by omega, fun e he => (by cases he), fun _ => hn1 rfl⟩
            | some y =>
              obtain ⟨e1, e2⟩ := y
              dsimp only at hp
              obtain ⟨hK2, hlen, hs1⟩ := hs1 e1 e2 rfl
              by_cases h58 : ch d L b1 = 58
              · rw [if_pos h58] at hp
                have hlt := ch_lt h58 (by decide)
                have g1 : ∀ (r l : IL) (hs : List Nat), l.length = base → base ≤ a → r.length + 8 * (f + 1) + 40 ≤ 600 → hs.length + (f + 1) ≤ 30 → Go d L (1 + K1) ((0, nI (6 - (f + 1))) :: r) l hs a ((1, 123) :: (8, 0) :: (0, nI (6 - f)) :: (1, 125) :: (9, 0) :: (0, nI (6 - (f + 1))) :: r) ((l ++ e1) ++ (9, 0) :: e2) ((l ++ e1).length :: hs) (b1 + 1) 1 := fun r l hs hl hb hr hh => by
                  have g := (hs1 r l hs hl hb hr hh).then (go_choice hL (by omega) (by simp only [List.length_cons]; omega) h58)
                  rw [z_a1, ef] at g
                  exact g
                unfold pB at hp
                by_cases h123 : ch d L (b1 + 1) = 123
                · rw [if_pos h123] at hp
                  have hlt2 := ch_lt h123 (by decide)
                  have el : ∀ l : IL, l.length = base → ((l ++ e1) ++ (9, (0 : Int32)) :: e2).length = base + e1.length + 1 + e2.length := fun l hl => by simp only [List.length_append, List.length_cons]; omega
                  have g2 : ∀ (r l : IL) (hs : List Nat), l.length = base → base ≤ a → r.length + 8 * (f + 1) + 40 ≤ 600 → hs.length + (f + 1) ≤ 30 → Go d L (1 + (1 + (1 + K1))) ((0, nI (6 - (f + 1))) :: r) l hs a ((0, nI (6 - f)) :: (1, 125) :: (9, 0) :: (0, nI (6 - (f + 1))) :: r) ((l ++ e1) ++ (9, nI (base + e1.length + 1 + e2.length + 1)) :: (e2 ++ [(8, 0)])) ((base + e1.length + 1 + e2.length) :: hs) (b1 + 2) 1 := fun r l hs hl hb hr hh => by
                    have g := ((g1 r l hs hl hb hr hh).then (go_sign hL (by decide) (by omega) (by simp only [List.length_cons]; omega) h123)).then (go_other (by simp only [List.length_cons]; omega) (by rw [el l hl]; omega) (by omega))
                    rw [el l hl] at g
                    exact g
                  obtain ⟨b2, x2, hp2⟩ : ∃ b2 x2, pL d L (pS d L f) 121 (b1 + 1 + 1) (base + e1.length + 1 + e2.length + 1) = (b2, x2) := ⟨_, _, rfl⟩
                  obtain ⟨hb2, had3, K2, hK3, hs2, hn2⟩ := ml_blk hL hd (by omega) hLi (b1 + 1 + 1) (base + e1.length + 1 + e2.length + 1) b2 x2 (by omega) hp2
                  have had4 := (pL_adv (d := d) (L := L) (pS_adv (d := d) (L := L) f) 121 (b1 + 1 + 1) (base + e1.length + 1 + e2.length + 1)).2
                  rw [hp2] at hp had4
                  cases x2 with
                  | none =>
                    cases hp
                    exact ⟨hb2, K2 + (1 + (1 + (1 + K1))), by omega, fun e he => (by cases he), fun _ r l hs hl hb hr hh => (g2 r l hs hl hb hr hh).fl (hn2 (Or.inl rfl) _ _ _ (by simp only [List.length_append, List.length_cons, List.length_nil]; omega) (by omega) (by simp only [List.length_cons]; omega) (by simp only [List.length_cons]; omega))⟩
                  | some e3 =>
                    have had5 : e3.length ≤ b2 - (b1 + 1 + 1) := had4 e3 rfl
                    dsimp only at hp
                    by_cases hc : ch d L b2 = 125
                    · rw [if_pos hc] at hp
                      have hlt3 := ch_lt hc (by decide)
                      cases hp
                      obtain ⟨hK4, hs2⟩ := hs2 e3 rfl hc
                      refine ⟨by omega, 1 + (K2 + (1 + (1 + (1 + K1)))), by omega, fun e he => ?_, fun he => by cases he⟩
                      cases he
                      refine ⟨by omega, fun r l hs hl hb hr hh => ?_⟩
                      have g3 := (g2 r l hs hl hb hr hh).then (hs2 _ _ _ (by simp only [List.length_append, List.length_cons, List.length_nil]; omega) (by omega) (by simp only [List.length_cons]; omega) (by simp only [List.length_cons]; omega))
                      have ea : (l ++ e1 ++ (9, nI (base + e1.length + 1 + e2.length + 1)) :: e2).length = base + e1.length + 1 + e2.length := by simp only [List.length_append, List.length_cons]; omega
                      have eb : (l ++ e1 ++ (9, nI (base + e1.length + 1 + e2.length + 1)) :: (e2 ++ [((8 : Int32), (0 : Int32))])) ++ e3 = (l ++ e1 ++ (9, nI (base + e1.length + 1 + e2.length + 1)) :: e2) ++ (8, 0) :: e3 := by simp
                      rw [eb] at g3
                      have gb := go_behind (d := d) (L := L) (a := b2 + 1) (w := 0) (o := 8) (t0 := 0) (r := (0, nI (6 - (f + 1))) :: r) (A := l ++ e1 ++ (9, nI (base + e1.length + 1 + e2.length + 1)) :: e2) (B := e3) (hs := hs) (by simp only [List.length_cons]; omega) (by simp only [List.length_append, List.length_cons]; omega) (by omega)
                      rw [ea] at gb
                      have g4 := g3.then gb
                      have et : ((l ++ e1 ++ (9, nI (base + e1.length + 1 + e2.length + 1)) :: e2) ++ ((8 : Int32), (0 : Int32)) :: e3).length = base + e1.length + 1 + e2.length + 1 + e3.length := by simp only [List.length_append, List.length_cons]; omega
                      rw [et] at g4
                      simpa using g4
                    · rw [if_neg hc] at hp
                      cases hp
                      exact ⟨hb2, K2 + (1 + (1 + (1 + K1))), by omega, fun e he => (by cases he), fun _ r l hs hl hb hr hh => (g2 r l hs hl hb hr hh).fl (hn2 (Or.inr hc) _ _ _ (by simp only [List.length_append, List.length_cons, List.length_nil]; omega) (by omega) (by simp only [List.length_cons]; omega) (by simp only [List.length_cons]; omega))⟩
                · rw [if_neg h123] at hp
                  cases hp
                  exact ⟨by omega, 1 + (1 + K1), by omega, fun e he => (by cases he), fun _ r l hs hl hb hr hh => (g1 r l hs hl hb hr hh).fl (go_signN hL (by decide) (by omega) (by simp only [List.length_cons]; omega) h123)⟩
              · rw [if_neg h58] at hp
                cases hp
                refine ⟨hb1, 1 + K1, by omega, fun e he => ?_, fun he => by cases he⟩
                cases he
                refine ⟨by omega, fun r l hs hl hb hr hh => ?_⟩
                have g := (hs1 r l hs hl hb hr hh).then (go_if hL (by omega) (by simp only [List.length_cons]; omega) (by simp only [List.length_append, List.length_cons]; omega) (by omega) h58)
                have el : ((l ++ e1) ++ (9, (0 : Int32)) :: e2).length = base + e1.length + 1 + e2.length := by simp only [List.length_append, List.length_cons]; omega
                rw [el] at g
                simpa using g
          · rw [if_neg h63] at hp
            cases hp
            exact ⟨by omega, 1, by omega, fun e he => (by cases he), fun _ r l hs hl hb hr hh => go_liBad hL hd ha (by omega) (fun e => absurd e n125) hdp hV h35 h64 h63⟩
/-- the reference's whole reading -/
theorem ml_read {d : Nat → Int32} {L : Nat} (hL : L ≤ 120) (hd : okD d L) : ∃ (b : Nat) (x : Option IL), pL d L (pS d L 6) 121 0 0 = (b, x) ∧ b ≤ L ∧
    ((∃ e : IL, x = some e ∧ L ≤ b ∧ e.length ≤ 120 ∧ ∃ K : Nat, K ≤ 1000 ∧ Go d L K [(0, 0)] [] [] 0 [] e [] b 1) ∨ ((x = none ∨ ¬ L ≤ b) ∧ ∃ K : Nat, K ≤ 1000 ∧ Fl d L K [(0, 0)] [] [] 0 b)) := by
  obtain ⟨b, x, hp⟩ : ∃ b x, pL d L (pS d L 6) 121 0 0 = (b, x) := ⟨_, _, rfl⟩
  obtain ⟨hb, K, hK, hs, hn⟩ := ml_Li hL (ml_St hL hd 6 (Nat.le_refl _)) 121 0 0 b x (by omega) (by omega) hp
  have had := (pL_adv (d := d) (L := L) (pS_adv (d := d) (L := L) 6) 121 0 0).2
  rw [hp] at had
  refine ⟨b, x, hp, hb, ?_⟩
  cases x with
  | none => exact Or.inr ⟨Or.inl rfl, K, by omega, hn rfl [] [] [] rfl (by omega) (by simp) (by simp)⟩
  | some e =>
    have hlen : e.length ≤ b - 0 := had e rfl
    obtain ⟨hK2, hend, hs⟩ := hs e rfl
    have g := hs [] [] [] rfl (by omega) (by simp) (by simp)
    rw [List.nil_append] at g
    by_cases hLb : L ≤ b
    · exact Or.inl ⟨e, rfl, hLb, by omega, 1 + K, by omega, g.then (go_liEnd0 hL (by omega) (by simp) hLb)⟩
    · have h125 := hend.resolve_left hLb
      have nv : ¬ isV (ch d L b) = true := by rw [h125]; decide
      exact Or.inr ⟨Or.inr hLb, 1 + K, by omega, g.fl (go_liBad hL hd (by omega) (by simp) (fun _ => rfl) (by omega) nv (by rw [h125]; decide) (by rw [h125]; decide) (by rw [h125]; decide))⟩
