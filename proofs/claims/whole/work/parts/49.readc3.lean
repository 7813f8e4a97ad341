/-! the grammar: every part goes forward, and has no more INSTRUCTIONS than characters -/
def Adv (a : Nat) (r : Nat × Option IL) : Prop := a ≤ r.1 ∧ ∀ e : IL, r.2 = some e → a < r.1 ∧ e.length ≤ r.1 - a
theorem pE_adv {d : Nat → Int32} {L : Nat} : ∀ (f a : Nat), Adv a (pE d L f a) := by
  intro f
  induction f with
  | zero => intro a; exact ⟨Nat.le_refl _, fun e h => by cases h⟩
  | succ f ih =>
    intro a
    rw [pE]
    by_cases hD : isD (ch d L a) = true
    · rw [if_pos hD]
      by_cases hD2 : isD (ch d L (a + 1)) = true
      · rw [if_pos hD2]
        exact ⟨by show a ≤ a + 2; omega, fun e h => by cases h; exact ⟨by show a < a + 2; omega, by show 1 ≤ a + 2 - a; omega⟩⟩
      · rw [if_neg hD2]
        exact ⟨by show a ≤ a + 1; omega, fun e h => by cases h; exact ⟨by show a < a + 1; omega, by show 1 ≤ a + 1 - a; omega⟩⟩
    · rw [if_neg hD]
      by_cases hV : isV (ch d L a) = true
      · rw [if_pos hV]
        exact ⟨by show a ≤ a + 1; omega, fun e h => by cases h; exact ⟨by show a < a + 1; omega, by show 1 ≤ a + 1 - a; omega⟩⟩
      · rw [if_neg hV]
        have h1 := ih (a + 1)
        by_cases h33 : ch d L a = 33
        · rw [if_pos h33]
          obtain ⟨b, x, hp⟩ : ∃ b x, pE d L f (a + 1) = (b, x) := ⟨_, _, rfl⟩
          rw [hp] at h1 ⊢
          have hb : a + 1 ≤ b := h1.1
          cases x with
          | none => exact ⟨by show a ≤ b; omega, fun e h => by cases h⟩
          | some l =>
            have h2 : a + 1 < b ∧ l.length ≤ b - (a + 1) := h1.2 l rfl
            refine ⟨by show a ≤ b; omega, fun e h => ?_⟩
            cases h
            refine ⟨by show a < b; omega, ?_⟩
            rw [List.length_append, List.length_singleton]
            show l.length + 1 ≤ b - a
            omega
        · rw [if_neg h33]
          by_cases h40 : ch d L a = 40
          · rw [if_pos h40]
            obtain ⟨b, x, hp⟩ : ∃ b x, pE d L f (a + 1) = (b, x) := ⟨_, _, rfl⟩
            rw [hp] at h1 ⊢
            have hb : a + 1 ≤ b := h1.1
            cases x with
            | none => exact ⟨by show a ≤ b; omega, fun e h => by cases h⟩
            | some l =>
              have h2 : a + 1 < b ∧ l.length ≤ b - (a + 1) := h1.2 l rfl
              dsimp only
              by_cases hs : sgn (ch d L b) = -2
              · rw [if_pos hs]
                exact ⟨by show a ≤ b; omega, fun e h => by cases h⟩
              · rw [if_neg hs]
                have h3 := ih (b + 1)
                obtain ⟨c, y, hq⟩ : ∃ c y, pE d L f (b + 1) = (c, y) := ⟨_, _, rfl⟩
                rw [hq] at h3 ⊢
                have hc : b + 1 ≤ c := h3.1
                cases y with
                | none => exact ⟨by show a ≤ c; omega, fun e h => by cases h⟩
                | some l2 =>
                  have h4 : b + 1 < c ∧ l2.length ≤ c - (b + 1) := h3.2 l2 rfl
                  dsimp only
                  by_cases h41 : ch d L c = 41
                  · rw [if_pos h41]
                    refine ⟨by show a ≤ c + 1; omega, fun e h => ?_⟩
                    cases h
                    refine ⟨by show a < c + 1; omega, ?_⟩
                    rw [List.length_append, List.length_append, List.length_singleton]
                    show l.length + l2.length + 1 ≤ c + 1 - a
                    omega
                  · rw [if_neg h41]
                    exact ⟨by show a ≤ c; omega, fun e h => by cases h⟩
          · rw [if_neg h40]
            exact ⟨Nat.le_refl _, fun e h => by cases h⟩
/-- the same for a list, a block, a guarded block, a STATEMENT; a list may be empty -/
def AdvL (a : Nat) (r : Nat × Option IL) : Prop := a ≤ r.1 ∧ ∀ e : IL, r.2 = some e → e.length ≤ r.1 - a
theorem pL_adv {d : Nat → Int32} {L : Nat} {S : Nat → Nat → Nat × Option IL} (hS : ∀ a base, Adv a (S a base)) : ∀ (k a base : Nat), AdvL a (pL d L S k a base) := by
  intro k
  induction k with
  | zero => intro a base; exact ⟨Nat.le_refl _, fun e h => by cases h⟩
  | succ k ih =>
    intro a base
    rw [pL]
    by_cases h0 : L ≤ a ∨ ch d L a = 125
    · rw [if_pos h0]
      exact ⟨Nat.le_refl _, fun e h => by cases h; exact Nat.zero_le _⟩
    · rw [if_neg h0]
      have h1 := hS a base
      obtain ⟨b, x, hp⟩ : ∃ b x, S a base = (b, x) := ⟨_, _, rfl⟩
      rw [hp] at h1 ⊢
      have hb : a ≤ b := h1.1
      cases x with
      | none => exact ⟨hb, fun e h => by cases h⟩
      | some l =>
        have h2 : a < b ∧ l.length ≤ b - a := h1.2 l rfl
        dsimp only
        have h3 := ih b (base + l.length)
        obtain ⟨c, y, hq⟩ : ∃ c y, pL d L S k b (base + l.length) = (c, y) := ⟨_, _, rfl⟩
        rw [hq] at h3 ⊢
        have hc : b ≤ c := h3.1
        cases y with
        | none => exact ⟨by show a ≤ c; omega, fun e h => by cases h⟩
        | some l2 =>
          have h4 : l2.length ≤ c - b := h3.2 l2 rfl
          refine ⟨by show a ≤ c; omega, fun e h => ?_⟩
          cases h
          rw [List.length_append]
          show l.length + l2.length ≤ c - a
          omega
/-- a block has two characters more than its INSTRUCTIONS need -/
def AdvB (a : Nat) (r : Nat × Option IL) : Prop := a ≤ r.1 ∧ ∀ e : IL, r.2 = some e → a + 2 ≤ r.1 ∧ e.length + 2 ≤ r.1 - a
theorem pB_adv {d : Nat → Int32} {L : Nat} {S : Nat → Nat → Nat × Option IL} (hS : ∀ a base, Adv a (S a base)) (a base : Nat) : AdvB a (pB d L S a base) := by
  unfold pB
  by_cases h0 : ch d L a = 123
  · rw [if_pos h0]
    have h1 := pL_adv (d := d) (L := L) hS 121 (a + 1) base
    obtain ⟨b, x, hp⟩ : ∃ b x, pL d L S 121 (a + 1) base = (b, x) := ⟨_, _, rfl⟩
    rw [hp] at h1 ⊢
    have hb : a + 1 ≤ b := h1.1
    cases x with
    | none => exact ⟨by show a ≤ b; omega, fun e h => by cases h⟩
    | some l =>
      have h2 : l.length ≤ b - (a + 1) := h1.2 l rfl
      dsimp only
      by_cases h5 : ch d L b = 125
      · rw [if_pos h5]
        refine ⟨by show a ≤ b + 1; omega, fun e h => ?_⟩
        cases h
        exact ⟨by show a + 2 ≤ b + 1; omega, by show l.length + 2 ≤ b + 1 - a; omega⟩
      · rw [if_neg h5]
        exact ⟨by show a ≤ b; omega, fun e h => by cases h⟩
  · rw [if_neg h0]
    exact ⟨Nat.le_refl _, fun e h => by cases h⟩
theorem pG_adv {d : Nat → Int32} {L : Nat} {S : Nat → Nat → Nat × Option IL} (hS : ∀ a base, Adv a (S a base)) (a base : Nat) : a ≤ (pG d L S a base).1 ∧ ∀ e : IL × IL, (pG d L S a base).2 = some e → e.1.length + e.2.length + 3 ≤ (pG d L S a base).1 - a := by
  unfold pG
  have h1 := pE_adv (d := d) (L := L) 8 (a + 1)
  obtain ⟨b, x, hp⟩ : ∃ b x, pE d L 8 (a + 1) = (b, x) := ⟨_, _, rfl⟩
  rw [hp] at h1 ⊢
  have hb : a + 1 ≤ b := h1.1
  cases x with
  | none => exact ⟨by show a ≤ b; omega, fun e h => by cases h⟩
  | some l =>
    have h2 : a + 1 < b ∧ l.length ≤ b - (a + 1) := h1.2 l rfl
    dsimp only
    have h3 := pB_adv (d := d) (L := L) hS b (base + l.length + 1)
    obtain ⟨c, y, hq⟩ : ∃ c y, pB d L S b (base + l.length + 1) = (c, y) := ⟨_, _, rfl⟩
    rw [hq] at h3 ⊢
    have hc : b ≤ c := h3.1
    cases y with
    | none => exact ⟨by show a ≤ c; omega, fun e h => by cases h⟩
    | some l2 =>
      have h4 : b + 2 ≤ c ∧ l2.length + 2 ≤ c - b := h3.2 l2 rfl
      refine ⟨by show a ≤ c; omega, fun e h => ?_⟩
      cases h
      show l.length + l2.length + 3 ≤ c - a
      omega
theorem pS_adv {d : Nat → Int32} {L : Nat} : ∀ (f a base : Nat), Adv a (pS d L f a base) := by
  intro f
  induction f with
  | zero => intro a base; exact ⟨Nat.le_refl _, fun e h => by cases h⟩
  | succ f ih =>
    intro a base
    rw [pS]
    by_cases hV : isV (ch d L a) = true
    · rw [if_pos hV]
      by_cases h61 : ch d L (a + 1) = 61
      · rw [if_pos h61]
        have h1 := pE_adv (d := d) (L := L) 8 (a + 2)
        obtain ⟨b, x, hp⟩ : ∃ b x, pE d L 8 (a + 2) = (b, x) := ⟨_, _, rfl⟩
        rw [hp] at h1 ⊢
        have hb : a + 2 ≤ b := h1.1
        cases x with
        | none => exact ⟨by show a ≤ b; omega, fun e h => by cases h⟩
        | some l =>
          have h2 : a + 2 < b ∧ l.length ≤ b - (a + 2) := h1.2 l rfl
          dsimp only
          by_cases h59 : ch d L b = 59
          · rw [if_pos h59]
            refine ⟨by show a ≤ b + 1; omega, fun e h => ?_⟩
            cases h
            rw [List.length_append, List.length_singleton]
            exact ⟨by show a < b + 1; omega, by show l.length + 1 ≤ b + 1 - a; omega⟩
          · rw [if_neg h59]
            exact ⟨by show a ≤ b; omega, fun e h => by cases h⟩
      · rw [if_neg h61]
        exact ⟨by show a ≤ a + 1; omega, fun e h => by cases h⟩
    · rw [if_neg hV]
      by_cases h35 : ch d L a = 35
      · rw [if_pos h35]
        have h1 := pE_adv (d := d) (L := L) 8 (a + 1)
        obtain ⟨b, x, hp⟩ : ∃ b x, pE d L 8 (a + 1) = (b, x) := ⟨_, _, rfl⟩
        rw [hp] at h1 ⊢
        have hb : a + 1 ≤ b := h1.1
        cases x with
        | none => exact ⟨by show a ≤ b; omega, fun e h => by cases h⟩
        | some l =>
          have h2 : a + 1 < b ∧ l.length ≤ b - (a + 1) := h1.2 l rfl
          dsimp only
          by_cases h59 : ch d L b = 59
          · rw [if_pos h59]
            refine ⟨by show a ≤ b + 1; omega, fun e h => ?_⟩
            cases h
            rw [List.length_append, List.length_singleton]
            exact ⟨by show a < b + 1; omega, by show l.length + 1 ≤ b + 1 - a; omega⟩
          · rw [if_neg h59]
            exact ⟨by show a ≤ b; omega, fun e h => by cases h⟩
      · rw [if_neg h35]
        have hG := pG_adv (d := d) (L := L) (ih) a base
        by_cases h64 : ch d L a = 64
        · rw [if_pos h64]
          obtain ⟨b, x, hp⟩ : ∃ b x, pG d L (pS d L f) a base = (b, x) := ⟨_, _, rfl⟩
          rw [hp] at hG ⊢
          have hb : a ≤ b := hG.1
          cases x with
          | none => exact ⟨hb, fun e h => by cases h⟩
          | some y =>
            obtain ⟨l, l2⟩ := y
            have h2 : l.length + l2.length + 3 ≤ b - a := hG.2 (l, l2) rfl
            refine ⟨hb, fun e h => ?_⟩
            cases h
            simp only [List.length_append, List.length_cons, List.length_nil]
            exact ⟨by show a < b; omega, by show _ ≤ b - a; omega⟩
        · rw [if_neg h64]
          by_cases h63 : ch d L a = 63
          · rw [if_pos h63]
            obtain ⟨b, x, hp⟩ : ∃ b x, pG d L (pS d L f) a base = (b, x) := ⟨_, _, rfl⟩
            rw [hp] at hG ⊢
            have hb : a ≤ b := hG.1
            cases x with
            | none => exact ⟨hb, fun e h => by cases h⟩
            | some y =>
              obtain ⟨l, l2⟩ := y
              have h2 : l.length + l2.length + 3 ≤ b - a := hG.2 (l, l2) rfl
              dsimp only
              by_cases h58 : ch d L b = 58
              · rw [if_pos h58]
                have h3 := pB_adv (d := d) (L := L) ih (b + 1) (base + l.length + 1 + l2.length + 1)
                obtain ⟨c, y, hq⟩ : ∃ c y, pB d L (pS d L f) (b + 1) (base + l.length + 1 + l2.length + 1) = (c, y) := ⟨_, _, rfl⟩
                rw [hq] at h3 ⊢
                have hc : b + 1 ≤ c := h3.1
                cases y with
                | none => exact ⟨by show a ≤ c; omega, fun e h => by cases h⟩
                | some l3 =>
                  have h4 : b + 1 + 2 ≤ c ∧ l3.length + 2 ≤ c - (b + 1) := h3.2 l3 rfl
                  refine ⟨by show a ≤ c; omega, fun e h => ?_⟩
                  cases h
                  simp only [List.length_append, List.length_cons]
                  exact ⟨by show a < c; omega, by show _ ≤ c - a; omega⟩
              · rw [if_neg h58]
                refine ⟨hb, fun e h => ?_⟩
                cases h
                simp only [List.length_append, List.length_cons]
                exact ⟨by show a < b; omega, by show _ ≤ b - a; omega⟩
          · rw [if_neg h63]
            exact ⟨Nat.le_refl _, fun e h => by cases h⟩
