/-! read on both sides -/
theorem pE_ch {d d' : Nat → Int32} {L : Nat} (h : ch d L = ch d' L) : ∀ f : Nat, pE d L f = pE d' L f := by
  intro f
  induction f with
  | zero => rfl
  | succ f ih => funext a; rw [pE, pE, ih, h]
theorem pL_ch {d d' : Nat → Int32} {L : Nat} {S : Nat → Nat → Nat × Option IL} (h : ch d L = ch d' L) : ∀ k : Nat, pL d L S k = pL d' L S k := by
  intro k
  induction k with
  | zero => rfl
  | succ k ih => funext a base; rw [pL, pL, ih, h]
theorem pB_ch {d d' : Nat → Int32} {L : Nat} {S : Nat → Nat → Nat × Option IL} (h : ch d L = ch d' L) : pB d L S = pB d' L S := by
  funext a base
  unfold pB
  rw [pL_ch h, h]
theorem pG_ch {d d' : Nat → Int32} {L : Nat} {S : Nat → Nat → Nat × Option IL} (h : ch d L = ch d' L) : pG d L S = pG d' L S := by
  funext a base
  unfold pG
  rw [pE_ch h, pB_ch h]
theorem pS_ch {d d' : Nat → Int32} {L : Nat} (h : ch d L = ch d' L) : ∀ f : Nat, pS d L f = pS d' L f := by
  intro f
  induction f with
  | zero => rfl
  | succ f ih => funext a base; rw [pS, pS, ih, pE_ch h, pG_ch h, pB_ch h, h]
/-- an INSTRUCTION as the grammar makes it; a JUMP goes to T at most -/
def okX (T : Nat) (x : Int32 × Int32) : Prop := (x.1 = 0 ∧ ∃ k : Nat, k ≤ 99 ∧ x.2 = nI k) ∨ ((x.1 = 1 ∨ x.1 = 2) ∧ ∃ k : Nat, k ≤ 5 ∧ x.2 = nI k) ∨ ((x.1 = 8 ∨ x.1 = 9) ∧ ∃ k : Nat, k ≤ T ∧ x.2 = nI k) ∨ ((x.1 = 3 ∨ x.1 = 4 ∨ x.1 = 5 ∨ x.1 = 6 ∨ x.1 = 7 ∨ x.1 = 10) ∧ x.2 = 0)
theorem okX.mono {T T' : Nat} {x : Int32 × Int32} (h : okX T x) (hT : T ≤ T') : okX T' x := by
  rcases h with h | h | ⟨h, k, h1, h2⟩ | h
  · exact Or.inl h
  · exact Or.inr (Or.inl h)
  · exact Or.inr (Or.inr (Or.inl ⟨h, k, by omega, h2⟩))
  · exact Or.inr (Or.inr (Or.inr h))
theorem okX_okI {x : Int32 × Int32} (h : okX 30 x) : okI x.1 x.2 ∧ g_M_isGood x.1 x.2 = some 1 ∧ sa x.1 x.2 = x.2 := by
  obtain ⟨o, v⟩ := x
  have key : okI o v → sa o v = v → okI o v ∧ g_M_isGood o v = some 1 ∧ sa o v = v := by
    intro h1 h2
    refine ⟨h1, ?_, h2⟩
    rcases fits_cases o v with ⟨-, h3, -⟩ | ⟨h3, h4⟩
    · exact h3
    · exfalso
      have h5 := h1.2.1
      have h6 := h1.2.2
      unfold g_M_isGood at h4
      have z0 := zi_0
      rcases h1.1 with rfl | rfl | rfl | rfl | rfl | rfl | rfl | rfl | rfl | rfl | rfl
      · rw [if_pos rfl, z_bind (ml_in1 (by omega) (by have := zi_99; simp [mx] at h6; omega))] at h4; exact absurd h4 (by decide)
      · rw [if_neg (by decide), if_pos rfl, z_bind (ml_in1 (by omega) (by have := zi_5; simp [mx] at h6; omega))] at h4; exact absurd h4 (by decide)
      · rw [if_neg (by decide), if_neg (by decide), if_pos rfl, z_bind (ml_in1 (by omega) (by have := zi_5; simp [mx] at h6; omega))] at h4; exact absurd h4 (by decide)
      · exact absurd (show some (1 : Int32) = some 0 from h4) (by decide)
      · exact absurd (show some (1 : Int32) = some 0 from h4) (by decide)
      · exact absurd (show some (1 : Int32) = some 0 from h4) (by decide)
      · exact absurd (show some (1 : Int32) = some 0 from h4) (by decide)
      · exact absurd (show some (1 : Int32) = some 0 from h4) (by decide)
      · rw [if_neg (by decide), if_neg (by decide), if_neg (by decide), if_pos rfl, z_bind (ml_in1 (by omega) (by have := zi_30; simp [mx] at h6; omega))] at h4; exact absurd h4 (by decide)
      · rw [if_neg (by decide), if_neg (by decide), if_neg (by decide), if_neg (by decide), if_pos rfl, z_bind (ml_in1 (by omega) (by have := zi_30; simp [mx] at h6; omega))] at h4; exact absurd h4 (by decide)
      · exact absurd (show some (1 : Int32) = some 0 from h4) (by decide)
  rcases h with ⟨h, k, h1, h2⟩ | ⟨h, k, h1, h2⟩ | ⟨h, k, h1, h2⟩ | ⟨h, h2⟩
  · have h : o = 0 := h
    have h2 : v = nI k := h2
    subst h h2
    exact key ⟨by unfold okO; decide, by rw [z_tI (by omega)]; omega, by rw [z_tI (by omega)]; simp [mx]; omega⟩ rfl
  · have h : o = 1 ∨ o = 2 := h
    have h2 : v = nI k := h2
    subst h2
    rcases h with rfl | rfl
    · exact key ⟨by unfold okO; decide, by rw [z_tI (by omega)]; omega, by rw [z_tI (by omega)]; simp [mx]; omega⟩ rfl
    · exact key ⟨by unfold okO; decide, by rw [z_tI (by omega)]; omega, by rw [z_tI (by omega)]; simp [mx]; omega⟩ rfl
  · have h : o = 8 ∨ o = 9 := h
    have h2 : v = nI k := h2
    subst h2
    rcases h with rfl | rfl
    · exact key ⟨by unfold okO; decide, by rw [z_tI (by omega)]; omega, by rw [z_tI (by omega)]; simp [mx]; omega⟩ rfl
    · exact key ⟨by unfold okO; decide, by rw [z_tI (by omega)]; omega, by rw [z_tI (by omega)]; simp [mx]; omega⟩ rfl
  · have h : o = 3 ∨ o = 4 ∨ o = 5 ∨ o = 6 ∨ o = 7 ∨ o = 10 := h
    have h2 : v = 0 := h2
    subst h2
    rcases h with rfl | rfl | rfl | rfl | rfl | rfl <;> exact key (by unfold okI okO mx; decide) rfl
def okXs (T : Nat) (l : IL) : Prop := ∀ x ∈ l, okX T x
theorem okXs.app {T : Nat} {l l' : IL} (h : okXs T l) (h' : okXs T l') : okXs T (l ++ l') := fun x hx => (List.mem_append.mp hx).elim (h x) (h' x)
theorem okXs.cons {T : Nat} {l : IL} {x : Int32 × Int32} (h : okX T x) (h' : okXs T l) : okXs T (x :: l) := fun y hy => (List.mem_cons.mp hy).elim (fun e => by rw [e]; exact h) (h' y)
theorem okXs.nil {T : Nat} : okXs T [] := fun x hx => absurd hx List.not_mem_nil
theorem okXs.one {T : Nat} {x : Int32 × Int32} (h : okX T x) : okXs T [x] := okXs.cons h okXs.nil
theorem okXs.mono {T T' : Nat} {l : IL} (h : okXs T l) (hT : T ≤ T') : okXs T' l := fun x hx => (h x hx).mono hT
theorem isD_k {c : Int32} (h : isD c = true) : ∃ k : Nat, k ≤ 9 ∧ c = nI (48 + k) := by
  have h1 := of_decide_eq_true h
  refine ⟨c.toInt.toNat - 48, by omega, Int32.toInt_inj.mp ?_⟩
  rw [z_tI (by omega)]
  omega
theorem dg48 (k : Nat) : nI (48 + k) - 48 = nI k := by
  rw [show (48 : Int32) = nI 48 from rfl, pk_sub (by omega)]
  congr 1
  omega
theorem pE_ok {d : Nat → Int32} {L : Nat} : ∀ (f a b : Nat) (e : IL), pE d L f a = (b, some e) → okXs 0 e := by
  intro f
  induction f with
  | zero => intro a b e h; cases h
  | succ f ih =>
    intro a b e hp
    rw [pE] at hp
    by_cases hD : isD (ch d L a) = true
    · rw [if_pos hD] at hp
      obtain ⟨k, hk, ek⟩ := isD_k hD
      by_cases hD2 : isD (ch d L (a + 1)) = true
      · rw [if_pos hD2] at hp
        obtain ⟨k2, hk2, ek2⟩ := isD_k hD2
        cases hp
        refine okXs.one (Or.inl ⟨rfl, 10 * k + k2, by omega, ?_⟩)
        show (ch d L a - 48) * 10 + ch d L (a + 1) - 48 = nI (10 * k + k2)
        rw [ek, ek2, dg48, show (10 : Int32) = nI 10 from rfl, show (48 : Int32) = nI 48 from rfl, pk_mul, nI_add, pk_sub (by omega)]
        congr 1
        omega
      · rw [if_neg hD2] at hp
        cases hp
        refine okXs.one (Or.inl ⟨rfl, k, by omega, ?_⟩)
        show ch d L a - 48 = nI k
        rw [ek, dg48]
    · rw [if_neg hD] at hp
      by_cases hV : isV (ch d L a) = true
      · rw [if_pos hV] at hp
        obtain ⟨k, hk, ek⟩ := isV_k hV
        cases hp
        refine okXs.one (Or.inr (Or.inl ⟨Or.inl rfl, k, hk, ?_⟩))
        show ch d L a - 97 = nI k
        rw [ek, show (97 : Int32) = nI 97 from rfl, pk_sub (by omega)]
        congr 1
        omega
      · rw [if_neg hV] at hp
        by_cases h33 : ch d L a = 33
        · rw [if_pos h33] at hp
          obtain ⟨b1, x1, hp1⟩ : ∃ b1 x1, pE d L f (a + 1) = (b1, x1) := ⟨_, _, rfl⟩
          rw [hp1] at hp
          cases x1 with
          | none => cases hp
          | some e1 =>
            cases hp
            exact (ih _ _ _ hp1).app (okXs.one (Or.inr (Or.inr (Or.inr ⟨by simp, rfl⟩))))
        · rw [if_neg h33] at hp
          by_cases h40 : ch d L a = 40
          · rw [if_pos h40] at hp
            obtain ⟨b1, x1, hp1⟩ : ∃ b1 x1, pE d L f (a + 1) = (b1, x1) := ⟨_, _, rfl⟩
            rw [hp1] at hp
            cases x1 with
            | none => cases hp
            | some e1 =>
              dsimp only at hp
              by_cases hsg : sgn (ch d L b1) = -2
              · rw [if_pos hsg] at hp; cases hp
              · rw [if_neg hsg] at hp
                obtain ⟨b2, x2, hp2⟩ : ∃ b2 x2, pE d L f (b1 + 1) = (b2, x2) := ⟨_, _, rfl⟩
                rw [hp2] at hp
                cases x2 with
                | none => cases hp
                | some e2 =>
                  dsimp only at hp
                  by_cases h41 : ch d L b2 = 41
                  · rw [if_pos h41] at hp
                    cases hp
                    refine ((ih _ _ _ hp1).app (ih _ _ _ hp2)).app (okXs.one (Or.inr (Or.inr (Or.inr ⟨?_, rfl⟩))))
                    rcases sgn_ok hsg with h | h | h | h <;> simp [h]
                  · rw [if_neg h41] at hp; cases hp
          · rw [if_neg h40] at hp; cases hp
theorem pL_ok {d : Nat → Int32} {L : Nat} {S : Nat → Nat → Nat × Option IL} (hS : ∀ (a base b : Nat) (e : IL), S a base = (b, some e) → okXs (base + e.length) e) : ∀ (k a base b : Nat) (e : IL), pL d L S k a base = (b, some e) → okXs (base + e.length) e := by
  intro k
  induction k with
  | zero => intro a base b e h; cases h
  | succ k ih =>
    intro a base b e hp
    rw [pL] at hp
    by_cases h0 : L ≤ a ∨ ch d L a = 125
    · rw [if_pos h0] at hp; cases hp; exact okXs.nil
    · rw [if_neg h0] at hp
      obtain ⟨b1, x1, hp1⟩ : ∃ b1 x1, S a base = (b1, x1) := ⟨_, _, rfl⟩
      rw [hp1] at hp
      cases x1 with
      | none => cases hp
      | some e1 =>
        dsimp only at hp
        obtain ⟨b2, x2, hp2⟩ : ∃ b2 x2, pL d L S k b1 (base + e1.length) = (b2, x2) := ⟨_, _, rfl⟩
        rw [hp2] at hp
        cases x2 with
        | none => cases hp
        | some e2 =>
          cases hp
          rw [List.length_append]
          exact ((hS _ _ _ _ hp1).mono (by omega)).app ((ih _ _ _ _ hp2).mono (by omega))
theorem pB_ok {d : Nat → Int32} {L : Nat} {S : Nat → Nat → Nat × Option IL} (hS : ∀ (a base b : Nat) (e : IL), S a base = (b, some e) → okXs (base + e.length) e) (a base b : Nat) (e : IL) (hp : pB d L S a base = (b, some e)) : okXs (base + e.length) e := by
  unfold pB at hp
  by_cases h0 : ch d L a = 123
  · rw [if_pos h0] at hp
    obtain ⟨b1, x1, hp1⟩ : ∃ b1 x1, pL d L S 121 (a + 1) base = (b1, x1) := ⟨_, _, rfl⟩
    rw [hp1] at hp
    cases x1 with
    | none => cases hp
    | some e1 =>
      dsimp only at hp
      by_cases h5 : ch d L b1 = 125
      · rw [if_pos h5] at hp; cases hp; exact pL_ok hS _ _ _ _ _ hp1
      · rw [if_neg h5] at hp; cases hp
  · rw [if_neg h0] at hp; cases hp
theorem pG_ok {d : Nat → Int32} {L : Nat} {S : Nat → Nat → Nat × Option IL} (hS : ∀ (a base b : Nat) (e : IL), S a base = (b, some e) → okXs (base + e.length) e) (a base b : Nat) (e e2 : IL) (hp : pG d L S a base = (b, some (e, e2))) : okXs 0 e ∧ okXs (base + e.length + 1 + e2.length) e2 := by
  unfold pG at hp
  obtain ⟨b1, x1, hp1⟩ : ∃ b1 x1, pE d L 8 (a + 1) = (b1, x1) := ⟨_, _, rfl⟩
  rw [hp1] at hp
  cases x1 with
  | none => cases hp
  | some e1 =>
    dsimp only at hp
    obtain ⟨b2, x2, hp2⟩ : ∃ b2 x2, pB d L S b1 (base + e1.length + 1) = (b2, x2) := ⟨_, _, rfl⟩
    rw [hp2] at hp
    cases x2 with
    | none => cases hp
    | some e2 =>
      cases hp
      exact ⟨pE_ok _ _ _ _ hp1, pB_ok hS _ _ _ _ hp2⟩
theorem pS_ok {d : Nat → Int32} {L : Nat} : ∀ (f a base b : Nat) (e : IL), pS d L f a base = (b, some e) → okXs (base + e.length) e := by
  intro f
  induction f with
  | zero => intro a base b e h; cases h
  | succ f ih =>
    intro a base b e hp
    rw [pS] at hp
    by_cases hV : isV (ch d L a) = true
    · rw [if_pos hV] at hp
      by_cases h61 : ch d L (a + 1) = 61
      · rw [if_pos h61] at hp
        obtain ⟨b1, x1, hp1⟩ : ∃ b1 x1, pE d L 8 (a + 2) = (b1, x1) := ⟨_, _, rfl⟩
        rw [hp1] at hp
        cases x1 with
        | none => cases hp
        | some e1 =>
          dsimp only at hp
          by_cases h59 : ch d L b1 = 59
          · rw [if_pos h59] at hp
            cases hp
            obtain ⟨k, hk, ek⟩ := isV_k hV
            refine ((pE_ok _ _ _ _ hp1).mono (by omega)).app (okXs.one (Or.inr (Or.inl ⟨Or.inr rfl, k, hk, ?_⟩)))
            show ch d L a - 97 = nI k
            rw [ek, show (97 : Int32) = nI 97 from rfl, pk_sub (by omega)]
            congr 1
            omega
          · rw [if_neg h59] at hp; cases hp
      · rw [if_neg h61] at hp; cases hp
    · rw [if_neg hV] at hp
      by_cases h35 : ch d L a = 35
      · rw [if_pos h35] at hp
        obtain ⟨b1, x1, hp1⟩ : ∃ b1 x1, pE d L 8 (a + 1) = (b1, x1) := ⟨_, _, rfl⟩
        rw [hp1] at hp
        cases x1 with
        | none => cases hp
        | some e1 =>
          dsimp only at hp
          by_cases h59 : ch d L b1 = 59
          · rw [if_pos h59] at hp
            cases hp
            exact ((pE_ok _ _ _ _ hp1).mono (by omega)).app (okXs.one (Or.inr (Or.inr (Or.inr ⟨by simp, rfl⟩))))
          · rw [if_neg h59] at hp; cases hp
      · rw [if_neg h35] at hp
        by_cases h64 : ch d L a = 64
        · rw [if_pos h64] at hp
          obtain ⟨b1, x1, hp1⟩ : ∃ b1 x1, pG d L (pS d L f) a base = (b1, x1) := ⟨_, _, rfl⟩
          rw [hp1] at hp
          cases x1 with
          | none => cases hp
          | some y =>
            obtain ⟨e1, e2⟩ := y
            cases hp
            obtain ⟨o1, o2⟩ := pG_ok ih _ _ _ _ _ hp1
            simp only [List.length_append, List.length_cons, List.length_nil]
            exact ((o1.mono (by omega)).app (okXs.cons (Or.inr (Or.inr (Or.inl ⟨Or.inr rfl, _, by omega, rfl⟩))) (o2.mono (by omega)))).app (okXs.one (Or.inr (Or.inr (Or.inl ⟨Or.inl rfl, base, by omega, rfl⟩))))
        · rw [if_neg h64] at hp
          by_cases h63 : ch d L a = 63
          · rw [if_pos h63] at hp
            obtain ⟨b1, x1, hp1⟩ : ∃ b1 x1, pG d L (pS d L f) a base = (b1, x1) := ⟨_, _, rfl⟩
            rw [hp1] at hp
            cases x1 with
            | none => cases hp
            | some y =>
              obtain ⟨e1, e2⟩ := y
              dsimp only at hp
              obtain ⟨o1, o2⟩ := pG_ok ih _ _ _ _ _ hp1
              by_cases h58 : ch d L b1 = 58
              · rw [if_pos h58] at hp
                obtain ⟨b2, x2, hp2⟩ : ∃ b2 x2, pB d L (pS d L f) (b1 + 1) (base + e1.length + 1 + e2.length + 1) = (b2, x2) := ⟨_, _, rfl⟩
                rw [hp2] at hp
                cases x2 with
                | none => cases hp
                | some e3 =>
                  cases hp
                  have o3 := pB_ok ih _ _ _ _ hp2
                  simp only [List.length_append, List.length_cons]
                  exact ((o1.mono (by omega)).app (okXs.cons (Or.inr (Or.inr (Or.inl ⟨Or.inr rfl, _, by omega, rfl⟩))) (o2.mono (by omega)))).app (okXs.cons (Or.inr (Or.inr (Or.inl ⟨Or.inl rfl, _, by omega, rfl⟩))) (o3.mono (by omega)))
              · rw [if_neg h58] at hp
                cases hp
                simp only [List.length_append, List.length_cons]
                exact (o1.mono (by omega)).app (okXs.cons (Or.inr (Or.inr (Or.inl ⟨Or.inr rfl, _, by omega, rfl⟩))) (o2.mono (by omega)))
          · rw [if_neg h63] at hp; cases hp
/-- the reference's last copying -/
theorem ml_read139 {d : Nat → Int32} {letters wh : Int32} {nO nT td wi ho : Nat → Int32} {top hole att : Int32} {l : IL} (hl : l.length ≤ 30) (hM : ML l nO nT) (hok : okXs 30 l) : ∀ (F i : Nat) (op to : Nat → Int32), i ≤ l.length → l.length - i < F → (∀ j, j < i → l[j]? = some (op j, to j)) → ∃ op' to' : Nat → Int32, b_M_read_139 d letters F op to nO nT (nI l.length) wh td wi ho top hole att (nI l.length) (nI i) = some (nI l.length, op', to', nO, nT, nI l.length, wh, td, wi, ho, top, hole, att, nI l.length) ∧ ∀ j, j < l.length → l[j]? = some (op' j, to' j) := by
  intro F
  induction F with
  | zero => intro i op to h1 h2; omega
  | succ F ih =>
    intro i op to h1 h2 h3
    rw [b_M_read_139]
    by_cases h : i < l.length
    · have hx := hM i h
      have hmem : (nO i, nT i) ∈ l := List.mem_of_getElem? hx
      obtain ⟨k1, k2, k3⟩ := okX_okI (hok _ hmem)
      have k1 : okI (nO i) (nT i) := k1
      have k2 : g_M_isGood (nO i) (nT i) = some 1 := k2
      have k3 : sa (nO i) (nT i) = nT i := k3
      have e : g_M_change op to (nI l.length) (nI i) (nO i) (nT i) = some (1, upd op i (nO i), upd to i (nT i)) := by
        unfold g_M_change
        rw [z_bind (ml_inq (by omega) h), if_neg (show ¬ (1 : Int32) = 0 by decide), z_bind k2, if_neg (show ¬ (1 : Int32) = 0 by decide), if_pos (z_ck (by omega) (by omega)), z_cl (by omega)]
        obtain ⟨g, hg, hs⟩ := sa_has k1.1 (nT i)
        rw [z_bind hg]
        by_cases hg0 : g = 0
        · rw [if_pos hg0, if_pos (z_ck (by omega) (by omega))]
          rw [if_pos hg0] at hs
          rw [← k3, hs]
        · rw [if_neg hg0, if_pos (z_ck (by omega) (by omega))]
      rw [if_neg (nI_ge h (by omega)), if_pos (z_ck (by omega) (by omega)), if_pos (z_ck (by omega) (by omega)), z_cl (by omega), z_bind e, z_a1]
      refine ih (i + 1) _ _ (by omega) (by omega) (fun j hj => ?_)
      by_cases hji : j = i
      · subst hji
        show l[j]? = some (upd op j (nO j) j, upd to j (nT j) j)
        rw [pk_us, pk_us]; exact hx
      · show l[j]? = some (upd op i (nO i) j, upd to i (nT i) j)
        rw [pk_un hji, pk_un hji]; exact h3 j (by omega)
    · have : i = l.length := by omega
      subst this
      rw [if_pos (nI_le (Nat.le_refl _) (by omega))]
      exact ⟨op, to, rfl, h3⟩
/-- the class's become, over 31 places into 30 -/
theorem cl_lbecome {n : Nat} {o0 n0 h0 o1 n1 h1 : Nat → Int32} {s0 : Int32} (R0 R1 : Nat) (hn0 : n ≤ R0) (hn1 : n ≤ R1) (hR0 : R0 < 100) (hR1 : R1 < 100) : ∃ o' n' h' : Nat → Int32, g_Listing_become R0 R1 o0 n0 h0 s0 o1 n1 h1 (nI n) = some (o', n', h', nI n) ∧ (∀ j, j < n → o' j = o1 j) ∧ (∀ j, j < n → n' j = n1 j) ∧ ∀ j, j ≤ n → h' j = h1 j := by
  unfold g_Listing_become
  have e : (if nI R0 < nI n then nI R0 else nI n) = nI n := if_neg (nI_nlt hn0 (by omega))
  rw [e, z_a1]
  have hok : ∀ (f : Nat → Int32) (m A B : Nat), m ≤ A → m ≤ B → m < 1000 → cpok .int A B f 0 0 (nI m) = true := by
    intro f m A B hA hB hm
    unfold cpok
    simp only [Bool.and_eq_true, decide_eq_true_eq]
    refine ⟨by decide, by decide, nI_pos (by omega), ?_, ?_, fun i hi => rfl⟩
    · rw [z_cl0, z_cl (by omega)]; omega
    · rw [z_cl0, z_cl (by omega)]; omega
  rw [if_pos (hok _ _ _ _ hn1 hn0 (by omega)), if_pos (hok _ _ _ _ hn1 hn0 (by omega)), if_pos (hok _ _ _ _ (by omega) (by omega) (by omega))]
  have hc : ∀ (f g : Nat → Int32) (m j : Nat), m < 1000 → j < m → va_cpy f g (0 : Int32).toNatClampNeg (0 : Int32).toNatClampNeg (nI m).toNatClampNeg j = f j := by
    intro f g m j hm hj
    rw [z_cl0, z_cl (by omega), pk_cpy_in (by omega) (by omega)]
    congr 1
    omega
  exact ⟨_, _, _, rfl, fun j hj => hc _ _ _ _ (by omega) hj, fun j hj => hc _ _ _ _ (by omega) hj, fun j hj => hc _ _ _ _ (by omega) (by omega)⟩
set_option maxHeartbeats 4000000 in
theorem r_read {n L : Nat} {ops nums hts op to row draft mo mn mh nO nT td wi ho : Nat → Int32} {ms at0 tr top hole att made wh : Int32} (hC : RelC n ops nums hts op to) (hD : RelD 120 L row draft) (h0 : mh 0 = 0) :
    ∃ q q', g_S_read ops nums hts (nI n) row (nI L) mo mn mh ms at0 tr = some q ∧ g_M_read op to nO nT draft (nI n) (nI L) wh td wi ho top hole att made = some q' ∧ q.1 = q'.1 ∧ (∃ n' : Nat, q.2.2.2.2.1 = nI n' ∧ q'.2.2.2.2.2.1 = nI n' ∧ RelC n' q.2.1 q.2.2.1 q.2.2.2.1 q'.2.1 q'.2.2.1) ∧ q.2.2.2.2.2.2.2.2.2.2 = q'.2.2.2.2.2.2.1 ∧ q.2.2.2.2.2.2.2.1 0 = 0 := by
  have hL := hD.1
  have hch : ch row L = ch draft L := by
    funext a
    unfold ch
    by_cases h : a < L
    · rw [if_pos h, if_pos h, (hD.2 a h).1]
    · rw [if_neg h, if_neg h]
  have hd : okD draft L := fun i hi => by rw [(hD.2 i hi).1]; exact (hD.2 i hi).2
  have hpe : pL row L (pS row L 6) 121 = pL draft L (pS draft L 6) 121 := by rw [pS_ch hch, pL_ch hch]
  obtain ⟨ops', nums', hts', size', at', hz, hcl⟩ := cl_translate (row := row) (ops := mo) (nums := mn) (hts := mh) (size := ms) (at0 := at0) hL h0
  obtain ⟨b, x, hp, hb, hml⟩ := ml_read hL hd
  rw [hpe, hp] at hcl
  unfold g_S_read g_M_read
  have epush : g_M_push td wi 0 0 0 = some (upd td 0 0, upd wi 0 0, nI 1) := rfl
  rw [z_bind epush]
  dsimp only
  have hR0 : RS [(0, 0)] [] [] nO nT (upd td 0 0) (upd wi 0 0) ho := ⟨⟨pk_us, pk_us, trivial⟩, fun i hi => by simp at hi, trivial⟩
  -- the reference at FAULT
  have hfail : ∀ K : Nat, K ≤ 1000 → Fl draft L K [(0, 0)] [] [] 0 b → ∃ q', b_M_read_28 draft (nI L) 5000 op to nO nT (nI n) wh (upd td 0 0) (upd wi 0 0) ho (nI 1) 0 0 0 1 = some q' ∧ q'.1 = -6 ∧ q'.2.1 = op ∧ q'.2.2.1 = to ∧ q'.2.2.2.2.2.1 = nI n ∧ q'.2.2.2.2.2.2.1 = nI b := by
    intro K hK hF
    obtain ⟨ts', l', hs', g⟩ := hF
    obtain ⟨nO', nT', td', wi', ho', -, e⟩ := g op to nO nT (upd td 0 0) (upd wi 0 0) ho (nI n) wh hR0
    have e := e (5000 - K)
    rw [show 5000 - K + K = 5000 by omega] at e
    have e : b_M_read_28 draft (nI L) 5000 op to nO nT (nI n) wh (upd td 0 0) (upd wi 0 0) ho (nI 1) 0 0 0 1 = b_M_read_28 draft (nI L) (5000 - K) op to nO' nT' (nI n) wh td' wi' ho' (nI ts'.length) (nI hs'.length) (nI b) (nI l'.length) 0 := e
    rw [e]
    obtain ⟨m, hm⟩ : ∃ m, 5000 - K = m + 1 := ⟨5000 - K - 1, by omega⟩
    rw [hm, b_M_read_28]
    unfold b_M_read_93
    by_cases ht : nI ts'.length ≤ 0
    · rw [if_pos ht]; exact ⟨_, rfl, rfl, rfl, rfl, rfl, rfl⟩
    · rw [if_neg ht]; exact ⟨_, rfl, rfl, rfl, rfl, rfl, rfl⟩
  rcases hml with ⟨e, he, hLb, hel, K, hK, g⟩ | ⟨hbad, K, hK, hF⟩
  · have hbL : b = L := by omega
    subst hbL
    subst he
    obtain ⟨nO', nT', td', wi', ho', hRS, eg⟩ := g op to nO nT (upd td 0 0) (upd wi 0 0) ho (nI n) wh hR0
    have eg := eg (5000 - K)
    rw [show 5000 - K + K = 5000 by omega] at eg
    have eg : b_M_read_28 draft (nI b) 5000 op to nO nT (nI n) wh (upd td 0 0) (upd wi 0 0) ho (nI 1) 0 0 0 1 = b_M_read_28 draft (nI b) (5000 - K) op to nO' nT' (nI n) wh td' wi' ho' 0 0 (nI b) (nI e.length) 1 := eg
    rw [eg]
    obtain ⟨m, hm⟩ : ∃ m, 5000 - K = m + 1 := ⟨5000 - K - 1, by omega⟩
    rw [hm, b_M_read_28, if_pos (show (0 : Int32) ≤ 0 by decide), if_neg (show ¬ (1 : Int32) = 0 by decide)]
    rcases hcl with ⟨b2, hb2, k1, k2⟩ | ⟨e2, k1, k2, k3, k4⟩
    · rcases k2 with k2 | ⟨e3, k2, k3⟩
      · cases k2
      · cases k2
        have h30 : 30 < e.length := k3.resolve_left (fun h => h rfl)
        rw [if_pos (show (30 : Int32) < nI e.length from nI_lt (a := 30) h30 (by omega)), z_bind k1]
        dsimp only
        rw [if_neg (show ¬ nI b = -2 from z_ne (by rw [z_tI (by omega), zi_m2]; omega))]
        unfold b_M_read_93
        exact ⟨_, _, rfl, rfl, rfl, ⟨n, rfl, rfl, hC⟩, rfl, hz⟩
    · cases k1
      rw [if_neg (show ¬ (30 : Int32) < nI e.length from nI_nlt (a := 30) k2 (by omega)), z_bind k3]
      dsimp only
      rw [if_pos (show (-2 : Int32) = -2 from rfl)]
      have es : size' = nI e.length := by rw [k4.1]; congr 1; omega
      obtain ⟨o9, n9, h9, f1, f2, f3, f4⟩ := cl_lbecome (o0 := ops) (n0 := nums) (h0 := hts) (o1 := ops') (n1 := nums') (h1 := hts') (s0 := nI n) (n := e.length) 30 31 k2 (by omega) (by omega) (by omega)
      rw [es, z_bind f1]
      unfold b_M_read_93
      have hok : okXs 30 e := (pL_ok (pS_ok 6) 121 0 0 b e hp).mono (by omega)
      obtain ⟨op9, to9, g1, g2⟩ := ml_read139 (d := draft) (letters := nI b) (wh := -2) (td := td') (wi := wi') (ho := ho') (top := 0) (hole := 0) (att := nI b) k2 hRS.2.1 hok 5000 0 op to (by omega) (by omega) (fun j hj => by omega)
      have g1 : b_M_read_139 draft (nI b) 5000 op to nO' nT' (nI e.length) (-2) td' wi' ho' 0 0 (nI b) (nI e.length) 0 = some (nI e.length, op9, to9, nO', nT', nI e.length, -2, td', wi', ho', 0, 0, nI b, nI e.length) := g1
      rw [if_neg (show ¬ (1 : Int32) = 0 by decide), if_neg (show ¬ (1 : Int32) = 0 by decide), g1]
      have em : min e.length 31 = e.length := by omega
      have hcont := k4.2.2.2 (by omega)
      have hhts := k4.2.2.1
      rw [em] at hhts
      suffices key : RelC e.length o9 n9 h9 op9 to9 from ⟨_, _, rfl, rfl, rfl, ⟨e.length, rfl, rfl, key⟩, rfl, hz⟩
      refine ⟨k2, ⟨fun i hi => ?_, fun j hj => ?_⟩, fun i hi => ?_⟩
      · rw [f2 i hi, f3 i hi]
        exact (okX_okI (hok _ (List.mem_of_getElem? (hcont i hi)))).1
      · rw [f4 j hj, hhts j hj]
        exact (ht_eq j (fun i hi => f2 i (by omega))).symm
      · have w1 := hcont i hi
        rw [g2 i hi] at w1
        have w2 := Option.some.inj w1
        exact ⟨by rw [f2 i hi]; exact congrArg Prod.fst w2, by rw [f3 i hi]; exact congrArg Prod.snd w2⟩
  · obtain ⟨q', e1, e2, e3, e4, e5, e6⟩ := hfail K hK hF
    rcases hcl with ⟨b2, hb2, k1, k2⟩ | ⟨e2', k1, k2, k3, k4⟩
    · have hbb : b2 = b := by
        rcases k2 with k2 | ⟨e3, k2, k3⟩
        · exact (congrArg Prod.fst k2).symm
        · exact (congrArg Prod.fst k2).symm
      subst hbb
      rw [z_bind k1, e1]
      dsimp only
      rw [if_neg (show ¬ nI b2 = -2 from z_ne (by rw [z_tI (by omega), zi_m2]; omega))]
      refine ⟨_, _, rfl, rfl, e2.symm, ⟨n, rfl, e5, ?_⟩, e6.symm, hz⟩
      rw [e3, e4]
      exact hC
    · exfalso
      rcases hbad with h | h
      · rw [h] at k1; cases k1
      · exact h (by rw [show b = L from congrArg Prod.fst k1]; exact Nat.le_refl _)
