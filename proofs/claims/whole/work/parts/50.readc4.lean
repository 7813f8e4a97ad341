/-! the class's STATEMENTS -/
theorem MR_congr {l l' : IL} {ops nums hts : Nat → Int32} {size : Int32} (h : MR l ops nums hts size) (hl : l'.length = l.length) (he : l.length ≤ 31 → l' = l) : MR l' ops nums hts size := by
  by_cases h31 : l.length ≤ 31
  · rw [he h31]; exact h
  · exact ⟨by rw [hl]; exact h.1, by rw [hl]; exact h.2.1, by rw [hl]; exact h.2.2.1, fun hc => by omega⟩
theorem cl_E8 {L : Nat} {row : Nat → Int32} (hL : L ≤ 120) {a : Nat} {l : IL} {ops nums hts : Nat → Int32} {size : Int32} (ha : a ≤ L) (hM : MR l ops nums hts size) : EO L l (pE row L 8 a) (g_Draft_takeExpression 100 row (nI L) ops nums hts size (nI a) 0) :=
  cl_E hL 8 (Nat.le_refl _) 100 (by omega) a l ops nums hts size ha hM
theorem cl_takeStore {L a : Nat} {row : Nat → Int32} {l : IL} {ops nums hts : Nat → Int32} {size v : Int32} (hL : L ≤ 120) (ha : a < L) (hM : MR l ops nums hts size) :
    EO L l (if ch row L (a + 1) = 61 then (match pE row L 8 (a + 2) with | (b, none) => (b, none) | (b, some e) => if ch row L b = 59 then (b + 1, some (e ++ [(2, v)])) else (b, none)) else (a + 1, none)) (g_Draft_takeStore row (nI L) ops nums hts size (nI a) v) := by
  unfold g_Draft_takeStore
  rw [z_a1, z_bind (cl_take hL (by omega))]
  by_cases h61 : ch row L (a + 1) = 61
  · have hlt := ch_lt h61 (by decide)
    rw [if_pos h61, if_pos h61]
    dsimp only
    rw [if_neg (show ¬ (1 : Int32) = 0 by decide)]
    obtain ⟨o1, n1, h1, s1, hb, ⟨r1, r2, r3⟩ | ⟨e, r1, r2, r3⟩⟩ := cl_E8 hL (a := a + 2) (row := row) (by omega) hM
    · rw [show pE row L 8 (a + 2) = ((pE row L 8 (a + 2)).1, none) from Prod.ext rfl r1, z_bind r2]
      exact EO.fail hb r3
    · rw [show pE row L 8 (a + 2) = ((pE row L 8 (a + 2)).1, some e) from Prod.ext rfl r1, z_bind r2]
      generalize (pE row L 8 (a + 2)).1 = b at hb
      dsimp only
      rw [if_neg (show ¬ (1 : Int32) = 0 by decide), z_bind (cl_take hL (by omega))]
      by_cases h59 : ch row L b = 59
      · have hlt2 := ch_lt h59 (by decide)
        rw [if_pos h59, if_pos h59]
        dsimp only
        obtain ⟨r, o', n', h', s', g1, g2⟩ := MR_add (o := 2) (a := v) r3 (by unfold okO; decide)
        rw [List.append_assoc] at g2
        rw [if_neg (show ¬ (1 : Int32) = 0 by decide), z_bind g1]
        exact EO.good (by omega) g2
      · rw [if_neg h59, if_neg h59]
        exact EO.fail hb r3.h0
  · rw [if_neg h61, if_neg h61]
    exact EO.fail (by omega) hM.h0
theorem cl_takePrint {L a : Nat} {row : Nat → Int32} {l : IL} {ops nums hts : Nat → Int32} {size : Int32} (hL : L ≤ 120) (ha : a < L) (hM : MR l ops nums hts size) :
    EO L l (match pE row L 8 (a + 1) with | (b, none) => (b, none) | (b, some e) => if ch row L b = 59 then (b + 1, some (e ++ [(10, 0)])) else (b, none)) (g_Draft_takePrint row (nI L) ops nums hts size (nI a)) := by
  unfold g_Draft_takePrint
  rw [z_a1]
  obtain ⟨o1, n1, h1, s1, hb, ⟨r1, r2, r3⟩ | ⟨e, r1, r2, r3⟩⟩ := cl_E8 hL (a := a + 1) (row := row) (by omega) hM
  · rw [show pE row L 8 (a + 1) = ((pE row L 8 (a + 1)).1, none) from Prod.ext rfl r1, z_bind r2]
    exact EO.fail hb r3
  · rw [show pE row L 8 (a + 1) = ((pE row L 8 (a + 1)).1, some e) from Prod.ext rfl r1, z_bind r2]
    generalize (pE row L 8 (a + 1)).1 = b at hb
    dsimp only
    rw [if_neg (show ¬ (1 : Int32) = 0 by decide), z_bind (cl_take hL (by omega))]
    by_cases h59 : ch row L b = 59
    · have hlt2 := ch_lt h59 (by decide)
      rw [if_pos h59, if_pos h59]
      dsimp only
      obtain ⟨r, o', n', h', s', g1, g2⟩ := MR_add (o := 10) (a := 0) r3 (by unfold okO; decide)
      rw [List.append_assoc] at g2
      rw [if_neg (show ¬ (1 : Int32) = 0 by decide), z_bind g1]
      exact EO.good (by omega) g2
    · rw [if_neg h59, if_neg h59]
      exact EO.fail hb r3.h0
/-- a function of the class that answers as a STATEMENT, for every list before it -/
def SO (L : Nat) (S : Nat → Nat → Nat × Option IL) (g : (Nat → Int32) → (Nat → Int32) → (Nat → Int32) → Int32 → Int32 → Option (Int32 × (Nat → Int32) × (Nat → Int32) × (Nat → Int32) × Int32 × Int32)) : Prop := ∀ (a : Nat) (l : IL) (ops nums hts : Nat → Int32) (size : Int32), a ≤ L → MR l ops nums hts size → EO L l (S a l.length) (g ops nums hts size (nI a))
theorem cl_L {L : Nat} {row : Nat → Int32} {S : Nat → Nat → Nat × Option IL} {fS : (Nat → Int32) → Int32 → (Nat → Int32) → (Nat → Int32) → (Nat → Int32) → Int32 → Int32 → Int32 → Option (Int32 × (Nat → Int32) × (Nat → Int32) × (Nat → Int32) × Int32 × Int32)} {dp : Int32} (hL : L ≤ 120) (hA : ∀ a base, Adv a (S a base)) (hS : SO L S (fun ops nums hts size a => fS row (nI L) ops nums hts size a dp)) :
    ∀ (k a v F : Nat) (l : IL) (ops nums hts : Nat → Int32) (size : Int32), 121 ≤ k + a → a ≤ L → v ≤ a → 121 ≤ a + F → MR l ops nums hts size → EO L l (pL row L S k a l.length) (b_Draft_takeStatements_2 fS row (nI L) F ops nums hts size (nI a) dp (nI v)) := by
  intro k
  induction k with
  | zero => intro a v F l ops nums hts size h1 h2; omega
  | succ k ih =>
    intro a v F l ops nums hts size h1 h2 h3 h4 hM
    obtain ⟨F, rfl⟩ : ∃ F', F = F' + 1 := ⟨F - 1, by omega⟩
    rw [pL, b_Draft_takeStatements_2]
    have stop : EO L l (a, some []) (some (1, ops, nums, hts, size, nI a)) := EO.good h2 (by rw [List.append_nil]; exact hM)
    by_cases h0 : L ≤ a ∨ ch row L a = 125
    · rw [if_pos h0]
      by_cases h120 : (120 : Int32) ≤ nI v
      · rw [if_pos h120]; exact stop
      · rw [if_neg h120, z_bind (cl_Chars_size _)]
        by_cases hla : L ≤ a
        · rw [if_pos (nI_le hla (by omega))]; exact stop
        · rw [if_neg (nI_ge (by omega) (by omega)), z_bind (cl_ch hL (by omega)), if_pos (h0.resolve_left hla)]; exact stop
    · rw [if_neg h0]
      have hla : a < L := by omega
      have h125 : ¬ ch row L a = 125 := fun e => h0 (Or.inr e)
      rw [if_neg (show ¬ (120 : Int32) ≤ nI v from nI_ge (b := 120) (by omega) (by omega)), z_bind (cl_Chars_size _), if_neg (nI_ge hla (by omega)), z_bind (cl_ch hL (by omega)), if_neg h125]
      have hA1 := hA a l.length
      obtain ⟨o1, n1, s1h, s1, hb, ⟨r1, r2, r3⟩ | ⟨e, r1, r2, r3⟩⟩ := hS a l ops nums hts size h2 hM
      · rw [show S a l.length = ((S a l.length).1, none) from Prod.ext rfl r1, z_bind r2]
        exact EO.fail hb r3
      · have hadv := (hA1.2 e r1).1
        rw [show S a l.length = ((S a l.length).1, some e) from Prod.ext rfl r1, z_bind r2]
        generalize (S a l.length).1 = b at hb hadv
        dsimp only
        rw [if_neg (show ¬ (1 : Int32) = 0 by decide), z_a1]
        have hn := ih b (v + 1) F (l ++ e) o1 n1 s1h s1 (by omega) hb (by omega) (by omega) r3
        rw [List.length_append] at hn
        obtain ⟨o2, n2, s2h, s2, hb2, ⟨t1, t2, t3⟩ | ⟨e2, t1, t2, t3⟩⟩ := hn
        · rw [show pL row L S k b (l.length + e.length) = ((pL row L S k b (l.length + e.length)).1, none) from Prod.ext rfl t1, t2]
          exact EO.fail hb2 t3
        · rw [show pL row L S k b (l.length + e.length) = ((pL row L S k b (l.length + e.length)).1, some e2) from Prod.ext rfl t1, t2]
          rw [List.append_assoc] at t3
          exact EO.good hb2 t3
/-- takeBlock, by what takeStatements is -/
theorem cl_B {L a : Nat} {row : Nat → Int32} {S : Nat → Nat → Nat × Option IL} {fL : (Nat → Int32) → Int32 → (Nat → Int32) → (Nat → Int32) → (Nat → Int32) → Int32 → Int32 → Int32 → Option (Int32 × (Nat → Int32) × (Nat → Int32) × (Nat → Int32) × Int32 × Int32)} {dp : Int32} {l : IL} {ops nums hts : Nat → Int32} {size : Int32} (hL : L ≤ 120) (hF : SO L (pL row L S 121) (fun ops nums hts size a => fL row (nI L) ops nums hts size a (dp + 1))) (ha : a ≤ L) (hM : MR l ops nums hts size) :
    EO L l (pB row L S a l.length) (gb_Draft_takeBlock fL row (nI L) ops nums hts size (nI a) dp) := by
  unfold pB gb_Draft_takeBlock
  rw [z_bind (cl_take hL (by omega))]
  by_cases h123 : ch row L a = 123
  · have hlt := ch_lt h123 (by decide)
    rw [if_pos h123, if_pos h123]
    dsimp only
    rw [if_neg (show ¬ (1 : Int32) = 0 by decide)]
    obtain ⟨o1, n1, h1, s1, hb, ⟨r1, r2, r3⟩ | ⟨e, r1, r2, r3⟩⟩ := hF (a + 1) l ops nums hts size (by omega) hM
    · rw [show pL row L S 121 (a + 1) l.length = ((pL row L S 121 (a + 1) l.length).1, none) from Prod.ext rfl r1, z_bind r2]
      exact EO.fail hb r3
    · rw [show pL row L S 121 (a + 1) l.length = ((pL row L S 121 (a + 1) l.length).1, some e) from Prod.ext rfl r1, z_bind r2]
      generalize (pL row L S 121 (a + 1) l.length).1 = b at hb
      dsimp only
      rw [if_neg (show ¬ (1 : Int32) = 0 by decide), z_bind (cl_take hL (by omega))]
      by_cases h125 : ch row L b = 125
      · have hlt2 := ch_lt h125 (by decide)
        rw [if_pos h125, if_pos h125]
        exact EO.good (by omega) r3
      · rw [if_neg h125, if_neg h125]
        exact EO.fail hb r3.h0
  · rw [if_neg h123, if_neg h123]
    exact EO.fail ha hM.h0
/-- takeGuarded: the PLACE of the UNLESS between, or -1 -/
def GO (L : Nat) (l : IL) (r : Nat × Option (IL × IL)) (g : Option (Int32 × (Nat → Int32) × (Nat → Int32) × (Nat → Int32) × Int32 × Int32)) : Prop :=
  ∃ (ops nums hts : Nat → Int32) (size : Int32), r.1 ≤ L ∧ ((r.2 = none ∧ g = some (-1, ops, nums, hts, size, nI r.1) ∧ hts 0 = 0) ∨ ∃ e e2 : IL, r.2 = some (e, e2) ∧ g = some (nI (min (l.length + e.length) 31), ops, nums, hts, size, nI r.1) ∧ MR (l ++ e ++ (9, 0) :: e2) ops nums hts size)
theorem cl_G {L a : Nat} {row : Nat → Int32} {S : Nat → Nat → Nat × Option IL} {fB : (Nat → Int32) → Int32 → (Nat → Int32) → (Nat → Int32) → (Nat → Int32) → Int32 → Int32 → Int32 → Option (Int32 × (Nat → Int32) × (Nat → Int32) × (Nat → Int32) × Int32 × Int32)} {dp : Int32} {l : IL} {ops nums hts : Nat → Int32} {size : Int32} (hL : L ≤ 120) (hF : SO L (pB row L S) (fun ops nums hts size a => fB row (nI L) ops nums hts size a dp)) (ha : a < L) (hM : MR l ops nums hts size) :
    GO L l (pG row L S a l.length) (gb_Draft_takeGuarded fB row (nI L) ops nums hts size (nI a) dp) := by
  unfold pG gb_Draft_takeGuarded
  rw [z_a1]
  obtain ⟨o1, n1, h1, s1, hb, ⟨r1, r2, r3⟩ | ⟨e, r1, r2, r3⟩⟩ := cl_E8 hL (a := a + 1) (row := row) (by omega) hM
  · rw [show pE row L 8 (a + 1) = ((pE row L 8 (a + 1)).1, none) from Prod.ext rfl r1, z_bind r2]
    exact ⟨o1, n1, h1, s1, hb, Or.inl ⟨rfl, rfl, r3⟩⟩
  · rw [show pE row L 8 (a + 1) = ((pE row L 8 (a + 1)).1, some e) from Prod.ext rfl r1, z_bind r2]
    generalize (pE row L 8 (a + 1)).1 = b at hb
    dsimp only
    rw [if_neg (show ¬ (1 : Int32) = 0 by decide), z_bind (cl_size _)]
    obtain ⟨r, o', n', h', s', g1, g2⟩ := MR_add (o := 9) (a := 0) r3 (by unfold okO; decide)
    rw [z_bind g1]
    have hn := hF b (l ++ e ++ [(9, 0)]) o' n' h' s' hb g2
    rw [List.length_append, List.length_append, List.length_singleton] at hn
    obtain ⟨o2, n2, s2h, s2, hb2, ⟨t1, t2, t3⟩ | ⟨e2, t1, t2, t3⟩⟩ := hn
    · rw [show pB row L S b (l.length + e.length + 1) = ((pB row L S b (l.length + e.length + 1)).1, none) from Prod.ext rfl t1, z_bind t2]
      exact ⟨o2, n2, s2h, s2, hb2, Or.inl ⟨rfl, rfl, t3⟩⟩
    · rw [show pB row L S b (l.length + e.length + 1) = ((pB row L S b (l.length + e.length + 1)).1, some e2) from Prod.ext rfl t1, z_bind t2]
      refine ⟨o2, n2, s2h, s2, hb2, Or.inr ⟨e, e2, rfl, ?_, ?_⟩⟩
      · dsimp only
        rw [if_neg (show ¬ (1 : Int32) = 0 by decide), r3.1, List.length_append]
      · rw [List.append_assoc] at t3
        exact t3
