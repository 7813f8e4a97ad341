/-! the reference's STATEMENTS -/
section GoL
variable {d : Nat → Int32} {L a dp : Nat} {r l : IL} {hs : List Nat}
/-- a LIST's turn, by what g_M_list answers -/
theorem go_li {w v : Int32} {ts' : IL} {a' : Nat} (hr : r.length < 600) (h : ∀ td wi : Nat → Int32, TS r td wi → ∃ td' wi' : Nat → Int32, g_M_list d (nI L) td wi (nI r.length) (nI a) (nI l.length) w = some (v, td', wi', nI ts'.length, nI a') ∧ TS ts' td' wi') (hv : v = 0 ∨ v = 1) : Go d L 1 ((0, w) :: r) l hs a ts' l hs a' v := by
  refine Go.step hr (fun nO nT td wi ho hR => ?_)
  obtain ⟨td', wi', e1, e2⟩ := h td wi hR.1
  refine ⟨nO, nT, td', wi', ho, ?_, e2, hR.2⟩
  unfold g_M_goOn
  rw [if_pos (show (0 : Int32) = 0 from rfl), z_bind e1, if_pos hv]
theorem go_liEnd0 (hL : L ≤ 120) (ha : a < 1000) (hr : r.length < 600) (h : L ≤ a) : Go d L 1 ((0, nI 0) :: r) l hs a r l hs a 1 := by
  refine go_li hr (fun td wi hT => ⟨td, wi, ?_, hT⟩) (Or.inr rfl)
  unfold g_M_list
  rw [z_bind (ml_next hL ha), if_neg (show ¬ a < L by omega), if_neg (show ¬ (0 : Int32) ≤ -1 by decide), if_pos (show (nI 0 : Int32) = 0 from rfl)]
theorem go_liEndN (hL : L ≤ 120) (ha : a < 1000) (hr : r.length < 600) (h : L ≤ a) (hdp : 0 < dp) (hdp2 : dp < 100) : Fl d L 1 ((0, nI dp) :: r) l hs a a := by
  refine ⟨r, l, hs, go_li hr (fun td wi hT => ⟨td, wi, ?_, hT⟩) (Or.inl rfl)⟩
  unfold g_M_list
  rw [z_bind (ml_next hL ha), if_neg (show ¬ a < L by omega), if_neg (show ¬ (0 : Int32) ≤ -1 by decide), if_neg (nI_ne0 hdp (by omega))]
theorem go_liClose (hL : L ≤ 120) (hd : okD d L) (hr : r.length < 600) (h : ch d L a = 125) (hdp : 0 < dp) (hdp2 : dp < 100) : Go d L 1 ((0, nI dp) :: r) l hs a r l hs a 1 := by
  have hla := ch_lt h (by decide)
  obtain ⟨g1, g2⟩ := nx_ge hd hla
  refine go_li hr (fun td wi hT => ⟨td, wi, ?_, hT⟩) (Or.inr rfl)
  unfold g_M_list
  rw [z_bind (ml_next hL (by omega)), g2, if_pos g1, if_pos h, if_neg (nI_nle hdp (by omega))]
theorem ml_list31 {td wi : Nat → Int32} (hL : L ≤ 120) (hd : okD d L) (hla : a < L) (h : ch d L a = 125 → dp = 0) (hdp2 : dp < 100) : g_M_list d (nI L) td wi (nI r.length) (nI a) (nI l.length) (nI dp) = b_M_list_31 d (nI L) (nI l.length) td wi (nI r.length) (nI a) (nI dp) (ch d L a) := by
  obtain ⟨g1, g2⟩ := nx_ge hd hla
  unfold g_M_list
  rw [z_bind (ml_next hL (by omega)), g2, if_pos g1]
  by_cases h125 : ch d L a = 125
  · rw [if_pos h125, h h125, if_pos (show (nI 0 : Int32) ≤ 0 by decide)]
  · rw [if_neg h125]
theorem go_liDeep (hL : L ≤ 120) (hd : okD d L) (hla : a < L) (hr : r.length < 600) (h : ¬ ch d L a = 125) (hdp : 5 < dp) (hdp2 : dp < 100) : Fl d L 1 ((0, nI dp) :: r) l hs a a := by
  refine ⟨r, l, hs, go_li hr (fun td wi hT => ⟨td, wi, ?_, hT⟩) (Or.inl rfl)⟩
  rw [ml_list31 hL hd hla (fun e => absurd e h) hdp2]
  unfold b_M_list_31
  rw [if_pos (show (5 : Int32) < nI dp from nI_lt (a := 5) hdp (by omega))]
theorem go_liBad (hL : L ≤ 120) (hd : okD d L) (hla : a < L) (hr : r.length < 600) (h : ch d L a = 125 → dp = 0) (hdp : dp ≤ 5) (h1 : ¬ isV (ch d L a) = true) (h2 : ¬ ch d L a = 35) (h3 : ¬ ch d L a = 64) (h4 : ¬ ch d L a = 63) : Fl d L 1 ((0, nI dp) :: r) l hs a a := by
  refine ⟨r, l, hs, go_li hr (fun td wi hT => ⟨td, wi, ?_, hT⟩) (Or.inl rfl)⟩
  rw [ml_list31 hL hd hla h (by omega)]
  unfold b_M_list_31
  rw [if_neg (show ¬ (5 : Int32) < nI dp from nI_nlt (a := 5) hdp (by omega)), z_bind (ml_isLetter _), if_neg h1, if_pos (show (0 : Int32) = 0 from rfl), if_neg h2, if_neg h3, if_neg h4]
theorem go_liStore {k : Nat} (hL : L ≤ 120) (hd : okD d L) (hla : a < L) (hr : r.length + 6 < 600) (hdp : dp ≤ 5) (h1 : isV (ch d L a) = true) (hk : ch d L a = nI (97 + k)) (hk5 : k ≤ 5) : Go d L 1 ((0, nI dp) :: r) l hs a ((1, 61) :: (2, 0) :: (1, 59) :: (4, nI (2 + 16 * k)) :: (0, nI dp) :: r) l hs (a + 1) 1 := by
  have n125 : ¬ ch d L a = 125 := fun e => by rw [e] at h1; exact absurd h1 (by decide)
  have n35 : ¬ ch d L a = 35 := fun e => by rw [e] at h1; exact absurd h1 (by decide)
  refine go_li (by omega) (fun td wi hT => ⟨_, _, ?_, TS_push (TS_push (TS_push (TS_push (TS_push hT))))⟩) (Or.inr rfl)
  rw [ml_list31 hL hd hla (fun e => absurd e n125) (by omega)]
  unfold b_M_list_31
  rw [if_neg (show ¬ (5 : Int32) < nI dp from nI_nlt (a := 5) hdp (by omega)), z_bind (ml_isLetter _), if_pos h1, if_neg (show ¬ (1 : Int32) = 0 by decide)]
  unfold b_M_list_63
  rw [z_bind (ml_push (u := 0) (v := nI dp) (by omega)), z_bind (ml_isLetter _), if_pos h1, if_neg (show ¬ (1 : Int32) = 0 by decide), z_a1]
  unfold b_M_list_92
  rw [z_bind (ml_isLetter _), if_pos h1, if_neg (show ¬ (1 : Int32) = 0 by decide)]
  unfold b_M_list_115
  have ew : (2 : Int32) + 16 * (ch d L a - 97) = nI (2 + 16 * k) := by
    rw [hk, show (97 : Int32) = nI 97 from rfl, pk_sub (by omega), show (16 : Int32) = nI 16 from rfl, show (2 : Int32) = nI 2 from rfl, pk_mul, nI_add]
    congr 3
    omega
  rw [ew, z_bind (ml_push (u := 4) (v := nI (2 + 16 * k)) (by rw [List.length_cons]; omega)), z_bind (ml_push (u := 1) (v := 59) (by simp only [List.length_cons]; omega)), z_bind (ml_push (u := 2) (v := 0) (by simp only [List.length_cons]; omega)), if_neg n35, z_bind (ml_push (u := 1) (v := 61) (by simp only [List.length_cons]; omega))]
theorem go_liPrint (hL : L ≤ 120) (hd : okD d L) (hla : a < L) (hr : r.length + 6 < 600) (hdp : dp ≤ 5) (h1 : ¬ isV (ch d L a) = true) (h2 : ch d L a = 35) : Go d L 1 ((0, nI dp) :: r) l hs a ((2, 0) :: (1, 59) :: (4, nI 10) :: (0, nI dp) :: r) l hs (a + 1) 1 := by
  have n125 : ¬ ch d L a = 125 := fun e => by rw [e] at h2; exact absurd h2 (by decide)
  refine go_li (by omega) (fun td wi hT => ⟨_, _, ?_, TS_push (TS_push (TS_push (TS_push hT)))⟩) (Or.inr rfl)
  rw [ml_list31 hL hd hla (fun e => absurd e n125) (by omega)]
  unfold b_M_list_31
  rw [if_neg (show ¬ (5 : Int32) < nI dp from nI_nlt (a := 5) hdp (by omega)), z_bind (ml_isLetter _), if_neg h1, if_pos (show (0 : Int32) = 0 from rfl), if_pos h2]
  unfold b_M_list_63
  rw [z_bind (ml_push (u := 0) (v := nI dp) (by omega)), z_bind (ml_isLetter _), if_neg h1, if_pos (show (0 : Int32) = 0 from rfl), if_pos h2, z_a1]
  unfold b_M_list_92
  rw [z_bind (ml_isLetter _), if_neg h1, if_pos (show (0 : Int32) = 0 from rfl)]
  unfold b_M_list_115
  rw [show (10 : Int32) = nI 10 from rfl, z_bind (ml_push (u := 4) (v := nI 10) (by rw [List.length_cons]; omega)), z_bind (ml_push (u := 1) (v := 59) (by simp only [List.length_cons]; omega)), z_bind (ml_push (u := 2) (v := 0) (by simp only [List.length_cons]; omega)), if_pos h2]
theorem ml_list174 {td wi : Nat → Int32} {k1 k2 : Int32} (hr : r.length + 7 < 600) : b_M_list_174 d (nI L) (nI l.length) td wi (nI r.length) (nI (a + 1)) (nI dp) k1 k2 = some (1, upd (upd (upd (upd (upd (upd td r.length k1) (r.length + 1) 1) (r.length + 2) 0) (r.length + 3) 5) (r.length + 4) 1) (r.length + 5) 2, upd (upd (upd (upd (upd (upd wi r.length k2) (r.length + 1) 125) (r.length + 2) (nI (dp + 1))) (r.length + 3) 9) (r.length + 4) 123) (r.length + 5) 0, nI (r.length + 6), nI (a + 1)) := by
  unfold b_M_list_174
  rw [z_bind (ml_push (u := k1) (v := k2) (by omega)), z_bind (ml_push (u := 1) (v := 125) (by simp only [List.length_cons]; omega)), z_a1, z_bind (ml_push (u := 0) (v := nI (dp + 1)) (by simp only [List.length_cons]; omega)), z_bind (ml_push (u := 5) (v := 9) (by simp only [List.length_cons]; omega)), z_bind (ml_push (u := 1) (v := 123) (by simp only [List.length_cons]; omega)), z_bind (ml_push (u := 2) (v := 0) (by simp only [List.length_cons]; omega))]
  rfl
theorem go_liWhile (hL : L ≤ 120) (hd : okD d L) (hla : a < L) (hr : r.length + 8 < 600) (hdp : dp ≤ 5) (h1 : ¬ isV (ch d L a) = true) (h3 : ch d L a = 64) : Go d L 1 ((0, nI dp) :: r) l hs a ((2, 0) :: (1, 123) :: (5, 9) :: (0, nI (dp + 1)) :: (1, 125) :: (6, nI l.length) :: (0, nI dp) :: r) l hs (a + 1) 1 := by
  have n125 : ¬ ch d L a = 125 := fun e => by rw [e] at h3; exact absurd h3 (by decide)
  have n35 : ¬ ch d L a = 35 := fun e => by rw [e] at h3; exact absurd h3 (by decide)
  refine go_li (by omega) (fun td wi hT => ⟨_, _, ?_, TS_push (TS_push (TS_push (TS_push (TS_push (TS_push (TS_push hT))))))⟩) (Or.inr rfl)
  rw [ml_list31 hL hd hla (fun e => absurd e n125) (by omega)]
  unfold b_M_list_31
  rw [if_neg (show ¬ (5 : Int32) < nI dp from nI_nlt (a := 5) hdp (by omega)), z_bind (ml_isLetter _), if_neg h1, if_pos (show (0 : Int32) = 0 from rfl), if_neg n35, if_pos h3]
  unfold b_M_list_63
  rw [z_bind (ml_push (u := 0) (v := nI dp) (by omega)), z_bind (ml_isLetter _), if_neg h1, if_pos (show (0 : Int32) = 0 from rfl), if_neg n35, if_pos h3, if_pos h3, z_a1]
  dsimp only
  rw [ml_list174 (r := (0, nI dp) :: r) (by rw [List.length_cons]; omega)]
  rfl
theorem go_liIf (hL : L ≤ 120) (hd : okD d L) (hla : a < L) (hr : r.length + 8 < 600) (hdp : dp ≤ 5) (h1 : ¬ isV (ch d L a) = true) (h4 : ch d L a = 63) : Go d L 1 ((0, nI dp) :: r) l hs a ((2, 0) :: (1, 123) :: (5, 9) :: (0, nI (dp + 1)) :: (1, 125) :: (7, nI dp) :: (0, nI dp) :: r) l hs (a + 1) 1 := by
  have n125 : ¬ ch d L a = 125 := fun e => by rw [e] at h4; exact absurd h4 (by decide)
  have n35 : ¬ ch d L a = 35 := fun e => by rw [e] at h4; exact absurd h4 (by decide)
  have n64 : ¬ ch d L a = 64 := fun e => by rw [e] at h4; exact absurd h4 (by decide)
  refine go_li (by omega) (fun td wi hT => ⟨_, _, ?_, TS_push (TS_push (TS_push (TS_push (TS_push (TS_push (TS_push hT))))))⟩) (Or.inr rfl)
  rw [ml_list31 hL hd hla (fun e => absurd e n125) (by omega)]
  unfold b_M_list_31
  rw [if_neg (show ¬ (5 : Int32) < nI dp from nI_nlt (a := 5) hdp (by omega)), z_bind (ml_isLetter _), if_neg h1, if_pos (show (0 : Int32) = 0 from rfl), if_neg n35, if_neg n64, if_pos h4]
  unfold b_M_list_63
  rw [z_bind (ml_push (u := 0) (v := nI dp) (by omega)), z_bind (ml_isLetter _), if_neg h1, if_pos (show (0 : Int32) = 0 from rfl), if_neg n35, if_neg n64, if_neg n64, z_a1]
  dsimp only
  rw [ml_list174 (r := (0, nI dp) :: r) (by rw [List.length_cons]; omega)]
  rfl
end GoL
/-- a STATEMENT of the reference, in 6 - f others -/
def MSt (d : Nat → Int32) (L f : Nat) : Prop := ∀ (a base b : Nat) (x : Option IL), a < L → (ch d L a = 125 → f = 6 ∧ False) → pS d L f a base = (b, x) → b ≤ L ∧ ∃ K : Nat, K ≤ 8 * (b - a) + 8 ∧
    (∀ e : IL, x = some e → K ≤ 8 * (b - a) ∧ ∀ (r l : IL) (hs : List Nat), l.length = base → base ≤ a → r.length + 8 * f + 40 ≤ 600 → hs.length + f ≤ 30 → Go d L K ((0, nI (6 - f)) :: r) l hs a ((0, nI (6 - f)) :: r) (l ++ e) hs b 1) ∧
    (x = none → ∀ (r l : IL) (hs : List Nat), l.length = base → base ≤ a → r.length + 8 * f + 40 ≤ 600 → hs.length + f ≤ 30 → Fl d L K ((0, nI (6 - f)) :: r) l hs a b)
def MLi (d : Nat → Int32) (L f : Nat) : Prop := ∀ (k a base b : Nat) (x : Option IL), 121 ≤ k + a → a ≤ L → pL d L (pS d L f) k a base = (b, x) → b ≤ L ∧ ∃ K : Nat, K ≤ 8 * (b - a) + 8 ∧
    (∀ e : IL, x = some e → K ≤ 8 * (b - a) ∧ (L ≤ b ∨ ch d L b = 125) ∧ ∀ (r l : IL) (hs : List Nat), l.length = base → base ≤ a → r.length + 8 * f + 40 ≤ 600 → hs.length + f ≤ 30 → Go d L K ((0, nI (6 - f)) :: r) l hs a ((0, nI (6 - f)) :: r) (l ++ e) hs b 1) ∧
    (x = none → ∀ (r l : IL) (hs : List Nat), l.length = base → base ≤ a → r.length + 8 * f + 40 ≤ 600 → hs.length + f ≤ 30 → Fl d L K ((0, nI (6 - f)) :: r) l hs a b)
theorem ml_Li {d : Nat → Int32} {L f : Nat} (hL : L ≤ 120) (hS : MSt d L f) : MLi d L f := by
  intro k
  induction k with
  | zero => intro a base b x h1 h2; omega
  | succ k ih =>
    intro a base b x h1 h2 hp
    rw [pL] at hp
    by_cases h0 : L ≤ a ∨ ch d L a = 125
    · rw [if_pos h0] at hp
      cases hp
      exact ⟨h2, 0, by omega, fun e he => by cases he; exact ⟨by omega, h0, fun r l hs hl hb hr hh => by rw [List.append_nil]; exact Go.zero⟩, fun he => by cases he⟩
    · rw [if_neg h0] at hp
      obtain ⟨b1, x1, hp1⟩ : ∃ b1 x1, pS d L f a base = (b1, x1) := ⟨_, _, rfl⟩
      obtain ⟨hb1, K1, hK1, hs1, hn1⟩ := hS a base b1 x1 (by omega) (fun e => absurd (Or.inr e) h0) hp1
      have had := pS_adv (d := d) (L := L) f a base
      rw [hp1] at hp had
      have had1 : a ≤ b1 := had.1
      cases x1 with
      | none =>
        cases hp
        exact ⟨hb1, K1, hK1, fun e he => (by cases he), fun _ => hn1 rfl⟩
      | some e1 =>
        have had2 : a < b1 ∧ e1.length ≤ b1 - a := had.2 e1 rfl
        obtain ⟨hK2, hs1⟩ := hs1 e1 rfl
        dsimp only at hp
        obtain ⟨b2, x2, hp2⟩ : ∃ b2 x2, pL d L (pS d L f) k b1 (base + e1.length) = (b2, x2) := ⟨_, _, rfl⟩
        obtain ⟨hb2, K2, hK3, hs2, hn2⟩ := ih b1 (base + e1.length) b2 x2 (by omega) hb1 hp2
        have had3 := pL_adv (d := d) (L := L) (pS_adv (d := d) (L := L) f) k b1 (base + e1.length)
        rw [hp2] at hp had3
        have had4 : b1 ≤ b2 := had3.1
        cases x2 with
        | none =>
          cases hp
          exact ⟨hb2, K2 + K1, by omega, fun e he => (by cases he), fun _ r l hs hl hb hr hh => (hs1 r l hs hl hb hr hh).fl (hn2 rfl r (l ++ e1) hs (by rw [List.length_append, hl]) (by omega) hr hh)⟩
        | some e2 =>
          cases hp
          obtain ⟨hK4, hend, hs2⟩ := hs2 e2 rfl
          refine ⟨hb2, K2 + K1, by omega, fun e he => ?_, fun he => by cases he⟩
          cases he
          refine ⟨by omega, hend, fun r l hs hl hb hr hh => ?_⟩
          have g := (hs1 r l hs hl hb hr hh).then (hs2 r (l ++ e1) hs (by rw [List.length_append, hl]) (by omega) hr hh)
          rw [List.append_assoc] at g
          exact g
/-- the rest of a block, behind its { -/
theorem ml_blk {d : Nat → Int32} {L f : Nat} (hL : L ≤ 120) (hd : okD d L) (hf : f ≤ 5) (hM : MLi d L f) (a base b : Nat) (x : Option IL) (ha : a ≤ L) (hp : pL d L (pS d L f) 121 a base = (b, x)) : b ≤ L ∧ a ≤ b ∧ ∃ K : Nat, K ≤ 8 * (b - a) + 10 ∧
    (∀ e : IL, x = some e → ch d L b = 125 → K ≤ 8 * (b - a) + 2 ∧ ∀ (r l : IL) (hs : List Nat), l.length = base → base ≤ a → r.length + 8 * f + 44 ≤ 600 → hs.length + f ≤ 30 → Go d L K ((0, nI (6 - f)) :: (1, 125) :: r) l hs a r (l ++ e) hs (b + 1) 1) ∧
    ((x = none ∨ ¬ ch d L b = 125) → ∀ (r l : IL) (hs : List Nat), l.length = base → base ≤ a → r.length + 8 * f + 44 ≤ 600 → hs.length + f ≤ 30 → Fl d L K ((0, nI (6 - f)) :: (1, 125) :: r) l hs a b) := by
  obtain ⟨hb, K, hK, hs, hn⟩ := hM 121 a base b x (by omega) ha hp
  have had := pL_adv (d := d) (L := L) (pS_adv (d := d) (L := L) f) 121 a base
  rw [hp] at had
  have had1 : a ≤ b := had.1
  refine ⟨hb, had1, ?_⟩
  cases x with
  | none => exact ⟨K, by omega, fun e he => (by cases he), fun _ r l hs hl hb hr hh => hn rfl ((1, 125) :: r) l hs hl hb (by rw [List.length_cons]; omega) hh⟩
  | some e1 =>
    obtain ⟨hK2, hend, hs⟩ := hs e1 rfl
    by_cases h125 : ch d L b = 125
    · refine ⟨1 + (1 + K), by omega, fun e he _ => ?_, fun he => ?_⟩
      · cases he
        refine ⟨by omega, fun r l hs2 hl hb2 hr hh => ?_⟩
        have g := (hs ((1, 125) :: r) l hs2 hl hb2 (by rw [List.length_cons]; omega) hh).then (go_liClose hL hd (by rw [List.length_cons]; omega) h125 (by omega) (by omega))
        exact g.then (go_sign hL (by decide) (by omega) (by omega) h125)
      · rcases he with he | he
        · cases he
        · exact absurd h125 he
    · refine ⟨1 + K, by omega, fun e he h => absurd h h125, fun _ r l hs2 hl hb2 hr hh => ?_⟩
      exact (hs ((1, 125) :: r) l hs2 hl hb2 (by rw [List.length_cons]; omega) hh).fl (go_liEndN hL (by omega) (by rw [List.length_cons]; omega) (hend.resolve_right h125) (by omega) (by omega))
