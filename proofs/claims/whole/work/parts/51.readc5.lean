theorem set_mid : ∀ (A B : IL) (x y : Int32 × Int32), (A ++ x :: B).set A.length y = A ++ y :: B
  | [], B, x, y => rfl
  | a :: A, B, x, y => by
    show a :: ((A ++ x :: B).set A.length y) = a :: (A ++ y :: B)
    rw [set_mid A B x y]
theorem set_mid' {A B : IL} {x y : Int32 × Int32} {k : Nat} (h : k = A.length) : (A ++ x :: B).set k y = A ++ y :: B := by subst h; exact set_mid A B x y
theorem nI_nm1 {k : Nat} (h : k < 1000) : ¬ nI k = -1 := z_ne (by rw [z_tI (by omega), zi_m1]; omega)
theorem cl_W {L a : Nat} {row : Nat → Int32} {S : Nat → Nat → Nat × Option IL} {fG : (Nat → Int32) → Int32 → (Nat → Int32) → (Nat → Int32) → (Nat → Int32) → Int32 → Int32 → Int32 → Option (Int32 × (Nat → Int32) × (Nat → Int32) × (Nat → Int32) × Int32 × Int32)} {dp : Int32} {l : IL} {ops nums hts : Nat → Int32} {size : Int32} (hG : GO L l (pG row L S a l.length) (fG row (nI L) ops nums hts size (nI a) dp)) (hM : MR l ops nums hts size) :
    EO L l (match pG row L S a l.length with | (b, none) => (b, none) | (b, some (e, e2)) => (b, some (e ++ (9, nI (l.length + e.length + 1 + e2.length + 1)) :: e2 ++ [(8, nI l.length)]))) (gb_Draft_takeWhile fG row (nI L) ops nums hts size (nI a) dp) := by
  unfold gb_Draft_takeWhile
  rw [z_bind (cl_size _)]
  obtain ⟨o1, n1, h1, s1, hb, ⟨r1, r2, r3⟩ | ⟨e, e2, r1, r2, r3⟩⟩ := hG
  · rw [show pG row L S a l.length = ((pG row L S a l.length).1, none) from Prod.ext rfl r1, z_bind r2]
    exact EO.fail hb r3
  · rw [show pG row L S a l.length = ((pG row L S a l.length).1, some (e, e2)) from Prod.ext rfl r1, z_bind r2]
    generalize (pG row L S a l.length).1 = b at hb
    dsimp only
    rw [if_neg (nI_nm1 (by omega)), hM.1]
    obtain ⟨r, o', n', h', s', g1, g2⟩ := MR_add (o := 8) (a := nI (min l.length 31)) r3 (by unfold okO; decide)
    rw [z_bind g1, z_bind (cl_size _)]
    have g3 : MR ((l ++ e) ++ (9, 0) :: (e2 ++ [(8, nI l.length)])) o' n' h' s' := MR_congr g2 (by simp only [List.length_append, List.length_cons, List.length_nil]; omega) (fun hl => by
      simp only [List.length_append, List.length_cons, List.length_nil] at hl
      have : min l.length 31 = l.length := by omega
      rw [this]
      simp [sa])
    obtain ⟨o2, n2, h2, t1, t2⟩ := MR_set (k := l.length + e.length) g3 (by simp only [List.length_append, List.length_cons]; omega) (Or.inr rfl)
    dsimp only
    rw [z_bind t1]
    rw [show l.length + e.length = (l ++ e).length by rw [List.length_append], set_mid] at t2
    have el : ((l ++ e) ++ (9, (0 : Int32)) :: (e2 ++ [((8 : Int32), nI l.length)])).length = l.length + e.length + 1 + e2.length + 1 := by
      simp only [List.length_append, List.length_cons, List.length_nil]; omega
    rw [el] at t2
    refine EO.good hb ?_
    simpa using t2
theorem cl_I {L a : Nat} {row : Nat → Int32} {S : Nat → Nat → Nat × Option IL} {fB fG : (Nat → Int32) → Int32 → (Nat → Int32) → (Nat → Int32) → (Nat → Int32) → Int32 → Int32 → Int32 → Option (Int32 × (Nat → Int32) × (Nat → Int32) × (Nat → Int32) × Int32 × Int32)} {dp : Int32} {l : IL} {ops nums hts : Nat → Int32} {size : Int32} (hL : L ≤ 120) (hG : GO L l (pG row L S a l.length) (fG row (nI L) ops nums hts size (nI a) dp)) (hF : SO L (pB row L S) (fun ops nums hts size a => fB row (nI L) ops nums hts size a dp)) :
    EO L l (match pG row L S a l.length with
      | (b, none) => (b, none)
      | (b, some (e, e2)) => if ch row L b = 58 then
          (match pB row L S (b + 1) (l.length + e.length + 1 + e2.length + 1) with
          | (c, none) => (c, none)
          | (c, some e3) => (c, some (e ++ (9, nI (l.length + e.length + 1 + e2.length + 1)) :: e2 ++ (8, nI (l.length + e.length + 1 + e2.length + 1 + e3.length)) :: e3)))
        else (b, some (e ++ (9, nI (l.length + e.length + 1 + e2.length)) :: e2))) (gb_Draft_takeIf fB fG row (nI L) ops nums hts size (nI a) dp) := by
  unfold gb_Draft_takeIf
  obtain ⟨o1, n1, h1, s1, hb, ⟨r1, r2, r3⟩ | ⟨e, e2, r1, r2, r3⟩⟩ := hG
  · rw [show pG row L S a l.length = ((pG row L S a l.length).1, none) from Prod.ext rfl r1, z_bind r2]
    exact EO.fail hb r3
  · rw [show pG row L S a l.length = ((pG row L S a l.length).1, some (e, e2)) from Prod.ext rfl r1, z_bind r2]
    generalize (pG row L S a l.length).1 = b at hb
    dsimp only
    rw [if_neg (nI_nm1 (by omega)), z_bind (cl_take hL (by omega))]
    by_cases h58 : ch row L b = 58
    · have hlt := ch_lt h58 (by decide)
      rw [if_pos h58, if_pos h58]
      dsimp only
      rw [if_neg (show ¬ (1 : Int32) = 0 by decide), z_bind (cl_size _)]
      obtain ⟨r, o', n', h', s', g1, g2⟩ := MR_add (o := 8) (a := 0) r3 (by unfold okO; decide)
      rw [z_bind g1, z_bind (cl_size _)]
      have g3 : MR ((l ++ e) ++ (9, 0) :: (e2 ++ [(8, 0)])) o' n' h' s' := by simpa [sa] using g2
      obtain ⟨o2, n2, h2, t1, t2⟩ := MR_set (k := l.length + e.length) g3 (by simp only [List.length_append, List.length_cons]; omega) (Or.inr rfl)
      rw [z_bind t1]
      rw [show l.length + e.length = (l ++ e).length by rw [List.length_append], set_mid] at t2
      have el : ((l ++ e) ++ (9, (0 : Int32)) :: (e2 ++ [((8 : Int32), (0 : Int32))])).length = l.length + e.length + 1 + e2.length + 1 := by
        simp only [List.length_append, List.length_cons, List.length_nil]; omega
      rw [el] at t2
      have el2 : ((l ++ e) ++ (9, nI (l.length + e.length + 1 + e2.length + 1)) :: (e2 ++ [((8 : Int32), (0 : Int32))])).length = l.length + e.length + 1 + e2.length + 1 := by
        simp only [List.length_append, List.length_cons, List.length_nil]; omega
      have hn := hF (b + 1) _ o2 n2 h2 s' (by omega) t2
      rw [el2] at hn
      obtain ⟨o3, n3, s3h, s3, hb3, ⟨u1, u2, u3⟩ | ⟨e3, u1, u2, u3⟩⟩ := hn
      · rw [show pB row L S (b + 1) (l.length + e.length + 1 + e2.length + 1) = ((pB row L S (b + 1) (l.length + e.length + 1 + e2.length + 1)).1, none) from Prod.ext rfl u1, z_bind u2]
        exact EO.fail hb3 u3
      · rw [show pB row L S (b + 1) (l.length + e.length + 1 + e2.length + 1) = ((pB row L S (b + 1) (l.length + e.length + 1 + e2.length + 1)).1, some e3) from Prod.ext rfl u1, z_bind u2]
        generalize (pB row L S (b + 1) (l.length + e.length + 1 + e2.length + 1)).1 = c at hb3
        dsimp only
        rw [if_neg (show ¬ (1 : Int32) = 0 by decide), z_bind (cl_size _)]
        have u4 : MR ((l ++ e ++ (9, nI (l.length + e.length + 1 + e2.length + 1)) :: e2) ++ (8, 0) :: e3) o3 n3 s3h s3 := by simpa using u3
        have ek : (l ++ e ++ (9, nI (l.length + e.length + 1 + e2.length + 1)) :: e2).length = l.length + e.length + 1 + e2.length := by
          simp only [List.length_append, List.length_cons]; omega
        obtain ⟨o4, n4, h4, v1, v2⟩ := MR_set (k := l.length + e.length + 1 + e2.length) u4 (by simp only [List.length_append, List.length_cons]; omega) (Or.inl rfl)
        have es1 : s1 = nI (min (l.length + e.length + 1 + e2.length) 31) := by
          rw [r3.1]
          congr 2
          simp only [List.length_append, List.length_cons]; omega
        rw [es1, z_bind v1]
        rw [set_mid' ek.symm] at v2
        have el3 : ((l ++ e ++ (9, nI (l.length + e.length + 1 + e2.length + 1)) :: e2) ++ ((8 : Int32), (0 : Int32)) :: e3).length = l.length + e.length + 1 + e2.length + 1 + e3.length := by
          simp only [List.length_append, List.length_cons]; omega
        rw [el3] at v2
        refine EO.good hb3 ?_
        simpa using v2
    · rw [if_neg h58, if_neg h58]
      dsimp only
      rw [if_pos (show (0 : Int32) = 0 from rfl), z_bind (cl_size _)]
      obtain ⟨o2, n2, h2, t1, t2⟩ := MR_set (k := l.length + e.length) r3 (by simp only [List.length_append, List.length_cons]; omega) (Or.inr rfl)
      rw [z_bind t1]
      rw [show l.length + e.length = (l ++ e).length by rw [List.length_append], set_mid] at t2
      have el : (l ++ e ++ (9, (0 : Int32)) :: e2).length = l.length + e.length + 1 + e2.length := by
        simp only [List.length_append, List.length_cons]; omega
      rw [el] at t2
      refine EO.good hb ?_
      simpa using t2
theorem EO_wrap {L : Nat} {l : IL} {r : Nat × Option IL} {X : Option (Int32 × (Nat → Int32) × (Nat → Int32) × (Nat → Int32) × Int32 × Int32)} (h : EO L l r X) : EO L l r (X.bind fun q => if q.1 = 0 ∨ q.1 = 1 then some (q.1, q.2.1, q.2.2.1, q.2.2.2.1, q.2.2.2.2.1, q.2.2.2.2.2) else none) := by
  obtain ⟨o1, n1, h1, s1, hb, ⟨r1, r2, r3⟩ | ⟨e, r1, r2, r3⟩⟩ := h
  · exact ⟨o1, n1, h1, s1, hb, Or.inl ⟨r1, by rw [r2]; rfl, r3⟩⟩
  · exact ⟨o1, n1, h1, s1, hb, Or.inr ⟨e, r1, by rw [r2]; rfl, r3⟩⟩
set_option maxHeartbeats 4000000 in
theorem cl_all {L : Nat} {row : Nat → Int32} (hL : L ≤ 120) : ∀ f : Nat, f ≤ 6 → (∀ n : Nat, 5 * f + 1 ≤ n → SO L (pS row L f) (fun ops nums hts size a => g_Draft_takeStatement n row (nI L) ops nums hts size a (nI (6 - f)))) ∧ (∀ n : Nat, 5 * f + 2 ≤ n → SO L (pL row L (pS row L f) 121) (fun ops nums hts size a => g_Draft_takeStatements n row (nI L) ops nums hts size a (nI (6 - f)))) := by
  intro f
  induction f with
  | zero =>
    intro _
    have hS : ∀ n : Nat, 5 * 0 + 1 ≤ n → SO L (pS row L 0) (fun ops nums hts size a => g_Draft_takeStatement n row (nI L) ops nums hts size a (nI (6 - 0))) := by
      intro n hn a l ops nums hts size ha hM
      obtain ⟨m, rfl⟩ : ∃ m, n = m + 1 := ⟨n - 1, by omega⟩
      show EO L l (a, none) (gb_Draft_takeStatement (g_Draft_takeIf m) (g_Draft_takeWhile m) row (nI L) ops nums hts size (nI a) (nI 6))
      unfold gb_Draft_takeStatement
      rw [if_neg (show ¬ (nI 6 : Int32) < 6 by decide)]
      exact EO.fail ha hM.h0
    refine ⟨hS, fun n hn a l ops nums hts size ha hM => ?_⟩
    obtain ⟨m, rfl⟩ : ∃ m, n = m + 1 := ⟨n - 1, by omega⟩
    exact cl_L hL (pS_adv 0) (hS m (by omega)) 121 a 0 500 l ops nums hts size (by omega) ha (by omega) (by omega) hM
  | succ f ih =>
    intro hf
    obtain ⟨-, ihL⟩ := ih (by omega)
    have hS : ∀ n : Nat, 5 * (f + 1) + 1 ≤ n → SO L (pS row L (f + 1)) (fun ops nums hts size a => g_Draft_takeStatement n row (nI L) ops nums hts size a (nI (6 - (f + 1)))) := by
      intro n hn a l ops nums hts size ha hM
      obtain ⟨m, rfl⟩ : ∃ m, n = m + 4 := ⟨n - 4, by omega⟩
      have edp : nI (6 - (f + 1)) + 1 = nI (6 - f) := by rw [z_a1]; congr 1; omega
      have hB1 : SO L (pB row L (pS row L f)) (fun ops nums hts size a => g_Draft_takeBlock (m + 1) row (nI L) ops nums hts size a (nI (6 - (f + 1)))) := fun a l ops nums hts size ha hM => cl_B (fL := g_Draft_takeStatements m) hL (by rw [edp]; exact ihL m (by omega)) ha hM
      have hB2 : SO L (pB row L (pS row L f)) (fun ops nums hts size a => g_Draft_takeBlock (m + 2) row (nI L) ops nums hts size a (nI (6 - (f + 1)))) := fun a l ops nums hts size ha hM => cl_B (fL := g_Draft_takeStatements (m + 1)) hL (by rw [edp]; exact ihL (m + 1) (by omega)) ha hM
      show EO L l (pS row L (f + 1) a l.length) (gb_Draft_takeStatement (g_Draft_takeIf (m + 3)) (g_Draft_takeWhile (m + 3)) row (nI L) ops nums hts size (nI a) (nI (6 - (f + 1))))
      unfold gb_Draft_takeStatement
      rw [if_pos (show nI (6 - (f + 1)) < 6 from nI_lt (b := 6) (by omega) (by omega)), z_bind (cl_ch hL (by omega)), z_bind (cl_isVariable _), pS]
      by_cases hV : isV (ch row L a) = true
      · rw [if_pos hV, if_pos hV, if_neg (show ¬ (1 : Int32) = 0 by decide)]
        exact EO_wrap (cl_takeStore hL (isV_lt hV) hM)
      · rw [if_neg hV, if_neg hV, if_pos (show (0 : Int32) = 0 from rfl)]
        by_cases h35 : ch row L a = 35
        · rw [if_pos h35, if_pos h35]
          exact EO_wrap (cl_takePrint hL (ch_lt h35 (by decide)) hM)
        · rw [if_neg h35, if_neg h35]
          by_cases h64 : ch row L a = 64
          · rw [if_pos h64, if_neg (show ¬ ch row L a = 63 by rw [h64]; decide), if_pos h64]
            have hG : GO L l (pG row L (pS row L f) a l.length) (g_Draft_takeGuarded (m + 2) row (nI L) ops nums hts size (nI a) (nI (6 - (f + 1)))) := cl_G (fB := g_Draft_takeBlock (m + 1)) hL hB1 (ch_lt h64 (by decide)) hM
            exact EO_wrap (cl_W (fG := g_Draft_takeGuarded (m + 2)) hG hM)
          · rw [if_neg h64]
            by_cases h63 : ch row L a = 63
            · rw [if_pos h63, if_pos h63]
              have hG : GO L l (pG row L (pS row L f) a l.length) (g_Draft_takeGuarded (m + 2) row (nI L) ops nums hts size (nI a) (nI (6 - (f + 1)))) := cl_G (fB := g_Draft_takeBlock (m + 1)) hL hB1 (ch_lt h63 (by decide)) hM
              exact EO_wrap (cl_I (fB := g_Draft_takeBlock (m + 2)) (fG := g_Draft_takeGuarded (m + 2)) hL hG hB2)
            · rw [if_neg h63, if_neg h63, if_neg h64]
              exact EO.fail ha hM.h0
    refine ⟨hS, fun n hn a l ops nums hts size ha hM => ?_⟩
    obtain ⟨m, rfl⟩ : ∃ m, n = m + 1 := ⟨n - 1, by omega⟩
    exact cl_L hL (pS_adv (f + 1)) (hS m (by omega)) 121 a 0 500 l ops nums hts size (by omega) ha (by omega) (by omega) hM
/-- translate: where the DRAFT is at FAULT, or NONE and its INSTRUCTIONS -/
theorem cl_translate {L : Nat} {row ops nums hts : Nat → Int32} {size at0 : Int32} (hL : L ≤ 120) (h0 : hts 0 = 0) : ∃ (ops' nums' hts' : Nat → Int32) (size' at' : Int32), hts' 0 = 0 ∧
    ((∃ b : Nat, b ≤ L ∧ g_Draft_translate row (nI L) ops nums hts size at0 = some (nI b, ops', nums', hts', size', at') ∧ (pL row L (pS row L 6) 121 0 0 = (b, none) ∨ (∃ e : IL, pL row L (pS row L 6) 121 0 0 = (b, some e) ∧ (b ≠ L ∨ 30 < e.length)))) ∨
     (∃ e : IL, pL row L (pS row L 6) 121 0 0 = (L, some e) ∧ e.length ≤ 30 ∧ g_Draft_translate row (nI L) ops nums hts size at0 = some (-2, ops', nums', hts', size', at') ∧ MR e ops' nums' hts' size')) := by
  unfold g_Draft_translate
  rw [z_bind (cl_drop _)]
  have hM : MR [] ops nums hts 0 := ⟨rfl, fun i hi => by simp at hi, fun j hj => by simp at hj; subst hj; exact h0, fun _ i hi => by simp at hi⟩
  have hx := (cl_all (row := row) hL 6 (Nat.le_refl _)).2 100 (by omega) 0 [] ops nums hts 0 (Nat.zero_le _) hM
  have hx : EO L [] (pL row L (pS row L 6) 121 0 0) (g_Draft_takeStatements 100 row (nI L) ops nums hts 0 0 0) := hx
  obtain ⟨o1, n1, h1, s1, hb, ⟨r1, r2, r3⟩ | ⟨e, r1, r2, r3⟩⟩ := hx
  · rw [z_bind r2]
    refine ⟨o1, n1, h1, s1, nI (pL row L (pS row L 6) 121 0 0).1, r3, Or.inl ⟨(pL row L (pS row L 6) 121 0 0).1, hb, rfl, Or.inl (Prod.ext rfl r1)⟩⟩
  · rw [z_bind r2]
    dsimp only
    rw [if_neg (show ¬ (1 : Int32) = 0 by decide), z_bind (cl_Chars_size _)]
    have hp : pL row L (pS row L 6) 121 0 0 = ((pL row L (pS row L 6) 121 0 0).1, some e) := Prod.ext rfl r1
    generalize (pL row L (pS row L 6) 121 0 0).1 = b at hb hp ⊢
    rw [List.nil_append] at r3
    by_cases hbL : b = L
    · subst hbL
      rw [if_pos rfl]
      by_cases h30 : e.length ≤ 30
      · refine ⟨o1, n1, h1, s1, nI b, r3.h0, Or.inr ⟨e, hp, h30, ?_, r3⟩⟩
        unfold b_Draft_translate_39
        rw [if_neg (show ¬ (1 : Int32) = 0 by decide), z_bind (cl_size _), r3.1, if_neg (show ¬ (30 : Int32) < nI (min e.length 31) from nI_nlt (a := 30) (by omega) (by omega))]
      · refine ⟨o1, n1, h1, s1, nI b, r3.h0, Or.inl ⟨b, hb, ?_, Or.inr ⟨e, hp, Or.inr (by omega)⟩⟩⟩
        unfold b_Draft_translate_39
        rw [if_neg (show ¬ (1 : Int32) = 0 by decide), z_bind (cl_size _), r3.1, if_pos (show (30 : Int32) < nI (min e.length 31) from nI_lt (a := 30) (by omega) (by omega))]
    · rw [if_neg (show ¬ nI b = nI L by rw [nI_eq (by omega) (by omega)]; exact hbL)]
      exact ⟨o1, n1, h1, s1, nI b, r3.h0, Or.inl ⟨b, hb, rfl, Or.inr ⟨e, hp, Or.inl hbL⟩⟩⟩
