/-! the reference lifts: one range after the other -/
def li (p q : Nat) : Int32 := nI (p + 64 * q)
theorem li_eq (p q : Nat) : nI p + 64 * nI q = li p q := by
  rw [show (64 : Int32) = nI 64 from rfl, pk_mul, nI_add]
  rfl
section
variable {n : Nat} {op to : Nat → Int32}
theorem mr_9 {p q : Nat} {text td wi : Nat → Int32} {len wh top v1 : Int32} (hC : okC op to n) (hp : ht op p = 0) (hpn : p < n) : ∀ (F i : Nat), p ≤ i → i ≤ U op p → U op p - i < F → b_M_range_9 op to F text len wh td wi top v1 (nI q) (nI i) = b_M_range_58 op to text len wh td wi top v1 (nI q) (nI (U op p)) := by
  have hn := hC.1
  obtain ⟨h1, h2, h3, h4, -⟩ := U_spec hC hp hpn
  intro F
  induction F with
  | zero => intro i _ _ h; omega
  | succ F ih =>
    intro i hi hiu hF
    have q3 := z_ck (k := i) (n := 30) (by omega) (by omega)
    rw [b_M_range_9, if_pos q3, z_cl (by omega)]
    by_cases hu : i = U op p
    · subst hu
      rcases h3 with h | h | h | h
      · rw [h, if_pos (show (2 : Int32) = 2 from rfl)]
      · rw [h, if_neg (show ¬ (8 : Int32) = 2 by decide), if_pos q3, if_neg (show ¬ (8 : Int32) = 10 by decide), if_pos q3, if_neg (show ¬ (8 : Int32) = 9 by decide), if_pos q3, if_pos (show (8 : Int32) = 8 from rfl)]
      · rw [h, if_neg (show ¬ (9 : Int32) = 2 by decide), if_pos q3, if_neg (show ¬ (9 : Int32) = 10 by decide), if_pos q3, if_pos (show (9 : Int32) = 9 from rfl)]
      · rw [h, if_neg (show ¬ (10 : Int32) = 2 by decide), if_pos q3, if_pos (show (10 : Int32) = 10 from rfl)]
    · have h5 := h4 i hi (by omega)
      rw [if_neg (fun e => h5 (Or.inl e)), if_pos q3, if_neg (fun e => h5 (Or.inr (Or.inr (Or.inr e)))), if_pos q3, if_neg (fun e => h5 (Or.inr (Or.inr (Or.inl e)))), if_pos q3, if_neg (fun e => h5 (Or.inr (Or.inl e))), z_a1]
      exact ih (i + 1) (by omega) (by omega) (by omega)
theorem mr_279 {u t q : Nat} {r : IL} {l : List Int32} {text td wi : Nat → Int32} {J L c : Int32} {x : Nat} (hn : n ≤ 30) (hI : ∀ i, i < n → okI (op i) (to i)) (hv : vd op (u - 1)) (hu : 0 < u) (hun : u ≤ n) (hr : r.length ≤ 300) (hl : l.length ≤ 300) (hT : TS r td wi) (hW : WR text l) (ht : t < 100) (hb : (J = 0 ∧ x = t) ∨ (J = 1 ∧ L = 0 ∧ x = t) ∨ (J = 1 ∧ L = 1 ∧ x = t - 1 ∧ 0 < t)) : ∃ td' wi' text' : Nat → Int32, b_M_range_279 op to text (nI l.length) (nI u) td wi (nI r.length) (nI q) (nI u) (nI t) J L 0 c = some (1, text', nI (l ++ (c :: (ext op to (u - 1) ++ [123]))).length, nI u, td', wi', nI ((0, li (u + 1) x) :: (1, 125) :: (0, li t q) :: r).length) ∧ TS ((0, li (u + 1) x) :: (1, 125) :: (0, li t q) :: r) td' wi' ∧ WR text' (l ++ (c :: (ext op to (u - 1) ++ [123]))) := by
  have hlen := (ext_len (w := to) _ hv).2
  have hBl := B_le op (u - 1)
  obtain ⟨td1, wi1, text1, e1, e2, e3⟩ := ml_tell hn hI hv (show u - 1 < n by omega) (show r.length ≤ 400 by omega) (show (l ++ [c]).length ≤ 400 by rw [List.length_append, List.length_singleton]; omega) hT (hW.add c)
  have e4 := e3.add 123
  have e5 : l ++ [c] ++ ext op to (u - 1) ++ [123] = l ++ (c :: (ext op to (u - 1) ++ [123])) := by simp only [List.append_assoc, List.cons_append, List.nil_append]
  have e6 : g_M_write text1 (nI (l ++ [c] ++ ext op to (u - 1)).length) 123 = _ := mw_write (by simp only [List.length_append, List.length_singleton]; omega) 123
  rw [e5] at e4 e6
  have T1 := TS_push (u := 0) (v := li t q) e2
  have T2 := TS_push (u := 1) (v := 125) T1
  have T3 := TS_push (u := 0) (v := li (u + 1) x) T2
  refine ⟨_, _, _, ?_, T3, e4⟩
  unfold b_M_range_279
  rw [z_bind (mw_write (by omega) c)]
  dsimp only
  rw [z_s1 hu, z_bind e1]
  dsimp only
  rw [z_bind e6, if_pos (show (0 : Int32) = 0 from rfl)]
  unfold b_M_range_316
  rw [li_eq, z_bind (ml_push (by omega))]
  dsimp only
  rw [z_bind (ml_push (by simp only [List.length_cons]; omega)), if_pos (show (0 : Int32) = 0 from rfl)]
  unfold b_M_range_377
  dsimp only
  rcases hb with ⟨rfl, rfl⟩ | ⟨rfl, rfl, rfl⟩ | ⟨rfl, rfl, rfl, h0⟩
  · rw [if_pos (show (0 : Int32) = 0 from rfl), z_a1, li_eq, z_bind (ml_push (by simp only [List.length_cons]; omega))]
  · rw [if_neg (show ¬ (1 : Int32) = 0 by decide), if_pos (show (0 : Int32) = 0 from rfl), if_pos (show (0 : Int32) = 0 from rfl), z_a1, li_eq, z_bind (ml_push (by simp only [List.length_cons]; omega))]
  · rw [if_neg (show ¬ (1 : Int32) = 0 by decide), if_neg (show ¬ (1 : Int32) = 0 by decide), z_a1, z_s1 h0, li_eq, z_bind (ml_push (by simp only [List.length_cons]; omega))]
theorem mr_279c {u t e q : Nat} {r : IL} {l : List Int32} {text td wi : Nat → Int32} {c : Int32} (hn : n ≤ 30) (hI : ∀ i, i < n → okI (op i) (to i)) (hv : vd op (u - 1)) (hu : 0 < u) (hun : u ≤ n) (hr : r.length ≤ 300) (hl : l.length ≤ 300) (hT : TS r td wi) (hW : WR text l) (ht0 : 0 < t) (ht : t ≤ 30) (he : to (t - 1) = nI e) : ∃ td' wi' text' : Nat → Int32, b_M_range_279 op to text (nI l.length) (nI u) td wi (nI r.length) (nI q) (nI u) (nI t) 1 0 1 c = some (1, text', nI (l ++ (c :: (ext op to (u - 1) ++ [123]))).length, nI u, td', wi', nI ((0, li (u + 1) (t - 1)) :: (1, 125) :: (1, 58) :: (1, 123) :: (0, li t e) :: (1, 125) :: (0, li e q) :: r).length) ∧ TS ((0, li (u + 1) (t - 1)) :: (1, 125) :: (1, 58) :: (1, 123) :: (0, li t e) :: (1, 125) :: (0, li e q) :: r) td' wi' ∧ WR text' (l ++ (c :: (ext op to (u - 1) ++ [123]))) := by
  have hlen := (ext_len (w := to) _ hv).2
  have hBl := B_le op (u - 1)
  obtain ⟨td1, wi1, text1, e1, e2, e3⟩ := ml_tell hn hI hv (show u - 1 < n by omega) (show r.length ≤ 400 by omega) (show (l ++ [c]).length ≤ 400 by rw [List.length_append, List.length_singleton]; omega) hT (hW.add c)
  have e4 := e3.add 123
  have e5 : l ++ [c] ++ ext op to (u - 1) ++ [123] = l ++ (c :: (ext op to (u - 1) ++ [123])) := by simp only [List.append_assoc, List.cons_append, List.nil_append]
  have e6 : g_M_write text1 (nI (l ++ [c] ++ ext op to (u - 1)).length) 123 = _ := mw_write (by simp only [List.length_append, List.length_singleton]; omega) 123
  rw [e5] at e4 e6
  have T1 := TS_push (u := 0) (v := li e q) e2
  have T2 := TS_push (u := 1) (v := 125) T1
  have T3 := TS_push (u := 0) (v := li t e) T2
  have T4 := TS_push (u := 1) (v := 123) T3
  have T5 := TS_push (u := 1) (v := 58) T4
  have T6 := TS_push (u := 1) (v := 125) T5
  have T7 := TS_push (u := 0) (v := li (u + 1) (t - 1)) T6
  have q5 := z_ck (k := t - 1) (n := 31) (by omega) (by omega)
  refine ⟨_, _, _, ?_, T7, e4⟩
  unfold b_M_range_279
  rw [z_bind (mw_write (by omega) c)]
  dsimp only
  rw [z_s1 hu, z_bind e1]
  dsimp only
  rw [z_bind e6, if_neg (show ¬ (1 : Int32) = 0 by decide), z_s1 ht0, if_pos q5, z_cl (by omega), he]
  unfold b_M_range_316
  rw [li_eq, z_bind (ml_push (by omega))]
  dsimp only
  rw [z_bind (ml_push (by simp only [List.length_cons]; omega)), if_neg (show ¬ (1 : Int32) = 0 by decide), z_s1 ht0, if_pos q5, z_cl (by omega), he, li_eq]
  dsimp only
  rw [z_bind (ml_push (by simp only [List.length_cons]; omega))]
  dsimp only
  rw [z_bind (ml_push (by simp only [List.length_cons]; omega))]
  dsimp only
  rw [z_bind (ml_push (by simp only [List.length_cons]; omega))]
  dsimp only
  rw [z_bind (ml_push (by simp only [List.length_cons]; omega))]
  unfold b_M_range_377
  dsimp only
  rw [if_neg (show ¬ (1 : Int32) = 0 by decide), if_pos (show (0 : Int32) = 0 from rfl), if_neg (show ¬ (1 : Int32) = 0 by decide), z_a1, z_s1 ht0, li_eq, z_bind (ml_push (by simp only [List.length_cons]; omega))]
/-- what a range leaves to do -/
def nxS (o w : Nat → Int32) (p q : Nat) (r : IL) : IL :=
  if kd o w p q = 2 ∨ kd o w p q = 10 then (0, li (kp o w p q) q) :: r
  else if kd o w p q = 13 then (0, li (U o p + 1) (bq o w p q)) :: (1, 125) :: (1, 58) :: (1, 123) :: (0, li (cp o w p q) (cq o w p q)) :: (1, 125) :: (0, li (kp o w p q) q) :: r
  else (0, li (U o p + 1) (bq o w p q)) :: (1, 125) :: (0, li (kp o w p q) q) :: r
def wrS (o w : Nat → Int32) (p q : Nat) : List Int32 := hdS o w p q ++ (ext o w (U o p - 1) ++ (if kd o w p q = 2 ∨ kd o w p q = 10 then [59] else [123]))
theorem mr_st {p q : Nat} {r : IL} {l : List Int32} {text td wi : Nat → Int32} {wh : Int32} (hC : okC op to n) (hV : VA op n p q) (hpq : p < q) (hR : RG op to n p q) (hr : r.length ≤ 300) (hl : l.length ≤ 290) (hT : TS r td wi) (hW : WR text l) : ∃ td' wi' text' : Nat → Int32, g_M_range op to text (nI l.length) wh td wi (nI r.length) (nI p) (nI q) = some (1, text', nI (l ++ wrS op to p q).length, nI (U op p), td', wi', nI (nxS op to p q r).length) ∧ TS (nxS op to p q r) td' wi' ∧ WR text' (l ++ wrS op to p q) := by
  have hn := hC.1
  have hqn := hV.2.1
  unfold g_M_range
  obtain ⟨h1, h2, h3, h4, -, vb, vc, vk, hbk, hK⟩ := hR
  rw [if_neg (show ¬ nI p = nI q by rw [nI_eq (by omega) (by omega)]; omega), mr_9 hC hV.2.2.1 (show p < n by omega) 500 p (Nat.le_refl _) (by omega) (by omega)]
  have q3 := z_ck (k := U op p) (n := 30) (by omega) (by omega)
  have q4 := z_ck (k := U op p) (n := 31) (by omega) (by omega)
  have hlen := (ext_len (w := to) _ h3).2
  have hBl := B_le op (U op p - 1)
  unfold b_M_range_58
  rw [if_pos q3, z_cl (by omega)]
  -- the simple ones
  have simple : ∀ l0 : List Int32, l0.length ≤ 300 → ∀ text0 : Nat → Int32, WR text0 l0 → ∃ td' wi' text' : Nat → Int32, b_M_range_135 op to text0 (nI l0.length) (nI (U op p)) td wi (nI r.length) (nI q) (nI (U op p)) = some (1, text', nI (l0 ++ (ext op to (U op p - 1) ++ [59])).length, nI (U op p), td', wi', nI ((0, li (U op p + 1) q) :: r).length) ∧ TS ((0, li (U op p + 1) q) :: r) td' wi' ∧ WR text' (l0 ++ (ext op to (U op p - 1) ++ [59])) := by
    intro l0 hl0 text0 hw0
    obtain ⟨td1, wi1, text1, e1, e2, e3⟩ := ml_tell hn hC.2.1 h3 (show U op p - 1 < n by omega) (show r.length ≤ 400 by omega) (show l0.length ≤ 400 by omega) hT hw0
    have e4 := e3.add 59
    have e6 : g_M_write text1 (nI (l0 ++ ext op to (U op p - 1)).length) 59 = _ := mw_write (by rw [List.length_append]; omega) 59
    rw [List.append_assoc] at e4 e6
    refine ⟨_, _, _, ?_, TS_push (u := 0) (v := li (U op p + 1) q) e2, e4⟩
    unfold b_M_range_135
    rw [z_s1 (by omega), z_bind e1]
    dsimp only
    rw [z_bind e6, z_a1, li_eq, z_bind (ml_push (by omega))]
  rcases hK with ⟨ek, e, e1, e2, e3, e4⟩ | ⟨ek, e, e1, e2, e3, e4⟩ | ⟨ek, e, t, t1, t2, t3, t4, t5, e1, e2, e3, e4⟩ | ⟨ek, e, t, t1, t2, t3, e1, e2, e3, e4, e5⟩ | ⟨ek, e, t, e9, t1, t2, t3, t4, t5, t6, t7, t8, e1, e2, e3, e4⟩
  · have ew : wrS op to p q = (97 + to (U op p)) :: 61 :: (ext op to (U op p - 1) ++ [59]) := by unfold wrS hdS; rw [if_pos ek, if_pos (Or.inl ek)]; rfl
    have en : nxS op to p q r = (0, li (U op p + 1) q) :: r := by unfold nxS; rw [if_pos (Or.inl ek), e2]
    rw [ew, en]
    obtain ⟨td1, wi1, text1, s1, s2, s3⟩ := simple (l ++ [97 + to (U op p)] ++ [61]) (by simp only [List.length_append, List.length_singleton]; omega) _ ((hW.add _).add 61)
    rw [e, if_neg (show ¬ (2 : Int32) = 8 by decide), if_pos q4, if_pos q3, if_neg (show ¬ (2 : Int32) = 9 by decide), if_pos q3, if_pos (show (2 : Int32) = 2 from rfl), z_bind (mw_write (by omega) _), if_pos q3, if_pos (show (2 : Int32) = 2 from rfl)]
    dsimp only
    rw [z_bind (mw_write (by rw [List.length_append, List.length_singleton]; omega) _)]
    dsimp only
    rw [s1]
    have e6 : l ++ [97 + to (U op p)] ++ [61] ++ (ext op to (U op p - 1) ++ [59]) = l ++ (97 + to (U op p)) :: 61 :: (ext op to (U op p - 1) ++ [59]) := by simp only [List.append_assoc, List.cons_append, List.nil_append]
    rw [e6] at s3 ⊢
    exact ⟨td1, wi1, text1, rfl, s2, s3⟩
  · have ew : wrS op to p q = 35 :: (ext op to (U op p - 1) ++ [59]) := by unfold wrS hdS sgS; rw [if_neg (by omega), if_neg (by omega), if_pos ek, if_pos (Or.inr ek)]; rfl
    have en : nxS op to p q r = (0, li (U op p + 1) q) :: r := by unfold nxS; rw [if_pos (Or.inr ek), e2]
    rw [ew, en]
    obtain ⟨td1, wi1, text1, s1, s2, s3⟩ := simple (l ++ [35]) (by simp only [List.length_append, List.length_singleton]; omega) _ (hW.add _)
    rw [e, if_neg (show ¬ (10 : Int32) = 8 by decide), if_pos q4, if_pos q3, if_neg (show ¬ (10 : Int32) = 9 by decide), if_pos q3, if_neg (show ¬ (10 : Int32) = 2 by decide), z_bind (mw_write (by omega) _), if_pos q3, if_neg (show ¬ (10 : Int32) = 2 by decide)]
    dsimp only
    rw [s1]
    have e6 : l ++ [35] ++ (ext op to (U op p - 1) ++ [59]) = l ++ 35 :: (ext op to (U op p - 1) ++ [59]) := by simp only [List.append_assoc, List.cons_append, List.nil_append]
    rw [e6] at s3 ⊢
    exact ⟨td1, wi1, text1, rfl, s2, s3⟩
  · have ew : wrS op to p q = 64 :: (ext op to (U op p - 1) ++ [123]) := by unfold wrS hdS sgS; rw [if_neg (by omega), if_neg (by omega), if_neg (by omega), if_pos ek, if_neg (by omega)]; rfl
    have en : nxS op to p q r = (0, li (U op p + 1) (t - 1)) :: (1, 125) :: (0, li t q) :: r := by unfold nxS; rw [if_neg (by omega), if_neg (by omega), e1, e2]
    rw [ew, en]
    obtain ⟨td1, wi1, text1, s1, s2, s3⟩ := mr_279 (q := q) (t := t) (J := 1) (L := 1) (c := 64) (x := t - 1) hn hC.2.1 h3 (show 0 < U op p by omega) (show U op p ≤ n by omega) hr (show l.length ≤ 300 by omega) hT hW (by omega) (Or.inr (Or.inr ⟨rfl, rfl, rfl, by omega⟩))
    rw [e, if_neg (show ¬ (9 : Int32) = 8 by decide), if_pos q4, if_pos q3, if_pos (show (9 : Int32) = 9 from rfl), t1, if_neg (nI_ge (by omega) (by omega)), if_pos (nI_le t3 (by omega)), z_s1 (by omega), if_neg (nI_ge t2 (by omega)), if_pos (z_ck (by omega) (by omega)), z_cl (by omega), t4, if_pos (show (8 : Int32) = 8 from rfl)]
    unfold b_M_range_204
    rw [if_neg (show ¬ (1 : Int32) = 0 by decide), z_s1 (by omega), if_pos (z_ck (by omega) (by omega)), z_cl (by omega), t5, if_pos rfl]
    unfold b_M_range_229
    rw [if_neg (show ¬ (1 : Int32) = 0 by decide), if_neg (show ¬ (1 : Int32) = 0 by decide), if_neg (show ¬ (1 : Int32) = 0 by decide)]
    exact ⟨td1, wi1, text1, s1, s2, s3⟩
  · have ew : wrS op to p q = 63 :: (ext op to (U op p - 1) ++ [123]) := by unfold wrS hdS sgS; rw [if_neg (by omega), if_neg (by omega), if_neg (by omega), if_neg (by omega), if_neg (by omega)]; rfl
    have en : nxS op to p q r = (0, li (U op p + 1) t) :: (1, 125) :: (0, li t q) :: r := by unfold nxS; rw [if_neg (by omega), if_neg (by omega), e1, e2]
    rw [ew, en]
    rw [e, if_neg (show ¬ (9 : Int32) = 8 by decide), if_pos q4, if_pos q3, if_pos (show (9 : Int32) = 9 from rfl), t1, if_neg (nI_ge (by omega) (by omega)), if_pos (nI_le t3 (by omega)), z_s1 (by omega)]
    by_cases hj : U op p < t - 1 ∧ op (t - 1) = 8
    · obtain ⟨e9, g1, g2, g3, g4⟩ : ∃ e : Nat, e ≤ n ∧ to (t - 1) = nI e ∧ e ≠ p ∧ (e < t ∨ q < e) := by
        rcases e5 with h | ⟨-, -, h⟩
        · exact absurd hj h
        · exact h
      obtain ⟨td1, wi1, text1, s1, s2, s3⟩ := mr_279 (q := q) (t := t) (J := 1) (L := 0) (c := 63) (x := t) hn hC.2.1 h3 (show 0 < U op p by omega) (show U op p ≤ n by omega) hr (show l.length ≤ 300 by omega) hT hW (by omega) (Or.inr (Or.inl ⟨rfl, rfl, rfl⟩))
      rw [if_neg (nI_ge hj.1 (by omega)), if_pos (z_ck (by omega) (by omega)), z_cl (by omega), hj.2, if_pos (show (8 : Int32) = 8 from rfl)]
      unfold b_M_range_204
      rw [if_neg (show ¬ (1 : Int32) = 0 by decide), z_s1 (by omega), if_pos (z_ck (by omega) (by omega)), z_cl (by omega), g2, if_neg (show ¬ nI e9 = nI p by rw [nI_eq (by omega) (by omega)]; exact g3)]
      unfold b_M_range_229
      have hin : g_M_in (nI e9) (nI t) (nI q) = some 0 := ml_in0 (by rw [z_tI (by omega), z_tI (by omega), z_tI (by omega)]; omega)
      rw [if_neg (show ¬ (1 : Int32) = 0 by decide), if_pos (show (0 : Int32) = 0 from rfl), z_s1 (by omega), if_pos (z_ck (by omega) (by omega)), z_cl (by omega), g2, z_bind hin, if_pos (show (0 : Int32) = 0 from rfl), if_pos (show (0 : Int32) = 0 from rfl)]
      exact ⟨td1, wi1, text1, s1, s2, s3⟩
    · obtain ⟨td1, wi1, text1, s1, s2, s3⟩ := mr_279 (q := q) (t := t) (J := 0) (L := 0) (c := 63) (x := t) hn hC.2.1 h3 (show 0 < U op p by omega) (show U op p ≤ n by omega) hr (show l.length ≤ 300 by omega) hT hW (by omega) (Or.inl ⟨rfl, rfl⟩)
      have c204 : b_M_range_204 op to text (nI l.length) (nI (U op p)) td wi (nI r.length) (nI p) (nI q) (nI (U op p)) (nI t) 0 = b_M_range_279 op to text (nI l.length) (nI (U op p)) td wi (nI r.length) (nI q) (nI (U op p)) (nI t) 0 0 0 63 := by
        unfold b_M_range_204
        rw [if_pos (show (0 : Int32) = 0 from rfl)]
        unfold b_M_range_229
        rw [if_pos (show (0 : Int32) = 0 from rfl), if_pos (show (0 : Int32) = 0 from rfl)]
      by_cases h6 : t - 1 ≤ U op p
      · rw [if_pos (nI_le h6 (by omega)), c204]
        exact ⟨td1, wi1, text1, s1, s2, s3⟩
      · rw [if_neg (nI_ge (by omega) (by omega)), if_pos (z_ck (by omega) (by omega)), z_cl (by omega), if_neg (fun h => hj ⟨by omega, h⟩), c204]
        exact ⟨td1, wi1, text1, s1, s2, s3⟩
  · have ew : wrS op to p q = 63 :: (ext op to (U op p - 1) ++ [123]) := by unfold wrS hdS sgS; rw [if_neg (by omega), if_neg (by omega), if_neg (by omega), if_neg (by omega), if_neg (by omega)]; rfl
    have en : nxS op to p q r = (0, li (U op p + 1) (t - 1)) :: (1, 125) :: (1, 58) :: (1, 123) :: (0, li t e9) :: (1, 125) :: (0, li e9 q) :: r := by unfold nxS; rw [if_neg (by omega), if_pos ek, e1, e2, e3, e4]
    rw [ew, en]
    obtain ⟨td1, wi1, text1, s1, s2, s3⟩ := mr_279c (q := q) (t := t) (e := e9) (c := 63) hn hC.2.1 h3 (show 0 < U op p by omega) (show U op p ≤ n by omega) hr (show l.length ≤ 300 by omega) hT hW (by omega) (by omega) t5
    rw [e, if_neg (show ¬ (9 : Int32) = 8 by decide), if_pos q4, if_pos q3, if_pos (show (9 : Int32) = 9 from rfl), t1, if_neg (nI_ge (by omega) (by omega)), if_pos (nI_le t3 (by omega)), z_s1 (by omega), if_neg (nI_ge t2 (by omega)), if_pos (z_ck (by omega) (by omega)), z_cl (by omega), t4, if_pos (show (8 : Int32) = 8 from rfl)]
    unfold b_M_range_204
    rw [if_neg (show ¬ (1 : Int32) = 0 by decide), z_s1 (by omega), if_pos (z_ck (by omega) (by omega)), z_cl (by omega), t5, if_neg (show ¬ nI e9 = nI p by rw [nI_eq (by omega) (by omega)]; exact t6)]
    unfold b_M_range_229
    have hin : g_M_in (nI e9) (nI t) (nI q) = some 1 := ml_inn t7 t8 (by omega)
    rw [if_neg (show ¬ (1 : Int32) = 0 by decide), if_pos (show (0 : Int32) = 0 from rfl), z_s1 (by omega), if_pos (z_ck (by omega) (by omega)), z_cl (by omega), t5, z_bind hin, if_neg (show ¬ (1 : Int32) = 0 by decide), if_pos (show (0 : Int32) = 0 from rfl)]
    exact ⟨td1, wi1, text1, s1, s2, s3⟩
theorem mr_kn {p q : Nat} {text td wi : Nat → Int32} {len wh top : Int32} (hC : okC op to n) (hV : VA op n p q) (hpq : p < q) (hk : kd op to p q = 0) : g_M_range op to text len wh td wi top (nI p) (nI q) = some (0, text, len, nI (U op p), td, wi, top) := by
  have hn := hC.1
  have hqn := hV.2.1
  unfold g_M_range
  rcases rg hC hV hpq with ⟨hk0, -⟩ | ⟨-, h1, h2, h3⟩
  · exact absurd hk hk0
  · rw [if_neg (show ¬ nI p = nI q by rw [nI_eq (by omega) (by omega)]; omega), mr_9 hC hV.2.2.1 (show p < n by omega) 500 p (Nat.le_refl _) (by omega) (by omega)]
    have q3 := z_ck (k := U op p) (n := 30) (by omega) (by omega)
    have q4 := z_ck (k := U op p) (n := 31) (by omega) (by omega)
    unfold b_M_range_58
    rw [if_pos q3, z_cl (by omega)]
    rcases h3 with ⟨h8, -⟩ | ⟨h9, -, t, t1, t2, t3⟩
    · rw [if_pos h8]
    · rw [h9, if_neg (show ¬ (9 : Int32) = 8 by decide), if_pos q4, if_pos q3, if_pos (show (9 : Int32) = 9 from rfl), t2]
      by_cases h4 : t ≤ U op p
      · rw [if_pos (nI_le h4 (by omega))]
      · rw [if_neg (nI_ge (by omega) (by omega)), if_neg (nI_ge (show q < t by omega) (by omega))]
end
