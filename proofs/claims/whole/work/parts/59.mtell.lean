/-! the reference writes a part: startOf, tell -/
theorem z_sm (x : Int32) : x + (-1) = x - 1 := (Int32.sub_eq_add_neg x 1).symm
theorem ml_so {op : Nat → Int32} : ∀ u, vd op u → u < 30 → ∀ F need : Nat, need + u < 1000 → b_M_startOf_4 op (F + (u + 1 - B op u)) (nI (need + 1)) (nI u) = b_M_startOf_4 op F (nI need) (nI (B op u) - 1) := by
  refine vd_ind (fun u h hu9 F need hd => ?_) (fun u h hu hv hB ih hu9 F need hd => ?_) (fun u h hu hp hv1 hv2 hB ih1 ih2 hu9 F need hd => ?_)
  · rw [B_push h, show F + (u + 1 - u) = F + 1 by omega, b_M_startOf_4, if_neg (show ¬ nI (need + 1) ≤ 0 from nI_nle (by omega) (by omega)), if_pos (z_ck hu9 (by omega)), z_cl (by omega), if_neg (show ¬ (2 : Int32) ≤ op u by rcases h with h | h <;> (rw [h]; decide)), z_m1 (by omega), Nat.add_sub_cancel, z_sm]
  · have hl := B_le op (u - 1)
    rw [hB, show F + (u + 1 - B op (u - 1)) = F + (u - 1 + 1 - B op (u - 1)) + 1 by omega, b_M_startOf_4, if_neg (show ¬ nI (need + 1) ≤ 0 from nI_nle (by omega) (by omega)), if_pos (z_ck hu9 (by omega)), z_cl (by omega), h, if_pos (show (2 : Int32) ≤ 7 by decide), if_pos (z_ck hu9 (by omega)), if_pos (show (7 : Int32) = 7 from rfl), show nI (need + 1) + 0 = nI (need + 1) from nI_add _ 0, z_m1 hu]
    exact ih (by omega) F need (by omega)
  · have hl := B_le op (u - 1)
    have hl2 := B_le op (B op (u - 1) - 1)
    rw [hB, show F + (u + 1 - B op (B op (u - 1) - 1)) = F + (B op (u - 1) - 1 + 1 - B op (B op (u - 1) - 1)) + (u - 1 + 1 - B op (u - 1)) + 1 by omega, b_M_startOf_4, if_neg (show ¬ nI (need + 1) ≤ 0 from nI_nle (by omega) (by omega)), if_pos (z_ck hu9 (by omega)), z_cl (by omega), if_pos (show (2 : Int32) ≤ op u by rcases h with h | h | h | h <;> (rw [h]; decide)), if_pos (z_ck hu9 (by omega)), if_neg h.n7, z_a1, z_m1 hu, ih1 (by omega) _ (need + 1) (by omega), z_s1 hp]
    exact ih2 (by omega) F need (by omega)
theorem ml_startOf {op : Nat → Int32} {u : Nat} (h : vd op u) (hu : u < 30) : g_M_startOf op (nI u) = some (nI (B op u)) := by
  unfold g_M_startOf
  have hl := B_le op u
  have e := ml_so u h hu (500 - (u + 1 - B op u)) 0 (by omega)
  rw [show 500 - (u + 1 - B op u) + (u + 1 - B op u) = 500 by omega] at e
  have e : b_M_startOf_4 op 500 1 (nI u) = b_M_startOf_4 op (500 - (u + 1 - B op u)) (nI 0) (nI (B op u) - 1) := e
  rw [e, show 500 - (u + 1 - B op u) = (500 - (u + 1 - B op u) - 1) + 1 by omega, b_M_startOf_4, if_pos (show nI 0 ≤ 0 by decide), Int32.sub_add_cancel]
theorem mw_write {l : List Int32} {text : Nat → Int32} (hl : l.length < 600) (c : Int32) : g_M_write text (nI l.length) c = some (upd text l.length c, nI (l ++ [c]).length) := by
  unfold g_M_write
  rw [if_pos (z_ck hl (by omega)), z_cl (by omega), z_a1, List.length_append, List.length_singleton]
def TGo (op to : Nat → Int32) (base K : Nat) (ts : IL) (l : List Int32) (ts' : IL) (l' : List Int32) : Prop :=
  ∀ td wi text : Nat → Int32, TS ts td wi → WR text l → ∃ td' wi' text' : Nat → Int32, TS ts' td' wi' ∧ WR text' l' ∧ ∀ F : Nat, b_M_tell_11 op to (F + K) text (nI l.length) td wi (nI ts.length) (nI base) = b_M_tell_11 op to F text' (nI l'.length) td' wi' (nI ts'.length) (nI base)
theorem TGo.then {op to : Nat → Int32} {base K1 K2 : Nat} {ts ts1 ts2 : IL} {l l1 l2 : List Int32} (h1 : TGo op to base K1 ts l ts1 l1) (h2 : TGo op to base K2 ts1 l1 ts2 l2) : TGo op to base (K2 + K1) ts l ts2 l2 := by
  intro td wi text a b
  obtain ⟨td1, wi1, text1, a1, b1, e1⟩ := h1 td wi text a b
  obtain ⟨td2, wi2, text2, a2, b2, e2⟩ := h2 td1 wi1 text1 a1 b1
  exact ⟨td2, wi2, text2, a2, b2, fun F => by rw [← Nat.add_assoc, e1 (F + K2), e2 F]⟩
theorem tg_top {r : IL} {x : Int32 × Int32} {base : Nat} (hb : base ≤ r.length) (hr : r.length < 600) : ¬ nI (x :: r).length ≤ nI base ∧ nI (x :: r).length - 1 = nI r.length := by
  rw [List.length_cons]
  exact ⟨nI_ge (by omega) (by omega), by rw [z_s1 (by omega), Nat.add_sub_cancel]⟩
theorem tg_sign {op to : Nat → Int32} {base : Nat} {r : IL} {l : List Int32} {c : Int32} (hb : base ≤ r.length) (hr : r.length < 600) (hl : l.length < 600) : TGo op to base 1 ((1, c) :: r) l r (l ++ [c]) := by
  intro td wi text ⟨t1, t2, t3⟩ hw
  obtain ⟨q1, q2⟩ := tg_top (x := (1, c)) hb hr
  refine ⟨td, wi, _, t3, hw.add c, fun F => ?_⟩
  rw [b_M_tell_11, if_neg q1, q2, if_pos (z_ck hr (by omega)), if_pos (z_ck hr (by omega)), z_cl (by omega), t1, t2]
  dsimp only
  rw [if_pos (show (1 : Int32) = 1 from rfl), z_bind (mw_write hl c)]
theorem tg_num {op to : Nat → Int32} {base u k : Nat} {r : IL} {l : List Int32} (hb : base ≤ r.length) (hr : r.length < 600) (hl : l.length + 2 < 600) (hu : u < 30) (h : op u = 0) (hk : k ≤ 99) (hw : to u = nI k) : TGo op to base 1 ((2, nI u) :: r) l r (l ++ dgt (nI k)) := by
  intro td wi text ⟨t1, t2, t3⟩ hw0
  obtain ⟨q1, q2⟩ := tg_top (x := (2, nI u)) hb hr
  have q3 := z_ck (k := u) (n := 30) hu (by omega)
  have q4 := z_ck (k := u) (n := 31) (by omega) (by omega)
  by_cases hk1 : k < 10
  · have e : dgt (nI k) = [48 + (nI k - nI k / 10 * 10)] := by unfold dgt; rw [if_pos (show nI k < 10 from nI_lt (b := 10) hk1 (by omega))]
    rw [e]
    refine ⟨td, wi, _, t3, hw0.add _, fun F => ?_⟩
    rw [b_M_tell_11, if_neg q1, q2, if_pos (z_ck hr (by omega)), if_pos (z_ck hr (by omega)), z_cl (by omega), t1, t2]
    dsimp only
    rw [if_neg (show ¬ (2 : Int32) = 1 by decide), if_pos q3, z_cl (by omega), h, if_pos rfl, if_pos q4, hw, if_pos (show nI k ≤ 9 from nI_le (b := 9) (by omega) (by omega)), if_pos q4, z_bind (mw_write (by omega) _)]
  · have e : dgt (nI k) = [48 + nI k / 10, 48 + (nI k - nI k / 10 * 10)] := by unfold dgt; rw [if_neg (show ¬ nI k < 10 from nI_nlt (b := 10) (by omega) (by omega))]
    rw [e]
    have e2 : l ++ [48 + nI k / 10, 48 + (nI k - nI k / 10 * 10)] = l ++ [48 + nI k / 10] ++ [48 + (nI k - nI k / 10 * 10)] := by simp only [List.append_assoc, List.cons_append, List.nil_append]
    rw [e2]
    refine ⟨td, wi, _, t3, (hw0.add _).add _, fun F => ?_⟩
    rw [b_M_tell_11, if_neg q1, q2, if_pos (z_ck hr (by omega)), if_pos (z_ck hr (by omega)), z_cl (by omega), t1, t2]
    dsimp only
    rw [if_neg (show ¬ (2 : Int32) = 1 by decide), if_pos q3, z_cl (by omega), h, if_pos rfl, if_pos q4, hw, if_neg (show ¬ nI k ≤ 9 from nI_ge (a := 9) (by omega) (by omega)), if_pos q4, z_bind (mw_write (by omega) _), if_pos q4]
    dsimp only
    rw [z_bind (mw_write (by rw [List.length_append, List.length_singleton]; omega) _)]
theorem tg_var {op to : Nat → Int32} {base u : Nat} {r : IL} {l : List Int32} (hb : base ≤ r.length) (hr : r.length < 600) (hl : l.length < 600) (hu : u < 30) (h : op u = 1) : TGo op to base 1 ((2, nI u) :: r) l r (l ++ [97 + to u]) := by
  intro td wi text ⟨t1, t2, t3⟩ hw0
  obtain ⟨q1, q2⟩ := tg_top (x := (2, nI u)) hb hr
  have q3 := z_ck (k := u) (n := 30) hu (by omega)
  have q4 := z_ck (k := u) (n := 31) (by omega) (by omega)
  refine ⟨td, wi, _, t3, hw0.add _, fun F => ?_⟩
  rw [b_M_tell_11, if_neg q1, q2, if_pos (z_ck hr (by omega)), if_pos (z_ck hr (by omega)), z_cl (by omega), t1, t2]
  dsimp only
  rw [if_neg (show ¬ (2 : Int32) = 1 by decide), if_pos q3, z_cl (by omega), h, if_neg (show ¬ (1 : Int32) = 0 by decide), if_pos q3, if_pos (show (1 : Int32) = 1 from rfl), if_pos q4, z_bind (mw_write hl _)]
theorem tg_not {op to : Nat → Int32} {base u : Nat} {r : IL} {l : List Int32} (hb : base ≤ r.length) (hr : r.length + 1 < 600) (hl : l.length < 600) (hu : u < 30) (hu0 : 0 < u) (h : op u = 7) : TGo op to base 1 ((2, nI u) :: r) l ((2, nI (u - 1)) :: r) (l ++ [33]) := by
  intro td wi text ⟨t1, t2, t3⟩ hw0
  obtain ⟨q1, q2⟩ := tg_top (x := (2, nI u)) hb (by omega)
  have q3 := z_ck (k := u) (n := 30) hu (by omega)
  refine ⟨_, _, _, TS_push t3, hw0.add _, fun F => ?_⟩
  rw [b_M_tell_11, if_neg q1, q2, if_pos (z_ck (by omega) (by omega)), if_pos (z_ck (by omega) (by omega)), z_cl (by omega), t1, t2]
  dsimp only
  rw [if_neg (show ¬ (2 : Int32) = 1 by decide), if_pos q3, z_cl (by omega), h, if_neg (show ¬ (7 : Int32) = 0 by decide), if_pos q3, if_neg (show ¬ (7 : Int32) = 1 by decide), if_pos q3, if_pos (show (7 : Int32) = 7 from rfl), z_bind (mw_write hl _), z_s1 hu0, z_bind (ml_push (by omega))]
theorem tg_bin {op to : Nat → Int32} {base u : Nat} {r : IL} {l : List Int32} (hb : base ≤ r.length) (hr : r.length + 4 < 600) (hl : l.length < 600) (hu : u < 30) (hu0 : 0 < u) (h : isBin (op u)) (hv : vd op (u - 1)) (hp : 0 < B op (u - 1)) : TGo op to base 1 ((2, nI u) :: r) l ((2, nI (B op (u - 1) - 1)) :: (1, sgO (op u)) :: (2, nI (u - 1)) :: (1, 41) :: r) (l ++ [40]) := by
  intro td wi text ⟨t1, t2, t3⟩ hw0
  obtain ⟨q1, q2⟩ := tg_top (x := (2, nI u)) hb (by omega)
  have q3 := z_ck (k := u) (n := 30) hu (by omega)
  have p1 := TS_push (u := 1) (v := 41) t3
  have p2 := TS_push (u := 2) (v := nI (u - 1)) p1
  have p3 := TS_push (u := 1) (v := sgO (op u)) p2
  have p4 := TS_push (u := 2) (v := nI (B op (u - 1) - 1)) p3
  refine ⟨_, _, _, p4, hw0.add _, fun F => ?_⟩
  have hn01 := h.n01
  have key : ∀ k2 : Int32, b_M_tell_239 op to (b_M_tell_11 op to F) (upd text l.length 40) (nI (l ++ [40]).length) (upd (upd td r.length 1) ((1, 41) :: r).length 2) (upd (upd wi r.length 41) ((1, 41) :: r).length (nI (u - 1))) (nI ((2, nI (u - 1)) :: (1, 41) :: r).length) (nI base) (nI u) 1 k2 = b_M_tell_11 op to F (upd text l.length 40) (nI (l ++ [40]).length) (upd (upd (upd (upd td r.length 1) ((1, 41) :: r).length 2) ((2, nI (u - 1)) :: (1, 41) :: r).length 1) ((1, k2) :: (2, nI (u - 1)) :: (1, 41) :: r).length 2) (upd (upd (upd (upd wi r.length 41) ((1, 41) :: r).length (nI (u - 1))) ((2, nI (u - 1)) :: (1, 41) :: r).length k2) ((1, k2) :: (2, nI (u - 1)) :: (1, 41) :: r).length (nI (B op (u - 1) - 1))) (nI ((2, nI (B op (u - 1) - 1)) :: (1, k2) :: (2, nI (u - 1)) :: (1, 41) :: r).length) (nI base) := by
    intro k2
    unfold b_M_tell_239
    rw [z_bind (ml_push (by simp only [List.length_cons]; omega))]
    dsimp only
    rw [z_s1 hu0, z_bind (ml_startOf hv (by omega)), z_s1 hp, z_bind (ml_push (by simp only [List.length_cons]; omega))]
  rw [b_M_tell_11, if_neg q1, q2, if_pos (z_ck (by omega) (by omega)), if_pos (z_ck (by omega) (by omega)), z_cl (by omega), t1, t2]
  dsimp only
  rw [if_neg (show ¬ (2 : Int32) = 1 by decide), if_pos q3, z_cl (by omega), if_neg (fun e => hn01 (Or.inl e)), if_pos q3, if_neg (fun e => hn01 (Or.inr e)), if_pos q3, if_neg h.n7, z_bind (mw_write hl _), z_bind (ml_push (by omega))]
  dsimp only
  rw [z_s1 hu0, z_bind (ml_push (by simp only [List.length_cons]; omega)), if_pos q3]
  dsimp only
  rcases h with e | e | e | e
  · rw [e, if_pos (show (3 : Int32) = 3 from rfl), key]; rfl
  · rw [e, if_neg (show ¬ (4 : Int32) = 3 by decide), if_pos q3, if_pos (show (4 : Int32) = 4 from rfl), key]; rfl
  · rw [e, if_neg (show ¬ (5 : Int32) = 3 by decide), if_pos q3, if_neg (show ¬ (5 : Int32) = 4 by decide), if_pos q3, if_pos (show (5 : Int32) = 5 from rfl), key]; rfl
  · rw [e, if_neg (show ¬ (6 : Int32) = 3 by decide), if_pos q3, if_neg (show ¬ (6 : Int32) = 4 by decide), if_pos q3, if_neg (show ¬ (6 : Int32) = 5 by decide), key]; rfl
theorem tg_E {op to : Nat → Int32} {n base : Nat} (hn : n ≤ 30) (hI : ∀ i, i < n → okI (op i) (to i)) : ∀ u, vd op u → u < n → ∀ (r : IL) (l : List Int32), base ≤ r.length → r.length + 4 * (u + 1 - B op u) < 600 → l.length + (ext op to u).length + 2 < 600 → ∃ K : Nat, K ≤ 3 * (u + 1 - B op u) ∧ TGo op to base K ((2, nI u) :: r) l r (l ++ ext op to u) := by
  refine vd_ind (fun u h hun r l hb hr hl => ?_) (fun u h hu hv hB ih hun r l hb hr hl => ?_) (fun u h hu hp hv1 hv2 hB ih1 ih2 hun r l hb hr hl => ?_)
  · rw [B_push h] at hr ⊢
    rcases h with h | h
    · obtain ⟨k, hk, e⟩ := w_num hI hun
      rw [ext_0 h, e]
      exact ⟨1, by omega, tg_num hb (by omega) (by omega) (by omega) h hk e⟩
    · rw [ext_1 h]
      exact ⟨1, by omega, tg_var hb (by omega) (by omega) (by omega) h⟩
  · have hl1 := B_le op (u - 1)
    rw [hB] at hr ⊢
    rw [ext_7 h hu] at hl ⊢
    rw [List.length_cons] at hl
    obtain ⟨K, hK, g⟩ := ih (by omega) r (l ++ [33]) hb (by omega) (by rw [List.length_append, List.length_singleton]; omega)
    rw [List.append_assoc] at g
    exact ⟨K + 1, by omega, (tg_not hb (by omega) (by omega) (by omega) hu h).then g⟩
  · have hl1 := B_le op (u - 1)
    have hl2 := B_le op (B op (u - 1) - 1)
    rw [hB] at hr ⊢
    rw [ext_b h hu] at hl ⊢
    simp only [List.length_cons, List.length_append, List.length_nil] at hl
    obtain ⟨K1, hK1, g1⟩ := ih2 (by omega) ((1, sgO (op u)) :: (2, nI (u - 1)) :: (1, 41) :: r) (l ++ [40]) (by simp only [List.length_cons]; omega) (by simp only [List.length_cons]; omega) (by rw [List.length_append, List.length_singleton]; omega)
    obtain ⟨K2, hK2, g2⟩ := ih1 (by omega) ((1, 41) :: r) (l ++ [40] ++ ext op to (B op (u - 1) - 1) ++ [sgO (op u)]) (by simp only [List.length_cons]; omega) (by simp only [List.length_cons]; omega) (by simp only [List.length_append, List.length_singleton]; omega)
    have s1 : TGo op to base 1 ((1, sgO (op u)) :: (2, nI (u - 1)) :: (1, 41) :: r) (l ++ [40] ++ ext op to (B op (u - 1) - 1)) ((2, nI (u - 1)) :: (1, 41) :: r) (l ++ [40] ++ ext op to (B op (u - 1) - 1) ++ [sgO (op u)]) := tg_sign (by simp only [List.length_cons]; omega) (by simp only [List.length_cons]; omega) (by simp only [List.length_append, List.length_singleton]; omega)
    have s2 : TGo op to base 1 ((1, 41) :: r) (l ++ [40] ++ ext op to (B op (u - 1) - 1) ++ [sgO (op u)] ++ ext op to (u - 1)) r (l ++ [40] ++ ext op to (B op (u - 1) - 1) ++ [sgO (op u)] ++ ext op to (u - 1) ++ [41]) := tg_sign hb (by omega) (by simp only [List.length_append, List.length_singleton]; omega)
    have e6 : l ++ [40] ++ ext op to (B op (u - 1) - 1) ++ [sgO (op u)] ++ ext op to (u - 1) ++ [41] = l ++ 40 :: (ext op to (B op (u - 1) - 1) ++ sgO (op u) :: (ext op to (u - 1) ++ [41])) := by simp only [List.append_assoc, List.cons_append, List.nil_append]
    rw [e6] at s2
    exact ⟨1 + (K2 + (1 + (K1 + 1))), by omega, ((((tg_bin hb (by omega) (by omega) (by omega) hu h hv1 hp).then g1).then s1).then g2).then s2⟩
theorem ml_tell {op to : Nat → Int32} {n u : Nat} (hn : n ≤ 30) (hI : ∀ i, i < n → okI (op i) (to i)) (hv : vd op u) (hu : u < n) {r : IL} {l : List Int32} (hr : r.length ≤ 400) (hl : l.length ≤ 400) {td wi text : Nat → Int32} (hT : TS r td wi) (hW : WR text l) : ∃ td' wi' text' : Nat → Int32, g_M_tell op to text (nI l.length) td wi (nI r.length) (nI u) = some (text', nI (l ++ ext op to u).length, td', wi', nI r.length) ∧ TS r td' wi' ∧ WR text' (l ++ ext op to u) := by
  have hl1 := B_le op u
  have hlen := ext_len (w := to) u hv
  obtain ⟨K, hK, g⟩ := tg_E (base := r.length) hn hI u hv hu r l (Nat.le_refl _) (by omega) (by omega)
  unfold g_M_tell
  rw [z_bind (ml_push (by omega))]
  dsimp only
  obtain ⟨td', wi', text', a, b, e⟩ := g _ _ text (TS_push (u := 2) (v := nI u) hT) hW
  have e := e (1000 - K)
  rw [show 1000 - K + K = 1000 by omega] at e
  rw [e, show 1000 - K = (1000 - K - 1) + 1 by omega, b_M_tell_11, if_pos (nI_le (Nat.le_refl _) (by omega))]
  exact ⟨td', wi', text', rfl, a, b⟩
