/-! the reference's front end: its rows of things to do, of INSTRUCTIONS and of holes as lists, and one turn of its loop -/
def TS : IL → (Nat → Int32) → (Nat → Int32) → Prop
  | [], _, _ => True
  | x :: r, t, w => t r.length = x.1 ∧ w r.length = x.2 ∧ TS r t w
def HS : List Nat → (Nat → Int32) → Prop
  | [], _ => True
  | x :: r, h => h r.length = nI x ∧ HS r h
def ML (l : IL) (nO nT : Nat → Int32) : Prop := ∀ i, i < l.length → l[i]? = some (nO i, nT i)
theorem TS_upd {t w : Nat → Int32} {k : Nat} {u v : Int32} : ∀ (r : IL), r.length ≤ k → TS r t w → TS r (upd t k u) (upd w k v)
  | [], _, _ => trivial
  | x :: r, hk, h => by
    have hl : r.length + 1 ≤ k := hk
    exact ⟨by rw [pk_un (by omega)]; exact h.1, by rw [pk_un (by omega)]; exact h.2.1, TS_upd r (by omega) h.2.2⟩
theorem HS_upd {t : Nat → Int32} {k : Nat} {u : Int32} : ∀ (r : List Nat), r.length ≤ k → HS r t → HS r (upd t k u)
  | [], _, _ => trivial
  | x :: r, hk, h => by
    have hl : r.length + 1 ≤ k := hk
    exact ⟨by rw [pk_un (by omega)]; exact h.1, HS_upd r (by omega) h.2⟩
theorem TS_push {t w : Nat → Int32} {r : IL} {u v : Int32} (h : TS r t w) : TS ((u, v) :: r) (upd t r.length u) (upd w r.length v) := ⟨pk_us, pk_us, TS_upd r (Nat.le_refl _) h⟩
def RS (ts l : IL) (hs : List Nat) (nO nT td wi ho : Nat → Int32) : Prop := TS ts td wi ∧ ML l nO nT ∧ HS hs ho
/-- K turns of the loop lead from one state to another; v: is all well -/
def Go (d : Nat → Int32) (L K : Nat) (ts l : IL) (hs : List Nat) (a : Nat) (ts' l' : IL) (hs' : List Nat) (a' : Nat) (v : Int32) : Prop :=
  ∀ (op to nO nT td wi ho : Nat → Int32) (many wh : Int32), RS ts l hs nO nT td wi ho → ∃ nO' nT' td' wi' ho' : Nat → Int32, RS ts' l' hs' nO' nT' td' wi' ho' ∧ ∀ F : Nat, b_M_read_28 d (nI L) (F + K) op to nO nT many wh td wi ho (nI ts.length) (nI hs.length) (nI a) (nI l.length) 1 = b_M_read_28 d (nI L) F op to nO' nT' many wh td' wi' ho' (nI ts'.length) (nI hs'.length) (nI a') (nI l'.length) v
theorem Go.zero {d : Nat → Int32} {L : Nat} {ts l : IL} {hs : List Nat} {a : Nat} : Go d L 0 ts l hs a ts l hs a 1 := fun op to nO nT td wi ho many wh h => ⟨nO, nT, td, wi, ho, h, fun F => rfl⟩
theorem Go.then {d : Nat → Int32} {L K1 K2 : Nat} {ts l ts1 l1 ts2 l2 : IL} {hs hs1 hs2 : List Nat} {a a1 a2 : Nat} {v : Int32} (h1 : Go d L K1 ts l hs a ts1 l1 hs1 a1 1) (h2 : Go d L K2 ts1 l1 hs1 a1 ts2 l2 hs2 a2 v) : Go d L (K2 + K1) ts l hs a ts2 l2 hs2 a2 v := by
  intro op to nO nT td wi ho many wh h
  obtain ⟨nO1, nT1, td1, wi1, ho1, r1, e1⟩ := h1 op to nO nT td wi ho many wh h
  obtain ⟨nO2, nT2, td2, wi2, ho2, r2, e2⟩ := h2 op to nO1 nT1 td1 wi1 ho1 many wh r1
  exact ⟨nO2, nT2, td2, wi2, ho2, r2, fun F => by rw [← Nat.add_assoc, e1 (F + K2), e2 F]⟩
/-- one turn, by what goOn answers -/
theorem Go.step {d : Nat → Int32} {L : Nat} {k w v : Int32} {r l ts' l' : IL} {hs hs' : List Nat} {a a' : Nat} (hr : r.length < 600)
    (h : ∀ nO nT td wi ho : Nat → Int32, RS r l hs nO nT td wi ho → ∃ nO' nT' td' wi' ho' : Nat → Int32, g_M_goOn nO nT d (nI L) td wi ho (nI r.length) (nI hs.length) (nI a) (nI l.length) k w = some (v, nO', nT', td', wi', ho', nI ts'.length, nI hs'.length, nI a', nI l'.length) ∧ RS ts' l' hs' nO' nT' td' wi' ho') : Go d L 1 ((k, w) :: r) l hs a ts' l' hs' a' v := by
  intro op to nO nT td wi ho many wh hR
  obtain ⟨⟨t1, t2, t3⟩, m1, s1⟩ := hR
  obtain ⟨nO', nT', td', wi', ho', e1, e2⟩ := h nO nT td wi ho ⟨t3, m1, s1⟩
  refine ⟨nO', nT', td', wi', ho', e2, fun F => ?_⟩
  rw [b_M_read_28]
  have et : nI ((k, w) :: r).length - 1 = nI r.length := by
    rw [List.length_cons, z_s1 (by omega), Nat.add_sub_cancel]
  rw [if_neg (show ¬ nI ((k, w) :: r).length ≤ 0 from nI_nle (by rw [List.length_cons]; omega) (by rw [List.length_cons]; omega)), if_neg (show ¬ (1 : Int32) = 0 by decide), et, if_pos (z_ck hr (by omega)), if_pos (z_ck hr (by omega)), z_cl (by omega), t1, t2, z_bind e1]
def Fl (d : Nat → Int32) (L K : Nat) (ts l : IL) (hs : List Nat) (a b : Nat) : Prop := ∃ (ts' l' : IL) (hs' : List Nat), Go d L K ts l hs a ts' l' hs' b 0
theorem Go.fl {d : Nat → Int32} {L K1 K2 : Nat} {ts l ts1 l1 : IL} {hs hs1 : List Nat} {a a1 b : Nat} (h1 : Go d L K1 ts l hs a ts1 l1 hs1 a1 1) (h2 : Fl d L K2 ts1 l1 hs1 a1 b) : Fl d L (K2 + K1) ts l hs a b := by
  obtain ⟨ts', l', hs', h⟩ := h2
  exact ⟨ts', l', hs', h1.then h⟩
theorem ml_next {d : Nat → Int32} {L a : Nat} (hL : L ≤ 120) (ha : a < 1000) : g_M_next d (nI L) (nI a) = some (if a < L then d a else -1) := by
  unfold g_M_next
  by_cases h : a < L
  · rw [if_neg (nI_ge h (by omega)), if_pos (z_ck (by omega) (by omega)), z_cl (by omega), if_pos h]
  · rw [if_pos (nI_le (by omega) (by omega)), if_neg h]
theorem nx_eq {d : Nat → Int32} {L a : Nat} {c : Int32} (hc : 0 ≤ c.toInt) : ((if a < L then d a else -1) = c) ↔ ch d L a = c := by
  unfold ch
  by_cases h : a < L
  · rw [if_pos h, if_pos h]
  · rw [if_neg h, if_neg h]
    constructor
    · intro e; rw [← e, zi_m1] at hc; omega
    · intro e; rw [← e, zi_m2] at hc; omega
theorem ml_push {td wi : Nat → Int32} {r : IL} {u v : Int32} (hr : r.length < 600) : g_M_push td wi (nI r.length) u v = some (upd td r.length u, upd wi r.length v, nI ((u, v) :: r).length) := by
  unfold g_M_push
  rw [if_pos (z_ck hr (by omega)), if_pos (z_ck hr (by omega)), z_cl (by omega), z_a1, List.length_cons]
theorem ml_emit {nO nT : Nat → Int32} {l : IL} {o x : Int32} (hl : l.length < 200) (h : ML l nO nT) : g_M_emit nO nT (nI l.length) o x = some (upd nO l.length o, upd nT l.length x, nI (l ++ [(o, x)]).length) ∧ ML (l ++ [(o, x)]) (upd nO l.length o) (upd nT l.length x) := by
  unfold g_M_emit
  rw [if_pos (z_ck hl (by omega)), if_pos (z_ck hl (by omega)), z_cl (by omega), z_a1, List.length_append, List.length_singleton]
  refine ⟨rfl, fun i hi => ?_⟩
  rw [List.length_append, List.length_singleton] at hi
  by_cases hil : i = l.length
  · subst hil
    rw [pk_us, pk_us, List.getElem?_append_right (Nat.le_refl _), Nat.sub_self]
    rfl
  · rw [pk_un hil, pk_un hil, List.getElem?_append_left (by omega)]
    exact h i (by omega)
theorem go_sign {d : Nat → Int32} {L a : Nat} {c : Int32} {r l : IL} {hs : List Nat} (hL : L ≤ 120) (hc : 0 ≤ c.toInt) (ha : a < 1000) (hr : r.length < 600) (h : ch d L a = c) : Go d L 1 ((1, c) :: r) l hs a r l hs (a + 1) 1 := by
  refine Go.step hr (fun nO nT td wi ho hR => ⟨nO, nT, td, wi, ho, ?_, hR⟩)
  unfold g_M_goOn
  rw [if_neg (show ¬ (1 : Int32) = 0 by decide), if_pos (show (1 : Int32) = 1 from rfl), z_bind (ml_next hL ha), if_pos ((nx_eq hc).mpr h), z_a1]
theorem go_signN {d : Nat → Int32} {L a : Nat} {c : Int32} {r l : IL} {hs : List Nat} (hL : L ≤ 120) (hc : 0 ≤ c.toInt) (ha : a < 1000) (hr : r.length < 600) (h : ¬ ch d L a = c) : Fl d L 1 ((1, c) :: r) l hs a a := by
  refine ⟨r, l, hs, Go.step hr (fun nO nT td wi ho hR => ⟨nO, nT, td, wi, ho, ?_, hR⟩)⟩
  unfold g_M_goOn
  rw [if_neg (show ¬ (1 : Int32) = 0 by decide), if_pos (show (1 : Int32) = 1 from rfl), z_bind (ml_next hL ha), if_neg (fun e => h ((nx_eq hc).mp e))]
theorem go_emit {d : Nat → Int32} {L a k : Nat} {r l : IL} {hs : List Nat} (hr : r.length < 600) (hl : l.length < 200) (hk : k < 10000) : Go d L 1 ((4, nI k) :: r) l hs a r (l ++ [(nI (k % 16), nI (k / 16))]) hs a 1 := by
  refine Go.step hr (fun nO nT td wi ho hR => ?_)
  obtain ⟨e1, e2⟩ := ml_emit (o := nI (k % 16)) (x := nI (k / 16)) hl hR.2.1
  refine ⟨_, _, td, wi, ho, ?_, hR.1, e2, hR.2.2⟩
  unfold g_M_goOn
  rw [if_neg (show ¬ (4 : Int32) = 0 by decide), if_neg (show ¬ (4 : Int32) = 1 by decide), if_neg (show ¬ (4 : Int32) = 2 by decide), if_neg (show ¬ (4 : Int32) = 3 by decide), if_pos (show (4 : Int32) = 4 from rfl)]
  rw [show (16 : Int32) = nI 16 from rfl, pk_rem (by omega) (by omega) (by omega), pk_div (by omega) (by omega) (by omega), z_bind e1]
theorem go_hole {d : Nat → Int32} {L a : Nat} {r l : IL} {hs : List Nat} (hr : r.length < 600) (hl : l.length < 200) (hh : hs.length < 40) : Go d L 1 ((5, 9) :: r) l hs a r (l ++ [(9, 0)]) (l.length :: hs) a 1 := by
  refine Go.step hr (fun nO nT td wi ho hR => ?_)
  obtain ⟨e1, e2⟩ := ml_emit (o := 9) (x := 0) hl hR.2.1
  refine ⟨_, _, td, wi, upd ho hs.length (nI l.length), ?_, hR.1, e2, pk_us, HS_upd hs (Nat.le_refl _) hR.2.2⟩
  unfold g_M_goOn
  rw [if_neg (show ¬ (5 : Int32) = 0 by decide), if_neg (show ¬ (5 : Int32) = 1 by decide), if_neg (show ¬ (5 : Int32) = 2 by decide), if_neg (show ¬ (5 : Int32) = 3 by decide), if_neg (show ¬ (5 : Int32) = 4 by decide), if_pos (show (5 : Int32) = 5 from rfl), if_pos (z_ck hh (by omega)), z_bind e1, z_cl (by omega), z_a1, List.length_cons]
/-- fill: the latest hole's INSTRUCTION gets the number of all -/
theorem ml_fill {nO nT ho : Nat → Int32} {A B : IL} {o t0 : Int32} {hs : List Nat} (h : ML (A ++ (o, t0) :: B) nO nT) (hH : HS (A.length :: hs) ho) (hA : A.length < 200) (hh : hs.length < 40) (m : Nat) : g_M_fill nT ho (nI (A.length :: hs).length) (nI m) = some (upd nT A.length (nI m), nI hs.length) ∧ ML (A ++ (o, nI m) :: B) nO (upd nT A.length (nI m)) := by
  unfold g_M_fill
  rw [List.length_cons, z_s1 (by omega), Nat.add_sub_cancel, if_pos (z_ck hh (by omega)), z_cl (by omega), hH.1, if_pos (z_ck hA (by omega)), z_cl (by omega)]
  refine ⟨rfl, fun i hi => ?_⟩
  have hi2 : i < (A ++ (o, t0) :: B).length := by
    rw [List.length_append, List.length_cons] at hi ⊢; exact hi
  have hx := h i hi2
  by_cases hiA : i = A.length
  · subst hiA
    rw [List.getElem?_append_right (Nat.le_refl _), Nat.sub_self, List.getElem?_cons_zero] at hx ⊢
    have hx := Option.some.inj hx
    have hx1 : o = nO A.length := congrArg Prod.fst hx
    rw [pk_us, hx1]
  · rw [pk_un hiA, ← hx]
    by_cases hlt : i < A.length
    · rw [List.getElem?_append_left hlt, List.getElem?_append_left hlt]
    · rw [List.getElem?_append_right (by omega), List.getElem?_append_right (by omega)]
      obtain ⟨j, hj⟩ : ∃ j, i - A.length = j + 1 := ⟨i - A.length - 1, by omega⟩
      rw [hj, List.getElem?_cons_succ, List.getElem?_cons_succ]
theorem go_round {d : Nat → Int32} {L a : Nat} {w t0 : Int32} {r A B : IL} {hs : List Nat} (hr : r.length < 600) (hl : (A ++ (9, t0) :: B).length < 200) (hh : hs.length < 40) : Go d L 1 ((6, w) :: r) (A ++ (9, t0) :: B) (A.length :: hs) a r (A ++ (9, nI ((A ++ (9, t0) :: B).length + 1)) :: (B ++ [(8, w)])) hs a 1 := by
  refine Go.step hr (fun nO nT td wi ho hR => ?_)
  have hA : A.length < 200 := by rw [List.length_append] at hl; omega
  obtain ⟨e1, e2⟩ := ml_emit (o := 8) (x := w) hl hR.2.1
  have e2 : ML (A ++ (9, t0) :: (B ++ [(8, w)])) (upd nO (A ++ (9, t0) :: B).length 8) (upd nT (A ++ (9, t0) :: B).length w) := by simpa using e2
  obtain ⟨e3, e4⟩ := ml_fill e2 hR.2.2 hA hh ((A ++ (9, t0) :: B).length + 1)
  refine ⟨_, _, td, wi, ho, ?_, hR.1, e4, hR.2.2.2⟩
  unfold g_M_goOn
  rw [if_neg (show ¬ (6 : Int32) = 0 by decide), if_neg (show ¬ (6 : Int32) = 1 by decide), if_neg (show ¬ (6 : Int32) = 2 by decide), if_neg (show ¬ (6 : Int32) = 3 by decide), if_neg (show ¬ (6 : Int32) = 4 by decide), if_neg (show ¬ (6 : Int32) = 5 by decide), if_pos (show (6 : Int32) = 6 from rfl), z_bind e1]
  dsimp only
  have em : (A ++ (9, t0) :: B ++ [(8, w)]).length = (A ++ (9, t0) :: B).length + 1 := by simp only [List.length_append, List.length_cons, List.length_nil]; try omega
  have ef : ∀ x : Int32, (A ++ (9, x) :: (B ++ [(8, w)])).length = (A ++ (9, t0) :: B).length + 1 := by intro x; simp only [List.length_append, List.length_cons, List.length_nil]; omega
  rw [em, z_bind e3, ef]
theorem go_behind {d : Nat → Int32} {L a : Nat} {w o t0 : Int32} {r A B : IL} {hs : List Nat} (hr : r.length < 600) (hl : (A ++ (o, t0) :: B).length < 200) (hh : hs.length < 40) : Go d L 1 ((9, w) :: r) (A ++ (o, t0) :: B) (A.length :: hs) a r (A ++ (o, nI (A ++ (o, t0) :: B).length) :: B) hs a 1 := by
  refine Go.step hr (fun nO nT td wi ho hR => ?_)
  have hA : A.length < 200 := by rw [List.length_append] at hl; omega
  obtain ⟨e3, e4⟩ := ml_fill hR.2.1 hR.2.2 hA hh (A ++ (o, t0) :: B).length
  refine ⟨_, _, td, wi, ho, ?_, hR.1, e4, hR.2.2.2⟩
  unfold g_M_goOn
  rw [if_neg (show ¬ (9 : Int32) = 0 by decide), if_neg (show ¬ (9 : Int32) = 1 by decide), if_neg (show ¬ (9 : Int32) = 2 by decide), if_neg (show ¬ (9 : Int32) = 3 by decide), if_neg (show ¬ (9 : Int32) = 4 by decide), if_neg (show ¬ (9 : Int32) = 5 by decide), if_neg (show ¬ (9 : Int32) = 6 by decide), if_neg (show ¬ (9 : Int32) = 7 by decide), if_neg (show ¬ (9 : Int32) = 8 by decide), z_bind e3]
  have ef : ∀ x : Int32, (A ++ (o, x) :: B).length = (A ++ (o, t0) :: B).length := by intro x; simp only [List.length_append, List.length_cons]
  rw [ef (nI (A ++ (o, t0) :: B).length)]
theorem go_if {d : Nat → Int32} {L a : Nat} {w o t0 : Int32} {r A B : IL} {hs : List Nat} (hL : L ≤ 120) (ha : a < 1000) (hr : r.length < 600) (hl : (A ++ (o, t0) :: B).length < 200) (hh : hs.length < 40) (h58 : ¬ ch d L a = 58) : Go d L 1 ((7, w) :: r) (A ++ (o, t0) :: B) (A.length :: hs) a r (A ++ (o, nI (A ++ (o, t0) :: B).length) :: B) hs a 1 := by
  refine Go.step hr (fun nO nT td wi ho hR => ?_)
  have hA : A.length < 200 := by rw [List.length_append] at hl; omega
  obtain ⟨e3, e4⟩ := ml_fill hR.2.1 hR.2.2 hA hh (A ++ (o, t0) :: B).length
  refine ⟨_, _, td, wi, ho, ?_, hR.1, e4, hR.2.2.2⟩
  unfold g_M_goOn
  rw [if_neg (show ¬ (7 : Int32) = 0 by decide), if_neg (show ¬ (7 : Int32) = 1 by decide), if_neg (show ¬ (7 : Int32) = 2 by decide), if_neg (show ¬ (7 : Int32) = 3 by decide), if_neg (show ¬ (7 : Int32) = 4 by decide), if_neg (show ¬ (7 : Int32) = 5 by decide), if_neg (show ¬ (7 : Int32) = 6 by decide), if_pos (show (7 : Int32) = 7 from rfl), z_bind (ml_next hL ha), if_neg (fun e => h58 ((nx_eq (by decide)).mp e)), z_bind e3]
  have ef : ∀ x : Int32, (A ++ (o, x) :: B).length = (A ++ (o, t0) :: B).length := by intro x; simp only [List.length_append, List.length_cons]
  rw [ef (nI (A ++ (o, t0) :: B).length)]
theorem go_choice {d : Nat → Int32} {L a : Nat} {w : Int32} {r l : IL} {hs : List Nat} (hL : L ≤ 120) (ha : a < 1000) (hr : r.length + 5 < 600) (h58 : ch d L a = 58) : Go d L 1 ((7, w) :: r) l hs a ((1, 123) :: (8, 0) :: (0, w + 1) :: (1, 125) :: (9, 0) :: r) l hs (a + 1) 1 := by
  refine Go.step (by omega) (fun nO nT td wi ho hR => ?_)
  have p1 := TS_push (u := 9) (v := 0) hR.1
  have p2 := TS_push (u := 1) (v := 125) p1
  have p3 := TS_push (u := 0) (v := w + 1) p2
  have p4 := TS_push (u := 8) (v := 0) p3
  have p5 := TS_push (u := 1) (v := 123) p4
  refine ⟨nO, nT, _, _, ho, ?_, p5, hR.2⟩
  unfold g_M_goOn
  rw [if_neg (show ¬ (7 : Int32) = 0 by decide), if_neg (show ¬ (7 : Int32) = 1 by decide), if_neg (show ¬ (7 : Int32) = 2 by decide), if_neg (show ¬ (7 : Int32) = 3 by decide), if_neg (show ¬ (7 : Int32) = 4 by decide), if_neg (show ¬ (7 : Int32) = 5 by decide), if_neg (show ¬ (7 : Int32) = 6 by decide), if_pos (show (7 : Int32) = 7 from rfl), z_bind (ml_next hL ha), if_pos ((nx_eq (by decide)).mpr h58)]
  unfold g_M_choice
  rw [z_bind (ml_push (u := 9) (v := 0) (by omega)), z_bind (ml_push (u := 1) (v := 125) (by rw [List.length_cons]; omega)), z_bind (ml_push (u := 0) (v := w + 1) (by simp only [List.length_cons]; omega)), z_bind (ml_push (u := 8) (v := 0) (by simp only [List.length_cons]; omega)), z_bind (ml_push (u := 1) (v := 123) (by simp only [List.length_cons]; omega)), z_a1]
  rfl
theorem go_other {d : Nat → Int32} {L a : Nat} {w t0 : Int32} {r A B : IL} {hs : List Nat} (hr : r.length < 600) (hl : (A ++ (9, t0) :: B).length < 200) (hh : hs.length < 40) : Go d L 1 ((8, w) :: r) (A ++ (9, t0) :: B) (A.length :: hs) a r (A ++ (9, nI ((A ++ (9, t0) :: B).length + 1)) :: (B ++ [(8, 0)])) ((A ++ (9, t0) :: B).length :: hs) a 1 := by
  refine Go.step hr (fun nO nT td wi ho hR => ?_)
  have hA : A.length < 200 := by rw [List.length_append] at hl; omega
  obtain ⟨e1, e2⟩ := ml_emit (o := 8) (x := 0) hl hR.2.1
  have e2 : ML (A ++ (9, t0) :: (B ++ [(8, 0)])) (upd nO (A ++ (9, t0) :: B).length 8) (upd nT (A ++ (9, t0) :: B).length 0) := by simpa using e2
  obtain ⟨e3, e4⟩ := ml_fill e2 hR.2.2 hA hh ((A ++ (9, t0) :: B).length + 1)
  refine ⟨_, _, td, wi, upd ho hs.length (nI (A ++ (9, t0) :: B).length), ?_, hR.1, e4, pk_us, HS_upd hs (Nat.le_refl _) hR.2.2.2⟩
  unfold g_M_goOn
  rw [if_neg (show ¬ (8 : Int32) = 0 by decide), if_neg (show ¬ (8 : Int32) = 1 by decide), if_neg (show ¬ (8 : Int32) = 2 by decide), if_neg (show ¬ (8 : Int32) = 3 by decide), if_neg (show ¬ (8 : Int32) = 4 by decide), if_neg (show ¬ (8 : Int32) = 5 by decide), if_neg (show ¬ (8 : Int32) = 6 by decide), if_neg (show ¬ (8 : Int32) = 7 by decide), if_pos (show (8 : Int32) = 8 from rfl), z_bind e1]
  dsimp only
  have em : (A ++ (9, t0) :: B ++ [((8 : Int32), (0 : Int32))]).length = (A ++ (9, t0) :: B).length + 1 := by simp only [List.length_append, List.length_cons, List.length_nil]; try omega
  have ef : ∀ x : Int32, (A ++ (9, x) :: (B ++ [((8 : Int32), (0 : Int32))])).length = (A ++ (9, t0) :: B).length + 1 := by intro x; simp only [List.length_append, List.length_cons, List.length_nil]; omega
  rw [em, z_bind e3, ef]
  dsimp only
  rw [if_pos (z_ck hh (by omega)), z_cl (by omega), z_s1 (by omega), Nat.add_sub_cancel, z_a1, List.length_cons]
