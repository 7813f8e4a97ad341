/-! run: both machines step by step -/
def SR (h : Nat) (st stk : Nat → Int32) : Prop := h ≤ 16 ∧ ∀ i, i < h → stk i = st i
def OR (pr : Nat) (kept out : Nat → Int32) : Prop := ∀ k, k < 20 → out k = if k < pr then kept k else 0
def VR (vars var : Nat → Int32) : Prop := ∀ v, v < 6 → var v = vars v
theorem b_push {h : Nat} {st stk : Nat → Int32} (hS : SR h st stk) (v : Int32) : ∃ (st' stk' : Nat → Int32) (h' : Nat), g_Machine_push st (nI h) v = some (st', nI h') ∧ g_M_come stk (nI h) v = some (stk', nI h') ∧ SR h' st' stk' := by
  have h16 := hS.1
  unfold g_Machine_push g_M_come
  by_cases e : h = 16
  · subst e
    rw [if_pos (show (16 : Int32) ≤ nI 16 by decide), if_pos (show (nI 16 : Int32) = 16 from rfl)]
    exact ⟨_, _, 16, rfl, rfl, hS⟩
  · rw [if_neg (show ¬ (16 : Int32) ≤ nI h from nI_ge (b := 16) (by omega) (by omega)), if_pos (z_ck (by omega) (by omega)), if_neg (show ¬ nI h = 16 by rw [show (16 : Int32) = nI 16 from rfl, nI_eq (by omega) (by omega)]; exact e), if_pos (z_ck (by omega) (by omega)), z_cl (by omega), z_a1]
    refine ⟨_, _, h + 1, rfl, rfl, by omega, fun i hi => ?_⟩
    by_cases hih : i = h
    · subst hih; rw [pk_us, pk_us]
    · rw [pk_un hih, pk_un hih]; exact hS.2 i (by omega)
theorem b_pop {h : Nat} {st stk : Nat → Int32} (hS : SR h st stk) : ∃ (v : Int32) (h' : Nat), g_Machine_pop st (nI h) = some (v, nI h') ∧ g_M_take stk (nI h) = some (v, nI h') ∧ SR h' st stk := by
  have h16 := hS.1
  unfold g_Machine_pop g_M_take
  by_cases e : h = 0
  · subst e
    rw [if_neg (show ¬ (0 : Int32) < nI 0 by decide), if_pos (show (nI 0 : Int32) = 0 from rfl)]
    exact ⟨_, 0, rfl, rfl, hS⟩
  · rw [if_pos (show (0 : Int32) < nI h from nI_lt (a := 0) (by omega) (by omega)), if_neg (nI_ne0 (by omega) (by omega)), z_s1 (by omega), if_pos (z_ck (by omega) (by omega)), if_pos (z_ck (by omega) (by omega)), z_cl (by omega), hS.2 (h - 1) (by omega)]
    exact ⟨_, h - 1, rfl, rfl, by omega, fun i hi => hS.2 i (by omega)⟩
theorem b_print {pr : Nat} {kept out : Nat → Int32} (hO : OR pr kept out) (hpr : pr < 1000000) (v : Int32) : ∃ (kept' out' : Nat → Int32), g_Machine_print kept (nI pr) v = some (kept', nI (pr + 1)) ∧ g_M_print out (nI pr) v = some (out', nI (pr + 1)) ∧ OR (pr + 1) kept' out' := by
  unfold g_Machine_print g_M_print
  by_cases e : 20 ≤ pr
  · rw [if_pos (show (20 : Int32) ≤ nI pr from nI_le (a := 20) e (by omega)), if_pos (show (20 : Int32) ≤ nI pr from nI_le (a := 20) e (by omega)), z_a1]
    refine ⟨_, _, rfl, rfl, fun k hk => ?_⟩
    have := hO k hk
    rw [if_pos (by omega)] at this ⊢
    exact this
  · rw [if_neg (show ¬ (20 : Int32) ≤ nI pr from nI_ge (b := 20) (by omega) (by omega)), if_neg (show ¬ (20 : Int32) ≤ nI pr from nI_ge (b := 20) (by omega) (by omega)), if_pos (z_ck (by omega) (by omega)), if_pos (z_ck (by omega) (by omega)), z_a1, z_cl (by omega)]
    refine ⟨_, _, rfl, rfl, fun k hk => ?_⟩
    by_cases hkp : k = pr
    · subst hkp
      rw [pk_us, pk_us, if_pos (by omega)]
    · rw [pk_un hkp, pk_un hkp, hO k hk]
      by_cases h1 : k < pr
      · rw [if_pos h1, if_pos (by omega)]
      · rw [if_neg h1, if_neg (by omega)]
theorem cl_var {vars : Nat → Int32} {v : Nat} (hv : v < 6) : g_Machine_variable vars (nI v) = some (vars v) := by
  unfold g_Machine_variable
  rw [if_neg (nI_pos (by omega)), if_neg (show ¬ (6 : Int32) ≤ nI v from nI_ge (b := 6) hv (by omega)), if_pos (z_ck hv (by omega)), z_cl (by omega)]
theorem cl_keepv {vars : Nat → Int32} {v : Nat} {x : Int32} (hv : v < 6) : g_Machine_keepVariable vars (nI v) x = some (upd vars v x) := by
  unfold g_Machine_keepVariable
  rw [if_neg (nI_pos (by omega)), if_neg (show ¬ (6 : Int32) ≤ nI v from nI_ge (b := 6) hv (by omega)), if_pos (z_ck hv (by omega)), z_cl (by omega)]
/-- the two-sided ops -/
def both (o x y : Int32) : Int32 := if o = 3 then x + y else if o = 4 then x - y else if o = 5 then x * y else if y ≤ x then 0 else 1
theorem cl_combined (o x y : Int32) : g_Machine_combined o x y = some (both o x y) := by
  unfold g_Machine_combined both
  repeat (first | rfl | split)
theorem ml_both {o : Int32} (x y : Int32) (h : o = 3 ∨ o = 4 ∨ o = 5 ∨ o = 6) : g_M_both o x y = some (both o x y) := by
  rcases h with rfl | rfl | rfl | rfl
  · rfl
  · rfl
  · rfl
  · show (if y ≤ x then some (0 : Int32) else some 1) = some (if y ≤ x then 0 else 1)
    exact z_ai _
theorem okI_nat5 {o a : Int32} (h : okI o a) (ho : o = 1 ∨ o = 2) : ∃ k : Nat, k < 6 ∧ a = nI k := by
  obtain ⟨k, hk, rfl⟩ := okI_nat h
  refine ⟨k, ?_, rfl⟩
  have h2 := h.2.2
  rw [z_tI (by omega)] at h2
  rcases ho with rfl | rfl <;> simp [mx] at h2 <;> omega
/-- the reference's loop has its code of an INSTRUCTION inside -/
def stepM (op to : Nat → Int32) (n lim d p : Nat) (var stk out : Nat → Int32) (h pr : Nat) (var' stk' out' : Nat → Int32) (h' pr' p' : Nat) : Prop := ∀ f : Nat, b_M_run_20 op to (nI n) (f + 1) var stk out (nI h) (nI pr) (nI d) (nI lim) (nI p) = b_M_run_20 op to (nI n) f var' stk' out' (nI h') (nI pr') (nI (d + 1)) (nI lim) (nI p')
set_option maxHeartbeats 4000000 in
theorem r_step {n p h pr d lim : Nat} {ops nums hts op to st stk vars var kept out : Nat → Int32} (hC : RelC n ops nums hts op to) (hp : p < n) (hd : d < lim) (hlim : lim ≤ 400) (hS : SR h st stk) (hO : OR pr kept out) (hV : VR vars var) (hpr : pr < 1000) :
    ∃ (p' h' pr' : Nat) (st' vars' kept' var' stk' out' : Nat → Int32), g_Machine_step st vars kept (nI h) (nI pr) (ops p) (nums p) (nI p) = some (nI p', st', vars', kept', nI h', nI pr') ∧ stepM op to n lim d p var stk out h pr var' stk' out' h' pr' p' ∧ SR h' st' stk' ∧ OR pr' kept' out' ∧ VR vars' var' ∧ pr' ≤ pr + 1 ∧ p' ≤ 31 := by
  have hn := hC.1
  have hok := hC.2.1.1 p hp
  have eo : op p = ops p := (hC.2.2 p hp).1
  have ea : to p = nums p := (hC.2.2 p hp).2
  have hbeg : ∀ f : Nat, b_M_run_20 op to (nI n) (f + 1) var stk out (nI h) (nI pr) (nI d) (nI lim) (nI p) = b_M_run_20 op to (nI n) (f + 1) var stk out (nI h) (nI pr) (nI d) (nI lim) (nI p) := fun f => rfl
  unfold stepM
  unfold g_Machine_step
  have q0 : ¬ nI n ≤ nI p := nI_ge hp (by omega)
  have q1 : ¬ nI lim ≤ nI d := nI_ge hd (by omega)
  have q2 : ck (nI p) 30 = true := z_ck (by omega) (by omega)
  have q3 : ck (nI p) 31 = true := z_ck (by omega) (by omega)
  have q4 : (nI p).toNatClampNeg = p := z_cl (by omega)
  have q5 : nI d + 1 = nI (d + 1) := z_a1 d
  have q6 : nI p + 1 = nI (p + 1) := z_a1 p
  rcases hok.1 with e | e | e | e | e | e | e | e | e | e | e
  · obtain ⟨st', stk', h', e1, e2, e3⟩ := b_push hS (nums p)
    have ep : g_Machine_perform st vars kept (nI h) (nI pr) 0 (nums p) = some (st', vars, kept, nI h', nI pr) := by unfold g_Machine_perform; rw [if_pos (show (0 : Int32) = 0 from rfl), z_bind e1]
    refine ⟨p + 1, h', pr, st', vars, kept, var, stk', out, ?_, fun f => ?_, e3, hO, hV, by omega, by omega⟩
    · rw [e, if_neg (show ¬ (0 : Int32) = 8 by decide), if_neg (show ¬ (0 : Int32) = 9 by decide), z_bind ep, q6]
    · rw [b_M_run_20, if_neg q0, if_neg q1, if_pos q2, if_pos q3, q4, eo, ea, e, q5, q6, if_pos (show (0 : Int32) = 0 from rfl), z_bind e2]
  · obtain ⟨a, ha, ea9⟩ := okI_nat5 hok (Or.inl e)
    obtain ⟨st', stk', h', e1, e2, e3⟩ := b_push hS (vars a)
    have ep : g_Machine_perform st vars kept (nI h) (nI pr) 1 (nI a) = some (st', vars, kept, nI h', nI pr) := by unfold g_Machine_perform; rw [if_neg (show ¬ (1 : Int32) = 0 by decide), if_pos (show (1 : Int32) = 1 from rfl), z_bind (cl_var ha), z_bind e1]
    refine ⟨p + 1, h', pr, st', vars, kept, var, stk', out, ?_, fun f => ?_, e3, hO, hV, by omega, by omega⟩
    · rw [ea9]; rw [e, if_neg (show ¬ (1 : Int32) = 8 by decide), if_neg (show ¬ (1 : Int32) = 9 by decide), z_bind ep, q6]
    · rw [b_M_run_20, if_neg q0, if_neg q1, if_pos q2, if_pos q3, q4, eo, ea, e, q5, q6, if_neg (show ¬ (1 : Int32) = 0 by decide), if_pos (show (1 : Int32) = 1 from rfl), ea9, if_pos (z_ck ha (by omega)), z_cl (by omega), hV a ha, z_bind e2]
  · obtain ⟨a, ha, ea9⟩ := okI_nat5 hok (Or.inr e)
    obtain ⟨v, h', e1, e2, e3⟩ := b_pop hS
    have ep : g_Machine_perform st vars kept (nI h) (nI pr) 2 (nI a) = some (st, upd vars a v, kept, nI h', nI pr) := by unfold g_Machine_perform; rw [if_neg (show ¬ (2 : Int32) = 0 by decide), if_neg (show ¬ (2 : Int32) = 1 by decide), if_pos (show (2 : Int32) = 2 from rfl), z_bind e1, z_bind (cl_keepv ha)]
    refine ⟨p + 1, h', pr, st, upd vars a v, kept, upd var a v, stk, out, ?_, fun f => ?_, e3, hO, fun i hi => ?_, by omega, by omega⟩
    · rw [ea9]; rw [e, if_neg (show ¬ (2 : Int32) = 8 by decide), if_neg (show ¬ (2 : Int32) = 9 by decide), z_bind ep, q6]
    · rw [b_M_run_20, if_neg q0, if_neg q1, if_pos q2, if_pos q3, q4, eo, ea, e, q5, q6, if_neg (show ¬ (2 : Int32) = 0 by decide), if_neg (show ¬ (2 : Int32) = 1 by decide), if_pos (show (2 : Int32) = 2 from rfl), z_bind e2, ea9, if_pos (z_ck ha (by omega)), z_cl (by omega)]
    · by_cases hia : i = a
      · subst hia; rw [pk_us, pk_us]
      · rw [pk_un hia, pk_un hia]; exact hV i hi
  · obtain ⟨y, h1, e1, e2, e3⟩ := b_pop hS
    obtain ⟨x, h2, e4, e5, e6⟩ := b_pop e3
    obtain ⟨st', stk', h', e7, e8, e9⟩ := b_push e6 (both 3 x y)
    have ep : ∀ a : Int32, g_Machine_perform st vars kept (nI h) (nI pr) 3 a = some (st', vars, kept, nI h', nI pr) := by intro a; unfold g_Machine_perform; rw [if_neg (show ¬ (3 : Int32) = 0 by decide), if_neg (show ¬ (3 : Int32) = 1 by decide), if_neg (show ¬ (3 : Int32) = 2 by decide), if_neg (show ¬ (3 : Int32) = 7 by decide), if_neg (show ¬ (3 : Int32) = 10 by decide), z_bind e1, z_bind e4, z_bind (cl_combined _ _ _), z_bind e7]
    refine ⟨p + 1, h', pr, st', vars, kept, var, stk', out, ?_, fun f => ?_, e9, hO, hV, by omega, by omega⟩
    · rw [e, if_neg (show ¬ (3 : Int32) = 8 by decide), if_neg (show ¬ (3 : Int32) = 9 by decide), z_bind (ep _), q6]
    · rw [b_M_run_20, if_neg q0, if_neg q1, if_pos q2, if_pos q3, q4, eo, ea, e, q5, q6, if_neg (show ¬ (3 : Int32) = 0 by decide), if_neg (show ¬ (3 : Int32) = 1 by decide), if_neg (show ¬ (3 : Int32) = 2 by decide), if_neg (show ¬ (3 : Int32) = 7 by decide), if_neg (show ¬ (3 : Int32) = 8 by decide), if_neg (show ¬ (3 : Int32) = 9 by decide), if_neg (show ¬ (3 : Int32) = 10 by decide), z_bind e2, z_bind e5, z_bind (ml_both x y (by decide)), z_bind e8]
  · obtain ⟨y, h1, e1, e2, e3⟩ := b_pop hS
    obtain ⟨x, h2, e4, e5, e6⟩ := b_pop e3
    obtain ⟨st', stk', h', e7, e8, e9⟩ := b_push e6 (both 4 x y)
    have ep : ∀ a : Int32, g_Machine_perform st vars kept (nI h) (nI pr) 4 a = some (st', vars, kept, nI h', nI pr) := by intro a; unfold g_Machine_perform; rw [if_neg (show ¬ (4 : Int32) = 0 by decide), if_neg (show ¬ (4 : Int32) = 1 by decide), if_neg (show ¬ (4 : Int32) = 2 by decide), if_neg (show ¬ (4 : Int32) = 7 by decide), if_neg (show ¬ (4 : Int32) = 10 by decide), z_bind e1, z_bind e4, z_bind (cl_combined _ _ _), z_bind e7]
    refine ⟨p + 1, h', pr, st', vars, kept, var, stk', out, ?_, fun f => ?_, e9, hO, hV, by omega, by omega⟩
    · rw [e, if_neg (show ¬ (4 : Int32) = 8 by decide), if_neg (show ¬ (4 : Int32) = 9 by decide), z_bind (ep _), q6]
    · rw [b_M_run_20, if_neg q0, if_neg q1, if_pos q2, if_pos q3, q4, eo, ea, e, q5, q6, if_neg (show ¬ (4 : Int32) = 0 by decide), if_neg (show ¬ (4 : Int32) = 1 by decide), if_neg (show ¬ (4 : Int32) = 2 by decide), if_neg (show ¬ (4 : Int32) = 7 by decide), if_neg (show ¬ (4 : Int32) = 8 by decide), if_neg (show ¬ (4 : Int32) = 9 by decide), if_neg (show ¬ (4 : Int32) = 10 by decide), z_bind e2, z_bind e5, z_bind (ml_both x y (by decide)), z_bind e8]
  · obtain ⟨y, h1, e1, e2, e3⟩ := b_pop hS
    obtain ⟨x, h2, e4, e5, e6⟩ := b_pop e3
    obtain ⟨st', stk', h', e7, e8, e9⟩ := b_push e6 (both 5 x y)
    have ep : ∀ a : Int32, g_Machine_perform st vars kept (nI h) (nI pr) 5 a = some (st', vars, kept, nI h', nI pr) := by intro a; unfold g_Machine_perform; rw [if_neg (show ¬ (5 : Int32) = 0 by decide), if_neg (show ¬ (5 : Int32) = 1 by decide), if_neg (show ¬ (5 : Int32) = 2 by decide), if_neg (show ¬ (5 : Int32) = 7 by decide), if_neg (show ¬ (5 : Int32) = 10 by decide), z_bind e1, z_bind e4, z_bind (cl_combined _ _ _), z_bind e7]
    refine ⟨p + 1, h', pr, st', vars, kept, var, stk', out, ?_, fun f => ?_, e9, hO, hV, by omega, by omega⟩
    · rw [e, if_neg (show ¬ (5 : Int32) = 8 by decide), if_neg (show ¬ (5 : Int32) = 9 by decide), z_bind (ep _), q6]
    · rw [b_M_run_20, if_neg q0, if_neg q1, if_pos q2, if_pos q3, q4, eo, ea, e, q5, q6, if_neg (show ¬ (5 : Int32) = 0 by decide), if_neg (show ¬ (5 : Int32) = 1 by decide), if_neg (show ¬ (5 : Int32) = 2 by decide), if_neg (show ¬ (5 : Int32) = 7 by decide), if_neg (show ¬ (5 : Int32) = 8 by decide), if_neg (show ¬ (5 : Int32) = 9 by decide), if_neg (show ¬ (5 : Int32) = 10 by decide), z_bind e2, z_bind e5, z_bind (ml_both x y (by decide)), z_bind e8]
  · obtain ⟨y, h1, e1, e2, e3⟩ := b_pop hS
    obtain ⟨x, h2, e4, e5, e6⟩ := b_pop e3
    obtain ⟨st', stk', h', e7, e8, e9⟩ := b_push e6 (both 6 x y)
    have ep : ∀ a : Int32, g_Machine_perform st vars kept (nI h) (nI pr) 6 a = some (st', vars, kept, nI h', nI pr) := by intro a; unfold g_Machine_perform; rw [if_neg (show ¬ (6 : Int32) = 0 by decide), if_neg (show ¬ (6 : Int32) = 1 by decide), if_neg (show ¬ (6 : Int32) = 2 by decide), if_neg (show ¬ (6 : Int32) = 7 by decide), if_neg (show ¬ (6 : Int32) = 10 by decide), z_bind e1, z_bind e4, z_bind (cl_combined _ _ _), z_bind e7]
    refine ⟨p + 1, h', pr, st', vars, kept, var, stk', out, ?_, fun f => ?_, e9, hO, hV, by omega, by omega⟩
    · rw [e, if_neg (show ¬ (6 : Int32) = 8 by decide), if_neg (show ¬ (6 : Int32) = 9 by decide), z_bind (ep _), q6]
    · rw [b_M_run_20, if_neg q0, if_neg q1, if_pos q2, if_pos q3, q4, eo, ea, e, q5, q6, if_neg (show ¬ (6 : Int32) = 0 by decide), if_neg (show ¬ (6 : Int32) = 1 by decide), if_neg (show ¬ (6 : Int32) = 2 by decide), if_neg (show ¬ (6 : Int32) = 7 by decide), if_neg (show ¬ (6 : Int32) = 8 by decide), if_neg (show ¬ (6 : Int32) = 9 by decide), if_neg (show ¬ (6 : Int32) = 10 by decide), z_bind e2, z_bind e5, z_bind (ml_both x y (by decide)), z_bind e8]
  · obtain ⟨v, h1, e1, e2, e3⟩ := b_pop hS
    obtain ⟨st', stk', h', e7, e8, e9⟩ := b_push e3 (if v = 0 then 1 else 0)
    have ep : ∀ a : Int32, g_Machine_perform st vars kept (nI h) (nI pr) 7 a = some (st', vars, kept, nI h', nI pr) := by
      intro a
      unfold g_Machine_perform; rw [if_neg (show ¬ (7 : Int32) = 0 by decide), if_neg (show ¬ (7 : Int32) = 1 by decide), if_neg (show ¬ (7 : Int32) = 2 by decide), if_pos (show (7 : Int32) = 7 from rfl), z_bind e1]
      dsimp only
      by_cases hv : v = 0
      · rw [if_pos hv] at e7 ⊢
        rw [z_bind e7]
      · rw [if_neg hv] at e7 ⊢
        rw [z_bind e7]
    refine ⟨p + 1, h', pr, st', vars, kept, var, stk', out, ?_, fun f => ?_, e9, hO, hV, by omega, by omega⟩
    · rw [e, if_neg (show ¬ (7 : Int32) = 8 by decide), if_neg (show ¬ (7 : Int32) = 9 by decide), z_bind (ep _), q6]
    · rw [b_M_run_20, if_neg q0, if_neg q1, if_pos q2, if_pos q3, q4, eo, ea, e, q5, q6, if_neg (show ¬ (7 : Int32) = 0 by decide), if_neg (show ¬ (7 : Int32) = 1 by decide), if_neg (show ¬ (7 : Int32) = 2 by decide), if_pos (show (7 : Int32) = 7 from rfl), z_bind e2]
      dsimp only
      by_cases hv : v = 0
      · rw [if_pos hv] at e8 ⊢
        rw [z_bind e8]
      · rw [if_neg hv] at e8 ⊢
        rw [z_bind e8]
  · obtain ⟨a, ha, ea9⟩ := okI_nat30 hok (Or.inl e)
    refine ⟨a, h, pr, st, vars, kept, var, stk, out, ?_, fun f => ?_, hS, hO, hV, by omega, by omega⟩
    · rw [ea9]; rw [e, if_pos (show (8 : Int32) = 8 from rfl)]
    · rw [b_M_run_20, if_neg q0, if_neg q1, if_pos q2, if_pos q3, q4, eo, ea, e, q5, q6, if_neg (show ¬ (8 : Int32) = 0 by decide), if_neg (show ¬ (8 : Int32) = 1 by decide), if_neg (show ¬ (8 : Int32) = 2 by decide), if_neg (show ¬ (8 : Int32) = 7 by decide), if_pos (show (8 : Int32) = 8 from rfl), ea9]
  · obtain ⟨a, ha, ea9⟩ := okI_nat30 hok (Or.inr e)
    obtain ⟨v, h1, e1, e2, e3⟩ := b_pop hS
    refine ⟨if v = 0 then a else p + 1, h1, pr, st, vars, kept, var, stk, out, ?_, fun f => ?_, e3, hO, hV, by omega, by split <;> omega⟩
    · rw [ea9]; rw [e, if_neg (show ¬ (9 : Int32) = 8 by decide), if_pos (show (9 : Int32) = 9 from rfl), z_bind e1]
      dsimp only
      by_cases hv : v = 0
      · rw [if_pos hv, if_pos hv]
      · rw [if_neg hv, if_neg hv, q6]
    · rw [b_M_run_20, if_neg q0, if_neg q1, if_pos q2, if_pos q3, q4, eo, ea, e, q5, q6, if_neg (show ¬ (9 : Int32) = 0 by decide), if_neg (show ¬ (9 : Int32) = 1 by decide), if_neg (show ¬ (9 : Int32) = 2 by decide), if_neg (show ¬ (9 : Int32) = 7 by decide), if_neg (show ¬ (9 : Int32) = 8 by decide), if_pos (show (9 : Int32) = 9 from rfl), z_bind e2, ea9]
      dsimp only
      by_cases hv : v = 0
      · rw [if_pos hv, if_pos hv]
      · rw [if_neg hv, if_neg hv]
  · obtain ⟨v, h1, e1, e2, e3⟩ := b_pop hS
    obtain ⟨kept', out', e4, e5, e6⟩ := b_print hO (by omega) v
    have ep : ∀ a : Int32, g_Machine_perform st vars kept (nI h) (nI pr) 10 a = some (st, vars, kept', nI h1, nI (pr + 1)) := by intro a; unfold g_Machine_perform; rw [if_neg (show ¬ (10 : Int32) = 0 by decide), if_neg (show ¬ (10 : Int32) = 1 by decide), if_neg (show ¬ (10 : Int32) = 2 by decide), if_neg (show ¬ (10 : Int32) = 7 by decide), if_pos (show (10 : Int32) = 10 from rfl), z_bind e1, z_bind e4]
    refine ⟨p + 1, h1, pr + 1, st, vars, kept', var, stk, out', ?_, fun f => ?_, e3, e6, hV, by omega, by omega⟩
    · rw [e, if_neg (show ¬ (10 : Int32) = 8 by decide), if_neg (show ¬ (10 : Int32) = 9 by decide), z_bind (ep _), q6]
    · rw [b_M_run_20, if_neg q0, if_neg q1, if_pos q2, if_pos q3, q4, eo, ea, e, q5, q6, if_neg (show ¬ (10 : Int32) = 0 by decide), if_neg (show ¬ (10 : Int32) = 1 by decide), if_neg (show ¬ (10 : Int32) = 2 by decide), if_neg (show ¬ (10 : Int32) = 7 by decide), if_neg (show ¬ (10 : Int32) = 8 by decide), if_neg (show ¬ (10 : Int32) = 9 by decide), if_pos (show (10 : Int32) = 10 from rfl), z_bind e2, z_bind e5]
