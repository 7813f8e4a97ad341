theorem cl_start_loop {x lim h pr dn lm : Int32} : ∀ (f i : Nat) (vars : Nat → Int32), i ≤ 6 → 6 - i < f → (∀ j, j < i → vars j = 0) → ∃ v' : Nat → Int32, b_Machine_start_2 f vars h pr dn lm x lim (nI i) = some (v', 0, 0, 0, lim) ∧ ∀ v, v < 6 → v' v = if v = 0 then x else 0 := by
  intro f
  induction f with
  | zero => intro i vars h1 h2; omega
  | succ f ih =>
    intro i vars h1 h2 h3
    rw [b_Machine_start_2]
    by_cases hi : i < 6
    · rw [if_neg (show ¬ (6 : Int32) ≤ nI i from nI_ge (b := 6) hi (by omega)), if_pos (z_ck hi (by omega)), z_cl (by omega), z_a1]
      refine ih (i + 1) _ (by omega) (by omega) (fun j hj => ?_)
      by_cases hji : j = i
      · subst hji; rw [pk_us]
      · rw [pk_un hji]; exact h3 j (by omega)
    · have : i = 6 := by omega
      subst this
      rw [if_pos (show (6 : Int32) ≤ nI 6 by decide), if_pos (show ck 0 6 = true by decide), z_cl0]
      refine ⟨_, rfl, fun v hv => ?_⟩
      by_cases hv0 : v = 0
      · subst hv0; rw [pk_us, if_pos rfl]
      · rw [pk_un hv0, if_neg hv0]; exact h3 v hv
theorem cl_start (vars : Nat → Int32) (h pr dn lm x lim : Int32) : ∃ v' : Nat → Int32, g_Machine_start vars h pr dn lm x lim = some (v', 0, 0, 0, lim) ∧ ∀ v, v < 6 → v' v = if v = 0 then x else 0 :=
  cl_start_loop (x := x) (lim := lim) (h := h) (pr := pr) (dn := dn) (lm := lm) 500 0 vars (by omega) (by omega) (fun j hj => by omega)
theorem ml_start_loop2 {var : Nat → Int32} {h pr dn : Int32} : ∀ (f i : Nat) (out : Nat → Int32), i ≤ 20 → 20 - i < f → (∀ j, j < i → out j = 0) → ∃ o' : Nat → Int32, b_M_start_45 f var out h pr dn (nI i) = some (var, o', h, pr, dn) ∧ ∀ k, k < 20 → o' k = 0 := by
  intro f
  induction f with
  | zero => intro i out h1 h2; omega
  | succ f ih =>
    intro i out h1 h2 h3
    rw [b_M_start_45]
    by_cases hi : i < 20
    · rw [if_neg (show ¬ (20 : Int32) ≤ nI i from nI_ge (b := 20) hi (by omega)), if_pos (z_ck hi (by omega)), z_cl (by omega), z_a1]
      refine ih (i + 1) _ (by omega) (by omega) (fun j hj => ?_)
      by_cases hji : j = i
      · subst hji; rw [pk_us]
      · rw [pk_un hji]; exact h3 j (by omega)
    · have : i = 20 := by omega
      subst this
      rw [if_pos (show (20 : Int32) ≤ nI 20 by decide)]
      exact ⟨_, rfl, h3⟩
theorem ml_start_loop {out : Nat → Int32} {x h pr dn : Int32} : ∀ (f i : Nat) (var : Nat → Int32), i ≤ 6 → 6 - i < f → (∀ j, j < i → var j = 0) → ∃ v' o' : Nat → Int32, b_M_start_2 f var out h pr dn x (nI i) = some (v', o', 0, 0, 0) ∧ (∀ v, v < 6 → v' v = if v = 0 then x else 0) ∧ ∀ k, k < 20 → o' k = 0 := by
  intro f
  induction f with
  | zero => intro i var h1 h2; omega
  | succ f ih =>
    intro i var h1 h2 h3
    rw [b_M_start_2]
    by_cases hi : i < 6
    · rw [if_neg (show ¬ (6 : Int32) ≤ nI i from nI_ge (b := 6) hi (by omega)), if_pos (z_ck hi (by omega)), z_cl (by omega), z_a1]
      refine ih (i + 1) _ (by omega) (by omega) (fun j hj => ?_)
      by_cases hji : j = i
      · subst hji; rw [pk_us]
      · rw [pk_un hji]; exact h3 j (by omega)
    · have : i = 6 := by omega
      subst this
      rw [if_pos (show (6 : Int32) ≤ nI 6 by decide), if_pos (show ck 0 6 = true by decide), z_cl0]
      obtain ⟨o', e1, e2⟩ := ml_start_loop2 (var := upd var 0 x) (h := 0) (pr := 0) (dn := 0) 500 0 out (by omega) (by omega) (fun j hj => by omega)
      refine ⟨_, o', e1, fun v hv => ?_, e2⟩
      by_cases hv0 : v = 0
      · subst hv0; rw [pk_us, if_pos rfl]
      · rw [pk_un hv0, if_neg hv0]; exact h3 v hv
theorem ml_start (var out : Nat → Int32) (h pr dn x : Int32) : ∃ v' o' : Nat → Int32, g_M_start var out h pr dn x = some (v', o', 0, 0, 0) ∧ (∀ v, v < 6 → v' v = if v = 0 then x else 0) ∧ ∀ k, k < 20 → o' k = 0 :=
  ml_start_loop (x := x) (h := h) (pr := pr) (dn := dn) (out := out) 500 0 var (by omega) (by omega) (fun j hj => by omega)
set_option maxHeartbeats 4000000 in
theorem r_exec {n lim : Nat} {ops nums hts op to : Nat → Int32} (hC : RelC n ops nums hts op to) (hlim : lim ≤ 400) : ∀ (f d p h pr : Nat) (st stk vars var kept out : Nat → Int32), d ≤ lim → lim - d < f → p ≤ 31 → pr ≤ d → SR h st stk → OR pr kept out → VR vars var →
    ∃ (ok ans : Int32) (h' pr' d' : Nat) (st' vars' kept' stk' var' out' : Nat → Int32), b_Machine_execute_4 30 (nI lim) ops nums (nI n) f st vars kept (nI h) (nI pr) (nI d) (nI p) (nI d) = some (ok, st', vars', kept', nI h', nI pr', nI d') ∧ b_M_run_20 op to (nI n) f var stk out (nI h) (nI pr) (nI d) (nI lim) (nI p) = some (ans, var', stk', out', nI h', nI pr', nI d') ∧ ((ok = 1 ∧ ans = nI pr') ∨ (ok = 0 ∧ ans = -7)) ∧ pr' ≤ 400 ∧ OR pr' kept' out' ∧ VR vars' var' := by
  have hn := hC.1
  intro f
  induction f with
  | zero => intro d p h pr st stk vars var kept out h1 h2; omega
  | succ f ih =>
    intro d p h pr st stk vars var kept out h1 h2 h3 h4 hS hO hV
    by_cases hp : p < n
    · by_cases hd : d < lim
      · obtain ⟨p', h', pr', st', vars', kept', var', stk', out', e1, e2, e3, e4, e5, e6, e7⟩ := r_step hC hp hd hlim hS hO hV (by omega)
        obtain ⟨ok, ans, h2', pr2, d2, st2, vars2, kept2, stk2, var2, out2, g1, g2, g3, g4, g5, g6⟩ := ih (d + 1) p' h' pr' st' stk' vars' var' kept' out' (by omega) (by omega) e7 (by omega) e3 e4 e5
        refine ⟨ok, ans, h2', pr2, d2, st2, vars2, kept2, stk2, var2, out2, ?_, ?_, g3, g4, g5, g6⟩
        · rw [b_Machine_execute_4, if_neg (show ¬ (400 : Int32) < nI d from nI_nlt (b := d) (a := 400) (by omega) (by omega)), z_bind (cl_holds (by omega) (by omega)), if_pos hp, if_neg (show ¬ (1 : Int32) = 0 by decide)]
          have es : g_Machine_spend (nI d) (nI lim) = some (1, nI (d + 1)) := by unfold g_Machine_spend; rw [if_pos (nI_lt hd (by omega)), z_a1]
          rw [z_bind es]
          dsimp only
          rw [if_neg (show ¬ (1 : Int32) = 0 by decide), z_bind (cl_op hn (by omega) (by omega)), if_pos hp, z_bind (cl_number hn (by omega) (by omega)), if_pos hp, z_bind e1, z_a1]
          exact g1
        · rw [e2 f]
          exact g2
      · refine ⟨0, -7, h, pr, d, st, vars, kept, stk, var, out, ?_, ?_, Or.inr ⟨rfl, rfl⟩, by omega, hO, hV⟩
        · rw [b_Machine_execute_4, if_neg (show ¬ (400 : Int32) < nI d from nI_nlt (b := d) (a := 400) (by omega) (by omega)), z_bind (cl_holds (by omega) (by omega)), if_pos hp, if_neg (show ¬ (1 : Int32) = 0 by decide)]
          have es : g_Machine_spend (nI d) (nI lim) = some (0, nI d) := by unfold g_Machine_spend; rw [if_neg (nI_nlt (by omega) (by omega))]
          rw [z_bind es]
          rfl
        · rw [b_M_run_20, if_neg (nI_ge hp (by omega)), if_pos (nI_le (by omega) (by omega)), if_neg (nI_ge hp (by omega))]
    · refine ⟨1, nI pr, h, pr, d, st, vars, kept, stk, var, out, ?_, ?_, Or.inl ⟨rfl, rfl⟩, by omega, hO, hV⟩
      · rw [b_Machine_execute_4, if_neg (show ¬ (400 : Int32) < nI d from nI_nlt (b := d) (a := 400) (by omega) (by omega)), z_bind (cl_holds (by omega) (by omega)), if_neg hp, if_pos (show (0 : Int32) = 0 from rfl)]
      · rw [b_M_run_20, if_pos (nI_le (by omega) (by omega)), if_pos (nI_le (by omega) (by omega))]
theorem r_run {n : Nat} {ops nums hts op to st stk vars var kept out : Nat → Int32} {h pr dn lm hi prt dnt : Int32} (hC : RelC n ops nums hts op to) (hM : RelM vars kept pr dn var out prt dnt) (x lim : Int32) :
    ∃ q q', g_S_run ops nums (nI n) st vars kept h pr dn lm x lim = some q ∧ g_M_run op to (nI n) var stk out hi prt dnt x lim = some q' ∧ q.1 = q'.1 ∧ RelM q.2.2.1 q.2.2.2.1 q.2.2.2.2.2.1 q.2.2.2.2.2.2.1 q'.2.1 q'.2.2.2.1 q'.2.2.2.2.2.1 q'.2.2.2.2.2.2 := by
  unfold g_S_run g_M_run
  by_cases h1 : lim.toInt < 0 ∨ 400 < lim.toInt
  · have e : g_M_in lim 0 400 = some 0 := ml_in0 (by have := zi_0; have := zi_400; omega)
    rw [z_bind e, if_pos (show (0 : Int32) = 0 from rfl)]
    by_cases h2 : lim < 0
    · rw [if_pos h2]
      exact ⟨_, _, rfl, rfl, rfl, hM⟩
    · rw [if_neg h2, if_neg (show ¬ lim ≤ 400 by rw [z_lt] at h2; rw [z_le]; have := zi_0; have := zi_400; omega)]
      exact ⟨_, _, rfl, rfl, rfl, hM⟩
  · have e : g_M_in lim 0 400 = some 1 := ml_in1 (by have := zi_0; omega) (by have := zi_400; omega)
    rw [z_bind e, if_neg (show ¬ (1 : Int32) = 0 by decide), if_neg (show ¬ lim < 0 by rw [z_lt]; have := zi_0; omega), if_pos (show lim ≤ 400 by rw [z_le]; have := zi_400; omega)]
    obtain ⟨l, hl, rfl⟩ : ∃ l : Nat, l ≤ 400 ∧ lim = nI l := ⟨lim.toInt.toNat, by omega, Int32.toInt_inj.mp (by rw [z_tI (by omega)]; omega)⟩
    obtain ⟨v1, a1, a2⟩ := cl_start vars h pr dn lm x (nI l)
    obtain ⟨v2, o2, b1, b2, b3⟩ := ml_start var out hi prt dnt x
    obtain ⟨ok, ans, h', pr', d', st', vars', kept', stk', var', out', c1, c2, c3, c4, c5, c6⟩ := r_exec hC hl 500 0 0 0 0 st stk v1 v2 kept o2 (by omega) (by omega) (by omega) (by omega) ⟨by omega, fun i hi => by omega⟩ (fun k hk => by rw [b3 k hk, if_neg (by omega)]) (fun v hv => by rw [a2 v hv, b2 v hv])
    have c1 : g_Machine_execute 30 st v1 kept 0 0 0 (nI l) ops nums (nI n) = some (ok, st', vars', kept', nI h', nI pr', nI d') := c1
    have c2 : b_M_run_20 op to (nI n) 500 v2 stk o2 0 0 0 (nI l) 0 = some (ans, var', stk', out', nI h', nI pr', nI d') := c2
    rw [z_bind a1, z_bind c1, z_bind b1, c2]
    rcases c3 with ⟨rfl, rfl⟩ | ⟨rfl, rfl⟩
    · exact ⟨_, _, rfl, rfl, rfl, ⟨pr', c4, rfl, rfl, c5⟩, rfl, c6⟩
    · exact ⟨_, _, rfl, rfl, rfl, ⟨pr', c4, rfl, rfl, c5⟩, rfl, c6⟩
