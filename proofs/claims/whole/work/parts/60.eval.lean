/-! the value of a part: the class performs it -/
def ev (o w vars : Nat → Int32) (u : Nat) : Int32 :=
  if o u = 0 then w u else if o u = 1 then vars (w u).toNatClampNeg else if h : 0 < u then (if o u = 7 then (if ev o w vars (u - 1) = 0 then 1 else 0) else both (o u) (ev o w vars (B o (u - 1) - 1)) (ev o w vars (u - 1))) else 0
termination_by u
decreasing_by
  · omega
  · have := B_le o (u - 1); omega
  · omega
theorem ev_0 {o w v : Nat → Int32} {u : Nat} (h : o u = 0) : ev o w v u = w u := by rw [ev, if_pos h]
theorem ev_1 {o w v : Nat → Int32} {u : Nat} (h : o u = 1) : ev o w v u = v (w u).toNatClampNeg := by rw [ev, if_neg (by rw [h]; decide), if_pos h]
theorem ev_7 {o w v : Nat → Int32} {u : Nat} (h : o u = 7) (hu : 0 < u) : ev o w v u = if ev o w v (u - 1) = 0 then 1 else 0 := by rw [ev, if_neg (by rw [h]; decide), if_neg (by rw [h]; decide), dif_pos hu, if_pos h]
theorem ev_b {o w v : Nat → Int32} {u : Nat} (h : isBin (o u)) (hu : 0 < u) : ev o w v u = both (o u) (ev o w v (B o (u - 1) - 1)) (ev o w v (u - 1)) := by
  have h1 := h.n01
  rw [ev, if_neg (fun e => h1 (Or.inl e)), if_neg (fun e => h1 (Or.inr e)), dif_pos hu, if_neg h.n7]
theorem cl_push {h : Nat} {st : Nat → Int32} (hh : h < 16) (v : Int32) : g_Machine_push st (nI h) v = some (upd st h v, nI (h + 1)) := by
  unfold g_Machine_push
  rw [if_neg (show ¬ (16 : Int32) ≤ nI h from nI_ge (b := 16) hh (by omega)), if_pos (z_ck hh (by omega)), z_cl (by omega), z_a1]
theorem cl_pop {h : Nat} {st : Nat → Int32} (hh : h < 16) : g_Machine_pop st (nI (h + 1)) = some (st h, nI h) := by
  unfold g_Machine_pop
  rw [if_pos (show (0 : Int32) < nI (h + 1) from nI_lt (a := 0) (by omega) (by omega)), z_s1 (by omega), Nat.add_sub_cancel, if_pos (z_ck hh (by omega)), z_cl (by omega)]
section
variable {n : Nat} {ops nums o w vars kept : Nat → Int32}
theorem pf_step {F p q : Nat} {st st' vars' kept' : Nat → Int32} {h pr h' pr' : Int32} (hE : ∀ i, i < n → ops i = o i ∧ nums i = w i) (hn : n ≤ 30) (hp : p < n) (hq : p < q) (hq9 : q < 1000) (e : g_Machine_perform st vars kept h pr (o p) (w p) = some (st', vars', kept', h', pr')) : b_Walker_perform_9 ops nums (nI n) (F + 1) st vars kept h pr (nI q) (nI p) = b_Walker_perform_9 ops nums (nI n) F st' vars' kept' h' pr' (nI q) (nI (p + 1)) := by
  rw [b_Walker_perform_9, if_neg (nI_ge hq (by omega)), z_bind (cl_op hn (by omega) (by omega)), if_pos hp, z_bind (cl_number hn (by omega) (by omega)), if_pos hp, (hE p hp).1, (hE p hp).2, z_bind e, z_a1]
theorem pf_E {pr : Int32} (hE : ∀ i, i < n → ops i = o i ∧ nums i = w i) (hC : okC o w n) : ∀ u, vd o u → u < n → ∀ (h q : Nat) (st : Nat → Int32), h < 100 → u < q → q < 100 → ht o (B o u) = nI h → h < 8 ∧ ht o (u + 1) = nI (h + 1) ∧ ∃ st' : Nat → Int32, (∀ i, i < h → st' i = st i) ∧ st' h = ev o w vars u ∧ ∀ F : Nat, b_Walker_perform_9 ops nums (nI n) (F + (u + 1 - B o u)) st vars kept (nI h) pr (nI q) (nI (B o u)) = b_Walker_perform_9 ops nums (nI n) F st' vars kept (nI (h + 1)) pr (nI q) (nI (u + 1)) := by
  have hn := hC.1
  refine vd_ind (fun u h0 hun h q st hh huq hq hht => ?_) (fun u h0 hu hv hB ih hun h q st hh huq hq hht => ?_) (fun u h0 hu hp hv1 hv2 hB ih1 ih2 hun h q st hh huq hq hht => ?_)
  · rw [B_push h0] at hht ⊢
    have h8 := (hC.2.2.1 u hun).1 h0
    rw [hht] at h8
    have h8 : h < 8 := (nI_ltI (b := 8) (by omega) (by omega)).mp h8
    refine ⟨h8, ?_, ?_⟩
    · show ht o u + rs (o u) = _
      rw [hht]
      rcases h0 with e | e <;> (rw [e]; exact z_a1 h)
    · have key : ∀ x : Int32, g_Machine_perform st vars kept (nI h) pr (o u) (w u) = some (upd st h x, vars, kept, nI (h + 1), pr) → x = ev o w vars u → ∃ st' : Nat → Int32, (∀ i, i < h → st' i = st i) ∧ st' h = ev o w vars u ∧ ∀ F : Nat, b_Walker_perform_9 ops nums (nI n) (F + (u + 1 - u)) st vars kept (nI h) pr (nI q) (nI u) = b_Walker_perform_9 ops nums (nI n) F st' vars kept (nI (h + 1)) pr (nI q) (nI (u + 1)) := by
        intro x e1 e2
        refine ⟨upd st h x, fun i hi => pk_un (by omega), by rw [pk_us]; exact e2, fun F => ?_⟩
        rw [show F + (u + 1 - u) = F + 1 by omega]
        exact pf_step hE hn hun huq (by omega) e1
      rcases h0 with e | e
      · refine key (w u) ?_ (ev_0 e).symm
        unfold g_Machine_perform
        rw [e, if_pos (show (0 : Int32) = 0 from rfl), z_bind (cl_push (by omega) _)]
      · obtain ⟨k, hk, ek⟩ := w_var hC.2.1 hun (Or.inl e)
        refine key (vars k) ?_ (by rw [ev_1 e, ek, z_cl (by omega)])
        unfold g_Machine_perform
        rw [e, if_neg (show ¬ (1 : Int32) = 0 by decide), if_pos (show (1 : Int32) = 1 from rfl), ek, z_bind (cl_var hk), z_bind (cl_push (by omega) _)]
  · have hl := B_le o (u - 1)
    rw [hB] at hht ⊢
    obtain ⟨a1, a2, st1, b1, b2, b3⟩ := ih (by omega) h q st hh (by omega) hq hht
    rw [show u - 1 + 1 = u by omega] at a2 b3
    refine ⟨a1, ?_, ?_⟩
    · show ht o u + rs (o u) = _
      rw [a2, h0]
      exact nI_add (h + 1) 0
    · refine ⟨upd st1 h (if st1 h = 0 then 1 else 0), fun i hi => by rw [pk_un (by omega)]; exact b1 i hi, by rw [pk_us, ev_7 h0 hu, b2], fun F => ?_⟩
      rw [show F + (u + 1 - B o (u - 1)) = F + 1 + (u - B o (u - 1)) by omega, b3 (F + 1)]
      refine pf_step hE hn hun huq (by omega) ?_
      unfold g_Machine_perform
      rw [h0, if_neg (show ¬ (7 : Int32) = 0 by decide), if_neg (show ¬ (7 : Int32) = 1 by decide), if_neg (show ¬ (7 : Int32) = 2 by decide), if_pos (show (7 : Int32) = 7 from rfl), z_bind (cl_pop (by omega))]
      dsimp only
      by_cases h9 : st1 h = 0
      · rw [if_pos h9, if_pos h9, z_bind (cl_push (by omega) _)]
      · rw [if_neg h9, if_neg h9, z_bind (cl_push (by omega) _)]
  · have hl := B_le o (u - 1)
    have hl2 := B_le o (B o (u - 1) - 1)
    rw [hB] at hht ⊢
    obtain ⟨a1, a2, st1, b1, b2, b3⟩ := ih2 (by omega) h q st hh (by omega) hq hht
    rw [show B o (u - 1) - 1 + 1 = B o (u - 1) by omega] at a2 b3
    obtain ⟨c1, c2, st2, d1, d2, d3⟩ := ih1 (by omega) (h + 1) q st1 (by omega) (by omega) hq a2
    rw [show u - 1 + 1 = u by omega] at c2 d3
    refine ⟨a1, ?_, ?_⟩
    · show ht o u + rs (o u) = _
      have er : rs (o u) = -1 := by rcases h0 with h | h | h | h <;> rw [h] <;> rfl
      rw [c2, er]
      exact z_m1 (by omega)
    · refine ⟨upd st2 h (both (o u) (st2 h) (st2 (h + 1))), fun i hi => by rw [pk_un (by omega), d1 i (by omega)]; exact b1 i hi, by rw [pk_us, ev_b h0 hu, d2, d1 h (by omega), b2], fun F => ?_⟩
      rw [show F + (u + 1 - B o (B o (u - 1) - 1)) = F + 1 + (u - B o (u - 1)) + (B o (u - 1) - B o (B o (u - 1) - 1)) by omega, b3, d3 (F + 1)]
      refine pf_step hE hn hun huq (by omega) ?_
      have n01 := h0.n01
      unfold g_Machine_perform
      rw [if_neg (fun e => n01 (Or.inl e)), if_neg (fun e => n01 (Or.inr e)), if_neg (show ¬ o u = 2 by rcases h0 with h | h | h | h <;> (rw [h]; decide)), if_neg h0.n7, if_neg (show ¬ o u = 10 by rcases h0 with h | h | h | h <;> (rw [h]; decide)), z_bind (cl_pop (by omega))]
      dsimp only
      rw [z_bind (cl_pop (by omega))]
      dsimp only
      rw [z_bind (cl_combined _ _ _), z_bind (cl_push (by omega) _)]
/-- the EXPRESSION from p to u - 1 -/
theorem pf_X {pr : Int32} {p u q : Nat} (hE : ∀ i, i < n → ops i = o i ∧ nums i = w i) (hC : okC o w n) (hp : ht o p = 0) (hX : EX o p 1 u) (hu : u < n) (huq : u ≤ q) (hq : q < 100) (st : Nat → Int32) : ∃ st' : Nat → Int32, st' 0 = ev o w vars (u - 1) ∧ ∀ F : Nat, b_Walker_perform_9 ops nums (nI n) (F + (u - p)) st vars kept 0 pr (nI q) (nI p) = b_Walker_perform_9 ops nums (nI n) F st' vars kept (nI 1) pr (nI q) (nI u) := by
  obtain ⟨h1, h2, h3, h4⟩ := hX
  have h4 : B o (u - 1) = p := h4
  obtain ⟨-, -, st', -, e1, e2⟩ := pf_E (vars := vars) (kept := kept) (pr := pr) hE hC (u - 1) h3 (by omega) 0 q st (by omega) (by omega) hq (by rw [h4]; exact hp)
  rw [h4, show u - 1 + 1 = u by omega] at e2
  exact ⟨st', e1, e2⟩
end
