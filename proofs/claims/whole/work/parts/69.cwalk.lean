/-! walk: what both sides do, and the class -/
abbrev ST := (Nat → Int32) × (Nat → Int32) × Nat × Nat
def pk9 (k : Nat → Int32) (pr : Nat) (x : Int32) : Nat → Int32 := if 20 ≤ pr then k else upd k pr x
/-- the walk of a range; s: VARIABLES, OUTPUT, how much was printed, how much is done -/
def rn (o w : Nat → Int32) (lim : Nat) : Nat → Nat → Nat → ST → Bool × ST
  | 0, _, _, s => (false, s)
  | g + 1, p, q, s => if p < q then (if s.2.2.2 < lim then
      (if kd o w p q = 2 then rn o w lim g (kp o w p q) q (upd s.1 (tg w (U o p)) (ev o w s.1 (U o p - 1)), s.2.1, s.2.2.1, s.2.2.2 + 1)
       else if kd o w p q = 10 then rn o w lim g (kp o w p q) q (s.1, pk9 s.2.1 s.2.2.1 (ev o w s.1 (U o p - 1)), s.2.2.1 + 1, s.2.2.2 + 1)
       else if kd o w p q = 11 then (if ev o w s.1 (U o p - 1) = 0 then rn o w lim g (kp o w p q) q (s.1, s.2.1, s.2.2.1, s.2.2.2 + 1)
         else (if (rn o w lim g (U o p + 1) (bq o w p q) (s.1, s.2.1, s.2.2.1, s.2.2.2 + 1)).1 = true then rn o w lim g p q (rn o w lim g (U o p + 1) (bq o w p q) (s.1, s.2.1, s.2.2.1, s.2.2.2 + 1)).2 else (false, (rn o w lim g (U o p + 1) (bq o w p q) (s.1, s.2.1, s.2.2.1, s.2.2.2 + 1)).2)))
       else (if (rn o w lim g (if ev o w s.1 (U o p - 1) = 0 then cp o w p q else U o p + 1) (if ev o w s.1 (U o p - 1) = 0 then cq o w p q else bq o w p q) (s.1, s.2.1, s.2.2.1, s.2.2.2 + 1)).1 = true then rn o w lim g (kp o w p q) q (rn o w lim g (if ev o w s.1 (U o p - 1) = 0 then cp o w p q else U o p + 1) (if ev o w s.1 (U o p - 1) = 0 then cq o w p q else bq o w p q) (s.1, s.2.1, s.2.2.1, s.2.2.2 + 1)).2 else (false, (rn o w lim g (if ev o w s.1 (U o p - 1) = 0 then cp o w p q else U o p + 1) (if ev o w s.1 (U o p - 1) = 0 then cq o w p q else bq o w p q) (s.1, s.2.1, s.2.2.1, s.2.2.2 + 1)).2)))
     else (false, s)) else (true, s)
theorem rn_mono {o w : Nat → Int32} {lim : Nat} : ∀ (g p q : Nat) (s : ST), s.2.2.2 ≤ lim → s.2.2.1 ≤ s.2.2.2 → s.2.2.2 ≤ (rn o w lim g p q s).2.2.2.2 ∧ (rn o w lim g p q s).2.2.2.2 ≤ lim ∧ (rn o w lim g p q s).2.2.2.1 ≤ (rn o w lim g p q s).2.2.2.2 := by
  intro g
  induction g with
  | zero => intro p q s h1 h2; exact ⟨Nat.le_refl _, h1, h2⟩
  | succ g ih =>
    intro p q s h1 h2
    rw [rn]
    by_cases hpq : p < q
    · rw [if_pos hpq]
      by_cases hd : s.2.2.2 < lim
      · rw [if_pos hd]
        by_cases h3 : kd o w p q = 2
        · rw [if_pos h3]
          have := ih (kp o w p q) q (upd s.1 (tg w (U o p)) (ev o w s.1 (U o p - 1)), s.2.1, s.2.2.1, s.2.2.2 + 1) (by dsimp only; omega) (by dsimp only; omega)
          dsimp only at this ⊢
          omega
        · rw [if_neg h3]
          by_cases h4 : kd o w p q = 10
          · rw [if_pos h4]
            have := ih (kp o w p q) q (s.1, pk9 s.2.1 s.2.2.1 (ev o w s.1 (U o p - 1)), s.2.2.1 + 1, s.2.2.2 + 1) (by dsimp only; omega) (by dsimp only; omega)
            dsimp only at this ⊢
            omega
          · rw [if_neg h4]
            by_cases h5 : kd o w p q = 11
            · rw [if_pos h5]
              by_cases h6 : ev o w s.1 (U o p - 1) = 0
              · rw [if_pos h6]
                have := ih (kp o w p q) q (s.1, s.2.1, s.2.2.1, s.2.2.2 + 1) (by dsimp only; omega) (by dsimp only; omega)
                dsimp only at this ⊢
                omega
              · rw [if_neg h6]
                have a := ih (U o p + 1) (bq o w p q) (s.1, s.2.1, s.2.2.1, s.2.2.2 + 1) (by dsimp only; omega) (by dsimp only; omega)
                dsimp only at a
                by_cases h7 : (rn o w lim g (U o p + 1) (bq o w p q) (s.1, s.2.1, s.2.2.1, s.2.2.2 + 1)).1 = true
                · rw [if_pos h7]
                  have := ih p q (rn o w lim g (U o p + 1) (bq o w p q) (s.1, s.2.1, s.2.2.1, s.2.2.2 + 1)).2 a.2.1 a.2.2
                  omega
                · rw [if_neg h7]
                  dsimp only
                  omega
            · rw [if_neg h5]
              have a := ih (if ev o w s.1 (U o p - 1) = 0 then cp o w p q else U o p + 1) (if ev o w s.1 (U o p - 1) = 0 then cq o w p q else bq o w p q) (s.1, s.2.1, s.2.2.1, s.2.2.2 + 1) (by dsimp only; omega) (by dsimp only; omega)
              dsimp only at a
              by_cases h7 : (rn o w lim g (if ev o w s.1 (U o p - 1) = 0 then cp o w p q else U o p + 1) (if ev o w s.1 (U o p - 1) = 0 then cq o w p q else bq o w p q) (s.1, s.2.1, s.2.2.1, s.2.2.2 + 1)).1 = true
              · rw [if_pos h7]
                have := ih (kp o w p q) q _ a.2.1 a.2.2
                omega
              · rw [if_neg h7]
                dsimp only
                omega
      · rw [if_neg hd]
        exact ⟨Nat.le_refl _, h1, h2⟩
    · rw [if_neg hpq]
      exact ⟨Nat.le_refl _, h1, h2⟩
theorem cM_spend {d lim : Nat} (h : d < lim) (hl : lim ≤ 400) : g_Machine_spend (nI d) (nI lim) = some (1, nI (d + 1)) := by
  unfold g_Machine_spend
  rw [if_pos (nI_lt h (by omega)), z_a1]
theorem cM_spendN {d lim : Nat} (h : ¬ d < lim) (hd : d ≤ 400) : g_Machine_spend (nI d) (nI lim) = some (0, nI d) := by
  unfold g_Machine_spend
  rw [if_neg (nI_nlt (by omega) (by omega))]
theorem cM_print {pr : Nat} {k : Nat → Int32} (h : pr < 1000) (x : Int32) : g_Machine_print k (nI pr) x = some (pk9 k pr x, nI (pr + 1)) := by
  unfold g_Machine_print pk9
  by_cases e : 20 ≤ pr
  · rw [if_pos (show (20 : Int32) ≤ nI pr from nI_le (a := 20) e (by omega)), if_pos e, z_a1]
  · rw [if_neg (show ¬ (20 : Int32) ≤ nI pr from nI_ge (b := 20) (by omega) (by omega)), if_neg e, if_pos (z_ck (by omega) (by omega)), z_cl (by omega), z_a1]
section
variable {n N : Nat} {o w ops nums kinds froms marks parts others followers : Nat → Int32}
theorem wk_val {p q m : Nat} {st v k : Nat → Int32} {pr : Int32} (hE : ∀ i, i < n → ops i = o i ∧ nums i = w i) (hC : okC o w n) (hV : VA o n p q) (hR : RG o w n p q) (hN : N ≤ 15) (hm : m < N) (h1 : froms m = nI p) (h2 : marks m = nI (U o p)) : ∃ st' : Nat → Int32, g_Walker_valueOf ops nums (nI n) froms marks (nI N) st v k 0 pr (nI m) = some (ev o w v (U o p - 1), st', v, k, 0, pr) := by
  have hn := hC.1
  have hqn := hV.2.1
  obtain ⟨a1, a2, a3, a4, a5, -⟩ := hR
  obtain ⟨st', e1, e2⟩ := pf_X (vars := v) (kept := k) (pr := pr) hE hC hV.2.2.1 a5 (show U o p < n by omega) (Nat.le_refl _) (by omega) st
  refine ⟨st', ?_⟩
  unfold g_Walker_valueOf
  rw [z_bind (cT_from hN hm), z_bind (cT_mark hN hm), h1, h2]
  have e3 : g_Walker_perform ops nums (nI n) st v k 0 pr (nI p) (nI (U o p)) = some (st', v, k, nI 1, pr) := by
    unfold g_Walker_perform
    have e4 := e2 (500 - (U o p - p))
    rw [show 500 - (U o p - p) + (U o p - p) = 500 by omega] at e4
    rw [e4, show 500 - (U o p - p) = (500 - (U o p - p) - 1) + 1 by omega, b_Walker_perform_9, if_pos (nI_le (Nat.le_refl _) (by omega))]
  rw [z_bind e3]
  dsimp only
  have e5 : g_Machine_pop st' (nI 1) = some (st' 0, nI 0) := cl_pop (h := 0) (by omega)
  rw [z_bind e5, e1]
  rfl
theorem wk_st {p q m : Nat} {st v k : Nat → Int32} {pr : Nat} {dn lm : Int32} {f9 : (Nat → Int32) → (Nat → Int32) → Int32 → (Nat → Int32) → (Nat → Int32) → (Nat → Int32) → (Nat → Int32) → (Nat → Int32) → (Nat → Int32) → Int32 → (Nat → Int32) → (Nat → Int32) → (Nat → Int32) → Int32 → Int32 → Int32 → Int32 → Int32 → Int32 → Option (Int32 × (Nat → Int32) × (Nat → Int32) × (Nat → Int32) × Int32 × Int32 × Int32)} (hE : ∀ i, i < n → ops i = o i ∧ nums i = w i) (hC : okC o w n) (hV : VA o n p q) (hR : RG o w n p q) (hN : N ≤ 15) (hm : m < N) (h1 : froms m = nI p) (h2 : marks m = nI (U o p)) (hpr : pr < 1000) : (o (U o p) = 2 → ∃ st' : Nat → Int32, b_Walker_walkStatement_29 f9 ops nums (nI n) kinds froms marks parts others followers (nI N) lm st v k 0 (nI pr) dn (nI m) = some (1, st', upd v (tg w (U o p)) (ev o w v (U o p - 1)), k, 0, nI pr, dn)) ∧ (o (U o p) = 10 → ∃ st' : Nat → Int32, b_Walker_walkStatement_29 f9 ops nums (nI n) kinds froms marks parts others followers (nI N) lm st v k 0 (nI pr) dn (nI m) = some (1, st', v, pk9 k pr (ev o w v (U o p - 1)), 0, nI (pr + 1), dn)) := by
  have hn := hC.1
  have hqn := hV.2.1
  obtain ⟨a1, a2, a3, a4, a5, -⟩ := hR
  obtain ⟨st', e1, e2⟩ := pf_X (vars := v) (kept := k) (pr := nI pr) hE hC hV.2.2.1 a5 (show U o p < n by omega) (show U o p ≤ U o p + 1 by omega) (by omega) st
  have e5 : g_Machine_pop st' (nI 1) = some (st' 0, nI 0) := cl_pop (h := 0) (by omega)
  have key : ∀ (v' k' : Nat → Int32) (pr' : Int32), g_Machine_perform st' v k (nI 1) (nI pr) (o (U o p)) (w (U o p)) = some (st', v', k', nI 0, pr') → b_Walker_walkStatement_29 f9 ops nums (nI n) kinds froms marks parts others followers (nI N) lm st v k 0 (nI pr) dn (nI m) = some (1, st', v', k', 0, pr', dn) := by
    intro v' k' pr' e6
    unfold b_Walker_walkStatement_29
    rw [z_bind (cT_from hN hm), z_bind (cT_mark hN hm), h1, h2, z_a1]
    have e3 : g_Walker_perform ops nums (nI n) st v k 0 (nI pr) (nI p) (nI (U o p + 1)) = some (st', v', k', nI 0, pr') := by
      unfold g_Walker_perform
      have e4 := e2 (500 - (U o p - p))
      rw [show 500 - (U o p - p) + (U o p - p) = 500 by omega] at e4
      rw [e4, show 500 - (U o p - p) = (500 - (U o p - p) - 2) + 1 + 1 by omega, pf_step hE hn (show U o p < n by omega) (by omega) (by omega) e6, b_Walker_perform_9, if_pos (nI_le (Nat.le_refl _) (by omega))]
    rw [z_bind e3]
    rfl
  refine ⟨fun h => ⟨st', key _ _ _ ?_⟩, fun h => ⟨st', key _ _ _ ?_⟩⟩
  · obtain ⟨a, ha, ea⟩ := w_var hC.2.1 (show U o p < n by omega) (Or.inr h)
    unfold g_Machine_perform
    rw [h, ea, if_neg (show ¬ (2 : Int32) = 0 by decide), if_neg (show ¬ (2 : Int32) = 1 by decide), if_pos (show (2 : Int32) = 2 from rfl), z_bind e5, z_bind (cl_keepv ha), tg_n ea (by omega), e1]
  · unfold g_Machine_perform
    rw [h, if_neg (show ¬ (10 : Int32) = 0 by decide), if_neg (show ¬ (10 : Int32) = 1 by decide), if_neg (show ¬ (10 : Int32) = 2 by decide), if_neg (show ¬ (10 : Int32) = 7 by decide), if_pos (show (10 : Int32) = 10 from rfl), z_bind e5]
    dsimp only
    rw [z_bind (cM_print hpr _), e1]
end
