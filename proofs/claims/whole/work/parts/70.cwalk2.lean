/-! the class walks its tree -/
theorem kn_sp {o w : Nat → Int32} {n f p q : Nat} (hC : okC o w n) (hV : VA o n p q) (hpq : p < q) (hk : kn o w (f + 1) p q = none) : RG o w n p q ∧ kn o w f (U o p + 1) (bq o w p q) = none ∧ kn o w f (cp o w p q) (cq o w p q) = none ∧ kn o w f (kp o w p q) q = none := by
  rw [kn, if_pos hpq] at hk
  rcases rg hC hV hpq with ⟨hk0, hR⟩ | ⟨hk0, -⟩
  · rw [if_neg hk0] at hk
    cases ea : kn o w f (U o p + 1) (bq o w p q) with
    | some z => rw [ea] at hk; cases hk
    | none =>
      cases eb : kn o w f (cp o w p q) (cq o w p q) with
      | some z => rw [ea, eb] at hk; cases hk
      | none =>
        rw [ea, eb] at hk
        exact ⟨hR, rfl, rfl, hk⟩
  · rw [if_pos hk0] at hk; cases hk
def RS9 (st : Nat → Int32) (r : Bool × ST) : Option (Int32 × (Nat → Int32) × (Nat → Int32) × (Nat → Int32) × Int32 × Int32 × Int32) := some (if r.1 = true then 1 else 0, st, r.2.1, r.2.2.1, 0, nI r.2.2.2.1, nI r.2.2.2.2)
theorem RS9_t {st : Nat → Int32} {r : Bool × ST} (h : r.1 = true) : RS9 st r = some (1, st, r.2.1, r.2.2.1, 0, nI r.2.2.2.1, nI r.2.2.2.2) := by unfold RS9; rw [if_pos h]
theorem RS9_f {st : Nat → Int32} {r : Bool × ST} (h : ¬ r.1 = true) : RS9 st r = some (0, st, r.2.1, r.2.2.1, 0, nI r.2.2.2.1, nI r.2.2.2.2) := by unfold RS9; rw [if_neg h]
section
variable {n N lim : Nat} {o w ops nums kinds froms marks parts others followers begins : Nat → Int32}
def CW (n N lim : Nat) (o w ops nums kinds froms marks parts others followers begins : Nat → Int32) (g : Nat) : Prop := ∀ (f p q m dd r W F : Nat) (s : ST) (st : Nat → Int32), VA o n p q → q - p < f → kn o w f p q = none → TB o w kinds froms marks parts others followers begins f m p q → m + cnt o w f p q ≤ N → dd ≤ 15 → r ≤ 15 → (p < q → 2 * dd ≤ p ∧ 2 * r ≤ p) → 50 ≤ W + 2 * dd → 40 ≤ F + r → s.2.2.2 ≤ lim → s.2.2.1 ≤ s.2.2.2 → lim - s.2.2.2 < g →
  ∃ st' : Nat → Int32, b_Walker_walkFrom_14 (gg_Walker_walkFrom W).2.1 (gg_Walker_walkFrom W).2.2 ops nums (nI n) kinds froms marks parts others followers (nI N) (nI lim) F st s.1 s.2.1 0 (nI s.2.2.1) (nI s.2.2.2) (nI dd) (ix p q m) (nI r) = RS9 st' (rn o w lim g p q s)
theorem wk_from {g f p q m dd W : Nat} (h : CW n N lim o w ops nums kinds froms marks parts others followers begins g) (s : ST) (st : Nat → Int32) (h1 : VA o n p q) (h2 : q - p < f) (h3 : kn o w f p q = none) (h4 : TB o w kinds froms marks parts others followers begins f m p q) (h5 : m + cnt o w f p q ≤ N) (h6 : dd ≤ 14) (h7 : p < q → 2 * (dd + 1) ≤ p) (h8 : 48 ≤ W + 2 * dd) (h9 : s.2.2.2 ≤ lim) (h10 : s.2.2.1 ≤ s.2.2.2) (h11 : lim - s.2.2.2 < g) : ∃ st' : Nat → Int32, (gg_Walker_walkFrom (W + 1)).1 ops nums (nI n) kinds froms marks parts others followers (nI N) st s.1 s.2.1 0 (nI s.2.2.1) (nI s.2.2.2) (nI lim) (ix p q m) (nI dd + 1) = RS9 st' (rn o w lim g p q s) := by
  obtain ⟨st', e⟩ := h f p q m (dd + 1) 0 W 500 s st h1 h2 h3 h4 h5 (by omega) (by omega) (fun x => ⟨h7 x, by omega⟩) (by omega) (by omega) h9 h10 h11
  refine ⟨st', ?_⟩
  show gb_Walker_walkFrom (gg_Walker_walkFrom W).2.1 (gg_Walker_walkFrom W).2.2 ops nums (nI n) kinds froms marks parts others followers (nI N) st s.1 s.2.1 0 (nI s.2.2.1) (nI s.2.2.2) (nI lim) (ix p q m) (nI dd + 1) = _
  unfold gb_Walker_walkFrom
  rw [z_a1, if_pos (show nI (dd + 1) ≤ 15 from nI_le (b := 15) (by omega) (by omega))]
  exact e
/-- a WHILE: its loop ends, or the walk does -/
theorem wk_loop {f p q m dd W : Nat} (hE : ∀ i, i < n → ops i = o i ∧ nums i = w i) (hC : okC o w n) (hN : N ≤ 15) (hlim : lim ≤ 400) (hV : VA o n p q) (hpq : p < q) (hR : RG o w n p q) (hm : m < N) (hk : kd o w p q = 11) (t2 : froms m = nI p) (t3 : marks m = nI (U o p)) (t4 : parts m = ix (U o p + 1) (bq o w p q) (m + 1)) (t8 : TB o w kinds froms marks parts others followers begins f (m + 1) (U o p + 1) (bq o w p q)) (hb : kn o w f (U o p + 1) (bq o w p q) = none) (hf : bq o w p q - (U o p + 1) < f) (hc : m + 1 + cnt o w f (U o p + 1) (bq o w p q) ≤ N) (hdd : dd ≤ 14) (hdp : 2 * dd ≤ p) (hW : 48 ≤ W + 2 * dd) (g0 : Nat) (ih : ∀ g, g < g0 → CW n N lim o w ops nums kinds froms marks parts others followers begins g) : ∀ (g R FL : Nat) (s : ST) (st : Nat → Int32), g ≤ g0 → lim - s.2.2.2 < g → R ≤ s.2.2.2 → s.2.2.2 ≤ lim → s.2.2.1 ≤ s.2.2.2 → 450 ≤ FL + R →
    (∃ (s2 : ST) (g2 : Nat) (st2 : Nat → Int32), g2 < g ∧ lim - s2.2.2.2 < g2 ∧ s2.2.2.2 ≤ lim ∧ s2.2.2.1 ≤ s2.2.2.2 ∧ b_Walker_walkLoop_3 (gg_Walker_walkFrom (W + 1)).1 ops nums (nI n) kinds froms marks parts others followers (nI N) (nI lim) FL st s.1 s.2.1 0 (nI s.2.2.1) (nI s.2.2.2) (nI m) (nI dd) (nI R) = RS9 st2 (true, s2) ∧ rn o w lim g p q s = rn o w lim g2 (kp o w p q) q s2) ∨
    (∃ st2 : Nat → Int32, b_Walker_walkLoop_3 (gg_Walker_walkFrom (W + 1)).1 ops nums (nI n) kinds froms marks parts others followers (nI N) (nI lim) FL st s.1 s.2.1 0 (nI s.2.2.1) (nI s.2.2.2) (nI m) (nI dd) (nI R) = RS9 st2 (rn o w lim g p q s) ∧ ¬ (rn o w lim g p q s).1 = true) := by
  intro g
  induction g with
  | zero => intro R FL s st _ h; omega
  | succ g ihg =>
    intro R FL s st hg hs hRd hsd hsp hFL
    obtain ⟨FL, rfl⟩ : ∃ F', FL = F' + 1 := ⟨FL - 1, by omega⟩
    rw [rn, if_pos hpq, b_Walker_walkLoop_3, if_neg (show ¬ (400 : Int32) < nI R from nI_nlt (a := 400) (b := R) (by omega) (by omega))]
    have h1 := hR.1
    by_cases hd : s.2.2.2 < lim
    · rw [if_pos hd, if_neg (by omega), if_neg (by omega), if_pos hk, z_bind (cM_spend hd hlim)]
      dsimp only
      obtain ⟨st1, e1⟩ := wk_val (st := st) (v := s.1) (k := s.2.1) (pr := nI s.2.2.1) hE hC hV hR hN hm t2 t3
      rw [if_neg (show ¬ (1 : Int32) = 0 by decide), z_bind e1]
      dsimp only
      by_cases hv : ev o w s.1 (U o p - 1) = 0
      · rw [if_pos hv, if_pos hv]
        exact Or.inl ⟨(s.1, s.2.1, s.2.2.1, s.2.2.2 + 1), g, st1, by omega, by dsimp only; omega, by dsimp only; omega, by dsimp only; omega, (RS9_t (r := (true, s.1, s.2.1, s.2.2.1, s.2.2.2 + 1)) rfl).symm, rfl⟩
      · rw [if_neg hv, if_neg hv, z_bind (cT_part hN hm), t4]
        obtain ⟨h1, h2, h3, h4, -, vb, -⟩ := hR
        obtain ⟨st3, e3⟩ := wk_from (ih g (by omega)) (s.1, s.2.1, s.2.2.1, s.2.2.2 + 1) st1 vb hf hb t8 hc hdd (fun _ => by omega) hW (by dsimp only; omega) (by dsimp only; omega) (by dsimp only; omega)
        have hmono := rn_mono (o := o) (w := w) (lim := lim) g (U o p + 1) (bq o w p q) (s.1, s.2.1, s.2.2.1, s.2.2.2 + 1) (by dsimp only; omega) (by dsimp only; omega)
        dsimp only at e3 hmono
        generalize rn o w lim g (U o p + 1) (bq o w p q) (s.1, s.2.1, s.2.2.1, s.2.2.2 + 1) = rb at *
        by_cases hr : rb.1 = true
        · rw [RS9_t hr] at e3
          rw [if_pos hr, z_bind e3]
          dsimp only
          rw [if_neg (show ¬ (1 : Int32) = 0 by decide), z_a1]
          exact (ihg (R + 1) FL rb.2 st3 (by omega) (by omega) (by omega) (by omega) (by omega) (by omega)).elim (fun ⟨s2, g2, st2, x1, x2, x3, x4, x5, x6⟩ => Or.inl ⟨s2, g2, st2, by omega, x2, x3, x4, x5, x6⟩) (fun h => Or.inr h)
        · rw [RS9_f hr] at e3
          rw [if_neg hr, z_bind e3]
          dsimp only
          rw [if_pos (show (0 : Int32) = 0 from rfl)]
          exact Or.inr ⟨st3, rfl, by decide⟩
    · rw [if_neg hd, z_bind (cM_spendN hd (by omega))]
      dsimp only
      rw [if_pos (show (0 : Int32) = 0 from rfl)]
      exact Or.inr ⟨st, rfl, by decide⟩
set_option maxHeartbeats 4000000 in
theorem cw_all (hE : ∀ i, i < n → ops i = o i ∧ nums i = w i) (hC : okC o w n) (hN : N ≤ 15) (hlim : lim ≤ 400) : ∀ g, CW n N lim o w ops nums kinds froms marks parts others followers begins g := by
  have hn := hC.1
  intro g
  induction g using Nat.strongRecOn with
  | ind g ih =>
    intro f p q m dd r W F s st hV hf hk hT hm hdd hr hpq' hW hF hd hpr hg
    have hqn := hV.2.1
    have hpq0 := hV.1
    obtain ⟨F, rfl⟩ : ∃ F', F = F' + 1 := ⟨F - 1, by omega⟩
    obtain ⟨g, rfl⟩ : ∃ g', g = g' + 1 := ⟨g - 1, by omega⟩
    obtain ⟨f, rfl⟩ : ∃ f', f = f' + 1 := ⟨f - 1, by omega⟩
    by_cases hpq : p < q
    · obtain ⟨hR, kb, kc, kk⟩ := kn_sp hC hV hpq hk
      obtain ⟨d1, d2⟩ := hpq' hpq
      have hsz := hR.sz
      have hR' := hR
      obtain ⟨h1, h2, h3, h4, -, vb, vc, vk, hbk, hK⟩ := hR
      have vb1 := vb.1
      have vc1 := vc.1
      have vk1 := vk.1
      obtain ⟨t1, t2, t3, t4, t5, t6, t7, t8, t9, t10⟩ := hT hpq
      rw [cnt, if_pos hpq] at hm
      have hmN : m < N := by omega
      obtain ⟨W, rfl⟩ : ∃ W', W = W' + 2 := ⟨W - 2, by omega⟩
      have ei : ix p q m = nI m := if_pos hpq
      have hkk := hK.k
      -- what follows the STATEMENT
      have next : ∀ (g2 : Nat) (s2 : ST) (st2 : Nat → Int32), g2 < g + 1 → lim - s2.2.2.2 < g2 → s2.2.2.2 ≤ lim → s2.2.2.1 ≤ s2.2.2.2 → ∃ st' : Nat → Int32, b_Walker_walkFrom_14 (gg_Walker_walkFrom (W + 2)).2.1 (gg_Walker_walkFrom (W + 2)).2.2 ops nums (nI n) kinds froms marks parts others followers (nI N) (nI lim) F st2 s2.1 s2.2.1 0 (nI s2.2.2.1) (nI s2.2.2.2) (nI dd) (ix (kp o w p q) q (m + 1 + cnt o w f (U o p + 1) (bq o w p q) + cnt o w f (cp o w p q) (cq o w p q))) (nI r + 1) = RS9 st' (rn o w lim g2 (kp o w p q) q s2) := by
        intro g2 s2 st2 x1 x2 x3 x4
        rw [z_a1]
        exact ih g2 x1 f (kp o w p q) q _ dd (r + 1) (W + 2) F s2 st2 vk (by omega) kk t10 (by omega) hdd (by omega) (fun _ => by omega) hW (by omega) x3 x4 x2
      rw [b_Walker_walkFrom_14, ei, if_neg (show ¬ (15 : Int32) ≤ nI r from nI_ge (b := 15) (by omega) (by omega)), z_bind (cT_holds hN hmN), if_neg (show ¬ (1 : Int32) = 0 by decide), z_bind (cT_kind hN hmN), t1]
      by_cases h11 : kd o w p q = 11
      · have el : ∀ X, (gg_Walker_walkFrom (W + 2)).2.1 ops nums (nI n) kinds froms marks parts others followers (nI N) st s.1 s.2.1 0 (nI s.2.2.1) (nI s.2.2.2) (nI lim) (nI m) (nI dd) = X ↔ b_Walker_walkLoop_3 (gg_Walker_walkFrom (W + 1)).1 ops nums (nI n) kinds froms marks parts others followers (nI N) (nI lim) 500 st s.1 s.2.1 0 (nI s.2.2.1) (nI s.2.2.2) (nI m) (nI dd) (nI 0) = X := fun X => Iff.rfl
        rw [if_pos (show nI (kd o w p q) = 11 by rw [h11]; rfl)]
        rcases wk_loop (W := W) (f := f) hE hC hN hlim hV hpq hR' hmN h11 t2 t3 t4 t8 kb (by omega) (by omega) (show dd ≤ 14 by omega) d1 (by omega) (g + 1) ih (g + 1) 0 500 s st (Nat.le_refl _) hg (by omega) hd hpr (by omega) with ⟨s2, g2, st2, x1, x2, x3, x4, x5, x6⟩ | ⟨st2, x5, x6⟩
        · rw [← el, RS9_t rfl] at x5
          rw [z_bind x5]
          dsimp only
          rw [if_neg (show ¬ (1 : Int32) = 0 by decide), z_bind (cT_follower hN hmN), t6, x6]
          exact next g2 s2 st2 x1 x2 x3 x4
        · rw [← el, RS9_f x6] at x5
          rw [z_bind x5]
          dsimp only
          rw [if_pos (show (0 : Int32) = 0 from rfl)]
          exact ⟨st2, (RS9_f x6).symm⟩
      · rw [if_neg (show ¬ nI (kd o w p q) = 11 by rw [show (11 : Int32) = nI 11 from rfl, nI_eq (by omega) (by omega)]; exact h11)]
        have stm : ∀ (ok : Int32) (st2 : Nat → Int32) (s2 : ST), gb_Walker_walkStatement (gg_Walker_walkFrom (W + 1)).1 ops nums (nI n) kinds froms marks parts others followers (nI N) st s.1 s.2.1 0 (nI s.2.2.1) (nI s.2.2.2) (nI lim) (nI m) (nI dd) = some (ok, st2, s2.1, s2.2.1, 0, nI s2.2.2.1, nI s2.2.2.2) → (gg_Walker_walkFrom (W + 2)).2.2 ops nums (nI n) kinds froms marks parts others followers (nI N) st s.1 s.2.1 0 (nI s.2.2.1) (nI s.2.2.2) (nI lim) (nI m) (nI dd) = some (ok, st2, s2.1, s2.2.1, 0, nI s2.2.2.1, nI s2.2.2.2) := fun _ _ _ h => h
        rw [rn, if_pos hpq]
        by_cases hdl : s.2.2.2 < lim
        · rw [if_pos hdl]
          have n2 : nI (kd o w p q) = 2 ↔ kd o w p q = 2 := nI_eq (b := 2) (by omega) (by omega)
          have n10 : nI (kd o w p q) = 10 ↔ kd o w p q = 10 := nI_eq (b := 10) (by omega) (by omega)
          obtain ⟨ws, wp⟩ := wk_st (kinds := kinds) (parts := parts) (others := others) (followers := followers) (st := st) (v := s.1) (k := s.2.1) (pr := s.2.2.1) (dn := nI (s.2.2.2 + 1)) (lm := nI lim) (f9 := (gg_Walker_walkFrom (W + 1)).1) hE hC hV hR' hN hmN t2 t3 (by omega)
          by_cases k2 : kd o w p q = 2
          · obtain ⟨st2, e2⟩ := ws (hK.o2 k2)
            have e3 := stm 1 st2 (upd s.1 (tg w (U o p)) (ev o w s.1 (U o p - 1)), s.2.1, s.2.2.1, s.2.2.2 + 1) (by
              unfold gb_Walker_walkStatement
              rw [z_bind (cM_spend hdl hlim)]
              dsimp only
              rw [if_neg (show ¬ (1 : Int32) = 0 by decide), z_bind (cT_kind hN hmN), t1, if_pos (n2.mpr k2)]
              exact e2)
            rw [if_pos k2, z_bind e3]
            dsimp only
            rw [if_neg (show ¬ (1 : Int32) = 0 by decide), z_bind (cT_follower hN hmN), t6]
            exact next g (upd s.1 (tg w (U o p)) (ev o w s.1 (U o p - 1)), s.2.1, s.2.2.1, s.2.2.2 + 1) st2 (by omega) (by dsimp only; omega) (by dsimp only; omega) (by dsimp only; omega)
          · rw [if_neg k2]
            by_cases k10 : kd o w p q = 10
            · have ho : o (U o p) = 10 := by
                rcases hK with ⟨e, -⟩ | ⟨-, e, -⟩ | ⟨e, -⟩ | ⟨e, -⟩ | ⟨e, -⟩
                · omega
                · exact e
                · omega
                · omega
                · omega
              obtain ⟨st2, e2⟩ := wp ho
              have e3 := stm 1 st2 (s.1, pk9 s.2.1 s.2.2.1 (ev o w s.1 (U o p - 1)), s.2.2.1 + 1, s.2.2.2 + 1) (by
                unfold gb_Walker_walkStatement
                rw [z_bind (cM_spend hdl hlim)]
                dsimp only
                rw [if_neg (show ¬ (1 : Int32) = 0 by decide), z_bind (cT_kind hN hmN), t1, if_neg (fun e => k2 (n2.mp e)), if_pos (n10.mpr k10)]
                exact e2)
              rw [if_pos k10, z_bind e3]
              dsimp only
              rw [if_neg (show ¬ (1 : Int32) = 0 by decide), z_bind (cT_follower hN hmN), t6]
              exact next g (s.1, pk9 s.2.1 s.2.2.1 (ev o w s.1 (U o p - 1)), s.2.2.1 + 1, s.2.2.2 + 1) st2 (by omega) (by dsimp only; omega) (by dsimp only; omega) (by dsimp only; omega)
            · rw [if_neg k10, if_neg h11]
              obtain ⟨st1, e1⟩ := wk_val (st := st) (v := s.1) (k := s.2.1) (pr := nI s.2.2.1) hE hC hV hR' hN hmN t2 t3
              have hcp : cp o w p q < cq o w p q → 2 * (dd + 1) ≤ cp o w p q := by
                intro hlt
                rcases hK with ⟨e, -⟩ | ⟨e, -⟩ | ⟨e, -⟩ | ⟨-, -, t, -, a1, a2, e1, e2, e3, e4, -⟩ | ⟨-, -, t, e', -, a1, a2, -, -, -, a3, a4, e1, e2, e3, e4⟩ <;> omega
              have blk : ∃ (st3 : Nat → Int32), gb_Walker_walkStatement (gg_Walker_walkFrom (W + 1)).1 ops nums (nI n) kinds froms marks parts others followers (nI N) st s.1 s.2.1 0 (nI s.2.2.1) (nI s.2.2.2) (nI lim) (nI m) (nI dd) = RS9 st3 (rn o w lim g (if ev o w s.1 (U o p - 1) = 0 then cp o w p q else U o p + 1) (if ev o w s.1 (U o p - 1) = 0 then cq o w p q else bq o w p q) (s.1, s.2.1, s.2.2.1, s.2.2.2 + 1)) := by
                unfold gb_Walker_walkStatement
                rw [z_bind (cM_spend hdl hlim)]
                dsimp only
                rw [if_neg (show ¬ (1 : Int32) = 0 by decide), z_bind (cT_kind hN hmN), t1, if_neg (fun e => k2 (n2.mp e)), if_neg (fun e => k10 (n10.mp e)), z_bind e1]
                dsimp only
                have fin : ∀ (st3 : Nat → Int32) (rb : Bool × ST) (x : Option (Int32 × (Nat → Int32) × (Nat → Int32) × (Nat → Int32) × Int32 × Int32 × Int32)), x = RS9 st3 rb → (x.bind fun q2 => if q2.1 = 0 ∨ q2.1 = 1 then some (q2.1, q2.2.1, q2.2.2.1, q2.2.2.2.1, q2.2.2.2.2.1, q2.2.2.2.2.2.1, q2.2.2.2.2.2.2) else none) = RS9 st3 rb := by
                  intro st3 rb x hx
                  rw [hx]
                  by_cases hb : rb.1 = true
                  · rw [RS9_t hb]
                    rfl
                  · rw [RS9_f hb]
                    rfl
                by_cases hv : ev o w s.1 (U o p - 1) = 0
                · rw [if_pos hv, if_pos hv, if_pos hv]
                  obtain ⟨st3, e3⟩ := wk_from (ih g (by omega)) (s.1, s.2.1, s.2.2.1, s.2.2.2 + 1) st1 vc (show cq o w p q - cp o w p q < f by omega) kc t9 (by omega) (show dd ≤ 14 by omega) hcp (show 48 ≤ W + 2 * dd by omega) (by dsimp only; omega) (by dsimp only; omega) (by dsimp only; omega)
                  unfold b_Walker_walkStatement_62
                  rw [if_pos (show (0 : Int32) = 0 from rfl), z_bind (cT_other hN hmN), t5]
                  exact ⟨st3, fin _ _ _ e3⟩
                · rw [if_neg hv, if_neg hv, if_neg hv]
                  obtain ⟨st3, e3⟩ := wk_from (ih g (by omega)) (s.1, s.2.1, s.2.2.1, s.2.2.2 + 1) st1 vb (show bq o w p q - (U o p + 1) < f by omega) kb t8 (by omega) (show dd ≤ 14 by omega) (fun _ => by omega) (show 48 ≤ W + 2 * dd by omega) (by dsimp only; omega) (by dsimp only; omega) (by dsimp only; omega)
                  unfold b_Walker_walkStatement_62
                  rw [if_neg (show ¬ (1 : Int32) = 0 by decide), z_bind (cT_part hN hmN), t4]
                  exact ⟨st3, fin _ _ _ e3⟩
              obtain ⟨st3, e3⟩ := blk
              have hmono := rn_mono (o := o) (w := w) (lim := lim) g (if ev o w s.1 (U o p - 1) = 0 then cp o w p q else U o p + 1) (if ev o w s.1 (U o p - 1) = 0 then cq o w p q else bq o w p q) (s.1, s.2.1, s.2.2.1, s.2.2.2 + 1) (by dsimp only; omega) (by dsimp only; omega)
              dsimp only at hmono
              generalize rn o w lim g (if ev o w s.1 (U o p - 1) = 0 then cp o w p q else U o p + 1) (if ev o w s.1 (U o p - 1) = 0 then cq o w p q else bq o w p q) (s.1, s.2.1, s.2.2.1, s.2.2.2 + 1) = rb at *
              by_cases hb : rb.1 = true
              · rw [RS9_t hb] at e3
                have e4 := stm 1 st3 rb.2 e3
                rw [if_pos hb, z_bind e4]
                dsimp only
                rw [if_neg (show ¬ (1 : Int32) = 0 by decide), z_bind (cT_follower hN hmN), t6]
                exact next g rb.2 st3 (by omega) (by omega) (by omega) (by omega)
              · rw [RS9_f hb] at e3
                have e4 := stm 0 st3 rb.2 e3
                rw [if_neg hb, z_bind e4]
                dsimp only
                rw [if_pos (show (0 : Int32) = 0 from rfl)]
                exact ⟨st3, rfl⟩
        · have e4 := stm 0 st s (by
            unfold gb_Walker_walkStatement
            rw [z_bind (cM_spendN hdl (by omega))]
            dsimp only
            rw [if_pos (show (0 : Int32) = 0 from rfl)])
          rw [if_neg hdl, z_bind e4]
          dsimp only
          rw [if_pos (show (0 : Int32) = 0 from rfl)]
          exact ⟨st, rfl⟩
    · refine ⟨st, ?_⟩
      rw [rn, if_neg hpq, b_Walker_walkFrom_14, ix_nil hpq, z_bind (cT_holdsN _), if_pos (show (0 : Int32) = 0 from rfl), RS9_t rfl]
      by_cases h15 : (15 : Int32) ≤ nI r
      · rw [if_pos h15]
      · rw [if_neg h15]
end
