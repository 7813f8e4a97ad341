/-! STATEMENTS in the CODE: ranges of PLACES, their kinds and parts -/
def tg (w : Nat → Int32) (i : Nat) : Nat := (w i).toNatClampNeg
def kd (o w : Nat → Int32) (p q : Nat) : Nat :=
  if o (U o p) = 2 then 2 else if o (U o p) = 10 then 10 else if o (U o p) = 9 then
    (if tg w (U o p) ≤ U o p ∨ q < tg w (U o p) then 0
     else if U o p < tg w (U o p) - 1 ∧ o (tg w (U o p) - 1) = 8 then
       (if tg w (tg w (U o p) - 1) = p then 11 else if tg w (U o p) ≤ tg w (tg w (U o p) - 1) ∧ tg w (tg w (U o p) - 1) ≤ q then 13 else 12)
     else 12)
  else 0
def bq (o w : Nat → Int32) (p q : Nat) : Nat := if kd o w p q = 11 ∨ kd o w p q = 13 then tg w (U o p) - 1 else if kd o w p q = 12 then tg w (U o p) else U o p + 1
def cp (o w : Nat → Int32) (p q : Nat) : Nat := if kd o w p q = 13 then tg w (U o p) else 0
def cq (o w : Nat → Int32) (p q : Nat) : Nat := if kd o w p q = 13 then tg w (tg w (U o p) - 1) else 0
def kp (o w : Nat → Int32) (p q : Nat) : Nat := if kd o w p q = 13 then tg w (tg w (U o p) - 1) else if kd o w p q = 11 ∨ kd o w p q = 12 then tg w (U o p) else U o p + 1
/-- a range whose HEIGHTS are 0 at both ends -/
def VA (o : Nat → Int32) (n p q : Nat) : Prop := p ≤ q ∧ q ≤ n ∧ ht o p = 0 ∧ ht o q = 0
theorem U_ltq {o w : Nat → Int32} {n p q : Nat} (hC : okC o w n) (hV : VA o n p q) (hpq : p < q) : U o p < q := by
  obtain ⟨-, hqn, hp, hq⟩ := hV
  obtain ⟨h1, h2, h3, h4, -⟩ := U_spec hC hp (by omega)
  apply Classical.byContradiction
  intro hno
  obtain ⟨k, hk, e1, e2⟩ := ht_ex hC hp (q - p) q (by omega) hqn (fun j a b => h4 j a (by omega))
  rw [hq] at e1
  have hk0 : k = 0 := by
    have := congrArg Int32.toInt e1
    rw [z_tI (by omega), zi_0] at this
    omega
  subst hk0
  have : q = p := e2
  omega
def KI (o w : Nat → Int32) (n p q : Nat) : Prop :=
  (kd o w p q = 2 ∧ o (U o p) = 2 ∧ bq o w p q = U o p + 1 ∧ kp o w p q = U o p + 1 ∧ cp o w p q = 0 ∧ cq o w p q = 0) ∨
  (kd o w p q = 10 ∧ o (U o p) = 10 ∧ bq o w p q = U o p + 1 ∧ kp o w p q = U o p + 1 ∧ cp o w p q = 0 ∧ cq o w p q = 0) ∨
  (kd o w p q = 11 ∧ o (U o p) = 9 ∧ ∃ t : Nat, w (U o p) = nI t ∧ U o p < t - 1 ∧ t ≤ q ∧ o (t - 1) = 8 ∧ w (t - 1) = nI p ∧ bq o w p q = t - 1 ∧ kp o w p q = t ∧ cp o w p q = 0 ∧ cq o w p q = 0) ∨
  (kd o w p q = 12 ∧ o (U o p) = 9 ∧ ∃ t : Nat, w (U o p) = nI t ∧ U o p < t ∧ t ≤ q ∧ bq o w p q = t ∧ kp o w p q = t ∧ cp o w p q = 0 ∧ cq o w p q = 0 ∧ ((¬ (U o p < t - 1 ∧ o (t - 1) = 8)) ∨ (U o p < t - 1 ∧ o (t - 1) = 8 ∧ ∃ e : Nat, e ≤ n ∧ w (t - 1) = nI e ∧ e ≠ p ∧ (e < t ∨ q < e)))) ∨
  (kd o w p q = 13 ∧ o (U o p) = 9 ∧ ∃ t e : Nat, w (U o p) = nI t ∧ U o p < t - 1 ∧ t ≤ q ∧ o (t - 1) = 8 ∧ w (t - 1) = nI e ∧ e ≠ p ∧ t ≤ e ∧ e ≤ q ∧ bq o w p q = t - 1 ∧ cp o w p q = t ∧ cq o w p q = e ∧ kp o w p q = e)
/-- a STATEMENT without knot at p -/
def RG (o w : Nat → Int32) (n p q : Nat) : Prop :=
  p < U o p ∧ U o p < q ∧ vd o (U o p - 1) ∧ B o (U o p - 1) = p ∧ EX o p 1 (U o p) ∧ VA o n (U o p + 1) (bq o w p q) ∧ VA o n (cp o w p q) (cq o w p q) ∧ VA o n (kp o w p q) q ∧ bq o w p q ≤ kp o w p q ∧ KI o w n p q
theorem tg_n {w : Nat → Int32} {i k : Nat} (h : w i = nI k) (hk : k < 1000) : tg w i = k := by
  unfold tg
  rw [h, z_cl (by omega)]
theorem rg {o w : Nat → Int32} {n p q : Nat} (hC : okC o w n) (hV : VA o n p q) (hpq : p < q) : (kd o w p q ≠ 0 ∧ RG o w n p q) ∨ (kd o w p q = 0 ∧ U o p < q ∧ p ≤ U o p ∧ ((o (U o p) = 8 ∧ U o p = p) ∨ (o (U o p) = 9 ∧ EX o p 1 (U o p) ∧ ∃ t : Nat, t ≤ n ∧ w (U o p) = nI t ∧ (t ≤ U o p ∨ q < t)))) := by
  have hn := hC.1
  have huq := U_ltq hC hV hpq
  obtain ⟨-, hqn, hp, hq⟩ := hV
  obtain ⟨h1, h2, h3, h4, h5, h6⟩ := U_spec hC hp (by omega)
  have h0 : ht o 0 = 0 := rfl
  generalize hu : U o p = u at *
  by_cases e8 : o u = 8
  · refine Or.inr ⟨?_, huq, h1, Or.inl ⟨e8, h5 e8⟩⟩
    unfold kd
    rw [hu, e8, if_neg (by decide), if_neg (by decide), if_neg (by decide)]
  · obtain ⟨hX, hu1⟩ := h6 e8
    have hX' := hX
    obtain ⟨x1, x2, x3, x4⟩ := hX
    have x4 : B o (u - 1) = p := x4
    rcases h3 with e | e | e | e
    · refine Or.inl ?_
      have ek : kd o w p q = 2 := by unfold kd; rw [hu, if_pos e]
      have eb : bq o w p q = u + 1 := by unfold bq; rw [ek, hu, if_neg (by omega), if_neg (by omega)]
      have ec : cp o w p q = 0 := by unfold cp; rw [ek, if_neg (by omega)]
      have ed : cq o w p q = 0 := by unfold cq; rw [ek, if_neg (by omega)]
      have ep : kp o w p q = u + 1 := by unfold kp; rw [ek, hu, if_neg (by omega), if_neg (by omega)]
      unfold RG KI
      rw [ek, eb, ec, ed, ep, hu]
      exact ⟨by omega, x1, huq, x3, x4, hX', ⟨by omega, by omega, hu1, hu1⟩, ⟨by omega, by omega, h0, h0⟩, ⟨by omega, hqn, hu1, hq⟩, by omega, Or.inl ⟨rfl, e, rfl, rfl, rfl, rfl⟩⟩
    · exact absurd e e8
    · obtain ⟨t, t1, t2, t3⟩ := (hC.2.2.1 u h2).2.2.2.2.2 (Or.inr e)
      have et : tg w u = t := tg_n t2 (by omega)
      by_cases hk0 : t ≤ u ∨ q < t
      · refine Or.inr ⟨?_, huq, h1, Or.inr ⟨e, hX', t, t1, t2, hk0⟩⟩
        unfold kd
        rw [hu, e, if_neg (by decide), if_neg (by decide), if_pos rfl, et, if_pos hk0]
      · refine Or.inl ?_
        by_cases hj : u < t - 1 ∧ o (t - 1) = 8
        · obtain ⟨e9, g1, g2, g3⟩ := (hC.2.2.1 (t - 1) (by omega)).2.2.2.2.2 (Or.inl hj.2)
          have gh := (hC.2.2.1 (t - 1) (by omega)).2.2.2.2.1 hj.2
          have ee : tg w (t - 1) = e9 := tg_n g2 (by omega)
          by_cases hw : e9 = p
          · have ek : kd o w p q = 11 := by unfold kd; rw [hu, e, if_neg (by decide), if_neg (by decide), if_pos rfl, et, if_neg hk0, if_pos hj, ee, if_pos hw]
            have eb : bq o w p q = t - 1 := by unfold bq; rw [ek, hu, et, if_pos (by omega)]
            have ec : cp o w p q = 0 := by unfold cp; rw [ek, if_neg (by omega)]
            have ed : cq o w p q = 0 := by unfold cq; rw [ek, if_neg (by omega)]
            have ep : kp o w p q = t := by unfold kp; rw [ek, hu, et, if_neg (by omega), if_pos (by omega)]
            unfold RG KI
            rw [ek, eb, ec, ed, ep, hu]
            exact ⟨by omega, x1, huq, x3, x4, hX', ⟨by omega, by omega, hu1, gh⟩, ⟨by omega, by omega, h0, h0⟩, ⟨by omega, hqn, t3, hq⟩, by omega, Or.inr (Or.inr (Or.inl ⟨rfl, e, t, t2, hj.1, by omega, hj.2, by rw [g2, hw], rfl, rfl, rfl, rfl⟩))⟩
          · by_cases hc : t ≤ e9 ∧ e9 ≤ q
            · have ek : kd o w p q = 13 := by unfold kd; rw [hu, e, if_neg (by decide), if_neg (by decide), if_pos rfl, et, if_neg hk0, if_pos hj, ee, if_neg hw, if_pos hc]
              have eb : bq o w p q = t - 1 := by unfold bq; rw [ek, hu, et, if_pos (by omega)]
              have ec : cp o w p q = t := by unfold cp; rw [ek, hu, et, if_pos rfl]
              have ed : cq o w p q = e9 := by unfold cq; rw [ek, hu, et, ee, if_pos rfl]
              have ep : kp o w p q = e9 := by unfold kp; rw [ek, hu, et, ee, if_pos rfl]
              unfold RG KI
              rw [ek, eb, ec, ed, ep, hu]
              exact ⟨by omega, x1, huq, x3, x4, hX', ⟨by omega, by omega, hu1, gh⟩, ⟨by omega, by omega, t3, g3⟩, ⟨by omega, hqn, g3, hq⟩, by omega, Or.inr (Or.inr (Or.inr (Or.inr ⟨rfl, e, t, e9, t2, hj.1, by omega, hj.2, g2, hw, hc.1, hc.2, rfl, rfl, rfl, rfl⟩)))⟩
            · have ek : kd o w p q = 12 := by unfold kd; rw [hu, e, if_neg (by decide), if_neg (by decide), if_pos rfl, et, if_neg hk0, if_pos hj, ee, if_neg hw, if_neg hc]
              have eb : bq o w p q = t := by unfold bq; rw [ek, hu, et, if_neg (by omega), if_pos rfl]
              have ec : cp o w p q = 0 := by unfold cp; rw [ek, if_neg (by omega)]
              have ed : cq o w p q = 0 := by unfold cq; rw [ek, if_neg (by omega)]
              have ep : kp o w p q = t := by unfold kp; rw [ek, hu, et, if_neg (by omega), if_pos (by omega)]
              unfold RG KI
              rw [ek, eb, ec, ed, ep, hu]
              exact ⟨by omega, x1, huq, x3, x4, hX', ⟨by omega, by omega, hu1, t3⟩, ⟨by omega, by omega, h0, h0⟩, ⟨by omega, hqn, t3, hq⟩, by omega, Or.inr (Or.inr (Or.inr (Or.inl ⟨rfl, e, t, t2, by omega, by omega, rfl, rfl, rfl, rfl, Or.inr ⟨hj.1, hj.2, e9, g1, g2, hw, by omega⟩⟩)))⟩
        · have ek : kd o w p q = 12 := by unfold kd; rw [hu, e, if_neg (by decide), if_neg (by decide), if_pos rfl, et, if_neg hk0, if_neg hj]
          have eb : bq o w p q = t := by unfold bq; rw [ek, hu, et, if_neg (by omega), if_pos rfl]
          have ec : cp o w p q = 0 := by unfold cp; rw [ek, if_neg (by omega)]
          have ed : cq o w p q = 0 := by unfold cq; rw [ek, if_neg (by omega)]
          have ep : kp o w p q = t := by unfold kp; rw [ek, hu, et, if_neg (by omega), if_pos (by omega)]
          unfold RG KI
          rw [ek, eb, ec, ed, ep, hu]
          exact ⟨by omega, x1, huq, x3, x4, hX', ⟨by omega, by omega, hu1, t3⟩, ⟨by omega, by omega, h0, h0⟩, ⟨by omega, hqn, t3, hq⟩, by omega, Or.inr (Or.inr (Or.inr (Or.inl ⟨rfl, e, t, t2, by omega, by omega, rfl, rfl, rfl, rfl, Or.inl hj⟩)))⟩
    · refine Or.inl ?_
      have ek : kd o w p q = 10 := by unfold kd; rw [hu, if_neg (by rw [e]; decide), if_pos e]
      have eb : bq o w p q = u + 1 := by unfold bq; rw [ek, hu, if_neg (by omega), if_neg (by omega)]
      have ec : cp o w p q = 0 := by unfold cp; rw [ek, if_neg (by omega)]
      have ed : cq o w p q = 0 := by unfold cq; rw [ek, if_neg (by omega)]
      have ep : kp o w p q = u + 1 := by unfold kp; rw [ek, hu, if_neg (by omega), if_neg (by omega)]
      unfold RG KI
      rw [ek, eb, ec, ed, ep, hu]
      exact ⟨by omega, x1, huq, x3, x4, hX', ⟨by omega, by omega, hu1, hu1⟩, ⟨by omega, by omega, h0, h0⟩, ⟨by omega, hqn, hu1, hq⟩, by omega, Or.inr (Or.inl ⟨rfl, e, rfl, rfl, rfl, rfl⟩)⟩
/-- the first knot, in the order of the text -/
def kn (o w : Nat → Int32) : Nat → Nat → Nat → Option Nat
  | 0, _, _ => none
  | f + 1, p, q => if p < q then (if kd o w p q = 0 then some (U o p) else (kn o w f (U o p + 1) (bq o w p q)).or ((kn o w f (cp o w p q) (cq o w p q)).or (kn o w f (kp o w p q) q))) else none
/-- sizes that follow from a statement without knot -/
theorem RG.sz {o w : Nat → Int32} {n p q : Nat} (h : RG o w n p q) : bq o w p q - (U o p + 1) < q - p ∧ cq o w p q - cp o w p q < q - p ∧ q - kp o w p q < q - p ∧ p + 2 ≤ kp o w p q := by
  obtain ⟨h1, h2, -, -, -, ⟨b1, b2, -, -⟩, ⟨c1, c2, -, -⟩, ⟨k1, k2, -, -⟩, hbk, hK⟩ := h
  rcases hK with ⟨-, -, e1, e2, e3, e4⟩ | ⟨-, -, e1, e2, e3, e4⟩ | ⟨-, -, t, -, a1, a2, -, -, e1, e2, e3, e4⟩ | ⟨-, -, t, -, a1, a2, e1, e2, e3, e4, -⟩ | ⟨-, -, t, e, -, a1, a2, -, -, -, a3, a4, e1, e2, e3, e4⟩ <;> omega
theorem tr_ind {o w : Nat → Int32} {n : Nat} (hC : okC o w n) {P : Nat → Nat → Nat → Prop} (h0 : ∀ f p, P (f + 1) p p) (h1 : ∀ f p q, p < q → VA o n p q → RG o w n p q → P f (U o p + 1) (bq o w p q) → P f (cp o w p q) (cq o w p q) → P f (kp o w p q) q → P (f + 1) p q) : ∀ f p q, VA o n p q → q - p < f → kn o w f p q = none → P f p q := by
  intro f
  induction f with
  | zero => intro p q _ h; omega
  | succ f ih =>
    intro p q hV hf hk
    by_cases hpq : p < q
    · rw [kn, if_pos hpq] at hk
      rcases rg hC hV hpq with ⟨hk0, hR⟩ | ⟨hk0, -⟩
      · rw [if_neg hk0] at hk
        obtain ⟨s1, s2, s3, -⟩ := hR.sz
        have hR' := hR
        obtain ⟨-, -, -, -, -, vb, vc, vk, -⟩ := hR
        cases ea : kn o w f (U o p + 1) (bq o w p q) with
        | some z => rw [ea] at hk; cases hk
        | none =>
          cases eb : kn o w f (cp o w p q) (cq o w p q) with
          | some z => rw [ea, eb] at hk; cases hk
          | none =>
            rw [ea, eb] at hk
            exact h1 f p q hpq hV hR' (ih _ _ vb (by omega) ea) (ih _ _ vc (by omega) eb) (ih _ _ vk (by omega) hk)
      · rw [if_pos hk0] at hk; cases hk
    · have := hV.1
      have e : q = p := by omega
      subst e
      exact h0 f q
