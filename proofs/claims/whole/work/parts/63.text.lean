/-! the text of a range, its counts, and the class's tables of it -/
def sgS (k : Nat) : Int32 := if k = 2 then 61 else if k = 10 then 35 else if k = 11 then 64 else 63
def hdS (o w : Nat → Int32) (p q : Nat) : List Int32 := if kd o w p q = 2 then [97 + w (U o p), 61] else [sgS (kd o w p q)]
def bdS (k : Nat) (b c : List Int32) : List Int32 := if k = 2 ∨ k = 10 then [59] else 123 :: (b ++ 125 :: (if k = 13 then 58 :: 123 :: (c ++ [125]) else []))
def tx (o w : Nat → Int32) : Nat → Nat → Nat → List Int32
  | 0, _, _ => []
  | f + 1, p, q => if p < q then hdS o w p q ++ (ext o w (U o p - 1) ++ (bdS (kd o w p q) (tx o w f (U o p + 1) (bq o w p q)) (tx o w f (cp o w p q) (cq o w p q)) ++ tx o w f (kp o w p q) q)) else []
def cnt (o w : Nat → Int32) : Nat → Nat → Nat → Nat
  | 0, _, _ => 0
  | f + 1, p, q => if p < q then 1 + cnt o w f (U o p + 1) (bq o w p q) + cnt o w f (cp o w p q) (cq o w p q) + cnt o w f (kp o w p q) q else 0
def dpt (o w : Nat → Int32) : Nat → Nat → Nat → Nat
  | 0, _, _ => 0
  | f + 1, p, q => if p < q then max (1 + max (dpt o w f (U o p + 1) (bq o w p q)) (dpt o w f (cp o w p q) (cq o w p q))) (dpt o w f (kp o w p q) q) else 0
/-- how many of a kind -/
def kc (o w : Nat → Int32) (x : Nat) : Nat → Nat → Nat → Nat
  | 0, _, _ => 0
  | f + 1, p, q => if p < q then (if kd o w p q = x then 1 else 0) + kc o w x f (U o p + 1) (bq o w p q) + kc o w x f (cp o w p q) (cq o w p q) + kc o w x f (kp o w p q) q else 0
theorem hdS_len (o w : Nat → Int32) (p q : Nat) : (kd o w p q = 2 → (hdS o w p q).length = 2) ∧ (kd o w p q ≠ 2 → (hdS o w p q).length = 1) := by
  unfold hdS
  exact ⟨fun h => by rw [if_pos h]; rfl, fun h => by rw [if_neg h]; rfl⟩
theorem tx_len {o w : Nat → Int32} {n : Nat} (hC : okC o w n) : ∀ f p q, VA o n p q → q - p < f → kn o w f p q = none → (tx o w f p q).length ≤ 3 * (q - p) ∧ 2 * cnt o w f p q ≤ q - p ∧ dpt o w f p q ≤ cnt o w f p q := by
  refine tr_ind hC (fun f p => ?_) (fun f p q hpq hV hR ib ic ik => ?_)
  · rw [tx, cnt, dpt, if_neg (by omega), if_neg (by omega), if_neg (by omega)]
    exact ⟨by simp, by omega, by omega⟩
  · rw [tx, cnt, dpt, if_pos hpq, if_pos hpq, if_pos hpq]
    obtain ⟨h1, h2, h3, h4, -, vb, vc, vk, hbk, hK⟩ := hR
    have b1 := vb.1
    have c1 := vc.1
    have k1 := vk.1
    have hx := (ext_len (w := w) _ h3).2
    rw [h4] at hx
    obtain ⟨ha, hb⟩ := hdS_len o w p q
    simp only [List.length_append]
    have e1 : (2 : Nat) ≠ 13 := by omega
    rcases hK with ⟨e, -, e1, e2, e3, e4⟩ | ⟨e, -, e1, e2, e3, e4⟩ | ⟨e, -, t, -, a1, a2, -, -, e1, e2, e3, e4⟩ | ⟨e, -, t, -, a1, a2, e1, e2, e3, e4, -⟩ | ⟨e, -, t, e', -, a1, a2, -, -, -, a3, a4, e1, e2, e3, e4⟩
    · have := ha e
      unfold bdS; rw [e, if_pos (Or.inl rfl), List.length_singleton]
      refine ⟨?_, ?_, ?_⟩ <;> omega
    · have := hb (by omega)
      unfold bdS; rw [e, if_pos (Or.inr rfl), List.length_singleton]
      refine ⟨?_, ?_, ?_⟩ <;> omega
    · have := hb (by omega)
      unfold bdS; rw [e, if_neg (by omega), if_neg (by omega)]
      simp only [List.length_append, List.length_cons, List.length_nil]
      refine ⟨?_, ?_, ?_⟩ <;> omega
    · have := hb (by omega)
      unfold bdS; rw [e, if_neg (by omega), if_neg (by omega)]
      simp only [List.length_append, List.length_cons, List.length_nil]
      refine ⟨?_, ?_, ?_⟩ <;> omega
    · have := hb (by omega)
      unfold bdS; rw [e, if_neg (by omega), if_pos rfl]
      simp only [List.length_append, List.length_cons, List.length_nil]
      refine ⟨?_, ?_, ?_⟩ <;> omega
theorem sgS_ok (k : Nat) : okCh (sgS k) := by
  unfold sgS
  split
  · exact okN (k := 61) (by omega) (by omega)
  · split
    · exact okN (k := 35) (by omega) (by omega)
    · split
      · exact okN (k := 64) (by omega) (by omega)
      · exact okN (k := 63) (by omega) (by omega)
theorem bdS_ok {k : Nat} {b c : List Int32} (hb : okT b) (hc : okT c) : okT (bdS k b c) := by
  unfold bdS
  split
  · exact okT.one (okN (k := 59) (by omega) (by omega))
  · refine okT.cons (okN (k := 123) (by omega) (by omega)) (okT.app hb (okT.cons (okN (k := 125) (by omega) (by omega)) ?_))
    split
    · exact okT.cons (okN (k := 58) (by omega) (by omega)) (okT.cons (okN (k := 123) (by omega) (by omega)) (okT.app hc (okT.one (okN (k := 125) (by omega) (by omega)))))
    · exact okT.nil
theorem hdS_ok {o w : Nat → Int32} {n p q : Nat} (hC : okC o w n) (hu : U o p < n) (h2 : kd o w p q = 2 → o (U o p) = 2) : okT (hdS o w p q) := by
  unfold hdS
  by_cases h : kd o w p q = 2
  · obtain ⟨k, hk, e⟩ := w_var hC.2.1 hu (Or.inr (h2 h))
    rw [if_pos h, e]
    exact okT.cons (ok97 hk) (okT.one (okN (k := 61) (by omega) (by omega)))
  · rw [if_neg h]
    exact okT.one (sgS_ok _)
theorem KI.o2 {o w : Nat → Int32} {n p q : Nat} (h : KI o w n p q) : kd o w p q = 2 → o (U o p) = 2 := by
  intro e
  rcases h with ⟨-, h, -⟩ | ⟨h, -⟩ | ⟨h, -⟩ | ⟨h, -⟩ | ⟨h, -⟩
  · exact h
  all_goals (rw [e] at h; omega)
theorem tx_ok {o w : Nat → Int32} {n : Nat} (hC : okC o w n) : ∀ f p q, VA o n p q → q - p < f → kn o w f p q = none → okT (tx o w f p q) := by
  refine tr_ind hC (fun f p => ?_) (fun f p q hpq hV hR ib ic ik => ?_)
  · rw [tx, if_neg (by omega)]
    exact okT.nil
  · rw [tx, if_pos hpq]
    obtain ⟨h1, h2, h3, h4, -, vb, vc, vk, hbk, hK⟩ := hR
    have := hV.2.1
    exact okT.app (hdS_ok hC (by omega) hK.o2) (okT.app (ext_ok hC.2.1 _ h3 (by omega)) (okT.app (bdS_ok ib ic) ik))
def ix (p q m : Nat) : Int32 := if p < q then nI m else -1
/-- the class's tables hold the range p q from number m on -/
def TB (o w kinds froms marks parts others followers begins : Nat → Int32) : Nat → Nat → Nat → Nat → Prop
  | 0, _, _, _ => True
  | f + 1, m, p, q => p < q → kinds m = nI (kd o w p q) ∧ froms m = nI p ∧ marks m = nI (U o p) ∧ parts m = ix (U o p + 1) (bq o w p q) (m + 1) ∧ others m = ix (cp o w p q) (cq o w p q) (m + 1 + cnt o w f (U o p + 1) (bq o w p q)) ∧ followers m = ix (kp o w p q) q (m + 1 + cnt o w f (U o p + 1) (bq o w p q) + cnt o w f (cp o w p q) (cq o w p q)) ∧ (∀ j, p ≤ j → j < U o p → begins j = nI (B o j)) ∧ TB o w kinds froms marks parts others followers begins f (m + 1) (U o p + 1) (bq o w p q) ∧ TB o w kinds froms marks parts others followers begins f (m + 1 + cnt o w f (U o p + 1) (bq o w p q)) (cp o w p q) (cq o w p q) ∧ TB o w kinds froms marks parts others followers begins f (m + 1 + cnt o w f (U o p + 1) (bq o w p q) + cnt o w f (cp o w p q) (cq o w p q)) (kp o w p q) q
theorem TB_congr {o w kinds froms marks parts others followers begins kinds' froms' marks' parts' others' followers' begins' : Nat → Int32} (hb : ∀ j, begins j = nI (B o j) → begins' j = nI (B o j)) : ∀ (f m p q : Nat), (∀ i, m ≤ i → i < m + cnt o w f p q → kinds' i = kinds i ∧ froms' i = froms i ∧ marks' i = marks i ∧ parts' i = parts i ∧ others' i = others i ∧ followers' i = followers i) → TB o w kinds froms marks parts others followers begins f m p q → TB o w kinds' froms' marks' parts' others' followers' begins' f m p q := by
  intro f
  induction f with
  | zero => intro m p q _ _; exact trivial
  | succ f ih =>
    intro m p q h hT hpq
    obtain ⟨t1, t2, t3, t4, t5, t6, t7, t8, t9, t10⟩ := hT hpq
    rw [cnt, if_pos hpq] at h
    obtain ⟨a1, a2, a3, a4, a5, a6⟩ := h m (Nat.le_refl _) (by omega)
    exact ⟨a1.trans t1, a2.trans t2, a3.trans t3, a4.trans t4, a5.trans t5, a6.trans t6, fun j x y => hb j (t7 j x y), ih _ _ _ (fun i x y => h i (by omega) (by omega)) t8, ih _ _ _ (fun i x y => h i (by omega) (by omega)) t9, ih _ _ _ (fun i x y => h i (by omega) (by omega)) t10⟩
/-! the class writes the text -/
theorem cT_holds {N m : Nat} (hN : N ≤ 15) (hm : m < N) : g_Tree_holds (nI N) (nI m) = some 1 := by
  unfold g_Tree_holds
  rw [if_neg (nI_pos (by omega)), if_neg (nI_ge hm (by omega))]
theorem cT_holdsN (s : Int32) : g_Tree_holds s (-1) = some 0 := by
  unfold g_Tree_holds
  rw [if_pos (show (-1 : Int32) < 0 by decide)]
theorem cT_kind {N m : Nat} {k : Nat → Int32} (hN : N ≤ 15) (hm : m < N) : g_Tree_kind k (nI N) (nI m) = some (k m) := by
  unfold g_Tree_kind
  rw [z_bind (cT_holds hN hm), if_neg (show ¬ (1 : Int32) = 0 by decide), if_pos (z_ck (by omega) (by omega)), z_cl (by omega)]
theorem cT_mark {N m : Nat} {k : Nat → Int32} (hN : N ≤ 15) (hm : m < N) : g_Tree_mark k (nI N) (nI m) = some (k m) := by
  unfold g_Tree_mark
  rw [z_bind (cT_holds hN hm), if_neg (show ¬ (1 : Int32) = 0 by decide), if_pos (z_ck (by omega) (by omega)), z_cl (by omega)]
theorem cT_from {N m : Nat} {k : Nat → Int32} (hN : N ≤ 15) (hm : m < N) : g_Tree_from k (nI N) (nI m) = some (k m) := by
  unfold g_Tree_from
  rw [z_bind (cT_holds hN hm), if_neg (show ¬ (1 : Int32) = 0 by decide), if_pos (z_ck (by omega) (by omega)), z_cl (by omega)]
theorem cT_part {N m : Nat} {k : Nat → Int32} (hN : N ≤ 15) (hm : m < N) : g_Tree_part k (nI N) (nI m) = some (k m) := by
  unfold g_Tree_part
  rw [z_bind (cT_holds hN hm), if_neg (show ¬ (1 : Int32) = 0 by decide), if_pos (z_ck (by omega) (by omega)), z_cl (by omega)]
theorem cT_other {N m : Nat} {k : Nat → Int32} (hN : N ≤ 15) (hm : m < N) : g_Tree_other k (nI N) (nI m) = some (k m) := by
  unfold g_Tree_other
  rw [z_bind (cT_holds hN hm), if_neg (show ¬ (1 : Int32) = 0 by decide), if_pos (z_ck (by omega) (by omega)), z_cl (by omega)]
theorem cT_follower {N m : Nat} {k : Nat → Int32} (hN : N ≤ 15) (hm : m < N) : g_Tree_follower k (nI N) (nI m) = some (k m) := by
  unfold g_Tree_follower
  rw [z_bind (cT_holds hN hm), if_neg (show ¬ (1 : Int32) = 0 by decide), if_pos (z_ck (by omega) (by omega)), z_cl (by omega)]
theorem KI.k {o w : Nat → Int32} {n p q : Nat} (h : KI o w n p q) : kd o w p q = 2 ∨ kd o w p q = 10 ∨ kd o w p q = 11 ∨ kd o w p q = 12 ∨ kd o w p q = 13 := by
  rcases h with ⟨h, -⟩ | ⟨h, -⟩ | ⟨h, -⟩ | ⟨h, -⟩ | ⟨h, -⟩ <;> omega
theorem cw_sgS {k : Nat} (h : k = 2 ∨ k = 10 ∨ k = 11 ∨ k = 12 ∨ k = 13) : g_Scribe_signOfStatement (nI k) = some (sgS k) := by
  rcases h with rfl | rfl | rfl | rfl | rfl <;> rfl
section
variable {n N : Nat} {o w ops nums kinds froms marks parts others followers begins : Nat → Int32}
/-- a block, by what is written inside -/
theorem sc_block {f9 : Nat → (Nat → Int32) → (Nat → Int32) → Int32 → (Nat → Int32) → (Nat → Int32) → (Nat → Int32) → (Nat → Int32) → (Nat → Int32) → (Nat → Int32) → Int32 → (Nat → Int32) → Int32 → Int32 → Int32 → Option ((Nat → Int32) × Int32)} {l t : List Int32} {a2 a3 : Int32} (hl : l.length + t.length + 2 ≤ 90) (h : W9 (l ++ [123]) t (fun row s => f9 90 ops nums (nI n) kinds marks parts others followers begins (nI N) row s a2 (a3 + 1))) : W9 l (123 :: (t ++ [125])) (fun row s => gb_Scribe_writeBlock f9 90 ops nums (nI n) kinds marks parts others followers begins (nI N) row s a2 a3) := by
  intro row hr
  dsimp only
  unfold gb_Scribe_writeBlock
  rw [z_bind (cw_add (c := 123) (by omega) (okN (k := 123) (by omega) (by omega)))]
  dsimp only
  obtain ⟨row1, e1, e2⟩ := h _ (hr.add 123)
  dsimp only at e1
  rw [z_bind e1]
  dsimp only
  rw [z_bind (cw_add (c := 125) (by simp only [List.length_append, List.length_singleton]; omega) (okN (k := 125) (by omega) (by omega)))]
  have e3 := e2.add 125
  have e4 : l ++ [123] ++ t ++ [125] = l ++ 123 :: (t ++ [125]) := by simp only [List.append_assoc, List.cons_append, List.nil_append]
  rw [e4] at e3 ⊢
  exact ⟨_, rfl, e3⟩
theorem sc_37 {f9 : Nat → (Nat → Int32) → (Nat → Int32) → Int32 → (Nat → Int32) → (Nat → Int32) → (Nat → Int32) → (Nat → Int32) → (Nat → Int32) → (Nat → Int32) → Int32 → (Nat → Int32) → Int32 → Int32 → Int32 → Option ((Nat → Int32) × Int32)} {l x b c : List Int32} {d k m u : Nat} (hk : k = 2 ∨ k = 10 ∨ k = 11 ∨ k = 12 ∨ k = 13) (hu : 0 < u) (hu9 : u < 1000) (hN : N ≤ 15) (hm : m < N) (hl : l.length + 1 + x.length + (bdS k b c).length ≤ 90)
    (hx : W9 (l ++ [sgS k]) x (fun row s => g_Scribe_writeExpression 100 90 ops nums (nI n) begins row s (nI (u - 1)) 0))
    (hb : ¬ (k = 2 ∨ k = 10) → W9 (l ++ [sgS k] ++ x) (123 :: (b ++ [125])) (fun row s => f9 90 ops nums (nI n) kinds marks parts others followers begins (nI N) row s (parts m) (nI d)))
    (hc : k = 13 → W9 (l ++ [sgS k] ++ x ++ 123 :: (b ++ [125]) ++ [58]) (123 :: (c ++ [125])) (fun row s => f9 90 ops nums (nI n) kinds marks parts others followers begins (nI N) row s (others m) (nI d))) :
    W9 l (sgS k :: (x ++ bdS k b c)) (fun row s => b_Scribe_writeStatement_37 f9 90 ops nums (nI n) kinds marks parts others followers begins (nI N) row s (nI m) (nI d) (nI k) (nI u)) := by
  intro row hr
  dsimp only
  unfold b_Scribe_writeStatement_37
  have hk9 : k < 100 := by omega
  rw [z_bind (cw_sgS hk), z_bind (cw_add (by omega) (sgS_ok k))]
  dsimp only
  obtain ⟨row1, e1, e2⟩ := hx _ (hr.add _)
  dsimp only at e1
  rw [z_s1 hu, z_bind e1]
  dsimp only
  have n2 : nI k = 2 ↔ k = 2 := nI_eq (b := 2) (by omega) (by omega)
  have n10 : nI k = 10 ↔ k = 10 := nI_eq (b := 10) (by omega) (by omega)
  have n13 : nI k = 13 ↔ k = 13 := nI_eq (b := 13) (by omega) (by omega)
  by_cases hs : k = 2 ∨ k = 10
  · have eb : bdS k b c = [59] := by unfold bdS; rw [if_pos hs]
    rw [eb] at hl ⊢
    rw [List.length_singleton] at hl
    have e4 : l ++ [sgS k] ++ x ++ [59] = l ++ sgS k :: (x ++ [59]) := by simp only [List.append_assoc, List.cons_append, List.nil_append]
    have e5 := e2.add 59
    have e6 : g_Characters_add 90 row1 (nI (l ++ [sgS k] ++ x).length) 59 = _ := cw_add (c := 59) (by simp only [List.length_append, List.length_singleton]; omega) (okN (k := 59) (by omega) (by omega))
    rw [e4] at e5 e6
    by_cases h2 : k = 2
    · rw [if_pos (n2.mpr h2), z_bind e6]
      exact ⟨_, rfl, e5⟩
    · rw [if_neg (fun e => h2 (n2.mp e)), if_pos (n10.mpr (by omega)), z_bind e6]
      exact ⟨_, rfl, e5⟩
  · rw [if_neg (fun e => hs (Or.inl (n2.mp e))), if_neg (fun e => hs (Or.inr (n10.mp e))), z_bind (cT_part hN hm)]
    obtain ⟨row2, e3, e4⟩ := hb hs _ e2
    dsimp only at e3
    rw [z_bind e3]
    dsimp only
    by_cases h13 : k = 13
    · have eb : bdS k b c = 123 :: (b ++ 125 :: 58 :: 123 :: (c ++ [125])) := by unfold bdS; rw [if_neg hs, if_pos h13]
      rw [eb] at hl ⊢
      simp only [List.length_cons, List.length_append, List.length_nil] at hl
      rw [if_pos (n13.mpr h13), z_bind (cw_add (c := 58) (by simp only [List.length_append, List.length_singleton, List.length_cons, List.length_nil]; omega) (okN (k := 58) (by omega) (by omega)))]
      dsimp only
      rw [z_bind (cT_other hN hm)]
      obtain ⟨row3, e5, e6⟩ := hc h13 _ (e4.add 58)
      dsimp only at e5
      rw [z_bind e5]
      have e7 : l ++ [sgS k] ++ x ++ 123 :: (b ++ [125]) ++ [58] ++ 123 :: (c ++ [125]) = l ++ sgS k :: (x ++ 123 :: (b ++ 125 :: 58 :: 123 :: (c ++ [125]))) := by simp only [List.append_assoc, List.cons_append, List.nil_append]
      rw [e7] at e6 ⊢
      exact ⟨_, rfl, e6⟩
    · have eb : bdS k b c = 123 :: (b ++ [125]) := by unfold bdS; rw [if_neg hs, if_neg h13]
      rw [eb]
      rw [if_neg (fun e => h13 (n13.mp e))]
      have e7 : l ++ [sgS k] ++ x ++ 123 :: (b ++ [125]) = l ++ sgS k :: (x ++ 123 :: (b ++ [125])) := by simp only [List.append_assoc, List.cons_append, List.nil_append]
      rw [e7] at e4 ⊢
      exact ⟨_, rfl, e4⟩
def SCP (n N : Nat) (o w ops nums kinds froms marks parts others followers begins : Nat → Int32) (f p q : Nat) : Prop := ∀ (m d r g F : Nat) (l : List Int32), TB o w kinds froms marks parts others followers begins f m p q → m + cnt o w f p q ≤ N → p ≤ 30 → 2 * d ≤ p → 2 * r ≤ p → 50 ≤ g + 3 * d → 40 ≤ F + r → l.length + (tx o w f p q).length ≤ 90 → W9 l (tx o w f p q) (fun row s => b_Scribe_writeFrom_13 (gg_Scribe_writeFrom g).2.1 90 ops nums (nI n) kinds marks parts others followers begins (nI N) F row s (nI d) (ix p q m) (nI r))
theorem sc_blk {f p q m d g : Nat} {l : List Int32} (ih : SCP n N o w ops nums kinds froms marks parts others followers begins f p q) (hT : TB o w kinds froms marks parts others followers begins f m p q) (hm : m + cnt o w f p q ≤ N) (hp : p ≤ 30) (hd : 2 * (d + 1) ≤ p) (hd9 : d ≤ 14) (hg : 50 ≤ g + 3 * (d + 1)) (hl : l.length + (tx o w f p q).length + 2 ≤ 90) : W9 l (123 :: (tx o w f p q ++ [125])) (fun row s => (gg_Scribe_writeFrom (g + 2)).2.2 90 ops nums (nI n) kinds marks parts others followers begins (nI N) row s (ix p q m) (nI d)) := by
  refine sc_block (f9 := (gg_Scribe_writeFrom (g + 1)).1) hl ?_
  intro row hr
  obtain ⟨row', e1, e2⟩ := ih m (d + 1) 0 g 500 (l ++ [123]) hT hm hp hd (by omega) hg (by omega) (by simp only [List.length_append, List.length_singleton]; omega) row hr
  refine ⟨row', ?_, e2⟩
  dsimp only at e1 ⊢
  show gb_Scribe_writeFrom (gg_Scribe_writeFrom g).2.1 90 ops nums (nI n) kinds marks parts others followers begins (nI N) row (nI (l ++ [123]).length) (ix p q m) (nI d + 1) = _
  unfold gb_Scribe_writeFrom
  rw [z_a1, if_pos (show nI (d + 1) ≤ 15 from nI_le (b := 15) (by omega) (by omega))]
  exact e1
theorem sc_all (hE : ∀ i, i < n → ops i = o i ∧ nums i = w i) (hC : okC o w n) (hN : N ≤ 15) : ∀ f p q, VA o n p q → q - p < f → kn o w f p q = none → SCP n N o w ops nums kinds froms marks parts others followers begins f p q := by
  have hn := hC.1
  refine tr_ind hC (fun f p => ?_) (fun f p q hpq hV hR ib ic ik => ?_)
  · intro m d r g F l hT hm hp hd hr hg hF hl row hw
    obtain ⟨F, rfl⟩ : ∃ F', F = F' + 1 := ⟨F - 1, by omega⟩
    rw [tx, if_neg (by omega), List.append_nil]
    refine ⟨row, ?_, hw⟩
    dsimp only
    rw [b_Scribe_writeFrom_13]
    unfold ix
    rw [if_neg (show ¬ p < p by omega), z_bind (cT_holdsN _), if_pos (show (0 : Int32) = 0 from rfl)]
    by_cases h15 : (15 : Int32) ≤ nI r
    · rw [if_pos h15]
    · rw [if_neg h15]
  · intro m d r g F l hT hm hp hd hr hg hF hl row hw
    have hs := hR.sz
    obtain ⟨h1, h2, h3, h4, -, vb, vc, vk, hbk, hK⟩ := hR
    have v1 := hV.2.1
    have b1 := vb.1
    have c1 := vc.1
    have k1 := vk.1
    obtain ⟨t1, t2, t3, t4, t5, t6, t7, t8, t9, t10⟩ := hT hpq
    obtain ⟨F, rfl⟩ : ∃ F', F = F' + 1 := ⟨F - 1, by omega⟩
    obtain ⟨g, rfl⟩ : ∃ g', g = g' + 3 := ⟨g - 3, by omega⟩
    rw [cnt, if_pos hpq] at hm
    rw [tx, if_pos hpq] at hl ⊢
    simp only [List.length_append] at hl
    have hmN : m < N := by omega
    have ei : ix p q m = nI m := if_pos hpq
    dsimp only
    rw [b_Scribe_writeFrom_13, ei, if_neg (show ¬ (15 : Int32) ≤ nI r from nI_ge (b := 15) (by omega) (by omega)), z_bind (cT_holds hN hmN), if_neg (show ¬ (1 : Int32) = 0 by decide)]
    have hlen := ext_len (w := w) _ h3
    have hk := hK.k
    -- the statement itself
    have key : ∀ l0 : List Int32, l0.length + 1 + (ext o w (U o p - 1)).length + (bdS (kd o w p q) (tx o w f (U o p + 1) (bq o w p q)) (tx o w f (cp o w p q) (cq o w p q))).length ≤ 90 → W9 l0 (sgS (kd o w p q) :: (ext o w (U o p - 1) ++ bdS (kd o w p q) (tx o w f (U o p + 1) (bq o w p q)) (tx o w f (cp o w p q) (cq o w p q)))) (fun row s => b_Scribe_writeStatement_37 (gg_Scribe_writeFrom (g + 2)).2.2 90 ops nums (nI n) kinds marks parts others followers begins (nI N) row s (nI m) (nI d) (nI (kd o w p q)) (nI (U o p))) := by
      intro l0 hl0
      refine sc_37 hk (by omega) (by omega) hN hmN hl0 ?_ ?_ ?_
      · exact cw_E hn hE hC.2.1 _ h3 (by omega) (fun j a b => t7 j (by omega) (by omega)) 100 0 _ (by omega) (by omega) (by simp only [List.length_append, List.length_singleton]; omega)
      · intro hns
        rw [t4]
        have hb2 : (tx o w f (U o p + 1) (bq o w p q)).length + 2 ≤ (bdS (kd o w p q) (tx o w f (U o p + 1) (bq o w p q)) (tx o w f (cp o w p q) (cq o w p q))).length := by
          unfold bdS; rw [if_neg hns]; simp only [List.length_cons, List.length_append]; omega
        exact sc_blk ib t8 (by omega) (by omega) (by omega) (by omega) (by omega) (by simp only [List.length_append, List.length_singleton]; omega)
      · intro h13
        rw [t5]
        have hb2 : (tx o w f (U o p + 1) (bq o w p q)).length + 2 + (tx o w f (cp o w p q) (cq o w p q)).length + 3 ≤ (bdS (kd o w p q) (tx o w f (U o p + 1) (bq o w p q)) (tx o w f (cp o w p q) (cq o w p q))).length := by
          unfold bdS; rw [if_neg (by omega), if_pos h13]; simp only [List.length_cons, List.length_append, List.length_nil]; omega
        have hcp : 2 * (d + 1) ≤ cp o w p q := by
          rcases hK with ⟨e, -⟩ | ⟨e, -⟩ | ⟨e, -⟩ | ⟨e, -⟩ | ⟨e, -, t, e', -, a1, a2, -, -, -, a3, a4, e1, e2, e3, e4⟩ <;> omega
        exact sc_blk ic t9 (by omega) (by have := vc.2.1; omega) hcp (by omega) (by omega) (by simp only [List.length_append, List.length_singleton, List.length_cons, List.length_nil]; omega)
    have stm : W9 l (hdS o w p q ++ (ext o w (U o p - 1) ++ bdS (kd o w p q) (tx o w f (U o p + 1) (bq o w p q)) (tx o w f (cp o w p q) (cq o w p q)))) (fun row s => (gg_Scribe_writeFrom (g + 3)).2.1 90 ops nums (nI n) kinds marks parts others followers begins (nI N) row s (nI m) (nI d)) := by
      intro row hw
      dsimp only
      show ∃ row', gb_Scribe_writeStatement (gg_Scribe_writeFrom (g + 2)).2.2 90 ops nums (nI n) kinds marks parts others followers begins (nI N) row (nI l.length) (nI m) (nI d) = _ ∧ _
      unfold gb_Scribe_writeStatement
      rw [z_bind (cT_kind hN hmN), z_bind (cT_mark hN hmN), t1, t3]
      have n2 : nI (kd o w p q) = 2 ↔ kd o w p q = 2 := nI_eq (b := 2) (by omega) (by omega)
      by_cases hk2 : kd o w p q = 2
      · obtain ⟨k9, hk9, ek9⟩ := w_var hC.2.1 (show U o p < n by omega) (Or.inr (hK.o2 hk2))
        have eh : hdS o w p q = [97 + nI k9, sgS (kd o w p q)] := by unfold hdS sgS; rw [if_pos hk2, if_pos hk2, ek9]
        rw [eh] at hl ⊢
        simp only [List.length_cons, List.length_nil] at hl
        rw [if_pos (n2.mpr hk2), z_bind (cl_number hn (by omega) (by omega)), if_pos (show U o p < n by omega), (hE (U o p) (by omega)).2, ek9, z_bind (cw_add (by omega) (ok97 hk9))]
        dsimp only
        obtain ⟨row', e1, e2⟩ := key (l ++ [97 + nI k9]) (by simp only [List.length_append, List.length_singleton]; omega) _ (hw.add _)
        dsimp only at e1
        rw [e1]
        have e3 : l ++ [97 + nI k9] ++ sgS (kd o w p q) :: (ext o w (U o p - 1) ++ bdS (kd o w p q) (tx o w f (U o p + 1) (bq o w p q)) (tx o w f (cp o w p q) (cq o w p q))) = l ++ ([97 + nI k9, sgS (kd o w p q)] ++ (ext o w (U o p - 1) ++ bdS (kd o w p q) (tx o w f (U o p + 1) (bq o w p q)) (tx o w f (cp o w p q) (cq o w p q)))) := by simp only [List.append_assoc, List.cons_append, List.nil_append]
        rw [e3] at e2 ⊢
        exact ⟨_, rfl, e2⟩
      · have eh : hdS o w p q = [sgS (kd o w p q)] := by unfold hdS; rw [if_neg hk2]
        rw [eh] at hl ⊢
        simp only [List.length_cons, List.length_nil] at hl
        rw [if_neg (fun e => hk2 (n2.mp e))]
        obtain ⟨row', e1, e2⟩ := key l (by omega) _ hw
        exact ⟨row', e1, e2⟩
    obtain ⟨row1, e1, e2⟩ := stm row hw
    dsimp only at e1
    rw [z_bind e1]
    dsimp only
    rw [z_bind (cT_follower hN hmN), t6, z_a1]
    obtain ⟨row2, e3, e4⟩ := ik _ d (r + 1) (g + 3) F _ t10 (by omega) (by have := vk.2.1; omega) (by omega) (by omega) (by omega) (by omega) (by simp only [List.length_append]; omega) row1 e2
    dsimp only at e3
    rw [e3]
    have e5 : l ++ (hdS o w p q ++ (ext o w (U o p - 1) ++ bdS (kd o w p q) (tx o w f (U o p + 1) (bq o w p q)) (tx o w f (cp o w p q) (cq o w p q)))) ++ tx o w f (kp o w p q) q = l ++ (hdS o w p q ++ (ext o w (U o p - 1) ++ (bdS (kd o w p q) (tx o w f (U o p + 1) (bq o w p q)) (tx o w f (cp o w p q) (cq o w p q)) ++ tx o w f (kp o w p q) q))) := by simp only [List.append_assoc]
    rw [e5] at e4 ⊢
    exact ⟨_, rfl, e4⟩
/-- the class writes the TEXT of its tree -/
theorem cw_write {row : Nat → Int32} {s0 : Int32} (hE : ∀ i, i < n → ops i = o i ∧ nums i = w i) (hC : okC o w n) (hN : N ≤ 15) (hk : kn o w 31 0 n = none) (hT : TB o w kinds froms marks parts others followers begins 31 0 0 n) (hc : cnt o w 31 0 n = N) : ∃ row' : Nat → Int32, g_Scribe_write 90 ops nums (nI n) kinds marks parts others followers begins (nI N) row s0 = some (row', nI (tx o w 31 0 n).length) ∧ WR row' (tx o w 31 0 n) := by
  have hn := hC.1
  have hV : VA o n 0 n := ⟨by omega, by omega, rfl, hC.2.2.2⟩
  have hlen := (tx_len hC 31 0 n hV (by omega) hk).1
  have hS := sc_all (froms := froms) (kinds := kinds) (marks := marks) (parts := parts) (others := others) (followers := followers) (begins := begins) hE hC hN 31 0 n hV (by omega) hk 0 0 0 99 500 [] hT (by omega) (by omega) (by omega) (by omega) (by omega) (by omega) (by simp only [List.length_nil]; omega) row (fun i hi => absurd hi (Nat.not_lt_zero i))
  obtain ⟨row', e1, e2⟩ := hS
  rw [List.nil_append] at e1 e2
  refine ⟨row', ?_, e2⟩
  dsimp only at e1
  unfold g_Scribe_write
  rw [z_bind (cl_Chars_drop _)]
  have ef : g_Tree_first (nI N) = some (ix 0 n 0) := by
    unfold g_Tree_first ix
    by_cases h0 : 0 < n
    · have : 0 < N := by rw [← hc, cnt, if_pos h0]; omega
      rw [if_pos h0, if_neg (nI_nle this (by omega))]
      rfl
    · have : N = 0 := by rw [← hc, cnt, if_neg h0]
      rw [if_neg h0, this, if_pos (show nI 0 ≤ 0 by decide)]
  have e3 : g_Scribe_writeFrom 100 90 ops nums (nI n) kinds marks parts others followers begins (nI N) row 0 (ix 0 n 0) 0 = some (row', nI (tx o w 31 0 n).length) := by
    show gb_Scribe_writeFrom (gg_Scribe_writeFrom 99).2.1 90 ops nums (nI n) kinds marks parts others followers begins (nI N) row 0 (ix 0 n 0) 0 = _
    unfold gb_Scribe_writeFrom
    rw [if_pos (show (0 : Int32) ≤ 15 by decide)]
    exact e1
  rw [z_bind ef, z_bind e3]
end
