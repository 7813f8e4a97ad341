/-! the class makes its tree -/
theorem U_ge {o : Nat → Int32} : ∀ (k p : Nat), p ≤ ux o k p := by
  intro k
  induction k with
  | zero => intro p; exact Nat.le_refl _
  | succ k ih =>
    intro p
    rw [ux]
    split
    · exact Nat.le_refl _
    · have := ih (p + 1)
      omega
theorem cl_isPart {x : Int32} : (isT x → g_Tree_isPart x = some 0) ∧ (¬ isT x → g_Tree_isPart x = some 1) := by
  unfold g_Tree_isPart isT
  refine ⟨fun h => ?_, fun h => ?_⟩
  · rcases h with rfl | rfl | rfl | rfl <;> decide
  · rw [if_neg (fun e => h (Or.inl e)), if_neg (fun e => h (Or.inr (Or.inr (Or.inr e)))), if_neg (fun e => h (Or.inr (Or.inr (Or.inl e)))), if_neg (fun e => h (Or.inr (Or.inl e)))]
section
variable {n : Nat} {o w ops nums : Nat → Int32}
theorem cl_beginOf {p i : Nat} {begins : Nat → Int32} (hE : ∀ i, i < n → ops i = o i ∧ nums i = w i) (hC : okC o w n) (hp : ht o p = 0) (hpi : p ≤ i) (hin : i < n) (hT : ∀ j, p ≤ j → j ≤ i → ¬ isT (o j)) (hb : ∀ j, p ≤ j → j < i → begins j = nI (B o j)) : g_Tree_beginOf ops (nI n) begins (nI i) = some (nI (B o i)) := by
  have hn := hC.1
  unfold g_Tree_beginOf
  rw [z_bind (cl_op hn (by omega) (by omega)), if_pos hin, (hE i hin).1]
  obtain ⟨k, hk, e1, e2⟩ := ht_ex hC hp (i - p) i (by omega) (by omega) (fun j a b => hT j a (by omega))
  have hok := hC.2.2.1 i hin
  rcases part_or (hC.2.1 i hin).1 (hT i hpi (Nat.le_refl _)) with h | h | h
  · rw [B_push h]
    rcases h with h | h
    · rw [h, if_pos (show (0 : Int32) = 0 from rfl)]
    · rw [h, if_neg (show ¬ (1 : Int32) = 0 by decide), if_pos (show (1 : Int32) = 1 from rfl)]
  · have h1 := hok.2.2.1 h
    rw [e1] at h1
    have hk1 : 1 ≤ k := (nI_leI (a := 1) (by omega) (by omega)).mp h1
    obtain ⟨k', rfl⟩ : ∃ k', k = k' + 1 := ⟨k - 1, by omega⟩
    have hpl : p < i := e2.1
    rw [h, if_neg (show ¬ (7 : Int32) = 0 by decide), if_neg (show ¬ (7 : Int32) = 1 by decide), if_pos (show (7 : Int32) = 7 from rfl), z_s1 (by omega), if_neg (nI_pos (by omega)), if_pos (z_ck (by omega) (by omega)), z_cl (by omega), hb (i - 1) (by omega) (by omega), B_not h (by omega)]
  · have h1 := hok.2.1 h
    rw [e1] at h1
    have hk1 : 2 ≤ k := (nI_leI (a := 2) (by omega) (by omega)).mp h1
    obtain ⟨k', rfl⟩ : ∃ k', k = k' + 2 := ⟨k - 2, by omega⟩
    obtain ⟨x1, x2, x3, x4, -⟩ := e2
    have n01 := h.n01
    have hbl := B_le o (i - 1)
    rw [if_neg (fun e => n01 (Or.inl e)), if_neg (fun e => n01 (Or.inr e)), if_neg h.n7, z_bind (cl_left (by omega) (by omega) (hb (i - 1) (by omega) (by omega)) (by omega)), if_neg (nI_pos (by omega)), if_pos (z_ck (by omega) (by omega)), z_cl (by omega), hb (B o (i - 1) - 1) (by omega) (by omega), B_bin h (by omega)]
theorem cl_eoe_loop {p : Nat} (hE : ∀ i, i < n → ops i = o i ∧ nums i = w i) (hC : okC o w n) (hp : ht o p = 0) (hpn : p < n) : ∀ (F i : Nat) (begins : Nat → Int32), p ≤ i → i ≤ U o p → U o p - i < F → (∀ j, p ≤ j → j < i → begins j = nI (B o j)) → ∃ begins' : Nat → Int32, b_Tree_endOfExpression_2 ops (nI n) F begins (nI i) = some (nI (U o p), begins') ∧ (∀ j, p ≤ j → j < U o p → begins' j = nI (B o j)) ∧ ∀ j, begins j = nI (B o j) → begins' j = nI (B o j) := by
  have hn := hC.1
  obtain ⟨h1, h2, h3, h4, -⟩ := U_spec hC hp hpn
  intro F
  induction F with
  | zero => intro i b _ _ h; omega
  | succ F ih =>
    intro i begins hi hiu hF hb
    rw [b_Tree_endOfExpression_2, z_bind (cl_size _), if_neg (nI_ge (show i < n by omega) (by omega)), z_bind (cl_op hn (by omega) (by omega)), if_pos (show i < n by omega), (hE i (by omega)).1]
    by_cases hu : i = U o p
    · rw [hu, z_bind (cl_isPart.1 h3), if_pos (show (0 : Int32) = 0 from rfl)]
      exact ⟨begins, rfl, fun j a b => hb j a (by omega), fun j h => h⟩
    · rw [z_bind (cl_isPart.2 (h4 i hi (by omega))), if_neg (show ¬ (1 : Int32) = 0 by decide), z_bind (cl_beginOf hE hC hp hi (by omega) (fun j a b => h4 j a (by omega)) hb), if_pos (z_ck (by omega) (by omega)), z_cl (by omega), z_a1]
      obtain ⟨b', e1, e2, e3⟩ := ih (i + 1) (upd begins i (nI (B o i))) (by omega) (by omega) (by omega) (fun j a b => by
        by_cases hj : j = i
        · subst hj; rw [pk_us]
        · rw [pk_un hj]; exact hb j a (by omega))
      refine ⟨b', e1, e2, fun j h => e3 j ?_⟩
      by_cases hj : j = i
      · subst hj; rw [pk_us]
      · rw [pk_un hj]; exact h
theorem cl_eoe {p : Nat} (begins : Nat → Int32) (hE : ∀ i, i < n → ops i = o i ∧ nums i = w i) (hC : okC o w n) (hp : ht o p = 0) (hpn : p < n) : ∃ begins' : Nat → Int32, g_Tree_endOfExpression ops (nI n) begins (nI p) = some (nI (U o p), begins') ∧ (∀ j, p ≤ j → j < U o p → begins' j = nI (B o j)) ∧ ∀ j, begins j = nI (B o j) → begins' j = nI (B o j) := by
  have hn := hC.1
  obtain ⟨h1, h2, -⟩ := U_spec hC hp hpn
  exact cl_eoe_loop hE hC hp hpn 500 p begins (Nat.le_refl _) h1 (by omega) (fun j a b => by omega)
def la5 (la : Option Nat) : Int32 := match la with
  | none => -1
  | some j => nI j
/-- once there is a knot nothing more is made -/
theorem gK_st {kinds froms marks ends parts others followers begins : Nat → Int32} {s d k a1 a2 a3 : Int32} (hk : ¬ k = -2) (g : Nat) : (gg_Tree_grow (g + 1)).2.1 ops nums (nI n) kinds froms marks ends parts others followers begins s d k a1 a2 a3 = some (-1, kinds, froms, marks, ends, parts, others, followers, begins, s, d, k) := by
  show gb_Tree_growStatement (gg_Tree_grow g).2.2 ops nums (nI n) kinds froms marks ends parts others followers begins s d k a1 a2 a3 = _
  unfold gb_Tree_growStatement
  rw [if_neg hk]
theorem gK {kinds froms marks ends parts others followers begins : Nat → Int32} {s d k v2 v3 v4 v5 v6 v7 : Int32} (hk : ¬ k = -2) (g F : Nat) : b_Tree_grow_12 (gg_Tree_grow (g + 1)).2.1 ops nums (nI n) (F + 1) kinds froms marks ends parts others followers begins s d k v2 v3 v4 v5 v6 v7 = some (v4, kinds, froms, marks, ends, parts, others, followers, begins, s, d, k) := by
  rw [b_Tree_grow_12]
  by_cases h1 : (15 : Int32) ≤ v7
  · rw [if_pos h1]
  · rw [if_neg h1]
    by_cases h2 : v2 ≤ v6
    · rw [if_pos h2]
    · rw [if_neg h2, z_bind (gK_st hk g), if_pos (show (-1 : Int32) = -1 from rfl)]
theorem gK_gr {kinds froms marks ends parts others followers begins : Nat → Int32} {s d k a1 a2 a3 : Int32} (hk : ¬ k = -2) (g : Nat) : (gg_Tree_grow (g + 2)).1 ops nums (nI n) kinds froms marks ends parts others followers begins s d k a1 a2 a3 = some (-1, kinds, froms, marks, ends, parts, others, followers, begins, s, d, k) := by
  show b_Tree_grow_12 (gg_Tree_grow (g + 1)).2.1 ops nums (nI n) (499 + 1) kinds froms marks ends parts others followers begins s d k a2 a3 (-1) (-1) a1 0 = _
  exact gK hk g 499
theorem cT_add {kinds froms marks ends parts others followers : Nat → Int32} {m dep level : Nat} {k a1 a2 a3 a4 : Int32} (hm : m < 15) (hd : dep ≤ 100) (hl : level ≤ 15) : g_Tree_add kinds froms marks ends parts others followers (nI m) (nI dep) k a1 a2 a3 a4 (nI level) = some (nI m, upd kinds m a1, upd froms m a2, upd marks m a3, upd ends m a4, upd parts m (-1), upd others m (-1), upd followers m (-1), nI (m + 1), nI (max dep level), k) := by
  unfold g_Tree_add
  rw [if_neg (show ¬ (15 : Int32) ≤ nI m from nI_ge (b := 15) hm (by omega)), if_pos (show nI level ≤ 15 from nI_le (b := 15) hl (by omega)), if_pos (z_ck hm (by omega)), if_pos (z_ck hm (by omega)), if_pos (z_ck hm (by omega)), if_pos (z_ck hm (by omega)), if_pos (z_ck hm (by omega)), if_pos (z_ck hm (by omega)), if_pos (z_ck hm (by omega)), z_cl (by omega), z_a1]
  by_cases h : dep < level
  · rw [if_pos (nI_lt h (by omega)), show max dep level = level by omega]
  · rw [if_neg (nI_nlt (by omega) (by omega)), show max dep level = dep by omega]
/-- what is kept below m -/
def AG (m : Nat) (la : Option Nat) (kinds froms marks ends parts others followers begins kinds' froms' marks' ends' parts' others' followers' begins' : Nat → Int32) : Prop := ∀ i, i < m → kinds' i = kinds i ∧ froms' i = froms i ∧ marks' i = marks i ∧ ends' i = ends i ∧ parts' i = parts i ∧ others' i = others i ∧ (la ≠ some i → followers' i = followers i)
def MO (o begins begins' : Nat → Int32) : Prop := ∀ j, begins j = nI (B o j) → begins' j = nI (B o j)
def GLP (n : Nat) (o w ops nums : Nat → Int32) (f : Nat) : Prop := ∀ p q : Nat, VA o n p q → q - p < f → ∀ (kinds froms marks ends parts others followers begins : Nat → Int32) (m dep r g F level : Nat) (la : Option Nat) (v4 : Int32), 2 * m ≤ p → 1 ≤ level → level ≤ m + 1 → r ≤ m → (la = none → v4 = -1) → (∀ j, la = some j → j < m) → 3 * f ≤ g → 40 ≤ F + r → dep ≤ 50 →
  (kn o w f p q = none → ∃ kinds' froms' marks' ends' parts' others' followers' begins' : Nat → Int32, b_Tree_grow_12 (gg_Tree_grow g).2.1 ops nums (nI n) F kinds froms marks ends parts others followers begins (nI m) (nI dep) (-2) (nI q) (nI level) v4 (la5 la) (nI p) (nI r) = some (if la = none then ix p q m else v4, kinds', froms', marks', ends', parts', others', followers', begins', nI (m + cnt o w f p q), nI (if p < q then max dep (level - 1 + dpt o w f p q) else dep), -2) ∧ TB o w kinds' froms' marks' parts' others' followers' begins' f m p q ∧ AG m la kinds froms marks ends parts others followers begins kinds' froms' marks' ends' parts' others' followers' begins' ∧ (∀ i, la = some i → followers' i = if p < q then nI m else followers i) ∧ MO o begins begins') ∧
  (∀ z : Nat, kn o w f p q = some z → ∃ (v : Int32) (kinds' froms' marks' ends' parts' others' followers' begins' : Nat → Int32) (s d : Int32), b_Tree_grow_12 (gg_Tree_grow g).2.1 ops nums (nI n) F kinds froms marks ends parts others followers begins (nI m) (nI dep) (-2) (nI q) (nI level) v4 (la5 la) (nI p) (nI r) = some (v, kinds', froms', marks', ends', parts', others', followers', begins', s, d, nI z))
/-- growBranch up to the making of the STATEMENT -/
theorem br_top {f9 : (Nat → Int32) → (Nat → Int32) → Int32 → (Nat → Int32) → (Nat → Int32) → (Nat → Int32) → (Nat → Int32) → (Nat → Int32) → (Nat → Int32) → (Nat → Int32) → (Nat → Int32) → Int32 → Int32 → Int32 → Int32 → Int32 → Int32 → Option (Int32 × (Nat → Int32) × (Nat → Int32) × (Nat → Int32) × (Nat → Int32) × (Nat → Int32) × (Nat → Int32) × (Nat → Int32) × (Nat → Int32) × Int32 × Int32 × Int32)} {kinds froms marks ends parts others followers begins : Nat → Int32} {p q : Nat} {s d level : Int32} (hE : ∀ i, i < n → ops i = o i ∧ nums i = w i) (hC : okC o w n) (hV : VA o n p q) (hR : RG o w n p q) (h9 : o (U o p) = 9) : ∃ E ch : Int32, (ch = 0 ∧ kd o w p q ≠ 13 ∨ ch = 1 ∧ kd o w p q = 13 ∧ E = nI (cq o w p q)) ∧ ∃ t : Nat, t ≤ n ∧ (kd o w p q = 13 → t = cp o w p q) ∧ (kd o w p q = 12 → t = bq o w p q) ∧ (kd o w p q ≠ 12 → t - 1 = bq o w p q ∧ 0 < t) ∧
    gb_Tree_growBranch f9 ops nums (nI n) kinds froms marks ends parts others followers begins s d (-2) (nI p) (nI (U o p)) (nI q) level = b_Tree_growBranch_170 f9 ops nums (nI n) kinds froms marks ends parts others followers begins s d (-2) (nI (U o p)) level (nI t) (nI (t - 1)) E ch (nI (kd o w p q)) (nI (kd o w p q)) (nI p) (nI (U o p)) (nI (kp o w p q)) := by
  have hn := hC.1
  obtain ⟨h1, h2, -, -, -, vb, vc, vk, -, hK⟩ := hR
  have hqn := hV.2.1
  have m1 : ∀ k : Nat, k ≤ 30 → ¬ (-1 : Int32) = nI k := fun k hk e => nI_nm1 (by omega) e.symm
  rcases hK with ⟨-, e, -⟩ | ⟨-, e, -⟩ | ⟨ek, -, t, t1, t2, t3, t4, t5, e1, e2, e3, e4⟩ | ⟨ek, -, t, t1, t2, t3, e1, e2, e3, e4, e5⟩ | ⟨ek, -, t, e, t1, t2, t3, t4, t5, t6, t7, t8, e1, e2, e3, e4⟩
  · rw [h9] at e; exact absurd e (by decide)
  · rw [h9] at e; exact absurd e (by decide)
  · refine ⟨nI p, 0, Or.inl ⟨rfl, by omega⟩, t, by omega, fun h => by omega, fun h => by omega, fun h => ⟨e1.symm, by omega⟩, ?_⟩
    unfold gb_Tree_growBranch
    rw [z_bind (cl_number hn (by omega) (by omega)), if_pos (show U o p < n by omega), (hE (U o p) (by omega)).2, t1, if_neg (nI_ge (by omega) (by omega)), if_pos (nI_le t3 (by omega)), z_s1 (by omega), if_neg (nI_ge t2 (by omega)), z_bind (cl_op hn (by omega) (by omega)), if_pos (show t - 1 < n by omega), (hE (t - 1) (by omega)).1, t4, if_pos (show (8 : Int32) = 8 from rfl)]
    unfold b_Tree_growBranch_59
    rw [if_neg (show ¬ (1 : Int32) = 0 by decide), z_bind (cl_number hn (by omega) (by omega)), if_pos (show t - 1 < n by omega), (hE (t - 1) (by omega)).2, t5, if_neg (show ¬ (1 : Int32) = 0 by decide), if_pos rfl]
    unfold b_Tree_growBranch_97
    rw [if_neg (show ¬ (1 : Int32) = 0 by decide), if_neg (show ¬ (1 : Int32) = 0 by decide)]
    unfold b_Tree_growBranch_127
    rw [if_neg (show ¬ (1 : Int32) = 0 by decide), if_pos (show (0 : Int32) = 0 from rfl), ek, e2]
    rfl
  · have fin : ∀ E : Int32, b_Tree_growBranch_127 f9 ops nums (nI n) kinds froms marks ends parts others followers begins s d (-2) (nI p) (nI (U o p)) level (nI t) (nI (t - 1)) E 0 0 = b_Tree_growBranch_170 f9 ops nums (nI n) kinds froms marks ends parts others followers begins s d (-2) (nI (U o p)) level (nI t) (nI (t - 1)) E 0 (nI (kd o w p q)) (nI (kd o w p q)) (nI p) (nI (U o p)) (nI (kp o w p q)) := by
      intro E
      unfold b_Tree_growBranch_127
      rw [if_pos (show (0 : Int32) = 0 from rfl), if_pos (show (0 : Int32) = 0 from rfl), if_pos (show (0 : Int32) = 0 from rfl), ek, e2]
      rfl
    by_cases hj : U o p < t - 1 ∧ o (t - 1) = 8
    · obtain ⟨e9, g1, g2, g3, g4⟩ : ∃ e : Nat, e ≤ n ∧ w (t - 1) = nI e ∧ e ≠ p ∧ (e < t ∨ q < e) := by
        rcases e5 with h | ⟨-, -, h⟩
        · exact absurd hj h
        · exact h
      refine ⟨nI e9, 0, Or.inl ⟨rfl, by omega⟩, t, by omega, fun h => by omega, fun h => e1.symm, fun h => by omega, ?_⟩
      unfold gb_Tree_growBranch
      rw [z_bind (cl_number hn (by omega) (by omega)), if_pos (show U o p < n by omega), (hE (U o p) (by omega)).2, t1, if_neg (nI_ge (by omega) (by omega)), if_pos (nI_le t3 (by omega)), z_s1 (by omega), if_neg (nI_ge hj.1 (by omega)), z_bind (cl_op hn (by omega) (by omega)), if_pos (show t - 1 < n by omega), (hE (t - 1) (by omega)).1, hj.2, if_pos (show (8 : Int32) = 8 from rfl)]
      unfold b_Tree_growBranch_59
      rw [if_neg (show ¬ (1 : Int32) = 0 by decide), z_bind (cl_number hn (by omega) (by omega)), if_pos (show t - 1 < n by omega), (hE (t - 1) (by omega)).2, g2, if_neg (show ¬ (1 : Int32) = 0 by decide), if_neg (show ¬ nI e9 = nI p by rw [nI_eq (by omega) (by omega)]; exact g3)]
      unfold b_Tree_growBranch_97
      rw [if_neg (show ¬ (1 : Int32) = 0 by decide), if_pos (show (0 : Int32) = 0 from rfl)]
      by_cases h5 : e9 < t
      · rw [if_pos (nI_lt h5 (by omega)), fin]
      · rw [if_neg (nI_nlt (by omega) (by omega)), if_pos (nI_lt (show q < e9 by omega) (by omega)), fin]
    · refine ⟨-1, 0, Or.inl ⟨rfl, by omega⟩, t, by omega, fun h => by omega, fun h => e1.symm, fun h => by omega, ?_⟩
      have c59 : b_Tree_growBranch_59 f9 ops nums (nI n) kinds froms marks ends parts others followers begins s d (-2) (nI p) (nI (U o p)) (nI q) level (nI t) (nI (t - 1)) 0 = b_Tree_growBranch_170 f9 ops nums (nI n) kinds froms marks ends parts others followers begins s d (-2) (nI (U o p)) level (nI t) (nI (t - 1)) (-1) 0 (nI (kd o w p q)) (nI (kd o w p q)) (nI p) (nI (U o p)) (nI (kp o w p q)) := by
        unfold b_Tree_growBranch_59
        rw [if_pos (show (0 : Int32) = 0 from rfl), if_pos (show (0 : Int32) = 0 from rfl)]
        unfold b_Tree_growBranch_97
        rw [if_pos (show (0 : Int32) = 0 from rfl), fin]
      unfold gb_Tree_growBranch
      rw [z_bind (cl_number hn (by omega) (by omega)), if_pos (show U o p < n by omega), (hE (U o p) (by omega)).2, t1, if_neg (nI_ge (by omega) (by omega)), if_pos (nI_le t3 (by omega)), z_s1 (by omega)]
      by_cases h6 : t - 1 ≤ U o p
      · rw [if_pos (nI_le h6 (by omega)), c59]
      · rw [if_neg (nI_ge (by omega) (by omega)), z_bind (cl_op hn (by omega) (by omega)), if_pos (show t - 1 < n by omega), (hE (t - 1) (by omega)).1, if_neg (fun h => hj ⟨by omega, h⟩), c59]
  · refine ⟨nI e, 1, Or.inr ⟨rfl, by omega, by rw [e3]⟩, t, by omega, fun h => e2.symm, fun h => by omega, fun h => ⟨e1.symm, by omega⟩, ?_⟩
    unfold gb_Tree_growBranch
    rw [z_bind (cl_number hn (by omega) (by omega)), if_pos (show U o p < n by omega), (hE (U o p) (by omega)).2, t1, if_neg (nI_ge (by omega) (by omega)), if_pos (nI_le t3 (by omega)), z_s1 (by omega), if_neg (nI_ge t2 (by omega)), z_bind (cl_op hn (by omega) (by omega)), if_pos (show t - 1 < n by omega), (hE (t - 1) (by omega)).1, t4, if_pos (show (8 : Int32) = 8 from rfl)]
    unfold b_Tree_growBranch_59
    rw [if_neg (show ¬ (1 : Int32) = 0 by decide), z_bind (cl_number hn (by omega) (by omega)), if_pos (show t - 1 < n by omega), (hE (t - 1) (by omega)).2, t5, if_neg (show ¬ (1 : Int32) = 0 by decide), if_neg (show ¬ nI e = nI p by rw [nI_eq (by omega) (by omega)]; exact t6)]
    unfold b_Tree_growBranch_97
    rw [if_neg (show ¬ (1 : Int32) = 0 by decide), if_pos (show (0 : Int32) = 0 from rfl), if_neg (nI_nlt t7 (by omega)), if_neg (nI_nlt t8 (by omega))]
    unfold b_Tree_growBranch_127
    rw [if_pos (show (0 : Int32) = 0 from rfl), if_neg (show ¬ (1 : Int32) = 0 by decide), if_neg (show ¬ (1 : Int32) = 0 by decide), ek, e4]
    rfl
end
