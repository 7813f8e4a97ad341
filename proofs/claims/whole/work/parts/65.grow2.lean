theorem cnt_nil {o w : Nat → Int32} {f p q : Nat} (h : ¬ p < q) : cnt o w f p q = 0 := by
  cases f with
  | zero => rfl
  | succ f => rw [cnt, if_neg h]
theorem dpt_nil {o w : Nat → Int32} {f p q : Nat} (h : ¬ p < q) : dpt o w f p q = 0 := by
  cases f with
  | zero => rfl
  | succ f => rw [dpt, if_neg h]
theorem kn_nil {o w : Nat → Int32} {f p q : Nat} (h : ¬ p < q) : kn o w f p q = none := by
  cases f with
  | zero => rfl
  | succ f => rw [kn, if_neg h]
theorem TB_nil {o w kinds froms marks parts others followers begins : Nat → Int32} {f m p q : Nat} (h : ¬ p < q) : TB o w kinds froms marks parts others followers begins f m p q := by
  cases f with
  | zero => exact trivial
  | succ f => exact fun h9 => absurd h9 h
theorem ix_nil {p q m : Nat} (h : ¬ p < q) : ix p q m = -1 := if_neg h
theorem kn_lt {o w : Nat → Int32} {n z : Nat} (hC : okC o w n) : ∀ f p q, VA o n p q → kn o w f p q = some z → z < n := by
  intro f
  induction f with
  | zero => intro p q _ h; cases h
  | succ f ih =>
    intro p q hV hk
    by_cases hpq : p < q
    · rw [kn, if_pos hpq] at hk
      have hu := U_ltq hC hV hpq
      have := hV.2.1
      rcases rg hC hV hpq with ⟨hk0, -, -, -, -, -, vb, vc, vk, -⟩ | ⟨hk0, -⟩
      · rw [if_neg hk0] at hk
        cases ea : kn o w f (U o p + 1) (bq o w p q) with
        | some y => rw [ea] at hk; cases hk; exact ih _ _ vb ea
        | none =>
          rw [ea] at hk
          cases eb : kn o w f (cp o w p q) (cq o w p q) with
          | some y => rw [eb] at hk; cases hk; exact ih _ _ vc eb
          | none => rw [eb] at hk; exact ih _ _ vk hk
      · rw [if_pos hk0] at hk
        cases hk
        omega
    · rw [kn_nil hpq] at hk
      cases hk
section
variable {n : Nat} {o w ops nums : Nat → Int32}
theorem nz {z : Nat} (h : z < 1000) : ¬ nI z = -2 := z_ne (by rw [z_tI (by omega), zi_m2]; omega)
/-- a STATEMENT at a knot -/
theorem gS0 {kinds froms marks ends parts others followers begins : Nat → Int32} {p q g : Nat} {s d level : Int32} (hE : ∀ i, i < n → ops i = o i ∧ nums i = w i) (hC : okC o w n) (hV : VA o n p q) (hpq : p < q) (hk : kd o w p q = 0) : ∃ begins' : Nat → Int32, (gg_Tree_grow (g + 2)).2.1 ops nums (nI n) kinds froms marks ends parts others followers begins s d (-2) (nI p) (nI q) level = some (-1, kinds, froms, marks, ends, parts, others, followers, begins', s, d, nI (U o p)) := by
  have hn := hC.1
  have hqn := hV.2.1
  obtain ⟨bg, e1, -, -⟩ := cl_eoe begins hE hC hV.2.2.1 (show p < n by omega)
  refine ⟨bg, ?_⟩
  show gb_Tree_growStatement (gg_Tree_grow (g + 1)).2.2 ops nums (nI n) kinds froms marks ends parts others followers begins s d (-2) (nI p) (nI q) level = _
  unfold gb_Tree_growStatement
  rcases rg hC hV hpq with ⟨hk0, -⟩ | ⟨-, h1, h2, h3⟩
  · exact absurd hk hk0
  · rw [if_pos (show (-2 : Int32) = -2 from rfl), z_bind e1]
    dsimp only
    rw [z_bind (cl_op hn (by omega) (by omega)), if_pos (show U o p < n by omega), (hE (U o p) (by omega)).1]
    rcases h3 with ⟨h8, -⟩ | ⟨h9, -, t, t1, t2, t3⟩
    · rw [h8, if_neg (show ¬ (8 : Int32) = 9 by decide), if_neg (show ¬ (8 : Int32) = 2 by decide), if_neg (show ¬ (8 : Int32) = 10 by decide)]
      rfl
    · have eb : (gg_Tree_grow (g + 1)).2.2 ops nums (nI n) kinds froms marks ends parts others followers bg s d (-2) (nI p) (nI (U o p)) (nI q) level = some (-1, kinds, froms, marks, ends, parts, others, followers, bg, s, d, nI (U o p)) := by
        show gb_Tree_growBranch (gg_Tree_grow g).1 ops nums (nI n) kinds froms marks ends parts others followers bg s d (-2) (nI p) (nI (U o p)) (nI q) level = _
        unfold gb_Tree_growBranch
        rw [z_bind (cl_number hn (by omega) (by omega)), if_pos (show U o p < n by omega), (hE (U o p) (by omega)).2, t2]
        by_cases h4 : t ≤ U o p
        · rw [if_pos (nI_le h4 (by omega))]
          rfl
        · rw [if_neg (nI_ge (by omega) (by omega)), if_neg (nI_ge (show q < t by omega) (by omega))]
          rfl
      rw [h9, if_pos (show (9 : Int32) = 9 from rfl), z_bind eb]
/-- what a made STATEMENT leaves -/
def SO9 (o w : Nat → Int32) (f m p q : Nat) (kinds froms marks ends parts others followers begins kinds' froms' marks' ends' parts' others' followers' begins' : Nat → Int32) : Prop :=
  kinds' m = nI (kd o w p q) ∧ froms' m = nI p ∧ marks' m = nI (U o p) ∧ ends' m = nI (kp o w p q) ∧ parts' m = ix (U o p + 1) (bq o w p q) (m + 1) ∧ others' m = ix (cp o w p q) (cq o w p q) (m + 1 + cnt o w f (U o p + 1) (bq o w p q)) ∧ followers' m = -1 ∧ (∀ j, p ≤ j → j < U o p → begins' j = nI (B o j)) ∧ TB o w kinds' froms' marks' parts' others' followers' begins' f (m + 1) (U o p + 1) (bq o w p q) ∧ TB o w kinds' froms' marks' parts' others' followers' begins' f (m + 1 + cnt o w f (U o p + 1) (bq o w p q)) (cp o w p q) (cq o w p q) ∧ AG m none kinds froms marks ends parts others followers begins kinds' froms' marks' ends' parts' others' followers' begins' ∧ MO o begins begins'
theorem gS {f : Nat} (ih : GLP n o w ops nums f) (hE : ∀ i, i < n → ops i = o i ∧ nums i = w i) (hC : okC o w n) {p q : Nat} (hV : VA o n p q) (hpq : p < q) (hf : q - p < f + 1) (hR : RG o w n p q) (kinds froms marks ends parts others followers begins : Nat → Int32) {m dep g level : Nat} (hm : 2 * m ≤ p) (hl1 : 1 ≤ level) (hl : level ≤ m + 1) (hg : 3 * f ≤ g) (hd : dep ≤ 50) :
    (kn o w f (U o p + 1) (bq o w p q) = none → kn o w f (cp o w p q) (cq o w p q) = none → ∃ kinds' froms' marks' ends' parts' others' followers' begins' : Nat → Int32, (gg_Tree_grow (g + 3)).2.1 ops nums (nI n) kinds froms marks ends parts others followers begins (nI m) (nI dep) (-2) (nI p) (nI q) (nI level) = some (nI m, kinds', froms', marks', ends', parts', others', followers', begins', nI (m + 1 + cnt o w f (U o p + 1) (bq o w p q) + cnt o w f (cp o w p q) (cq o w p q)), nI (max dep (level + max (dpt o w f (U o p + 1) (bq o w p q)) (dpt o w f (cp o w p q) (cq o w p q)))), -2) ∧ SO9 o w f m p q kinds froms marks ends parts others followers begins kinds' froms' marks' ends' parts' others' followers' begins') ∧
    (∀ z : Nat, (kn o w f (U o p + 1) (bq o w p q)).or (kn o w f (cp o w p q) (cq o w p q)) = some z → ∃ (kinds' froms' marks' ends' parts' others' followers' begins' : Nat → Int32) (s d : Int32), (gg_Tree_grow (g + 3)).2.1 ops nums (nI n) kinds froms marks ends parts others followers begins (nI m) (nI dep) (-2) (nI p) (nI q) (nI level) = some (nI m, kinds', froms', marks', ends', parts', others', followers', begins', s, d, nI z)) := by
  have hn := hC.1
  have hqn := hV.2.1
  have hsz := hR.sz
  have hR' := hR
  obtain ⟨h1, h2, h3, h4, -, vb, vc, vk, hbk, hK⟩ := hR
  obtain ⟨bg, e1, bg1, bg2⟩ := cl_eoe begins hE hC hV.2.2.1 (show p < n by omega)
  have hst : ∀ X, gb_Tree_growStatement (gg_Tree_grow (g + 2)).2.2 ops nums (nI n) kinds froms marks ends parts others followers begins (nI m) (nI dep) (-2) (nI p) (nI q) (nI level) = X ↔ (gg_Tree_grow (g + 3)).2.1 ops nums (nI n) kinds froms marks ends parts others followers begins (nI m) (nI dep) (-2) (nI p) (nI q) (nI level) = X := fun X => Iff.rfl
  have hop : g_Listing_op 30 ops (nI n) (nI (U o p)) = some (o (U o p)) := by rw [cl_op hn (by omega) (by omega), if_pos (show U o p < n by omega), (hE (U o p) (by omega)).1]
  by_cases h9 : o (U o p) = 9
  · -- a branch
    have k9 : kd o w p q = 11 ∨ kd o w p q = 12 ∨ kd o w p q = 13 := by
      rcases hK with ⟨-, e, -⟩ | ⟨-, e, -⟩ | ⟨ek, -⟩ | ⟨ek, -⟩ | ⟨ek, -⟩
      · rw [h9] at e; exact absurd e (by decide)
      · rw [h9] at e; exact absurd e (by decide)
      · omega
      · omega
      · omega
    obtain ⟨E, ch, hch, t, t1, t2, t3, t4, e2⟩ := br_top (f9 := (gg_Tree_grow (g + 1)).1) (kinds := kinds) (froms := froms) (marks := marks) (ends := ends) (parts := parts) (others := others) (followers := followers) (begins := bg) (s := nI m) (d := nI dep) (level := nI level) hE hC hV hR' h9
    have h170 : b_Tree_growBranch_170 (gg_Tree_grow (g + 1)).1 ops nums (nI n) kinds froms marks ends parts others followers bg (nI m) (nI dep) (-2) (nI (U o p)) (nI level) (nI t) (nI (t - 1)) E ch (nI (kd o w p q)) (nI (kd o w p q)) (nI p) (nI (U o p)) (nI (kp o w p q)) = b_Tree_growBranch_209 (gg_Tree_grow (g + 1)).1 ops nums (nI n) (upd kinds m (nI (kd o w p q))) (upd froms m (nI p)) (upd marks m (nI (U o p))) (upd ends m (nI (kp o w p q))) (upd parts m (-1)) (upd others m (-1)) (upd followers m (-1)) bg (nI (m + 1)) (nI (max dep level)) (-2) (nI level) (nI t) E ch (nI m) (nI m) (nI (U o p + 1)) (nI (bq o w p q)) := by
      unfold b_Tree_growBranch_170
      rw [z_bind (cT_add (by omega) (by omega) (by omega))]
      dsimp only
      rw [if_neg (nI_nm1 (by omega)), z_a1]
      by_cases h12 : kd o w p q = 12
      · rw [if_pos (show nI (kd o w p q) = 12 by rw [h12]; rfl), ← t3 h12]
      · rw [if_neg (show ¬ nI (kd o w p q) = 12 by rw [show (12 : Int32) = nI 12 from rfl, nI_eq (by omega) (by omega)]; exact h12), (t4 h12).1]
    have hall : ∀ X, b_Tree_growBranch_209 (gg_Tree_grow (g + 1)).1 ops nums (nI n) (upd kinds m (nI (kd o w p q))) (upd froms m (nI p)) (upd marks m (nI (U o p))) (upd ends m (nI (kp o w p q))) (upd parts m (-1)) (upd others m (-1)) (upd followers m (-1)) bg (nI (m + 1)) (nI (max dep level)) (-2) (nI level) (nI t) E ch (nI m) (nI m) (nI (U o p + 1)) (nI (bq o w p q)) = some X → (gg_Tree_grow (g + 3)).2.1 ops nums (nI n) kinds froms marks ends parts others followers begins (nI m) (nI dep) (-2) (nI p) (nI q) (nI level) = some X := by
      intro X hX
      rw [← hst]
      unfold gb_Tree_growStatement
      have eb : (gg_Tree_grow (g + 2)).2.2 ops nums (nI n) kinds froms marks ends parts others followers bg (nI m) (nI dep) (-2) (nI p) (nI (U o p)) (nI q) (nI level) = some X := by
        show gb_Tree_growBranch (gg_Tree_grow (g + 1)).1 ops nums (nI n) kinds froms marks ends parts others followers bg (nI m) (nI dep) (-2) (nI p) (nI (U o p)) (nI q) (nI level) = _
        rw [e2, h170, hX]
      rw [if_pos (show (-2 : Int32) = -2 from rfl), z_bind e1]
      dsimp only
      rw [z_bind hop, h9, if_pos (show (9 : Int32) = 9 from rfl), z_bind eb]
    have hgr : ∀ (kinds3 froms3 marks3 ends3 parts3 others3 followers3 begins3 : Nat → Int32) (s d k a1 a2 a3 : Int32), (gg_Tree_grow (g + 1)).1 ops nums (nI n) kinds3 froms3 marks3 ends3 parts3 others3 followers3 begins3 s d k a1 a2 a3 = b_Tree_grow_12 (gg_Tree_grow g).2.1 ops nums (nI n) 500 kinds3 froms3 marks3 ends3 parts3 others3 followers3 begins3 s d k a2 a3 (-1) (-1) a1 0 := fun _ _ _ _ _ _ _ _ _ _ _ _ _ _ => rfl
    have hl2 : nI level + 1 = nI (level + 1) := z_a1 level
    obtain ⟨ihn, ihk⟩ := ih (U o p + 1) (bq o w p q) vb (by omega) (upd kinds m (nI (kd o w p q))) (upd froms m (nI p)) (upd marks m (nI (U o p))) (upd ends m (nI (kp o w p q))) (upd parts m (-1)) (upd others m (-1)) (upd followers m (-1)) bg (m + 1) (max dep level) 0 g 500 (level + 1) none (-1) (by omega) (by omega) (by omega) (by omega) (fun _ => rfl) (fun j h => by cases h) hg (by omega) (by omega)
    have hck : ck (nI m) 15 = true := z_ck (by omega) (by omega)
    have hcl : (nI m).toNatClampNeg = m := z_cl (by omega)
    cases eb : kn o w f (U o p + 1) (bq o w p q) with
    | some z1 =>
      refine ⟨fun h => (by cases h), fun z hz => ?_⟩
      have hz : z1 = z := by cases hz; rfl
      subst hz
      obtain ⟨v, kinds1, froms1, marks1, ends1, parts1, others1, followers1, begins1, s1, d1, g1⟩ := ihk z1 eb
      have hz9 := kn_lt hC _ _ _ vb eb
      rcases hch with ⟨rfl, -⟩ | ⟨rfl, -⟩
      · refine ⟨kinds1, froms1, marks1, ends1, upd parts1 (nI m).toNatClampNeg v, others1, followers1, begins1, s1, d1, hall _ ?_⟩
        unfold b_Tree_growBranch_209
        rw [hgr, hl2]
        have g1 : b_Tree_grow_12 (gg_Tree_grow g).2.1 ops nums (nI n) 500 (upd kinds m (nI (kd o w p q))) (upd froms m (nI p)) (upd marks m (nI (U o p))) (upd ends m (nI (kp o w p q))) (upd parts m (-1)) (upd others m (-1)) (upd followers m (-1)) bg (nI (m + 1)) (nI (max dep level)) (-2) (nI (bq o w p q)) (nI (level + 1)) (-1) (-1) (nI (U o p + 1)) 0 = _ := g1
        rw [z_bind g1, if_pos hck, if_pos (show (0 : Int32) = 0 from rfl)]
      · refine ⟨kinds1, froms1, marks1, ends1, upd parts1 (nI m).toNatClampNeg v, upd others1 (nI m).toNatClampNeg (-1), followers1, begins1, s1, d1, hall _ ?_⟩
        unfold b_Tree_growBranch_209
        have g1 : b_Tree_grow_12 (gg_Tree_grow g).2.1 ops nums (nI n) 500 (upd kinds m (nI (kd o w p q))) (upd froms m (nI p)) (upd marks m (nI (U o p))) (upd ends m (nI (kp o w p q))) (upd parts m (-1)) (upd others m (-1)) (upd followers m (-1)) bg (nI (m + 1)) (nI (max dep level)) (-2) (nI (bq o w p q)) (nI (level + 1)) (-1) (-1) (nI (U o p + 1)) 0 = _ := g1
        rw [hgr, hl2, z_bind g1, if_pos hck, if_neg (show ¬ (1 : Int32) = 0 by decide)]
        dsimp only
        have : 1 ≤ g := by
          have : 0 < f := by omega
          omega
        obtain ⟨g', rfl⟩ : ∃ g', g = g' + 1 := ⟨g - 1, by omega⟩
        rw [z_bind (gK_gr (nz (by omega)) g'), if_pos hck]
    | none =>
      obtain ⟨kinds1, froms1, marks1, ends1, parts1, others1, followers1, begins1, g1, T1, G1, -, M1⟩ := ihn eb
      rw [if_pos rfl] at g1
      have hcb := tx_len hC f (U o p + 1) (bq o w p q) vb (by omega) eb
      have b1 := vb.1
      have vb2 := vb.2.1
      have hd1 : (if U o p + 1 < bq o w p q then max (max dep level) (level + 1 - 1 + dpt o w f (U o p + 1) (bq o w p q)) else max dep level) = max dep (level + dpt o w f (U o p + 1) (bq o w p q)) := by
        by_cases hb : U o p + 1 < bq o w p q
        · rw [if_pos hb]; omega
        · rw [if_neg hb, dpt_nil hb]; omega
      rw [hd1] at g1
      obtain ⟨a1, a2, a3, a4, a5, a6, a7⟩ := G1 m (by omega)
      rw [pk_us] at a1 a2 a3 a4 a5 a6 a7
      have a7 := a7 (by intro h; cases h)
      have below : ∀ i, i < m → kinds1 i = kinds i ∧ froms1 i = froms i ∧ marks1 i = marks i ∧ ends1 i = ends i ∧ parts1 i = parts i ∧ others1 i = others i ∧ followers1 i = followers i := by
        intro i hi
        obtain ⟨c1, c2, c3, c4, c5, c6, c7⟩ := G1 i (by omega)
        rw [pk_un (by omega)] at c1 c2 c3 c4 c5 c6 c7
        exact ⟨c1, c2, c3, c4, c5, c6, c7 (by intro h; cases h)⟩
      have MO1 : MO o begins begins1 := fun j h => M1 j (bg2 j h)
      have CV1 : ∀ j, p ≤ j → j < U o p → begins1 j = nI (B o j) := fun j x y => M1 j (bg1 j x y)
      have TBu : ∀ (kinds2 froms2 marks2 ends2 parts2 others2 followers2 begins2 : Nat → Int32), (∀ i, m + 1 ≤ i → i < m + 1 + cnt o w f (U o p + 1) (bq o w p q) → kinds2 i = kinds1 i ∧ froms2 i = froms1 i ∧ marks2 i = marks1 i ∧ parts2 i = parts1 i ∧ others2 i = others1 i ∧ followers2 i = followers1 i) → MO o begins1 begins2 → TB o w kinds2 froms2 marks2 parts2 others2 followers2 begins2 f (m + 1) (U o p + 1) (bq o w p q) := fun _ _ _ _ _ _ _ _ hx hm => TB_congr hm _ _ _ _ hx T1
      have g1 : b_Tree_grow_12 (gg_Tree_grow g).2.1 ops nums (nI n) 500 (upd kinds m (nI (kd o w p q))) (upd froms m (nI p)) (upd marks m (nI (U o p))) (upd ends m (nI (kp o w p q))) (upd parts m (-1)) (upd others m (-1)) (upd followers m (-1)) bg (nI (m + 1)) (nI (max dep level)) (-2) (nI (bq o w p q)) (nI (level + 1)) (-1) (-1) (nI (U o p + 1)) 0 = _ := g1
      rcases hch with ⟨rfl, hn13⟩ | ⟨rfl, h13, hEq⟩
      · have hcz : cp o w p q = 0 ∧ cq o w p q = 0 := by
          rcases hK with ⟨-, -, -, -, e3, e4⟩ | ⟨-, -, -, -, e3, e4⟩ | ⟨-, -, t, -, -, -, -, -, -, -, e3, e4⟩ | ⟨-, -, t, -, -, -, -, -, e3, e4, -⟩ | ⟨ek, -⟩
          · exact ⟨e3, e4⟩
          · exact ⟨e3, e4⟩
          · exact ⟨e3, e4⟩
          · exact ⟨e3, e4⟩
          · exact absurd ek hn13
        have hcn : ¬ cp o w p q < cq o w p q := by omega
        rw [kn_nil hcn]
        refine ⟨fun _ _ => ?_, fun z hz => (by cases hz)⟩
        refine ⟨kinds1, froms1, marks1, ends1, upd parts1 m (ix (U o p + 1) (bq o w p q) (m + 1)), others1, followers1, begins1, hall _ ?_, a1, a2, a3, a4, pk_us, ?_, a7, CV1, ?_, TB_nil hcn, ?_, MO1⟩
        · unfold b_Tree_growBranch_209
          rw [hgr, hl2, z_bind g1, if_pos hck, if_pos (show (0 : Int32) = 0 from rfl), hcl, cnt_nil hcn, dpt_nil hcn, Nat.max_zero]
          rfl
        · rw [a6, ix_nil hcn]
        · exact TBu _ _ _ ends1 _ _ _ _ (fun i x y => ⟨rfl, rfl, rfl, pk_un (by omega), rfl, rfl⟩) (fun j h => h)
        · intro i hi
          obtain ⟨c1, c2, c3, c4, c5, c6, c7⟩ := below i hi
          exact ⟨c1, c2, c3, c4, by rw [pk_un (by omega)]; exact c5, c6, fun _ => c7⟩
      · have ht : t = cp o w p q := t2 h13
        have hcp : bq o w p q < cp o w p q := by
          have := t4 (by omega)
          omega
        have vc2 := vc.2.1
        have vc1 := vc.1
        obtain ⟨ihn2, ihk2⟩ := ih (cp o w p q) (cq o w p q) vc (by omega) kinds1 froms1 marks1 ends1 (upd parts1 m (ix (U o p + 1) (bq o w p q) (m + 1))) others1 followers1 begins1 (m + 1 + cnt o w f (U o p + 1) (bq o w p q)) (max dep (level + dpt o w f (U o p + 1) (bq o w p q))) 0 g 500 (level + 1) none (-1) (by omega) (by omega) (by omega) (by omega) (fun _ => rfl) (fun j h => by cases h) hg (by omega) (by omega)
        cases ec : kn o w f (cp o w p q) (cq o w p q) with
        | some z1 =>
          refine ⟨fun _ h => (by cases h), fun z hz => ?_⟩
          have hz : z1 = z := by cases hz; rfl
          subst hz
          obtain ⟨v, kinds2, froms2, marks2, ends2, parts2, others2, followers2, begins2, s2, d2, g2⟩ := ihk2 z1 ec
          refine ⟨kinds2, froms2, marks2, ends2, parts2, upd others2 (nI m).toNatClampNeg v, followers2, begins2, s2, d2, hall _ ?_⟩
          unfold b_Tree_growBranch_209
          rw [hgr, hl2, z_bind g1, if_pos hck, if_neg (show ¬ (1 : Int32) = 0 by decide)]
          dsimp only
          rw [hgr, hcl, hEq, ht]
          have g2 : b_Tree_grow_12 (gg_Tree_grow g).2.1 ops nums (nI n) 500 kinds1 froms1 marks1 ends1 (upd parts1 m (ix (U o p + 1) (bq o w p q) (m + 1))) others1 followers1 begins1 (nI (m + 1 + cnt o w f (U o p + 1) (bq o w p q))) (nI (max dep (level + dpt o w f (U o p + 1) (bq o w p q)))) (-2) (nI (cq o w p q)) (nI (level + 1)) (-1) (-1) (nI (cp o w p q)) 0 = _ := g2
          rw [z_bind g2, if_pos hck]
        | none =>
          refine ⟨fun _ _ => ?_, fun z hz => (by cases hz)⟩
          obtain ⟨kinds2, froms2, marks2, ends2, parts2, others2, followers2, begins2, g2, T2, G2, -, M2⟩ := ihn2 ec
          rw [if_pos rfl] at g2
          have g2 : b_Tree_grow_12 (gg_Tree_grow g).2.1 ops nums (nI n) 500 kinds1 froms1 marks1 ends1 (upd parts1 m (ix (U o p + 1) (bq o w p q) (m + 1))) others1 followers1 begins1 (nI (m + 1 + cnt o w f (U o p + 1) (bq o w p q))) (nI (max dep (level + dpt o w f (U o p + 1) (bq o w p q)))) (-2) (nI (cq o w p q)) (nI (level + 1)) (-1) (-1) (nI (cp o w p q)) 0 = _ := g2
          obtain ⟨c1, c2, c3, c4, c5, c6, c7⟩ := G2 m (by omega)
          rw [pk_us] at c5
          have c7 := c7 (by intro h; cases h)
          have hcc := tx_len hC f (cp o w p q) (cq o w p q) vc (by omega) ec
          have hd2 : (if cp o w p q < cq o w p q then max (max dep (level + dpt o w f (U o p + 1) (bq o w p q))) (level + 1 - 1 + dpt o w f (cp o w p q) (cq o w p q)) else max dep (level + dpt o w f (U o p + 1) (bq o w p q))) = max dep (level + max (dpt o w f (U o p + 1) (bq o w p q)) (dpt o w f (cp o w p q) (cq o w p q))) := by
            by_cases hb : cp o w p q < cq o w p q
            · rw [if_pos hb]; omega
            · rw [if_neg hb, dpt_nil hb]; omega
          rw [hd2] at g2
          refine ⟨kinds2, froms2, marks2, ends2, parts2, upd others2 m (ix (cp o w p q) (cq o w p q) (m + 1 + cnt o w f (U o p + 1) (bq o w p q))), followers2, begins2, hall _ ?_, c1.trans a1, c2.trans a2, c3.trans a3, c4.trans a4, c5, pk_us, c7.trans a7, fun j x y => M2 j (CV1 j x y), ?_, ?_, ?_, fun j h => M2 j (MO1 j h)⟩
          · unfold b_Tree_growBranch_209
            rw [hgr, hl2, z_bind g1, if_pos hck, if_neg (show ¬ (1 : Int32) = 0 by decide)]
            dsimp only
            rw [hgr, hcl, hEq, ht, z_bind g2, if_pos hck]
          · refine TBu _ _ _ ends2 _ _ _ _ (fun i x y => ?_) M2
            obtain ⟨y1, y2, y3, y4, y5, y6, y7⟩ := G2 i y
            rw [pk_un (by omega)] at y5
            exact ⟨y1, y2, y3, y5, by rw [pk_un (by omega)]; exact y6, y7 (by intro h; cases h)⟩
          · exact TB_congr (fun j h => h) _ _ _ _ (fun i x y => ⟨rfl, rfl, rfl, rfl, pk_un (by omega), rfl⟩) T2
          · intro i hi
            obtain ⟨x1, x2, x3, x4, x5, x6, x7⟩ := below i hi
            obtain ⟨y1, y2, y3, y4, y5, y6, y7⟩ := G2 i (by omega)
            rw [pk_un (by omega)] at y5
            exact ⟨y1.trans x1, y2.trans x2, y3.trans x3, y4.trans x4, y5.trans x5, by rw [pk_un (by omega)]; exact y6.trans x6, fun _ => (y7 (by intro h; cases h)).trans x7⟩
  · -- STORE or PRINT
    have hs : (kd o w p q = 2 ∧ o (U o p) = 2 ∨ kd o w p q = 10 ∧ o (U o p) = 10) ∧ bq o w p q = U o p + 1 ∧ kp o w p q = U o p + 1 ∧ cp o w p q = 0 ∧ cq o w p q = 0 := by
      rcases hK with ⟨a, b, c⟩ | ⟨a, b, c⟩ | ⟨-, e, -⟩ | ⟨-, e, -⟩ | ⟨-, e, -⟩
      · exact ⟨Or.inl ⟨a, b⟩, c⟩
      · exact ⟨Or.inr ⟨a, b⟩, c⟩
      · exact absurd e h9
      · exact absurd e h9
      · exact absurd e h9
    obtain ⟨hs1, hs2, hs3, hs4, hs5⟩ := hs
    have hbn : ¬ U o p + 1 < bq o w p q := by omega
    have hcn : ¬ cp o w p q < cq o w p q := by omega
    rw [kn_nil hbn, kn_nil hcn]
    refine ⟨fun _ _ => ?_, fun z hz => (by cases hz)⟩
    refine ⟨upd kinds m (nI (kd o w p q)), upd froms m (nI p), upd marks m (nI (U o p)), upd ends m (nI (kp o w p q)), upd parts m (-1), upd others m (-1), upd followers m (-1), bg, ?_, pk_us, pk_us, pk_us, pk_us, by rw [pk_us, ix_nil hbn], by rw [pk_us, ix_nil hcn], pk_us, bg1, TB_nil hbn, TB_nil hcn, fun i hi => ⟨pk_un (by omega), pk_un (by omega), pk_un (by omega), pk_un (by omega), pk_un (by omega), pk_un (by omega), fun _ => pk_un (by omega)⟩, bg2⟩
    rw [← hst, cnt_nil hbn, cnt_nil hcn, dpt_nil hbn, dpt_nil hcn]
    unfold gb_Tree_growStatement
    rw [if_pos (show (-2 : Int32) = -2 from rfl), z_bind e1]
    dsimp only
    rw [z_bind hop, z_a1, hs3]
    rcases hs1 with ⟨hk2, ho2⟩ | ⟨hk2, ho2⟩
    · rw [ho2, hk2, if_neg (show ¬ (2 : Int32) = 9 by decide), if_pos (show (2 : Int32) = 2 from rfl), z_bind (cT_add (by omega) (by omega) (by omega))]
      rfl
    · rw [ho2, hk2, if_neg (show ¬ (10 : Int32) = 9 by decide), if_neg (show ¬ (10 : Int32) = 2 by decide), if_pos (show (10 : Int32) = 10 from rfl), z_bind (cT_add (by omega) (by omega) (by omega))]
      rfl
end
