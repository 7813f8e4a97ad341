theorem RG.ord {o w : Nat → Int32} {n p q : Nat} (h : RG o w n p q) : bq o w p q + (cq o w p q - cp o w p q) ≤ kp o w p q := by
  obtain ⟨h1, h2, -, -, -, ⟨b1, b2, -, -⟩, ⟨c1, c2, -, -⟩, ⟨k1, k2, -, -⟩, hbk, hK⟩ := h
  rcases hK with ⟨-, -, e1, e2, e3, e4⟩ | ⟨-, -, e1, e2, e3, e4⟩ | ⟨-, -, t, -, a1, a2, -, -, e1, e2, e3, e4⟩ | ⟨-, -, t, -, a1, a2, e1, e2, e3, e4, -⟩ | ⟨-, -, t, e, -, a1, a2, -, -, -, a3, a4, e1, e2, e3, e4⟩ <;> omega
def laF (la : Option Nat) (fl : Nat → Int32) (m : Nat) : Nat → Int32 := match la with
  | none => fl
  | some j => upd fl j (nI m)
section
variable {n : Nat} {o w ops nums : Nat → Int32}
theorem gL (hE : ∀ i, i < n → ops i = o i ∧ nums i = w i) (hC : okC o w n) : ∀ f, GLP n o w ops nums f := by
  have hn := hC.1
  intro f
  induction f with
  | zero => intro p q hV h; omega
  | succ f ih =>
    intro p q hV hf kinds froms marks ends parts others followers begins m dep r g F level la v4 hm hl1 hl hr hla hlj hg hF hd
    have hqn := hV.2.1
    have hpq0 := hV.1
    obtain ⟨F, rfl⟩ : ∃ F', F = F' + 1 := ⟨F - 1, by omega⟩
    obtain ⟨g, rfl⟩ : ∃ g', g = g' + 3 := ⟨g - 3, by omega⟩
    by_cases hpq : p < q
    · have hr15 : ¬ (15 : Int32) ≤ nI r := nI_ge (b := 15) (by omega) (by omega)
      have hqp : ¬ nI q ≤ nI p := nI_ge hpq (by omega)
      rcases rg hC hV hpq with ⟨hk0, hR⟩ | ⟨hk0, -⟩
      · have hsz := hR.sz
        have hord := hR.ord
        have hkn : kn o w (f + 1) p q = (kn o w f (U o p + 1) (bq o w p q)).or ((kn o w f (cp o w p q) (cq o w p q)).or (kn o w f (kp o w p q) q)) := by rw [kn, if_pos hpq, if_neg hk0]
        obtain ⟨sn, sk⟩ := gS ih hE hC hV hpq hf hR kinds froms marks ends parts others followers begins (m := m) (dep := dep) (g := g) (level := level) hm hl1 hl (by omega) hd
        obtain ⟨h1, h2, h3, h4, -, vb, vc, vk, hbk, hK⟩ := hR
        have hmck : ck (nI m) 15 = true := z_ck (by omega) (by omega)
        have hmcl : (nI m).toNatClampNeg = m := z_cl (by omega)
        -- one turn of the loop
        have turn : ∀ (kinds1 froms1 marks1 ends1 parts1 others1 followers1 begins1 : Nat → Int32) (s d k : Int32), (gg_Tree_grow (g + 3)).2.1 ops nums (nI n) kinds froms marks ends parts others followers begins (nI m) (nI dep) (-2) (nI p) (nI q) (nI level) = some (nI m, kinds1, froms1, marks1, ends1, parts1, others1, followers1, begins1, s, d, k) → b_Tree_grow_12 (gg_Tree_grow (g + 3)).2.1 ops nums (nI n) (F + 1) kinds froms marks ends parts others followers begins (nI m) (nI dep) (-2) (nI q) (nI level) v4 (la5 la) (nI p) (nI r) = b_Tree_grow_12 (gg_Tree_grow (g + 3)).2.1 ops nums (nI n) F kinds1 froms1 marks1 ends1 parts1 others1 (laF la followers1 m) begins1 s d k (nI q) (nI level) (if la = none then nI m else v4) (nI m) (ends1 m) (nI (r + 1)) := by
          intro _ _ _ _ _ _ _ _ s d k e
          rw [b_Tree_grow_12, if_neg hr15, if_neg hqp, z_bind e]
          dsimp only
          rw [if_neg (nI_nm1 (by omega))]
          cases la with
          | none =>
            rw [if_pos (show la5 none = -1 from rfl), if_pos hmck, hmcl, z_a1, if_pos rfl]
            rfl
          | some j =>
            have hj := hlj j rfl
            rw [if_neg (show ¬ la5 (some j) = -1 from nI_nm1 (by omega)), if_pos (show ck (la5 (some j)) 15 = true from z_ck (by omega) (by omega)), if_pos hmck, hmcl, z_a1, if_neg (by intro h; cases h), show (la5 (some j)).toNatClampNeg = j from z_cl (by omega)]
            rfl
        have knot : ∀ z : Nat, (kn o w f (U o p + 1) (bq o w p q)).or (kn o w f (cp o w p q) (cq o w p q)) = some z → z < n → ∃ (v : Int32) (kinds' froms' marks' ends' parts' others' followers' begins' : Nat → Int32) (s d : Int32), b_Tree_grow_12 (gg_Tree_grow (g + 3)).2.1 ops nums (nI n) (F + 1) kinds froms marks ends parts others followers begins (nI m) (nI dep) (-2) (nI q) (nI level) v4 (la5 la) (nI p) (nI r) = some (v, kinds', froms', marks', ends', parts', others', followers', begins', s, d, nI z) := by
          intro z hz hzn
          obtain ⟨kinds1, froms1, marks1, ends1, parts1, others1, followers1, begins1, s1, d1, e1⟩ := sk z hz
          obtain ⟨F, rfl⟩ : ∃ F', F = F' + 1 := ⟨F - 1, by omega⟩
          exact ⟨_, _, _, _, _, _, _, _, _, _, _, (turn _ _ _ _ _ _ _ _ _ _ _ e1).trans (gK (nz (by omega)) (g + 2) F)⟩
        cases ea : kn o w f (U o p + 1) (bq o w p q) with
        | some z1 =>
          rw [ea] at hkn knot
          refine ⟨fun h => (by rw [hkn] at h; cases h), fun z hz => ?_⟩
          rw [hkn] at hz
          have hz : z1 = z := by cases hz; rfl
          subst hz
          exact knot z1 rfl (kn_lt hC _ _ _ vb ea)
        | none =>
          cases eb : kn o w f (cp o w p q) (cq o w p q) with
          | some z1 =>
            rw [ea, eb] at hkn knot
            refine ⟨fun h => (by rw [hkn] at h; cases h), fun z hz => ?_⟩
            rw [hkn] at hz
            have hz : z1 = z := by cases hz; rfl
            subst hz
            exact knot z1 rfl (kn_lt hC _ _ _ vc eb)
          | none =>
            rw [ea, eb] at hkn
            have hkn : kn o w (f + 1) p q = kn o w f (kp o w p q) q := hkn
            obtain ⟨kinds1, froms1, marks1, ends1, parts1, others1, followers1, begins1, e1, s1, s2, s3, s4, s5, s6, s7, s8, s9, s10, s11, s12⟩ := sn ea eb
            have e2 := turn _ _ _ _ _ _ _ _ _ _ _ e1
            rw [s4] at e2
            have hcb := (tx_len hC f _ _ vb (by omega) ea).2
            have hcc := (tx_len hC f _ _ vc (by omega) eb).2
            have hb1 := vb.1
            have hb2 := vb.2.1
            have hc1 := vc.1
            have hc2 := vc.2.1
            have hk1 := vk.1
            rw [hkn]
            generalize eF : laF la followers1 m = fol at e2
            have fol_ne : ∀ i, la ≠ some i → fol i = followers1 i := by
              intro i hi
              rw [← eF]
              cases la with
              | none => rfl
              | some j => exact pk_un (fun h => hi (by rw [h]))
            have fol_eq : ∀ i, la = some i → fol i = nI m := by
              intro i hi
              rw [← eF, hi]
              exact pk_us
            obtain ⟨ihn, ihk⟩ := ih (kp o w p q) q vk (by omega) kinds1 froms1 marks1 ends1 parts1 others1 fol begins1 (m + 1 + cnt o w f (U o p + 1) (bq o w p q) + cnt o w f (cp o w p q) (cq o w p q)) (max dep (level + max (dpt o w f (U o p + 1) (bq o w p q)) (dpt o w f (cp o w p q) (cq o w p q)))) (r + 1) (g + 3) F level (some m) (if la = none then nI m else v4) (by omega) hl1 (by omega) (by omega) (fun h => by cases h) (fun j h => by cases h; omega) (by omega) (by omega) (by omega)
            refine ⟨fun hk => ?_, fun z hz => ?_⟩
            · obtain ⟨kinds2, froms2, marks2, ends2, parts2, others2, followers2, begins2, g1, T2, G2, H2, M2⟩ := ihn hk
              rw [if_neg (show ¬ some m = none by intro h; cases h)] at g1
              have hck := (tx_len hC f _ _ vk (by omega) hk).2
              have H2 := H2 m rfl
              obtain ⟨y1, y2, y3, y4, y5, y6, -⟩ := G2 m (by omega)
              have agr : ∀ i, m + 1 ≤ i → i < m + 1 + cnt o w f (U o p + 1) (bq o w p q) + cnt o w f (cp o w p q) (cq o w p q) → kinds2 i = kinds1 i ∧ froms2 i = froms1 i ∧ marks2 i = marks1 i ∧ parts2 i = parts1 i ∧ others2 i = others1 i ∧ followers2 i = followers1 i := by
                intro i hi1 hi2
                obtain ⟨x1, x2, x3, x4, x5, x6, x7⟩ := G2 i hi2
                exact ⟨x1, x2, x3, x5, x6, (x7 (by intro h; cases h; omega)).trans (fol_ne i (fun h => by have := hlj i h; omega))⟩
              refine ⟨kinds2, froms2, marks2, ends2, parts2, others2, followers2, begins2, ?_, ?_, ?_, ?_, fun j h => M2 j (s12 j h)⟩
              · rw [e2]
                refine g1.trans ?_
                have ed : (if kp o w p q < q then max (max dep (level + max (dpt o w f (U o p + 1) (bq o w p q)) (dpt o w f (cp o w p q) (cq o w p q)))) (level - 1 + dpt o w f (kp o w p q) q) else max dep (level + max (dpt o w f (U o p + 1) (bq o w p q)) (dpt o w f (cp o w p q) (cq o w p q)))) = (if p < q then max dep (level - 1 + dpt o w (f + 1) p q) else dep) := by
                  rw [if_pos hpq, dpt, if_pos hpq]
                  by_cases hb : kp o w p q < q
                  · rw [if_pos hb]; omega
                  · rw [if_neg hb, dpt_nil hb]; omega
                have ec : m + 1 + cnt o w f (U o p + 1) (bq o w p q) + cnt o w f (cp o w p q) (cq o w p q) + cnt o w f (kp o w p q) q = m + cnt o w (f + 1) p q := by rw [cnt, if_pos hpq]; omega
                have ei : ix p q m = nI m := if_pos hpq
                rw [ed, ec, ei]
              · intro _
                refine ⟨y1.trans s1, y2.trans s2, y3.trans s3, y5.trans s5, y6.trans s6, ?_, fun j a b => M2 j (s8 j a b), TB_congr M2 _ _ _ _ (fun i a b => agr i a (by omega)) s9, TB_congr M2 _ _ _ _ (fun i a b => agr i (by omega) b) s10, T2⟩
                rw [H2]
                unfold ix
                by_cases hb : kp o w p q < q
                · rw [if_pos hb, if_pos hb]
                · rw [if_neg hb, if_neg hb, fol_ne m (fun h => by have := hlj m h; omega), s7]
              · intro i hi
                obtain ⟨x1, x2, x3, x4, x5, x6, x7⟩ := G2 i (by omega)
                obtain ⟨z1, z2, z3, z4, z5, z6, z7⟩ := s11 i hi
                exact ⟨x1.trans z1, x2.trans z2, x3.trans z3, x4.trans z4, x5.trans z5, x6.trans z6, fun h => ((x7 (by intro h9; cases h9; omega)).trans (fol_ne i h)).trans (z7 (by intro h9; cases h9))⟩
              · intro i hi
                have := hlj i hi
                obtain ⟨x1, x2, x3, x4, x5, x6, x7⟩ := G2 i (by omega)
                rw [if_pos hpq, x7 (by intro h9; cases h9; omega), fol_eq i hi]
            · obtain ⟨v, kinds2, froms2, marks2, ends2, parts2, others2, followers2, begins2, s9, d9, g1⟩ := ihk z hz
              exact ⟨v, kinds2, froms2, marks2, ends2, parts2, others2, followers2, begins2, s9, d9, e2.trans g1⟩
      · obtain ⟨bg, e1⟩ := gS0 (g := g + 1) (kinds := kinds) (froms := froms) (marks := marks) (ends := ends) (parts := parts) (others := others) (followers := followers) (begins := begins) (s := nI m) (d := nI dep) (level := nI level) hE hC hV hpq hk0
        rw [kn, if_pos hpq, if_pos hk0]
        refine ⟨fun h => (by cases h), fun z hz => ?_⟩
        have hz : U o p = z := by cases hz; rfl
        subst hz
        refine ⟨v4, kinds, froms, marks, ends, parts, others, followers, bg, nI m, nI dep, ?_⟩
        rw [b_Tree_grow_12, if_neg hr15, if_neg hqp, z_bind e1, if_pos (show (-1 : Int32) = -1 from rfl)]
    · rw [kn_nil hpq, cnt_nil hpq, if_neg hpq]
      refine ⟨fun _ => ?_, fun z hz => (by cases hz)⟩
      refine ⟨kinds, froms, marks, ends, parts, others, followers, begins, ?_, TB_nil hpq, fun i hi => ⟨rfl, rfl, rfl, rfl, rfl, rfl, fun _ => rfl⟩, fun i hi => by rw [if_neg hpq], fun j h => h⟩
      have ev : (if la = none then ix p q m else v4) = v4 := by
        cases la with
        | none => rw [if_pos rfl, ix_nil hpq, hla rfl]
        | some j => rw [if_neg (by intro h; cases h)]
      rw [ev, b_Tree_grow_12]
      by_cases h15 : (15 : Int32) ≤ nI r
      · rw [if_pos h15]; rfl
      · rw [if_neg h15, if_pos (nI_le (by omega) (by omega))]; rfl
/-- make: the tree of CODE without wrong PLACES, or its first knot -/
theorem cl_make {x1_ops x1_nums x1_hts so sn sh kinds froms marks ends parts others followers begins : Nat → Int32} {ss s d k st : Int32} (hX : ∀ i, i < n → x1_ops i = o i ∧ x1_nums i = w i) (hC : okC o w n) :
    (kn o w 31 0 n = none → ∃ (so' sn' sh' kinds' froms' marks' ends' parts' others' followers' begins' : Nat → Int32), g_Tree_make 30 so sn sh ss kinds froms marks ends parts others followers begins s d k st x1_ops x1_nums x1_hts (nI n) = some (-2, so', sn', sh', nI n, kinds', froms', marks', ends', parts', others', followers', begins', nI (cnt o w 31 0 n), nI (dpt o w 31 0 n), -2, 1) ∧ (∀ i, i < n → so' i = o i ∧ sn' i = w i) ∧ TB o w kinds' froms' marks' parts' others' followers' begins' 31 0 0 n) ∧
    (∀ z : Nat, kn o w 31 0 n = some z → ∃ (so' sn' sh' kinds' froms' marks' ends' parts' others' followers' begins' : Nat → Int32) (s' d' : Int32), g_Tree_make 30 so sn sh ss kinds froms marks ends parts others followers begins s d k st x1_ops x1_nums x1_hts (nI n) = some (nI z, so', sn', sh', nI n, kinds', froms', marks', ends', parts', others', followers', begins', s', d', nI z, 0)) := by
  have hn := hC.1
  obtain ⟨so', sn', sh', e1, e2⟩ := cl_lbecome (n := n) (o0 := so) (n0 := sn) (h0 := sh) (o1 := x1_ops) (n1 := x1_nums) (h1 := x1_hts) (s0 := ss) 30 30 hn hn (by omega) (by omega)
  have hE : ∀ i, i < n → so' i = o i ∧ sn' i = w i := fun i hi => ⟨(e2.1 i hi).trans (hX i hi).1, (e2.2.1 i hi).trans (hX i hi).2⟩
  have hV : VA o n 0 n := ⟨by omega, by omega, rfl, hC.2.2.2⟩
  obtain ⟨gn, gk⟩ := gL (ops := so') (nums := sn') hE hC 31 0 n hV (by omega) kinds froms marks ends parts others followers begins 0 0 0 99 500 1 none (-1) (by omega) (by omega) (by omega) (by omega) (fun _ => rfl) (fun j h => by cases h) (by omega) (by omega) (by omega)
  have hmk : ∀ (v : Int32) (kinds1 froms1 marks1 ends1 parts1 others1 followers1 begins1 : Nat → Int32) (s1 d1 k1 : Int32), b_Tree_grow_12 (gg_Tree_grow 99).2.1 so' sn' (nI n) 500 kinds froms marks ends parts others followers begins (nI 0) (nI 0) (-2) (nI n) (nI 1) (-1) (la5 none) (nI 0) (nI 0) = some (v, kinds1, froms1, marks1, ends1, parts1, others1, followers1, begins1, s1, d1, k1) → g_Tree_make 30 so sn sh ss kinds froms marks ends parts others followers begins s d k st x1_ops x1_nums x1_hts (nI n) = some (k1, so', sn', sh', nI n, kinds1, froms1, marks1, ends1, parts1, others1, followers1, begins1, s1, d1, k1, if k1 = -2 then 1 else 0) := by
    intro v _ _ _ _ _ _ _ _ s1 d1 k1 e
    unfold g_Tree_make
    have ed : g_Tree_drop s d st = some (0, 0, 0) := rfl
    rw [z_bind ed, z_bind e1, z_bind (cl_size _)]
    dsimp only
    have e : g_Tree_grow 100 so' sn' (nI n) kinds froms marks ends parts others followers begins 0 0 (-2) 0 (nI n) 1 = _ := e
    rw [z_bind e]
    dsimp only
    by_cases hk : k1 = -2
    · rw [if_pos hk, if_pos hk]
    · rw [if_neg hk, if_neg hk]
  refine ⟨fun hk => ?_, fun z hz => ?_⟩
  · obtain ⟨kinds1, froms1, marks1, ends1, parts1, others1, followers1, begins1, e3, T1, -, -, -⟩ := gn hk
    have e4 := hmk _ _ _ _ _ _ _ _ _ _ _ _ e3
    refine ⟨so', sn', sh', kinds1, froms1, marks1, ends1, parts1, others1, followers1, begins1, ?_, hE, T1⟩
    rw [e4, if_pos (show (-2 : Int32) = -2 from rfl)]
    have ed : (if 0 < n then max 0 (1 - 1 + dpt o w 31 0 n) else 0) = dpt o w 31 0 n := by
      by_cases hb : 0 < n
      · rw [if_pos hb]; omega
      · rw [if_neg hb, dpt_nil hb]
    rw [ed, Nat.zero_add]
  · obtain ⟨v, kinds1, froms1, marks1, ends1, parts1, others1, followers1, begins1, s1, d1, e3⟩ := gk z hz
    have hzn := kn_lt hC _ _ _ hV hz
    have e4 := hmk _ _ _ _ _ _ _ _ _ _ _ _ e3
    rw [if_neg (nz (by omega))] at e4
    exact ⟨so', sn', sh', kinds1, froms1, marks1, ends1, parts1, others1, followers1, begins1, s1, d1, e4⟩
end
