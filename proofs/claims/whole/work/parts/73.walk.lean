/-! walk on both sides -/
theorem WR_AT {text : Nat → Int32} {l : List Int32} (h : WR text l) : AT text 0 l := fun i hi => by rw [Nat.zero_add]; exact h i hi
set_option maxHeartbeats 4000000 in
theorem r_walk {T : Nat} {size depth stands ss tree : Int32} {so sn kinds froms marks parts others followers begins text row : Nat → Int32} {st vars kept var stk sg out bl : Nat → Int32} {h pr dn lm hi shi prt dnt val : Int32} (hTr : RelTr T size depth stands ss so sn kinds froms marks parts others followers begins text tree) (hT : RelD 90 T row text) (hM : RelM vars kept pr dn var out prt dnt) (x lim : Int32) : ∃ q q2, g_S_walk so sn ss kinds froms marks parts others followers size stands st vars kept h pr dn lm x lim = some q ∧ g_M_walk text (nI T) tree var stk sg out bl hi shi prt dnt val x lim = some q2 ∧ q.1 = q2.1 ∧ RelM q.2.2.1 q.2.2.2.1 q.2.2.2.2.2.1 q.2.2.2.2.2.2.1 q2.2.1 q2.2.2.2.2.1 q2.2.2.2.2.2.2.2.2.1 q2.2.2.2.2.2.2.2.2.2.1 := by
  obtain ⟨rfl, hTr⟩ := hTr
  unfold g_S_walk g_M_walk
  by_cases h1 : lim.toInt < 0 ∨ 400 < lim.toInt
  · have e : g_M_in lim 0 400 = some 0 := ml_in0 (by have := zi_0; have := zi_400; omega)
    rw [z_bind e, if_pos (show (0 : Int32) = 0 from rfl)]
    by_cases h2 : lim < 0
    · rw [if_pos h2]
      exact ⟨_, _, rfl, rfl, rfl, hM⟩
    · rw [if_neg h2, if_neg (show ¬ lim ≤ 400 by rw [z_lt] at h2; rw [z_le]; have := zi_0; have := zi_400; omega)]
      exact ⟨_, _, rfl, rfl, rfl, hM⟩
  · have e : g_M_in lim 0 400 = some 1 := ml_in1 (by have := zi_0; omega) (by have := zi_400; omega)
    rw [z_bind e, if_neg (show ¬ (1 : Int32) = 0 by decide), if_neg (show ¬ lim < 0 by rw [z_lt]; have := zi_0; omega), if_pos (show lim ≤ 400 by rw [z_le]; have := zi_400; omega)]
    obtain ⟨l, hl, rfl⟩ : ∃ l : Nat, l ≤ 400 ∧ lim = nI l := ⟨lim.toInt.toNat, by omega, Int32.toInt_inj.mp (by rw [z_tI (by omega)]; omega)⟩
    rcases hTr with ⟨rfl, -, -⟩ | ⟨rfl, n, o, w, hC, hk, rfl, hE, rfl, rfl, hB, rfl, hW⟩
    · have es : g_Tree_stands 0 = some 0 := rfl
      rw [z_bind es, if_pos (show (0 : Int32) = 0 from rfl), if_pos (show (0 : Int32) = 0 from rfl)]
      exact ⟨_, _, rfl, rfl, rfl, hM⟩
    · have hn := hC.1
      have es : g_Tree_stands 1 = some 1 := rfl
      obtain ⟨v1, a1, a2⟩ := cl_start vars h pr dn lm x (nI l)
      obtain ⟨v2, o2, b1, b2, b3⟩ := ml_start var out hi prt dnt x
      rw [z_bind es, if_neg (show ¬ (1 : Int32) = 0 by decide), if_neg (show ¬ (1 : Int32) = 0 by decide), z_bind a1, z_bind b1]
      dsimp only
      have hV : VA o n 0 n := ⟨by omega, by omega, rfl, hC.2.2.2⟩
      have hlen := tx_len hC 31 0 n hV (by omega) hk
      obtain ⟨st1, c1⟩ := cw_all (N := cnt o w 31 0 n) (lim := l) hE hC (by omega) hl (l + 1) 31 0 n 0 0 0 99 500 (v1, kept, 0, 0) st hV (by omega) hk hB (by omega) (by omega) (by omega) (fun _ => ⟨by omega, by omega⟩) (by omega) (by omega) (Nat.zero_le _) (Nat.le_refl _) (by dsimp only; omega)
      obtain ⟨m1, m2⟩ := mw_all (text := text) (T := (tx o w 31 0 n).length) (lim := l) hC (by omega) hl (l + 1) 31 0 n 0 [] (v1, kept, 0, 0) hV (by omega) hk (WR_AT hW) (by omega) (Or.inl (by omega)) (by simp only [List.length_nil]; omega) (Nat.zero_le _) (Nat.le_refl _) (by dsimp only; omega)
      have hmono := rn_mono (o := o) (w := w) (lim := l) (l + 1) 0 n (v1, kept, 0, 0) (Nat.zero_le _) (Nat.le_refl _)
      dsimp only at c1 m1 m2 hmono
      generalize rn o w l (l + 1) 0 n (v1, kept, 0, 0) = r at *
      have hEN : EN (v1, kept, 0, 0) v2 o2 := ⟨fun v hv => by dsimp only; rw [b2 v hv, a2 v hv], fun k hk => by dsimp only; rw [if_neg (by omega), b3 k hk]⟩
      have ef : g_Tree_first (nI (cnt o w 31 0 n)) = some (ix 0 n 0) := by
        unfold g_Tree_first ix
        by_cases h0 : 0 < n
        · have : 0 < cnt o w 31 0 n := by rw [cnt, if_pos h0]; omega
          rw [if_pos h0, if_neg (nI_nle this (by omega))]
          rfl
        · have : cnt o w 31 0 n = 0 := by rw [cnt, if_neg h0]
          rw [if_neg h0, this, if_pos (show nI 0 ≤ 0 by decide)]
      have efl : g_Walker_follow so sn (nI n) kinds froms marks parts others followers (nI (cnt o w 31 0 n)) st v1 kept 0 0 0 (nI l) = RS9 st1 r := by
        unfold g_Walker_follow
        have c2 : g_Walker_walkFrom 100 so sn (nI n) kinds froms marks parts others followers (nI (cnt o w 31 0 n)) st v1 kept 0 0 0 (nI l) (ix 0 n 0) 0 = RS9 st1 r := by
          show gb_Walker_walkFrom (gg_Walker_walkFrom 99).2.1 (gg_Walker_walkFrom 99).2.2 so sn (nI n) kinds froms marks parts others followers (nI (cnt o w 31 0 n)) st v1 kept 0 0 0 (nI l) (ix 0 n 0) 0 = _
          unfold gb_Walker_walkFrom
          rw [if_pos (show (0 : Int32) ≤ 15 by decide)]
          exact c1
        rw [z_bind ef]
        by_cases hr : r.1 = true
        · rw [RS9_t hr] at c2 ⊢
          rw [z_bind c2]
          rfl
        · rw [RS9_f hr] at c2 ⊢
          rw [z_bind c2]
          rfl
      by_cases hr : r.1 = true
      · obtain ⟨K, hK, g1⟩ := m1 hr
        obtain ⟨v', st', sg', o', bl', hi', shi', val', en, -, e1⟩ := g1 v2 stk sg o2 bl 0 shi val hEN trivial
        have e1 := e1 (5000 - K)
        rw [show 5000 - K + K = 5000 by omega] at e1
        have e1 : b_M_walk_33 text (nI (tx o w 31 0 n).length) 1 5000 v2 stk sg o2 bl 0 shi 0 0 val (nI l) 0 0 = _ := e1
        rw [RS9_t hr] at efl
        rw [z_bind efl]
        dsimp only
        have ep : g_Machine_printed (nI r.2.2.2.1) = some (nI r.2.2.2.1) := rfl
        rw [if_neg (show ¬ (1 : Int32) = 0 by decide), z_bind ep, e1, show 5000 - K = (5000 - K - 1) + 1 by omega, b_M_walk_33, if_pos (nI_le (by omega) (by omega))]
        exact ⟨_, _, rfl, rfl, rfl, ⟨r.2.2.2.1, by omega, rfl, rfl, en.2⟩, rfl, en.1⟩
      · obtain ⟨K, hK, g1⟩ := m2 hr
        obtain ⟨v', st', sg', o', bl', hi', shi', val', en, e1⟩ := g1 v2 stk sg o2 bl 0 shi val hEN trivial
        have e1 := e1 (5000 - K)
        rw [show 5000 - K + K = 5000 by omega] at e1
        have e1 : b_M_walk_33 text (nI (tx o w 31 0 n).length) 1 5000 v2 stk sg o2 bl 0 shi 0 0 val (nI l) 0 0 = _ := e1
        rw [RS9_f hr] at efl
        rw [z_bind efl]
        dsimp only
        rw [if_pos (show (0 : Int32) = 0 from rfl), e1]
        exact ⟨_, _, rfl, rfl, rfl, ⟨r.2.2.2.1, by omega, rfl, rfl, en.2⟩, rfl, en.1⟩
