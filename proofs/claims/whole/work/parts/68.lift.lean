/-! lift on both sides -/
def LGo (op to : Nat → Int32) (n K : Nat) (ts : IL) (l : List Int32) (ts' : IL) (l' : List Int32) : Prop := ∀ (td wi text : Nat → Int32) (wh tr : Int32), TS ts td wi → WR text l → ∃ (td' wi' text' : Nat → Int32) (wh' : Int32), TS ts' td' wi' ∧ WR text' l' ∧ ∀ F : Nat, b_M_lift_47 op to (nI n) (F + K) text (nI l.length) wh tr td wi (nI ts.length) 1 = b_M_lift_47 op to (nI n) F text' (nI l'.length) wh' tr td' wi' (nI ts'.length) 1
def LFl (op to : Nat → Int32) (n K : Nat) (ts : IL) (l : List Int32) (z : Nat) : Prop := ∀ (td wi text : Nat → Int32) (wh tr : Int32), TS ts td wi → WR text l → ∃ (td' wi' text' : Nat → Int32) (len top : Int32), ∀ F : Nat, b_M_lift_47 op to (nI n) (F + K) text (nI l.length) wh tr td wi (nI ts.length) 1 = b_M_lift_47 op to (nI n) F text' len (nI z) tr td' wi' top 0
section
variable {n : Nat} {op to : Nat → Int32}
theorem LGo.then {K1 K2 : Nat} {ts ts1 ts2 : IL} {l l1 l2 : List Int32} (h1 : LGo op to n K1 ts l ts1 l1) (h2 : LGo op to n K2 ts1 l1 ts2 l2) : LGo op to n (K2 + K1) ts l ts2 l2 := by
  intro td wi text wh tr a b
  obtain ⟨td1, wi1, text1, wh1, a1, b1, e1⟩ := h1 td wi text wh tr a b
  obtain ⟨td2, wi2, text2, wh2, a2, b2, e2⟩ := h2 td1 wi1 text1 wh1 tr a1 b1
  exact ⟨td2, wi2, text2, wh2, a2, b2, fun F => by rw [← Nat.add_assoc, e1 (F + K2), e2 F]⟩
theorem LGo.fl {K1 K2 z : Nat} {ts ts1 : IL} {l l1 : List Int32} (h1 : LGo op to n K1 ts l ts1 l1) (h2 : LFl op to n K2 ts1 l1 z) : LFl op to n (K2 + K1) ts l z := by
  intro td wi text wh tr a b
  obtain ⟨td1, wi1, text1, wh1, a1, b1, e1⟩ := h1 td wi text wh tr a b
  obtain ⟨td2, wi2, text2, len, top, e2⟩ := h2 td1 wi1 text1 wh1 tr a1 b1
  exact ⟨td2, wi2, text2, len, top, fun F => by rw [← Nat.add_assoc, e1 (F + K2), e2 F]⟩
theorem lg_top {r : IL} {x : Int32 × Int32} (hr : r.length < 600) : ¬ nI (x :: r).length ≤ 0 ∧ nI (x :: r).length - 1 = nI r.length := by
  rw [List.length_cons]
  exact ⟨nI_nle (by omega) (by omega), by rw [z_s1 (by omega), Nat.add_sub_cancel]⟩
theorem lg_sign {r : IL} {l : List Int32} {c : Int32} (hr : r.length < 600) (hl : l.length < 600) : LGo op to n 1 ((1, c) :: r) l r (l ++ [c]) := by
  intro td wi text wh tr ⟨t1, t2, t3⟩ hw
  obtain ⟨q1, q2⟩ := lg_top (x := (1, c)) hr
  refine ⟨td, wi, _, wh, t3, hw.add c, fun F => ?_⟩
  rw [b_M_lift_47, if_neg q1, if_neg (show ¬ (1 : Int32) = 0 by decide), q2, if_pos (z_ck hr (by omega)), z_cl (by omega), t1, t2]
  dsimp only
  rw [if_pos (show (1 : Int32) = 1 from rfl), if_pos (z_ck hr (by omega)), z_bind (mw_write hl c)]
theorem lg_range {p q : Nat} {r : IL} {text td wi text' td' wi' : Nat → Int32} {len wh tr v len' wh' top' : Int32} (hr : r.length < 600) (hp : p < 64) (hq : q < 64) (hT : TS ((0, li p q) :: r) td wi) (e : g_M_range op to text len wh td wi (nI r.length) (nI p) (nI q) = some (v, text', len', wh', td', wi', top')) (F : Nat) : b_M_lift_47 op to (nI n) (F + 1) text len wh tr td wi (nI ((0, li p q) :: r).length) 1 = b_M_lift_47 op to (nI n) F text' len' wh' tr td' wi' top' v := by
  obtain ⟨t1, t2, t3⟩ := hT
  obtain ⟨q1, q2⟩ := lg_top (x := (0, li p q)) hr
  have e1 : li p q - li p q / 64 * 64 = nI p := by
    unfold li
    rw [show (64 : Int32) = nI 64 from rfl, pk_rem (by omega) (by omega) (by omega)]
    congr 1
    omega
  have e2 : li p q / 64 = nI q := by
    unfold li
    rw [show (64 : Int32) = nI 64 from rfl, pk_div (by omega) (by omega) (by omega)]
    congr 1
    omega
  rw [b_M_lift_47, if_neg q1, if_neg (show ¬ (1 : Int32) = 0 by decide), q2, if_pos (z_ck hr (by omega)), z_cl (by omega), t1, t2]
  dsimp only
  rw [if_neg (show ¬ (0 : Int32) = 1 by decide), if_pos (z_ck hr (by omega)), if_pos (z_ck hr (by omega)), e1, e2, z_bind e]
theorem lg_nil {p : Nat} {r : IL} {l : List Int32} (hr : r.length < 600) (hp : p < 64) : LGo op to n 1 ((0, li p p) :: r) l r l := by
  intro td wi text wh tr hT hw
  refine ⟨td, wi, text, wh, hT.2.2, hw, fun F => lg_range hr hp hp hT ?_ F⟩
  unfold g_M_range
  rw [if_pos rfl]
theorem lgo_st {p q : Nat} {r : IL} {l : List Int32} (hC : okC op to n) (hV : VA op n p q) (hpq : p < q) (hR : RG op to n p q) (hr : r.length ≤ 300) (hl : l.length ≤ 290) : LGo op to n 1 ((0, li p q) :: r) l (nxS op to p q r) (l ++ wrS op to p q) := by
  have hn := hC.1
  have hqn := hV.2.1
  intro td wi text wh tr hT hw
  obtain ⟨td', wi', text', e1, e2, e3⟩ := mr_st (wh := wh) hC hV hpq hR hr hl hT.2.2 hw
  exact ⟨td', wi', text', _, e2, e3, fun F => lg_range (by omega) (by omega) (by omega) hT e1 F⟩
theorem lg_kn {p q : Nat} {r : IL} {l : List Int32} (hC : okC op to n) (hV : VA op n p q) (hpq : p < q) (hk : kd op to p q = 0) (hr : r.length ≤ 300) : LFl op to n 1 ((0, li p q) :: r) l (U op p) := by
  have hn := hC.1
  have hqn := hV.2.1
  intro td wi text wh tr hT hw
  exact ⟨td, wi, text, _, _, fun F => lg_range (by omega) (by omega) (by omega) hT (mr_kn hC hV hpq hk) F⟩
theorem lg_all (hC : okC op to n) : ∀ f p q, VA op n p q → q - p < f → ∀ (r : IL) (l : List Int32), r.length + 7 * (q - p) ≤ 300 → l.length + 3 * (q - p) ≤ 280 →
    (kn op to f p q = none → ∃ K : Nat, K ≤ 5 * (q - p) + 1 ∧ LGo op to n K ((0, li p q) :: r) l r (l ++ tx op to f p q)) ∧ (∀ z : Nat, kn op to f p q = some z → ∃ K : Nat, K ≤ 5 * (q - p) + 1 ∧ LFl op to n K ((0, li p q) :: r) l z) := by
  have hn := hC.1
  intro f
  induction f with
  | zero => intro p q _ h; omega
  | succ f ih =>
    intro p q hV hf r l hr hl
    have hqn := hV.2.1
    have hpq0 := hV.1
    by_cases hpq : p < q
    · rcases rg hC hV hpq with ⟨hk0, hR⟩ | ⟨hk0, -⟩
      · have hsz := hR.sz
        have hord := hR.ord
        have hst := lgo_st (r := r) (l := l) hC hV hpq hR (by omega) (by omega)
        obtain ⟨h1, h2, h3, h4, -, vb, vc, vk, hbk, hK⟩ := hR
        have hkn : kn op to (f + 1) p q = (kn op to f (U op p + 1) (bq op to p q)).or ((kn op to f (cp op to p q) (cq op to p q)).or (kn op to f (kp op to p q) q)) := by rw [kn, if_pos hpq, if_neg hk0]
        have hb1 := vb.1
        have hb2 := vb.2.1
        have hc1 := vc.1
        have hc2 := vc.2.1
        have hk1 := vk.1
        have hx := (ext_len (w := to) _ h3).2
        rw [h4] at hx
        obtain ⟨ha, hb⟩ := hdS_len op to p q
        have hwl : (wrS op to p q).length = (hdS op to p q).length + (ext op to (U op p - 1)).length + 1 := by
          unfold wrS
          split <;> (simp only [List.length_append, List.length_singleton]; omega)
        have htx : tx op to (f + 1) p q = hdS op to p q ++ (ext op to (U op p - 1) ++ (bdS (kd op to p q) (tx op to f (U op p + 1) (bq op to p q)) (tx op to f (cp op to p q) (cq op to p q)) ++ tx op to f (kp op to p q) q)) := by rw [tx, if_pos hpq]
        by_cases hs : kd op to p q = 2 ∨ kd op to p q = 10
        · have hbn : ¬ U op p + 1 < bq op to p q ∧ ¬ cp op to p q < cq op to p q ∧ kp op to p q = U op p + 1 := by
            rcases hK with ⟨-, -, e1, e2, e3, e4⟩ | ⟨-, -, e1, e2, e3, e4⟩ | ⟨e, -⟩ | ⟨e, -⟩ | ⟨e, -⟩ <;> omega
          rw [kn_nil hbn.1, kn_nil hbn.2.1] at hkn
          have hkn : kn op to (f + 1) p q = kn op to f (kp op to p q) q := hkn
          rw [hkn]
          have hw2 : (wrS op to p q).length ≤ 3 * (U op p + 1 - p) := by
            rcases hs with h | h
            · have := ha h; omega
            · have := hb (by omega); omega
          have en : nxS op to p q r = (0, li (kp op to p q) q) :: r := by unfold nxS; rw [if_pos hs]
          rw [en] at hst
          obtain ⟨i1, i2⟩ := ih (kp op to p q) q vk (by omega) r (l ++ wrS op to p q) (by omega) (by rw [List.length_append]; omega)
          refine ⟨fun hk => ?_, fun z hz => ?_⟩
          · obtain ⟨K, hK1, g⟩ := i1 hk
            refine ⟨K + 1, by omega, ?_⟩
            have e : l ++ wrS op to p q ++ tx op to f (kp op to p q) q = l ++ tx op to (f + 1) p q := by
              rw [htx]
              unfold wrS bdS
              rw [if_pos hs, if_pos hs]
              simp only [List.append_assoc]
            rw [← e]
            exact hst.then g
          · obtain ⟨K, hK1, g⟩ := i2 z hz
            exact ⟨K + 1, by omega, hst.fl g⟩
        · have hw2 : (wrS op to p q).length ≤ 3 * (U op p - p) + 2 := by
            have := hb (by omega)
            omega
          by_cases h13 : kd op to p q = 13
          · have ho : bq op to p q < cp op to p q ∧ cq op to p q ≤ kp op to p q := by
              rcases hK with ⟨e, -⟩ | ⟨e, -⟩ | ⟨e, -⟩ | ⟨e, -⟩ | ⟨-, -, t, e', -, a1, a2, -, -, -, a3, a4, e1, e2, e3, e4⟩ <;> omega
            have en : nxS op to p q r = (0, li (U op p + 1) (bq op to p q)) :: (1, 125) :: (1, 58) :: (1, 123) :: (0, li (cp op to p q) (cq op to p q)) :: (1, 125) :: (0, li (kp op to p q) q) :: r := by unfold nxS; rw [if_neg hs, if_pos h13]
            rw [en] at hst
            obtain ⟨b1, b2⟩ := ih (U op p + 1) (bq op to p q) vb (by omega) ((1, 125) :: (1, 58) :: (1, 123) :: (0, li (cp op to p q) (cq op to p q)) :: (1, 125) :: (0, li (kp op to p q) q) :: r) (l ++ wrS op to p q) (by simp only [List.length_cons]; omega) (by rw [List.length_append]; omega)
            cases ea : kn op to f (U op p + 1) (bq op to p q) with
            | some z1 =>
              rw [ea] at hkn
              refine ⟨fun h => (by rw [hkn] at h; cases h), fun z hz => ?_⟩
              rw [hkn] at hz
              have hz : z1 = z := by cases hz; rfl
              subst hz
              obtain ⟨K, hK1, g⟩ := b2 z1 ea
              exact ⟨K + 1, by omega, hst.fl g⟩
            | none =>
              obtain ⟨Kb, hKb, gb⟩ := b1 ea
              have lb := (tx_len hC f _ _ vb (by omega) ea).1
              have s1 : LGo op to n 1 ((1, 125) :: (1, 58) :: (1, 123) :: (0, li (cp op to p q) (cq op to p q)) :: (1, 125) :: (0, li (kp op to p q) q) :: r) (l ++ wrS op to p q ++ tx op to f (U op p + 1) (bq op to p q)) ((1, 58) :: (1, 123) :: (0, li (cp op to p q) (cq op to p q)) :: (1, 125) :: (0, li (kp op to p q) q) :: r) (l ++ wrS op to p q ++ tx op to f (U op p + 1) (bq op to p q) ++ [125]) := lg_sign (by simp only [List.length_cons]; omega) (by simp only [List.length_append]; omega)
              have s2 : LGo op to n 1 ((1, 58) :: (1, 123) :: (0, li (cp op to p q) (cq op to p q)) :: (1, 125) :: (0, li (kp op to p q) q) :: r) (l ++ wrS op to p q ++ tx op to f (U op p + 1) (bq op to p q) ++ [125]) ((1, 123) :: (0, li (cp op to p q) (cq op to p q)) :: (1, 125) :: (0, li (kp op to p q) q) :: r) (l ++ wrS op to p q ++ tx op to f (U op p + 1) (bq op to p q) ++ [125] ++ [58]) := lg_sign (by simp only [List.length_cons]; omega) (by simp only [List.length_append, List.length_singleton]; omega)
              have s3 : LGo op to n 1 ((1, 123) :: (0, li (cp op to p q) (cq op to p q)) :: (1, 125) :: (0, li (kp op to p q) q) :: r) (l ++ wrS op to p q ++ tx op to f (U op p + 1) (bq op to p q) ++ [125] ++ [58]) ((0, li (cp op to p q) (cq op to p q)) :: (1, 125) :: (0, li (kp op to p q) q) :: r) (l ++ wrS op to p q ++ tx op to f (U op p + 1) (bq op to p q) ++ [125] ++ [58] ++ [123]) := lg_sign (by simp only [List.length_cons]; omega) (by simp only [List.length_append, List.length_singleton]; omega)
              have upto := (((hst.then gb).then s1).then s2).then s3
              obtain ⟨c1, c2⟩ := ih (cp op to p q) (cq op to p q) vc (by omega) ((1, 125) :: (0, li (kp op to p q) q) :: r) (l ++ wrS op to p q ++ tx op to f (U op p + 1) (bq op to p q) ++ [125] ++ [58] ++ [123]) (by simp only [List.length_cons]; omega) (by simp only [List.length_append, List.length_singleton]; omega)
              cases eb : kn op to f (cp op to p q) (cq op to p q) with
              | some z1 =>
                rw [ea, eb] at hkn
                refine ⟨fun h => (by rw [hkn] at h; cases h), fun z hz => ?_⟩
                rw [hkn] at hz
                have hz : z1 = z := by cases hz; rfl
                subst hz
                obtain ⟨K, hK1, g⟩ := c2 z1 eb
                exact ⟨_, by omega, upto.fl g⟩
              | none =>
                obtain ⟨Kc, hKc, gc9⟩ := c1 eb
                have lc := (tx_len hC f _ _ vc (by omega) eb).1
                rw [ea, eb] at hkn
                have hkn : kn op to (f + 1) p q = kn op to f (kp op to p q) q := hkn
                rw [hkn]
                have s4 : LGo op to n 1 ((1, 125) :: (0, li (kp op to p q) q) :: r) (l ++ wrS op to p q ++ tx op to f (U op p + 1) (bq op to p q) ++ [125] ++ [58] ++ [123] ++ tx op to f (cp op to p q) (cq op to p q)) ((0, li (kp op to p q) q) :: r) (l ++ wrS op to p q ++ tx op to f (U op p + 1) (bq op to p q) ++ [125] ++ [58] ++ [123] ++ tx op to f (cp op to p q) (cq op to p q) ++ [125]) := lg_sign (by simp only [List.length_cons]; omega) (by simp only [List.length_append, List.length_singleton]; omega)
                have upto2 := (upto.then gc9).then s4
                obtain ⟨k1, k2⟩ := ih (kp op to p q) q vk (by omega) r (l ++ wrS op to p q ++ tx op to f (U op p + 1) (bq op to p q) ++ [125] ++ [58] ++ [123] ++ tx op to f (cp op to p q) (cq op to p q) ++ [125]) (by omega) (by simp only [List.length_append, List.length_singleton]; omega)
                refine ⟨fun hk => ?_, fun z hz => ?_⟩
                · obtain ⟨K, hK1, g⟩ := k1 hk
                  refine ⟨K + (1 + (Kc + (1 + (1 + (1 + (Kb + 1)))))), by omega, ?_⟩
                  · have e : l ++ wrS op to p q ++ tx op to f (U op p + 1) (bq op to p q) ++ [125] ++ [58] ++ [123] ++ tx op to f (cp op to p q) (cq op to p q) ++ [125] ++ tx op to f (kp op to p q) q = l ++ tx op to (f + 1) p q := by
                      rw [htx]
                      unfold wrS bdS
                      rw [if_neg hs, if_neg hs, if_pos h13]
                      simp only [List.append_assoc, List.cons_append, List.nil_append]
                    rw [← e]
                    exact upto2.then g
                · obtain ⟨K, hK1, g⟩ := k2 z hz
                  exact ⟨_, by omega, upto2.fl g⟩
          · have hcn : ¬ cp op to p q < cq op to p q := by
              rcases hK with ⟨e, -⟩ | ⟨e, -⟩ | ⟨-, -, t, -, a1, a2, -, -, e1, e2, e3, e4⟩ | ⟨-, -, t, -, a1, a2, e1, e2, e3, e4, -⟩ | ⟨e, -⟩ <;> omega
            have en : nxS op to p q r = (0, li (U op p + 1) (bq op to p q)) :: (1, 125) :: (0, li (kp op to p q) q) :: r := by unfold nxS; rw [if_neg hs, if_neg h13]
            rw [en] at hst
            rw [kn_nil hcn] at hkn
            obtain ⟨b1, b2⟩ := ih (U op p + 1) (bq op to p q) vb (by omega) ((1, 125) :: (0, li (kp op to p q) q) :: r) (l ++ wrS op to p q) (by simp only [List.length_cons]; omega) (by rw [List.length_append]; omega)
            cases ea : kn op to f (U op p + 1) (bq op to p q) with
            | some z1 =>
              rw [ea] at hkn
              refine ⟨fun h => (by rw [hkn] at h; cases h), fun z hz => ?_⟩
              rw [hkn] at hz
              have hz : z1 = z := by cases hz; rfl
              subst hz
              obtain ⟨K, hK1, g⟩ := b2 z1 ea
              exact ⟨K + 1, by omega, hst.fl g⟩
            | none =>
              obtain ⟨Kb, hKb, gb⟩ := b1 ea
              have lb := (tx_len hC f _ _ vb (by omega) ea).1
              rw [ea] at hkn
              have hkn : kn op to (f + 1) p q = kn op to f (kp op to p q) q := hkn
              rw [hkn]
              have s1 : LGo op to n 1 ((1, 125) :: (0, li (kp op to p q) q) :: r) (l ++ wrS op to p q ++ tx op to f (U op p + 1) (bq op to p q)) ((0, li (kp op to p q) q) :: r) (l ++ wrS op to p q ++ tx op to f (U op p + 1) (bq op to p q) ++ [125]) := lg_sign (by simp only [List.length_cons]; omega) (by simp only [List.length_append]; omega)
              have upto := (hst.then gb).then s1
              have hbk2 : bq op to p q + 1 ≤ kp op to p q ∨ (tx op to f (U op p + 1) (bq op to p q)).length ≤ 3 * (bq op to p q - (U op p + 1)) := Or.inr lb
              obtain ⟨k1, k2⟩ := ih (kp op to p q) q vk (by omega) r (l ++ wrS op to p q ++ tx op to f (U op p + 1) (bq op to p q) ++ [125]) (by omega) (by simp only [List.length_append, List.length_singleton]; omega)
              refine ⟨fun hk => ?_, fun z hz => ?_⟩
              · obtain ⟨K, hK1, g⟩ := k1 hk
                refine ⟨K + (1 + (Kb + 1)), by omega, ?_⟩
                · have e : l ++ wrS op to p q ++ tx op to f (U op p + 1) (bq op to p q) ++ [125] ++ tx op to f (kp op to p q) q = l ++ tx op to (f + 1) p q := by
                    rw [htx]
                    unfold wrS bdS
                    rw [if_neg hs, if_neg hs, if_neg h13]
                    simp only [List.append_assoc, List.cons_append, List.nil_append]
                  rw [← e]
                  exact upto.then g
              · obtain ⟨K, hK1, g⟩ := k2 z hz
                exact ⟨_, by omega, upto.fl g⟩
      · rw [kn, if_pos hpq, if_pos hk0]
        refine ⟨fun h => (by cases h), fun z hz => ?_⟩
        have hz : U op p = z := by cases hz; rfl
        subst hz
        exact ⟨1, by omega, lg_kn hC hV hpq hk0 (by omega)⟩
    · have e : q = p := by omega
      subst e
      rw [kn_nil hpq]
      refine ⟨fun _ => ⟨1, by omega, ?_⟩, fun z hz => (by cases hz)⟩
      rw [tx, if_neg hpq, List.append_nil]
      exact lg_nil (by omega) (by omega)
end
/-- the class's tree and the reference's text -/
def RelTr (T : Nat) (size depth stands ss : Int32) (so sn kinds froms marks parts others followers begins text : Nat → Int32) (tree : Int32) : Prop :=
  stands = tree ∧ ((tree = 0 ∧ size = 0 ∧ depth = 0) ∨ (tree = 1 ∧ ∃ (n : Nat) (o w : Nat → Int32), okC o w n ∧ kn o w 31 0 n = none ∧ ss = nI n ∧ (∀ i, i < n → so i = o i ∧ sn i = w i) ∧ size = nI (cnt o w 31 0 n) ∧ depth = nI (dpt o w 31 0 n) ∧ TB o w kinds froms marks parts others followers begins 31 0 0 n ∧ T = (tx o w 31 0 n).length ∧ WR text (tx o w 31 0 n)))
theorem RelTr_init {so sn kinds froms marks parts others followers begins text : Nat → Int32} : RelTr 0 0 0 0 0 so sn kinds froms marks parts others followers begins text 0 := ⟨rfl, Or.inl ⟨rfl, rfl, rfl⟩⟩
theorem WR_RelD {row text : Nat → Int32} {l : List Int32} (h1 : WR row l) (h2 : WR text l) (ho : okT l) (hl : l.length ≤ 90) : RelD 90 l.length row text := by
  refine ⟨hl, fun i hi => ?_⟩
  have e1 := h1 i hi
  have e2 := h2 i hi
  rw [e1] at e2
  have e3 : row i = text i := by injection e2
  refine ⟨e3.symm, ?_⟩
  exact ho (row i) (List.mem_of_getElem? e1)
set_option maxHeartbeats 4000000 in
theorem r_lift {n : Nat} {ops nums hts op to : Nat → Int32} (hC : RelC n ops nums hts op to) {row text so sn sh kinds froms marks ends parts others followers begins td wi : Nat → Int32} {s0 ss s d k st tr len wh tree top : Int32} : ∃ q q2, g_S_lift ops nums hts (nI n) row s0 so sn sh ss kinds froms marks ends parts others followers begins s d k st tr = some q ∧ g_M_lift op to text (nI n) len wh tree td wi top = some q2 ∧ q.1 = q2.1 ∧ ∃ T9 : Nat, q.2.2.1 = nI T9 ∧ q2.2.2.1 = nI T9 ∧ RelD 90 T9 q.2.1 q2.2.1 ∧ q.2.2.2.2.2.2.2.2.2.2.2.2.2.2.2.2.2.2.2 = q2.2.2.2.1 ∧ RelTr T9 q.2.2.2.2.2.2.2.2.2.2.2.2.2.2.2.1 q.2.2.2.2.2.2.2.2.2.2.2.2.2.2.2.2.1 q.2.2.2.2.2.2.2.2.2.2.2.2.2.2.2.2.2.2.1 q.2.2.2.2.2.2.1 q.2.2.2.1 q.2.2.2.2.1 q.2.2.2.2.2.2.2.1 q.2.2.2.2.2.2.2.2.1 q.2.2.2.2.2.2.2.2.2.1 q.2.2.2.2.2.2.2.2.2.2.2.1 q.2.2.2.2.2.2.2.2.2.2.2.2.1 q.2.2.2.2.2.2.2.2.2.2.2.2.2.1 q.2.2.2.2.2.2.2.2.2.2.2.2.2.2.1 q2.2.1 q2.2.2.2.2.1 := by
  have hn := hC.1
  obtain ⟨r, e1, e2, e3⟩ := r_least hC
  unfold g_S_lift g_M_lift
  have ed : g_Tree_drop s d st = some (0, 0, 0) := rfl
  rw [z_bind ed, z_bind (cl_Chars_drop _), z_bind e1, z_bind e2]
  dsimp only
  rcases e3 with ⟨rfl, hall⟩ | ⟨z, hz, rfl⟩
  · have hok : okC op to n := by
      refine ⟨hn, fun i hi => ?_, fun i hi => ?_, ?_⟩
      · rw [(hC.2.2 i hi).1, (hC.2.2 i hi).2]; exact hC.2.1.1 i hi
      · have h9 := hall.1 i hi
        unfold okAt at h9 ⊢
        rw [hC.ht (show i ≤ n by omega), (hC.2.2 i hi).1, (hC.2.2 i hi).2]
        refine ⟨h9.1, h9.2.1, h9.2.2.1, h9.2.2.2.1, h9.2.2.2.2.1, fun h => ?_⟩
        obtain ⟨k, k1, k2, k3⟩ := h9.2.2.2.2.2 h
        exact ⟨k, k1, k2, by rw [hC.ht k1]; exact k3⟩
      · rw [hC.ht (Nat.le_refl _)]; exact hall.2
    have hV : VA op n 0 n := ⟨by omega, by omega, rfl, hok.2.2.2⟩
    obtain ⟨mk1, mk2⟩ := cl_make (x1_ops := ops) (x1_nums := nums) (x1_hts := hts) (so := so) (sn := sn) (sh := sh) (kinds := kinds) (froms := froms) (marks := marks) (ends := ends) (parts := parts) (others := others) (followers := followers) (begins := begins) (ss := ss) (s := 0) (d := 0) (k := k) (st := 0) (o := op) (w := to) (fun i hi => ⟨(hC.2.2 i hi).1.symm, (hC.2.2 i hi).2.symm⟩) hok
    obtain ⟨lg1, lg2⟩ := lg_all hok 31 0 n hV (by omega) [] [] (by simp only [List.length_nil]; omega) (by simp only [List.length_nil]; omega)
    have hli : (64 : Int32) * nI n = li 0 n := by
      have := li_eq 0 n
      rw [← this, show nI 0 = 0 from rfl, Int32.zero_add]
    have hpush : g_M_push td wi 0 0 (li 0 n) = some (upd td 0 0, upd wi 0 (li 0 n), nI ((0, li 0 n) :: ([] : IL)).length) := ml_push (r := []) (by simp)
    have hTS : TS ((0, li 0 n) :: []) (upd td 0 0) (upd wi 0 (li 0 n)) := TS_push (r := []) trivial
    rw [if_pos (show (-2 : Int32) = -2 from rfl), if_pos (show (-2 : Int32) < 0 by decide), hli, z_bind hpush]
    dsimp only
    cases hk : kn op to 31 0 n with
    | none =>
      obtain ⟨so', sn', sh', kinds', froms', marks', ends', parts', others', followers', begins', m1, m2, m3⟩ := mk1 hk
      obtain ⟨K, hK, g⟩ := lg1 hk
      obtain ⟨td', wi', text', wh', t1, t2, t3⟩ := g _ _ text (-2) 0 hTS (fun i hi => absurd hi (Nat.not_lt_zero i))
      have t3 := t3 (5000 - K)
      rw [show 5000 - K + K = 5000 by omega, List.nil_append] at t3
      rw [List.nil_append] at t2
      have t3 : b_M_lift_47 op to (nI n) 5000 text 0 (-2) 0 (upd td 0 0) (upd wi 0 (li 0 n)) (nI ((0, li 0 n) :: ([] : IL)).length) 1 = _ := t3
      have hlen := tx_len hok 31 0 n hV (by omega) hk
      obtain ⟨row', w1, w2⟩ := cw_write (row := row) (s0 := 0) (N := cnt op to 31 0 n) m2 hok (by omega) hk m3 rfl
      rw [z_bind m1, if_pos (show (-2 : Int32) = -2 from rfl)]
      dsimp only
      rw [z_bind w1]
      dsimp only
      rw [z_bind (cl_Chars_size _), t3, show 5000 - K = (5000 - K - 1) + 1 by omega, b_M_lift_47, if_pos (show nI ([] : IL).length ≤ 0 by decide), if_neg (show ¬ (1 : Int32) = 0 by decide)]
      refine ⟨_, _, rfl, rfl, rfl, (tx op to 31 0 n).length, rfl, rfl, WR_RelD w2 t2 (tx_ok hok 31 0 n hV (by omega) hk) (by omega), rfl, rfl, Or.inr ⟨rfl, n, op, to, hok, hk, rfl, m2, rfl, rfl, m3, rfl, t2⟩⟩
    | some z =>
      obtain ⟨so', sn', sh', kinds', froms', marks', ends', parts', others', followers', begins', s', d', m1⟩ := mk2 z hk
      obtain ⟨K, hK, g⟩ := lg2 z hk
      have hzn := kn_lt hok _ _ _ hV hk
      obtain ⟨td', wi', text', len', top', t3⟩ := g _ _ text (-2) 0 hTS (fun i hi => absurd hi (Nat.not_lt_zero i))
      have t3 := t3 (5000 - K)
      rw [show 5000 - K + K = 5000 by omega] at t3
      have t3 : b_M_lift_47 op to (nI n) 5000 text 0 (-2) 0 (upd td 0 0) (upd wi 0 (li 0 n)) (nI ((0, li 0 n) :: ([] : IL)).length) 1 = _ := t3
      rw [z_bind m1, if_neg (nz (by omega))]
      dsimp only
      have ed2 : g_Tree_drop s' d' 0 = some (0, 0, 0) := rfl
      have t4 : b_M_lift_47 op to (nI n) (5000 - K) text' len' (nI z) 0 td' wi' top' 0 = some (-5, text', 0, nI z, 0, td', wi', top') := by
        rw [show 5000 - K = (5000 - K - 1) + 1 by omega, b_M_lift_47]
        by_cases h0 : top' ≤ 0
        · rw [if_pos h0, if_pos (show (0 : Int32) = 0 from rfl)]
        · rw [if_neg h0, if_pos (show (0 : Int32) = 0 from rfl), if_pos (show (0 : Int32) = 0 from rfl)]
      rw [z_bind ed2, t3, t4]
      exact ⟨_, _, rfl, rfl, rfl, 0, rfl, rfl, ⟨by omega, fun i hi => by omega⟩, rfl, rfl, Or.inl ⟨rfl, rfl, rfl⟩⟩
  · rw [if_neg (nz (by omega)), if_neg (nI_pos (by omega))]
    exact ⟨_, _, rfl, rfl, rfl, 0, rfl, rfl, ⟨by omega, fun i hi => by omega⟩, rfl, rfl, Or.inl ⟨rfl, rfl, rfl⟩⟩
