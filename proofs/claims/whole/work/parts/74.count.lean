/-! count on both sides: the reference reads its text -/
def mm (ms dp m : Nat) : Nat := if m = 0 then ms else max ms (dp + m)
def TLY (l : List Int32) (a b c e m : Nat) : Prop := m ≤ l.length ∧ ∀ (text : Nat → Int32) (T P : Nat) (v1 : Int32) (n2 n3 n4 n5 dp ms F : Nat), AT text P l → P + l.length ≤ T → T ≤ 90 → dp + l.length ≤ 200 → ms ≤ 200 → b_M_tally_19 text (nI T) 1 (F + l.length) v1 (nI n2) (nI n3) (nI n4) (nI n5) (nI dp) (nI ms) (nI P) = b_M_tally_19 text (nI T) 1 F v1 (nI (n2 + a)) (nI (n3 + b)) (nI (n4 + c)) (nI (n5 + e)) (nI dp) (nI (mm ms dp m)) (nI (P + l.length))
theorem TLY.eq {l : List Int32} {a b c e m a' b' c' e' m' : Nat} (h : TLY l a b c e m) (h1 : a = a') (h2 : b = b') (h3 : c = c') (h4 : e = e') (h5 : m = m') : TLY l a' b' c' e' m' := by subst h1 h2 h3 h4 h5; exact h
theorem tl_nil : TLY [] 0 0 0 0 0 := ⟨Nat.le_refl _, fun text T P v1 n2 n3 n4 n5 dp ms F _ _ _ _ _ => rfl⟩
theorem mm_le {ms dp m : Nat} (h1 : ms ≤ 200) (h2 : dp + m ≤ 200) : mm ms dp m ≤ 200 := by
  unfold mm
  split <;> omega
theorem mm_mm (ms dp m1 m2 : Nat) : mm (mm ms dp m1) dp m2 = mm ms dp (max m1 m2) := by
  unfold mm
  by_cases h1 : m1 = 0
  · by_cases h2 : m2 = 0
    · rw [if_pos h1, if_pos h2, if_pos (by omega)]
    · rw [if_pos h1, if_neg h2, if_neg (by omega)]; omega
  · by_cases h2 : m2 = 0
    · rw [if_neg h1, if_pos h2, if_neg (by omega)]; omega
    · rw [if_neg h1, if_neg h2, if_neg (by omega)]; omega
theorem tl_app {l l' : List Int32} {a b c e m a' b' c' e' m' : Nat} (h : TLY l a b c e m) (h' : TLY l' a' b' c' e' m') : TLY (l ++ l') (a + a') (b + b') (c + c') (e + e') (max m m') := by
  obtain ⟨hm, h⟩ := h
  obtain ⟨hm', h'⟩ := h'
  refine ⟨by rw [List.length_append]; omega, fun text T P v1 n2 n3 n4 n5 dp ms F hA hP hT hd hms => ?_⟩
  rw [List.length_append] at hP hd ⊢
  rw [show F + (l.length + l'.length) = F + l'.length + l.length by omega, h text T P v1 n2 n3 n4 n5 dp ms _ hA.left (by omega) hT (by omega) hms, h' text T (P + l.length) v1 _ _ _ _ dp _ F hA.right (by omega) hT (by omega) (mm_le hms (by omega)), mm_mm]
  simp only [Nat.add_assoc]
/-- one character, by what it does -/
theorem tl_step {text : Nat → Int32} {T P F : Nat} {v1 v2 v3 v4 v5 v6 v7 c : Int32} (hP : P < T) (hT : T ≤ 90) (h : text P = c) : b_M_tally_19 text (nI T) 1 (F + 1) v1 v2 v3 v4 v5 v6 v7 (nI P) = if c = 64 then b_M_tally_70 text (nI T) 1 (b_M_tally_19 text (nI T) 1 F) v1 v2 v3 v4 v5 v6 v7 (nI P) c 1 else if c = 63 then b_M_tally_70 text (nI T) 1 (b_M_tally_19 text (nI T) 1 F) v1 v2 v3 v4 v5 v6 v7 (nI P) c 1 else if c = 59 then b_M_tally_70 text (nI T) 1 (b_M_tally_19 text (nI T) 1 F) v1 v2 v3 v4 v5 v6 v7 (nI P) c 1 else b_M_tally_70 text (nI T) 1 (b_M_tally_19 text (nI T) 1 F) v1 v2 v3 v4 v5 v6 v7 (nI P) c 0 := by
  rw [b_M_tally_19, if_neg (nI_ge hP (by omega)), if_neg (show ¬ (1 : Int32) = 0 by decide), if_pos (z_ck (by omega) (by omega)), z_cl (by omega), h]
theorem tl_b0 {text : Nat → Int32} {tl tr : Int32} {rc : Int32 → Int32 → Int32 → Int32 → Int32 → Int32 → Int32 → Int32 → Option Int32} {v1 v2 v3 v4 v5 v6 v7 v8 c : Int32} : b_M_tally_70 text tl tr rc v1 v2 v3 v4 v5 v6 v7 v8 c 0 = b_M_tally_100 text tl tr rc v1 v2 v3 v4 v5 v6 v7 v8 c := by
  unfold b_M_tally_70
  rw [if_pos (show (0 : Int32) = 0 from rfl), if_pos (show (0 : Int32) = 0 from rfl)]
theorem tl_b1 {text : Nat → Int32} {tl tr : Int32} {rc : Int32 → Int32 → Int32 → Int32 → Int32 → Int32 → Int32 → Int32 → Option Int32} {v1 v3 v4 v5 v8 c : Int32} {n2 dp ms : Nat} (h1 : dp ≤ 200) (h2 : ms ≤ 200) : b_M_tally_70 text tl tr rc v1 (nI n2) v3 v4 v5 (nI dp) (nI ms) v8 c 1 = b_M_tally_100 text tl tr rc v1 (nI (n2 + 1)) v3 v4 v5 (nI dp) (nI (mm ms dp 1)) v8 c := by
  unfold b_M_tally_70 mm
  rw [if_neg (show ¬ (1 : Int32) = 0 by decide), if_neg (show ¬ (1 : Int32) = 0 by decide), if_neg (show ¬ (1 : Nat) = 0 by decide), z_a1, z_a1]
  by_cases h : dp + 1 ≤ ms
  · rw [if_pos (nI_le h (by omega)), show max ms (dp + 1) = ms by omega]
  · rw [if_neg (nI_ge (by omega) (by omega)), show max ms (dp + 1) = dp + 1 by omega]
theorem tl_pl {c : Int32} (h : pln c) : TLY [c] 0 0 0 0 0 := by
  obtain ⟨h1, h2, h3, h4, h5, h6⟩ := h
  refine ⟨by omega, fun text T P v1 n2 n3 n4 n5 dp ms F hA hP hT hd hms => ?_⟩
  rw [List.length_singleton] at hP ⊢
  rw [tl_step (by omega) hT hA.head, if_neg h1, if_neg h2, if_neg h3, tl_b0]
  unfold b_M_tally_100
  rw [if_neg h1, if_neg h2, if_neg h4]
  unfold b_M_tally_130
  rw [if_neg h5, if_neg h6, z_a1]
  rfl
theorem tl_64 : TLY [64] 1 1 0 0 1 := by
  refine ⟨Nat.le_refl _, fun text T P v1 n2 n3 n4 n5 dp ms F hA hP hT hd hms => ?_⟩
  rw [List.length_singleton] at hP hd ⊢
  rw [tl_step (by omega) hT hA.head, if_pos (show (64 : Int32) = 64 from rfl), tl_b1 (by omega) hms]
  unfold b_M_tally_100
  rw [if_pos (show (64 : Int32) = 64 from rfl), if_neg (show ¬ (64 : Int32) = 63 by decide), if_neg (show ¬ (64 : Int32) = 58 by decide)]
  unfold b_M_tally_130
  rw [if_neg (show ¬ (64 : Int32) = 123 by decide), if_neg (show ¬ (64 : Int32) = 125 by decide), z_a1, z_a1]
  rfl
theorem tl_63 : TLY [63] 1 0 1 0 1 := by
  refine ⟨Nat.le_refl _, fun text T P v1 n2 n3 n4 n5 dp ms F hA hP hT hd hms => ?_⟩
  rw [List.length_singleton] at hP hd ⊢
  rw [tl_step (by omega) hT hA.head, if_neg (show ¬ (63 : Int32) = 64 by decide), if_pos (show (63 : Int32) = 63 from rfl), tl_b1 (by omega) hms]
  unfold b_M_tally_100
  rw [if_neg (show ¬ (63 : Int32) = 64 by decide), if_pos (show (63 : Int32) = 63 from rfl), if_neg (show ¬ (63 : Int32) = 58 by decide)]
  unfold b_M_tally_130
  rw [if_neg (show ¬ (63 : Int32) = 123 by decide), if_neg (show ¬ (63 : Int32) = 125 by decide), z_a1, z_a1]
  rfl
theorem tl_59 : TLY [59] 1 0 0 0 1 := by
  refine ⟨Nat.le_refl _, fun text T P v1 n2 n3 n4 n5 dp ms F hA hP hT hd hms => ?_⟩
  rw [List.length_singleton] at hP hd ⊢
  rw [tl_step (by omega) hT hA.head, if_neg (show ¬ (59 : Int32) = 64 by decide), if_neg (show ¬ (59 : Int32) = 63 by decide), if_pos (show (59 : Int32) = 59 from rfl), tl_b1 (by omega) hms]
  unfold b_M_tally_100
  rw [if_neg (show ¬ (59 : Int32) = 64 by decide), if_neg (show ¬ (59 : Int32) = 63 by decide), if_neg (show ¬ (59 : Int32) = 58 by decide)]
  unfold b_M_tally_130
  rw [if_neg (show ¬ (59 : Int32) = 123 by decide), if_neg (show ¬ (59 : Int32) = 125 by decide), z_a1]
  rfl
theorem tl_58 : TLY [58] 0 0 0 1 0 := by
  refine ⟨by omega, fun text T P v1 n2 n3 n4 n5 dp ms F hA hP hT hd hms => ?_⟩
  rw [List.length_singleton] at hP hd ⊢
  rw [tl_step (by omega) hT hA.head, if_neg (show ¬ (58 : Int32) = 64 by decide), if_neg (show ¬ (58 : Int32) = 63 by decide), if_neg (show ¬ (58 : Int32) = 59 by decide), tl_b0]
  unfold b_M_tally_100
  rw [if_neg (show ¬ (58 : Int32) = 64 by decide), if_neg (show ¬ (58 : Int32) = 63 by decide), if_pos (show (58 : Int32) = 58 from rfl)]
  unfold b_M_tally_130
  rw [if_neg (show ¬ (58 : Int32) = 123 by decide), if_neg (show ¬ (58 : Int32) = 125 by decide), z_a1, z_a1]
  rfl
theorem tl_blk {l : List Int32} {a b c e m : Nat} (h : TLY l a b c e m) : TLY (123 :: (l ++ [125])) a b c e (if m = 0 then 0 else m + 1) := by
  obtain ⟨hm, h⟩ := h
  refine ⟨by simp only [List.length_cons, List.length_append, List.length_nil]; split <;> omega, fun text T P v1 n2 n3 n4 n5 dp ms F hA hP hT hd hms => ?_⟩
  simp only [List.length_cons, List.length_append, List.length_nil] at hP hd ⊢
  rw [show F + (l.length + (0 + 1) + 1) = F + 1 + l.length + 1 by omega, tl_step (by omega) hT hA.head, if_neg (show ¬ (123 : Int32) = 64 by decide), if_neg (show ¬ (123 : Int32) = 63 by decide), if_neg (show ¬ (123 : Int32) = 59 by decide), tl_b0]
  unfold b_M_tally_100
  rw [if_neg (show ¬ (123 : Int32) = 64 by decide), if_neg (show ¬ (123 : Int32) = 63 by decide), if_neg (show ¬ (123 : Int32) = 58 by decide)]
  unfold b_M_tally_130
  rw [if_pos (show (123 : Int32) = 123 from rfl), if_neg (show ¬ (123 : Int32) = 125 by decide), z_a1, z_a1, h text T (P + 1) v1 n2 n3 n4 n5 (dp + 1) ms _ hA.tail.left (by omega) hT (by omega) hms, tl_step (by omega) hT hA.tail.right.head, if_neg (show ¬ (125 : Int32) = 64 by decide), if_neg (show ¬ (125 : Int32) = 63 by decide), if_neg (show ¬ (125 : Int32) = 59 by decide), tl_b0]
  unfold b_M_tally_100
  rw [if_neg (show ¬ (125 : Int32) = 64 by decide), if_neg (show ¬ (125 : Int32) = 63 by decide), if_neg (show ¬ (125 : Int32) = 58 by decide)]
  unfold b_M_tally_130
  rw [if_neg (show ¬ (125 : Int32) = 123 by decide), if_pos (show (125 : Int32) = 125 from rfl), z_m1 (by omega), Nat.add_sub_cancel, z_a1]
  have e1 : mm ms (dp + 1) m = mm ms dp (if m = 0 then 0 else m + 1) := by
    unfold mm
    by_cases h0 : m = 0
    · rw [if_pos h0, if_pos h0, if_pos rfl]
    · rw [if_neg h0, if_neg h0, if_neg (by omega)]; omega
  rw [e1, show P + 1 + l.length + 1 = P + (l.length + (0 + 1) + 1) by omega]
theorem tl_pls : ∀ l : List Int32, (∀ x ∈ l, pln x) → TLY l 0 0 0 0 0
  | [], _ => tl_nil
  | c :: l, h => tl_app (l := [c]) (tl_pl (h c (List.mem_cons_self))) (tl_pls l (fun x hx => h x (List.mem_cons_of_mem _ hx)))
theorem kc_nil {o w : Nat → Int32} {x f p q : Nat} (h : ¬ p < q) : kc o w x f p q = 0 := by
  cases f with
  | zero => rfl
  | succ f => rw [kc, if_neg h]
theorem dpt_0 {o w : Nat → Int32} {f p q : Nat} (h : p < q) (hf : q - p < f) : 0 < dpt o w f p q := by
  cases f with
  | zero => omega
  | succ f => rw [dpt, if_pos h]; omega
theorem tl_tx {o w : Nat → Int32} {n : Nat} (hC : okC o w n) : ∀ f p q, VA o n p q → q - p < f → kn o w f p q = none → TLY (tx o w f p q) (cnt o w f p q) (kc o w 11 f p q) (kc o w 12 f p q + kc o w 13 f p q) (kc o w 13 f p q) (dpt o w f p q) := by
  refine tr_ind hC (fun f p => ?_) (fun f p q hpq hV hR ib ic ik => ?_)
  · rw [tx, cnt, kc, kc, kc, dpt, if_neg (by omega), if_neg (by omega), if_neg (by omega), if_neg (by omega), if_neg (by omega), if_neg (by omega)]
    exact tl_nil
  · rw [tx, cnt, kc, kc, kc, dpt, if_pos hpq, if_pos hpq, if_pos hpq, if_pos hpq, if_pos hpq, if_pos hpq]
    obtain ⟨h1, h2, h3, h4, -, vb, vc, vk, hbk, hK⟩ := hR
    have hqn := hV.2.1
    have hx := tl_pls _ (ext_pl hC.2.1 _ h3 (show U o p - 1 < n by omega))
    have b1 := vb.1
    have c1 := vc.1
    unfold hdS bdS
    rcases hK with ⟨ek, e0, e1, e2, e3, e4⟩ | ⟨ek, e0, e1, e2, e3, e4⟩ | ⟨ek, e0, t, -, a1, a2, -, -, e1, e2, e3, e4⟩ | ⟨ek, e0, t, -, a1, a2, e1, e2, e3, e4, -⟩ | ⟨ek, e0, t, e', -, a1, a2, -, -, -, a3, a4, e1, e2, e3, e4⟩
    · have nb : ¬ U o p + 1 < bq o w p q := by omega
      have nc : ¬ cp o w p q < cq o w p q := by omega
      obtain ⟨a, ha, ea⟩ := w_var hC.2.1 (show U o p < n by omega) (Or.inr e0)
      rw [ek, if_pos rfl, if_pos (Or.inl rfl), cnt_nil nb, cnt_nil nc, kc_nil nb, kc_nil nc, kc_nil nb, kc_nil nc, kc_nil nb, kc_nil nc, dpt_nil nb, dpt_nil nc, if_neg (by omega), if_neg (by omega), if_neg (by omega), ea, show (97 : Int32) = nI 97 from rfl, nI_add]
      have hh : TLY [nI (97 + a), 61] 0 0 0 0 0 := tl_pls _ (pl_cons (pln_n (by omega) (by omega) (by omega) (by omega) (by omega) (by omega) (by omega)) (pl_cons (pln_n (k := 61) (by omega) (by omega) (by omega) (by omega) (by omega) (by omega) (by omega)) pl_nil))
      exact (tl_app hh (tl_app hx (tl_app tl_59 ik))).eq (by omega) (by omega) (by omega) (by omega) (by omega)
    · have nb : ¬ U o p + 1 < bq o w p q := by omega
      have nc : ¬ cp o w p q < cq o w p q := by omega
      rw [ek, if_neg (by omega), if_pos (Or.inr rfl), cnt_nil nb, cnt_nil nc, kc_nil nb, kc_nil nc, kc_nil nb, kc_nil nc, kc_nil nb, kc_nil nc, dpt_nil nb, dpt_nil nc, if_neg (by omega), if_neg (by omega), if_neg (by omega)]
      have hh : TLY [sgS 10] 0 0 0 0 0 := tl_pls _ (pl_cons (pln_n (k := 35) (by omega) (by omega) (by omega) (by omega) (by omega) (by omega) (by omega)) pl_nil)
      exact (tl_app hh (tl_app hx (tl_app tl_59 ik))).eq (by omega) (by omega) (by omega) (by omega) (by omega)
    · have nc : ¬ cp o w p q < cq o w p q := by omega
      rw [ek, if_neg (by omega), if_neg (by omega), if_neg (by omega), cnt_nil nc, kc_nil nc, kc_nil nc, kc_nil nc, dpt_nil nc, if_pos rfl, if_neg (by omega), if_neg (by omega)]
      refine (tl_app tl_64 (tl_app hx (tl_app (tl_blk ib) ik))).eq (by omega) (by omega) (by omega) (by omega) ?_
      by_cases h0 : dpt o w f (U o p + 1) (bq o w p q) = 0
      · rw [if_pos h0]; omega
      · rw [if_neg h0]; omega
    · have nc : ¬ cp o w p q < cq o w p q := by omega
      rw [ek, if_neg (by omega), if_neg (by omega), if_neg (by omega), cnt_nil nc, kc_nil nc, kc_nil nc, kc_nil nc, dpt_nil nc, if_neg (by omega), if_pos rfl, if_neg (by omega)]
      refine (tl_app tl_63 (tl_app hx (tl_app (tl_blk ib) ik))).eq (by omega) (by omega) (by omega) (by omega) ?_
      by_cases h0 : dpt o w f (U o p + 1) (bq o w p q) = 0
      · rw [if_pos h0]; omega
      · rw [if_neg h0]; omega
    · rw [ek, if_neg (by omega), if_neg (by omega), if_pos rfl, if_neg (by omega), if_neg (by omega), if_pos rfl]
      have eb : ∀ (b c : List Int32), 123 :: (b ++ 125 :: 58 :: 123 :: (c ++ [125])) = (123 :: (b ++ [125])) ++ ([58] ++ (123 :: (c ++ [125]))) := fun b c => by simp only [List.append_assoc, List.cons_append, List.nil_append]
      rw [eb]
      refine (tl_app tl_63 (tl_app hx (tl_app (tl_app (tl_blk ib) (tl_app tl_58 (tl_blk ic))) ik))).eq (by omega) (by omega) (by omega) (by omega) ?_
      by_cases h0 : dpt o w f (U o p + 1) (bq o w p q) = 0
      · by_cases h1 : dpt o w f (cp o w p q) (cq o w p q) = 0
        · rw [if_pos h0, if_pos h1]; omega
        · rw [if_pos h0, if_neg h1]; omega
      · by_cases h1 : dpt o w f (cp o w p q) (cq o w p q) = 0
        · rw [if_neg h0, if_pos h1]; omega
        · rw [if_neg h0, if_neg h1]; omega
/-- the class counts kinds -/
theorem so_TB {o w kinds froms marks parts others followers begins : Nat → Int32} {n N x : Nat} (hC : okC o w n) (hN : N ≤ 15) (hx : x < 100) : ∀ f p q, VA o n p q → q - p < f → kn o w f p q = none → ∀ m sum F : Nat, TB o w kinds froms marks parts others followers begins f m p q → m + cnt o w f p q ≤ N → b_Tree_sizeOf_4 kinds (nI N) (F + cnt o w f p q) (nI x) (nI sum) (nI m) = b_Tree_sizeOf_4 kinds (nI N) F (nI x) (nI (sum + kc o w x f p q)) (nI (m + cnt o w f p q)) := by
  refine tr_ind hC (fun f p => ?_) (fun f p q hpq hV hR ib ic ik => ?_)
  · intro m sum F _ _
    rw [cnt, kc, if_neg (by omega), if_neg (by omega)]
    rfl
  · intro m sum F hT hm
    obtain ⟨t1, t2, t3, t4, t5, t6, t7, t8, t9, t10⟩ := hT hpq
    have hk := hR.2.2.2.2.2.2.2.2.2.k
    rw [cnt, if_pos hpq] at hm
    rw [cnt, kc, if_pos hpq, if_pos hpq, show F + (1 + cnt o w f (U o p + 1) (bq o w p q) + cnt o w f (cp o w p q) (cq o w p q) + cnt o w f (kp o w p q) q) = F + cnt o w f (kp o w p q) q + cnt o w f (cp o w p q) (cq o w p q) + cnt o w f (U o p + 1) (bq o w p q) + 1 by omega, b_Tree_sizeOf_4, if_neg (nI_ge (show m < N by omega) (by omega)), if_pos (z_ck (by omega) (by omega)), z_cl (by omega), t1]
    have fin : ∀ su : Nat, su = sum + (if kd o w p q = x then 1 else 0) → b_Tree_sizeOf_4 kinds (nI N) (F + cnt o w f (kp o w p q) q + cnt o w f (cp o w p q) (cq o w p q) + cnt o w f (U o p + 1) (bq o w p q)) (nI x) (nI su) (nI (m + 1)) = b_Tree_sizeOf_4 kinds (nI N) F (nI x) (nI (sum + ((if kd o w p q = x then 1 else 0) + kc o w x f (U o p + 1) (bq o w p q) + kc o w x f (cp o w p q) (cq o w p q) + kc o w x f (kp o w p q) q))) (nI (m + (1 + cnt o w f (U o p + 1) (bq o w p q) + cnt o w f (cp o w p q) (cq o w p q) + cnt o w f (kp o w p q) q))) := by
      intro su hsu
      rw [ib (m + 1) su _ t8 (by omega), ic _ _ _ t9 (by omega), ik _ _ F t10 (by omega)]
      congr 2 <;> omega
    by_cases hkx : kd o w p q = x
    · rw [if_pos (show nI (kd o w p q) = nI x by rw [hkx]), z_a1, z_a1]
      exact fin (sum + 1) (by rw [if_pos hkx])
    · rw [if_neg (show ¬ nI (kd o w p q) = nI x by rw [nI_eq (by omega) (by omega)]; exact hkx), z_a1]
      exact fin sum (by rw [if_neg hkx, Nat.add_zero])
theorem cl_sizeOf {o w kinds froms marks parts others followers begins : Nat → Int32} {n x : Nat} (hC : okC o w n) (hx : x < 100) (hk : kn o w 31 0 n = none) (hT : TB o w kinds froms marks parts others followers begins 31 0 0 n) : g_Tree_sizeOf kinds (nI (cnt o w 31 0 n)) (nI x) = some (nI (kc o w x 31 0 n)) := by
  have hn := hC.1
  have hV : VA o n 0 n := ⟨by omega, by omega, rfl, hC.2.2.2⟩
  have hlen := tx_len hC 31 0 n hV (by omega) hk
  have e := so_TB (x := x) hC (show cnt o w 31 0 n ≤ 15 by omega) hx 31 0 n hV (by omega) hk 0 0 (500 - cnt o w 31 0 n) hT (by omega)
  rw [show 500 - cnt o w 31 0 n + cnt o w 31 0 n = 500 by omega, Nat.zero_add, Nat.zero_add] at e
  unfold g_Tree_sizeOf
  have e : b_Tree_sizeOf_4 kinds (nI (cnt o w 31 0 n)) 500 (nI x) 0 0 = _ := e
  rw [e, show 500 - cnt o w 31 0 n = (500 - cnt o w 31 0 n - 1) + 1 by omega, b_Tree_sizeOf_4, if_pos (nI_le (Nat.le_refl _) (by omega))]
theorem ml_tally {o w text : Nat → Int32} {n : Nat} (hC : okC o w n) (hk : kn o w 31 0 n = none) (hW : WR text (tx o w 31 0 n)) (v1 : Int32) : g_M_tally text (nI (tx o w 31 0 n).length) 1 v1 = b_M_tally_156 text (nI (tx o w 31 0 n).length) 1 v1 (nI (cnt o w 31 0 n)) (nI (kc o w 11 31 0 n)) (nI (kc o w 12 31 0 n + kc o w 13 31 0 n)) (nI (kc o w 13 31 0 n)) (nI (dpt o w 31 0 n)) := by
  have hn := hC.1
  have hV : VA o n 0 n := ⟨by omega, by omega, rfl, hC.2.2.2⟩
  have hlen := tx_len hC 31 0 n hV (by omega) hk
  obtain ⟨-, h⟩ := tl_tx hC 31 0 n hV (by omega) hk
  have e := h text (tx o w 31 0 n).length 0 v1 0 0 0 0 0 0 (500 - (tx o w 31 0 n).length) (WR_AT hW) (by omega) (by omega) (by omega) (by omega)
  rw [show 500 - (tx o w 31 0 n).length + (tx o w 31 0 n).length = 500 by omega, Nat.zero_add, Nat.zero_add, Nat.zero_add, Nat.zero_add, Nat.zero_add] at e
  unfold g_M_tally
  have e : b_M_tally_19 text (nI (tx o w 31 0 n).length) 1 500 v1 0 0 0 0 0 0 0 = _ := e
  have em : mm 0 0 (dpt o w 31 0 n) = dpt o w 31 0 n := by
    unfold mm
    by_cases h0 : dpt o w 31 0 n = 0
    · rw [if_pos h0, h0]
    · rw [if_neg h0]; omega
  rw [e, em, show 500 - (tx o w 31 0 n).length = (500 - (tx o w 31 0 n).length - 1) + 1 by omega, b_M_tally_19, if_pos (nI_le (Nat.le_refl _) (by omega))]
theorem ml_tally0 {text : Nat → Int32} {T : Nat} (v1 : Int32) : g_M_tally text (nI T) 0 v1 = some 0 := by
  unfold g_M_tally
  have e : b_M_tally_156 text (nI T) 0 v1 0 0 0 0 0 = some 0 := by
    unfold b_M_tally_156
    repeat (first | rfl | split)
  rw [show (500 : Nat) = 499 + 1 from rfl, b_M_tally_19, e]
  by_cases h : nI T ≤ 0
  · rw [if_pos h]
  · rw [if_neg h, if_pos (show (0 : Int32) = 0 from rfl)]
set_option maxHeartbeats 4000000 in
theorem r_count {n L T : Nat} {size depth stands ss tree : Int32} {so sn kinds froms marks parts others followers begins text row vars kept var out : Nat → Int32} {pr dn prt dnt : Int32} (hTr : RelTr T size depth stands ss so sn kinds froms marks parts others followers begins text tree) (hT : RelD 90 T row text) (hM : RelM vars kept pr dn var out prt dnt) (x : Int32) : ∃ r : Int32, g_S_count (nI n) (nI L) (nI T) kinds size depth vars pr dn x = some r ∧ g_M_count text (nI n) (nI L) (nI T) tree var prt dnt x = some r := by
  obtain ⟨rfl, hTr⟩ := hTr
  obtain ⟨⟨p9, hp9, rfl, rfl, -⟩, rfl, hv⟩ := hM
  -- the tree's counts
  have key : ∀ y : Int32, (y = 5 ∨ y = 6 ∨ y = 7 ∨ y = 8 ∨ y = 9) → ∃ r : Int32, g_S_count (nI n) (nI L) (nI T) kinds size depth vars (nI p9) dn y = some r ∧ g_M_tally text (nI T) stands y = some r := by
    intro y hy
    rcases hTr with ⟨rfl, rfl, rfl⟩ | ⟨rfl, n9, o, w, hC, hk, rfl, hE, rfl, rfl, hB, rfl, hW⟩
    · refine ⟨0, ?_, ml_tally0 y⟩
      rcases hy with rfl | rfl | rfl | rfl | rfl <;> rfl
    · have s11 := cl_sizeOf (x := 11) hC (by omega) hk hB
      have s12 := cl_sizeOf (x := 12) hC (by omega) hk hB
      have s13 := cl_sizeOf (x := 13) hC (by omega) hk hB
      have s11 : g_Tree_sizeOf kinds (nI (cnt o w 31 0 n9)) 11 = _ := s11
      have s12 : g_Tree_sizeOf kinds (nI (cnt o w 31 0 n9)) 12 = _ := s12
      have s13 : g_Tree_sizeOf kinds (nI (cnt o w 31 0 n9)) 13 = _ := s13
      rw [ml_tally hC hk hW]
      rcases hy with rfl | rfl | rfl | rfl | rfl
      · exact ⟨_, rfl, rfl⟩
      · refine ⟨_, ?_, rfl⟩
        show (g_Tree_sizeOf kinds (nI (cnt o w 31 0 n9)) 11).bind (fun q8 => some q8) = _
        rw [z_bind s11]
      · refine ⟨nI (kc o w 12 31 0 n9), ?_, ?_⟩
        · show (g_Tree_sizeOf kinds (nI (cnt o w 31 0 n9)) 12).bind (fun q8 => some q8) = _
          rw [z_bind s12]
        · show some (nI (kc o w 12 31 0 n9 + kc o w 13 31 0 n9) - nI (kc o w 13 31 0 n9)) = _
          rw [pk_sub (by omega), Nat.add_sub_cancel]
      · refine ⟨_, ?_, rfl⟩
        show (g_Tree_sizeOf kinds (nI (cnt o w 31 0 n9)) 13).bind (fun q8 => some q8) = _
        rw [z_bind s13]
      · exact ⟨_, rfl, rfl⟩
  rcases z_ix x 16 (by omega) with hx | ⟨k, hk, rfl⟩
  · refine ⟨-1, ?_, ?_⟩
    · unfold g_S_count
      have ne : ∀ y : Int32, 0 ≤ y.toInt → y.toInt ≤ 15 → ¬ x = y := fun y h1 h2 e => by subst e; omega
      rw [if_neg (ne 0 (by decide) (by decide)), if_neg (ne 1 (by decide) (by decide)), if_neg (ne 2 (by decide) (by decide)), if_neg (ne 3 (by decide) (by decide)), if_neg (ne 4 (by decide) (by decide)), if_neg (ne 5 (by decide) (by decide)), if_neg (ne 6 (by decide) (by decide)), if_neg (ne 7 (by decide) (by decide)), if_neg (ne 8 (by decide) (by decide)), if_neg (ne 9 (by decide) (by decide))]
      by_cases h10 : x < 10
      · rw [if_pos h10]
      · rw [if_neg h10, if_pos (show (16 : Int32) ≤ x by rw [z_lt] at h10; rw [z_le]; have := zi_10; have := zi_16; omega)]
    · unfold g_M_count
      have ne : ∀ y : Int32, 0 ≤ y.toInt → y.toInt ≤ 15 → ¬ x = y := fun y h1 h2 e => by subst e; omega
      have e1 : g_M_in x 5 9 = some 0 := ml_in0 (by have := zi_5; have := zi_9; omega)
      have e2 : g_M_in x 10 15 = some 0 := ml_in0 (by have := zi_10; have := zi_15; omega)
      rw [z_bind e1, if_pos (show (0 : Int32) = 0 from rfl), z_bind e2, if_pos (show (0 : Int32) = 0 from rfl), if_neg (ne 0 (by decide) (by decide)), if_neg (ne 1 (by decide) (by decide)), if_neg (ne 2 (by decide) (by decide)), if_neg (ne 3 (by decide) (by decide)), if_neg (ne 4 (by decide) (by decide))]
  · have tl : ∀ y : Int32, (y = 5 ∨ y = 6 ∨ y = 7 ∨ y = 8 ∨ y = 9) → ∃ r : Int32, g_S_count (nI n) (nI L) (nI T) kinds size depth vars (nI p9) dn y = some r ∧ g_M_count text (nI n) (nI L) (nI T) stands var (nI p9) dn y = some r := by
      intro y hy
      obtain ⟨r, e1, e2⟩ := key y hy
      refine ⟨r, e1, ?_⟩
      unfold g_M_count
      have e3 : g_M_in y 5 9 = some 1 := by rcases hy with rfl | rfl | rfl | rfl | rfl <;> rfl
      rw [z_bind e3, if_neg (show ¬ (1 : Int32) = 0 by decide), z_bind e2]
    have vr : ∀ a : Nat, a < 6 → ∃ r : Int32, g_S_count (nI n) (nI L) (nI T) kinds size depth vars (nI p9) dn (nI (10 + a)) = some r ∧ g_M_count text (nI n) (nI L) (nI T) stands var (nI p9) dn (nI (10 + a)) = some r := by
      intro a ha
      refine ⟨vars a, ?_, ?_⟩
      · have e1 := cl_var (vars := vars) ha
        have e2 : nI (10 + a) - 10 = nI a := by
          rw [show (10 : Int32) = nI 10 from rfl, pk_sub (by omega)]
          congr 1
          omega
        unfold g_S_count
        have ne : ∀ y : Nat, y ≤ 9 → ¬ nI (10 + a) = nI y := fun y h e => by rw [nI_eq (by omega) (by omega)] at e; omega
        rw [if_neg (show ¬ nI (10 + a) = 0 from ne 0 (by omega)), if_neg (show ¬ nI (10 + a) = 1 from ne 1 (by omega)), if_neg (show ¬ nI (10 + a) = 2 from ne 2 (by omega)), if_neg (show ¬ nI (10 + a) = 3 from ne 3 (by omega)), if_neg (show ¬ nI (10 + a) = 4 from ne 4 (by omega)), if_neg (show ¬ nI (10 + a) = 5 from ne 5 (by omega)), if_neg (show ¬ nI (10 + a) = 6 from ne 6 (by omega)), if_neg (show ¬ nI (10 + a) = 7 from ne 7 (by omega)), if_neg (show ¬ nI (10 + a) = 8 from ne 8 (by omega)), if_neg (show ¬ nI (10 + a) = 9 from ne 9 (by omega)), if_neg (show ¬ nI (10 + a) < 10 from nI_nlt (b := 10) (by omega) (by omega)), if_neg (show ¬ (16 : Int32) ≤ nI (10 + a) from nI_ge (b := 16) (by omega) (by omega)), e2, z_bind e1]
      · have e2 : nI (10 + a) - 10 = nI a := by
          rw [show (10 : Int32) = nI 10 from rfl, pk_sub (by omega)]
          congr 1
          omega
        have e3 : g_M_in (nI (10 + a)) 5 9 = some 0 := ml_in0 (by rw [z_tI (by omega)]; have := zi_5; have := zi_9; omega)
        have e4 : g_M_in (nI (10 + a)) 10 15 = some 1 := ml_inn (lo := 10) (hi := 15) (by omega) (by omega) (by omega)
        unfold g_M_count
        rw [z_bind e3, if_pos (show (0 : Int32) = 0 from rfl), z_bind e4, if_neg (show ¬ (1 : Int32) = 0 by decide), e2, if_pos (z_ck ha (by omega)), z_cl (by omega), hv a ha]
    by_cases h10 : 10 ≤ k
    · have := vr (k - 10) (by omega)
      rw [show 10 + (k - 10) = k by omega] at this
      exact this
    · rcases (show k = 0 ∨ k = 1 ∨ k = 2 ∨ k = 3 ∨ k = 4 ∨ k = 5 ∨ k = 6 ∨ k = 7 ∨ k = 8 ∨ k = 9 by omega) with rfl | rfl | rfl | rfl | rfl | rfl | rfl | rfl | rfl | rfl
      · exact ⟨nI n, rfl, rfl⟩
      · exact ⟨nI L, rfl, rfl⟩
      · exact ⟨nI T, rfl, rfl⟩
      · exact ⟨nI p9, rfl, rfl⟩
      · exact ⟨dn, rfl, rfl⟩
      · exact tl 5 (by decide)
      · exact tl 6 (by decide)
      · exact tl 7 (by decide)
      · exact tl 8 (by decide)
      · exact tl 9 (by decide)
