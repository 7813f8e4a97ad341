/-! the value of a part: the reference reads its text -/
def AT (text : Nat → Int32) (P : Nat) (l : List Int32) : Prop := ∀ i, i < l.length → l[i]? = some (text (P + i))
theorem AT.nil {text : Nat → Int32} {P : Nat} : AT text P [] := fun i hi => absurd hi (Nat.not_lt_zero i)
theorem AT.head {text : Nat → Int32} {P : Nat} {c : Int32} {l : List Int32} (h : AT text P (c :: l)) : text P = c := by
  have := h 0 (by simp)
  simp at this
  exact this.symm
theorem AT.tail {text : Nat → Int32} {P : Nat} {c : Int32} {l : List Int32} (h : AT text P (c :: l)) : AT text (P + 1) l := fun i hi => by
  have := h (i + 1) (by simp; exact hi)
  rw [List.getElem?_cons_succ] at this
  rw [this]
  congr 2
  omega
theorem AT.left {text : Nat → Int32} {P : Nat} {l l' : List Int32} (h : AT text P (l ++ l')) : AT text P l := fun i hi => by
  have := h i (by rw [List.length_append]; omega)
  rw [List.getElem?_append_left hi] at this
  exact this
theorem AT.right {text : Nat → Int32} {P : Nat} {l l' : List Int32} (h : AT text P (l ++ l')) : AT text (P + l.length) l' := fun i hi => by
  have := h (l.length + i) (by rw [List.length_append]; omega)
  rw [List.getElem?_append_right (by omega), show l.length + i - l.length = i by omega] at this
  rw [this]
  congr 2
  omega
theorem isD_n {k : Nat} (h : k ≤ 9) : isD (nI (48 + k)) = true := decide_eq_true (by rw [z_tI (by omega)]; omega)
theorem isD_no {k : Nat} (h : k < 48 ∨ 57 < k) (hk : k < 1000) : ¬ isD (nI k) = true := fun e => by
  have := of_decide_eq_true e
  rw [z_tI (by omega)] at this
  omega
theorem isV_n {k : Nat} (h : k < 6) : isV (nI (97 + k)) = true := decide_eq_true (by rw [z_tI (by omega)]; omega)
theorem isV_no {k : Nat} (h : k < 97 ∨ 102 < k) (hk : k < 1000) : ¬ isV (nI k) = true := fun e => by
  have := of_decide_eq_true e
  rw [z_tI (by omega)] at this
  omega
theorem dg97 (k : Nat) : nI (97 + k) - 97 = nI k := by
  rw [show (97 : Int32) = nI 97 from rfl, pk_sub (by omega)]
  congr 1
  omega
theorem ml_bothS {o : Int32} (h : isBin o) (x y : Int32) : g_M_both (sgO o) x y = some (both o x y) := by
  rcases h with rfl | rfl | rfl | rfl
  · rfl
  · rfl
  · rfl
  · show (if y ≤ x then some (0 : Int32) else some 1) = some (if y ≤ x then 0 else 1)
    exact z_ai _
section
variable {text var : Nat → Int32}
theorem mk_stop {rc : (Nat → Int32) → (Nat → Int32) → Int32 → Int32 → Int32 → Int32 → Int32 → Option (Int32 × (Nat → Int32) × (Nat → Int32) × Int32 × Int32 × Int32)} {M sh : Nat} {st sg : Nat → Int32} {hh val P : Int32} (hs : sh < 60) (h : ¬ sg sh = 33) : b_M_work_233 text var rc (M + 1) st sg hh (nI (sh + 1)) val P 1 = rc st sg hh (nI (sh + 1)) val P 0 := by
  rw [b_M_work_233, if_neg (show ¬ (1 : Int32) = 0 by decide), if_neg (nI_nle (by omega) (by omega)), z_s1 (by omega), Nat.add_sub_cancel, if_pos (z_ck (by omega) (by omega)), z_cl (by omega), if_neg h]
  unfold b_M_work_304
  rw [if_neg (show ¬ (1 : Int32) = 0 by decide), if_neg (nI_ne0 (by omega) (by omega))]
theorem mk_pop {rc : (Nat → Int32) → (Nat → Int32) → Int32 → Int32 → Int32 → Int32 → Int32 → Option (Int32 × (Nat → Int32) × (Nat → Int32) × Int32 × Int32 × Int32)} {M sh h : Nat} {st sg : Nat → Int32} {val P : Int32} (hs : sh < 60) (hh : h < 60) (e : sg sh = 33) : b_M_work_233 text var rc (M + 1) st sg (nI (h + 1)) (nI (sh + 1)) val P 1 = b_M_work_233 text var rc M (upd st h (if st h = 0 then 1 else 0)) sg (nI (h + 1)) (nI sh) val P 1 := by
  rw [b_M_work_233, if_neg (show ¬ (1 : Int32) = 0 by decide), if_neg (nI_nle (by omega) (by omega)), z_s1 (by omega), Nat.add_sub_cancel, if_pos (z_ck (by omega) (by omega)), z_cl (by omega), if_pos e, z_s1 (by omega), Nat.add_sub_cancel, if_pos (z_ck (by omega) (by omega)), z_cl (by omega)]
  by_cases h9 : st h = 0
  · rw [if_pos h9, if_pos (z_ck (by omega) (by omega)), if_pos h9]
  · rw [if_neg h9, if_pos (z_ck (by omega) (by omega)), if_neg h9]
theorem mk_sign {F h sh P : Nat} {st sg : Nat → Int32} {val c : Int32} (hs : sh < 60) (hP : P < 600) (e : text P = c) (h1 : ¬ isD c = true) (h2 : ¬ isV c = true) (h3 : ¬ c = 41) : b_M_work_14 text var (F + 1) st sg (nI h) (nI sh) val (nI P) 0 = b_M_work_14 text var F st (upd sg sh c) (nI h) (nI (sh + 1)) val (nI (P + 1)) 0 := by
  rw [b_M_work_14, if_pos (show (0 : Int32) = 0 from rfl), if_pos (z_ck hP (by omega)), z_cl (by omega), e, z_bind (ml_isDigit c), if_neg h1, if_pos (show (0 : Int32) = 0 from rfl), z_bind (ml_isLetter c), if_neg h2, if_pos (show (0 : Int32) = 0 from rfl), if_neg h3, if_pos (z_ck (by omega) (by omega)), z_cl (by omega), z_a1, z_a1, b_M_work_233, if_pos (show (0 : Int32) = 0 from rfl)]
  unfold b_M_work_304
  rw [if_pos (show (0 : Int32) = 0 from rfl)]
theorem mk_close {F h sh P : Nat} {st sg : Nat → Int32} {val o : Int32} (hs : sh < 60) (hh : h < 60) (hP : P < 600) (e : text P = 41) (ho : isBin o) (es : sg (sh + 1) = sgO o) : b_M_work_14 text var (F + 1) st sg (nI (h + 2)) (nI (sh + 2)) val (nI P) 0 = b_M_work_233 text var (b_M_work_14 text var F) 500 (upd st h (both o (st h) (st (h + 1)))) sg (nI (h + 1)) (nI sh) val (nI (P + 1)) 1 := by
  have e1 : nI (h + 2) - 1 = nI (h + 1) := by rw [z_s1 (by omega)]; rfl
  have e2 : nI (h + 1) - 1 = nI h := by rw [z_s1 (by omega)]; rfl
  have e3 : nI (sh + 2) - 1 = nI (sh + 1) := by rw [z_s1 (by omega)]; rfl
  have e4 : nI (sh + 2) - 2 = nI sh := pk_sub (a := sh + 2) (b := 2) (by omega)
  rw [b_M_work_14, if_pos (show (0 : Int32) = 0 from rfl), if_pos (z_ck hP (by omega)), z_cl (by omega), e, z_bind (ml_isDigit _), if_neg (show ¬ isD 41 = true from isD_no (k := 41) (by omega) (by omega)), if_pos (show (0 : Int32) = 0 from rfl), z_bind (ml_isLetter _), if_neg (show ¬ isV 41 = true from isV_no (k := 41) (by omega) (by omega)), if_pos (show (0 : Int32) = 0 from rfl), if_pos (show (41 : Int32) = 41 from rfl), e1, e2, e3, e4, if_pos (z_ck (by omega) (by omega)), if_pos (z_ck (by omega) (by omega)), if_pos (z_ck (by omega) (by omega)), z_cl (by omega), z_cl (by omega), z_cl (by omega), es, z_bind (ml_bothS ho _ _), if_pos (z_ck (by omega) (by omega)), z_a1]
theorem mk_val {F h sh P Q : Nat} {st sg : Nat → Int32} {val x : Int32} (e : b_M_work_14 text var (F + 1) st sg (nI h) (nI sh) val (nI P) 0 = b_M_work_233 text var (b_M_work_14 text var F) 500 (upd st h x) sg (nI h + 1) (nI sh) val (nI Q) 1) : b_M_work_14 text var (F + 1) st sg (nI h) (nI sh) val (nI P) 0 = b_M_work_233 text var (b_M_work_14 text var F) 500 (upd st h x) sg (nI (h + 1)) (nI sh) val (nI Q) 1 := by rw [e, z_a1]
theorem mk_num {F h sh P k : Nat} {st sg : Nat → Int32} {val : Int32} (hh : h < 60) (hP : P + (dgt (nI k)).length < 600) (hk : k ≤ 99) (hA : AT text P (dgt (nI k))) (hx : ¬ isD (text (P + (dgt (nI k)).length)) = true) : b_M_work_14 text var (F + 1) st sg (nI h) (nI sh) val (nI P) 0 = b_M_work_233 text var (b_M_work_14 text var F) 500 (upd st h (nI k)) sg (nI (h + 1)) (nI sh) val (nI (P + (dgt (nI k)).length)) 1 := by
  have e := dgt_n hk
  by_cases h1 : k < 10
  · rw [if_pos h1] at e
    rw [e] at hA hx hP ⊢
    simp only [List.length_singleton] at hx hP ⊢
    have c1 := hA.head
    rw [b_M_work_14, if_pos (show (0 : Int32) = 0 from rfl), if_pos (z_ck (by omega) (by omega)), z_cl (by omega), c1, z_bind (ml_isDigit _), if_pos (isD_n (by omega)), if_neg (show ¬ (1 : Int32) = 0 by decide), z_a1, if_pos (z_ck hP (by omega)), z_cl (by omega), z_bind (ml_isDigit _), if_neg hx, if_pos (show (0 : Int32) = 0 from rfl), if_pos (z_ck (by omega) (by omega)), z_cl (by omega), dg48, z_a1]
  · rw [if_neg h1] at e
    rw [e] at hA hx hP ⊢
    simp only [List.length_cons, List.length_nil] at hx hP ⊢
    have c1 := hA.head
    have c2 := hA.tail.head
    have ev : 10 * nI (k / 10) + nI (48 + k % 10) - 48 = nI k := by
      rw [show (10 : Int32) = nI 10 from rfl, show (48 : Int32) = nI 48 from rfl, pk_mul, nI_add, pk_sub (by omega)]
      congr 1
      omega
    rw [b_M_work_14, if_pos (show (0 : Int32) = 0 from rfl), if_pos (z_ck (by omega) (by omega)), z_cl (by omega), c1, z_bind (ml_isDigit _), if_pos (isD_n (by omega)), if_neg (show ¬ (1 : Int32) = 0 by decide), z_a1, if_pos (z_ck (by omega) (by omega)), z_cl (by omega), c2, z_bind (ml_isDigit _), if_pos (isD_n (by omega)), if_neg (show ¬ (1 : Int32) = 0 by decide), if_pos (z_ck (by omega) (by omega)), if_pos (z_ck (by omega) (by omega)), z_cl (by omega), dg48, ev, z_a1, z_a1]
theorem mk_var {F h sh P k : Nat} {st sg : Nat → Int32} {val : Int32} (hh : h < 60) (hP : P < 600) (hk : k < 6) (e : text P = nI (97 + k)) : b_M_work_14 text var (F + 1) st sg (nI h) (nI sh) val (nI P) 0 = b_M_work_233 text var (b_M_work_14 text var F) 500 (upd st h (var k)) sg (nI (h + 1)) (nI sh) val (nI (P + 1)) 1 := by
  rw [b_M_work_14, if_pos (show (0 : Int32) = 0 from rfl), if_pos (z_ck (by omega) (by omega)), z_cl (by omega), e, z_bind (ml_isDigit _), if_neg (isD_no (by omega) (by omega)), if_pos (show (0 : Int32) = 0 from rfl), z_bind (ml_isLetter _), if_pos (isV_n hk), if_neg (show ¬ (1 : Int32) = 0 by decide), dg97, if_pos (z_ck hk (by omega)), if_pos (z_ck (by omega) (by omega)), z_cl (by omega), z_cl (by omega), z_a1, z_a1]
theorem mk_E {op to : Nat → Int32} {n : Nat} {val : Int32} (hI : ∀ i, i < n → okI (op i) (to i)) : ∀ u, vd op u → u < n → ∀ (P h sh : Nat) (st sg : Nat → Int32), AT text P (ext op to u) → P + (ext op to u).length < 600 → ¬ isD (text (P + (ext op to u).length)) = true → h + (u + 1 - B op u) ≤ 40 → sh + 2 * (u + 1 - B op u) ≤ 60 → ∃ (K M : Nat) (st' sg' : Nat → Int32), K ≤ 3 * (u + 1 - B op u) ∧ 500 ≤ M + (u + 1 - B op u) ∧ (∀ i, i < h → st' i = st i) ∧ st' h = ev op to var u ∧ (∀ i, i < sh → sg' i = sg i) ∧ ∀ F : Nat, b_M_work_14 text var (F + K) st sg (nI h) (nI sh) val (nI P) 0 = b_M_work_233 text var (b_M_work_14 text var F) M st' sg' (nI (h + 1)) (nI sh) val (nI (P + (ext op to u).length)) 1 := by
  refine vd_ind (fun u h0 hun P h sh st sg hA hP hx hh hs => ?_) (fun u h0 hu hv hB ih hun P h sh st sg hA hP hx hh hs => ?_) (fun u h0 hu hp hv1 hv2 hB ih1 ih2 hun P h sh st sg hA hP hx hh hs => ?_)
  · rw [B_push h0] at hh hs ⊢
    rcases h0 with e | e
    · obtain ⟨k, hk, ek⟩ := w_num hI hun
      rw [ext_0 e, ek] at hA hP hx ⊢
      exact ⟨1, 500, upd st h (nI k), sg, by omega, by omega, fun i hi => pk_un (by omega), by rw [pk_us, ev_0 e, ek], fun i hi => rfl, fun F => mk_num (by omega) hP hk hA hx⟩
    · obtain ⟨k, hk, ek⟩ := w_var hI hun (Or.inl e)
      rw [ext_1 e, ek] at hA hP hx ⊢
      simp only [List.length_singleton] at hP ⊢
      have c1 := hA.head
      rw [show (97 : Int32) = nI 97 from rfl, nI_add] at c1
      exact ⟨1, 500, upd st h (var k), sg, by omega, by omega, fun i hi => pk_un (by omega), by rw [pk_us, ev_1 e, ek, z_cl (by omega)], fun i hi => rfl, fun F => mk_var (by omega) (by omega) hk c1⟩
  · have hl := B_le op (u - 1)
    rw [hB] at hh hs ⊢
    rw [ext_7 h0 hu] at hA hP hx ⊢
    rw [List.length_cons, ← Nat.add_assoc, Nat.add_right_comm] at hP hx ⊢
    obtain ⟨K, M, st1, sg1, a1, a2, a3, a4, a5, a6⟩ := ih (by omega) (P + 1) h (sh + 1) st (upd sg sh 33) hA.tail hP hx (by omega) (by omega)
    obtain ⟨M, rfl⟩ : ∃ M', M = M' + 1 := ⟨M - 1, by omega⟩
    refine ⟨K + 1, M, upd st1 h (if st1 h = 0 then 1 else 0), sg1, by omega, by omega, fun i hi => by rw [pk_un (by omega)]; exact a3 i hi, by rw [pk_us, ev_7 h0 hu, a4], fun i hi => by rw [a5 i (by omega), pk_un (by omega)], fun F => ?_⟩
    rw [← Nat.add_assoc, mk_sign (by omega) (by omega) hA.head (isD_no (k := 33) (by omega) (by omega)) (isV_no (k := 33) (by omega) (by omega)) (by decide), a6 F]
    exact mk_pop (by omega) (by omega) (by rw [a5 sh (by omega), pk_us])
  · have hl := B_le op (u - 1)
    have hl2 := B_le op (B op (u - 1) - 1)
    rw [hB] at hh hs ⊢
    rw [ext_b h0 hu] at hA hP hx ⊢
    generalize eL : (ext op to (B op (u - 1) - 1)).length = L1 at *
    generalize eR : (ext op to (u - 1)).length = L2 at *
    have hlen : (40 :: (ext op to (B op (u - 1) - 1) ++ sgO (op u) :: (ext op to (u - 1) ++ [41]))).length = L1 + L2 + 3 := by
      simp only [List.length_cons, List.length_append, List.length_nil, eL, eR]; omega
    rw [hlen] at hP hx ⊢
    have A1 := hA.tail.left
    have A2 := hA.tail.right
    rw [eL] at A2
    have A3 := A2.tail.left
    have A4 := A2.tail.right
    rw [eR] at A4
    have cs := A2.head
    have c4 := A4.head
    obtain ⟨ks, hks1, hks2⟩ : ∃ k : Nat, (k = 43 ∨ k = 45 ∨ k = 42 ∨ k = 60) ∧ sgO (op u) = nI k := by
      rcases sgO_n (op u) with h | h | h | h
      · exact ⟨43, by omega, h⟩
      · exact ⟨45, by omega, h⟩
      · exact ⟨42, by omega, h⟩
      · exact ⟨60, by omega, h⟩
    have nd1 : ¬ isD (sgO (op u)) = true := by rw [hks2]; exact isD_no (by omega) (by omega)
    have nv1 : ¬ isV (sgO (op u)) = true := by rw [hks2]; exact isV_no (by omega) (by omega)
    have n41 : ¬ sgO (op u) = 41 := by
      rw [hks2, show (41 : Int32) = nI 41 from rfl, nI_eq (by omega) (by omega)]; omega
    have n33 : ¬ sgO (op u) = 33 := by
      rw [hks2, show (33 : Int32) = nI 33 from rfl, nI_eq (by omega) (by omega)]; omega
    obtain ⟨K1, M1, st1, sg1, a1, a2, a3, a4, a5, a6⟩ := ih2 (by omega) (P + 1) h (sh + 1) st (upd sg sh 40) A1 (by omega) (by rw [cs]; exact nd1) (by omega) (by omega)
    obtain ⟨K2, M2, st2, sg2, b1, b2, b3, b4, b5, b6⟩ := ih1 (by omega) (P + 1 + L1 + 1) (h + 1) (sh + 2) st1 (upd sg1 (sh + 1) (sgO (op u))) A3 (by omega) (by rw [c4]; exact isD_no (k := 41) (by omega) (by omega)) (by omega) (by omega)
    obtain ⟨M1, rfl⟩ : ∃ M', M1 = M' + 1 := ⟨M1 - 1, by omega⟩
    obtain ⟨M2, rfl⟩ : ∃ M', M2 = M' + 1 := ⟨M2 - 1, by omega⟩
    refine ⟨1 + K2 + 1 + K1 + 1, 500, upd st2 h (both (op u) (st2 h) (st2 (h + 1))), sg2, by omega, by omega, fun i hi => by rw [pk_un (by omega), b3 i (by omega)]; exact a3 i hi, by rw [pk_us, ev_b h0 hu, b4, b3 h (by omega), a4], fun i hi => by rw [b5 i (by omega), pk_un (by omega), a5 i (by omega), pk_un (by omega)], fun F => ?_⟩
    rw [show F + (1 + K2 + 1 + K1 + 1) = F + 1 + K2 + 1 + K1 + 1 by omega, mk_sign (by omega) (by omega) hA.head (isD_no (k := 40) (by omega) (by omega)) (isV_no (k := 40) (by omega) (by omega)) (by decide), a6, mk_stop (by omega) (by rw [a5 sh (by omega), pk_us]; decide), mk_sign (by omega) (by omega) cs nd1 nv1 n41, b6, mk_stop (sh := sh + 1) (by omega) (by rw [b5 (sh + 1) (by omega), pk_us]; exact n33), mk_close (by omega) (by omega) (by omega) c4 h0 (by rw [b5 (sh + 1) (by omega), pk_us])]
    rw [show P + 1 + L1 + 1 + L2 + 1 = P + (L1 + L2 + 3) by omega]
theorem ml_work {op to : Nat → Int32} {n u P : Nat} {val hi shi : Int32} {st sg : Nat → Int32} (hI : ∀ i, i < n → okI (op i) (to i)) (hn : n ≤ 30) (hv : vd op u) (hu : u < n) (hA : AT text P (ext op to u)) (hP : P + (ext op to u).length < 600) (hx : ¬ isD (text (P + (ext op to u).length)) = true) : ∃ st' sg' : Nat → Int32, g_M_work text var st sg hi shi val (nI P) = some (nI (P + (ext op to u).length), st', sg', nI 1, nI 0, ev op to var u) := by
  have hl := B_le op u
  obtain ⟨K, M, st', sg', a1, a2, a3, a4, a5, a6⟩ := mk_E (var := var) (val := val) hI u hv hu P 0 0 st sg hA hP hx (by omega) (by omega)
  unfold g_M_work
  have e := a6 (500 - K)
  rw [show 500 - K + K = 500 by omega] at e
  have e : b_M_work_14 text var 500 st sg 0 0 val (nI P) 0 = _ := e
  obtain ⟨M, rfl⟩ : ∃ M', M = M' + 1 := ⟨M - 1, by omega⟩
  rw [e, b_M_work_233, if_neg (show ¬ (1 : Int32) = 0 by decide), if_pos (show nI 0 ≤ 0 by decide)]
  unfold b_M_work_304
  rw [if_neg (show ¬ (1 : Int32) = 0 by decide), if_pos (show nI 0 = 0 from rfl), show 500 - K = (500 - K - 1) + 1 by omega, b_M_work_14, if_neg (show ¬ (1 : Int32) = 0 by decide), if_pos (show ck 0 64 = true by decide), z_cl0, a4]
  exact ⟨st', sg', rfl⟩
end
