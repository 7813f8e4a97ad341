/-! the reference walks its text: behind, one turn of the loop -/
def skp (l : List Int32) : Prop := ∀ (text : Nat → Int32) (P d F : Nat), AT text P l → P + l.length ≤ 590 → 1 ≤ d → d + l.length < 1000 → b_M_behind_4 text (F + l.length) (nI d) (nI P) = b_M_behind_4 text F (nI d) (nI (P + l.length))
theorem skp_nil : skp [] := fun text P d F _ _ _ _ => rfl
theorem bh_other {text : Nat → Int32} {P d F : Nat} (hP : P < 600) (hd : 1 ≤ d) (hd9 : d < 1000) (h1 : ¬ text P = 123) (h2 : ¬ text P = 125) : b_M_behind_4 text (F + 1) (nI d) (nI P) = b_M_behind_4 text F (nI d) (nI (P + 1)) := by
  rw [b_M_behind_4, if_pos (z_ck hP (by omega)), z_cl (by omega), if_neg h1]
  unfold b_M_behind_18
  rw [if_pos (z_ck hP (by omega)), z_cl (by omega), if_neg h2, if_pos (show (0 : Int32) < nI d from nI_lt (a := 0) (by omega) (by omega)), z_a1]
theorem bh_open {text : Nat → Int32} {P d F : Nat} (hP : P < 600) (hd9 : d < 1000) (h1 : text P = 123) : b_M_behind_4 text (F + 1) (nI d) (nI P) = b_M_behind_4 text F (nI (d + 1)) (nI (P + 1)) := by
  rw [b_M_behind_4, if_pos (z_ck hP (by omega)), z_cl (by omega), if_pos h1]
  unfold b_M_behind_18
  rw [if_pos (z_ck hP (by omega)), z_cl (by omega), h1, if_neg (show ¬ (123 : Int32) = 125 by decide), z_a1, if_pos (show (0 : Int32) < nI (d + 1) from nI_lt (a := 0) (by omega) (by omega)), z_a1]
theorem bh_close {text : Nat → Int32} {P d F : Nat} (hP : P < 600) (hd : 1 ≤ d) (hd9 : d < 1000) (h1 : text P = 125) : b_M_behind_4 text (F + 1) (nI (d + 1)) (nI P) = b_M_behind_4 text F (nI d) (nI (P + 1)) := by
  rw [b_M_behind_4, if_pos (z_ck hP (by omega)), z_cl (by omega), h1, if_neg (show ¬ (125 : Int32) = 123 by decide)]
  unfold b_M_behind_18
  rw [if_pos (z_ck hP (by omega)), z_cl (by omega), h1, if_pos (show (125 : Int32) = 125 from rfl), z_m1 (by omega), Nat.add_sub_cancel, if_pos (show (0 : Int32) < nI d from nI_lt (a := 0) (by omega) (by omega)), z_a1]
theorem bh_end {text : Nat → Int32} {P F : Nat} (hP : P < 600) (h1 : text P = 125) : b_M_behind_4 text (F + 1) (nI 1) (nI P) = some (nI (P + 1)) := by
  rw [b_M_behind_4, if_pos (z_ck hP (by omega)), z_cl (by omega), h1, if_neg (show ¬ (125 : Int32) = 123 by decide)]
  unfold b_M_behind_18
  rw [if_pos (z_ck hP (by omega)), z_cl (by omega), h1, if_pos (show (125 : Int32) = 125 from rfl), if_neg (show ¬ (0 : Int32) < nI 1 + (-1) by decide), z_a1]
theorem skp_one {c : Int32} (h1 : ¬ c = 123) (h2 : ¬ c = 125) : skp [c] := by
  intro text P d F hA hP hd hd9
  have e := hA.head
  simp only [List.length_singleton] at hP hd9 ⊢
  exact bh_other (by omega) hd (by omega) (by rw [e]; exact h1) (by rw [e]; exact h2)
theorem skp_app {l l' : List Int32} (h : skp l) (h' : skp l') : skp (l ++ l') := by
  intro text P d F hA hP hd hd9
  rw [List.length_append] at hP hd9 ⊢
  rw [show F + (l.length + l'.length) = F + l'.length + l.length by omega, h text P d _ hA.left (by omega) hd (by omega), h' text (P + l.length) d F hA.right (by omega) hd (by omega), Nat.add_assoc]
theorem skp_cons {c : Int32} {l : List Int32} (h1 : ¬ c = 123) (h2 : ¬ c = 125) (h : skp l) : skp (c :: l) := skp_app (l := [c]) (skp_one h1 h2) h
theorem skp_blk {l : List Int32} (h : skp l) : skp (123 :: (l ++ [125])) := by
  intro text P d F hA hP hd hd9
  simp only [List.length_cons, List.length_append, List.length_nil] at hP hd9 ⊢
  rw [show F + (l.length + (0 + 1) + 1) = F + 1 + l.length + 1 by omega, bh_open (by omega) (by omega) hA.head, h text (P + 1) (d + 1) _ hA.tail.left (by omega) (by omega) (by omega), bh_close (by omega) hd (by omega) hA.tail.right.head]
  congr 2
  omega
theorem skp_all : ∀ l : List Int32, (∀ x ∈ l, ¬ x = 123 ∧ ¬ x = 125) → skp l
  | [], _ => skp_nil
  | c :: l, h => skp_cons (h c (List.mem_cons_self)).1 (h c (List.mem_cons_self)).2 (skp_all l (fun x hx => h x (List.mem_cons_of_mem _ hx)))
/-- no sign of STATEMENTS -/
def pln (x : Int32) : Prop := ¬ x = 64 ∧ ¬ x = 63 ∧ ¬ x = 59 ∧ ¬ x = 58 ∧ ¬ x = 123 ∧ ¬ x = 125
theorem pln_n {k : Nat} (h : k < 1000) (h1 : k ≠ 64) (h2 : k ≠ 63) (h3 : k ≠ 59) (h4 : k ≠ 58) (h5 : k ≠ 123) (h6 : k ≠ 125) : pln (nI k) := by
  refine ⟨?_, ?_, ?_, ?_, ?_, ?_⟩
  · rw [show (64 : Int32) = nI 64 from rfl, nI_eq (by omega) (by omega)]; exact h1
  · rw [show (63 : Int32) = nI 63 from rfl, nI_eq (by omega) (by omega)]; exact h2
  · rw [show (59 : Int32) = nI 59 from rfl, nI_eq (by omega) (by omega)]; exact h3
  · rw [show (58 : Int32) = nI 58 from rfl, nI_eq (by omega) (by omega)]; exact h4
  · rw [show (123 : Int32) = nI 123 from rfl, nI_eq (by omega) (by omega)]; exact h5
  · rw [show (125 : Int32) = nI 125 from rfl, nI_eq (by omega) (by omega)]; exact h6
theorem pl_app {l l' : List Int32} (h : ∀ x ∈ l, pln x) (h' : ∀ x ∈ l', pln x) : ∀ x ∈ l ++ l', pln x := fun x hx => (List.mem_append.mp hx).elim (h x) (h' x)
theorem pl_cons {c : Int32} {l : List Int32} (h : pln c) (h' : ∀ x ∈ l, pln x) : ∀ x ∈ c :: l, pln x := fun x hx => (List.mem_cons.mp hx).elim (fun e => by rw [e]; exact h) (h' x)
theorem pl_nil : ∀ x ∈ ([] : List Int32), pln x := fun x hx => absurd hx List.not_mem_nil
theorem ext_pl {o w : Nat → Int32} {n : Nat} (hI : ∀ i, i < n → okI (o i) (w i)) : ∀ u, vd o u → u < n → ∀ x ∈ ext o w u, pln x := by
  refine vd_ind (fun u h hn => ?_) (fun u h hu hv hB ih hn => ?_) (fun u h hu hb hv1 hv2 hB ih1 ih2 hn => ?_)
  · rcases h with h | h
    · obtain ⟨k, hk, e⟩ := w_num hI hn
      rw [ext_0 h, e, dgt_n hk]
      split
      · exact pl_cons (pln_n (by omega) (by omega) (by omega) (by omega) (by omega) (by omega) (by omega)) pl_nil
      · exact pl_cons (pln_n (by omega) (by omega) (by omega) (by omega) (by omega) (by omega) (by omega)) (pl_cons (pln_n (by omega) (by omega) (by omega) (by omega) (by omega) (by omega) (by omega)) pl_nil)
    · obtain ⟨k, hk, e⟩ := w_var hI hn (Or.inl h)
      rw [ext_1 h, e, show (97 : Int32) = nI 97 from rfl, nI_add]
      exact pl_cons (pln_n (by omega) (by omega) (by omega) (by omega) (by omega) (by omega) (by omega)) pl_nil
  · rw [ext_7 h hu]
    exact pl_cons (pln_n (k := 33) (by omega) (by omega) (by omega) (by omega) (by omega) (by omega) (by omega)) (ih (by omega))
  · have := B_le o (u - 1)
    rw [ext_b h hu]
    refine pl_cons (pln_n (k := 40) (by omega) (by omega) (by omega) (by omega) (by omega) (by omega) (by omega)) (pl_app (ih2 (by omega)) (pl_cons ?_ (pl_app (ih1 (by omega)) (pl_cons (pln_n (k := 41) (by omega) (by omega) (by omega) (by omega) (by omega) (by omega) (by omega)) pl_nil))))
    rcases sgO_n (o u) with h | h | h | h <;> (rw [h]; exact pln_n (by omega) (by omega) (by omega) (by omega) (by omega) (by omega) (by omega))
theorem skp_ext {o w : Nat → Int32} {n u : Nat} (hI : ∀ i, i < n → okI (o i) (w i)) (hv : vd o u) (hu : u < n) : skp (ext o w u) := skp_all _ (fun x hx => ⟨(ext_pl hI u hv hu x hx).2.2.2.2.1, (ext_pl hI u hv hu x hx).2.2.2.2.2⟩)
theorem skp_tx {o w : Nat → Int32} {n : Nat} (hC : okC o w n) : ∀ f p q, VA o n p q → q - p < f → kn o w f p q = none → skp (tx o w f p q) := by
  refine tr_ind hC (fun f p => ?_) (fun f p q hpq hV hR ib ic ik => ?_)
  · rw [tx, if_neg (by omega)]
    exact skp_nil
  · rw [tx, if_pos hpq]
    obtain ⟨h1, h2, h3, h4, -, vb, vc, vk, hbk, hK⟩ := hR
    have hqn := hV.2.1
    refine skp_app ?_ (skp_app (skp_ext hC.2.1 h3 (by omega)) (skp_app ?_ ik))
    · unfold hdS
      split
      · next h =>
        obtain ⟨k, hk, e⟩ := w_var hC.2.1 (show U o p < n by omega) (Or.inr (hK.o2 h))
        rw [e, show (97 : Int32) = nI 97 from rfl, nI_add]
        have := pln_n (k := 97 + k) (by omega) (by omega) (by omega) (by omega) (by omega) (by omega) (by omega)
        exact skp_cons this.2.2.2.2.1 this.2.2.2.2.2 (skp_one (by decide) (by decide))
      · unfold sgS
        split
        · exact skp_one (by decide) (by decide)
        · split
          · exact skp_one (by decide) (by decide)
          · split
            · exact skp_one (by decide) (by decide)
            · exact skp_one (by decide) (by decide)
    · unfold bdS
      split
      · exact skp_one (by decide) (by decide)
      · have e1 : ∀ (b c : List Int32), 123 :: (b ++ 125 :: c) = 123 :: (b ++ [125]) ++ c := fun b c => by simp only [List.append_assoc, List.cons_append, List.nil_append]
        rw [e1]
        refine skp_app (skp_blk ib) ?_
        split
        · exact skp_cons (by decide) (by decide) (skp_blk ic)
        · exact skp_nil
theorem bh_blk {text : Nat → Int32} {P : Nat} {l : List Int32} (h : skp l) (hA : AT text P (123 :: (l ++ [125]))) (hP : P + l.length ≤ 400) : g_M_behind text (nI P) = some (nI (P + l.length + 2)) := by
  unfold g_M_behind
  have e : b_M_behind_4 text 500 0 (nI P) = b_M_behind_4 text ((500 - l.length - 2) + 1 + l.length + 1) (nI 0) (nI P) := by
    rw [show (500 - l.length - 2) + 1 + l.length + 1 = 500 by omega]
    rfl
  rw [e, bh_open (by omega) (by omega) hA.head, h text (P + 1) (0 + 1) _ hA.tail.left (by omega) (by omega) (by omega), bh_end (by omega) hA.tail.right.head]
  congr 2
  omega
def BS : List Int32 → (Nat → Int32) → Prop
  | [], _ => True
  | x :: r, b => b r.length = x ∧ BS r b
theorem BS_upd {b : Nat → Int32} {k : Nat} {v : Int32} : ∀ (r : List Int32), r.length ≤ k → BS r b → BS r (upd b k v)
  | [], _, _ => trivial
  | x :: r, hk, h => by
    have hl : r.length + 1 ≤ k := hk
    exact ⟨by rw [pk_un (by omega)]; exact h.1, BS_upd r (by omega) h.2⟩
def EN (s : ST) (var out : Nat → Int32) : Prop := VR s.1 var ∧ OR s.2.2.1 s.2.1 out
def WG (text : Nat → Int32) (T lim K P : Nat) (bs : List Int32) (s : ST) (P' : Nat) (bs' : List Int32) (s' : ST) : Prop := ∀ (var st sg out bl : Nat → Int32) (hi shi val : Int32), EN s var out → BS bs bl → ∃ (var' st' sg' out' bl' : Nat → Int32) (hi' shi' val' : Int32), EN s' var' out' ∧ BS bs' bl' ∧ ∀ F : Nat, b_M_walk_33 text (nI T) 1 (F + K) var st sg out bl hi shi (nI s.2.2.1) (nI s.2.2.2) val (nI lim) (nI P) (nI bs.length) = b_M_walk_33 text (nI T) 1 F var' st' sg' out' bl' hi' shi' (nI s'.2.2.1) (nI s'.2.2.2) val' (nI lim) (nI P') (nI bs'.length)
def WFl (text : Nat → Int32) (T lim K P : Nat) (bs : List Int32) (s s' : ST) : Prop := ∀ (var st sg out bl : Nat → Int32) (hi shi val : Int32), EN s var out → BS bs bl → ∃ (var' st' sg' out' bl' : Nat → Int32) (hi' shi' val' : Int32), EN s' var' out' ∧ ∀ F : Nat, b_M_walk_33 text (nI T) 1 (F + K) var st sg out bl hi shi (nI s.2.2.1) (nI s.2.2.2) val (nI lim) (nI P) (nI bs.length) = some (-7, var', st', sg', out', bl', hi', shi', nI s'.2.2.1, nI s'.2.2.2, val')
section
variable {text : Nat → Int32} {T lim : Nat}
theorem WG.then {K1 K2 P P1 P2 : Nat} {bs bs1 bs2 : List Int32} {s s1 s2 : ST} (h1 : WG text T lim K1 P bs s P1 bs1 s1) (h2 : WG text T lim K2 P1 bs1 s1 P2 bs2 s2) : WG text T lim (K2 + K1) P bs s P2 bs2 s2 := by
  intro var st sg out bl hi shi val a b
  obtain ⟨var1, st1, sg1, out1, bl1, hi1, shi1, val1, a1, b1, e1⟩ := h1 var st sg out bl hi shi val a b
  obtain ⟨var2, st2, sg2, out2, bl2, hi2, shi2, val2, a2, b2, e2⟩ := h2 var1 st1 sg1 out1 bl1 hi1 shi1 val1 a1 b1
  exact ⟨var2, st2, sg2, out2, bl2, hi2, shi2, val2, a2, b2, fun F => by rw [← Nat.add_assoc, e1 (F + K2), e2 F]⟩
theorem WG.fl {K1 K2 P P1 : Nat} {bs bs1 : List Int32} {s s1 s2 : ST} (h1 : WG text T lim K1 P bs s P1 bs1 s1) (h2 : WFl text T lim K2 P1 bs1 s1 s2) : WFl text T lim (K2 + K1) P bs s s2 := by
  intro var st sg out bl hi shi val a b
  obtain ⟨var1, st1, sg1, out1, bl1, hi1, shi1, val1, a1, b1, e1⟩ := h1 var st sg out bl hi shi val a b
  obtain ⟨var2, st2, sg2, out2, bl2, hi2, shi2, val2, a2, e2⟩ := h2 var1 st1 sg1 out1 bl1 hi1 shi1 val1 a1 b1
  exact ⟨var2, st2, sg2, out2, bl2, hi2, shi2, val2, a2, fun F => by rw [← Nat.add_assoc, e1 (F + K2), e2 F]⟩
theorem WG.zero {P : Nat} {bs : List Int32} {s : ST} : WG text T lim 0 P bs s P bs s := fun var st sg out bl hi shi val a b => ⟨var, st, sg, out, bl, hi, shi, val, a, b, fun F => rfl⟩
/-- a block's end -/
theorem wg_close {P Q : Nat} {x : Int32} {bs : List Int32} {s : ST} (hP : P < T) (hT : T ≤ 90) (hb : bs.length < 40) (h : text P = 125) (hx : (x = nI Q ∧ Q < 1000) ∨ (x = -2 ∧ Q = P + 1) ∨ (x = -1 ∧ Q = P + 1 ∧ (T ≤ Q ∨ ¬ text Q = 58)) ∨ (x = -1 ∧ P + 1 < T ∧ text (P + 1) = 58 ∧ g_M_behind text (nI (P + 2)) = some (nI Q))) : WG text T lim 1 P (x :: bs) s Q bs s := by
  intro var st sg out bl hi shi val hE hB
  refine ⟨var, st, sg, out, bl, hi, shi, val, hE, hB.2, fun F => ?_⟩
  have e1 : nI (x :: bs).length + (-1) = nI bs.length := by rw [List.length_cons, z_m1 (by omega), Nat.add_sub_cancel]
  have q4 := z_ck (k := bs.length) (n := 40) hb (by omega)
  rw [b_M_walk_33, if_neg (nI_ge hP (by omega)), if_pos (z_ck (by omega) (by omega)), z_cl (by omega), if_pos h, e1, if_pos q4, z_cl (by omega), hB.1]
  rcases hx with ⟨rfl, hQ⟩ | ⟨rfl, rfl⟩ | ⟨rfl, rfl, h9⟩ | ⟨rfl, h7, h8, h9⟩
  · rw [if_neg (nI_pos (by omega)), if_pos q4]
    unfold b_M_walk_82
    rw [if_pos q4, z_cl (by omega), hB.1, if_neg (nI_nm1 (by omega))]
  · rw [if_pos (show (-2 : Int32) < 0 by decide), z_a1]
    unfold b_M_walk_82
    rw [if_pos q4, z_cl (by omega), hB.1, if_neg (show ¬ (-2 : Int32) = -1 by decide)]
  · rw [if_pos (show (-1 : Int32) < 0 by decide), z_a1]
    unfold b_M_walk_82
    rw [if_pos q4, z_cl (by omega), hB.1, if_pos (show (-1 : Int32) = -1 from rfl)]
    by_cases h10 : T ≤ P + 1
    · rw [if_pos (nI_le h10 (by omega))]
    · rw [if_neg (nI_ge (by omega) (by omega)), if_pos (z_ck (by omega) (by omega)), z_cl (by omega), if_neg (by rcases h9 with h | h; exact absurd h h10; exact h)]
  · rw [if_pos (show (-1 : Int32) < 0 by decide), z_a1]
    unfold b_M_walk_82
    rw [if_pos q4, z_cl (by omega), hB.1, if_pos (show (-1 : Int32) = -1 from rfl), if_neg (nI_ge h7 (by omega)), if_pos (z_ck (by omega) (by omega)), z_cl (by omega), if_pos h8, z_a1, z_bind h9]
theorem wg_stop {P : Nat} {bs : List Int32} {s : ST} (hP : P < T) (hT : T ≤ 90) (h : ¬ text P = 125) (hd : s.2.2.2 = lim) : WFl text T lim 1 P bs s s := by
  intro var st sg out bl hi shi val hE hB
  refine ⟨var, st, sg, out, bl, hi, shi, val, hE, fun F => ?_⟩
  rw [b_M_walk_33, if_neg (nI_ge hP (by omega)), if_pos (z_ck (by omega) (by omega)), z_cl (by omega), if_neg h, hd, if_pos rfl]
end
