/-! the reference walks its text: STATEMENTS, then all -/
theorem ev_congr {o w v v' : Nat → Int32} {n : Nat} (hI : ∀ i, i < n → okI (o i) (w i)) (hv : VR v v') : ∀ u, vd o u → u < n → ev o w v' u = ev o w v u := by
  refine vd_ind (fun u h hn => ?_) (fun u h hu hv1 hB ih hn => ?_) (fun u h hu hb hv1 hv2 hB ih1 ih2 hn => ?_)
  · rcases h with h | h
    · rw [ev_0 h, ev_0 h]
    · obtain ⟨k, hk, e⟩ := w_var hI hn (Or.inl h)
      rw [ev_1 h, ev_1 h, e, z_cl (by omega), hv k hk]
  · rw [ev_7 h hu, ev_7 h hu, ih (by omega)]
  · have := B_le o (u - 1)
    rw [ev_b h hu, ev_b h hu, ih1 (by omega), ih2 (by omega)]
def WK9 (text : Nat → Int32) (s : ST) (P0 E : Nat) (X : Int32) : Prop := ∀ (var st sg : Nat → Int32) (hi shi val : Int32), VR s.1 var → ∃ st' sg' : Nat → Int32, g_M_work text var st sg hi shi val (nI P0) = some (nI E, st', sg', nI 1, nI 0, X)
section
variable {text : Nat → Int32} {T lim : Nat}
theorem wg_2 {P E a : Nat} {X : Int32} {bs : List Int32} {s : ST} (hP : P < T) (hT : T ≤ 90) (hl : lim ≤ 400) (ha : a < 6) (h : text P = nI (97 + a)) (hd : s.2.2.2 < lim) (hw : WK9 text s (P + 2) E X) : WG text T lim 1 P bs s (E + 1) bs (upd s.1 a X, s.2.1, s.2.2.1, s.2.2.2 + 1) := by
  intro var st sg out bl hi shi val hE hB
  obtain ⟨st', sg', e⟩ := hw var st sg hi shi val hE.1
  refine ⟨upd var a X, st', sg', out, bl, nI 1, nI 0, X, ⟨fun i hi => ?_, hE.2⟩, hB, fun F => ?_⟩
  · dsimp only
    by_cases hia : i = a
    · subst hia; rw [pk_us, pk_us]
    · rw [pk_un hia, pk_un hia]; exact hE.1 i hi
  · have n35 : ¬ nI (97 + a) = 35 := by rw [show (35 : Int32) = nI 35 from rfl, nI_eq (by omega) (by omega)]; omega
    rw [b_M_walk_33, if_neg (nI_ge hP (by omega)), if_pos (z_ck (by omega) (by omega)), z_cl (by omega), h, if_neg (show ¬ nI (97 + a) = 125 by rw [show (125 : Int32) = nI 125 from rfl, nI_eq (by omega) (by omega)]; omega), if_neg (show ¬ nI s.2.2.2 = nI lim by rw [nI_eq (by omega) (by omega)]; omega), z_bind (ml_isLetter _), if_pos (isV_n ha), if_neg (show ¬ (1 : Int32) = 0 by decide), z_a1, z_a2]
    unfold b_M_walk_163
    rw [z_bind e, z_bind (ml_isLetter _), if_pos (isV_n ha), if_neg (show ¬ (1 : Int32) = 0 by decide), dg97, if_pos (z_ck ha (by omega)), if_neg n35, z_cl (by omega)]
    unfold b_M_walk_205
    rw [z_bind (ml_isLetter _), if_pos (isV_n ha), if_neg (show ¬ (1 : Int32) = 0 by decide), z_a1]
theorem wg_10 {P E : Nat} {X : Int32} {bs : List Int32} {s : ST} (hP : P < T) (hT : T ≤ 90) (hl : lim ≤ 400) (h : text P = 35) (hd : s.2.2.2 < lim) (hpr : s.2.2.1 ≤ s.2.2.2) (hw : WK9 text s (P + 1) E X) : WG text T lim 1 P bs s (E + 1) bs (s.1, pk9 s.2.1 s.2.2.1 X, s.2.2.1 + 1, s.2.2.2 + 1) := by
  intro var st sg out bl hi shi val hE hB
  obtain ⟨st', sg', e⟩ := hw var st sg hi shi val hE.1
  obtain ⟨kept', out', b1, b2, b3⟩ := b_print hE.2 (show s.2.2.1 < 1000000 by omega) X
  have ek : kept' = pk9 s.2.1 s.2.2.1 X := by
    have := cM_print (pr := s.2.2.1) (k := s.2.1) (by omega) X
    rw [this] at b1
    have b1 := Option.some.inj b1
    exact (Prod.mk.inj b1).1.symm
  rw [ek] at b3
  refine ⟨var, st', sg', out', bl, nI 1, nI 0, X, ⟨hE.1, b3⟩, hB, fun F => ?_⟩
  have v35 : ¬ isV 35 = true := isV_no (k := 35) (by omega) (by omega)
  rw [b_M_walk_33, if_neg (nI_ge hP (by omega)), if_pos (z_ck (by omega) (by omega)), z_cl (by omega), h, if_neg (show ¬ (35 : Int32) = 125 by decide), if_neg (show ¬ nI s.2.2.2 = nI lim by rw [nI_eq (by omega) (by omega)]; omega), z_bind (ml_isLetter _), if_neg v35, if_pos (show (0 : Int32) = 0 from rfl), z_a1, z_a1]
  unfold b_M_walk_163
  rw [z_bind e, z_bind (ml_isLetter _), if_neg v35, if_pos (show (0 : Int32) = 0 from rfl), if_pos (show (35 : Int32) = 35 from rfl), z_bind b2]
  unfold b_M_walk_205
  rw [z_bind (ml_isLetter _), if_neg v35, if_pos (show (0 : Int32) = 0 from rfl), if_pos (show (35 : Int32) = 35 from rfl)]
  dsimp only
  rw [z_a1]
/-- up to what the value decides -/
theorem wg_val {P E d deep : Nat} {X c pr : Int32} {var st sg out bl : Nat → Int32} {hi shi val : Int32} {s : ST} (hP : P < T) (hT : T ≤ 90) (hl : lim ≤ 400) (hc : c = 64 ∨ c = 63) (h : text P = c) (hd : d < lim) (hv : VR s.1 var) (hw : WK9 text s (P + 1) E X) : ∃ st' sg' : Nat → Int32, ∀ F : Nat, b_M_walk_33 text (nI T) 1 (F + 1) var st sg out bl hi shi pr (nI d) val (nI lim) (nI P) (nI deep) = b_M_walk_205 text (nI T) 1 (b_M_walk_33 text (nI T) 1 F) var st' sg' out bl (nI 1) (nI 0) pr (nI (d + 1)) X (nI lim) (nI P) (nI deep) c (nI E) := by
  obtain ⟨st', sg', e⟩ := hw var st sg hi shi val hv
  refine ⟨st', sg', fun F => ?_⟩
  have vc : ¬ isV c = true := by
    rcases hc with rfl | rfl
    · exact isV_no (k := 64) (by omega) (by omega)
    · exact isV_no (k := 63) (by omega) (by omega)
  have n35 : ¬ c = 35 := by rcases hc with rfl | rfl <;> decide
  have n125 : ¬ c = 125 := by rcases hc with rfl | rfl <;> decide
  rw [b_M_walk_33, if_neg (nI_ge hP (by omega)), if_pos (z_ck (by omega) (by omega)), z_cl (by omega), h, if_neg n125, if_neg (show ¬ nI d = nI lim by rw [nI_eq (by omega) (by omega)]; omega), z_bind (ml_isLetter _), if_neg vc, if_pos (show (0 : Int32) = 0 from rfl), z_a1, z_a1]
  unfold b_M_walk_163
  rw [z_bind e, z_bind (ml_isLetter _), if_neg vc, if_pos (show (0 : Int32) = 0 from rfl), if_neg n35]
theorem wg_205 {c : Int32} (hc : c = 64 ∨ c = 63) : ¬ isV c = true ∧ ¬ c = 35 := by
  rcases hc with rfl | rfl
  · exact ⟨isV_no (k := 64) (by omega) (by omega), by decide⟩
  · exact ⟨isV_no (k := 63) (by omega) (by omega), by decide⟩
theorem wg_in {P E : Nat} {X c : Int32} {bs : List Int32} {s : ST} (hP : P < T) (hT : T ≤ 90) (hl : lim ≤ 400) (hc : c = 64 ∨ c = 63) (h : text P = c) (hd : s.2.2.2 < lim) (hw : WK9 text s (P + 1) E X) (hX : ¬ X = 0) (hb : bs.length < 40) : WG text T lim 1 P bs s (E + 1) ((if c = 64 then nI P else -1) :: bs) (s.1, s.2.1, s.2.2.1, s.2.2.2 + 1) := by
  intro var st sg out bl hi shi val hE hB
  obtain ⟨st', sg', e⟩ := wg_val (st := st) (sg := sg) (out := out) (bl := bl) (hi := hi) (shi := shi) (val := val) (pr := nI s.2.2.1) (deep := bs.length) hP hT hl hc h hd hE.1 hw
  refine ⟨var, st', sg', out, upd bl bs.length (if c = 64 then nI P else -1), nI 1, nI 0, X, hE, ⟨pk_us, BS_upd bs (Nat.le_refl _) hB⟩, fun F => ?_⟩
  rw [e F]
  unfold b_M_walk_205
  have q4 := z_ck (k := bs.length) (n := 40) hb (by omega)
  rw [z_bind (ml_isLetter _), if_neg (wg_205 hc).1, if_pos (show (0 : Int32) = 0 from rfl), if_neg (wg_205 hc).2, if_neg hX, List.length_cons]
  by_cases h64 : c = 64
  · rw [if_pos h64, if_pos q4, z_cl (by omega), z_a1, z_a1, if_pos h64]
  · rw [if_neg h64, if_pos q4, z_cl (by omega), z_a1, z_a1, if_neg h64]
theorem wg_skip {P E Q : Nat} {c : Int32} {bs : List Int32} {s : ST} (hP : P < T) (hT : T ≤ 90) (hl : lim ≤ 400) (hc : c = 64 ∨ c = 63 ∧ (T ≤ Q ∨ ¬ text Q = 58)) (h : text P = c) (hd : s.2.2.2 < lim) (hw : WK9 text s (P + 1) E 0) (hb : g_M_behind text (nI E) = some (nI Q)) (hQ : Q < 500) : WG text T lim 1 P bs s Q bs (s.1, s.2.1, s.2.2.1, s.2.2.2 + 1) := by
  intro var st sg out bl hi shi val hE hB
  have hc' : c = 64 ∨ c = 63 := by
    rcases hc with h | h
    · exact Or.inl h
    · exact Or.inr h.1
  obtain ⟨st', sg', e⟩ := wg_val (st := st) (sg := sg) (out := out) (bl := bl) (hi := hi) (shi := shi) (val := val) (pr := nI s.2.2.1) (deep := bs.length) hP hT hl hc' h hd hE.1 hw
  refine ⟨var, st', sg', out, bl, nI 1, nI 0, 0, hE, hB, fun F => ?_⟩
  rw [e F]
  unfold b_M_walk_205
  rw [z_bind (ml_isLetter _), if_neg (wg_205 hc').1, if_pos (show (0 : Int32) = 0 from rfl), if_neg (wg_205 hc').2, if_pos (show (0 : Int32) = 0 from rfl), z_bind hb]
  rcases hc with rfl | ⟨rfl, h9⟩
  · rw [if_neg (show ¬ (64 : Int32) = 63 by decide)]
  · rw [if_pos (show (63 : Int32) = 63 from rfl)]
    by_cases h10 : T ≤ Q
    · rw [if_pos (nI_le h10 (by omega))]
    · rw [if_neg (nI_ge (by omega) (by omega)), if_pos (z_ck (by omega) (by omega)), z_cl (by omega), if_neg (by rcases h9 with h | h; exact absurd h h10; exact h)]
theorem wg_else {P E Q : Nat} {bs : List Int32} {s : ST} (hP : P < T) (hT : T ≤ 90) (hl : lim ≤ 400) (h : text P = 63) (hd : s.2.2.2 < lim) (hw : WK9 text s (P + 1) E 0) (hb : g_M_behind text (nI E) = some (nI Q)) (hQ : Q < T) (h58 : text Q = 58) (hbs : bs.length < 40) : WG text T lim 1 P bs s (Q + 2) (-2 :: bs) (s.1, s.2.1, s.2.2.1, s.2.2.2 + 1) := by
  intro var st sg out bl hi shi val hE hB
  obtain ⟨st', sg', e⟩ := wg_val (st := st) (sg := sg) (out := out) (bl := bl) (hi := hi) (shi := shi) (val := val) (pr := nI s.2.2.1) (deep := bs.length) hP hT hl (Or.inr rfl) h hd hE.1 hw
  refine ⟨var, st', sg', out, upd bl bs.length (-2), nI 1, nI 0, 0, hE, ⟨pk_us, BS_upd bs (Nat.le_refl _) hB⟩, fun F => ?_⟩
  rw [e F]
  unfold b_M_walk_205
  have q4 := z_ck (k := bs.length) (n := 40) hbs (by omega)
  rw [z_bind (ml_isLetter _), if_neg (wg_205 (Or.inr rfl)).1, if_pos (show (0 : Int32) = 0 from rfl), if_neg (wg_205 (Or.inr rfl)).2, if_pos (show (0 : Int32) = 0 from rfl), z_bind hb, if_pos (show (63 : Int32) = 63 from rfl), if_neg (nI_ge hQ (by omega)), if_pos (z_ck (by omega) (by omega)), z_cl (by omega), if_pos h58, if_pos q4, z_cl (by omega), z_a2, z_a1, List.length_cons]
end
theorem hdS_c {o w : Nat → Int32} {n p q : Nat} (hC : okC o w n) (hV : VA o n p q) (hR : RG o w n p q) : ∃ (c : Int32) (r : List Int32), hdS o w p q = c :: r ∧ ¬ c = 125 ∧ ¬ c = 58 := by
  have hqn := hV.2.1
  unfold hdS
  by_cases h : kd o w p q = 2
  · obtain ⟨k, hk, e⟩ := w_var hC.2.1 (show U o p < n by have := hR.2.1; omega) (Or.inr (hR.2.2.2.2.2.2.2.2.2.o2 h))
    rw [if_pos h, e]
    refine ⟨_, _, rfl, ?_, ?_⟩
    · rw [show (97 : Int32) = nI 97 from rfl, nI_add, show (125 : Int32) = nI 125 from rfl, nI_eq (by omega) (by omega)]; omega
    · rw [show (97 : Int32) = nI 97 from rfl, nI_add, show (58 : Int32) = nI 58 from rfl, nI_eq (by omega) (by omega)]; omega
  · rw [if_neg h]
    refine ⟨_, _, rfl, ?_, ?_⟩
    · unfold sgS; repeat (first | decide | split)
    · unfold sgS; repeat (first | decide | split)
section
variable {n T lim : Nat} {o w text : Nat → Int32}
def MW (n T lim : Nat) (o w text : Nat → Int32) (g : Nat) : Prop := ∀ (f p q P : Nat) (bs : List Int32) (s : ST), VA o n p q → q - p < f → kn o w f p q = none → AT text P (tx o w f p q) → P + (tx o w f p q).length ≤ T → (P + (tx o w f p q).length = T ∨ text (P + (tx o w f p q).length) = 125) → bs.length + (q - p) ≤ 38 → s.2.2.2 ≤ lim → s.2.2.1 ≤ s.2.2.2 → lim - s.2.2.2 < g →
  ((rn o w lim g p q s).1 = true → ∃ K : Nat, K ≤ 2 * ((rn o w lim g p q s).2.2.2.2 - s.2.2.2) ∧ WG text T lim K P bs s (P + (tx o w f p q).length) bs (rn o w lim g p q s).2) ∧ (¬ (rn o w lim g p q s).1 = true → ∃ K : Nat, K ≤ 2 * ((rn o w lim g p q s).2.2.2.2 - s.2.2.2) + 1 ∧ WFl text T lim K P bs s (rn o w lim g p q s).2)
set_option maxHeartbeats 4000000 in
theorem mw_all (hC : okC o w n) (hT : T ≤ 90) (hl : lim ≤ 400) : ∀ g, MW n T lim o w text g := by
  have hn := hC.1
  intro g
  induction g with
  | zero => intro f p q P bs s _ _ _ _ _ _ _ _ _ h; omega
  | succ g ih =>
    intro f p q P bs s hV hf hk hA hP hend hbs hsd hsp hg
    have hqn := hV.2.1
    obtain ⟨f, rfl⟩ : ∃ f', f = f' + 1 := ⟨f - 1, by omega⟩
    by_cases hpq : p < q
    · obtain ⟨hR, kb, kc, kk⟩ := kn_sp hC hV hpq hk
      have hsz := hR.sz
      have hord := hR.ord
      obtain ⟨c0, r0, hc0, hc125, hc58⟩ := hdS_c hC hV hR
      obtain ⟨h1, h2, h3, h4, -, vb, vc, vk, hbk, hK⟩ := hR
      have vb1 := vb.1
      have vc1 := vc.1
      have vk1 := vk.1
      obtain ⟨hl1, hl2⟩ := hdS_len o w p q
      rw [tx, if_pos hpq] at hA hP hend ⊢
      have A1 := hA.left
      have A2 := hA.right.left
      have A3 := hA.right.right.left
      have A4 := hA.right.right.right
      have hx0 := (ext_len (w := w) _ h3).1
      simp only [List.length_append] at hP hend ⊢
      have hE0 : text P = c0 := by rw [hc0] at A1; exact A1.head
      have hPT : P < T := by omega
      rw [rn, if_pos hpq]
      by_cases hd : s.2.2.2 < lim
      · rw [if_pos hd]
        -- the value
        have hwk : ¬ isD (text (P + (hdS o w p q).length + (ext o w (U o p - 1)).length)) = true → WK9 text s (P + (hdS o w p q).length) (P + (hdS o w p q).length + (ext o w (U o p - 1)).length) (ev o w s.1 (U o p - 1)) := by
          intro hnd var st sg hi shi val hv
          obtain ⟨st', sg', e⟩ := ml_work (var := var) (val := val) (hi := hi) (shi := shi) (st := st) (sg := sg) hC.2.1 hn h3 (show U o p - 1 < n by omega) A2 (by omega) hnd
          rw [ev_congr hC.2.1 hv _ h3 (by omega)] at e
          exact ⟨st', sg', e⟩
        generalize hXX : (ext o w (U o p - 1)).length = LX at *
        generalize hBB : (tx o w f (U o p + 1) (bq o w p q)).length = LB at *
        generalize hCC : (tx o w f (cp o w p q) (cq o w p q)).length = LC at *
        generalize hKK : (tx o w f (kp o w p q) q).length = LK at *
        -- behind the STATEMENT
        have hnx : ∀ Pk : Nat, Pk = P + (hdS o w p q).length + LX + (bdS (kd o w p q) (tx o w f (U o p + 1) (bq o w p q)) (tx o w f (cp o w p q) (cq o w p q))).length → T ≤ Pk ∨ ¬ text Pk = 58 := by
          intro Pk hPk
          rw [← hPk] at A4
          by_cases hkq : kp o w p q < q
          · obtain ⟨f2, rfl⟩ : ∃ f', f = f' + 1 := ⟨f - 1, by omega⟩
            obtain ⟨hR2, -⟩ := kn_sp hC vk hkq kk
            obtain ⟨c2, r2, hc2, -, hc258⟩ := hdS_c hC vk hR2
            rw [tx, if_pos hkq, hc2] at A4
            exact Or.inr (by rw [A4.head]; exact hc258)
          · have e0 : tx o w f (kp o w p q) q = [] := by
              cases f with
              | zero => rfl
              | succ f => rw [tx, if_neg hkq]
            rw [e0] at hKK
            have : LK = 0 := hKK.symm
            rcases hend with he | he
            · exact Or.inl (by omega)
            · refine Or.inr ?_
              rw [show P + ((hdS o w p q).length + (LX + ((bdS (kd o w p q) (tx o w f (U o p + 1) (bq o w p q)) (tx o w f (cp o w p q) (cq o w p q))).length + LK))) = Pk by omega] at he
              rw [he]; decide
        have fin : ∀ (s2 : ST) (K1 Pk : Nat), Pk = P + (hdS o w p q).length + LX + (bdS (kd o w p q) (tx o w f (U o p + 1) (bq o w p q)) (tx o w f (cp o w p q) (cq o w p q))).length → WG text T lim K1 P bs s Pk bs s2 → s.2.2.2 + 1 ≤ s2.2.2.2 → s2.2.2.2 ≤ lim → s2.2.2.1 ≤ s2.2.2.2 → K1 ≤ 2 * (s2.2.2.2 - s.2.2.2) → ((rn o w lim g (kp o w p q) q s2).1 = true → ∃ K : Nat, K ≤ 2 * ((rn o w lim g (kp o w p q) q s2).2.2.2.2 - s.2.2.2) ∧ WG text T lim K P bs s (P + ((hdS o w p q).length + (LX + ((bdS (kd o w p q) (tx o w f (U o p + 1) (bq o w p q)) (tx o w f (cp o w p q) (cq o w p q))).length + LK)))) bs (rn o w lim g (kp o w p q) q s2).2) ∧ (¬ (rn o w lim g (kp o w p q) q s2).1 = true → ∃ K : Nat, K ≤ 2 * ((rn o w lim g (kp o w p q) q s2).2.2.2.2 - s.2.2.2) + 1 ∧ WFl text T lim K P bs s (rn o w lim g (kp o w p q) q s2).2) := by
          intro s2 K1 Pk hPk hG x1 x2 x3 x4
          have hmono := rn_mono (o := o) (w := w) (lim := lim) g (kp o w p q) q s2 x2 x3
          rw [← hPk] at A4
          obtain ⟨i1, i2⟩ := ih f (kp o w p q) q Pk bs s2 vk (by omega) kk A4 (by rw [hKK]; omega) (by rw [hKK]; rw [show Pk + LK = P + ((hdS o w p q).length + (LX + ((bdS (kd o w p q) (tx o w f (U o p + 1) (bq o w p q)) (tx o w f (cp o w p q) (cq o w p q))).length + LK))) by omega]; exact hend) (by omega) x2 x3 (by omega)
          refine ⟨fun h => ?_, fun h => ?_⟩
          · obtain ⟨K, hK1, g1⟩ := i1 h
            rw [hKK, show Pk + LK = P + ((hdS o w p q).length + (LX + ((bdS (kd o w p q) (tx o w f (U o p + 1) (bq o w p q)) (tx o w f (cp o w p q) (cq o w p q))).length + LK))) by omega] at g1
            exact ⟨K + K1, by omega, hG.then g1⟩
          · obtain ⟨K, hK1, g1⟩ := i2 h
            exact ⟨K + K1, by omega, hG.fl g1⟩
        by_cases k2 : kd o w p q = 2
        · rw [if_pos k2]
          obtain ⟨a, ha, ea⟩ := w_var hC.2.1 (show U o p < n by omega) (Or.inr (hK.o2 k2))
          have eb : bdS (kd o w p q) (tx o w f (U o p + 1) (bq o w p q)) (tx o w f (cp o w p q) (cq o w p q)) = [59] := by unfold bdS; rw [if_pos (Or.inl k2)]
          have eH := hl1 k2
          have hc : c0 = nI (97 + a) := by
            unfold hdS at hc0
            rw [if_pos k2] at hc0
            have := (List.cons.inj hc0).1
            rw [← this, ea, show (97 : Int32) = nI 97 from rfl, nI_add]
          rw [eH] at hwk fin A3
          rw [eb] at A3 fin
          have hw := hwk (by rw [A3.head]; exact isD_no (k := 59) (by omega) (by omega))
          have hG := wg_2 (bs := bs) hPT hT hl ha (hE0.trans hc) hd hw
          rw [tg_n ea (by omega)]
          rw [eb, eH]
          exact fin _ 1 _ rfl hG (Nat.le_refl _) (by dsimp only; omega) (by dsimp only; omega) (by dsimp only; omega)
        · rw [if_neg k2]
          have eH := hl2 k2
          have hc : c0 = sgS (kd o w p q) := by
            unfold hdS at hc0
            rw [if_neg k2] at hc0
            exact (List.cons.inj hc0).1.symm
          rw [eH] at hwk fin A3 hnx
          rw [eH] at hP hend ⊢
          by_cases k10 : kd o w p q = 10
          · rw [if_pos k10]
            have eb : bdS (kd o w p q) (tx o w f (U o p + 1) (bq o w p q)) (tx o w f (cp o w p q) (cq o w p q)) = [59] := by unfold bdS; rw [if_pos (Or.inr k10)]
            rw [eb] at A3 fin ⊢
            have hw := hwk (by rw [A3.head]; exact isD_no (k := 59) (by omega) (by omega))
            have hc9 : c0 = 35 := by rw [hc, k10]; rfl
            have hG := wg_10 (bs := bs) hPT hT hl (hE0.trans hc9) hd hsp hw
            exact fin _ 1 _ rfl hG (Nat.le_refl _) (by dsimp only; omega) (by dsimp only; omega) (by dsimp only; omega)
          · rw [if_neg k10]
            have hns : ¬ (kd o w p q = 2 ∨ kd o w p q = 10) := by omega
            have kk3 : kd o w p q = 11 ∨ kd o w p q = 12 ∨ kd o w p q = 13 := by have := hK.k; omega
            have eb : ∃ z : List Int32, bdS (kd o w p q) (tx o w f (U o p + 1) (bq o w p q)) (tx o w f (cp o w p q) (cq o w p q)) = 123 :: (tx o w f (U o p + 1) (bq o w p q) ++ 125 :: z) ∧ (kd o w p q ≠ 13 → z = []) ∧ (kd o w p q = 13 → z = 58 :: 123 :: (tx o w f (cp o w p q) (cq o w p q) ++ [125])) := by
              unfold bdS
              rw [if_neg hns]
              by_cases h13 : kd o w p q = 13
              · exact ⟨_, by rw [if_pos h13], fun h => absurd h13 h, fun _ => rfl⟩
              · exact ⟨_, by rw [if_neg h13], fun _ => rfl, fun h => absurd h h13⟩
            obtain ⟨z, eb, ez1, ez2⟩ := eb
            rw [eb] at A3 fin hP hend hnx ⊢
            simp only [List.length_cons, List.length_append, hBB] at fin hP hend hnx ⊢
            have hw := hwk (by rw [A3.head]; exact isD_no (k := 123) (by omega) (by omega))
            have AB := A3.tail.left
            have AC := A3.tail.right
            rw [hBB] at AC
            have c125 := AC.head
            have hblk : AT text (P + 1 + LX) (123 :: (tx o w f (U o p + 1) (bq o w p q) ++ [125])) := by
              have e : 123 :: (tx o w f (U o p + 1) (bq o w p q) ++ 125 :: z) = 123 :: (tx o w f (U o p + 1) (bq o w p q) ++ [125]) ++ z := by simp only [List.append_assoc, List.cons_append, List.nil_append]
              rw [e] at A3
              exact A3.left
            have hbh := bh_blk (skp_tx hC f _ _ vb (by omega) kb) hblk (by rw [hBB]; omega)
            rw [hBB] at hbh
            -- the body
            have body : ∀ (x : Int32), WG text T lim 1 P bs s (P + 1 + LX + 1) (x :: bs) (s.1, s.2.1, s.2.2.1, s.2.2.2 + 1) → ((rn o w lim g (U o p + 1) (bq o w p q) (s.1, s.2.1, s.2.2.1, s.2.2.2 + 1)).1 = true → ∃ K : Nat, K + 1 ≤ 2 * ((rn o w lim g (U o p + 1) (bq o w p q) (s.1, s.2.1, s.2.2.1, s.2.2.2 + 1)).2.2.2.2 - s.2.2.2) ∧ WG text T lim K P bs s (P + 1 + LX + 1 + LB) (x :: bs) (rn o w lim g (U o p + 1) (bq o w p q) (s.1, s.2.1, s.2.2.1, s.2.2.2 + 1)).2) ∧ (¬ (rn o w lim g (U o p + 1) (bq o w p q) (s.1, s.2.1, s.2.2.1, s.2.2.2 + 1)).1 = true → ∃ K : Nat, K ≤ 2 * ((rn o w lim g (U o p + 1) (bq o w p q) (s.1, s.2.1, s.2.2.1, s.2.2.2 + 1)).2.2.2.2 - s.2.2.2) + 1 ∧ WFl text T lim K P bs s (rn o w lim g (U o p + 1) (bq o w p q) (s.1, s.2.1, s.2.2.1, s.2.2.2 + 1)).2) := by
              intro x hG
              have hmono := rn_mono (o := o) (w := w) (lim := lim) g (U o p + 1) (bq o w p q) (s.1, s.2.1, s.2.2.1, s.2.2.2 + 1) (by dsimp only; omega) (by dsimp only; omega)
              obtain ⟨i1, i2⟩ := ih f (U o p + 1) (bq o w p q) (P + 1 + LX + 1) (x :: bs) (s.1, s.2.1, s.2.2.1, s.2.2.2 + 1) vb (by omega) kb AB (by rw [hBB]; omega) (Or.inr (by rw [hBB]; exact c125)) (by rw [List.length_cons]; omega) (by dsimp only; omega) (by dsimp only; omega) (by dsimp only; omega)
              rw [hBB] at i1
              dsimp only at hmono i1 i2
              refine ⟨fun h => ?_, fun h => ?_⟩
              · obtain ⟨K, hK1, g1⟩ := i1 h
                exact ⟨K + 1, by omega, hG.then g1⟩
              · obtain ⟨K, hK1, g1⟩ := i2 h
                exact ⟨K + 1, by omega, hG.fl g1⟩
            have hmono := rn_mono (o := o) (w := w) (lim := lim) g (U o p + 1) (bq o w p q) (s.1, s.2.1, s.2.2.1, s.2.2.2 + 1) (by dsimp only; omega) (by dsimp only; omega)
            dsimp only at hmono
            by_cases h11 : kd o w p q = 11
            · rw [if_pos h11]
              have hc9 : c0 = 64 := by rw [hc, h11]; rfl
              have hz := ez1 (by omega)
              subst hz
              by_cases hv : ev o w s.1 (U o p - 1) = 0
              · rw [if_pos hv]
                rw [hv] at hw
                have hG := wg_skip (bs := bs) hPT hT hl (Or.inl rfl) (hE0.trans hc9) hd hw hbh (by omega)
                exact fin _ 1 _ (by simp only [List.length_nil]; omega) hG (Nat.le_refl _) (by dsimp only; omega) (by dsimp only; omega) (by dsimp only; omega)
              · rw [if_neg hv]
                have hG := wg_in (bs := bs) hPT hT hl (Or.inl rfl) (hE0.trans hc9) hd hw hv (by omega)
                rw [if_pos (show (64 : Int32) = 64 from rfl)] at hG
                obtain ⟨b1, b2⟩ := body _ hG
                generalize rn o w lim g (U o p + 1) (bq o w p q) (s.1, s.2.1, s.2.2.1, s.2.2.2 + 1) = rb at *
                by_cases hr : rb.1 = true
                · rw [if_pos hr]
                  obtain ⟨K, hK1, g1⟩ := b1 hr
                  have hcl := wg_close (text := text) (T := T) (lim := lim) (Q := P) (x := nI P) (bs := bs) (s := rb.2) (show P + 1 + LX + 1 + LB < T by omega) hT (by omega) c125 (Or.inl ⟨rfl, by omega⟩)
                  have hmono2 := rn_mono (o := o) (w := w) (lim := lim) g p q rb.2 (by omega) (by omega)
                  obtain ⟨i1, i2⟩ := ih (f + 1) p q P bs rb.2 hV hf hk (by rw [tx, if_pos hpq]; exact hA) (by rw [tx, if_pos hpq]; simp only [List.length_append, hXX, eH, hKK, eb, List.length_cons, hBB]; omega) (by rw [tx, if_pos hpq]; simp only [List.length_append, hXX, eH, hKK, eb, List.length_cons, hBB]; exact hend) hbs (by omega) (by omega) (by omega)
                  rw [tx, if_pos hpq] at i1
                  simp only [List.length_append, hXX, eH, hKK, eb, List.length_cons, hBB] at i1
                  refine ⟨fun h => ?_, fun h => ?_⟩
                  · obtain ⟨K2, hK2, g2⟩ := i1 h
                    exact ⟨K2 + (1 + K), by omega, (g1.then hcl).then g2⟩
                  · obtain ⟨K2, hK2, g2⟩ := i2 h
                    exact ⟨K2 + (1 + K), by omega, (g1.then hcl).fl g2⟩
                · rw [if_neg hr]
                  refine ⟨fun h => absurd h Bool.false_ne_true, fun _ => ?_⟩
                  exact b2 hr
            · rw [if_neg h11]
              have hc9 : c0 = 63 := by
                rw [hc]
                unfold sgS
                rw [if_neg (by omega), if_neg (by omega), if_neg (by omega)]
              by_cases hv : ev o w s.1 (U o p - 1) = 0
              · simp only [if_pos hv]
                rw [hv] at hw
                by_cases h13 : kd o w p q = 13
                · have hz := ez2 h13
                  subst hz
                  have A58 := AC.tail
                  have hG := wg_else (bs := bs) hPT hT hl (hE0.trans hc9) hd hw hbh (by simp only [List.length_cons, List.length_append, hCC] at hP; omega) (by rw [show P + 1 + LX + LB + 2 = P + 1 + LX + 1 + LB + 1 by omega]; exact A58.head) (by omega)
                  have ACC : AT text (P + 1 + LX + LB + 2 + 2) (tx o w f (cp o w p q) (cq o w p q)) := by
                    have := A58.tail.tail.left
                    rw [show P + 1 + LX + LB + 2 + 2 = P + 1 + LX + 1 + LB + 1 + 1 + 1 by omega]
                    exact this
                  have c125' : text (P + 1 + LX + LB + 2 + 2 + LC) = 125 := by
                    have := A58.tail.tail.right.head
                    rw [hCC] at this
                    rw [show P + 1 + LX + LB + 2 + 2 + LC = P + 1 + LX + 1 + LB + 1 + 1 + 1 + LC by omega]
                    exact this
                  simp only [List.length_cons, List.length_append, hCC, List.length_nil] at fin hP hend ⊢
                  have hmonc := rn_mono (o := o) (w := w) (lim := lim) g (cp o w p q) (cq o w p q) (s.1, s.2.1, s.2.2.1, s.2.2.2 + 1) (by dsimp only; omega) (by dsimp only; omega)
                  obtain ⟨i1, i2⟩ := ih f (cp o w p q) (cq o w p q) (P + 1 + LX + LB + 2 + 2) (-2 :: bs) (s.1, s.2.1, s.2.2.1, s.2.2.2 + 1) vc (by omega) kc ACC (by rw [hCC]; omega) (Or.inr (by rw [hCC]; exact c125')) (by rw [List.length_cons]; omega) (by dsimp only; omega) (by dsimp only; omega) (by dsimp only; omega)
                  rw [hCC] at i1
                  dsimp only at hmonc i1 i2
                  generalize rn o w lim g (cp o w p q) (cq o w p q) (s.1, s.2.1, s.2.2.1, s.2.2.2 + 1) = rc at *
                  by_cases hr : rc.1 = true
                  · rw [if_pos hr]
                    obtain ⟨K, hK1, g1⟩ := i1 hr
                    have hcl := wg_close (text := text) (T := T) (lim := lim) (Q := P + 1 + LX + LB + 2 + 2 + LC + 1) (x := -2) (bs := bs) (s := rc.2) (show P + 1 + LX + LB + 2 + 2 + LC < T by omega) hT (by omega) c125' (Or.inr (Or.inl ⟨rfl, rfl⟩))
                    exact fin rc.2 (1 + (K + 1)) _ (by omega) ((hG.then g1).then hcl) (by omega) (by omega) (by omega) (by omega)
                  · rw [if_neg hr]
                    refine ⟨fun h => absurd h Bool.false_ne_true, fun _ => ?_⟩
                    obtain ⟨K, hK1, g1⟩ := i2 hr
                    exact ⟨K + 1, by dsimp only; omega, hG.fl g1⟩
                · have hz := ez1 h13
                  subst hz
                  have hcz : ¬ cp o w p q < cq o w p q := by
                    rcases hK with ⟨e, -⟩ | ⟨e, -⟩ | ⟨e, -⟩ | ⟨-, -, t, -, a1, a2, e1, e2, e3, e4, -⟩ | ⟨e, -⟩ <;> omega
                  obtain ⟨g', rfl⟩ : ∃ g', g = g' + 1 := ⟨g - 1, by omega⟩
                  have er : rn o w lim (g' + 1) (cp o w p q) (cq o w p q) (s.1, s.2.1, s.2.2.1, s.2.2.2 + 1) = (true, (s.1, s.2.1, s.2.2.1, s.2.2.2 + 1)) := by rw [rn, if_neg hcz]
                  rw [er, if_pos rfl]
                  have hG := wg_skip (bs := bs) hPT hT hl (Or.inr ⟨rfl, hnx (P + 1 + LX + LB + 2) (by simp only [List.length_nil]; omega)⟩) (hE0.trans hc9) hd hw hbh (by omega)
                  exact fin _ 1 _ (by simp only [List.length_nil]; omega) hG (Nat.le_refl _) (by dsimp only; omega) (by dsimp only; omega) (by dsimp only; omega)
              · simp only [if_neg hv]
                have hG := wg_in (bs := bs) hPT hT hl (Or.inr rfl) (hE0.trans hc9) hd hw hv (by omega)
                rw [if_neg (show ¬ (63 : Int32) = 64 by decide)] at hG
                obtain ⟨b1, b2⟩ := body _ hG
                generalize rn o w lim g (U o p + 1) (bq o w p q) (s.1, s.2.1, s.2.2.1, s.2.2.2 + 1) = rb at *
                by_cases hr : rb.1 = true
                · rw [if_pos hr]
                  obtain ⟨K, hK1, g1⟩ := b1 hr
                  by_cases h13 : kd o w p q = 13
                  · have hz := ez2 h13
                    subst hz
                    have A58 := AC.tail
                    have hbc := bh_blk (skp_tx hC f _ _ vc (by omega) kc) A58.tail (by rw [hCC]; simp only [List.length_cons, List.length_append, hCC] at hP; omega)
                    rw [hCC] at hbc
                    simp only [List.length_cons, List.length_append, hCC, List.length_nil] at fin hP hend ⊢
                    have hcl := wg_close (text := text) (T := T) (lim := lim) (Q := P + 1 + LX + 1 + LB + 1 + 1 + LC + 2) (x := -1) (bs := bs) (s := rb.2) (show P + 1 + LX + 1 + LB < T by omega) hT (by omega) c125 (Or.inr (Or.inr (Or.inr ⟨rfl, by omega, A58.head, hbc⟩)))
                    exact fin rb.2 (1 + K) _ (by omega) (g1.then hcl) (by omega) (by omega) (by omega) (by omega)
                  · have hz := ez1 h13
                    subst hz
                    have hcl := wg_close (text := text) (T := T) (lim := lim) (Q := P + 1 + LX + 1 + LB + 1) (x := -1) (bs := bs) (s := rb.2) (show P + 1 + LX + 1 + LB < T by omega) hT (by omega) c125 (Or.inr (Or.inr (Or.inl ⟨rfl, rfl, hnx _ (by simp only [List.length_nil]; omega)⟩)))
                    exact fin rb.2 (1 + K) _ (by simp only [List.length_nil]; omega) (g1.then hcl) (by omega) (by omega) (by omega) (by omega)
                · rw [if_neg hr]
                  exact ⟨fun h => absurd h Bool.false_ne_true, fun _ => b2 hr⟩
      · rw [if_neg hd]
        refine ⟨fun h => absurd h Bool.false_ne_true, fun _ => ⟨1, by dsimp only; omega, wg_stop hPT hT (by rw [hE0]; exact hc125) (by omega)⟩⟩
    · rw [rn, if_neg hpq, tx, if_neg hpq]
      exact ⟨fun _ => ⟨0, by omega, WG.zero⟩, fun h => absurd rfl h⟩
end
