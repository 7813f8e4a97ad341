def K_Listing_leastWrong (l : Launch) (D : va_G) (cI cC : ClassId) : Prop :=
  ∀ (ht ht_ops ht_numbers ht_heights : Nat) (t_R : Nat) (t_size : Int32) (t_ops : Nat → Int32) (t_numbers : Nat → Int32) (t_heights : Nat → Int32) (q : Int32), g_Listing_leastWrong t_R t_ops t_numbers t_heights t_size = some q → ∀ (sz : Nat), Met l y_Listing_leastWrong w_Listing_leastWrong ({ frames := 3, cells := 0, slots := 0, locals := 64 }) (va_Pc [.ref ht] (gB D (gT cI cC) [(ht, .inr (2, [.ref ht_ops, .ref ht_numbers, .ref ht_heights, .int t_size])), (ht_ops, .inl (cI, t_R, .inl t_ops)), (ht_numbers, .inl (cI, t_R, .inl t_numbers)), (ht_heights, .inl (cI, (t_R + 1), .inl t_heights))] sz)) (gQi D (gT cI cC) q [(ht, .inr (2, [.ref ht_ops, .ref ht_numbers, .ref ht_heights, .int t_size])), (ht_ops, .inl (cI, t_R, .inl t_ops)), (ht_numbers, .inl (cI, t_R, .inl t_numbers)), (ht_heights, .inl (cI, (t_R + 1), .inl t_heights))] (va_A [(ht, .inr (2, [.ref ht_ops, .ref ht_numbers, .ref ht_heights, .int t_size])), (ht_ops, .inl (cI, t_R, .inl t_ops)), (ht_numbers, .inl (cI, t_R, .inl t_numbers)), (ht_heights, .inl (cI, (t_R + 1), .inl t_heights))] sz)) 0 0 (va_A [(ht, .inr (2, [.ref ht_ops, .ref ht_numbers, .ref ht_heights, .int t_size])), (ht_ops, .inl (cI, t_R, .inl t_ops)), (ht_numbers, .inl (cI, t_R, .inl t_numbers)), (ht_heights, .inl (cI, (t_R + 1), .inl t_heights))] sz)
set_option maxHeartbeats 4000000 in
set_option maxRecDepth 100000 in
theorem c_Listing_leastWrong (l : Launch) (D : va_G) (cI cC : ClassId) : K_Listing_leastWrong l D cI cC := by
  intro ht ht_ops ht_numbers ht_heights t_R t_size t_ops t_numbers t_heights q h sz
  refine Met.ofW (cc := k_Listing_leastWrong) (maxL := 2) (ret := (some .int)) (by decide) rfl ?_
  intro p e s m args below meth c s₁ B hml hv
  obtain ⟨rfl, hsz, hP, hK, hD0⟩ := hv
  have hx := B.exec
  have hb := B.bytes
  have hr := B.returns
  have hts : ∀ w ∈ lw_t, w.before ([.ref ht] : List Value).toArray s = true := fun w h => atoms_spec (ws := w_Listing_leastWrong) B.pre w (List.mem_cons_of_mem _ h)
  have hown : s.vm.findClass R_Listing = some m.cls := findClass_of_methodNamed B.named
  have hlocks := B.notSynchronized
  subst hsz
  have hD := hD0.self (sz := s.heap.size)
  generalize hAe : va_A [(ht, .inr (2, [.ref ht_ops, .ref ht_numbers, .ref ht_heights, .int t_size])), (ht_ops, .inl (cI, t_R, .inl t_ops)), (ht_numbers, .inl (cI, t_R, .inl t_numbers)), (ht_heights, .inl (cI, (t_R + 1), .inl t_heights))] s.heap.size = A at hD ⊢
  have hA : ∀ q : Nat, s.heap.size ≤ q → A q := fun q h => by rw [← hAe]; exact Or.inr h
  have hS : va_S A s.heap s.heap [] := va_S.rf
  have f_21 := hts _ mt_1_29
  have LP_2 : ∀ nn_2 : Nat, ∀ (v1 : Int32), b_Listing_leastWrong_2 t_R t_ops t_numbers t_heights t_size nn_2 v1 = some q → gJ p l e (headSpec w_Listing_leastWrong ({ frames := 3, cells := 0, slots := 0, locals := 64 })).room s m ([.ref ht] : List Value).toArray below meth c D A 2 (MQ below (gQi D (gT cI cC) q [(ht, .inr (2, [.ref ht_ops, .ref ht_numbers, .ref ht_heights, .int t_size])), (ht_ops, .inl (cI, t_R, .inl t_ops)), (ht_numbers, .inl (cI, t_R, .inl t_numbers)), (ht_heights, .inl (cI, (t_R + 1), .inl t_heights))] A) ([.ref ht] : List Value).toArray s 0 0 A) 2 [(ht, .inr (2, [.ref ht_ops, .ref ht_numbers, .ref ht_heights, .int t_size])), (ht_ops, .inl (cI, t_R, .inl t_ops)), (ht_numbers, .inl (cI, t_R, .inl t_numbers)), (ht_heights, .inl (cI, (t_R + 1), .inl t_heights))] [(0, .ref ht), (1, .int v1)] [] := by
    intro nn_2
    induction nn_2 with
    | zero => intro v1 h; exact g_no h
    | succ nn_2 ih_2 =>
      intro v1 h H locs ls hP hD hS hl
      rw [b_Listing_leastWrong_2] at h
      refine lv_iload_n hx hb d_Listing_leastWrong_2 rfl (lv_at hl 1 rfl) ?_
      refine lv_aload_n hx hb d_Listing_leastWrong_3 rfl (lv_at hl 0 rfl) ?_
      refine va_get (D := D) (ci := 2) (v := .int t_size) (C := R_Listing) (T := F_Listing) (N := 4) hx hb hts u_Listing hown hK hP 0 rfl rfl 3 (by decide) f_21 (fun _ h9 => h9) rfl d_Listing_leastWrong_4 ?_
      refine lv_icmp_ge (tgt := 26) hx hb d_Listing_leastWrong_7 (by decide) (fun ec => ?_) (fun ec => ?_)
      · have h := g_t ec h
        refine lv_aload_n hx hb d_Listing_leastWrong_26 rfl (lv_at hl 0 rfl) ?_
        refine lv_aload_n hx hb d_Listing_leastWrong_27 rfl (lv_at hl 0 rfl) ?_
        refine va_get (D := D) (ci := 2) (v := .int t_size) (C := R_Listing) (T := F_Listing) (N := 4) hx hb hts u_Listing hown hK hP 0 rfl rfl 3 (by decide) f_21 (fun _ h9 => h9) rfl d_Listing_leastWrong_28 ?_
        obtain ⟨q1, hc, h⟩ := g_bd h
        refine gk_i (va_runV (As := [.int t_size]) (rest := []) ⟨hx, hb, hml, hown, hts⟩ (c_Listing_heightBefore l D cI cC ht ht_ops ht_numbers ht_heights t_R t_size t_heights t_size q1 hc _) (cwV 1 hts (gG_V mt_2_12 mt_1_229 mt_1_230 mt_1_2 mt_1_231) rfl rfl rfl (by decide +kernel) ⟨Nat.le_of_ble_eq_true rfl, Nat.le_of_ble_eq_true rfl⟩) (gpV hK hP hD [0, 3] rfl (by decide) (ci := 2) 0 rfl rfl) rfl rfl hl.1 rfl (lv_room (Nat.le_of_ble_eq_true rfl)) d_Listing_leastWrong_31 ⟨Nat.zero_le _, Nat.zero_le _⟩) hK hP hD hS hA [0, 3] rfl (by decide) rfl rfl (fun H locs (hP : va_P D vwCl [(ht, .inr (2, [.ref ht_ops, .ref ht_numbers, .ref ht_heights, .int t_size])), (ht_ops, .inl (cI, t_R, .inl t_ops)), (ht_numbers, .inl (cI, t_R, .inl t_numbers)), (ht_heights, .inl (cI, (t_R + 1), .inl t_heights))] H) (hD : va_D A [(ht, .inr (2, [.ref ht_ops, .ref ht_numbers, .ref ht_heights, .int t_size])), (ht_ops, .inl (cI, t_R, .inl t_ops)), (ht_numbers, .inl (cI, t_R, .inl t_numbers)), (ht_heights, .inl (cI, (t_R + 1), .inl t_heights))]) hS => ?_)
        refine lv_if_ne (tgt := 42) hx hb d_Listing_leastWrong_34 (by decide) (fun ec => ?_) (fun ec => ?_)
        · have h := g_f ec h
          refine lv_aload_n hx hb d_Listing_leastWrong_42 rfl (lv_at hl 0 rfl) ?_
          refine va_get (D := D) (ci := 2) (v := .int t_size) (C := R_Listing) (T := F_Listing) (N := 4) hx hb hts u_Listing hown hK hP 0 rfl rfl 3 (by decide) f_21 (fun _ h9 => h9) rfl d_Listing_leastWrong_43 ?_
          cases h
          exact gr_i hx hb hr hlocks hK hP hD hS d_Listing_leastWrong_46
        · have h := g_t ec h
          refine lv_bipush (v := (-2 : Int32)) hx hb d_Listing_leastWrong_37 (by decide) ?_
          refine lv_goto (tgt := 46) hx hb d_Listing_leastWrong_39 (by decide) ?_
          cases h
          exact gr_i hx hb hr hlocks hK hP hD hS d_Listing_leastWrong_46
      · have h := g_f ec h
        refine lv_aload_n hx hb d_Listing_leastWrong_10 rfl (lv_at hl 0 rfl) ?_
        refine lv_iload_n hx hb d_Listing_leastWrong_11 rfl (lv_at hl 1 rfl) ?_
        obtain ⟨q2, hc, h⟩ := g_bd h
        refine gk_i (va_runV (As := [.int v1]) (rest := []) ⟨hx, hb, hml, hown, hts⟩ (c_Listing_isWrong l D cI cC ht ht_ops ht_numbers ht_heights t_R t_size t_ops t_numbers t_heights v1 q2 hc _) (cwV 1 hts (gG_V mt_2_8 mt_2_10 mp_0 mt_1_2 mt_2_11) rfl rfl rfl (by decide +kernel) ⟨Nat.le_of_ble_eq_true rfl, Nat.le_of_ble_eq_true rfl⟩) (gpV hK hP hD [0, 1, 2, 3] rfl (by decide) (ci := 2) 0 rfl rfl) rfl rfl hl.1 rfl (lv_room (Nat.le_of_ble_eq_true rfl)) d_Listing_leastWrong_12 ⟨Nat.zero_le _, Nat.zero_le _⟩) hK hP hD hS hA [0, 1, 2, 3] rfl (by decide) rfl rfl (fun H locs (hP : va_P D vwCl [(ht, .inr (2, [.ref ht_ops, .ref ht_numbers, .ref ht_heights, .int t_size])), (ht_ops, .inl (cI, t_R, .inl t_ops)), (ht_numbers, .inl (cI, t_R, .inl t_numbers)), (ht_heights, .inl (cI, (t_R + 1), .inl t_heights))] H) (hD : va_D A [(ht, .inr (2, [.ref ht_ops, .ref ht_numbers, .ref ht_heights, .int t_size])), (ht_ops, .inl (cI, t_R, .inl t_ops)), (ht_numbers, .inl (cI, t_R, .inl t_numbers)), (ht_heights, .inl (cI, (t_R + 1), .inl t_heights))]) hS => ?_)
        refine lv_if_eq (tgt := 20) hx hb d_Listing_leastWrong_15 (by decide) (fun ec => ?_) (fun ec => ?_)
        · have h := g_t ec h
          refine lv_iinc (v := v1 + (1 : Int32)) (lv' := [(1, .int (v1 + (1 : Int32))), (0, .ref ht)]) hx hb d_Listing_leastWrong_20 hl (k := 1) rfl rfl (by decide) rfl (fun ls hl => ?_)
          refine lv_goto (tgt := 2) hx hb d_Listing_leastWrong_23 (by decide) ?_
          exact ih_2 _ h _ _ _ hP hD hS (lv_sub hl [1, 0] rfl)
        · have h := g_f ec h
          refine lv_iload_n hx hb d_Listing_leastWrong_18 rfl (lv_at hl 1 rfl) ?_
          cases h
          exact gr_i hx hb hr hlocks hK hP hD hS d_Listing_leastWrong_19
  have hP : va_P D vwCl [(ht, .inr (2, [.ref ht_ops, .ref ht_numbers, .ref ht_heights, .int t_size])), (ht_ops, .inl (cI, t_R, .inl t_ops)), (ht_numbers, .inl (cI, t_R, .inl t_numbers)), (ht_heights, .inl (cI, (t_R + 1), .inl t_heights))] s.heap := hP
  have hl := lv_entry ([.ref ht]) (n := 2) (Nat.le_of_ble_eq_true rfl)
  rw [lg_entry_eq]
  generalize (lg_sl ([.ref ht]) ++ List.replicate (2 - (lg_sl ([.ref ht])).length) Slot.unset).toArray = ls at hl ⊢
  have hl : lv_has ls 2 [(0, .ref ht)] := hl
  unfold g_Listing_leastWrong at h
  refine lv_iconst (v := (0 : Int32)) hx hb d_Listing_leastWrong_0 (by decide) ?_
  refine lv_istore_n (lv' := [(1, .int (0 : Int32)), (0, .ref ht)]) hx hb d_Listing_leastWrong_1 rfl hl (by decide) rfl (fun ls hl => ?_)
  exact LP_2 500 _ h _ _ _ hP hD hS (lv_sub hl [1, 0] rfl)
def K_S_verify (l : Launch) (D : va_G) (cI cC : ClassId) : Prop :=
  ∀ (ht ht_listing ht_draft ht_written ht_tree ht_machine ht_listing_ops ht_listing_numbers ht_listing_heights : Nat) (t_trouble : Int32) (t_listing_size : Int32) (t_listing_ops : Nat → Int32) (t_listing_numbers : Nat → Int32) (t_listing_heights : Nat → Int32) (q : Int32), g_S_verify t_listing_ops t_listing_numbers t_listing_heights t_listing_size = some q → ∀ (sz : Nat), Met l y_S_verify w_S_verify ({ frames := 4, cells := 0, slots := 0, locals := 85 }) (va_Pc [.ref ht] (gB D (gT cI cC) [(ht, .inr (5, [.ref ht_listing, .ref ht_draft, .ref ht_written, .ref ht_tree, .ref ht_machine, .int t_trouble])), (ht_listing, .inr (2, [.ref ht_listing_ops, .ref ht_listing_numbers, .ref ht_listing_heights, .int t_listing_size])), (ht_listing_ops, .inl (cI, 30, .inl t_listing_ops)), (ht_listing_numbers, .inl (cI, 30, .inl t_listing_numbers)), (ht_listing_heights, .inl (cI, (30 + 1), .inl t_listing_heights))] sz)) (gQi D (gT cI cC) q [(ht, .inr (5, [.ref ht_listing, .ref ht_draft, .ref ht_written, .ref ht_tree, .ref ht_machine, .int t_trouble])), (ht_listing, .inr (2, [.ref ht_listing_ops, .ref ht_listing_numbers, .ref ht_listing_heights, .int t_listing_size])), (ht_listing_ops, .inl (cI, 30, .inl t_listing_ops)), (ht_listing_numbers, .inl (cI, 30, .inl t_listing_numbers)), (ht_listing_heights, .inl (cI, (30 + 1), .inl t_listing_heights))] (va_A [(ht, .inr (5, [.ref ht_listing, .ref ht_draft, .ref ht_written, .ref ht_tree, .ref ht_machine, .int t_trouble])), (ht_listing, .inr (2, [.ref ht_listing_ops, .ref ht_listing_numbers, .ref ht_listing_heights, .int t_listing_size])), (ht_listing_ops, .inl (cI, 30, .inl t_listing_ops)), (ht_listing_numbers, .inl (cI, 30, .inl t_listing_numbers)), (ht_listing_heights, .inl (cI, (30 + 1), .inl t_listing_heights))] sz)) 0 0 (va_A [(ht, .inr (5, [.ref ht_listing, .ref ht_draft, .ref ht_written, .ref ht_tree, .ref ht_machine, .int t_trouble])), (ht_listing, .inr (2, [.ref ht_listing_ops, .ref ht_listing_numbers, .ref ht_listing_heights, .int t_listing_size])), (ht_listing_ops, .inl (cI, 30, .inl t_listing_ops)), (ht_listing_numbers, .inl (cI, 30, .inl t_listing_numbers)), (ht_listing_heights, .inl (cI, (30 + 1), .inl t_listing_heights))] sz)
set_option maxHeartbeats 4000000 in
set_option maxRecDepth 100000 in
theorem c_S_verify (l : Launch) (D : va_G) (cI cC : ClassId) : K_S_verify l D cI cC := by
  intro ht ht_listing ht_draft ht_written ht_tree ht_machine ht_listing_ops ht_listing_numbers ht_listing_heights t_trouble t_listing_size t_listing_ops t_listing_numbers t_listing_heights q h sz
  refine Met.ofW (cc := k_S_verify) (maxL := 1) (ret := (some .int)) (by decide) rfl ?_
  intro p e s m args below meth c s₁ B hml hv
  obtain ⟨rfl, hsz, hP, hK, hD0⟩ := hv
  have hx := B.exec
  have hb := B.bytes
  have hr := B.returns
  have hts : ∀ w ∈ lw_t, w.before ([.ref ht] : List Value).toArray s = true := fun w h => atoms_spec (ws := w_S_verify) B.pre w (List.mem_cons_of_mem _ h)
  have hown : s.vm.findClass R_S = some m.cls := findClass_of_methodNamed B.named
  have hlocks := B.notSynchronized
  subst hsz
  have hD := hD0.self (sz := s.heap.size)
  generalize hAe : va_A [(ht, .inr (5, [.ref ht_listing, .ref ht_draft, .ref ht_written, .ref ht_tree, .ref ht_machine, .int t_trouble])), (ht_listing, .inr (2, [.ref ht_listing_ops, .ref ht_listing_numbers, .ref ht_listing_heights, .int t_listing_size])), (ht_listing_ops, .inl (cI, 30, .inl t_listing_ops)), (ht_listing_numbers, .inl (cI, 30, .inl t_listing_numbers)), (ht_listing_heights, .inl (cI, (30 + 1), .inl t_listing_heights))] s.heap.size = A at hD ⊢
  have hA : ∀ q : Nat, s.heap.size ≤ q → A q := fun q h => by rw [← hAe]; exact Or.inr h
  have hS : va_S A s.heap s.heap [] := va_S.rf
  have f_14 := hts _ mt_1_150
  have hP : va_P D vwCl [(ht, .inr (5, [.ref ht_listing, .ref ht_draft, .ref ht_written, .ref ht_tree, .ref ht_machine, .int t_trouble])), (ht_listing, .inr (2, [.ref ht_listing_ops, .ref ht_listing_numbers, .ref ht_listing_heights, .int t_listing_size])), (ht_listing_ops, .inl (cI, 30, .inl t_listing_ops)), (ht_listing_numbers, .inl (cI, 30, .inl t_listing_numbers)), (ht_listing_heights, .inl (cI, (30 + 1), .inl t_listing_heights))] s.heap := hP
  have hl := lv_entry ([.ref ht]) (n := 1) (Nat.le_of_ble_eq_true rfl)
  rw [lg_entry_eq]
  generalize (lg_sl ([.ref ht]) ++ List.replicate (1 - (lg_sl ([.ref ht])).length) Slot.unset).toArray = ls at hl ⊢
  have hl : lv_has ls 1 [(0, .ref ht)] := hl
  unfold g_S_verify at h
  refine lv_aload_n hx hb d_S_verify_0 rfl (lv_at hl 0 rfl) ?_
  refine va_get (D := D) (ci := 5) (v := .ref ht_listing) (C := R_S) (T := F_S) (N := 6) hx hb hts u_S hown hK hP 0 rfl rfl 0 (by decide) f_14 (fun _ h9 => h9) rfl d_S_verify_1 ?_
  obtain ⟨q1, hc, h⟩ := g_bd h
  refine gk_i (va_runV (As := []) (rest := []) ⟨hx, hb, hml, hown, hts⟩ (c_Listing_leastWrong l D cI cC ht_listing ht_listing_ops ht_listing_numbers ht_listing_heights 30 t_listing_size t_listing_ops t_listing_numbers t_listing_heights q1 hc _) (cwV 0 hts (gG_V mt_2_4 mt_2_5 mt_2_6 mt_1_2 mt_2_7) rfl rfl rfl (by decide +kernel) ⟨Nat.le_of_ble_eq_true rfl, Nat.le_of_ble_eq_true rfl⟩) (gpV hK hP hD [1, 2, 3, 4] rfl (by decide) (ci := 2) 1 rfl rfl) rfl rfl hl.1 rfl (lv_room (Nat.le_of_ble_eq_true rfl)) d_S_verify_4 ⟨Nat.zero_le _, Nat.zero_le _⟩) hK hP hD hS hA [1, 2, 3, 4] rfl (by decide) rfl rfl (fun H locs (hP : va_P D vwCl [(ht, .inr (5, [.ref ht_listing, .ref ht_draft, .ref ht_written, .ref ht_tree, .ref ht_machine, .int t_trouble])), (ht_listing, .inr (2, [.ref ht_listing_ops, .ref ht_listing_numbers, .ref ht_listing_heights, .int t_listing_size])), (ht_listing_ops, .inl (cI, 30, .inl t_listing_ops)), (ht_listing_numbers, .inl (cI, 30, .inl t_listing_numbers)), (ht_listing_heights, .inl (cI, (30 + 1), .inl t_listing_heights))] H) (hD : va_D A [(ht, .inr (5, [.ref ht_listing, .ref ht_draft, .ref ht_written, .ref ht_tree, .ref ht_machine, .int t_trouble])), (ht_listing, .inr (2, [.ref ht_listing_ops, .ref ht_listing_numbers, .ref ht_listing_heights, .int t_listing_size])), (ht_listing_ops, .inl (cI, 30, .inl t_listing_ops)), (ht_listing_numbers, .inl (cI, 30, .inl t_listing_numbers)), (ht_listing_heights, .inl (cI, (30 + 1), .inl t_listing_heights))]) hS => ?_)
  cases h
  exact gr_i hx hb hr hlocks hK hP hD hS d_S_verify_7
def K_Characters_add (l : Launch) (D : va_G) (cI cC : ClassId) : Prop :=
  ∀ (ht ht_row : Nat) (t_R : Nat) (t_size : Int32) (t_row : Nat → Int32) (a1 : Int32) (q : Int32 × (Nat → Int32) × Int32), g_Characters_add t_R t_row t_size a1 = some q → ∀ (sz : Nat), Met l y_Characters_add w_Characters_add ({ frames := 0, cells := 0, slots := 0, locals := 0 }) (va_Pc [.ref ht, .int a1] (gB D (gT cI cC) [(ht, .inr (0, [.ref ht_row, .int t_size])), (ht_row, .inl (cC, t_R, .inl t_row))] sz)) (gQi D (gT cI cC) q.1 [(ht, .inr (0, [.ref ht_row, .int q.2.2])), (ht_row, .inl (cC, t_R, .inl q.2.1))] (va_A [(ht, .inr (0, [.ref ht_row, .int t_size])), (ht_row, .inl (cC, t_R, .inl t_row))] sz)) 0 0 (va_A [(ht, .inr (0, [.ref ht_row, .int t_size])), (ht_row, .inl (cC, t_R, .inl t_row))] sz)
set_option maxHeartbeats 4000000 in
set_option maxRecDepth 100000 in
theorem c_Characters_add (l : Launch) (D : va_G) (cI cC : ClassId) : K_Characters_add l D cI cC := by
  intro ht ht_row t_R t_size t_row a1 q h sz
  refine Met.ofW (cc := k_Characters_add) (maxL := 2) (ret := (some .boolean)) (by decide) rfl ?_
  intro p e s m args below meth c s₁ B hml hv
  obtain ⟨rfl, hsz, hP, hK, hD0⟩ := hv
  have hx := B.exec
  have hb := B.bytes
  have hr := B.returns
  have hts : ∀ w ∈ lw_t, w.before ([.ref ht, .int a1] : List Value).toArray s = true := fun w h => atoms_spec (ws := w_Characters_add) B.pre w (List.mem_cons_of_mem _ h)
  have hown : s.vm.findClass R_Characters = some m.cls := findClass_of_methodNamed B.named
  have hlocks := B.notSynchronized
  subst hsz
  have hD := hD0.self (sz := s.heap.size)
  generalize hAe : va_A [(ht, .inr (0, [.ref ht_row, .int t_size])), (ht_row, .inl (cC, t_R, .inl t_row))] s.heap.size = A at hD ⊢
  have hA : ∀ q : Nat, s.heap.size ≤ q → A q := fun q h => by rw [← hAe]; exact Or.inr h
  have hS : va_S A s.heap s.heap [] := va_S.rf
  have f_15 := hts _ mt_1_53
  have f_9 := hts _ mt_1_52
  have hP : va_P D vwCl [(ht, .inr (0, [.ref ht_row, .int t_size])), (ht_row, .inl (cC, t_R, .inl t_row))] s.heap := hP
  have hl := lv_entry ([.ref ht, .int a1]) (n := 2) (Nat.le_of_ble_eq_true rfl)
  rw [lg_entry_eq]
  generalize (lg_sl ([.ref ht, .int a1]) ++ List.replicate (2 - (lg_sl ([.ref ht, .int a1])).length) Slot.unset).toArray = ls at hl ⊢
  have hl : lv_has ls 2 [(0, .ref ht), (1, .int a1)] := hl
  unfold g_Characters_add at h
  refine lv_aload_n hx hb d_Characters_add_0 rfl (lv_at hl 0 rfl) ?_
  refine va_get (D := D) (ci := 0) (v := .int t_size) (C := R_Characters) (T := F_Characters) (N := 2) hx hb hts u_Characters hown hK hP 0 rfl rfl 1 (by decide) f_15 (fun _ h9 => h9) rfl d_Characters_add_1 ?_
  refine lv_aload_n hx hb d_Characters_add_4 rfl (lv_at hl 0 rfl) ?_
  refine va_get (D := D) (ci := 0) (v := .ref ht_row) (C := R_Characters) (T := F_Characters) (N := 2) hx hb hts u_Characters hown hK hP 0 rfl rfl 0 (by decide) f_9 (fun _ h9 => h9) rfl d_Characters_add_5 ?_
  refine va_alen (v := nI t_R) hx hb hK hP 1 1 rfl rfl rfl d_Characters_add_8 ?_
  refine lv_icmp_lt (tgt := 14) hx hb d_Characters_add_9 (by decide) (fun ec => ?_) (fun ec => ?_)
  · have h := g_t ec h
    refine lv_aload_n hx hb d_Characters_add_14 rfl (lv_at hl 0 rfl) ?_
    refine va_get (D := D) (ci := 0) (v := .ref ht_row) (C := R_Characters) (T := F_Characters) (N := 2) hx hb hts u_Characters hown hK hP 0 rfl rfl 0 (by decide) f_9 (fun _ h9 => h9) rfl d_Characters_add_15 ?_
    refine lv_aload_n hx hb d_Characters_add_18 rfl (lv_at hl 0 rfl) ?_
    refine va_get (D := D) (ci := 0) (v := .int t_size) (C := R_Characters) (T := F_Characters) (N := 2) hx hb hts u_Characters hown hK hP 0 rfl rfl 1 (by decide) f_15 (fun _ h9 => h9) rfl d_Characters_add_19 ?_
    refine lv_iload_n hx hb d_Characters_add_22 rfl (lv_at hl 1 rfl) ?_
    refine lv_i2c (v := gc a1) hx hb d_Characters_add_23 rfl ?_
    obtain ⟨hi, h⟩ := g_ck h
    refine va_cast hx hb hK hP hD hS 1 1 rfl rfl hi d_Characters_add_24 (fun H locs (hP : va_P D vwCl [(ht, .inr (0, [.ref ht_row, .int t_size])), (ht_row, .inl (cC, t_R, .inl (upd t_row t_size.toNatClampNeg (vp_nar .char (gc a1)))))] H) (hD : va_D A [(ht, .inr (0, [.ref ht_row, .int t_size])), (ht_row, .inl (cC, t_R, .inl (upd t_row t_size.toNatClampNeg (vp_nar .char (gc a1)))))]) hS => ?_)
    refine lv_aload_n hx hb d_Characters_add_25 rfl (lv_at hl 0 rfl) ?_
    refine lv_dup hx hb d_Characters_add_26 rfl ?_
    refine va_get (D := D) (ci := 0) (v := .int t_size) (C := R_Characters) (T := F_Characters) (N := 2) hx hb hts u_Characters hown hK hP 0 rfl rfl 1 (by decide) f_15 (fun _ h9 => h9) rfl d_Characters_add_27 ?_
    refine lv_iconst (v := (1 : Int32)) hx hb d_Characters_add_30 (by decide) ?_
    refine lv_iadd hx hb d_Characters_add_31 ?_
    refine va_put (D := D) (ci := 0) (v := .int (t_size + (1 : Int32))) (ty := .int) (C := R_Characters) (T := F_Characters) (N := 2) hx hb hts u_Characters t_Characters t_Characters_ok n_Characters hown hK hP hD hS 0 rfl rfl 1 (by decide) f_15 (fun _ h9 => h9) rfl (by decide +kernel) rfl rfl (Nat.le_of_ble_eq_true rfl) d_Characters_add_32 (fun H locs (hP : va_P D vwCl [(ht, .inr (0, [.ref ht_row, .int (t_size + (1 : Int32))])), (ht_row, .inl (cC, t_R, .inl (upd t_row t_size.toNatClampNeg (vp_nar .char (gc a1)))))] H) (hD : va_D A [(ht, .inr (0, [.ref ht_row, .int (t_size + (1 : Int32))])), (ht_row, .inl (cC, t_R, .inl (upd t_row t_size.toNatClampNeg (vp_nar .char (gc a1)))))]) hS => ?_)
    refine lv_iconst (v := (1 : Int32)) hx hb d_Characters_add_35 (by decide) ?_
    cases h
    exact gr_z (v := (1 : Int32)) (by decide) hx hb hr hlocks hK hP hD hS d_Characters_add_36
  · have h := g_f ec h
    refine lv_iconst (v := (0 : Int32)) hx hb d_Characters_add_12 (by decide) ?_
    cases h
    exact gr_z (v := (0 : Int32)) (by decide) hx hb hr hlocks hK hP hD hS d_Characters_add_13
def K_Scribe_signOfStatement (l : Launch) (D : va_G) (cI cC : ClassId) : Prop :=
  ∀ (a0 : Int32) (q : Int32), g_Scribe_signOfStatement a0 = some q → ∀ (sz : Nat), Met l y_Scribe_signOfStatement w_Scribe_signOfStatement ({ frames := 0, cells := 0, slots := 0, locals := 0 }) (va_Pc [.int a0] (gB D (gT cI cC) [] sz)) (gQi D (gT cI cC) q [] (va_A [] sz)) 0 0 (va_A [] sz)
set_option maxHeartbeats 4000000 in
set_option maxRecDepth 100000 in
theorem c_Scribe_signOfStatement (l : Launch) (D : va_G) (cI cC : ClassId) : K_Scribe_signOfStatement l D cI cC := by
  intro a0 q h sz
  refine Met.ofW (cc := k_Scribe_signOfStatement) (maxL := 1) (ret := (some .char)) (by decide) rfl ?_
  intro p e s m args below meth c s₁ B hml hv
  obtain ⟨rfl, hsz, hP, hK, hD0⟩ := hv
  have hx := B.exec
  have hb := B.bytes
  have hr := B.returns
  have hts : ∀ w ∈ lw_t, w.before ([.int a0] : List Value).toArray s = true := fun w h => atoms_spec (ws := w_Scribe_signOfStatement) B.pre w (List.mem_cons_of_mem _ h)
  have hown : s.vm.findClass R_Scribe = some m.cls := findClass_of_methodNamed B.named
  have hlocks := B.notSynchronized
  subst hsz
  have hD := hD0.self (sz := s.heap.size)
  generalize hAe : va_A [] s.heap.size = A at hD ⊢
  have hA : ∀ q : Nat, s.heap.size ≤ q → A q := fun q h => by rw [← hAe]; exact Or.inr h
  have hS : va_S A s.heap s.heap [] := va_S.rf
  have hP : va_P D vwCl [] s.heap := hP
  have hl := lv_entry ([.int a0]) (n := 1) (Nat.le_of_ble_eq_true rfl)
  rw [lg_entry_eq]
  generalize (lg_sl ([.int a0]) ++ List.replicate (1 - (lg_sl ([.int a0])).length) Slot.unset).toArray = ls at hl ⊢
  have hl : lv_has ls 1 [(0, .int a0)] := hl
  unfold g_Scribe_signOfStatement at h
  refine lv_iload_n hx hb d_Scribe_signOfStatement_0 rfl (lv_at hl 0 rfl) ?_
  by_cases e_2 : a0 = (2 : Int32)
  · have h := g_t e_2 h
    have ei : (a0).toInt = 2 := by rw [e_2]; decide
    refine lv_lookup (tgt := 36) (off := 35) hx hb d_Scribe_signOfStatement_1 (by decide) (by rw [ei]; rfl) (by decide) ?_
    refine lv_bipush (v := (61 : Int32)) hx hb d_Scribe_signOfStatement_36 (by decide) ?_
    cases h
    exact gr_z (v := (61 : Int32)) (by decide) hx hb hr hlocks hK hP hD hS d_Scribe_signOfStatement_38
  · have h := g_f e_2 h
    by_cases e_10 : a0 = (10 : Int32)
    · have h := g_t e_10 h
      have ei : (a0).toInt = 10 := by rw [e_10]; decide
      refine lv_lookup (tgt := 39) (off := 38) hx hb d_Scribe_signOfStatement_1 (by decide) (by rw [ei]; rfl) (by decide) ?_
      refine lv_bipush (v := (35 : Int32)) hx hb d_Scribe_signOfStatement_39 (by decide) ?_
      cases h
      exact gr_z (v := (35 : Int32)) (by decide) hx hb hr hlocks hK hP hD hS d_Scribe_signOfStatement_41
    · have h := g_f e_10 h
      by_cases e_11 : a0 = (11 : Int32)
      · have h := g_t e_11 h
        have ei : (a0).toInt = 11 := by rw [e_11]; decide
        refine lv_lookup (tgt := 42) (off := 41) hx hb d_Scribe_signOfStatement_1 (by decide) (by rw [ei]; rfl) (by decide) ?_
        refine lv_bipush (v := (64 : Int32)) hx hb d_Scribe_signOfStatement_42 (by decide) ?_
        cases h
        exact gr_z (v := (64 : Int32)) (by decide) hx hb hr hlocks hK hP hD hS d_Scribe_signOfStatement_44
      · have h := g_f e_11 h
        refine lv_lookup (tgt := 45) (off := 44) hx hb d_Scribe_signOfStatement_1 (by decide) (Eq.trans (lv_osw (a := 2) e_2 (by decide)) (Eq.trans (lv_osw (a := 10) e_10 (by decide)) (Eq.trans (lv_osw (a := 11) e_11 (by decide)) rfl))) (by decide) ?_
        refine lv_bipush (v := (63 : Int32)) hx hb d_Scribe_signOfStatement_45 (by decide) ?_
        cases h
        exact gr_z (v := (63 : Int32)) (by decide) hx hb hr hlocks hK hP hD hS d_Scribe_signOfStatement_47
def K_Scribe_signOfOp (l : Launch) (D : va_G) (cI cC : ClassId) : Prop :=
  ∀ (a0 : Int32) (q : Int32), g_Scribe_signOfOp a0 = some q → ∀ (sz : Nat), Met l y_Scribe_signOfOp w_Scribe_signOfOp ({ frames := 0, cells := 0, slots := 0, locals := 0 }) (va_Pc [.int a0] (gB D (gT cI cC) [] sz)) (gQi D (gT cI cC) q [] (va_A [] sz)) 0 0 (va_A [] sz)
set_option maxHeartbeats 4000000 in
set_option maxRecDepth 100000 in
theorem c_Scribe_signOfOp (l : Launch) (D : va_G) (cI cC : ClassId) : K_Scribe_signOfOp l D cI cC := by
  intro a0 q h sz
  refine Met.ofW (cc := k_Scribe_signOfOp) (maxL := 1) (ret := (some .char)) (by decide) rfl ?_
  intro p e s m args below meth c s₁ B hml hv
  obtain ⟨rfl, hsz, hP, hK, hD0⟩ := hv
  have hx := B.exec
  have hb := B.bytes
  have hr := B.returns
  have hts : ∀ w ∈ lw_t, w.before ([.int a0] : List Value).toArray s = true := fun w h => atoms_spec (ws := w_Scribe_signOfOp) B.pre w (List.mem_cons_of_mem _ h)
  have hown : s.vm.findClass R_Scribe = some m.cls := findClass_of_methodNamed B.named
  have hlocks := B.notSynchronized
  subst hsz
  have hD := hD0.self (sz := s.heap.size)
  generalize hAe : va_A [] s.heap.size = A at hD ⊢
  have hA : ∀ q : Nat, s.heap.size ≤ q → A q := fun q h => by rw [← hAe]; exact Or.inr h
  have hS : va_S A s.heap s.heap [] := va_S.rf
  have hP : va_P D vwCl [] s.heap := hP
  have hl := lv_entry ([.int a0]) (n := 1) (Nat.le_of_ble_eq_true rfl)
  rw [lg_entry_eq]
  generalize (lg_sl ([.int a0]) ++ List.replicate (1 - (lg_sl ([.int a0])).length) Slot.unset).toArray = ls at hl ⊢
  have hl : lv_has ls 1 [(0, .int a0)] := hl
  unfold g_Scribe_signOfOp at h
  refine lv_iload_n hx hb d_Scribe_signOfOp_0 rfl (lv_at hl 0 rfl) ?_
  by_cases e_3 : a0 = (3 : Int32)
  · have h := g_t e_3 h
    have ei : (a0).toInt = 3 := by rw [e_3]; decide
    refine lv_tableIn (tgt := 28) (off := 27) hx hb d_Scribe_signOfOp_1 (by rw [ei]; decide) (by rw [ei]; decide) (by rw [ei]; rfl) (by decide) ?_
    refine lv_bipush (v := (43 : Int32)) hx hb d_Scribe_signOfOp_28 (by decide) ?_
    cases h
    exact gr_z (v := (43 : Int32)) (by decide) hx hb hr hlocks hK hP hD hS d_Scribe_signOfOp_30
  · have h := g_f e_3 h
    have n_3 := lv_neT (a := 3) e_3 (by decide)
    by_cases e_4 : a0 = (4 : Int32)
    · have h := g_t e_4 h
      have ei : (a0).toInt = 4 := by rw [e_4]; decide
      refine lv_tableIn (tgt := 31) (off := 30) hx hb d_Scribe_signOfOp_1 (by rw [ei]; decide) (by rw [ei]; decide) (by rw [ei]; rfl) (by decide) ?_
      refine lv_bipush (v := (45 : Int32)) hx hb d_Scribe_signOfOp_31 (by decide) ?_
      cases h
      exact gr_z (v := (45 : Int32)) (by decide) hx hb hr hlocks hK hP hD hS d_Scribe_signOfOp_33
    · have h := g_f e_4 h
      have n_4 := lv_neT (a := 4) e_4 (by decide)
      by_cases e_5 : a0 = (5 : Int32)
      · have h := g_t e_5 h
        have ei : (a0).toInt = 5 := by rw [e_5]; decide
        refine lv_tableIn (tgt := 34) (off := 33) hx hb d_Scribe_signOfOp_1 (by rw [ei]; decide) (by rw [ei]; decide) (by rw [ei]; rfl) (by decide) ?_
        refine lv_bipush (v := (42 : Int32)) hx hb d_Scribe_signOfOp_34 (by decide) ?_
        cases h
        exact gr_z (v := (42 : Int32)) (by decide) hx hb hr hlocks hK hP hD hS d_Scribe_signOfOp_36
      · have h := g_f e_5 h
        have n_5 := lv_neT (a := 5) e_5 (by decide)
        refine lv_tableOut (tgt := 37) hx hb d_Scribe_signOfOp_1 (by omega) (by decide) ?_
        refine lv_bipush (v := (60 : Int32)) hx hb d_Scribe_signOfOp_37 (by decide) ?_
        cases h
        exact gr_z (v := (60 : Int32)) (by decide) hx hb hr hlocks hK hP hD hS d_Scribe_signOfOp_39
def K_Scribe_writeNumber (l : Launch) (D : va_G) (cI cC : ClassId) : Prop :=
  ∀ (hx1 hx1_row : Nat) (x1_R : Nat) (x1_size : Int32) (x1_row : Nat → Int32) (a1 : Int32) (q : (Nat → Int32) × Int32), g_Scribe_writeNumber x1_R x1_row x1_size a1 = some q → ∀ (sz : Nat), Met l y_Scribe_writeNumber w_Scribe_writeNumber ({ frames := 1, cells := 0, slots := 0, locals := 21 }) (va_Pc [.ref hx1, .int a1] (gB D (gT cI cC) [(hx1, .inr (0, [.ref hx1_row, .int x1_size])), (hx1_row, .inl (cC, x1_R, .inl x1_row))] sz)) (gQv D (gT cI cC) [(hx1, .inr (0, [.ref hx1_row, .int q.2])), (hx1_row, .inl (cC, x1_R, .inl q.1))] (va_A [(hx1, .inr (0, [.ref hx1_row, .int x1_size])), (hx1_row, .inl (cC, x1_R, .inl x1_row))] sz)) 0 0 (va_A [(hx1, .inr (0, [.ref hx1_row, .int x1_size])), (hx1_row, .inl (cC, x1_R, .inl x1_row))] sz)
set_option maxHeartbeats 4000000 in
set_option maxRecDepth 100000 in
theorem c_Scribe_writeNumber (l : Launch) (D : va_G) (cI cC : ClassId) : K_Scribe_writeNumber l D cI cC := by
  intro hx1 hx1_row x1_R x1_size x1_row a1 q h sz
  refine Met.ofW (cc := k_Scribe_writeNumber) (maxL := 2) (ret := none) (by decide) rfl ?_
  intro p e s m args below meth c s₁ B hml hv
  obtain ⟨rfl, hsz, hP, hK, hD0⟩ := hv
  have hx := B.exec
  have hb := B.bytes
  have hr := B.returns
  have hts : ∀ w ∈ lw_t, w.before ([.ref hx1, .int a1] : List Value).toArray s = true := fun w h => atoms_spec (ws := w_Scribe_writeNumber) B.pre w (List.mem_cons_of_mem _ h)
  have hown : s.vm.findClass R_Scribe = some m.cls := findClass_of_methodNamed B.named
  have hlocks := B.notSynchronized
  subst hsz
  have hD := hD0.self (sz := s.heap.size)
  generalize hAe : va_A [(hx1, .inr (0, [.ref hx1_row, .int x1_size])), (hx1_row, .inl (cC, x1_R, .inl x1_row))] s.heap.size = A at hD ⊢
  have hA : ∀ q : Nat, s.heap.size ≤ q → A q := fun q h => by rw [← hAe]; exact Or.inr h
  have hS : va_S A s.heap s.heap [] := va_S.rf
  have hP : va_P D vwCl [(hx1, .inr (0, [.ref hx1_row, .int x1_size])), (hx1_row, .inl (cC, x1_R, .inl x1_row))] s.heap := hP
  have hl := lv_entry ([.ref hx1, .int a1]) (n := 2) (Nat.le_of_ble_eq_true rfl)
  rw [lg_entry_eq]
  generalize (lg_sl ([.ref hx1, .int a1]) ++ List.replicate (2 - (lg_sl ([.ref hx1, .int a1])).length) Slot.unset).toArray = ls at hl ⊢
  have hl : lv_has ls 2 [(0, .ref hx1), (1, .int a1)] := hl
  unfold g_Scribe_writeNumber at h
  refine lv_iload_n hx hb d_Scribe_writeNumber_0 rfl (lv_at hl 1 rfl) ?_
  refine lv_bipush (v := (10 : Int32)) hx hb d_Scribe_writeNumber_1 (by decide) ?_
  refine lv_icmp_lt (tgt := 18) hx hb d_Scribe_writeNumber_3 (by decide) (fun ec => ?_) (fun ec => ?_)
  · have h := g_t ec h
    refine lv_aload_n hx hb d_Scribe_writeNumber_18 rfl (lv_at hl 0 rfl) ?_
    refine lv_bipush (v := (48 : Int32)) hx hb d_Scribe_writeNumber_19 (by decide) ?_
    refine lv_iload_n hx hb d_Scribe_writeNumber_21 rfl (lv_at hl 1 rfl) ?_
    refine lv_bipush (v := (10 : Int32)) hx hb d_Scribe_writeNumber_22 (by decide) ?_
    refine lv_irem hx hb d_Scribe_writeNumber_24 (by decide) ?_
    refine lv_iadd hx hb d_Scribe_writeNumber_25 ?_
    obtain ⟨q1, hc, h⟩ := g_bd h
    refine gk_i (va_runV (As := [.int ((48 : Int32) + (a1 - a1 / (10 : Int32) * (10 : Int32)))]) (rest := []) ⟨hx, hb, hml, hown, hts⟩ (c_Characters_add l D cI cC hx1 hx1_row x1_R x1_size x1_row ((48 : Int32) + (a1 - a1 / (10 : Int32) * (10 : Int32))) q1 hc _) (cwV 1 hts (gG_V mt_2_115 mt_2_116 mt_2_117 mt_1_4 mt_2_118) rfl rfl rfl (by decide +kernel) ⟨Nat.le_of_ble_eq_true rfl, Nat.le_of_ble_eq_true rfl⟩) (gpV hK hP hD [0, 1] rfl (by decide) (ci := 0) 0 rfl rfl) rfl rfl hl.1 rfl (lv_room (Nat.le_of_ble_eq_true rfl)) d_Scribe_writeNumber_26 ⟨Nat.zero_le _, Nat.zero_le _⟩) hK hP hD hS hA [0, 1] rfl (by decide) rfl rfl (fun H locs (hP : va_P D vwCl [(hx1, .inr (0, [.ref hx1_row, .int q1.2.2])), (hx1_row, .inl (cC, x1_R, .inl q1.2.1))] H) (hD : va_D A [(hx1, .inr (0, [.ref hx1_row, .int q1.2.2])), (hx1_row, .inl (cC, x1_R, .inl q1.2.1))]) hS => ?_)
    refine lv_pop hx hb d_Scribe_writeNumber_29 rfl ?_
    cases h
    exact gr_v hx hb hr hlocks hK hP hD hS d_Scribe_writeNumber_30
  · have h := g_f ec h
    refine lv_aload_n hx hb d_Scribe_writeNumber_6 rfl (lv_at hl 0 rfl) ?_
    refine lv_bipush (v := (48 : Int32)) hx hb d_Scribe_writeNumber_7 (by decide) ?_
    refine lv_iload_n hx hb d_Scribe_writeNumber_9 rfl (lv_at hl 1 rfl) ?_
    refine lv_bipush (v := (10 : Int32)) hx hb d_Scribe_writeNumber_10 (by decide) ?_
    refine lv_idiv hx hb d_Scribe_writeNumber_12 (by decide) ?_
    refine lv_iadd hx hb d_Scribe_writeNumber_13 ?_
    obtain ⟨q2, hc, h⟩ := g_bd h
    refine gk_i (va_runV (As := [.int ((48 : Int32) + (a1 / (10 : Int32)))]) (rest := []) ⟨hx, hb, hml, hown, hts⟩ (c_Characters_add l D cI cC hx1 hx1_row x1_R x1_size x1_row ((48 : Int32) + (a1 / (10 : Int32))) q2 hc _) (cwV 1 hts (gG_V mt_2_115 mt_2_116 mt_2_117 mt_1_4 mt_2_118) rfl rfl rfl (by decide +kernel) ⟨Nat.le_of_ble_eq_true rfl, Nat.le_of_ble_eq_true rfl⟩) (gpV hK hP hD [0, 1] rfl (by decide) (ci := 0) 0 rfl rfl) rfl rfl hl.1 rfl (lv_room (Nat.le_of_ble_eq_true rfl)) d_Scribe_writeNumber_14 ⟨Nat.zero_le _, Nat.zero_le _⟩) hK hP hD hS hA [0, 1] rfl (by decide) rfl rfl (fun H locs (hP : va_P D vwCl [(hx1, .inr (0, [.ref hx1_row, .int q2.2.2])), (hx1_row, .inl (cC, x1_R, .inl q2.2.1))] H) (hD : va_D A [(hx1, .inr (0, [.ref hx1_row, .int q2.2.2])), (hx1_row, .inl (cC, x1_R, .inl q2.2.1))]) hS => ?_)
    refine lv_pop hx hb d_Scribe_writeNumber_17 rfl ?_
    refine lv_aload_n hx hb d_Scribe_writeNumber_18 rfl (lv_at hl 0 rfl) ?_
    refine lv_bipush (v := (48 : Int32)) hx hb d_Scribe_writeNumber_19 (by decide) ?_
    refine lv_iload_n hx hb d_Scribe_writeNumber_21 rfl (lv_at hl 1 rfl) ?_
    refine lv_bipush (v := (10 : Int32)) hx hb d_Scribe_writeNumber_22 (by decide) ?_
    refine lv_irem hx hb d_Scribe_writeNumber_24 (by decide) ?_
    refine lv_iadd hx hb d_Scribe_writeNumber_25 ?_
    obtain ⟨q3, hc, h⟩ := g_bd h
    refine gk_i (va_runV (As := [.int ((48 : Int32) + (a1 - a1 / (10 : Int32) * (10 : Int32)))]) (rest := []) ⟨hx, hb, hml, hown, hts⟩ (c_Characters_add l D cI cC hx1 hx1_row x1_R q2.2.2 q2.2.1 ((48 : Int32) + (a1 - a1 / (10 : Int32) * (10 : Int32))) q3 hc _) (cwV 1 hts (gG_V mt_2_115 mt_2_116 mt_2_117 mt_1_4 mt_2_118) rfl rfl rfl (by decide +kernel) ⟨Nat.le_of_ble_eq_true rfl, Nat.le_of_ble_eq_true rfl⟩) (gpV hK hP hD [0, 1] rfl (by decide) (ci := 0) 0 rfl rfl) rfl rfl hl.1 rfl (lv_room (Nat.le_of_ble_eq_true rfl)) d_Scribe_writeNumber_26 ⟨Nat.zero_le _, Nat.zero_le _⟩) hK hP hD hS hA [0, 1] rfl (by decide) rfl rfl (fun H locs (hP : va_P D vwCl [(hx1, .inr (0, [.ref hx1_row, .int q3.2.2])), (hx1_row, .inl (cC, x1_R, .inl q3.2.1))] H) (hD : va_D A [(hx1, .inr (0, [.ref hx1_row, .int q3.2.2])), (hx1_row, .inl (cC, x1_R, .inl q3.2.1))]) hS => ?_)
    refine lv_pop hx hb d_Scribe_writeNumber_29 rfl ?_
    cases h
    exact gr_v hx hb hr hlocks hK hP hD hS d_Scribe_writeNumber_30
def K_Tree_leftOf (l : Launch) (D : va_G) (cI cC : ClassId) : Prop :=
  ∀ (ht ht_source ht_kinds ht_froms ht_marks ht_ends ht_parts ht_others ht_followers ht_begins : Nat) (t_size : Int32) (t_depth : Int32) (t_knot : Int32) (t_stands : Int32) (t_begins : Nat → Int32) (a1 : Int32) (q : Int32), g_Tree_leftOf t_begins a1 = some q → ∀ (sz : Nat), Met l y_Tree_leftOf w_Tree_leftOf ({ frames := 0, cells := 0, slots := 0, locals := 0 }) (va_Pc [.ref ht, .int a1] (gB D (gT cI cC) [(ht, .inr (4, [.ref ht_source, .ref ht_kinds, .ref ht_froms, .ref ht_marks, .ref ht_ends, .ref ht_parts, .ref ht_others, .ref ht_followers, .ref ht_begins, .int t_size, .int t_depth, .int t_knot, .int t_stands])), (ht_begins, .inl (cI, 30, .inl t_begins))] sz)) (gQi D (gT cI cC) q [(ht, .inr (4, [.ref ht_source, .ref ht_kinds, .ref ht_froms, .ref ht_marks, .ref ht_ends, .ref ht_parts, .ref ht_others, .ref ht_followers, .ref ht_begins, .int t_size, .int t_depth, .int t_knot, .int t_stands])), (ht_begins, .inl (cI, 30, .inl t_begins))] (va_A [(ht, .inr (4, [.ref ht_source, .ref ht_kinds, .ref ht_froms, .ref ht_marks, .ref ht_ends, .ref ht_parts, .ref ht_others, .ref ht_followers, .ref ht_begins, .int t_size, .int t_depth, .int t_knot, .int t_stands])), (ht_begins, .inl (cI, 30, .inl t_begins))] sz)) 0 0 (va_A [(ht, .inr (4, [.ref ht_source, .ref ht_kinds, .ref ht_froms, .ref ht_marks, .ref ht_ends, .ref ht_parts, .ref ht_others, .ref ht_followers, .ref ht_begins, .int t_size, .int t_depth, .int t_knot, .int t_stands])), (ht_begins, .inl (cI, 30, .inl t_begins))] sz)
set_option maxHeartbeats 4000000 in
set_option maxRecDepth 100000 in
theorem c_Tree_leftOf (l : Launch) (D : va_G) (cI cC : ClassId) : K_Tree_leftOf l D cI cC := by
  intro ht ht_source ht_kinds ht_froms ht_marks ht_ends ht_parts ht_others ht_followers ht_begins t_size t_depth t_knot t_stands t_begins a1 q h sz
  refine Met.ofW (cc := k_Tree_leftOf) (maxL := 2) (ret := (some .int)) (by decide) rfl ?_
  intro p e s m args below meth c s₁ B hml hv
  obtain ⟨rfl, hsz, hP, hK, hD0⟩ := hv
  have hx := B.exec
  have hb := B.bytes
  have hr := B.returns
  have hts : ∀ w ∈ lw_t, w.before ([.ref ht, .int a1] : List Value).toArray s = true := fun w h => atoms_spec (ws := w_Tree_leftOf) B.pre w (List.mem_cons_of_mem _ h)
  have hown : s.vm.findClass R_Tree = some m.cls := findClass_of_methodNamed B.named
  have hlocks := B.notSynchronized
  subst hsz
  have hD := hD0.self (sz := s.heap.size)
  generalize hAe : va_A [(ht, .inr (4, [.ref ht_source, .ref ht_kinds, .ref ht_froms, .ref ht_marks, .ref ht_ends, .ref ht_parts, .ref ht_others, .ref ht_followers, .ref ht_begins, .int t_size, .int t_depth, .int t_knot, .int t_stands])), (ht_begins, .inl (cI, 30, .inl t_begins))] s.heap.size = A at hD ⊢
  have hA : ∀ q : Nat, s.heap.size ≤ q → A q := fun q h => by rw [← hAe]; exact Or.inr h
  have hS : va_S A s.heap s.heap [] := va_S.rf
  have f_42 := hts _ mt_1_90
  have hP : va_P D vwCl [(ht, .inr (4, [.ref ht_source, .ref ht_kinds, .ref ht_froms, .ref ht_marks, .ref ht_ends, .ref ht_parts, .ref ht_others, .ref ht_followers, .ref ht_begins, .int t_size, .int t_depth, .int t_knot, .int t_stands])), (ht_begins, .inl (cI, 30, .inl t_begins))] s.heap := hP
  have hl := lv_entry ([.ref ht, .int a1]) (n := 2) (Nat.le_of_ble_eq_true rfl)
  rw [lg_entry_eq]
  generalize (lg_sl ([.ref ht, .int a1]) ++ List.replicate (2 - (lg_sl ([.ref ht, .int a1])).length) Slot.unset).toArray = ls at hl ⊢
  have hl : lv_has ls 2 [(0, .ref ht), (1, .int a1)] := hl
  unfold g_Tree_leftOf at h
  refine lv_iload_n hx hb d_Tree_leftOf_0 rfl (lv_at hl 1 rfl) ?_
  refine lv_iconst (v := (1 : Int32)) hx hb d_Tree_leftOf_1 (by decide) ?_
  refine lv_icmp_lt (tgt := 24) hx hb d_Tree_leftOf_2 (by decide) (fun ec => ?_) (fun ec => ?_)
  · have h := g_t ec h
    refine lv_iconst (v := (-1 : Int32)) hx hb d_Tree_leftOf_24 (by decide) ?_
    cases h
    exact gr_i hx hb hr hlocks hK hP hD hS d_Tree_leftOf_25
  · have h := g_f ec h
    refine lv_iload_n hx hb d_Tree_leftOf_5 rfl (lv_at hl 1 rfl) ?_
    refine lv_bipush (v := (30 : Int32)) hx hb d_Tree_leftOf_6 (by decide) ?_
    refine lv_icmp_gt (tgt := 24) hx hb d_Tree_leftOf_8 (by decide) (fun ec => ?_) (fun ec => ?_)
    · have h := g_t ec h
      refine lv_iconst (v := (-1 : Int32)) hx hb d_Tree_leftOf_24 (by decide) ?_
      cases h
      exact gr_i hx hb hr hlocks hK hP hD hS d_Tree_leftOf_25
    · have h := g_f ec h
      refine lv_aload_n hx hb d_Tree_leftOf_11 rfl (lv_at hl 0 rfl) ?_
      refine va_get (D := D) (ci := 4) (v := .ref ht_begins) (C := R_Tree) (T := F_Tree) (N := 13) hx hb hts u_Tree hown hK hP 0 rfl rfl 8 (by decide) f_42 (fun _ h9 => h9) rfl d_Tree_leftOf_12 ?_
      refine lv_iload_n hx hb d_Tree_leftOf_15 rfl (lv_at hl 1 rfl) ?_
      refine lv_iconst (v := (1 : Int32)) hx hb d_Tree_leftOf_16 (by decide) ?_
      refine lv_isub hx hb d_Tree_leftOf_17 ?_
      obtain ⟨hi, h⟩ := g_ck h
      refine va_iald hx hb hK hP 1 0 rfl rfl hi d_Tree_leftOf_18 ?_
      refine lv_iconst (v := (1 : Int32)) hx hb d_Tree_leftOf_19 (by decide) ?_
      refine lv_isub hx hb d_Tree_leftOf_20 ?_
      refine lv_goto (tgt := 25) hx hb d_Tree_leftOf_21 (by decide) ?_
      cases h
      exact gr_i hx hb hr hlocks hK hP hD hS d_Tree_leftOf_25
def K_Tree_source (l : Launch) (D : va_G) (cI cC : ClassId) : Prop :=
  ∀ (ht ht_source ht_kinds ht_froms ht_marks ht_ends ht_parts ht_others ht_followers ht_begins : Nat) (t_size : Int32) (t_depth : Int32) (t_knot : Int32) (t_stands : Int32), ∀ (sz : Nat), Met l y_Tree_source w_Tree_source ({ frames := 0, cells := 0, slots := 0, locals := 0 }) (va_Pc [.ref ht] (gB D (gT cI cC) [(ht, .inr (4, [.ref ht_source, .ref ht_kinds, .ref ht_froms, .ref ht_marks, .ref ht_ends, .ref ht_parts, .ref ht_others, .ref ht_followers, .ref ht_begins, .int t_size, .int t_depth, .int t_knot, .int t_stands]))] sz)) (gQr D (gT cI cC) ht_source [(ht, .inr (4, [.ref ht_source, .ref ht_kinds, .ref ht_froms, .ref ht_marks, .ref ht_ends, .ref ht_parts, .ref ht_others, .ref ht_followers, .ref ht_begins, .int t_size, .int t_depth, .int t_knot, .int t_stands]))] (va_A [(ht, .inr (4, [.ref ht_source, .ref ht_kinds, .ref ht_froms, .ref ht_marks, .ref ht_ends, .ref ht_parts, .ref ht_others, .ref ht_followers, .ref ht_begins, .int t_size, .int t_depth, .int t_knot, .int t_stands]))] sz)) 0 0 (va_A [(ht, .inr (4, [.ref ht_source, .ref ht_kinds, .ref ht_froms, .ref ht_marks, .ref ht_ends, .ref ht_parts, .ref ht_others, .ref ht_followers, .ref ht_begins, .int t_size, .int t_depth, .int t_knot, .int t_stands]))] sz)
set_option maxHeartbeats 4000000 in
set_option maxRecDepth 100000 in
theorem c_Tree_source (l : Launch) (D : va_G) (cI cC : ClassId) : K_Tree_source l D cI cC := by
  intro ht ht_source ht_kinds ht_froms ht_marks ht_ends ht_parts ht_others ht_followers ht_begins t_size t_depth t_knot t_stands sz
  refine Met.ofW (cc := k_Tree_source) (maxL := 1) (ret := (some (.object "SourceDesk$Listing"))) (by decide) rfl ?_
  intro p e s m args below meth c s₁ B hml hv
  obtain ⟨rfl, hsz, hP, hK, hD0⟩ := hv
  have hx := B.exec
  have hb := B.bytes
  have hr := B.returns
  have hts : ∀ w ∈ lw_t, w.before ([.ref ht] : List Value).toArray s = true := fun w h => atoms_spec (ws := w_Tree_source) B.pre w (List.mem_cons_of_mem _ h)
  have hown : s.vm.findClass R_Tree = some m.cls := findClass_of_methodNamed B.named
  have hlocks := B.notSynchronized
  subst hsz
  have hD := hD0.self (sz := s.heap.size)
  generalize hAe : va_A [(ht, .inr (4, [.ref ht_source, .ref ht_kinds, .ref ht_froms, .ref ht_marks, .ref ht_ends, .ref ht_parts, .ref ht_others, .ref ht_followers, .ref ht_begins, .int t_size, .int t_depth, .int t_knot, .int t_stands]))] s.heap.size = A at hD ⊢
  have hA : ∀ q : Nat, s.heap.size ≤ q → A q := fun q h => by rw [← hAe]; exact Or.inr h
  have hS : va_S A s.heap s.heap [] := va_S.rf
  have f_14 := hts _ mt_1_82
  have hP : va_P D vwCl [(ht, .inr (4, [.ref ht_source, .ref ht_kinds, .ref ht_froms, .ref ht_marks, .ref ht_ends, .ref ht_parts, .ref ht_others, .ref ht_followers, .ref ht_begins, .int t_size, .int t_depth, .int t_knot, .int t_stands]))] s.heap := hP
  have hl := lv_entry ([.ref ht]) (n := 1) (Nat.le_of_ble_eq_true rfl)
  rw [lg_entry_eq]
  generalize (lg_sl ([.ref ht]) ++ List.replicate (1 - (lg_sl ([.ref ht])).length) Slot.unset).toArray = ls at hl ⊢
  have hl : lv_has ls 1 [(0, .ref ht)] := hl
  refine lv_aload_n hx hb d_Tree_source_0 rfl (lv_at hl 0 rfl) ?_
  refine va_get (D := D) (ci := 4) (v := .ref ht_source) (C := R_Tree) (T := F_Tree) (N := 13) hx hb hts u_Tree hown hK hP 0 rfl rfl 0 (by decide) f_14 (fun _ h9 => h9) rfl d_Tree_source_1 ?_
  exact gr_r hx hb hr (Or.inl ⟨_, rfl⟩) hlocks hK hP hD hS d_Tree_source_4
def K_Scribe_writeExpression (l : Launch) (D : va_G) (cI cC : ClassId) (f : Nat → (Nat → Int32) → (Nat → Int32) → Int32 → (Nat → Int32) → (Nat → Int32) → Int32 → Int32 → Int32 → Option ((Nat → Int32) × Int32)) (n : Nat) : Prop :=
  ∀ (hx1 hx2 hx1_source hx1_kinds hx1_froms hx1_marks hx1_ends hx1_parts hx1_others hx1_followers hx1_begins hx1_source_ops hx1_source_numbers hx1_source_heights hx2_row : Nat) (x2_R : Nat) (x1_size : Int32) (x1_depth : Int32) (x1_knot : Int32) (x1_stands : Int32) (x1_source_size : Int32) (x1_source_ops : Nat → Int32) (x1_source_numbers : Nat → Int32) (x1_begins : Nat → Int32) (x2_size : Int32) (x2_row : Nat → Int32) (a2 a3 : Int32) (q : (Nat → Int32) × Int32), f x2_R x1_source_ops x1_source_numbers x1_source_size x1_begins x2_row x2_size a2 a3 = some q → ∀ (sz : Nat), Met l y_Scribe_writeExpression w_Scribe_writeExpression ({ frames := 2 + n, cells := 0, slots := 0, locals := 42 + 24 * n }) (va_Pc [.ref hx1, .ref hx2, .int a2, .int a3] (gB D (gT cI cC) [(hx1, .inr (4, [.ref hx1_source, .ref hx1_kinds, .ref hx1_froms, .ref hx1_marks, .ref hx1_ends, .ref hx1_parts, .ref hx1_others, .ref hx1_followers, .ref hx1_begins, .int x1_size, .int x1_depth, .int x1_knot, .int x1_stands])), (hx1_source, .inr (2, [.ref hx1_source_ops, .ref hx1_source_numbers, .ref hx1_source_heights, .int x1_source_size])), (hx1_source_ops, .inl (cI, 30, .inl x1_source_ops)), (hx1_source_numbers, .inl (cI, 30, .inl x1_source_numbers)), (hx1_begins, .inl (cI, 30, .inl x1_begins)), (hx2, .inr (0, [.ref hx2_row, .int x2_size])), (hx2_row, .inl (cC, x2_R, .inl x2_row))] sz)) (gQv D (gT cI cC) [(hx1, .inr (4, [.ref hx1_source, .ref hx1_kinds, .ref hx1_froms, .ref hx1_marks, .ref hx1_ends, .ref hx1_parts, .ref hx1_others, .ref hx1_followers, .ref hx1_begins, .int x1_size, .int x1_depth, .int x1_knot, .int x1_stands])), (hx1_source, .inr (2, [.ref hx1_source_ops, .ref hx1_source_numbers, .ref hx1_source_heights, .int x1_source_size])), (hx1_source_ops, .inl (cI, 30, .inl x1_source_ops)), (hx1_source_numbers, .inl (cI, 30, .inl x1_source_numbers)), (hx1_begins, .inl (cI, 30, .inl x1_begins)), (hx2, .inr (0, [.ref hx2_row, .int q.2])), (hx2_row, .inl (cC, x2_R, .inl q.1))] (va_A [(hx1, .inr (4, [.ref hx1_source, .ref hx1_kinds, .ref hx1_froms, .ref hx1_marks, .ref hx1_ends, .ref hx1_parts, .ref hx1_others, .ref hx1_followers, .ref hx1_begins, .int x1_size, .int x1_depth, .int x1_knot, .int x1_stands])), (hx1_source, .inr (2, [.ref hx1_source_ops, .ref hx1_source_numbers, .ref hx1_source_heights, .int x1_source_size])), (hx1_source_ops, .inl (cI, 30, .inl x1_source_ops)), (hx1_source_numbers, .inl (cI, 30, .inl x1_source_numbers)), (hx1_begins, .inl (cI, 30, .inl x1_begins)), (hx2, .inr (0, [.ref hx2_row, .int x2_size])), (hx2_row, .inl (cC, x2_R, .inl x2_row))] sz)) 0 0 (va_A [(hx1, .inr (4, [.ref hx1_source, .ref hx1_kinds, .ref hx1_froms, .ref hx1_marks, .ref hx1_ends, .ref hx1_parts, .ref hx1_others, .ref hx1_followers, .ref hx1_begins, .int x1_size, .int x1_depth, .int x1_knot, .int x1_stands])), (hx1_source, .inr (2, [.ref hx1_source_ops, .ref hx1_source_numbers, .ref hx1_source_heights, .int x1_source_size])), (hx1_source_ops, .inl (cI, 30, .inl x1_source_ops)), (hx1_source_numbers, .inl (cI, 30, .inl x1_source_numbers)), (hx1_begins, .inl (cI, 30, .inl x1_begins)), (hx2, .inr (0, [.ref hx2_row, .int x2_size])), (hx2_row, .inl (cC, x2_R, .inl x2_row))] sz)
set_option maxHeartbeats 4000000 in
set_option maxRecDepth 100000 in
theorem cb_Scribe_writeExpression (l : Launch) (D : va_G) (cI cC : ClassId) (f_Scribe_writeExpression : Nat → (Nat → Int32) → (Nat → Int32) → Int32 → (Nat → Int32) → (Nat → Int32) → Int32 → Int32 → Int32 → Option ((Nat → Int32) × Int32)) (n : Nat) (H_Scribe_writeExpression : K_Scribe_writeExpression l D cI cC f_Scribe_writeExpression n) : K_Scribe_writeExpression l D cI cC (gb_Scribe_writeExpression f_Scribe_writeExpression) (n + 1) := by
  intro hx1 hx2 hx1_source hx1_kinds hx1_froms hx1_marks hx1_ends hx1_parts hx1_others hx1_followers hx1_begins hx1_source_ops hx1_source_numbers hx1_source_heights hx2_row x2_R x1_size x1_depth x1_knot x1_stands x1_source_size x1_source_ops x1_source_numbers x1_begins x2_size x2_row a2 a3 q h sz
  refine Met.ofW (cc := k_Scribe_writeExpression) (maxL := 5) (ret := none) (by decide) rfl ?_
  intro p e s m args below meth c s₁ B hml hv
  obtain ⟨rfl, hsz, hP, hK, hD0⟩ := hv
  have hx := B.exec
  have hb := B.bytes
  have hr := B.returns
  have hts : ∀ w ∈ lw_t, w.before ([.ref hx1, .ref hx2, .int a2, .int a3] : List Value).toArray s = true := fun w h => atoms_spec (ws := w_Scribe_writeExpression) B.pre w (List.mem_cons_of_mem _ h)
  have hown : s.vm.findClass R_Scribe = some m.cls := findClass_of_methodNamed B.named
  have hlocks := B.notSynchronized
  subst hsz
  have hD := hD0.self (sz := s.heap.size)
  generalize hAe : va_A [(hx1, .inr (4, [.ref hx1_source, .ref hx1_kinds, .ref hx1_froms, .ref hx1_marks, .ref hx1_ends, .ref hx1_parts, .ref hx1_others, .ref hx1_followers, .ref hx1_begins, .int x1_size, .int x1_depth, .int x1_knot, .int x1_stands])), (hx1_source, .inr (2, [.ref hx1_source_ops, .ref hx1_source_numbers, .ref hx1_source_heights, .int x1_source_size])), (hx1_source_ops, .inl (cI, 30, .inl x1_source_ops)), (hx1_source_numbers, .inl (cI, 30, .inl x1_source_numbers)), (hx1_begins, .inl (cI, 30, .inl x1_begins)), (hx2, .inr (0, [.ref hx2_row, .int x2_size])), (hx2_row, .inl (cC, x2_R, .inl x2_row))] s.heap.size = A at hD ⊢
  have hA : ∀ q : Nat, s.heap.size ≤ q → A q := fun q h => by rw [← hAe]; exact Or.inr h
  have hS : va_S A s.heap s.heap [] := va_S.rf
  have hP : va_P D vwCl [(hx1, .inr (4, [.ref hx1_source, .ref hx1_kinds, .ref hx1_froms, .ref hx1_marks, .ref hx1_ends, .ref hx1_parts, .ref hx1_others, .ref hx1_followers, .ref hx1_begins, .int x1_size, .int x1_depth, .int x1_knot, .int x1_stands])), (hx1_source, .inr (2, [.ref hx1_source_ops, .ref hx1_source_numbers, .ref hx1_source_heights, .int x1_source_size])), (hx1_source_ops, .inl (cI, 30, .inl x1_source_ops)), (hx1_source_numbers, .inl (cI, 30, .inl x1_source_numbers)), (hx1_begins, .inl (cI, 30, .inl x1_begins)), (hx2, .inr (0, [.ref hx2_row, .int x2_size])), (hx2_row, .inl (cC, x2_R, .inl x2_row))] s.heap := hP
  have hl := lv_entry ([.ref hx1, .ref hx2, .int a2, .int a3]) (n := 5) (Nat.le_of_ble_eq_true rfl)
  rw [lg_entry_eq]
  generalize (lg_sl ([.ref hx1, .ref hx2, .int a2, .int a3]) ++ List.replicate (5 - (lg_sl ([.ref hx1, .ref hx2, .int a2, .int a3])).length) Slot.unset).toArray = ls at hl ⊢
  have hl : lv_has ls 5 [(0, .ref hx1), (1, .ref hx2), (2, .int a2), (3, .int a3)] := hl
  unfold gb_Scribe_writeExpression at h
  refine lv_aload_n hx hb d_Scribe_writeExpression_0 rfl (lv_at hl 0 rfl) ?_
  refine gk_r (va_runV (As := []) (rest := []) ⟨hx, hb, hml, hown, hts⟩ (c_Tree_source l D cI cC hx1 hx1_source hx1_kinds hx1_froms hx1_marks hx1_ends hx1_parts hx1_others hx1_followers hx1_begins x1_size x1_depth x1_knot x1_stands _) (cwV 0 hts (gG_V mt_2_110 mt_2_111 mt_2_112 mt_1_5 mt_2_113) rfl rfl rfl (by decide +kernel) ⟨(show (0) + 1 ≤ 2 + (n + 1) by omega), (show 8 + (1 + 11) + (0) ≤ 42 + 24 * (n + 1) by omega)⟩) (gpV hK hP hD [0] rfl (by decide) (ci := 4) 0 rfl rfl) rfl rfl hl.1 rfl (lv_room (Nat.le_of_ble_eq_true rfl)) d_Scribe_writeExpression_1 ⟨Nat.zero_le _, Nat.zero_le _⟩) hK hP hD hS hA [0] rfl (by decide) rfl rfl (fun H locs (hP : va_P D vwCl [(hx1, .inr (4, [.ref hx1_source, .ref hx1_kinds, .ref hx1_froms, .ref hx1_marks, .ref hx1_ends, .ref hx1_parts, .ref hx1_others, .ref hx1_followers, .ref hx1_begins, .int x1_size, .int x1_depth, .int x1_knot, .int x1_stands])), (hx1_source, .inr (2, [.ref hx1_source_ops, .ref hx1_source_numbers, .ref hx1_source_heights, .int x1_source_size])), (hx1_source_ops, .inl (cI, 30, .inl x1_source_ops)), (hx1_source_numbers, .inl (cI, 30, .inl x1_source_numbers)), (hx1_begins, .inl (cI, 30, .inl x1_begins)), (hx2, .inr (0, [.ref hx2_row, .int x2_size])), (hx2_row, .inl (cC, x2_R, .inl x2_row))] H) (hD : va_D A [(hx1, .inr (4, [.ref hx1_source, .ref hx1_kinds, .ref hx1_froms, .ref hx1_marks, .ref hx1_ends, .ref hx1_parts, .ref hx1_others, .ref hx1_followers, .ref hx1_begins, .int x1_size, .int x1_depth, .int x1_knot, .int x1_stands])), (hx1_source, .inr (2, [.ref hx1_source_ops, .ref hx1_source_numbers, .ref hx1_source_heights, .int x1_source_size])), (hx1_source_ops, .inl (cI, 30, .inl x1_source_ops)), (hx1_source_numbers, .inl (cI, 30, .inl x1_source_numbers)), (hx1_begins, .inl (cI, 30, .inl x1_begins)), (hx2, .inr (0, [.ref hx2_row, .int x2_size])), (hx2_row, .inl (cC, x2_R, .inl x2_row))]) hS => ?_)
  refine lv_iload_n hx hb d_Scribe_writeExpression_4 rfl (lv_at hl 2 rfl) ?_
  obtain ⟨q2, hc, h⟩ := g_bd h
  refine gk_i (va_runV (As := [.int a2]) (rest := []) ⟨hx, hb, hml, hown, hts⟩ (c_Listing_holds l D cI cC hx1_source hx1_source_ops hx1_source_numbers hx1_source_heights x1_source_size a2 q2 hc _) (cwV 1 hts (gG_V mt_2_125 mt_1_188 mt_1_189 mt_1_2 mt_1_190) rfl rfl rfl (by decide +kernel) ⟨(show (0) + 1 ≤ 2 + (n + 1) by omega), (show 8 + (2 + 11) + (0) ≤ 42 + 24 * (n + 1) by omega)⟩) (gpV hK hP hD [1] rfl (by decide) (ci := 2) 1 rfl rfl) rfl rfl hl.1 rfl (lv_room (Nat.le_of_ble_eq_true rfl)) d_Scribe_writeExpression_5 ⟨Nat.zero_le _, Nat.zero_le _⟩) hK hP hD hS hA [1] rfl (by decide) rfl rfl (fun H locs (hP : va_P D vwCl [(hx1, .inr (4, [.ref hx1_source, .ref hx1_kinds, .ref hx1_froms, .ref hx1_marks, .ref hx1_ends, .ref hx1_parts, .ref hx1_others, .ref hx1_followers, .ref hx1_begins, .int x1_size, .int x1_depth, .int x1_knot, .int x1_stands])), (hx1_source, .inr (2, [.ref hx1_source_ops, .ref hx1_source_numbers, .ref hx1_source_heights, .int x1_source_size])), (hx1_source_ops, .inl (cI, 30, .inl x1_source_ops)), (hx1_source_numbers, .inl (cI, 30, .inl x1_source_numbers)), (hx1_begins, .inl (cI, 30, .inl x1_begins)), (hx2, .inr (0, [.ref hx2_row, .int x2_size])), (hx2_row, .inl (cC, x2_R, .inl x2_row))] H) (hD : va_D A [(hx1, .inr (4, [.ref hx1_source, .ref hx1_kinds, .ref hx1_froms, .ref hx1_marks, .ref hx1_ends, .ref hx1_parts, .ref hx1_others, .ref hx1_followers, .ref hx1_begins, .int x1_size, .int x1_depth, .int x1_knot, .int x1_stands])), (hx1_source, .inr (2, [.ref hx1_source_ops, .ref hx1_source_numbers, .ref hx1_source_heights, .int x1_source_size])), (hx1_source_ops, .inl (cI, 30, .inl x1_source_ops)), (hx1_source_numbers, .inl (cI, 30, .inl x1_source_numbers)), (hx1_begins, .inl (cI, 30, .inl x1_begins)), (hx2, .inr (0, [.ref hx2_row, .int x2_size])), (hx2_row, .inl (cC, x2_R, .inl x2_row))]) hS => ?_)
  refine lv_if_eq (tgt := 17) hx hb d_Scribe_writeExpression_8 (by decide) (fun ec => ?_) (fun ec => ?_)
  · have h := g_t ec h
    cases h
    exact gr_v hx hb hr hlocks hK hP hD hS d_Scribe_writeExpression_17
  · have h := g_f ec h
    refine lv_iload_n hx hb d_Scribe_writeExpression_11 rfl (lv_at hl 3 rfl) ?_
    refine lv_bipush (v := (30 : Int32)) hx hb d_Scribe_writeExpression_12 (by decide) ?_
    refine lv_icmp_le (tgt := 18) hx hb d_Scribe_writeExpression_14 (by decide) (fun ec => ?_) (fun ec => ?_)
    · have h := g_t ec h
      refine lv_aload_n hx hb d_Scribe_writeExpression_18 rfl (lv_at hl 0 rfl) ?_
      refine gk_r (va_runV (As := []) (rest := []) ⟨hx, hb, hml, hown, hts⟩ (c_Tree_source l D cI cC hx1 hx1_source hx1_kinds hx1_froms hx1_marks hx1_ends hx1_parts hx1_others hx1_followers hx1_begins x1_size x1_depth x1_knot x1_stands _) (cwV 0 hts (gG_V mt_2_110 mt_2_111 mt_2_112 mt_1_5 mt_2_113) rfl rfl rfl (by decide +kernel) ⟨(show (0) + 1 ≤ 2 + (n + 1) by omega), (show 8 + (1 + 11) + (0) ≤ 42 + 24 * (n + 1) by omega)⟩) (gpV hK hP hD [0] rfl (by decide) (ci := 4) 0 rfl rfl) rfl rfl hl.1 rfl (lv_room (Nat.le_of_ble_eq_true rfl)) d_Scribe_writeExpression_19 ⟨Nat.zero_le _, Nat.zero_le _⟩) hK hP hD hS hA [0] rfl (by decide) rfl rfl (fun H locs (hP : va_P D vwCl [(hx1, .inr (4, [.ref hx1_source, .ref hx1_kinds, .ref hx1_froms, .ref hx1_marks, .ref hx1_ends, .ref hx1_parts, .ref hx1_others, .ref hx1_followers, .ref hx1_begins, .int x1_size, .int x1_depth, .int x1_knot, .int x1_stands])), (hx1_source, .inr (2, [.ref hx1_source_ops, .ref hx1_source_numbers, .ref hx1_source_heights, .int x1_source_size])), (hx1_source_ops, .inl (cI, 30, .inl x1_source_ops)), (hx1_source_numbers, .inl (cI, 30, .inl x1_source_numbers)), (hx1_begins, .inl (cI, 30, .inl x1_begins)), (hx2, .inr (0, [.ref hx2_row, .int x2_size])), (hx2_row, .inl (cC, x2_R, .inl x2_row))] H) (hD : va_D A [(hx1, .inr (4, [.ref hx1_source, .ref hx1_kinds, .ref hx1_froms, .ref hx1_marks, .ref hx1_ends, .ref hx1_parts, .ref hx1_others, .ref hx1_followers, .ref hx1_begins, .int x1_size, .int x1_depth, .int x1_knot, .int x1_stands])), (hx1_source, .inr (2, [.ref hx1_source_ops, .ref hx1_source_numbers, .ref hx1_source_heights, .int x1_source_size])), (hx1_source_ops, .inl (cI, 30, .inl x1_source_ops)), (hx1_source_numbers, .inl (cI, 30, .inl x1_source_numbers)), (hx1_begins, .inl (cI, 30, .inl x1_begins)), (hx2, .inr (0, [.ref hx2_row, .int x2_size])), (hx2_row, .inl (cC, x2_R, .inl x2_row))]) hS => ?_)
      refine lv_iload_n hx hb d_Scribe_writeExpression_22 rfl (lv_at hl 2 rfl) ?_
      obtain ⟨q4, hc, h⟩ := g_bd h
      refine gk_i (va_runV (As := [.int a2]) (rest := []) ⟨hx, hb, hml, hown, hts⟩ (c_Listing_op l D cI cC hx1_source hx1_source_ops hx1_source_numbers hx1_source_heights 30 x1_source_size x1_source_ops a2 q4 hc _) (cwV 1 hts (gG_V mt_2_126 mt_1_233 mt_1_234 mt_1_2 mt_1_235) rfl rfl rfl (by decide +kernel) ⟨(show (1) + 1 ≤ 2 + (n + 1) by omega), (show 8 + (2 + 11) + (21) ≤ 42 + 24 * (n + 1) by omega)⟩) (gpV hK hP hD [1, 2] rfl (by decide) (ci := 2) 1 rfl rfl) rfl rfl hl.1 rfl (lv_room (Nat.le_of_ble_eq_true rfl)) d_Scribe_writeExpression_23 ⟨Nat.zero_le _, Nat.zero_le _⟩) hK hP hD hS hA [1, 2] rfl (by decide) rfl rfl (fun H locs (hP : va_P D vwCl [(hx1, .inr (4, [.ref hx1_source, .ref hx1_kinds, .ref hx1_froms, .ref hx1_marks, .ref hx1_ends, .ref hx1_parts, .ref hx1_others, .ref hx1_followers, .ref hx1_begins, .int x1_size, .int x1_depth, .int x1_knot, .int x1_stands])), (hx1_source, .inr (2, [.ref hx1_source_ops, .ref hx1_source_numbers, .ref hx1_source_heights, .int x1_source_size])), (hx1_source_ops, .inl (cI, 30, .inl x1_source_ops)), (hx1_source_numbers, .inl (cI, 30, .inl x1_source_numbers)), (hx1_begins, .inl (cI, 30, .inl x1_begins)), (hx2, .inr (0, [.ref hx2_row, .int x2_size])), (hx2_row, .inl (cC, x2_R, .inl x2_row))] H) (hD : va_D A [(hx1, .inr (4, [.ref hx1_source, .ref hx1_kinds, .ref hx1_froms, .ref hx1_marks, .ref hx1_ends, .ref hx1_parts, .ref hx1_others, .ref hx1_followers, .ref hx1_begins, .int x1_size, .int x1_depth, .int x1_knot, .int x1_stands])), (hx1_source, .inr (2, [.ref hx1_source_ops, .ref hx1_source_numbers, .ref hx1_source_heights, .int x1_source_size])), (hx1_source_ops, .inl (cI, 30, .inl x1_source_ops)), (hx1_source_numbers, .inl (cI, 30, .inl x1_source_numbers)), (hx1_begins, .inl (cI, 30, .inl x1_begins)), (hx2, .inr (0, [.ref hx2_row, .int x2_size])), (hx2_row, .inl (cC, x2_R, .inl x2_row))]) hS => ?_)
      refine lv_istore (lv' := [(4, .int q4), (0, .ref hx1), (1, .ref hx2), (2, .int a2), (3, .int a3)]) hx hb d_Scribe_writeExpression_26 hl (by decide) rfl (fun ls hl => ?_)
      refine lv_iload hx hb d_Scribe_writeExpression_28 (lv_at hl 0 rfl) ?_
      refine lv_if_ne (tgt := 48) hx hb d_Scribe_writeExpression_30 (by decide) (fun ec => ?_) (fun ec => ?_)
      · have h := g_f ec h
        refine lv_iload hx hb d_Scribe_writeExpression_48 (lv_at hl 0 rfl) ?_
        refine lv_iconst (v := (1 : Int32)) hx hb d_Scribe_writeExpression_50 (by decide) ?_
        refine lv_icmp_ne (tgt := 73) hx hb d_Scribe_writeExpression_51 (by decide) (fun ec => ?_) (fun ec => ?_)
        · have h := g_f ec h
          refine lv_iload hx hb d_Scribe_writeExpression_73 (lv_at hl 0 rfl) ?_
          refine lv_bipush (v := (7 : Int32)) hx hb d_Scribe_writeExpression_75 (by decide) ?_
          refine lv_icmp_ne (tgt := 101) hx hb d_Scribe_writeExpression_77 (by decide) (fun ec => ?_) (fun ec => ?_)
          · have h := g_f ec h
            refine lv_aload_n hx hb d_Scribe_writeExpression_101 rfl (lv_at hl 2 rfl) ?_
            refine lv_bipush (v := (40 : Int32)) hx hb d_Scribe_writeExpression_102 (by decide) ?_
            obtain ⟨q5, hc, h⟩ := g_bd h
            refine gk_i (va_runV (As := [.int (40 : Int32)]) (rest := []) ⟨hx, hb, hml, hown, hts⟩ (c_Characters_add l D cI cC hx2 hx2_row x2_R x2_size x2_row (40 : Int32) q5 hc _) (cwV 1 hts (gG_V mt_2_115 mt_2_116 mt_2_117 mt_1_4 mt_2_118) rfl rfl rfl (by decide +kernel) ⟨(show (0) + 1 ≤ 2 + (n + 1) by omega), (show 8 + (2 + 11) + (0) ≤ 42 + 24 * (n + 1) by omega)⟩) (gpV hK hP hD [5, 6] rfl (by decide) (ci := 0) 5 rfl rfl) rfl rfl hl.1 rfl (lv_room (Nat.le_of_ble_eq_true rfl)) d_Scribe_writeExpression_104 ⟨Nat.zero_le _, Nat.zero_le _⟩) hK hP hD hS hA [5, 6] rfl (by decide) rfl rfl (fun H locs (hP : va_P D vwCl [(hx1, .inr (4, [.ref hx1_source, .ref hx1_kinds, .ref hx1_froms, .ref hx1_marks, .ref hx1_ends, .ref hx1_parts, .ref hx1_others, .ref hx1_followers, .ref hx1_begins, .int x1_size, .int x1_depth, .int x1_knot, .int x1_stands])), (hx1_source, .inr (2, [.ref hx1_source_ops, .ref hx1_source_numbers, .ref hx1_source_heights, .int x1_source_size])), (hx1_source_ops, .inl (cI, 30, .inl x1_source_ops)), (hx1_source_numbers, .inl (cI, 30, .inl x1_source_numbers)), (hx1_begins, .inl (cI, 30, .inl x1_begins)), (hx2, .inr (0, [.ref hx2_row, .int q5.2.2])), (hx2_row, .inl (cC, x2_R, .inl q5.2.1))] H) (hD : va_D A [(hx1, .inr (4, [.ref hx1_source, .ref hx1_kinds, .ref hx1_froms, .ref hx1_marks, .ref hx1_ends, .ref hx1_parts, .ref hx1_others, .ref hx1_followers, .ref hx1_begins, .int x1_size, .int x1_depth, .int x1_knot, .int x1_stands])), (hx1_source, .inr (2, [.ref hx1_source_ops, .ref hx1_source_numbers, .ref hx1_source_heights, .int x1_source_size])), (hx1_source_ops, .inl (cI, 30, .inl x1_source_ops)), (hx1_source_numbers, .inl (cI, 30, .inl x1_source_numbers)), (hx1_begins, .inl (cI, 30, .inl x1_begins)), (hx2, .inr (0, [.ref hx2_row, .int q5.2.2])), (hx2_row, .inl (cC, x2_R, .inl q5.2.1))]) hS => ?_)
            refine lv_pop hx hb d_Scribe_writeExpression_107 rfl ?_
            refine lv_aload_n hx hb d_Scribe_writeExpression_108 rfl (lv_at hl 1 rfl) ?_
            refine lv_aload_n hx hb d_Scribe_writeExpression_109 rfl (lv_at hl 2 rfl) ?_
            refine lv_aload_n hx hb d_Scribe_writeExpression_110 rfl (lv_at hl 1 rfl) ?_
            refine lv_iload_n hx hb d_Scribe_writeExpression_111 rfl (lv_at hl 3 rfl) ?_
            obtain ⟨q6, hc, h⟩ := g_bd h
            refine gk_i (va_runV (As := [.int a2]) (rest := [.ref hx2, .ref hx1]) ⟨hx, hb, hml, hown, hts⟩ (c_Tree_leftOf l D cI cC hx1 hx1_source hx1_kinds hx1_froms hx1_marks hx1_ends hx1_parts hx1_others hx1_followers hx1_begins x1_size x1_depth x1_knot x1_stands x1_begins a2 q6 hc _) (cwV 1 hts (gG_V mt_2_130 mt_2_64 mt_2_65 mt_1_5 mt_2_66) rfl rfl rfl (by decide +kernel) ⟨(show (0) + 1 ≤ 2 + (n + 1) by omega), (show 8 + (2 + 11) + (0) ≤ 42 + 24 * (n + 1) by omega)⟩) (gpV hK hP hD [0, 4] rfl (by decide) (ci := 4) 0 rfl rfl) rfl rfl hl.1 rfl (lv_room (Nat.le_of_ble_eq_true rfl)) d_Scribe_writeExpression_112 ⟨Nat.zero_le _, Nat.zero_le _⟩) hK hP hD hS hA [0, 4] rfl (by decide) rfl rfl (fun H locs (hP : va_P D vwCl [(hx1, .inr (4, [.ref hx1_source, .ref hx1_kinds, .ref hx1_froms, .ref hx1_marks, .ref hx1_ends, .ref hx1_parts, .ref hx1_others, .ref hx1_followers, .ref hx1_begins, .int x1_size, .int x1_depth, .int x1_knot, .int x1_stands])), (hx1_source, .inr (2, [.ref hx1_source_ops, .ref hx1_source_numbers, .ref hx1_source_heights, .int x1_source_size])), (hx1_source_ops, .inl (cI, 30, .inl x1_source_ops)), (hx1_source_numbers, .inl (cI, 30, .inl x1_source_numbers)), (hx1_begins, .inl (cI, 30, .inl x1_begins)), (hx2, .inr (0, [.ref hx2_row, .int q5.2.2])), (hx2_row, .inl (cC, x2_R, .inl q5.2.1))] H) (hD : va_D A [(hx1, .inr (4, [.ref hx1_source, .ref hx1_kinds, .ref hx1_froms, .ref hx1_marks, .ref hx1_ends, .ref hx1_parts, .ref hx1_others, .ref hx1_followers, .ref hx1_begins, .int x1_size, .int x1_depth, .int x1_knot, .int x1_stands])), (hx1_source, .inr (2, [.ref hx1_source_ops, .ref hx1_source_numbers, .ref hx1_source_heights, .int x1_source_size])), (hx1_source_ops, .inl (cI, 30, .inl x1_source_ops)), (hx1_source_numbers, .inl (cI, 30, .inl x1_source_numbers)), (hx1_begins, .inl (cI, 30, .inl x1_begins)), (hx2, .inr (0, [.ref hx2_row, .int q5.2.2])), (hx2_row, .inl (cC, x2_R, .inl q5.2.1))]) hS => ?_)
            refine lv_iload_n hx hb d_Scribe_writeExpression_115 rfl (lv_at hl 4 rfl) ?_
            refine lv_iconst (v := (1 : Int32)) hx hb d_Scribe_writeExpression_116 (by decide) ?_
            refine lv_iadd hx hb d_Scribe_writeExpression_117 ?_
            obtain ⟨q7, hc, h⟩ := g_bd h
            refine gk_v (va_runS (As := [.ref hx1, .ref hx2, .int q6, .int (a3 + (1 : Int32))]) (rest := []) ⟨hx, hb, hml, hown, hts⟩ (H_Scribe_writeExpression hx1 hx2 hx1_source hx1_kinds hx1_froms hx1_marks hx1_ends hx1_parts hx1_others hx1_followers hx1_begins hx1_source_ops hx1_source_numbers hx1_source_heights hx2_row x2_R x1_size x1_depth x1_knot x1_stands x1_source_size x1_source_ops x1_source_numbers x1_begins q5.2.2 q5.2.1 q6 (a3 + (1 : Int32)) q7 hc _) (va_cwS 4 hts (gG_S mt_2_122 mt_2_123 mt_1_10 mt_2_124) rfl rfl rfl (by decide +kernel) ⟨(show (2 + n) + 1 ≤ 2 + (n + 1) by omega), (show 8 + (5 + 11) + (42 + 24 * n) ≤ 42 + 24 * (n + 1) by omega)⟩) (gpS hK hP hD [0, 1, 2, 3, 4, 5, 6] rfl (by decide)) rfl rfl hl.1 rfl (lv_room (Nat.le_of_ble_eq_true rfl)) d_Scribe_writeExpression_118 ⟨Nat.zero_le _, Nat.zero_le _⟩) hK hP hD hS hA [0, 1, 2, 3, 4, 5, 6] rfl (by decide) rfl rfl (fun H locs (hP : va_P D vwCl [(hx1, .inr (4, [.ref hx1_source, .ref hx1_kinds, .ref hx1_froms, .ref hx1_marks, .ref hx1_ends, .ref hx1_parts, .ref hx1_others, .ref hx1_followers, .ref hx1_begins, .int x1_size, .int x1_depth, .int x1_knot, .int x1_stands])), (hx1_source, .inr (2, [.ref hx1_source_ops, .ref hx1_source_numbers, .ref hx1_source_heights, .int x1_source_size])), (hx1_source_ops, .inl (cI, 30, .inl x1_source_ops)), (hx1_source_numbers, .inl (cI, 30, .inl x1_source_numbers)), (hx1_begins, .inl (cI, 30, .inl x1_begins)), (hx2, .inr (0, [.ref hx2_row, .int q7.2])), (hx2_row, .inl (cC, x2_R, .inl q7.1))] H) (hD : va_D A [(hx1, .inr (4, [.ref hx1_source, .ref hx1_kinds, .ref hx1_froms, .ref hx1_marks, .ref hx1_ends, .ref hx1_parts, .ref hx1_others, .ref hx1_followers, .ref hx1_begins, .int x1_size, .int x1_depth, .int x1_knot, .int x1_stands])), (hx1_source, .inr (2, [.ref hx1_source_ops, .ref hx1_source_numbers, .ref hx1_source_heights, .int x1_source_size])), (hx1_source_ops, .inl (cI, 30, .inl x1_source_ops)), (hx1_source_numbers, .inl (cI, 30, .inl x1_source_numbers)), (hx1_begins, .inl (cI, 30, .inl x1_begins)), (hx2, .inr (0, [.ref hx2_row, .int q7.2])), (hx2_row, .inl (cC, x2_R, .inl q7.1))]) hS => ?_)
            refine lv_aload_n hx hb d_Scribe_writeExpression_121 rfl (lv_at hl 2 rfl) ?_
            refine lv_iload hx hb d_Scribe_writeExpression_122 (lv_at hl 0 rfl) ?_
            obtain ⟨q8, hc, h⟩ := g_bd h
            refine gk_i (va_runS (As := [.int q4]) (rest := [.ref hx2]) ⟨hx, hb, hml, hown, hts⟩ (c_Scribe_signOfOp l D cI cC q4 q8 hc _) (va_cwS 1 hts (gG_S mt_2_131 mt_2_132 mt_1_10 mt_2_133) rfl rfl rfl (by decide +kernel) ⟨(show (0) + 1 ≤ 2 + (n + 1) by omega), (show 8 + (1 + 11) + (0) ≤ 42 + 24 * (n + 1) by omega)⟩) (gpS hK hP hD [] rfl (by decide)) rfl rfl hl.1 rfl (lv_room (Nat.le_of_ble_eq_true rfl)) d_Scribe_writeExpression_124 ⟨Nat.zero_le _, Nat.zero_le _⟩) hK hP hD hS hA [] rfl (by decide) rfl rfl (fun H locs (hP : va_P D vwCl [(hx1, .inr (4, [.ref hx1_source, .ref hx1_kinds, .ref hx1_froms, .ref hx1_marks, .ref hx1_ends, .ref hx1_parts, .ref hx1_others, .ref hx1_followers, .ref hx1_begins, .int x1_size, .int x1_depth, .int x1_knot, .int x1_stands])), (hx1_source, .inr (2, [.ref hx1_source_ops, .ref hx1_source_numbers, .ref hx1_source_heights, .int x1_source_size])), (hx1_source_ops, .inl (cI, 30, .inl x1_source_ops)), (hx1_source_numbers, .inl (cI, 30, .inl x1_source_numbers)), (hx1_begins, .inl (cI, 30, .inl x1_begins)), (hx2, .inr (0, [.ref hx2_row, .int q7.2])), (hx2_row, .inl (cC, x2_R, .inl q7.1))] H) (hD : va_D A [(hx1, .inr (4, [.ref hx1_source, .ref hx1_kinds, .ref hx1_froms, .ref hx1_marks, .ref hx1_ends, .ref hx1_parts, .ref hx1_others, .ref hx1_followers, .ref hx1_begins, .int x1_size, .int x1_depth, .int x1_knot, .int x1_stands])), (hx1_source, .inr (2, [.ref hx1_source_ops, .ref hx1_source_numbers, .ref hx1_source_heights, .int x1_source_size])), (hx1_source_ops, .inl (cI, 30, .inl x1_source_ops)), (hx1_source_numbers, .inl (cI, 30, .inl x1_source_numbers)), (hx1_begins, .inl (cI, 30, .inl x1_begins)), (hx2, .inr (0, [.ref hx2_row, .int q7.2])), (hx2_row, .inl (cC, x2_R, .inl q7.1))]) hS => ?_)
            obtain ⟨q9, hc, h⟩ := g_bd h
            refine gk_i (va_runV (As := [.int q8]) (rest := []) ⟨hx, hb, hml, hown, hts⟩ (c_Characters_add l D cI cC hx2 hx2_row x2_R q7.2 q7.1 q8 q9 hc _) (cwV 1 hts (gG_V mt_2_115 mt_2_116 mt_2_117 mt_1_4 mt_2_118) rfl rfl rfl (by decide +kernel) ⟨(show (0) + 1 ≤ 2 + (n + 1) by omega), (show 8 + (2 + 11) + (0) ≤ 42 + 24 * (n + 1) by omega)⟩) (gpV hK hP hD [5, 6] rfl (by decide) (ci := 0) 5 rfl rfl) rfl rfl hl.1 rfl (lv_room (Nat.le_of_ble_eq_true rfl)) d_Scribe_writeExpression_127 ⟨Nat.zero_le _, Nat.zero_le _⟩) hK hP hD hS hA [5, 6] rfl (by decide) rfl rfl (fun H locs (hP : va_P D vwCl [(hx1, .inr (4, [.ref hx1_source, .ref hx1_kinds, .ref hx1_froms, .ref hx1_marks, .ref hx1_ends, .ref hx1_parts, .ref hx1_others, .ref hx1_followers, .ref hx1_begins, .int x1_size, .int x1_depth, .int x1_knot, .int x1_stands])), (hx1_source, .inr (2, [.ref hx1_source_ops, .ref hx1_source_numbers, .ref hx1_source_heights, .int x1_source_size])), (hx1_source_ops, .inl (cI, 30, .inl x1_source_ops)), (hx1_source_numbers, .inl (cI, 30, .inl x1_source_numbers)), (hx1_begins, .inl (cI, 30, .inl x1_begins)), (hx2, .inr (0, [.ref hx2_row, .int q9.2.2])), (hx2_row, .inl (cC, x2_R, .inl q9.2.1))] H) (hD : va_D A [(hx1, .inr (4, [.ref hx1_source, .ref hx1_kinds, .ref hx1_froms, .ref hx1_marks, .ref hx1_ends, .ref hx1_parts, .ref hx1_others, .ref hx1_followers, .ref hx1_begins, .int x1_size, .int x1_depth, .int x1_knot, .int x1_stands])), (hx1_source, .inr (2, [.ref hx1_source_ops, .ref hx1_source_numbers, .ref hx1_source_heights, .int x1_source_size])), (hx1_source_ops, .inl (cI, 30, .inl x1_source_ops)), (hx1_source_numbers, .inl (cI, 30, .inl x1_source_numbers)), (hx1_begins, .inl (cI, 30, .inl x1_begins)), (hx2, .inr (0, [.ref hx2_row, .int q9.2.2])), (hx2_row, .inl (cC, x2_R, .inl q9.2.1))]) hS => ?_)
            refine lv_pop hx hb d_Scribe_writeExpression_130 rfl ?_
            refine lv_aload_n hx hb d_Scribe_writeExpression_131 rfl (lv_at hl 1 rfl) ?_
            refine lv_aload_n hx hb d_Scribe_writeExpression_132 rfl (lv_at hl 2 rfl) ?_
            refine lv_iload_n hx hb d_Scribe_writeExpression_133 rfl (lv_at hl 3 rfl) ?_
            refine lv_iconst (v := (1 : Int32)) hx hb d_Scribe_writeExpression_134 (by decide) ?_
            refine lv_isub hx hb d_Scribe_writeExpression_135 ?_
            refine lv_iload_n hx hb d_Scribe_writeExpression_136 rfl (lv_at hl 4 rfl) ?_
            refine lv_iconst (v := (1 : Int32)) hx hb d_Scribe_writeExpression_137 (by decide) ?_
            refine lv_iadd hx hb d_Scribe_writeExpression_138 ?_
            obtain ⟨q10, hc, h⟩ := g_bd h
            refine gk_v (va_runS (As := [.ref hx1, .ref hx2, .int (a2 - (1 : Int32)), .int (a3 + (1 : Int32))]) (rest := []) ⟨hx, hb, hml, hown, hts⟩ (H_Scribe_writeExpression hx1 hx2 hx1_source hx1_kinds hx1_froms hx1_marks hx1_ends hx1_parts hx1_others hx1_followers hx1_begins hx1_source_ops hx1_source_numbers hx1_source_heights hx2_row x2_R x1_size x1_depth x1_knot x1_stands x1_source_size x1_source_ops x1_source_numbers x1_begins q9.2.2 q9.2.1 (a2 - (1 : Int32)) (a3 + (1 : Int32)) q10 hc _) (va_cwS 4 hts (gG_S mt_2_122 mt_2_123 mt_1_10 mt_2_124) rfl rfl rfl (by decide +kernel) ⟨(show (2 + n) + 1 ≤ 2 + (n + 1) by omega), (show 8 + (5 + 11) + (42 + 24 * n) ≤ 42 + 24 * (n + 1) by omega)⟩) (gpS hK hP hD [0, 1, 2, 3, 4, 5, 6] rfl (by decide)) rfl rfl hl.1 rfl (lv_room (Nat.le_of_ble_eq_true rfl)) d_Scribe_writeExpression_139 ⟨Nat.zero_le _, Nat.zero_le _⟩) hK hP hD hS hA [0, 1, 2, 3, 4, 5, 6] rfl (by decide) rfl rfl (fun H locs (hP : va_P D vwCl [(hx1, .inr (4, [.ref hx1_source, .ref hx1_kinds, .ref hx1_froms, .ref hx1_marks, .ref hx1_ends, .ref hx1_parts, .ref hx1_others, .ref hx1_followers, .ref hx1_begins, .int x1_size, .int x1_depth, .int x1_knot, .int x1_stands])), (hx1_source, .inr (2, [.ref hx1_source_ops, .ref hx1_source_numbers, .ref hx1_source_heights, .int x1_source_size])), (hx1_source_ops, .inl (cI, 30, .inl x1_source_ops)), (hx1_source_numbers, .inl (cI, 30, .inl x1_source_numbers)), (hx1_begins, .inl (cI, 30, .inl x1_begins)), (hx2, .inr (0, [.ref hx2_row, .int q10.2])), (hx2_row, .inl (cC, x2_R, .inl q10.1))] H) (hD : va_D A [(hx1, .inr (4, [.ref hx1_source, .ref hx1_kinds, .ref hx1_froms, .ref hx1_marks, .ref hx1_ends, .ref hx1_parts, .ref hx1_others, .ref hx1_followers, .ref hx1_begins, .int x1_size, .int x1_depth, .int x1_knot, .int x1_stands])), (hx1_source, .inr (2, [.ref hx1_source_ops, .ref hx1_source_numbers, .ref hx1_source_heights, .int x1_source_size])), (hx1_source_ops, .inl (cI, 30, .inl x1_source_ops)), (hx1_source_numbers, .inl (cI, 30, .inl x1_source_numbers)), (hx1_begins, .inl (cI, 30, .inl x1_begins)), (hx2, .inr (0, [.ref hx2_row, .int q10.2])), (hx2_row, .inl (cC, x2_R, .inl q10.1))]) hS => ?_)
            refine lv_aload_n hx hb d_Scribe_writeExpression_142 rfl (lv_at hl 2 rfl) ?_
            refine lv_bipush (v := (41 : Int32)) hx hb d_Scribe_writeExpression_143 (by decide) ?_
            obtain ⟨q11, hc, h⟩ := g_bd h
            refine gk_i (va_runV (As := [.int (41 : Int32)]) (rest := []) ⟨hx, hb, hml, hown, hts⟩ (c_Characters_add l D cI cC hx2 hx2_row x2_R q10.2 q10.1 (41 : Int32) q11 hc _) (cwV 1 hts (gG_V mt_2_115 mt_2_116 mt_2_117 mt_1_4 mt_2_118) rfl rfl rfl (by decide +kernel) ⟨(show (0) + 1 ≤ 2 + (n + 1) by omega), (show 8 + (2 + 11) + (0) ≤ 42 + 24 * (n + 1) by omega)⟩) (gpV hK hP hD [5, 6] rfl (by decide) (ci := 0) 5 rfl rfl) rfl rfl hl.1 rfl (lv_room (Nat.le_of_ble_eq_true rfl)) d_Scribe_writeExpression_145 ⟨Nat.zero_le _, Nat.zero_le _⟩) hK hP hD hS hA [5, 6] rfl (by decide) rfl rfl (fun H locs (hP : va_P D vwCl [(hx1, .inr (4, [.ref hx1_source, .ref hx1_kinds, .ref hx1_froms, .ref hx1_marks, .ref hx1_ends, .ref hx1_parts, .ref hx1_others, .ref hx1_followers, .ref hx1_begins, .int x1_size, .int x1_depth, .int x1_knot, .int x1_stands])), (hx1_source, .inr (2, [.ref hx1_source_ops, .ref hx1_source_numbers, .ref hx1_source_heights, .int x1_source_size])), (hx1_source_ops, .inl (cI, 30, .inl x1_source_ops)), (hx1_source_numbers, .inl (cI, 30, .inl x1_source_numbers)), (hx1_begins, .inl (cI, 30, .inl x1_begins)), (hx2, .inr (0, [.ref hx2_row, .int q11.2.2])), (hx2_row, .inl (cC, x2_R, .inl q11.2.1))] H) (hD : va_D A [(hx1, .inr (4, [.ref hx1_source, .ref hx1_kinds, .ref hx1_froms, .ref hx1_marks, .ref hx1_ends, .ref hx1_parts, .ref hx1_others, .ref hx1_followers, .ref hx1_begins, .int x1_size, .int x1_depth, .int x1_knot, .int x1_stands])), (hx1_source, .inr (2, [.ref hx1_source_ops, .ref hx1_source_numbers, .ref hx1_source_heights, .int x1_source_size])), (hx1_source_ops, .inl (cI, 30, .inl x1_source_ops)), (hx1_source_numbers, .inl (cI, 30, .inl x1_source_numbers)), (hx1_begins, .inl (cI, 30, .inl x1_begins)), (hx2, .inr (0, [.ref hx2_row, .int q11.2.2])), (hx2_row, .inl (cC, x2_R, .inl q11.2.1))]) hS => ?_)
            refine lv_pop hx hb d_Scribe_writeExpression_148 rfl ?_
            cases h
            exact gr_v hx hb hr hlocks hK hP hD hS d_Scribe_writeExpression_149
          · have h := g_t ec h
            refine lv_aload_n hx hb d_Scribe_writeExpression_80 rfl (lv_at hl 2 rfl) ?_
            refine lv_bipush (v := (33 : Int32)) hx hb d_Scribe_writeExpression_81 (by decide) ?_
            obtain ⟨q12, hc, h⟩ := g_bd h
            refine gk_i (va_runV (As := [.int (33 : Int32)]) (rest := []) ⟨hx, hb, hml, hown, hts⟩ (c_Characters_add l D cI cC hx2 hx2_row x2_R x2_size x2_row (33 : Int32) q12 hc _) (cwV 1 hts (gG_V mt_2_115 mt_2_116 mt_2_117 mt_1_4 mt_2_118) rfl rfl rfl (by decide +kernel) ⟨(show (0) + 1 ≤ 2 + (n + 1) by omega), (show 8 + (2 + 11) + (0) ≤ 42 + 24 * (n + 1) by omega)⟩) (gpV hK hP hD [5, 6] rfl (by decide) (ci := 0) 5 rfl rfl) rfl rfl hl.1 rfl (lv_room (Nat.le_of_ble_eq_true rfl)) d_Scribe_writeExpression_83 ⟨Nat.zero_le _, Nat.zero_le _⟩) hK hP hD hS hA [5, 6] rfl (by decide) rfl rfl (fun H locs (hP : va_P D vwCl [(hx1, .inr (4, [.ref hx1_source, .ref hx1_kinds, .ref hx1_froms, .ref hx1_marks, .ref hx1_ends, .ref hx1_parts, .ref hx1_others, .ref hx1_followers, .ref hx1_begins, .int x1_size, .int x1_depth, .int x1_knot, .int x1_stands])), (hx1_source, .inr (2, [.ref hx1_source_ops, .ref hx1_source_numbers, .ref hx1_source_heights, .int x1_source_size])), (hx1_source_ops, .inl (cI, 30, .inl x1_source_ops)), (hx1_source_numbers, .inl (cI, 30, .inl x1_source_numbers)), (hx1_begins, .inl (cI, 30, .inl x1_begins)), (hx2, .inr (0, [.ref hx2_row, .int q12.2.2])), (hx2_row, .inl (cC, x2_R, .inl q12.2.1))] H) (hD : va_D A [(hx1, .inr (4, [.ref hx1_source, .ref hx1_kinds, .ref hx1_froms, .ref hx1_marks, .ref hx1_ends, .ref hx1_parts, .ref hx1_others, .ref hx1_followers, .ref hx1_begins, .int x1_size, .int x1_depth, .int x1_knot, .int x1_stands])), (hx1_source, .inr (2, [.ref hx1_source_ops, .ref hx1_source_numbers, .ref hx1_source_heights, .int x1_source_size])), (hx1_source_ops, .inl (cI, 30, .inl x1_source_ops)), (hx1_source_numbers, .inl (cI, 30, .inl x1_source_numbers)), (hx1_begins, .inl (cI, 30, .inl x1_begins)), (hx2, .inr (0, [.ref hx2_row, .int q12.2.2])), (hx2_row, .inl (cC, x2_R, .inl q12.2.1))]) hS => ?_)
            refine lv_pop hx hb d_Scribe_writeExpression_86 rfl ?_
            refine lv_aload_n hx hb d_Scribe_writeExpression_87 rfl (lv_at hl 1 rfl) ?_
            refine lv_aload_n hx hb d_Scribe_writeExpression_88 rfl (lv_at hl 2 rfl) ?_
            refine lv_iload_n hx hb d_Scribe_writeExpression_89 rfl (lv_at hl 3 rfl) ?_
            refine lv_iconst (v := (1 : Int32)) hx hb d_Scribe_writeExpression_90 (by decide) ?_
            refine lv_isub hx hb d_Scribe_writeExpression_91 ?_
            refine lv_iload_n hx hb d_Scribe_writeExpression_92 rfl (lv_at hl 4 rfl) ?_
            refine lv_iconst (v := (1 : Int32)) hx hb d_Scribe_writeExpression_93 (by decide) ?_
            refine lv_iadd hx hb d_Scribe_writeExpression_94 ?_
            obtain ⟨q13, hc, h⟩ := g_bd h
            refine gk_v (va_runS (As := [.ref hx1, .ref hx2, .int (a2 - (1 : Int32)), .int (a3 + (1 : Int32))]) (rest := []) ⟨hx, hb, hml, hown, hts⟩ (H_Scribe_writeExpression hx1 hx2 hx1_source hx1_kinds hx1_froms hx1_marks hx1_ends hx1_parts hx1_others hx1_followers hx1_begins hx1_source_ops hx1_source_numbers hx1_source_heights hx2_row x2_R x1_size x1_depth x1_knot x1_stands x1_source_size x1_source_ops x1_source_numbers x1_begins q12.2.2 q12.2.1 (a2 - (1 : Int32)) (a3 + (1 : Int32)) q13 hc _) (va_cwS 4 hts (gG_S mt_2_122 mt_2_123 mt_1_10 mt_2_124) rfl rfl rfl (by decide +kernel) ⟨(show (2 + n) + 1 ≤ 2 + (n + 1) by omega), (show 8 + (5 + 11) + (42 + 24 * n) ≤ 42 + 24 * (n + 1) by omega)⟩) (gpS hK hP hD [0, 1, 2, 3, 4, 5, 6] rfl (by decide)) rfl rfl hl.1 rfl (lv_room (Nat.le_of_ble_eq_true rfl)) d_Scribe_writeExpression_95 ⟨Nat.zero_le _, Nat.zero_le _⟩) hK hP hD hS hA [0, 1, 2, 3, 4, 5, 6] rfl (by decide) rfl rfl (fun H locs (hP : va_P D vwCl [(hx1, .inr (4, [.ref hx1_source, .ref hx1_kinds, .ref hx1_froms, .ref hx1_marks, .ref hx1_ends, .ref hx1_parts, .ref hx1_others, .ref hx1_followers, .ref hx1_begins, .int x1_size, .int x1_depth, .int x1_knot, .int x1_stands])), (hx1_source, .inr (2, [.ref hx1_source_ops, .ref hx1_source_numbers, .ref hx1_source_heights, .int x1_source_size])), (hx1_source_ops, .inl (cI, 30, .inl x1_source_ops)), (hx1_source_numbers, .inl (cI, 30, .inl x1_source_numbers)), (hx1_begins, .inl (cI, 30, .inl x1_begins)), (hx2, .inr (0, [.ref hx2_row, .int q13.2])), (hx2_row, .inl (cC, x2_R, .inl q13.1))] H) (hD : va_D A [(hx1, .inr (4, [.ref hx1_source, .ref hx1_kinds, .ref hx1_froms, .ref hx1_marks, .ref hx1_ends, .ref hx1_parts, .ref hx1_others, .ref hx1_followers, .ref hx1_begins, .int x1_size, .int x1_depth, .int x1_knot, .int x1_stands])), (hx1_source, .inr (2, [.ref hx1_source_ops, .ref hx1_source_numbers, .ref hx1_source_heights, .int x1_source_size])), (hx1_source_ops, .inl (cI, 30, .inl x1_source_ops)), (hx1_source_numbers, .inl (cI, 30, .inl x1_source_numbers)), (hx1_begins, .inl (cI, 30, .inl x1_begins)), (hx2, .inr (0, [.ref hx2_row, .int q13.2])), (hx2_row, .inl (cC, x2_R, .inl q13.1))]) hS => ?_)
            refine lv_goto (tgt := 149) hx hb d_Scribe_writeExpression_98 (by decide) ?_
            cases h
            exact gr_v hx hb hr hlocks hK hP hD hS d_Scribe_writeExpression_149
        · have h := g_t ec h
          refine lv_aload_n hx hb d_Scribe_writeExpression_54 rfl (lv_at hl 2 rfl) ?_
          refine lv_bipush (v := (97 : Int32)) hx hb d_Scribe_writeExpression_55 (by decide) ?_
          refine lv_aload_n hx hb d_Scribe_writeExpression_57 rfl (lv_at hl 1 rfl) ?_
          refine gk_r (va_runV (As := []) (rest := [.int (97 : Int32), .ref hx2]) ⟨hx, hb, hml, hown, hts⟩ (c_Tree_source l D cI cC hx1 hx1_source hx1_kinds hx1_froms hx1_marks hx1_ends hx1_parts hx1_others hx1_followers hx1_begins x1_size x1_depth x1_knot x1_stands _) (cwV 0 hts (gG_V mt_2_110 mt_2_111 mt_2_112 mt_1_5 mt_2_113) rfl rfl rfl (by decide +kernel) ⟨(show (0) + 1 ≤ 2 + (n + 1) by omega), (show 8 + (1 + 11) + (0) ≤ 42 + 24 * (n + 1) by omega)⟩) (gpV hK hP hD [0] rfl (by decide) (ci := 4) 0 rfl rfl) rfl rfl hl.1 rfl (lv_room (Nat.le_of_ble_eq_true rfl)) d_Scribe_writeExpression_58 ⟨Nat.zero_le _, Nat.zero_le _⟩) hK hP hD hS hA [0] rfl (by decide) rfl rfl (fun H locs (hP : va_P D vwCl [(hx1, .inr (4, [.ref hx1_source, .ref hx1_kinds, .ref hx1_froms, .ref hx1_marks, .ref hx1_ends, .ref hx1_parts, .ref hx1_others, .ref hx1_followers, .ref hx1_begins, .int x1_size, .int x1_depth, .int x1_knot, .int x1_stands])), (hx1_source, .inr (2, [.ref hx1_source_ops, .ref hx1_source_numbers, .ref hx1_source_heights, .int x1_source_size])), (hx1_source_ops, .inl (cI, 30, .inl x1_source_ops)), (hx1_source_numbers, .inl (cI, 30, .inl x1_source_numbers)), (hx1_begins, .inl (cI, 30, .inl x1_begins)), (hx2, .inr (0, [.ref hx2_row, .int x2_size])), (hx2_row, .inl (cC, x2_R, .inl x2_row))] H) (hD : va_D A [(hx1, .inr (4, [.ref hx1_source, .ref hx1_kinds, .ref hx1_froms, .ref hx1_marks, .ref hx1_ends, .ref hx1_parts, .ref hx1_others, .ref hx1_followers, .ref hx1_begins, .int x1_size, .int x1_depth, .int x1_knot, .int x1_stands])), (hx1_source, .inr (2, [.ref hx1_source_ops, .ref hx1_source_numbers, .ref hx1_source_heights, .int x1_source_size])), (hx1_source_ops, .inl (cI, 30, .inl x1_source_ops)), (hx1_source_numbers, .inl (cI, 30, .inl x1_source_numbers)), (hx1_begins, .inl (cI, 30, .inl x1_begins)), (hx2, .inr (0, [.ref hx2_row, .int x2_size])), (hx2_row, .inl (cC, x2_R, .inl x2_row))]) hS => ?_)
          refine lv_iload_n hx hb d_Scribe_writeExpression_61 rfl (lv_at hl 3 rfl) ?_
          obtain ⟨q15, hc, h⟩ := g_bd h
          refine gk_i (va_runV (As := [.int a2]) (rest := [.int (97 : Int32), .ref hx2]) ⟨hx, hb, hml, hown, hts⟩ (c_Listing_number l D cI cC hx1_source hx1_source_ops hx1_source_numbers hx1_source_heights 30 x1_source_size x1_source_numbers a2 q15 hc _) (cwV 1 hts (gG_V mt_2_114 mt_1_237 mt_1_238 mt_1_2 mt_1_239) rfl rfl rfl (by decide +kernel) ⟨(show (1) + 1 ≤ 2 + (n + 1) by omega), (show 8 + (2 + 11) + (21) ≤ 42 + 24 * (n + 1) by omega)⟩) (gpV hK hP hD [1, 3] rfl (by decide) (ci := 2) 1 rfl rfl) rfl rfl hl.1 rfl (lv_room (Nat.le_of_ble_eq_true rfl)) d_Scribe_writeExpression_62 ⟨Nat.zero_le _, Nat.zero_le _⟩) hK hP hD hS hA [1, 3] rfl (by decide) rfl rfl (fun H locs (hP : va_P D vwCl [(hx1, .inr (4, [.ref hx1_source, .ref hx1_kinds, .ref hx1_froms, .ref hx1_marks, .ref hx1_ends, .ref hx1_parts, .ref hx1_others, .ref hx1_followers, .ref hx1_begins, .int x1_size, .int x1_depth, .int x1_knot, .int x1_stands])), (hx1_source, .inr (2, [.ref hx1_source_ops, .ref hx1_source_numbers, .ref hx1_source_heights, .int x1_source_size])), (hx1_source_ops, .inl (cI, 30, .inl x1_source_ops)), (hx1_source_numbers, .inl (cI, 30, .inl x1_source_numbers)), (hx1_begins, .inl (cI, 30, .inl x1_begins)), (hx2, .inr (0, [.ref hx2_row, .int x2_size])), (hx2_row, .inl (cC, x2_R, .inl x2_row))] H) (hD : va_D A [(hx1, .inr (4, [.ref hx1_source, .ref hx1_kinds, .ref hx1_froms, .ref hx1_marks, .ref hx1_ends, .ref hx1_parts, .ref hx1_others, .ref hx1_followers, .ref hx1_begins, .int x1_size, .int x1_depth, .int x1_knot, .int x1_stands])), (hx1_source, .inr (2, [.ref hx1_source_ops, .ref hx1_source_numbers, .ref hx1_source_heights, .int x1_source_size])), (hx1_source_ops, .inl (cI, 30, .inl x1_source_ops)), (hx1_source_numbers, .inl (cI, 30, .inl x1_source_numbers)), (hx1_begins, .inl (cI, 30, .inl x1_begins)), (hx2, .inr (0, [.ref hx2_row, .int x2_size])), (hx2_row, .inl (cC, x2_R, .inl x2_row))]) hS => ?_)
          refine lv_iadd hx hb d_Scribe_writeExpression_65 ?_
          obtain ⟨q16, hc, h⟩ := g_bd h
          refine gk_i (va_runV (As := [.int ((97 : Int32) + q15)]) (rest := []) ⟨hx, hb, hml, hown, hts⟩ (c_Characters_add l D cI cC hx2 hx2_row x2_R x2_size x2_row ((97 : Int32) + q15) q16 hc _) (cwV 1 hts (gG_V mt_2_115 mt_2_116 mt_2_117 mt_1_4 mt_2_118) rfl rfl rfl (by decide +kernel) ⟨(show (0) + 1 ≤ 2 + (n + 1) by omega), (show 8 + (2 + 11) + (0) ≤ 42 + 24 * (n + 1) by omega)⟩) (gpV hK hP hD [5, 6] rfl (by decide) (ci := 0) 5 rfl rfl) rfl rfl hl.1 rfl (lv_room (Nat.le_of_ble_eq_true rfl)) d_Scribe_writeExpression_66 ⟨Nat.zero_le _, Nat.zero_le _⟩) hK hP hD hS hA [5, 6] rfl (by decide) rfl rfl (fun H locs (hP : va_P D vwCl [(hx1, .inr (4, [.ref hx1_source, .ref hx1_kinds, .ref hx1_froms, .ref hx1_marks, .ref hx1_ends, .ref hx1_parts, .ref hx1_others, .ref hx1_followers, .ref hx1_begins, .int x1_size, .int x1_depth, .int x1_knot, .int x1_stands])), (hx1_source, .inr (2, [.ref hx1_source_ops, .ref hx1_source_numbers, .ref hx1_source_heights, .int x1_source_size])), (hx1_source_ops, .inl (cI, 30, .inl x1_source_ops)), (hx1_source_numbers, .inl (cI, 30, .inl x1_source_numbers)), (hx1_begins, .inl (cI, 30, .inl x1_begins)), (hx2, .inr (0, [.ref hx2_row, .int q16.2.2])), (hx2_row, .inl (cC, x2_R, .inl q16.2.1))] H) (hD : va_D A [(hx1, .inr (4, [.ref hx1_source, .ref hx1_kinds, .ref hx1_froms, .ref hx1_marks, .ref hx1_ends, .ref hx1_parts, .ref hx1_others, .ref hx1_followers, .ref hx1_begins, .int x1_size, .int x1_depth, .int x1_knot, .int x1_stands])), (hx1_source, .inr (2, [.ref hx1_source_ops, .ref hx1_source_numbers, .ref hx1_source_heights, .int x1_source_size])), (hx1_source_ops, .inl (cI, 30, .inl x1_source_ops)), (hx1_source_numbers, .inl (cI, 30, .inl x1_source_numbers)), (hx1_begins, .inl (cI, 30, .inl x1_begins)), (hx2, .inr (0, [.ref hx2_row, .int q16.2.2])), (hx2_row, .inl (cC, x2_R, .inl q16.2.1))]) hS => ?_)
          refine lv_pop hx hb d_Scribe_writeExpression_69 rfl ?_
          refine lv_goto (tgt := 149) hx hb d_Scribe_writeExpression_70 (by decide) ?_
          cases h
          exact gr_v hx hb hr hlocks hK hP hD hS d_Scribe_writeExpression_149
      · have h := g_t ec h
        refine lv_aload_n hx hb d_Scribe_writeExpression_33 rfl (lv_at hl 2 rfl) ?_
        refine lv_aload_n hx hb d_Scribe_writeExpression_34 rfl (lv_at hl 1 rfl) ?_
        refine gk_r (va_runV (As := []) (rest := [.ref hx2]) ⟨hx, hb, hml, hown, hts⟩ (c_Tree_source l D cI cC hx1 hx1_source hx1_kinds hx1_froms hx1_marks hx1_ends hx1_parts hx1_others hx1_followers hx1_begins x1_size x1_depth x1_knot x1_stands _) (cwV 0 hts (gG_V mt_2_110 mt_2_111 mt_2_112 mt_1_5 mt_2_113) rfl rfl rfl (by decide +kernel) ⟨(show (0) + 1 ≤ 2 + (n + 1) by omega), (show 8 + (1 + 11) + (0) ≤ 42 + 24 * (n + 1) by omega)⟩) (gpV hK hP hD [0] rfl (by decide) (ci := 4) 0 rfl rfl) rfl rfl hl.1 rfl (lv_room (Nat.le_of_ble_eq_true rfl)) d_Scribe_writeExpression_35 ⟨Nat.zero_le _, Nat.zero_le _⟩) hK hP hD hS hA [0] rfl (by decide) rfl rfl (fun H locs (hP : va_P D vwCl [(hx1, .inr (4, [.ref hx1_source, .ref hx1_kinds, .ref hx1_froms, .ref hx1_marks, .ref hx1_ends, .ref hx1_parts, .ref hx1_others, .ref hx1_followers, .ref hx1_begins, .int x1_size, .int x1_depth, .int x1_knot, .int x1_stands])), (hx1_source, .inr (2, [.ref hx1_source_ops, .ref hx1_source_numbers, .ref hx1_source_heights, .int x1_source_size])), (hx1_source_ops, .inl (cI, 30, .inl x1_source_ops)), (hx1_source_numbers, .inl (cI, 30, .inl x1_source_numbers)), (hx1_begins, .inl (cI, 30, .inl x1_begins)), (hx2, .inr (0, [.ref hx2_row, .int x2_size])), (hx2_row, .inl (cC, x2_R, .inl x2_row))] H) (hD : va_D A [(hx1, .inr (4, [.ref hx1_source, .ref hx1_kinds, .ref hx1_froms, .ref hx1_marks, .ref hx1_ends, .ref hx1_parts, .ref hx1_others, .ref hx1_followers, .ref hx1_begins, .int x1_size, .int x1_depth, .int x1_knot, .int x1_stands])), (hx1_source, .inr (2, [.ref hx1_source_ops, .ref hx1_source_numbers, .ref hx1_source_heights, .int x1_source_size])), (hx1_source_ops, .inl (cI, 30, .inl x1_source_ops)), (hx1_source_numbers, .inl (cI, 30, .inl x1_source_numbers)), (hx1_begins, .inl (cI, 30, .inl x1_begins)), (hx2, .inr (0, [.ref hx2_row, .int x2_size])), (hx2_row, .inl (cC, x2_R, .inl x2_row))]) hS => ?_)
        refine lv_iload_n hx hb d_Scribe_writeExpression_38 rfl (lv_at hl 3 rfl) ?_
        obtain ⟨q18, hc, h⟩ := g_bd h
        refine gk_i (va_runV (As := [.int a2]) (rest := [.ref hx2]) ⟨hx, hb, hml, hown, hts⟩ (c_Listing_number l D cI cC hx1_source hx1_source_ops hx1_source_numbers hx1_source_heights 30 x1_source_size x1_source_numbers a2 q18 hc _) (cwV 1 hts (gG_V mt_2_114 mt_1_237 mt_1_238 mt_1_2 mt_1_239) rfl rfl rfl (by decide +kernel) ⟨(show (1) + 1 ≤ 2 + (n + 1) by omega), (show 8 + (2 + 11) + (21) ≤ 42 + 24 * (n + 1) by omega)⟩) (gpV hK hP hD [1, 3] rfl (by decide) (ci := 2) 1 rfl rfl) rfl rfl hl.1 rfl (lv_room (Nat.le_of_ble_eq_true rfl)) d_Scribe_writeExpression_39 ⟨Nat.zero_le _, Nat.zero_le _⟩) hK hP hD hS hA [1, 3] rfl (by decide) rfl rfl (fun H locs (hP : va_P D vwCl [(hx1, .inr (4, [.ref hx1_source, .ref hx1_kinds, .ref hx1_froms, .ref hx1_marks, .ref hx1_ends, .ref hx1_parts, .ref hx1_others, .ref hx1_followers, .ref hx1_begins, .int x1_size, .int x1_depth, .int x1_knot, .int x1_stands])), (hx1_source, .inr (2, [.ref hx1_source_ops, .ref hx1_source_numbers, .ref hx1_source_heights, .int x1_source_size])), (hx1_source_ops, .inl (cI, 30, .inl x1_source_ops)), (hx1_source_numbers, .inl (cI, 30, .inl x1_source_numbers)), (hx1_begins, .inl (cI, 30, .inl x1_begins)), (hx2, .inr (0, [.ref hx2_row, .int x2_size])), (hx2_row, .inl (cC, x2_R, .inl x2_row))] H) (hD : va_D A [(hx1, .inr (4, [.ref hx1_source, .ref hx1_kinds, .ref hx1_froms, .ref hx1_marks, .ref hx1_ends, .ref hx1_parts, .ref hx1_others, .ref hx1_followers, .ref hx1_begins, .int x1_size, .int x1_depth, .int x1_knot, .int x1_stands])), (hx1_source, .inr (2, [.ref hx1_source_ops, .ref hx1_source_numbers, .ref hx1_source_heights, .int x1_source_size])), (hx1_source_ops, .inl (cI, 30, .inl x1_source_ops)), (hx1_source_numbers, .inl (cI, 30, .inl x1_source_numbers)), (hx1_begins, .inl (cI, 30, .inl x1_begins)), (hx2, .inr (0, [.ref hx2_row, .int x2_size])), (hx2_row, .inl (cC, x2_R, .inl x2_row))]) hS => ?_)
        obtain ⟨q19, hc, h⟩ := g_bd h
        refine gk_v (va_runS (As := [.ref hx2, .int q18]) (rest := []) ⟨hx, hb, hml, hown, hts⟩ (c_Scribe_writeNumber l D cI cC hx2 hx2_row x2_R x2_size x2_row q18 q19 hc _) (va_cwS 2 hts (gG_S mt_2_127 mt_2_128 mt_1_10 mt_2_129) rfl rfl rfl (by decide +kernel) ⟨(show (1) + 1 ≤ 2 + (n + 1) by omega), (show 8 + (2 + 11) + (21) ≤ 42 + 24 * (n + 1) by omega)⟩) (gpS hK hP hD [5, 6] rfl (by decide)) rfl rfl hl.1 rfl (lv_room (Nat.le_of_ble_eq_true rfl)) d_Scribe_writeExpression_42 ⟨Nat.zero_le _, Nat.zero_le _⟩) hK hP hD hS hA [5, 6] rfl (by decide) rfl rfl (fun H locs (hP : va_P D vwCl [(hx1, .inr (4, [.ref hx1_source, .ref hx1_kinds, .ref hx1_froms, .ref hx1_marks, .ref hx1_ends, .ref hx1_parts, .ref hx1_others, .ref hx1_followers, .ref hx1_begins, .int x1_size, .int x1_depth, .int x1_knot, .int x1_stands])), (hx1_source, .inr (2, [.ref hx1_source_ops, .ref hx1_source_numbers, .ref hx1_source_heights, .int x1_source_size])), (hx1_source_ops, .inl (cI, 30, .inl x1_source_ops)), (hx1_source_numbers, .inl (cI, 30, .inl x1_source_numbers)), (hx1_begins, .inl (cI, 30, .inl x1_begins)), (hx2, .inr (0, [.ref hx2_row, .int q19.2])), (hx2_row, .inl (cC, x2_R, .inl q19.1))] H) (hD : va_D A [(hx1, .inr (4, [.ref hx1_source, .ref hx1_kinds, .ref hx1_froms, .ref hx1_marks, .ref hx1_ends, .ref hx1_parts, .ref hx1_others, .ref hx1_followers, .ref hx1_begins, .int x1_size, .int x1_depth, .int x1_knot, .int x1_stands])), (hx1_source, .inr (2, [.ref hx1_source_ops, .ref hx1_source_numbers, .ref hx1_source_heights, .int x1_source_size])), (hx1_source_ops, .inl (cI, 30, .inl x1_source_ops)), (hx1_source_numbers, .inl (cI, 30, .inl x1_source_numbers)), (hx1_begins, .inl (cI, 30, .inl x1_begins)), (hx2, .inr (0, [.ref hx2_row, .int q19.2])), (hx2_row, .inl (cC, x2_R, .inl q19.1))]) hS => ?_)
        refine lv_goto (tgt := 149) hx hb d_Scribe_writeExpression_45 (by decide) ?_
        cases h
        exact gr_v hx hb hr hlocks hK hP hD hS d_Scribe_writeExpression_149
    · have h := g_f ec h
      cases h
      exact gr_v hx hb hr hlocks hK hP hD hS d_Scribe_writeExpression_17
theorem cg_Scribe_writeExpression (l : Launch) (D : va_G) (cI cC : ClassId) : ∀ n : Nat, K_Scribe_writeExpression l D cI cC (g_Scribe_writeExpression n) n := by
  intro n
  induction n with
  | zero => exact fun _ _ _ _ _ _ _ _ _ _ _ _ _ _ _ _ _ _ _ _ _ _ _ _ _ _ _ _ _ h => g_no h
  | succ n ih => exact cb_Scribe_writeExpression l D cI cC _ n ih
theorem c_Scribe_writeExpression (l : Launch) (D : va_G) (cI cC : ClassId) (n : Nat) : K_Scribe_writeExpression l D cI cC (g_Scribe_writeExpression n) n := (cg_Scribe_writeExpression l D cI cC n)
def K_Tree_holds (l : Launch) (D : va_G) (cI cC : ClassId) : Prop :=
  ∀ (ht ht_source ht_kinds ht_froms ht_marks ht_ends ht_parts ht_others ht_followers ht_begins : Nat) (t_size : Int32) (t_depth : Int32) (t_knot : Int32) (t_stands : Int32) (a1 : Int32) (q : Int32), g_Tree_holds t_size a1 = some q → ∀ (sz : Nat), Met l y_Tree_holds w_Tree_holds ({ frames := 0, cells := 0, slots := 0, locals := 0 }) (va_Pc [.ref ht, .int a1] (gB D (gT cI cC) [(ht, .inr (4, [.ref ht_source, .ref ht_kinds, .ref ht_froms, .ref ht_marks, .ref ht_ends, .ref ht_parts, .ref ht_others, .ref ht_followers, .ref ht_begins, .int t_size, .int t_depth, .int t_knot, .int t_stands]))] sz)) (gQi D (gT cI cC) q [(ht, .inr (4, [.ref ht_source, .ref ht_kinds, .ref ht_froms, .ref ht_marks, .ref ht_ends, .ref ht_parts, .ref ht_others, .ref ht_followers, .ref ht_begins, .int t_size, .int t_depth, .int t_knot, .int t_stands]))] (va_A [(ht, .inr (4, [.ref ht_source, .ref ht_kinds, .ref ht_froms, .ref ht_marks, .ref ht_ends, .ref ht_parts, .ref ht_others, .ref ht_followers, .ref ht_begins, .int t_size, .int t_depth, .int t_knot, .int t_stands]))] sz)) 0 0 (va_A [(ht, .inr (4, [.ref ht_source, .ref ht_kinds, .ref ht_froms, .ref ht_marks, .ref ht_ends, .ref ht_parts, .ref ht_others, .ref ht_followers, .ref ht_begins, .int t_size, .int t_depth, .int t_knot, .int t_stands]))] sz)
set_option maxHeartbeats 4000000 in
set_option maxRecDepth 100000 in
theorem c_Tree_holds (l : Launch) (D : va_G) (cI cC : ClassId) : K_Tree_holds l D cI cC := by
  intro ht ht_source ht_kinds ht_froms ht_marks ht_ends ht_parts ht_others ht_followers ht_begins t_size t_depth t_knot t_stands a1 q h sz
  refine Met.ofW (cc := k_Tree_holds) (maxL := 2) (ret := (some .boolean)) (by decide) rfl ?_
  intro p e s m args below meth c s₁ B hml hv
  obtain ⟨rfl, hsz, hP, hK, hD0⟩ := hv
  have hx := B.exec
  have hb := B.bytes
  have hr := B.returns
  have hts : ∀ w ∈ lw_t, w.before ([.ref ht, .int a1] : List Value).toArray s = true := fun w h => atoms_spec (ws := w_Tree_holds) B.pre w (List.mem_cons_of_mem _ h)
  have hown : s.vm.findClass R_Tree = some m.cls := findClass_of_methodNamed B.named
  have hlocks := B.notSynchronized
  subst hsz
  have hD := hD0.self (sz := s.heap.size)
  generalize hAe : va_A [(ht, .inr (4, [.ref ht_source, .ref ht_kinds, .ref ht_froms, .ref ht_marks, .ref ht_ends, .ref ht_parts, .ref ht_others, .ref ht_followers, .ref ht_begins, .int t_size, .int t_depth, .int t_knot, .int t_stands]))] s.heap.size = A at hD ⊢
  have hA : ∀ q : Nat, s.heap.size ≤ q → A q := fun q h => by rw [← hAe]; exact Or.inr h
  have hS : va_S A s.heap s.heap [] := va_S.rf
  have f_45 := hts _ mt_1_91
  have hP : va_P D vwCl [(ht, .inr (4, [.ref ht_source, .ref ht_kinds, .ref ht_froms, .ref ht_marks, .ref ht_ends, .ref ht_parts, .ref ht_others, .ref ht_followers, .ref ht_begins, .int t_size, .int t_depth, .int t_knot, .int t_stands]))] s.heap := hP
  have hl := lv_entry ([.ref ht, .int a1]) (n := 2) (Nat.le_of_ble_eq_true rfl)
  rw [lg_entry_eq]
  generalize (lg_sl ([.ref ht, .int a1]) ++ List.replicate (2 - (lg_sl ([.ref ht, .int a1])).length) Slot.unset).toArray = ls at hl ⊢
  have hl : lv_has ls 2 [(0, .ref ht), (1, .int a1)] := hl
  unfold g_Tree_holds at h
  refine lv_iload_n hx hb d_Tree_holds_0 rfl (lv_at hl 1 rfl) ?_
  refine lv_if_lt (tgt := 16) hx hb d_Tree_holds_1 (by decide) (fun ec => ?_) (fun ec => ?_)
  · have h := g_t ec h
    refine lv_iconst (v := (0 : Int32)) hx hb d_Tree_holds_16 (by decide) ?_
    cases h
    exact gr_z (v := (0 : Int32)) (by decide) hx hb hr hlocks hK hP hD hS d_Tree_holds_17
  · have h := g_f ec h
    refine lv_iload_n hx hb d_Tree_holds_4 rfl (lv_at hl 1 rfl) ?_
    refine lv_aload_n hx hb d_Tree_holds_5 rfl (lv_at hl 0 rfl) ?_
    refine va_get (D := D) (ci := 4) (v := .int t_size) (C := R_Tree) (T := F_Tree) (N := 13) hx hb hts u_Tree hown hK hP 0 rfl rfl 9 (by decide) f_45 (fun _ h9 => h9) rfl d_Tree_holds_6 ?_
    refine lv_icmp_ge (tgt := 16) hx hb d_Tree_holds_9 (by decide) (fun ec => ?_) (fun ec => ?_)
    · have h := g_t ec h
      refine lv_iconst (v := (0 : Int32)) hx hb d_Tree_holds_16 (by decide) ?_
      cases h
      exact gr_z (v := (0 : Int32)) (by decide) hx hb hr hlocks hK hP hD hS d_Tree_holds_17
    · have h := g_f ec h
      refine lv_iconst (v := (1 : Int32)) hx hb d_Tree_holds_12 (by decide) ?_
      refine lv_goto (tgt := 17) hx hb d_Tree_holds_13 (by decide) ?_
      cases h
      exact gr_z (v := (1 : Int32)) (by decide) hx hb hr hlocks hK hP hD hS d_Tree_holds_17
def K_Tree_kind (l : Launch) (D : va_G) (cI cC : ClassId) : Prop :=
  ∀ (ht ht_source ht_kinds ht_froms ht_marks ht_ends ht_parts ht_others ht_followers ht_begins : Nat) (t_size : Int32) (t_depth : Int32) (t_knot : Int32) (t_stands : Int32) (t_kinds : Nat → Int32) (a1 : Int32) (q : Int32), g_Tree_kind t_kinds t_size a1 = some q → ∀ (sz : Nat), Met l y_Tree_kind w_Tree_kind ({ frames := 1, cells := 0, slots := 0, locals := 21 }) (va_Pc [.ref ht, .int a1] (gB D (gT cI cC) [(ht, .inr (4, [.ref ht_source, .ref ht_kinds, .ref ht_froms, .ref ht_marks, .ref ht_ends, .ref ht_parts, .ref ht_others, .ref ht_followers, .ref ht_begins, .int t_size, .int t_depth, .int t_knot, .int t_stands])), (ht_kinds, .inl (cI, 15, .inl t_kinds))] sz)) (gQi D (gT cI cC) q [(ht, .inr (4, [.ref ht_source, .ref ht_kinds, .ref ht_froms, .ref ht_marks, .ref ht_ends, .ref ht_parts, .ref ht_others, .ref ht_followers, .ref ht_begins, .int t_size, .int t_depth, .int t_knot, .int t_stands])), (ht_kinds, .inl (cI, 15, .inl t_kinds))] (va_A [(ht, .inr (4, [.ref ht_source, .ref ht_kinds, .ref ht_froms, .ref ht_marks, .ref ht_ends, .ref ht_parts, .ref ht_others, .ref ht_followers, .ref ht_begins, .int t_size, .int t_depth, .int t_knot, .int t_stands])), (ht_kinds, .inl (cI, 15, .inl t_kinds))] sz)) 0 0 (va_A [(ht, .inr (4, [.ref ht_source, .ref ht_kinds, .ref ht_froms, .ref ht_marks, .ref ht_ends, .ref ht_parts, .ref ht_others, .ref ht_followers, .ref ht_begins, .int t_size, .int t_depth, .int t_knot, .int t_stands])), (ht_kinds, .inl (cI, 15, .inl t_kinds))] sz)
set_option maxHeartbeats 4000000 in
set_option maxRecDepth 100000 in
theorem c_Tree_kind (l : Launch) (D : va_G) (cI cC : ClassId) : K_Tree_kind l D cI cC := by
  intro ht ht_source ht_kinds ht_froms ht_marks ht_ends ht_parts ht_others ht_followers ht_begins t_size t_depth t_knot t_stands t_kinds a1 q h sz
  refine Met.ofW (cc := k_Tree_kind) (maxL := 2) (ret := (some .int)) (by decide) rfl ?_
  intro p e s m args below meth c s₁ B hml hv
  obtain ⟨rfl, hsz, hP, hK, hD0⟩ := hv
  have hx := B.exec
  have hb := B.bytes
  have hr := B.returns
  have hts : ∀ w ∈ lw_t, w.before ([.ref ht, .int a1] : List Value).toArray s = true := fun w h => atoms_spec (ws := w_Tree_kind) B.pre w (List.mem_cons_of_mem _ h)
  have hown : s.vm.findClass R_Tree = some m.cls := findClass_of_methodNamed B.named
  have hlocks := B.notSynchronized
  subst hsz
  have hD := hD0.self (sz := s.heap.size)
  generalize hAe : va_A [(ht, .inr (4, [.ref ht_source, .ref ht_kinds, .ref ht_froms, .ref ht_marks, .ref ht_ends, .ref ht_parts, .ref ht_others, .ref ht_followers, .ref ht_begins, .int t_size, .int t_depth, .int t_knot, .int t_stands])), (ht_kinds, .inl (cI, 15, .inl t_kinds))] s.heap.size = A at hD ⊢
  have hA : ∀ q : Nat, s.heap.size ≤ q → A q := fun q h => by rw [← hAe]; exact Or.inr h
  have hS : va_S A s.heap s.heap [] := va_S.rf
  have f_20 := hts _ mt_1_83
  have hP : va_P D vwCl [(ht, .inr (4, [.ref ht_source, .ref ht_kinds, .ref ht_froms, .ref ht_marks, .ref ht_ends, .ref ht_parts, .ref ht_others, .ref ht_followers, .ref ht_begins, .int t_size, .int t_depth, .int t_knot, .int t_stands])), (ht_kinds, .inl (cI, 15, .inl t_kinds))] s.heap := hP
  have hl := lv_entry ([.ref ht, .int a1]) (n := 2) (Nat.le_of_ble_eq_true rfl)
  rw [lg_entry_eq]
  generalize (lg_sl ([.ref ht, .int a1]) ++ List.replicate (2 - (lg_sl ([.ref ht, .int a1])).length) Slot.unset).toArray = ls at hl ⊢
  have hl : lv_has ls 2 [(0, .ref ht), (1, .int a1)] := hl
  unfold g_Tree_kind at h
  refine lv_aload_n hx hb d_Tree_kind_0 rfl (lv_at hl 0 rfl) ?_
  refine lv_iload_n hx hb d_Tree_kind_1 rfl (lv_at hl 1 rfl) ?_
  obtain ⟨q1, hc, h⟩ := g_bd h
  refine gk_i (va_runV (As := [.int a1]) (rest := []) ⟨hx, hb, hml, hown, hts⟩ (c_Tree_holds l D cI cC ht ht_source ht_kinds ht_froms ht_marks ht_ends ht_parts ht_others ht_followers ht_begins t_size t_depth t_knot t_stands a1 q1 hc _) (cwV 1 hts (gG_V mt_2_105 mt_2_95 mt_2_96 mt_1_5 mt_2_97) rfl rfl rfl (by decide +kernel) ⟨Nat.le_of_ble_eq_true rfl, Nat.le_of_ble_eq_true rfl⟩) (gpV hK hP hD [0] rfl (by decide) (ci := 4) 0 rfl rfl) rfl rfl hl.1 rfl (lv_room (Nat.le_of_ble_eq_true rfl)) d_Tree_kind_2 ⟨Nat.zero_le _, Nat.zero_le _⟩) hK hP hD hS hA [0] rfl (by decide) rfl rfl (fun H locs (hP : va_P D vwCl [(ht, .inr (4, [.ref ht_source, .ref ht_kinds, .ref ht_froms, .ref ht_marks, .ref ht_ends, .ref ht_parts, .ref ht_others, .ref ht_followers, .ref ht_begins, .int t_size, .int t_depth, .int t_knot, .int t_stands])), (ht_kinds, .inl (cI, 15, .inl t_kinds))] H) (hD : va_D A [(ht, .inr (4, [.ref ht_source, .ref ht_kinds, .ref ht_froms, .ref ht_marks, .ref ht_ends, .ref ht_parts, .ref ht_others, .ref ht_followers, .ref ht_begins, .int t_size, .int t_depth, .int t_knot, .int t_stands])), (ht_kinds, .inl (cI, 15, .inl t_kinds))]) hS => ?_)
  refine lv_if_eq (tgt := 17) hx hb d_Tree_kind_5 (by decide) (fun ec => ?_) (fun ec => ?_)
  · have h := g_t ec h
    refine lv_iconst (v := (-1 : Int32)) hx hb d_Tree_kind_17 (by decide) ?_
    cases h
    exact gr_i hx hb hr hlocks hK hP hD hS d_Tree_kind_18
  · have h := g_f ec h
    refine lv_aload_n hx hb d_Tree_kind_8 rfl (lv_at hl 0 rfl) ?_
    refine va_get (D := D) (ci := 4) (v := .ref ht_kinds) (C := R_Tree) (T := F_Tree) (N := 13) hx hb hts u_Tree hown hK hP 0 rfl rfl 1 (by decide) f_20 (fun _ h9 => h9) rfl d_Tree_kind_9 ?_
    refine lv_iload_n hx hb d_Tree_kind_12 rfl (lv_at hl 1 rfl) ?_
    obtain ⟨hi, h⟩ := g_ck h
    refine va_iald hx hb hK hP 1 0 rfl rfl hi d_Tree_kind_13 ?_
    refine lv_goto (tgt := 18) hx hb d_Tree_kind_14 (by decide) ?_
    cases h
    exact gr_i hx hb hr hlocks hK hP hD hS d_Tree_kind_18
def K_Tree_mark (l : Launch) (D : va_G) (cI cC : ClassId) : Prop :=
  ∀ (ht ht_source ht_kinds ht_froms ht_marks ht_ends ht_parts ht_others ht_followers ht_begins : Nat) (t_size : Int32) (t_depth : Int32) (t_knot : Int32) (t_stands : Int32) (t_marks : Nat → Int32) (a1 : Int32) (q : Int32), g_Tree_mark t_marks t_size a1 = some q → ∀ (sz : Nat), Met l y_Tree_mark w_Tree_mark ({ frames := 1, cells := 0, slots := 0, locals := 21 }) (va_Pc [.ref ht, .int a1] (gB D (gT cI cC) [(ht, .inr (4, [.ref ht_source, .ref ht_kinds, .ref ht_froms, .ref ht_marks, .ref ht_ends, .ref ht_parts, .ref ht_others, .ref ht_followers, .ref ht_begins, .int t_size, .int t_depth, .int t_knot, .int t_stands])), (ht_marks, .inl (cI, 15, .inl t_marks))] sz)) (gQi D (gT cI cC) q [(ht, .inr (4, [.ref ht_source, .ref ht_kinds, .ref ht_froms, .ref ht_marks, .ref ht_ends, .ref ht_parts, .ref ht_others, .ref ht_followers, .ref ht_begins, .int t_size, .int t_depth, .int t_knot, .int t_stands])), (ht_marks, .inl (cI, 15, .inl t_marks))] (va_A [(ht, .inr (4, [.ref ht_source, .ref ht_kinds, .ref ht_froms, .ref ht_marks, .ref ht_ends, .ref ht_parts, .ref ht_others, .ref ht_followers, .ref ht_begins, .int t_size, .int t_depth, .int t_knot, .int t_stands])), (ht_marks, .inl (cI, 15, .inl t_marks))] sz)) 0 0 (va_A [(ht, .inr (4, [.ref ht_source, .ref ht_kinds, .ref ht_froms, .ref ht_marks, .ref ht_ends, .ref ht_parts, .ref ht_others, .ref ht_followers, .ref ht_begins, .int t_size, .int t_depth, .int t_knot, .int t_stands])), (ht_marks, .inl (cI, 15, .inl t_marks))] sz)
set_option maxHeartbeats 4000000 in
set_option maxRecDepth 100000 in
theorem c_Tree_mark (l : Launch) (D : va_G) (cI cC : ClassId) : K_Tree_mark l D cI cC := by
  intro ht ht_source ht_kinds ht_froms ht_marks ht_ends ht_parts ht_others ht_followers ht_begins t_size t_depth t_knot t_stands t_marks a1 q h sz
  refine Met.ofW (cc := k_Tree_mark) (maxL := 2) (ret := (some .int)) (by decide) rfl ?_
  intro p e s m args below meth c s₁ B hml hv
  obtain ⟨rfl, hsz, hP, hK, hD0⟩ := hv
  have hx := B.exec
  have hb := B.bytes
  have hr := B.returns
  have hts : ∀ w ∈ lw_t, w.before ([.ref ht, .int a1] : List Value).toArray s = true := fun w h => atoms_spec (ws := w_Tree_mark) B.pre w (List.mem_cons_of_mem _ h)
  have hown : s.vm.findClass R_Tree = some m.cls := findClass_of_methodNamed B.named
  have hlocks := B.notSynchronized
  subst hsz
  have hD := hD0.self (sz := s.heap.size)
  generalize hAe : va_A [(ht, .inr (4, [.ref ht_source, .ref ht_kinds, .ref ht_froms, .ref ht_marks, .ref ht_ends, .ref ht_parts, .ref ht_others, .ref ht_followers, .ref ht_begins, .int t_size, .int t_depth, .int t_knot, .int t_stands])), (ht_marks, .inl (cI, 15, .inl t_marks))] s.heap.size = A at hD ⊢
  have hA : ∀ q : Nat, s.heap.size ≤ q → A q := fun q h => by rw [← hAe]; exact Or.inr h
  have hS : va_S A s.heap s.heap [] := va_S.rf
  have f_27 := hts _ mt_1_85
  have hP : va_P D vwCl [(ht, .inr (4, [.ref ht_source, .ref ht_kinds, .ref ht_froms, .ref ht_marks, .ref ht_ends, .ref ht_parts, .ref ht_others, .ref ht_followers, .ref ht_begins, .int t_size, .int t_depth, .int t_knot, .int t_stands])), (ht_marks, .inl (cI, 15, .inl t_marks))] s.heap := hP
  have hl := lv_entry ([.ref ht, .int a1]) (n := 2) (Nat.le_of_ble_eq_true rfl)
  rw [lg_entry_eq]
  generalize (lg_sl ([.ref ht, .int a1]) ++ List.replicate (2 - (lg_sl ([.ref ht, .int a1])).length) Slot.unset).toArray = ls at hl ⊢
  have hl : lv_has ls 2 [(0, .ref ht), (1, .int a1)] := hl
  unfold g_Tree_mark at h
  refine lv_aload_n hx hb d_Tree_mark_0 rfl (lv_at hl 0 rfl) ?_
  refine lv_iload_n hx hb d_Tree_mark_1 rfl (lv_at hl 1 rfl) ?_
  obtain ⟨q1, hc, h⟩ := g_bd h
  refine gk_i (va_runV (As := [.int a1]) (rest := []) ⟨hx, hb, hml, hown, hts⟩ (c_Tree_holds l D cI cC ht ht_source ht_kinds ht_froms ht_marks ht_ends ht_parts ht_others ht_followers ht_begins t_size t_depth t_knot t_stands a1 q1 hc _) (cwV 1 hts (gG_V mt_2_105 mt_2_95 mt_2_96 mt_1_5 mt_2_97) rfl rfl rfl (by decide +kernel) ⟨Nat.le_of_ble_eq_true rfl, Nat.le_of_ble_eq_true rfl⟩) (gpV hK hP hD [0] rfl (by decide) (ci := 4) 0 rfl rfl) rfl rfl hl.1 rfl (lv_room (Nat.le_of_ble_eq_true rfl)) d_Tree_mark_2 ⟨Nat.zero_le _, Nat.zero_le _⟩) hK hP hD hS hA [0] rfl (by decide) rfl rfl (fun H locs (hP : va_P D vwCl [(ht, .inr (4, [.ref ht_source, .ref ht_kinds, .ref ht_froms, .ref ht_marks, .ref ht_ends, .ref ht_parts, .ref ht_others, .ref ht_followers, .ref ht_begins, .int t_size, .int t_depth, .int t_knot, .int t_stands])), (ht_marks, .inl (cI, 15, .inl t_marks))] H) (hD : va_D A [(ht, .inr (4, [.ref ht_source, .ref ht_kinds, .ref ht_froms, .ref ht_marks, .ref ht_ends, .ref ht_parts, .ref ht_others, .ref ht_followers, .ref ht_begins, .int t_size, .int t_depth, .int t_knot, .int t_stands])), (ht_marks, .inl (cI, 15, .inl t_marks))]) hS => ?_)
  refine lv_if_eq (tgt := 17) hx hb d_Tree_mark_5 (by decide) (fun ec => ?_) (fun ec => ?_)
  · have h := g_t ec h
    refine lv_iconst (v := (0 : Int32)) hx hb d_Tree_mark_17 (by decide) ?_
    cases h
    exact gr_i hx hb hr hlocks hK hP hD hS d_Tree_mark_18
  · have h := g_f ec h
    refine lv_aload_n hx hb d_Tree_mark_8 rfl (lv_at hl 0 rfl) ?_
    refine va_get (D := D) (ci := 4) (v := .ref ht_marks) (C := R_Tree) (T := F_Tree) (N := 13) hx hb hts u_Tree hown hK hP 0 rfl rfl 3 (by decide) f_27 (fun _ h9 => h9) rfl d_Tree_mark_9 ?_
    refine lv_iload_n hx hb d_Tree_mark_12 rfl (lv_at hl 1 rfl) ?_
    obtain ⟨hi, h⟩ := g_ck h
    refine va_iald hx hb hK hP 1 0 rfl rfl hi d_Tree_mark_13 ?_
    refine lv_goto (tgt := 18) hx hb d_Tree_mark_14 (by decide) ?_
    cases h
    exact gr_i hx hb hr hlocks hK hP hD hS d_Tree_mark_18
def K_Tree_other (l : Launch) (D : va_G) (cI cC : ClassId) : Prop :=
  ∀ (ht ht_source ht_kinds ht_froms ht_marks ht_ends ht_parts ht_others ht_followers ht_begins : Nat) (t_size : Int32) (t_depth : Int32) (t_knot : Int32) (t_stands : Int32) (t_others : Nat → Int32) (a1 : Int32) (q : Int32), g_Tree_other t_others t_size a1 = some q → ∀ (sz : Nat), Met l y_Tree_other w_Tree_other ({ frames := 1, cells := 0, slots := 0, locals := 21 }) (va_Pc [.ref ht, .int a1] (gB D (gT cI cC) [(ht, .inr (4, [.ref ht_source, .ref ht_kinds, .ref ht_froms, .ref ht_marks, .ref ht_ends, .ref ht_parts, .ref ht_others, .ref ht_followers, .ref ht_begins, .int t_size, .int t_depth, .int t_knot, .int t_stands])), (ht_others, .inl (cI, 15, .inl t_others))] sz)) (gQi D (gT cI cC) q [(ht, .inr (4, [.ref ht_source, .ref ht_kinds, .ref ht_froms, .ref ht_marks, .ref ht_ends, .ref ht_parts, .ref ht_others, .ref ht_followers, .ref ht_begins, .int t_size, .int t_depth, .int t_knot, .int t_stands])), (ht_others, .inl (cI, 15, .inl t_others))] (va_A [(ht, .inr (4, [.ref ht_source, .ref ht_kinds, .ref ht_froms, .ref ht_marks, .ref ht_ends, .ref ht_parts, .ref ht_others, .ref ht_followers, .ref ht_begins, .int t_size, .int t_depth, .int t_knot, .int t_stands])), (ht_others, .inl (cI, 15, .inl t_others))] sz)) 0 0 (va_A [(ht, .inr (4, [.ref ht_source, .ref ht_kinds, .ref ht_froms, .ref ht_marks, .ref ht_ends, .ref ht_parts, .ref ht_others, .ref ht_followers, .ref ht_begins, .int t_size, .int t_depth, .int t_knot, .int t_stands])), (ht_others, .inl (cI, 15, .inl t_others))] sz)
set_option maxHeartbeats 4000000 in
set_option maxRecDepth 100000 in
theorem c_Tree_other (l : Launch) (D : va_G) (cI cC : ClassId) : K_Tree_other l D cI cC := by
  intro ht ht_source ht_kinds ht_froms ht_marks ht_ends ht_parts ht_others ht_followers ht_begins t_size t_depth t_knot t_stands t_others a1 q h sz
  refine Met.ofW (cc := k_Tree_other) (maxL := 2) (ret := (some .int)) (by decide) rfl ?_
  intro p e s m args below meth c s₁ B hml hv
  obtain ⟨rfl, hsz, hP, hK, hD0⟩ := hv
  have hx := B.exec
  have hb := B.bytes
  have hr := B.returns
  have hts : ∀ w ∈ lw_t, w.before ([.ref ht, .int a1] : List Value).toArray s = true := fun w h => atoms_spec (ws := w_Tree_other) B.pre w (List.mem_cons_of_mem _ h)
  have hown : s.vm.findClass R_Tree = some m.cls := findClass_of_methodNamed B.named
  have hlocks := B.notSynchronized
  subst hsz
  have hD := hD0.self (sz := s.heap.size)
  generalize hAe : va_A [(ht, .inr (4, [.ref ht_source, .ref ht_kinds, .ref ht_froms, .ref ht_marks, .ref ht_ends, .ref ht_parts, .ref ht_others, .ref ht_followers, .ref ht_begins, .int t_size, .int t_depth, .int t_knot, .int t_stands])), (ht_others, .inl (cI, 15, .inl t_others))] s.heap.size = A at hD ⊢
  have hA : ∀ q : Nat, s.heap.size ≤ q → A q := fun q h => by rw [← hAe]; exact Or.inr h
  have hS : va_S A s.heap s.heap [] := va_S.rf
  have f_36 := hts _ mt_1_88
  have hP : va_P D vwCl [(ht, .inr (4, [.ref ht_source, .ref ht_kinds, .ref ht_froms, .ref ht_marks, .ref ht_ends, .ref ht_parts, .ref ht_others, .ref ht_followers, .ref ht_begins, .int t_size, .int t_depth, .int t_knot, .int t_stands])), (ht_others, .inl (cI, 15, .inl t_others))] s.heap := hP
  have hl := lv_entry ([.ref ht, .int a1]) (n := 2) (Nat.le_of_ble_eq_true rfl)
  rw [lg_entry_eq]
  generalize (lg_sl ([.ref ht, .int a1]) ++ List.replicate (2 - (lg_sl ([.ref ht, .int a1])).length) Slot.unset).toArray = ls at hl ⊢
  have hl : lv_has ls 2 [(0, .ref ht), (1, .int a1)] := hl
  unfold g_Tree_other at h
  refine lv_aload_n hx hb d_Tree_other_0 rfl (lv_at hl 0 rfl) ?_
  refine lv_iload_n hx hb d_Tree_other_1 rfl (lv_at hl 1 rfl) ?_
  obtain ⟨q1, hc, h⟩ := g_bd h
  refine gk_i (va_runV (As := [.int a1]) (rest := []) ⟨hx, hb, hml, hown, hts⟩ (c_Tree_holds l D cI cC ht ht_source ht_kinds ht_froms ht_marks ht_ends ht_parts ht_others ht_followers ht_begins t_size t_depth t_knot t_stands a1 q1 hc _) (cwV 1 hts (gG_V mt_2_105 mt_2_95 mt_2_96 mt_1_5 mt_2_97) rfl rfl rfl (by decide +kernel) ⟨Nat.le_of_ble_eq_true rfl, Nat.le_of_ble_eq_true rfl⟩) (gpV hK hP hD [0] rfl (by decide) (ci := 4) 0 rfl rfl) rfl rfl hl.1 rfl (lv_room (Nat.le_of_ble_eq_true rfl)) d_Tree_other_2 ⟨Nat.zero_le _, Nat.zero_le _⟩) hK hP hD hS hA [0] rfl (by decide) rfl rfl (fun H locs (hP : va_P D vwCl [(ht, .inr (4, [.ref ht_source, .ref ht_kinds, .ref ht_froms, .ref ht_marks, .ref ht_ends, .ref ht_parts, .ref ht_others, .ref ht_followers, .ref ht_begins, .int t_size, .int t_depth, .int t_knot, .int t_stands])), (ht_others, .inl (cI, 15, .inl t_others))] H) (hD : va_D A [(ht, .inr (4, [.ref ht_source, .ref ht_kinds, .ref ht_froms, .ref ht_marks, .ref ht_ends, .ref ht_parts, .ref ht_others, .ref ht_followers, .ref ht_begins, .int t_size, .int t_depth, .int t_knot, .int t_stands])), (ht_others, .inl (cI, 15, .inl t_others))]) hS => ?_)
  refine lv_if_eq (tgt := 17) hx hb d_Tree_other_5 (by decide) (fun ec => ?_) (fun ec => ?_)
  · have h := g_t ec h
    refine lv_iconst (v := (-1 : Int32)) hx hb d_Tree_other_17 (by decide) ?_
    cases h
    exact gr_i hx hb hr hlocks hK hP hD hS d_Tree_other_18
  · have h := g_f ec h
    refine lv_aload_n hx hb d_Tree_other_8 rfl (lv_at hl 0 rfl) ?_
    refine va_get (D := D) (ci := 4) (v := .ref ht_others) (C := R_Tree) (T := F_Tree) (N := 13) hx hb hts u_Tree hown hK hP 0 rfl rfl 6 (by decide) f_36 (fun _ h9 => h9) rfl d_Tree_other_9 ?_
    refine lv_iload_n hx hb d_Tree_other_12 rfl (lv_at hl 1 rfl) ?_
    obtain ⟨hi, h⟩ := g_ck h
    refine va_iald hx hb hK hP 1 0 rfl rfl hi d_Tree_other_13 ?_
    refine lv_goto (tgt := 18) hx hb d_Tree_other_14 (by decide) ?_
    cases h
    exact gr_i hx hb hr hlocks hK hP hD hS d_Tree_other_18
def K_Tree_part (l : Launch) (D : va_G) (cI cC : ClassId) : Prop :=
  ∀ (ht ht_source ht_kinds ht_froms ht_marks ht_ends ht_parts ht_others ht_followers ht_begins : Nat) (t_size : Int32) (t_depth : Int32) (t_knot : Int32) (t_stands : Int32) (t_parts : Nat → Int32) (a1 : Int32) (q : Int32), g_Tree_part t_parts t_size a1 = some q → ∀ (sz : Nat), Met l y_Tree_part w_Tree_part ({ frames := 1, cells := 0, slots := 0, locals := 21 }) (va_Pc [.ref ht, .int a1] (gB D (gT cI cC) [(ht, .inr (4, [.ref ht_source, .ref ht_kinds, .ref ht_froms, .ref ht_marks, .ref ht_ends, .ref ht_parts, .ref ht_others, .ref ht_followers, .ref ht_begins, .int t_size, .int t_depth, .int t_knot, .int t_stands])), (ht_parts, .inl (cI, 15, .inl t_parts))] sz)) (gQi D (gT cI cC) q [(ht, .inr (4, [.ref ht_source, .ref ht_kinds, .ref ht_froms, .ref ht_marks, .ref ht_ends, .ref ht_parts, .ref ht_others, .ref ht_followers, .ref ht_begins, .int t_size, .int t_depth, .int t_knot, .int t_stands])), (ht_parts, .inl (cI, 15, .inl t_parts))] (va_A [(ht, .inr (4, [.ref ht_source, .ref ht_kinds, .ref ht_froms, .ref ht_marks, .ref ht_ends, .ref ht_parts, .ref ht_others, .ref ht_followers, .ref ht_begins, .int t_size, .int t_depth, .int t_knot, .int t_stands])), (ht_parts, .inl (cI, 15, .inl t_parts))] sz)) 0 0 (va_A [(ht, .inr (4, [.ref ht_source, .ref ht_kinds, .ref ht_froms, .ref ht_marks, .ref ht_ends, .ref ht_parts, .ref ht_others, .ref ht_followers, .ref ht_begins, .int t_size, .int t_depth, .int t_knot, .int t_stands])), (ht_parts, .inl (cI, 15, .inl t_parts))] sz)
set_option maxHeartbeats 4000000 in
set_option maxRecDepth 100000 in
theorem c_Tree_part (l : Launch) (D : va_G) (cI cC : ClassId) : K_Tree_part l D cI cC := by
  intro ht ht_source ht_kinds ht_froms ht_marks ht_ends ht_parts ht_others ht_followers ht_begins t_size t_depth t_knot t_stands t_parts a1 q h sz
  refine Met.ofW (cc := k_Tree_part) (maxL := 2) (ret := (some .int)) (by decide) rfl ?_
  intro p e s m args below meth c s₁ B hml hv
  obtain ⟨rfl, hsz, hP, hK, hD0⟩ := hv
  have hx := B.exec
  have hb := B.bytes
  have hr := B.returns
  have hts : ∀ w ∈ lw_t, w.before ([.ref ht, .int a1] : List Value).toArray s = true := fun w h => atoms_spec (ws := w_Tree_part) B.pre w (List.mem_cons_of_mem _ h)
  have hown : s.vm.findClass R_Tree = some m.cls := findClass_of_methodNamed B.named
  have hlocks := B.notSynchronized
  subst hsz
  have hD := hD0.self (sz := s.heap.size)
  generalize hAe : va_A [(ht, .inr (4, [.ref ht_source, .ref ht_kinds, .ref ht_froms, .ref ht_marks, .ref ht_ends, .ref ht_parts, .ref ht_others, .ref ht_followers, .ref ht_begins, .int t_size, .int t_depth, .int t_knot, .int t_stands])), (ht_parts, .inl (cI, 15, .inl t_parts))] s.heap.size = A at hD ⊢
  have hA : ∀ q : Nat, s.heap.size ≤ q → A q := fun q h => by rw [← hAe]; exact Or.inr h
  have hS : va_S A s.heap s.heap [] := va_S.rf
  have f_33 := hts _ mt_1_87
  have hP : va_P D vwCl [(ht, .inr (4, [.ref ht_source, .ref ht_kinds, .ref ht_froms, .ref ht_marks, .ref ht_ends, .ref ht_parts, .ref ht_others, .ref ht_followers, .ref ht_begins, .int t_size, .int t_depth, .int t_knot, .int t_stands])), (ht_parts, .inl (cI, 15, .inl t_parts))] s.heap := hP
  have hl := lv_entry ([.ref ht, .int a1]) (n := 2) (Nat.le_of_ble_eq_true rfl)
  rw [lg_entry_eq]
  generalize (lg_sl ([.ref ht, .int a1]) ++ List.replicate (2 - (lg_sl ([.ref ht, .int a1])).length) Slot.unset).toArray = ls at hl ⊢
  have hl : lv_has ls 2 [(0, .ref ht), (1, .int a1)] := hl
  unfold g_Tree_part at h
  refine lv_aload_n hx hb d_Tree_part_0 rfl (lv_at hl 0 rfl) ?_
  refine lv_iload_n hx hb d_Tree_part_1 rfl (lv_at hl 1 rfl) ?_
  obtain ⟨q1, hc, h⟩ := g_bd h
  refine gk_i (va_runV (As := [.int a1]) (rest := []) ⟨hx, hb, hml, hown, hts⟩ (c_Tree_holds l D cI cC ht ht_source ht_kinds ht_froms ht_marks ht_ends ht_parts ht_others ht_followers ht_begins t_size t_depth t_knot t_stands a1 q1 hc _) (cwV 1 hts (gG_V mt_2_105 mt_2_95 mt_2_96 mt_1_5 mt_2_97) rfl rfl rfl (by decide +kernel) ⟨Nat.le_of_ble_eq_true rfl, Nat.le_of_ble_eq_true rfl⟩) (gpV hK hP hD [0] rfl (by decide) (ci := 4) 0 rfl rfl) rfl rfl hl.1 rfl (lv_room (Nat.le_of_ble_eq_true rfl)) d_Tree_part_2 ⟨Nat.zero_le _, Nat.zero_le _⟩) hK hP hD hS hA [0] rfl (by decide) rfl rfl (fun H locs (hP : va_P D vwCl [(ht, .inr (4, [.ref ht_source, .ref ht_kinds, .ref ht_froms, .ref ht_marks, .ref ht_ends, .ref ht_parts, .ref ht_others, .ref ht_followers, .ref ht_begins, .int t_size, .int t_depth, .int t_knot, .int t_stands])), (ht_parts, .inl (cI, 15, .inl t_parts))] H) (hD : va_D A [(ht, .inr (4, [.ref ht_source, .ref ht_kinds, .ref ht_froms, .ref ht_marks, .ref ht_ends, .ref ht_parts, .ref ht_others, .ref ht_followers, .ref ht_begins, .int t_size, .int t_depth, .int t_knot, .int t_stands])), (ht_parts, .inl (cI, 15, .inl t_parts))]) hS => ?_)
  refine lv_if_eq (tgt := 17) hx hb d_Tree_part_5 (by decide) (fun ec => ?_) (fun ec => ?_)
  · have h := g_t ec h
    refine lv_iconst (v := (-1 : Int32)) hx hb d_Tree_part_17 (by decide) ?_
    cases h
    exact gr_i hx hb hr hlocks hK hP hD hS d_Tree_part_18
  · have h := g_f ec h
    refine lv_aload_n hx hb d_Tree_part_8 rfl (lv_at hl 0 rfl) ?_
    refine va_get (D := D) (ci := 4) (v := .ref ht_parts) (C := R_Tree) (T := F_Tree) (N := 13) hx hb hts u_Tree hown hK hP 0 rfl rfl 5 (by decide) f_33 (fun _ h9 => h9) rfl d_Tree_part_9 ?_
    refine lv_iload_n hx hb d_Tree_part_12 rfl (lv_at hl 1 rfl) ?_
    obtain ⟨hi, h⟩ := g_ck h
    refine va_iald hx hb hK hP 1 0 rfl rfl hi d_Tree_part_13 ?_
    refine lv_goto (tgt := 18) hx hb d_Tree_part_14 (by decide) ?_
    cases h
    exact gr_i hx hb hr hlocks hK hP hD hS d_Tree_part_18
def K_Tree_follower (l : Launch) (D : va_G) (cI cC : ClassId) : Prop :=
  ∀ (ht ht_source ht_kinds ht_froms ht_marks ht_ends ht_parts ht_others ht_followers ht_begins : Nat) (t_size : Int32) (t_depth : Int32) (t_knot : Int32) (t_stands : Int32) (t_followers : Nat → Int32) (a1 : Int32) (q : Int32), g_Tree_follower t_followers t_size a1 = some q → ∀ (sz : Nat), Met l y_Tree_follower w_Tree_follower ({ frames := 1, cells := 0, slots := 0, locals := 21 }) (va_Pc [.ref ht, .int a1] (gB D (gT cI cC) [(ht, .inr (4, [.ref ht_source, .ref ht_kinds, .ref ht_froms, .ref ht_marks, .ref ht_ends, .ref ht_parts, .ref ht_others, .ref ht_followers, .ref ht_begins, .int t_size, .int t_depth, .int t_knot, .int t_stands])), (ht_followers, .inl (cI, 15, .inl t_followers))] sz)) (gQi D (gT cI cC) q [(ht, .inr (4, [.ref ht_source, .ref ht_kinds, .ref ht_froms, .ref ht_marks, .ref ht_ends, .ref ht_parts, .ref ht_others, .ref ht_followers, .ref ht_begins, .int t_size, .int t_depth, .int t_knot, .int t_stands])), (ht_followers, .inl (cI, 15, .inl t_followers))] (va_A [(ht, .inr (4, [.ref ht_source, .ref ht_kinds, .ref ht_froms, .ref ht_marks, .ref ht_ends, .ref ht_parts, .ref ht_others, .ref ht_followers, .ref ht_begins, .int t_size, .int t_depth, .int t_knot, .int t_stands])), (ht_followers, .inl (cI, 15, .inl t_followers))] sz)) 0 0 (va_A [(ht, .inr (4, [.ref ht_source, .ref ht_kinds, .ref ht_froms, .ref ht_marks, .ref ht_ends, .ref ht_parts, .ref ht_others, .ref ht_followers, .ref ht_begins, .int t_size, .int t_depth, .int t_knot, .int t_stands])), (ht_followers, .inl (cI, 15, .inl t_followers))] sz)
set_option maxHeartbeats 4000000 in
set_option maxRecDepth 100000 in
theorem c_Tree_follower (l : Launch) (D : va_G) (cI cC : ClassId) : K_Tree_follower l D cI cC := by
  intro ht ht_source ht_kinds ht_froms ht_marks ht_ends ht_parts ht_others ht_followers ht_begins t_size t_depth t_knot t_stands t_followers a1 q h sz
  refine Met.ofW (cc := k_Tree_follower) (maxL := 2) (ret := (some .int)) (by decide) rfl ?_
  intro p e s m args below meth c s₁ B hml hv
  obtain ⟨rfl, hsz, hP, hK, hD0⟩ := hv
  have hx := B.exec
  have hb := B.bytes
  have hr := B.returns
  have hts : ∀ w ∈ lw_t, w.before ([.ref ht, .int a1] : List Value).toArray s = true := fun w h => atoms_spec (ws := w_Tree_follower) B.pre w (List.mem_cons_of_mem _ h)
  have hown : s.vm.findClass R_Tree = some m.cls := findClass_of_methodNamed B.named
  have hlocks := B.notSynchronized
  subst hsz
  have hD := hD0.self (sz := s.heap.size)
  generalize hAe : va_A [(ht, .inr (4, [.ref ht_source, .ref ht_kinds, .ref ht_froms, .ref ht_marks, .ref ht_ends, .ref ht_parts, .ref ht_others, .ref ht_followers, .ref ht_begins, .int t_size, .int t_depth, .int t_knot, .int t_stands])), (ht_followers, .inl (cI, 15, .inl t_followers))] s.heap.size = A at hD ⊢
  have hA : ∀ q : Nat, s.heap.size ≤ q → A q := fun q h => by rw [← hAe]; exact Or.inr h
  have hS : va_S A s.heap s.heap [] := va_S.rf
  have f_39 := hts _ mt_1_89
  have hP : va_P D vwCl [(ht, .inr (4, [.ref ht_source, .ref ht_kinds, .ref ht_froms, .ref ht_marks, .ref ht_ends, .ref ht_parts, .ref ht_others, .ref ht_followers, .ref ht_begins, .int t_size, .int t_depth, .int t_knot, .int t_stands])), (ht_followers, .inl (cI, 15, .inl t_followers))] s.heap := hP
  have hl := lv_entry ([.ref ht, .int a1]) (n := 2) (Nat.le_of_ble_eq_true rfl)
  rw [lg_entry_eq]
  generalize (lg_sl ([.ref ht, .int a1]) ++ List.replicate (2 - (lg_sl ([.ref ht, .int a1])).length) Slot.unset).toArray = ls at hl ⊢
  have hl : lv_has ls 2 [(0, .ref ht), (1, .int a1)] := hl
  unfold g_Tree_follower at h
  refine lv_aload_n hx hb d_Tree_follower_0 rfl (lv_at hl 0 rfl) ?_
  refine lv_iload_n hx hb d_Tree_follower_1 rfl (lv_at hl 1 rfl) ?_
  obtain ⟨q1, hc, h⟩ := g_bd h
  refine gk_i (va_runV (As := [.int a1]) (rest := []) ⟨hx, hb, hml, hown, hts⟩ (c_Tree_holds l D cI cC ht ht_source ht_kinds ht_froms ht_marks ht_ends ht_parts ht_others ht_followers ht_begins t_size t_depth t_knot t_stands a1 q1 hc _) (cwV 1 hts (gG_V mt_2_105 mt_2_95 mt_2_96 mt_1_5 mt_2_97) rfl rfl rfl (by decide +kernel) ⟨Nat.le_of_ble_eq_true rfl, Nat.le_of_ble_eq_true rfl⟩) (gpV hK hP hD [0] rfl (by decide) (ci := 4) 0 rfl rfl) rfl rfl hl.1 rfl (lv_room (Nat.le_of_ble_eq_true rfl)) d_Tree_follower_2 ⟨Nat.zero_le _, Nat.zero_le _⟩) hK hP hD hS hA [0] rfl (by decide) rfl rfl (fun H locs (hP : va_P D vwCl [(ht, .inr (4, [.ref ht_source, .ref ht_kinds, .ref ht_froms, .ref ht_marks, .ref ht_ends, .ref ht_parts, .ref ht_others, .ref ht_followers, .ref ht_begins, .int t_size, .int t_depth, .int t_knot, .int t_stands])), (ht_followers, .inl (cI, 15, .inl t_followers))] H) (hD : va_D A [(ht, .inr (4, [.ref ht_source, .ref ht_kinds, .ref ht_froms, .ref ht_marks, .ref ht_ends, .ref ht_parts, .ref ht_others, .ref ht_followers, .ref ht_begins, .int t_size, .int t_depth, .int t_knot, .int t_stands])), (ht_followers, .inl (cI, 15, .inl t_followers))]) hS => ?_)
  refine lv_if_eq (tgt := 17) hx hb d_Tree_follower_5 (by decide) (fun ec => ?_) (fun ec => ?_)
  · have h := g_t ec h
    refine lv_iconst (v := (-1 : Int32)) hx hb d_Tree_follower_17 (by decide) ?_
    cases h
    exact gr_i hx hb hr hlocks hK hP hD hS d_Tree_follower_18
  · have h := g_f ec h
    refine lv_aload_n hx hb d_Tree_follower_8 rfl (lv_at hl 0 rfl) ?_
    refine va_get (D := D) (ci := 4) (v := .ref ht_followers) (C := R_Tree) (T := F_Tree) (N := 13) hx hb hts u_Tree hown hK hP 0 rfl rfl 7 (by decide) f_39 (fun _ h9 => h9) rfl d_Tree_follower_9 ?_
    refine lv_iload_n hx hb d_Tree_follower_12 rfl (lv_at hl 1 rfl) ?_
    obtain ⟨hi, h⟩ := g_ck h
    refine va_iald hx hb hK hP 1 0 rfl rfl hi d_Tree_follower_13 ?_
    refine lv_goto (tgt := 18) hx hb d_Tree_follower_14 (by decide) ?_
    cases h
    exact gr_i hx hb hr hlocks hK hP hD hS d_Tree_follower_18
def K_Scribe_writeFrom (l : Launch) (D : va_G) (cI cC : ClassId) (f : Nat → (Nat → Int32) → (Nat → Int32) → Int32 → (Nat → Int32) → (Nat → Int32) → (Nat → Int32) → (Nat → Int32) → (Nat → Int32) → (Nat → Int32) → Int32 → (Nat → Int32) → Int32 → Int32 → Int32 → Option ((Nat → Int32) × Int32)) (n : Nat) : Prop :=
  ∀ (hx1 hx2 hx1_source hx1_kinds hx1_froms hx1_marks hx1_ends hx1_parts hx1_others hx1_followers hx1_begins hx1_source_ops hx1_source_numbers hx1_source_heights hx2_row : Nat) (x2_R : Nat) (x1_size : Int32) (x1_depth : Int32) (x1_knot : Int32) (x1_stands : Int32) (x1_source_size : Int32) (x1_source_ops : Nat → Int32) (x1_source_numbers : Nat → Int32) (x1_kinds : Nat → Int32) (x1_marks : Nat → Int32) (x1_parts : Nat → Int32) (x1_others : Nat → Int32) (x1_followers : Nat → Int32) (x1_begins : Nat → Int32) (x2_size : Int32) (x2_row : Nat → Int32) (a2 a3 : Int32) (q : (Nat → Int32) × Int32), f x2_R x1_source_ops x1_source_numbers x1_source_size x1_kinds x1_marks x1_parts x1_others x1_followers x1_begins x1_size x2_row x2_size a2 a3 = some q → ∀ (sz : Nat), Met l y_Scribe_writeFrom w_Scribe_writeFrom ({ frames := 103 + n, cells := 0, slots := 0, locals := 2466 + 25 * n }) (va_Pc [.ref hx1, .ref hx2, .int a2, .int a3] (gB D (gT cI cC) [(hx1, .inr (4, [.ref hx1_source, .ref hx1_kinds, .ref hx1_froms, .ref hx1_marks, .ref hx1_ends, .ref hx1_parts, .ref hx1_others, .ref hx1_followers, .ref hx1_begins, .int x1_size, .int x1_depth, .int x1_knot, .int x1_stands])), (hx1_source, .inr (2, [.ref hx1_source_ops, .ref hx1_source_numbers, .ref hx1_source_heights, .int x1_source_size])), (hx1_source_ops, .inl (cI, 30, .inl x1_source_ops)), (hx1_source_numbers, .inl (cI, 30, .inl x1_source_numbers)), (hx1_kinds, .inl (cI, 15, .inl x1_kinds)), (hx1_marks, .inl (cI, 15, .inl x1_marks)), (hx1_parts, .inl (cI, 15, .inl x1_parts)), (hx1_others, .inl (cI, 15, .inl x1_others)), (hx1_followers, .inl (cI, 15, .inl x1_followers)), (hx1_begins, .inl (cI, 30, .inl x1_begins)), (hx2, .inr (0, [.ref hx2_row, .int x2_size])), (hx2_row, .inl (cC, x2_R, .inl x2_row))] sz)) (gQv D (gT cI cC) [(hx1, .inr (4, [.ref hx1_source, .ref hx1_kinds, .ref hx1_froms, .ref hx1_marks, .ref hx1_ends, .ref hx1_parts, .ref hx1_others, .ref hx1_followers, .ref hx1_begins, .int x1_size, .int x1_depth, .int x1_knot, .int x1_stands])), (hx1_source, .inr (2, [.ref hx1_source_ops, .ref hx1_source_numbers, .ref hx1_source_heights, .int x1_source_size])), (hx1_source_ops, .inl (cI, 30, .inl x1_source_ops)), (hx1_source_numbers, .inl (cI, 30, .inl x1_source_numbers)), (hx1_kinds, .inl (cI, 15, .inl x1_kinds)), (hx1_marks, .inl (cI, 15, .inl x1_marks)), (hx1_parts, .inl (cI, 15, .inl x1_parts)), (hx1_others, .inl (cI, 15, .inl x1_others)), (hx1_followers, .inl (cI, 15, .inl x1_followers)), (hx1_begins, .inl (cI, 30, .inl x1_begins)), (hx2, .inr (0, [.ref hx2_row, .int q.2])), (hx2_row, .inl (cC, x2_R, .inl q.1))] (va_A [(hx1, .inr (4, [.ref hx1_source, .ref hx1_kinds, .ref hx1_froms, .ref hx1_marks, .ref hx1_ends, .ref hx1_parts, .ref hx1_others, .ref hx1_followers, .ref hx1_begins, .int x1_size, .int x1_depth, .int x1_knot, .int x1_stands])), (hx1_source, .inr (2, [.ref hx1_source_ops, .ref hx1_source_numbers, .ref hx1_source_heights, .int x1_source_size])), (hx1_source_ops, .inl (cI, 30, .inl x1_source_ops)), (hx1_source_numbers, .inl (cI, 30, .inl x1_source_numbers)), (hx1_kinds, .inl (cI, 15, .inl x1_kinds)), (hx1_marks, .inl (cI, 15, .inl x1_marks)), (hx1_parts, .inl (cI, 15, .inl x1_parts)), (hx1_others, .inl (cI, 15, .inl x1_others)), (hx1_followers, .inl (cI, 15, .inl x1_followers)), (hx1_begins, .inl (cI, 30, .inl x1_begins)), (hx2, .inr (0, [.ref hx2_row, .int x2_size])), (hx2_row, .inl (cC, x2_R, .inl x2_row))] sz)) 0 0 (va_A [(hx1, .inr (4, [.ref hx1_source, .ref hx1_kinds, .ref hx1_froms, .ref hx1_marks, .ref hx1_ends, .ref hx1_parts, .ref hx1_others, .ref hx1_followers, .ref hx1_begins, .int x1_size, .int x1_depth, .int x1_knot, .int x1_stands])), (hx1_source, .inr (2, [.ref hx1_source_ops, .ref hx1_source_numbers, .ref hx1_source_heights, .int x1_source_size])), (hx1_source_ops, .inl (cI, 30, .inl x1_source_ops)), (hx1_source_numbers, .inl (cI, 30, .inl x1_source_numbers)), (hx1_kinds, .inl (cI, 15, .inl x1_kinds)), (hx1_marks, .inl (cI, 15, .inl x1_marks)), (hx1_parts, .inl (cI, 15, .inl x1_parts)), (hx1_others, .inl (cI, 15, .inl x1_others)), (hx1_followers, .inl (cI, 15, .inl x1_followers)), (hx1_begins, .inl (cI, 30, .inl x1_begins)), (hx2, .inr (0, [.ref hx2_row, .int x2_size])), (hx2_row, .inl (cC, x2_R, .inl x2_row))] sz)
def K_Scribe_writeStatement (l : Launch) (D : va_G) (cI cC : ClassId) (f : Nat → (Nat → Int32) → (Nat → Int32) → Int32 → (Nat → Int32) → (Nat → Int32) → (Nat → Int32) → (Nat → Int32) → (Nat → Int32) → (Nat → Int32) → Int32 → (Nat → Int32) → Int32 → Int32 → Int32 → Option ((Nat → Int32) × Int32)) (n : Nat) : Prop :=
  ∀ (hx1 hx2 hx1_source hx1_kinds hx1_froms hx1_marks hx1_ends hx1_parts hx1_others hx1_followers hx1_begins hx1_source_ops hx1_source_numbers hx1_source_heights hx2_row : Nat) (x2_R : Nat) (x1_size : Int32) (x1_depth : Int32) (x1_knot : Int32) (x1_stands : Int32) (x1_source_size : Int32) (x1_source_ops : Nat → Int32) (x1_source_numbers : Nat → Int32) (x1_kinds : Nat → Int32) (x1_marks : Nat → Int32) (x1_parts : Nat → Int32) (x1_others : Nat → Int32) (x1_followers : Nat → Int32) (x1_begins : Nat → Int32) (x2_size : Int32) (x2_row : Nat → Int32) (a2 a3 : Int32) (q : (Nat → Int32) × Int32), f x2_R x1_source_ops x1_source_numbers x1_source_size x1_kinds x1_marks x1_parts x1_others x1_followers x1_begins x1_size x2_row x2_size a2 a3 = some q → ∀ (sz : Nat), Met l y_Scribe_writeStatement w_Scribe_writeStatement ({ frames := 103 + n, cells := 0, slots := 0, locals := 2466 + 25 * n }) (va_Pc [.ref hx1, .ref hx2, .int a2, .int a3] (gB D (gT cI cC) [(hx1, .inr (4, [.ref hx1_source, .ref hx1_kinds, .ref hx1_froms, .ref hx1_marks, .ref hx1_ends, .ref hx1_parts, .ref hx1_others, .ref hx1_followers, .ref hx1_begins, .int x1_size, .int x1_depth, .int x1_knot, .int x1_stands])), (hx1_source, .inr (2, [.ref hx1_source_ops, .ref hx1_source_numbers, .ref hx1_source_heights, .int x1_source_size])), (hx1_source_ops, .inl (cI, 30, .inl x1_source_ops)), (hx1_source_numbers, .inl (cI, 30, .inl x1_source_numbers)), (hx1_kinds, .inl (cI, 15, .inl x1_kinds)), (hx1_marks, .inl (cI, 15, .inl x1_marks)), (hx1_parts, .inl (cI, 15, .inl x1_parts)), (hx1_others, .inl (cI, 15, .inl x1_others)), (hx1_followers, .inl (cI, 15, .inl x1_followers)), (hx1_begins, .inl (cI, 30, .inl x1_begins)), (hx2, .inr (0, [.ref hx2_row, .int x2_size])), (hx2_row, .inl (cC, x2_R, .inl x2_row))] sz)) (gQv D (gT cI cC) [(hx1, .inr (4, [.ref hx1_source, .ref hx1_kinds, .ref hx1_froms, .ref hx1_marks, .ref hx1_ends, .ref hx1_parts, .ref hx1_others, .ref hx1_followers, .ref hx1_begins, .int x1_size, .int x1_depth, .int x1_knot, .int x1_stands])), (hx1_source, .inr (2, [.ref hx1_source_ops, .ref hx1_source_numbers, .ref hx1_source_heights, .int x1_source_size])), (hx1_source_ops, .inl (cI, 30, .inl x1_source_ops)), (hx1_source_numbers, .inl (cI, 30, .inl x1_source_numbers)), (hx1_kinds, .inl (cI, 15, .inl x1_kinds)), (hx1_marks, .inl (cI, 15, .inl x1_marks)), (hx1_parts, .inl (cI, 15, .inl x1_parts)), (hx1_others, .inl (cI, 15, .inl x1_others)), (hx1_followers, .inl (cI, 15, .inl x1_followers)), (hx1_begins, .inl (cI, 30, .inl x1_begins)), (hx2, .inr (0, [.ref hx2_row, .int q.2])), (hx2_row, .inl (cC, x2_R, .inl q.1))] (va_A [(hx1, .inr (4, [.ref hx1_source, .ref hx1_kinds, .ref hx1_froms, .ref hx1_marks, .ref hx1_ends, .ref hx1_parts, .ref hx1_others, .ref hx1_followers, .ref hx1_begins, .int x1_size, .int x1_depth, .int x1_knot, .int x1_stands])), (hx1_source, .inr (2, [.ref hx1_source_ops, .ref hx1_source_numbers, .ref hx1_source_heights, .int x1_source_size])), (hx1_source_ops, .inl (cI, 30, .inl x1_source_ops)), (hx1_source_numbers, .inl (cI, 30, .inl x1_source_numbers)), (hx1_kinds, .inl (cI, 15, .inl x1_kinds)), (hx1_marks, .inl (cI, 15, .inl x1_marks)), (hx1_parts, .inl (cI, 15, .inl x1_parts)), (hx1_others, .inl (cI, 15, .inl x1_others)), (hx1_followers, .inl (cI, 15, .inl x1_followers)), (hx1_begins, .inl (cI, 30, .inl x1_begins)), (hx2, .inr (0, [.ref hx2_row, .int x2_size])), (hx2_row, .inl (cC, x2_R, .inl x2_row))] sz)) 0 0 (va_A [(hx1, .inr (4, [.ref hx1_source, .ref hx1_kinds, .ref hx1_froms, .ref hx1_marks, .ref hx1_ends, .ref hx1_parts, .ref hx1_others, .ref hx1_followers, .ref hx1_begins, .int x1_size, .int x1_depth, .int x1_knot, .int x1_stands])), (hx1_source, .inr (2, [.ref hx1_source_ops, .ref hx1_source_numbers, .ref hx1_source_heights, .int x1_source_size])), (hx1_source_ops, .inl (cI, 30, .inl x1_source_ops)), (hx1_source_numbers, .inl (cI, 30, .inl x1_source_numbers)), (hx1_kinds, .inl (cI, 15, .inl x1_kinds)), (hx1_marks, .inl (cI, 15, .inl x1_marks)), (hx1_parts, .inl (cI, 15, .inl x1_parts)), (hx1_others, .inl (cI, 15, .inl x1_others)), (hx1_followers, .inl (cI, 15, .inl x1_followers)), (hx1_begins, .inl (cI, 30, .inl x1_begins)), (hx2, .inr (0, [.ref hx2_row, .int x2_size])), (hx2_row, .inl (cC, x2_R, .inl x2_row))] sz)
def K_Scribe_writeBlock (l : Launch) (D : va_G) (cI cC : ClassId) (f : Nat → (Nat → Int32) → (Nat → Int32) → Int32 → (Nat → Int32) → (Nat → Int32) → (Nat → Int32) → (Nat → Int32) → (Nat → Int32) → (Nat → Int32) → Int32 → (Nat → Int32) → Int32 → Int32 → Int32 → Option ((Nat → Int32) × Int32)) (n : Nat) : Prop :=
  ∀ (hx1 hx2 hx1_source hx1_kinds hx1_froms hx1_marks hx1_ends hx1_parts hx1_others hx1_followers hx1_begins hx1_source_ops hx1_source_numbers hx1_source_heights hx2_row : Nat) (x2_R : Nat) (x1_size : Int32) (x1_depth : Int32) (x1_knot : Int32) (x1_stands : Int32) (x1_source_size : Int32) (x1_source_ops : Nat → Int32) (x1_source_numbers : Nat → Int32) (x1_kinds : Nat → Int32) (x1_marks : Nat → Int32) (x1_parts : Nat → Int32) (x1_others : Nat → Int32) (x1_followers : Nat → Int32) (x1_begins : Nat → Int32) (x2_size : Int32) (x2_row : Nat → Int32) (a2 a3 : Int32) (q : (Nat → Int32) × Int32), f x2_R x1_source_ops x1_source_numbers x1_source_size x1_kinds x1_marks x1_parts x1_others x1_followers x1_begins x1_size x2_row x2_size a2 a3 = some q → ∀ (sz : Nat), Met l y_Scribe_writeBlock w_Scribe_writeBlock ({ frames := 103 + n, cells := 0, slots := 0, locals := 2466 + 25 * n }) (va_Pc [.ref hx1, .ref hx2, .int a2, .int a3] (gB D (gT cI cC) [(hx1, .inr (4, [.ref hx1_source, .ref hx1_kinds, .ref hx1_froms, .ref hx1_marks, .ref hx1_ends, .ref hx1_parts, .ref hx1_others, .ref hx1_followers, .ref hx1_begins, .int x1_size, .int x1_depth, .int x1_knot, .int x1_stands])), (hx1_source, .inr (2, [.ref hx1_source_ops, .ref hx1_source_numbers, .ref hx1_source_heights, .int x1_source_size])), (hx1_source_ops, .inl (cI, 30, .inl x1_source_ops)), (hx1_source_numbers, .inl (cI, 30, .inl x1_source_numbers)), (hx1_kinds, .inl (cI, 15, .inl x1_kinds)), (hx1_marks, .inl (cI, 15, .inl x1_marks)), (hx1_parts, .inl (cI, 15, .inl x1_parts)), (hx1_others, .inl (cI, 15, .inl x1_others)), (hx1_followers, .inl (cI, 15, .inl x1_followers)), (hx1_begins, .inl (cI, 30, .inl x1_begins)), (hx2, .inr (0, [.ref hx2_row, .int x2_size])), (hx2_row, .inl (cC, x2_R, .inl x2_row))] sz)) (gQv D (gT cI cC) [(hx1, .inr (4, [.ref hx1_source, .ref hx1_kinds, .ref hx1_froms, .ref hx1_marks, .ref hx1_ends, .ref hx1_parts, .ref hx1_others, .ref hx1_followers, .ref hx1_begins, .int x1_size, .int x1_depth, .int x1_knot, .int x1_stands])), (hx1_source, .inr (2, [.ref hx1_source_ops, .ref hx1_source_numbers, .ref hx1_source_heights, .int x1_source_size])), (hx1_source_ops, .inl (cI, 30, .inl x1_source_ops)), (hx1_source_numbers, .inl (cI, 30, .inl x1_source_numbers)), (hx1_kinds, .inl (cI, 15, .inl x1_kinds)), (hx1_marks, .inl (cI, 15, .inl x1_marks)), (hx1_parts, .inl (cI, 15, .inl x1_parts)), (hx1_others, .inl (cI, 15, .inl x1_others)), (hx1_followers, .inl (cI, 15, .inl x1_followers)), (hx1_begins, .inl (cI, 30, .inl x1_begins)), (hx2, .inr (0, [.ref hx2_row, .int q.2])), (hx2_row, .inl (cC, x2_R, .inl q.1))] (va_A [(hx1, .inr (4, [.ref hx1_source, .ref hx1_kinds, .ref hx1_froms, .ref hx1_marks, .ref hx1_ends, .ref hx1_parts, .ref hx1_others, .ref hx1_followers, .ref hx1_begins, .int x1_size, .int x1_depth, .int x1_knot, .int x1_stands])), (hx1_source, .inr (2, [.ref hx1_source_ops, .ref hx1_source_numbers, .ref hx1_source_heights, .int x1_source_size])), (hx1_source_ops, .inl (cI, 30, .inl x1_source_ops)), (hx1_source_numbers, .inl (cI, 30, .inl x1_source_numbers)), (hx1_kinds, .inl (cI, 15, .inl x1_kinds)), (hx1_marks, .inl (cI, 15, .inl x1_marks)), (hx1_parts, .inl (cI, 15, .inl x1_parts)), (hx1_others, .inl (cI, 15, .inl x1_others)), (hx1_followers, .inl (cI, 15, .inl x1_followers)), (hx1_begins, .inl (cI, 30, .inl x1_begins)), (hx2, .inr (0, [.ref hx2_row, .int x2_size])), (hx2_row, .inl (cC, x2_R, .inl x2_row))] sz)) 0 0 (va_A [(hx1, .inr (4, [.ref hx1_source, .ref hx1_kinds, .ref hx1_froms, .ref hx1_marks, .ref hx1_ends, .ref hx1_parts, .ref hx1_others, .ref hx1_followers, .ref hx1_begins, .int x1_size, .int x1_depth, .int x1_knot, .int x1_stands])), (hx1_source, .inr (2, [.ref hx1_source_ops, .ref hx1_source_numbers, .ref hx1_source_heights, .int x1_source_size])), (hx1_source_ops, .inl (cI, 30, .inl x1_source_ops)), (hx1_source_numbers, .inl (cI, 30, .inl x1_source_numbers)), (hx1_kinds, .inl (cI, 15, .inl x1_kinds)), (hx1_marks, .inl (cI, 15, .inl x1_marks)), (hx1_parts, .inl (cI, 15, .inl x1_parts)), (hx1_others, .inl (cI, 15, .inl x1_others)), (hx1_followers, .inl (cI, 15, .inl x1_followers)), (hx1_begins, .inl (cI, 30, .inl x1_begins)), (hx2, .inr (0, [.ref hx2_row, .int x2_size])), (hx2_row, .inl (cC, x2_R, .inl x2_row))] sz)
set_option maxHeartbeats 4000000 in
set_option maxRecDepth 100000 in
theorem cb_Scribe_writeFrom (l : Launch) (D : va_G) (cI cC : ClassId) (f_Scribe_writeStatement : Nat → (Nat → Int32) → (Nat → Int32) → Int32 → (Nat → Int32) → (Nat → Int32) → (Nat → Int32) → (Nat → Int32) → (Nat → Int32) → (Nat → Int32) → Int32 → (Nat → Int32) → Int32 → Int32 → Int32 → Option ((Nat → Int32) × Int32)) (n : Nat) (H_Scribe_writeStatement : K_Scribe_writeStatement l D cI cC f_Scribe_writeStatement n) : K_Scribe_writeFrom l D cI cC (gb_Scribe_writeFrom f_Scribe_writeStatement) (n + 1) := by
  intro hx1 hx2 hx1_source hx1_kinds hx1_froms hx1_marks hx1_ends hx1_parts hx1_others hx1_followers hx1_begins hx1_source_ops hx1_source_numbers hx1_source_heights hx2_row x2_R x1_size x1_depth x1_knot x1_stands x1_source_size x1_source_ops x1_source_numbers x1_kinds x1_marks x1_parts x1_others x1_followers x1_begins x2_size x2_row a2 a3 q h sz
  refine Met.ofW (cc := k_Scribe_writeFrom) (maxL := 6) (ret := none) (by decide) rfl ?_
  intro p e s m args below meth c s₁ B hml hv
  obtain ⟨rfl, hsz, hP, hK, hD0⟩ := hv
  have hx := B.exec
  have hb := B.bytes
  have hr := B.returns
  have hts : ∀ w ∈ lw_t, w.before ([.ref hx1, .ref hx2, .int a2, .int a3] : List Value).toArray s = true := fun w h => atoms_spec (ws := w_Scribe_writeFrom) B.pre w (List.mem_cons_of_mem _ h)
  have hown : s.vm.findClass R_Scribe = some m.cls := findClass_of_methodNamed B.named
  have hlocks := B.notSynchronized
  subst hsz
  have hD := hD0.self (sz := s.heap.size)
  generalize hAe : va_A [(hx1, .inr (4, [.ref hx1_source, .ref hx1_kinds, .ref hx1_froms, .ref hx1_marks, .ref hx1_ends, .ref hx1_parts, .ref hx1_others, .ref hx1_followers, .ref hx1_begins, .int x1_size, .int x1_depth, .int x1_knot, .int x1_stands])), (hx1_source, .inr (2, [.ref hx1_source_ops, .ref hx1_source_numbers, .ref hx1_source_heights, .int x1_source_size])), (hx1_source_ops, .inl (cI, 30, .inl x1_source_ops)), (hx1_source_numbers, .inl (cI, 30, .inl x1_source_numbers)), (hx1_kinds, .inl (cI, 15, .inl x1_kinds)), (hx1_marks, .inl (cI, 15, .inl x1_marks)), (hx1_parts, .inl (cI, 15, .inl x1_parts)), (hx1_others, .inl (cI, 15, .inl x1_others)), (hx1_followers, .inl (cI, 15, .inl x1_followers)), (hx1_begins, .inl (cI, 30, .inl x1_begins)), (hx2, .inr (0, [.ref hx2_row, .int x2_size])), (hx2_row, .inl (cC, x2_R, .inl x2_row))] s.heap.size = A at hD ⊢
  have hA : ∀ q : Nat, s.heap.size ≤ q → A q := fun q h => by rw [← hAe]; exact Or.inr h
  have hS : va_S A s.heap s.heap [] := va_S.rf
  have LP_13 : ∀ nn_13 : Nat, ∀ (x2_row : Nat → Int32) (x2_size : Int32) (v3 : Int32) (v4 : Int32) (v5 : Int32), b_Scribe_writeFrom_13 f_Scribe_writeStatement x2_R x1_source_ops x1_source_numbers x1_source_size x1_kinds x1_marks x1_parts x1_others x1_followers x1_begins x1_size nn_13 x2_row x2_size v3 v4 v5 = some q → gJ p l e (headSpec w_Scribe_writeFrom ({ frames := 103 + (n + 1), cells := 0, slots := 0, locals := 2466 + 25 * (n + 1) })).room s m ([.ref hx1, .ref hx2, .int a2, .int a3] : List Value).toArray below meth c D A 6 (MQ below (gQv D (gT cI cC) [(hx1, .inr (4, [.ref hx1_source, .ref hx1_kinds, .ref hx1_froms, .ref hx1_marks, .ref hx1_ends, .ref hx1_parts, .ref hx1_others, .ref hx1_followers, .ref hx1_begins, .int x1_size, .int x1_depth, .int x1_knot, .int x1_stands])), (hx1_source, .inr (2, [.ref hx1_source_ops, .ref hx1_source_numbers, .ref hx1_source_heights, .int x1_source_size])), (hx1_source_ops, .inl (cI, 30, .inl x1_source_ops)), (hx1_source_numbers, .inl (cI, 30, .inl x1_source_numbers)), (hx1_kinds, .inl (cI, 15, .inl x1_kinds)), (hx1_marks, .inl (cI, 15, .inl x1_marks)), (hx1_parts, .inl (cI, 15, .inl x1_parts)), (hx1_others, .inl (cI, 15, .inl x1_others)), (hx1_followers, .inl (cI, 15, .inl x1_followers)), (hx1_begins, .inl (cI, 30, .inl x1_begins)), (hx2, .inr (0, [.ref hx2_row, .int q.2])), (hx2_row, .inl (cC, x2_R, .inl q.1))] A) ([.ref hx1, .ref hx2, .int a2, .int a3] : List Value).toArray s 0 0 A) 13 [(hx1, .inr (4, [.ref hx1_source, .ref hx1_kinds, .ref hx1_froms, .ref hx1_marks, .ref hx1_ends, .ref hx1_parts, .ref hx1_others, .ref hx1_followers, .ref hx1_begins, .int x1_size, .int x1_depth, .int x1_knot, .int x1_stands])), (hx1_source, .inr (2, [.ref hx1_source_ops, .ref hx1_source_numbers, .ref hx1_source_heights, .int x1_source_size])), (hx1_source_ops, .inl (cI, 30, .inl x1_source_ops)), (hx1_source_numbers, .inl (cI, 30, .inl x1_source_numbers)), (hx1_kinds, .inl (cI, 15, .inl x1_kinds)), (hx1_marks, .inl (cI, 15, .inl x1_marks)), (hx1_parts, .inl (cI, 15, .inl x1_parts)), (hx1_others, .inl (cI, 15, .inl x1_others)), (hx1_followers, .inl (cI, 15, .inl x1_followers)), (hx1_begins, .inl (cI, 30, .inl x1_begins)), (hx2, .inr (0, [.ref hx2_row, .int x2_size])), (hx2_row, .inl (cC, x2_R, .inl x2_row))] [(0, .ref hx1), (1, .ref hx2), (3, .int v3), (4, .int v4), (5, .int v5)] [] := by
    intro nn_13
    induction nn_13 with
    | zero => intro x2_row x2_size v3 v4 v5 h; exact g_no h
    | succ nn_13 ih_13 =>
      intro x2_row x2_size v3 v4 v5 h H locs ls hP hD hS hl
      rw [b_Scribe_writeFrom_13] at h
      refine lv_iload hx hb d_Scribe_writeFrom_13 (lv_at hl 4 rfl) ?_
      refine lv_bipush (v := (15 : Int32)) hx hb d_Scribe_writeFrom_15 (by decide) ?_
      refine lv_icmp_ge (tgt := 51) hx hb d_Scribe_writeFrom_17 (by decide) (fun ec => ?_) (fun ec => ?_)
      · have h := g_t ec h
        cases h
        exact gr_v hx hb hr hlocks hK hP hD hS d_Scribe_writeFrom_51
      · have h := g_f ec h
        refine lv_aload_n hx hb d_Scribe_writeFrom_20 rfl (lv_at hl 0 rfl) ?_
        refine lv_iload hx hb d_Scribe_writeFrom_21 (lv_at hl 3 rfl) ?_
        obtain ⟨q1, hc, h⟩ := g_bd h
        refine gk_i (va_runV (As := [.int v4]) (rest := []) ⟨hx, hb, hml, hown, hts⟩ (c_Tree_holds l D cI cC hx1 hx1_source hx1_kinds hx1_froms hx1_marks hx1_ends hx1_parts hx1_others hx1_followers hx1_begins x1_size x1_depth x1_knot x1_stands v4 q1 hc _) (cwV 1 hts (gG_V mt_2_94 mt_2_95 mt_2_96 mt_1_5 mt_2_97) rfl rfl rfl (by decide +kernel) ⟨(show (0) + 1 ≤ 103 + (n + 1) by omega), (show 8 + (2 + 11) + (0) ≤ 2466 + 25 * (n + 1) by omega)⟩) (gpV hK hP hD [0] rfl (by decide) (ci := 4) 0 rfl rfl) rfl rfl hl.1 rfl (lv_room (Nat.le_of_ble_eq_true rfl)) d_Scribe_writeFrom_23 ⟨Nat.zero_le _, Nat.zero_le _⟩) hK hP hD hS hA [0] rfl (by decide) rfl rfl (fun H locs (hP : va_P D vwCl [(hx1, .inr (4, [.ref hx1_source, .ref hx1_kinds, .ref hx1_froms, .ref hx1_marks, .ref hx1_ends, .ref hx1_parts, .ref hx1_others, .ref hx1_followers, .ref hx1_begins, .int x1_size, .int x1_depth, .int x1_knot, .int x1_stands])), (hx1_source, .inr (2, [.ref hx1_source_ops, .ref hx1_source_numbers, .ref hx1_source_heights, .int x1_source_size])), (hx1_source_ops, .inl (cI, 30, .inl x1_source_ops)), (hx1_source_numbers, .inl (cI, 30, .inl x1_source_numbers)), (hx1_kinds, .inl (cI, 15, .inl x1_kinds)), (hx1_marks, .inl (cI, 15, .inl x1_marks)), (hx1_parts, .inl (cI, 15, .inl x1_parts)), (hx1_others, .inl (cI, 15, .inl x1_others)), (hx1_followers, .inl (cI, 15, .inl x1_followers)), (hx1_begins, .inl (cI, 30, .inl x1_begins)), (hx2, .inr (0, [.ref hx2_row, .int x2_size])), (hx2_row, .inl (cC, x2_R, .inl x2_row))] H) (hD : va_D A [(hx1, .inr (4, [.ref hx1_source, .ref hx1_kinds, .ref hx1_froms, .ref hx1_marks, .ref hx1_ends, .ref hx1_parts, .ref hx1_others, .ref hx1_followers, .ref hx1_begins, .int x1_size, .int x1_depth, .int x1_knot, .int x1_stands])), (hx1_source, .inr (2, [.ref hx1_source_ops, .ref hx1_source_numbers, .ref hx1_source_heights, .int x1_source_size])), (hx1_source_ops, .inl (cI, 30, .inl x1_source_ops)), (hx1_source_numbers, .inl (cI, 30, .inl x1_source_numbers)), (hx1_kinds, .inl (cI, 15, .inl x1_kinds)), (hx1_marks, .inl (cI, 15, .inl x1_marks)), (hx1_parts, .inl (cI, 15, .inl x1_parts)), (hx1_others, .inl (cI, 15, .inl x1_others)), (hx1_followers, .inl (cI, 15, .inl x1_followers)), (hx1_begins, .inl (cI, 30, .inl x1_begins)), (hx2, .inr (0, [.ref hx2_row, .int x2_size])), (hx2_row, .inl (cC, x2_R, .inl x2_row))]) hS => ?_)
        refine lv_if_eq (tgt := 51) hx hb d_Scribe_writeFrom_26 (by decide) (fun ec => ?_) (fun ec => ?_)
        · have h := g_t ec h
          cases h
          exact gr_v hx hb hr hlocks hK hP hD hS d_Scribe_writeFrom_51
        · have h := g_f ec h
          refine lv_aload_n hx hb d_Scribe_writeFrom_29 rfl (lv_at hl 0 rfl) ?_
          refine lv_aload_n hx hb d_Scribe_writeFrom_30 rfl (lv_at hl 1 rfl) ?_
          refine lv_iload hx hb d_Scribe_writeFrom_31 (lv_at hl 3 rfl) ?_
          refine lv_iload_n hx hb d_Scribe_writeFrom_33 rfl (lv_at hl 2 rfl) ?_
          obtain ⟨q2, hc, h⟩ := g_bd h
          refine gk_v (va_runS (As := [.ref hx1, .ref hx2, .int v4, .int v3]) (rest := []) ⟨hx, hb, hml, hown, hts⟩ (H_Scribe_writeStatement hx1 hx2 hx1_source hx1_kinds hx1_froms hx1_marks hx1_ends hx1_parts hx1_others hx1_followers hx1_begins hx1_source_ops hx1_source_numbers hx1_source_heights hx2_row x2_R x1_size x1_depth x1_knot x1_stands x1_source_size x1_source_ops x1_source_numbers x1_kinds x1_marks x1_parts x1_others x1_followers x1_begins x2_size x2_row v4 v3 q2 hc _) (va_cwS 4 hts (gG_S mt_2_98 mt_2_99 mt_1_10 mt_2_100) rfl rfl rfl (by decide +kernel) ⟨(show (103 + n) + 1 ≤ 103 + (n + 1) by omega), (show 8 + (6 + 11) + (2466 + 25 * n) ≤ 2466 + 25 * (n + 1) by omega)⟩) (gpS hK hP hD [0, 1, 2, 3, 4, 5, 6, 7, 8, 9, 10, 11] rfl (by decide)) rfl rfl hl.1 rfl (lv_room (Nat.le_of_ble_eq_true rfl)) d_Scribe_writeFrom_34 ⟨Nat.zero_le _, Nat.zero_le _⟩) hK hP hD hS hA [0, 1, 2, 3, 4, 5, 6, 7, 8, 9, 10, 11] rfl (by decide) rfl rfl (fun H locs (hP : va_P D vwCl [(hx1, .inr (4, [.ref hx1_source, .ref hx1_kinds, .ref hx1_froms, .ref hx1_marks, .ref hx1_ends, .ref hx1_parts, .ref hx1_others, .ref hx1_followers, .ref hx1_begins, .int x1_size, .int x1_depth, .int x1_knot, .int x1_stands])), (hx1_source, .inr (2, [.ref hx1_source_ops, .ref hx1_source_numbers, .ref hx1_source_heights, .int x1_source_size])), (hx1_source_ops, .inl (cI, 30, .inl x1_source_ops)), (hx1_source_numbers, .inl (cI, 30, .inl x1_source_numbers)), (hx1_kinds, .inl (cI, 15, .inl x1_kinds)), (hx1_marks, .inl (cI, 15, .inl x1_marks)), (hx1_parts, .inl (cI, 15, .inl x1_parts)), (hx1_others, .inl (cI, 15, .inl x1_others)), (hx1_followers, .inl (cI, 15, .inl x1_followers)), (hx1_begins, .inl (cI, 30, .inl x1_begins)), (hx2, .inr (0, [.ref hx2_row, .int q2.2])), (hx2_row, .inl (cC, x2_R, .inl q2.1))] H) (hD : va_D A [(hx1, .inr (4, [.ref hx1_source, .ref hx1_kinds, .ref hx1_froms, .ref hx1_marks, .ref hx1_ends, .ref hx1_parts, .ref hx1_others, .ref hx1_followers, .ref hx1_begins, .int x1_size, .int x1_depth, .int x1_knot, .int x1_stands])), (hx1_source, .inr (2, [.ref hx1_source_ops, .ref hx1_source_numbers, .ref hx1_source_heights, .int x1_source_size])), (hx1_source_ops, .inl (cI, 30, .inl x1_source_ops)), (hx1_source_numbers, .inl (cI, 30, .inl x1_source_numbers)), (hx1_kinds, .inl (cI, 15, .inl x1_kinds)), (hx1_marks, .inl (cI, 15, .inl x1_marks)), (hx1_parts, .inl (cI, 15, .inl x1_parts)), (hx1_others, .inl (cI, 15, .inl x1_others)), (hx1_followers, .inl (cI, 15, .inl x1_followers)), (hx1_begins, .inl (cI, 30, .inl x1_begins)), (hx2, .inr (0, [.ref hx2_row, .int q2.2])), (hx2_row, .inl (cC, x2_R, .inl q2.1))]) hS => ?_)
          refine lv_aload_n hx hb d_Scribe_writeFrom_37 rfl (lv_at hl 0 rfl) ?_
          refine lv_iload hx hb d_Scribe_writeFrom_38 (lv_at hl 3 rfl) ?_
          obtain ⟨q3, hc, h⟩ := g_bd h
          refine gk_i (va_runV (As := [.int v4]) (rest := []) ⟨hx, hb, hml, hown, hts⟩ (c_Tree_follower l D cI cC hx1 hx1_source hx1_kinds hx1_froms hx1_marks hx1_ends hx1_parts hx1_others hx1_followers hx1_begins x1_size x1_depth x1_knot x1_stands x1_followers v4 q3 hc _) (cwV 1 hts (gG_V mt_2_145 mt_2_146 mt_2_147 mt_1_5 mt_2_148) rfl rfl rfl (by decide +kernel) ⟨(show (1) + 1 ≤ 103 + (n + 1) by omega), (show 8 + (2 + 11) + (21) ≤ 2466 + 25 * (n + 1) by omega)⟩) (gpV hK hP hD [0, 8] rfl (by decide) (ci := 4) 0 rfl rfl) rfl rfl hl.1 rfl (lv_room (Nat.le_of_ble_eq_true rfl)) d_Scribe_writeFrom_40 ⟨Nat.zero_le _, Nat.zero_le _⟩) hK hP hD hS hA [0, 8] rfl (by decide) rfl rfl (fun H locs (hP : va_P D vwCl [(hx1, .inr (4, [.ref hx1_source, .ref hx1_kinds, .ref hx1_froms, .ref hx1_marks, .ref hx1_ends, .ref hx1_parts, .ref hx1_others, .ref hx1_followers, .ref hx1_begins, .int x1_size, .int x1_depth, .int x1_knot, .int x1_stands])), (hx1_source, .inr (2, [.ref hx1_source_ops, .ref hx1_source_numbers, .ref hx1_source_heights, .int x1_source_size])), (hx1_source_ops, .inl (cI, 30, .inl x1_source_ops)), (hx1_source_numbers, .inl (cI, 30, .inl x1_source_numbers)), (hx1_kinds, .inl (cI, 15, .inl x1_kinds)), (hx1_marks, .inl (cI, 15, .inl x1_marks)), (hx1_parts, .inl (cI, 15, .inl x1_parts)), (hx1_others, .inl (cI, 15, .inl x1_others)), (hx1_followers, .inl (cI, 15, .inl x1_followers)), (hx1_begins, .inl (cI, 30, .inl x1_begins)), (hx2, .inr (0, [.ref hx2_row, .int q2.2])), (hx2_row, .inl (cC, x2_R, .inl q2.1))] H) (hD : va_D A [(hx1, .inr (4, [.ref hx1_source, .ref hx1_kinds, .ref hx1_froms, .ref hx1_marks, .ref hx1_ends, .ref hx1_parts, .ref hx1_others, .ref hx1_followers, .ref hx1_begins, .int x1_size, .int x1_depth, .int x1_knot, .int x1_stands])), (hx1_source, .inr (2, [.ref hx1_source_ops, .ref hx1_source_numbers, .ref hx1_source_heights, .int x1_source_size])), (hx1_source_ops, .inl (cI, 30, .inl x1_source_ops)), (hx1_source_numbers, .inl (cI, 30, .inl x1_source_numbers)), (hx1_kinds, .inl (cI, 15, .inl x1_kinds)), (hx1_marks, .inl (cI, 15, .inl x1_marks)), (hx1_parts, .inl (cI, 15, .inl x1_parts)), (hx1_others, .inl (cI, 15, .inl x1_others)), (hx1_followers, .inl (cI, 15, .inl x1_followers)), (hx1_begins, .inl (cI, 30, .inl x1_begins)), (hx2, .inr (0, [.ref hx2_row, .int q2.2])), (hx2_row, .inl (cC, x2_R, .inl q2.1))]) hS => ?_)
          refine lv_istore (lv' := [(4, .int q3), (0, .ref hx1), (1, .ref hx2), (3, .int v3), (5, .int v5)]) hx hb d_Scribe_writeFrom_43 hl (by decide) rfl (fun ls hl => ?_)
          refine lv_iinc (v := v5 + (1 : Int32)) (lv' := [(5, .int (v5 + (1 : Int32))), (4, .int q3), (0, .ref hx1), (1, .ref hx2), (3, .int v3)]) hx hb d_Scribe_writeFrom_45 hl (k := 4) rfl rfl (by decide) rfl (fun ls hl => ?_)
          refine lv_goto (tgt := 13) hx hb d_Scribe_writeFrom_48 (by decide) ?_
          exact ih_13 _ _ _ _ _ h _ _ _ hP hD hS (lv_sub hl [2, 3, 4, 1, 0] rfl)
  have hP : va_P D vwCl [(hx1, .inr (4, [.ref hx1_source, .ref hx1_kinds, .ref hx1_froms, .ref hx1_marks, .ref hx1_ends, .ref hx1_parts, .ref hx1_others, .ref hx1_followers, .ref hx1_begins, .int x1_size, .int x1_depth, .int x1_knot, .int x1_stands])), (hx1_source, .inr (2, [.ref hx1_source_ops, .ref hx1_source_numbers, .ref hx1_source_heights, .int x1_source_size])), (hx1_source_ops, .inl (cI, 30, .inl x1_source_ops)), (hx1_source_numbers, .inl (cI, 30, .inl x1_source_numbers)), (hx1_kinds, .inl (cI, 15, .inl x1_kinds)), (hx1_marks, .inl (cI, 15, .inl x1_marks)), (hx1_parts, .inl (cI, 15, .inl x1_parts)), (hx1_others, .inl (cI, 15, .inl x1_others)), (hx1_followers, .inl (cI, 15, .inl x1_followers)), (hx1_begins, .inl (cI, 30, .inl x1_begins)), (hx2, .inr (0, [.ref hx2_row, .int x2_size])), (hx2_row, .inl (cC, x2_R, .inl x2_row))] s.heap := hP
  have hl := lv_entry ([.ref hx1, .ref hx2, .int a2, .int a3]) (n := 6) (Nat.le_of_ble_eq_true rfl)
  rw [lg_entry_eq]
  generalize (lg_sl ([.ref hx1, .ref hx2, .int a2, .int a3]) ++ List.replicate (6 - (lg_sl ([.ref hx1, .ref hx2, .int a2, .int a3])).length) Slot.unset).toArray = ls at hl ⊢
  have hl : lv_has ls 6 [(0, .ref hx1), (1, .ref hx2), (2, .int a2), (3, .int a3)] := hl
  unfold gb_Scribe_writeFrom at h
  refine lv_iload_n hx hb d_Scribe_writeFrom_0 rfl (lv_at hl 3 rfl) ?_
  refine lv_bipush (v := (15 : Int32)) hx hb d_Scribe_writeFrom_1 (by decide) ?_
  refine lv_icmp_le (tgt := 7) hx hb d_Scribe_writeFrom_3 (by decide) (fun ec => ?_) (fun ec => ?_)
  · have h := g_t ec h
    refine lv_iload_n hx hb d_Scribe_writeFrom_7 rfl (lv_at hl 2 rfl) ?_
    refine lv_istore (lv' := [(4, .int a2), (0, .ref hx1), (1, .ref hx2), (2, .int a2), (3, .int a3)]) hx hb d_Scribe_writeFrom_8 hl (by decide) rfl (fun ls hl => ?_)
    refine lv_iconst (v := (0 : Int32)) hx hb d_Scribe_writeFrom_10 (by decide) ?_
    refine lv_istore (lv' := [(5, .int (0 : Int32)), (4, .int a2), (0, .ref hx1), (1, .ref hx2), (2, .int a2), (3, .int a3)]) hx hb d_Scribe_writeFrom_11 hl (by decide) rfl (fun ls hl => ?_)
    exact LP_13 500 _ _ _ _ _ h _ _ _ hP hD hS (lv_sub hl [2, 3, 5, 1, 0] rfl)
  · have h := g_f ec h
    cases h
    exact gr_v hx hb hr hlocks hK hP hD hS d_Scribe_writeFrom_6
set_option maxHeartbeats 4000000 in
set_option maxRecDepth 100000 in
theorem cb_Scribe_writeStatement (l : Launch) (D : va_G) (cI cC : ClassId) (f_Scribe_writeBlock : Nat → (Nat → Int32) → (Nat → Int32) → Int32 → (Nat → Int32) → (Nat → Int32) → (Nat → Int32) → (Nat → Int32) → (Nat → Int32) → (Nat → Int32) → Int32 → (Nat → Int32) → Int32 → Int32 → Int32 → Option ((Nat → Int32) × Int32)) (n : Nat) (H_Scribe_writeBlock : K_Scribe_writeBlock l D cI cC f_Scribe_writeBlock n) : K_Scribe_writeStatement l D cI cC (gb_Scribe_writeStatement f_Scribe_writeBlock) (n + 1) := by
  intro hx1 hx2 hx1_source hx1_kinds hx1_froms hx1_marks hx1_ends hx1_parts hx1_others hx1_followers hx1_begins hx1_source_ops hx1_source_numbers hx1_source_heights hx2_row x2_R x1_size x1_depth x1_knot x1_stands x1_source_size x1_source_ops x1_source_numbers x1_kinds x1_marks x1_parts x1_others x1_followers x1_begins x2_size x2_row a2 a3 q h sz
  refine Met.ofW (cc := k_Scribe_writeStatement) (maxL := 6) (ret := none) (by decide) rfl ?_
  intro p e s m args below meth c s₁ B hml hv
  obtain ⟨rfl, hsz, hP, hK, hD0⟩ := hv
  have hx := B.exec
  have hb := B.bytes
  have hr := B.returns
  have hts : ∀ w ∈ lw_t, w.before ([.ref hx1, .ref hx2, .int a2, .int a3] : List Value).toArray s = true := fun w h => atoms_spec (ws := w_Scribe_writeStatement) B.pre w (List.mem_cons_of_mem _ h)
  have hown : s.vm.findClass R_Scribe = some m.cls := findClass_of_methodNamed B.named
  have hlocks := B.notSynchronized
  subst hsz
  have hD := hD0.self (sz := s.heap.size)
  generalize hAe : va_A [(hx1, .inr (4, [.ref hx1_source, .ref hx1_kinds, .ref hx1_froms, .ref hx1_marks, .ref hx1_ends, .ref hx1_parts, .ref hx1_others, .ref hx1_followers, .ref hx1_begins, .int x1_size, .int x1_depth, .int x1_knot, .int x1_stands])), (hx1_source, .inr (2, [.ref hx1_source_ops, .ref hx1_source_numbers, .ref hx1_source_heights, .int x1_source_size])), (hx1_source_ops, .inl (cI, 30, .inl x1_source_ops)), (hx1_source_numbers, .inl (cI, 30, .inl x1_source_numbers)), (hx1_kinds, .inl (cI, 15, .inl x1_kinds)), (hx1_marks, .inl (cI, 15, .inl x1_marks)), (hx1_parts, .inl (cI, 15, .inl x1_parts)), (hx1_others, .inl (cI, 15, .inl x1_others)), (hx1_followers, .inl (cI, 15, .inl x1_followers)), (hx1_begins, .inl (cI, 30, .inl x1_begins)), (hx2, .inr (0, [.ref hx2_row, .int x2_size])), (hx2_row, .inl (cC, x2_R, .inl x2_row))] s.heap.size = A at hD ⊢
  have hA : ∀ q : Nat, s.heap.size ≤ q → A q := fun q h => by rw [← hAe]; exact Or.inr h
  have hS : va_S A s.heap s.heap [] := va_S.rf
  have J_37 : ∀ (x2_row : Nat → Int32) (x2_size : Int32) (v2 : Int32) (v3 : Int32) (v4 : Int32) (v5 : Int32), b_Scribe_writeStatement_37 f_Scribe_writeBlock x2_R x1_source_ops x1_source_numbers x1_source_size x1_kinds x1_marks x1_parts x1_others x1_followers x1_begins x1_size x2_row x2_size v2 v3 v4 v5 = some q → gJ p l e (headSpec w_Scribe_writeStatement ({ frames := 103 + (n + 1), cells := 0, slots := 0, locals := 2466 + 25 * (n + 1) })).room s m ([.ref hx1, .ref hx2, .int a2, .int a3] : List Value).toArray below meth c D A 6 (MQ below (gQv D (gT cI cC) [(hx1, .inr (4, [.ref hx1_source, .ref hx1_kinds, .ref hx1_froms, .ref hx1_marks, .ref hx1_ends, .ref hx1_parts, .ref hx1_others, .ref hx1_followers, .ref hx1_begins, .int x1_size, .int x1_depth, .int x1_knot, .int x1_stands])), (hx1_source, .inr (2, [.ref hx1_source_ops, .ref hx1_source_numbers, .ref hx1_source_heights, .int x1_source_size])), (hx1_source_ops, .inl (cI, 30, .inl x1_source_ops)), (hx1_source_numbers, .inl (cI, 30, .inl x1_source_numbers)), (hx1_kinds, .inl (cI, 15, .inl x1_kinds)), (hx1_marks, .inl (cI, 15, .inl x1_marks)), (hx1_parts, .inl (cI, 15, .inl x1_parts)), (hx1_others, .inl (cI, 15, .inl x1_others)), (hx1_followers, .inl (cI, 15, .inl x1_followers)), (hx1_begins, .inl (cI, 30, .inl x1_begins)), (hx2, .inr (0, [.ref hx2_row, .int q.2])), (hx2_row, .inl (cC, x2_R, .inl q.1))] A) ([.ref hx1, .ref hx2, .int a2, .int a3] : List Value).toArray s 0 0 A) 37 [(hx1, .inr (4, [.ref hx1_source, .ref hx1_kinds, .ref hx1_froms, .ref hx1_marks, .ref hx1_ends, .ref hx1_parts, .ref hx1_others, .ref hx1_followers, .ref hx1_begins, .int x1_size, .int x1_depth, .int x1_knot, .int x1_stands])), (hx1_source, .inr (2, [.ref hx1_source_ops, .ref hx1_source_numbers, .ref hx1_source_heights, .int x1_source_size])), (hx1_source_ops, .inl (cI, 30, .inl x1_source_ops)), (hx1_source_numbers, .inl (cI, 30, .inl x1_source_numbers)), (hx1_kinds, .inl (cI, 15, .inl x1_kinds)), (hx1_marks, .inl (cI, 15, .inl x1_marks)), (hx1_parts, .inl (cI, 15, .inl x1_parts)), (hx1_others, .inl (cI, 15, .inl x1_others)), (hx1_followers, .inl (cI, 15, .inl x1_followers)), (hx1_begins, .inl (cI, 30, .inl x1_begins)), (hx2, .inr (0, [.ref hx2_row, .int x2_size])), (hx2_row, .inl (cC, x2_R, .inl x2_row))] [(0, .ref hx1), (1, .ref hx2), (2, .int v2), (3, .int v3), (4, .int v4), (5, .int v5)] [] := by
    intro x2_row x2_size v2 v3 v4 v5 h H locs ls hP hD hS hl
    unfold b_Scribe_writeStatement_37 at h
    refine lv_aload_n hx hb d_Scribe_writeStatement_37 rfl (lv_at hl 1 rfl) ?_
    refine lv_iload hx hb d_Scribe_writeStatement_38 (lv_at hl 4 rfl) ?_
    obtain ⟨q1, hc, h⟩ := g_bd h
    refine gk_i (va_runS (As := [.int v4]) (rest := [.ref hx2]) ⟨hx, hb, hml, hown, hts⟩ (c_Scribe_signOfStatement l D cI cC v4 q1 hc _) (va_cwS 1 hts (gG_S mt_2_119 mt_2_120 mt_1_10 mt_2_121) rfl rfl rfl (by decide +kernel) ⟨(show (0) + 1 ≤ 103 + (n + 1) by omega), (show 8 + (1 + 11) + (0) ≤ 2466 + 25 * (n + 1) by omega)⟩) (gpS hK hP hD [] rfl (by decide)) rfl rfl hl.1 rfl (lv_room (Nat.le_of_ble_eq_true rfl)) d_Scribe_writeStatement_40 ⟨Nat.zero_le _, Nat.zero_le _⟩) hK hP hD hS hA [] rfl (by decide) rfl rfl (fun H locs (hP : va_P D vwCl [(hx1, .inr (4, [.ref hx1_source, .ref hx1_kinds, .ref hx1_froms, .ref hx1_marks, .ref hx1_ends, .ref hx1_parts, .ref hx1_others, .ref hx1_followers, .ref hx1_begins, .int x1_size, .int x1_depth, .int x1_knot, .int x1_stands])), (hx1_source, .inr (2, [.ref hx1_source_ops, .ref hx1_source_numbers, .ref hx1_source_heights, .int x1_source_size])), (hx1_source_ops, .inl (cI, 30, .inl x1_source_ops)), (hx1_source_numbers, .inl (cI, 30, .inl x1_source_numbers)), (hx1_kinds, .inl (cI, 15, .inl x1_kinds)), (hx1_marks, .inl (cI, 15, .inl x1_marks)), (hx1_parts, .inl (cI, 15, .inl x1_parts)), (hx1_others, .inl (cI, 15, .inl x1_others)), (hx1_followers, .inl (cI, 15, .inl x1_followers)), (hx1_begins, .inl (cI, 30, .inl x1_begins)), (hx2, .inr (0, [.ref hx2_row, .int x2_size])), (hx2_row, .inl (cC, x2_R, .inl x2_row))] H) (hD : va_D A [(hx1, .inr (4, [.ref hx1_source, .ref hx1_kinds, .ref hx1_froms, .ref hx1_marks, .ref hx1_ends, .ref hx1_parts, .ref hx1_others, .ref hx1_followers, .ref hx1_begins, .int x1_size, .int x1_depth, .int x1_knot, .int x1_stands])), (hx1_source, .inr (2, [.ref hx1_source_ops, .ref hx1_source_numbers, .ref hx1_source_heights, .int x1_source_size])), (hx1_source_ops, .inl (cI, 30, .inl x1_source_ops)), (hx1_source_numbers, .inl (cI, 30, .inl x1_source_numbers)), (hx1_kinds, .inl (cI, 15, .inl x1_kinds)), (hx1_marks, .inl (cI, 15, .inl x1_marks)), (hx1_parts, .inl (cI, 15, .inl x1_parts)), (hx1_others, .inl (cI, 15, .inl x1_others)), (hx1_followers, .inl (cI, 15, .inl x1_followers)), (hx1_begins, .inl (cI, 30, .inl x1_begins)), (hx2, .inr (0, [.ref hx2_row, .int x2_size])), (hx2_row, .inl (cC, x2_R, .inl x2_row))]) hS => ?_)
    obtain ⟨q2, hc, h⟩ := g_bd h
    refine gk_i (va_runV (As := [.int q1]) (rest := []) ⟨hx, hb, hml, hown, hts⟩ (c_Characters_add l D cI cC hx2 hx2_row x2_R x2_size x2_row q1 q2 hc _) (cwV 1 hts (gG_V mt_2_115 mt_2_116 mt_2_117 mt_1_4 mt_2_118) rfl rfl rfl (by decide +kernel) ⟨(show (0) + 1 ≤ 103 + (n + 1) by omega), (show 8 + (2 + 11) + (0) ≤ 2466 + 25 * (n + 1) by omega)⟩) (gpV hK hP hD [10, 11] rfl (by decide) (ci := 0) 10 rfl rfl) rfl rfl hl.1 rfl (lv_room (Nat.le_of_ble_eq_true rfl)) d_Scribe_writeStatement_43 ⟨Nat.zero_le _, Nat.zero_le _⟩) hK hP hD hS hA [10, 11] rfl (by decide) rfl rfl (fun H locs (hP : va_P D vwCl [(hx1, .inr (4, [.ref hx1_source, .ref hx1_kinds, .ref hx1_froms, .ref hx1_marks, .ref hx1_ends, .ref hx1_parts, .ref hx1_others, .ref hx1_followers, .ref hx1_begins, .int x1_size, .int x1_depth, .int x1_knot, .int x1_stands])), (hx1_source, .inr (2, [.ref hx1_source_ops, .ref hx1_source_numbers, .ref hx1_source_heights, .int x1_source_size])), (hx1_source_ops, .inl (cI, 30, .inl x1_source_ops)), (hx1_source_numbers, .inl (cI, 30, .inl x1_source_numbers)), (hx1_kinds, .inl (cI, 15, .inl x1_kinds)), (hx1_marks, .inl (cI, 15, .inl x1_marks)), (hx1_parts, .inl (cI, 15, .inl x1_parts)), (hx1_others, .inl (cI, 15, .inl x1_others)), (hx1_followers, .inl (cI, 15, .inl x1_followers)), (hx1_begins, .inl (cI, 30, .inl x1_begins)), (hx2, .inr (0, [.ref hx2_row, .int q2.2.2])), (hx2_row, .inl (cC, x2_R, .inl q2.2.1))] H) (hD : va_D A [(hx1, .inr (4, [.ref hx1_source, .ref hx1_kinds, .ref hx1_froms, .ref hx1_marks, .ref hx1_ends, .ref hx1_parts, .ref hx1_others, .ref hx1_followers, .ref hx1_begins, .int x1_size, .int x1_depth, .int x1_knot, .int x1_stands])), (hx1_source, .inr (2, [.ref hx1_source_ops, .ref hx1_source_numbers, .ref hx1_source_heights, .int x1_source_size])), (hx1_source_ops, .inl (cI, 30, .inl x1_source_ops)), (hx1_source_numbers, .inl (cI, 30, .inl x1_source_numbers)), (hx1_kinds, .inl (cI, 15, .inl x1_kinds)), (hx1_marks, .inl (cI, 15, .inl x1_marks)), (hx1_parts, .inl (cI, 15, .inl x1_parts)), (hx1_others, .inl (cI, 15, .inl x1_others)), (hx1_followers, .inl (cI, 15, .inl x1_followers)), (hx1_begins, .inl (cI, 30, .inl x1_begins)), (hx2, .inr (0, [.ref hx2_row, .int q2.2.2])), (hx2_row, .inl (cC, x2_R, .inl q2.2.1))]) hS => ?_)
    refine lv_pop hx hb d_Scribe_writeStatement_46 rfl ?_
    refine lv_aload_n hx hb d_Scribe_writeStatement_47 rfl (lv_at hl 0 rfl) ?_
    refine lv_aload_n hx hb d_Scribe_writeStatement_48 rfl (lv_at hl 1 rfl) ?_
    refine lv_iload hx hb d_Scribe_writeStatement_49 (lv_at hl 5 rfl) ?_
    refine lv_iconst (v := (1 : Int32)) hx hb d_Scribe_writeStatement_51 (by decide) ?_
    refine lv_isub hx hb d_Scribe_writeStatement_52 ?_
    refine lv_iconst (v := (0 : Int32)) hx hb d_Scribe_writeStatement_53 (by decide) ?_
    obtain ⟨q3, hc, h⟩ := g_bd h
    refine gk_v (va_runS (As := [.ref hx1, .ref hx2, .int (v5 - (1 : Int32)), .int (0 : Int32)]) (rest := []) ⟨hx, hb, hml, hown, hts⟩ ((c_Scribe_writeExpression l D cI cC 100) hx1 hx2 hx1_source hx1_kinds hx1_froms hx1_marks hx1_ends hx1_parts hx1_others hx1_followers hx1_begins hx1_source_ops hx1_source_numbers hx1_source_heights hx2_row x2_R x1_size x1_depth x1_knot x1_stands x1_source_size x1_source_ops x1_source_numbers x1_begins q2.2.2 q2.2.1 (v5 - (1 : Int32)) (0 : Int32) q3 hc _) (va_cwS 4 hts (gG_S mt_2_122 mt_2_123 mt_1_10 mt_2_124) rfl rfl rfl (by decide +kernel) ⟨(show (102) + 1 ≤ 103 + (n + 1) by omega), (show 8 + (5 + 11) + (2442) ≤ 2466 + 25 * (n + 1) by omega)⟩) (gpS hK hP hD [0, 1, 2, 3, 9, 10, 11] rfl (by decide)) rfl rfl hl.1 rfl (lv_room (Nat.le_of_ble_eq_true rfl)) d_Scribe_writeStatement_54 ⟨Nat.zero_le _, Nat.zero_le _⟩) hK hP hD hS hA [0, 1, 2, 3, 9, 10, 11] rfl (by decide) rfl rfl (fun H locs (hP : va_P D vwCl [(hx1, .inr (4, [.ref hx1_source, .ref hx1_kinds, .ref hx1_froms, .ref hx1_marks, .ref hx1_ends, .ref hx1_parts, .ref hx1_others, .ref hx1_followers, .ref hx1_begins, .int x1_size, .int x1_depth, .int x1_knot, .int x1_stands])), (hx1_source, .inr (2, [.ref hx1_source_ops, .ref hx1_source_numbers, .ref hx1_source_heights, .int x1_source_size])), (hx1_source_ops, .inl (cI, 30, .inl x1_source_ops)), (hx1_source_numbers, .inl (cI, 30, .inl x1_source_numbers)), (hx1_kinds, .inl (cI, 15, .inl x1_kinds)), (hx1_marks, .inl (cI, 15, .inl x1_marks)), (hx1_parts, .inl (cI, 15, .inl x1_parts)), (hx1_others, .inl (cI, 15, .inl x1_others)), (hx1_followers, .inl (cI, 15, .inl x1_followers)), (hx1_begins, .inl (cI, 30, .inl x1_begins)), (hx2, .inr (0, [.ref hx2_row, .int q3.2])), (hx2_row, .inl (cC, x2_R, .inl q3.1))] H) (hD : va_D A [(hx1, .inr (4, [.ref hx1_source, .ref hx1_kinds, .ref hx1_froms, .ref hx1_marks, .ref hx1_ends, .ref hx1_parts, .ref hx1_others, .ref hx1_followers, .ref hx1_begins, .int x1_size, .int x1_depth, .int x1_knot, .int x1_stands])), (hx1_source, .inr (2, [.ref hx1_source_ops, .ref hx1_source_numbers, .ref hx1_source_heights, .int x1_source_size])), (hx1_source_ops, .inl (cI, 30, .inl x1_source_ops)), (hx1_source_numbers, .inl (cI, 30, .inl x1_source_numbers)), (hx1_kinds, .inl (cI, 15, .inl x1_kinds)), (hx1_marks, .inl (cI, 15, .inl x1_marks)), (hx1_parts, .inl (cI, 15, .inl x1_parts)), (hx1_others, .inl (cI, 15, .inl x1_others)), (hx1_followers, .inl (cI, 15, .inl x1_followers)), (hx1_begins, .inl (cI, 30, .inl x1_begins)), (hx2, .inr (0, [.ref hx2_row, .int q3.2])), (hx2_row, .inl (cC, x2_R, .inl q3.1))]) hS => ?_)
    refine lv_iload hx hb d_Scribe_writeStatement_57 (lv_at hl 4 rfl) ?_
    refine lv_iconst (v := (2 : Int32)) hx hb d_Scribe_writeStatement_59 (by decide) ?_
    refine lv_icmp_eq (tgt := 70) hx hb d_Scribe_writeStatement_60 (by decide) (fun ec => ?_) (fun ec => ?_)
    · have h := g_t ec h
      refine lv_aload_n hx hb d_Scribe_writeStatement_70 rfl (lv_at hl 1 rfl) ?_
      refine lv_bipush (v := (59 : Int32)) hx hb d_Scribe_writeStatement_71 (by decide) ?_
      obtain ⟨q4, hc, h⟩ := g_bd h
      refine gk_i (va_runV (As := [.int (59 : Int32)]) (rest := []) ⟨hx, hb, hml, hown, hts⟩ (c_Characters_add l D cI cC hx2 hx2_row x2_R q3.2 q3.1 (59 : Int32) q4 hc _) (cwV 1 hts (gG_V mt_2_115 mt_2_116 mt_2_117 mt_1_4 mt_2_118) rfl rfl rfl (by decide +kernel) ⟨(show (0) + 1 ≤ 103 + (n + 1) by omega), (show 8 + (2 + 11) + (0) ≤ 2466 + 25 * (n + 1) by omega)⟩) (gpV hK hP hD [10, 11] rfl (by decide) (ci := 0) 10 rfl rfl) rfl rfl hl.1 rfl (lv_room (Nat.le_of_ble_eq_true rfl)) d_Scribe_writeStatement_73 ⟨Nat.zero_le _, Nat.zero_le _⟩) hK hP hD hS hA [10, 11] rfl (by decide) rfl rfl (fun H locs (hP : va_P D vwCl [(hx1, .inr (4, [.ref hx1_source, .ref hx1_kinds, .ref hx1_froms, .ref hx1_marks, .ref hx1_ends, .ref hx1_parts, .ref hx1_others, .ref hx1_followers, .ref hx1_begins, .int x1_size, .int x1_depth, .int x1_knot, .int x1_stands])), (hx1_source, .inr (2, [.ref hx1_source_ops, .ref hx1_source_numbers, .ref hx1_source_heights, .int x1_source_size])), (hx1_source_ops, .inl (cI, 30, .inl x1_source_ops)), (hx1_source_numbers, .inl (cI, 30, .inl x1_source_numbers)), (hx1_kinds, .inl (cI, 15, .inl x1_kinds)), (hx1_marks, .inl (cI, 15, .inl x1_marks)), (hx1_parts, .inl (cI, 15, .inl x1_parts)), (hx1_others, .inl (cI, 15, .inl x1_others)), (hx1_followers, .inl (cI, 15, .inl x1_followers)), (hx1_begins, .inl (cI, 30, .inl x1_begins)), (hx2, .inr (0, [.ref hx2_row, .int q4.2.2])), (hx2_row, .inl (cC, x2_R, .inl q4.2.1))] H) (hD : va_D A [(hx1, .inr (4, [.ref hx1_source, .ref hx1_kinds, .ref hx1_froms, .ref hx1_marks, .ref hx1_ends, .ref hx1_parts, .ref hx1_others, .ref hx1_followers, .ref hx1_begins, .int x1_size, .int x1_depth, .int x1_knot, .int x1_stands])), (hx1_source, .inr (2, [.ref hx1_source_ops, .ref hx1_source_numbers, .ref hx1_source_heights, .int x1_source_size])), (hx1_source_ops, .inl (cI, 30, .inl x1_source_ops)), (hx1_source_numbers, .inl (cI, 30, .inl x1_source_numbers)), (hx1_kinds, .inl (cI, 15, .inl x1_kinds)), (hx1_marks, .inl (cI, 15, .inl x1_marks)), (hx1_parts, .inl (cI, 15, .inl x1_parts)), (hx1_others, .inl (cI, 15, .inl x1_others)), (hx1_followers, .inl (cI, 15, .inl x1_followers)), (hx1_begins, .inl (cI, 30, .inl x1_begins)), (hx2, .inr (0, [.ref hx2_row, .int q4.2.2])), (hx2_row, .inl (cC, x2_R, .inl q4.2.1))]) hS => ?_)
      refine lv_pop hx hb d_Scribe_writeStatement_76 rfl ?_
      cases h
      exact gr_v hx hb hr hlocks hK hP hD hS d_Scribe_writeStatement_77
    · have h := g_f ec h
      refine lv_iload hx hb d_Scribe_writeStatement_63 (lv_at hl 4 rfl) ?_
      refine lv_bipush (v := (10 : Int32)) hx hb d_Scribe_writeStatement_65 (by decide) ?_
      refine lv_icmp_ne (tgt := 78) hx hb d_Scribe_writeStatement_67 (by decide) (fun ec => ?_) (fun ec => ?_)
      · have h := g_f ec h
        refine lv_aload_n hx hb d_Scribe_writeStatement_78 rfl (lv_at hl 0 rfl) ?_
        refine lv_aload_n hx hb d_Scribe_writeStatement_79 rfl (lv_at hl 1 rfl) ?_
        refine lv_aload_n hx hb d_Scribe_writeStatement_80 rfl (lv_at hl 0 rfl) ?_
        refine lv_iload_n hx hb d_Scribe_writeStatement_81 rfl (lv_at hl 2 rfl) ?_
        obtain ⟨q5, hc, h⟩ := g_bd h
        refine gk_i (va_runV (As := [.int v2]) (rest := [.ref hx2, .ref hx1]) ⟨hx, hb, hml, hown, hts⟩ (c_Tree_part l D cI cC hx1 hx1_source hx1_kinds hx1_froms hx1_marks hx1_ends hx1_parts hx1_others hx1_followers hx1_begins x1_size x1_depth x1_knot x1_stands x1_parts v2 q5 hc _) (cwV 1 hts (gG_V mt_2_134 mt_2_135 mt_2_136 mt_1_5 mt_2_137) rfl rfl rfl (by decide +kernel) ⟨(show (1) + 1 ≤ 103 + (n + 1) by omega), (show 8 + (2 + 11) + (21) ≤ 2466 + 25 * (n + 1) by omega)⟩) (gpV hK hP hD [0, 6] rfl (by decide) (ci := 4) 0 rfl rfl) rfl rfl hl.1 rfl (lv_room (Nat.le_of_ble_eq_true rfl)) d_Scribe_writeStatement_82 ⟨Nat.zero_le _, Nat.zero_le _⟩) hK hP hD hS hA [0, 6] rfl (by decide) rfl rfl (fun H locs (hP : va_P D vwCl [(hx1, .inr (4, [.ref hx1_source, .ref hx1_kinds, .ref hx1_froms, .ref hx1_marks, .ref hx1_ends, .ref hx1_parts, .ref hx1_others, .ref hx1_followers, .ref hx1_begins, .int x1_size, .int x1_depth, .int x1_knot, .int x1_stands])), (hx1_source, .inr (2, [.ref hx1_source_ops, .ref hx1_source_numbers, .ref hx1_source_heights, .int x1_source_size])), (hx1_source_ops, .inl (cI, 30, .inl x1_source_ops)), (hx1_source_numbers, .inl (cI, 30, .inl x1_source_numbers)), (hx1_kinds, .inl (cI, 15, .inl x1_kinds)), (hx1_marks, .inl (cI, 15, .inl x1_marks)), (hx1_parts, .inl (cI, 15, .inl x1_parts)), (hx1_others, .inl (cI, 15, .inl x1_others)), (hx1_followers, .inl (cI, 15, .inl x1_followers)), (hx1_begins, .inl (cI, 30, .inl x1_begins)), (hx2, .inr (0, [.ref hx2_row, .int q3.2])), (hx2_row, .inl (cC, x2_R, .inl q3.1))] H) (hD : va_D A [(hx1, .inr (4, [.ref hx1_source, .ref hx1_kinds, .ref hx1_froms, .ref hx1_marks, .ref hx1_ends, .ref hx1_parts, .ref hx1_others, .ref hx1_followers, .ref hx1_begins, .int x1_size, .int x1_depth, .int x1_knot, .int x1_stands])), (hx1_source, .inr (2, [.ref hx1_source_ops, .ref hx1_source_numbers, .ref hx1_source_heights, .int x1_source_size])), (hx1_source_ops, .inl (cI, 30, .inl x1_source_ops)), (hx1_source_numbers, .inl (cI, 30, .inl x1_source_numbers)), (hx1_kinds, .inl (cI, 15, .inl x1_kinds)), (hx1_marks, .inl (cI, 15, .inl x1_marks)), (hx1_parts, .inl (cI, 15, .inl x1_parts)), (hx1_others, .inl (cI, 15, .inl x1_others)), (hx1_followers, .inl (cI, 15, .inl x1_followers)), (hx1_begins, .inl (cI, 30, .inl x1_begins)), (hx2, .inr (0, [.ref hx2_row, .int q3.2])), (hx2_row, .inl (cC, x2_R, .inl q3.1))]) hS => ?_)
        refine lv_iload_n hx hb d_Scribe_writeStatement_85 rfl (lv_at hl 3 rfl) ?_
        obtain ⟨q6, hc, h⟩ := g_bd h
        refine gk_v (va_runS (As := [.ref hx1, .ref hx2, .int q5, .int v3]) (rest := []) ⟨hx, hb, hml, hown, hts⟩ (H_Scribe_writeBlock hx1 hx2 hx1_source hx1_kinds hx1_froms hx1_marks hx1_ends hx1_parts hx1_others hx1_followers hx1_begins hx1_source_ops hx1_source_numbers hx1_source_heights hx2_row x2_R x1_size x1_depth x1_knot x1_stands x1_source_size x1_source_ops x1_source_numbers x1_kinds x1_marks x1_parts x1_others x1_followers x1_begins q3.2 q3.1 q5 v3 q6 hc _) (va_cwS 4 hts (gG_S mt_2_138 mt_2_139 mt_1_10 mt_2_140) rfl rfl rfl (by decide +kernel) ⟨(show (103 + n) + 1 ≤ 103 + (n + 1) by omega), (show 8 + (4 + 11) + (2466 + 25 * n) ≤ 2466 + 25 * (n + 1) by omega)⟩) (gpS hK hP hD [0, 1, 2, 3, 4, 5, 6, 7, 8, 9, 10, 11] rfl (by decide)) rfl rfl hl.1 rfl (lv_room (Nat.le_of_ble_eq_true rfl)) d_Scribe_writeStatement_86 ⟨Nat.zero_le _, Nat.zero_le _⟩) hK hP hD hS hA [0, 1, 2, 3, 4, 5, 6, 7, 8, 9, 10, 11] rfl (by decide) rfl rfl (fun H locs (hP : va_P D vwCl [(hx1, .inr (4, [.ref hx1_source, .ref hx1_kinds, .ref hx1_froms, .ref hx1_marks, .ref hx1_ends, .ref hx1_parts, .ref hx1_others, .ref hx1_followers, .ref hx1_begins, .int x1_size, .int x1_depth, .int x1_knot, .int x1_stands])), (hx1_source, .inr (2, [.ref hx1_source_ops, .ref hx1_source_numbers, .ref hx1_source_heights, .int x1_source_size])), (hx1_source_ops, .inl (cI, 30, .inl x1_source_ops)), (hx1_source_numbers, .inl (cI, 30, .inl x1_source_numbers)), (hx1_kinds, .inl (cI, 15, .inl x1_kinds)), (hx1_marks, .inl (cI, 15, .inl x1_marks)), (hx1_parts, .inl (cI, 15, .inl x1_parts)), (hx1_others, .inl (cI, 15, .inl x1_others)), (hx1_followers, .inl (cI, 15, .inl x1_followers)), (hx1_begins, .inl (cI, 30, .inl x1_begins)), (hx2, .inr (0, [.ref hx2_row, .int q6.2])), (hx2_row, .inl (cC, x2_R, .inl q6.1))] H) (hD : va_D A [(hx1, .inr (4, [.ref hx1_source, .ref hx1_kinds, .ref hx1_froms, .ref hx1_marks, .ref hx1_ends, .ref hx1_parts, .ref hx1_others, .ref hx1_followers, .ref hx1_begins, .int x1_size, .int x1_depth, .int x1_knot, .int x1_stands])), (hx1_source, .inr (2, [.ref hx1_source_ops, .ref hx1_source_numbers, .ref hx1_source_heights, .int x1_source_size])), (hx1_source_ops, .inl (cI, 30, .inl x1_source_ops)), (hx1_source_numbers, .inl (cI, 30, .inl x1_source_numbers)), (hx1_kinds, .inl (cI, 15, .inl x1_kinds)), (hx1_marks, .inl (cI, 15, .inl x1_marks)), (hx1_parts, .inl (cI, 15, .inl x1_parts)), (hx1_others, .inl (cI, 15, .inl x1_others)), (hx1_followers, .inl (cI, 15, .inl x1_followers)), (hx1_begins, .inl (cI, 30, .inl x1_begins)), (hx2, .inr (0, [.ref hx2_row, .int q6.2])), (hx2_row, .inl (cC, x2_R, .inl q6.1))]) hS => ?_)
        refine lv_iload hx hb d_Scribe_writeStatement_89 (lv_at hl 4 rfl) ?_
        refine lv_bipush (v := (13 : Int32)) hx hb d_Scribe_writeStatement_91 (by decide) ?_
        refine lv_icmp_ne (tgt := 114) hx hb d_Scribe_writeStatement_93 (by decide) (fun ec => ?_) (fun ec => ?_)
        · have h := g_f ec h
          cases h
          exact gr_v hx hb hr hlocks hK hP hD hS d_Scribe_writeStatement_114
        · have h := g_t ec h
          refine lv_aload_n hx hb d_Scribe_writeStatement_96 rfl (lv_at hl 1 rfl) ?_
          refine lv_bipush (v := (58 : Int32)) hx hb d_Scribe_writeStatement_97 (by decide) ?_
          obtain ⟨q7, hc, h⟩ := g_bd h
          refine gk_i (va_runV (As := [.int (58 : Int32)]) (rest := []) ⟨hx, hb, hml, hown, hts⟩ (c_Characters_add l D cI cC hx2 hx2_row x2_R q6.2 q6.1 (58 : Int32) q7 hc _) (cwV 1 hts (gG_V mt_2_115 mt_2_116 mt_2_117 mt_1_4 mt_2_118) rfl rfl rfl (by decide +kernel) ⟨(show (0) + 1 ≤ 103 + (n + 1) by omega), (show 8 + (2 + 11) + (0) ≤ 2466 + 25 * (n + 1) by omega)⟩) (gpV hK hP hD [10, 11] rfl (by decide) (ci := 0) 10 rfl rfl) rfl rfl hl.1 rfl (lv_room (Nat.le_of_ble_eq_true rfl)) d_Scribe_writeStatement_99 ⟨Nat.zero_le _, Nat.zero_le _⟩) hK hP hD hS hA [10, 11] rfl (by decide) rfl rfl (fun H locs (hP : va_P D vwCl [(hx1, .inr (4, [.ref hx1_source, .ref hx1_kinds, .ref hx1_froms, .ref hx1_marks, .ref hx1_ends, .ref hx1_parts, .ref hx1_others, .ref hx1_followers, .ref hx1_begins, .int x1_size, .int x1_depth, .int x1_knot, .int x1_stands])), (hx1_source, .inr (2, [.ref hx1_source_ops, .ref hx1_source_numbers, .ref hx1_source_heights, .int x1_source_size])), (hx1_source_ops, .inl (cI, 30, .inl x1_source_ops)), (hx1_source_numbers, .inl (cI, 30, .inl x1_source_numbers)), (hx1_kinds, .inl (cI, 15, .inl x1_kinds)), (hx1_marks, .inl (cI, 15, .inl x1_marks)), (hx1_parts, .inl (cI, 15, .inl x1_parts)), (hx1_others, .inl (cI, 15, .inl x1_others)), (hx1_followers, .inl (cI, 15, .inl x1_followers)), (hx1_begins, .inl (cI, 30, .inl x1_begins)), (hx2, .inr (0, [.ref hx2_row, .int q7.2.2])), (hx2_row, .inl (cC, x2_R, .inl q7.2.1))] H) (hD : va_D A [(hx1, .inr (4, [.ref hx1_source, .ref hx1_kinds, .ref hx1_froms, .ref hx1_marks, .ref hx1_ends, .ref hx1_parts, .ref hx1_others, .ref hx1_followers, .ref hx1_begins, .int x1_size, .int x1_depth, .int x1_knot, .int x1_stands])), (hx1_source, .inr (2, [.ref hx1_source_ops, .ref hx1_source_numbers, .ref hx1_source_heights, .int x1_source_size])), (hx1_source_ops, .inl (cI, 30, .inl x1_source_ops)), (hx1_source_numbers, .inl (cI, 30, .inl x1_source_numbers)), (hx1_kinds, .inl (cI, 15, .inl x1_kinds)), (hx1_marks, .inl (cI, 15, .inl x1_marks)), (hx1_parts, .inl (cI, 15, .inl x1_parts)), (hx1_others, .inl (cI, 15, .inl x1_others)), (hx1_followers, .inl (cI, 15, .inl x1_followers)), (hx1_begins, .inl (cI, 30, .inl x1_begins)), (hx2, .inr (0, [.ref hx2_row, .int q7.2.2])), (hx2_row, .inl (cC, x2_R, .inl q7.2.1))]) hS => ?_)
          refine lv_pop hx hb d_Scribe_writeStatement_102 rfl ?_
          refine lv_aload_n hx hb d_Scribe_writeStatement_103 rfl (lv_at hl 0 rfl) ?_
          refine lv_aload_n hx hb d_Scribe_writeStatement_104 rfl (lv_at hl 1 rfl) ?_
          refine lv_aload_n hx hb d_Scribe_writeStatement_105 rfl (lv_at hl 0 rfl) ?_
          refine lv_iload_n hx hb d_Scribe_writeStatement_106 rfl (lv_at hl 2 rfl) ?_
          obtain ⟨q8, hc, h⟩ := g_bd h
          refine gk_i (va_runV (As := [.int v2]) (rest := [.ref hx2, .ref hx1]) ⟨hx, hb, hml, hown, hts⟩ (c_Tree_other l D cI cC hx1 hx1_source hx1_kinds hx1_froms hx1_marks hx1_ends hx1_parts hx1_others hx1_followers hx1_begins x1_size x1_depth x1_knot x1_stands x1_others v2 q8 hc _) (cwV 1 hts (gG_V mt_2_141 mt_2_142 mt_2_143 mt_1_5 mt_2_144) rfl rfl rfl (by decide +kernel) ⟨(show (1) + 1 ≤ 103 + (n + 1) by omega), (show 8 + (2 + 11) + (21) ≤ 2466 + 25 * (n + 1) by omega)⟩) (gpV hK hP hD [0, 7] rfl (by decide) (ci := 4) 0 rfl rfl) rfl rfl hl.1 rfl (lv_room (Nat.le_of_ble_eq_true rfl)) d_Scribe_writeStatement_107 ⟨Nat.zero_le _, Nat.zero_le _⟩) hK hP hD hS hA [0, 7] rfl (by decide) rfl rfl (fun H locs (hP : va_P D vwCl [(hx1, .inr (4, [.ref hx1_source, .ref hx1_kinds, .ref hx1_froms, .ref hx1_marks, .ref hx1_ends, .ref hx1_parts, .ref hx1_others, .ref hx1_followers, .ref hx1_begins, .int x1_size, .int x1_depth, .int x1_knot, .int x1_stands])), (hx1_source, .inr (2, [.ref hx1_source_ops, .ref hx1_source_numbers, .ref hx1_source_heights, .int x1_source_size])), (hx1_source_ops, .inl (cI, 30, .inl x1_source_ops)), (hx1_source_numbers, .inl (cI, 30, .inl x1_source_numbers)), (hx1_kinds, .inl (cI, 15, .inl x1_kinds)), (hx1_marks, .inl (cI, 15, .inl x1_marks)), (hx1_parts, .inl (cI, 15, .inl x1_parts)), (hx1_others, .inl (cI, 15, .inl x1_others)), (hx1_followers, .inl (cI, 15, .inl x1_followers)), (hx1_begins, .inl (cI, 30, .inl x1_begins)), (hx2, .inr (0, [.ref hx2_row, .int q7.2.2])), (hx2_row, .inl (cC, x2_R, .inl q7.2.1))] H) (hD : va_D A [(hx1, .inr (4, [.ref hx1_source, .ref hx1_kinds, .ref hx1_froms, .ref hx1_marks, .ref hx1_ends, .ref hx1_parts, .ref hx1_others, .ref hx1_followers, .ref hx1_begins, .int x1_size, .int x1_depth, .int x1_knot, .int x1_stands])), (hx1_source, .inr (2, [.ref hx1_source_ops, .ref hx1_source_numbers, .ref hx1_source_heights, .int x1_source_size])), (hx1_source_ops, .inl (cI, 30, .inl x1_source_ops)), (hx1_source_numbers, .inl (cI, 30, .inl x1_source_numbers)), (hx1_kinds, .inl (cI, 15, .inl x1_kinds)), (hx1_marks, .inl (cI, 15, .inl x1_marks)), (hx1_parts, .inl (cI, 15, .inl x1_parts)), (hx1_others, .inl (cI, 15, .inl x1_others)), (hx1_followers, .inl (cI, 15, .inl x1_followers)), (hx1_begins, .inl (cI, 30, .inl x1_begins)), (hx2, .inr (0, [.ref hx2_row, .int q7.2.2])), (hx2_row, .inl (cC, x2_R, .inl q7.2.1))]) hS => ?_)
          refine lv_iload_n hx hb d_Scribe_writeStatement_110 rfl (lv_at hl 3 rfl) ?_
          obtain ⟨q9, hc, h⟩ := g_bd h
          refine gk_v (va_runS (As := [.ref hx1, .ref hx2, .int q8, .int v3]) (rest := []) ⟨hx, hb, hml, hown, hts⟩ (H_Scribe_writeBlock hx1 hx2 hx1_source hx1_kinds hx1_froms hx1_marks hx1_ends hx1_parts hx1_others hx1_followers hx1_begins hx1_source_ops hx1_source_numbers hx1_source_heights hx2_row x2_R x1_size x1_depth x1_knot x1_stands x1_source_size x1_source_ops x1_source_numbers x1_kinds x1_marks x1_parts x1_others x1_followers x1_begins q7.2.2 q7.2.1 q8 v3 q9 hc _) (va_cwS 4 hts (gG_S mt_2_138 mt_2_139 mt_1_10 mt_2_140) rfl rfl rfl (by decide +kernel) ⟨(show (103 + n) + 1 ≤ 103 + (n + 1) by omega), (show 8 + (4 + 11) + (2466 + 25 * n) ≤ 2466 + 25 * (n + 1) by omega)⟩) (gpS hK hP hD [0, 1, 2, 3, 4, 5, 6, 7, 8, 9, 10, 11] rfl (by decide)) rfl rfl hl.1 rfl (lv_room (Nat.le_of_ble_eq_true rfl)) d_Scribe_writeStatement_111 ⟨Nat.zero_le _, Nat.zero_le _⟩) hK hP hD hS hA [0, 1, 2, 3, 4, 5, 6, 7, 8, 9, 10, 11] rfl (by decide) rfl rfl (fun H locs (hP : va_P D vwCl [(hx1, .inr (4, [.ref hx1_source, .ref hx1_kinds, .ref hx1_froms, .ref hx1_marks, .ref hx1_ends, .ref hx1_parts, .ref hx1_others, .ref hx1_followers, .ref hx1_begins, .int x1_size, .int x1_depth, .int x1_knot, .int x1_stands])), (hx1_source, .inr (2, [.ref hx1_source_ops, .ref hx1_source_numbers, .ref hx1_source_heights, .int x1_source_size])), (hx1_source_ops, .inl (cI, 30, .inl x1_source_ops)), (hx1_source_numbers, .inl (cI, 30, .inl x1_source_numbers)), (hx1_kinds, .inl (cI, 15, .inl x1_kinds)), (hx1_marks, .inl (cI, 15, .inl x1_marks)), (hx1_parts, .inl (cI, 15, .inl x1_parts)), (hx1_others, .inl (cI, 15, .inl x1_others)), (hx1_followers, .inl (cI, 15, .inl x1_followers)), (hx1_begins, .inl (cI, 30, .inl x1_begins)), (hx2, .inr (0, [.ref hx2_row, .int q9.2])), (hx2_row, .inl (cC, x2_R, .inl q9.1))] H) (hD : va_D A [(hx1, .inr (4, [.ref hx1_source, .ref hx1_kinds, .ref hx1_froms, .ref hx1_marks, .ref hx1_ends, .ref hx1_parts, .ref hx1_others, .ref hx1_followers, .ref hx1_begins, .int x1_size, .int x1_depth, .int x1_knot, .int x1_stands])), (hx1_source, .inr (2, [.ref hx1_source_ops, .ref hx1_source_numbers, .ref hx1_source_heights, .int x1_source_size])), (hx1_source_ops, .inl (cI, 30, .inl x1_source_ops)), (hx1_source_numbers, .inl (cI, 30, .inl x1_source_numbers)), (hx1_kinds, .inl (cI, 15, .inl x1_kinds)), (hx1_marks, .inl (cI, 15, .inl x1_marks)), (hx1_parts, .inl (cI, 15, .inl x1_parts)), (hx1_others, .inl (cI, 15, .inl x1_others)), (hx1_followers, .inl (cI, 15, .inl x1_followers)), (hx1_begins, .inl (cI, 30, .inl x1_begins)), (hx2, .inr (0, [.ref hx2_row, .int q9.2])), (hx2_row, .inl (cC, x2_R, .inl q9.1))]) hS => ?_)
          cases h
          exact gr_v hx hb hr hlocks hK hP hD hS d_Scribe_writeStatement_114
      · have h := g_t ec h
        refine lv_aload_n hx hb d_Scribe_writeStatement_70 rfl (lv_at hl 1 rfl) ?_
        refine lv_bipush (v := (59 : Int32)) hx hb d_Scribe_writeStatement_71 (by decide) ?_
        obtain ⟨q10, hc, h⟩ := g_bd h
        refine gk_i (va_runV (As := [.int (59 : Int32)]) (rest := []) ⟨hx, hb, hml, hown, hts⟩ (c_Characters_add l D cI cC hx2 hx2_row x2_R q3.2 q3.1 (59 : Int32) q10 hc _) (cwV 1 hts (gG_V mt_2_115 mt_2_116 mt_2_117 mt_1_4 mt_2_118) rfl rfl rfl (by decide +kernel) ⟨(show (0) + 1 ≤ 103 + (n + 1) by omega), (show 8 + (2 + 11) + (0) ≤ 2466 + 25 * (n + 1) by omega)⟩) (gpV hK hP hD [10, 11] rfl (by decide) (ci := 0) 10 rfl rfl) rfl rfl hl.1 rfl (lv_room (Nat.le_of_ble_eq_true rfl)) d_Scribe_writeStatement_73 ⟨Nat.zero_le _, Nat.zero_le _⟩) hK hP hD hS hA [10, 11] rfl (by decide) rfl rfl (fun H locs (hP : va_P D vwCl [(hx1, .inr (4, [.ref hx1_source, .ref hx1_kinds, .ref hx1_froms, .ref hx1_marks, .ref hx1_ends, .ref hx1_parts, .ref hx1_others, .ref hx1_followers, .ref hx1_begins, .int x1_size, .int x1_depth, .int x1_knot, .int x1_stands])), (hx1_source, .inr (2, [.ref hx1_source_ops, .ref hx1_source_numbers, .ref hx1_source_heights, .int x1_source_size])), (hx1_source_ops, .inl (cI, 30, .inl x1_source_ops)), (hx1_source_numbers, .inl (cI, 30, .inl x1_source_numbers)), (hx1_kinds, .inl (cI, 15, .inl x1_kinds)), (hx1_marks, .inl (cI, 15, .inl x1_marks)), (hx1_parts, .inl (cI, 15, .inl x1_parts)), (hx1_others, .inl (cI, 15, .inl x1_others)), (hx1_followers, .inl (cI, 15, .inl x1_followers)), (hx1_begins, .inl (cI, 30, .inl x1_begins)), (hx2, .inr (0, [.ref hx2_row, .int q10.2.2])), (hx2_row, .inl (cC, x2_R, .inl q10.2.1))] H) (hD : va_D A [(hx1, .inr (4, [.ref hx1_source, .ref hx1_kinds, .ref hx1_froms, .ref hx1_marks, .ref hx1_ends, .ref hx1_parts, .ref hx1_others, .ref hx1_followers, .ref hx1_begins, .int x1_size, .int x1_depth, .int x1_knot, .int x1_stands])), (hx1_source, .inr (2, [.ref hx1_source_ops, .ref hx1_source_numbers, .ref hx1_source_heights, .int x1_source_size])), (hx1_source_ops, .inl (cI, 30, .inl x1_source_ops)), (hx1_source_numbers, .inl (cI, 30, .inl x1_source_numbers)), (hx1_kinds, .inl (cI, 15, .inl x1_kinds)), (hx1_marks, .inl (cI, 15, .inl x1_marks)), (hx1_parts, .inl (cI, 15, .inl x1_parts)), (hx1_others, .inl (cI, 15, .inl x1_others)), (hx1_followers, .inl (cI, 15, .inl x1_followers)), (hx1_begins, .inl (cI, 30, .inl x1_begins)), (hx2, .inr (0, [.ref hx2_row, .int q10.2.2])), (hx2_row, .inl (cC, x2_R, .inl q10.2.1))]) hS => ?_)
        refine lv_pop hx hb d_Scribe_writeStatement_76 rfl ?_
        cases h
        exact gr_v hx hb hr hlocks hK hP hD hS d_Scribe_writeStatement_77
  have hP : va_P D vwCl [(hx1, .inr (4, [.ref hx1_source, .ref hx1_kinds, .ref hx1_froms, .ref hx1_marks, .ref hx1_ends, .ref hx1_parts, .ref hx1_others, .ref hx1_followers, .ref hx1_begins, .int x1_size, .int x1_depth, .int x1_knot, .int x1_stands])), (hx1_source, .inr (2, [.ref hx1_source_ops, .ref hx1_source_numbers, .ref hx1_source_heights, .int x1_source_size])), (hx1_source_ops, .inl (cI, 30, .inl x1_source_ops)), (hx1_source_numbers, .inl (cI, 30, .inl x1_source_numbers)), (hx1_kinds, .inl (cI, 15, .inl x1_kinds)), (hx1_marks, .inl (cI, 15, .inl x1_marks)), (hx1_parts, .inl (cI, 15, .inl x1_parts)), (hx1_others, .inl (cI, 15, .inl x1_others)), (hx1_followers, .inl (cI, 15, .inl x1_followers)), (hx1_begins, .inl (cI, 30, .inl x1_begins)), (hx2, .inr (0, [.ref hx2_row, .int x2_size])), (hx2_row, .inl (cC, x2_R, .inl x2_row))] s.heap := hP
  have hl := lv_entry ([.ref hx1, .ref hx2, .int a2, .int a3]) (n := 6) (Nat.le_of_ble_eq_true rfl)
  rw [lg_entry_eq]
  generalize (lg_sl ([.ref hx1, .ref hx2, .int a2, .int a3]) ++ List.replicate (6 - (lg_sl ([.ref hx1, .ref hx2, .int a2, .int a3])).length) Slot.unset).toArray = ls at hl ⊢
  have hl : lv_has ls 6 [(0, .ref hx1), (1, .ref hx2), (2, .int a2), (3, .int a3)] := hl
  unfold gb_Scribe_writeStatement at h
  refine lv_aload_n hx hb d_Scribe_writeStatement_0 rfl (lv_at hl 0 rfl) ?_
  refine lv_iload_n hx hb d_Scribe_writeStatement_1 rfl (lv_at hl 2 rfl) ?_
  obtain ⟨q1, hc, h⟩ := g_bd h
  refine gk_i (va_runV (As := [.int a2]) (rest := []) ⟨hx, hb, hml, hown, hts⟩ (c_Tree_kind l D cI cC hx1 hx1_source hx1_kinds hx1_froms hx1_marks hx1_ends hx1_parts hx1_others hx1_followers hx1_begins x1_size x1_depth x1_knot x1_stands x1_kinds a2 q1 hc _) (cwV 1 hts (gG_V mt_2_101 mt_2_102 mt_2_103 mt_1_5 mt_2_104) rfl rfl rfl (by decide +kernel) ⟨(show (1) + 1 ≤ 103 + (n + 1) by omega), (show 8 + (2 + 11) + (21) ≤ 2466 + 25 * (n + 1) by omega)⟩) (gpV hK hP hD [0, 4] rfl (by decide) (ci := 4) 0 rfl rfl) rfl rfl hl.1 rfl (lv_room (Nat.le_of_ble_eq_true rfl)) d_Scribe_writeStatement_2 ⟨Nat.zero_le _, Nat.zero_le _⟩) hK hP hD hS hA [0, 4] rfl (by decide) rfl rfl (fun H locs (hP : va_P D vwCl [(hx1, .inr (4, [.ref hx1_source, .ref hx1_kinds, .ref hx1_froms, .ref hx1_marks, .ref hx1_ends, .ref hx1_parts, .ref hx1_others, .ref hx1_followers, .ref hx1_begins, .int x1_size, .int x1_depth, .int x1_knot, .int x1_stands])), (hx1_source, .inr (2, [.ref hx1_source_ops, .ref hx1_source_numbers, .ref hx1_source_heights, .int x1_source_size])), (hx1_source_ops, .inl (cI, 30, .inl x1_source_ops)), (hx1_source_numbers, .inl (cI, 30, .inl x1_source_numbers)), (hx1_kinds, .inl (cI, 15, .inl x1_kinds)), (hx1_marks, .inl (cI, 15, .inl x1_marks)), (hx1_parts, .inl (cI, 15, .inl x1_parts)), (hx1_others, .inl (cI, 15, .inl x1_others)), (hx1_followers, .inl (cI, 15, .inl x1_followers)), (hx1_begins, .inl (cI, 30, .inl x1_begins)), (hx2, .inr (0, [.ref hx2_row, .int x2_size])), (hx2_row, .inl (cC, x2_R, .inl x2_row))] H) (hD : va_D A [(hx1, .inr (4, [.ref hx1_source, .ref hx1_kinds, .ref hx1_froms, .ref hx1_marks, .ref hx1_ends, .ref hx1_parts, .ref hx1_others, .ref hx1_followers, .ref hx1_begins, .int x1_size, .int x1_depth, .int x1_knot, .int x1_stands])), (hx1_source, .inr (2, [.ref hx1_source_ops, .ref hx1_source_numbers, .ref hx1_source_heights, .int x1_source_size])), (hx1_source_ops, .inl (cI, 30, .inl x1_source_ops)), (hx1_source_numbers, .inl (cI, 30, .inl x1_source_numbers)), (hx1_kinds, .inl (cI, 15, .inl x1_kinds)), (hx1_marks, .inl (cI, 15, .inl x1_marks)), (hx1_parts, .inl (cI, 15, .inl x1_parts)), (hx1_others, .inl (cI, 15, .inl x1_others)), (hx1_followers, .inl (cI, 15, .inl x1_followers)), (hx1_begins, .inl (cI, 30, .inl x1_begins)), (hx2, .inr (0, [.ref hx2_row, .int x2_size])), (hx2_row, .inl (cC, x2_R, .inl x2_row))]) hS => ?_)
  refine lv_istore (lv' := [(4, .int q1), (0, .ref hx1), (1, .ref hx2), (2, .int a2), (3, .int a3)]) hx hb d_Scribe_writeStatement_5 hl (by decide) rfl (fun ls hl => ?_)
  refine lv_aload_n hx hb d_Scribe_writeStatement_7 rfl (lv_at hl 1 rfl) ?_
  refine lv_iload_n hx hb d_Scribe_writeStatement_8 rfl (lv_at hl 3 rfl) ?_
  obtain ⟨q2, hc, h⟩ := g_bd h
  refine gk_i (va_runV (As := [.int a2]) (rest := []) ⟨hx, hb, hml, hown, hts⟩ (c_Tree_mark l D cI cC hx1 hx1_source hx1_kinds hx1_froms hx1_marks hx1_ends hx1_parts hx1_others hx1_followers hx1_begins x1_size x1_depth x1_knot x1_stands x1_marks a2 q2 hc _) (cwV 1 hts (gG_V mt_2_106 mt_2_107 mt_2_108 mt_1_5 mt_2_109) rfl rfl rfl (by decide +kernel) ⟨(show (1) + 1 ≤ 103 + (n + 1) by omega), (show 8 + (2 + 11) + (21) ≤ 2466 + 25 * (n + 1) by omega)⟩) (gpV hK hP hD [0, 5] rfl (by decide) (ci := 4) 0 rfl rfl) rfl rfl hl.1 rfl (lv_room (Nat.le_of_ble_eq_true rfl)) d_Scribe_writeStatement_9 ⟨Nat.zero_le _, Nat.zero_le _⟩) hK hP hD hS hA [0, 5] rfl (by decide) rfl rfl (fun H locs (hP : va_P D vwCl [(hx1, .inr (4, [.ref hx1_source, .ref hx1_kinds, .ref hx1_froms, .ref hx1_marks, .ref hx1_ends, .ref hx1_parts, .ref hx1_others, .ref hx1_followers, .ref hx1_begins, .int x1_size, .int x1_depth, .int x1_knot, .int x1_stands])), (hx1_source, .inr (2, [.ref hx1_source_ops, .ref hx1_source_numbers, .ref hx1_source_heights, .int x1_source_size])), (hx1_source_ops, .inl (cI, 30, .inl x1_source_ops)), (hx1_source_numbers, .inl (cI, 30, .inl x1_source_numbers)), (hx1_kinds, .inl (cI, 15, .inl x1_kinds)), (hx1_marks, .inl (cI, 15, .inl x1_marks)), (hx1_parts, .inl (cI, 15, .inl x1_parts)), (hx1_others, .inl (cI, 15, .inl x1_others)), (hx1_followers, .inl (cI, 15, .inl x1_followers)), (hx1_begins, .inl (cI, 30, .inl x1_begins)), (hx2, .inr (0, [.ref hx2_row, .int x2_size])), (hx2_row, .inl (cC, x2_R, .inl x2_row))] H) (hD : va_D A [(hx1, .inr (4, [.ref hx1_source, .ref hx1_kinds, .ref hx1_froms, .ref hx1_marks, .ref hx1_ends, .ref hx1_parts, .ref hx1_others, .ref hx1_followers, .ref hx1_begins, .int x1_size, .int x1_depth, .int x1_knot, .int x1_stands])), (hx1_source, .inr (2, [.ref hx1_source_ops, .ref hx1_source_numbers, .ref hx1_source_heights, .int x1_source_size])), (hx1_source_ops, .inl (cI, 30, .inl x1_source_ops)), (hx1_source_numbers, .inl (cI, 30, .inl x1_source_numbers)), (hx1_kinds, .inl (cI, 15, .inl x1_kinds)), (hx1_marks, .inl (cI, 15, .inl x1_marks)), (hx1_parts, .inl (cI, 15, .inl x1_parts)), (hx1_others, .inl (cI, 15, .inl x1_others)), (hx1_followers, .inl (cI, 15, .inl x1_followers)), (hx1_begins, .inl (cI, 30, .inl x1_begins)), (hx2, .inr (0, [.ref hx2_row, .int x2_size])), (hx2_row, .inl (cC, x2_R, .inl x2_row))]) hS => ?_)
  refine lv_istore (lv' := [(5, .int q2), (4, .int q1), (0, .ref hx1), (1, .ref hx2), (2, .int a2), (3, .int a3)]) hx hb d_Scribe_writeStatement_12 hl (by decide) rfl (fun ls hl => ?_)
  refine lv_iload hx hb d_Scribe_writeStatement_14 (lv_at hl 1 rfl) ?_
  refine lv_iconst (v := (2 : Int32)) hx hb d_Scribe_writeStatement_16 (by decide) ?_
  refine lv_icmp_ne (tgt := 37) hx hb d_Scribe_writeStatement_17 (by decide) (fun ec => ?_) (fun ec => ?_)
  · have h := g_f ec h
    exact J_37 _ _ _ _ _ _ h _ _ _ hP hD hS (lv_sub hl [2, 3, 4, 5, 1, 0] rfl)
  · have h := g_t ec h
    refine lv_aload_n hx hb d_Scribe_writeStatement_20 rfl (lv_at hl 3 rfl) ?_
    refine lv_bipush (v := (97 : Int32)) hx hb d_Scribe_writeStatement_21 (by decide) ?_
    refine lv_aload_n hx hb d_Scribe_writeStatement_23 rfl (lv_at hl 2 rfl) ?_
    refine gk_r (va_runV (As := []) (rest := [.int (97 : Int32), .ref hx2]) ⟨hx, hb, hml, hown, hts⟩ (c_Tree_source l D cI cC hx1 hx1_source hx1_kinds hx1_froms hx1_marks hx1_ends hx1_parts hx1_others hx1_followers hx1_begins x1_size x1_depth x1_knot x1_stands _) (cwV 0 hts (gG_V mt_2_110 mt_2_111 mt_2_112 mt_1_5 mt_2_113) rfl rfl rfl (by decide +kernel) ⟨(show (0) + 1 ≤ 103 + (n + 1) by omega), (show 8 + (1 + 11) + (0) ≤ 2466 + 25 * (n + 1) by omega)⟩) (gpV hK hP hD [0] rfl (by decide) (ci := 4) 0 rfl rfl) rfl rfl hl.1 rfl (lv_room (Nat.le_of_ble_eq_true rfl)) d_Scribe_writeStatement_24 ⟨Nat.zero_le _, Nat.zero_le _⟩) hK hP hD hS hA [0] rfl (by decide) rfl rfl (fun H locs (hP : va_P D vwCl [(hx1, .inr (4, [.ref hx1_source, .ref hx1_kinds, .ref hx1_froms, .ref hx1_marks, .ref hx1_ends, .ref hx1_parts, .ref hx1_others, .ref hx1_followers, .ref hx1_begins, .int x1_size, .int x1_depth, .int x1_knot, .int x1_stands])), (hx1_source, .inr (2, [.ref hx1_source_ops, .ref hx1_source_numbers, .ref hx1_source_heights, .int x1_source_size])), (hx1_source_ops, .inl (cI, 30, .inl x1_source_ops)), (hx1_source_numbers, .inl (cI, 30, .inl x1_source_numbers)), (hx1_kinds, .inl (cI, 15, .inl x1_kinds)), (hx1_marks, .inl (cI, 15, .inl x1_marks)), (hx1_parts, .inl (cI, 15, .inl x1_parts)), (hx1_others, .inl (cI, 15, .inl x1_others)), (hx1_followers, .inl (cI, 15, .inl x1_followers)), (hx1_begins, .inl (cI, 30, .inl x1_begins)), (hx2, .inr (0, [.ref hx2_row, .int x2_size])), (hx2_row, .inl (cC, x2_R, .inl x2_row))] H) (hD : va_D A [(hx1, .inr (4, [.ref hx1_source, .ref hx1_kinds, .ref hx1_froms, .ref hx1_marks, .ref hx1_ends, .ref hx1_parts, .ref hx1_others, .ref hx1_followers, .ref hx1_begins, .int x1_size, .int x1_depth, .int x1_knot, .int x1_stands])), (hx1_source, .inr (2, [.ref hx1_source_ops, .ref hx1_source_numbers, .ref hx1_source_heights, .int x1_source_size])), (hx1_source_ops, .inl (cI, 30, .inl x1_source_ops)), (hx1_source_numbers, .inl (cI, 30, .inl x1_source_numbers)), (hx1_kinds, .inl (cI, 15, .inl x1_kinds)), (hx1_marks, .inl (cI, 15, .inl x1_marks)), (hx1_parts, .inl (cI, 15, .inl x1_parts)), (hx1_others, .inl (cI, 15, .inl x1_others)), (hx1_followers, .inl (cI, 15, .inl x1_followers)), (hx1_begins, .inl (cI, 30, .inl x1_begins)), (hx2, .inr (0, [.ref hx2_row, .int x2_size])), (hx2_row, .inl (cC, x2_R, .inl x2_row))]) hS => ?_)
    refine lv_iload hx hb d_Scribe_writeStatement_27 (lv_at hl 0 rfl) ?_
    obtain ⟨q4, hc, h⟩ := g_bd h
    refine gk_i (va_runV (As := [.int q2]) (rest := [.int (97 : Int32), .ref hx2]) ⟨hx, hb, hml, hown, hts⟩ (c_Listing_number l D cI cC hx1_source hx1_source_ops hx1_source_numbers hx1_source_heights 30 x1_source_size x1_source_numbers q2 q4 hc _) (cwV 1 hts (gG_V mt_2_114 mt_1_237 mt_1_238 mt_1_2 mt_1_239) rfl rfl rfl (by decide +kernel) ⟨(show (1) + 1 ≤ 103 + (n + 1) by omega), (show 8 + (2 + 11) + (21) ≤ 2466 + 25 * (n + 1) by omega)⟩) (gpV hK hP hD [1, 3] rfl (by decide) (ci := 2) 1 rfl rfl) rfl rfl hl.1 rfl (lv_room (Nat.le_of_ble_eq_true rfl)) d_Scribe_writeStatement_29 ⟨Nat.zero_le _, Nat.zero_le _⟩) hK hP hD hS hA [1, 3] rfl (by decide) rfl rfl (fun H locs (hP : va_P D vwCl [(hx1, .inr (4, [.ref hx1_source, .ref hx1_kinds, .ref hx1_froms, .ref hx1_marks, .ref hx1_ends, .ref hx1_parts, .ref hx1_others, .ref hx1_followers, .ref hx1_begins, .int x1_size, .int x1_depth, .int x1_knot, .int x1_stands])), (hx1_source, .inr (2, [.ref hx1_source_ops, .ref hx1_source_numbers, .ref hx1_source_heights, .int x1_source_size])), (hx1_source_ops, .inl (cI, 30, .inl x1_source_ops)), (hx1_source_numbers, .inl (cI, 30, .inl x1_source_numbers)), (hx1_kinds, .inl (cI, 15, .inl x1_kinds)), (hx1_marks, .inl (cI, 15, .inl x1_marks)), (hx1_parts, .inl (cI, 15, .inl x1_parts)), (hx1_others, .inl (cI, 15, .inl x1_others)), (hx1_followers, .inl (cI, 15, .inl x1_followers)), (hx1_begins, .inl (cI, 30, .inl x1_begins)), (hx2, .inr (0, [.ref hx2_row, .int x2_size])), (hx2_row, .inl (cC, x2_R, .inl x2_row))] H) (hD : va_D A [(hx1, .inr (4, [.ref hx1_source, .ref hx1_kinds, .ref hx1_froms, .ref hx1_marks, .ref hx1_ends, .ref hx1_parts, .ref hx1_others, .ref hx1_followers, .ref hx1_begins, .int x1_size, .int x1_depth, .int x1_knot, .int x1_stands])), (hx1_source, .inr (2, [.ref hx1_source_ops, .ref hx1_source_numbers, .ref hx1_source_heights, .int x1_source_size])), (hx1_source_ops, .inl (cI, 30, .inl x1_source_ops)), (hx1_source_numbers, .inl (cI, 30, .inl x1_source_numbers)), (hx1_kinds, .inl (cI, 15, .inl x1_kinds)), (hx1_marks, .inl (cI, 15, .inl x1_marks)), (hx1_parts, .inl (cI, 15, .inl x1_parts)), (hx1_others, .inl (cI, 15, .inl x1_others)), (hx1_followers, .inl (cI, 15, .inl x1_followers)), (hx1_begins, .inl (cI, 30, .inl x1_begins)), (hx2, .inr (0, [.ref hx2_row, .int x2_size])), (hx2_row, .inl (cC, x2_R, .inl x2_row))]) hS => ?_)
    refine lv_iadd hx hb d_Scribe_writeStatement_32 ?_
    obtain ⟨q5, hc, h⟩ := g_bd h
    refine gk_i (va_runV (As := [.int ((97 : Int32) + q4)]) (rest := []) ⟨hx, hb, hml, hown, hts⟩ (c_Characters_add l D cI cC hx2 hx2_row x2_R x2_size x2_row ((97 : Int32) + q4) q5 hc _) (cwV 1 hts (gG_V mt_2_115 mt_2_116 mt_2_117 mt_1_4 mt_2_118) rfl rfl rfl (by decide +kernel) ⟨(show (0) + 1 ≤ 103 + (n + 1) by omega), (show 8 + (2 + 11) + (0) ≤ 2466 + 25 * (n + 1) by omega)⟩) (gpV hK hP hD [10, 11] rfl (by decide) (ci := 0) 10 rfl rfl) rfl rfl hl.1 rfl (lv_room (Nat.le_of_ble_eq_true rfl)) d_Scribe_writeStatement_33 ⟨Nat.zero_le _, Nat.zero_le _⟩) hK hP hD hS hA [10, 11] rfl (by decide) rfl rfl (fun H locs (hP : va_P D vwCl [(hx1, .inr (4, [.ref hx1_source, .ref hx1_kinds, .ref hx1_froms, .ref hx1_marks, .ref hx1_ends, .ref hx1_parts, .ref hx1_others, .ref hx1_followers, .ref hx1_begins, .int x1_size, .int x1_depth, .int x1_knot, .int x1_stands])), (hx1_source, .inr (2, [.ref hx1_source_ops, .ref hx1_source_numbers, .ref hx1_source_heights, .int x1_source_size])), (hx1_source_ops, .inl (cI, 30, .inl x1_source_ops)), (hx1_source_numbers, .inl (cI, 30, .inl x1_source_numbers)), (hx1_kinds, .inl (cI, 15, .inl x1_kinds)), (hx1_marks, .inl (cI, 15, .inl x1_marks)), (hx1_parts, .inl (cI, 15, .inl x1_parts)), (hx1_others, .inl (cI, 15, .inl x1_others)), (hx1_followers, .inl (cI, 15, .inl x1_followers)), (hx1_begins, .inl (cI, 30, .inl x1_begins)), (hx2, .inr (0, [.ref hx2_row, .int q5.2.2])), (hx2_row, .inl (cC, x2_R, .inl q5.2.1))] H) (hD : va_D A [(hx1, .inr (4, [.ref hx1_source, .ref hx1_kinds, .ref hx1_froms, .ref hx1_marks, .ref hx1_ends, .ref hx1_parts, .ref hx1_others, .ref hx1_followers, .ref hx1_begins, .int x1_size, .int x1_depth, .int x1_knot, .int x1_stands])), (hx1_source, .inr (2, [.ref hx1_source_ops, .ref hx1_source_numbers, .ref hx1_source_heights, .int x1_source_size])), (hx1_source_ops, .inl (cI, 30, .inl x1_source_ops)), (hx1_source_numbers, .inl (cI, 30, .inl x1_source_numbers)), (hx1_kinds, .inl (cI, 15, .inl x1_kinds)), (hx1_marks, .inl (cI, 15, .inl x1_marks)), (hx1_parts, .inl (cI, 15, .inl x1_parts)), (hx1_others, .inl (cI, 15, .inl x1_others)), (hx1_followers, .inl (cI, 15, .inl x1_followers)), (hx1_begins, .inl (cI, 30, .inl x1_begins)), (hx2, .inr (0, [.ref hx2_row, .int q5.2.2])), (hx2_row, .inl (cC, x2_R, .inl q5.2.1))]) hS => ?_)
    refine lv_pop hx hb d_Scribe_writeStatement_36 rfl ?_
    exact J_37 _ _ _ _ _ _ h _ _ _ hP hD hS (lv_sub hl [2, 3, 4, 5, 1, 0] rfl)
set_option maxHeartbeats 4000000 in
set_option maxRecDepth 100000 in
theorem cb_Scribe_writeBlock (l : Launch) (D : va_G) (cI cC : ClassId) (f_Scribe_writeFrom : Nat → (Nat → Int32) → (Nat → Int32) → Int32 → (Nat → Int32) → (Nat → Int32) → (Nat → Int32) → (Nat → Int32) → (Nat → Int32) → (Nat → Int32) → Int32 → (Nat → Int32) → Int32 → Int32 → Int32 → Option ((Nat → Int32) × Int32)) (n : Nat) (H_Scribe_writeFrom : K_Scribe_writeFrom l D cI cC f_Scribe_writeFrom n) : K_Scribe_writeBlock l D cI cC (gb_Scribe_writeBlock f_Scribe_writeFrom) (n + 1) := by
  intro hx1 hx2 hx1_source hx1_kinds hx1_froms hx1_marks hx1_ends hx1_parts hx1_others hx1_followers hx1_begins hx1_source_ops hx1_source_numbers hx1_source_heights hx2_row x2_R x1_size x1_depth x1_knot x1_stands x1_source_size x1_source_ops x1_source_numbers x1_kinds x1_marks x1_parts x1_others x1_followers x1_begins x2_size x2_row a2 a3 q h sz
  refine Met.ofW (cc := k_Scribe_writeBlock) (maxL := 4) (ret := none) (by decide) rfl ?_
  intro p e s m args below meth c s₁ B hml hv
  obtain ⟨rfl, hsz, hP, hK, hD0⟩ := hv
  have hx := B.exec
  have hb := B.bytes
  have hr := B.returns
  have hts : ∀ w ∈ lw_t, w.before ([.ref hx1, .ref hx2, .int a2, .int a3] : List Value).toArray s = true := fun w h => atoms_spec (ws := w_Scribe_writeBlock) B.pre w (List.mem_cons_of_mem _ h)
  have hown : s.vm.findClass R_Scribe = some m.cls := findClass_of_methodNamed B.named
  have hlocks := B.notSynchronized
  subst hsz
  have hD := hD0.self (sz := s.heap.size)
  generalize hAe : va_A [(hx1, .inr (4, [.ref hx1_source, .ref hx1_kinds, .ref hx1_froms, .ref hx1_marks, .ref hx1_ends, .ref hx1_parts, .ref hx1_others, .ref hx1_followers, .ref hx1_begins, .int x1_size, .int x1_depth, .int x1_knot, .int x1_stands])), (hx1_source, .inr (2, [.ref hx1_source_ops, .ref hx1_source_numbers, .ref hx1_source_heights, .int x1_source_size])), (hx1_source_ops, .inl (cI, 30, .inl x1_source_ops)), (hx1_source_numbers, .inl (cI, 30, .inl x1_source_numbers)), (hx1_kinds, .inl (cI, 15, .inl x1_kinds)), (hx1_marks, .inl (cI, 15, .inl x1_marks)), (hx1_parts, .inl (cI, 15, .inl x1_parts)), (hx1_others, .inl (cI, 15, .inl x1_others)), (hx1_followers, .inl (cI, 15, .inl x1_followers)), (hx1_begins, .inl (cI, 30, .inl x1_begins)), (hx2, .inr (0, [.ref hx2_row, .int x2_size])), (hx2_row, .inl (cC, x2_R, .inl x2_row))] s.heap.size = A at hD ⊢
  have hA : ∀ q : Nat, s.heap.size ≤ q → A q := fun q h => by rw [← hAe]; exact Or.inr h
  have hS : va_S A s.heap s.heap [] := va_S.rf
  have hP : va_P D vwCl [(hx1, .inr (4, [.ref hx1_source, .ref hx1_kinds, .ref hx1_froms, .ref hx1_marks, .ref hx1_ends, .ref hx1_parts, .ref hx1_others, .ref hx1_followers, .ref hx1_begins, .int x1_size, .int x1_depth, .int x1_knot, .int x1_stands])), (hx1_source, .inr (2, [.ref hx1_source_ops, .ref hx1_source_numbers, .ref hx1_source_heights, .int x1_source_size])), (hx1_source_ops, .inl (cI, 30, .inl x1_source_ops)), (hx1_source_numbers, .inl (cI, 30, .inl x1_source_numbers)), (hx1_kinds, .inl (cI, 15, .inl x1_kinds)), (hx1_marks, .inl (cI, 15, .inl x1_marks)), (hx1_parts, .inl (cI, 15, .inl x1_parts)), (hx1_others, .inl (cI, 15, .inl x1_others)), (hx1_followers, .inl (cI, 15, .inl x1_followers)), (hx1_begins, .inl (cI, 30, .inl x1_begins)), (hx2, .inr (0, [.ref hx2_row, .int x2_size])), (hx2_row, .inl (cC, x2_R, .inl x2_row))] s.heap := hP
  have hl := lv_entry ([.ref hx1, .ref hx2, .int a2, .int a3]) (n := 4) (Nat.le_of_ble_eq_true rfl)
  rw [lg_entry_eq]
  generalize (lg_sl ([.ref hx1, .ref hx2, .int a2, .int a3]) ++ List.replicate (4 - (lg_sl ([.ref hx1, .ref hx2, .int a2, .int a3])).length) Slot.unset).toArray = ls at hl ⊢
  have hl : lv_has ls 4 [(0, .ref hx1), (1, .ref hx2), (2, .int a2), (3, .int a3)] := hl
  unfold gb_Scribe_writeBlock at h
  refine lv_aload_n hx hb d_Scribe_writeBlock_0 rfl (lv_at hl 1 rfl) ?_
  refine lv_bipush (v := (123 : Int32)) hx hb d_Scribe_writeBlock_1 (by decide) ?_
  obtain ⟨q1, hc, h⟩ := g_bd h
  refine gk_i (va_runV (As := [.int (123 : Int32)]) (rest := []) ⟨hx, hb, hml, hown, hts⟩ (c_Characters_add l D cI cC hx2 hx2_row x2_R x2_size x2_row (123 : Int32) q1 hc _) (cwV 1 hts (gG_V mt_2_115 mt_2_116 mt_2_117 mt_1_4 mt_2_118) rfl rfl rfl (by decide +kernel) ⟨(show (0) + 1 ≤ 103 + (n + 1) by omega), (show 8 + (2 + 11) + (0) ≤ 2466 + 25 * (n + 1) by omega)⟩) (gpV hK hP hD [10, 11] rfl (by decide) (ci := 0) 10 rfl rfl) rfl rfl hl.1 rfl (lv_room (Nat.le_of_ble_eq_true rfl)) d_Scribe_writeBlock_3 ⟨Nat.zero_le _, Nat.zero_le _⟩) hK hP hD hS hA [10, 11] rfl (by decide) rfl rfl (fun H locs (hP : va_P D vwCl [(hx1, .inr (4, [.ref hx1_source, .ref hx1_kinds, .ref hx1_froms, .ref hx1_marks, .ref hx1_ends, .ref hx1_parts, .ref hx1_others, .ref hx1_followers, .ref hx1_begins, .int x1_size, .int x1_depth, .int x1_knot, .int x1_stands])), (hx1_source, .inr (2, [.ref hx1_source_ops, .ref hx1_source_numbers, .ref hx1_source_heights, .int x1_source_size])), (hx1_source_ops, .inl (cI, 30, .inl x1_source_ops)), (hx1_source_numbers, .inl (cI, 30, .inl x1_source_numbers)), (hx1_kinds, .inl (cI, 15, .inl x1_kinds)), (hx1_marks, .inl (cI, 15, .inl x1_marks)), (hx1_parts, .inl (cI, 15, .inl x1_parts)), (hx1_others, .inl (cI, 15, .inl x1_others)), (hx1_followers, .inl (cI, 15, .inl x1_followers)), (hx1_begins, .inl (cI, 30, .inl x1_begins)), (hx2, .inr (0, [.ref hx2_row, .int q1.2.2])), (hx2_row, .inl (cC, x2_R, .inl q1.2.1))] H) (hD : va_D A [(hx1, .inr (4, [.ref hx1_source, .ref hx1_kinds, .ref hx1_froms, .ref hx1_marks, .ref hx1_ends, .ref hx1_parts, .ref hx1_others, .ref hx1_followers, .ref hx1_begins, .int x1_size, .int x1_depth, .int x1_knot, .int x1_stands])), (hx1_source, .inr (2, [.ref hx1_source_ops, .ref hx1_source_numbers, .ref hx1_source_heights, .int x1_source_size])), (hx1_source_ops, .inl (cI, 30, .inl x1_source_ops)), (hx1_source_numbers, .inl (cI, 30, .inl x1_source_numbers)), (hx1_kinds, .inl (cI, 15, .inl x1_kinds)), (hx1_marks, .inl (cI, 15, .inl x1_marks)), (hx1_parts, .inl (cI, 15, .inl x1_parts)), (hx1_others, .inl (cI, 15, .inl x1_others)), (hx1_followers, .inl (cI, 15, .inl x1_followers)), (hx1_begins, .inl (cI, 30, .inl x1_begins)), (hx2, .inr (0, [.ref hx2_row, .int q1.2.2])), (hx2_row, .inl (cC, x2_R, .inl q1.2.1))]) hS => ?_)
  refine lv_pop hx hb d_Scribe_writeBlock_6 rfl ?_
  refine lv_aload_n hx hb d_Scribe_writeBlock_7 rfl (lv_at hl 0 rfl) ?_
  refine lv_aload_n hx hb d_Scribe_writeBlock_8 rfl (lv_at hl 1 rfl) ?_
  refine lv_iload_n hx hb d_Scribe_writeBlock_9 rfl (lv_at hl 2 rfl) ?_
  refine lv_iload_n hx hb d_Scribe_writeBlock_10 rfl (lv_at hl 3 rfl) ?_
  refine lv_iconst (v := (1 : Int32)) hx hb d_Scribe_writeBlock_11 (by decide) ?_
  refine lv_iadd hx hb d_Scribe_writeBlock_12 ?_
  obtain ⟨q2, hc, h⟩ := g_bd h
  refine gk_v (va_runS (As := [.ref hx1, .ref hx2, .int a2, .int (a3 + (1 : Int32))]) (rest := []) ⟨hx, hb, hml, hown, hts⟩ (H_Scribe_writeFrom hx1 hx2 hx1_source hx1_kinds hx1_froms hx1_marks hx1_ends hx1_parts hx1_others hx1_followers hx1_begins hx1_source_ops hx1_source_numbers hx1_source_heights hx2_row x2_R x1_size x1_depth x1_knot x1_stands x1_source_size x1_source_ops x1_source_numbers x1_kinds x1_marks x1_parts x1_others x1_followers x1_begins q1.2.2 q1.2.1 a2 (a3 + (1 : Int32)) q2 hc _) (va_cwS 4 hts (gG_S mt_2_91 mt_2_92 mt_1_10 mt_2_93) rfl rfl rfl (by decide +kernel) ⟨(show (103 + n) + 1 ≤ 103 + (n + 1) by omega), (show 8 + (6 + 11) + (2466 + 25 * n) ≤ 2466 + 25 * (n + 1) by omega)⟩) (gpS hK hP hD [0, 1, 2, 3, 4, 5, 6, 7, 8, 9, 10, 11] rfl (by decide)) rfl rfl hl.1 rfl (lv_room (Nat.le_of_ble_eq_true rfl)) d_Scribe_writeBlock_13 ⟨Nat.zero_le _, Nat.zero_le _⟩) hK hP hD hS hA [0, 1, 2, 3, 4, 5, 6, 7, 8, 9, 10, 11] rfl (by decide) rfl rfl (fun H locs (hP : va_P D vwCl [(hx1, .inr (4, [.ref hx1_source, .ref hx1_kinds, .ref hx1_froms, .ref hx1_marks, .ref hx1_ends, .ref hx1_parts, .ref hx1_others, .ref hx1_followers, .ref hx1_begins, .int x1_size, .int x1_depth, .int x1_knot, .int x1_stands])), (hx1_source, .inr (2, [.ref hx1_source_ops, .ref hx1_source_numbers, .ref hx1_source_heights, .int x1_source_size])), (hx1_source_ops, .inl (cI, 30, .inl x1_source_ops)), (hx1_source_numbers, .inl (cI, 30, .inl x1_source_numbers)), (hx1_kinds, .inl (cI, 15, .inl x1_kinds)), (hx1_marks, .inl (cI, 15, .inl x1_marks)), (hx1_parts, .inl (cI, 15, .inl x1_parts)), (hx1_others, .inl (cI, 15, .inl x1_others)), (hx1_followers, .inl (cI, 15, .inl x1_followers)), (hx1_begins, .inl (cI, 30, .inl x1_begins)), (hx2, .inr (0, [.ref hx2_row, .int q2.2])), (hx2_row, .inl (cC, x2_R, .inl q2.1))] H) (hD : va_D A [(hx1, .inr (4, [.ref hx1_source, .ref hx1_kinds, .ref hx1_froms, .ref hx1_marks, .ref hx1_ends, .ref hx1_parts, .ref hx1_others, .ref hx1_followers, .ref hx1_begins, .int x1_size, .int x1_depth, .int x1_knot, .int x1_stands])), (hx1_source, .inr (2, [.ref hx1_source_ops, .ref hx1_source_numbers, .ref hx1_source_heights, .int x1_source_size])), (hx1_source_ops, .inl (cI, 30, .inl x1_source_ops)), (hx1_source_numbers, .inl (cI, 30, .inl x1_source_numbers)), (hx1_kinds, .inl (cI, 15, .inl x1_kinds)), (hx1_marks, .inl (cI, 15, .inl x1_marks)), (hx1_parts, .inl (cI, 15, .inl x1_parts)), (hx1_others, .inl (cI, 15, .inl x1_others)), (hx1_followers, .inl (cI, 15, .inl x1_followers)), (hx1_begins, .inl (cI, 30, .inl x1_begins)), (hx2, .inr (0, [.ref hx2_row, .int q2.2])), (hx2_row, .inl (cC, x2_R, .inl q2.1))]) hS => ?_)
  refine lv_aload_n hx hb d_Scribe_writeBlock_16 rfl (lv_at hl 1 rfl) ?_
  refine lv_bipush (v := (125 : Int32)) hx hb d_Scribe_writeBlock_17 (by decide) ?_
  obtain ⟨q3, hc, h⟩ := g_bd h
  refine gk_i (va_runV (As := [.int (125 : Int32)]) (rest := []) ⟨hx, hb, hml, hown, hts⟩ (c_Characters_add l D cI cC hx2 hx2_row x2_R q2.2 q2.1 (125 : Int32) q3 hc _) (cwV 1 hts (gG_V mt_2_115 mt_2_116 mt_2_117 mt_1_4 mt_2_118) rfl rfl rfl (by decide +kernel) ⟨(show (0) + 1 ≤ 103 + (n + 1) by omega), (show 8 + (2 + 11) + (0) ≤ 2466 + 25 * (n + 1) by omega)⟩) (gpV hK hP hD [10, 11] rfl (by decide) (ci := 0) 10 rfl rfl) rfl rfl hl.1 rfl (lv_room (Nat.le_of_ble_eq_true rfl)) d_Scribe_writeBlock_19 ⟨Nat.zero_le _, Nat.zero_le _⟩) hK hP hD hS hA [10, 11] rfl (by decide) rfl rfl (fun H locs (hP : va_P D vwCl [(hx1, .inr (4, [.ref hx1_source, .ref hx1_kinds, .ref hx1_froms, .ref hx1_marks, .ref hx1_ends, .ref hx1_parts, .ref hx1_others, .ref hx1_followers, .ref hx1_begins, .int x1_size, .int x1_depth, .int x1_knot, .int x1_stands])), (hx1_source, .inr (2, [.ref hx1_source_ops, .ref hx1_source_numbers, .ref hx1_source_heights, .int x1_source_size])), (hx1_source_ops, .inl (cI, 30, .inl x1_source_ops)), (hx1_source_numbers, .inl (cI, 30, .inl x1_source_numbers)), (hx1_kinds, .inl (cI, 15, .inl x1_kinds)), (hx1_marks, .inl (cI, 15, .inl x1_marks)), (hx1_parts, .inl (cI, 15, .inl x1_parts)), (hx1_others, .inl (cI, 15, .inl x1_others)), (hx1_followers, .inl (cI, 15, .inl x1_followers)), (hx1_begins, .inl (cI, 30, .inl x1_begins)), (hx2, .inr (0, [.ref hx2_row, .int q3.2.2])), (hx2_row, .inl (cC, x2_R, .inl q3.2.1))] H) (hD : va_D A [(hx1, .inr (4, [.ref hx1_source, .ref hx1_kinds, .ref hx1_froms, .ref hx1_marks, .ref hx1_ends, .ref hx1_parts, .ref hx1_others, .ref hx1_followers, .ref hx1_begins, .int x1_size, .int x1_depth, .int x1_knot, .int x1_stands])), (hx1_source, .inr (2, [.ref hx1_source_ops, .ref hx1_source_numbers, .ref hx1_source_heights, .int x1_source_size])), (hx1_source_ops, .inl (cI, 30, .inl x1_source_ops)), (hx1_source_numbers, .inl (cI, 30, .inl x1_source_numbers)), (hx1_kinds, .inl (cI, 15, .inl x1_kinds)), (hx1_marks, .inl (cI, 15, .inl x1_marks)), (hx1_parts, .inl (cI, 15, .inl x1_parts)), (hx1_others, .inl (cI, 15, .inl x1_others)), (hx1_followers, .inl (cI, 15, .inl x1_followers)), (hx1_begins, .inl (cI, 30, .inl x1_begins)), (hx2, .inr (0, [.ref hx2_row, .int q3.2.2])), (hx2_row, .inl (cC, x2_R, .inl q3.2.1))]) hS => ?_)
  refine lv_pop hx hb d_Scribe_writeBlock_22 rfl ?_
  cases h
  exact gr_v hx hb hr hlocks hK hP hD hS d_Scribe_writeBlock_23
theorem cg_Scribe_writeFrom (l : Launch) (D : va_G) (cI cC : ClassId) : ∀ n : Nat, K_Scribe_writeFrom l D cI cC (g_Scribe_writeFrom n) n ∧ K_Scribe_writeStatement l D cI cC (g_Scribe_writeStatement n) n ∧ K_Scribe_writeBlock l D cI cC (g_Scribe_writeBlock n) n := by
  intro n
  induction n with
  | zero => exact ⟨fun _ _ _ _ _ _ _ _ _ _ _ _ _ _ _ _ _ _ _ _ _ _ _ _ _ _ _ _ _ _ _ _ _ _ h => g_no h, fun _ _ _ _ _ _ _ _ _ _ _ _ _ _ _ _ _ _ _ _ _ _ _ _ _ _ _ _ _ _ _ _ _ _ h => g_no h, fun _ _ _ _ _ _ _ _ _ _ _ _ _ _ _ _ _ _ _ _ _ _ _ _ _ _ _ _ _ _ _ _ _ _ h => g_no h⟩
  | succ n ih => exact ⟨cb_Scribe_writeFrom l D cI cC _ n ih.2.1, cb_Scribe_writeStatement l D cI cC _ n ih.2.2, cb_Scribe_writeBlock l D cI cC _ n ih.1⟩
theorem c_Scribe_writeFrom (l : Launch) (D : va_G) (cI cC : ClassId) (n : Nat) : K_Scribe_writeFrom l D cI cC (g_Scribe_writeFrom n) n := (cg_Scribe_writeFrom l D cI cC n).1
theorem c_Scribe_writeStatement (l : Launch) (D : va_G) (cI cC : ClassId) (n : Nat) : K_Scribe_writeStatement l D cI cC (g_Scribe_writeStatement n) n := (cg_Scribe_writeFrom l D cI cC n).2.1
theorem c_Scribe_writeBlock (l : Launch) (D : va_G) (cI cC : ClassId) (n : Nat) : K_Scribe_writeBlock l D cI cC (g_Scribe_writeBlock n) n := (cg_Scribe_writeFrom l D cI cC n).2.2
